/-! THE CLASS's OBJECTS as one function: kind, number, place. D: addresses by kind and number, the way back, the rest of the heap, the rows of longs -/
abbrev kS : Type := Nat → Nat → Nat → Int32
abbrev kD : Type := (Nat → Nat → Nat) × (Nat → Option (Nat × Nat)) × xH × (Nat → Nat → Int64)
def zn (ix : Nat) : Nat := if 2 ≤ ix ∧ ix % 2 = 1 then 5 else 4
theorem zn_le (ix : Nat) : zn ix ≤ 5 ∧ 4 ≤ zn ix := by unfold zn; split <;> omega
theorem zn_e (j : Nat) : zn (2 * j + 2) = 4 := by unfold zn; rw [if_neg (by omega)]
theorem zn_o (j : Nat) : zn (2 * j + 3) = 5 := by unfold zn; rw [if_pos (by omega)]
def rfA (k n : Nat) (f : Nat → Option Nat) : xE := .inl (k, n, .inr (.inr (.inr (.inr f))))
def inA (n : Nat) (f : Nat → Int32) : xE := .inl (0, n, .inl f)
def heA (A : Nat → Nat → Nat) (κ : kS) (ix : Nat) : xE := if κ 22 ix 8 = 1 then .inr (7, [.int (κ 22 ix 0), .int (κ 22 ix 1), .int (κ 22 ix 2), .int (κ 22 ix 3), .ref (A 23 ix), .ref (A 24 ix), .int (κ 22 ix 6)]) else if κ 22 ix 8 = 2 then .inr (6, [.ref (A 23 ix), .ref (A 24 ix), .int (κ 22 ix 2)]) else if κ 22 ix 8 = 3 then .inr (8, [.ref (A 23 ix)]) else .inr (9, [.ref (A 23 ix)])
def heB (κ : kS) (l : Nat → Nat → Int64) (ix : Nat) : xE := if κ 22 ix 8 = 1 then inA 3 (κ 23 ix) else if κ 22 ix 8 = 2 then inA 2 (κ 23 ix) else if κ 22 ix 8 = 3 then .inl (3, N (κ 22 ix 0), .inl (κ 23 ix)) else .inl (1, N (κ 22 ix 0), .inr (.inl (l ix)))
def kcl (D : kD) (κ : kS) (kd ix : Nat) : Option xE := match kd with
  | 0 => some (.inr (4, [.ref (D.1 1 0), .ref (D.1 6 1), .ref (D.1 8 0), .ref (D.1 9 0)]))
  | 1 => some (.inr (3, [.ref (D.1 2 0), .int (κ 1 ix 1), .ref (D.1 3 0), .int (κ 1 ix 3), .int (κ 1 ix 4), .int (κ 1 ix 5), .int (κ 1 ix 6), .int (κ 1 ix 7), .int (κ 1 ix 8), .ref (D.1 4 0), .ref (D.1 5 0), .ref (D.1 6 0)]))
  | 2 => some (rfA 6 3 (fun m => if m < N (κ 1 0 1) then some (D.1 10 m) else none))
  | 3 => some (rfA 7 200 (fun k => if k < N (κ 3 ix 0) then some (D.1 19 k) else none))
  | 4 => some (inA 4 (κ 4 ix))
  | 5 => some (inA 3 (κ 5 ix))
  | 6 => some (.inr (1, [.int (J (zn ix)), .ref (D.1 7 ix), .int (κ 6 ix 2)]))
  | 7 => some (inA (zn ix * zn ix) (κ 7 ix))
  | 8 => some (inA 4 (κ 8 ix))
  | 9 => some (rfA 8 8 (fun d => if κ 9 0 d = 0 then none else some (D.1 22 (N (κ 9 1 d)))))
  | 10 => some (.inr (5, [.ref (D.1 11 ix), .ref (D.1 12 ix), .int (κ 10 ix 2), .int (κ 10 ix 3)]))
  | 11 => some (rfA 4 6 (fun p => if p < N (κ 10 ix 2) then some (D.1 13 (6 * ix + p)) else none))
  | 12 => some (rfA 5 12 (fun w => if w < N (κ 10 ix 3) then some (D.1 16 (12 * ix + w)) else none))
  | 13 => some (.inr (6, [.ref (D.1 14 ix), .ref (D.1 15 ix), .int (κ 13 ix 2)]))
  | 14 => some (inA 2 (κ 14 ix))
  | 15 => some (inA 2 (κ 15 ix))
  | 16 => some (.inr (7, [.int (κ 16 ix 0), .int (κ 16 ix 1), .int (κ 16 ix 2), .int (κ 16 ix 3), .ref (D.1 17 ix), .ref (D.1 18 ix), .int (κ 16 ix 6)]))
  | 17 => some (inA 3 (κ 17 ix))
  | 18 => some (inA 3 (κ 18 ix))
  | 19 => some (.inr (2, [.int (κ 19 ix 0), .ref (D.1 20 ix), .ref (D.1 21 ix), .ref (D.1 6 (2 * ix + 2)), .ref (D.1 6 (2 * ix + 3)), .int (κ 19 ix 5), .int (κ 19 ix 6), .int (κ 19 ix 7), .int (κ 19 ix 8), .int (κ 19 ix 9), .int (κ 19 ix 10), .int (κ 19 ix 11)]))
  | 20 => some (inA 3 (κ 20 ix))
  | 21 => some (inA 4 (κ 21 ix))
  | 22 => some (heA D.1 κ ix)
  | 23 => some (heB κ D.2.2.2 ix)
  | 24 => some (if κ 22 ix 8 = 1 then inA 3 (κ 24 ix) else inA 2 (κ 24 ix))
  | _ => D.2.2.1 ix
def rn (D : kD) (κ : kS) : xH := fun a => match D.2.1 a with
  | some i => kcl D κ i.1 i.2
  | none => D.2.2.1 a
/-- the place of a kind and number is its own -/
abbrev kI (D : kD) (kd ix : Nat) : Prop := D.2.1 (D.1 kd ix) = some (kd, ix)
theorem rn_at {D : kD} {κ : kS} {kd ix : Nat} (h : kI D kd ix) : rn D κ (D.1 kd ix) = kcl D κ kd ix := by
  unfold rn
  rw [h]
theorem kI_ne {D : kD} {kd ix kd' ix' : Nat} (h : kI D kd ix) (h' : kI D kd' ix') (hn : ¬ (kd = kd' ∧ ix = ix')) : D.1 kd ix ≠ D.1 kd' ix' := by
  intro e
  unfold kI at h h'
  rw [e, h'] at h
  cases h
  exact hn ⟨rfl, rfl⟩
/-- what the cells of other kinds read of a state -/
def kxd (κ κ' : kS) : Prop := κ' 1 0 1 = κ 1 0 1 ∧ κ' 9 = κ 9 ∧ (∀ m, κ' 10 m = κ 10 m) ∧ ∀ d, κ' 22 d = κ 22 d
theorem kcl_cg {D : kD} {κ κ' : kS} {k i : Nat} (h : κ' k i = κ k i) (x : kxd κ κ') : kcl D κ' k i = kcl D κ k i := by
  obtain ⟨h1, h9, h10, h22⟩ := x
  unfold kcl heA heB
  split <;> simp only [h, h1, h9, h10, h22]
/-- the way back leads nowhere else -/
def WD (D : kD) : Prop := ∀ a i, D.2.1 a = some i → D.1 i.1 i.2 = a
theorem rn_put {D : kD} {κ κ' : kS} {kd ix : Nat} {e : xE} (hD : WD D) (hI : kI D kd ix) (he : kcl D κ' kd ix = some e) (hk : ∀ k i, ¬ (k = kd ∧ i = ix) → κ' k i = κ k i) (x : kxd κ κ') : xup (rn D κ) (D.1 kd ix) e = rn D κ' := by
  funext a
  unfold xup
  by_cases ha : a = D.1 kd ix
  · rw [if_pos ha, ha, rn_at hI, he]
  · rw [if_neg ha]
    unfold rn
    cases hi : D.2.1 a with
    | none => rfl
    | some q =>
      dsimp only
      by_cases hq : q.1 = kd ∧ q.2 = ix
      · exact absurd (by rw [← hD a q hi, hq.1, hq.2]) ha
      · exact (kcl_cg (hk _ _ hq) x).symm
def kf (κ : kS) (a b : Nat) (f : Nat → Int32) : kS := fun x y => if x = a ∧ y = b then f else κ x y
abbrev ku (κ : kS) (a b c : Nat) (v : Int32) : kS := kf κ a b (fu (κ a b) c v)
theorem kf_e (κ : kS) (a b : Nat) (f : Nat → Int32) : kf κ a b f a b = f := by unfold kf; rw [if_pos ⟨rfl, rfl⟩]
theorem kf_n {κ : kS} {a b x y : Nat} {f : Nat → Int32} (h : ¬ (x = a ∧ y = b)) : kf κ a b f x y = κ x y := by unfold kf; rw [if_neg h]
theorem kf_k {κ : kS} {a b x y : Nat} {f : Nat → Int32} (h : x ≠ a) : kf κ a b f x y = κ x y := kf_n (fun t => h t.1)
theorem kf_kf (κ : kS) (a b : Nat) (f g : Nat → Int32) : kf (kf κ a b f) a b g = kf κ a b g := by
  funext x y
  by_cases h : x = a ∧ y = b
  · rw [h.1, h.2, kf_e, kf_e]
  · rw [kf_n h, kf_n h, kf_n h]
theorem fu_e (f : Nat → Int32) (i : Nat) (v : Int32) : fu f i v i = v := by unfold fu; rw [if_pos rfl]
theorem fu_n {f : Nat → Int32} {i j : Nat} {v : Int32} (h : j ≠ i) : fu f i v j = f j := by unfold fu; rw [if_neg h]
theorem kxd_kf {κ : kS} {a b : Nat} {f : Nat → Int32} (h9 : a ≠ 9) (h10 : a ≠ 10) (h22 : a ≠ 22) (h1 : a = 1 → f 1 = κ 1 b 1) : kxd κ (kf κ a b f) := by
  refine ⟨?_, by funext y; exact kf_k (Ne.symm h9), fun m => kf_k (Ne.symm h10), fun d => kf_k (Ne.symm h22)⟩
  by_cases h : a = 1
  · by_cases hb : b = 0
    · rw [h, hb, kf_e, h1 h, hb]
    · rw [kf_n (fun t => hb t.2.symm)]
  · rw [kf_k (Ne.symm h)]
theorem kxd.tr {κ κ' κ'' : kS} (h : kxd κ κ') (g : kxd κ' κ'') : kxd κ κ'' := ⟨g.1.trans h.1, g.2.1.trans h.2.1, fun m => (g.2.2.1 m).trans (h.2.2.1 m), fun d => (g.2.2.2 d).trans (h.2.2.2 d)⟩
theorem kxd.rf (κ : kS) : kxd κ κ := ⟨rfl, rfl, fun _ => rfl, fun _ => rfl⟩
/-- a cell's new content -/
theorem rn_kf {D : kD} {κ : kS} {kd ix : Nat} {f : Nat → Int32} {e : xE} (hD : WD D) (hI : kI D kd ix) (he : kcl D (kf κ kd ix f) kd ix = some e) (h9 : kd ≠ 9) (h10 : kd ≠ 10) (h22 : kd ≠ 22) (h1 : kd = 1 → f 1 = κ 1 ix 1) : xup (rn D κ) (D.1 kd ix) e = rn D (kf κ kd ix f) := rn_put hD hI he (fun _ _ h => kf_n h) (kxd_kf h9 h10 h22 h1)
theorem rn_pf {D : kD} {κ : kS} {kd ix cn c : Nat} {v : Int32} {fs : List Value} (hD : WD D) (hI : kI D kd ix) (hL : kcl D κ kd ix = some (.inr (cn, fs))) (hc : c < fs.length) (he : kcl D (ku κ kd ix c v) kd ix = some (.inr (cn, fs.set c (.int v)))) (h9 : kd ≠ 9) (h10 : kd ≠ 10) (h22 : kd ≠ 22) (h1 : kd = 1 → c ≠ 1) : pf (rn D κ) (D.1 kd ix) cn c (.int v) = some (rn D (ku κ kd ix c v)) := by
  unfold pf
  rw [rn_at hI, hL]
  dsimp only
  rw [if_pos rfl, if_pos hc, rn_kf hD hI he h9 h10 h22 (fun t => by rw [fu_n (Ne.symm (h1 t)), t])]
theorem rn_pa {D : kD} {κ : kS} {kd ix n i : Nat} {v : Int32} (hD : WD D) (hI : kI D kd ix) (hL : ∀ μ : kS, kcl D μ kd ix = some (inA n (μ kd ix))) (hi : i < n) (hn : n < 1000) (h9 : kd ≠ 9) (h10 : kd ≠ 10) (h22 : kd ≠ 22) (h1 : kd ≠ 1) : pa (rn D κ) (D.1 kd ix) 0 (J i) v = some (rn D (ku κ kd ix i v)) := by
  unfold pa
  rw [rn_at hI, hL]
  unfold inA
  dsimp only
  rw [if_pos rfl, if_pos (xin_J hi (by omega)), J_nat (by omega)]
  congr 1
  refine rn_kf hD hI ?_ h9 h10 h22 (fun t => absurd t h1)
  rw [hL, kf_e]
  rfl
theorem rn_ai {D : kD} {κ : kS} {kd ix n i : Nat} (hI : kI D kd ix) (hL : ∀ μ : kS, kcl D μ kd ix = some (inA n (μ kd ix))) (hi : i < n) (hn : n < 1000) : ai (rn D κ) (D.1 kd ix) 0 (J i) = some (κ kd ix i) := by
  unfold ai
  rw [rn_at hI, hL]
  unfold inA
  dsimp only
  rw [if_pos rfl, if_pos (xin_J hi (by omega)), J_nat (by omega)]
theorem rn_al {D : kD} {κ : kS} {kd ix n : Nat} (hI : kI D kd ix) (hL : ∀ μ : kS, kcl D μ kd ix = some (inA n (μ kd ix))) : al (rn D κ) (D.1 kd ix) 0 = some (J n) := by
  unfold al
  rw [rn_at hI, hL]
  unfold inA
  dsimp only
  rw [if_pos rfl]
  rfl
theorem rn_aq {D : kD} {κ : kS} {kd ix n k i : Nat} {f : Nat → Option Nat} (hI : kI D kd ix) (hL : kcl D κ kd ix = some (rfA k n f)) (hi : i < n) (hn : n < 1000) : aq (rn D κ) (D.1 kd ix) k (J i) = some (f i) := by
  unfold aq
  rw [rn_at hI, hL]
  unfold rfA
  dsimp only
  rw [if_pos rfl, if_pos (xin_J hi (by omega)), J_nat (by omega)]
/-! zones -/
def kq (κ : kS) (ix : Nat) : zQ := (κ 7 ix, κ 6 ix 2)
def kz (κ : kS) (ix : Nat) (q : zQ) : kS := kf (kf κ 7 ix q.1) 6 ix (fu (κ 6 ix) 2 q.2)
theorem kz_n {κ : kS} {ix x y : Nat} {q : zQ} (h : y ≠ ix) : kz κ ix q x y = κ x y := by
  unfold kz
  rw [kf_n (fun t => h t.2), kf_n (fun t => h t.2)]
theorem kz_k {κ : kS} {ix x y : Nat} {q : zQ} (h6 : x ≠ 6) (h7 : x ≠ 7) : kz κ ix q x y = κ x y := by
  unfold kz
  rw [kf_k h6, kf_k h7]
theorem kz_q (κ : kS) (ix : Nat) (q : zQ) : kq (kz κ ix q) ix = q := by
  unfold kq kz
  rw [kf_n (show ¬ (7 = 6 ∧ ix = ix) by omega), kf_e, kf_e, fu_e]
theorem kz_qn {κ : kS} {ix iy : Nat} {q : zQ} (h : iy ≠ ix) : kq (kz κ ix q) iy = kq κ iy := by
  unfold kq
  rw [kz_n h, kz_n h]
theorem kz_kz (κ : kS) (ix : Nat) (q r : zQ) : kz (kz κ ix q) ix r = kz κ ix r := by
  funext x y
  by_cases hy : y = ix
  · subst hy
    by_cases h6 : x = 6
    · subst h6
      funext z
      unfold kz
      rw [kf_e, kf_e, kf_e]
      by_cases hz : z = 2
      · rw [hz, fu_e, fu_e]
      · rw [fu_n hz, fu_n hz, fu_n hz]
    · by_cases h7 : x = 7
      · subst h7
        unfold kz
        rw [kf_k (by decide), kf_e, kf_k (by decide), kf_e]
      · rw [kz_k h6 h7, kz_k h6 h7, kz_k h6 h7]
  · rw [kz_n hy, kz_n hy, kz_n hy]
theorem kz_id (κ : kS) (ix : Nat) : kz κ ix (kq κ ix) = κ := by
  funext x y
  by_cases hy : y = ix
  · subst hy
    by_cases h6 : x = 6
    · subst h6
      funext z
      unfold kz kq
      rw [kf_e]
      by_cases hz : z = 2
      · rw [hz, fu_e]
      · rw [fu_n hz]
    · by_cases h7 : x = 7
      · subst h7
        unfold kz kq
        rw [kf_k (by decide), kf_e]
      · rw [kz_k h6 h7]
  · rw [kz_n hy]
theorem kxd_kz (κ : kS) (ix : Nat) (q : zQ) : kxd κ (kz κ ix q) := ⟨by rw [kz_k (by decide) (by decide)], by funext y; exact kz_k (by decide) (by decide), fun m => kz_k (by decide) (by decide), fun d => kz_k (by decide) (by decide)⟩
section CR
variable {D : kD} {κ : kS} {ix : Nat}
theorem rn_zoA (h6 : kI D 6 ix) (h7 : kI D 7 ix) : zoA (rn D κ) (D.1 6 ix) (D.1 7 ix) (zn ix) (κ 7 ix) (κ 6 ix 2) := ⟨kI_ne h6 h7 (by omega), rn_at h6, rn_at h7⟩
theorem rn_hz (hD : WD D) (h6 : kI D 6 ix) (h7 : kI D 7 ix) (q : zQ) : hz (rn D κ) (D.1 6 ix) (D.1 7 ix) (zn ix) q.1 q.2 = rn D (kz κ ix q) := by
  have hn := kI_ne h6 h7 (by omega)
  have e1 : xup (rn D κ) (D.1 7 ix) (inA (zn ix * zn ix) q.1) = rn D (kf κ 7 ix q.1) := rn_kf hD h7 (by simp only [kcl, kf_e]) (by decide) (by decide) (by decide) (fun t => absurd t (by decide))
  have e2 : xup (rn D (kf κ 7 ix q.1)) (D.1 6 ix) (.inr (1, [.int (J (zn ix)), .ref (D.1 7 ix), .int q.2])) = rn D (kz κ ix q) := rn_kf hD h6 (by simp only [kcl, kf_e, fu_e]) (by decide) (by decide) (by decide) (fun t => absurd t (by decide))
  rw [← e2, ← e1]
  funext a
  unfold hz xup
  by_cases h1 : a = D.1 7 ix
  · rw [if_pos h1, if_neg (by rw [h1]; exact Ne.symm hn), if_pos h1]
    rfl
  · rw [if_neg h1]
    by_cases h2 : a = D.1 6 ix
    · rw [if_pos h2, if_pos h2]
    · rw [if_neg h2, if_neg h2, if_neg h1]
/-- a heap with its zone in sight -/
theorem rn_is (h6 : kI D 6 ix) (h7 : kI D 7 ix) : rn D κ = hz (rn D κ) (D.1 6 ix) (D.1 7 ix) (zn ix) (κ 7 ix) (κ 6 ix 2) := zoA_hz (rn_zoA h6 h7)
theorem zo_squeeze (hD : WD D) (h6 : kI D 6 ix) (h7 : kI D 7 ix) {i j : Nat} (hi : i < zn ix) (hj : j < zn ix) {w x4 x5 x6 : Int32} : Ev (fun k => Zo_squeeze_f k 0 (D.1 6 ix) (J i) (J j) w x4 x5 x6 (rn D κ)) (0, rn D (kz κ ix (csq (zn ix) i j w (kq κ ix)))) := by
  have e := squeeze_c (h := rn D κ) (f := κ 7 ix) (e := κ 6 ix 2) (kI_ne h6 h7 (by omega)) (zn_le ix).1 hi hj (w := w) (x4 := x4) (x5 := x5) (x6 := x6)
  rw [rn_hz hD h6 h7, ← rn_is h6 h7] at e
  exact e
theorem zo_elapse (hD : WD D) (h6 : kI D 6 ix) (h7 : kI D 7 ix) {x1 : Int32} : Ev (fun k => Zo_elapse_f k 0 (D.1 6 ix) x1 (rn D κ)) (0, rn D (kz κ ix (cel (zn ix) (κ 7 ix), κ 6 ix 2))) := by
  have e := elapse_c (h := rn D κ) (f := κ 7 ix) (e := κ 6 ix 2) (kI_ne h6 h7 (by omega)) (zn_le ix).1 (by have := (zn_le ix).2; omega) (x1 := x1)
  rw [rn_hz hD h6 h7 (it (fun i f => fu f (i * zn ix) 1000000) 1 (zn ix - 1) (κ 7 ix), κ 6 ix 2), ← rn_is h6 h7] at e
  exact e
theorem zo_reset (hD : WD D) (h6 : kI D 6 ix) (h7 : kI D 7 ix) {c x2 x3 : Int32} : Ev (fun k => Zo_reset_f k 0 (D.1 6 ix) c x2 x3 (rn D κ)) (0, rn D (kz κ ix (crs (zn ix) c (κ 7 ix), κ 6 ix 2))) := by
  have e := reset_c (h := rn D κ) (f := κ 7 ix) (e := κ 6 ix 2) (kI_ne h6 h7 (by omega)) (zn_le ix).2 (zn_le ix).1 (c := c) (x2 := x2) (x3 := x3)
  rw [rn_hz hD h6 h7 (crs (zn ix) c (κ 7 ix), κ 6 ix 2), ← rn_is h6 h7] at e
  exact e
theorem zo_close (hD : WD D) (h6 : kI D 6 ix) (h7 : kI D 7 ix) {x1 x2 x3 : Int32} : Ev (fun k => Zo_close_f k 0 (D.1 6 ix) x1 x2 x3 (rn D κ)) (0, rn D (kz κ ix (ccl (zn ix) (kq κ ix)))) := by
  have e := close_c (h := rn D κ) (f := κ 7 ix) (e := κ 6 ix 2) (kI_ne h6 h7 (by omega)) (zn_le ix).1 (x1 := x1) (x2 := x2) (x3 := x3)
  rw [rn_hz hD h6 h7, ← rn_is h6 h7] at e
  exact e
theorem zo_zero (hD : WD D) (h6 : kI D 6 ix) (h7 : kI D 7 ix) : Ev (fun k => Zo_becomeAllZero_f k (D.1 6 ix) (rn D κ)) (0, rn D (kz κ ix (fun i => if i < zn ix * zn ix then 1 else κ 7 ix i, 0))) := by
  have e := allZero_c (h := rn D κ) (f := κ 7 ix) (e := κ 6 ix 2) (kI_ne h6 h7 (by omega)) (zn_le ix).1
  rw [rn_hz hD h6 h7 (fun i => if i < zn ix * zn ix then 1 else κ 7 ix i, 0), ← rn_is h6 h7] at e
  exact e
theorem zo_as (hD : WD D) (h6 : kI D 6 ix) (h7 : kI D 7 ix) {iy : Nat} (h6' : kI D 6 iy) (h7' : kI D 7 iy) (hn : zn iy = zn ix) (hy : iy ≠ ix) (he : κ 6 iy 2 = 0 ∨ κ 6 iy 2 = 1) (k : Nat) : Zo_becomeAs_f k (D.1 6 ix) (some (D.1 6 iy)) (rn D κ) = some (0, rn D (kz κ ix (fun i => if i < zn ix * zn ix then κ 7 iy i else κ 7 ix i, κ 6 iy 2))) := by
  have z2 : zoA (rn D κ) (D.1 6 iy) (D.1 7 iy) (zn ix) (κ 7 iy) (κ 6 iy 2) := by
    have := rn_zoA (κ := κ) h6' h7'
    rw [hn] at this
    exact this
  have e := becomeAs_c (h := rn D κ) (f := κ 7 ix) (e := κ 6 ix 2) (kI_ne h6 h7 (by omega)) (zn_le ix).1 z2 (kI_ne h6' h6 (by omega)) (kI_ne h6' h7 (by omega)) (kI_ne h7' h6 (by omega)) (kI_ne h7' h7 (by omega)) he k
  rw [rn_hz hD h6 h7 (fun i => if i < zn ix * zn ix then κ 7 iy i else κ 7 ix i, κ 6 iy 2), ← rn_is h6 h7] at e
  exact e
end CR

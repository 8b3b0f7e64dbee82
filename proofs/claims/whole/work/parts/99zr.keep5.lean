/-! keep, class and reference -/
section KP5
variable {D : kD} {κ : kS} {σ : mS} {τ : mL} {z : Nat}
def gWa (κ : kS) (i : Nat) : Nat → Int32 := fun k => if k = 8 then 1 else κ 16 i k
def gPl (κ : kS) (i : Nat) : Nat → Int32 := fun k => if k = 8 then 2 else κ 13 i k
theorem keep_tl {H : xH} {o a zo d c s ci : Nat} {f : Nat → Option Nat} {fs : List Value} (hO : gq H o 4 3 = some (some a)) (h9 : H a = some (rfA 8 8 f)) (hz : H zo = some (.inr (ci, fs))) (hci : ci = 6 ∨ ci = 7 ∨ ci = 8 ∨ ci = 9) (hd : d < 8) : Ev (fun _ : Nat => oadd c s (bnd (some zo) (fun w7 => oel (w7) (some (((-1) : Int32), H, 0, 0)) (fun a9 => obd (gq H (o) 4 3) (fun w11 => obd w11 (fun a16 => (if kc H (a9) 6 = true then obd (pq H (a16) 8 (J d) (a9) 6) (fun h18 => some ((0 : Int32), h18, 0, 0)) else (if kc H (a9) 7 = true then obd (pq H (a16) 8 (J d) (a9) 7) (fun h28 => some ((0 : Int32), h28, 0, 0)) else (if kc H (a9) 8 = true then obd (pq H (a16) 8 (J d) (a9) 8) (fun h38 => some ((0 : Int32), h38, 0, 0)) else (if kc H (a9) 9 = true then obd (pq H (a16) 8 (J d) (a9) 9) (fun h48 => some ((0 : Int32), h48, 0, 0)) else none)))))))))) (0, xup H a (rfA 8 8 (va_up f d (some zo))), c, s) := by
  refine Ev.oa0 (Ev.bn (Ev.oeS (Ev.ob (Ev.cn hO) (Ev.obs ?_))))
  rcases hci with rfl | rfl | rfl | rfl
  · exact Ev.pos (by rw [kc_of hz]; decide) (Ev.ob (Ev.cn (pq_of h9 hd (by decide) (by rw [kc_of hz]; decide))) Ev.ret)
  · exact Ev.neg (by rw [kc_of hz]; decide) (Ev.pos (by rw [kc_of hz]; decide) (Ev.ob (Ev.cn (pq_of h9 hd (by decide) (by rw [kc_of hz]; decide))) Ev.ret))
  · exact Ev.neg (by rw [kc_of hz]; decide) (Ev.neg (by rw [kc_of hz]; decide) (Ev.pos (by rw [kc_of hz]; decide) (Ev.ob (Ev.cn (pq_of h9 hd (by decide) (by rw [kc_of hz]; decide))) Ev.ret)))
  · exact Ev.neg (by rw [kc_of hz]; decide) (Ev.neg (by rw [kc_of hz]; decide) (Ev.neg (by rw [kc_of hz]; decide) (Ev.pos (by rw [kc_of hz]; decide) (Ev.ob (Ev.cn (pq_of h9 hd (by decide) (by rw [kc_of hz]; decide))) Ev.ret))))
/-- a new row lies on shelf d -/
theorem row_fin (h : YW D κ σ) (hF : FZ D κ z) (S : SH D κ σ τ) (hn : N (κ 9 2 0) < 100000) {kd : Int32} (hkd : kd = 3 ∨ kd = 4) {k d : Nat} (hk : k ≤ 60) (hd : d < 8) {f0 : Nat → Int32} {l0 : Nat → Int64} {τ' : mL} (ht : ∀ e i, e ≠ d → i < 60 → τ' 50 (60 * e + i) = τ 50 (60 * e + i)) (h3 : kd = 3 → ∀ i, i < k → Int32.toInt64 (f0 i) = τ' 50 (60 * d + i) ∧ 0 ≤ (f0 i).toInt ∧ (f0 i).toInt ≤ 5) (h4 : kd = 4 → ∀ i, i < k → l0 i = τ' 50 (60 * d + i)) {f : Nat → Option (Int32 × xH × Nat × Nat)} {g : Nat → Option (Int32 × mS × mL)} (ef : Ev f (0, xup (xup (xup (rn D κ) z (if kd = 3 then .inl (3, k, .inl f0) else .inl (1, k, .inr (.inl l0)))) (z + 1) (if kd = 3 then (.inr (8, [.ref z]) : xE) else .inr (9, [.ref z]))) (D.1 9 0) (rfA 8 8 (va_up (fun e => if κ 9 0 e = 0 then none else some (D.1 22 (N (κ 9 1 e)))) d (some (z + 1)))), 2, k + 1)) (eg : Ev g (0, su (su (su σ 0 0 0) 46 d kd) 47 d (J k), τ')) : SCo D κ σ τ z f g := by
  obtain ⟨x, hx⟩ : ∃ x, N (κ 9 2 0) = x := ⟨_, rfl⟩
  have nk : N (J k) = k := J_nat (by omega)
  have nx : N (J x) = x := J_nat (by omega)
  have nx1 : N (J (x + 1)) = x + 1 := J_nat (by omega)
  have g8 : gRw kd k 8 = kd := rfl
  have g0 : gRw kd k 0 = J k := rfl
  have r22 : kR κ x (gRw kd k) f0 22 x = gRw kd k := by
    unfold kR
    rw [kf_k (by decide), kf_e]
  have r23 : kR κ x (gRw kd k) f0 23 x = f0 := by
    unfold kR
    rw [kf_e]
  have hA : heB (kR κ x (gRw kd k) f0) (dL D x l0).2.2.2 x = (if kd = 3 then .inl (3, k, .inl f0) else .inl (1, k, .inr (.inl l0))) := by
    have l0' : (dL D x l0).2.2.2 x = l0 := if_pos rfl
    unfold heB
    rw [r22, r23, g8, g0, nk, l0']
    rcases hkd with e | e <;> subst e <;> rfl
  obtain ⟨D', e1, yw, fz, dk, hl⟩ := hold_row (σ := σ) h hF hx (by omega) (Or.inl ⟨rfl, rfl⟩) hd (g := gRw kd k) (f := f0) (l := l0) (by rw [g8]; rcases hkd with e | e <;> subst e <;> decide) hA (eO := (if kd = 3 then (.inr (8, [.ref z]) : xE) else .inr (9, [.ref z]))) (by rw [g8])
  rw [e1] at ef
  have lts : ∀ e, κ 9 0 e ≠ 0 → N (κ 9 1 e) < x := fun e he => by have := hF.2.2 e he; omega
  have s46 : su (su (su σ 0 0 0) 46 d kd) 47 d (J k) 46 d = kd := by rw [su_n (by decide), su_e]
  have s47 : su (su (su σ 0 0 0) 46 d kd) 47 d (J k) 47 d = J k := su_e _ _ _ _
  have yq' : yq (su (su (su σ 0 0 0) 46 d kd) 47 d (J k)) σ := fun a b h1 h2 => by rw [su_n (by omega), su_n (by omega), su_n (by omega)]
  have q22 : k9 (kR κ x (gRw kd k) f0) (f9p κ d x) 22 x = gRw kd k := by rw [k9_n (by decide), r22]
  have q23 : k9 (kR κ x (gRw kd k) f0) (f9p κ d x) 23 x = f0 := by rw [k9_n (by decide), r23]
  have q0 : k9 (kR κ x (gRw kd k) f0) (f9p κ d x) 9 0 d = 1 := if_pos rfl
  have q1 : k9 (kR κ x (gRw kd k) f0) (f9p κ d x) 9 1 d = J x := if_pos rfl
  refine ⟨0, D', _, _, _, 2, k + 1, ef, eg, dk, YW_sst yw yq', fz, ?_, fun a b h9 h22 => ?_, fun s b h0 h46 => ?_, by omega, by omega, ?_⟩
  · refine SH_put S lts (by omega) (fun y hy => by rw [hl y, if_neg hy]) (fun s e h1 h2 hed => ?_) ht ?_
    · have c : ∀ (s2 : Nat) (v : Int32) (ρ : mS), su ρ s2 d v s e = ρ s e := fun s2 v ρ => by
        unfold su
        exact if_neg (fun t => hed t.2)
      rw [c, c, su_n (by omega)]
    · unfold SHd
      rw [q0, q1, nx]
      refine Or.inr ⟨by decide, Or.inr (Or.inr ?_)⟩
      rcases hkd with e | e
      · subst e
        refine Or.inl ⟨s46, by rw [q22]; rfl, by rw [q22, s47]; rfl, by rw [s47]; exact ⟨by rw [nk], by rw [nk]; exact hk⟩, fun i hi => ?_⟩
        rw [s47, nk] at hi
        rw [q23]
        exact h3 rfl i hi
      · subst e
        refine Or.inr ⟨s46, by rw [q22]; rfl, by rw [q22, s47]; rfl, by rw [s47]; exact ⟨by rw [nk], by rw [nk]; exact hk⟩, fun i hi => ?_⟩
        rw [s47, nk] at hi
        rw [hl x, if_pos rfl]
        exact h4 rfl i hi
  · rw [k9_n h9, kR_n (by omega) (by omega)]
  · rw [su_n (by omega), su_n (by omega), su_n h0]
  · have e2 : k9 (kR κ x (gRw kd k) f0) (f9p κ d x) 9 2 0 = J (x + 1) := rfl
    rw [e2, nx1, hx]
    omega
/-- a copy of a way or a place lies on shelf d -/
theorem h3_fin (h : YW D κ σ) (hF : FZ D κ z) (S : SH D κ σ τ) (hn : N (κ 9 2 0) < 100000) {d s0 : Nat} (hs0 : s0 ≤ 61) {g0 f0 f2 : Nat → Int32} (hg : g0 8 = 1 ∨ g0 8 = 2) {σ' : mS} (hyq : yq σ' σ) (hsf : sfs σ σ') (hs : ∀ s e, 46 ≤ s → s ≤ 49 → e ≠ d → σ' s e = σ s e) (new : (g0 8 = 1 ∧ σ' 46 d = 1 ∧ σ' 48 d = wWt (g0 2) (g0 6) ∧ σ' 49 d = wWd (g0 2)) ∨ (g0 8 = 2 ∧ σ' 46 d = 2 ∧ σ' 48 d = 3 + g0 2)) {f : Nat → Option (Int32 × xH × Nat × Nat)} {g : Nat → Option (Int32 × mS × mL)} (ef : Ev f (0, xup (xup (xup (xup (rn D κ) (z + 1) (eAr g0 f0)) (z + 1 + 1) (eAr g0 f2)) z (eOb g0 z)) (D.1 9 0) (rfA 8 8 (va_up (fun e => if κ 9 0 e = 0 then none else some (D.1 22 (N (κ 9 1 e)))) d (some z))), 3, s0)) (eg : Ev g (0, σ', τ)) : SCo D κ σ τ z f g := by
  obtain ⟨x, hx⟩ : ∃ x, N (κ 9 2 0) = x := ⟨_, rfl⟩
  have nx : N (J x) = x := J_nat (by omega)
  have nx1 : N (J (x + 1)) = x + 1 := J_nat (by omega)
  obtain ⟨D', e1, yw, fz, dk, hl⟩ := hold3 (σ := σ) (d := d) h hF hx (by omega) (g := g0) (f := f0) (f2 := f2) hg
  rw [e1] at ef
  have lts : ∀ e, κ 9 0 e ≠ 0 → N (κ 9 1 e) < x := fun e he => by have := hF.2.2 e he; omega
  have q22 : k9 (kH κ x g0 f0 f2) (f9p κ d x) 22 x = g0 := by
    rw [k9_n (by decide)]
    unfold kH
    rw [kf_k (by decide), kf_k (by decide), kf_e]
  have q0 : k9 (kH κ x g0 f0 f2) (f9p κ d x) 9 0 d = 1 := if_pos rfl
  have q1 : k9 (kH κ x g0 f0 f2) (f9p κ d x) 9 1 d = J x := if_pos rfl
  refine ⟨0, D', _, _, _, 3, s0, ef, eg, dk, YW_sst yw hyq, fz, ?_, fun a b h9 h22 => ?_, hsf, by omega, hs0, ?_⟩
  · refine SH_put3 S lts (by omega) hl hs (fun e i hed hi => rfl) ?_
    unfold SHd
    rw [q0, q1, nx]
    refine Or.inr ⟨by decide, ?_⟩
    rcases new with ⟨n1, n2, n3, n4⟩ | ⟨n1, n2, n3⟩
    · refine Or.inl ⟨n2, by rw [q22]; exact n1, ?_, ?_⟩
      · rw [q22]; exact n3
      · rw [q22]; exact n4
    · exact Or.inr (Or.inl ⟨n2, by rw [q22]; exact n1, by rw [q22]; exact n3⟩)
  · rw [k9_n h9, kH_n (by omega) (by omega) (by omega)]
  · have e2 : k9 (kH κ x g0 f0 f2) (f9p κ d x) 9 2 0 = J (x + 1) := rfl
    rw [e2, nx1, hx]
    omega
/-- shelf d becomes empty -/
theorem keep_no (h : YW D κ σ) (hF : FZ D κ z) (S : SH D κ σ τ) {d : Nat} (hd : d < 8) {f : Nat → Option (Int32 × xH × Nat × Nat)} {g : Nat → Option (Int32 × mS × mL)} (ef : Ev f (0, xup (rn D κ) (D.1 9 0) (rfA 8 8 (va_up (fun e => if κ 9 0 e = 0 then none else some (D.1 22 (N (κ 9 1 e)))) d none)), 0, 0)) (eg : Ev g (0, su (su (su σ 0 0 0) 46 d 0) 47 d 0, τ)) : SCo D κ σ τ z f g := by
  have k9i := h.1.2.1 9 (by decide) (by decide) (by decide)
  have p0 : ∀ e, f9n κ d 0 e = if e = d then 0 else κ 9 0 e := fun e => rfl
  have p1 : ∀ e, f9n κ d 1 e = κ 9 1 e := fun e => rfl
  have p2 : f9n κ d 2 0 = κ 9 2 0 := rfl
  rw [rn_9 (f := f9n κ d) h.1.1 hF k9i (fun e => by
    rw [p0, p1]
    unfold va_up
    by_cases g : e = d
    · rw [if_pos g, if_pos g, if_pos rfl]
    · rw [if_neg g, if_neg g])] at ef
  have sub : ∀ e, f9n κ d 0 e ≠ 0 → e ≠ d ∧ κ 9 0 e ≠ 0 := fun e he => by
    rw [p0] at he
    by_cases g : e = d
    · rw [if_pos g] at he; exact absurd rfl he
    · rw [if_neg g] at he; exact ⟨g, he⟩
  have lv : LV D (k9 κ (f9n κ d)) := LV_9 h.1 (fun e he hn => by
    rw [p1]
    exact h.1.2.2.2.2.2 e he (sub e hn).2)
  have yq' : yq (su (su (su σ 0 0 0) 46 d 0) 47 d 0) σ := fun a b h1 h2 => by rw [su_n (by omega), su_n (by omega), su_n (by omega)]
  refine ⟨0, D, _, _, _, 0, 0, ef, eg, ⟨fun _ _ i => ⟨rfl, i⟩, rfl⟩, YW_sst (YW_9 h lv) yq', FZ_9 hF (by rw [p2]; omega) (fun e he => by rw [p1, p2]; exact hF.2.2 e (sub e he).2), ?_, kfs_k9 κ _, fun s b h0 h46 => by rw [su_n (by omega), su_n (by omega), su_n h0], by omega, by omega, by rw [k9_e, p2]; omega⟩
  refine ⟨fun e he => ?_, fun a b ha hb hne h1 h2 => ?_⟩
  · have c : ∀ (s2 s : Nat) (v : Int32) (ρ : mS), e ≠ d → su ρ s2 d v s e = ρ s e := fun s2 s v ρ hed => by
      unfold su
      exact if_neg (fun t => hed t.2)
    unfold SHd
    rw [k9_e, k9_e, p0, p1]
    by_cases g : e = d
    · rw [if_pos g, g]
      exact Or.inl ⟨rfl, by rw [su_n (by decide), su_e]⟩
    · rw [if_neg g]
      have s := S.1 e he
      unfold SHd at s
      unfold shW shP shS shL at s ⊢
      have q : ∀ s, 46 ≤ s → su (su (su σ 0 0 0) 46 d 0) 47 d 0 s e = σ s e := fun s hs => by
        rw [c 47 s _ _ g, c 46 s _ _ g, su_n (by omega)]
      rw [q 46 (by omega), q 47 (by omega), q 48 (by omega), q 49 (by omega), k9_n (by decide), k9_n (by decide)]
      exact s
  · rw [k9_e] at h1 h2 ⊢
    rw [p1, p1]
    exact S.2 a b ha hb hne (sub a h1).2 (sub b h2).2
end KP5

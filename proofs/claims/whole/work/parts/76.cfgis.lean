/-! the class's GREATEST numbers are the reference's, unless nothing is LET GO -/
theorem it_add {S : Type} (b : Nat → S → S) : ∀ d1 d2 k s, it b k (d1 + d2) s = it b (k + d1) d2 (it b k d1 s) := by
  intro d1
  induction d1 with
  | zero => intro d2 k s; rw [Nat.zero_add]; rfl
  | succ d1 ih =>
    intro d2 k s
    rw [show d1 + 1 + d2 = (d1 + d2) + 1 by omega]
    show it b (k + 1) (d1 + d2) (b k s) = it b (k + (d1 + 1)) d2 (it b (k + 1) d1 (b k s))
    rw [ih, show k + 1 + d1 = k + (d1 + 1) by omega]
theorem it_nop {S : Type} {b : Nat → S → S} {lo : Nat} (h : ∀ k s, lo ≤ k → b k s = s) : ∀ d k s, lo ≤ k → it b k d s = s := by
  intro d
  induction d with
  | zero => intro k s _; rfl
  | succ d ih => intro k s hk; show it b (k + 1) d (b k s) = s; rw [h k s hk]; exact ih (k + 1) s (by omega)
theorem it_shift {S : Type} (g : Nat → S → S) (c : Nat) : ∀ d k s, it (fun w => g (c + w)) k d s = it g (c + k) d s := by
  intro d
  induction d with
  | zero => intro k s; rfl
  | succ d ih => intro k s; show it (fun w => g (c + w)) (k + 1) d (g (c + k) s) = it g (c + k + 1) d (g (c + k) s); rw [ih, Nat.add_assoc]
theorem it_if {S : Type} {b : Nat → S → S} {c n : Nat} (hc : c ≤ n) (s : S) : it (fun p T => if p < c then b p T else T) 0 n s = it b 0 c s := by
  have e : n = c + (n - c) := by omega
  rw [e, it_add, it_nop (lo := c) (fun k s hk => if_neg (by omega)) _ _ _ (by omega)]
  exact it_cg (hi := c) (fun k s hk => if_pos hk) c 0 s (by omega)
theorem it_3 {S : Type} (f : Nat → S → S) : ∀ d k s, it f (3 * k) (3 * d) s = it (fun w s => it f (3 * w) 3 s) k d s := by
  intro d
  induction d with
  | zero => intro k s; rfl
  | succ d ih =>
    intro k s
    rw [show 3 * (d + 1) = 3 + 3 * d by omega, it_add]
    show _ = it (fun w s => it f (3 * w) 3 s) (k + 1) d (it f (3 * k) 3 s)
    rw [← ih, show 3 * k + 3 = 3 * (k + 1) by omega]
def gR (T : gT) (S : gS) : Prop := T.2 = S.2 ∧ (S.2 = 0 ∨ S.2 = 1) ∧ (¬ S.2 = 0 → ∀ b, b < 4 → T.1 b = S.1 b)
theorem gR_h {T : gT} {S : gS} (h : gR T S) {c : Nat} {m r : Int32} (hc : c < 4) (hr : r = fab (m >>> ((1 : Int32) &&& 31))) : gR (hT c m T) (fu S.1 c (mx r (S.1 c)), S.2) := by
  refine ⟨h.1, h.2.1, fun t b hb => ?_⟩
  have e := h.2.2 t
  show fu T.1 c (mx (fab (m >>> ((1 : Int32) &&& 31))) (T.1 c)) b = fu S.1 c (mx r (S.1 c)) b
  by_cases g : b = c
  · rw [g, fu_e, fu_e, hr, e c hc]
  · rw [fu_n g, fu_n g]
    exact e b hb
section CFI
variable {σ : mS}
theorem gR_fd (hW : WY σ) (hV : WV σ) {x : Nat} (hx : x < 18) {T : gT} {S : gS} (h : gR T S) : gR (cfd σ x T) (fd σ x S.1, S.2) := by
  unfold cfd fd
  have s4 := hW.2.2.1 x hx
  refine it_rel (Rl := fun (T : gT) (G : Nat → Int32) => gR T (G, S.2)) (hi := N (σ 4 x)) (fun l T G hl hh => ?_) _ 0 T S.1 (by omega) h
  have v := hV.1 x l hx hl
  have s5 := hW.2.2.2.1 (2 * x + l) (by have := s4.2; omega)
  refine gR_h hh (by have := s5.2; omega) ?_
  unfold fab
  rw [if_pos]
  rw [i32_le, shr1]
  exact v.2.2
theorem gR_ft (hW : WY σ) {x t : Nat} (hx : x < 36) (ht : t < N (σ 11 x)) {T : gT} {S : gS} (h : gR T S) : gR (cft σ x t T) (ft σ (3 * x + t) S) := by
  have s11 := (hW.2.2.2.2.1 x hx).2.2.2
  have s12 := hW.2.2.2.2.2 (3 * x + t) (by omega)
  have e1 : (3 * x + t) % 3 = t := by omega
  have e2 : (3 * x + t) / 3 = x := by omega
  have z12 : σ 12 (3 * x + t) = 0 ↔ N (σ 12 (3 * x + t)) = 0 := by
    constructor
    · intro q; rw [q]; rfl
    · intro q; rw [s12.1.1, q]; rfl
  have z13 : σ 13 (3 * x + t) = 0 ↔ N (σ 13 (3 * x + t)) = 0 := by
    constructor
    · intro q; rw [q]; rfl
    · intro q; rw [s12.2.1, q]; rfl
  unfold ft cft
  rw [e1, e2, if_pos ht]
  have b12 := s12.1.2
  have b13 := s12.2.2
  have one : ∀ s : Int32, (s = 0 ∨ s = 1) → (if s = 0 then (0 : Int32) else 1) = s := fun s q => by
    rcases q with q | q
    · rw [q, if_pos rfl]
    · rw [q, if_neg (by decide)]
  by_cases g1 : N (σ 12 (3 * x + t)) = 0
  · rw [if_pos (Or.inl g1)]
    have f1 : fk σ (3 * x + t) = N (σ 12 (3 * x + t)) + N (σ 13 (3 * x + t)) := by
      unfold fk
      rw [if_pos (z12.mpr g1), g1, Nat.zero_add]
    rw [if_pos (z12.mpr g1), f1, one S.2 h.2.1]
    exact gR_h h (by omega) rfl
  · by_cases g2 : N (σ 13 (3 * x + t)) = 0
    · rw [if_pos (Or.inr g2)]
      have f1 : fk σ (3 * x + t) = N (σ 12 (3 * x + t)) + N (σ 13 (3 * x + t)) := by
        unfold fk
        rw [if_neg (fun q => g1 (z12.mp q)), g2, Nat.add_zero]
      rw [if_neg (fun q => g1 (z12.mp q)), if_pos (z13.mpr g2), f1, one S.2 h.2.1]
      exact gR_h h (by omega) rfl
    · rw [if_neg (by omega), if_neg (fun q => g1 (z12.mp q)), if_neg (fun q => g2 (z13.mp q))]
      have e : (if S.2 = 0 then (0 : Int32) else 0) = 0 := by split <;> rfl
      rw [e]
      exact ⟨rfl, Or.inl rfl, fun q => absurd rfl q⟩
theorem gR_fw (hW : WY σ) {x : Nat} (hx : x < 36) {T : gT} {S : gS} (h : gR T S) : gR (cfw σ x T) (it (ft σ) (3 * x) 3 S) := by
  have s11 := (hW.2.2.2.2.1 x hx).2.2.2
  have e : it (ft σ) (3 * x) 3 S = it (fun t S => ft σ (3 * x + t) S) 0 (N (σ 11 x)) S := by
    rw [← it_if (b := fun t S => ft σ (3 * x + t) S) s11 S]
    have e0 := it_shift (ft σ) (3 * x) 3 0 S
    rw [Nat.add_zero] at e0
    rw [← e0]
    refine it_cg (hi := 3) (fun t S ht => ?_) 3 0 S (by omega)
    by_cases g : t < N (σ 11 x)
    · rw [if_pos g]
    · rw [if_neg g]
      unfold ft
      rw [show (3 * x + t) % 3 = t by omega, show (3 * x + t) / 3 = x by omega, if_neg g]
  rw [e]
  unfold cfw
  exact it_rel (Rl := gR) (hi := N (σ 11 x)) (fun t T S ht hh => gR_ft hW hx ht hh) _ 0 T S (by omega) h
theorem gR_A (hW : WY σ) (hV : WV σ) {a : Nat} (ha : a < 3) {T : gT} {S : gS} (h : gR T S) : gR (cfA σ a T) (fgT σ a (fgP σ a S)) := by
  have s2 := (hW.2.1 a ha).1.2
  have s3 := (hW.2.1 a ha).2.2
  unfold cfA
  have p1 : gR (it (cfp σ a) 0 6 T) (fgP σ a S) := by
    have e : it (cfp σ a) 0 6 T = it (fun p T => cfd σ (6 * a + p) T) 0 (N (σ 2 a)) T := it_if s2 T
    rw [e]
    unfold fgP
    have st : ∀ p (T : gT) (S : gS), p < N (σ 2 a) → gR T S → gR (cfd σ (6 * a + p) T) (fd σ (6 * a + p) S.1, S.2) := fun p T S hp hh => gR_fd hW hV (by omega) hh
    exact it_rel (b1 := fun p T => cfd σ (6 * a + p) T) (b2 := fun p (S : gS) => ((fd σ (6 * a + p) S.1, S.2) : gS)) (Rl := gR) (hi := N (σ 2 a)) st _ 0 T S (by omega) h
  generalize it (cfp σ a) 0 6 T = T1 at p1 ⊢
  generalize fgP σ a S = S1 at p1 ⊢
  have e : it (cfv σ a) 0 12 T1 = it (fun w T => cfw σ (12 * a + w) T) 0 (N (σ 3 a)) T1 := it_if s3 T1
  rw [e]
  unfold fgT
  rw [show 36 * a = 3 * (12 * a) by omega, it_3]
  have e0 := it_shift (fun w s => it (ft σ) (3 * w) 3 s) (12 * a) (N (σ 3 a)) 0 S1
  rw [Nat.add_zero] at e0
  rw [← e0]
  have st : ∀ w (T : gT) (S : gS), w < N (σ 3 a) → gR T S → gR (cfw σ (12 * a + w) T) (it (ft σ) (3 * (12 * a + w)) 3 S) := fun w T S hw hh => gR_fw hW (by omega) hh
  exact it_rel (b1 := fun w T => cfw σ (12 * a + w) T) (b2 := fun w S => it (ft σ) (3 * (12 * a + w)) 3 S) (Rl := gR) (hi := N (σ 3 a)) st _ 0 T1 S1 (by omega) p1
theorem cfg_is (hW : WY σ) (hV : WV σ) (f0 : Nat → Int32) : gR (it (cfA σ) 0 (N (σ 1 0)) (fun b => if b < 4 then 0 else f0 b, 1)) (fgA σ) := by
  have hb := hW.1.2
  unfold fgA
  have st : ∀ a (T : gT) (S : gS), a < N (σ 1 0) → gR T S → gR (cfA σ a T) (fgT σ a (fgP σ a S)) := fun a T S ha hh => gR_A hW hV (by omega) hh
  refine it_rel (b1 := cfA σ) (b2 := fun a S => fgT σ a (fgP σ a S)) (Rl := gR) (hi := N (σ 1 0)) st _ 0 _ _ (by omega) ⟨rfl, Or.inr rfl, fun _ b hb => ?_⟩
  show (if b < 4 then (0 : Int32) else f0 b) = if b < 4 then (0 : Int32) else σ 19 b
  rw [if_pos hb, if_pos hb]
end CFI

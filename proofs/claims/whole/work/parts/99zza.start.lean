/-! the relation holds at the start; the reference's cells beside the class's -/
theorem sI_is : (∀ a b, a ≠ 43 → sI a b = sI1 a b) ∧ ∀ b, b < 25 → sI 43 b = sI1 15 b := by
  have r := it_inv sIb (fun k s => (∀ a b, a ≠ 43 → s a b = sI1 a b) ∧ ∀ b, b < k → s 43 b = sI1 15 b) 25 (fun k s hk hs => by
    unfold sIb
    refine ⟨fun a b ha => ?_, fun b hb => ?_⟩
    · rw [su_n ha]
      exact hs.1 a b ha
    · unfold su
      by_cases e : b = k
      · rw [if_pos ⟨rfl, e⟩, hs.1 15 k (by decide), e]
      · rw [if_neg (fun t => e t.2)]
        exact hs.2 b (by omega)) 25 0 sI1 (by decide) ⟨fun _ _ _ => rfl, fun b hb => absurd hb (Nat.not_lt_zero b)⟩
  exact r
theorem sI_0 {s : Nat} (b : Nat) (h15 : s ≠ 15) (h16 : s ≠ 16) (h43 : s ≠ 43) : sI s b = 0 := by
  rw [sI_is.1 s b h43]
  unfold sI1
  by_cases h17 : s = 17
  · subst h17
    unfold ez su st
    by_cases g : b = 0
    · subst g
      rfl
    · rw [if_neg (fun t => g t.2), if_neg (by decide)]
      rfl
  · rw [ez_ne _ _ _ h15 h17, su_n h16]
    rfl
theorem sI_43 {b : Nat} (hb : b < 25) : sI 43 b = atz (s0 15) b := by
  rw [sI_is.2 b hb]
  unfold sI1 ez
  rw [su_n (by decide)]
  unfold st
  rw [if_pos rfl]
theorem N0 : N (0 : Int32) = 0 := rfl
theorem sml_0 (B : Nat) : sml (0 : Int32) B := ⟨rfl, Nat.zero_le B⟩
theorem WY_I : WY sI := by
  have z : ∀ s b, s ≠ 15 → s ≠ 16 → s ≠ 43 → sI s b = 0 := fun s b => sI_0 b
  refine ⟨?_, fun m _ => ⟨?_, ?_⟩, fun x _ => ?_, fun y _ => ?_, fun x _ => ⟨?_, ?_, ?_⟩, fun y _ => ⟨?_, ?_⟩⟩
  all_goals (rw [z _ _ (by decide) (by decide) (by decide)]; exact sml_0 _)
section ST
variable {o z : Nat}
theorem LV_0 (ho : o < z) : LV (d0 o z) k0S := by
  refine ⟨fun a q hq => ?_, fun kd h1 h2 h3 => ?_, fun i hi => ?_, fun m hm => absurd hm (Nat.not_lt_zero m), fun k hk => absurd hk (Nat.not_lt_zero k), fun d _ h => absurd rfl h⟩
  · rcases dI0_inv ho hq with ⟨h1, h2⟩ | ⟨i, hi, h1, h2⟩
    · rw [h1, h2]
      rfl
    · rw [h1, h2]
      exact tK_A hi
  · have c : kd = 0 ∨ kd = 1 ∨ kd = 2 ∨ kd = 3 ∨ kd = 4 ∨ kd = 5 ∨ kd = 8 ∨ kd = 9 := by omega
    rcases c with rfl | rfl | rfl | rfl | rfl | rfl | rfl | rfl
    · exact d0_k0
    · exact d0_k1_0 ho
    · exact d0_k2_0 ho
    · exact d0_k3_0 ho
    · exact d0_k4_0 ho
    · exact d0_k5_0 ho
    · exact d0_k8_0 ho
    · exact d0_k9_0 ho
  · have hi2 : i < 2 := hi
    have c : i = 0 ∨ i = 1 := by omega
    rcases c with rfl | rfl
    · exact ⟨d0_k6_0 ho, d0_k7_0 ho⟩
    · exact ⟨d0_k6_1 ho, d0_k7_1 ho⟩
theorem FZ_0 (ho : o < z) : FZ (d0 o z) k0S (z + 11) := by
  refine ⟨fun a ha => ?_, fun a q hq => ?_, fun d h => absurd rfl h⟩
  · show dI0 o z a = none
    unfold dI0
    rw [if_neg (by omega), if_neg (by omega), if_neg (by omega)]
  · rcases dI0_inv ho hq with ⟨h1, h2⟩ | ⟨i, hi, h1, h2⟩
    · rw [h2]
      unfold lq
      dsimp only
      omega
    · rw [h2]
      have c : i = 0 ∨ i = 1 ∨ i = 2 ∨ i = 3 ∨ i = 4 ∨ i = 5 ∨ i = 6 ∨ i = 7 ∨ i = 8 ∨ i = 9 ∨ i = 10 := by omega
      rcases c with rfl | rfl | rfl | rfl | rfl | rfl | rfl | rfl | rfl | rfl | rfl
      all_goals (unfold lq tK; dsimp only [List.getD, List.getElem?_cons_succ, List.getElem?_cons_zero, Option.getD]; omega)
theorem PR_0 (ho : o < z) : PR 0 (d0 o z) k0S sI t0 (z + 11) := by
  have zr : ∀ s b, s ≠ 15 → s ≠ 16 → s ≠ 43 → sI s b = 0 := fun s b => sI_0 b
  have m0 : N (sI 1 0) = 0 := by rw [zr 1 0 (by decide) (by decide) (by decide)]; rfl
  have n0 : N (sI 22 0) = 0 := by rw [zr 22 0 (by decide) (by decide) (by decide)]; rfl
  have hqZ : ∀ i j, i < 4 → j < 4 → (hq sI).1 (5 * i + j) = if i = j ∨ i = 0 then 1 else 1000000 := fun i j hi hj => by
    show (if 5 * i + j < 25 then sI 43 (5 * i + j) else sI 15 (5 * i + j)) = _
    rw [if_pos (by omega), sI_43 (by omega)]
    exact atz_is _ hi hj
  refine ⟨⟨LV_0 ho, ⟨?_, fun m hm => ?_⟩, WY_I⟩, FZ_0 ho, ⟨⟨fun x l _ hl => ?_, fun x t _ ht => ?_⟩, fun a w ha _ => ?_, fun m _ _ => ?_⟩, ?_, ⟨⟨?_, ?_, fun _ => ⟨?_, ?_⟩⟩, rfl⟩, fun k hk => ?_, ⟨fun d _ => Or.inl ⟨rfl, zr 46 d (by decide) (by decide) (by decide)⟩, fun d e _ _ _ h => absurd rfl h⟩, Nat.le_refl 0⟩
  · exact (zr 1 0 (by decide) (by decide) (by decide)).symm
  · rw [m0] at hm
    omega
  · rw [zr 4 x (by decide) (by decide) (by decide), N0] at hl
    omega
  · rw [zr 11 x (by decide) (by decide) (by decide), N0] at ht
    omega
  · rw [m0] at ha
    omega
  · exact ⟨zr 2 m (by decide) (by decide) (by decide), zr 3 m (by decide) (by decide) (by decide)⟩
  · refine ⟨(zr 22 0 (by decide) (by decide) (by decide)).symm, by rw [zr 22 0 (by decide) (by decide) (by decide)]; exact sml_0 _, sml_0 _, by rw [n0]; omega, fun j hj => absurd hj (Nat.not_lt_zero j), fun j hj => by rw [n0] at hj; omega, ⟨0, Nat.zero_le _, fun j hj => absurd hj (Nat.not_lt_zero j), fun j _ hj => by rw [n0] at hj; omega, (zr 23 0 (by decide) (by decide) (by decide)).symm, (zr 34 0 (by decide) (by decide) (by decide)).symm, (zr 35 0 (by decide) (by decide) (by decide)).symm, zr 23 0 (by decide) (by decide) (by decide)⟩, ⟨(zr 21 0 (by decide) (by decide) (by decide)).symm, Or.inl (zr 21 0 (by decide) (by decide) (by decide))⟩, fun b _ => ?_⟩
    rw [zr 42 b (by decide) (by decide) (by decide), if_neg (show ¬ (k0S 1 0 8 = 0) by decide)]
    rfl
  · exact Or.inl (zr 44 0 (by decide) (by decide) (by decide))
  · exact (zr 44 0 (by decide) (by decide) (by decide)).symm
  · intro i j hi hj
    rw [hqZ i j hi hj]
    exact caz_is _ hi hj
  · exact zOK_hN (zOK_times hqZ) 0
  · rw [n0] at hk
    omega
end ST
/-! other cells registered beside -/
def rgD (D : kD) (lo hi : Nat) : kD := (fun k i => if k = 25 then i else D.1 k i, fun a => if lo ≤ a ∧ a < hi then some (25, a) else D.2.1 a, D.2.2.1, D.2.2.2)
section RG
variable {D : kD} {κ : kS} {σ : mS} {τ : mL} {n lo hi : Nat}
theorem rgD_A {k i : Nat} (hk : k < 25) : (rgD D lo hi).1 k i = D.1 k i := by
  show (if k = 25 then i else D.1 k i) = _
  rw [if_neg (by omega)]
theorem rgD_A25 (i : Nat) : (rgD D lo hi).1 25 i = i := by
  show (if 25 = 25 then i else D.1 25 i) = _
  rw [if_pos rfl]
theorem rgD_in {a : Nat} (h1 : lo ≤ a) (h2 : a < hi) : (rgD D lo hi).2.1 a = some (25, a) := by
  show (if lo ≤ a ∧ a < hi then some (25, a) else D.2.1 a) = _
  rw [if_pos ⟨h1, h2⟩]
theorem rgD_out {a : Nat} (h : ¬ (lo ≤ a ∧ a < hi)) : (rgD D lo hi).2.1 a = D.2.1 a := by
  show (if lo ≤ a ∧ a < hi then some (25, a) else D.2.1 a) = _
  rw [if_neg h]
theorem rgD_kI (hF : FZ D κ lo) {k i : Nat} (hk : k < 25) (h : kI D k i) : kI (rgD D lo hi) k i := by
  have l := kI_lt hF h
  unfold kI at h ⊢
  rw [rgD_A hk, rgD_out (by omega)]
  exact h
theorem rgD_k25 {a : Nat} (h1 : lo ≤ a) (h2 : a < hi) : kI (rgD D lo hi) 25 a := by
  unfold kI
  rw [rgD_A25]
  exact rgD_in h1 h2
theorem rgD_kcl {k i : Nat} (hk : k < 25) : kcl (rgD D lo hi) κ k i = kcl D κ k i := by
  have c : k = 0 ∨ k = 1 ∨ k = 2 ∨ k = 3 ∨ k = 4 ∨ k = 5 ∨ k = 6 ∨ k = 7 ∨ k = 8 ∨ k = 9 ∨ k = 10 ∨ k = 11 ∨ k = 12 ∨ k = 13 ∨ k = 14 ∨ k = 15 ∨ k = 16 ∨ k = 17 ∨ k = 18 ∨ k = 19 ∨ k = 20 ∨ k = 21 ∨ k = 22 ∨ k = 23 ∨ k = 24 := by omega
  rcases c with rfl | rfl | rfl | rfl | rfl | rfl | rfl | rfl | rfl | rfl | rfl | rfl | rfl | rfl | rfl | rfl | rfl | rfl | rfl | rfl | rfl | rfl | rfl | rfl | rfl <;> rfl
theorem rgD_rn (h25 : ∀ a q, D.2.1 a = some q → q.1 < 25) {a : Nat} (h : ¬ (lo ≤ a ∧ a < hi)) : rn (rgD D lo hi) κ a = rn D κ a := by
  unfold rn
  rw [rgD_out h]
  cases hq : D.2.1 a with
  | none => rfl
  | some q => exact rgD_kcl (h25 a q hq)
theorem rgD_PR (P : PR n D κ σ τ lo) (h25 : ∀ a q, D.2.1 a = some q → q.1 < 25) (hl : lo ≤ hi) : PR n (rgD D lo hi) κ σ τ hi := by
  obtain ⟨yw, fz, w, pw, hr, zs, sh, nn⟩ := P
  have up : ∀ {k i : Nat}, k < 25 → kI D k i → kI (rgD D lo hi) k i := fun hk h => rgD_kI fz hk h
  obtain ⟨⟨a, b, c, d, e, g⟩, yr⟩ := yw
  refine ⟨⟨⟨fun x q hq => ?_, fun k h1 h2 h3 => up (by omega) (b k h1 h2 h3), fun i hi => ⟨up (by decide) (c i hi).1, up (by decide) (c i hi).2⟩, fun m hm => ?_, fun k hk => ⟨up (by decide) (e k hk).1, up (by decide) (e k hk).2.1, up (by decide) (e k hk).2.2⟩, fun x hx h0 => ⟨up (by decide) (g x hx h0).1, up (by decide) (g x hx h0).2.1, fun t => up (by decide) ((g x hx h0).2.2 t)⟩⟩, yr⟩, ⟨fun x hx => ?_, fun x q hq => ?_, fz.2.2⟩, w, pw, hr, zs, SH_cg sh rfl rfl rfl rfl (fun _ _ _ => rfl), nn⟩
  · by_cases h : lo ≤ x ∧ x < hi
    · rw [rgD_in h.1 h.2] at hq
      cases hq
      exact rgD_A25 x
    · rw [rgD_out h] at hq
      rw [rgD_A (h25 x q hq)]
      exact a x q hq
  · obtain ⟨m1, m2, m3, m4, m5⟩ := d m hm
    exact ⟨up (by decide) m1, up (by decide) m2, up (by decide) m3, fun p hp => ⟨up (by decide) (m4 p hp).1, up (by decide) (m4 p hp).2.1, up (by decide) (m4 p hp).2.2⟩, fun w hw => ⟨up (by decide) (m5 w hw).1, up (by decide) (m5 w hw).2.1, up (by decide) (m5 w hw).2.2⟩⟩
  · rw [rgD_out (by omega)]
    exact fz.1 x (by omega)
  · by_cases h : lo ≤ x ∧ x < hi
    · rw [rgD_in h.1 h.2] at hq
      cases hq
      unfold lq
      dsimp only
      omega
    · rw [rgD_out h] at hq
      exact fz.2.1 x q hq
end RG

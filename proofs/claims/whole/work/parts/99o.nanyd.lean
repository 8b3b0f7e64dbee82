/-! small bounds: good at once; LET GO by hand -/
theorem eq1_trans {K a b c : Int} (hK : 0 ≤ K) (h : eq1 K a b) (g : eq1 K b c) : eq1 K a c := by
  unfold eq1 at *
  omega
/-- a gap of more than C, if four points are more than 3 C apart -/
theorem gap4 {C : Int} (hC : 0 < C) {v : Nat → Int} {i0 j0 : Nat} (hi : i0 < 4) (hj : j0 < 4) (hgt : 3 * C < v i0 - v j0) : ∃ t, v j0 ≤ t ∧ t + C < v i0 ∧ ∀ k, k < 4 → t < v k → t + C < v k := by
  refine Classical.byContradiction (fun hn => ?_)
  have pt : ∀ t, v j0 ≤ t → t + C < v i0 → ∃ k, k < 4 ∧ t < v k ∧ v k ≤ t + C := fun t h1 h2 => by
    refine Classical.byContradiction (fun hm => hn ⟨t, h1, h2, fun k hk h => ?_⟩)
    refine Classical.byContradiction (fun u => hm ⟨k, hk, h, by omega⟩)
  obtain ⟨a, a1, a2, a3⟩ := pt (v j0) (by omega) (by omega)
  obtain ⟨b, b1, b2, b3⟩ := pt (v j0 + C) (by omega) (by omega)
  obtain ⟨c, c1, c2, c3⟩ := pt (v j0 + 2 * C) (by omega) (by omega)
  have n1 : a ≠ b := fun e => by subst e; omega
  have n2 : a ≠ c := fun e => by subst e; omega
  have n3 : b ≠ c := fun e => by subst e; omega
  have n4 : a ≠ i0 := fun e => by subst e; omega
  have n5 : b ≠ i0 := fun e => by subst e; omega
  have n6 : c ≠ i0 := fun e => by subst e; omega
  have n7 : a ≠ j0 := fun e => by subst e; omega
  have n8 : b ≠ j0 := fun e => by subst e; omega
  have n9 : c ≠ j0 := fun e => by subst e; omega
  have n0 : i0 ≠ j0 := fun e => by subst e; omega
  clear pt hn a2 a3 b2 b3 c2 c3 hgt
  omega
theorem wI_small {M K L : Int} {X : iM} (hK : 0 ≤ K) (hMK : M ≤ 2 * K) (hL : 3 * K + 3 ≤ L) (hfn : ∀ i j, i < 4 → j < 4 → fn M (X i j)) : wI K L X := by
  have main : ∀ n : Nat, ∀ v, semW X v → (∀ i j, i < 4 → j < 4 → v i - v j ≤ n + 3 * (K + 1)) → ∃ u, semW X u ∧ eqI K v u ∧ ∀ i j, i < 4 → j < 4 → u i - u j ≤ 3 * (K + 1) := by
    intro n
    induction n with
    | zero =>
      intro v hv hb
      exact ⟨v, hv, fun i j _ _ => Or.inl rfl, fun i j hi hj => by have := hb i j hi hj; omega⟩
    | succ n ih =>
      intro v hv hb
      by_cases hx : ∃ i j, i < 4 ∧ j < 4 ∧ (n : Int) + 3 * (K + 1) < v i - v j
      · obtain ⟨i0, j0, hi0, hj0, hgt⟩ := hx
        obtain ⟨t, t1, t2, t3⟩ := gap4 (C := K + 1) (v := v) (by omega) hi0 hj0 (by omega)
        have hu : ∀ i j, i < 4 → j < 4 → eq1 K (v i - v j) ((if t < v i then v i - 1 else v i) - (if t < v j then v j - 1 else v j)) ∧ (if t < v i then v i - 1 else v i) - (if t < v j then v j - 1 else v j) ≤ n + 3 * (K + 1) ∧ ((if t < v i then v i - 1 else v i) - (if t < v j then v j - 1 else v j) ≤ v i - v j ∨ (if t < v i then v i - 1 else v i) - (if t < v j then v j - 1 else v j) ≤ -(K + 1)) := fun i j hi hj => by
          have a := t3 i hi
          have b := t3 j hj
          have c := hb i j hi hj
          have d := hb i j0 hi hj0
          have e := hb i0 j hi0 hj
          unfold eq1
          split <;> split <;> omega
        obtain ⟨u, u1, u2, u3⟩ := ih (fun k => if t < v k then v k - 1 else v k) (fun i j hi hj hf => by
          have a := hv i j hi hj hf
          have b := (hu i j hi hj).2.2
          show (if t < v i then v i - 1 else v i) - (if t < v j then v j - 1 else v j) ≤ _
          have c := (hfn i j hi hj).resolve_left (by omega)
          omega) (fun i j hi hj => (hu i j hi hj).2.1)
        exact ⟨u, u1, fun i j hi hj => eq1_trans hK (hu i j hi hj).1 (u2 i j hi hj), u3⟩
      · exact ih v hv (fun i j hi hj => Classical.byContradiction (fun h => hx ⟨i, j, hi, hj, by omega⟩))
  intro v hv
  have big : ∃ n : Nat, ∀ i j, i < 4 → j < 4 → v i - v j ≤ n + 3 * (K + 1) := by
    refine ⟨(v 0).natAbs + (v 1).natAbs + (v 2).natAbs + (v 3).natAbs + (v 0).natAbs + (v 1).natAbs + (v 2).natAbs + (v 3).natAbs, fun i j hi hj => ?_⟩
    have e : ∀ k, k < 4 → v k ≤ (v 0).natAbs + (v 1).natAbs + (v 2).natAbs + (v 3).natAbs ∧ -(v k) ≤ (v 0).natAbs + (v 1).natAbs + (v 2).natAbs + (v 3).natAbs := fun k hk => by
      have k4 : k = 0 ∨ k = 1 ∨ k = 2 ∨ k = 3 := by omega
      rcases k4 with h | h | h | h <;> subst h <;> omega
    have a := e i hi
    have b := e j hj
    omega
  obtain ⟨n, hn⟩ := big
  obtain ⟨u, u1, u2, u3⟩ := main n v hv hn
  exact ⟨u, u1, u2, fun i j hi hj => by have := u3 i j hi hj; omega⟩
/-- a closed zone whose bounds are small is good -/
theorem hI_of {S T1 TF K L M : Int} {Z : Nat → Int32} (hM : M ≤ T1) (hTS : T1 ≤ S) (hK : 0 ≤ K) (hMK : M ≤ 2 * K) (hL : 3 * K + 3 ≤ L) (hMA : M ≤ AN) (hfn : ∀ i j, i < 4 → j < 4 → fn M (zi Z i j)) (hd : ∀ i, i < 4 → zi Z i i = 1) (hr : ∀ j, j < 4 → zi Z 0 j ≤ 1) (hc : ∀ l, l < 4 → tp l (nz Z)) (hf : ff TF (nz Z)) : hI S T1 TF K L Z := by
  have fz : ∀ i j, i < 4 → j < 4 → fn M (nz Z i j) := fun i j hi hj => by rw [nz_in _ hi hj]; exact hfn i j hi hj
  refine ⟨⟨fun i j hi hj => fn_le (fz i j hi hj) hMA, fun i hi => by rw [nz_in _ hi hi]; exact hd i hi, fun j hj => by rw [nz_in _ (by omega) hj]; exact hr j hj, hc, ?_, ?_, hf⟩, wI_small hK hMK hL fz⟩
  · intro q x i hq hx hi _ _ _ h1 h2
    have := (fz q x hq.2 hx.2).resolve_left (by omega)
    omega
  · intro q x i hq hx hi _ _ _ h1 h2 _
    have := (fz q 0 hq.2 (by omega)).resolve_left (by omega)
    omega
theorem tp_of {X : iM} {l : Nat} (h : ∀ i j, i < 4 → j < 4 → X i j ≤ sm (X i l) (X l j)) : tp l X := fun i j hi hj f1 f2 => by
  have := h i j hi hj
  rw [sm_nps f1 f2] at this
  exact this
theorem ff_xs {T : Int} {X : iM} (hA : lA X) (hd : ∀ s, s < 5 → ∀ i, i < 4 → xs X s i i = 1) (h : ff T X) : ∀ s, s < 5 → ff T (xs X s) := by
  intro s
  induction s with
  | zero => intro _; exact h
  | succ s ih =>
    intro hs
    exact fw_ff (fun i j hi hj => Int.le_trans (xs_mono (X := X) (Nat.zero_le s) i j) (hA i j hi hj)) (by omega) (ih (by omega)) (hd s (by omega))
/-- closing small bounds -/
theorem small_cl {T : Int} {Z : Nat → Int32} (hfn : ∀ i j, i < 4 → j < 4 → fn 401 (zi Z i j)) (hd : ∀ i, i < 4 → zi Z i i = 1) (hf : ff T (nz Z)) (he : em 4 (cl 4 Z) 0 = 0) : (∀ i j, i < 4 → j < 4 → fn 6431 (zi (cl 4 Z) i j)) ∧ (∀ i, i < 4 → zi (cl 4 Z) i i = 1) ∧ (∀ l, l < 4 → tp l (nz (cl 4 Z))) ∧ ff T (nz (cl 4 Z)) ∧ ∀ i j, i < 4 → j < 4 → zi (cl 4 Z) i j ≤ zi Z i j := by
  have hA := AN_is
  have fz : ∀ i j, i < 4 → j < 4 → fn 401 (nz Z i j) := fun i j hi hj => by rw [nz_in _ hi hj]; exact hfn i j hi hj
  rcases cl_xs (B := 401) (by omega) (by omega) (fun i j hi hj => by
    rcases hfn i j hi hj with h | h <;> omega) hd with ⟨_, g2, g3⟩ | ⟨g1, _⟩
  · have dg : ∀ s, s < 5 → ∀ i, i < 4 → xs (nz Z) s i i = 1 := fun s hs i hi => by
      have a := xs_mono (X := nz Z) (show s ≤ 4 by omega) i i
      have b := xs_mono (X := nz Z) (Nat.zero_le s) i i
      have c := g2 i hi
      have e : xs (nz Z) 0 i i = 1 := by show nz Z i i = 1; rw [nz_in _ hi hi]; exact hd i hi
      omega
    have st : ∀ s, s < 4 → ∀ C : Int, 0 ≤ C → C ≤ 200000 → (∀ i j, i < 4 → j < 4 → fn C (xs (nz Z) s i j)) → (∀ l, l < s → ∀ i j, i < 4 → j < 4 → xs (nz Z) s i j ≤ sm (xs (nz Z) s i l) (xs (nz Z) s l j)) → (∀ i j, i < 4 → j < 4 → fn (2 * C + 1) (xs (nz Z) (s + 1) i j)) ∧ ∀ l, l < s + 1 → ∀ i j, i < 4 → j < 4 → xs (nz Z) (s + 1) i j ≤ sm (xs (nz Z) (s + 1) i l) (xs (nz Z) (s + 1) l j) := fun s hs C h0 hC h1 h2 =>
      ⟨fun i j hi hj => fw_fn h0 hs h1 hi hj, fw_step h0 hC hs h1 (dg s (by omega) s hs) h2⟩
    have s1 := st 0 (by omega) 401 (by omega) (by omega) fz (fun l hl => absurd hl (Nat.not_lt_zero _))
    have s2 := st 1 (by omega) (2 * 401 + 1) (by omega) (by omega) s1.1 s1.2
    have s3 := st 2 (by omega) (2 * (2 * 401 + 1) + 1) (by omega) (by omega) s2.1 s2.2
    have s4 := st 3 (by omega) (2 * (2 * (2 * 401 + 1) + 1) + 1) (by omega) (by omega) s3.1 s3.2
    have lz : lA (nz Z) := fun i j hi hj => fn_le (fz i j hi hj) (by omega)
    refine ⟨fun i j hi hj => ?_, fun i hi => ?_, fun l hl => ?_, ?_, fun i j hi hj => ?_⟩
    · rw [← nz_in _ hi hj, g3]
      exact fn_mono (s4.1 i j hi hj) (by omega)
    · rw [← nz_in _ hi hi, g3]
      exact dg 4 (by omega) i hi
    · rw [g3]
      exact tp_of (s4.2 l (by omega))
    · rw [g3]
      exact ff_xs lz dg hf 4 (by omega)
    · have m := xs_mono (X := nz Z) (Nat.zero_le 4) i j
      rw [← g3, nz_in _ hi hj] at m
      have m2 : xs (nz Z) 0 i j = zi Z i j := nz_in _ hi hj
      omega
  · rw [he] at g1
    exact absurd g1 (by decide)
/-- LET GO leaves small bounds -/
theorem lt_small {g : Nat → Int32} (hg : ∀ i, i < 4 → 0 ≤ (g i).toInt ∧ (g i).toInt ≤ 200) {Z : Nat → Int32} (hd : ∀ i, i < 4 → zi Z i i = 1) (h0 : ∀ j, j < 4 → zi Z 0 j ≤ 1) : (∀ i j, i < 4 → j < 4 → fn 401 (zi (lt g Z) i j)) ∧ (∀ i, i < 4 → zi (lt g Z) i i = 1) ∧ (∀ j, j < 4 → zi (lt g Z) 0 j ≤ 1) ∧ ∀ T, (∀ i, i < 4 → 2 * (g i).toInt + 1 ≤ T) → ff T (nz (lt g Z)) := by
  have hx : ∀ i j, i < 4 → j < 4 → zi (lt g Z) i j = lgM (fun k => (g k).toInt) (zi Z) i j := fun i j hi hj => lt_zi hg h0 hi hj
  refine ⟨fun i j hi hj => ?_, fun i hi => ?_, fun j hj => ?_, fun T hT => ?_⟩
  · rw [hx i j hi hj]
    have gi := hg i hi
    have gj := hg j hj
    unfold lgM
    dsimp only
    split
    · rename_i t
      rw [t, hd j hj]
      exact Or.inr (by omega)
    · split
      · exact Or.inl rfl
      · split
        · rename_i _ c1 c2
          by_cases hi0 : i = 0
          · have := h0 j hj
            rw [hi0] at c2 ⊢
            exact Or.inr (by omega)
          · exact Or.inr (by omega)
        · exact Or.inr (by omega)
  · rw [hx i i hi hi]
    unfold lgM
    rw [if_pos rfl]
    exact hd i hi
  · rw [hx 0 j (by omega) hj]
    have := h0 j hj
    have gj := hg j hj
    unfold lgM
    dsimp only
    split
    · exact this
    · rw [if_neg (by omega)]
      split
      · exact this
      · omega
  · intro ⟨k, hk, hf⟩
    refine ⟨k, hk, ?_⟩
    rw [nz_in _ hk.2 (by omega), hx k 0 hk.2 (by omega)] at hf ⊢
    have hk0 := hk.1
    have := hT k hk.2
    have g0 := hg 0 (by omega)
    have gk := hg k hk.2
    unfold lgM at hf ⊢
    dsimp only at hf ⊢
    rw [if_neg (by omega)] at hf ⊢
    split at hf
    · omega
    · rename_i c1
      rw [if_neg c1]
      split
      · omega
      · omega
theorem hI_let {S T1 TF K L TF' : Int} {g : Nat → Int32} (hg : ∀ i, i < 4 → 0 ≤ (g i).toInt ∧ (g i).toInt ≤ 200) {Z : Nat → Int32} (hT : 6431 ≤ T1) (hTS : T1 ≤ S) (hK : 6431 ≤ 2 * K) (hL : 3 * K + 3 ≤ L) (hTF : 401 ≤ TF') (h : hI S T1 TF K L Z) (he : em 4 (cl 4 (lt g Z)) 0 = 0) : hI S T1 TF' K L (cl 4 (lt g Z)) := by
  have hA := AN_is
  have r0 : ∀ j, j < 4 → zi Z 0 j ≤ 1 := fun j hj => by
    have := h.1.2.2.1 j hj
    rw [nz_in _ (by omega) hj] at this
    exact this
  obtain ⟨a1, a2, a3, a4⟩ := lt_small hg (hI_rg (by omega) h).2 r0
  obtain ⟨b1, b2, b3, b4, b5⟩ := small_cl a1 a2 (a4 TF' (fun i hi => by have := hg i hi; omega)) he
  exact hI_of (M := 6431) hT hTS (by omega) hK hL (by omega) b1 b2 (fun j hj => by
    have := b5 0 j (by omega) hj
    have := a3 j hj
    omega) b3 b4

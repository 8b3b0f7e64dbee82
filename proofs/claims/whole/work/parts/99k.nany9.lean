/-! setting: times of two clocks, made small -/
theorem gaps {K L A B C g1 g2 : Int} (hK : 0 ≤ K) (hL : 0 ≤ L) (h1 : 0 ≤ g1) (h2 : 0 ≤ g2) (hA0 : 0 ≤ A) (hA : A ≤ g1) (hB : B ≤ g2) (hC : C ≤ g1 + g2) (hAB : A + B ≤ C ∨ B ≤ 0) (lA' : A ≤ L) (lB : B ≤ L) (lC : C ≤ L) : ∃ a b, 0 ≤ a ∧ a ≤ g1 ∧ A ≤ a ∧ 0 ≤ b ∧ b ≤ g2 ∧ B ≤ b ∧ C ≤ a + b ∧ (g1 = a ∨ (K < g1 ∧ K < a)) ∧ (g2 = b ∨ (K < g2 ∧ K < b)) ∧ a + b ≤ L + 2 * K + 2 := by
  refine ⟨min g1 (max (K + 1) (max A (C - g2))), min g2 (max (K + 1) (max B (C - min g1 (max (K + 1) (max A (C - g2)))))), ?_⟩
  generalize ha : min g1 (max (K + 1) (max A (C - g2))) = a
  generalize hb : min g2 (max (K + 1) (max B (C - a))) = b
  have a1 : a = g1 ∨ a = K + 1 ∨ a = A ∨ a = C - g2 := by omega
  have a2 : a ≤ g1 := by omega
  have a3 : a = g1 ∨ (K + 1 ≤ a ∧ A ≤ a ∧ C - g2 ≤ a) := by omega
  have b1 : b = g2 ∨ b = K + 1 ∨ b = B ∨ b = C - a := by omega
  have b2 : b ≤ g2 := by omega
  have b3 : b = g2 ∨ (K + 1 ≤ b ∧ B ≤ b ∧ C - a ≤ b) := by omega
  have a4 : a ≤ K + 1 ∨ a ≤ A ∨ a ≤ C - g2 := by omega
  have b4 : b ≤ K + 1 ∨ b ≤ B ∨ b ≤ C - a := by omega
  clear ha hb
  refine ⟨by omega, a2, by omega, by omega, b2, by omega, ?_, by omega, by omega, ?_⟩
  · rcases b3 with h | h
    · rcases a3 with g | g <;> omega
    · omega
  · rcases b4 with h | h | h
    · rcases a4 with g | g | g <;> omega
    · rcases a4 with g | g | g
      · omega
      · omega
      · omega
    · omega
/-- the times of lo and hi, all others at 0 -/
def vlh (lo hi : Nat) (a b : Int) : Nat → Int := fun n => if n = lo then a else if n = hi then b else 0
section Set
variable {S T1 TF K L : Int} {M : iM}
/-- a good zone in which clock x is where 0 is -/
theorem wI_three (hK : 0 ≤ K) (hL : 0 ≤ L) (h : hgd S T1 TF M) (hlo : ∀ i j, i < 4 → j < 4 → -(2 * L) ≤ M i j) {x lo hi : Nat} (hx : ck x) (hl : ck lo) (hh : ck hi) (d1 : x ≠ lo) (d2 : x ≠ hi) (d3 : lo ≠ hi) (e1 : ∀ k, k < 4 → M x k = M 0 k) (e2 : ∀ k, k < 4 → M k x = M k 0) {v : Nat → Int} (hv : semW M v) (hle : v lo ≤ v hi) : ∃ u, semW M u ∧ eqI K v u ∧ ∀ i j, i < 4 → j < 4 → u i - u j ≤ L + 2 * K + 2 := by
  have hNA := AN_is
  obtain ⟨a, b, c, d, _⟩ := h
  have cl := c lo hl.2
  have ch := c hi hh.2
  have b0 := b 0 (by omega)
  have vx1 := hv x 0 hx.2 (by omega) (by rw [e1 0 (by omega)]; omega)
  have vx2 := hv 0 x (by omega) hx.2 (by rw [e2 0 (by omega)]; omega)
  rw [e1 0 (by omega), b0] at vx1
  rw [e2 0 (by omega), b0] at vx2
  have v1 := hv 0 lo (by omega) hl.2 (by omega)
  have v2 := hv 0 hi (by omega) hh.2 (by omega)
  have l1 := hlo 0 lo (by omega) hl.2
  have l2 := hlo 0 hi (by omega) hh.2
  have l3 := hlo lo hi hl.2 hh.2
  have hB : ∃ B : Int, B ≤ v hi - v lo ∧ (-(M 0 lo / 2) + B ≤ -(M 0 hi / 2) ∨ B ≤ 0) ∧ B ≤ L ∧ (M lo hi < AN → -(M lo hi / 2) ≤ B) := by
    by_cases hf : M lo hi < AN
    · refine ⟨-(M lo hi / 2), ?_, Or.inl ?_, by omega, fun _ => Int.le_refl _⟩
      · have := hv lo hi hl.2 hh.2 hf
        omega
      · have t := d lo hl.2 0 hi (by omega) hh.2 (by omega) hf
        have := nps_half (M 0 lo) (M lo hi)
        omega
    · exact ⟨0, by omega, Or.inr (by omega), hL, fun g => absurd g hf⟩
  obtain ⟨B, hB1, hB2, hB3, hB4⟩ := hB
  obtain ⟨p, q, p1, p2, p3, q1, q2, q3, pq, r1, r2, r3⟩ := gaps (K := K) (L := L) (A := -(M 0 lo / 2)) (B := B) (C := -(M 0 hi / 2)) (g1 := v lo - v 0) (g2 := v hi - v lo) hK hL (by omega) (by omega) (by omega) (by omega) hB1 (by omega) hB2 (by omega) hB3 (by omega)
  have u0 : vlh lo hi p (p + q) 0 = 0 := by
    have := hl.1
    have := hh.1
    unfold vlh
    rw [if_neg (by omega), if_neg (by omega)]
  have ux : vlh lo hi p (p + q) x = 0 := by
    unfold vlh
    rw [if_neg d1, if_neg d2]
  have ul : vlh lo hi p (p + q) lo = p := if_pos rfl
  have uh : vlh lo hi p (p + q) hi = p + q := by
    unfold vlh
    rw [if_neg (Ne.symm d3), if_pos rfl]
  have nodes : ∀ i, i < 4 → i = 0 ∨ i = x ∨ i = lo ∨ i = hi := fun i hi4 => by
    have := hx.1
    have := hx.2
    have := hl.1
    have := hl.2
    have := hh.1
    have := hh.2
    omega
  have vx : v x = v 0 := by omega
  -- the six bounds
  have s1 : M lo 0 < AN → p ≤ M lo 0 / 2 := fun f => by
    have := hv lo 0 hl.2 (by omega) f
    omega
  have s2 : M hi 0 < AN → p + q ≤ M hi 0 / 2 := fun f => by
    have := hv hi 0 hh.2 (by omega) f
    omega
  have s3 : M hi lo < AN → q ≤ M hi lo / 2 := fun f => by
    have := hv hi lo hh.2 hl.2 f
    omega
  have s4 : M lo hi < AN → -q ≤ M lo hi / 2 := fun f => by
    have := hB4 f
    omega
  have bl := b lo hl.2
  have bh := b hi hh.2
  have t1 : eq1 K (v lo - v 0) p := by unfold eq1; omega
  have t2 : eq1 K (v hi - v lo) q := by unfold eq1; omega
  have t3 : eq1 K (v hi - v 0) (p + q) := by
    have := eq1_add t1 (by omega) p1 r2 (by omega) q1
    rw [show v lo - v 0 + (v hi - v lo) = v hi - v 0 by omega] at this
    exact this
  refine ⟨vlh lo hi p (p + q), fun i j hi4 hj4 hf => ?_, fun i j hi4 hj4 => ?_, fun i j hi4 hj4 => ?_⟩
  · -- x is where 0 is
    have red : ∀ i, i < 4 → ∃ k, (k = 0 ∨ k = lo ∨ k = hi) ∧ k < 4 ∧ vlh lo hi p (p + q) i = vlh lo hi p (p + q) k ∧ (∀ n, n < 4 → M i n = M k n) ∧ ∀ n, n < 4 → M n i = M n k := fun i hi4 => by
      rcases nodes i hi4 with g | g | g | g
      · exact ⟨0, Or.inl rfl, by omega, by rw [g], fun n _ => by rw [g], fun n _ => by rw [g]⟩
      · exact ⟨0, Or.inl rfl, by omega, by rw [g, ux, u0], fun n hn => by rw [g]; exact e1 n hn, fun n hn => by rw [g]; exact e2 n hn⟩
      · exact ⟨lo, Or.inr (Or.inl rfl), hl.2, by rw [g], fun n _ => by rw [g], fun n _ => by rw [g]⟩
      · exact ⟨hi, Or.inr (Or.inr rfl), hh.2, by rw [g], fun n _ => by rw [g], fun n _ => by rw [g]⟩
    obtain ⟨i', gi, i4, ei, ri, _⟩ := red i hi4
    obtain ⟨j', gj, j4, ej, _, cj⟩ := red j hj4
    rw [ri j hj4, cj i' i4] at hf ⊢
    rw [ei, ej]
    rcases gi with g | g | g <;> rcases gj with f | f | f <;> subst g <;> subst f
    · omega
    · rw [u0, ul]; omega
    · rw [u0, uh]; omega
    · rw [u0, ul]
      have := s1 hf
      omega
    · omega
    · rw [ul, uh]
      have := s4 hf
      omega
    · rw [u0, uh]
      have := s2 hf
      omega
    · rw [ul, uh]
      have := s3 hf
      omega
    · omega
  · have n1 := eq1_neg t1
    have n2 := eq1_neg t2
    have n3 := eq1_neg t3
    have same : ∀ n, eq1 K (v n - v n) (vlh lo hi p (p + q) n - vlh lo hi p (p + q) n) := fun n => Or.inl (by omega)
    have red : ∀ i, i < 4 → ∃ k, (k = 0 ∨ k = lo ∨ k = hi) ∧ v i = v k ∧ vlh lo hi p (p + q) i = vlh lo hi p (p + q) k := fun i hi4 => by
      rcases nodes i hi4 with g | g | g | g
      · exact ⟨0, Or.inl rfl, by rw [g], by rw [g]⟩
      · exact ⟨0, Or.inl rfl, by rw [g, vx], by rw [g, ux, u0]⟩
      · exact ⟨lo, Or.inr (Or.inl rfl), by rw [g], by rw [g]⟩
      · exact ⟨hi, Or.inr (Or.inr rfl), by rw [g], by rw [g]⟩
    obtain ⟨i', gi, wi, ei⟩ := red i hi4
    obtain ⟨j', gj, wj, ej⟩ := red j hj4
    rw [wi, wj, ei, ej]
    rcases gi with g | g | g <;> rcases gj with f | f | f <;> subst g <;> subst f
    · exact same _
    · rw [u0, ul, show (0 : Int) - p = -p by omega, show v 0 - v j' = -(v j' - v 0) by omega]; exact n1
    · rw [u0, uh, show (0 : Int) - (p + q) = -(p + q) by omega, show v 0 - v j' = -(v j' - v 0) by omega]; exact n3
    · rw [u0, ul, show p - (0 : Int) = p by omega]; exact t1
    · exact same _
    · rw [ul, uh, show p - (p + q) = -q by omega, show v i' - v j' = -(v j' - v i') by omega]; exact n2
    · rw [u0, uh, show (p + q) - (0 : Int) = p + q by omega]; exact t3
    · rw [ul, uh, show (p + q) - p = q by omega]; exact t2
    · exact same _
  · have bd : ∀ n, n < 4 → 0 ≤ vlh lo hi p (p + q) n ∧ vlh lo hi p (p + q) n ≤ p + q := fun n hn => by
      rcases nodes n hn with g | g | g | g
      · rw [g, u0]; omega
      · rw [g, ux]; omega
      · rw [g, ul]; omega
      · rw [g, uh]; omega
    have := bd i hi4
    have := bd j hj4
    omega
end Set
theorem wI_set {S T1 TF M0 K L : Int} {H : iM} (hN : nmh M0 S T1 TF) (hTF : 1 ≤ TF) (hK : 0 ≤ K) (hL : 0 ≤ L) (h : hgd S T1 TF H) (hw : wI K L H) {ρ : Nat → Nat} (hρ : rsok 4 ρ) : wI K (L + 2 * K + 2) (rs ρ H) := by
  intro v hv
  have hM := rs_hgd hN hTF h hρ
  by_cases hx : ∃ x, ck x ∧ ρ x = 0
  · obtain ⟨x, hx, ex⟩ := hx
    have lo4 : ∀ i j, i < 4 → j < 4 → -(2 * L) ≤ rs ρ H i j := fun i j hi hj => wI_lo h hL hw (hρ.lt hi) (hρ.lt hj)
    have e1 : ∀ k, k < 4 → rs ρ H x k = rs ρ H 0 k := fun k _ => by unfold rs; rw [ex, hρ.1]
    have e2 : ∀ k, k < 4 → rs ρ H k x = rs ρ H k 0 := fun k _ => by unfold rs; rw [ex, hρ.1]
    have two : ∃ a b, ck a ∧ ck b ∧ x ≠ a ∧ x ≠ b ∧ a ≠ b := by
      unfold ck at *
      by_cases h1 : x = 1
      · exact ⟨2, 3, by omega, by omega, by omega, by omega, by omega⟩
      · by_cases h2 : x = 2
        · exact ⟨1, 3, by omega, by omega, by omega, by omega, by omega⟩
        · exact ⟨1, 2, by omega, by omega, by omega, by omega, by omega⟩
    obtain ⟨a, b, ha, hb, d1, d2, d3⟩ := two
    by_cases hle : v a ≤ v b
    · exact wI_three hK hL hM lo4 hx ha hb d1 d2 d3 e1 e2 hv hle
    · exact wI_three hK hL hM lo4 hx hb ha d2 d1 (Ne.symm d3) e1 e2 hv (by omega)
  · have id4 : ∀ i, i < 4 → ρ i = i := fun i hi => by
      rcases hρ.2 i hi with e | e
      · exact e
      · by_cases hi0 : i = 0
        · rw [e, hi0]
        · exact absurd ⟨i, ⟨by omega, hi⟩, e⟩ hx
    have same : ∀ i j, i < 4 → j < 4 → rs ρ H i j = H i j := fun i j hi hj => by unfold rs; rw [id4 i hi, id4 j hj]
    obtain ⟨u, p, q, r⟩ := hw v (fun i j hi hj hf => by
      have := hv i j hi hj
      rw [same i j hi hj] at this
      exact this hf)
    refine ⟨u, fun i j hi hj hf => ?_, q, fun i j hi hj => ?_⟩
    · rw [same i j hi hj] at hf ⊢
      exact p i j hi hj hf
    · have := r i j hi hj
      omega

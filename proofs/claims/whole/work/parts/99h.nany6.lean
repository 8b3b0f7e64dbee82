/-! all four stages near ANY -/
def xs (X : iM) : Nat → iM
  | 0 => X
  | s + 1 => fw s (xs X s)
theorem xs_le {X : iM} {s : Nat} : ∀ d i j, xs X (s + d) i j ≤ xs X s i j := by
  intro d
  induction d with
  | zero => intro i j; exact Int.le_refl _
  | succ d ih => intro i j; exact Int.le_trans (fw_le (s + d) (xs X (s + d)) i j) (ih i j)
theorem xs_mono {X : iM} {s t : Nat} (h : s ≤ t) (i j : Nat) : xs X t i j ≤ xs X s i j := by
  have := xs_le (X := X) (s := s) (t - s) i j
  rw [show s + (t - s) = t by omega] at this
  exact this
section Near4
variable {M0 S T T1 TF : Int} {O H : iM}
def nst (S T1 TF : Int) (O : iM) (k : Nat) : Prop := stH k O (xs O k) ∧ kk S (xs O k) ∧ jj T1 (xs O k) ∧ ff TF (xs O k)
theorem near4 (hG' : hG S T H) (hO : oHZ M0 H O) (hN : nmb M0 S T) (hO0 : ∀ j, j < 4 → O 0 j ≤ 1) (hA : lA O) (hd : ∀ i, i < 4 → O i i = 1) (hS : T1 + 1 ≤ S) (hk : kk S O) (hj : jj T1 O) (hf : ff TF O) (hfin : ∀ i, i < 4 → 1 ≤ xs O 4 i i) : ∀ k, k < 5 → nst S T1 TF O k := by
  have hNA := AN_is
  obtain ⟨n1, n2, n3, n4, n5, n6⟩ := id hN
  have dg : ∀ s, s ≤ 4 → ∀ i, i < 4 → xs O s i i = 1 := fun s hs i hi => by
    have a := xs_mono (X := O) hs i i
    have b := xs_mono (X := O) (Nat.zero_le s) i i
    have c := hfin i hi
    have e : xs O 0 i i = 1 := hd i hi
    omega
  have lAs : ∀ s, lA (xs O s) := fun s i j hi hj => Int.le_trans (xs_mono (X := O) (Nat.zero_le s) i j) (hA i j hi hj)
  -- a bound and the one the other way, before the stage of one of them
  have late : ∀ s b, s ≤ b → b < 4 → ∀ a, a < 4 → xs O s a b < AN → xs O s b a < AN → 1 ≤ nps (xs O s a b) (xs O s b a) := fun s b hs hb a ha f1 f2 => by
    have m1 := xs_mono (X := O) hs a b
    have m2 := xs_mono (X := O) hs b a
    have t := fw_top (X := xs O b) (k := b) (i := a) (j := a) (by omega) (by omega)
    have u := xs_mono (X := O) (show b + 1 ≤ 4 by omega) a a
    have e : xs O (b + 1) a a = fw b (xs O b) a a := rfl
    have v := nps_mono m1 m2
    have w := hfin a ha
    omega
  have cc : ∀ s, s ≤ 4 → (∀ l, l < s → tp l (xs O s)) → c2 (xs O s) := fun s hs ht a b ha hb f1 f2 => by
    by_cases h : b < s
    · have := ht b h a a ha ha f1 f2
      rw [dg s hs a ha] at this
      exact this
    · exact late s b (by omega) hb a ha f1 f2
  intro k
  induction k with
  | zero =>
    intro _
    exact ⟨⟨hA, hd, hO0, fun l h => absurd h (Nat.not_lt_zero l), fun a b _ _ _ _ => Or.inl rfl, fun i j _ _ => Int.le_refl _, cc 0 (by omega) (fun l h => absurd h (Nat.not_lt_zero l))⟩, hk, hj, hf⟩
  | succ k ih =>
    intro hk5
    obtain ⟨hX, h1, h2, h3⟩ := ih (by omega)
    have hX' := hX
    obtain ⟨_, _, x3, x4, x5, x6, x7⟩ := hX'
    have hk4 : k < 4 := by omega
    have h3a : c2a k (xs O k) := fun a b hka ha hb f1 f2 => by
      rw [nps_comm]
      exact late (k + 1) a (by omega) ha b hb f2 f1
    have tps : ∀ l, l < k + 1 → tp l (xs O (k + 1)) := stg_tp hG' hO hN hO0 hk4 hX h3a
    refine ⟨⟨lAs _, dg _ (by omega), fun j hj => Int.le_trans (fw_le k (xs O k) 0 j) (x3 j hj), tps, fw_dcp (lAs k) hk4 (dg k (by omega)) x5, fun i j hi hj => Int.le_trans (fw_le k (xs O k) i j) (x6 i j hi hj), cc _ (by omega) tps⟩, ?_, ?_, ?_⟩
    · exact fw_kk (lAs k) hk4 hS (by omega) x3 (dg k (by omega)) h1 h2
    · exact fw_jj (lAs k) hk4 hS x3 (dg k (by omega)) (fun h0 => x4 0 h0) h1 h2 (by omega)
    · exact fw_ff (lAs k) hk4 h3 (dg k (by omega))
end Near4
/-- a closed matrix below stays below -/
theorem sm_clip {a b c d : Int} (h1 : a ≤ c) (h2 : b ≤ d) (hc : c ≤ AN) (hd : d ≤ AN) : min AN (sm a b) ≤ min AN (sm c d) := by
  by_cases e1 : c = AN
  · rw [e1, A_sm]
    omega
  by_cases e2 : d = AN
  · rw [e2, sm_A]
    omega
  rw [sm_nps (by omega) (by omega), sm_nps (by omega) (by omega)]
  have := nps_mono h1 h2
  omega
theorem xs_ge {C O : iM} (hA : lA O) (hC : ∀ l, l < 4 → tp l C) (hCO : ∀ i j, i < 4 → j < 4 → C i j ≤ O i j) : ∀ s, s < 5 → ∀ i j, i < 4 → j < 4 → C i j ≤ xs O s i j := by
  intro s
  induction s with
  | zero => intro _ i j hi hj; exact hCO i j hi hj
  | succ s ih =>
    intro hs i j hi hj
    have hs4 : s < 4 := by omega
    have a := ih (by omega) i j hi hj
    have b := ih (by omega) i s hi hs4
    have c := ih (by omega) s j hs4 hj
    have lAs : lA (xs O s) := fun i j hi hj => Int.le_trans (xs_mono (X := O) (Nat.zero_le s) i j) (hA i j hi hj)
    rcases fw_or lAs hs4 hi hj with e | ⟨f1, f2, e, _⟩
    · show C i j ≤ fw s (xs O s) i j
      rw [e]
      exact a
    · show C i j ≤ fw s (xs O s) i j
      rw [e]
      have t := hC s hs4 i j hi hj (by omega) (by omega)
      have := nps_mono b c
      omega

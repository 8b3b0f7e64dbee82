/-! THE HAND near ANY: the SUM of two bounds that aren't ANY, as numbers -/
def nps (a b : Int) : Int := a + b - (if a % 2 = 1 ∨ b % 2 = 1 then 1 else 0)
theorem nps_bd (a b : Int) : a + b - 1 ≤ nps a b ∧ nps a b ≤ a + b := by
  unfold nps
  split <;> omega
theorem nps_comm (a b : Int) : nps a b = nps b a := by
  unfold nps
  by_cases h : a % 2 = 1 <;> by_cases g : b % 2 = 1 <;> simp only [h, g, true_or, or_true, or_false, false_or, if_true, if_false] <;> omega
theorem nps_assoc (a b c : Int) : nps (nps a b) c = nps a (nps b c) := by
  unfold nps
  by_cases p1 : a % 2 = 1 <;> by_cases p2 : b % 2 = 1 <;> by_cases p3 : c % 2 = 1 <;> simp only [p1, p2, p3, true_or, or_true, or_false, false_or, if_true, if_false] <;> (repeat' split) <;> omega
theorem nps_mono {a b c d : Int} (h1 : a ≤ c) (h2 : b ≤ d) : nps a b ≤ nps c d := by
  unfold nps
  split <;> split <;> omega
theorem nps_one (a : Int) : nps a 1 = a := by
  unfold nps
  split <;> omega
theorem one_nps (a : Int) : nps 1 a = a := by rw [nps_comm, nps_one]
theorem nps_geR {a b : Int} (h : 1 ≤ b) : a ≤ nps a b := by
  have := nps_mono (Int.le_refl a) h
  rw [nps_one] at this
  exact this
theorem nps_geL {a b : Int} (h : 1 ≤ a) : b ≤ nps a b := by
  rw [nps_comm]
  exact nps_geR h
theorem nps_leR {a b : Int} (h : b ≤ 1) : nps a b ≤ a := by
  have := nps_mono (Int.le_refl a) h
  rw [nps_one] at this
  exact this
theorem nps_leL {a b : Int} (h : a ≤ 1) : nps a b ≤ b := by
  rw [nps_comm]
  exact nps_leR h
theorem sm_nps {a b : Int} (ha : a < AN) (hb : b < AN) : sm a b = nps a b := by
  rw [sm_fin (by omega) (by omega)]
  rfl
/-- closed through l, as numbers -/
def tp (l : Nat) (X : iM) : Prop := ∀ i j, i < 4 → j < 4 → X i l < AN → X l j < AN → X i j ≤ nps (X i l) (X l j)
def ck (q : Nat) : Prop := 0 < q ∧ q < 4
/-- a far bound on clock x is of one clock alone -/
def kk (S : Int) (X : iM) : Prop := ∀ q x i, ck q → ck x → ck i → q ≠ x → i ≠ x → q ≠ i → S < X q x → X q x < AN → X i x ≤ S
def jj (T : Int) (X : iM) : Prop := ∀ q x i, ck q → ck x → ck i → q ≠ x → i ≠ x → q ≠ i → T < X q 0 → X q 0 < AN → X q x = AN → X i 0 ≤ T
def ff (T : Int) (X : iM) : Prop := (∃ k, ck k ∧ X k 0 < AN) → ∃ y, ck y ∧ X y 0 ≤ T
def j2 (T : Int) (X : iM) : Prop := ∀ q p, ck q → ck p → q ≠ p → T < X q 0 → X q 0 < AN → X p 0 ≤ T
theorem third {a b : Nat} (ha : ck a) (hb : ck b) (h : a ≠ b) : ∃ c, ck c ∧ c ≠ a ∧ c ≠ b := by
  unfold ck at *
  by_cases h1 : a ≠ 1 ∧ b ≠ 1
  · exact ⟨1, by omega, by omega, by omega⟩
  · by_cases h2 : a ≠ 2 ∧ b ≠ 2
    · exact ⟨2, by omega, by omega, by omega⟩
    · exact ⟨3, by omega, by omega, by omega⟩
def lA (X : iM) : Prop := ∀ i j, i < 4 → j < 4 → X i j ≤ AN
theorem j2_of {S T1 T : Int} {X : iM} (hA : lA X) (hS0 : 0 ≤ S) (hS : T1 + 1 ≤ S) (hT : 0 ≤ T) (hN : S + T < AN) (hc : ∀ l, l < 4 → tp l X) (hk : kk S X) (hj : jj T1 X) (hf : ff T X) : j2 (S + T) X := by
  intro q p hq hp hqp h1 h2
  obtain ⟨y, hy, hyT⟩ := hf ⟨q, hq, h2⟩
  by_cases hyq : y = q
  · rw [hyq] at hyT
    omega
  by_cases hyp : y = p
  · rw [hyp] at hyT
    omega
  have a := hA q y hq.2 hy.2
  by_cases hF : X q y < AN
  · have t := hc y hy.2 q 0 hq.2 (by omega) hF (by omega)
    have b := nps_bd (X q y) (X y 0)
    have k := hk q y p hq hy hp (Ne.symm hyq) (Ne.symm hyp) hqp (by omega) hF
    have t2 := hc y hy.2 p 0 hp.2 (by omega) (by omega) (by omega)
    have b2 := nps_bd (X p y) (X y 0)
    omega
  · have := hj q y p hq hy hp (Ne.symm hyq) (Ne.symm hyp) (fun e => hqp e) (by omega) h2 (by omega)
    omega

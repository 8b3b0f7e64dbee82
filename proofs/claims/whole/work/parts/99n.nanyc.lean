/-! MEET: bound by bound, or all at once -/
theorem ff_le {T T' : Int} {X : iM} (h : ff T X) (hT : T ≤ T') : ff T' X := fun e => by
  obtain ⟨y, a, b⟩ := h e
  exact ⟨y, a, by omega⟩
theorem hI_TF {S T1 T T' K L : Int} {Z : Nat → Int32} (h : hI S T1 T K L Z) (hT : T ≤ T') : hI S T1 T' K L Z := by
  obtain ⟨⟨a, b, c, d, e, f, g⟩, w⟩ := h
  exact ⟨⟨a, b, c, d, e, f, ff_le g hT⟩, w⟩
def zs (Sz : Nat → Int32) (k : Nat) : iM := fun i j => (Sz (25 * k + (5 * i + j))).toInt
/-- a state's zone, as THE HAND may meet it -/
def zsOk (M0 TF : Int) (X : iM) : Prop := (∀ i j, i < 4 → j < 4 → i ≠ j → X i j = AN ∨ (-M0 ≤ X i j ∧ X i j ≤ M0)) ∧ (∀ i, i < 4 → X i i = 1) ∧ ff TF X
/-- closed, and below both -/
def cbl (Z : Nat → Int32) (X C : iM) : Prop := (∀ l, l < 4 → tp l C) ∧ ∀ i j, i < 4 → j < 4 → C i j ≤ zi Z i j ∧ C i j ≤ X i j
def mq (S T1 M0 K L : Int) (Z : Nat → Int32) (X : iM) (n : Nat) (q : zQ) : Prop := (q.2 = 1 ∧ ∀ C, cbl Z X C → ∃ a, a < 4 ∧ C a a < 1) ∨ (q.2 = 0 ∧ hI S T1 M0 K L q.1 ∧ (∀ a b, a < 4 → b < 4 → zi q.1 a b ≤ zi Z a b) ∧ (∀ a b, a < 4 → b < 4 → 5 * a + b < n → zi q.1 a b ≤ X a b) ∧ ∀ C, cbl Z X C → ∀ a b, a < 4 → b < 4 → C a b ≤ nz q.1 a b)
section Meet
variable {S T1 TF K L M0 : Int} {Z Y : Nat → Int32} {Sz : Nat → Int32} {k : Nat}
theorem mq_step (hN : nmh M0 S T1 M0) (hK : M0 + 1 ≤ 2 * K) (hLM : M0 ≤ 2 * L) (hL2 : 8 * (2 * L + 1) ≤ 536870000) (hZ : zsOk M0 TF (zs Sz k)) {n : Nat} (hn : n < 20) {q : zQ} (h : mq S T1 M0 K L Z (zs Sz k) n q) : mq S T1 M0 K L Z (zs Sz k) (n + 1) (qm1 Sz k n q) := by
  have hNA := AN_is
  unfold qm1
  by_cases h4 : n % 5 < 4
  · rw [if_pos h4]
    obtain ⟨W, e⟩ := q
    rcases h with ⟨h1, h2⟩ | ⟨h1, h2, h3, h5, h6⟩
    · refine Or.inl ?_
      have en : qtg 4 (n / 5) (n % 5) (Sz (25 * k + n)) (W, e) = (W, e) := by
        unfold qtg
        rw [if_neg (by show ¬ (e = 0); rw [show e = 1 from h1]; decide)]
      rw [en]
      exact ⟨h1, h2⟩
    · have he : e = 0 := h1
      subst he
      have h2 : hI S T1 M0 K L W := h2
      have hp : n / 5 < 4 := by omega
      have eb : (Sz (25 * k + n)).toInt = zs Sz k (n / 5) (n % 5) := by
        unfold zs
        rw [show 5 * (n / 5) + n % 5 = n by omega]
      by_cases hle : zi W (n / 5) (n % 5) ≤ (Sz (25 * k + n)).toInt
      · rw [qtg_same hle]
        refine Or.inr ⟨rfl, h2, h3, fun a b ha hb hab => ?_, h6⟩
        by_cases hc : 5 * a + b < n
        · exact h5 a b ha hb hc
        · rw [show a = n / 5 by omega, show b = n % 5 by omega, ← eb]
          exact hle
      · have hlt : (Sz (25 * k + n)).toInt < zi W (n / 5) (n % 5) := by omega
        have hpq : n / 5 ≠ n % 5 := fun t => by
          have d := (hI_rg (by have := hN.1; omega) h2).2 (n / 5) hp
          have z := hZ.2.1 (n / 5) hp
          rw [eb] at hlt
          rw [← t] at hlt
          omega
        have wA := ((hI_rg (by have := hN.1; omega) h2).1 (n / 5) (n % 5) hp h4).2
        have sb : -M0 ≤ (Sz (25 * k + n)).toInt ∧ (Sz (25 * k + n)).toInt ≤ M0 := by
          rw [eb] at hlt ⊢
          exact (hZ.1 (n / 5) (n % 5) hp h4 hpq).resolve_left (by omega)
        rw [qtg_cut hlt, show qcl 4 (fu W (5 * (n / 5) + n % 5) (Sz (25 * k + n)), 0) = (cl 4 (fu W (5 * (n / 5) + n % 5) (Sz (25 * k + n))), em 4 (cl 4 (fu W (5 * (n / 5) + n % 5) (Sz (25 * k + n)))) 0) from rfl]
        have fuv : ∀ C, cbl Z (zs Sz k) C → ∀ a b, a < 4 → b < 4 → C a b ≤ nz (fu W (5 * (n / 5) + n % 5) (Sz (25 * k + n))) a b := fun C hC a b ha hb => by
          rw [nz_fu hp h4 _ ha hb]
          split
          · rename_i t
            rw [t.1, t.2, eb]
            exact (hC.2 _ _ hp h4).2
          · exact h6 C hC a b ha hb
        have lf : lA (nz (fu W (5 * (n / 5) + n % 5) (Sz (25 * k + n)))) := fun a b ha hb => by
          rw [nz_fu hp h4 _ ha hb]
          split
          · omega
          · exact h2.1.1 a b ha hb
        rcases hI_tg (TF' := M0) hN hK hLM hL2 h2 hp h4 hpq sb sb.2 (Int.le_refl _) hlt with ⟨g1, g2, g3⟩ | ⟨g1, i, hi, g2⟩
        · rw [g1]
          refine Or.inr ⟨rfl, g2, ?_⟩
          have le : ∀ a b, a < 4 → b < 4 → zi (cl 4 (fu W (5 * (n / 5) + n % 5) (Sz (25 * k + n)))) a b ≤ if a = n / 5 ∧ b = n % 5 then (Sz (25 * k + n)).toInt else zi W a b := fun a b ha hb => by
            have m := xs_mono (X := nz (fu W (5 * (n / 5) + n % 5) (Sz (25 * k + n)))) (show 0 ≤ 4 by omega) a b
            rw [← g3, nz_in _ ha hb] at m
            have m2 : xs (nz (fu W (5 * (n / 5) + n % 5) (Sz (25 * k + n)))) 0 a b = nz (fu W (5 * (n / 5) + n % 5) (Sz (25 * k + n))) a b := rfl
            rw [m2, nz_fu hp h4 _ ha hb, nz_in _ ha hb] at m
            exact m
          refine ⟨fun a b ha hb => ?_, fun a b ha hb hab => ?_, fun C hC a b ha hb => ?_⟩
          · show zi (cl 4 (fu W (5 * (n / 5) + n % 5) (Sz (25 * k + n)))) a b ≤ zi Z a b
            have l := le a b ha hb
            have z : zi W a b ≤ zi Z a b := h3 a b ha hb
            split at l
            · rename_i t
              have hlt2 : (Sz (25 * k + n)).toInt < zi W a b := by
                rw [t.1, t.2]
                exact hlt
              omega
            · omega
          · show zi (cl 4 (fu W (5 * (n / 5) + n % 5) (Sz (25 * k + n)))) a b ≤ zs Sz k a b
            have l := le a b ha hb
            split at l
            · rename_i t
              rw [eb] at l
              rw [t.1, t.2] at l ⊢
              exact l
            · rename_i t
              have z : zi W a b ≤ zs Sz k a b := h5 a b ha hb (by omega)
              omega
          · show C a b ≤ nz (cl 4 (fu W (5 * (n / 5) + n % 5) (Sz (25 * k + n)))) a b
            rw [g3]
            exact xs_ge lf hC.1 (fuv C hC) 4 (by omega) a b ha hb
        · rw [g1]
          refine Or.inl ⟨rfl, fun C hC => ⟨i, hi, ?_⟩⟩
          have := xs_ge lf hC.1 (fuv C hC) 4 (by omega) i i hi hi
          omega
  · rw [if_neg h4]
    rcases h with h | ⟨h1, h2, h3, h5, h6⟩
    · exact Or.inl h
    · exact Or.inr ⟨h1, h2, h3, fun a b ha hb hab => h5 a b ha hb (by omega), h6⟩
/-- the reference's meet is: all bounds at once, closed once -/
theorem meet_is (hN : nmh M0 S T1 M0) (hTM : TF ≤ M0) (hT0 : 0 ≤ TF) (hK : M0 + 1 ≤ 2 * K) (hLM : M0 ≤ 2 * L) (hL2 : 8 * (2 * L + 1) ≤ 536870000) (h : hI S T1 TF K L Z) (hZ : zsOk M0 TF (zs Sz k)) (hY : ∀ i j, i < 4 → j < 4 → zi Y i j = min (zi Z i j) (zs Sz k i j)) : (qm Sz k (Z, 0)).2 = em 4 (cl 4 Y) 0 ∧ (em 4 (cl 4 Y) 0 = 0 → hI S T1 TF K L (cl 4 Y) ∧ hI S T1 TF K L (qm Sz k (Z, 0)).1 ∧ ∀ i j, i < 4 → j < 4 → (qm Sz k (Z, 0)).1 (5 * i + j) = cl 4 Y (5 * i + j)) := by
  have hNA := AN_is
  have r := it_inv (qm1 Sz k) (mq S T1 M0 K L Z (zs Sz k)) 20 (fun n q hn hq => mq_step hN hK hLM hL2 hZ hn hq) 20 0 (Z, 0) (by omega) (Or.inr ⟨rfl, hI_TF h hTM, fun a b _ _ => Int.le_refl _, fun a b _ _ t => absurd t (Nat.not_lt_zero _), fun C hC a b ha hb => by rw [nz_in _ ha hb]; exact (hC.2 a b ha hb).1⟩)
  have eq : it (qm1 Sz k) 0 20 (Z, 0) = qm Sz k (Z, 0) := rfl
  rw [eq] at r
  obtain ⟨rz, dz⟩ := hI_rg (by have := hN.1; omega) h
  have hp : putS M0 Z Y := by
    refine ⟨fun i j hi hj => ?_, fun i hi => ?_, fun i j hi hj hij hf => ?_⟩
    · rw [hY i j hi hj]; omega
    · rw [hY i i hi hi, dz i hi, hZ.2.1 i hi]; rfl
    · rw [hY i j hi hj] at hf ⊢
      have z := hZ.1 i j hi hj hij
      unfold ohz
      omega
  have nmin : ∀ i j, i < 4 → j < 4 → nz Y i j = min (nz Z i j) (zs Sz k i j) := fun i j hi hj => by
    rw [nz_in _ hi hj, nz_in _ hi hj]; exact hY i j hi hj
  have hf : ff TF (nz Y) := by
    intro ⟨y, hy, hyf⟩
    rw [nmin y 0 hy.2 (by omega)] at hyf
    by_cases g : nz Z y 0 < AN
    · obtain ⟨w, a, b⟩ := h.1.2.2.2.2.2.2 ⟨y, hy, g⟩
      exact ⟨w, a, by rw [nmin w 0 a.2 (by omega)]; omega⟩
    · obtain ⟨w, a, b⟩ := hZ.2.2 ⟨y, hy, by omega⟩
      exact ⟨w, a, by rw [nmin w 0 a.2 (by omega)]; omega⟩
  have hN2 : nmh M0 S T1 TF := by
    obtain ⟨a, b, c, d, e⟩ := hN
    exact ⟨a, b, c, hT0, by omega⟩
  have lY : lA (nz Y) := fun i j hi hj => by
    rw [nmin i j hi hj]
    have := h.1.1 i j hi hj
    omega
  -- the reference's last zone lies below Y
  have below : ∀ {q : zQ}, hI S T1 M0 K L q.1 → (∀ a b, a < 4 → b < 4 → zi q.1 a b ≤ zi Z a b) → (∀ a b, a < 4 → b < 4 → 5 * a + b < 20 → zi q.1 a b ≤ zs Sz k a b) → ∀ a b, a < 4 → b < 4 → nz q.1 a b ≤ xs (nz Y) 4 a b := fun g1 g2 g3 => xs_ge lY g1.1.2.2.2.1 (fun a b ha hb => by
    rw [nmin a b ha hb, nz_in _ ha hb, nz_in _ ha hb]
    have := g2 a b ha hb
    have := g3 a b ha hb (by omega)
    omega) 4 (by omega)
  rcases hI_put hN2 hK hLM hL2 h hp hf with ⟨g1, g2, g3⟩ | ⟨g1, i, hi, g2⟩
  · have hC : cbl Z (zs Sz k) (nz (cl 4 Y)) := by
      refine ⟨g2.1.2.2.2.1, fun a b ha hb => ?_⟩
      rw [g3]
      have m := xs_mono (X := nz Y) (show 0 ≤ 4 by omega) a b
      have m2 : xs (nz Y) 0 a b = nz Y a b := rfl
      rw [m2, nmin a b ha hb, nz_in _ ha hb] at m
      omega
    rcases r with ⟨r1, r2⟩ | ⟨r1, r2, r3, r5, r6⟩
    · obtain ⟨a, ha, hn⟩ := r2 _ hC
      have := g2.1.2.1 a ha
      omega
    · refine ⟨by rw [r1, g1], fun _ => ?_⟩
      have ev : ∀ i j, i < 4 → j < 4 → (qm Sz k (Z, 0)).1 (5 * i + j) = cl 4 Y (5 * i + j) := fun i j hi hj => by
        have a := r6 _ hC i j hi hj
        have b := below r2 r3 r5 i j hi hj
        rw [← g3] at b
        rw [nz_in _ hi hj, nz_in _ hi hj] at a b
        unfold zi at a b
        exact i32_eq.mpr (by omega)
      refine ⟨g2, ?_, ev⟩
      have en : nz (qm Sz k (Z, 0)).1 = nz (cl 4 Y) := by
        funext a b
        unfold nz zi
        by_cases hab : a < 4 ∧ b < 4
        · rw [if_pos hab, if_pos hab, ev a b hab.1 hab.2]
        · rw [if_neg hab, if_neg hab]
      unfold hI
      rw [en]
      exact g2
  · rcases r with ⟨r1, r2⟩ | ⟨r1, r2, r3, r5, r6⟩
    · exact ⟨by rw [r1, g1], fun t => by rw [g1] at t; exact absurd t (by decide)⟩
    · have b := below r2 r3 r5 i i hi hi
      have := r2.1.2.1 i hi
      omega
end Meet

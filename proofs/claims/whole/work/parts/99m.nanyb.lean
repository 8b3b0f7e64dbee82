/-! THE HAND's operations keep its zone good -/
section HO
variable {S T1 TF K L M0 : Int} {Z Y : Nat → Int32}
/-- Y: Z with small bounds put in -/
def putS (M0 : Int) (Z Y : Nat → Int32) : Prop := (∀ i j, i < 4 → j < 4 → zi Y i j ≤ zi Z i j) ∧ (∀ i, i < 4 → zi Y i i = 1) ∧ ∀ i j, i < 4 → j < 4 → i ≠ j → zi Y i j < AN → ohz M0 (zi Y i j) (zi Z i j)
theorem putS_oHZ (h : putS M0 Z Y) : oHZ M0 (nz Z) (nz Y) := by
  refine ⟨fun i j hi hj => ?_, fun i j hi hj hij hf => ?_⟩
  · rw [nz_in _ hi hj, nz_in _ hi hj]
    exact h.1 i j hi hj
  · rw [nz_in _ hi hj] at hf ⊢
    rw [nz_in _ hi hj]
    exact h.2.2 i j hi hj hij hf
theorem hI_put {TF' : Int} (hN : nmh M0 S T1 TF) (hK : M0 + 1 ≤ 2 * K) (hLM : M0 ≤ 2 * L) (hL2 : 8 * (2 * L + 1) ≤ 536870000) (h : hI S T1 TF K L Z) (hp : putS M0 Z Y) (hf : ff TF' (nz Y)) : (em 4 (cl 4 Y) 0 = 0 ∧ hI S T1 TF' K L (cl 4 Y) ∧ nz (cl 4 Y) = xs (nz Y) 4) ∨ (em 4 (cl 4 Y) 0 = 1 ∧ ∃ i, i < 4 ∧ xs (nz Y) 4 i i < 1) := by
  have hNA := AN_is
  have n1 := hN.1
  obtain ⟨r, d⟩ := hI_rg (by omega) h
  have hO := putS_oHZ hp
  have hd : ∀ i, i < 4 → nz Y i i = 1 := fun i hi => by rw [nz_in _ hi hi]; exact hp.2.1 i hi
  have ry : ∀ i j, i < 4 → j < 4 → -(2 * L) ≤ zi Y i j ∧ zi Y i j ≤ AN := fun i j hi hj => by
    have a := r i j hi hj
    have b := hp.1 i j hi hj
    refine ⟨?_, by omega⟩
    by_cases hij : i = j
    · subst hij
      have := hp.2.1 i hi
      omega
    · by_cases hfn : zi Y i j < AN
      · rcases hp.2.2 i j hi hj hij hfn with e | e <;> omega
      · omega
  rcases cl_xs (B := 2 * L) (by omega) hL2 ry hp.2.1 with ⟨g1, g2, g3⟩ | g
  · refine Or.inl ⟨g1, ?_, g3⟩
    unfold hI
    rw [g3]
    exact ⟨near_hgd hN h.1 hO hd hf g2, wI_xs (fun i j hi hj => by rw [nz_in _ hi hj]; exact (ry i j hi hj).2) (wI_cut h.1.1 hK hO hd h.2)⟩
  · exact Or.inr g
theorem nz_fu {p q : Nat} (hp : p < 4) (hq : q < 4) (b : Int32) {i j : Nat} (hi : i < 4) (hj : j < 4) : nz (fu Z (5 * p + q) b) i j = if i = p ∧ j = q then b.toInt else nz Z i j := by
  rw [nz_in _ hi hj, nz_in _ hi hj, zi_fu (by omega) (by omega)]
  rfl
theorem putS_fu {p q : Nat} (hp : p < 4) (hq : q < 4) (hpq : p ≠ q) {b : Int32} (hb : -M0 ≤ b.toInt ∧ b.toInt ≤ M0) (hlt : b.toInt < zi Z p q) (hd : ∀ i, i < 4 → zi Z i i = 1) : putS M0 Z (fu Z (5 * p + q) b) := by
  have e : ∀ i j, i < 4 → j < 4 → zi (fu Z (5 * p + q) b) i j = if i = p ∧ j = q then b.toInt else zi Z i j := fun i j hi hj => zi_fu (by omega) (by omega) b
  refine ⟨fun i j hi hj => ?_, fun i hi => ?_, fun i j hi hj hij hf => ?_⟩
  · rw [e i j hi hj]
    split
    · rename_i t; rw [t.1, t.2]; omega
    · exact Int.le_refl _
  · rw [e i i hi hi, if_neg (fun t => hpq (t.1.symm.trans t.2))]
    exact hd i hi
  · rw [e i j hi hj]
    split
    · exact Or.inr hb
    · exact Or.inl rfl
theorem ff_fu {TF' : Int} {p q : Nat} (hp : p < 4) (hq : q < 4) (hpq : p ≠ q) {b : Int32} (hb : b.toInt ≤ TF') (hT : TF ≤ TF') (hlt : b.toInt < zi Z p q) (h : ff TF (nz Z)) : ff TF' (nz (fu Z (5 * p + q) b)) := by
  intro ⟨k, hk, hf⟩
  by_cases hq0 : q = 0
  · subst hq0
    exact ⟨p, ⟨by omega, hp⟩, by rw [nz_fu hp hq b hp hq, if_pos ⟨rfl, rfl⟩]; exact hb⟩
  · rw [nz_fu hp hq b hk.2 (by omega), if_neg (fun t => hq0 t.2.symm)] at hf
    obtain ⟨y, hy, g⟩ := h ⟨k, hk, hf⟩
    refine ⟨y, hy, ?_⟩
    rw [nz_fu hp hq b hy.2 (by omega), if_neg (fun t => hq0 t.2.symm)]
    omega
theorem nz_pz : nz (pz 4 Z) = pm (nz Z) := by
  funext i j
  by_cases h : i < 4 ∧ j < 4
  · rw [nz_in _ h.1 h.2, pz_zi (by omega) h.1 h.2]
    unfold pm
    split
    · rfl
    · exact (nz_in _ h.1 h.2).symm
  · have e : ∀ V, nz V i j = AN := fun V => if_neg h
    unfold pm
    rw [e, e]
    split <;> rfl
theorem nz_sn (c : Int32) (hd : zi Z 0 0 = 1) : nz (sn Z 4 c Z) = rs (rc c) (nz Z) := by
  have rcl : ∀ i, i < 4 → rc c i < 4 := fun i hi => (rc_ok 4 c).lt hi
  have rcg : ∀ i, ¬ i < 4 → rc c i = i := fun i hi => if_neg (fun t => hi t.2.1)
  funext i j
  unfold rs
  by_cases h : i < 4 ∧ j < 4
  · rw [nz_in _ h.1 h.2, sn_zi (by omega) (by omega) hd c h.1 h.2, nz_in _ (rcl i h.1) (rcl j h.2)]
    rfl
  · have e : nz (sn Z 4 c Z) i j = AN := if_neg h
    rw [e]
    refine (if_neg (fun t => h ?_)).symm
    refine ⟨?_, ?_⟩
    · by_cases g : i < 4
      · exact g
      · rw [rcg i g] at t; exact t.1
    · by_cases g : j < 4
      · exact g
      · rw [rcg j g] at t; exact t.2
theorem hI_pass (hK : 0 ≤ K) (h : hI S T1 TF K L Z) : hI S T1 TF K (L + K + 1) (pz 4 Z) := by
  unfold hI
  rw [nz_pz]
  exact ⟨pm_hgd h.1, wI_pass hK h.1 h.2⟩
theorem hI_set (hN : nmh M0 S T1 TF) (hTF : 1 ≤ TF) (hK : 0 ≤ K) (hL : 0 ≤ L) (h : hI S T1 TF K L Z) (c : Int32) : hI (S + TF) T1 TF K (L + 2 * K + 2) (sn Z 4 c Z) := by
  unfold hI
  rw [nz_sn c ((hI_rg hL h).2 0 (by omega))]
  exact ⟨rs_hgd hN hTF h.1 (rc_ok 4 c), wI_set hN hTF hK hL h.1 h.2 (rc_ok 4 c)⟩
/-- TIGHTENED -/
theorem hI_tg {TF' : Int} (hN : nmh M0 S T1 TF) (hK : M0 + 1 ≤ 2 * K) (hLM : M0 ≤ 2 * L) (hL2 : 8 * (2 * L + 1) ≤ 536870000) (h : hI S T1 TF K L Z) {p q : Nat} (hp : p < 4) (hq : q < 4) (hpq : p ≠ q) {b : Int32} (hb : -M0 ≤ b.toInt ∧ b.toInt ≤ M0) (hbT : b.toInt ≤ TF') (hT : TF ≤ TF') (hlt : b.toInt < zi Z p q) : (em 4 (cl 4 (fu Z (5 * p + q) b)) 0 = 0 ∧ hI S T1 TF' K L (cl 4 (fu Z (5 * p + q) b)) ∧ nz (cl 4 (fu Z (5 * p + q) b)) = xs (nz (fu Z (5 * p + q) b)) 4) ∨ (em 4 (cl 4 (fu Z (5 * p + q) b)) 0 = 1 ∧ ∃ i, i < 4 ∧ xs (nz (fu Z (5 * p + q) b)) 4 i i < 1) :=
  hI_put hN hK hLM hL2 h (putS_fu hp hq hpq hb hlt (hI_rg (by have := hN.1; omega) h).2) (ff_fu hp hq hpq hbT hT hlt h.1.2.2.2.2.2.2)
end HO

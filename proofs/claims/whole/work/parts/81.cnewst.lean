/-! the class's newState: the statement that the walk uses -/
/-- what newState leaves: frame and fields -/
def nwF (κ : kS) (k : Nat) (par : Option Nat) (lim : Int32) (κ' : kS) : Prop :=
  (∀ kd ix, ¬ (kd = 1 ∧ ix = 0) → ¬ nid k kd ix → (∀ j, par = some j → ¬ (kd = 19 ∧ ix = j)) → κ' kd ix = κ kd ix) ∧ κ' 1 0 = fu (κ 1 0) 3 (J (k + 1)) ∧ (∀ i, i < 3 → κ' 20 k i = κ 5 0 i) ∧ (κ' 19 k 0 = J k ∧ κ' 19 k 5 = parI κ par ∧ κ' 19 k 9 = parD κ par ∧ κ' 19 k 6 = 0 ∧ κ' 19 k 7 = 0 ∧ κ' 19 k 8 = 0 ∧ κ' 19 k 11 = lim) ∧ ∀ j, par = some j → κ' 19 j = fu (κ 19 j) 6 (κ 19 j 6 + 1)
def nwO (D : kD) (κ : kS) (σ : mS) (z k : Nat) (D' : kD) (κ' : kS) (c s : Nat) : Prop := Dx D D' ∧ YW D' κ' σ ∧ FZ D' κ' (z + c) ∧ (c = 7 * (N (κ' 3 0 0) - N (κ 3 0 0)) ∧ s = 66 * (N (κ' 3 0 0) - N (κ 3 0 0))) ∧ sml (κ' 3 0 0) 200 ∧ k < N (κ' 3 0 0) ∧ N (κ 3 0 0) ≤ N (κ' 3 0 0) ∧ ∀ j, j < N (κ' 3 0 0) → κ' 19 j 0 = J j
theorem jmin {k : Nat} (hk : k < 200) : (if (199 : Int32) < J k then (199 : Int32) else J k) = J k := by
  rw [if_neg]
  rw [show (199 : Int32) = J 199 from rfl, J_lt (by omega) (by omega)]
  omega
theorem nsO_ky {κ κ' : kS} {k : Nat} {par : Option Nat} {lim : Int32} (h : nsO κ k par lim κ') : ky κ κ' ∧ kxd κ κ' ∧ κ' 3 0 0 = κ 3 0 0 := by
  have f : ∀ kd ix, kd ≠ 1 → kd ≠ 19 → kd ≠ 20 → κ' kd ix = κ kd ix := fun kd ix h1 h19 h20 => h.1 kd ix (fun t => h1 t.1) (fun t => h19 t.1) (fun t => h20 t.1) (fun j _ t => h19 t.1)
  have e1 : κ' 1 0 1 = κ 1 0 1 := by rw [h.2.1, fu_n (by decide)]
  refine ⟨⟨e1, ?_, ?_, ?_, ?_, ?_, ?_, ?_⟩, ⟨e1, ?_, ?_, ?_⟩, ?_⟩
  all_goals first | (funext y; exact f _ y (by decide) (by decide) (by decide)) | (intro y; exact f _ y (by decide) (by decide) (by decide)) | rw [f _ _ (by decide) (by decide) (by decide)]
section NS
variable {D : kD} {κ : kS} {σ : mS} {z k : Nat}
theorem nsO_num {κ1 κ' : kS} {par : Option Nat} {lim : Int32} (h : nsO κ1 k par lim κ') (hn : ∀ j, j < N (κ1 3 0 0) → κ1 19 j 0 = J j) : ∀ j, j < N (κ1 3 0 0) → κ' 19 j 0 = J j := by
  intro j hj
  by_cases g : j = k
  · rw [g, h.2.2.2.1.1, ← g]
    exact hn j hj
  · cases par with
    | none => rw [h.1 19 j (by omega) (fun t => g t.2) (by omega) (fun _ t => by cases t)]; exact hn j hj
    | some i =>
      by_cases g2 : j = i
      · rw [g2, h.2.2.2.2 i rfl, fu_n (by decide), ← g2]; exact hn j hj
      · rw [h.1 19 j (by omega) (fun t => g t.2) (by omega) (fun i' t t2 => by cases t; exact g2 t2.2)]; exact hn j hj
theorem newState_y (h : YW D κ σ) (hF : FZ D κ z) (hs : sml (κ 3 0 0) 200) (hnum : ∀ j, j < N (κ 3 0 0) → κ 19 j 0 = J j) {p : Nat → Nat} (hp : ∀ a, a < N (σ 1 0) → κ 5 0 a = J (p a) ∧ p a < N (σ 2 a)) (hk : κ 1 0 3 = J k) (hkb : k < 200) (hle : k ≤ N (κ 3 0 0)) {par : Option Nat} (hpar : ∀ j, par = some j → j < k) : ∃ D' κ' c s, Ev (fun n => Ya_newState_f n (D.1 1 0) (par.map (D.1 19)) (rn D κ) z) (some (D'.1 19 k), rn D' κ', c, s) ∧ nwO D κ σ z k D' κ' c s ∧ nwF κ k par (hlp σ p) κ' := by
  have k1 := h.1.k1
  have k3 := h.1.2.1 3 (by decide) (by decide) (by decide)
  have aqf : aq (rn D κ) (D.1 3 0) 7 (J k) = some (if k < N (κ 3 0 0) then some (D.1 19 k) else none) := rn_aq k3 rfl hkb (by decide)
  by_cases g : k < N (κ 3 0 0)
  · rw [if_pos g] at aqf
    have e : ∀ n, Ya_newState_f n (D.1 1 0) (par.map (D.1 19)) (rn D κ) z = nsT n (D.1 1 0) (D.1 19 k) (par.map (D.1 19)) (J k) (rn D κ) := fun n => by
      unfold Ya_newState_f
      simp only [rd1 k1, obd, hk, jmin hkb, aqf, oel]
      rfl
    obtain ⟨κ', ev, o⟩ := nsT_y h hp g (par := par) (fun j hj => by have := hpar j hj; omega)
    obtain ⟨y, x, e3⟩ := nsO_ky o
    refine ⟨D, κ', 0, 0, Ev.cg e ev, ⟨Dx.rf D, h.cg x y e3, hF.cg x e3, by rw [e3]; omega, by rw [e3]; exact hs, by rw [e3]; exact g, by rw [e3]; exact Nat.le_refl _, ?_⟩, ?_⟩
    · rw [e3]
      exact nsO_num o hnum
    · refine ⟨fun kd ix n1 nn np => o.1 kd ix n1 ?_ ?_ np, o.2.1, o.2.2.1, ?_, o.2.2.2.2⟩
      · unfold nid at nn; omega
      · unfold nid at nn; omega
      · rw [← hnum k g]
        exact o.2.2.2.1
  · rw [if_neg g] at aqf
    have hmk : N (κ 3 0 0) = k := by omega
    have L := dS_LV h.1 hF hmk hkb
    have F := dS_FZ h.1 hF hmk hkb
    have x := dS_Dx h.1 hF hmk
    have yw : YW (dS D z k) (kS8 κ k) σ := ⟨L, h.2.1.ky (kS8_y κ k), h.2.2⟩
    have e3 : N (kS8 κ k 3 0 0) = k + 1 := by rw [kS8_3]; exact J_nat (by omega)
    have q5 : kS8 κ k 5 0 = κ 5 0 := kS8_n (by unfold nid; omega)
    have a1 := (x.1 1 0 k1).1
    have a3 := (x.1 3 0 k3).1
    have a19 : (dS D z k).1 19 k = z := dN_e _ _ _ _
    have hpm : par.map (D.1 19) = par.map ((dS D z k).1 19) := by
      cases par with
      | none => rfl
      | some j =>
        have hj := hpar j rfl
        show some (D.1 19 j) = some ((dS D z k).1 19 j)
        rw [(x.1 19 j (h.1.2.2.2.2.1 j (by omega)).1).1]
    obtain ⟨κ', ev, o⟩ := nsT_y yw (p := p) (fun a ha => by rw [q5]; exact hp a ha) (k := k) (by omega) (par := par) (fun j hj => by have := hpar j hj; omega)
    obtain ⟨y', x', e3'⟩ := nsO_ky o
    have n8 : ∀ j, j < N (kS8 κ k 3 0 0) → kS8 κ k 19 j 0 = J j := fun j hj => by
      by_cases gj : j = k
      · rw [gj]
        unfold kS8 kS7
        rw [kf_k (by decide), kf_e]
        rfl
      · rw [kS8_n (by unfold nid; omega)]
        exact hnum j (by omega)
    refine ⟨dS D z k, κ', 7, 66, ?_, ⟨x, yw.cg x' y' e3', F.cg x' e3', by rw [e3', e3]; omega, by rw [e3', kS8_3]; exact sml_J (by omega) (by decide), by rw [e3', e3]; omega, by rw [e3', e3]; omega, by rw [e3']; exact nsO_num o n8⟩, ?_⟩
    · unfold Ya_newState_f
      simp only [rd1 k1, obd, hk, jmin hkb, aqf, oel]
      refine Ev.oad (a := 1) (b := 12) (c := 6) (s := 54) ?_
      refine Ev.ob (sinit (h := rn D κ) (o := z) (z := z + 1) (by omega) (J k)) ?_
      dsimp only
      rw [dS_heap h.1 hF hmk]
      refine Ev.oad (a := 6) (b := 54) (c := 0) (s := 0) ?_
      refine Ev.ob (Ev.cn (dS_pq h.1 hF hmk hkb)) ?_
      have aq8 : aq (rn (dS D z k) (kS8 κ k)) ((dS D z k).1 3 0) 7 (J k) = some (some ((dS D z k).1 19 k)) := by
        rw [rn_aq (x.1 3 0 k3).2 rfl hkb (by decide), if_pos (show k < N (kS8 κ k 3 0 0) by omega)]
      rw [hpm, ← a1]
      simp only [rd1 (κ := kS8 κ k) (x.1 1 0 k1).2, aq8]
      exact ev
    · have nin : ∀ kd ix, ¬ nid k kd ix → kS8 κ k kd ix = κ kd ix := fun kd ix t => kS8_n t
      have pI : parI (kS8 κ k) par = parI κ par ∧ parD (kS8 κ k) par = parD κ par := by
        cases par with
        | none => exact ⟨rfl, rfl⟩
        | some j =>
          have hj := hpar j rfl
          have e : kS8 κ k 19 j = κ 19 j := nin 19 j (by unfold nid; omega)
          show kS8 κ k 19 j 0 = κ 19 j 0 ∧ kS8 κ k 19 j 9 + 1 = κ 19 j 9 + 1
          rw [e]
          exact ⟨rfl, rfl⟩
      have f4 := o.2.2.2.1
      rw [pI.1, pI.2, n8 k (by omega)] at f4
      refine ⟨fun kd ix n1 nn np => ?_, ?_, fun i hi => ?_, f4, fun j hj => ?_⟩
      · rw [o.1 kd ix n1 (by unfold nid at nn; omega) (by unfold nid at nn; omega) np, nin kd ix nn]
      · rw [o.2.1, nin 1 0 (by unfold nid; omega)]
      · rw [o.2.2.1 i hi, q5]
      · have := hpar j hj
        rw [o.2.2.2.2 j hj, nin 19 j (by unfold nid; omega)]
end NS

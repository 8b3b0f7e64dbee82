/-! the class's newState: the State's constructor, new and old states -/
theorem Ev.cn {α : Type} {x : Option α} {a : α} (h : x = some a) : Ev (fun _ => x) a := ⟨0, fun _ _ => h⟩
def sNil : xE := .inr (2, [.int 0, .null, .null, .null, .null, .int 0, .int 0, .int 0, .int 0, .int 0, .int 0, .int 0])
def sCel (x : Int32) (a b c d : Nat) : xE := .inr (2, [.int x, .ref a, .ref b, .ref c, .ref d, .int 0, .int 0, .int 0, .int 0, .int 0, .int 0, .int 0])
def zCel (n : Int32) (b : Nat) : xE := .inr (1, [.int n, .ref b, .int 0])
theorem sinit {h : xH} {o z : Nat} (ho : o < z) (x1 : Int32) : Ev (fun n => St_init_f n o x1 (xup h o sNil) z) (0, xup (xup (xup (xup (xup (xup (xup h z (inA 3 (fun _ => 0))) (z + 1) (inA 4 (fun _ => 0))) (z + 1 + 1) (zCel 4 (z + 1 + 1 + 1))) (z + 1 + 1 + 1) (inA 16 (ones 16))) (z + 1 + 1 + 1 + 1) (zCel 5 (z + 1 + 1 + 1 + 1 + 1))) (z + 1 + 1 + 1 + 1 + 1) (inA 25 (ones 25))) o (sCel x1 z (z + 1) (z + 1 + 1) (z + 1 + 1 + 1 + 1)), 6, 54) := by
  unfold St_init_f sNil
  refine Ev.oad (a := 1) (b := 3) (c := 5) (s := 51) ?_
  simp only [bnd]
  rw [xup_comm _ _ _ (show o ≠ z by omega)]
  refine Ev.ob (Ev.cn (pf_x (by show 1 < 12; decide))) ?_
  refine Ev.oad (a := 1) (b := 4) (c := 4) (s := 47) ?_
  rw [xup_comm _ _ _ (show o ≠ z + 1 by omega)]
  refine Ev.ob (Ev.cn (pf_x (by show 2 < 12; decide))) ?_
  refine Ev.oad (a := 1) (b := 3) (c := 3) (s := 44) ?_
  refine Ev.ob (zinit_4 (show z + 1 + 1 ≠ z + 1 + 1 + 1 by omega)) ?_
  dsimp only
  refine Ev.oad (a := 1) (b := 16) (c := 2) (s := 28) ?_
  rw [xup_comm _ _ _ (show o ≠ z + 1 + 1 by omega), xup_comm _ _ _ (show o ≠ z + 1 + 1 + 1 by omega)]
  refine Ev.ob (Ev.cn (pf_x (by show 3 < 12; decide))) ?_
  refine Ev.oad (a := 1) (b := 3) (c := 1) (s := 25) ?_
  refine Ev.ob (zinit_5 (show z + 1 + 1 + 1 + 1 ≠ z + 1 + 1 + 1 + 1 + 1 by omega)) ?_
  dsimp only
  refine Ev.oad (a := 1) (b := 25) (c := 0) (s := 0) ?_
  rw [xup_comm _ _ _ (show o ≠ z + 1 + 1 + 1 + 1 by omega), xup_comm _ _ _ (show o ≠ z + 1 + 1 + 1 + 1 + 1 by omega)]
  refine Ev.ob (Ev.cn (pf_x (by show 4 < 12; decide))) ?_
  refine Ev.ob (Ev.cn (pf_x (by show 0 < 12; decide))) ?_
  exact Ev.ret
section RFS
variable {κ : kS} {k i ix : Nat}
theorem rfs_20 (h : rfs κ k i 20 ix) : k = 19 ∧ i = ix := by
  unfold rfs at h
  split at h <;> simp at h
  exact ⟨rfl, h.symm⟩
theorem rfs_21 (h : rfs κ k i 21 ix) : k = 19 ∧ i = ix := by
  unfold rfs at h
  split at h <;> simp at h
  exact ⟨rfl, h.symm⟩
theorem rfs_7 (h : rfs κ k i 7 ix) : k = 6 ∧ i = ix := by
  unfold rfs at h
  split at h <;> simp at h
  exact ⟨rfl, h.symm⟩
theorem rfs_6 (h : rfs κ k i 6 ix) : ix < 2 ∨ (k = 19 ∧ (ix = 2 * i + 2 ∨ ix = 2 * i + 3)) := by
  unfold rfs at h
  split at h <;> simp at h
  · exact Or.inl (by omega)
  · exact Or.inl (by omega)
  · exact Or.inr ⟨rfl, h⟩
theorem rfs_19 (h : rfs κ k i 19 ix) : k = 3 ∧ ix < N (κ 3 i 0) := by
  unfold rfs at h
  split at h <;> simp at h
  exact ⟨rfl, h⟩
end RFS
def Dx (D D' : kD) : Prop := (∀ kd ix, kI D kd ix → D'.1 kd ix = D.1 kd ix ∧ kI D' kd ix) ∧ D'.2.2.1 = D.2.2.1 ∧ D'.2.2.2 = D.2.2.2
theorem Dx.rf (D : kD) : Dx D D := ⟨fun _ _ h => ⟨rfl, h⟩, rfl, rfl⟩
theorem Dx.tr {D D' D'' : kD} (h : Dx D D') (g : Dx D' D'') : Dx D D'' := ⟨fun kd ix i => ⟨((g.1 kd ix (h.1 kd ix i).2).1).trans (h.1 kd ix i).1, (g.1 kd ix (h.1 kd ix i).2).2⟩, g.2.1.trans h.2.1, g.2.2.trans h.2.2⟩
theorem Dx_dN {D : kD} {z kd ix : Nat} (hz : D.2.1 z = none) (hd : dead D kd ix) : Dx D (dN D z kd ix) := by
  refine ⟨fun k i h => ?_, rfl, rfl⟩
  have hn : ¬ (k = kd ∧ i = ix) := fun t => hd (D.1 k i) (by rw [← t.1, ← t.2]; exact h)
  exact ⟨dN_n hn, dN_old hz h hn⟩
/-- of the new state's cells, what the map leads to (m zones there) -/
def pst (k m : Nat) (D : kD) : Prop := ∀ a q, D.2.1 a = some q → (q.1 = 19 → q.2 < k) ∧ (q.1 = 6 → q.2 < 2 * k + 2 + m) ∧ (q.1 = 3 → q.2 = 0)
theorem pst_dN {k m m' : Nat} {D : kD} {z kd ix : Nat} (h : pst k m D) (hm : m ≤ m') (hn : (kd = 19 → ix < k) ∧ (kd = 6 → ix < 2 * k + 2 + m') ∧ (kd = 3 → ix = 0)) : pst k m' (dN D z kd ix) := by
  intro a q hq
  by_cases ha : a = z
  · rw [ha, dN_Ie] at hq
    cases hq
    exact hn
  · rw [dN_In ha] at hq
    have := h a q hq
    exact ⟨this.1, fun t => by have := this.2.1 t; omega, this.2.2⟩
/-- the map with the new state k at z -/
def dS1 (D : kD) (z k : Nat) : kD := dN D (z + 1) 20 k
def dS2 (D : kD) (z k : Nat) : kD := dN (dS1 D z k) (z + 1 + 1) 21 k
def dS3 (D : kD) (z k : Nat) : kD := dN (dS2 D z k) (z + 1 + 1 + 1 + 1) 7 (2 * k + 2)
def dS4 (D : kD) (z k : Nat) : kD := dN (dS3 D z k) (z + 1 + 1 + 1) 6 (2 * k + 2)
def dS5 (D : kD) (z k : Nat) : kD := dN (dS4 D z k) (z + 1 + 1 + 1 + 1 + 1 + 1) 7 (2 * k + 3)
def dS6 (D : kD) (z k : Nat) : kD := dN (dS5 D z k) (z + 1 + 1 + 1 + 1 + 1) 6 (2 * k + 3)
def dS (D : kD) (z k : Nat) : kD := dN (dS6 D z k) z 19 k
def kS1 (κ : kS) (k : Nat) : kS := kf κ 20 k (fun _ => 0)
def kS2 (κ : kS) (k : Nat) : kS := kf (kS1 κ k) 21 k (fun _ => 0)
def kS3 (κ : kS) (k : Nat) : kS := kf (kS2 κ k) 7 (2 * k + 2) (ones 16)
def kS4 (κ : kS) (k : Nat) : kS := kf (kS3 κ k) 6 (2 * k + 2) (fun _ => 0)
def kS5 (κ : kS) (k : Nat) : kS := kf (kS4 κ k) 7 (2 * k + 3) (ones 25)
def kS6 (κ : kS) (k : Nat) : kS := kf (kS5 κ k) 6 (2 * k + 3) (fun _ => 0)
def kS7 (κ : kS) (k : Nat) : kS := kf (kS6 κ k) 19 k (fun i => if i = 0 then J k else 0)
def kS8 (κ : kS) (k : Nat) : kS := kf (kS7 κ k) 3 0 (fun _ => J (k + 1))
def nid (k kd ix : Nat) : Prop := (kd = 3 ∧ ix = 0) ∨ ((kd = 19 ∨ kd = 20 ∨ kd = 21) ∧ ix = k) ∨ ((kd = 6 ∨ kd = 7) ∧ (ix = 2 * k + 2 ∨ ix = 2 * k + 3))
theorem kS8_n {κ : kS} {k kd ix : Nat} (h : ¬ nid k kd ix) : kS8 κ k kd ix = κ kd ix := by
  unfold nid at h
  unfold kS8 kS7 kS6 kS5 kS4 kS3 kS2 kS1
  rw [kf_n (by omega), kf_n (by omega), kf_n (by omega), kf_n (by omega), kf_n (by omega), kf_n (by omega), kf_n (by omega), kf_n (by omega)]
theorem kS7_x (κ : kS) (k : Nat) : kxd κ (kS7 κ k) := ((((((kxd_kf (by decide) (by decide) (by decide) (fun t => absurd t (by decide))).tr (kxd_kf (by decide) (by decide) (by decide) (fun t => absurd t (by decide)))).tr (kxd_kf (by decide) (by decide) (by decide) (fun t => absurd t (by decide)))).tr (kxd_kf (by decide) (by decide) (by decide) (fun t => absurd t (by decide)))).tr (kxd_kf (by decide) (by decide) (by decide) (fun t => absurd t (by decide)))).tr (kxd_kf (by decide) (by decide) (by decide) (fun t => absurd t (by decide)))).tr (kxd_kf (by decide) (by decide) (by decide) (fun t => absurd t (by decide)))
theorem kS8_x (κ : kS) (k : Nat) : kxd κ (kS8 κ k) := (kS7_x κ k).tr (kxd_kf (by decide) (by decide) (by decide) (fun t => absurd t (by decide)))
theorem kS8_y (κ : kS) (k : Nat) : ky κ (kS8 κ k) := by
  refine ⟨by rw [kS8_n (by unfold nid; omega)], ?_, ?_, ?_, ?_, ?_, ?_, ?_⟩ <;> (funext y; exact kS8_n (by unfold nid; omega))
section SN
variable {D : kD} {κ : kS} {σ : mS} {z k : Nat}
theorem dS_all (hL : LV D κ) (hF : FZ D κ z) (hk : N (κ 3 0 0) = k) : (dead D 20 k ∧ dead (dS1 D z k) 21 k ∧ dead (dS2 D z k) 7 (2 * k + 2) ∧ dead (dS3 D z k) 6 (2 * k + 2) ∧ dead (dS4 D z k) 7 (2 * k + 3) ∧ dead (dS5 D z k) 6 (2 * k + 3) ∧ dead (dS6 D z k) 19 k) ∧ (pst k 0 D ∧ pst k 0 (dS1 D z k) ∧ pst k 0 (dS2 D z k) ∧ pst k 0 (dS3 D z k) ∧ pst k 1 (dS4 D z k) ∧ pst k 1 (dS5 D z k) ∧ pst k 2 (dS6 D z k)) ∧ Dx D (dS1 D z k) ∧ Dx (dS1 D z k) (dS2 D z k) ∧ Dx (dS2 D z k) (dS3 D z k) ∧ Dx (dS3 D z k) (dS4 D z k) ∧ Dx (dS4 D z k) (dS5 D z k) ∧ Dx (dS5 D z k) (dS6 D z k) ∧ Dx (dS6 D z k) (dS D z k) := by
  have dd : ∀ kd ix, ¬ lq κ kd ix → dead D kd ix := fun kd ix h a e => h (hF.2.1 a _ e)
  have d20 : dead D 20 k := dd _ _ (fun l => by have := l.2.1 (by omega); omega)
  have d21 : dead D 21 k := dd _ _ (fun l => by have := l.2.1 (by omega); omega)
  have d19 : dead D 19 k := dd _ _ (fun l => by have := l.2.1 (by omega); omega)
  have d7 : dead D 7 (2 * k + 2) := dd _ _ (fun l => by have := l.1 (by omega); omega)
  have d6 : dead D 6 (2 * k + 2) := dd _ _ (fun l => by have := l.1 (by omega); omega)
  have d7' : dead D 7 (2 * k + 3) := dd _ _ (fun l => by have := l.1 (by omega); omega)
  have d6' : dead D 6 (2 * k + 3) := dd _ _ (fun l => by have := l.1 (by omega); omega)
  have p0 : pst k 0 D := fun a q hq => ⟨fun t => by have := (hF.2.1 a q hq).2.1 (by omega); omega, fun t => by have := (hF.2.1 a q hq).1 (by omega); omega, fun t => (hF.2.1 a q hq).2.2.2.2.2.2 (Or.inr (Or.inl t))⟩
  have n0 : ∀ a, z ≤ a → D.2.1 a = none := hF.1
  have e1 : dead (dS1 D z k) 21 k := dN_dead d21 (by omega)
  have e2 : dead (dS2 D z k) 7 (2 * k + 2) := dN_dead (dN_dead d7 (by omega)) (by omega)
  have e3 : dead (dS3 D z k) 6 (2 * k + 2) := dN_dead (dN_dead (dN_dead d6 (by omega)) (by omega)) (by omega)
  have e4 : dead (dS4 D z k) 7 (2 * k + 3) := dN_dead (dN_dead (dN_dead (dN_dead d7' (by omega)) (by omega)) (by omega)) (by omega)
  have e5 : dead (dS5 D z k) 6 (2 * k + 3) := dN_dead (dN_dead (dN_dead (dN_dead (dN_dead d6' (by omega)) (by omega)) (by omega)) (by omega)) (by omega)
  have e6 : dead (dS6 D z k) 19 k := dN_dead (dN_dead (dN_dead (dN_dead (dN_dead (dN_dead d19 (by omega)) (by omega)) (by omega)) (by omega)) (by omega)) (by omega)
  have q1 : pst k 0 (dS1 D z k) := pst_dN p0 (by omega) (by omega)
  have q2 : pst k 0 (dS2 D z k) := pst_dN q1 (by omega) (by omega)
  have q3 : pst k 0 (dS3 D z k) := pst_dN q2 (by omega) (by omega)
  have q4 : pst k 1 (dS4 D z k) := pst_dN q3 (by omega) (by omega)
  have q5 : pst k 1 (dS5 D z k) := pst_dN q4 (by omega) (by omega)
  have q6 : pst k 2 (dS6 D z k) := pst_dN q5 (by omega) (by omega)
  refine ⟨⟨d20, e1, e2, e3, e4, e5, e6⟩, ⟨p0, q1, q2, q3, q4, q5, q6⟩, Dx_dN (n0 _ (by omega)) d20, Dx_dN ?_ e1, Dx_dN ?_ e2, Dx_dN ?_ e3, Dx_dN ?_ e4, Dx_dN ?_ e5, Dx_dN ?_ e6⟩
  · unfold dS1; rw [dN_In (by omega)]; exact n0 _ (by omega)
  · unfold dS2 dS1; rw [dN_In (by omega), dN_In (by omega)]; exact n0 _ (by omega)
  · unfold dS3 dS2 dS1; rw [dN_In (by omega), dN_In (by omega), dN_In (by omega)]; exact n0 _ (by omega)
  · unfold dS4 dS3 dS2 dS1; rw [dN_In (by omega), dN_In (by omega), dN_In (by omega), dN_In (by omega)]; exact n0 _ (by omega)
  · unfold dS5 dS4 dS3 dS2 dS1; rw [dN_In (by omega), dN_In (by omega), dN_In (by omega), dN_In (by omega), dN_In (by omega)]; exact n0 _ (by omega)
  · unfold dS6 dS5 dS4 dS3 dS2 dS1; rw [dN_In (by omega), dN_In (by omega), dN_In (by omega), dN_In (by omega), dN_In (by omega), dN_In (by omega)]; exact n0 _ (by omega)
end SN

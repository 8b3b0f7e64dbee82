/-! the class's states against the reference's, in a walk -/
def TIj (σ : mS) (j : Nat) : Prop := (j = 0 → σ 27 0 = (-1 : Int32) ∧ σ 30 0 = 0) ∧ (0 < j → ∃ i, i < j ∧ σ 27 j = J i ∧ σ 30 j = σ 30 i + 1)
def pT (x : Int32) : Int32 := if x < 0 then (-2 : Int32) else x
def SRl (κ : kS) (σ : mS) (j : Nat) : Prop := (∀ i, i < 3 → κ 20 j i = σ 24 (3 * j + i)) ∧ κ 19 j 5 = pT (σ 27 j) ∧ κ 19 j 6 = σ 28 j ∧ κ 19 j 9 = σ 30 j ∧ (0 < j → ∀ i, i < 4 → κ 21 j i = σ 31 (4 * j + i)) ∧ κ 19 j 10 = σ 32 j ∧ κ 19 j 11 = σ 33 j ∧ (cagr 4 (κ 7 (2 * j + 2)) (fun b => σ 25 (25 * j + b)) ∧ κ 6 (2 * j + 2) 2 = 0) ∧ cagr 5 (κ 7 (2 * j + 3)) (fun b => σ 26 (25 * j + b)) ∧ κ 6 (2 * j + 3) 2 = 0
def CR (κ : kS) (σ : mS) : Prop := κ 1 0 3 = σ 22 0 ∧ (κ 1 0 8 = σ 20 0 ∧ (¬ σ 20 0 = 0 → ∀ b, b < 4 → κ 4 0 b = σ 19 b)) ∧ sml (κ 3 0 0) 200 ∧ N (σ 22 0) ≤ N (κ 3 0 0) ∧ (∀ j, j < N (κ 3 0 0) → κ 19 j 0 = J j) ∧ (∀ j, j < N (σ 22 0) → SRl κ σ j) ∧ (∀ j i, j < N (σ 22 0) → N (σ 1 0) ≤ i → i < 3 → σ 24 (3 * j + i) = (-2 : Int32)) ∧ ∀ j, j < N (σ 22 0) → TIj σ j
def LK (κ : kS) (σ : mS) (k : Nat) : Prop := (κ 19 k 7 = σ 40 0 ∧ κ 19 k 8 = σ 41 0) ∧ (∀ j, k < j → j < N (σ 22 0) → κ 19 j 7 = 0 ∧ κ 19 j 8 = 0) ∧ (∀ j, j < k → κ 19 j 7 = σ 29 j) ∧ (∀ j, k ≤ j → j < N (σ 22 0) → σ 29 j = (-2 : Int32)) ∧ κ 1 0 4 = σ 23 0 ∧ κ 1 0 5 = σ 34 0 ∧ κ 1 0 6 = σ 35 0 ∧ σ 23 0 = J k
/-- the reference's slots that tell of states are the same -/
def sst (σ σ' : mS) : Prop := yq σ' σ ∧ (∀ b, σ' 19 b = σ 19 b) ∧ σ' 20 0 = σ 20 0 ∧ ∀ s b, 22 ≤ s → s ≤ 35 → σ' s b = σ s b
/-- scratch of the class's walk: arrival, next, and what state k has counted -/
def kws (κ : kS) (k : Nat) (κ' : kS) : Prop := (∀ kd ix, ¬ (kd = 5 ∧ ix = 0) → ¬ ((kd = 6 ∨ kd = 7) ∧ ix = 0) → ¬ (kd = 19 ∧ ix = k) → κ' kd ix = κ kd ix) ∧ ∀ c, c ≠ 7 → c ≠ 8 → κ' 19 k c = κ 19 k c
theorem SRl_cg {κ κ' : kS} {σ σ' : mS} {j : Nat} (h : SRl κ σ j) (e20 : κ' 20 j = κ 20 j) (e21 : κ' 21 j = κ 21 j) (e19 : ∀ c, c ≠ 7 → c ≠ 8 → κ' 19 j c = κ 19 j c) (e7 : κ' 7 (2 * j + 2) = κ 7 (2 * j + 2)) (e7' : κ' 7 (2 * j + 3) = κ 7 (2 * j + 3)) (e6 : κ' 6 (2 * j + 2) = κ 6 (2 * j + 2)) (e6' : κ' 6 (2 * j + 3) = κ 6 (2 * j + 3)) (hs : ∀ s b, 22 ≤ s → s ≤ 35 → σ' s b = σ s b) : SRl κ' σ' j := by
  unfold SRl at h ⊢
  rw [e20, e21, e19 5 (by decide) (by decide), e19 6 (by decide) (by decide), e19 9 (by decide) (by decide), e19 10 (by decide) (by decide), e19 11 (by decide) (by decide), e7, e7', e6, e6', hs 27 j (by decide) (by decide), hs 28 j (by decide) (by decide), hs 30 j (by decide) (by decide), hs 32 j (by decide) (by decide), hs 33 j (by decide) (by decide)]
  simp only [fun b => hs 24 b (by decide) (by decide), fun b => hs 25 b (by decide) (by decide), fun b => hs 26 b (by decide) (by decide), fun b => hs 31 b (by decide) (by decide)]
  exact h
theorem TIj_cg {σ σ' : mS} {j : Nat} (h : TIj σ j) (hs : ∀ s b, 22 ≤ s → s ≤ 35 → σ' s b = σ s b) : TIj σ' j := by
  unfold TIj at h ⊢
  simp only [fun b => hs 27 b (by decide) (by decide), fun b => hs 30 b (by decide) (by decide)]
  exact h
theorem CR_cg {κ κ' : kS} {σ σ' : mS} {k : Nat} (h : CR κ σ) (w : kws κ k κ') (s : sst σ σ') : CR κ' σ' := by
  obtain ⟨c1, c2, c3, c4, c5, c6, c7, c8⟩ := h
  obtain ⟨y, s19, s20, ss⟩ := s
  have w1 : κ' 1 0 = κ 1 0 := w.1 1 0 (by omega) (by omega) (by omega)
  have w3 : κ' 3 0 = κ 3 0 := w.1 3 0 (by omega) (by omega) (by omega)
  have w4 : κ' 4 0 = κ 4 0 := w.1 4 0 (by omega) (by omega) (by omega)
  have w19 : ∀ j c, c ≠ 7 → c ≠ 8 → κ' 19 j c = κ 19 j c := fun j c h7 h8 => by
    by_cases g : j = k
    · rw [g]; exact w.2 c h7 h8
    · rw [w.1 19 j (by omega) (by omega) (by omega)]
  have e22 := ss 22 0 (by decide) (by decide)
  have e1 : σ' 1 0 = σ 1 0 := y 1 0 (by decide) (by decide)
  unfold CR
  rw [w1, w3, w4, e22, s20, e1]
  refine ⟨c1, ⟨c2.1, fun t b hb => by rw [s19]; exact c2.2 t b hb⟩, c3, c4, fun j hj => by rw [w19 j 0 (by decide) (by decide)]; exact c5 j hj, fun j hj => ?_, fun j i hj h1 h2 => by rw [ss 24 _ (by decide) (by decide)]; exact c7 j i hj h1 h2, fun j hj => TIj_cg (c8 j hj) ss⟩
  exact SRl_cg (c6 j hj) (w.1 20 j (by omega) (by omega) (by omega)) (w.1 21 j (by omega) (by omega) (by omega)) (fun c h7 h8 => w19 j c h7 h8) (w.1 7 _ (by omega) (by omega) (by omega)) (w.1 7 _ (by omega) (by omega) (by omega)) (w.1 6 _ (by omega) (by omega) (by omega)) (w.1 6 _ (by omega) (by omega) (by omega)) ss
theorem LK_cg {κ κ' : kS} {σ σ' : mS} {k : Nat} (h : LK κ σ k) (w : kws κ k κ') (s : sst σ σ') (h7 : κ' 19 k 7 = σ' 40 0) (h8 : κ' 19 k 8 = σ' 41 0) : LK κ' σ' k := by
  obtain ⟨l1, l2, l3, l4, l5, l6, l7, l8⟩ := h
  obtain ⟨y, s19, s20, ss⟩ := s
  have w1 : κ' 1 0 = κ 1 0 := w.1 1 0 (by omega) (by omega) (by omega)
  have wj : ∀ j, j ≠ k → κ' 19 j = κ 19 j := fun j hj => w.1 19 j (by omega) (by omega) (by omega)
  unfold LK
  rw [w1, ss 22 0 (by decide) (by decide), ss 23 0 (by decide) (by decide), ss 34 0 (by decide) (by decide), ss 35 0 (by decide) (by decide)]
  refine ⟨⟨h7, h8⟩, fun j hj hj2 => by rw [wj j (by omega)]; exact l2 j hj hj2, fun j hj => by rw [wj j (by omega), ss 29 j (by decide) (by decide)]; exact l3 j hj, fun j hj hj2 => by rw [ss 29 j (by decide) (by decide)]; exact l4 j hj hj2, l5, l6, l7, l8⟩
theorem sx_sst {σ ρ σ' : mS} (h : sst σ ρ) (s : sx jk σ' ρ) : sst σ σ' := by
  obtain ⟨y, s19, s20, ss⟩ := h
  have f : ∀ a b, a ∉ jk → σ' a b = ρ a b := s
  refine ⟨fun a b h1 h2 => ?_, fun b => ?_, ?_, fun s b h1 h2 => ?_⟩
  · rw [f a b (by unfold jk; simp; omega)]; exact y a b h1 h2
  · rw [f 19 b (by decide)]; exact s19 b
  · rw [f 20 0 (by decide)]; exact s20
  · rw [f s b (by unfold jk; simp; omega)]; exact ss s b h1 h2
theorem sst.rf (σ : mS) : sst σ σ := ⟨fun _ _ _ _ => rfl, fun _ => rfl, rfl, fun _ _ _ _ => rfl⟩
theorem sst_su {σ ρ : mS} (h : sst σ ρ) {s i : Nat} {v : Int32} (hs : 35 < s) : sst σ (su ρ s i v) := by
  obtain ⟨y, s19, s20, ss⟩ := h
  refine ⟨fun a b h1 h2 => ?_, fun b => ?_, ?_, fun t b h1 h2 => ?_⟩
  · rw [su_n (by omega)]; exact y a b h1 h2
  · rw [su_n (by omega)]; exact s19 b
  · rw [su_n (by omega)]; exact s20
  · rw [su_n (by omega)]; exact ss t b h1 h2
/-- what the walk never touches -/
def kfr (κ κ' : kS) : Prop := κ' 6 1 = κ 6 1 ∧ κ' 7 1 = κ 7 1 ∧ (∀ kd ix, kd = 8 ∨ kd = 9 ∨ 22 ≤ kd → κ' kd ix = κ kd ix) ∧ κ' 1 0 7 = κ 1 0 7
theorem kfr.rf (κ : kS) : kfr κ κ := ⟨rfl, rfl, fun _ _ _ => rfl, rfl⟩
theorem kfr.tr {κ κ' κ'' : kS} (h : kfr κ κ') (g : kfr κ' κ'') : kfr κ κ'' := ⟨g.1.trans h.1, g.2.1.trans h.2.1, fun kd ix t => (g.2.2.1 kd ix t).trans (h.2.2.1 kd ix t), g.2.2.2.trans h.2.2.2⟩
theorem kws_fr {κ κ' : kS} {k : Nat} (w : kws κ k κ') : kfr κ κ' := ⟨w.1 6 1 (by omega) (by omega) (by omega), w.1 7 1 (by omega) (by omega) (by omega), fun kd ix t => w.1 kd ix (by omega) (by omega) (by omega), by rw [w.1 1 0 (by omega) (by omega) (by omega)]⟩
theorem kws_ky {κ κ' : kS} {k : Nat} (w : kws κ k κ') : ky κ κ' ∧ kxd κ κ' ∧ κ' 3 0 0 = κ 3 0 0 := by
  have f : ∀ kd ix, kd ≠ 5 → kd ≠ 6 → kd ≠ 7 → kd ≠ 19 → κ' kd ix = κ kd ix := fun kd ix h5 h6 h7 h19 => w.1 kd ix (by omega) (by omega) (by omega)
  refine ⟨⟨?_, ?_, ?_, ?_, ?_, ?_, ?_, ?_⟩, ⟨?_, ?_, ?_, ?_⟩, ?_⟩
  all_goals first | (funext y; exact f _ y (by decide) (by decide) (by decide) (by decide)) | (intro y; exact f _ y (by decide) (by decide) (by decide) (by decide)) | rw [f _ _ (by decide) (by decide) (by decide) (by decide)]
/-- a step of the walk -/
def WS (D : kD) (κ : kS) (z : Nat) (D' : kD) (κ' : kS) (σ' : mS) (c s : Nat) : Prop := Dx D D' ∧ YW D' κ' σ' ∧ FZ D' κ' (z + c) ∧ (c = 7 * (N (κ' 3 0 0) - N (κ 3 0 0)) ∧ s = 66 * (N (κ' 3 0 0) - N (κ 3 0 0))) ∧ N (κ 3 0 0) ≤ N (κ' 3 0 0) ∧ CR κ' σ' ∧ kfr κ κ'
theorem WS.tr {D D' D'' : kD} {κ κ' κ'' : kS} {z c s c' s' : Nat} {σ' σ'' : mS} (h : WS D κ z D' κ' σ' c s) (g : WS D' κ' (z + c) D'' κ'' σ'' c' s') : WS D κ z D'' κ'' σ'' (c + c') (s + s') := by
  obtain ⟨h1, h2, h3, h4, h5, h6, h7⟩ := h
  obtain ⟨g1, g2, g3, g4, g5, g6, g7⟩ := g
  exact ⟨h1.tr g1, g2, by rw [← Nat.add_assoc]; exact g3, by omega, by omega, g6, h7.tr g7⟩
theorem WY_sst {σ σ' : mS} (h : sst σ σ') : yq σ' σ := h.1
theorem YW_sst {D : kD} {κ : kS} {σ σ' : mS} (h : YW D κ σ) (s : yq σ' σ) : YW D κ σ' := ⟨h.1, h.2.1.yq s, h.2.2.eq s⟩

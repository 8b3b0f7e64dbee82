/-! LET GO in the pair; lists of operations -/
theorem zI_let {l : Int} {e : iM} {gg : Nat → Int32} (hl : 13000 ≤ l) (hl2 : l ≤ 40000) (hg : ∀ i, i < 4 → 0 ≤ (gg i).toInt ∧ (gg i).toInt ≤ 100) (hg0 : (gg 0).toInt = 0) (he : eI 5 l e) {Z : Nat → Int32} (hz : zI l (fun k => (gg k).toInt) (zi Z) e) : zI l (fun k => (gg k).toInt) (zi (cl 4 (lt gg Z))) e ∧ em 4 (cl 4 (lt gg Z)) 0 = 0 ∧ ((∀ i j, i < 4 → j < 4 → lgM (fun k => (gg k).toInt) (zi Z) i j = zi Z i j) → agr 4 (zi (cl 4 (lt gg Z))) (zi Z)) := by
  have hA := AN_is
  obtain ⟨z1, z2, z3, z4, z5⟩ := hz
  have hx : ∀ i j, i < 4 → j < 4 → zi (lt gg Z) i j = lgM (fun k => (gg k).toInt) (zi Z) i j := fun i j hi hj => lt_zi (fun i hi => by have := hg i hi; omega) z3 hi hj
  have hd : ∀ i, i < 4 → zi (lt gg Z) i i = 1 := fun i hi => by
    rw [hx i i hi hi]
    unfold lgM
    rw [if_pos rfl]
    exact z1.2.1 i hi
  have hge : ∀ i j, i < 4 → j < 4 → zi Z i j ≤ zi (lt gg Z) i j := fun i j hi hj => by
    rw [hx i j hi hj]
    have := fn_le (z1.2.2 i j hi hj) (by omega)
    have := hg j hj
    unfold lgM
    dsimp only
    split
    · exact Int.le_refl _
    · split
      · omega
      · split <;> omega
  have hfn : ∀ i j, i < 4 → j < 4 → fn 201 (zi (lt gg Z) i j) := fun i j hi hj => by
    rw [hx i j hi hj]
    have gi := hg i hi
    have gj := hg j hj
    unfold lgM
    dsimp only
    split
    · rename_i t
      rw [t, z1.2.1 j hj]
      exact Or.inr (by omega)
    · split
      · exact Or.inl rfl
      · split
        · rename_i _ c1 c2
          by_cases h0 : i = 0
          · have := z3 j hj
            rw [h0] at c2 ⊢
            exact Or.inr (by omega)
          · exact Or.inr (by omega)
        · exact Or.inr (by omega)
  have zl : zgd 4 100000 (zi Z) := zgd_mono z1 (by omega)
  obtain ⟨f1, f2, f3⟩ := close_G (by omega) (by omega) (by omega) hfn hd zl hge
  have el : zgd 4 100000 e := zgd_sub (zgd_mono he.1 (by omega)) (by omega)
  have fe := f3 e el (fun i j hi hj => Int.le_trans (z4 i j hi hj) (hge i j hi hj))
  have fz := f3 (zi Z) zl hge
  refine ⟨⟨zgd_mono f1 (by omega), ?_, fun j hj => ?_, fe, fun v hv => ?_⟩, ?_, fun hsame i j hi hj => ?_⟩
  · have hs := fn_sInv (m := 4) (M := zi (cl 4 (lt gg Z))) (C := ((3231 : Int) : Rat)) (K := K1) (Rat.intCast_le_intCast.mpr (by decide)) (Rat.intCast_le_intCast.mpr (by decide)) (fun i j hi hj => by
      rcases f1.2.2 i j hi hj with t | t
      · exact Or.inl t
      · exact Or.inr (Rat.intCast_le_intCast.mpr (by omega)))
    refine sInv_mono hs ?_
    rw [mulC4, ← Rat.intCast_add, ← Rat.intCast_add, ← Rat.intCast_add]
    exact Rat.intCast_le_intCast.mpr (by omega)
  · have a := f2 0 j (by omega) hj
    rw [hx 0 j (by omega) hj] at a
    have b := z3 j hj
    have := hg j hj
    unfold lgM at a
    dsimp only at a
    split at a
    · omega
    · rw [if_neg (by omega)] at a
      split at a <;> omega
  · have hv2 : sem 4 (lgM (fun k => (gg k).toInt) (zi Z)) v := fun i j hi hj => by
      rw [← hx i j hi hj]
      exact lb_mono (f2 i j hi hj) (fn_le (hfn i j hi hj) (by omega)) (hv i j hi hj)
    obtain ⟨u, hu, hm⟩ := lg_from (B := 2 * l + 3) (by omega) (by omega) z1 z3 (fun i hi => (hg i hi).1) hg0 hv2
    obtain ⟨t, ht, hn⟩ := z5 u hu
    exact ⟨t, ht, eqM_trans hm hn⟩
  · rcases em_is 4 (cl 4 (lt gg Z)) with ⟨h, _⟩ | ⟨_, i, hi, h⟩
    · exact h
    · rw [f1.2.1 i hi] at h
      omega
  · have a := f2 i j hi hj
    have b := fz i j hi hj
    rw [hx i j hi hj, hsame i j hi hj] at a
    omega
abbrev Op : Type := (Nat × Nat × Int32) ⊕ (Option Int32)
def opQ (m : Nat) (o : Op) (q : zQ) : zQ := match o with
  | .inl t => qtg m t.1 t.2.1 t.2.2 q
  | .inr (some c) => qsn m c q
  | .inr none => qps m q
def opM (o : Op) (M : iM) : Option iM := match o with
  | .inl t => if sm t.2.2.toInt (M t.2.1 t.1) < 1 then none else some (sq M t.1 t.2.1 t.2.2.toInt)
  | .inr (some c) => some (rs (rc c) M)
  | .inr none => some (pm M)
def runQ (m : Nat) : List Op → zQ → zQ
  | [], q => q
  | o :: L, q => runQ m L (opQ m o q)
def runM : List Op → iM → Option iM
  | [], M => some M
  | o :: L, M => match opM o M with
    | none => none
    | some N => runM L N
theorem runQ_app (m : Nat) (L K : List Op) : ∀ q, runQ m (L ++ K) q = runQ m K (runQ m L q) := by
  induction L with
  | nil => intro q; rfl
  | cons o L ih => intro q; exact ih (opQ m o q)
def np : List Op → Int
  | [] => 0
  | .inr none :: L => np L + 101
  | _ :: L => np L
theorem np_nn : ∀ L : List Op, 0 ≤ np L := by
  intro L
  induction L with
  | nil => exact Int.le_refl _
  | cons o L ih =>
    rcases o with t | t | c
    · exact ih
    · show 0 ≤ np L + 101
      omega
    · exact ih
def opV (o : Op) : Prop := match o with
  | .inl t => t.1 < 4 ∧ t.2.1 < 4 ∧ t.1 ≠ t.2.1 ∧ mk1 100 t.2.2.toInt
  | .inr _ => True
def opG (g : Nat → Int) (o : Op) : Prop := match o with
  | .inl t => (t.1 = 0 ∨ t.2.1 = 0) ∧ mk1 (g (t.1 + t.2.1)) t.2.2.toInt
  | .inr _ => True
/-- every zone on the way is good -/
def gRun (m : Nat) : List Op → iM → Prop
  | [], _ => True
  | o :: L, M => zgd m 100000 M ∧ ∀ N, opM o M = some N → gRun m L N
theorem gRun_cg {m : Nat} (hm4 : 4 ≤ m) {L : List Op} : ∀ {M N : iM}, (∀ o, o ∈ L → opV o) → agr m M N → gRun m L M → gRun m L N := by
  induction L with
  | nil => intro M N _ _ _; exact trivial
  | cons o L ih =>
    intro M N hV h hg
    refine ⟨zgd_cg h hg.1, fun N' hN => ?_⟩
    have hVo := hV o List.mem_cons_self
    rcases o with t | t | c
    · have hv : t.1 < 4 ∧ t.2.1 < 4 ∧ t.1 ≠ t.2.1 ∧ mk1 100 t.2.2.toInt := hVo
      have e : N t.2.1 t.1 = M t.2.1 t.1 := (h t.2.1 t.1 (by omega) (by omega)).symm
      unfold opM at hN
      dsimp only at hN
      rw [e] at hN
      by_cases hc : sm t.2.2.toInt (M t.2.1 t.1) < 1
      · rw [if_pos hc] at hN; cases hN
      · rw [if_neg hc] at hN
        cases hN
        refine ih (fun o ho => hV o (List.mem_cons_of_mem _ ho)) ?_ (hg.2 (sq M t.1 t.2.1 t.2.2.toInt) (by unfold opM; dsimp only; rw [if_neg hc]))
        intro i j hi hj
        unfold sq sqT
        rw [h i j hi hj, h i t.1 hi (by omega), h t.2.1 j (by omega) hj]
    · cases hN
      refine ih (fun o ho => hV o (List.mem_cons_of_mem _ ho)) ?_ (hg.2 (pm M) rfl)
      intro i j hi hj
      unfold pm
      rw [h i j hi hj]
    · cases hN
      refine ih (fun o ho => hV o (List.mem_cons_of_mem _ ho)) ?_ (hg.2 (rs (rc c) M) rfl)
      intro i j hi hj
      exact h _ _ ((rc_ok m c).lt hi) ((rc_ok m c).lt hj)
theorem opM_cg {m : Nat} (hm4 : 4 ≤ m) {o : Op} (hV : opV o) {M N : iM} (h : agr m M N) : (opM o M = none ∧ opM o N = none) ∨ ∃ M' N', opM o M = some M' ∧ opM o N = some N' ∧ agr m M' N' := by
  rcases o with t | t | c
  · have hv : t.1 < 4 ∧ t.2.1 < 4 ∧ t.1 ≠ t.2.1 ∧ mk1 100 t.2.2.toInt := hV
    have e : N t.2.1 t.1 = M t.2.1 t.1 := (h t.2.1 t.1 (by omega) (by omega)).symm
    unfold opM
    dsimp only
    rw [e]
    by_cases hc : sm t.2.2.toInt (M t.2.1 t.1) < 1
    · exact Or.inl ⟨if_pos hc, if_pos hc⟩
    · refine Or.inr ⟨_, _, if_neg hc, if_neg hc, fun i j hi hj => ?_⟩
      unfold sq sqT
      rw [h i j hi hj, h i t.1 hi (by omega), h t.2.1 j (by omega) hj]
  · refine Or.inr ⟨_, _, rfl, rfl, fun i j hi hj => ?_⟩
    unfold pm
    rw [h i j hi hj]
  · exact Or.inr ⟨_, _, rfl, rfl, fun i j hi hj => h _ _ ((rc_ok m c).lt hi) ((rc_ok m c).lt hj)⟩
theorem opQ_dead {m : Nat} {o : Op} {q : zQ} (h : q.2 = 1) : opQ m o q = q := by
  have n : ¬ (q.2 = 0) := by rw [h]; decide
  rcases o with t | t | c
  · show qtg m t.1 t.2.1 t.2.2 q = q
    unfold qtg
    rw [if_neg n]
  · show qps m q = q
    unfold qps
    rw [if_neg n]
  · show qsn m c q = q
    unfold qsn
    rw [if_neg n]
theorem runQ_dead {m : Nat} : ∀ (L : List Op) {q : zQ}, q.2 = 1 → runQ m L q = q := by
  intro L
  induction L with
  | nil => intro q _; rfl
  | cons o L ih =>
    intro q h
    show runQ m L (opQ m o q) = q
    rw [opQ_dead h]
    exact ih h
theorem opQ_is {m : Nat} (hm4 : 4 ≤ m) (hm : m ≤ 5) {o : Op} (hV : opV o) {q : zQ} (hq : q.2 = 0) {M : iM} (hM : zgd m 100000 M) (h : agr m (zi q.1) M) : (opM o M = none ∧ (opQ m o q).2 = 1) ∨ ∃ N, opM o M = some N ∧ (opQ m o q).2 = 0 ∧ agr m (zi (opQ m o q).1) N := by
  have hz := zgd_cg h.symm hM
  have eq : q = (q.1, 0) := by rw [← hq]
  rcases o with t | t | c
  · have hv : t.1 < 4 ∧ t.2.1 < 4 ∧ t.1 ≠ t.2.1 ∧ mk1 100 t.2.2.toInt := hV
    have fw1 : fn 100000 t.2.2.toInt := fn_mono (mk1_fn hv.2.2.2) (by omega)
    have k := qtg_is (Z := q.1) (b := t.2.2) hm (by omega) (by omega) hz (show t.1 < m by omega) (show t.2.1 < m by omega) hv.2.2.1 fw1
    rw [← eq, h t.2.1 t.1 (by omega) (by omega)] at k
    rcases k with ⟨k1, k2⟩ | ⟨k1, k2, k3⟩
    · left
      exact ⟨by unfold opM; dsimp only; rw [if_pos k1], k2⟩
    · right
      refine ⟨sq M t.1 t.2.1 t.2.2.toInt, by unfold opM; dsimp only; rw [if_neg (by omega)], k2, fun i j hi hj => ?_⟩
      show zi (qtg m t.1 t.2.1 t.2.2 q).1 i j = _
      rw [k3 i j hi hj]
      unfold sq sqT
      rw [h i j hi hj, h i t.1 hi (by omega), h t.2.1 j (by omega) hj]
  · right
    have e : opQ m (Sum.inr none) q = (pz m q.1, q.2) := by
      show qps m q = _
      unfold qps
      rw [if_pos hq]
    refine ⟨pm M, rfl, by rw [e]; exact hq, fun i j hi hj => ?_⟩
    rw [e, pz_zi hm hi hj]
    unfold pm
    rw [h i j hi hj]
  · right
    have e : opQ m (Sum.inr (some c)) q = (sn q.1 m c q.1, q.2) := by
      show qsn m c q = _
      unfold qsn
      rw [if_pos hq]
    refine ⟨rs (rc c) M, rfl, by rw [e]; exact hq, fun i j hi hj => ?_⟩
    rw [e, sn_zi hm (by omega) (hz.2.1 0 (by omega)) c hi hj]
    exact h _ _ ((rc_ok m c).lt hi) ((rc_ok m c).lt hj)
theorem runQ_is {m : Nat} (hm4 : 4 ≤ m) (hm : m ≤ 5) : ∀ (L : List Op) {q : zQ} {M : iM}, (∀ o, o ∈ L → opV o) → q.2 = 0 → gRun m L M → agr m (zi q.1) M → (runM L M = none ∧ (runQ m L q).2 = 1) ∨ ∃ N, runM L M = some N ∧ (runQ m L q).2 = 0 ∧ agr m (zi (runQ m L q).1) N := by
  intro L
  induction L with
  | nil => intro q M _ hq _ h; exact Or.inr ⟨M, rfl, hq, h⟩
  | cons o L ih =>
    intro q M hV hq hg h
    rcases opQ_is hm4 hm (hV o List.mem_cons_self) hq hg.1 h with ⟨k1, k2⟩ | ⟨N, k1, k2, k3⟩
    · left
      refine ⟨?_, ?_⟩
      · show (match opM o M with | none => none | some N => runM L N) = none
        rw [k1]
      · show (runQ m L (opQ m o q)).2 = 1
        rw [runQ_dead L k2]
        exact k2
    · have e : runM (o :: L) M = runM L N := by
        show (match opM o M with | none => none | some N => runM L N) = runM L N
        rw [k1]
      rw [e]
      exact ih (fun o ho => hV o (List.mem_cons_of_mem _ ho)) k2 (hg.2 N k1) k3
/-- a good exact zone runs over good ones -/
theorem eI_run {m : Nat} (hm4 : 4 ≤ m) : ∀ (L : List Op) {l : Int} {e : iM}, (∀ o, o ∈ L → opV o) → 100 ≤ l → l + np L ≤ 40000 → eI m l e → gRun m L e ∧ ∀ N, runM L e = some N → eI m (l + np L) N := by
  intro L
  induction L with
  | nil =>
    intro l e _ _ _ h
    refine ⟨trivial, fun N hN => ?_⟩
    cases hN
    show eI m (l + 0) e
    rw [Int.add_zero]
    exact h
  | cons o L ih =>
    intro l e hV hl hl2 h
    have hA := AN_is
    have nn := np_nn L
    have hVo := hV o List.mem_cons_self
    have hVL : ∀ o, o ∈ L → opV o := fun o ho => hV o (List.mem_cons_of_mem _ ho)
    have step : ∀ N, opM o e = some N → ∃ l', eI m l' N ∧ 100 ≤ l' ∧ l' + np L = l + np (o :: L) := by
      intro N hN
      rcases o with t | t | c
      · have hv : t.1 < 4 ∧ t.2.1 < 4 ∧ t.1 ≠ t.2.1 ∧ mk1 100 t.2.2.toInt := hVo
        have hl3 : l + np L ≤ 40000 := hl2
        unfold opM at hN
        dsimp only at hN
        by_cases hc : sm t.2.2.toInt (e t.2.1 t.1) < 1
        · rw [if_pos hc] at hN; cases hN
        · rw [if_neg hc] at hN
          cases hN
          exact ⟨l, eI_cut (by omega) (by omega) (by omega) hl h (by omega) (by omega) hv.2.2.2 (by omega), hl, rfl⟩
      · have hl3 : l + (np L + 101) ≤ 40000 := hl2
        cases hN
        exact ⟨l + 101, eI_pass (by omega) (by omega) (by omega) h, by omega, by show l + 101 + np L = l + (np L + 101); omega⟩
      · have hl3 : l + np L ≤ 40000 := hl2
        cases hN
        exact ⟨l, eI_set (by omega) (by omega) (by omega) h (rc_ok m c), hl, rfl⟩
    have hlb : l ≤ 40000 := by
      have := np_nn (o :: L)
      omega
    refine ⟨⟨zgd_mono h.1 (by omega), fun N hN => ?_⟩, fun N hN => ?_⟩
    · obtain ⟨l', a, b, c⟩ := step N hN
      exact (ih hVL b (by omega) a).1
    · cases hop : opM o e with
      | none =>
        have e2 : runM (o :: L) e = none := by
          show (match opM o e with | none => none | some N => runM L N) = none
          rw [hop]
        rw [e2] at hN
        cases hN
      | some N1 =>
        have e2 : runM (o :: L) e = runM L N1 := by
          show (match opM o e with | none => none | some N => runM L N) = runM L N1
          rw [hop]
        rw [e2] at hN
        obtain ⟨l', a, b, c⟩ := step N1 hop
        have := (ih hVL b (by omega) a).2 N hN
        rw [c] at this
        exact this
theorem pair_run {g : Nat → Int} (hg : ∀ i, i < 4 → 0 ≤ g i ∧ g i ≤ 100) : ∀ (L : List Op) {l : Int} {z e : iM}, (∀ o, o ∈ L → opV o) → (∀ o, o ∈ L → opG g o) → 100 ≤ l → l + np L ≤ 40000 → eI 5 l e → zI l g z e → gRun 4 L z ∧ ∀ N, runM L z = some N → ∃ E, runM L e = some E ∧ eI 5 (l + np L) E ∧ zI (l + np L) g N E := by
  intro L
  induction L with
  | nil =>
    intro l z e _ _ _ _ h k
    refine ⟨trivial, fun N hN => ?_⟩
    cases hN
    refine ⟨e, rfl, ?_, ?_⟩
    · show eI 5 (l + 0) e
      rw [Int.add_zero]; exact h
    · show zI (l + 0) g z e
      rw [Int.add_zero]; exact k
  | cons o L ih =>
    intro l z e hV hG hl hl2 h k
    have hA := AN_is
    have nn := np_nn L
    have hVo := hV o List.mem_cons_self
    have hGo := hG o List.mem_cons_self
    have hVL : ∀ o, o ∈ L → opV o := fun o ho => hV o (List.mem_cons_of_mem _ ho)
    have hGL : ∀ o, o ∈ L → opG g o := fun o ho => hG o (List.mem_cons_of_mem _ ho)
    have step : ∀ N, opM o z = some N → ∃ l' E, opM o e = some E ∧ eI 5 l' E ∧ zI l' g N E ∧ 100 ≤ l' ∧ l' + np L = l + np (o :: L) := by
      intro N hN
      rcases o with t | t | c
      · have hv : t.1 < 4 ∧ t.2.1 < 4 ∧ t.1 ≠ t.2.1 ∧ mk1 100 t.2.2.toInt := hVo
        have hg2 : (t.1 = 0 ∨ t.2.1 = 0) ∧ mk1 (g (t.1 + t.2.1)) t.2.2.toInt := hGo
        have hl3 : l + np L ≤ 40000 := hl2
        have gx := hg (t.1 + t.2.1) (by omega)
        unfold opM at hN
        dsimp only at hN
        by_cases hc : sm t.2.2.toInt (z t.2.1 t.1) < 1
        · rw [if_pos hc] at hN; cases hN
        · rw [if_neg hc] at hN
          cases hN
          obtain ⟨a, b⟩ := zI_cut hl (by omega) h k hv.1 hv.2.1 hg2.1 gx.1 gx.2 hg2.2 (show 1 ≤ sm t.2.2.toInt (z t.2.1 t.1) by omega)
          refine ⟨l, sq e t.1 t.2.1 t.2.2.toInt, ?_, eI_cut (by omega) (by omega) (by omega) hl h (by omega) (by omega) hv.2.2.2 a, b, hl, rfl⟩
          unfold opM
          dsimp only
          rw [if_neg (by omega)]
      · have hl3 : l + (np L + 101) ≤ 40000 := hl2
        cases hN
        exact ⟨l + 101, pm e, rfl, eI_pass (by omega) (by omega) (by omega) h, zI_pass (by omega) (by omega) (h.1.2.1 0 (by omega)) k, by omega, by show l + 101 + np L = l + (np L + 101); omega⟩
      · have hl3 : l + np L ≤ 40000 := hl2
        cases hN
        exact ⟨l, rs (rc c) e, rfl, eI_set (by omega) (by omega) (by omega) h (rc_ok 5 c), zI_set (by omega) (by omega) k (rc_ok 5 c), hl, rfl⟩
    have hlb : l ≤ 40000 := by
      have := np_nn (o :: L)
      omega
    refine ⟨⟨zgd_mono k.1 (by omega), fun N hN => ?_⟩, fun N hN => ?_⟩
    · obtain ⟨l', E, a1, a2, a3, a4, a5⟩ := step N hN
      exact (ih hVL hGL a4 (by omega) a2 a3).1
    · cases hop : opM o z with
      | none =>
        have e2 : runM (o :: L) z = none := by
          show (match opM o z with | none => none | some N => runM L N) = none
          rw [hop]
        rw [e2] at hN
        cases hN
      | some N1 =>
        have e2 : runM (o :: L) z = runM L N1 := by
          show (match opM o z with | none => none | some N => runM L N) = runM L N1
          rw [hop]
        rw [e2] at hN
        obtain ⟨l', E, a1, a2, a3, a4, a5⟩ := step N1 hop
        obtain ⟨E2, b1, b2, b3⟩ := (ih hVL hGL a4 (by omega) a2 a3).2 N hN
        rw [a5] at b2 b3
        refine ⟨E2, ?_, b2, b3⟩
        show (match opM o e with | none => none | some N => runM L N) = some E2
        rw [a1]
        exact b1
theorem runM_cg {m : Nat} (hm4 : 4 ≤ m) : ∀ (L : List Op) {M N : iM}, (∀ o, o ∈ L → opV o) → agr m M N → (runM L M = none ∧ runM L N = none) ∨ ∃ M' N', runM L M = some M' ∧ runM L N = some N' ∧ agr m M' N' := by
  intro L
  induction L with
  | nil => intro M N _ h; exact Or.inr ⟨M, N, rfl, rfl, h⟩
  | cons o L ih =>
    intro M N hV h
    rcases opM_cg hm4 (hV o List.mem_cons_self) h with ⟨a, b⟩ | ⟨M1, N1, a, b, c⟩
    · left
      constructor
      · show (match opM o M with | none => none | some N => runM L N) = none
        rw [a]
      · show (match opM o N with | none => none | some N => runM L N) = none
        rw [b]
    · have e1 : runM (o :: L) M = runM L M1 := by
        show (match opM o M with | none => none | some N => runM L N) = runM L M1
        rw [a]
      have e2 : runM (o :: L) N = runM L N1 := by
        show (match opM o N with | none => none | some N => runM L N) = runM L N1
        rw [b]
      rw [e1, e2]
      exact ih (fun o ho => hV o (List.mem_cons_of_mem _ ho)) c

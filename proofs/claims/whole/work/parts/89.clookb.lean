/-! lookAt, class against reference; how many MOVES there are -/
theorem mvO_cnt {σ σ' : mS} {k : Nat} {v : Mv} (h : mvO σ k v σ') (hs : sml (σ 22 0) 200) : (σ' 40 0 = σ 40 0 ∨ σ' 40 0 = σ 40 0 + 1) ∧ ∀ j, j < N (σ 22 0) → σ' 29 j = σ 29 j := by
  unfold mvO tmO at h
  obtain ⟨o1, o2, o3, o4⟩ := h
  generalize qB σ k (mPX σ k v) (mGZ σ v) (σ 15) = B at o1 o2 o3 o4
  by_cases g0 : B.2 = 0
  · by_cases g1 : seenP σ (mPX σ k v) B.1
    · have hx := o2 g0 g1
      exact ⟨Or.inr (by rw [hx 40 0 (by decide), su_n (by decide), su_e]), fun j _ => by rw [hx 29 j (by decide), su_n (by decide), su_n (by decide)]⟩
    · by_cases g2 : σ 22 0 = 200
      · have hx := o3 g0 g1 g2
        exact ⟨Or.inr (by rw [hx 40 0 (by decide), su_n (by decide), su_e]), fun j _ => by rw [hx 29 j (by decide), su_n (by decide), su_n (by decide)]⟩
      · have hx := o4 g0 g1 g2
        refine ⟨Or.inr (hx 40 0 (by decide)), fun j hj => ?_⟩
        rw [hx 29 j (by decide)]
        show (if j = N (σ 22 0) then (-2 : Int32) else σ 29 j) = σ 29 j
        rw [if_neg (by omega)]
  · have hx := o1 g0
    exact ⟨Or.inl (hx 40 0 (by decide)), fun j _ => hx 29 j (by decide)⟩
theorem mvF_cnt {k : Nat} : ∀ (L : List Mv) {σ σ' : mS}, RI σ → k < N (σ 22 0) → (∀ v, v ∈ L → mOk v) → mvF k L σ σ' → ∀ c, σ 40 0 = J c → (∃ c', c' ≤ c + L.length ∧ σ' 40 0 = J c') ∧ ∀ j, j < N (σ 22 0) → σ' 29 j = σ 29 j := by
  intro L
  induction L with
  | nil =>
    intro σ σ' _ _ _ h c hc
    have e : σ' = σ := h
    rw [e]
    exact ⟨⟨c, by simp, hc⟩, fun _ _ => rfl⟩
  | cons v L ih =>
    intro σ σ' hR hk ok h c hc
    by_cases g : σ 37 0 = 0
    · obtain ⟨σ1, a, b⟩ := h.1 g
      have kp := mvO_kept hR hk (ok v List.mem_cons_self) a
      have cn := mvO_cnt a hR.2.1
      have c1 : ∃ c1, c1 ≤ c + 1 ∧ σ1 40 0 = J c1 := by
        rcases cn.1 with t | t
        · exact ⟨c, by omega, t.trans hc⟩
        · exact ⟨c + 1, by omega, by rw [t, hc]; exact J_add c 1⟩
      obtain ⟨c1, l1, e1⟩ := c1
      obtain ⟨⟨c', l', e'⟩, e2⟩ := ih kp.2.2.2.2.1 (by have := kp.2.2.2.1; omega) (fun v hv => ok v (List.mem_cons_of_mem _ hv)) b c1 e1
      exact ⟨⟨c', by simp only [List.length_cons]; omega, e'⟩, fun j hj => by rw [e2 j (by have := kp.2.2.2.1; omega)]; exact cn.2 j hj⟩
    · have e : σ' = σ := h.2 g
      rw [e]
      exact ⟨⟨c, by omega, hc⟩, fun _ _ => rfl⟩
theorem rowL_len (σ : mS) (k a w b : Nat) : ∀ d v, (rowL σ k a w b d v).length ≤ d := by
  intro d
  induction d with
  | zero => intro v; exact Nat.le_refl _
  | succ d ih =>
    intro v
    show ((if cnd σ k (12 * a + w) b v then [(a, w, some (b, v))] else []) ++ rowL σ k a w b d (v + 1)).length ≤ d + 1
    have := ih (v + 1)
    rw [List.length_append]
    split <;> simp <;> omega
theorem takL_len {σ : mS} (hW : WY σ) (k a w : Nat) : ∀ d b, b + d ≤ 3 → (takL σ k a w d b).length ≤ 12 * d := by
  intro d
  induction d with
  | zero => intro b _; exact Nat.le_refl _
  | succ d ih =>
    intro b hb
    show ((if b = a then [] else rowL σ k a w b (N (σ 3 b)) 0) ++ takL σ k a w d (b + 1)).length ≤ 12 * (d + 1)
    have := ih (b + 1) (by omega)
    have r := rowL_len σ k a w b (N (σ 3 b)) 0
    have s := (hW.2.1 b (by omega)).2.2
    rw [List.length_append]
    split
    · simp; omega
    · omega
theorem wayL_len {σ : mS} (hW : WY σ) (k a w : Nat) : (wayL σ k a w).length ≤ 36 := by
  unfold wayL
  have := takL_len hW k a w (N (σ 1 0)) 0 (by have := hW.1.2; omega)
  have := hW.1.2
  split
  · split
    · simp
    · omega
  · simp
theorem lkR_len {σ : mS} (hW : WY σ) (k a : Nat) : ∀ d w, (lkR σ k a d w).length ≤ 36 * d := by
  intro d
  induction d with
  | zero => intro w; exact Nat.le_refl _
  | succ d ih =>
    intro w
    show (wayL σ k a w ++ lkR σ k a d (w + 1)).length ≤ _
    have := ih (w + 1)
    have := wayL_len hW k a w
    rw [List.length_append]
    omega
theorem lkL_len {σ : mS} (hW : WY σ) (k : Nat) : ∀ d a, a + d ≤ 3 → (lkL σ k d a).length ≤ 432 * d := by
  intro d
  induction d with
  | zero => intro w _; exact Nat.le_refl _
  | succ d ih =>
    intro a ha
    show (lkR σ k a (N (σ 3 a)) 0 ++ lkL σ k d (a + 1)).length ≤ _
    have := ih (a + 1) (by omega)
    have := lkR_len hW k a (N (σ 3 a)) 0
    have s := (hW.2.1 a (by omega)).2.2
    rw [List.length_append]
    omega
def LB (κ : kS) (σ : mS) (k : Nat) : Prop := (∀ j, k ≤ j → j < N (σ 22 0) → κ 19 j 7 = 0 ∧ κ 19 j 8 = 0) ∧ (∀ j, j < k → κ 19 j 7 = σ 29 j ∧ 0 ≤ (σ 29 j).toInt) ∧ (∀ j, k ≤ j → j < N (σ 22 0) → σ 29 j = (-2 : Int32)) ∧ κ 1 0 4 = σ 23 0 ∧ κ 1 0 5 = σ 34 0 ∧ κ 1 0 6 = σ 35 0 ∧ σ 23 0 = J k
/-- what a walk leaves of its counts -/
def LE (κ : kS) (σ : mS) : Prop := ∃ k, k ≤ N (σ 22 0) ∧ (∀ j, j < k → κ 19 j 7 = σ 29 j ∧ 0 ≤ (σ 29 j).toInt) ∧ (∀ j, k ≤ j → j < N (σ 22 0) → σ 29 j = (-2 : Int32)) ∧ κ 1 0 4 = σ 23 0 ∧ κ 1 0 5 = σ 34 0 ∧ κ 1 0 6 = σ 35 0 ∧ σ 23 0 = J k
section LKB
variable {D : kD} {κ : kS} {σ σ1 : mS} {z k : Nat}
theorem lkB_kept (hR : RI σ) : kept σ (lkB σ) := kept_same hR (fun a b _ h => by unfold lkB; rw [su_n (by omega), su_n (by omega)]) (fun b => by unfold lkB; rw [su_n (by decide), su_n (by decide)]) (by unfold lkB; rw [su_n (by decide), su_n (by decide)]) (by unfold lkB; rw [su_n (by decide), su_n (by decide)]) (fun b => by unfold lkB; rw [su_n (by decide), su_n (by decide)])
theorem lookAt_y (h : YW D κ σ) (hF : FZ D κ z) (hA : AI σ) (hC : CR κ σ) (hB : LB κ σ k) (hk : k < N (σ 22 0)) (hsp : σ 37 0 = 0) (hm : mvF k (movesL σ k) (lkB σ) σ1) {x2 x3 : Int32} : ∃ D' κ' r c s, Ev (fun n => Ya_lookAt_f n 0 (D.1 1 0) (some (D.1 19 k)) x2 x3 (rn D κ) z) (r, rn D' κ', c, s) ∧ WS D κ z D' κ' (lkE σ1 k) c s ∧ AI (lkE σ1 k) ∧ N (σ 22 0) ≤ N (lkE σ1 k 22 0) ∧ yq (lkE σ1 k) σ ∧ ((r = 0 ∧ ¬ lkE σ1 k 37 0 = 0 ∧ LE κ' (lkE σ1 k)) ∨ (r = 1 ∧ lkE σ1 k 37 0 = 0 ∧ LB κ' (lkE σ1 k) (k + 1))) := by
  have hR := hA.1
  have kp := lkB_kept hR
  have lb : ∀ s b, s ≠ 40 → s ≠ 41 → lkB σ s b = σ s b := fun s b h1 h2 => by unfold lkB; rw [su_n h2, su_n h1]
  have sB : sst σ (lkB σ) := sst_su (sst_su (sst.rf σ) (by decide)) (by decide)
  have w0 : kws κ k κ := ⟨fun _ _ _ _ _ => rfl, fun _ _ _ => rfl⟩
  obtain ⟨b1, b2, b3, b4, b5, b6, b7⟩ := hB
  have lk0 : LK κ (lkB σ) k := by
    refine ⟨⟨?_, ?_⟩, fun j hj hj2 => ?_, fun j hj => ?_, fun j hj hj2 => ?_, ?_, ?_, ?_, ?_⟩
    · unfold lkB; rw [su_n (by decide), su_e]; exact (b1 k (Nat.le_refl _) hk).1
    · unfold lkB; rw [su_e]; exact (b1 k (Nat.le_refl _) hk).2
    · rw [lb 22 0 (by decide) (by decide)] at hj2; exact b1 j (by omega) hj2
    · rw [lb 29 j (by decide) (by decide)]; exact (b2 j hj).1
    · rw [lb 22 0 (by decide) (by decide)] at hj2
      rw [lb 29 j (by decide) (by decide)]; exact b3 j hj hj2
    · rw [lb 23 0 (by decide) (by decide)]; exact b4
    · rw [lb 34 0 (by decide) (by decide)]; exact b5
    · rw [lb 35 0 (by decide) (by decide)]; exact b6
    · rw [lb 23 0 (by decide) (by decide)]; exact b7
  have S : SS D κ (lkB σ) z k (D.1 1 0) (D.1 19 k) := ⟨YW_sst h sB.1, hF, lkB_AI hA, CR_cg hC w0 sB, lk0, by rw [lb 22 0 (by decide) (by decide)]; exact hk, rfl, rfl⟩
  obtain ⟨D', κ', c, s, e1, e2, e3, e4, e5⟩ := lkc_2 hR.1 hk (N (σ 1 0)) 0 D κ z (lkB σ) σ1 (by omega) S kp (by rw [lb 37 0 (by decide) (by decide)]; exact hsp) hm
  have mOks : ∀ v, v ∈ movesL σ k → mOk v := fun v hv => mvE_ok hR.1 (movesL_E v hv)
  have cnt := mvF_cnt (movesL σ k) kp.2.2.2.2.1 (by rw [lb 22 0 (by decide) (by decide)]; exact hk) mOks hm 0 (by unfold lkB; rw [su_n (by decide), su_e]; rfl)
  rw [lb 22 0 (by decide) (by decide)] at cnt
  have len : (movesL σ k).length ≤ 1296 := by
    have := lkL_len hR.1 k (N (σ 1 0)) 0 (by have := hR.1.1.2; omega)
    have := hR.1.1.2
    unfold movesL
    omega
  have pre : ∀ R, Ev (fun n => Ya_lookAt_f n 2 (D.1 1 0) (some (D.1 19 k)) (J 0) 0 (rn D κ) z) R → Ev (fun n => Ya_lookAt_f n 0 (D.1 1 0) (some (D.1 19 k)) x2 x3 (rn D κ) z) R := fun R e => by
    refine Ev.succ (fun n => Ya_lookAt_e0 n _ _ _ _ _ _) ?_
    unfold Ya_lookAt_t0
    exact e
  have nneg : ∀ j, j < k → 0 ≤ (σ1 29 j).toInt := fun j hj => by
    rw [cnt.2 j (by omega), lb 29 j (by decide) (by decide)]
    exact (b2 j hj).2
  obtain ⟨sYW, sFZ, sAI, sCR, sLK, sk, -, -⟩ := e2
  obtain ⟨l1, l2, l3, l4, l5, l6, l7, l8⟩ := sLK
  by_cases q : σ1 37 0 = 0
  · -- to the last of them
    have eE : lkE σ1 k = su (su (su (su σ1 29 k (σ1 40 0)) 34 0 (σ1 34 0 + σ1 40 0)) 35 0 (σ1 35 0 + σ1 41 0)) 23 0 (σ1 23 0 + 1) := by unfold lkE; rw [if_pos q]
    generalize hE : lkE σ1 k = π at eE
    have pn : ∀ s b, s ≠ 29 → s ≠ 34 → s ≠ 35 → s ≠ 23 → π s b = σ1 s b := fun s b h1 h2 h3 h4 => by rw [eE, su_n h4, su_n h3, su_n h2, su_n h1]
    have p29 : ∀ j, π 29 j = if j = k then σ1 40 0 else σ1 29 j := fun j => by
      rw [eE, su_n (by decide), su_n (by decide), su_n (by decide)]
      by_cases g : j = k
      · rw [if_pos g, g, su_e]
      · rw [if_neg g]; simp [su, g]
    have p34 : π 34 0 = σ1 34 0 + σ1 40 0 := by rw [eE, su_n (by decide), su_n (by decide), su_e]
    have p35 : π 35 0 = σ1 35 0 + σ1 41 0 := by rw [eE, su_n (by decide), su_e]
    have p23 : π 23 0 = σ1 23 0 + 1 := by rw [eE, su_e]
    let κe : kS := kLE κ' k
    have ke : ∀ kd ix, ¬ (kd = 1 ∧ ix = 0) → κe kd ix = κ' kd ix := fun kd ix hn => by
      show kLE κ' k kd ix = _
      unfold kLE
      rw [ku_n hn, ku_n hn, ku_n hn]
    have ke1 : κe 1 0 = fu (fu (fu (κ' 1 0) 4 (κ' 1 0 4 + 1)) 5 (κ' 1 0 5 + κ' 19 k 7)) 6 (κ' 1 0 6 + κ' 19 k 8) := by
      show kLE κ' k 1 0 = _
      unfold kLE
      rw [ku_e, ku_e, ku_e]
    have kc : ∀ c, c ≠ 4 → c ≠ 5 → c ≠ 6 → κe 1 0 c = κ' 1 0 c := fun c h4 h5 h6 => by rw [ke1, fu_n h6, fu_n h5, fu_n h4]
    have kxe : kxd κ' κe := ⟨kc 1 (by decide) (by decide) (by decide), by funext y; exact ke 9 y (by omega), fun m => ke 10 m (by omega), fun d => ke 22 d (by omega)⟩
    have kye : ky κ' κe := ⟨kc 1 (by decide) (by decide) (by decide), by funext y; exact ke 10 y (by omega), by funext y; exact ke 13 y (by omega), by funext y; exact ke 14 y (by omega), by funext y; exact ke 15 y (by omega), by funext y; exact ke 16 y (by omega), by funext y; exact ke 17 y (by omega), by funext y; exact ke 18 y (by omega)⟩
    have k3e : κe 3 0 0 = κ' 3 0 0 := by rw [ke 3 0 (by omega)]
    have yqp : yq π σ1 := fun a b _ hb => pn a b (by omega) (by omega) (by omega) (by omega)
    have crE : CR κe π := by
      obtain ⟨c1, c2, c3, c4, c5, c6, c7, c8⟩ := sCR
      have z22 : π 22 0 = σ1 22 0 := pn 22 0 (by decide) (by decide) (by decide) (by decide)
      have z20 : π 20 0 = σ1 20 0 := pn 20 0 (by decide) (by decide) (by decide) (by decide)
      have z1 : π 1 0 = σ1 1 0 := pn 1 0 (by decide) (by decide) (by decide) (by decide)
      unfold CR
      rw [z22, z20, z1, kc 3 (by decide) (by decide) (by decide), kc 8 (by decide) (by decide) (by decide), ke 4 0 (by omega), k3e]
      refine ⟨c1, ⟨c2.1, fun t b hb => by rw [pn 19 b (by decide) (by decide) (by decide) (by decide)]; exact c2.2 t b hb⟩, c3, c4, fun j hj => by rw [ke 19 j (by omega)]; exact c5 j hj, fun j hj => ?_, fun j i hj h1 h2 => by rw [pn 24 _ (by decide) (by decide) (by decide) (by decide)]; exact c7 j i hj h1 h2, fun j hj => ?_⟩
      · refine SRl_cj (c6 j hj) (ke 20 j (by omega)) (ke 21 j (by omega)) (fun c _ _ _ => by rw [ke 19 j (by omega)]) (by rw [ke 19 j (by omega), pn 28 j (by decide) (by decide) (by decide) (by decide)]; exact (c6 j hj).2.2.1) (ke 7 _ (by omega)) (ke 7 _ (by omega)) (ke 6 _ (by omega)) (ke 6 _ (by omega)) (fun i _ => pn 24 _ (by decide) (by decide) (by decide) (by decide)) (pn 27 _ (by decide) (by decide) (by decide) (by decide)) (pn 30 _ (by decide) (by decide) (by decide) (by decide)) (fun i _ => pn 31 _ (by decide) (by decide) (by decide) (by decide)) (pn 32 _ (by decide) (by decide) (by decide) (by decide)) (pn 33 _ (by decide) (by decide) (by decide) (by decide)) (fun b _ => pn 25 _ (by decide) (by decide) (by decide) (by decide)) (fun b _ => pn 26 _ (by decide) (by decide) (by decide) (by decide))
      · have t := c8 j hj
        unfold TIj at t ⊢
        simp only [fun b => pn 27 b (by decide) (by decide) (by decide) (by decide), fun b => pn 30 b (by decide) (by decide) (by decide) (by decide)]
        exact t
    refine ⟨D', κe, 1, c, s, pre _ (e5 q), ⟨e1.1, YW_sst (sYW.cg kxe kye k3e) yqp, sFZ.cg kxe k3e, by rw [k3e]; exact e1.2.2.2.1, by rw [k3e]; exact e1.2.2.2.2.1, crE, e1.2.2.2.2.2.2.tr ⟨ke 6 1 (by omega), ke 7 1 (by omega), fun kd ix hh => ke kd ix (by omega), kc 7 (by decide) (by decide) (by decide)⟩⟩, by rw [← hE]; exact lkE_AI sAI k, by rw [pn 22 0 (by decide) (by decide) (by decide) (by decide)]; exact e3.2.2.2.1, fun a b h1 h2 => by rw [yqp a b h1 h2]; exact e3.1 a b h1 h2, Or.inr ⟨rfl, by rw [pn 37 0 (by decide) (by decide) (by decide) (by decide)]; exact q, ?_⟩⟩
    have z22 : π 22 0 = σ1 22 0 := pn 22 0 (by decide) (by decide) (by decide) (by decide)
    unfold LB
    rw [z22, p34, p35, p23]
    refine ⟨fun j hj hj2 => by rw [ke 19 j (by omega)]; exact l2 j (by omega) hj2, fun j hj => ?_, fun j hj hj2 => by rw [p29, if_neg (by omega)]; exact l4 j (by omega) hj2, ?_, ?_, ?_, ?_⟩
    · rw [ke 19 j (by omega), p29]
      by_cases g : j = k
      · rw [if_pos g, g]
        refine ⟨l1.1, ?_⟩
        obtain ⟨c', x1, x2⟩ := cnt.1
        rw [x2, J_int (by omega)]
        omega
      · rw [if_neg g]
        exact ⟨l3 j (by omega), nneg j (by omega)⟩
    · rw [ke1, fu_n (by decide), fu_n (by decide), fu_e, l5]
    · rw [ke1, fu_n (by decide), fu_e, l6, l1.1]
    · rw [ke1, fu_e, l7, l1.2]
    · rw [l8]; exact J_add k 1
  · have eE : lkE σ1 k = σ1 := by unfold lkE; rw [if_neg q]
    rw [eE]
    exact ⟨D', κ', 0, c, s, pre _ (e4 q), e1, sAI, e3.2.2.2.1, e3.1, Or.inl ⟨rfl, q, k, by omega, fun j hj => ⟨l3 j hj, nneg j hj⟩, l4, l5, l6, l7, l8⟩⟩
end LKB

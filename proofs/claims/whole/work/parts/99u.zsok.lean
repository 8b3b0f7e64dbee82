/-! the zones of a walk's states, as THE HAND may meet them -/
def lk2 (k : Nat) : Int := 201 + 101 * (k : Int)
theorem gRun_app3 {m : Nat} {L K : List Op} : ∀ {M N : iM}, gRun m (L ++ K) M → runM L M = some N → gRun m K N := by
  induction L with
  | nil => intro M N h e; cases e; exact h
  | cons o L ih =>
    intro M N h e
    have e : (match opM o M with | none => none | some N => runM L N) = some N := e
    cases ho : opM o M with
    | none => rw [ho] at e; cases e
    | some M1 => rw [ho] at e; exact ih (h.2 M1 ho) e
theorem pm_ff (T : Int) (M : iM) : ff T (pm M) := fun ⟨k, hk, hf⟩ => by
  have hk0 := hk.1
  unfold pm at hf
  rw [if_pos (by omega)] at hf
  omega
theorem lim_ff : ∀ (L : List Op) {M N : iM}, (∀ o, o ∈ L → opV o ∧ ∃ p w, o = Sum.inl (p, 0, w)) → gRun 4 L M → ff 201 M → runM L M = some N → ff 201 N := by
  intro L
  induction L with
  | nil => intro M N _ _ h e; cases e; exact h
  | cons o L ih =>
    intro M N hL hg h e
    obtain ⟨hv, p, w, rfl⟩ := hL o List.mem_cons_self
    have hv : p < 4 ∧ 0 < 4 ∧ p ≠ 0 ∧ mk1 100 w.toInt := hv
    have e : (match opM (Sum.inl (p, 0, w)) M with | none => none | some N => runM L N) = some N := e
    cases ho : opM (Sum.inl (p, 0, w)) M with
    | none => rw [ho] at e; cases e
    | some M1 =>
      rw [ho] at e
      refine ih (fun o ho => hL o (List.mem_cons_of_mem _ ho)) (hg.2 M1 ho) ?_ e
      have eM : M1 = sq M p 0 w.toInt := by
        unfold opM at ho
        dsimp only at ho
        split at ho
        · cases ho
        · cases ho; rfl
      intro _
      refine ⟨p, ⟨by omega, hv.1⟩, ?_⟩
      have d := hg.1.2.1
      rw [eM]
      unfold sq sqT
      rw [d p hv.1, d 0 (by omega), one_sm, sm_one]
      have m := hv.2.2.2
      unfold mk1 at m
      omega
theorem limL_ff {σ : mS} (hW : WY σ) (hV : WV σ) {p : Nat → Nat} (hp : ∀ a, a < N (σ 1 0) → p a < 6) : ∀ o, o ∈ limL σ p → opV o ∧ ∃ q w, o = Sum.inl (q, 0, w) := fun o ho => by
  refine ⟨limL_V hW hV hp o ho, ?_⟩
  obtain ⟨a, _, ha, h1⟩ := itL_mem _ _ _ ho
  obtain ⟨l, _, hl, h2⟩ := itL_mem _ _ _ h1
  exact ⟨_, _, List.mem_singleton.mp h2⟩
/-- a run that ends in a pass and limits -/
theorem end_ff {σ : mS} (hW : WY σ) (hV : WV σ) {p : Nat → Nat} (hp : ∀ a, a < N (σ 1 0) → p a < 6) {L : List Op} {M N : iM} (hg : gRun 4 (L ++ ((Sum.inr none : Op) :: limL σ p)) M) (hr : runM (L ++ ((Sum.inr none : Op) :: limL σ p)) M = some N) : ff 201 N := by
  have e := hr
  rw [runM_app] at e
  cases ho : runM L M with
  | none => rw [ho] at e; cases e
  | some M1 =>
    rw [ho] at e
    have e : runM (limL σ p) (pm M1) = some N := e
    exact lim_ff _ (limL_ff hW hV hp) ((gRun_app3 hg ho).2 _ rfl) (pm_ff 201 M1) e
theorem zOK_e {l : Int} (hl : l ≤ 20301) {E : iM} (he : eI 5 l E) {Z : Nat → Int32} (h : agr 4 (zi Z) E) (hf : ff 201 E) : zOK Z := by
  have hA := AN_is
  have en : ∀ i j, i < 4 → j < 4 → nz Z i j = E i j := fun i j hi hj => by rw [nz_in _ hi hj]; exact h i j hi hj
  refine ⟨fun i j hi hj => ?_, fun i hi => ?_, fun j hj => ?_, fun k hk i j hi hj f1 f2 => ?_, fun ⟨k, hk, hf2⟩ => ?_⟩
  · rw [h i j hi hj]
    exact fn_mono (he.1.2.2 i j (by omega) (by omega)) (by omega)
  · rw [h i i hi hi]
    exact he.1.2.1 i (by omega)
  · rw [h 0 j (by omega) hj]
    exact he.2.2 j (by omega)
  · rw [en i k hi hk] at f1 ⊢
    rw [en k j hk hj] at f2 ⊢
    rw [en i j hi hj, ← sm_nps f1 f2]
    exact he.1.1 i j k (by omega) (by omega) (by omega)
  · rw [en k 0 hk.2 (by omega)] at hf2
    obtain ⟨y, hy, hy2⟩ := hf ⟨k, hk, hf2⟩
    exact ⟨y, hy, by rw [en y 0 hy.2 (by omega)]; omega⟩
theorem zOK_new {b : Int32} {l l2 : Int} {g : Nat → Int} {gg : Nat → Int32} (hg : ∀ i, i < 4 → 0 ≤ (gg i).toInt ∧ (gg i).toInt ≤ 100) {Nz E : iM} {Zb : Nat → Int32} (h0 : b = 0 → agr 4 (zi Zb) Nz) (h1 : ¬ (b = 0) → ∃ Z, agr 4 (zi Z) Nz ∧ Zb = cl 4 (lt gg Z)) (p1 : zP b l g Nz E) (p2 : zP b l g (zi Zb) E) (hl : l2 ≤ 20301) (he : eI 5 l2 E) (hf : ff 201 Nz) : zOK Zb := by
  have hA := AN_is
  by_cases hb : b = 0
  · have a1 := h0 hb
    have a2 := p1.2.1 hb
    refine zOK_e hl he (fun i j hi hj => (a1 i j hi hj).trans (a2 i j hi hj)) (fun ⟨k, hk, hf2⟩ => ?_)
    rw [← a2 k 0 hk.2 (by omega)] at hf2
    obtain ⟨y, hy, hy2⟩ := hf ⟨k, hk, hf2⟩
    exact ⟨y, hy, by rw [← a2 y 0 hy.2 (by omega)]; exact hy2⟩
  · obtain ⟨Z, hz, eZ⟩ := h1 hb
    obtain ⟨z1, z2, z3, z4, z5⟩ := p1.2.2 hb
    obtain ⟨y1, y2, y3, y4, y5⟩ := p2.2.2 hb
    rw [eZ] at y1 y3 ⊢
    have dz : ∀ i, i < 4 → zi Z i i = 1 := fun i hi => by rw [hz i i hi hi]; exact z1.2.1 i hi
    have rz : ∀ j, j < 4 → zi Z 0 j ≤ 1 := fun j hj => by rw [hz 0 j (by omega) hj]; exact z3 j hj
    have g2 : ∀ i, i < 4 → 0 ≤ (gg i).toInt ∧ (gg i).toInt ≤ 200 := fun i hi => by have := hg i hi; omega
    obtain ⟨a1, a2, a3, a4⟩ := lt_small g2 dz rz
    have em0 : em 4 (cl 4 (lt gg Z)) 0 = 0 := by
      rcases em_is 4 (cl 4 (lt gg Z)) with ⟨h, _⟩ | ⟨_, i, hi, h⟩
      · exact h
      · rw [y1.2.1 i hi] at h
        omega
    obtain ⟨b1, b2, b3, b4, b5⟩ := small_cl a1 a2 (a4 802 (fun i hi => by have := hg i hi; omega)) em0
    exact ⟨fun i j hi hj => fn_mono (b1 i j hi hj) (by omega), b2, fun j hj => by
      have := b5 0 j (by omega) hj
      have := a3 j hj
      omega, b3, b4⟩
/-- all states of a walk are good -/
def SG (σ : mS) (k : Nat) : Prop := eI 5 (lk2 k) (ze σ k) ∧ zOK (fun x => σ 25 (25 * k + x))
theorem SG_cg {σ ρ : mS} {k : Nat} (h5 : ∀ b, b < 25 → σ 25 (25 * k + b) = ρ 25 (25 * k + b)) (h6 : ∀ b, b < 25 → σ 26 (25 * k + b) = ρ 26 (25 * k + b)) (h : SG ρ k) : SG σ k := ⟨eI_cg (by omega) (ze_cg k (fun b hb => (h6 b hb).symm)) h.1, zOK_cg (fun i j hi hj => h5 (5 * i + j) (by omega)) h.2⟩
def AI2 (σ : mS) : Prop := AI σ ∧ ∀ k, k < N (σ 22 0) → SG σ k
theorem AI2.zs {σ : mS} (h : AI2 σ) : ZS σ := fun k hk => (h.2 k hk).2
theorem AI2_sx {σ ρ : mS} (s : sx jk σ ρ) (h : AI2 ρ) : AI2 σ := ⟨AI_sx s h.1, fun k hk => by
  rw [s 22 0 (by decide)] at hk
  exact SG_cg (fun b _ => s 25 _ (by decide)) (fun b _ => s 26 _ (by decide)) (h.2 k hk)⟩
theorem AI2_su {σ : mS} (h : AI2 σ) {s : Nat} (i : Nat) (v : Int32) (h14 : 14 < s) (h19 : s ≠ 19) (h20 : s ≠ 20) (h22 : s ≠ 22) (h24 : s ≠ 24) (h25 : s ≠ 25) (h26 : s ≠ 26) : AI2 (su σ s i v) := ⟨AI_su h.1 i v h14 h19 h20 h22 h24 h25 h26, fun k hk => by
  rw [su_n (Ne.symm h22)] at hk
  exact SG_cg (fun b _ => su_n (Ne.symm h25)) (fun b _ => su_n (Ne.symm h26)) (h.2 k hk)⟩
theorem mvO_AI2 {σ σ' : mS} (hA2 : AI2 σ) {k : Nat} (hk : k < N (σ 22 0)) {v : Mv} (hv : mvE σ v) (h : mvO σ k v σ') : AI2 σ' := by
  have hA := hA2.1
  have res := mvO_AI hA hk hv h
  have hR := hA.1
  have ok := mvE_ok hR.1 hv
  have hN := hR.2.1.2
  have h0 := h
  unfold mvO tmO at h
  obtain ⟨c1, c2, c3, c4⟩ := h
  by_cases hE : (qB σ k (mPX σ k v) (mGZ σ v) (σ 15)).2 = 0
  · by_cases hS : seenP σ (mPX σ k v) (qB σ k (mPX σ k v) (mGZ σ v) (σ 15)).1
    · exact AI2_sx (c2 hE hS) (AI2_su (AI2_su hA2 0 _ (by decide) (by decide) (by decide) (by decide) (by decide) (by decide) (by decide)) 0 _ (by decide) (by decide) (by decide) (by decide) (by decide) (by decide) (by decide))
    · by_cases h2 : σ 22 0 = 200
      · exact AI2_sx (c3 hE hS h2) (AI2_su (AI2_su hA2 0 _ (by decide) (by decide) (by decide) (by decide) (by decide) (by decide) (by decide)) 0 _ (by decide) (by decide) (by decide) (by decide) (by decide) (by decide) (by decide))
      · have hx : N (σ 22 0) < 200 := by
          rcases Nat.lt_or_ge (N (σ 22 0)) 200 with h | h
          · exact h
          · exfalso
            apply h2
            have e : N (σ 22 0) = 200 := by omega
            have := hR.2.1.1
            rw [e] at this
            exact this
        have s := c4 hE hS h2
        have hV := mvOps_V hR.1 hA.2.1 ok (p := mPX σ k v) (fun a ha => mPX_lt hR hk ok ha)
        have np1 := np_mvOps σ v (mPX σ k v)
        rcases mv_out hA hk hv (σ 15) (qB σ k (mPX σ k v) (mGZ σ v) (σ 15)).1 with ⟨_, t⟩ | ⟨Nz, E, E1, a1, a2, _, _, a4, a5, a7, _, a8, a9, a10, _⟩
        · rw [hE] at t
          exact absurd t (by decide)
        · have eE := (eI_run (by omega) (mvOps σ v (mPX σ k v)) hV (show 100 ≤ lk2 k by unfold lk2; omega) (by rw [np1]; unfold lk2; omega) (hA2.2 k hk).1).2 E a2
          rw [np1] at eE
          have fN : ff 201 Nz := by
            rw [mvOps_A] at a1 a10
            exact end_ff hR.1 hA.2.1 (fun a ha => mPX_lt hR hk ok ha) a10 a1
          have zo := zOK_new hA.2.2.2.1.1.1 a4 a5 a8 a9 (l2 := lk2 k + 101) (by unfold lk2; omega) eE fN
          refine ⟨res, fun j hj => ?_⟩
          generalize hqB : (qB σ k (mPX σ k v) (mGZ σ v) (σ 15)).1 = Zb at s zo a7
          generalize hqE : (qE σ k (mPX σ k v) (mGZ σ v) Zb).1 = Ze at s a7
          have e22 : N (σ' 22 0) = N (σ 22 0) + 1 := by
            rw [s 22 0 (by decide)]
            show N (σ 22 0 + 1) = N (σ 22 0) + 1
            have e : σ 22 0 + 1 = J (N (σ 22 0) + 1) := by
              have := J_add (N (σ 22 0)) 1
              rw [← hR.2.1.1] at this
              exact this
            rw [e]
            exact J_nat (by omega)
          rw [e22] at hj
          by_cases hjx : j = N (σ 22 0)
          · have z5 : ∀ b, b < 25 → σ' 25 (25 * j + b) = Zb b := fun b hb => by
              rw [s 25 _ (by decide)]
              show (if 25 * N (σ 22 0) ≤ 25 * j + b ∧ 25 * j + b < 25 * N (σ 22 0) + 25 then Zb (25 * j + b - 25 * N (σ 22 0)) else σ 25 (25 * j + b)) = _
              rw [if_pos (by omega), show 25 * j + b - 25 * N (σ 22 0) = b by omega]
            have z6 : ∀ b, b < 25 → σ' 26 (25 * j + b) = Ze b := fun b hb => by
              rw [s 26 _ (by decide)]
              show (if 25 * N (σ 22 0) ≤ 25 * j + b ∧ 25 * j + b < 25 * N (σ 22 0) + 25 then Ze (25 * j + b - 25 * N (σ 22 0)) else σ 26 (25 * j + b)) = _
              rw [if_pos (by omega), show 25 * j + b - 25 * N (σ 22 0) = b by omega]
            refine ⟨?_, zOK_cg (fun a b ha hb => z5 _ (by omega)) zo⟩
            refine eI_mono (l := lk2 k + 101) (eI_cg (by omega) (fun a b ha hb => ?_) eE) (by unfold lk2; omega)
            rw [← a7 a b ha hb]
            unfold ze zi
            dsimp only
            rw [z6 _ (by omega)]
          · refine SG_cg (ρ := σ) (fun b hb => ?_) (fun b hb => ?_) (hA2.2 j (by omega))
            · rw [s 25 _ (by decide)]
              show (if 25 * N (σ 22 0) ≤ 25 * j + b ∧ 25 * j + b < 25 * N (σ 22 0) + 25 then _ else σ 25 (25 * j + b)) = _
              rw [if_neg (by omega)]
            · rw [s 26 _ (by decide)]
              show (if 25 * N (σ 22 0) ≤ 25 * j + b ∧ 25 * j + b < 25 * N (σ 22 0) + 25 then _ else σ 26 (25 * j + b)) = _
              rw [if_neg (by omega)]
  · exact AI2_sx (c1 hE) hA2
theorem mvF_AI2 {k : Nat} {L : List Mv} : ∀ {σ σ' : mS}, AI2 σ → k < N (σ 22 0) → (∀ v, v ∈ L → mvE σ v) → mvF k L σ σ' → AI2 σ' := by
  induction L with
  | nil => intro σ σ' h _ _ e; rw [show σ' = σ from e]; exact h
  | cons v L ih =>
    intro σ σ' h hk hv hF
    by_cases t : σ 37 0 = 0
    · obtain ⟨σ1, a, b⟩ := hF.1 t
      have he := hv v List.mem_cons_self
      have k1 := mvO_kept h.1.1 hk (mvE_ok h.1.1.1 he) a
      exact ih (mvO_AI2 h hk he a) (Nat.lt_of_lt_of_le hk k1.2.2.2.1) (fun u hu => mvE_cg k1.1 (hv u (List.mem_cons_of_mem _ hu))) b
    · rw [hF.2 t]; exact h
theorem lkB_AI2 {σ : mS} (h : AI2 σ) : AI2 (lkB σ) := AI2_su (AI2_su h 0 _ (by decide) (by decide) (by decide) (by decide) (by decide) (by decide) (by decide)) 0 _ (by decide) (by decide) (by decide) (by decide) (by decide) (by decide) (by decide)
theorem lkE_AI2 {σ : mS} (h : AI2 σ) (k : Nat) : AI2 (lkE σ k) := by
  unfold lkE
  split
  · exact AI2_su (AI2_su (AI2_su (AI2_su h _ _ (by decide) (by decide) (by decide) (by decide) (by decide) (by decide) (by decide)) _ _ (by decide) (by decide) (by decide) (by decide) (by decide) (by decide) (by decide)) _ _ (by decide) (by decide) (by decide) (by decide) (by decide) (by decide) (by decide)) _ _ (by decide) (by decide) (by decide) (by decide) (by decide) (by decide) (by decide)
  · exact h
theorem wkF_AI2 : ∀ d k {σ σ' : mS}, AI2 σ → wkF d k σ σ' → AI2 σ' := by
  intro d
  induction d with
  | zero => intro k σ σ' h e; rw [show σ' = σ from e]; exact h
  | succ d ih =>
    intro k σ σ' h hF
    by_cases t : k < N (σ 22 0) ∧ σ 37 0 = 0
    · obtain ⟨σ1, a, b⟩ := hF.1 t.1 t.2
      have h1 : AI2 σ1 := mvF_AI2 (lkB_AI2 h) (show k < N (lkB σ 22 0) from t.1) (fun v hv => mvE_cg (fun a b _ g => by unfold lkB; rw [su_n (by omega), su_n (by omega)]) (movesL_E v hv)) a
      exact ih (k + 1) (lkE_AI2 h1 k) b
    · rw [hF.2 t]; exact h
theorem stO_AI2 {σ σ' : mS} (hW : WY σ) (hV : WV σ) (hT : WT σ) (hC : gC σ) (hc : canW σ) (h22 : σ 22 0 = J 0) (h : stO σ σ') : AI2 σ' := by
  refine ⟨stO_AI hW hV hT hC hc h22 h, fun k hk => ?_⟩
  have hpz : ∀ a, a < N (σ 1 0) → pz0 a < 6 := fun a _ => by unfold pz0; omega
  by_cases hE : (qS σ (σ 15)).2 = 0
  · have s := h.2 hE
    rcases st_out hW hV hC hc (σ 15) (qS σ (σ 15)).1 with ⟨_, t⟩ | ⟨Nz, E, a1, _, a3, a4, a7, a2, a8, a9, a10, _⟩
    · rw [hE] at t; exact absurd t (by decide)
    · have eE := (eI_run (l := 100) (by omega) (arL σ pz0) (arL_V hW hV hpz) (by omega) (by rw [np_arL]; omega) (ones_eI 5 (by omega))).2 E a2
      rw [np_arL] at eE
      have fN : ff 201 Nz := end_ff hW hV hpz a10 a1
      have zo := zOK_new hC.1.1 a3 a4 a8 a9 (l2 := 100 + 101) (by omega) eE fN
      generalize hqB : (qS σ (σ 15)).1 = Zb at s zo a7
      generalize hqE : (qSe σ Zb).1 = Ze at s a7
      have e22 : N (σ' 22 0) = 1 := by
        rw [s 22 0 (by decide)]
        show N (σ 22 0 + 1) = 1
        rw [h22, show J 0 + 1 = J 1 from J_add 0 1]
        exact J_nat (by omega)
      rw [e22] at hk
      have hk0 : k = 0 := by omega
      have z5 : ∀ b, b < 25 → σ' 25 (25 * k + b) = Zb b := fun b hb => by
        rw [s 25 _ (by decide)]
        show (if 25 * k + b < 25 then Zb (25 * k + b) else σ 25 (25 * k + b)) = _
        rw [if_pos (by omega), show 25 * k + b = b by omega]
      have z6 : ∀ b, b < 25 → σ' 26 (25 * k + b) = Ze b := fun b hb => by
        rw [s 26 _ (by decide)]
        show (if 25 * k + b < 25 then Ze (25 * k + b) else σ 26 (25 * k + b)) = _
        rw [if_pos (by omega), show 25 * k + b = b by omega]
      refine ⟨?_, zOK_cg (fun a b ha hb => z5 _ (by omega)) zo⟩
      refine eI_mono (l := 100 + 101) (eI_cg (by omega) (fun a b ha hb => ?_) eE) (by unfold lk2; omega)
      rw [← a7 a b ha hb]
      unfold ze zi
      dsimp only
      rw [z6 _ (by omega)]
  · have s := h.1 hE
    rw [s 22 0 (by decide), h22, show N (J 0) = 0 from J_nat (by omega)] at hk
    omega
/-- after a walk of the reference -/
theorem walk_AI2 {σ σ1 σ2 : mS} (hW : WY σ) (hV : WV σ) (hT : WT σ) (hc : canW σ) (h1 : stO (wS σ) σ1) (h2 : wkF 200 0 σ1 σ2) : AI2 σ2 := by
  have yS := wS_yq σ
  have hc2 : canW (wS σ) := by
    refine ⟨by rw [yS 1 0 (by decide) (by decide)]; exact hc.1, fun a ha => ?_⟩
    rw [yS 1 0 (by decide) (by decide)] at ha
    rw [yS 2 a (by decide) (by decide)]
    exact hc.2 a ha
  exact wkF_AI2 200 0 (stO_AI2 (hW.eq yS) (hV.eq yS) (WT_cg yS hT) (wS_gC hW hV) hc2 rfl h1) h2

/-! THE REFERENCE: the moves of a state, as a list -/
abbrev Mv : Type := Nat × Nat × Option (Nat × Nat)
def mP0 (σ : mS) (k : Nat) : Nat → Nat := fun i => N (σ 24 (3 * k + i))
def mPX (σ : mS) (k : Nat) (v : Mv) : Nat → Nat := match v.2.2 with
  | none => p1m σ v.1 v.2.1 (mP0 σ k)
  | some t => p2m σ v.1 v.2.1 t.1 t.2 (mP0 σ k)
def mGZ (σ : mS) (v : Mv) : Nat → zQ → zQ := match v.2.2 with
  | none => fun m q => q1m σ m v.1 v.2.1 q
  | some t => fun m q => q2m σ m v.1 v.2.1 t.1 t.2 q
def mY (v : Mv) : Int32 := match v.2.2 with
  | none => ((-1) : Int32)
  | some t => J t.1
def mU (v : Mv) : Int32 := match v.2.2 with
  | none => ((-1) : Int32)
  | some t => J t.2
def mOk (v : Mv) : Prop := v.1 < 3 ∧ v.2.1 < 12 ∧ (match v.2.2 with
  | none => True
  | some t => t.1 < 3 ∧ t.2 < 12)
/-- what holds in a walk -/
def RI (σ : mS) : Prop := WY σ ∧ sml (σ 22 0) 200 ∧ ∀ j i, j < N (σ 22 0) → i < N (σ 1 0) → sml (σ 24 (3 * j + i)) 5
theorem q1m_cg {σ ρ : mS} (h : yq ρ σ) (m a w : Nat) (q : zQ) : q1m ρ m a w q = q1m σ m a w q := by
  unfold q1m
  rw [h 10 _ (by decide) (by decide), qt_cg h]
theorem q2m_cg {σ ρ : mS} (h : yq ρ σ) (m a w b v : Nat) (q : zQ) : q2m ρ m a w b v q = q2m σ m a w b v q := by
  unfold q2m
  rw [h 10 _ (by decide) (by decide), h 10 _ (by decide) (by decide), qt_cg h, qt_cg h]
theorem p1m_cg {σ ρ : mS} (h : yq ρ σ) (a w : Nat) (p : Nat → Nat) : p1m ρ a w p = p1m σ a w p := by
  unfold p1m
  rw [h 8 _ (by decide) (by decide)]
theorem p2m_cg {σ ρ : mS} (h : yq ρ σ) (a w b v : Nat) (p : Nat → Nat) : p2m ρ a w b v p = p2m σ a w b v p := by
  unfold p2m
  rw [h 8 _ (by decide) (by decide), h 8 _ (by decide) (by decide)]
theorem qar_cg {σ ρ : mS} (h : yq ρ σ) (m : Nat) (p : Nat → Nat) (q : zQ) : qar ρ m p q = qar σ m p q := by
  unfold qar
  rw [ql_cg h, ql_cg h]
theorem gHyp_of {σ : mS} {τ : mL} {k : Nat} (hR : RI σ) (hk : k < N (σ 22 0)) {v : Mv} (hv : mOk v) : gHyp σ τ v.1 v.2.1 (mY v) (mU v) (mP0 σ k) (mPX σ k v) (mGZ σ v) := by
  obtain ⟨hW, hs, hat⟩ := hR
  intro ρ m q x hy hm hm1 h16 h38
  have h1 : ρ 1 0 = σ 1 0 := hy 1 0 (by decide) (by decide)
  have hp : ∀ i, i < N (ρ 1 0) → ρ 38 i = J (mP0 σ k i) ∧ mP0 σ k i < 6 := fun i hi => by
    rw [h1] at hi
    refine ⟨h38 i hi, ?_⟩
    have := (hat k i hk hi).2
    unfold mP0
    omega
  obtain ⟨a, w, o⟩ := v
  cases o with
  | none =>
    obtain ⟨ρ', e, s, c, p⟩ := go1_q (σ := ρ) (τ := τ) (q := q) hm hm1 h16 (hW.eq hy) hp (a := a) (w := w) hv.1 hv.2.1 x (y := ((-1) : Int32)) (by decide) (by decide) ((-1) : Int32)
    rw [q1m_cg hy, p1m_cg hy, qar_cg hy] at e
    rw [q1m_cg hy, p1m_cg hy, ql_cg hy] at c
    rw [p1m_cg hy, h1] at p
    exact ⟨ρ', e, s, c, p⟩
  | some t =>
    obtain ⟨b, v⟩ := t
    obtain ⟨ρ', e, s, c, p⟩ := go2_q (σ := ρ) (τ := τ) (q := q) hm hm1 h16 (hW.eq hy) hp (a := a) (w := w) (b := b) (v := v) hv.1 hv.2.1 hv.2.2.1 hv.2.2.2 x
    rw [q2m_cg hy, p2m_cg hy, qar_cg hy] at e
    rw [q2m_cg hy, p2m_cg hy, ql_cg hy] at c
    rw [p2m_cg hy, h1] at p
    exact ⟨ρ', e, s, c, p⟩
/-- one move -/
def mvO (σ : mS) (k : Nat) (v : Mv) (σ' : mS) : Prop := tmO σ k v.1 v.2.1 (mY v) (mU v) (mPX σ k v) (mGZ σ v) (σ 15) σ'
theorem mPX_lt {σ : mS} {k : Nat} (hR : RI σ) (hk : k < N (σ 22 0)) {v : Mv} (hv : mOk v) {i : Nat} (hi : i < N (σ 1 0)) : mPX σ k v i < 6 := by
  obtain ⟨hW, hs, hat⟩ := hR
  have h0 : mP0 σ k i < 6 := by
    have := (hat k i hk hi).2
    unfold mP0
    omega
  obtain ⟨a, w, o⟩ := v
  have hv1 : a < 3 := hv.1
  have hv2 : w < 12 := hv.2.1
  cases o with
  | none =>
    show upp (mP0 σ k) a (N (σ 8 (12 * a + w))) i < 6
    have := (hW.2.2.2.2.1 (12 * a + w) (by omega)).2.1.2
    unfold upp
    split <;> omega
  | some t =>
    obtain ⟨b, v⟩ := t
    have hv3 : b < 3 := hv.2.2.1
    have hv4 : v < 12 := hv.2.2.2
    show upp (upp (mP0 σ k) a (N (σ 8 (12 * a + w)))) b (N (σ 8 (12 * b + v))) i < 6
    have h8 := (hW.2.2.2.2.1 (12 * a + w) (by omega)).2.1.2
    have h9 := (hW.2.2.2.2.1 (12 * b + v) (by omega)).2.1.2
    unfold upp
    split
    · omega
    · split <;> omega
/-- how the yard and the states before are kept by a move -/
def kept (σ σ' : mS) : Prop := yq σ' σ ∧ (∀ b, σ' 19 b = σ 19 b) ∧ σ' 20 0 = σ 20 0 ∧ N (σ 22 0) ≤ N (σ' 22 0) ∧ RI σ' ∧ ∀ j i, j < N (σ 22 0) → i < 3 → σ' 24 (3 * j + i) = σ 24 (3 * j + i)
theorem kept.rfl {σ : mS} (h : RI σ) : kept σ σ := ⟨fun _ _ _ _ => Eq.refl _, fun _ => Eq.refl _, Eq.refl _, Nat.le_refl _, h, fun _ _ _ _ => Eq.refl _⟩
theorem kept.trans {σ ρ π : mS} (h : kept σ ρ) (g : kept ρ π) : kept σ π := by
  obtain ⟨h1, h2, h3, h4, h5, h6⟩ := h
  obtain ⟨g1, g2, g3, g4, g5, g6⟩ := g
  exact ⟨fun a b x y => (g1 a b x y).trans (h1 a b x y), fun b => (g2 b).trans (h2 b), g3.trans h3, Nat.le_trans h4 g4, g5, fun j i x y => (g6 j i (Nat.lt_of_lt_of_le x h4) y).trans (h6 j i x y)⟩
theorem kept_same {σ σ' : mS} (hR : RI σ) (h1 : yq σ' σ) (h19 : ∀ b, σ' 19 b = σ 19 b) (h20 : σ' 20 0 = σ 20 0) (h22 : σ' 22 0 = σ 22 0) (h24 : ∀ b, σ' 24 b = σ 24 b) : kept σ σ' := by
  refine ⟨h1, h19, h20, by rw [h22]; exact Nat.le_refl _, ⟨hR.1.eq h1, by rw [h22]; exact hR.2.1, fun j i hj hi => ?_⟩, fun j i _ _ => h24 _⟩
  rw [h22] at hj
  rw [h1 1 0 (by decide) (by decide)] at hi
  rw [h24]
  exact hR.2.2 j i hj hi
theorem mvO_kept {σ σ' : mS} {k : Nat} (hR : RI σ) (hk : k < N (σ 22 0)) {v : Mv} (hv : mOk v) (h : mvO σ k v σ') : kept σ σ' := by
  have hN := hR.2.1.2
  unfold mvO tmO at h
  obtain ⟨c1, c2, c3, c4⟩ := h
  have fin : ∀ ρ : mS, sx jk σ' ρ → kept σ ρ → kept σ σ' := by
    intro ρ s ⟨g1, g2, g3, g4, g5, g6⟩
    have y : yq σ' ρ := s.yq (by decide)
    have e22 : σ' 22 0 = ρ 22 0 := s 22 0 (by decide)
    refine ⟨fun a b x y' => (y a b x y').trans (g1 a b x y'), fun b => (s 19 b (by decide)).trans (g2 b), (s 20 0 (by decide)).trans g3, by rw [e22]; exact g4, ⟨g5.1.eq y, by rw [e22]; exact g5.2.1, fun j i hj hi => ?_⟩, fun j i hj hi => (s 24 _ (by decide)).trans (g6 j i hj hi)⟩
    rw [e22] at hj
    rw [y 1 0 (by decide) (by decide)] at hi
    rw [s 24 _ (by decide)]
    exact g5.2.2 j i hj hi
  by_cases hE : (qB σ k (mPX σ k v) (mGZ σ v) (σ 15)).2 = 0
  · by_cases hS : seenP σ (mPX σ k v) (qB σ k (mPX σ k v) (mGZ σ v) (σ 15)).1
    · refine fin _ (c2 hE hS) (kept_same hR ?_ ?_ ?_ ?_ ?_)
      · intro a b x y
        rw [su_n (by omega), su_n (by omega)]
      · intro b
        rw [su_n (by decide), su_n (by decide)]
      · rw [su_n (by decide), su_n (by decide)]
      · rw [su_n (by decide), su_n (by decide)]
      · intro b
        rw [su_n (by decide), su_n (by decide)]
    · by_cases h2 : σ 22 0 = 200
      · refine fin _ (c3 hE hS h2) (kept_same hR ?_ ?_ ?_ ?_ ?_)
        · intro a b x y
          rw [su_n (by omega), su_n (by omega)]
        · intro b
          rw [su_n (by decide), su_n (by decide)]
        · rw [su_n (by decide), su_n (by decide)]
        · rw [su_n (by decide), su_n (by decide)]
        · intro b
          rw [su_n (by decide), su_n (by decide)]
      · refine fin _ (c4 hE hS h2) ?_
        have hx : N (σ 22 0) < 200 := by
          rcases Nat.lt_or_ge (N (σ 22 0)) 200 with h | h
          · exact h
          · exfalso
            apply h2
            have e : N (σ 22 0) = 200 := by omega
            have := hR.2.1.1
            rw [e] at this
            exact this
        have e22 : ∀ pl Zb Ze sn mv, tmS σ (N (σ 22 0)) k pl Zb Ze sn mv 22 0 = J (N (σ 22 0) + 1) := by
          intro pl Zb Ze sn mv
          show σ 22 0 + 1 = _
          have := hR.2.1.1
          have e : J (N (σ 22 0)) + 1 = J (N (σ 22 0) + 1) := J_add _ 1
          rw [← this] at e
          exact e
        have n22 : ∀ pl Zb Ze sn mv, N (tmS σ (N (σ 22 0)) k pl Zb Ze sn mv 22 0) = N (σ 22 0) + 1 := by
          intro pl Zb Ze sn mv
          rw [e22]
          exact J_nat (by omega)
        have yt : ∀ pl Zb Ze sn mv, yq (tmS σ (N (σ 22 0)) k pl Zb Ze sn mv) σ := by
          intro pl Zb Ze sn mv a b x y
          unfold tmS
          rw [if_neg (by omega), if_neg (by omega), if_neg (by omega), if_neg (by omega), if_neg (by omega), if_neg (by omega), if_neg (by omega), if_neg (by omega), if_neg (by omega), if_neg (by omega), if_neg (by omega), if_neg (by omega)]
        refine ⟨yt _ _ _ _ _, fun b => rfl, rfl, by rw [n22]; omega, ⟨hR.1.eq (yt _ _ _ _ _), ?_, fun j i hj hi => ?_⟩, fun j i hj hi => ?_⟩
        · rw [e22]
          exact sml_J (by omega) (by omega)
        · rw [n22] at hj
          rw [yt _ _ _ _ _ 1 0 (by decide) (by decide)] at hi
          have hm3 := hR.1.1.2
          show sml (if 3 * N (σ 22 0) ≤ 3 * j + i ∧ 3 * j + i < 3 * N (σ 22 0) + 3 then (if 3 * j + i - 3 * N (σ 22 0) < N (σ 1 0) then J (mPX σ k v (3 * j + i - 3 * N (σ 22 0))) else (-2 : Int32)) else σ 24 (3 * j + i)) 5
          by_cases hjx : j = N (σ 22 0)
          · have e : 3 * j + i - 3 * N (σ 22 0) = i := by omega
            rw [if_pos (by omega), e, if_pos hi]
            exact sml_J (by have := mPX_lt hR hk hv hi; omega) (by omega)
          · rw [if_neg (by omega)]
            exact hR.2.2 j i (by omega) hi
        · show (if 3 * N (σ 22 0) ≤ 3 * j + i ∧ 3 * j + i < 3 * N (σ 22 0) + 3 then _ else σ 24 (3 * j + i)) = _
          rw [if_neg (by omega)]
  · exact fin σ (c1 hE) (kept.rfl hR)
/-- moves one after the other, till SPENT -/
def mvF (k : Nat) : List Mv → mS → mS → Prop
  | [], σ, σ' => σ' = σ
  | v :: L, σ, σ' => (σ 37 0 = 0 → ∃ σ1, mvO σ k v σ1 ∧ mvF k L σ1 σ') ∧ (¬ (σ 37 0 = 0) → σ' = σ)
theorem mvF_spent {k : Nat} {L : List Mv} {σ : mS} (h : ¬ (σ 37 0 = 0)) : mvF k L σ σ := by
  cases L with
  | nil => exact rfl
  | cons v L => exact ⟨fun t => absurd t h, fun _ => rfl⟩
theorem mvF_app {k : Nat} {L K : List Mv} : ∀ {σ ρ π : mS}, mvF k L σ ρ → mvF k K ρ π → mvF k (L ++ K) σ π := by
  induction L with
  | nil =>
    intro σ ρ π h g
    rw [show ρ = σ from h] at g
    exact g
  | cons v L ih =>
    intro σ ρ π h g
    refine ⟨fun t => ?_, fun t => ?_⟩
    · obtain ⟨σ1, a, b⟩ := h.1 t
      exact ⟨σ1, a, ih b g⟩
    · have e : ρ = σ := h.2 t
      rw [e] at g
      cases K with
      | nil => exact g
      | cons u K => exact g.2 t
theorem mvF_kept {k : Nat} {L : List Mv} : ∀ {σ σ' : mS}, RI σ → k < N (σ 22 0) → (∀ v, v ∈ L → mOk v) → mvF k L σ σ' → kept σ σ' := by
  induction L with
  | nil =>
    intro σ σ' hR hk hv h
    rw [show σ' = σ from h]
    exact kept.rfl hR
  | cons v L ih =>
    intro σ σ' hR hk hv h
    by_cases t : σ 37 0 = 0
    · obtain ⟨σ1, a, b⟩ := h.1 t
      have k1 := mvO_kept hR hk (hv v List.mem_cons_self) a
      have := ih k1.2.2.2.2.1 (Nat.lt_of_lt_of_le hk k1.2.2.2.1) (fun u hu => hv u (List.mem_cons_of_mem _ hu)) b
      exact k1.trans this
    · rw [h.2 t]
      exact kept.rfl hR

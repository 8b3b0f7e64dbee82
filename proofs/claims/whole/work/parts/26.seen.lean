/-! THE REFERENCE: isSeen, add -/
theorem J_mod5 {i : Nat} (h : i < 25) : (J i - J i / J 5 * J 5 = J 4) ↔ i % 5 = 4 := by
  have e : ∀ k : Fin 25, (J k.1 - J k.1 / J 5 * J 5 = J 4) ↔ k.1 % 5 = 4 := by decide +kernel
  exact e ⟨i, h⟩
def sP (σ : mS) (k : Nat) : Prop := ∀ a, a < N (σ 1 0) → σ 24 (3 * k + a) = σ 38 a
def sZ (σ : mS) (Z : Nat → Int32) (k : Nat) : Prop := ∀ i, i < 20 → i % 5 ≠ 4 → Z i ≤ σ 25 (25 * k + i)
section Seen
variable {σ : mS} {τ : mL} {m : Nat} {R : Int32 × mS × mL} {q : zQ}
theorem isSeen_59 {k : Nat} (hk : k < 200) : ∀ d i, i + d = 20 → (∀ j, j < i → j % 5 ≠ 4 → q.1 j ≤ σ 25 (25 * k + j)) → (sZ σ q.1 k → Ev (fun n => Mo_isSeen_f n 59 (J k) 1 (J i) (ez σ q) τ) (1, ez σ q, τ)) ∧ (¬ sZ σ q.1 k → Ev (fun n => Mo_isSeen_f n 2 (J (k + 1)) 0 0 (ez σ q) τ) R → Ev (fun n => Mo_isSeen_f n 59 (J k) 1 (J i) (ez σ q) τ) R) := by
  have c1 : J k + 1 = J (k + 1) := J_add k 1
  intro d
  induction d with
  | zero =>
    intro i hi hj
    have hz : sZ σ q.1 k := fun j h1 h2 => hj j (by omega) h2
    refine ⟨fun _ => ?_, fun n _ => absurd hz n⟩
    refine Ev.succ (fun n => Mo_isSeen_e59 n _ _ _ _ _) ?_
    unfold Mo_isSeen_t59
    exact Ev.pos (by rw [J20, J_le (by omega) (by omega)]; omega) (Ev.neg (by decide) Ev.ret)
  | succ d ih =>
    intro i hi hj
    have a1 : xin (J (25 * k + i)) 5000 = true := xin_J (by omega) (by omega)
    have a2 : xin (J i) 25 = true := xin_J (by omega) (by omega)
    have b1 : Int32.toNatClampNeg (J (25 * k + i)) = 25 * k + i := J_nat (by omega)
    have b2 : Int32.toNatClampNeg (J i) = i := J_nat (by omega)
    have c2 : J i + 1 = J (i + 1) := J_add i 1
    have n20 : ¬ (J 20 ≤ J i) := by rw [J_le (by omega) (by omega)]; omega
    have n1 : ¬ ((1 : Int32) = 0) := by decide
    have step : ∀ {R : Int32 × mS × mL}, (i % 5 = 4 ∨ q.1 i ≤ σ 25 (25 * k + i)) → Ev (fun n => Mo_isSeen_f n 59 (J k) 1 (J (i + 1)) (ez σ q) τ) R → Ev (fun n => Mo_isSeen_f n 59 (J k) 1 (J i) (ez σ q) τ) R := by
      intro R hok e
      refine Ev.succ (fun n => Mo_isSeen_e59 n _ _ _ _ _) ?_
      unfold Mo_isSeen_t59
      simp only [J5, J25, J4, J20, J_mul, J_add, a1, a2, b1, b2, c2, if_true, ez_15]
      refine Ev.neg n20 (Ev.neg n1 ?_)
      by_cases h4 : i % 5 = 4
      · exact Ev.pos ((J_mod5 (by omega)).mpr h4) e
      · refine Ev.neg (fun t => h4 ((J_mod5 (by omega)).mp t)) ?_
        have hle : q.1 i ≤ σ 25 (25 * k + i) := hok.resolve_left h4
        refine Ev.neg (by rw [ez_ne σ q _ (by decide) (by decide)]; exact Int32.not_lt.mpr hle) e
    by_cases hok : i % 5 = 4 ∨ q.1 i ≤ σ 25 (25 * k + i)
    · have hj2 : ∀ j, j < i + 1 → j % 5 ≠ 4 → q.1 j ≤ σ 25 (25 * k + j) := by
        intro j h1 h2
        by_cases h : j = i
        · rw [h] at h2 ⊢
          exact hok.resolve_left h2
        · exact hj j (by omega) h2
      exact ⟨fun hz => step hok ((ih (i + 1) (by omega) hj2).1 hz), fun nz e => step hok ((ih (i + 1) (by omega) hj2).2 nz e)⟩
    · have h4 : ¬ (i % 5 = 4) := fun t => hok (Or.inl t)
      have hgt : ¬ (q.1 i ≤ σ 25 (25 * k + i)) := fun t => hok (Or.inr t)
      refine ⟨fun hz => absurd (hz i (by omega) h4) hgt, fun _ e => ?_⟩
      refine Ev.succ (fun n => Mo_isSeen_e59 n _ _ _ _ _) ?_
      unfold Mo_isSeen_t59
      simp only [J5, J25, J4, J20, J_mul, J_add, a1, a2, b1, b2, c2, if_true, ez_15]
      refine Ev.neg n20 (Ev.neg n1 ?_)
      refine Ev.neg (fun t => h4 ((J_mod5 (by omega)).mp t)) ?_
      refine Ev.pos (by rw [ez_ne σ q _ (by decide) (by decide)]; exact Int32.not_le.mp hgt) ?_
      refine Ev.succ (fun n => Mo_isSeen_e59 n _ _ _ _ _) ?_
      unfold Mo_isSeen_t59
      rw [c1]
      by_cases h20 : (20 : Int32) ≤ J (i + 1)
      · exact Ev.pos h20 (Ev.pos rfl e)
      · exact Ev.neg h20 (Ev.pos rfl (Ev.pos rfl e))
def fp1 (σ : mS) (k a : Nat) (b : Int32) : Int32 := if b = 0 then 0 else (if σ 24 (3 * k + a) = σ 38 a then 1 else 0)
theorem fp_is (σ : mS) (k : Nat) : (it (fp1 σ k) 0 (N (σ 1 0)) 1 = 1 ∧ sP σ k) ∨ (it (fp1 σ k) 0 (N (σ 1 0)) 1 = 0 ∧ ¬ sP σ k) := by
  have h := it_inv (fp1 σ k) (fun a b => (b = 1 ∧ ∀ j, j < a → σ 24 (3 * k + j) = σ 38 j) ∨ (b = 0 ∧ ∃ j, j < a ∧ ¬ (σ 24 (3 * k + j) = σ 38 j))) (N (σ 1 0)) (fun a b _ hq => by
    unfold fp1
    rcases hq with ⟨h1, h2⟩ | ⟨h1, j, h2, h3⟩
    · rw [if_neg (by rw [h1]; decide)]
      by_cases he : σ 24 (3 * k + a) = σ 38 a
      · rw [if_pos he]
        refine Or.inl ⟨rfl, fun j hj => ?_⟩
        by_cases hja : j = a
        · rw [hja]; exact he
        · exact h2 j (by omega)
      · rw [if_neg he]
        exact Or.inr ⟨rfl, a, by omega, he⟩
    · rw [if_pos h1]
      exact Or.inr ⟨rfl, j, by omega, h3⟩) (N (σ 1 0)) 0 1 (by omega) (Or.inl ⟨rfl, fun j hj => by omega⟩)
  rcases h with ⟨h1, h2⟩ | ⟨h1, j, h2, h3⟩
  · exact Or.inl ⟨h1, h2⟩
  · exact Or.inr ⟨h1, fun hp => h3 (hp j h2)⟩
theorem isSeen_14 (h1 : sml (σ 1 0) 3) {k : Nat} (hk : k < 200) (e : Ev (fun n => Mo_isSeen_f n 59 (J k) (it (fp1 σ k) 0 (N (σ 1 0)) 1) 0 (ez σ q) τ) R) : Ev (fun n => Mo_isSeen_f n 14 (J k) 1 (J 0) (ez σ q) τ) R := by
  have hB : N (σ 1 0) ≤ 3 := h1.2
  refine Ev.up (f := fun n a b => Mo_isSeen_f n 14 (J k) b (J a) (ez σ q) τ) (N (σ 1 0)) (fp1 σ k) (fun _ _ => True) (fun _ _ _ _ => trivial) (fun a b ha _ ee => ?_) (N (σ 1 0)) 0 1 (by omega) trivial ?_
  · refine Ev.succ (fun n => Mo_isSeen_e14 n _ _ _ _ _) ?_
    unfold Mo_isSeen_t14
    have a1 : xin (J (3 * k + a)) 600 = true := xin_J (by omega) (by omega)
    have a2 : xin (J a) 3 = true := xin_J (by omega) (by omega)
    have b1 : Int32.toNatClampNeg (J (3 * k + a)) = 3 * k + a := J_nat (by omega)
    have b2 : Int32.toNatClampNeg (J a) = a := J_nat (by omega)
    have c1 : J a + 1 = J (a + 1) := J_add a 1
    simp only [J3, J_mul, J_add, a1, a2, b1, b2, c1, if_true]
    refine Ev.neg (by rw [ez_ne σ q 0 (by decide) (by decide)]; exact sml_nle h1 (by omega) ha) ?_
    rw [ez_ne σ q _ (by decide) (by decide), ez_ne σ q _ (by decide) (by decide)]
    unfold fp1 at ee
    by_cases hb : b = 0
    · rw [if_pos hb] at ee
      exact Ev.pos hb ee
    · rw [if_neg hb] at ee
      refine Ev.neg hb ?_
      by_cases he : σ 24 (3 * k + a) = σ 38 a
      · rw [if_pos he] at ee
        exact Ev.pos he ee
      · rw [if_neg he] at ee
        exact Ev.neg he ee
  · refine Ev.succ (fun n => Mo_isSeen_e14 n _ _ _ _ _) ?_
    unfold Mo_isSeen_t14
    exact Ev.pos (by rw [ez_ne σ _ 0 (by decide) (by decide)]; exact sml_le h1) e
theorem isSeen_q (h1 : sml (σ 1 0) 3) (hs : sml (σ 22 0) 200) {x1 x2 x3 : Int32} : ∃ r, Ev (fun n => Mo_isSeen_f n 0 x1 x2 x3 (ez σ q) τ) (r, ez σ q, τ) ∧ (r = 0 ∨ r = 1) ∧ (r = 1 ↔ ∃ k, k < N (σ 22 0) ∧ sP σ k ∧ sZ σ q.1 k) := by
  have hB : N (σ 22 0) ≤ 200 := hs.2
  have main : ∀ d k, k + d = N (σ 22 0) → ∃ r, Ev (fun n => Mo_isSeen_f n 2 (J k) 0 0 (ez σ q) τ) (r, ez σ q, τ) ∧ (r = 0 ∨ r = 1) ∧ (r = 1 ↔ ∃ j, k ≤ j ∧ j < N (σ 22 0) ∧ sP σ j ∧ sZ σ q.1 j) := by
    intro d
    induction d with
    | zero =>
      intro k hk
      refine ⟨0, ?_, Or.inl rfl, ⟨fun h => absurd h (by decide), fun ⟨j, h1, h2, _⟩ => by omega⟩⟩
      refine Ev.succ (fun n => Mo_isSeen_e2 n _ _ _ _ _) ?_
      unfold Mo_isSeen_t2
      have e : k = N (σ 22 0) := by omega
      exact Ev.pos (by rw [ez_ne σ q 0 (by decide) (by decide), e]; exact sml_le hs) Ev.ret
    | succ d ih =>
      intro k hk
      have enter : ∀ {R : Int32 × mS × mL}, Ev (fun n => Mo_isSeen_f n 14 (J k) 1 (J 0) (ez σ q) τ) R → Ev (fun n => Mo_isSeen_f n 2 (J k) 0 0 (ez σ q) τ) R := by
        intro R e
        refine Ev.succ (fun n => Mo_isSeen_e2 n _ _ _ _ _) ?_
        unfold Mo_isSeen_t2
        exact Ev.neg (by rw [ez_ne σ q 0 (by decide) (by decide)]; exact sml_nle hs (by omega) (by omega)) e
      obtain ⟨r, er, hr, hi⟩ := ih (k + 1) (by omega)
      have h59 := isSeen_59 (σ := σ) (τ := τ) (q := q) (R := (r, ez σ q, τ)) (k := k) (by omega) 20 0 (by omega) (fun j hj => by omega)
      rcases fp_is σ k with ⟨f1, f2⟩ | ⟨f1, f2⟩
      · by_cases hz : sZ σ q.1 k
        · refine ⟨1, enter (isSeen_14 h1 (by omega) ?_), Or.inr rfl, ⟨fun _ => ⟨k, by omega, by omega, f2, hz⟩, fun _ => rfl⟩⟩
          rw [f1]
          exact h59.1 hz
        · refine ⟨r, enter (isSeen_14 h1 (by omega) ?_), hr, ?_⟩
          · rw [f1]
            exact h59.2 hz er
          · rw [hi]
            exact ⟨fun ⟨j, t1, t2, t3⟩ => ⟨j, by omega, t2, t3⟩, fun ⟨j, t1, t2, t3, t4⟩ => ⟨j, by
              by_cases hj : j = k
              · rw [hj] at t4; exact absurd t4 hz
              · omega, t2, t3, t4⟩⟩
      · refine ⟨r, enter (isSeen_14 h1 (by omega) ?_), hr, ?_⟩
        · rw [f1]
          refine Ev.succ (fun n => Mo_isSeen_e59 n _ _ _ _ _) ?_
          unfold Mo_isSeen_t59
          rw [show J k + 1 = J (k + 1) from J_add k 1]
          exact Ev.neg (by decide) (Ev.pos rfl (Ev.pos rfl er))
        · rw [hi]
          exact ⟨fun ⟨j, t1, t2, t3⟩ => ⟨j, by omega, t2, t3⟩, fun ⟨j, t1, t2, t3, t4⟩ => ⟨j, by
            by_cases hj : j = k
            · rw [hj] at t3; exact absurd t3 f2
            · omega, t2, t3, t4⟩⟩
  obtain ⟨r, er, hr, hi⟩ := main (N (σ 22 0)) 0 (by omega)
  refine ⟨r, ?_, hr, ?_⟩
  · refine Ev.succ (fun n => Mo_isSeen_e0 n _ _ _ _ _) ?_
    unfold Mo_isSeen_t0
    exact er
  · rw [hi]
    exact ⟨fun ⟨j, _, t⟩ => ⟨j, t⟩, fun ⟨j, t⟩ => ⟨j, by omega, t⟩⟩
/-! add -/
def sm1 (σ : mS) (a : Nat) (s : Int32) : Int32 := if s = 0 then (if a < N (σ 1 0) then (if σ 4 (6 * a + N (σ 38 a)) ≤ 0 then 0 else 1) else 0) else 1
def hl (σ : mS) : Int32 := it (sm1 σ) 0 3 0
theorem sm1_zb (σ : mS) (a : Nat) (s : Int32) : sm1 σ a s = 0 ∨ sm1 σ a s = 1 := by
  unfold sm1
  split
  · split
    · split
      · exact Or.inl rfl
      · exact Or.inr rfl
    · exact Or.inl rfl
  · exact Or.inr rfl
theorem hl_zb (σ : mS) : zb (hl σ) = true := by
  have h : hl σ = 0 ∨ hl σ = 1 := sm1_zb σ 2 _
  unfold zb
  rcases h with h | h <;> rw [h] <;> decide
def at24 (σ : mS) (k : Nat) : Nat → Int32 := fun b => if 3 * k ≤ b ∧ b < 3 * k + 3 then (if b - 3 * k < N (σ 1 0) then σ 38 (b - 3 * k) else (-2 : Int32)) else σ 24 b
def zn25 (σ : mS) (Z : Nat → Int32) (k : Nat) : Nat → Int32 := fun b => if 25 * k ≤ b ∧ b < 25 * k + 25 then Z (b - 25 * k) else σ 25 b
def ad3 (σ : mS) (k : Nat) : mS := su (st (su σ 22 0 (σ 22 0 + 1)) 24 (at24 σ k)) 33 k (hl σ)
def ad5 (σ : mS) (Z : Nat → Int32) (k : Nat) (par : Int32) : mS := su (su (su (st (ad3 σ k) 25 (zn25 σ Z k)) 27 k par) 28 k 0) 29 k (-2 : Int32)
def adA (σ : mS) (Z : Nat → Int32) (k : Nat) (par : Int32) : mS := su (su (ad5 σ Z k par) 30 k (ad5 σ Z k par 30 (N par) + 1)) 28 (N par) (su (ad5 σ Z k par) 30 k (ad5 σ Z k par 30 (N par) + 1) 28 (N par) + 1)
def adN (σ : mS) (Z : Nat → Int32) (k : Nat) (par : Int32) : mS := su (ad5 σ Z k par) 30 k 0
theorem add_114 (h1 : sml (σ 1 0) 3) (hn : ∀ a, a < N (σ 1 0) → sml (σ 38 a) 5) {k : Nat} (hk : k < 200) (h22 : σ 22 0 = J k) {par : Int32} {x2 x3 x4 : Int32} (e : Ev (fun n => Mo_add_f n 114 par (J k) (hl σ) (J 25) (ez (st (ad3 σ k) 25 (zn25 σ q.1 k)) q) τ) R) : Ev (fun n => Mo_add_f n 0 par x2 x3 x4 (ez σ q) τ) R := by
  have hB : N (σ 1 0) ≤ 3 := h1.2
  have a1 : xin (J k) 200 = true := xin_J (by omega) (by omega)
  have b1 : Int32.toNatClampNeg (J k) = k := J_nat (by omega)
  refine Ev.succ (fun n => Mo_add_e0 n _ _ _ _ _ _) ?_
  unfold Mo_add_t0
  simp only [bnd]
  rw [ez_su _ _ _ _ (by decide) (by decide), ez_ne σ q 0 (by decide) (by decide)]
  let σ1 : mS := su σ 22 0 (σ 22 0 + 1)
  have key := Ev.up (f := fun n a (S : (Nat → Int32) × Int32) => Mo_add_f n 20 par (J k) S.2 (J a) (ez (st σ1 24 S.1) q) τ) (R := R) 3 (fun a S => (fu S.1 (3 * k + a) (if a < N (σ 1 0) then σ 38 a else (-2 : Int32)), sm1 σ a S.2)) (fun _ _ => True) (fun _ _ _ _ => trivial) (fun a S ha _ ee => by
    refine Ev.succ (fun n => Mo_add_e20 n _ _ _ _ _ _) ?_
    unfold Mo_add_t20
    have a2 : xin (J (3 * k + a)) 600 = true := xin_J (by omega) (by omega)
    have a3 : xin (J a) 3 = true := xin_J (by omega) (by omega)
    have b2 : Int32.toNatClampNeg (J (3 * k + a)) = 3 * k + a := J_nat (by omega)
    have b3 : Int32.toNatClampNeg (J a) = a := J_nat (by omega)
    have c1 : J a + 1 = J (a + 1) := J_add a 1
    have r1 : ∀ (T : Nat → Int32) (b : Nat), ez (st σ1 24 T) q 1 b = σ 1 b := fun T b => by rw [ez_ne _ _ _ (by decide) (by decide), st_ne _ (by decide)]; exact su_n (by decide)
    have r38 : ∀ (T : Nat → Int32) (b : Nat), ez (st σ1 24 T) q 38 b = σ 38 b := fun T b => by rw [ez_ne _ _ _ (by decide) (by decide), st_ne _ (by decide)]; exact su_n (by decide)
    have r4 : ∀ (T : Nat → Int32) (b : Nat), ez (st σ1 24 T) q 4 b = σ 4 b := fun T b => by rw [ez_ne _ _ _ (by decide) (by decide), st_ne _ (by decide)]; exact su_n (by decide)
    have u24 : ∀ (T : Nat → Int32) (b : Nat) (v : Int32), su (ez (st σ1 24 T) q) 24 b v = ez (st σ1 24 (fu T b v)) q := fun T b v => by rw [ez_su _ _ _ _ (by decide) (by decide), su_st]
    simp only [J3, J_mul, J_add, a2, a3, b2, b3, c1, if_true, bnd, u24, r1, r38, r4]
    refine Ev.neg (by rw [J_le (by omega) (by omega)]; omega) ?_
    unfold sm1 at ee
    by_cases hm : a < N (σ 1 0)
    · have hle : ¬ (σ 1 0 ≤ J a) := sml_nle h1 (by omega) hm
      have hna := hn a hm
      have hna2 : N (σ 38 a) ≤ 5 := hna.2
      have a4 : xin (J (6 * a + N (σ 38 a))) 18 = true := xin_J (by omega) (by omega)
      have b4 : Int32.toNatClampNeg (J (6 * a + N (σ 38 a))) = 6 * a + N (σ 38 a) := J_nat (by omega)
      have e38 : (6 : Int32) * J a + σ 38 a = J (6 * a + N (σ 38 a)) := by
        have : (6 : Int32) * J a + J (N (σ 38 a)) = J (6 * a + N (σ 38 a)) := by rw [J6, J_mul, J_add]
        rw [← hna.1] at this
        exact this
      refine Ev.neg hle ?_
      simp only [e38, a4, b4, if_true]
      simp only [hm, if_true] at ee
      by_cases hs : S.2 = 0
      · rw [if_pos hs] at ee
        refine Ev.pos hs (Ev.neg hle ?_)
        by_cases h4 : σ 4 (6 * a + N (σ 38 a)) ≤ 0
        · rw [if_pos h4] at ee
          exact Ev.pos h4 ee
        · rw [if_neg h4] at ee
          exact Ev.neg h4 ee
      · rw [if_neg hs] at ee
        exact Ev.neg hs ee
    · have hle : σ 1 0 ≤ J a := by
        rw [h1.1, J_le (by omega) (by omega)]
        omega
      refine Ev.pos hle ?_
      simp only [hm, if_false] at ee
      by_cases hs : S.2 = 0
      · rw [if_pos hs] at ee
        exact Ev.pos hs (Ev.pos hle ee)
      · rw [if_neg hs] at ee
        exact Ev.neg hs ee) 3 0 (σ 24, 0) (by omega) trivial
  have e24 : st σ1 24 (σ 24) = σ1 := by
    have := st_id σ1 24
    rwa [show σ1 24 = σ 24 from by funext b; exact su_n (by decide)] at this
  have key2 := key
  dsimp only at key2
  rw [e24] at key2
  suffices H : Ev (fun n => Mo_add_f n 20 par (J k) 0 (J 0) (ez σ1 q) τ) R by
    rw [← h22] at H
    exact H
  refine key2 ?_
  have eT : (it (fun a (S : (Nat → Int32) × Int32) => (fu S.1 (3 * k + a) (if a < N (σ 1 0) then σ 38 a else (-2 : Int32)), sm1 σ a S.2)) 0 3 (σ 24, 0)) = (at24 σ k, hl σ) := by
    have e1 : at24 σ k = it (fun a T => fu T (3 * k + a) (if a < N (σ 1 0) then σ 38 a else (-2 : Int32))) 0 3 (σ 24) := by
      rw [it_fu (3 * k) (fun a => if a < N (σ 1 0) then σ 38 a else (-2 : Int32)) (σ 24) 3]
      rfl
    rw [e1]
    rfl
  rw [eT]
  refine Ev.succ (fun n => Mo_add_e20 n _ _ _ _ _ _) ?_
  unfold Mo_add_t20
  simp only [a1, b1, hl_zb, if_true, bnd]
  refine Ev.pos (by decide) ?_
  rw [ez_su _ _ _ _ (by decide) (by decide)]
  show Ev (fun n => Mo_add_f n 114 par (J k) (hl σ) (J 0) (ez (ad3 σ k) q) τ) R
  have k25 := Ev.up (f := fun n i T => Mo_add_f n 114 par (J k) (hl σ) (J i) (ez (st (ad3 σ k) 25 T) q) τ) (R := R) 25 (fun i T => fu T (25 * k + i) (q.1 i)) (fun _ _ => True) (fun _ _ _ _ => trivial) (fun i T hi _ ee => by
    refine Ev.succ (fun n => Mo_add_e114 n _ _ _ _ _ _) ?_
    unfold Mo_add_t114
    have a2 : xin (J (25 * k + i)) 5000 = true := xin_J (by omega) (by omega)
    have a3 : xin (J i) 25 = true := xin_J (by omega) (by omega)
    have b2 : Int32.toNatClampNeg (J (25 * k + i)) = 25 * k + i := J_nat (by omega)
    have b3 : Int32.toNatClampNeg (J i) = i := J_nat (by omega)
    have c1 : J i + 1 = J (i + 1) := J_add i 1
    have u25 : ∀ (T : Nat → Int32) (b : Nat) (v : Int32), su (ez (st (ad3 σ k) 25 T) q) 25 b v = ez (st (ad3 σ k) 25 (fu T b v)) q := fun T b v => by rw [ez_su _ _ _ _ (by decide) (by decide), su_st]
    refine Ev.neg (by rw [J25, J_le (by omega) (by omega)]; omega) ?_
    simp only [J25, J_mul, J_add, a2, a3, b2, b3, c1, if_true, bnd, u25, ez_15]
    exact ee) 25 0 (σ 25) (by omega) trivial
  have e25 : st (ad3 σ k) 25 (σ 25) = ad3 σ k := by
    have := st_id (ad3 σ k) 25
    rwa [show ad3 σ k 25 = σ 25 from by funext b; unfold ad3; rw [su_n (by decide), st_ne b (by decide), su_n (by decide)]] at this
  rw [e25] at k25
  refine k25 ?_
  rw [it_fu (25 * k) q.1 (σ 25) 25]
  exact e
theorem addN_q (h1 : sml (σ 1 0) 3) (hn : ∀ a, a < N (σ 1 0) → sml (σ 38 a) 5) {k : Nat} (hk : k < 200) (h22 : σ 22 0 = J k) {par : Int32} (hp : par < 0) (hp' : ¬ (0 ≤ par)) {x2 x3 x4 : Int32} : Ev (fun n => Mo_add_f n 0 par x2 x3 x4 (ez σ q) τ) (0, ez (adN σ q.1 k par) q, τ) := by
  refine add_114 h1 hn hk h22 ?_
  refine Ev.succ (fun n => Mo_add_e114 n _ _ _ _ _ _) ?_
  unfold Mo_add_t114
  have a1 : xin (J k) 200 = true := xin_J (by omega) (by omega)
  have b1 : Int32.toNatClampNeg (J k) = k := J_nat (by omega)
  refine Ev.pos (by decide) ?_
  simp only [a1, b1, if_true, bnd, hp, hp', if_false]
  rw [ez_su _ _ _ _ (by decide) (by decide), ez_su _ _ _ _ (by decide) (by decide), ez_su _ _ _ _ (by decide) (by decide), ez_su _ _ _ _ (by decide) (by decide)]
  exact Ev.ret
theorem addA_q (h1 : sml (σ 1 0) 3) (hn : ∀ a, a < N (σ 1 0) → sml (σ 38 a) 5) {k : Nat} (hk : k < 200) (h22 : σ 22 0 = J k) {p : Nat} (hp : p < 200) {x2 x3 x4 : Int32} : Ev (fun n => Mo_add_f n 0 (J p) x2 x3 x4 (ez σ q) τ) (0, ez (adA σ q.1 k (J p)) q, τ) := by
  refine add_114 h1 hn hk h22 ?_
  refine Ev.succ (fun n => Mo_add_e114 n _ _ _ _ _ _) ?_
  unfold Mo_add_t114
  have a1 : xin (J k) 200 = true := xin_J (by omega) (by omega)
  have a2 : xin (J p) 200 = true := xin_J (by omega) (by omega)
  have b1 : Int32.toNatClampNeg (J k) = k := J_nat (by omega)
  have n1 : ¬ (J p < 0) := J_nneg (by omega)
  have n2 : 0 ≤ J p := J_pos (by omega)
  refine Ev.pos (by decide) ?_
  simp only [a1, a2, b1, if_true, bnd, n1, n2, if_false]
  rw [ez_su _ _ _ _ (by decide) (by decide), ez_su _ _ _ _ (by decide) (by decide), ez_su _ _ _ _ (by decide) (by decide), ez_ne _ _ _ (by decide) (by decide), ez_su _ _ _ _ (by decide) (by decide), ez_ne _ _ _ (by decide) (by decide), ez_su _ _ _ _ (by decide) (by decide)]
  exact Ev.ret
end Seen

/-! the class's findGreatest -/
abbrev gT : Type := (Nat → Int32) × Int32
def kg (κ : kS) (T : gT) : kS := kf (kf κ 4 0 T.1) 1 0 (fu (κ 1 0) 8 T.2)
theorem kg_k {κ : kS} {T : gT} {x : Nat} (y : Nat) (h1 : x ≠ 1) (h4 : x ≠ 4) : kg κ T x y = κ x y := by
  unfold kg
  rw [kf_k h1, kf_k h4]
theorem kg_4 (κ : kS) (T : gT) : kg κ T 4 0 = T.1 := by
  unfold kg
  rw [kf_k (by decide), kf_e]
theorem kg_1 (κ : kS) (T : gT) : kg κ T 1 0 = fu (κ 1 0) 8 T.2 := by
  unfold kg
  rw [kf_e]
theorem kg_8 (κ : kS) (T : gT) : kg κ T 1 0 8 = T.2 := by rw [kg_1, fu_e]
theorem kg_c {κ : kS} {T : gT} {c : Nat} (h : c ≠ 8) : kg κ T 1 0 c = κ 1 0 c := by rw [kg_1, fu_n h]
theorem kg_v (κ : kS) (T : gT) : (∀ y, kg κ T 3 y = κ 3 y) ∧ (∀ y, kg κ T 5 y = κ 5 y) ∧ (∀ y, kg κ T 6 y = κ 6 y) ∧ (∀ y, kg κ T 7 y = κ 7 y) ∧ (∀ y, kg κ T 10 y = κ 10 y) ∧ (∀ y, kg κ T 13 y = κ 13 y) ∧ (∀ y, kg κ T 14 y = κ 14 y) ∧ (∀ y, kg κ T 15 y = κ 15 y) ∧ (∀ y, kg κ T 16 y = κ 16 y) ∧ (∀ y, kg κ T 17 y = κ 17 y) ∧ (∀ y, kg κ T 18 y = κ 18 y) ∧ kg κ T 1 0 1 = κ 1 0 1 := ⟨fun y => kg_k y (by decide) (by decide), fun y => kg_k y (by decide) (by decide), fun y => kg_k y (by decide) (by decide), fun y => kg_k y (by decide) (by decide), fun y => kg_k y (by decide) (by decide), fun y => kg_k y (by decide) (by decide), fun y => kg_k y (by decide) (by decide), fun y => kg_k y (by decide) (by decide), fun y => kg_k y (by decide) (by decide), fun y => kg_k y (by decide) (by decide), fun y => kg_k y (by decide) (by decide), kg_c (by decide)⟩
theorem kg_u4 (κ : kS) (T : gT) (c : Nat) (v : Int32) : ku (kg κ T) 4 0 c v = kg κ (fu T.1 c v, T.2) := by
  funext x y
  by_cases h : x = 4 ∧ y = 0
  · rw [h.1, h.2]
    unfold ku
    rw [kf_e, kg_4, kg_4]
  · unfold ku
    rw [kf_n h]
    unfold kg
    by_cases g : x = 1 ∧ y = 0
    · rw [g.1, g.2, kf_e, kf_e]
    · rw [kf_n g, kf_n g, kf_n h, kf_n h]
theorem kg_u8 (κ : kS) (T : gT) (v : Int32) : ku (kg κ T) 1 0 8 v = kg κ (T.1, v) := by
  funext x y
  by_cases g : x = 1 ∧ y = 0
  · rw [g.1, g.2]
    unfold ku
    rw [kf_e, kg_1, kg_1]
    funext z
    by_cases hz : z = 8
    · rw [hz, fu_e, fu_e]
    · rw [fu_n hz, fu_n hz, fu_n hz]
  · unfold ku
    rw [kf_n g]
    unfold kg
    rw [kf_n g, kf_n g]
theorem kg_id (κ : kS) : kg κ (κ 4 0, κ 1 0 8) = κ := by
  funext x y
  by_cases g : x = 1 ∧ y = 0
  · rw [g.1, g.2, kg_1]
    funext z
    by_cases hz : z = 8
    · rw [hz, fu_e]
    · rw [fu_n hz]
  · unfold kg
    rw [kf_n g]
    by_cases h : x = 4 ∧ y = 0
    · rw [h.1, h.2, kf_e]
    · rw [kf_n h]
theorem kxd_kg (κ : kS) (T : gT) : kxd κ (kg κ T) := (kxd_kf (by decide) (by decide) (by decide) (fun t => absurd t (by decide))).tr (kxd_kf (by decide) (by decide) (by decide) (fun _ => by rw [fu_n (by decide), kf_k (by decide)]))
theorem ky_kg (κ : kS) (T : gT) : ky κ (kg κ T) := (ky_kf (fun t => absurd t (by decide)) (by decide) (by decide)).tr (ky_kf (fun _ => by rw [fu_n (by decide), kf_k (by decide)]) (by decide) (by decide))
theorem YW.kg {D : kD} {κ : kS} {σ : mS} (h : YW D κ σ) (T : gT) : YW D (kg κ T) σ := ⟨h.1.cg (kxd_kg κ T) (by rw [(kg_v κ T).1]), h.2.1.ky (ky_kg κ T), h.2.2⟩
def hT (c : Nat) (m : Int32) (T : gT) : gT := (fu T.1 c (mx (fab (m >>> ((1 : Int32) &&& 31))) (T.1 c)), T.2)
theorem mx_is (c g : Int32) : (if g < c then c else g) = mx c g := by
  unfold mx
  by_cases h : c ≤ g
  · rw [if_pos h, if_neg (by rw [i32_le] at h; rw [i32_lt]; omega)]
  · rw [if_neg h, if_pos (by rw [i32_le] at h; rw [i32_lt]; omega)]
/-- one TEST -/
def cft (σ : mS) (x t : Nat) (T : gT) : gT := if N (σ 12 (3 * x + t)) = 0 ∨ N (σ 13 (3 * x + t)) = 0 then hT (N (σ 12 (3 * x + t)) + N (σ 13 (3 * x + t))) (σ 14 (3 * x + t)) T else (T.1, 0)
def cfd (σ : mS) (x : Nat) (T : gT) : gT := it (fun l T => hT (N (σ 5 (2 * x + l))) (σ 6 (2 * x + l)) T) 0 (N (σ 4 x)) T
def cfw (σ : mS) (x : Nat) (T : gT) : gT := it (cft σ x) 0 (N (σ 11 x)) T
def cfp (σ : mS) (a p : Nat) (T : gT) : gT := if p < N (σ 2 a) then cfd σ (6 * a + p) T else T
def cfv (σ : mS) (a w : Nat) (T : gT) : gT := if w < N (σ 3 a) then cfw σ (12 * a + w) T else T
section CFG
variable {D : kD} {κ : kS} {σ : mS}
theorem heed_y (h : YW D κ σ) {c : Nat} (h1 : 1 ≤ c) (hc : c < 4) (m : Int32) (T : gT) (n : Nat) : Ya_heed_f n (D.1 1 0) (J c) m (rn D (kg κ T)) = some (0, rn D (kg κ (hT c m T))) := by
  have k4 := h.1.2.1 4 (by decide) (by decide) (by decide)
  unfold Ya_heed_f
  rw [if_neg (by rw [J0, J_le (by omega) (by omega)]; omega), if_neg (by rw [J4, J_le (by omega) (by omega)]; omega)]
  simp only [obd, rd1 h.1.k1, kra4 k4 hc, krp4 h.1.1 k4 hc, kg_u4, kg_4, mx_is]
  rfl
theorem heedLimits_y (h : YW D κ σ) (hV : WV σ) {a p : Nat} (ha : a < N (σ 1 0)) (hp : p < N (σ 2 a)) (T : gT) {x2 : Int32} : Ev (fun n => Ya_heedLimits_f n 0 (D.1 1 0) (some (D.1 13 (6 * a + p))) x2 (rn D (kg κ T))) (0, rn D (kg κ (cfd σ (6 * a + p) T))) := by
  have ha3 : a < 3 := by have := h.2.2.1.2; omega
  have hp6 : p < 6 := by have := (h.2.2.2.1 a ha3).1.2; omega
  have s4 := h.2.2.2.2.1 (6 * a + p) (by omega)
  have k13 := h.k13 ha hp
  have y := (h.2.1.2 a ha).2.1 p hp
  have main : ∀ d l T, l + d = N (σ 4 (6 * a + p)) → Ev (fun n => Ya_heedLimits_f n 7 (D.1 1 0) (some (D.1 13 (6 * a + p))) (J l) (rn D (kg κ T))) (0, rn D (kg κ (it (fun l T => hT (N (σ 5 (2 * (6 * a + p) + l))) (σ 6 (2 * (6 * a + p) + l)) T) l d T))) := by
    intro d
    induction d with
    | zero =>
      intro l T hl
      refine Ev.succ (fun n => Ya_heedLimits_e7 n _ _ _ _) ?_
      unfold Ya_heedLimits_t7
      simp only [obd, rd13 k13.1, kg_v, y.1]
      exact Ev.pos (by rw [s4.1, J_le (by have := s4.2; omega) (by have := s4.2; omega)]; omega) Ev.ret
    | succ d ih =>
      intro l T hl
      have s2 := s4.2
      have yl := y.2 l (by omega)
      have s5 := h.2.2.2.2.2.1 (2 * (6 * a + p) + l) (by omega)
      have v5 := (hV.1 (6 * a + p) l (by omega) (by omega)).1
      have hh := heed_y h (c := N (σ 5 (2 * (6 * a + p) + l))) v5 (by have := s5.2; omega) (σ 6 (2 * (6 * a + p) + l)) T
      rw [← s5.1] at hh
      refine Ev.succ (fun n => Ya_heedLimits_e7 n _ _ _ _) ?_
      unfold Ya_heedLimits_t7
      simp only [obd, rd13 k13.1, rd1 h.1.k1, kg_v, y.1, kra14 k13.2.1 (show l < 2 by omega), kra15 k13.2.2 (show l < 2 by omega), yl, if_true, hh]
      refine Ev.neg (sml_nle s4 (by omega) (by omega)) (Ev.neg (by rw [J2, J_le (by omega) (by omega)]; omega) ?_)
      rw [show J l + 1 = J (l + 1) from J_add l 1]
      exact ih (l + 1) _ (by omega)
  refine Ev.succ (fun n => Ya_heedLimits_e0 n _ _ _ _) ?_
  unfold Ya_heedLimits_t0
  exact main _ 0 T (by omega)
theorem heedTests_y (h : YW D κ σ) (hV : WV σ) {m w : Nat} (hm : m < N (σ 1 0)) (hw : w < N (σ 3 m)) (T : gT) {x2 : Int32} : Ev (fun n => Ya_heedTests_f n 0 (D.1 1 0) (some (D.1 16 (12 * m + w))) x2 (rn D (kg κ T))) (0, rn D (kg κ (cfw σ (12 * m + w) T))) := by
  have hm3 : m < 3 := by have := h.2.2.1.2; omega
  have hw12 : w < 12 := by have := (h.2.2.2.1 m hm3).2.2; omega
  have s11 := (h.2.2.2.2.2.2.1 (12 * m + w) (by omega)).2.2
  have k16 := h.k16 hm hw
  have y := (h.2.1.2 m hm).2.2 w hw
  have main : ∀ d t T, t + d = N (σ 11 (12 * m + w)) → Ev (fun n => Ya_heedTests_f n 7 (D.1 1 0) (some (D.1 16 (12 * m + w))) (J t) (rn D (kg κ T))) (0, rn D (kg κ (it (cft σ (12 * m + w)) t d T))) := by
    intro d
    induction d with
    | zero =>
      intro t T ht
      refine Ev.succ (fun n => Ya_heedTests_e7 n _ _ _ _) ?_
      unfold Ya_heedTests_t7
      simp only [obd, rd16 k16.1, kg_v, y.1]
      exact Ev.pos (by rw [s11.1, J_le (by have := s11.2; omega) (by have := s11.2; omega)]; omega) Ev.ret
    | succ d ih =>
      intro t T ht
      have s3 := s11.2
      have yt := y.2 t (by omega)
      have s12 := h.2.2.2.2.2.2.2 (3 * (12 * m + w) + t) (by omega)
      have i4 : N (σ 12 (3 * (12 * m + w) + t)) < 4 := by have := s12.1.2; omega
      have j4 : N (σ 13 (3 * (12 * m + w) + t)) < 4 := by have := s12.2.2; omega
      have vne := (hV.2 (12 * m + w) t (by omega) (by omega)).1
      have st1 : it (cft σ (12 * m + w)) t (d + 1) T = it (cft σ (12 * m + w)) (t + 1) d (cft σ (12 * m + w) t T) := rfl
      rw [st1]
      refine Ev.succ (fun n => Ya_heedTests_e7 n _ _ _ _) ?_
      unfold Ya_heedTests_t7
      simp only [obd, rd16 k16.1, rd1 h.1.k1, kg_v, y.1, kra17 k16.2.1 (show t < 3 by omega), kra18 k16.2.2 (show t < 3 by omega), yt, if_true, J_mod4 i4 j4, J_div4 i4 j4, J_add]
      refine Ev.neg (sml_nle s11 (by omega) (by omega)) (Ev.neg (by rw [J3, J_le (by omega) (by omega)]; omega) ?_)
      rw [show J t + 1 = J (t + 1) from J_add t 1]
      by_cases g1 : N (σ 12 (3 * (12 * m + w) + t)) = 0
      · refine Ev.pos (by rw [J0, J_eq (by omega) (by omega)]; exact g1) ?_
        have hh := heed_y h (c := N (σ 12 (3 * (12 * m + w) + t)) + N (σ 13 (3 * (12 * m + w) + t))) (by omega) (by omega) (σ 14 (3 * (12 * m + w) + t)) T
        simp only [hh]
        have e : cft σ (12 * m + w) t T = hT (N (σ 12 (3 * (12 * m + w) + t)) + N (σ 13 (3 * (12 * m + w) + t))) (σ 14 (3 * (12 * m + w) + t)) T := if_pos (Or.inl g1)
        rw [e]
        exact ih (t + 1) _ (by omega)
      · refine Ev.neg (by rw [J0, J_eq (by omega) (by omega)]; exact g1) ?_
        by_cases g2 : N (σ 13 (3 * (12 * m + w) + t)) = 0
        · refine Ev.pos (by rw [J0, J_eq (by omega) (by omega)]; exact g2) ?_
          have hh := heed_y h (c := N (σ 12 (3 * (12 * m + w) + t)) + N (σ 13 (3 * (12 * m + w) + t))) (by omega) (by omega) (σ 14 (3 * (12 * m + w) + t)) T
          simp only [hh]
          have e : cft σ (12 * m + w) t T = hT (N (σ 12 (3 * (12 * m + w) + t)) + N (σ 13 (3 * (12 * m + w) + t))) (σ 14 (3 * (12 * m + w) + t)) T := if_pos (Or.inr g2)
          rw [e]
          exact ih (t + 1) _ (by omega)
        · refine Ev.neg (by rw [J0, J_eq (by omega) (by omega)]; exact g2) ?_
          have e : cft σ (12 * m + w) t T = (T.1, 0) := if_neg (by omega)
          rw [e]
          simp only [rw1_8 h.1.1 h.1.k1, kg_u8]
          exact ih (t + 1) _ (by omega)
  refine Ev.succ (fun n => Ya_heedTests_e0 n _ _ _ _) ?_
  unfold Ya_heedTests_t0
  exact main _ 0 T (by omega)
def cfA (σ : mS) (a : Nat) (T : gT) : gT := it (cfv σ a) 0 12 (it (cfp σ a) 0 6 T)
def cfg (σ : mS) : gT := it (cfA σ) 0 (N (σ 1 0)) (fun b => if b < 4 then 0 else 0, 1)
theorem findGreatest_y (h : YW D κ σ) (hV : WV σ) {x1 x2 : Int32} : Ev (fun n => Ya_findGreatest_f n 0 (D.1 1 0) x1 x2 (rn D κ)) (0, rn D (kg κ (it (cfA σ) 0 (N (σ 1 0)) (fun b => if b < 4 then 0 else κ 4 0 b, 1)))) := by
  have hb := h.2.2.1
  have k1 := h.1.k1
  have k4 := h.1.2.1 4 (by decide) (by decide) (by decide)
  have w49 : ∀ a, a < N (σ 1 0) → ∀ R, ∀ d w T, w + d = 12 → Ev (fun n => Ya_findGreatest_f n 15 (D.1 1 0) (J (a + 1)) 0 (rn D (kg κ (it (cfv σ a) w d T)))) R → Ev (fun n => Ya_findGreatest_f n 49 (D.1 1 0) (J a) (J w) (rn D (kg κ T))) R := by
    intro a ha R d
    have ha3 : a < 3 := by have := hb.2; omega
    have s3 := (h.2.2.2.1 a ha3).2
    induction d with
    | zero =>
      intro w T hw e
      refine Ev.succ (fun n => Ya_findGreatest_e49 n _ _ _ _) ?_
      unfold Ya_findGreatest_t49
      refine Ev.pos (by rw [J12, J_le (by omega) (by omega)]; omega) ?_
      rw [show J a + 1 = J (a + 1) from J_add a 1]
      exact e
    | succ d ih =>
      intro w T hw e
      refine Ev.succ (fun n => Ya_findGreatest_e49 n _ _ _ _) ?_
      unfold Ya_findGreatest_t49
      refine Ev.neg (by rw [J12, J_le (by omega) (by omega)]; omega) ?_
      rw [show J w + 1 = J (w + 1) from J_add w 1]
      have st1 : it (cfv σ a) w (d + 1) T = it (cfv σ a) (w + 1) d (cfv σ a w T) := rfl
      rw [st1] at e
      by_cases g : w < N (σ 3 a)
      · have ec : cfv σ a w T = cfw σ (12 * a + w) T := if_pos g
        rw [ec] at e
        simp only [obd, bnd, rd1 k1, if_true, (h.kg T).wa ha g]
        refine Ev.ob (heedTests_y h hV ha g T) ?_
        exact ih (w + 1) _ (by omega) e
      · have ec : cfv σ a w T = T := if_neg g
        rw [ec] at e
        have yy : kg κ T 10 a 3 = σ 3 a := by simp only [kg_v]; exact (h.2.1.2 a ha).1.2
        have wo : ∀ n, Ya_wayAt_f n (D.1 1 0) (J a) (J w) (rn D (kg κ T)) = some (none, rn D (kg κ T)) := fun n => wayAt_op (h.kg T).1 (h.kg T).mc (by rw [(h.kg T).2.1.1]; exact ha) (by rw [yy]; exact s3) (fun p hp => by rw [yy] at hp; intro t; rw [J_eq (by omega) (by have := s3.2; omega)] at t; omega) n
        simp only [obd, bnd, rd1 k1, if_true, wo]
        have e0 : Ev (fun n => Ya_heedTests_f n 0 (D.1 1 0) none 0 (rn D (kg κ T))) (0, rn D (kg κ T)) := by
          refine Ev.succ (fun n => Ya_heedTests_e0 n _ _ _ _) ?_
          unfold Ya_heedTests_t0
          exact Ev.ret
        refine Ev.ob e0 ?_
        exact ih (w + 1) _ (by omega) e
  have p25 : ∀ a, a < N (σ 1 0) → ∀ R, ∀ d p T, p + d = 6 → Ev (fun n => Ya_findGreatest_f n 49 (D.1 1 0) (J a) (J 0) (rn D (kg κ (it (cfp σ a) p d T)))) R → Ev (fun n => Ya_findGreatest_f n 25 (D.1 1 0) (J a) (J p) (rn D (kg κ T))) R := by
    intro a ha R d
    have ha3 : a < 3 := by have := hb.2; omega
    have s2 := (h.2.2.2.1 a ha3).1
    induction d with
    | zero =>
      intro p T hp e
      refine Ev.succ (fun n => Ya_findGreatest_e25 n _ _ _ _) ?_
      unfold Ya_findGreatest_t25
      refine Ev.pos (by rw [J6, J_le (by omega) (by omega)]; omega) ?_
      exact e
    | succ d ih =>
      intro p T hp e
      refine Ev.succ (fun n => Ya_findGreatest_e25 n _ _ _ _) ?_
      unfold Ya_findGreatest_t25
      refine Ev.neg (by rw [J6, J_le (by omega) (by omega)]; omega) ?_
      rw [show J p + 1 = J (p + 1) from J_add p 1]
      have st1 : it (cfp σ a) p (d + 1) T = it (cfp σ a) (p + 1) d (cfp σ a p T) := rfl
      rw [st1] at e
      by_cases g : p < N (σ 2 a)
      · have ec : cfp σ a p T = cfd σ (6 * a + p) T := if_pos g
        rw [ec] at e
        simp only [obd, bnd, rd1 k1, if_true, (h.kg T).pl ha g]
        refine Ev.ob (heedLimits_y h hV ha g T) ?_
        exact ih (p + 1) _ (by omega) e
      · have ec : cfp σ a p T = T := if_neg g
        rw [ec] at e
        have yy : kg κ T 10 a 2 = σ 2 a := by simp only [kg_v]; exact (h.2.1.2 a ha).1.1
        have wo : ∀ n, Ya_placeAt_f n (D.1 1 0) (J a) (J p) (rn D (kg κ T)) = some (none, rn D (kg κ T)) := fun n => placeAt_op (h.kg T).1 (h.kg T).mc (by rw [(h.kg T).2.1.1]; exact ha) (by rw [yy]; exact s2) (fun p' hp' => by rw [yy] at hp'; intro t; rw [J_eq (by omega) (by have := s2.2; omega)] at t; omega) n
        simp only [obd, bnd, rd1 k1, if_true, wo]
        have e0 : Ev (fun n => Ya_heedLimits_f n 0 (D.1 1 0) none 0 (rn D (kg κ T))) (0, rn D (kg κ T)) := by
          refine Ev.succ (fun n => Ya_heedLimits_e0 n _ _ _ _) ?_
          unfold Ya_heedLimits_t0
          exact Ev.ret
        refine Ev.ob e0 ?_
        exact ih (p + 1) _ (by omega) e
  have m15 : ∀ d a T, a + d = N (σ 1 0) → Ev (fun n => Ya_findGreatest_f n 15 (D.1 1 0) (J a) 0 (rn D (kg κ T))) (0, rn D (kg κ (it (cfA σ) a d T))) := by
    intro d
    induction d with
    | zero =>
      intro a T ha
      refine Ev.succ (fun n => Ya_findGreatest_e15 n _ _ _ _) ?_
      unfold Ya_findGreatest_t15
      simp only [obd, rd1 k1, kg_v, h.2.1.1]
      exact Ev.pos (by rw [hb.1, J_le (by have := hb.2; omega) (by have := hb.2; omega)]; omega) Ev.ret
    | succ d ih =>
      intro a T ha
      refine Ev.succ (fun n => Ya_findGreatest_e15 n _ _ _ _) ?_
      unfold Ya_findGreatest_t15
      simp only [obd, rd1 k1, kg_v, h.2.1.1]
      refine Ev.neg (sml_nle hb (by omega) (by omega)) ?_
      refine p25 a (by omega) _ 6 0 T (by omega) ?_
      refine w49 a (by omega) _ 12 0 _ (by omega) ?_
      exact ih (a + 1) _ (by omega)
  refine Ev.succ (fun n => Ya_findGreatest_e0 n _ _ _ _) ?_
  unfold Ya_findGreatest_t0
  simp only [obd, rd1 k1]
  have f0 := fill_x (h := rn D κ) (b := D.1 4 0) (n := 4) (f := κ 4 0) (by decide) (x := 0) (x2 := 0) (x3 := 0)
  rw [xup_id (rn_at k4), rn_kf (f := fun i => if i < 4 then 0 else κ 4 0 i) h.1.1 k4 (by simp only [kcl, kf_e]) (by decide) (by decide) (by decide) (fun t => absurd t (by decide))] at f0
  refine Ev.ob f0 ?_
  dsimp only
  simp only [rw1_8 h.1.1 h.1.k1]
  have e : ku (kf κ 4 0 (fun i => if i < 4 then 0 else κ 4 0 i)) 1 0 8 1 = kg κ (fun b => if b < 4 then 0 else κ 4 0 b, 1) := by
    unfold ku kg
    rw [kf_k (show (1 : Nat) ≠ 4 by decide)]
  rw [e]
  exact m15 _ 0 _ (by omega)
end CFG

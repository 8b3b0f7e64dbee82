/-! the class's yard against the reference's state: confine, stay, obey, follow, LET GO, isLimited -/
def YR (κ : kS) (σ : mS) : Prop := κ 1 0 1 = σ 1 0 ∧ ∀ m, m < N (σ 1 0) → (κ 10 m 2 = σ 2 m ∧ κ 10 m 3 = σ 3 m) ∧ (∀ p, p < N (σ 2 m) → κ 13 (6 * m + p) 2 = σ 4 (6 * m + p) ∧ ∀ l, l < N (σ 4 (6 * m + p)) → κ 14 (6 * m + p) l = σ 5 (2 * (6 * m + p) + l) ∧ κ 15 (6 * m + p) l = σ 6 (2 * (6 * m + p) + l)) ∧ ∀ w, w < N (σ 3 m) → (κ 16 (12 * m + w) 0 = σ 7 (12 * m + w) ∧ κ 16 (12 * m + w) 1 = σ 8 (12 * m + w) ∧ κ 16 (12 * m + w) 2 = σ 9 (12 * m + w) ∧ κ 16 (12 * m + w) 3 = σ 10 (12 * m + w) ∧ κ 16 (12 * m + w) 6 = σ 11 (12 * m + w)) ∧ ∀ t, t < N (σ 11 (12 * m + w)) → κ 17 (12 * m + w) t = J (4 * N (σ 12 (3 * (12 * m + w) + t)) + N (σ 13 (3 * (12 * m + w) + t))) ∧ κ 18 (12 * m + w) t = σ 14 (3 * (12 * m + w) + t)
/-- the yard's kinds are the same -/
def ky (κ κ' : kS) : Prop := κ' 1 0 1 = κ 1 0 1 ∧ κ' 10 = κ 10 ∧ κ' 13 = κ 13 ∧ κ' 14 = κ 14 ∧ κ' 15 = κ 15 ∧ κ' 16 = κ 16 ∧ κ' 17 = κ 17 ∧ κ' 18 = κ 18
theorem YR.ky {κ κ' : kS} {σ : mS} (h : YR κ σ) (y : ky κ κ') : YR κ' σ := by
  obtain ⟨y1, y10, y13, y14, y15, y16, y17, y18⟩ := y
  unfold YR at h ⊢
  simp only [y1, y10, y13, y14, y15, y16, y17, y18]
  exact h
theorem YR.yq {κ : kS} {σ ρ : mS} (h : YR κ σ) (y : yq ρ σ) : YR κ ρ := by
  unfold YR at h ⊢
  have e : ∀ a b, 1 ≤ a → a ≤ 14 → ρ a b = σ a b := y
  simp only [fun b => e 1 b (by decide) (by decide), fun b => e 2 b (by decide) (by decide), fun b => e 3 b (by decide) (by decide), fun b => e 4 b (by decide) (by decide), fun b => e 5 b (by decide) (by decide), fun b => e 6 b (by decide) (by decide), fun b => e 7 b (by decide) (by decide), fun b => e 8 b (by decide) (by decide), fun b => e 9 b (by decide) (by decide), fun b => e 10 b (by decide) (by decide), fun b => e 11 b (by decide) (by decide), fun b => e 12 b (by decide) (by decide), fun b => e 13 b (by decide) (by decide), fun b => e 14 b (by decide) (by decide)]
  exact h
theorem ky_kz (κ : kS) (ix : Nat) (q : zQ) : ky κ (kz κ ix q) := by
  refine ⟨?_, ?_, ?_, ?_, ?_, ?_, ?_, ?_⟩
  · rw [kz_k (by decide) (by decide)]
  all_goals (funext y; exact kz_k (by decide) (by decide))
theorem ky.rf (κ : kS) : ky κ κ := ⟨rfl, rfl, rfl, rfl, rfl, rfl, rfl, rfl⟩
theorem ky.tr {κ κ' κ'' : kS} (h : ky κ κ') (g : ky κ' κ'') : ky κ κ'' := ⟨g.1.trans h.1, g.2.1.trans h.2.1, g.2.2.1.trans h.2.2.1, g.2.2.2.1.trans h.2.2.2.1, g.2.2.2.2.1.trans h.2.2.2.2.1, g.2.2.2.2.2.1.trans h.2.2.2.2.2.1, g.2.2.2.2.2.2.1.trans h.2.2.2.2.2.2.1, g.2.2.2.2.2.2.2.trans h.2.2.2.2.2.2.2⟩
theorem ky_kf {κ : kS} {a b : Nat} {f : Nat → Int32} (h1 : a = 1 → f 1 = κ 1 b 1) (h10 : a ≠ 10) (h13 : a < 13 ∨ 18 < a) : ky κ (kf κ a b f) := by
  refine ⟨?_, ?_, ?_, ?_, ?_, ?_, ?_, ?_⟩
  · by_cases h : a = 1
    · by_cases hb : b = 0
      · rw [h, hb, kf_e, h1 h, hb]
      · rw [kf_n (fun t => hb t.2.symm)]
    · rw [kf_k (Ne.symm h)]
  all_goals (funext y; exact kf_k (by omega))
theorem J_div4 {i j : Nat} (hi : i < 4) (hj : j < 4) : J (4 * i + j) / (4 : Int32) = J i := by
  have e : ∀ i j : Fin 4, J (4 * i.1 + j.1) / (4 : Int32) = J i.1 := by decide +kernel
  exact e ⟨i, hi⟩ ⟨j, hj⟩
theorem J_mod4 {i j : Nat} (hi : i < 4) (hj : j < 4) : J (4 * i + j) - J i * (4 : Int32) = J j := by
  have e : ∀ i j : Fin 4, J (4 * i.1 + j.1) - J i.1 * (4 : Int32) = J j.1 := by decide +kernel
  exact e ⟨i, hi⟩ ⟨j, hj⟩
section CY
variable {D : kD} {κ : kS} {σ : mS} {ix : Nat}
/-- what the yard's methods stand on -/
def YW (D : kD) (κ : kS) (σ : mS) : Prop := LV D κ ∧ YR κ σ ∧ WY σ
theorem YW.mc (h : YW D κ σ) : sml (κ 1 0 1) 3 := by rw [h.2.1.1]; exact h.2.2.1
theorem YW.kz (h : YW D κ σ) (ix : Nat) (q : zQ) : YW D (kz κ ix q) σ := ⟨h.1.cg (kxd_kz κ ix q) (by rw [kz_k (by decide) (by decide)]), h.2.1.ky (ky_kz κ ix q), h.2.2⟩
theorem YW.pl (h : YW D κ σ) {m p : Nat} (hm : m < N (σ 1 0)) (hp : p < N (σ 2 m)) (n : Nat) : Ya_placeAt_f n (D.1 1 0) (J m) (J p) (rn D κ) = some (some (D.1 13 (6 * m + p)), rn D κ) := by
  have y := (h.2.1.2 m hm).1.1
  have hm3 : m < 3 := by have := h.2.2.1.2; omega
  refine placeAt_in h.1 h.mc (by rw [h.2.1.1]; exact hm) ?_ (by rw [y]; exact hp) n
  rw [y]
  exact (h.2.2.2.1 m hm3).1
theorem YW.wa (h : YW D κ σ) {m w : Nat} (hm : m < N (σ 1 0)) (hw : w < N (σ 3 m)) (n : Nat) : Ya_wayAt_f n (D.1 1 0) (J m) (J w) (rn D κ) = some (some (D.1 16 (12 * m + w)), rn D κ) := by
  have y := (h.2.1.2 m hm).1.2
  have hm3 : m < 3 := by have := h.2.2.1.2; omega
  refine wayAt_in h.1 h.mc (by rw [h.2.1.1]; exact hm) ?_ (by rw [y]; exact hw) n
  rw [y]
  exact (h.2.2.2.1 m hm3).2
theorem YW.k13 (h : YW D κ σ) {m p : Nat} (hm : m < N (σ 1 0)) (hp : p < N (σ 2 m)) : kI D 13 (6 * m + p) ∧ kI D 14 (6 * m + p) ∧ kI D 15 (6 * m + p) := (h.1.2.2.2.1 m (by rw [h.2.1.1]; exact hm)).2.2.2.1 p (by rw [(h.2.1.2 m hm).1.1]; exact hp)
theorem YW.k16 (h : YW D κ σ) {m w : Nat} (hm : m < N (σ 1 0)) (hw : w < N (σ 3 m)) : kI D 16 (12 * m + w) ∧ kI D 17 (12 * m + w) ∧ kI D 18 (12 * m + w) := (h.1.2.2.2.1 m (by rw [h.2.1.1]; exact hm)).2.2.2.2 w (by rw [(h.2.1.2 m hm).1.2]; exact hw)
theorem confine_25 (h : YW D κ σ) (h6 : kI D 6 ix) (h7 : kI D 7 ix) {a p : Nat} (ha : a < N (σ 1 0)) (hp : p < N (σ 2 a)) {R : Int32 × xH} : ∀ d l q, l + d = N (σ 4 (6 * a + p)) → Ev (fun n => Ya_confine_f n 2 (D.1 1 0) (some (D.1 6 ix)) (J (a + 1)) none 0 (rn D (kz κ ix (crunQ (zn ix) (itL (fun l => [(Sum.inl (N (σ 5 (2 * (6 * a + p) + l)), 0, σ 6 (2 * (6 * a + p) + l)) : Op)]) l d) q)))) R → Ev (fun n => Ya_confine_f n 25 (D.1 1 0) (some (D.1 6 ix)) (J a) (some (D.1 13 (6 * a + p))) (J l) (rn D (kz κ ix q))) R := by
  have ha3 : a < 3 := by have := h.2.2.1.2; omega
  have hp6 : p < 6 := by have := (h.2.2.2.1 a ha3).1.2; omega
  have s4 := h.2.2.2.2.1 (6 * a + p) (by omega)
  have k13 := h.k13 ha hp
  have y := (h.2.1.2 a ha).2.1 p hp
  have e1 : J a + 1 = J (a + 1) := J_add a 1
  intro d
  induction d with
  | zero =>
    intro l q hl e
    refine Ev.succ (fun n => Ya_confine_e25 n _ _ _ _ _ _) ?_
    unfold Ya_confine_t25
    simp only [oel, obd, rd13 k13.1, kz_v, y.1]
    refine Ev.pos (by rw [s4.1, J_le (by have := s4.2; omega) (by have := s4.2; omega)]; omega) ?_
    rw [e1]
    exact e
  | succ d ih =>
    intro l q hl e
    have s2 := s4.2
    have yl := y.2 l (by omega)
    have s5 := h.2.2.2.2.2.1 (2 * (6 * a + p) + l) (by omega)
    refine Ev.succ (fun n => Ya_confine_e25 n _ _ _ _ _ _) ?_
    unfold Ya_confine_t25
    simp only [oel, obd, rd13 k13.1, kz_v, y.1, kra14 k13.2.1 (show l < 2 by omega), kra15 k13.2.2 (show l < 2 by omega), yl, rd6 h6, if_true]
    refine Ev.neg (sml_nle s4 (by omega) (by omega)) (Ev.neg (by rw [J2, J_le (by omega) (by omega)]; omega) ?_)
    have sq := zo_squeeze (κ := kz κ ix q) h.1.1 h6 h7 (i := N (σ 5 (2 * (6 * a + p) + l))) (j := 0) (by have := s5.2; have := (zn_le ix).2; omega) (by have := (zn_le ix).2; omega) (w := σ 6 (2 * (6 * a + p) + l)) (x4 := 0) (x5 := 0) (x6 := 0)
    rw [kz_kz, kz_q, ← s5.1] at sq
    refine Ev.ob sq ?_
    dsimp only
    rw [show J l + 1 = J (l + 1) from J_add l 1]
    exact ih (l + 1) _ (by omega) e
theorem confine_y (h : YW D κ σ) {p : Nat → Nat} (hp : ∀ a, a < N (σ 1 0) → κ 5 0 a = J (p a) ∧ p a < N (σ 2 a)) (h6 : kI D 6 ix) (h7 : kI D 7 ix) {x2 x4 : Int32} {y3 : Option Nat} : Ev (fun n => Ya_confine_f n 0 (D.1 1 0) (some (D.1 6 ix)) x2 y3 x4 (rn D κ)) (0, rn D (kz κ ix (crunQ (zn ix) (limL σ p) (kq κ ix)))) := by
  have hb := h.2.2.1
  have k1 := h.1.k1
  have k5 := h.1.2.1 5 (by decide) (by decide) (by decide)
  have main : ∀ d a q, a + d = N (σ 1 0) → Ev (fun n => Ya_confine_f n 2 (D.1 1 0) (some (D.1 6 ix)) (J a) none 0 (rn D (kz κ ix q))) (0, rn D (kz κ ix (crunQ (zn ix) (itL (fun a => itL (fun l => [(Sum.inl (N (σ 5 (2 * (6 * a + p a) + l)), 0, σ 6 (2 * (6 * a + p a) + l)) : Op)]) 0 (N (σ 4 (6 * a + p a)))) a d) q))) := by
    intro d
    induction d with
    | zero =>
      intro a q ha
      refine Ev.succ (fun n => Ya_confine_e2 n _ _ _ _ _ _) ?_
      unfold Ya_confine_t2
      simp only [obd, rd1 k1, kz_v, h.2.1.1]
      refine Ev.pos ?_ Ev.ret
      rw [hb.1, J_le (by have := hb.2; omega) (by have := hb.2; omega)]
      omega
    | succ d ih =>
      intro a q ha
      have hpa := hp a (by omega)
      have hz := h.kz ix q
      refine Ev.succ (fun n => Ya_confine_e2 n _ _ _ _ _ _) ?_
      unfold Ya_confine_t2
      simp only [obd, bnd, rd1 k1, kz_v, h.2.1.1, kra5 k5 (show a < 3 by have := hb.2; omega), hpa.1, if_true, hz.pl (show a < N (σ 1 0) by omega) hpa.2]
      refine Ev.neg (sml_nle hb (by omega) (by omega)) ?_
      refine confine_25 h h6 h7 (by omega) hpa.2 (N (σ 4 (6 * a + p a))) 0 q (by omega) ?_
      have := ih (a + 1) (crunQ (zn ix) (itL (fun l => [(Sum.inl (N (σ 5 (2 * (6 * a + p a) + l)), 0, σ 6 (2 * (6 * a + p a) + l)) : Op)]) 0 (N (σ 4 (6 * a + p a)))) q) (by omega)
      rw [← crunQ_app] at this
      exact this
  refine Ev.succ (fun n => Ya_confine_e0 n _ _ _ _ _ _) ?_
  unfold Ya_confine_t0
  have m := main (N (σ 1 0)) 0 (kq κ ix) (by omega)
  rw [kz_id] at m
  exact m
theorem stay_y (h : YW D κ σ) {p : Nat → Nat} (hp : ∀ a, a < N (σ 1 0) → κ 5 0 a = J (p a) ∧ p a < N (σ 2 a)) (h6 : kI D 6 ix) (h7 : kI D 7 ix) : Ev (fun n => Ya_stay_f n (D.1 1 0) (some (D.1 6 ix)) (rn D κ)) (0, rn D (kz κ ix (crunQ (zn ix) ((Sum.inr none : Op) :: limL σ p) (kq κ ix)))) := by
  unfold Ya_stay_f
  simp only [obd, rd6 h6, if_true]
  refine Ev.ob (zo_elapse h.1.1 h6 h7) ?_
  dsimp only
  simp only [rd1 h.1.k1, if_true]
  have hz := h.kz ix (cel (zn ix) (κ 7 ix), κ 6 ix 2)
  have c := confine_y hz (p := p) (fun a ha => by simp only [kz_v]; exact hp a ha) h6 h7 (x2 := 0) (x4 := 0) (y3 := none)
  rw [kz_kz, kz_q] at c
  refine Ev.ob c ?_
  exact Ev.ret
theorem obey_y (h : YW D κ σ) (h6 : kI D 6 ix) (h7 : kI D 7 ix) {m w : Nat} (hm : m < N (σ 1 0)) (hw : w < N (σ 3 m)) {x2 : Int32} : Ev (fun n => Ya_obey_f n 0 (some (D.1 6 ix)) (some (D.1 16 (12 * m + w))) x2 (rn D κ)) (0, rn D (kz κ ix (crunQ (zn ix) (tstL σ (12 * m + w)) (kq κ ix)))) := by
  have hm3 : m < 3 := by have := h.2.2.1.2; omega
  have hw12 : w < 12 := by have := (h.2.2.2.1 m hm3).2.2; omega
  have s11 := (h.2.2.2.2.2.2.1 (12 * m + w) (by omega)).2.2
  have k16 := h.k16 hm hw
  have y := (h.2.1.2 m hm).2.2 w hw
  have main : ∀ d t q, t + d = N (σ 11 (12 * m + w)) → Ev (fun n => Ya_obey_f n 2 (some (D.1 6 ix)) (some (D.1 16 (12 * m + w))) (J t) (rn D (kz κ ix q))) (0, rn D (kz κ ix (crunQ (zn ix) (itL (fun t => [(Sum.inl (N (σ 12 (3 * (12 * m + w) + t)), N (σ 13 (3 * (12 * m + w) + t)), σ 14 (3 * (12 * m + w) + t)) : Op)]) t d) q))) := by
    intro d
    induction d with
    | zero =>
      intro t q ht
      refine Ev.succ (fun n => Ya_obey_e2 n _ _ _ _) ?_
      unfold Ya_obey_t2
      simp only [obd, rd16 k16.1, kz_v, y.1]
      refine Ev.pos ?_ Ev.ret
      rw [s11.1, J_le (by have := s11.2; omega) (by have := s11.2; omega)]
      omega
    | succ d ih =>
      intro t q ht
      have s3 := s11.2
      have yt := y.2 t (by omega)
      have s12 := h.2.2.2.2.2.2.2 (3 * (12 * m + w) + t) (by omega)
      have i4 : N (σ 12 (3 * (12 * m + w) + t)) < 4 := by have := s12.1.2; omega
      have j4 : N (σ 13 (3 * (12 * m + w) + t)) < 4 := by have := s12.2.2; omega
      refine Ev.succ (fun n => Ya_obey_e2 n _ _ _ _) ?_
      unfold Ya_obey_t2
      simp only [obd, rd16 k16.1, kz_v, y.1, kra17 k16.2.1 (show t < 3 by omega), kra18 k16.2.2 (show t < 3 by omega), yt, rd6 h6, if_true, J_mod4 i4 j4, J_div4 i4 j4]
      refine Ev.neg (sml_nle s11 (by omega) (by omega)) (Ev.neg (by rw [J3, J_le (by omega) (by omega)]; omega) ?_)
      have sq := zo_squeeze (κ := kz κ ix q) h.1.1 h6 h7 (i := N (σ 12 (3 * (12 * m + w) + t))) (j := N (σ 13 (3 * (12 * m + w) + t))) (by have := (zn_le ix).2; omega) (by have := (zn_le ix).2; omega) (w := σ 14 (3 * (12 * m + w) + t)) (x4 := 0) (x5 := 0) (x6 := 0)
      rw [kz_kz, kz_q] at sq
      refine Ev.ob sq ?_
      dsimp only
      rw [show J t + 1 = J (t + 1) from J_add t 1]
      exact ih (t + 1) _ (by omega)
  refine Ev.succ (fun n => Ya_obey_e0 n _ _ _ _) ?_
  unfold Ya_obey_t0
  have mm := main (N (σ 11 (12 * m + w))) 0 (kq κ ix) (by omega)
  rw [kz_id] at mm
  exact mm
/-- the partner of a move, as the class sees it -/
def cTk (D : kD) (v : Mv) : Option Nat := match v.2.2 with
  | none => none
  | some t => some (D.1 16 (12 * t.1 + t.2))
theorem follow_y (h : YW D κ σ) {p : Nat → Nat} (hp : ∀ a, a < N (σ 1 0) → κ 5 0 a = J (p a) ∧ p a < N (σ 2 a)) (h6 : kI D 6 ix) (h7 : kI D 7 ix) {v : Mv} (hv : mvE σ v) : Ev (fun n => Ya_follow_f n (D.1 1 0) (some (D.1 6 ix)) (some (D.1 16 (12 * v.1 + v.2.1))) (cTk D v) (rn D κ)) (0, rn D (kz κ ix (crunQ (zn ix) (mvA σ v p) (kq κ ix)))) := by
  obtain ⟨m, w, o⟩ := v
  have hm : m < N (σ 1 0) := hv.1.1
  have hw : w < N (σ 3 m) := hv.1.2
  have y := (h.2.1.2 m hm).2.2 w hw
  have k16 := h.k16 hm hw
  have ob := obey_y h h6 h7 hm hw (x2 := 0)
  cases o with
  | none =>
    unfold Ya_follow_f
    refine Ev.ob ob ?_
    dsimp only [cTk]
    simp only [obd, oel, rd16 k16.1, kz_v, y.1, rd6 h6, if_true]
    have hz1 := h.kz ix (crunQ (zn ix) (tstL σ (12 * m + w)) (kq κ ix))
    have r := zo_reset (κ := kz κ ix (crunQ (zn ix) (tstL σ (12 * m + w)) (kq κ ix))) h.1.1 h6 h7 (c := σ 10 (12 * m + w)) (x2 := 0) (x3 := 0)
    rw [kz_kz] at r
    refine Ev.ob r ?_
    dsimp only
    simp only [rd1 h.1.k1, if_true]
    have hz2 := h.kz ix (crs (zn ix) (σ 10 (12 * m + w)) (kz κ ix (crunQ (zn ix) (tstL σ (12 * m + w)) (kq κ ix)) 7 ix), kz κ ix (crunQ (zn ix) (tstL σ (12 * m + w)) (kq κ ix)) 6 ix 2)
    have c := confine_y hz2 (p := p) (fun a ha => by simp only [kz_v]; exact hp a ha) h6 h7 (x2 := 0) (x4 := 0) (y3 := none)
    refine Ev.ob c ?_
    rw [kz_kz, kz_q]
    have e : crunQ (zn ix) (mvA σ (m, w, none) p) (kq κ ix) = crunQ (zn ix) (limL σ p) (crs (zn ix) (σ 10 (12 * m + w)) (kz κ ix (crunQ (zn ix) (tstL σ (12 * m + w)) (kq κ ix)) 7 ix), kz κ ix (crunQ (zn ix) (tstL σ (12 * m + w)) (kq κ ix)) 6 ix 2) := by
      show crunQ (zn ix) ((tstL σ (12 * m + w) ++ [(Sum.inr (some (σ 10 (12 * m + w) ||| 0)) : Op)]) ++ limL σ p) (kq κ ix) = _
      rw [crunQ_app, crunQ_app, Int32.or_zero]
      generalize crunQ (zn ix) (tstL σ (12 * m + w)) (kq κ ix) = q
      have q0 := kz_q κ ix q
      unfold kq at q0
      have q1 := congrArg Prod.fst q0
      have q2 := congrArg Prod.snd q0
      dsimp only at q1 q2
      rw [q1, q2]
      rfl
    rw [e]
    exact Ev.ret
  | some t =>
    obtain ⟨b, u⟩ := t
    have hb := (hv.2 (b, u) rfl).1
    have hu := (hv.2 (b, u) rfl).2
    have y2 := (h.2.1.2 b hb).2.2 u hu
    have k162 := h.k16 hb hu
    unfold Ya_follow_f
    refine Ev.ob ob ?_
    dsimp only [cTk]
    simp only [obd, oel, rd16 k16.1, kz_v, y.1]
    have hz1 := h.kz ix (crunQ (zn ix) (tstL σ (12 * m + w)) (kq κ ix))
    have ob2 := obey_y hz1 h6 h7 hb hu (x2 := 0)
    rw [kz_kz, kz_q] at ob2
    refine Ev.ob ob2 ?_
    dsimp only
    simp only [rd16 k162.1, kz_v, y2.1, rd6 h6, if_true]
    generalize hq : crunQ (zn ix) (tstL σ (12 * b + u)) (crunQ (zn ix) (tstL σ (12 * m + w)) (kq κ ix)) = q
    have r := zo_reset (κ := kz κ ix q) h.1.1 h6 h7 (c := σ 10 (12 * m + w) ||| σ 10 (12 * b + u)) (x2 := 0) (x3 := 0)
    rw [kz_kz] at r
    refine Ev.ob r ?_
    dsimp only
    simp only [rd1 h.1.k1, if_true]
    have hz2 := h.kz ix (crs (zn ix) (σ 10 (12 * m + w) ||| σ 10 (12 * b + u)) (kz κ ix q 7 ix), kz κ ix q 6 ix 2)
    have c := confine_y hz2 (p := p) (fun a ha => by simp only [kz_v]; exact hp a ha) h6 h7 (x2 := 0) (x4 := 0) (y3 := none)
    refine Ev.ob c ?_
    rw [kz_kz, kz_q]
    have e : crunQ (zn ix) (mvA σ (m, w, some (b, u)) p) (kq κ ix) = crunQ (zn ix) (limL σ p) (crs (zn ix) (σ 10 (12 * m + w) ||| σ 10 (12 * b + u)) (kz κ ix q 7 ix), kz κ ix q 6 ix 2) := by
      show crunQ (zn ix) ((tstL σ (12 * m + w) ++ (tstL σ (12 * b + u) ++ [(Sum.inr (some (σ 10 (12 * m + w) ||| σ 10 (12 * b + u))) : Op)])) ++ limL σ p) (kq κ ix) = _
      rw [crunQ_app, crunQ_app, crunQ_app, hq]
      have q0 := kz_q κ ix q
      unfold kq at q0
      have q1 := congrArg Prod.fst q0
      have q2 := congrArg Prod.snd q0
      dsimp only at q1 q2
      rw [q1, q2]
      rfl
    rw [e]
    exact Ev.ret
end CY

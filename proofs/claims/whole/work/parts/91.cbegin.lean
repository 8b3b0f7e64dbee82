/-! the class's begin against the reference's start -/
section BG
variable {D : kD} {κ : kS} {σ σ' : mS} {z : Nat}
theorem start_y (h : YW D κ σ) (hF : FZ D κ z) (hV : WV σ) (hC : gC σ) (hc : canW σ) (hg : κ 1 0 8 = σ 20 0 ∧ (¬ σ 20 0 = 0 → ∀ b, b < 4 → κ 4 0 b = σ 19 b)) (hs : sml (κ 3 0 0) 200) (hnum : ∀ j, j < N (κ 3 0 0) → κ 19 j 0 = J j) (h5 : ∀ i, i < 3 → κ 5 0 i = arv σ pz0 i) (hx : κ 1 0 3 = J 0) (h22 : σ 22 0 = J 0) (hl : κ 1 0 4 = 0 ∧ κ 1 0 5 = 0 ∧ κ 1 0 6 = 0) (hr : σ 23 0 = J 0 ∧ σ 34 0 = 0 ∧ σ 35 0 = 0) (hsp : σ 37 0 = 0) (ho : stO σ σ') : ∃ D' κ' c s, Ev (fun n => Ya_begin_f n 31 (D.1 1 0) (J 3) (rn D κ) z) (0, rn D' κ', c, s) ∧ WS D κ z D' κ' σ' c s ∧ LB κ' σ' 0 ∧ σ' 37 0 = 0 := by
  have hD := h.1.1
  have k1 := h.1.k1
  have z0 := h.1.z0
  have mc3 := h.2.2.1.2
  have hp : ∀ (μ : kS), μ 5 0 = κ 5 0 → ∀ a, a < N (σ 1 0) → μ 5 0 a = J (pz0 a) ∧ pz0 a < N (σ 2 a) := fun μ e a ha => by
    rw [e, h5 a (by omega)]
    unfold arv
    rw [if_pos ha]
    exact ⟨rfl, hc.2 a ha⟩
  have c0 := zo_zero (κ := κ) hD z0.1 z0.2
  generalize hq0 : ((fun i => if i < zn 0 * zn 0 then 1 else κ 7 0 i, 0) : zQ) = q0 at c0
  have q02 : q0.2 = 0 := by rw [← hq0]
  have q0a : agr 4 (ci 4 q0.1) onesM := fun i j hi hj => by
    unfold ci
    rw [← hq0]
    show (if i * 4 + j < zn 0 * zn 0 then (1 : Int32) else _).toInt = 1
    rw [if_pos (by show i * 4 + j < 4 * 4; omega)]
    decide
  have f1 := confine_y (h.kz 0 q0) (p := pz0) (hp _ (by rw [kz_k (by decide) (by decide)])) z0.1 z0.2 (x2 := 0) (x4 := 0) (y3 := none)
  rw [kz_kz, kz_q, show zn 0 = 4 from rfl] at f1
  have s1 := stay_y (h.kz 0 (crunQ 4 (limL σ pz0) q0)) (p := pz0) (hp _ (by rw [kz_k (by decide) (by decide)])) z0.1 z0.2
  rw [kz_kz, kz_q, show zn 0 = 4 from rfl, show crunQ 4 ((Sum.inr none : Op) :: limL σ pz0) (crunQ 4 (limL σ pz0) q0) = crunQ 4 (arL σ pz0) q0 by unfold arL; rw [crunQ_app]] at s1
  have zf := zone_first h.2.2 hV hC hc q02 q0a (g := κ 4 0) (b8 := κ 1 0 8) hg.1 hg.2 (σ 15)
  unfold stO at ho
  generalize hqB : qS σ (σ 15) = B at zf ho
  generalize hqf : crunQ 4 (arL σ pz0) q0 = qf at s1 zf
  obtain ⟨o1, o2⟩ := ho
  have q2 : kz κ 0 qf 6 0 2 = qf.2 := congrArg Prod.snd (kz_q κ 0 qf)
  have w0 : kws κ 0 (kz κ 0 qf) := ⟨fun kd ix _ n67 _ => kz_o n67, fun c _ _ => by rw [kz_k (by decide) (by decide)]⟩
  obtain ⟨ky0, kx0, k30⟩ := kws_ky w0
  have y0 : YW D (kz κ 0 qf) σ := h.cg kx0 ky0 k30
  have n22 : N (σ 22 0) = 0 := by rw [h22]; rfl
  rcases zf with ⟨zB, zq⟩ | ⟨zB, zq, zl, zc⟩
  · -- EMPTY: no states
    have hxx := o1 (by rw [zB]; decide)
    have ss : sst σ σ' := sx_sst (sst.rf σ) hxx
    have crr : CR (kz κ 0 qf) σ' := by
      have cr0 : CR κ σ := ⟨by rw [hx, h22], hg, hs, by rw [n22]; omega, hnum, fun j hj => by rw [n22] at hj; omega, fun j i hj => by rw [n22] at hj; omega, fun j hj => by rw [n22] at hj; omega⟩
      exact CR_cg cr0 w0 ss
    have n22' : N (σ' 22 0) = 0 := by rw [ss.2.2.2 22 0 (by decide) (by decide)]; exact n22
    have e1 : kz κ 0 qf 1 0 = κ 1 0 := kz_k (by decide) (by decide)
    refine ⟨D, kz κ 0 qf, 0, 0, ?_, ⟨Dx.rf D, YW_sst y0 ss.1, hF.cg kx0 k30, by rw [k30]; omega, by rw [k30]; exact Nat.le_refl _, crr, kws_fr w0⟩, ⟨fun j _ hj => by rw [n22'] at hj; omega, fun j hj => by omega, fun j _ hj => by rw [n22'] at hj; omega, ?_, ?_, ?_, ?_⟩, ?_⟩
    · refine Ev.succ (fun n => Ya_begin_e31 n _ _ _ _) ?_
      unfold Ya_begin_t31
      refine Ev.pos (by decide) ?_
      refine Ev.ob (Ev.cn (by simp only [rd1 k1] <;> rfl)) (Ev.obs (Ev.pos (rd6 z0.1).1 (Ev.ob c0 ?_)))
      refine Ev.ob (Ev.cn (by simp only [rd1 k1] <;> rfl)) (Ev.pos (rd1 k1).1 (Ev.ob f1 ?_))
      refine Ev.ob (Ev.cn (by simp only [rd1 k1] <;> rfl)) (Ev.pos (rd1 k1).1 (Ev.ob s1 ?_))
      refine Ev.ob (Ev.cn (by simp only [rd1 k1] <;> rfl)) (Ev.obs ?_)
      refine Ev.ob (Ev.cn (a := qf.2) (by simp only [rd6 z0.1]; rw [q2])) ?_
      exact Ev.neg (by rw [zq]; decide) Ev.ret
    · rw [e1, ss.2.2.2 23 0 (by decide) (by decide), hr.1]; exact hl.1
    · rw [e1, ss.2.2.2 34 0 (by decide) (by decide), hr.2.1]; exact hl.2.1
    · rw [e1, ss.2.2.2 35 0 (by decide) (by decide), hr.2.2]; exact hl.2.2
    · rw [ss.2.2.2 23 0 (by decide) (by decide)]; exact hr.1
    · rw [hxx 37 0 (by decide)]; exact hsp
  · have hxx := o2 zB
    have fz0 : FZ D (kz κ 0 qf) z := hF.cg kx0 k30
    have n019 : ∀ j, kz κ 0 qf 19 j = κ 19 j := fun j => kz_k (by decide) (by decide)
    have n15 : kz κ 0 qf 5 0 = κ 5 0 := kz_k (by decide) (by decide)
    have n11 : kz κ 0 qf 1 0 = κ 1 0 := kz_k (by decide) (by decide)
    obtain ⟨D', κn, c, s, ev, no, nf⟩ := newState_y y0 fz0 (by rw [k30]; exact hs) (fun j hj => by rw [k30] at hj; rw [n019]; exact hnum j hj) (p := pz0) (hp _ n15) (k := 0) (by rw [n11]; exact hx) (by decide) (by omega) (par := none) (fun j hj => by cases hj)
    obtain ⟨dx, yw, fz, cs, sm', kn, mm, nums⟩ := no
    rw [k30] at cs mm
    have k1' := (dx.1 1 0 k1).2
    have a1 := (dx.1 1 0 k1).1
    have hD' := yw.1.1
    have lx := yw.1.2.2.2.2.1 0 kn
    have zb : kI D' 6 2 ∧ kI D' 7 2 := yw.1.zb kn
    have ze : kI D' 6 3 ∧ kI D' 7 3 := yw.1.ze kn
    have z0' := yw.1.z0
    have nfr : ∀ kd ix, ¬ (kd = 1 ∧ ix = 0) → ¬ nid 0 kd ix → κn kd ix = kz κ 0 qf kd ix := fun kd ix n1 n2 => nf.1 kd ix n1 n2 (fun j hj => by cases hj)
    have e50 : κn 5 0 = κ 5 0 := (nfr 5 0 (by omega) (by unfold nid; omega)).trans n15
    have e60 : κn 6 0 2 = 0 := by rw [nfr 6 0 (by omega) (by unfold nid; omega), q2]; exact zq
    have e70 : κn 7 0 = qf.1 := by rw [nfr 7 0 (by omega) (by unfold nid; omega)]; exact congrArg Prod.fst (kz_q κ 0 qf)
    have c1 := zo_zero (κ := κn) hD' ze.1 ze.2
    generalize hqe : ((fun i => if i < zn 3 * zn 3 then 1 else κn 7 3 i, 0) : zQ) = qe at c1
    have qe2 : qe.2 = 0 := by rw [← hqe]
    have qea : agr 5 (ci 5 qe.1) onesM := fun i j hi hj => by
      unfold ci
      rw [← hqe]
      show (if i * 5 + j < zn 3 * zn 3 then (1 : Int32) else _).toInt = 1
      rw [if_pos (by show i * 5 + j < 5 * 5; omega)]
      decide
    have s2 := stay_y (yw.kz 3 qe) (p := pz0) (hp _ (by rw [kz_k (by decide) (by decide), e50])) ze.1 ze.2
    rw [kz_kz, kz_q, show zn 3 = 5 from rfl] at s2
    have zfe := zone_firstE h.2.2 hV hC hc qe2 qea (σ 15) B.1 (by rw [hqB]; exact zB)
    generalize hqg : crunQ 5 ((Sum.inr none : Op) :: limL σ pz0) qe = qg at s2 zfe
    let κ3 : kS := ku (kz κn 3 qg) 19 0 10 0
    have L3 : LV D' κ3 := ((yw.kz 3 qg).1).ku (by decide) (by decide) (by decide) (by decide) (fun t => absurd t (by decide))
    have e3 : ∀ kd ix, ¬ ((kd = 6 ∨ kd = 7) ∧ ix = 3) → ¬ (kd = 19 ∧ ix = 0) → κ3 kd ix = κn kd ix := fun kd ix n1 n2 => by
      show ku (kz κn 3 qg) 19 0 10 0 kd ix = _
      rw [ku_n n2, kz_o n1]
    have e360 : κ3 6 0 2 = 0 := by rw [e3 6 0 (by omega) (by omega)]; exact e60
    have lg := letGreatGo_y L3 e360
    have e18 : κ3 1 0 8 = κ 1 0 8 := by rw [e3 1 0 (by omega) (by omega), nf.2.1, fu_n (by decide), n11]
    have e14 : κ3 4 0 = κ 4 0 := by rw [e3 4 0 (by omega) (by omega), nfr 4 0 (by omega) (by unfold nid; omega)]; exact kz_k (by decide) (by decide)
    have e3q : kq κ3 0 = qf := by
      show (κ3 7 0, κ3 6 0 2) = qf
      rw [e3 7 0 (by omega) (by omega), e70, e360, ← zq]
    rw [e18, e14, e3q, show κ3 7 0 = qf.1 from congrArg Prod.fst e3q] at lg
    let ql : zQ := lgq (κ 1 0 8) (κ 4 0) qf
    let κ4 : kS := kz κ3 0 ql
    have e4q : kq κ4 0 = ql := kz_q κ3 0 ql
    have c2 := zo_as (κ := κ4) hD' zb.1 zb.2 z0'.1 z0'.2 (by decide) (by decide) (Or.inl ((congrArg Prod.snd e4q).trans zl))
    generalize hq5 : ((fun i => if i < zn 2 * zn 2 then κ4 7 0 i else κ4 7 2 i, κ4 6 0 2) : zQ) = q5 at c2
    let κ5 : kS := kz κ4 2 q5
    have q51 : ∀ i, i < 16 → q5.1 i = ql.1 i := fun i hi => by
      rw [← hq5]
      show (if i < zn 2 * zn 2 then κ4 7 0 i else κ4 7 2 i) = _
      rw [if_pos (by show i < 4 * 4; omega), show κ4 7 0 = ql.1 from congrArg Prod.fst e4q]
    have q52 : q5.2 = 0 := by
      rw [← hq5]
      show κ4 6 0 2 = 0
      exact (congrArg Prod.snd e4q).trans zl
    have e5 : ∀ kd ix, ¬ ((kd = 6 ∨ kd = 7) ∧ (ix = 0 ∨ ix = 2 ∨ ix = 3)) → ¬ (kd = 19 ∧ ix = 0) → κ5 kd ix = κn kd ix := fun kd ix n1 n2 => by
      show kz κ4 2 q5 kd ix = _
      rw [kz_o (by omega)]
      show kz κ3 0 ql kd ix = _
      rw [kz_o (by omega)]
      exact e3 kd ix (by omega) n2
    have e519 : κ5 19 0 = fu (κn 19 0) 10 0 := by
      show kz κ4 2 q5 19 0 = _
      rw [kz_k (by decide) (by decide)]
      show kz κ3 0 ql 19 0 = _
      rw [kz_k (by decide) (by decide)]
      show ku (kz κn 3 qg) 19 0 10 0 19 0 = _
      rw [ku_e, kz_k (by decide) (by decide)]
    have e5z2 : kq κ5 2 = q5 := kz_q κ4 2 q5
    have e5z3 : kq κ5 3 = qg := by
      show (kz κ4 2 q5 7 3, kz κ4 2 q5 6 3 2) = qg
      rw [kz_n (by decide), kz_n (by decide)]
      show (kz κ3 0 ql 7 3, kz κ3 0 ql 6 3 2) = qg
      rw [kz_n (by decide), kz_n (by decide)]
      show (ku (kz κn 3 qg) 19 0 10 0 7 3, ku (kz κn 3 qg) 19 0 10 0 6 3 2) = qg
      rw [ku_k (by decide), ku_k (by decide)]
      exact kz_q κn 3 qg
    have y5 : YW D' κ5 σ := ((((yw.kz 3 qg).kf (by decide) (by decide) (by decide) (by decide) (fun t => absurd t (by decide)) (by decide)).kz 0 ql).kz 2 q5)
    have x5 : kxd κn κ5 := ⟨by rw [e5 1 0 (by omega) (by omega)], by funext y; exact e5 9 y (by omega) (by omega), fun m => e5 10 m (by omega) (by omega), fun d => e5 22 d (by omega) (by omega)⟩
    have k35 : κ5 3 0 0 = κn 3 0 0 := by rw [e5 3 0 (by omega) (by omega)]
    have h19 : ∀ {i : Nat}, i ≠ 10 → κ5 19 0 i = κn 19 0 i := fun hi => by rw [e519, fu_n hi]
    have fr2 : ∀ kd ix, ¬ (kd = 1 ∧ ix = 0) → ¬ nid 0 kd ix → ¬ ((kd = 6 ∨ kd = 7) ∧ ix = 0) → κ5 kd ix = κ kd ix := fun kd ix n1 n2 n3 => by
      rw [e5 kd ix (by unfold nid at n2; omega) (by unfold nid at n2; omega), nfr kd ix n1 n2]
      exact kz_o n3
    -- the reference
    have t22 : σ' 22 0 = J 1 := by
      rw [hxx 22 0 (by decide)]
      show σ 22 0 + 1 = _
      rw [h22]
      exact J_add 0 1
    have m22 : N (σ' 22 0) = 1 := by rw [t22]; rfl
    have tS : ∀ s b, s < 22 → s ∉ jk → σ' s b = σ s b := fun s b h1 h2 => by
      rw [hxx s b h2]
      unfold stS
      rw [if_neg (by omega), if_neg (by omega), if_neg (by omega), if_neg (by omega), if_neg (by omega), if_neg (by omega), if_neg (by omega), if_neg (by omega), if_neg (by omega), if_neg (by omega)]
    have t24 : ∀ b, b < 3 → σ' 24 b = arv σ pz0 b := fun b hb => by
      rw [hxx 24 b (by decide)]
      show (if b < 3 then (if b < N (σ 1 0) then J 0 else (-2 : Int32)) else σ 24 b) = _
      rw [if_pos hb]
      rfl
    have t25 : ∀ b, b < 25 → σ' 25 b = B.1 b := fun b hb => by
      rw [hxx 25 b (by decide)]
      show (if b < 25 then B.1 b else σ 25 b) = _
      rw [if_pos hb]
    have t26 : ∀ b, b < 25 → σ' 26 b = (qSe σ B.1).1 b := fun b hb => by
      rw [hxx 26 b (by decide)]
      show (if b < 25 then (qSe σ B.1).1 b else σ 26 b) = _
      rw [if_pos hb]
    have t27 : σ' 27 0 = (-1 : Int32) := hxx 27 0 (by decide)
    have t28 : σ' 28 0 = 0 := hxx 28 0 (by decide)
    have t29 : σ' 29 0 = (-2 : Int32) := hxx 29 0 (by decide)
    have t30 : σ' 30 0 = 0 := hxx 30 0 (by decide)
    have t32 : σ' 32 0 = 0 := hxx 32 0 (by decide)
    have t33 : σ' 33 0 = hlp σ pz0 := hxx 33 0 (by decide)
    have t23 : σ' 23 0 = σ 23 0 := hxx 23 0 (by decide)
    have t34 : σ' 34 0 = σ 34 0 := hxx 34 0 (by decide)
    have t35 : σ' 35 0 = σ 35 0 := hxx 35 0 (by decide)
    have t37 : σ' 37 0 = σ 37 0 := hxx 37 0 (by decide)
    have yqs : yq σ' σ := fun a b h1 h2 => tS a b (by omega) (by unfold jk; simp; omega)
    have f4 := nf.2.2.2.1
    have q57 : κ5 7 2 = q5.1 := congrArg Prod.fst e5z2
    have q56 : κ5 6 2 2 = q5.2 := congrArg Prod.snd e5z2
    have g57 : κ5 7 3 = qg.1 := congrArg Prod.fst e5z3
    have g56 : κ5 6 3 2 = qg.2 := congrArg Prod.snd e5z3
    have e510 : κ5 1 0 = fu (κ 1 0) 3 (J 1) := by rw [e5 1 0 (by omega) (by omega), nf.2.1, n11]
    have crr : CR κ5 σ' := by
      refine ⟨by rw [e510, fu_e, t22], ⟨by rw [e510, fu_n (by decide), tS 20 0 (by decide) (by decide)]; exact hg.1, fun t b hb => ?_⟩, by rw [k35]; exact sm', by rw [m22, k35]; omega, fun j hj => ?_, fun j hj => ?_, fun j i hj h1 h2 => ?_, fun j hj => ?_⟩
      · rw [tS 20 0 (by decide) (by decide)] at t
        rw [fr2 4 0 (by omega) (by unfold nid; omega) (by omega), tS 19 b (by decide) (by decide)]
        exact hg.2 t b hb
      · rw [k35] at hj
        by_cases g : j = 0
        · rw [g, h19 (by decide)]; exact nums 0 kn
        · rw [e5 19 j (by omega) (by omega)]; exact nums j hj
      · rw [m22] at hj
        have j0 : j = 0 := by omega
        rw [j0]
        refine ⟨fun i hi => ?_, ?_, ?_, ?_, fun t => by omega, ?_, ?_, ⟨fun i b hi hb => ?_, ?_⟩, fun i b hi hb => ?_, ?_⟩
        · rw [e5 20 0 (by omega) (by omega), nf.2.2.1 i hi, n15, h5 i hi, Nat.mul_zero, Nat.zero_add, t24 i hi]
        · rw [h19 (by decide), f4.2.1, t27]; rfl
        · rw [h19 (by decide), f4.2.2.2.1, t28]
        · rw [h19 (by decide), f4.2.2.1, t30]; rfl
        · rw [e519, fu_e, t32]
        · rw [h19 (by decide), f4.2.2.2.2.2.2, t33]
        · show κ5 7 2 (i * 4 + b) = σ' 25 (25 * 0 + (5 * i + b))
          rw [q57, q51 _ (by omega), zc i b hi hb, Nat.mul_zero, Nat.zero_add, t25 _ (by omega)]
        · show κ5 6 2 2 = 0
          rw [q56]; exact q52
        · show κ5 7 3 (i * 5 + b) = σ' 26 (25 * 0 + (5 * i + b))
          rw [g57, zfe.2 i b hi hb, Nat.mul_zero, Nat.zero_add, t26 _ (by omega)]
        · show κ5 6 3 2 = 0
          rw [g56]; exact zfe.1
      · rw [m22] at hj
        rw [yqs 1 0 (by decide) (by decide)] at h1
        rw [show 3 * j + i = i by omega, t24 i h2]
        unfold arv
        rw [if_neg (by omega)]
      · rw [m22] at hj
        exact ⟨fun _ => ⟨t27, t30⟩, fun t => by omega⟩
    refine ⟨D', κ5, c, s, ?_, ⟨dx, YW_sst y5 yqs, fz.cg x5 k35, by rw [k35]; exact cs, by rw [k35]; exact mm, crr, ⟨fr2 6 1 (by omega) (by unfold nid; omega) (by omega), fr2 7 1 (by omega) (by unfold nid; omega) (by omega), fun kd ix hh => fr2 kd ix (by omega) (by unfold nid; omega) (by omega), by rw [e510, fu_n (by decide)]⟩⟩, ⟨fun j _ hj => ?_, fun j hj => by omega, fun j _ hj => ?_, ?_, ?_, ?_, ?_⟩, ?_⟩
    · refine Ev.succ (fun n => Ya_begin_e31 n _ _ _ _) ?_
      unfold Ya_begin_t31
      refine Ev.pos (by decide) ?_
      refine Ev.ob (Ev.cn (by simp only [rd1 k1] <;> rfl)) (Ev.obs (Ev.pos (rd6 z0.1).1 (Ev.ob c0 ?_)))
      refine Ev.ob (Ev.cn (by simp only [rd1 k1] <;> rfl)) (Ev.pos (rd1 k1).1 (Ev.ob f1 ?_))
      refine Ev.ob (Ev.cn (by simp only [rd1 k1] <;> rfl)) (Ev.pos (rd1 k1).1 (Ev.ob s1 ?_))
      refine Ev.ob (Ev.cn (by simp only [rd1 k1] <;> rfl)) (Ev.obs ?_)
      refine Ev.ob (Ev.cn (a := qf.2) (by simp only [rd6 z0.1]; rw [q2])) (Ev.pos zq (Ev.pos (rd1 k1).1 (Ev.ob ev ?_)))
      dsimp only
      refine Ev.oa0 ?_
      refine Ev.bn (Ev.obs ?_)
      rw [← a1]
      refine Ev.ob (Ev.cn (a := some (D'.1 6 3)) (by simp only [rd19 lx.1])) (Ev.obs (Ev.pos (rd6 ze.1).1 (Ev.ob c1 ?_)))
      refine Ev.ob (Ev.cn (a := some (D'.1 6 3)) (by simp only [rd19 lx.1])) (Ev.pos (rd1 k1').1 (Ev.ob s2 ?_))
      refine Ev.ob (Ev.cn (rw19_10 hD' lx.1 0)) (Ev.pos (rd1 k1').1 (Ev.ob lg ?_))
      refine Ev.ob (Ev.cn (a := some (D'.1 6 2)) (by simp only [rd19 lx.1])) (Ev.ob (Ev.cn (a := some (D'.1 6 0)) (by simp only [rd1 k1'])) (Ev.obs (Ev.pos (rd6 zb.1).1 (Ev.ob ⟨0, fun n _ => c2 n⟩ Ev.ret))))
    · rw [m22] at hj
      rw [show j = 0 by omega, h19 (by decide), h19 (by decide)]
      exact ⟨f4.2.2.2.2.1, f4.2.2.2.2.2.1⟩
    · rw [m22] at hj
      rw [show j = 0 by omega]; exact t29
    · rw [e510, fu_n (by decide), t23, hr.1]; exact hl.1
    · rw [e510, fu_n (by decide), t34, hr.2.1]; exact hl.2.1
    · rw [e510, fu_n (by decide), t35, hr.2.2]; exact hl.2.2
    · rw [t23]; exact hr.1
    · rw [t37]; exact hsp
end BG

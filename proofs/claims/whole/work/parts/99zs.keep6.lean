/-! keep: the class's heldOf, and keep whole -/
section KP6
variable {D : kD} {κ : kS} {σ : mS} {τ : mL} {z : Nat}
theorem held1 (h : YW D κ σ) (hF : FZ D κ z) {m w : Nat} (hm : m < N (σ 1 0)) (hw : w < N (σ 3 m)) : ∃ f1 f2, Ev (fun n => Ti_heldOf_f n (D.1 0 0) 1 (J m) (J w) (rn D κ) z) (some z, xup (xup (xup (rn D κ) (z + 1) (inA 3 f1)) (z + 1 + 1) (inA 3 f2)) z (.inr (7, [.int (κ 16 (12 * m + w) 0), .int (κ 16 (12 * m + w) 1), .int (κ 16 (12 * m + w) 2), .int (κ 16 (12 * m + w) 3), .ref (z + 1), .ref (z + 1 + 1), .int (κ 16 (12 * m + w) 6)])), 3, 13) := by
  have k0 := h.1.2.1 0 (by decide) (by decide) (by decide)
  have k1 := h.1.k1
  obtain ⟨i16, i17, i18⟩ := h.k16 hm hw
  obtain ⟨f1, f2, ha⟩ := wa_as hF i16 i17 i18
  refine ⟨f1, f2, ?_⟩
  unfold Ti_heldOf_f
  exact Ev.pos rfl (Ev.ob (Ev.cn (a := some (D.1 1 0)) (by simp only [rd0 k0])) (Ev.obs (Ev.pos (rd1 k1).1 (Ev.ob ⟨0, fun n _ => h.wa hm hw n⟩ (Ev.bn (Ev.oeS (Ev.pos (rd16 i16).1 (Ev.ob ⟨0, fun n _ => ha n⟩ (Ev.oa0 (Ev.bn Ev.ret))))))))))
theorem held2 (h : YW D κ σ) (hF : FZ D κ z) {m w : Nat} (hm : m < N (σ 1 0)) (hw : w < N (σ 2 m)) : ∃ f1 f2, Ev (fun n => Ti_heldOf_f n (D.1 0 0) 2 (J m) (J w) (rn D κ) z) (some z, xup (xup (xup (rn D κ) (z + 1) (inA 2 f1)) (z + 1 + 1) (inA 2 f2)) z (.inr (6, [.ref (z + 1), .ref (z + 1 + 1), .int (κ 13 (6 * m + w) 2)])), 3, 7) := by
  have k0 := h.1.2.1 0 (by decide) (by decide) (by decide)
  have k1 := h.1.k1
  obtain ⟨i16, i17, i18⟩ := h.k13 hm hw
  obtain ⟨f1, f2, ha⟩ := pl_as hF i16 i17 i18
  refine ⟨f1, f2, ?_⟩
  have c13 : rn D κ (D.1 13 (6 * m + w)) = some (.inr (6, [.ref (D.1 14 (6 * m + w)), .ref (D.1 15 (6 * m + w)), .int (κ 13 (6 * m + w) 2)])) := rn_at i16
  unfold Ti_heldOf_f
  exact Ev.neg (by decide) (Ev.pos rfl (Ev.ob (Ev.cn (a := some (D.1 1 0)) (by simp only [rd0 k0])) (Ev.obs (Ev.pos (rd1 k1).1 (Ev.ob ⟨0, fun n _ => h.pl hm hw n⟩ (Ev.bn (Ev.oeS (Ev.pos (by rw [kc_of c13]; decide) (Ev.ob ⟨0, fun n _ => ha n⟩ (Ev.oa0 (Ev.bn Ev.ret)))))))))))
theorem held3 (h : YW D κ σ) (p : PW κ σ) (hF : FZ D κ z) (hw : σ 21 0 = 1) {k : Nat} (hk : k = min 60 (N (σ 22 0))) {x3 x4 : Int32} : Ev (fun n => Ti_heldOf_f n (D.1 0 0) 3 x3 x4 (rn D κ) z) (some (z + 1), xup (xup (rn D κ) z (.inl (3, k, .inl (it (wrI (fun i => σ 24 (3 * i))) 0 k (fun _ => 0))))) (z + 1) (.inr (8, [.ref z])), 2, k + 1) := by
  have k0 := h.1.2.1 0 (by decide) (by decide) (by decide)
  have k1 := h.1.k1
  have e7 : κ 1 0 7 = 1 := p.2.2.2.2.2.2.2.1.1.trans hw
  unfold Ti_heldOf_f
  exact Ev.neg (by decide) (Ev.neg (by decide) (Ev.pos rfl (Ev.ob (Ev.cn (a := some (D.1 1 0)) (by simp only [rd0 k0])) (Ev.obs (Ev.ob (Ev.cn (a := κ 1 0 7) (by simp only [rd1 k1])) (Ev.neg (by rw [e7]; decide) (Ev.pos (rd0 k0).1 (Ev.ob (rowP_c h p hF hk) (Ev.oa0 (Ev.bn Ev.ret))))))))))
theorem held4 (h : YW D κ σ) (p : PW κ σ) (hF : FZ D κ z) {j : Nat} (hj : j < N (σ 22 0)) {x3 : Int32} : Ev (fun n => Ti_heldOf_f n (D.1 0 0) 4 x3 (J j) (rn D κ) z) (some (z + 1), xup (xup (rn D κ) z (.inl (1, 16, .inr (.inl (it (wrL (fun i => Int32.toInt64 (κ 7 (2 * j + 2) ((i / 4) * 4 + i % 4)))) 0 16 (fun _ => 0)))))) (z + 1) (.inr (9, [.ref z])), 2, 17) := by
  have k0 := h.1.2.1 0 (by decide) (by decide) (by decide)
  have k1 := h.1.k1
  obtain ⟨s1, k19, -⟩ := PW.st_in (τ := fun _ _ => 0) h p hj
  have zz := h.1.zb (k := j) (by have := p.2.2.2.1; omega)
  unfold Ti_heldOf_f
  exact Ev.neg (by decide) (Ev.neg (by decide) (Ev.neg (by decide) (Ev.ob (Ev.cn (a := some (D.1 1 0)) (by simp only [rd0 k0])) (Ev.obs (Ev.pos (rd1 k1).1 (Ev.ob ⟨0, fun n _ => s1 n⟩ (Ev.bn (Ev.oeS (Ev.ob (Ev.cn (a := some (D.1 6 (2 * j + 2))) (by simp only [rd19 k19.1])) (Ev.ob (rowB_c h hF zz.1 zz.2 (fun i _ => rfl)) (Ev.oa0 (Ev.bn Ev.ret))))))))))))
theorem keep_s (h : YW D κ σ) (p : PW κ σ) (hF : FZ D κ z) (S : SH D κ σ τ) (hn : N (κ 9 2 0) < 100000) (y w x3 x4 : Int32) : SCo D κ σ τ z (fun n => Ti_keep_f n (D.1 0 0) y w x3 x4 (rn D κ) z) (fun n => Mo_keep_f n 0 y w x3 x4 0 0 σ τ) := by
  have k0 := h.1.2.1 0 (by decide) (by decide) (by decide)
  have k1 := h.1.k1
  have z0 : (0 : Int32).toInt = 0 := by decide
  have z1 : (1 : Int32).toInt = 1 := by decide
  have z2 : (2 : Int32).toInt = 2 := by decide
  have z3 : (3 : Int32).toInt = 3 := by decide
  have z4 : (4 : Int32).toInt = 4 := by decide
  have b2 := fun n => isB n w 0 4 (rn D κ)
  rw [z0, z4] at b2
  obtain ⟨l9, c9⟩ := sh9 h hF
  have l0 := kI_lt hF k0
  rcases sh_or y with ⟨d, hd, rfl, e1, e2⟩ | ⟨e1, e2⟩
  · by_cases hw : 0 ≤ w.toInt ∧ w.toInt ≤ 4
    · rw [if_pos hw] at b2
      -- the class's way to what it would hold
      have pre : ∀ {R}, ¬ (w = 0) → ∀ {H : xH} {v : Option Nat} {c s : Nat}, Ev (fun n => Ti_heldOf_f n (D.1 0 0) w x3 x4 (rn D κ) z) (v, H, c, s) → Ev (fun _ : Nat => oadd c s (bnd v (fun w7 => oel (w7) (some (((-1) : Int32), H, 0, 0)) (fun a9 => obd (gq H (D.1 0 0) 4 3) (fun w11 => obd w11 (fun a16 => (if kc H (a9) 6 = true then obd (pq H (a16) 8 (J d) (a9) 6) (fun h18 => some ((0 : Int32), h18, 0, 0)) else (if kc H (a9) 7 = true then obd (pq H (a16) 8 (J d) (a9) 7) (fun h28 => some ((0 : Int32), h28, 0, 0)) else (if kc H (a9) 8 = true then obd (pq H (a16) 8 (J d) (a9) 8) (fun h38 => some ((0 : Int32), h38, 0, 0)) else (if kc H (a9) 9 = true then obd (pq H (a16) 8 (J d) (a9) 9) (fun h48 => some ((0 : Int32), h48, 0, 0)) else none)))))))))) R → Ev (fun n => Ti_keep_f n (D.1 0 0) (J d) w x3 x4 (rn D κ) z) R := fun {R} hw0 {H v c s} eh er => by
        unfold Ti_keep_f
        exact Ev.ob ⟨0, fun n _ => e1 n _⟩ (Ev.neg i10 (Ev.ob ⟨0, fun n _ => b2 n⟩ (Ev.neg i10 (Ev.neg hw0 (Ev.pos (rd0 k0).1 (Ev.ob eh er))))))
      have non : ¬ (w = 0) → Ev (fun n => Ti_heldOf_f n (D.1 0 0) w x3 x4 (rn D κ) z) (none, rn D κ, 0, 0) → (∀ n, Mo_canKeep_f n w x3 x4 (su σ 0 0 0) τ = some (0, su σ 0 0 0, τ)) → SCo D κ σ τ z (fun n => Ti_keep_f n (D.1 0 0) (J d) w x3 x4 (rn D κ) z) (fun n => Mo_keep_f n 0 (J d) w x3 x4 0 0 σ τ) := fun hw0 eh ck => SCo_no h hF S (r := -1) (pre hw0 eh (Ev.oa0 (Ev.bn (Ev.oeN Ev.ret)))) (keepRn hd ck)
      have five : w = 0 ∨ w = 1 ∨ w = 2 ∨ w = 3 ∨ w = 4 := by
        have : w.toInt = 0 ∨ w.toInt = 1 ∨ w.toInt = 2 ∨ w.toInt = 3 ∨ w.toInt = 4 := by omega
        rcases this with t | t | t | t | t
        · exact Or.inl (i32_eq.mpr (by rw [t, z0]))
        · exact Or.inr (Or.inl (i32_eq.mpr (by rw [t, z1])))
        · exact Or.inr (Or.inr (Or.inl (i32_eq.mpr (by rw [t, z2]))))
        · exact Or.inr (Or.inr (Or.inr (Or.inl (i32_eq.mpr (by rw [t, z3])))))
        · exact Or.inr (Or.inr (Or.inr (Or.inr (i32_eq.mpr (by rw [t, z4])))))
      have g03 : ∀ {H : xH}, H (D.1 0 0) = rn D κ (D.1 0 0) → gq H (D.1 0 0) 4 3 = some (some (D.1 9 0)) := fun {H} e => by
        have q := (rd0 (κ := κ) k0).2.2.2.2
        unfold gq at q ⊢
        rw [e]
        exact q
      rcases five with rfl | rfl | rfl | rfl | rfl
      · refine keep_no h hF S hd ?_ (keepR0 hd)
        unfold Ti_keep_f
        exact Ev.ob ⟨0, fun n _ => e1 n _⟩ (Ev.neg i10 (Ev.ob ⟨0, fun n _ => b2 n⟩ (Ev.neg i10 (Ev.pos rfl (Ev.ob (Ev.cn (a := some (D.1 9 0)) (by simp only [rd0 k0])) (Ev.obs (Ev.ob (Ev.cn (pn_of c9 hd (by decide))) Ev.ret)))))))
      · rcases wa_or h x3 x4 with ⟨m, v, hm, hv, rfl, rfl⟩ | ⟨a1, a2⟩
        · obtain ⟨f1, f2, eh⟩ := held1 h hF hm hv
          have r9 := ((h.2.1.2 m hm).2.2 v hv).1
          have q1 : ∀ {t1 t2 t3 : xE} {a : Nat}, a < z → (xup (xup (xup (rn D κ) (z + 1) t1) (z + 1 + 1) t2) z t3) a = rn D κ a := fun {t1 t2 t3 a} ha => by rw [xup_ne (by omega), xup_ne (by omega), xup_ne (by omega)]
          refine h3_fin h hF S hn (s0 := 13) (by omega) (g0 := gWa κ (12 * m + v)) (f0 := f1) (f2 := f2) (Or.inl rfl) (fun a b t1 t2 => ?_) (fun s b t0 t1 => ?_) (fun s e t1 t2 hed => ?_) (Or.inl ⟨rfl, ?_, ?_, ?_⟩) (pre (by decide) eh (keep_tl (g03 (q1 l0)) ((q1 l9).trans c9) xup_eq (by omega) hd)) (keepR1 h.2.2 hd hm hv)
          · rw [su_n (by omega), su_n (by omega), su_n (by omega), su_n (by omega), su_n (by omega)]
          · rw [su_n (by omega), su_n (by omega), su_n (by omega), su_n (by omega), su_n t0]
          · have c : ∀ (s2 : Nat) (v : Int32) (ρ : mS), su ρ s2 d v s e = ρ s e := fun s2 v ρ => by
              unfold su
              exact if_neg (fun t => hed t.2)
            rw [c, c, c, c, su_n (by omega)]
          · rw [su_n (by decide), su_n (by decide), su_n (by decide), su_e]
          · rw [su_n (by decide), su_e, ← r9.2.2.1, ← r9.2.2.2.2]
            rfl
          · rw [su_e, ← r9.2.2.1]
            rfl
        · refine non (by decide) ?_ (fun n => ?_)
          · unfold Ti_heldOf_f
            exact Ev.pos rfl (Ev.ob (Ev.cn (a := some (D.1 1 0)) (by simp only [rd0 k0])) (Ev.obs (Ev.pos (rd1 k1).1 (Ev.ob ⟨0, fun n _ => a1 n⟩ (Ev.bn (Ev.oeN Ev.ret))))))
          · unfold Mo_canKeep_f
            rw [if_neg (by decide), if_pos rfl, a2 _ (yq_0 σ) τ n]
            rfl
      · rcases pl_or h x3 x4 with ⟨m, v, hm, hv, rfl, rfl⟩ | ⟨a1, a2⟩
        · obtain ⟨f1, f2, eh⟩ := held2 h hF hm hv
          have r9 := ((h.2.1.2 m hm).2.1 v hv).1
          have q1 : ∀ {t1 t2 t3 : xE} {a : Nat}, a < z → (xup (xup (xup (rn D κ) (z + 1) t1) (z + 1 + 1) t2) z t3) a = rn D κ a := fun {t1 t2 t3 a} ha => by rw [xup_ne (by omega), xup_ne (by omega), xup_ne (by omega)]
          refine h3_fin h hF S hn (s0 := 7) (by omega) (g0 := gPl κ (6 * m + v)) (f0 := f1) (f2 := f2) (Or.inr rfl) (fun a b t1 t2 => ?_) (fun s b t0 t1 => ?_) (fun s e t1 t2 hed => ?_) (Or.inr ⟨rfl, ?_, ?_⟩) (pre (by decide) eh (keep_tl (g03 (q1 l0)) ((q1 l9).trans c9) xup_eq (by omega) hd)) (keepR2 h.2.2 hd hm hv)
          · rw [su_n (by omega), su_n (by omega), su_n (by omega), su_n (by omega)]
          · rw [su_n (by omega), su_n (by omega), su_n (by omega), su_n t0]
          · have c : ∀ (s2 : Nat) (v : Int32) (ρ : mS), su ρ s2 d v s e = ρ s e := fun s2 v ρ => by
              unfold su
              exact if_neg (fun t => hed t.2)
            rw [c, c, c, su_n (by omega)]
          · rw [su_n (by decide), su_n (by decide), su_e]
          · rw [su_e, ← r9]
            rfl
        · refine non (by decide) ?_ (fun n => ?_)
          · unfold Ti_heldOf_f
            exact Ev.neg (by decide) (Ev.pos rfl (Ev.ob (Ev.cn (a := some (D.1 1 0)) (by simp only [rd0 k0])) (Ev.obs (Ev.pos (rd1 k1).1 (Ev.ob ⟨0, fun n _ => a1 n⟩ (Ev.bn (Ev.oeN Ev.ret)))))))
          · unfold Mo_canKeep_f
            rw [if_neg (by decide), if_neg (by decide), if_pos rfl, a2 _ (yq_0 σ) τ n]
            rfl
      · obtain ⟨e7, o7⟩ := p.2.2.2.2.2.2.2.1
        rcases o7 with o7 | o7
        · refine non (by decide) ?_ (fun n => ?_)
          · unfold Ti_heldOf_f
            exact Ev.neg (by decide) (Ev.neg (by decide) (Ev.pos rfl (Ev.ob (Ev.cn (a := some (D.1 1 0)) (by simp only [rd0 k0])) (Ev.obs (Ev.ob (Ev.cn (a := κ 1 0 7) (by simp only [rd1 k1])) (Ev.pos (by rw [e7, o7]) Ev.ret))))))
          · unfold Mo_canKeep_f
            rw [if_neg (by decide), if_neg (by decide), if_neg (by decide), if_pos rfl, su_n (by decide), o7]
            rfl
        · obtain ⟨k, hk⟩ : ∃ k, k = min 60 (N (σ 22 0)) := ⟨_, rfl⟩
          have eh := held3 h p hF o7 hk (x3 := x3) (x4 := x4)
          have q1 : ∀ {t1 t2 : xE} {a : Nat}, a < z → (xup (xup (rn D κ) z t1) (z + 1) t2) a = rn D κ a := fun {t1 t2 a} ha => by rw [xup_ne (by omega), xup_ne (by omega)]
          obtain ⟨t1, t2⟩ := rwT_is d k (fun i => Int32.toInt64 (σ 24 (3 * i))) τ
          refine row_fin h hF S hn (kd := 3) (Or.inl rfl) (k := k) (by omega) hd (f0 := it (wrI (fun i => σ 24 (3 * i))) 0 k (fun _ => 0)) (l0 := fun _ => 0) (fun e i hed hi => t2 _ _ (by omega)) (fun _ i hi => ?_) (fun t => absurd t (by decide)) (pre (by decide) eh (keep_tl (g03 (q1 l0)) ((q1 l9).trans c9) xup_eq (by omega) hd)) (keepR3 hd p.2.1 hk o7)
          rw [wrI_is _ k _ i hi, t1 i hi]
          obtain ⟨-, -, pp, p5, ep⟩ := p.2.2.2.2.2.1 i (by omega)
          refine ⟨rfl, ?_⟩
          rw [ep, J_int (by omega)]
          omega
      · rcases st_or σ x4 with ⟨j, hj, rfl⟩ | hx
        · have eh := held4 h p hF hj (x3 := x3)
          have q1 : ∀ {t1 t2 : xE} {a : Nat}, a < z → (xup (xup (rn D κ) z t1) (z + 1) t2) a = rn D κ a := fun {t1 t2 a} ha => by rw [xup_ne (by omega), xup_ne (by omega)]
          obtain ⟨t1, t2⟩ := rwT_is d 16 (fun i => Int32.toInt64 (σ 25 (25 * j + 5 * (i / 4) + i % 4))) τ
          refine row_fin h hF S hn (kd := 4) (Or.inr rfl) (k := 16) (by omega) hd (f0 := fun _ => 0) (l0 := it (wrL (fun i => Int32.toInt64 (κ 7 (2 * j + 2) ((i / 4) * 4 + i % 4)))) 0 16 (fun _ => 0)) (fun e i hed hi => t2 _ _ (by omega)) (fun t => absurd t (by decide)) (fun _ i hi => ?_) (pre (by decide) eh (keep_tl (g03 (q1 l0)) ((q1 l9).trans c9) xup_eq (by omega) hd)) (keepR4 hd p.2.1 hj)
          rw [wrL_is _ 16 _ i hi, t1 i hi]
          have ca := (p.2.2.2.2.2.1 j hj).1.2.2.2.2.2.2.2.1.1 (i / 4) (i % 4) (by omega) (by omega)
          rw [ca]
          show (σ 25 (25 * j + (5 * (i / 4) + i % 4))).toInt64 = _
          rw [show 25 * j + (5 * (i / 4) + i % 4) = 25 * j + 5 * (i / 4) + i % 4 by omega]
        · obtain ⟨s1, s2⟩ := PW.st_out (τ := τ) h p hx
          refine non (by decide) ?_ (fun n => ?_)
          · unfold Ti_heldOf_f
            exact Ev.neg (by decide) (Ev.neg (by decide) (Ev.neg (by decide) (Ev.ob (Ev.cn (a := some (D.1 1 0)) (by simp only [rd0 k0])) (Ev.obs (Ev.pos (rd1 k1).1 (Ev.ob ⟨0, fun n _ => s1 n⟩ (Ev.bn (Ev.oeN Ev.ret))))))))
          · unfold Mo_canKeep_f
            rw [if_neg (by decide), if_neg (by decide), if_neg (by decide), if_neg (by decide), if_pos rfl, s2 n]
            rfl
    · rw [if_neg hw] at b2
      refine SCo_no h hF S (r := -1) ?_ (keepRn hd (fun n => ?_))
      · unfold Ti_keep_f
        exact Ev.ob ⟨0, fun n _ => e1 n _⟩ (Ev.neg i10 (Ev.ob ⟨0, fun n _ => b2 n⟩ (Ev.pos rfl Ev.ret)))
      · unfold Mo_canKeep_f
        have ne : ∀ c : Int32, 0 ≤ c.toInt ∧ c.toInt ≤ 4 → ¬ (w = c) := fun c hc t => hw (by rw [t]; exact hc)
        rw [if_neg (ne 0 (by decide)), if_neg (ne 1 (by decide)), if_neg (ne 2 (by decide)), if_neg (ne 3 (by decide)), if_neg (ne 4 (by decide))]
  · refine SCo_no h hF S (r := -1) ?_ ?_
    · unfold Ti_keep_f
      exact Ev.ob ⟨0, fun n _ => e1 n _⟩ (Ev.pos rfl Ev.ret)
    · refine Ev.succ (fun n => Mo_keep_e0 n _ _ _ _ _ _ _ _) ?_
      unfold Mo_keep_t0
      exact Ev.bn (Ev.pos e2 Ev.ret)
end KP6

/-! THE HAND's calls: letGo, meet, hand -/
/-- a state's zone is good -/
def zOK (Z : Nat → Int32) : Prop := (∀ i j, i < 4 → j < 4 → fn 40605 (zi Z i j)) ∧ (∀ i, i < 4 → zi Z i i = 1) ∧ (∀ j, j < 4 → zi Z 0 j ≤ 1) ∧ (∀ l, l < 4 → tp l (nz Z)) ∧ ff 802 (nz Z)
def ZS (σ : mS) : Prop := ∀ k, k < N (σ 22 0) → zOK (fun x => σ 25 (25 * k + x))
theorem zOK_hN {Z : Nat → Int32} (h : zOK Z) (n : Nat) : hN n Z := by
  have hA := AN_is
  obtain ⟨a, b, c, d, e⟩ := h
  exact hI_of (M := 40605) (by omega) (by omega) (by omega) (by omega) (by omega) (by omega) a b c d e
theorem zOK_zs {σ : mS} {k : Nat} (h : zOK (fun x => σ 25 (25 * k + x))) : zsOk 40605 802 (zs (σ 25) k) := by
  obtain ⟨a, b, c, d, e⟩ := h
  refine ⟨fun i j hi hj _ => a i j hi hj, b, fun ⟨y, hy, hf⟩ => ?_⟩
  obtain ⟨w, hw, hl⟩ := e ⟨y, hy, by rw [nz_in _ hy.2 (by omega)]; exact hf⟩
  rw [nz_in _ hw.2 (by omega)] at hl
  exact ⟨w, hw, hl⟩
theorem ZS_su {σ : mS} (h : ZS σ) {s i : Nat} {v : Int32} (h1 : s ≠ 22) (h2 : s ≠ 25) : ZS (su σ s i v) := fun k hk => by
  rw [su_n (Ne.symm h1)] at hk
  have e : (fun x => su σ s i v 25 (25 * k + x)) = fun x => σ 25 (25 * k + x) := by funext x; rw [su_n (Ne.symm h2)]
  rw [e]
  exact h k hk
section HCall3
variable {D : kD} {κ : kS} {σ : mS} {τ : mL} {n : Nat}
theorem hfk_ku (κ : kS) (i : Nat) (v : Int32) : hfk κ (ku κ 8 0 i v) := fun a b _ _ h8 => kf_k h8
theorem LV_k8 (h : LV D κ) (i : Nat) (v : Int32) : LV D (ku κ 8 0 i v) := h.cg (kxd_kf (by decide) (by decide) (by decide) (fun t => absurd t (by decide))) (by show kf κ 8 0 _ 3 0 0 = κ 3 0 0; rw [kf_k (by decide)])
theorem loosen_e {ix : Nat} (h6 : kI D 6 ix) (he : κ 6 ix 2 = 1) {g : Option Nat} {x2 x3 x4 : Int32} : Ev (fun k => Zo_loosen_f k 0 (D.1 6 ix) g x2 x3 x4 (rn D κ)) (0, rn D κ) := by
  refine Ev.succ (fun k => Zo_loosen_e0 k _ _ _ _ _ _) ?_
  unfold Zo_loosen_t0
  refine Ev.ob (Ev.cn (a := (1 : Int32)) (by simp only [rd6 h6]; rw [he])) (Ev.neg (by decide) Ev.ret)
theorem letGo_h (hn : n < 512) (h : YW D κ σ) (H : HR n κ σ) (x y z : Int32) : HC D κ σ τ n (fun m => Ti_letGo_f m (D.1 0 0) x y z (rn D κ)) (fun m => Mo_letGo_f m x y z σ τ) := by
  have k0 := h.1.2.1 0 (by decide) (by decide) (by decide)
  have k8 := h.1.2.1 8 (by decide) (by decide) (by decide)
  have z1 := h.1.z1
  have b1 := fun m => isB m x 0 200 (rn D κ)
  have b2 := fun m => isB m y 0 200 (rn D κ)
  have b3 := fun m => isB m z 0 200 (rn D κ)
  have i1 := isN x 0 200 (u := 0) (v := 200) (by decide) (by decide)
  have i2 := isN y 0 200 (u := 0) (v := 200) (by decide) (by decide)
  have i3 := isN z 0 200 (u := 0) (v := 200) (by decide) (by decide)
  have z0 : (0 : Int32).toInt = 0 := by decide
  have s0 : (200 : Int32).toInt = 200 := by decide
  rw [z0, s0] at b1 b2 b3
  by_cases hx : 0 ≤ x.toInt ∧ x.toInt ≤ 200
  · rw [if_pos hx] at b1 i1
    by_cases hy : 0 ≤ y.toInt ∧ y.toInt ≤ 200
    · rw [if_pos hy] at b2 i2
      by_cases hw : 0 ≤ z.toInt ∧ z.toInt ≤ 200
      · rw [if_pos hw] at b3 i3
        obtain ⟨σ', e2, o⟩ := letGo_q (σ := σ) (τ := τ) H.1.1 hx hy hw
        obtain ⟨κ1, hκ1⟩ : ∃ κ1, κ1 = ku (ku (ku κ 8 0 1 x) 8 0 2 y) 8 0 3 z := ⟨_, rfl⟩
        have L1 : LV D κ1 := by rw [hκ1]; exact LV_k8 (LV_k8 (LV_k8 h.1 1 x) 2 y) 3 z
        have f1 : hfk κ κ1 := by rw [hκ1]; exact ((hfk_ku κ 1 x).tr (hfk_ku _ 2 y)).tr (hfk_ku _ 3 z)
        have g1 : ∀ b, b < 4 → κ1 8 0 b = g3 x y z b := fun b hb => by
          have e3 : κ1 8 0 = fu (fu (fu (κ 8 0) 1 x) 2 y) 3 z := by
            rw [hκ1]
            show kf (kf (kf κ 8 0 (fu (κ 8 0) 1 x)) 8 0 (fu (kf κ 8 0 (fu (κ 8 0) 1 x) 8 0) 2 y)) 8 0 (fu (kf (kf κ 8 0 (fu (κ 8 0) 1 x)) 8 0 (fu (kf κ 8 0 (fu (κ 8 0) 1 x) 8 0) 2 y) 8 0) 3 z) 8 0 = _
            rw [kf_e, kf_e, kf_e]
          rw [e3]
          have h0 := H.2
          have : b = 0 ∨ b = 1 ∨ b = 2 ∨ b = 3 := by omega
          rcases this with t | t | t | t <;> subst t
          · rw [fu_n (by decide), fu_n (by decide), fu_n (by decide), h0]; rfl
          · rw [fu_n (by decide), fu_n (by decide), fu_e]; rfl
          · rw [fu_n (by decide), fu_e]; rfl
          · rw [fu_e]; rfl
        have gok : ∀ i, i < 4 → 0 ≤ (κ1 8 0 i).toInt ∧ (κ1 8 0 i).toInt ≤ 200 := fun i hi => by
          rw [g1 i hi]
          unfold g3
          split
          · rw [z0]; omega
          · split
            · exact hx
            · split
              · exact hy
              · exact hw
        have q1 : kq κ1 1 = kq κ 1 := by
          have a : κ1 7 = κ 7 := by
            rw [hκ1]
            funext b
            exact ((kf_k (by decide)).trans (kf_k (by decide))).trans (kf_k (by decide))
          have c : κ1 6 = κ 6 := by
            rw [hκ1]
            funext b
            exact ((kf_k (by decide)).trans (kf_k (by decide))).trans (kf_k (by decide))
          unfold kq
          rw [a, c]
        have pre : ∀ R, Ev (fun m => obd (Zo_loosen_f m 0 (D.1 6 1) (some (D.1 8 0)) 0 0 0 (rn D κ1)) (fun r57 => obd (gq r57.2 (D.1 0 0) 4 1) (fun w58 => obd w58 (fun a63 => (if kc r57.2 (a63) 1 = true then obd (Zo_close_f m 0 (a63) 0 0 0 r57.2) (fun r64 => (if kc r64.2 (D.1 0 0) 4 = true then obd (Ti_handEmpty_f m (D.1 0 0) r64.2) (fun r65 => some (r65.1, r65.2)) else none)) else none))))) R → Ev (fun m => Ti_letGo_f m (D.1 0 0) x y z (rn D κ)) R := fun R e => by
          unfold Ti_letGo_f
          refine Ev.ob ⟨0, fun m _ => b1 m⟩ (Ev.neg i10 (Ev.ob ⟨0, fun m _ => b2 m⟩ (Ev.neg i10 (Ev.ob ⟨0, fun m _ => b3 m⟩ (Ev.neg i10 ?_)))))
          refine Ev.ob (Ev.cn (a := some (D.1 8 0)) (by simp only [rd0 k0])) (Ev.obs (Ev.ob (Ev.cn (krp8 h.1.1 k8 (show 1 < 4 by decide) x)) ?_))
          refine Ev.ob (Ev.cn (a := some (D.1 8 0)) (by simp only [rd0 k0])) (Ev.obs (Ev.ob (Ev.cn (krp8 h.1.1 k8 (show 2 < 4 by decide) y)) ?_))
          refine Ev.ob (Ev.cn (a := some (D.1 8 0)) (by simp only [rd0 k0])) (Ev.obs (Ev.ob (Ev.cn (krp8 h.1.1 k8 (show 3 < 4 by decide) z)) ?_))
          refine Ev.ob (Ev.cn (a := some (D.1 6 1)) (by simp only [rd0 k0])) (Ev.ob (Ev.cn (a := some (D.1 8 0)) (by simp only [rd0 k0])) (Ev.obs (Ev.pos (rd6 z1.1).1 ?_)))
          rw [← hκ1]
          exact e
        have r8 : κ1 8 0 0 = 0 := g1 0 (by decide)
        rcases H.1.1 with he | he
        · have r := qR_lt hn H.1 he gok
          rw [qlt_cg g1] at r
          have e6 : κ1 6 1 2 = 0 := by
            have := congrArg Prod.snd q1
            have t : (kq κ 1).2 = 0 := H.1.2.1.trans he
            rw [t] at this
            exact this
          have e7 : κ1 7 1 = κ 7 1 := congrArg Prod.fst q1
          have lo := zo_loosen L1.1 z1.1 z1.2 (κ := κ1) (show zn 1 = 4 from rfl) k8 rfl (by decide) (by decide) e6 (x2 := 0) (x3 := 0) (x4 := 0)
          rw [e7] at lo
          exact HC_cl H f1 r8 r o (pre _ (Ev.ob lo (tailK L1 _))) e2
        · have he' : (kq κ 1).2 = 1 := H.1.2.1.trans he
          have e6 : κ1 6 1 2 = 1 := by
            have := congrArg Prod.snd q1
            rw [he'] at this
            exact this
          have eq : qlt (g3 x y z) (hq σ) = hq σ := by
            unfold qlt
            rw [if_neg (by rw [he]; decide)]
          rw [eq] at o e2
          have t := tailC L1
          refine HC_cl H f1 r8 (q1 := kq κ1 1) (qR_dead ?_ he) o (pre _ (Ev.ob (loosen_e z1.1 e6) t)) e2
          rw [ccl_dead (show (kq κ1 1).2 = 1 from e6)]
          exact e6
      · rw [if_neg hw] at b3 i3
        refine HC_no H ?_ ?_
        · unfold Ti_letGo_f
          exact Ev.ob ⟨0, fun m _ => b1 m⟩ (Ev.neg i10 (Ev.ob ⟨0, fun m _ => b2 m⟩ (Ev.neg i10 (Ev.ob ⟨0, fun m _ => b3 m⟩ (Ev.pos rfl Ev.ret)))))
        · unfold Mo_letGo_f
          simp only [bnd]
          exact Ev.neg (by rw [i1]; decide) (Ev.neg (by rw [i2]; decide) (Ev.pos i3 Ev.ret))
    · rw [if_neg hy] at b2 i2
      refine HC_no H ?_ ?_
      · unfold Ti_letGo_f
        exact Ev.ob ⟨0, fun m _ => b1 m⟩ (Ev.neg i10 (Ev.ob ⟨0, fun m _ => b2 m⟩ (Ev.pos rfl Ev.ret)))
      · unfold Mo_letGo_f
        simp only [bnd]
        exact Ev.neg (by rw [i1]; decide) (Ev.pos i2 Ev.ret)
  · rw [if_neg hx] at b1 i1
    refine HC_no H ?_ ?_
    · unfold Ti_letGo_f
      exact Ev.ob ⟨0, fun m _ => b1 m⟩ (Ev.pos rfl Ev.ret)
    · unfold Mo_letGo_f
      simp only [bnd]
      exact Ev.pos i1 Ev.ret
theorem meet_h (hn : n < 512) (h : YW D κ σ) (p : PW κ σ) (H : HR n κ σ) (S : ZS σ) (x : Int32) : HC D κ σ τ n (fun m => Ti_meet_f m (D.1 0 0) x (rn D κ)) (fun m => Mo_meet_f m 0 x 0 σ τ) := by
  have k0 := h.1.2.1 0 (by decide) (by decide) (by decide)
  have k1 := h.1.k1
  have z1 := h.1.z1
  rcases st_or σ x with ⟨k, hk, rfl⟩ | hx
  · obtain ⟨s1, k19, s2⟩ := PW.st_in (τ := τ) h p hk
    have hk3 : k < N (κ 3 0 0) := by have := p.2.2.2.1; omega
    have zb := h.1.zb hk3
    obtain ⟨σ', e2, o⟩ := meet_q (σ := σ) (τ := τ) H.1.1 p.2.1 hk (x2 := 0)
    have sr := (p.2.2.2.2.2.1 k hk).1
    have r := qR_meet hn H.1 (k := k) sr.2.2.2.2.2.2.2.1.1 (zOK_zs (S k hk))
    refine HC_cl H (hfk.rf κ) H.2 r o ?_ e2
    unfold Ti_meet_f
    refine Ev.ob (Ev.cn (a := some (D.1 1 0)) (by simp only [rd0 k0])) (Ev.obs (Ev.pos (rd1 k1).1 (Ev.ob ⟨0, fun m _ => s1 m⟩ (Ev.bn (Ev.oeS ?_)))))
    refine Ev.ob (Ev.cn (a := some (D.1 6 1)) (by simp only [rd0 k0])) (Ev.ob (Ev.cn (a := some (D.1 6 (2 * k + 2))) (by simp only [rd19 k19.1])) (Ev.obs (Ev.pos (rd6 z1.1).1 ?_)))
    refine Ev.ob (zo_cut h.1.1 z1.1 z1.2 zb.1 zb.2 (by rw [zn_e]; rfl) (by omega)) ?_
    exact tailK h.1 _
  · obtain ⟨s1, s2⟩ := PW.st_out (τ := τ) h p hx
    refine HC_no H ?_ ?_
    · unfold Ti_meet_f
      exact Ev.ob (Ev.cn (a := some (D.1 1 0)) (by simp only [rd0 k0])) (Ev.obs (Ev.pos (rd1 k1).1 (Ev.ob ⟨0, fun m _ => s1 m⟩ (Ev.bn (Ev.oeN Ev.ret)))))
    · refine Ev.succ (fun m => Mo_meet_e0 m _ _ _ _) ?_
      unfold Mo_meet_t0
      simp only [bnd]
      exact Ev.ob ⟨0, fun m _ => s2 m⟩ (Ev.pos rfl Ev.ret)
end HCall3

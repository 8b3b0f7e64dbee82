/-! THE HAND's calls: class and reference -/
theorem i10 : ¬ ((1 : Int32) = 0) := by decide
theorem isB (n : Nat) (x a b : Int32) (h : xH) : Ti_isBetween_f n x a b h = some ((if a.toInt ≤ x.toInt ∧ x.toInt ≤ b.toInt then 1 else 0), h) := by
  unfold Ti_isBetween_f
  by_cases g : a.toInt ≤ x.toInt ∧ x.toInt ≤ b.toInt
  · rw [if_pos g, if_neg (by rw [i32_lt]; omega), if_neg (by rw [i32_lt]; omega)]
  · rw [if_neg g]
    by_cases q : x < a
    · rw [if_pos q]
    · rw [if_neg q, if_pos]
      rw [i32_lt] at q ⊢
      omega
theorem isCk (n : Nat) (x : Int32) (h : xH) : Ti_isClock_f n x h = some ((if 0 ≤ x.toInt ∧ x.toInt ≤ 3 then 1 else 0), h) := by
  have z : (0 : Int32).toInt = 0 := by decide
  have f : (4 : Int32).toInt = 4 := by decide
  unfold Ti_isClock_f
  by_cases g : 0 ≤ x.toInt ∧ x.toInt ≤ 3
  · rw [if_pos g, if_neg (by rw [i32_lt]; omega), if_neg (by rw [i32_le]; omega)]
  · rw [if_neg g]
    by_cases q : x < 0
    · rw [if_pos q]
    · rw [if_neg q, if_pos]
      rw [i32_lt] at q
      rw [i32_le]
      omega
/-- what a call of THE HAND leaves alone -/
def hfk (κ κ' : kS) : Prop := ∀ a b, ¬ (a = 6 ∧ b = 1) → ¬ (a = 7 ∧ b = 1) → a ≠ 8 → κ' a b = κ a b
def hsl : List Nat := [0, 15, 16, 17, 18, 19, 43, 44]
def HR (n : Nat) (κ : kS) (σ : mS) : Prop := qR n (kq κ 1) (hq σ) ∧ κ 8 0 0 = 0
theorem HR_mono {n m : Nat} {κ : kS} {σ : mS} (hm : n ≤ m) (h : HR n κ σ) : HR m κ σ := ⟨qR_mono hm h.1, h.2⟩
section HCall
variable {D : kD} {κ : kS} {σ : mS} {τ : mL} {n : Nat}
def HC (D : kD) (κ : kS) (σ : mS) (τ : mL) (n : Nat) (f : Nat → Option (Int32 × xH)) (g : Nat → Option (Int32 × mS × mL)) : Prop := ∃ r κ' σ', Ev f (r, rn D κ') ∧ Ev g (r, σ', τ) ∧ HR (n + 1) κ' σ' ∧ hfk κ κ' ∧ sx hsl σ' σ
theorem hfk.rf (κ : kS) : hfk κ κ := fun _ _ _ _ _ => rfl
theorem hfk_kz (κ : kS) (q : zQ) : hfk κ (kz κ 1 q) := fun a b h6 h7 h8 => by
  by_cases hb : b = 1
  · exact kz_k (fun t => h6 ⟨t, hb⟩) (fun t => h7 ⟨t, hb⟩)
  · exact kz_n hb
theorem hfk.tr {κ κ' κ'' : kS} (h : hfk κ κ') (g : hfk κ' κ'') : hfk κ κ'' := fun a b h6 h7 h8 => (g a b h6 h7 h8).trans (h a b h6 h7 h8)
theorem HC_no (H : HR n κ σ) {f : Nat → Option (Int32 × xH)} {g : Nat → Option (Int32 × mS × mL)} (e1 : Ev f (-1, rn D κ)) (e2 : Ev g (-1, su σ 0 0 0, τ)) : HC D κ σ τ n f g := by
  refine ⟨-1, κ, su σ 0 0 0, e1, e2, ⟨?_, H.2⟩, hfk.rf κ, sx.su _ _ _ (by decide)⟩
  rw [hq_su 0 0 (by decide) (by decide) (by decide)]
  exact qR_mono (Nat.le_succ n) H.1
theorem qR_hO {q' q : zQ} {σ' : mS} (h : qR n q' q) (o : hO σ q σ') : qR n q' (hq σ') := by
  obtain ⟨-, o1, o2⟩ := o
  obtain ⟨h1, h2, h3⟩ := h
  have e2 : (hq σ').2 = q.2 := o1
  refine ⟨by rw [e2]; exact h1, h2.trans e2.symm, fun t => ?_⟩
  rw [e2] at t
  obtain ⟨c, g⟩ := h3 t
  have e : ∀ i j, i < 4 → j < 4 → (hq σ').1 (5 * i + j) = q.1 (5 * i + j) := fun i j hi hj => by
    have l : 5 * i + j < 25 := by omega
    show (if 5 * i + j < 25 then σ' 43 (5 * i + j) else σ' 15 (5 * i + j)) = _
    rw [if_pos l]
    exact o2 _ l
  exact ⟨cagr_tr c (fun i j hi hj => (e i j hi hj).symm), hN_cg e g⟩
theorem handEmpty_e (k0 : kI D 0 0) (z1 : kI D 6 1) (n : Nat) : Ti_handEmpty_f n (D.1 0 0) (rn D κ) = some (hA (kq κ 1), rn D κ) := by
  unfold Ti_handEmpty_f hA kq
  simp only [obd, rd0 k0, rd6 z1]
  split <;> rfl
theorem tailC (h : LV D κ) : Ev (fun n => obd (gq (rn D κ) (D.1 0 0) 4 1) (fun w16 => obd w16 (fun a21 => (if kc (rn D κ) (a21) 1 = true then obd (Zo_close_f n 0 (a21) 0 0 0 (rn D κ)) (fun r22 => (if kc r22.2 (D.1 0 0) 4 = true then obd (Ti_handEmpty_f n (D.1 0 0) r22.2) (fun r23 => some (r23.1, r23.2)) else none)) else none)))) (hA (ccl 4 (kq κ 1)), rn D (kz κ 1 (ccl 4 (kq κ 1)))) := by
  have k0 := h.2.1 0 (by decide) (by decide) (by decide)
  have z1 := h.z1
  refine Ev.ob (Ev.cn (a := some (D.1 6 1)) (by simp only [rd0 k0])) (Ev.obs (Ev.pos (rd6 z1.1).1 ?_))
  have c := zo_close (κ := κ) h.1 z1.1 z1.2 (x1 := 0) (x2 := 0) (x3 := 0)
  rw [show zn 1 = 4 from rfl] at c
  refine Ev.ob c (Ev.pos (rd0 k0).1 ?_)
  have e := handEmpty_e (κ := kz κ 1 (ccl 4 (kq κ 1))) k0 z1.1
  rw [kz_q] at e
  exact Ev.ob ⟨0, fun n _ => e n⟩ Ev.ret
/-- a call that made q1 of THE HAND, then closes it -/
theorem HC_cl (H : HR n κ σ) {κ1 : kS} (h1 : hfk κ κ1) (h8 : κ1 8 0 0 = 0) {q1 q : zQ} (r : qR (n + 1) (ccl 4 q1) q) {σ' : mS} (o : hO σ q σ') {f : Nat → Option (Int32 × xH)} {g : Nat → Option (Int32 × mS × mL)} (e1 : Ev f (hA (ccl 4 q1), rn D (kz κ1 1 (ccl 4 q1)))) (e2 : Ev g (hA q, σ', τ)) : HC D κ σ τ n f g := by
  have ea : hA (ccl 4 q1) = hA q := by unfold hA; rw [r.2.1]
  rw [ea] at e1
  refine ⟨hA q, kz κ1 1 (ccl 4 q1), σ', e1, e2, ⟨?_, ?_⟩, h1.tr (hfk_kz κ1 _), o.1⟩
  · rw [kz_q]
    exact qR_hO r o
  · rw [kz_k (by decide) (by decide)]
    exact h8
theorem zo_narrow (hD : WD D) {ix : Nat} (h6 : kI D 6 ix) (h7 : kI D 7 ix) {i j : Nat} (hi : i < zn ix) (hj : j < zn ix) (x : Int32) (k : Nat) : Zo_narrow_f k (D.1 6 ix) (J i) (J j) x (rn D κ) = some (0, rn D (kz κ ix (fu (κ 7 ix) (i * zn ix + j) (if x < κ 7 ix (i * zn ix + j) then x else κ 7 ix (i * zn ix + j)), κ 6 ix 2))) := by
  have e := narrow_c (h := rn D κ) (f := κ 7 ix) (e := κ 6 ix 2) (kI_ne h6 h7 (by omega)) (zn_le ix).1 hi hj k x
  rw [rn_hz hD h6 h7 (fu (κ 7 ix) (i * zn ix + j) (if x < κ 7 ix (i * zn ix + j) then x else κ 7 ix (i * zn ix + j)), κ 6 ix 2), ← rn_is h6 h7] at e
  exact e
theorem zo_times (hD : WD D) {ix : Nat} (h6 : kI D 6 ix) (h7 : kI D 7 ix) {x1 : Int32} : Ev (fun k => Zo_becomeAllTimes_f k 0 (D.1 6 ix) x1 (rn D κ)) (0, rn D (kz κ ix (caz (zn ix) (κ 7 ix), 0))) := by
  have e := allTimes_c (h := rn D κ) (f := κ 7 ix) (e := κ 6 ix 2) (kI_ne h6 h7 (by omega)) (zn_le ix).1 (x1 := x1)
  rw [rn_hz hD h6 h7 (caz (zn ix) (κ 7 ix), 0), ← rn_is h6 h7] at e
  exact e
theorem zo_cut (hD : WD D) {ix : Nat} (h6 : kI D 6 ix) (h7 : kI D 7 ix) {iy : Nat} (h6' : kI D 6 iy) (h7' : kI D 7 iy) (hn : zn iy = zn ix) (hy : iy ≠ ix) {x2 x3 : Int32} : Ev (fun k => Zo_cutBy_f k 0 (D.1 6 ix) (some (D.1 6 iy)) x2 x3 (rn D κ)) (0, rn D (kz κ ix (cuz (zn ix) (κ 7 iy) (κ 7 ix), κ 6 ix 2))) := by
  have z2 : zoA (rn D κ) (D.1 6 iy) (D.1 7 iy) (zn ix) (κ 7 iy) (κ 6 iy 2) := by
    have := rn_zoA (κ := κ) h6' h7'
    rw [hn] at this
    exact this
  have e := cutBy_c (h := rn D κ) (f := κ 7 ix) (e := κ 6 ix 2) (kI_ne h6 h7 (by omega)) (zn_le ix).1 z2 (kI_ne h6' h6 (by omega)) (kI_ne h6' h7 (by omega)) (kI_ne h7' h6 (by omega)) (kI_ne h7' h7 (by omega)) (x2 := x2) (x3 := x3)
  rw [rn_hz hD h6 h7 (cuz (zn ix) (κ 7 iy) (κ 7 ix), κ 6 ix 2), ← rn_is h6 h7] at e
  exact e
theorem LV_kz (h : LV D κ) (q : zQ) : LV D (kz κ 1 q) := h.cg (kxd_kz κ 1 q) (by rw [kz_k (by decide) (by decide)])
theorem tailK (h : LV D κ) (q : zQ) : Ev (fun n => obd (gq (rn D (kz κ 1 q)) (D.1 0 0) 4 1) (fun w16 => obd w16 (fun a21 => (if kc (rn D (kz κ 1 q)) (a21) 1 = true then obd (Zo_close_f n 0 (a21) 0 0 0 (rn D (kz κ 1 q))) (fun r22 => (if kc r22.2 (D.1 0 0) 4 = true then obd (Ti_handEmpty_f n (D.1 0 0) r22.2) (fun r23 => some (r23.1, r23.2)) else none)) else none)))) (hA (ccl 4 q), rn D (kz κ 1 (ccl 4 q))) := by
  have e := tailC (LV_kz h q)
  rw [kz_q, kz_kz] at e
  exact e
theorem isN (x : Int32) (a b : Int64) {u v : Int} (ha : a.toInt = u) (hb : b.toInt = v) : Mo_isIn_f (Int32.toInt64 x) a b = if u ≤ x.toInt ∧ x.toInt ≤ v then 1 else 0 := by rw [isIn_is, ha, hb]
theorem pass_h (hn : n < 512) (h : YW D κ σ) (H : HR n κ σ) : HC D κ σ τ n (fun m => Ti_pass_f m (D.1 0 0) (rn D κ)) (fun m => Mo_pass_f m σ τ) := by
  have k0 := h.1.2.1 0 (by decide) (by decide) (by decide)
  have z1 := h.1.z1
  obtain ⟨σ', e2, o⟩ := pass_q (σ := σ) (τ := τ) H.1.1
  refine HC_cl H (hfk.rf κ) H.2 (qR_ps hn H.1) o ?_ e2
  unfold Ti_pass_f
  refine Ev.ob (Ev.cn (a := some (D.1 6 1)) (by simp only [rd0 k0])) (Ev.obs (Ev.pos (rd6 z1.1).1 ?_))
  refine Ev.ob (zo_elapse h.1.1 z1.1 z1.2) ?_
  exact tailK h.1 _
theorem set_h (hn : n < 512) (h : YW D κ σ) (H : HR n κ σ) (c : Int32) : HC D κ σ τ n (fun m => Ti_set_f m (D.1 0 0) c (rn D κ)) (fun m => Mo_set_f m c σ τ) := by
  have k0 := h.1.2.1 0 (by decide) (by decide) (by decide)
  have z1 := h.1.z1
  have b := fun m => isB m c 0 7 (rn D κ)
  have i := isN c 0 7 (u := 0) (v := 7) (by decide) (by decide)
  have z : (0 : Int32).toInt = 0 := by decide
  have s : (7 : Int32).toInt = 7 := by decide
  rw [z, s] at b
  by_cases hc : 0 ≤ c.toInt ∧ c.toInt ≤ 7
  · obtain ⟨σ', e2, o⟩ := set_q (σ := σ) (τ := τ) H.1.1 hc
    refine HC_cl H (hfk.rf κ) H.2 (qR_sn hn H.1 c) o ?_ e2
    rw [if_pos hc] at b
    unfold Ti_set_f
    refine Ev.ob ⟨0, fun m _ => b m⟩ (Ev.neg i10 ?_)
    refine Ev.ob (Ev.cn (a := some (D.1 6 1)) (by simp only [rd0 k0])) (Ev.obs (Ev.pos (rd6 z1.1).1 ?_))
    refine Ev.ob (zo_reset h.1.1 z1.1 z1.2) ?_
    exact tailK h.1 _
  · rw [if_neg hc] at b i
    refine HC_no H ?_ ?_
    · unfold Ti_set_f
      exact Ev.ob ⟨0, fun m _ => b m⟩ (Ev.pos rfl Ev.ret)
    · unfold Mo_set_f
      simp only [bnd]
      exact Ev.pos i Ev.ret
theorem mark_b (c x : Int32) (hx : x = 0 ∨ x = 1) (m : Nat) (H : xH) : Zo_mark_f m c x H = some (Mo_boundOf_f c x, H) := by
  unfold Zo_mark_f Mo_boundOf_f
  split <;> rfl
theorem bO_bd {c x : Int32} (hc : -400 ≤ c.toInt ∧ c.toInt ≤ 400) : -801 ≤ (Mo_boundOf_f c x).toInt ∧ (Mo_boundOf_f c x).toInt ≤ 801 := by
  have t : (2 : Int32).toInt = 2 := by decide
  have o : (1 : Int32).toInt = 1 := by decide
  have m : ((2 : Int32) * c).toInt = 2 * c.toInt := by
    rw [Int32.toInt_mul, t, Int.bmod_eq_of_le (by omega) (by omega)]
  unfold Mo_boundOf_f
  split
  · rw [Int32.toInt_add, m, o, Int.bmod_eq_of_le (by omega) (by omega)]
    omega
  · rw [m]
    omega
theorem tighten_h (hn : n < 512) (h : YW D κ σ) (H : HR n κ σ) (x y c b : Int32) (hb : b = 0 ∨ b = 1) : HC D κ σ τ n (fun m => Ti_tighten_f m (D.1 0 0) x y c b (rn D κ)) (fun m => Mo_tighten_f m x y c b σ τ) := by
  have k0 := h.1.2.1 0 (by decide) (by decide) (by decide)
  have z1 := h.1.z1
  have b1 := fun m => isCk m x (rn D κ)
  have b2 := fun m => isCk m y (rn D κ)
  have b3 := fun m => isB m c (-400) 400 (rn D κ)
  have i1 := isN x 0 3 (u := 0) (v := 3) (by decide) (by decide)
  have i2 := isN y 0 3 (u := 0) (v := 3) (by decide) (by decide)
  have i3 := isN c (-400) 400 (u := -400) (v := 400) (by decide) (by decide)
  have z : (-400 : Int32).toInt = -400 := by decide
  have s : (400 : Int32).toInt = 400 := by decide
  rw [z, s] at b3
  by_cases hx : 0 ≤ x.toInt ∧ x.toInt ≤ 3
  · rw [if_pos hx] at b1 i1
    by_cases hy : 0 ≤ y.toInt ∧ y.toInt ≤ 3
    · rw [if_pos hy] at b2 i2
      by_cases hxy : x = y
      · refine HC_no H ?_ ?_
        · unfold Ti_tighten_f
          exact Ev.ob ⟨0, fun m _ => b1 m⟩ (Ev.neg i10 (Ev.ob ⟨0, fun m _ => b2 m⟩ (Ev.neg i10 (Ev.pos hxy Ev.ret))))
        · unfold Mo_tighten_f
          simp only [bnd]
          exact Ev.neg (by rw [i1]; decide) (Ev.neg (by rw [i2]; decide) (Ev.pos hxy Ev.ret))
      · by_cases hc : -400 ≤ c.toInt ∧ c.toInt ≤ 400
        · rw [if_pos hc] at b3 i3
          have hi : x.toInt.toNat < 4 := by omega
          have hj : y.toInt.toNat < 4 := by omega
          have ex := J_ti hx.1
          have ey := J_ti hy.1
          have hij : x.toInt.toNat ≠ y.toInt.toNat := fun t => hxy (by rw [ex, ey, t])
          generalize x.toInt.toNat = i at ex hi hij
          generalize y.toInt.toNat = j at ey hj hij
          subst ex ey
          obtain ⟨σ', e2, o⟩ := tighten_q (σ := σ) (τ := τ) H.1.1 hi hj hij hc (x := b)
          refine HC_cl H (hfk.rf κ) H.2 (qR_tg hn H.1 hi hj hij (bO_bd hc)) o ?_ e2
          unfold Ti_tighten_f
          refine Ev.ob ⟨0, fun m _ => b1 m⟩ (Ev.neg i10 (Ev.ob ⟨0, fun m _ => b2 m⟩ (Ev.neg i10 (Ev.neg hxy (Ev.ob ⟨0, fun m _ => b3 m⟩ (Ev.neg i10 ?_))))))
          refine Ev.ob (Ev.cn (a := some (D.1 6 1)) (by simp only [rd0 k0])) (Ev.ob ⟨0, fun m _ => mark_b c b hb m (rn D κ)⟩ (Ev.obs (Ev.pos (rd6 z1.1).1 ?_)))
          refine Ev.ob ⟨0, fun m _ => zo_narrow h.1.1 z1.1 z1.2 (show i < zn 1 from hi) (show j < zn 1 from hj) _ m⟩ ?_
          exact tailK h.1 _
        · rw [if_neg hc] at b3 i3
          refine HC_no H ?_ ?_
          · unfold Ti_tighten_f
            exact Ev.ob ⟨0, fun m _ => b1 m⟩ (Ev.neg i10 (Ev.ob ⟨0, fun m _ => b2 m⟩ (Ev.neg i10 (Ev.neg hxy (Ev.ob ⟨0, fun m _ => b3 m⟩ (Ev.pos rfl Ev.ret))))))
          · unfold Mo_tighten_f
            simp only [bnd]
            exact Ev.neg (by rw [i1]; decide) (Ev.neg (by rw [i2]; decide) (Ev.neg hxy (Ev.pos i3 Ev.ret)))
    · rw [if_neg hy] at b2 i2
      refine HC_no H ?_ ?_
      · unfold Ti_tighten_f
        exact Ev.ob ⟨0, fun m _ => b1 m⟩ (Ev.neg i10 (Ev.ob ⟨0, fun m _ => b2 m⟩ (Ev.pos rfl Ev.ret)))
      · unfold Mo_tighten_f
        simp only [bnd]
        exact Ev.neg (by rw [i1]; decide) (Ev.pos i2 Ev.ret)
  · rw [if_neg hx] at b1 i1
    refine HC_no H ?_ ?_
    · unfold Ti_tighten_f
      exact Ev.ob ⟨0, fun m _ => b1 m⟩ (Ev.pos rfl Ev.ret)
    · unfold Mo_tighten_f
      simp only [bnd]
      exact Ev.pos i1 Ev.ret
end HCall

/-! the class's tryMove: the end of it, a new state -/
def tmN (n o a9 a7 : Nat) (y5 : Option Nat) (x2 x3 x4 x5 : Int32) (h : xH) (z : Nat) : Option (Int32 × xH × Nat × Nat) := (if kc h (o) 3 = true then obd (Ya_newState_f n (o) (some (a9)) h (z)) (fun r112 => oadd r112.2.2.1 r112.2.2.2 (bnd (r112.1) (fun w113 => obd w113 (fun a115 => obd (gq r112.2.1 (a115) 2 3) (fun w116 => obd (gq r112.2.1 (o) 3 11) (fun w121 => obd w116 (fun a126 => (if kc r112.2.1 (a126) 1 = true then obd (Zo_becomeAs_f n (a126) (w121) r112.2.1) (fun r127 => obd (gq r127.2 (a115) 2 4) (fun w128 => obd (gq r127.2 (a9) 2 4) (fun w133 => obd w128 (fun a138 => (if kc r127.2 (a138) 1 = true then obd (Zo_becomeAs_f n (a138) (w133) r127.2) (fun r139 => obd (gq r139.2 (a115) 2 4) (fun w140 => (if kc r139.2 (o) 3 = true then obd (Ya_follow_f n (o) (w140) (some (a7)) (y5) r139.2) (fun r145 => obd (gq r145.2 (a115) 2 4) (fun w146 => obd (Ya_leastTotal_f n (w146) r145.2) (fun r151 => obd (pf r151.2 (a115) 2 10 (.int (r151.1))) (fun h152 => obd (gq h152 (a115) 2 4) (fun w158 => (if kc h152 (o) 3 = true then obd (Ya_stay_f n (o) (w158) h152) (fun r163 => obd (gq r163.2 (a115) 2 2) (fun w164 => obd w164 (fun a169 => obd (pa r163.2 (a169) 0 ((0 : Int32)) (x2)) (fun h170 => obd (gq h170 (a115) 2 2) (fun w177 => obd w177 (fun a182 => obd (pa h170 (a182) 0 ((1 : Int32)) (x3)) (fun h183 => obd (gq h183 (a115) 2 2) (fun w190 => obd w190 (fun a195 => obd (pa h183 (a195) 0 ((2 : Int32)) (x4)) (fun h196 => obd (gq h196 (a115) 2 2) (fun w203 => obd w203 (fun a208 => obd (pa h196 (a208) 0 ((3 : Int32)) (x5)) (fun h209 => some ((1 : Int32), h209, 0, 0)))))))))))))) else none)))))) else none))) else none))))) else none)))))))) else none)
def tmC (n o a9 a7 : Nat) (y5 : Option Nat) (x2 x3 x4 x5 : Int32) (h : xH) (z : Nat) : Option (Int32 × xH × Nat × Nat) := (obd (gq h (o) 3 11) (fun w56 => obd (gq h (a9) 2 3) (fun w61 => obd w56 (fun a66 => (if kc h (a66) 1 = true then obd (Zo_becomeAs_f n (a66) (w61) h) (fun r67 => obd (gq r67.2 (o) 3 11) (fun w68 => (if kc r67.2 (o) 3 = true then obd (Ya_follow_f n (o) (w68) (some (a7)) (y5) r67.2) (fun r73 => obd (gq r73.2 (o) 3 11) (fun w74 => (if kc r73.2 (o) 3 = true then obd (Ya_stay_f n (o) (w74) r73.2) (fun r79 => obd (gq r79.2 (o) 3 11) (fun w80 => obd w80 (fun a85 => obd (gi r79.2 (a85) 1 2) (fun u86 => (if u86 = 0 then obd (gi r79.2 (a9) 2 7) (fun u92 => obd (pf r79.2 (a9) 2 7 (.int ((u92) + ((1 : Int32))))) (fun h97 => (if kc h97 (o) 3 = true then obd (Ya_letGreatGo_f n (o) h97) (fun r103 => (if kc r103.2 (o) 3 = true then obd (Ya_isCovered_f n 0 (o) 0 r103.2) (fun r104 => (if r104.1 = 0 then obd (gi r104.2 (o) 3 3) (fun u106 => (if u106 < (200 : Int32) then tmN n o a9 a7 y5 x2 x3 x4 x5 r104.2 z else some ((0 : Int32), r104.2, 0, 0))) else obd (gi r104.2 (a9) 2 8) (fun u233 => obd (pf r104.2 (a9) 2 8 (.int ((u233) + ((1 : Int32))))) (fun h238 => some ((1 : Int32), h238, 0, 0))))) else none)) else none))) else some ((1 : Int32), r79.2, 0, 0)))))) else none))) else none))) else none)))))
theorem Ev.oa0 {α : Type} {f : Nat → Option (α × xH × Nat × Nat)} {r : α} {h : xH} {a b : Nat} (e : Ev f (r, h, 0, 0)) : Ev (fun n => oadd a b (f n)) (r, h, a, b) := by
  have := Ev.oad (a := a) (b := b) e
  rw [Nat.zero_add, Nat.zero_add] at this
  exact this
theorem kz_o {κ : kS} {ix x y : Nat} {q : zQ} (h : ¬ ((x = 6 ∨ x = 7) ∧ y = ix)) : kz κ ix q x y = κ x y := by
  by_cases hy : y = ix
  · exact kz_k (fun t => h ⟨Or.inl t, hy⟩) (fun t => h ⟨Or.inr t, hy⟩)
  · exact kz_n hy
theorem cTk_Dx {D D' : kD} {κ : kS} {σ : mS} (h : YW D κ σ) (x : Dx D D') {v : Mv} (hv : mvE σ v) : D'.1 16 (12 * v.1 + v.2.1) = D.1 16 (12 * v.1 + v.2.1) ∧ cTk D' v = cTk D v := by
  obtain ⟨m, w, o⟩ := v
  refine ⟨(x.1 _ _ (h.k16 hv.1.1 hv.1.2).1).1, ?_⟩
  cases o with
  | none => rfl
  | some t =>
    have := hv.2 t rfl
    show some (D'.1 16 (12 * t.1 + t.2)) = some (D.1 16 (12 * t.1 + t.2))
    rw [(x.1 _ _ (h.k16 this.1 this.2).1).1]
def cmv (x2 x3 x4 x5 : Int32) : Nat → Int32 := fun i => if i = 0 then x2 else if i = 1 then x3 else if i = 2 then x4 else x5
section TN
variable {D : kD} {κ : kS} {σ : mS} {z k x : Nat}
theorem tmN_y (h : YW D κ σ) (hF : FZ D κ z) (hs : sml (κ 3 0 0) 200) (hnum : ∀ j, j < N (κ 3 0 0) → κ 19 j 0 = J j) {p : Nat → Nat} (hp : ∀ a, a < N (σ 1 0) → κ 5 0 a = J (p a) ∧ p a < N (σ 2 a)) (hx : κ 1 0 3 = J x) (hxb : x < 200) (hle : x ≤ N (κ 3 0 0)) (hk : k < x) {v : Mv} (hv : mvE σ v) (he0 : κ 6 0 2 = 0) (hek : κ 6 (2 * k + 3) 2 = 0) {x2 x3 x4 x5 : Int32} : ∃ D' κ' c s, Ev (fun n => tmN n (D.1 1 0) (D.1 19 k) (D.1 16 (12 * v.1 + v.2.1)) (cTk D v) x2 x3 x4 x5 (rn D κ) z) (1, rn D' κ', c, s) ∧ nwO D κ σ z x D' κ' c s ∧ (∀ kd ix, ¬ (kd = 1 ∧ ix = 0) → ¬ nid x kd ix → ¬ (kd = 19 ∧ ix = k) → κ' kd ix = κ kd ix) ∧ κ' 1 0 = fu (κ 1 0) 3 (J (x + 1)) ∧ κ' 19 k = fu (κ 19 k) 6 (κ 19 k 6 + 1) ∧ (∀ i, i < 3 → κ' 20 x i = κ 5 0 i) ∧ (∀ i, i < 4 → κ' 21 x i = cmv x2 x3 x4 x5 i) ∧ (κ' 19 x 0 = J x ∧ κ' 19 x 5 = J k ∧ κ' 19 x 9 = κ 19 k 9 + 1 ∧ κ' 19 x 6 = 0 ∧ κ' 19 x 7 = 0 ∧ κ' 19 x 8 = 0 ∧ κ' 19 x 11 = hlp σ p) ∧ ((∀ i, i < 16 → κ' 7 (2 * x + 2) i = κ 7 0 i) ∧ κ' 6 (2 * x + 2) 2 = 0) ∧ ∃ qe : zQ, (∀ i, i < 25 → qe.1 i = κ 7 (2 * k + 3) i) ∧ qe.2 = 0 ∧ kq κ' (2 * x + 3) = crunQ 5 (mvOps σ v p) qe ∧ κ' 19 x 10 = soonOf ((crunQ 5 (mvA σ v p) qe).1 4) := by
  obtain ⟨D', κn, c, s, ev, no, nf⟩ := newState_y h hF hs hnum hp hx hxb hle (par := some k) (fun j hj => by cases hj; exact hk)
  obtain ⟨dx, yw, fz, cs, sm', kn, mm, nums⟩ := no
  have k1 := h.1.k1
  have k1' := (dx.1 1 0 k1).2
  have a1 := (dx.1 1 0 k1).1
  have i19k := (h.1.2.2.2.2.1 k (by omega)).1
  have k19k := (dx.1 19 k i19k).2
  have a19 := (dx.1 19 k i19k).1
  have a16 := cTk_Dx h dx hv
  have hD := yw.1.1
  have lx := yw.1.2.2.2.2.1 x kn
  have zb := yw.1.zb kn
  have ze := yw.1.ze kn
  have z0 := yw.1.z0
  have zek := yw.1.ze (show k < N (κn 3 0 0) by omega)
  have nfr : ∀ kd ix, ¬ (kd = 1 ∧ ix = 0) → ¬ nid x kd ix → ¬ (kd = 19 ∧ ix = k) → κn kd ix = κ kd ix := fun kd ix n1 n2 n3 => nf.1 kd ix n1 n2 (fun j hj t => by cases hj; exact n3 t)
  have n60 : κn 6 0 = κ 6 0 := nfr 6 0 (by omega) (by unfold nid; omega) (by omega)
  have n70 : κn 7 0 = κ 7 0 := nfr 7 0 (by omega) (by unfold nid; omega) (by omega)
  have n6e : κn 6 (2 * k + 3) = κ 6 (2 * k + 3) := nfr 6 (2 * k + 3) (by omega) (by unfold nid; omega) (by omega)
  have n7e : κn 7 (2 * k + 3) = κ 7 (2 * k + 3) := nfr 7 (2 * k + 3) (by omega) (by unfold nid; omega) (by omega)
  have n50 : κn 5 0 = κ 5 0 := nfr 5 0 (by omega) (by unfold nid; omega) (by omega)
  have c1 := zo_as (κ := κn) hD zb.1 zb.2 z0.1 z0.2 (by rw [zn_e]; rfl) (by omega) (by rw [n60]; exact Or.inl he0)
  generalize hq1 : ((fun i => if i < zn (2 * x + 2) * zn (2 * x + 2) then κn 7 0 i else κn 7 (2 * x + 2) i, κn 6 0 2) : zQ) = q1 at c1
  have c2 := zo_as (κ := kz κn (2 * x + 2) q1) hD ze.1 ze.2 zek.1 zek.2 (by rw [zn_o, zn_o]) (by omega) (by rw [kz_n (by omega), n6e]; exact Or.inl hek)
  generalize hqe : ((fun i => if i < zn (2 * x + 3) * zn (2 * x + 3) then kz κn (2 * x + 2) q1 7 (2 * k + 3) i else kz κn (2 * x + 2) q1 7 (2 * x + 3) i, kz κn (2 * x + 2) q1 6 (2 * k + 3) 2) : zQ) = qe at c2
  have y2 := (yw.kz (2 * x + 2) q1).kz (2 * x + 3) qe
  have hp2 : ∀ (μ : kS), μ 5 0 = κ 5 0 → ∀ a, a < N (σ 1 0) → μ 5 0 a = J (p a) ∧ p a < N (σ 2 a) := fun μ e a ha => by rw [e]; exact hp a ha
  have f1 := follow_y y2 (hp2 _ (by rw [kz_k (by decide) (by decide), kz_k (by decide) (by decide), n50])) ze.1 ze.2 hv
  rw [kz_kz, kz_q, zn_o] at f1
  generalize hq2 : crunQ 5 (mvA σ v p) qe = q2 at f1
  have y3 := (yw.kz (2 * x + 2) q1).kz (2 * x + 3) q2
  have z5 := rn_zoA (κ := kz (kz κn (2 * x + 2) q1) (2 * x + 3) q2) ze.1 ze.2
  rw [zn_o] at z5
  have q27 : kz (kz κn (2 * x + 2) q1) (2 * x + 3) q2 7 (2 * x + 3) = q2.1 := congrArg Prod.fst (kz_q (kz κn (2 * x + 2) q1) (2 * x + 3) q2)
  rw [q27] at z5
  have y4 : YW D' (ku (kz (kz κn (2 * x + 2) q1) (2 * x + 3) q2) 19 x 10 (soonOf (q2.1 4))) σ := y3.kf (by decide) (by decide) (by decide) (by decide) (fun t => absurd t (by decide)) (by decide)
  have s1 := stay_y y4 (hp2 _ (by rw [ku_k (by decide), kz_k (by decide) (by decide), kz_k (by decide) (by decide), n50])) ze.1 ze.2
  have q4 : kq (ku (kz (kz κn (2 * x + 2) q1) (2 * x + 3) q2) 19 x 10 (soonOf (q2.1 4))) (2 * x + 3) = q2 := by
    unfold kq
    rw [ku_k (by decide), ku_k (by decide)]
    exact kz_q _ _ _
  rw [q4, zn_o, show crunQ 5 ((Sum.inr none : Op) :: limL σ p) q2 = crunQ 5 (mvOps σ v p) qe by rw [← hq2, mvOps_A, crunQ_app]] at s1
  let κ5 : kS := kz (ku (kz (kz κn (2 * x + 2) q1) (2 * x + 3) q2) 19 x 10 (soonOf (q2.1 4))) (2 * x + 3) (crunQ 5 (mvOps σ v p) qe)
  let κ9 : kS := ku (ku (ku (ku κ5 21 x 0 x2) 21 x 1 x3) 21 x 2 x4) 21 x 3 x5
  have fr : ∀ kd ix, ¬ ((kd = 6 ∨ kd = 7) ∧ (ix = 2 * x + 2 ∨ ix = 2 * x + 3)) → ¬ (kd = 19 ∧ ix = x) → ¬ (kd = 21 ∧ ix = x) → κ9 kd ix = κn kd ix := fun kd ix n1 n2 n3 => by
    show ku (ku (ku (ku (kz (ku (kz (kz κn (2 * x + 2) q1) (2 * x + 3) q2) 19 x 10 (soonOf (q2.1 4))) (2 * x + 3) (crunQ 5 (mvOps σ v p) qe)) 21 x 0 x2) 21 x 1 x3) 21 x 2 x4) 21 x 3 x5 kd ix = _
    rw [ku_n n3, ku_n n3, ku_n n3, ku_n n3, kz_o (by omega), ku_n n2, kz_o (by omega), kz_o (by omega)]
  have e19 : κ9 19 x = fu (κn 19 x) 10 (soonOf (q2.1 4)) := by
    show ku (ku (ku (ku (kz (ku (kz (kz κn (2 * x + 2) q1) (2 * x + 3) q2) 19 x 10 (soonOf (q2.1 4))) (2 * x + 3) (crunQ 5 (mvOps σ v p) qe)) 21 x 0 x2) 21 x 1 x3) 21 x 2 x4) 21 x 3 x5 19 x = _
    rw [ku_k (by decide), ku_k (by decide), ku_k (by decide), ku_k (by decide), kz_k (by decide) (by decide), ku_e, kz_k (by decide) (by decide), kz_k (by decide) (by decide)]
  have e21 : ∀ i, i < 4 → κ9 21 x i = cmv x2 x3 x4 x5 i := fun i hi => by
    show ku (ku (ku (ku κ5 21 x 0 x2) 21 x 1 x3) 21 x 2 x4) 21 x 3 x5 21 x i = _
    rw [ku_e, ku_e, ku_e, ku_e]
    unfold cmv
    have : i = 0 ∨ i = 1 ∨ i = 2 ∨ i = 3 := by omega
    rcases this with t | t | t | t <;> (rw [t]; rfl)
  have e67 : ∀ kd ix, kd = 6 ∨ kd = 7 → κ9 kd ix = κ5 kd ix := fun kd ix hh => by
    show ku (ku (ku (ku κ5 21 x 0 x2) 21 x 1 x3) 21 x 2 x4) 21 x 3 x5 kd ix = _
    rw [ku_k (by omega), ku_k (by omega), ku_k (by omega), ku_k (by omega)]
  have y9 : YW D' κ9 σ := ((((y4.kz (2 * x + 3) (crunQ 5 (mvOps σ v p) qe)).kf (by decide) (by decide) (by decide) (by decide) (fun t => absurd t (by decide)) (by decide)).kf (by decide) (by decide) (by decide) (by decide) (fun t => absurd t (by decide)) (by decide)).kf (by decide) (by decide) (by decide) (by decide) (fun t => absurd t (by decide)) (by decide)).kf (by decide) (by decide) (by decide) (by decide) (fun t => absurd t (by decide)) (by decide)
  have e3 : κ9 3 0 0 = κn 3 0 0 := by rw [fr 3 0 (by omega) (by omega) (by omega)]
  have x9 : kxd κn κ9 := by
    refine ⟨by rw [fr 1 0 (by omega) (by omega) (by omega)], by funext y; exact fr 9 y (by omega) (by omega) (by omega), fun m => fr 10 m (by omega) (by omega) (by omega), fun d => fr 22 d (by omega) (by omega) (by omega)⟩
  have hx19 : ∀ {i : Nat}, i ≠ 10 → κ9 19 x i = κn 19 x i := fun hi => by rw [e19, fu_n hi]
  refine ⟨D', κ9, c, s, ?_, ⟨dx, y9, fz.cg x9 e3, by rw [e3]; exact cs, by rw [e3]; exact sm', by rw [e3]; exact kn, by rw [e3]; exact mm, fun j hj => ?_⟩, fun kd ix n1 n2 n3 => ?_, ?_, ?_, fun i hi => ?_, e21, ?_, ⟨fun i hi => ?_, ?_⟩, qe, fun i hi => ?_, ?_, ?_, ?_⟩
  · unfold tmN
    refine Ev.pos (rd1 k1).1 ?_
    refine Ev.ob ev ?_
    dsimp only
    refine Ev.oa0 ?_
    rw [← a1, ← a19, ← a16.1, ← a16.2]
    simp only [bnd, obd, rd19 (κ := κn) lx.1, rd1 (κ := κn) k1', rd6 (κ := κn) zb.1, if_true, c1]
    simp only [rd19 (κ := kz κn (2 * x + 2) q1) lx.1, rd19 (κ := kz κn (2 * x + 2) q1) k19k, rd6 (κ := kz κn (2 * x + 2) q1) ze.1, if_true, c2]
    simp only [rd19 (κ := kz (kz κn (2 * x + 2) q1) (2 * x + 3) qe) lx.1, rd1 (κ := kz (kz κn (2 * x + 2) q1) (2 * x + 3) qe) k1', if_true]
    refine Ev.ob f1 ?_
    dsimp only
    simp only [rd19 (κ := kz (kz κn (2 * x + 2) q1) (2 * x + 3) q2) lx.1, leastTotal_c z5, rw19_10 hD lx.1, Nat.zero_mul, Nat.zero_add]
    simp only [rd19 (κ := ku (kz (kz κn (2 * x + 2) q1) (2 * x + 3) q2) 19 x 10 (soonOf (q2.1 4))) lx.1, rd1 (κ := ku (kz (kz κn (2 * x + 2) q1) (2 * x + 3) q2) 19 x 10 (soonOf (q2.1 4))) k1', if_true]
    refine Ev.ob s1 ?_
    dsimp only
    simp only [rd19 (x := x) lx.1, J0, J1, J2, J3, krp21 hD lx.2.2 (show 0 < 4 by decide), krp21 hD lx.2.2 (show 1 < 4 by decide), krp21 hD lx.2.2 (show 2 < 4 by decide), krp21 hD lx.2.2 (show 3 < 4 by decide)]
    exact Ev.ret
  · rw [e3] at hj
    by_cases g : j = x
    · rw [g, hx19 (by decide)]; exact nums x kn
    · rw [fr 19 j (by omega) (by omega) (by omega)]; exact nums j hj
  · rw [fr kd ix (by unfold nid at n2; omega) (by unfold nid at n2; omega) (by unfold nid at n2; omega)]
    exact nfr kd ix n1 n2 n3
  · rw [fr 1 0 (by omega) (by omega) (by omega)]
    exact nf.2.1
  · rw [fr 19 k (by omega) (by omega) (by omega)]
    exact nf.2.2.2.2 k rfl
  · rw [fr 20 x (by omega) (by omega) (by omega)]
    exact nf.2.2.1 i hi
  · rw [hx19 (by decide), hx19 (by decide), hx19 (by decide), hx19 (by decide), hx19 (by decide), hx19 (by decide), hx19 (by decide)]
    have t := nf.2.2.2.1
    have pk : parI κ (some k) = J k := hnum k (by omega)
    rw [pk] at t
    exact t
  · rw [e67 7 _ (Or.inr rfl)]
    show kz (ku (kz (kz κn (2 * x + 2) q1) (2 * x + 3) q2) 19 x 10 (soonOf (q2.1 4))) (2 * x + 3) (crunQ 5 (mvOps σ v p) qe) 7 (2 * x + 2) i = _
    rw [kz_n (by omega), ku_k (by decide), kz_n (by omega), show kz κn (2 * x + 2) q1 7 (2 * x + 2) = q1.1 from congrArg Prod.fst (kz_q κn (2 * x + 2) q1), ← hq1]
    show (if i < zn (2 * x + 2) * zn (2 * x + 2) then κn 7 0 i else κn 7 (2 * x + 2) i) = _
    rw [zn_e, if_pos (by omega), n70]
  · rw [e67 6 _ (Or.inl rfl)]
    show kz (ku (kz (kz κn (2 * x + 2) q1) (2 * x + 3) q2) 19 x 10 (soonOf (q2.1 4))) (2 * x + 3) (crunQ 5 (mvOps σ v p) qe) 6 (2 * x + 2) 2 = _
    rw [kz_n (by omega), ku_k (by decide), kz_n (by omega), show kz κn (2 * x + 2) q1 6 (2 * x + 2) 2 = q1.2 from congrArg Prod.snd (kz_q κn (2 * x + 2) q1), ← hq1]
    show κn 6 0 2 = 0
    rw [n60]
    exact he0
  · rw [← hqe]
    show (if i < zn (2 * x + 3) * zn (2 * x + 3) then kz κn (2 * x + 2) q1 7 (2 * k + 3) i else kz κn (2 * x + 2) q1 7 (2 * x + 3) i) = _
    rw [zn_o, if_pos (by omega), kz_n (by omega), n7e]
  · rw [← hqe]
    show kz κn (2 * x + 2) q1 6 (2 * k + 3) 2 = 0
    rw [kz_n (by omega), n6e]
    exact hek
  · unfold kq
    rw [e67 7 _ (Or.inr rfl), e67 6 _ (Or.inl rfl)]
    exact kz_q _ _ _
  · rw [e19, fu_e, hq2]
end TN

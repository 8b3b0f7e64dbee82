/-! THE CLAIM OUT OF ONE WALK OF THE LAW'S BODY. Your part is whole_start (and what it stands on); all else here is the same for every law, but numbers. -/
def R_law : String := "TimedYardLaw"
def lw_P (b : Addr) (xs : List Int32) (args : Array Value) (s : State) : Prop := args = #[.ref b] ∧ s.IntsAt b xs ∧ xs.length ≤ 3072 ∧ (Jvm.Cond.and given_1 narrow_1).before args s = true
def lw_Q (_ : Array Value) (s : State) (o : Outcome) (t : State) : Prop := o = .returned (some (.int 1)) ∧ Framed s o t [] 601024 7293034
def lw_Z (below : List Frame) (a : Array Value) (s : State) : State → Prop := fun t => ∃ o, t.status = .running ∧ Ended t below o ∧ lw_Q a s o t
/-- the law's own end, with 1 on the stack, nothing written that was there before, its room as the claim has it -/
theorem lw_ret {p : Program} {l : Launch} {e : Env} {s : State} {m : MethodId} {below : List Frame} {meth : Method} {c : Code} {b : Nat} (hx : p.tables.exec = Jvm.exec) (hb : c.code = code) (hr : meth.sig.returnType = ret) (hlocks : meth.locks = false) {pc : Nat} {H : Heap} {ls : Array Slot} (hdg : decode code pc = .ok (.ireturn, 1)) : W p l e room_1 s m #[Value.ref b] below meth c H [] 601024 7293034 (lw_Z below #[Value.ref b] s) (F0 m pc ls [.int 1]) := by
  intro T hT X
  obtain ⟨fs, hret, hrun, hended, hW, hframe⟩ := X.leave (v := some (.int 1)) (hlocks := hlocks) (fun h => by rw [hr] at h; cases h)
  have hmeth' : T.vm.method? m = some meth := X.method'
  refine ⟨T.setFrames fs, ?_, .returned (some (.int 1)), hrun, hended, rfl, ⟨_, rfl⟩, hW, hframe⟩
  jvm_step X.here [X.here.top, hx, hb, hdg, hmeth', hr, ret, narrow_b1]
  (try refine ⟨rfl, ?_⟩); (try refine ⟨rfl, ?_⟩)
  first | (intro acts; rw [hret _ acts rfl rfl rfl]) | rw [hret _ _ rfl rfl rfl]
  exact Steps.refl _
/-- what holds at the law's entry: the machine, the code, the tables' words (any of lw_tbl by 'hts w (by decide +kernel)'), the script of L ints xs at the cell b, what the Statement gives of the start (any of its parts by flat_of_before) -/
def lw_At (p : Program) (s : State) (m : MethodId) (meth : Method) (c : Code) (b L : Nat) (xs : Nat → Int32) : Prop :=
  p.tables.exec = Jvm.exec ∧ c.code = code ∧ meth.sig.returnType = ret ∧ c.maxLocals = 8 ∧ s.vm.findClass R_law = some m.cls ∧ (∀ w ∈ lw_tbl, w.before #[Value.ref b] s = true) ∧ va_X b L xs s s.heap ∧ b < s.heap.size ∧ meth.locks = false ∧ (Jvm.Cond.and given_1 narrow_1).before #[Value.ref b] s = true
theorem nwL_8 : Cond.classLink RL 8 RTi ∈ xtbl ∧ Cond.instantiable RTi 4 ∈ xtbl ∧ Cond.initialized RTi ∈ xtbl := ⟨mem_x 70 (by decide +kernel) (by decide +kernel), mem_x 71 (by decide +kernel) (by decide +kernel), mem_x 49 (by decide +kernel) (by decide +kernel)⟩
theorem nwL_26 : Cond.classLink RL 26 RMo ∈ xtbl ∧ Cond.instantiable RMo 52 ∈ xtbl ∧ Cond.initialized RMo ∈ xtbl := ⟨mem_x 877 (by decide +kernel) (by decide +kernel), mem_x 878 (by decide +kernel) (by decide +kernel), mem_x 53 (by decide +kernel) (by decide +kernel)⟩
theorem wLi_25 : xI RL 25 yTi_init cTi_init 1 0 := ⟨mem_x 74 (by decide +kernel) (by decide +kernel), mem_x 49 (by decide +kernel) (by decide +kernel), mem_x 72 (by decide +kernel) (by decide +kernel), mem_x 73 (by decide +kernel) (by decide +kernel), rfl, by decide +kernel⟩
theorem wLi_28 : xI RL 28 yMo_init cMo_init 2 0 := ⟨mem_x 881 (by decide +kernel) (by decide +kernel), mem_x 53 (by decide +kernel) (by decide +kernel), mem_x 879 (by decide +kernel) (by decide +kernel), mem_x 880 (by decide +kernel) (by decide +kernel), rfl, by decide +kernel⟩
theorem mI_def (z : Nat) : ∀ j, j < 52 → defaultValue (tyMo j) = vp_V (mI z 0) j := by
  intro j hj
  rcases (show j = 0 ∨ j = 1 ∨ j = 2 ∨ j = 3 ∨ j = 4 ∨ j = 5 ∨ j = 6 ∨ j = 7 ∨ j = 8 ∨ j = 9 ∨ j = 10 ∨ j = 11 ∨ j = 12 ∨ j = 13 ∨ j = 14 ∨ j = 15 ∨ j = 16 ∨ j = 17 ∨ j = 18 ∨ j = 19 ∨ j = 20 ∨ j = 21 ∨ j = 22 ∨ j = 23 ∨ j = 24 ∨ j = 25 ∨ j = 26 ∨ j = 27 ∨ j = 28 ∨ j = 29 ∨ j = 30 ∨ j = 31 ∨ j = 32 ∨ j = 33 ∨ j = 34 ∨ j = 35 ∨ j = 36 ∨ j = 37 ∨ j = 38 ∨ j = 39 ∨ j = 40 ∨ j = 41 ∨ j = 42 ∨ j = 43 ∨ j = 44 ∨ j = 45 ∨ j = 46 ∨ j = 47 ∨ j = 48 ∨ j = 49 ∨ j = 50 ∨ j = 51 by omega) with rfl | rfl | rfl | rfl | rfl | rfl | rfl | rfl | rfl | rfl | rfl | rfl | rfl | rfl | rfl | rfl | rfl | rfl | rfl | rfl | rfl | rfl | rfl | rfl | rfl | rfl | rfl | rfl | rfl | rfl | rfl | rfl | rfl | rfl | rfl | rfl | rfl | rfl | rfl | rfl | rfl | rfl | rfl | rfl | rfl | rfl | rfl | rfl | rfl | rfl | rfl | rfl <;> rfl
section WS0
variable {F : xF} {G : xG} {B : Nat} {Y : Nat → Nat} {b L : Nat} {xs : Nat → Int32} {Q : State → Prop}
set_option maxHeartbeats 4000000 in
theorem law_x (E : LW F G B Y b L xs) (hend : ∀ (h : xH) (z : Nat) (lv : List (Nat × Value)), X F G B Q 8 h z 601024 7293034 1381 lv []) : X F G B Q 8 (fun _ => none) B 0 0 0 [(0, .ref b)] [] := by
  have C := E.1
  refine X_new (fs := [.null, .null, .null, .null]) C oTi nwL_8 (fun j hj => by rcases (show j = 0 ∨ j = 1 ∨ j = 2 ∨ j = 3 by omega) with rfl | rfl | rfl | rfl <;> rfl) (by decide) (by decide) dL_law_0 (fun _ _ => ?_)
  refine X_dup C dL_law_3 rfl ?_
  obtain ⟨n1, e1⟩ := (tiinit (h := fun _ => none) (o := B) (z := B + 1) (by omega)).get
  refine X_callIa (As := []) (rest := [.ref B]) C (Ti_init_c e1) wLi_25 ⟨by decide, by decide⟩ ⟨(show 0 + 1 + 11 ≤ 601024 by decide), (show 0 + 4 + 272 ≤ 7293034 by decide)⟩ rfl rfl (Nat.le_of_ble_eq_true rfl) dL_law_4 ?_
  refine X_astore_n (lv' := [(1, .ref B), (0, .ref b)]) C dL_law_7 (by decide) rfl ?_
  refine X_wid (cs' := 12) (ss' := 276) (show 0 + 1 + 11 ≤ 12 by decide) (show 0 + 4 + 272 ≤ 276 by decide) ?_
  have eR := tH_rn (o := B) (z := B + 1) (by omega)
  have P0 := PR_0 (o := B) (z := B + 1) (by omega)
  show X F G B Q 8 (tH (fun _ => none) B (B + 1)) (B + 12) 12 276 8 [(1, .ref B), (0, .ref b)] []
  refine X_new (fs := mI (B + 13) 0) C oMo nwL_26 (mI_def _) (by decide) (by decide) dL_law_8 (fun _ _ => ?_)
  refine X_dup C dL_law_11 rfl ?_
  refine X_callI (As := []) (rest := [.ref (B + 12)]) (P := miP (xup (tH (fun _ => none) B (B + 1)) (B + 12) (.inr (0, mI (B + 13) 0))) (B + 12) (B + 13)) C (mi_con xup_eq (by omega)) wLi_28 ⟨by decide, by decide⟩ ⟨by decide, by decide⟩ rfl rfl (Nat.le_of_ble_eq_true rfl) dL_law_12 (fun v h2 z2 q2 => ?_)
  obtain ⟨rfl, hM, rfl⟩ := q2
  refine X_astore_n (lv' := [(2, .ref (B + 12)), (1, .ref B), (0, .ref b)]) C dL_law_15 (by decide) rfl ?_
  refine X_wid (cs' := 49) (ss' := 14189) (by decide) (by decide) ?_
  refine X_iconst C (v := 1) dL_law_16 (by decide) ?_
  refine X_newa (k := 1) (N := 1) (ty := .long) (a0 := (1, .inr (.inl (fun _ => 0)))) C rfl na_long (fun _ => rfl) (by decide) (by decide) (by decide) (by decide) (by decide) dL_law_17 (fun _ _ => ?_)
  refine X_astore_n (lv' := [(3, .ref (B + 13 + 36)), (2, .ref (B + 12)), (1, .ref B), (0, .ref b)]) C dL_law_19 (by decide) rfl ?_
  refine X_iconst C (v := J (6 * 0)) dL_law_20 (by decide) ?_
  refine X_istore (lv' := [(4, .int (J (6 * 0))), (3, .ref (B + 13 + 36)), (2, .ref (B + 12)), (1, .ref B), (0, .ref b)]) C dL_law_21 (by decide) rfl ?_
  refine X_sub (lv' := lvL b B (B + 12) (B + 13 + 36) 0) [4, 3, 2, 1, 0] rfl ?_
  have hne : B + 13 + 36 ≠ B + 12 ∧ ∀ k p, mk k = some p → B + 13 + 36 ≠ B + 13 + mJ k := ⟨by omega, fun k p hk => by
    have f := (mJ_f k (mk_52 hk) (by rw [hk]; rfl)).1
    omega⟩
  have h25 : ∀ a q, (d0 B (B + 1)).2.1 a = some q → q.1 < 25 := fun a q hq => by
    rcases dI0_inv (by omega) hq with ⟨-, h⟩ | ⟨i, hi, -, h⟩
    · rw [h]; decide
    · rw [h]
      have c : i = 0 ∨ i = 1 ∨ i = 2 ∨ i = 3 ∨ i = 4 ∨ i = 5 ∨ i = 6 ∨ i = 7 ∨ i = 8 ∨ i = 9 ∨ i = 10 := by omega
      rcases c with rfl | rfl | rfl | rfl | rfl | rfl | rfl | rfl | rfl | rfl | rfl <;> decide
  have inR : ∀ a, rfc (B + 12) (fun k => B + 13 + mJ k) (B + 13 + 36) a → B + 12 ≤ a ∧ a < B + 50 := fun a ha => by
    rcases ha with h | ⟨k, p, hk, h⟩ | h
    · omega
    · have f := (mJ_f k (mk_52 hk) (by rw [hk]; rfl)).1
      have h' : a = B + 13 + mJ k := h
      omega
    · omega
  have outR : ∀ a, ¬ rfc (B + 12) (fun k => B + 13 + mJ k) (B + 13 + 36) a → ¬ (B + 12 ≤ a ∧ a < B + 50) := fun a na t => by
    apply na
    by_cases h1 : a = B + 12
    · exact Or.inl h1
    · by_cases h2 : a = B + 13 + 36
      · exact Or.inr (Or.inr h2)
      · have hj : a - (B + 13) < 36 := by omega
        obtain ⟨q1, q2, q3⟩ := mQ_f (a - (B + 13)) hj
        refine Or.inr (Or.inl ⟨_, _, q3, ?_⟩)
        show a = B + 13 + mJ (mQ (a - (B + 13))).1
        rw [q1]
        omega
  have hH : ∀ a, a ≠ B + 13 + 36 → xup h2 (B + 13 + 36) (.inl (1, 1, .inr (.inl (fun _ => 0)))) a = h2 a := fun a ha => xup_ne ha
  have hM3 : Mo (B + 12, fun k => B + 13 + mJ k, xup h2 (B + 13 + 36) (.inl (1, 1, .inr (.inl (fun _ => 0)))), B + 50) sI t0 (xup h2 (B + 13 + 36) (.inl (1, 1, .inr (.inl (fun _ => 0))))) := Mo_w (h := h2) (z := B + 50) ⟨hM.1, hM.2.1, hM.2.2.1, fun _ _ _ => rfl⟩ hH hne
  have P1 : PR 0 (rgD (d0 B (B + 1)) (B + 12) (B + 50)) k0S sI t0 (B + 50) := rgD_PR P0 h25 (by omega)
  have I : LI 0 B (B + 12) (fun k => B + 13 + mJ k) (B + 13 + 36) _ k0S sI t0 _ (B + 50) := LI_fin P1 (rgD_A (by decide)) hM3 ⟨_, xup_eq⟩ (fun a ha => ⟨rgD_A25 a, rgD_k25 (inR a ha).1 (inR a ha).2⟩) hne (fun a na => by
    have n1 := outR a na
    rw [rgD_rn h25 n1, ← eR, hH a (fun t => na (Or.inr (Or.inr t)))]
    have e2 : h2 a = xup (tH (fun _ => none) B (B + 1)) (B + 12) (.inr (0, mI (B + 13) 0)) a := hM.2.2.2 a (fun t => na (Or.inl t)) (fun k p hk t => na (Or.inr (Or.inl ⟨k, p, hk, t⟩)))
    rw [e2, xup_ne (fun t => na (Or.inl t))])
  exact law_loop E hend 513 0 _ k0S sI t0 _ (B + 50) 50 14190 (by decide) I (by decide) (by decide)
end WS0
/-- from the entry, for every script of at most 3072 ints, the law comes to its end with true -/
theorem whole_start {p : Program} {e : Env} {s : State} {m : MethodId} {below : List Frame} {meth : Method} {c : Code} (l : Launch) (hst : l.stackTraces = false) {b L : Nat} {xs : Nat → Int32} (hL : L ≤ 3072) (C0 : lw_At p s m meth c b L xs) : W p l e room_1 s m #[Value.ref b] below meth c s.heap [] 0 0 (lw_Z below #[Value.ref b] s) (entryFrame m ([Value.ref b] : List Value).toArray 8) := by
  obtain ⟨hx, hb, hr, hml, hown, hts, hX, hbl, hlocks, hgv⟩ := id C0
  obtain ⟨G, hK⟩ := xK_of hts hgv
  obtain ⟨Y, hY⟩ := yK_of hts hgv
  have C : xC (p, l, e, room_1, s, m, #[Value.ref b], below, meth, c) G s.heap.size cL_law RL 8 13 518 601024 7293034 := ⟨hx, hb, hml, hown, fun w hw => hts w (x_sub w hw), hK, Nat.le_refl _, hlocks, rfl⟩
  have E : LW (p, l, e, room_1, s, m, #[Value.ref b], below, meth, c) G s.heap.size Y b L xs := ⟨C, hY, hX, hbl, rfl, hst, hL⟩
  have hl := lv_entry ([.ref b]) (n := 8) (Nat.le_of_ble_eq_true rfl)
  rw [lg_entry_eq]
  refine law_x (Q := lw_Z below #[Value.ref b] s) E (fun h z lv => ?_) s.heap [] _ rfl (fun a e h => by cases h) va_S.rf hl
  refine X_iconst C (v := 1) dL_law_1381 (by decide) ?_
  intro H locs ls hz hR hS hl
  exact va_forget (fun q hq => hS.2.2 q hq) (lw_ret hx hb hr hlocks dL_law_1382)
set_option maxHeartbeats 4000000 in
theorem lw_walk (l : Launch) (hst : l.stackTraces = false) (b : Addr) (xs : List Int32) : MetFree l x (headSpec (Jvm.Cond.code x code maxLocals ret :: tables_1) room_1) (lw_P b xs) (fun _ _ _ _ _ => True) lw_Q := by
  refine MetFree.of_bodyS (code := code) (maxLocals := maxLocals) (ret := ret) (by decide) ?_ ?_
  · intro args s m h hn
    obtain ⟨meth, c, h1, h2, h3, h4, h5, h6, -, -⟩ := Cond.code_spec hn (atoms_spec (ws := Jvm.Cond.code x code maxLocals ret :: tables_1) h _ List.mem_cons_self)
    exact ⟨meth, c, h1, h2, h3, h4, h5, h6⟩
  · intro p e s m args below meth c s₁ B hml0 hP _
    obtain ⟨rfl, hx, hbd, hgv⟩ := hP
    obtain ⟨scr, harrAt, hlist, hof, hsmall⟩ := hx
    obtain ⟨hcb, hkn, -, -⟩ := State.arrayAt?_spec harrAt
    have hown : s.vm.findClass R_law = some m.cls := findClass_of_methodNamed B.named
    have hts0 : ∀ c ∈ (Jvm.Cond.code x code maxLocals ret :: tables_1), c.before #[Value.ref b] s = true := atoms_spec (ws := Jvm.Cond.code x code maxLocals ret :: tables_1) B.pre
    have hts : ∀ w ∈ lw_tbl, w.before #[Value.ref b] s = true := k2_hts_sels lw_privs (fun w hw => hts0 w (List.mem_cons_of_mem _ hw)) lw_privs_ok
    have hml : c.maxLocals = 8 := B.maxLocals_eq (hts0 _ List.mem_cons_self)
    have X₀ : Stand p l e room_1 s m #[Value.ref b] below meth c s₁ [] 0 0 := Stand.of_body B
    have hh0 : s₁.heap = s.heap := by rw [B.state]; rfl
    have hsz : scr.slots.size = xs.length := by rw [← Array.length_toList, hlist, List.length_map]
    have hval : ∀ j : Nat, j < xs.length → scr.slots[j]? = some (.int (xs.getD j 0)) := fun j hj => by
      rw [← Array.getElem?_toList, hlist]
      simp [hj]
    have hbl : b < s.heap.size := (Array.getElem?_eq_some_iff.mp hcb).1
    have hX : va_X b xs.length (fun j => xs.getD j 0) s s.heap := ⟨scr, hcb, hof, hkn, hsz, hval⟩
    have K : W p l e room_1 s m #[Value.ref b] below meth c s₁.heap [] 0 0 (lw_Z below #[Value.ref b] s) (entryFrame m ([Value.ref b] : List Value).toArray 8) := by
      rw [hh0]
      exact whole_start l hst hbd ⟨B.exec, B.bytes, B.returns, hml, hown, hts, hX, hbl, B.notSynchronized, hgv⟩
    obtain ⟨t, a1, o, b1, b2, b3⟩ := K s₁ rfl X₀
    exact ⟨t, o, a1, b1, b2, b3⟩
theorem lw_pre_spec {args : Array Value} {s : State} (h : (Jvm.Cond.and given_1 narrow_1).before args s = true) (hr : rest_1_c.before args s = true) : ∃ (b : Addr) (xs : List Int32), lw_P b xs args s := by
  have hs := flat_of_before _ h
  have hq := flat_of_before _ hr
  have hc : (Cond.count 1).before args s = true := hs _ (by decide +kernel)
  have harr : (Cond.arrayOf (.arg 0) .int).before args s = true := hs _ (by decide +kernel)
  have hle : (Cond.le (.length (.arg 0)) (.int 3072)).before args s = true := hs _ (by decide +kernel)
  have hlen : (Cond.isInt (.length (.arg 0))).before args s = true := hq _ (by decide +kernel)
  have hall : (Cond.all (.arg 0) (.isInt (.elem (.arg 0) (.index 0)))).before args s = true := hq _ (by decide +kernel)
  obtain ⟨b, xs, hb, hx⟩ := State.ints_of_pre rfl harr hlen hall
  have hsm : xs.length < 2 ^ 31 := hx.choose_spec.2.2.2
  have hev : (Term.length (.arg 0)).eval args s none [] s = some (.int xs.length.toInt32) := hx.length_eval hb
  have hv := Cond.le_ints hev (show (Term.int 3072).eval args s none [] s = some (.int 3072) from rfl)
  have hd : xs.length.toInt32 ≤ 3072 := by
    simpa [Cond.before, Cond.holds, hv] using hle
  have hN : xs.length ≤ 3072 := (Int32.ofNat_le_ofNat hsm (by decide)).mp (show Int32.ofNat xs.length ≤ Int32.ofNat 3072 from hd)
  exact ⟨b, xs, Cond.one_arg hc (show args[0]? = some (.ref b) from hb), hx, hN, h⟩
theorem lw_comes (l : Launch) (hst : l.stackTraces = false) : Comes l x (Jvm.Cond.code x code maxLocals ret :: tables_1) room_1 (fun tb e args s => Calls_1 tb e args s ∧ rest_1 tb e args s ∧ Pre_1 tb e args s)
    (fun _ _ args s o t => lw_Q args s o t) := by
  intro p e ha hc hk s m args below hf hfit hheap happ hpre
  obtain ⟨b, xs, hP⟩ := lw_pre_spec hpre.2.2 hpre.2.1
  obtain ⟨k, o, h1, h2, h3, hQ⟩ := lw_walk l hst b xs p e ha hc hk s m args below hf ((Spec.applies_iff_loose hf).mp happ).1 hP trivial
  exact ⟨k, o, h1, h2, h3, hQ⟩
theorem lw_frame {s t : State} {o : Outcome} {args : Array Value} (h : Framed s o t [] 601024 7293034) :
    Framed s o t (fieldLocs frame_1_writes args s ++ arrayLocs frame_1_arrays args s ++ staticLocs frame_1_statics s) 601024 7293034 := h
theorem lw_limb (L : Cond) (hL : ∀ (args : Array Value) (s t : State), L.after args s (.returned (some (.int 1))) t = true) :
    ArmFor flags0 classFile x code maxLocals ret World_1 tables_1 room_1 Calls_1 rest_1 Pre_1
      (fun tb e a s o t => postC L tb e a s o t ∧ Framed s o t (fieldLocs frame_1_writes a s ++ arrayLocs frame_1_arrays a s ++ staticLocs frame_1_statics s) 601024 7293034) := by
  intro l hfl _ _ p e ha hc hk s m args below hf hfit hheap happ hpre
  have hst : l.stackTraces = false := by
    unfold Launch.stackTraces
    rw [hfl]
    decide +kernel
  obtain ⟨k, o, h1, h2, h3, rfl, hF⟩ := lw_comes l hst p e ha hc hk s m args below hf hfit hheap happ hpre
  exact ⟨k, _, h1, h2, h3, hL args s _, lw_frame hF⟩
theorem i_vc : Claimed_1_1 ∧ Claimed_1_2 := ⟨lw_limb limb_1_1 (fun args s t => by simp [limb_1_1, Cond.after, Cond.holds, Cond.value]), lw_limb limb_1_2 (fun args s t => Cond.after_iff.mpr (by
  first | (rw [show limb_1_2 = Cond.eq .result (.int 1) from rfl, Cond.eq_ints (x := 1) (y := 1) rfl rfl]; simp; done) | (simp [limb_1_2, Cond.value, Term.eval]; done)))⟩

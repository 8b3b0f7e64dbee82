/-! calls of methods that may throw or know of throws, of abstract methods; 'throw new' -/
def xSW (own : String) (idx : Nat) (y : MethodName) (cc : ByteArray) (nL : Nat) (ret : Option FieldType) (hh : List (Nat × Nat × Nat × Nat)) (n : Nat) : Prop := Cond.codeWith y cc nL ret hh ∈ xtbl ∧ Cond.initialized y.cls ∈ xtbl ∧ Cond.methodLink own idx y ∈ xtbl ∧ Cond.static y ∈ xtbl ∧ (y.cls ≠ "java/lang/invoke/MethodHandle" ∧ y.cls ≠ "java/lang/invoke/VarHandle" ∧ (parseMethodDescriptor y.desc).map (fun d => d.parameters.length) = some n)
def xU (own : String) (idx : Nat) (Cn : String) (x y : MethodName) (cc : ByteArray) (nL : Nat) (ret : Option FieldType) (n : Nat) : Prop := Cond.code y cc nL ret ∈ xtbl ∧ Cond.initialized y.cls ∈ xtbl ∧ Cond.methodLink own idx x ∈ xtbl ∧ Cond.instanceMethod y ∈ xtbl ∧ Cond.selects Cn x y ∈ xtbl ∧ Cond.sameMethod x.cls x.cls x.name x.desc ∈ xtbl ∧ Cond.declares ⟨x.cls, x.name, x.desc⟩ ∈ yW ∧ (x.cls ≠ "java/lang/invoke/MethodHandle" ∧ x.cls ≠ "java/lang/invoke/VarHandle" ∧ (parseMethodDescriptor x.desc).map (fun d => d.parameters.length) = some n)
section YK2
variable {F : xF} {G : xG} {B : Nat} {Y : Nat → Nat} {Q : State → Prop} {nL fr lo mc ms : Nat} {h : xH} {sz cs ss pc : Nat} {lv lv' : List (Nat × Value)} {st : List Value} {cc : ByteArray} {own : String}
variable {y x : MethodName} {cc' : ByteArray} {nL' fr' lo' mc' ms' idx n : Nat} {ret : Option FieldType} {As rest st0 : List Value} {P : Option Value → xH → Nat → Prop} {hh : List (Nat × Nat × Nat × Nat)} {v : Option Value} {cd : Nat} {h2 : xH}
theorem X_callVy (C : xC F G B cc own nL fr lo mc ms) (K : yK B Y (xFs F)) {b ci N : Nat} {fs : List Value} {Cn : String} {T : u_T} (hM : yCon (xFl F) y cc' nL' ret fr' lo' mc' ms' G B Y (.ref b :: As) h sz P) (hV : xV own idx Cn y cc' nL' ret n) (hroom : fr' + 1 ≤ fr ∧ 8 + (nL' + 11) + lo' ≤ lo) (hcs : cs + mc' ≤ mc ∧ ss + ms' ≤ ms) (he : h b = some (.inr (ci, fs))) (hc : xCl[ci]? = some (Cn, T, N)) (hn : As.length = n) (hst : st0 = As.reverse ++ .ref b :: rest) (h8 : (rest.map fun v => v.category).sum ≤ 8) (d : decode cc pc = .ok (.invokevirtual idx, 3)) (kk : ∀ v h' z', P v h' z' → X F G B Q nL h' z' (cs + mc') (ss + ms') (pc + 3) lv (v.toList ++ rest)) : X F G B Q nL h sz cs ss pc lv st0 := by
  subst hst
  have hts := C.2.2.2.2.1
  have hR0 := C.2.2.2.2.2.2.2.2
  refine X_run (a := (Value.ref b :: As).toArray) (fun H locs ls hz hR hS hl => ?_) kk
  exact va_runV (nL := nL) ⟨C.1, C.2.1, C.2.2.1, C.2.2.2.1, hts⟩ hM ⟨callB_of n hts (x_goodin hV.1) rfl rfl rfl (hts _ hV.2.1) (hts _ hV.2.2.1) hV.2.2.2.2.2 (by show _ ≤ (xFR F).frames ∧ _ ≤ (xFR F).locals; rw [hR0]; exact hroom), hts _ hV.2.2.2.1, hts _ hV.2.2.2.2.1⟩ ⟨yPc_blind, va_recv C.2.2.2.2.2.1.va (hR.va he) (ci := ci) (q0 := 0) hc rfl, fun U hU hW => ⟨rfl, by rw [hU]; exact hz, by rw [← hz]; exact Nat.le_trans C.2.2.2.2.2.2.1 hS.1, by rw [hU]; exact hR, xK.moved hW.alike C.2.2.2.2.2.1, yK.go hW (fun a ha hb => by rw [hU]; exact hS.2.1 a ha hb) K⟩⟩ rfl hn hl.1 rfl (lv_room h8) d (by show _ ≤ (xFR F).cells ∧ _ ≤ (xFR F).slots; rw [hR0]; exact hcs)
theorem X_callSy (C : xC F G B cc own nL fr lo mc ms) (K : yK B Y (xFs F)) (hM : yCon (xFl F) y cc' nL' ret fr' lo' mc' ms' G B Y As h sz P) (hV : xS own idx y cc' nL' ret n) (hroom : fr' + 1 ≤ fr ∧ 8 + (nL' + 11) + lo' ≤ lo) (hcs : cs + mc' ≤ mc ∧ ss + ms' ≤ ms) (hn : As.length = n) (hst : st0 = As.reverse ++ rest) (h8 : (rest.map fun v => v.category).sum ≤ 8) (d : decode cc pc = .ok (.invokestatic idx, 3)) (kk : ∀ v h' z', P v h' z' → X F G B Q nL h' z' (cs + mc') (ss + ms') (pc + 3) lv (v.toList ++ rest)) : X F G B Q nL h sz cs ss pc lv st0 := by
  subst hst
  have hts := C.2.2.2.2.1
  have hR0 := C.2.2.2.2.2.2.2.2
  refine X_run (a := As.toArray) (fun H locs ls hz hR hS hl => ?_) kk
  exact va_runS (nL := nL) ⟨C.1, C.2.1, C.2.2.1, C.2.2.2.1, hts⟩ hM ⟨callB_of n hts (x_goodin hV.1) rfl rfl rfl (hts _ hV.2.1) (hts _ hV.2.2.1) hV.2.2.2.2 (by show _ ≤ (xFR F).frames ∧ _ ≤ (xFR F).locals; rw [hR0]; exact hroom), hts _ hV.2.2.2.1⟩ ⟨yPc_blind, fun U hU hW => ⟨rfl, by rw [hU]; exact hz, by rw [← hz]; exact Nat.le_trans C.2.2.2.2.2.2.1 hS.1, by rw [hU]; exact hR, xK.moved hW.alike C.2.2.2.2.2.1, yK.go hW (fun a ha hb => by rw [hU]; exact hS.2.1 a ha hb) K⟩⟩ rfl hn hl.1 rfl (lv_room h8) d (by show _ ≤ (xFR F).cells ∧ _ ≤ (xFR F).slots; rw [hR0]; exact hcs)
theorem X_callSw (C : xC F G B cc own nL fr lo mc ms) (K : yK B Y (xFs F)) (hM : yConW (xFl F) y cc' nL' ret hh fr' lo' mc' ms' G B Y As h sz P) (hV : xSW own idx y cc' nL' ret hh n) (hroom : fr' + 1 ≤ fr ∧ 8 + (nL' + 11) + lo' ≤ lo) (hcs : cs + mc' ≤ mc ∧ ss + ms' ≤ ms) (hn : As.length = n) (hst : st0 = As.reverse ++ rest) (h8 : (rest.map fun v => v.category).sum ≤ 8) (d : decode cc pc = .ok (.invokestatic idx, 3)) (kk : ∀ v h' z', P v h' z' → X F G B Q nL h' z' (cs + mc') (ss + ms') (pc + 3) lv (v.toList ++ rest)) : X F G B Q nL h sz cs ss pc lv st0 := by
  subst hst
  have hts := C.2.2.2.2.1
  have hR0 := C.2.2.2.2.2.2.2.2
  have hd := hV.2.2.2.2
  refine X_run (a := As.toArray) (fun H locs ls hz hR hS hl => ?_) kk
  exact vx_runSW (nL := nL) (hh := hh) ⟨C.1, C.2.1, C.2.2.1, C.2.2.2.1, hts⟩ hM ⟨⟨rfl, rfl, by show _ ≤ (xFR F).frames; rw [hR0]; exact hroom.1, by show _ ≤ (xFR F).locals; rw [hR0]; exact hroom.2, pay_in hts (x_goodin hV.1), List.mem_cons_self⟩, hts _ hV.1, hts _ hV.2.1, ⟨hd.1, hd.2.1⟩, fun sig hs => by
    have h9 := hd.2.2
    rw [hs] at h9
    exact (Option.some.inj h9).symm, hts _ hV.2.2.1, hts _ hV.2.2.2.1⟩ ⟨yPc_blind, fun U hU hW => ⟨rfl, by rw [hU]; exact hz, by rw [← hz]; exact Nat.le_trans C.2.2.2.2.2.2.1 hS.1, by rw [hU]; exact hR, xK.moved hW.alike C.2.2.2.2.2.1, yK.go hW (fun a ha hb => by rw [hU]; exact hS.2.1 a ha hb) K⟩⟩ rfl hn hl.1 rfl (lv_room h8) d (by show _ ≤ (xFR F).cells ∧ _ ≤ (xFR F).slots; rw [hR0]; exact hcs)
theorem X_callVt (C : xC F G B cc own nL fr lo mc ms) (K : yK B Y (xFs F)) {b ci N : Nat} {fs : List Value} {Cn : String} {T : u_T} (hM : tCon (xFl F) y cc' nL' ret fr' lo' mc' ms' G B Y (.ref b :: As) h sz v cd h2) (hV : xV own idx Cn y cc' nL' ret n) (hroom : fr' + 1 ≤ fr ∧ 8 + (nL' + 11) + lo' ≤ lo) (hcs : cs + mc' ≤ mc ∧ ss + ms' ≤ ms) (he : h b = some (.inr (ci, fs))) (hc : xCl[ci]? = some (Cn, T, N)) (hn : As.length = n) (hst : st0 = As.reverse ++ .ref b :: rest) (h8 : (rest.map fun v => v.category).sum ≤ 8) (d : decode cc pc = .ok (.invokevirtual idx, 3)) (kk : cd = 0 → X F G B Q nL h2 sz (cs + mc') (ss + ms') (pc + 3) lv (v.toList ++ rest)) (kx : cd ≠ 0 → ∀ z', sz ≤ z' → XT F G B Q nL h2 z' (cs + mc') (ss + ms') pc lv rest (yEx cd)) : X F G B Q nL h sz cs ss pc lv st0 := by
  subst hst
  have hts := C.2.2.2.2.1
  have hR0 := C.2.2.2.2.2.2.2.2
  refine X_runT (a := (Value.ref b :: As).toArray) (fun H locs ls hz hR hS hl => ?_) kk kx
  exact vx_runV (nL := nL) ⟨C.1, C.2.1, C.2.2.1, C.2.2.2.1, hts⟩ hM ⟨callB_of n hts (x_goodin hV.1) rfl rfl rfl (hts _ hV.2.1) (hts _ hV.2.2.1) hV.2.2.2.2.2 (by show _ ≤ (xFR F).frames ∧ _ ≤ (xFR F).locals; rw [hR0]; exact hroom), hts _ hV.2.2.2.1, hts _ hV.2.2.2.2.1⟩ ⟨yPc_blind, va_recv C.2.2.2.2.2.1.va (hR.va he) (ci := ci) (q0 := 0) hc rfl, fun U hU hW => ⟨rfl, by rw [hU]; exact hz, by rw [← hz]; exact Nat.le_trans C.2.2.2.2.2.2.1 hS.1, by rw [hU]; exact hR, xK.moved hW.alike C.2.2.2.2.2.1, yK.go hW (fun a ha hb => by rw [hU]; exact hS.2.1 a ha hb) K⟩⟩ rfl hn hl.1 rfl (lv_room h8) d (by show _ ≤ (xFR F).cells ∧ _ ≤ (xFR F).slots; rw [hR0]; exact hcs)
theorem X_callSt (C : xC F G B cc own nL fr lo mc ms) (K : yK B Y (xFs F)) (hM : tCon (xFl F) y cc' nL' ret fr' lo' mc' ms' G B Y As h sz v cd h2) (hV : xS own idx y cc' nL' ret n) (hroom : fr' + 1 ≤ fr ∧ 8 + (nL' + 11) + lo' ≤ lo) (hcs : cs + mc' ≤ mc ∧ ss + ms' ≤ ms) (hn : As.length = n) (hst : st0 = As.reverse ++ rest) (h8 : (rest.map fun v => v.category).sum ≤ 8) (d : decode cc pc = .ok (.invokestatic idx, 3)) (kk : cd = 0 → X F G B Q nL h2 sz (cs + mc') (ss + ms') (pc + 3) lv (v.toList ++ rest)) (kx : cd ≠ 0 → ∀ z', sz ≤ z' → XT F G B Q nL h2 z' (cs + mc') (ss + ms') pc lv rest (yEx cd)) : X F G B Q nL h sz cs ss pc lv st0 := by
  subst hst
  have hts := C.2.2.2.2.1
  have hR0 := C.2.2.2.2.2.2.2.2
  refine X_runT (a := As.toArray) (fun H locs ls hz hR hS hl => ?_) kk kx
  exact vx_runS (nL := nL) ⟨C.1, C.2.1, C.2.2.1, C.2.2.2.1, hts⟩ hM ⟨callB_of n hts (x_goodin hV.1) rfl rfl rfl (hts _ hV.2.1) (hts _ hV.2.2.1) hV.2.2.2.2 (by show _ ≤ (xFR F).frames ∧ _ ≤ (xFR F).locals; rw [hR0]; exact hroom), hts _ hV.2.2.2.1⟩ ⟨yPc_blind, fun U hU hW => ⟨rfl, by rw [hU]; exact hz, by rw [← hz]; exact Nat.le_trans C.2.2.2.2.2.2.1 hS.1, by rw [hU]; exact hR, xK.moved hW.alike C.2.2.2.2.2.1, yK.go hW (fun a ha hb => by rw [hU]; exact hS.2.1 a ha hb) K⟩⟩ rfl hn hl.1 rfl (lv_room h8) d (by show _ ≤ (xFR F).cells ∧ _ ≤ (xFR F).slots; rw [hR0]; exact hcs)
/-- an abstract method, by its receiver's class -/
theorem X_callU (C : xC F G B cc own nL fr lo mc ms) (K : yK B Y (xFs F)) {b ci N : Nat} {fs : List Value} {Cn : String} {T : u_T} (hM : xCon (xFl F) y cc' nL' ret fr' lo' mc' ms' G B (.ref b :: As) h sz P) (hV : xU own idx Cn x y cc' nL' ret n) (hroom : fr' + 1 ≤ fr ∧ 8 + (nL' + 11) + lo' ≤ lo) (hcs : cs + mc' ≤ mc ∧ ss + ms' ≤ ms) (he : h b = some (.inr (ci, fs))) (hc : xCl[ci]? = some (Cn, T, N)) (hn : As.length = n) (hst : st0 = As.reverse ++ .ref b :: rest) (h8 : (rest.map fun v => v.category).sum ≤ 8) (d : decode cc pc = .ok (.invokevirtual idx, 3)) (kk : ∀ v h' z', P v h' z' → X F G B Q nL h' z' (cs + mc') (ss + ms') (pc + 3) lv (v.toList ++ rest)) : X F G B Q nL h sz cs ss pc lv st0 := by
  subst hst
  have hts := C.2.2.2.2.1
  have hR0 := C.2.2.2.2.2.2.2.2
  have hg : GoodIn xtbl (va_wsU own idx Cn x.cls x y (.code y cc' nL' ret :: xtbl)) := fun w hw => by
    have hm : w ∈ xtbl := by
      unfold va_wsU at hw
      rcases List.mem_append.mp hw with hw | hw
      · simp only [List.mem_cons, List.not_mem_nil, or_false] at hw
        rcases hw with e | e | e | e | e <;> rw [e]
        · exact hV.2.2.1
        · exact hV.2.2.2.2.2.1
        · exact hV.2.2.2.2.1
        · exact hV.2.2.2.1
        · exact hV.2.1
      · rcases List.mem_cons.mp hw with e | e
        · rw [e]; exact hV.1
        · exact e
    exact ⟨hm, good_of_word (x_good w hm)⟩
  refine X_run (a := (Value.ref b :: As).toArray) (fun H locs ls hz hR hS hl => ?_) kk
  exact va_runU (nL := nL) ⟨C.1, C.2.1, C.2.2.1, C.2.2.2.1, hts⟩ hM (va_cwA n hts hg rfl rfl rfl (K.1 _ hV.2.2.2.2.2.2.1) hV.2.2.2.2.2.2.2 (by show _ ≤ (xFR F).frames ∧ _ ≤ (xFR F).locals; rw [hR0]; exact hroom)) ⟨xPc_blind, va_recv C.2.2.2.2.2.1.va (hR.va he) (ci := ci) (q0 := 0) hc rfl, fun U hU hW => ⟨rfl, by rw [hU]; exact hz, by rw [← hz]; exact Nat.le_trans C.2.2.2.2.2.2.1 hS.1, by rw [hU]; exact hR, xK.moved hW.alike C.2.2.2.2.2.1⟩⟩ rfl hn hl.1 rfl (lv_room h8) d (by show _ ≤ (xFR F).cells ∧ _ ≤ (xFR F).slots; rw [hR0]; exact hcs)
/-- the words of a throw -/
def yTh (ik ic cd : Nat) : Prop := Cond.classLink "TimedYard" ik (yEx cd) ∈ xtbl ∧ Cond.initialized (yEx cd) ∈ xtbl ∧ (∀ w ∈ (vx_atS "TimedYard" ic (yEx cd) yNm).filter goodWord, w ∈ xtbl) ∧ (∀ w ∈ (vx_atS "TimedYard" ic (yEx cd) yNm).filter (fun w => !goodWord w), w ∈ yW) ∧ (∀ w ∈ Cond.classLink "TimedYard" ik (yEx cd) :: Cond.initialized (yEx cd) :: vx_atS "TimedYard" ic (yEx cd) yNm, vx_ot w = true) ∧ Bundle.fit (yEx cd) = true ∧ ∀ n ∈ yNm, Bundle.fit n = true
theorem yTh_hat (C : xC F G B cc own nL fr lo mc ms) (K : yK B Y (xFs F)) {ik ic : Nat} (hw : yTh ik ic cd) : ∀ w ∈ vx_atS "TimedYard" ic (yEx cd) yNm, w.before (xFa F) (xFs F) = true := vx_hat (B := yW) (fun w hm => C.2.2.2.2.1 w (hw.2.2.1 w hm)) hw.2.2.2.1 (fun w hm => va_Nw.use (yW_tab w hm) (K.1 w hm))
theorem y_thrown {H : Heap} {locs : List Loc} (hcd : cd ≠ 0) (hz : H.size = sz) (hR : xR G B h H) (hS : va_S (fun q => B ≤ q) (xFs F).heap H locs) : ∀ t : State, (xFs F).vm.Alike t.vm → H.size ≤ t.heap.size → (∀ q : Nat, q < H.size → t.heap[q]? = H[q]?) → tX G B cd h sz (yEx cd) (xFs F) t := fun t _ h1 h2 => ⟨hcd, rfl, by rw [← hz]; exact h1, fun a e he => ⟨(hR a e he).1, (hR a e he).2.kept (h2 a (hR.lt he))⟩, Nat.le_trans hS.1 h1, fun q hq hB => (h2 q (Nat.lt_of_lt_of_le hq hS.1)).trans (hS.2.1 q hq hB)⟩
theorem X_throw (C : xC F G B cc "TimedYard" nL fr lo mc ms) (K : yK B Y (xFs F)) (hst : (xFl F).stackTraces = false) (ht : ∀ x ∈ (xFc F).exceptionTable.toList, False) {i ik is ic : Nat} {text : String} (hcd : cd ≠ 0) (hw : yTh ik ic cd) (hs : ySt[i]? = some (is, text)) (hroom : 6 ≤ fr ∧ 82 ≤ lo) (hcs : cs + 1 ≤ mc ∧ ss + 6 ≤ ms) (d0 : decode cc pc = .ok (.new ik, 3)) (d3 : decode cc (pc + 3) = .ok (.dup, 1)) (d4 : decode cc (pc + 4) = .ok (.ldc is, 2)) (d6 : decode cc (pc + 6) = .ok (.invokespecial ic, 3)) (d9 : decode cc (pc + 9) = .ok (.athrow, 1)) : X F G B (tZ F G B v cd h sz mc ms) nL h sz cs ss pc lv [] := by
  intro H locs ls hz hR hS hl
  have hts := C.2.2.2.2.1
  have hR0 := C.2.2.2.2.2.2.2.2
  exact vx_throwS (own := "TimedYard") (cls := yEx cd) (text := text) (names := yNm) (A := fun q => B ≤ q) C.1 C.2.1 hst C.2.2.2.1 hw.2.2.2.2.2.1 hw.2.2.2.2.2.2 (hts _ hw.1) (hts _ hw.2.1) (K.2.1 i _ hs) (yTh_hat C K hw) hw.2.2.2.2.1 K.2.2.2.2.1 K.2.2.2.2.2 hS (hl.1.trans C.2.2.1.symm) d0 d3 d4 d6 d9 (fun x hx => (ht x hx).elim) (by show 2 + 3 < (xFR F).frames; rw [hR0]; exact hroom.1) (by show 0 + (13 * (2 + 1) + 43) ≤ (xFR F).locals; rw [hR0]; exact hroom.2) (by show cs + 1 ≤ (xFR F).cells; rw [hR0]; exact hcs.1) (by show ss + 6 ≤ (xFR F).slots; rw [hR0]; exact hcs.2) C.2.2.2.2.2.2.2.1 (y_thrown hcd hz hR hS) hS.2.2 hcs.1 hcs.2
theorem X_throwW (C : xC F G B cc "TimedYard" nL fr lo mc ms) (K : yK B Y (xFs F)) (hst : (xFl F).stackTraces = false) (ht : ∀ x ∈ (xFc F).exceptionTable.toList, False) {i ik is ic : Nat} {text : String} (hcd : cd ≠ 0) (hw : yTh ik ic cd) (hs : ySt[i]? = some (is, text)) (hroom : 6 ≤ fr ∧ 82 ≤ lo) (hcs : cs + 1 ≤ mc ∧ ss + 6 ≤ ms) (d0 : decode cc pc = .ok (.new ik, 3)) (d3 : decode cc (pc + 3) = .ok (.dup, 1)) (d4 : decode cc (pc + 4) = .ok (.ldc_w is, 3)) (d7 : decode cc (pc + 7) = .ok (.invokespecial ic, 3)) (d10 : decode cc (pc + 10) = .ok (.athrow, 1)) : X F G B (tZ F G B v cd h sz mc ms) nL h sz cs ss pc lv [] := by
  intro H locs ls hz hR hS hl
  have hts := C.2.2.2.2.1
  have hR0 := C.2.2.2.2.2.2.2.2
  exact vx_throwSW (own := "TimedYard") (cls := yEx cd) (text := text) (names := yNm) (A := fun q => B ≤ q) C.1 C.2.1 hst C.2.2.2.1 hw.2.2.2.2.2.1 hw.2.2.2.2.2.2 (hts _ hw.1) (hts _ hw.2.1) (K.2.1 i _ hs) (yTh_hat C K hw) hw.2.2.2.2.1 K.2.2.2.2.1 K.2.2.2.2.2 hS (hl.1.trans C.2.2.1.symm) d0 d3 d4 d7 d10 (fun x hx => (ht x hx).elim) (by show 2 + 3 < (xFR F).frames; rw [hR0]; exact hroom.1) (by show 0 + (13 * (2 + 1) + 43) ≤ (xFR F).locals; rw [hR0]; exact hroom.2) (by show cs + 1 ≤ (xFR F).cells; rw [hR0]; exact hcs.1) (by show ss + 6 ≤ (xFR F).slots; rw [hR0]; exact hcs.2) C.2.2.2.2.2.2.2.1 (y_thrown hcd hz hR hS) hS.2.2 hcs.1 hcs.2
end YK2

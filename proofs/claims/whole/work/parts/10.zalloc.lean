/-! rows of X: arrays of references, System.arraycopy; helpers of functions that make cells -/
section XAlloc
variable {F : xF} {G : xG} {B : Nat} {Q : State → Prop} {nL fr lo mc ms : Nat} {h : xH} {sz cs ss pc : Nat} {lv lv' : List (Nat × Value)} {st : List Value} {cc : ByteArray} {own : String}
theorem X_anew (C : xC F G B cc own nL fr lo mc ms) {k idx N : Nat} {Cn : String} {n : Int32} (hk : xT[k]? = some (.object Cn)) (hw : Cond.classLink own idx Cn ∈ xtbl) (hn : ¬ n < 0) (hN : n.toNatClampNeg = N) (hbytes : N * 4 ≤ 536870912) (hcs : cs + 1 ≤ mc) (hss : ss + N ≤ ms) (d : decode cc pc = .ok (.anewarray idx, 3)) (kk : h sz = none → B ≤ sz → X F G B Q nL (xup h sz (.inl (k, N, .inr (.inr (.inr (.inr (fun _ => none))))))) (sz + 1) (cs + 1) (ss + N) (pc + 3) lv (.ref sz :: st)) : X F G B Q nL h sz cs ss pc lv (.int n :: st) := by
  intro H locs ls hz hR hS hl
  have hts := C.2.2.2.2.1
  have hK := C.2.2.2.2.2.1
  have hB : B ≤ H.size := Nat.le_trans C.2.2.2.2.2.2.1 hS.1
  have hroom := C.2.2.2.2.2.2.2.2
  subst hN
  refine W.anew C.1 C.2.1 C.2.2.2.1 (hts _ hw) (va_AO.use (hK.2.2.1 k _ hk)) rfl d rfl hn hbytes (by show cs + 1 ≤ (xFR F).cells; rw [hroom]; exact hcs) (by show ss + _ ≤ (xFR F).slots; rw [hroom]; exact hss) fun cA kA comp f1 f2 f3 f4 => ?_
  generalize hH1 : H.push ({ cls := cA, slots := Array.replicate n.toNatClampNeg .null, vm := .none } : Cell) = H1
  have z1 : H1.size = H.size + 1 := by rw [← hH1, Array.size_push]
  have e1 : H1[H.size]? = some (arrV cA n.toNatClampNeg (fun _ => .null)) := by rw [← hH1, Array.getElem?_push_size, ← arrV_new]
  have o1 : ∀ q : Nat, q < H.size → H1[q]? = H[q]? := fun q hq => by rw [← hH1, Array.getElem?_push, if_neg (Nat.ne_of_lt hq)]
  have hA : cA = G.2.2 k := by
    obtain ⟨kA', comp', g1, g2, g3, g4⟩ := (hK.2.1 k _ hk).2
    exact Option.some.inj (f1.symm.trans g4)
  have hp := hR.push (e := .inl (k, n.toNatClampNeg, .inr (.inr (.inr (.inr (fun _ => none)))))) hB (by show H1[H.size]? = some (vp_cell (G.2.2 k) _); rw [vp_cell_q, ← hA]; exact e1) o1
  subst hz
  exact kk hp.1 hB H1 locs ls z1 hp.2 (xS_push hS z1 o1) hl
theorem X_aast (C : xC F G B cc own nL fr lo mc ms) {a k n v ci N : Nat} {Cn : String} {T : u_T} {vs : List Value} {f : Nat → Option Nat} {i : Int32} (hk : xT[k]? = some (.object Cn)) (hc : xCl[ci]? = some (Cn, T, N)) (he : h a = some (.inl (k, n, .inr (.inr (.inr (.inr f)))))) (hv : h v = some (.inr (ci, vs))) (hin : vp_in i n) (d : decode cc pc = .ok (.aastore, 1)) (kk : X F G B Q nL (xup h a (.inl (k, n, .inr (.inr (.inr (.inr (va_up f i.toNatClampNeg (some v)))))))) sz cs ss (pc + 1) lv st) : X F G B Q nL h sz cs ss pc lv (.ref v :: .int i :: .ref a :: st) := by
  intro H locs ls hz hR hS hl
  have hK := C.2.2.2.2.2.1
  have hlt : i.toNatClampNeg < n := Nat.not_le.mp fun q => hin (Or.inr q)
  have h0 : ¬ i < 0 := fun q => hin (Or.inl q)
  have hat := hR a _ he
  have hcell : H[a]? = some (vp_cell (G.2.2 k) (n, .inr (.inr (.inr (.inr f))))) := hat.2
  obtain ⟨-, r', hr', cellV, g1, g2, g3, -⟩ := hR v _ hv
  have hcls := (hK.1 ci _ hc).2
  obtain ⟨kA, comp, k1, k2, k3, -⟩ := (hK.2.1 k _ hk).2
  have hcomp : comp = G.1 ci := Option.some.inj (k3.symm.trans hcls.1)
  subst hcomp
  obtain ⟨kC, hkC, -⟩ := hcls.2
  refine W.aast C.1 C.2.1 hcell (fun q h => by cases h) (fun h => by cases h) k1 k2 rfl hkC ⟨h0, by show _ < (arrV _ _ _).slots.size; rw [arrV_size]; exact hlt⟩ g1 (fun q h => by rw [g3] at h; cases h) (by rw [g2]; exact hkC) (by rw [g2]; exact va_assign hcls) rfl rfl d fun H1 e z oq => ?_
  refine kk H1 _ ls (z.trans hz) (hR.set hat.1 ?_ oq) (hS.put z oq hat.1) hl
  show H1[a]? = some (vp_cell _ _)
  rw [e]
  rw [vp_cell_q, vp_cell_q, arrV_store]
  congr 2
  funext q
  by_cases hq : q = i.toNatClampNeg
  · subst hq
    simp [updV, va_up, va_rf]
  · simp [updV, va_up, hq]
theorem X_copyi (C : xC F G B cc own nL fr lo mc ms) {idx a0 a k n0 n1 : Nat} {f g : Nat → Int32} {sp dp n : Int32} (hw : Cond.methodLink own idx arraycopyName ∈ xtbl ∧ Cond.native arraycopyName ∈ xtbl ∧ Cond.static arraycopyName ∈ xtbl ∧ Cond.initialized "java/lang/System" ∈ xtbl) (hk : xT[k]? = some .int) (he0 : h a0 = some (.inl (k, n0, .inl f))) (he1 : h a = some (.inl (k, n1, .inl g))) (h1 : ¬ sp < 0) (h2 : ¬ dp < 0) (h3 : ¬ n < 0) (h4 : sp.toNatClampNeg + n.toNatClampNeg ≤ n0) (h5 : dp.toNatClampNeg + n.toNatClampNeg ≤ n1) (hroom : 1 ≤ fr ∧ (st.map fun v => v.category).sum + (nativeFrameWords "java/lang/System" "arraycopy" 5 + 11) ≤ lo) (d : decode cc pc = .ok (.invokestatic idx, 3)) (kk : X F G B Q nL (xup h a (.inl (k, n1, .inl (va_cpy f g sp.toNatClampNeg dp.toNatClampNeg n.toNatClampNeg)))) sz cs ss (pc + 3) lv st) : X F G B Q nL h sz cs ss pc lv (.int n :: .int dp :: .ref a :: .int sp :: .ref a0 :: st) := by
  intro H locs ls hz hR hS hl
  have hts := C.2.2.2.2.1
  have hK := C.2.2.2.2.2.1
  have hR0 := C.2.2.2.2.2.2.2.2
  have nn : ∀ z : Int32, ¬ z < 0 → z.toInt = (z.toNatClampNeg : Int) := by
    intro z hz
    have hz0 : (0 : Int) ≤ z.toInt := by
      have := Int32.not_lt.mp hz
      simpa using Int32.le_iff_toInt_le.mp this
    show z.toInt = ((z.toInt.toNat : Nat) : Int)
    omega
  intro T hT X0
  have hat := hR a _ he1
  have hc0 : H[a0]? = some (vp_cell (G.2.2 k) (n0, .inl f)) := (hR a0 _ he0).2
  have hc1 : H[a]? = some (vp_cell (G.2.2 k) (n1, .inl g)) := hat.2
  obtain ⟨-, k0, hk0, cm0, hkk0⟩ := (hK.2.1 k _ hk).1 n0 (fun j => .int (f j))
  obtain ⟨-, k1, hk1, cm1, hkk1⟩ := (hK.2.1 k _ hk).1 n1 (fun j => .int (g j))
  obtain ⟨vm', X', step⟩ := X0.arraycopy C.1 C.2.2.2.1 (hts _ hw.1) (hts _ hw.2.1) (hts _ hw.2.2.1) (hts _ hw.2.2.2) (src := a0) (dst := a) (cs := vp_cell (G.2.2 k) (n0, .inl f)) (cd := vp_cell (G.2.2 k) (n1, .inl g)) (srcPos := sp) (destPos := dp) (n := n) (by rw [hT]; exact hc0) (by rw [hT]; exact hc1)
    (fun _ h => by cases h) (fun _ h => by cases h) (fun h => by cases h) (fun h => by cases h) hk0 hk1 hkk0 hkk1 (by simp [refKind]) h1 h2 h3
    (by rw [nn sp h1, nn n h3]; show ¬ _ > ((arrV _ n0 (fun j => .int (f j))).slots.size : Int); rw [arrV_size]; omega)
    (by rw [nn dp h2, nn n h3]; show ¬ _ > ((arrV _ n1 (fun j => .int (g j))).slots.size : Int); rw [arrV_size]; omega)
    (fun vm₁ _ i hi => by
      have e : (vp_cell (G.2.2 k) (n0, .inl f)).slots.getD (sp.toNatClampNeg + i) .null = .int (f (sp.toNatClampNeg + i)) := by
        show (arrV _ n0 (fun j => .int (f j))).slots.getD _ _ = _
        rw [Array.getD_eq_getD_getElem?, arrV_read _ _ (by omega)]
        rfl
      refine ⟨?_, ?_⟩
      · rw [e]
        rfl
      · rw [e]
        exact trivial)
    (g := F0 (xFm F) pc ls (.int n :: .int dp :: .ref a :: .int sp :: .ref a0 :: st)) rfl (by rw [C.2.2.1]; exact hl.1) (rest := st) rfl (by rw [C.2.1]; exact d) (by show 1 ≤ (xFR F).frames; rw [hR0]; exact hroom.1) (by show 2 * 0 + _ + _ ≤ (xFR F).locals; rw [hR0]; have := hroom.2; show 2 * 0 + _ + _ ≤ lo; omega)
  have e1 : copied (vp_cell (G.2.2 k) (n0, .inl f)) (vp_cell (G.2.2 k) (n1, .inl g)) sp dp n = vp_cell (G.2.2 k) (n1, .inl (va_cpy f g sp.toNatClampNeg dp.toNatClampNeg n.toNatClampNeg)) := va_copied (fun z => .int z) _ _ f g h4
  rw [e1] at X' step
  have hla : a < H.size := (Array.getElem?_eq_some_iff.mp hc1).1
  have hheap : ((T.setVm vm').setCell a (vp_cell (G.2.2 k) (n1, .inl (va_cpy f g sp.toNatClampNeg dp.toNatClampNeg n.toNatClampNeg)))).heap = H.setIfInBounds a (vp_cell (G.2.2 k) (n1, .inl (va_cpy f g sp.toNatClampNeg dp.toNatClampNeg n.toNatClampNeg))) := by rw [← hT]; rfl
  have oq : ∀ q : Nat, q ≠ a → (H.setIfInBounds a (vp_cell (G.2.2 k) (n1, .inl (va_cpy f g sp.toNatClampNeg dp.toNatClampNeg n.toNatClampNeg))))[q]? = H[q]? := fun q hq => by simp [Array.getElem?_setIfInBounds, Ne.symm hq]
  obtain ⟨t, a1, b1⟩ := kk _ _ ls (by rw [Array.size_setIfInBounds]; exact hz) (hR.set hat.1 (show (H.setIfInBounds a _)[a]? = some _ by simp [Array.getElem?_setIfInBounds, hla]) oq) ⟨by simp; exact hS.1, fun q g1 g2 => by
      rw [oq q (fun e => g2 (by rw [e]; exact hat.1))]
      exact hS.2.1 q g1 g2, fun q hq => by
      rcases List.mem_append.mp hq with h | h
      · exact hS.2.2 q h
      · obtain ⟨z, -, hz⟩ := List.mem_map.mp h
        rw [← hz]
        exact hat.1⟩ hl _ hheap X'
  exact ⟨t, step t a1, b1⟩
theorem X_aastY (C : xC F G B cc own nL fr lo mc ms) {a k n v ci N : Nat} {Cn E : String} {T : u_T} {vs : List Value} {f : Nat → Option Nat} {i : Int32} (hk : xT[k]? = some (.object E)) (hc : xCl[ci]? = some (Cn, T, N)) (hp : (Cn, E) ∈ xYl) (he : h a = some (.inl (k, n, .inr (.inr (.inr (.inr f)))))) (hv : h v = some (.inr (ci, vs))) (hin : vp_in i n) (d : decode cc pc = .ok (.aastore, 1)) (kk : X F G B Q nL (xup h a (.inl (k, n, .inr (.inr (.inr (.inr (va_up f i.toNatClampNeg (some v)))))))) sz cs ss (pc + 1) lv st) : X F G B Q nL h sz cs ss pc lv (.ref v :: .int i :: .ref a :: st) := by
  intro H locs ls hz hR hS hl
  have hK := C.2.2.2.2.2.1
  have hlt : i.toNatClampNeg < n := Nat.not_le.mp fun q => hin (Or.inr q)
  have h0 : ¬ i < 0 := fun q => hin (Or.inl q)
  have hat := hR a _ he
  have hcell : H[a]? = some (vp_cell (G.2.2 k) (n, .inr (.inr (.inr (.inr f))))) := hat.2
  obtain ⟨-, r', hr', cellV, g1, g2, g3, -⟩ := hR v _ hv
  have hcls := (hK.1 ci _ hc).2
  obtain ⟨kA, comp, k1, k2, k3, -⟩ := (hK.2.1 k _ hk).2
  obtain ⟨kE, hkE, -⟩ := Vm.findClass_spec k3
  obtain ⟨c0, t1, f1, f2, f3⟩ := hK.2.2.2.1 _ hp
  cases hcls.1.symm.trans f1
  cases k3.symm.trans f2
  obtain ⟨kC, hkC, -⟩ := hcls.2
  refine W.aast C.1 C.2.1 hcell (fun q h => by cases h) (fun h => by cases h) k1 k2 rfl hkE ⟨h0, by show _ < (arrV _ _ _).slots.size; rw [arrV_size]; exact hlt⟩ g1 (fun q h => by rw [g3] at h; cases h) (by rw [g2]; exact hkC) (by rw [g2]; exact f3) rfl rfl d fun H1 e z oq => ?_
  refine kk H1 _ ls (z.trans hz) (hR.set hat.1 ?_ oq) (hS.put z oq hat.1) hl
  show H1[a]? = some (vp_cell _ _)
  rw [e]
  rw [vp_cell_q, vp_cell_q, arrV_store]
  congr 2
  funext q
  by_cases hq : q = i.toNatClampNeg
  · subst hq
    simp [updV, va_up, va_rf]
  · simp [updV, va_up, hq]
theorem X_aastN (C : xC F G B cc own nL fr lo mc ms) {a k n : Nat} {E : String} {f : Nat → Option Nat} {i : Int32} (hk : xT[k]? = some (.object E)) (he : h a = some (.inl (k, n, .inr (.inr (.inr (.inr f)))))) (hin : vp_in i n) (d : decode cc pc = .ok (.aastore, 1)) (kk : X F G B Q nL (xup h a (.inl (k, n, .inr (.inr (.inr (.inr (va_up f i.toNatClampNeg none))))))) sz cs ss (pc + 1) lv st) : X F G B Q nL h sz cs ss pc lv (.null :: .int i :: .ref a :: st) := by
  intro H locs ls hz hR hS hl
  have hK := C.2.2.2.2.2.1
  have hat := hR a _ he
  have hcell : H[a]? = some (vp_cell (G.2.2 k) (n, .inr (.inr (.inr (.inr f))))) := hat.2
  refine va_WaastN (C := E) C.1 C.2.1 hcell ((hK.2.1 k _ hk).1 n (fun j => va_rf (f j))) (fun h => by cases h) (by show ¬ (i < 0 ∨ (arrV _ _ _).slots.size ≤ _); rw [arrV_size]; exact hin) rfl rfl d fun H1 e z oq => ?_
  refine kk H1 _ ls (z.trans hz) (hR.set hat.1 ?_ oq) (hS.put z oq hat.1) hl
  show H1[a]? = some (vp_cell _ _)
  rw [e]
  rw [vp_cell_q, vp_cell_q, arrV_store]
  congr 2
  funext q
  by_cases hq : q = i.toNatClampNeg
  · subst hq
    simp [updV, va_up, va_rf]
  · simp [updV, va_up, hq]
theorem X_instY (C : xC F G B cc own nL fr lo mc ms) {a ci N idx : Nat} {Cn nm : String} {T : u_T} {fs : List Value} (hc : xCl[ci]? = some (Cn, T, N)) (hp : (Cn, nm) ∈ xYl) (hw : Cond.classLink own idx nm ∈ xtbl) (he : h a = some (.inr (ci, fs))) (d : decode cc pc = .ok (.instanceof idx, 3)) (k : X F G B Q nL h sz cs ss (pc + 3) lv (.int 1 :: st)) : X F G B Q nL h sz cs ss pc lv (.ref a :: st) := by
  intro H locs ls hz hR hS hl
  have hK := C.2.2.2.2.2.1
  obtain ⟨cell, h1, h2, h3⟩ := va_recv hK.va (hR.va he) (ci := ci) (q0 := 0) hc rfl
  obtain ⟨c0, t0, f1, f2, f3⟩ := hK.2.2.2.1 _ hp
  cases h3.symm.trans f1
  intro T' hT X0
  obtain ⟨vm', X', st'⟩ := X0.instanceofYes C.1 C.2.2.2.1 (C.2.2.2.2.1 _ hw) (by rw [hT]; exact h1) h2 f2 f3 (g := F0 (xFm F) pc ls (.ref a :: st)) rfl rfl (by rw [C.2.1]; exact d)
  obtain ⟨t, a1, b1⟩ := k H locs ls hz hR hS hl (T'.setVm vm') hT X'
  exact ⟨t, st' t a1, b1⟩
theorem X_instNo (C : xC F G B cc own nL fr lo mc ms) {a ci N idx : Nat} {Cn nm : String} {T : u_T} {fs : List Value} (hc : xCl[ci]? = some (Cn, T, N)) (hp : (Cn, nm) ∈ xNl) (hw : Cond.classLink own idx nm ∈ xtbl) (he : h a = some (.inr (ci, fs))) (d : decode cc pc = .ok (.instanceof idx, 3)) (k : X F G B Q nL h sz cs ss (pc + 3) lv (.int 0 :: st)) : X F G B Q nL h sz cs ss pc lv (.ref a :: st) := by
  intro H locs ls hz hR hS hl
  have hK := C.2.2.2.2.2.1
  exact va_instNo C.1 C.2.1 C.2.2.2.1 (C.2.2.2.2.1 _ hw) (hK.2.2.2.2 _ hp) (va_recv hK.va (hR.va he) (ci := ci) (q0 := 0) hc rfl) d (k H locs ls hz hR hS hl)
theorem X_inst0 (C : xC F G B cc own nL fr lo mc ms) {idx : Nat} (d : decode cc pc = .ok (.instanceof idx, 3)) (k : X F G B Q nL h sz cs ss (pc + 3) lv (.int 0 :: st)) : X F G B Q nL h sz cs ss pc lv (.null :: st) := fun H locs ls hz hR hS hl => lv_instN C.1 C.2.1 d (k H locs ls hz hR hS hl)
theorem X_castY (C : xC F G B cc own nL fr lo mc ms) {a ci N idx : Nat} {Cn nm : String} {T : u_T} {fs : List Value} (hc : xCl[ci]? = some (Cn, T, N)) (hp : (Cn, nm) ∈ xYl) (hw : Cond.classLink own idx nm ∈ xtbl) (he : h a = some (.inr (ci, fs))) (d : decode cc pc = .ok (.checkcast idx, 3)) (k : X F G B Q nL h sz cs ss (pc + 3) lv (.ref a :: st)) : X F G B Q nL h sz cs ss pc lv (.ref a :: st) := by
  intro H locs ls hz hR hS hl
  have hK := C.2.2.2.2.2.1
  obtain ⟨cell, h1, h2, h3⟩ := va_recv hK.va (hR.va he) (ci := ci) (q0 := 0) hc rfl
  obtain ⟨c0, t0, f1, f2, f3⟩ := hK.2.2.2.1 _ hp
  cases h3.symm.trans f1
  intro T' hT X0
  obtain ⟨vm', X', st'⟩ := X0.checkcastYes C.1 C.2.2.2.1 (C.2.2.2.2.1 _ hw) (by rw [hT]; exact h1) h2 f2 f3 (g := F0 (xFm F) pc ls (.ref a :: st)) rfl rfl (by rw [C.2.1]; exact d)
  obtain ⟨t, a1, b1⟩ := k H locs ls hz hR hS hl (T'.setVm vm') hT X'
  exact ⟨t, st' t a1, b1⟩
end XAlloc
section XCallsA
variable {F : xF} {G : xG} {B : Nat} {Q : State → Prop} {nL fr lo mc ms : Nat} {h : xH} {sz cs ss pc : Nat} {lv : List (Nat × Value)} {cc : ByteArray} {own : String}
variable {y : MethodName} {cc' : ByteArray} {nL' fr' lo' mc' ms' idx n z1 : Nat} {ret : Option FieldType} {As rest st0 : List Value} {r : Option Value} {h1 : xH}
theorem X_callVa (C : xC F G B cc own nL fr lo mc ms) {b ci N : Nat} {fs : List Value} {Cn : String} {T : u_T} (hM : xCon (xFl F) y cc' nL' ret fr' lo' mc' ms' G B (.ref b :: As) h sz (kP r h1 z1)) (hV : xV own idx Cn y cc' nL' ret n) (hroom : fr' + 1 ≤ fr ∧ 8 + (nL' + 11) + lo' ≤ lo) (hcs : cs + mc' ≤ mc ∧ ss + ms' ≤ ms) (he : h b = some (.inr (ci, fs))) (hc : xCl[ci]? = some (Cn, T, N)) (hn : As.length = n) (hst : st0 = As.reverse ++ .ref b :: rest) (h8 : (rest.map fun v => v.category).sum ≤ 8) (d : decode cc pc = .ok (.invokevirtual idx, 3)) (kk : X F G B Q nL h1 z1 (cs + mc') (ss + ms') (pc + 3) lv (r.toList ++ rest)) : X F G B Q nL h sz cs ss pc lv st0 := X_callV C hM hV hroom hcs he hc hn hst h8 d (fun v h' z q => by obtain ⟨rfl, rfl, rfl⟩ := q; exact kk)
theorem X_callSa (C : xC F G B cc own nL fr lo mc ms) (hM : xCon (xFl F) y cc' nL' ret fr' lo' mc' ms' G B As h sz (kP r h1 z1)) (hV : xS own idx y cc' nL' ret n) (hroom : fr' + 1 ≤ fr ∧ 8 + (nL' + 11) + lo' ≤ lo) (hcs : cs + mc' ≤ mc ∧ ss + ms' ≤ ms) (hn : As.length = n) (hst : st0 = As.reverse ++ rest) (h8 : (rest.map fun v => v.category).sum ≤ 8) (d : decode cc pc = .ok (.invokestatic idx, 3)) (kk : X F G B Q nL h1 z1 (cs + mc') (ss + ms') (pc + 3) lv (r.toList ++ rest)) : X F G B Q nL h sz cs ss pc lv st0 := X_callS C hM hV hroom hcs hn hst h8 d (fun v h' z q => by obtain ⟨rfl, rfl, rfl⟩ := q; exact kk)
theorem X_callIa (C : xC F G B cc own nL fr lo mc ms) {b : Nat} (hM : xCon (xFl F) y cc' nL' none fr' lo' mc' ms' G B (.ref b :: As) h sz (kP none h1 z1)) (hV : xI own idx y cc' nL' n) (hroom : fr' + 1 ≤ fr ∧ 8 + (nL' + 11) + lo' ≤ lo) (hcs : cs + mc' ≤ mc ∧ ss + ms' ≤ ms) (hn : As.length = n) (hst : st0 = As.reverse ++ .ref b :: rest) (h8 : (rest.map fun v => v.category).sum ≤ 8) (d : decode cc pc = .ok (.invokespecial idx, 3)) (kk : X F G B Q nL h1 z1 (cs + mc') (ss + ms') (pc + 3) lv rest) : X F G B Q nL h sz cs ss pc lv st0 := X_callI C hM hV hroom hcs hn hst h8 d (fun v h' z q => by obtain ⟨rfl, rfl, rfl⟩ := q; exact kk)
theorem X_callIk (C : xC F G B cc own nL fr lo mc ms) {b : Nat} (hM : xCon (xFl F) y cc' nL' none fr' lo' 0 0 G B (.ref b :: As) h sz (kP none h1 sz)) (hV : xI own idx y cc' nL' n) (hroom : fr' + 1 ≤ fr ∧ 8 + (nL' + 11) + lo' ≤ lo) (hcs : cs ≤ mc ∧ ss ≤ ms) (hn : As.length = n) (hst : st0 = As.reverse ++ .ref b :: rest) (h8 : (rest.map fun v => v.category).sum ≤ 8) (d : decode cc pc = .ok (.invokespecial idx, 3)) (kk : X F G B Q nL h1 sz cs ss (pc + 3) lv rest) : X F G B Q nL h sz cs ss pc lv st0 := X_callI C hM hV hroom hcs hn hst h8 d (fun v h' z q => by obtain ⟨rfl, rfl, rfl⟩ := q; exact kk)
end XCallsA
/-- a result with the cells and slots that came before it -/
def oadd {α : Type} (a b : Nat) (o : Option (α × xH × Nat × Nat)) : Option (α × xH × Nat × Nat) := match o with
  | none => none
  | some r => some (r.1, r.2.1, r.2.2.1 + a, r.2.2.2 + b)
theorem o_add {α : Type} {a b : Nat} {o : Option (α × xH × Nat × Nat)} {R : α × xH × Nat × Nat} (h : oadd a b o = some R) : ∃ r, (r.1, r.2.1, r.2.2.1 + a, r.2.2.2 + b) = R ∧ o = some r := by
  cases o with
  | none => cases h
  | some r => exact ⟨r, Option.some.inj h, rfl⟩
def nb (n : Int32) : Bool := !decide (n < 0) && decide (n.toNatClampNeg ≤ 65536)
theorem nb_e {n : Int32} (h : nb n = true) : ¬ n < 0 ∧ n.toNatClampNeg ≤ 65536 := by
  unfold nb at h
  simpa using h
/-- System.arraycopy of ints -/
def cpi (h : xH) (a0 : Nat) (sp : Int32) (a : Nat) (dp n : Int32) : Option xH := match h a0, h a with
  | some (.inl (0, n0, .inl f)), some (.inl (0, n1, .inl g)) => if (!decide (sp < 0) && !decide (dp < 0) && !decide (n < 0) && decide (sp.toNatClampNeg + n.toNatClampNeg ≤ n0) && decide (dp.toNatClampNeg + n.toNatClampNeg ≤ n1)) = true then some (xup h a (.inl (0, n1, .inl (va_cpy f g sp.toNatClampNeg dp.toNatClampNeg n.toNatClampNeg)))) else none
  | _, _ => none
theorem cpi_e {h h' : xH} {a0 a : Nat} {sp dp n : Int32} (e : cpi h a0 sp a dp n = some h') : ∃ n0 n1 f g, h a0 = some (.inl (0, n0, .inl f)) ∧ h a = some (.inl (0, n1, .inl g)) ∧ ¬ sp < 0 ∧ ¬ dp < 0 ∧ ¬ n < 0 ∧ sp.toNatClampNeg + n.toNatClampNeg ≤ n0 ∧ dp.toNatClampNeg + n.toNatClampNeg ≤ n1 ∧ h' = xup h a (.inl (0, n1, .inl (va_cpy f g sp.toNatClampNeg dp.toNatClampNeg n.toNatClampNeg))) := by
  unfold cpi at e
  split at e
  · rename_i n0 f n1 g e0 e1
    obtain ⟨q, e⟩ := o_if e
    cases e
    simp only [Bool.and_eq_true, Bool.not_eq_true', decide_eq_false_iff_not, decide_eq_true_eq] at q
    exact ⟨n0, n1, f, g, e0, e1, q.1.1.1.1, q.1.1.1.2, q.1.1.2, q.1.2, q.2, rfl⟩
  · cases e
/-- a place of an array of references, kind kd, gets the object v of class ci -/
def pq (h : xH) (a kd : Nat) (i : Int32) (v ci : Nat) : Option xH := match h a with
  | some (.inl (c, n, .inr (.inr (.inr (.inr f))))) => if c = kd then (if xin i n = true then (if kc h v ci = true then some (xup h a (.inl (kd, n, .inr (.inr (.inr (.inr (va_up f i.toNatClampNeg (some v)))))))) else none) else none) else none
  | _ => none
theorem pq_e {h h' : xH} {a kd v ci : Nat} {i : Int32} (e : pq h a kd i v ci = some h') : ∃ n f vs, h a = some (.inl (kd, n, .inr (.inr (.inr (.inr f))))) ∧ h v = some (.inr (ci, vs)) ∧ vp_in i n ∧ h' = xup h a (.inl (kd, n, .inr (.inr (.inr (.inr (va_up f i.toNatClampNeg (some v))))))) := by
  unfold pq at e
  split at e
  · rename_i c n f he
    split at e
    · rename_i hc
      subst hc
      obtain ⟨q, e⟩ := o_if e
      obtain ⟨q2, e⟩ := o_if e
      cases e
      obtain ⟨vs, hv⟩ := kc_e q2
      exact ⟨n, f, vs, he, hv, xin_vp q, rfl⟩
    · cases e
  · cases e
/-- .. gets null -/
def pn (h : xH) (a kd : Nat) (i : Int32) : Option xH := match h a with
  | some (.inl (c, n, .inr (.inr (.inr (.inr f))))) => if c = kd then (if xin i n = true then some (xup h a (.inl (kd, n, .inr (.inr (.inr (.inr (va_up f i.toNatClampNeg none))))))) else none) else none
  | _ => none
theorem pn_e {h h' : xH} {a kd : Nat} {i : Int32} (e : pn h a kd i = some h') : ∃ n f, h a = some (.inl (kd, n, .inr (.inr (.inr (.inr f))))) ∧ vp_in i n ∧ h' = xup h a (.inl (kd, n, .inr (.inr (.inr (.inr (va_up f i.toNatClampNeg none)))))) := by
  unfold pn at e
  split at e
  · rename_i c n f he
    split at e
    · rename_i hc
      subst hc
      obtain ⟨q, e⟩ := o_if e
      cases e
      exact ⟨n, f, he, xin_vp q, rfl⟩
    · cases e
  · cases e

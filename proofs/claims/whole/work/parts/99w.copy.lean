/-! arraycopy of longs and shorts -/
section CPY
variable {F : xF} {G : xG} {B : Nat} {Q : State → Prop} {nL fr lo mc ms : Nat} {h : xH} {sz cs ss pc : Nat} {lv lv' : List (Nat × Value)} {st : List Value} {cc : ByteArray} {own : String}
theorem X_copyl (C : xC F G B cc own nL fr lo mc ms) {idx a0 a k n0 n1 : Nat} {f g : Nat → Int64} {sp dp n : Int32} (hw : Cond.methodLink own idx arraycopyName ∈ xtbl ∧ Cond.native arraycopyName ∈ xtbl ∧ Cond.static arraycopyName ∈ xtbl ∧ Cond.initialized "java/lang/System" ∈ xtbl) (hk : xT[k]? = some .long) (he0 : h a0 = some (.inl (k, n0, .inr (.inl f)))) (he1 : h a = some (.inl (k, n1, .inr (.inl g)))) (h1 : ¬ sp < 0) (h2 : ¬ dp < 0) (h3 : ¬ n < 0) (h4 : sp.toNatClampNeg + n.toNatClampNeg ≤ n0) (h5 : dp.toNatClampNeg + n.toNatClampNeg ≤ n1) (hroom : 1 ≤ fr ∧ (st.map fun v => v.category).sum + (nativeFrameWords "java/lang/System" "arraycopy" 5 + 11) ≤ lo) (d : decode cc pc = .ok (.invokestatic idx, 3)) (kk : X F G B Q nL (xup h a (.inl (k, n1, .inr (.inl (va_cpy f g sp.toNatClampNeg dp.toNatClampNeg n.toNatClampNeg))))) sz cs ss (pc + 3) lv st) : X F G B Q nL h sz cs ss pc lv (.int n :: .int dp :: .ref a :: .int sp :: .ref a0 :: st) := by
  intro H locs ls hz hR hS hl
  have hts := C.2.2.2.2.1
  have hK := C.2.2.2.2.2.1
  have hR0 := C.2.2.2.2.2.2.2.2
  have nn : ∀ z : Int32, ¬ z < 0 → z.toInt = (z.toNatClampNeg : Int) := by
    intro z hz
    have hz0 : (0 : Int) ≤ z.toInt := by
      have := Int32.not_lt.mp hz
      simpa using Int32.le_iff_toInt_le.mp this
    show z.toInt = ((z.toInt.toNat : Nat) : Int)
    omega
  intro T hT X0
  have hat := hR a _ he1
  have hc0 : H[a0]? = some (vp_cell (G.2.2 k) (n0, .inr (.inl f))) := (hR a0 _ he0).2
  have hc1 : H[a]? = some (vp_cell (G.2.2 k) (n1, .inr (.inl g))) := hat.2
  obtain ⟨-, k0, hk0, cm0, hkk0⟩ := (hK.2.1 k _ hk).1 n0 (fun j => .long (f j))
  obtain ⟨-, k1, hk1, cm1, hkk1⟩ := (hK.2.1 k _ hk).1 n1 (fun j => .long (g j))
  obtain ⟨vm', X', step⟩ := X0.arraycopy C.1 C.2.2.2.1 (hts _ hw.1) (hts _ hw.2.1) (hts _ hw.2.2.1) (hts _ hw.2.2.2) (src := a0) (dst := a) (cs := vp_cell (G.2.2 k) (n0, .inr (.inl f))) (cd := vp_cell (G.2.2 k) (n1, .inr (.inl g))) (srcPos := sp) (destPos := dp) (n := n) (by rw [hT]; exact hc0) (by rw [hT]; exact hc1)
    (fun _ h => by cases h) (fun _ h => by cases h) (fun h => by cases h) (fun h => by cases h) hk0 hk1 hkk0 hkk1 (by simp [refKind]) h1 h2 h3
    (by rw [nn sp h1, nn n h3]; show ¬ _ > ((arrV _ n0 (fun j => .long (f j))).slots.size : Int); rw [arrV_size]; omega)
    (by rw [nn dp h2, nn n h3]; show ¬ _ > ((arrV _ n1 (fun j => .long (g j))).slots.size : Int); rw [arrV_size]; omega)
    (fun vm₁ _ i hi => by
      have e : (vp_cell (G.2.2 k) (n0, .inr (.inl f))).slots.getD (sp.toNatClampNeg + i) .null = .long (f (sp.toNatClampNeg + i)) := by
        show (arrV _ n0 (fun j => .long (f j))).slots.getD _ _ = _
        rw [Array.getD_eq_getD_getElem?, arrV_read _ _ (by omega)]
        rfl
      refine ⟨?_, ?_⟩
      · rw [e]
        rfl
      · rw [e]
        exact trivial)
    (g := F0 (xFm F) pc ls (.int n :: .int dp :: .ref a :: .int sp :: .ref a0 :: st)) rfl (by rw [C.2.2.1]; exact hl.1) (rest := st) rfl (by rw [C.2.1]; exact d) (by show 1 ≤ (xFR F).frames; rw [hR0]; exact hroom.1) (by show 2 * 0 + _ + _ ≤ (xFR F).locals; rw [hR0]; have := hroom.2; show 2 * 0 + _ + _ ≤ lo; omega)
  have e1 : copied (vp_cell (G.2.2 k) (n0, .inr (.inl f))) (vp_cell (G.2.2 k) (n1, .inr (.inl g))) sp dp n = vp_cell (G.2.2 k) (n1, .inr (.inl (va_cpy f g sp.toNatClampNeg dp.toNatClampNeg n.toNatClampNeg))) := va_copied (fun z => .long z) _ _ f g h4
  rw [e1] at X' step
  have hla : a < H.size := (Array.getElem?_eq_some_iff.mp hc1).1
  have hheap : ((T.setVm vm').setCell a (vp_cell (G.2.2 k) (n1, .inr (.inl (va_cpy f g sp.toNatClampNeg dp.toNatClampNeg n.toNatClampNeg))))).heap = H.setIfInBounds a (vp_cell (G.2.2 k) (n1, .inr (.inl (va_cpy f g sp.toNatClampNeg dp.toNatClampNeg n.toNatClampNeg)))) := by rw [← hT]; rfl
  have oq : ∀ q : Nat, q ≠ a → (H.setIfInBounds a (vp_cell (G.2.2 k) (n1, .inr (.inl (va_cpy f g sp.toNatClampNeg dp.toNatClampNeg n.toNatClampNeg)))))[q]? = H[q]? := fun q hq => by simp [Array.getElem?_setIfInBounds, Ne.symm hq]
  obtain ⟨t, a1, b1⟩ := kk _ _ ls (by rw [Array.size_setIfInBounds]; exact hz) (hR.set hat.1 (show (H.setIfInBounds a _)[a]? = some _ by simp [Array.getElem?_setIfInBounds, hla]) oq) ⟨by simp; exact hS.1, fun q g1 g2 => by
      rw [oq q (fun e => g2 (by rw [e]; exact hat.1))]
      exact hS.2.1 q g1 g2, fun q hq => by
      rcases List.mem_append.mp hq with h | h
      · exact hS.2.2 q h
      · obtain ⟨z, -, hz⟩ := List.mem_map.mp h
        rw [← hz]
        exact hat.1⟩ hl _ hheap X'
  exact ⟨t, step t a1, b1⟩
theorem X_copys (C : xC F G B cc own nL fr lo mc ms) {idx a0 a k n0 n1 : Nat} {f g : Nat → Int32} {sp dp n : Int32} (hw : Cond.methodLink own idx arraycopyName ∈ xtbl ∧ Cond.native arraycopyName ∈ xtbl ∧ Cond.static arraycopyName ∈ xtbl ∧ Cond.initialized "java/lang/System" ∈ xtbl) (hk : xT[k]? = some .short) (he0 : h a0 = some (.inl (k, n0, .inl f))) (he1 : h a = some (.inl (k, n1, .inl g))) (h1 : ¬ sp < 0) (h2 : ¬ dp < 0) (h3 : ¬ n < 0) (h4 : sp.toNatClampNeg + n.toNatClampNeg ≤ n0) (h5 : dp.toNatClampNeg + n.toNatClampNeg ≤ n1) (hfit : ∀ i, i < n.toNatClampNeg → fits .short (.int (f (sp.toNatClampNeg + i))) = true) (hroom : 1 ≤ fr ∧ (st.map fun v => v.category).sum + (nativeFrameWords "java/lang/System" "arraycopy" 5 + 11) ≤ lo) (d : decode cc pc = .ok (.invokestatic idx, 3)) (kk : X F G B Q nL (xup h a (.inl (k, n1, .inl (va_cpy f g sp.toNatClampNeg dp.toNatClampNeg n.toNatClampNeg)))) sz cs ss (pc + 3) lv st) : X F G B Q nL h sz cs ss pc lv (.int n :: .int dp :: .ref a :: .int sp :: .ref a0 :: st) := by
  intro H locs ls hz hR hS hl
  have hts := C.2.2.2.2.1
  have hK := C.2.2.2.2.2.1
  have hR0 := C.2.2.2.2.2.2.2.2
  have nn : ∀ z : Int32, ¬ z < 0 → z.toInt = (z.toNatClampNeg : Int) := by
    intro z hz
    have hz0 : (0 : Int) ≤ z.toInt := by
      have := Int32.not_lt.mp hz
      simpa using Int32.le_iff_toInt_le.mp this
    show z.toInt = ((z.toInt.toNat : Nat) : Int)
    omega
  intro T hT X0
  have hat := hR a _ he1
  have hc0 : H[a0]? = some (vp_cell (G.2.2 k) (n0, .inl f)) := (hR a0 _ he0).2
  have hc1 : H[a]? = some (vp_cell (G.2.2 k) (n1, .inl g)) := hat.2
  obtain ⟨-, k0, hk0, cm0, hkk0⟩ := (hK.2.1 k _ hk).1 n0 (fun j => .int (f j))
  obtain ⟨-, k1, hk1, cm1, hkk1⟩ := (hK.2.1 k _ hk).1 n1 (fun j => .int (g j))
  obtain ⟨vm', X', step⟩ := X0.arraycopy C.1 C.2.2.2.1 (hts _ hw.1) (hts _ hw.2.1) (hts _ hw.2.2.1) (hts _ hw.2.2.2) (src := a0) (dst := a) (cs := vp_cell (G.2.2 k) (n0, .inl f)) (cd := vp_cell (G.2.2 k) (n1, .inl g)) (srcPos := sp) (destPos := dp) (n := n) (by rw [hT]; exact hc0) (by rw [hT]; exact hc1)
    (fun _ h => by cases h) (fun _ h => by cases h) (fun h => by cases h) (fun h => by cases h) hk0 hk1 hkk0 hkk1 (by simp [refKind]) h1 h2 h3
    (by rw [nn sp h1, nn n h3]; show ¬ _ > ((arrV _ n0 (fun j => .int (f j))).slots.size : Int); rw [arrV_size]; omega)
    (by rw [nn dp h2, nn n h3]; show ¬ _ > ((arrV _ n1 (fun j => .int (g j))).slots.size : Int); rw [arrV_size]; omega)
    (fun vm₁ _ i hi => by
      have e : (vp_cell (G.2.2 k) (n0, .inl f)).slots.getD (sp.toNatClampNeg + i) .null = .int (f (sp.toNatClampNeg + i)) := by
        show (arrV _ n0 (fun j => .int (f j))).slots.getD _ _ = _
        rw [Array.getD_eq_getD_getElem?, arrV_read _ _ (by omega)]
        rfl
      refine ⟨?_, ?_⟩
      · rw [e]
        exact hfit i hi
      · rw [e]
        exact trivial)
    (g := F0 (xFm F) pc ls (.int n :: .int dp :: .ref a :: .int sp :: .ref a0 :: st)) rfl (by rw [C.2.2.1]; exact hl.1) (rest := st) rfl (by rw [C.2.1]; exact d) (by show 1 ≤ (xFR F).frames; rw [hR0]; exact hroom.1) (by show 2 * 0 + _ + _ ≤ (xFR F).locals; rw [hR0]; have := hroom.2; show 2 * 0 + _ + _ ≤ lo; omega)
  have e1 : copied (vp_cell (G.2.2 k) (n0, .inl f)) (vp_cell (G.2.2 k) (n1, .inl g)) sp dp n = vp_cell (G.2.2 k) (n1, .inl (va_cpy f g sp.toNatClampNeg dp.toNatClampNeg n.toNatClampNeg)) := va_copied (fun z => .int z) _ _ f g h4
  rw [e1] at X' step
  have hla : a < H.size := (Array.getElem?_eq_some_iff.mp hc1).1
  have hheap : ((T.setVm vm').setCell a (vp_cell (G.2.2 k) (n1, .inl (va_cpy f g sp.toNatClampNeg dp.toNatClampNeg n.toNatClampNeg)))).heap = H.setIfInBounds a (vp_cell (G.2.2 k) (n1, .inl (va_cpy f g sp.toNatClampNeg dp.toNatClampNeg n.toNatClampNeg))) := by rw [← hT]; rfl
  have oq : ∀ q : Nat, q ≠ a → (H.setIfInBounds a (vp_cell (G.2.2 k) (n1, .inl (va_cpy f g sp.toNatClampNeg dp.toNatClampNeg n.toNatClampNeg))))[q]? = H[q]? := fun q hq => by simp [Array.getElem?_setIfInBounds, Ne.symm hq]
  obtain ⟨t, a1, b1⟩ := kk _ _ ls (by rw [Array.size_setIfInBounds]; exact hz) (hR.set hat.1 (show (H.setIfInBounds a _)[a]? = some _ by simp [Array.getElem?_setIfInBounds, hla]) oq) ⟨by simp; exact hS.1, fun q g1 g2 => by
      rw [oq q (fun e => g2 (by rw [e]; exact hat.1))]
      exact hS.2.1 q g1 g2, fun q hq => by
      rcases List.mem_append.mp hq with h | h
      · exact hS.2.2 q h
      · obtain ⟨z, -, hz⟩ := List.mem_map.mp h
        rw [← hz]
        exact hat.1⟩ hl _ hheap X'
  exact ⟨t, step t a1, b1⟩
end CPY
def cpl (h : xH) (a0 : Nat) (sp : Int32) (a : Nat) (dp n : Int32) : Option xH := match h a0, h a with
  | some (.inl (1, n0, .inr (.inl f))), some (.inl (1, n1, .inr (.inl g))) => if (!decide (sp < 0) && !decide (dp < 0) && !decide (n < 0) && decide (sp.toNatClampNeg + n.toNatClampNeg ≤ n0) && decide (dp.toNatClampNeg + n.toNatClampNeg ≤ n1)) = true then some (xup h a (.inl (1, n1, .inr (.inl (va_cpy f g sp.toNatClampNeg dp.toNatClampNeg n.toNatClampNeg))))) else none
  | _, _ => none
theorem cpl_e {h h' : xH} {a0 a : Nat} {sp dp n : Int32} (e : cpl h a0 sp a dp n = some h') : ∃ n0 n1 f g, h a0 = some (.inl (1, n0, .inr (.inl f))) ∧ h a = some (.inl (1, n1, .inr (.inl g))) ∧ ¬ sp < 0 ∧ ¬ dp < 0 ∧ ¬ n < 0 ∧ sp.toNatClampNeg + n.toNatClampNeg ≤ n0 ∧ dp.toNatClampNeg + n.toNatClampNeg ≤ n1 ∧ h' = xup h a (.inl (1, n1, .inr (.inl (va_cpy f g sp.toNatClampNeg dp.toNatClampNeg n.toNatClampNeg)))) := by
  unfold cpl at e
  split at e
  · rename_i n0 f n1 g e0 e1
    obtain ⟨q, e⟩ := o_if e
    cases e
    simp only [Bool.and_eq_true, Bool.not_eq_true', decide_eq_false_iff_not, decide_eq_true_eq] at q
    exact ⟨n0, n1, f, g, e0, e1, q.1.1.1.1, q.1.1.1.2, q.1.1.2, q.1.2, q.2, rfl⟩
  · cases e
def cps (h : xH) (a0 : Nat) (sp : Int32) (a : Nat) (dp n : Int32) : Option xH := match h a0, h a with
  | some (.inl (3, n0, .inl f)), some (.inl (3, n1, .inl g)) => if (!decide (sp < 0) && !decide (dp < 0) && !decide (n < 0) && decide (sp.toNatClampNeg + n.toNatClampNeg ≤ n0) && decide (dp.toNatClampNeg + n.toNatClampNeg ≤ n1) && (List.range n.toNatClampNeg).all (fun i => fits .short (.int (f (sp.toNatClampNeg + i))))) = true then some (xup h a (.inl (3, n1, .inl (va_cpy f g sp.toNatClampNeg dp.toNatClampNeg n.toNatClampNeg)))) else none
  | _, _ => none
theorem cps_e {h h' : xH} {a0 a : Nat} {sp dp n : Int32} (e : cps h a0 sp a dp n = some h') : ∃ n0 n1 f g, h a0 = some (.inl (3, n0, .inl f)) ∧ h a = some (.inl (3, n1, .inl g)) ∧ ¬ sp < 0 ∧ ¬ dp < 0 ∧ ¬ n < 0 ∧ sp.toNatClampNeg + n.toNatClampNeg ≤ n0 ∧ dp.toNatClampNeg + n.toNatClampNeg ≤ n1 ∧ (∀ i, i < n.toNatClampNeg → fits .short (.int (f (sp.toNatClampNeg + i))) = true) ∧ h' = xup h a (.inl (3, n1, .inl (va_cpy f g sp.toNatClampNeg dp.toNatClampNeg n.toNatClampNeg))) := by
  unfold cps at e
  split at e
  · rename_i n0 f n1 g e0 e1
    obtain ⟨q, e⟩ := o_if e
    cases e
    simp only [Bool.and_eq_true, Bool.not_eq_true', decide_eq_false_iff_not, decide_eq_true_eq, List.all_eq_true, List.mem_range] at q
    exact ⟨n0, n1, f, g, e0, e1, q.1.1.1.1.1, q.1.1.1.1.2, q.1.1.1.2, q.1.1.2, q.1.2, q.2, rfl⟩
  · cases e

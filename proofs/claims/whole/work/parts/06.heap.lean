/-! rows of X: fields, arrays, new cells -/
section XHeap
variable {F : xF} {G : xG} {B : Nat} {Q : State → Prop} {nL fr lo mc ms : Nat} {h : xH} {sz cs ss pc : Nat} {lv lv' : List (Nat × Value)} {st : List Value} {cc : ByteArray} {own : String}
/-- what a class's fields need: its words, types, names -/
def xO (ci : Nat) (Cn : String) (T : u_T) (N : Nat) (ty0 : Nat → FieldType) : Prop := (∀ w ∈ u_ws Cn T N, w ∈ xtbl) ∧ xCl[ci]? = some (Cn, T, N) ∧ (∀ k, k < N → parseFieldDescriptor (T k).2.2.1 = some (ty0 k)) ∧ (∀ a, a < N → ∀ b, b < N → a ≠ b → (T a).2.1 ≠ (T b).2.1)
theorem X_get (C : xC F G B cc own nL fr lo mc ms) {a ci k idx N : Nat} {fs : List Value} {v : Value} {Cn : String} {T : u_T} {ty0 : Nat → FieldType} (O : xO ci Cn T N ty0) (hw : k < N ∧ Cond.fieldLink own idx (T k).1 (T k).2.1 (T k).2.2.1 ∈ xtbl) (he : h a = some (.inr (ci, fs))) (hv : fs[k]? = some v) (d : decode cc pc = .ok (.getfield idx, 3)) (kk : X F G B Q nL h sz cs ss (pc + 3) lv (v :: st)) : X F G B Q nL h sz cs ss pc lv (.ref a :: st) := by
  intro H locs ls hz hR hS hl
  exact va_get (D := (G.1, G.2.1)) C.1 C.2.1 C.2.2.2.2.1 O.1 C.2.2.2.1 C.2.2.2.2.2.1.va (hR.va he) 0 rfl O.2.1 k hw.1 (C.2.2.2.2.1 _ hw.2) (fun _ q => q) hv d (kk H locs ls hz hR hS hl)
theorem X_put (C : xC F G B cc own nL fr lo mc ms) {a ci k idx N : Nat} {fs : List Value} {v : Value} {Cn : String} {T : u_T} {ty0 : Nat → FieldType} (O : xO ci Cn T N ty0) (hw : k < N ∧ Cond.fieldLink own idx (T k).1 (T k).2.1 (T k).2.2.1 ∈ xtbl) (hfin : (T k).2.2.2 = false) (he : h a = some (.inr (ci, fs))) (hn : narrow (ty0 k) v = v) (hfit : fits (ty0 k) v = true) (hlen : k < fs.length) (d : decode cc pc = .ok (.putfield idx, 3)) (kk : X F G B Q nL (xup h a (.inr (ci, fs.set k v))) sz cs ss (pc + 3) lv st) : X F G B Q nL h sz cs ss pc lv (v :: .ref a :: st) := by
  intro H locs ls hz hR hS hl
  have hts := C.2.2.2.2.1
  have hK := C.2.2.2.2.2.1.va
  have hap := va_apart (own := own) hts O.1 ty0 O.2.2.1 O.2.2.2 hK O.2.1
  obtain ⟨hBa, r, h1, cell, q1, q2, q3, q4⟩ := hR a _ he
  have hr : r = (Cn, T, N) := Option.some.inj (h1.symm.trans O.2.1)
  subst hr
  obtain ⟨hSl, hfc, kC, hkC, hkind⟩ := hK.1 ci _ O.2.1
  obtain ⟨cf, kf, fi, f, hi, hsl⟩ := hSl k hw.1
  have hlay := hts _ (O.1 _ (u_in_lay hw.1))
  unfold u_lay at hlay
  rw [if_neg (by rw [hfin]; decide)] at hlay
  have hst := (u_facts hfc hkC (u_lays hts O.1 hw.1) hi).1
  have h6 := u_store hfc hkC hkind hlay hi (O.2.2.1 k hw.1) hn hfit
  refine W.putK C.1 C.2.1 (f := f) ⟨C.2.2.2.1, hts _ hw.2, ⟨_, _, _, hi⟩, hst⟩ (by rw [q2]; exact h6) q1 q3 (by rw [hsl]; exact k2_hasslot (q4 k hw.1)) rfl rfl d fun H' e1 e2 e3 => ?_
  rw [hsl] at e1 ⊢
  exact kk H' _ ls (e2.trans hz) (hR.set hBa ⟨_, O.2.1, t_OB.to (V := updV (vp_V fs) k v) ⟨_, e1, q2, q3, t_set q4 hap hw.1 v⟩ (fun j _ => vp_updV_set hlen v j)⟩ e3) (hS.put e2 e3 hBa) hl
/-- a final field, in its class's constructor -/
theorem X_putF (C : xC F G B cc own nL fr lo mc ms) (hin : (xFM F).name = "<init>") {a ci k idx N : Nat} {fs : List Value} {v : Value} {Cn : String} {T : u_T} {ty0 : Nat → FieldType} (O : xO ci Cn T N ty0) (hw : k < N ∧ Cond.fieldLink own idx (T k).1 (T k).2.1 (T k).2.2.1 ∈ xtbl) (hfin : (T k).2.2.2 = true ∧ (T k).1 = own) (he : h a = some (.inr (ci, fs))) (hn : narrow (ty0 k) v = v) (hfit : fits (ty0 k) v = true) (hlen : k < fs.length) (d : decode cc pc = .ok (.putfield idx, 3)) (kk : X F G B Q nL (xup h a (.inr (ci, fs.set k v))) sz cs ss (pc + 3) lv st) : X F G B Q nL h sz cs ss pc lv (v :: .ref a :: st) := by
  intro H locs ls hz hR hS hl
  have hts := C.2.2.2.2.1
  have hK := C.2.2.2.2.2.1.va
  have hown := C.2.2.2.1
  have hap := va_apart (own := own) hts O.1 ty0 O.2.2.1 O.2.2.2 hK O.2.1
  obtain ⟨hBa, r, h1, cell, q1, q2, q3, q4⟩ := hR a _ he
  have hr : r = (Cn, T, N) := Option.some.inj (h1.symm.trans O.2.1)
  subst hr
  obtain ⟨hSl, hfc, kC, hkC, hkind⟩ := hK.1 ci _ O.2.1
  obtain ⟨cf, kf, fi, f, hi, hsl⟩ := hSl k hw.1
  have hlay := hts _ (O.1 _ (u_in_lay hw.1))
  unfold u_lay at hlay
  rw [if_pos hfin.1] at hlay
  have hst := (u_facts hfc hkC (u_lays hts O.1 hw.1) hi).1
  have hcf : (xFm F).cls = cf := by
    obtain ⟨_, _, c', _, _, _, -, -, hf', -, -, -, hown2, -⟩ := Cond.laysFinal_spec hlay
    have e1 : c' = cf := by have := hi.symm.trans hf'; simp at this; exact this.1.symm
    rw [hfin.2] at hown2
    rw [← e1]; exact Option.some.inj (hown.symm.trans hown2)
  have h6 := u_fits hfc hkC hkind (Or.inr hlay) hi (O.2.2.1 k hw.1) hn hfit
  refine W.putFinK C.1 C.2.1 hown (hts _ hw.2) hi hst hcf hin (by rw [q2]; exact h6) q1 q3 (by rw [hsl]; exact k2_hasslot (q4 k hw.1)) rfl rfl d fun H' e1 e2 e3 => ?_
  rw [hsl] at e1 ⊢
  exact kk H' _ ls (e2.trans hz) (hR.set hBa ⟨_, O.2.1, t_OB.to (V := updV (vp_V fs) k v) ⟨_, e1, q2, q3, t_set q4 hap hw.1 v⟩ (fun j _ => vp_updV_set hlen v j)⟩ e3) (hS.put e2 e3 hBa) hl
theorem xS_push {H0 H H1 : Heap} {locs : List Loc} (hS : va_S (fun q => B ≤ q) H0 H locs) (z1 : H1.size = H.size + 1) (o1 : ∀ q, q < H.size → H1[q]? = H[q]?) : va_S (fun q => B ≤ q) H0 H1 locs := ⟨Nat.le_trans hS.1 (by omega), fun x h1 h2 => (o1 x (Nat.lt_of_lt_of_le h1 hS.1)).trans (hS.2.1 x h1 h2), hS.2.2⟩
theorem X_new (C : xC F G B cc own nL fr lo mc ms) {ci idx N : Nat} {fs : List Value} {Cn : String} {T : u_T} {ty0 : Nat → FieldType} (O : xO ci Cn T N ty0) (hw : Cond.classLink own idx Cn ∈ xtbl ∧ Cond.instantiable Cn N ∈ xtbl ∧ Cond.initialized Cn ∈ xtbl) (hfs : ∀ j, j < N → defaultValue (ty0 j) = vp_V fs j) (hcs : cs + 1 ≤ mc) (hss : ss + N ≤ ms) (d : decode cc pc = .ok (.new idx, 3)) (kk : h sz = none → B ≤ sz → X F G B Q nL (xup h sz (.inr (ci, fs))) (sz + 1) (cs + 1) (ss + N) (pc + 3) lv (.ref sz :: st)) : X F G B Q nL h sz cs ss pc lv st := by
  intro H locs ls hz hR hS hl
  have hts := C.2.2.2.2.1
  have hK := C.2.2.2.2.2.1.va
  have hKn := hK.1 ci _ O.2.1
  have hB : B ≤ H.size := Nat.le_trans C.2.2.2.2.2.2.1 hS.1
  have hroom := C.2.2.2.2.2.2.2.2
  refine W.newcK C.1 C.2.1 C.2.2.2.1 (hts _ hw.1) (hts _ hw.2.1) (hts _ hw.2.2) rfl d (by show cs + 1 ≤ (xFR F).cells; rw [hroom]; exact hcs) (by show ss + N ≤ (xFR F).slots; rw [hroom]; exact hss) hKn.2.1 rfl fun H1 kC hkC e1 z1 o1 => ?_
  have hp := hR.push (e := .inr (ci, fs)) hB ⟨_, O.2.1, (u_born ty0 hts O.1 hKn hkC e1 O.2.2.1).to hfs⟩ o1
  subst hz
  exact kk hp.1 hB H1 locs ls z1 hp.2 (xS_push hS z1 o1) hl
theorem X_newa (C : xC F G B cc own nL fr lo mc ms) {k N : Nat} {atype : ArrayType} {ty : FieldType} {n : Int32} {a0 : vp_A} (hty : newarray.typeOf atype = ty) (hw : xT[k]? = some ty ∧ Cond.arrayClass ty ∈ xtbl) (ha : ∀ cA : ClassId, vp_cell cA a0 = arrV cA N (fun _ => defaultValue ty)) (hn : ¬ n < 0) (hN : n.toNatClampNeg = N) (hbytes : N * componentBytes ty ≤ 536870912) (hcs : cs + 1 ≤ mc) (hss : ss + N ≤ ms) (d : decode cc pc = .ok (.newarray atype, 2)) (kk : h sz = none → B ≤ sz → X F G B Q nL (xup h sz (.inl (k, a0))) (sz + 1) (cs + 1) (ss + N) (pc + 2) lv (.ref sz :: st)) : X F G B Q nL h sz cs ss pc lv (.int n :: st) := by
  intro H locs ls hz hR hS hl
  have hts := C.2.2.2.2.1
  have hK := C.2.2.2.2.2.1
  have hB : B ≤ H.size := Nat.le_trans C.2.2.2.2.2.2.1 hS.1
  have hroom := C.2.2.2.2.2.2.2.2
  subst hty
  refine va_newaK C.1 C.2.1 (hts _ hw.2) rfl d rfl hn hN hbytes (by show cs + 1 ≤ (xFR F).cells; rw [hroom]; exact hcs) (by show ss + N ≤ (xFR F).slots; rw [hroom]; exact hss) rfl fun H1 cA e1 z1 o1 hAr hNm => ?_
  have hA : cA = G.2.2 k := by
    have h2 := (hK.2.1 k _ hw.1).2
    have h3 : (xFs F).vm.findClass ("[" ++ (newarray.typeOf atype).toString) = some (G.2.2 k) := by
      revert h2
      cases atype <;> exact fun h2 => h2
    exact Option.some.inj (hNm.symm.trans h3)
  have hp := hR.push (e := .inl (k, a0)) hB (by show H1[H.size]? = some (vp_cell (G.2.2 k) a0); rw [ha, ← hA]; exact e1) o1
  subst hz
  exact kk hp.1 hB H1 locs ls z1 hp.2 (xS_push hS z1 o1) hl
theorem X_iald (C : xC F G B cc own nL fr lo mc ms) {a k n : Nat} {f : Nat → Int32} {i : Int32} (hk : xT[k]? = some .int) (he : h a = some (.inl (k, n, .inl f))) (hin : vp_in i n) (d : decode cc pc = .ok (.iaload, 1)) (kk : X F G B Q nL h sz cs ss (pc + 1) lv (.int (f i.toNatClampNeg) :: st)) : X F G B Q nL h sz cs ss pc lv (.int i :: .ref a :: st) := fun H locs ls hz hR hS hl => va_iald (D := (G.1, G.2.1)) C.1 C.2.1 (C.2.2.2.2.2.1.va1 hk) (hR.va he) 0 0 rfl rfl hin d (kk H locs ls hz hR hS hl)
theorem X_zald (C : xC F G B cc own nL fr lo mc ms) {a k n : Nat} {f : Nat → Int32} {i : Int32} (hk : xT[k]? = some .boolean) (he : h a = some (.inl (k, n, .inl f))) (hin : vp_in i n) (d : decode cc pc = .ok (.baload, 1)) (kk : X F G B Q nL h sz cs ss (pc + 1) lv (.int (f i.toNatClampNeg) :: st)) : X F G B Q nL h sz cs ss pc lv (.int i :: .ref a :: st) := fun H locs ls hz hR hS hl => va_zald (D := (G.1, G.2.1)) C.1 C.2.1 (C.2.2.2.2.2.1.va1 hk) (hR.va he) 0 0 rfl rfl hin d (kk H locs ls hz hR hS hl)
theorem X_sald (C : xC F G B cc own nL fr lo mc ms) {a k n : Nat} {f : Nat → Int32} {i : Int32} (hk : xT[k]? = some .short) (he : h a = some (.inl (k, n, .inl f))) (hin : vp_in i n) (d : decode cc pc = .ok (.saload, 1)) (kk : X F G B Q nL h sz cs ss (pc + 1) lv (.int (f i.toNatClampNeg) :: st)) : X F G B Q nL h sz cs ss pc lv (.int i :: .ref a :: st) := fun H locs ls hz hR hS hl => va_sald (D := (G.1, G.2.1)) C.1 C.2.1 (C.2.2.2.2.2.1.va1 hk) (hR.va he) 0 0 rfl rfl hin d (kk H locs ls hz hR hS hl)
theorem X_lald (C : xC F G B cc own nL fr lo mc ms) {a k n : Nat} {f : Nat → Int64} {i : Int32} (hk : xT[k]? = some .long) (he : h a = some (.inl (k, n, .inr (.inl f)))) (hin : vp_in i n) (d : decode cc pc = .ok (.laload, 1)) (kk : X F G B Q nL h sz cs ss (pc + 1) lv (.long (f i.toNatClampNeg) :: st)) : X F G B Q nL h sz cs ss pc lv (.int i :: .ref a :: st) := fun H locs ls hz hR hS hl => va_lald (D := (G.1, G.2.1)) C.1 C.2.1 (C.2.2.2.2.2.1.va1 hk) (hR.va he) 0 0 rfl rfl hin d (kk H locs ls hz hR hS hl)
theorem X_aald (C : xC F G B cc own nL fr lo mc ms) {a k n : Nat} {Cn : String} {f : Nat → Option Nat} {i : Int32} (hk : xT[k]? = some (.object Cn)) (he : h a = some (.inl (k, n, .inr (.inr (.inr (.inr f)))))) (hin : vp_in i n) (d : decode cc pc = .ok (.aaload, 1)) (kk : X F G B Q nL h sz cs ss (pc + 1) lv (va_rf (f i.toNatClampNeg) :: st)) : X F G B Q nL h sz cs ss pc lv (.int i :: .ref a :: st) := fun H locs ls hz hR hS hl => va_aldq (D := (G.1, G.2.1)) C.1 C.2.1 (C.2.2.2.2.2.1.va1 hk) (hR.va he) 0 0 rfl rfl hin d (kk H locs ls hz hR hS hl)
theorem X_alen (C : xC F G B cc own nL fr lo mc ms) {a k : Nat} {x : vp_A} {ty : FieldType} {v : Int32} (hk : xT[k]? = some ty) (he : h a = some (.inl (k, x))) (hv : Int32.ofNat x.1 = v) (d : decode cc pc = .ok (.arraylength, 1)) (kk : X F G B Q nL h sz cs ss (pc + 1) lv (.int v :: st)) : X F G B Q nL h sz cs ss pc lv (.ref a :: st) := fun H locs ls hz hR hS hl => va_alen (D := (G.1, G.2.1)) C.1 C.2.1 (C.2.2.2.2.2.1.va1 hk) (hR.va he) 0 0 rfl rfl hv d (kk H locs ls hz hR hS hl)
theorem X_iast (C : xC F G B cc own nL fr lo mc ms) {a k n : Nat} {f : Nat → Int32} {i : Int32} {x : Int32} (hk : xT[k]? = some .int) (he : h a = some (.inl (k, n, .inl f))) (hin : vp_in i n) (d : decode cc pc = .ok (.iastore, 1)) (kk : X F G B Q nL (xup h a (.inl (k, n, .inl (upd f i.toNatClampNeg x)))) sz cs ss (pc + 1) lv st) : X F G B Q nL h sz cs ss pc lv (.int x :: .int i :: .ref a :: st) := by
  intro H locs ls hz hR hS hl
  have hat := hR a _ he
  have hcell : H[a]? = some (vp_cell (G.2.2 k) (n, .inl f)) := hat.2
  refine W.iast C.1 C.2.1 hcell ((C.2.2.2.2.2.1.2.1 k _ hk).1 n (fun j => .int (f j))) (fun q => by cases q) (by show ¬ (i < 0 ∨ (arrV _ _ _).slots.size ≤ _); rw [arrV_size]; exact hin) rfl rfl d fun H1 e z oq => ?_
  refine kk H1 _ ls (z.trans hz) (hR.set hat.1 ?_ oq) (hS.put z oq hat.1) hl
  show H1[a]? = some (vp_cell _ _)
  rw [e]
  rw [vp_cell_i, vp_cell_i, arrV_store]
  congr 2
  funext q
  by_cases hq : q = i.toNatClampNeg
  · subst hq
    simp [updV, upd]
  · simp [updV, upd, hq]
theorem X_last (C : xC F G B cc own nL fr lo mc ms) {a k n : Nat} {f : Nat → Int64} {i : Int32} {x : Int64} (hk : xT[k]? = some .long) (he : h a = some (.inl (k, n, .inr (.inl f)))) (hin : vp_in i n) (d : decode cc pc = .ok (.lastore, 1)) (kk : X F G B Q nL (xup h a (.inl (k, n, .inr (.inl (vp_updL f i.toNatClampNeg x))))) sz cs ss (pc + 1) lv st) : X F G B Q nL h sz cs ss pc lv (.long x :: .int i :: .ref a :: st) := by
  intro H locs ls hz hR hS hl
  have hat := hR a _ he
  have hcell : H[a]? = some (vp_cell (G.2.2 k) (n, .inr (.inl f))) := hat.2
  refine W.last C.1 C.2.1 hcell ((C.2.2.2.2.2.1.2.1 k _ hk).1 n (fun j => .long (f j))) (fun q => by cases q) (by show ¬ (i < 0 ∨ (arrV _ _ _).slots.size ≤ _); rw [arrV_size]; exact hin) rfl rfl d fun H1 e z oq => ?_
  refine kk H1 _ ls (z.trans hz) (hR.set hat.1 ?_ oq) (hS.put z oq hat.1) hl
  show H1[a]? = some (vp_cell _ _)
  rw [e]
  rw [vp_cell_l, vp_cell_l, arrV_store]
  congr 2
  funext q
  by_cases hq : q = i.toNatClampNeg
  · subst hq
    simp [updV, vp_updL]
  · simp [updV, vp_updL, hq]
theorem X_zast (C : xC F G B cc own nL fr lo mc ms) {a k n : Nat} {f : Nat → Int32} {i : Int32} {x : Int32} (hk : xT[k]? = some .boolean) (he : h a = some (.inl (k, n, .inl f))) (hin : vp_in i n) (hx : vp_nar .boolean x = x) (d : decode cc pc = .ok (.bastore, 1)) (kk : X F G B Q nL (xup h a (.inl (k, n, .inl (upd f i.toNatClampNeg x)))) sz cs ss (pc + 1) lv st) : X F G B Q nL h sz cs ss pc lv (.int x :: .int i :: .ref a :: st) := by
  intro H locs ls hz hR hS hl
  have hat := hR a _ he
  have hcell : H[a]? = some (vp_cell (G.2.2 k) (n, .inl f)) := hat.2
  refine W.zast C.1 C.2.1 hcell ((C.2.2.2.2.2.1.2.1 k _ hk).1 n (fun j => .int (f j))) (fun q => by cases q) (by show ¬ (i < 0 ∨ (arrV _ _ _).slots.size ≤ _); rw [arrV_size]; exact hin) rfl rfl d fun H1 e z oq => ?_
  refine kk H1 _ ls (z.trans hz) (hR.set hat.1 ?_ oq) (hS.put z oq hat.1) hl
  show H1[a]? = some (vp_cell _ _)
  rw [e]
  rw [vp_cell_i, vp_cell_i, arrV_store]
  congr 2
  funext q
  by_cases hq : q = i.toNatClampNeg
  · subst hq
    have hx' : narrow .boolean (.int x) = .int x := by
      simp [vp_nar, narrow] at hx ⊢
      exact hx
    simp [updV, upd, hx']
  · simp [updV, upd, hq]
theorem X_sast (C : xC F G B cc own nL fr lo mc ms) {a k n : Nat} {f : Nat → Int32} {i : Int32} {x : Int32} (hk : xT[k]? = some .short) (he : h a = some (.inl (k, n, .inl f))) (hin : vp_in i n) (hx : vp_nar .short x = x) (d : decode cc pc = .ok (.sastore, 1)) (kk : X F G B Q nL (xup h a (.inl (k, n, .inl (upd f i.toNatClampNeg x)))) sz cs ss (pc + 1) lv st) : X F G B Q nL h sz cs ss pc lv (.int x :: .int i :: .ref a :: st) := by
  intro H locs ls hz hR hS hl
  have hat := hR a _ he
  have hcell : H[a]? = some (vp_cell (G.2.2 k) (n, .inl f)) := hat.2
  refine W.sast C.1 C.2.1 hcell ((C.2.2.2.2.2.1.2.1 k _ hk).1 n (fun j => .int (f j))) (fun q => by cases q) (by show ¬ (i < 0 ∨ (arrV _ _ _).slots.size ≤ _); rw [arrV_size]; exact hin) rfl rfl d fun H1 e z oq => ?_
  refine kk H1 _ ls (z.trans hz) (hR.set hat.1 ?_ oq) (hS.put z oq hat.1) hl
  show H1[a]? = some (vp_cell _ _)
  rw [e]
  rw [vp_cell_i, vp_cell_i, arrV_store]
  congr 2
  funext q
  by_cases hq : q = i.toNatClampNeg
  · subst hq
    have hx' : narrow .short (.int x) = .int x := by
      simp [vp_nar, narrow] at hx ⊢
      exact hx
    simp [updV, upd, hx']
  · simp [updV, upd, hq]
/-- the ends -/
def xQ (G : xG) (B : Nat) (P : Option Value → xH → Nat → Prop) : Array Value → State → Outcome → State → Prop := fun _ st o t => (∃ v h', o = .returned v ∧ P v h' t.heap.size ∧ xR G B h' t.heap) ∧ va_F (fun q => B ≤ q) st t
def xZ (F : xF) (G : xG) (B : Nat) (P : Option Value → xH → Nat → Prop) (mc ms : Nat) : State → Prop := MQ (xFb F) (xQ G B P) (xFa F) (xFs F) mc ms (fun q => B ≤ q)
theorem X_iret (C : xC F G B cc own nL fr lo mc ms) {P : Option Value → xH → Nat → Prop} {v : Int32} {m2 s2 : Nat} (hr : (xFM F).sig.returnType = some .int) (hcs : cs ≤ m2) (hss : ss ≤ s2) (d : decode cc pc = .ok (.ireturn, 1)) (hP : P (some (.int v)) h sz) : X F G B (xZ F G B P m2 s2) nL h sz cs ss pc lv [.int v] := fun H locs ls hz hR hS hl => W.widen hcs hss (W.iret C.1 C.2.1 hr (fun t ht hW => ⟨⟨_, h, rfl, by rw [ht, hz]; exact hP, by rw [ht]; exact hR⟩, hS.F ht⟩) hS.2.2 d C.2.2.2.2.2.2.2.1)
theorem X_zret (C : xC F G B cc own nL fr lo mc ms) {P : Option Value → xH → Nat → Prop} {v : Int32} {m2 s2 : Nat} {ty : FieldType} (hr : (xFM F).sig.returnType = some ty) (hn : narrow ty (.int v) = .int v) (hcs : cs ≤ m2) (hss : ss ≤ s2) (d : decode cc pc = .ok (.ireturn, 1)) (hP : P (some (.int v)) h sz) : X F G B (xZ F G B P m2 s2) nL h sz cs ss pc lv [.int v] := fun H locs ls hz hR hS hl => W.widen hcs hss (W.zret C.1 C.2.1 hr hn (fun t ht hW => ⟨⟨_, h, rfl, by rw [ht, hz]; exact hP, by rw [ht]; exact hR⟩, hS.F ht⟩) hS.2.2 d C.2.2.2.2.2.2.2.1)
theorem X_lret (C : xC F G B cc own nL fr lo mc ms) {P : Option Value → xH → Nat → Prop} {v : Int64} {m2 s2 : Nat} (hr : (xFM F).sig.returnType = some .long) (hcs : cs ≤ m2) (hss : ss ≤ s2) (d : decode cc pc = .ok (.lreturn, 1)) (hP : P (some (.long v)) h sz) : X F G B (xZ F G B P m2 s2) nL h sz cs ss pc lv [.long v] := fun H locs ls hz hR hS hl => W.widen hcs hss (W.lret C.1 C.2.1 hr (fun t ht hW => ⟨⟨_, h, rfl, by rw [ht, hz]; exact hP, by rw [ht]; exact hR⟩, hS.F ht⟩) hS.2.2 d C.2.2.2.2.2.2.2.1)
theorem X_vret (C : xC F G B cc own nL fr lo mc ms) {P : Option Value → xH → Nat → Prop} {m2 s2 : Nat} (hr : (xFM F).sig.returnType = none) (hcs : cs ≤ m2) (hss : ss ≤ s2) (d : decode cc pc = .ok (.return_, 1)) (hP : P none h sz) : X F G B (xZ F G B P m2 s2) nL h sz cs ss pc lv [] := fun H locs ls hz hR hS hl => W.widen hcs hss (W.vret C.1 C.2.1 hr (fun t ht hW => ⟨⟨_, h, rfl, by rw [ht, hz]; exact hP, by rw [ht]; exact hR⟩, hS.F ht⟩) hS.2.2 d C.2.2.2.2.2.2.2.1)
theorem X_aret (C : xC F G B cc own nL fr lo mc ms) {P : Option Value → xH → Nat → Prop} {v : Value} {m2 s2 : Nat} {rt : FieldType} (hr : (xFM F).sig.returnType = some rt) (hrt : (∃ n, rt = .object n) ∨ ∃ t, rt = .array t) (hv : v = .null ∨ ∃ a, v = .ref a) (hcs : cs ≤ m2) (hss : ss ≤ s2) (d : decode cc pc = .ok (.areturn, 1)) (hP : P (some v) h sz) : X F G B (xZ F G B P m2 s2) nL h sz cs ss pc lv [v] := fun H locs ls hz hR hS hl => W.widen hcs hss (W.aret C.1 C.2.1 hr hrt hv (fun t ht hW => ⟨⟨_, h, rfl, by rw [ht, hz]; exact hP, by rw [ht]; exact hR⟩, hS.F ht⟩) hS.2.2 d C.2.2.2.2.2.2.2.1)
/-- a method's contract, over heaps that hold h: it returns v, the heap then holds h', with P v h' -/
def xPc (G : xG) (B : Nat) (av : List Value) (h : xH) (sz : Nat) : Array Value → State → Prop := va_Pc av (fun U => U.heap.size = sz ∧ B ≤ sz ∧ xR G B h U.heap ∧ xK G U)
def xCon (l : Launch) (y : MethodName) (cc : ByteArray) (nL : Nat) (ret : Option FieldType) (fr lo mc ms : Nat) (G : xG) (B : Nat) (av : List Value) (h : xH) (sz : Nat) (P : Option Value → xH → Nat → Prop) : Prop :=
  Met l y (.code y cc nL ret :: xtbl) { frames := fr, cells := mc, slots := ms, locals := lo } (xPc G B av h sz) (xQ G B P) mc ms (fun q => B ≤ q)
theorem xPc_blind {av : List Value} : FrameBlind (xPc G B av h sz) := fun a U g mk q => by
  obtain ⟨q0, q1, q2, qR, qK⟩ := q
  exact ⟨q0, q1, q2, qR, xK.moved (u := U) (U := U.calling g mk a) (Vm.Alike.refl U.vm) qK⟩
theorem xCon.of {l : Launch} {y : MethodName} {ret : Option FieldType} {av : List Value} {P : Option Value → xH → Nat → Prop} (hy : plainName y.cls = true) (hlen : (lg_sl av).length ≤ nL)
    (body : ∀ F : xF, xFl F = l → xC F G B cc y.cls nL fr lo mc ms → (xFM F).sig.returnType = ret → (xFM F).name = y.name → X F G B (xZ F G B P mc ms) nL h sz 0 0 0 (lv_args 0 av) []) : xCon l y cc nL ret fr lo mc ms G B av h sz P := by
  refine Met.ofW (cc := cc) (maxL := nL) (ret := ret) hy rfl ?_
  intro p e s m args below meth c s₁ Bd hml hv
  obtain ⟨rfl, hz, hB, hR, hK⟩ := hv
  have hts := atoms_spec (ws := .code y cc nL ret :: xtbl) Bd.pre
  have hl := lv_entry av (n := nL) hlen
  rw [lg_entry_eq]
  exact body (p, l, e, _, s, m, av.toArray, below, meth, c) rfl ⟨Bd.exec, Bd.bytes, hml, findClass_of_methodNamed Bd.named, fun w hw => hts w (List.mem_cons_of_mem _ hw), hK, by rw [hz]; exact hB, Bd.notSynchronized, rfl⟩ Bd.returns (name_of_methodNamed Bd.named Bd.method).1 s.heap [] _ hz hR va_S.rf hl
/-- behind a call -/
theorem X_run {a : Array Value} {st0 rest : List Value} {P : Option Value → xH → Nat → Prop} {m2 s2 : Nat}
    (hr : ∀ (H : Heap) (locs : List Loc) (ls : Array Slot), H.size = sz → xR G B h H → va_S (fun q => B ≤ q) (xFs F).heap H locs → lv_has ls nL lv → va_Run F.1 F.2.1 F.2.2.1 F.2.2.2.1 F.2.2.2.2.1 F.2.2.2.2.2.1 F.2.2.2.2.2.2.1 F.2.2.2.2.2.2.2.1 F.2.2.2.2.2.2.2.2.1 F.2.2.2.2.2.2.2.2.2 H locs cs ss m2 s2 (F0 (xFm F) pc ls st0) rest (xQ G B P a) (fun q => B ≤ q))
    (kk : ∀ v h' z', P v h' z' → X F G B Q nL h' z' (cs + m2) (ss + s2) (pc + 3) lv (v.toList ++ rest)) : X F G B Q nL h sz cs ss pc lv st0 := by
  intro H locs ls hz hR hS hl T hT X0
  obtain ⟨v, st₀, t, T', L, h0, X', hL, e1, e2, ⟨⟨v', h', hv, hp, hR'⟩, hzz, hk⟩, st⟩ := hr H locs ls hz hR hS hl T hT X0
  cases hv
  rw [h0] at hzz hk
  obtain ⟨t2, a1, b1⟩ := kk v h' _ hp T'.heap (locs ++ L) ls (by rw [e1]) (by rw [e1]; exact hR')
    ⟨Nat.le_trans hS.1 (by rw [e1]; exact hzz), fun q h1 h2 => by rw [e1, hk q (Nat.lt_of_lt_of_le h1 hS.1) h2]; exact hS.2.1 q h1 h2, fun q hq => by
      rcases List.mem_append.mp hq with h | h
      · exact hS.2.2 q h
      · exact hL q h⟩ hl T' rfl X'
  exact ⟨t2, st t2 a1, b1⟩
theorem x_goodin {w : Cond} (hc : w ∈ xtbl) : GoodIn xtbl (w :: xtbl) := fun z hz => by
  have hz' : z ∈ xtbl := (List.mem_cons.mp hz).elim (fun e => by rw [e]; exact hc) id
  exact ⟨hz', good_of_word (x_good z hz')⟩
/-- the words of a call -/
def xV (own : String) (idx : Nat) (Cn : String) (y : MethodName) (cc : ByteArray) (nL : Nat) (ret : Option FieldType) (n : Nat) : Prop := Cond.code y cc nL ret ∈ xtbl ∧ Cond.initialized y.cls ∈ xtbl ∧ Cond.methodLink own idx y ∈ xtbl ∧ Cond.instanceMethod y ∈ xtbl ∧ Cond.selects Cn y y ∈ xtbl ∧ (y.cls ≠ "java/lang/invoke/MethodHandle" ∧ y.cls ≠ "java/lang/invoke/VarHandle" ∧ (parseMethodDescriptor y.desc).map (fun d => d.parameters.length) = some n)
def xS (own : String) (idx : Nat) (y : MethodName) (cc : ByteArray) (nL : Nat) (ret : Option FieldType) (n : Nat) : Prop := Cond.code y cc nL ret ∈ xtbl ∧ Cond.initialized y.cls ∈ xtbl ∧ Cond.methodLink own idx y ∈ xtbl ∧ Cond.static y ∈ xtbl ∧ (y.cls ≠ "java/lang/invoke/MethodHandle" ∧ y.cls ≠ "java/lang/invoke/VarHandle" ∧ (parseMethodDescriptor y.desc).map (fun d => d.parameters.length) = some n)
def xI (own : String) (idx : Nat) (y : MethodName) (cc : ByteArray) (nL : Nat) (n : Nat) : Prop := Cond.code y cc nL none ∈ xtbl ∧ Cond.initialized y.cls ∈ xtbl ∧ Cond.methodLink own idx y ∈ xtbl ∧ Cond.instanceMethod y ∈ xtbl ∧ y.name = "<init>" ∧ (y.cls ≠ "java/lang/invoke/MethodHandle" ∧ y.cls ≠ "java/lang/invoke/VarHandle" ∧ (parseMethodDescriptor y.desc).map (fun d => d.parameters.length) = some n)
section XCalls
variable {y : MethodName} {cc' : ByteArray} {nL' fr' lo' mc' ms' idx n : Nat} {ret : Option FieldType} {As rest st0 : List Value} {P : Option Value → xH → Nat → Prop}
theorem X_callV (C : xC F G B cc own nL fr lo mc ms) {b ci N : Nat} {fs : List Value} {Cn : String} {T : u_T} (hM : xCon (xFl F) y cc' nL' ret fr' lo' mc' ms' G B (.ref b :: As) h sz P) (hV : xV own idx Cn y cc' nL' ret n) (hroom : fr' + 1 ≤ fr ∧ 8 + (nL' + 11) + lo' ≤ lo) (hcs : cs + mc' ≤ mc ∧ ss + ms' ≤ ms) (he : h b = some (.inr (ci, fs))) (hc : xCl[ci]? = some (Cn, T, N)) (hn : As.length = n) (hst : st0 = As.reverse ++ .ref b :: rest) (h8 : (rest.map fun v => v.category).sum ≤ 8) (d : decode cc pc = .ok (.invokevirtual idx, 3)) (kk : ∀ v h' z', P v h' z' → X F G B Q nL h' z' (cs + mc') (ss + ms') (pc + 3) lv (v.toList ++ rest)) : X F G B Q nL h sz cs ss pc lv st0 := by
  subst hst
  have hts := C.2.2.2.2.1
  have hR0 := C.2.2.2.2.2.2.2.2
  refine X_run (a := (Value.ref b :: As).toArray) (fun H locs ls hz hR hS hl => ?_) kk
  exact va_runV (nL := nL) ⟨C.1, C.2.1, C.2.2.1, C.2.2.2.1, hts⟩ hM ⟨callB_of n hts (x_goodin hV.1) rfl rfl rfl (hts _ hV.2.1) (hts _ hV.2.2.1) hV.2.2.2.2.2 (by show _ ≤ (xFR F).frames ∧ _ ≤ (xFR F).locals; rw [hR0]; exact hroom), hts _ hV.2.2.2.1, hts _ hV.2.2.2.2.1⟩ ⟨xPc_blind, va_recv C.2.2.2.2.2.1.va (hR.va he) (ci := ci) (q0 := 0) hc rfl, fun U hU hW => ⟨rfl, by rw [hU]; exact hz, by rw [← hz]; exact Nat.le_trans C.2.2.2.2.2.2.1 hS.1, by rw [hU]; exact hR, xK.moved hW.alike C.2.2.2.2.2.1⟩⟩ rfl hn hl.1 rfl (lv_room h8) d (by show _ ≤ (xFR F).cells ∧ _ ≤ (xFR F).slots; rw [hR0]; exact hcs)
theorem X_callS (C : xC F G B cc own nL fr lo mc ms) (hM : xCon (xFl F) y cc' nL' ret fr' lo' mc' ms' G B As h sz P) (hV : xS own idx y cc' nL' ret n) (hroom : fr' + 1 ≤ fr ∧ 8 + (nL' + 11) + lo' ≤ lo) (hcs : cs + mc' ≤ mc ∧ ss + ms' ≤ ms) (hn : As.length = n) (hst : st0 = As.reverse ++ rest) (h8 : (rest.map fun v => v.category).sum ≤ 8) (d : decode cc pc = .ok (.invokestatic idx, 3)) (kk : ∀ v h' z', P v h' z' → X F G B Q nL h' z' (cs + mc') (ss + ms') (pc + 3) lv (v.toList ++ rest)) : X F G B Q nL h sz cs ss pc lv st0 := by
  subst hst
  have hts := C.2.2.2.2.1
  have hR0 := C.2.2.2.2.2.2.2.2
  refine X_run (a := As.toArray) (fun H locs ls hz hR hS hl => ?_) kk
  exact va_runS (nL := nL) ⟨C.1, C.2.1, C.2.2.1, C.2.2.2.1, hts⟩ hM ⟨callB_of n hts (x_goodin hV.1) rfl rfl rfl (hts _ hV.2.1) (hts _ hV.2.2.1) hV.2.2.2.2 (by show _ ≤ (xFR F).frames ∧ _ ≤ (xFR F).locals; rw [hR0]; exact hroom), hts _ hV.2.2.2.1⟩ ⟨xPc_blind, fun U hU hW => ⟨rfl, by rw [hU]; exact hz, by rw [← hz]; exact Nat.le_trans C.2.2.2.2.2.2.1 hS.1, by rw [hU]; exact hR, xK.moved hW.alike C.2.2.2.2.2.1⟩⟩ rfl hn hl.1 rfl (lv_room h8) d (by show _ ≤ (xFR F).cells ∧ _ ≤ (xFR F).slots; rw [hR0]; exact hcs)
theorem X_callI (C : xC F G B cc own nL fr lo mc ms) {b : Nat} (hM : xCon (xFl F) y cc' nL' none fr' lo' mc' ms' G B (.ref b :: As) h sz P) (hV : xI own idx y cc' nL' n) (hroom : fr' + 1 ≤ fr ∧ 8 + (nL' + 11) + lo' ≤ lo) (hcs : cs + mc' ≤ mc ∧ ss + ms' ≤ ms) (hn : As.length = n) (hst : st0 = As.reverse ++ .ref b :: rest) (h8 : (rest.map fun v => v.category).sum ≤ 8) (d : decode cc pc = .ok (.invokespecial idx, 3)) (kk : ∀ v h' z', P v h' z' → X F G B Q nL h' z' (cs + mc') (ss + ms') (pc + 3) lv (v.toList ++ rest)) : X F G B Q nL h sz cs ss pc lv st0 := by
  subst hst
  have hts := C.2.2.2.2.1
  have hR0 := C.2.2.2.2.2.2.2.2
  refine X_run (a := (Value.ref b :: As).toArray) (fun H locs ls hz hR hS hl => ?_) kk
  exact va_runI (nL := nL) ⟨C.1, C.2.1, C.2.2.1, C.2.2.2.1, hts⟩ hM ⟨callB_of n hts (x_goodin hV.1) rfl rfl rfl (hts _ hV.2.1) (hts _ hV.2.2.1) hV.2.2.2.2.2 (by show _ ≤ (xFR F).frames ∧ _ ≤ (xFR F).locals; rw [hR0]; exact hroom), hV.2.2.2.2.1, hts _ hV.2.2.2.1⟩ ⟨xPc_blind, fun U hU hW => ⟨rfl, by rw [hU]; exact hz, by rw [← hz]; exact Nat.le_trans C.2.2.2.2.2.2.1 hS.1, by rw [hU]; exact hR, xK.moved hW.alike C.2.2.2.2.2.1⟩⟩ rfl hn hl.1 rfl (lv_room h8) d (by show _ ≤ (xFR F).cells ∧ _ ≤ (xFR F).slots; rw [hR0]; exact hcs)
/-- Object's constructor -/
theorem X_obj (C : xC F G B cc own nL fr lo mc ms) {a : Nat} (hw : Cond.methodLink own idx objectInit ∈ xtbl ∧ Cond.instanceMethod objectInit ∈ xtbl ∧ Cond.code objectInit ⟨#[0xb1]⟩ 1 none ∈ xtbl) (hroom : 1 ≤ fr ∧ (st.map fun v => v.category).sum + 12 ≤ lo) (d : decode cc pc = .ok (.invokespecial idx, 3)) (k : X F G B Q nL h sz cs ss (pc + 3) lv st) : X F G B Q nL h sz cs ss pc lv (.ref a :: st) := by
  intro H locs ls hz hR hS hl
  have hts := C.2.2.2.2.1
  have hR0 := C.2.2.2.2.2.2.2.2
  exact W.objInit C.1 C.2.1 C.2.2.2.1 (hts _ hw.1) (hts _ hw.2.1) (hts _ hw.2.2) rfl (hl.1.trans C.2.2.1.symm) rfl d (by show 1 ≤ (xFR F).frames; rw [hR0]; exact hroom.1) (by show 2 * 0 + _ + 12 ≤ (xFR F).locals; rw [hR0, Nat.mul_zero, Nat.zero_add]; exact hroom.2) (k H locs ls hz hR hS hl)
end XCalls
end XHeap

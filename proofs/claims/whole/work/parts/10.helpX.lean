/-! helpers of the class's decompiled functions: reads and writes of the function heap -/
def gi (h : xH) (a ci k : Nat) : Option Int32 := match h a with
  | some (.inr (c, fs)) => if c = ci then (match fs[k]? with | some (.int x) => some x | _ => none) else none
  | _ => none
theorem gi_e {h : xH} {a ci k : Nat} {x : Int32} (e : gi h a ci k = some x) : ∃ fs, h a = some (.inr (ci, fs)) ∧ fs[k]? = some (.int x) := by
  unfold gi at e
  split at e
  · rename_i c fs he
    split at e
    · rename_i hc
      subst hc
      split at e
      · rename_i y hy
        cases e
        exact ⟨fs, he, hy⟩
      · cases e
    · cases e
  · cases e
def vq (v : Value) : Option (Option Nat) := match v with
  | .ref a => some (some a)
  | .null => some none
  | _ => none
theorem vq_e {v : Value} {y : Option Nat} (e : vq v = some y) : v = va_rf y := by
  unfold vq at e
  split at e
  · cases e; rfl
  · cases e; rfl
  · cases e
def gq (h : xH) (a ci k : Nat) : Option (Option Nat) := match h a with
  | some (.inr (c, fs)) => if c = ci then (match fs[k]? with | some v => vq v | _ => none) else none
  | _ => none
theorem gq_e {h : xH} {a ci k : Nat} {y : Option Nat} (e : gq h a ci k = some y) : ∃ fs, h a = some (.inr (ci, fs)) ∧ fs[k]? = some (va_rf y) := by
  unfold gq at e
  split at e
  · rename_i c fs he
    split at e
    · rename_i hc
      subst hc
      split at e
      · rename_i v hv
        exact ⟨fs, he, by rw [hv, vq_e e]⟩
      · cases e
    · cases e
  · cases e
def pf (h : xH) (a ci k : Nat) (v : Value) : Option xH := match h a with
  | some (.inr (c, fs)) => if c = ci then (if k < fs.length then some (xup h a (.inr (ci, fs.set k v))) else none) else none
  | _ => none
theorem pf_e {h h' : xH} {a ci k : Nat} {v : Value} (e : pf h a ci k v = some h') : ∃ fs, h a = some (.inr (ci, fs)) ∧ k < fs.length ∧ h' = xup h a (.inr (ci, fs.set k v)) := by
  unfold pf at e
  split at e
  · rename_i c fs he
    split at e
    · rename_i hc
      subst hc
      split at e
      · rename_i hl
        cases e
        exact ⟨fs, he, hl, rfl⟩
      · cases e
    · cases e
  · cases e
/-- an int array's place, of the kinds int, boolean, short -/
def ai (h : xH) (a kd : Nat) (i : Int32) : Option Int32 := match h a with
  | some (.inl (c, n, .inl f)) => if c = kd then (if xin i n = true then some (f i.toNatClampNeg) else none) else none
  | _ => none
theorem ai_e {h : xH} {a kd : Nat} {i x : Int32} (e : ai h a kd i = some x) : ∃ n f, h a = some (.inl (kd, n, .inl f)) ∧ vp_in i n ∧ x = f i.toNatClampNeg := by
  unfold ai at e
  split at e
  · rename_i c n f he
    split at e
    · rename_i hc
      subst hc
      obtain ⟨q, e⟩ := o_if e
      cases e
      exact ⟨n, f, he, xin_vp q, rfl⟩
    · cases e
  · cases e
def pa (h : xH) (a kd : Nat) (i x : Int32) : Option xH := match h a with
  | some (.inl (c, n, .inl f)) => if c = kd then (if xin i n = true then some (xup h a (.inl (kd, n, .inl (upd f i.toNatClampNeg x)))) else none) else none
  | _ => none
theorem pa_e {h h' : xH} {a kd : Nat} {i x : Int32} (e : pa h a kd i x = some h') : ∃ n f, h a = some (.inl (kd, n, .inl f)) ∧ vp_in i n ∧ h' = xup h a (.inl (kd, n, .inl (upd f i.toNatClampNeg x))) := by
  unfold pa at e
  split at e
  · rename_i c n f he
    split at e
    · rename_i hc
      subst hc
      obtain ⟨q, e⟩ := o_if e
      cases e
      exact ⟨n, f, he, xin_vp q, rfl⟩
    · cases e
  · cases e
/-- a place of an array of references, kind kd -/
def aq (h : xH) (a kd : Nat) (i : Int32) : Option (Option Nat) := match h a with
  | some (.inl (c, n, .inr (.inr (.inr (.inr f))))) => if c = kd then (if xin i n = true then some (f i.toNatClampNeg) else none) else none
  | _ => none
theorem aq_e {h : xH} {a kd : Nat} {i : Int32} {y : Option Nat} (e : aq h a kd i = some y) : ∃ n f, h a = some (.inl (kd, n, .inr (.inr (.inr (.inr f))))) ∧ vp_in i n ∧ y = f i.toNatClampNeg := by
  unfold aq at e
  split at e
  · rename_i c n f he
    split at e
    · rename_i hc
      subst hc
      obtain ⟨q, e⟩ := o_if e
      cases e
      exact ⟨n, f, he, xin_vp q, rfl⟩
    · cases e
  · cases e
/-- an array's length, kind kd -/
def al (h : xH) (a kd : Nat) : Option Int32 := match h a with
  | some (.inl (c, x)) => if c = kd then some (Int32.ofNat x.1) else none
  | _ => none
theorem al_e {h : xH} {a kd : Nat} {v : Int32} (e : al h a kd = some v) : ∃ x : vp_A, h a = some (.inl (kd, x)) ∧ Int32.ofNat x.1 = v := by
  unfold al at e
  split at e
  · rename_i c x he
    split at e
    · rename_i hc
      subst hc
      cases e
      exact ⟨x, he, rfl⟩
    · cases e
  · cases e
/-- an object's class -/
def kc (h : xH) (a ci : Nat) : Bool := match h a with
  | some (.inr (c, _)) => decide (c = ci)
  | _ => false
theorem kc_e {h : xH} {a ci : Nat} (e : kc h a ci = true) : ∃ fs, h a = some (.inr (ci, fs)) := by
  unfold kc at e
  split at e
  · rename_i c fs he
    have hc : c = ci := by simpa using e
    subst hc
    exact ⟨fs, he⟩
  · cases e
theorem nq_o {C : String} (y : Option Nat) : narrow (.object C) (va_rf y) = va_rf y := by cases y <;> rfl
theorem fq_o {C : String} (y : Option Nat) : fits (.object C) (va_rf y) = true := by cases y <;> rfl
theorem nq_a {t : FieldType} (y : Option Nat) : narrow (.array t) (va_rf y) = va_rf y := by cases y <;> rfl
theorem fq_a {t : FieldType} (y : Option Nat) : fits (.array t) (va_rf y) = true := by cases y <;> rfl
section XQ
variable {F : xF} {G : xG} {B : Nat} {Q : State → Prop} {nL fr lo mc ms : Nat} {h : xH} {sz cs ss pc : Nat} {lv lv' : List (Nat × Value)} {st : List Value} {cc : ByteArray} {own : String}
theorem X_aload_nq (C : xC F G B cc own nL fr lo mc ms) {i : Fin 4} {y : Option Nat} (d : decode cc pc = .ok (.aload_n i, 1)) (hx : xget lv i = some (va_rf y)) (k : X F G B Q nL h sz cs ss (pc + 1) lv (va_rf y :: st)) : X F G B Q nL h sz cs ss pc lv st := by
  cases y with
  | none => exact X_aload_nN C d hx k
  | some a => exact X_aload_n C d hx k
theorem X_aloadq (C : xC F G B cc own nL fr lo mc ms) {i : Nat} {y : Option Nat} (d : decode cc pc = .ok (.aload i, 2)) (hx : xget lv i = some (va_rf y)) (k : X F G B Q nL h sz cs ss (pc + 2) lv (va_rf y :: st)) : X F G B Q nL h sz cs ss pc lv st := by
  cases y with
  | none => exact X_aloadN C d hx k
  | some a => exact X_aload C d hx k
theorem X_astore_nq (C : xC F G B cc own nL fr lo mc ms) {i : Fin 4} {y : Option Nat} (d : decode cc pc = .ok (.astore_n i, 1)) (hn : (i : Nat) < nL) (hl' : ((i : Nat), va_rf y) :: lv.filter (fun q => !(q.1 == (i : Nat)) && !(q.1 + 1 == (i : Nat) && q.2.category == 2)) = lv') (k : X F G B Q nL h sz cs ss (pc + 1) lv' st) : X F G B Q nL h sz cs ss pc lv (va_rf y :: st) := by
  cases y with
  | none => exact X_astore_nN C d hn hl' k
  | some a => exact X_astore_n C d hn hl' k
theorem X_astoreq (C : xC F G B cc own nL fr lo mc ms) {i : Nat} {y : Option Nat} (d : decode cc pc = .ok (.astore i, 2)) (hn : (i : Nat) < nL) (hl' : ((i : Nat), va_rf y) :: lv.filter (fun q => !(q.1 == (i : Nat)) && !(q.1 + 1 == (i : Nat) && q.2.category == 2)) = lv') (k : X F G B Q nL h sz cs ss (pc + 2) lv' st) : X F G B Q nL h sz cs ss pc lv (va_rf y :: st) := by
  cases y with
  | none => exact X_astoreN C d hn hl' k
  | some a => exact X_astore C d hn hl' k
theorem X_ifnullq (C : xC F G B cc own nL fr lo mc ms) {y : Option Nat} {off : Int} {tgt : Nat} (d : decode cc pc = .ok (.ifnull off, 3)) (ht : (pc : Int) + off = (tgt : Int)) (kt : y = none → X F G B Q nL h sz cs ss tgt lv st) (kf : ∀ a, y = some a → X F G B Q nL h sz cs ss (pc + 3) lv st) : X F G B Q nL h sz cs ss pc lv (va_rf y :: st) := by
  cases y with
  | none => exact X_ifnullN C d ht (kt rfl)
  | some a => exact X_ifnull C d (kf a rfl)
theorem X_ifnonnullq (C : xC F G B cc own nL fr lo mc ms) {y : Option Nat} {off : Int} {tgt : Nat} (d : decode cc pc = .ok (.ifnonnull off, 3)) (ht : (pc : Int) + off = (tgt : Int)) (kt : ∀ a, y = some a → X F G B Q nL h sz cs ss tgt lv st) (kf : y = none → X F G B Q nL h sz cs ss (pc + 3) lv st) : X F G B Q nL h sz cs ss pc lv (va_rf y :: st) := by
  cases y with
  | none => exact X_ifnonnullN C d (kf rfl)
  | some a => exact X_ifnonnull C d ht (kt a rfl)
/-- java.lang.Math over ints -/
theorem X_min (C : xC F G B cc own nL fr lo mc ms) {idx : Nat} {x y : Int32} (hw : Cond.methodLink own idx Lib.Math.min.name ∈ xtbl ∧ Cond.static Lib.Math.min.name ∈ xtbl ∧ Cond.initialized "java/lang/Math" ∈ xtbl ∧ Cond.code Lib.Math.min.name Lib.Math.min.code 2 (some .int) ∈ xtbl) (hroom : 1 ≤ fr ∧ (st.map fun v => v.category).sum + 13 ≤ lo) (hc : cs ≤ mc ∧ ss ≤ ms) (d : decode cc pc = .ok (.invokestatic idx, 3)) (k : X F G B Q nL h sz cs ss (pc + 3) lv (.int (if y < x then y else x) :: st)) : X F G B Q nL h sz cs ss pc lv (.int y :: .int x :: st) := by
  intro H locs ls hz hR hS hl
  have hts := C.2.2.2.2.1
  have hR0 := C.2.2.2.2.2.2.2.2
  exact va_mmin C.1 C.2.1 (C.2.2.1.trans hl.1.symm) C.2.2.2.1 (hts _ hw.1) (hts _ hw.2.1) (hts _ hw.2.2.1) (hts _ hw.2.2.2) (by show 1 ≤ (xFR F).frames; rw [hR0]; exact hroom.1) (by show _ ≤ (xFR F).locals; rw [hR0]; exact hroom.2) (by show _ ≤ (xFR F).cells; rw [hR0]; exact hc.1) (by show _ ≤ (xFR F).slots; rw [hR0]; exact hc.2) d (k H locs ls hz hR hS hl)
theorem X_max (C : xC F G B cc own nL fr lo mc ms) {idx : Nat} {x y : Int32} (hw : Cond.methodLink own idx Lib.Math.max.name ∈ xtbl ∧ Cond.static Lib.Math.max.name ∈ xtbl ∧ Cond.initialized "java/lang/Math" ∈ xtbl ∧ Cond.code Lib.Math.max.name Lib.Math.max.code 2 (some .int) ∈ xtbl) (hroom : 1 ≤ fr ∧ (st.map fun v => v.category).sum + 13 ≤ lo) (hc : cs ≤ mc ∧ ss ≤ ms) (d : decode cc pc = .ok (.invokestatic idx, 3)) (k : X F G B Q nL h sz cs ss (pc + 3) lv (.int (if x < y then y else x) :: st)) : X F G B Q nL h sz cs ss pc lv (.int y :: .int x :: st) := by
  intro H locs ls hz hR hS hl
  have hts := C.2.2.2.2.1
  have hR0 := C.2.2.2.2.2.2.2.2
  exact va_mmax C.1 C.2.1 (C.2.2.1.trans hl.1.symm) C.2.2.2.1 (hts _ hw.1) (hts _ hw.2.1) (hts _ hw.2.2.1) (hts _ hw.2.2.2) (by show 1 ≤ (xFR F).frames; rw [hR0]; exact hroom.1) (by show _ ≤ (xFR F).locals; rw [hR0]; exact hroom.2) (by show _ ≤ (xFR F).cells; rw [hR0]; exact hc.1) (by show _ ≤ (xFR F).slots; rw [hR0]; exact hc.2) d (k H locs ls hz hR hS hl)
theorem X_abs (C : xC F G B cc own nL fr lo mc ms) {idx : Nat} {x : Int32} (hw : Cond.methodLink own idx Lib.Math.abs.name ∈ xtbl ∧ Cond.static Lib.Math.abs.name ∈ xtbl ∧ Cond.initialized "java/lang/Math" ∈ xtbl ∧ Cond.code Lib.Math.abs.name Lib.Math.abs.code 1 (some .int) ∈ xtbl) (hroom : 1 ≤ fr ∧ (st.map fun v => v.category).sum + 13 ≤ lo) (hc : cs ≤ mc ∧ ss ≤ ms) (d : decode cc pc = .ok (.invokestatic idx, 3)) (k : X F G B Q nL h sz cs ss (pc + 3) lv (.int (if 0 ≤ x then x else -x) :: st)) : X F G B Q nL h sz cs ss pc lv (.int x :: st) := by
  intro H locs ls hz hR hS hl
  have hts := C.2.2.2.2.1
  have hR0 := C.2.2.2.2.2.2.2.2
  exact va_mabs C.1 C.2.1 (C.2.2.1.trans hl.1.symm) C.2.2.2.1 (hts _ hw.1) (hts _ hw.2.1) (hts _ hw.2.2.1) (hts _ hw.2.2.2) (by show 1 ≤ (xFR F).frames; rw [hR0]; exact hroom.1) (by show _ ≤ (xFR F).locals; rw [hR0]; exact hroom.2) (by show _ ≤ (xFR F).cells; rw [hR0]; exact hc.1) (by show _ ≤ (xFR F).slots; rw [hR0]; exact hc.2) d (k H locs ls hz hR hS hl)
/-- a contract of a method that makes no cells: by its function's result -/
def kP (r : Option Value) (h1 : xH) (sz : Nat) : Option Value → xH → Nat → Prop := fun v h' z => v = r ∧ h' = h1 ∧ z = sz
theorem X_callVk {y : MethodName} {cc' : ByteArray} {nL' fr' lo' idx n : Nat} {ret : Option FieldType} {As rest st0 : List Value} {r : Option Value} {h1 : xH} (C : xC F G B cc own nL fr lo mc ms) {b ci N : Nat} {fs : List Value} {Cn : String} {T : u_T} (hM : xCon (xFl F) y cc' nL' ret fr' lo' 0 0 G B (.ref b :: As) h sz (kP r h1 sz)) (hV : xV own idx Cn y cc' nL' ret n) (hroom : fr' + 1 ≤ fr ∧ 8 + (nL' + 11) + lo' ≤ lo) (hcs : cs ≤ mc ∧ ss ≤ ms) (he : h b = some (.inr (ci, fs))) (hc : xCl[ci]? = some (Cn, T, N)) (hn : As.length = n) (hst : st0 = As.reverse ++ .ref b :: rest) (h8 : (rest.map fun v => v.category).sum ≤ 8) (d : decode cc pc = .ok (.invokevirtual idx, 3)) (kk : X F G B Q nL h1 sz cs ss (pc + 3) lv (r.toList ++ rest)) : X F G B Q nL h sz cs ss pc lv st0 := X_callV C hM hV hroom hcs he hc hn hst h8 d (fun v h' z q => by obtain ⟨rfl, rfl, rfl⟩ := q; exact kk)
theorem X_callSk {y : MethodName} {cc' : ByteArray} {nL' fr' lo' idx n : Nat} {ret : Option FieldType} {As rest st0 : List Value} {r : Option Value} {h1 : xH} (C : xC F G B cc own nL fr lo mc ms) (hM : xCon (xFl F) y cc' nL' ret fr' lo' 0 0 G B As h sz (kP r h1 sz)) (hV : xS own idx y cc' nL' ret n) (hroom : fr' + 1 ≤ fr ∧ 8 + (nL' + 11) + lo' ≤ lo) (hcs : cs ≤ mc ∧ ss ≤ ms) (hn : As.length = n) (hst : st0 = As.reverse ++ rest) (h8 : (rest.map fun v => v.category).sum ≤ 8) (d : decode cc pc = .ok (.invokestatic idx, 3)) (kk : X F G B Q nL h1 sz cs ss (pc + 3) lv (r.toList ++ rest)) : X F G B Q nL h sz cs ss pc lv st0 := X_callS C hM hV hroom hcs hn hst h8 d (fun v h' z q => by obtain ⟨rfl, rfl, rfl⟩ := q; exact kk)
end XQ

/-! helpers of the decompiled functions -/
def xin (i : Int32) (n : Nat) : Bool := !(decide (i < 0) || decide (n ≤ i.toNatClampNeg))
theorem xin_vp {i : Int32} {n : Nat} (h : xin i n = true) : vp_in i n := by
  unfold xin at h
  unfold vp_in
  simpa using h
def zb (x : Int32) : Bool := decide (x = 0) || decide (x = 1)
theorem zb_or {x : Int32} (h : zb x = true) : x = 0 ∨ x = 1 := by
  unfold zb at h
  simpa using h
theorem zb_n {x : Int32} (h : zb x = true) : narrow .boolean (.int x) = .int x := by
  rcases zb_or h with rfl | rfl <;> rfl
theorem zb_f {x : Int32} (h : zb x = true) : fits .boolean (.int x) = true := by
  rcases zb_or h with rfl | rfl <;> rfl
theorem zb_v {x : Int32} (h : zb x = true) : vp_nar .boolean x = x := by
  rcases zb_or h with rfl | rfl <;> rfl
def obd {α β : Type} (o : Option α) (f : α → Option β) : Option β := match o with
  | none => none
  | some a => f a
theorem o_bind {α β : Type} {o : Option α} {f : α → Option β} {R : β} (h : obd o f = some R) : ∃ q, o = some q ∧ f q = some R := by
  cases o with
  | none => cases h
  | some a => exact ⟨a, rfl, h⟩
theorem o_if {β : Type} {b : Bool} {A : Option β} {R : β} (h : (if b = true then A else none) = some R) : b = true ∧ A = some R := by
  cases b with
  | false => rw [if_neg (by decide)] at h; cases h
  | true => rw [if_pos rfl] at h; exact ⟨rfl, h⟩
def bnd {α β : Type} (a : α) (f : α → β) : β := f a
theorem b_bnd {α β : Type} {a : α} {f : α → Option β} {R : β} (h : bnd a f = some R) : ∃ s, s = a ∧ f s = some R := ⟨a, rfl, h⟩
section XMCalls
variable {F : xF} {G : xG} {B : Nat} {Q : State → Prop} {nL fr lo : Nat} {M : xM} {σ s : mS} {τ t : mL} {pc : Nat} {lv : List (Nat × Value)} {cc : ByteArray} {own : String}
variable {y : MethodName} {cc' : ByteArray} {nL' fr' lo' idx n : Nat} {ret : Option FieldType} {As rest st0 : List Value}
theorem XM_callVi (C : xC F G B cc own nL fr lo 0 0) {v : Int32} (hM : mCon (xFl F) y cc' nL' ret fr' lo' G B M (.ref M.1 :: As) σ τ (some (.int v)) s t) (hV : xV own idx RMo y cc' nL' ret n) (hroom : fr' + 1 ≤ fr ∧ 8 + (nL' + 11) + lo' ≤ lo) (hn : As.length = n) (hst : st0 = As.reverse ++ .ref M.1 :: rest) (h8 : (rest.map fun v => v.category).sum ≤ 8) (d : decode cc pc = .ok (.invokevirtual idx, 3)) (kk : XM F G B Q nL M s t (pc + 3) lv (.int v :: rest)) : XM F G B Q nL M σ τ pc lv st0 := XM_callV C hM hV hroom hn hst h8 d kk
theorem XM_callVv (C : xC F G B cc own nL fr lo 0 0) (hM : mCon (xFl F) y cc' nL' ret fr' lo' G B M (.ref M.1 :: As) σ τ none s t) (hV : xV own idx RMo y cc' nL' ret n) (hroom : fr' + 1 ≤ fr ∧ 8 + (nL' + 11) + lo' ≤ lo) (hn : As.length = n) (hst : st0 = As.reverse ++ .ref M.1 :: rest) (h8 : (rest.map fun v => v.category).sum ≤ 8) (d : decode cc pc = .ok (.invokevirtual idx, 3)) (kk : XM F G B Q nL M s t (pc + 3) lv rest) : XM F G B Q nL M σ τ pc lv st0 := XM_callV C hM hV hroom hn hst h8 d kk
theorem XM_callSi (C : xC F G B cc own nL fr lo 0 0) {v : Int32} (hM : pCon (xFl F) y cc' nL' ret fr' lo' G B As (some (.int v))) (hV : xS own idx y cc' nL' ret n) (hroom : fr' + 1 ≤ fr ∧ 8 + (nL' + 11) + lo' ≤ lo) (hn : As.length = n) (hst : st0 = As.reverse ++ rest) (h8 : (rest.map fun v => v.category).sum ≤ 8) (d : decode cc pc = .ok (.invokestatic idx, 3)) (kk : XM F G B Q nL M σ τ (pc + 3) lv (.int v :: rest)) : XM F G B Q nL M σ τ pc lv st0 := XM_callS C hM hV hroom hn hst h8 d kk
theorem X_callSi {h : xH} {sz cs ss mc ms : Nat} (C : xC F G B cc own nL fr lo mc ms) {v : Int32} (hM : pCon (xFl F) y cc' nL' ret fr' lo' G B As (some (.int v))) (hV : xS own idx y cc' nL' ret n) (hroom : fr' + 1 ≤ fr ∧ 8 + (nL' + 11) + lo' ≤ lo) (hc : cs ≤ mc ∧ ss ≤ ms) (hn : As.length = n) (hst : st0 = As.reverse ++ rest) (h8 : (rest.map fun v => v.category).sum ≤ 8) (d : decode cc pc = .ok (.invokestatic idx, 3)) (kk : X F G B Q nL h sz cs ss (pc + 3) lv (.int v :: rest)) : X F G B Q nL h sz cs ss pc lv st0 := X_callS C (hM h sz) hV hroom hc hn hst h8 d (fun v h' z q => by obtain ⟨rfl, rfl, rfl⟩ := q; exact kk)
end XMCalls

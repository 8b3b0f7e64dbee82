/-! methods that throw, and calls of abstract ones: what they know besides -/
def yEx (k : Nat) : String := if k = 1 then "java/lang/IllegalArgumentException" else if k = 2 then "java/lang/IllegalStateException" else "java/lang/UnsupportedOperationException"
def yNm : List String := ["java/lang/RuntimeException", "java/lang/Exception"]
def yInS (C : String) : MethodName := ⟨C, "<init>", "(Ljava/lang/String;)V"⟩
def yHeft : MethodName := ⟨"TimedYard$Held", "heft", "()I"⟩
def yRow (n d : String) : MethodName := ⟨"TimedYard$Row", n, d⟩
/-- words of the tables that aren't kept by themselves -/
def yW : List Cond := [.castable (yEx 1) (yEx 1), .castable (yEx 2) (yEx 2), .castable (yEx 3) (yEx 3), .declares (yInS "java/lang/RuntimeException"), .declares (yInS "java/lang/Exception"), .declares (yInS "java/lang/Throwable"), .declares yHeft, .declares (yRow "size" "()I"), .declares (yRow "valueAt" "(I)J"), .declares (yRow "isOfKind" "(LTimedYard$Row;)Z"), .declares (yRow "giveTo" "(ILTimedYard$Row;II)V")]
theorem yW_sort : ∀ w ∈ yW, (∃ C T, w = .castable C T) ∨ ∃ x, w = .declares x := by
  intro w hw
  simp only [yW, List.mem_cons, List.not_mem_nil, or_false] at hw
  rcases hw with h | h | h | h | h | h | h | h | h | h | h
  · exact Or.inl ⟨_, _, h⟩
  · exact Or.inl ⟨_, _, h⟩
  · exact Or.inl ⟨_, _, h⟩
  all_goals exact Or.inr ⟨_, h⟩
theorem yW_tab : ∀ w ∈ yW, w.onTables = true := by
  intro w hw
  rcases yW_sort w hw with ⟨C, T, rfl⟩ | ⟨x, rfl⟩ <;> rfl
/-- the texts -/
def ySt : List (Nat × String) := [(153, "no such state or clock"), (218, "no such clock"), (248, "no such shelf"), (261, "no row with such a place"), (317, "a word that is given"), (319, "a word that is taken")]
def yK (B : Nat) (Y : Nat → Nat) (U : State) : Prop := (∀ w ∈ yW, va_Nw w U) ∧ (∀ (i : Nat) (q : Nat × String), ySt[i]? = some q → vk_R "TimedYard" q.1 q.2 (Y i) U) ∧ va_Nc (yEx 2) (yEx 1) U ∧ va_Nc (yEx 3) (yEx 2) U ∧ vx_Zq Bundle.tN "UNASSIGNED_STACK" Bundle.steD (fun q => B ≤ q) U U.heap ∧ vx_Zq Bundle.tN "SUPPRESSED_SENTINEL" Bundle.listD (fun q => B ≤ q) U U.heap
theorem yK.go {B : Nat} {Y : Nat → Nat} {s U : State} (hW : s.WarmedH U.vm) (hk : ∀ a : Nat, a < s.heap.size → ¬ (B ≤ a) → U.heap[a]? = s.heap[a]?) (h : yK B Y s) : yK B Y U := by
  obtain ⟨h1, h2, h3, h4, h5, h6⟩ := h
  refine ⟨fun w hw => ?_, fun i q hq => vk_R.warm hW (h2 i q hq), va_Nc.moved hW.alike h3, va_Nc.moved hW.alike h4, (vx_Zq.moved hW.alike h5).kept hk, (vx_Zq.moved hW.alike h6).kept hk⟩
  have h := h1 w hw
  rcases yW_sort w hw with ⟨C, T, rfl⟩ | ⟨x, rfl⟩
  · exact va_Nw.warmC hW h
  · exact va_Nw.warmD hW h
def yPc (G : xG) (B : Nat) (Y : Nat → Nat) (av : List Value) (h : xH) (sz : Nat) : Array Value → State → Prop := va_Pc av (fun U => U.heap.size = sz ∧ B ≤ sz ∧ xR G B h U.heap ∧ xK G U ∧ yK B Y U)
theorem yPc_blind {G : xG} {B : Nat} {Y : Nat → Nat} {av : List Value} {h : xH} {sz : Nat} : FrameBlind (yPc G B Y av h sz) := fun a U g mk q => by
  obtain ⟨q0, q1, q2, qR, qK, qY⟩ := q
  exact ⟨q0, q1, q2, qR, xK.moved (u := U) (U := U.calling g mk a) (Vm.Alike.refl U.vm) qK, yK.go (s := U) (U := U.calling g mk a) (State.WarmedH.refl U) (fun _ _ _ => rfl) qY⟩
/-- how a method that may throw ends: cd = 0 it returns v, else it throws yEx cd -/
def kT (v : Option Value) (cd : Nat) (h : xH) (sz : Nat) : Option Value → xH → Nat → Prop := fun u h' z' => cd = 0 ∧ u = v ∧ h' = h ∧ z' = sz
def tX (G : xG) (B cd : Nat) (h : xH) (sz : Nat) : String → State → State → Prop := fun E st t => cd ≠ 0 ∧ E = yEx cd ∧ sz ≤ t.heap.size ∧ xR G B h t.heap ∧ va_F (fun q => B ≤ q) st t
def tZ (F : xF) (G : xG) (B : Nat) (v : Option Value) (cd : Nat) (h : xH) (sz mc ms : Nat) : State → Prop := vx_MQ (xFb F) (xQ G B (kT v cd h sz)) (tX G B cd h sz) (xFa F) (xFs F) mc ms (fun q => B ≤ q)
def yCon (l : Launch) (y : MethodName) (cc : ByteArray) (nL : Nat) (ret : Option FieldType) (fr lo mc ms : Nat) (G : xG) (B : Nat) (Y : Nat → Nat) (av : List Value) (h : xH) (sz : Nat) (P : Option Value → xH → Nat → Prop) : Prop :=
  Met l y (.code y cc nL ret :: xtbl) { frames := fr, cells := mc, slots := ms, locals := lo } (yPc G B Y av h sz) (xQ G B P) mc ms (fun q => B ≤ q)
def yConW (l : Launch) (y : MethodName) (cc : ByteArray) (nL : Nat) (ret : Option FieldType) (hh : List (Nat × Nat × Nat × Nat)) (fr lo mc ms : Nat) (G : xG) (B : Nat) (Y : Nat → Nat) (av : List Value) (h : xH) (sz : Nat) (P : Option Value → xH → Nat → Prop) : Prop :=
  Met l y (.codeWith y cc nL ret hh :: xtbl) { frames := fr, cells := mc, slots := ms, locals := lo } (yPc G B Y av h sz) (xQ G B P) mc ms (fun q => B ≤ q)
def tCon (l : Launch) (y : MethodName) (cc : ByteArray) (nL : Nat) (ret : Option FieldType) (fr lo mc ms : Nat) (G : xG) (B : Nat) (Y : Nat → Nat) (av : List Value) (h : xH) (sz : Nat) (v : Option Value) (cd : Nat) (h' : xH) : Prop :=
  vx_Met l y (.code y cc nL ret :: xtbl) { frames := fr, cells := mc, slots := ms, locals := lo } (yPc G B Y av h sz) (xQ G B (kT v cd h' sz)) (tX G B cd h' sz) mc ms (fun q => B ≤ q)
section YK1
variable {F : xF} {G : xG} {B : Nat} {Y : Nat → Nat} {Q : State → Prop} {nL fr lo mc ms : Nat} {h : xH} {sz cs ss pc : Nat} {lv lv' : List (Nat × Value)} {st : List Value} {cc : ByteArray} {own : String}
theorem yCon.of {l : Launch} {y : MethodName} {ret : Option FieldType} {av : List Value} {P : Option Value → xH → Nat → Prop} (hy : plainName y.cls = true) (hlen : (lg_sl av).length ≤ nL)
    (body : ∀ F : xF, xFl F = l → xC F G B cc y.cls nL fr lo mc ms → yK B Y (xFs F) → (xFM F).sig.returnType = ret → X F G B (xZ F G B P mc ms) nL h sz 0 0 0 (lv_args 0 av) []) : yCon l y cc nL ret fr lo mc ms G B Y av h sz P := by
  refine Met.ofW (cc := cc) (maxL := nL) (ret := ret) hy rfl ?_
  intro p e s m args below meth c s₁ Bd hml hv
  obtain ⟨rfl, hz, hB, hR, hK, hY⟩ := hv
  have hts := atoms_spec (ws := .code y cc nL ret :: xtbl) Bd.pre
  have hl := lv_entry av (n := nL) hlen
  rw [lg_entry_eq]
  exact body (p, l, e, _, s, m, av.toArray, below, meth, c) rfl ⟨Bd.exec, Bd.bytes, hml, findClass_of_methodNamed Bd.named, fun w hw => hts w (List.mem_cons_of_mem _ hw), hK, by rw [hz]; exact hB, Bd.notSynchronized, rfl⟩ hY Bd.returns s.heap [] _ hz hR va_S.rf hl
theorem yConW.of {l : Launch} {y : MethodName} {ret : Option FieldType} {hh : List (Nat × Nat × Nat × Nat)} {av : List Value} {P : Option Value → xH → Nat → Prop} (hy : plainName y.cls = true) (hlen : (lg_sl av).length ≤ nL)
    (body : ∀ F : xF, xFl F = l → xC F G B cc y.cls nL fr lo mc ms → yK B Y (xFs F) → (xFM F).sig.returnType = ret → (xFc F).exceptionTable.toList = tableOf hh → X F G B (xZ F G B P mc ms) nL h sz 0 0 0 (lv_args 0 av) []) : yConW l y cc nL ret hh fr lo mc ms G B Y av h sz P := by
  refine va_MetW (cc := cc) (maxL := nL) (ret := ret) (hh := hh) hy rfl ?_
  intro p e s m args below meth c s₁ Bd hml hv
  obtain ⟨rfl, hz, hB, hR, hK, hY⟩ := hv
  have hts := atoms_spec (ws := .codeWith y cc nL ret hh :: xtbl) Bd.pre
  have hl := lv_entry av (n := nL) hlen
  rw [lg_entry_eq]
  exact body (p, l, e, _, s, m, av.toArray, below, meth, c) rfl ⟨Bd.exec, Bd.bytes, hml, findClass_of_methodNamed Bd.named, fun w hw => hts w (List.mem_cons_of_mem _ hw), hK, by rw [hz]; exact hB, Bd.notSynchronized, rfl⟩ hY Bd.returns (vx_table (x := y) Bd (hts _ List.mem_cons_self)) s.heap [] _ hz hR va_S.rf hl
theorem tCon.of {l : Launch} {y : MethodName} {ret : Option FieldType} {av : List Value} {v : Option Value} {cd : Nat} {h' : xH} (hy : plainName y.cls = true) (hlen : (lg_sl av).length ≤ nL)
    (body : ∀ F : xF, xFl F = l → xC F G B cc y.cls nL fr lo mc ms → yK B Y (xFs F) → (xFM F).sig.returnType = ret → (∀ x ∈ (xFc F).exceptionTable.toList, False) → X F G B (tZ F G B v cd h' sz mc ms) nL h sz 0 0 0 (lv_args 0 av) []) : tCon l y cc nL ret fr lo mc ms G B Y av h sz v cd h' := by
  refine vx_ofW (cc := cc) (maxL := nL) (ret := ret) hy rfl ?_
  intro p e s m args below meth c s₁ Bd hml ht hv
  obtain ⟨rfl, hz, hB, hR, hK, hY⟩ := hv
  have hts := atoms_spec (ws := .code y cc nL ret :: xtbl) Bd.pre
  have hl := lv_entry av (n := nL) hlen
  rw [lg_entry_eq]
  exact body (p, l, e, _, s, m, av.toArray, below, meth, c) rfl ⟨Bd.exec, Bd.bytes, hml, findClass_of_methodNamed Bd.named, fun w hw => hts w (List.mem_cons_of_mem _ hw), hK, by rw [hz]; exact hB, Bd.notSynchronized, rfl⟩ hY Bd.returns ht s.heap [] _ hz hR va_S.rf hl
/-- a return in a method that may throw -/
theorem X_tret {v : Option Value} {h' : xH} {z' : Nat} (k : X F G B (xZ F G B (kT v 0 h' z') mc ms) nL h sz cs ss pc lv st) : X F G B (tZ F G B v 0 h' z' mc ms) nL h sz cs ss pc lv st := fun H locs ls hz hR hS hl => vx_ret (k H locs ls hz hR hS hl)
/-- the machine with an exception of class E over the frame -/
def XT (F : xF) (G : xG) (B : Nat) (Q : State → Prop) (nL : Nat) (h : xH) (sz cs ss pc : Nat) (lv : List (Nat × Value)) (st : List Value) (E : String) : Prop :=
  ∀ (H : Heap) (locs : List Loc) (ls : Array Slot) (q : Addr) (ce : Cell), H.size = sz → xR G B h H → va_S (fun q => B ≤ q) (xFs F).heap H locs → lv_has ls nL lv → H[q]? = some ce → ce.vm = .none → (xFs F).vm.findClass E = some ce.cls → vx_W F.1 F.2.1 F.2.2.1 F.2.2.2.1 F.2.2.2.2.1 F.2.2.2.2.2.1 F.2.2.2.2.2.2.1 F.2.2.2.2.2.2.2.1 F.2.2.2.2.2.2.2.2.1 F.2.2.2.2.2.2.2.2.2 H locs cs ss Q (F0 (xFm F) pc ls st) q
theorem X_runT {a : Array Value} {st0 rest : List Value} {v : Option Value} {cd : Nat} {h2 : xH} {m2 s2 : Nat}
    (hr : ∀ (H : Heap) (locs : List Loc) (ls : Array Slot), H.size = sz → xR G B h H → va_S (fun q => B ≤ q) (xFs F).heap H locs → lv_has ls nL lv → vx_Run F.1 F.2.1 F.2.2.1 F.2.2.2.1 F.2.2.2.2.1 F.2.2.2.2.2.1 F.2.2.2.2.2.2.1 F.2.2.2.2.2.2.2.1 F.2.2.2.2.2.2.2.2.1 F.2.2.2.2.2.2.2.2.2 H locs cs ss m2 s2 (F0 (xFm F) pc ls st0) rest (xQ G B (kT v cd h2 sz) a) (tX G B cd h2 sz) (fun q => B ≤ q))
    (kk : cd = 0 → X F G B Q nL h2 sz (cs + m2) (ss + s2) (pc + 3) lv (v.toList ++ rest))
    (kx : cd ≠ 0 → ∀ z', sz ≤ z' → XT F G B Q nL h2 z' (cs + m2) (ss + s2) pc lv rest (yEx cd)) : X F G B Q nL h sz cs ss pc lv st0 := by
  intro H locs ls hz hR hS hl T hT X0
  have keep : ∀ {st₀ t T' : State} {L : List Loc}, st₀.heap = H → T'.heap = t.heap → (∀ q ∈ L, B ≤ q.base) → va_F (fun q => B ≤ q) st₀ t → va_S (fun q => B ≤ q) (xFs F).heap T'.heap (locs ++ L) := fun {st₀ t T' L} h0 e1 hL hF => by
    obtain ⟨hzz, hk⟩ := hF
    rw [h0] at hzz hk
    exact ⟨Nat.le_trans hS.1 (by rw [e1]; exact hzz), fun q h1 h2 => by rw [e1, hk q (Nat.lt_of_lt_of_le h1 hS.1) h2]; exact hS.2.1 q h1 h2, fun q hq => by
      rcases List.mem_append.mp hq with h | h
      · exact hS.2.2 q h
      · exact hL q h⟩
  rcases hr H locs ls hz hR hS hl T hT X0 with ⟨v1, st₀, t, T', L, h0, X', hL, e1, e2, ⟨⟨v', h', hv, ⟨c0, u1, u2, u3⟩, hR'⟩, hF⟩, st⟩ | ⟨q, st₀, t, T', L, E, ce, h0, X', hL, e1, e2, ⟨c0, hE, z1, hR', hF⟩, hce, hcv, hcl, st⟩
  · cases hv
    subst u1 u2
    obtain ⟨t2, a1, b1⟩ := kk c0 T'.heap (locs ++ L) ls (by rw [e1]; exact u3) (by rw [e1]; exact hR') (keep h0 e1 hL hF) hl T' rfl X'
    exact ⟨t2, st t2 a1, b1⟩
  · subst hE
    obtain ⟨t2, a1, b1⟩ := kx c0 t.heap.size z1 T'.heap (locs ++ L) ls q ce (by rw [e1]) (by rw [e1]; exact hR') (keep h0 e1 hL hF) hl (by rw [e1]; exact hce) hcv hcl T' rfl X'
    exact ⟨t2, st.trans a1, b1⟩
/-- caught here -/
theorem X_catch (C : xC F G B cc own nL fr lo mc ms) {E : String} {hp : Nat} (hrows : wRows own E pc hp (xFa F) (xFs F) (xFc F).exceptionTable.toList) (kk : ∀ q, X F G B Q nL h sz cs ss hp lv [.ref q]) : XT F G B Q nL h sz cs ss pc lv st E := fun H locs ls q ce hz hR hS hl hc hv hcl => yk_catch C.2.2.2.1 hrows hc hv hcl (kk q H locs ls hz hR hS hl)
end YK1

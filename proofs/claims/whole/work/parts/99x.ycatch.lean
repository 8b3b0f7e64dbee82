/-! an exception over a frame, caught by a row of the method's own table -/
/-- the rows of a table lead this class of exceptions to the handler hp -/
def rowsTo (pl : Platform) (s0 : State) (d : ClassId) (pc : Nat) (thrown : ClassId) (hp : Nat) : List ExceptionTableEntry → Prop
  | [] => False
  | x :: t => (covers x pc = false ∧ rowsTo pl s0 d pc thrown hp t) ∨ (covers x pc = true ∧ x.catchType ≠ 0 ∧ ∃ c, s0.vm.ClassLinks pl d x.catchType c ∧ ((s0.vm.assignable thrown c = true ∧ x.handlerPc = hp) ∨ (s0.vm.assignable thrown c = false ∧ rowsTo pl s0 d pc thrown hp t)))
/-- one row that names a class, looked up where it stands -/
theorem yk_row {Q : Handler → Pre} {E : CtlPost} {e : Env} {d : Bool} {acts : List Action} {S : State} {f : JFrame} {a : Addr} {x : ExceptionTableEntry} {t : List ExceptionTableEntry} {c : ClassId} {cell : Cell} (hx : covers x f.pc = true) (h0 : x.catchType ≠ 0) (hl : S.vm.ClassLinks e.platform f.method.cls x.catchType c) (hcell : S.heap[a]? = some cell) (hobj : ∀ k, cell.vm ≠ .statics k) (hk : ∃ k, S.vm.classes[cell.cls]? = some k) (hc : ∃ k, S.vm.classes[c]? = some k) : wp (findHandler.go f a (x :: t)) Q E e d acts S ↔ if S.vm.assignable cell.cls c = true then Q (.found x.handlerPc) d acts (S.setVm (S.vm.noted f.method.cls x.catchType (.cls c))) else wp (findHandler.go f a t) Q E e d acts (S.setVm (S.vm.noted f.method.cls x.catchType (.cls c))) := by
  simp only [covers] at hx
  obtain ⟨ha, ht⟩ := (resolveClass_links e.toSetting hl).op (op := VmOp.resolveClass f.method.cls x.catchType) rfl
  have hal : S.vm.Alike (S.vm.noted f.method.cls x.catchType (.cls c)) := (Vm.Alike.refl S.vm).noted _ _ _
  obtain ⟨k1, hk1⟩ := hk
  obtain ⟨k2, hk2⟩ := hc
  obtain ⟨m1, hm1, -⟩ := hal.2.2 _ _ hk1
  obtain ⟨m2, hm2, -⟩ := hal.2.2 _ _ hk2
  have has : (S.vm.noted f.method.cls x.catchType (.cls c)).assignable cell.cls c = S.vm.assignable cell.cls c := hal.assignable ..
  cases hf : S.vm.assignable cell.cls c <;> simp [findHandler.go, hx, h0, ha, ht, hcell, hobj, hm1, hm2, has, hf, VmOp.dirties, VmOp.acts]
theorem yk_rows {e : Env} {s0 : State} {f : JFrame} {a : Addr} {cell : Cell} {hp : Nat} (hobj : ∀ k, cell.vm ≠ .statics k) (hk0 : ∃ k, s0.vm.classes[cell.cls]? = some k) : ∀ (L : List ExceptionTableEntry) (S : State), rowsTo e.platform s0 f.method.cls f.pc cell.cls hp L → s0.WarmedH S.vm → S.heap[a]? = some cell → ∃ vm', s0.WarmedH vm' ∧ ∀ (Q : Handler → Pre) (E : CtlPost) (d : Bool) (acts : List Action), wp (findHandler.go f a L) Q E e d acts S ↔ Q (.found hp) d acts (S.setVm vm') := by
  intro L
  induction L with
  | nil => intro S h; exact h.elim
  | cons x t ih =>
    intro S h hW hcell
    rcases h with ⟨hx, h⟩ | ⟨hx, h0, c, hl, h⟩
    · obtain ⟨vm', w, g⟩ := ih S h hW hcell
      exact ⟨vm', w, fun Q E d acts => (Jvm.W.findHandler_go_skip hx).trans (g Q E d acts)⟩
    · obtain ⟨k0, hk⟩ := hk0
      obtain ⟨k0', hk0', -⟩ := hW.alike.2.2 _ _ hk
      obtain ⟨dk, _, _, kt, hd, _, _, _, _, hkt, _, hopen⟩ := hl.here
      obtain ⟨kt', hkt', -⟩ := hW.alike.2.2 _ _ hkt
      have hW2 := hW.noted hd hopen (State.rightAt_cls hl)
      have row := fun (Q : Handler → Pre) (E : CtlPost) (d : Bool) (acts : List Action) => yk_row (Q := Q) (E := E) (d := d) (acts := acts) (t := t) hx h0 (hW.classLinks hl) hcell hobj ⟨k0', hk0'⟩ ⟨kt', hkt'⟩
      rcases h with ⟨hy, rfl⟩ | ⟨hn, h⟩
      · refine ⟨_, hW2, fun Q E d acts => ?_⟩
        rw [row Q E d acts, if_pos (by rw [hW.alike.assignable]; exact hy)]
      · obtain ⟨vm', w, g⟩ := ih (S.setVm (S.vm.noted f.method.cls x.catchType (.cls c))) h hW2 hcell
        refine ⟨vm', w, fun Q E d acts => ?_⟩
        rw [row Q E d acts, if_neg (by rw [hW.alike.assignable, hn]; decide), g Q E d acts]
        rfl
theorem yk_step {e : Env} {s : State} {a : Addr} {f : JFrame} {r : List Frame} {pc : Nat} {vm' : Vm} (hfind : ∀ (Q : Handler → Pre) (E : CtlPost) (d : Bool) (acts : List Action), wp (findHandler f a) Q E e d acts s ↔ Q (.found pc) d acts (s.setVm vm')) : (stepThrowing e s a (.java f :: r)).Is ((s.setVm vm').setFrames (.java { f with pc := pc, stack := [.ref a] } :: r)) [] := by
  simp only [stepThrowing, searchFrame, vmDo]
  generalize hr : Sem.go _ e false [] s = res
  obtain ⟨as, rfl, ha⟩ := Sem.eq_ok_of hr (a := Handler.found pc) (s' := s.setVm vm') (acts' := []) (by simp [hfind _ _ _ _])
  exact ⟨rfl, ha⟩
section YCatch
variable {p : Program} {l : Launch} {e : Env} {R : Room} {s : State} {m : MethodId} {args : Array Value} {below : List Frame} {meth : Method} {c : Code} {T : State} {locs : List Loc} {cells slots : Nat} {H : Heap} {Q : State → Prop}
theorem yk_caught (X : Stand p l e R s m args below meth c T locs cells slots) (q : Addr) {g : JFrame} (hg : g.method = m) {cell : Cell} (hcell : T.heap[q]? = some cell) (hobj : cell.vm.isStatics = false) (hk0 : ∃ k, s.vm.classes[cell.cls]? = some k) {hp : Nat} (hrows : rowsTo e.platform s m.cls g.pc cell.cls hp c.exceptionTable.toList) : ∃ vm', Stand p l e R s m args below meth c (T.setVm vm') locs cells slots ∧ Steps p.tables e below ((T.setTop g).pushFrame (.throwing q)) ((T.setVm vm').setTop { g with pc := hp, stack := [.ref q] }) := by
  subst hg
  obtain ⟨vm', hW', hgo⟩ := yk_rows (e := e) (s0 := s) (f := g) (a := q) (VmData.ne_statics_of hobj) hk0 c.exceptionTable.toList ((T.setTop g).pushFrame (.throwing q)) hrows X.warmed hcell
  refine ⟨vm', X.noted hW', ?_⟩
  obtain ⟨h1, h2⟩ := X.here.throwing q
  refine Steps.head h1 h2 ?_
  have hf : ∀ (Q : Handler → Pre) (E : CtlPost) (d : Bool) (acts : List Action), wp (findHandler g q) Q E e d acts ((T.setTop g).pushFrame (.throwing q)) ↔ Q (.found hp) d acts (((T.setTop g).pushFrame (.throwing q)).setVm vm') := fun Q E d acts => (Jvm.W.findHandler_eq (s := (T.setTop g).pushFrame (.throwing q)) X.method' X.code).trans (hgo Q E d acts)
  rw [stepThread_throwing (frames_entered X.here.top _), (yk_step hf).1]
  obtain ⟨g0, hr⟩ := X.frames_eq
  have hr' : (T.setVm vm').frames = .java g0 :: below := hr
  have sfv : ∀ (u : State) (F' G' : List Frame), ((u.setFrames F').setVm vm').setFrames G' = (u.setVm vm').setFrames G' := fun u F' G' => State.setFrames_setFrames (u.setVm vm') F' G'
  rw [hr, List.tail_cons, State.pushFrame, sfv, State.setTop_of_frames _ hr, sfv, State.setTop_of_frames _ hr']
  exact Steps.refl _
/-- the same, in the tables' words -/
def wRows (own E : String) (pc hp : Nat) (args : Array Value) (s : State) : List ExceptionTableEntry → Prop
  | [] => False
  | x :: t => (covers x pc = false ∧ wRows own E pc hp args s t) ∨ (covers x pc = true ∧ x.catchType ≠ 0 ∧ ∃ nm, (Cond.classLink own x.catchType nm).before args s = true ∧ ((va_Nw (.castable E nm) s ∧ x.handlerPc = hp) ∨ (va_Nc E nm s ∧ wRows own E pc hp args s t)))
theorem wRows_rows {own E : String} {pc hp : Nat} {d ce : ClassId} {pl : Platform} (hpl : pl.magicAccessors = ({} : Platform).magicAccessors) (hown : s.vm.findClass own = some d) (hcl : s.vm.findClass E = some ce) : ∀ L : List ExceptionTableEntry, wRows own E pc hp args s L → rowsTo pl s d pc ce hp L := by
  intro L
  induction L with
  | nil => intro h; exact h
  | cons x t ih =>
    intro h
    rcases h with ⟨hx, h⟩ | ⟨hx, h0, nm, hl, h⟩
    · exact Or.inl ⟨hx, ih h⟩
    · obtain ⟨c5, hc5, hk⟩ := Cond.classLink_spec hown hl pl hpl
      refine Or.inr ⟨hx, h0, c5, hk, ?_⟩
      rcases h with ⟨hy, e⟩ | ⟨hn, h⟩
      · obtain ⟨c3, c4, h3, h4, ha⟩ := Cond.castable_spec hy
        cases Option.some.inj (h3.symm.trans hcl)
        cases Option.some.inj (h4.symm.trans hc5)
        exact Or.inl ⟨ha, e⟩
      · obtain ⟨c3, c4, h3, h4, ha⟩ := hn
        cases Option.some.inj (h3.symm.trans hcl)
        cases Option.some.inj (h4.symm.trans hc5)
        exact Or.inr ⟨ha, ih h⟩
/-- caught: the machine goes on at the handler -/
theorem yk_catch {own E : String} {ce : Cell} {q : Addr} {pc hp : Nat} {ls : Array Slot} {rest : List Value} (hown : s.vm.findClass own = some m.cls) (hrows : wRows own E pc hp args s c.exceptionTable.toList) (hcell : H[q]? = some ce) (hv : ce.vm = .none) (hcl : s.vm.findClass E = some ce.cls) (kk : W p l e R s m args below meth c H locs cells slots Q (F0 m hp ls [.ref q])) : vx_W p l e R s m args below meth c H locs cells slots Q (F0 m pc ls rest) q := by
  intro T hT X
  have hpl : e.platform.magicAccessors = ({} : Platform).magicAccessors := by rw [X.admits.platform]
  obtain ⟨vm', X', st⟩ := yk_caught X q (g := F0 m pc ls rest) rfl (by rw [hT]; exact hcell) (by rw [hv]; rfl) (by obtain ⟨k9, h9, -⟩ := Vm.findClass_spec hcl; exact ⟨k9, h9⟩) (wRows_rows hpl hown hcl _ hrows)
  obtain ⟨t, a1, b1⟩ := kk (T.setVm vm') hT X'
  exact ⟨t, st.trans a1, b1⟩
end YCatch

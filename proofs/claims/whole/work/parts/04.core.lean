/-! THE HEAP AS A FUNCTION: cells by address; X: the machine at a frame, over any real heap that holds them -/
def xtbl : List Cond := lw_tbl.filter goodWord
theorem x_good : ∀ w ∈ xtbl, goodWord w = true := fun w h => (List.mem_filter.mp h).2
theorem mem_x {w : Cond} (i : Nat) (h : lw_tbl[i]? = some w) (g : goodWord w = true) : w ∈ xtbl := List.mem_filter.mpr ⟨List.mem_of_getElem? h, g⟩
theorem x_sub : ∀ w ∈ xtbl, w ∈ lw_tbl := fun w h => (List.mem_filter.mp h).1
abbrev xE : Type := (Nat × vp_A) ⊕ (Nat × List Value)
abbrev xH : Type := Nat → Option xE
abbrev xG : Type := (Nat → ClassId) × (Nat → Nat → Nat) × (Nat → ClassId)
def xc (G : xG) (e : xE) : va_E := match e with
  | .inl a => .inl (G.2.2 a.1, a.2)
  | .inr o => .inr o
/-- the kinds of arrays -/
def xT : List FieldType := [.int, .long, .boolean, .short, .object "TimedYard$Place", .object "TimedYard$Way", .object "TimedYard$Machine", .object "TimedYard$State", .object "TimedYard$Held"]
/-- which classes of the class file are castable to which, and which are not -/
def xYc (C T : String) (U : State) : Prop := ∃ c t : ClassId, U.vm.findClass C = some c ∧ U.vm.findClass T = some t ∧ U.vm.assignable c t = true
theorem xYc.moved {C T : String} {u U : State} (hvm : u.vm.Alike U.vm) (h : xYc C T u) : xYc C T U := by
  obtain ⟨c, t, h1, h2, h3⟩ := h
  exact ⟨c, t, by rw [hvm.findClass]; exact h1, by rw [hvm.findClass]; exact h2, by rw [hvm.assignable]; exact h3⟩
def xYl : List (String × String) := [("TimedYard$LongRow", "TimedYard$Row"), ("TimedYard$ShortRow", "TimedYard$Row"), ("TimedYard$Place", "TimedYard$Held"), ("TimedYard$Way", "TimedYard$Held"), ("TimedYard$ShortRow", "TimedYard$Held"), ("TimedYard$LongRow", "TimedYard$Held"), ("TimedYard$Way", "TimedYard$Way"), ("TimedYard$ShortRow", "TimedYard$ShortRow"), ("TimedYard$LongRow", "TimedYard$LongRow")]
def xNl : List (String × String) := [("TimedYard$Place", "TimedYard$Row"), ("TimedYard$Way", "TimedYard$Row"), ("TimedYard$Place", "TimedYard$LongRow"), ("TimedYard$Way", "TimedYard$LongRow"), ("TimedYard$ShortRow", "TimedYard$LongRow"), ("TimedYard$Place", "TimedYard$ShortRow"), ("TimedYard$Way", "TimedYard$ShortRow"), ("TimedYard$LongRow", "TimedYard$ShortRow"), ("TimedYard$Place", "TimedYard$Way"), ("TimedYard$ShortRow", "TimedYard$Way"), ("TimedYard$LongRow", "TimedYard$Way")]
def xK (G : xG) (U : State) : Prop := (∀ (c : Nat) (q : vw_C), xCl[c]? = some q → u_Kn U q.1 q.2.1 q.2.2 (G.1 c) (G.2.1 c)) ∧ (∀ (k : Nat) (ty : FieldType), xT[k]? = some ty → ArrOfT U (G.2.2 k) ty ∧ va_RA U (G.2.2 k) ty) ∧ (∀ (k : Nat) (Cn : String), xT[k]? = some (.object Cn) → va_AO Cn U) ∧ (∀ p ∈ xYl, xYc p.1 p.2 U) ∧ ∀ p ∈ xNl, va_Nc p.1 p.2 U
theorem xK.moved {G : xG} {u U : State} (hvm : u.vm.Alike U.vm) (h : xK G u) : xK G U := ⟨fun c q hq => u_Kn_moved hvm (h.1 c q hq), fun k ty hk => ⟨arrOfT_moved hvm (h.2.1 k ty hk).1, (h.2.1 k ty hk).2.moved hvm⟩, fun k Cn hk => va_AO.moved hvm (h.2.2.1 k Cn hk), fun p hp => (h.2.2.2.1 p hp).moved hvm, fun p hp => va_Nc.moved hvm (h.2.2.2.2 p hp)⟩
theorem xK.va {G : xG} {U : State} (h : xK G U) : va_K (G.1, G.2.1) xCl [] U := ⟨h.1, fun k q hk => by simp at hk⟩
theorem xK.va1 {G : xG} {U : State} (h : xK G U) {k : Nat} {ty : FieldType} (hk : xT[k]? = some ty) : va_K (G.1, G.2.1) xCl [(G.2.2 k, ty)] U := by
  refine ⟨h.1, fun j q hj => ?_⟩
  have hz : j < 1 := (List.getElem?_eq_some_iff.mp hj).1
  rw [show j = 0 by omega] at hj
  cases hj
  exact h.2.1 k ty hk
def xR (G : xG) (B : Nat) (h : xH) (H : Heap) : Prop := ∀ (a : Nat) (e : xE), h a = some e → B ≤ a ∧ va_at (G.1, G.2.1) xCl (a, xc G e) H
def xup (h : xH) (a : Nat) (e : xE) : xH := fun q => if q = a then some e else h q
theorem xup_eq {h : xH} {a : Nat} {e : xE} : xup h a e a = some e := by simp [xup]
theorem xup_ne {h : xH} {a b : Nat} {e : xE} (hb : b ≠ a) : xup h a e b = h b := by simp [xup, hb]
theorem xR.lt {G : xG} {B : Nat} {h : xH} {H : Heap} (hR : xR G B h H) {a : Nat} {e : xE} (he : h a = some e) : a < H.size := (hR a e he).2.lt
theorem xR.va {G : xG} {B : Nat} {h : xH} {H : Heap} (hR : xR G B h H) {a : Nat} {e : xE} (he : h a = some e) : va_P (G.1, G.2.1) xCl [(a, xc G e)] H := by
  intro k q hk
  have hz : k < 1 := (List.getElem?_eq_some_iff.mp hk).1
  rw [show k = 0 by omega] at hk
  cases hk
  exact (hR a e he).2
theorem xR.set {G : xG} {B : Nat} {h : xH} {H H1 : Heap} (hR : xR G B h H) {a : Nat} {e : xE} (hB : B ≤ a) (hat : va_at (G.1, G.2.1) xCl (a, xc G e) H1) (ho : ∀ q, q ≠ a → H1[q]? = H[q]?) : xR G B (xup h a e) H1 := by
  intro b e' hb
  by_cases hq : b = a
  · subst hq
    rw [xup_eq] at hb
    cases hb
    exact ⟨hB, hat⟩
  · rw [xup_ne hq] at hb
    exact ⟨(hR b e' hb).1, (hR b e' hb).2.kept (ho b hq)⟩
theorem xR.push {G : xG} {B : Nat} {h : xH} {H H1 : Heap} (hR : xR G B h H) {e : xE} (hB : B ≤ H.size) (hat : va_at (G.1, G.2.1) xCl (H.size, xc G e) H1) (ho : ∀ q, q < H.size → H1[q]? = H[q]?) : h H.size = none ∧ xR G B (xup h H.size e) H1 := by
  have hn : h H.size = none := by
    cases hh : h H.size with
    | none => rfl
    | some e' => exact absurd (hR.lt hh) (Nat.lt_irrefl _)
  refine ⟨hn, fun b e' hb => ?_⟩
  by_cases hq : b = H.size
  · subst hq
    rw [xup_eq] at hb
    cases hb
    exact ⟨hB, hat⟩
  · rw [xup_ne hq] at hb
    exact ⟨(hR b e' hb).1, (hR b e' hb).2.kept (ho b (hR.lt hb))⟩
abbrev xF : Type := Program × Launch × Env × Room × State × MethodId × Array Value × List Frame × Method × Code
abbrev xFp (F : xF) : Program := F.1
abbrev xFl (F : xF) : Launch := F.2.1
abbrev xFR (F : xF) : Room := F.2.2.2.1
abbrev xFs (F : xF) : State := F.2.2.2.2.1
abbrev xFm (F : xF) : MethodId := F.2.2.2.2.2.1
abbrev xFa (F : xF) : Array Value := F.2.2.2.2.2.2.1
abbrev xFb (F : xF) : List Frame := F.2.2.2.2.2.2.2.1
abbrev xFM (F : xF) : Method := F.2.2.2.2.2.2.2.2.1
abbrev xFc (F : xF) : Code := F.2.2.2.2.2.2.2.2.2
abbrev xW (F : xF) (H : Heap) (locs : List Loc) (cs ss : Nat) (Q : State → Prop) (g : JFrame) : Prop := W F.1 F.2.1 F.2.2.1 F.2.2.2.1 F.2.2.2.2.1 F.2.2.2.2.2.1 F.2.2.2.2.2.2.1 F.2.2.2.2.2.2.2.1 F.2.2.2.2.2.2.2.2.1 F.2.2.2.2.2.2.2.2.2 H locs cs ss Q g
/-- the machine at a frame, over any heap that holds h -/
def X (F : xF) (G : xG) (B : Nat) (Q : State → Prop) (nL : Nat) (h : xH) (sz cs ss pc : Nat) (lv : List (Nat × Value)) (st : List Value) : Prop :=
  ∀ (H : Heap) (locs : List Loc) (ls : Array Slot), H.size = sz → xR G B h H → va_S (fun q => B ≤ q) (xFs F).heap H locs → lv_has ls nL lv → xW F H locs cs ss Q (F0 (xFm F) pc ls st)
/-- what a method's body stands on -/
def xC (F : xF) (G : xG) (B : Nat) (cc : ByteArray) (own : String) (nL fr lo mc ms : Nat) : Prop :=
  (xFp F).tables.exec = Jvm.exec ∧ (xFc F).code = cc ∧ (xFc F).maxLocals = nL ∧ (xFs F).vm.findClass own = some (xFm F).cls ∧ (∀ w ∈ xtbl, w.before (xFa F) (xFs F) = true) ∧ xK G (xFs F) ∧ B ≤ (xFs F).heap.size ∧ (xFM F).locks = false ∧ xFR F = { frames := fr, cells := mc, slots := ms, locals := lo }
def xget (lv : List (Nat × Value)) (i : Nat) : Option Value := match lv with
  | [] => none
  | q :: r => if q.1 = i then some q.2 else xget r i
theorem xget_mem {lv : List (Nat × Value)} {i : Nat} {v : Value} (h : xget lv i = some v) : (i, v) ∈ lv := by
  induction lv with
  | nil => simp [xget] at h
  | cons q r ih =>
    unfold xget at h
    by_cases hq : q.1 = i
    · rw [if_pos hq] at h
      cases h
      rw [← hq]
      exact List.mem_cons_self
    · rw [if_neg hq] at h
      exact List.mem_cons_of_mem _ (ih h)
theorem xget_at {ls : Array Slot} {nL : Nat} {lv : List (Nat × Value)} (hl : lv_has ls nL lv) {i : Nat} {v : Value} (h : xget lv i = some v) : ls[i]? = some (.val v) := hl.2.2 (i, v) (xget_mem h)
theorem xget_ix {lv : List (Nat × Value)} {i : Nat} {v : Value} (h : xget lv i = some v) : ∃ k : Nat, lv[k]? = some (i, v) := List.getElem?_of_mem (xget_mem h)

/-! THE REFERENCE'S OBJECT: its state is a function of slot and place (σ: ints, τ: longs); its cells lie at o and ad -/
def mA : List (Nat × Nat × Nat) := [(2, 0, 3), (3, 0, 3), (4, 0, 18), (5, 0, 36), (6, 0, 36), (7, 0, 36), (8, 0, 36), (9, 0, 36), (10, 0, 36), (11, 0, 36), (12, 0, 108), (13, 0, 108), (14, 0, 108), (15, 0, 25), (18, 0, 25), (19, 0, 4), (24, 0, 600), (25, 0, 5000), (26, 0, 5000), (27, 0, 200), (28, 0, 200), (29, 0, 200), (30, 0, 200), (31, 0, 800), (32, 0, 200), (33, 2, 200), (38, 0, 3), (42, 0, 3), (43, 0, 25), (45, 0, 4), (46, 0, 8), (47, 0, 8), (48, 0, 8), (49, 0, 8), (50, 1, 480), (51, 1, 60)]
def mKf (k : Nat) : List (Nat × Nat × Nat) → Option (Nat × Nat)
  | [] => none
  | q :: r => if q.1 = k then some q.2 else mKf k r
def mk (k : Nat) : Option (Nat × Nat) := mKf k mA
abbrev mS : Type := Nat → Nat → Int32
abbrev mL : Type := Nat → Nat → Int64
def mfld (ad : Nat → Nat) (σ : mS) (k : Nat) : Value := match mk k with
  | some _ => .ref (ad k)
  | none => .int (σ k 0)
def mobj (ad : Nat → Nat) (σ : mS) : List Value := (List.range 52).map (mfld ad σ)
def mcell (σ : mS) (τ : mL) (k kd n : Nat) : vp_A := if kd = 1 then (n, .inr (.inl (τ k))) else (n, .inl (σ k))
/-- where it lies, what else the heap holds, the heap's size -/
abbrev xM : Type := Nat × (Nat → Nat) × xH × Nat
def Mo (M : xM) (σ : mS) (τ : mL) (h : xH) : Prop := h M.1 = some (.inr (0, mobj M.2.1 σ)) ∧ (∀ k kd n, mk k = some (kd, n) → h (M.2.1 k) = some (.inl (kd, mcell σ τ k kd n))) ∧ (∀ i j p q, mk i = some p → mk j = some q → M.2.1 i = M.2.1 j → i = j) ∧ ∀ q, q ≠ M.1 → (∀ k p, mk k = some p → q ≠ M.2.1 k) → h q = M.2.2.1 q
def su (σ : mS) (k i : Nat) (x : Int32) : mS := fun a b => if a = k ∧ b = i then x else σ a b
def sl (τ : mL) (k i : Nat) (x : Int64) : mL := fun a b => if a = k ∧ b = i then x else τ a b
theorem su_at (σ : mS) (k i : Nat) (x : Int32) : su σ k i x k = upd (σ k) i x := by funext b; simp [su, upd]
theorem su_ne (σ : mS) {k j : Nat} (i : Nat) (x : Int32) (h : j ≠ k) : su σ k i x j = σ j := by funext b; simp [su, h]
theorem sl_at (τ : mL) (k i : Nat) (x : Int64) : sl τ k i x k = vp_updL (τ k) i x := by funext b; simp [sl, vp_updL]
theorem sl_ne (τ : mL) {k j : Nat} (i : Nat) (x : Int64) (h : j ≠ k) : sl τ k i x j = τ j := by funext b; simp [sl, h]
theorem Mo.ne {M : xM} {σ : mS} {τ : mL} {h : xH} (H : Mo M σ τ h) {k : Nat} {p : Nat × Nat} (hk : mk k = some p) : M.2.1 k ≠ M.1 := by
  intro e
  have h1 := H.2.1 k p.1 p.2 hk
  rw [e, H.1] at h1
  cases h1
theorem mfld_su {ad : Nat → Nat} {σ : mS} {k i j : Nat} {x : Int32} (h : j ≠ k ∨ (mk k).isSome = true) : mfld ad (su σ k i x) j = mfld ad σ j := by
  unfold mfld
  cases hj : mk j with
  | some p => rfl
  | none =>
    show Value.int _ = Value.int _
    rw [su_ne]
    intro e
    subst e
    rcases h with h | h
    · exact h rfl
    · rw [hj] at h; cases h
theorem mobj_get (ad : Nat → Nat) (σ : mS) {k : Nat} (hk : k < 52) : (mobj ad σ)[k]? = some (mfld ad σ k) := by
  unfold mobj
  rw [List.getElem?_map, List.getElem?_range hk]
  rfl
theorem mobj_len (ad : Nat → Nat) (σ : mS) : (mobj ad σ).length = 52 := by unfold mobj; simp
theorem mobj_arr {ad : Nat → Nat} {σ : mS} {k i : Nat} {x : Int32} (h : (mk k).isSome = true) : mobj ad (su σ k i x) = mobj ad σ := by
  unfold mobj
  exact List.map_congr_left (fun j _ => mfld_su (Or.inr h))
theorem mobj_set {ad : Nat → Nat} {σ : mS} {k : Nat} {x : Int32} (hk : mk k = none) (hl : k < 52) : mobj ad (su σ k 0 x) = (mobj ad σ).set k (.int x) := by
  apply List.ext_getElem?
  intro j
  by_cases hj : j < 52
  · rw [mobj_get _ _ hj]
    by_cases e : j = k
    · subst e
      rw [List.getElem?_set_self (by rw [mobj_len]; exact hl)]
      unfold mfld
      rw [hk]
      show some (Value.int _) = some (Value.int _)
      simp [su]
    · rw [List.getElem?_set_ne (Ne.symm e), mobj_get _ _ hj, mfld_su (Or.inl e)]
  · rw [List.getElem?_eq_none (by rw [mobj_len]; omega), List.getElem?_eq_none (by rw [List.length_set, mobj_len]; omega)]
theorem Mo.puti {M : xM} {σ : mS} {τ : mL} {h : xH} (H : Mo M σ τ h) {k kd n : Nat} (hk : mk k = some (kd, n)) (hd : kd ≠ 1) (i : Nat) (x : Int32) : Mo M (su σ k i x) τ (xup h (M.2.1 k) (.inl (kd, n, .inl (upd (σ k) i x)))) := by
  refine ⟨?_, fun j kd' n' hj => ?_, H.2.2.1, fun q h1 h2 => ?_⟩
  · rw [xup_ne (Ne.symm (H.ne hk)), mobj_arr (by rw [hk]; rfl)]
    exact H.1
  · by_cases e : j = k
    · subst e
      rw [hk] at hj
      cases hj
      rw [xup_eq]
      unfold mcell
      rw [if_neg hd, su_at]
    · rw [xup_ne (fun q => e (H.2.2.1 j k _ _ hj hk q)), H.2.1 j kd' n' hj]
      unfold mcell
      rw [su_ne _ _ _ e]
  · rw [xup_ne (h2 k _ hk)]
    exact H.2.2.2 q h1 h2
theorem Mo.putl {M : xM} {σ : mS} {τ : mL} {h : xH} (H : Mo M σ τ h) {k n : Nat} (hk : mk k = some (1, n)) (i : Nat) (x : Int64) : Mo M σ (sl τ k i x) (xup h (M.2.1 k) (.inl (1, n, .inr (.inl (vp_updL (τ k) i x))))) := by
  refine ⟨?_, fun j kd' n' hj => ?_, H.2.2.1, fun q h1 h2 => ?_⟩
  · rw [xup_ne (Ne.symm (H.ne hk))]
    exact H.1
  · by_cases e : j = k
    · subst e
      rw [hk] at hj
      cases hj
      rw [xup_eq]
      unfold mcell
      rw [if_pos rfl, sl_at]
    · rw [xup_ne (fun q => e (H.2.2.1 j k _ _ hj hk q)), H.2.1 j kd' n' hj]
      unfold mcell
      rw [sl_ne _ _ _ e]
  · rw [xup_ne (h2 k _ hk)]
    exact H.2.2.2 q h1 h2
theorem Mo.putf {M : xM} {σ : mS} {τ : mL} {h : xH} (H : Mo M σ τ h) {k : Nat} (hk : mk k = none) (hl : k < 52) (x : Int32) : Mo M (su σ k 0 x) τ (xup h M.1 (.inr (0, (mobj M.2.1 σ).set k (.int x)))) := by
  refine ⟨?_, fun j kd' n' hj => ?_, H.2.2.1, fun q h1 h2 => ?_⟩
  · rw [xup_eq, mobj_set hk hl]
  · rw [xup_ne (H.ne hj), H.2.1 j kd' n' hj]
    unfold mcell
    rw [su_ne]
    intro e
    subst e
    rw [hk] at hj
    cases hj
  · rw [xup_ne h1]
    exact H.2.2.2 q h1 h2
theorem oMo : xO 0 RMo TMo 52 tyMo := ⟨by decide +kernel, rfl, tyMo_ok, nmMo⟩
/-- the machine at a frame, over any heap that holds the reference's state -/
def XM (F : xF) (G : xG) (B : Nat) (Q : State → Prop) (nL : Nat) (M : xM) (σ : mS) (τ : mL) (pc : Nat) (lv : List (Nat × Value)) (st : List Value) : Prop := ∀ h, Mo M σ τ h → X F G B Q nL h M.2.2.2 0 0 pc lv st
def mP (M : xM) (r : Option Value) (s : mS) (t : mL) : Option Value → xH → Nat → Prop := fun v h' z => v = r ∧ Mo M s t h' ∧ z = M.2.2.2
def mCon (l : Launch) (y : MethodName) (cc : ByteArray) (nL : Nat) (ret : Option FieldType) (fr lo : Nat) (G : xG) (B : Nat) (M : xM) (av : List Value) (σ : mS) (τ : mL) (r : Option Value) (s : mS) (t : mL) : Prop := ∀ h, Mo M σ τ h → xCon l y cc nL ret fr lo 0 0 G B av h M.2.2.2 (mP M r s t)
/-- a static method of numbers alone -/
def pCon (l : Launch) (y : MethodName) (cc : ByteArray) (nL : Nat) (ret : Option FieldType) (fr lo : Nat) (G : xG) (B : Nat) (av : List Value) (r : Option Value) : Prop := ∀ h sz, xCon l y cc nL ret fr lo 0 0 G B av h sz (fun v h' z => v = r ∧ h' = h ∧ z = sz)
theorem mCon.of {l : Launch} {y : MethodName} {cc : ByteArray} {nL : Nat} {ret : Option FieldType} {fr lo : Nat} {G : xG} {B : Nat} {M : xM} {av : List Value} {σ : mS} {τ : mL} {r : Option Value} {s : mS} {t : mL} (hy : plainName y.cls = true) (hlen : (lg_sl av).length ≤ nL)
    (body : ∀ F : xF, xFl F = l → xC F G B cc y.cls nL fr lo 0 0 → (xFM F).sig.returnType = ret → XM F G B (xZ F G B (mP M r s t) 0 0) nL M σ τ 0 (lv_args 0 av) []) : mCon l y cc nL ret fr lo G B M av σ τ r s t :=
  fun h hM => xCon.of hy hlen (fun F e C hr _ => body F e C hr h hM)
theorem pCon.of {l : Launch} {y : MethodName} {cc : ByteArray} {nL : Nat} {ret : Option FieldType} {fr lo : Nat} {G : xG} {B : Nat} {av : List Value} {r : Option Value} (hy : plainName y.cls = true) (hlen : (lg_sl av).length ≤ nL)
    (body : ∀ (F : xF) (h : xH) (sz : Nat), xFl F = l → xC F G B cc y.cls nL fr lo 0 0 → (xFM F).sig.returnType = ret → X F G B (xZ F G B (fun v h' z => v = r ∧ h' = h ∧ z = sz) 0 0) nL h sz 0 0 0 (lv_args 0 av) []) : pCon l y cc nL ret fr lo G B av r :=
  fun h sz => xCon.of hy hlen (fun F e C hr _ => body F h sz e C hr)
section XMRules
variable {F : xF} {G : xG} {B : Nat} {Q : State → Prop} {nL fr lo mc ms : Nat} {M : xM} {σ s : mS} {τ t : mL} {pc : Nat} {lv lv' : List (Nat × Value)} {st : List Value} {cc : ByteArray} {own : String}
theorem XM_get (C : xC F G B cc RMo nL fr lo mc ms) {k idx : Nat} {v : Value} (hv : mfld M.2.1 σ k = v) (hw : k < 52 ∧ Cond.fieldLink RMo idx (TMo k).1 (TMo k).2.1 (TMo k).2.2.1 ∈ xtbl) (d : decode cc pc = .ok (.getfield idx, 3)) (kk : XM F G B Q nL M σ τ (pc + 3) lv (v :: st)) : XM F G B Q nL M σ τ pc lv (.ref M.1 :: st) := fun h hM => X_get C oMo hw hM.1 (by rw [mobj_get _ _ hw.1, hv]) d (kk h hM)
theorem XM_put (C : xC F G B cc RMo nL fr lo mc ms) {k idx : Nat} {x : Int32} (hk : mk k = none) (hw : k < 52 ∧ Cond.fieldLink RMo idx (TMo k).1 (TMo k).2.1 (TMo k).2.2.1 ∈ xtbl) (hfin : (TMo k).2.2.2 = false) (hn : narrow (tyMo k) (.int x) = .int x) (hfit : fits (tyMo k) (.int x) = true) (d : decode cc pc = .ok (.putfield idx, 3)) (kk : XM F G B Q nL M (su σ k 0 x) τ (pc + 3) lv st) : XM F G B Q nL M σ τ pc lv (.int x :: .ref M.1 :: st) := fun h hM => X_put C oMo hw hfin hM.1 hn hfit (by rw [mobj_len]; exact hw.1) d (kk _ (hM.putf hk hw.1 x))
theorem XM_iald (C : xC F G B cc own nL fr lo mc ms) {k n : Nat} {i : Int32} (hk : mk k = some (0, n)) (hin : vp_in i n) (d : decode cc pc = .ok (.iaload, 1)) (kk : XM F G B Q nL M σ τ (pc + 1) lv (.int (σ k i.toNatClampNeg) :: st)) : XM F G B Q nL M σ τ pc lv (.int i :: .ref (M.2.1 k) :: st) := fun h hM => X_iald C (f := σ k) rfl (hM.2.1 k 0 n hk) hin d (kk h hM)
theorem XM_zald (C : xC F G B cc own nL fr lo mc ms) {k n : Nat} {i : Int32} (hk : mk k = some (2, n)) (hin : vp_in i n) (d : decode cc pc = .ok (.baload, 1)) (kk : XM F G B Q nL M σ τ (pc + 1) lv (.int (σ k i.toNatClampNeg) :: st)) : XM F G B Q nL M σ τ pc lv (.int i :: .ref (M.2.1 k) :: st) := fun h hM => X_zald C (f := σ k) rfl (hM.2.1 k 2 n hk) hin d (kk h hM)
theorem XM_lald (C : xC F G B cc own nL fr lo mc ms) {k n : Nat} {i : Int32} (hk : mk k = some (1, n)) (hin : vp_in i n) (d : decode cc pc = .ok (.laload, 1)) (kk : XM F G B Q nL M σ τ (pc + 1) lv (.long (τ k i.toNatClampNeg) :: st)) : XM F G B Q nL M σ τ pc lv (.int i :: .ref (M.2.1 k) :: st) := fun h hM => X_lald C (f := τ k) rfl (hM.2.1 k 1 n hk) hin d (kk h hM)
theorem XM_iast (C : xC F G B cc own nL fr lo mc ms) {k n : Nat} {i x : Int32} (hk : mk k = some (0, n)) (hin : vp_in i n) (d : decode cc pc = .ok (.iastore, 1)) (kk : XM F G B Q nL M (su σ k i.toNatClampNeg x) τ (pc + 1) lv st) : XM F G B Q nL M σ τ pc lv (.int x :: .int i :: .ref (M.2.1 k) :: st) := fun h hM => X_iast C (f := σ k) rfl (hM.2.1 k 0 n hk) hin d (kk _ (hM.puti hk (by decide) _ x))
theorem XM_last (C : xC F G B cc own nL fr lo mc ms) {k n : Nat} {i : Int32} {x : Int64} (hk : mk k = some (1, n)) (hin : vp_in i n) (d : decode cc pc = .ok (.lastore, 1)) (kk : XM F G B Q nL M σ (sl τ k i.toNatClampNeg x) (pc + 1) lv st) : XM F G B Q nL M σ τ pc lv (.long x :: .int i :: .ref (M.2.1 k) :: st) := fun h hM => X_last C (f := τ k) rfl (hM.2.1 k 1 n hk) hin d (kk _ (hM.putl hk _ x))
theorem XM_zast (C : xC F G B cc own nL fr lo mc ms) {k n : Nat} {i x : Int32} (hk : mk k = some (2, n)) (hin : vp_in i n) (hx : vp_nar .boolean x = x) (d : decode cc pc = .ok (.bastore, 1)) (kk : XM F G B Q nL M (su σ k i.toNatClampNeg x) τ (pc + 1) lv st) : XM F G B Q nL M σ τ pc lv (.int x :: .int i :: .ref (M.2.1 k) :: st) := fun h hM => X_zast C (f := σ k) rfl (hM.2.1 k 2 n hk) hin hx d (kk _ (hM.puti hk (by decide) _ x))
theorem XM_callV (C : xC F G B cc own nL fr lo 0 0) {y : MethodName} {cc' : ByteArray} {nL' fr' lo' idx n : Nat} {ret : Option FieldType} {As rest st0 : List Value} {r : Option Value} (hM : mCon (xFl F) y cc' nL' ret fr' lo' G B M (.ref M.1 :: As) σ τ r s t) (hV : xV own idx RMo y cc' nL' ret n) (hroom : fr' + 1 ≤ fr ∧ 8 + (nL' + 11) + lo' ≤ lo) (hn : As.length = n) (hst : st0 = As.reverse ++ .ref M.1 :: rest) (h8 : (rest.map fun v => v.category).sum ≤ 8) (d : decode cc pc = .ok (.invokevirtual idx, 3)) (kk : XM F G B Q nL M s t (pc + 3) lv (r.toList ++ rest)) : XM F G B Q nL M σ τ pc lv st0 := fun h hMo => X_callV C (hM h hMo) hV hroom ⟨Nat.le_refl _, Nat.le_refl _⟩ hMo.1 oMo.2.1 hn hst h8 d (fun v h' z q => by obtain ⟨rfl, q2, rfl⟩ := q; exact kk h' q2)
theorem XM_callS (C : xC F G B cc own nL fr lo 0 0) {y : MethodName} {cc' : ByteArray} {nL' fr' lo' idx n : Nat} {ret : Option FieldType} {As rest st0 : List Value} {r : Option Value} (hM : pCon (xFl F) y cc' nL' ret fr' lo' G B As r) (hV : xS own idx y cc' nL' ret n) (hroom : fr' + 1 ≤ fr ∧ 8 + (nL' + 11) + lo' ≤ lo) (hn : As.length = n) (hst : st0 = As.reverse ++ rest) (h8 : (rest.map fun v => v.category).sum ≤ 8) (d : decode cc pc = .ok (.invokestatic idx, 3)) (kk : XM F G B Q nL M σ τ (pc + 3) lv (r.toList ++ rest)) : XM F G B Q nL M σ τ pc lv st0 := fun h hMo => X_callS C (hM h _) hV hroom ⟨Nat.le_refl _, Nat.le_refl _⟩ hn hst h8 d (fun v h' z q => by obtain ⟨rfl, rfl, rfl⟩ := q; exact kk _ hMo)
theorem XM_iret (C : xC F G B cc own nL fr lo mc ms) {r : Option Value} {v : Int32} (hr : (xFM F).sig.returnType = some .int) (d : decode cc pc = .ok (.ireturn, 1)) (hv : some (.int v) = r) (hs : σ = s) (ht : τ = t) : XM F G B (xZ F G B (mP M r s t) 0 0) nL M σ τ pc lv [.int v] := fun h hM => X_iret C hr (Nat.le_refl _) (Nat.le_refl _) d ⟨hv, by rw [← hs, ← ht]; exact hM, rfl⟩
theorem XM_zret (C : xC F G B cc own nL fr lo mc ms) {r : Option Value} {v : Int32} {ty : FieldType} (hr : (xFM F).sig.returnType = some ty) (hn : narrow ty (.int v) = .int v) (d : decode cc pc = .ok (.ireturn, 1)) (hv : some (.int v) = r) (hs : σ = s) (ht : τ = t) : XM F G B (xZ F G B (mP M r s t) 0 0) nL M σ τ pc lv [.int v] := fun h hM => X_zret C hr hn (Nat.le_refl _) (Nat.le_refl _) d ⟨hv, by rw [← hs, ← ht]; exact hM, rfl⟩
theorem XM_lret (C : xC F G B cc own nL fr lo mc ms) {r : Option Value} {v : Int64} (hr : (xFM F).sig.returnType = some .long) (d : decode cc pc = .ok (.lreturn, 1)) (hv : some (.long v) = r) (hs : σ = s) (ht : τ = t) : XM F G B (xZ F G B (mP M r s t) 0 0) nL M σ τ pc lv [.long v] := fun h hM => X_lret C hr (Nat.le_refl _) (Nat.le_refl _) d ⟨hv, by rw [← hs, ← ht]; exact hM, rfl⟩
theorem XM_vret (C : xC F G B cc own nL fr lo mc ms) {r : Option Value} (hr : (xFM F).sig.returnType = none) (d : decode cc pc = .ok (.return_, 1)) (hv : none = r) (hs : σ = s) (ht : τ = t) : XM F G B (xZ F G B (mP M r s t) 0 0) nL M σ τ pc lv [] := fun h hM => X_vret C hr (Nat.le_refl _) (Nat.le_refl _) d ⟨hv, by rw [← hs, ← ht]; exact hM, rfl⟩
theorem XM_iconst (C : xC F G B cc own nL fr lo mc ms) {n : Int} {v : Int32} (d : decode cc pc = .ok (.iconst n, 1)) (hv : Int32.ofInt n = v) (k : XM F G B Q nL M σ τ (pc + 1) lv (.int v :: st)) : XM F G B Q nL M σ τ pc lv (st) := fun h hM => X_iconst C d hv (k h hM)
theorem XM_bipush (C : xC F G B cc own nL fr lo mc ms) {n : Int} {v : Int32} (d : decode cc pc = .ok (.bipush n, 2)) (hv : (Int8.ofInt n).toInt32 = v) (k : XM F G B Q nL M σ τ (pc + 2) lv (.int v :: st)) : XM F G B Q nL M σ τ pc lv (st) := fun h hM => X_bipush C d hv (k h hM)
theorem XM_sipush (C : xC F G B cc own nL fr lo mc ms) {n : Int} {v : Int32} (d : decode cc pc = .ok (.sipush n, 3)) (hv : (Int16.ofInt n).toInt32 = v) (k : XM F G B Q nL M σ τ (pc + 3) lv (.int v :: st)) : XM F G B Q nL M σ τ pc lv (st) := fun h hM => X_sipush C d hv (k h hM)
theorem XM_lconst (C : xC F G B cc own nL fr lo mc ms) {n : Fin 2} {v : Int64} (d : decode cc pc = .ok (.lconst n, 1)) (hv : Int64.ofNat (n : Nat) = v) (k : XM F G B Q nL M σ τ (pc + 1) lv (.long v :: st)) : XM F G B Q nL M σ τ pc lv (st) := fun h hM => X_lconst C d hv (k h hM)
theorem XM_iload_n (C : xC F G B cc own nL fr lo mc ms) {i : Fin 4} {x : Int32} (d : decode cc pc = .ok (.iload_n i, 1)) (hx : xget lv i = some (.int x)) (k : XM F G B Q nL M σ τ (pc + 1) lv (.int x :: st)) : XM F G B Q nL M σ τ pc lv (st) := fun h hM => X_iload_n C d hx (k h hM)
theorem XM_iload (C : xC F G B cc own nL fr lo mc ms) {i : Nat} {x : Int32} (d : decode cc pc = .ok (.iload i, 2)) (hx : xget lv i = some (.int x)) (k : XM F G B Q nL M σ τ (pc + 2) lv (.int x :: st)) : XM F G B Q nL M σ τ pc lv (st) := fun h hM => X_iload C d hx (k h hM)
theorem XM_lload_n (C : xC F G B cc own nL fr lo mc ms) {i : Fin 4} {x : Int64} (d : decode cc pc = .ok (.lload_n i, 1)) (hx : xget lv i = some (.long x)) (k : XM F G B Q nL M σ τ (pc + 1) lv (.long x :: st)) : XM F G B Q nL M σ τ pc lv (st) := fun h hM => X_lload_n C d hx (k h hM)
theorem XM_lload (C : xC F G B cc own nL fr lo mc ms) {i : Nat} {x : Int64} (d : decode cc pc = .ok (.lload i, 2)) (hx : xget lv i = some (.long x)) (k : XM F G B Q nL M σ τ (pc + 2) lv (.long x :: st)) : XM F G B Q nL M σ τ pc lv (st) := fun h hM => X_lload C d hx (k h hM)
theorem XM_aload_n (C : xC F G B cc own nL fr lo mc ms) {i : Fin 4} {x : Nat} (d : decode cc pc = .ok (.aload_n i, 1)) (hx : xget lv i = some (.ref x)) (k : XM F G B Q nL M σ τ (pc + 1) lv (.ref x :: st)) : XM F G B Q nL M σ τ pc lv (st) := fun h hM => X_aload_n C d hx (k h hM)
theorem XM_aload (C : xC F G B cc own nL fr lo mc ms) {i : Nat} {x : Nat} (d : decode cc pc = .ok (.aload i, 2)) (hx : xget lv i = some (.ref x)) (k : XM F G B Q nL M σ τ (pc + 2) lv (.ref x :: st)) : XM F G B Q nL M σ τ pc lv (st) := fun h hM => X_aload C d hx (k h hM)
theorem XM_aload_nN (C : xC F G B cc own nL fr lo mc ms) {i : Fin 4} (d : decode cc pc = .ok (.aload_n i, 1)) (hx : xget lv i = some .null) (k : XM F G B Q nL M σ τ (pc + 1) lv (.null :: st)) : XM F G B Q nL M σ τ pc lv (st) := fun h hM => X_aload_nN C d hx (k h hM)
theorem XM_aloadN (C : xC F G B cc own nL fr lo mc ms) {i : Nat} (d : decode cc pc = .ok (.aload i, 2)) (hx : xget lv i = some .null) (k : XM F G B Q nL M σ τ (pc + 2) lv (.null :: st)) : XM F G B Q nL M σ τ pc lv (st) := fun h hM => X_aloadN C d hx (k h hM)
theorem XM_null (C : xC F G B cc own nL fr lo mc ms) (d : decode cc pc = .ok (.aconst_null, 1)) (k : XM F G B Q nL M σ τ (pc + 1) lv (.null :: st)) : XM F G B Q nL M σ τ pc lv (st) := fun h hM => X_null C d (k h hM)
theorem XM_iadd (C : xC F G B cc own nL fr lo mc ms) {x y : Int32} (d : decode cc pc = .ok (.iadd, 1)) (k : XM F G B Q nL M σ τ (pc + 1) lv (.int (x + y) :: st)) : XM F G B Q nL M σ τ pc lv (.int y :: .int x :: st) := fun h hM => X_iadd C d (k h hM)
theorem XM_isub (C : xC F G B cc own nL fr lo mc ms) {x y : Int32} (d : decode cc pc = .ok (.isub, 1)) (k : XM F G B Q nL M σ τ (pc + 1) lv (.int (x - y) :: st)) : XM F G B Q nL M σ τ pc lv (.int y :: .int x :: st) := fun h hM => X_isub C d (k h hM)
theorem XM_imul (C : xC F G B cc own nL fr lo mc ms) {x y : Int32} (d : decode cc pc = .ok (.imul, 1)) (k : XM F G B Q nL M σ τ (pc + 1) lv (.int (x * y) :: st)) : XM F G B Q nL M σ τ pc lv (.int y :: .int x :: st) := fun h hM => X_imul C d (k h hM)
theorem XM_iand (C : xC F G B cc own nL fr lo mc ms) {x y : Int32} (d : decode cc pc = .ok (.iand, 1)) (k : XM F G B Q nL M σ τ (pc + 1) lv (.int (x &&& y) :: st)) : XM F G B Q nL M σ τ pc lv (.int y :: .int x :: st) := fun h hM => X_iand C d (k h hM)
theorem XM_ior (C : xC F G B cc own nL fr lo mc ms) {x y : Int32} (d : decode cc pc = .ok (.ior, 1)) (k : XM F G B Q nL M σ τ (pc + 1) lv (.int (x ||| y) :: st)) : XM F G B Q nL M σ τ pc lv (.int y :: .int x :: st) := fun h hM => X_ior C d (k h hM)
theorem XM_ixor (C : xC F G B cc own nL fr lo mc ms) {x y : Int32} (d : decode cc pc = .ok (.ixor, 1)) (k : XM F G B Q nL M σ τ (pc + 1) lv (.int (x ^^^ y) :: st)) : XM F G B Q nL M σ τ pc lv (.int y :: .int x :: st) := fun h hM => X_ixor C d (k h hM)
theorem XM_ishl (C : xC F G B cc own nL fr lo mc ms) {x y : Int32} (d : decode cc pc = .ok (.ishl, 1)) (k : XM F G B Q nL M σ τ (pc + 1) lv (.int (x <<< (y &&& 31)) :: st)) : XM F G B Q nL M σ τ pc lv (.int y :: .int x :: st) := fun h hM => X_ishl C d (k h hM)
theorem XM_ishr (C : xC F G B cc own nL fr lo mc ms) {x y : Int32} (d : decode cc pc = .ok (.ishr, 1)) (k : XM F G B Q nL M σ τ (pc + 1) lv (.int (x >>> (y &&& 31)) :: st)) : XM F G B Q nL M σ τ pc lv (.int y :: .int x :: st) := fun h hM => X_ishr C d (k h hM)
theorem XM_idiv (C : xC F G B cc own nL fr lo mc ms) {x y : Int32} (d : decode cc pc = .ok (.idiv, 1)) (hne : ¬ y = 0) (k : XM F G B Q nL M σ τ (pc + 1) lv (.int (x / y) :: st)) : XM F G B Q nL M σ τ pc lv (.int y :: .int x :: st) := fun h hM => X_idiv C d hne (k h hM)
theorem XM_irem (C : xC F G B cc own nL fr lo mc ms) {x y : Int32} (d : decode cc pc = .ok (.irem, 1)) (hne : ¬ y = 0) (k : XM F G B Q nL M σ τ (pc + 1) lv (.int (x - x / y * y) :: st)) : XM F G B Q nL M σ τ pc lv (.int y :: .int x :: st) := fun h hM => X_irem C d hne (k h hM)
theorem XM_ineg (C : xC F G B cc own nL fr lo mc ms) {x : Int32} (d : decode cc pc = .ok (.ineg, 1)) (k : XM F G B Q nL M σ τ (pc + 1) lv (.int (-x) :: st)) : XM F G B Q nL M σ τ pc lv (.int x :: st) := fun h hM => X_ineg C d (k h hM)
theorem XM_i2l (C : xC F G B cc own nL fr lo mc ms) {x : Int32} (d : decode cc pc = .ok (.i2l, 1)) (k : XM F G B Q nL M σ τ (pc + 1) lv (.long x.toInt64 :: st)) : XM F G B Q nL M σ τ pc lv (.int x :: st) := fun h hM => X_i2l C d (k h hM)
theorem XM_i2s (C : xC F G B cc own nL fr lo mc ms) {x : Int32} (d : decode cc pc = .ok (.i2s, 1)) (k : XM F G B Q nL M σ τ (pc + 1) lv (.int x.toInt16.toInt32 :: st)) : XM F G B Q nL M σ τ pc lv (.int x :: st) := fun h hM => X_i2s C d (k h hM)
theorem XM_dup (C : xC F G B cc own nL fr lo mc ms) {v : Value} (d : decode cc pc = .ok (.dup, 1)) (hv : v.category = 1) (k : XM F G B Q nL M σ τ (pc + 1) lv (v :: v :: st)) : XM F G B Q nL M σ τ pc lv (v :: st) := fun h hM => X_dup C d hv (k h hM)
theorem XM_pop (C : xC F G B cc own nL fr lo mc ms) {v : Value} (d : decode cc pc = .ok (.pop, 1)) (hv : v.category = 1) (k : XM F G B Q nL M σ τ (pc + 1) lv (st)) : XM F G B Q nL M σ τ pc lv (v :: st) := fun h hM => X_pop C d hv (k h hM)
theorem XM_dup2 (C : xC F G B cc own nL fr lo mc ms) {v w : Value} (d : decode cc pc = .ok (.dup2, 1)) (hv : v.category = 1) (hw : w.category = 1) (k : XM F G B Q nL M σ τ (pc + 1) lv (v :: w :: v :: w :: st)) : XM F G B Q nL M σ τ pc lv (v :: w :: st) := fun h hM => X_dup2 C d hv hw (k h hM)
theorem XM_dup_x1 (C : xC F G B cc own nL fr lo mc ms) {v w : Value} (d : decode cc pc = .ok (.dup_x1, 1)) (hv : v.category = 1) (hw : w.category = 1) (k : XM F G B Q nL M σ τ (pc + 1) lv (v :: w :: v :: st)) : XM F G B Q nL M σ τ pc lv (v :: w :: st) := fun h hM => X_dup_x1 C d hv hw (k h hM)
theorem XM_goto (C : xC F G B cc own nL fr lo mc ms) {off : Int} {tgt : Nat} (d : decode cc pc = .ok (.goto off, 3)) (ht : (pc : Int) + off = (tgt : Int)) (k : XM F G B Q nL M σ τ (tgt) lv (st)) : XM F G B Q nL M σ τ pc lv (st) := fun h hM => X_goto C d ht (k h hM)
theorem XM_ifnonnull (C : xC F G B cc own nL fr lo mc ms) {x : Nat} {off : Int} {tgt : Nat} (d : decode cc pc = .ok (.ifnonnull off, 3)) (ht : (pc : Int) + off = (tgt : Int)) (k : XM F G B Q nL M σ τ (tgt) lv (st)) : XM F G B Q nL M σ τ pc lv (.ref x :: st) := fun h hM => X_ifnonnull C d ht (k h hM)
theorem XM_ifnull (C : xC F G B cc own nL fr lo mc ms) {x : Nat} {off : Int} (d : decode cc pc = .ok (.ifnull off, 3)) (k : XM F G B Q nL M σ τ (pc + 3) lv (st)) : XM F G B Q nL M σ τ pc lv (.ref x :: st) := fun h hM => X_ifnull C d (k h hM)
theorem XM_ifnullN (C : xC F G B cc own nL fr lo mc ms) {off : Int} {tgt : Nat} (d : decode cc pc = .ok (.ifnull off, 3)) (ht : (pc : Int) + off = (tgt : Int)) (k : XM F G B Q nL M σ τ (tgt) lv (st)) : XM F G B Q nL M σ τ pc lv (.null :: st) := fun h hM => X_ifnullN C d ht (k h hM)
theorem XM_ifnonnullN (C : xC F G B cc own nL fr lo mc ms) {off : Int} (d : decode cc pc = .ok (.ifnonnull off, 3)) (k : XM F G B Q nL M σ τ (pc + 3) lv (st)) : XM F G B Q nL M σ τ pc lv (.null :: st) := fun h hM => X_ifnonnullN C d (k h hM)
theorem XM_lcmp (C : xC F G B cc own nL fr lo mc ms) {x y : Int64} (d : decode cc pc = .ok (.lcmp, 1)) (k : XM F G B Q nL M σ τ (pc + 1) lv (.int (lg_cmp x y) :: st)) : XM F G B Q nL M σ τ pc lv (.long y :: .long x :: st) := fun h hM => X_lcmp C d (k h hM)
theorem XM_istore_n (C : xC F G B cc own nL fr lo mc ms) {i : Fin 4} {x : Int32} (d : decode cc pc = .ok (.istore_n i, 1)) (hn : (i : Nat) < nL) (hl' : ((i : Nat), Value.int x) :: lv.filter (fun q => !(q.1 == (i : Nat)) && !(q.1 + 1 == (i : Nat) && q.2.category == 2)) = lv') (k : XM F G B Q nL M σ τ (pc + 1) lv' st) : XM F G B Q nL M σ τ pc lv (Value.int x :: st) := fun h hM => X_istore_n C d hn hl' (k h hM)
theorem XM_istore (C : xC F G B cc own nL fr lo mc ms) {i : Nat} {x : Int32} (d : decode cc pc = .ok (.istore i, 2)) (hn : (i : Nat) < nL) (hl' : ((i : Nat), Value.int x) :: lv.filter (fun q => !(q.1 == (i : Nat)) && !(q.1 + 1 == (i : Nat) && q.2.category == 2)) = lv') (k : XM F G B Q nL M σ τ (pc + 2) lv' st) : XM F G B Q nL M σ τ pc lv (Value.int x :: st) := fun h hM => X_istore C d hn hl' (k h hM)
theorem XM_astore_n (C : xC F G B cc own nL fr lo mc ms) {i : Fin 4} {x : Nat} (d : decode cc pc = .ok (.astore_n i, 1)) (hn : (i : Nat) < nL) (hl' : ((i : Nat), Value.ref x) :: lv.filter (fun q => !(q.1 == (i : Nat)) && !(q.1 + 1 == (i : Nat) && q.2.category == 2)) = lv') (k : XM F G B Q nL M σ τ (pc + 1) lv' st) : XM F G B Q nL M σ τ pc lv (Value.ref x :: st) := fun h hM => X_astore_n C d hn hl' (k h hM)
theorem XM_astore (C : xC F G B cc own nL fr lo mc ms) {i : Nat} {x : Nat} (d : decode cc pc = .ok (.astore i, 2)) (hn : (i : Nat) < nL) (hl' : ((i : Nat), Value.ref x) :: lv.filter (fun q => !(q.1 == (i : Nat)) && !(q.1 + 1 == (i : Nat) && q.2.category == 2)) = lv') (k : XM F G B Q nL M σ τ (pc + 2) lv' st) : XM F G B Q nL M σ τ pc lv (Value.ref x :: st) := fun h hM => X_astore C d hn hl' (k h hM)
theorem XM_astore_nN (C : xC F G B cc own nL fr lo mc ms) {i : Fin 4} (d : decode cc pc = .ok (.astore_n i, 1)) (hn : (i : Nat) < nL) (hl' : ((i : Nat), Value.null) :: lv.filter (fun q => !(q.1 == (i : Nat)) && !(q.1 + 1 == (i : Nat) && q.2.category == 2)) = lv') (k : XM F G B Q nL M σ τ (pc + 1) lv' st) : XM F G B Q nL M σ τ pc lv (Value.null :: st) := fun h hM => X_astore_nN C d hn hl' (k h hM)
theorem XM_astoreN (C : xC F G B cc own nL fr lo mc ms) {i : Nat} (d : decode cc pc = .ok (.astore i, 2)) (hn : (i : Nat) < nL) (hl' : ((i : Nat), Value.null) :: lv.filter (fun q => !(q.1 == (i : Nat)) && !(q.1 + 1 == (i : Nat) && q.2.category == 2)) = lv') (k : XM F G B Q nL M σ τ (pc + 2) lv' st) : XM F G B Q nL M σ τ pc lv (Value.null :: st) := fun h hM => X_astoreN C d hn hl' (k h hM)
theorem XM_lstore (C : xC F G B cc own nL fr lo mc ms) {i : Nat} {x : Int64} (d : decode cc pc = .ok (.lstore i, 2)) (hn : (i : Nat) + 1 < nL) (hl' : ((i : Nat), Value.long x) :: lv.filter (fun q => !(q.1 == (i : Nat)) && (!(q.1 == (i : Nat) + 1) && !(q.1 + 1 == (i : Nat) && q.2.category == 2))) = lv') (k : XM F G B Q nL M σ τ (pc + 2) lv' st) : XM F G B Q nL M σ τ pc lv (Value.long x :: st) := fun h hM => X_lstore C d hn hl' (k h hM)
theorem XM_iinc (C : xC F G B cc own nL fr lo mc ms) {i : Nat} {n : Int} {x v : Int32} (d : decode cc pc = .ok (.iinc i n, 3)) (hx : xget lv i = some (.int x)) (hv : x + Int32.ofInt n = v) (hn : i < nL) (hl' : (i, Value.int v) :: lv.filter (fun q => !(q.1 == i) && !(q.1 + 1 == i && q.2.category == 2)) = lv') (k : XM F G B Q nL M σ τ (pc + 3) lv' st) : XM F G B Q nL M σ τ pc lv st := fun h hM => X_iinc C d hx hv hn hl' (k h hM)
theorem XM_if_eq (C : xC F G B cc own nL fr lo mc ms) {x : Int32} {off : Int} {tgt : Nat} (d : decode cc pc = .ok (.ifCond .eq off, 3)) (ht : (pc : Int) + off = (tgt : Int)) (kt : x = 0 → XM F G B Q nL M σ τ tgt lv st) (kf : ¬ x = 0 → XM F G B Q nL M σ τ (pc + 3) lv st) : XM F G B Q nL M σ τ pc lv (.int x :: st) := fun h hM => X_if_eq C d ht (fun q => kt q h hM) (fun q => kf q h hM)
theorem XM_icmp_eq (C : xC F G B cc own nL fr lo mc ms) {x y : Int32} {off : Int} {tgt : Nat} (d : decode cc pc = .ok (.if_icmp .eq off, 3)) (ht : (pc : Int) + off = (tgt : Int)) (kt : x = y → XM F G B Q nL M σ τ tgt lv st) (kf : ¬ x = y → XM F G B Q nL M σ τ (pc + 3) lv st) : XM F G B Q nL M σ τ pc lv (.int y :: .int x :: st) := fun h hM => X_icmp_eq C d ht (fun q => kt q h hM) (fun q => kf q h hM)
theorem XM_if_ne (C : xC F G B cc own nL fr lo mc ms) {x : Int32} {off : Int} {tgt : Nat} (d : decode cc pc = .ok (.ifCond .ne off, 3)) (ht : (pc : Int) + off = (tgt : Int)) (kt : ¬ x = 0 → XM F G B Q nL M σ τ tgt lv st) (kf : x = 0 → XM F G B Q nL M σ τ (pc + 3) lv st) : XM F G B Q nL M σ τ pc lv (.int x :: st) := fun h hM => X_if_ne C d ht (fun q => kt q h hM) (fun q => kf q h hM)
theorem XM_icmp_ne (C : xC F G B cc own nL fr lo mc ms) {x y : Int32} {off : Int} {tgt : Nat} (d : decode cc pc = .ok (.if_icmp .ne off, 3)) (ht : (pc : Int) + off = (tgt : Int)) (kt : ¬ x = y → XM F G B Q nL M σ τ tgt lv st) (kf : x = y → XM F G B Q nL M σ τ (pc + 3) lv st) : XM F G B Q nL M σ τ pc lv (.int y :: .int x :: st) := fun h hM => X_icmp_ne C d ht (fun q => kt q h hM) (fun q => kf q h hM)
theorem XM_if_lt (C : xC F G B cc own nL fr lo mc ms) {x : Int32} {off : Int} {tgt : Nat} (d : decode cc pc = .ok (.ifCond .lt off, 3)) (ht : (pc : Int) + off = (tgt : Int)) (kt : x < 0 → XM F G B Q nL M σ τ tgt lv st) (kf : ¬ x < 0 → XM F G B Q nL M σ τ (pc + 3) lv st) : XM F G B Q nL M σ τ pc lv (.int x :: st) := fun h hM => X_if_lt C d ht (fun q => kt q h hM) (fun q => kf q h hM)
theorem XM_icmp_lt (C : xC F G B cc own nL fr lo mc ms) {x y : Int32} {off : Int} {tgt : Nat} (d : decode cc pc = .ok (.if_icmp .lt off, 3)) (ht : (pc : Int) + off = (tgt : Int)) (kt : x < y → XM F G B Q nL M σ τ tgt lv st) (kf : ¬ x < y → XM F G B Q nL M σ τ (pc + 3) lv st) : XM F G B Q nL M σ τ pc lv (.int y :: .int x :: st) := fun h hM => X_icmp_lt C d ht (fun q => kt q h hM) (fun q => kf q h hM)
theorem XM_if_ge (C : xC F G B cc own nL fr lo mc ms) {x : Int32} {off : Int} {tgt : Nat} (d : decode cc pc = .ok (.ifCond .ge off, 3)) (ht : (pc : Int) + off = (tgt : Int)) (kt : 0 ≤ x → XM F G B Q nL M σ τ tgt lv st) (kf : ¬ 0 ≤ x → XM F G B Q nL M σ τ (pc + 3) lv st) : XM F G B Q nL M σ τ pc lv (.int x :: st) := fun h hM => X_if_ge C d ht (fun q => kt q h hM) (fun q => kf q h hM)
theorem XM_icmp_ge (C : xC F G B cc own nL fr lo mc ms) {x y : Int32} {off : Int} {tgt : Nat} (d : decode cc pc = .ok (.if_icmp .ge off, 3)) (ht : (pc : Int) + off = (tgt : Int)) (kt : y ≤ x → XM F G B Q nL M σ τ tgt lv st) (kf : ¬ y ≤ x → XM F G B Q nL M σ τ (pc + 3) lv st) : XM F G B Q nL M σ τ pc lv (.int y :: .int x :: st) := fun h hM => X_icmp_ge C d ht (fun q => kt q h hM) (fun q => kf q h hM)
theorem XM_if_gt (C : xC F G B cc own nL fr lo mc ms) {x : Int32} {off : Int} {tgt : Nat} (d : decode cc pc = .ok (.ifCond .gt off, 3)) (ht : (pc : Int) + off = (tgt : Int)) (kt : 0 < x → XM F G B Q nL M σ τ tgt lv st) (kf : ¬ 0 < x → XM F G B Q nL M σ τ (pc + 3) lv st) : XM F G B Q nL M σ τ pc lv (.int x :: st) := fun h hM => X_if_gt C d ht (fun q => kt q h hM) (fun q => kf q h hM)
theorem XM_icmp_gt (C : xC F G B cc own nL fr lo mc ms) {x y : Int32} {off : Int} {tgt : Nat} (d : decode cc pc = .ok (.if_icmp .gt off, 3)) (ht : (pc : Int) + off = (tgt : Int)) (kt : y < x → XM F G B Q nL M σ τ tgt lv st) (kf : ¬ y < x → XM F G B Q nL M σ τ (pc + 3) lv st) : XM F G B Q nL M σ τ pc lv (.int y :: .int x :: st) := fun h hM => X_icmp_gt C d ht (fun q => kt q h hM) (fun q => kf q h hM)
theorem XM_if_le (C : xC F G B cc own nL fr lo mc ms) {x : Int32} {off : Int} {tgt : Nat} (d : decode cc pc = .ok (.ifCond .le off, 3)) (ht : (pc : Int) + off = (tgt : Int)) (kt : x ≤ 0 → XM F G B Q nL M σ τ tgt lv st) (kf : ¬ x ≤ 0 → XM F G B Q nL M σ τ (pc + 3) lv st) : XM F G B Q nL M σ τ pc lv (.int x :: st) := fun h hM => X_if_le C d ht (fun q => kt q h hM) (fun q => kf q h hM)
theorem XM_icmp_le (C : xC F G B cc own nL fr lo mc ms) {x y : Int32} {off : Int} {tgt : Nat} (d : decode cc pc = .ok (.if_icmp .le off, 3)) (ht : (pc : Int) + off = (tgt : Int)) (kt : x ≤ y → XM F G B Q nL M σ τ tgt lv st) (kf : ¬ x ≤ y → XM F G B Q nL M σ τ (pc + 3) lv st) : XM F G B Q nL M σ τ pc lv (.int y :: .int x :: st) := fun h hM => X_icmp_le C d ht (fun q => kt q h hM) (fun q => kf q h hM)
theorem XM_tableIn (C : xC F G B cc own nL fr lo mc ms) {dflt lo' hi : Int} {offs : Array Int} {len : Nat} {x : Int32} {off : Int} {tgt : Nat} (d : decode cc pc = .ok (.tableswitch dflt lo' hi offs, len)) (h1 : ¬ x.toInt < lo') (h2 : ¬ hi < x.toInt) (ho : offs[(x.toInt - lo').toNat]? = some off) (ht : (pc : Int) + off = (tgt : Int)) (k : XM F G B Q nL M σ τ tgt lv st) : XM F G B Q nL M σ τ pc lv (.int x :: st) := fun h hM => X_tableIn C d h1 h2 ho ht (k h hM)
theorem XM_tableOut (C : xC F G B cc own nL fr lo mc ms) {dflt lo' hi : Int} {offs : Array Int} {len : Nat} {x : Int32} {tgt : Nat} (d : decode cc pc = .ok (.tableswitch dflt lo' hi offs, len)) (h1 : x.toInt < lo' ∨ hi < x.toInt) (ht : (pc : Int) + dflt = (tgt : Int)) (k : XM F G B Q nL M σ τ tgt lv st) : XM F G B Q nL M σ τ pc lv (.int x :: st) := fun h hM => X_tableOut C d h1 ht (k h hM)
theorem XM_ldc (C : xC F G B cc own nL fr lo mc ms) {i : Nat} {v : Int32} (hw : Cond.constant own i v ∈ xtbl) (d : decode cc pc = .ok (.ldc i, 2)) (k : XM F G B Q nL M σ τ (pc + 2) lv (.int v :: st)) : XM F G B Q nL M σ τ pc lv st := fun h hM => X_ldc C hw d (k h hM)
theorem XM_ldcw (C : xC F G B cc own nL fr lo mc ms) {i : Nat} {v : Int32} (hw : Cond.constant own i v ∈ xtbl) (d : decode cc pc = .ok (.ldc_w i, 3)) (k : XM F G B Q nL M σ τ (pc + 3) lv (.int v :: st)) : XM F G B Q nL M σ τ pc lv st := fun h hM => X_ldcw C hw d (k h hM)
theorem XM_ldc2 (C : xC F G B cc own nL fr lo mc ms) {i : Nat} {v : Int64} (hw : Cond.constantLong own i v ∈ xtbl) (d : decode cc pc = .ok (.ldc2_w i, 3)) (k : XM F G B Q nL M σ τ (pc + 3) lv (.long v :: st)) : XM F G B Q nL M σ τ pc lv st := fun h hM => X_ldc2 C hw d (k h hM)
theorem XM_sub (ks : List Nat) (hk : lv_pick lv ks = lv') (k : XM F G B Q nL M σ τ pc lv' st) : XM F G B Q nL M σ τ pc lv st := fun h hM => X_sub ks hk (k h hM)
theorem XM_topi {x : Int32} (k : ∀ y : Int32, y = x → XM F G B Q nL M σ τ pc lv (.int y :: st)) : XM F G B Q nL M σ τ pc lv (.int x :: st) := k x rfl
end XMRules

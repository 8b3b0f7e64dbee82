/-! long arrays -/
def gl (h : xH) (a : Nat) (i : Int32) : Option Int64 := match h a with
  | some (.inl (c, n, .inr (.inl f))) => if c = 1 then (if xin i n = true then some (f i.toNatClampNeg) else none) else none
  | _ => none
theorem gl_e {h : xH} {a : Nat} {i : Int32} {x : Int64} (e : gl h a i = some x) : ∃ n f, h a = some (.inl (1, n, .inr (.inl f))) ∧ vp_in i n ∧ x = f i.toNatClampNeg := by
  unfold gl at e
  split at e
  · rename_i c n f he
    split at e
    · rename_i hc
      subst hc
      obtain ⟨q, e⟩ := o_if e
      cases e
      exact ⟨n, f, he, xin_vp q, rfl⟩
    · cases e
  · cases e
def pl (h : xH) (a : Nat) (i : Int32) (x : Int64) : Option xH := match h a with
  | some (.inl (c, n, .inr (.inl f))) => if c = 1 then (if xin i n = true then some (xup h a (.inl (1, n, .inr (.inl (vp_updL f i.toNatClampNeg x))))) else none) else none
  | _ => none
theorem pl_e {h h' : xH} {a : Nat} {i : Int32} {x : Int64} (e : pl h a i x = some h') : ∃ n f, h a = some (.inl (1, n, .inr (.inl f))) ∧ vp_in i n ∧ h' = xup h a (.inl (1, n, .inr (.inl (vp_updL f i.toNatClampNeg x)))) := by
  unfold pl at e
  split at e
  · rename_i c n f he
    split at e
    · rename_i hc
      subst hc
      obtain ⟨q, e⟩ := o_if e
      cases e
      exact ⟨n, f, he, xin_vp q, rfl⟩
    · cases e
  · cases e

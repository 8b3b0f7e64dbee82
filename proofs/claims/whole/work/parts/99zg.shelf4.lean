/-! the shelves' own cells: put nothing there, put a new thing there -/
/-- one cell's new content, whatever else of the state changes without showing -/
theorem rn_putX {D : kD} {κ κ' : kS} {kd ix : Nat} {e : xE} (hD : WD D) (hI : kI D kd ix) (he : kcl D κ' kd ix = some e) (ho : ∀ a k i, D.2.1 a = some (k, i) → ¬ (k = kd ∧ i = ix) → kcl D κ' k i = kcl D κ k i) : xup (rn D κ) (D.1 kd ix) e = rn D κ' := by
  funext a
  unfold xup
  by_cases ha : a = D.1 kd ix
  · rw [if_pos ha, ha, rn_at hI, he]
  · rw [if_neg ha]
    unfold rn
    cases hi : D.2.1 a with
    | none => rfl
    | some q =>
      refine (ho a q.1 q.2 hi (fun t => ha ?_)).symm
      rw [← hD a q hi, t.1, t.2]
/-- κ 9 alone changes -/
def k9 (κ : kS) (f : Nat → Nat → Int32) : kS := fun a b => if a = 9 then f b else κ a b
theorem k9_n {κ : kS} {f : Nat → Nat → Int32} {a : Nat} (h : a ≠ 9) (b : Nat) : k9 κ f a b = κ a b := if_neg h
theorem k9_e (κ : kS) (f : Nat → Nat → Int32) (b : Nat) : k9 κ f 9 b = f b := if_pos rfl
theorem kcl_k9 {D : kD} {κ : kS} {f : Nat → Nat → Int32} {k i : Nat} (h : k ≠ 9) : kcl D (k9 κ f) k i = kcl D κ k i := kcl_cg' (k9_n h i) (fun _ => by rw [k9_n (by decide)]) (fun t => absurd t h) (fun _ => by rw [k9_n (by decide)]) (fun _ => by rw [k9_n (by decide)]) (fun _ => k9_n (by decide) i)
section SH4
variable {D : kD} {κ : kS} {σ : mS} {τ : mL} {z : Nat}
theorem rn_9 (hD : WD D) (hF : FZ D κ z) (hI : kI D 9 0) {f : Nat → Nat → Int32} {g : Nat → Option Nat} (hg : ∀ d, (if f 0 d = 0 then none else some (D.1 22 (N (f 1 d)))) = g d) : xup (rn D κ) (D.1 9 0) (rfA 8 8 g) = rn D (k9 κ f) := by
  refine rn_putX hD hI ?_ (fun a k i ha hn => ?_)
  · have e : g = fun d => if (k9 κ f) 9 0 d = 0 then none else some (D.1 22 (N ((k9 κ f) 9 1 d))) := by
      funext d
      rw [k9_e, k9_e, hg]
    rw [e]
    rfl
  · by_cases h : k = 9
    · have l := (hF.2.1 a _ ha).2.2.2.2.2.2 (Or.inr (Or.inr h))
      exact absurd ⟨h, l⟩ hn
    · exact kcl_k9 h
theorem pn_of {h : xH} {a kd n i : Nat} {f : Nat → Option Nat} (ha : h a = some (rfA kd n f)) (hi : i < n) (hn : n < 1000) : pn h a kd (J i) = some (xup h a (rfA kd n (va_up f i none))) := by
  unfold pn
  rw [ha]
  unfold rfA
  dsimp only
  rw [if_pos rfl, if_pos (xin_J hi (by omega)), J_nat (by omega)]
/-- what the shelves' calls leave alone -/
def kfs (κ κ' : kS) : Prop := ∀ a b, a ≠ 9 → a < 22 → κ' a b = κ a b
def sfs (σ σ' : mS) : Prop := ∀ s b, s ≠ 0 → s < 46 → σ' s b = σ s b
theorem kfs.rf (κ : kS) : kfs κ κ := fun _ _ _ _ => rfl
theorem kfs_k9 (κ : kS) (f : Nat → Nat → Int32) : kfs κ (k9 κ f) := fun a b h _ => k9_n h b
/-- a thing less: shelf d becomes empty -/
def f9n (κ : kS) (d : Nat) : Nat → Nat → Int32 := fun b => if b = 0 then fu (κ 9 0) d 0 else κ 9 b
theorem LV_9 (h : LV D κ) {f : Nat → Nat → Int32} (hf : ∀ d, d < 8 → f 0 d ≠ 0 → kI D 22 (N (f 1 d)) ∧ kI D 23 (N (f 1 d)) ∧ (κ 22 (N (f 1 d)) 8 = 1 ∨ κ 22 (N (f 1 d)) 8 = 2 → kI D 24 (N (f 1 d)))) : LV D (k9 κ f) := by
  obtain ⟨a, b, c, d, e, g⟩ := h
  refine ⟨a, b, ?_, ?_, ?_, ?_⟩
  · rw [k9_n (by decide)]; exact c
  · rw [k9_n (by decide)]
    intro m hm
    rw [k9_n (by decide)]
    exact d m hm
  · rw [k9_n (by decide)]; exact e
  · intro d hd hn
    rw [k9_e] at hn ⊢
    rw [k9_n (by decide)]
    exact hf d hd hn
theorem YW_9 (h : YW D κ σ) {f : Nat → Nat → Int32} (hL : LV D (k9 κ f)) : YW D (k9 κ f) σ := by
  refine ⟨hL, h.2.1.ky ⟨?_, ?_, ?_, ?_, ?_, ?_, ?_, ?_⟩, h.2.2⟩
  · rw [k9_n (by decide)]
  all_goals (funext b; exact k9_n (by decide) b)
theorem FZ_9 (hF : FZ D κ z) {f : Nat → Nat → Int32} (h2 : N (κ 9 2 0) ≤ N (f 2 0)) (hn : ∀ d, f 0 d ≠ 0 → N (f 1 d) < N (f 2 0)) : FZ D (k9 κ f) z := by
  refine ⟨hF.1, fun a q hq => ?_, fun d hd => ?_⟩
  · have l := hF.2.1 a q hq
    unfold lq at l ⊢
    simp only [k9_n (show (3 : Nat) ≠ 9 by decide), k9_n (show (1 : Nat) ≠ 9 by decide), k9_n (show (10 : Nat) ≠ 9 by decide), k9_e]
    omega
  · rw [k9_e] at hd ⊢
    rw [k9_e]
    exact hn d hd
end SH4

/-! THE CLASS's constructor; the relation at the start -/
def yH (h : xH) (o z : Nat) : xH := xup (xup (xup (xup (xup (xup (xup h z (rfA 6 3 (fun _ => none))) (z + 1) (rfA 7 200 (fun _ => none))) (z + 1 + 1) (inA 4 (fun _ => 0))) (z + 1 + 1 + 1) (inA 3 (fun _ => 0))) (z + 1 + 1 + 1 + 1) (.inr (1, [.int 4, .ref (z + 1 + 1 + 1 + 1 + 1), .int 0]))) (z + 1 + 1 + 1 + 1 + 1) (inA 16 (ones 16))) o (.inr (3, [.ref z, .int 0, .ref (z + 1), .int 0, .int 0, .int 0, .int 0, .int 0, .int 1, .ref (z + 1 + 1), .ref (z + 1 + 1 + 1), .ref (z + 1 + 1 + 1 + 1)]))
theorem pf_n {H : xH} {o z c k : Nat} {e : xE} {fs : List Value} {v : Value} (hz : o ≠ z) (hk : k < fs.length) : pf (xup (xup H o (.inr (c, fs))) z e) o c k v = some (xup (xup H z e) o (.inr (c, fs.set k v))) := by
  rw [pf_of (fs := fs) (by rw [xup_ne hz, xup_eq]) hk]
  congr 1
  rw [xup_comm _ _ _ hz, xup_xup]
theorem yainit {h : xH} {o z : Nat} (ho : o < z) : Ev (fun n => Ya_init_f n o (xup h o (.inr (3, [.null, .int 0, .null, .int 0, .int 0, .int 0, .int 0, .int 0, .int 0, .null, .null, .null]))) z) (0, yH h o z, 6, 229) := by
  unfold Ya_init_f
  refine Ev.oad (c := 5) (s := 226) (Ev.bn (Ev.ob (Ev.cn (pf_n (by omega) (by show 0 < 12; decide))) ?_))
  refine Ev.oad (c := 4) (s := 26) (Ev.bn (Ev.ob (Ev.cn (pf_n (by omega) (by show 2 < 12; decide))) (Ev.ob (Ev.cn (pf_x (by show 8 < 12; decide))) ?_)))
  refine Ev.oad (c := 3) (s := 22) (Ev.bn (Ev.ob (Ev.cn (pf_n (by omega) (by show 9 < 12; decide))) ?_))
  refine Ev.oad (c := 2) (s := 19) (Ev.bn (Ev.ob (Ev.cn (pf_n (by omega) (by show 10 < 12; decide))) ?_))
  refine Ev.oad (c := 1) (s := 16) (Ev.bn (Ev.ob (zinit_4 (by omega)) ?_))
  dsimp only
  refine Ev.oa0 (Ev.ob (Ev.cn (pf_of (fs := [.ref z, .int 0, .ref (z + 1), .int 0, .int 0, .int 0, .int 0, .int 0, .int 1, .ref (z + 1 + 1), .ref (z + 1 + 1 + 1), .null]) (by rw [xup_ne (by omega), xup_ne (by omega)]; exact xup_eq) (by show 11 < 12; decide))) ?_)
  refine Ev.cg (fun n => ?_) Ev.ret
  congr 2
  unfold yH
  rw [xup_comm _ _ _ (show o ≠ z + 1 + 1 + 1 + 1 by omega), xup_comm _ _ _ (show o ≠ z + 1 + 1 + 1 + 1 + 1 by omega), xup_xup]
  rfl
def tH6 (h : xH) (o z : Nat) : xH := xup (yH (xup h o (.inr (4, [.null, .null, .null, .null]))) z (z + 1)) o (.inr (4, [.ref z, .null, .null, .null]))
def tH17 (h : xH) (o z : Nat) : xH := xup (xup (xup (tH6 h o z) (z + 7) (.inr (1, [.int 4, .ref (z + 8), .int 0]))) (z + 8) (inA 16 (ones 16))) o (.inr (4, [.ref z, .ref (z + 7), .null, .null]))
def tH18 (h : xH) (o z : Nat) : xH := hz (tH17 h o z) (z + 7) (z + 8) 4 (caz 4 (ones 16)) 0
def tH (h : xH) (o z : Nat) : xH := xup (xup (xup (xup (tH18 h o z) (z + 9) (inA 4 (fun _ => 0))) o (.inr (4, [.ref z, .ref (z + 7), .ref (z + 9), .null]))) (z + 10) (rfA 8 8 (fun _ => none))) o (.inr (4, [.ref z, .ref (z + 7), .ref (z + 9), .ref (z + 10)]))
theorem hz_n {h : xH} {o b n a : Nat} {f : Nat → Int32} {e : Int32} (h1 : a ≠ b) (h2 : a ≠ o) : hz h o b n f e a = h a := by
  unfold hz
  rw [if_neg h1, if_neg h2]
theorem tiinit {h : xH} {o z : Nat} (ho : o < z) : Ev (fun n => Ti_init_f n o (xup h o (.inr (4, [.null, .null, .null, .null]))) z) (0, tH h o z, 11, 272) := by
  have hy := yainit (h := xup h o (.inr (4, [.null, .null, .null, .null]))) (o := z) (z := z + 1) (by omega)
  have yo : yH (xup h o (.inr (4, [.null, .null, .null, .null]))) z (z + 1) o = some (.inr (4, [.null, .null, .null, .null])) := by
    unfold yH
    rw [xup_ne (by omega), xup_ne (by omega), xup_ne (by omega), xup_ne (by omega), xup_ne (by omega), xup_ne (by omega), xup_ne (by omega), xup_eq]
  have z1 := zinit_4 (h := tH6 h o z) (o := z + 7) (z := z + 8) (by omega)
  have za : zoA (tH17 h o z) (z + 7) (z + 8) 4 (ones 16) 0 := by
    refine ⟨by omega, ?_, ?_⟩
    · unfold tH17
      rw [xup_ne (by omega), xup_ne (by omega), xup_eq]
      rfl
    · unfold tH17
      rw [xup_ne (by omega), xup_eq]
      rfl
  have bt : Ev (fun n => Zo_becomeAllTimes_f n 0 (z + 7) 0 (tH17 h o z)) (0, tH18 h o z) := by
    have e := allTimes_c (h := tH17 h o z) (o := z + 7) (b := z + 8) (n := 4) (f := ones 16) (e := 0) (by omega) (by omega) (x1 := 0)
    rw [← zoA_hz za] at e
    exact e
  have o17 : tH17 h o z o = some (.inr (4, [.ref z, .ref (z + 7), .null, .null])) := xup_eq
  have o18 : tH18 h o z o = some (.inr (4, [.ref z, .ref (z + 7), .null, .null])) := by
    unfold tH18
    rw [hz_n (by omega) (by omega)]
    exact o17
  unfold Ti_init_f
  refine Ev.oad (c := 10) (s := 260) (Ev.bn (Ev.ob hy ?_))
  dsimp only
  refine Ev.oad (c := 4) (s := 31) (Ev.ob (Ev.cn (pf_of yo (by show 0 < 4; decide))) ?_)
  refine Ev.oad (c := 3) (s := 28) (Ev.bn (Ev.ob z1 ?_))
  dsimp only
  refine Ev.oad (c := 2) (s := 12) (Ev.ob (Ev.cn (a := tH17 h o z) (pf_of (fs := [.ref z, .null, .null, .null]) (by rw [xup_ne (by omega), xup_ne (by omega)]; exact xup_eq) (by show 1 < 4; decide))) ?_)
  refine Ev.ob (Ev.cn (gq_of o17 rfl)) (Ev.obs (Ev.pos (by rw [kc_of za.2.1]; decide) (Ev.ob bt ?_)))
  dsimp only
  refine Ev.oad (c := 1) (s := 8) (Ev.bn (Ev.ob (Ev.cn (pf_of (fs := [.ref z, .ref (z + 7), .null, .null]) (by rw [xup_ne (by omega)]; exact o18) (by show 2 < 4; decide))) ?_))
  refine Ev.oa0 (Ev.bn (Ev.ob (Ev.cn (pf_of (fs := [.ref z, .ref (z + 7), .ref (z + 9), .null]) (by rw [xup_ne (by omega)]; exact xup_eq) (by show 3 < 4; decide))) ?_))
  exact Ev.ret
/-! where it all lies -/
def tK (i : Nat) : Nat × Nat := [(1, 0), (2, 0), (3, 0), (4, 0), (5, 0), (6, 0), (7, 0), (6, 1), (7, 1), (8, 0), (9, 0)].getD i (0, 0)
def dI0 (o z a : Nat) : Option (Nat × Nat) := if a = o then some (0, 0) else if a < z then none else if a < z + 11 then some (tK (a - z)) else none
def dA0 (o z k i : Nat) : Nat := if k = 0 then o else if k = 1 then z else if k = 2 then z + 1 else if k = 3 then z + 2 else if k = 4 then z + 3 else if k = 5 then z + 4 else if k = 6 then (if i = 0 then z + 5 else z + 7) else if k = 7 then (if i = 0 then z + 6 else z + 8) else if k = 8 then z + 9 else z + 10
def d0 (o z : Nat) : kD := (dA0 o z, dI0 o z, fun _ => none, fun _ _ => 0)
def k0S : kS := fun a b => if a = 1 then (fun c => if c = 8 then 1 else 0) else if a = 7 then (if b = 0 then ones 16 else caz 4 (ones 16)) else fun _ => 0
section TI
variable {o z : Nat}
theorem dI0_i (ho : o < z) {i : Nat} (hi : i < 11) : dI0 o z (z + i) = some (tK i) := by
  unfold dI0
  rw [if_neg (by omega), if_neg (by omega), if_pos (by omega), show z + i - z = i by omega]
theorem dI0_o : dI0 o z o = some (0, 0) := if_pos rfl
theorem dI0_inv (ho : o < z) {a : Nat} {q : Nat × Nat} (h : dI0 o z a = some q) : (a = o ∧ q = (0, 0)) ∨ ∃ i, i < 11 ∧ a = z + i ∧ q = tK i := by
  unfold dI0 at h
  by_cases h1 : a = o
  · rw [if_pos h1] at h
    cases h
    exact Or.inl ⟨h1, rfl⟩
  · rw [if_neg h1] at h
    by_cases h2 : a < z
    · rw [if_pos h2] at h
      cases h
    · rw [if_neg h2] at h
      by_cases h3 : a < z + 11
      · rw [if_pos h3] at h
        cases h
        exact Or.inr ⟨a - z, by omega, by omega, rfl⟩
      · rw [if_neg h3] at h
        cases h
theorem tK_A {i : Nat} (hi : i < 11) : dA0 o z (tK i).1 (tK i).2 = z + i := by
  have c : i = 0 ∨ i = 1 ∨ i = 2 ∨ i = 3 ∨ i = 4 ∨ i = 5 ∨ i = 6 ∨ i = 7 ∨ i = 8 ∨ i = 9 ∨ i = 10 := by omega
  rcases c with rfl | rfl | rfl | rfl | rfl | rfl | rfl | rfl | rfl | rfl | rfl <;> rfl
theorem d0_k0 : kI (d0 o z) 0 0 := dI0_o
theorem d0_k1_0 (ho : o < z) : kI (d0 o z) 1 0 := dI0_i (i := 0) ho (by decide)
theorem d0_k2_0 (ho : o < z) : kI (d0 o z) 2 0 := dI0_i (i := 1) ho (by decide)
theorem d0_k3_0 (ho : o < z) : kI (d0 o z) 3 0 := dI0_i (i := 2) ho (by decide)
theorem d0_k4_0 (ho : o < z) : kI (d0 o z) 4 0 := dI0_i (i := 3) ho (by decide)
theorem d0_k5_0 (ho : o < z) : kI (d0 o z) 5 0 := dI0_i (i := 4) ho (by decide)
theorem d0_k6_0 (ho : o < z) : kI (d0 o z) 6 0 := dI0_i (i := 5) ho (by decide)
theorem d0_k7_0 (ho : o < z) : kI (d0 o z) 7 0 := dI0_i (i := 6) ho (by decide)
theorem d0_k6_1 (ho : o < z) : kI (d0 o z) 6 1 := dI0_i (i := 7) ho (by decide)
theorem d0_k7_1 (ho : o < z) : kI (d0 o z) 7 1 := dI0_i (i := 8) ho (by decide)
theorem d0_k8_0 (ho : o < z) : kI (d0 o z) 8 0 := dI0_i (i := 9) ho (by decide)
theorem d0_k9_0 (ho : o < z) : kI (d0 o z) 9 0 := dI0_i (i := 10) ho (by decide)
theorem tH_rn (ho : o < z) : tH (fun _ => none) o z = rn (d0 o z) k0S := by
  funext a
  by_cases h1 : a = o
  · subst h1
    rw [show rn (d0 a z) k0S a = kcl (d0 a z) k0S 0 0 from rn_at (D := d0 a z) d0_k0]
    unfold tH
    rw [xup_eq]
    rfl
  · by_cases h2 : z ≤ a ∧ a < z + 11
    · obtain ⟨i, rfl⟩ : ∃ i, a = z + i := ⟨a - z, by omega⟩
      have hi : i < 11 := by omega
      have c : i = 0 ∨ i = 1 ∨ i = 2 ∨ i = 3 ∨ i = 4 ∨ i = 5 ∨ i = 6 ∨ i = 7 ∨ i = 8 ∨ i = 9 ∨ i = 10 := by omega
      rcases c with rfl | rfl | rfl | rfl | rfl | rfl | rfl | rfl | rfl | rfl | rfl
      · rw [show rn (d0 o z) k0S (z + 0) = kcl (d0 o z) k0S 1 0 from rn_at (D := d0 o z) (d0_k1_0 ho)]
        show tH (fun _ => none) o z (z) = _
        unfold tH tH18
        rw [xup_ne (by omega), xup_ne (by omega), xup_ne (by omega), xup_ne (by omega), hz_n (by omega) (by omega)]
        unfold tH17 tH6 yH
        rw [xup_ne (by omega), xup_ne (by omega), xup_ne (by omega), xup_ne (by omega), xup_eq]
        rfl
      · rw [show rn (d0 o z) k0S (z + 1) = kcl (d0 o z) k0S 2 0 from rn_at (D := d0 o z) (d0_k2_0 ho)]
        show tH (fun _ => none) o z (z + 1) = _
        unfold tH tH18
        rw [xup_ne (by omega), xup_ne (by omega), xup_ne (by omega), xup_ne (by omega), hz_n (by omega) (by omega)]
        unfold tH17 tH6 yH
        rw [xup_ne (by omega), xup_ne (by omega), xup_ne (by omega), xup_ne (by omega), xup_ne (by omega), xup_ne (by omega), xup_ne (by omega), xup_ne (by omega), xup_ne (by omega), xup_ne (by omega), xup_eq]
        show some (rfA _ _ _) = some (rfA _ _ _)
        congr 2
      · rw [show rn (d0 o z) k0S (z + 2) = kcl (d0 o z) k0S 3 0 from rn_at (D := d0 o z) (d0_k3_0 ho)]
        show tH (fun _ => none) o z (z + 1 + 1) = _
        unfold tH tH18
        rw [xup_ne (by omega), xup_ne (by omega), xup_ne (by omega), xup_ne (by omega), hz_n (by omega) (by omega)]
        unfold tH17 tH6 yH
        rw [xup_ne (by omega), xup_ne (by omega), xup_ne (by omega), xup_ne (by omega), xup_ne (by omega), xup_ne (by omega), xup_ne (by omega), xup_ne (by omega), xup_ne (by omega), xup_eq]
        show some (rfA _ _ _) = some (rfA _ _ _)
        congr 2
      · rw [show rn (d0 o z) k0S (z + 3) = kcl (d0 o z) k0S 4 0 from rn_at (D := d0 o z) (d0_k4_0 ho)]
        show tH (fun _ => none) o z (z + 1 + 1 + 1) = _
        unfold tH tH18
        rw [xup_ne (by omega), xup_ne (by omega), xup_ne (by omega), xup_ne (by omega), hz_n (by omega) (by omega)]
        unfold tH17 tH6 yH
        rw [xup_ne (by omega), xup_ne (by omega), xup_ne (by omega), xup_ne (by omega), xup_ne (by omega), xup_ne (by omega), xup_ne (by omega), xup_ne (by omega), xup_eq]
        rfl
      · rw [show rn (d0 o z) k0S (z + 4) = kcl (d0 o z) k0S 5 0 from rn_at (D := d0 o z) (d0_k5_0 ho)]
        show tH (fun _ => none) o z (z + 1 + 1 + 1 + 1) = _
        unfold tH tH18
        rw [xup_ne (by omega), xup_ne (by omega), xup_ne (by omega), xup_ne (by omega), hz_n (by omega) (by omega)]
        unfold tH17 tH6 yH
        rw [xup_ne (by omega), xup_ne (by omega), xup_ne (by omega), xup_ne (by omega), xup_ne (by omega), xup_ne (by omega), xup_ne (by omega), xup_eq]
        rfl
      · rw [show rn (d0 o z) k0S (z + 5) = kcl (d0 o z) k0S 6 0 from rn_at (D := d0 o z) (d0_k6_0 ho)]
        show tH (fun _ => none) o z (z + 1 + 1 + 1 + 1 + 1) = _
        unfold tH tH18
        rw [xup_ne (by omega), xup_ne (by omega), xup_ne (by omega), xup_ne (by omega), hz_n (by omega) (by omega)]
        unfold tH17 tH6 yH
        rw [xup_ne (by omega), xup_ne (by omega), xup_ne (by omega), xup_ne (by omega), xup_ne (by omega), xup_ne (by omega), xup_eq]
        rfl
      · rw [show rn (d0 o z) k0S (z + 6) = kcl (d0 o z) k0S 7 0 from rn_at (D := d0 o z) (d0_k7_0 ho)]
        show tH (fun _ => none) o z (z + 1 + 1 + 1 + 1 + 1 + 1) = _
        unfold tH tH18
        rw [xup_ne (by omega), xup_ne (by omega), xup_ne (by omega), xup_ne (by omega), hz_n (by omega) (by omega)]
        unfold tH17 tH6 yH
        rw [xup_ne (by omega), xup_ne (by omega), xup_ne (by omega), xup_ne (by omega), xup_ne (by omega), xup_eq]
        rfl
      · rw [show rn (d0 o z) k0S (z + 7) = kcl (d0 o z) k0S 6 1 from rn_at (D := d0 o z) (d0_k6_1 ho)]
        unfold tH tH18
        rw [xup_ne (by omega), xup_ne (by omega), xup_ne (by omega), xup_ne (by omega), hz_o _ (by omega)]
        rfl
      · rw [show rn (d0 o z) k0S (z + 8) = kcl (d0 o z) k0S 7 1 from rn_at (D := d0 o z) (d0_k7_1 ho)]
        unfold tH tH18
        rw [xup_ne (by omega), xup_ne (by omega), xup_ne (by omega), xup_ne (by omega), hz_b]
        rfl
      · rw [show rn (d0 o z) k0S (z + 9) = kcl (d0 o z) k0S 8 0 from rn_at (D := d0 o z) (d0_k8_0 ho)]
        unfold tH
        rw [xup_ne (by omega), xup_ne (by omega), xup_ne (by omega), xup_eq]
        rfl
      · rw [show rn (d0 o z) k0S (z + 10) = kcl (d0 o z) k0S 9 0 from rn_at (D := d0 o z) (d0_k9_0 ho)]
        unfold tH
        rw [xup_ne (by omega), xup_eq]
        show some (rfA _ _ _) = some (rfA _ _ _)
        congr 2
    · unfold rn
      have hn : (d0 o z).2.1 a = none := by
        show dI0 o z a = none
        unfold dI0
        rw [if_neg h1]
        by_cases h3 : a < z
        · rw [if_pos h3]
        · rw [if_neg h3, if_neg (by omega)]
      rw [hn]
      show tH (fun _ => none) o z a = none
      unfold tH tH18
      rw [xup_ne (by omega), xup_ne (by omega), xup_ne (by omega), xup_ne (by omega), hz_n (by omega) (by omega)]
      unfold tH17 tH6 yH
      rw [xup_ne (by omega), xup_ne (by omega), xup_ne (by omega), xup_ne (by omega), xup_ne (by omega), xup_ne (by omega), xup_ne (by omega), xup_ne (by omega), xup_ne (by omega), xup_ne (by omega), xup_ne (by omega), xup_ne (by omega)]
end TI

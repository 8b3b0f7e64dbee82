/-! THE CLASS's loosen -/
theorem mark_c (k : Nat) (x : Int32) (H : xH) : Zo_mark_f k x 1 H = some ((2 : Int32) * x, H) := by
  unfold Zo_mark_f
  rw [if_neg (by decide)]
/-- what loosened answers -/
def ll (i : Int32) (x gi gj : Int32) : Int32 := if i = 0 then (if -gj ≤ x >>> ((1 : Int32) &&& 31) then x else (2 : Int32) * (-gj)) else (if x >>> ((1 : Int32) &&& 31) ≤ gi then (if -gj ≤ x >>> ((1 : Int32) &&& 31) then x else (2 : Int32) * (-gj)) else 1000000)
theorem loosened_c (k : Nat) (i x gi gj : Int32) (H : xH) : Zo_loosened_f k i x gi gj H = some (ll i x gi gj, H) := by
  unfold Zo_loosened_f ll
  simp only [mark_c, obd]
  by_cases h0 : i = 0
  · rw [if_pos h0, if_pos h0]
    by_cases h1 : -gj ≤ x >>> ((1 : Int32) &&& 31)
    · rw [if_pos h1, if_pos h1]
    · rw [if_neg h1, if_neg h1]
  · rw [if_neg h0, if_neg h0]
    by_cases h2 : x >>> ((1 : Int32) &&& 31) ≤ gi
    · rw [if_pos h2, if_pos h2]
      by_cases h1 : -gj ≤ x >>> ((1 : Int32) &&& 31)
      · rw [if_pos h1, if_pos h1]
      · rw [if_neg h1, if_neg h1]
    · rw [if_neg h2, if_neg h2]
abbrev lS : Type := (Nat → Int32) × Int32
def ln1 (n : Nat) (g : Nat → Int32) (i j : Nat) (S : lS) : lS := (fu S.1 (i * n + j) (ll (J i) (S.1 (i * n + j)) (g i) (g j)), if S.2 = 0 then (if ll (J i) (S.1 (i * n + j)) (g i) (g j) = S.1 (i * n + j) then 0 else 1) else 1)
def ln2 (n : Nat) (g : Nat → Int32) (i : Nat) (S : lS) : lS := it (ln1 n g i) 0 n S
def lnz (n : Nat) (g : Nat → Int32) (S : lS) : lS := it (ln2 n g) 0 n S
section CL
variable {h : xH} {o b n ga : Nat} {f g : Nat → Int32} {R : Int32 × xH}
theorem hz_g {e : Int32} (hg : h ga = some (.inl (0, n, .inl g))) (h1 : ga ≠ o) (h2 : ga ≠ b) {i : Nat} (hi : i < n) (hn : n ≤ 5) (F : Nat → Int32) : ai (hz h o b n F e) ga 0 (J i) = some (g i) := by
  unfold ai
  rw [show hz h o b n F e ga = some (.inl (0, n, .inl g)) from by unfold hz; rw [if_neg h2, if_neg h1]; exact hg]
  dsimp only
  rw [if_pos rfl, if_pos (xin_J hi (by omega)), J_nat (by omega)]
theorem hz_gl {e : Int32} (hg : h ga = some (.inl (0, n, .inl g))) (h1 : ga ≠ o) (h2 : ga ≠ b) (F : Nat → Int32) : al (hz h o b n F e) ga 0 = some (J n) := by
  unfold al
  rw [show hz h o b n F e ga = some (.inl (0, n, .inl g)) from by unfold hz; rw [if_neg h2, if_neg h1]; exact hg]
  dsimp only
  rw [if_pos rfl]
  rfl
theorem loosen_33 (hob : o ≠ b) (hn : n ≤ 5) (hg : h ga = some (.inl (0, n, .inl g))) (h1 : ga ≠ o) (h2 : ga ≠ b) {i : Nat} (hi : i < n) {S : lS} (ee : Ev (fun k => Zo_loosen_f k 22 o (some ga) (ln2 n g i S).2 (J (i + 1)) 0 (hz h o b n (ln2 n g i S).1 0)) R) : Ev (fun k => Zo_loosen_f k 33 o (some ga) S.2 (J i) (J 0) (hz h o b n S.1 0)) R := by
  have hnn : n * n ≤ 25 := Nat.mul_le_mul hn hn
  refine Ev.up (f := fun k j (S : lS) => Zo_loosen_f k 33 o (some ga) S.2 (J i) (J j) (hz h o b n S.1 0)) n (ln1 n g i) (fun _ _ => True) (fun _ _ _ _ => trivial) (fun j S hj _ e2 => ?_) n 0 S (by omega) trivial ?_
  · refine Ev.succ (fun k => Zo_loosen_e33 k _ _ _ _ _ _) ?_
    unfold Zo_loosen_t33
    have pp : ∀ F x, pa (hz h o b n F 0) b 0 (J i * J n + J j) x = some (hz h o b n (fu F (i * n + j) x) 0) := fun F x => by
      rw [J_mul, J_add]
      exact hz_pa (ix_lt hi hj) (by omega) x
    simp only [hz_size hob, hz_bounds hob, hz_kc hob, at_c hob hn hi hj, hz_g hg h1 h2 hi hn, hz_g hg h1 h2 hj hn, loosened_c, pp, obd, if_true]
    refine Ev.neg (by rw [J_le (by omega) (by omega)]; omega) ?_
    rw [show J j + 1 = J (j + 1) from J_add j 1]
    unfold ln1 at e2
    dsimp only at e2
    by_cases hs : S.2 = 0
    · rw [if_pos hs] at e2
      refine Ev.pos hs ?_
      by_cases he : ll (J i) (S.1 (i * n + j)) (g i) (g j) = S.1 (i * n + j)
      · rw [if_pos he] at e2
        exact Ev.pos he e2
      · rw [if_neg he] at e2
        exact Ev.neg he e2
    · rw [if_neg hs] at e2
      exact Ev.neg hs e2
  · refine Ev.succ (fun k => Zo_loosen_e33 k _ _ _ _ _ _) ?_
    unfold Zo_loosen_t33
    rw [hz_size hob]
    dsimp only [obd]
    refine Ev.pos (by rw [J_le (by omega) (by omega)]; omega) ?_
    rw [show J i + 1 = J (i + 1) from J_add i 1]
    exact ee
theorem ln1_zb {n : Nat} {g : Nat → Int32} {i j : Nat} {S : lS} : (ln1 n g i j S).2 = 0 ∨ (ln1 n g i j S).2 = 1 := by
  unfold ln1
  dsimp only
  split
  · split
    · exact Or.inl rfl
    · exact Or.inr rfl
  · exact Or.inr rfl
theorem lnz_zb {n : Nat} {g : Nat → Int32} {S : lS} (h : S.2 = 0 ∨ S.2 = 1) : (lnz n g S).2 = 0 ∨ (lnz n g S).2 = 1 := by
  unfold lnz
  exact it_inv (ln2 n g) (fun _ S => S.2 = 0 ∨ S.2 = 1) n (fun i S _ hS => it_inv (ln1 n g i) (fun _ S => S.2 = 0 ∨ S.2 = 1) n (fun j S _ _ => ln1_zb) n 0 S (by omega) hS) n 0 S (by omega) h
theorem loosen_c (hob : o ≠ b) (hn : n ≤ 5) (hg : h ga = some (.inl (0, n, .inl g))) (h1 : ga ≠ o) (h2 : ga ≠ b) {x2 x3 x4 : Int32} : Ev (fun k => Zo_loosen_f k 0 o (some ga) x2 x3 x4 (hz h o b n f 0)) ((lnz n g (f, 0)).2, hz h o b n (lnz n g (f, 0)).1 0) := by
  refine Ev.succ (fun k => Zo_loosen_e0 k _ _ _ _ _ _) ?_
  unfold Zo_loosen_t0
  simp only [hz_empty hob, hz_size hob, hz_gl hg h1 h2, obd, if_true]
  refine Ev.up (f := fun k i (S : lS) => Zo_loosen_f k 22 o (some ga) S.2 (J i) 0 (hz h o b n S.1 0)) n (ln2 n g) (fun _ _ => True) (fun _ _ _ _ => trivial) (fun i S hi _ e2 => ?_) n 0 (f, 0) (by omega) trivial ?_
  · refine Ev.succ (fun k => Zo_loosen_e22 k _ _ _ _ _ _) ?_
    unfold Zo_loosen_t22
    rw [hz_size hob]
    dsimp only [obd]
    refine Ev.neg (by rw [J_le (by omega) (by omega)]; omega) ?_
    exact loosen_33 hob hn hg h1 h2 hi e2
  · refine Ev.succ (fun k => Zo_loosen_e22 k _ _ _ _ _ _) ?_
    unfold Zo_loosen_t22
    rw [hz_size hob]
    dsimp only [obd]
    refine Ev.pos (by rw [J_le (by omega) (by omega)]; omega) ?_
    exact Ev.pos (zb_of (lnz_zb (Or.inl rfl))) Ev.ret
end CL

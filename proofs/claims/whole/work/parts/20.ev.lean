/-! fuel: Ev f R: f gives R for every fuel above a number -/
def Ev {α : Type} (f : Nat → Option α) (R : α) : Prop := ∃ N, ∀ n, N ≤ n → f n = some R
theorem Ev.ret {α : Type} {R : α} : Ev (fun _ => some R) R := ⟨0, fun _ _ => rfl⟩
theorem Ev.succ {α : Type} {f g : Nat → Option α} {R : α} (h : ∀ n, f (n + 1) = g n) (hg : Ev g R) : Ev f R := by
  obtain ⟨N, hN⟩ := hg
  refine ⟨N + 1, fun n hn => ?_⟩
  obtain ⟨m, rfl⟩ : ∃ m, n = m + 1 := ⟨n - 1, by omega⟩
  rw [h m]
  exact hN m (by omega)
theorem Ev.cg {α : Type} {f g : Nat → Option α} {R : α} (h : ∀ n, f n = g n) (hg : Ev g R) : Ev f R := by
  obtain ⟨N, hN⟩ := hg
  exact ⟨N, fun n hn => by rw [h n]; exact hN n hn⟩
theorem Ev.ob {α β : Type} {g : Nat → Option α} {k : Nat → α → Option β} {a : α} {R : β} (hg : Ev g a) (hk : Ev (fun n => k n a) R) : Ev (fun n => obd (g n) (k n)) R := by
  obtain ⟨N, hN⟩ := hg
  obtain ⟨M, hM⟩ := hk
  refine ⟨N + M, fun n hn => ?_⟩
  show obd (g n) (k n) = some R
  rw [hN n (by omega)]
  exact hM n (by omega)
theorem Ev.bn {α β : Type} {a : α} {k : Nat → α → Option β} {R : β} (hk : Ev (fun n => k n a) R) : Ev (fun n => bnd a (k n)) R := hk
theorem Ev.pos {α : Type} {c : Prop} {d : Decidable c} {f g : Nat → Option α} {R : α} (hc : c) (hf : Ev f R) : Ev (fun n => @ite _ c d (f n) (g n)) R := by
  obtain ⟨N, hN⟩ := hf
  exact ⟨N, fun n hn => (if_pos hc).trans (hN n hn)⟩
theorem Ev.neg {α : Type} {c : Prop} {d : Decidable c} {f g : Nat → Option α} {R : α} (hc : ¬c) (hf : Ev g R) : Ev (fun n => @ite _ c d (f n) (g n)) R := by
  obtain ⟨N, hN⟩ := hf
  exact ⟨N, fun n hn => (if_neg hc).trans (hN n hn)⟩
theorem Ev.uniq {α : Type} {f : Nat → Option α} {R S : α} (h : Ev f R) (g : Ev f S) : R = S := by
  obtain ⟨N, hN⟩ := h
  obtain ⟨M, hM⟩ := g
  have a := hN (N + M) (by omega)
  rw [hM (N + M) (by omega)] at a
  exact (Option.some.inj a).symm
theorem Ev.get {α : Type} {f : Nat → Option α} {R : α} (h : Ev f R) : ∃ n, f n = some R := by
  obtain ⟨N, hN⟩ := h
  exact ⟨N, hN N (Nat.le_refl N)⟩
/-- going up: body at k, k + 1 .. (d of them) -/
def it {S : Type} (body : Nat → S → S) : Nat → Nat → S → S
  | _, 0, s => s
  | k, d + 1, s => it body (k + 1) d (body k s)
theorem it_succ {S : Type} (body : Nat → S → S) (d : Nat) : ∀ (k : Nat) (s : S), it body k (d + 1) s = body (k + d) (it body k d s) := by
  induction d with
  | zero => intro k s; rfl
  | succ d ih =>
    intro k s
    show it body (k + 1) (d + 1) (body k s) = body (k + (d + 1)) (it body (k + 1) d (body k s))
    rw [ih (k + 1) (body k s)]
    have e : k + 1 + d = k + (d + 1) := by omega
    rw [e]
/-- what stays true while going up -/
theorem it_inv {S : Type} (body : Nat → S → S) (Q : Nat → S → Prop) (hi : Nat) (hq : ∀ k s, k < hi → Q k s → Q (k + 1) (body k s)) : ∀ d k s, k + d = hi → Q k s → Q hi (it body k d s) := by
  intro d
  induction d with
  | zero => intro k s hk h; rw [show hi = k by omega]; exact h
  | succ d ih => intro k s hk h; exact ih (k + 1) (body k s) (by omega) (hq k s (by omega) h)
theorem it_cg {S : Type} {b1 b2 : Nat → S → S} {hi : Nat} (h : ∀ k s, k < hi → b1 k s = b2 k s) : ∀ d k s, k + d = hi → it b1 k d s = it b2 k d s := by
  intro d
  induction d with
  | zero => intro k s hk; rfl
  | succ d ih => intro k s hk; show it b1 (k + 1) d (b1 k s) = it b2 (k + 1) d (b2 k s); rw [h k s (by omega)]; exact ih (k + 1) _ (by omega)
theorem Ev.up {α S : Type} {f : Nat → Nat → S → Option α} {R : α} (hi : Nat) (body : Nat → S → S) (Q : Nat → S → Prop) (hq : ∀ k s, k < hi → Q k s → Q (k + 1) (body k s)) (hs : ∀ k s, k < hi → Q k s → Ev (fun n => f n (k + 1) (body k s)) R → Ev (fun n => f n k s) R) : ∀ d k s, k + d = hi → Q k s → Ev (fun n => f n hi (it body k d s)) R → Ev (fun n => f n k s) R := by
  intro d
  induction d with
  | zero => intro k s hk h e; rw [show hi = k by omega] at e; exact e
  | succ d ih => intro k s hk h e; exact hs k s (by omega) h (ih (k + 1) (body k s) (by omega) (hq k s (by omega) h) e)
/-! small numbers as Int32 -/
def J (k : Nat) : Int32 := Int32.ofNat k
theorem J_lit (n : Nat) : (OfNat.ofNat n : Int32) = J n := rfl
theorem J0 : (0 : Int32) = J 0 := rfl
theorem J1 : (1 : Int32) = J 1 := rfl
theorem J2 : (2 : Int32) = J 2 := rfl
theorem J3 : (3 : Int32) = J 3 := rfl
theorem J4 : (4 : Int32) = J 4 := rfl
theorem J5 : (5 : Int32) = J 5 := rfl
theorem J6 : (6 : Int32) = J 6 := rfl
theorem J12 : (12 : Int32) = J 12 := rfl
theorem J20 : (20 : Int32) = J 20 := rfl
theorem J25 : (25 : Int32) = J 25 := rfl
theorem J36 : (36 : Int32) = J 36 := rfl
theorem J60 : (60 : Int32) = J 60 := rfl
theorem J_add (a b : Nat) : J a + J b = J (a + b) := by
  unfold J
  rw [Int32.ofNat_add]
theorem J_mul (a b : Nat) : J a * J b = J (a * b) := by
  unfold J
  rw [Int32.ofNat_mul]
theorem J_int {k : Nat} (h : k < 2147483648) : (J k).toInt = (k : Int) := Int32.toInt_ofNat_of_lt (by omega)
theorem J_nat {k : Nat} (h : k < 2147483648) : Int32.toNatClampNeg (J k) = k := Int32.toNatClampNeg_ofNat_of_lt (by omega)
theorem J_le {a b : Nat} (ha : a < 2147483648) (hb : b < 2147483648) : (J a ≤ J b) ↔ a ≤ b := by
  rw [Int32.le_iff_toInt_le, J_int ha, J_int hb]
  omega
theorem J_lt {a b : Nat} (ha : a < 2147483648) (hb : b < 2147483648) : (J a < J b) ↔ a < b := by
  rw [Int32.lt_iff_toInt_lt, J_int ha, J_int hb]
  omega
theorem J_eq {a b : Nat} (ha : a < 2147483648) (hb : b < 2147483648) : (J a = J b) ↔ a = b := by
  constructor
  · intro h
    have e : (J a).toInt = (J b).toInt := by rw [h]
    rw [J_int ha, J_int hb] at e
    omega
  · intro h
    rw [h]
theorem xin_J {k n : Nat} (h : k < n) (hn : n < 2147483648) : xin (J k) n = true := by
  unfold xin
  have e : ¬ (J k < 0) := by rw [J0, J_lt (by omega) (by omega)]; omega
  rw [J_nat (by omega)]
  simp [e, h]
theorem J_of {x : Int32} (h : 0 ≤ x) : x = J x.toNatClampNeg := (Int32.ofNat_toNatClampNeg x h).symm

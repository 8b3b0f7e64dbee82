/-! THE CLASS's squeeze -/
def ci (n : Nat) (f : Nat → Int32) : iM := fun i j => (f (i * n + j)).toInt
theorem ixn {n a b p q : Nat} (hb : b < n) (hq : q < n) : a * n + b = p * n + q ↔ a = p ∧ b = q := by
  constructor
  · intro h
    rcases Nat.lt_trichotomy a p with g | g | g
    · have := Nat.mul_le_mul_right n (show a + 1 ≤ p from g)
      rw [Nat.succ_mul] at this
      omega
    · subst g
      omega
    · have := Nat.mul_le_mul_right n (show p + 1 ≤ a from g)
      rw [Nat.succ_mul] at this
      omega
  · intro ⟨h1, h2⟩
    rw [h1, h2]
theorem ci_fu {n : Nat} {f : Nat → Int32} {p q a b : Nat} (hb : b < n) (hq : q < n) (x : Int32) : ci n (fu f (p * n + q) x) a b = if a = p ∧ b = q then x.toInt else ci n f a b := by
  unfold ci fu
  by_cases h : a = p ∧ b = q
  · rw [if_pos h, if_pos ((ixn hb hq).mpr h)]
  · rw [if_neg h, if_neg (fun t => h ((ixn hb hq).mp t))]
def cq1 (n j : Nat) (t : Int32) (p q : Nat) (f : Nat → Int32) : Nat → Int32 := fu f (p * n + q) (if Mo_sum_f t (f (j * n + q)) < f (p * n + q) then Mo_sum_f t (f (j * n + q)) else f (p * n + q))
def cq2 (n i j : Nat) (w : Int32) (p : Nat) (f : Nat → Int32) : Nat → Int32 := if Mo_sum_f (f (p * n + i)) w = 1000000 then f else it (cq1 n j (Mo_sum_f (f (p * n + i)) w) p) 0 n f
def cqz (n i j : Nat) (w : Int32) (f : Nat → Int32) : Nat → Int32 := it (cq2 n i j w) 0 n f
def csq (n i j : Nat) (w : Int32) (q : zQ) : zQ := if q.2 = 0 then (if w < q.1 (i * n + j) then (if 1 ≤ Mo_sum_f w (q.1 (j * n + i)) then (cqz n i j w q.1, q.2) else (q.1, 1)) else q) else q
section CS
variable {h : xH} {o b n : Nat} {f : Nat → Int32} {e : Int32} {R : Int32 × xH}
theorem sq_66 (hob : o ≠ b) (hn : n ≤ 5) {i j p : Nat} (hi : i < n) (hj : j < n) (hp : p < n) {w t : Int32} (ht : ¬ (t = 1000000)) (ee : Ev (fun k => Zo_squeeze_f k 41 o (J i) (J j) w (J (p + 1)) 0 0 (hz h o b n (it (cq1 n j t p) 0 n f) e)) R) : Ev (fun k => Zo_squeeze_f k 66 o (J i) (J j) w (J p) t (J 0) (hz h o b n f e)) R := by
  have hnn : n * n ≤ 25 := Nat.mul_le_mul hn hn
  refine Ev.up (f := fun k q f => Zo_squeeze_f k 66 o (J i) (J j) w (J p) t (J q) (hz h o b n f e)) n (cq1 n j t p) (fun _ _ => True) (fun _ _ _ _ => trivial) (fun q f hq _ e2 => ?_) n 0 f (by omega) trivial ?_
  · refine Ev.succ (fun k => Zo_squeeze_e66 k _ _ _ _ _ _ _ _) ?_
    unfold Zo_squeeze_t66
    simp only [hz_size hob, hz_bounds hob, hz_kc hob, at_c hob hn hp hq, at_c hob hn hj hq, sum_c, obd, if_true]
    refine Ev.neg (by rw [J_le (by omega) (by omega)]; omega) (Ev.neg ht ?_)
    rw [J_mul, J_add, hz_pa (ix_lt hp hq) (by omega)]
    dsimp only
    rw [show J q + 1 = J (q + 1) from J_add q 1]
    exact e2
  · refine Ev.succ (fun k => Zo_squeeze_e66 k _ _ _ _ _ _ _ _) ?_
    unfold Zo_squeeze_t66
    rw [hz_size hob]
    dsimp only [obd]
    refine Ev.pos (by rw [J_le (by omega) (by omega)]; omega) ?_
    rw [show J p + 1 = J (p + 1) from J_add p 1]
    exact ee
theorem sq_41 (hob : o ≠ b) (hn : n ≤ 5) {i j : Nat} (hi : i < n) (hj : j < n) {w : Int32} : Ev (fun k => Zo_squeeze_f k 41 o (J i) (J j) w (J 0) 0 0 (hz h o b n f e)) (0, hz h o b n (cqz n i j w f) e) := by
  refine Ev.up (f := fun k p f => Zo_squeeze_f k 41 o (J i) (J j) w (J p) 0 0 (hz h o b n f e)) n (cq2 n i j w) (fun _ _ => True) (fun _ _ _ _ => trivial) (fun p f hp _ e2 => ?_) n 0 f (by omega) trivial ?_
  · refine Ev.succ (fun k => Zo_squeeze_e41 k _ _ _ _ _ _ _ _) ?_
    unfold Zo_squeeze_t41
    simp only [hz_size hob, hz_kc hob, at_c hob hn hp hi, sum_c, obd, if_true]
    refine Ev.neg (by rw [J_le (by omega) (by omega)]; omega) ?_
    unfold cq2 at e2
    by_cases ht : Mo_sum_f (f (p * n + i)) w = 1000000
    · rw [if_pos ht] at e2
      refine Ev.succ (fun k => Zo_squeeze_e66 k _ _ _ _ _ _ _ _) ?_
      unfold Zo_squeeze_t66
      rw [hz_size hob]
      dsimp only [obd]
      rw [show J p + 1 = J (p + 1) from J_add p 1]
      by_cases hl : J n ≤ 0
      · exact Ev.pos hl e2
      · exact Ev.neg hl (Ev.pos ht e2)
    · rw [if_neg ht] at e2
      exact sq_66 hob hn hi hj hp ht e2
  · refine Ev.succ (fun k => Zo_squeeze_e41 k _ _ _ _ _ _ _ _) ?_
    unfold Zo_squeeze_t41
    rw [hz_size hob]
    dsimp only [obd]
    exact Ev.pos (by rw [J_le (by omega) (by omega)]; omega) Ev.ret
theorem squeeze_c (hob : o ≠ b) (hn : n ≤ 5) {i j : Nat} (hi : i < n) (hj : j < n) {w x4 x5 x6 : Int32} : Ev (fun k => Zo_squeeze_f k 0 o (J i) (J j) w x4 x5 x6 (hz h o b n f e)) (0, hz h o b n (csq n i j w (f, e)).1 (csq n i j w (f, e)).2) := by
  refine Ev.succ (fun k => Zo_squeeze_e0 k _ _ _ _ _ _ _ _) ?_
  unfold Zo_squeeze_t0 csq
  simp only [hz_empty hob, hz_kc hob, at_c hob hn hi hj, at_c hob hn hj hi, sum_c, hz_pf hob, obd, if_true]
  by_cases h0 : e = 0
  · simp only [h0, if_true]
    by_cases h1 : w < f (i * n + j)
    · simp only [h1, if_true]
      by_cases h2 : 1 ≤ Mo_sum_f w (f (j * n + i))
      · simp only [h2, if_true]
        exact sq_41 hob hn hi hj
      · simp only [h2, if_false]
        exact Ev.ret
    · simp only [h1, if_false]
      exact Ev.ret
  · simp only [h0, if_false]
    exact Ev.ret
end CS
/-- squeezed, in integers -/
theorem cqz_ci {n : Nat} {B : Int} (hn : n ≤ 5) (h0 : 0 ≤ B) (hB : B ≤ 100000) {f : Nat → Int32} (hM : zgd n B (ci n f)) {i j : Nat} (hi : i < n) (hj : j < n) {w : Int32} (hw : fn B w.toInt) (hc : 1 ≤ sm w.toInt (ci n f j i)) {a c : Nat} (ha : a < n) (hcn : c < n) : ci n (cqz n i j w f) a c = sq (ci n f) i j w.toInt a c := by
  have hA := AN_is
  have fM := hM.2.2
  have hAN : (1000000 : Int32).toInt = AN := by decide
  have rgs : ∀ {x C : Int}, fn C x → C ≤ 400003 → -1073741824 ≤ x ∧ x ≤ AN := fun hx hC => by
    rcases hx with t | t
    · rw [t]; omega
    · omega
  have rowj : ∀ c, c < n → sq (ci n f) i j w.toInt j c = ci n f j c := fun c hc2 => by
    have bjc := fM j c hj hc2
    have s1 := sm_fn (fM j i hj hi) hw
    have t : 1 ≤ sm (ci n f j i) w.toInt := by rw [sm_comm]; exact hc
    have u := sm_mo (B := 400003) (a := 1) (b := ci n f j c) (Or.inr (by omega)) (fn_mono bjc (by omega)) (by omega) t (Int.le_refl _) (fn_le s1 (by omega)) (fn_le bjc (by omega))
    rw [one_sm] at u
    unfold sq sqT
    omega
  have row : ∀ p, p < n → ∀ W : Nat → Int32, (∀ a c, a < n → c < n → ci n W a c = if a < p then sq (ci n f) i j w.toInt a c else ci n f a c) → ∀ a c, a < n → c < n → ci n (cq2 n i j w p W) a c = if a < p + 1 then sq (ci n f) i j w.toInt a c else ci n f a c := by
    intro p hp W hW a c ha hc2
    have ep : ci n W p i = ci n f p i := by rw [hW p i hp hi, if_neg (by omega)]
    have rp := rgs (fM p i hp hi) (by omega)
    have rw1 := rgs hw (by omega)
    have et : (Mo_sum_f (W (p * n + i)) w).toInt = sm (ci n f p i) w.toInt := by
      rw [← ep]
      exact sum_is (by unfold ci at ep rp; rw [← ep] at rp; exact rp.1) rw1.1 (by unfold ci at ep rp; rw [← ep] at rp; exact rp.2) rw1.2
    have st := sm_fn (fM p i hp hi) hw
    unfold cq2
    by_cases ht : Mo_sum_f (W (p * n + i)) w = 1000000
    · rw [if_pos ht, hW a c ha hc2]
      rw [ht, hAN] at et
      by_cases g : a < p
      · rw [if_pos g, if_pos (by omega)]
      · rw [if_neg g]
        by_cases g2 : a < p + 1
        · have e : a = p := by omega
          rw [if_pos g2, e]
          unfold sq sqT
          rw [← et, A_sm]
          have := fn_le (fM p c hp hc2) (by omega)
          omega
        · rw [if_neg g2]
    · rw [if_neg ht]
      have hq := it_inv (cq1 n j (Mo_sum_f (W (p * n + i)) w) p) (fun q Y => ∀ a c, a < n → c < n → ci n Y a c = if a < p ∨ (a = p ∧ c < q) then sq (ci n f) i j w.toInt a c else ci n f a c) n (fun q Y hq hY a c ha hc2 => by
        have ej : ci n Y j q = ci n f j q := by
          rw [hY j q hj hq]
          split
          · exact rowj q hq
          · rfl
        have epq : ci n Y p q = ci n f p q := by rw [hY p q hp hq, if_neg (by omega)]
        have rj := rgs (fM j q hj hq) (by omega)
        have rt := rgs st (by omega)
        have es : (Mo_sum_f (Mo_sum_f (W (p * n + i)) w) (Y (j * n + q))).toInt = sqT (ci n f) i j w.toInt p q := by
          unfold sqT
          rw [← et, ← ej]
          refine sum_is (by rw [et]; exact rt.1) (by unfold ci at ej rj; rw [← ej] at rj; exact rj.1) (by rw [et]; exact rt.2) (by unfold ci at ej rj; rw [← ej] at rj; exact rj.2)
        unfold cq1
        rw [ci_fu hc2 hq]
        by_cases g : a = p ∧ c = q
        · rw [if_pos g, if_pos (show a < p ∨ (a = p ∧ c < q + 1) by omega), g.1, g.2]
          have e2 : (Y (p * n + q)).toInt = ci n f p q := epq
          unfold sq
          by_cases hlt : Mo_sum_f (Mo_sum_f (W (p * n + i)) w) (Y (j * n + q)) < Y (p * n + q)
          · rw [if_pos hlt, es]
            have := i32_lt.mp hlt
            rw [es, e2] at this
            omega
          · rw [if_neg hlt, e2]
            have : ¬ ((Mo_sum_f (Mo_sum_f (W (p * n + i)) w) (Y (j * n + q))).toInt < (Y (p * n + q)).toInt) := fun t => hlt (i32_lt.mpr t)
            rw [es, e2] at this
            omega
        · rw [if_neg g, hY a c ha hc2]
          by_cases g2 : a < p ∨ (a = p ∧ c < q)
          · rw [if_pos g2, if_pos (by omega)]
          · rw [if_neg g2, if_neg (by omega)]) n 0 W (by omega) (fun a c ha hc2 => by
        rw [hW a c ha hc2]
        by_cases g : a < p
        · rw [if_pos g, if_pos (by omega)]
        · rw [if_neg g, if_neg (by omega)])
      rw [hq a c ha hc2]
      by_cases g : a < p + 1
      · rw [if_pos g, if_pos (by omega)]
      · rw [if_neg g, if_neg (by omega)]
  have hh := it_inv (cq2 n i j w) (fun p W => ∀ a c, a < n → c < n → ci n W a c = if a < p then sq (ci n f) i j w.toInt a c else ci n f a c) n (fun p W hp hW => row p hp W hW) n 0 f (by omega) (fun a c _ _ => by rw [if_neg (by omega)])
  have e := hh a c ha hcn
  rw [if_pos ha] at e
  exact e
theorem csq_is {n : Nat} {B : Int} (hn : n ≤ 5) (h0 : 0 ≤ B) (hB : B ≤ 100000) {f : Nat → Int32} (hM : zgd n B (ci n f)) {i j : Nat} (hi : i < n) (hj : j < n) {w : Int32} (hw : fn B w.toInt) : (sm w.toInt (ci n f j i) < 1 ∧ (csq n i j w (f, 0)).2 = 1) ∨ (1 ≤ sm w.toInt (ci n f j i) ∧ (csq n i j w (f, 0)).2 = 0 ∧ ∀ a c, a < n → c < n → ci n (csq n i j w (f, 0)).1 a c = sq (ci n f) i j w.toInt a c) := by
  have hA := AN_is
  have one : (1 : Int32).toInt = 1 := by decide
  have b1 := hM.2.2 j i hj hi
  have es : (Mo_sum_f w (f (j * n + i))).toInt = sm w.toInt (ci n f j i) := sum_is (by rcases hw with t | t <;> omega) (by unfold ci at b1; rcases b1 with t | t <;> omega) (fn_le hw (by omega)) (fn_le b1 (by omega))
  unfold csq
  rw [if_pos rfl]
  dsimp only
  by_cases h1 : w < f (i * n + j)
  · rw [if_pos h1]
    by_cases h2 : 1 ≤ Mo_sum_f w (f (j * n + i))
    · rw [if_pos h2]
      have t := i32_le.mp h2
      rw [es, one] at t
      exact Or.inr ⟨t, rfl, fun a c ha hc => cqz_ci hn h0 hB hM hi hj hw t ha hc⟩
    · rw [if_neg h2]
      have t : ¬ ((1 : Int32).toInt ≤ (Mo_sum_f w (f (j * n + i))).toInt) := fun t => h2 (i32_le.mpr t)
      rw [es, one] at t
      exact Or.inl ⟨by omega, rfl⟩
  · rw [if_neg h1]
    have hle : ci n f i j ≤ w.toInt := by
      have : ¬ (w.toInt < (f (i * n + j)).toInt) := fun t => h1 (i32_lt.mpr t)
      unfold ci
      omega
    refine Or.inr ⟨?_, rfl, fun a c ha hc => (sq_same hM h0 hB hi hj hw hle ha hc).symm⟩
    have t := hM.1 i i j hi hi hj
    rw [hM.2.1 i hi] at t
    have := sm_mo (B := 400003) (fn_mono (hM.2.2 i j hi hj) (by omega)) (fn_mono b1 (by omega)) (by omega) hle (Int.le_refl (ci n f j i)) (fn_le hw (by omega)) (fn_le b1 (by omega))
    omega

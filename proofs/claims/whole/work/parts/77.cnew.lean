/-! the class's newState, behind the look for its object -/
theorem ku_k {κ : kS} {a b c x y : Nat} {v : Int32} (h : x ≠ a) : ku κ a b c v x y = κ x y := kf_k h
theorem ku_n {κ : kS} {a b c x y : Nat} {v : Int32} (h : ¬ (x = a ∧ y = b)) : ku κ a b c v x y = κ x y := kf_n h
theorem ku_e (κ : kS) (a b c : Nat) (v : Int32) : ku κ a b c v a b = fu (κ a b) c v := kf_e κ a b _
def nsT (n o a : Nat) (y1 : Option Nat) (num : Int32) (h : xH) : Option (Option Nat × xH × Nat × Nat) := (if kc h (a) 2 = true then obd (St_comeFrom_f n (a) (y1) h) (fun r131 => obd (gq r131.2 (o) 3 10) (fun w132 => obd (gq r131.2 (a) 2 1) (fun w137 => obd w132 (fun a142 => obd w137 (fun a143 => obd (cpi r131.2 (a142) ((0 : Int32)) (a143) ((0 : Int32)) ((3 : Int32))) (fun h144 => (if kc h144 (o) 3 = true then obd (Ya_isLimited_f n 0 (o) 0 h144) (fun r158 => (if zb (r158.1) = true then obd (pf r158.2 (a) 2 11 (.int (r158.1))) (fun h160 => obd (pf h160 (o) 3 3 (.int ((num) + ((1 : Int32))))) (fun h166 => oel (y1) (some ((some (a)), h166, 0, 0)) (fun a172 => obd (gi h166 (a172) 2 6) (fun u174 => obd (pf h166 (a172) 2 6 (.int ((u174) + ((1 : Int32))))) (fun h179 => some ((some (a)), h179, 0, 0)))))) else none)) else none))))))) else none)
def parI (κ : kS) (par : Option Nat) : Int32 := match par with
  | none => (-2 : Int32)
  | some j => κ 19 j 0
def parD (κ : kS) (par : Option Nat) : Int32 := match par with
  | none => 0
  | some j => κ 19 j 9 + 1
/-- what newState does -/
def nsO (κ : kS) (k : Nat) (par : Option Nat) (lim : Int32) (κ' : kS) : Prop :=
  (∀ kd ix, ¬ (kd = 1 ∧ ix = 0) → ¬ (kd = 19 ∧ ix = k) → ¬ (kd = 20 ∧ ix = k) → (∀ j, par = some j → ¬ (kd = 19 ∧ ix = j)) → κ' kd ix = κ kd ix) ∧ κ' 1 0 = fu (κ 1 0) 3 (J (k + 1)) ∧ (∀ i, i < 3 → κ' 20 k i = κ 5 0 i) ∧ (κ' 19 k 0 = κ 19 k 0 ∧ κ' 19 k 5 = parI κ par ∧ κ' 19 k 9 = parD κ par ∧ κ' 19 k 6 = 0 ∧ κ' 19 k 7 = 0 ∧ κ' 19 k 8 = 0 ∧ κ' 19 k 11 = lim) ∧ ∀ j, par = some j → κ' 19 j = fu (κ 19 j) 6 (κ 19 j 6 + 1)
theorem rn_cpi {D : kD} {κ : kS} {k : Nat} (hD : WD D) (h5 : kI D 5 0) (h20 : kI D 20 k) : cpi (rn D κ) (D.1 5 0) 0 (D.1 20 k) 0 3 = some (rn D (kf κ 20 k (va_cpy (κ 5 0) (κ 20 k) 0 0 3))) := by
  have e5 : rn D κ (D.1 5 0) = some (.inl (0, 3, .inl (κ 5 0))) := rn_at h5
  have e20 : rn D κ (D.1 20 k) = some (.inl (0, 3, .inl (κ 20 k))) := rn_at h20
  unfold cpi
  rw [e5, e20]
  show (if _ then _ else _) = _
  rw [if_pos (by decide)]
  congr 1
  exact rn_kf (f := va_cpy (κ 5 0) (κ 20 k) 0 0 3) hD h20 (by simp only [kcl, kf_e]; rfl) (by decide) (by decide) (by decide) (fun t => absurd t (by decide))
theorem rn_cpi2 {D : kD} {κ : kS} {k : Nat} (hD : WD D) (h5 : kI D 5 0) (h20 : kI D 20 k) : cpi (rn D κ) (D.1 20 k) 0 (D.1 5 0) 0 3 = some (rn D (kf κ 5 0 (va_cpy (κ 20 k) (κ 5 0) 0 0 3))) := by
  have e5 : rn D κ (D.1 5 0) = some (.inl (0, 3, .inl (κ 5 0))) := rn_at h5
  have e20 : rn D κ (D.1 20 k) = some (.inl (0, 3, .inl (κ 20 k))) := rn_at h20
  unfold cpi
  rw [e5, e20]
  show (if _ then _ else _) = _
  rw [if_pos (by decide)]
  congr 1
  exact rn_kf (f := va_cpy (κ 20 k) (κ 5 0) 0 0 3) hD h5 (by simp only [kcl, kf_e]; rfl) (by decide) (by decide) (by decide) (fun t => absurd t (by decide))
theorem cpy3 (f g : Nat → Int32) {i : Nat} (hi : i < 3) : va_cpy f g 0 0 3 i = f i := by
  unfold va_cpy
  rw [if_pos (by omega)]
  congr 1
  omega
theorem hlp_zb (σ : mS) (p : Nat → Nat) : zb (hlp σ p) = true := by
  refine zb_of ?_
  unfold hlp
  have : ∀ (b : Nat → Int32 → Int32), (∀ a s, b a s = 0 ∨ b a s = 1) → it b 0 3 0 = 0 ∨ it b 0 3 0 = 1 := fun b hb => hb 2 _
  refine this _ (fun a s => ?_)
  split
  · split
    · split
      · exact Or.inl rfl
      · exact Or.inr rfl
    · exact Or.inl rfl
  · exact Or.inr rfl
section CN
variable {D : kD} {κ : kS} {σ : mS}
theorem LV.ku {a b c : Nat} {v : Int32} (h : LV D κ) (h9 : a ≠ 9) (h10 : a ≠ 10) (h22 : a ≠ 22) (h3 : a ≠ 3) (h1 : a = 1 → c ≠ 1) : LV D (ku κ a b c v) := h.cg (kxd_kf h9 h10 h22 (fun t => by rw [fu_n (Ne.symm (h1 t)), t])) (by rw [ku_k (Ne.symm h3)])
theorem YW.cg {κ' : kS} (h : YW D κ σ) (x : kxd κ κ') (y : ky κ κ') (h3 : κ' 3 0 0 = κ 3 0 0) : YW D κ' σ := ⟨h.1.cg x h3, h.2.1.ky y, h.2.2⟩
theorem YW.kf {a b : Nat} {f : Nat → Int32} (h : YW D κ σ) (h9 : a ≠ 9) (h10 : a ≠ 10) (h22 : a ≠ 22) (h3 : a ≠ 3) (h1 : a = 1 → f 1 = κ 1 b 1) (h13 : a < 13 ∨ 18 < a) : YW D (kf κ a b f) σ := h.cg (kxd_kf h9 h10 h22 h1) (ky_kf h1 h10 h13) (by rw [kf_k (Ne.symm h3)])
theorem nsT_y (h : YW D κ σ) {p : Nat → Nat} (hp : ∀ a, a < N (σ 1 0) → κ 5 0 a = J (p a) ∧ p a < N (σ 2 a)) {k : Nat} (hk : k < N (κ 3 0 0)) {par : Option Nat} (hpar : ∀ j, par = some j → j < N (κ 3 0 0) ∧ j ≠ k) : ∃ κ', Ev (fun n => nsT n (D.1 1 0) (D.1 19 k) (par.map (D.1 19)) (J k) (rn D κ)) (some (D.1 19 k), rn D κ', 0, 0) ∧ nsO κ k par (hlp σ p) κ' := by
  have hD := h.1.1
  have k1 := h.1.k1
  have k5 := h.1.2.1 5 (by decide) (by decide) (by decide)
  have k19 := h.1.2.2.2.2.1 k hk
  have e1 : J k + 1 = J (k + 1) := J_add k 1
  cases par with
  | none =>
    let κ1 : kS := ku (ku (ku (ku (ku κ 19 k 5 (-2)) 19 k 9 0) 19 k 6 0) 19 k 7 0) 19 k 8 0
    let κ2 : kS := kf κ1 20 k (va_cpy (κ1 5 0) (κ1 20 k) 0 0 3)
    let κ3 : kS := ku (ku κ2 19 k 11 (hlp σ p)) 1 0 3 (J (k + 1))
    have y1 : YW D κ1 σ := ((((h.kf (by decide) (by decide) (by decide) (by decide) (fun t => absurd t (by decide)) (by decide)).kf (by decide) (by decide) (by decide) (by decide) (fun t => absurd t (by decide)) (by decide)).kf (by decide) (by decide) (by decide) (by decide) (fun t => absurd t (by decide)) (by decide)).kf (by decide) (by decide) (by decide) (by decide) (fun t => absurd t (by decide)) (by decide)).kf (by decide) (by decide) (by decide) (by decide) (fun t => absurd t (by decide)) (by decide)
    have y2 : YW D κ2 σ := y1.kf (by decide) (by decide) (by decide) (by decide) (fun t => absurd t (by decide)) (by decide)
    have c1 : ∀ kd ix, ¬ (kd = 19 ∧ ix = k) → κ1 kd ix = κ kd ix := fun kd ix n => by
      show ku _ 19 k _ _ kd ix = _
      rw [ku_n n, ku_n n, ku_n n, ku_n n, ku_n n]
    have c1e : κ1 19 k = fu (fu (fu (fu (fu (κ 19 k) 5 (-2)) 9 0) 6 0) 7 0) 8 0 := by
      show ku _ 19 k _ _ 19 k = _
      rw [ku_e, ku_e, ku_e, ku_e, ku_e]
    have c2 : ∀ kd ix, ¬ (kd = 20 ∧ ix = k) → κ2 kd ix = κ1 kd ix := fun kd ix n => kf_n n
    have c2e : κ2 20 k = va_cpy (κ1 5 0) (κ1 20 k) 0 0 3 := kf_e _ _ _ _
    have q5 : κ2 5 0 = κ 5 0 := by rw [c2 5 0 (by omega), c1 5 0 (by omega)]
    have c3 : ∀ kd ix, ¬ (kd = 19 ∧ ix = k) → ¬ (kd = 1 ∧ ix = 0) → κ3 kd ix = κ2 kd ix := fun kd ix n n1 => by
      show ku _ 1 0 _ _ kd ix = _
      rw [ku_n n1, ku_n n]
    have c3k : κ3 19 k = fu (κ1 19 k) 11 (hlp σ p) := by
      show ku _ 1 0 _ _ 19 k = _
      rw [ku_k (by decide), ku_e, c2 19 k (by omega)]
    have c31 : κ3 1 0 = fu (κ 1 0) 3 (J (k + 1)) := by
      show ku _ 1 0 _ _ 1 0 = _
      rw [ku_e, ku_k (by decide), c2 1 0 (by omega), c1 1 0 (by omega)]
    refine ⟨κ3, ?_, ?_⟩
    · unfold nsT St_comeFrom_f
      simp only [Option.map, oel, obd, rd19 k19.1, rd1 k1, if_true, rw19_5 hD k19.1, rw19_9 hD k19.1, rw19_6 hD k19.1, rw19_7 hD k19.1, rw19_8 hD k19.1, rn_cpi hD k5 k19.2.1]
      refine Ev.ob (isLimited_y y2 (p := p) (fun a ha => by rw [q5]; exact hp a ha)) ?_
      dsimp only
      simp only [hlp_zb, if_true, rw19_11 hD k19.1, rw1_3 hD k1, e1]
      exact Ev.ret
    · have ne6 : True := trivial
      refine ⟨fun kd ix n1 n19 n20 nn => ?_, ?_, fun i hi => ?_, ?_, fun j' hj' => ?_⟩
      · rw [c3 kd ix n19 n1, c2 kd ix n20, c1 kd ix n19]
      · rw [c31]
      · rw [c3 20 k (by omega) (by omega), c2e, cpy3 _ _ hi, c1 5 0 (by omega)]
      · rw [c3k, c1e]
        exact ⟨rfl, rfl, rfl, rfl, rfl, rfl, rfl⟩
      · cases hj'
  | some j =>
    obtain ⟨hj, hjk⟩ := hpar j rfl
    have k19j := h.1.2.2.2.2.1 j hj
    let κ1 : kS := ku (ku (ku (ku (ku κ 19 k 5 (κ 19 j 0)) 19 k 9 (κ 19 j 9 + 1)) 19 k 6 0) 19 k 7 0) 19 k 8 0
    let κ2 : kS := kf κ1 20 k (va_cpy (κ1 5 0) (κ1 20 k) 0 0 3)
    let κ3 : kS := ku (ku κ2 19 k 11 (hlp σ p)) 1 0 3 (J (k + 1))
    have y1 : YW D κ1 σ := ((((h.kf (by decide) (by decide) (by decide) (by decide) (fun t => absurd t (by decide)) (by decide)).kf (by decide) (by decide) (by decide) (by decide) (fun t => absurd t (by decide)) (by decide)).kf (by decide) (by decide) (by decide) (by decide) (fun t => absurd t (by decide)) (by decide)).kf (by decide) (by decide) (by decide) (by decide) (fun t => absurd t (by decide)) (by decide)).kf (by decide) (by decide) (by decide) (by decide) (fun t => absurd t (by decide)) (by decide)
    have y2 : YW D κ2 σ := y1.kf (by decide) (by decide) (by decide) (by decide) (fun t => absurd t (by decide)) (by decide)
    have c1 : ∀ kd ix, ¬ (kd = 19 ∧ ix = k) → κ1 kd ix = κ kd ix := fun kd ix n => by
      show ku _ 19 k _ _ kd ix = _
      rw [ku_n n, ku_n n, ku_n n, ku_n n, ku_n n]
    have c1e : κ1 19 k = fu (fu (fu (fu (fu (κ 19 k) 5 (κ 19 j 0)) 9 (κ 19 j 9 + 1)) 6 0) 7 0) 8 0 := by
      show ku _ 19 k _ _ 19 k = _
      rw [ku_e, ku_e, ku_e, ku_e, ku_e]
    have c2 : ∀ kd ix, ¬ (kd = 20 ∧ ix = k) → κ2 kd ix = κ1 kd ix := fun kd ix n => kf_n n
    have c2e : κ2 20 k = va_cpy (κ1 5 0) (κ1 20 k) 0 0 3 := kf_e _ _ _ _
    have q5 : κ2 5 0 = κ 5 0 := by rw [c2 5 0 (by omega), c1 5 0 (by omega)]
    have c3 : ∀ kd ix, ¬ (kd = 19 ∧ ix = k) → ¬ (kd = 1 ∧ ix = 0) → κ3 kd ix = κ2 kd ix := fun kd ix n n1 => by
      show ku _ 1 0 _ _ kd ix = _
      rw [ku_n n1, ku_n n]
    have c3k : κ3 19 k = fu (κ1 19 k) 11 (hlp σ p) := by
      show ku _ 1 0 _ _ 19 k = _
      rw [ku_k (by decide), ku_e, c2 19 k (by omega)]
    have c31 : κ3 1 0 = fu (κ 1 0) 3 (J (k + 1)) := by
      show ku _ 1 0 _ _ 1 0 = _
      rw [ku_e, ku_k (by decide), c2 1 0 (by omega), c1 1 0 (by omega)]
    have nj : ¬ ((19 : Nat) = 19 ∧ j = k) := fun t => hjk t.2
    have q19 : κ3 19 j = κ 19 j := by rw [c3 19 j nj (by omega), c2 19 j (by omega), c1 19 j nj]
    refine ⟨ku κ3 19 j 6 (κ 19 j 6 + 1), ?_, ?_⟩
    · unfold nsT St_comeFrom_f
      simp only [Option.map, oel, obd, rd19 k19.1, rd19 k19j.1, ku_n nj, rd1 k1, if_true, rw19_5 hD k19.1, rw19_9 hD k19.1, rw19_6 hD k19.1, rw19_7 hD k19.1, rw19_8 hD k19.1, rn_cpi hD k5 k19.2.1]
      refine Ev.ob (isLimited_y y2 (p := p) (fun a ha => by rw [q5]; exact hp a ha)) ?_
      dsimp only
      have q6 : ku (ku κ2 19 k 11 (hlp σ p)) 1 0 3 (J (k + 1)) 19 j 6 = κ 19 j 6 := by
        show κ3 19 j 6 = _
        rw [q19]
      simp only [hlp_zb, if_true, rw19_11 hD k19.1, rw1_3 hD k1, e1, rd19 k19j.1, rw19_6 hD k19j.1, q6]
      exact Ev.ret
    · have ne6 : ∀ kd ix, ¬ (kd = 19 ∧ ix = j) → ku κ3 19 j 6 (κ 19 j 6 + 1) kd ix = κ3 kd ix := fun kd ix hn => ku_n hn
      refine ⟨fun kd ix n1 n19 n20 nn => ?_, ?_, fun i hi => ?_, ?_, fun j' hj' => ?_⟩
      · rw [ne6 kd ix (nn j rfl), c3 kd ix n19 n1, c2 kd ix n20, c1 kd ix n19]
      · rw [ne6 1 0 (by omega), c31]
      · rw [ne6 20 k (by omega), c3 20 k (by omega) (by omega), c2e, cpy3 _ _ hi, c1 5 0 (by omega)]
      · rw [ne6 19 k (fun t => hjk t.2.symm), c3k, c1e]
        exact ⟨rfl, rfl, rfl, rfl, rfl, rfl, rfl⟩
      · cases hj'
        rw [ku_e, q19]
end CN

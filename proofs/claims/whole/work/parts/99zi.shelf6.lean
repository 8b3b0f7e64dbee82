/-! make -/
section SH6
variable {D : kD} {κ : kS} {σ : mS} {τ : mL} {z x : Nat}
/-- the two sides of a call of the shelves -/
def SCo (D : kD) (κ : kS) (σ : mS) (τ : mL) (z : Nat) (f : Nat → Option (Int32 × xH × Nat × Nat)) (g : Nat → Option (Int32 × mS × mL)) : Prop := ∃ r D' κ' σ' τ' c s, Ev f (r, rn D' κ', c, s) ∧ Ev g (r, σ', τ') ∧ Dk D D' ∧ YW D' κ' σ' ∧ FZ D' κ' (z + c) ∧ SH D' κ' σ' τ' ∧ kfs κ κ' ∧ sfs σ σ' ∧ c ≤ 3 ∧ s ≤ 61 ∧ N (κ' 9 2 0) ≤ N (κ 9 2 0) + 1
theorem SH_su0 (S : SH D κ σ τ) : SH D κ (su σ 0 0 0) τ := by
  refine ⟨fun d hd => ?_, S.2⟩
  have s := S.1 d hd
  unfold SHd shW shP shS shL at s ⊢
  rw [su_n (by decide), su_n (by decide), su_n (by decide), su_n (by decide)]
  exact s
theorem SCo_no (h : YW D κ σ) (hF : FZ D κ z) (S : SH D κ σ τ) {r : Int32} {f : Nat → Option (Int32 × xH × Nat × Nat)} {g : Nat → Option (Int32 × mS × mL)} (ef : Ev f (r, rn D κ, 0, 0)) (eg : Ev g (r, su σ 0 0 0, τ)) : SCo D κ σ τ z f g := ⟨r, D, κ, su σ 0 0 0, τ, 0, 0, ef, eg, ⟨fun _ _ i => ⟨rfl, i⟩, rfl⟩, YW_sst h (yq_0 σ), hF, SH_su0 S, kfs.rf κ, fun s b h0 _ => su_n h0, by omega, by omega, by omega⟩
theorem SH_put (S : SH D κ σ τ) (lts : ∀ e, κ 9 0 e ≠ 0 → N (κ 9 1 e) < x) (hxs : x < 100000) {d : Nat} {D' : kD} {σ' : mS} {τ' : mL} {g f : Nat → Int32} (hl : ∀ y, y ≠ x → D'.2.2.2 y = D.2.2.2 y) (hs : ∀ s e, 46 ≤ s → s ≤ 49 → e ≠ d → σ' s e = σ s e) (ht : ∀ e i, e ≠ d → i < 60 → τ' 50 (60 * e + i) = τ 50 (60 * e + i)) (new : SHd D' (k9 (kR κ x g f) (f9p κ d x)) σ' τ' d) : SH D' (k9 (kR κ x g f) (f9p κ d x)) σ' τ' := by
  have p0 : ∀ e, k9 (kR κ x g f) (f9p κ d x) 9 0 e = if e = d then 1 else κ 9 0 e := fun e => rfl
  have p1 : ∀ e, k9 (kR κ x g f) (f9p κ d x) 9 1 e = if e = d then J x else κ 9 1 e := fun e => rfl
  have nx : N (J x) = x := J_nat (by omega)
  have r22 : ∀ y, y ≠ x → k9 (kR κ x g f) (f9p κ d x) 22 y = κ 22 y := fun y hy => by rw [k9_n (by decide), kR_n (by omega) (by omega)]
  have r23 : ∀ y, y ≠ x → k9 (kR κ x g f) (f9p κ d x) 23 y = κ 23 y := fun y hy => by rw [k9_n (by decide), kR_n (by omega) (by omega)]
  refine ⟨fun e he => ?_, fun e e' he he' hne h1 h2 => ?_⟩
  · by_cases hed : e = d
    · rw [hed]; exact new
    · have s := S.1 e he
      unfold SHd at s ⊢
      rw [p0, p1, if_neg hed, if_neg hed]
      rcases s with ⟨a, b⟩ | ⟨a, b⟩
      · exact Or.inl ⟨a, by rw [hs 46 e (by omega) (by omega) hed]; exact b⟩
      · have hy := lts e a
        refine Or.inr ⟨a, ?_⟩
        generalize N (κ 9 1 e) = y at b hy
        unfold shW shP shS shL at b ⊢
        rw [hs 46 e (by omega) (by omega) hed, hs 47 e (by omega) (by omega) hed, hs 48 e (by omega) (by omega) hed, hs 49 e (by omega) (by omega) hed, r22 y (by omega), r23 y (by omega), hl y (by omega)]
        rcases b with b | b | ⟨b1, b2, b3, b4, b5⟩ | ⟨b1, b2, b3, b4, b5⟩
        · exact Or.inl b
        · exact Or.inr (Or.inl b)
        · refine Or.inr (Or.inr (Or.inl ⟨b1, b2, b3, b4, fun i hi => ?_⟩))
          have := b4.2
          rw [ht e i hed (by omega)]
          exact b5 i hi
        · refine Or.inr (Or.inr (Or.inr ⟨b1, b2, b3, b4, fun i hi => ?_⟩))
          have := b4.2
          rw [ht e i hed (by omega)]
          exact b5 i hi
  · rw [p0] at h1 h2
    rw [p1, p1]
    by_cases a : e = d
    · have b : ¬ (e' = d) := fun t => hne (a.trans t.symm)
      rw [if_neg b] at h2
      rw [if_pos a, if_neg b, nx]
      have := lts e' h2
      omega
    · rw [if_neg a] at h1
      by_cases b : e' = d
      · rw [if_neg a, if_pos b, nx]
        have := lts e h1
        omega
      · rw [if_neg b] at h2
        rw [if_neg a, if_neg b]
        exact S.2 e e' he he' hne h1 h2
/-- zeros in the reference's row -/
def zer (d i : Nat) (τ : mL) : mL := sl τ 50 (60 * d + i) 0
theorem zer_is (d m : Nat) (τ : mL) : (∀ i, i < m → it (zer d) 0 m τ 50 (60 * d + i) = 0) ∧ ∀ a b, ¬ (a = 50 ∧ 60 * d ≤ b ∧ b < 60 * d + m) → it (zer d) 0 m τ a b = τ a b := by
  have r := it_inv (zer d) (fun k T => (∀ i, i < k → T 50 (60 * d + i) = 0) ∧ ∀ a b, ¬ (a = 50 ∧ 60 * d ≤ b ∧ b < 60 * d + k) → T a b = τ a b) m (fun k T hk hT => by
    unfold zer
    refine ⟨fun i hi => ?_, fun a b hab => ?_⟩
    · unfold sl
      by_cases e : i = k
      · rw [if_pos ⟨rfl, by rw [e]⟩]
      · rw [if_neg (by omega)]
        exact hT.1 i (by omega)
    · unfold sl
      rw [if_neg (fun t => hab ⟨t.1, by omega, by omega⟩)]
      exact hT.2 a b (fun t => hab ⟨t.1, t.2.1, by omega⟩)) m 0 τ (by omega) ⟨fun i hi => absurd hi (Nat.not_lt_zero _), fun a b _ => rfl⟩
  exact r
theorem make_58 {s : mS} {d m : Nat} (hd : d < 8) (hm : m ≤ 60) {k : Int32} : Ev (fun n => Mo_make_f n 58 (J d) k (J m) (J 0) s τ) (0, s, it (zer d) 0 m τ) := by
  refine Ev.up (f := fun n i T => Mo_make_f n 58 (J d) k (J m) (J i) s T) m (zer d) (fun _ _ => True) (fun _ _ _ _ => trivial) (fun i T hi _ ee => ?_) m 0 τ (by omega) trivial ?_
  · refine Ev.succ (fun n => Mo_make_e58 n _ _ _ _ _ _) ?_
    unfold Mo_make_t58
    have ix : (60 : Int32) * J d + J i = J (60 * d + i) := by rw [show (60 : Int32) = J 60 from rfl, J_mul, J_add]
    rw [ix]
    refine Ev.neg (by rw [J_le (by omega) (by omega)]; omega) (Ev.pos (xin_J (by omega) (by decide)) (Ev.bn ?_))
    rw [show Int32.toNatClampNeg (J (60 * d + i)) = 60 * d + i from J_nat (by omega), show J i + 1 = J (i + 1) from J_add i 1]
    exact ee
  · refine Ev.succ (fun n => Mo_make_e58 n _ _ _ _ _ _) ?_
    unfold Mo_make_t58
    exact Ev.pos (by rw [J_le (by omega) (by omega)]; omega) Ev.ret
end SH6

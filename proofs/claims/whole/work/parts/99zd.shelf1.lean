/-! shelves: what lies there, class and reference; weight, toss, element, bound, handBound -/
def shW (κ : kS) (σ : mS) (d x : Nat) : Prop := σ 46 d = 1 ∧ κ 22 x 8 = 1 ∧ σ 48 d = (if κ 22 x 2 = 0 then 10 + κ 22 x 6 else if κ 22 x 2 ≤ 0 then 2 * ((10 + κ 22 x 6) + 100) else (10 + κ 22 x 6) + 100) ∧ σ 49 d = (if 0 ≤ κ 22 x 2 then κ 22 x 2 else -(κ 22 x 2))
def shP (κ : kS) (σ : mS) (d x : Nat) : Prop := σ 46 d = 2 ∧ κ 22 x 8 = 2 ∧ σ 48 d = 3 + κ 22 x 2
def shS (κ : kS) (σ : mS) (τ : mL) (d x : Nat) : Prop := σ 46 d = 3 ∧ κ 22 x 8 = 3 ∧ κ 22 x 0 = σ 47 d ∧ sml (σ 47 d) 60 ∧ ∀ i, i < N (σ 47 d) → Int32.toInt64 (κ 23 x i) = τ 50 (60 * d + i) ∧ 0 ≤ (κ 23 x i).toInt ∧ (κ 23 x i).toInt ≤ 5
def shL (D : kD) (κ : kS) (σ : mS) (τ : mL) (d x : Nat) : Prop := σ 46 d = 4 ∧ κ 22 x 8 = 4 ∧ κ 22 x 0 = σ 47 d ∧ sml (σ 47 d) 60 ∧ ∀ i, i < N (σ 47 d) → D.2.2.2 x i = τ 50 (60 * d + i)
def SHd (D : kD) (κ : kS) (σ : mS) (τ : mL) (d : Nat) : Prop := (κ 9 0 d = 0 ∧ σ 46 d = 0) ∨ (κ 9 0 d ≠ 0 ∧ (shW κ σ d (N (κ 9 1 d)) ∨ shP κ σ d (N (κ 9 1 d)) ∨ shS κ σ τ d (N (κ 9 1 d)) ∨ shL D κ σ τ d (N (κ 9 1 d))))
def SH (D : kD) (κ : kS) (σ : mS) (τ : mL) : Prop := (∀ d, d < 8 → SHd D κ σ τ d) ∧ ∀ d e, d < 8 → e < 8 → d ≠ e → κ 9 0 d ≠ 0 → κ 9 0 e ≠ 0 → N (κ 9 1 d) ≠ N (κ 9 1 e)
theorem isSh (n : Nat) (x : Int32) (h : xH) : Ti_isShelf_f n x h = some ((if 0 ≤ x.toInt ∧ x.toInt ≤ 7 then 1 else 0), h) := by
  have z : (0 : Int32).toInt = 0 := by decide
  have f : (8 : Int32).toInt = 8 := by decide
  unfold Ti_isShelf_f
  by_cases g : 0 ≤ x.toInt ∧ x.toInt ≤ 7
  · rw [if_pos g, if_neg (by rw [i32_lt]; omega), if_neg (by rw [i32_le]; omega)]
  · rw [if_neg g]
    by_cases q : x < 0
    · rw [if_pos q]
    · rw [if_neg q, if_pos]
      rw [i32_lt] at q
      rw [i32_le]
      omega
theorem moSh (x : Int32) : Mo_isShelf_f x = if 0 ≤ x.toInt ∧ x.toInt ≤ 7 then 1 else 0 := by
  have z : (0 : Int32).toInt = 0 := by decide
  have f : (8 : Int32).toInt = 8 := by decide
  unfold Mo_isShelf_f
  by_cases g : 0 ≤ x.toInt ∧ x.toInt ≤ 7
  · rw [if_pos g, if_neg (by rw [i32_lt]; omega), if_neg (by rw [i32_le]; omega)]
  · rw [if_neg g]
    by_cases q : x < 0
    · rw [if_pos q]
    · rw [if_neg q, if_pos]
      rw [i32_lt] at q
      rw [i32_le]
      omega
theorem sh_or (x : Int32) : (∃ d, d < 8 ∧ x = J d ∧ (∀ n h, Ti_isShelf_f n x h = some (1, h)) ∧ Mo_isShelf_f x = 1) ∨ ((∀ n h, Ti_isShelf_f n x h = some (0, h)) ∧ Mo_isShelf_f x = 0) := by
  by_cases g : 0 ≤ x.toInt ∧ x.toInt ≤ 7
  · exact Or.inl ⟨x.toInt.toNat, by omega, J_ti g.1, fun n h => by rw [isSh, if_pos g], by rw [moSh, if_pos g]⟩
  · exact Or.inr ⟨fun n h => by rw [isSh, if_neg g], by rw [moSh, if_neg g]⟩
section SH1
variable {D : kD} {κ : kS} {σ : mS} {τ : mL} {x : Nat}
theorem rq9 (h : kI D 9 0) {d : Nat} (hd : d < 8) : aq (rn D κ) (D.1 9 0) 8 (J d) = some (if κ 9 0 d = 0 then none else some (D.1 22 (N (κ 9 1 d)))) := rn_aq h rfl hd (by decide)
theorem kcl22 {i : Nat} : kcl D κ 22 i = some (heA D.1 κ i) := rfl
theorem kcl23 {i : Nat} : kcl D κ 23 i = some (heB κ D.2.2.2 i) := rfl
theorem h22W (h : kI D 22 x) (e : κ 22 x 8 = 1) : rn D κ (D.1 22 x) = some (.inr (7, [.int (κ 22 x 0), .int (κ 22 x 1), .int (κ 22 x 2), .int (κ 22 x 3), .ref (D.1 23 x), .ref (D.1 24 x), .int (κ 22 x 6)])) := by
  rw [rn_at h, kcl22]
  unfold heA
  rw [if_pos e]
theorem h22P (h : kI D 22 x) (e : κ 22 x 8 = 2) : rn D κ (D.1 22 x) = some (.inr (6, [.ref (D.1 23 x), .ref (D.1 24 x), .int (κ 22 x 2)])) := by
  rw [rn_at h, kcl22]
  unfold heA
  rw [if_neg (by rw [e]; decide), if_pos e]
theorem h22S (h : kI D 22 x) (e : κ 22 x 8 = 3) : rn D κ (D.1 22 x) = some (.inr (8, [.ref (D.1 23 x)])) := by
  rw [rn_at h, kcl22]
  unfold heA
  rw [if_neg (by rw [e]; decide), if_neg (by rw [e]; decide), if_pos e]
theorem h22L (h : kI D 22 x) (e : κ 22 x 8 = 4) : rn D κ (D.1 22 x) = some (.inr (9, [.ref (D.1 23 x)])) := by
  rw [rn_at h, kcl22]
  unfold heA
  rw [if_neg (by rw [e]; decide), if_neg (by rw [e]; decide), if_neg (by rw [e]; decide)]
theorem h23S (h : kI D 23 x) (e : κ 22 x 8 = 3) : rn D κ (D.1 23 x) = some (.inl (3, N (κ 22 x 0), .inl (κ 23 x))) := by
  rw [rn_at h, kcl23]
  unfold heB
  rw [if_neg (by rw [e]; decide), if_neg (by rw [e]; decide), if_pos e]
theorem h23L (h : kI D 23 x) (e : κ 22 x 8 = 4) : rn D κ (D.1 23 x) = some (.inl (1, N (κ 22 x 0), .inr (.inl (D.2.2.2 x)))) := by
  rw [rn_at h, kcl23]
  unfold heB
  rw [if_neg (by rw [e]; decide), if_neg (by rw [e]; decide), if_neg (by rw [e]; decide)]
/-- the class number of what lies there -/
theorem kc_of {h : xH} {a c c' : Nat} {fs : List Value} (e : h a = some (.inr (c, fs))) : kc h a c' = decide (c = c') := by
  unfold kc
  rw [e]
theorem gi_of {h : xH} {a c k : Nat} {fs : List Value} {v : Int32} (e : h a = some (.inr (c, fs))) (hv : fs[k]? = some (.int v)) : gi h a c k = some v := by
  unfold gi
  rw [e]
  dsimp only
  rw [if_pos rfl, hv]
theorem gq_of {h : xH} {a c k b : Nat} {fs : List Value} (e : h a = some (.inr (c, fs))) (hv : fs[k]? = some (.ref b)) : gq h a c k = some (some b) := by
  unfold gq
  rw [e]
  dsimp only
  rw [if_pos rfl, hv]
  rfl
theorem al_of {h : xH} {a c : Nat} {v : vp_A} (e : h a = some (.inl (c, v))) : al h a c = some (J v.1) := by
  unfold al
  rw [e]
  dsimp only
  rw [if_pos rfl]
  rfl
/-- both sides of a reading call that may throw -/
def RTh (T : Type) (D : kD) (κ : kS) (σ : mS) (τ : mL) (f : Nat → Option (T × Nat × xH)) (g : Nat → Option (T × mS × mL)) : Prop := ∃ v cd b, Ev f (v, cd, rn D κ) ∧ Ev g (b, su σ 0 0 (J cd), τ) ∧ cd ≤ 2 ∧ (cd = 0 → v = b)
theorem weight_ro (h : YW D κ σ) (S : SH D κ σ τ) (y : Int32) : RO D κ σ τ (fun n => Ti_weight_f n (D.1 0 0) y (rn D κ)) (fun n => Mo_weight_f n y σ τ) := by
  have k0 := h.1.2.1 0 (by decide) (by decide) (by decide)
  have k9 := h.1.2.1 9 (by decide) (by decide) (by decide)
  rcases sh_or y with ⟨d, hd, rfl, e1, e2⟩ | ⟨e1, e2⟩
  · have nd : Int32.toNatClampNeg (J d) = d := J_nat (by omega)
    have xd : xin (J d) 8 = true := xin_J hd (by decide)
    have s46 : su σ 0 0 0 46 d = σ 46 d := su_n (by decide)
    have s48 : su σ 0 0 0 48 d = σ 48 d := su_n (by decide)
    have pre : ∀ {R} {w9 : Option Nat}, w9 = (if κ 9 0 d = 0 then none else some (D.1 22 (N (κ 9 1 d)))) → Ev (fun n => oel (w9) (some (((-11) : Int32), rn D κ)) (fun a16 => (if kc (rn D κ) (a16) 6 = true then obd (Pl_heft_f n (a16) (rn D κ)) (fun r19 => some (r19.1, r19.2)) else (if kc (rn D κ) (a16) 7 = true then obd (Wa_heft_f n (a16) (rn D κ)) (fun r23 => some (r23.1, r23.2)) else (if kc (rn D κ) (a16) 8 = true then obd (Ro_heft_f n (a16) (rn D κ)) (fun r27 => some (r27.1, r27.2)) else (if kc (rn D κ) (a16) 9 = true then obd (Ro_heft_f n (a16) (rn D κ)) (fun r31 => some (r31.1, r31.2)) else none)))))) R → Ev (fun n => Ti_weight_f n (D.1 0 0) (J d) (rn D κ)) R := fun {R w9} ew e => by
      unfold Ti_weight_f
      subst ew
      exact Ev.ob ⟨0, fun n _ => e1 n _⟩ (Ev.neg i10 (Ev.ob (Ev.cn (a := some (D.1 9 0)) (by simp only [rd0 k0])) (Ev.obs (Ev.ob (Ev.cn (rq9 k9 hd)) e))))
    have preR : ∀ {R}, Ev (fun n : Nat => if σ 46 d = 0 then some ((-11 : Int32), su σ 0 0 0, τ) else if σ 46 d ≤ 2 then some (σ 48 d, su σ 0 0 0, τ) else some (-12, su σ 0 0 0, τ)) R → Ev (fun n => Mo_weight_f n (J d) σ τ) R := fun {R} e => by
      unfold Mo_weight_f
      simp only [bnd, nd, xd, if_true, s46, s48, e2]
      exact Ev.neg (by decide) e
    rcases S.1 d hd with ⟨a, b⟩ | ⟨a, b⟩
    · exact ⟨-11, pre (if_pos a).symm (Ev.oeN Ev.ret), preR (Ev.pos b Ev.ret)⟩
    · obtain ⟨k22, k23, -⟩ := h.1.2.2.2.2.2 d hd a
      generalize N (κ 9 1 d) = x at b k22 k23 pre
      rcases b with ⟨b1, b2, b3, b4⟩ | ⟨b1, b2, b3⟩ | ⟨b1, b2, -⟩ | ⟨b1, b2, -⟩
      · have hc := h22W (κ := κ) k22 b2
        refine ⟨σ 48 d, pre (if_neg a).symm (Ev.oeS (Ev.neg (by rw [kc_of hc]; decide) (Ev.pos (by rw [kc_of hc]; decide) ?_))), preR (Ev.neg (by rw [b1]; decide) (Ev.pos (by rw [b1]; decide) Ev.ret))⟩
        have e : ∀ n, Wa_heft_f n (D.1 22 x) (rn D κ) = some (σ 48 d, rn D κ) := fun n => by
          unfold Wa_heft_f
          rw [gi_of (k := 6) (v := κ 22 x 6) hc rfl, gi_of (k := 2) (v := κ 22 x 2) hc rfl, b3]
          simp only [obd]
          by_cases g : κ 22 x 2 = 0
          · rw [if_pos g, if_pos g]
          · rw [if_neg g, if_neg g]
            by_cases g2 : κ 22 x 2 ≤ 0
            · rw [if_pos g2, if_pos g2]
            · rw [if_neg g2, if_neg g2]
        exact Ev.ob ⟨0, fun n _ => e n⟩ Ev.ret
      · have hc := h22P (κ := κ) k22 b2
        refine ⟨σ 48 d, pre (if_neg a).symm (Ev.oeS (Ev.pos (by rw [kc_of hc]; decide) ?_)), preR (Ev.neg (by rw [b1]; decide) (Ev.pos (by rw [b1]; decide) Ev.ret))⟩
        have e : ∀ n, Pl_heft_f n (D.1 22 x) (rn D κ) = some (σ 48 d, rn D κ) := fun n => by
          unfold Pl_heft_f
          rw [gi_of (k := 2) (v := κ 22 x 2) hc rfl, b3]
          rfl
        exact Ev.ob ⟨0, fun n _ => e n⟩ Ev.ret
      · have hc := h22S (κ := κ) k22 b2
        exact ⟨-12, pre (if_neg a).symm (Ev.oeS (Ev.neg (by rw [kc_of hc]; decide) (Ev.neg (by rw [kc_of hc]; decide) (Ev.pos (by rw [kc_of hc]; decide) (Ev.ob (Ev.cn (a := ((-12 : Int32), rn D κ)) rfl) Ev.ret))))), preR (Ev.neg (by rw [b1]; decide) (Ev.neg (by rw [b1]; decide) Ev.ret))⟩
      · have hc := h22L (κ := κ) k22 b2
        exact ⟨-12, pre (if_neg a).symm (Ev.oeS (Ev.neg (by rw [kc_of hc]; decide) (Ev.neg (by rw [kc_of hc]; decide) (Ev.neg (by rw [kc_of hc]; decide) (Ev.pos (by rw [kc_of hc]; decide) (Ev.ob (Ev.cn (a := ((-12 : Int32), rn D κ)) rfl) Ev.ret)))))), preR (Ev.neg (by rw [b1]; decide) (Ev.neg (by rw [b1]; decide) Ev.ret))⟩
  · refine ⟨-1, ?_, ?_⟩
    · unfold Ti_weight_f
      exact Ev.ob ⟨0, fun n _ => e1 n _⟩ (Ev.pos rfl Ev.ret)
    · unfold Mo_weight_f
      simp only [bnd]
      exact Ev.pos e2 Ev.ret
end SH1

/-! make, class and reference -/
def gRw (kd : Int32) (k : Nat) : Nat → Int32 := fun i => if i = 8 then kd else if i = 0 then J k else 0
section SH7
variable {D : kD} {κ : kS} {σ : mS} {τ : mL} {z : Nat}
theorem sh9 (h : YW D κ σ) (hF : FZ D κ z) : D.1 9 0 < z ∧ rn D κ (D.1 9 0) = some (rfA 8 8 (fun e => if κ 9 0 e = 0 then none else some (D.1 22 (N (κ 9 1 e))))) := by
  have k9i := h.1.2.1 9 (by decide) (by decide) (by decide)
  refine ⟨?_, rn_at k9i⟩
  rcases Nat.lt_or_ge (D.1 9 0) z with t | t
  · exact t
  · have e := hF.1 _ t
    unfold kI at k9i
    rw [e] at k9i
    cases k9i
/-- the object of a row gets its array -/
theorem row_obj {H : xH} {a b c : Nat} {eA : xE} (hab : a ≠ b) : pf (xup (xup H a (.inr (c, [.null]))) b eA) a c 0 (.ref b) = some (xup (xup H b eA) a (.inr (c, [.ref b]))) := by
  rw [pf_of (fs := [.null]) (by rw [xup_ne hab, xup_eq]) (by show 0 < 1; decide)]
  congr 1
  rw [xup_comm _ _ _ hab, xup_xup]
  rfl
theorem make_fin (h : YW D κ σ) (hF : FZ D κ z) (S : SH D κ σ τ) (hn : N (κ 9 2 0) < 100000) {kd : Int32} (hkd : kd = 3 ∨ kd = 4) {k d : Nat} (hk : k ≤ 60) (hd : d < 8) {f : Nat → Option (Int32 × xH × Nat × Nat)} {g : Nat → Option (Int32 × mS × mL)} (ef : Ev f (0, xup (xup (xup (rn D κ) (z + 1) (if kd = 3 then .inl (3, k, .inl (fun _ => 0)) else .inl (1, k, .inr (.inl (fun _ => 0))))) z (if kd = 3 then (.inr (8, [.ref (z + 1)]) : xE) else .inr (9, [.ref (z + 1)]))) (D.1 9 0) (rfA 8 8 (va_up (fun e => if κ 9 0 e = 0 then none else some (D.1 22 (N (κ 9 1 e)))) d (some z))), 2, k + 1)) (eg : Ev g (0, su (su (su σ 0 0 0) 46 d kd) 47 d (J k), it (zer d) 0 k τ)) : SCo D κ σ τ z f g := by
  obtain ⟨x, hx⟩ : ∃ x, N (κ 9 2 0) = x := ⟨_, rfl⟩
  have nk : N (J k) = k := J_nat (by omega)
  have nx : N (J x) = x := J_nat (by omega)
  have nx1 : N (J (x + 1)) = x + 1 := J_nat (by omega)
  have g8 : gRw kd k 8 = kd := rfl
  have g0 : gRw kd k 0 = J k := rfl
  have r22 : kR κ x (gRw kd k) (fun _ => 0) 22 x = gRw kd k := by
    unfold kR
    rw [kf_k (by decide), kf_e]
  have r23 : kR κ x (gRw kd k) (fun _ => 0) 23 x = fun _ => 0 := by
    unfold kR
    rw [kf_e]
  have hA : heB (kR κ x (gRw kd k) (fun _ => 0)) (dL D x (fun _ => 0)).2.2.2 x = (if kd = 3 then .inl (3, k, .inl (fun _ => 0)) else .inl (1, k, .inr (.inl (fun _ => 0)))) := by
    have l0 : (dL D x (fun _ => 0)).2.2.2 x = fun _ => 0 := if_pos rfl
    unfold heB
    rw [r22, r23, g8, g0, nk, l0]
    rcases hkd with e | e <;> subst e <;> rfl
  obtain ⟨D', e1, yw, fz, dk, hl⟩ := hold_row (σ := σ) h hF hx (by omega) (Or.inr ⟨rfl, rfl⟩) hd (g := gRw kd k) (f := fun _ => 0) (l := fun _ => 0) (by rw [g8]; rcases hkd with e | e <;> subst e <;> decide) hA (eO := (if kd = 3 then (.inr (8, [.ref (z + 1)]) : xE) else .inr (9, [.ref (z + 1)]))) (by rw [g8])
  rw [e1] at ef
  have lts : ∀ e, κ 9 0 e ≠ 0 → N (κ 9 1 e) < x := fun e he => by have := hF.2.2 e he; omega
  obtain ⟨t1, t2⟩ := zer_is d k τ
  have s46 : su (su (su σ 0 0 0) 46 d kd) 47 d (J k) 46 d = kd := by rw [su_n (by decide), su_e]
  have s47 : su (su (su σ 0 0 0) 46 d kd) 47 d (J k) 47 d = J k := su_e _ _ _ _
  have yq' : yq (su (su (su σ 0 0 0) 46 d kd) 47 d (J k)) σ := fun a b h1 h2 => by rw [su_n (by omega), su_n (by omega), su_n (by omega)]
  have q22 : k9 (kR κ x (gRw kd k) (fun _ => 0)) (f9p κ d x) 22 x = gRw kd k := by rw [k9_n (by decide), r22]
  have q23 : k9 (kR κ x (gRw kd k) (fun _ => 0)) (f9p κ d x) 23 x = fun _ => 0 := by rw [k9_n (by decide), r23]
  have q0 : k9 (kR κ x (gRw kd k) (fun _ => 0)) (f9p κ d x) 9 0 d = 1 := if_pos rfl
  have q1 : k9 (kR κ x (gRw kd k) (fun _ => 0)) (f9p κ d x) 9 1 d = J x := if_pos rfl
  refine ⟨0, D', _, _, _, 2, k + 1, ef, eg, dk, YW_sst yw yq', fz, ?_, fun a b h9 h22 => ?_, fun s b h0 h46 => ?_, by omega, by omega, ?_⟩
  · refine SH_put S lts (by omega) (fun y hy => by rw [hl y, if_neg hy]) (fun s e h1 h2 hed => ?_) (fun e i hed hi => t2 _ _ (by omega)) ?_
    · have c : ∀ (s2 : Nat) (v : Int32) (ρ : mS), su ρ s2 d v s e = ρ s e := fun s2 v ρ => by
        unfold su
        exact if_neg (fun t => hed t.2)
      rw [c, c, su_n (by omega)]
    · unfold SHd
      rw [q0, q1, nx]
      refine Or.inr ⟨by decide, Or.inr (Or.inr ?_)⟩
      rcases hkd with e | e
      · subst e
        refine Or.inl ⟨s46, by rw [q22]; rfl, by rw [q22, s47]; rfl, by rw [s47]; exact ⟨by rw [nk], by rw [nk]; exact hk⟩, fun i hi => ?_⟩
        rw [s47, nk] at hi
        rw [q23, t1 i hi]
        show (0 : Int32).toInt64 = 0 ∧ 0 ≤ (0 : Int32).toInt ∧ (0 : Int32).toInt ≤ 5
        decide
      · subst e
        refine Or.inr ⟨s46, by rw [q22]; rfl, by rw [q22, s47]; rfl, by rw [s47]; exact ⟨by rw [nk], by rw [nk]; exact hk⟩, fun i hi => ?_⟩
        rw [s47, nk] at hi
        rw [hl x, if_pos rfl, t1 i hi]
  · rw [k9_n h9, kR_n (by omega) (by omega)]
  · rw [su_n (by omega), su_n (by omega), su_n h0]
  · have e2 : k9 (kR κ x (gRw kd k) (fun _ => 0)) (f9p κ d x) 9 2 0 = J (x + 1) := rfl
    rw [e2, nx1, hx]
    omega
theorem make_s (h : YW D κ σ) (hF : FZ D κ z) (S : SH D κ σ τ) (hn : N (κ 9 2 0) < 100000) (y w m : Int32) : SCo D κ σ τ z (fun n => Ti_make_f n (D.1 0 0) y w m (rn D κ) z) (fun n => Mo_make_f n 0 y w m 0 σ τ) := by
  have k0 := h.1.2.1 0 (by decide) (by decide) (by decide)
  have b2 := fun n => isB n w 3 4 (rn D κ)
  have i2 := isN w 3 4 (u := 3) (v := 4) (by decide) (by decide)
  have z3 : (3 : Int32).toInt = 3 := by decide
  have z4 : (4 : Int32).toInt = 4 := by decide
  have z0 : (0 : Int32).toInt = 0 := by decide
  have z6 : (60 : Int32).toInt = 60 := by decide
  rw [z3, z4] at b2
  have preR : ∀ R, Ev (fun n => Mo_make_t0 (Mo_make_f n) n y w m 0 σ τ) R → Ev (fun n => Mo_make_f n 0 y w m 0 σ τ) R := fun R e => Ev.succ (fun n => Mo_make_e0 n _ _ _ _ _ _) e
  rcases sh_or y with ⟨d, hd, rfl, e1, e2⟩ | ⟨e1, e2⟩
  · have nd : Int32.toNatClampNeg (J d) = d := J_nat (by omega)
    have xd : xin (J d) 8 = true := xin_J hd (by decide)
    have n2 : ¬ (Mo_isShelf_f (J d) = 0) := by rw [e2]; decide
    by_cases hw : 3 ≤ w.toInt ∧ w.toInt ≤ 4
    · rw [if_pos hw] at b2 i2
      have n3 : ¬ (Mo_isIn_f (Int32.toInt64 w) 3 4 = 0) := by rw [i2]; decide
      by_cases h6 : m ≤ 60
      · by_cases h0 : 0 ≤ m
        · have hk : m.toInt.toNat ≤ 60 := by rw [i32_le] at h6 h0; omega
          have em := J_ti (show 0 ≤ m.toInt by rw [i32_le] at h0; omega)
          generalize m.toInt.toNat = k at em hk
          subst em
          have nk : Int32.toNatClampNeg (J k) = k := J_nat (by omega)
          have hnb : nb (J k) = true := by
            unfold nb
            rw [nk]
            have : ¬ (J k < 0) := J_nneg (by omega)
            simp only [this, decide_false, Bool.not_false, Bool.true_and, decide_eq_true_eq]
            omega
          obtain ⟨l9, c9⟩ := sh9 h hF
          have hkd : w = 3 ∨ w = 4 := by
            have : w.toInt = 3 ∨ w.toInt = 4 := by omega
            rcases this with t | t
            · exact Or.inl (i32_eq.mpr (by rw [t, z3]))
            · exact Or.inr (i32_eq.mpr (by rw [t, z4]))
          refine make_fin h hF S hn hkd hk hd ?_ (preR _ ?_)
          · have cc : ∀ (eA eO : xE), (xup (xup (rn D κ) (z + 1) eA) z eO) (D.1 9 0) = some (rfA 8 8 (fun e => if κ 9 0 e = 0 then none else some (D.1 22 (N (κ 9 1 e))))) := fun eA eO => by rw [xup_ne (by omega), xup_ne (by omega), c9]
            unfold Ti_make_f
            refine Ev.ob ⟨0, fun n _ => e1 n _⟩ (Ev.neg i10 (Ev.ob ⟨0, fun n _ => b2 n⟩ (Ev.neg i10 (Ev.pos h6 (Ev.pos h0 ?_)))))
            rcases hkd with e | e
            · subst e
              refine Ev.pos rfl (Ev.ob (Ev.cn (a := some (D.1 9 0)) (by simp only [rd0 k0])) ?_)
              have inner : Ev (fun n => (if nb (J k) = true then oadd 1 (Int32.toNatClampNeg (J k)) (bnd (xup (xup (rn D κ) z (.inr (8, [.null]))) (z + 1) (.inl (3, (Int32.toNatClampNeg (J k)), .inl (fun _ => 0)))) (fun h43 => obd (Sr_init_f n z (some (z + 1)) h43) (fun r47 => obd (some (D.1 9 0)) (fun a48 => obd (pq r47.2 (a48) 8 (J d) z 8) (fun h49 => some ((0 : Int32), h49, 0, 0)))))) else none)) ((0 : Int32), xup (xup (xup (rn D κ) (z + 1) (.inl (3, k, .inl (fun _ => 0)))) z (.inr (8, [.ref (z + 1)]))) (D.1 9 0) (rfA 8 8 (va_up (fun e => if κ 9 0 e = 0 then none else some (D.1 22 (N (κ 9 1 e)))) d (some z))), 1, k) := by
                rw [nk]
                refine Ev.pos hnb (Ev.oa0 (Ev.bn (Ev.ob (a := ((0 : Int32), xup (xup (rn D κ) (z + 1) (.inl (3, k, .inl (fun _ => 0)))) z (.inr (8, [.ref (z + 1)])))) ⟨0, fun n _ => ?_⟩ (Ev.obs (Ev.ob (Ev.cn (pq_of (cc _ _) hd (by decide) (by rw [kc_of xup_eq]; decide))) Ev.ret)))))
                unfold Sr_init_f Ro_init_f He_init_f
                simp only [obd]
                rw [show va_rf (some (z + 1)) = .ref (z + 1) from rfl, row_obj (by omega)]
              have r := Ev.oad (a := 1) (b := 1) inner
              exact r
            · subst e
              refine Ev.neg (by decide) (Ev.ob (Ev.cn (a := some (D.1 9 0)) (by simp only [rd0 k0])) ?_)
              have inner : Ev (fun n => (if nb (J k) = true then oadd 1 (Int32.toNatClampNeg (J k)) (bnd (xup (xup (rn D κ) z (.inr (9, [.null]))) (z + 1) (.inl (1, (Int32.toNatClampNeg (J k)), .inr (.inl (fun _ => 0))))) (fun h43 => obd (Lr_init_f n z (some (z + 1)) h43) (fun r47 => obd (some (D.1 9 0)) (fun a48 => obd (pq r47.2 (a48) 8 (J d) z 9) (fun h49 => some ((0 : Int32), h49, 0, 0)))))) else none)) ((0 : Int32), xup (xup (xup (rn D κ) (z + 1) (.inl (1, k, .inr (.inl (fun _ => 0))))) z (.inr (9, [.ref (z + 1)]))) (D.1 9 0) (rfA 8 8 (va_up (fun e => if κ 9 0 e = 0 then none else some (D.1 22 (N (κ 9 1 e)))) d (some z))), 1, k) := by
                rw [nk]
                refine Ev.pos hnb (Ev.oa0 (Ev.bn (Ev.ob (a := ((0 : Int32), xup (xup (rn D κ) (z + 1) (.inl (1, k, .inr (.inl (fun _ => 0))))) z (.inr (9, [.ref (z + 1)])))) ⟨0, fun n _ => ?_⟩ (Ev.obs (Ev.ob (Ev.cn (pq_of (cc _ _) hd (by decide) (by rw [kc_of xup_eq]; decide))) Ev.ret)))))
                unfold Lr_init_f Ro_init_f He_init_f
                simp only [obd]
                rw [show va_rf (some (z + 1)) = .ref (z + 1) from rfl, row_obj (by omega)]
              have r := Ev.oad (a := 1) (b := 1) inner
              exact r
          · unfold Mo_make_t0
            simp only [bnd, nd, xd, if_true]
            exact Ev.neg n2 (Ev.neg n3 (Ev.pos h6 (Ev.pos h0 (make_58 hd hk))))
        · refine SCo_no h hF S (r := -14) ?_ (preR _ ?_)
          · unfold Ti_make_f
            exact Ev.ob ⟨0, fun n _ => e1 n _⟩ (Ev.neg i10 (Ev.ob ⟨0, fun n _ => b2 n⟩ (Ev.neg i10 (Ev.pos h6 (Ev.neg h0 Ev.ret)))))
          · unfold Mo_make_t0
            simp only [bnd, nd, xd, if_true]
            exact Ev.neg n2 (Ev.neg n3 (Ev.pos h6 (Ev.neg h0 Ev.ret)))
      · refine SCo_no h hF S (r := -1) ?_ (preR _ ?_)
        · unfold Ti_make_f
          exact Ev.ob ⟨0, fun n _ => e1 n _⟩ (Ev.neg i10 (Ev.ob ⟨0, fun n _ => b2 n⟩ (Ev.neg i10 (Ev.neg h6 Ev.ret))))
        · unfold Mo_make_t0
          simp only [bnd, nd, xd, if_true]
          exact Ev.neg n2 (Ev.neg n3 (Ev.neg h6 Ev.ret))
    · rw [if_neg hw] at b2 i2
      refine SCo_no h hF S (r := -1) ?_ (preR _ ?_)
      · unfold Ti_make_f
        exact Ev.ob ⟨0, fun n _ => e1 n _⟩ (Ev.neg i10 (Ev.ob ⟨0, fun n _ => b2 n⟩ (Ev.pos rfl Ev.ret)))
      · unfold Mo_make_t0
        simp only [bnd]
        exact Ev.neg n2 (Ev.pos i2 Ev.ret)
  · refine SCo_no h hF S (r := -1) ?_ (preR _ ?_)
    · unfold Ti_make_f
      exact Ev.ob ⟨0, fun n _ => e1 n _⟩ (Ev.pos rfl Ev.ret)
    · unfold Mo_make_t0
      simp only [bnd]
      exact Ev.pos e2 Ev.ret
end SH7

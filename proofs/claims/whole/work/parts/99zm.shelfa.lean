/-! copy, class and reference -/
section SHA
variable {D : kD} {κ : kS} {σ : mS} {τ : mL} {z : Nat}
theorem copy_s (h : YW D κ σ) (hF : FZ D κ z) (S : SH D κ σ τ) (p i q j m : Int32) : SCn D κ σ τ z (fun n => Ti_copy_f n (D.1 0 0) p i q j m (rn D κ)) (fun n => Mo_copy_f n 0 p i q j m 0 σ τ) := by
  have k0 := h.1.2.1 0 (by decide) (by decide) (by decide)
  have k9i := h.1.2.1 9 (by decide) (by decide) (by decide)
  have preR0 : ∀ R, Ev (fun n => Mo_copy_t0 (Mo_copy_f n) n p i q j m 0 σ τ) R → Ev (fun n => Mo_copy_f n 0 p i q j m 0 σ τ) R := fun R e => Ev.succ (fun n => Mo_copy_e0 n _ _ _ _ _ _ _ _) e
  rcases sh_or p with ⟨d, hd, rfl, e1, e2⟩ | ⟨e1, e2⟩
  · have n2 : ¬ (Mo_isShelf_f (J d) = 0) := by rw [e2]; decide
    rcases sh_or q with ⟨e, he, rfl, f1, f2⟩ | ⟨f1, f2⟩
    · have n3 : ¬ (Mo_isShelf_f (J e) = 0) := by rw [f2]; decide
      have nd : Int32.toNatClampNeg (J d) = d := J_nat (by omega)
      have xd : xin (J d) 8 = true := xin_J hd (by decide)
      have ne : Int32.toNatClampNeg (J e) = e := J_nat (by omega)
      have xe : xin (J e) 8 = true := xin_J he (by decide)
      have s46 : ∀ b, su σ 0 0 0 46 b = σ 46 b := fun b => su_n (by decide)
      have preR : ∀ {R}, Ev (fun n => if σ 46 d = 0 then some ((-11 : Int32), su σ 0 0 0, τ) else if σ 46 e = 0 then some (-11, su σ 0 0 0, τ) else if σ 46 d < 3 then some (-12, su σ 0 0 0, τ) else if σ 46 d = σ 46 e then obd (Mo_hasPlaces_f n (J d) i m (su σ 0 0 0) τ) (fun r13 => if r13.1 = 0 then some (-13, r13.2.1, r13.2.2) else obd (Mo_hasPlaces_f n (J e) j m r13.2.1 r13.2.2) (fun r15 => if r15.1 = 0 then some (-13, r15.2.1, r15.2.2) else Mo_copy_f n 99 (J d) i (J e) j m 0 r15.2.1 r15.2.2)) else some (-12, su σ 0 0 0, τ)) R → Ev (fun n => Mo_copy_f n 0 (J d) i (J e) j m 0 σ τ) R := fun {R} t => by
        refine preR0 _ ?_
        unfold Mo_copy_t0
        simp only [bnd, nd, xd, ne, xe, if_true, s46, n2, n3, if_false]
        exact t
      rcases S.1 d hd with ⟨a, b⟩ | ⟨a, b⟩
      · refine SCn_no h hF S (r := -11) ?_ (preR (Ev.pos b Ev.ret))
        unfold Ti_copy_f
        exact Ev.ob ⟨0, fun n _ => e1 n _⟩ (Ev.neg i10 (Ev.ob ⟨0, fun n _ => f1 n _⟩ (Ev.neg i10 (Ev.ob (Ev.cn (a := some (D.1 9 0)) (by simp only [rd0 k0])) (Ev.obs (Ev.ob (Ev.cn (a := none) (by rw [rq9 k9i hd, if_pos a])) (Ev.oeN Ev.ret)))))))
      · obtain ⟨kx, kx', -⟩ := h.1.2.2.2.2.2 d hd a
        have qd : aq (rn D κ) (D.1 9 0) 8 (J d) = some (some (D.1 22 (N (κ 9 1 d)))) := by rw [rq9 k9i hd, if_neg a]
        have nz : ∀ c : Nat, 1 ≤ c → c ≤ 4 → σ 46 d = J c → ¬ (σ 46 d = 0) := fun c h1 h2 t => by rw [t, show (0 : Int32) = J 0 from rfl, J_eq (by omega) (by omega)]; omega
        have d0 : ¬ (σ 46 d = 0) := by
          rcases b with b | b | b | b
          · exact nz 1 (by omega) (by omega) b.1
          · exact nz 2 (by omega) (by omega) b.1
          · exact nz 3 (by omega) (by omega) b.1
          · exact nz 4 (by omega) (by omega) b.1
        rcases S.1 e he with ⟨a', b'⟩ | ⟨a', b'⟩
        · refine SCn_no h hF S (r := -11) ?_ (preR (Ev.neg d0 (Ev.pos b' Ev.ret)))
          unfold Ti_copy_f
          exact Ev.ob ⟨0, fun n _ => e1 n _⟩ (Ev.neg i10 (Ev.ob ⟨0, fun n _ => f1 n _⟩ (Ev.neg i10 (Ev.ob (Ev.cn (a := some (D.1 9 0)) (by simp only [rd0 k0])) (Ev.obs (Ev.ob (Ev.cn qd) (Ev.oeS (Ev.ob (Ev.cn (a := some (D.1 9 0)) (by simp only [rd0 k0])) (Ev.obs (Ev.ob (Ev.cn (a := none) (by rw [rq9 k9i he, if_pos a'])) (Ev.oeN Ev.ret)))))))))))
        · obtain ⟨ky, ky', -⟩ := h.1.2.2.2.2.2 e he a'
          have qe : aq (rn D κ) (D.1 9 0) 8 (J e) = some (some (D.1 22 (N (κ 9 1 e)))) := by rw [rq9 k9i he, if_neg a']
          have e0 : ¬ (σ 46 e = 0) := by
            have nz' : ∀ c : Nat, 1 ≤ c → c ≤ 4 → σ 46 e = J c → ¬ (σ 46 e = 0) := fun c h1 h2 t => by rw [t, show (0 : Int32) = J 0 from rfl, J_eq (by omega) (by omega)]; omega
            rcases b' with b | b | b | b
            · exact nz' 1 (by omega) (by omega) b.1
            · exact nz' 2 (by omega) (by omega) b.1
            · exact nz' 3 (by omega) (by omega) b.1
            · exact nz' 4 (by omega) (by omega) b.1
          have upd := fun {D' : kD} {κ' : kS} {τ' : mL} h9 h22 ho ht new => SH_upd (D' := D') (κ' := κ') (σ' := su σ 0 0 0) (τ' := τ') S he a' h9 h22 ho (fun s b h1 _ => su_n (by omega)) ht new
          have qR' : ∀ {R}, σ 46 d = 3 ∨ σ 46 d = 4 → σ 46 d = σ 46 e → Ev (fun n => obd (Mo_hasPlaces_f n (J d) i m (su σ 0 0 0) τ) (fun r13 => if r13.1 = 0 then some ((-13 : Int32), r13.2.1, r13.2.2) else obd (Mo_hasPlaces_f n (J e) j m r13.2.1 r13.2.2) (fun r15 => if r15.1 = 0 then some (-13, r15.2.1, r15.2.2) else Mo_copy_f n 99 (J d) i (J e) j m 0 r15.2.1 r15.2.2))) R → Ev (fun n => Mo_copy_f n 0 (J d) i (J e) j m 0 σ τ) R := fun {R} t1 t2 t => preR (Ev.neg d0 (Ev.neg e0 (Ev.neg (by rcases t1 with u | u <;> (rw [u]; decide)) (Ev.pos t2 t))))
          have low : ∀ {R : Int32 × mS × mL}, σ 46 d = 1 ∨ σ 46 d = 2 → Ev (fun n => Mo_copy_f n 0 (J d) i (J e) j m 0 σ τ) (-12, su σ 0 0 0, τ) := fun {R} t => preR (Ev.neg d0 (Ev.neg e0 (Ev.pos (by rcases t with u | u <;> (rw [u]; decide)) Ev.ret)))
          have oth : ∀ {R : Int32 × mS × mL}, σ 46 d = 3 ∨ σ 46 d = 4 → ¬ (σ 46 d = σ 46 e) → Ev (fun n => Mo_copy_f n 0 (J d) i (J e) j m 0 σ τ) (-12, su σ 0 0 0, τ) := fun {R} t1 t2 => preR (Ev.neg d0 (Ev.neg e0 (Ev.neg (by rcases t1 with u | u <;> (rw [u]; decide)) (Ev.neg t2 Ev.ret))))
          obtain ⟨x, hx⟩ : ∃ x, N (κ 9 1 d) = x := ⟨_, rfl⟩
          obtain ⟨y, hy⟩ : ∃ y, N (κ 9 1 e) = y := ⟨_, rfl⟩
          rw [hx] at b kx kx' qd
          rw [hy] at b' ky ky' qe upd
          rcases b with ⟨b1, b2, b3⟩ | ⟨b1, b2, b3⟩ | ⟨b1, b2, b3, b4, b5⟩ | ⟨b1, b2, b3, b4, b5⟩
          · have hx1 := h22W (κ := κ) kx b2
            refine SCn_no h hF S (r := -12) ?_ (low (R := (0, σ, τ)) (Or.inl b1))
            unfold Ti_copy_f
            exact Ev.ob ⟨0, fun n _ => e1 n _⟩ (Ev.neg i10 (Ev.ob ⟨0, fun n _ => f1 n _⟩ (Ev.neg i10 (Ev.ob (Ev.cn (a := some (D.1 9 0)) (by simp only [rd0 k0])) (Ev.obs (Ev.ob (Ev.cn qd) (Ev.oeS (Ev.ob (Ev.cn (a := some (D.1 9 0)) (by simp only [rd0 k0])) (Ev.obs (Ev.ob (Ev.cn qe) (Ev.oeS (Ev.ob (Ev.cn (a := some (D.1 9 0)) (by simp only [rd0 k0])) (Ev.obs (Ev.ob (Ev.cn qd) (Ev.oeS (Ev.neg (by rw [kc_of hx1]; decide) (Ev.pos (by rw [kc_of hx1]; decide) Ev.ret)))))))))))))))))
          · have hx1 := h22P (κ := κ) kx b2
            refine SCn_no h hF S (r := -12) ?_ (low (R := (0, σ, τ)) (Or.inr b1))
            unfold Ti_copy_f
            exact Ev.ob ⟨0, fun n _ => e1 n _⟩ (Ev.neg i10 (Ev.ob ⟨0, fun n _ => f1 n _⟩ (Ev.neg i10 (Ev.ob (Ev.cn (a := some (D.1 9 0)) (by simp only [rd0 k0])) (Ev.obs (Ev.ob (Ev.cn qd) (Ev.oeS (Ev.ob (Ev.cn (a := some (D.1 9 0)) (by simp only [rd0 k0])) (Ev.obs (Ev.ob (Ev.cn qe) (Ev.oeS (Ev.ob (Ev.cn (a := some (D.1 9 0)) (by simp only [rd0 k0])) (Ev.obs (Ev.ob (Ev.cn qd) (Ev.oeS (Ev.pos (by rw [kc_of hx1]; decide) Ev.ret))))))))))))))))
          · have hx1 := h22S (κ := κ) kx b2
            rcases b' with ⟨c1, c2, c3⟩ | ⟨c1, c2, c3⟩ | ⟨c1, c2, c3, c4, c5⟩ | ⟨c1, c2, c3, c4, c5⟩
            · have hy1 := h22W (κ := κ) ky c2
              refine SCn_no h hF S (r := -12) ?_ (oth (R := (0, σ, τ)) (Or.inl b1) (by rw [b1, c1]; decide))
              unfold Ti_copy_f
              exact Ev.ob ⟨0, fun n _ => e1 n _⟩ (Ev.neg i10 (Ev.ob ⟨0, fun n _ => f1 n _⟩ (Ev.neg i10 (Ev.ob (Ev.cn (a := some (D.1 9 0)) (by simp only [rd0 k0])) (Ev.obs (Ev.ob (Ev.cn qd) (Ev.oeS (Ev.ob (Ev.cn (a := some (D.1 9 0)) (by simp only [rd0 k0])) (Ev.obs (Ev.ob (Ev.cn qe) (Ev.oeS (Ev.ob (Ev.cn (a := some (D.1 9 0)) (by simp only [rd0 k0])) (Ev.obs (Ev.ob (Ev.cn qd) (Ev.oeS (Ev.neg (by rw [kc_of hx1]; decide) (Ev.neg (by rw [kc_of hx1]; decide) (Ev.pos (by rw [kc_of hx1]; decide) (Ev.pos (by rw [kc_of hx1]; decide) (Ev.ob (Ev.cn (a := some (D.1 9 0)) (by simp only [rd0 k0])) (Ev.obs (Ev.ob (Ev.cn qe) (Ev.oeS (Ev.neg (by rw [kc_of hy1]; decide) (Ev.pos (by rw [kc_of hy1]; decide) Ev.ret)))))))))))))))))))))))))
            · have hy1 := h22P (κ := κ) ky c2
              refine SCn_no h hF S (r := -12) ?_ (oth (R := (0, σ, τ)) (Or.inl b1) (by rw [b1, c1]; decide))
              unfold Ti_copy_f
              exact Ev.ob ⟨0, fun n _ => e1 n _⟩ (Ev.neg i10 (Ev.ob ⟨0, fun n _ => f1 n _⟩ (Ev.neg i10 (Ev.ob (Ev.cn (a := some (D.1 9 0)) (by simp only [rd0 k0])) (Ev.obs (Ev.ob (Ev.cn qd) (Ev.oeS (Ev.ob (Ev.cn (a := some (D.1 9 0)) (by simp only [rd0 k0])) (Ev.obs (Ev.ob (Ev.cn qe) (Ev.oeS (Ev.ob (Ev.cn (a := some (D.1 9 0)) (by simp only [rd0 k0])) (Ev.obs (Ev.ob (Ev.cn qd) (Ev.oeS (Ev.neg (by rw [kc_of hx1]; decide) (Ev.neg (by rw [kc_of hx1]; decide) (Ev.pos (by rw [kc_of hx1]; decide) (Ev.pos (by rw [kc_of hx1]; decide) (Ev.ob (Ev.cn (a := some (D.1 9 0)) (by simp only [rd0 k0])) (Ev.obs (Ev.ob (Ev.cn qe) (Ev.oeS (Ev.pos (by rw [kc_of hy1]; decide) Ev.ret))))))))))))))))))))))))
            · have hy1 := h22S (κ := κ) ky c2
              have hA := b4.2
              have hB := c4.2
              have cp := fun n => copied_S (κ := κ) kx kx' ky ky' b2 c2 (by rw [b3]; exact hA) (by rw [c3]; exact hB) (i := i) (j := j) (m := m) n
              rw [b3, c3] at cp
              have hp1 := fun n => hasPl (τ := τ) hd hA (s := su σ 0 0 0) (by rw [su_n (by decide)]; exact b4.1) i m n
              have hp2 := fun n => hasPl (τ := τ) he hB (s := su σ 0 0 0) (by rw [su_n (by decide)]; exact c4.1) j m n
              by_cases ok : cpOk (N (σ 47 d)) (N (σ 47 e)) i j m
              · have ok2 := ok
                unfold cpOk at ok2
                have ei := J_ti (show 0 ≤ i.toInt by omega)
                have ej := J_ti (show 0 ≤ j.toInt by omega)
                have em := J_ti (show 0 ≤ m.toInt by omega)
                have li : i.toInt.toNat + m.toInt.toNat ≤ N (σ 47 d) := by omega
                have lj : j.toInt.toNat + m.toInt.toNat ≤ N (σ 47 e) := by omega
                rw [if_pos ⟨ok2.1, ok2.2.1, ok2.2.2.2.1⟩] at hp1
                rw [if_pos ⟨ok2.1, ok2.2.2.1, ok2.2.2.2.2⟩] at hp2
                clear ok2
                generalize i.toInt.toNat = i1 at ei li
                generalize j.toInt.toNat = j1 at ej lj
                generalize m.toInt.toNat = m1 at em li lj
                subst ei ej em
                have gv := fun n => srow_give h.1.1 kx kx' ky ky' b2 c2 (i := i1) (j := j1) (m := m1) (by rw [b3]; exact li) (by rw [c3]; exact lj) (by rw [b3]; exact hA) (by rw [c3]; exact hB) (fun c hc => (b5 c (by rw [b3] at hc; exact hc)).2) n
                have tt := cpT_is d i1 e j1 m1 τ
                refine ⟨J m1, D, kf κ 23 y (va_cpy (κ 23 x) (κ 23 y) i1 j1 m1), su σ 0 0 0, cpT d i1 e j1 m1 τ, ?_, qR' (Or.inl b1) (by rw [b1, c1]) (Ev.ob ⟨0, fun n _ => hp1 n⟩ (Ev.neg i10 (Ev.ob ⟨0, fun n _ => hp2 n⟩ (Ev.neg i10 (copy_99 hd he (by omega) (by omega)))))), ⟨fun _ _ t => ⟨rfl, t⟩, rfl⟩, YW_sst (h.kf (by decide) (by decide) (by decide) (by decide) (fun t => absurd t (by decide)) (by decide)) (yq_0 σ), ?_, upd (by funext t; exact kf_k (by decide)) (fun t => kf_k (by decide)) (fun t ht => ⟨kf_n (fun u => ht u.2), rfl⟩) (fun c t hc ht => tt.2 _ (by omega)) ?_, fun s t h9 h22 => kf_k (by omega), fun s t h0 _ => su_n h0, by funext t; exact kf_k (by decide)⟩
                · unfold Ti_copy_f
                  exact Ev.ob ⟨0, fun n _ => e1 n _⟩ (Ev.neg i10 (Ev.ob ⟨0, fun n _ => f1 n _⟩ (Ev.neg i10 (Ev.ob (Ev.cn (a := some (D.1 9 0)) (by simp only [rd0 k0])) (Ev.obs (Ev.ob (Ev.cn qd) (Ev.oeS (Ev.ob (Ev.cn (a := some (D.1 9 0)) (by simp only [rd0 k0])) (Ev.obs (Ev.ob (Ev.cn qe) (Ev.oeS (Ev.ob (Ev.cn (a := some (D.1 9 0)) (by simp only [rd0 k0])) (Ev.obs (Ev.ob (Ev.cn qd) (Ev.oeS (Ev.neg (by rw [kc_of hx1]; decide) (Ev.neg (by rw [kc_of hx1]; decide) (Ev.pos (by rw [kc_of hx1]; decide) (Ev.pos (by rw [kc_of hx1]; decide) (Ev.ob (Ev.cn (a := some (D.1 9 0)) (by simp only [rd0 k0])) (Ev.obs (Ev.ob (Ev.cn qe) (Ev.oeS (Ev.neg (by rw [kc_of hy1]; decide) (Ev.neg (by rw [kc_of hy1]; decide) (Ev.pos (by rw [kc_of hy1]; decide) (Ev.pos (by rw [kc_of hy1]; decide) (Ev.ob ⟨0, fun n _ => (cp n).2 ok _ (gv n)⟩ Ev.ret))))))))))))))))))))))))))))
                · exact ⟨hF.1, fun t u hu => hF.2.1 t u hu, hF.2.2⟩
                · unfold SHd
                  rw [kf_k (show (9 : Nat) ≠ 23 by decide), kf_k (show (9 : Nat) ≠ 23 by decide), hy]
                  refine Or.inr ⟨a', Or.inr (Or.inr (Or.inl ⟨by rw [su_n (by decide)]; exact c1, by rw [kf_k (by decide)]; exact c2, by rw [kf_k (by decide), su_n (by decide)]; exact c3, by rw [su_n (by decide)]; exact c4, fun c hc => ?_⟩))⟩
                  rw [su_n (by decide)] at hc
                  rw [kf_e]
                  by_cases g : j1 ≤ c ∧ c < j1 + m1
                  · have v : va_cpy (κ 23 x) (κ 23 y) i1 j1 m1 c = κ 23 x (i1 + (c - j1)) := if_pos g
                    have q := b5 (i1 + (c - j1)) (by omega)
                    have r := tt.1 (c - j1) (by omega)
                    rw [v, show 60 * e + c = 60 * e + j1 + (c - j1) by omega, r, show 60 * d + i1 + (c - j1) = 60 * d + (i1 + (c - j1)) by omega]
                    exact q
                  · have v : va_cpy (κ 23 x) (κ 23 y) i1 j1 m1 c = κ 23 y c := if_neg g
                    rw [v, tt.2 _ (by omega)]
                    exact c5 c hc
              · refine SCn_no h hF S (r := -13) ?_ (qR' (Or.inl b1) (by rw [b1, c1]) (Ev.ob ⟨0, fun n _ => hp1 n⟩ ?_))
                · unfold Ti_copy_f
                  exact Ev.ob ⟨0, fun n _ => e1 n _⟩ (Ev.neg i10 (Ev.ob ⟨0, fun n _ => f1 n _⟩ (Ev.neg i10 (Ev.ob (Ev.cn (a := some (D.1 9 0)) (by simp only [rd0 k0])) (Ev.obs (Ev.ob (Ev.cn qd) (Ev.oeS (Ev.ob (Ev.cn (a := some (D.1 9 0)) (by simp only [rd0 k0])) (Ev.obs (Ev.ob (Ev.cn qe) (Ev.oeS (Ev.ob (Ev.cn (a := some (D.1 9 0)) (by simp only [rd0 k0])) (Ev.obs (Ev.ob (Ev.cn qd) (Ev.oeS (Ev.neg (by rw [kc_of hx1]; decide) (Ev.neg (by rw [kc_of hx1]; decide) (Ev.pos (by rw [kc_of hx1]; decide) (Ev.pos (by rw [kc_of hx1]; decide) (Ev.ob (Ev.cn (a := some (D.1 9 0)) (by simp only [rd0 k0])) (Ev.obs (Ev.ob (Ev.cn qe) (Ev.oeS (Ev.neg (by rw [kc_of hy1]; decide) (Ev.neg (by rw [kc_of hy1]; decide) (Ev.pos (by rw [kc_of hy1]; decide) (Ev.pos (by rw [kc_of hy1]; decide) (Ev.ob ⟨0, fun n _ => (cp n).1 ok⟩ Ev.ret))))))))))))))))))))))))))))
                · by_cases g : 0 ≤ m.toInt ∧ 0 ≤ i.toInt ∧ i.toInt + m.toInt ≤ (N (σ 47 d) : Int)
                  · refine Ev.neg (by rw [if_pos g]; exact i10) (Ev.ob ⟨0, fun n _ => hp2 n⟩ (Ev.pos (if_neg (fun t => ok ?_)) Ev.ret))
                    exact ⟨g.1, g.2.1, t.2.1, g.2.2, t.2.2⟩
                  · exact Ev.pos (if_neg g) Ev.ret
            · have hy1 := h22L (κ := κ) ky c2
              refine SCn_no h hF S (r := -12) ?_ (oth (R := (0, σ, τ)) (Or.inl b1) (by rw [b1, c1]; decide))
              unfold Ti_copy_f
              exact Ev.ob ⟨0, fun n _ => e1 n _⟩ (Ev.neg i10 (Ev.ob ⟨0, fun n _ => f1 n _⟩ (Ev.neg i10 (Ev.ob (Ev.cn (a := some (D.1 9 0)) (by simp only [rd0 k0])) (Ev.obs (Ev.ob (Ev.cn qd) (Ev.oeS (Ev.ob (Ev.cn (a := some (D.1 9 0)) (by simp only [rd0 k0])) (Ev.obs (Ev.ob (Ev.cn qe) (Ev.oeS (Ev.ob (Ev.cn (a := some (D.1 9 0)) (by simp only [rd0 k0])) (Ev.obs (Ev.ob (Ev.cn qd) (Ev.oeS (Ev.neg (by rw [kc_of hx1]; decide) (Ev.neg (by rw [kc_of hx1]; decide) (Ev.pos (by rw [kc_of hx1]; decide) (Ev.pos (by rw [kc_of hx1]; decide) (Ev.ob (Ev.cn (a := some (D.1 9 0)) (by simp only [rd0 k0])) (Ev.obs (Ev.ob (Ev.cn qe) (Ev.oeS (Ev.neg (by rw [kc_of hy1]; decide) (Ev.neg (by rw [kc_of hy1]; decide) (Ev.neg (by rw [kc_of hy1]; decide) (Ev.pos (by rw [kc_of hy1]; decide) (Ev.pos (by rw [kc_of hy1]; decide) (Ev.ob ⟨0, fun n _ => copied_ne (by rw [kc_of hx1, kc_of hx1, kc_of hy1, kc_of hy1]; decide) n⟩ Ev.ret)))))))))))))))))))))))))))))
          · have hx1 := h22L (κ := κ) kx b2
            rcases b' with ⟨c1, c2, c3⟩ | ⟨c1, c2, c3⟩ | ⟨c1, c2, c3, c4, c5⟩ | ⟨c1, c2, c3, c4, c5⟩
            · have hy1 := h22W (κ := κ) ky c2
              refine SCn_no h hF S (r := -12) ?_ (oth (R := (0, σ, τ)) (Or.inr b1) (by rw [b1, c1]; decide))
              unfold Ti_copy_f
              exact Ev.ob ⟨0, fun n _ => e1 n _⟩ (Ev.neg i10 (Ev.ob ⟨0, fun n _ => f1 n _⟩ (Ev.neg i10 (Ev.ob (Ev.cn (a := some (D.1 9 0)) (by simp only [rd0 k0])) (Ev.obs (Ev.ob (Ev.cn qd) (Ev.oeS (Ev.ob (Ev.cn (a := some (D.1 9 0)) (by simp only [rd0 k0])) (Ev.obs (Ev.ob (Ev.cn qe) (Ev.oeS (Ev.ob (Ev.cn (a := some (D.1 9 0)) (by simp only [rd0 k0])) (Ev.obs (Ev.ob (Ev.cn qd) (Ev.oeS (Ev.neg (by rw [kc_of hx1]; decide) (Ev.neg (by rw [kc_of hx1]; decide) (Ev.neg (by rw [kc_of hx1]; decide) (Ev.pos (by rw [kc_of hx1]; decide) (Ev.pos (by rw [kc_of hx1]; decide) (Ev.ob (Ev.cn (a := some (D.1 9 0)) (by simp only [rd0 k0])) (Ev.obs (Ev.ob (Ev.cn qe) (Ev.oeS (Ev.neg (by rw [kc_of hy1]; decide) (Ev.pos (by rw [kc_of hy1]; decide) Ev.ret))))))))))))))))))))))))))
            · have hy1 := h22P (κ := κ) ky c2
              refine SCn_no h hF S (r := -12) ?_ (oth (R := (0, σ, τ)) (Or.inr b1) (by rw [b1, c1]; decide))
              unfold Ti_copy_f
              exact Ev.ob ⟨0, fun n _ => e1 n _⟩ (Ev.neg i10 (Ev.ob ⟨0, fun n _ => f1 n _⟩ (Ev.neg i10 (Ev.ob (Ev.cn (a := some (D.1 9 0)) (by simp only [rd0 k0])) (Ev.obs (Ev.ob (Ev.cn qd) (Ev.oeS (Ev.ob (Ev.cn (a := some (D.1 9 0)) (by simp only [rd0 k0])) (Ev.obs (Ev.ob (Ev.cn qe) (Ev.oeS (Ev.ob (Ev.cn (a := some (D.1 9 0)) (by simp only [rd0 k0])) (Ev.obs (Ev.ob (Ev.cn qd) (Ev.oeS (Ev.neg (by rw [kc_of hx1]; decide) (Ev.neg (by rw [kc_of hx1]; decide) (Ev.neg (by rw [kc_of hx1]; decide) (Ev.pos (by rw [kc_of hx1]; decide) (Ev.pos (by rw [kc_of hx1]; decide) (Ev.ob (Ev.cn (a := some (D.1 9 0)) (by simp only [rd0 k0])) (Ev.obs (Ev.ob (Ev.cn qe) (Ev.oeS (Ev.pos (by rw [kc_of hy1]; decide) Ev.ret)))))))))))))))))))))))))
            · have hy1 := h22S (κ := κ) ky c2
              refine SCn_no h hF S (r := -12) ?_ (oth (R := (0, σ, τ)) (Or.inr b1) (by rw [b1, c1]; decide))
              unfold Ti_copy_f
              exact Ev.ob ⟨0, fun n _ => e1 n _⟩ (Ev.neg i10 (Ev.ob ⟨0, fun n _ => f1 n _⟩ (Ev.neg i10 (Ev.ob (Ev.cn (a := some (D.1 9 0)) (by simp only [rd0 k0])) (Ev.obs (Ev.ob (Ev.cn qd) (Ev.oeS (Ev.ob (Ev.cn (a := some (D.1 9 0)) (by simp only [rd0 k0])) (Ev.obs (Ev.ob (Ev.cn qe) (Ev.oeS (Ev.ob (Ev.cn (a := some (D.1 9 0)) (by simp only [rd0 k0])) (Ev.obs (Ev.ob (Ev.cn qd) (Ev.oeS (Ev.neg (by rw [kc_of hx1]; decide) (Ev.neg (by rw [kc_of hx1]; decide) (Ev.neg (by rw [kc_of hx1]; decide) (Ev.pos (by rw [kc_of hx1]; decide) (Ev.pos (by rw [kc_of hx1]; decide) (Ev.ob (Ev.cn (a := some (D.1 9 0)) (by simp only [rd0 k0])) (Ev.obs (Ev.ob (Ev.cn qe) (Ev.oeS (Ev.neg (by rw [kc_of hy1]; decide) (Ev.neg (by rw [kc_of hy1]; decide) (Ev.pos (by rw [kc_of hy1]; decide) (Ev.pos (by rw [kc_of hy1]; decide) (Ev.ob ⟨0, fun n _ => copied_ne (by rw [kc_of hx1, kc_of hx1, kc_of hy1, kc_of hy1]; decide) n⟩ Ev.ret)))))))))))))))))))))))))))))
            · have hy1 := h22L (κ := κ) ky c2
              have hA := b4.2
              have hB := c4.2
              have cp := fun n => copied_L (κ := κ) kx kx' ky ky' b2 c2 (by rw [b3]; exact hA) (by rw [c3]; exact hB) (i := i) (j := j) (m := m) n
              rw [b3, c3] at cp
              have hp1 := fun n => hasPl (τ := τ) hd hA (s := su σ 0 0 0) (by rw [su_n (by decide)]; exact b4.1) i m n
              have hp2 := fun n => hasPl (τ := τ) he hB (s := su σ 0 0 0) (by rw [su_n (by decide)]; exact c4.1) j m n
              by_cases ok : cpOk (N (σ 47 d)) (N (σ 47 e)) i j m
              · have ok2 := ok
                unfold cpOk at ok2
                have ei := J_ti (show 0 ≤ i.toInt by omega)
                have ej := J_ti (show 0 ≤ j.toInt by omega)
                have em := J_ti (show 0 ≤ m.toInt by omega)
                have li : i.toInt.toNat + m.toInt.toNat ≤ N (σ 47 d) := by omega
                have lj : j.toInt.toNat + m.toInt.toNat ≤ N (σ 47 e) := by omega
                rw [if_pos ⟨ok2.1, ok2.2.1, ok2.2.2.2.1⟩] at hp1
                rw [if_pos ⟨ok2.1, ok2.2.2.1, ok2.2.2.2.2⟩] at hp2
                clear ok2
                generalize i.toInt.toNat = i1 at ei li
                generalize j.toInt.toNat = j1 at ej lj
                generalize m.toInt.toNat = m1 at em li lj
                subst ei ej em
                have gv := fun n => lrow_give h.1.1 kx kx' ky ky' b2 c2 (i := i1) (j := j1) (m := m1) (by rw [b3]; exact li) (by rw [c3]; exact lj) (by rw [b3]; exact hA) (by rw [c3]; exact hB) n
                have tt := cpT_is d i1 e j1 m1 τ
                have hLV : LV (dL D y (va_cpy (D.2.2.2 x) (D.2.2.2 y) i1 j1 m1)) κ := h.1
                refine ⟨J m1, dL D y (va_cpy (D.2.2.2 x) (D.2.2.2 y) i1 j1 m1), κ, su σ 0 0 0, cpT d i1 e j1 m1 τ, ?_, qR' (Or.inr b1) (by rw [b1, c1]) (Ev.ob ⟨0, fun n _ => hp1 n⟩ (Ev.neg i10 (Ev.ob ⟨0, fun n _ => hp2 n⟩ (Ev.neg i10 (copy_99 hd he (by omega) (by omega)))))), ⟨fun _ _ t => ⟨rfl, t⟩, rfl⟩, YW_sst (⟨hLV, h.2⟩ : YW (dL D y (va_cpy (D.2.2.2 x) (D.2.2.2 y) i1 j1 m1)) κ σ) (yq_0 σ), hF, upd rfl (fun _ => rfl) (fun t ht => ⟨rfl, if_neg ht⟩) (fun c t hc ht => tt.2 _ (by omega)) ?_, kfs.rf κ, fun s t h0 _ => su_n h0, rfl⟩
                · unfold Ti_copy_f
                  exact Ev.ob ⟨0, fun n _ => e1 n _⟩ (Ev.neg i10 (Ev.ob ⟨0, fun n _ => f1 n _⟩ (Ev.neg i10 (Ev.ob (Ev.cn (a := some (D.1 9 0)) (by simp only [rd0 k0])) (Ev.obs (Ev.ob (Ev.cn qd) (Ev.oeS (Ev.ob (Ev.cn (a := some (D.1 9 0)) (by simp only [rd0 k0])) (Ev.obs (Ev.ob (Ev.cn qe) (Ev.oeS (Ev.ob (Ev.cn (a := some (D.1 9 0)) (by simp only [rd0 k0])) (Ev.obs (Ev.ob (Ev.cn qd) (Ev.oeS (Ev.neg (by rw [kc_of hx1]; decide) (Ev.neg (by rw [kc_of hx1]; decide) (Ev.neg (by rw [kc_of hx1]; decide) (Ev.pos (by rw [kc_of hx1]; decide) (Ev.pos (by rw [kc_of hx1]; decide) (Ev.ob (Ev.cn (a := some (D.1 9 0)) (by simp only [rd0 k0])) (Ev.obs (Ev.ob (Ev.cn qe) (Ev.oeS (Ev.neg (by rw [kc_of hy1]; decide) (Ev.neg (by rw [kc_of hy1]; decide) (Ev.neg (by rw [kc_of hy1]; decide) (Ev.pos (by rw [kc_of hy1]; decide) (Ev.pos (by rw [kc_of hy1]; decide) (Ev.ob ⟨0, fun n _ => (cp n).2 ok _ (gv n)⟩ Ev.ret))))))))))))))))))))))))))))))
                · unfold SHd
                  rw [hy]
                  refine Or.inr ⟨a', Or.inr (Or.inr (Or.inr ⟨by rw [su_n (by decide)]; exact c1, c2, by rw [su_n (by decide)]; exact c3, by rw [su_n (by decide)]; exact c4, fun c hc => ?_⟩))⟩
                  rw [su_n (by decide)] at hc
                  have l0 : (dL D y (va_cpy (D.2.2.2 x) (D.2.2.2 y) i1 j1 m1)).2.2.2 y = va_cpy (D.2.2.2 x) (D.2.2.2 y) i1 j1 m1 := if_pos rfl
                  rw [l0]
                  by_cases g : j1 ≤ c ∧ c < j1 + m1
                  · have v : va_cpy (D.2.2.2 x) (D.2.2.2 y) i1 j1 m1 c = D.2.2.2 x (i1 + (c - j1)) := if_pos g
                    have q := b5 (i1 + (c - j1)) (by omega)
                    have r := tt.1 (c - j1) (by omega)
                    rw [v, show 60 * e + c = 60 * e + j1 + (c - j1) by omega, r, show 60 * d + i1 + (c - j1) = 60 * d + (i1 + (c - j1)) by omega]
                    exact q
                  · have v : va_cpy (D.2.2.2 x) (D.2.2.2 y) i1 j1 m1 c = D.2.2.2 y c := if_neg g
                    rw [v, tt.2 _ (by omega)]
                    exact c5 c hc
              · refine SCn_no h hF S (r := -13) ?_ (qR' (Or.inr b1) (by rw [b1, c1]) (Ev.ob ⟨0, fun n _ => hp1 n⟩ ?_))
                · unfold Ti_copy_f
                  exact Ev.ob ⟨0, fun n _ => e1 n _⟩ (Ev.neg i10 (Ev.ob ⟨0, fun n _ => f1 n _⟩ (Ev.neg i10 (Ev.ob (Ev.cn (a := some (D.1 9 0)) (by simp only [rd0 k0])) (Ev.obs (Ev.ob (Ev.cn qd) (Ev.oeS (Ev.ob (Ev.cn (a := some (D.1 9 0)) (by simp only [rd0 k0])) (Ev.obs (Ev.ob (Ev.cn qe) (Ev.oeS (Ev.ob (Ev.cn (a := some (D.1 9 0)) (by simp only [rd0 k0])) (Ev.obs (Ev.ob (Ev.cn qd) (Ev.oeS (Ev.neg (by rw [kc_of hx1]; decide) (Ev.neg (by rw [kc_of hx1]; decide) (Ev.neg (by rw [kc_of hx1]; decide) (Ev.pos (by rw [kc_of hx1]; decide) (Ev.pos (by rw [kc_of hx1]; decide) (Ev.ob (Ev.cn (a := some (D.1 9 0)) (by simp only [rd0 k0])) (Ev.obs (Ev.ob (Ev.cn qe) (Ev.oeS (Ev.neg (by rw [kc_of hy1]; decide) (Ev.neg (by rw [kc_of hy1]; decide) (Ev.neg (by rw [kc_of hy1]; decide) (Ev.pos (by rw [kc_of hy1]; decide) (Ev.pos (by rw [kc_of hy1]; decide) (Ev.ob ⟨0, fun n _ => (cp n).1 ok⟩ Ev.ret))))))))))))))))))))))))))))))
                · by_cases g : 0 ≤ m.toInt ∧ 0 ≤ i.toInt ∧ i.toInt + m.toInt ≤ (N (σ 47 d) : Int)
                  · refine Ev.neg (by rw [if_pos g]; exact i10) (Ev.ob ⟨0, fun n _ => hp2 n⟩ (Ev.pos (if_neg (fun t => ok ?_)) Ev.ret))
                    exact ⟨g.1, g.2.1, t.2.1, g.2.2, t.2.2⟩
                  · exact Ev.pos (if_neg g) Ev.ret
    · refine SCn_no h hF S (r := -1) ?_ (preR0 _ ?_)
      · unfold Ti_copy_f
        exact Ev.ob ⟨0, fun n _ => e1 n _⟩ (Ev.neg i10 (Ev.ob ⟨0, fun n _ => f1 n _⟩ (Ev.pos rfl Ev.ret)))
      · unfold Mo_copy_t0
        simp only [bnd]
        exact Ev.neg n2 (Ev.pos f2 Ev.ret)
  · refine SCn_no h hF S (r := -1) ?_ (preR0 _ ?_)
    · unfold Ti_copy_f
      exact Ev.ob ⟨0, fun n _ => e1 n _⟩ (Ev.pos rfl Ev.ret)
    · unfold Mo_copy_t0
      simp only [bnd]
      exact Ev.pos e2 Ev.ret
end SHA

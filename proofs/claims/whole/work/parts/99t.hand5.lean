/-! THE HAND's calls: within -/
def wth (s : mS) (k i : Nat) (S : Int32 × Int32) : Int32 × Int32 := (if S.1 = 0 then 0 else if i % 5 = 4 then 1 else if s 25 (25 * k + i) < s 43 i then 0 else 1, if S.2 = 0 then 0 else if i % 5 = 4 then 1 else if s 43 i < s 25 (25 * k + i) then 0 else 1)
theorem wth_is (s : mS) (k : Nat) : ((it (wth s k) 0 20 (1, 1)).1 = 0 ↔ ¬ ∀ m, m < 20 → m % 5 ≠ 4 → ¬ (s 25 (25 * k + m) < s 43 m)) ∧ ((it (wth s k) 0 20 (1, 1)).2 = 0 ↔ ¬ ∀ m, m < 20 → m % 5 ≠ 4 → ¬ (s 43 m < s 25 (25 * k + m))) := by
  have z : ¬ ((1 : Int32) = 0) := by decide
  have r := it_inv (wth s k) (fun i S => (S.1 = 0 ↔ ¬ ∀ m, m < i → m % 5 ≠ 4 → ¬ (s 25 (25 * k + m) < s 43 m)) ∧ (S.2 = 0 ↔ ¬ ∀ m, m < i → m % 5 ≠ 4 → ¬ (s 43 m < s 25 (25 * k + m)))) 20 (fun i S hi h => by
    have key : ∀ (x : Int32) (P : Nat → Prop) (c : Prop) [Decidable c], (c ↔ P i) → (x = 0 ↔ ¬ ∀ m, m < i → m % 5 ≠ 4 → ¬ P m) → ((if x = 0 then (0 : Int32) else if i % 5 = 4 then 1 else if c then 0 else 1) = 0 ↔ ¬ ∀ m, m < i + 1 → m % 5 ≠ 4 → ¬ P m) := fun x P c _ hc hx => by
      by_cases h0 : x = 0
      · rw [if_pos h0]
        refine ⟨fun _ t => (hx.mp h0) (fun m hm => t m (by omega)), fun _ => rfl⟩
      · rw [if_neg h0]
        have al : ∀ m, m < i → m % 5 ≠ 4 → ¬ P m := Classical.byContradiction (fun t => h0 (hx.mpr t))
        by_cases h4 : i % 5 = 4
        · rw [if_pos h4]
          refine ⟨fun t => absurd t z, fun t => absurd (fun m hm hm4 => ?_) t⟩
          by_cases e : m = i
          · exact absurd (e ▸ h4) hm4
          · exact al m (by omega) hm4
        · rw [if_neg h4]
          by_cases g : c
          · rw [if_pos g]
            exact ⟨fun _ t => t i (by omega) h4 (hc.mp g), fun _ => rfl⟩
          · rw [if_neg g]
            refine ⟨fun t => absurd t z, fun t => absurd (fun m hm hm4 => ?_) t⟩
            by_cases e : m = i
            · rw [e]; exact fun u => g (hc.mpr u)
            · exact al m (by omega) hm4
    exact ⟨key S.1 (fun m => s 25 (25 * k + m) < s 43 m) _ Iff.rfl h.1, key S.2 (fun m => s 43 m < s 25 (25 * k + m)) _ Iff.rfl h.2⟩) 20 0 (1, 1) (by omega) ⟨⟨fun t => absurd t z, fun t => absurd (fun m hm => absurd hm (Nat.not_lt_zero _)) t⟩, ⟨fun t => absurd t z, fun t => absurd (fun m hm => absurd hm (Nat.not_lt_zero _)) t⟩⟩
  exact r
theorem cli_20 {f f2 Z X : Nat → Int32} (h : cagr 4 f Z) (h2 : cagr 4 f2 X) : cli f f2 16 0 = 0 ↔ ¬ ∀ m, m < 20 → m % 5 ≠ 4 → ¬ (X m < Z m) := by
  have e : (∀ m, m < 20 → m % 5 ≠ 4 → ¬ (X m < Z m)) ↔ ∀ j, 0 ≤ j → j < 0 + 16 → f j ≤ f2 j := by
    constructor
    · intro t j _ hj
      have a := h (j / 4) (j % 4) (by omega) (by omega)
      have b := h2 (j / 4) (j % 4) (by omega) (by omega)
      rw [show j / 4 * 4 + j % 4 = j by omega] at a b
      rw [a, b]
      exact Int32.not_lt.mp (t (5 * (j / 4) + j % 4) (by omega) (by omega))
    · intro t m hm h4
      have a := h (m / 5) (m % 5) (by omega) (by omega)
      have b := h2 (m / 5) (m % 5) (by omega) (by omega)
      rw [show 5 * (m / 5) + m % 5 = m by omega] at a b
      rw [← a, ← b]
      exact Int32.not_lt.mpr (t (m / 5 * 4 + m % 5) (by omega) (by omega))
  rw [e]
  rcases cli_is f f2 16 0 with ⟨a, b⟩ | ⟨a, b⟩
  · rw [a]
    exact ⟨fun t => absurd t (by decide), fun t => absurd b t⟩
  · exact ⟨fun _ => b, fun _ => a⟩
section HCall5
variable {D : kD} {κ : kS} {σ : mS} {τ : mL} {n : Nat}
theorem within_q {s : mS} {k : Nat} (hk : k < 200) : Ev (fun m => Mo_within_f m 31 (J k) 1 1 (J 0) s τ) ((if (it (wth s k) 0 20 (1, 1)).1 = 0 then (if (it (wth s k) 0 20 (1, 1)).2 = 0 then 0 + 0 else 0 + 2) else (if (it (wth s k) 0 20 (1, 1)).2 = 0 then 1 + 0 else 1 + 2)), s, τ) := by
  refine Ev.up (f := fun n i (S : Int32 × Int32) => Mo_within_f n 31 (J k) S.1 S.2 (J i) s τ) 20 (wth s k) (fun _ _ => True) (fun _ _ _ _ => trivial) (fun i S hi _ ee => ?_) 20 0 (1, 1) (by omega) trivial ?_
  · refine Ev.succ (fun n => Mo_within_e31 n _ _ _ _ _ _) ?_
    unfold Mo_within_t31
    have a1 : xin (J (25 * k + i)) 5000 = true := xin_J (by omega) (by omega)
    have b1 : Int32.toNatClampNeg (J (25 * k + i)) = 25 * k + i := J_nat (by omega)
    have a2 : xin (J i) 25 = true := xin_J (by omega) (by omega)
    have b2 : Int32.toNatClampNeg (J i) = i := J_nat (by omega)
    have c1 : J i + 1 = J (i + 1) := J_add i 1
    have g4 : (J (i % 5) = (4 : Int32)) ↔ i % 5 = 4 := by rw [J4, J_eq (by omega) (by omega)]
    simp only [J25, J5, J_mul, J_add, J_div5 (show i < 25 by omega), J_rem5 (show i < 25 by omega), a1, b1, a2, b2, c1, g4, if_true]
    refine Ev.neg (by rw [J20, J_le (by omega) (by omega)]; omega) ?_
    unfold wth at ee
    by_cases a : S.1 = 0 <;> by_cases b : S.2 = 0 <;> by_cases g : i % 5 = 4 <;> by_cases c : s 25 (25 * k + i) < s 43 i <;> by_cases d : s 43 i < s 25 (25 * k + i) <;> simp only [a, b, g, c, d, if_true, if_false] at ee ⊢ <;> exact ee
  · refine Ev.succ (fun n => Mo_within_e31 n _ _ _ _ _ _) ?_
    unfold Mo_within_t31
    refine Ev.pos (by decide) ?_
    generalize it (wth s k) 0 20 (1, 1) = S
    by_cases a : S.1 = 0 <;> by_cases b : S.2 = 0 <;> simp only [a, b, if_true, if_false] <;> exact Ev.ret
theorem within_ro (h : YW D κ σ) (p : PW κ σ) (H : HR n κ σ) (x : Int32) : RO D κ σ τ (fun m => Ti_within_f m (D.1 0 0) x (rn D κ)) (fun m => Mo_within_f m 0 x 0 0 0 σ τ) := by
  have k0 := h.1.2.1 0 (by decide) (by decide) (by decide)
  have k1 := h.1.k1
  have z1 := h.1.z1
  have preR : ∀ R, Ev (fun n => Mo_within_t0 (Mo_within_f n) n x 0 0 0 σ τ) R → Ev (fun n => Mo_within_f n 0 x 0 0 0 σ τ) R := fun R e => Ev.succ (fun n => Mo_within_e0 n _ _ _ _ _ _) e
  rcases st_or σ x with ⟨k, hk, rfl⟩ | hx
  · obtain ⟨s1, k19, s2⟩ := PW.st_in (τ := τ) h p hk
    have hk3 : k < N (κ 3 0 0) := by have := p.2.2.2.1; omega
    have hb := p.2.1.2
    have zb := h.1.zb hk3
    have sr := (p.2.2.2.2.2.1 k hk).1
    have c := sr.2.2.2.2.2.2.2.1.1
    have c0 := sr.2.2.2.2.2.2.2.1.2
    have za := rn_zoA (κ := κ) z1.1 z1.2
    have zk := rn_zoA (κ := κ) zb.1 zb.2
    rw [zn_e] at zk
    rw [show zn 1 = 4 from rfl] at za
    have eh : (hq σ).2 = σ 44 0 := rfl
    have e6 : κ 6 1 2 = σ 44 0 := H.1.2.1
    have he : κ 6 1 2 = 0 ∨ κ 6 1 2 = 1 := by rw [e6]; exact H.1.1
    have l1 := liesIn_c (by omega) za zk he (x2 := 0)
    have l2 := liesIn_c (by omega) zk za (Or.inl c0) (x2 := 0)
    have preC : ∀ R, Ev (fun m => obd (Zo_liesIn_f m 0 (D.1 6 1) (some (D.1 6 (2 * k + 2))) 0 (rn D κ)) (fun r23 => (if r23.1 = 0 then obd (gq r23.2 (D.1 19 k) 2 3) (fun w25 => obd (gq r23.2 (D.1 0 0) 4 1) (fun w30 => obd w25 (fun a35 => (if kc r23.2 (a35) 1 = true then obd (Zo_liesIn_f m 0 (a35) (w30) 0 r23.2) (fun r36 => (if r36.1 = 0 then some (((0 : Int32)) + ((0 : Int32)), r36.2) else some (((0 : Int32)) + ((2 : Int32)), r36.2))) else none)))) else obd (gq r23.2 (D.1 19 k) 2 3) (fun w41 => obd (gq r23.2 (D.1 0 0) 4 1) (fun w46 => obd w41 (fun a51 => (if kc r23.2 (a51) 1 = true then obd (Zo_liesIn_f m 0 (a51) (w46) 0 r23.2) (fun r52 => (if r52.1 = 0 then some (((1 : Int32)) + ((0 : Int32)), r52.2) else some (((1 : Int32)) + ((2 : Int32)), r52.2))) else none))))))) R → Ev (fun m => Ti_within_f m (D.1 0 0) (J k) (rn D κ)) R := fun R e => by
      unfold Ti_within_f
      refine Ev.ob (Ev.cn (a := some (D.1 1 0)) (by simp only [rd0 k0])) (Ev.obs (Ev.pos (rd1 k1).1 (Ev.ob ⟨0, fun m _ => s1 m⟩ (Ev.bn (Ev.oeS ?_)))))
      exact Ev.ob (Ev.cn (a := some (D.1 6 1)) (by simp only [rd0 k0])) (Ev.ob (Ev.cn (a := some (D.1 6 (2 * k + 2))) (by simp only [rd19 k19.1])) (Ev.obs (Ev.pos (rd6 z1.1).1 e)))
    have two : ∀ (a : Int32) (R : Int32 × xH) (b : Int32), Ev (fun m => Zo_liesIn_f m 0 (D.1 6 (2 * k + 2)) (some (D.1 6 1)) 0 (rn D κ)) (b, rn D κ) → R = (if b = 0 then a + 0 else a + 2, rn D κ) → Ev (fun m => obd (gq (rn D κ) (D.1 19 k) 2 3) (fun w25 => obd (gq (rn D κ) (D.1 0 0) 4 1) (fun w30 => obd w25 (fun a35 => (if kc (rn D κ) (a35) 1 = true then obd (Zo_liesIn_f m 0 (a35) (w30) 0 (rn D κ)) (fun r36 => (if r36.1 = 0 then some (a + ((0 : Int32)), r36.2) else some (a + ((2 : Int32)), r36.2))) else none))))) R := fun a R b e eR => by
      rw [eR]
      refine Ev.ob (Ev.cn (a := some (D.1 6 (2 * k + 2))) (by simp only [rd19 k19.1])) (Ev.ob (Ev.cn (a := some (D.1 6 1)) (by simp only [rd0 k0])) (Ev.obs (Ev.pos (rd6 zb.1).1 (Ev.ob e ?_))))
      by_cases g : b = 0
      · have e : (if b = 0 then a + 0 else a + 2) = a + 0 := if_pos g
        rw [e]
        exact Ev.pos g Ev.ret
      · have e : (if b = 0 then a + 0 else a + 2) = a + 2 := if_neg g
        rw [e]
        exact Ev.neg g Ev.ret
    have e44 : su σ 0 0 0 44 0 = σ 44 0 := su_n (by decide)
    rcases H.1.1 with t | t
    · have t : σ 44 0 = 0 := t
      have cz : cagr 4 (κ 7 1) (hq σ).1 := (H.1.2.2 t).1
      rw [e6, t, if_pos rfl, c0, if_pos rfl] at l1
      rw [c0, if_pos rfl, e6, t, if_pos rfl] at l2
      have w := wth_is (su σ 0 0 0) k
      have zt : ∀ m, m < 20 → (hq σ).1 m = su σ 0 0 0 43 m := fun m hm => by
        show (if m < 25 then σ 43 m else σ 15 m) = _
        rw [if_pos (by omega), su_n (by decide)]
      have xt : ∀ m, σ 25 (25 * k + m) = su σ 0 0 0 25 (25 * k + m) := fun m => by rw [su_n (by decide)]
      have q1 : cli (κ 7 1) (κ 7 (2 * k + 2)) 16 0 = 0 ↔ (it (wth (su σ 0 0 0) k) 0 20 (1, 1)).1 = 0 := by
        rw [w.1, cli_20 cz c]
        refine not_congr (forall_congr' fun m => forall_congr' fun hm => ?_)
        show (m % 5 ≠ 4 → ¬ (σ 25 (25 * k + m) < (hq σ).1 m)) ↔ _
        rw [zt m hm, xt m]
      have q2 : cli (κ 7 (2 * k + 2)) (κ 7 1) 16 0 = 0 ↔ (it (wth (su σ 0 0 0) k) 0 20 (1, 1)).2 = 0 := by
        rw [w.2, cli_20 c cz]
        refine not_congr (forall_congr' fun m => forall_congr' fun hm => ?_)
        show (m % 5 ≠ 4 → ¬ ((hq σ).1 m < σ 25 (25 * k + m))) ↔ _
        rw [zt m hm, xt m]
      have wq := within_q (τ := τ) (s := su σ 0 0 0) (show k < 200 by omega)
      refine ⟨(if (it (wth (su σ 0 0 0) k) 0 20 (1, 1)).1 = 0 then (if (it (wth (su σ 0 0 0) k) 0 20 (1, 1)).2 = 0 then 0 + 0 else 0 + 2) else (if (it (wth (su σ 0 0 0) k) 0 20 (1, 1)).2 = 0 then 1 + 0 else 1 + 2)), preC _ ?_, preR _ ?_⟩
      · refine Ev.ob l1 ?_
        by_cases g : cli (κ 7 1) (κ 7 (2 * k + 2)) 16 0 = 0
        · rw [if_pos (q1.mp g)]
          refine Ev.pos g (two 0 _ _ l2 ?_)
          by_cases g2 : cli (κ 7 (2 * k + 2)) (κ 7 1) 16 0 = 0
          · rw [if_pos (q2.mp g2), if_pos g2]
          · rw [if_neg (fun t => g2 (q2.mpr t)), if_neg g2]
        · rw [if_neg (fun t => g (q1.mpr t))]
          refine Ev.neg g (two 1 _ _ l2 ?_)
          by_cases g2 : cli (κ 7 (2 * k + 2)) (κ 7 1) 16 0 = 0
          · rw [if_pos (q2.mp g2), if_pos g2]
          · rw [if_neg (fun t => g2 (q2.mpr t)), if_neg g2]
      · unfold Mo_within_t0
        simp only [bnd]
        exact Ev.ob ⟨0, fun m _ => s2 m⟩ (Ev.neg i10 (Ev.pos (e44.trans t) wq))
    · have t : σ 44 0 = 1 := t
      rw [e6, t, if_neg (by decide)] at l1
      rw [c0, if_pos rfl, e6, t, if_neg (by decide)] at l2
      refine ⟨1, preC _ (Ev.ob l1 (Ev.neg i10 (two 1 _ _ l2 rfl))), preR _ ?_⟩
      unfold Mo_within_t0
      simp only [bnd]
      exact Ev.ob ⟨0, fun m _ => s2 m⟩ (Ev.neg i10 (Ev.neg (by show ¬ (su σ 0 0 0 44 0 = 0); rw [e44, t]; decide) Ev.ret))
  · obtain ⟨s1, s2⟩ := PW.st_out (τ := τ) h p hx
    refine ⟨-1, ?_, preR _ ?_⟩
    · unfold Ti_within_f
      exact Ev.ob (Ev.cn (a := some (D.1 1 0)) (by simp only [rd0 k0])) (Ev.obs (Ev.pos (rd1 k1).1 (Ev.ob ⟨0, fun m _ => s1 m⟩ (Ev.bn (Ev.oeN Ev.ret)))))
    · unfold Mo_within_t0
      simp only [bnd]
      exact Ev.ob ⟨0, fun m _ => s2 m⟩ (Ev.pos rfl Ev.ret)
end HCall5

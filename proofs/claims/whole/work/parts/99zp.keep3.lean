/-! rows of places, of bounds: class and reference -/
section KP3
variable {D : kD} {κ : kS} {σ : mS} {τ : mL} {z : Nat}
theorem pa_x {h : xH} {a kd n i : Nat} {g : Nat → Int32} (hi : i < n) (hn : n < 1000) (v : Int32) : pa (xup h a (.inl (kd, n, .inl g))) a kd (J i) v = some (xup h a (.inl (kd, n, .inl (upd g i v)))) := by
  unfold pa
  rw [xup_eq]
  dsimp only
  rw [if_pos rfl, if_pos (xin_J hi (by omega)), xup_xup, J_nat (by omega)]
theorem pl_x {h : xH} {a n i : Nat} {g : Nat → Int64} (hi : i < n) (hn : n < 1000) (v : Int64) : pl (xup h a (.inl (1, n, .inr (.inl g)))) a (J i) v = some (xup h a (.inl (1, n, .inr (.inl (vp_updL g i v))))) := by
  unfold pl
  rw [xup_eq]
  dsimp only
  rw [if_pos rfl, if_pos (xin_J hi (by omega)), xup_xup, J_nat (by omega)]
def wrI (v : Nat → Int32) (i : Nat) (g : Nat → Int32) : Nat → Int32 := upd g i (v i)
def wrL (v : Nat → Int64) (i : Nat) (g : Nat → Int64) : Nat → Int64 := vp_updL g i (v i)
theorem wrI_is (v : Nat → Int32) (m : Nat) (g : Nat → Int32) : ∀ i, i < m → it (wrI v) 0 m g i = v i := it_inv (wrI v) (fun k G => ∀ i, i < k → G i = v i) m (fun k G hk hG i hi => by
  unfold wrI upd
  by_cases e : i = k
  · rw [if_pos e, e]
  · rw [if_neg e]; exact hG i (by omega)) m 0 g (by omega) (fun i hi => absurd hi (Nat.not_lt_zero _))
theorem wrL_is (v : Nat → Int64) (m : Nat) (g : Nat → Int64) : ∀ i, i < m → it (wrL v) 0 m g i = v i := it_inv (wrL v) (fun k G => ∀ i, i < k → G i = v i) m (fun k G hk hG i hi => by
  unfold wrL vp_updL
  by_cases e : i = k
  · rw [if_pos e, e]
  · rw [if_neg e]; exact hG i (by omega)) m 0 g (by omega) (fun i hi => absurd hi (Nat.not_lt_zero _))
/-- the reference's row filled -/
def rwT (d : Nat) (v : Nat → Int64) (i : Nat) (τ : mL) : mL := sl τ 50 (60 * d + i) (v i)
theorem rwT_is (d m : Nat) (v : Nat → Int64) (τ : mL) : (∀ i, i < m → it (rwT d v) 0 m τ 50 (60 * d + i) = v i) ∧ ∀ a b, ¬ (a = 50 ∧ 60 * d ≤ b ∧ b < 60 * d + m) → it (rwT d v) 0 m τ a b = τ a b := by
  have r := it_inv (rwT d v) (fun k T => (∀ i, i < k → T 50 (60 * d + i) = v i) ∧ ∀ a b, ¬ (a = 50 ∧ 60 * d ≤ b ∧ b < 60 * d + k) → T a b = τ a b) m (fun k T hk hT => by
    unfold rwT
    refine ⟨fun i hi => ?_, fun a b hab => ?_⟩
    · unfold sl
      by_cases e : i = k
      · rw [if_pos ⟨rfl, by rw [e]⟩, e]
      · rw [if_neg (by omega)]
        exact hT.1 i (by omega)
    · unfold sl
      rw [if_neg (fun t => hab ⟨t.1, by omega, by omega⟩)]
      exact hT.2 a b (fun t => hab ⟨t.1, t.2.1, by omega⟩)) m 0 τ (by omega) ⟨fun i hi => absurd hi (Nat.not_lt_zero _), fun a b _ => rfl⟩
  exact r
theorem short5 : ∀ p, p ≤ 5 → Int16.toInt32 (Int32.toInt16 (J p)) = J p := by decide
theorem rowP_c (hY : YW D κ σ) (p : PW κ σ) (hF : FZ D κ z) {k : Nat} (hk : k = min 60 (N (σ 22 0))) : Ev (fun n => Ti_rowOfPlaces_f n 0 (D.1 0 0) 0 none 0 (rn D κ) z) (some (z + 1), xup (xup (rn D κ) z (.inl (3, k, .inl (it (wrI (fun i => σ 24 (3 * i))) 0 k (fun _ => 0))))) (z + 1) (.inr (8, [.ref z])), 2, k + 1) := by
  have k0 := hY.1.2.1 0 (by decide) (by decide) (by decide)
  have k1 := hY.1.k1
  have l0 := kI_lt hF k0
  have l1 := kI_lt hF k1
  have s2 := p.2.1
  have ec : κ 1 0 3 = J (N (σ 22 0)) := p.1.trans s2.1
  have eS : (if (60 : Int32) < κ 1 0 3 then (60 : Int32) else κ 1 0 3) = J k := by
    rw [ec, show (60 : Int32) = J 60 from rfl]
    by_cases g : 60 < N (σ 22 0)
    · rw [if_pos ((J_lt (by omega) (by have := s2.2; omega)).mpr g), hk]
      congr 1
      omega
    · rw [if_neg (fun t => g ((J_lt (by omega) (by have := s2.2; omega)).mp t)), hk]
      congr 1
      omega
  have kl : k ≤ 60 := by omega
  have eM : (if J k < (0 : Int32) then (0 : Int32) else J k) = J k := if_neg (J_nneg (by omega))
  have nk : Int32.toNatClampNeg (J k) = k := J_nat (by omega)
  have hnb : nb (J k) = true := by
    unfold nb
    rw [nk]
    have : ¬ (J k < 0) := J_nneg (by omega)
    simp only [this, decide_false, Bool.not_false, Bool.true_and, decide_eq_true_eq]
    omega
  refine Ev.succ (fun n => Ti_rowOfPlaces_e0 n _ _ _ _ _ _) ?_
  unfold Ti_rowOfPlaces_t0
  refine Ev.ob (Ev.cn (a := some (D.1 1 0)) (by simp only [rd0 k0])) (Ev.obs (Ev.ob (Ev.cn (a := κ 1 0 3) (by simp only [rd1 k1])) ?_))
  simp only [eS, eM, nk]
  refine Ev.pos hnb ?_
  have inner : Ev (fun n => Ti_rowOfPlaces_f n 23 (D.1 0 0) (J k) (some z) (J 0) (xup (rn D κ) z (.inl (3, k, .inl (fun _ => 0)))) (z + 1)) (some (z + 1), xup (xup (rn D κ) z (.inl (3, k, .inl (it (wrI (fun i => σ 24 (3 * i))) 0 k (fun _ => 0))))) (z + 1) (.inr (8, [.ref z])), 1, 1) := by
    refine Ev.up (f := fun n i g => Ti_rowOfPlaces_f n 23 (D.1 0 0) (J k) (some z) (J i) (xup (rn D κ) z (.inl (3, k, .inl g))) (z + 1)) k (wrI (fun i => σ 24 (3 * i))) (fun _ _ => True) (fun _ _ _ _ => trivial) (fun i g hi _ ee => ?_) k 0 (fun _ => 0) (by omega) trivial ?_
    · have hi2 : i < N (σ 22 0) := by omega
      have l19 := hY.1.2.2.2.2.1 i (by have := p.2.2.2.1; omega)
      obtain ⟨sr, -, pp, p5, ep⟩ := p.2.2.2.2.2.1 i hi2
      have ev : κ 20 i 0 = J pp := by rw [sr.1 0 (by omega)]; exact ep
      have ll19 := kI_lt hF l19.1
      have ll20 := kI_lt hF l19.2.1
      refine Ev.succ (fun n => Ti_rowOfPlaces_e23 n _ _ _ _ _ _) ?_
      unfold Ti_rowOfPlaces_t23
      refine Ev.obs (Ev.ob (Ev.cn (al_of (v := (k, .inl g)) xup_eq)) (Ev.neg (by rw [J_le (by omega) (by omega)]; omega) ?_))
      refine Ev.ob (Ev.cn (a := some (D.1 1 0)) (by rw [gq_ne (by omega)]; simp only [rd0 k0])) (Ev.obs (Ev.pos (by unfold kc; rw [xup_ne (by omega)]; exact (rd1 k1).1) ?_))
      refine Ev.ob ⟨0, fun n _ => stA_x hY p hF hi2 _ n⟩ (Ev.bn (Ev.oeS ?_))
      refine Ev.ob (Ev.cn (a := some (D.1 20 i)) (by rw [gq_ne (by omega)]; simp only [rd19 l19.1])) (Ev.obs ?_)
      refine Ev.ob (Ev.cn (a := J pp) (by
        unfold ai
        dsimp only
        rw [xup_ne (by omega)]
        have := kra20 (κ := κ) l19.2.1 (i := 0) (by omega)
        unfold ai at this
        rw [← ev]
        exact this)) (Ev.ob (Ev.cn (pa_x hi (by omega) _)) ?_)
      rw [short5 pp p5, show J i + 1 = J (i + 1) from J_add i 1]
      have e2 : wrI (fun i => σ 24 (3 * i)) i g = upd g i (J pp) := by
        unfold wrI
        dsimp only
        rw [ep]
      rw [e2] at ee
      exact ee
    · refine Ev.succ (fun n => Ti_rowOfPlaces_e23 n _ _ _ _ _ _) ?_
      unfold Ti_rowOfPlaces_t23
      refine Ev.obs (Ev.ob (Ev.cn (al_of (v := (k, .inl (it (wrI (fun i => σ 24 (3 * i))) 0 k (fun _ => 0)))) xup_eq)) (Ev.pos (by rw [J_le (by omega) (by omega)]; omega) ?_))
      refine Ev.oa0 (Ev.bn (Ev.ob (a := ((0 : Int32), xup (xup (rn D κ) z (.inl (3, k, .inl (it (wrI (fun i => σ 24 (3 * i))) 0 k (fun _ => 0))))) (z + 1) (.inr (8, [.ref z])))) ⟨0, fun n _ => ?_⟩ Ev.ret))
      unfold Sr_init_f Ro_init_f He_init_f
      simp only [obd]
      have := pf_x (h := xup (rn D κ) z (.inl (3, k, .inl (it (wrI (fun i => σ 24 (3 * i))) 0 k (fun _ => 0))))) (a := z + 1) (ci := 8) (k := 0) (fs := [.null]) (v := .ref z) (by show 0 < 1; decide)
      rw [show va_rf (some z) = .ref z from rfl, this]
      rfl
  have r := Ev.oad (a := 1) (b := k) inner
  rw [show 1 + 1 = 2 from rfl, Nat.add_comm 1 k] at r
  exact r
theorem d16 : ∀ i, i < 16 → J i / 4 = J (i / 4) ∧ J i - J i / 4 * 4 = J (i % 4) := by decide
theorem rowB_c (hY : YW D κ σ) (hF : FZ D κ z) {j : Nat} (i6 : kI D 6 (2 * j + 2)) (i7 : kI D 7 (2 * j + 2)) {v : Nat → Int64} (hv : ∀ i, i < 16 → v i = Int32.toInt64 (κ 7 (2 * j + 2) ((i / 4) * 4 + i % 4))) : Ev (fun n => Ti_rowOfBounds_f n 0 (some (D.1 6 (2 * j + 2))) none 0 (rn D κ) z) (some (z + 1), xup (xup (rn D κ) z (.inl (1, 16, .inr (.inl (it (wrL v) 0 16 (fun _ => 0)))))) (z + 1) (.inr (9, [.ref z])), 2, 17) := by
  have za := rn_zoA (κ := κ) i6 i7
  rw [zn_e] at za
  have l6 := kI_lt hF i6
  have l7 := kI_lt hF i7
  refine Ev.succ (fun n => Ti_rowOfBounds_e0 n _ _ _ _ _) ?_
  unfold Ti_rowOfBounds_t0
  have inner : Ev (fun n => Ti_rowOfBounds_f n 7 (some (D.1 6 (2 * j + 2))) (some z) (J 0) (xup (rn D κ) z (.inl (1, 16, .inr (.inl (fun _ => 0))))) (z + 1)) (some (z + 1), xup (xup (rn D κ) z (.inl (1, 16, .inr (.inl (it (wrL v) 0 16 (fun _ => 0)))))) (z + 1) (.inr (9, [.ref z])), 1, 1) := by
    refine Ev.up (f := fun n i g => Ti_rowOfBounds_f n 7 (some (D.1 6 (2 * j + 2))) (some z) (J i) (xup (rn D κ) z (.inl (1, 16, .inr (.inl g)))) (z + 1)) 16 (wrL v) (fun _ _ => True) (fun _ _ _ _ => trivial) (fun i g hi _ ee => ?_) 16 0 (fun _ => 0) (by omega) trivial ?_
    · have zx : zoA (xup (rn D κ) z (.inl (1, 16, .inr (.inl g)))) (D.1 6 (2 * j + 2)) (D.1 7 (2 * j + 2)) 4 (κ 7 (2 * j + 2)) (κ 6 (2 * j + 2) 2) := ⟨za.1, by rw [xup_ne (by omega)]; exact za.2.1, by rw [xup_ne (by omega)]; exact za.2.2⟩
      refine Ev.succ (fun n => Ti_rowOfBounds_e7 n _ _ _ _ _) ?_
      unfold Ti_rowOfBounds_t7
      refine Ev.obs (Ev.ob (Ev.cn (al_of (v := (16, .inr (.inl g))) xup_eq)) (Ev.neg (by rw [J_le (by omega) (by omega)]; omega) (Ev.obs (Ev.pos (zoA_kc zx) ?_))))
      have d := d16 i hi
      rw [d.2, d.1]
      refine Ev.ob ⟨0, fun n _ => at_A zx (by omega) (show i / 4 < 4 by omega) (show i % 4 < 4 by omega) n⟩ (Ev.ob (Ev.cn (pl_x hi (by omega) _)) ?_)
      rw [show J i + 1 = J (i + 1) from J_add i 1]
      have e2 : wrL v i g = vp_updL g i (Int32.toInt64 (κ 7 (2 * j + 2) ((i / 4) * 4 + i % 4))) := by
        unfold wrL
        rw [hv i hi]
      rw [e2] at ee
      exact ee
    · refine Ev.succ (fun n => Ti_rowOfBounds_e7 n _ _ _ _ _) ?_
      unfold Ti_rowOfBounds_t7
      refine Ev.obs (Ev.ob (Ev.cn (al_of (v := (16, .inr (.inl (it (wrL v) 0 16 (fun _ => 0))))) xup_eq)) (Ev.pos (by rw [J_le (by omega) (by omega)]; omega) ?_))
      refine Ev.oa0 (Ev.bn (Ev.ob (a := ((0 : Int32), xup (xup (rn D κ) z (.inl (1, 16, .inr (.inl (it (wrL v) 0 16 (fun _ => 0)))))) (z + 1) (.inr (9, [.ref z])))) ⟨0, fun n _ => ?_⟩ Ev.ret))
      unfold Lr_init_f Ro_init_f He_init_f
      simp only [obd]
      have := pf_x (h := xup (rn D κ) z (.inl (1, 16, .inr (.inl (it (wrL v) 0 16 (fun _ => 0)))))) (a := z + 1) (ci := 9) (k := 0) (fs := [.null]) (v := .ref z) (by show 0 < 1; decide)
      rw [show va_rf (some z) = .ref z from rfl, this]
      rfl
  have r := Ev.oad (a := 1) (b := 16) inner
  exact r
end KP3

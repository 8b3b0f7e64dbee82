/-! THE HAND: one operation, the class's and the reference's -/
/-- good after n calls -/
def hN (n : Nat) (Z : Nat → Int32) : Prop := hI (40606 + 802 * (n : Int)) 40605 802 20303 (61000 + 40608 * (n : Int)) Z
theorem hI_mono {S S' T1 TF K L L' : Int} {Z : Nat → Int32} (hS : S ≤ S') (hL : L ≤ L') (h : hI S T1 TF K L Z) : hI S' T1 TF K L' Z := by
  obtain ⟨⟨a, b, c, d, e, f, g⟩, w⟩ := h
  refine ⟨⟨a, b, c, d, fun q x i hq hx hi d1 d2 d3 h1 h2 => ?_, f, g⟩, fun v hv => ?_⟩
  · have := e q x i hq hx hi d1 d2 d3 (by omega) h2
    omega
  · obtain ⟨u, u1, u2, u3⟩ := w v hv
    exact ⟨u, u1, u2, fun i j hi hj => by have := u3 i j hi hj; omega⟩
theorem hN_mono {n m : Nat} {Z : Nat → Int32} (hm : n ≤ m) (h : hN n Z) : hN m Z := hI_mono (by omega) (by omega) h
theorem hI_cg {S T1 TF K L : Int} {Z Y : Nat → Int32} (e : ∀ i j, i < 4 → j < 4 → Y (5 * i + j) = Z (5 * i + j)) (h : hI S T1 TF K L Z) : hI S T1 TF K L Y := by
  have en : nz Y = nz Z := by
    funext i j
    unfold nz zi
    by_cases g : i < 4 ∧ j < 4
    · rw [if_pos g, if_pos g, e i j g.1 g.2]
    · rw [if_neg g, if_neg g]
  unfold hI
  rw [en]
  exact h
theorem hN_cg {n : Nat} {Z Y : Nat → Int32} (e : ∀ i j, i < 4 → j < 4 → Y (5 * i + j) = Z (5 * i + j)) (h : hN n Z) : hN n Y := hI_cg e h
theorem hN_cl {n : Nat} (hn : n ≤ 512) {Z : Nat → Int32} (h : hN n Z) : em 4 (cl 4 Z) 0 = 0 ∧ ∀ i j, i < 4 → j < 4 → cl 4 Z (5 * i + j) = Z (5 * i + j) := hI_cl (by omega) (by omega) h
theorem nmh_n {n : Nat} (hn : n ≤ 512) : nmh 40605 (40606 + 802 * (n : Int)) 40605 802 ∧ nmh 40605 (40606 + 802 * (n : Int)) 40605 40605 := by
  have := AN_is
  unfold nmh
  omega
/-- class and reference: THE HAND after n calls -/
def qR (n : Nat) (q' q : zQ) : Prop := (q.2 = 0 ∨ q.2 = 1) ∧ q'.2 = q.2 ∧ (q.2 = 0 → cagr 4 q'.1 q.1 ∧ hN n q.1)
theorem qR_mono {n m : Nat} {q' q : zQ} (hm : n ≤ m) (h : qR n q' q) : qR m q' q := ⟨h.1, h.2.1, fun e => ⟨(h.2.2 e).1, hN_mono hm (h.2.2 e).2⟩⟩
theorem ccl_dead {n : Nat} {q : zQ} (h : q.2 = 1) : ccl n q = q := ccS_dead h n 0
theorem cagr_tr {f Z Y : Nat → Int32} (h : cagr 4 f Z) (e : ∀ i j, i < 4 → j < 4 → Z (5 * i + j) = Y (5 * i + j)) : cagr 4 f Y := fun i j hi hj => (h i j hi hj).trans (e i j hi hj)
/-- closing what is the same as Z, where the reference closes too -/
theorem qR_cl {n : Nat} {f Z : Nat → Int32} (h : cagr 4 f Z) (g : em 4 (cl 4 Z) 0 = 0 → hN n (cl 4 Z)) : qR n (ccl 4 (f, 0)) (qcl 4 (Z, 0)) := by
  obtain ⟨a, b⟩ := ccl_is (by omega) (by omega) h
  have hz := em_zb 4 (cl 4 Z) (e := 0) (Or.inl rfl)
  rw [show qcl 4 (Z, 0) = (cl 4 Z, em 4 (cl 4 Z) 0) from rfl]
  generalize em 4 (cl 4 Z) 0 = E at a b g hz ⊢
  generalize cl 4 Z = W at b g ⊢
  exact ⟨hz, a, fun e => ⟨b e, g e⟩⟩
/-- closing what is the same as Z, where the reference doesn't close -/
theorem qR_id {n : Nat} (hn : n ≤ 512) {f Z : Nat → Int32} (h : cagr 4 f Z) (g : hN n Z) : qR n (ccl 4 (f, 0)) (Z, 0) := by
  obtain ⟨a, b⟩ := ccl_is (by omega) (by omega) h
  obtain ⟨c, d⟩ := hN_cl hn g
  exact ⟨Or.inl rfl, a.trans c, fun _ => ⟨cagr_tr (b c) d, g⟩⟩
theorem qR_dead {n : Nat} {r' r : zQ} (e' : r'.2 = 1) (e : r.2 = 1) : qR n r' r := ⟨Or.inr e, e'.trans e.symm, fun t => absurd (e.symm.trans t) (by decide)⟩
section QR
variable {n : Nat} {q' q : zQ}
theorem qR_tg (hn : n < 512) (h : qR n q' q) {i j : Nat} (hi : i < 4) (hj : j < 4) (hij : i ≠ j) {w : Int32} (hw : -801 ≤ w.toInt ∧ w.toInt ≤ 801) : qR (n + 1) (ccl 4 (fu q'.1 (i * 4 + j) (if w < q'.1 (i * 4 + j) then w else q'.1 (i * 4 + j)), q'.2)) (qtg 4 i j w q) := by
  obtain ⟨f, e'⟩ := q'
  obtain ⟨Z, e⟩ := q
  obtain ⟨h1, h2, h3⟩ := h
  have h1 : e = 0 ∨ e = 1 := h1
  have h2 : e' = e := h2
  subst h2
  rcases h1 with h1 | h1
  · subst h1
    obtain ⟨c, g⟩ := h3 rfl
    have c : cagr 4 f Z := c
    have g : hN n Z := g
    have ec : f (i * 4 + j) = Z (5 * i + j) := c i j hi hj
    by_cases hlt : w.toInt < zi Z i j
    · have hl2 : w < Z (5 * i + j) := i32_lt.mpr hlt
      have e1 : (if w < f (i * 4 + j) then w else f (i * 4 + j)) = w := by rw [ec]; exact if_pos hl2
      show qR (n + 1) (ccl 4 (fu f (i * 4 + j) (if w < f (i * 4 + j) then w else f (i * 4 + j)), 0)) _
      rw [e1, qtg_cut hlt]
      refine qR_mono (Nat.le_succ n) (qR_cl (cagr_fu (by omega) c hj w) (fun he => ?_))
      have r := hI_tg (TF' := 802) (nmh_n (show n ≤ 512 by omega)).1 (by omega) (by omega) (by omega) g hi hj hij (b := w) (by omega) (by omega) (Int.le_refl _) hlt
      rcases r with ⟨_, r, _⟩ | ⟨r, _⟩
      · exact r
      · rw [he] at r
        exact absurd r (by decide)
    · have hl2 : ¬ (w < Z (5 * i + j)) := fun t => hlt (i32_lt.mp t)
      have e1 : (if w < f (i * 4 + j) then w else f (i * 4 + j)) = f (i * 4 + j) := by rw [ec]; exact if_neg hl2
      show qR (n + 1) (ccl 4 (fu f (i * 4 + j) (if w < f (i * 4 + j) then w else f (i * 4 + j)), 0)) _
      have e2 : fu f (i * 4 + j) (f (i * 4 + j)) = f := by
        funext x
        by_cases hx : x = i * 4 + j
        · rw [hx, fu_e]
        · rw [fu_n hx]
      rw [e1, e2, qtg_same (show zi Z i j ≤ w.toInt by omega)]
      exact qR_mono (Nat.le_succ n) (qR_id (by omega) c g)
  · have e1 : qtg 4 i j w (Z, e') = (Z, e') := by
      unfold qtg
      rw [if_neg (by show ¬ (e' = 0); rw [h1]; decide)]
    rw [e1, ccl_dead (show (fu f (i * 4 + j) (if w < f (i * 4 + j) then w else f (i * 4 + j)), e').2 = 1 from h1)]
    exact qR_dead h1 h1
theorem qR_split (h : qR n q' q) : (q.2 = 0 ∧ q' = (q'.1, 0) ∧ q = (q.1, 0) ∧ cagr 4 q'.1 q.1 ∧ hN n q.1) ∨ (q.2 = 1 ∧ q'.2 = 1) := by
  obtain ⟨f, e'⟩ := q'
  obtain ⟨Z, e⟩ := q
  obtain ⟨h1, h2, h3⟩ := h
  have h1 : e = 0 ∨ e = 1 := h1
  have h2 : e' = e := h2
  subst h2
  rcases h1 with h1 | h1
  · exact Or.inl ⟨h1, by rw [h1], by rw [h1], (h3 h1).1, (h3 h1).2⟩
  · exact Or.inr ⟨h1, h1⟩
theorem hN_d {Z : Nat → Int32} (h : hN n Z) : ∀ i, i < 4 → zi Z i i = 1 := (hI_rg (by omega) h).2
theorem hN_r {Z : Nat → Int32} (h : hN n Z) : ∀ j, j < 4 → zi Z 0 j ≤ 1 := fun j hj => by
  have := h.1.2.2.1 j hj
  rw [nz_in _ (by omega) hj] at this
  exact this
theorem qR_ps (hn : n < 512) (h : qR n q' q) : qR (n + 1) (ccl 4 (cel 4 q'.1, q'.2)) (qps 4 q) := by
  rcases qR_split h with ⟨e, e1, e2, c, g⟩ | ⟨e, e'⟩
  · have hc : cagr 4 (cel 4 q'.1) (pz 4 q.1) := cagr_of (fun i j hi hj => by
      rw [cel_ci hi hj, pz_zi (by omega) hi hj]
      unfold pm
      rw [cagr_ci c i j hi hj])
    have eq : qps 4 q = (pz 4 q.1, 0) := by
      unfold qps
      rw [if_pos e, e]
    rw [eq, show q'.2 = 0 by rw [e1]]
    refine qR_id (by omega) hc ?_
    have k := hI_pass (by omega) g
    exact hI_mono (by omega) (by omega) k
  · have eq : qps 4 q = q := by
      unfold qps
      rw [if_neg (by rw [e]; decide)]
    rw [eq, ccl_dead (show (cel 4 q'.1, q'.2).2 = 1 from e')]
    exact qR_dead e' e
theorem qR_sn (hn : n < 512) (h : qR n q' q) (c : Int32) : qR (n + 1) (ccl 4 (crs 4 c q'.1, q'.2)) (qsn 4 c q) := by
  rcases qR_split h with ⟨e, e1, e2, k, g⟩ | ⟨e, e'⟩
  · have d0 := hN_d g 0 (by omega)
    have hc : cagr 4 (crs 4 c q'.1) (sn q.1 4 c q.1) := cagr_of (fun i j hi hj => by
      rw [crs_ci (by omega) (by rw [cagr_ci k 0 0 (by omega) (by omega)]; exact d0) c hi hj, sn_zi (by omega) (by omega) d0 c hi hj]
      exact cagr_ci k _ _ ((rc_ok 4 c).lt hi) ((rc_ok 4 c).lt hj))
    have eq : qsn 4 c q = (sn q.1 4 c q.1, 0) := by
      unfold qsn
      rw [if_pos e, e]
    rw [eq, show q'.2 = 0 by rw [e1]]
    refine qR_id (by omega) hc ?_
    have r := hI_set (nmh_n (show n ≤ 512 by omega)).1 (by omega) (by omega) (by omega) g c
    exact hI_mono (by omega) (by omega) r
  · have eq : qsn 4 c q = q := by
      unfold qsn
      rw [if_neg (by rw [e]; decide)]
    rw [eq, ccl_dead (show (crs 4 c q'.1, q'.2).2 = 1 from e')]
    exact qR_dead e' e
theorem qR_lt (hn : n < 512) (h : qR n q' q) (he : q.2 = 0) {g : Nat → Int32} (hg : ∀ i, i < 4 → 0 ≤ (g i).toInt ∧ (g i).toInt ≤ 200) : qR (n + 1) (ccl 4 ((lnz 4 g (q'.1, 0)).1, 0)) (qlt g q) := by
  rcases qR_split h with ⟨e, e1, e2, k, G⟩ | ⟨e, _⟩
  · have dz := hN_d G
    have eq : qlt g q = qcl 4 (lt g q.1, 0) := by
      unfold qlt
      rw [if_pos e, e]
    have dc : ∀ i, i < 4 → ci 4 q'.1 i i = 1 := fun i hi => by rw [cagr_ci k i i hi hi]; exact dz i hi
    have hc : cagr 4 (lnz 4 g (q'.1, 0)).1 (lt g q.1) := cagr_of (fun i j hi hj => by
      rw [(lnz_ci hg dc).1 i j hi hj, lt_zi hg (hN_r G) hi hj]
      unfold lgM
      rw [cagr_ci k i j hi hj])
    rw [eq]
    exact qR_mono (Nat.le_succ n) (qR_cl hc (fun h0 => hI_let hg (by omega) (by omega) (by omega) (by omega) (by omega) G h0))
  · rw [he] at e
    exact absurd e (by decide)
/-- the bounds of both -/
def mnY (Z X : Nat → Int32) : Nat → Int32 := fun x => if X x < Z x then X x else Z x
theorem cuz_is {f2 f X Z : Nat → Int32} (h2 : cagr 4 f2 X) (h : cagr 4 f Z) : cagr 4 (cuz 4 f2 f) (mnY Z X) := by
  have row : ∀ i, i < 4 → ∀ W V : Nat → Int32, (∀ a c, a < 4 → c < 4 → W (a * 4 + c) = if a < i then mnY Z X (5 * a + c) else Z (5 * a + c)) → ∀ a c, a < 4 → c < 4 → it (cu1 4 f2 i) 0 4 W (a * 4 + c) = if a < i + 1 then mnY Z X (5 * a + c) else Z (5 * a + c) := fun i hi W V hW => by
    have r := it_inv (cu1 4 f2 i) (fun d Y => ∀ a c, a < 4 → c < 4 → Y (a * 4 + c) = if a < i ∨ (a = i ∧ c < d) then mnY Z X (5 * a + c) else Z (5 * a + c)) 4 (fun d Y hd hY a c ha hc => by
      unfold cu1
      have v := hY i d hi hd
      rw [if_neg (by omega)] at v
      unfold fu
      by_cases g : a = i ∧ c = d
      · rw [if_pos (show a * 4 + c = i * 4 + d by rw [g.1, g.2]), v, h2 i d hi hd, if_pos (show a < i ∨ a = i ∧ c < d + 1 by omega), g.1, g.2]
        rfl
      · rw [if_neg (fun t => g ((ixn hc hd).mp t)), hY a c ha hc]
        by_cases g2 : a < i ∨ (a = i ∧ c < d)
        · rw [if_pos g2, if_pos (by omega)]
        · rw [if_neg g2, if_neg (by omega)]) 4 0 W (by omega) (fun a c ha hc => by
        rw [hW a c ha hc]
        by_cases g : a < i
        · rw [if_pos g, if_pos (Or.inl g)]
        · rw [if_neg g, if_neg (by omega)])
    intro a c ha hc
    rw [r a c ha hc]
    by_cases g : a < i + 1
    · rw [if_pos g, if_pos (by omega)]
    · rw [if_neg g, if_neg (by omega)]
  have r := it_inv (fun i f => it (cu1 4 f2 i) 0 4 f) (fun i W => ∀ a c, a < 4 → c < 4 → W (a * 4 + c) = if a < i then mnY Z X (5 * a + c) else Z (5 * a + c)) 4 (fun i W hi hW => row i hi W W hW) 4 0 f (by omega) (fun a c ha hc => by rw [if_neg (by omega)]; exact h a c ha hc)
  intro i j hi hj
  have := r i j hi hj
  rw [if_pos hi] at this
  exact this
theorem qR_meet (hn : n < 512) (h : qR n q' q) {f2 Sz : Nat → Int32} {k : Nat} (h2 : cagr 4 f2 (fun x => Sz (25 * k + x))) (hZ : zsOk 40605 802 (zs Sz k)) : qR (n + 1) (ccl 4 (cuz 4 f2 q'.1, q'.2)) (qm Sz k q) := by
  rcases qR_split h with ⟨e, e1, e2, c, g⟩ | ⟨e, e'⟩
  · have hc := cuz_is h2 c
    have hY : ∀ i j, i < 4 → j < 4 → zi (mnY q.1 (fun x => Sz (25 * k + x))) i j = min (zi q.1 i j) (zs Sz k i j) := fun i j hi hj => by
      unfold zi mnY zs
      dsimp only
      by_cases t : Sz (25 * k + (5 * i + j)) < q.1 (5 * i + j)
      · rw [if_pos t]
        have := i32_lt.mp t
        omega
      · rw [if_neg t]
        have : ¬ ((Sz (25 * k + (5 * i + j))).toInt < (q.1 (5 * i + j)).toInt) := fun u => t (i32_lt.mpr u)
        omega
    obtain ⟨m1, m2⟩ := meet_is (M0 := 40605) (nmh_n (show n ≤ 512 by omega)).2 (by omega) (by omega) (by omega) (by omega) (by omega) g hZ hY
    obtain ⟨a, b⟩ := ccl_is (by omega) (by omega) hc
    rw [← e2] at m1 m2
    rw [show q'.2 = 0 by rw [e1]]
    refine ⟨?_, a.trans m1.symm, fun h0 => ?_⟩
    · rw [m1]
      exact em_zb 4 _ (Or.inl rfl)
    · rw [m1] at h0
      obtain ⟨_, r1, r2⟩ := m2 h0
      exact ⟨cagr_tr (b h0) (fun i j hi hj => (r2 i j hi hj).symm), hN_mono (Nat.le_succ n) r1⟩
  · have dead : ∀ d i, it (qm1 Sz k) i d q = q := by
      intro d
      induction d with
      | zero => intro i; rfl
      | succ d ih =>
        intro i
        show it (qm1 Sz k) (i + 1) d (qm1 Sz k i q) = q
        have e1 : qm1 Sz k i q = q := by
          unfold qm1 qtg
          rw [if_neg (show ¬ (q.2 = 0) by rw [e]; decide)]
          split <;> rfl
        rw [e1]
        exact ih (i + 1)
    have eq : qm Sz k q = q := dead 20 0
    rw [eq, ccl_dead (show (cuz 4 f2 q'.1, q'.2).2 = 1 from e')]
    exact qR_dead e' e
end QR

/-! THE REFERENCE's constructor -/
def mJ (k : Nat) : Nat := (mA.map (fun q => q.1)).idxOf k
def mQ (j : Nat) : Nat × Nat × Nat := mA.getD j (0, 0, 0)
theorem mQ_f : ∀ j, j < 36 → mJ (mQ j).1 = j ∧ (mQ j).1 < 52 ∧ mk (mQ j).1 = some (mQ j).2 := by decide +kernel
theorem mJ_f : ∀ k, k < 52 → (mk k).isSome = true → mJ k < 36 ∧ (mQ (mJ k)).1 = k := by decide +kernel
theorem mk_52 {k : Nat} {p : Nat × Nat} (h : mk k = some p) : k < 52 := by
  rcases Nat.lt_or_ge k 52 with t | t
  · exact t
  · exfalso
    unfold mk mA at h
    simp only [mKf] at h
    repeat (rw [if_neg (by omega)] at h)
    cases h
/-- the object's fields when j rows stand -/
def mfi (z0 j k : Nat) : Value := match mk k with
  | some _ => if mJ k < j then .ref (z0 + mJ k) else .null
  | none => .int 0
def mI (z0 j : Nat) : List Value := (List.range 52).map (mfi z0 j)
def mAr (j : Nat) : xE := if (mQ j).2.1 = 1 then .inl (1, (mQ j).2.2, .inr (.inl (fun _ => 0))) else .inl ((mQ j).2.1, (mQ j).2.2, .inl (fun _ => 0))
def hI2 (h : xH) (o z0 j : Nat) : xH := fun a => if a = o then some (.inr (0, mI z0 j)) else if z0 ≤ a ∧ a < z0 + j then some (mAr (a - z0)) else h a
theorem mI_get (z0 j : Nat) {k : Nat} (hk : k < 52) : (mI z0 j)[k]? = some (mfi z0 j k) := by
  unfold mI
  rw [List.getElem?_map, List.getElem?_range hk]
  rfl
theorem mI_len (z0 j : Nat) : (mI z0 j).length = 52 := by unfold mI; simp
theorem mI_set (z0 : Nat) {j : Nat} (hj : j < 36) : (mI z0 j).set (mQ j).1 (.ref (z0 + j)) = mI z0 (j + 1) := by
  obtain ⟨q1, q2, q3⟩ := mQ_f j hj
  apply List.ext_getElem?
  intro k
  by_cases hk : k < 52
  · rw [mI_get _ _ hk]
    by_cases e : k = (mQ j).1
    · subst e
      rw [List.getElem?_set_self (by rw [mI_len]; exact q2)]
      unfold mfi
      rw [q3]
      dsimp only
      rw [q1, if_pos (by omega)]
    · rw [List.getElem?_set_ne (Ne.symm e), mI_get _ _ hk]
      congr 1
      unfold mfi
      cases hm : mk k with
      | none => rfl
      | some p =>
        dsimp only
        have f := mJ_f k hk (by rw [hm]; rfl)
        have ne : mJ k ≠ j := fun t => e (by rw [← t]; exact f.2.symm)
        by_cases g : mJ k < j
        · rw [if_pos g, if_pos (by omega)]
        · rw [if_neg g, if_neg (by omega)]
  · rw [List.getElem?_eq_none (by rw [List.length_set, mI_len]; omega), List.getElem?_eq_none (by rw [mI_len]; omega)]
section MI
variable {h : xH} {o z0 : Nat}
theorem hI2_o (j : Nat) : hI2 h o z0 j o = some (.inr (0, mI z0 j)) := if_pos rfl
theorem hI2_s {j : Nat} (hj : j < 36) (ho : o < z0) : xup (xup (hI2 h o z0 j) (z0 + j) (mAr j)) o (.inr (0, (mI z0 j).set (mQ j).1 (.ref (z0 + j)))) = hI2 h o z0 (j + 1) := by
  funext a
  unfold xup hI2
  by_cases a1 : a = o
  · rw [if_pos a1, if_pos a1, mI_set z0 hj]
  · simp only [if_neg a1]
    by_cases a2 : a = z0 + j
    · rw [if_pos a2, if_pos (show z0 ≤ a ∧ a < z0 + (j + 1) by omega), a2, show z0 + j - z0 = j by omega]
    · rw [if_neg a2]
      by_cases a3 : z0 ≤ a ∧ a < z0 + j
      · rw [if_pos a3, if_pos (show z0 ≤ a ∧ a < z0 + (j + 1) by omega)]
      · rw [if_neg a3, if_neg (show ¬ (z0 ≤ a ∧ a < z0 + (j + 1)) by omega)]
theorem hI2_0 (hh : h o = some (.inr (0, mI z0 0))) : hI2 h o z0 0 = h := by
  funext a
  unfold hI2
  by_cases a1 : a = o
  · rw [if_pos a1, a1, hh]
  · rw [if_neg a1, if_neg (by omega)]
theorem hI2_x {j : Nat} {e : xE} (ho : o < z0) : xup (hI2 h o z0 j) (z0 + j) e o = some (.inr (0, mI z0 j)) := by
  rw [xup_ne (by omega)]
  exact hI2_o j
def s0 : mS := fun _ _ => 0
def t0 : mL := fun _ _ => 0
theorem hI2_Mo (ho : o < z0) (z : Nat) : Mo (o, fun k => z0 + mJ k, h, z) s0 t0 (hI2 h o z0 36) := by
  refine ⟨?_, fun k kd n hk => ?_, fun i j p q hi hj e => ?_, fun a h1 h2 => ?_⟩
  · rw [hI2_o]
    congr 2
  · have k52 := mk_52 hk
    have f := mJ_f k k52 (by rw [hk]; rfl)
    have q := mQ_f (mJ k) f.1
    show hI2 h o z0 36 (z0 + mJ k) = _
    unfold hI2
    rw [if_neg (by omega), if_pos (by have := f.1; omega), show z0 + mJ k - z0 = mJ k by omega]
    rw [f.2, hk] at q
    have e2 : (kd, n) = (mQ (mJ k)).2 := Option.some.inj q.2.2
    unfold mAr mcell
    rw [← e2]
    dsimp only
    by_cases g : kd = 1
    · rw [if_pos g, if_pos g, g]
      rfl
    · rw [if_neg g, if_neg g]
      rfl
  · have i52 := mk_52 hi
    have j52 := mk_52 hj
    have fi := mJ_f i i52 (by rw [hi]; rfl)
    have fj := mJ_f j j52 (by rw [hj]; rfl)
    have e2 : mJ i = mJ j := by
      have e' : z0 + mJ i = z0 + mJ j := e
      omega
    rw [← fi.2, ← fj.2, e2]
  · show hI2 h o z0 36 a = h a
    unfold hI2
    rw [if_neg h1, if_neg]
    intro t
    have hj : a - z0 < 36 := by omega
    obtain ⟨q1, q2, q3⟩ := mQ_f (a - z0) hj
    refine h2 _ _ q3 ?_
    show a = z0 + mJ (mQ (a - z0)).1
    rw [q1]
    omega
end MI
theorem na_bool : xT[2]? = some FieldType.boolean ∧ Cond.arrayClass .boolean ∈ xtbl := ⟨rfl, mem_x 1045 (by decide +kernel) (by decide +kernel)⟩
theorem fwMi_7 : 2 < 52 ∧ Cond.fieldLink RMo 7 (TMo 2).1 (TMo 2).2.1 (TMo 2).2.2.1 ∈ xtbl := ⟨by decide, mem_x 890 (by decide +kernel) (by decide +kernel)⟩
theorem fwMi_13 : 3 < 52 ∧ Cond.fieldLink RMo 13 (TMo 3).1 (TMo 3).2.1 (TMo 3).2.2.1 ∈ xtbl := ⟨by decide, mem_x 891 (by decide +kernel) (by decide +kernel)⟩
theorem fwMi_16 : 4 < 52 ∧ Cond.fieldLink RMo 16 (TMo 4).1 (TMo 4).2.1 (TMo 4).2.2.1 ∈ xtbl := ⟨by decide, mem_x 892 (by decide +kernel) (by decide +kernel)⟩
theorem fwMi_19 : 5 < 52 ∧ Cond.fieldLink RMo 19 (TMo 5).1 (TMo 5).2.1 (TMo 5).2.2.1 ∈ xtbl := ⟨by decide, mem_x 893 (by decide +kernel) (by decide +kernel)⟩
theorem fwMi_22 : 6 < 52 ∧ Cond.fieldLink RMo 22 (TMo 6).1 (TMo 6).2.1 (TMo 6).2.2.1 ∈ xtbl := ⟨by decide, mem_x 894 (by decide +kernel) (by decide +kernel)⟩
theorem fwMi_25 : 7 < 52 ∧ Cond.fieldLink RMo 25 (TMo 7).1 (TMo 7).2.1 (TMo 7).2.2.1 ∈ xtbl := ⟨by decide, mem_x 895 (by decide +kernel) (by decide +kernel)⟩
theorem fwMi_28 : 8 < 52 ∧ Cond.fieldLink RMo 28 (TMo 8).1 (TMo 8).2.1 (TMo 8).2.2.1 ∈ xtbl := ⟨by decide, mem_x 896 (by decide +kernel) (by decide +kernel)⟩
theorem fwMi_31 : 9 < 52 ∧ Cond.fieldLink RMo 31 (TMo 9).1 (TMo 9).2.1 (TMo 9).2.2.1 ∈ xtbl := ⟨by decide, mem_x 897 (by decide +kernel) (by decide +kernel)⟩
theorem fwMi_34 : 10 < 52 ∧ Cond.fieldLink RMo 34 (TMo 10).1 (TMo 10).2.1 (TMo 10).2.2.1 ∈ xtbl := ⟨by decide, mem_x 898 (by decide +kernel) (by decide +kernel)⟩
theorem fwMi_37 : 11 < 52 ∧ Cond.fieldLink RMo 37 (TMo 11).1 (TMo 11).2.1 (TMo 11).2.2.1 ∈ xtbl := ⟨by decide, mem_x 899 (by decide +kernel) (by decide +kernel)⟩
theorem fwMi_40 : 12 < 52 ∧ Cond.fieldLink RMo 40 (TMo 12).1 (TMo 12).2.1 (TMo 12).2.2.1 ∈ xtbl := ⟨by decide, mem_x 900 (by decide +kernel) (by decide +kernel)⟩
theorem fwMi_43 : 13 < 52 ∧ Cond.fieldLink RMo 43 (TMo 13).1 (TMo 13).2.1 (TMo 13).2.2.1 ∈ xtbl := ⟨by decide, mem_x 901 (by decide +kernel) (by decide +kernel)⟩
theorem fwMi_46 : 14 < 52 ∧ Cond.fieldLink RMo 46 (TMo 14).1 (TMo 14).2.1 (TMo 14).2.2.1 ∈ xtbl := ⟨by decide, mem_x 902 (by decide +kernel) (by decide +kernel)⟩
theorem fwMi_49 : 15 < 52 ∧ Cond.fieldLink RMo 49 (TMo 15).1 (TMo 15).2.1 (TMo 15).2.2.1 ∈ xtbl := ⟨by decide, mem_x 903 (by decide +kernel) (by decide +kernel)⟩
theorem fwMi_52 : 18 < 52 ∧ Cond.fieldLink RMo 52 (TMo 18).1 (TMo 18).2.1 (TMo 18).2.2.1 ∈ xtbl := ⟨by decide, mem_x 906 (by decide +kernel) (by decide +kernel)⟩
theorem fwMi_55 : 19 < 52 ∧ Cond.fieldLink RMo 55 (TMo 19).1 (TMo 19).2.1 (TMo 19).2.2.1 ∈ xtbl := ⟨by decide, mem_x 907 (by decide +kernel) (by decide +kernel)⟩
theorem fwMi_58 : 24 < 52 ∧ Cond.fieldLink RMo 58 (TMo 24).1 (TMo 24).2.1 (TMo 24).2.2.1 ∈ xtbl := ⟨by decide, mem_x 912 (by decide +kernel) (by decide +kernel)⟩
theorem fwMi_61 : 25 < 52 ∧ Cond.fieldLink RMo 61 (TMo 25).1 (TMo 25).2.1 (TMo 25).2.2.1 ∈ xtbl := ⟨by decide, mem_x 913 (by decide +kernel) (by decide +kernel)⟩
theorem fwMi_64 : 26 < 52 ∧ Cond.fieldLink RMo 64 (TMo 26).1 (TMo 26).2.1 (TMo 26).2.2.1 ∈ xtbl := ⟨by decide, mem_x 914 (by decide +kernel) (by decide +kernel)⟩
theorem fwMi_67 : 27 < 52 ∧ Cond.fieldLink RMo 67 (TMo 27).1 (TMo 27).2.1 (TMo 27).2.2.1 ∈ xtbl := ⟨by decide, mem_x 915 (by decide +kernel) (by decide +kernel)⟩
theorem fwMi_70 : 28 < 52 ∧ Cond.fieldLink RMo 70 (TMo 28).1 (TMo 28).2.1 (TMo 28).2.2.1 ∈ xtbl := ⟨by decide, mem_x 916 (by decide +kernel) (by decide +kernel)⟩
theorem fwMi_73 : 29 < 52 ∧ Cond.fieldLink RMo 73 (TMo 29).1 (TMo 29).2.1 (TMo 29).2.2.1 ∈ xtbl := ⟨by decide, mem_x 917 (by decide +kernel) (by decide +kernel)⟩
theorem fwMi_76 : 30 < 52 ∧ Cond.fieldLink RMo 76 (TMo 30).1 (TMo 30).2.1 (TMo 30).2.2.1 ∈ xtbl := ⟨by decide, mem_x 918 (by decide +kernel) (by decide +kernel)⟩
theorem fwMi_79 : 31 < 52 ∧ Cond.fieldLink RMo 79 (TMo 31).1 (TMo 31).2.1 (TMo 31).2.2.1 ∈ xtbl := ⟨by decide, mem_x 919 (by decide +kernel) (by decide +kernel)⟩
theorem fwMi_82 : 32 < 52 ∧ Cond.fieldLink RMo 82 (TMo 32).1 (TMo 32).2.1 (TMo 32).2.2.1 ∈ xtbl := ⟨by decide, mem_x 920 (by decide +kernel) (by decide +kernel)⟩
theorem fwMi_85 : 33 < 52 ∧ Cond.fieldLink RMo 85 (TMo 33).1 (TMo 33).2.1 (TMo 33).2.2.1 ∈ xtbl := ⟨by decide, mem_x 921 (by decide +kernel) (by decide +kernel)⟩
theorem fwMi_89 : 38 < 52 ∧ Cond.fieldLink RMo 89 (TMo 38).1 (TMo 38).2.1 (TMo 38).2.2.1 ∈ xtbl := ⟨by decide, mem_x 926 (by decide +kernel) (by decide +kernel)⟩
theorem fwMi_92 : 42 < 52 ∧ Cond.fieldLink RMo 92 (TMo 42).1 (TMo 42).2.1 (TMo 42).2.2.1 ∈ xtbl := ⟨by decide, mem_x 930 (by decide +kernel) (by decide +kernel)⟩
theorem fwMi_95 : 43 < 52 ∧ Cond.fieldLink RMo 95 (TMo 43).1 (TMo 43).2.1 (TMo 43).2.2.1 ∈ xtbl := ⟨by decide, mem_x 931 (by decide +kernel) (by decide +kernel)⟩
theorem fwMi_98 : 45 < 52 ∧ Cond.fieldLink RMo 98 (TMo 45).1 (TMo 45).2.1 (TMo 45).2.2.1 ∈ xtbl := ⟨by decide, mem_x 933 (by decide +kernel) (by decide +kernel)⟩
theorem fwMi_101 : 46 < 52 ∧ Cond.fieldLink RMo 101 (TMo 46).1 (TMo 46).2.1 (TMo 46).2.2.1 ∈ xtbl := ⟨by decide, mem_x 934 (by decide +kernel) (by decide +kernel)⟩
theorem fwMi_104 : 47 < 52 ∧ Cond.fieldLink RMo 104 (TMo 47).1 (TMo 47).2.1 (TMo 47).2.2.1 ∈ xtbl := ⟨by decide, mem_x 935 (by decide +kernel) (by decide +kernel)⟩
theorem fwMi_107 : 48 < 52 ∧ Cond.fieldLink RMo 107 (TMo 48).1 (TMo 48).2.1 (TMo 48).2.2.1 ∈ xtbl := ⟨by decide, mem_x 936 (by decide +kernel) (by decide +kernel)⟩
theorem fwMi_110 : 49 < 52 ∧ Cond.fieldLink RMo 110 (TMo 49).1 (TMo 49).2.1 (TMo 49).2.2.1 ∈ xtbl := ⟨by decide, mem_x 937 (by decide +kernel) (by decide +kernel)⟩
theorem fwMi_113 : 50 < 52 ∧ Cond.fieldLink RMo 113 (TMo 50).1 (TMo 50).2.1 (TMo 50).2.2.1 ∈ xtbl := ⟨by decide, mem_x 938 (by decide +kernel) (by decide +kernel)⟩
theorem fwMi_117 : 51 < 52 ∧ Cond.fieldLink RMo 117 (TMo 51).1 (TMo 51).2.1 (TMo 51).2.2.1 ∈ xtbl := ⟨by decide, mem_x 939 (by decide +kernel) (by decide +kernel)⟩
theorem obMo_1 : Cond.methodLink RMo 1 objectInit ∈ xtbl ∧ Cond.instanceMethod objectInit ∈ xtbl ∧ Cond.code objectInit ⟨#[0xb1]⟩ 1 none ∈ xtbl := ⟨mem_x 882 (by decide +kernel) (by decide +kernel), mem_x 76 (by decide +kernel) (by decide +kernel), mem_x 77 (by decide +kernel) (by decide +kernel)⟩
/-- how THE HAND begins -/
def sI1 : mS := ez (su s0 16 0 4) (atz (s0 15), 0)
def sIb (i : Nat) (s : mS) : mS := su s 43 i (s 15 i)
def sI : mS := it sIb 0 25 sI1
def miP (h : xH) (o sz : Nat) : Option Value → xH → Nat → Prop := fun v h' z => v = none ∧ Mo (o, fun k => sz + mJ k, h, sz + 36) sI t0 h' ∧ z = sz + 36
section MI2
variable {F : xF} {G : xG} {B : Nat} {Q : State → Prop} {h h1 h2 : xH} {o z0 sz cs ss pc nL : Nat} {lv : List (Nat × Value)} {st : List Value}
theorem X_he (e : h1 = h2) (k : X F G B Q nL h2 sz cs ss pc lv st) : X F G B Q nL h1 sz cs ss pc lv st := by
  rw [e]
  exact k
theorem mi_loop (C : xC F G B cMo_init RMo 2 1 23 36 13861) (hr : (xFM F).sig.returnType = none) {M : xM} {cs0 ss0 : Nat} (hc : cs0 ≤ 36) (hs : ss0 ≤ 13861) : ∀ d i (s : mS) (h : xH), i + d = 25 → Mo M s t0 h → X F G B (xZ F G B (fun v h' z => v = none ∧ Mo M (it sIb i d s) t0 h' ∧ z = M.2.2.2) 36 13861) 2 h M.2.2.2 cs0 ss0 304 [(0, .ref M.1), (1, .int (J i))] [] := by
  intro d
  induction d with
  | zero =>
    intro i s h hi hM
    refine X_iload_n C dMo_init_304 rfl (X_bipush C (v := J 25) dMo_init_305 (by decide) ?_)
    refine X_icmp_ge C (tgt := 328) dMo_init_307 (by decide) (fun _ => ?_) (fun t => absurd ((J_le (by omega) (by omega)).mpr (by omega)) t)
    exact X_vret C hr (by omega) (by omega) dMo_init_328 ⟨rfl, hM, rfl⟩
  | succ d ih =>
    intro i s h hi hM
    refine X_iload_n C dMo_init_304 rfl (X_bipush C (v := J 25) dMo_init_305 (by decide) ?_)
    refine X_icmp_ge C (tgt := 328) dMo_init_307 (by decide) (fun t => ?_) (fun _ => ?_)
    · rw [J_le (by omega) (by omega)] at t
      omega
    · refine X_aload_n C dMo_init_310 rfl (X_get C oMo fwMi_95 hM.1 (mobj_get _ _ (by decide)) dMo_init_311 ?_)
      refine X_iload_n C dMo_init_314 rfl (X_aload_n C dMo_init_315 rfl (X_get C oMo fwMi_49 hM.1 (mobj_get _ _ (by decide)) dMo_init_316 ?_))
      refine X_iload_n C dMo_init_319 rfl ?_
      refine X_iald C (f := s 15) rfl (hM.2.1 15 0 25 rfl) (vp_J (by omega) (by decide)) dMo_init_320 ?_
      refine X_iast C (f := s 43) rfl (hM.2.1 43 0 25 rfl) (vp_J (by omega) (by decide)) dMo_init_321 ?_
      rw [J_nat (by omega)]
      refine X_iinc (v := J (i + 1)) (lv' := [(1, .int (J (i + 1))), (0, .ref M.1)]) C dMo_init_322 rfl (J_add i 1) (by decide) rfl ?_
      refine X_goto C (tgt := 304) dMo_init_325 (by decide) ?_
      exact X_sub (lv' := [(0, .ref M.1), (1, .int (J (i + 1)))]) [1, 0] rfl (ih (i + 1) (sIb i s) _ (by omega) (hM.puti (k := 43) (kd := 0) (n := 25) rfl (by decide) i (s 15 i)))
set_option maxHeartbeats 4000000 in
theorem mi_con {l : Launch} {o sz : Nat} (hh : h o = some (.inr (0, mI sz 0))) (ho : o < sz) : xCon l yMo_init cMo_init 2 none 1 23 36 13861 G B [.ref o] h sz (miP h o sz) := by
  refine xCon.of (by decide) (Nat.le_of_ble_eq_true rfl) (fun F e C hr hnm => X_sub (lv' := [(0, .ref o)]) [0] rfl ?_)
  have hin : (xFM F).name = "<init>" := hnm
  refine X_aload_n C dMo_init_0 rfl (X_obj C obMo_1 ⟨by decide, by decide⟩ dMo_init_1 ?_)
  refine X_he (hI2_0 hh).symm ?_
  refine X_aload_n C dMo_init_4 rfl (X_iconst C (v := 3) dMo_init_5 (by decide) ?_)
  refine X_newa (k := 0) (N := 3) (ty := .int) (a0 := (3, .inl (fun _ => 0))) C rfl na_int (fun _ => rfl) (by decide) (by decide) (by decide) (by decide) (by decide) dMo_init_6 (fun _ _ => ?_)
  refine X_putF (k := 2) C hin oMo fwMi_7 ⟨rfl, rfl⟩ (hI2_x (j := 0) ho) rfl rfl (by rw [mI_len]; decide) dMo_init_8 ?_
  refine X_he (hI2_s (h := h) (o := o) (z0 := sz) (j := 0) (by decide) ho) ?_
  refine X_wid (cs' := 1) (ss' := 3) (by decide) (by decide) ?_
  refine X_aload_n C dMo_init_11 rfl (X_iconst C (v := 3) dMo_init_12 (by decide) ?_)
  refine X_newa (k := 0) (N := 3) (ty := .int) (a0 := (3, .inl (fun _ => 0))) C rfl na_int (fun _ => rfl) (by decide) (by decide) (by decide) (by decide) (by decide) dMo_init_13 (fun _ _ => ?_)
  refine X_putF (k := 3) C hin oMo fwMi_13 ⟨rfl, rfl⟩ (hI2_x (j := 1) ho) rfl rfl (by rw [mI_len]; decide) dMo_init_15 ?_
  refine X_he (hI2_s (h := h) (o := o) (z0 := sz) (j := 1) (by decide) ho) ?_
  refine X_wid (cs' := 2) (ss' := 6) (by decide) (by decide) ?_
  refine X_aload_n C dMo_init_18 rfl (X_bipush C (v := 18) dMo_init_19 (by decide) ?_)
  refine X_newa (k := 0) (N := 18) (ty := .int) (a0 := (18, .inl (fun _ => 0))) C rfl na_int (fun _ => rfl) (by decide) (by decide) (by decide) (by decide) (by decide) dMo_init_21 (fun _ _ => ?_)
  refine X_putF (k := 4) C hin oMo fwMi_16 ⟨rfl, rfl⟩ (hI2_x (j := 2) ho) rfl rfl (by rw [mI_len]; decide) dMo_init_23 ?_
  refine X_he (hI2_s (h := h) (o := o) (z0 := sz) (j := 2) (by decide) ho) ?_
  refine X_wid (cs' := 3) (ss' := 24) (by decide) (by decide) ?_
  refine X_aload_n C dMo_init_26 rfl (X_bipush C (v := 36) dMo_init_27 (by decide) ?_)
  refine X_newa (k := 0) (N := 36) (ty := .int) (a0 := (36, .inl (fun _ => 0))) C rfl na_int (fun _ => rfl) (by decide) (by decide) (by decide) (by decide) (by decide) dMo_init_29 (fun _ _ => ?_)
  refine X_putF (k := 5) C hin oMo fwMi_19 ⟨rfl, rfl⟩ (hI2_x (j := 3) ho) rfl rfl (by rw [mI_len]; decide) dMo_init_31 ?_
  refine X_he (hI2_s (h := h) (o := o) (z0 := sz) (j := 3) (by decide) ho) ?_
  refine X_wid (cs' := 4) (ss' := 60) (by decide) (by decide) ?_
  refine X_aload_n C dMo_init_34 rfl (X_bipush C (v := 36) dMo_init_35 (by decide) ?_)
  refine X_newa (k := 0) (N := 36) (ty := .int) (a0 := (36, .inl (fun _ => 0))) C rfl na_int (fun _ => rfl) (by decide) (by decide) (by decide) (by decide) (by decide) dMo_init_37 (fun _ _ => ?_)
  refine X_putF (k := 6) C hin oMo fwMi_22 ⟨rfl, rfl⟩ (hI2_x (j := 4) ho) rfl rfl (by rw [mI_len]; decide) dMo_init_39 ?_
  refine X_he (hI2_s (h := h) (o := o) (z0 := sz) (j := 4) (by decide) ho) ?_
  refine X_wid (cs' := 5) (ss' := 96) (by decide) (by decide) ?_
  refine X_aload_n C dMo_init_42 rfl (X_bipush C (v := 36) dMo_init_43 (by decide) ?_)
  refine X_newa (k := 0) (N := 36) (ty := .int) (a0 := (36, .inl (fun _ => 0))) C rfl na_int (fun _ => rfl) (by decide) (by decide) (by decide) (by decide) (by decide) dMo_init_45 (fun _ _ => ?_)
  refine X_putF (k := 7) C hin oMo fwMi_25 ⟨rfl, rfl⟩ (hI2_x (j := 5) ho) rfl rfl (by rw [mI_len]; decide) dMo_init_47 ?_
  refine X_he (hI2_s (h := h) (o := o) (z0 := sz) (j := 5) (by decide) ho) ?_
  refine X_wid (cs' := 6) (ss' := 132) (by decide) (by decide) ?_
  refine X_aload_n C dMo_init_50 rfl (X_bipush C (v := 36) dMo_init_51 (by decide) ?_)
  refine X_newa (k := 0) (N := 36) (ty := .int) (a0 := (36, .inl (fun _ => 0))) C rfl na_int (fun _ => rfl) (by decide) (by decide) (by decide) (by decide) (by decide) dMo_init_53 (fun _ _ => ?_)
  refine X_putF (k := 8) C hin oMo fwMi_28 ⟨rfl, rfl⟩ (hI2_x (j := 6) ho) rfl rfl (by rw [mI_len]; decide) dMo_init_55 ?_
  refine X_he (hI2_s (h := h) (o := o) (z0 := sz) (j := 6) (by decide) ho) ?_
  refine X_wid (cs' := 7) (ss' := 168) (by decide) (by decide) ?_
  refine X_aload_n C dMo_init_58 rfl (X_bipush C (v := 36) dMo_init_59 (by decide) ?_)
  refine X_newa (k := 0) (N := 36) (ty := .int) (a0 := (36, .inl (fun _ => 0))) C rfl na_int (fun _ => rfl) (by decide) (by decide) (by decide) (by decide) (by decide) dMo_init_61 (fun _ _ => ?_)
  refine X_putF (k := 9) C hin oMo fwMi_31 ⟨rfl, rfl⟩ (hI2_x (j := 7) ho) rfl rfl (by rw [mI_len]; decide) dMo_init_63 ?_
  refine X_he (hI2_s (h := h) (o := o) (z0 := sz) (j := 7) (by decide) ho) ?_
  refine X_wid (cs' := 8) (ss' := 204) (by decide) (by decide) ?_
  refine X_aload_n C dMo_init_66 rfl (X_bipush C (v := 36) dMo_init_67 (by decide) ?_)
  refine X_newa (k := 0) (N := 36) (ty := .int) (a0 := (36, .inl (fun _ => 0))) C rfl na_int (fun _ => rfl) (by decide) (by decide) (by decide) (by decide) (by decide) dMo_init_69 (fun _ _ => ?_)
  refine X_putF (k := 10) C hin oMo fwMi_34 ⟨rfl, rfl⟩ (hI2_x (j := 8) ho) rfl rfl (by rw [mI_len]; decide) dMo_init_71 ?_
  refine X_he (hI2_s (h := h) (o := o) (z0 := sz) (j := 8) (by decide) ho) ?_
  refine X_wid (cs' := 9) (ss' := 240) (by decide) (by decide) ?_
  refine X_aload_n C dMo_init_74 rfl (X_bipush C (v := 36) dMo_init_75 (by decide) ?_)
  refine X_newa (k := 0) (N := 36) (ty := .int) (a0 := (36, .inl (fun _ => 0))) C rfl na_int (fun _ => rfl) (by decide) (by decide) (by decide) (by decide) (by decide) dMo_init_77 (fun _ _ => ?_)
  refine X_putF (k := 11) C hin oMo fwMi_37 ⟨rfl, rfl⟩ (hI2_x (j := 9) ho) rfl rfl (by rw [mI_len]; decide) dMo_init_79 ?_
  refine X_he (hI2_s (h := h) (o := o) (z0 := sz) (j := 9) (by decide) ho) ?_
  refine X_wid (cs' := 10) (ss' := 276) (by decide) (by decide) ?_
  refine X_aload_n C dMo_init_82 rfl (X_bipush C (v := 108) dMo_init_83 (by decide) ?_)
  refine X_newa (k := 0) (N := 108) (ty := .int) (a0 := (108, .inl (fun _ => 0))) C rfl na_int (fun _ => rfl) (by decide) (by decide) (by decide) (by decide) (by decide) dMo_init_85 (fun _ _ => ?_)
  refine X_putF (k := 12) C hin oMo fwMi_40 ⟨rfl, rfl⟩ (hI2_x (j := 10) ho) rfl rfl (by rw [mI_len]; decide) dMo_init_87 ?_
  refine X_he (hI2_s (h := h) (o := o) (z0 := sz) (j := 10) (by decide) ho) ?_
  refine X_wid (cs' := 11) (ss' := 384) (by decide) (by decide) ?_
  refine X_aload_n C dMo_init_90 rfl (X_bipush C (v := 108) dMo_init_91 (by decide) ?_)
  refine X_newa (k := 0) (N := 108) (ty := .int) (a0 := (108, .inl (fun _ => 0))) C rfl na_int (fun _ => rfl) (by decide) (by decide) (by decide) (by decide) (by decide) dMo_init_93 (fun _ _ => ?_)
  refine X_putF (k := 13) C hin oMo fwMi_43 ⟨rfl, rfl⟩ (hI2_x (j := 11) ho) rfl rfl (by rw [mI_len]; decide) dMo_init_95 ?_
  refine X_he (hI2_s (h := h) (o := o) (z0 := sz) (j := 11) (by decide) ho) ?_
  refine X_wid (cs' := 12) (ss' := 492) (by decide) (by decide) ?_
  refine X_aload_n C dMo_init_98 rfl (X_bipush C (v := 108) dMo_init_99 (by decide) ?_)
  refine X_newa (k := 0) (N := 108) (ty := .int) (a0 := (108, .inl (fun _ => 0))) C rfl na_int (fun _ => rfl) (by decide) (by decide) (by decide) (by decide) (by decide) dMo_init_101 (fun _ _ => ?_)
  refine X_putF (k := 14) C hin oMo fwMi_46 ⟨rfl, rfl⟩ (hI2_x (j := 12) ho) rfl rfl (by rw [mI_len]; decide) dMo_init_103 ?_
  refine X_he (hI2_s (h := h) (o := o) (z0 := sz) (j := 12) (by decide) ho) ?_
  refine X_wid (cs' := 13) (ss' := 600) (by decide) (by decide) ?_
  refine X_aload_n C dMo_init_106 rfl (X_bipush C (v := 25) dMo_init_107 (by decide) ?_)
  refine X_newa (k := 0) (N := 25) (ty := .int) (a0 := (25, .inl (fun _ => 0))) C rfl na_int (fun _ => rfl) (by decide) (by decide) (by decide) (by decide) (by decide) dMo_init_109 (fun _ _ => ?_)
  refine X_putF (k := 15) C hin oMo fwMi_49 ⟨rfl, rfl⟩ (hI2_x (j := 13) ho) rfl rfl (by rw [mI_len]; decide) dMo_init_111 ?_
  refine X_he (hI2_s (h := h) (o := o) (z0 := sz) (j := 13) (by decide) ho) ?_
  refine X_wid (cs' := 14) (ss' := 625) (by decide) (by decide) ?_
  refine X_aload_n C dMo_init_114 rfl (X_bipush C (v := 25) dMo_init_115 (by decide) ?_)
  refine X_newa (k := 0) (N := 25) (ty := .int) (a0 := (25, .inl (fun _ => 0))) C rfl na_int (fun _ => rfl) (by decide) (by decide) (by decide) (by decide) (by decide) dMo_init_117 (fun _ _ => ?_)
  refine X_putF (k := 18) C hin oMo fwMi_52 ⟨rfl, rfl⟩ (hI2_x (j := 14) ho) rfl rfl (by rw [mI_len]; decide) dMo_init_119 ?_
  refine X_he (hI2_s (h := h) (o := o) (z0 := sz) (j := 14) (by decide) ho) ?_
  refine X_wid (cs' := 15) (ss' := 650) (by decide) (by decide) ?_
  refine X_aload_n C dMo_init_122 rfl (X_iconst C (v := 4) dMo_init_123 (by decide) ?_)
  refine X_newa (k := 0) (N := 4) (ty := .int) (a0 := (4, .inl (fun _ => 0))) C rfl na_int (fun _ => rfl) (by decide) (by decide) (by decide) (by decide) (by decide) dMo_init_124 (fun _ _ => ?_)
  refine X_putF (k := 19) C hin oMo fwMi_55 ⟨rfl, rfl⟩ (hI2_x (j := 15) ho) rfl rfl (by rw [mI_len]; decide) dMo_init_126 ?_
  refine X_he (hI2_s (h := h) (o := o) (z0 := sz) (j := 15) (by decide) ho) ?_
  refine X_wid (cs' := 16) (ss' := 654) (by decide) (by decide) ?_
  refine X_aload_n C dMo_init_129 rfl (X_sipush C (v := 600) dMo_init_130 (by decide) ?_)
  refine X_newa (k := 0) (N := 600) (ty := .int) (a0 := (600, .inl (fun _ => 0))) C rfl na_int (fun _ => rfl) (by decide) (by decide) (by decide) (by decide) (by decide) dMo_init_133 (fun _ _ => ?_)
  refine X_putF (k := 24) C hin oMo fwMi_58 ⟨rfl, rfl⟩ (hI2_x (j := 16) ho) rfl rfl (by rw [mI_len]; decide) dMo_init_135 ?_
  refine X_he (hI2_s (h := h) (o := o) (z0 := sz) (j := 16) (by decide) ho) ?_
  refine X_wid (cs' := 17) (ss' := 1254) (by decide) (by decide) ?_
  refine X_aload_n C dMo_init_138 rfl (X_sipush C (v := 5000) dMo_init_139 (by decide) ?_)
  refine X_newa (k := 0) (N := 5000) (ty := .int) (a0 := (5000, .inl (fun _ => 0))) C rfl na_int (fun _ => rfl) (by decide) (by decide) (by decide) (by decide) (by decide) dMo_init_142 (fun _ _ => ?_)
  refine X_putF (k := 25) C hin oMo fwMi_61 ⟨rfl, rfl⟩ (hI2_x (j := 17) ho) rfl rfl (by rw [mI_len]; decide) dMo_init_144 ?_
  refine X_he (hI2_s (h := h) (o := o) (z0 := sz) (j := 17) (by decide) ho) ?_
  refine X_wid (cs' := 18) (ss' := 6254) (by decide) (by decide) ?_
  refine X_aload_n C dMo_init_147 rfl (X_sipush C (v := 5000) dMo_init_148 (by decide) ?_)
  refine X_newa (k := 0) (N := 5000) (ty := .int) (a0 := (5000, .inl (fun _ => 0))) C rfl na_int (fun _ => rfl) (by decide) (by decide) (by decide) (by decide) (by decide) dMo_init_151 (fun _ _ => ?_)
  refine X_putF (k := 26) C hin oMo fwMi_64 ⟨rfl, rfl⟩ (hI2_x (j := 18) ho) rfl rfl (by rw [mI_len]; decide) dMo_init_153 ?_
  refine X_he (hI2_s (h := h) (o := o) (z0 := sz) (j := 18) (by decide) ho) ?_
  refine X_wid (cs' := 19) (ss' := 11254) (by decide) (by decide) ?_
  refine X_aload_n C dMo_init_156 rfl (X_sipush C (v := 200) dMo_init_157 (by decide) ?_)
  refine X_newa (k := 0) (N := 200) (ty := .int) (a0 := (200, .inl (fun _ => 0))) C rfl na_int (fun _ => rfl) (by decide) (by decide) (by decide) (by decide) (by decide) dMo_init_160 (fun _ _ => ?_)
  refine X_putF (k := 27) C hin oMo fwMi_67 ⟨rfl, rfl⟩ (hI2_x (j := 19) ho) rfl rfl (by rw [mI_len]; decide) dMo_init_162 ?_
  refine X_he (hI2_s (h := h) (o := o) (z0 := sz) (j := 19) (by decide) ho) ?_
  refine X_wid (cs' := 20) (ss' := 11454) (by decide) (by decide) ?_
  refine X_aload_n C dMo_init_165 rfl (X_sipush C (v := 200) dMo_init_166 (by decide) ?_)
  refine X_newa (k := 0) (N := 200) (ty := .int) (a0 := (200, .inl (fun _ => 0))) C rfl na_int (fun _ => rfl) (by decide) (by decide) (by decide) (by decide) (by decide) dMo_init_169 (fun _ _ => ?_)
  refine X_putF (k := 28) C hin oMo fwMi_70 ⟨rfl, rfl⟩ (hI2_x (j := 20) ho) rfl rfl (by rw [mI_len]; decide) dMo_init_171 ?_
  refine X_he (hI2_s (h := h) (o := o) (z0 := sz) (j := 20) (by decide) ho) ?_
  refine X_wid (cs' := 21) (ss' := 11654) (by decide) (by decide) ?_
  refine X_aload_n C dMo_init_174 rfl (X_sipush C (v := 200) dMo_init_175 (by decide) ?_)
  refine X_newa (k := 0) (N := 200) (ty := .int) (a0 := (200, .inl (fun _ => 0))) C rfl na_int (fun _ => rfl) (by decide) (by decide) (by decide) (by decide) (by decide) dMo_init_178 (fun _ _ => ?_)
  refine X_putF (k := 29) C hin oMo fwMi_73 ⟨rfl, rfl⟩ (hI2_x (j := 21) ho) rfl rfl (by rw [mI_len]; decide) dMo_init_180 ?_
  refine X_he (hI2_s (h := h) (o := o) (z0 := sz) (j := 21) (by decide) ho) ?_
  refine X_wid (cs' := 22) (ss' := 11854) (by decide) (by decide) ?_
  refine X_aload_n C dMo_init_183 rfl (X_sipush C (v := 200) dMo_init_184 (by decide) ?_)
  refine X_newa (k := 0) (N := 200) (ty := .int) (a0 := (200, .inl (fun _ => 0))) C rfl na_int (fun _ => rfl) (by decide) (by decide) (by decide) (by decide) (by decide) dMo_init_187 (fun _ _ => ?_)
  refine X_putF (k := 30) C hin oMo fwMi_76 ⟨rfl, rfl⟩ (hI2_x (j := 22) ho) rfl rfl (by rw [mI_len]; decide) dMo_init_189 ?_
  refine X_he (hI2_s (h := h) (o := o) (z0 := sz) (j := 22) (by decide) ho) ?_
  refine X_wid (cs' := 23) (ss' := 12054) (by decide) (by decide) ?_
  refine X_aload_n C dMo_init_192 rfl (X_sipush C (v := 800) dMo_init_193 (by decide) ?_)
  refine X_newa (k := 0) (N := 800) (ty := .int) (a0 := (800, .inl (fun _ => 0))) C rfl na_int (fun _ => rfl) (by decide) (by decide) (by decide) (by decide) (by decide) dMo_init_196 (fun _ _ => ?_)
  refine X_putF (k := 31) C hin oMo fwMi_79 ⟨rfl, rfl⟩ (hI2_x (j := 23) ho) rfl rfl (by rw [mI_len]; decide) dMo_init_198 ?_
  refine X_he (hI2_s (h := h) (o := o) (z0 := sz) (j := 23) (by decide) ho) ?_
  refine X_wid (cs' := 24) (ss' := 12854) (by decide) (by decide) ?_
  refine X_aload_n C dMo_init_201 rfl (X_sipush C (v := 200) dMo_init_202 (by decide) ?_)
  refine X_newa (k := 0) (N := 200) (ty := .int) (a0 := (200, .inl (fun _ => 0))) C rfl na_int (fun _ => rfl) (by decide) (by decide) (by decide) (by decide) (by decide) dMo_init_205 (fun _ _ => ?_)
  refine X_putF (k := 32) C hin oMo fwMi_82 ⟨rfl, rfl⟩ (hI2_x (j := 24) ho) rfl rfl (by rw [mI_len]; decide) dMo_init_207 ?_
  refine X_he (hI2_s (h := h) (o := o) (z0 := sz) (j := 24) (by decide) ho) ?_
  refine X_wid (cs' := 25) (ss' := 13054) (by decide) (by decide) ?_
  refine X_aload_n C dMo_init_210 rfl (X_sipush C (v := 200) dMo_init_211 (by decide) ?_)
  refine X_newa (k := 2) (N := 200) (ty := .boolean) (a0 := (200, .inl (fun _ => 0))) C rfl na_bool (fun _ => rfl) (by decide) (by decide) (by decide) (by decide) (by decide) dMo_init_214 (fun _ _ => ?_)
  refine X_putF (k := 33) C hin oMo fwMi_85 ⟨rfl, rfl⟩ (hI2_x (j := 25) ho) rfl rfl (by rw [mI_len]; decide) dMo_init_216 ?_
  refine X_he (hI2_s (h := h) (o := o) (z0 := sz) (j := 25) (by decide) ho) ?_
  refine X_wid (cs' := 26) (ss' := 13254) (by decide) (by decide) ?_
  refine X_aload_n C dMo_init_219 rfl (X_iconst C (v := 3) dMo_init_220 (by decide) ?_)
  refine X_newa (k := 0) (N := 3) (ty := .int) (a0 := (3, .inl (fun _ => 0))) C rfl na_int (fun _ => rfl) (by decide) (by decide) (by decide) (by decide) (by decide) dMo_init_221 (fun _ _ => ?_)
  refine X_putF (k := 38) C hin oMo fwMi_89 ⟨rfl, rfl⟩ (hI2_x (j := 26) ho) rfl rfl (by rw [mI_len]; decide) dMo_init_223 ?_
  refine X_he (hI2_s (h := h) (o := o) (z0 := sz) (j := 26) (by decide) ho) ?_
  refine X_wid (cs' := 27) (ss' := 13257) (by decide) (by decide) ?_
  refine X_aload_n C dMo_init_226 rfl (X_iconst C (v := 3) dMo_init_227 (by decide) ?_)
  refine X_newa (k := 0) (N := 3) (ty := .int) (a0 := (3, .inl (fun _ => 0))) C rfl na_int (fun _ => rfl) (by decide) (by decide) (by decide) (by decide) (by decide) dMo_init_228 (fun _ _ => ?_)
  refine X_putF (k := 42) C hin oMo fwMi_92 ⟨rfl, rfl⟩ (hI2_x (j := 27) ho) rfl rfl (by rw [mI_len]; decide) dMo_init_230 ?_
  refine X_he (hI2_s (h := h) (o := o) (z0 := sz) (j := 27) (by decide) ho) ?_
  refine X_wid (cs' := 28) (ss' := 13260) (by decide) (by decide) ?_
  refine X_aload_n C dMo_init_233 rfl (X_bipush C (v := 25) dMo_init_234 (by decide) ?_)
  refine X_newa (k := 0) (N := 25) (ty := .int) (a0 := (25, .inl (fun _ => 0))) C rfl na_int (fun _ => rfl) (by decide) (by decide) (by decide) (by decide) (by decide) dMo_init_236 (fun _ _ => ?_)
  refine X_putF (k := 43) C hin oMo fwMi_95 ⟨rfl, rfl⟩ (hI2_x (j := 28) ho) rfl rfl (by rw [mI_len]; decide) dMo_init_238 ?_
  refine X_he (hI2_s (h := h) (o := o) (z0 := sz) (j := 28) (by decide) ho) ?_
  refine X_wid (cs' := 29) (ss' := 13285) (by decide) (by decide) ?_
  refine X_aload_n C dMo_init_241 rfl (X_iconst C (v := 4) dMo_init_242 (by decide) ?_)
  refine X_newa (k := 0) (N := 4) (ty := .int) (a0 := (4, .inl (fun _ => 0))) C rfl na_int (fun _ => rfl) (by decide) (by decide) (by decide) (by decide) (by decide) dMo_init_243 (fun _ _ => ?_)
  refine X_putF (k := 45) C hin oMo fwMi_98 ⟨rfl, rfl⟩ (hI2_x (j := 29) ho) rfl rfl (by rw [mI_len]; decide) dMo_init_245 ?_
  refine X_he (hI2_s (h := h) (o := o) (z0 := sz) (j := 29) (by decide) ho) ?_
  refine X_wid (cs' := 30) (ss' := 13289) (by decide) (by decide) ?_
  refine X_aload_n C dMo_init_248 rfl (X_bipush C (v := 8) dMo_init_249 (by decide) ?_)
  refine X_newa (k := 0) (N := 8) (ty := .int) (a0 := (8, .inl (fun _ => 0))) C rfl na_int (fun _ => rfl) (by decide) (by decide) (by decide) (by decide) (by decide) dMo_init_251 (fun _ _ => ?_)
  refine X_putF (k := 46) C hin oMo fwMi_101 ⟨rfl, rfl⟩ (hI2_x (j := 30) ho) rfl rfl (by rw [mI_len]; decide) dMo_init_253 ?_
  refine X_he (hI2_s (h := h) (o := o) (z0 := sz) (j := 30) (by decide) ho) ?_
  refine X_wid (cs' := 31) (ss' := 13297) (by decide) (by decide) ?_
  refine X_aload_n C dMo_init_256 rfl (X_bipush C (v := 8) dMo_init_257 (by decide) ?_)
  refine X_newa (k := 0) (N := 8) (ty := .int) (a0 := (8, .inl (fun _ => 0))) C rfl na_int (fun _ => rfl) (by decide) (by decide) (by decide) (by decide) (by decide) dMo_init_259 (fun _ _ => ?_)
  refine X_putF (k := 47) C hin oMo fwMi_104 ⟨rfl, rfl⟩ (hI2_x (j := 31) ho) rfl rfl (by rw [mI_len]; decide) dMo_init_261 ?_
  refine X_he (hI2_s (h := h) (o := o) (z0 := sz) (j := 31) (by decide) ho) ?_
  refine X_wid (cs' := 32) (ss' := 13305) (by decide) (by decide) ?_
  refine X_aload_n C dMo_init_264 rfl (X_bipush C (v := 8) dMo_init_265 (by decide) ?_)
  refine X_newa (k := 0) (N := 8) (ty := .int) (a0 := (8, .inl (fun _ => 0))) C rfl na_int (fun _ => rfl) (by decide) (by decide) (by decide) (by decide) (by decide) dMo_init_267 (fun _ _ => ?_)
  refine X_putF (k := 48) C hin oMo fwMi_107 ⟨rfl, rfl⟩ (hI2_x (j := 32) ho) rfl rfl (by rw [mI_len]; decide) dMo_init_269 ?_
  refine X_he (hI2_s (h := h) (o := o) (z0 := sz) (j := 32) (by decide) ho) ?_
  refine X_wid (cs' := 33) (ss' := 13313) (by decide) (by decide) ?_
  refine X_aload_n C dMo_init_272 rfl (X_bipush C (v := 8) dMo_init_273 (by decide) ?_)
  refine X_newa (k := 0) (N := 8) (ty := .int) (a0 := (8, .inl (fun _ => 0))) C rfl na_int (fun _ => rfl) (by decide) (by decide) (by decide) (by decide) (by decide) dMo_init_275 (fun _ _ => ?_)
  refine X_putF (k := 49) C hin oMo fwMi_110 ⟨rfl, rfl⟩ (hI2_x (j := 33) ho) rfl rfl (by rw [mI_len]; decide) dMo_init_277 ?_
  refine X_he (hI2_s (h := h) (o := o) (z0 := sz) (j := 33) (by decide) ho) ?_
  refine X_wid (cs' := 34) (ss' := 13321) (by decide) (by decide) ?_
  refine X_aload_n C dMo_init_280 rfl (X_sipush C (v := 480) dMo_init_281 (by decide) ?_)
  refine X_newa (k := 1) (N := 480) (ty := .long) (a0 := (480, .inr (.inl (fun _ => 0)))) C rfl na_long (fun _ => rfl) (by decide) (by decide) (by decide) (by decide) (by decide) dMo_init_284 (fun _ _ => ?_)
  refine X_putF (k := 50) C hin oMo fwMi_113 ⟨rfl, rfl⟩ (hI2_x (j := 34) ho) rfl rfl (by rw [mI_len]; decide) dMo_init_286 ?_
  refine X_he (hI2_s (h := h) (o := o) (z0 := sz) (j := 34) (by decide) ho) ?_
  refine X_wid (cs' := 35) (ss' := 13801) (by decide) (by decide) ?_
  refine X_aload_n C dMo_init_289 rfl (X_bipush C (v := 60) dMo_init_290 (by decide) ?_)
  refine X_newa (k := 1) (N := 60) (ty := .long) (a0 := (60, .inr (.inl (fun _ => 0)))) C rfl na_long (fun _ => rfl) (by decide) (by decide) (by decide) (by decide) (by decide) dMo_init_292 (fun _ _ => ?_)
  refine X_putF (k := 51) C hin oMo fwMi_117 ⟨rfl, rfl⟩ (hI2_x (j := 35) ho) rfl rfl (by rw [mI_len]; decide) dMo_init_294 ?_
  refine X_he (hI2_s (h := h) (o := o) (z0 := sz) (j := 35) (by decide) ho) ?_
  refine X_wid (cs' := 36) (ss' := 13861) (by decide) (by decide) ?_
  have hM : Mo (o, fun k => sz + mJ k, h, sz + 36) s0 t0 (hI2 h o sz 36) := hI2_Mo ho _
  refine X_aload_n C dMo_init_297 rfl (X_iconst C (v := 4) dMo_init_298 (by decide) ?_)
  obtain ⟨n1, e1⟩ := (allTimes_q (σ := s0) (τ := t0) (q := (s0 15, s0 17 0)) (x1 := 4) (x2 := 0) (x3 := 0)).get
  rw [ez_id] at e1
  refine X_callV (As := [.int 4]) (rest := []) (P := mP (o, fun k => sz + mJ k, h, sz + 36) none sI1 t0) C (Mo_allTimes_c (M := (o, fun k => sz + mJ k, h, sz + 36)) e1 _ hM) wMo_120 ⟨by decide, by decide⟩ ⟨by decide, by decide⟩ hM.1 oMo.2.1 rfl rfl (Nat.le_of_ble_eq_true rfl) dMo_init_299 (fun v h2 z2 q2 => ?_)
  obtain ⟨rfl, hM2, rfl⟩ := q2
  refine X_iconst C (v := J 0) dMo_init_302 (by decide) (X_istore_n (lv' := [(1, .int (J 0)), (0, .ref o)]) C dMo_init_303 (by decide) rfl ?_)
  exact X_sub (lv' := [(0, .ref o), (1, .int (J 0))]) [1, 0] rfl (mi_loop C hr (M := (o, fun k => sz + mJ k, h, sz + 36)) (by decide) (by decide) 25 0 sI1 h2 (by decide) hM2)
end MI2

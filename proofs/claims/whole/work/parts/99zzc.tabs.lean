/-! what the start gives of the tables -/
theorem tb_mem {w : Cond} (i : Nat) (h : lw_tbl[i]? = some w) : w ∈ lw_tbl := List.mem_of_getElem? h
def fifs {α : Type} (d : α) (l : List α) : Nat → α := fun k => l.getD k d
theorem arr_P {args : Array Value} {s : State} {ty : FieldType} (h : (Cond.arrayClass ty).before args s = true) (hn : ∀ C, ty ≠ .object C) : ∃ c, ArrOfT s c ty ∧ va_RA s c ty := by
  obtain ⟨c, k, comp, h1, h2, h3⟩ := Cond.arrayClass_spec h
  refine ⟨c, fun n z => ⟨fun k h => (by cases h), k, h2, comp, h3⟩, ?_⟩
  unfold va_RA
  split
  · rename_i C
    exact absurd rfl (hn C)
  · exact h1
theorem arr_O {args : Array Value} {s : State} {C : String} (h : (Cond.arrayOver (.object C)).before args s = true) : ∃ c, ArrOfT s c (.object C) ∧ va_RA s c (.object C) := by
  obtain ⟨comp, c, k, h1, -, h3, h4, h5⟩ := Cond.arrayOver_spec h
  exact ⟨c, fun n z => ⟨fun k h => (by cases h), k, h3, comp, h4⟩, k, comp, h3, h4, h1, h5⟩
theorem cast_Y {args : Array Value} {s : State} {C T : String} (h : (Cond.castable C T).before args s = true) : xYc C T s := by
  obtain ⟨c, t, h1, h2, h3⟩ := Cond.castable_spec h
  exact ⟨c, t, h1, h2, h3⟩
theorem xK_of {s : State} {b : Nat} (hts : ∀ w ∈ lw_tbl, w.before #[Value.ref b] s = true) (hgv : (Jvm.Cond.and given_1 narrow_1).before #[Value.ref b] s = true) : ∃ G, xK G s := by
  have hx : ∀ w ∈ xtbl, w.before #[Value.ref b] s = true := fun w hw => hts w (x_sub w hw)
  have hs := flat_of_before _ hgv
  obtain ⟨c0, i0, n0⟩ := u_known (C := RMo) (T := TMo) (N := 52) (n := 52) hx oMo.1 (hts (.instantiable RMo 52) (tb_mem 878 (by decide +kernel)))
  obtain ⟨c1, i1, n1⟩ := u_known (C := RZo) (T := TZo) (N := 3) (n := 3) hx oZo.1 (hts (.instantiable RZo 3) (tb_mem 89 (by decide +kernel)))
  obtain ⟨c2, i2, n2⟩ := u_known (C := RSt) (T := TSt) (N := 12) (n := 12) hx oSt.1 (hts (.instantiable RSt 12) (tb_mem 388 (by decide +kernel)))
  obtain ⟨c3, i3, n3⟩ := u_known (C := RYa) (T := TYa) (N := 12) (n := 12) hx oYa.1 (hts (.instantiable RYa 12) (tb_mem 79 (by decide +kernel)))
  obtain ⟨c4, i4, n4⟩ := u_known (C := RTi) (T := TTi) (N := 4) (n := 4) hx oTi.1 (hts (.instantiable RTi 4) (tb_mem 71 (by decide +kernel)))
  obtain ⟨c5, i5, n5⟩ := u_known (C := RMa) (T := TMa) (N := 4) (n := 4) hx oMa.1 (hts (.instantiable RMa 4) (tb_mem 183 (by decide +kernel)))
  obtain ⟨c6, i6, n6⟩ := u_known (C := RPl) (T := TPl) (N := 3) (n := 3) hx oPl.1 (hts (.instantiable RPl 3) (tb_mem 220 (by decide +kernel)))
  obtain ⟨c7, i7, n7⟩ := u_known (C := RWa) (T := TWa) (N := 7) (n := 7) hx oWa.1 (hts (.instantiable RWa 7) (tb_mem 267 (by decide +kernel)))
  obtain ⟨c8, i8, n8⟩ := u_known (C := RSr) (T := TSr) (N := 1) (n := 1) hx oSr.1 (hts (.instantiable RSr 1) (tb_mem 643 (by decide +kernel)))
  obtain ⟨c9, i9, n9⟩ := u_known (C := RLr) (T := TLr) (N := 1) (n := 1) hx oLr.1 (hts (.instantiable RLr 1) (tb_mem 661 (by decide +kernel)))
  obtain ⟨a0, x0, y0⟩ := arr_P (hx _ na_int.2) (fun C h => by cases h)
  obtain ⟨a1, x1, y1⟩ := arr_P (hx _ na_long.2) (fun C h => by cases h)
  obtain ⟨a2, x2, y2⟩ := arr_P (hx _ na_bool.2) (fun C h => by cases h)
  obtain ⟨a3, x3, y3⟩ := arr_P (hx _ na_short.2) (fun C h => by cases h)
  have v4 := hts (.arrayOver (.object "TimedYard$Place")) (tb_mem 189 (by decide +kernel))
  obtain ⟨a4, x4, y4⟩ := arr_O v4
  have v5 := hts (.arrayOver (.object "TimedYard$Way")) (tb_mem 191 (by decide +kernel))
  obtain ⟨a5, x5, y5⟩ := arr_O v5
  have v6 := hts (.arrayOver (.object "TimedYard$Machine")) (tb_mem 85 (by decide +kernel))
  obtain ⟨a6, x6, y6⟩ := arr_O v6
  have v7 := hts (.arrayOver (.object "TimedYard$State")) (tb_mem 87 (by decide +kernel))
  obtain ⟨a7, x7, y7⟩ := arr_O v7
  have v8 := hts (.arrayOver (.object "TimedYard$Held")) (tb_mem 164 (by decide +kernel))
  obtain ⟨a8, x8, y8⟩ := arr_O v8
  refine ⟨(fifs c0 [c0, c1, c2, c3, c4, c5, c6, c7, c8, c9], fifs i0 [i0, i1, i2, i3, i4, i5, i6, i7, i8, i9], fifs a0 [a0, a1, a2, a3, a4, a5, a6, a7, a8]), fun c q hq => ?_, fun k ty hk => ?_, fun k Cn hk => ?_, fun p hp => ?_, fun p hp => ?_⟩
  · match c, hq with
    | 0, hq => cases hq; exact n0
    | 1, hq => cases hq; exact n1
    | 2, hq => cases hq; exact n2
    | 3, hq => cases hq; exact n3
    | 4, hq => cases hq; exact n4
    | 5, hq => cases hq; exact n5
    | 6, hq => cases hq; exact n6
    | 7, hq => cases hq; exact n7
    | 8, hq => cases hq; exact n8
    | 9, hq => cases hq; exact n9
    | c + 10, hq => simp [xCl] at hq
  · match k, hk with
    | 0, hk => cases hk; exact ⟨x0, y0⟩
    | 1, hk => cases hk; exact ⟨x1, y1⟩
    | 2, hk => cases hk; exact ⟨x2, y2⟩
    | 3, hk => cases hk; exact ⟨x3, y3⟩
    | 4, hk => cases hk; exact ⟨x4, y4⟩
    | 5, hk => cases hk; exact ⟨x5, y5⟩
    | 6, hk => cases hk; exact ⟨x6, y6⟩
    | 7, hk => cases hk; exact ⟨x7, y7⟩
    | 8, hk => cases hk; exact ⟨x8, y8⟩
    | k + 9, hk => simp [xT] at hk
  · match k, hk with
    | 0, hk => cases hk
    | 1, hk => cases hk
    | 2, hk => cases hk
    | 3, hk => cases hk
    | 4, hk => cases hk; exact va_AO.of v4
    | 5, hk => cases hk; exact va_AO.of v5
    | 6, hk => cases hk; exact va_AO.of v6
    | 7, hk => cases hk; exact va_AO.of v7
    | 8, hk => cases hk; exact va_AO.of v8
    | k + 9, hk => simp [xT] at hk
  · simp only [xYl, List.mem_cons, List.not_mem_nil, or_false] at hp
    rcases hp with rfl | rfl | rfl | rfl | rfl | rfl | rfl | rfl | rfl
    · exact cast_Y (hts (.castable "TimedYard$LongRow" "TimedYard$Row") (tb_mem 1298 (by decide +kernel)))
    · exact cast_Y (hts (.castable "TimedYard$ShortRow" "TimedYard$Row") (tb_mem 1299 (by decide +kernel)))
    · exact cast_Y (hts (.castable "TimedYard$Place" "TimedYard$Held") (tb_mem 1300 (by decide +kernel)))
    · exact cast_Y (hts (.castable "TimedYard$Way" "TimedYard$Held") (tb_mem 1301 (by decide +kernel)))
    · exact cast_Y (hts (.castable "TimedYard$ShortRow" "TimedYard$Held") (tb_mem 1302 (by decide +kernel)))
    · exact cast_Y (hts (.castable "TimedYard$LongRow" "TimedYard$Held") (tb_mem 1303 (by decide +kernel)))
    · exact ⟨c7, c7, n7.2.1, n7.2.1, va_assign n7.2⟩
    · exact ⟨c8, c8, n8.2.1, n8.2.1, va_assign n8.2⟩
    · exact ⟨c9, c9, n9.2.1, n9.2.1, va_assign n9.2⟩
  · simp only [xNl, List.mem_cons, List.not_mem_nil, or_false] at hp
    rcases hp with rfl | rfl | rfl | rfl | rfl | rfl | rfl | rfl | rfl | rfl | rfl
    · exact va_Nc.of (hs (.not (.castable "TimedYard$Place" "TimedYard$Row")) (by decide +kernel))
    · exact va_Nc.of (hs (.not (.castable "TimedYard$Way" "TimedYard$Row")) (by decide +kernel))
    · exact va_Nc.of (hs (.not (.castable "TimedYard$Place" "TimedYard$LongRow")) (by decide +kernel))
    · exact va_Nc.of (hs (.not (.castable "TimedYard$Way" "TimedYard$LongRow")) (by decide +kernel))
    · exact va_Nc.of (hs (.not (.castable "TimedYard$ShortRow" "TimedYard$LongRow")) (by decide +kernel))
    · exact va_Nc.of (hs (.not (.castable "TimedYard$Place" "TimedYard$ShortRow")) (by decide +kernel))
    · exact va_Nc.of (hs (.not (.castable "TimedYard$Way" "TimedYard$ShortRow")) (by decide +kernel))
    · exact va_Nc.of (hs (.not (.castable "TimedYard$LongRow" "TimedYard$ShortRow")) (by decide +kernel))
    · exact va_Nc.of (hs (.not (.castable "TimedYard$Place" "TimedYard$Way")) (by decide +kernel))
    · exact va_Nc.of (hs (.not (.castable "TimedYard$ShortRow" "TimedYard$Way")) (by decide +kernel))
    · exact va_Nc.of (hs (.not (.castable "TimedYard$LongRow" "TimedYard$Way")) (by decide +kernel))
theorem yK_of {s : State} {b : Nat} (hts : ∀ w ∈ lw_tbl, w.before #[Value.ref b] s = true) (hgv : (Jvm.Cond.and given_1 narrow_1).before #[Value.ref b] s = true) : ∃ Y, yK s.heap.size Y s := by
  have hs := flat_of_before _ hgv
  obtain ⟨a0, -, -, -, q0, -⟩ := Cond.exactly_spec (args := #[Value.ref b]) (first := s) (o := none) (s := s) (idx := []) (t := .string "TimedYard" 153) (cls := "java/lang/String") (hs (.exactly (.string "TimedYard" 153) "java/lang/String") (by decide +kernel))
  obtain ⟨a1, -, -, -, q1, -⟩ := Cond.exactly_spec (args := #[Value.ref b]) (first := s) (o := none) (s := s) (idx := []) (t := .string "TimedYard" 218) (cls := "java/lang/String") (hs (.exactly (.string "TimedYard" 218) "java/lang/String") (by decide +kernel))
  obtain ⟨a2, -, -, -, q2, -⟩ := Cond.exactly_spec (args := #[Value.ref b]) (first := s) (o := none) (s := s) (idx := []) (t := .string "TimedYard" 248) (cls := "java/lang/String") (hs (.exactly (.string "TimedYard" 248) "java/lang/String") (by decide +kernel))
  obtain ⟨a3, -, -, -, q3, -⟩ := Cond.exactly_spec (args := #[Value.ref b]) (first := s) (o := none) (s := s) (idx := []) (t := .string "TimedYard" 261) (cls := "java/lang/String") (hs (.exactly (.string "TimedYard" 261) "java/lang/String") (by decide +kernel))
  obtain ⟨a4, -, -, -, q4, -⟩ := Cond.exactly_spec (args := #[Value.ref b]) (first := s) (o := none) (s := s) (idx := []) (t := .string "TimedYard" 317) (cls := "java/lang/String") (hs (.exactly (.string "TimedYard" 317) "java/lang/String") (by decide +kernel))
  obtain ⟨a5, -, -, -, q5, -⟩ := Cond.exactly_spec (args := #[Value.ref b]) (first := s) (o := none) (s := s) (idx := []) (t := .string "TimedYard" 319) (cls := "java/lang/String") (hs (.exactly (.string "TimedYard" 319) "java/lang/String") (by decide +kernel))
  have hA : ∀ a : Nat, a < s.heap.size → ¬ (s.heap.size ≤ a) := fun a h => Nat.not_le.mpr h
  refine ⟨fifs a0 [a0, a1, a2, a3, a4, a5], fun w hw => ?_, fun i q hq => ?_, va_Nc.of (hs (.not (.castable (yEx 2) (yEx 1))) (by decide +kernel)), va_Nc.of (hs (.not (.castable (yEx 3) (yEx 2))) (by decide +kernel)), vx_Zqof (args := #[Value.ref b]) (hts (.laysStatic Bundle.tN "UNASSIGNED_STACK" Bundle.steD) (tb_mem 769 (by decide +kernel))) (hts (.initialized Bundle.tN) (tb_mem 61 (by decide +kernel))) (hs (.isRef (.static Bundle.tN "UNASSIGNED_STACK" Bundle.steD)) (by decide +kernel)) hA, vx_Zqof (args := #[Value.ref b]) (hts (.laysStatic Bundle.tN "SUPPRESSED_SENTINEL" Bundle.listD) (tb_mem 771 (by decide +kernel))) (hts (.initialized Bundle.tN) (tb_mem 61 (by decide +kernel))) (hs (.isRef (.static Bundle.tN "SUPPRESSED_SENTINEL" Bundle.listD)) (by decide +kernel)) hA⟩
  · refine va_Nw.of (yW_tab w hw) (A := #[Value.ref b]) (hts w ?_)
    simp only [yW, List.mem_cons, List.not_mem_nil, or_false] at hw
    rcases hw with rfl | rfl | rfl | rfl | rfl | rfl | rfl | rfl | rfl | rfl | rfl
    · exact tb_mem 835 (by decide +kernel)
    · exact tb_mem 744 (by decide +kernel)
    · exact tb_mem 811 (by decide +kernel)
    · exact tb_mem 746 (by decide +kernel)
    · exact tb_mem 748 (by decide +kernel)
    · exact tb_mem 750 (by decide +kernel)
    · exact tb_mem 719 (by decide +kernel)
    · exact tb_mem 695 (by decide +kernel)
    · exact tb_mem 868 (by decide +kernel)
    · exact tb_mem 684 (by decide +kernel)
    · exact tb_mem 704 (by decide +kernel)
  · match i, hq with
    | 0, hq => cases hq; exact vk_R.of (hts (.stringRef "TimedYard" 153 "no such state or clock") (tb_mem 842 (by decide +kernel))) q0
    | 1, hq => cases hq; exact vk_R.of (hts (.stringRef "TimedYard" 218 "no such clock") (tb_mem 856 (by decide +kernel))) q1
    | 2, hq => cases hq; exact vk_R.of (hts (.stringRef "TimedYard" 248 "no such shelf") (tb_mem 866 (by decide +kernel))) q2
    | 3, hq => cases hq; exact vk_R.of (hts (.stringRef "TimedYard" 261 "no row with such a place") (tb_mem 876 (by decide +kernel))) q3
    | 4, hq => cases hq; exact vk_R.of (hts (.stringRef "TimedYard" 317 "a word that is given") (tb_mem 783 (by decide +kernel))) q4
    | 5, hq => cases hq; exact vk_R.of (hts (.stringRef "TimedYard" 319 "a word that is taken") (tb_mem 818 (by decide +kernel))) q5
    | i + 6, hq => simp [ySt] at hq

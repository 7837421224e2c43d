/-! The law from its entry, in the picture; and the picture out of what the Statement gives. -/
section LE
variable {g : XG} {p : Program} {l : Launch} {e : Env} {s : State} {m : MethodId} {args : Array Value} {below : List Frame} {meth : Method} {c : Code} {Q : State → Prop} {sa : Nat}
set_option maxHeartbeats 4000000 in
set_option maxRecDepth 100000 in
theorem law_enter (C : x_C g p s m args c cL_law RL 7 lw_tbl) (hlt : l.stackTraces = false) (E : x_E g sa s) (hL : g.2.2.1 ≤ 3072) (Kend : ∀ (h : Hp) (i k n : Nat), XW g p l e room_1 s m args below meth c Q 7 k n h 884 (LV i) []) : XW g p l e room_1 s m args below meth c Q 7 601024 7293034 (x_st g) 0 [some (vR 1), none, none, none, none, none, none] [] := by
  refine x_newO C (k := 601023) (n := 7293020) (ci := 6) (fs := [vR 0, vR 0, vI 0, vR 0, vI 0, vI 0, vR 0, vR 0, vR 0, vR 0, vR 0, vR 0, vR 0, vR 0]) (F := fun a h' => some (a, h')) (res := _) rfl (fun w hw => (k_wsX60 w hw).1) tyX6 tyX6_ok nw_0 nw_1 nw_2 (dfX6 g) rfl dL_law_0 (pc' := 3) rfl (fun a h1 h4 ha hh _ => ?_)
  have ha : a = 4 := ha
  subst ha
  subst hh
  refine x_dup C rfl dL_law_3 (pc' := 4) rfl ?_
  refine x_callI C (As := []) (st := [vR 4]) (r := none) (h' := x_st g ++ hp6) (mc := 15) (ms := 3335) (k := 601008) (n := 7289685) (mX6_init init6) h4 (cwI 0 C.1.2.2.2.2 k_wsX6_init rfl rfl rfl (C.1.2.2.2.2 _ nw_2) (C.1.2.2.2.2 _ nw_10) (C.1.2.2.2.2 _ nw_11) rfl (by decide +kernel) ⟨Nat.le_of_ble_eq_true rfl, Nat.le_of_ble_eq_true rfl⟩) rfl rfl (Nat.le_of_ble_eq_true rfl) dL_law_4 (pc' := 7) rfl ?_
  refine x_astore_n C dL_law_7 (pc' := 8) rfl rfl (by decide) rfl (lv' := [some (vR 1), some (vR 4), none, none, none, none, none]) rfl ?_
  refine x_newO C (k := 601007) (n := 7289658) (ci := 7) (fs := [vI 0, vR 0, vI 0, vI 0, vR 0, vR 0, vR 0, vR 0, vI 0, vR 0, vR 0, vR 0, vR 0, vR 0, vR 0, vR 0, vR 0, vR 0, vR 0, vR 0, vR 0, vI 0, vR 0, vR 0, vR 0, vR 0, vR 0]) (F := fun a h' => some (a, h')) (res := _) rfl (fun w hw => (k_wsX70 w hw).1) tyX7 tyX7_ok nw_3 nw_4 nw_5 (dfX7 g) rfl dL_law_8 (pc' := 11) rfl (fun a h1 h4 ha hh _ => ?_)
  have ha : a = 20 := ha
  subst ha
  subst hh
  refine x_dup C rfl dL_law_11 (pc' := 12) rfl ?_
  refine x_callI C (As := []) (st := [vR 20]) (r := none) (h' := (x_st g ++ hp6) ++ hp7) (mc := 22) (ms := 105458) (k := 600985) (n := 7184200) (mX7_init init7) h4 (cwI 0 C.1.2.2.2.2 k_wsX7_init rfl rfl rfl (C.1.2.2.2.2 _ nw_5) (C.1.2.2.2.2 _ nw_12) (C.1.2.2.2.2 _ nw_13) rfl (by decide +kernel) ⟨Nat.le_of_ble_eq_true rfl, Nat.le_of_ble_eq_true rfl⟩) rfl rfl (Nat.le_of_ble_eq_true rfl) dL_law_12 (pc' := 15) rfl ?_
  refine x_astore_n C dL_law_15 (pc' := 16) rfl rfl (by decide) rfl (lv' := [some (vR 1), some (vR 4), some (vR 20), none, none, none, none]) rfl ?_
  refine x_iconst C (v := nI 1) (by decide) dL_law_16 (pc' := 17) rfl ?_
  refine x_newL C (k := 600984) (n := 7184199) (cap := 1) (F := fun a h' => some (a, h')) nw_6 (by decide) (mkL_ok (by decide)) dL_law_17 (pc' := 19) rfl (fun a h1 _ _ ha hh _ => ?_)
  have ha : a = 43 := ha
  subst ha
  rw [cl_nI (by decide)] at hh
  have hh : h1 = hp0 g := hh
  subst hh
  refine x_astore_n C dL_law_19 (pc' := 20) rfl rfl (by decide) rfl (lv' := [some (vR 1), some (vR 4), some (vR 20), some (vR 43), none, none, none]) rfl ?_
  refine x_iconst C (v := nI 0) (by decide) dL_law_20 (pc' := 21) rfl ?_
  refine x_istore C dL_law_21 (pc' := 23) rfl (by decide) rfl (lv' := LV 0) rfl ?_
  exact x_more (k' := 20 * 512 + kB 0 0) (n' := 364 * 512 + nB 0 0) (by decide) (by decide) (law_loop C hlt E hL Kend 512 0 _ 0 0 (by omega) (by omega) LI0)
theorem law_Kn {s : State} {b : Nat} (hts : ∀ w ∈ lw_tbl, w.before #[Value.ref b] s = true) : ∃ (dC : Nat → ClassId) (dI : Nat → Nat → Nat), ∀ (k : Nat) (q : vw_C), x_cl[k]? = some q → u_Kn s q.1 q.2.1 q.2.2 (dC k) (dI k) := by
  obtain ⟨c0, j0, n0⟩ := u_known (C := RX0) (T := TX0) (N := 1) (n := 1) hts (fun w hw => (k_wsX00 w hw).1) (hts _ nw_15)
  obtain ⟨c1, j1, n1⟩ := u_known (C := RX1) (T := TX1) (N := 5) (n := 5) hts (fun w hw => (k_wsX10 w hw).1) (hts _ nw_16)
  obtain ⟨c2, j2, n2⟩ := u_known (C := RX2) (T := TX2) (N := 5) (n := 5) hts (fun w hw => (k_wsX20 w hw).1) (hts _ nw_17)
  obtain ⟨c3, j3, n3⟩ := u_known (C := RX3) (T := TX3) (N := 13) (n := 13) hts (fun w hw => (k_wsX30 w hw).1) (hts _ nw_18)
  obtain ⟨c4, j4, n4⟩ := u_known (C := RX4) (T := TX4) (N := 4) (n := 4) hts (fun w hw => (k_wsX40 w hw).1) (hts _ nw_19)
  obtain ⟨c5, j5, n5⟩ := u_known (C := RX5) (T := TX5) (N := 3) (n := 3) hts (fun w hw => (k_wsX50 w hw).1) (hts _ nw_20)
  obtain ⟨c6, j6, n6⟩ := u_known (C := RX6) (T := TX6) (N := 14) (n := 14) hts (fun w hw => (k_wsX60 w hw).1) (hts _ nw_1)
  obtain ⟨c7, j7, n7⟩ := u_known (C := RX7) (T := TX7) (N := 27) (n := 27) hts (fun w hw => (k_wsX70 w hw).1) (hts _ nw_4)
  obtain ⟨c8, j8, n8⟩ := u_known (C := "java/util/NoSuchElementException") (T := fun _ => ("", "", "", false)) (N := 0) (n := 6) hts (fun w hw => by simp [u_ws] at hw) (hts _ nw_14)
  refine ⟨fun k => match k with | 0 => c0 | 1 => c1 | 2 => c2 | 3 => c3 | 4 => c4 | 5 => c5 | 6 => c6 | 7 => c7 | _ => c8, fun k => match k with | 0 => j0 | 1 => j1 | 2 => j2 | 3 => j3 | 4 => j4 | 5 => j5 | 6 => j6 | 7 => j7 | _ => j8, fun k q hq => ?_⟩
  match k, hq with
  | 0, hq => cases (show some (RX0, TX0, 1) = some q from hq); exact n0
  | 1, hq => cases (show some (RX1, TX1, 5) = some q from hq); exact n1
  | 2, hq => cases (show some (RX2, TX2, 5) = some q from hq); exact n2
  | 3, hq => cases (show some (RX3, TX3, 13) = some q from hq); exact n3
  | 4, hq => cases (show some (RX4, TX4, 4) = some q from hq); exact n4
  | 5, hq => cases (show some (RX5, TX5, 3) = some q from hq); exact n5
  | 6, hq => cases (show some (RX6, TX6, 14) = some q from hq); exact n6
  | 7, hq => cases (show some (RX7, TX7, 27) = some q from hq); exact n7
  | 8, hq => cases (show some ("java/util/NoSuchElementException", (fun _ => ("", "", "", false) : u_T), 0) = some q from hq); exact n8
  | k + 9, hq => cases (show (none : Option vw_C) = some q from hq)
theorem law_arr {s : State} {A : Array Value} {ty : FieldType} (h : (Cond.arrayClass ty).before A s = true) : ∃ cA : ClassId, ArrOfT s cA ty ∧ s.vm.findClass ("[" ++ ty.toString) = some cA := by
  obtain ⟨cA, kA, comp, f1, f2, f3⟩ := Cond.arrayClass_spec h
  exact ⟨cA, fun n z => ⟨fun k h => (by cases h), kA, f2, comp, f3⟩, f1⟩
set_option maxHeartbeats 4000000 in
set_option maxRecDepth 100000 in
theorem law_world {s : State} {b L : Nat} {xs : Nat → Int32} (hts : ∀ w ∈ lw_tbl, w.before #[Value.ref b] s = true) (hgv : (Jvm.Cond.and given_1 narrow_1).before #[Value.ref b] s = true) (hX : va_X b L xs s s.heap) (hbl : b < s.heap.size) : ∃ (g : XG) (sa : Nat), g.1.1 = s.heap.size ∧ g.1.2 1 = b ∧ g.2.2 = (L, xs) ∧ (va_K g.2.1.2 x_cl (x_ty g) s ∧ x_St g s s.heap ∧ (∀ w ∈ x_nest, va_Nw w s) ∧ va_AO "MossRings$Rule" s ∧ va_Nw (.castable "[I" "java/lang/Cloneable") s) ∧ x_E g sa s ∧ x_H g (x_st g) s.heap := by
  have hs := flat_of_before _ hgv
  have hA : ∀ a : Nat, a < s.heap.size → ¬ (fun q : Nat => s.heap.size ≤ q) a := fun a h1 h2 => Nat.not_le.mpr h1 h2
  obtain ⟨dC, dI, hKc⟩ := law_Kn hts
  obtain ⟨a0, r0, f0⟩ := law_arr (hts _ nw_7)
  obtain ⟨a1, r1, f1⟩ := law_arr (hts _ nw_8)
  obtain ⟨a2, r2, f2⟩ := law_arr (hts _ nw_9)
  obtain ⟨a3, r3, f3⟩ := law_arr (hts _ nw_6)
  obtain ⟨comp, a4, k4, o1, -, o2, o3, o4⟩ := Cond.arrayOver_spec (hts _ tw_over)
  have hW : ∀ j : Nat, j < 5 → (Term.elem (.static "MossRings" "MOST_WIDTH" "[I") (.int (Int32.ofNat j))).eval #[Value.ref b] s none [] s = some (.int (x_mw j)) := fun j hj => by
    match j, hj with
    | 0, _ => exact va_eqt (z := 0) (hs (Cond.eq (.elem (.static "MossRings" "MOST_WIDTH" "[I") (.int 0)) (.int 0)) (by decide +kernel))
    | 1, _ => exact va_eqt (z := 0) (hs (Cond.eq (.elem (.static "MossRings" "MOST_WIDTH" "[I") (.int 1)) (.int 0)) (by decide +kernel))
    | 2, _ => exact va_eqt (z := 4) (hs (Cond.eq (.elem (.static "MossRings" "MOST_WIDTH" "[I") (.int 2)) (.int 4)) (by decide +kernel))
    | 3, _ => exact va_eqt (z := 3) (hs (Cond.eq (.elem (.static "MossRings" "MOST_WIDTH" "[I") (.int 3)) (.int 3)) (by decide +kernel))
    | 4, _ => exact va_eqt (z := 2) (hs (Cond.eq (.elem (.static "MossRings" "MOST_WIDTH" "[I") (.int 4)) (.int 2)) (by decide +kernel))
    | j + 5, hj => exact absurd hj (by omega)
  have hK : ∀ j : Nat, j < 4 → (Term.elem (.static "MossRings$Trail" "LOOKS" "[I") (.int (Int32.ofNat j))).eval #[Value.ref b] s none [] s = some (.int (x_lk j)) := fun j hj => by
    match j, hj with
    | 0, _ => exact va_eqt (z := 32) (hs (Cond.eq (.elem (.static "MossRings$Trail" "LOOKS" "[I") (.int 0)) (.int 32)) (by decide +kernel))
    | 1, _ => exact va_eqt (z := 256) (hs (Cond.eq (.elem (.static "MossRings$Trail" "LOOKS" "[I") (.int 1)) (.int 256)) (by decide +kernel))
    | 2, _ => exact va_eqt (z := 2048) (hs (Cond.eq (.elem (.static "MossRings$Trail" "LOOKS" "[I") (.int 2)) (.int 2048)) (by decide +kernel))
    | 3, _ => exact va_eqt (z := 20000) (hs (Cond.eq (.elem (.static "MossRings$Trail" "LOOKS" "[I") (.int 3)) (.int 20000)) (by decide +kernel))
    | j + 4, hj => exact absurd hj (by omega)
  obtain ⟨tW, eW, TW⟩ := va_Tof (tm := .static "MossRings" "MOST_WIDTH" "[I") (ty := .int) (N := 5) (f := fun j => .int (x_mw j)) (A := fun q : Nat => s.heap.size ≤ q) (by decide) (hs (Cond.arrayOf (.static "MossRings" "MOST_WIDTH" "[I") .int) (by decide +kernel)) (va_eqt (z := 5) (hs (Cond.eq (.length (.static "MossRings" "MOST_WIDTH" "[I")) (.int 5)) (by decide +kernel))) hW hA
  obtain ⟨tL, eL, TL⟩ := va_Tof (tm := .static "MossRings$Trail" "LOOKS" "[I") (ty := .int) (N := 4) (f := fun j => .int (x_lk j)) (A := fun q : Nat => s.heap.size ≤ q) (by decide) (hs (Cond.arrayOf (.static "MossRings$Trail" "LOOKS" "[I") .int) (by decide +kernel)) (va_eqt (z := 4) (hs (Cond.eq (.length (.static "MossRings$Trail" "LOOKS" "[I")) (.int 4)) (by decide +kernel))) hK hA
  obtain ⟨sa, -, -, -, esa, -⟩ := Cond.exactly_spec (hs (Cond.exactly (.string "MossRings" 211) "java/lang/String") (by decide +kernel))
  refine ⟨((s.heap.size, fun a => match a with | 1 => b | 2 => tW | _ => tL), ((fun k => match k with | 0 => a0 | 1 => a1 | 2 => a2 | 3 => a3 | _ => a4), (dC, dI)), (L, xs)), sa, rfl, rfl, rfl, ⟨⟨hKc, fun k q hq => ?_⟩, ⟨va_Zref (hts _ tw_lsW) (hts _ tw_inM) eW hA, TW, va_Zref (hts _ tw_lsL) (hts _ tw_inT) eL hA, TL, hbl, hX⟩, fun w hw => ?_, va_AO.of (hts _ tw_over), va_Nw.of rfl (hts _ tw_clone)⟩, ⟨vk_R.of (hts _ tw_str) esa, fun w hw => va_Nw.of (xw_b_on w hw) (hts w (xw_b_tb w hw)), vx_Zqof (hts _ tw_lsU) (hts _ tw_inH) (hs (Cond.isRef (.static "java/lang/Throwable" "UNASSIGNED_STACK" "[Ljava/lang/StackTraceElement;")) (by decide +kernel)) hA, vx_Zqof (hts _ tw_lsS) (hts _ tw_inH) (hs (Cond.isRef (.static "java/lang/Throwable" "SUPPRESSED_SENTINEL" "Ljava/util/List;")) (by decide +kernel)) hA⟩, rfl, rfl, fun k q hq => ?_⟩
  · match k, hq with
    | 0, hq => cases (show some (a0, FieldType.int) = some q from hq); exact ⟨r0, f0⟩
    | 1, hq => cases (show some (a1, FieldType.byte) = some q from hq); exact ⟨r1, f1⟩
    | 2, hq => cases (show some (a2, FieldType.boolean) = some q from hq); exact ⟨r2, f2⟩
    | 3, hq => cases (show some (a3, FieldType.long) = some q from hq); exact ⟨r3, f3⟩
    | 4, hq => cases (show some (a4, FieldType.object "MossRings$Rule") = some q from hq); exact ⟨fun n z => ⟨fun k h => (by cases h), k4, o2, comp, o3⟩, k4, comp, o2, o3, o1, o4⟩
    | k + 5, hq => cases (show (none : Option (ClassId × FieldType)) = some q from hq)
  · have hon : w.onTables = true := by
      simp only [x_nest, List.mem_cons, List.not_mem_nil, or_false] at hw
      rcases hw with rfl | rfl | rfl | rfl | rfl | rfl | rfl | rfl | rfl | rfl | rfl | rfl | rfl | rfl | rfl <;> rfl
    exact va_Nw.of hon (hts w (nest_tb w hw))
  · cases (show (none : Option (Nat × va_E)) = some q from hq)
end LE

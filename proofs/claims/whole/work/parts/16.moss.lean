-- ===== X6_init
theorem lkX6_init_0 : Cond.methodLink RX6 3 objectInit ∈ wsX6_init := by decide +kernel
theorem lkX6_init_1 : Cond.instanceMethod objectInit ∈ wsX6_init := by decide +kernel
theorem lkX6_init_2 : Cond.code objectInit ⟨#[0xb1]⟩ 1 none ∈ wsX6_init := by decide +kernel
theorem lkX6_init_3 : Cond.classLink RX6 9 "MossRings$Rule" ∈ wsX6_init := by decide +kernel
theorem lkX6_init_4 : Cond.fieldLink RX6 11 "MossRings" "slots" "[LMossRings$Rule;" ∈ wsX6_init := by decide +kernel
theorem hinX6_init_X6 : ∀ w ∈ u_ws RX6 TX6 14, w ∈ wsX6_init := by decide +kernel
theorem lkX6_init_5 : Cond.arrayClass .int ∈ wsX6_init := by decide +kernel
theorem lkX6_init_6 : Cond.fieldLink RX6 15 "MossRings" "tape" "[I" ∈ wsX6_init := by decide +kernel
theorem lkX6_init_7 : Cond.fieldLink RX6 19 "MossRings" "out" "[I" ∈ wsX6_init := by decide +kernel
theorem lkX6_init_8 : Cond.fieldLink RX6 22 "MossRings" "here" "[I" ∈ wsX6_init := by decide +kernel
theorem lkX6_init_9 : Cond.fieldLink RX6 25 "MossRings" "there" "[I" ∈ wsX6_init := by decide +kernel
theorem lkX6_init_10 : Cond.fieldLink RX6 28 "MossRings" "told" "[I" ∈ wsX6_init := by decide +kernel
theorem lkX6_init_11 : Cond.classLink RX6 31 RX5 ∈ wsX6_init := by decide +kernel
theorem lkX6_init_12 : Cond.instantiable RX5 3 ∈ wsX6_init := by decide +kernel
theorem lkX6_init_13 : Cond.initialized RX5 ∈ wsX6_init := by decide +kernel
theorem hinX6_init_X5 : ∀ w ∈ u_ws RX5 TX5 3, w ∈ wsX6_init := by decide +kernel
theorem lkX6_init_14 : Cond.methodLink RX6 33 yX5_init ∈ wsX6_init := by decide +kernel
theorem lkX6_init_15 : Cond.instanceMethod yX5_init ∈ wsX6_init := by decide +kernel
theorem lkX6_init_16 : Cond.fieldLink RX6 34 "MossRings" "walks" "LMossRings$Walks;" ∈ wsX6_init := by decide +kernel
theorem lkX6_init_17 : Cond.classLink RX6 38 RX2 ∈ wsX6_init := by decide +kernel
theorem lkX6_init_18 : Cond.instantiable RX2 5 ∈ wsX6_init := by decide +kernel
theorem lkX6_init_19 : Cond.initialized RX2 ∈ wsX6_init := by decide +kernel
theorem hinX6_init_X2 : ∀ w ∈ u_ws RX2 TX2 5, w ∈ wsX6_init := by decide +kernel
theorem lkX6_init_20 : Cond.methodLink RX6 40 yX2_init ∈ wsX6_init := by decide +kernel
theorem lkX6_init_21 : Cond.instanceMethod yX2_init ∈ wsX6_init := by decide +kernel
theorem lkX6_init_22 : Cond.fieldLink RX6 41 "MossRings" "sets" "LMossRings$Sets;" ∈ wsX6_init := by decide +kernel
theorem lkX6_init_23 : Cond.classLink RX6 45 RX0 ∈ wsX6_init := by decide +kernel
theorem lkX6_init_24 : Cond.instantiable RX0 1 ∈ wsX6_init := by decide +kernel
theorem lkX6_init_25 : Cond.initialized RX0 ∈ wsX6_init := by decide +kernel
theorem hinX6_init_X0 : ∀ w ∈ u_ws RX0 TX0 1, w ∈ wsX6_init := by decide +kernel
theorem lkX6_init_26 : Cond.methodLink RX6 47 yX0_init ∈ wsX6_init := by decide +kernel
theorem lkX6_init_27 : Cond.instanceMethod yX0_init ∈ wsX6_init := by decide +kernel
theorem lkX6_init_28 : Cond.fieldLink RX6 48 "MossRings" "pairs" "LMossRings$Pairs;" ∈ wsX6_init := by decide +kernel
def fX6_init (h : Hp) (a0 : Nat) : Option (Hp) := if a0 = 0 then none else (mkR h 6 (6 : Int32) fun q1 h2 => (pF h2 a0 6 0 (vR q1)).bind fun h3 => mkA h3 0 100 (100 : Int32) fun q4 h5 => (pF h5 a0 6 1 (vR q4)).bind fun h6 => mkA h6 0 512 (512 : Int32) fun q7 h8 => (pF h8 a0 6 3 (vR q7)).bind fun h9 => mkA h9 0 100 (100 : Int32) fun q10 h11 => (pF h11 a0 6 6 (vR q10)).bind fun h12 => mkA h12 0 100 (100 : Int32) fun q13 h14 => (pF h14 a0 6 7 (vR q13)).bind fun h15 => mkA h15 0 27 (27 : Int32) fun q16 h17 => (pF h17 a0 6 8 (vR q16)).bind fun h18 => mkO h18 5 [vR 0, vR 0, vI 0] fun q19 h20 => (fX5_init h20 q19).bind fun h22 => (pF h22 a0 6 9 (vR q19)).bind fun h23 => mkO h23 2 [vR 0, vR 0, vR 0, vR 0, vI 0] fun q24 h25 => (fX2_init h25 q24).bind fun h27 => (pF h27 a0 6 10 (vR q24)).bind fun h28 => mkO h28 0 [vR 0] fun q29 h30 => (fX0_init h30 q29).bind fun h32 => (pF h32 a0 6 11 (vR q29)).bind fun h33 => some h33)
set_option maxHeartbeats 4000000 in
set_option maxRecDepth 100000 in
theorem mX6_init {l : Launch} {g : XG} {h : Hp} {a0 : Nat} {res : Hp} (hf : fX6_init h a0 = some res) : XM l g yX6_init wsX6_init 2 32 15 3335 [vR a0] h none res := by
  refine x_start (cc := cX6_init) (maxL := 1) (ret := none) (by decide) rfl (Nat.le_of_ble_eq_true rfl) (lv := [some (vR a0)]) rfl ?_
  intro p e s m args below meth c C hr hlk hnm
  unfold fX6_init at hf
  refine x_aload_n C dX6_init_0 (pc' := 1) rfl rfl rfl ?_
  refine x_objInit C lkX6_init_0 lkX6_init_1 lkX6_init_2 (Nat.le_of_ble_eq_true rfl) (Nat.le_of_ble_eq_true rfl) hf dX6_init_1 (pc' := 4) rfl (fun hf => ?_)
  refine x_aload_n C dX6_init_4 (pc' := 5) rfl rfl rfl ?_
  refine x_bipush C (v := 6) (by decide) dX6_init_5 (pc' := 7) rfl ?_
  refine x_newR C (k := 14) (n := 3329) lkX6_init_3 (by decide) hf dX6_init_7 (pc' := 10) rfl (fun q1 h2 _ _ _ _ hf => ?_)
  refine x_put C (ci := 6) (kf := 0) rfl (by decide) hinX6_init_X6 tyX6 tyX6_ok nmX6 lkX6_init_4 rfl (Or.inr ⟨rfl, hnm, rfl⟩) rfl hf dX6_init_10 (pc' := 13) rfl (fun h3 _ hf => ?_)
  refine x_aload_n C dX6_init_13 (pc' := 14) rfl rfl rfl ?_
  refine x_bipush C (v := 100) (by decide) dX6_init_14 (pc' := 16) rfl ?_
  refine x_newI C (k := 13) (n := 3229) (ty := .int) rfl (Or.inl ⟨rfl, rfl⟩) lkX6_init_5 (by decide) hf dX6_init_16 (pc' := 18) rfl (fun q4 h5 _ _ _ _ hf => ?_)
  refine x_put C (ci := 6) (kf := 1) rfl (by decide) hinX6_init_X6 tyX6 tyX6_ok nmX6 lkX6_init_6 rfl (Or.inr ⟨rfl, hnm, rfl⟩) rfl hf dX6_init_18 (pc' := 21) rfl (fun h6 _ hf => ?_)
  refine x_aload_n C dX6_init_21 (pc' := 22) rfl rfl rfl ?_
  refine x_sipush C (v := 512) (by decide) dX6_init_22 (pc' := 25) rfl ?_
  refine x_newI C (k := 12) (n := 2717) (ty := .int) rfl (Or.inl ⟨rfl, rfl⟩) lkX6_init_5 (by decide) hf dX6_init_25 (pc' := 27) rfl (fun q7 h8 _ _ _ _ hf => ?_)
  refine x_put C (ci := 6) (kf := 3) rfl (by decide) hinX6_init_X6 tyX6 tyX6_ok nmX6 lkX6_init_7 rfl (Or.inr ⟨rfl, hnm, rfl⟩) rfl hf dX6_init_27 (pc' := 30) rfl (fun h9 _ hf => ?_)
  refine x_aload_n C dX6_init_30 (pc' := 31) rfl rfl rfl ?_
  refine x_bipush C (v := 100) (by decide) dX6_init_31 (pc' := 33) rfl ?_
  refine x_newI C (k := 11) (n := 2617) (ty := .int) rfl (Or.inl ⟨rfl, rfl⟩) lkX6_init_5 (by decide) hf dX6_init_33 (pc' := 35) rfl (fun q10 h11 _ _ _ _ hf => ?_)
  refine x_put C (ci := 6) (kf := 6) rfl (by decide) hinX6_init_X6 tyX6 tyX6_ok nmX6 lkX6_init_8 rfl (Or.inl rfl) rfl hf dX6_init_35 (pc' := 38) rfl (fun h12 _ hf => ?_)
  refine x_aload_n C dX6_init_38 (pc' := 39) rfl rfl rfl ?_
  refine x_bipush C (v := 100) (by decide) dX6_init_39 (pc' := 41) rfl ?_
  refine x_newI C (k := 10) (n := 2517) (ty := .int) rfl (Or.inl ⟨rfl, rfl⟩) lkX6_init_5 (by decide) hf dX6_init_41 (pc' := 43) rfl (fun q13 h14 _ _ _ _ hf => ?_)
  refine x_put C (ci := 6) (kf := 7) rfl (by decide) hinX6_init_X6 tyX6 tyX6_ok nmX6 lkX6_init_9 rfl (Or.inl rfl) rfl hf dX6_init_43 (pc' := 46) rfl (fun h15 _ hf => ?_)
  refine x_aload_n C dX6_init_46 (pc' := 47) rfl rfl rfl ?_
  refine x_bipush C (v := 27) (by decide) dX6_init_47 (pc' := 49) rfl ?_
  refine x_newI C (k := 9) (n := 2490) (ty := .int) rfl (Or.inl ⟨rfl, rfl⟩) lkX6_init_5 (by decide) hf dX6_init_49 (pc' := 51) rfl (fun q16 h17 _ _ _ _ hf => ?_)
  refine x_put C (ci := 6) (kf := 8) rfl (by decide) hinX6_init_X6 tyX6 tyX6_ok nmX6 lkX6_init_10 rfl (Or.inr ⟨rfl, hnm, rfl⟩) rfl hf dX6_init_51 (pc' := 54) rfl (fun h18 _ hf => ?_)
  refine x_aload_n C dX6_init_54 (pc' := 55) rfl rfl rfl ?_
  refine x_newO C (k := 8) (n := 2487) (ci := 5) (fs := [vR 0, vR 0, vI 0]) rfl hinX6_init_X5 tyX5 tyX5_ok lkX6_init_11 lkX6_init_12 lkX6_init_13 (dfX5 g) hf dX6_init_55 (pc' := 58) rfl (fun q19 h20 h4q19 _ _ hf => ?_)
  refine x_dup C rfl dX6_init_58 (pc' := 59) rfl ?_
  obtain ⟨h22, hq, hf⟩ := bind_some hf
  refine x_callI C (As := []) (st := [vR q19, vR a0]) (r := none) (h' := h22) (mc := 1) (ms := 189) (k := 7) (n := 2298) (mX5_init hq) h4q19 (cwI 0 C.1.2.2.2.2 gX6_init_X5_init rfl rfl rfl (C.1.2.2.2.2 _ lkX6_init_13) (C.1.2.2.2.2 _ lkX6_init_14) (C.1.2.2.2.2 _ lkX6_init_15) rfl (by decide +kernel) ⟨Nat.le_of_ble_eq_true rfl, Nat.le_of_ble_eq_true rfl⟩) rfl rfl (Nat.le_of_ble_eq_true rfl) dX6_init_59 (pc' := 62) rfl ?_
  refine x_put C (ci := 6) (kf := 9) rfl (by decide) hinX6_init_X6 tyX6 tyX6_ok nmX6 lkX6_init_16 rfl (Or.inr ⟨rfl, hnm, rfl⟩) rfl hf dX6_init_62 (pc' := 65) rfl (fun h23 _ hf => ?_)
  refine x_aload_n C dX6_init_65 (pc' := 66) rfl rfl rfl ?_
  refine x_newO C (k := 6) (n := 2293) (ci := 2) (fs := [vR 0, vR 0, vR 0, vR 0, vI 0]) rfl hinX6_init_X2 tyX2 tyX2_ok lkX6_init_17 lkX6_init_18 lkX6_init_19 (dfX2 g) hf dX6_init_66 (pc' := 69) rfl (fun q24 h25 h4q24 _ _ hf => ?_)
  refine x_dup C rfl dX6_init_69 (pc' := 70) rfl ?_
  obtain ⟨h27, hq, hf⟩ := bind_some hf
  refine x_callI C (As := []) (st := [vR q24, vR a0]) (r := none) (h' := h27) (mc := 4) (ms := 1563) (k := 2) (n := 730) (mX2_init hq) h4q24 (cwI 0 C.1.2.2.2.2 gX6_init_X2_init rfl rfl rfl (C.1.2.2.2.2 _ lkX6_init_19) (C.1.2.2.2.2 _ lkX6_init_20) (C.1.2.2.2.2 _ lkX6_init_21) rfl (by decide +kernel) ⟨Nat.le_of_ble_eq_true rfl, Nat.le_of_ble_eq_true rfl⟩) rfl rfl (Nat.le_of_ble_eq_true rfl) dX6_init_70 (pc' := 73) rfl ?_
  refine x_put C (ci := 6) (kf := 10) rfl (by decide) hinX6_init_X6 tyX6 tyX6_ok nmX6 lkX6_init_22 rfl (Or.inr ⟨rfl, hnm, rfl⟩) rfl hf dX6_init_73 (pc' := 76) rfl (fun h28 _ hf => ?_)
  refine x_aload_n C dX6_init_76 (pc' := 77) rfl rfl rfl ?_
  refine x_newO C (k := 1) (n := 729) (ci := 0) (fs := [vR 0]) rfl hinX6_init_X0 tyX0 tyX0_ok lkX6_init_23 lkX6_init_24 lkX6_init_25 (dfX0 g) hf dX6_init_77 (pc' := 80) rfl (fun q29 h30 h4q29 _ _ hf => ?_)
  refine x_dup C rfl dX6_init_80 (pc' := 81) rfl ?_
  obtain ⟨h32, hq, hf⟩ := bind_some hf
  refine x_callI C (As := []) (st := [vR q29, vR a0]) (r := none) (h' := h32) (mc := 1) (ms := 729) (k := 0) (n := 0) (mX0_init hq) h4q29 (cwI 0 C.1.2.2.2.2 gX6_init_X0_init rfl rfl rfl (C.1.2.2.2.2 _ lkX6_init_25) (C.1.2.2.2.2 _ lkX6_init_26) (C.1.2.2.2.2 _ lkX6_init_27) rfl (by decide +kernel) ⟨Nat.le_of_ble_eq_true rfl, Nat.le_of_ble_eq_true rfl⟩) rfl rfl (Nat.le_of_ble_eq_true rfl) dX6_init_81 (pc' := 84) rfl ?_
  refine x_put C (ci := 6) (kf := 11) rfl (by decide) hinX6_init_X6 tyX6 tyX6_ok nmX6 lkX6_init_28 rfl (Or.inr ⟨rfl, hnm, rfl⟩) rfl hf dX6_init_84 (pc' := 87) rfl (fun h33 _ hf => ?_)
  cases hf
  exact x_vret C hr hlk dX6_init_87
-- ===== X6_putBytes
theorem lkX6_putBytes_0 : Cond.fieldLink RX6 52 "MossRings" "tapeLength" "I" ∈ wsX6_putBytes := by decide +kernel
theorem hinX6_putBytes_X6 : ∀ w ∈ u_ws RX6 TX6 14, w ∈ wsX6_putBytes := by decide +kernel
theorem lkX6_putBytes_1 : Cond.fieldLink RX6 15 "MossRings" "tape" "[I" ∈ wsX6_putBytes := by decide +kernel
def fX6_putBytes_w3 : Nat → Nat → Int32 → Int32 → Hp → Option (Hp)
  | 0 => fun _ _ _ _ => none
  | n + 1 => fun a0 i1 i2 h => if i2 < 0 then (some h) else ((gI h a0 6 2).bind fun v1 => if (100 : Int32) ≤ v1 then (some h) else ((gR h a0 6 1).bind fun v2 => (gI h a0 6 2).bind fun v3 => (sI h v2 0 v3 (((i1).toUInt32 >>> ((i2).toUInt32 &&& Int32.toUInt32 31)).toInt32 &&& (255 : Int32))).bind fun h4 => (gI h4 a0 6 2).bind fun v5 => (pF h4 a0 6 2 (vI (v5 + (1 : Int32)))).bind fun h6 => (fX6_putBytes_w3 n) a0 i1 (i2 + (-8)) h6))
set_option maxHeartbeats 4000000 in
set_option maxRecDepth 100000 in
theorem mX6_putBytes_w3 {g : XG} {p : Program} {l : Launch} {e : Env} {s : State} {m : MethodId} {args : Array Value} {below : List Frame} {meth : Method} {c : Code} (C : x_C g p s m args c cX6_putBytes RX6 3 wsX6_putBytes) (hr : meth.sig.returnType = none) (hlk : meth.locks = false) (hnm : meth.name = yX6_putBytes.name) {res : Hp} : ∀ (n : Nat) (a0 : Nat) (i1 : Int32) (i2 : Int32) (h : Hp), fX6_putBytes_w3 n a0 i1 i2 h = some res → XW g p l e { frames := 0, cells := 0, slots := 0, locals := 0 } s m args below meth c (MQ below (x_Q g none res) args s 0 0 (x_A g)) 3 0 0 h 3 [some (vR a0), some (vI i1), some (vI i2)] [] := by
  intro n
  induction n with
  | zero =>
    intro a0 i1 i2 h hf
    have hf2 : (none : Option (Hp)) = some res := hf
    cases hf2
  | succ n ih =>
    intro a0 i1 i2 h hf
    rw [fX6_putBytes_w3] at hf
    refine x_iload_n C dX6_putBytes_3 (pc' := 4) rfl rfl rfl ?_
    refine x_if_lt C hf dX6_putBytes_4 (pc' := 7) rfl (tgt := 48) (by decide) (fun _ hf => ?_) (fun _ hf => ?_)
    ·
      cases hf
      exact x_vret C hr hlk dX6_putBytes_48
    ·
      refine x_aload_n C dX6_putBytes_7 (pc' := 8) rfl rfl rfl ?_
      refine x_getI C (ci := 6) (kf := 2) rfl (by decide) hinX6_putBytes_X6 lkX6_putBytes_0 rfl hf dX6_putBytes_8 (pc' := 11) rfl (fun v1 _ hf => ?_)
      refine x_bipush C (v := 100) (by decide) dX6_putBytes_11 (pc' := 13) rfl ?_
      refine x_icmp_ge C hf dX6_putBytes_13 (pc' := 16) rfl (tgt := 48) (by decide) (fun _ hf => ?_) (fun _ hf => ?_)
      ·
        cases hf
        exact x_vret C hr hlk dX6_putBytes_48
      ·
        refine x_aload_n C dX6_putBytes_16 (pc' := 17) rfl rfl rfl ?_
        refine x_getR C (ci := 6) (kf := 1) rfl (by decide) hinX6_putBytes_X6 lkX6_putBytes_1 rfl hf dX6_putBytes_17 (pc' := 20) rfl (fun v2 _ hf => ?_)
        refine x_aload_n C dX6_putBytes_20 (pc' := 21) rfl rfl rfl ?_
        refine x_getI C (ci := 6) (kf := 2) rfl (by decide) hinX6_putBytes_X6 lkX6_putBytes_0 rfl hf dX6_putBytes_21 (pc' := 24) rfl (fun v3 _ hf => ?_)
        refine x_iload_n C dX6_putBytes_24 (pc' := 25) rfl rfl rfl ?_
        refine x_iload_n C dX6_putBytes_25 (pc' := 26) rfl rfl rfl ?_
        refine x_iushr C dX6_putBytes_26 (pc' := 27) rfl ?_
        refine x_sipush C (v := 255) (by decide) dX6_putBytes_27 (pc' := 30) rfl ?_
        refine x_iand C dX6_putBytes_30 (pc' := 31) rfl ?_
        refine x_iastore C hf dX6_putBytes_31 (pc' := 32) rfl (fun h4 _ hf => ?_)
        refine x_aload_n C dX6_putBytes_32 (pc' := 33) rfl rfl rfl ?_
        refine x_dup C rfl dX6_putBytes_33 (pc' := 34) rfl ?_
        refine x_getI C (ci := 6) (kf := 2) rfl (by decide) hinX6_putBytes_X6 lkX6_putBytes_0 rfl hf dX6_putBytes_34 (pc' := 37) rfl (fun v5 _ hf => ?_)
        refine x_iconst C (v := 1) (by decide) dX6_putBytes_37 (pc' := 38) rfl ?_
        refine x_iadd C dX6_putBytes_38 (pc' := 39) rfl ?_
        refine x_put C (ci := 6) (kf := 2) rfl (by decide) hinX6_putBytes_X6 tyX6 tyX6_ok nmX6 lkX6_putBytes_0 rfl (Or.inl rfl) rfl hf dX6_putBytes_39 (pc' := 42) rfl (fun h6 _ hf => ?_)
        refine x_iinc C dX6_putBytes_42 (pc' := 45) rfl rfl (v := (i2 + (-8))) rfl (by decide) rfl (lv' := [some (vR a0), some (vI i1), some (vI (i2 + (-8)))]) rfl ?_
        refine x_goto C dX6_putBytes_45 (tgt := 3) (by decide) ?_
        exact ih a0 i1 (i2 + (-8)) h6 hf
def fX6_putBytes (h : Hp) (a0 : Nat) (i1 : Int32) : Option (Hp) := fX6_putBytes_w3 FUEL a0 i1 (24 : Int32) h
set_option maxHeartbeats 4000000 in
set_option maxRecDepth 100000 in
theorem mX6_putBytes {l : Launch} {g : XG} {h : Hp} {a0 : Nat} {i1 : Int32} {res : Hp} (hf : fX6_putBytes h a0 i1 = some res) : XM l g yX6_putBytes wsX6_putBytes 0 0 0 0 [vR a0, vI i1] h none res := by
  refine x_start (cc := cX6_putBytes) (maxL := 3) (ret := none) (by decide) rfl (Nat.le_of_ble_eq_true rfl) (lv := [some (vR a0), some (vI i1), none]) rfl ?_
  intro p e s m args below meth c C hr hlk hnm
  unfold fX6_putBytes at hf
  refine x_bipush C (v := 24) (by decide) dX6_putBytes_0 (pc' := 2) rfl ?_
  refine x_istore_n C dX6_putBytes_2 (pc' := 3) rfl rfl (by decide) rfl (lv' := [some (vR a0), some (vI i1), some (vI (24 : Int32))]) rfl ?_
  refine x_more (k' := 0) (n' := 0) (Nat.le_of_ble_eq_true rfl) (Nat.le_of_ble_eq_true rfl) ?_
  exact mX6_putBytes_w3 C hr hlk hnm FUEL a0 i1 (24 : Int32) h hf
-- ===== X6_takeTape
theorem lkX6_takeTape_0 : Cond.fieldLink RX6 52 "MossRings" "tapeLength" "I" ∈ wsX6_takeTape := by decide +kernel
theorem hinX6_takeTape_X6 : ∀ w ∈ u_ws RX6 TX6 14, w ∈ wsX6_takeTape := by decide +kernel
def fX6_takeTape (h : Hp) (a0 : Nat) : Option (Int32 × Hp) := (gI h a0 6 2).bind fun v1 => (pF h a0 6 2 (vI (0 : Int32))).bind fun h2 => some (v1, h2)
set_option maxHeartbeats 4000000 in
set_option maxRecDepth 100000 in
theorem mX6_takeTape {l : Launch} {g : XG} {h : Hp} {a0 : Nat} {res : Int32 × Hp} (hf : fX6_takeTape h a0 = some res) : XM l g yX6_takeTape wsX6_takeTape 0 0 0 0 [vR a0] h (some (vI res.1)) res.2 := by
  refine x_start (cc := cX6_takeTape) (maxL := 2) (ret := (some .int)) (by decide) rfl (Nat.le_of_ble_eq_true rfl) (lv := [some (vR a0), none]) rfl ?_
  intro p e s m args below meth c C hr hlk hnm
  unfold fX6_takeTape at hf
  refine x_aload_n C dX6_takeTape_0 (pc' := 1) rfl rfl rfl ?_
  refine x_getI C (ci := 6) (kf := 2) rfl (by decide) hinX6_takeTape_X6 lkX6_takeTape_0 rfl hf dX6_takeTape_1 (pc' := 4) rfl (fun v1 _ hf => ?_)
  refine x_istore_n C dX6_takeTape_4 (pc' := 5) rfl rfl (by decide) rfl (lv' := [some (vR a0), some (vI v1)]) rfl ?_
  refine x_aload_n C dX6_takeTape_5 (pc' := 6) rfl rfl rfl ?_
  refine x_iconst C (v := 0) (by decide) dX6_takeTape_6 (pc' := 7) rfl ?_
  refine x_put C (ci := 6) (kf := 2) rfl (by decide) hinX6_takeTape_X6 tyX6 tyX6_ok nmX6 lkX6_takeTape_0 rfl (Or.inl rfl) rfl hf dX6_takeTape_7 (pc' := 10) rfl (fun h2 _ hf => ?_)
  refine x_iload_n C dX6_takeTape_10 (pc' := 11) rfl rfl rfl ?_
  cases hf
  exact x_iret C hr hlk dX6_takeTape_11
-- ===== X6_areStates
theorem lkX6_areStates_0 : Cond.fieldLink RX6 15 "MossRings" "tape" "[I" ∈ wsX6_areStates := by decide +kernel
theorem hinX6_areStates_X6 : ∀ w ∈ u_ws RX6 TX6 14, w ∈ wsX6_areStates := by decide +kernel
def fX6_areStates_w2 : Nat → Nat → Int32 → Int32 → Int32 → Hp → Option (Int32 × Hp)
  | 0 => fun _ _ _ _ _ => none
  | n + 1 => fun a0 i1 i2 i3 h => if i2 ≤ i3 then (retZ (1 : Int32) h) else (if (100 : Int32) ≤ i3 then (retZ (1 : Int32) h) else ((gR h a0 6 1).bind fun v1 => (aI h v1 0 i3).bind fun v2 => if v2 < i1 then ((fX6_areStates_w2 n) a0 i1 i2 (i3 + 1) h) else (retZ (0 : Int32) h)))
set_option maxHeartbeats 4000000 in
set_option maxRecDepth 100000 in
theorem mX6_areStates_w2 {g : XG} {p : Program} {l : Launch} {e : Env} {s : State} {m : MethodId} {args : Array Value} {below : List Frame} {meth : Method} {c : Code} (C : x_C g p s m args c cX6_areStates RX6 4 wsX6_areStates) (hr : meth.sig.returnType = (some .boolean)) (hlk : meth.locks = false) (hnm : meth.name = yX6_areStates.name) {res : Int32 × Hp} : ∀ (n : Nat) (a0 : Nat) (i1 : Int32) (i2 : Int32) (i3 : Int32) (h : Hp), fX6_areStates_w2 n a0 i1 i2 i3 h = some res → XW g p l e { frames := 0, cells := 0, slots := 0, locals := 0 } s m args below meth c (MQ below (x_Q g (some (vI res.1)) res.2) args s 0 0 (x_A g)) 4 0 0 h 2 [some (vR a0), some (vI i1), some (vI i2), some (vI i3)] [] := by
  intro n
  induction n with
  | zero =>
    intro a0 i1 i2 i3 h hf
    have hf2 : (none : Option (Int32 × Hp)) = some res := hf
    cases hf2
  | succ n ih =>
    intro a0 i1 i2 i3 h hf
    rw [fX6_areStates_w2] at hf
    refine x_iload_n C dX6_areStates_2 (pc' := 3) rfl rfl rfl ?_
    refine x_iload_n C dX6_areStates_3 (pc' := 4) rfl rfl rfl ?_
    refine x_icmp_ge C hf dX6_areStates_4 (pc' := 7) rfl (tgt := 31) (by decide) (fun _ hf => ?_) (fun _ hf => ?_)
    ·
      refine x_iconst C (v := 1) (by decide) dX6_areStates_31 (pc' := 32) rfl ?_
      exact x_zret C hf hr hlk dX6_areStates_32
    ·
      refine x_iload_n C dX6_areStates_7 (pc' := 8) rfl rfl rfl ?_
      refine x_bipush C (v := 100) (by decide) dX6_areStates_8 (pc' := 10) rfl ?_
      refine x_icmp_ge C hf dX6_areStates_10 (pc' := 13) rfl (tgt := 31) (by decide) (fun _ hf => ?_) (fun _ hf => ?_)
      ·
        refine x_iconst C (v := 1) (by decide) dX6_areStates_31 (pc' := 32) rfl ?_
        exact x_zret C hf hr hlk dX6_areStates_32
      ·
        refine x_aload_n C dX6_areStates_13 (pc' := 14) rfl rfl rfl ?_
        refine x_getR C (ci := 6) (kf := 1) rfl (by decide) hinX6_areStates_X6 lkX6_areStates_0 rfl hf dX6_areStates_14 (pc' := 17) rfl (fun v1 _ hf => ?_)
        refine x_iload_n C dX6_areStates_17 (pc' := 18) rfl rfl rfl ?_
        refine x_iaload C hf dX6_areStates_18 (pc' := 19) rfl (fun v2 _ hf => ?_)
        refine x_iload_n C dX6_areStates_19 (pc' := 20) rfl rfl rfl ?_
        refine x_icmp_lt C hf dX6_areStates_20 (pc' := 23) rfl (tgt := 25) (by decide) (fun _ hf => ?_) (fun _ hf => ?_)
        ·
          refine x_iinc C dX6_areStates_25 (pc' := 28) rfl rfl (v := (i3 + 1)) rfl (by decide) rfl (lv' := [some (vR a0), some (vI i1), some (vI i2), some (vI (i3 + 1))]) rfl ?_
          refine x_goto C dX6_areStates_28 (tgt := 2) (by decide) ?_
          exact ih a0 i1 i2 (i3 + 1) h hf
        ·
          refine x_iconst C (v := 0) (by decide) dX6_areStates_23 (pc' := 24) rfl ?_
          exact x_zret C hf hr hlk dX6_areStates_24
def fX6_areStates (h : Hp) (a0 : Nat) (i1 : Int32) (i2 : Int32) : Option (Int32 × Hp) := fX6_areStates_w2 FUEL a0 i1 i2 (0 : Int32) h
set_option maxHeartbeats 4000000 in
set_option maxRecDepth 100000 in
theorem mX6_areStates {l : Launch} {g : XG} {h : Hp} {a0 : Nat} {i1 : Int32} {i2 : Int32} {res : Int32 × Hp} (hf : fX6_areStates h a0 i1 i2 = some res) : XM l g yX6_areStates wsX6_areStates 0 0 0 0 [vR a0, vI i1, vI i2] h (some (vI res.1)) res.2 := by
  refine x_start (cc := cX6_areStates) (maxL := 4) (ret := (some .boolean)) (by decide) rfl (Nat.le_of_ble_eq_true rfl) (lv := [some (vR a0), some (vI i1), some (vI i2), none]) rfl ?_
  intro p e s m args below meth c C hr hlk hnm
  unfold fX6_areStates at hf
  refine x_iconst C (v := 0) (by decide) dX6_areStates_0 (pc' := 1) rfl ?_
  refine x_istore_n C dX6_areStates_1 (pc' := 2) rfl rfl (by decide) rfl (lv' := [some (vR a0), some (vI i1), some (vI i2), some (vI (0 : Int32))]) rfl ?_
  refine x_more (k' := 0) (n' := 0) (Nat.le_of_ble_eq_true rfl) (Nat.le_of_ble_eq_true rfl) ?_
  exact mX6_areStates_w2 C hr hlk hnm FUEL a0 i1 i2 (0 : Int32) h hf
-- ===== X6_areFewStates
def fX6_areFewStates (h : Hp) (a0 : Nat) (i1 : Int32) (i2 : Int32) : Option (Int32 × Hp) := if i2 < (1 : Int32) then (retZ (0 : Int32) h) else (if (20 : Int32) < i2 then (retZ (0 : Int32) h) else (call (oK h a0 6 (fX6_areStates h a0 i1 i2)) fun r1 h2 => if r1 = 0 then (retZ (0 : Int32) h2) else (retZ (1 : Int32) h2)))
set_option maxHeartbeats 4000000 in
set_option maxRecDepth 100000 in
theorem mX6_areFewStates {l : Launch} {g : XG} {h : Hp} {a0 : Nat} {i1 : Int32} {i2 : Int32} {res : Int32 × Hp} (hf : fX6_areFewStates h a0 i1 i2 = some res) : XM l g yX6_areFewStates wsX6_areFewStates 1 23 0 0 [vR a0, vI i1, vI i2] h (some (vI res.1)) res.2 := by
  refine x_start (cc := cX6_areFewStates) (maxL := 3) (ret := (some .boolean)) (by decide) rfl (Nat.le_of_ble_eq_true rfl) (lv := [some (vR a0), some (vI i1), some (vI i2)]) rfl ?_
  intro p e s m args below meth c C hr hlk hnm
  unfold fX6_areFewStates at hf
  refine x_iload_n C dX6_areFewStates_0 (pc' := 1) rfl rfl rfl ?_
  refine x_iconst C (v := 1) (by decide) dX6_areFewStates_1 (pc' := 2) rfl ?_
  refine x_icmp_lt C hf dX6_areFewStates_2 (pc' := 5) rfl (tgt := 24) (by decide) (fun _ hf => ?_) (fun _ hf => ?_)
  ·
    refine x_iconst C (v := 0) (by decide) dX6_areFewStates_24 (pc' := 25) rfl ?_
    exact x_zret C hf hr hlk dX6_areFewStates_25
  ·
    refine x_iload_n C dX6_areFewStates_5 (pc' := 6) rfl rfl rfl ?_
    refine x_bipush C (v := 20) (by decide) dX6_areFewStates_6 (pc' := 8) rfl ?_
    refine x_icmp_gt C hf dX6_areFewStates_8 (pc' := 11) rfl (tgt := 24) (by decide) (fun _ hf => ?_) (fun _ hf => ?_)
    ·
      refine x_iconst C (v := 0) (by decide) dX6_areFewStates_24 (pc' := 25) rfl ?_
      exact x_zret C hf hr hlk dX6_areFewStates_25
    ·
      refine x_aload_n C dX6_areFewStates_11 (pc' := 12) rfl rfl rfl ?_
      refine x_iload_n C dX6_areFewStates_12 (pc' := 13) rfl rfl rfl ?_
      refine x_iload_n C dX6_areFewStates_13 (pc' := 14) rfl rfl rfl ?_
      obtain ⟨r1, h2, hq, hf⟩ := call_some hf
      obtain ⟨hob, hq⟩ := oK_some hq
      refine x_callV C (As := [vI i1, vI i2]) (st := []) (r := (some (vI r1))) (h' := h2) (mc := 0) (ms := 0) (k := 0) (n := 0) (mX6_areStates hq) hob (ci := 6) rfl (cwV 2 C.1.2.2.2.2 gX6_areFewStates_X6_areStates rfl rfl rfl (by decide +kernel) ⟨Nat.le_of_ble_eq_true rfl, Nat.le_of_ble_eq_true rfl⟩) rfl rfl (Nat.le_of_ble_eq_true rfl) dX6_areFewStates_14 (pc' := 17) rfl ?_
      refine x_if_eq C hf dX6_areFewStates_17 (pc' := 20) rfl (tgt := 24) (by decide) (fun _ hf => ?_) (fun _ hf => ?_)
      ·
        refine x_iconst C (v := 0) (by decide) dX6_areFewStates_24 (pc' := 25) rfl ?_
        exact x_zret C hf hr hlk dX6_areFewStates_25
      ·
        refine x_iconst C (v := 1) (by decide) dX6_areFewStates_20 (pc' := 21) rfl ?_
        refine x_goto C dX6_areFewStates_21 (tgt := 25) (by decide) ?_
        exact x_zret C hf hr hlk dX6_areFewStates_25
-- ===== X6_isEachOnce
theorem lkX6_isEachOnce_0 : Cond.fieldLink RX6 15 "MossRings" "tape" "[I" ∈ wsX6_isEachOnce := by decide +kernel
theorem hinX6_isEachOnce_X6 : ∀ w ∈ u_ws RX6 TX6 14, w ∈ wsX6_isEachOnce := by decide +kernel
def fX6_isEachOnce_b41 (i1 : Int32) (i2 : Int32) (h : Hp) : Option (Int32 × Hp) := if i2 = (((1 : Int32) <<< (i1 &&& 31)) - (1 : Int32)) then (retZ (1 : Int32) h) else (retZ (0 : Int32) h)
set_option maxHeartbeats 4000000 in
set_option maxRecDepth 100000 in
theorem mX6_isEachOnce_b41 {g : XG} {p : Program} {l : Launch} {e : Env} {s : State} {m : MethodId} {args : Array Value} {below : List Frame} {meth : Method} {c : Code} (C : x_C g p s m args c cX6_isEachOnce RX6 4 wsX6_isEachOnce) (hr : meth.sig.returnType = (some .boolean)) (hlk : meth.locks = false) (hnm : meth.name = yX6_isEachOnce.name) {res : Int32 × Hp} (i1 : Int32) (i2 : Int32) (h : Hp) (hf : fX6_isEachOnce_b41 i1 i2 h = some res) : XW g p l e { frames := 0, cells := 0, slots := 0, locals := 0 } s m args below meth c (MQ below (x_Q g (some (vI res.1)) res.2) args s 0 0 (x_A g)) 4 0 0 h 41 [none, some (vI i1), some (vI i2), none] [] := by
  unfold fX6_isEachOnce_b41 at hf
  refine x_iload_n C dX6_isEachOnce_41 (pc' := 42) rfl rfl rfl ?_
  refine x_iconst C (v := 1) (by decide) dX6_isEachOnce_42 (pc' := 43) rfl ?_
  refine x_iload_n C dX6_isEachOnce_43 (pc' := 44) rfl rfl rfl ?_
  refine x_ishl C dX6_isEachOnce_44 (pc' := 45) rfl ?_
  refine x_iconst C (v := 1) (by decide) dX6_isEachOnce_45 (pc' := 46) rfl ?_
  refine x_isub C dX6_isEachOnce_46 (pc' := 47) rfl ?_
  refine x_icmp_ne C hf dX6_isEachOnce_47 (pc' := 50) rfl (tgt := 54) (by decide) (fun _ hf => ?_) (fun _ hf => ?_)
  ·
    refine x_iconst C (v := 1) (by decide) dX6_isEachOnce_50 (pc' := 51) rfl ?_
    refine x_goto C dX6_isEachOnce_51 (tgt := 55) (by decide) ?_
    exact x_zret C hf hr hlk dX6_isEachOnce_55
  ·
    refine x_iconst C (v := 0) (by decide) dX6_isEachOnce_54 (pc' := 55) rfl ?_
    exact x_zret C hf hr hlk dX6_isEachOnce_55
def fX6_isEachOnce_b35 (w4 : Nat → Int32 → Int32 → Int32 → Hp → Option (Int32 × Hp)) (a0 : Nat) (i1 : Int32) (i2 : Int32) (i3 : Int32) (h : Hp) : Option (Int32 × Hp) := w4 a0 i1 i2 (i3 + 1) h
set_option maxHeartbeats 4000000 in
set_option maxRecDepth 100000 in
theorem mX6_isEachOnce_b35 {g : XG} {p : Program} {l : Launch} {e : Env} {s : State} {m : MethodId} {args : Array Value} {below : List Frame} {meth : Method} {c : Code} (C : x_C g p s m args c cX6_isEachOnce RX6 4 wsX6_isEachOnce) (hr : meth.sig.returnType = (some .boolean)) (hlk : meth.locks = false) (hnm : meth.name = yX6_isEachOnce.name) {res : Int32 × Hp} (w4 : Nat → Int32 → Int32 → Int32 → Hp → Option (Int32 × Hp)) (hw4 : ∀ (a0 : Nat) (i1 : Int32) (i2 : Int32) (i3 : Int32) (h : Hp), w4 a0 i1 i2 i3 h = some res → XW g p l e { frames := 0, cells := 0, slots := 0, locals := 0 } s m args below meth c (MQ below (x_Q g (some (vI res.1)) res.2) args s 0 0 (x_A g)) 4 0 0 h 4 [some (vR a0), some (vI i1), some (vI i2), some (vI i3)] []) (a0 : Nat) (i1 : Int32) (i2 : Int32) (i3 : Int32) (h : Hp) (hf : fX6_isEachOnce_b35 w4 a0 i1 i2 i3 h = some res) : XW g p l e { frames := 0, cells := 0, slots := 0, locals := 0 } s m args below meth c (MQ below (x_Q g (some (vI res.1)) res.2) args s 0 0 (x_A g)) 4 0 0 h 35 [some (vR a0), some (vI i1), some (vI i2), some (vI i3)] [] := by
  unfold fX6_isEachOnce_b35 at hf
  refine x_iinc C dX6_isEachOnce_35 (pc' := 38) rfl rfl (v := (i3 + 1)) rfl (by decide) rfl (lv' := [some (vR a0), some (vI i1), some (vI i2), some (vI (i3 + 1))]) rfl ?_
  refine x_goto C dX6_isEachOnce_38 (tgt := 4) (by decide) ?_
  exact hw4 a0 i1 i2 (i3 + 1) h hf
def fX6_isEachOnce_w4 : Nat → Nat → Int32 → Int32 → Int32 → Hp → Option (Int32 × Hp)
  | 0 => fun _ _ _ _ _ => none
  | n + 1 => fun a0 i1 i2 i3 h => if i1 ≤ i3 then (fX6_isEachOnce_b41 i1 i2 h) else (if (4 : Int32) ≤ i3 then (fX6_isEachOnce_b41 i1 i2 h) else ((gR h a0 6 1).bind fun v1 => (aI h v1 0 i3).bind fun v2 => if i1 ≤ v2 then (fX6_isEachOnce_b35 (fX6_isEachOnce_w4 n) a0 i1 i2 i3 h) else ((gR h a0 6 1).bind fun v3 => (aI h v3 0 i3).bind fun v4 => setv ((i2 ||| ((1 : Int32) <<< (v4 &&& 31)))) fun v5 => fX6_isEachOnce_b35 (fX6_isEachOnce_w4 n) a0 i1 v5 i3 h)))
set_option maxHeartbeats 4000000 in
set_option maxRecDepth 100000 in
theorem mX6_isEachOnce_w4 {g : XG} {p : Program} {l : Launch} {e : Env} {s : State} {m : MethodId} {args : Array Value} {below : List Frame} {meth : Method} {c : Code} (C : x_C g p s m args c cX6_isEachOnce RX6 4 wsX6_isEachOnce) (hr : meth.sig.returnType = (some .boolean)) (hlk : meth.locks = false) (hnm : meth.name = yX6_isEachOnce.name) {res : Int32 × Hp} : ∀ (n : Nat) (a0 : Nat) (i1 : Int32) (i2 : Int32) (i3 : Int32) (h : Hp), fX6_isEachOnce_w4 n a0 i1 i2 i3 h = some res → XW g p l e { frames := 0, cells := 0, slots := 0, locals := 0 } s m args below meth c (MQ below (x_Q g (some (vI res.1)) res.2) args s 0 0 (x_A g)) 4 0 0 h 4 [some (vR a0), some (vI i1), some (vI i2), some (vI i3)] [] := by
  intro n
  induction n with
  | zero =>
    intro a0 i1 i2 i3 h hf
    have hf2 : (none : Option (Int32 × Hp)) = some res := hf
    cases hf2
  | succ n ih =>
    intro a0 i1 i2 i3 h hf
    rw [fX6_isEachOnce_w4] at hf
    refine x_iload_n C dX6_isEachOnce_4 (pc' := 5) rfl rfl rfl ?_
    refine x_iload_n C dX6_isEachOnce_5 (pc' := 6) rfl rfl rfl ?_
    refine x_icmp_ge C hf dX6_isEachOnce_6 (pc' := 9) rfl (tgt := 41) (by decide) (fun _ hf => ?_) (fun _ hf => ?_)
    ·
      refine x_keep [false, true, true, false] rfl ?_
      refine x_more (k' := 0) (n' := 0) (Nat.le_of_ble_eq_true rfl) (Nat.le_of_ble_eq_true rfl) ?_
      exact mX6_isEachOnce_b41 C hr hlk hnm i1 i2 h hf
    ·
      refine x_iload_n C dX6_isEachOnce_9 (pc' := 10) rfl rfl rfl ?_
      refine x_iconst C (v := 4) (by decide) dX6_isEachOnce_10 (pc' := 11) rfl ?_
      refine x_icmp_ge C hf dX6_isEachOnce_11 (pc' := 14) rfl (tgt := 41) (by decide) (fun _ hf => ?_) (fun _ hf => ?_)
      ·
        refine x_keep [false, true, true, false] rfl ?_
        refine x_more (k' := 0) (n' := 0) (Nat.le_of_ble_eq_true rfl) (Nat.le_of_ble_eq_true rfl) ?_
        exact mX6_isEachOnce_b41 C hr hlk hnm i1 i2 h hf
      ·
        refine x_aload_n C dX6_isEachOnce_14 (pc' := 15) rfl rfl rfl ?_
        refine x_getR C (ci := 6) (kf := 1) rfl (by decide) hinX6_isEachOnce_X6 lkX6_isEachOnce_0 rfl hf dX6_isEachOnce_15 (pc' := 18) rfl (fun v1 _ hf => ?_)
        refine x_iload_n C dX6_isEachOnce_18 (pc' := 19) rfl rfl rfl ?_
        refine x_iaload C hf dX6_isEachOnce_19 (pc' := 20) rfl (fun v2 _ hf => ?_)
        refine x_iload_n C dX6_isEachOnce_20 (pc' := 21) rfl rfl rfl ?_
        refine x_icmp_ge C hf dX6_isEachOnce_21 (pc' := 24) rfl (tgt := 35) (by decide) (fun _ hf => ?_) (fun _ hf => ?_)
        ·
          refine x_more (k' := 0) (n' := 0) (Nat.le_of_ble_eq_true rfl) (Nat.le_of_ble_eq_true rfl) ?_
          exact mX6_isEachOnce_b35 C hr hlk hnm (fX6_isEachOnce_w4 n) ih a0 i1 i2 i3 h hf
        ·
          refine x_iload_n C dX6_isEachOnce_24 (pc' := 25) rfl rfl rfl ?_
          refine x_iconst C (v := 1) (by decide) dX6_isEachOnce_25 (pc' := 26) rfl ?_
          refine x_aload_n C dX6_isEachOnce_26 (pc' := 27) rfl rfl rfl ?_
          refine x_getR C (ci := 6) (kf := 1) rfl (by decide) hinX6_isEachOnce_X6 lkX6_isEachOnce_0 rfl hf dX6_isEachOnce_27 (pc' := 30) rfl (fun v3 _ hf => ?_)
          refine x_iload_n C dX6_isEachOnce_30 (pc' := 31) rfl rfl rfl ?_
          refine x_iaload C hf dX6_isEachOnce_31 (pc' := 32) rfl (fun v4 _ hf => ?_)
          refine x_ishl C dX6_isEachOnce_32 (pc' := 33) rfl ?_
          refine x_ior C dX6_isEachOnce_33 (pc' := 34) rfl ?_
          refine x_nameI hf (fun v5 _ hf => ?_)
          refine x_istore_n C dX6_isEachOnce_34 (pc' := 35) rfl rfl (by decide) rfl (lv' := [some (vR a0), some (vI i1), some (vI v5), some (vI i3)]) rfl ?_
          refine x_more (k' := 0) (n' := 0) (Nat.le_of_ble_eq_true rfl) (Nat.le_of_ble_eq_true rfl) ?_
          exact mX6_isEachOnce_b35 C hr hlk hnm (fX6_isEachOnce_w4 n) ih a0 i1 v5 i3 h hf
def fX6_isEachOnce (h : Hp) (a0 : Nat) (i1 : Int32) : Option (Int32 × Hp) := fX6_isEachOnce_w4 FUEL a0 i1 (0 : Int32) (0 : Int32) h
set_option maxHeartbeats 4000000 in
set_option maxRecDepth 100000 in
theorem mX6_isEachOnce {l : Launch} {g : XG} {h : Hp} {a0 : Nat} {i1 : Int32} {res : Int32 × Hp} (hf : fX6_isEachOnce h a0 i1 = some res) : XM l g yX6_isEachOnce wsX6_isEachOnce 0 0 0 0 [vR a0, vI i1] h (some (vI res.1)) res.2 := by
  refine x_start (cc := cX6_isEachOnce) (maxL := 4) (ret := (some .boolean)) (by decide) rfl (Nat.le_of_ble_eq_true rfl) (lv := [some (vR a0), some (vI i1), none, none]) rfl ?_
  intro p e s m args below meth c C hr hlk hnm
  unfold fX6_isEachOnce at hf
  refine x_iconst C (v := 0) (by decide) dX6_isEachOnce_0 (pc' := 1) rfl ?_
  refine x_istore_n C dX6_isEachOnce_1 (pc' := 2) rfl rfl (by decide) rfl (lv' := [some (vR a0), some (vI i1), some (vI (0 : Int32)), none]) rfl ?_
  refine x_iconst C (v := 0) (by decide) dX6_isEachOnce_2 (pc' := 3) rfl ?_
  refine x_istore_n C dX6_isEachOnce_3 (pc' := 4) rfl rfl (by decide) rfl (lv' := [some (vR a0), some (vI i1), some (vI (0 : Int32)), some (vI (0 : Int32))]) rfl ?_
  refine x_more (k' := 0) (n' := 0) (Nat.le_of_ble_eq_true rfl) (Nat.le_of_ble_eq_true rfl) ?_
  exact mX6_isEachOnce_w4 C hr hlk hnm FUEL a0 i1 (0 : Int32) (0 : Int32) h hf
-- ===== X6_placeOnTape
theorem lkX6_placeOnTape_0 : Cond.fieldLink RX6 15 "MossRings" "tape" "[I" ∈ wsX6_placeOnTape := by decide +kernel
theorem hinX6_placeOnTape_X6 : ∀ w ∈ u_ws RX6 TX6 14, w ∈ wsX6_placeOnTape := by decide +kernel
def fX6_placeOnTape_b35 (w5 : Nat → Int32 → Int32 → Int32 → Int32 → Hp → Option (Int32 × Hp)) (a0 : Nat) (i1 : Int32) (i2 : Int32) (i3 : Int32) (i4 : Int32) (h : Hp) : Option (Int32 × Hp) := w5 a0 i1 i2 i3 (i4 + 1) h
set_option maxHeartbeats 4000000 in
set_option maxRecDepth 100000 in
theorem mX6_placeOnTape_b35 {g : XG} {p : Program} {l : Launch} {e : Env} {s : State} {m : MethodId} {args : Array Value} {below : List Frame} {meth : Method} {c : Code} (C : x_C g p s m args c cX6_placeOnTape RX6 5 wsX6_placeOnTape) (hr : meth.sig.returnType = (some .int)) (hlk : meth.locks = false) (hnm : meth.name = yX6_placeOnTape.name) {res : Int32 × Hp} (w5 : Nat → Int32 → Int32 → Int32 → Int32 → Hp → Option (Int32 × Hp)) (hw5 : ∀ (a0 : Nat) (i1 : Int32) (i2 : Int32) (i3 : Int32) (i4 : Int32) (h : Hp), w5 a0 i1 i2 i3 i4 h = some res → XW g p l e { frames := 0, cells := 0, slots := 0, locals := 0 } s m args below meth c (MQ below (x_Q g (some (vI res.1)) res.2) args s 0 0 (x_A g)) 5 0 0 h 5 [some (vR a0), some (vI i1), some (vI i2), some (vI i3), some (vI i4)] []) (a0 : Nat) (i1 : Int32) (i2 : Int32) (i3 : Int32) (i4 : Int32) (h : Hp) (hf : fX6_placeOnTape_b35 w5 a0 i1 i2 i3 i4 h = some res) : XW g p l e { frames := 0, cells := 0, slots := 0, locals := 0 } s m args below meth c (MQ below (x_Q g (some (vI res.1)) res.2) args s 0 0 (x_A g)) 5 0 0 h 35 [some (vR a0), some (vI i1), some (vI i2), some (vI i3), some (vI i4)] [] := by
  unfold fX6_placeOnTape_b35 at hf
  refine x_iinc C dX6_placeOnTape_35 (pc' := 38) rfl rfl (v := (i4 + 1)) rfl (by decide) rfl (lv' := [some (vR a0), some (vI i1), some (vI i2), some (vI i3), some (vI (i4 + 1))]) rfl ?_
  refine x_goto C dX6_placeOnTape_38 (tgt := 5) (by decide) ?_
  exact hw5 a0 i1 i2 i3 (i4 + 1) h hf
def fX6_placeOnTape_w5 : Nat → Nat → Int32 → Int32 → Int32 → Int32 → Hp → Option (Int32 × Hp)
  | 0 => fun _ _ _ _ _ _ => none
  | n + 1 => fun a0 i1 i2 i3 i4 h => if i2 ≤ i4 then (some (i3, h)) else ((gR h a0 6 1).bind fun v1 => (aN h v1).bind fun v2 => if v2 ≤ i4 then (some (i3, h)) else ((gR h a0 6 1).bind fun v3 => (aI h v3 0 i4).bind fun v4 => if v4 = i1 then (fX6_placeOnTape_b35 (fX6_placeOnTape_w5 n) a0 i1 i2 i4 i4 h) else (fX6_placeOnTape_b35 (fX6_placeOnTape_w5 n) a0 i1 i2 i3 i4 h)))
set_option maxHeartbeats 4000000 in
set_option maxRecDepth 100000 in
theorem mX6_placeOnTape_w5 {g : XG} {p : Program} {l : Launch} {e : Env} {s : State} {m : MethodId} {args : Array Value} {below : List Frame} {meth : Method} {c : Code} (C : x_C g p s m args c cX6_placeOnTape RX6 5 wsX6_placeOnTape) (hr : meth.sig.returnType = (some .int)) (hlk : meth.locks = false) (hnm : meth.name = yX6_placeOnTape.name) {res : Int32 × Hp} : ∀ (n : Nat) (a0 : Nat) (i1 : Int32) (i2 : Int32) (i3 : Int32) (i4 : Int32) (h : Hp), fX6_placeOnTape_w5 n a0 i1 i2 i3 i4 h = some res → XW g p l e { frames := 0, cells := 0, slots := 0, locals := 0 } s m args below meth c (MQ below (x_Q g (some (vI res.1)) res.2) args s 0 0 (x_A g)) 5 0 0 h 5 [some (vR a0), some (vI i1), some (vI i2), some (vI i3), some (vI i4)] [] := by
  intro n
  induction n with
  | zero =>
    intro a0 i1 i2 i3 i4 h hf
    have hf2 : (none : Option (Int32 × Hp)) = some res := hf
    cases hf2
  | succ n ih =>
    intro a0 i1 i2 i3 i4 h hf
    rw [fX6_placeOnTape_w5] at hf
    refine x_iload C dX6_placeOnTape_5 (pc' := 7) rfl rfl ?_
    refine x_iload_n C dX6_placeOnTape_7 (pc' := 8) rfl rfl rfl ?_
    refine x_icmp_ge C hf dX6_placeOnTape_8 (pc' := 11) rfl (tgt := 41) (by decide) (fun _ hf => ?_) (fun _ hf => ?_)
    ·
      refine x_iload_n C dX6_placeOnTape_41 (pc' := 42) rfl rfl rfl ?_
      cases hf
      exact x_iret C hr hlk dX6_placeOnTape_42
    ·
      refine x_iload C dX6_placeOnTape_11 (pc' := 13) rfl rfl ?_
      refine x_aload_n C dX6_placeOnTape_13 (pc' := 14) rfl rfl rfl ?_
      refine x_getR C (ci := 6) (kf := 1) rfl (by decide) hinX6_placeOnTape_X6 lkX6_placeOnTape_0 rfl hf dX6_placeOnTape_14 (pc' := 17) rfl (fun v1 _ hf => ?_)
      refine x_alen C hf dX6_placeOnTape_17 (pc' := 18) rfl (fun v2 _ hf => ?_)
      refine x_icmp_ge C hf dX6_placeOnTape_18 (pc' := 21) rfl (tgt := 41) (by decide) (fun _ hf => ?_) (fun _ hf => ?_)
      ·
        refine x_iload_n C dX6_placeOnTape_41 (pc' := 42) rfl rfl rfl ?_
        cases hf
        exact x_iret C hr hlk dX6_placeOnTape_42
      ·
        refine x_aload_n C dX6_placeOnTape_21 (pc' := 22) rfl rfl rfl ?_
        refine x_getR C (ci := 6) (kf := 1) rfl (by decide) hinX6_placeOnTape_X6 lkX6_placeOnTape_0 rfl hf dX6_placeOnTape_22 (pc' := 25) rfl (fun v3 _ hf => ?_)
        refine x_iload C dX6_placeOnTape_25 (pc' := 27) rfl rfl ?_
        refine x_iaload C hf dX6_placeOnTape_27 (pc' := 28) rfl (fun v4 _ hf => ?_)
        refine x_iload_n C dX6_placeOnTape_28 (pc' := 29) rfl rfl rfl ?_
        refine x_icmp_ne C hf dX6_placeOnTape_29 (pc' := 32) rfl (tgt := 35) (by decide) (fun _ hf => ?_) (fun _ hf => ?_)
        ·
          refine x_iload C dX6_placeOnTape_32 (pc' := 34) rfl rfl ?_
          refine x_istore_n C dX6_placeOnTape_34 (pc' := 35) rfl rfl (by decide) rfl (lv' := [some (vR a0), some (vI i1), some (vI i2), some (vI i4), some (vI i4)]) rfl ?_
          refine x_more (k' := 0) (n' := 0) (Nat.le_of_ble_eq_true rfl) (Nat.le_of_ble_eq_true rfl) ?_
          exact mX6_placeOnTape_b35 C hr hlk hnm (fX6_placeOnTape_w5 n) ih a0 i1 i2 i4 i4 h hf
        ·
          refine x_more (k' := 0) (n' := 0) (Nat.le_of_ble_eq_true rfl) (Nat.le_of_ble_eq_true rfl) ?_
          exact mX6_placeOnTape_b35 C hr hlk hnm (fX6_placeOnTape_w5 n) ih a0 i1 i2 i3 i4 h hf
def fX6_placeOnTape (h : Hp) (a0 : Nat) (i1 : Int32) (i2 : Int32) : Option (Int32 × Hp) := fX6_placeOnTape_w5 FUEL a0 i1 i2 (0 : Int32) (0 : Int32) h
set_option maxHeartbeats 4000000 in
set_option maxRecDepth 100000 in
theorem mX6_placeOnTape {l : Launch} {g : XG} {h : Hp} {a0 : Nat} {i1 : Int32} {i2 : Int32} {res : Int32 × Hp} (hf : fX6_placeOnTape h a0 i1 i2 = some res) : XM l g yX6_placeOnTape wsX6_placeOnTape 0 0 0 0 [vR a0, vI i1, vI i2] h (some (vI res.1)) res.2 := by
  refine x_start (cc := cX6_placeOnTape) (maxL := 5) (ret := (some .int)) (by decide) rfl (Nat.le_of_ble_eq_true rfl) (lv := [some (vR a0), some (vI i1), some (vI i2), none, none]) rfl ?_
  intro p e s m args below meth c C hr hlk hnm
  unfold fX6_placeOnTape at hf
  refine x_iconst C (v := 0) (by decide) dX6_placeOnTape_0 (pc' := 1) rfl ?_
  refine x_istore_n C dX6_placeOnTape_1 (pc' := 2) rfl rfl (by decide) rfl (lv' := [some (vR a0), some (vI i1), some (vI i2), some (vI (0 : Int32)), none]) rfl ?_
  refine x_iconst C (v := 0) (by decide) dX6_placeOnTape_2 (pc' := 3) rfl ?_
  refine x_istore C dX6_placeOnTape_3 (pc' := 5) rfl (by decide) rfl (lv' := [some (vR a0), some (vI i1), some (vI i2), some (vI (0 : Int32)), some (vI (0 : Int32))]) rfl ?_
  refine x_more (k' := 0) (n' := 0) (Nat.le_of_ble_eq_true rfl) (Nat.le_of_ble_eq_true rfl) ?_
  exact mX6_placeOnTape_w5 C hr hlk hnm FUEL a0 i1 i2 (0 : Int32) (0 : Int32) h hf
-- ===== X6_fullSlots
theorem lkX6_fullSlots_0 : Cond.fieldLink RX6 11 "MossRings" "slots" "[LMossRings$Rule;" ∈ wsX6_fullSlots := by decide +kernel
theorem hinX6_fullSlots_X6 : ∀ w ∈ u_ws RX6 TX6 14, w ∈ wsX6_fullSlots := by decide +kernel
def fX6_fullSlots_b22 (w4 : Nat → Int32 → Int32 → Hp → Option (Int32 × Hp)) (a0 : Nat) (i1 : Int32) (i2 : Int32) (h : Hp) : Option (Int32 × Hp) := w4 a0 i1 (i2 + 1) h
set_option maxHeartbeats 4000000 in
set_option maxRecDepth 100000 in
theorem mX6_fullSlots_b22 {g : XG} {p : Program} {l : Launch} {e : Env} {s : State} {m : MethodId} {args : Array Value} {below : List Frame} {meth : Method} {c : Code} (C : x_C g p s m args c cX6_fullSlots RX6 3 wsX6_fullSlots) (hr : meth.sig.returnType = (some .int)) (hlk : meth.locks = false) (hnm : meth.name = yX6_fullSlots.name) {res : Int32 × Hp} (w4 : Nat → Int32 → Int32 → Hp → Option (Int32 × Hp)) (hw4 : ∀ (a0 : Nat) (i1 : Int32) (i2 : Int32) (h : Hp), w4 a0 i1 i2 h = some res → XW g p l e { frames := 0, cells := 0, slots := 0, locals := 0 } s m args below meth c (MQ below (x_Q g (some (vI res.1)) res.2) args s 0 0 (x_A g)) 3 0 0 h 4 [some (vR a0), some (vI i1), some (vI i2)] []) (a0 : Nat) (i1 : Int32) (i2 : Int32) (h : Hp) (hf : fX6_fullSlots_b22 w4 a0 i1 i2 h = some res) : XW g p l e { frames := 0, cells := 0, slots := 0, locals := 0 } s m args below meth c (MQ below (x_Q g (some (vI res.1)) res.2) args s 0 0 (x_A g)) 3 0 0 h 22 [some (vR a0), some (vI i1), some (vI i2)] [] := by
  unfold fX6_fullSlots_b22 at hf
  refine x_iinc C dX6_fullSlots_22 (pc' := 25) rfl rfl (v := (i2 + 1)) rfl (by decide) rfl (lv' := [some (vR a0), some (vI i1), some (vI (i2 + 1))]) rfl ?_
  refine x_goto C dX6_fullSlots_25 (tgt := 4) (by decide) ?_
  exact hw4 a0 i1 (i2 + 1) h hf
def fX6_fullSlots_w4 : Nat → Nat → Int32 → Int32 → Hp → Option (Int32 × Hp)
  | 0 => fun _ _ _ _ => none
  | n + 1 => fun a0 i1 i2 h => if (6 : Int32) ≤ i2 then (some (i1, h)) else ((gR h a0 6 0).bind fun v1 => (aR h v1 i2).bind fun v2 => if v2 = 0 then (fX6_fullSlots_b22 (fX6_fullSlots_w4 n) a0 i1 i2 h) else (fX6_fullSlots_b22 (fX6_fullSlots_w4 n) a0 (i1 + 1) i2 h))
set_option maxHeartbeats 4000000 in
set_option maxRecDepth 100000 in
theorem mX6_fullSlots_w4 {g : XG} {p : Program} {l : Launch} {e : Env} {s : State} {m : MethodId} {args : Array Value} {below : List Frame} {meth : Method} {c : Code} (C : x_C g p s m args c cX6_fullSlots RX6 3 wsX6_fullSlots) (hr : meth.sig.returnType = (some .int)) (hlk : meth.locks = false) (hnm : meth.name = yX6_fullSlots.name) {res : Int32 × Hp} : ∀ (n : Nat) (a0 : Nat) (i1 : Int32) (i2 : Int32) (h : Hp), fX6_fullSlots_w4 n a0 i1 i2 h = some res → XW g p l e { frames := 0, cells := 0, slots := 0, locals := 0 } s m args below meth c (MQ below (x_Q g (some (vI res.1)) res.2) args s 0 0 (x_A g)) 3 0 0 h 4 [some (vR a0), some (vI i1), some (vI i2)] [] := by
  intro n
  induction n with
  | zero =>
    intro a0 i1 i2 h hf
    have hf2 : (none : Option (Int32 × Hp)) = some res := hf
    cases hf2
  | succ n ih =>
    intro a0 i1 i2 h hf
    rw [fX6_fullSlots_w4] at hf
    refine x_iload_n C dX6_fullSlots_4 (pc' := 5) rfl rfl rfl ?_
    refine x_bipush C (v := 6) (by decide) dX6_fullSlots_5 (pc' := 7) rfl ?_
    refine x_icmp_ge C hf dX6_fullSlots_7 (pc' := 10) rfl (tgt := 28) (by decide) (fun _ hf => ?_) (fun _ hf => ?_)
    ·
      refine x_iload_n C dX6_fullSlots_28 (pc' := 29) rfl rfl rfl ?_
      cases hf
      exact x_iret C hr hlk dX6_fullSlots_29
    ·
      refine x_aload_n C dX6_fullSlots_10 (pc' := 11) rfl rfl rfl ?_
      refine x_getR C (ci := 6) (kf := 0) rfl (by decide) hinX6_fullSlots_X6 lkX6_fullSlots_0 rfl hf dX6_fullSlots_11 (pc' := 14) rfl (fun v1 _ hf => ?_)
      refine x_iload_n C dX6_fullSlots_14 (pc' := 15) rfl rfl rfl ?_
      refine x_aaload C hf dX6_fullSlots_15 (pc' := 16) rfl (fun v2 _ hf => ?_)
      refine x_ifnull C hf dX6_fullSlots_16 (pc' := 19) rfl (tgt := 22) (by decide) (fun _ hf => ?_) (fun _ hf => ?_)
      ·
        refine x_more (k' := 0) (n' := 0) (Nat.le_of_ble_eq_true rfl) (Nat.le_of_ble_eq_true rfl) ?_
        exact mX6_fullSlots_b22 C hr hlk hnm (fX6_fullSlots_w4 n) ih a0 i1 i2 h hf
      ·
        refine x_iinc C dX6_fullSlots_19 (pc' := 22) rfl rfl (v := (i1 + 1)) rfl (by decide) rfl (lv' := [some (vR a0), some (vI (i1 + 1)), some (vI i2)]) rfl ?_
        refine x_more (k' := 0) (n' := 0) (Nat.le_of_ble_eq_true rfl) (Nat.le_of_ble_eq_true rfl) ?_
        exact mX6_fullSlots_b22 C hr hlk hnm (fX6_fullSlots_w4 n) ih a0 (i1 + 1) i2 h hf
def fX6_fullSlots (h : Hp) (a0 : Nat) : Option (Int32 × Hp) := fX6_fullSlots_w4 FUEL a0 (0 : Int32) (0 : Int32) h
set_option maxHeartbeats 4000000 in
set_option maxRecDepth 100000 in
theorem mX6_fullSlots {l : Launch} {g : XG} {h : Hp} {a0 : Nat} {res : Int32 × Hp} (hf : fX6_fullSlots h a0 = some res) : XM l g yX6_fullSlots wsX6_fullSlots 0 0 0 0 [vR a0] h (some (vI res.1)) res.2 := by
  refine x_start (cc := cX6_fullSlots) (maxL := 3) (ret := (some .int)) (by decide) rfl (Nat.le_of_ble_eq_true rfl) (lv := [some (vR a0), none, none]) rfl ?_
  intro p e s m args below meth c C hr hlk hnm
  unfold fX6_fullSlots at hf
  refine x_iconst C (v := 0) (by decide) dX6_fullSlots_0 (pc' := 1) rfl ?_
  refine x_istore_n C dX6_fullSlots_1 (pc' := 2) rfl rfl (by decide) rfl (lv' := [some (vR a0), some (vI (0 : Int32)), none]) rfl ?_
  refine x_iconst C (v := 0) (by decide) dX6_fullSlots_2 (pc' := 3) rfl ?_
  refine x_istore_n C dX6_fullSlots_3 (pc' := 4) rfl rfl (by decide) rfl (lv' := [some (vR a0), some (vI (0 : Int32)), some (vI (0 : Int32))]) rfl ?_
  refine x_more (k' := 0) (n' := 0) (Nat.le_of_ble_eq_true rfl) (Nat.le_of_ble_eq_true rfl) ?_
  exact mX6_fullSlots_w4 C hr hlk hnm FUEL a0 (0 : Int32) (0 : Int32) h hf
-- ===== X6_ruleIn
theorem lkX6_ruleIn_0 : Cond.fieldLink RX6 11 "MossRings" "slots" "[LMossRings$Rule;" ∈ wsX6_ruleIn := by decide +kernel
theorem hinX6_ruleIn_X6 : ∀ w ∈ u_ws RX6 TX6 14, w ∈ wsX6_ruleIn := by decide +kernel
def fX6_ruleIn (h : Hp) (a0 : Nat) (i1 : Int32) : Option (Nat × Hp) := call (fX6_isSlot h i1) fun r1 h2 => if r1 = 0 then (some (0, h2)) else ((gR h2 a0 6 0).bind fun v3 => (aR h2 v3 i1).bind fun v4 => some (v4, h2))
set_option maxHeartbeats 4000000 in
set_option maxRecDepth 100000 in
theorem mX6_ruleIn {l : Launch} {g : XG} {h : Hp} {a0 : Nat} {i1 : Int32} {res : Nat × Hp} (hf : fX6_ruleIn h a0 i1 = some res) : XM l g yX6_ruleIn wsX6_ruleIn 1 20 0 0 [vR a0, vI i1] h (some (vR res.1)) res.2 := by
  refine x_start (cc := cX6_ruleIn) (maxL := 2) (ret := (some (.object "MossRings$Rule"))) (by decide) rfl (Nat.le_of_ble_eq_true rfl) (lv := [some (vR a0), some (vI i1)]) rfl ?_
  intro p e s m args below meth c C hr hlk hnm
  unfold fX6_ruleIn at hf
  refine x_iload_n C dX6_ruleIn_0 (pc' := 1) rfl rfl rfl ?_
  obtain ⟨r1, h2, hq, hf⟩ := call_some hf
  refine x_callS C (As := [vI i1]) (st := []) (r := (some (vI r1))) (h' := h2) (mc := 0) (ms := 0) (k := 0) (n := 0) (mX6_isSlot hq) (va_cwS 1 C.1.2.2.2.2 gX6_ruleIn_X6_isSlot rfl rfl rfl (by decide +kernel) ⟨Nat.le_of_ble_eq_true rfl, Nat.le_of_ble_eq_true rfl⟩) rfl rfl (Nat.le_of_ble_eq_true rfl) dX6_ruleIn_1 (pc' := 4) rfl ?_
  refine x_if_eq C hf dX6_ruleIn_4 (pc' := 7) rfl (tgt := 16) (by decide) (fun _ hf => ?_) (fun _ hf => ?_)
  ·
    refine x_null C dX6_ruleIn_16 (pc' := 17) rfl ?_
    cases hf
    exact x_aret C hr (Or.inl ⟨_, rfl⟩) hlk dX6_ruleIn_17
  ·
    refine x_aload_n C dX6_ruleIn_7 (pc' := 8) rfl rfl rfl ?_
    refine x_getR C (ci := 6) (kf := 0) rfl (by decide) hinX6_ruleIn_X6 lkX6_ruleIn_0 rfl hf dX6_ruleIn_8 (pc' := 11) rfl (fun v3 _ hf => ?_)
    refine x_iload_n C dX6_ruleIn_11 (pc' := 12) rfl rfl rfl ?_
    refine x_aaload C hf dX6_ruleIn_12 (pc' := 13) rfl (fun v4 _ hf => ?_)
    refine x_goto C dX6_ruleIn_13 (tgt := 17) (by decide) ?_
    cases hf
    exact x_aret C hr (Or.inl ⟨_, rfl⟩) hlk dX6_ruleIn_17
-- ===== X6_turnsBack
theorem lkX6_turnsBack_0 : Cond.fieldLink RX6 28 "MossRings" "told" "[I" ∈ wsX6_turnsBack := by decide +kernel
theorem hinX6_turnsBack_X6 : ∀ w ∈ u_ws RX6 TX6 14, w ∈ wsX6_turnsBack := by decide +kernel
theorem lkX6_turnsBack_1 : Cond.fieldLink RX6 22 "MossRings" "here" "[I" ∈ wsX6_turnsBack := by decide +kernel
theorem lkX6_turnsBack_2 : Cond.fieldLink RX6 25 "MossRings" "there" "[I" ∈ wsX6_turnsBack := by decide +kernel
theorem hinX6_turnsBack_X1 : ∀ w ∈ u_ws RX1 TX1 5, w ∈ wsX6_turnsBack := by decide +kernel
def fX6_turnsBack_b132 (w54 : Nat → Nat → Int32 → Int32 → Int32 → Int32 → Int32 → Hp → Option (Int32 × Hp)) (a0 : Nat) (a1 : Nat) (i2 : Int32) (i3 : Int32) (i4 : Int32) (i5 : Int32) (i6 : Int32) (i7 : Int32) (h : Hp) : Option (Int32 × Hp) := (gR h a0 6 8).bind fun v1 => (aI h v1 0 i7).bind fun v2 => (gR h a0 6 6).bind fun v3 => (aI h v3 0 i3).bind fun v4 => if v2 = v4 then (w54 a0 a1 i2 i3 i4 i5 (i6 + 1) h) else (retZ (0 : Int32) h)
set_option maxHeartbeats 4000000 in
set_option maxRecDepth 100000 in
theorem mX6_turnsBack_b132 {g : XG} {p : Program} {l : Launch} {e : Env} {s : State} {m : MethodId} {args : Array Value} {below : List Frame} {meth : Method} {c : Code} (C : x_C g p s m args c cX6_turnsBack RX6 8 wsX6_turnsBack) (hr : meth.sig.returnType = (some .boolean)) (hlk : meth.locks = false) (hnm : meth.name = yX6_turnsBack.name) {res : Int32 × Hp} (w54 : Nat → Nat → Int32 → Int32 → Int32 → Int32 → Int32 → Hp → Option (Int32 × Hp)) (hw54 : ∀ (a0 : Nat) (a1 : Nat) (i2 : Int32) (i3 : Int32) (i4 : Int32) (i5 : Int32) (i6 : Int32) (h : Hp), w54 a0 a1 i2 i3 i4 i5 i6 h = some res → XW g p l e { frames := 2, cells := 0, slots := 0, locals := 51 } s m args below meth c (MQ below (x_Q g (some (vI res.1)) res.2) args s 0 0 (x_A g)) 8 0 0 h 54 [some (vR a0), some (vR a1), some (vI i2), some (vI i3), some (vI i4), some (vI i5), some (vI i6), none] []) (a0 : Nat) (a1 : Nat) (i2 : Int32) (i3 : Int32) (i4 : Int32) (i5 : Int32) (i6 : Int32) (i7 : Int32) (h : Hp) (hf : fX6_turnsBack_b132 w54 a0 a1 i2 i3 i4 i5 i6 i7 h = some res) : XW g p l e { frames := 2, cells := 0, slots := 0, locals := 51 } s m args below meth c (MQ below (x_Q g (some (vI res.1)) res.2) args s 0 0 (x_A g)) 8 0 0 h 132 [some (vR a0), some (vR a1), some (vI i2), some (vI i3), some (vI i4), some (vI i5), some (vI i6), some (vI i7)] [] := by
  unfold fX6_turnsBack_b132 at hf
  refine x_aload_n C dX6_turnsBack_132 (pc' := 133) rfl rfl rfl ?_
  refine x_getR C (ci := 6) (kf := 8) rfl (by decide) hinX6_turnsBack_X6 lkX6_turnsBack_0 rfl hf dX6_turnsBack_133 (pc' := 136) rfl (fun v1 _ hf => ?_)
  refine x_iload C dX6_turnsBack_136 (pc' := 138) rfl rfl ?_
  refine x_iaload C hf dX6_turnsBack_138 (pc' := 139) rfl (fun v2 _ hf => ?_)
  refine x_aload_n C dX6_turnsBack_139 (pc' := 140) rfl rfl rfl ?_
  refine x_getR C (ci := 6) (kf := 6) rfl (by decide) hinX6_turnsBack_X6 lkX6_turnsBack_1 rfl hf dX6_turnsBack_140 (pc' := 143) rfl (fun v3 _ hf => ?_)
  refine x_iload_n C dX6_turnsBack_143 (pc' := 144) rfl rfl rfl ?_
  refine x_iaload C hf dX6_turnsBack_144 (pc' := 145) rfl (fun v4 _ hf => ?_)
  refine x_icmp_eq C hf dX6_turnsBack_145 (pc' := 148) rfl (tgt := 150) (by decide) (fun _ hf => ?_) (fun _ hf => ?_)
  ·
    refine x_iinc C dX6_turnsBack_150 (pc' := 153) rfl rfl (v := (i6 + 1)) rfl (by decide) rfl (lv' := [some (vR a0), some (vR a1), some (vI i2), some (vI i3), some (vI i4), some (vI i5), some (vI (i6 + 1)), some (vI i7)]) rfl ?_
    refine x_goto C dX6_turnsBack_153 (tgt := 54) (by decide) ?_
    refine x_keep [true, true, true, true, true, true, true, false] rfl ?_
    exact hw54 a0 a1 i2 i3 i4 i5 (i6 + 1) h hf
  ·
    refine x_iconst C (v := 0) (by decide) dX6_turnsBack_148 (pc' := 149) rfl ?_
    exact x_zret C hf hr hlk dX6_turnsBack_149
def fX6_turnsBack_w54 : Nat → Nat → Nat → Int32 → Int32 → Int32 → Int32 → Int32 → Hp → Option (Int32 × Hp)
  | 0 => fun _ _ _ _ _ _ _ _ => none
  | n + 1 => fun a0 a1 i2 i3 i4 i5 i6 h => if i5 ≤ i6 then (retZ (1 : Int32) h) else ((gR h a0 6 6).bind fun v1 => (oK h a1 1 (fX1_spread h a1 i6 i4 v1)).bind fun h3 => (gR h3 a0 6 6).bind fun v4 => (gR h3 a0 6 7).bind fun v5 => call (oK h3 a1 1 (fX1_grow h3 a1 v4 i4 i2 v5)) fun r6 h7 => setv ((r6).toInt32) fun v8 => if v8 < 0 then (retZ (0 : Int32) h7) else ((gR h7 a0 6 8).bind fun v9 => (aN h7 v9).bind fun v10 => if v8 < v10 then ((gR h7 a0 6 8).bind fun v11 => (aI h7 v11 0 v8).bind fun v12 => if v12 = (-1 : Int32) then ((gR h7 a0 6 8).bind fun v13 => (gR h7 a0 6 6).bind fun v14 => (aI h7 v14 0 i3).bind fun v15 => (sI h7 v13 0 v8 v15).bind fun h16 => fX6_turnsBack_b132 (fX6_turnsBack_w54 n) a0 a1 i2 i3 i4 i5 i6 v8 h16) else (fX6_turnsBack_b132 (fX6_turnsBack_w54 n) a0 a1 i2 i3 i4 i5 i6 v8 h7)) else (retZ (0 : Int32) h7)))
set_option maxHeartbeats 4000000 in
set_option maxRecDepth 100000 in
theorem mX6_turnsBack_w54 {g : XG} {p : Program} {l : Launch} {e : Env} {s : State} {m : MethodId} {args : Array Value} {below : List Frame} {meth : Method} {c : Code} (C : x_C g p s m args c cX6_turnsBack RX6 8 wsX6_turnsBack) (hr : meth.sig.returnType = (some .boolean)) (hlk : meth.locks = false) (hnm : meth.name = yX6_turnsBack.name) {res : Int32 × Hp} : ∀ (n : Nat) (a0 : Nat) (a1 : Nat) (i2 : Int32) (i3 : Int32) (i4 : Int32) (i5 : Int32) (i6 : Int32) (h : Hp), fX6_turnsBack_w54 n a0 a1 i2 i3 i4 i5 i6 h = some res → XW g p l e { frames := 2, cells := 0, slots := 0, locals := 51 } s m args below meth c (MQ below (x_Q g (some (vI res.1)) res.2) args s 0 0 (x_A g)) 8 0 0 h 54 [some (vR a0), some (vR a1), some (vI i2), some (vI i3), some (vI i4), some (vI i5), some (vI i6), none] [] := by
  intro n
  induction n with
  | zero =>
    intro a0 a1 i2 i3 i4 i5 i6 h hf
    have hf2 : (none : Option (Int32 × Hp)) = some res := hf
    cases hf2
  | succ n ih =>
    intro a0 a1 i2 i3 i4 i5 i6 h hf
    rw [fX6_turnsBack_w54] at hf
    refine x_iload C dX6_turnsBack_54 (pc' := 56) rfl rfl ?_
    refine x_iload C dX6_turnsBack_56 (pc' := 58) rfl rfl ?_
    refine x_icmp_ge C hf dX6_turnsBack_58 (pc' := 61) rfl (tgt := 156) (by decide) (fun _ hf => ?_) (fun _ hf => ?_)
    ·
      refine x_iconst C (v := 1) (by decide) dX6_turnsBack_156 (pc' := 157) rfl ?_
      exact x_zret C hf hr hlk dX6_turnsBack_157
    ·
      refine x_aload_n C dX6_turnsBack_61 (pc' := 62) rfl rfl rfl ?_
      refine x_iload C dX6_turnsBack_62 (pc' := 64) rfl rfl ?_
      refine x_iload C dX6_turnsBack_64 (pc' := 66) rfl rfl ?_
      refine x_aload_n C dX6_turnsBack_66 (pc' := 67) rfl rfl rfl ?_
      refine x_getR C (ci := 6) (kf := 6) rfl (by decide) hinX6_turnsBack_X6 lkX6_turnsBack_1 rfl hf dX6_turnsBack_67 (pc' := 70) rfl (fun v1 _ hf => ?_)
      obtain ⟨h3, hq, hf⟩ := bind_some hf
      obtain ⟨hob, hq⟩ := oK_some hq
      refine x_callV C (As := [vI i6, vI i4, vR v1]) (st := []) (r := none) (h' := h3) (mc := 0) (ms := 0) (k := 0) (n := 0) (mX1_spread hq) hob (ci := 1) rfl (cwV 3 C.1.2.2.2.2 gX6_turnsBack_X1_spread rfl rfl rfl (by decide +kernel) ⟨Nat.le_of_ble_eq_true rfl, Nat.le_of_ble_eq_true rfl⟩) rfl rfl (Nat.le_of_ble_eq_true rfl) dX6_turnsBack_70 (pc' := 73) rfl ?_
      refine x_aload_n C dX6_turnsBack_73 (pc' := 74) rfl rfl rfl ?_
      refine x_aload_n C dX6_turnsBack_74 (pc' := 75) rfl rfl rfl ?_
      refine x_getR C (ci := 6) (kf := 6) rfl (by decide) hinX6_turnsBack_X6 lkX6_turnsBack_1 rfl hf dX6_turnsBack_75 (pc' := 78) rfl (fun v4 _ hf => ?_)
      refine x_iload C dX6_turnsBack_78 (pc' := 80) rfl rfl ?_
      refine x_iload_n C dX6_turnsBack_80 (pc' := 81) rfl rfl rfl ?_
      refine x_aload_n C dX6_turnsBack_81 (pc' := 82) rfl rfl rfl ?_
      refine x_getR C (ci := 6) (kf := 7) rfl (by decide) hinX6_turnsBack_X6 lkX6_turnsBack_2 rfl hf dX6_turnsBack_82 (pc' := 85) rfl (fun v5 _ hf => ?_)
      obtain ⟨r6, h7, hq, hf⟩ := call_some hf
      obtain ⟨hob, hq⟩ := oK_some hq
      refine x_callV C (As := [vR v4, vI i4, vI i2, vR v5]) (st := []) (r := (some (vL r6))) (h' := h7) (mc := 0) (ms := 0) (k := 0) (n := 0) (mX1_grow hq) hob (ci := 1) rfl (cwV 4 C.1.2.2.2.2 gX6_turnsBack_X1_grow rfl rfl rfl (by decide +kernel) ⟨Nat.le_of_ble_eq_true rfl, Nat.le_of_ble_eq_true rfl⟩) rfl rfl (Nat.le_of_ble_eq_true rfl) dX6_turnsBack_85 (pc' := 88) rfl ?_
      refine x_l2i C dX6_turnsBack_88 (pc' := 89) rfl ?_
      refine x_nameI hf (fun v8 _ hf => ?_)
      refine x_istore C dX6_turnsBack_89 (pc' := 91) rfl (by decide) rfl (lv' := [some (vR a0), some (vR a1), some (vI i2), some (vI i3), some (vI i4), some (vI i5), some (vI i6), some (vI v8)]) rfl ?_
      refine x_iload C dX6_turnsBack_91 (pc' := 93) rfl rfl ?_
      refine x_if_lt C hf dX6_turnsBack_93 (pc' := 96) rfl (tgt := 106) (by decide) (fun _ hf => ?_) (fun _ hf => ?_)
      ·
        refine x_iconst C (v := 0) (by decide) dX6_turnsBack_106 (pc' := 107) rfl ?_
        exact x_zret C hf hr hlk dX6_turnsBack_107
      ·
        refine x_iload C dX6_turnsBack_96 (pc' := 98) rfl rfl ?_
        refine x_aload_n C dX6_turnsBack_98 (pc' := 99) rfl rfl rfl ?_
        refine x_getR C (ci := 6) (kf := 8) rfl (by decide) hinX6_turnsBack_X6 lkX6_turnsBack_0 rfl hf dX6_turnsBack_99 (pc' := 102) rfl (fun v9 _ hf => ?_)
        refine x_alen C hf dX6_turnsBack_102 (pc' := 103) rfl (fun v10 _ hf => ?_)
        refine x_icmp_lt C hf dX6_turnsBack_103 (pc' := 106) rfl (tgt := 108) (by decide) (fun _ hf => ?_) (fun _ hf => ?_)
        ·
          refine x_aload_n C dX6_turnsBack_108 (pc' := 109) rfl rfl rfl ?_
          refine x_getR C (ci := 6) (kf := 8) rfl (by decide) hinX6_turnsBack_X6 lkX6_turnsBack_0 rfl hf dX6_turnsBack_109 (pc' := 112) rfl (fun v11 _ hf => ?_)
          refine x_iload C dX6_turnsBack_112 (pc' := 114) rfl rfl ?_
          refine x_iaload C hf dX6_turnsBack_114 (pc' := 115) rfl (fun v12 _ hf => ?_)
          refine x_iconst C (v := -1) (by decide) dX6_turnsBack_115 (pc' := 116) rfl ?_
          refine x_icmp_ne C hf dX6_turnsBack_116 (pc' := 119) rfl (tgt := 132) (by decide) (fun _ hf => ?_) (fun _ hf => ?_)
          ·
            refine x_aload_n C dX6_turnsBack_119 (pc' := 120) rfl rfl rfl ?_
            refine x_getR C (ci := 6) (kf := 8) rfl (by decide) hinX6_turnsBack_X6 lkX6_turnsBack_0 rfl hf dX6_turnsBack_120 (pc' := 123) rfl (fun v13 _ hf => ?_)
            refine x_iload C dX6_turnsBack_123 (pc' := 125) rfl rfl ?_
            refine x_aload_n C dX6_turnsBack_125 (pc' := 126) rfl rfl rfl ?_
            refine x_getR C (ci := 6) (kf := 6) rfl (by decide) hinX6_turnsBack_X6 lkX6_turnsBack_1 rfl hf dX6_turnsBack_126 (pc' := 129) rfl (fun v14 _ hf => ?_)
            refine x_iload_n C dX6_turnsBack_129 (pc' := 130) rfl rfl rfl ?_
            refine x_iaload C hf dX6_turnsBack_130 (pc' := 131) rfl (fun v15 _ hf => ?_)
            refine x_iastore C hf dX6_turnsBack_131 (pc' := 132) rfl (fun h16 _ hf => ?_)
            refine x_more (k' := 0) (n' := 0) (Nat.le_of_ble_eq_true rfl) (Nat.le_of_ble_eq_true rfl) ?_
            exact mX6_turnsBack_b132 C hr hlk hnm (fX6_turnsBack_w54 n) ih a0 a1 i2 i3 i4 i5 i6 v8 h16 hf
          ·
            refine x_more (k' := 0) (n' := 0) (Nat.le_of_ble_eq_true rfl) (Nat.le_of_ble_eq_true rfl) ?_
            exact mX6_turnsBack_b132 C hr hlk hnm (fX6_turnsBack_w54 n) ih a0 a1 i2 i3 i4 i5 i6 v8 h7 hf
        ·
          refine x_iconst C (v := 0) (by decide) dX6_turnsBack_106 (pc' := 107) rfl ?_
          exact x_zret C hf hr hlk dX6_turnsBack_107
def fX6_turnsBack (h : Hp) (a0 : Nat) (a1 : Nat) (i2 : Int32) (i3 : Int32) : Option (Int32 × Hp) := (gI h a1 1 1).bind fun v1 => setv (((v1 + i2) - (1 : Int32))) fun v2 => (gI h a1 1 0).bind fun v3 => call (fX6_power h v3 v2) fun r4 h5 => if i3 < 0 then (retZ (0 : Int32) h5) else (if v2 ≤ i3 then (retZ (0 : Int32) h5) else ((gR h5 a0 6 6).bind fun v6 => (aN h5 v6).bind fun v7 => if v2 ≤ v7 then ((gR h5 a0 6 8).bind fun v8 => (fJ7_fill_53178 h5 v8 (-1 : Int32)).bind fun h10 => fX6_turnsBack_w54 FUEL a0 a1 i2 i3 v2 r4 (0 : Int32) h10) else (retZ (0 : Int32) h5)))
set_option maxHeartbeats 4000000 in
set_option maxRecDepth 100000 in
theorem mX6_turnsBack {l : Launch} {g : XG} {h : Hp} {a0 : Nat} {a1 : Nat} {i2 : Int32} {i3 : Int32} {res : Int32 × Hp} (hf : fX6_turnsBack h a0 a1 i2 i3 = some res) : XM l g yX6_turnsBack wsX6_turnsBack 2 51 0 0 [vR a0, vR a1, vI i2, vI i3] h (some (vI res.1)) res.2 := by
  refine x_start (cc := cX6_turnsBack) (maxL := 8) (ret := (some .boolean)) (by decide) rfl (Nat.le_of_ble_eq_true rfl) (lv := [some (vR a0), some (vR a1), some (vI i2), some (vI i3), none, none, none, none]) rfl ?_
  intro p e s m args below meth c C hr hlk hnm
  unfold fX6_turnsBack at hf
  refine x_aload_n C dX6_turnsBack_0 (pc' := 1) rfl rfl rfl ?_
  refine x_getIN C (ci := 1) (kf := 1) rfl (by decide) hinX6_turnsBack_X1 (List.mem_of_getElem? (i := 7) rfl) rfl hf dX6_turnsBack_1 (pc' := 4) rfl (fun v1 _ hf => ?_)
  refine x_iload_n C dX6_turnsBack_4 (pc' := 5) rfl rfl rfl ?_
  refine x_iadd C dX6_turnsBack_5 (pc' := 6) rfl ?_
  refine x_iconst C (v := 1) (by decide) dX6_turnsBack_6 (pc' := 7) rfl ?_
  refine x_isub C dX6_turnsBack_7 (pc' := 8) rfl ?_
  refine x_nameI hf (fun v2 _ hf => ?_)
  refine x_istore C dX6_turnsBack_8 (pc' := 10) rfl (by decide) rfl (lv' := [some (vR a0), some (vR a1), some (vI i2), some (vI i3), some (vI v2), none, none, none]) rfl ?_
  refine x_aload_n C dX6_turnsBack_10 (pc' := 11) rfl rfl rfl ?_
  refine x_getIN C (ci := 1) (kf := 0) rfl (by decide) hinX6_turnsBack_X1 (List.mem_of_getElem? (i := 5) rfl) rfl hf dX6_turnsBack_11 (pc' := 14) rfl (fun v3 _ hf => ?_)
  refine x_iload C dX6_turnsBack_14 (pc' := 16) rfl rfl ?_
  obtain ⟨r4, h5, hq, hf⟩ := call_some hf
  refine x_callS C (As := [vI v3, vI v2]) (st := []) (r := (some (vI r4))) (h' := h5) (mc := 0) (ms := 0) (k := 0) (n := 0) (mX6_power hq) (va_cwS 2 C.1.2.2.2.2 gX6_turnsBack_X6_power rfl rfl rfl (by decide +kernel) ⟨Nat.le_of_ble_eq_true rfl, Nat.le_of_ble_eq_true rfl⟩) rfl rfl (Nat.le_of_ble_eq_true rfl) dX6_turnsBack_16 (pc' := 19) rfl ?_
  refine x_istore C dX6_turnsBack_19 (pc' := 21) rfl (by decide) rfl (lv' := [some (vR a0), some (vR a1), some (vI i2), some (vI i3), some (vI v2), some (vI r4), none, none]) rfl ?_
  refine x_iload_n C dX6_turnsBack_21 (pc' := 22) rfl rfl rfl ?_
  refine x_if_lt C hf dX6_turnsBack_22 (pc' := 25) rfl (tgt := 41) (by decide) (fun _ hf => ?_) (fun _ hf => ?_)
  ·
    refine x_iconst C (v := 0) (by decide) dX6_turnsBack_41 (pc' := 42) rfl ?_
    exact x_zret C hf hr hlk dX6_turnsBack_42
  ·
    refine x_iload_n C dX6_turnsBack_25 (pc' := 26) rfl rfl rfl ?_
    refine x_iload C dX6_turnsBack_26 (pc' := 28) rfl rfl ?_
    refine x_icmp_ge C hf dX6_turnsBack_28 (pc' := 31) rfl (tgt := 41) (by decide) (fun _ hf => ?_) (fun _ hf => ?_)
    ·
      refine x_iconst C (v := 0) (by decide) dX6_turnsBack_41 (pc' := 42) rfl ?_
      exact x_zret C hf hr hlk dX6_turnsBack_42
    ·
      refine x_iload C dX6_turnsBack_31 (pc' := 33) rfl rfl ?_
      refine x_aload_n C dX6_turnsBack_33 (pc' := 34) rfl rfl rfl ?_
      refine x_getR C (ci := 6) (kf := 6) rfl (by decide) hinX6_turnsBack_X6 lkX6_turnsBack_1 rfl hf dX6_turnsBack_34 (pc' := 37) rfl (fun v6 _ hf => ?_)
      refine x_alen C hf dX6_turnsBack_37 (pc' := 38) rfl (fun v7 _ hf => ?_)
      refine x_icmp_le C hf dX6_turnsBack_38 (pc' := 41) rfl (tgt := 43) (by decide) (fun _ hf => ?_) (fun _ hf => ?_)
      ·
        refine x_aload_n C dX6_turnsBack_43 (pc' := 44) rfl rfl rfl ?_
        refine x_getR C (ci := 6) (kf := 8) rfl (by decide) hinX6_turnsBack_X6 lkX6_turnsBack_0 rfl hf dX6_turnsBack_44 (pc' := 47) rfl (fun v8 _ hf => ?_)
        refine x_iconst C (v := -1) (by decide) dX6_turnsBack_47 (pc' := 48) rfl ?_
        obtain ⟨h10, hq, hf⟩ := bind_some hf
        refine x_callS C (As := [vR v8, vI (-1 : Int32)]) (st := []) (r := none) (h' := h10) (mc := 0) (ms := 0) (k := 0) (n := 0) (mJ7_fill_53178 hq) (va_cwS 2 C.1.2.2.2.2 gX6_turnsBack_J7_fill_53178 rfl rfl rfl (by decide +kernel) ⟨Nat.le_of_ble_eq_true rfl, Nat.le_of_ble_eq_true rfl⟩) rfl rfl (Nat.le_of_ble_eq_true rfl) dX6_turnsBack_48 (pc' := 51) rfl ?_
        refine x_iconst C (v := 0) (by decide) dX6_turnsBack_51 (pc' := 52) rfl ?_
        refine x_istore C dX6_turnsBack_52 (pc' := 54) rfl (by decide) rfl (lv' := [some (vR a0), some (vR a1), some (vI i2), some (vI i3), some (vI v2), some (vI r4), some (vI (0 : Int32)), none]) rfl ?_
        refine x_more (k' := 0) (n' := 0) (Nat.le_of_ble_eq_true rfl) (Nat.le_of_ble_eq_true rfl) ?_
        exact mX6_turnsBack_w54 C hr hlk hnm FUEL a0 a1 i2 i3 v2 r4 (0 : Int32) h10 hf
      ·
        refine x_iconst C (v := 0) (by decide) dX6_turnsBack_41 (pc' := 42) rfl ?_
        exact x_zret C hf hr hlk dX6_turnsBack_42
-- ===== X6_feed
theorem lkX6_feed_0 : Cond.fieldLink RX6 52 "MossRings" "tapeLength" "I" ∈ wsX6_feed := by decide +kernel
theorem hinX6_feed_X6 : ∀ w ∈ u_ws RX6 TX6 14, w ∈ wsX6_feed := by decide +kernel
def fX6_feed (h : Hp) (a0 : Nat) (i1 : Int32) (i2 : Int32) (i3 : Int32) (i4 : Int32) (i5 : Int32) : Option (Int32 × Hp) := (gI h a0 6 2).bind fun v1 => if v1 ≤ (80 : Int32) then ((oK h a0 6 (fX6_putBytes h a0 i1)).bind fun h3 => (oK h3 a0 6 (fX6_putBytes h3 a0 i2)).bind fun h5 => (oK h5 a0 6 (fX6_putBytes h5 a0 i3)).bind fun h7 => (oK h7 a0 6 (fX6_putBytes h7 a0 i4)).bind fun h9 => (oK h9 a0 6 (fX6_putBytes h9 a0 i5)).bind fun h11 => (gI h11 a0 6 2).bind fun v12 => some (v12, h11)) else (some ((-1 : Int32), h))
set_option maxHeartbeats 4000000 in
set_option maxRecDepth 100000 in
theorem mX6_feed {l : Launch} {g : XG} {h : Hp} {a0 : Nat} {i1 : Int32} {i2 : Int32} {i3 : Int32} {i4 : Int32} {i5 : Int32} {res : Int32 × Hp} (hf : fX6_feed h a0 i1 i2 i3 i4 i5 = some res) : XM l g yX6_feed wsX6_feed 1 22 0 0 [vR a0, vI i1, vI i2, vI i3, vI i4, vI i5] h (some (vI res.1)) res.2 := by
  refine x_start (cc := cX6_feed) (maxL := 6) (ret := (some .int)) (by decide) rfl (Nat.le_of_ble_eq_true rfl) (lv := [some (vR a0), some (vI i1), some (vI i2), some (vI i3), some (vI i4), some (vI i5)]) rfl ?_
  intro p e s m args below meth c C hr hlk hnm
  unfold fX6_feed at hf
  refine x_aload_n C dX6_feed_0 (pc' := 1) rfl rfl rfl ?_
  refine x_getI C (ci := 6) (kf := 2) rfl (by decide) hinX6_feed_X6 lkX6_feed_0 rfl hf dX6_feed_1 (pc' := 4) rfl (fun v1 _ hf => ?_)
  refine x_bipush C (v := 80) (by decide) dX6_feed_4 (pc' := 6) rfl ?_
  refine x_icmp_le C hf dX6_feed_6 (pc' := 9) rfl (tgt := 11) (by decide) (fun _ hf => ?_) (fun _ hf => ?_)
  ·
    refine x_aload_n C dX6_feed_11 (pc' := 12) rfl rfl rfl ?_
    refine x_iload_n C dX6_feed_12 (pc' := 13) rfl rfl rfl ?_
    obtain ⟨h3, hq, hf⟩ := bind_some hf
    obtain ⟨hob, hq⟩ := oK_some hq
    refine x_callV C (As := [vI i1]) (st := []) (r := none) (h' := h3) (mc := 0) (ms := 0) (k := 0) (n := 0) (mX6_putBytes hq) hob (ci := 6) rfl (cwV 1 C.1.2.2.2.2 gX6_feed_X6_putBytes rfl rfl rfl (by decide +kernel) ⟨Nat.le_of_ble_eq_true rfl, Nat.le_of_ble_eq_true rfl⟩) rfl rfl (Nat.le_of_ble_eq_true rfl) dX6_feed_13 (pc' := 16) rfl ?_
    refine x_aload_n C dX6_feed_16 (pc' := 17) rfl rfl rfl ?_
    refine x_iload_n C dX6_feed_17 (pc' := 18) rfl rfl rfl ?_
    obtain ⟨h5, hq, hf⟩ := bind_some hf
    obtain ⟨hob, hq⟩ := oK_some hq
    refine x_callV C (As := [vI i2]) (st := []) (r := none) (h' := h5) (mc := 0) (ms := 0) (k := 0) (n := 0) (mX6_putBytes hq) hob (ci := 6) rfl (cwV 1 C.1.2.2.2.2 gX6_feed_X6_putBytes rfl rfl rfl (by decide +kernel) ⟨Nat.le_of_ble_eq_true rfl, Nat.le_of_ble_eq_true rfl⟩) rfl rfl (Nat.le_of_ble_eq_true rfl) dX6_feed_18 (pc' := 21) rfl ?_
    refine x_aload_n C dX6_feed_21 (pc' := 22) rfl rfl rfl ?_
    refine x_iload_n C dX6_feed_22 (pc' := 23) rfl rfl rfl ?_
    obtain ⟨h7, hq, hf⟩ := bind_some hf
    obtain ⟨hob, hq⟩ := oK_some hq
    refine x_callV C (As := [vI i3]) (st := []) (r := none) (h' := h7) (mc := 0) (ms := 0) (k := 0) (n := 0) (mX6_putBytes hq) hob (ci := 6) rfl (cwV 1 C.1.2.2.2.2 gX6_feed_X6_putBytes rfl rfl rfl (by decide +kernel) ⟨Nat.le_of_ble_eq_true rfl, Nat.le_of_ble_eq_true rfl⟩) rfl rfl (Nat.le_of_ble_eq_true rfl) dX6_feed_23 (pc' := 26) rfl ?_
    refine x_aload_n C dX6_feed_26 (pc' := 27) rfl rfl rfl ?_
    refine x_iload C dX6_feed_27 (pc' := 29) rfl rfl ?_
    obtain ⟨h9, hq, hf⟩ := bind_some hf
    obtain ⟨hob, hq⟩ := oK_some hq
    refine x_callV C (As := [vI i4]) (st := []) (r := none) (h' := h9) (mc := 0) (ms := 0) (k := 0) (n := 0) (mX6_putBytes hq) hob (ci := 6) rfl (cwV 1 C.1.2.2.2.2 gX6_feed_X6_putBytes rfl rfl rfl (by decide +kernel) ⟨Nat.le_of_ble_eq_true rfl, Nat.le_of_ble_eq_true rfl⟩) rfl rfl (Nat.le_of_ble_eq_true rfl) dX6_feed_29 (pc' := 32) rfl ?_
    refine x_aload_n C dX6_feed_32 (pc' := 33) rfl rfl rfl ?_
    refine x_iload C dX6_feed_33 (pc' := 35) rfl rfl ?_
    obtain ⟨h11, hq, hf⟩ := bind_some hf
    obtain ⟨hob, hq⟩ := oK_some hq
    refine x_callV C (As := [vI i5]) (st := []) (r := none) (h' := h11) (mc := 0) (ms := 0) (k := 0) (n := 0) (mX6_putBytes hq) hob (ci := 6) rfl (cwV 1 C.1.2.2.2.2 gX6_feed_X6_putBytes rfl rfl rfl (by decide +kernel) ⟨Nat.le_of_ble_eq_true rfl, Nat.le_of_ble_eq_true rfl⟩) rfl rfl (Nat.le_of_ble_eq_true rfl) dX6_feed_35 (pc' := 38) rfl ?_
    refine x_aload_n C dX6_feed_38 (pc' := 39) rfl rfl rfl ?_
    refine x_getI C (ci := 6) (kf := 2) rfl (by decide) hinX6_feed_X6 lkX6_feed_0 rfl hf dX6_feed_39 (pc' := 42) rfl (fun v12 _ hf => ?_)
    cases hf
    exact x_iret C hr hlk dX6_feed_42
  ·
    refine x_iconst C (v := -1) (by decide) dX6_feed_9 (pc' := 10) rfl ?_
    cases hf
    exact x_iret C hr hlk dX6_feed_10
-- ===== X6_end
theorem lkX6_end_0 : Cond.fieldLink RX6 52 "MossRings" "tapeLength" "I" ∈ wsX6_end := by decide +kernel
theorem hinX6_end_X6 : ∀ w ∈ u_ws RX6 TX6 14, w ∈ wsX6_end := by decide +kernel
def fX6_end (h : Hp) (a0 : Nat) (i1 : Int32) : Option (Int32 × Hp) := if i1 < 0 then (retZ (0 : Int32) h) else ((gI h a0 6 2).bind fun v1 => if i1 ≤ v1 then ((pF h a0 6 2 (vI i1)).bind fun h2 => retZ (1 : Int32) h2) else (retZ (0 : Int32) h))
set_option maxHeartbeats 4000000 in
set_option maxRecDepth 100000 in
theorem mX6_end {l : Launch} {g : XG} {h : Hp} {a0 : Nat} {i1 : Int32} {res : Int32 × Hp} (hf : fX6_end h a0 i1 = some res) : XM l g yX6_end wsX6_end 0 0 0 0 [vR a0, vI i1] h (some (vI res.1)) res.2 := by
  refine x_start (cc := cX6_end) (maxL := 2) (ret := (some .boolean)) (by decide) rfl (Nat.le_of_ble_eq_true rfl) (lv := [some (vR a0), some (vI i1)]) rfl ?_
  intro p e s m args below meth c C hr hlk hnm
  unfold fX6_end at hf
  refine x_iload_n C dX6_end_0 (pc' := 1) rfl rfl rfl ?_
  refine x_if_lt C hf dX6_end_1 (pc' := 4) rfl (tgt := 12) (by decide) (fun _ hf => ?_) (fun _ hf => ?_)
  ·
    refine x_iconst C (v := 0) (by decide) dX6_end_12 (pc' := 13) rfl ?_
    exact x_zret C hf hr hlk dX6_end_13
  ·
    refine x_iload_n C dX6_end_4 (pc' := 5) rfl rfl rfl ?_
    refine x_aload_n C dX6_end_5 (pc' := 6) rfl rfl rfl ?_
    refine x_getI C (ci := 6) (kf := 2) rfl (by decide) hinX6_end_X6 lkX6_end_0 rfl hf dX6_end_6 (pc' := 9) rfl (fun v1 _ hf => ?_)
    refine x_icmp_le C hf dX6_end_9 (pc' := 12) rfl (tgt := 14) (by decide) (fun _ hf => ?_) (fun _ hf => ?_)
    ·
      refine x_aload_n C dX6_end_14 (pc' := 15) rfl rfl rfl ?_
      refine x_iload_n C dX6_end_15 (pc' := 16) rfl rfl rfl ?_
      refine x_put C (ci := 6) (kf := 2) rfl (by decide) hinX6_end_X6 tyX6 tyX6_ok nmX6 lkX6_end_0 rfl (Or.inl rfl) rfl hf dX6_end_16 (pc' := 19) rfl (fun h2 _ hf => ?_)
      refine x_iconst C (v := 1) (by decide) dX6_end_19 (pc' := 20) rfl ?_
      exact x_zret C hf hr hlk dX6_end_20
    ·
      refine x_iconst C (v := 0) (by decide) dX6_end_12 (pc' := 13) rfl ?_
      exact x_zret C hf hr hlk dX6_end_13
-- ===== X6_rule
theorem lkX6_rule_0 : Cond.fieldLink RX6 11 "MossRings" "slots" "[LMossRings$Rule;" ∈ wsX6_rule := by decide +kernel
theorem hinX6_rule_X6 : ∀ w ∈ u_ws RX6 TX6 14, w ∈ wsX6_rule := by decide +kernel
theorem lkX6_rule_1 : Cond.classLink RX6 9 RX1 ∈ wsX6_rule := by decide +kernel
theorem lkX6_rule_2 : Cond.instantiable RX1 5 ∈ wsX6_rule := by decide +kernel
theorem lkX6_rule_3 : Cond.initialized RX1 ∈ wsX6_rule := by decide +kernel
theorem hinX6_rule_X1 : ∀ w ∈ u_ws RX1 TX1 5, w ∈ wsX6_rule := by decide +kernel
theorem lkX6_rule_4 : Cond.fieldLink RX6 15 "MossRings" "tape" "[I" ∈ wsX6_rule := by decide +kernel
theorem lkX6_rule_5 : Cond.methodLink RX6 80 yX1_init ∈ wsX6_rule := by decide +kernel
theorem lkX6_rule_6 : Cond.instanceMethod yX1_init ∈ wsX6_rule := by decide +kernel
def fX6_rule (h : Hp) (a0 : Nat) (i1 : Int32) (i2 : Int32) (i3 : Int32) : Option (Int32 × Hp) := call (oK h a0 6 (fX6_takeTape h a0)) fun r1 h2 => call (fX6_isSlot h2 i1) fun r3 h4 => if r3 = 0 then (retZ (0 : Int32) h4) else (if i3 < (1 : Int32) then (retZ (0 : Int32) h4) else (call (fX6_mostWidth h4 i2) fun r5 h6 => if i3 ≤ r5 then (call (fX6_power h6 i2 i3) fun r7 h8 => if r1 = r7 then (call (oK h8 a0 6 (fX6_areStates h8 a0 i2 r1)) fun r9 h10 => if r9 = 0 then (retZ (0 : Int32) h10) else ((gR h10 a0 6 0).bind fun v11 => mkO h10 1 [vI 0, vI 0, vI 0, vI 0, vR 0] fun q12 h13 => (gR h13 a0 6 1).bind fun v14 => (fX1_init h13 q12 i2 i3 v14).bind fun h16 => (sR h16 v11 i1 q12).bind fun h17 => retZ (1 : Int32) h17)) else (retZ (0 : Int32) h8)) else (retZ (0 : Int32) h6)))
set_option maxHeartbeats 4000000 in
set_option maxRecDepth 100000 in
theorem mX6_rule {l : Launch} {g : XG} {h : Hp} {a0 : Nat} {i1 : Int32} {i2 : Int32} {i3 : Int32} {res : Int32 × Hp} (hf : fX6_rule h a0 i1 i2 i3 = some res) : XM l g yX6_rule wsX6_rule 3 63 2 32 [vR a0, vI i1, vI i2, vI i3] h (some (vI res.1)) res.2 := by
  refine x_start (cc := cX6_rule) (maxL := 5) (ret := (some .boolean)) (by decide) rfl (Nat.le_of_ble_eq_true rfl) (lv := [some (vR a0), some (vI i1), some (vI i2), some (vI i3), none]) rfl ?_
  intro p e s m args below meth c C hr hlk hnm
  unfold fX6_rule at hf
  refine x_aload_n C dX6_rule_0 (pc' := 1) rfl rfl rfl ?_
  obtain ⟨r1, h2, hq, hf⟩ := call_some hf
  obtain ⟨hob, hq⟩ := oK_some hq
  refine x_callV C (As := []) (st := []) (r := (some (vI r1))) (h' := h2) (mc := 0) (ms := 0) (k := 2) (n := 32) (mX6_takeTape hq) hob (ci := 6) rfl (cwV 0 C.1.2.2.2.2 gX6_rule_X6_takeTape rfl rfl rfl (by decide +kernel) ⟨Nat.le_of_ble_eq_true rfl, Nat.le_of_ble_eq_true rfl⟩) rfl rfl (Nat.le_of_ble_eq_true rfl) dX6_rule_1 (pc' := 4) rfl ?_
  refine x_istore C dX6_rule_4 (pc' := 6) rfl (by decide) rfl (lv' := [some (vR a0), some (vI i1), some (vI i2), some (vI i3), some (vI r1)]) rfl ?_
  refine x_iload_n C dX6_rule_6 (pc' := 7) rfl rfl rfl ?_
  obtain ⟨r3, h4, hq, hf⟩ := call_some hf
  refine x_callS C (As := [vI i1]) (st := []) (r := (some (vI r3))) (h' := h4) (mc := 0) (ms := 0) (k := 2) (n := 32) (mX6_isSlot hq) (va_cwS 1 C.1.2.2.2.2 gX6_rule_X6_isSlot rfl rfl rfl (by decide +kernel) ⟨Nat.le_of_ble_eq_true rfl, Nat.le_of_ble_eq_true rfl⟩) rfl rfl (Nat.le_of_ble_eq_true rfl) dX6_rule_7 (pc' := 10) rfl ?_
  refine x_if_eq C hf dX6_rule_10 (pc' := 13) rfl (tgt := 26) (by decide) (fun _ hf => ?_) (fun _ hf => ?_)
  ·
    refine x_iconst C (v := 0) (by decide) dX6_rule_26 (pc' := 27) rfl ?_
    exact x_zret C hf hr hlk dX6_rule_27
  ·
    refine x_iload_n C dX6_rule_13 (pc' := 14) rfl rfl rfl ?_
    refine x_iconst C (v := 1) (by decide) dX6_rule_14 (pc' := 15) rfl ?_
    refine x_icmp_lt C hf dX6_rule_15 (pc' := 18) rfl (tgt := 26) (by decide) (fun _ hf => ?_) (fun _ hf => ?_)
    ·
      refine x_iconst C (v := 0) (by decide) dX6_rule_26 (pc' := 27) rfl ?_
      exact x_zret C hf hr hlk dX6_rule_27
    ·
      refine x_iload_n C dX6_rule_18 (pc' := 19) rfl rfl rfl ?_
      refine x_iload_n C dX6_rule_19 (pc' := 20) rfl rfl rfl ?_
      obtain ⟨r5, h6, hq, hf⟩ := call_some hf
      refine x_callS C (As := [vI i2]) (st := [vI i3]) (r := (some (vI r5))) (h' := h6) (mc := 0) (ms := 0) (k := 2) (n := 32) (mX6_mostWidth hq) (va_cwS 1 C.1.2.2.2.2 gX6_rule_X6_mostWidth rfl rfl rfl (by decide +kernel) ⟨Nat.le_of_ble_eq_true rfl, Nat.le_of_ble_eq_true rfl⟩) rfl rfl (Nat.le_of_ble_eq_true rfl) dX6_rule_20 (pc' := 23) rfl ?_
      refine x_icmp_le C hf dX6_rule_23 (pc' := 26) rfl (tgt := 28) (by decide) (fun _ hf => ?_) (fun _ hf => ?_)
      ·
        refine x_iload C dX6_rule_28 (pc' := 30) rfl rfl ?_
        refine x_iload_n C dX6_rule_30 (pc' := 31) rfl rfl rfl ?_
        refine x_iload_n C dX6_rule_31 (pc' := 32) rfl rfl rfl ?_
        obtain ⟨r7, h8, hq, hf⟩ := call_some hf
        refine x_callS C (As := [vI i2, vI i3]) (st := [vI r1]) (r := (some (vI r7))) (h' := h8) (mc := 0) (ms := 0) (k := 2) (n := 32) (mX6_power hq) (va_cwS 2 C.1.2.2.2.2 gX6_rule_X6_power rfl rfl rfl (by decide +kernel) ⟨Nat.le_of_ble_eq_true rfl, Nat.le_of_ble_eq_true rfl⟩) rfl rfl (Nat.le_of_ble_eq_true rfl) dX6_rule_32 (pc' := 35) rfl ?_
        refine x_icmp_ne C hf dX6_rule_35 (pc' := 38) rfl (tgt := 48) (by decide) (fun _ hf => ?_) (fun _ hf => ?_)
        ·
          refine x_aload_n C dX6_rule_38 (pc' := 39) rfl rfl rfl ?_
          refine x_iload_n C dX6_rule_39 (pc' := 40) rfl rfl rfl ?_
          refine x_iload C dX6_rule_40 (pc' := 42) rfl rfl ?_
          obtain ⟨r9, h10, hq, hf⟩ := call_some hf
          obtain ⟨hob, hq⟩ := oK_some hq
          refine x_callV C (As := [vI i2, vI r1]) (st := []) (r := (some (vI r9))) (h' := h10) (mc := 0) (ms := 0) (k := 2) (n := 32) (mX6_areStates hq) hob (ci := 6) rfl (cwV 2 C.1.2.2.2.2 gX6_rule_X6_areStates rfl rfl rfl (by decide +kernel) ⟨Nat.le_of_ble_eq_true rfl, Nat.le_of_ble_eq_true rfl⟩) rfl rfl (Nat.le_of_ble_eq_true rfl) dX6_rule_42 (pc' := 45) rfl ?_
          refine x_if_ne C hf dX6_rule_45 (pc' := 48) rfl (tgt := 50) (by decide) (fun _ hf => ?_) (fun _ hf => ?_)
          ·
            refine x_iconst C (v := 0) (by decide) dX6_rule_48 (pc' := 49) rfl ?_
            exact x_zret C hf hr hlk dX6_rule_49
          ·
            refine x_aload_n C dX6_rule_50 (pc' := 51) rfl rfl rfl ?_
            refine x_getR C (ci := 6) (kf := 0) rfl (by decide) hinX6_rule_X6 lkX6_rule_0 rfl hf dX6_rule_51 (pc' := 54) rfl (fun v11 _ hf => ?_)
            refine x_iload_n C dX6_rule_54 (pc' := 55) rfl rfl rfl ?_
            refine x_newO C (k := 1) (n := 27) (ci := 1) (fs := [vI 0, vI 0, vI 0, vI 0, vR 0]) rfl hinX6_rule_X1 tyX1 tyX1_ok lkX6_rule_1 lkX6_rule_2 lkX6_rule_3 (dfX1 g) hf dX6_rule_55 (pc' := 58) rfl (fun q12 h13 h4q12 _ _ hf => ?_)
            refine x_dup C rfl dX6_rule_58 (pc' := 59) rfl ?_
            refine x_iload_n C dX6_rule_59 (pc' := 60) rfl rfl rfl ?_
            refine x_iload_n C dX6_rule_60 (pc' := 61) rfl rfl rfl ?_
            refine x_aload_n C dX6_rule_61 (pc' := 62) rfl rfl rfl ?_
            refine x_getR C (ci := 6) (kf := 1) rfl (by decide) hinX6_rule_X6 lkX6_rule_4 rfl hf dX6_rule_62 (pc' := 65) rfl (fun v14 _ hf => ?_)
            obtain ⟨h16, hq, hf⟩ := bind_some hf
            refine x_callI C (As := [vI i2, vI i3, vR v14]) (st := [vR q12, vI i1, vR v11]) (r := none) (h' := h16) (mc := 1) (ms := 27) (k := 0) (n := 0) (mX1_init hq) h4q12 (cwI 3 C.1.2.2.2.2 gX6_rule_X1_init rfl rfl rfl (C.1.2.2.2.2 _ lkX6_rule_3) (C.1.2.2.2.2 _ lkX6_rule_5) (C.1.2.2.2.2 _ lkX6_rule_6) rfl (by decide +kernel) ⟨Nat.le_of_ble_eq_true rfl, Nat.le_of_ble_eq_true rfl⟩) rfl rfl (Nat.le_of_ble_eq_true rfl) dX6_rule_65 (pc' := 68) rfl ?_
            refine x_aastore C hf dX6_rule_68 (pc' := 69) rfl (fun h17 _ hf => ?_)
            refine x_iconst C (v := 1) (by decide) dX6_rule_69 (pc' := 70) rfl ?_
            exact x_zret C hf hr hlk dX6_rule_70
        ·
          refine x_iconst C (v := 0) (by decide) dX6_rule_48 (pc' := 49) rfl ?_
          exact x_zret C hf hr hlk dX6_rule_49
      ·
        refine x_iconst C (v := 0) (by decide) dX6_rule_26 (pc' := 27) rfl ?_
        exact x_zret C hf hr hlk dX6_rule_27
-- ===== X6_about
theorem hinX6_about_X1 : ∀ w ∈ u_ws RX1 TX1 5, w ∈ wsX6_about := by decide +kernel
theorem lkX6_about_0 : Cond.fieldLink RX6 41 "MossRings" "sets" "LMossRings$Sets;" ∈ wsX6_about := by decide +kernel
theorem hinX6_about_X6 : ∀ w ∈ u_ws RX6 TX6 14, w ∈ wsX6_about := by decide +kernel
theorem lkX6_about_1 : Cond.fieldLink RX6 48 "MossRings" "pairs" "LMossRings$Pairs;" ∈ wsX6_about := by decide +kernel
def fX6_about (h : Hp) (a0 : Nat) (i1 : Int32) (i2 : Int32) : Option (Int32 × Hp) := call (oK h a0 6 (fX6_ruleIn h a0 i1)) fun r1 h2 => if r1 = 0 then (some ((-1 : Int32), h2)) else (if i2 = 0 then ((gI h2 r1 1 0).bind fun v4 => some (v4, h2)) else (if i2 = 1 then ((gI h2 r1 1 1).bind fun v6 => some (v6, h2)) else (if i2 = 2 then ((gR h2 a0 6 10).bind fun v8 => call (oK h2 v8 2 (fX2_missesSome h2 v8 r1)) fun r9 h10 => if r9 = 0 then (some ((1 : Int32), h10)) else (some ((0 : Int32), h10))) else (if i2 = 3 then ((gR h2 a0 6 11).bind fun v12 => call (oK h2 v12 0 (fX0_losesNothing h2 v12 r1)) fun r13 h14 => if r13 = 0 then (some ((0 : Int32), h14)) else (some ((1 : Int32), h14))) else (some ((-1 : Int32), h2))))))
set_option maxHeartbeats 4000000 in
set_option maxRecDepth 100000 in
theorem mX6_about {l : Launch} {g : XG} {h : Hp} {a0 : Nat} {i1 : Int32} {i2 : Int32} {res : Int32 × Hp} (hf : fX6_about h a0 i1 i2 = some res) : XM l g yX6_about wsX6_about 4 98 0 0 [vR a0, vI i1, vI i2] h (some (vI res.1)) res.2 := by
  refine x_start (cc := cX6_about) (maxL := 4) (ret := (some .int)) (by decide) rfl (Nat.le_of_ble_eq_true rfl) (lv := [some (vR a0), some (vI i1), some (vI i2), none]) rfl ?_
  intro p e s m args below meth c C hr hlk hnm
  unfold fX6_about at hf
  refine x_aload_n C dX6_about_0 (pc' := 1) rfl rfl rfl ?_
  refine x_iload_n C dX6_about_1 (pc' := 2) rfl rfl rfl ?_
  obtain ⟨r1, h2, hq, hf⟩ := call_some hf
  obtain ⟨hob, hq⟩ := oK_some hq
  refine x_callV C (As := [vI i1]) (st := []) (r := (some (vR r1))) (h' := h2) (mc := 0) (ms := 0) (k := 0) (n := 0) (mX6_ruleIn hq) hob (ci := 6) rfl (cwV 1 C.1.2.2.2.2 gX6_about_X6_ruleIn rfl rfl rfl (by decide +kernel) ⟨Nat.le_of_ble_eq_true rfl, Nat.le_of_ble_eq_true rfl⟩) rfl rfl (Nat.le_of_ble_eq_true rfl) dX6_about_2 (pc' := 5) rfl ?_
  refine x_astore_n C dX6_about_5 (pc' := 6) rfl rfl (by decide) rfl (lv' := [some (vR a0), some (vI i1), some (vI i2), some (vR r1)]) rfl ?_
  refine x_aload_n C dX6_about_6 (pc' := 7) rfl rfl rfl ?_
  refine x_ifnonnull C hf dX6_about_7 (pc' := 10) rfl (tgt := 12) (by decide) (fun _ hf => ?_) (fun _ hf => ?_)
  ·
    refine x_iconst C (v := -1) (by decide) dX6_about_10 (pc' := 11) rfl ?_
    cases hf
    exact x_iret C hr hlk dX6_about_11
  ·
    refine x_iload_n C dX6_about_12 (pc' := 13) rfl rfl rfl ?_
    by_cases hc3 : i2 = 0
    ·
      rw [if_pos hc3] at hf
      refine x_tswIn C (i := 0) hc3 (by decide) (by decide) dX6_about_13 (off := 31) rfl (tgt := 44) (by decide) ?_
      refine x_aload_n C dX6_about_44 (pc' := 45) rfl rfl rfl ?_
      refine x_getIN C (ci := 1) (kf := 0) rfl (by decide) hinX6_about_X1 (List.mem_of_getElem? (i := 5) rfl) rfl hf dX6_about_45 (pc' := 48) rfl (fun v4 _ hf => ?_)
      cases hf
      exact x_iret C hr hlk dX6_about_48
    ·
      rw [if_neg hc3] at hf
      by_cases hc5 : i2 = 1
      ·
        rw [if_pos hc5] at hf
        refine x_tswIn C (i := 1) hc5 (by decide) (by decide) dX6_about_13 (off := 36) rfl (tgt := 49) (by decide) ?_
        refine x_aload_n C dX6_about_49 (pc' := 50) rfl rfl rfl ?_
        refine x_getIN C (ci := 1) (kf := 1) rfl (by decide) hinX6_about_X1 (List.mem_of_getElem? (i := 7) rfl) rfl hf dX6_about_50 (pc' := 53) rfl (fun v6 _ hf => ?_)
        cases hf
        exact x_iret C hr hlk dX6_about_53
      ·
        rw [if_neg hc5] at hf
        by_cases hc7 : i2 = 2
        ·
          rw [if_pos hc7] at hf
          refine x_tswIn C (i := 2) hc7 (by decide) (by decide) dX6_about_13 (off := 41) rfl (tgt := 54) (by decide) ?_
          refine x_aload_n C dX6_about_54 (pc' := 55) rfl rfl rfl ?_
          refine x_getR C (ci := 6) (kf := 10) rfl (by decide) hinX6_about_X6 lkX6_about_0 rfl hf dX6_about_55 (pc' := 58) rfl (fun v8 _ hf => ?_)
          refine x_aload_n C dX6_about_58 (pc' := 59) rfl rfl rfl ?_
          obtain ⟨r9, h10, hq, hf⟩ := call_some hf
          obtain ⟨hob, hq⟩ := oK_some hq
          refine x_callV C (As := [vR r1]) (st := []) (r := (some (vI r9))) (h' := h10) (mc := 0) (ms := 0) (k := 0) (n := 0) (mX2_missesSome hq) hob (ci := 2) rfl (cwV 1 C.1.2.2.2.2 gX6_about_X2_missesSome rfl rfl rfl (by decide +kernel) ⟨Nat.le_of_ble_eq_true rfl, Nat.le_of_ble_eq_true rfl⟩) rfl rfl (Nat.le_of_ble_eq_true rfl) dX6_about_59 (pc' := 62) rfl ?_
          refine x_if_eq C hf dX6_about_62 (pc' := 65) rfl (tgt := 69) (by decide) (fun _ hf => ?_) (fun _ hf => ?_)
          ·
            refine x_iconst C (v := 1) (by decide) dX6_about_69 (pc' := 70) rfl ?_
            cases hf
            exact x_iret C hr hlk dX6_about_70
          ·
            refine x_iconst C (v := 0) (by decide) dX6_about_65 (pc' := 66) rfl ?_
            refine x_goto C dX6_about_66 (tgt := 70) (by decide) ?_
            cases hf
            exact x_iret C hr hlk dX6_about_70
        ·
          rw [if_neg hc7] at hf
          by_cases hc11 : i2 = 3
          ·
            rw [if_pos hc11] at hf
            refine x_tswIn C (i := 3) hc11 (by decide) (by decide) dX6_about_13 (off := 58) rfl (tgt := 71) (by decide) ?_
            refine x_aload_n C dX6_about_71 (pc' := 72) rfl rfl rfl ?_
            refine x_getR C (ci := 6) (kf := 11) rfl (by decide) hinX6_about_X6 lkX6_about_1 rfl hf dX6_about_72 (pc' := 75) rfl (fun v12 _ hf => ?_)
            refine x_aload_n C dX6_about_75 (pc' := 76) rfl rfl rfl ?_
            obtain ⟨r13, h14, hq, hf⟩ := call_some hf
            obtain ⟨hob, hq⟩ := oK_some hq
            refine x_callV C (As := [vR r1]) (st := []) (r := (some (vI r13))) (h' := h14) (mc := 0) (ms := 0) (k := 0) (n := 0) (mX0_losesNothing hq) hob (ci := 0) rfl (cwV 1 C.1.2.2.2.2 gX6_about_X0_losesNothing rfl rfl rfl (by decide +kernel) ⟨Nat.le_of_ble_eq_true rfl, Nat.le_of_ble_eq_true rfl⟩) rfl rfl (Nat.le_of_ble_eq_true rfl) dX6_about_76 (pc' := 79) rfl ?_
            refine x_if_eq C hf dX6_about_79 (pc' := 82) rfl (tgt := 86) (by decide) (fun _ hf => ?_) (fun _ hf => ?_)
            ·
              refine x_iconst C (v := 0) (by decide) dX6_about_86 (pc' := 87) rfl ?_
              cases hf
              exact x_iret C hr hlk dX6_about_87
            ·
              refine x_iconst C (v := 1) (by decide) dX6_about_82 (pc' := 83) rfl ?_
              refine x_goto C dX6_about_83 (tgt := 87) (by decide) ?_
              cases hf
              exact x_iret C hr hlk dX6_about_87
          ·
            rw [if_neg hc11] at hf
            refine x_tswOut C 4 (by decide) (fun i hi => by match i, hi with | 0, _ => exact hc3 | 1, _ => exact hc5 | 2, _ => exact hc7 | 3, _ => exact hc11 | j + 4, hi => omega) dX6_about_13 (tgt := 88) (by decide) ?_
            refine x_iconst C (v := -1) (by decide) dX6_about_88 (pc' := 89) rfl ?_
            cases hf
            exact x_iret C hr hlk dX6_about_89
-- ===== X6_table
theorem hinX6_table_X1 : ∀ w ∈ u_ws RX1 TX1 5, w ∈ wsX6_table := by decide +kernel
theorem lkX6_table_0 : Cond.fieldLink RX6 106 "MossRings" "outLength" "I" ∈ wsX6_table := by decide +kernel
theorem hinX6_table_X6 : ∀ w ∈ u_ws RX6 TX6 14, w ∈ wsX6_table := by decide +kernel
theorem lkX6_table_1 : Cond.fieldLink RX6 19 "MossRings" "out" "[I" ∈ wsX6_table := by decide +kernel
def fX6_table_b48 (a0 : Nat) (a2 : Nat) (h : Hp) : Option (Int32 × Hp) := (gI h a2 1 2).bind fun v1 => (pF h a0 6 4 (vI v1)).bind fun h2 => (gI h2 a0 6 4).bind fun v3 => some (v3, h2)
set_option maxHeartbeats 4000000 in
set_option maxRecDepth 100000 in
theorem mX6_table_b48 {g : XG} {p : Program} {l : Launch} {e : Env} {s : State} {m : MethodId} {args : Array Value} {below : List Frame} {meth : Method} {c : Code} (C : x_C g p s m args c cX6_table RX6 4 wsX6_table) (hr : meth.sig.returnType = (some .int)) (hlk : meth.locks = false) (hnm : meth.name = yX6_table.name) {res : Int32 × Hp} (a0 : Nat) (a2 : Nat) (h : Hp) (hf : fX6_table_b48 a0 a2 h = some res) : XW g p l e { frames := 2, cells := 0, slots := 0, locals := 41 } s m args below meth c (MQ below (x_Q g (some (vI res.1)) res.2) args s 0 0 (x_A g)) 4 0 0 h 48 [some (vR a0), none, some (vR a2), none] [] := by
  unfold fX6_table_b48 at hf
  refine x_aload_n C dX6_table_48 (pc' := 49) rfl rfl rfl ?_
  refine x_aload_n C dX6_table_49 (pc' := 50) rfl rfl rfl ?_
  refine x_getIN C (ci := 1) (kf := 2) rfl (by decide) hinX6_table_X1 (List.mem_of_getElem? (i := 10) rfl) rfl hf dX6_table_50 (pc' := 53) rfl (fun v1 _ hf => ?_)
  refine x_put C (ci := 6) (kf := 4) rfl (by decide) hinX6_table_X6 tyX6 tyX6_ok nmX6 lkX6_table_0 rfl (Or.inl rfl) rfl hf dX6_table_53 (pc' := 56) rfl (fun h2 _ hf => ?_)
  refine x_aload_n C dX6_table_56 (pc' := 57) rfl rfl rfl ?_
  refine x_getI C (ci := 6) (kf := 4) rfl (by decide) hinX6_table_X6 lkX6_table_0 rfl hf dX6_table_57 (pc' := 60) rfl (fun v3 _ hf => ?_)
  cases hf
  exact x_iret C hr hlk dX6_table_60
def fX6_table_w14 : Nat → Nat → Nat → Int32 → Hp → Option (Int32 × Hp)
  | 0 => fun _ _ _ _ => none
  | n + 1 => fun a0 a2 i3 h => (gI h a2 1 2).bind fun v1 => if v1 ≤ i3 then (fX6_table_b48 a0 a2 h) else ((gR h a0 6 3).bind fun v2 => (aN h v2).bind fun v3 => if v3 ≤ i3 then (fX6_table_b48 a0 a2 h) else ((gR h a0 6 3).bind fun v4 => call (oK h a2 1 (fX1_tells h a2 i3)) fun r5 h6 => (sI h6 v4 0 i3 r5).bind fun h7 => (fX6_table_w14 n) a0 a2 (i3 + 1) h7))
set_option maxHeartbeats 4000000 in
set_option maxRecDepth 100000 in
theorem mX6_table_w14 {g : XG} {p : Program} {l : Launch} {e : Env} {s : State} {m : MethodId} {args : Array Value} {below : List Frame} {meth : Method} {c : Code} (C : x_C g p s m args c cX6_table RX6 4 wsX6_table) (hr : meth.sig.returnType = (some .int)) (hlk : meth.locks = false) (hnm : meth.name = yX6_table.name) {res : Int32 × Hp} : ∀ (n : Nat) (a0 : Nat) (a2 : Nat) (i3 : Int32) (h : Hp), fX6_table_w14 n a0 a2 i3 h = some res → XW g p l e { frames := 2, cells := 0, slots := 0, locals := 41 } s m args below meth c (MQ below (x_Q g (some (vI res.1)) res.2) args s 0 0 (x_A g)) 4 0 0 h 14 [some (vR a0), none, some (vR a2), some (vI i3)] [] := by
  intro n
  induction n with
  | zero =>
    intro a0 a2 i3 h hf
    have hf2 : (none : Option (Int32 × Hp)) = some res := hf
    cases hf2
  | succ n ih =>
    intro a0 a2 i3 h hf
    rw [fX6_table_w14] at hf
    refine x_iload_n C dX6_table_14 (pc' := 15) rfl rfl rfl ?_
    refine x_aload_n C dX6_table_15 (pc' := 16) rfl rfl rfl ?_
    refine x_getIN C (ci := 1) (kf := 2) rfl (by decide) hinX6_table_X1 (List.mem_of_getElem? (i := 10) rfl) rfl hf dX6_table_16 (pc' := 19) rfl (fun v1 _ hf => ?_)
    refine x_icmp_ge C hf dX6_table_19 (pc' := 22) rfl (tgt := 48) (by decide) (fun _ hf => ?_) (fun _ hf => ?_)
    ·
      refine x_keep [true, false, true, false] rfl ?_
      refine x_more (k' := 0) (n' := 0) (Nat.le_of_ble_eq_true rfl) (Nat.le_of_ble_eq_true rfl) ?_
      exact mX6_table_b48 C hr hlk hnm a0 a2 h hf
    ·
      refine x_iload_n C dX6_table_22 (pc' := 23) rfl rfl rfl ?_
      refine x_aload_n C dX6_table_23 (pc' := 24) rfl rfl rfl ?_
      refine x_getR C (ci := 6) (kf := 3) rfl (by decide) hinX6_table_X6 lkX6_table_1 rfl hf dX6_table_24 (pc' := 27) rfl (fun v2 _ hf => ?_)
      refine x_alen C hf dX6_table_27 (pc' := 28) rfl (fun v3 _ hf => ?_)
      refine x_icmp_ge C hf dX6_table_28 (pc' := 31) rfl (tgt := 48) (by decide) (fun _ hf => ?_) (fun _ hf => ?_)
      ·
        refine x_keep [true, false, true, false] rfl ?_
        refine x_more (k' := 0) (n' := 0) (Nat.le_of_ble_eq_true rfl) (Nat.le_of_ble_eq_true rfl) ?_
        exact mX6_table_b48 C hr hlk hnm a0 a2 h hf
      ·
        refine x_aload_n C dX6_table_31 (pc' := 32) rfl rfl rfl ?_
        refine x_getR C (ci := 6) (kf := 3) rfl (by decide) hinX6_table_X6 lkX6_table_1 rfl hf dX6_table_32 (pc' := 35) rfl (fun v4 _ hf => ?_)
        refine x_iload_n C dX6_table_35 (pc' := 36) rfl rfl rfl ?_
        refine x_aload_n C dX6_table_36 (pc' := 37) rfl rfl rfl ?_
        refine x_iload_n C dX6_table_37 (pc' := 38) rfl rfl rfl ?_
        obtain ⟨r5, h6, hq, hf⟩ := call_some hf
        obtain ⟨hob, hq⟩ := oK_some hq
        refine x_callV C (As := [vI i3]) (st := [vI i3, vR v4]) (r := (some (vI r5))) (h' := h6) (mc := 0) (ms := 0) (k := 0) (n := 0) (mX1_tells hq) hob (ci := 1) rfl (cwV 1 C.1.2.2.2.2 gX6_table_X1_tells rfl rfl rfl (by decide +kernel) ⟨Nat.le_of_ble_eq_true rfl, Nat.le_of_ble_eq_true rfl⟩) rfl rfl (Nat.le_of_ble_eq_true rfl) dX6_table_38 (pc' := 41) rfl ?_
        refine x_iastore C hf dX6_table_41 (pc' := 42) rfl (fun h7 _ hf => ?_)
        refine x_iinc C dX6_table_42 (pc' := 45) rfl rfl (v := (i3 + 1)) rfl (by decide) rfl (lv' := [some (vR a0), none, some (vR a2), some (vI (i3 + 1))]) rfl ?_
        refine x_goto C dX6_table_45 (tgt := 14) (by decide) ?_
        exact ih a0 a2 (i3 + 1) h7 hf
def fX6_table (h : Hp) (a0 : Nat) (i1 : Int32) : Option (Int32 × Hp) := call (oK h a0 6 (fX6_ruleIn h a0 i1)) fun r1 h2 => if r1 = 0 then (some ((-1 : Int32), h2)) else (fX6_table_w14 FUEL a0 r1 (0 : Int32) h2)
set_option maxHeartbeats 4000000 in
set_option maxRecDepth 100000 in
theorem mX6_table {l : Launch} {g : XG} {h : Hp} {a0 : Nat} {i1 : Int32} {res : Int32 × Hp} (hf : fX6_table h a0 i1 = some res) : XM l g yX6_table wsX6_table 2 41 0 0 [vR a0, vI i1] h (some (vI res.1)) res.2 := by
  refine x_start (cc := cX6_table) (maxL := 4) (ret := (some .int)) (by decide) rfl (Nat.le_of_ble_eq_true rfl) (lv := [some (vR a0), some (vI i1), none, none]) rfl ?_
  intro p e s m args below meth c C hr hlk hnm
  unfold fX6_table at hf
  refine x_aload_n C dX6_table_0 (pc' := 1) rfl rfl rfl ?_
  refine x_iload_n C dX6_table_1 (pc' := 2) rfl rfl rfl ?_
  obtain ⟨r1, h2, hq, hf⟩ := call_some hf
  obtain ⟨hob, hq⟩ := oK_some hq
  refine x_callV C (As := [vI i1]) (st := []) (r := (some (vR r1))) (h' := h2) (mc := 0) (ms := 0) (k := 0) (n := 0) (mX6_ruleIn hq) hob (ci := 6) rfl (cwV 1 C.1.2.2.2.2 gX6_table_X6_ruleIn rfl rfl rfl (by decide +kernel) ⟨Nat.le_of_ble_eq_true rfl, Nat.le_of_ble_eq_true rfl⟩) rfl rfl (Nat.le_of_ble_eq_true rfl) dX6_table_2 (pc' := 5) rfl ?_
  refine x_astore_n C dX6_table_5 (pc' := 6) rfl rfl (by decide) rfl (lv' := [some (vR a0), some (vI i1), some (vR r1), none]) rfl ?_
  refine x_aload_n C dX6_table_6 (pc' := 7) rfl rfl rfl ?_
  refine x_ifnonnull C hf dX6_table_7 (pc' := 10) rfl (tgt := 12) (by decide) (fun _ hf => ?_) (fun _ hf => ?_)
  ·
    refine x_iconst C (v := -1) (by decide) dX6_table_10 (pc' := 11) rfl ?_
    cases hf
    exact x_iret C hr hlk dX6_table_11
  ·
    refine x_iconst C (v := 0) (by decide) dX6_table_12 (pc' := 13) rfl ?_
    refine x_istore_n C dX6_table_13 (pc' := 14) rfl rfl (by decide) rfl (lv' := [some (vR a0), some (vI i1), some (vR r1), some (vI (0 : Int32))]) rfl ?_
    refine x_keep [true, false, true, true] rfl ?_
    refine x_more (k' := 0) (n' := 0) (Nat.le_of_ble_eq_true rfl) (Nat.le_of_ble_eq_true rfl) ?_
    exact mX6_table_w14 C hr hlk hnm FUEL a0 r1 (0 : Int32) h2 hf
-- ===== X6_row
theorem hinX6_row_X1 : ∀ w ∈ u_ws RX1 TX1 5, w ∈ wsX6_row := by decide +kernel
theorem lkX6_row_0 : Cond.fieldLink RX6 106 "MossRings" "outLength" "I" ∈ wsX6_row := by decide +kernel
theorem hinX6_row_X6 : ∀ w ∈ u_ws RX6 TX6 14, w ∈ wsX6_row := by decide +kernel
theorem lkX6_row_1 : Cond.fieldLink RX6 15 "MossRings" "tape" "[I" ∈ wsX6_row := by decide +kernel
theorem lkX6_row_2 : Cond.fieldLink RX6 19 "MossRings" "out" "[I" ∈ wsX6_row := by decide +kernel
def fX6_row (h : Hp) (a0 : Nat) (i1 : Int32) : Option (Int32 × Hp) := call (oK h a0 6 (fX6_takeTape h a0)) fun r1 h2 => call (oK h2 a0 6 (fX6_ruleIn h2 a0 i1)) fun r3 h4 => if r3 = 0 then (some ((-1 : Int32), h4)) else ((gI h4 r3 1 1).bind fun v5 => if r1 < v5 then (some ((-1 : Int32), h4)) else ((gI h4 r3 1 0).bind fun v6 => call (oK h4 a0 6 (fX6_areStates h4 a0 v6 r1)) fun r7 h8 => if r7 = 0 then (some ((-1 : Int32), h8)) else ((gI h8 r3 1 1).bind fun v9 => (pF h8 a0 6 4 (vI ((r1 - v9) + (1 : Int32)))).bind fun h10 => (gR h10 a0 6 1).bind fun v11 => (gI h10 a0 6 4).bind fun v12 => (gR h10 a0 6 3).bind fun v13 => call (oK h10 r3 1 (fX1_grow h10 r3 v11 r1 v12 v13)) fun r14 h15 => (gI h15 a0 6 4).bind fun v16 => some (v16, h15))))
set_option maxHeartbeats 4000000 in
set_option maxRecDepth 100000 in
theorem mX6_row {l : Launch} {g : XG} {h : Hp} {a0 : Nat} {i1 : Int32} {res : Int32 × Hp} (hf : fX6_row h a0 i1 = some res) : XM l g yX6_row wsX6_row 2 51 0 0 [vR a0, vI i1] h (some (vI res.1)) res.2 := by
  refine x_start (cc := cX6_row) (maxL := 4) (ret := (some .int)) (by decide) rfl (Nat.le_of_ble_eq_true rfl) (lv := [some (vR a0), some (vI i1), none, none]) rfl ?_
  intro p e s m args below meth c C hr hlk hnm
  unfold fX6_row at hf
  refine x_aload_n C dX6_row_0 (pc' := 1) rfl rfl rfl ?_
  obtain ⟨r1, h2, hq, hf⟩ := call_some hf
  obtain ⟨hob, hq⟩ := oK_some hq
  refine x_callV C (As := []) (st := []) (r := (some (vI r1))) (h' := h2) (mc := 0) (ms := 0) (k := 0) (n := 0) (mX6_takeTape hq) hob (ci := 6) rfl (cwV 0 C.1.2.2.2.2 gX6_row_X6_takeTape rfl rfl rfl (by decide +kernel) ⟨Nat.le_of_ble_eq_true rfl, Nat.le_of_ble_eq_true rfl⟩) rfl rfl (Nat.le_of_ble_eq_true rfl) dX6_row_1 (pc' := 4) rfl ?_
  refine x_istore_n C dX6_row_4 (pc' := 5) rfl rfl (by decide) rfl (lv' := [some (vR a0), some (vI i1), some (vI r1), none]) rfl ?_
  refine x_aload_n C dX6_row_5 (pc' := 6) rfl rfl rfl ?_
  refine x_iload_n C dX6_row_6 (pc' := 7) rfl rfl rfl ?_
  obtain ⟨r3, h4, hq, hf⟩ := call_some hf
  obtain ⟨hob, hq⟩ := oK_some hq
  refine x_callV C (As := [vI i1]) (st := []) (r := (some (vR r3))) (h' := h4) (mc := 0) (ms := 0) (k := 0) (n := 0) (mX6_ruleIn hq) hob (ci := 6) rfl (cwV 1 C.1.2.2.2.2 gX6_row_X6_ruleIn rfl rfl rfl (by decide +kernel) ⟨Nat.le_of_ble_eq_true rfl, Nat.le_of_ble_eq_true rfl⟩) rfl rfl (Nat.le_of_ble_eq_true rfl) dX6_row_7 (pc' := 10) rfl ?_
  refine x_astore_n C dX6_row_10 (pc' := 11) rfl rfl (by decide) rfl (lv' := [some (vR a0), some (vI i1), some (vI r1), some (vR r3)]) rfl ?_
  refine x_aload_n C dX6_row_11 (pc' := 12) rfl rfl rfl ?_
  refine x_ifnull C hf dX6_row_12 (pc' := 15) rfl (tgt := 35) (by decide) (fun _ hf => ?_) (fun _ hf => ?_)
  ·
    refine x_iconst C (v := -1) (by decide) dX6_row_35 (pc' := 36) rfl ?_
    cases hf
    exact x_iret C hr hlk dX6_row_36
  ·
    refine x_iload_n C dX6_row_15 (pc' := 16) rfl rfl rfl ?_
    refine x_aload_n C dX6_row_16 (pc' := 17) rfl rfl rfl ?_
    refine x_getIN C (ci := 1) (kf := 1) rfl (by decide) hinX6_row_X1 (List.mem_of_getElem? (i := 7) rfl) rfl hf dX6_row_17 (pc' := 20) rfl (fun v5 _ hf => ?_)
    refine x_icmp_lt C hf dX6_row_20 (pc' := 23) rfl (tgt := 35) (by decide) (fun _ hf => ?_) (fun _ hf => ?_)
    ·
      refine x_iconst C (v := -1) (by decide) dX6_row_35 (pc' := 36) rfl ?_
      cases hf
      exact x_iret C hr hlk dX6_row_36
    ·
      refine x_aload_n C dX6_row_23 (pc' := 24) rfl rfl rfl ?_
      refine x_aload_n C dX6_row_24 (pc' := 25) rfl rfl rfl ?_
      refine x_getIN C (ci := 1) (kf := 0) rfl (by decide) hinX6_row_X1 (List.mem_of_getElem? (i := 5) rfl) rfl hf dX6_row_25 (pc' := 28) rfl (fun v6 _ hf => ?_)
      refine x_iload_n C dX6_row_28 (pc' := 29) rfl rfl rfl ?_
      obtain ⟨r7, h8, hq, hf⟩ := call_some hf
      obtain ⟨hob, hq⟩ := oK_some hq
      refine x_callV C (As := [vI v6, vI r1]) (st := []) (r := (some (vI r7))) (h' := h8) (mc := 0) (ms := 0) (k := 0) (n := 0) (mX6_areStates hq) hob (ci := 6) rfl (cwV 2 C.1.2.2.2.2 gX6_row_X6_areStates rfl rfl rfl (by decide +kernel) ⟨Nat.le_of_ble_eq_true rfl, Nat.le_of_ble_eq_true rfl⟩) rfl rfl (Nat.le_of_ble_eq_true rfl) dX6_row_29 (pc' := 32) rfl ?_
      refine x_if_ne C hf dX6_row_32 (pc' := 35) rfl (tgt := 37) (by decide) (fun _ hf => ?_) (fun _ hf => ?_)
      ·
        refine x_iconst C (v := -1) (by decide) dX6_row_35 (pc' := 36) rfl ?_
        cases hf
        exact x_iret C hr hlk dX6_row_36
      ·
        refine x_aload_n C dX6_row_37 (pc' := 38) rfl rfl rfl ?_
        refine x_iload_n C dX6_row_38 (pc' := 39) rfl rfl rfl ?_
        refine x_aload_n C dX6_row_39 (pc' := 40) rfl rfl rfl ?_
        refine x_getIN C (ci := 1) (kf := 1) rfl (by decide) hinX6_row_X1 (List.mem_of_getElem? (i := 7) rfl) rfl hf dX6_row_40 (pc' := 43) rfl (fun v9 _ hf => ?_)
        refine x_isub C dX6_row_43 (pc' := 44) rfl ?_
        refine x_iconst C (v := 1) (by decide) dX6_row_44 (pc' := 45) rfl ?_
        refine x_iadd C dX6_row_45 (pc' := 46) rfl ?_
        refine x_put C (ci := 6) (kf := 4) rfl (by decide) hinX6_row_X6 tyX6 tyX6_ok nmX6 lkX6_row_0 rfl (Or.inl rfl) rfl hf dX6_row_46 (pc' := 49) rfl (fun h10 _ hf => ?_)
        refine x_aload_n C dX6_row_49 (pc' := 50) rfl rfl rfl ?_
        refine x_aload_n C dX6_row_50 (pc' := 51) rfl rfl rfl ?_
        refine x_getR C (ci := 6) (kf := 1) rfl (by decide) hinX6_row_X6 lkX6_row_1 rfl hf dX6_row_51 (pc' := 54) rfl (fun v11 _ hf => ?_)
        refine x_iload_n C dX6_row_54 (pc' := 55) rfl rfl rfl ?_
        refine x_aload_n C dX6_row_55 (pc' := 56) rfl rfl rfl ?_
        refine x_getI C (ci := 6) (kf := 4) rfl (by decide) hinX6_row_X6 lkX6_row_0 rfl hf dX6_row_56 (pc' := 59) rfl (fun v12 _ hf => ?_)
        refine x_aload_n C dX6_row_59 (pc' := 60) rfl rfl rfl ?_
        refine x_getR C (ci := 6) (kf := 3) rfl (by decide) hinX6_row_X6 lkX6_row_2 rfl hf dX6_row_60 (pc' := 63) rfl (fun v13 _ hf => ?_)
        obtain ⟨r14, h15, hq, hf⟩ := call_some hf
        obtain ⟨hob, hq⟩ := oK_some hq
        refine x_callV C (As := [vR v11, vI r1, vI v12, vR v13]) (st := []) (r := (some (vL r14))) (h' := h15) (mc := 0) (ms := 0) (k := 0) (n := 0) (mX1_grow hq) hob (ci := 1) rfl (cwV 4 C.1.2.2.2.2 gX6_row_X1_grow rfl rfl rfl (by decide +kernel) ⟨Nat.le_of_ble_eq_true rfl, Nat.le_of_ble_eq_true rfl⟩) rfl rfl (Nat.le_of_ble_eq_true rfl) dX6_row_63 (pc' := 66) rfl ?_
        refine x_pop2L C dX6_row_66 (pc' := 67) rfl ?_
        refine x_aload_n C dX6_row_67 (pc' := 68) rfl rfl rfl ?_
        refine x_getI C (ci := 6) (kf := 4) rfl (by decide) hinX6_row_X6 lkX6_row_0 rfl hf dX6_row_68 (pc' := 71) rfl (fun v16 _ hf => ?_)
        cases hf
        exact x_iret C hr hlk dX6_row_71

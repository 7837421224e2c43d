-- ===== X7_init
theorem lkX7_init_0 : Cond.methodLink RX7 1 objectInit ∈ wsX7_init := by decide +kernel
theorem lkX7_init_1 : Cond.instanceMethod objectInit ∈ wsX7_init := by decide +kernel
theorem lkX7_init_2 : Cond.code objectInit ⟨#[0xb1]⟩ 1 none ∈ wsX7_init := by decide +kernel
theorem lkX7_init_3 : Cond.arrayClass .byte ∈ wsX7_init := by decide +kernel
theorem lkX7_init_4 : Cond.fieldLink RX7 7 "MossRingsModel" "tape" "[B" ∈ wsX7_init := by decide +kernel
theorem hinX7_init_X7 : ∀ w ∈ u_ws RX7 TX7 27, w ∈ wsX7_init := by decide +kernel
theorem lkX7_init_5 : Cond.arrayClass .int ∈ wsX7_init := by decide +kernel
theorem lkX7_init_6 : Cond.fieldLink RX7 13 "MossRingsModel" "states" "[I" ∈ wsX7_init := by decide +kernel
theorem lkX7_init_7 : Cond.fieldLink RX7 17 "MossRingsModel" "widths" "[I" ∈ wsX7_init := by decide +kernel
theorem lkX7_init_8 : Cond.fieldLink RX7 20 "MossRingsModel" "table" "[I" ∈ wsX7_init := by decide +kernel
theorem lkX7_init_9 : Cond.fieldLink RX7 23 "MossRingsModel" "out" "[B" ∈ wsX7_init := by decide +kernel
theorem lkX7_init_10 : Cond.fieldLink RX7 26 "MossRingsModel" "cells" "[I" ∈ wsX7_init := by decide +kernel
theorem lkX7_init_11 : Cond.fieldLink RX7 29 "MossRingsModel" "next" "[I" ∈ wsX7_init := by decide +kernel
theorem lkX7_init_12 : Cond.arrayClass .long ∈ wsX7_init := by decide +kernel
theorem lkX7_init_13 : Cond.fieldLink RX7 32 "MossRingsModel" "ways" "[J" ∈ wsX7_init := by decide +kernel
theorem lkX7_init_14 : Cond.arrayClass .boolean ∈ wsX7_init := by decide +kernel
theorem lkX7_init_15 : Cond.fieldLink RX7 36 "MossRingsModel" "alive" "[Z" ∈ wsX7_init := by decide +kernel
theorem lkX7_init_16 : Cond.fieldLink RX7 40 "MossRingsModel" "seen" "[Z" ∈ wsX7_init := by decide +kernel
theorem lkX7_init_17 : Cond.fieldLink RX7 43 "MossRingsModel" "line" "[I" ∈ wsX7_init := by decide +kernel
theorem lkX7_init_18 : Cond.fieldLink RX7 46 "MossRingsModel" "from" "[I" ∈ wsX7_init := by decide +kernel
theorem lkX7_init_19 : Cond.fieldLink RX7 49 "MossRingsModel" "by" "[I" ∈ wsX7_init := by decide +kernel
theorem lkX7_init_20 : Cond.fieldLink RX7 52 "MossRingsModel" "met" "[Z" ∈ wsX7_init := by decide +kernel
theorem lkX7_init_21 : Cond.fieldLink RX7 55 "MossRingsModel" "made" "[I" ∈ wsX7_init := by decide +kernel
theorem lkX7_init_22 : Cond.fieldLink RX7 58 "MossRingsModel" "codes" "[J" ∈ wsX7_init := by decide +kernel
theorem lkX7_init_23 : Cond.constant RX7 61 (65536 : Int32) ∈ wsX7_init := by decide +kernel
theorem lkX7_init_24 : Cond.fieldLink RX7 62 "MossRingsModel" "places" "[I" ∈ wsX7_init := by decide +kernel
theorem lkX7_init_25 : Cond.fieldLink RX7 65 "MossRingsModel" "leads" "[I" ∈ wsX7_init := by decide +kernel
theorem lkX7_init_26 : Cond.fieldLink RX7 68 "MossRingsModel" "ahead" "[I" ∈ wsX7_init := by decide +kernel
theorem lkX7_init_27 : Cond.fieldLink RX7 71 "MossRingsModel" "heightOf" "[I" ∈ wsX7_init := by decide +kernel
theorem lkX7_init_28 : Cond.fieldLink RX7 74 "MossRingsModel" "mark" "[I" ∈ wsX7_init := by decide +kernel
theorem lkX7_init_29 : Cond.fieldLink RX7 77 "MossRingsModel" "pot" "[I" ∈ wsX7_init := by decide +kernel
def fX7_init (h : Hp) (a0 : Nat) : Option (Hp) := if a0 = 0 then none else (mkA h 1 100 (100 : Int32) fun q1 h2 => (pF h2 a0 7 1 (vR q1)).bind fun h3 => mkA h3 0 6 (6 : Int32) fun q4 h5 => (pF h5 a0 7 4 (vR q4)).bind fun h6 => mkA h6 0 6 (6 : Int32) fun q7 h8 => (pF h8 a0 7 5 (vR q7)).bind fun h9 => mkA h9 0 189 (189 : Int32) fun q10 h11 => (pF h11 a0 7 6 (vR q10)).bind fun h12 => mkA h12 1 600 (600 : Int32) fun q13 h14 => (pF h14 a0 7 7 (vR q13)).bind fun h15 => mkA h15 0 100 (100 : Int32) fun q16 h17 => (pF h17 a0 7 9 (vR q16)).bind fun h18 => mkA h18 0 100 (100 : Int32) fun q19 h20 => (pF h20 a0 7 10 (vR q19)).bind fun h21 => mkL h21 189 (189 : Int32) fun q22 h23 => (pF h23 a0 7 11 (vR q22)).bind fun h24 => mkA h24 2 81 (81 : Int32) fun q25 h26 => (pF h26 a0 7 12 (vR q25)).bind fun h27 => mkA h27 2 81 (81 : Int32) fun q28 h29 => (pF h29 a0 7 13 (vR q28)).bind fun h30 => mkA h30 0 512 (512 : Int32) fun q31 h32 => (pF h32 a0 7 14 (vR q31)).bind fun h33 => mkA h33 0 512 (512 : Int32) fun q34 h35 => (pF h35 a0 7 15 (vR q34)).bind fun h36 => mkA h36 0 512 (512 : Int32) fun q37 h38 => (pF h38 a0 7 16 (vR q37)).bind fun h39 => mkA h39 2 512 (512 : Int32) fun q40 h41 => (pF h41 a0 7 17 (vR q40)).bind fun h42 => mkA h42 0 27 (27 : Int32) fun q43 h44 => (pF h44 a0 7 18 (vR q43)).bind fun h45 => mkL h45 20002 (20002 : Int32) fun q46 h47 => (pF h47 a0 7 19 (vR q46)).bind fun h48 => mkA h48 0 65536 (65536 : Int32) fun q49 h50 => (pF h50 a0 7 20 (vR q49)).bind fun h51 => mkA h51 0 4096 (4096 : Int32) fun q52 h53 => (pF h53 a0 7 22 (vR q52)).bind fun h54 => mkA h54 0 4096 (4096 : Int32) fun q55 h56 => (pF h56 a0 7 23 (vR q55)).bind fun h57 => mkA h57 0 4096 (4096 : Int32) fun q58 h59 => (pF h59 a0 7 24 (vR q58)).bind fun h60 => mkA h60 0 4096 (4096 : Int32) fun q61 h62 => (pF h62 a0 7 25 (vR q61)).bind fun h63 => mkA h63 0 9 (9 : Int32) fun q64 h65 => (pF h65 a0 7 26 (vR q64)).bind fun h66 => some h66)
set_option maxHeartbeats 4000000 in
set_option maxRecDepth 100000 in
theorem mX7_init {l : Launch} {g : XG} {h : Hp} {a0 : Nat} {res : Hp} (hf : fX7_init h a0 = some res) : XM l g yX7_init wsX7_init 1 12 22 105458 [vR a0] h none res := by
  refine x_start (cc := cX7_init) (maxL := 1) (ret := none) (by decide) rfl (Nat.le_of_ble_eq_true rfl) (lv := [some (vR a0)]) rfl ?_
  intro p e s m args below meth c C hr hlk hnm
  unfold fX7_init at hf
  refine x_aload_n C dX7_init_0 (pc' := 1) rfl rfl rfl ?_
  refine x_objInit C lkX7_init_0 lkX7_init_1 lkX7_init_2 (Nat.le_of_ble_eq_true rfl) (Nat.le_of_ble_eq_true rfl) hf dX7_init_1 (pc' := 4) rfl (fun hf => ?_)
  refine x_aload_n C dX7_init_4 (pc' := 5) rfl rfl rfl ?_
  refine x_bipush C (v := 100) (by decide) dX7_init_5 (pc' := 7) rfl ?_
  refine x_newI C (k := 21) (n := 105358) (ty := .byte) rfl (Or.inr (Or.inl ⟨rfl, rfl⟩)) lkX7_init_3 (by decide) hf dX7_init_7 (pc' := 9) rfl (fun q1 h2 _ _ _ _ hf => ?_)
  refine x_put C (ci := 7) (kf := 1) rfl (by decide) hinX7_init_X7 tyX7 tyX7_ok nmX7 lkX7_init_4 rfl (Or.inr ⟨rfl, hnm, rfl⟩) rfl hf dX7_init_9 (pc' := 12) rfl (fun h3 _ hf => ?_)
  refine x_aload_n C dX7_init_12 (pc' := 13) rfl rfl rfl ?_
  refine x_bipush C (v := 6) (by decide) dX7_init_13 (pc' := 15) rfl ?_
  refine x_newI C (k := 20) (n := 105352) (ty := .int) rfl (Or.inl ⟨rfl, rfl⟩) lkX7_init_5 (by decide) hf dX7_init_15 (pc' := 17) rfl (fun q4 h5 _ _ _ _ hf => ?_)
  refine x_put C (ci := 7) (kf := 4) rfl (by decide) hinX7_init_X7 tyX7 tyX7_ok nmX7 lkX7_init_6 rfl (Or.inr ⟨rfl, hnm, rfl⟩) rfl hf dX7_init_17 (pc' := 20) rfl (fun h6 _ hf => ?_)
  refine x_aload_n C dX7_init_20 (pc' := 21) rfl rfl rfl ?_
  refine x_bipush C (v := 6) (by decide) dX7_init_21 (pc' := 23) rfl ?_
  refine x_newI C (k := 19) (n := 105346) (ty := .int) rfl (Or.inl ⟨rfl, rfl⟩) lkX7_init_5 (by decide) hf dX7_init_23 (pc' := 25) rfl (fun q7 h8 _ _ _ _ hf => ?_)
  refine x_put C (ci := 7) (kf := 5) rfl (by decide) hinX7_init_X7 tyX7 tyX7_ok nmX7 lkX7_init_7 rfl (Or.inr ⟨rfl, hnm, rfl⟩) rfl hf dX7_init_25 (pc' := 28) rfl (fun h9 _ hf => ?_)
  refine x_aload_n C dX7_init_28 (pc' := 29) rfl rfl rfl ?_
  refine x_sipush C (v := 189) (by decide) dX7_init_29 (pc' := 32) rfl ?_
  refine x_newI C (k := 18) (n := 105157) (ty := .int) rfl (Or.inl ⟨rfl, rfl⟩) lkX7_init_5 (by decide) hf dX7_init_32 (pc' := 34) rfl (fun q10 h11 _ _ _ _ hf => ?_)
  refine x_put C (ci := 7) (kf := 6) rfl (by decide) hinX7_init_X7 tyX7 tyX7_ok nmX7 lkX7_init_8 rfl (Or.inr ⟨rfl, hnm, rfl⟩) rfl hf dX7_init_34 (pc' := 37) rfl (fun h12 _ hf => ?_)
  refine x_aload_n C dX7_init_37 (pc' := 38) rfl rfl rfl ?_
  refine x_sipush C (v := 600) (by decide) dX7_init_38 (pc' := 41) rfl ?_
  refine x_newI C (k := 17) (n := 104557) (ty := .byte) rfl (Or.inr (Or.inl ⟨rfl, rfl⟩)) lkX7_init_3 (by decide) hf dX7_init_41 (pc' := 43) rfl (fun q13 h14 _ _ _ _ hf => ?_)
  refine x_put C (ci := 7) (kf := 7) rfl (by decide) hinX7_init_X7 tyX7 tyX7_ok nmX7 lkX7_init_9 rfl (Or.inr ⟨rfl, hnm, rfl⟩) rfl hf dX7_init_43 (pc' := 46) rfl (fun h15 _ hf => ?_)
  refine x_aload_n C dX7_init_46 (pc' := 47) rfl rfl rfl ?_
  refine x_bipush C (v := 100) (by decide) dX7_init_47 (pc' := 49) rfl ?_
  refine x_newI C (k := 16) (n := 104457) (ty := .int) rfl (Or.inl ⟨rfl, rfl⟩) lkX7_init_5 (by decide) hf dX7_init_49 (pc' := 51) rfl (fun q16 h17 _ _ _ _ hf => ?_)
  refine x_put C (ci := 7) (kf := 9) rfl (by decide) hinX7_init_X7 tyX7 tyX7_ok nmX7 lkX7_init_10 rfl (Or.inr ⟨rfl, hnm, rfl⟩) rfl hf dX7_init_51 (pc' := 54) rfl (fun h18 _ hf => ?_)
  refine x_aload_n C dX7_init_54 (pc' := 55) rfl rfl rfl ?_
  refine x_bipush C (v := 100) (by decide) dX7_init_55 (pc' := 57) rfl ?_
  refine x_newI C (k := 15) (n := 104357) (ty := .int) rfl (Or.inl ⟨rfl, rfl⟩) lkX7_init_5 (by decide) hf dX7_init_57 (pc' := 59) rfl (fun q19 h20 _ _ _ _ hf => ?_)
  refine x_put C (ci := 7) (kf := 10) rfl (by decide) hinX7_init_X7 tyX7 tyX7_ok nmX7 lkX7_init_11 rfl (Or.inr ⟨rfl, hnm, rfl⟩) rfl hf dX7_init_59 (pc' := 62) rfl (fun h21 _ hf => ?_)
  refine x_aload_n C dX7_init_62 (pc' := 63) rfl rfl rfl ?_
  refine x_sipush C (v := 189) (by decide) dX7_init_63 (pc' := 66) rfl ?_
  refine x_newL C (k := 14) (n := 104168) lkX7_init_12 (by decide) hf dX7_init_66 (pc' := 68) rfl (fun q22 h23 _ _ _ _ hf => ?_)
  refine x_put C (ci := 7) (kf := 11) rfl (by decide) hinX7_init_X7 tyX7 tyX7_ok nmX7 lkX7_init_13 rfl (Or.inr ⟨rfl, hnm, rfl⟩) rfl hf dX7_init_68 (pc' := 71) rfl (fun h24 _ hf => ?_)
  refine x_aload_n C dX7_init_71 (pc' := 72) rfl rfl rfl ?_
  refine x_bipush C (v := 81) (by decide) dX7_init_72 (pc' := 74) rfl ?_
  refine x_newI C (k := 13) (n := 104087) (ty := .boolean) rfl (Or.inr (Or.inr ⟨rfl, rfl⟩)) lkX7_init_14 (by decide) hf dX7_init_74 (pc' := 76) rfl (fun q25 h26 _ _ _ _ hf => ?_)
  refine x_put C (ci := 7) (kf := 12) rfl (by decide) hinX7_init_X7 tyX7 tyX7_ok nmX7 lkX7_init_15 rfl (Or.inr ⟨rfl, hnm, rfl⟩) rfl hf dX7_init_76 (pc' := 79) rfl (fun h27 _ hf => ?_)
  refine x_aload_n C dX7_init_79 (pc' := 80) rfl rfl rfl ?_
  refine x_bipush C (v := 81) (by decide) dX7_init_80 (pc' := 82) rfl ?_
  refine x_newI C (k := 12) (n := 104006) (ty := .boolean) rfl (Or.inr (Or.inr ⟨rfl, rfl⟩)) lkX7_init_14 (by decide) hf dX7_init_82 (pc' := 84) rfl (fun q28 h29 _ _ _ _ hf => ?_)
  refine x_put C (ci := 7) (kf := 13) rfl (by decide) hinX7_init_X7 tyX7 tyX7_ok nmX7 lkX7_init_16 rfl (Or.inr ⟨rfl, hnm, rfl⟩) rfl hf dX7_init_84 (pc' := 87) rfl (fun h30 _ hf => ?_)
  refine x_aload_n C dX7_init_87 (pc' := 88) rfl rfl rfl ?_
  refine x_sipush C (v := 512) (by decide) dX7_init_88 (pc' := 91) rfl ?_
  refine x_newI C (k := 11) (n := 103494) (ty := .int) rfl (Or.inl ⟨rfl, rfl⟩) lkX7_init_5 (by decide) hf dX7_init_91 (pc' := 93) rfl (fun q31 h32 _ _ _ _ hf => ?_)
  refine x_put C (ci := 7) (kf := 14) rfl (by decide) hinX7_init_X7 tyX7 tyX7_ok nmX7 lkX7_init_17 rfl (Or.inr ⟨rfl, hnm, rfl⟩) rfl hf dX7_init_93 (pc' := 96) rfl (fun h33 _ hf => ?_)
  refine x_aload_n C dX7_init_96 (pc' := 97) rfl rfl rfl ?_
  refine x_sipush C (v := 512) (by decide) dX7_init_97 (pc' := 100) rfl ?_
  refine x_newI C (k := 10) (n := 102982) (ty := .int) rfl (Or.inl ⟨rfl, rfl⟩) lkX7_init_5 (by decide) hf dX7_init_100 (pc' := 102) rfl (fun q34 h35 _ _ _ _ hf => ?_)
  refine x_put C (ci := 7) (kf := 15) rfl (by decide) hinX7_init_X7 tyX7 tyX7_ok nmX7 lkX7_init_18 rfl (Or.inr ⟨rfl, hnm, rfl⟩) rfl hf dX7_init_102 (pc' := 105) rfl (fun h36 _ hf => ?_)
  refine x_aload_n C dX7_init_105 (pc' := 106) rfl rfl rfl ?_
  refine x_sipush C (v := 512) (by decide) dX7_init_106 (pc' := 109) rfl ?_
  refine x_newI C (k := 9) (n := 102470) (ty := .int) rfl (Or.inl ⟨rfl, rfl⟩) lkX7_init_5 (by decide) hf dX7_init_109 (pc' := 111) rfl (fun q37 h38 _ _ _ _ hf => ?_)
  refine x_put C (ci := 7) (kf := 16) rfl (by decide) hinX7_init_X7 tyX7 tyX7_ok nmX7 lkX7_init_19 rfl (Or.inr ⟨rfl, hnm, rfl⟩) rfl hf dX7_init_111 (pc' := 114) rfl (fun h39 _ hf => ?_)
  refine x_aload_n C dX7_init_114 (pc' := 115) rfl rfl rfl ?_
  refine x_sipush C (v := 512) (by decide) dX7_init_115 (pc' := 118) rfl ?_
  refine x_newI C (k := 8) (n := 101958) (ty := .boolean) rfl (Or.inr (Or.inr ⟨rfl, rfl⟩)) lkX7_init_14 (by decide) hf dX7_init_118 (pc' := 120) rfl (fun q40 h41 _ _ _ _ hf => ?_)
  refine x_put C (ci := 7) (kf := 17) rfl (by decide) hinX7_init_X7 tyX7 tyX7_ok nmX7 lkX7_init_20 rfl (Or.inr ⟨rfl, hnm, rfl⟩) rfl hf dX7_init_120 (pc' := 123) rfl (fun h42 _ hf => ?_)
  refine x_aload_n C dX7_init_123 (pc' := 124) rfl rfl rfl ?_
  refine x_bipush C (v := 27) (by decide) dX7_init_124 (pc' := 126) rfl ?_
  refine x_newI C (k := 7) (n := 101931) (ty := .int) rfl (Or.inl ⟨rfl, rfl⟩) lkX7_init_5 (by decide) hf dX7_init_126 (pc' := 128) rfl (fun q43 h44 _ _ _ _ hf => ?_)
  refine x_put C (ci := 7) (kf := 18) rfl (by decide) hinX7_init_X7 tyX7 tyX7_ok nmX7 lkX7_init_21 rfl (Or.inr ⟨rfl, hnm, rfl⟩) rfl hf dX7_init_128 (pc' := 131) rfl (fun h45 _ hf => ?_)
  refine x_aload_n C dX7_init_131 (pc' := 132) rfl rfl rfl ?_
  refine x_sipush C (v := 20002) (by decide) dX7_init_132 (pc' := 135) rfl ?_
  refine x_newL C (k := 6) (n := 81929) lkX7_init_12 (by decide) hf dX7_init_135 (pc' := 137) rfl (fun q46 h47 _ _ _ _ hf => ?_)
  refine x_put C (ci := 7) (kf := 19) rfl (by decide) hinX7_init_X7 tyX7 tyX7_ok nmX7 lkX7_init_22 rfl (Or.inr ⟨rfl, hnm, rfl⟩) rfl hf dX7_init_137 (pc' := 140) rfl (fun h48 _ hf => ?_)
  refine x_aload_n C dX7_init_140 (pc' := 141) rfl rfl rfl ?_
  refine x_ldc C lkX7_init_23 dX7_init_141 (pc' := 143) rfl ?_
  refine x_newI C (k := 5) (n := 16393) (ty := .int) rfl (Or.inl ⟨rfl, rfl⟩) lkX7_init_5 (by decide) hf dX7_init_143 (pc' := 145) rfl (fun q49 h50 _ _ _ _ hf => ?_)
  refine x_put C (ci := 7) (kf := 20) rfl (by decide) hinX7_init_X7 tyX7 tyX7_ok nmX7 lkX7_init_24 rfl (Or.inr ⟨rfl, hnm, rfl⟩) rfl hf dX7_init_145 (pc' := 148) rfl (fun h51 _ hf => ?_)
  refine x_aload_n C dX7_init_148 (pc' := 149) rfl rfl rfl ?_
  refine x_sipush C (v := 4096) (by decide) dX7_init_149 (pc' := 152) rfl ?_
  refine x_newI C (k := 4) (n := 12297) (ty := .int) rfl (Or.inl ⟨rfl, rfl⟩) lkX7_init_5 (by decide) hf dX7_init_152 (pc' := 154) rfl (fun q52 h53 _ _ _ _ hf => ?_)
  refine x_put C (ci := 7) (kf := 22) rfl (by decide) hinX7_init_X7 tyX7 tyX7_ok nmX7 lkX7_init_25 rfl (Or.inr ⟨rfl, hnm, rfl⟩) rfl hf dX7_init_154 (pc' := 157) rfl (fun h54 _ hf => ?_)
  refine x_aload_n C dX7_init_157 (pc' := 158) rfl rfl rfl ?_
  refine x_sipush C (v := 4096) (by decide) dX7_init_158 (pc' := 161) rfl ?_
  refine x_newI C (k := 3) (n := 8201) (ty := .int) rfl (Or.inl ⟨rfl, rfl⟩) lkX7_init_5 (by decide) hf dX7_init_161 (pc' := 163) rfl (fun q55 h56 _ _ _ _ hf => ?_)
  refine x_put C (ci := 7) (kf := 23) rfl (by decide) hinX7_init_X7 tyX7 tyX7_ok nmX7 lkX7_init_26 rfl (Or.inr ⟨rfl, hnm, rfl⟩) rfl hf dX7_init_163 (pc' := 166) rfl (fun h57 _ hf => ?_)
  refine x_aload_n C dX7_init_166 (pc' := 167) rfl rfl rfl ?_
  refine x_sipush C (v := 4096) (by decide) dX7_init_167 (pc' := 170) rfl ?_
  refine x_newI C (k := 2) (n := 4105) (ty := .int) rfl (Or.inl ⟨rfl, rfl⟩) lkX7_init_5 (by decide) hf dX7_init_170 (pc' := 172) rfl (fun q58 h59 _ _ _ _ hf => ?_)
  refine x_put C (ci := 7) (kf := 24) rfl (by decide) hinX7_init_X7 tyX7 tyX7_ok nmX7 lkX7_init_27 rfl (Or.inr ⟨rfl, hnm, rfl⟩) rfl hf dX7_init_172 (pc' := 175) rfl (fun h60 _ hf => ?_)
  refine x_aload_n C dX7_init_175 (pc' := 176) rfl rfl rfl ?_
  refine x_sipush C (v := 4096) (by decide) dX7_init_176 (pc' := 179) rfl ?_
  refine x_newI C (k := 1) (n := 9) (ty := .int) rfl (Or.inl ⟨rfl, rfl⟩) lkX7_init_5 (by decide) hf dX7_init_179 (pc' := 181) rfl (fun q61 h62 _ _ _ _ hf => ?_)
  refine x_put C (ci := 7) (kf := 25) rfl (by decide) hinX7_init_X7 tyX7 tyX7_ok nmX7 lkX7_init_28 rfl (Or.inr ⟨rfl, hnm, rfl⟩) rfl hf dX7_init_181 (pc' := 184) rfl (fun h63 _ hf => ?_)
  refine x_aload_n C dX7_init_184 (pc' := 185) rfl rfl rfl ?_
  refine x_bipush C (v := 9) (by decide) dX7_init_185 (pc' := 187) rfl ?_
  refine x_newI C (k := 0) (n := 0) (ty := .int) rfl (Or.inl ⟨rfl, rfl⟩) lkX7_init_5 (by decide) hf dX7_init_187 (pc' := 189) rfl (fun q64 h65 _ _ _ _ hf => ?_)
  refine x_put C (ci := 7) (kf := 26) rfl (by decide) hinX7_init_X7 tyX7 tyX7_ok nmX7 lkX7_init_29 rfl (Or.inr ⟨rfl, hnm, rfl⟩) rfl hf dX7_init_189 (pc' := 192) rfl (fun h66 _ hf => ?_)
  cases hf
  exact x_vret C hr hlk dX7_init_192
-- ===== X7_thrown
theorem lkX7_thrown_0 : Cond.fieldLink RX7 80 "MossRingsModel" "thrown" "I" ∈ wsX7_thrown := by decide +kernel
theorem hinX7_thrown_X7 : ∀ w ∈ u_ws RX7 TX7 27, w ∈ wsX7_thrown := by decide +kernel
def fX7_thrown (h : Hp) (a0 : Nat) : Option (Int32 × Hp) := (gI h a0 7 0).bind fun v1 => some (v1, h)
set_option maxHeartbeats 4000000 in
set_option maxRecDepth 100000 in
theorem mX7_thrown {l : Launch} {g : XG} {h : Hp} {a0 : Nat} {res : Int32 × Hp} (hf : fX7_thrown h a0 = some res) : XM l g yX7_thrown wsX7_thrown 0 0 0 0 [vR a0] h (some (vI res.1)) res.2 := by
  refine x_start (cc := cX7_thrown) (maxL := 1) (ret := (some .int)) (by decide) rfl (Nat.le_of_ble_eq_true rfl) (lv := [some (vR a0)]) rfl ?_
  intro p e s m args below meth c C hr hlk hnm
  unfold fX7_thrown at hf
  refine x_aload_n C dX7_thrown_0 (pc' := 1) rfl rfl rfl ?_
  refine x_getI C (ci := 7) (kf := 0) rfl (by decide) hinX7_thrown_X7 lkX7_thrown_0 rfl hf dX7_thrown_1 (pc' := 4) rfl (fun v1 _ hf => ?_)
  cases hf
  exact x_iret C hr hlk dX7_thrown_4
-- ===== X7_throwsIf
theorem lkX7_throwsIf_0 : Cond.fieldLink RX7 80 "MossRingsModel" "thrown" "I" ∈ wsX7_throwsIf := by decide +kernel
theorem hinX7_throwsIf_X7 : ∀ w ∈ u_ws RX7 TX7 27, w ∈ wsX7_throwsIf := by decide +kernel
def fX7_throwsIf_b10 (i1 : Int32) (s0 : Int32) (s1 : Nat) (h : Hp) : Option (Int32 × Hp) := (pF h s1 7 0 (vI s0)).bind fun h1 => retZ i1 h1
set_option maxHeartbeats 4000000 in
set_option maxRecDepth 100000 in
theorem mX7_throwsIf_b10 {g : XG} {p : Program} {l : Launch} {e : Env} {s : State} {m : MethodId} {args : Array Value} {below : List Frame} {meth : Method} {c : Code} (C : x_C g p s m args c cX7_throwsIf RX7 2 wsX7_throwsIf) (hr : meth.sig.returnType = (some .boolean)) (hlk : meth.locks = false) (hnm : meth.name = yX7_throwsIf.name) {res : Int32 × Hp} (i1 : Int32) (s0 : Int32) (s1 : Nat) (h : Hp) (hf : fX7_throwsIf_b10 i1 s0 s1 h = some res) : XW g p l e { frames := 0, cells := 0, slots := 0, locals := 0 } s m args below meth c (MQ below (x_Q g (some (vI res.1)) res.2) args s 0 0 (x_A g)) 2 0 0 h 10 [none, some (vI i1)] [vI s0, vR s1] := by
  unfold fX7_throwsIf_b10 at hf
  refine x_put C (ci := 7) (kf := 0) rfl (by decide) hinX7_throwsIf_X7 tyX7 tyX7_ok nmX7 lkX7_throwsIf_0 rfl (Or.inl rfl) rfl hf dX7_throwsIf_10 (pc' := 13) rfl (fun h1 _ hf => ?_)
  refine x_iload_n C dX7_throwsIf_13 (pc' := 14) rfl rfl rfl ?_
  exact x_zret C hf hr hlk dX7_throwsIf_14
def fX7_throwsIf (h : Hp) (a0 : Nat) (i1 : Int32) : Option (Int32 × Hp) := if i1 = 0 then (fX7_throwsIf_b10 i1 (0 : Int32) a0 h) else (fX7_throwsIf_b10 i1 (1 : Int32) a0 h)
set_option maxHeartbeats 4000000 in
set_option maxRecDepth 100000 in
theorem mX7_throwsIf {l : Launch} {g : XG} {h : Hp} {a0 : Nat} {i1 : Int32} {res : Int32 × Hp} (hf : fX7_throwsIf h a0 i1 = some res) : XM l g yX7_throwsIf wsX7_throwsIf 0 0 0 0 [vR a0, vI i1] h (some (vI res.1)) res.2 := by
  refine x_start (cc := cX7_throwsIf) (maxL := 2) (ret := (some .boolean)) (by decide) rfl (Nat.le_of_ble_eq_true rfl) (lv := [some (vR a0), some (vI i1)]) rfl ?_
  intro p e s m args below meth c C hr hlk hnm
  unfold fX7_throwsIf at hf
  refine x_aload_n C dX7_throwsIf_0 (pc' := 1) rfl rfl rfl ?_
  refine x_iload_n C dX7_throwsIf_1 (pc' := 2) rfl rfl rfl ?_
  refine x_if_eq C hf dX7_throwsIf_2 (pc' := 5) rfl (tgt := 9) (by decide) (fun _ hf => ?_) (fun _ hf => ?_)
  ·
    refine x_iconst C (v := 0) (by decide) dX7_throwsIf_9 (pc' := 10) rfl ?_
    refine x_keep [false, true] rfl ?_
    refine x_more (k' := 0) (n' := 0) (Nat.le_of_ble_eq_true rfl) (Nat.le_of_ble_eq_true rfl) ?_
    exact mX7_throwsIf_b10 C hr hlk hnm i1 (0 : Int32) a0 h hf
  ·
    refine x_iconst C (v := 1) (by decide) dX7_throwsIf_5 (pc' := 6) rfl ?_
    refine x_goto C dX7_throwsIf_6 (tgt := 10) (by decide) ?_
    refine x_keep [false, true] rfl ?_
    refine x_more (k' := 0) (n' := 0) (Nat.le_of_ble_eq_true rfl) (Nat.le_of_ble_eq_true rfl) ?_
    exact mX7_throwsIf_b10 C hr hlk hnm i1 (1 : Int32) a0 h hf
-- ===== X7_four
theorem lkX7_four_0 : Cond.fieldLink RX7 7 "MossRingsModel" "tape" "[B" ∈ wsX7_four := by decide +kernel
theorem hinX7_four_X7 : ∀ w ∈ u_ws RX7 TX7 27, w ∈ wsX7_four := by decide +kernel
theorem lkX7_four_1 : Cond.fieldLink RX7 84 "MossRingsModel" "length" "I" ∈ wsX7_four := by decide +kernel
def fX7_four_w3 : Nat → Nat → Int32 → Int32 → Hp → Option (Hp)
  | 0 => fun _ _ _ _ => none
  | n + 1 => fun a0 i1 i2 h => if i2 < 0 then (some h) else ((gR h a0 7 1).bind fun v1 => (gI h a0 7 2).bind fun v2 => (sI h v1 1 v2 ((i1 >>> (i2 &&& 31))).toInt8.toInt32).bind fun h3 => (gI h3 a0 7 2).bind fun v4 => (pF h3 a0 7 2 (vI (v4 + (1 : Int32)))).bind fun h5 => (fX7_four_w3 n) a0 i1 (i2 + (-8)) h5)
set_option maxHeartbeats 4000000 in
set_option maxRecDepth 100000 in
theorem mX7_four_w3 {g : XG} {p : Program} {l : Launch} {e : Env} {s : State} {m : MethodId} {args : Array Value} {below : List Frame} {meth : Method} {c : Code} (C : x_C g p s m args c cX7_four RX7 3 wsX7_four) (hr : meth.sig.returnType = none) (hlk : meth.locks = false) (hnm : meth.name = yX7_four.name) {res : Hp} : ∀ (n : Nat) (a0 : Nat) (i1 : Int32) (i2 : Int32) (h : Hp), fX7_four_w3 n a0 i1 i2 h = some res → XW g p l e { frames := 0, cells := 0, slots := 0, locals := 0 } s m args below meth c (MQ below (x_Q g none res) args s 0 0 (x_A g)) 3 0 0 h 3 [some (vR a0), some (vI i1), some (vI i2)] [] := by
  intro n
  induction n with
  | zero =>
    intro a0 i1 i2 h hf
    have hf2 : (none : Option (Hp)) = some res := hf
    cases hf2
  | succ n ih =>
    intro a0 i1 i2 h hf
    rw [fX7_four_w3] at hf
    refine x_iload_n C dX7_four_3 (pc' := 4) rfl rfl rfl ?_
    refine x_if_lt C hf dX7_four_4 (pc' := 7) rfl (tgt := 36) (by decide) (fun _ hf => ?_) (fun _ hf => ?_)
    ·
      cases hf
      exact x_vret C hr hlk dX7_four_36
    ·
      refine x_aload_n C dX7_four_7 (pc' := 8) rfl rfl rfl ?_
      refine x_getR C (ci := 7) (kf := 1) rfl (by decide) hinX7_four_X7 lkX7_four_0 rfl hf dX7_four_8 (pc' := 11) rfl (fun v1 _ hf => ?_)
      refine x_aload_n C dX7_four_11 (pc' := 12) rfl rfl rfl ?_
      refine x_getI C (ci := 7) (kf := 2) rfl (by decide) hinX7_four_X7 lkX7_four_1 rfl hf dX7_four_12 (pc' := 15) rfl (fun v2 _ hf => ?_)
      refine x_iload_n C dX7_four_15 (pc' := 16) rfl rfl rfl ?_
      refine x_iload_n C dX7_four_16 (pc' := 17) rfl rfl rfl ?_
      refine x_ishr C dX7_four_17 (pc' := 18) rfl ?_
      refine x_i2b C dX7_four_18 (pc' := 19) rfl ?_
      refine x_bastoreB C hf dX7_four_19 (pc' := 20) rfl (fun h3 _ hf => ?_)
      refine x_aload_n C dX7_four_20 (pc' := 21) rfl rfl rfl ?_
      refine x_dup C rfl dX7_four_21 (pc' := 22) rfl ?_
      refine x_getI C (ci := 7) (kf := 2) rfl (by decide) hinX7_four_X7 lkX7_four_1 rfl hf dX7_four_22 (pc' := 25) rfl (fun v4 _ hf => ?_)
      refine x_iconst C (v := 1) (by decide) dX7_four_25 (pc' := 26) rfl ?_
      refine x_iadd C dX7_four_26 (pc' := 27) rfl ?_
      refine x_put C (ci := 7) (kf := 2) rfl (by decide) hinX7_four_X7 tyX7 tyX7_ok nmX7 lkX7_four_1 rfl (Or.inl rfl) rfl hf dX7_four_27 (pc' := 30) rfl (fun h5 _ hf => ?_)
      refine x_iinc C dX7_four_30 (pc' := 33) rfl rfl (v := (i2 + (-8))) rfl (by decide) rfl (lv' := [some (vR a0), some (vI i1), some (vI (i2 + (-8)))]) rfl ?_
      refine x_goto C dX7_four_33 (tgt := 3) (by decide) ?_
      exact ih a0 i1 (i2 + (-8)) h5 hf
def fX7_four (h : Hp) (a0 : Nat) (i1 : Int32) : Option (Hp) := fX7_four_w3 FUEL a0 i1 (24 : Int32) h
set_option maxHeartbeats 4000000 in
set_option maxRecDepth 100000 in
theorem mX7_four {l : Launch} {g : XG} {h : Hp} {a0 : Nat} {i1 : Int32} {res : Hp} (hf : fX7_four h a0 i1 = some res) : XM l g yX7_four wsX7_four 0 0 0 0 [vR a0, vI i1] h none res := by
  refine x_start (cc := cX7_four) (maxL := 3) (ret := none) (by decide) rfl (Nat.le_of_ble_eq_true rfl) (lv := [some (vR a0), some (vI i1), none]) rfl ?_
  intro p e s m args below meth c C hr hlk hnm
  unfold fX7_four at hf
  refine x_bipush C (v := 24) (by decide) dX7_four_0 (pc' := 2) rfl ?_
  refine x_istore_n C dX7_four_2 (pc' := 3) rfl rfl (by decide) rfl (lv' := [some (vR a0), some (vI i1), some (vI (24 : Int32))]) rfl ?_
  refine x_more (k' := 0) (n' := 0) (Nat.le_of_ble_eq_true rfl) (Nat.le_of_ble_eq_true rfl) ?_
  exact mX7_four_w3 C hr hlk hnm FUEL a0 i1 (24 : Int32) h hf
-- ===== X7_feed
theorem lkX7_feed_0 : Cond.fieldLink RX7 80 "MossRingsModel" "thrown" "I" ∈ wsX7_feed := by decide +kernel
theorem hinX7_feed_X7 : ∀ w ∈ u_ws RX7 TX7 27, w ∈ wsX7_feed := by decide +kernel
theorem lkX7_feed_1 : Cond.fieldLink RX7 84 "MossRingsModel" "length" "I" ∈ wsX7_feed := by decide +kernel
def fX7_feed (h : Hp) (a0 : Nat) (i1 : Int32) (i2 : Int32) (i3 : Int32) (i4 : Int32) (i5 : Int32) : Option (Int32 × Hp) := (pF h a0 7 0 (vI (0 : Int32))).bind fun h1 => (gI h1 a0 7 2).bind fun v2 => if (v2 + (20 : Int32)) ≤ (100 : Int32) then ((oK h1 a0 7 (fX7_four h1 a0 i1)).bind fun h4 => (oK h4 a0 7 (fX7_four h4 a0 i2)).bind fun h6 => (oK h6 a0 7 (fX7_four h6 a0 i3)).bind fun h8 => (oK h8 a0 7 (fX7_four h8 a0 i4)).bind fun h10 => (oK h10 a0 7 (fX7_four h10 a0 i5)).bind fun h12 => (gI h12 a0 7 2).bind fun v13 => some (v13, h12)) else (some ((-1 : Int32), h1))
set_option maxHeartbeats 4000000 in
set_option maxRecDepth 100000 in
theorem mX7_feed {l : Launch} {g : XG} {h : Hp} {a0 : Nat} {i1 : Int32} {i2 : Int32} {i3 : Int32} {i4 : Int32} {i5 : Int32} {res : Int32 × Hp} (hf : fX7_feed h a0 i1 i2 i3 i4 i5 = some res) : XM l g yX7_feed wsX7_feed 1 22 0 0 [vR a0, vI i1, vI i2, vI i3, vI i4, vI i5] h (some (vI res.1)) res.2 := by
  refine x_start (cc := cX7_feed) (maxL := 6) (ret := (some .int)) (by decide) rfl (Nat.le_of_ble_eq_true rfl) (lv := [some (vR a0), some (vI i1), some (vI i2), some (vI i3), some (vI i4), some (vI i5)]) rfl ?_
  intro p e s m args below meth c C hr hlk hnm
  unfold fX7_feed at hf
  refine x_aload_n C dX7_feed_0 (pc' := 1) rfl rfl rfl ?_
  refine x_iconst C (v := 0) (by decide) dX7_feed_1 (pc' := 2) rfl ?_
  refine x_put C (ci := 7) (kf := 0) rfl (by decide) hinX7_feed_X7 tyX7 tyX7_ok nmX7 lkX7_feed_0 rfl (Or.inl rfl) rfl hf dX7_feed_2 (pc' := 5) rfl (fun h1 _ hf => ?_)
  refine x_aload_n C dX7_feed_5 (pc' := 6) rfl rfl rfl ?_
  refine x_getI C (ci := 7) (kf := 2) rfl (by decide) hinX7_feed_X7 lkX7_feed_1 rfl hf dX7_feed_6 (pc' := 9) rfl (fun v2 _ hf => ?_)
  refine x_bipush C (v := 20) (by decide) dX7_feed_9 (pc' := 11) rfl ?_
  refine x_iadd C dX7_feed_11 (pc' := 12) rfl ?_
  refine x_bipush C (v := 100) (by decide) dX7_feed_12 (pc' := 14) rfl ?_
  refine x_icmp_le C hf dX7_feed_14 (pc' := 17) rfl (tgt := 19) (by decide) (fun _ hf => ?_) (fun _ hf => ?_)
  ·
    refine x_aload_n C dX7_feed_19 (pc' := 20) rfl rfl rfl ?_
    refine x_iload_n C dX7_feed_20 (pc' := 21) rfl rfl rfl ?_
    obtain ⟨h4, hq, hf⟩ := bind_some hf
    obtain ⟨hob, hq⟩ := oK_some hq
    refine x_callV C (As := [vI i1]) (st := []) (r := none) (h' := h4) (mc := 0) (ms := 0) (k := 0) (n := 0) (mX7_four hq) hob (ci := 7) rfl (cwV 1 C.1.2.2.2.2 gX7_feed_X7_four rfl rfl rfl (by decide +kernel) ⟨Nat.le_of_ble_eq_true rfl, Nat.le_of_ble_eq_true rfl⟩) rfl rfl (Nat.le_of_ble_eq_true rfl) dX7_feed_21 (pc' := 24) rfl ?_
    refine x_aload_n C dX7_feed_24 (pc' := 25) rfl rfl rfl ?_
    refine x_iload_n C dX7_feed_25 (pc' := 26) rfl rfl rfl ?_
    obtain ⟨h6, hq, hf⟩ := bind_some hf
    obtain ⟨hob, hq⟩ := oK_some hq
    refine x_callV C (As := [vI i2]) (st := []) (r := none) (h' := h6) (mc := 0) (ms := 0) (k := 0) (n := 0) (mX7_four hq) hob (ci := 7) rfl (cwV 1 C.1.2.2.2.2 gX7_feed_X7_four rfl rfl rfl (by decide +kernel) ⟨Nat.le_of_ble_eq_true rfl, Nat.le_of_ble_eq_true rfl⟩) rfl rfl (Nat.le_of_ble_eq_true rfl) dX7_feed_26 (pc' := 29) rfl ?_
    refine x_aload_n C dX7_feed_29 (pc' := 30) rfl rfl rfl ?_
    refine x_iload_n C dX7_feed_30 (pc' := 31) rfl rfl rfl ?_
    obtain ⟨h8, hq, hf⟩ := bind_some hf
    obtain ⟨hob, hq⟩ := oK_some hq
    refine x_callV C (As := [vI i3]) (st := []) (r := none) (h' := h8) (mc := 0) (ms := 0) (k := 0) (n := 0) (mX7_four hq) hob (ci := 7) rfl (cwV 1 C.1.2.2.2.2 gX7_feed_X7_four rfl rfl rfl (by decide +kernel) ⟨Nat.le_of_ble_eq_true rfl, Nat.le_of_ble_eq_true rfl⟩) rfl rfl (Nat.le_of_ble_eq_true rfl) dX7_feed_31 (pc' := 34) rfl ?_
    refine x_aload_n C dX7_feed_34 (pc' := 35) rfl rfl rfl ?_
    refine x_iload C dX7_feed_35 (pc' := 37) rfl rfl ?_
    obtain ⟨h10, hq, hf⟩ := bind_some hf
    obtain ⟨hob, hq⟩ := oK_some hq
    refine x_callV C (As := [vI i4]) (st := []) (r := none) (h' := h10) (mc := 0) (ms := 0) (k := 0) (n := 0) (mX7_four hq) hob (ci := 7) rfl (cwV 1 C.1.2.2.2.2 gX7_feed_X7_four rfl rfl rfl (by decide +kernel) ⟨Nat.le_of_ble_eq_true rfl, Nat.le_of_ble_eq_true rfl⟩) rfl rfl (Nat.le_of_ble_eq_true rfl) dX7_feed_37 (pc' := 40) rfl ?_
    refine x_aload_n C dX7_feed_40 (pc' := 41) rfl rfl rfl ?_
    refine x_iload C dX7_feed_41 (pc' := 43) rfl rfl ?_
    obtain ⟨h12, hq, hf⟩ := bind_some hf
    obtain ⟨hob, hq⟩ := oK_some hq
    refine x_callV C (As := [vI i5]) (st := []) (r := none) (h' := h12) (mc := 0) (ms := 0) (k := 0) (n := 0) (mX7_four hq) hob (ci := 7) rfl (cwV 1 C.1.2.2.2.2 gX7_feed_X7_four rfl rfl rfl (by decide +kernel) ⟨Nat.le_of_ble_eq_true rfl, Nat.le_of_ble_eq_true rfl⟩) rfl rfl (Nat.le_of_ble_eq_true rfl) dX7_feed_43 (pc' := 46) rfl ?_
    refine x_aload_n C dX7_feed_46 (pc' := 47) rfl rfl rfl ?_
    refine x_getI C (ci := 7) (kf := 2) rfl (by decide) hinX7_feed_X7 lkX7_feed_1 rfl hf dX7_feed_47 (pc' := 50) rfl (fun v13 _ hf => ?_)
    cases hf
    exact x_iret C hr hlk dX7_feed_50
  ·
    refine x_iconst C (v := -1) (by decide) dX7_feed_17 (pc' := 18) rfl ?_
    cases hf
    exact x_iret C hr hlk dX7_feed_18
-- ===== X7_end
theorem lkX7_end_0 : Cond.fieldLink RX7 80 "MossRingsModel" "thrown" "I" ∈ wsX7_end := by decide +kernel
theorem hinX7_end_X7 : ∀ w ∈ u_ws RX7 TX7 27, w ∈ wsX7_end := by decide +kernel
theorem lkX7_end_1 : Cond.fieldLink RX7 84 "MossRingsModel" "length" "I" ∈ wsX7_end := by decide +kernel
def fX7_end (h : Hp) (a0 : Nat) (i1 : Int32) : Option (Int32 × Hp) := (pF h a0 7 0 (vI (0 : Int32))).bind fun h1 => if i1 < 0 then (retZ (0 : Int32) h1) else ((gI h1 a0 7 2).bind fun v2 => if i1 ≤ v2 then ((pF h1 a0 7 2 (vI i1)).bind fun h3 => retZ (1 : Int32) h3) else (retZ (0 : Int32) h1))
set_option maxHeartbeats 4000000 in
set_option maxRecDepth 100000 in
theorem mX7_end {l : Launch} {g : XG} {h : Hp} {a0 : Nat} {i1 : Int32} {res : Int32 × Hp} (hf : fX7_end h a0 i1 = some res) : XM l g yX7_end wsX7_end 0 0 0 0 [vR a0, vI i1] h (some (vI res.1)) res.2 := by
  refine x_start (cc := cX7_end) (maxL := 2) (ret := (some .boolean)) (by decide) rfl (Nat.le_of_ble_eq_true rfl) (lv := [some (vR a0), some (vI i1)]) rfl ?_
  intro p e s m args below meth c C hr hlk hnm
  unfold fX7_end at hf
  refine x_aload_n C dX7_end_0 (pc' := 1) rfl rfl rfl ?_
  refine x_iconst C (v := 0) (by decide) dX7_end_1 (pc' := 2) rfl ?_
  refine x_put C (ci := 7) (kf := 0) rfl (by decide) hinX7_end_X7 tyX7 tyX7_ok nmX7 lkX7_end_0 rfl (Or.inl rfl) rfl hf dX7_end_2 (pc' := 5) rfl (fun h1 _ hf => ?_)
  refine x_iload_n C dX7_end_5 (pc' := 6) rfl rfl rfl ?_
  refine x_if_lt C hf dX7_end_6 (pc' := 9) rfl (tgt := 17) (by decide) (fun _ hf => ?_) (fun _ hf => ?_)
  ·
    refine x_iconst C (v := 0) (by decide) dX7_end_17 (pc' := 18) rfl ?_
    exact x_zret C hf hr hlk dX7_end_18
  ·
    refine x_iload_n C dX7_end_9 (pc' := 10) rfl rfl rfl ?_
    refine x_aload_n C dX7_end_10 (pc' := 11) rfl rfl rfl ?_
    refine x_getI C (ci := 7) (kf := 2) rfl (by decide) hinX7_end_X7 lkX7_end_1 rfl hf dX7_end_11 (pc' := 14) rfl (fun v2 _ hf => ?_)
    refine x_icmp_le C hf dX7_end_14 (pc' := 17) rfl (tgt := 19) (by decide) (fun _ hf => ?_) (fun _ hf => ?_)
    ·
      refine x_aload_n C dX7_end_19 (pc' := 20) rfl rfl rfl ?_
      refine x_iload_n C dX7_end_20 (pc' := 21) rfl rfl rfl ?_
      refine x_put C (ci := 7) (kf := 2) rfl (by decide) hinX7_end_X7 tyX7 tyX7_ok nmX7 lkX7_end_1 rfl (Or.inl rfl) rfl hf dX7_end_21 (pc' := 24) rfl (fun h3 _ hf => ?_)
      refine x_iconst C (v := 1) (by decide) dX7_end_24 (pc' := 25) rfl ?_
      exact x_zret C hf hr hlk dX7_end_25
    ·
      refine x_iconst C (v := 0) (by decide) dX7_end_17 (pc' := 18) rfl ?_
      exact x_zret C hf hr hlk dX7_end_18
-- ===== X7_taken
theorem lkX7_taken_0 : Cond.fieldLink RX7 84 "MossRingsModel" "length" "I" ∈ wsX7_taken := by decide +kernel
theorem hinX7_taken_X7 : ∀ w ∈ u_ws RX7 TX7 27, w ∈ wsX7_taken := by decide +kernel
theorem lkX7_taken_1 : Cond.fieldLink RX7 91 "MossRingsModel" "size" "I" ∈ wsX7_taken := by decide +kernel
def fX7_taken (h : Hp) (a0 : Nat) : Option (Hp) := (gI h a0 7 2).bind fun v1 => (pF h a0 7 3 (vI v1)).bind fun h2 => (pF h2 a0 7 2 (vI (0 : Int32))).bind fun h3 => some h3
set_option maxHeartbeats 4000000 in
set_option maxRecDepth 100000 in
theorem mX7_taken {l : Launch} {g : XG} {h : Hp} {a0 : Nat} {res : Hp} (hf : fX7_taken h a0 = some res) : XM l g yX7_taken wsX7_taken 0 0 0 0 [vR a0] h none res := by
  refine x_start (cc := cX7_taken) (maxL := 1) (ret := none) (by decide) rfl (Nat.le_of_ble_eq_true rfl) (lv := [some (vR a0)]) rfl ?_
  intro p e s m args below meth c C hr hlk hnm
  unfold fX7_taken at hf
  refine x_aload_n C dX7_taken_0 (pc' := 1) rfl rfl rfl ?_
  refine x_aload_n C dX7_taken_1 (pc' := 2) rfl rfl rfl ?_
  refine x_getI C (ci := 7) (kf := 2) rfl (by decide) hinX7_taken_X7 lkX7_taken_0 rfl hf dX7_taken_2 (pc' := 5) rfl (fun v1 _ hf => ?_)
  refine x_put C (ci := 7) (kf := 3) rfl (by decide) hinX7_taken_X7 tyX7 tyX7_ok nmX7 lkX7_taken_1 rfl (Or.inl rfl) rfl hf dX7_taken_5 (pc' := 8) rfl (fun h2 _ hf => ?_)
  refine x_aload_n C dX7_taken_8 (pc' := 9) rfl rfl rfl ?_
  refine x_iconst C (v := 0) (by decide) dX7_taken_9 (pc' := 10) rfl ?_
  refine x_put C (ci := 7) (kf := 2) rfl (by decide) hinX7_taken_X7 tyX7 tyX7_ok nmX7 lkX7_taken_0 rfl (Or.inl rfl) rfl hf dX7_taken_10 (pc' := 13) rfl (fun h3 _ hf => ?_)
  cases hf
  exact x_vret C hr hlk dX7_taken_13
-- ===== X7_isSlot
def fX7_isSlot (h : Hp) (i0 : Int32) : Option (Int32 × Hp) := if i0 < 0 then (retZ (0 : Int32) h) else (if (6 : Int32) ≤ i0 then (retZ (0 : Int32) h) else (retZ (1 : Int32) h))
set_option maxHeartbeats 4000000 in
set_option maxRecDepth 100000 in
theorem mX7_isSlot {l : Launch} {g : XG} {h : Hp} {i0 : Int32} {res : Int32 × Hp} (hf : fX7_isSlot h i0 = some res) : XM l g yX7_isSlot wsX7_isSlot 0 0 0 0 [vI i0] h (some (vI res.1)) res.2 := by
  refine x_start (cc := cX7_isSlot) (maxL := 1) (ret := (some .boolean)) (by decide) rfl (Nat.le_of_ble_eq_true rfl) (lv := [some (vI i0)]) rfl ?_
  intro p e s m args below meth c C hr hlk hnm
  unfold fX7_isSlot at hf
  refine x_iload_n C dX7_isSlot_0 (pc' := 1) rfl rfl rfl ?_
  refine x_if_lt C hf dX7_isSlot_1 (pc' := 4) rfl (tgt := 14) (by decide) (fun _ hf => ?_) (fun _ hf => ?_)
  ·
    refine x_iconst C (v := 0) (by decide) dX7_isSlot_14 (pc' := 15) rfl ?_
    exact x_zret C hf hr hlk dX7_isSlot_15
  ·
    refine x_iload_n C dX7_isSlot_4 (pc' := 5) rfl rfl rfl ?_
    refine x_bipush C (v := 6) (by decide) dX7_isSlot_5 (pc' := 7) rfl ?_
    refine x_icmp_ge C hf dX7_isSlot_7 (pc' := 10) rfl (tgt := 14) (by decide) (fun _ hf => ?_) (fun _ hf => ?_)
    ·
      refine x_iconst C (v := 0) (by decide) dX7_isSlot_14 (pc' := 15) rfl ?_
      exact x_zret C hf hr hlk dX7_isSlot_15
    ·
      refine x_iconst C (v := 1) (by decide) dX7_isSlot_10 (pc' := 11) rfl ?_
      refine x_goto C dX7_isSlot_11 (tgt := 15) (by decide) ?_
      exact x_zret C hf hr hlk dX7_isSlot_15
-- ===== X7_has
theorem lkX7_has_0 : Cond.fieldLink RX7 13 "MossRingsModel" "states" "[I" ∈ wsX7_has := by decide +kernel
theorem hinX7_has_X7 : ∀ w ∈ u_ws RX7 TX7 27, w ∈ wsX7_has := by decide +kernel
def fX7_has (h : Hp) (a0 : Nat) (i1 : Int32) : Option (Int32 × Hp) := call (fX7_isSlot h i1) fun r1 h2 => if r1 = 0 then (retZ (0 : Int32) h2) else ((gR h2 a0 7 4).bind fun v3 => (aI h2 v3 0 i1).bind fun v4 => if v4 ≤ 0 then (retZ (0 : Int32) h2) else (retZ (1 : Int32) h2))
set_option maxHeartbeats 4000000 in
set_option maxRecDepth 100000 in
theorem mX7_has {l : Launch} {g : XG} {h : Hp} {a0 : Nat} {i1 : Int32} {res : Int32 × Hp} (hf : fX7_has h a0 i1 = some res) : XM l g yX7_has wsX7_has 1 20 0 0 [vR a0, vI i1] h (some (vI res.1)) res.2 := by
  refine x_start (cc := cX7_has) (maxL := 2) (ret := (some .boolean)) (by decide) rfl (Nat.le_of_ble_eq_true rfl) (lv := [some (vR a0), some (vI i1)]) rfl ?_
  intro p e s m args below meth c C hr hlk hnm
  unfold fX7_has at hf
  refine x_iload_n C dX7_has_0 (pc' := 1) rfl rfl rfl ?_
  obtain ⟨r1, h2, hq, hf⟩ := call_some hf
  refine x_callS C (As := [vI i1]) (st := []) (r := (some (vI r1))) (h' := h2) (mc := 0) (ms := 0) (k := 0) (n := 0) (mX7_isSlot hq) (va_cwS 1 C.1.2.2.2.2 gX7_has_X7_isSlot rfl rfl rfl (by decide +kernel) ⟨Nat.le_of_ble_eq_true rfl, Nat.le_of_ble_eq_true rfl⟩) rfl rfl (Nat.le_of_ble_eq_true rfl) dX7_has_1 (pc' := 4) rfl ?_
  refine x_if_eq C hf dX7_has_4 (pc' := 7) rfl (tgt := 20) (by decide) (fun _ hf => ?_) (fun _ hf => ?_)
  ·
    refine x_iconst C (v := 0) (by decide) dX7_has_20 (pc' := 21) rfl ?_
    exact x_zret C hf hr hlk dX7_has_21
  ·
    refine x_aload_n C dX7_has_7 (pc' := 8) rfl rfl rfl ?_
    refine x_getR C (ci := 7) (kf := 4) rfl (by decide) hinX7_has_X7 lkX7_has_0 rfl hf dX7_has_8 (pc' := 11) rfl (fun v3 _ hf => ?_)
    refine x_iload_n C dX7_has_11 (pc' := 12) rfl rfl rfl ?_
    refine x_iaload C hf dX7_has_12 (pc' := 13) rfl (fun v4 _ hf => ?_)
    refine x_if_le C hf dX7_has_13 (pc' := 16) rfl (tgt := 20) (by decide) (fun _ hf => ?_) (fun _ hf => ?_)
    ·
      refine x_iconst C (v := 0) (by decide) dX7_has_20 (pc' := 21) rfl ?_
      exact x_zret C hf hr hlk dX7_has_21
    ·
      refine x_iconst C (v := 1) (by decide) dX7_has_16 (pc' := 17) rfl ?_
      refine x_goto C dX7_has_17 (tgt := 21) (by decide) ?_
      exact x_zret C hf hr hlk dX7_has_21
-- ===== X7_power
def fX7_power_w4 : Nat → Int32 → Int32 → Int32 → Int32 → Hp → Option (Int32 × Hp)
  | 0 => fun _ _ _ _ _ => none
  | n + 1 => fun i0 i1 i2 i3 h => if i1 ≤ i3 then (some (i2, h)) else (setv ((i2 * i0)) fun v1 => (fX7_power_w4 n) i0 i1 v1 (i3 + 1) h)
set_option maxHeartbeats 4000000 in
set_option maxRecDepth 100000 in
theorem mX7_power_w4 {g : XG} {p : Program} {l : Launch} {e : Env} {s : State} {m : MethodId} {args : Array Value} {below : List Frame} {meth : Method} {c : Code} (C : x_C g p s m args c cX7_power RX7 4 wsX7_power) (hr : meth.sig.returnType = (some .int)) (hlk : meth.locks = false) (hnm : meth.name = yX7_power.name) {res : Int32 × Hp} : ∀ (n : Nat) (i0 : Int32) (i1 : Int32) (i2 : Int32) (i3 : Int32) (h : Hp), fX7_power_w4 n i0 i1 i2 i3 h = some res → XW g p l e { frames := 0, cells := 0, slots := 0, locals := 0 } s m args below meth c (MQ below (x_Q g (some (vI res.1)) res.2) args s 0 0 (x_A g)) 4 0 0 h 4 [some (vI i0), some (vI i1), some (vI i2), some (vI i3)] [] := by
  intro n
  induction n with
  | zero =>
    intro i0 i1 i2 i3 h hf
    have hf2 : (none : Option (Int32 × Hp)) = some res := hf
    cases hf2
  | succ n ih =>
    intro i0 i1 i2 i3 h hf
    rw [fX7_power_w4] at hf
    refine x_iload_n C dX7_power_4 (pc' := 5) rfl rfl rfl ?_
    refine x_iload_n C dX7_power_5 (pc' := 6) rfl rfl rfl ?_
    refine x_icmp_ge C hf dX7_power_6 (pc' := 9) rfl (tgt := 19) (by decide) (fun _ hf => ?_) (fun _ hf => ?_)
    ·
      refine x_iload_n C dX7_power_19 (pc' := 20) rfl rfl rfl ?_
      cases hf
      exact x_iret C hr hlk dX7_power_20
    ·
      refine x_iload_n C dX7_power_9 (pc' := 10) rfl rfl rfl ?_
      refine x_iload_n C dX7_power_10 (pc' := 11) rfl rfl rfl ?_
      refine x_imul C dX7_power_11 (pc' := 12) rfl ?_
      refine x_nameI hf (fun v1 _ hf => ?_)
      refine x_istore_n C dX7_power_12 (pc' := 13) rfl rfl (by decide) rfl (lv' := [some (vI i0), some (vI i1), some (vI v1), some (vI i3)]) rfl ?_
      refine x_iinc C dX7_power_13 (pc' := 16) rfl rfl (v := (i3 + 1)) rfl (by decide) rfl (lv' := [some (vI i0), some (vI i1), some (vI v1), some (vI (i3 + 1))]) rfl ?_
      refine x_goto C dX7_power_16 (tgt := 4) (by decide) ?_
      exact ih i0 i1 v1 (i3 + 1) h hf
def fX7_power (h : Hp) (i0 : Int32) (i1 : Int32) : Option (Int32 × Hp) := fX7_power_w4 FUEL i0 i1 (1 : Int32) (0 : Int32) h
set_option maxHeartbeats 4000000 in
set_option maxRecDepth 100000 in
theorem mX7_power {l : Launch} {g : XG} {h : Hp} {i0 : Int32} {i1 : Int32} {res : Int32 × Hp} (hf : fX7_power h i0 i1 = some res) : XM l g yX7_power wsX7_power 0 0 0 0 [vI i0, vI i1] h (some (vI res.1)) res.2 := by
  refine x_start (cc := cX7_power) (maxL := 4) (ret := (some .int)) (by decide) rfl (Nat.le_of_ble_eq_true rfl) (lv := [some (vI i0), some (vI i1), none, none]) rfl ?_
  intro p e s m args below meth c C hr hlk hnm
  unfold fX7_power at hf
  refine x_iconst C (v := 1) (by decide) dX7_power_0 (pc' := 1) rfl ?_
  refine x_istore_n C dX7_power_1 (pc' := 2) rfl rfl (by decide) rfl (lv' := [some (vI i0), some (vI i1), some (vI (1 : Int32)), none]) rfl ?_
  refine x_iconst C (v := 0) (by decide) dX7_power_2 (pc' := 3) rfl ?_
  refine x_istore_n C dX7_power_3 (pc' := 4) rfl rfl (by decide) rfl (lv' := [some (vI i0), some (vI i1), some (vI (1 : Int32)), some (vI (0 : Int32))]) rfl ?_
  refine x_more (k' := 0) (n' := 0) (Nat.le_of_ble_eq_true rfl) (Nat.le_of_ble_eq_true rfl) ?_
  exact mX7_power_w4 C hr hlk hnm FUEL i0 i1 (1 : Int32) (0 : Int32) h hf
-- ===== X7_widest
def fX7_widest (h : Hp) (i0 : Int32) : Option (Int32 × Hp) := if i0 = (2 : Int32) then (some ((4 : Int32), h)) else (if i0 = (3 : Int32) then (some ((3 : Int32), h)) else (some ((2 : Int32), h)))
set_option maxHeartbeats 4000000 in
set_option maxRecDepth 100000 in
theorem mX7_widest {l : Launch} {g : XG} {h : Hp} {i0 : Int32} {res : Int32 × Hp} (hf : fX7_widest h i0 = some res) : XM l g yX7_widest wsX7_widest 0 0 0 0 [vI i0] h (some (vI res.1)) res.2 := by
  refine x_start (cc := cX7_widest) (maxL := 1) (ret := (some .int)) (by decide) rfl (Nat.le_of_ble_eq_true rfl) (lv := [some (vI i0)]) rfl ?_
  intro p e s m args below meth c C hr hlk hnm
  unfold fX7_widest at hf
  refine x_iload_n C dX7_widest_0 (pc' := 1) rfl rfl rfl ?_
  refine x_iconst C (v := 2) (by decide) dX7_widest_1 (pc' := 2) rfl ?_
  refine x_icmp_ne C hf dX7_widest_2 (pc' := 5) rfl (tgt := 9) (by decide) (fun _ hf => ?_) (fun _ hf => ?_)
  ·
    refine x_iconst C (v := 4) (by decide) dX7_widest_5 (pc' := 6) rfl ?_
    refine x_goto C dX7_widest_6 (tgt := 19) (by decide) ?_
    cases hf
    exact x_iret C hr hlk dX7_widest_19
  ·
    refine x_iload_n C dX7_widest_9 (pc' := 10) rfl rfl rfl ?_
    refine x_iconst C (v := 3) (by decide) dX7_widest_10 (pc' := 11) rfl ?_
    refine x_icmp_ne C hf dX7_widest_11 (pc' := 14) rfl (tgt := 18) (by decide) (fun _ hf => ?_) (fun _ hf => ?_)
    ·
      refine x_iconst C (v := 3) (by decide) dX7_widest_14 (pc' := 15) rfl ?_
      refine x_goto C dX7_widest_15 (tgt := 19) (by decide) ?_
      cases hf
      exact x_iret C hr hlk dX7_widest_19
    ·
      refine x_iconst C (v := 2) (by decide) dX7_widest_18 (pc' := 19) rfl ?_
      cases hf
      exact x_iret C hr hlk dX7_widest_19
-- ===== X7_lay
theorem lkX7_lay_0 : Cond.fieldLink RX7 13 "MossRingsModel" "states" "[I" ∈ wsX7_lay := by decide +kernel
theorem hinX7_lay_X7 : ∀ w ∈ u_ws RX7 TX7 27, w ∈ wsX7_lay := by decide +kernel
theorem lkX7_lay_1 : Cond.fieldLink RX7 17 "MossRingsModel" "widths" "[I" ∈ wsX7_lay := by decide +kernel
theorem lkX7_lay_2 : Cond.fieldLink RX7 20 "MossRingsModel" "table" "[I" ∈ wsX7_lay := by decide +kernel
def fX7_lay_b42 (a0 : Nat) (i1 : Int32) (i2 : Int32) (i3 : Int32) (h : Hp) : Option (Hp) := (gR h a0 7 4).bind fun v1 => (sI h v1 0 i1 i2).bind fun h2 => (gR h2 a0 7 5).bind fun v3 => (sI h2 v3 0 i1 i3).bind fun h4 => some h4
set_option maxHeartbeats 4000000 in
set_option maxRecDepth 100000 in
theorem mX7_lay_b42 {g : XG} {p : Program} {l : Launch} {e : Env} {s : State} {m : MethodId} {args : Array Value} {below : List Frame} {meth : Method} {c : Code} (C : x_C g p s m args c cX7_lay RX7 5 wsX7_lay) (hr : meth.sig.returnType = none) (hlk : meth.locks = false) (hnm : meth.name = yX7_lay.name) {res : Hp} (a0 : Nat) (i1 : Int32) (i2 : Int32) (i3 : Int32) (h : Hp) (hf : fX7_lay_b42 a0 i1 i2 i3 h = some res) : XW g p l e { frames := 1, cells := 0, slots := 0, locals := 23 } s m args below meth c (MQ below (x_Q g none res) args s 0 0 (x_A g)) 5 0 0 h 42 [some (vR a0), some (vI i1), some (vI i2), some (vI i3), none] [] := by
  unfold fX7_lay_b42 at hf
  refine x_aload_n C dX7_lay_42 (pc' := 43) rfl rfl rfl ?_
  refine x_getR C (ci := 7) (kf := 4) rfl (by decide) hinX7_lay_X7 lkX7_lay_0 rfl hf dX7_lay_43 (pc' := 46) rfl (fun v1 _ hf => ?_)
  refine x_iload_n C dX7_lay_46 (pc' := 47) rfl rfl rfl ?_
  refine x_iload_n C dX7_lay_47 (pc' := 48) rfl rfl rfl ?_
  refine x_iastore C hf dX7_lay_48 (pc' := 49) rfl (fun h2 _ hf => ?_)
  refine x_aload_n C dX7_lay_49 (pc' := 50) rfl rfl rfl ?_
  refine x_getR C (ci := 7) (kf := 5) rfl (by decide) hinX7_lay_X7 lkX7_lay_1 rfl hf dX7_lay_50 (pc' := 53) rfl (fun v3 _ hf => ?_)
  refine x_iload_n C dX7_lay_53 (pc' := 54) rfl rfl rfl ?_
  refine x_iload_n C dX7_lay_54 (pc' := 55) rfl rfl rfl ?_
  refine x_iastore C hf dX7_lay_55 (pc' := 56) rfl (fun h4 _ hf => ?_)
  cases hf
  exact x_vret C hr hlk dX7_lay_56
def fX7_lay_w3 : Nat → Nat → Int32 → Int32 → Int32 → Int32 → Hp → Option (Hp)
  | 0 => fun _ _ _ _ _ _ => none
  | n + 1 => fun a0 i1 i2 i3 i4 h => call (fX7_power h i2 i3) fun r1 h2 => if r1 ≤ i4 then (fX7_lay_b42 a0 i1 i2 i3 h2) else ((gR h2 a0 7 6).bind fun v3 => (gR h2 a0 7 6).bind fun v4 => (aI h2 v4 0 ((162 : Int32) + i4)).bind fun v5 => (sI h2 v3 0 (((27 : Int32) * i1) + i4) v5).bind fun h6 => (fX7_lay_w3 n) a0 i1 i2 i3 (i4 + 1) h6)
set_option maxHeartbeats 4000000 in
set_option maxRecDepth 100000 in
theorem mX7_lay_w3 {g : XG} {p : Program} {l : Launch} {e : Env} {s : State} {m : MethodId} {args : Array Value} {below : List Frame} {meth : Method} {c : Code} (C : x_C g p s m args c cX7_lay RX7 5 wsX7_lay) (hr : meth.sig.returnType = none) (hlk : meth.locks = false) (hnm : meth.name = yX7_lay.name) {res : Hp} : ∀ (n : Nat) (a0 : Nat) (i1 : Int32) (i2 : Int32) (i3 : Int32) (i4 : Int32) (h : Hp), fX7_lay_w3 n a0 i1 i2 i3 i4 h = some res → XW g p l e { frames := 1, cells := 0, slots := 0, locals := 23 } s m args below meth c (MQ below (x_Q g none res) args s 0 0 (x_A g)) 5 0 0 h 3 [some (vR a0), some (vI i1), some (vI i2), some (vI i3), some (vI i4)] [] := by
  intro n
  induction n with
  | zero =>
    intro a0 i1 i2 i3 i4 h hf
    have hf2 : (none : Option (Hp)) = some res := hf
    cases hf2
  | succ n ih =>
    intro a0 i1 i2 i3 i4 h hf
    rw [fX7_lay_w3] at hf
    refine x_iload C dX7_lay_3 (pc' := 5) rfl rfl ?_
    refine x_iload_n C dX7_lay_5 (pc' := 6) rfl rfl rfl ?_
    refine x_iload_n C dX7_lay_6 (pc' := 7) rfl rfl rfl ?_
    obtain ⟨r1, h2, hq, hf⟩ := call_some hf
    refine x_callS C (As := [vI i2, vI i3]) (st := [vI i4]) (r := (some (vI r1))) (h' := h2) (mc := 0) (ms := 0) (k := 0) (n := 0) (mX7_power hq) (va_cwS 2 C.1.2.2.2.2 gX7_lay_X7_power rfl rfl rfl (by decide +kernel) ⟨Nat.le_of_ble_eq_true rfl, Nat.le_of_ble_eq_true rfl⟩) rfl rfl (Nat.le_of_ble_eq_true rfl) dX7_lay_7 (pc' := 10) rfl ?_
    refine x_icmp_ge C hf dX7_lay_10 (pc' := 13) rfl (tgt := 42) (by decide) (fun _ hf => ?_) (fun _ hf => ?_)
    ·
      refine x_keep [true, true, true, true, false] rfl ?_
      refine x_more (k' := 0) (n' := 0) (Nat.le_of_ble_eq_true rfl) (Nat.le_of_ble_eq_true rfl) ?_
      exact mX7_lay_b42 C hr hlk hnm a0 i1 i2 i3 h2 hf
    ·
      refine x_aload_n C dX7_lay_13 (pc' := 14) rfl rfl rfl ?_
      refine x_getR C (ci := 7) (kf := 6) rfl (by decide) hinX7_lay_X7 lkX7_lay_2 rfl hf dX7_lay_14 (pc' := 17) rfl (fun v3 _ hf => ?_)
      refine x_bipush C (v := 27) (by decide) dX7_lay_17 (pc' := 19) rfl ?_
      refine x_iload_n C dX7_lay_19 (pc' := 20) rfl rfl rfl ?_
      refine x_imul C dX7_lay_20 (pc' := 21) rfl ?_
      refine x_iload C dX7_lay_21 (pc' := 23) rfl rfl ?_
      refine x_iadd C dX7_lay_23 (pc' := 24) rfl ?_
      refine x_aload_n C dX7_lay_24 (pc' := 25) rfl rfl rfl ?_
      refine x_getR C (ci := 7) (kf := 6) rfl (by decide) hinX7_lay_X7 lkX7_lay_2 rfl hf dX7_lay_25 (pc' := 28) rfl (fun v4 _ hf => ?_)
      refine x_sipush C (v := 162) (by decide) dX7_lay_28 (pc' := 31) rfl ?_
      refine x_iload C dX7_lay_31 (pc' := 33) rfl rfl ?_
      refine x_iadd C dX7_lay_33 (pc' := 34) rfl ?_
      refine x_iaload C hf dX7_lay_34 (pc' := 35) rfl (fun v5 _ hf => ?_)
      refine x_iastore C hf dX7_lay_35 (pc' := 36) rfl (fun h6 _ hf => ?_)
      refine x_iinc C dX7_lay_36 (pc' := 39) rfl rfl (v := (i4 + 1)) rfl (by decide) rfl (lv' := [some (vR a0), some (vI i1), some (vI i2), some (vI i3), some (vI (i4 + 1))]) rfl ?_
      refine x_goto C dX7_lay_39 (tgt := 3) (by decide) ?_
      exact ih a0 i1 i2 i3 (i4 + 1) h6 hf
def fX7_lay (h : Hp) (a0 : Nat) (i1 : Int32) (i2 : Int32) (i3 : Int32) : Option (Hp) := fX7_lay_w3 FUEL a0 i1 i2 i3 (0 : Int32) h
set_option maxHeartbeats 4000000 in
set_option maxRecDepth 100000 in
theorem mX7_lay {l : Launch} {g : XG} {h : Hp} {a0 : Nat} {i1 : Int32} {i2 : Int32} {i3 : Int32} {res : Hp} (hf : fX7_lay h a0 i1 i2 i3 = some res) : XM l g yX7_lay wsX7_lay 1 23 0 0 [vR a0, vI i1, vI i2, vI i3] h none res := by
  refine x_start (cc := cX7_lay) (maxL := 5) (ret := none) (by decide) rfl (Nat.le_of_ble_eq_true rfl) (lv := [some (vR a0), some (vI i1), some (vI i2), some (vI i3), none]) rfl ?_
  intro p e s m args below meth c C hr hlk hnm
  unfold fX7_lay at hf
  refine x_iconst C (v := 0) (by decide) dX7_lay_0 (pc' := 1) rfl ?_
  refine x_istore C dX7_lay_1 (pc' := 3) rfl (by decide) rfl (lv' := [some (vR a0), some (vI i1), some (vI i2), some (vI i3), some (vI (0 : Int32))]) rfl ?_
  refine x_more (k' := 0) (n' := 0) (Nat.le_of_ble_eq_true rfl) (Nat.le_of_ble_eq_true rfl) ?_
  exact mX7_lay_w3 C hr hlk hnm FUEL a0 i1 i2 i3 (0 : Int32) h hf
-- ===== X7_rule
theorem lkX7_rule_0 : Cond.fieldLink RX7 91 "MossRingsModel" "size" "I" ∈ wsX7_rule := by decide +kernel
theorem hinX7_rule_X7 : ∀ w ∈ u_ws RX7 TX7 27, w ∈ wsX7_rule := by decide +kernel
theorem lkX7_rule_1 : Cond.fieldLink RX7 7 "MossRingsModel" "tape" "[B" ∈ wsX7_rule := by decide +kernel
theorem lkX7_rule_2 : Cond.fieldLink RX7 20 "MossRingsModel" "table" "[I" ∈ wsX7_rule := by decide +kernel
theorem lkX7_rule_3 : Cond.fieldLink RX7 80 "MossRingsModel" "thrown" "I" ∈ wsX7_rule := by decide +kernel
def fX7_rule_b112 (a0 : Nat) (i1 : Int32) (i2 : Int32) (i3 : Int32) (h : Hp) : Option (Int32 × Hp) := (oK h a0 7 (fX7_lay h a0 i1 i2 i3)).bind fun h2 => retZ (1 : Int32) h2
set_option maxHeartbeats 4000000 in
set_option maxRecDepth 100000 in
theorem mX7_rule_b112 {g : XG} {p : Program} {l : Launch} {e : Env} {s : State} {m : MethodId} {args : Array Value} {below : List Frame} {meth : Method} {c : Code} (C : x_C g p s m args c cX7_rule RX7 5 wsX7_rule) (hr : meth.sig.returnType = (some .boolean)) (hlk : meth.locks = false) (hnm : meth.name = yX7_rule.name) {res : Int32 × Hp} (a0 : Nat) (i1 : Int32) (i2 : Int32) (i3 : Int32) (h : Hp) (hf : fX7_rule_b112 a0 i1 i2 i3 h = some res) : XW g p l e { frames := 2, cells := 0, slots := 0, locals := 47 } s m args below meth c (MQ below (x_Q g (some (vI res.1)) res.2) args s 0 0 (x_A g)) 5 0 0 h 112 [some (vR a0), some (vI i1), some (vI i2), some (vI i3), none] [] := by
  unfold fX7_rule_b112 at hf
  refine x_aload_n C dX7_rule_112 (pc' := 113) rfl rfl rfl ?_
  refine x_iload_n C dX7_rule_113 (pc' := 114) rfl rfl rfl ?_
  refine x_iload_n C dX7_rule_114 (pc' := 115) rfl rfl rfl ?_
  refine x_iload_n C dX7_rule_115 (pc' := 116) rfl rfl rfl ?_
  obtain ⟨h2, hq, hf⟩ := bind_some hf
  obtain ⟨hob, hq⟩ := oK_some hq
  refine x_callV C (As := [vI i1, vI i2, vI i3]) (st := []) (r := none) (h' := h2) (mc := 0) (ms := 0) (k := 0) (n := 0) (mX7_lay hq) hob (ci := 7) rfl (cwV 3 C.1.2.2.2.2 gX7_rule_X7_lay rfl rfl rfl (by decide +kernel) ⟨Nat.le_of_ble_eq_true rfl, Nat.le_of_ble_eq_true rfl⟩) rfl rfl (Nat.le_of_ble_eq_true rfl) dX7_rule_116 (pc' := 119) rfl ?_
  refine x_iconst C (v := 1) (by decide) dX7_rule_119 (pc' := 120) rfl ?_
  exact x_zret C hf hr hlk dX7_rule_120
def fX7_rule_w56 : Nat → Nat → Int32 → Int32 → Int32 → Int32 → Hp → Option (Int32 × Hp)
  | 0 => fun _ _ _ _ _ _ => none
  | n + 1 => fun a0 i1 i2 i3 i4 h => (gI h a0 7 3).bind fun v1 => if v1 ≤ i4 then (fX7_rule_b112 a0 i1 i2 i3 h) else ((gR h a0 7 1).bind fun v2 => (aI h v2 1 i4).bind fun v3 => if v3 < 0 then (retZ (0 : Int32) h) else ((gR h a0 7 1).bind fun v4 => (aI h v4 1 i4).bind fun v5 => if v5 < i2 then ((gR h a0 7 6).bind fun v6 => (gR h a0 7 1).bind fun v7 => (aI h v7 1 i4).bind fun v8 => (sI h v6 0 ((162 : Int32) + i4) v8).bind fun h9 => (fX7_rule_w56 n) a0 i1 i2 i3 (i4 + 1) h9) else (retZ (0 : Int32) h)))
set_option maxHeartbeats 4000000 in
set_option maxRecDepth 100000 in
theorem mX7_rule_w56 {g : XG} {p : Program} {l : Launch} {e : Env} {s : State} {m : MethodId} {args : Array Value} {below : List Frame} {meth : Method} {c : Code} (C : x_C g p s m args c cX7_rule RX7 5 wsX7_rule) (hr : meth.sig.returnType = (some .boolean)) (hlk : meth.locks = false) (hnm : meth.name = yX7_rule.name) {res : Int32 × Hp} : ∀ (n : Nat) (a0 : Nat) (i1 : Int32) (i2 : Int32) (i3 : Int32) (i4 : Int32) (h : Hp), fX7_rule_w56 n a0 i1 i2 i3 i4 h = some res → XW g p l e { frames := 2, cells := 0, slots := 0, locals := 47 } s m args below meth c (MQ below (x_Q g (some (vI res.1)) res.2) args s 0 0 (x_A g)) 5 0 0 h 56 [some (vR a0), some (vI i1), some (vI i2), some (vI i3), some (vI i4)] [] := by
  intro n
  induction n with
  | zero =>
    intro a0 i1 i2 i3 i4 h hf
    have hf2 : (none : Option (Int32 × Hp)) = some res := hf
    cases hf2
  | succ n ih =>
    intro a0 i1 i2 i3 i4 h hf
    rw [fX7_rule_w56] at hf
    refine x_iload C dX7_rule_56 (pc' := 58) rfl rfl ?_
    refine x_aload_n C dX7_rule_58 (pc' := 59) rfl rfl rfl ?_
    refine x_getI C (ci := 7) (kf := 3) rfl (by decide) hinX7_rule_X7 lkX7_rule_0 rfl hf dX7_rule_59 (pc' := 62) rfl (fun v1 _ hf => ?_)
    refine x_icmp_ge C hf dX7_rule_62 (pc' := 65) rfl (tgt := 112) (by decide) (fun _ hf => ?_) (fun _ hf => ?_)
    ·
      refine x_keep [true, true, true, true, false] rfl ?_
      refine x_more (k' := 0) (n' := 0) (Nat.le_of_ble_eq_true rfl) (Nat.le_of_ble_eq_true rfl) ?_
      exact mX7_rule_b112 C hr hlk hnm a0 i1 i2 i3 h hf
    ·
      refine x_aload_n C dX7_rule_65 (pc' := 66) rfl rfl rfl ?_
      refine x_getR C (ci := 7) (kf := 1) rfl (by decide) hinX7_rule_X7 lkX7_rule_1 rfl hf dX7_rule_66 (pc' := 69) rfl (fun v2 _ hf => ?_)
      refine x_iload C dX7_rule_69 (pc' := 71) rfl rfl ?_
      refine x_baloadB C hf dX7_rule_71 (pc' := 72) rfl (fun v3 _ hf => ?_)
      refine x_if_lt C hf dX7_rule_72 (pc' := 75) rfl (tgt := 86) (by decide) (fun _ hf => ?_) (fun _ hf => ?_)
      ·
        refine x_iconst C (v := 0) (by decide) dX7_rule_86 (pc' := 87) rfl ?_
        exact x_zret C hf hr hlk dX7_rule_87
      ·
        refine x_aload_n C dX7_rule_75 (pc' := 76) rfl rfl rfl ?_
        refine x_getR C (ci := 7) (kf := 1) rfl (by decide) hinX7_rule_X7 lkX7_rule_1 rfl hf dX7_rule_76 (pc' := 79) rfl (fun v4 _ hf => ?_)
        refine x_iload C dX7_rule_79 (pc' := 81) rfl rfl ?_
        refine x_baloadB C hf dX7_rule_81 (pc' := 82) rfl (fun v5 _ hf => ?_)
        refine x_iload_n C dX7_rule_82 (pc' := 83) rfl rfl rfl ?_
        refine x_icmp_lt C hf dX7_rule_83 (pc' := 86) rfl (tgt := 88) (by decide) (fun _ hf => ?_) (fun _ hf => ?_)
        ·
          refine x_aload_n C dX7_rule_88 (pc' := 89) rfl rfl rfl ?_
          refine x_getR C (ci := 7) (kf := 6) rfl (by decide) hinX7_rule_X7 lkX7_rule_2 rfl hf dX7_rule_89 (pc' := 92) rfl (fun v6 _ hf => ?_)
          refine x_sipush C (v := 162) (by decide) dX7_rule_92 (pc' := 95) rfl ?_
          refine x_iload C dX7_rule_95 (pc' := 97) rfl rfl ?_
          refine x_iadd C dX7_rule_97 (pc' := 98) rfl ?_
          refine x_aload_n C dX7_rule_98 (pc' := 99) rfl rfl rfl ?_
          refine x_getR C (ci := 7) (kf := 1) rfl (by decide) hinX7_rule_X7 lkX7_rule_1 rfl hf dX7_rule_99 (pc' := 102) rfl (fun v7 _ hf => ?_)
          refine x_iload C dX7_rule_102 (pc' := 104) rfl rfl ?_
          refine x_baloadB C hf dX7_rule_104 (pc' := 105) rfl (fun v8 _ hf => ?_)
          refine x_iastore C hf dX7_rule_105 (pc' := 106) rfl (fun h9 _ hf => ?_)
          refine x_iinc C dX7_rule_106 (pc' := 109) rfl rfl (v := (i4 + 1)) rfl (by decide) rfl (lv' := [some (vR a0), some (vI i1), some (vI i2), some (vI i3), some (vI (i4 + 1))]) rfl ?_
          refine x_goto C dX7_rule_109 (tgt := 56) (by decide) ?_
          exact ih a0 i1 i2 i3 (i4 + 1) h9 hf
        ·
          refine x_iconst C (v := 0) (by decide) dX7_rule_86 (pc' := 87) rfl ?_
          exact x_zret C hf hr hlk dX7_rule_87
def fX7_rule (h : Hp) (a0 : Nat) (i1 : Int32) (i2 : Int32) (i3 : Int32) : Option (Int32 × Hp) := (pF h a0 7 0 (vI (0 : Int32))).bind fun h1 => (oK h1 a0 7 (fX7_taken h1 a0)).bind fun h3 => call (fX7_isSlot h3 i1) fun r4 h5 => if r4 = 0 then (retZ (0 : Int32) h5) else (if i2 < (2 : Int32) then (retZ (0 : Int32) h5) else (if (4 : Int32) < i2 then (retZ (0 : Int32) h5) else (if i3 < (1 : Int32) then (retZ (0 : Int32) h5) else (call (fX7_widest h5 i2) fun r6 h7 => if r6 < i3 then (retZ (0 : Int32) h7) else ((gI h7 a0 7 3).bind fun v8 => call (fX7_power h7 i2 i3) fun r9 h10 => if v8 = r9 then (fX7_rule_w56 FUEL a0 i1 i2 i3 (0 : Int32) h10) else (retZ (0 : Int32) h10))))))
set_option maxHeartbeats 4000000 in
set_option maxRecDepth 100000 in
theorem mX7_rule {l : Launch} {g : XG} {h : Hp} {a0 : Nat} {i1 : Int32} {i2 : Int32} {i3 : Int32} {res : Int32 × Hp} (hf : fX7_rule h a0 i1 i2 i3 = some res) : XM l g yX7_rule wsX7_rule 2 47 0 0 [vR a0, vI i1, vI i2, vI i3] h (some (vI res.1)) res.2 := by
  refine x_start (cc := cX7_rule) (maxL := 5) (ret := (some .boolean)) (by decide) rfl (Nat.le_of_ble_eq_true rfl) (lv := [some (vR a0), some (vI i1), some (vI i2), some (vI i3), none]) rfl ?_
  intro p e s m args below meth c C hr hlk hnm
  unfold fX7_rule at hf
  refine x_aload_n C dX7_rule_0 (pc' := 1) rfl rfl rfl ?_
  refine x_iconst C (v := 0) (by decide) dX7_rule_1 (pc' := 2) rfl ?_
  refine x_put C (ci := 7) (kf := 0) rfl (by decide) hinX7_rule_X7 tyX7 tyX7_ok nmX7 lkX7_rule_3 rfl (Or.inl rfl) rfl hf dX7_rule_2 (pc' := 5) rfl (fun h1 _ hf => ?_)
  refine x_aload_n C dX7_rule_5 (pc' := 6) rfl rfl rfl ?_
  obtain ⟨h3, hq, hf⟩ := bind_some hf
  obtain ⟨hob, hq⟩ := oK_some hq
  refine x_callV C (As := []) (st := []) (r := none) (h' := h3) (mc := 0) (ms := 0) (k := 0) (n := 0) (mX7_taken hq) hob (ci := 7) rfl (cwV 0 C.1.2.2.2.2 gX7_rule_X7_taken rfl rfl rfl (by decide +kernel) ⟨Nat.le_of_ble_eq_true rfl, Nat.le_of_ble_eq_true rfl⟩) rfl rfl (Nat.le_of_ble_eq_true rfl) dX7_rule_6 (pc' := 9) rfl ?_
  refine x_iload_n C dX7_rule_9 (pc' := 10) rfl rfl rfl ?_
  obtain ⟨r4, h5, hq, hf⟩ := call_some hf
  refine x_callS C (As := [vI i1]) (st := []) (r := (some (vI r4))) (h' := h5) (mc := 0) (ms := 0) (k := 0) (n := 0) (mX7_isSlot hq) (va_cwS 1 C.1.2.2.2.2 gX7_rule_X7_isSlot rfl rfl rfl (by decide +kernel) ⟨Nat.le_of_ble_eq_true rfl, Nat.le_of_ble_eq_true rfl⟩) rfl rfl (Nat.le_of_ble_eq_true rfl) dX7_rule_10 (pc' := 13) rfl ?_
  refine x_if_eq C hf dX7_rule_13 (pc' := 16) rfl (tgt := 51) (by decide) (fun _ hf => ?_) (fun _ hf => ?_)
  ·
    refine x_iconst C (v := 0) (by decide) dX7_rule_51 (pc' := 52) rfl ?_
    exact x_zret C hf hr hlk dX7_rule_52
  ·
    refine x_iload_n C dX7_rule_16 (pc' := 17) rfl rfl rfl ?_
    refine x_iconst C (v := 2) (by decide) dX7_rule_17 (pc' := 18) rfl ?_
    refine x_icmp_lt C hf dX7_rule_18 (pc' := 21) rfl (tgt := 51) (by decide) (fun _ hf => ?_) (fun _ hf => ?_)
    ·
      refine x_iconst C (v := 0) (by decide) dX7_rule_51 (pc' := 52) rfl ?_
      exact x_zret C hf hr hlk dX7_rule_52
    ·
      refine x_iload_n C dX7_rule_21 (pc' := 22) rfl rfl rfl ?_
      refine x_iconst C (v := 4) (by decide) dX7_rule_22 (pc' := 23) rfl ?_
      refine x_icmp_gt C hf dX7_rule_23 (pc' := 26) rfl (tgt := 51) (by decide) (fun _ hf => ?_) (fun _ hf => ?_)
      ·
        refine x_iconst C (v := 0) (by decide) dX7_rule_51 (pc' := 52) rfl ?_
        exact x_zret C hf hr hlk dX7_rule_52
      ·
        refine x_iload_n C dX7_rule_26 (pc' := 27) rfl rfl rfl ?_
        refine x_iconst C (v := 1) (by decide) dX7_rule_27 (pc' := 28) rfl ?_
        refine x_icmp_lt C hf dX7_rule_28 (pc' := 31) rfl (tgt := 51) (by decide) (fun _ hf => ?_) (fun _ hf => ?_)
        ·
          refine x_iconst C (v := 0) (by decide) dX7_rule_51 (pc' := 52) rfl ?_
          exact x_zret C hf hr hlk dX7_rule_52
        ·
          refine x_iload_n C dX7_rule_31 (pc' := 32) rfl rfl rfl ?_
          refine x_iload_n C dX7_rule_32 (pc' := 33) rfl rfl rfl ?_
          obtain ⟨r6, h7, hq, hf⟩ := call_some hf
          refine x_callS C (As := [vI i2]) (st := [vI i3]) (r := (some (vI r6))) (h' := h7) (mc := 0) (ms := 0) (k := 0) (n := 0) (mX7_widest hq) (va_cwS 1 C.1.2.2.2.2 gX7_rule_X7_widest rfl rfl rfl (by decide +kernel) ⟨Nat.le_of_ble_eq_true rfl, Nat.le_of_ble_eq_true rfl⟩) rfl rfl (Nat.le_of_ble_eq_true rfl) dX7_rule_33 (pc' := 36) rfl ?_
          refine x_icmp_gt C hf dX7_rule_36 (pc' := 39) rfl (tgt := 51) (by decide) (fun _ hf => ?_) (fun _ hf => ?_)
          ·
            refine x_iconst C (v := 0) (by decide) dX7_rule_51 (pc' := 52) rfl ?_
            exact x_zret C hf hr hlk dX7_rule_52
          ·
            refine x_aload_n C dX7_rule_39 (pc' := 40) rfl rfl rfl ?_
            refine x_getI C (ci := 7) (kf := 3) rfl (by decide) hinX7_rule_X7 lkX7_rule_0 rfl hf dX7_rule_40 (pc' := 43) rfl (fun v8 _ hf => ?_)
            refine x_iload_n C dX7_rule_43 (pc' := 44) rfl rfl rfl ?_
            refine x_iload_n C dX7_rule_44 (pc' := 45) rfl rfl rfl ?_
            obtain ⟨r9, h10, hq, hf⟩ := call_some hf
            refine x_callS C (As := [vI i2, vI i3]) (st := [vI v8]) (r := (some (vI r9))) (h' := h10) (mc := 0) (ms := 0) (k := 0) (n := 0) (mX7_power hq) (va_cwS 2 C.1.2.2.2.2 gX7_rule_X7_power rfl rfl rfl (by decide +kernel) ⟨Nat.le_of_ble_eq_true rfl, Nat.le_of_ble_eq_true rfl⟩) rfl rfl (Nat.le_of_ble_eq_true rfl) dX7_rule_45 (pc' := 48) rfl ?_
            refine x_icmp_eq C hf dX7_rule_48 (pc' := 51) rfl (tgt := 53) (by decide) (fun _ hf => ?_) (fun _ hf => ?_)
            ·
              refine x_iconst C (v := 0) (by decide) dX7_rule_53 (pc' := 54) rfl ?_
              refine x_istore C dX7_rule_54 (pc' := 56) rfl (by decide) rfl (lv' := [some (vR a0), some (vI i1), some (vI i2), some (vI i3), some (vI (0 : Int32))]) rfl ?_
              refine x_more (k' := 0) (n' := 0) (Nat.le_of_ble_eq_true rfl) (Nat.le_of_ble_eq_true rfl) ?_
              exact mX7_rule_w56 C hr hlk hnm FUEL a0 i1 i2 i3 (0 : Int32) h10 hf
            ·
              refine x_iconst C (v := 0) (by decide) dX7_rule_51 (pc' := 52) rfl ?_
              exact x_zret C hf hr hlk dX7_rule_52
-- ===== X7_tells
theorem lkX7_tells_0 : Cond.fieldLink RX7 20 "MossRingsModel" "table" "[I" ∈ wsX7_tells := by decide +kernel
theorem hinX7_tells_X7 : ∀ w ∈ u_ws RX7 TX7 27, w ∈ wsX7_tells := by decide +kernel
def fX7_tells (h : Hp) (a0 : Nat) (i1 : Int32) (i2 : Int32) : Option (Int32 × Hp) := (gR h a0 7 6).bind fun v1 => (aI h v1 0 (((27 : Int32) * i1) + i2)).bind fun v2 => some (v2, h)
set_option maxHeartbeats 4000000 in
set_option maxRecDepth 100000 in
theorem mX7_tells {l : Launch} {g : XG} {h : Hp} {a0 : Nat} {i1 : Int32} {i2 : Int32} {res : Int32 × Hp} (hf : fX7_tells h a0 i1 i2 = some res) : XM l g yX7_tells wsX7_tells 0 0 0 0 [vR a0, vI i1, vI i2] h (some (vI res.1)) res.2 := by
  refine x_start (cc := cX7_tells) (maxL := 3) (ret := (some .int)) (by decide) rfl (Nat.le_of_ble_eq_true rfl) (lv := [some (vR a0), some (vI i1), some (vI i2)]) rfl ?_
  intro p e s m args below meth c C hr hlk hnm
  unfold fX7_tells at hf
  refine x_aload_n C dX7_tells_0 (pc' := 1) rfl rfl rfl ?_
  refine x_getR C (ci := 7) (kf := 6) rfl (by decide) hinX7_tells_X7 lkX7_tells_0 rfl hf dX7_tells_1 (pc' := 4) rfl (fun v1 _ hf => ?_)
  refine x_bipush C (v := 27) (by decide) dX7_tells_4 (pc' := 6) rfl ?_
  refine x_iload_n C dX7_tells_6 (pc' := 7) rfl rfl rfl ?_
  refine x_imul C dX7_tells_7 (pc' := 8) rfl ?_
  refine x_iload_n C dX7_tells_8 (pc' := 9) rfl rfl rfl ?_
  refine x_iadd C dX7_tells_9 (pc' := 10) rfl ?_
  refine x_iaload C hf dX7_tells_10 (pc' := 11) rfl (fun v2 _ hf => ?_)
  cases hf
  exact x_iret C hr hlk dX7_tells_11
-- ===== X7_octet
theorem lkX7_octet_0 : Cond.fieldLink RX7 23 "MossRingsModel" "out" "[B" ∈ wsX7_octet := by decide +kernel
theorem hinX7_octet_X7 : ∀ w ∈ u_ws RX7 TX7 27, w ∈ wsX7_octet := by decide +kernel
theorem lkX7_octet_1 : Cond.fieldLink RX7 113 "MossRingsModel" "outMany" "I" ∈ wsX7_octet := by decide +kernel
def fX7_octet_b18 (a0 : Nat) (i1 : Int32) (s0 : Int32) (s1 : Nat) (h : Hp) : Option (Int32 × Hp) := call (oK h s1 7 (fX7_throwsIf h s1 s0)) fun r1 h2 => if r1 = 0 then ((gR h2 a0 7 7).bind fun v3 => (aI h2 v3 1 i1).bind fun v4 => some (v4, h2)) else (some ((0 : Int32), h2))
set_option maxHeartbeats 4000000 in
set_option maxRecDepth 100000 in
theorem mX7_octet_b18 {g : XG} {p : Program} {l : Launch} {e : Env} {s : State} {m : MethodId} {args : Array Value} {below : List Frame} {meth : Method} {c : Code} (C : x_C g p s m args c cX7_octet RX7 2 wsX7_octet) (hr : meth.sig.returnType = (some .int)) (hlk : meth.locks = false) (hnm : meth.name = yX7_octet.name) {res : Int32 × Hp} (a0 : Nat) (i1 : Int32) (s0 : Int32) (s1 : Nat) (h : Hp) (hf : fX7_octet_b18 a0 i1 s0 s1 h = some res) : XW g p l e { frames := 1, cells := 0, slots := 0, locals := 21 } s m args below meth c (MQ below (x_Q g (some (vI res.1)) res.2) args s 0 0 (x_A g)) 2 0 0 h 18 [some (vR a0), some (vI i1)] [vI s0, vR s1] := by
  unfold fX7_octet_b18 at hf
  obtain ⟨r1, h2, hq, hf⟩ := call_some hf
  obtain ⟨hob, hq⟩ := oK_some hq
  refine x_callV C (As := [vI s0]) (st := []) (r := (some (vI r1))) (h' := h2) (mc := 0) (ms := 0) (k := 0) (n := 0) (mX7_throwsIf hq) hob (ci := 7) rfl (cwV 1 C.1.2.2.2.2 gX7_octet_X7_throwsIf rfl rfl rfl (by decide +kernel) ⟨Nat.le_of_ble_eq_true rfl, Nat.le_of_ble_eq_true rfl⟩) rfl rfl (Nat.le_of_ble_eq_true rfl) dX7_octet_18 (pc' := 21) rfl ?_
  refine x_if_eq C hf dX7_octet_21 (pc' := 24) rfl (tgt := 28) (by decide) (fun _ hf => ?_) (fun _ hf => ?_)
  ·
    refine x_aload_n C dX7_octet_28 (pc' := 29) rfl rfl rfl ?_
    refine x_getR C (ci := 7) (kf := 7) rfl (by decide) hinX7_octet_X7 lkX7_octet_0 rfl hf dX7_octet_29 (pc' := 32) rfl (fun v3 _ hf => ?_)
    refine x_iload_n C dX7_octet_32 (pc' := 33) rfl rfl rfl ?_
    refine x_baloadB C hf dX7_octet_33 (pc' := 34) rfl (fun v4 _ hf => ?_)
    cases hf
    exact x_iret C hr hlk dX7_octet_34
  ·
    refine x_iconst C (v := 0) (by decide) dX7_octet_24 (pc' := 25) rfl ?_
    refine x_goto C dX7_octet_25 (tgt := 34) (by decide) ?_
    cases hf
    exact x_iret C hr hlk dX7_octet_34
def fX7_octet_b13 (a0 : Nat) (i1 : Int32) (s0 : Nat) (h : Hp) : Option (Int32 × Hp) := fX7_octet_b18 a0 i1 (1 : Int32) s0 h
set_option maxHeartbeats 4000000 in
set_option maxRecDepth 100000 in
theorem mX7_octet_b13 {g : XG} {p : Program} {l : Launch} {e : Env} {s : State} {m : MethodId} {args : Array Value} {below : List Frame} {meth : Method} {c : Code} (C : x_C g p s m args c cX7_octet RX7 2 wsX7_octet) (hr : meth.sig.returnType = (some .int)) (hlk : meth.locks = false) (hnm : meth.name = yX7_octet.name) {res : Int32 × Hp} (a0 : Nat) (i1 : Int32) (s0 : Nat) (h : Hp) (hf : fX7_octet_b13 a0 i1 s0 h = some res) : XW g p l e { frames := 1, cells := 0, slots := 0, locals := 21 } s m args below meth c (MQ below (x_Q g (some (vI res.1)) res.2) args s 0 0 (x_A g)) 2 0 0 h 13 [some (vR a0), some (vI i1)] [vR s0] := by
  unfold fX7_octet_b13 at hf
  refine x_iconst C (v := 1) (by decide) dX7_octet_13 (pc' := 14) rfl ?_
  refine x_goto C dX7_octet_14 (tgt := 18) (by decide) ?_
  refine x_more (k' := 0) (n' := 0) (Nat.le_of_ble_eq_true rfl) (Nat.le_of_ble_eq_true rfl) ?_
  exact mX7_octet_b18 C hr hlk hnm a0 i1 (1 : Int32) s0 h hf
def fX7_octet (h : Hp) (a0 : Nat) (i1 : Int32) : Option (Int32 × Hp) := if i1 < 0 then (fX7_octet_b13 a0 i1 a0 h) else ((gI h a0 7 8).bind fun v1 => if i1 < v1 then (fX7_octet_b18 a0 i1 (0 : Int32) a0 h) else (fX7_octet_b13 a0 i1 a0 h))
set_option maxHeartbeats 4000000 in
set_option maxRecDepth 100000 in
theorem mX7_octet {l : Launch} {g : XG} {h : Hp} {a0 : Nat} {i1 : Int32} {res : Int32 × Hp} (hf : fX7_octet h a0 i1 = some res) : XM l g yX7_octet wsX7_octet 1 21 0 0 [vR a0, vI i1] h (some (vI res.1)) res.2 := by
  refine x_start (cc := cX7_octet) (maxL := 2) (ret := (some .int)) (by decide) rfl (Nat.le_of_ble_eq_true rfl) (lv := [some (vR a0), some (vI i1)]) rfl ?_
  intro p e s m args below meth c C hr hlk hnm
  unfold fX7_octet at hf
  refine x_aload_n C dX7_octet_0 (pc' := 1) rfl rfl rfl ?_
  refine x_iload_n C dX7_octet_1 (pc' := 2) rfl rfl rfl ?_
  refine x_if_lt C hf dX7_octet_2 (pc' := 5) rfl (tgt := 13) (by decide) (fun _ hf => ?_) (fun _ hf => ?_)
  ·
    refine x_more (k' := 0) (n' := 0) (Nat.le_of_ble_eq_true rfl) (Nat.le_of_ble_eq_true rfl) ?_
    exact mX7_octet_b13 C hr hlk hnm a0 i1 a0 h hf
  ·
    refine x_iload_n C dX7_octet_5 (pc' := 6) rfl rfl rfl ?_
    refine x_aload_n C dX7_octet_6 (pc' := 7) rfl rfl rfl ?_
    refine x_getI C (ci := 7) (kf := 8) rfl (by decide) hinX7_octet_X7 lkX7_octet_1 rfl hf dX7_octet_7 (pc' := 10) rfl (fun v1 _ hf => ?_)
    refine x_icmp_lt C hf dX7_octet_10 (pc' := 13) rfl (tgt := 17) (by decide) (fun _ hf => ?_) (fun _ hf => ?_)
    ·
      refine x_iconst C (v := 0) (by decide) dX7_octet_17 (pc' := 18) rfl ?_
      refine x_more (k' := 0) (n' := 0) (Nat.le_of_ble_eq_true rfl) (Nat.le_of_ble_eq_true rfl) ?_
      exact mX7_octet_b18 C hr hlk hnm a0 i1 (0 : Int32) a0 h hf
    ·
      refine x_more (k' := 0) (n' := 0) (Nat.le_of_ble_eq_true rfl) (Nat.le_of_ble_eq_true rfl) ?_
      exact mX7_octet_b13 C hr hlk hnm a0 i1 a0 h hf
-- ===== X7_table
theorem lkX7_table_0 : Cond.fieldLink RX7 113 "MossRingsModel" "outMany" "I" ∈ wsX7_table := by decide +kernel
theorem hinX7_table_X7 : ∀ w ∈ u_ws RX7 TX7 27, w ∈ wsX7_table := by decide +kernel
theorem lkX7_table_1 : Cond.fieldLink RX7 23 "MossRingsModel" "out" "[B" ∈ wsX7_table := by decide +kernel
theorem lkX7_table_2 : Cond.fieldLink RX7 80 "MossRingsModel" "thrown" "I" ∈ wsX7_table := by decide +kernel
theorem lkX7_table_3 : Cond.fieldLink RX7 13 "MossRingsModel" "states" "[I" ∈ wsX7_table := by decide +kernel
theorem lkX7_table_4 : Cond.fieldLink RX7 17 "MossRingsModel" "widths" "[I" ∈ wsX7_table := by decide +kernel
def fX7_table_b63 (a0 : Nat) (h : Hp) : Option (Int32 × Hp) := (gI h a0 7 8).bind fun v1 => some (v1, h)
set_option maxHeartbeats 4000000 in
set_option maxRecDepth 100000 in
theorem mX7_table_b63 {g : XG} {p : Program} {l : Launch} {e : Env} {s : State} {m : MethodId} {args : Array Value} {below : List Frame} {meth : Method} {c : Code} (C : x_C g p s m args c cX7_table RX7 3 wsX7_table) (hr : meth.sig.returnType = (some .int)) (hlk : meth.locks = false) (hnm : meth.name = yX7_table.name) {res : Int32 × Hp} (a0 : Nat) (h : Hp) (hf : fX7_table_b63 a0 h = some res) : XW g p l e { frames := 2, cells := 0, slots := 0, locals := 41 } s m args below meth c (MQ below (x_Q g (some (vI res.1)) res.2) args s 0 0 (x_A g)) 3 0 0 h 63 [some (vR a0), none, none] [] := by
  unfold fX7_table_b63 at hf
  refine x_aload_n C dX7_table_63 (pc' := 64) rfl rfl rfl ?_
  refine x_getI C (ci := 7) (kf := 8) rfl (by decide) hinX7_table_X7 lkX7_table_0 rfl hf dX7_table_64 (pc' := 67) rfl (fun v1 _ hf => ?_)
  cases hf
  exact x_iret C hr hlk dX7_table_67
def fX7_table_w36 : Nat → Nat → Int32 → Int32 → Hp → Option (Int32 × Hp)
  | 0 => fun _ _ _ _ => none
  | n + 1 => fun a0 i1 i2 h => (gI h a0 7 8).bind fun v1 => if v1 ≤ i2 then (fX7_table_b63 a0 h) else ((gR h a0 7 7).bind fun v2 => call (oK h a0 7 (fX7_tells h a0 i1 i2)) fun r3 h4 => (sI h4 v2 1 i2 (r3).toInt8.toInt32).bind fun h5 => (fX7_table_w36 n) a0 i1 (i2 + 1) h5)
set_option maxHeartbeats 4000000 in
set_option maxRecDepth 100000 in
theorem mX7_table_w36 {g : XG} {p : Program} {l : Launch} {e : Env} {s : State} {m : MethodId} {args : Array Value} {below : List Frame} {meth : Method} {c : Code} (C : x_C g p s m args c cX7_table RX7 3 wsX7_table) (hr : meth.sig.returnType = (some .int)) (hlk : meth.locks = false) (hnm : meth.name = yX7_table.name) {res : Int32 × Hp} : ∀ (n : Nat) (a0 : Nat) (i1 : Int32) (i2 : Int32) (h : Hp), fX7_table_w36 n a0 i1 i2 h = some res → XW g p l e { frames := 2, cells := 0, slots := 0, locals := 41 } s m args below meth c (MQ below (x_Q g (some (vI res.1)) res.2) args s 0 0 (x_A g)) 3 0 0 h 36 [some (vR a0), some (vI i1), some (vI i2)] [] := by
  intro n
  induction n with
  | zero =>
    intro a0 i1 i2 h hf
    have hf2 : (none : Option (Int32 × Hp)) = some res := hf
    cases hf2
  | succ n ih =>
    intro a0 i1 i2 h hf
    rw [fX7_table_w36] at hf
    refine x_iload_n C dX7_table_36 (pc' := 37) rfl rfl rfl ?_
    refine x_aload_n C dX7_table_37 (pc' := 38) rfl rfl rfl ?_
    refine x_getI C (ci := 7) (kf := 8) rfl (by decide) hinX7_table_X7 lkX7_table_0 rfl hf dX7_table_38 (pc' := 41) rfl (fun v1 _ hf => ?_)
    refine x_icmp_ge C hf dX7_table_41 (pc' := 44) rfl (tgt := 63) (by decide) (fun _ hf => ?_) (fun _ hf => ?_)
    ·
      refine x_keep [true, false, false] rfl ?_
      refine x_more (k' := 0) (n' := 0) (Nat.le_of_ble_eq_true rfl) (Nat.le_of_ble_eq_true rfl) ?_
      exact mX7_table_b63 C hr hlk hnm a0 h hf
    ·
      refine x_aload_n C dX7_table_44 (pc' := 45) rfl rfl rfl ?_
      refine x_getR C (ci := 7) (kf := 7) rfl (by decide) hinX7_table_X7 lkX7_table_1 rfl hf dX7_table_45 (pc' := 48) rfl (fun v2 _ hf => ?_)
      refine x_iload_n C dX7_table_48 (pc' := 49) rfl rfl rfl ?_
      refine x_aload_n C dX7_table_49 (pc' := 50) rfl rfl rfl ?_
      refine x_iload_n C dX7_table_50 (pc' := 51) rfl rfl rfl ?_
      refine x_iload_n C dX7_table_51 (pc' := 52) rfl rfl rfl ?_
      obtain ⟨r3, h4, hq, hf⟩ := call_some hf
      obtain ⟨hob, hq⟩ := oK_some hq
      refine x_callV C (As := [vI i1, vI i2]) (st := [vI i2, vR v2]) (r := (some (vI r3))) (h' := h4) (mc := 0) (ms := 0) (k := 0) (n := 0) (mX7_tells hq) hob (ci := 7) rfl (cwV 2 C.1.2.2.2.2 gX7_table_X7_tells rfl rfl rfl (by decide +kernel) ⟨Nat.le_of_ble_eq_true rfl, Nat.le_of_ble_eq_true rfl⟩) rfl rfl (Nat.le_of_ble_eq_true rfl) dX7_table_52 (pc' := 55) rfl ?_
      refine x_i2b C dX7_table_55 (pc' := 56) rfl ?_
      refine x_bastoreB C hf dX7_table_56 (pc' := 57) rfl (fun h5 _ hf => ?_)
      refine x_iinc C dX7_table_57 (pc' := 60) rfl rfl (v := (i2 + 1)) rfl (by decide) rfl (lv' := [some (vR a0), some (vI i1), some (vI (i2 + 1))]) rfl ?_
      refine x_goto C dX7_table_60 (tgt := 36) (by decide) ?_
      exact ih a0 i1 (i2 + 1) h5 hf
def fX7_table (h : Hp) (a0 : Nat) (i1 : Int32) : Option (Int32 × Hp) := (pF h a0 7 0 (vI (0 : Int32))).bind fun h1 => call (oK h1 a0 7 (fX7_has h1 a0 i1)) fun r2 h3 => if r2 = 0 then (some ((-1 : Int32), h3)) else ((gR h3 a0 7 4).bind fun v4 => (aI h3 v4 0 i1).bind fun v5 => (gR h3 a0 7 5).bind fun v6 => (aI h3 v6 0 i1).bind fun v7 => call (fX7_power h3 v5 v7) fun r8 h9 => (pF h9 a0 7 8 (vI r8)).bind fun h10 => fX7_table_w36 FUEL a0 i1 (0 : Int32) h10)
set_option maxHeartbeats 4000000 in
set_option maxRecDepth 100000 in
theorem mX7_table {l : Launch} {g : XG} {h : Hp} {a0 : Nat} {i1 : Int32} {res : Int32 × Hp} (hf : fX7_table h a0 i1 = some res) : XM l g yX7_table wsX7_table 2 41 0 0 [vR a0, vI i1] h (some (vI res.1)) res.2 := by
  refine x_start (cc := cX7_table) (maxL := 3) (ret := (some .int)) (by decide) rfl (Nat.le_of_ble_eq_true rfl) (lv := [some (vR a0), some (vI i1), none]) rfl ?_
  intro p e s m args below meth c C hr hlk hnm
  unfold fX7_table at hf
  refine x_aload_n C dX7_table_0 (pc' := 1) rfl rfl rfl ?_
  refine x_iconst C (v := 0) (by decide) dX7_table_1 (pc' := 2) rfl ?_
  refine x_put C (ci := 7) (kf := 0) rfl (by decide) hinX7_table_X7 tyX7 tyX7_ok nmX7 lkX7_table_2 rfl (Or.inl rfl) rfl hf dX7_table_2 (pc' := 5) rfl (fun h1 _ hf => ?_)
  refine x_aload_n C dX7_table_5 (pc' := 6) rfl rfl rfl ?_
  refine x_iload_n C dX7_table_6 (pc' := 7) rfl rfl rfl ?_
  obtain ⟨r2, h3, hq, hf⟩ := call_some hf
  obtain ⟨hob, hq⟩ := oK_some hq
  refine x_callV C (As := [vI i1]) (st := []) (r := (some (vI r2))) (h' := h3) (mc := 0) (ms := 0) (k := 0) (n := 0) (mX7_has hq) hob (ci := 7) rfl (cwV 1 C.1.2.2.2.2 gX7_table_X7_has rfl rfl rfl (by decide +kernel) ⟨Nat.le_of_ble_eq_true rfl, Nat.le_of_ble_eq_true rfl⟩) rfl rfl (Nat.le_of_ble_eq_true rfl) dX7_table_7 (pc' := 10) rfl ?_
  refine x_if_ne C hf dX7_table_10 (pc' := 13) rfl (tgt := 15) (by decide) (fun _ hf => ?_) (fun _ hf => ?_)
  ·
    refine x_iconst C (v := -1) (by decide) dX7_table_13 (pc' := 14) rfl ?_
    cases hf
    exact x_iret C hr hlk dX7_table_14
  ·
    refine x_aload_n C dX7_table_15 (pc' := 16) rfl rfl rfl ?_
    refine x_aload_n C dX7_table_16 (pc' := 17) rfl rfl rfl ?_
    refine x_getR C (ci := 7) (kf := 4) rfl (by decide) hinX7_table_X7 lkX7_table_3 rfl hf dX7_table_17 (pc' := 20) rfl (fun v4 _ hf => ?_)
    refine x_iload_n C dX7_table_20 (pc' := 21) rfl rfl rfl ?_
    refine x_iaload C hf dX7_table_21 (pc' := 22) rfl (fun v5 _ hf => ?_)
    refine x_aload_n C dX7_table_22 (pc' := 23) rfl rfl rfl ?_
    refine x_getR C (ci := 7) (kf := 5) rfl (by decide) hinX7_table_X7 lkX7_table_4 rfl hf dX7_table_23 (pc' := 26) rfl (fun v6 _ hf => ?_)
    refine x_iload_n C dX7_table_26 (pc' := 27) rfl rfl rfl ?_
    refine x_iaload C hf dX7_table_27 (pc' := 28) rfl (fun v7 _ hf => ?_)
    obtain ⟨r8, h9, hq, hf⟩ := call_some hf
    refine x_callS C (As := [vI v5, vI v7]) (st := [vR a0]) (r := (some (vI r8))) (h' := h9) (mc := 0) (ms := 0) (k := 0) (n := 0) (mX7_power hq) (va_cwS 2 C.1.2.2.2.2 gX7_table_X7_power rfl rfl rfl (by decide +kernel) ⟨Nat.le_of_ble_eq_true rfl, Nat.le_of_ble_eq_true rfl⟩) rfl rfl (Nat.le_of_ble_eq_true rfl) dX7_table_28 (pc' := 31) rfl ?_
    refine x_put C (ci := 7) (kf := 8) rfl (by decide) hinX7_table_X7 tyX7 tyX7_ok nmX7 lkX7_table_0 rfl (Or.inl rfl) rfl hf dX7_table_31 (pc' := 34) rfl (fun h10 _ hf => ?_)
    refine x_iconst C (v := 0) (by decide) dX7_table_34 (pc' := 35) rfl ?_
    refine x_istore_n C dX7_table_35 (pc' := 36) rfl rfl (by decide) rfl (lv' := [some (vR a0), some (vI i1), some (vI (0 : Int32))]) rfl ?_
    refine x_more (k' := 0) (n' := 0) (Nat.le_of_ble_eq_true rfl) (Nat.le_of_ble_eq_true rfl) ?_
    exact mX7_table_w36 C hr hlk hnm FUEL a0 i1 (0 : Int32) h10 hf
-- ===== X7_areStates
theorem lkX7_areStates_0 : Cond.fieldLink RX7 91 "MossRingsModel" "size" "I" ∈ wsX7_areStates := by decide +kernel
theorem hinX7_areStates_X7 : ∀ w ∈ u_ws RX7 TX7 27, w ∈ wsX7_areStates := by decide +kernel
theorem lkX7_areStates_1 : Cond.fieldLink RX7 7 "MossRingsModel" "tape" "[B" ∈ wsX7_areStates := by decide +kernel
theorem lkX7_areStates_2 : Cond.fieldLink RX7 13 "MossRingsModel" "states" "[I" ∈ wsX7_areStates := by decide +kernel
def fX7_areStates_w21 : Nat → Nat → Int32 → Int32 → Hp → Option (Int32 × Hp)
  | 0 => fun _ _ _ _ => none
  | n + 1 => fun a0 i1 i4 h => (gI h a0 7 3).bind fun v1 => if v1 ≤ i4 then (retZ (1 : Int32) h) else ((gR h a0 7 1).bind fun v2 => (aI h v2 1 i4).bind fun v3 => if v3 < 0 then (retZ (0 : Int32) h) else ((gR h a0 7 1).bind fun v4 => (aI h v4 1 i4).bind fun v5 => (gR h a0 7 4).bind fun v6 => (aI h v6 0 i1).bind fun v7 => if v5 < v7 then ((fX7_areStates_w21 n) a0 i1 (i4 + 1) h) else (retZ (0 : Int32) h)))
set_option maxHeartbeats 4000000 in
set_option maxRecDepth 100000 in
theorem mX7_areStates_w21 {g : XG} {p : Program} {l : Launch} {e : Env} {s : State} {m : MethodId} {args : Array Value} {below : List Frame} {meth : Method} {c : Code} (C : x_C g p s m args c cX7_areStates RX7 5 wsX7_areStates) (hr : meth.sig.returnType = (some .boolean)) (hlk : meth.locks = false) (hnm : meth.name = yX7_areStates.name) {res : Int32 × Hp} : ∀ (n : Nat) (a0 : Nat) (i1 : Int32) (i4 : Int32) (h : Hp), fX7_areStates_w21 n a0 i1 i4 h = some res → XW g p l e { frames := 0, cells := 0, slots := 0, locals := 0 } s m args below meth c (MQ below (x_Q g (some (vI res.1)) res.2) args s 0 0 (x_A g)) 5 0 0 h 21 [some (vR a0), some (vI i1), none, none, some (vI i4)] [] := by
  intro n
  induction n with
  | zero =>
    intro a0 i1 i4 h hf
    have hf2 : (none : Option (Int32 × Hp)) = some res := hf
    cases hf2
  | succ n ih =>
    intro a0 i1 i4 h hf
    rw [fX7_areStates_w21] at hf
    refine x_iload C dX7_areStates_21 (pc' := 23) rfl rfl ?_
    refine x_aload_n C dX7_areStates_23 (pc' := 24) rfl rfl rfl ?_
    refine x_getI C (ci := 7) (kf := 3) rfl (by decide) hinX7_areStates_X7 lkX7_areStates_0 rfl hf dX7_areStates_24 (pc' := 27) rfl (fun v1 _ hf => ?_)
    refine x_icmp_ge C hf dX7_areStates_27 (pc' := 30) rfl (tgt := 64) (by decide) (fun _ hf => ?_) (fun _ hf => ?_)
    ·
      refine x_iconst C (v := 1) (by decide) dX7_areStates_64 (pc' := 65) rfl ?_
      exact x_zret C hf hr hlk dX7_areStates_65
    ·
      refine x_aload_n C dX7_areStates_30 (pc' := 31) rfl rfl rfl ?_
      refine x_getR C (ci := 7) (kf := 1) rfl (by decide) hinX7_areStates_X7 lkX7_areStates_1 rfl hf dX7_areStates_31 (pc' := 34) rfl (fun v2 _ hf => ?_)
      refine x_iload C dX7_areStates_34 (pc' := 36) rfl rfl ?_
      refine x_baloadB C hf dX7_areStates_36 (pc' := 37) rfl (fun v3 _ hf => ?_)
      refine x_if_lt C hf dX7_areStates_37 (pc' := 40) rfl (tgt := 56) (by decide) (fun _ hf => ?_) (fun _ hf => ?_)
      ·
        refine x_iconst C (v := 0) (by decide) dX7_areStates_56 (pc' := 57) rfl ?_
        exact x_zret C hf hr hlk dX7_areStates_57
      ·
        refine x_aload_n C dX7_areStates_40 (pc' := 41) rfl rfl rfl ?_
        refine x_getR C (ci := 7) (kf := 1) rfl (by decide) hinX7_areStates_X7 lkX7_areStates_1 rfl hf dX7_areStates_41 (pc' := 44) rfl (fun v4 _ hf => ?_)
        refine x_iload C dX7_areStates_44 (pc' := 46) rfl rfl ?_
        refine x_baloadB C hf dX7_areStates_46 (pc' := 47) rfl (fun v5 _ hf => ?_)
        refine x_aload_n C dX7_areStates_47 (pc' := 48) rfl rfl rfl ?_
        refine x_getR C (ci := 7) (kf := 4) rfl (by decide) hinX7_areStates_X7 lkX7_areStates_2 rfl hf dX7_areStates_48 (pc' := 51) rfl (fun v6 _ hf => ?_)
        refine x_iload_n C dX7_areStates_51 (pc' := 52) rfl rfl rfl ?_
        refine x_iaload C hf dX7_areStates_52 (pc' := 53) rfl (fun v7 _ hf => ?_)
        refine x_icmp_lt C hf dX7_areStates_53 (pc' := 56) rfl (tgt := 58) (by decide) (fun _ hf => ?_) (fun _ hf => ?_)
        ·
          refine x_iinc C dX7_areStates_58 (pc' := 61) rfl rfl (v := (i4 + 1)) rfl (by decide) rfl (lv' := [some (vR a0), some (vI i1), none, none, some (vI (i4 + 1))]) rfl ?_
          refine x_goto C dX7_areStates_61 (tgt := 21) (by decide) ?_
          exact ih a0 i1 (i4 + 1) h hf
        ·
          refine x_iconst C (v := 0) (by decide) dX7_areStates_56 (pc' := 57) rfl ?_
          exact x_zret C hf hr hlk dX7_areStates_57
def fX7_areStates (h : Hp) (a0 : Nat) (i1 : Int32) (i2 : Int32) (i3 : Int32) : Option (Int32 × Hp) := (gI h a0 7 3).bind fun v1 => if v1 < i2 then (retZ (0 : Int32) h) else ((gI h a0 7 3).bind fun v2 => if v2 ≤ i3 then (fX7_areStates_w21 FUEL a0 i1 (0 : Int32) h) else (retZ (0 : Int32) h))
set_option maxHeartbeats 4000000 in
set_option maxRecDepth 100000 in
theorem mX7_areStates {l : Launch} {g : XG} {h : Hp} {a0 : Nat} {i1 : Int32} {i2 : Int32} {i3 : Int32} {res : Int32 × Hp} (hf : fX7_areStates h a0 i1 i2 i3 = some res) : XM l g yX7_areStates wsX7_areStates 0 0 0 0 [vR a0, vI i1, vI i2, vI i3] h (some (vI res.1)) res.2 := by
  refine x_start (cc := cX7_areStates) (maxL := 5) (ret := (some .boolean)) (by decide) rfl (Nat.le_of_ble_eq_true rfl) (lv := [some (vR a0), some (vI i1), some (vI i2), some (vI i3), none]) rfl ?_
  intro p e s m args below meth c C hr hlk hnm
  unfold fX7_areStates at hf
  refine x_aload_n C dX7_areStates_0 (pc' := 1) rfl rfl rfl ?_
  refine x_getI C (ci := 7) (kf := 3) rfl (by decide) hinX7_areStates_X7 lkX7_areStates_0 rfl hf dX7_areStates_1 (pc' := 4) rfl (fun v1 _ hf => ?_)
  refine x_iload_n C dX7_areStates_4 (pc' := 5) rfl rfl rfl ?_
  refine x_icmp_lt C hf dX7_areStates_5 (pc' := 8) rfl (tgt := 16) (by decide) (fun _ hf => ?_) (fun _ hf => ?_)
  ·
    refine x_iconst C (v := 0) (by decide) dX7_areStates_16 (pc' := 17) rfl ?_
    exact x_zret C hf hr hlk dX7_areStates_17
  ·
    refine x_aload_n C dX7_areStates_8 (pc' := 9) rfl rfl rfl ?_
    refine x_getI C (ci := 7) (kf := 3) rfl (by decide) hinX7_areStates_X7 lkX7_areStates_0 rfl hf dX7_areStates_9 (pc' := 12) rfl (fun v2 _ hf => ?_)
    refine x_iload_n C dX7_areStates_12 (pc' := 13) rfl rfl rfl ?_
    refine x_icmp_le C hf dX7_areStates_13 (pc' := 16) rfl (tgt := 18) (by decide) (fun _ hf => ?_) (fun _ hf => ?_)
    ·
      refine x_iconst C (v := 0) (by decide) dX7_areStates_18 (pc' := 19) rfl ?_
      refine x_istore C dX7_areStates_19 (pc' := 21) rfl (by decide) rfl (lv' := [some (vR a0), some (vI i1), some (vI i2), some (vI i3), some (vI (0 : Int32))]) rfl ?_
      refine x_keep [true, true, false, false, true] rfl ?_
      refine x_more (k' := 0) (n' := 0) (Nat.le_of_ble_eq_true rfl) (Nat.le_of_ble_eq_true rfl) ?_
      exact mX7_areStates_w21 C hr hlk hnm FUEL a0 i1 (0 : Int32) h hf
    ·
      refine x_iconst C (v := 0) (by decide) dX7_areStates_16 (pc' := 17) rfl ?_
      exact x_zret C hf hr hlk dX7_areStates_17
-- ===== X7_leadsTo
theorem lkX7_leadsTo_0 : Cond.fieldLink RX7 17 "MossRingsModel" "widths" "[I" ∈ wsX7_leadsTo := by decide +kernel
theorem hinX7_leadsTo_X7 : ∀ w ∈ u_ws RX7 TX7 27, w ∈ wsX7_leadsTo := by decide +kernel
theorem lkX7_leadsTo_1 : Cond.fieldLink RX7 13 "MossRingsModel" "states" "[I" ∈ wsX7_leadsTo := by decide +kernel
theorem lkX7_leadsTo_2 : Cond.fieldLink RX7 26 "MossRingsModel" "cells" "[I" ∈ wsX7_leadsTo := by decide +kernel
def fX7_leadsTo_b46 (a0 : Nat) (i1 : Int32) (i4 : Int32) (h : Hp) : Option (Int32 × Hp) := call (oK h a0 7 (fX7_tells h a0 i1 i4)) fun r1 h2 => some (r1, h2)
set_option maxHeartbeats 4000000 in
set_option maxRecDepth 100000 in
theorem mX7_leadsTo_b46 {g : XG} {p : Program} {l : Launch} {e : Env} {s : State} {m : MethodId} {args : Array Value} {below : List Frame} {meth : Method} {c : Code} (C : x_C g p s m args c cX7_leadsTo RX7 6 wsX7_leadsTo) (hr : meth.sig.returnType = (some .int)) (hlk : meth.locks = false) (hnm : meth.name = yX7_leadsTo.name) {res : Int32 × Hp} (a0 : Nat) (i1 : Int32) (i4 : Int32) (h : Hp) (hf : fX7_leadsTo_b46 a0 i1 i4 h = some res) : XW g p l e { frames := 1, cells := 0, slots := 0, locals := 22 } s m args below meth c (MQ below (x_Q g (some (vI res.1)) res.2) args s 0 0 (x_A g)) 6 0 0 h 46 [some (vR a0), some (vI i1), none, none, some (vI i4), none] [] := by
  unfold fX7_leadsTo_b46 at hf
  refine x_aload_n C dX7_leadsTo_46 (pc' := 47) rfl rfl rfl ?_
  refine x_iload_n C dX7_leadsTo_47 (pc' := 48) rfl rfl rfl ?_
  refine x_iload C dX7_leadsTo_48 (pc' := 50) rfl rfl ?_
  obtain ⟨r1, h2, hq, hf⟩ := call_some hf
  obtain ⟨hob, hq⟩ := oK_some hq
  refine x_callV C (As := [vI i1, vI i4]) (st := []) (r := (some (vI r1))) (h' := h2) (mc := 0) (ms := 0) (k := 0) (n := 0) (mX7_tells hq) hob (ci := 7) rfl (cwV 2 C.1.2.2.2.2 gX7_leadsTo_X7_tells rfl rfl rfl (by decide +kernel) ⟨Nat.le_of_ble_eq_true rfl, Nat.le_of_ble_eq_true rfl⟩) rfl rfl (Nat.le_of_ble_eq_true rfl) dX7_leadsTo_50 (pc' := 53) rfl ?_
  cases hf
  exact x_iret C hr hlk dX7_leadsTo_53
def fX7_leadsTo_w6 : Nat → Nat → Int32 → Int32 → Int32 → Int32 → Int32 → Hp → Option (Int32 × Hp)
  | 0 => fun _ _ _ _ _ _ _ => none
  | n + 1 => fun a0 i1 i2 i3 i4 i5 h => (gR h a0 7 5).bind fun v1 => (aI h v1 0 i1).bind fun v2 => if v2 ≤ i5 then (fX7_leadsTo_b46 a0 i1 i4 h) else ((gR h a0 7 4).bind fun v3 => (aI h v3 0 i1).bind fun v4 => (gR h a0 7 9).bind fun v5 => iRem (i2 + i5) i3 fun v6 => (aI h v5 0 v6).bind fun v7 => setv (((v4 * i4) + v7)) fun v8 => (fX7_leadsTo_w6 n) a0 i1 i2 i3 v8 (i5 + 1) h)
set_option maxHeartbeats 4000000 in
set_option maxRecDepth 100000 in
theorem mX7_leadsTo_w6 {g : XG} {p : Program} {l : Launch} {e : Env} {s : State} {m : MethodId} {args : Array Value} {below : List Frame} {meth : Method} {c : Code} (C : x_C g p s m args c cX7_leadsTo RX7 6 wsX7_leadsTo) (hr : meth.sig.returnType = (some .int)) (hlk : meth.locks = false) (hnm : meth.name = yX7_leadsTo.name) {res : Int32 × Hp} : ∀ (n : Nat) (a0 : Nat) (i1 : Int32) (i2 : Int32) (i3 : Int32) (i4 : Int32) (i5 : Int32) (h : Hp), fX7_leadsTo_w6 n a0 i1 i2 i3 i4 i5 h = some res → XW g p l e { frames := 1, cells := 0, slots := 0, locals := 22 } s m args below meth c (MQ below (x_Q g (some (vI res.1)) res.2) args s 0 0 (x_A g)) 6 0 0 h 6 [some (vR a0), some (vI i1), some (vI i2), some (vI i3), some (vI i4), some (vI i5)] [] := by
  intro n
  induction n with
  | zero =>
    intro a0 i1 i2 i3 i4 i5 h hf
    have hf2 : (none : Option (Int32 × Hp)) = some res := hf
    cases hf2
  | succ n ih =>
    intro a0 i1 i2 i3 i4 i5 h hf
    rw [fX7_leadsTo_w6] at hf
    refine x_iload C dX7_leadsTo_6 (pc' := 8) rfl rfl ?_
    refine x_aload_n C dX7_leadsTo_8 (pc' := 9) rfl rfl rfl ?_
    refine x_getR C (ci := 7) (kf := 5) rfl (by decide) hinX7_leadsTo_X7 lkX7_leadsTo_0 rfl hf dX7_leadsTo_9 (pc' := 12) rfl (fun v1 _ hf => ?_)
    refine x_iload_n C dX7_leadsTo_12 (pc' := 13) rfl rfl rfl ?_
    refine x_iaload C hf dX7_leadsTo_13 (pc' := 14) rfl (fun v2 _ hf => ?_)
    refine x_icmp_ge C hf dX7_leadsTo_14 (pc' := 17) rfl (tgt := 46) (by decide) (fun _ hf => ?_) (fun _ hf => ?_)
    ·
      refine x_keep [true, true, false, false, true, false] rfl ?_
      refine x_more (k' := 0) (n' := 0) (Nat.le_of_ble_eq_true rfl) (Nat.le_of_ble_eq_true rfl) ?_
      exact mX7_leadsTo_b46 C hr hlk hnm a0 i1 i4 h hf
    ·
      refine x_aload_n C dX7_leadsTo_17 (pc' := 18) rfl rfl rfl ?_
      refine x_getR C (ci := 7) (kf := 4) rfl (by decide) hinX7_leadsTo_X7 lkX7_leadsTo_1 rfl hf dX7_leadsTo_18 (pc' := 21) rfl (fun v3 _ hf => ?_)
      refine x_iload_n C dX7_leadsTo_21 (pc' := 22) rfl rfl rfl ?_
      refine x_iaload C hf dX7_leadsTo_22 (pc' := 23) rfl (fun v4 _ hf => ?_)
      refine x_iload C dX7_leadsTo_23 (pc' := 25) rfl rfl ?_
      refine x_imul C dX7_leadsTo_25 (pc' := 26) rfl ?_
      refine x_aload_n C dX7_leadsTo_26 (pc' := 27) rfl rfl rfl ?_
      refine x_getR C (ci := 7) (kf := 9) rfl (by decide) hinX7_leadsTo_X7 lkX7_leadsTo_2 rfl hf dX7_leadsTo_27 (pc' := 30) rfl (fun v5 _ hf => ?_)
      refine x_iload_n C dX7_leadsTo_30 (pc' := 31) rfl rfl rfl ?_
      refine x_iload C dX7_leadsTo_31 (pc' := 33) rfl rfl ?_
      refine x_iadd C dX7_leadsTo_33 (pc' := 34) rfl ?_
      refine x_iload_n C dX7_leadsTo_34 (pc' := 35) rfl rfl rfl ?_
      refine x_irem C hf dX7_leadsTo_35 (pc' := 36) rfl (fun _ v6 _ hf => ?_)
      refine x_iaload C hf dX7_leadsTo_36 (pc' := 37) rfl (fun v7 _ hf => ?_)
      refine x_iadd C dX7_leadsTo_37 (pc' := 38) rfl ?_
      refine x_nameI hf (fun v8 _ hf => ?_)
      refine x_istore C dX7_leadsTo_38 (pc' := 40) rfl (by decide) rfl (lv' := [some (vR a0), some (vI i1), some (vI i2), some (vI i3), some (vI v8), some (vI i5)]) rfl ?_
      refine x_iinc C dX7_leadsTo_40 (pc' := 43) rfl rfl (v := (i5 + 1)) rfl (by decide) rfl (lv' := [some (vR a0), some (vI i1), some (vI i2), some (vI i3), some (vI v8), some (vI (i5 + 1))]) rfl ?_
      refine x_goto C dX7_leadsTo_43 (tgt := 6) (by decide) ?_
      exact ih a0 i1 i2 i3 v8 (i5 + 1) h hf
def fX7_leadsTo (h : Hp) (a0 : Nat) (i1 : Int32) (i2 : Int32) (i3 : Int32) : Option (Int32 × Hp) := fX7_leadsTo_w6 FUEL a0 i1 i2 i3 (0 : Int32) (0 : Int32) h
set_option maxHeartbeats 4000000 in
set_option maxRecDepth 100000 in
theorem mX7_leadsTo {l : Launch} {g : XG} {h : Hp} {a0 : Nat} {i1 : Int32} {i2 : Int32} {i3 : Int32} {res : Int32 × Hp} (hf : fX7_leadsTo h a0 i1 i2 i3 = some res) : XM l g yX7_leadsTo wsX7_leadsTo 1 22 0 0 [vR a0, vI i1, vI i2, vI i3] h (some (vI res.1)) res.2 := by
  refine x_start (cc := cX7_leadsTo) (maxL := 6) (ret := (some .int)) (by decide) rfl (Nat.le_of_ble_eq_true rfl) (lv := [some (vR a0), some (vI i1), some (vI i2), some (vI i3), none, none]) rfl ?_
  intro p e s m args below meth c C hr hlk hnm
  unfold fX7_leadsTo at hf
  refine x_iconst C (v := 0) (by decide) dX7_leadsTo_0 (pc' := 1) rfl ?_
  refine x_istore C dX7_leadsTo_1 (pc' := 3) rfl (by decide) rfl (lv' := [some (vR a0), some (vI i1), some (vI i2), some (vI i3), some (vI (0 : Int32)), none]) rfl ?_
  refine x_iconst C (v := 0) (by decide) dX7_leadsTo_3 (pc' := 4) rfl ?_
  refine x_istore C dX7_leadsTo_4 (pc' := 6) rfl (by decide) rfl (lv' := [some (vR a0), some (vI i1), some (vI i2), some (vI i3), some (vI (0 : Int32)), some (vI (0 : Int32))]) rfl ?_
  refine x_more (k' := 0) (n' := 0) (Nat.le_of_ble_eq_true rfl) (Nat.le_of_ble_eq_true rfl) ?_
  exact mX7_leadsTo_w6 C hr hlk hnm FUEL a0 i1 i2 i3 (0 : Int32) (0 : Int32) h hf
-- ===== X7_step
theorem lkX7_step_0 : Cond.fieldLink RX7 26 "MossRingsModel" "cells" "[I" ∈ wsX7_step := by decide +kernel
theorem hinX7_step_X7 : ∀ w ∈ u_ws RX7 TX7 27, w ∈ wsX7_step := by decide +kernel
theorem lkX7_step_1 : Cond.fieldLink RX7 29 "MossRingsModel" "next" "[I" ∈ wsX7_step := by decide +kernel
def fX7_step_w28 : Nat → Nat → Int32 → Int32 → Hp → Option (Hp)
  | 0 => fun _ _ _ _ => none
  | n + 1 => fun a0 i2 i3 h => if i2 ≤ i3 then (some h) else ((gR h a0 7 9).bind fun v1 => (gR h a0 7 10).bind fun v2 => (aI h v2 0 i3).bind fun v3 => (sI h v1 0 i3 v3).bind fun h4 => (fX7_step_w28 n) a0 i2 (i3 + 1) h4)
set_option maxHeartbeats 4000000 in
set_option maxRecDepth 100000 in
theorem mX7_step_w28 {g : XG} {p : Program} {l : Launch} {e : Env} {s : State} {m : MethodId} {args : Array Value} {below : List Frame} {meth : Method} {c : Code} (C : x_C g p s m args c cX7_step RX7 4 wsX7_step) (hr : meth.sig.returnType = none) (hlk : meth.locks = false) (hnm : meth.name = yX7_step.name) {res : Hp} : ∀ (n : Nat) (a0 : Nat) (i2 : Int32) (i3 : Int32) (h : Hp), fX7_step_w28 n a0 i2 i3 h = some res → XW g p l e { frames := 2, cells := 0, slots := 0, locals := 47 } s m args below meth c (MQ below (x_Q g none res) args s 0 0 (x_A g)) 4 0 0 h 28 [some (vR a0), none, some (vI i2), some (vI i3)] [] := by
  intro n
  induction n with
  | zero =>
    intro a0 i2 i3 h hf
    have hf2 : (none : Option (Hp)) = some res := hf
    cases hf2
  | succ n ih =>
    intro a0 i2 i3 h hf
    rw [fX7_step_w28] at hf
    refine x_iload_n C dX7_step_28 (pc' := 29) rfl rfl rfl ?_
    refine x_iload_n C dX7_step_29 (pc' := 30) rfl rfl rfl ?_
    refine x_icmp_ge C hf dX7_step_30 (pc' := 33) rfl (tgt := 51) (by decide) (fun _ hf => ?_) (fun _ hf => ?_)
    ·
      cases hf
      exact x_vret C hr hlk dX7_step_51
    ·
      refine x_aload_n C dX7_step_33 (pc' := 34) rfl rfl rfl ?_
      refine x_getR C (ci := 7) (kf := 9) rfl (by decide) hinX7_step_X7 lkX7_step_0 rfl hf dX7_step_34 (pc' := 37) rfl (fun v1 _ hf => ?_)
      refine x_iload_n C dX7_step_37 (pc' := 38) rfl rfl rfl ?_
      refine x_aload_n C dX7_step_38 (pc' := 39) rfl rfl rfl ?_
      refine x_getR C (ci := 7) (kf := 10) rfl (by decide) hinX7_step_X7 lkX7_step_1 rfl hf dX7_step_39 (pc' := 42) rfl (fun v2 _ hf => ?_)
      refine x_iload_n C dX7_step_42 (pc' := 43) rfl rfl rfl ?_
      refine x_iaload C hf dX7_step_43 (pc' := 44) rfl (fun v3 _ hf => ?_)
      refine x_iastore C hf dX7_step_44 (pc' := 45) rfl (fun h4 _ hf => ?_)
      refine x_iinc C dX7_step_45 (pc' := 48) rfl rfl (v := (i3 + 1)) rfl (by decide) rfl (lv' := [some (vR a0), none, some (vI i2), some (vI (i3 + 1))]) rfl ?_
      refine x_goto C dX7_step_48 (tgt := 28) (by decide) ?_
      exact ih a0 i2 (i3 + 1) h4 hf
def fX7_step_b26 (a0 : Nat) (i2 : Int32) (h : Hp) : Option (Hp) := fX7_step_w28 FUEL a0 i2 (0 : Int32) h
set_option maxHeartbeats 4000000 in
set_option maxRecDepth 100000 in
theorem mX7_step_b26 {g : XG} {p : Program} {l : Launch} {e : Env} {s : State} {m : MethodId} {args : Array Value} {below : List Frame} {meth : Method} {c : Code} (C : x_C g p s m args c cX7_step RX7 4 wsX7_step) (hr : meth.sig.returnType = none) (hlk : meth.locks = false) (hnm : meth.name = yX7_step.name) {res : Hp} (a0 : Nat) (i2 : Int32) (h : Hp) (hf : fX7_step_b26 a0 i2 h = some res) : XW g p l e { frames := 2, cells := 0, slots := 0, locals := 47 } s m args below meth c (MQ below (x_Q g none res) args s 0 0 (x_A g)) 4 0 0 h 26 [some (vR a0), none, some (vI i2), none] [] := by
  unfold fX7_step_b26 at hf
  refine x_iconst C (v := 0) (by decide) dX7_step_26 (pc' := 27) rfl ?_
  refine x_istore_n C dX7_step_27 (pc' := 28) rfl rfl (by decide) rfl (lv' := [some (vR a0), none, some (vI i2), some (vI (0 : Int32))]) rfl ?_
  refine x_more (k' := 0) (n' := 0) (Nat.le_of_ble_eq_true rfl) (Nat.le_of_ble_eq_true rfl) ?_
  exact mX7_step_w28 C hr hlk hnm FUEL a0 i2 (0 : Int32) h hf
def fX7_step_w2 : Nat → Nat → Int32 → Int32 → Int32 → Hp → Option (Hp)
  | 0 => fun _ _ _ _ _ => none
  | n + 1 => fun a0 i1 i2 i3 h => if i2 ≤ i3 then (fX7_step_b26 a0 i2 h) else ((gR h a0 7 10).bind fun v1 => call (oK h a0 7 (fX7_leadsTo h a0 i1 i3 i2)) fun r2 h3 => (sI h3 v1 0 i3 r2).bind fun h4 => (fX7_step_w2 n) a0 i1 i2 (i3 + 1) h4)
set_option maxHeartbeats 4000000 in
set_option maxRecDepth 100000 in
theorem mX7_step_w2 {g : XG} {p : Program} {l : Launch} {e : Env} {s : State} {m : MethodId} {args : Array Value} {below : List Frame} {meth : Method} {c : Code} (C : x_C g p s m args c cX7_step RX7 4 wsX7_step) (hr : meth.sig.returnType = none) (hlk : meth.locks = false) (hnm : meth.name = yX7_step.name) {res : Hp} : ∀ (n : Nat) (a0 : Nat) (i1 : Int32) (i2 : Int32) (i3 : Int32) (h : Hp), fX7_step_w2 n a0 i1 i2 i3 h = some res → XW g p l e { frames := 2, cells := 0, slots := 0, locals := 47 } s m args below meth c (MQ below (x_Q g none res) args s 0 0 (x_A g)) 4 0 0 h 2 [some (vR a0), some (vI i1), some (vI i2), some (vI i3)] [] := by
  intro n
  induction n with
  | zero =>
    intro a0 i1 i2 i3 h hf
    have hf2 : (none : Option (Hp)) = some res := hf
    cases hf2
  | succ n ih =>
    intro a0 i1 i2 i3 h hf
    rw [fX7_step_w2] at hf
    refine x_iload_n C dX7_step_2 (pc' := 3) rfl rfl rfl ?_
    refine x_iload_n C dX7_step_3 (pc' := 4) rfl rfl rfl ?_
    refine x_icmp_ge C hf dX7_step_4 (pc' := 7) rfl (tgt := 26) (by decide) (fun _ hf => ?_) (fun _ hf => ?_)
    ·
      refine x_keep [true, false, true, false] rfl ?_
      refine x_more (k' := 0) (n' := 0) (Nat.le_of_ble_eq_true rfl) (Nat.le_of_ble_eq_true rfl) ?_
      exact mX7_step_b26 C hr hlk hnm a0 i2 h hf
    ·
      refine x_aload_n C dX7_step_7 (pc' := 8) rfl rfl rfl ?_
      refine x_getR C (ci := 7) (kf := 10) rfl (by decide) hinX7_step_X7 lkX7_step_1 rfl hf dX7_step_8 (pc' := 11) rfl (fun v1 _ hf => ?_)
      refine x_iload_n C dX7_step_11 (pc' := 12) rfl rfl rfl ?_
      refine x_aload_n C dX7_step_12 (pc' := 13) rfl rfl rfl ?_
      refine x_iload_n C dX7_step_13 (pc' := 14) rfl rfl rfl ?_
      refine x_iload_n C dX7_step_14 (pc' := 15) rfl rfl rfl ?_
      refine x_iload_n C dX7_step_15 (pc' := 16) rfl rfl rfl ?_
      obtain ⟨r2, h3, hq, hf⟩ := call_some hf
      obtain ⟨hob, hq⟩ := oK_some hq
      refine x_callV C (As := [vI i1, vI i3, vI i2]) (st := [vI i3, vR v1]) (r := (some (vI r2))) (h' := h3) (mc := 0) (ms := 0) (k := 0) (n := 0) (mX7_leadsTo hq) hob (ci := 7) rfl (cwV 3 C.1.2.2.2.2 gX7_step_X7_leadsTo rfl rfl rfl (by decide +kernel) ⟨Nat.le_of_ble_eq_true rfl, Nat.le_of_ble_eq_true rfl⟩) rfl rfl (Nat.le_of_ble_eq_true rfl) dX7_step_16 (pc' := 19) rfl ?_
      refine x_iastore C hf dX7_step_19 (pc' := 20) rfl (fun h4 _ hf => ?_)
      refine x_iinc C dX7_step_20 (pc' := 23) rfl rfl (v := (i3 + 1)) rfl (by decide) rfl (lv' := [some (vR a0), some (vI i1), some (vI i2), some (vI (i3 + 1))]) rfl ?_
      refine x_goto C dX7_step_23 (tgt := 2) (by decide) ?_
      exact ih a0 i1 i2 (i3 + 1) h4 hf
def fX7_step (h : Hp) (a0 : Nat) (i1 : Int32) (i2 : Int32) : Option (Hp) := fX7_step_w2 FUEL a0 i1 i2 (0 : Int32) h
set_option maxHeartbeats 4000000 in
set_option maxRecDepth 100000 in
theorem mX7_step {l : Launch} {g : XG} {h : Hp} {a0 : Nat} {i1 : Int32} {i2 : Int32} {res : Hp} (hf : fX7_step h a0 i1 i2 = some res) : XM l g yX7_step wsX7_step 2 47 0 0 [vR a0, vI i1, vI i2] h none res := by
  refine x_start (cc := cX7_step) (maxL := 4) (ret := none) (by decide) rfl (Nat.le_of_ble_eq_true rfl) (lv := [some (vR a0), some (vI i1), some (vI i2), none]) rfl ?_
  intro p e s m args below meth c C hr hlk hnm
  unfold fX7_step at hf
  refine x_iconst C (v := 0) (by decide) dX7_step_0 (pc' := 1) rfl ?_
  refine x_istore_n C dX7_step_1 (pc' := 2) rfl rfl (by decide) rfl (lv' := [some (vR a0), some (vI i1), some (vI i2), some (vI (0 : Int32))]) rfl ?_
  refine x_more (k' := 0) (n' := 0) (Nat.le_of_ble_eq_true rfl) (Nat.le_of_ble_eq_true rfl) ?_
  exact mX7_step_w2 C hr hlk hnm FUEL a0 i1 i2 (0 : Int32) h hf
-- ===== X7_takeCells
theorem lkX7_takeCells_0 : Cond.fieldLink RX7 91 "MossRingsModel" "size" "I" ∈ wsX7_takeCells := by decide +kernel
theorem hinX7_takeCells_X7 : ∀ w ∈ u_ws RX7 TX7 27, w ∈ wsX7_takeCells := by decide +kernel
theorem lkX7_takeCells_1 : Cond.fieldLink RX7 26 "MossRingsModel" "cells" "[I" ∈ wsX7_takeCells := by decide +kernel
theorem lkX7_takeCells_2 : Cond.fieldLink RX7 7 "MossRingsModel" "tape" "[B" ∈ wsX7_takeCells := by decide +kernel
def fX7_takeCells_w2 : Nat → Nat → Int32 → Hp → Option (Hp)
  | 0 => fun _ _ _ => none
  | n + 1 => fun a0 i1 h => (gI h a0 7 3).bind fun v1 => if v1 ≤ i1 then (some h) else ((gR h a0 7 9).bind fun v2 => (gR h a0 7 1).bind fun v3 => (aI h v3 1 i1).bind fun v4 => (sI h v2 0 i1 v4).bind fun h5 => (fX7_takeCells_w2 n) a0 (i1 + 1) h5)
set_option maxHeartbeats 4000000 in
set_option maxRecDepth 100000 in
theorem mX7_takeCells_w2 {g : XG} {p : Program} {l : Launch} {e : Env} {s : State} {m : MethodId} {args : Array Value} {below : List Frame} {meth : Method} {c : Code} (C : x_C g p s m args c cX7_takeCells RX7 2 wsX7_takeCells) (hr : meth.sig.returnType = none) (hlk : meth.locks = false) (hnm : meth.name = yX7_takeCells.name) {res : Hp} : ∀ (n : Nat) (a0 : Nat) (i1 : Int32) (h : Hp), fX7_takeCells_w2 n a0 i1 h = some res → XW g p l e { frames := 0, cells := 0, slots := 0, locals := 0 } s m args below meth c (MQ below (x_Q g none res) args s 0 0 (x_A g)) 2 0 0 h 2 [some (vR a0), some (vI i1)] [] := by
  intro n
  induction n with
  | zero =>
    intro a0 i1 h hf
    have hf2 : (none : Option (Hp)) = some res := hf
    cases hf2
  | succ n ih =>
    intro a0 i1 h hf
    rw [fX7_takeCells_w2] at hf
    refine x_iload_n C dX7_takeCells_2 (pc' := 3) rfl rfl rfl ?_
    refine x_aload_n C dX7_takeCells_3 (pc' := 4) rfl rfl rfl ?_
    refine x_getI C (ci := 7) (kf := 3) rfl (by decide) hinX7_takeCells_X7 lkX7_takeCells_0 rfl hf dX7_takeCells_4 (pc' := 7) rfl (fun v1 _ hf => ?_)
    refine x_icmp_ge C hf dX7_takeCells_7 (pc' := 10) rfl (tgt := 28) (by decide) (fun _ hf => ?_) (fun _ hf => ?_)
    ·
      cases hf
      exact x_vret C hr hlk dX7_takeCells_28
    ·
      refine x_aload_n C dX7_takeCells_10 (pc' := 11) rfl rfl rfl ?_
      refine x_getR C (ci := 7) (kf := 9) rfl (by decide) hinX7_takeCells_X7 lkX7_takeCells_1 rfl hf dX7_takeCells_11 (pc' := 14) rfl (fun v2 _ hf => ?_)
      refine x_iload_n C dX7_takeCells_14 (pc' := 15) rfl rfl rfl ?_
      refine x_aload_n C dX7_takeCells_15 (pc' := 16) rfl rfl rfl ?_
      refine x_getR C (ci := 7) (kf := 1) rfl (by decide) hinX7_takeCells_X7 lkX7_takeCells_2 rfl hf dX7_takeCells_16 (pc' := 19) rfl (fun v3 _ hf => ?_)
      refine x_iload_n C dX7_takeCells_19 (pc' := 20) rfl rfl rfl ?_
      refine x_baloadB C hf dX7_takeCells_20 (pc' := 21) rfl (fun v4 _ hf => ?_)
      refine x_iastore C hf dX7_takeCells_21 (pc' := 22) rfl (fun h5 _ hf => ?_)
      refine x_iinc C dX7_takeCells_22 (pc' := 25) rfl rfl (v := (i1 + 1)) rfl (by decide) rfl (lv' := [some (vR a0), some (vI (i1 + 1))]) rfl ?_
      refine x_goto C dX7_takeCells_25 (tgt := 2) (by decide) ?_
      exact ih a0 (i1 + 1) h5 hf
def fX7_takeCells (h : Hp) (a0 : Nat) : Option (Hp) := fX7_takeCells_w2 FUEL a0 (0 : Int32) h
set_option maxHeartbeats 4000000 in
set_option maxRecDepth 100000 in
theorem mX7_takeCells {l : Launch} {g : XG} {h : Hp} {a0 : Nat} {res : Hp} (hf : fX7_takeCells h a0 = some res) : XM l g yX7_takeCells wsX7_takeCells 0 0 0 0 [vR a0] h none res := by
  refine x_start (cc := cX7_takeCells) (maxL := 2) (ret := none) (by decide) rfl (Nat.le_of_ble_eq_true rfl) (lv := [some (vR a0), none]) rfl ?_
  intro p e s m args below meth c C hr hlk hnm
  unfold fX7_takeCells at hf
  refine x_iconst C (v := 0) (by decide) dX7_takeCells_0 (pc' := 1) rfl ?_
  refine x_istore_n C dX7_takeCells_1 (pc' := 2) rfl rfl (by decide) rfl (lv' := [some (vR a0), some (vI (0 : Int32))]) rfl ?_
  refine x_more (k' := 0) (n' := 0) (Nat.le_of_ble_eq_true rfl) (Nat.le_of_ble_eq_true rfl) ?_
  exact mX7_takeCells_w2 C hr hlk hnm FUEL a0 (0 : Int32) h hf
-- ===== X7_row
theorem lkX7_row_0 : Cond.fieldLink RX7 113 "MossRingsModel" "outMany" "I" ∈ wsX7_row := by decide +kernel
theorem hinX7_row_X7 : ∀ w ∈ u_ws RX7 TX7 27, w ∈ wsX7_row := by decide +kernel
theorem lkX7_row_1 : Cond.fieldLink RX7 23 "MossRingsModel" "out" "[B" ∈ wsX7_row := by decide +kernel
theorem lkX7_row_2 : Cond.fieldLink RX7 91 "MossRingsModel" "size" "I" ∈ wsX7_row := by decide +kernel
theorem lkX7_row_3 : Cond.fieldLink RX7 80 "MossRingsModel" "thrown" "I" ∈ wsX7_row := by decide +kernel
theorem lkX7_row_4 : Cond.fieldLink RX7 17 "MossRingsModel" "widths" "[I" ∈ wsX7_row := by decide +kernel
def fX7_row_b89 (a0 : Nat) (h : Hp) : Option (Int32 × Hp) := (gI h a0 7 8).bind fun v1 => some (v1, h)
set_option maxHeartbeats 4000000 in
set_option maxRecDepth 100000 in
theorem mX7_row_b89 {g : XG} {p : Program} {l : Launch} {e : Env} {s : State} {m : MethodId} {args : Array Value} {below : List Frame} {meth : Method} {c : Code} (C : x_C g p s m args c cX7_row RX7 3 wsX7_row) (hr : meth.sig.returnType = (some .int)) (hlk : meth.locks = false) (hnm : meth.name = yX7_row.name) {res : Int32 × Hp} (a0 : Nat) (h : Hp) (hf : fX7_row_b89 a0 h = some res) : XW g p l e { frames := 2, cells := 0, slots := 0, locals := 47 } s m args below meth c (MQ below (x_Q g (some (vI res.1)) res.2) args s 0 0 (x_A g)) 3 0 0 h 89 [some (vR a0), none, none] [] := by
  unfold fX7_row_b89 at hf
  refine x_aload_n C dX7_row_89 (pc' := 90) rfl rfl rfl ?_
  refine x_getI C (ci := 7) (kf := 8) rfl (by decide) hinX7_row_X7 lkX7_row_0 rfl hf dX7_row_90 (pc' := 93) rfl (fun v1 _ hf => ?_)
  cases hf
  exact x_iret C hr hlk dX7_row_93
def fX7_row_w58 : Nat → Nat → Int32 → Int32 → Hp → Option (Int32 × Hp)
  | 0 => fun _ _ _ _ => none
  | n + 1 => fun a0 i1 i2 h => (gI h a0 7 8).bind fun v1 => if v1 ≤ i2 then (fX7_row_b89 a0 h) else ((gR h a0 7 7).bind fun v2 => (gI h a0 7 3).bind fun v3 => call (oK h a0 7 (fX7_leadsTo h a0 i1 i2 v3)) fun r4 h5 => (sI h5 v2 1 i2 (r4).toInt8.toInt32).bind fun h6 => (fX7_row_w58 n) a0 i1 (i2 + 1) h6)
set_option maxHeartbeats 4000000 in
set_option maxRecDepth 100000 in
theorem mX7_row_w58 {g : XG} {p : Program} {l : Launch} {e : Env} {s : State} {m : MethodId} {args : Array Value} {below : List Frame} {meth : Method} {c : Code} (C : x_C g p s m args c cX7_row RX7 3 wsX7_row) (hr : meth.sig.returnType = (some .int)) (hlk : meth.locks = false) (hnm : meth.name = yX7_row.name) {res : Int32 × Hp} : ∀ (n : Nat) (a0 : Nat) (i1 : Int32) (i2 : Int32) (h : Hp), fX7_row_w58 n a0 i1 i2 h = some res → XW g p l e { frames := 2, cells := 0, slots := 0, locals := 47 } s m args below meth c (MQ below (x_Q g (some (vI res.1)) res.2) args s 0 0 (x_A g)) 3 0 0 h 58 [some (vR a0), some (vI i1), some (vI i2)] [] := by
  intro n
  induction n with
  | zero =>
    intro a0 i1 i2 h hf
    have hf2 : (none : Option (Int32 × Hp)) = some res := hf
    cases hf2
  | succ n ih =>
    intro a0 i1 i2 h hf
    rw [fX7_row_w58] at hf
    refine x_iload_n C dX7_row_58 (pc' := 59) rfl rfl rfl ?_
    refine x_aload_n C dX7_row_59 (pc' := 60) rfl rfl rfl ?_
    refine x_getI C (ci := 7) (kf := 8) rfl (by decide) hinX7_row_X7 lkX7_row_0 rfl hf dX7_row_60 (pc' := 63) rfl (fun v1 _ hf => ?_)
    refine x_icmp_ge C hf dX7_row_63 (pc' := 66) rfl (tgt := 89) (by decide) (fun _ hf => ?_) (fun _ hf => ?_)
    ·
      refine x_keep [true, false, false] rfl ?_
      refine x_more (k' := 0) (n' := 0) (Nat.le_of_ble_eq_true rfl) (Nat.le_of_ble_eq_true rfl) ?_
      exact mX7_row_b89 C hr hlk hnm a0 h hf
    ·
      refine x_aload_n C dX7_row_66 (pc' := 67) rfl rfl rfl ?_
      refine x_getR C (ci := 7) (kf := 7) rfl (by decide) hinX7_row_X7 lkX7_row_1 rfl hf dX7_row_67 (pc' := 70) rfl (fun v2 _ hf => ?_)
      refine x_iload_n C dX7_row_70 (pc' := 71) rfl rfl rfl ?_
      refine x_aload_n C dX7_row_71 (pc' := 72) rfl rfl rfl ?_
      refine x_iload_n C dX7_row_72 (pc' := 73) rfl rfl rfl ?_
      refine x_iload_n C dX7_row_73 (pc' := 74) rfl rfl rfl ?_
      refine x_aload_n C dX7_row_74 (pc' := 75) rfl rfl rfl ?_
      refine x_getI C (ci := 7) (kf := 3) rfl (by decide) hinX7_row_X7 lkX7_row_2 rfl hf dX7_row_75 (pc' := 78) rfl (fun v3 _ hf => ?_)
      obtain ⟨r4, h5, hq, hf⟩ := call_some hf
      obtain ⟨hob, hq⟩ := oK_some hq
      refine x_callV C (As := [vI i1, vI i2, vI v3]) (st := [vI i2, vR v2]) (r := (some (vI r4))) (h' := h5) (mc := 0) (ms := 0) (k := 0) (n := 0) (mX7_leadsTo hq) hob (ci := 7) rfl (cwV 3 C.1.2.2.2.2 gX7_row_X7_leadsTo rfl rfl rfl (by decide +kernel) ⟨Nat.le_of_ble_eq_true rfl, Nat.le_of_ble_eq_true rfl⟩) rfl rfl (Nat.le_of_ble_eq_true rfl) dX7_row_78 (pc' := 81) rfl ?_
      refine x_i2b C dX7_row_81 (pc' := 82) rfl ?_
      refine x_bastoreB C hf dX7_row_82 (pc' := 83) rfl (fun h6 _ hf => ?_)
      refine x_iinc C dX7_row_83 (pc' := 86) rfl rfl (v := (i2 + 1)) rfl (by decide) rfl (lv' := [some (vR a0), some (vI i1), some (vI (i2 + 1))]) rfl ?_
      refine x_goto C dX7_row_86 (tgt := 58) (by decide) ?_
      exact ih a0 i1 (i2 + 1) h6 hf
def fX7_row (h : Hp) (a0 : Nat) (i1 : Int32) : Option (Int32 × Hp) := (pF h a0 7 0 (vI (0 : Int32))).bind fun h1 => (oK h1 a0 7 (fX7_taken h1 a0)).bind fun h3 => call (oK h3 a0 7 (fX7_has h3 a0 i1)) fun r4 h5 => if r4 = 0 then (some ((-1 : Int32), h5)) else ((gR h5 a0 7 5).bind fun v6 => (aI h5 v6 0 i1).bind fun v7 => call (oK h5 a0 7 (fX7_areStates h5 a0 i1 v7 (100 : Int32))) fun r8 h9 => if r8 = 0 then (some ((-1 : Int32), h9)) else ((oK h9 a0 7 (fX7_takeCells h9 a0)).bind fun h11 => (gI h11 a0 7 3).bind fun v12 => (gR h11 a0 7 5).bind fun v13 => (aI h11 v13 0 i1).bind fun v14 => (pF h11 a0 7 8 (vI ((v12 - v14) + (1 : Int32)))).bind fun h15 => fX7_row_w58 FUEL a0 i1 (0 : Int32) h15))
set_option maxHeartbeats 4000000 in
set_option maxRecDepth 100000 in
theorem mX7_row {l : Launch} {g : XG} {h : Hp} {a0 : Nat} {i1 : Int32} {res : Int32 × Hp} (hf : fX7_row h a0 i1 = some res) : XM l g yX7_row wsX7_row 2 47 0 0 [vR a0, vI i1] h (some (vI res.1)) res.2 := by
  refine x_start (cc := cX7_row) (maxL := 3) (ret := (some .int)) (by decide) rfl (Nat.le_of_ble_eq_true rfl) (lv := [some (vR a0), some (vI i1), none]) rfl ?_
  intro p e s m args below meth c C hr hlk hnm
  unfold fX7_row at hf
  refine x_aload_n C dX7_row_0 (pc' := 1) rfl rfl rfl ?_
  refine x_iconst C (v := 0) (by decide) dX7_row_1 (pc' := 2) rfl ?_
  refine x_put C (ci := 7) (kf := 0) rfl (by decide) hinX7_row_X7 tyX7 tyX7_ok nmX7 lkX7_row_3 rfl (Or.inl rfl) rfl hf dX7_row_2 (pc' := 5) rfl (fun h1 _ hf => ?_)
  refine x_aload_n C dX7_row_5 (pc' := 6) rfl rfl rfl ?_
  obtain ⟨h3, hq, hf⟩ := bind_some hf
  obtain ⟨hob, hq⟩ := oK_some hq
  refine x_callV C (As := []) (st := []) (r := none) (h' := h3) (mc := 0) (ms := 0) (k := 0) (n := 0) (mX7_taken hq) hob (ci := 7) rfl (cwV 0 C.1.2.2.2.2 gX7_row_X7_taken rfl rfl rfl (by decide +kernel) ⟨Nat.le_of_ble_eq_true rfl, Nat.le_of_ble_eq_true rfl⟩) rfl rfl (Nat.le_of_ble_eq_true rfl) dX7_row_6 (pc' := 9) rfl ?_
  refine x_aload_n C dX7_row_9 (pc' := 10) rfl rfl rfl ?_
  refine x_iload_n C dX7_row_10 (pc' := 11) rfl rfl rfl ?_
  obtain ⟨r4, h5, hq, hf⟩ := call_some hf
  obtain ⟨hob, hq⟩ := oK_some hq
  refine x_callV C (As := [vI i1]) (st := []) (r := (some (vI r4))) (h' := h5) (mc := 0) (ms := 0) (k := 0) (n := 0) (mX7_has hq) hob (ci := 7) rfl (cwV 1 C.1.2.2.2.2 gX7_row_X7_has rfl rfl rfl (by decide +kernel) ⟨Nat.le_of_ble_eq_true rfl, Nat.le_of_ble_eq_true rfl⟩) rfl rfl (Nat.le_of_ble_eq_true rfl) dX7_row_11 (pc' := 14) rfl ?_
  refine x_if_eq C hf dX7_row_14 (pc' := 17) rfl (tgt := 33) (by decide) (fun _ hf => ?_) (fun _ hf => ?_)
  ·
    refine x_iconst C (v := -1) (by decide) dX7_row_33 (pc' := 34) rfl ?_
    cases hf
    exact x_iret C hr hlk dX7_row_34
  ·
    refine x_aload_n C dX7_row_17 (pc' := 18) rfl rfl rfl ?_
    refine x_iload_n C dX7_row_18 (pc' := 19) rfl rfl rfl ?_
    refine x_aload_n C dX7_row_19 (pc' := 20) rfl rfl rfl ?_
    refine x_getR C (ci := 7) (kf := 5) rfl (by decide) hinX7_row_X7 lkX7_row_4 rfl hf dX7_row_20 (pc' := 23) rfl (fun v6 _ hf => ?_)
    refine x_iload_n C dX7_row_23 (pc' := 24) rfl rfl rfl ?_
    refine x_iaload C hf dX7_row_24 (pc' := 25) rfl (fun v7 _ hf => ?_)
    refine x_bipush C (v := 100) (by decide) dX7_row_25 (pc' := 27) rfl ?_
    obtain ⟨r8, h9, hq, hf⟩ := call_some hf
    obtain ⟨hob, hq⟩ := oK_some hq
    refine x_callV C (As := [vI i1, vI v7, vI (100 : Int32)]) (st := []) (r := (some (vI r8))) (h' := h9) (mc := 0) (ms := 0) (k := 0) (n := 0) (mX7_areStates hq) hob (ci := 7) rfl (cwV 3 C.1.2.2.2.2 gX7_row_X7_areStates rfl rfl rfl (by decide +kernel) ⟨Nat.le_of_ble_eq_true rfl, Nat.le_of_ble_eq_true rfl⟩) rfl rfl (Nat.le_of_ble_eq_true rfl) dX7_row_27 (pc' := 30) rfl ?_
    refine x_if_ne C hf dX7_row_30 (pc' := 33) rfl (tgt := 35) (by decide) (fun _ hf => ?_) (fun _ hf => ?_)
    ·
      refine x_iconst C (v := -1) (by decide) dX7_row_33 (pc' := 34) rfl ?_
      cases hf
      exact x_iret C hr hlk dX7_row_34
    ·
      refine x_aload_n C dX7_row_35 (pc' := 36) rfl rfl rfl ?_
      obtain ⟨h11, hq, hf⟩ := bind_some hf
      obtain ⟨hob, hq⟩ := oK_some hq
      refine x_callV C (As := []) (st := []) (r := none) (h' := h11) (mc := 0) (ms := 0) (k := 0) (n := 0) (mX7_takeCells hq) hob (ci := 7) rfl (cwV 0 C.1.2.2.2.2 gX7_row_X7_takeCells rfl rfl rfl (by decide +kernel) ⟨Nat.le_of_ble_eq_true rfl, Nat.le_of_ble_eq_true rfl⟩) rfl rfl (Nat.le_of_ble_eq_true rfl) dX7_row_36 (pc' := 39) rfl ?_
      refine x_aload_n C dX7_row_39 (pc' := 40) rfl rfl rfl ?_
      refine x_aload_n C dX7_row_40 (pc' := 41) rfl rfl rfl ?_
      refine x_getI C (ci := 7) (kf := 3) rfl (by decide) hinX7_row_X7 lkX7_row_2 rfl hf dX7_row_41 (pc' := 44) rfl (fun v12 _ hf => ?_)
      refine x_aload_n C dX7_row_44 (pc' := 45) rfl rfl rfl ?_
      refine x_getR C (ci := 7) (kf := 5) rfl (by decide) hinX7_row_X7 lkX7_row_4 rfl hf dX7_row_45 (pc' := 48) rfl (fun v13 _ hf => ?_)
      refine x_iload_n C dX7_row_48 (pc' := 49) rfl rfl rfl ?_
      refine x_iaload C hf dX7_row_49 (pc' := 50) rfl (fun v14 _ hf => ?_)
      refine x_isub C dX7_row_50 (pc' := 51) rfl ?_
      refine x_iconst C (v := 1) (by decide) dX7_row_51 (pc' := 52) rfl ?_
      refine x_iadd C dX7_row_52 (pc' := 53) rfl ?_
      refine x_put C (ci := 7) (kf := 8) rfl (by decide) hinX7_row_X7 tyX7 tyX7_ok nmX7 lkX7_row_0 rfl (Or.inl rfl) rfl hf dX7_row_53 (pc' := 56) rfl (fun h15 _ hf => ?_)
      refine x_iconst C (v := 0) (by decide) dX7_row_56 (pc' := 57) rfl ?_
      refine x_istore_n C dX7_row_57 (pc' := 58) rfl rfl (by decide) rfl (lv' := [some (vR a0), some (vI i1), some (vI (0 : Int32))]) rfl ?_
      refine x_more (k' := 0) (n' := 0) (Nat.le_of_ble_eq_true rfl) (Nat.le_of_ble_eq_true rfl) ?_
      exact mX7_row_w58 C hr hlk hnm FUEL a0 i1 (0 : Int32) h15 hf
-- ===== X7_ring
theorem lkX7_ring_0 : Cond.fieldLink RX7 91 "MossRingsModel" "size" "I" ∈ wsX7_ring := by decide +kernel
theorem hinX7_ring_X7 : ∀ w ∈ u_ws RX7 TX7 27, w ∈ wsX7_ring := by decide +kernel
theorem lkX7_ring_1 : Cond.fieldLink RX7 23 "MossRingsModel" "out" "[B" ∈ wsX7_ring := by decide +kernel
theorem lkX7_ring_2 : Cond.fieldLink RX7 26 "MossRingsModel" "cells" "[I" ∈ wsX7_ring := by decide +kernel
theorem lkX7_ring_3 : Cond.fieldLink RX7 113 "MossRingsModel" "outMany" "I" ∈ wsX7_ring := by decide +kernel
theorem lkX7_ring_4 : Cond.fieldLink RX7 80 "MossRingsModel" "thrown" "I" ∈ wsX7_ring := by decide +kernel
def fX7_ring_b104 (a0 : Nat) (h : Hp) : Option (Int32 × Hp) := (gI h a0 7 3).bind fun v1 => some (v1, h)
set_option maxHeartbeats 4000000 in
set_option maxRecDepth 100000 in
theorem mX7_ring_b104 {g : XG} {p : Program} {l : Launch} {e : Env} {s : State} {m : MethodId} {args : Array Value} {below : List Frame} {meth : Method} {c : Code} (C : x_C g p s m args c cX7_ring RX7 4 wsX7_ring) (hr : meth.sig.returnType = (some .int)) (hlk : meth.locks = false) (hnm : meth.name = yX7_ring.name) {res : Int32 × Hp} (a0 : Nat) (h : Hp) (hf : fX7_ring_b104 a0 h = some res) : XW g p l e { frames := 3, cells := 0, slots := 0, locals := 70 } s m args below meth c (MQ below (x_Q g (some (vI res.1)) res.2) args s 0 0 (x_A g)) 4 0 0 h 104 [some (vR a0), none, none, none] [] := by
  unfold fX7_ring_b104 at hf
  refine x_aload_n C dX7_ring_104 (pc' := 105) rfl rfl rfl ?_
  refine x_getI C (ci := 7) (kf := 3) rfl (by decide) hinX7_ring_X7 lkX7_ring_0 rfl hf dX7_ring_105 (pc' := 108) rfl (fun v1 _ hf => ?_)
  cases hf
  exact x_iret C hr hlk dX7_ring_108
def fX7_ring_w77 : Nat → Nat → Int32 → Hp → Option (Int32 × Hp)
  | 0 => fun _ _ _ => none
  | n + 1 => fun a0 i3 h => (gI h a0 7 3).bind fun v1 => if v1 ≤ i3 then (fX7_ring_b104 a0 h) else ((gR h a0 7 7).bind fun v2 => (gR h a0 7 9).bind fun v3 => (aI h v3 0 i3).bind fun v4 => (sI h v2 1 i3 (v4).toInt8.toInt32).bind fun h5 => (fX7_ring_w77 n) a0 (i3 + 1) h5)
set_option maxHeartbeats 4000000 in
set_option maxRecDepth 100000 in
theorem mX7_ring_w77 {g : XG} {p : Program} {l : Launch} {e : Env} {s : State} {m : MethodId} {args : Array Value} {below : List Frame} {meth : Method} {c : Code} (C : x_C g p s m args c cX7_ring RX7 4 wsX7_ring) (hr : meth.sig.returnType = (some .int)) (hlk : meth.locks = false) (hnm : meth.name = yX7_ring.name) {res : Int32 × Hp} : ∀ (n : Nat) (a0 : Nat) (i3 : Int32) (h : Hp), fX7_ring_w77 n a0 i3 h = some res → XW g p l e { frames := 3, cells := 0, slots := 0, locals := 70 } s m args below meth c (MQ below (x_Q g (some (vI res.1)) res.2) args s 0 0 (x_A g)) 4 0 0 h 77 [some (vR a0), none, none, some (vI i3)] [] := by
  intro n
  induction n with
  | zero =>
    intro a0 i3 h hf
    have hf2 : (none : Option (Int32 × Hp)) = some res := hf
    cases hf2
  | succ n ih =>
    intro a0 i3 h hf
    rw [fX7_ring_w77] at hf
    refine x_iload_n C dX7_ring_77 (pc' := 78) rfl rfl rfl ?_
    refine x_aload_n C dX7_ring_78 (pc' := 79) rfl rfl rfl ?_
    refine x_getI C (ci := 7) (kf := 3) rfl (by decide) hinX7_ring_X7 lkX7_ring_0 rfl hf dX7_ring_79 (pc' := 82) rfl (fun v1 _ hf => ?_)
    refine x_icmp_ge C hf dX7_ring_82 (pc' := 85) rfl (tgt := 104) (by decide) (fun _ hf => ?_) (fun _ hf => ?_)
    ·
      refine x_keep [true, false, false, false] rfl ?_
      refine x_more (k' := 0) (n' := 0) (Nat.le_of_ble_eq_true rfl) (Nat.le_of_ble_eq_true rfl) ?_
      exact mX7_ring_b104 C hr hlk hnm a0 h hf
    ·
      refine x_aload_n C dX7_ring_85 (pc' := 86) rfl rfl rfl ?_
      refine x_getR C (ci := 7) (kf := 7) rfl (by decide) hinX7_ring_X7 lkX7_ring_1 rfl hf dX7_ring_86 (pc' := 89) rfl (fun v2 _ hf => ?_)
      refine x_iload_n C dX7_ring_89 (pc' := 90) rfl rfl rfl ?_
      refine x_aload_n C dX7_ring_90 (pc' := 91) rfl rfl rfl ?_
      refine x_getR C (ci := 7) (kf := 9) rfl (by decide) hinX7_ring_X7 lkX7_ring_2 rfl hf dX7_ring_91 (pc' := 94) rfl (fun v3 _ hf => ?_)
      refine x_iload_n C dX7_ring_94 (pc' := 95) rfl rfl rfl ?_
      refine x_iaload C hf dX7_ring_95 (pc' := 96) rfl (fun v4 _ hf => ?_)
      refine x_i2b C dX7_ring_96 (pc' := 97) rfl ?_
      refine x_bastoreB C hf dX7_ring_97 (pc' := 98) rfl (fun h5 _ hf => ?_)
      refine x_iinc C dX7_ring_98 (pc' := 101) rfl rfl (v := (i3 + 1)) rfl (by decide) rfl (lv' := [some (vR a0), none, none, some (vI (i3 + 1))]) rfl ?_
      refine x_goto C dX7_ring_101 (tgt := 77) (by decide) ?_
      exact ih a0 (i3 + 1) h5 hf
def fX7_ring_b67 (a0 : Nat) (h : Hp) : Option (Int32 × Hp) := (gI h a0 7 3).bind fun v1 => (pF h a0 7 8 (vI v1)).bind fun h2 => fX7_ring_w77 FUEL a0 (0 : Int32) h2
set_option maxHeartbeats 4000000 in
set_option maxRecDepth 100000 in
theorem mX7_ring_b67 {g : XG} {p : Program} {l : Launch} {e : Env} {s : State} {m : MethodId} {args : Array Value} {below : List Frame} {meth : Method} {c : Code} (C : x_C g p s m args c cX7_ring RX7 4 wsX7_ring) (hr : meth.sig.returnType = (some .int)) (hlk : meth.locks = false) (hnm : meth.name = yX7_ring.name) {res : Int32 × Hp} (a0 : Nat) (h : Hp) (hf : fX7_ring_b67 a0 h = some res) : XW g p l e { frames := 3, cells := 0, slots := 0, locals := 70 } s m args below meth c (MQ below (x_Q g (some (vI res.1)) res.2) args s 0 0 (x_A g)) 4 0 0 h 67 [some (vR a0), none, none, none] [] := by
  unfold fX7_ring_b67 at hf
  refine x_aload_n C dX7_ring_67 (pc' := 68) rfl rfl rfl ?_
  refine x_aload_n C dX7_ring_68 (pc' := 69) rfl rfl rfl ?_
  refine x_getI C (ci := 7) (kf := 3) rfl (by decide) hinX7_ring_X7 lkX7_ring_0 rfl hf dX7_ring_69 (pc' := 72) rfl (fun v1 _ hf => ?_)
  refine x_put C (ci := 7) (kf := 8) rfl (by decide) hinX7_ring_X7 tyX7 tyX7_ok nmX7 lkX7_ring_3 rfl (Or.inl rfl) rfl hf dX7_ring_72 (pc' := 75) rfl (fun h2 _ hf => ?_)
  refine x_iconst C (v := 0) (by decide) dX7_ring_75 (pc' := 76) rfl ?_
  refine x_istore_n C dX7_ring_76 (pc' := 77) rfl rfl (by decide) rfl (lv' := [some (vR a0), none, none, some (vI (0 : Int32))]) rfl ?_
  refine x_more (k' := 0) (n' := 0) (Nat.le_of_ble_eq_true rfl) (Nat.le_of_ble_eq_true rfl) ?_
  exact mX7_ring_w77 C hr hlk hnm FUEL a0 (0 : Int32) h2 hf
def fX7_ring_w47 : Nat → Nat → Int32 → Int32 → Int32 → Hp → Option (Int32 × Hp)
  | 0 => fun _ _ _ _ _ => none
  | n + 1 => fun a0 i1 i2 i3 h => if i2 ≤ i3 then (fX7_ring_b67 a0 h) else ((gI h a0 7 3).bind fun v1 => (oK h a0 7 (fX7_step h a0 i1 v1)).bind fun h3 => (fX7_ring_w47 n) a0 i1 i2 (i3 + 1) h3)
set_option maxHeartbeats 4000000 in
set_option maxRecDepth 100000 in
theorem mX7_ring_w47 {g : XG} {p : Program} {l : Launch} {e : Env} {s : State} {m : MethodId} {args : Array Value} {below : List Frame} {meth : Method} {c : Code} (C : x_C g p s m args c cX7_ring RX7 4 wsX7_ring) (hr : meth.sig.returnType = (some .int)) (hlk : meth.locks = false) (hnm : meth.name = yX7_ring.name) {res : Int32 × Hp} : ∀ (n : Nat) (a0 : Nat) (i1 : Int32) (i2 : Int32) (i3 : Int32) (h : Hp), fX7_ring_w47 n a0 i1 i2 i3 h = some res → XW g p l e { frames := 3, cells := 0, slots := 0, locals := 70 } s m args below meth c (MQ below (x_Q g (some (vI res.1)) res.2) args s 0 0 (x_A g)) 4 0 0 h 47 [some (vR a0), some (vI i1), some (vI i2), some (vI i3)] [] := by
  intro n
  induction n with
  | zero =>
    intro a0 i1 i2 i3 h hf
    have hf2 : (none : Option (Int32 × Hp)) = some res := hf
    cases hf2
  | succ n ih =>
    intro a0 i1 i2 i3 h hf
    rw [fX7_ring_w47] at hf
    refine x_iload_n C dX7_ring_47 (pc' := 48) rfl rfl rfl ?_
    refine x_iload_n C dX7_ring_48 (pc' := 49) rfl rfl rfl ?_
    refine x_icmp_ge C hf dX7_ring_49 (pc' := 52) rfl (tgt := 67) (by decide) (fun _ hf => ?_) (fun _ hf => ?_)
    ·
      refine x_keep [true, false, false, false] rfl ?_
      refine x_more (k' := 0) (n' := 0) (Nat.le_of_ble_eq_true rfl) (Nat.le_of_ble_eq_true rfl) ?_
      exact mX7_ring_b67 C hr hlk hnm a0 h hf
    ·
      refine x_aload_n C dX7_ring_52 (pc' := 53) rfl rfl rfl ?_
      refine x_iload_n C dX7_ring_53 (pc' := 54) rfl rfl rfl ?_
      refine x_aload_n C dX7_ring_54 (pc' := 55) rfl rfl rfl ?_
      refine x_getI C (ci := 7) (kf := 3) rfl (by decide) hinX7_ring_X7 lkX7_ring_0 rfl hf dX7_ring_55 (pc' := 58) rfl (fun v1 _ hf => ?_)
      obtain ⟨h3, hq, hf⟩ := bind_some hf
      obtain ⟨hob, hq⟩ := oK_some hq
      refine x_callV C (As := [vI i1, vI v1]) (st := []) (r := none) (h' := h3) (mc := 0) (ms := 0) (k := 0) (n := 0) (mX7_step hq) hob (ci := 7) rfl (cwV 2 C.1.2.2.2.2 gX7_ring_X7_step rfl rfl rfl (by decide +kernel) ⟨Nat.le_of_ble_eq_true rfl, Nat.le_of_ble_eq_true rfl⟩) rfl rfl (Nat.le_of_ble_eq_true rfl) dX7_ring_58 (pc' := 61) rfl ?_
      refine x_iinc C dX7_ring_61 (pc' := 64) rfl rfl (v := (i3 + 1)) rfl (by decide) rfl (lv' := [some (vR a0), some (vI i1), some (vI i2), some (vI (i3 + 1))]) rfl ?_
      refine x_goto C dX7_ring_64 (tgt := 47) (by decide) ?_
      exact ih a0 i1 i2 (i3 + 1) h3 hf
def fX7_ring (h : Hp) (a0 : Nat) (i1 : Int32) (i2 : Int32) : Option (Int32 × Hp) := (pF h a0 7 0 (vI (0 : Int32))).bind fun h1 => (oK h1 a0 7 (fX7_taken h1 a0)).bind fun h3 => call (oK h3 a0 7 (fX7_has h3 a0 i1)) fun r4 h5 => if r4 = 0 then (some ((-1 : Int32), h5)) else (if i2 < 0 then (some ((-1 : Int32), h5)) else (if (1000 : Int32) < i2 then (some ((-1 : Int32), h5)) else (call (oK h5 a0 7 (fX7_areStates h5 a0 i1 (1 : Int32) (100 : Int32))) fun r6 h7 => if r6 = 0 then (some ((-1 : Int32), h7)) else ((oK h7 a0 7 (fX7_takeCells h7 a0)).bind fun h9 => fX7_ring_w47 FUEL a0 i1 i2 (0 : Int32) h9))))
set_option maxHeartbeats 4000000 in
set_option maxRecDepth 100000 in
theorem mX7_ring {l : Launch} {g : XG} {h : Hp} {a0 : Nat} {i1 : Int32} {i2 : Int32} {res : Int32 × Hp} (hf : fX7_ring h a0 i1 i2 = some res) : XM l g yX7_ring wsX7_ring 3 70 0 0 [vR a0, vI i1, vI i2] h (some (vI res.1)) res.2 := by
  refine x_start (cc := cX7_ring) (maxL := 4) (ret := (some .int)) (by decide) rfl (Nat.le_of_ble_eq_true rfl) (lv := [some (vR a0), some (vI i1), some (vI i2), none]) rfl ?_
  intro p e s m args below meth c C hr hlk hnm
  unfold fX7_ring at hf
  refine x_aload_n C dX7_ring_0 (pc' := 1) rfl rfl rfl ?_
  refine x_iconst C (v := 0) (by decide) dX7_ring_1 (pc' := 2) rfl ?_
  refine x_put C (ci := 7) (kf := 0) rfl (by decide) hinX7_ring_X7 tyX7 tyX7_ok nmX7 lkX7_ring_4 rfl (Or.inl rfl) rfl hf dX7_ring_2 (pc' := 5) rfl (fun h1 _ hf => ?_)
  refine x_aload_n C dX7_ring_5 (pc' := 6) rfl rfl rfl ?_
  obtain ⟨h3, hq, hf⟩ := bind_some hf
  obtain ⟨hob, hq⟩ := oK_some hq
  refine x_callV C (As := []) (st := []) (r := none) (h' := h3) (mc := 0) (ms := 0) (k := 0) (n := 0) (mX7_taken hq) hob (ci := 7) rfl (cwV 0 C.1.2.2.2.2 gX7_ring_X7_taken rfl rfl rfl (by decide +kernel) ⟨Nat.le_of_ble_eq_true rfl, Nat.le_of_ble_eq_true rfl⟩) rfl rfl (Nat.le_of_ble_eq_true rfl) dX7_ring_6 (pc' := 9) rfl ?_
  refine x_aload_n C dX7_ring_9 (pc' := 10) rfl rfl rfl ?_
  refine x_iload_n C dX7_ring_10 (pc' := 11) rfl rfl rfl ?_
  obtain ⟨r4, h5, hq, hf⟩ := call_some hf
  obtain ⟨hob, hq⟩ := oK_some hq
  refine x_callV C (As := [vI i1]) (st := []) (r := (some (vI r4))) (h' := h5) (mc := 0) (ms := 0) (k := 0) (n := 0) (mX7_has hq) hob (ci := 7) rfl (cwV 1 C.1.2.2.2.2 gX7_ring_X7_has rfl rfl rfl (by decide +kernel) ⟨Nat.le_of_ble_eq_true rfl, Nat.le_of_ble_eq_true rfl⟩) rfl rfl (Nat.le_of_ble_eq_true rfl) dX7_ring_11 (pc' := 14) rfl ?_
  refine x_if_eq C hf dX7_ring_14 (pc' := 17) rfl (tgt := 39) (by decide) (fun _ hf => ?_) (fun _ hf => ?_)
  ·
    refine x_iconst C (v := -1) (by decide) dX7_ring_39 (pc' := 40) rfl ?_
    cases hf
    exact x_iret C hr hlk dX7_ring_40
  ·
    refine x_iload_n C dX7_ring_17 (pc' := 18) rfl rfl rfl ?_
    refine x_if_lt C hf dX7_ring_18 (pc' := 21) rfl (tgt := 39) (by decide) (fun _ hf => ?_) (fun _ hf => ?_)
    ·
      refine x_iconst C (v := -1) (by decide) dX7_ring_39 (pc' := 40) rfl ?_
      cases hf
      exact x_iret C hr hlk dX7_ring_40
    ·
      refine x_iload_n C dX7_ring_21 (pc' := 22) rfl rfl rfl ?_
      refine x_sipush C (v := 1000) (by decide) dX7_ring_22 (pc' := 25) rfl ?_
      refine x_icmp_gt C hf dX7_ring_25 (pc' := 28) rfl (tgt := 39) (by decide) (fun _ hf => ?_) (fun _ hf => ?_)
      ·
        refine x_iconst C (v := -1) (by decide) dX7_ring_39 (pc' := 40) rfl ?_
        cases hf
        exact x_iret C hr hlk dX7_ring_40
      ·
        refine x_aload_n C dX7_ring_28 (pc' := 29) rfl rfl rfl ?_
        refine x_iload_n C dX7_ring_29 (pc' := 30) rfl rfl rfl ?_
        refine x_iconst C (v := 1) (by decide) dX7_ring_30 (pc' := 31) rfl ?_
        refine x_bipush C (v := 100) (by decide) dX7_ring_31 (pc' := 33) rfl ?_
        obtain ⟨r6, h7, hq, hf⟩ := call_some hf
        obtain ⟨hob, hq⟩ := oK_some hq
        refine x_callV C (As := [vI i1, vI (1 : Int32), vI (100 : Int32)]) (st := []) (r := (some (vI r6))) (h' := h7) (mc := 0) (ms := 0) (k := 0) (n := 0) (mX7_areStates hq) hob (ci := 7) rfl (cwV 3 C.1.2.2.2.2 gX7_ring_X7_areStates rfl rfl rfl (by decide +kernel) ⟨Nat.le_of_ble_eq_true rfl, Nat.le_of_ble_eq_true rfl⟩) rfl rfl (Nat.le_of_ble_eq_true rfl) dX7_ring_33 (pc' := 36) rfl ?_
        refine x_if_ne C hf dX7_ring_36 (pc' := 39) rfl (tgt := 41) (by decide) (fun _ hf => ?_) (fun _ hf => ?_)
        ·
          refine x_iconst C (v := -1) (by decide) dX7_ring_39 (pc' := 40) rfl ?_
          cases hf
          exact x_iret C hr hlk dX7_ring_40
        ·
          refine x_aload_n C dX7_ring_41 (pc' := 42) rfl rfl rfl ?_
          obtain ⟨h9, hq, hf⟩ := bind_some hf
          obtain ⟨hob, hq⟩ := oK_some hq
          refine x_callV C (As := []) (st := []) (r := none) (h' := h9) (mc := 0) (ms := 0) (k := 0) (n := 0) (mX7_takeCells hq) hob (ci := 7) rfl (cwV 0 C.1.2.2.2.2 gX7_ring_X7_takeCells rfl rfl rfl (by decide +kernel) ⟨Nat.le_of_ble_eq_true rfl, Nat.le_of_ble_eq_true rfl⟩) rfl rfl (Nat.le_of_ble_eq_true rfl) dX7_ring_42 (pc' := 45) rfl ?_
          refine x_iconst C (v := 0) (by decide) dX7_ring_45 (pc' := 46) rfl ?_
          refine x_istore_n C dX7_ring_46 (pc' := 47) rfl rfl (by decide) rfl (lv' := [some (vR a0), some (vI i1), some (vI i2), some (vI (0 : Int32))]) rfl ?_
          refine x_more (k' := 0) (n' := 0) (Nat.le_of_ble_eq_true rfl) (Nat.le_of_ble_eq_true rfl) ?_
          exact mX7_ring_w47 C hr hlk hnm FUEL a0 i1 i2 (0 : Int32) h9 hf
-- ===== X7_overlaps
theorem lkX7_overlaps_0 : Cond.fieldLink RX7 13 "MossRingsModel" "states" "[I" ∈ wsX7_overlaps := by decide +kernel
theorem hinX7_overlaps_X7 : ∀ w ∈ u_ws RX7 TX7 27, w ∈ wsX7_overlaps := by decide +kernel
theorem lkX7_overlaps_1 : Cond.fieldLink RX7 17 "MossRingsModel" "widths" "[I" ∈ wsX7_overlaps := by decide +kernel
def fX7_overlaps (h : Hp) (a0 : Nat) (i1 : Int32) : Option (Int32 × Hp) := (gR h a0 7 4).bind fun v1 => (aI h v1 0 i1).bind fun v2 => (gR h a0 7 5).bind fun v3 => (aI h v3 0 i1).bind fun v4 => call (fX7_power h v2 (v4 - (1 : Int32))) fun r5 h6 => some (r5, h6)
set_option maxHeartbeats 4000000 in
set_option maxRecDepth 100000 in
theorem mX7_overlaps {l : Launch} {g : XG} {h : Hp} {a0 : Nat} {i1 : Int32} {res : Int32 × Hp} (hf : fX7_overlaps h a0 i1 = some res) : XM l g yX7_overlaps wsX7_overlaps 1 23 0 0 [vR a0, vI i1] h (some (vI res.1)) res.2 := by
  refine x_start (cc := cX7_overlaps) (maxL := 2) (ret := (some .int)) (by decide) rfl (Nat.le_of_ble_eq_true rfl) (lv := [some (vR a0), some (vI i1)]) rfl ?_
  intro p e s m args below meth c C hr hlk hnm
  unfold fX7_overlaps at hf
  refine x_aload_n C dX7_overlaps_0 (pc' := 1) rfl rfl rfl ?_
  refine x_getR C (ci := 7) (kf := 4) rfl (by decide) hinX7_overlaps_X7 lkX7_overlaps_0 rfl hf dX7_overlaps_1 (pc' := 4) rfl (fun v1 _ hf => ?_)
  refine x_iload_n C dX7_overlaps_4 (pc' := 5) rfl rfl rfl ?_
  refine x_iaload C hf dX7_overlaps_5 (pc' := 6) rfl (fun v2 _ hf => ?_)
  refine x_aload_n C dX7_overlaps_6 (pc' := 7) rfl rfl rfl ?_
  refine x_getR C (ci := 7) (kf := 5) rfl (by decide) hinX7_overlaps_X7 lkX7_overlaps_1 rfl hf dX7_overlaps_7 (pc' := 10) rfl (fun v3 _ hf => ?_)
  refine x_iload_n C dX7_overlaps_10 (pc' := 11) rfl rfl rfl ?_
  refine x_iaload C hf dX7_overlaps_11 (pc' := 12) rfl (fun v4 _ hf => ?_)
  refine x_iconst C (v := 1) (by decide) dX7_overlaps_12 (pc' := 13) rfl ?_
  refine x_isub C dX7_overlaps_13 (pc' := 14) rfl ?_
  obtain ⟨r5, h6, hq, hf⟩ := call_some hf
  refine x_callS C (As := [vI v2, vI (v4 - (1 : Int32))]) (st := []) (r := (some (vI r5))) (h' := h6) (mc := 0) (ms := 0) (k := 0) (n := 0) (mX7_power hq) (va_cwS 2 C.1.2.2.2.2 gX7_overlaps_X7_power rfl rfl rfl (by decide +kernel) ⟨Nat.le_of_ble_eq_true rfl, Nat.le_of_ble_eq_true rfl⟩) rfl rfl (Nat.le_of_ble_eq_true rfl) dX7_overlaps_14 (pc' := 17) rfl ?_
  cases hf
  exact x_iret C hr hlk dX7_overlaps_17
-- ===== X7_then
theorem lkX7_then_0 : Cond.fieldLink RX7 13 "MossRingsModel" "states" "[I" ∈ wsX7_then := by decide +kernel
theorem hinX7_then_X7 : ∀ w ∈ u_ws RX7 TX7 27, w ∈ wsX7_then := by decide +kernel
def fX7_then (h : Hp) (a0 : Nat) (i1 : Int32) (i2 : Int32) (i3 : Int32) : Option (Int32 × Hp) := (gR h a0 7 4).bind fun v1 => (aI h v1 0 i1).bind fun v2 => call (oK h a0 7 (fX7_overlaps h a0 i1)) fun r3 h4 => iRem ((v2 * i2) + i3) r3 fun v5 => some (v5, h4)
set_option maxHeartbeats 4000000 in
set_option maxRecDepth 100000 in
theorem mX7_then {l : Launch} {g : XG} {h : Hp} {a0 : Nat} {i1 : Int32} {i2 : Int32} {i3 : Int32} {res : Int32 × Hp} (hf : fX7_then h a0 i1 i2 i3 = some res) : XM l g yX7_then wsX7_then 2 44 0 0 [vR a0, vI i1, vI i2, vI i3] h (some (vI res.1)) res.2 := by
  refine x_start (cc := cX7_then) (maxL := 4) (ret := (some .int)) (by decide) rfl (Nat.le_of_ble_eq_true rfl) (lv := [some (vR a0), some (vI i1), some (vI i2), some (vI i3)]) rfl ?_
  intro p e s m args below meth c C hr hlk hnm
  unfold fX7_then at hf
  refine x_aload_n C dX7_then_0 (pc' := 1) rfl rfl rfl ?_
  refine x_getR C (ci := 7) (kf := 4) rfl (by decide) hinX7_then_X7 lkX7_then_0 rfl hf dX7_then_1 (pc' := 4) rfl (fun v1 _ hf => ?_)
  refine x_iload_n C dX7_then_4 (pc' := 5) rfl rfl rfl ?_
  refine x_iaload C hf dX7_then_5 (pc' := 6) rfl (fun v2 _ hf => ?_)
  refine x_iload_n C dX7_then_6 (pc' := 7) rfl rfl rfl ?_
  refine x_imul C dX7_then_7 (pc' := 8) rfl ?_
  refine x_iload_n C dX7_then_8 (pc' := 9) rfl rfl rfl ?_
  refine x_iadd C dX7_then_9 (pc' := 10) rfl ?_
  refine x_aload_n C dX7_then_10 (pc' := 11) rfl rfl rfl ?_
  refine x_iload_n C dX7_then_11 (pc' := 12) rfl rfl rfl ?_
  obtain ⟨r3, h4, hq, hf⟩ := call_some hf
  obtain ⟨hob, hq⟩ := oK_some hq
  refine x_callV C (As := [vI i1]) (st := [vI ((v2 * i2) + i3)]) (r := (some (vI r3))) (h' := h4) (mc := 0) (ms := 0) (k := 0) (n := 0) (mX7_overlaps hq) hob (ci := 7) rfl (cwV 1 C.1.2.2.2.2 gX7_then_X7_overlaps rfl rfl rfl (by decide +kernel) ⟨Nat.le_of_ble_eq_true rfl, Nat.le_of_ble_eq_true rfl⟩) rfl rfl (Nat.le_of_ble_eq_true rfl) dX7_then_12 (pc' := 15) rfl ?_
  refine x_irem C hf dX7_then_15 (pc' := 16) rfl (fun _ v5 _ hf => ?_)
  cases hf
  exact x_iret C hr hlk dX7_then_16
-- ===== X7_count
theorem lkX7_count_0 : Cond.fieldLink RX7 32 "MossRingsModel" "ways" "[J" ∈ wsX7_count := by decide +kernel
theorem hinX7_count_X7 : ∀ w ∈ u_ws RX7 TX7 27, w ∈ wsX7_count := by decide +kernel
theorem lkX7_count_1 : Cond.fieldLink RX7 13 "MossRingsModel" "states" "[I" ∈ wsX7_count := by decide +kernel
theorem lkX7_count_2 : Cond.fieldLink RX7 7 "MossRingsModel" "tape" "[B" ∈ wsX7_count := by decide +kernel
theorem lkX7_count_3 : Cond.fieldLink RX7 91 "MossRingsModel" "size" "I" ∈ wsX7_count := by decide +kernel
def fX7_count_b171 (w59 : Nat → Int32 → Int32 → Int32 → Hp → Option (Hp)) (a0 : Nat) (i1 : Int32) (i3 : Int32) (i4 : Int32) (h : Hp) : Option (Hp) := w59 a0 i1 i3 (i4 + (-1)) h
set_option maxHeartbeats 4000000 in
set_option maxRecDepth 100000 in
theorem mX7_count_b171 {g : XG} {p : Program} {l : Launch} {e : Env} {s : State} {m : MethodId} {args : Array Value} {below : List Frame} {meth : Method} {c : Code} (C : x_C g p s m args c cX7_count RX7 9 wsX7_count) (hr : meth.sig.returnType = none) (hlk : meth.locks = false) (hnm : meth.name = yX7_count.name) {res : Hp} (w59 : Nat → Int32 → Int32 → Int32 → Hp → Option (Hp)) (hw59 : ∀ (a0 : Nat) (i1 : Int32) (i3 : Int32) (i4 : Int32) (h : Hp), w59 a0 i1 i3 i4 h = some res → XW g p l e { frames := 3, cells := 0, slots := 0, locals := 67 } s m args below meth c (MQ below (x_Q g none res) args s 0 0 (x_A g)) 9 0 0 h 59 [some (vR a0), some (vI i1), none, some (vI i3), some (vI i4), none, none, none, none] []) (a0 : Nat) (i1 : Int32) (i3 : Int32) (i4 : Int32) (h : Hp) (hf : fX7_count_b171 w59 a0 i1 i3 i4 h = some res) : XW g p l e { frames := 3, cells := 0, slots := 0, locals := 67 } s m args below meth c (MQ below (x_Q g none res) args s 0 0 (x_A g)) 9 0 0 h 171 [some (vR a0), some (vI i1), none, some (vI i3), some (vI i4), none, none, none, none] [] := by
  unfold fX7_count_b171 at hf
  refine x_iinc C dX7_count_171 (pc' := 174) rfl rfl (v := (i4 + (-1))) rfl (by decide) rfl (lv' := [some (vR a0), some (vI i1), none, some (vI i3), some (vI (i4 + (-1))), none, none, none, none]) rfl ?_
  refine x_goto C dX7_count_174 (tgt := 59) (by decide) ?_
  exact hw59 a0 i1 i3 (i4 + (-1)) h hf
def fX7_count_b150 (w59 : Nat → Int32 → Int32 → Int32 → Hp → Option (Hp)) (w67 : Nat → Int32 → Int32 → Int32 → Int32 → Hp → Option (Hp)) (a0 : Nat) (i1 : Int32) (i3 : Int32) (i4 : Int32) (i5 : Int32) (j6 : Int64) (h : Hp) : Option (Hp) := (gR h a0 7 11).bind fun v1 => (sL h v1 (((9 : Int32) * i4) + i5) j6).bind fun h2 => w67 a0 i1 i3 i4 (i5 + 1) h2
set_option maxHeartbeats 4000000 in
set_option maxRecDepth 100000 in
theorem mX7_count_b150 {g : XG} {p : Program} {l : Launch} {e : Env} {s : State} {m : MethodId} {args : Array Value} {below : List Frame} {meth : Method} {c : Code} (C : x_C g p s m args c cX7_count RX7 9 wsX7_count) (hr : meth.sig.returnType = none) (hlk : meth.locks = false) (hnm : meth.name = yX7_count.name) {res : Hp} (w59 : Nat → Int32 → Int32 → Int32 → Hp → Option (Hp)) (hw59 : ∀ (a0 : Nat) (i1 : Int32) (i3 : Int32) (i4 : Int32) (h : Hp), w59 a0 i1 i3 i4 h = some res → XW g p l e { frames := 3, cells := 0, slots := 0, locals := 67 } s m args below meth c (MQ below (x_Q g none res) args s 0 0 (x_A g)) 9 0 0 h 59 [some (vR a0), some (vI i1), none, some (vI i3), some (vI i4), none, none, none, none] []) (w67 : Nat → Int32 → Int32 → Int32 → Int32 → Hp → Option (Hp)) (hw67 : ∀ (a0 : Nat) (i1 : Int32) (i3 : Int32) (i4 : Int32) (i5 : Int32) (h : Hp), w67 a0 i1 i3 i4 i5 h = some res → XW g p l e { frames := 3, cells := 0, slots := 0, locals := 67 } s m args below meth c (MQ below (x_Q g none res) args s 0 0 (x_A g)) 9 0 0 h 67 [some (vR a0), some (vI i1), none, some (vI i3), some (vI i4), some (vI i5), none, none, none] []) (a0 : Nat) (i1 : Int32) (i3 : Int32) (i4 : Int32) (i5 : Int32) (j6 : Int64) (h : Hp) (hf : fX7_count_b150 w59 w67 a0 i1 i3 i4 i5 j6 h = some res) : XW g p l e { frames := 3, cells := 0, slots := 0, locals := 67 } s m args below meth c (MQ below (x_Q g none res) args s 0 0 (x_A g)) 9 0 0 h 150 [some (vR a0), some (vI i1), none, some (vI i3), some (vI i4), some (vI i5), some (vL j6), none, none] [] := by
  unfold fX7_count_b150 at hf
  refine x_aload_n C dX7_count_150 (pc' := 151) rfl rfl rfl ?_
  refine x_getR C (ci := 7) (kf := 11) rfl (by decide) hinX7_count_X7 lkX7_count_0 rfl hf dX7_count_151 (pc' := 154) rfl (fun v1 _ hf => ?_)
  refine x_bipush C (v := 9) (by decide) dX7_count_154 (pc' := 156) rfl ?_
  refine x_iload C dX7_count_156 (pc' := 158) rfl rfl ?_
  refine x_imul C dX7_count_158 (pc' := 159) rfl ?_
  refine x_iload C dX7_count_159 (pc' := 161) rfl rfl ?_
  refine x_iadd C dX7_count_161 (pc' := 162) rfl ?_
  refine x_lload C dX7_count_162 (pc' := 164) rfl rfl ?_
  refine x_lastore C hf dX7_count_164 (pc' := 165) rfl (fun h2 _ hf => ?_)
  refine x_iinc C dX7_count_165 (pc' := 168) rfl rfl (v := (i5 + 1)) rfl (by decide) rfl (lv' := [some (vR a0), some (vI i1), none, some (vI i3), some (vI i4), some (vI (i5 + 1)), some (vL j6), none, none]) rfl ?_
  refine x_goto C dX7_count_168 (tgt := 67) (by decide) ?_
  refine x_keep [true, true, false, true, true, true, false, false, false] rfl ?_
  exact hw67 a0 i1 i3 i4 (i5 + 1) h2 hf
def fX7_count_b144 (w59 : Nat → Int32 → Int32 → Int32 → Hp → Option (Hp)) (w67 : Nat → Int32 → Int32 → Int32 → Int32 → Hp → Option (Hp)) (w79 : Nat → Int32 → Int32 → Int32 → Int32 → Int64 → Int32 → Hp → Option (Hp)) (a0 : Nat) (i1 : Int32) (i3 : Int32) (i4 : Int32) (i5 : Int32) (j6 : Int64) (i8 : Int32) (h : Hp) : Option (Hp) := w79 a0 i1 i3 i4 i5 j6 (i8 + 1) h
set_option maxHeartbeats 4000000 in
set_option maxRecDepth 100000 in
theorem mX7_count_b144 {g : XG} {p : Program} {l : Launch} {e : Env} {s : State} {m : MethodId} {args : Array Value} {below : List Frame} {meth : Method} {c : Code} (C : x_C g p s m args c cX7_count RX7 9 wsX7_count) (hr : meth.sig.returnType = none) (hlk : meth.locks = false) (hnm : meth.name = yX7_count.name) {res : Hp} (w59 : Nat → Int32 → Int32 → Int32 → Hp → Option (Hp)) (hw59 : ∀ (a0 : Nat) (i1 : Int32) (i3 : Int32) (i4 : Int32) (h : Hp), w59 a0 i1 i3 i4 h = some res → XW g p l e { frames := 3, cells := 0, slots := 0, locals := 67 } s m args below meth c (MQ below (x_Q g none res) args s 0 0 (x_A g)) 9 0 0 h 59 [some (vR a0), some (vI i1), none, some (vI i3), some (vI i4), none, none, none, none] []) (w67 : Nat → Int32 → Int32 → Int32 → Int32 → Hp → Option (Hp)) (hw67 : ∀ (a0 : Nat) (i1 : Int32) (i3 : Int32) (i4 : Int32) (i5 : Int32) (h : Hp), w67 a0 i1 i3 i4 i5 h = some res → XW g p l e { frames := 3, cells := 0, slots := 0, locals := 67 } s m args below meth c (MQ below (x_Q g none res) args s 0 0 (x_A g)) 9 0 0 h 67 [some (vR a0), some (vI i1), none, some (vI i3), some (vI i4), some (vI i5), none, none, none] []) (w79 : Nat → Int32 → Int32 → Int32 → Int32 → Int64 → Int32 → Hp → Option (Hp)) (hw79 : ∀ (a0 : Nat) (i1 : Int32) (i3 : Int32) (i4 : Int32) (i5 : Int32) (j6 : Int64) (i8 : Int32) (h : Hp), w79 a0 i1 i3 i4 i5 j6 i8 h = some res → XW g p l e { frames := 3, cells := 0, slots := 0, locals := 67 } s m args below meth c (MQ below (x_Q g none res) args s 0 0 (x_A g)) 9 0 0 h 79 [some (vR a0), some (vI i1), none, some (vI i3), some (vI i4), some (vI i5), some (vL j6), none, some (vI i8)] []) (a0 : Nat) (i1 : Int32) (i3 : Int32) (i4 : Int32) (i5 : Int32) (j6 : Int64) (i8 : Int32) (h : Hp) (hf : fX7_count_b144 w59 w67 w79 a0 i1 i3 i4 i5 j6 i8 h = some res) : XW g p l e { frames := 3, cells := 0, slots := 0, locals := 67 } s m args below meth c (MQ below (x_Q g none res) args s 0 0 (x_A g)) 9 0 0 h 144 [some (vR a0), some (vI i1), none, some (vI i3), some (vI i4), some (vI i5), some (vL j6), none, some (vI i8)] [] := by
  unfold fX7_count_b144 at hf
  refine x_iinc C dX7_count_144 (pc' := 147) rfl rfl (v := (i8 + 1)) rfl (by decide) rfl (lv' := [some (vR a0), some (vI i1), none, some (vI i3), some (vI i4), some (vI i5), some (vL j6), none, some (vI (i8 + 1))]) rfl ?_
  refine x_goto C dX7_count_147 (tgt := 79) (by decide) ?_
  exact hw79 a0 i1 i3 i4 i5 j6 (i8 + 1) h hf
def fX7_count_w79 (w59 : Nat → Int32 → Int32 → Int32 → Hp → Option (Hp)) (w67 : Nat → Int32 → Int32 → Int32 → Int32 → Hp → Option (Hp)) : Nat → Nat → Int32 → Int32 → Int32 → Int32 → Int64 → Int32 → Hp → Option (Hp)
  | 0 => fun _ _ _ _ _ _ _ _ => none
  | n + 1 => fun a0 i1 i3 i4 i5 j6 i8 h => (gR h a0 7 4).bind fun v1 => (aI h v1 0 i1).bind fun v2 => if v2 ≤ i8 then (fX7_count_b150 w59 w67 a0 i1 i3 i4 i5 j6 h) else ((gR h a0 7 4).bind fun v3 => (aI h v3 0 i1).bind fun v4 => call (oK h a0 7 (fX7_tells h a0 i1 ((v4 * i5) + i8))) fun r5 h6 => (gR h6 a0 7 1).bind fun v7 => (aI h6 v7 1 i4).bind fun v8 => if r5 = v8 then ((gR h6 a0 7 11).bind fun v9 => call (oK h6 a0 7 (fX7_then h6 a0 i1 i5 i8)) fun r10 h11 => (aL h11 v9 (((9 : Int32) * (i4 + (1 : Int32))) + r10)).bind fun v12 => setv ((j6 + v12)) fun v13 => fX7_count_b144 w59 w67 (fX7_count_w79 w59 w67 n) a0 i1 i3 i4 i5 v13 i8 h11) else (fX7_count_b144 w59 w67 (fX7_count_w79 w59 w67 n) a0 i1 i3 i4 i5 j6 i8 h6))
set_option maxHeartbeats 4000000 in
set_option maxRecDepth 100000 in
theorem mX7_count_w79 {g : XG} {p : Program} {l : Launch} {e : Env} {s : State} {m : MethodId} {args : Array Value} {below : List Frame} {meth : Method} {c : Code} (C : x_C g p s m args c cX7_count RX7 9 wsX7_count) (hr : meth.sig.returnType = none) (hlk : meth.locks = false) (hnm : meth.name = yX7_count.name) {res : Hp} (w59 : Nat → Int32 → Int32 → Int32 → Hp → Option (Hp)) (hw59 : ∀ (a0 : Nat) (i1 : Int32) (i3 : Int32) (i4 : Int32) (h : Hp), w59 a0 i1 i3 i4 h = some res → XW g p l e { frames := 3, cells := 0, slots := 0, locals := 67 } s m args below meth c (MQ below (x_Q g none res) args s 0 0 (x_A g)) 9 0 0 h 59 [some (vR a0), some (vI i1), none, some (vI i3), some (vI i4), none, none, none, none] []) (w67 : Nat → Int32 → Int32 → Int32 → Int32 → Hp → Option (Hp)) (hw67 : ∀ (a0 : Nat) (i1 : Int32) (i3 : Int32) (i4 : Int32) (i5 : Int32) (h : Hp), w67 a0 i1 i3 i4 i5 h = some res → XW g p l e { frames := 3, cells := 0, slots := 0, locals := 67 } s m args below meth c (MQ below (x_Q g none res) args s 0 0 (x_A g)) 9 0 0 h 67 [some (vR a0), some (vI i1), none, some (vI i3), some (vI i4), some (vI i5), none, none, none] []) : ∀ (n : Nat) (a0 : Nat) (i1 : Int32) (i3 : Int32) (i4 : Int32) (i5 : Int32) (j6 : Int64) (i8 : Int32) (h : Hp), fX7_count_w79 w59 w67 n a0 i1 i3 i4 i5 j6 i8 h = some res → XW g p l e { frames := 3, cells := 0, slots := 0, locals := 67 } s m args below meth c (MQ below (x_Q g none res) args s 0 0 (x_A g)) 9 0 0 h 79 [some (vR a0), some (vI i1), none, some (vI i3), some (vI i4), some (vI i5), some (vL j6), none, some (vI i8)] [] := by
  intro n
  induction n with
  | zero =>
    intro a0 i1 i3 i4 i5 j6 i8 h hf
    have hf2 : (none : Option (Hp)) = some res := hf
    cases hf2
  | succ n ih =>
    intro a0 i1 i3 i4 i5 j6 i8 h hf
    rw [fX7_count_w79] at hf
    refine x_iload C dX7_count_79 (pc' := 81) rfl rfl ?_
    refine x_aload_n C dX7_count_81 (pc' := 82) rfl rfl rfl ?_
    refine x_getR C (ci := 7) (kf := 4) rfl (by decide) hinX7_count_X7 lkX7_count_1 rfl hf dX7_count_82 (pc' := 85) rfl (fun v1 _ hf => ?_)
    refine x_iload_n C dX7_count_85 (pc' := 86) rfl rfl rfl ?_
    refine x_iaload C hf dX7_count_86 (pc' := 87) rfl (fun v2 _ hf => ?_)
    refine x_icmp_ge C hf dX7_count_87 (pc' := 90) rfl (tgt := 150) (by decide) (fun _ hf => ?_) (fun _ hf => ?_)
    ·
      refine x_keep [true, true, false, true, true, true, true, false, false] rfl ?_
      refine x_more (k' := 0) (n' := 0) (Nat.le_of_ble_eq_true rfl) (Nat.le_of_ble_eq_true rfl) ?_
      exact mX7_count_b150 C hr hlk hnm w59 hw59 w67 hw67 a0 i1 i3 i4 i5 j6 h hf
    ·
      refine x_aload_n C dX7_count_90 (pc' := 91) rfl rfl rfl ?_
      refine x_iload_n C dX7_count_91 (pc' := 92) rfl rfl rfl ?_
      refine x_aload_n C dX7_count_92 (pc' := 93) rfl rfl rfl ?_
      refine x_getR C (ci := 7) (kf := 4) rfl (by decide) hinX7_count_X7 lkX7_count_1 rfl hf dX7_count_93 (pc' := 96) rfl (fun v3 _ hf => ?_)
      refine x_iload_n C dX7_count_96 (pc' := 97) rfl rfl rfl ?_
      refine x_iaload C hf dX7_count_97 (pc' := 98) rfl (fun v4 _ hf => ?_)
      refine x_iload C dX7_count_98 (pc' := 100) rfl rfl ?_
      refine x_imul C dX7_count_100 (pc' := 101) rfl ?_
      refine x_iload C dX7_count_101 (pc' := 103) rfl rfl ?_
      refine x_iadd C dX7_count_103 (pc' := 104) rfl ?_
      obtain ⟨r5, h6, hq, hf⟩ := call_some hf
      obtain ⟨hob, hq⟩ := oK_some hq
      refine x_callV C (As := [vI i1, vI ((v4 * i5) + i8)]) (st := []) (r := (some (vI r5))) (h' := h6) (mc := 0) (ms := 0) (k := 0) (n := 0) (mX7_tells hq) hob (ci := 7) rfl (cwV 2 C.1.2.2.2.2 gX7_count_X7_tells rfl rfl rfl (by decide +kernel) ⟨Nat.le_of_ble_eq_true rfl, Nat.le_of_ble_eq_true rfl⟩) rfl rfl (Nat.le_of_ble_eq_true rfl) dX7_count_104 (pc' := 107) rfl ?_
      refine x_aload_n C dX7_count_107 (pc' := 108) rfl rfl rfl ?_
      refine x_getR C (ci := 7) (kf := 1) rfl (by decide) hinX7_count_X7 lkX7_count_2 rfl hf dX7_count_108 (pc' := 111) rfl (fun v7 _ hf => ?_)
      refine x_iload C dX7_count_111 (pc' := 113) rfl rfl ?_
      refine x_baloadB C hf dX7_count_113 (pc' := 114) rfl (fun v8 _ hf => ?_)
      refine x_icmp_ne C hf dX7_count_114 (pc' := 117) rfl (tgt := 144) (by decide) (fun _ hf => ?_) (fun _ hf => ?_)
      ·
        refine x_lload C dX7_count_117 (pc' := 119) rfl rfl ?_
        refine x_aload_n C dX7_count_119 (pc' := 120) rfl rfl rfl ?_
        refine x_getR C (ci := 7) (kf := 11) rfl (by decide) hinX7_count_X7 lkX7_count_0 rfl hf dX7_count_120 (pc' := 123) rfl (fun v9 _ hf => ?_)
        refine x_bipush C (v := 9) (by decide) dX7_count_123 (pc' := 125) rfl ?_
        refine x_iload C dX7_count_125 (pc' := 127) rfl rfl ?_
        refine x_iconst C (v := 1) (by decide) dX7_count_127 (pc' := 128) rfl ?_
        refine x_iadd C dX7_count_128 (pc' := 129) rfl ?_
        refine x_imul C dX7_count_129 (pc' := 130) rfl ?_
        refine x_aload_n C dX7_count_130 (pc' := 131) rfl rfl rfl ?_
        refine x_iload_n C dX7_count_131 (pc' := 132) rfl rfl rfl ?_
        refine x_iload C dX7_count_132 (pc' := 134) rfl rfl ?_
        refine x_iload C dX7_count_134 (pc' := 136) rfl rfl ?_
        obtain ⟨r10, h11, hq, hf⟩ := call_some hf
        obtain ⟨hob, hq⟩ := oK_some hq
        refine x_callV C (As := [vI i1, vI i5, vI i8]) (st := [vI ((9 : Int32) * (i4 + (1 : Int32))), vR v9, vL j6]) (r := (some (vI r10))) (h' := h11) (mc := 0) (ms := 0) (k := 0) (n := 0) (mX7_then hq) hob (ci := 7) rfl (cwV 3 C.1.2.2.2.2 gX7_count_X7_then rfl rfl rfl (by decide +kernel) ⟨Nat.le_of_ble_eq_true rfl, Nat.le_of_ble_eq_true rfl⟩) rfl rfl (Nat.le_of_ble_eq_true rfl) dX7_count_136 (pc' := 139) rfl ?_
        refine x_iadd C dX7_count_139 (pc' := 140) rfl ?_
        refine x_laload C hf dX7_count_140 (pc' := 141) rfl (fun v12 _ hf => ?_)
        refine x_ladd C dX7_count_141 (pc' := 142) rfl ?_
        refine x_nameL hf (fun v13 _ hf => ?_)
        refine x_lstore C dX7_count_142 (pc' := 144) rfl (by decide) rfl (lv' := [some (vR a0), some (vI i1), none, some (vI i3), some (vI i4), some (vI i5), some (vL v13), none, some (vI i8)]) rfl ?_
        refine x_more (k' := 0) (n' := 0) (Nat.le_of_ble_eq_true rfl) (Nat.le_of_ble_eq_true rfl) ?_
        exact mX7_count_b144 C hr hlk hnm w59 hw59 w67 hw67 (fX7_count_w79 w59 w67 n) ih a0 i1 i3 i4 i5 v13 i8 h11 hf
      ·
        refine x_more (k' := 0) (n' := 0) (Nat.le_of_ble_eq_true rfl) (Nat.le_of_ble_eq_true rfl) ?_
        exact mX7_count_b144 C hr hlk hnm w59 hw59 w67 hw67 (fX7_count_w79 w59 w67 n) ih a0 i1 i3 i4 i5 j6 i8 h6 hf
def fX7_count_w67 (w59 : Nat → Int32 → Int32 → Int32 → Hp → Option (Hp)) : Nat → Nat → Int32 → Int32 → Int32 → Int32 → Hp → Option (Hp)
  | 0 => fun _ _ _ _ _ _ => none
  | n + 1 => fun a0 i1 i3 i4 i5 h => if i3 ≤ i5 then (fX7_count_b171 w59 a0 i1 i3 i4 h) else (fX7_count_w79 w59 (fX7_count_w67 w59 n) FUEL a0 i1 i3 i4 i5 (0 : Int64) (0 : Int32) h)
set_option maxHeartbeats 4000000 in
set_option maxRecDepth 100000 in
theorem mX7_count_w67 {g : XG} {p : Program} {l : Launch} {e : Env} {s : State} {m : MethodId} {args : Array Value} {below : List Frame} {meth : Method} {c : Code} (C : x_C g p s m args c cX7_count RX7 9 wsX7_count) (hr : meth.sig.returnType = none) (hlk : meth.locks = false) (hnm : meth.name = yX7_count.name) {res : Hp} (w59 : Nat → Int32 → Int32 → Int32 → Hp → Option (Hp)) (hw59 : ∀ (a0 : Nat) (i1 : Int32) (i3 : Int32) (i4 : Int32) (h : Hp), w59 a0 i1 i3 i4 h = some res → XW g p l e { frames := 3, cells := 0, slots := 0, locals := 67 } s m args below meth c (MQ below (x_Q g none res) args s 0 0 (x_A g)) 9 0 0 h 59 [some (vR a0), some (vI i1), none, some (vI i3), some (vI i4), none, none, none, none] []) : ∀ (n : Nat) (a0 : Nat) (i1 : Int32) (i3 : Int32) (i4 : Int32) (i5 : Int32) (h : Hp), fX7_count_w67 w59 n a0 i1 i3 i4 i5 h = some res → XW g p l e { frames := 3, cells := 0, slots := 0, locals := 67 } s m args below meth c (MQ below (x_Q g none res) args s 0 0 (x_A g)) 9 0 0 h 67 [some (vR a0), some (vI i1), none, some (vI i3), some (vI i4), some (vI i5), none, none, none] [] := by
  intro n
  induction n with
  | zero =>
    intro a0 i1 i3 i4 i5 h hf
    have hf2 : (none : Option (Hp)) = some res := hf
    cases hf2
  | succ n ih =>
    intro a0 i1 i3 i4 i5 h hf
    rw [fX7_count_w67] at hf
    refine x_iload C dX7_count_67 (pc' := 69) rfl rfl ?_
    refine x_iload_n C dX7_count_69 (pc' := 70) rfl rfl rfl ?_
    refine x_icmp_ge C hf dX7_count_70 (pc' := 73) rfl (tgt := 171) (by decide) (fun _ hf => ?_) (fun _ hf => ?_)
    ·
      refine x_keep [true, true, false, true, true, false, false, false, false] rfl ?_
      refine x_more (k' := 0) (n' := 0) (Nat.le_of_ble_eq_true rfl) (Nat.le_of_ble_eq_true rfl) ?_
      exact mX7_count_b171 C hr hlk hnm w59 hw59 a0 i1 i3 i4 h hf
    ·
      refine x_lconst C (v := 0) (by decide) dX7_count_73 (pc' := 74) rfl ?_
      refine x_lstore C dX7_count_74 (pc' := 76) rfl (by decide) rfl (lv' := [some (vR a0), some (vI i1), none, some (vI i3), some (vI i4), some (vI i5), some (vL (0 : Int64)), none, none]) rfl ?_
      refine x_iconst C (v := 0) (by decide) dX7_count_76 (pc' := 77) rfl ?_
      refine x_istore C dX7_count_77 (pc' := 79) rfl (by decide) rfl (lv' := [some (vR a0), some (vI i1), none, some (vI i3), some (vI i4), some (vI i5), some (vL (0 : Int64)), none, some (vI (0 : Int32))]) rfl ?_
      refine x_more (k' := 0) (n' := 0) (Nat.le_of_ble_eq_true rfl) (Nat.le_of_ble_eq_true rfl) ?_
      exact mX7_count_w79 C hr hlk hnm w59 hw59 (fX7_count_w67 w59 n) ih FUEL a0 i1 i3 i4 i5 (0 : Int64) (0 : Int32) h hf
def fX7_count_w59 : Nat → Nat → Int32 → Int32 → Int32 → Hp → Option (Hp)
  | 0 => fun _ _ _ _ _ => none
  | n + 1 => fun a0 i1 i3 i4 h => if i4 < 0 then (some h) else (fX7_count_w67 (fX7_count_w59 n) FUEL a0 i1 i3 i4 (0 : Int32) h)
set_option maxHeartbeats 4000000 in
set_option maxRecDepth 100000 in
theorem mX7_count_w59 {g : XG} {p : Program} {l : Launch} {e : Env} {s : State} {m : MethodId} {args : Array Value} {below : List Frame} {meth : Method} {c : Code} (C : x_C g p s m args c cX7_count RX7 9 wsX7_count) (hr : meth.sig.returnType = none) (hlk : meth.locks = false) (hnm : meth.name = yX7_count.name) {res : Hp} : ∀ (n : Nat) (a0 : Nat) (i1 : Int32) (i3 : Int32) (i4 : Int32) (h : Hp), fX7_count_w59 n a0 i1 i3 i4 h = some res → XW g p l e { frames := 3, cells := 0, slots := 0, locals := 67 } s m args below meth c (MQ below (x_Q g none res) args s 0 0 (x_A g)) 9 0 0 h 59 [some (vR a0), some (vI i1), none, some (vI i3), some (vI i4), none, none, none, none] [] := by
  intro n
  induction n with
  | zero =>
    intro a0 i1 i3 i4 h hf
    have hf2 : (none : Option (Hp)) = some res := hf
    cases hf2
  | succ n ih =>
    intro a0 i1 i3 i4 h hf
    rw [fX7_count_w59] at hf
    refine x_iload C dX7_count_59 (pc' := 61) rfl rfl ?_
    refine x_if_lt C hf dX7_count_61 (pc' := 64) rfl (tgt := 177) (by decide) (fun _ hf => ?_) (fun _ hf => ?_)
    ·
      cases hf
      exact x_vret C hr hlk dX7_count_177
    ·
      refine x_iconst C (v := 0) (by decide) dX7_count_64 (pc' := 65) rfl ?_
      refine x_istore C dX7_count_65 (pc' := 67) rfl (by decide) rfl (lv' := [some (vR a0), some (vI i1), none, some (vI i3), some (vI i4), some (vI (0 : Int32)), none, none, none]) rfl ?_
      refine x_more (k' := 0) (n' := 0) (Nat.le_of_ble_eq_true rfl) (Nat.le_of_ble_eq_true rfl) ?_
      exact mX7_count_w67 C hr hlk hnm (fX7_count_w59 n) ih FUEL a0 i1 i3 i4 (0 : Int32) h hf
def fX7_count_b51 (a0 : Nat) (i1 : Int32) (i3 : Int32) (h : Hp) : Option (Hp) := (gI h a0 7 3).bind fun v1 => setv ((v1 - (1 : Int32))) fun v2 => fX7_count_w59 FUEL a0 i1 i3 v2 h
set_option maxHeartbeats 4000000 in
set_option maxRecDepth 100000 in
theorem mX7_count_b51 {g : XG} {p : Program} {l : Launch} {e : Env} {s : State} {m : MethodId} {args : Array Value} {below : List Frame} {meth : Method} {c : Code} (C : x_C g p s m args c cX7_count RX7 9 wsX7_count) (hr : meth.sig.returnType = none) (hlk : meth.locks = false) (hnm : meth.name = yX7_count.name) {res : Hp} (a0 : Nat) (i1 : Int32) (i3 : Int32) (h : Hp) (hf : fX7_count_b51 a0 i1 i3 h = some res) : XW g p l e { frames := 3, cells := 0, slots := 0, locals := 67 } s m args below meth c (MQ below (x_Q g none res) args s 0 0 (x_A g)) 9 0 0 h 51 [some (vR a0), some (vI i1), none, some (vI i3), none, none, none, none, none] [] := by
  unfold fX7_count_b51 at hf
  refine x_aload_n C dX7_count_51 (pc' := 52) rfl rfl rfl ?_
  refine x_getI C (ci := 7) (kf := 3) rfl (by decide) hinX7_count_X7 lkX7_count_3 rfl hf dX7_count_52 (pc' := 55) rfl (fun v1 _ hf => ?_)
  refine x_iconst C (v := 1) (by decide) dX7_count_55 (pc' := 56) rfl ?_
  refine x_isub C dX7_count_56 (pc' := 57) rfl ?_
  refine x_nameI hf (fun v2 _ hf => ?_)
  refine x_istore C dX7_count_57 (pc' := 59) rfl (by decide) rfl (lv' := [some (vR a0), some (vI i1), none, some (vI i3), some (vI v2), none, none, none, none]) rfl ?_
  refine x_more (k' := 0) (n' := 0) (Nat.le_of_ble_eq_true rfl) (Nat.le_of_ble_eq_true rfl) ?_
  exact mX7_count_w59 C hr hlk hnm FUEL a0 i1 i3 v2 h hf
def fX7_count_b44 (w9 : Nat → Int32 → Int32 → Int32 → Int32 → Hp → Option (Hp)) (a0 : Nat) (i1 : Int32) (i2 : Int32) (i3 : Int32) (i4 : Int32) (s0 : Int64) (s1 : Int32) (s2 : Nat) (h : Hp) : Option (Hp) := (sL h s2 s1 s0).bind fun h1 => w9 a0 i1 i2 i3 (i4 + 1) h1
set_option maxHeartbeats 4000000 in
set_option maxRecDepth 100000 in
theorem mX7_count_b44 {g : XG} {p : Program} {l : Launch} {e : Env} {s : State} {m : MethodId} {args : Array Value} {below : List Frame} {meth : Method} {c : Code} (C : x_C g p s m args c cX7_count RX7 9 wsX7_count) (hr : meth.sig.returnType = none) (hlk : meth.locks = false) (hnm : meth.name = yX7_count.name) {res : Hp} (w9 : Nat → Int32 → Int32 → Int32 → Int32 → Hp → Option (Hp)) (hw9 : ∀ (a0 : Nat) (i1 : Int32) (i2 : Int32) (i3 : Int32) (i4 : Int32) (h : Hp), w9 a0 i1 i2 i3 i4 h = some res → XW g p l e { frames := 3, cells := 0, slots := 0, locals := 67 } s m args below meth c (MQ below (x_Q g none res) args s 0 0 (x_A g)) 9 0 0 h 9 [some (vR a0), some (vI i1), some (vI i2), some (vI i3), some (vI i4), none, none, none, none] []) (a0 : Nat) (i1 : Int32) (i2 : Int32) (i3 : Int32) (i4 : Int32) (s0 : Int64) (s1 : Int32) (s2 : Nat) (h : Hp) (hf : fX7_count_b44 w9 a0 i1 i2 i3 i4 s0 s1 s2 h = some res) : XW g p l e { frames := 3, cells := 0, slots := 0, locals := 67 } s m args below meth c (MQ below (x_Q g none res) args s 0 0 (x_A g)) 9 0 0 h 44 [some (vR a0), some (vI i1), some (vI i2), some (vI i3), some (vI i4), none, none, none, none] [vL s0, vI s1, vR s2] := by
  unfold fX7_count_b44 at hf
  refine x_lastore C hf dX7_count_44 (pc' := 45) rfl (fun h1 _ hf => ?_)
  refine x_iinc C dX7_count_45 (pc' := 48) rfl rfl (v := (i4 + 1)) rfl (by decide) rfl (lv' := [some (vR a0), some (vI i1), some (vI i2), some (vI i3), some (vI (i4 + 1)), none, none, none, none]) rfl ?_
  refine x_goto C dX7_count_48 (tgt := 9) (by decide) ?_
  exact hw9 a0 i1 i2 i3 (i4 + 1) h1 hf
def fX7_count_b39 (w9 : Nat → Int32 → Int32 → Int32 → Int32 → Hp → Option (Hp)) (a0 : Nat) (i1 : Int32) (i2 : Int32) (i3 : Int32) (i4 : Int32) (s0 : Int32) (s1 : Nat) (h : Hp) : Option (Hp) := fX7_count_b44 w9 a0 i1 i2 i3 i4 (1 : Int64) s0 s1 h
set_option maxHeartbeats 4000000 in
set_option maxRecDepth 100000 in
theorem mX7_count_b39 {g : XG} {p : Program} {l : Launch} {e : Env} {s : State} {m : MethodId} {args : Array Value} {below : List Frame} {meth : Method} {c : Code} (C : x_C g p s m args c cX7_count RX7 9 wsX7_count) (hr : meth.sig.returnType = none) (hlk : meth.locks = false) (hnm : meth.name = yX7_count.name) {res : Hp} (w9 : Nat → Int32 → Int32 → Int32 → Int32 → Hp → Option (Hp)) (hw9 : ∀ (a0 : Nat) (i1 : Int32) (i2 : Int32) (i3 : Int32) (i4 : Int32) (h : Hp), w9 a0 i1 i2 i3 i4 h = some res → XW g p l e { frames := 3, cells := 0, slots := 0, locals := 67 } s m args below meth c (MQ below (x_Q g none res) args s 0 0 (x_A g)) 9 0 0 h 9 [some (vR a0), some (vI i1), some (vI i2), some (vI i3), some (vI i4), none, none, none, none] []) (a0 : Nat) (i1 : Int32) (i2 : Int32) (i3 : Int32) (i4 : Int32) (s0 : Int32) (s1 : Nat) (h : Hp) (hf : fX7_count_b39 w9 a0 i1 i2 i3 i4 s0 s1 h = some res) : XW g p l e { frames := 3, cells := 0, slots := 0, locals := 67 } s m args below meth c (MQ below (x_Q g none res) args s 0 0 (x_A g)) 9 0 0 h 39 [some (vR a0), some (vI i1), some (vI i2), some (vI i3), some (vI i4), none, none, none, none] [vI s0, vR s1] := by
  unfold fX7_count_b39 at hf
  refine x_lconst C (v := 1) (by decide) dX7_count_39 (pc' := 40) rfl ?_
  refine x_goto C dX7_count_40 (tgt := 44) (by decide) ?_
  refine x_more (k' := 0) (n' := 0) (Nat.le_of_ble_eq_true rfl) (Nat.le_of_ble_eq_true rfl) ?_
  exact mX7_count_b44 C hr hlk hnm w9 hw9 a0 i1 i2 i3 i4 (1 : Int64) s0 s1 h hf
def fX7_count_w9 : Nat → Nat → Int32 → Int32 → Int32 → Int32 → Hp → Option (Hp)
  | 0 => fun _ _ _ _ _ _ => none
  | n + 1 => fun a0 i1 i2 i3 i4 h => if i3 ≤ i4 then (fX7_count_b51 a0 i1 i3 h) else ((gR h a0 7 11).bind fun v1 => (gI h a0 7 3).bind fun v2 => if i2 < 0 then (fX7_count_b39 (fX7_count_w9 n) a0 i1 i2 i3 i4 (((9 : Int32) * v2) + i4) v1 h) else (if i4 = i2 then (fX7_count_b39 (fX7_count_w9 n) a0 i1 i2 i3 i4 (((9 : Int32) * v2) + i4) v1 h) else (fX7_count_b44 (fX7_count_w9 n) a0 i1 i2 i3 i4 (0 : Int64) (((9 : Int32) * v2) + i4) v1 h)))
set_option maxHeartbeats 4000000 in
set_option maxRecDepth 100000 in
theorem mX7_count_w9 {g : XG} {p : Program} {l : Launch} {e : Env} {s : State} {m : MethodId} {args : Array Value} {below : List Frame} {meth : Method} {c : Code} (C : x_C g p s m args c cX7_count RX7 9 wsX7_count) (hr : meth.sig.returnType = none) (hlk : meth.locks = false) (hnm : meth.name = yX7_count.name) {res : Hp} : ∀ (n : Nat) (a0 : Nat) (i1 : Int32) (i2 : Int32) (i3 : Int32) (i4 : Int32) (h : Hp), fX7_count_w9 n a0 i1 i2 i3 i4 h = some res → XW g p l e { frames := 3, cells := 0, slots := 0, locals := 67 } s m args below meth c (MQ below (x_Q g none res) args s 0 0 (x_A g)) 9 0 0 h 9 [some (vR a0), some (vI i1), some (vI i2), some (vI i3), some (vI i4), none, none, none, none] [] := by
  intro n
  induction n with
  | zero =>
    intro a0 i1 i2 i3 i4 h hf
    have hf2 : (none : Option (Hp)) = some res := hf
    cases hf2
  | succ n ih =>
    intro a0 i1 i2 i3 i4 h hf
    rw [fX7_count_w9] at hf
    refine x_iload C dX7_count_9 (pc' := 11) rfl rfl ?_
    refine x_iload_n C dX7_count_11 (pc' := 12) rfl rfl rfl ?_
    refine x_icmp_ge C hf dX7_count_12 (pc' := 15) rfl (tgt := 51) (by decide) (fun _ hf => ?_) (fun _ hf => ?_)
    ·
      refine x_keep [true, true, false, true, false, false, false, false, false] rfl ?_
      refine x_more (k' := 0) (n' := 0) (Nat.le_of_ble_eq_true rfl) (Nat.le_of_ble_eq_true rfl) ?_
      exact mX7_count_b51 C hr hlk hnm a0 i1 i3 h hf
    ·
      refine x_aload_n C dX7_count_15 (pc' := 16) rfl rfl rfl ?_
      refine x_getR C (ci := 7) (kf := 11) rfl (by decide) hinX7_count_X7 lkX7_count_0 rfl hf dX7_count_16 (pc' := 19) rfl (fun v1 _ hf => ?_)
      refine x_bipush C (v := 9) (by decide) dX7_count_19 (pc' := 21) rfl ?_
      refine x_aload_n C dX7_count_21 (pc' := 22) rfl rfl rfl ?_
      refine x_getI C (ci := 7) (kf := 3) rfl (by decide) hinX7_count_X7 lkX7_count_3 rfl hf dX7_count_22 (pc' := 25) rfl (fun v2 _ hf => ?_)
      refine x_imul C dX7_count_25 (pc' := 26) rfl ?_
      refine x_iload C dX7_count_26 (pc' := 28) rfl rfl ?_
      refine x_iadd C dX7_count_28 (pc' := 29) rfl ?_
      refine x_iload_n C dX7_count_29 (pc' := 30) rfl rfl rfl ?_
      refine x_if_lt C hf dX7_count_30 (pc' := 33) rfl (tgt := 39) (by decide) (fun _ hf => ?_) (fun _ hf => ?_)
      ·
        refine x_more (k' := 0) (n' := 0) (Nat.le_of_ble_eq_true rfl) (Nat.le_of_ble_eq_true rfl) ?_
        exact mX7_count_b39 C hr hlk hnm (fX7_count_w9 n) ih a0 i1 i2 i3 i4 (((9 : Int32) * v2) + i4) v1 h hf
      ·
        refine x_iload C dX7_count_33 (pc' := 35) rfl rfl ?_
        refine x_iload_n C dX7_count_35 (pc' := 36) rfl rfl rfl ?_
        refine x_icmp_ne C hf dX7_count_36 (pc' := 39) rfl (tgt := 43) (by decide) (fun _ hf => ?_) (fun _ hf => ?_)
        ·
          refine x_more (k' := 0) (n' := 0) (Nat.le_of_ble_eq_true rfl) (Nat.le_of_ble_eq_true rfl) ?_
          exact mX7_count_b39 C hr hlk hnm (fX7_count_w9 n) ih a0 i1 i2 i3 i4 (((9 : Int32) * v2) + i4) v1 h hf
        ·
          refine x_lconst C (v := 0) (by decide) dX7_count_43 (pc' := 44) rfl ?_
          refine x_more (k' := 0) (n' := 0) (Nat.le_of_ble_eq_true rfl) (Nat.le_of_ble_eq_true rfl) ?_
          exact mX7_count_b44 C hr hlk hnm (fX7_count_w9 n) ih a0 i1 i2 i3 i4 (0 : Int64) (((9 : Int32) * v2) + i4) v1 h hf
def fX7_count (h : Hp) (a0 : Nat) (i1 : Int32) (i2 : Int32) : Option (Hp) := call (oK h a0 7 (fX7_overlaps h a0 i1)) fun r1 h2 => fX7_count_w9 FUEL a0 i1 i2 r1 (0 : Int32) h2
set_option maxHeartbeats 4000000 in
set_option maxRecDepth 100000 in
theorem mX7_count {l : Launch} {g : XG} {h : Hp} {a0 : Nat} {i1 : Int32} {i2 : Int32} {res : Hp} (hf : fX7_count h a0 i1 i2 = some res) : XM l g yX7_count wsX7_count 3 67 0 0 [vR a0, vI i1, vI i2] h none res := by
  refine x_start (cc := cX7_count) (maxL := 9) (ret := none) (by decide) rfl (Nat.le_of_ble_eq_true rfl) (lv := [some (vR a0), some (vI i1), some (vI i2), none, none, none, none, none, none]) rfl ?_
  intro p e s m args below meth c C hr hlk hnm
  unfold fX7_count at hf
  refine x_aload_n C dX7_count_0 (pc' := 1) rfl rfl rfl ?_
  refine x_iload_n C dX7_count_1 (pc' := 2) rfl rfl rfl ?_
  obtain ⟨r1, h2, hq, hf⟩ := call_some hf
  obtain ⟨hob, hq⟩ := oK_some hq
  refine x_callV C (As := [vI i1]) (st := []) (r := (some (vI r1))) (h' := h2) (mc := 0) (ms := 0) (k := 0) (n := 0) (mX7_overlaps hq) hob (ci := 7) rfl (cwV 1 C.1.2.2.2.2 gX7_count_X7_overlaps rfl rfl rfl (by decide +kernel) ⟨Nat.le_of_ble_eq_true rfl, Nat.le_of_ble_eq_true rfl⟩) rfl rfl (Nat.le_of_ble_eq_true rfl) dX7_count_2 (pc' := 5) rfl ?_
  refine x_istore_n C dX7_count_5 (pc' := 6) rfl rfl (by decide) rfl (lv' := [some (vR a0), some (vI i1), some (vI i2), some (vI r1), none, none, none, none, none]) rfl ?_
  refine x_iconst C (v := 0) (by decide) dX7_count_6 (pc' := 7) rfl ?_
  refine x_istore C dX7_count_7 (pc' := 9) rfl (by decide) rfl (lv' := [some (vR a0), some (vI i1), some (vI i2), some (vI r1), some (vI (0 : Int32)), none, none, none, none]) rfl ?_
  refine x_more (k' := 0) (n' := 0) (Nat.le_of_ble_eq_true rfl) (Nat.le_of_ble_eq_true rfl) ?_
  exact mX7_count_w9 C hr hlk hnm FUEL a0 i1 i2 r1 (0 : Int32) h2 hf
-- ===== X7_first
theorem lkX7_first_0 : Cond.fieldLink RX7 26 "MossRingsModel" "cells" "[I" ∈ wsX7_first := by decide +kernel
theorem hinX7_first_X7 : ∀ w ∈ u_ws RX7 TX7 27, w ∈ wsX7_first := by decide +kernel
theorem lkX7_first_1 : Cond.fieldLink RX7 13 "MossRingsModel" "states" "[I" ∈ wsX7_first := by decide +kernel
theorem lkX7_first_2 : Cond.fieldLink RX7 7 "MossRingsModel" "tape" "[B" ∈ wsX7_first := by decide +kernel
theorem lkX7_first_3 : Cond.fieldLink RX7 32 "MossRingsModel" "ways" "[J" ∈ wsX7_first := by decide +kernel
theorem lkX7_first_4 : Cond.fieldLink RX7 91 "MossRingsModel" "size" "I" ∈ wsX7_first := by decide +kernel
theorem lkX7_first_5 : Cond.fieldLink RX7 17 "MossRingsModel" "widths" "[I" ∈ wsX7_first := by decide +kernel
def fX7_first_b131 (w59 : Nat → Int32 → Int32 → Int32 → Int32 → Hp → Option (Hp)) (a0 : Nat) (i1 : Int32) (i3 : Int32) (i4 : Int32) (i5 : Int32) (i6 : Int32) (h : Hp) : Option (Hp) := (gR h a0 7 9).bind fun v1 => (sI h v1 0 ((i3 - (1 : Int32)) + i5) i6).bind fun h2 => call (oK h2 a0 7 (fX7_then h2 a0 i1 i4 i6)) fun r3 h4 => w59 a0 i1 i3 r3 (i5 + 1) h4
set_option maxHeartbeats 4000000 in
set_option maxRecDepth 100000 in
theorem mX7_first_b131 {g : XG} {p : Program} {l : Launch} {e : Env} {s : State} {m : MethodId} {args : Array Value} {below : List Frame} {meth : Method} {c : Code} (C : x_C g p s m args c cX7_first RX7 7 wsX7_first) (hr : meth.sig.returnType = none) (hlk : meth.locks = false) (hnm : meth.name = yX7_first.name) {res : Hp} (w59 : Nat → Int32 → Int32 → Int32 → Int32 → Hp → Option (Hp)) (hw59 : ∀ (a0 : Nat) (i1 : Int32) (i3 : Int32) (i4 : Int32) (i5 : Int32) (h : Hp), w59 a0 i1 i3 i4 i5 h = some res → XW g p l e { frames := 3, cells := 0, slots := 0, locals := 67 } s m args below meth c (MQ below (x_Q g none res) args s 0 0 (x_A g)) 7 0 0 h 59 [some (vR a0), some (vI i1), none, some (vI i3), some (vI i4), some (vI i5), none] []) (a0 : Nat) (i1 : Int32) (i3 : Int32) (i4 : Int32) (i5 : Int32) (i6 : Int32) (h : Hp) (hf : fX7_first_b131 w59 a0 i1 i3 i4 i5 i6 h = some res) : XW g p l e { frames := 3, cells := 0, slots := 0, locals := 67 } s m args below meth c (MQ below (x_Q g none res) args s 0 0 (x_A g)) 7 0 0 h 131 [some (vR a0), some (vI i1), none, some (vI i3), some (vI i4), some (vI i5), some (vI i6)] [] := by
  unfold fX7_first_b131 at hf
  refine x_aload_n C dX7_first_131 (pc' := 132) rfl rfl rfl ?_
  refine x_getR C (ci := 7) (kf := 9) rfl (by decide) hinX7_first_X7 lkX7_first_0 rfl hf dX7_first_132 (pc' := 135) rfl (fun v1 _ hf => ?_)
  refine x_iload_n C dX7_first_135 (pc' := 136) rfl rfl rfl ?_
  refine x_iconst C (v := 1) (by decide) dX7_first_136 (pc' := 137) rfl ?_
  refine x_isub C dX7_first_137 (pc' := 138) rfl ?_
  refine x_iload C dX7_first_138 (pc' := 140) rfl rfl ?_
  refine x_iadd C dX7_first_140 (pc' := 141) rfl ?_
  refine x_iload C dX7_first_141 (pc' := 143) rfl rfl ?_
  refine x_iastore C hf dX7_first_143 (pc' := 144) rfl (fun h2 _ hf => ?_)
  refine x_aload_n C dX7_first_144 (pc' := 145) rfl rfl rfl ?_
  refine x_iload_n C dX7_first_145 (pc' := 146) rfl rfl rfl ?_
  refine x_iload C dX7_first_146 (pc' := 148) rfl rfl ?_
  refine x_iload C dX7_first_148 (pc' := 150) rfl rfl ?_
  obtain ⟨r3, h4, hq, hf⟩ := call_some hf
  obtain ⟨hob, hq⟩ := oK_some hq
  refine x_callV C (As := [vI i1, vI i4, vI i6]) (st := []) (r := (some (vI r3))) (h' := h4) (mc := 0) (ms := 0) (k := 0) (n := 0) (mX7_then hq) hob (ci := 7) rfl (cwV 3 C.1.2.2.2.2 gX7_first_X7_then rfl rfl rfl (by decide +kernel) ⟨Nat.le_of_ble_eq_true rfl, Nat.le_of_ble_eq_true rfl⟩) rfl rfl (Nat.le_of_ble_eq_true rfl) dX7_first_150 (pc' := 153) rfl ?_
  refine x_istore C dX7_first_153 (pc' := 155) rfl (by decide) rfl (lv' := [some (vR a0), some (vI i1), none, some (vI i3), some (vI r3), some (vI i5), some (vI i6)]) rfl ?_
  refine x_iinc C dX7_first_155 (pc' := 158) rfl rfl (v := (i5 + 1)) rfl (by decide) rfl (lv' := [some (vR a0), some (vI i1), none, some (vI i3), some (vI r3), some (vI (i5 + 1)), some (vI i6)]) rfl ?_
  refine x_goto C dX7_first_158 (tgt := 59) (by decide) ?_
  refine x_keep [true, true, false, true, true, true, false] rfl ?_
  exact hw59 a0 i1 i3 r3 (i5 + 1) h4 hf
def fX7_first_b125 (w59 : Nat → Int32 → Int32 → Int32 → Int32 → Hp → Option (Hp)) (w71 : Nat → Int32 → Int32 → Int32 → Int32 → Int32 → Hp → Option (Hp)) (a0 : Nat) (i1 : Int32) (i3 : Int32) (i4 : Int32) (i5 : Int32) (i6 : Int32) (h : Hp) : Option (Hp) := w71 a0 i1 i3 i4 i5 (i6 + 1) h
set_option maxHeartbeats 4000000 in
set_option maxRecDepth 100000 in
theorem mX7_first_b125 {g : XG} {p : Program} {l : Launch} {e : Env} {s : State} {m : MethodId} {args : Array Value} {below : List Frame} {meth : Method} {c : Code} (C : x_C g p s m args c cX7_first RX7 7 wsX7_first) (hr : meth.sig.returnType = none) (hlk : meth.locks = false) (hnm : meth.name = yX7_first.name) {res : Hp} (w59 : Nat → Int32 → Int32 → Int32 → Int32 → Hp → Option (Hp)) (hw59 : ∀ (a0 : Nat) (i1 : Int32) (i3 : Int32) (i4 : Int32) (i5 : Int32) (h : Hp), w59 a0 i1 i3 i4 i5 h = some res → XW g p l e { frames := 3, cells := 0, slots := 0, locals := 67 } s m args below meth c (MQ below (x_Q g none res) args s 0 0 (x_A g)) 7 0 0 h 59 [some (vR a0), some (vI i1), none, some (vI i3), some (vI i4), some (vI i5), none] []) (w71 : Nat → Int32 → Int32 → Int32 → Int32 → Int32 → Hp → Option (Hp)) (hw71 : ∀ (a0 : Nat) (i1 : Int32) (i3 : Int32) (i4 : Int32) (i5 : Int32) (i6 : Int32) (h : Hp), w71 a0 i1 i3 i4 i5 i6 h = some res → XW g p l e { frames := 3, cells := 0, slots := 0, locals := 67 } s m args below meth c (MQ below (x_Q g none res) args s 0 0 (x_A g)) 7 0 0 h 71 [some (vR a0), some (vI i1), none, some (vI i3), some (vI i4), some (vI i5), some (vI i6)] []) (a0 : Nat) (i1 : Int32) (i3 : Int32) (i4 : Int32) (i5 : Int32) (i6 : Int32) (h : Hp) (hf : fX7_first_b125 w59 w71 a0 i1 i3 i4 i5 i6 h = some res) : XW g p l e { frames := 3, cells := 0, slots := 0, locals := 67 } s m args below meth c (MQ below (x_Q g none res) args s 0 0 (x_A g)) 7 0 0 h 125 [some (vR a0), some (vI i1), none, some (vI i3), some (vI i4), some (vI i5), some (vI i6)] [] := by
  unfold fX7_first_b125 at hf
  refine x_iinc C dX7_first_125 (pc' := 128) rfl rfl (v := (i6 + 1)) rfl (by decide) rfl (lv' := [some (vR a0), some (vI i1), none, some (vI i3), some (vI i4), some (vI i5), some (vI (i6 + 1))]) rfl ?_
  refine x_goto C dX7_first_128 (tgt := 71) (by decide) ?_
  exact hw71 a0 i1 i3 i4 i5 (i6 + 1) h hf
def fX7_first_w71 (w59 : Nat → Int32 → Int32 → Int32 → Int32 → Hp → Option (Hp)) : Nat → Nat → Int32 → Int32 → Int32 → Int32 → Int32 → Hp → Option (Hp)
  | 0 => fun _ _ _ _ _ _ _ => none
  | n + 1 => fun a0 i1 i3 i4 i5 i6 h => (gR h a0 7 4).bind fun v1 => (aI h v1 0 i1).bind fun v2 => call (oK h a0 7 (fX7_tells h a0 i1 ((v2 * i4) + i6))) fun r3 h4 => (gR h4 a0 7 1).bind fun v5 => (aI h4 v5 1 i5).bind fun v6 => if r3 = v6 then ((gR h4 a0 7 11).bind fun v7 => call (oK h4 a0 7 (fX7_then h4 a0 i1 i4 i6)) fun r8 h9 => (aL h9 v7 (((9 : Int32) * (i5 + (1 : Int32))) + r8)).bind fun v10 => if (lg_cmp v10 (0 : Int64)) = 0 then (fX7_first_b125 w59 (fX7_first_w71 w59 n) a0 i1 i3 i4 i5 i6 h9) else (fX7_first_b131 w59 a0 i1 i3 i4 i5 i6 h9)) else (fX7_first_b125 w59 (fX7_first_w71 w59 n) a0 i1 i3 i4 i5 i6 h4)
set_option maxHeartbeats 4000000 in
set_option maxRecDepth 100000 in
theorem mX7_first_w71 {g : XG} {p : Program} {l : Launch} {e : Env} {s : State} {m : MethodId} {args : Array Value} {below : List Frame} {meth : Method} {c : Code} (C : x_C g p s m args c cX7_first RX7 7 wsX7_first) (hr : meth.sig.returnType = none) (hlk : meth.locks = false) (hnm : meth.name = yX7_first.name) {res : Hp} (w59 : Nat → Int32 → Int32 → Int32 → Int32 → Hp → Option (Hp)) (hw59 : ∀ (a0 : Nat) (i1 : Int32) (i3 : Int32) (i4 : Int32) (i5 : Int32) (h : Hp), w59 a0 i1 i3 i4 i5 h = some res → XW g p l e { frames := 3, cells := 0, slots := 0, locals := 67 } s m args below meth c (MQ below (x_Q g none res) args s 0 0 (x_A g)) 7 0 0 h 59 [some (vR a0), some (vI i1), none, some (vI i3), some (vI i4), some (vI i5), none] []) : ∀ (n : Nat) (a0 : Nat) (i1 : Int32) (i3 : Int32) (i4 : Int32) (i5 : Int32) (i6 : Int32) (h : Hp), fX7_first_w71 w59 n a0 i1 i3 i4 i5 i6 h = some res → XW g p l e { frames := 3, cells := 0, slots := 0, locals := 67 } s m args below meth c (MQ below (x_Q g none res) args s 0 0 (x_A g)) 7 0 0 h 71 [some (vR a0), some (vI i1), none, some (vI i3), some (vI i4), some (vI i5), some (vI i6)] [] := by
  intro n
  induction n with
  | zero =>
    intro a0 i1 i3 i4 i5 i6 h hf
    have hf2 : (none : Option (Hp)) = some res := hf
    cases hf2
  | succ n ih =>
    intro a0 i1 i3 i4 i5 i6 h hf
    rw [fX7_first_w71] at hf
    refine x_aload_n C dX7_first_71 (pc' := 72) rfl rfl rfl ?_
    refine x_iload_n C dX7_first_72 (pc' := 73) rfl rfl rfl ?_
    refine x_aload_n C dX7_first_73 (pc' := 74) rfl rfl rfl ?_
    refine x_getR C (ci := 7) (kf := 4) rfl (by decide) hinX7_first_X7 lkX7_first_1 rfl hf dX7_first_74 (pc' := 77) rfl (fun v1 _ hf => ?_)
    refine x_iload_n C dX7_first_77 (pc' := 78) rfl rfl rfl ?_
    refine x_iaload C hf dX7_first_78 (pc' := 79) rfl (fun v2 _ hf => ?_)
    refine x_iload C dX7_first_79 (pc' := 81) rfl rfl ?_
    refine x_imul C dX7_first_81 (pc' := 82) rfl ?_
    refine x_iload C dX7_first_82 (pc' := 84) rfl rfl ?_
    refine x_iadd C dX7_first_84 (pc' := 85) rfl ?_
    obtain ⟨r3, h4, hq, hf⟩ := call_some hf
    obtain ⟨hob, hq⟩ := oK_some hq
    refine x_callV C (As := [vI i1, vI ((v2 * i4) + i6)]) (st := []) (r := (some (vI r3))) (h' := h4) (mc := 0) (ms := 0) (k := 0) (n := 0) (mX7_tells hq) hob (ci := 7) rfl (cwV 2 C.1.2.2.2.2 gX7_first_X7_tells rfl rfl rfl (by decide +kernel) ⟨Nat.le_of_ble_eq_true rfl, Nat.le_of_ble_eq_true rfl⟩) rfl rfl (Nat.le_of_ble_eq_true rfl) dX7_first_85 (pc' := 88) rfl ?_
    refine x_aload_n C dX7_first_88 (pc' := 89) rfl rfl rfl ?_
    refine x_getR C (ci := 7) (kf := 1) rfl (by decide) hinX7_first_X7 lkX7_first_2 rfl hf dX7_first_89 (pc' := 92) rfl (fun v5 _ hf => ?_)
    refine x_iload C dX7_first_92 (pc' := 94) rfl rfl ?_
    refine x_baloadB C hf dX7_first_94 (pc' := 95) rfl (fun v6 _ hf => ?_)
    refine x_icmp_ne C hf dX7_first_95 (pc' := 98) rfl (tgt := 125) (by decide) (fun _ hf => ?_) (fun _ hf => ?_)
    ·
      refine x_aload_n C dX7_first_98 (pc' := 99) rfl rfl rfl ?_
      refine x_getR C (ci := 7) (kf := 11) rfl (by decide) hinX7_first_X7 lkX7_first_3 rfl hf dX7_first_99 (pc' := 102) rfl (fun v7 _ hf => ?_)
      refine x_bipush C (v := 9) (by decide) dX7_first_102 (pc' := 104) rfl ?_
      refine x_iload C dX7_first_104 (pc' := 106) rfl rfl ?_
      refine x_iconst C (v := 1) (by decide) dX7_first_106 (pc' := 107) rfl ?_
      refine x_iadd C dX7_first_107 (pc' := 108) rfl ?_
      refine x_imul C dX7_first_108 (pc' := 109) rfl ?_
      refine x_aload_n C dX7_first_109 (pc' := 110) rfl rfl rfl ?_
      refine x_iload_n C dX7_first_110 (pc' := 111) rfl rfl rfl ?_
      refine x_iload C dX7_first_111 (pc' := 113) rfl rfl ?_
      refine x_iload C dX7_first_113 (pc' := 115) rfl rfl ?_
      obtain ⟨r8, h9, hq, hf⟩ := call_some hf
      obtain ⟨hob, hq⟩ := oK_some hq
      refine x_callV C (As := [vI i1, vI i4, vI i6]) (st := [vI ((9 : Int32) * (i5 + (1 : Int32))), vR v7]) (r := (some (vI r8))) (h' := h9) (mc := 0) (ms := 0) (k := 0) (n := 0) (mX7_then hq) hob (ci := 7) rfl (cwV 3 C.1.2.2.2.2 gX7_first_X7_then rfl rfl rfl (by decide +kernel) ⟨Nat.le_of_ble_eq_true rfl, Nat.le_of_ble_eq_true rfl⟩) rfl rfl (Nat.le_of_ble_eq_true rfl) dX7_first_115 (pc' := 118) rfl ?_
      refine x_iadd C dX7_first_118 (pc' := 119) rfl ?_
      refine x_laload C hf dX7_first_119 (pc' := 120) rfl (fun v10 _ hf => ?_)
      refine x_lconst C (v := 0) (by decide) dX7_first_120 (pc' := 121) rfl ?_
      refine x_lcmp C dX7_first_121 (pc' := 122) rfl ?_
      refine x_if_ne C hf dX7_first_122 (pc' := 125) rfl (tgt := 131) (by decide) (fun _ hf => ?_) (fun _ hf => ?_)
      ·
        refine x_more (k' := 0) (n' := 0) (Nat.le_of_ble_eq_true rfl) (Nat.le_of_ble_eq_true rfl) ?_
        exact mX7_first_b125 C hr hlk hnm w59 hw59 (fX7_first_w71 w59 n) ih a0 i1 i3 i4 i5 i6 h9 hf
      ·
        refine x_more (k' := 0) (n' := 0) (Nat.le_of_ble_eq_true rfl) (Nat.le_of_ble_eq_true rfl) ?_
        exact mX7_first_b131 C hr hlk hnm w59 hw59 a0 i1 i3 i4 i5 i6 h9 hf
    ·
      refine x_more (k' := 0) (n' := 0) (Nat.le_of_ble_eq_true rfl) (Nat.le_of_ble_eq_true rfl) ?_
      exact mX7_first_b125 C hr hlk hnm w59 hw59 (fX7_first_w71 w59 n) ih a0 i1 i3 i4 i5 i6 h4 hf
def fX7_first_w59 : Nat → Nat → Int32 → Int32 → Int32 → Int32 → Hp → Option (Hp)
  | 0 => fun _ _ _ _ _ _ => none
  | n + 1 => fun a0 i1 i3 i4 i5 h => (gI h a0 7 3).bind fun v1 => if v1 ≤ i5 then (some h) else (fX7_first_w71 (fX7_first_w59 n) FUEL a0 i1 i3 i4 i5 (0 : Int32) h)
set_option maxHeartbeats 4000000 in
set_option maxRecDepth 100000 in
theorem mX7_first_w59 {g : XG} {p : Program} {l : Launch} {e : Env} {s : State} {m : MethodId} {args : Array Value} {below : List Frame} {meth : Method} {c : Code} (C : x_C g p s m args c cX7_first RX7 7 wsX7_first) (hr : meth.sig.returnType = none) (hlk : meth.locks = false) (hnm : meth.name = yX7_first.name) {res : Hp} : ∀ (n : Nat) (a0 : Nat) (i1 : Int32) (i3 : Int32) (i4 : Int32) (i5 : Int32) (h : Hp), fX7_first_w59 n a0 i1 i3 i4 i5 h = some res → XW g p l e { frames := 3, cells := 0, slots := 0, locals := 67 } s m args below meth c (MQ below (x_Q g none res) args s 0 0 (x_A g)) 7 0 0 h 59 [some (vR a0), some (vI i1), none, some (vI i3), some (vI i4), some (vI i5), none] [] := by
  intro n
  induction n with
  | zero =>
    intro a0 i1 i3 i4 i5 h hf
    have hf2 : (none : Option (Hp)) = some res := hf
    cases hf2
  | succ n ih =>
    intro a0 i1 i3 i4 i5 h hf
    rw [fX7_first_w59] at hf
    refine x_iload C dX7_first_59 (pc' := 61) rfl rfl ?_
    refine x_aload_n C dX7_first_61 (pc' := 62) rfl rfl rfl ?_
    refine x_getI C (ci := 7) (kf := 3) rfl (by decide) hinX7_first_X7 lkX7_first_4 rfl hf dX7_first_62 (pc' := 65) rfl (fun v1 _ hf => ?_)
    refine x_icmp_ge C hf dX7_first_65 (pc' := 68) rfl (tgt := 161) (by decide) (fun _ hf => ?_) (fun _ hf => ?_)
    ·
      cases hf
      exact x_vret C hr hlk dX7_first_161
    ·
      refine x_iconst C (v := 0) (by decide) dX7_first_68 (pc' := 69) rfl ?_
      refine x_istore C dX7_first_69 (pc' := 71) rfl (by decide) rfl (lv' := [some (vR a0), some (vI i1), none, some (vI i3), some (vI i4), some (vI i5), some (vI (0 : Int32))]) rfl ?_
      refine x_more (k' := 0) (n' := 0) (Nat.le_of_ble_eq_true rfl) (Nat.le_of_ble_eq_true rfl) ?_
      exact mX7_first_w71 C hr hlk hnm (fX7_first_w59 n) ih FUEL a0 i1 i3 i4 i5 (0 : Int32) h hf
def fX7_first_b53 (a0 : Nat) (i1 : Int32) (i2 : Int32) (i3 : Int32) (h : Hp) : Option (Hp) := fX7_first_w59 FUEL a0 i1 i3 i2 (0 : Int32) h
set_option maxHeartbeats 4000000 in
set_option maxRecDepth 100000 in
theorem mX7_first_b53 {g : XG} {p : Program} {l : Launch} {e : Env} {s : State} {m : MethodId} {args : Array Value} {below : List Frame} {meth : Method} {c : Code} (C : x_C g p s m args c cX7_first RX7 7 wsX7_first) (hr : meth.sig.returnType = none) (hlk : meth.locks = false) (hnm : meth.name = yX7_first.name) {res : Hp} (a0 : Nat) (i1 : Int32) (i2 : Int32) (i3 : Int32) (h : Hp) (hf : fX7_first_b53 a0 i1 i2 i3 h = some res) : XW g p l e { frames := 3, cells := 0, slots := 0, locals := 67 } s m args below meth c (MQ below (x_Q g none res) args s 0 0 (x_A g)) 7 0 0 h 53 [some (vR a0), some (vI i1), some (vI i2), some (vI i3), none, none, none] [] := by
  unfold fX7_first_b53 at hf
  refine x_iload_n C dX7_first_53 (pc' := 54) rfl rfl rfl ?_
  refine x_istore C dX7_first_54 (pc' := 56) rfl (by decide) rfl (lv' := [some (vR a0), some (vI i1), some (vI i2), some (vI i3), some (vI i2), none, none]) rfl ?_
  refine x_iconst C (v := 0) (by decide) dX7_first_56 (pc' := 57) rfl ?_
  refine x_istore C dX7_first_57 (pc' := 59) rfl (by decide) rfl (lv' := [some (vR a0), some (vI i1), some (vI i2), some (vI i3), some (vI i2), some (vI (0 : Int32)), none]) rfl ?_
  refine x_keep [true, true, false, true, true, true, false] rfl ?_
  refine x_more (k' := 0) (n' := 0) (Nat.le_of_ble_eq_true rfl) (Nat.le_of_ble_eq_true rfl) ?_
  exact mX7_first_w59 C hr hlk hnm FUEL a0 i1 i3 i2 (0 : Int32) h hf
def fX7_first_w15 : Nat → Nat → Int32 → Int32 → Int32 → Int32 → Int32 → Hp → Option (Hp)
  | 0 => fun _ _ _ _ _ _ _ => none
  | n + 1 => fun a0 i1 i2 i3 i4 i5 h => if i5 < 0 then (fX7_first_b53 a0 i1 i2 i3 h) else ((gR h a0 7 9).bind fun v1 => (gR h a0 7 4).bind fun v2 => (aI h v2 0 i1).bind fun v3 => iRem i4 v3 fun v4 => (sI h v1 0 i5 v4).bind fun h5 => (gR h5 a0 7 4).bind fun v6 => (aI h5 v6 0 i1).bind fun v7 => iDiv i4 v7 fun v8 => (fX7_first_w15 n) a0 i1 i2 i3 v8 (i5 + (-1)) h5)
set_option maxHeartbeats 4000000 in
set_option maxRecDepth 100000 in
theorem mX7_first_w15 {g : XG} {p : Program} {l : Launch} {e : Env} {s : State} {m : MethodId} {args : Array Value} {below : List Frame} {meth : Method} {c : Code} (C : x_C g p s m args c cX7_first RX7 7 wsX7_first) (hr : meth.sig.returnType = none) (hlk : meth.locks = false) (hnm : meth.name = yX7_first.name) {res : Hp} : ∀ (n : Nat) (a0 : Nat) (i1 : Int32) (i2 : Int32) (i3 : Int32) (i4 : Int32) (i5 : Int32) (h : Hp), fX7_first_w15 n a0 i1 i2 i3 i4 i5 h = some res → XW g p l e { frames := 3, cells := 0, slots := 0, locals := 67 } s m args below meth c (MQ below (x_Q g none res) args s 0 0 (x_A g)) 7 0 0 h 15 [some (vR a0), some (vI i1), some (vI i2), some (vI i3), some (vI i4), some (vI i5), none] [] := by
  intro n
  induction n with
  | zero =>
    intro a0 i1 i2 i3 i4 i5 h hf
    have hf2 : (none : Option (Hp)) = some res := hf
    cases hf2
  | succ n ih =>
    intro a0 i1 i2 i3 i4 i5 h hf
    rw [fX7_first_w15] at hf
    refine x_iload C dX7_first_15 (pc' := 17) rfl rfl ?_
    refine x_if_lt C hf dX7_first_17 (pc' := 20) rfl (tgt := 53) (by decide) (fun _ hf => ?_) (fun _ hf => ?_)
    ·
      refine x_keep [true, true, true, true, false, false, false] rfl ?_
      refine x_more (k' := 0) (n' := 0) (Nat.le_of_ble_eq_true rfl) (Nat.le_of_ble_eq_true rfl) ?_
      exact mX7_first_b53 C hr hlk hnm a0 i1 i2 i3 h hf
    ·
      refine x_aload_n C dX7_first_20 (pc' := 21) rfl rfl rfl ?_
      refine x_getR C (ci := 7) (kf := 9) rfl (by decide) hinX7_first_X7 lkX7_first_0 rfl hf dX7_first_21 (pc' := 24) rfl (fun v1 _ hf => ?_)
      refine x_iload C dX7_first_24 (pc' := 26) rfl rfl ?_
      refine x_iload C dX7_first_26 (pc' := 28) rfl rfl ?_
      refine x_aload_n C dX7_first_28 (pc' := 29) rfl rfl rfl ?_
      refine x_getR C (ci := 7) (kf := 4) rfl (by decide) hinX7_first_X7 lkX7_first_1 rfl hf dX7_first_29 (pc' := 32) rfl (fun v2 _ hf => ?_)
      refine x_iload_n C dX7_first_32 (pc' := 33) rfl rfl rfl ?_
      refine x_iaload C hf dX7_first_33 (pc' := 34) rfl (fun v3 _ hf => ?_)
      refine x_irem C hf dX7_first_34 (pc' := 35) rfl (fun _ v4 _ hf => ?_)
      refine x_iastore C hf dX7_first_35 (pc' := 36) rfl (fun h5 _ hf => ?_)
      refine x_iload C dX7_first_36 (pc' := 38) rfl rfl ?_
      refine x_aload_n C dX7_first_38 (pc' := 39) rfl rfl rfl ?_
      refine x_getR C (ci := 7) (kf := 4) rfl (by decide) hinX7_first_X7 lkX7_first_1 rfl hf dX7_first_39 (pc' := 42) rfl (fun v6 _ hf => ?_)
      refine x_iload_n C dX7_first_42 (pc' := 43) rfl rfl rfl ?_
      refine x_iaload C hf dX7_first_43 (pc' := 44) rfl (fun v7 _ hf => ?_)
      refine x_idiv C hf dX7_first_44 (pc' := 45) rfl (fun _ v8 _ hf => ?_)
      refine x_istore C dX7_first_45 (pc' := 47) rfl (by decide) rfl (lv' := [some (vR a0), some (vI i1), some (vI i2), some (vI i3), some (vI v8), some (vI i5), none]) rfl ?_
      refine x_iinc C dX7_first_47 (pc' := 50) rfl rfl (v := (i5 + (-1))) rfl (by decide) rfl (lv' := [some (vR a0), some (vI i1), some (vI i2), some (vI i3), some (vI v8), some (vI (i5 + (-1))), none]) rfl ?_
      refine x_goto C dX7_first_50 (tgt := 15) (by decide) ?_
      exact ih a0 i1 i2 i3 v8 (i5 + (-1)) h5 hf
def fX7_first (h : Hp) (a0 : Nat) (i1 : Int32) (i2 : Int32) : Option (Hp) := (gR h a0 7 5).bind fun v1 => (aI h v1 0 i1).bind fun v2 => setv ((v2 - (2 : Int32))) fun v3 => fX7_first_w15 FUEL a0 i1 i2 v2 i2 v3 h
set_option maxHeartbeats 4000000 in
set_option maxRecDepth 100000 in
theorem mX7_first {l : Launch} {g : XG} {h : Hp} {a0 : Nat} {i1 : Int32} {i2 : Int32} {res : Hp} (hf : fX7_first h a0 i1 i2 = some res) : XM l g yX7_first wsX7_first 3 67 0 0 [vR a0, vI i1, vI i2] h none res := by
  refine x_start (cc := cX7_first) (maxL := 7) (ret := none) (by decide) rfl (Nat.le_of_ble_eq_true rfl) (lv := [some (vR a0), some (vI i1), some (vI i2), none, none, none, none]) rfl ?_
  intro p e s m args below meth c C hr hlk hnm
  unfold fX7_first at hf
  refine x_aload_n C dX7_first_0 (pc' := 1) rfl rfl rfl ?_
  refine x_getR C (ci := 7) (kf := 5) rfl (by decide) hinX7_first_X7 lkX7_first_5 rfl hf dX7_first_1 (pc' := 4) rfl (fun v1 _ hf => ?_)
  refine x_iload_n C dX7_first_4 (pc' := 5) rfl rfl rfl ?_
  refine x_iaload C hf dX7_first_5 (pc' := 6) rfl (fun v2 _ hf => ?_)
  refine x_istore_n C dX7_first_6 (pc' := 7) rfl rfl (by decide) rfl (lv' := [some (vR a0), some (vI i1), some (vI i2), some (vI v2), none, none, none]) rfl ?_
  refine x_iload_n C dX7_first_7 (pc' := 8) rfl rfl rfl ?_
  refine x_istore C dX7_first_8 (pc' := 10) rfl (by decide) rfl (lv' := [some (vR a0), some (vI i1), some (vI i2), some (vI v2), some (vI i2), none, none]) rfl ?_
  refine x_iload_n C dX7_first_10 (pc' := 11) rfl rfl rfl ?_
  refine x_iconst C (v := 2) (by decide) dX7_first_11 (pc' := 12) rfl ?_
  refine x_isub C dX7_first_12 (pc' := 13) rfl ?_
  refine x_nameI hf (fun v3 _ hf => ?_)
  refine x_istore C dX7_first_13 (pc' := 15) rfl (by decide) rfl (lv' := [some (vR a0), some (vI i1), some (vI i2), some (vI v2), some (vI i2), some (vI v3), none]) rfl ?_
  refine x_more (k' := 0) (n' := 0) (Nat.le_of_ble_eq_true rfl) (Nat.le_of_ble_eq_true rfl) ?_
  exact mX7_first_w15 C hr hlk hnm FUEL a0 i1 i2 v2 i2 v3 h hf

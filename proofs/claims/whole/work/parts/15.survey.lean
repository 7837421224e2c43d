-- ===== X3_init
theorem lkX3_init_0 : Cond.methodLink RX3 3 objectInit ∈ wsX3_init := by decide +kernel
theorem lkX3_init_1 : Cond.instanceMethod objectInit ∈ wsX3_init := by decide +kernel
theorem lkX3_init_2 : Cond.code objectInit ⟨#[0xb1]⟩ 1 none ∈ wsX3_init := by decide +kernel
theorem lkX3_init_3 : Cond.arrayClass .int ∈ wsX3_init := by decide +kernel
theorem lkX3_init_4 : Cond.fieldLink RX3 9 "MossRings$Survey" "next" "[I" ∈ wsX3_init := by decide +kernel
theorem hinX3_init_X3 : ∀ w ∈ u_ws RX3 TX3 13, w ∈ wsX3_init := by decide +kernel
theorem lkX3_init_5 : Cond.fieldLink RX3 15 "MossRings$Survey" "behind" "[I" ∈ wsX3_init := by decide +kernel
theorem lkX3_init_6 : Cond.fieldLink RX3 18 "MossRings$Survey" "queue" "[I" ∈ wsX3_init := by decide +kernel
theorem lkX3_init_7 : Cond.fieldLink RX3 21 "MossRings$Survey" "heights" "[I" ∈ wsX3_init := by decide +kernel
theorem lkX3_init_8 : Cond.fieldLink RX3 24 "MossRings$Survey" "cells" "[I" ∈ wsX3_init := by decide +kernel
theorem lkX3_init_9 : Cond.fieldLink RX3 27 "MossRings$Survey" "grown" "[I" ∈ wsX3_init := by decide +kernel
def fX3_init (h : Hp) (a0 : Nat) : Option (Hp) := if a0 = 0 then none else (mkA h 0 4096 (4096 : Int32) fun q1 h2 => (pF h2 a0 3 0 (vR q1)).bind fun h3 => mkA h3 0 4096 (4096 : Int32) fun q4 h5 => (pF h5 a0 3 1 (vR q4)).bind fun h6 => mkA h6 0 4096 (4096 : Int32) fun q7 h8 => (pF h8 a0 3 2 (vR q7)).bind fun h9 => mkA h9 0 4096 (4096 : Int32) fun q10 h11 => (pF h11 a0 3 3 (vR q10)).bind fun h12 => mkA h12 0 20 (20 : Int32) fun q13 h14 => (pF h14 a0 3 4 (vR q13)).bind fun h15 => mkA h15 0 20 (20 : Int32) fun q16 h17 => (pF h17 a0 3 5 (vR q16)).bind fun h18 => some h18)
set_option maxHeartbeats 4000000 in
set_option maxRecDepth 100000 in
theorem mX3_init {l : Launch} {g : XG} {h : Hp} {a0 : Nat} {res : Hp} (hf : fX3_init h a0 = some res) : XM l g yX3_init wsX3_init 1 12 6 16424 [vR a0] h none res := by
  refine x_start (cc := cX3_init) (maxL := 1) (ret := none) (by decide) rfl (Nat.le_of_ble_eq_true rfl) (lv := [some (vR a0)]) rfl ?_
  intro p e s m args below meth c C hr hlk hnm
  unfold fX3_init at hf
  refine x_aload_n C dX3_init_0 (pc' := 1) rfl rfl rfl ?_
  refine x_objInit C lkX3_init_0 lkX3_init_1 lkX3_init_2 (Nat.le_of_ble_eq_true rfl) (Nat.le_of_ble_eq_true rfl) hf dX3_init_1 (pc' := 4) rfl (fun hf => ?_)
  refine x_aload_n C dX3_init_4 (pc' := 5) rfl rfl rfl ?_
  refine x_sipush C (v := 4096) (by decide) dX3_init_5 (pc' := 8) rfl ?_
  refine x_newI C (k := 5) (n := 12328) (ty := .int) rfl (Or.inl ⟨rfl, rfl⟩) lkX3_init_3 (by decide) hf dX3_init_8 (pc' := 10) rfl (fun q1 h2 _ _ _ _ hf => ?_)
  refine x_put C (ci := 3) (kf := 0) rfl (by decide) hinX3_init_X3 tyX3 tyX3_ok nmX3 lkX3_init_4 rfl (Or.inr ⟨rfl, hnm, rfl⟩) rfl hf dX3_init_10 (pc' := 13) rfl (fun h3 _ hf => ?_)
  refine x_aload_n C dX3_init_13 (pc' := 14) rfl rfl rfl ?_
  refine x_sipush C (v := 4096) (by decide) dX3_init_14 (pc' := 17) rfl ?_
  refine x_newI C (k := 4) (n := 8232) (ty := .int) rfl (Or.inl ⟨rfl, rfl⟩) lkX3_init_3 (by decide) hf dX3_init_17 (pc' := 19) rfl (fun q4 h5 _ _ _ _ hf => ?_)
  refine x_put C (ci := 3) (kf := 1) rfl (by decide) hinX3_init_X3 tyX3 tyX3_ok nmX3 lkX3_init_5 rfl (Or.inr ⟨rfl, hnm, rfl⟩) rfl hf dX3_init_19 (pc' := 22) rfl (fun h6 _ hf => ?_)
  refine x_aload_n C dX3_init_22 (pc' := 23) rfl rfl rfl ?_
  refine x_sipush C (v := 4096) (by decide) dX3_init_23 (pc' := 26) rfl ?_
  refine x_newI C (k := 3) (n := 4136) (ty := .int) rfl (Or.inl ⟨rfl, rfl⟩) lkX3_init_3 (by decide) hf dX3_init_26 (pc' := 28) rfl (fun q7 h8 _ _ _ _ hf => ?_)
  refine x_put C (ci := 3) (kf := 2) rfl (by decide) hinX3_init_X3 tyX3 tyX3_ok nmX3 lkX3_init_6 rfl (Or.inr ⟨rfl, hnm, rfl⟩) rfl hf dX3_init_28 (pc' := 31) rfl (fun h9 _ hf => ?_)
  refine x_aload_n C dX3_init_31 (pc' := 32) rfl rfl rfl ?_
  refine x_sipush C (v := 4096) (by decide) dX3_init_32 (pc' := 35) rfl ?_
  refine x_newI C (k := 2) (n := 40) (ty := .int) rfl (Or.inl ⟨rfl, rfl⟩) lkX3_init_3 (by decide) hf dX3_init_35 (pc' := 37) rfl (fun q10 h11 _ _ _ _ hf => ?_)
  refine x_put C (ci := 3) (kf := 3) rfl (by decide) hinX3_init_X3 tyX3 tyX3_ok nmX3 lkX3_init_7 rfl (Or.inr ⟨rfl, hnm, rfl⟩) rfl hf dX3_init_37 (pc' := 40) rfl (fun h12 _ hf => ?_)
  refine x_aload_n C dX3_init_40 (pc' := 41) rfl rfl rfl ?_
  refine x_bipush C (v := 20) (by decide) dX3_init_41 (pc' := 43) rfl ?_
  refine x_newI C (k := 1) (n := 20) (ty := .int) rfl (Or.inl ⟨rfl, rfl⟩) lkX3_init_3 (by decide) hf dX3_init_43 (pc' := 45) rfl (fun q13 h14 _ _ _ _ hf => ?_)
  refine x_put C (ci := 3) (kf := 4) rfl (by decide) hinX3_init_X3 tyX3 tyX3_ok nmX3 lkX3_init_8 rfl (Or.inr ⟨rfl, hnm, rfl⟩) rfl hf dX3_init_45 (pc' := 48) rfl (fun h15 _ hf => ?_)
  refine x_aload_n C dX3_init_48 (pc' := 49) rfl rfl rfl ?_
  refine x_bipush C (v := 20) (by decide) dX3_init_49 (pc' := 51) rfl ?_
  refine x_newI C (k := 0) (n := 0) (ty := .int) rfl (Or.inl ⟨rfl, rfl⟩) lkX3_init_3 (by decide) hf dX3_init_51 (pc' := 53) rfl (fun q16 h17 _ _ _ _ hf => ?_)
  refine x_put C (ci := 3) (kf := 5) rfl (by decide) hinX3_init_X3 tyX3 tyX3_ok nmX3 lkX3_init_9 rfl (Or.inr ⟨rfl, hnm, rfl⟩) rfl hf dX3_init_53 (pc' := 56) rfl (fun h18 _ hf => ?_)
  cases hf
  exact x_vret C hr hlk dX3_init_56
-- ===== X3_tell
theorem lkX3_tell_0 : Cond.fieldLink RX3 30 "MossRings$Survey" "leaves" "I" ∈ wsX3_tell := by decide +kernel
theorem hinX3_tell_X3 : ∀ w ∈ u_ws RX3 TX3 13, w ∈ wsX3_tell := by decide +kernel
theorem lkX3_tell_1 : Cond.fieldLink RX3 34 "MossRings$Survey" "onRounds" "I" ∈ wsX3_tell := by decide +kernel
theorem lkX3_tell_2 : Cond.fieldLink RX3 37 "MossRings$Survey" "rounds" "I" ∈ wsX3_tell := by decide +kernel
theorem lkX3_tell_3 : Cond.fieldLink RX3 40 "MossRings$Survey" "greatestHeight" "I" ∈ wsX3_tell := by decide +kernel
theorem lkX3_tell_4 : Cond.fieldLink RX3 43 "MossRings$Survey" "greatestLength" "I" ∈ wsX3_tell := by decide +kernel
def fX3_tell (h : Hp) (a0 : Nat) (i1 : Int32) : Option (Int32 × Hp) := if i1 = 0 then ((gI h a0 3 8).bind fun v2 => some (v2, h)) else (if i1 = 1 then ((gI h a0 3 9).bind fun v4 => some (v4, h)) else (if i1 = 2 then ((gI h a0 3 10).bind fun v6 => some (v6, h)) else (if i1 = 3 then ((gI h a0 3 11).bind fun v8 => some (v8, h)) else (if i1 = 4 then ((gI h a0 3 12).bind fun v10 => some (v10, h)) else (some ((-1 : Int32), h))))))
set_option maxHeartbeats 4000000 in
set_option maxRecDepth 100000 in
theorem mX3_tell {l : Launch} {g : XG} {h : Hp} {a0 : Nat} {i1 : Int32} {res : Int32 × Hp} (hf : fX3_tell h a0 i1 = some res) : XM l g yX3_tell wsX3_tell 0 0 0 0 [vR a0, vI i1] h (some (vI res.1)) res.2 := by
  refine x_start (cc := cX3_tell) (maxL := 2) (ret := (some .int)) (by decide) rfl (Nat.le_of_ble_eq_true rfl) (lv := [some (vR a0), some (vI i1)]) rfl ?_
  intro p e s m args below meth c C hr hlk hnm
  unfold fX3_tell at hf
  refine x_iload_n C dX3_tell_0 (pc' := 1) rfl rfl rfl ?_
  by_cases hc1 : i1 = 0
  ·
    rw [if_pos hc1] at hf
    refine x_tswIn C (i := 0) hc1 (by decide) (by decide) dX3_tell_1 (off := 35) rfl (tgt := 36) (by decide) ?_
    refine x_aload_n C dX3_tell_36 (pc' := 37) rfl rfl rfl ?_
    refine x_getI C (ci := 3) (kf := 8) rfl (by decide) hinX3_tell_X3 lkX3_tell_0 rfl hf dX3_tell_37 (pc' := 40) rfl (fun v2 _ hf => ?_)
    cases hf
    exact x_iret C hr hlk dX3_tell_40
  ·
    rw [if_neg hc1] at hf
    by_cases hc3 : i1 = 1
    ·
      rw [if_pos hc3] at hf
      refine x_tswIn C (i := 1) hc3 (by decide) (by decide) dX3_tell_1 (off := 40) rfl (tgt := 41) (by decide) ?_
      refine x_aload_n C dX3_tell_41 (pc' := 42) rfl rfl rfl ?_
      refine x_getI C (ci := 3) (kf := 9) rfl (by decide) hinX3_tell_X3 lkX3_tell_1 rfl hf dX3_tell_42 (pc' := 45) rfl (fun v4 _ hf => ?_)
      cases hf
      exact x_iret C hr hlk dX3_tell_45
    ·
      rw [if_neg hc3] at hf
      by_cases hc5 : i1 = 2
      ·
        rw [if_pos hc5] at hf
        refine x_tswIn C (i := 2) hc5 (by decide) (by decide) dX3_tell_1 (off := 45) rfl (tgt := 46) (by decide) ?_
        refine x_aload_n C dX3_tell_46 (pc' := 47) rfl rfl rfl ?_
        refine x_getI C (ci := 3) (kf := 10) rfl (by decide) hinX3_tell_X3 lkX3_tell_2 rfl hf dX3_tell_47 (pc' := 50) rfl (fun v6 _ hf => ?_)
        cases hf
        exact x_iret C hr hlk dX3_tell_50
      ·
        rw [if_neg hc5] at hf
        by_cases hc7 : i1 = 3
        ·
          rw [if_pos hc7] at hf
          refine x_tswIn C (i := 3) hc7 (by decide) (by decide) dX3_tell_1 (off := 50) rfl (tgt := 51) (by decide) ?_
          refine x_aload_n C dX3_tell_51 (pc' := 52) rfl rfl rfl ?_
          refine x_getI C (ci := 3) (kf := 11) rfl (by decide) hinX3_tell_X3 lkX3_tell_3 rfl hf dX3_tell_52 (pc' := 55) rfl (fun v8 _ hf => ?_)
          cases hf
          exact x_iret C hr hlk dX3_tell_55
        ·
          rw [if_neg hc7] at hf
          by_cases hc9 : i1 = 4
          ·
            rw [if_pos hc9] at hf
            refine x_tswIn C (i := 4) hc9 (by decide) (by decide) dX3_tell_1 (off := 55) rfl (tgt := 56) (by decide) ?_
            refine x_aload_n C dX3_tell_56 (pc' := 57) rfl rfl rfl ?_
            refine x_getI C (ci := 3) (kf := 12) rfl (by decide) hinX3_tell_X3 lkX3_tell_4 rfl hf dX3_tell_57 (pc' := 60) rfl (fun v10 _ hf => ?_)
            cases hf
            exact x_iret C hr hlk dX3_tell_60
          ·
            rw [if_neg hc9] at hf
            refine x_tswOut C 5 (by decide) (fun i hi => by match i, hi with | 0, _ => exact hc1 | 1, _ => exact hc3 | 2, _ => exact hc5 | 3, _ => exact hc7 | 4, _ => exact hc9 | j + 5, hi => omega) dX3_tell_1 (tgt := 61) (by decide) ?_
            refine x_iconst C (v := -1) (by decide) dX3_tell_61 (pc' := 62) rfl ?_
            cases hf
            exact x_iret C hr hlk dX3_tell_62
-- ===== X3_lead
theorem lkX3_lead_0 : Cond.fieldLink RX3 15 "MossRings$Survey" "behind" "[I" ∈ wsX3_lead := by decide +kernel
theorem hinX3_lead_X3 : ∀ w ∈ u_ws RX3 TX3 13, w ∈ wsX3_lead := by decide +kernel
theorem lkX3_lead_1 : Cond.fieldLink RX3 9 "MossRings$Survey" "next" "[I" ∈ wsX3_lead := by decide +kernel
theorem lkX3_lead_2 : Cond.fieldLink RX3 46 "MossRings$Survey" "rule" "LMossRings$Rule;" ∈ wsX3_lead := by decide +kernel
theorem lkX3_lead_3 : Cond.fieldLink RX3 50 "MossRings$Survey" "n" "I" ∈ wsX3_lead := by decide +kernel
theorem lkX3_lead_4 : Cond.fieldLink RX3 24 "MossRings$Survey" "cells" "[I" ∈ wsX3_lead := by decide +kernel
theorem lkX3_lead_5 : Cond.fieldLink RX3 27 "MossRings$Survey" "grown" "[I" ∈ wsX3_lead := by decide +kernel
def fX3_lead_b75 (w10 : Nat → Int32 → Int32 → Hp → Option (Hp)) (a0 : Nat) (i1 : Int32) (i2 : Int32) (s0 : Int32) (s1 : Int32) (s2 : Nat) (h : Hp) : Option (Hp) := (sI h s2 0 s1 s0).bind fun h1 => (gR h1 a0 3 1).bind fun v2 => (gR h1 a0 3 0).bind fun v3 => (aI h1 v3 0 i2).bind fun v4 => (aI h1 v2 0 v4).bind fun v5 => (sI h1 v2 0 v4 (v5 + (1 : Int32))).bind fun h6 => w10 a0 i1 (i2 + 1) h6
set_option maxHeartbeats 4000000 in
set_option maxRecDepth 100000 in
theorem mX3_lead_b75 {g : XG} {p : Program} {l : Launch} {e : Env} {s : State} {m : MethodId} {args : Array Value} {below : List Frame} {meth : Method} {c : Code} (C : x_C g p s m args c cX3_lead RX3 4 wsX3_lead) (hr : meth.sig.returnType = none) (hlk : meth.locks = false) (hnm : meth.name = yX3_lead.name) {res : Hp} (w10 : Nat → Int32 → Int32 → Hp → Option (Hp)) (hw10 : ∀ (a0 : Nat) (i1 : Int32) (i2 : Int32) (h : Hp), w10 a0 i1 i2 h = some res → XW g p l e { frames := 2, cells := 0, slots := 0, locals := 51 } s m args below meth c (MQ below (x_Q g none res) args s 0 0 (x_A g)) 4 0 0 h 10 [some (vR a0), some (vI i1), some (vI i2), none] []) (a0 : Nat) (i1 : Int32) (i2 : Int32) (s0 : Int32) (s1 : Int32) (s2 : Nat) (h : Hp) (hf : fX3_lead_b75 w10 a0 i1 i2 s0 s1 s2 h = some res) : XW g p l e { frames := 2, cells := 0, slots := 0, locals := 51 } s m args below meth c (MQ below (x_Q g none res) args s 0 0 (x_A g)) 4 0 0 h 75 [some (vR a0), some (vI i1), some (vI i2), none] [vI s0, vI s1, vR s2] := by
  unfold fX3_lead_b75 at hf
  refine x_iastore C hf dX3_lead_75 (pc' := 76) rfl (fun h1 _ hf => ?_)
  refine x_aload_n C dX3_lead_76 (pc' := 77) rfl rfl rfl ?_
  refine x_getR C (ci := 3) (kf := 1) rfl (by decide) hinX3_lead_X3 lkX3_lead_0 rfl hf dX3_lead_77 (pc' := 80) rfl (fun v2 _ hf => ?_)
  refine x_aload_n C dX3_lead_80 (pc' := 81) rfl rfl rfl ?_
  refine x_getR C (ci := 3) (kf := 0) rfl (by decide) hinX3_lead_X3 lkX3_lead_1 rfl hf dX3_lead_81 (pc' := 84) rfl (fun v3 _ hf => ?_)
  refine x_iload_n C dX3_lead_84 (pc' := 85) rfl rfl rfl ?_
  refine x_iaload C hf dX3_lead_85 (pc' := 86) rfl (fun v4 _ hf => ?_)
  refine x_dup2 C rfl rfl dX3_lead_86 (pc' := 87) rfl ?_
  refine x_iaload C hf dX3_lead_87 (pc' := 88) rfl (fun v5 _ hf => ?_)
  refine x_iconst C (v := 1) (by decide) dX3_lead_88 (pc' := 89) rfl ?_
  refine x_iadd C dX3_lead_89 (pc' := 90) rfl ?_
  refine x_iastore C hf dX3_lead_90 (pc' := 91) rfl (fun h6 _ hf => ?_)
  refine x_iinc C dX3_lead_91 (pc' := 94) rfl rfl (v := (i2 + 1)) rfl (by decide) rfl (lv' := [some (vR a0), some (vI i1), some (vI (i2 + 1)), none]) rfl ?_
  refine x_goto C dX3_lead_94 (tgt := 10) (by decide) ?_
  exact hw10 a0 i1 (i2 + 1) h6 hf
def fX3_lead_b74 (w10 : Nat → Int32 → Int32 → Hp → Option (Hp)) (a0 : Nat) (i1 : Int32) (i2 : Int32) (s0 : Int32) (s1 : Nat) (h : Hp) : Option (Hp) := fX3_lead_b75 w10 a0 i1 i2 (0 : Int32) s0 s1 h
set_option maxHeartbeats 4000000 in
set_option maxRecDepth 100000 in
theorem mX3_lead_b74 {g : XG} {p : Program} {l : Launch} {e : Env} {s : State} {m : MethodId} {args : Array Value} {below : List Frame} {meth : Method} {c : Code} (C : x_C g p s m args c cX3_lead RX3 4 wsX3_lead) (hr : meth.sig.returnType = none) (hlk : meth.locks = false) (hnm : meth.name = yX3_lead.name) {res : Hp} (w10 : Nat → Int32 → Int32 → Hp → Option (Hp)) (hw10 : ∀ (a0 : Nat) (i1 : Int32) (i2 : Int32) (h : Hp), w10 a0 i1 i2 h = some res → XW g p l e { frames := 2, cells := 0, slots := 0, locals := 51 } s m args below meth c (MQ below (x_Q g none res) args s 0 0 (x_A g)) 4 0 0 h 10 [some (vR a0), some (vI i1), some (vI i2), none] []) (a0 : Nat) (i1 : Int32) (i2 : Int32) (s0 : Int32) (s1 : Nat) (h : Hp) (hf : fX3_lead_b74 w10 a0 i1 i2 s0 s1 h = some res) : XW g p l e { frames := 2, cells := 0, slots := 0, locals := 51 } s m args below meth c (MQ below (x_Q g none res) args s 0 0 (x_A g)) 4 0 0 h 74 [some (vR a0), some (vI i1), some (vI i2), none] [vI s0, vR s1] := by
  unfold fX3_lead_b74 at hf
  refine x_iconst C (v := 0) (by decide) dX3_lead_74 (pc' := 75) rfl ?_
  refine x_more (k' := 0) (n' := 0) (Nat.le_of_ble_eq_true rfl) (Nat.le_of_ble_eq_true rfl) ?_
  exact mX3_lead_b75 C hr hlk hnm w10 hw10 a0 i1 i2 (0 : Int32) s0 s1 h hf
def fX3_lead_w10 : Nat → Nat → Int32 → Int32 → Hp → Option (Hp)
  | 0 => fun _ _ _ _ => none
  | n + 1 => fun a0 i1 i2 h => if i1 ≤ i2 then (some h) else ((gR h a0 3 6).bind fun v1 => (gI h a0 3 7).bind fun v2 => (gR h a0 3 4).bind fun v3 => (oK h v1 1 (fX1_spread h v1 i2 v2 v3)).bind fun h5 => (gR h5 a0 3 6).bind fun v6 => (gR h5 a0 3 4).bind fun v7 => (gI h5 a0 3 7).bind fun v8 => (gI h5 a0 3 7).bind fun v9 => (gR h5 a0 3 5).bind fun v10 => call (oK h5 v6 1 (fX1_grow h5 v6 v7 v8 v9 v10)) fun r11 h12 => setv ((r11).toInt32) fun v13 => (gR h12 a0 3 0).bind fun v14 => if v13 < 0 then (fX3_lead_b74 (fX3_lead_w10 n) a0 i1 i2 i2 v14 h12) else (if i1 ≤ v13 then (fX3_lead_b74 (fX3_lead_w10 n) a0 i1 i2 i2 v14 h12) else (fX3_lead_b75 (fX3_lead_w10 n) a0 i1 i2 v13 i2 v14 h12)))
set_option maxHeartbeats 4000000 in
set_option maxRecDepth 100000 in
theorem mX3_lead_w10 {g : XG} {p : Program} {l : Launch} {e : Env} {s : State} {m : MethodId} {args : Array Value} {below : List Frame} {meth : Method} {c : Code} (C : x_C g p s m args c cX3_lead RX3 4 wsX3_lead) (hr : meth.sig.returnType = none) (hlk : meth.locks = false) (hnm : meth.name = yX3_lead.name) {res : Hp} : ∀ (n : Nat) (a0 : Nat) (i1 : Int32) (i2 : Int32) (h : Hp), fX3_lead_w10 n a0 i1 i2 h = some res → XW g p l e { frames := 2, cells := 0, slots := 0, locals := 51 } s m args below meth c (MQ below (x_Q g none res) args s 0 0 (x_A g)) 4 0 0 h 10 [some (vR a0), some (vI i1), some (vI i2), none] [] := by
  intro n
  induction n with
  | zero =>
    intro a0 i1 i2 h hf
    have hf2 : (none : Option (Hp)) = some res := hf
    cases hf2
  | succ n ih =>
    intro a0 i1 i2 h hf
    rw [fX3_lead_w10] at hf
    refine x_iload_n C dX3_lead_10 (pc' := 11) rfl rfl rfl ?_
    refine x_iload_n C dX3_lead_11 (pc' := 12) rfl rfl rfl ?_
    refine x_icmp_ge C hf dX3_lead_12 (pc' := 15) rfl (tgt := 97) (by decide) (fun _ hf => ?_) (fun _ hf => ?_)
    ·
      cases hf
      exact x_vret C hr hlk dX3_lead_97
    ·
      refine x_aload_n C dX3_lead_15 (pc' := 16) rfl rfl rfl ?_
      refine x_getR C (ci := 3) (kf := 6) rfl (by decide) hinX3_lead_X3 lkX3_lead_2 rfl hf dX3_lead_16 (pc' := 19) rfl (fun v1 _ hf => ?_)
      refine x_iload_n C dX3_lead_19 (pc' := 20) rfl rfl rfl ?_
      refine x_aload_n C dX3_lead_20 (pc' := 21) rfl rfl rfl ?_
      refine x_getI C (ci := 3) (kf := 7) rfl (by decide) hinX3_lead_X3 lkX3_lead_3 rfl hf dX3_lead_21 (pc' := 24) rfl (fun v2 _ hf => ?_)
      refine x_aload_n C dX3_lead_24 (pc' := 25) rfl rfl rfl ?_
      refine x_getR C (ci := 3) (kf := 4) rfl (by decide) hinX3_lead_X3 lkX3_lead_4 rfl hf dX3_lead_25 (pc' := 28) rfl (fun v3 _ hf => ?_)
      obtain ⟨h5, hq, hf⟩ := bind_some hf
      obtain ⟨hob, hq⟩ := oK_some hq
      refine x_callV C (As := [vI i2, vI v2, vR v3]) (st := []) (r := none) (h' := h5) (mc := 0) (ms := 0) (k := 0) (n := 0) (mX1_spread hq) hob (ci := 1) rfl (cwV 3 C.1.2.2.2.2 gX3_lead_X1_spread rfl rfl rfl (by decide +kernel) ⟨Nat.le_of_ble_eq_true rfl, Nat.le_of_ble_eq_true rfl⟩) rfl rfl (Nat.le_of_ble_eq_true rfl) dX3_lead_28 (pc' := 31) rfl ?_
      refine x_aload_n C dX3_lead_31 (pc' := 32) rfl rfl rfl ?_
      refine x_getR C (ci := 3) (kf := 6) rfl (by decide) hinX3_lead_X3 lkX3_lead_2 rfl hf dX3_lead_32 (pc' := 35) rfl (fun v6 _ hf => ?_)
      refine x_aload_n C dX3_lead_35 (pc' := 36) rfl rfl rfl ?_
      refine x_getR C (ci := 3) (kf := 4) rfl (by decide) hinX3_lead_X3 lkX3_lead_4 rfl hf dX3_lead_36 (pc' := 39) rfl (fun v7 _ hf => ?_)
      refine x_aload_n C dX3_lead_39 (pc' := 40) rfl rfl rfl ?_
      refine x_getI C (ci := 3) (kf := 7) rfl (by decide) hinX3_lead_X3 lkX3_lead_3 rfl hf dX3_lead_40 (pc' := 43) rfl (fun v8 _ hf => ?_)
      refine x_aload_n C dX3_lead_43 (pc' := 44) rfl rfl rfl ?_
      refine x_getI C (ci := 3) (kf := 7) rfl (by decide) hinX3_lead_X3 lkX3_lead_3 rfl hf dX3_lead_44 (pc' := 47) rfl (fun v9 _ hf => ?_)
      refine x_aload_n C dX3_lead_47 (pc' := 48) rfl rfl rfl ?_
      refine x_getR C (ci := 3) (kf := 5) rfl (by decide) hinX3_lead_X3 lkX3_lead_5 rfl hf dX3_lead_48 (pc' := 51) rfl (fun v10 _ hf => ?_)
      obtain ⟨r11, h12, hq, hf⟩ := call_some hf
      obtain ⟨hob, hq⟩ := oK_some hq
      refine x_callV C (As := [vR v7, vI v8, vI v9, vR v10]) (st := []) (r := (some (vL r11))) (h' := h12) (mc := 0) (ms := 0) (k := 0) (n := 0) (mX1_grow hq) hob (ci := 1) rfl (cwV 4 C.1.2.2.2.2 gX3_lead_X1_grow rfl rfl rfl (by decide +kernel) ⟨Nat.le_of_ble_eq_true rfl, Nat.le_of_ble_eq_true rfl⟩) rfl rfl (Nat.le_of_ble_eq_true rfl) dX3_lead_51 (pc' := 54) rfl ?_
      refine x_l2i C dX3_lead_54 (pc' := 55) rfl ?_
      refine x_nameI hf (fun v13 _ hf => ?_)
      refine x_istore_n C dX3_lead_55 (pc' := 56) rfl rfl (by decide) rfl (lv' := [some (vR a0), some (vI i1), some (vI i2), some (vI v13)]) rfl ?_
      refine x_aload_n C dX3_lead_56 (pc' := 57) rfl rfl rfl ?_
      refine x_getR C (ci := 3) (kf := 0) rfl (by decide) hinX3_lead_X3 lkX3_lead_1 rfl hf dX3_lead_57 (pc' := 60) rfl (fun v14 _ hf => ?_)
      refine x_iload_n C dX3_lead_60 (pc' := 61) rfl rfl rfl ?_
      refine x_iload_n C dX3_lead_61 (pc' := 62) rfl rfl rfl ?_
      refine x_if_lt C hf dX3_lead_62 (pc' := 65) rfl (tgt := 74) (by decide) (fun _ hf => ?_) (fun _ hf => ?_)
      ·
        refine x_keep [true, true, true, false] rfl ?_
        refine x_more (k' := 0) (n' := 0) (Nat.le_of_ble_eq_true rfl) (Nat.le_of_ble_eq_true rfl) ?_
        exact mX3_lead_b74 C hr hlk hnm (fX3_lead_w10 n) ih a0 i1 i2 i2 v14 h12 hf
      ·
        refine x_iload_n C dX3_lead_65 (pc' := 66) rfl rfl rfl ?_
        refine x_iload_n C dX3_lead_66 (pc' := 67) rfl rfl rfl ?_
        refine x_icmp_ge C hf dX3_lead_67 (pc' := 70) rfl (tgt := 74) (by decide) (fun _ hf => ?_) (fun _ hf => ?_)
        ·
          refine x_keep [true, true, true, false] rfl ?_
          refine x_more (k' := 0) (n' := 0) (Nat.le_of_ble_eq_true rfl) (Nat.le_of_ble_eq_true rfl) ?_
          exact mX3_lead_b74 C hr hlk hnm (fX3_lead_w10 n) ih a0 i1 i2 i2 v14 h12 hf
        ·
          refine x_iload_n C dX3_lead_70 (pc' := 71) rfl rfl rfl ?_
          refine x_goto C dX3_lead_71 (tgt := 75) (by decide) ?_
          refine x_keep [true, true, true, false] rfl ?_
          refine x_more (k' := 0) (n' := 0) (Nat.le_of_ble_eq_true rfl) (Nat.le_of_ble_eq_true rfl) ?_
          exact mX3_lead_b75 C hr hlk hnm (fX3_lead_w10 n) ih a0 i1 i2 v13 i2 v14 h12 hf
def fX3_lead (h : Hp) (a0 : Nat) (i1 : Int32) : Option (Hp) := (gR h a0 3 1).bind fun v1 => (fJ7_fill_53178 h v1 (0 : Int32)).bind fun h3 => fX3_lead_w10 FUEL a0 i1 (0 : Int32) h3
set_option maxHeartbeats 4000000 in
set_option maxRecDepth 100000 in
theorem mX3_lead {l : Launch} {g : XG} {h : Hp} {a0 : Nat} {i1 : Int32} {res : Hp} (hf : fX3_lead h a0 i1 = some res) : XM l g yX3_lead wsX3_lead 2 51 0 0 [vR a0, vI i1] h none res := by
  refine x_start (cc := cX3_lead) (maxL := 4) (ret := none) (by decide) rfl (Nat.le_of_ble_eq_true rfl) (lv := [some (vR a0), some (vI i1), none, none]) rfl ?_
  intro p e s m args below meth c C hr hlk hnm
  unfold fX3_lead at hf
  refine x_aload_n C dX3_lead_0 (pc' := 1) rfl rfl rfl ?_
  refine x_getR C (ci := 3) (kf := 1) rfl (by decide) hinX3_lead_X3 lkX3_lead_0 rfl hf dX3_lead_1 (pc' := 4) rfl (fun v1 _ hf => ?_)
  refine x_iconst C (v := 0) (by decide) dX3_lead_4 (pc' := 5) rfl ?_
  obtain ⟨h3, hq, hf⟩ := bind_some hf
  refine x_callS C (As := [vR v1, vI (0 : Int32)]) (st := []) (r := none) (h' := h3) (mc := 0) (ms := 0) (k := 0) (n := 0) (mJ7_fill_53178 hq) (va_cwS 2 C.1.2.2.2.2 gX3_lead_J7_fill_53178 rfl rfl rfl (by decide +kernel) ⟨Nat.le_of_ble_eq_true rfl, Nat.le_of_ble_eq_true rfl⟩) rfl rfl (Nat.le_of_ble_eq_true rfl) dX3_lead_5 (pc' := 8) rfl ?_
  refine x_iconst C (v := 0) (by decide) dX3_lead_8 (pc' := 9) rfl ?_
  refine x_istore_n C dX3_lead_9 (pc' := 10) rfl rfl (by decide) rfl (lv' := [some (vR a0), some (vI i1), some (vI (0 : Int32)), none]) rfl ?_
  refine x_more (k' := 0) (n' := 0) (Nat.le_of_ble_eq_true rfl) (Nat.le_of_ble_eq_true rfl) ?_
  exact mX3_lead_w10 C hr hlk hnm FUEL a0 i1 (0 : Int32) h3 hf
-- ===== X3_peel
theorem lkX3_peel_0 : Cond.fieldLink RX3 9 "MossRings$Survey" "next" "[I" ∈ wsX3_peel := by decide +kernel
theorem hinX3_peel_X3 : ∀ w ∈ u_ws RX3 TX3 13, w ∈ wsX3_peel := by decide +kernel
theorem lkX3_peel_1 : Cond.fieldLink RX3 18 "MossRings$Survey" "queue" "[I" ∈ wsX3_peel := by decide +kernel
theorem lkX3_peel_2 : Cond.fieldLink RX3 15 "MossRings$Survey" "behind" "[I" ∈ wsX3_peel := by decide +kernel
theorem lkX3_peel_3 : Cond.fieldLink RX3 30 "MossRings$Survey" "leaves" "I" ∈ wsX3_peel := by decide +kernel
def fX3_peel_b101 (w41 : Nat → Int32 → Int32 → Int32 → Hp → Option (Int32 × Hp)) (a0 : Nat) (i1 : Int32) (i2 : Int32) (i3 : Int32) (h : Hp) : Option (Int32 × Hp) := w41 a0 i1 i2 (i3 + 1) h
set_option maxHeartbeats 4000000 in
set_option maxRecDepth 100000 in
theorem mX3_peel_b101 {g : XG} {p : Program} {l : Launch} {e : Env} {s : State} {m : MethodId} {args : Array Value} {below : List Frame} {meth : Method} {c : Code} (C : x_C g p s m args c cX3_peel RX3 5 wsX3_peel) (hr : meth.sig.returnType = (some .int)) (hlk : meth.locks = false) (hnm : meth.name = yX3_peel.name) {res : Int32 × Hp} (w41 : Nat → Int32 → Int32 → Int32 → Hp → Option (Int32 × Hp)) (hw41 : ∀ (a0 : Nat) (i1 : Int32) (i2 : Int32) (i3 : Int32) (h : Hp), w41 a0 i1 i2 i3 h = some res → XW g p l e { frames := 0, cells := 0, slots := 0, locals := 0 } s m args below meth c (MQ below (x_Q g (some (vI res.1)) res.2) args s 0 0 (x_A g)) 5 0 0 h 41 [some (vR a0), some (vI i1), some (vI i2), some (vI i3), none] []) (a0 : Nat) (i1 : Int32) (i2 : Int32) (i3 : Int32) (h : Hp) (hf : fX3_peel_b101 w41 a0 i1 i2 i3 h = some res) : XW g p l e { frames := 0, cells := 0, slots := 0, locals := 0 } s m args below meth c (MQ below (x_Q g (some (vI res.1)) res.2) args s 0 0 (x_A g)) 5 0 0 h 101 [some (vR a0), some (vI i1), some (vI i2), some (vI i3), none] [] := by
  unfold fX3_peel_b101 at hf
  refine x_iinc C dX3_peel_101 (pc' := 104) rfl rfl (v := (i3 + 1)) rfl (by decide) rfl (lv' := [some (vR a0), some (vI i1), some (vI i2), some (vI (i3 + 1)), none]) rfl ?_
  refine x_goto C dX3_peel_104 (tgt := 41) (by decide) ?_
  exact hw41 a0 i1 i2 (i3 + 1) h hf
def fX3_peel_w41 : Nat → Nat → Int32 → Int32 → Int32 → Hp → Option (Int32 × Hp)
  | 0 => fun _ _ _ _ _ => none
  | n + 1 => fun a0 i1 i2 i3 h => if i2 ≤ i3 then (some (i2, h)) else (if i1 ≤ i3 then (some (i2, h)) else ((gR h a0 3 0).bind fun v1 => (gR h a0 3 2).bind fun v2 => (aI h v2 0 i3).bind fun v3 => (aI h v1 0 v3).bind fun v4 => (gR h a0 3 1).bind fun v5 => (aI h v5 0 v4).bind fun v6 => (sI h v5 0 v4 (v6 - (1 : Int32))).bind fun h7 => (gR h7 a0 3 1).bind fun v8 => (aI h7 v8 0 v4).bind fun v9 => if v9 = 0 then (if i1 ≤ i2 then (fX3_peel_b101 (fX3_peel_w41 n) a0 i1 i2 i3 h7) else ((gR h7 a0 3 2).bind fun v10 => (sI h7 v10 0 i2 v4).bind fun h11 => fX3_peel_b101 (fX3_peel_w41 n) a0 i1 (i2 + 1) i3 h11)) else (fX3_peel_b101 (fX3_peel_w41 n) a0 i1 i2 i3 h7)))
set_option maxHeartbeats 4000000 in
set_option maxRecDepth 100000 in
theorem mX3_peel_w41 {g : XG} {p : Program} {l : Launch} {e : Env} {s : State} {m : MethodId} {args : Array Value} {below : List Frame} {meth : Method} {c : Code} (C : x_C g p s m args c cX3_peel RX3 5 wsX3_peel) (hr : meth.sig.returnType = (some .int)) (hlk : meth.locks = false) (hnm : meth.name = yX3_peel.name) {res : Int32 × Hp} : ∀ (n : Nat) (a0 : Nat) (i1 : Int32) (i2 : Int32) (i3 : Int32) (h : Hp), fX3_peel_w41 n a0 i1 i2 i3 h = some res → XW g p l e { frames := 0, cells := 0, slots := 0, locals := 0 } s m args below meth c (MQ below (x_Q g (some (vI res.1)) res.2) args s 0 0 (x_A g)) 5 0 0 h 41 [some (vR a0), some (vI i1), some (vI i2), some (vI i3), none] [] := by
  intro n
  induction n with
  | zero =>
    intro a0 i1 i2 i3 h hf
    have hf2 : (none : Option (Int32 × Hp)) = some res := hf
    cases hf2
  | succ n ih =>
    intro a0 i1 i2 i3 h hf
    rw [fX3_peel_w41] at hf
    refine x_iload_n C dX3_peel_41 (pc' := 42) rfl rfl rfl ?_
    refine x_iload_n C dX3_peel_42 (pc' := 43) rfl rfl rfl ?_
    refine x_icmp_ge C hf dX3_peel_43 (pc' := 46) rfl (tgt := 107) (by decide) (fun _ hf => ?_) (fun _ hf => ?_)
    ·
      refine x_iload_n C dX3_peel_107 (pc' := 108) rfl rfl rfl ?_
      cases hf
      exact x_iret C hr hlk dX3_peel_108
    ·
      refine x_iload_n C dX3_peel_46 (pc' := 47) rfl rfl rfl ?_
      refine x_iload_n C dX3_peel_47 (pc' := 48) rfl rfl rfl ?_
      refine x_icmp_ge C hf dX3_peel_48 (pc' := 51) rfl (tgt := 107) (by decide) (fun _ hf => ?_) (fun _ hf => ?_)
      ·
        refine x_iload_n C dX3_peel_107 (pc' := 108) rfl rfl rfl ?_
        cases hf
        exact x_iret C hr hlk dX3_peel_108
      ·
        refine x_aload_n C dX3_peel_51 (pc' := 52) rfl rfl rfl ?_
        refine x_getR C (ci := 3) (kf := 0) rfl (by decide) hinX3_peel_X3 lkX3_peel_0 rfl hf dX3_peel_52 (pc' := 55) rfl (fun v1 _ hf => ?_)
        refine x_aload_n C dX3_peel_55 (pc' := 56) rfl rfl rfl ?_
        refine x_getR C (ci := 3) (kf := 2) rfl (by decide) hinX3_peel_X3 lkX3_peel_1 rfl hf dX3_peel_56 (pc' := 59) rfl (fun v2 _ hf => ?_)
        refine x_iload_n C dX3_peel_59 (pc' := 60) rfl rfl rfl ?_
        refine x_iaload C hf dX3_peel_60 (pc' := 61) rfl (fun v3 _ hf => ?_)
        refine x_iaload C hf dX3_peel_61 (pc' := 62) rfl (fun v4 _ hf => ?_)
        refine x_istore C dX3_peel_62 (pc' := 64) rfl (by decide) rfl (lv' := [some (vR a0), some (vI i1), some (vI i2), some (vI i3), some (vI v4)]) rfl ?_
        refine x_aload_n C dX3_peel_64 (pc' := 65) rfl rfl rfl ?_
        refine x_getR C (ci := 3) (kf := 1) rfl (by decide) hinX3_peel_X3 lkX3_peel_2 rfl hf dX3_peel_65 (pc' := 68) rfl (fun v5 _ hf => ?_)
        refine x_iload C dX3_peel_68 (pc' := 70) rfl rfl ?_
        refine x_dup2 C rfl rfl dX3_peel_70 (pc' := 71) rfl ?_
        refine x_iaload C hf dX3_peel_71 (pc' := 72) rfl (fun v6 _ hf => ?_)
        refine x_iconst C (v := 1) (by decide) dX3_peel_72 (pc' := 73) rfl ?_
        refine x_isub C dX3_peel_73 (pc' := 74) rfl ?_
        refine x_iastore C hf dX3_peel_74 (pc' := 75) rfl (fun h7 _ hf => ?_)
        refine x_aload_n C dX3_peel_75 (pc' := 76) rfl rfl rfl ?_
        refine x_getR C (ci := 3) (kf := 1) rfl (by decide) hinX3_peel_X3 lkX3_peel_2 rfl hf dX3_peel_76 (pc' := 79) rfl (fun v8 _ hf => ?_)
        refine x_iload C dX3_peel_79 (pc' := 81) rfl rfl ?_
        refine x_iaload C hf dX3_peel_81 (pc' := 82) rfl (fun v9 _ hf => ?_)
        refine x_if_ne C hf dX3_peel_82 (pc' := 85) rfl (tgt := 101) (by decide) (fun _ hf => ?_) (fun _ hf => ?_)
        ·
          refine x_iload_n C dX3_peel_85 (pc' := 86) rfl rfl rfl ?_
          refine x_iload_n C dX3_peel_86 (pc' := 87) rfl rfl rfl ?_
          refine x_icmp_ge C hf dX3_peel_87 (pc' := 90) rfl (tgt := 101) (by decide) (fun _ hf => ?_) (fun _ hf => ?_)
          ·
            refine x_keep [true, true, true, true, false] rfl ?_
            refine x_more (k' := 0) (n' := 0) (Nat.le_of_ble_eq_true rfl) (Nat.le_of_ble_eq_true rfl) ?_
            exact mX3_peel_b101 C hr hlk hnm (fX3_peel_w41 n) ih a0 i1 i2 i3 h7 hf
          ·
            refine x_aload_n C dX3_peel_90 (pc' := 91) rfl rfl rfl ?_
            refine x_getR C (ci := 3) (kf := 2) rfl (by decide) hinX3_peel_X3 lkX3_peel_1 rfl hf dX3_peel_91 (pc' := 94) rfl (fun v10 _ hf => ?_)
            refine x_iload_n C dX3_peel_94 (pc' := 95) rfl rfl rfl ?_
            refine x_iload C dX3_peel_95 (pc' := 97) rfl rfl ?_
            refine x_iastore C hf dX3_peel_97 (pc' := 98) rfl (fun h11 _ hf => ?_)
            refine x_iinc C dX3_peel_98 (pc' := 101) rfl rfl (v := (i2 + 1)) rfl (by decide) rfl (lv' := [some (vR a0), some (vI i1), some (vI (i2 + 1)), some (vI i3), some (vI v4)]) rfl ?_
            refine x_keep [true, true, true, true, false] rfl ?_
            refine x_more (k' := 0) (n' := 0) (Nat.le_of_ble_eq_true rfl) (Nat.le_of_ble_eq_true rfl) ?_
            exact mX3_peel_b101 C hr hlk hnm (fX3_peel_w41 n) ih a0 i1 (i2 + 1) i3 h11 hf
        ·
          refine x_keep [true, true, true, true, false] rfl ?_
          refine x_more (k' := 0) (n' := 0) (Nat.le_of_ble_eq_true rfl) (Nat.le_of_ble_eq_true rfl) ?_
          exact mX3_peel_b101 C hr hlk hnm (fX3_peel_w41 n) ih a0 i1 i2 i3 h7 hf
def fX3_peel_b34 (a0 : Nat) (i1 : Int32) (i2 : Int32) (h : Hp) : Option (Int32 × Hp) := (pF h a0 3 8 (vI i2)).bind fun h1 => fX3_peel_w41 FUEL a0 i1 i2 (0 : Int32) h1
set_option maxHeartbeats 4000000 in
set_option maxRecDepth 100000 in
theorem mX3_peel_b34 {g : XG} {p : Program} {l : Launch} {e : Env} {s : State} {m : MethodId} {args : Array Value} {below : List Frame} {meth : Method} {c : Code} (C : x_C g p s m args c cX3_peel RX3 5 wsX3_peel) (hr : meth.sig.returnType = (some .int)) (hlk : meth.locks = false) (hnm : meth.name = yX3_peel.name) {res : Int32 × Hp} (a0 : Nat) (i1 : Int32) (i2 : Int32) (h : Hp) (hf : fX3_peel_b34 a0 i1 i2 h = some res) : XW g p l e { frames := 0, cells := 0, slots := 0, locals := 0 } s m args below meth c (MQ below (x_Q g (some (vI res.1)) res.2) args s 0 0 (x_A g)) 5 0 0 h 34 [some (vR a0), some (vI i1), some (vI i2), none, none] [] := by
  unfold fX3_peel_b34 at hf
  refine x_aload_n C dX3_peel_34 (pc' := 35) rfl rfl rfl ?_
  refine x_iload_n C dX3_peel_35 (pc' := 36) rfl rfl rfl ?_
  refine x_put C (ci := 3) (kf := 8) rfl (by decide) hinX3_peel_X3 tyX3 tyX3_ok nmX3 lkX3_peel_3 rfl (Or.inl rfl) rfl hf dX3_peel_36 (pc' := 39) rfl (fun h1 _ hf => ?_)
  refine x_iconst C (v := 0) (by decide) dX3_peel_39 (pc' := 40) rfl ?_
  refine x_istore_n C dX3_peel_40 (pc' := 41) rfl rfl (by decide) rfl (lv' := [some (vR a0), some (vI i1), some (vI i2), some (vI (0 : Int32)), none]) rfl ?_
  refine x_more (k' := 0) (n' := 0) (Nat.le_of_ble_eq_true rfl) (Nat.le_of_ble_eq_true rfl) ?_
  exact mX3_peel_w41 C hr hlk hnm FUEL a0 i1 i2 (0 : Int32) h1 hf
def fX3_peel_b28 (w4 : Nat → Int32 → Int32 → Int32 → Hp → Option (Int32 × Hp)) (a0 : Nat) (i1 : Int32) (i2 : Int32) (i3 : Int32) (h : Hp) : Option (Int32 × Hp) := w4 a0 i1 i2 (i3 + 1) h
set_option maxHeartbeats 4000000 in
set_option maxRecDepth 100000 in
theorem mX3_peel_b28 {g : XG} {p : Program} {l : Launch} {e : Env} {s : State} {m : MethodId} {args : Array Value} {below : List Frame} {meth : Method} {c : Code} (C : x_C g p s m args c cX3_peel RX3 5 wsX3_peel) (hr : meth.sig.returnType = (some .int)) (hlk : meth.locks = false) (hnm : meth.name = yX3_peel.name) {res : Int32 × Hp} (w4 : Nat → Int32 → Int32 → Int32 → Hp → Option (Int32 × Hp)) (hw4 : ∀ (a0 : Nat) (i1 : Int32) (i2 : Int32) (i3 : Int32) (h : Hp), w4 a0 i1 i2 i3 h = some res → XW g p l e { frames := 0, cells := 0, slots := 0, locals := 0 } s m args below meth c (MQ below (x_Q g (some (vI res.1)) res.2) args s 0 0 (x_A g)) 5 0 0 h 4 [some (vR a0), some (vI i1), some (vI i2), some (vI i3), none] []) (a0 : Nat) (i1 : Int32) (i2 : Int32) (i3 : Int32) (h : Hp) (hf : fX3_peel_b28 w4 a0 i1 i2 i3 h = some res) : XW g p l e { frames := 0, cells := 0, slots := 0, locals := 0 } s m args below meth c (MQ below (x_Q g (some (vI res.1)) res.2) args s 0 0 (x_A g)) 5 0 0 h 28 [some (vR a0), some (vI i1), some (vI i2), some (vI i3), none] [] := by
  unfold fX3_peel_b28 at hf
  refine x_iinc C dX3_peel_28 (pc' := 31) rfl rfl (v := (i3 + 1)) rfl (by decide) rfl (lv' := [some (vR a0), some (vI i1), some (vI i2), some (vI (i3 + 1)), none]) rfl ?_
  refine x_goto C dX3_peel_31 (tgt := 4) (by decide) ?_
  exact hw4 a0 i1 i2 (i3 + 1) h hf
def fX3_peel_w4 : Nat → Nat → Int32 → Int32 → Int32 → Hp → Option (Int32 × Hp)
  | 0 => fun _ _ _ _ _ => none
  | n + 1 => fun a0 i1 i2 i3 h => if i1 ≤ i3 then (fX3_peel_b34 a0 i1 i2 h) else ((gR h a0 3 1).bind fun v1 => (aI h v1 0 i3).bind fun v2 => if v2 = 0 then ((gR h a0 3 2).bind fun v3 => (sI h v3 0 i2 i3).bind fun h4 => fX3_peel_b28 (fX3_peel_w4 n) a0 i1 (i2 + 1) i3 h4) else (fX3_peel_b28 (fX3_peel_w4 n) a0 i1 i2 i3 h))
set_option maxHeartbeats 4000000 in
set_option maxRecDepth 100000 in
theorem mX3_peel_w4 {g : XG} {p : Program} {l : Launch} {e : Env} {s : State} {m : MethodId} {args : Array Value} {below : List Frame} {meth : Method} {c : Code} (C : x_C g p s m args c cX3_peel RX3 5 wsX3_peel) (hr : meth.sig.returnType = (some .int)) (hlk : meth.locks = false) (hnm : meth.name = yX3_peel.name) {res : Int32 × Hp} : ∀ (n : Nat) (a0 : Nat) (i1 : Int32) (i2 : Int32) (i3 : Int32) (h : Hp), fX3_peel_w4 n a0 i1 i2 i3 h = some res → XW g p l e { frames := 0, cells := 0, slots := 0, locals := 0 } s m args below meth c (MQ below (x_Q g (some (vI res.1)) res.2) args s 0 0 (x_A g)) 5 0 0 h 4 [some (vR a0), some (vI i1), some (vI i2), some (vI i3), none] [] := by
  intro n
  induction n with
  | zero =>
    intro a0 i1 i2 i3 h hf
    have hf2 : (none : Option (Int32 × Hp)) = some res := hf
    cases hf2
  | succ n ih =>
    intro a0 i1 i2 i3 h hf
    rw [fX3_peel_w4] at hf
    refine x_iload_n C dX3_peel_4 (pc' := 5) rfl rfl rfl ?_
    refine x_iload_n C dX3_peel_5 (pc' := 6) rfl rfl rfl ?_
    refine x_icmp_ge C hf dX3_peel_6 (pc' := 9) rfl (tgt := 34) (by decide) (fun _ hf => ?_) (fun _ hf => ?_)
    ·
      refine x_keep [true, true, true, false, false] rfl ?_
      refine x_more (k' := 0) (n' := 0) (Nat.le_of_ble_eq_true rfl) (Nat.le_of_ble_eq_true rfl) ?_
      exact mX3_peel_b34 C hr hlk hnm a0 i1 i2 h hf
    ·
      refine x_aload_n C dX3_peel_9 (pc' := 10) rfl rfl rfl ?_
      refine x_getR C (ci := 3) (kf := 1) rfl (by decide) hinX3_peel_X3 lkX3_peel_2 rfl hf dX3_peel_10 (pc' := 13) rfl (fun v1 _ hf => ?_)
      refine x_iload_n C dX3_peel_13 (pc' := 14) rfl rfl rfl ?_
      refine x_iaload C hf dX3_peel_14 (pc' := 15) rfl (fun v2 _ hf => ?_)
      refine x_if_ne C hf dX3_peel_15 (pc' := 18) rfl (tgt := 28) (by decide) (fun _ hf => ?_) (fun _ hf => ?_)
      ·
        refine x_aload_n C dX3_peel_18 (pc' := 19) rfl rfl rfl ?_
        refine x_getR C (ci := 3) (kf := 2) rfl (by decide) hinX3_peel_X3 lkX3_peel_1 rfl hf dX3_peel_19 (pc' := 22) rfl (fun v3 _ hf => ?_)
        refine x_iload_n C dX3_peel_22 (pc' := 23) rfl rfl rfl ?_
        refine x_iload_n C dX3_peel_23 (pc' := 24) rfl rfl rfl ?_
        refine x_iastore C hf dX3_peel_24 (pc' := 25) rfl (fun h4 _ hf => ?_)
        refine x_iinc C dX3_peel_25 (pc' := 28) rfl rfl (v := (i2 + 1)) rfl (by decide) rfl (lv' := [some (vR a0), some (vI i1), some (vI (i2 + 1)), some (vI i3), none]) rfl ?_
        refine x_more (k' := 0) (n' := 0) (Nat.le_of_ble_eq_true rfl) (Nat.le_of_ble_eq_true rfl) ?_
        exact mX3_peel_b28 C hr hlk hnm (fX3_peel_w4 n) ih a0 i1 (i2 + 1) i3 h4 hf
      ·
        refine x_more (k' := 0) (n' := 0) (Nat.le_of_ble_eq_true rfl) (Nat.le_of_ble_eq_true rfl) ?_
        exact mX3_peel_b28 C hr hlk hnm (fX3_peel_w4 n) ih a0 i1 i2 i3 h hf
def fX3_peel (h : Hp) (a0 : Nat) (i1 : Int32) : Option (Int32 × Hp) := fX3_peel_w4 FUEL a0 i1 (0 : Int32) (0 : Int32) h
set_option maxHeartbeats 4000000 in
set_option maxRecDepth 100000 in
theorem mX3_peel {l : Launch} {g : XG} {h : Hp} {a0 : Nat} {i1 : Int32} {res : Int32 × Hp} (hf : fX3_peel h a0 i1 = some res) : XM l g yX3_peel wsX3_peel 0 0 0 0 [vR a0, vI i1] h (some (vI res.1)) res.2 := by
  refine x_start (cc := cX3_peel) (maxL := 5) (ret := (some .int)) (by decide) rfl (Nat.le_of_ble_eq_true rfl) (lv := [some (vR a0), some (vI i1), none, none, none]) rfl ?_
  intro p e s m args below meth c C hr hlk hnm
  unfold fX3_peel at hf
  refine x_iconst C (v := 0) (by decide) dX3_peel_0 (pc' := 1) rfl ?_
  refine x_istore_n C dX3_peel_1 (pc' := 2) rfl rfl (by decide) rfl (lv' := [some (vR a0), some (vI i1), some (vI (0 : Int32)), none, none]) rfl ?_
  refine x_iconst C (v := 0) (by decide) dX3_peel_2 (pc' := 3) rfl ?_
  refine x_istore_n C dX3_peel_3 (pc' := 4) rfl rfl (by decide) rfl (lv' := [some (vR a0), some (vI i1), some (vI (0 : Int32)), some (vI (0 : Int32)), none]) rfl ?_
  refine x_more (k' := 0) (n' := 0) (Nat.le_of_ble_eq_true rfl) (Nat.le_of_ble_eq_true rfl) ?_
  exact mX3_peel_w4 C hr hlk hnm FUEL a0 i1 (0 : Int32) (0 : Int32) h hf
-- ===== X3_goRound
theorem lkX3_goRound_0 : Cond.fieldLink RX3 37 "MossRings$Survey" "rounds" "I" ∈ wsX3_goRound := by decide +kernel
theorem hinX3_goRound_X3 : ∀ w ∈ u_ws RX3 TX3 13, w ∈ wsX3_goRound := by decide +kernel
theorem lkX3_goRound_1 : Cond.fieldLink RX3 43 "MossRings$Survey" "greatestLength" "I" ∈ wsX3_goRound := by decide +kernel
theorem lkX3_goRound_2 : Cond.methodLink RX3 83 Lib.Math.max.name ∈ wsX3_goRound := by decide +kernel
theorem lkX3_goRound_3 : Cond.static Lib.Math.max.name ∈ wsX3_goRound := by decide +kernel
theorem lkX3_goRound_4 : Cond.initialized "java/lang/Math" ∈ wsX3_goRound := by decide +kernel
theorem lkX3_goRound_5 : Cond.code Lib.Math.max.name Lib.Math.max.code 2 (some .int) ∈ wsX3_goRound := by decide +kernel
theorem lkX3_goRound_6 : Cond.fieldLink RX3 15 "MossRings$Survey" "behind" "[I" ∈ wsX3_goRound := by decide +kernel
theorem lkX3_goRound_7 : Cond.fieldLink RX3 21 "MossRings$Survey" "heights" "[I" ∈ wsX3_goRound := by decide +kernel
theorem lkX3_goRound_8 : Cond.fieldLink RX3 9 "MossRings$Survey" "next" "[I" ∈ wsX3_goRound := by decide +kernel
def fX3_goRound_b101 (w12 : Nat → Int32 → Int32 → Hp → Option (Hp)) (a0 : Nat) (i1 : Int32) (i2 : Int32) (h : Hp) : Option (Hp) := w12 a0 i1 (i2 + 1) h
set_option maxHeartbeats 4000000 in
set_option maxRecDepth 100000 in
theorem mX3_goRound_b101 {g : XG} {p : Program} {l : Launch} {e : Env} {s : State} {m : MethodId} {args : Array Value} {below : List Frame} {meth : Method} {c : Code} (C : x_C g p s m args c cX3_goRound RX3 6 wsX3_goRound) (hr : meth.sig.returnType = none) (hlk : meth.locks = false) (hnm : meth.name = yX3_goRound.name) {res : Hp} (w12 : Nat → Int32 → Int32 → Hp → Option (Hp)) (hw12 : ∀ (a0 : Nat) (i1 : Int32) (i2 : Int32) (h : Hp), w12 a0 i1 i2 h = some res → XW g p l e { frames := 1, cells := 0, slots := 0, locals := 14 } s m args below meth c (MQ below (x_Q g none res) args s 0 0 (x_A g)) 6 0 0 h 12 [some (vR a0), some (vI i1), some (vI i2), none, none, none] []) (a0 : Nat) (i1 : Int32) (i2 : Int32) (h : Hp) (hf : fX3_goRound_b101 w12 a0 i1 i2 h = some res) : XW g p l e { frames := 1, cells := 0, slots := 0, locals := 14 } s m args below meth c (MQ below (x_Q g none res) args s 0 0 (x_A g)) 6 0 0 h 101 [some (vR a0), some (vI i1), some (vI i2), none, none, none] [] := by
  unfold fX3_goRound_b101 at hf
  refine x_iinc C dX3_goRound_101 (pc' := 104) rfl rfl (v := (i2 + 1)) rfl (by decide) rfl (lv' := [some (vR a0), some (vI i1), some (vI (i2 + 1)), none, none, none]) rfl ?_
  refine x_goto C dX3_goRound_104 (tgt := 12) (by decide) ?_
  exact hw12 a0 i1 (i2 + 1) h hf
def fX3_goRound_b75 (w12 : Nat → Int32 → Int32 → Hp → Option (Hp)) (a0 : Nat) (i1 : Int32) (i2 : Int32) (i3 : Int32) (h : Hp) : Option (Hp) := if i3 ≤ 0 then (fX3_goRound_b101 w12 a0 i1 i2 h) else ((gI h a0 3 10).bind fun v1 => (pF h a0 3 10 (vI (v1 + (1 : Int32)))).bind fun h2 => (gI h2 a0 3 12).bind fun v3 => (pF h2 a0 3 12 (vI (iMax v3 i3))).bind fun h4 => fX3_goRound_b101 w12 a0 i1 i2 h4)
set_option maxHeartbeats 4000000 in
set_option maxRecDepth 100000 in
theorem mX3_goRound_b75 {g : XG} {p : Program} {l : Launch} {e : Env} {s : State} {m : MethodId} {args : Array Value} {below : List Frame} {meth : Method} {c : Code} (C : x_C g p s m args c cX3_goRound RX3 6 wsX3_goRound) (hr : meth.sig.returnType = none) (hlk : meth.locks = false) (hnm : meth.name = yX3_goRound.name) {res : Hp} (w12 : Nat → Int32 → Int32 → Hp → Option (Hp)) (hw12 : ∀ (a0 : Nat) (i1 : Int32) (i2 : Int32) (h : Hp), w12 a0 i1 i2 h = some res → XW g p l e { frames := 1, cells := 0, slots := 0, locals := 14 } s m args below meth c (MQ below (x_Q g none res) args s 0 0 (x_A g)) 6 0 0 h 12 [some (vR a0), some (vI i1), some (vI i2), none, none, none] []) (a0 : Nat) (i1 : Int32) (i2 : Int32) (i3 : Int32) (h : Hp) (hf : fX3_goRound_b75 w12 a0 i1 i2 i3 h = some res) : XW g p l e { frames := 1, cells := 0, slots := 0, locals := 14 } s m args below meth c (MQ below (x_Q g none res) args s 0 0 (x_A g)) 6 0 0 h 75 [some (vR a0), some (vI i1), some (vI i2), some (vI i3), none, none] [] := by
  unfold fX3_goRound_b75 at hf
  refine x_iload_n C dX3_goRound_75 (pc' := 76) rfl rfl rfl ?_
  refine x_if_le C hf dX3_goRound_76 (pc' := 79) rfl (tgt := 101) (by decide) (fun _ hf => ?_) (fun _ hf => ?_)
  ·
    refine x_keep [true, true, true, false, false, false] rfl ?_
    refine x_more (k' := 0) (n' := 0) (Nat.le_of_ble_eq_true rfl) (Nat.le_of_ble_eq_true rfl) ?_
    exact mX3_goRound_b101 C hr hlk hnm w12 hw12 a0 i1 i2 h hf
  ·
    refine x_aload_n C dX3_goRound_79 (pc' := 80) rfl rfl rfl ?_
    refine x_dup C rfl dX3_goRound_80 (pc' := 81) rfl ?_
    refine x_getI C (ci := 3) (kf := 10) rfl (by decide) hinX3_goRound_X3 lkX3_goRound_0 rfl hf dX3_goRound_81 (pc' := 84) rfl (fun v1 _ hf => ?_)
    refine x_iconst C (v := 1) (by decide) dX3_goRound_84 (pc' := 85) rfl ?_
    refine x_iadd C dX3_goRound_85 (pc' := 86) rfl ?_
    refine x_put C (ci := 3) (kf := 10) rfl (by decide) hinX3_goRound_X3 tyX3 tyX3_ok nmX3 lkX3_goRound_0 rfl (Or.inl rfl) rfl hf dX3_goRound_86 (pc' := 89) rfl (fun h2 _ hf => ?_)
    refine x_aload_n C dX3_goRound_89 (pc' := 90) rfl rfl rfl ?_
    refine x_aload_n C dX3_goRound_90 (pc' := 91) rfl rfl rfl ?_
    refine x_getI C (ci := 3) (kf := 12) rfl (by decide) hinX3_goRound_X3 lkX3_goRound_1 rfl hf dX3_goRound_91 (pc' := 94) rfl (fun v3 _ hf => ?_)
    refine x_iload_n C dX3_goRound_94 (pc' := 95) rfl rfl rfl ?_
    refine x_max C lkX3_goRound_2 lkX3_goRound_3 lkX3_goRound_4 lkX3_goRound_5 (Nat.le_of_ble_eq_true rfl) (Nat.le_of_ble_eq_true rfl) dX3_goRound_95 (pc' := 98) rfl ?_
    refine x_put C (ci := 3) (kf := 12) rfl (by decide) hinX3_goRound_X3 tyX3 tyX3_ok nmX3 lkX3_goRound_1 rfl (Or.inl rfl) rfl hf dX3_goRound_98 (pc' := 101) rfl (fun h4 _ hf => ?_)
    refine x_keep [true, true, true, false, false, false] rfl ?_
    refine x_more (k' := 0) (n' := 0) (Nat.le_of_ble_eq_true rfl) (Nat.le_of_ble_eq_true rfl) ?_
    exact mX3_goRound_b101 C hr hlk hnm w12 hw12 a0 i1 i2 h4 hf
def fX3_goRound_w25 (w12 : Nat → Int32 → Int32 → Hp → Option (Hp)) : Nat → Nat → Int32 → Int32 → Int32 → Int32 → Int32 → Hp → Option (Hp)
  | 0 => fun _ _ _ _ _ _ _ => none
  | n + 1 => fun a0 i1 i2 i3 i4 i5 h => if i1 ≤ i5 then (fX3_goRound_b75 w12 a0 i1 i2 i3 h) else ((gR h a0 3 1).bind fun v1 => (aI h v1 0 i4).bind fun v2 => if v2 ≤ 0 then (fX3_goRound_b75 w12 a0 i1 i2 i3 h) else ((gR h a0 3 1).bind fun v3 => (sI h v3 0 i4 (0 : Int32)).bind fun h4 => (gR h4 a0 3 3).bind fun v5 => (sI h4 v5 0 i4 (0 : Int32)).bind fun h6 => (gR h6 a0 3 0).bind fun v7 => (aI h6 v7 0 i4).bind fun v8 => (fX3_goRound_w25 w12 n) a0 i1 i2 (i3 + 1) v8 (i5 + 1) h6))
set_option maxHeartbeats 4000000 in
set_option maxRecDepth 100000 in
theorem mX3_goRound_w25 {g : XG} {p : Program} {l : Launch} {e : Env} {s : State} {m : MethodId} {args : Array Value} {below : List Frame} {meth : Method} {c : Code} (C : x_C g p s m args c cX3_goRound RX3 6 wsX3_goRound) (hr : meth.sig.returnType = none) (hlk : meth.locks = false) (hnm : meth.name = yX3_goRound.name) {res : Hp} (w12 : Nat → Int32 → Int32 → Hp → Option (Hp)) (hw12 : ∀ (a0 : Nat) (i1 : Int32) (i2 : Int32) (h : Hp), w12 a0 i1 i2 h = some res → XW g p l e { frames := 1, cells := 0, slots := 0, locals := 14 } s m args below meth c (MQ below (x_Q g none res) args s 0 0 (x_A g)) 6 0 0 h 12 [some (vR a0), some (vI i1), some (vI i2), none, none, none] []) : ∀ (n : Nat) (a0 : Nat) (i1 : Int32) (i2 : Int32) (i3 : Int32) (i4 : Int32) (i5 : Int32) (h : Hp), fX3_goRound_w25 w12 n a0 i1 i2 i3 i4 i5 h = some res → XW g p l e { frames := 1, cells := 0, slots := 0, locals := 14 } s m args below meth c (MQ below (x_Q g none res) args s 0 0 (x_A g)) 6 0 0 h 25 [some (vR a0), some (vI i1), some (vI i2), some (vI i3), some (vI i4), some (vI i5)] [] := by
  intro n
  induction n with
  | zero =>
    intro a0 i1 i2 i3 i4 i5 h hf
    have hf2 : (none : Option (Hp)) = some res := hf
    cases hf2
  | succ n ih =>
    intro a0 i1 i2 i3 i4 i5 h hf
    rw [fX3_goRound_w25] at hf
    refine x_iload C dX3_goRound_25 (pc' := 27) rfl rfl ?_
    refine x_iload_n C dX3_goRound_27 (pc' := 28) rfl rfl rfl ?_
    refine x_icmp_ge C hf dX3_goRound_28 (pc' := 31) rfl (tgt := 75) (by decide) (fun _ hf => ?_) (fun _ hf => ?_)
    ·
      refine x_keep [true, true, true, true, false, false] rfl ?_
      refine x_more (k' := 0) (n' := 0) (Nat.le_of_ble_eq_true rfl) (Nat.le_of_ble_eq_true rfl) ?_
      exact mX3_goRound_b75 C hr hlk hnm w12 hw12 a0 i1 i2 i3 h hf
    ·
      refine x_aload_n C dX3_goRound_31 (pc' := 32) rfl rfl rfl ?_
      refine x_getR C (ci := 3) (kf := 1) rfl (by decide) hinX3_goRound_X3 lkX3_goRound_6 rfl hf dX3_goRound_32 (pc' := 35) rfl (fun v1 _ hf => ?_)
      refine x_iload C dX3_goRound_35 (pc' := 37) rfl rfl ?_
      refine x_iaload C hf dX3_goRound_37 (pc' := 38) rfl (fun v2 _ hf => ?_)
      refine x_if_le C hf dX3_goRound_38 (pc' := 41) rfl (tgt := 75) (by decide) (fun _ hf => ?_) (fun _ hf => ?_)
      ·
        refine x_keep [true, true, true, true, false, false] rfl ?_
        refine x_more (k' := 0) (n' := 0) (Nat.le_of_ble_eq_true rfl) (Nat.le_of_ble_eq_true rfl) ?_
        exact mX3_goRound_b75 C hr hlk hnm w12 hw12 a0 i1 i2 i3 h hf
      ·
        refine x_aload_n C dX3_goRound_41 (pc' := 42) rfl rfl rfl ?_
        refine x_getR C (ci := 3) (kf := 1) rfl (by decide) hinX3_goRound_X3 lkX3_goRound_6 rfl hf dX3_goRound_42 (pc' := 45) rfl (fun v3 _ hf => ?_)
        refine x_iload C dX3_goRound_45 (pc' := 47) rfl rfl ?_
        refine x_iconst C (v := 0) (by decide) dX3_goRound_47 (pc' := 48) rfl ?_
        refine x_iastore C hf dX3_goRound_48 (pc' := 49) rfl (fun h4 _ hf => ?_)
        refine x_aload_n C dX3_goRound_49 (pc' := 50) rfl rfl rfl ?_
        refine x_getR C (ci := 3) (kf := 3) rfl (by decide) hinX3_goRound_X3 lkX3_goRound_7 rfl hf dX3_goRound_50 (pc' := 53) rfl (fun v5 _ hf => ?_)
        refine x_iload C dX3_goRound_53 (pc' := 55) rfl rfl ?_
        refine x_iconst C (v := 0) (by decide) dX3_goRound_55 (pc' := 56) rfl ?_
        refine x_iastore C hf dX3_goRound_56 (pc' := 57) rfl (fun h6 _ hf => ?_)
        refine x_aload_n C dX3_goRound_57 (pc' := 58) rfl rfl rfl ?_
        refine x_getR C (ci := 3) (kf := 0) rfl (by decide) hinX3_goRound_X3 lkX3_goRound_8 rfl hf dX3_goRound_58 (pc' := 61) rfl (fun v7 _ hf => ?_)
        refine x_iload C dX3_goRound_61 (pc' := 63) rfl rfl ?_
        refine x_iaload C hf dX3_goRound_63 (pc' := 64) rfl (fun v8 _ hf => ?_)
        refine x_istore C dX3_goRound_64 (pc' := 66) rfl (by decide) rfl (lv' := [some (vR a0), some (vI i1), some (vI i2), some (vI i3), some (vI v8), some (vI i5)]) rfl ?_
        refine x_iinc C dX3_goRound_66 (pc' := 69) rfl rfl (v := (i3 + 1)) rfl (by decide) rfl (lv' := [some (vR a0), some (vI i1), some (vI i2), some (vI (i3 + 1)), some (vI v8), some (vI i5)]) rfl ?_
        refine x_iinc C dX3_goRound_69 (pc' := 72) rfl rfl (v := (i5 + 1)) rfl (by decide) rfl (lv' := [some (vR a0), some (vI i1), some (vI i2), some (vI (i3 + 1)), some (vI v8), some (vI (i5 + 1))]) rfl ?_
        refine x_goto C dX3_goRound_72 (tgt := 25) (by decide) ?_
        exact ih a0 i1 i2 (i3 + 1) v8 (i5 + 1) h6 hf
def fX3_goRound_w12 : Nat → Nat → Int32 → Int32 → Hp → Option (Hp)
  | 0 => fun _ _ _ _ => none
  | n + 1 => fun a0 i1 i2 h => if i1 ≤ i2 then (some h) else (fX3_goRound_w25 (fX3_goRound_w12 n) FUEL a0 i1 i2 (0 : Int32) i2 (0 : Int32) h)
set_option maxHeartbeats 4000000 in
set_option maxRecDepth 100000 in
theorem mX3_goRound_w12 {g : XG} {p : Program} {l : Launch} {e : Env} {s : State} {m : MethodId} {args : Array Value} {below : List Frame} {meth : Method} {c : Code} (C : x_C g p s m args c cX3_goRound RX3 6 wsX3_goRound) (hr : meth.sig.returnType = none) (hlk : meth.locks = false) (hnm : meth.name = yX3_goRound.name) {res : Hp} : ∀ (n : Nat) (a0 : Nat) (i1 : Int32) (i2 : Int32) (h : Hp), fX3_goRound_w12 n a0 i1 i2 h = some res → XW g p l e { frames := 1, cells := 0, slots := 0, locals := 14 } s m args below meth c (MQ below (x_Q g none res) args s 0 0 (x_A g)) 6 0 0 h 12 [some (vR a0), some (vI i1), some (vI i2), none, none, none] [] := by
  intro n
  induction n with
  | zero =>
    intro a0 i1 i2 h hf
    have hf2 : (none : Option (Hp)) = some res := hf
    cases hf2
  | succ n ih =>
    intro a0 i1 i2 h hf
    rw [fX3_goRound_w12] at hf
    refine x_iload_n C dX3_goRound_12 (pc' := 13) rfl rfl rfl ?_
    refine x_iload_n C dX3_goRound_13 (pc' := 14) rfl rfl rfl ?_
    refine x_icmp_ge C hf dX3_goRound_14 (pc' := 17) rfl (tgt := 107) (by decide) (fun _ hf => ?_) (fun _ hf => ?_)
    ·
      cases hf
      exact x_vret C hr hlk dX3_goRound_107
    ·
      refine x_iconst C (v := 0) (by decide) dX3_goRound_17 (pc' := 18) rfl ?_
      refine x_istore_n C dX3_goRound_18 (pc' := 19) rfl rfl (by decide) rfl (lv' := [some (vR a0), some (vI i1), some (vI i2), some (vI (0 : Int32)), none, none]) rfl ?_
      refine x_iload_n C dX3_goRound_19 (pc' := 20) rfl rfl rfl ?_
      refine x_istore C dX3_goRound_20 (pc' := 22) rfl (by decide) rfl (lv' := [some (vR a0), some (vI i1), some (vI i2), some (vI (0 : Int32)), some (vI i2), none]) rfl ?_
      refine x_iconst C (v := 0) (by decide) dX3_goRound_22 (pc' := 23) rfl ?_
      refine x_istore C dX3_goRound_23 (pc' := 25) rfl (by decide) rfl (lv' := [some (vR a0), some (vI i1), some (vI i2), some (vI (0 : Int32)), some (vI i2), some (vI (0 : Int32))]) rfl ?_
      refine x_more (k' := 0) (n' := 0) (Nat.le_of_ble_eq_true rfl) (Nat.le_of_ble_eq_true rfl) ?_
      exact mX3_goRound_w25 C hr hlk hnm (fX3_goRound_w12 n) ih FUEL a0 i1 i2 (0 : Int32) i2 (0 : Int32) h hf
def fX3_goRound (h : Hp) (a0 : Nat) (i1 : Int32) : Option (Hp) := (pF h a0 3 10 (vI (0 : Int32))).bind fun h1 => (pF h1 a0 3 12 (vI (0 : Int32))).bind fun h2 => fX3_goRound_w12 FUEL a0 i1 (0 : Int32) h2
set_option maxHeartbeats 4000000 in
set_option maxRecDepth 100000 in
theorem mX3_goRound {l : Launch} {g : XG} {h : Hp} {a0 : Nat} {i1 : Int32} {res : Hp} (hf : fX3_goRound h a0 i1 = some res) : XM l g yX3_goRound wsX3_goRound 1 14 0 0 [vR a0, vI i1] h none res := by
  refine x_start (cc := cX3_goRound) (maxL := 6) (ret := none) (by decide) rfl (Nat.le_of_ble_eq_true rfl) (lv := [some (vR a0), some (vI i1), none, none, none, none]) rfl ?_
  intro p e s m args below meth c C hr hlk hnm
  unfold fX3_goRound at hf
  refine x_aload_n C dX3_goRound_0 (pc' := 1) rfl rfl rfl ?_
  refine x_iconst C (v := 0) (by decide) dX3_goRound_1 (pc' := 2) rfl ?_
  refine x_put C (ci := 3) (kf := 10) rfl (by decide) hinX3_goRound_X3 tyX3 tyX3_ok nmX3 lkX3_goRound_0 rfl (Or.inl rfl) rfl hf dX3_goRound_2 (pc' := 5) rfl (fun h1 _ hf => ?_)
  refine x_aload_n C dX3_goRound_5 (pc' := 6) rfl rfl rfl ?_
  refine x_iconst C (v := 0) (by decide) dX3_goRound_6 (pc' := 7) rfl ?_
  refine x_put C (ci := 3) (kf := 12) rfl (by decide) hinX3_goRound_X3 tyX3 tyX3_ok nmX3 lkX3_goRound_1 rfl (Or.inl rfl) rfl hf dX3_goRound_7 (pc' := 10) rfl (fun h2 _ hf => ?_)
  refine x_iconst C (v := 0) (by decide) dX3_goRound_10 (pc' := 11) rfl ?_
  refine x_istore_n C dX3_goRound_11 (pc' := 12) rfl rfl (by decide) rfl (lv' := [some (vR a0), some (vI i1), some (vI (0 : Int32)), none, none, none]) rfl ?_
  refine x_more (k' := 0) (n' := 0) (Nat.le_of_ble_eq_true rfl) (Nat.le_of_ble_eq_true rfl) ?_
  exact mX3_goRound_w12 C hr hlk hnm FUEL a0 i1 (0 : Int32) h2 hf
-- ===== X3_climb
theorem lkX3_climb_0 : Cond.fieldLink RX3 18 "MossRings$Survey" "queue" "[I" ∈ wsX3_climb := by decide +kernel
theorem hinX3_climb_X3 : ∀ w ∈ u_ws RX3 TX3 13, w ∈ wsX3_climb := by decide +kernel
theorem lkX3_climb_1 : Cond.fieldLink RX3 21 "MossRings$Survey" "heights" "[I" ∈ wsX3_climb := by decide +kernel
theorem lkX3_climb_2 : Cond.fieldLink RX3 9 "MossRings$Survey" "next" "[I" ∈ wsX3_climb := by decide +kernel
theorem lkX3_climb_3 : Cond.fieldLink RX3 40 "MossRings$Survey" "greatestHeight" "I" ∈ wsX3_climb := by decide +kernel
theorem lkX3_climb_4 : Cond.methodLink RX3 83 Lib.Math.max.name ∈ wsX3_climb := by decide +kernel
theorem lkX3_climb_5 : Cond.static Lib.Math.max.name ∈ wsX3_climb := by decide +kernel
theorem lkX3_climb_6 : Cond.initialized "java/lang/Math" ∈ wsX3_climb := by decide +kernel
theorem lkX3_climb_7 : Cond.code Lib.Math.max.name Lib.Math.max.code 2 (some .int) ∈ wsX3_climb := by decide +kernel
def fX3_climb_w9 : Nat → Nat → Int32 → Hp → Option (Hp)
  | 0 => fun _ _ _ => none
  | n + 1 => fun a0 i2 h => if i2 < 0 then (some h) else ((gR h a0 3 2).bind fun v1 => (aI h v1 0 i2).bind fun v2 => (gR h a0 3 3).bind fun v3 => (gR h a0 3 3).bind fun v4 => (gR h a0 3 0).bind fun v5 => (aI h v5 0 v2).bind fun v6 => (aI h v4 0 v6).bind fun v7 => (sI h v3 0 v2 (v7 + (1 : Int32))).bind fun h8 => (gI h8 a0 3 11).bind fun v9 => (gR h8 a0 3 3).bind fun v10 => (aI h8 v10 0 v2).bind fun v11 => (pF h8 a0 3 11 (vI (iMax v9 v11))).bind fun h12 => (fX3_climb_w9 n) a0 (i2 + (-1)) h12)
set_option maxHeartbeats 4000000 in
set_option maxRecDepth 100000 in
theorem mX3_climb_w9 {g : XG} {p : Program} {l : Launch} {e : Env} {s : State} {m : MethodId} {args : Array Value} {below : List Frame} {meth : Method} {c : Code} (C : x_C g p s m args c cX3_climb RX3 4 wsX3_climb) (hr : meth.sig.returnType = none) (hlk : meth.locks = false) (hnm : meth.name = yX3_climb.name) {res : Hp} : ∀ (n : Nat) (a0 : Nat) (i2 : Int32) (h : Hp), fX3_climb_w9 n a0 i2 h = some res → XW g p l e { frames := 1, cells := 0, slots := 0, locals := 14 } s m args below meth c (MQ below (x_Q g none res) args s 0 0 (x_A g)) 4 0 0 h 9 [some (vR a0), none, some (vI i2), none] [] := by
  intro n
  induction n with
  | zero =>
    intro a0 i2 h hf
    have hf2 : (none : Option (Hp)) = some res := hf
    cases hf2
  | succ n ih =>
    intro a0 i2 h hf
    rw [fX3_climb_w9] at hf
    refine x_iload_n C dX3_climb_9 (pc' := 10) rfl rfl rfl ?_
    refine x_if_lt C hf dX3_climb_10 (pc' := 13) rfl (tgt := 62) (by decide) (fun _ hf => ?_) (fun _ hf => ?_)
    ·
      cases hf
      exact x_vret C hr hlk dX3_climb_62
    ·
      refine x_aload_n C dX3_climb_13 (pc' := 14) rfl rfl rfl ?_
      refine x_getR C (ci := 3) (kf := 2) rfl (by decide) hinX3_climb_X3 lkX3_climb_0 rfl hf dX3_climb_14 (pc' := 17) rfl (fun v1 _ hf => ?_)
      refine x_iload_n C dX3_climb_17 (pc' := 18) rfl rfl rfl ?_
      refine x_iaload C hf dX3_climb_18 (pc' := 19) rfl (fun v2 _ hf => ?_)
      refine x_istore_n C dX3_climb_19 (pc' := 20) rfl rfl (by decide) rfl (lv' := [some (vR a0), none, some (vI i2), some (vI v2)]) rfl ?_
      refine x_aload_n C dX3_climb_20 (pc' := 21) rfl rfl rfl ?_
      refine x_getR C (ci := 3) (kf := 3) rfl (by decide) hinX3_climb_X3 lkX3_climb_1 rfl hf dX3_climb_21 (pc' := 24) rfl (fun v3 _ hf => ?_)
      refine x_iload_n C dX3_climb_24 (pc' := 25) rfl rfl rfl ?_
      refine x_aload_n C dX3_climb_25 (pc' := 26) rfl rfl rfl ?_
      refine x_getR C (ci := 3) (kf := 3) rfl (by decide) hinX3_climb_X3 lkX3_climb_1 rfl hf dX3_climb_26 (pc' := 29) rfl (fun v4 _ hf => ?_)
      refine x_aload_n C dX3_climb_29 (pc' := 30) rfl rfl rfl ?_
      refine x_getR C (ci := 3) (kf := 0) rfl (by decide) hinX3_climb_X3 lkX3_climb_2 rfl hf dX3_climb_30 (pc' := 33) rfl (fun v5 _ hf => ?_)
      refine x_iload_n C dX3_climb_33 (pc' := 34) rfl rfl rfl ?_
      refine x_iaload C hf dX3_climb_34 (pc' := 35) rfl (fun v6 _ hf => ?_)
      refine x_iaload C hf dX3_climb_35 (pc' := 36) rfl (fun v7 _ hf => ?_)
      refine x_iconst C (v := 1) (by decide) dX3_climb_36 (pc' := 37) rfl ?_
      refine x_iadd C dX3_climb_37 (pc' := 38) rfl ?_
      refine x_iastore C hf dX3_climb_38 (pc' := 39) rfl (fun h8 _ hf => ?_)
      refine x_aload_n C dX3_climb_39 (pc' := 40) rfl rfl rfl ?_
      refine x_aload_n C dX3_climb_40 (pc' := 41) rfl rfl rfl ?_
      refine x_getI C (ci := 3) (kf := 11) rfl (by decide) hinX3_climb_X3 lkX3_climb_3 rfl hf dX3_climb_41 (pc' := 44) rfl (fun v9 _ hf => ?_)
      refine x_aload_n C dX3_climb_44 (pc' := 45) rfl rfl rfl ?_
      refine x_getR C (ci := 3) (kf := 3) rfl (by decide) hinX3_climb_X3 lkX3_climb_1 rfl hf dX3_climb_45 (pc' := 48) rfl (fun v10 _ hf => ?_)
      refine x_iload_n C dX3_climb_48 (pc' := 49) rfl rfl rfl ?_
      refine x_iaload C hf dX3_climb_49 (pc' := 50) rfl (fun v11 _ hf => ?_)
      refine x_max C lkX3_climb_4 lkX3_climb_5 lkX3_climb_6 lkX3_climb_7 (Nat.le_of_ble_eq_true rfl) (Nat.le_of_ble_eq_true rfl) dX3_climb_50 (pc' := 53) rfl ?_
      refine x_put C (ci := 3) (kf := 11) rfl (by decide) hinX3_climb_X3 tyX3 tyX3_ok nmX3 lkX3_climb_3 rfl (Or.inl rfl) rfl hf dX3_climb_53 (pc' := 56) rfl (fun h12 _ hf => ?_)
      refine x_iinc C dX3_climb_56 (pc' := 59) rfl rfl (v := (i2 + (-1))) rfl (by decide) rfl (lv' := [some (vR a0), none, some (vI (i2 + (-1))), some (vI v2)]) rfl ?_
      refine x_goto C dX3_climb_59 (tgt := 9) (by decide) ?_
      refine x_keep [true, false, true, false] rfl ?_
      exact ih a0 (i2 + (-1)) h12 hf
def fX3_climb (h : Hp) (a0 : Nat) (i1 : Int32) : Option (Hp) := (pF h a0 3 11 (vI (0 : Int32))).bind fun h1 => setv ((i1 - (1 : Int32))) fun v2 => fX3_climb_w9 FUEL a0 v2 h1
set_option maxHeartbeats 4000000 in
set_option maxRecDepth 100000 in
theorem mX3_climb {l : Launch} {g : XG} {h : Hp} {a0 : Nat} {i1 : Int32} {res : Hp} (hf : fX3_climb h a0 i1 = some res) : XM l g yX3_climb wsX3_climb 1 14 0 0 [vR a0, vI i1] h none res := by
  refine x_start (cc := cX3_climb) (maxL := 4) (ret := none) (by decide) rfl (Nat.le_of_ble_eq_true rfl) (lv := [some (vR a0), some (vI i1), none, none]) rfl ?_
  intro p e s m args below meth c C hr hlk hnm
  unfold fX3_climb at hf
  refine x_aload_n C dX3_climb_0 (pc' := 1) rfl rfl rfl ?_
  refine x_iconst C (v := 0) (by decide) dX3_climb_1 (pc' := 2) rfl ?_
  refine x_put C (ci := 3) (kf := 11) rfl (by decide) hinX3_climb_X3 tyX3 tyX3_ok nmX3 lkX3_climb_3 rfl (Or.inl rfl) rfl hf dX3_climb_2 (pc' := 5) rfl (fun h1 _ hf => ?_)
  refine x_iload_n C dX3_climb_5 (pc' := 6) rfl rfl rfl ?_
  refine x_iconst C (v := 1) (by decide) dX3_climb_6 (pc' := 7) rfl ?_
  refine x_isub C dX3_climb_7 (pc' := 8) rfl ?_
  refine x_nameI hf (fun v2 _ hf => ?_)
  refine x_istore_n C dX3_climb_8 (pc' := 9) rfl rfl (by decide) rfl (lv' := [some (vR a0), some (vI i1), some (vI v2), none]) rfl ?_
  refine x_keep [true, false, true, false] rfl ?_
  refine x_more (k' := 0) (n' := 0) (Nat.le_of_ble_eq_true rfl) (Nat.le_of_ble_eq_true rfl) ?_
  exact mX3_climb_w9 C hr hlk hnm FUEL a0 v2 h1 hf
-- ===== X3_look
theorem lkX3_look_0 : Cond.fieldLink RX3 46 "MossRings$Survey" "rule" "LMossRings$Rule;" ∈ wsX3_look := by decide +kernel
theorem hinX3_look_X3 : ∀ w ∈ u_ws RX3 TX3 13, w ∈ wsX3_look := by decide +kernel
theorem lkX3_look_1 : Cond.fieldLink RX3 50 "MossRings$Survey" "n" "I" ∈ wsX3_look := by decide +kernel
theorem lkX3_look_2 : Cond.fieldLink RX3 34 "MossRings$Survey" "onRounds" "I" ∈ wsX3_look := by decide +kernel
def fX3_look_b16 (a0 : Nat) (a1 : Nat) (i2 : Int32) (i3 : Int32) (h : Hp) : Option (Hp) := if i3 ≤ (4096 : Int32) then ((pF h a0 3 6 (vR a1)).bind fun h1 => (pF h1 a0 3 7 (vI i2)).bind fun h2 => (oK h2 a0 3 (fX3_lead h2 a0 i3)).bind fun h4 => call (oK h4 a0 3 (fX3_peel h4 a0 i3)) fun r5 h6 => (pF h6 a0 3 9 (vI (i3 - r5))).bind fun h7 => (oK h7 a0 3 (fX3_goRound h7 a0 i3)).bind fun h9 => (oK h9 a0 3 (fX3_climb h9 a0 r5)).bind fun h11 => some h11) else (some h)
set_option maxHeartbeats 4000000 in
set_option maxRecDepth 100000 in
theorem mX3_look_b16 {g : XG} {p : Program} {l : Launch} {e : Env} {s : State} {m : MethodId} {args : Array Value} {below : List Frame} {meth : Method} {c : Code} (C : x_C g p s m args c cX3_look RX3 5 wsX3_look) (hr : meth.sig.returnType = none) (hlk : meth.locks = false) (hnm : meth.name = yX3_look.name) {res : Hp} (a0 : Nat) (a1 : Nat) (i2 : Int32) (i3 : Int32) (h : Hp) (hf : fX3_look_b16 a0 a1 i2 i3 h = some res) : XW g p l e { frames := 3, cells := 0, slots := 0, locals := 74 } s m args below meth c (MQ below (x_Q g none res) args s 0 0 (x_A g)) 5 0 0 h 16 [some (vR a0), some (vR a1), some (vI i2), some (vI i3), none] [] := by
  unfold fX3_look_b16 at hf
  refine x_iload_n C dX3_look_16 (pc' := 17) rfl rfl rfl ?_
  refine x_sipush C (v := 4096) (by decide) dX3_look_17 (pc' := 20) rfl ?_
  refine x_icmp_le C hf dX3_look_20 (pc' := 23) rfl (tgt := 24) (by decide) (fun _ hf => ?_) (fun _ hf => ?_)
  ·
    refine x_aload_n C dX3_look_24 (pc' := 25) rfl rfl rfl ?_
    refine x_aload_n C dX3_look_25 (pc' := 26) rfl rfl rfl ?_
    refine x_put C (ci := 3) (kf := 6) rfl (by decide) hinX3_look_X3 tyX3 tyX3_ok nmX3 lkX3_look_0 rfl (Or.inl rfl) rfl hf dX3_look_26 (pc' := 29) rfl (fun h1 _ hf => ?_)
    refine x_aload_n C dX3_look_29 (pc' := 30) rfl rfl rfl ?_
    refine x_iload_n C dX3_look_30 (pc' := 31) rfl rfl rfl ?_
    refine x_put C (ci := 3) (kf := 7) rfl (by decide) hinX3_look_X3 tyX3 tyX3_ok nmX3 lkX3_look_1 rfl (Or.inl rfl) rfl hf dX3_look_31 (pc' := 34) rfl (fun h2 _ hf => ?_)
    refine x_aload_n C dX3_look_34 (pc' := 35) rfl rfl rfl ?_
    refine x_iload_n C dX3_look_35 (pc' := 36) rfl rfl rfl ?_
    obtain ⟨h4, hq, hf⟩ := bind_some hf
    obtain ⟨hob, hq⟩ := oK_some hq
    refine x_callV C (As := [vI i3]) (st := []) (r := none) (h' := h4) (mc := 0) (ms := 0) (k := 0) (n := 0) (mX3_lead hq) hob (ci := 3) rfl (cwV 1 C.1.2.2.2.2 gX3_look_X3_lead rfl rfl rfl (by decide +kernel) ⟨Nat.le_of_ble_eq_true rfl, Nat.le_of_ble_eq_true rfl⟩) rfl rfl (Nat.le_of_ble_eq_true rfl) dX3_look_36 (pc' := 39) rfl ?_
    refine x_aload_n C dX3_look_39 (pc' := 40) rfl rfl rfl ?_
    refine x_iload_n C dX3_look_40 (pc' := 41) rfl rfl rfl ?_
    obtain ⟨r5, h6, hq, hf⟩ := call_some hf
    obtain ⟨hob, hq⟩ := oK_some hq
    refine x_callV C (As := [vI i3]) (st := []) (r := (some (vI r5))) (h' := h6) (mc := 0) (ms := 0) (k := 0) (n := 0) (mX3_peel hq) hob (ci := 3) rfl (cwV 1 C.1.2.2.2.2 gX3_look_X3_peel rfl rfl rfl (by decide +kernel) ⟨Nat.le_of_ble_eq_true rfl, Nat.le_of_ble_eq_true rfl⟩) rfl rfl (Nat.le_of_ble_eq_true rfl) dX3_look_41 (pc' := 44) rfl ?_
    refine x_istore C dX3_look_44 (pc' := 46) rfl (by decide) rfl (lv' := [some (vR a0), some (vR a1), some (vI i2), some (vI i3), some (vI r5)]) rfl ?_
    refine x_aload_n C dX3_look_46 (pc' := 47) rfl rfl rfl ?_
    refine x_iload_n C dX3_look_47 (pc' := 48) rfl rfl rfl ?_
    refine x_iload C dX3_look_48 (pc' := 50) rfl rfl ?_
    refine x_isub C dX3_look_50 (pc' := 51) rfl ?_
    refine x_put C (ci := 3) (kf := 9) rfl (by decide) hinX3_look_X3 tyX3 tyX3_ok nmX3 lkX3_look_2 rfl (Or.inl rfl) rfl hf dX3_look_51 (pc' := 54) rfl (fun h7 _ hf => ?_)
    refine x_aload_n C dX3_look_54 (pc' := 55) rfl rfl rfl ?_
    refine x_iload_n C dX3_look_55 (pc' := 56) rfl rfl rfl ?_
    obtain ⟨h9, hq, hf⟩ := bind_some hf
    obtain ⟨hob, hq⟩ := oK_some hq
    refine x_callV C (As := [vI i3]) (st := []) (r := none) (h' := h9) (mc := 0) (ms := 0) (k := 0) (n := 0) (mX3_goRound hq) hob (ci := 3) rfl (cwV 1 C.1.2.2.2.2 gX3_look_X3_goRound rfl rfl rfl (by decide +kernel) ⟨Nat.le_of_ble_eq_true rfl, Nat.le_of_ble_eq_true rfl⟩) rfl rfl (Nat.le_of_ble_eq_true rfl) dX3_look_56 (pc' := 59) rfl ?_
    refine x_aload_n C dX3_look_59 (pc' := 60) rfl rfl rfl ?_
    refine x_iload C dX3_look_60 (pc' := 62) rfl rfl ?_
    obtain ⟨h11, hq, hf⟩ := bind_some hf
    obtain ⟨hob, hq⟩ := oK_some hq
    refine x_callV C (As := [vI r5]) (st := []) (r := none) (h' := h11) (mc := 0) (ms := 0) (k := 0) (n := 0) (mX3_climb hq) hob (ci := 3) rfl (cwV 1 C.1.2.2.2.2 gX3_look_X3_climb rfl rfl rfl (by decide +kernel) ⟨Nat.le_of_ble_eq_true rfl, Nat.le_of_ble_eq_true rfl⟩) rfl rfl (Nat.le_of_ble_eq_true rfl) dX3_look_62 (pc' := 65) rfl ?_
    cases hf
    exact x_vret C hr hlk dX3_look_65
  ·
    cases hf
    exact x_vret C hr hlk dX3_look_23
def fX3_look (h : Hp) (a0 : Nat) (a1 : Nat) (i2 : Int32) (i3 : Int32) : Option (Hp) := (gR h a0 3 6).bind fun v1 => aEq a1 v1 ((gI h a0 3 7).bind fun v2 => if i2 = v2 then (some h) else (fX3_look_b16 a0 a1 i2 i3 h)) (fX3_look_b16 a0 a1 i2 i3 h)
set_option maxHeartbeats 4000000 in
set_option maxRecDepth 100000 in
theorem mX3_look {l : Launch} {g : XG} {h : Hp} {a0 : Nat} {a1 : Nat} {i2 : Int32} {i3 : Int32} {res : Hp} (hf : fX3_look h a0 a1 i2 i3 = some res) : XM l g yX3_look wsX3_look 3 74 0 0 [vR a0, vR a1, vI i2, vI i3] h none res := by
  refine x_start (cc := cX3_look) (maxL := 5) (ret := none) (by decide) rfl (Nat.le_of_ble_eq_true rfl) (lv := [some (vR a0), some (vR a1), some (vI i2), some (vI i3), none]) rfl ?_
  intro p e s m args below meth c C hr hlk hnm
  unfold fX3_look at hf
  refine x_aload_n C dX3_look_0 (pc' := 1) rfl rfl rfl ?_
  refine x_aload_n C dX3_look_1 (pc' := 2) rfl rfl rfl ?_
  refine x_getR C (ci := 3) (kf := 6) rfl (by decide) hinX3_look_X3 lkX3_look_0 rfl hf dX3_look_2 (pc' := 5) rfl (fun v1 _ hf => ?_)
  refine x_acmp_ne C hf dX3_look_5 (pc' := 8) rfl (tgt := 16) (by decide) (fun _ hf => ?_) (fun _ hf => ?_)
  ·
    refine x_iload_n C dX3_look_8 (pc' := 9) rfl rfl rfl ?_
    refine x_aload_n C dX3_look_9 (pc' := 10) rfl rfl rfl ?_
    refine x_getI C (ci := 3) (kf := 7) rfl (by decide) hinX3_look_X3 lkX3_look_1 rfl hf dX3_look_10 (pc' := 13) rfl (fun v2 _ hf => ?_)
    refine x_icmp_eq C hf dX3_look_13 (pc' := 16) rfl (tgt := 23) (by decide) (fun _ hf => ?_) (fun _ hf => ?_)
    ·
      cases hf
      exact x_vret C hr hlk dX3_look_23
    ·
      refine x_more (k' := 0) (n' := 0) (Nat.le_of_ble_eq_true rfl) (Nat.le_of_ble_eq_true rfl) ?_
      exact mX3_look_b16 C hr hlk hnm a0 a1 i2 i3 h hf
  ·
    refine x_more (k' := 0) (n' := 0) (Nat.le_of_ble_eq_true rfl) (Nat.le_of_ble_eq_true rfl) ?_
    exact mX3_look_b16 C hr hlk hnm a0 a1 i2 i3 h hf

-- ===== X6_ring
theorem lkX6_ring_0 : Cond.fieldLink RX6 22 "MossRings" "here" "[I" ∈ wsX6_ring := by decide +kernel
theorem hinX6_ring_X6 : ∀ w ∈ u_ws RX6 TX6 14, w ∈ wsX6_ring := by decide +kernel
theorem lkX6_ring_1 : Cond.fieldLink RX6 19 "MossRings" "out" "[I" ∈ wsX6_ring := by decide +kernel
theorem lkX6_ring_2 : Cond.methodLink RX6 113 arraycopyName ∈ wsX6_ring := by decide +kernel
theorem lkX6_ring_3 : Cond.native arraycopyName ∈ wsX6_ring := by decide +kernel
theorem lkX6_ring_4 : Cond.static arraycopyName ∈ wsX6_ring := by decide +kernel
theorem lkX6_ring_5 : Cond.initialized "java/lang/System" ∈ wsX6_ring := by decide +kernel
theorem lkX6_ring_6 : Cond.fieldLink RX6 106 "MossRings" "outLength" "I" ∈ wsX6_ring := by decide +kernel
theorem lkX6_ring_7 : Cond.fieldLink RX6 25 "MossRings" "there" "[I" ∈ wsX6_ring := by decide +kernel
theorem hinX6_ring_X1 : ∀ w ∈ u_ws RX1 TX1 5, w ∈ wsX6_ring := by decide +kernel
theorem lkX6_ring_8 : Cond.fieldLink RX6 15 "MossRings" "tape" "[I" ∈ wsX6_ring := by decide +kernel
def fX6_ring_b113 (a0 : Nat) (i3 : Int32) (h : Hp) : Option (Int32 × Hp) := (gR h a0 6 6).bind fun v1 => (gR h a0 6 3).bind fun v2 => (aCpy h v1 (0 : Int32) v2 (0 : Int32) i3).bind fun h3 => (pF h3 a0 6 4 (vI i3)).bind fun h4 => (gI h4 a0 6 4).bind fun v5 => some (v5, h4)
set_option maxHeartbeats 4000000 in
set_option maxRecDepth 100000 in
theorem mX6_ring_b113 {g : XG} {p : Program} {l : Launch} {e : Env} {s : State} {m : MethodId} {args : Array Value} {below : List Frame} {meth : Method} {c : Code} (C : x_C g p s m args c cX6_ring RX6 7 wsX6_ring) (hr : meth.sig.returnType = (some .int)) (hlk : meth.locks = false) (hnm : meth.name = yX6_ring.name) {res : Int32 × Hp} (a0 : Nat) (i3 : Int32) (h : Hp) (hf : fX6_ring_b113 a0 i3 h = some res) : XW g p l e { frames := 2, cells := 0, slots := 0, locals := 51 } s m args below meth c (MQ below (x_Q g (some (vI res.1)) res.2) args s 0 0 (x_A g)) 7 0 0 h 113 [some (vR a0), none, none, some (vI i3), none, none, none] [] := by
  unfold fX6_ring_b113 at hf
  refine x_aload_n C dX6_ring_113 (pc' := 114) rfl rfl rfl ?_
  refine x_getR C (ci := 6) (kf := 6) rfl (by decide) hinX6_ring_X6 lkX6_ring_0 rfl hf dX6_ring_114 (pc' := 117) rfl (fun v1 _ hf => ?_)
  refine x_iconst C (v := 0) (by decide) dX6_ring_117 (pc' := 118) rfl ?_
  refine x_aload_n C dX6_ring_118 (pc' := 119) rfl rfl rfl ?_
  refine x_getR C (ci := 6) (kf := 3) rfl (by decide) hinX6_ring_X6 lkX6_ring_1 rfl hf dX6_ring_119 (pc' := 122) rfl (fun v2 _ hf => ?_)
  refine x_iconst C (v := 0) (by decide) dX6_ring_122 (pc' := 123) rfl ?_
  refine x_iload_n C dX6_ring_123 (pc' := 124) rfl rfl rfl ?_
  refine x_copy C lkX6_ring_2 lkX6_ring_3 lkX6_ring_4 lkX6_ring_5 (Nat.le_of_ble_eq_true rfl) (Nat.le_of_ble_eq_true rfl) hf dX6_ring_124 (pc' := 127) rfl (fun h3 _ hf => ?_)
  refine x_aload_n C dX6_ring_127 (pc' := 128) rfl rfl rfl ?_
  refine x_iload_n C dX6_ring_128 (pc' := 129) rfl rfl rfl ?_
  refine x_put C (ci := 6) (kf := 4) rfl (by decide) hinX6_ring_X6 tyX6 tyX6_ok nmX6 lkX6_ring_6 rfl (Or.inl rfl) rfl hf dX6_ring_129 (pc' := 132) rfl (fun h4 _ hf => ?_)
  refine x_aload_n C dX6_ring_132 (pc' := 133) rfl rfl rfl ?_
  refine x_getI C (ci := 6) (kf := 4) rfl (by decide) hinX6_ring_X6 lkX6_ring_6 rfl hf dX6_ring_133 (pc' := 136) rfl (fun v5 _ hf => ?_)
  cases hf
  exact x_iret C hr hlk dX6_ring_136
def fX6_ring_w65 : Nat → Nat → Int32 → Int32 → Nat → Int32 → Hp → Option (Int32 × Hp)
  | 0 => fun _ _ _ _ _ _ => none
  | n + 1 => fun a0 i2 i3 a4 i5 h => if i2 ≤ i5 then (fX6_ring_b113 a0 i3 h) else ((gR h a0 6 6).bind fun v1 => (gR h a0 6 7).bind fun v2 => call (oK h a4 1 (fX1_grow h a4 v1 i3 i3 v2)) fun r3 h4 => (gR h4 a0 6 7).bind fun v5 => (gR h4 a0 6 6).bind fun v6 => (pF h4 a0 6 7 (vR v6)).bind fun h7 => (pF h7 a0 6 6 (vR v5)).bind fun h8 => (fX6_ring_w65 n) a0 i2 i3 a4 (i5 + 1) h8)
set_option maxHeartbeats 4000000 in
set_option maxRecDepth 100000 in
theorem mX6_ring_w65 {g : XG} {p : Program} {l : Launch} {e : Env} {s : State} {m : MethodId} {args : Array Value} {below : List Frame} {meth : Method} {c : Code} (C : x_C g p s m args c cX6_ring RX6 7 wsX6_ring) (hr : meth.sig.returnType = (some .int)) (hlk : meth.locks = false) (hnm : meth.name = yX6_ring.name) {res : Int32 × Hp} : ∀ (n : Nat) (a0 : Nat) (i2 : Int32) (i3 : Int32) (a4 : Nat) (i5 : Int32) (h : Hp), fX6_ring_w65 n a0 i2 i3 a4 i5 h = some res → XW g p l e { frames := 2, cells := 0, slots := 0, locals := 51 } s m args below meth c (MQ below (x_Q g (some (vI res.1)) res.2) args s 0 0 (x_A g)) 7 0 0 h 65 [some (vR a0), none, some (vI i2), some (vI i3), some (vR a4), some (vI i5), none] [] := by
  intro n
  induction n with
  | zero =>
    intro a0 i2 i3 a4 i5 h hf
    have hf2 : (none : Option (Int32 × Hp)) = some res := hf
    cases hf2
  | succ n ih =>
    intro a0 i2 i3 a4 i5 h hf
    rw [fX6_ring_w65] at hf
    refine x_iload C dX6_ring_65 (pc' := 67) rfl rfl ?_
    refine x_iload_n C dX6_ring_67 (pc' := 68) rfl rfl rfl ?_
    refine x_icmp_ge C hf dX6_ring_68 (pc' := 71) rfl (tgt := 113) (by decide) (fun _ hf => ?_) (fun _ hf => ?_)
    ·
      refine x_keep [true, false, false, true, false, false, false] rfl ?_
      refine x_more (k' := 0) (n' := 0) (Nat.le_of_ble_eq_true rfl) (Nat.le_of_ble_eq_true rfl) ?_
      exact mX6_ring_b113 C hr hlk hnm a0 i3 h hf
    ·
      refine x_aload C dX6_ring_71 (pc' := 73) rfl rfl ?_
      refine x_aload_n C dX6_ring_73 (pc' := 74) rfl rfl rfl ?_
      refine x_getR C (ci := 6) (kf := 6) rfl (by decide) hinX6_ring_X6 lkX6_ring_0 rfl hf dX6_ring_74 (pc' := 77) rfl (fun v1 _ hf => ?_)
      refine x_iload_n C dX6_ring_77 (pc' := 78) rfl rfl rfl ?_
      refine x_iload_n C dX6_ring_78 (pc' := 79) rfl rfl rfl ?_
      refine x_aload_n C dX6_ring_79 (pc' := 80) rfl rfl rfl ?_
      refine x_getR C (ci := 6) (kf := 7) rfl (by decide) hinX6_ring_X6 lkX6_ring_7 rfl hf dX6_ring_80 (pc' := 83) rfl (fun v2 _ hf => ?_)
      obtain ⟨r3, h4, hq, hf⟩ := call_some hf
      obtain ⟨hob, hq⟩ := oK_some hq
      refine x_callV C (As := [vR v1, vI i3, vI i3, vR v2]) (st := []) (r := (some (vL r3))) (h' := h4) (mc := 0) (ms := 0) (k := 0) (n := 0) (mX1_grow hq) hob (ci := 1) rfl (cwV 4 C.1.2.2.2.2 gX6_ring_X1_grow rfl rfl rfl (by decide +kernel) ⟨Nat.le_of_ble_eq_true rfl, Nat.le_of_ble_eq_true rfl⟩) rfl rfl (Nat.le_of_ble_eq_true rfl) dX6_ring_83 (pc' := 86) rfl ?_
      refine x_pop2L C dX6_ring_86 (pc' := 87) rfl ?_
      refine x_aload_n C dX6_ring_87 (pc' := 88) rfl rfl rfl ?_
      refine x_getR C (ci := 6) (kf := 7) rfl (by decide) hinX6_ring_X6 lkX6_ring_7 rfl hf dX6_ring_88 (pc' := 91) rfl (fun v5 _ hf => ?_)
      refine x_astore C dX6_ring_91 (pc' := 93) rfl (by decide) rfl (lv' := [some (vR a0), none, some (vI i2), some (vI i3), some (vR a4), some (vI i5), some (vR v5)]) rfl ?_
      refine x_aload_n C dX6_ring_93 (pc' := 94) rfl rfl rfl ?_
      refine x_aload_n C dX6_ring_94 (pc' := 95) rfl rfl rfl ?_
      refine x_getR C (ci := 6) (kf := 6) rfl (by decide) hinX6_ring_X6 lkX6_ring_0 rfl hf dX6_ring_95 (pc' := 98) rfl (fun v6 _ hf => ?_)
      refine x_put C (ci := 6) (kf := 7) rfl (by decide) hinX6_ring_X6 tyX6 tyX6_ok nmX6 lkX6_ring_7 rfl (Or.inl rfl) rfl hf dX6_ring_98 (pc' := 101) rfl (fun h7 _ hf => ?_)
      refine x_aload_n C dX6_ring_101 (pc' := 102) rfl rfl rfl ?_
      refine x_aload C dX6_ring_102 (pc' := 104) rfl rfl ?_
      refine x_put C (ci := 6) (kf := 6) rfl (by decide) hinX6_ring_X6 tyX6 tyX6_ok nmX6 lkX6_ring_0 rfl (Or.inl rfl) rfl hf dX6_ring_104 (pc' := 107) rfl (fun h8 _ hf => ?_)
      refine x_iinc C dX6_ring_107 (pc' := 110) rfl rfl (v := (i5 + 1)) rfl (by decide) rfl (lv' := [some (vR a0), none, some (vI i2), some (vI i3), some (vR a4), some (vI (i5 + 1)), some (vR v5)]) rfl ?_
      refine x_goto C dX6_ring_110 (tgt := 65) (by decide) ?_
      refine x_keep [true, false, true, true, true, true, false] rfl ?_
      exact ih a0 i2 i3 a4 (i5 + 1) h8 hf
def fX6_ring (h : Hp) (a0 : Nat) (i1 : Int32) (i2 : Int32) : Option (Int32 × Hp) := call (oK h a0 6 (fX6_takeTape h a0)) fun r1 h2 => call (oK h2 a0 6 (fX6_ruleIn h2 a0 i1)) fun r3 h4 => if r3 = 0 then (some ((-1 : Int32), h4)) else (if i2 < 0 then (some ((-1 : Int32), h4)) else (if (1000 : Int32) < i2 then (some ((-1 : Int32), h4)) else (if r1 < (1 : Int32) then (some ((-1 : Int32), h4)) else ((gI h4 r3 1 0).bind fun v5 => call (oK h4 a0 6 (fX6_areStates h4 a0 v5 r1)) fun r6 h7 => if r6 = 0 then (some ((-1 : Int32), h7)) else ((gR h7 a0 6 1).bind fun v8 => (gR h7 a0 6 6).bind fun v9 => (aCpy h7 v8 (0 : Int32) v9 (0 : Int32) r1).bind fun h10 => fX6_ring_w65 FUEL a0 i2 r1 r3 (0 : Int32) h10)))))
set_option maxHeartbeats 4000000 in
set_option maxRecDepth 100000 in
theorem mX6_ring {l : Launch} {g : XG} {h : Hp} {a0 : Nat} {i1 : Int32} {i2 : Int32} {res : Int32 × Hp} (hf : fX6_ring h a0 i1 i2 = some res) : XM l g yX6_ring wsX6_ring 2 51 0 0 [vR a0, vI i1, vI i2] h (some (vI res.1)) res.2 := by
  refine x_start (cc := cX6_ring) (maxL := 7) (ret := (some .int)) (by decide) rfl (Nat.le_of_ble_eq_true rfl) (lv := [some (vR a0), some (vI i1), some (vI i2), none, none, none, none]) rfl ?_
  intro p e s m args below meth c C hr hlk hnm
  unfold fX6_ring at hf
  refine x_aload_n C dX6_ring_0 (pc' := 1) rfl rfl rfl ?_
  obtain ⟨r1, h2, hq, hf⟩ := call_some hf
  obtain ⟨hob, hq⟩ := oK_some hq
  refine x_callV C (As := []) (st := []) (r := (some (vI r1))) (h' := h2) (mc := 0) (ms := 0) (k := 0) (n := 0) (mX6_takeTape hq) hob (ci := 6) rfl (cwV 0 C.1.2.2.2.2 gX6_ring_X6_takeTape rfl rfl rfl (by decide +kernel) ⟨Nat.le_of_ble_eq_true rfl, Nat.le_of_ble_eq_true rfl⟩) rfl rfl (Nat.le_of_ble_eq_true rfl) dX6_ring_1 (pc' := 4) rfl ?_
  refine x_istore_n C dX6_ring_4 (pc' := 5) rfl rfl (by decide) rfl (lv' := [some (vR a0), some (vI i1), some (vI i2), some (vI r1), none, none, none]) rfl ?_
  refine x_aload_n C dX6_ring_5 (pc' := 6) rfl rfl rfl ?_
  refine x_iload_n C dX6_ring_6 (pc' := 7) rfl rfl rfl ?_
  obtain ⟨r3, h4, hq, hf⟩ := call_some hf
  obtain ⟨hob, hq⟩ := oK_some hq
  refine x_callV C (As := [vI i1]) (st := []) (r := (some (vR r3))) (h' := h4) (mc := 0) (ms := 0) (k := 0) (n := 0) (mX6_ruleIn hq) hob (ci := 6) rfl (cwV 1 C.1.2.2.2.2 gX6_ring_X6_ruleIn rfl rfl rfl (by decide +kernel) ⟨Nat.le_of_ble_eq_true rfl, Nat.le_of_ble_eq_true rfl⟩) rfl rfl (Nat.le_of_ble_eq_true rfl) dX6_ring_7 (pc' := 10) rfl ?_
  refine x_astore C dX6_ring_10 (pc' := 12) rfl (by decide) rfl (lv' := [some (vR a0), some (vI i1), some (vI i2), some (vI r1), some (vR r3), none, none]) rfl ?_
  refine x_aload C dX6_ring_12 (pc' := 14) rfl rfl ?_
  refine x_ifnull C hf dX6_ring_14 (pc' := 17) rfl (tgt := 46) (by decide) (fun _ hf => ?_) (fun _ hf => ?_)
  ·
    refine x_iconst C (v := -1) (by decide) dX6_ring_46 (pc' := 47) rfl ?_
    cases hf
    exact x_iret C hr hlk dX6_ring_47
  ·
    refine x_iload_n C dX6_ring_17 (pc' := 18) rfl rfl rfl ?_
    refine x_if_lt C hf dX6_ring_18 (pc' := 21) rfl (tgt := 46) (by decide) (fun _ hf => ?_) (fun _ hf => ?_)
    ·
      refine x_iconst C (v := -1) (by decide) dX6_ring_46 (pc' := 47) rfl ?_
      cases hf
      exact x_iret C hr hlk dX6_ring_47
    ·
      refine x_iload_n C dX6_ring_21 (pc' := 22) rfl rfl rfl ?_
      refine x_sipush C (v := 1000) (by decide) dX6_ring_22 (pc' := 25) rfl ?_
      refine x_icmp_gt C hf dX6_ring_25 (pc' := 28) rfl (tgt := 46) (by decide) (fun _ hf => ?_) (fun _ hf => ?_)
      ·
        refine x_iconst C (v := -1) (by decide) dX6_ring_46 (pc' := 47) rfl ?_
        cases hf
        exact x_iret C hr hlk dX6_ring_47
      ·
        refine x_iload_n C dX6_ring_28 (pc' := 29) rfl rfl rfl ?_
        refine x_iconst C (v := 1) (by decide) dX6_ring_29 (pc' := 30) rfl ?_
        refine x_icmp_lt C hf dX6_ring_30 (pc' := 33) rfl (tgt := 46) (by decide) (fun _ hf => ?_) (fun _ hf => ?_)
        ·
          refine x_iconst C (v := -1) (by decide) dX6_ring_46 (pc' := 47) rfl ?_
          cases hf
          exact x_iret C hr hlk dX6_ring_47
        ·
          refine x_aload_n C dX6_ring_33 (pc' := 34) rfl rfl rfl ?_
          refine x_aload C dX6_ring_34 (pc' := 36) rfl rfl ?_
          refine x_getIN C (ci := 1) (kf := 0) rfl (by decide) hinX6_ring_X1 (List.mem_of_getElem? (i := 5) rfl) rfl hf dX6_ring_36 (pc' := 39) rfl (fun v5 _ hf => ?_)
          refine x_iload_n C dX6_ring_39 (pc' := 40) rfl rfl rfl ?_
          obtain ⟨r6, h7, hq, hf⟩ := call_some hf
          obtain ⟨hob, hq⟩ := oK_some hq
          refine x_callV C (As := [vI v5, vI r1]) (st := []) (r := (some (vI r6))) (h' := h7) (mc := 0) (ms := 0) (k := 0) (n := 0) (mX6_areStates hq) hob (ci := 6) rfl (cwV 2 C.1.2.2.2.2 gX6_ring_X6_areStates rfl rfl rfl (by decide +kernel) ⟨Nat.le_of_ble_eq_true rfl, Nat.le_of_ble_eq_true rfl⟩) rfl rfl (Nat.le_of_ble_eq_true rfl) dX6_ring_40 (pc' := 43) rfl ?_
          refine x_if_ne C hf dX6_ring_43 (pc' := 46) rfl (tgt := 48) (by decide) (fun _ hf => ?_) (fun _ hf => ?_)
          ·
            refine x_iconst C (v := -1) (by decide) dX6_ring_46 (pc' := 47) rfl ?_
            cases hf
            exact x_iret C hr hlk dX6_ring_47
          ·
            refine x_aload_n C dX6_ring_48 (pc' := 49) rfl rfl rfl ?_
            refine x_getR C (ci := 6) (kf := 1) rfl (by decide) hinX6_ring_X6 lkX6_ring_8 rfl hf dX6_ring_49 (pc' := 52) rfl (fun v8 _ hf => ?_)
            refine x_iconst C (v := 0) (by decide) dX6_ring_52 (pc' := 53) rfl ?_
            refine x_aload_n C dX6_ring_53 (pc' := 54) rfl rfl rfl ?_
            refine x_getR C (ci := 6) (kf := 6) rfl (by decide) hinX6_ring_X6 lkX6_ring_0 rfl hf dX6_ring_54 (pc' := 57) rfl (fun v9 _ hf => ?_)
            refine x_iconst C (v := 0) (by decide) dX6_ring_57 (pc' := 58) rfl ?_
            refine x_iload_n C dX6_ring_58 (pc' := 59) rfl rfl rfl ?_
            refine x_copy C lkX6_ring_2 lkX6_ring_3 lkX6_ring_4 lkX6_ring_5 (Nat.le_of_ble_eq_true rfl) (Nat.le_of_ble_eq_true rfl) hf dX6_ring_59 (pc' := 62) rfl (fun h10 _ hf => ?_)
            refine x_iconst C (v := 0) (by decide) dX6_ring_62 (pc' := 63) rfl ?_
            refine x_istore C dX6_ring_63 (pc' := 65) rfl (by decide) rfl (lv' := [some (vR a0), some (vI i1), some (vI i2), some (vI r1), some (vR r3), some (vI (0 : Int32)), none]) rfl ?_
            refine x_keep [true, false, true, true, true, true, false] rfl ?_
            refine x_more (k' := 0) (n' := 0) (Nat.le_of_ble_eq_true rfl) (Nat.le_of_ble_eq_true rfl) ?_
            exact mX6_ring_w65 C hr hlk hnm FUEL a0 i2 r1 r3 (0 : Int32) h10 hf
-- ===== X6_behind
theorem lkX6_behind_0 : Cond.constantLong RX6 122 (-1 : Int64) ∈ wsX6_behind := by decide +kernel
theorem hinX6_behind_X1 : ∀ w ∈ u_ws RX1 TX1 5, w ∈ wsX6_behind := by decide +kernel
theorem lkX6_behind_1 : Cond.fieldLink RX6 34 "MossRings" "walks" "LMossRings$Walks;" ∈ wsX6_behind := by decide +kernel
theorem hinX6_behind_X6 : ∀ w ∈ u_ws RX6 TX6 14, w ∈ wsX6_behind := by decide +kernel
theorem lkX6_behind_2 : Cond.fieldLink RX6 15 "MossRings" "tape" "[I" ∈ wsX6_behind := by decide +kernel
theorem lkX6_behind_3 : Cond.fieldLink RX6 19 "MossRings" "out" "[I" ∈ wsX6_behind := by decide +kernel
theorem lkX6_behind_4 : Cond.fieldLink RX6 106 "MossRings" "outLength" "I" ∈ wsX6_behind := by decide +kernel
def fX6_behind (h : Hp) (a0 : Nat) (i1 : Int32) : Option (Int64 × Hp) := call (oK h a0 6 (fX6_takeTape h a0)) fun r1 h2 => call (oK h2 a0 6 (fX6_ruleIn h2 a0 i1)) fun r3 h4 => if r3 = 0 then (some ((-1 : Int64), h4)) else ((gI h4 r3 1 0).bind fun v5 => call (oK h4 a0 6 (fX6_areFewStates h4 a0 v5 r1)) fun r6 h7 => if r6 = 0 then (some ((-1 : Int64), h7)) else ((gR h7 a0 6 9).bind fun v8 => (gR h7 a0 6 1).bind fun v9 => call (oK h7 v8 5 (fX5_rowsBehind h7 v8 r3 v9 r1)) fun r10 h11 => if (lg_cmp r10 (0 : Int64)) ≤ 0 then (some (r10, h11)) else ((gR h11 a0 6 9).bind fun v12 => (gR h11 a0 6 1).bind fun v13 => (gR h11 a0 6 3).bind fun v14 => call (oK h11 v12 5 (fX5_writeFirst h11 v12 v13 r1 v14)) fun r15 h16 => (pF h16 a0 6 4 (vI r15)).bind fun h17 => some (r10, h17))))
set_option maxHeartbeats 4000000 in
set_option maxRecDepth 100000 in
theorem mX6_behind {l : Launch} {g : XG} {h : Hp} {a0 : Nat} {i1 : Int32} {res : Int64 × Hp} (hf : fX6_behind h a0 i1 = some res) : XM l g yX6_behind wsX6_behind 4 103 0 0 [vR a0, vI i1] h (some (vL res.1)) res.2 := by
  refine x_start (cc := cX6_behind) (maxL := 6) (ret := (some .long)) (by decide) rfl (Nat.le_of_ble_eq_true rfl) (lv := [some (vR a0), some (vI i1), none, none, none, none]) rfl ?_
  intro p e s m args below meth c C hr hlk hnm
  unfold fX6_behind at hf
  refine x_aload_n C dX6_behind_0 (pc' := 1) rfl rfl rfl ?_
  obtain ⟨r1, h2, hq, hf⟩ := call_some hf
  obtain ⟨hob, hq⟩ := oK_some hq
  refine x_callV C (As := []) (st := []) (r := (some (vI r1))) (h' := h2) (mc := 0) (ms := 0) (k := 0) (n := 0) (mX6_takeTape hq) hob (ci := 6) rfl (cwV 0 C.1.2.2.2.2 gX6_behind_X6_takeTape rfl rfl rfl (by decide +kernel) ⟨Nat.le_of_ble_eq_true rfl, Nat.le_of_ble_eq_true rfl⟩) rfl rfl (Nat.le_of_ble_eq_true rfl) dX6_behind_1 (pc' := 4) rfl ?_
  refine x_istore_n C dX6_behind_4 (pc' := 5) rfl rfl (by decide) rfl (lv' := [some (vR a0), some (vI i1), some (vI r1), none, none, none]) rfl ?_
  refine x_aload_n C dX6_behind_5 (pc' := 6) rfl rfl rfl ?_
  refine x_iload_n C dX6_behind_6 (pc' := 7) rfl rfl rfl ?_
  obtain ⟨r3, h4, hq, hf⟩ := call_some hf
  obtain ⟨hob, hq⟩ := oK_some hq
  refine x_callV C (As := [vI i1]) (st := []) (r := (some (vR r3))) (h' := h4) (mc := 0) (ms := 0) (k := 0) (n := 0) (mX6_ruleIn hq) hob (ci := 6) rfl (cwV 1 C.1.2.2.2.2 gX6_behind_X6_ruleIn rfl rfl rfl (by decide +kernel) ⟨Nat.le_of_ble_eq_true rfl, Nat.le_of_ble_eq_true rfl⟩) rfl rfl (Nat.le_of_ble_eq_true rfl) dX6_behind_7 (pc' := 10) rfl ?_
  refine x_astore_n C dX6_behind_10 (pc' := 11) rfl rfl (by decide) rfl (lv' := [some (vR a0), some (vI i1), some (vI r1), some (vR r3), none, none]) rfl ?_
  refine x_aload_n C dX6_behind_11 (pc' := 12) rfl rfl rfl ?_
  refine x_ifnull C hf dX6_behind_12 (pc' := 15) rfl (tgt := 27) (by decide) (fun _ hf => ?_) (fun _ hf => ?_)
  ·
    refine x_ldc2 C lkX6_behind_0 dX6_behind_27 (pc' := 30) rfl ?_
    cases hf
    exact x_lret C hr hlk dX6_behind_30
  ·
    refine x_aload_n C dX6_behind_15 (pc' := 16) rfl rfl rfl ?_
    refine x_aload_n C dX6_behind_16 (pc' := 17) rfl rfl rfl ?_
    refine x_getIN C (ci := 1) (kf := 0) rfl (by decide) hinX6_behind_X1 (List.mem_of_getElem? (i := 5) rfl) rfl hf dX6_behind_17 (pc' := 20) rfl (fun v5 _ hf => ?_)
    refine x_iload_n C dX6_behind_20 (pc' := 21) rfl rfl rfl ?_
    obtain ⟨r6, h7, hq, hf⟩ := call_some hf
    obtain ⟨hob, hq⟩ := oK_some hq
    refine x_callV C (As := [vI v5, vI r1]) (st := []) (r := (some (vI r6))) (h' := h7) (mc := 0) (ms := 0) (k := 0) (n := 0) (mX6_areFewStates hq) hob (ci := 6) rfl (cwV 2 C.1.2.2.2.2 gX6_behind_X6_areFewStates rfl rfl rfl (by decide +kernel) ⟨Nat.le_of_ble_eq_true rfl, Nat.le_of_ble_eq_true rfl⟩) rfl rfl (Nat.le_of_ble_eq_true rfl) dX6_behind_21 (pc' := 24) rfl ?_
    refine x_if_ne C hf dX6_behind_24 (pc' := 27) rfl (tgt := 31) (by decide) (fun _ hf => ?_) (fun _ hf => ?_)
    ·
      refine x_ldc2 C lkX6_behind_0 dX6_behind_27 (pc' := 30) rfl ?_
      cases hf
      exact x_lret C hr hlk dX6_behind_30
    ·
      refine x_aload_n C dX6_behind_31 (pc' := 32) rfl rfl rfl ?_
      refine x_getR C (ci := 6) (kf := 9) rfl (by decide) hinX6_behind_X6 lkX6_behind_1 rfl hf dX6_behind_32 (pc' := 35) rfl (fun v8 _ hf => ?_)
      refine x_aload_n C dX6_behind_35 (pc' := 36) rfl rfl rfl ?_
      refine x_aload_n C dX6_behind_36 (pc' := 37) rfl rfl rfl ?_
      refine x_getR C (ci := 6) (kf := 1) rfl (by decide) hinX6_behind_X6 lkX6_behind_2 rfl hf dX6_behind_37 (pc' := 40) rfl (fun v9 _ hf => ?_)
      refine x_iload_n C dX6_behind_40 (pc' := 41) rfl rfl rfl ?_
      obtain ⟨r10, h11, hq, hf⟩ := call_some hf
      obtain ⟨hob, hq⟩ := oK_some hq
      refine x_callV C (As := [vR r3, vR v9, vI r1]) (st := []) (r := (some (vL r10))) (h' := h11) (mc := 0) (ms := 0) (k := 0) (n := 0) (mX5_rowsBehind hq) hob (ci := 5) rfl (cwV 3 C.1.2.2.2.2 gX6_behind_X5_rowsBehind rfl rfl rfl (by decide +kernel) ⟨Nat.le_of_ble_eq_true rfl, Nat.le_of_ble_eq_true rfl⟩) rfl rfl (Nat.le_of_ble_eq_true rfl) dX6_behind_41 (pc' := 44) rfl ?_
      refine x_lstore C dX6_behind_44 (pc' := 46) rfl (by decide) rfl (lv' := [some (vR a0), some (vI i1), some (vI r1), some (vR r3), some (vL r10), none]) rfl ?_
      refine x_lload C dX6_behind_46 (pc' := 48) rfl rfl ?_
      refine x_lconst C (v := 0) (by decide) dX6_behind_48 (pc' := 49) rfl ?_
      refine x_lcmp C dX6_behind_49 (pc' := 50) rfl ?_
      refine x_if_le C hf dX6_behind_50 (pc' := 53) rfl (tgt := 73) (by decide) (fun _ hf => ?_) (fun _ hf => ?_)
      ·
        refine x_lload C dX6_behind_73 (pc' := 75) rfl rfl ?_
        cases hf
        exact x_lret C hr hlk dX6_behind_75
      ·
        refine x_aload_n C dX6_behind_53 (pc' := 54) rfl rfl rfl ?_
        refine x_aload_n C dX6_behind_54 (pc' := 55) rfl rfl rfl ?_
        refine x_getR C (ci := 6) (kf := 9) rfl (by decide) hinX6_behind_X6 lkX6_behind_1 rfl hf dX6_behind_55 (pc' := 58) rfl (fun v12 _ hf => ?_)
        refine x_aload_n C dX6_behind_58 (pc' := 59) rfl rfl rfl ?_
        refine x_getR C (ci := 6) (kf := 1) rfl (by decide) hinX6_behind_X6 lkX6_behind_2 rfl hf dX6_behind_59 (pc' := 62) rfl (fun v13 _ hf => ?_)
        refine x_iload_n C dX6_behind_62 (pc' := 63) rfl rfl rfl ?_
        refine x_aload_n C dX6_behind_63 (pc' := 64) rfl rfl rfl ?_
        refine x_getR C (ci := 6) (kf := 3) rfl (by decide) hinX6_behind_X6 lkX6_behind_3 rfl hf dX6_behind_64 (pc' := 67) rfl (fun v14 _ hf => ?_)
        obtain ⟨r15, h16, hq, hf⟩ := call_some hf
        obtain ⟨hob, hq⟩ := oK_some hq
        refine x_callV C (As := [vR v13, vI r1, vR v14]) (st := [vR a0]) (r := (some (vI r15))) (h' := h16) (mc := 0) (ms := 0) (k := 0) (n := 0) (mX5_writeFirst hq) hob (ci := 5) rfl (cwV 3 C.1.2.2.2.2 gX6_behind_X5_writeFirst rfl rfl rfl (by decide +kernel) ⟨Nat.le_of_ble_eq_true rfl, Nat.le_of_ble_eq_true rfl⟩) rfl rfl (Nat.le_of_ble_eq_true rfl) dX6_behind_67 (pc' := 70) rfl ?_
        refine x_put C (ci := 6) (kf := 4) rfl (by decide) hinX6_behind_X6 tyX6 tyX6_ok nmX6 lkX6_behind_4 rfl (Or.inl rfl) rfl hf dX6_behind_70 (pc' := 73) rfl (fun h17 _ hf => ?_)
        refine x_lload C dX6_behind_73 (pc' := 75) rfl rfl ?_
        cases hf
        exact x_lret C hr hlk dX6_behind_75
-- ===== X6_ringsBehind
theorem lkX6_ringsBehind_0 : Cond.constantLong RX6 122 (-1 : Int64) ∈ wsX6_ringsBehind := by decide +kernel
theorem hinX6_ringsBehind_X1 : ∀ w ∈ u_ws RX1 TX1 5, w ∈ wsX6_ringsBehind := by decide +kernel
theorem lkX6_ringsBehind_1 : Cond.fieldLink RX6 34 "MossRings" "walks" "LMossRings$Walks;" ∈ wsX6_ringsBehind := by decide +kernel
theorem hinX6_ringsBehind_X6 : ∀ w ∈ u_ws RX6 TX6 14, w ∈ wsX6_ringsBehind := by decide +kernel
theorem lkX6_ringsBehind_2 : Cond.fieldLink RX6 15 "MossRings" "tape" "[I" ∈ wsX6_ringsBehind := by decide +kernel
theorem lkX6_ringsBehind_3 : Cond.fieldLink RX6 19 "MossRings" "out" "[I" ∈ wsX6_ringsBehind := by decide +kernel
theorem lkX6_ringsBehind_4 : Cond.fieldLink RX6 106 "MossRings" "outLength" "I" ∈ wsX6_ringsBehind := by decide +kernel
def fX6_ringsBehind (h : Hp) (a0 : Nat) (i1 : Int32) : Option (Int64 × Hp) := call (oK h a0 6 (fX6_takeTape h a0)) fun r1 h2 => call (oK h2 a0 6 (fX6_ruleIn h2 a0 i1)) fun r3 h4 => if r3 = 0 then (some ((-1 : Int64), h4)) else ((gI h4 r3 1 0).bind fun v5 => call (oK h4 a0 6 (fX6_areFewStates h4 a0 v5 r1)) fun r6 h7 => if r6 = 0 then (some ((-1 : Int64), h7)) else ((gR h7 a0 6 9).bind fun v8 => (gR h7 a0 6 1).bind fun v9 => call (oK h7 v8 5 (fX5_closedBehind h7 v8 r3 v9 r1)) fun r10 h11 => if (lg_cmp r10 (0 : Int64)) ≤ 0 then (some (r10, h11)) else ((gR h11 a0 6 9).bind fun v12 => (gR h11 a0 6 1).bind fun v13 => (gR h11 a0 6 3).bind fun v14 => call (oK h11 v12 5 (fX5_writeFirst h11 v12 v13 r1 v14)) fun r15 h16 => (pF h16 a0 6 4 (vI r1)).bind fun h17 => some (r10, h17))))
set_option maxHeartbeats 4000000 in
set_option maxRecDepth 100000 in
theorem mX6_ringsBehind {l : Launch} {g : XG} {h : Hp} {a0 : Nat} {i1 : Int32} {res : Int64 × Hp} (hf : fX6_ringsBehind h a0 i1 = some res) : XM l g yX6_ringsBehind wsX6_ringsBehind 4 103 0 0 [vR a0, vI i1] h (some (vL res.1)) res.2 := by
  refine x_start (cc := cX6_ringsBehind) (maxL := 6) (ret := (some .long)) (by decide) rfl (Nat.le_of_ble_eq_true rfl) (lv := [some (vR a0), some (vI i1), none, none, none, none]) rfl ?_
  intro p e s m args below meth c C hr hlk hnm
  unfold fX6_ringsBehind at hf
  refine x_aload_n C dX6_ringsBehind_0 (pc' := 1) rfl rfl rfl ?_
  obtain ⟨r1, h2, hq, hf⟩ := call_some hf
  obtain ⟨hob, hq⟩ := oK_some hq
  refine x_callV C (As := []) (st := []) (r := (some (vI r1))) (h' := h2) (mc := 0) (ms := 0) (k := 0) (n := 0) (mX6_takeTape hq) hob (ci := 6) rfl (cwV 0 C.1.2.2.2.2 gX6_ringsBehind_X6_takeTape rfl rfl rfl (by decide +kernel) ⟨Nat.le_of_ble_eq_true rfl, Nat.le_of_ble_eq_true rfl⟩) rfl rfl (Nat.le_of_ble_eq_true rfl) dX6_ringsBehind_1 (pc' := 4) rfl ?_
  refine x_istore_n C dX6_ringsBehind_4 (pc' := 5) rfl rfl (by decide) rfl (lv' := [some (vR a0), some (vI i1), some (vI r1), none, none, none]) rfl ?_
  refine x_aload_n C dX6_ringsBehind_5 (pc' := 6) rfl rfl rfl ?_
  refine x_iload_n C dX6_ringsBehind_6 (pc' := 7) rfl rfl rfl ?_
  obtain ⟨r3, h4, hq, hf⟩ := call_some hf
  obtain ⟨hob, hq⟩ := oK_some hq
  refine x_callV C (As := [vI i1]) (st := []) (r := (some (vR r3))) (h' := h4) (mc := 0) (ms := 0) (k := 0) (n := 0) (mX6_ruleIn hq) hob (ci := 6) rfl (cwV 1 C.1.2.2.2.2 gX6_ringsBehind_X6_ruleIn rfl rfl rfl (by decide +kernel) ⟨Nat.le_of_ble_eq_true rfl, Nat.le_of_ble_eq_true rfl⟩) rfl rfl (Nat.le_of_ble_eq_true rfl) dX6_ringsBehind_7 (pc' := 10) rfl ?_
  refine x_astore_n C dX6_ringsBehind_10 (pc' := 11) rfl rfl (by decide) rfl (lv' := [some (vR a0), some (vI i1), some (vI r1), some (vR r3), none, none]) rfl ?_
  refine x_aload_n C dX6_ringsBehind_11 (pc' := 12) rfl rfl rfl ?_
  refine x_ifnull C hf dX6_ringsBehind_12 (pc' := 15) rfl (tgt := 27) (by decide) (fun _ hf => ?_) (fun _ hf => ?_)
  ·
    refine x_ldc2 C lkX6_ringsBehind_0 dX6_ringsBehind_27 (pc' := 30) rfl ?_
    cases hf
    exact x_lret C hr hlk dX6_ringsBehind_30
  ·
    refine x_aload_n C dX6_ringsBehind_15 (pc' := 16) rfl rfl rfl ?_
    refine x_aload_n C dX6_ringsBehind_16 (pc' := 17) rfl rfl rfl ?_
    refine x_getIN C (ci := 1) (kf := 0) rfl (by decide) hinX6_ringsBehind_X1 (List.mem_of_getElem? (i := 5) rfl) rfl hf dX6_ringsBehind_17 (pc' := 20) rfl (fun v5 _ hf => ?_)
    refine x_iload_n C dX6_ringsBehind_20 (pc' := 21) rfl rfl rfl ?_
    obtain ⟨r6, h7, hq, hf⟩ := call_some hf
    obtain ⟨hob, hq⟩ := oK_some hq
    refine x_callV C (As := [vI v5, vI r1]) (st := []) (r := (some (vI r6))) (h' := h7) (mc := 0) (ms := 0) (k := 0) (n := 0) (mX6_areFewStates hq) hob (ci := 6) rfl (cwV 2 C.1.2.2.2.2 gX6_ringsBehind_X6_areFewStates rfl rfl rfl (by decide +kernel) ⟨Nat.le_of_ble_eq_true rfl, Nat.le_of_ble_eq_true rfl⟩) rfl rfl (Nat.le_of_ble_eq_true rfl) dX6_ringsBehind_21 (pc' := 24) rfl ?_
    refine x_if_ne C hf dX6_ringsBehind_24 (pc' := 27) rfl (tgt := 31) (by decide) (fun _ hf => ?_) (fun _ hf => ?_)
    ·
      refine x_ldc2 C lkX6_ringsBehind_0 dX6_ringsBehind_27 (pc' := 30) rfl ?_
      cases hf
      exact x_lret C hr hlk dX6_ringsBehind_30
    ·
      refine x_aload_n C dX6_ringsBehind_31 (pc' := 32) rfl rfl rfl ?_
      refine x_getR C (ci := 6) (kf := 9) rfl (by decide) hinX6_ringsBehind_X6 lkX6_ringsBehind_1 rfl hf dX6_ringsBehind_32 (pc' := 35) rfl (fun v8 _ hf => ?_)
      refine x_aload_n C dX6_ringsBehind_35 (pc' := 36) rfl rfl rfl ?_
      refine x_aload_n C dX6_ringsBehind_36 (pc' := 37) rfl rfl rfl ?_
      refine x_getR C (ci := 6) (kf := 1) rfl (by decide) hinX6_ringsBehind_X6 lkX6_ringsBehind_2 rfl hf dX6_ringsBehind_37 (pc' := 40) rfl (fun v9 _ hf => ?_)
      refine x_iload_n C dX6_ringsBehind_40 (pc' := 41) rfl rfl rfl ?_
      obtain ⟨r10, h11, hq, hf⟩ := call_some hf
      obtain ⟨hob, hq⟩ := oK_some hq
      refine x_callV C (As := [vR r3, vR v9, vI r1]) (st := []) (r := (some (vL r10))) (h' := h11) (mc := 0) (ms := 0) (k := 0) (n := 0) (mX5_closedBehind hq) hob (ci := 5) rfl (cwV 3 C.1.2.2.2.2 gX6_ringsBehind_X5_closedBehind rfl rfl rfl (by decide +kernel) ⟨Nat.le_of_ble_eq_true rfl, Nat.le_of_ble_eq_true rfl⟩) rfl rfl (Nat.le_of_ble_eq_true rfl) dX6_ringsBehind_41 (pc' := 44) rfl ?_
      refine x_lstore C dX6_ringsBehind_44 (pc' := 46) rfl (by decide) rfl (lv' := [some (vR a0), some (vI i1), some (vI r1), some (vR r3), some (vL r10), none]) rfl ?_
      refine x_lload C dX6_ringsBehind_46 (pc' := 48) rfl rfl ?_
      refine x_lconst C (v := 0) (by decide) dX6_ringsBehind_48 (pc' := 49) rfl ?_
      refine x_lcmp C dX6_ringsBehind_49 (pc' := 50) rfl ?_
      refine x_if_le C hf dX6_ringsBehind_50 (pc' := 53) rfl (tgt := 75) (by decide) (fun _ hf => ?_) (fun _ hf => ?_)
      ·
        refine x_lload C dX6_ringsBehind_75 (pc' := 77) rfl rfl ?_
        cases hf
        exact x_lret C hr hlk dX6_ringsBehind_77
      ·
        refine x_aload_n C dX6_ringsBehind_53 (pc' := 54) rfl rfl rfl ?_
        refine x_getR C (ci := 6) (kf := 9) rfl (by decide) hinX6_ringsBehind_X6 lkX6_ringsBehind_1 rfl hf dX6_ringsBehind_54 (pc' := 57) rfl (fun v12 _ hf => ?_)
        refine x_aload_n C dX6_ringsBehind_57 (pc' := 58) rfl rfl rfl ?_
        refine x_getR C (ci := 6) (kf := 1) rfl (by decide) hinX6_ringsBehind_X6 lkX6_ringsBehind_2 rfl hf dX6_ringsBehind_58 (pc' := 61) rfl (fun v13 _ hf => ?_)
        refine x_iload_n C dX6_ringsBehind_61 (pc' := 62) rfl rfl rfl ?_
        refine x_aload_n C dX6_ringsBehind_62 (pc' := 63) rfl rfl rfl ?_
        refine x_getR C (ci := 6) (kf := 3) rfl (by decide) hinX6_ringsBehind_X6 lkX6_ringsBehind_3 rfl hf dX6_ringsBehind_63 (pc' := 66) rfl (fun v14 _ hf => ?_)
        obtain ⟨r15, h16, hq, hf⟩ := call_some hf
        obtain ⟨hob, hq⟩ := oK_some hq
        refine x_callV C (As := [vR v13, vI r1, vR v14]) (st := []) (r := (some (vI r15))) (h' := h16) (mc := 0) (ms := 0) (k := 0) (n := 0) (mX5_writeFirst hq) hob (ci := 5) rfl (cwV 3 C.1.2.2.2.2 gX6_ringsBehind_X5_writeFirst rfl rfl rfl (by decide +kernel) ⟨Nat.le_of_ble_eq_true rfl, Nat.le_of_ble_eq_true rfl⟩) rfl rfl (Nat.le_of_ble_eq_true rfl) dX6_ringsBehind_66 (pc' := 69) rfl ?_
        refine x_pop C rfl dX6_ringsBehind_69 (pc' := 70) rfl ?_
        refine x_aload_n C dX6_ringsBehind_70 (pc' := 71) rfl rfl rfl ?_
        refine x_iload_n C dX6_ringsBehind_71 (pc' := 72) rfl rfl rfl ?_
        refine x_put C (ci := 6) (kf := 4) rfl (by decide) hinX6_ringsBehind_X6 tyX6 tyX6_ok nmX6 lkX6_ringsBehind_4 rfl (Or.inl rfl) rfl hf dX6_ringsBehind_72 (pc' := 75) rfl (fun h17 _ hf => ?_)
        refine x_lload C dX6_ringsBehind_75 (pc' := 77) rfl rfl ?_
        cases hf
        exact x_lret C hr hlk dX6_ringsBehind_77
-- ===== X6_missed
theorem lkX6_missed_0 : Cond.fieldLink RX6 41 "MossRings" "sets" "LMossRings$Sets;" ∈ wsX6_missed := by decide +kernel
theorem hinX6_missed_X6 : ∀ w ∈ u_ws RX6 TX6 14, w ∈ wsX6_missed := by decide +kernel
theorem lkX6_missed_1 : Cond.fieldLink RX6 19 "MossRings" "out" "[I" ∈ wsX6_missed := by decide +kernel
theorem lkX6_missed_2 : Cond.fieldLink RX6 106 "MossRings" "outLength" "I" ∈ wsX6_missed := by decide +kernel
def fX6_missed (h : Hp) (a0 : Nat) (i1 : Int32) : Option (Int32 × Hp) := call (oK h a0 6 (fX6_ruleIn h a0 i1)) fun r1 h2 => if r1 = 0 then (some ((-1 : Int32), h2)) else ((gR h2 a0 6 10).bind fun v3 => call (oK h2 v3 2 (fX2_missesSome h2 v3 r1)) fun r4 h5 => if r4 = 0 then (some ((0 : Int32), h5)) else ((gR h5 a0 6 10).bind fun v6 => (gR h5 a0 6 3).bind fun v7 => call (oK h5 v6 2 (fX2_writeMissed h5 v6 v7)) fun r8 h9 => (pF h9 a0 6 4 (vI r8)).bind fun h10 => (gI h10 a0 6 4).bind fun v11 => some (v11, h10)))
set_option maxHeartbeats 4000000 in
set_option maxRecDepth 100000 in
theorem mX6_missed {l : Launch} {g : XG} {h : Hp} {a0 : Nat} {i1 : Int32} {res : Int32 × Hp} (hf : fX6_missed h a0 i1 = some res) : XM l g yX6_missed wsX6_missed 3 71 0 0 [vR a0, vI i1] h (some (vI res.1)) res.2 := by
  refine x_start (cc := cX6_missed) (maxL := 3) (ret := (some .int)) (by decide) rfl (Nat.le_of_ble_eq_true rfl) (lv := [some (vR a0), some (vI i1), none]) rfl ?_
  intro p e s m args below meth c C hr hlk hnm
  unfold fX6_missed at hf
  refine x_aload_n C dX6_missed_0 (pc' := 1) rfl rfl rfl ?_
  refine x_iload_n C dX6_missed_1 (pc' := 2) rfl rfl rfl ?_
  obtain ⟨r1, h2, hq, hf⟩ := call_some hf
  obtain ⟨hob, hq⟩ := oK_some hq
  refine x_callV C (As := [vI i1]) (st := []) (r := (some (vR r1))) (h' := h2) (mc := 0) (ms := 0) (k := 0) (n := 0) (mX6_ruleIn hq) hob (ci := 6) rfl (cwV 1 C.1.2.2.2.2 gX6_missed_X6_ruleIn rfl rfl rfl (by decide +kernel) ⟨Nat.le_of_ble_eq_true rfl, Nat.le_of_ble_eq_true rfl⟩) rfl rfl (Nat.le_of_ble_eq_true rfl) dX6_missed_2 (pc' := 5) rfl ?_
  refine x_astore_n C dX6_missed_5 (pc' := 6) rfl rfl (by decide) rfl (lv' := [some (vR a0), some (vI i1), some (vR r1)]) rfl ?_
  refine x_aload_n C dX6_missed_6 (pc' := 7) rfl rfl rfl ?_
  refine x_ifnonnull C hf dX6_missed_7 (pc' := 10) rfl (tgt := 12) (by decide) (fun _ hf => ?_) (fun _ hf => ?_)
  ·
    refine x_iconst C (v := -1) (by decide) dX6_missed_10 (pc' := 11) rfl ?_
    cases hf
    exact x_iret C hr hlk dX6_missed_11
  ·
    refine x_aload_n C dX6_missed_12 (pc' := 13) rfl rfl rfl ?_
    refine x_getR C (ci := 6) (kf := 10) rfl (by decide) hinX6_missed_X6 lkX6_missed_0 rfl hf dX6_missed_13 (pc' := 16) rfl (fun v3 _ hf => ?_)
    refine x_aload_n C dX6_missed_16 (pc' := 17) rfl rfl rfl ?_
    obtain ⟨r4, h5, hq, hf⟩ := call_some hf
    obtain ⟨hob, hq⟩ := oK_some hq
    refine x_callV C (As := [vR r1]) (st := []) (r := (some (vI r4))) (h' := h5) (mc := 0) (ms := 0) (k := 0) (n := 0) (mX2_missesSome hq) hob (ci := 2) rfl (cwV 1 C.1.2.2.2.2 gX6_missed_X2_missesSome rfl rfl rfl (by decide +kernel) ⟨Nat.le_of_ble_eq_true rfl, Nat.le_of_ble_eq_true rfl⟩) rfl rfl (Nat.le_of_ble_eq_true rfl) dX6_missed_17 (pc' := 20) rfl ?_
    refine x_if_ne C hf dX6_missed_20 (pc' := 23) rfl (tgt := 25) (by decide) (fun _ hf => ?_) (fun _ hf => ?_)
    ·
      refine x_iconst C (v := 0) (by decide) dX6_missed_23 (pc' := 24) rfl ?_
      cases hf
      exact x_iret C hr hlk dX6_missed_24
    ·
      refine x_aload_n C dX6_missed_25 (pc' := 26) rfl rfl rfl ?_
      refine x_aload_n C dX6_missed_26 (pc' := 27) rfl rfl rfl ?_
      refine x_getR C (ci := 6) (kf := 10) rfl (by decide) hinX6_missed_X6 lkX6_missed_0 rfl hf dX6_missed_27 (pc' := 30) rfl (fun v6 _ hf => ?_)
      refine x_aload_n C dX6_missed_30 (pc' := 31) rfl rfl rfl ?_
      refine x_getR C (ci := 6) (kf := 3) rfl (by decide) hinX6_missed_X6 lkX6_missed_1 rfl hf dX6_missed_31 (pc' := 34) rfl (fun v7 _ hf => ?_)
      obtain ⟨r8, h9, hq, hf⟩ := call_some hf
      obtain ⟨hob, hq⟩ := oK_some hq
      refine x_callV C (As := [vR v7]) (st := [vR a0]) (r := (some (vI r8))) (h' := h9) (mc := 0) (ms := 0) (k := 0) (n := 0) (mX2_writeMissed hq) hob (ci := 2) rfl (cwV 1 C.1.2.2.2.2 gX6_missed_X2_writeMissed rfl rfl rfl (by decide +kernel) ⟨Nat.le_of_ble_eq_true rfl, Nat.le_of_ble_eq_true rfl⟩) rfl rfl (Nat.le_of_ble_eq_true rfl) dX6_missed_34 (pc' := 37) rfl ?_
      refine x_put C (ci := 6) (kf := 4) rfl (by decide) hinX6_missed_X6 tyX6 tyX6_ok nmX6 lkX6_missed_2 rfl (Or.inl rfl) rfl hf dX6_missed_37 (pc' := 40) rfl (fun h10 _ hf => ?_)
      refine x_aload_n C dX6_missed_40 (pc' := 41) rfl rfl rfl ?_
      refine x_getI C (ci := 6) (kf := 4) rfl (by decide) hinX6_missed_X6 lkX6_missed_2 rfl hf dX6_missed_41 (pc' := 44) rfl (fun v11 _ hf => ?_)
      cases hf
      exact x_iret C hr hlk dX6_missed_44
-- ===== X6_back
theorem lkX6_back_0 : Cond.fieldLink RX6 11 "MossRings" "slots" "[LMossRings$Rule;" ∈ wsX6_back := by decide +kernel
theorem hinX6_back_X6 : ∀ w ∈ u_ws RX6 TX6 14, w ∈ wsX6_back := by decide +kernel
theorem lkX6_back_1 : Cond.classLink RX6 9 RX1 ∈ wsX6_back := by decide +kernel
theorem lkX6_back_2 : Cond.instantiable RX1 5 ∈ wsX6_back := by decide +kernel
theorem lkX6_back_3 : Cond.initialized RX1 ∈ wsX6_back := by decide +kernel
theorem hinX6_back_X1 : ∀ w ∈ u_ws RX1 TX1 5, w ∈ wsX6_back := by decide +kernel
theorem lkX6_back_4 : Cond.fieldLink RX6 28 "MossRings" "told" "[I" ∈ wsX6_back := by decide +kernel
theorem lkX6_back_5 : Cond.methodLink RX6 80 yX1_init ∈ wsX6_back := by decide +kernel
theorem lkX6_back_6 : Cond.instanceMethod yX1_init ∈ wsX6_back := by decide +kernel
def fX6_back_b101 (w22 : Nat → Int32 → Nat → Int32 → Hp → Option (Int32 × Hp)) (a0 : Nat) (i2 : Int32) (a3 : Nat) (i4 : Int32) (h : Hp) : Option (Int32 × Hp) := w22 a0 i2 a3 (i4 + 1) h
set_option maxHeartbeats 4000000 in
set_option maxRecDepth 100000 in
theorem mX6_back_b101 {g : XG} {p : Program} {l : Launch} {e : Env} {s : State} {m : MethodId} {args : Array Value} {below : List Frame} {meth : Method} {c : Code} (C : x_C g p s m args c cX6_back RX6 6 wsX6_back) (hr : meth.sig.returnType = (some .int)) (hlk : meth.locks = false) (hnm : meth.name = yX6_back.name) {res : Int32 × Hp} (w22 : Nat → Int32 → Nat → Int32 → Hp → Option (Int32 × Hp)) (hw22 : ∀ (a0 : Nat) (i2 : Int32) (a3 : Nat) (i4 : Int32) (h : Hp), w22 a0 i2 a3 i4 h = some res → XW g p l e { frames := 3, cells := 2, slots := 32, locals := 78 } s m args below meth c (MQ below (x_Q g (some (vI res.1)) res.2) args s 2 32 (x_A g)) 6 2 32 h 22 [some (vR a0), none, some (vI i2), some (vR a3), some (vI i4), none] []) (a0 : Nat) (i2 : Int32) (a3 : Nat) (i4 : Int32) (h : Hp) (hf : fX6_back_b101 w22 a0 i2 a3 i4 h = some res) : XW g p l e { frames := 3, cells := 2, slots := 32, locals := 78 } s m args below meth c (MQ below (x_Q g (some (vI res.1)) res.2) args s 2 32 (x_A g)) 6 2 32 h 101 [some (vR a0), none, some (vI i2), some (vR a3), some (vI i4), none] [] := by
  unfold fX6_back_b101 at hf
  refine x_iinc C dX6_back_101 (pc' := 104) rfl rfl (v := (i4 + 1)) rfl (by decide) rfl (lv' := [some (vR a0), none, some (vI i2), some (vR a3), some (vI (i4 + 1)), none]) rfl ?_
  refine x_goto C dX6_back_104 (tgt := 22) (by decide) ?_
  exact hw22 a0 i2 a3 (i4 + 1) h hf
def fX6_back_b63 (a0 : Nat) (i2 : Int32) (a3 : Nat) (i4 : Int32) (i5 : Int32) (h : Hp) : Option (Int32 × Hp) := (gR h a0 6 0).bind fun v1 => mkO h 1 [vI 0, vI 0, vI 0, vI 0, vR 0] fun q2 h3 => (gI h3 a3 1 0).bind fun v4 => (gR h3 a0 6 8).bind fun v5 => (fX1_init h3 q2 v4 i4 v5).bind fun h7 => (sR h7 v1 i2 q2).bind fun h8 => some ((((10 : Int32) * i4) + i5), h8)
set_option maxHeartbeats 4000000 in
set_option maxRecDepth 100000 in
theorem mX6_back_b63 {g : XG} {p : Program} {l : Launch} {e : Env} {s : State} {m : MethodId} {args : Array Value} {below : List Frame} {meth : Method} {c : Code} (C : x_C g p s m args c cX6_back RX6 6 wsX6_back) (hr : meth.sig.returnType = (some .int)) (hlk : meth.locks = false) (hnm : meth.name = yX6_back.name) {res : Int32 × Hp} (a0 : Nat) (i2 : Int32) (a3 : Nat) (i4 : Int32) (i5 : Int32) (h : Hp) (hf : fX6_back_b63 a0 i2 a3 i4 i5 h = some res) : XW g p l e { frames := 3, cells := 2, slots := 32, locals := 78 } s m args below meth c (MQ below (x_Q g (some (vI res.1)) res.2) args s 2 32 (x_A g)) 6 2 32 h 63 [some (vR a0), none, some (vI i2), some (vR a3), some (vI i4), some (vI i5)] [] := by
  unfold fX6_back_b63 at hf
  refine x_aload_n C dX6_back_63 (pc' := 64) rfl rfl rfl ?_
  refine x_getR C (ci := 6) (kf := 0) rfl (by decide) hinX6_back_X6 lkX6_back_0 rfl hf dX6_back_64 (pc' := 67) rfl (fun v1 _ hf => ?_)
  refine x_iload_n C dX6_back_67 (pc' := 68) rfl rfl rfl ?_
  refine x_newO C (k := 1) (n := 27) (ci := 1) (fs := [vI 0, vI 0, vI 0, vI 0, vR 0]) rfl hinX6_back_X1 tyX1 tyX1_ok lkX6_back_1 lkX6_back_2 lkX6_back_3 (dfX1 g) hf dX6_back_68 (pc' := 71) rfl (fun q2 h3 h4q2 _ _ hf => ?_)
  refine x_dup C rfl dX6_back_71 (pc' := 72) rfl ?_
  refine x_aload_n C dX6_back_72 (pc' := 73) rfl rfl rfl ?_
  refine x_getIN C (ci := 1) (kf := 0) rfl (by decide) hinX6_back_X1 (List.mem_of_getElem? (i := 5) rfl) rfl hf dX6_back_73 (pc' := 76) rfl (fun v4 _ hf => ?_)
  refine x_iload C dX6_back_76 (pc' := 78) rfl rfl ?_
  refine x_aload_n C dX6_back_78 (pc' := 79) rfl rfl rfl ?_
  refine x_getR C (ci := 6) (kf := 8) rfl (by decide) hinX6_back_X6 lkX6_back_4 rfl hf dX6_back_79 (pc' := 82) rfl (fun v5 _ hf => ?_)
  obtain ⟨h7, hq, hf⟩ := bind_some hf
  refine x_callI C (As := [vI v4, vI i4, vR v5]) (st := [vR q2, vI i2, vR v1]) (r := none) (h' := h7) (mc := 1) (ms := 27) (k := 0) (n := 0) (mX1_init hq) h4q2 (cwI 3 C.1.2.2.2.2 gX6_back_X1_init rfl rfl rfl (C.1.2.2.2.2 _ lkX6_back_3) (C.1.2.2.2.2 _ lkX6_back_5) (C.1.2.2.2.2 _ lkX6_back_6) rfl (by decide +kernel) ⟨Nat.le_of_ble_eq_true rfl, Nat.le_of_ble_eq_true rfl⟩) rfl rfl (Nat.le_of_ble_eq_true rfl) dX6_back_82 (pc' := 85) rfl ?_
  refine x_aastore C hf dX6_back_85 (pc' := 86) rfl (fun h8 _ hf => ?_)
  refine x_bipush C (v := 10) (by decide) dX6_back_86 (pc' := 88) rfl ?_
  refine x_iload C dX6_back_88 (pc' := 90) rfl rfl ?_
  refine x_imul C dX6_back_90 (pc' := 91) rfl ?_
  refine x_iload C dX6_back_91 (pc' := 93) rfl rfl ?_
  refine x_iadd C dX6_back_93 (pc' := 94) rfl ?_
  cases hf
  exact x_iret C hr hlk dX6_back_94
def fX6_back_w37 (w22 : Nat → Int32 → Nat → Int32 → Hp → Option (Int32 × Hp)) : Nat → Nat → Int32 → Nat → Int32 → Int32 → Hp → Option (Int32 × Hp)
  | 0 => fun _ _ _ _ _ _ => none
  | n + 1 => fun a0 i2 a3 i4 i5 h => (gI h a3 1 1).bind fun v1 => if ((v1 + i4) - (2 : Int32)) < i5 then (fX6_back_b101 w22 a0 i2 a3 i4 h) else (call (oK h a0 6 (fX6_turnsBack h a0 a3 i4 i5)) fun r2 h3 => if r2 = 0 then ((fX6_back_w37 w22 n) a0 i2 a3 i4 (i5 + 1) h3) else (fX6_back_b63 a0 i2 a3 i4 i5 h3))
set_option maxHeartbeats 4000000 in
set_option maxRecDepth 100000 in
theorem mX6_back_w37 {g : XG} {p : Program} {l : Launch} {e : Env} {s : State} {m : MethodId} {args : Array Value} {below : List Frame} {meth : Method} {c : Code} (C : x_C g p s m args c cX6_back RX6 6 wsX6_back) (hr : meth.sig.returnType = (some .int)) (hlk : meth.locks = false) (hnm : meth.name = yX6_back.name) {res : Int32 × Hp} (w22 : Nat → Int32 → Nat → Int32 → Hp → Option (Int32 × Hp)) (hw22 : ∀ (a0 : Nat) (i2 : Int32) (a3 : Nat) (i4 : Int32) (h : Hp), w22 a0 i2 a3 i4 h = some res → XW g p l e { frames := 3, cells := 2, slots := 32, locals := 78 } s m args below meth c (MQ below (x_Q g (some (vI res.1)) res.2) args s 2 32 (x_A g)) 6 2 32 h 22 [some (vR a0), none, some (vI i2), some (vR a3), some (vI i4), none] []) : ∀ (n : Nat) (a0 : Nat) (i2 : Int32) (a3 : Nat) (i4 : Int32) (i5 : Int32) (h : Hp), fX6_back_w37 w22 n a0 i2 a3 i4 i5 h = some res → XW g p l e { frames := 3, cells := 2, slots := 32, locals := 78 } s m args below meth c (MQ below (x_Q g (some (vI res.1)) res.2) args s 2 32 (x_A g)) 6 2 32 h 37 [some (vR a0), none, some (vI i2), some (vR a3), some (vI i4), some (vI i5)] [] := by
  intro n
  induction n with
  | zero =>
    intro a0 i2 a3 i4 i5 h hf
    have hf2 : (none : Option (Int32 × Hp)) = some res := hf
    cases hf2
  | succ n ih =>
    intro a0 i2 a3 i4 i5 h hf
    rw [fX6_back_w37] at hf
    refine x_iload C dX6_back_37 (pc' := 39) rfl rfl ?_
    refine x_aload_n C dX6_back_39 (pc' := 40) rfl rfl rfl ?_
    refine x_getIN C (ci := 1) (kf := 1) rfl (by decide) hinX6_back_X1 (List.mem_of_getElem? (i := 7) rfl) rfl hf dX6_back_40 (pc' := 43) rfl (fun v1 _ hf => ?_)
    refine x_iload C dX6_back_43 (pc' := 45) rfl rfl ?_
    refine x_iadd C dX6_back_45 (pc' := 46) rfl ?_
    refine x_iconst C (v := 2) (by decide) dX6_back_46 (pc' := 47) rfl ?_
    refine x_isub C dX6_back_47 (pc' := 48) rfl ?_
    refine x_icmp_gt C hf dX6_back_48 (pc' := 51) rfl (tgt := 101) (by decide) (fun _ hf => ?_) (fun _ hf => ?_)
    ·
      refine x_keep [true, false, true, true, true, false] rfl ?_
      refine x_more (k' := 2) (n' := 32) (Nat.le_of_ble_eq_true rfl) (Nat.le_of_ble_eq_true rfl) ?_
      exact mX6_back_b101 C hr hlk hnm w22 hw22 a0 i2 a3 i4 h hf
    ·
      refine x_aload_n C dX6_back_51 (pc' := 52) rfl rfl rfl ?_
      refine x_aload_n C dX6_back_52 (pc' := 53) rfl rfl rfl ?_
      refine x_iload C dX6_back_53 (pc' := 55) rfl rfl ?_
      refine x_iload C dX6_back_55 (pc' := 57) rfl rfl ?_
      obtain ⟨r2, h3, hq, hf⟩ := call_some hf
      obtain ⟨hob, hq⟩ := oK_some hq
      refine x_callV C (As := [vR a3, vI i4, vI i5]) (st := []) (r := (some (vI r2))) (h' := h3) (mc := 0) (ms := 0) (k := 2) (n := 32) (mX6_turnsBack hq) hob (ci := 6) rfl (cwV 3 C.1.2.2.2.2 gX6_back_X6_turnsBack rfl rfl rfl (by decide +kernel) ⟨Nat.le_of_ble_eq_true rfl, Nat.le_of_ble_eq_true rfl⟩) rfl rfl (Nat.le_of_ble_eq_true rfl) dX6_back_57 (pc' := 60) rfl ?_
      refine x_if_eq C hf dX6_back_60 (pc' := 63) rfl (tgt := 95) (by decide) (fun _ hf => ?_) (fun _ hf => ?_)
      ·
        refine x_iinc C dX6_back_95 (pc' := 98) rfl rfl (v := (i5 + 1)) rfl (by decide) rfl (lv' := [some (vR a0), none, some (vI i2), some (vR a3), some (vI i4), some (vI (i5 + 1))]) rfl ?_
        refine x_goto C dX6_back_98 (tgt := 37) (by decide) ?_
        exact ih a0 i2 a3 i4 (i5 + 1) h3 hf
      ·
        refine x_more (k' := 2) (n' := 32) (Nat.le_of_ble_eq_true rfl) (Nat.le_of_ble_eq_true rfl) ?_
        exact mX6_back_b63 C hr hlk hnm a0 i2 a3 i4 i5 h3 hf
def fX6_back_w22 : Nat → Nat → Int32 → Nat → Int32 → Hp → Option (Int32 × Hp)
  | 0 => fun _ _ _ _ _ => none
  | n + 1 => fun a0 i2 a3 i4 h => (gI h a3 1 0).bind fun v1 => call (fX6_mostWidth h v1) fun r2 h3 => if r2 < i4 then (some ((0 : Int32), h3)) else (fX6_back_w37 (fX6_back_w22 n) FUEL a0 i2 a3 i4 (0 : Int32) h3)
set_option maxHeartbeats 4000000 in
set_option maxRecDepth 100000 in
theorem mX6_back_w22 {g : XG} {p : Program} {l : Launch} {e : Env} {s : State} {m : MethodId} {args : Array Value} {below : List Frame} {meth : Method} {c : Code} (C : x_C g p s m args c cX6_back RX6 6 wsX6_back) (hr : meth.sig.returnType = (some .int)) (hlk : meth.locks = false) (hnm : meth.name = yX6_back.name) {res : Int32 × Hp} : ∀ (n : Nat) (a0 : Nat) (i2 : Int32) (a3 : Nat) (i4 : Int32) (h : Hp), fX6_back_w22 n a0 i2 a3 i4 h = some res → XW g p l e { frames := 3, cells := 2, slots := 32, locals := 78 } s m args below meth c (MQ below (x_Q g (some (vI res.1)) res.2) args s 2 32 (x_A g)) 6 2 32 h 22 [some (vR a0), none, some (vI i2), some (vR a3), some (vI i4), none] [] := by
  intro n
  induction n with
  | zero =>
    intro a0 i2 a3 i4 h hf
    have hf2 : (none : Option (Int32 × Hp)) = some res := hf
    cases hf2
  | succ n ih =>
    intro a0 i2 a3 i4 h hf
    rw [fX6_back_w22] at hf
    refine x_iload C dX6_back_22 (pc' := 24) rfl rfl ?_
    refine x_aload_n C dX6_back_24 (pc' := 25) rfl rfl rfl ?_
    refine x_getIN C (ci := 1) (kf := 0) rfl (by decide) hinX6_back_X1 (List.mem_of_getElem? (i := 5) rfl) rfl hf dX6_back_25 (pc' := 28) rfl (fun v1 _ hf => ?_)
    obtain ⟨r2, h3, hq, hf⟩ := call_some hf
    refine x_callS C (As := [vI v1]) (st := [vI i4]) (r := (some (vI r2))) (h' := h3) (mc := 0) (ms := 0) (k := 2) (n := 32) (mX6_mostWidth hq) (va_cwS 1 C.1.2.2.2.2 gX6_back_X6_mostWidth rfl rfl rfl (by decide +kernel) ⟨Nat.le_of_ble_eq_true rfl, Nat.le_of_ble_eq_true rfl⟩) rfl rfl (Nat.le_of_ble_eq_true rfl) dX6_back_28 (pc' := 31) rfl ?_
    refine x_icmp_gt C hf dX6_back_31 (pc' := 34) rfl (tgt := 107) (by decide) (fun _ hf => ?_) (fun _ hf => ?_)
    ·
      refine x_iconst C (v := 0) (by decide) dX6_back_107 (pc' := 108) rfl ?_
      cases hf
      exact x_iret C hr hlk dX6_back_108
    ·
      refine x_iconst C (v := 0) (by decide) dX6_back_34 (pc' := 35) rfl ?_
      refine x_istore C dX6_back_35 (pc' := 37) rfl (by decide) rfl (lv' := [some (vR a0), none, some (vI i2), some (vR a3), some (vI i4), some (vI (0 : Int32))]) rfl ?_
      refine x_more (k' := 2) (n' := 32) (Nat.le_of_ble_eq_true rfl) (Nat.le_of_ble_eq_true rfl) ?_
      exact mX6_back_w37 C hr hlk hnm (fX6_back_w22 n) ih FUEL a0 i2 a3 i4 (0 : Int32) h3 hf
def fX6_back (h : Hp) (a0 : Nat) (i1 : Int32) (i2 : Int32) : Option (Int32 × Hp) := call (oK h a0 6 (fX6_ruleIn h a0 i1)) fun r1 h2 => if r1 = 0 then (some ((-1 : Int32), h2)) else (call (fX6_isSlot h2 i2) fun r3 h4 => if r3 = 0 then (some ((-1 : Int32), h4)) else (fX6_back_w22 FUEL a0 i2 r1 (1 : Int32) h4))
set_option maxHeartbeats 4000000 in
set_option maxRecDepth 100000 in
theorem mX6_back {l : Launch} {g : XG} {h : Hp} {a0 : Nat} {i1 : Int32} {i2 : Int32} {res : Int32 × Hp} (hf : fX6_back h a0 i1 i2 = some res) : XM l g yX6_back wsX6_back 3 78 2 32 [vR a0, vI i1, vI i2] h (some (vI res.1)) res.2 := by
  refine x_start (cc := cX6_back) (maxL := 6) (ret := (some .int)) (by decide) rfl (Nat.le_of_ble_eq_true rfl) (lv := [some (vR a0), some (vI i1), some (vI i2), none, none, none]) rfl ?_
  intro p e s m args below meth c C hr hlk hnm
  unfold fX6_back at hf
  refine x_aload_n C dX6_back_0 (pc' := 1) rfl rfl rfl ?_
  refine x_iload_n C dX6_back_1 (pc' := 2) rfl rfl rfl ?_
  obtain ⟨r1, h2, hq, hf⟩ := call_some hf
  obtain ⟨hob, hq⟩ := oK_some hq
  refine x_callV C (As := [vI i1]) (st := []) (r := (some (vR r1))) (h' := h2) (mc := 0) (ms := 0) (k := 2) (n := 32) (mX6_ruleIn hq) hob (ci := 6) rfl (cwV 1 C.1.2.2.2.2 gX6_back_X6_ruleIn rfl rfl rfl (by decide +kernel) ⟨Nat.le_of_ble_eq_true rfl, Nat.le_of_ble_eq_true rfl⟩) rfl rfl (Nat.le_of_ble_eq_true rfl) dX6_back_2 (pc' := 5) rfl ?_
  refine x_astore_n C dX6_back_5 (pc' := 6) rfl rfl (by decide) rfl (lv' := [some (vR a0), some (vI i1), some (vI i2), some (vR r1), none, none]) rfl ?_
  refine x_aload_n C dX6_back_6 (pc' := 7) rfl rfl rfl ?_
  refine x_ifnull C hf dX6_back_7 (pc' := 10) rfl (tgt := 17) (by decide) (fun _ hf => ?_) (fun _ hf => ?_)
  ·
    refine x_iconst C (v := -1) (by decide) dX6_back_17 (pc' := 18) rfl ?_
    cases hf
    exact x_iret C hr hlk dX6_back_18
  ·
    refine x_iload_n C dX6_back_10 (pc' := 11) rfl rfl rfl ?_
    obtain ⟨r3, h4, hq, hf⟩ := call_some hf
    refine x_callS C (As := [vI i2]) (st := []) (r := (some (vI r3))) (h' := h4) (mc := 0) (ms := 0) (k := 2) (n := 32) (mX6_isSlot hq) (va_cwS 1 C.1.2.2.2.2 gX6_back_X6_isSlot rfl rfl rfl (by decide +kernel) ⟨Nat.le_of_ble_eq_true rfl, Nat.le_of_ble_eq_true rfl⟩) rfl rfl (Nat.le_of_ble_eq_true rfl) dX6_back_11 (pc' := 14) rfl ?_
    refine x_if_ne C hf dX6_back_14 (pc' := 17) rfl (tgt := 19) (by decide) (fun _ hf => ?_) (fun _ hf => ?_)
    ·
      refine x_iconst C (v := -1) (by decide) dX6_back_17 (pc' := 18) rfl ?_
      cases hf
      exact x_iret C hr hlk dX6_back_18
    ·
      refine x_iconst C (v := 1) (by decide) dX6_back_19 (pc' := 20) rfl ?_
      refine x_istore C dX6_back_20 (pc' := 22) rfl (by decide) rfl (lv' := [some (vR a0), some (vI i1), some (vI i2), some (vR r1), some (vI (1 : Int32)), none]) rfl ?_
      refine x_keep [true, false, true, true, true, false] rfl ?_
      refine x_more (k' := 2) (n' := 32) (Nat.le_of_ble_eq_true rfl) (Nat.le_of_ble_eq_true rfl) ?_
      exact mX6_back_w22 C hr hlk hnm FUEL a0 i2 r1 (1 : Int32) h4 hf
-- ===== X6_round
theorem lkX6_round_0 : Cond.fieldLink RX6 157 "MossRings" "roundLength" "I" ∈ wsX6_round := by decide +kernel
theorem hinX6_round_X6 : ∀ w ∈ u_ws RX6 TX6 14, w ∈ wsX6_round := by decide +kernel
def fX6_round (h : Hp) (a0 : Nat) : Option (Int32 × Hp) := (gI h a0 6 5).bind fun v1 => some (v1, h)
set_option maxHeartbeats 4000000 in
set_option maxRecDepth 100000 in
theorem mX6_round {l : Launch} {g : XG} {h : Hp} {a0 : Nat} {res : Int32 × Hp} (hf : fX6_round h a0 = some res) : XM l g yX6_round wsX6_round 0 0 0 0 [vR a0] h (some (vI res.1)) res.2 := by
  refine x_start (cc := cX6_round) (maxL := 1) (ret := (some .int)) (by decide) rfl (Nat.le_of_ble_eq_true rfl) (lv := [some (vR a0)]) rfl ?_
  intro p e s m args below meth c C hr hlk hnm
  unfold fX6_round at hf
  refine x_aload_n C dX6_round_0 (pc' := 1) rfl rfl rfl ?_
  refine x_getI C (ci := 6) (kf := 5) rfl (by decide) hinX6_round_X6 lkX6_round_0 rfl hf dX6_round_1 (pc' := 4) rfl (fun v1 _ hf => ?_)
  cases hf
  exact x_iret C hr hlk dX6_round_4
-- ===== X6_keeps
theorem lkX6_keeps_0 : Cond.fieldLink RX6 22 "MossRings" "here" "[I" ∈ wsX6_keeps := by decide +kernel
theorem hinX6_keeps_X6 : ∀ w ∈ u_ws RX6 TX6 14, w ∈ wsX6_keeps := by decide +kernel
theorem lkX6_keeps_1 : Cond.fieldLink RX6 15 "MossRings" "tape" "[I" ∈ wsX6_keeps := by decide +kernel
theorem hinX6_keeps_X1 : ∀ w ∈ u_ws RX1 TX1 5, w ∈ wsX6_keeps := by decide +kernel
def fX6_keeps_b55 (a0 : Nat) (a3 : Nat) (h : Hp) : Option (Int32 × Hp) := (gR h a0 6 6).bind fun v1 => call (oK h a3 1 (fX1_holds h a3 v1)) fun r2 h3 => if r2 = 0 then (some ((0 : Int32), h3)) else (some ((1 : Int32), h3))
set_option maxHeartbeats 4000000 in
set_option maxRecDepth 100000 in
theorem mX6_keeps_b55 {g : XG} {p : Program} {l : Launch} {e : Env} {s : State} {m : MethodId} {args : Array Value} {below : List Frame} {meth : Method} {c : Code} (C : x_C g p s m args c cX6_keeps RX6 5 wsX6_keeps) (hr : meth.sig.returnType = (some .int)) (hlk : meth.locks = false) (hnm : meth.name = yX6_keeps.name) {res : Int32 × Hp} (a0 : Nat) (a3 : Nat) (h : Hp) (hf : fX6_keeps_b55 a0 a3 h = some res) : XW g p l e { frames := 4, cells := 0, slots := 0, locals := 96 } s m args below meth c (MQ below (x_Q g (some (vI res.1)) res.2) args s 0 0 (x_A g)) 5 0 0 h 55 [some (vR a0), none, none, some (vR a3), none] [] := by
  unfold fX6_keeps_b55 at hf
  refine x_aload_n C dX6_keeps_55 (pc' := 56) rfl rfl rfl ?_
  refine x_aload_n C dX6_keeps_56 (pc' := 57) rfl rfl rfl ?_
  refine x_getR C (ci := 6) (kf := 6) rfl (by decide) hinX6_keeps_X6 lkX6_keeps_0 rfl hf dX6_keeps_57 (pc' := 60) rfl (fun v1 _ hf => ?_)
  obtain ⟨r2, h3, hq, hf⟩ := call_some hf
  obtain ⟨hob, hq⟩ := oK_some hq
  refine x_callV C (As := [vR v1]) (st := []) (r := (some (vI r2))) (h' := h3) (mc := 0) (ms := 0) (k := 0) (n := 0) (mX1_holds hq) hob (ci := 1) rfl (cwV 1 C.1.2.2.2.2 gX6_keeps_X1_holds rfl rfl rfl (by decide +kernel) ⟨Nat.le_of_ble_eq_true rfl, Nat.le_of_ble_eq_true rfl⟩) rfl rfl (Nat.le_of_ble_eq_true rfl) dX6_keeps_60 (pc' := 63) rfl ?_
  refine x_if_eq C hf dX6_keeps_63 (pc' := 66) rfl (tgt := 70) (by decide) (fun _ hf => ?_) (fun _ hf => ?_)
  ·
    refine x_iconst C (v := 0) (by decide) dX6_keeps_70 (pc' := 71) rfl ?_
    cases hf
    exact x_iret C hr hlk dX6_keeps_71
  ·
    refine x_iconst C (v := 1) (by decide) dX6_keeps_66 (pc' := 67) rfl ?_
    refine x_goto C dX6_keeps_67 (tgt := 71) (by decide) ?_
    cases hf
    exact x_iret C hr hlk dX6_keeps_71
def fX6_keeps_w28 : Nat → Nat → Int32 → Nat → Int32 → Hp → Option (Int32 × Hp)
  | 0 => fun _ _ _ _ _ => none
  | n + 1 => fun a0 i2 a3 i4 h => if i2 ≤ i4 then (fX6_keeps_b55 a0 a3 h) else ((gR h a0 6 6).bind fun v1 => (gR h a0 6 1).bind fun v2 => (aI h v2 0 i4).bind fun v3 => (sI h v1 0 i4 (v3).toInt8.toInt32).bind fun h4 => (fX6_keeps_w28 n) a0 i2 a3 (i4 + 1) h4)
set_option maxHeartbeats 4000000 in
set_option maxRecDepth 100000 in
theorem mX6_keeps_w28 {g : XG} {p : Program} {l : Launch} {e : Env} {s : State} {m : MethodId} {args : Array Value} {below : List Frame} {meth : Method} {c : Code} (C : x_C g p s m args c cX6_keeps RX6 5 wsX6_keeps) (hr : meth.sig.returnType = (some .int)) (hlk : meth.locks = false) (hnm : meth.name = yX6_keeps.name) {res : Int32 × Hp} : ∀ (n : Nat) (a0 : Nat) (i2 : Int32) (a3 : Nat) (i4 : Int32) (h : Hp), fX6_keeps_w28 n a0 i2 a3 i4 h = some res → XW g p l e { frames := 4, cells := 0, slots := 0, locals := 96 } s m args below meth c (MQ below (x_Q g (some (vI res.1)) res.2) args s 0 0 (x_A g)) 5 0 0 h 28 [some (vR a0), none, some (vI i2), some (vR a3), some (vI i4)] [] := by
  intro n
  induction n with
  | zero =>
    intro a0 i2 a3 i4 h hf
    have hf2 : (none : Option (Int32 × Hp)) = some res := hf
    cases hf2
  | succ n ih =>
    intro a0 i2 a3 i4 h hf
    rw [fX6_keeps_w28] at hf
    refine x_iload C dX6_keeps_28 (pc' := 30) rfl rfl ?_
    refine x_iload_n C dX6_keeps_30 (pc' := 31) rfl rfl rfl ?_
    refine x_icmp_ge C hf dX6_keeps_31 (pc' := 34) rfl (tgt := 55) (by decide) (fun _ hf => ?_) (fun _ hf => ?_)
    ·
      refine x_keep [true, false, false, true, false] rfl ?_
      refine x_more (k' := 0) (n' := 0) (Nat.le_of_ble_eq_true rfl) (Nat.le_of_ble_eq_true rfl) ?_
      exact mX6_keeps_b55 C hr hlk hnm a0 a3 h hf
    ·
      refine x_aload_n C dX6_keeps_34 (pc' := 35) rfl rfl rfl ?_
      refine x_getR C (ci := 6) (kf := 6) rfl (by decide) hinX6_keeps_X6 lkX6_keeps_0 rfl hf dX6_keeps_35 (pc' := 38) rfl (fun v1 _ hf => ?_)
      refine x_iload C dX6_keeps_38 (pc' := 40) rfl rfl ?_
      refine x_aload_n C dX6_keeps_40 (pc' := 41) rfl rfl rfl ?_
      refine x_getR C (ci := 6) (kf := 1) rfl (by decide) hinX6_keeps_X6 lkX6_keeps_1 rfl hf dX6_keeps_41 (pc' := 44) rfl (fun v2 _ hf => ?_)
      refine x_iload C dX6_keeps_44 (pc' := 46) rfl rfl ?_
      refine x_iaload C hf dX6_keeps_46 (pc' := 47) rfl (fun v3 _ hf => ?_)
      refine x_i2b C dX6_keeps_47 (pc' := 48) rfl ?_
      refine x_iastore C hf dX6_keeps_48 (pc' := 49) rfl (fun h4 _ hf => ?_)
      refine x_iinc C dX6_keeps_49 (pc' := 52) rfl rfl (v := (i4 + 1)) rfl (by decide) rfl (lv' := [some (vR a0), none, some (vI i2), some (vR a3), some (vI (i4 + 1))]) rfl ?_
      refine x_goto C dX6_keeps_52 (tgt := 28) (by decide) ?_
      exact ih a0 i2 a3 (i4 + 1) h4 hf
def fX6_keeps (h : Hp) (a0 : Nat) (i1 : Int32) : Option (Int32 × Hp) := call (oK h a0 6 (fX6_takeTape h a0)) fun r1 h2 => call (oK h2 a0 6 (fX6_ruleIn h2 a0 i1)) fun r3 h4 => if r3 = 0 then (some ((-1 : Int32), h4)) else ((gI h4 r3 1 0).bind fun v5 => if r1 = v5 then (fX6_keeps_w28 FUEL a0 r1 r3 (0 : Int32) h4) else (some ((-1 : Int32), h4)))
set_option maxHeartbeats 4000000 in
set_option maxRecDepth 100000 in
theorem mX6_keeps {l : Launch} {g : XG} {h : Hp} {a0 : Nat} {i1 : Int32} {res : Int32 × Hp} (hf : fX6_keeps h a0 i1 = some res) : XM l g yX6_keeps wsX6_keeps 4 96 0 0 [vR a0, vI i1] h (some (vI res.1)) res.2 := by
  refine x_start (cc := cX6_keeps) (maxL := 5) (ret := (some .int)) (by decide) rfl (Nat.le_of_ble_eq_true rfl) (lv := [some (vR a0), some (vI i1), none, none, none]) rfl ?_
  intro p e s m args below meth c C hr hlk hnm
  unfold fX6_keeps at hf
  refine x_aload_n C dX6_keeps_0 (pc' := 1) rfl rfl rfl ?_
  obtain ⟨r1, h2, hq, hf⟩ := call_some hf
  obtain ⟨hob, hq⟩ := oK_some hq
  refine x_callV C (As := []) (st := []) (r := (some (vI r1))) (h' := h2) (mc := 0) (ms := 0) (k := 0) (n := 0) (mX6_takeTape hq) hob (ci := 6) rfl (cwV 0 C.1.2.2.2.2 gX6_keeps_X6_takeTape rfl rfl rfl (by decide +kernel) ⟨Nat.le_of_ble_eq_true rfl, Nat.le_of_ble_eq_true rfl⟩) rfl rfl (Nat.le_of_ble_eq_true rfl) dX6_keeps_1 (pc' := 4) rfl ?_
  refine x_istore_n C dX6_keeps_4 (pc' := 5) rfl rfl (by decide) rfl (lv' := [some (vR a0), some (vI i1), some (vI r1), none, none]) rfl ?_
  refine x_aload_n C dX6_keeps_5 (pc' := 6) rfl rfl rfl ?_
  refine x_iload_n C dX6_keeps_6 (pc' := 7) rfl rfl rfl ?_
  obtain ⟨r3, h4, hq, hf⟩ := call_some hf
  obtain ⟨hob, hq⟩ := oK_some hq
  refine x_callV C (As := [vI i1]) (st := []) (r := (some (vR r3))) (h' := h4) (mc := 0) (ms := 0) (k := 0) (n := 0) (mX6_ruleIn hq) hob (ci := 6) rfl (cwV 1 C.1.2.2.2.2 gX6_keeps_X6_ruleIn rfl rfl rfl (by decide +kernel) ⟨Nat.le_of_ble_eq_true rfl, Nat.le_of_ble_eq_true rfl⟩) rfl rfl (Nat.le_of_ble_eq_true rfl) dX6_keeps_7 (pc' := 10) rfl ?_
  refine x_astore_n C dX6_keeps_10 (pc' := 11) rfl rfl (by decide) rfl (lv' := [some (vR a0), some (vI i1), some (vI r1), some (vR r3), none]) rfl ?_
  refine x_aload_n C dX6_keeps_11 (pc' := 12) rfl rfl rfl ?_
  refine x_ifnull C hf dX6_keeps_12 (pc' := 15) rfl (tgt := 23) (by decide) (fun _ hf => ?_) (fun _ hf => ?_)
  ·
    refine x_iconst C (v := -1) (by decide) dX6_keeps_23 (pc' := 24) rfl ?_
    cases hf
    exact x_iret C hr hlk dX6_keeps_24
  ·
    refine x_iload_n C dX6_keeps_15 (pc' := 16) rfl rfl rfl ?_
    refine x_aload_n C dX6_keeps_16 (pc' := 17) rfl rfl rfl ?_
    refine x_getIN C (ci := 1) (kf := 0) rfl (by decide) hinX6_keeps_X1 (List.mem_of_getElem? (i := 5) rfl) rfl hf dX6_keeps_17 (pc' := 20) rfl (fun v5 _ hf => ?_)
    refine x_icmp_eq C hf dX6_keeps_20 (pc' := 23) rfl (tgt := 25) (by decide) (fun _ hf => ?_) (fun _ hf => ?_)
    ·
      refine x_iconst C (v := 0) (by decide) dX6_keeps_25 (pc' := 26) rfl ?_
      refine x_istore C dX6_keeps_26 (pc' := 28) rfl (by decide) rfl (lv' := [some (vR a0), some (vI i1), some (vI r1), some (vR r3), some (vI (0 : Int32))]) rfl ?_
      refine x_keep [true, false, true, true, true] rfl ?_
      refine x_more (k' := 0) (n' := 0) (Nat.le_of_ble_eq_true rfl) (Nat.le_of_ble_eq_true rfl) ?_
      exact mX6_keeps_w28 C hr hlk hnm FUEL a0 r1 r3 (0 : Int32) h4 hf
    ·
      refine x_iconst C (v := -1) (by decide) dX6_keeps_23 (pc' := 24) rfl ?_
      cases hf
      exact x_iret C hr hlk dX6_keeps_24
-- ===== X6_join
theorem lkX6_join_0 : Cond.fieldLink RX6 11 "MossRings" "slots" "[LMossRings$Rule;" ∈ wsX6_join := by decide +kernel
theorem hinX6_join_X6 : ∀ w ∈ u_ws RX6 TX6 14, w ∈ wsX6_join := by decide +kernel
theorem lkX6_join_1 : Cond.classLink RX6 9 RX1 ∈ wsX6_join := by decide +kernel
theorem lkX6_join_2 : Cond.instantiable RX1 5 ∈ wsX6_join := by decide +kernel
theorem lkX6_join_3 : Cond.initialized RX1 ∈ wsX6_join := by decide +kernel
theorem hinX6_join_X1 : ∀ w ∈ u_ws RX1 TX1 5, w ∈ wsX6_join := by decide +kernel
theorem lkX6_join_4 : Cond.fieldLink RX6 28 "MossRings" "told" "[I" ∈ wsX6_join := by decide +kernel
theorem lkX6_join_5 : Cond.methodLink RX6 80 yX1_init ∈ wsX6_join := by decide +kernel
theorem lkX6_join_6 : Cond.instanceMethod yX1_init ∈ wsX6_join := by decide +kernel
theorem lkX6_join_7 : Cond.fieldLink RX6 22 "MossRings" "here" "[I" ∈ wsX6_join := by decide +kernel
theorem lkX6_join_8 : Cond.fieldLink RX6 25 "MossRings" "there" "[I" ∈ wsX6_join := by decide +kernel
def fX6_join_b160 (a0 : Nat) (i3 : Int32) (a4 : Nat) (i6 : Int32) (h : Hp) : Option (Int32 × Hp) := (gR h a0 6 0).bind fun v1 => mkO h 1 [vI 0, vI 0, vI 0, vI 0, vR 0] fun q2 h3 => (gI h3 a4 1 0).bind fun v4 => (gR h3 a0 6 8).bind fun v5 => (fX1_init h3 q2 v4 i6 v5).bind fun h7 => (sR h7 v1 i3 q2).bind fun h8 => some (i6, h8)
set_option maxHeartbeats 4000000 in
set_option maxRecDepth 100000 in
theorem mX6_join_b160 {g : XG} {p : Program} {l : Launch} {e : Env} {s : State} {m : MethodId} {args : Array Value} {below : List Frame} {meth : Method} {c : Code} (C : x_C g p s m args c cX6_join RX6 9 wsX6_join) (hr : meth.sig.returnType = (some .int)) (hlk : meth.locks = false) (hnm : meth.name = yX6_join.name) {res : Int32 × Hp} (a0 : Nat) (i3 : Int32) (a4 : Nat) (i6 : Int32) (h : Hp) (hf : fX6_join_b160 a0 i3 a4 i6 h = some res) : XW g p l e { frames := 3, cells := 2, slots := 32, locals := 63 } s m args below meth c (MQ below (x_Q g (some (vI res.1)) res.2) args s 2 32 (x_A g)) 9 2 32 h 160 [some (vR a0), none, none, some (vI i3), some (vR a4), none, some (vI i6), none, none] [] := by
  unfold fX6_join_b160 at hf
  refine x_aload_n C dX6_join_160 (pc' := 161) rfl rfl rfl ?_
  refine x_getR C (ci := 6) (kf := 0) rfl (by decide) hinX6_join_X6 lkX6_join_0 rfl hf dX6_join_161 (pc' := 164) rfl (fun v1 _ hf => ?_)
  refine x_iload_n C dX6_join_164 (pc' := 165) rfl rfl rfl ?_
  refine x_newO C (k := 1) (n := 27) (ci := 1) (fs := [vI 0, vI 0, vI 0, vI 0, vR 0]) rfl hinX6_join_X1 tyX1 tyX1_ok lkX6_join_1 lkX6_join_2 lkX6_join_3 (dfX1 g) hf dX6_join_165 (pc' := 168) rfl (fun q2 h3 h4q2 _ _ hf => ?_)
  refine x_dup C rfl dX6_join_168 (pc' := 169) rfl ?_
  refine x_aload C dX6_join_169 (pc' := 171) rfl rfl ?_
  refine x_getIN C (ci := 1) (kf := 0) rfl (by decide) hinX6_join_X1 (List.mem_of_getElem? (i := 5) rfl) rfl hf dX6_join_171 (pc' := 174) rfl (fun v4 _ hf => ?_)
  refine x_iload C dX6_join_174 (pc' := 176) rfl rfl ?_
  refine x_aload_n C dX6_join_176 (pc' := 177) rfl rfl rfl ?_
  refine x_getR C (ci := 6) (kf := 8) rfl (by decide) hinX6_join_X6 lkX6_join_4 rfl hf dX6_join_177 (pc' := 180) rfl (fun v5 _ hf => ?_)
  obtain ⟨h7, hq, hf⟩ := bind_some hf
  refine x_callI C (As := [vI v4, vI i6, vR v5]) (st := [vR q2, vI i3, vR v1]) (r := none) (h' := h7) (mc := 1) (ms := 27) (k := 0) (n := 0) (mX1_init hq) h4q2 (cwI 3 C.1.2.2.2.2 gX6_join_X1_init rfl rfl rfl (C.1.2.2.2.2 _ lkX6_join_3) (C.1.2.2.2.2 _ lkX6_join_5) (C.1.2.2.2.2 _ lkX6_join_6) rfl (by decide +kernel) ⟨Nat.le_of_ble_eq_true rfl, Nat.le_of_ble_eq_true rfl⟩) rfl rfl (Nat.le_of_ble_eq_true rfl) dX6_join_180 (pc' := 183) rfl ?_
  refine x_aastore C hf dX6_join_183 (pc' := 184) rfl (fun h8 _ hf => ?_)
  refine x_iload C dX6_join_184 (pc' := 186) rfl rfl ?_
  cases hf
  exact x_iret C hr hlk dX6_join_186
def fX6_join_w91 : Nat → Nat → Int32 → Nat → Nat → Int32 → Int32 → Int32 → Hp → Option (Int32 × Hp)
  | 0 => fun _ _ _ _ _ _ _ _ => none
  | n + 1 => fun a0 i3 a4 a5 i6 i7 i8 h => if i7 ≤ i8 then (fX6_join_b160 a0 i3 a4 i6 h) else ((gR h a0 6 8).bind fun v1 => (aN h v1).bind fun v2 => if v2 ≤ i8 then (fX6_join_b160 a0 i3 a4 i6 h) else ((gR h a0 6 6).bind fun v3 => (oK h a4 1 (fX1_spread h a4 i8 i6 v3)).bind fun h5 => (gR h5 a0 6 8).bind fun v6 => (gR h5 a0 6 6).bind fun v7 => (gI h5 a5 1 1).bind fun v8 => (gR h5 a0 6 7).bind fun v9 => call (oK h5 a4 1 (fX1_grow h5 a4 v7 i6 v8 v9)) fun r10 h11 => call (oK h11 a5 1 (fX1_tells h11 a5 (r10).toInt32)) fun r12 h13 => (sI h13 v6 0 i8 r12).bind fun h14 => (fX6_join_w91 n) a0 i3 a4 a5 i6 i7 (i8 + 1) h14))
set_option maxHeartbeats 4000000 in
set_option maxRecDepth 100000 in
theorem mX6_join_w91 {g : XG} {p : Program} {l : Launch} {e : Env} {s : State} {m : MethodId} {args : Array Value} {below : List Frame} {meth : Method} {c : Code} (C : x_C g p s m args c cX6_join RX6 9 wsX6_join) (hr : meth.sig.returnType = (some .int)) (hlk : meth.locks = false) (hnm : meth.name = yX6_join.name) {res : Int32 × Hp} : ∀ (n : Nat) (a0 : Nat) (i3 : Int32) (a4 : Nat) (a5 : Nat) (i6 : Int32) (i7 : Int32) (i8 : Int32) (h : Hp), fX6_join_w91 n a0 i3 a4 a5 i6 i7 i8 h = some res → XW g p l e { frames := 3, cells := 2, slots := 32, locals := 63 } s m args below meth c (MQ below (x_Q g (some (vI res.1)) res.2) args s 2 32 (x_A g)) 9 2 32 h 91 [some (vR a0), none, none, some (vI i3), some (vR a4), some (vR a5), some (vI i6), some (vI i7), some (vI i8)] [] := by
  intro n
  induction n with
  | zero =>
    intro a0 i3 a4 a5 i6 i7 i8 h hf
    have hf2 : (none : Option (Int32 × Hp)) = some res := hf
    cases hf2
  | succ n ih =>
    intro a0 i3 a4 a5 i6 i7 i8 h hf
    rw [fX6_join_w91] at hf
    refine x_iload C dX6_join_91 (pc' := 93) rfl rfl ?_
    refine x_iload C dX6_join_93 (pc' := 95) rfl rfl ?_
    refine x_icmp_ge C hf dX6_join_95 (pc' := 98) rfl (tgt := 160) (by decide) (fun _ hf => ?_) (fun _ hf => ?_)
    ·
      refine x_keep [true, false, false, true, true, false, true, false, false] rfl ?_
      refine x_more (k' := 2) (n' := 32) (Nat.le_of_ble_eq_true rfl) (Nat.le_of_ble_eq_true rfl) ?_
      exact mX6_join_b160 C hr hlk hnm a0 i3 a4 i6 h hf
    ·
      refine x_iload C dX6_join_98 (pc' := 100) rfl rfl ?_
      refine x_aload_n C dX6_join_100 (pc' := 101) rfl rfl rfl ?_
      refine x_getR C (ci := 6) (kf := 8) rfl (by decide) hinX6_join_X6 lkX6_join_4 rfl hf dX6_join_101 (pc' := 104) rfl (fun v1 _ hf => ?_)
      refine x_alen C hf dX6_join_104 (pc' := 105) rfl (fun v2 _ hf => ?_)
      refine x_icmp_ge C hf dX6_join_105 (pc' := 108) rfl (tgt := 160) (by decide) (fun _ hf => ?_) (fun _ hf => ?_)
      ·
        refine x_keep [true, false, false, true, true, false, true, false, false] rfl ?_
        refine x_more (k' := 2) (n' := 32) (Nat.le_of_ble_eq_true rfl) (Nat.le_of_ble_eq_true rfl) ?_
        exact mX6_join_b160 C hr hlk hnm a0 i3 a4 i6 h hf
      ·
        refine x_aload C dX6_join_108 (pc' := 110) rfl rfl ?_
        refine x_iload C dX6_join_110 (pc' := 112) rfl rfl ?_
        refine x_iload C dX6_join_112 (pc' := 114) rfl rfl ?_
        refine x_aload_n C dX6_join_114 (pc' := 115) rfl rfl rfl ?_
        refine x_getR C (ci := 6) (kf := 6) rfl (by decide) hinX6_join_X6 lkX6_join_7 rfl hf dX6_join_115 (pc' := 118) rfl (fun v3 _ hf => ?_)
        obtain ⟨h5, hq, hf⟩ := bind_some hf
        obtain ⟨hob, hq⟩ := oK_some hq
        refine x_callV C (As := [vI i8, vI i6, vR v3]) (st := []) (r := none) (h' := h5) (mc := 0) (ms := 0) (k := 2) (n := 32) (mX1_spread hq) hob (ci := 1) rfl (cwV 3 C.1.2.2.2.2 gX6_join_X1_spread rfl rfl rfl (by decide +kernel) ⟨Nat.le_of_ble_eq_true rfl, Nat.le_of_ble_eq_true rfl⟩) rfl rfl (Nat.le_of_ble_eq_true rfl) dX6_join_118 (pc' := 121) rfl ?_
        refine x_aload_n C dX6_join_121 (pc' := 122) rfl rfl rfl ?_
        refine x_getR C (ci := 6) (kf := 8) rfl (by decide) hinX6_join_X6 lkX6_join_4 rfl hf dX6_join_122 (pc' := 125) rfl (fun v6 _ hf => ?_)
        refine x_iload C dX6_join_125 (pc' := 127) rfl rfl ?_
        refine x_aload C dX6_join_127 (pc' := 129) rfl rfl ?_
        refine x_aload C dX6_join_129 (pc' := 131) rfl rfl ?_
        refine x_aload_n C dX6_join_131 (pc' := 132) rfl rfl rfl ?_
        refine x_getR C (ci := 6) (kf := 6) rfl (by decide) hinX6_join_X6 lkX6_join_7 rfl hf dX6_join_132 (pc' := 135) rfl (fun v7 _ hf => ?_)
        refine x_iload C dX6_join_135 (pc' := 137) rfl rfl ?_
        refine x_aload C dX6_join_137 (pc' := 139) rfl rfl ?_
        refine x_getIN C (ci := 1) (kf := 1) rfl (by decide) hinX6_join_X1 (List.mem_of_getElem? (i := 7) rfl) rfl hf dX6_join_139 (pc' := 142) rfl (fun v8 _ hf => ?_)
        refine x_aload_n C dX6_join_142 (pc' := 143) rfl rfl rfl ?_
        refine x_getR C (ci := 6) (kf := 7) rfl (by decide) hinX6_join_X6 lkX6_join_8 rfl hf dX6_join_143 (pc' := 146) rfl (fun v9 _ hf => ?_)
        obtain ⟨r10, h11, hq, hf⟩ := call_some hf
        obtain ⟨hob, hq⟩ := oK_some hq
        refine x_callV C (As := [vR v7, vI i6, vI v8, vR v9]) (st := [vR a5, vI i8, vR v6]) (r := (some (vL r10))) (h' := h11) (mc := 0) (ms := 0) (k := 2) (n := 32) (mX1_grow hq) hob (ci := 1) rfl (cwV 4 C.1.2.2.2.2 gX6_join_X1_grow rfl rfl rfl (by decide +kernel) ⟨Nat.le_of_ble_eq_true rfl, Nat.le_of_ble_eq_true rfl⟩) rfl rfl (Nat.le_of_ble_eq_true rfl) dX6_join_146 (pc' := 149) rfl ?_
        refine x_l2i C dX6_join_149 (pc' := 150) rfl ?_
        obtain ⟨r12, h13, hq, hf⟩ := call_some hf
        obtain ⟨hob, hq⟩ := oK_some hq
        refine x_callV C (As := [vI (r10).toInt32]) (st := [vI i8, vR v6]) (r := (some (vI r12))) (h' := h13) (mc := 0) (ms := 0) (k := 2) (n := 32) (mX1_tells hq) hob (ci := 1) rfl (cwV 1 C.1.2.2.2.2 gX6_join_X1_tells rfl rfl rfl (by decide +kernel) ⟨Nat.le_of_ble_eq_true rfl, Nat.le_of_ble_eq_true rfl⟩) rfl rfl (Nat.le_of_ble_eq_true rfl) dX6_join_150 (pc' := 153) rfl ?_
        refine x_iastore C hf dX6_join_153 (pc' := 154) rfl (fun h14 _ hf => ?_)
        refine x_iinc C dX6_join_154 (pc' := 157) rfl rfl (v := (i8 + 1)) rfl (by decide) rfl (lv' := [some (vR a0), none, none, some (vI i3), some (vR a4), some (vR a5), some (vI i6), some (vI i7), some (vI (i8 + 1))]) rfl ?_
        refine x_goto C dX6_join_157 (tgt := 91) (by decide) ?_
        exact ih a0 i3 a4 a5 i6 i7 (i8 + 1) h14 hf
def fX6_join (h : Hp) (a0 : Nat) (i1 : Int32) (i2 : Int32) (i3 : Int32) : Option (Int32 × Hp) := call (oK h a0 6 (fX6_ruleIn h a0 i1)) fun r1 h2 => call (oK h2 a0 6 (fX6_ruleIn h2 a0 i2)) fun r3 h4 => if r1 = 0 then (some ((-1 : Int32), h4)) else (if r3 = 0 then (some ((-1 : Int32), h4)) else (call (fX6_isSlot h4 i3) fun r5 h6 => if r5 = 0 then (some ((-1 : Int32), h6)) else ((gI h6 r1 1 0).bind fun v7 => (gI h6 r3 1 0).bind fun v8 => if v7 = v8 then ((gI h6 r1 1 1).bind fun v9 => (gI h6 r3 1 1).bind fun v10 => setv (((v9 + v10) - (1 : Int32))) fun v11 => (gI h6 r1 1 0).bind fun v12 => call (fX6_mostWidth h6 v12) fun r13 h14 => if v11 ≤ r13 then ((gI h14 r1 1 0).bind fun v15 => call (fX6_power h14 v15 v11) fun r16 h17 => fX6_join_w91 FUEL a0 i3 r1 r3 v11 r16 (0 : Int32) h17) else (some ((-1 : Int32), h14))) else (some ((-1 : Int32), h6)))))
set_option maxHeartbeats 4000000 in
set_option maxRecDepth 100000 in
theorem mX6_join {l : Launch} {g : XG} {h : Hp} {a0 : Nat} {i1 : Int32} {i2 : Int32} {i3 : Int32} {res : Int32 × Hp} (hf : fX6_join h a0 i1 i2 i3 = some res) : XM l g yX6_join wsX6_join 3 63 2 32 [vR a0, vI i1, vI i2, vI i3] h (some (vI res.1)) res.2 := by
  refine x_start (cc := cX6_join) (maxL := 9) (ret := (some .int)) (by decide) rfl (Nat.le_of_ble_eq_true rfl) (lv := [some (vR a0), some (vI i1), some (vI i2), some (vI i3), none, none, none, none, none]) rfl ?_
  intro p e s m args below meth c C hr hlk hnm
  unfold fX6_join at hf
  refine x_aload_n C dX6_join_0 (pc' := 1) rfl rfl rfl ?_
  refine x_iload_n C dX6_join_1 (pc' := 2) rfl rfl rfl ?_
  obtain ⟨r1, h2, hq, hf⟩ := call_some hf
  obtain ⟨hob, hq⟩ := oK_some hq
  refine x_callV C (As := [vI i1]) (st := []) (r := (some (vR r1))) (h' := h2) (mc := 0) (ms := 0) (k := 2) (n := 32) (mX6_ruleIn hq) hob (ci := 6) rfl (cwV 1 C.1.2.2.2.2 gX6_join_X6_ruleIn rfl rfl rfl (by decide +kernel) ⟨Nat.le_of_ble_eq_true rfl, Nat.le_of_ble_eq_true rfl⟩) rfl rfl (Nat.le_of_ble_eq_true rfl) dX6_join_2 (pc' := 5) rfl ?_
  refine x_astore C dX6_join_5 (pc' := 7) rfl (by decide) rfl (lv' := [some (vR a0), some (vI i1), some (vI i2), some (vI i3), some (vR r1), none, none, none, none]) rfl ?_
  refine x_aload_n C dX6_join_7 (pc' := 8) rfl rfl rfl ?_
  refine x_iload_n C dX6_join_8 (pc' := 9) rfl rfl rfl ?_
  obtain ⟨r3, h4, hq, hf⟩ := call_some hf
  obtain ⟨hob, hq⟩ := oK_some hq
  refine x_callV C (As := [vI i2]) (st := []) (r := (some (vR r3))) (h' := h4) (mc := 0) (ms := 0) (k := 2) (n := 32) (mX6_ruleIn hq) hob (ci := 6) rfl (cwV 1 C.1.2.2.2.2 gX6_join_X6_ruleIn rfl rfl rfl (by decide +kernel) ⟨Nat.le_of_ble_eq_true rfl, Nat.le_of_ble_eq_true rfl⟩) rfl rfl (Nat.le_of_ble_eq_true rfl) dX6_join_9 (pc' := 12) rfl ?_
  refine x_astore C dX6_join_12 (pc' := 14) rfl (by decide) rfl (lv' := [some (vR a0), some (vI i1), some (vI i2), some (vI i3), some (vR r1), some (vR r3), none, none, none]) rfl ?_
  refine x_aload C dX6_join_14 (pc' := 16) rfl rfl ?_
  refine x_ifnull C hf dX6_join_16 (pc' := 19) rfl (tgt := 44) (by decide) (fun _ hf => ?_) (fun _ hf => ?_)
  ·
    refine x_iconst C (v := -1) (by decide) dX6_join_44 (pc' := 45) rfl ?_
    cases hf
    exact x_iret C hr hlk dX6_join_45
  ·
    refine x_aload C dX6_join_19 (pc' := 21) rfl rfl ?_
    refine x_ifnull C hf dX6_join_21 (pc' := 24) rfl (tgt := 44) (by decide) (fun _ hf => ?_) (fun _ hf => ?_)
    ·
      refine x_iconst C (v := -1) (by decide) dX6_join_44 (pc' := 45) rfl ?_
      cases hf
      exact x_iret C hr hlk dX6_join_45
    ·
      refine x_iload_n C dX6_join_24 (pc' := 25) rfl rfl rfl ?_
      obtain ⟨r5, h6, hq, hf⟩ := call_some hf
      refine x_callS C (As := [vI i3]) (st := []) (r := (some (vI r5))) (h' := h6) (mc := 0) (ms := 0) (k := 2) (n := 32) (mX6_isSlot hq) (va_cwS 1 C.1.2.2.2.2 gX6_join_X6_isSlot rfl rfl rfl (by decide +kernel) ⟨Nat.le_of_ble_eq_true rfl, Nat.le_of_ble_eq_true rfl⟩) rfl rfl (Nat.le_of_ble_eq_true rfl) dX6_join_25 (pc' := 28) rfl ?_
      refine x_if_eq C hf dX6_join_28 (pc' := 31) rfl (tgt := 44) (by decide) (fun _ hf => ?_) (fun _ hf => ?_)
      ·
        refine x_iconst C (v := -1) (by decide) dX6_join_44 (pc' := 45) rfl ?_
        cases hf
        exact x_iret C hr hlk dX6_join_45
      ·
        refine x_aload C dX6_join_31 (pc' := 33) rfl rfl ?_
        refine x_getIN C (ci := 1) (kf := 0) rfl (by decide) hinX6_join_X1 (List.mem_of_getElem? (i := 5) rfl) rfl hf dX6_join_33 (pc' := 36) rfl (fun v7 _ hf => ?_)
        refine x_aload C dX6_join_36 (pc' := 38) rfl rfl ?_
        refine x_getIN C (ci := 1) (kf := 0) rfl (by decide) hinX6_join_X1 (List.mem_of_getElem? (i := 5) rfl) rfl hf dX6_join_38 (pc' := 41) rfl (fun v8 _ hf => ?_)
        refine x_icmp_eq C hf dX6_join_41 (pc' := 44) rfl (tgt := 46) (by decide) (fun _ hf => ?_) (fun _ hf => ?_)
        ·
          refine x_aload C dX6_join_46 (pc' := 48) rfl rfl ?_
          refine x_getIN C (ci := 1) (kf := 1) rfl (by decide) hinX6_join_X1 (List.mem_of_getElem? (i := 7) rfl) rfl hf dX6_join_48 (pc' := 51) rfl (fun v9 _ hf => ?_)
          refine x_aload C dX6_join_51 (pc' := 53) rfl rfl ?_
          refine x_getIN C (ci := 1) (kf := 1) rfl (by decide) hinX6_join_X1 (List.mem_of_getElem? (i := 7) rfl) rfl hf dX6_join_53 (pc' := 56) rfl (fun v10 _ hf => ?_)
          refine x_iadd C dX6_join_56 (pc' := 57) rfl ?_
          refine x_iconst C (v := 1) (by decide) dX6_join_57 (pc' := 58) rfl ?_
          refine x_isub C dX6_join_58 (pc' := 59) rfl ?_
          refine x_nameI hf (fun v11 _ hf => ?_)
          refine x_istore C dX6_join_59 (pc' := 61) rfl (by decide) rfl (lv' := [some (vR a0), some (vI i1), some (vI i2), some (vI i3), some (vR r1), some (vR r3), some (vI v11), none, none]) rfl ?_
          refine x_iload C dX6_join_61 (pc' := 63) rfl rfl ?_
          refine x_aload C dX6_join_63 (pc' := 65) rfl rfl ?_
          refine x_getIN C (ci := 1) (kf := 0) rfl (by decide) hinX6_join_X1 (List.mem_of_getElem? (i := 5) rfl) rfl hf dX6_join_65 (pc' := 68) rfl (fun v12 _ hf => ?_)
          obtain ⟨r13, h14, hq, hf⟩ := call_some hf
          refine x_callS C (As := [vI v12]) (st := [vI v11]) (r := (some (vI r13))) (h' := h14) (mc := 0) (ms := 0) (k := 2) (n := 32) (mX6_mostWidth hq) (va_cwS 1 C.1.2.2.2.2 gX6_join_X6_mostWidth rfl rfl rfl (by decide +kernel) ⟨Nat.le_of_ble_eq_true rfl, Nat.le_of_ble_eq_true rfl⟩) rfl rfl (Nat.le_of_ble_eq_true rfl) dX6_join_68 (pc' := 71) rfl ?_
          refine x_icmp_le C hf dX6_join_71 (pc' := 74) rfl (tgt := 76) (by decide) (fun _ hf => ?_) (fun _ hf => ?_)
          ·
            refine x_aload C dX6_join_76 (pc' := 78) rfl rfl ?_
            refine x_getIN C (ci := 1) (kf := 0) rfl (by decide) hinX6_join_X1 (List.mem_of_getElem? (i := 5) rfl) rfl hf dX6_join_78 (pc' := 81) rfl (fun v15 _ hf => ?_)
            refine x_iload C dX6_join_81 (pc' := 83) rfl rfl ?_
            obtain ⟨r16, h17, hq, hf⟩ := call_some hf
            refine x_callS C (As := [vI v15, vI v11]) (st := []) (r := (some (vI r16))) (h' := h17) (mc := 0) (ms := 0) (k := 2) (n := 32) (mX6_power hq) (va_cwS 2 C.1.2.2.2.2 gX6_join_X6_power rfl rfl rfl (by decide +kernel) ⟨Nat.le_of_ble_eq_true rfl, Nat.le_of_ble_eq_true rfl⟩) rfl rfl (Nat.le_of_ble_eq_true rfl) dX6_join_83 (pc' := 86) rfl ?_
            refine x_istore C dX6_join_86 (pc' := 88) rfl (by decide) rfl (lv' := [some (vR a0), some (vI i1), some (vI i2), some (vI i3), some (vR r1), some (vR r3), some (vI v11), some (vI r16), none]) rfl ?_
            refine x_iconst C (v := 0) (by decide) dX6_join_88 (pc' := 89) rfl ?_
            refine x_istore C dX6_join_89 (pc' := 91) rfl (by decide) rfl (lv' := [some (vR a0), some (vI i1), some (vI i2), some (vI i3), some (vR r1), some (vR r3), some (vI v11), some (vI r16), some (vI (0 : Int32))]) rfl ?_
            refine x_keep [true, false, false, true, true, true, true, true, true] rfl ?_
            refine x_more (k' := 2) (n' := 32) (Nat.le_of_ble_eq_true rfl) (Nat.le_of_ble_eq_true rfl) ?_
            exact mX6_join_w91 C hr hlk hnm FUEL a0 i3 r1 r3 v11 r16 (0 : Int32) h17 hf
          ·
            refine x_iconst C (v := -1) (by decide) dX6_join_74 (pc' := 75) rfl ?_
            cases hf
            exact x_iret C hr hlk dX6_join_75
        ·
          refine x_iconst C (v := -1) (by decide) dX6_join_44 (pc' := 45) rfl ?_
          cases hf
          exact x_iret C hr hlk dX6_join_45
-- ===== X6_mirror
theorem lkX6_mirror_0 : Cond.fieldLink RX6 11 "MossRings" "slots" "[LMossRings$Rule;" ∈ wsX6_mirror := by decide +kernel
theorem hinX6_mirror_X6 : ∀ w ∈ u_ws RX6 TX6 14, w ∈ wsX6_mirror := by decide +kernel
theorem lkX6_mirror_1 : Cond.classLink RX6 9 RX1 ∈ wsX6_mirror := by decide +kernel
theorem lkX6_mirror_2 : Cond.instantiable RX1 5 ∈ wsX6_mirror := by decide +kernel
theorem lkX6_mirror_3 : Cond.initialized RX1 ∈ wsX6_mirror := by decide +kernel
theorem hinX6_mirror_X1 : ∀ w ∈ u_ws RX1 TX1 5, w ∈ wsX6_mirror := by decide +kernel
theorem lkX6_mirror_4 : Cond.fieldLink RX6 28 "MossRings" "told" "[I" ∈ wsX6_mirror := by decide +kernel
theorem lkX6_mirror_5 : Cond.methodLink RX6 80 yX1_init ∈ wsX6_mirror := by decide +kernel
theorem lkX6_mirror_6 : Cond.instanceMethod yX1_init ∈ wsX6_mirror := by decide +kernel
def fX6_mirror_b64 (a0 : Nat) (i2 : Int32) (a3 : Nat) (h : Hp) : Option (Int32 × Hp) := (gR h a0 6 0).bind fun v1 => mkO h 1 [vI 0, vI 0, vI 0, vI 0, vR 0] fun q2 h3 => (gI h3 a3 1 0).bind fun v4 => (gI h3 a3 1 1).bind fun v5 => (gR h3 a0 6 8).bind fun v6 => (fX1_init h3 q2 v4 v5 v6).bind fun h8 => (sR h8 v1 i2 q2).bind fun h9 => retZ (1 : Int32) h9
set_option maxHeartbeats 4000000 in
set_option maxRecDepth 100000 in
theorem mX6_mirror_b64 {g : XG} {p : Program} {l : Launch} {e : Env} {s : State} {m : MethodId} {args : Array Value} {below : List Frame} {meth : Method} {c : Code} (C : x_C g p s m args c cX6_mirror RX6 5 wsX6_mirror) (hr : meth.sig.returnType = (some .boolean)) (hlk : meth.locks = false) (hnm : meth.name = yX6_mirror.name) {res : Int32 × Hp} (a0 : Nat) (i2 : Int32) (a3 : Nat) (h : Hp) (hf : fX6_mirror_b64 a0 i2 a3 h = some res) : XW g p l e { frames := 3, cells := 2, slots := 32, locals := 63 } s m args below meth c (MQ below (x_Q g (some (vI res.1)) res.2) args s 2 32 (x_A g)) 5 2 32 h 64 [some (vR a0), none, some (vI i2), some (vR a3), none] [] := by
  unfold fX6_mirror_b64 at hf
  refine x_aload_n C dX6_mirror_64 (pc' := 65) rfl rfl rfl ?_
  refine x_getR C (ci := 6) (kf := 0) rfl (by decide) hinX6_mirror_X6 lkX6_mirror_0 rfl hf dX6_mirror_65 (pc' := 68) rfl (fun v1 _ hf => ?_)
  refine x_iload_n C dX6_mirror_68 (pc' := 69) rfl rfl rfl ?_
  refine x_newO C (k := 1) (n := 27) (ci := 1) (fs := [vI 0, vI 0, vI 0, vI 0, vR 0]) rfl hinX6_mirror_X1 tyX1 tyX1_ok lkX6_mirror_1 lkX6_mirror_2 lkX6_mirror_3 (dfX1 g) hf dX6_mirror_69 (pc' := 72) rfl (fun q2 h3 h4q2 _ _ hf => ?_)
  refine x_dup C rfl dX6_mirror_72 (pc' := 73) rfl ?_
  refine x_aload_n C dX6_mirror_73 (pc' := 74) rfl rfl rfl ?_
  refine x_getIN C (ci := 1) (kf := 0) rfl (by decide) hinX6_mirror_X1 (List.mem_of_getElem? (i := 5) rfl) rfl hf dX6_mirror_74 (pc' := 77) rfl (fun v4 _ hf => ?_)
  refine x_aload_n C dX6_mirror_77 (pc' := 78) rfl rfl rfl ?_
  refine x_getIN C (ci := 1) (kf := 1) rfl (by decide) hinX6_mirror_X1 (List.mem_of_getElem? (i := 7) rfl) rfl hf dX6_mirror_78 (pc' := 81) rfl (fun v5 _ hf => ?_)
  refine x_aload_n C dX6_mirror_81 (pc' := 82) rfl rfl rfl ?_
  refine x_getR C (ci := 6) (kf := 8) rfl (by decide) hinX6_mirror_X6 lkX6_mirror_4 rfl hf dX6_mirror_82 (pc' := 85) rfl (fun v6 _ hf => ?_)
  obtain ⟨h8, hq, hf⟩ := bind_some hf
  refine x_callI C (As := [vI v4, vI v5, vR v6]) (st := [vR q2, vI i2, vR v1]) (r := none) (h' := h8) (mc := 1) (ms := 27) (k := 0) (n := 0) (mX1_init hq) h4q2 (cwI 3 C.1.2.2.2.2 gX6_mirror_X1_init rfl rfl rfl (C.1.2.2.2.2 _ lkX6_mirror_3) (C.1.2.2.2.2 _ lkX6_mirror_5) (C.1.2.2.2.2 _ lkX6_mirror_6) rfl (by decide +kernel) ⟨Nat.le_of_ble_eq_true rfl, Nat.le_of_ble_eq_true rfl⟩) rfl rfl (Nat.le_of_ble_eq_true rfl) dX6_mirror_85 (pc' := 88) rfl ?_
  refine x_aastore C hf dX6_mirror_88 (pc' := 89) rfl (fun h9 _ hf => ?_)
  refine x_iconst C (v := 1) (by decide) dX6_mirror_89 (pc' := 90) rfl ?_
  exact x_zret C hf hr hlk dX6_mirror_90
def fX6_mirror_w22 : Nat → Nat → Int32 → Nat → Int32 → Hp → Option (Int32 × Hp)
  | 0 => fun _ _ _ _ _ => none
  | n + 1 => fun a0 i2 a3 i4 h => (gI h a3 1 2).bind fun v1 => if v1 ≤ i4 then (fX6_mirror_b64 a0 i2 a3 h) else ((gR h a0 6 8).bind fun v2 => (aN h v2).bind fun v3 => if v3 ≤ i4 then (fX6_mirror_b64 a0 i2 a3 h) else ((gR h a0 6 8).bind fun v4 => call (oK h a3 1 (fX1_backward h a3 i4)) fun r5 h6 => call (oK h6 a3 1 (fX1_tells h6 a3 r5)) fun r7 h8 => (sI h8 v4 0 i4 r7).bind fun h9 => (fX6_mirror_w22 n) a0 i2 a3 (i4 + 1) h9))
set_option maxHeartbeats 4000000 in
set_option maxRecDepth 100000 in
theorem mX6_mirror_w22 {g : XG} {p : Program} {l : Launch} {e : Env} {s : State} {m : MethodId} {args : Array Value} {below : List Frame} {meth : Method} {c : Code} (C : x_C g p s m args c cX6_mirror RX6 5 wsX6_mirror) (hr : meth.sig.returnType = (some .boolean)) (hlk : meth.locks = false) (hnm : meth.name = yX6_mirror.name) {res : Int32 × Hp} : ∀ (n : Nat) (a0 : Nat) (i2 : Int32) (a3 : Nat) (i4 : Int32) (h : Hp), fX6_mirror_w22 n a0 i2 a3 i4 h = some res → XW g p l e { frames := 3, cells := 2, slots := 32, locals := 63 } s m args below meth c (MQ below (x_Q g (some (vI res.1)) res.2) args s 2 32 (x_A g)) 5 2 32 h 22 [some (vR a0), none, some (vI i2), some (vR a3), some (vI i4)] [] := by
  intro n
  induction n with
  | zero =>
    intro a0 i2 a3 i4 h hf
    have hf2 : (none : Option (Int32 × Hp)) = some res := hf
    cases hf2
  | succ n ih =>
    intro a0 i2 a3 i4 h hf
    rw [fX6_mirror_w22] at hf
    refine x_iload C dX6_mirror_22 (pc' := 24) rfl rfl ?_
    refine x_aload_n C dX6_mirror_24 (pc' := 25) rfl rfl rfl ?_
    refine x_getIN C (ci := 1) (kf := 2) rfl (by decide) hinX6_mirror_X1 (List.mem_of_getElem? (i := 10) rfl) rfl hf dX6_mirror_25 (pc' := 28) rfl (fun v1 _ hf => ?_)
    refine x_icmp_ge C hf dX6_mirror_28 (pc' := 31) rfl (tgt := 64) (by decide) (fun _ hf => ?_) (fun _ hf => ?_)
    ·
      refine x_keep [true, false, true, true, false] rfl ?_
      refine x_more (k' := 2) (n' := 32) (Nat.le_of_ble_eq_true rfl) (Nat.le_of_ble_eq_true rfl) ?_
      exact mX6_mirror_b64 C hr hlk hnm a0 i2 a3 h hf
    ·
      refine x_iload C dX6_mirror_31 (pc' := 33) rfl rfl ?_
      refine x_aload_n C dX6_mirror_33 (pc' := 34) rfl rfl rfl ?_
      refine x_getR C (ci := 6) (kf := 8) rfl (by decide) hinX6_mirror_X6 lkX6_mirror_4 rfl hf dX6_mirror_34 (pc' := 37) rfl (fun v2 _ hf => ?_)
      refine x_alen C hf dX6_mirror_37 (pc' := 38) rfl (fun v3 _ hf => ?_)
      refine x_icmp_ge C hf dX6_mirror_38 (pc' := 41) rfl (tgt := 64) (by decide) (fun _ hf => ?_) (fun _ hf => ?_)
      ·
        refine x_keep [true, false, true, true, false] rfl ?_
        refine x_more (k' := 2) (n' := 32) (Nat.le_of_ble_eq_true rfl) (Nat.le_of_ble_eq_true rfl) ?_
        exact mX6_mirror_b64 C hr hlk hnm a0 i2 a3 h hf
      ·
        refine x_aload_n C dX6_mirror_41 (pc' := 42) rfl rfl rfl ?_
        refine x_getR C (ci := 6) (kf := 8) rfl (by decide) hinX6_mirror_X6 lkX6_mirror_4 rfl hf dX6_mirror_42 (pc' := 45) rfl (fun v4 _ hf => ?_)
        refine x_iload C dX6_mirror_45 (pc' := 47) rfl rfl ?_
        refine x_aload_n C dX6_mirror_47 (pc' := 48) rfl rfl rfl ?_
        refine x_aload_n C dX6_mirror_48 (pc' := 49) rfl rfl rfl ?_
        refine x_iload C dX6_mirror_49 (pc' := 51) rfl rfl ?_
        obtain ⟨r5, h6, hq, hf⟩ := call_some hf
        obtain ⟨hob, hq⟩ := oK_some hq
        refine x_callV C (As := [vI i4]) (st := [vR a3, vI i4, vR v4]) (r := (some (vI r5))) (h' := h6) (mc := 0) (ms := 0) (k := 2) (n := 32) (mX1_backward hq) hob (ci := 1) rfl (cwV 1 C.1.2.2.2.2 gX6_mirror_X1_backward rfl rfl rfl (by decide +kernel) ⟨Nat.le_of_ble_eq_true rfl, Nat.le_of_ble_eq_true rfl⟩) rfl rfl (Nat.le_of_ble_eq_true rfl) dX6_mirror_51 (pc' := 54) rfl ?_
        obtain ⟨r7, h8, hq, hf⟩ := call_some hf
        obtain ⟨hob, hq⟩ := oK_some hq
        refine x_callV C (As := [vI r5]) (st := [vI i4, vR v4]) (r := (some (vI r7))) (h' := h8) (mc := 0) (ms := 0) (k := 2) (n := 32) (mX1_tells hq) hob (ci := 1) rfl (cwV 1 C.1.2.2.2.2 gX6_mirror_X1_tells rfl rfl rfl (by decide +kernel) ⟨Nat.le_of_ble_eq_true rfl, Nat.le_of_ble_eq_true rfl⟩) rfl rfl (Nat.le_of_ble_eq_true rfl) dX6_mirror_54 (pc' := 57) rfl ?_
        refine x_iastore C hf dX6_mirror_57 (pc' := 58) rfl (fun h9 _ hf => ?_)
        refine x_iinc C dX6_mirror_58 (pc' := 61) rfl rfl (v := (i4 + 1)) rfl (by decide) rfl (lv' := [some (vR a0), none, some (vI i2), some (vR a3), some (vI (i4 + 1))]) rfl ?_
        refine x_goto C dX6_mirror_61 (tgt := 22) (by decide) ?_
        exact ih a0 i2 a3 (i4 + 1) h9 hf
def fX6_mirror (h : Hp) (a0 : Nat) (i1 : Int32) (i2 : Int32) : Option (Int32 × Hp) := call (oK h a0 6 (fX6_ruleIn h a0 i1)) fun r1 h2 => if r1 = 0 then (retZ (0 : Int32) h2) else (call (fX6_isSlot h2 i2) fun r3 h4 => if r3 = 0 then (retZ (0 : Int32) h4) else (fX6_mirror_w22 FUEL a0 i2 r1 (0 : Int32) h4))
set_option maxHeartbeats 4000000 in
set_option maxRecDepth 100000 in
theorem mX6_mirror {l : Launch} {g : XG} {h : Hp} {a0 : Nat} {i1 : Int32} {i2 : Int32} {res : Int32 × Hp} (hf : fX6_mirror h a0 i1 i2 = some res) : XM l g yX6_mirror wsX6_mirror 3 63 2 32 [vR a0, vI i1, vI i2] h (some (vI res.1)) res.2 := by
  refine x_start (cc := cX6_mirror) (maxL := 5) (ret := (some .boolean)) (by decide) rfl (Nat.le_of_ble_eq_true rfl) (lv := [some (vR a0), some (vI i1), some (vI i2), none, none]) rfl ?_
  intro p e s m args below meth c C hr hlk hnm
  unfold fX6_mirror at hf
  refine x_aload_n C dX6_mirror_0 (pc' := 1) rfl rfl rfl ?_
  refine x_iload_n C dX6_mirror_1 (pc' := 2) rfl rfl rfl ?_
  obtain ⟨r1, h2, hq, hf⟩ := call_some hf
  obtain ⟨hob, hq⟩ := oK_some hq
  refine x_callV C (As := [vI i1]) (st := []) (r := (some (vR r1))) (h' := h2) (mc := 0) (ms := 0) (k := 2) (n := 32) (mX6_ruleIn hq) hob (ci := 6) rfl (cwV 1 C.1.2.2.2.2 gX6_mirror_X6_ruleIn rfl rfl rfl (by decide +kernel) ⟨Nat.le_of_ble_eq_true rfl, Nat.le_of_ble_eq_true rfl⟩) rfl rfl (Nat.le_of_ble_eq_true rfl) dX6_mirror_2 (pc' := 5) rfl ?_
  refine x_astore_n C dX6_mirror_5 (pc' := 6) rfl rfl (by decide) rfl (lv' := [some (vR a0), some (vI i1), some (vI i2), some (vR r1), none]) rfl ?_
  refine x_aload_n C dX6_mirror_6 (pc' := 7) rfl rfl rfl ?_
  refine x_ifnull C hf dX6_mirror_7 (pc' := 10) rfl (tgt := 17) (by decide) (fun _ hf => ?_) (fun _ hf => ?_)
  ·
    refine x_iconst C (v := 0) (by decide) dX6_mirror_17 (pc' := 18) rfl ?_
    exact x_zret C hf hr hlk dX6_mirror_18
  ·
    refine x_iload_n C dX6_mirror_10 (pc' := 11) rfl rfl rfl ?_
    obtain ⟨r3, h4, hq, hf⟩ := call_some hf
    refine x_callS C (As := [vI i2]) (st := []) (r := (some (vI r3))) (h' := h4) (mc := 0) (ms := 0) (k := 2) (n := 32) (mX6_isSlot hq) (va_cwS 1 C.1.2.2.2.2 gX6_mirror_X6_isSlot rfl rfl rfl (by decide +kernel) ⟨Nat.le_of_ble_eq_true rfl, Nat.le_of_ble_eq_true rfl⟩) rfl rfl (Nat.le_of_ble_eq_true rfl) dX6_mirror_11 (pc' := 14) rfl ?_
    refine x_if_ne C hf dX6_mirror_14 (pc' := 17) rfl (tgt := 19) (by decide) (fun _ hf => ?_) (fun _ hf => ?_)
    ·
      refine x_iconst C (v := 0) (by decide) dX6_mirror_17 (pc' := 18) rfl ?_
      exact x_zret C hf hr hlk dX6_mirror_18
    ·
      refine x_iconst C (v := 0) (by decide) dX6_mirror_19 (pc' := 20) rfl ?_
      refine x_istore C dX6_mirror_20 (pc' := 22) rfl (by decide) rfl (lv' := [some (vR a0), some (vI i1), some (vI i2), some (vR r1), some (vI (0 : Int32))]) rfl ?_
      refine x_keep [true, false, true, true, true] rfl ?_
      refine x_more (k' := 2) (n' := 32) (Nat.le_of_ble_eq_true rfl) (Nat.le_of_ble_eq_true rfl) ?_
      exact mX6_mirror_w22 C hr hlk hnm FUEL a0 i2 r1 (0 : Int32) h4 hf
-- ===== X6_rename
theorem lkX6_rename_0 : Cond.fieldLink RX6 11 "MossRings" "slots" "[LMossRings$Rule;" ∈ wsX6_rename := by decide +kernel
theorem hinX6_rename_X6 : ∀ w ∈ u_ws RX6 TX6 14, w ∈ wsX6_rename := by decide +kernel
theorem lkX6_rename_1 : Cond.classLink RX6 9 RX1 ∈ wsX6_rename := by decide +kernel
theorem lkX6_rename_2 : Cond.instantiable RX1 5 ∈ wsX6_rename := by decide +kernel
theorem lkX6_rename_3 : Cond.initialized RX1 ∈ wsX6_rename := by decide +kernel
theorem hinX6_rename_X1 : ∀ w ∈ u_ws RX1 TX1 5, w ∈ wsX6_rename := by decide +kernel
theorem lkX6_rename_4 : Cond.fieldLink RX6 28 "MossRings" "told" "[I" ∈ wsX6_rename := by decide +kernel
theorem lkX6_rename_5 : Cond.methodLink RX6 80 yX1_init ∈ wsX6_rename := by decide +kernel
theorem lkX6_rename_6 : Cond.instanceMethod yX1_init ∈ wsX6_rename := by decide +kernel
theorem lkX6_rename_7 : Cond.fieldLink RX6 15 "MossRings" "tape" "[I" ∈ wsX6_rename := by decide +kernel
def fX6_rename_b100 (a0 : Nat) (i2 : Int32) (a4 : Nat) (h : Hp) : Option (Int32 × Hp) := (gR h a0 6 0).bind fun v1 => mkO h 1 [vI 0, vI 0, vI 0, vI 0, vR 0] fun q2 h3 => (gI h3 a4 1 0).bind fun v4 => (gI h3 a4 1 1).bind fun v5 => (gR h3 a0 6 8).bind fun v6 => (fX1_init h3 q2 v4 v5 v6).bind fun h8 => (sR h8 v1 i2 q2).bind fun h9 => retZ (1 : Int32) h9
set_option maxHeartbeats 4000000 in
set_option maxRecDepth 100000 in
theorem mX6_rename_b100 {g : XG} {p : Program} {l : Launch} {e : Env} {s : State} {m : MethodId} {args : Array Value} {below : List Frame} {meth : Method} {c : Code} (C : x_C g p s m args c cX6_rename RX6 6 wsX6_rename) (hr : meth.sig.returnType = (some .boolean)) (hlk : meth.locks = false) (hnm : meth.name = yX6_rename.name) {res : Int32 × Hp} (a0 : Nat) (i2 : Int32) (a4 : Nat) (h : Hp) (hf : fX6_rename_b100 a0 i2 a4 h = some res) : XW g p l e { frames := 3, cells := 2, slots := 32, locals := 63 } s m args below meth c (MQ below (x_Q g (some (vI res.1)) res.2) args s 2 32 (x_A g)) 6 2 32 h 100 [some (vR a0), none, some (vI i2), none, some (vR a4), none] [] := by
  unfold fX6_rename_b100 at hf
  refine x_aload_n C dX6_rename_100 (pc' := 101) rfl rfl rfl ?_
  refine x_getR C (ci := 6) (kf := 0) rfl (by decide) hinX6_rename_X6 lkX6_rename_0 rfl hf dX6_rename_101 (pc' := 104) rfl (fun v1 _ hf => ?_)
  refine x_iload_n C dX6_rename_104 (pc' := 105) rfl rfl rfl ?_
  refine x_newO C (k := 1) (n := 27) (ci := 1) (fs := [vI 0, vI 0, vI 0, vI 0, vR 0]) rfl hinX6_rename_X1 tyX1 tyX1_ok lkX6_rename_1 lkX6_rename_2 lkX6_rename_3 (dfX1 g) hf dX6_rename_105 (pc' := 108) rfl (fun q2 h3 h4q2 _ _ hf => ?_)
  refine x_dup C rfl dX6_rename_108 (pc' := 109) rfl ?_
  refine x_aload C dX6_rename_109 (pc' := 111) rfl rfl ?_
  refine x_getIN C (ci := 1) (kf := 0) rfl (by decide) hinX6_rename_X1 (List.mem_of_getElem? (i := 5) rfl) rfl hf dX6_rename_111 (pc' := 114) rfl (fun v4 _ hf => ?_)
  refine x_aload C dX6_rename_114 (pc' := 116) rfl rfl ?_
  refine x_getIN C (ci := 1) (kf := 1) rfl (by decide) hinX6_rename_X1 (List.mem_of_getElem? (i := 7) rfl) rfl hf dX6_rename_116 (pc' := 119) rfl (fun v5 _ hf => ?_)
  refine x_aload_n C dX6_rename_119 (pc' := 120) rfl rfl rfl ?_
  refine x_getR C (ci := 6) (kf := 8) rfl (by decide) hinX6_rename_X6 lkX6_rename_4 rfl hf dX6_rename_120 (pc' := 123) rfl (fun v6 _ hf => ?_)
  obtain ⟨h8, hq, hf⟩ := bind_some hf
  refine x_callI C (As := [vI v4, vI v5, vR v6]) (st := [vR q2, vI i2, vR v1]) (r := none) (h' := h8) (mc := 1) (ms := 27) (k := 0) (n := 0) (mX1_init hq) h4q2 (cwI 3 C.1.2.2.2.2 gX6_rename_X1_init rfl rfl rfl (C.1.2.2.2.2 _ lkX6_rename_3) (C.1.2.2.2.2 _ lkX6_rename_5) (C.1.2.2.2.2 _ lkX6_rename_6) rfl (by decide +kernel) ⟨Nat.le_of_ble_eq_true rfl, Nat.le_of_ble_eq_true rfl⟩) rfl rfl (Nat.le_of_ble_eq_true rfl) dX6_rename_123 (pc' := 126) rfl ?_
  refine x_aastore C hf dX6_rename_126 (pc' := 127) rfl (fun h9 _ hf => ?_)
  refine x_iconst C (v := 1) (by decide) dX6_rename_127 (pc' := 128) rfl ?_
  exact x_zret C hf hr hlk dX6_rename_128
def fX6_rename_w46 : Nat → Nat → Int32 → Int32 → Nat → Int32 → Hp → Option (Int32 × Hp)
  | 0 => fun _ _ _ _ _ _ => none
  | n + 1 => fun a0 i2 i3 a4 i5 h => (gI h a4 1 2).bind fun v1 => if v1 ≤ i5 then (fX6_rename_b100 a0 i2 a4 h) else ((gR h a0 6 8).bind fun v2 => (aN h v2).bind fun v3 => if v3 ≤ i5 then (fX6_rename_b100 a0 i2 a4 h) else ((gR h a0 6 8).bind fun v4 => (gR h a0 6 1).bind fun v5 => call (oK h a4 1 (fX1_translated h a4 i5 v5)) fun r6 h7 => call (oK h7 a4 1 (fX1_tells h7 a4 r6)) fun r8 h9 => call (oK h9 a0 6 (fX6_placeOnTape h9 a0 r8 i3)) fun r10 h11 => (sI h11 v4 0 i5 r10).bind fun h12 => (fX6_rename_w46 n) a0 i2 i3 a4 (i5 + 1) h12))
set_option maxHeartbeats 4000000 in
set_option maxRecDepth 100000 in
theorem mX6_rename_w46 {g : XG} {p : Program} {l : Launch} {e : Env} {s : State} {m : MethodId} {args : Array Value} {below : List Frame} {meth : Method} {c : Code} (C : x_C g p s m args c cX6_rename RX6 6 wsX6_rename) (hr : meth.sig.returnType = (some .boolean)) (hlk : meth.locks = false) (hnm : meth.name = yX6_rename.name) {res : Int32 × Hp} : ∀ (n : Nat) (a0 : Nat) (i2 : Int32) (i3 : Int32) (a4 : Nat) (i5 : Int32) (h : Hp), fX6_rename_w46 n a0 i2 i3 a4 i5 h = some res → XW g p l e { frames := 3, cells := 2, slots := 32, locals := 63 } s m args below meth c (MQ below (x_Q g (some (vI res.1)) res.2) args s 2 32 (x_A g)) 6 2 32 h 46 [some (vR a0), none, some (vI i2), some (vI i3), some (vR a4), some (vI i5)] [] := by
  intro n
  induction n with
  | zero =>
    intro a0 i2 i3 a4 i5 h hf
    have hf2 : (none : Option (Int32 × Hp)) = some res := hf
    cases hf2
  | succ n ih =>
    intro a0 i2 i3 a4 i5 h hf
    rw [fX6_rename_w46] at hf
    refine x_iload C dX6_rename_46 (pc' := 48) rfl rfl ?_
    refine x_aload C dX6_rename_48 (pc' := 50) rfl rfl ?_
    refine x_getIN C (ci := 1) (kf := 2) rfl (by decide) hinX6_rename_X1 (List.mem_of_getElem? (i := 10) rfl) rfl hf dX6_rename_50 (pc' := 53) rfl (fun v1 _ hf => ?_)
    refine x_icmp_ge C hf dX6_rename_53 (pc' := 56) rfl (tgt := 100) (by decide) (fun _ hf => ?_) (fun _ hf => ?_)
    ·
      refine x_keep [true, false, true, false, true, false] rfl ?_
      refine x_more (k' := 2) (n' := 32) (Nat.le_of_ble_eq_true rfl) (Nat.le_of_ble_eq_true rfl) ?_
      exact mX6_rename_b100 C hr hlk hnm a0 i2 a4 h hf
    ·
      refine x_iload C dX6_rename_56 (pc' := 58) rfl rfl ?_
      refine x_aload_n C dX6_rename_58 (pc' := 59) rfl rfl rfl ?_
      refine x_getR C (ci := 6) (kf := 8) rfl (by decide) hinX6_rename_X6 lkX6_rename_4 rfl hf dX6_rename_59 (pc' := 62) rfl (fun v2 _ hf => ?_)
      refine x_alen C hf dX6_rename_62 (pc' := 63) rfl (fun v3 _ hf => ?_)
      refine x_icmp_ge C hf dX6_rename_63 (pc' := 66) rfl (tgt := 100) (by decide) (fun _ hf => ?_) (fun _ hf => ?_)
      ·
        refine x_keep [true, false, true, false, true, false] rfl ?_
        refine x_more (k' := 2) (n' := 32) (Nat.le_of_ble_eq_true rfl) (Nat.le_of_ble_eq_true rfl) ?_
        exact mX6_rename_b100 C hr hlk hnm a0 i2 a4 h hf
      ·
        refine x_aload_n C dX6_rename_66 (pc' := 67) rfl rfl rfl ?_
        refine x_getR C (ci := 6) (kf := 8) rfl (by decide) hinX6_rename_X6 lkX6_rename_4 rfl hf dX6_rename_67 (pc' := 70) rfl (fun v4 _ hf => ?_)
        refine x_iload C dX6_rename_70 (pc' := 72) rfl rfl ?_
        refine x_aload_n C dX6_rename_72 (pc' := 73) rfl rfl rfl ?_
        refine x_aload C dX6_rename_73 (pc' := 75) rfl rfl ?_
        refine x_aload C dX6_rename_75 (pc' := 77) rfl rfl ?_
        refine x_iload C dX6_rename_77 (pc' := 79) rfl rfl ?_
        refine x_aload_n C dX6_rename_79 (pc' := 80) rfl rfl rfl ?_
        refine x_getR C (ci := 6) (kf := 1) rfl (by decide) hinX6_rename_X6 lkX6_rename_7 rfl hf dX6_rename_80 (pc' := 83) rfl (fun v5 _ hf => ?_)
        obtain ⟨r6, h7, hq, hf⟩ := call_some hf
        obtain ⟨hob, hq⟩ := oK_some hq
        refine x_callV C (As := [vI i5, vR v5]) (st := [vR a4, vR a0, vI i5, vR v4]) (r := (some (vI r6))) (h' := h7) (mc := 0) (ms := 0) (k := 2) (n := 32) (mX1_translated hq) hob (ci := 1) rfl (cwV 2 C.1.2.2.2.2 gX6_rename_X1_translated rfl rfl rfl (by decide +kernel) ⟨Nat.le_of_ble_eq_true rfl, Nat.le_of_ble_eq_true rfl⟩) rfl rfl (Nat.le_of_ble_eq_true rfl) dX6_rename_83 (pc' := 86) rfl ?_
        obtain ⟨r8, h9, hq, hf⟩ := call_some hf
        obtain ⟨hob, hq⟩ := oK_some hq
        refine x_callV C (As := [vI r6]) (st := [vR a0, vI i5, vR v4]) (r := (some (vI r8))) (h' := h9) (mc := 0) (ms := 0) (k := 2) (n := 32) (mX1_tells hq) hob (ci := 1) rfl (cwV 1 C.1.2.2.2.2 gX6_rename_X1_tells rfl rfl rfl (by decide +kernel) ⟨Nat.le_of_ble_eq_true rfl, Nat.le_of_ble_eq_true rfl⟩) rfl rfl (Nat.le_of_ble_eq_true rfl) dX6_rename_86 (pc' := 89) rfl ?_
        refine x_iload_n C dX6_rename_89 (pc' := 90) rfl rfl rfl ?_
        obtain ⟨r10, h11, hq, hf⟩ := call_some hf
        obtain ⟨hob, hq⟩ := oK_some hq
        refine x_callV C (As := [vI r8, vI i3]) (st := [vI i5, vR v4]) (r := (some (vI r10))) (h' := h11) (mc := 0) (ms := 0) (k := 2) (n := 32) (mX6_placeOnTape hq) hob (ci := 6) rfl (cwV 2 C.1.2.2.2.2 gX6_rename_X6_placeOnTape rfl rfl rfl (by decide +kernel) ⟨Nat.le_of_ble_eq_true rfl, Nat.le_of_ble_eq_true rfl⟩) rfl rfl (Nat.le_of_ble_eq_true rfl) dX6_rename_90 (pc' := 93) rfl ?_
        refine x_iastore C hf dX6_rename_93 (pc' := 94) rfl (fun h12 _ hf => ?_)
        refine x_iinc C dX6_rename_94 (pc' := 97) rfl rfl (v := (i5 + 1)) rfl (by decide) rfl (lv' := [some (vR a0), none, some (vI i2), some (vI i3), some (vR a4), some (vI (i5 + 1))]) rfl ?_
        refine x_goto C dX6_rename_97 (tgt := 46) (by decide) ?_
        exact ih a0 i2 i3 a4 (i5 + 1) h12 hf
def fX6_rename (h : Hp) (a0 : Nat) (i1 : Int32) (i2 : Int32) : Option (Int32 × Hp) := call (oK h a0 6 (fX6_takeTape h a0)) fun r1 h2 => call (oK h2 a0 6 (fX6_ruleIn h2 a0 i1)) fun r3 h4 => if r3 = 0 then (retZ (0 : Int32) h4) else (call (fX6_isSlot h4 i2) fun r5 h6 => if r5 = 0 then (retZ (0 : Int32) h6) else ((gI h6 r3 1 0).bind fun v7 => if r1 = v7 then (call (oK h6 a0 6 (fX6_isEachOnce h6 a0 r1)) fun r8 h9 => if r8 = 0 then (retZ (0 : Int32) h9) else (fX6_rename_w46 FUEL a0 i2 r1 r3 (0 : Int32) h9)) else (retZ (0 : Int32) h6)))
set_option maxHeartbeats 4000000 in
set_option maxRecDepth 100000 in
theorem mX6_rename {l : Launch} {g : XG} {h : Hp} {a0 : Nat} {i1 : Int32} {i2 : Int32} {res : Int32 × Hp} (hf : fX6_rename h a0 i1 i2 = some res) : XM l g yX6_rename wsX6_rename 3 63 2 32 [vR a0, vI i1, vI i2] h (some (vI res.1)) res.2 := by
  refine x_start (cc := cX6_rename) (maxL := 6) (ret := (some .boolean)) (by decide) rfl (Nat.le_of_ble_eq_true rfl) (lv := [some (vR a0), some (vI i1), some (vI i2), none, none, none]) rfl ?_
  intro p e s m args below meth c C hr hlk hnm
  unfold fX6_rename at hf
  refine x_aload_n C dX6_rename_0 (pc' := 1) rfl rfl rfl ?_
  obtain ⟨r1, h2, hq, hf⟩ := call_some hf
  obtain ⟨hob, hq⟩ := oK_some hq
  refine x_callV C (As := []) (st := []) (r := (some (vI r1))) (h' := h2) (mc := 0) (ms := 0) (k := 2) (n := 32) (mX6_takeTape hq) hob (ci := 6) rfl (cwV 0 C.1.2.2.2.2 gX6_rename_X6_takeTape rfl rfl rfl (by decide +kernel) ⟨Nat.le_of_ble_eq_true rfl, Nat.le_of_ble_eq_true rfl⟩) rfl rfl (Nat.le_of_ble_eq_true rfl) dX6_rename_1 (pc' := 4) rfl ?_
  refine x_istore_n C dX6_rename_4 (pc' := 5) rfl rfl (by decide) rfl (lv' := [some (vR a0), some (vI i1), some (vI i2), some (vI r1), none, none]) rfl ?_
  refine x_aload_n C dX6_rename_5 (pc' := 6) rfl rfl rfl ?_
  refine x_iload_n C dX6_rename_6 (pc' := 7) rfl rfl rfl ?_
  obtain ⟨r3, h4, hq, hf⟩ := call_some hf
  obtain ⟨hob, hq⟩ := oK_some hq
  refine x_callV C (As := [vI i1]) (st := []) (r := (some (vR r3))) (h' := h4) (mc := 0) (ms := 0) (k := 2) (n := 32) (mX6_ruleIn hq) hob (ci := 6) rfl (cwV 1 C.1.2.2.2.2 gX6_rename_X6_ruleIn rfl rfl rfl (by decide +kernel) ⟨Nat.le_of_ble_eq_true rfl, Nat.le_of_ble_eq_true rfl⟩) rfl rfl (Nat.le_of_ble_eq_true rfl) dX6_rename_7 (pc' := 10) rfl ?_
  refine x_astore C dX6_rename_10 (pc' := 12) rfl (by decide) rfl (lv' := [some (vR a0), some (vI i1), some (vI i2), some (vI r1), some (vR r3), none]) rfl ?_
  refine x_aload C dX6_rename_12 (pc' := 14) rfl rfl ?_
  refine x_ifnull C hf dX6_rename_14 (pc' := 17) rfl (tgt := 41) (by decide) (fun _ hf => ?_) (fun _ hf => ?_)
  ·
    refine x_iconst C (v := 0) (by decide) dX6_rename_41 (pc' := 42) rfl ?_
    exact x_zret C hf hr hlk dX6_rename_42
  ·
    refine x_iload_n C dX6_rename_17 (pc' := 18) rfl rfl rfl ?_
    obtain ⟨r5, h6, hq, hf⟩ := call_some hf
    refine x_callS C (As := [vI i2]) (st := []) (r := (some (vI r5))) (h' := h6) (mc := 0) (ms := 0) (k := 2) (n := 32) (mX6_isSlot hq) (va_cwS 1 C.1.2.2.2.2 gX6_rename_X6_isSlot rfl rfl rfl (by decide +kernel) ⟨Nat.le_of_ble_eq_true rfl, Nat.le_of_ble_eq_true rfl⟩) rfl rfl (Nat.le_of_ble_eq_true rfl) dX6_rename_18 (pc' := 21) rfl ?_
    refine x_if_eq C hf dX6_rename_21 (pc' := 24) rfl (tgt := 41) (by decide) (fun _ hf => ?_) (fun _ hf => ?_)
    ·
      refine x_iconst C (v := 0) (by decide) dX6_rename_41 (pc' := 42) rfl ?_
      exact x_zret C hf hr hlk dX6_rename_42
    ·
      refine x_iload_n C dX6_rename_24 (pc' := 25) rfl rfl rfl ?_
      refine x_aload C dX6_rename_25 (pc' := 27) rfl rfl ?_
      refine x_getIN C (ci := 1) (kf := 0) rfl (by decide) hinX6_rename_X1 (List.mem_of_getElem? (i := 5) rfl) rfl hf dX6_rename_27 (pc' := 30) rfl (fun v7 _ hf => ?_)
      refine x_icmp_ne C hf dX6_rename_30 (pc' := 33) rfl (tgt := 41) (by decide) (fun _ hf => ?_) (fun _ hf => ?_)
      ·
        refine x_aload_n C dX6_rename_33 (pc' := 34) rfl rfl rfl ?_
        refine x_iload_n C dX6_rename_34 (pc' := 35) rfl rfl rfl ?_
        obtain ⟨r8, h9, hq, hf⟩ := call_some hf
        obtain ⟨hob, hq⟩ := oK_some hq
        refine x_callV C (As := [vI r1]) (st := []) (r := (some (vI r8))) (h' := h9) (mc := 0) (ms := 0) (k := 2) (n := 32) (mX6_isEachOnce hq) hob (ci := 6) rfl (cwV 1 C.1.2.2.2.2 gX6_rename_X6_isEachOnce rfl rfl rfl (by decide +kernel) ⟨Nat.le_of_ble_eq_true rfl, Nat.le_of_ble_eq_true rfl⟩) rfl rfl (Nat.le_of_ble_eq_true rfl) dX6_rename_35 (pc' := 38) rfl ?_
        refine x_if_ne C hf dX6_rename_38 (pc' := 41) rfl (tgt := 43) (by decide) (fun _ hf => ?_) (fun _ hf => ?_)
        ·
          refine x_iconst C (v := 0) (by decide) dX6_rename_41 (pc' := 42) rfl ?_
          exact x_zret C hf hr hlk dX6_rename_42
        ·
          refine x_iconst C (v := 0) (by decide) dX6_rename_43 (pc' := 44) rfl ?_
          refine x_istore C dX6_rename_44 (pc' := 46) rfl (by decide) rfl (lv' := [some (vR a0), some (vI i1), some (vI i2), some (vI r1), some (vR r3), some (vI (0 : Int32))]) rfl ?_
          refine x_keep [true, false, true, true, true, true] rfl ?_
          refine x_more (k' := 2) (n' := 32) (Nat.le_of_ble_eq_true rfl) (Nat.le_of_ble_eq_true rfl) ?_
          exact mX6_rename_w46 C hr hlk hnm FUEL a0 i2 r1 r3 (0 : Int32) h9 hf
      ·
        refine x_iconst C (v := 0) (by decide) dX6_rename_41 (pc' := 42) rfl ?_
        exact x_zret C hf hr hlk dX6_rename_42
-- ===== X6_trim
theorem lkX6_trim_0 : Cond.fieldLink RX6 11 "MossRings" "slots" "[LMossRings$Rule;" ∈ wsX6_trim := by decide +kernel
theorem hinX6_trim_X6 : ∀ w ∈ u_ws RX6 TX6 14, w ∈ wsX6_trim := by decide +kernel
theorem hinX6_trim_X1 : ∀ w ∈ u_ws RX1 TX1 5, w ∈ wsX6_trim := by decide +kernel
def fX6_trim_b85 (a0 : Nat) (i2 : Int32) (a3 : Nat) (i4 : Int32) (h : Hp) : Option (Int32 × Hp) := (gR h a0 6 0).bind fun v1 => (sR h v1 i2 a3).bind fun h2 => some (i4, h2)
set_option maxHeartbeats 4000000 in
set_option maxRecDepth 100000 in
theorem mX6_trim_b85 {g : XG} {p : Program} {l : Launch} {e : Env} {s : State} {m : MethodId} {args : Array Value} {below : List Frame} {meth : Method} {c : Code} (C : x_C g p s m args c cX6_trim RX6 6 wsX6_trim) (hr : meth.sig.returnType = (some .int)) (hlk : meth.locks = false) (hnm : meth.name = yX6_trim.name) {res : Int32 × Hp} (a0 : Nat) (i2 : Int32) (a3 : Nat) (i4 : Int32) (h : Hp) (hf : fX6_trim_b85 a0 i2 a3 i4 h = some res) : XW g p l e { frames := 4, cells := 20, slots := 364, locals := 85 } s m args below meth c (MQ below (x_Q g (some (vI res.1)) res.2) args s 20 364 (x_A g)) 6 0 0 h 85 [some (vR a0), none, some (vI i2), some (vR a3), some (vI i4), none] [] := by
  unfold fX6_trim_b85 at hf
  refine x_aload_n C dX6_trim_85 (pc' := 86) rfl rfl rfl ?_
  refine x_getR C (ci := 6) (kf := 0) rfl (by decide) hinX6_trim_X6 lkX6_trim_0 rfl hf dX6_trim_86 (pc' := 89) rfl (fun v1 _ hf => ?_)
  refine x_iload_n C dX6_trim_89 (pc' := 90) rfl rfl rfl ?_
  refine x_aload_n C dX6_trim_90 (pc' := 91) rfl rfl rfl ?_
  refine x_aastore C hf dX6_trim_91 (pc' := 92) rfl (fun h2 _ hf => ?_)
  refine x_iload C dX6_trim_92 (pc' := 94) rfl rfl ?_
  cases hf
  exact x_iret C hr hlk dX6_trim_94
def fX6_trim_w61 : Nat → Nat → Int32 → Nat → Int32 → Int32 → Hp → Option (Int32 × Hp)
  | 0 => fun _ _ _ _ _ _ => none
  | n + 1 => fun a0 i2 a3 i4 i5 h => if i5 ≤ (1 : Int32) then (fX6_trim_b85 a0 i2 a3 i4 h) else (call (oK h a3 1 (fX1_idlesBehind h a3)) fun r1 h2 => if r1 = 0 then (fX6_trim_b85 a0 i2 a3 i4 h2) else (call (oK h2 a3 1 (fX1_withoutBehind h2 a3)) fun r3 h4 => (fX6_trim_w61 n) a0 i2 r3 i4 (i5 + (-1)) h4))
set_option maxHeartbeats 4000000 in
set_option maxRecDepth 100000 in
theorem mX6_trim_w61 {g : XG} {p : Program} {l : Launch} {e : Env} {s : State} {m : MethodId} {args : Array Value} {below : List Frame} {meth : Method} {c : Code} (C : x_C g p s m args c cX6_trim RX6 6 wsX6_trim) (hr : meth.sig.returnType = (some .int)) (hlk : meth.locks = false) (hnm : meth.name = yX6_trim.name) {res : Int32 × Hp} : ∀ (n : Nat) (a0 : Nat) (i2 : Int32) (a3 : Nat) (i4 : Int32) (i5 : Int32) (h : Hp), fX6_trim_w61 n a0 i2 a3 i4 i5 h = some res → XW g p l e { frames := 4, cells := 20, slots := 364, locals := 85 } s m args below meth c (MQ below (x_Q g (some (vI res.1)) res.2) args s 20 364 (x_A g)) 6 (n * 3 + 0) (n * 59 + 0) h 61 [some (vR a0), none, some (vI i2), some (vR a3), some (vI i4), some (vI i5)] [] := by
  intro n
  induction n with
  | zero =>
    intro a0 i2 a3 i4 i5 h hf
    have hf2 : (none : Option (Int32 × Hp)) = some res := hf
    cases hf2
  | succ n ih =>
    intro a0 i2 a3 i4 i5 h hf
    rw [fX6_trim_w61] at hf
    refine x_more (k' := (n * 3 + 0 + 3)) (n' := (n * 59 + 0 + 59)) (by omega) (by omega) ?_
    refine x_iload C dX6_trim_61 (pc' := 63) rfl rfl ?_
    refine x_iconst C (v := 1) (by decide) dX6_trim_63 (pc' := 64) rfl ?_
    refine x_icmp_le C hf dX6_trim_64 (pc' := 67) rfl (tgt := 85) (by decide) (fun _ hf => ?_) (fun _ hf => ?_)
    ·
      refine x_keep [true, false, true, true, true, false] rfl ?_
      refine x_more (k' := 0) (n' := 0) (by omega) (by omega) ?_
      exact mX6_trim_b85 C hr hlk hnm a0 i2 a3 i4 h hf
    ·
      refine x_aload_n C dX6_trim_67 (pc' := 68) rfl rfl rfl ?_
      obtain ⟨r1, h2, hq, hf⟩ := call_some hf
      obtain ⟨hob, hq⟩ := oK_some hq
      refine x_callV C (As := []) (st := []) (r := (some (vI r1))) (h' := h2) (mc := 0) (ms := 0) (k := (n * 3 + 0 + 3)) (n := (n * 59 + 0 + 59)) (mX1_idlesBehind hq) hob (ci := 1) rfl (cwV 0 C.1.2.2.2.2 gX6_trim_X1_idlesBehind rfl rfl rfl (by decide +kernel) ⟨Nat.le_of_ble_eq_true rfl, Nat.le_of_ble_eq_true rfl⟩) rfl rfl (Nat.le_of_ble_eq_true rfl) dX6_trim_68 (pc' := 71) rfl ?_
      refine x_if_eq C hf dX6_trim_71 (pc' := 74) rfl (tgt := 85) (by decide) (fun _ hf => ?_) (fun _ hf => ?_)
      ·
        refine x_keep [true, false, true, true, true, false] rfl ?_
        refine x_more (k' := 0) (n' := 0) (by omega) (by omega) ?_
        exact mX6_trim_b85 C hr hlk hnm a0 i2 a3 i4 h2 hf
      ·
        refine x_aload_n C dX6_trim_74 (pc' := 75) rfl rfl rfl ?_
        obtain ⟨r3, h4, hq, hf⟩ := call_some hf
        obtain ⟨hob, hq⟩ := oK_some hq
        refine x_callV C (As := []) (st := []) (r := (some (vR r3))) (h' := h4) (mc := 3) (ms := 59) (k := n * 3 + 0) (n := n * 59 + 0) (mX1_withoutBehind hq) hob (ci := 1) rfl (cwV 0 C.1.2.2.2.2 gX6_trim_X1_withoutBehind rfl rfl rfl (by decide +kernel) ⟨Nat.le_of_ble_eq_true rfl, Nat.le_of_ble_eq_true rfl⟩) rfl rfl (Nat.le_of_ble_eq_true rfl) dX6_trim_75 (pc' := 78) rfl ?_
        refine x_astore_n C dX6_trim_78 (pc' := 79) rfl rfl (by decide) rfl (lv' := [some (vR a0), none, some (vI i2), some (vR r3), some (vI i4), some (vI i5)]) rfl ?_
        refine x_iinc C dX6_trim_79 (pc' := 82) rfl rfl (v := (i5 + (-1))) rfl (by decide) rfl (lv' := [some (vR a0), none, some (vI i2), some (vR r3), some (vI i4), some (vI (i5 + (-1)))]) rfl ?_
        refine x_goto C dX6_trim_82 (tgt := 61) (by decide) ?_
        exact ih a0 i2 r3 i4 (i5 + (-1)) h4 hf
def fX6_trim_b55 (a0 : Nat) (i2 : Int32) (a3 : Nat) (i4 : Int32) (h : Hp) : Option (Int32 × Hp) := (gI h a3 1 1).bind fun v1 => fX6_trim_w61 4 a0 i2 a3 i4 v1 h
set_option maxHeartbeats 4000000 in
set_option maxRecDepth 100000 in
theorem mX6_trim_b55 {g : XG} {p : Program} {l : Launch} {e : Env} {s : State} {m : MethodId} {args : Array Value} {below : List Frame} {meth : Method} {c : Code} (C : x_C g p s m args c cX6_trim RX6 6 wsX6_trim) (hr : meth.sig.returnType = (some .int)) (hlk : meth.locks = false) (hnm : meth.name = yX6_trim.name) {res : Int32 × Hp} (a0 : Nat) (i2 : Int32) (a3 : Nat) (i4 : Int32) (h : Hp) (hf : fX6_trim_b55 a0 i2 a3 i4 h = some res) : XW g p l e { frames := 4, cells := 20, slots := 364, locals := 85 } s m args below meth c (MQ below (x_Q g (some (vI res.1)) res.2) args s 20 364 (x_A g)) 6 12 236 h 55 [some (vR a0), none, some (vI i2), some (vR a3), some (vI i4), none] [] := by
  unfold fX6_trim_b55 at hf
  refine x_aload_n C dX6_trim_55 (pc' := 56) rfl rfl rfl ?_
  refine x_getIN C (ci := 1) (kf := 1) rfl (by decide) hinX6_trim_X1 (List.mem_of_getElem? (i := 7) rfl) rfl hf dX6_trim_56 (pc' := 59) rfl (fun v1 _ hf => ?_)
  refine x_istore C dX6_trim_59 (pc' := 61) rfl (by decide) rfl (lv' := [some (vR a0), none, some (vI i2), some (vR a3), some (vI i4), some (vI v1)]) rfl ?_
  refine x_more (k' := (4 * 3 + 0)) (n' := (4 * 59 + 0)) (by omega) (by omega) ?_
  exact mX6_trim_w61 C hr hlk hnm 4 a0 i2 a3 i4 v1 h hf
def fX6_trim_w28 : Nat → Nat → Int32 → Nat → Int32 → Int32 → Hp → Option (Int32 × Hp)
  | 0 => fun _ _ _ _ _ _ => none
  | n + 1 => fun a0 i2 a3 i4 i5 h => if i5 ≤ (1 : Int32) then (fX6_trim_b55 a0 i2 a3 i4 h) else (call (oK h a3 1 (fX1_idlesAhead h a3)) fun r1 h2 => if r1 = 0 then (fX6_trim_b55 a0 i2 a3 i4 h2) else (call (oK h2 a3 1 (fX1_withoutAhead h2 a3)) fun r3 h4 => (fX6_trim_w28 n) a0 i2 r3 (i4 + 1) (i5 + (-1)) h4))
set_option maxHeartbeats 4000000 in
set_option maxRecDepth 100000 in
theorem mX6_trim_w28 {g : XG} {p : Program} {l : Launch} {e : Env} {s : State} {m : MethodId} {args : Array Value} {below : List Frame} {meth : Method} {c : Code} (C : x_C g p s m args c cX6_trim RX6 6 wsX6_trim) (hr : meth.sig.returnType = (some .int)) (hlk : meth.locks = false) (hnm : meth.name = yX6_trim.name) {res : Int32 × Hp} : ∀ (n : Nat) (a0 : Nat) (i2 : Int32) (a3 : Nat) (i4 : Int32) (i5 : Int32) (h : Hp), fX6_trim_w28 n a0 i2 a3 i4 i5 h = some res → XW g p l e { frames := 4, cells := 20, slots := 364, locals := 85 } s m args below meth c (MQ below (x_Q g (some (vI res.1)) res.2) args s 20 364 (x_A g)) 6 (n * 2 + 12) (n * 32 + 236) h 28 [some (vR a0), none, some (vI i2), some (vR a3), some (vI i4), some (vI i5)] [] := by
  intro n
  induction n with
  | zero =>
    intro a0 i2 a3 i4 i5 h hf
    have hf2 : (none : Option (Int32 × Hp)) = some res := hf
    cases hf2
  | succ n ih =>
    intro a0 i2 a3 i4 i5 h hf
    rw [fX6_trim_w28] at hf
    refine x_more (k' := (n * 2 + 12 + 2)) (n' := (n * 32 + 236 + 32)) (by omega) (by omega) ?_
    refine x_iload C dX6_trim_28 (pc' := 30) rfl rfl ?_
    refine x_iconst C (v := 1) (by decide) dX6_trim_30 (pc' := 31) rfl ?_
    refine x_icmp_le C hf dX6_trim_31 (pc' := 34) rfl (tgt := 55) (by decide) (fun _ hf => ?_) (fun _ hf => ?_)
    ·
      refine x_keep [true, false, true, true, true, false] rfl ?_
      refine x_more (k' := 12) (n' := 236) (by omega) (by omega) ?_
      exact mX6_trim_b55 C hr hlk hnm a0 i2 a3 i4 h hf
    ·
      refine x_aload_n C dX6_trim_34 (pc' := 35) rfl rfl rfl ?_
      obtain ⟨r1, h2, hq, hf⟩ := call_some hf
      obtain ⟨hob, hq⟩ := oK_some hq
      refine x_callV C (As := []) (st := []) (r := (some (vI r1))) (h' := h2) (mc := 0) (ms := 0) (k := (n * 2 + 12 + 2)) (n := (n * 32 + 236 + 32)) (mX1_idlesAhead hq) hob (ci := 1) rfl (cwV 0 C.1.2.2.2.2 gX6_trim_X1_idlesAhead rfl rfl rfl (by decide +kernel) ⟨Nat.le_of_ble_eq_true rfl, Nat.le_of_ble_eq_true rfl⟩) rfl rfl (Nat.le_of_ble_eq_true rfl) dX6_trim_35 (pc' := 38) rfl ?_
      refine x_if_eq C hf dX6_trim_38 (pc' := 41) rfl (tgt := 55) (by decide) (fun _ hf => ?_) (fun _ hf => ?_)
      ·
        refine x_keep [true, false, true, true, true, false] rfl ?_
        refine x_more (k' := 12) (n' := 236) (by omega) (by omega) ?_
        exact mX6_trim_b55 C hr hlk hnm a0 i2 a3 i4 h2 hf
      ·
        refine x_aload_n C dX6_trim_41 (pc' := 42) rfl rfl rfl ?_
        obtain ⟨r3, h4, hq, hf⟩ := call_some hf
        obtain ⟨hob, hq⟩ := oK_some hq
        refine x_callV C (As := []) (st := []) (r := (some (vR r3))) (h' := h4) (mc := 2) (ms := 32) (k := n * 2 + 12) (n := n * 32 + 236) (mX1_withoutAhead hq) hob (ci := 1) rfl (cwV 0 C.1.2.2.2.2 gX6_trim_X1_withoutAhead rfl rfl rfl (by decide +kernel) ⟨Nat.le_of_ble_eq_true rfl, Nat.le_of_ble_eq_true rfl⟩) rfl rfl (Nat.le_of_ble_eq_true rfl) dX6_trim_42 (pc' := 45) rfl ?_
        refine x_astore_n C dX6_trim_45 (pc' := 46) rfl rfl (by decide) rfl (lv' := [some (vR a0), none, some (vI i2), some (vR r3), some (vI i4), some (vI i5)]) rfl ?_
        refine x_iinc C dX6_trim_46 (pc' := 49) rfl rfl (v := (i4 + 1)) rfl (by decide) rfl (lv' := [some (vR a0), none, some (vI i2), some (vR r3), some (vI (i4 + 1)), some (vI i5)]) rfl ?_
        refine x_iinc C dX6_trim_49 (pc' := 52) rfl rfl (v := (i5 + (-1))) rfl (by decide) rfl (lv' := [some (vR a0), none, some (vI i2), some (vR r3), some (vI (i4 + 1)), some (vI (i5 + (-1)))]) rfl ?_
        refine x_goto C dX6_trim_52 (tgt := 28) (by decide) ?_
        exact ih a0 i2 r3 (i4 + 1) (i5 + (-1)) h4 hf
def fX6_trim (h : Hp) (a0 : Nat) (i1 : Int32) (i2 : Int32) : Option (Int32 × Hp) := call (oK h a0 6 (fX6_ruleIn h a0 i1)) fun r1 h2 => if r1 = 0 then (some ((-1 : Int32), h2)) else (call (fX6_isSlot h2 i2) fun r3 h4 => if r3 = 0 then (some ((-1 : Int32), h4)) else ((gI h4 r1 1 1).bind fun v5 => fX6_trim_w28 4 a0 i2 r1 (0 : Int32) v5 h4))
set_option maxHeartbeats 4000000 in
set_option maxRecDepth 100000 in
theorem mX6_trim {l : Launch} {g : XG} {h : Hp} {a0 : Nat} {i1 : Int32} {i2 : Int32} {res : Int32 × Hp} (hf : fX6_trim h a0 i1 i2 = some res) : XM l g yX6_trim wsX6_trim 4 85 20 364 [vR a0, vI i1, vI i2] h (some (vI res.1)) res.2 := by
  refine x_start (cc := cX6_trim) (maxL := 6) (ret := (some .int)) (by decide) rfl (Nat.le_of_ble_eq_true rfl) (lv := [some (vR a0), some (vI i1), some (vI i2), none, none, none]) rfl ?_
  intro p e s m args below meth c C hr hlk hnm
  unfold fX6_trim at hf
  refine x_aload_n C dX6_trim_0 (pc' := 1) rfl rfl rfl ?_
  refine x_iload_n C dX6_trim_1 (pc' := 2) rfl rfl rfl ?_
  obtain ⟨r1, h2, hq, hf⟩ := call_some hf
  obtain ⟨hob, hq⟩ := oK_some hq
  refine x_callV C (As := [vI i1]) (st := []) (r := (some (vR r1))) (h' := h2) (mc := 0) (ms := 0) (k := 20) (n := 364) (mX6_ruleIn hq) hob (ci := 6) rfl (cwV 1 C.1.2.2.2.2 gX6_trim_X6_ruleIn rfl rfl rfl (by decide +kernel) ⟨Nat.le_of_ble_eq_true rfl, Nat.le_of_ble_eq_true rfl⟩) rfl rfl (Nat.le_of_ble_eq_true rfl) dX6_trim_2 (pc' := 5) rfl ?_
  refine x_astore_n C dX6_trim_5 (pc' := 6) rfl rfl (by decide) rfl (lv' := [some (vR a0), some (vI i1), some (vI i2), some (vR r1), none, none]) rfl ?_
  refine x_aload_n C dX6_trim_6 (pc' := 7) rfl rfl rfl ?_
  refine x_ifnull C hf dX6_trim_7 (pc' := 10) rfl (tgt := 17) (by decide) (fun _ hf => ?_) (fun _ hf => ?_)
  ·
    refine x_iconst C (v := -1) (by decide) dX6_trim_17 (pc' := 18) rfl ?_
    cases hf
    exact x_iret C hr hlk dX6_trim_18
  ·
    refine x_iload_n C dX6_trim_10 (pc' := 11) rfl rfl rfl ?_
    obtain ⟨r3, h4, hq, hf⟩ := call_some hf
    refine x_callS C (As := [vI i2]) (st := []) (r := (some (vI r3))) (h' := h4) (mc := 0) (ms := 0) (k := 20) (n := 364) (mX6_isSlot hq) (va_cwS 1 C.1.2.2.2.2 gX6_trim_X6_isSlot rfl rfl rfl (by decide +kernel) ⟨Nat.le_of_ble_eq_true rfl, Nat.le_of_ble_eq_true rfl⟩) rfl rfl (Nat.le_of_ble_eq_true rfl) dX6_trim_11 (pc' := 14) rfl ?_
    refine x_if_ne C hf dX6_trim_14 (pc' := 17) rfl (tgt := 19) (by decide) (fun _ hf => ?_) (fun _ hf => ?_)
    ·
      refine x_iconst C (v := -1) (by decide) dX6_trim_17 (pc' := 18) rfl ?_
      cases hf
      exact x_iret C hr hlk dX6_trim_18
    ·
      refine x_iconst C (v := 0) (by decide) dX6_trim_19 (pc' := 20) rfl ?_
      refine x_istore C dX6_trim_20 (pc' := 22) rfl (by decide) rfl (lv' := [some (vR a0), some (vI i1), some (vI i2), some (vR r1), some (vI (0 : Int32)), none]) rfl ?_
      refine x_aload_n C dX6_trim_22 (pc' := 23) rfl rfl rfl ?_
      refine x_getIN C (ci := 1) (kf := 1) rfl (by decide) hinX6_trim_X1 (List.mem_of_getElem? (i := 7) rfl) rfl hf dX6_trim_23 (pc' := 26) rfl (fun v5 _ hf => ?_)
      refine x_istore C dX6_trim_26 (pc' := 28) rfl (by decide) rfl (lv' := [some (vR a0), some (vI i1), some (vI i2), some (vR r1), some (vI (0 : Int32)), some (vI v5)]) rfl ?_
      refine x_keep [true, false, true, true, true, true] rfl ?_
      refine x_more (k' := (4 * 2 + 12)) (n' := (4 * 32 + 236)) (by omega) (by omega) ?_
      exact mX6_trim_w28 C hr hlk hnm 4 a0 i2 r1 (0 : Int32) v5 h4 hf
-- ===== X6_count
theorem lkX6_count_0 : Cond.fieldLink RX6 52 "MossRings" "tapeLength" "I" ∈ wsX6_count := by decide +kernel
theorem hinX6_count_X6 : ∀ w ∈ u_ws RX6 TX6 14, w ∈ wsX6_count := by decide +kernel
theorem lkX6_count_1 : Cond.fieldLink RX6 106 "MossRings" "outLength" "I" ∈ wsX6_count := by decide +kernel
def fX6_count (h : Hp) (a0 : Nat) (i1 : Int32) : Option (Int32 × Hp) := if i1 = 0 then (call (oK h a0 6 (fX6_fullSlots h a0)) fun r2 h3 => some (r2, h3)) else (if i1 = 1 then ((gI h a0 6 2).bind fun v5 => some (v5, h)) else (if i1 = 2 then ((gI h a0 6 4).bind fun v7 => some (v7, h)) else (some ((-1 : Int32), h))))
set_option maxHeartbeats 4000000 in
set_option maxRecDepth 100000 in
theorem mX6_count {l : Launch} {g : XG} {h : Hp} {a0 : Nat} {i1 : Int32} {res : Int32 × Hp} (hf : fX6_count h a0 i1 = some res) : XM l g yX6_count wsX6_count 1 22 0 0 [vR a0, vI i1] h (some (vI res.1)) res.2 := by
  refine x_start (cc := cX6_count) (maxL := 2) (ret := (some .int)) (by decide) rfl (Nat.le_of_ble_eq_true rfl) (lv := [some (vR a0), some (vI i1)]) rfl ?_
  intro p e s m args below meth c C hr hlk hnm
  unfold fX6_count at hf
  refine x_iload_n C dX6_count_0 (pc' := 1) rfl rfl rfl ?_
  by_cases hc1 : i1 = 0
  ·
    rw [if_pos hc1] at hf
    refine x_tswIn C (i := 0) hc1 (by decide) (by decide) dX6_count_1 (off := 27) rfl (tgt := 28) (by decide) ?_
    refine x_aload_n C dX6_count_28 (pc' := 29) rfl rfl rfl ?_
    obtain ⟨r2, h3, hq, hf⟩ := call_some hf
    obtain ⟨hob, hq⟩ := oK_some hq
    refine x_callV C (As := []) (st := []) (r := (some (vI r2))) (h' := h3) (mc := 0) (ms := 0) (k := 0) (n := 0) (mX6_fullSlots hq) hob (ci := 6) rfl (cwV 0 C.1.2.2.2.2 gX6_count_X6_fullSlots rfl rfl rfl (by decide +kernel) ⟨Nat.le_of_ble_eq_true rfl, Nat.le_of_ble_eq_true rfl⟩) rfl rfl (Nat.le_of_ble_eq_true rfl) dX6_count_29 (pc' := 32) rfl ?_
    cases hf
    exact x_iret C hr hlk dX6_count_32
  ·
    rw [if_neg hc1] at hf
    by_cases hc4 : i1 = 1
    ·
      rw [if_pos hc4] at hf
      refine x_tswIn C (i := 1) hc4 (by decide) (by decide) dX6_count_1 (off := 32) rfl (tgt := 33) (by decide) ?_
      refine x_aload_n C dX6_count_33 (pc' := 34) rfl rfl rfl ?_
      refine x_getI C (ci := 6) (kf := 2) rfl (by decide) hinX6_count_X6 lkX6_count_0 rfl hf dX6_count_34 (pc' := 37) rfl (fun v5 _ hf => ?_)
      cases hf
      exact x_iret C hr hlk dX6_count_37
    ·
      rw [if_neg hc4] at hf
      by_cases hc6 : i1 = 2
      ·
        rw [if_pos hc6] at hf
        refine x_tswIn C (i := 2) hc6 (by decide) (by decide) dX6_count_1 (off := 37) rfl (tgt := 38) (by decide) ?_
        refine x_aload_n C dX6_count_38 (pc' := 39) rfl rfl rfl ?_
        refine x_getI C (ci := 6) (kf := 4) rfl (by decide) hinX6_count_X6 lkX6_count_1 rfl hf dX6_count_39 (pc' := 42) rfl (fun v7 _ hf => ?_)
        cases hf
        exact x_iret C hr hlk dX6_count_42
      ·
        rw [if_neg hc6] at hf
        refine x_tswOut C 3 (by decide) (fun i hi => by match i, hi with | 0, _ => exact hc1 | 1, _ => exact hc4 | 2, _ => exact hc6 | j + 3, hi => omega) dX6_count_1 (tgt := 43) (by decide) ?_
        refine x_iconst C (v := -1) (by decide) dX6_count_43 (pc' := 44) rfl ?_
        cases hf
        exact x_iret C hr hlk dX6_count_44
-- ===== X6_height
theorem lkX6_height_0 : Cond.fieldLink RX6 143 "MossRings" "trail" "LMossRings$Trail;" ∈ wsX6_height := by decide +kernel
theorem hinX6_height_X6 : ∀ w ∈ u_ws RX6 TX6 14, w ∈ wsX6_height := by decide +kernel
theorem lkX6_height_1 : Cond.fieldLink RX6 15 "MossRings" "tape" "[I" ∈ wsX6_height := by decide +kernel
theorem hinX6_height_X4 : ∀ w ∈ u_ws RX4 TX4 4, w ∈ wsX6_height := by decide +kernel
theorem lkX6_height_2 : Cond.fieldLink RX6 157 "MossRings" "roundLength" "I" ∈ wsX6_height := by decide +kernel
theorem hinX6_height_X1 : ∀ w ∈ u_ws RX1 TX1 5, w ∈ wsX6_height := by decide +kernel
theorem lkX6_height_3 : Cond.classLink RX6 147 RX4 ∈ wsX6_height := by decide +kernel
theorem lkX6_height_4 : Cond.instantiable RX4 4 ∈ wsX6_height := by decide +kernel
theorem lkX6_height_5 : Cond.initialized RX4 ∈ wsX6_height := by decide +kernel
theorem lkX6_height_6 : Cond.methodLink RX6 149 yX4_init ∈ wsX6_height := by decide +kernel
theorem lkX6_height_7 : Cond.instanceMethod yX4_init ∈ wsX6_height := by decide +kernel
def fX6_height_b47 (a0 : Nat) (i2 : Int32) (a3 : Nat) (h : Hp) : Option (Int32 × Hp) := (gR h a0 6 12).bind fun v1 => (gR h a0 6 1).bind fun v2 => call (oK h v1 4 (fX4_climb h v1 a3 v2 i2)) fun r3 h4 => if r3 = (-1 : Int32) then (some (r3, h4)) else ((gR h4 a0 6 12).bind fun v5 => (gI h4 v5 4 3).bind fun v6 => (pF h4 a0 6 5 (vI v6)).bind fun h7 => some (r3, h7))
set_option maxHeartbeats 4000000 in
set_option maxRecDepth 100000 in
theorem mX6_height_b47 {g : XG} {p : Program} {l : Launch} {e : Env} {s : State} {m : MethodId} {args : Array Value} {below : List Frame} {meth : Method} {c : Code} (C : x_C g p s m args c cX6_height RX6 5 wsX6_height) (hr : meth.sig.returnType = (some .int)) (hlk : meth.locks = false) (hnm : meth.name = yX6_height.name) {res : Int32 × Hp} (a0 : Nat) (i2 : Int32) (a3 : Nat) (h : Hp) (hf : fX6_height_b47 a0 i2 a3 h = some res) : XW g p l e { frames := 3, cells := 4, slots := 20045, locals := 81 } s m args below meth c (MQ below (x_Q g (some (vI res.1)) res.2) args s 4 20045 (x_A g)) 5 0 0 h 47 [some (vR a0), none, some (vI i2), some (vR a3), none] [] := by
  unfold fX6_height_b47 at hf
  refine x_aload_n C dX6_height_47 (pc' := 48) rfl rfl rfl ?_
  refine x_getR C (ci := 6) (kf := 12) rfl (by decide) hinX6_height_X6 lkX6_height_0 rfl hf dX6_height_48 (pc' := 51) rfl (fun v1 _ hf => ?_)
  refine x_aload_n C dX6_height_51 (pc' := 52) rfl rfl rfl ?_
  refine x_aload_n C dX6_height_52 (pc' := 53) rfl rfl rfl ?_
  refine x_getR C (ci := 6) (kf := 1) rfl (by decide) hinX6_height_X6 lkX6_height_1 rfl hf dX6_height_53 (pc' := 56) rfl (fun v2 _ hf => ?_)
  refine x_iload_n C dX6_height_56 (pc' := 57) rfl rfl rfl ?_
  obtain ⟨r3, h4, hq, hf⟩ := call_some hf
  obtain ⟨hob, hq⟩ := oK_some hq
  refine x_callV C (As := [vR a3, vR v2, vI i2]) (st := []) (r := (some (vI r3))) (h' := h4) (mc := 0) (ms := 0) (k := 0) (n := 0) (mX4_climb hq) hob (ci := 4) rfl (cwV 3 C.1.2.2.2.2 gX6_height_X4_climb rfl rfl rfl (by decide +kernel) ⟨Nat.le_of_ble_eq_true rfl, Nat.le_of_ble_eq_true rfl⟩) rfl rfl (Nat.le_of_ble_eq_true rfl) dX6_height_57 (pc' := 60) rfl ?_
  refine x_istore C dX6_height_60 (pc' := 62) rfl (by decide) rfl (lv' := [some (vR a0), none, some (vI i2), some (vR a3), some (vI r3)]) rfl ?_
  refine x_iload C dX6_height_62 (pc' := 64) rfl rfl ?_
  refine x_iconst C (v := -1) (by decide) dX6_height_64 (pc' := 65) rfl ?_
  refine x_icmp_eq C hf dX6_height_65 (pc' := 68) rfl (tgt := 79) (by decide) (fun _ hf => ?_) (fun _ hf => ?_)
  ·
    refine x_iload C dX6_height_79 (pc' := 81) rfl rfl ?_
    cases hf
    exact x_iret C hr hlk dX6_height_81
  ·
    refine x_aload_n C dX6_height_68 (pc' := 69) rfl rfl rfl ?_
    refine x_aload_n C dX6_height_69 (pc' := 70) rfl rfl rfl ?_
    refine x_getR C (ci := 6) (kf := 12) rfl (by decide) hinX6_height_X6 lkX6_height_0 rfl hf dX6_height_70 (pc' := 73) rfl (fun v5 _ hf => ?_)
    refine x_getIN C (ci := 4) (kf := 3) rfl (by decide) hinX6_height_X4 (List.mem_of_getElem? (i := 14) rfl) rfl hf dX6_height_73 (pc' := 76) rfl (fun v6 _ hf => ?_)
    refine x_put C (ci := 6) (kf := 5) rfl (by decide) hinX6_height_X6 tyX6 tyX6_ok nmX6 lkX6_height_2 rfl (Or.inl rfl) rfl hf dX6_height_76 (pc' := 79) rfl (fun h7 _ hf => ?_)
    refine x_iload C dX6_height_79 (pc' := 81) rfl rfl ?_
    cases hf
    exact x_iret C hr hlk dX6_height_81
def fX6_height (h : Hp) (a0 : Nat) (i1 : Int32) : Option (Int32 × Hp) := call (oK h a0 6 (fX6_takeTape h a0)) fun r1 h2 => call (oK h2 a0 6 (fX6_ruleIn h2 a0 i1)) fun r3 h4 => if r3 = 0 then (some ((-1 : Int32), h4)) else ((gI h4 r3 1 0).bind fun v5 => call (oK h4 a0 6 (fX6_areFewStates h4 a0 v5 r1)) fun r6 h7 => if r6 = 0 then (some ((-1 : Int32), h7)) else ((gR h7 a0 6 12).bind fun v8 => if v8 = 0 then (mkO h7 4 [vR 0, vR 0, vR 0, vI 0] fun q9 h10 => (fX4_init h10 q9).bind fun h12 => (pF h12 a0 6 12 (vR q9)).bind fun h13 => fX6_height_b47 a0 r1 r3 h13) else (fX6_height_b47 a0 r1 r3 h7)))
set_option maxHeartbeats 4000000 in
set_option maxRecDepth 100000 in
theorem mX6_height {l : Launch} {g : XG} {h : Hp} {a0 : Nat} {i1 : Int32} {res : Int32 × Hp} (hf : fX6_height h a0 i1 = some res) : XM l g yX6_height wsX6_height 3 81 4 20045 [vR a0, vI i1] h (some (vI res.1)) res.2 := by
  refine x_start (cc := cX6_height) (maxL := 5) (ret := (some .int)) (by decide) rfl (Nat.le_of_ble_eq_true rfl) (lv := [some (vR a0), some (vI i1), none, none, none]) rfl ?_
  intro p e s m args below meth c C hr hlk hnm
  unfold fX6_height at hf
  refine x_aload_n C dX6_height_0 (pc' := 1) rfl rfl rfl ?_
  obtain ⟨r1, h2, hq, hf⟩ := call_some hf
  obtain ⟨hob, hq⟩ := oK_some hq
  refine x_callV C (As := []) (st := []) (r := (some (vI r1))) (h' := h2) (mc := 0) (ms := 0) (k := 4) (n := 20045) (mX6_takeTape hq) hob (ci := 6) rfl (cwV 0 C.1.2.2.2.2 gX6_height_X6_takeTape rfl rfl rfl (by decide +kernel) ⟨Nat.le_of_ble_eq_true rfl, Nat.le_of_ble_eq_true rfl⟩) rfl rfl (Nat.le_of_ble_eq_true rfl) dX6_height_1 (pc' := 4) rfl ?_
  refine x_istore_n C dX6_height_4 (pc' := 5) rfl rfl (by decide) rfl (lv' := [some (vR a0), some (vI i1), some (vI r1), none, none]) rfl ?_
  refine x_aload_n C dX6_height_5 (pc' := 6) rfl rfl rfl ?_
  refine x_iload_n C dX6_height_6 (pc' := 7) rfl rfl rfl ?_
  obtain ⟨r3, h4, hq, hf⟩ := call_some hf
  obtain ⟨hob, hq⟩ := oK_some hq
  refine x_callV C (As := [vI i1]) (st := []) (r := (some (vR r3))) (h' := h4) (mc := 0) (ms := 0) (k := 4) (n := 20045) (mX6_ruleIn hq) hob (ci := 6) rfl (cwV 1 C.1.2.2.2.2 gX6_height_X6_ruleIn rfl rfl rfl (by decide +kernel) ⟨Nat.le_of_ble_eq_true rfl, Nat.le_of_ble_eq_true rfl⟩) rfl rfl (Nat.le_of_ble_eq_true rfl) dX6_height_7 (pc' := 10) rfl ?_
  refine x_astore_n C dX6_height_10 (pc' := 11) rfl rfl (by decide) rfl (lv' := [some (vR a0), some (vI i1), some (vI r1), some (vR r3), none]) rfl ?_
  refine x_aload_n C dX6_height_11 (pc' := 12) rfl rfl rfl ?_
  refine x_ifnull C hf dX6_height_12 (pc' := 15) rfl (tgt := 27) (by decide) (fun _ hf => ?_) (fun _ hf => ?_)
  ·
    refine x_iconst C (v := -1) (by decide) dX6_height_27 (pc' := 28) rfl ?_
    cases hf
    exact x_iret C hr hlk dX6_height_28
  ·
    refine x_aload_n C dX6_height_15 (pc' := 16) rfl rfl rfl ?_
    refine x_aload_n C dX6_height_16 (pc' := 17) rfl rfl rfl ?_
    refine x_getIN C (ci := 1) (kf := 0) rfl (by decide) hinX6_height_X1 (List.mem_of_getElem? (i := 5) rfl) rfl hf dX6_height_17 (pc' := 20) rfl (fun v5 _ hf => ?_)
    refine x_iload_n C dX6_height_20 (pc' := 21) rfl rfl rfl ?_
    obtain ⟨r6, h7, hq, hf⟩ := call_some hf
    obtain ⟨hob, hq⟩ := oK_some hq
    refine x_callV C (As := [vI v5, vI r1]) (st := []) (r := (some (vI r6))) (h' := h7) (mc := 0) (ms := 0) (k := 4) (n := 20045) (mX6_areFewStates hq) hob (ci := 6) rfl (cwV 2 C.1.2.2.2.2 gX6_height_X6_areFewStates rfl rfl rfl (by decide +kernel) ⟨Nat.le_of_ble_eq_true rfl, Nat.le_of_ble_eq_true rfl⟩) rfl rfl (Nat.le_of_ble_eq_true rfl) dX6_height_21 (pc' := 24) rfl ?_
    refine x_if_ne C hf dX6_height_24 (pc' := 27) rfl (tgt := 29) (by decide) (fun _ hf => ?_) (fun _ hf => ?_)
    ·
      refine x_iconst C (v := -1) (by decide) dX6_height_27 (pc' := 28) rfl ?_
      cases hf
      exact x_iret C hr hlk dX6_height_28
    ·
      refine x_aload_n C dX6_height_29 (pc' := 30) rfl rfl rfl ?_
      refine x_getR C (ci := 6) (kf := 12) rfl (by decide) hinX6_height_X6 lkX6_height_0 rfl hf dX6_height_30 (pc' := 33) rfl (fun v8 _ hf => ?_)
      refine x_ifnonnull C hf dX6_height_33 (pc' := 36) rfl (tgt := 47) (by decide) (fun _ hf => ?_) (fun _ hf => ?_)
      ·
        refine x_aload_n C dX6_height_36 (pc' := 37) rfl rfl rfl ?_
        refine x_newO C (k := 3) (n := 20041) (ci := 4) (fs := [vR 0, vR 0, vR 0, vI 0]) rfl hinX6_height_X4 tyX4 tyX4_ok lkX6_height_3 lkX6_height_4 lkX6_height_5 (dfX4 g) hf dX6_height_37 (pc' := 40) rfl (fun q9 h10 h4q9 _ _ hf => ?_)
        refine x_dup C rfl dX6_height_40 (pc' := 41) rfl ?_
        obtain ⟨h12, hq, hf⟩ := bind_some hf
        refine x_callI C (As := []) (st := [vR q9, vR a0]) (r := none) (h' := h12) (mc := 3) (ms := 20041) (k := 0) (n := 0) (mX4_init hq) h4q9 (cwI 0 C.1.2.2.2.2 gX6_height_X4_init rfl rfl rfl (C.1.2.2.2.2 _ lkX6_height_5) (C.1.2.2.2.2 _ lkX6_height_6) (C.1.2.2.2.2 _ lkX6_height_7) rfl (by decide +kernel) ⟨Nat.le_of_ble_eq_true rfl, Nat.le_of_ble_eq_true rfl⟩) rfl rfl (Nat.le_of_ble_eq_true rfl) dX6_height_41 (pc' := 44) rfl ?_
        refine x_put C (ci := 6) (kf := 12) rfl (by decide) hinX6_height_X6 tyX6 tyX6_ok nmX6 lkX6_height_0 rfl (Or.inl rfl) rfl hf dX6_height_44 (pc' := 47) rfl (fun h13 _ hf => ?_)
        refine x_keep [true, false, true, true, false] rfl ?_
        refine x_more (k' := 0) (n' := 0) (Nat.le_of_ble_eq_true rfl) (Nat.le_of_ble_eq_true rfl) ?_
        exact mX6_height_b47 C hr hlk hnm a0 r1 r3 h13 hf
      ·
        refine x_keep [true, false, true, true, false] rfl ?_
        refine x_more (k' := 0) (n' := 0) (Nat.le_of_ble_eq_true rfl) (Nat.le_of_ble_eq_true rfl) ?_
        exact mX6_height_b47 C hr hlk hnm a0 r1 r3 h7 hf
-- ===== X6_all
theorem lkX6_all_0 : Cond.fieldLink RX6 161 "MossRings" "survey" "LMossRings$Survey;" ∈ wsX6_all := by decide +kernel
theorem hinX6_all_X6 : ∀ w ∈ u_ws RX6 TX6 14, w ∈ wsX6_all := by decide +kernel
theorem hinX6_all_X1 : ∀ w ∈ u_ws RX1 TX1 5, w ∈ wsX6_all := by decide +kernel
theorem lkX6_all_1 : Cond.classLink RX6 165 RX3 ∈ wsX6_all := by decide +kernel
theorem lkX6_all_2 : Cond.instantiable RX3 13 ∈ wsX6_all := by decide +kernel
theorem lkX6_all_3 : Cond.initialized RX3 ∈ wsX6_all := by decide +kernel
theorem hinX6_all_X3 : ∀ w ∈ u_ws RX3 TX3 13, w ∈ wsX6_all := by decide +kernel
theorem lkX6_all_4 : Cond.methodLink RX6 167 yX3_init ∈ wsX6_all := by decide +kernel
theorem lkX6_all_5 : Cond.instanceMethod yX3_init ∈ wsX6_all := by decide +kernel
def fX6_all_b60 (a0 : Nat) (i2 : Int32) (i3 : Int32) (a4 : Nat) (i5 : Int32) (h : Hp) : Option (Int32 × Hp) := (gR h a0 6 13).bind fun v1 => (oK h v1 3 (fX3_look h v1 a4 i2 i5)).bind fun h3 => (gR h3 a0 6 13).bind fun v4 => call (oK h3 v4 3 (fX3_tell h3 v4 i3)) fun r5 h6 => some (r5, h6)
set_option maxHeartbeats 4000000 in
set_option maxRecDepth 100000 in
theorem mX6_all_b60 {g : XG} {p : Program} {l : Launch} {e : Env} {s : State} {m : MethodId} {args : Array Value} {below : List Frame} {meth : Method} {c : Code} (C : x_C g p s m args c cX6_all RX6 6 wsX6_all) (hr : meth.sig.returnType = (some .int)) (hlk : meth.locks = false) (hnm : meth.name = yX6_all.name) {res : Int32 × Hp} (a0 : Nat) (i2 : Int32) (i3 : Int32) (a4 : Nat) (i5 : Int32) (h : Hp) (hf : fX6_all_b60 a0 i2 i3 a4 i5 h = some res) : XW g p l e { frames := 4, cells := 7, slots := 16437, locals := 98 } s m args below meth c (MQ below (x_Q g (some (vI res.1)) res.2) args s 7 16437 (x_A g)) 6 0 0 h 60 [some (vR a0), none, some (vI i2), some (vI i3), some (vR a4), some (vI i5)] [] := by
  unfold fX6_all_b60 at hf
  refine x_aload_n C dX6_all_60 (pc' := 61) rfl rfl rfl ?_
  refine x_getR C (ci := 6) (kf := 13) rfl (by decide) hinX6_all_X6 lkX6_all_0 rfl hf dX6_all_61 (pc' := 64) rfl (fun v1 _ hf => ?_)
  refine x_aload C dX6_all_64 (pc' := 66) rfl rfl ?_
  refine x_iload_n C dX6_all_66 (pc' := 67) rfl rfl rfl ?_
  refine x_iload C dX6_all_67 (pc' := 69) rfl rfl ?_
  obtain ⟨h3, hq, hf⟩ := bind_some hf
  obtain ⟨hob, hq⟩ := oK_some hq
  refine x_callV C (As := [vR a4, vI i2, vI i5]) (st := []) (r := none) (h' := h3) (mc := 0) (ms := 0) (k := 0) (n := 0) (mX3_look hq) hob (ci := 3) rfl (cwV 3 C.1.2.2.2.2 gX6_all_X3_look rfl rfl rfl (by decide +kernel) ⟨Nat.le_of_ble_eq_true rfl, Nat.le_of_ble_eq_true rfl⟩) rfl rfl (Nat.le_of_ble_eq_true rfl) dX6_all_69 (pc' := 72) rfl ?_
  refine x_aload_n C dX6_all_72 (pc' := 73) rfl rfl rfl ?_
  refine x_getR C (ci := 6) (kf := 13) rfl (by decide) hinX6_all_X6 lkX6_all_0 rfl hf dX6_all_73 (pc' := 76) rfl (fun v4 _ hf => ?_)
  refine x_iload_n C dX6_all_76 (pc' := 77) rfl rfl rfl ?_
  obtain ⟨r5, h6, hq, hf⟩ := call_some hf
  obtain ⟨hob, hq⟩ := oK_some hq
  refine x_callV C (As := [vI i3]) (st := []) (r := (some (vI r5))) (h' := h6) (mc := 0) (ms := 0) (k := 0) (n := 0) (mX3_tell hq) hob (ci := 3) rfl (cwV 1 C.1.2.2.2.2 gX6_all_X3_tell rfl rfl rfl (by decide +kernel) ⟨Nat.le_of_ble_eq_true rfl, Nat.le_of_ble_eq_true rfl⟩) rfl rfl (Nat.le_of_ble_eq_true rfl) dX6_all_77 (pc' := 80) rfl ?_
  cases hf
  exact x_iret C hr hlk dX6_all_80
def fX6_all (h : Hp) (a0 : Nat) (i1 : Int32) (i2 : Int32) (i3 : Int32) : Option (Int32 × Hp) := call (oK h a0 6 (fX6_ruleIn h a0 i1)) fun r1 h2 => if r1 = 0 then (some ((-1 : Int32), h2)) else (if i3 < 0 then (some ((-1 : Int32), h2)) else (if i3 ≤ (4 : Int32) then ((gI h2 r1 1 0).bind fun v3 => call (fX6_ringsOf h2 v3 i2) fun r4 h5 => if r4 = (-1 : Int32) then (some ((-1 : Int32), h5)) else ((gR h5 a0 6 13).bind fun v6 => if v6 = 0 then (mkO h5 3 [vR 0, vR 0, vR 0, vR 0, vR 0, vR 0, vR 0, vI 0, vI 0, vI 0, vI 0, vI 0, vI 0] fun q7 h8 => (fX3_init h8 q7).bind fun h10 => (pF h10 a0 6 13 (vR q7)).bind fun h11 => fX6_all_b60 a0 i2 i3 r1 r4 h11) else (fX6_all_b60 a0 i2 i3 r1 r4 h5))) else (some ((-1 : Int32), h2))))
set_option maxHeartbeats 4000000 in
set_option maxRecDepth 100000 in
theorem mX6_all {l : Launch} {g : XG} {h : Hp} {a0 : Nat} {i1 : Int32} {i2 : Int32} {i3 : Int32} {res : Int32 × Hp} (hf : fX6_all h a0 i1 i2 i3 = some res) : XM l g yX6_all wsX6_all 4 98 7 16437 [vR a0, vI i1, vI i2, vI i3] h (some (vI res.1)) res.2 := by
  refine x_start (cc := cX6_all) (maxL := 6) (ret := (some .int)) (by decide) rfl (Nat.le_of_ble_eq_true rfl) (lv := [some (vR a0), some (vI i1), some (vI i2), some (vI i3), none, none]) rfl ?_
  intro p e s m args below meth c C hr hlk hnm
  unfold fX6_all at hf
  refine x_aload_n C dX6_all_0 (pc' := 1) rfl rfl rfl ?_
  refine x_iload_n C dX6_all_1 (pc' := 2) rfl rfl rfl ?_
  obtain ⟨r1, h2, hq, hf⟩ := call_some hf
  obtain ⟨hob, hq⟩ := oK_some hq
  refine x_callV C (As := [vI i1]) (st := []) (r := (some (vR r1))) (h' := h2) (mc := 0) (ms := 0) (k := 7) (n := 16437) (mX6_ruleIn hq) hob (ci := 6) rfl (cwV 1 C.1.2.2.2.2 gX6_all_X6_ruleIn rfl rfl rfl (by decide +kernel) ⟨Nat.le_of_ble_eq_true rfl, Nat.le_of_ble_eq_true rfl⟩) rfl rfl (Nat.le_of_ble_eq_true rfl) dX6_all_2 (pc' := 5) rfl ?_
  refine x_astore C dX6_all_5 (pc' := 7) rfl (by decide) rfl (lv' := [some (vR a0), some (vI i1), some (vI i2), some (vI i3), some (vR r1), none]) rfl ?_
  refine x_aload C dX6_all_7 (pc' := 9) rfl rfl ?_
  refine x_ifnull C hf dX6_all_9 (pc' := 12) rfl (tgt := 21) (by decide) (fun _ hf => ?_) (fun _ hf => ?_)
  ·
    refine x_iconst C (v := -1) (by decide) dX6_all_21 (pc' := 22) rfl ?_
    cases hf
    exact x_iret C hr hlk dX6_all_22
  ·
    refine x_iload_n C dX6_all_12 (pc' := 13) rfl rfl rfl ?_
    refine x_if_lt C hf dX6_all_13 (pc' := 16) rfl (tgt := 21) (by decide) (fun _ hf => ?_) (fun _ hf => ?_)
    ·
      refine x_iconst C (v := -1) (by decide) dX6_all_21 (pc' := 22) rfl ?_
      cases hf
      exact x_iret C hr hlk dX6_all_22
    ·
      refine x_iload_n C dX6_all_16 (pc' := 17) rfl rfl rfl ?_
      refine x_iconst C (v := 4) (by decide) dX6_all_17 (pc' := 18) rfl ?_
      refine x_icmp_le C hf dX6_all_18 (pc' := 21) rfl (tgt := 23) (by decide) (fun _ hf => ?_) (fun _ hf => ?_)
      ·
        refine x_aload C dX6_all_23 (pc' := 25) rfl rfl ?_
        refine x_getIN C (ci := 1) (kf := 0) rfl (by decide) hinX6_all_X1 (List.mem_of_getElem? (i := 5) rfl) rfl hf dX6_all_25 (pc' := 28) rfl (fun v3 _ hf => ?_)
        refine x_iload_n C dX6_all_28 (pc' := 29) rfl rfl rfl ?_
        obtain ⟨r4, h5, hq, hf⟩ := call_some hf
        refine x_callS C (As := [vI v3, vI i2]) (st := []) (r := (some (vI r4))) (h' := h5) (mc := 0) (ms := 0) (k := 7) (n := 16437) (mX6_ringsOf hq) (va_cwS 2 C.1.2.2.2.2 gX6_all_X6_ringsOf rfl rfl rfl (by decide +kernel) ⟨Nat.le_of_ble_eq_true rfl, Nat.le_of_ble_eq_true rfl⟩) rfl rfl (Nat.le_of_ble_eq_true rfl) dX6_all_29 (pc' := 32) rfl ?_
        refine x_istore C dX6_all_32 (pc' := 34) rfl (by decide) rfl (lv' := [some (vR a0), some (vI i1), some (vI i2), some (vI i3), some (vR r1), some (vI r4)]) rfl ?_
        refine x_iload C dX6_all_34 (pc' := 36) rfl rfl ?_
        refine x_iconst C (v := -1) (by decide) dX6_all_36 (pc' := 37) rfl ?_
        refine x_icmp_ne C hf dX6_all_37 (pc' := 40) rfl (tgt := 42) (by decide) (fun _ hf => ?_) (fun _ hf => ?_)
        ·
          refine x_iconst C (v := -1) (by decide) dX6_all_40 (pc' := 41) rfl ?_
          cases hf
          exact x_iret C hr hlk dX6_all_41
        ·
          refine x_aload_n C dX6_all_42 (pc' := 43) rfl rfl rfl ?_
          refine x_getR C (ci := 6) (kf := 13) rfl (by decide) hinX6_all_X6 lkX6_all_0 rfl hf dX6_all_43 (pc' := 46) rfl (fun v6 _ hf => ?_)
          refine x_ifnonnull C hf dX6_all_46 (pc' := 49) rfl (tgt := 60) (by decide) (fun _ hf => ?_) (fun _ hf => ?_)
          ·
            refine x_aload_n C dX6_all_49 (pc' := 50) rfl rfl rfl ?_
            refine x_newO C (k := 6) (n := 16424) (ci := 3) (fs := [vR 0, vR 0, vR 0, vR 0, vR 0, vR 0, vR 0, vI 0, vI 0, vI 0, vI 0, vI 0, vI 0]) rfl hinX6_all_X3 tyX3 tyX3_ok lkX6_all_1 lkX6_all_2 lkX6_all_3 (dfX3 g) hf dX6_all_50 (pc' := 53) rfl (fun q7 h8 h4q7 _ _ hf => ?_)
            refine x_dup C rfl dX6_all_53 (pc' := 54) rfl ?_
            obtain ⟨h10, hq, hf⟩ := bind_some hf
            refine x_callI C (As := []) (st := [vR q7, vR a0]) (r := none) (h' := h10) (mc := 6) (ms := 16424) (k := 0) (n := 0) (mX3_init hq) h4q7 (cwI 0 C.1.2.2.2.2 gX6_all_X3_init rfl rfl rfl (C.1.2.2.2.2 _ lkX6_all_3) (C.1.2.2.2.2 _ lkX6_all_4) (C.1.2.2.2.2 _ lkX6_all_5) rfl (by decide +kernel) ⟨Nat.le_of_ble_eq_true rfl, Nat.le_of_ble_eq_true rfl⟩) rfl rfl (Nat.le_of_ble_eq_true rfl) dX6_all_54 (pc' := 57) rfl ?_
            refine x_put C (ci := 6) (kf := 13) rfl (by decide) hinX6_all_X6 tyX6 tyX6_ok nmX6 lkX6_all_0 rfl (Or.inl rfl) rfl hf dX6_all_57 (pc' := 60) rfl (fun h11 _ hf => ?_)
            refine x_keep [true, false, true, true, true, true] rfl ?_
            refine x_more (k' := 0) (n' := 0) (Nat.le_of_ble_eq_true rfl) (Nat.le_of_ble_eq_true rfl) ?_
            exact mX6_all_b60 C hr hlk hnm a0 i2 i3 r1 r4 h11 hf
          ·
            refine x_keep [true, false, true, true, true, true] rfl ?_
            refine x_more (k' := 0) (n' := 0) (Nat.le_of_ble_eq_true rfl) (Nat.le_of_ble_eq_true rfl) ?_
            exact mX6_all_b60 C hr hlk hnm a0 i2 i3 r1 r4 h5 hf
      ·
        refine x_iconst C (v := -1) (by decide) dX6_all_21 (pc' := 22) rfl ?_
        cases hf
        exact x_iret C hr hlk dX6_all_22
-- ===== X6_height
theorem lkX6_height_v2_0 : Cond.fieldLink RX6 143 "MossRings" "trail" "LMossRings$Trail;" ∈ wsX6_height := by decide +kernel
theorem hinX6_height_v2_X6 : ∀ w ∈ u_ws RX6 TX6 14, w ∈ wsX6_height := by decide +kernel
theorem lkX6_height_v2_1 : Cond.fieldLink RX6 15 "MossRings" "tape" "[I" ∈ wsX6_height := by decide +kernel
theorem hinX6_height_v2_X4 : ∀ w ∈ u_ws RX4 TX4 4, w ∈ wsX6_height := by decide +kernel
theorem lkX6_height_v2_2 : Cond.fieldLink RX6 157 "MossRings" "roundLength" "I" ∈ wsX6_height := by decide +kernel
theorem hinX6_height_v2_X1 : ∀ w ∈ u_ws RX1 TX1 5, w ∈ wsX6_height := by decide +kernel
def fX6_height_v2_b47 (a0 : Nat) (i2 : Int32) (a3 : Nat) (h : Hp) : Option (Int32 × Hp) := (gR h a0 6 12).bind fun v1 => (gR h a0 6 1).bind fun v2 => call (oK h v1 4 (fX4_climb h v1 a3 v2 i2)) fun r3 h4 => if r3 = (-1 : Int32) then (some (r3, h4)) else ((gR h4 a0 6 12).bind fun v5 => (gI h4 v5 4 3).bind fun v6 => (pF h4 a0 6 5 (vI v6)).bind fun h7 => some (r3, h7))
set_option maxHeartbeats 4000000 in
set_option maxRecDepth 100000 in
theorem mX6_height_v2_b47 {g : XG} {p : Program} {l : Launch} {e : Env} {s : State} {m : MethodId} {args : Array Value} {below : List Frame} {meth : Method} {c : Code} (C : x_C g p s m args c cX6_height RX6 5 wsX6_height) (hr : meth.sig.returnType = (some .int)) (hlk : meth.locks = false) (hnm : meth.name = yX6_height.name) {res : Int32 × Hp} (a0 : Nat) (i2 : Int32) (a3 : Nat) (h : Hp) (hf : fX6_height_v2_b47 a0 i2 a3 h = some res) : XW g p l e { frames := 3, cells := 0, slots := 0, locals := 81 } s m args below meth c (MQ below (x_Q g (some (vI res.1)) res.2) args s 0 0 (x_A g)) 5 0 0 h 47 [some (vR a0), none, some (vI i2), some (vR a3), none] [] := by
  unfold fX6_height_v2_b47 at hf
  refine x_aload_n C dX6_height_47 (pc' := 48) rfl rfl rfl ?_
  refine x_getR C (ci := 6) (kf := 12) rfl (by decide) hinX6_height_v2_X6 lkX6_height_v2_0 rfl hf dX6_height_48 (pc' := 51) rfl (fun v1 _ hf => ?_)
  refine x_aload_n C dX6_height_51 (pc' := 52) rfl rfl rfl ?_
  refine x_aload_n C dX6_height_52 (pc' := 53) rfl rfl rfl ?_
  refine x_getR C (ci := 6) (kf := 1) rfl (by decide) hinX6_height_v2_X6 lkX6_height_v2_1 rfl hf dX6_height_53 (pc' := 56) rfl (fun v2 _ hf => ?_)
  refine x_iload_n C dX6_height_56 (pc' := 57) rfl rfl rfl ?_
  obtain ⟨r3, h4, hq, hf⟩ := call_some hf
  obtain ⟨hob, hq⟩ := oK_some hq
  refine x_callV C (As := [vR a3, vR v2, vI i2]) (st := []) (r := (some (vI r3))) (h' := h4) (mc := 0) (ms := 0) (k := 0) (n := 0) (mX4_climb hq) hob (ci := 4) rfl (cwV 3 C.1.2.2.2.2 gX6_height_X4_climb rfl rfl rfl (by decide +kernel) ⟨Nat.le_of_ble_eq_true rfl, Nat.le_of_ble_eq_true rfl⟩) rfl rfl (Nat.le_of_ble_eq_true rfl) dX6_height_57 (pc' := 60) rfl ?_
  refine x_istore C dX6_height_60 (pc' := 62) rfl (by decide) rfl (lv' := [some (vR a0), none, some (vI i2), some (vR a3), some (vI r3)]) rfl ?_
  refine x_iload C dX6_height_62 (pc' := 64) rfl rfl ?_
  refine x_iconst C (v := -1) (by decide) dX6_height_64 (pc' := 65) rfl ?_
  refine x_icmp_eq C hf dX6_height_65 (pc' := 68) rfl (tgt := 79) (by decide) (fun _ hf => ?_) (fun _ hf => ?_)
  ·
    refine x_iload C dX6_height_79 (pc' := 81) rfl rfl ?_
    cases hf
    exact x_iret C hr hlk dX6_height_81
  ·
    refine x_aload_n C dX6_height_68 (pc' := 69) rfl rfl rfl ?_
    refine x_aload_n C dX6_height_69 (pc' := 70) rfl rfl rfl ?_
    refine x_getR C (ci := 6) (kf := 12) rfl (by decide) hinX6_height_v2_X6 lkX6_height_v2_0 rfl hf dX6_height_70 (pc' := 73) rfl (fun v5 _ hf => ?_)
    refine x_getIN C (ci := 4) (kf := 3) rfl (by decide) hinX6_height_v2_X4 (List.mem_of_getElem? (i := 14) rfl) rfl hf dX6_height_73 (pc' := 76) rfl (fun v6 _ hf => ?_)
    refine x_put C (ci := 6) (kf := 5) rfl (by decide) hinX6_height_v2_X6 tyX6 tyX6_ok nmX6 lkX6_height_v2_2 rfl (Or.inl rfl) rfl hf dX6_height_76 (pc' := 79) rfl (fun h7 _ hf => ?_)
    refine x_iload C dX6_height_79 (pc' := 81) rfl rfl ?_
    cases hf
    exact x_iret C hr hlk dX6_height_81
def fX6_height_v2 (h : Hp) (a0 : Nat) (i1 : Int32) : Option (Int32 × Hp) := call (oK h a0 6 (fX6_takeTape h a0)) fun r1 h2 => call (oK h2 a0 6 (fX6_ruleIn h2 a0 i1)) fun r3 h4 => if r3 = 0 then (some ((-1 : Int32), h4)) else ((gI h4 r3 1 0).bind fun v5 => call (oK h4 a0 6 (fX6_areFewStates h4 a0 v5 r1)) fun r6 h7 => if r6 = 0 then (some ((-1 : Int32), h7)) else ((gR h7 a0 6 12).bind fun v8 => if v8 = 0 then (none) else (fX6_height_v2_b47 a0 r1 r3 h7)))
set_option maxHeartbeats 4000000 in
set_option maxRecDepth 100000 in
theorem mX6_height_v2 {l : Launch} {g : XG} {h : Hp} {a0 : Nat} {i1 : Int32} {res : Int32 × Hp} (hf : fX6_height_v2 h a0 i1 = some res) : XM l g yX6_height wsX6_height 3 81 0 0 [vR a0, vI i1] h (some (vI res.1)) res.2 := by
  refine x_start (cc := cX6_height) (maxL := 5) (ret := (some .int)) (by decide) rfl (Nat.le_of_ble_eq_true rfl) (lv := [some (vR a0), some (vI i1), none, none, none]) rfl ?_
  intro p e s m args below meth c C hr hlk hnm
  unfold fX6_height_v2 at hf
  refine x_aload_n C dX6_height_0 (pc' := 1) rfl rfl rfl ?_
  obtain ⟨r1, h2, hq, hf⟩ := call_some hf
  obtain ⟨hob, hq⟩ := oK_some hq
  refine x_callV C (As := []) (st := []) (r := (some (vI r1))) (h' := h2) (mc := 0) (ms := 0) (k := 0) (n := 0) (mX6_takeTape hq) hob (ci := 6) rfl (cwV 0 C.1.2.2.2.2 gX6_height_X6_takeTape rfl rfl rfl (by decide +kernel) ⟨Nat.le_of_ble_eq_true rfl, Nat.le_of_ble_eq_true rfl⟩) rfl rfl (Nat.le_of_ble_eq_true rfl) dX6_height_1 (pc' := 4) rfl ?_
  refine x_istore_n C dX6_height_4 (pc' := 5) rfl rfl (by decide) rfl (lv' := [some (vR a0), some (vI i1), some (vI r1), none, none]) rfl ?_
  refine x_aload_n C dX6_height_5 (pc' := 6) rfl rfl rfl ?_
  refine x_iload_n C dX6_height_6 (pc' := 7) rfl rfl rfl ?_
  obtain ⟨r3, h4, hq, hf⟩ := call_some hf
  obtain ⟨hob, hq⟩ := oK_some hq
  refine x_callV C (As := [vI i1]) (st := []) (r := (some (vR r3))) (h' := h4) (mc := 0) (ms := 0) (k := 0) (n := 0) (mX6_ruleIn hq) hob (ci := 6) rfl (cwV 1 C.1.2.2.2.2 gX6_height_X6_ruleIn rfl rfl rfl (by decide +kernel) ⟨Nat.le_of_ble_eq_true rfl, Nat.le_of_ble_eq_true rfl⟩) rfl rfl (Nat.le_of_ble_eq_true rfl) dX6_height_7 (pc' := 10) rfl ?_
  refine x_astore_n C dX6_height_10 (pc' := 11) rfl rfl (by decide) rfl (lv' := [some (vR a0), some (vI i1), some (vI r1), some (vR r3), none]) rfl ?_
  refine x_aload_n C dX6_height_11 (pc' := 12) rfl rfl rfl ?_
  refine x_ifnull C hf dX6_height_12 (pc' := 15) rfl (tgt := 27) (by decide) (fun _ hf => ?_) (fun _ hf => ?_)
  ·
    refine x_iconst C (v := -1) (by decide) dX6_height_27 (pc' := 28) rfl ?_
    cases hf
    exact x_iret C hr hlk dX6_height_28
  ·
    refine x_aload_n C dX6_height_15 (pc' := 16) rfl rfl rfl ?_
    refine x_aload_n C dX6_height_16 (pc' := 17) rfl rfl rfl ?_
    refine x_getIN C (ci := 1) (kf := 0) rfl (by decide) hinX6_height_v2_X1 (List.mem_of_getElem? (i := 5) rfl) rfl hf dX6_height_17 (pc' := 20) rfl (fun v5 _ hf => ?_)
    refine x_iload_n C dX6_height_20 (pc' := 21) rfl rfl rfl ?_
    obtain ⟨r6, h7, hq, hf⟩ := call_some hf
    obtain ⟨hob, hq⟩ := oK_some hq
    refine x_callV C (As := [vI v5, vI r1]) (st := []) (r := (some (vI r6))) (h' := h7) (mc := 0) (ms := 0) (k := 0) (n := 0) (mX6_areFewStates hq) hob (ci := 6) rfl (cwV 2 C.1.2.2.2.2 gX6_height_X6_areFewStates rfl rfl rfl (by decide +kernel) ⟨Nat.le_of_ble_eq_true rfl, Nat.le_of_ble_eq_true rfl⟩) rfl rfl (Nat.le_of_ble_eq_true rfl) dX6_height_21 (pc' := 24) rfl ?_
    refine x_if_ne C hf dX6_height_24 (pc' := 27) rfl (tgt := 29) (by decide) (fun _ hf => ?_) (fun _ hf => ?_)
    ·
      refine x_iconst C (v := -1) (by decide) dX6_height_27 (pc' := 28) rfl ?_
      cases hf
      exact x_iret C hr hlk dX6_height_28
    ·
      refine x_aload_n C dX6_height_29 (pc' := 30) rfl rfl rfl ?_
      refine x_getR C (ci := 6) (kf := 12) rfl (by decide) hinX6_height_v2_X6 lkX6_height_v2_0 rfl hf dX6_height_30 (pc' := 33) rfl (fun v8 _ hf => ?_)
      refine x_ifnonnull C hf dX6_height_33 (pc' := 36) rfl (tgt := 47) (by decide) (fun _ hf => ?_) (fun _ hf => ?_)
      ·
        cases hf
      ·
        refine x_keep [true, false, true, true, false] rfl ?_
        refine x_more (k' := 0) (n' := 0) (Nat.le_of_ble_eq_true rfl) (Nat.le_of_ble_eq_true rfl) ?_
        exact mX6_height_v2_b47 C hr hlk hnm a0 r1 r3 h7 hf
-- ===== X6_all
theorem lkX6_all_v2_0 : Cond.fieldLink RX6 161 "MossRings" "survey" "LMossRings$Survey;" ∈ wsX6_all := by decide +kernel
theorem hinX6_all_v2_X6 : ∀ w ∈ u_ws RX6 TX6 14, w ∈ wsX6_all := by decide +kernel
theorem hinX6_all_v2_X1 : ∀ w ∈ u_ws RX1 TX1 5, w ∈ wsX6_all := by decide +kernel
def fX6_all_v2_b60 (a0 : Nat) (i2 : Int32) (i3 : Int32) (a4 : Nat) (i5 : Int32) (h : Hp) : Option (Int32 × Hp) := (gR h a0 6 13).bind fun v1 => (oK h v1 3 (fX3_look h v1 a4 i2 i5)).bind fun h3 => (gR h3 a0 6 13).bind fun v4 => call (oK h3 v4 3 (fX3_tell h3 v4 i3)) fun r5 h6 => some (r5, h6)
set_option maxHeartbeats 4000000 in
set_option maxRecDepth 100000 in
theorem mX6_all_v2_b60 {g : XG} {p : Program} {l : Launch} {e : Env} {s : State} {m : MethodId} {args : Array Value} {below : List Frame} {meth : Method} {c : Code} (C : x_C g p s m args c cX6_all RX6 6 wsX6_all) (hr : meth.sig.returnType = (some .int)) (hlk : meth.locks = false) (hnm : meth.name = yX6_all.name) {res : Int32 × Hp} (a0 : Nat) (i2 : Int32) (i3 : Int32) (a4 : Nat) (i5 : Int32) (h : Hp) (hf : fX6_all_v2_b60 a0 i2 i3 a4 i5 h = some res) : XW g p l e { frames := 4, cells := 0, slots := 0, locals := 98 } s m args below meth c (MQ below (x_Q g (some (vI res.1)) res.2) args s 0 0 (x_A g)) 6 0 0 h 60 [some (vR a0), none, some (vI i2), some (vI i3), some (vR a4), some (vI i5)] [] := by
  unfold fX6_all_v2_b60 at hf
  refine x_aload_n C dX6_all_60 (pc' := 61) rfl rfl rfl ?_
  refine x_getR C (ci := 6) (kf := 13) rfl (by decide) hinX6_all_v2_X6 lkX6_all_v2_0 rfl hf dX6_all_61 (pc' := 64) rfl (fun v1 _ hf => ?_)
  refine x_aload C dX6_all_64 (pc' := 66) rfl rfl ?_
  refine x_iload_n C dX6_all_66 (pc' := 67) rfl rfl rfl ?_
  refine x_iload C dX6_all_67 (pc' := 69) rfl rfl ?_
  obtain ⟨h3, hq, hf⟩ := bind_some hf
  obtain ⟨hob, hq⟩ := oK_some hq
  refine x_callV C (As := [vR a4, vI i2, vI i5]) (st := []) (r := none) (h' := h3) (mc := 0) (ms := 0) (k := 0) (n := 0) (mX3_look hq) hob (ci := 3) rfl (cwV 3 C.1.2.2.2.2 gX6_all_X3_look rfl rfl rfl (by decide +kernel) ⟨Nat.le_of_ble_eq_true rfl, Nat.le_of_ble_eq_true rfl⟩) rfl rfl (Nat.le_of_ble_eq_true rfl) dX6_all_69 (pc' := 72) rfl ?_
  refine x_aload_n C dX6_all_72 (pc' := 73) rfl rfl rfl ?_
  refine x_getR C (ci := 6) (kf := 13) rfl (by decide) hinX6_all_v2_X6 lkX6_all_v2_0 rfl hf dX6_all_73 (pc' := 76) rfl (fun v4 _ hf => ?_)
  refine x_iload_n C dX6_all_76 (pc' := 77) rfl rfl rfl ?_
  obtain ⟨r5, h6, hq, hf⟩ := call_some hf
  obtain ⟨hob, hq⟩ := oK_some hq
  refine x_callV C (As := [vI i3]) (st := []) (r := (some (vI r5))) (h' := h6) (mc := 0) (ms := 0) (k := 0) (n := 0) (mX3_tell hq) hob (ci := 3) rfl (cwV 1 C.1.2.2.2.2 gX6_all_X3_tell rfl rfl rfl (by decide +kernel) ⟨Nat.le_of_ble_eq_true rfl, Nat.le_of_ble_eq_true rfl⟩) rfl rfl (Nat.le_of_ble_eq_true rfl) dX6_all_77 (pc' := 80) rfl ?_
  cases hf
  exact x_iret C hr hlk dX6_all_80
def fX6_all_v2 (h : Hp) (a0 : Nat) (i1 : Int32) (i2 : Int32) (i3 : Int32) : Option (Int32 × Hp) := call (oK h a0 6 (fX6_ruleIn h a0 i1)) fun r1 h2 => if r1 = 0 then (some ((-1 : Int32), h2)) else (if i3 < 0 then (some ((-1 : Int32), h2)) else (if i3 ≤ (4 : Int32) then ((gI h2 r1 1 0).bind fun v3 => call (fX6_ringsOf h2 v3 i2) fun r4 h5 => if r4 = (-1 : Int32) then (some ((-1 : Int32), h5)) else ((gR h5 a0 6 13).bind fun v6 => if v6 = 0 then (none) else (fX6_all_v2_b60 a0 i2 i3 r1 r4 h5))) else (some ((-1 : Int32), h2))))
set_option maxHeartbeats 4000000 in
set_option maxRecDepth 100000 in
theorem mX6_all_v2 {l : Launch} {g : XG} {h : Hp} {a0 : Nat} {i1 : Int32} {i2 : Int32} {i3 : Int32} {res : Int32 × Hp} (hf : fX6_all_v2 h a0 i1 i2 i3 = some res) : XM l g yX6_all wsX6_all 4 98 0 0 [vR a0, vI i1, vI i2, vI i3] h (some (vI res.1)) res.2 := by
  refine x_start (cc := cX6_all) (maxL := 6) (ret := (some .int)) (by decide) rfl (Nat.le_of_ble_eq_true rfl) (lv := [some (vR a0), some (vI i1), some (vI i2), some (vI i3), none, none]) rfl ?_
  intro p e s m args below meth c C hr hlk hnm
  unfold fX6_all_v2 at hf
  refine x_aload_n C dX6_all_0 (pc' := 1) rfl rfl rfl ?_
  refine x_iload_n C dX6_all_1 (pc' := 2) rfl rfl rfl ?_
  obtain ⟨r1, h2, hq, hf⟩ := call_some hf
  obtain ⟨hob, hq⟩ := oK_some hq
  refine x_callV C (As := [vI i1]) (st := []) (r := (some (vR r1))) (h' := h2) (mc := 0) (ms := 0) (k := 0) (n := 0) (mX6_ruleIn hq) hob (ci := 6) rfl (cwV 1 C.1.2.2.2.2 gX6_all_X6_ruleIn rfl rfl rfl (by decide +kernel) ⟨Nat.le_of_ble_eq_true rfl, Nat.le_of_ble_eq_true rfl⟩) rfl rfl (Nat.le_of_ble_eq_true rfl) dX6_all_2 (pc' := 5) rfl ?_
  refine x_astore C dX6_all_5 (pc' := 7) rfl (by decide) rfl (lv' := [some (vR a0), some (vI i1), some (vI i2), some (vI i3), some (vR r1), none]) rfl ?_
  refine x_aload C dX6_all_7 (pc' := 9) rfl rfl ?_
  refine x_ifnull C hf dX6_all_9 (pc' := 12) rfl (tgt := 21) (by decide) (fun _ hf => ?_) (fun _ hf => ?_)
  ·
    refine x_iconst C (v := -1) (by decide) dX6_all_21 (pc' := 22) rfl ?_
    cases hf
    exact x_iret C hr hlk dX6_all_22
  ·
    refine x_iload_n C dX6_all_12 (pc' := 13) rfl rfl rfl ?_
    refine x_if_lt C hf dX6_all_13 (pc' := 16) rfl (tgt := 21) (by decide) (fun _ hf => ?_) (fun _ hf => ?_)
    ·
      refine x_iconst C (v := -1) (by decide) dX6_all_21 (pc' := 22) rfl ?_
      cases hf
      exact x_iret C hr hlk dX6_all_22
    ·
      refine x_iload_n C dX6_all_16 (pc' := 17) rfl rfl rfl ?_
      refine x_iconst C (v := 4) (by decide) dX6_all_17 (pc' := 18) rfl ?_
      refine x_icmp_le C hf dX6_all_18 (pc' := 21) rfl (tgt := 23) (by decide) (fun _ hf => ?_) (fun _ hf => ?_)
      ·
        refine x_aload C dX6_all_23 (pc' := 25) rfl rfl ?_
        refine x_getIN C (ci := 1) (kf := 0) rfl (by decide) hinX6_all_v2_X1 (List.mem_of_getElem? (i := 5) rfl) rfl hf dX6_all_25 (pc' := 28) rfl (fun v3 _ hf => ?_)
        refine x_iload_n C dX6_all_28 (pc' := 29) rfl rfl rfl ?_
        obtain ⟨r4, h5, hq, hf⟩ := call_some hf
        refine x_callS C (As := [vI v3, vI i2]) (st := []) (r := (some (vI r4))) (h' := h5) (mc := 0) (ms := 0) (k := 0) (n := 0) (mX6_ringsOf hq) (va_cwS 2 C.1.2.2.2.2 gX6_all_X6_ringsOf rfl rfl rfl (by decide +kernel) ⟨Nat.le_of_ble_eq_true rfl, Nat.le_of_ble_eq_true rfl⟩) rfl rfl (Nat.le_of_ble_eq_true rfl) dX6_all_29 (pc' := 32) rfl ?_
        refine x_istore C dX6_all_32 (pc' := 34) rfl (by decide) rfl (lv' := [some (vR a0), some (vI i1), some (vI i2), some (vI i3), some (vR r1), some (vI r4)]) rfl ?_
        refine x_iload C dX6_all_34 (pc' := 36) rfl rfl ?_
        refine x_iconst C (v := -1) (by decide) dX6_all_36 (pc' := 37) rfl ?_
        refine x_icmp_ne C hf dX6_all_37 (pc' := 40) rfl (tgt := 42) (by decide) (fun _ hf => ?_) (fun _ hf => ?_)
        ·
          refine x_iconst C (v := -1) (by decide) dX6_all_40 (pc' := 41) rfl ?_
          cases hf
          exact x_iret C hr hlk dX6_all_41
        ·
          refine x_aload_n C dX6_all_42 (pc' := 43) rfl rfl rfl ?_
          refine x_getR C (ci := 6) (kf := 13) rfl (by decide) hinX6_all_v2_X6 lkX6_all_v2_0 rfl hf dX6_all_43 (pc' := 46) rfl (fun v6 _ hf => ?_)
          refine x_ifnonnull C hf dX6_all_46 (pc' := 49) rfl (tgt := 60) (by decide) (fun _ hf => ?_) (fun _ hf => ?_)
          ·
            cases hf
          ·
            refine x_keep [true, false, true, true, true, true] rfl ?_
            refine x_more (k' := 0) (n' := 0) (Nat.le_of_ble_eq_true rfl) (Nat.le_of_ble_eq_true rfl) ?_
            exact mX6_all_v2_b60 C hr hlk hnm a0 i2 i3 r1 r4 h5 hf
      ·
        refine x_iconst C (v := -1) (by decide) dX6_all_21 (pc' := 22) rfl ?_
        cases hf
        exact x_iret C hr hlk dX6_all_22

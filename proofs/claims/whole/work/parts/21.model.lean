-- ===== X7_behind
theorem lkX7_behind_0 : Cond.fieldLink RX7 113 "MossRingsModel" "outMany" "I" ∈ wsX7_behind := by decide +kernel
theorem hinX7_behind_X7 : ∀ w ∈ u_ws RX7 TX7 27, w ∈ wsX7_behind := by decide +kernel
theorem lkX7_behind_1 : Cond.fieldLink RX7 23 "MossRingsModel" "out" "[B" ∈ wsX7_behind := by decide +kernel
theorem lkX7_behind_2 : Cond.fieldLink RX7 26 "MossRingsModel" "cells" "[I" ∈ wsX7_behind := by decide +kernel
theorem lkX7_behind_3 : Cond.fieldLink RX7 91 "MossRingsModel" "size" "I" ∈ wsX7_behind := by decide +kernel
theorem lkX7_behind_4 : Cond.fieldLink RX7 17 "MossRingsModel" "widths" "[I" ∈ wsX7_behind := by decide +kernel
theorem lkX7_behind_5 : Cond.fieldLink RX7 32 "MossRingsModel" "ways" "[J" ∈ wsX7_behind := by decide +kernel
theorem lkX7_behind_6 : Cond.fieldLink RX7 80 "MossRingsModel" "thrown" "I" ∈ wsX7_behind := by decide +kernel
theorem lkX7_behind_7 : Cond.constantLong RX7 147 (-1 : Int64) ∈ wsX7_behind := by decide +kernel
def fX7_behind_w128 : Nat → Nat → Int64 → Int32 → Hp → Option (Int64 × Hp)
  | 0 => fun _ _ _ _ => none
  | n + 1 => fun a0 j2 i5 h => (gI h a0 7 8).bind fun v1 => if v1 ≤ i5 then (some (j2, h)) else ((gR h a0 7 7).bind fun v2 => (gR h a0 7 9).bind fun v3 => (aI h v3 0 i5).bind fun v4 => (sI h v2 1 i5 (v4).toInt8.toInt32).bind fun h5 => (fX7_behind_w128 n) a0 j2 (i5 + 1) h5)
set_option maxHeartbeats 4000000 in
set_option maxRecDepth 100000 in
theorem mX7_behind_w128 {g : XG} {p : Program} {l : Launch} {e : Env} {s : State} {m : MethodId} {args : Array Value} {below : List Frame} {meth : Method} {c : Code} (C : x_C g p s m args c cX7_behind RX7 6 wsX7_behind) (hr : meth.sig.returnType = (some .long)) (hlk : meth.locks = false) (hnm : meth.name = yX7_behind.name) {res : Int64 × Hp} : ∀ (n : Nat) (a0 : Nat) (j2 : Int64) (i5 : Int32) (h : Hp), fX7_behind_w128 n a0 j2 i5 h = some res → XW g p l e { frames := 4, cells := 0, slots := 0, locals := 95 } s m args below meth c (MQ below (x_Q g (some (vL res.1)) res.2) args s 0 0 (x_A g)) 6 0 0 h 128 [some (vR a0), none, some (vL j2), none, none, some (vI i5)] [] := by
  intro n
  induction n with
  | zero =>
    intro a0 j2 i5 h hf
    have hf2 : (none : Option (Int64 × Hp)) = some res := hf
    cases hf2
  | succ n ih =>
    intro a0 j2 i5 h hf
    rw [fX7_behind_w128] at hf
    refine x_iload C dX7_behind_128 (pc' := 130) rfl rfl ?_
    refine x_aload_n C dX7_behind_130 (pc' := 131) rfl rfl rfl ?_
    refine x_getI C (ci := 7) (kf := 8) rfl (by decide) hinX7_behind_X7 lkX7_behind_0 rfl hf dX7_behind_131 (pc' := 134) rfl (fun v1 _ hf => ?_)
    refine x_icmp_ge C hf dX7_behind_134 (pc' := 137) rfl (tgt := 158) (by decide) (fun _ hf => ?_) (fun _ hf => ?_)
    ·
      refine x_lload_n C dX7_behind_158 (pc' := 159) rfl rfl rfl ?_
      cases hf
      exact x_lret C hr hlk dX7_behind_159
    ·
      refine x_aload_n C dX7_behind_137 (pc' := 138) rfl rfl rfl ?_
      refine x_getR C (ci := 7) (kf := 7) rfl (by decide) hinX7_behind_X7 lkX7_behind_1 rfl hf dX7_behind_138 (pc' := 141) rfl (fun v2 _ hf => ?_)
      refine x_iload C dX7_behind_141 (pc' := 143) rfl rfl ?_
      refine x_aload_n C dX7_behind_143 (pc' := 144) rfl rfl rfl ?_
      refine x_getR C (ci := 7) (kf := 9) rfl (by decide) hinX7_behind_X7 lkX7_behind_2 rfl hf dX7_behind_144 (pc' := 147) rfl (fun v3 _ hf => ?_)
      refine x_iload C dX7_behind_147 (pc' := 149) rfl rfl ?_
      refine x_iaload C hf dX7_behind_149 (pc' := 150) rfl (fun v4 _ hf => ?_)
      refine x_i2b C dX7_behind_150 (pc' := 151) rfl ?_
      refine x_bastoreB C hf dX7_behind_151 (pc' := 152) rfl (fun h5 _ hf => ?_)
      refine x_iinc C dX7_behind_152 (pc' := 155) rfl rfl (v := (i5 + 1)) rfl (by decide) rfl (lv' := [some (vR a0), none, some (vL j2), none, none, some (vI (i5 + 1))]) rfl ?_
      refine x_goto C dX7_behind_155 (tgt := 128) (by decide) ?_
      exact ih a0 j2 (i5 + 1) h5 hf
def fX7_behind_b93 (a0 : Nat) (i1 : Int32) (j2 : Int64) (i4 : Int32) (h : Hp) : Option (Int64 × Hp) := if (lg_cmp j2 (0 : Int64)) = 0 then (some ((0 : Int64), h)) else ((oK h a0 7 (fX7_first h a0 i1 i4)).bind fun h2 => (gI h2 a0 7 3).bind fun v3 => (gR h2 a0 7 5).bind fun v4 => (aI h2 v4 0 i1).bind fun v5 => (pF h2 a0 7 8 (vI ((v3 + v5) - (1 : Int32)))).bind fun h6 => fX7_behind_w128 FUEL a0 j2 (0 : Int32) h6)
set_option maxHeartbeats 4000000 in
set_option maxRecDepth 100000 in
theorem mX7_behind_b93 {g : XG} {p : Program} {l : Launch} {e : Env} {s : State} {m : MethodId} {args : Array Value} {below : List Frame} {meth : Method} {c : Code} (C : x_C g p s m args c cX7_behind RX7 6 wsX7_behind) (hr : meth.sig.returnType = (some .long)) (hlk : meth.locks = false) (hnm : meth.name = yX7_behind.name) {res : Int64 × Hp} (a0 : Nat) (i1 : Int32) (j2 : Int64) (i4 : Int32) (h : Hp) (hf : fX7_behind_b93 a0 i1 j2 i4 h = some res) : XW g p l e { frames := 4, cells := 0, slots := 0, locals := 95 } s m args below meth c (MQ below (x_Q g (some (vL res.1)) res.2) args s 0 0 (x_A g)) 6 0 0 h 93 [some (vR a0), some (vI i1), some (vL j2), none, some (vI i4), none] [] := by
  unfold fX7_behind_b93 at hf
  refine x_lload_n C dX7_behind_93 (pc' := 94) rfl rfl rfl ?_
  refine x_lconst C (v := 0) (by decide) dX7_behind_94 (pc' := 95) rfl ?_
  refine x_lcmp C dX7_behind_95 (pc' := 96) rfl ?_
  refine x_if_ne C hf dX7_behind_96 (pc' := 99) rfl (tgt := 101) (by decide) (fun _ hf => ?_) (fun _ hf => ?_)
  ·
    refine x_lconst C (v := 0) (by decide) dX7_behind_99 (pc' := 100) rfl ?_
    cases hf
    exact x_lret C hr hlk dX7_behind_100
  ·
    refine x_aload_n C dX7_behind_101 (pc' := 102) rfl rfl rfl ?_
    refine x_iload_n C dX7_behind_102 (pc' := 103) rfl rfl rfl ?_
    refine x_iload C dX7_behind_103 (pc' := 105) rfl rfl ?_
    obtain ⟨h2, hq, hf⟩ := bind_some hf
    obtain ⟨hob, hq⟩ := oK_some hq
    refine x_callV C (As := [vI i1, vI i4]) (st := []) (r := none) (h' := h2) (mc := 0) (ms := 0) (k := 0) (n := 0) (mX7_first hq) hob (ci := 7) rfl (cwV 2 C.1.2.2.2.2 gX7_behind_X7_first rfl rfl rfl (by decide +kernel) ⟨Nat.le_of_ble_eq_true rfl, Nat.le_of_ble_eq_true rfl⟩) rfl rfl (Nat.le_of_ble_eq_true rfl) dX7_behind_105 (pc' := 108) rfl ?_
    refine x_aload_n C dX7_behind_108 (pc' := 109) rfl rfl rfl ?_
    refine x_aload_n C dX7_behind_109 (pc' := 110) rfl rfl rfl ?_
    refine x_getI C (ci := 7) (kf := 3) rfl (by decide) hinX7_behind_X7 lkX7_behind_3 rfl hf dX7_behind_110 (pc' := 113) rfl (fun v3 _ hf => ?_)
    refine x_aload_n C dX7_behind_113 (pc' := 114) rfl rfl rfl ?_
    refine x_getR C (ci := 7) (kf := 5) rfl (by decide) hinX7_behind_X7 lkX7_behind_4 rfl hf dX7_behind_114 (pc' := 117) rfl (fun v4 _ hf => ?_)
    refine x_iload_n C dX7_behind_117 (pc' := 118) rfl rfl rfl ?_
    refine x_iaload C hf dX7_behind_118 (pc' := 119) rfl (fun v5 _ hf => ?_)
    refine x_iadd C dX7_behind_119 (pc' := 120) rfl ?_
    refine x_iconst C (v := 1) (by decide) dX7_behind_120 (pc' := 121) rfl ?_
    refine x_isub C dX7_behind_121 (pc' := 122) rfl ?_
    refine x_put C (ci := 7) (kf := 8) rfl (by decide) hinX7_behind_X7 tyX7 tyX7_ok nmX7 lkX7_behind_0 rfl (Or.inl rfl) rfl hf dX7_behind_122 (pc' := 125) rfl (fun h6 _ hf => ?_)
    refine x_iconst C (v := 0) (by decide) dX7_behind_125 (pc' := 126) rfl ?_
    refine x_istore C dX7_behind_126 (pc' := 128) rfl (by decide) rfl (lv' := [some (vR a0), some (vI i1), some (vL j2), none, some (vI i4), some (vI (0 : Int32))]) rfl ?_
    refine x_keep [true, false, true, false, false, true] rfl ?_
    refine x_more (k' := 0) (n' := 0) (Nat.le_of_ble_eq_true rfl) (Nat.le_of_ble_eq_true rfl) ?_
    exact mX7_behind_w128 C hr hlk hnm FUEL a0 j2 (0 : Int32) h6 hf
def fX7_behind_b87 (w46 : Nat → Int32 → Int64 → Int32 → Int32 → Hp → Option (Int64 × Hp)) (a0 : Nat) (i1 : Int32) (j2 : Int64) (i4 : Int32) (i5 : Int32) (h : Hp) : Option (Int64 × Hp) := w46 a0 i1 j2 i4 (i5 + 1) h
set_option maxHeartbeats 4000000 in
set_option maxRecDepth 100000 in
theorem mX7_behind_b87 {g : XG} {p : Program} {l : Launch} {e : Env} {s : State} {m : MethodId} {args : Array Value} {below : List Frame} {meth : Method} {c : Code} (C : x_C g p s m args c cX7_behind RX7 6 wsX7_behind) (hr : meth.sig.returnType = (some .long)) (hlk : meth.locks = false) (hnm : meth.name = yX7_behind.name) {res : Int64 × Hp} (w46 : Nat → Int32 → Int64 → Int32 → Int32 → Hp → Option (Int64 × Hp)) (hw46 : ∀ (a0 : Nat) (i1 : Int32) (j2 : Int64) (i4 : Int32) (i5 : Int32) (h : Hp), w46 a0 i1 j2 i4 i5 h = some res → XW g p l e { frames := 4, cells := 0, slots := 0, locals := 95 } s m args below meth c (MQ below (x_Q g (some (vL res.1)) res.2) args s 0 0 (x_A g)) 6 0 0 h 46 [some (vR a0), some (vI i1), some (vL j2), none, some (vI i4), some (vI i5)] []) (a0 : Nat) (i1 : Int32) (j2 : Int64) (i4 : Int32) (i5 : Int32) (h : Hp) (hf : fX7_behind_b87 w46 a0 i1 j2 i4 i5 h = some res) : XW g p l e { frames := 4, cells := 0, slots := 0, locals := 95 } s m args below meth c (MQ below (x_Q g (some (vL res.1)) res.2) args s 0 0 (x_A g)) 6 0 0 h 87 [some (vR a0), some (vI i1), some (vL j2), none, some (vI i4), some (vI i5)] [] := by
  unfold fX7_behind_b87 at hf
  refine x_iinc C dX7_behind_87 (pc' := 90) rfl rfl (v := (i5 + 1)) rfl (by decide) rfl (lv' := [some (vR a0), some (vI i1), some (vL j2), none, some (vI i4), some (vI (i5 + 1))]) rfl ?_
  refine x_goto C dX7_behind_90 (tgt := 46) (by decide) ?_
  exact hw46 a0 i1 j2 i4 (i5 + 1) h hf
def fX7_behind_w46 : Nat → Nat → Int32 → Int64 → Int32 → Int32 → Hp → Option (Int64 × Hp)
  | 0 => fun _ _ _ _ _ _ => none
  | n + 1 => fun a0 i1 j2 i4 i5 h => call (oK h a0 7 (fX7_overlaps h a0 i1)) fun r1 h2 => if r1 ≤ i5 then (fX7_behind_b93 a0 i1 j2 i4 h2) else ((gR h2 a0 7 11).bind fun v3 => (aL h2 v3 i5).bind fun v4 => setv ((j2 + v4)) fun v5 => if 0 ≤ i4 then (fX7_behind_b87 (fX7_behind_w46 n) a0 i1 v5 i4 i5 h2) else ((gR h2 a0 7 11).bind fun v6 => (aL h2 v6 i5).bind fun v7 => if (lg_cmp v7 (0 : Int64)) ≤ 0 then (fX7_behind_b87 (fX7_behind_w46 n) a0 i1 v5 i4 i5 h2) else (fX7_behind_b87 (fX7_behind_w46 n) a0 i1 v5 i5 i5 h2)))
set_option maxHeartbeats 4000000 in
set_option maxRecDepth 100000 in
theorem mX7_behind_w46 {g : XG} {p : Program} {l : Launch} {e : Env} {s : State} {m : MethodId} {args : Array Value} {below : List Frame} {meth : Method} {c : Code} (C : x_C g p s m args c cX7_behind RX7 6 wsX7_behind) (hr : meth.sig.returnType = (some .long)) (hlk : meth.locks = false) (hnm : meth.name = yX7_behind.name) {res : Int64 × Hp} : ∀ (n : Nat) (a0 : Nat) (i1 : Int32) (j2 : Int64) (i4 : Int32) (i5 : Int32) (h : Hp), fX7_behind_w46 n a0 i1 j2 i4 i5 h = some res → XW g p l e { frames := 4, cells := 0, slots := 0, locals := 95 } s m args below meth c (MQ below (x_Q g (some (vL res.1)) res.2) args s 0 0 (x_A g)) 6 0 0 h 46 [some (vR a0), some (vI i1), some (vL j2), none, some (vI i4), some (vI i5)] [] := by
  intro n
  induction n with
  | zero =>
    intro a0 i1 j2 i4 i5 h hf
    have hf2 : (none : Option (Int64 × Hp)) = some res := hf
    cases hf2
  | succ n ih =>
    intro a0 i1 j2 i4 i5 h hf
    rw [fX7_behind_w46] at hf
    refine x_iload C dX7_behind_46 (pc' := 48) rfl rfl ?_
    refine x_aload_n C dX7_behind_48 (pc' := 49) rfl rfl rfl ?_
    refine x_iload_n C dX7_behind_49 (pc' := 50) rfl rfl rfl ?_
    obtain ⟨r1, h2, hq, hf⟩ := call_some hf
    obtain ⟨hob, hq⟩ := oK_some hq
    refine x_callV C (As := [vI i1]) (st := [vI i5]) (r := (some (vI r1))) (h' := h2) (mc := 0) (ms := 0) (k := 0) (n := 0) (mX7_overlaps hq) hob (ci := 7) rfl (cwV 1 C.1.2.2.2.2 gX7_behind_X7_overlaps rfl rfl rfl (by decide +kernel) ⟨Nat.le_of_ble_eq_true rfl, Nat.le_of_ble_eq_true rfl⟩) rfl rfl (Nat.le_of_ble_eq_true rfl) dX7_behind_50 (pc' := 53) rfl ?_
    refine x_icmp_ge C hf dX7_behind_53 (pc' := 56) rfl (tgt := 93) (by decide) (fun _ hf => ?_) (fun _ hf => ?_)
    ·
      refine x_keep [true, true, true, false, true, false] rfl ?_
      refine x_more (k' := 0) (n' := 0) (Nat.le_of_ble_eq_true rfl) (Nat.le_of_ble_eq_true rfl) ?_
      exact mX7_behind_b93 C hr hlk hnm a0 i1 j2 i4 h2 hf
    ·
      refine x_lload_n C dX7_behind_56 (pc' := 57) rfl rfl rfl ?_
      refine x_aload_n C dX7_behind_57 (pc' := 58) rfl rfl rfl ?_
      refine x_getR C (ci := 7) (kf := 11) rfl (by decide) hinX7_behind_X7 lkX7_behind_5 rfl hf dX7_behind_58 (pc' := 61) rfl (fun v3 _ hf => ?_)
      refine x_iload C dX7_behind_61 (pc' := 63) rfl rfl ?_
      refine x_laload C hf dX7_behind_63 (pc' := 64) rfl (fun v4 _ hf => ?_)
      refine x_ladd C dX7_behind_64 (pc' := 65) rfl ?_
      refine x_nameL hf (fun v5 _ hf => ?_)
      refine x_lstore_n C dX7_behind_65 (pc' := 66) rfl rfl (by decide) rfl (lv' := [some (vR a0), some (vI i1), some (vL v5), none, some (vI i4), some (vI i5)]) rfl ?_
      refine x_iload C dX7_behind_66 (pc' := 68) rfl rfl ?_
      refine x_if_ge C hf dX7_behind_68 (pc' := 71) rfl (tgt := 87) (by decide) (fun _ hf => ?_) (fun _ hf => ?_)
      ·
        refine x_more (k' := 0) (n' := 0) (Nat.le_of_ble_eq_true rfl) (Nat.le_of_ble_eq_true rfl) ?_
        exact mX7_behind_b87 C hr hlk hnm (fX7_behind_w46 n) ih a0 i1 v5 i4 i5 h2 hf
      ·
        refine x_aload_n C dX7_behind_71 (pc' := 72) rfl rfl rfl ?_
        refine x_getR C (ci := 7) (kf := 11) rfl (by decide) hinX7_behind_X7 lkX7_behind_5 rfl hf dX7_behind_72 (pc' := 75) rfl (fun v6 _ hf => ?_)
        refine x_iload C dX7_behind_75 (pc' := 77) rfl rfl ?_
        refine x_laload C hf dX7_behind_77 (pc' := 78) rfl (fun v7 _ hf => ?_)
        refine x_lconst C (v := 0) (by decide) dX7_behind_78 (pc' := 79) rfl ?_
        refine x_lcmp C dX7_behind_79 (pc' := 80) rfl ?_
        refine x_if_le C hf dX7_behind_80 (pc' := 83) rfl (tgt := 87) (by decide) (fun _ hf => ?_) (fun _ hf => ?_)
        ·
          refine x_more (k' := 0) (n' := 0) (Nat.le_of_ble_eq_true rfl) (Nat.le_of_ble_eq_true rfl) ?_
          exact mX7_behind_b87 C hr hlk hnm (fX7_behind_w46 n) ih a0 i1 v5 i4 i5 h2 hf
        ·
          refine x_iload C dX7_behind_83 (pc' := 85) rfl rfl ?_
          refine x_istore C dX7_behind_85 (pc' := 87) rfl (by decide) rfl (lv' := [some (vR a0), some (vI i1), some (vL v5), none, some (vI i5), some (vI i5)]) rfl ?_
          refine x_more (k' := 0) (n' := 0) (Nat.le_of_ble_eq_true rfl) (Nat.le_of_ble_eq_true rfl) ?_
          exact mX7_behind_b87 C hr hlk hnm (fX7_behind_w46 n) ih a0 i1 v5 i5 i5 h2 hf
def fX7_behind (h : Hp) (a0 : Nat) (i1 : Int32) : Option (Int64 × Hp) := (pF h a0 7 0 (vI (0 : Int32))).bind fun h1 => (oK h1 a0 7 (fX7_taken h1 a0)).bind fun h3 => call (oK h3 a0 7 (fX7_has h3 a0 i1)) fun r4 h5 => if r4 = 0 then (some ((-1 : Int64), h5)) else (call (oK h5 a0 7 (fX7_areStates h5 a0 i1 (1 : Int32) (20 : Int32))) fun r6 h7 => if r6 = 0 then (some ((-1 : Int64), h7)) else ((oK h7 a0 7 (fX7_count h7 a0 i1 (-1 : Int32))).bind fun h9 => fX7_behind_w46 FUEL a0 i1 (0 : Int64) (-1 : Int32) (0 : Int32) h9))
set_option maxHeartbeats 4000000 in
set_option maxRecDepth 100000 in
theorem mX7_behind {l : Launch} {g : XG} {h : Hp} {a0 : Nat} {i1 : Int32} {res : Int64 × Hp} (hf : fX7_behind h a0 i1 = some res) : XM l g yX7_behind wsX7_behind 4 95 0 0 [vR a0, vI i1] h (some (vL res.1)) res.2 := by
  refine x_start (cc := cX7_behind) (maxL := 6) (ret := (some .long)) (by decide) rfl (Nat.le_of_ble_eq_true rfl) (lv := [some (vR a0), some (vI i1), none, none, none, none]) rfl ?_
  intro p e s m args below meth c C hr hlk hnm
  unfold fX7_behind at hf
  refine x_aload_n C dX7_behind_0 (pc' := 1) rfl rfl rfl ?_
  refine x_iconst C (v := 0) (by decide) dX7_behind_1 (pc' := 2) rfl ?_
  refine x_put C (ci := 7) (kf := 0) rfl (by decide) hinX7_behind_X7 tyX7 tyX7_ok nmX7 lkX7_behind_6 rfl (Or.inl rfl) rfl hf dX7_behind_2 (pc' := 5) rfl (fun h1 _ hf => ?_)
  refine x_aload_n C dX7_behind_5 (pc' := 6) rfl rfl rfl ?_
  obtain ⟨h3, hq, hf⟩ := bind_some hf
  obtain ⟨hob, hq⟩ := oK_some hq
  refine x_callV C (As := []) (st := []) (r := none) (h' := h3) (mc := 0) (ms := 0) (k := 0) (n := 0) (mX7_taken hq) hob (ci := 7) rfl (cwV 0 C.1.2.2.2.2 gX7_behind_X7_taken rfl rfl rfl (by decide +kernel) ⟨Nat.le_of_ble_eq_true rfl, Nat.le_of_ble_eq_true rfl⟩) rfl rfl (Nat.le_of_ble_eq_true rfl) dX7_behind_6 (pc' := 9) rfl ?_
  refine x_aload_n C dX7_behind_9 (pc' := 10) rfl rfl rfl ?_
  refine x_iload_n C dX7_behind_10 (pc' := 11) rfl rfl rfl ?_
  obtain ⟨r4, h5, hq, hf⟩ := call_some hf
  obtain ⟨hob, hq⟩ := oK_some hq
  refine x_callV C (As := [vI i1]) (st := []) (r := (some (vI r4))) (h' := h5) (mc := 0) (ms := 0) (k := 0) (n := 0) (mX7_has hq) hob (ci := 7) rfl (cwV 1 C.1.2.2.2.2 gX7_behind_X7_has rfl rfl rfl (by decide +kernel) ⟨Nat.le_of_ble_eq_true rfl, Nat.le_of_ble_eq_true rfl⟩) rfl rfl (Nat.le_of_ble_eq_true rfl) dX7_behind_11 (pc' := 14) rfl ?_
  refine x_if_eq C hf dX7_behind_14 (pc' := 17) rfl (tgt := 28) (by decide) (fun _ hf => ?_) (fun _ hf => ?_)
  ·
    refine x_ldc2 C lkX7_behind_7 dX7_behind_28 (pc' := 31) rfl ?_
    cases hf
    exact x_lret C hr hlk dX7_behind_31
  ·
    refine x_aload_n C dX7_behind_17 (pc' := 18) rfl rfl rfl ?_
    refine x_iload_n C dX7_behind_18 (pc' := 19) rfl rfl rfl ?_
    refine x_iconst C (v := 1) (by decide) dX7_behind_19 (pc' := 20) rfl ?_
    refine x_bipush C (v := 20) (by decide) dX7_behind_20 (pc' := 22) rfl ?_
    obtain ⟨r6, h7, hq, hf⟩ := call_some hf
    obtain ⟨hob, hq⟩ := oK_some hq
    refine x_callV C (As := [vI i1, vI (1 : Int32), vI (20 : Int32)]) (st := []) (r := (some (vI r6))) (h' := h7) (mc := 0) (ms := 0) (k := 0) (n := 0) (mX7_areStates hq) hob (ci := 7) rfl (cwV 3 C.1.2.2.2.2 gX7_behind_X7_areStates rfl rfl rfl (by decide +kernel) ⟨Nat.le_of_ble_eq_true rfl, Nat.le_of_ble_eq_true rfl⟩) rfl rfl (Nat.le_of_ble_eq_true rfl) dX7_behind_22 (pc' := 25) rfl ?_
    refine x_if_ne C hf dX7_behind_25 (pc' := 28) rfl (tgt := 32) (by decide) (fun _ hf => ?_) (fun _ hf => ?_)
    ·
      refine x_ldc2 C lkX7_behind_7 dX7_behind_28 (pc' := 31) rfl ?_
      cases hf
      exact x_lret C hr hlk dX7_behind_31
    ·
      refine x_aload_n C dX7_behind_32 (pc' := 33) rfl rfl rfl ?_
      refine x_iload_n C dX7_behind_33 (pc' := 34) rfl rfl rfl ?_
      refine x_iconst C (v := -1) (by decide) dX7_behind_34 (pc' := 35) rfl ?_
      obtain ⟨h9, hq, hf⟩ := bind_some hf
      obtain ⟨hob, hq⟩ := oK_some hq
      refine x_callV C (As := [vI i1, vI (-1 : Int32)]) (st := []) (r := none) (h' := h9) (mc := 0) (ms := 0) (k := 0) (n := 0) (mX7_count hq) hob (ci := 7) rfl (cwV 2 C.1.2.2.2.2 gX7_behind_X7_count rfl rfl rfl (by decide +kernel) ⟨Nat.le_of_ble_eq_true rfl, Nat.le_of_ble_eq_true rfl⟩) rfl rfl (Nat.le_of_ble_eq_true rfl) dX7_behind_35 (pc' := 38) rfl ?_
      refine x_lconst C (v := 0) (by decide) dX7_behind_38 (pc' := 39) rfl ?_
      refine x_lstore_n C dX7_behind_39 (pc' := 40) rfl rfl (by decide) rfl (lv' := [some (vR a0), some (vI i1), some (vL (0 : Int64)), none, none, none]) rfl ?_
      refine x_iconst C (v := -1) (by decide) dX7_behind_40 (pc' := 41) rfl ?_
      refine x_istore C dX7_behind_41 (pc' := 43) rfl (by decide) rfl (lv' := [some (vR a0), some (vI i1), some (vL (0 : Int64)), none, some (vI (-1 : Int32)), none]) rfl ?_
      refine x_iconst C (v := 0) (by decide) dX7_behind_43 (pc' := 44) rfl ?_
      refine x_istore C dX7_behind_44 (pc' := 46) rfl (by decide) rfl (lv' := [some (vR a0), some (vI i1), some (vL (0 : Int64)), none, some (vI (-1 : Int32)), some (vI (0 : Int32))]) rfl ?_
      refine x_more (k' := 0) (n' := 0) (Nat.le_of_ble_eq_true rfl) (Nat.le_of_ble_eq_true rfl) ?_
      exact mX7_behind_w46 C hr hlk hnm FUEL a0 i1 (0 : Int64) (-1 : Int32) (0 : Int32) h9 hf
-- ===== X7_ringsBehind
theorem lkX7_ringsBehind_0 : Cond.fieldLink RX7 32 "MossRingsModel" "ways" "[J" ∈ wsX7_ringsBehind := by decide +kernel
theorem hinX7_ringsBehind_X7 : ∀ w ∈ u_ws RX7 TX7 27, w ∈ wsX7_ringsBehind := by decide +kernel
theorem lkX7_ringsBehind_1 : Cond.fieldLink RX7 91 "MossRingsModel" "size" "I" ∈ wsX7_ringsBehind := by decide +kernel
theorem lkX7_ringsBehind_2 : Cond.fieldLink RX7 23 "MossRingsModel" "out" "[B" ∈ wsX7_ringsBehind := by decide +kernel
theorem lkX7_ringsBehind_3 : Cond.fieldLink RX7 26 "MossRingsModel" "cells" "[I" ∈ wsX7_ringsBehind := by decide +kernel
theorem lkX7_ringsBehind_4 : Cond.fieldLink RX7 113 "MossRingsModel" "outMany" "I" ∈ wsX7_ringsBehind := by decide +kernel
theorem lkX7_ringsBehind_5 : Cond.fieldLink RX7 80 "MossRingsModel" "thrown" "I" ∈ wsX7_ringsBehind := by decide +kernel
theorem lkX7_ringsBehind_6 : Cond.constantLong RX7 147 (-1 : Int64) ∈ wsX7_ringsBehind := by decide +kernel
def fX7_ringsBehind_b133 (w37 : Nat → Int32 → Int64 → Int32 → Hp → Option (Int64 × Hp)) (a0 : Nat) (i1 : Int32) (j2 : Int64) (i4 : Int32) (h : Hp) : Option (Int64 × Hp) := w37 a0 i1 j2 (i4 + 1) h
set_option maxHeartbeats 4000000 in
set_option maxRecDepth 100000 in
theorem mX7_ringsBehind_b133 {g : XG} {p : Program} {l : Launch} {e : Env} {s : State} {m : MethodId} {args : Array Value} {below : List Frame} {meth : Method} {c : Code} (C : x_C g p s m args c cX7_ringsBehind RX7 6 wsX7_ringsBehind) (hr : meth.sig.returnType = (some .long)) (hlk : meth.locks = false) (hnm : meth.name = yX7_ringsBehind.name) {res : Int64 × Hp} (w37 : Nat → Int32 → Int64 → Int32 → Hp → Option (Int64 × Hp)) (hw37 : ∀ (a0 : Nat) (i1 : Int32) (j2 : Int64) (i4 : Int32) (h : Hp), w37 a0 i1 j2 i4 h = some res → XW g p l e { frames := 4, cells := 0, slots := 0, locals := 95 } s m args below meth c (MQ below (x_Q g (some (vL res.1)) res.2) args s 0 0 (x_A g)) 6 0 0 h 37 [some (vR a0), some (vI i1), some (vL j2), none, some (vI i4), none] []) (a0 : Nat) (i1 : Int32) (j2 : Int64) (i4 : Int32) (h : Hp) (hf : fX7_ringsBehind_b133 w37 a0 i1 j2 i4 h = some res) : XW g p l e { frames := 4, cells := 0, slots := 0, locals := 95 } s m args below meth c (MQ below (x_Q g (some (vL res.1)) res.2) args s 0 0 (x_A g)) 6 0 0 h 133 [some (vR a0), some (vI i1), some (vL j2), none, some (vI i4), none] [] := by
  unfold fX7_ringsBehind_b133 at hf
  refine x_iinc C dX7_ringsBehind_133 (pc' := 136) rfl rfl (v := (i4 + 1)) rfl (by decide) rfl (lv' := [some (vR a0), some (vI i1), some (vL j2), none, some (vI (i4 + 1)), none]) rfl ?_
  refine x_goto C dX7_ringsBehind_136 (tgt := 37) (by decide) ?_
  exact hw37 a0 i1 j2 (i4 + 1) h hf
def fX7_ringsBehind_b123 (w37 : Nat → Int32 → Int64 → Int32 → Hp → Option (Int64 × Hp)) (a0 : Nat) (i1 : Int32) (j2 : Int64) (i4 : Int32) (h : Hp) : Option (Int64 × Hp) := (gR h a0 7 11).bind fun v1 => (aL h v1 i4).bind fun v2 => setv ((j2 + v2)) fun v3 => fX7_ringsBehind_b133 w37 a0 i1 v3 i4 h
set_option maxHeartbeats 4000000 in
set_option maxRecDepth 100000 in
theorem mX7_ringsBehind_b123 {g : XG} {p : Program} {l : Launch} {e : Env} {s : State} {m : MethodId} {args : Array Value} {below : List Frame} {meth : Method} {c : Code} (C : x_C g p s m args c cX7_ringsBehind RX7 6 wsX7_ringsBehind) (hr : meth.sig.returnType = (some .long)) (hlk : meth.locks = false) (hnm : meth.name = yX7_ringsBehind.name) {res : Int64 × Hp} (w37 : Nat → Int32 → Int64 → Int32 → Hp → Option (Int64 × Hp)) (hw37 : ∀ (a0 : Nat) (i1 : Int32) (j2 : Int64) (i4 : Int32) (h : Hp), w37 a0 i1 j2 i4 h = some res → XW g p l e { frames := 4, cells := 0, slots := 0, locals := 95 } s m args below meth c (MQ below (x_Q g (some (vL res.1)) res.2) args s 0 0 (x_A g)) 6 0 0 h 37 [some (vR a0), some (vI i1), some (vL j2), none, some (vI i4), none] []) (a0 : Nat) (i1 : Int32) (j2 : Int64) (i4 : Int32) (h : Hp) (hf : fX7_ringsBehind_b123 w37 a0 i1 j2 i4 h = some res) : XW g p l e { frames := 4, cells := 0, slots := 0, locals := 95 } s m args below meth c (MQ below (x_Q g (some (vL res.1)) res.2) args s 0 0 (x_A g)) 6 0 0 h 123 [some (vR a0), some (vI i1), some (vL j2), none, some (vI i4), none] [] := by
  unfold fX7_ringsBehind_b123 at hf
  refine x_lload_n C dX7_ringsBehind_123 (pc' := 124) rfl rfl rfl ?_
  refine x_aload_n C dX7_ringsBehind_124 (pc' := 125) rfl rfl rfl ?_
  refine x_getR C (ci := 7) (kf := 11) rfl (by decide) hinX7_ringsBehind_X7 lkX7_ringsBehind_0 rfl hf dX7_ringsBehind_125 (pc' := 128) rfl (fun v1 _ hf => ?_)
  refine x_iload C dX7_ringsBehind_128 (pc' := 130) rfl rfl ?_
  refine x_laload C hf dX7_ringsBehind_130 (pc' := 131) rfl (fun v2 _ hf => ?_)
  refine x_ladd C dX7_ringsBehind_131 (pc' := 132) rfl ?_
  refine x_nameL hf (fun v3 _ hf => ?_)
  refine x_lstore_n C dX7_ringsBehind_132 (pc' := 133) rfl rfl (by decide) rfl (lv' := [some (vR a0), some (vI i1), some (vL v3), none, some (vI i4), none]) rfl ?_
  refine x_more (k' := 0) (n' := 0) (Nat.le_of_ble_eq_true rfl) (Nat.le_of_ble_eq_true rfl) ?_
  exact mX7_ringsBehind_b133 C hr hlk hnm w37 hw37 a0 i1 v3 i4 h hf
def fX7_ringsBehind_w93 (w37 : Nat → Int32 → Int64 → Int32 → Hp → Option (Int64 × Hp)) : Nat → Nat → Int32 → Int64 → Int32 → Int32 → Hp → Option (Int64 × Hp)
  | 0 => fun _ _ _ _ _ _ => none
  | n + 1 => fun a0 i1 j2 i4 i5 h => (gI h a0 7 3).bind fun v1 => if v1 ≤ i5 then (fX7_ringsBehind_b123 w37 a0 i1 j2 i4 h) else ((gR h a0 7 7).bind fun v2 => (gR h a0 7 9).bind fun v3 => (aI h v3 0 i5).bind fun v4 => (sI h v2 1 i5 (v4).toInt8.toInt32).bind fun h5 => (fX7_ringsBehind_w93 w37 n) a0 i1 j2 i4 (i5 + 1) h5)
set_option maxHeartbeats 4000000 in
set_option maxRecDepth 100000 in
theorem mX7_ringsBehind_w93 {g : XG} {p : Program} {l : Launch} {e : Env} {s : State} {m : MethodId} {args : Array Value} {below : List Frame} {meth : Method} {c : Code} (C : x_C g p s m args c cX7_ringsBehind RX7 6 wsX7_ringsBehind) (hr : meth.sig.returnType = (some .long)) (hlk : meth.locks = false) (hnm : meth.name = yX7_ringsBehind.name) {res : Int64 × Hp} (w37 : Nat → Int32 → Int64 → Int32 → Hp → Option (Int64 × Hp)) (hw37 : ∀ (a0 : Nat) (i1 : Int32) (j2 : Int64) (i4 : Int32) (h : Hp), w37 a0 i1 j2 i4 h = some res → XW g p l e { frames := 4, cells := 0, slots := 0, locals := 95 } s m args below meth c (MQ below (x_Q g (some (vL res.1)) res.2) args s 0 0 (x_A g)) 6 0 0 h 37 [some (vR a0), some (vI i1), some (vL j2), none, some (vI i4), none] []) : ∀ (n : Nat) (a0 : Nat) (i1 : Int32) (j2 : Int64) (i4 : Int32) (i5 : Int32) (h : Hp), fX7_ringsBehind_w93 w37 n a0 i1 j2 i4 i5 h = some res → XW g p l e { frames := 4, cells := 0, slots := 0, locals := 95 } s m args below meth c (MQ below (x_Q g (some (vL res.1)) res.2) args s 0 0 (x_A g)) 6 0 0 h 93 [some (vR a0), some (vI i1), some (vL j2), none, some (vI i4), some (vI i5)] [] := by
  intro n
  induction n with
  | zero =>
    intro a0 i1 j2 i4 i5 h hf
    have hf2 : (none : Option (Int64 × Hp)) = some res := hf
    cases hf2
  | succ n ih =>
    intro a0 i1 j2 i4 i5 h hf
    rw [fX7_ringsBehind_w93] at hf
    refine x_iload C dX7_ringsBehind_93 (pc' := 95) rfl rfl ?_
    refine x_aload_n C dX7_ringsBehind_95 (pc' := 96) rfl rfl rfl ?_
    refine x_getI C (ci := 7) (kf := 3) rfl (by decide) hinX7_ringsBehind_X7 lkX7_ringsBehind_1 rfl hf dX7_ringsBehind_96 (pc' := 99) rfl (fun v1 _ hf => ?_)
    refine x_icmp_ge C hf dX7_ringsBehind_99 (pc' := 102) rfl (tgt := 123) (by decide) (fun _ hf => ?_) (fun _ hf => ?_)
    ·
      refine x_keep [true, true, true, false, true, false] rfl ?_
      refine x_more (k' := 0) (n' := 0) (Nat.le_of_ble_eq_true rfl) (Nat.le_of_ble_eq_true rfl) ?_
      exact mX7_ringsBehind_b123 C hr hlk hnm w37 hw37 a0 i1 j2 i4 h hf
    ·
      refine x_aload_n C dX7_ringsBehind_102 (pc' := 103) rfl rfl rfl ?_
      refine x_getR C (ci := 7) (kf := 7) rfl (by decide) hinX7_ringsBehind_X7 lkX7_ringsBehind_2 rfl hf dX7_ringsBehind_103 (pc' := 106) rfl (fun v2 _ hf => ?_)
      refine x_iload C dX7_ringsBehind_106 (pc' := 108) rfl rfl ?_
      refine x_aload_n C dX7_ringsBehind_108 (pc' := 109) rfl rfl rfl ?_
      refine x_getR C (ci := 7) (kf := 9) rfl (by decide) hinX7_ringsBehind_X7 lkX7_ringsBehind_3 rfl hf dX7_ringsBehind_109 (pc' := 112) rfl (fun v3 _ hf => ?_)
      refine x_iload C dX7_ringsBehind_112 (pc' := 114) rfl rfl ?_
      refine x_iaload C hf dX7_ringsBehind_114 (pc' := 115) rfl (fun v4 _ hf => ?_)
      refine x_i2b C dX7_ringsBehind_115 (pc' := 116) rfl ?_
      refine x_bastoreB C hf dX7_ringsBehind_116 (pc' := 117) rfl (fun h5 _ hf => ?_)
      refine x_iinc C dX7_ringsBehind_117 (pc' := 120) rfl rfl (v := (i5 + 1)) rfl (by decide) rfl (lv' := [some (vR a0), some (vI i1), some (vL j2), none, some (vI i4), some (vI (i5 + 1))]) rfl ?_
      refine x_goto C dX7_ringsBehind_120 (tgt := 93) (by decide) ?_
      exact ih a0 i1 j2 i4 (i5 + 1) h5 hf
def fX7_ringsBehind_w37 : Nat → Nat → Int32 → Int64 → Int32 → Hp → Option (Int64 × Hp)
  | 0 => fun _ _ _ _ _ => none
  | n + 1 => fun a0 i1 j2 i4 h => call (oK h a0 7 (fX7_overlaps h a0 i1)) fun r1 h2 => if r1 ≤ i4 then (some (j2, h2)) else ((oK h2 a0 7 (fX7_count h2 a0 i1 i4)).bind fun h4 => (gR h4 a0 7 11).bind fun v5 => (aL h4 v5 i4).bind fun v6 => if (lg_cmp v6 (0 : Int64)) = 0 then (fX7_ringsBehind_b133 (fX7_ringsBehind_w37 n) a0 i1 j2 i4 h4) else (if (lg_cmp j2 (0 : Int64)) = 0 then ((oK h4 a0 7 (fX7_first h4 a0 i1 i4)).bind fun h8 => (gI h8 a0 7 3).bind fun v9 => (pF h8 a0 7 8 (vI v9)).bind fun h10 => fX7_ringsBehind_w93 (fX7_ringsBehind_w37 n) FUEL a0 i1 j2 i4 (0 : Int32) h10) else (fX7_ringsBehind_b123 (fX7_ringsBehind_w37 n) a0 i1 j2 i4 h4)))
set_option maxHeartbeats 4000000 in
set_option maxRecDepth 100000 in
theorem mX7_ringsBehind_w37 {g : XG} {p : Program} {l : Launch} {e : Env} {s : State} {m : MethodId} {args : Array Value} {below : List Frame} {meth : Method} {c : Code} (C : x_C g p s m args c cX7_ringsBehind RX7 6 wsX7_ringsBehind) (hr : meth.sig.returnType = (some .long)) (hlk : meth.locks = false) (hnm : meth.name = yX7_ringsBehind.name) {res : Int64 × Hp} : ∀ (n : Nat) (a0 : Nat) (i1 : Int32) (j2 : Int64) (i4 : Int32) (h : Hp), fX7_ringsBehind_w37 n a0 i1 j2 i4 h = some res → XW g p l e { frames := 4, cells := 0, slots := 0, locals := 95 } s m args below meth c (MQ below (x_Q g (some (vL res.1)) res.2) args s 0 0 (x_A g)) 6 0 0 h 37 [some (vR a0), some (vI i1), some (vL j2), none, some (vI i4), none] [] := by
  intro n
  induction n with
  | zero =>
    intro a0 i1 j2 i4 h hf
    have hf2 : (none : Option (Int64 × Hp)) = some res := hf
    cases hf2
  | succ n ih =>
    intro a0 i1 j2 i4 h hf
    rw [fX7_ringsBehind_w37] at hf
    refine x_iload C dX7_ringsBehind_37 (pc' := 39) rfl rfl ?_
    refine x_aload_n C dX7_ringsBehind_39 (pc' := 40) rfl rfl rfl ?_
    refine x_iload_n C dX7_ringsBehind_40 (pc' := 41) rfl rfl rfl ?_
    obtain ⟨r1, h2, hq, hf⟩ := call_some hf
    obtain ⟨hob, hq⟩ := oK_some hq
    refine x_callV C (As := [vI i1]) (st := [vI i4]) (r := (some (vI r1))) (h' := h2) (mc := 0) (ms := 0) (k := 0) (n := 0) (mX7_overlaps hq) hob (ci := 7) rfl (cwV 1 C.1.2.2.2.2 gX7_ringsBehind_X7_overlaps rfl rfl rfl (by decide +kernel) ⟨Nat.le_of_ble_eq_true rfl, Nat.le_of_ble_eq_true rfl⟩) rfl rfl (Nat.le_of_ble_eq_true rfl) dX7_ringsBehind_41 (pc' := 44) rfl ?_
    refine x_icmp_ge C hf dX7_ringsBehind_44 (pc' := 47) rfl (tgt := 139) (by decide) (fun _ hf => ?_) (fun _ hf => ?_)
    ·
      refine x_lload_n C dX7_ringsBehind_139 (pc' := 140) rfl rfl rfl ?_
      cases hf
      exact x_lret C hr hlk dX7_ringsBehind_140
    ·
      refine x_aload_n C dX7_ringsBehind_47 (pc' := 48) rfl rfl rfl ?_
      refine x_iload_n C dX7_ringsBehind_48 (pc' := 49) rfl rfl rfl ?_
      refine x_iload C dX7_ringsBehind_49 (pc' := 51) rfl rfl ?_
      obtain ⟨h4, hq, hf⟩ := bind_some hf
      obtain ⟨hob, hq⟩ := oK_some hq
      refine x_callV C (As := [vI i1, vI i4]) (st := []) (r := none) (h' := h4) (mc := 0) (ms := 0) (k := 0) (n := 0) (mX7_count hq) hob (ci := 7) rfl (cwV 2 C.1.2.2.2.2 gX7_ringsBehind_X7_count rfl rfl rfl (by decide +kernel) ⟨Nat.le_of_ble_eq_true rfl, Nat.le_of_ble_eq_true rfl⟩) rfl rfl (Nat.le_of_ble_eq_true rfl) dX7_ringsBehind_51 (pc' := 54) rfl ?_
      refine x_aload_n C dX7_ringsBehind_54 (pc' := 55) rfl rfl rfl ?_
      refine x_getR C (ci := 7) (kf := 11) rfl (by decide) hinX7_ringsBehind_X7 lkX7_ringsBehind_0 rfl hf dX7_ringsBehind_55 (pc' := 58) rfl (fun v5 _ hf => ?_)
      refine x_iload C dX7_ringsBehind_58 (pc' := 60) rfl rfl ?_
      refine x_laload C hf dX7_ringsBehind_60 (pc' := 61) rfl (fun v6 _ hf => ?_)
      refine x_lconst C (v := 0) (by decide) dX7_ringsBehind_61 (pc' := 62) rfl ?_
      refine x_lcmp C dX7_ringsBehind_62 (pc' := 63) rfl ?_
      refine x_if_ne C hf dX7_ringsBehind_63 (pc' := 66) rfl (tgt := 69) (by decide) (fun _ hf => ?_) (fun _ hf => ?_)
      ·
        refine x_goto C dX7_ringsBehind_66 (tgt := 133) (by decide) ?_
        refine x_more (k' := 0) (n' := 0) (Nat.le_of_ble_eq_true rfl) (Nat.le_of_ble_eq_true rfl) ?_
        exact mX7_ringsBehind_b133 C hr hlk hnm (fX7_ringsBehind_w37 n) ih a0 i1 j2 i4 h4 hf
      ·
        refine x_lload_n C dX7_ringsBehind_69 (pc' := 70) rfl rfl rfl ?_
        refine x_lconst C (v := 0) (by decide) dX7_ringsBehind_70 (pc' := 71) rfl ?_
        refine x_lcmp C dX7_ringsBehind_71 (pc' := 72) rfl ?_
        refine x_if_ne C hf dX7_ringsBehind_72 (pc' := 75) rfl (tgt := 123) (by decide) (fun _ hf => ?_) (fun _ hf => ?_)
        ·
          refine x_aload_n C dX7_ringsBehind_75 (pc' := 76) rfl rfl rfl ?_
          refine x_iload_n C dX7_ringsBehind_76 (pc' := 77) rfl rfl rfl ?_
          refine x_iload C dX7_ringsBehind_77 (pc' := 79) rfl rfl ?_
          obtain ⟨h8, hq, hf⟩ := bind_some hf
          obtain ⟨hob, hq⟩ := oK_some hq
          refine x_callV C (As := [vI i1, vI i4]) (st := []) (r := none) (h' := h8) (mc := 0) (ms := 0) (k := 0) (n := 0) (mX7_first hq) hob (ci := 7) rfl (cwV 2 C.1.2.2.2.2 gX7_ringsBehind_X7_first rfl rfl rfl (by decide +kernel) ⟨Nat.le_of_ble_eq_true rfl, Nat.le_of_ble_eq_true rfl⟩) rfl rfl (Nat.le_of_ble_eq_true rfl) dX7_ringsBehind_79 (pc' := 82) rfl ?_
          refine x_aload_n C dX7_ringsBehind_82 (pc' := 83) rfl rfl rfl ?_
          refine x_aload_n C dX7_ringsBehind_83 (pc' := 84) rfl rfl rfl ?_
          refine x_getI C (ci := 7) (kf := 3) rfl (by decide) hinX7_ringsBehind_X7 lkX7_ringsBehind_1 rfl hf dX7_ringsBehind_84 (pc' := 87) rfl (fun v9 _ hf => ?_)
          refine x_put C (ci := 7) (kf := 8) rfl (by decide) hinX7_ringsBehind_X7 tyX7 tyX7_ok nmX7 lkX7_ringsBehind_4 rfl (Or.inl rfl) rfl hf dX7_ringsBehind_87 (pc' := 90) rfl (fun h10 _ hf => ?_)
          refine x_iconst C (v := 0) (by decide) dX7_ringsBehind_90 (pc' := 91) rfl ?_
          refine x_istore C dX7_ringsBehind_91 (pc' := 93) rfl (by decide) rfl (lv' := [some (vR a0), some (vI i1), some (vL j2), none, some (vI i4), some (vI (0 : Int32))]) rfl ?_
          refine x_more (k' := 0) (n' := 0) (Nat.le_of_ble_eq_true rfl) (Nat.le_of_ble_eq_true rfl) ?_
          exact mX7_ringsBehind_w93 C hr hlk hnm (fX7_ringsBehind_w37 n) ih FUEL a0 i1 j2 i4 (0 : Int32) h10 hf
        ·
          refine x_more (k' := 0) (n' := 0) (Nat.le_of_ble_eq_true rfl) (Nat.le_of_ble_eq_true rfl) ?_
          exact mX7_ringsBehind_b123 C hr hlk hnm (fX7_ringsBehind_w37 n) ih a0 i1 j2 i4 h4 hf
def fX7_ringsBehind (h : Hp) (a0 : Nat) (i1 : Int32) : Option (Int64 × Hp) := (pF h a0 7 0 (vI (0 : Int32))).bind fun h1 => (oK h1 a0 7 (fX7_taken h1 a0)).bind fun h3 => call (oK h3 a0 7 (fX7_has h3 a0 i1)) fun r4 h5 => if r4 = 0 then (some ((-1 : Int64), h5)) else (call (oK h5 a0 7 (fX7_areStates h5 a0 i1 (1 : Int32) (20 : Int32))) fun r6 h7 => if r6 = 0 then (some ((-1 : Int64), h7)) else (fX7_ringsBehind_w37 FUEL a0 i1 (0 : Int64) (0 : Int32) h7))
set_option maxHeartbeats 4000000 in
set_option maxRecDepth 100000 in
theorem mX7_ringsBehind {l : Launch} {g : XG} {h : Hp} {a0 : Nat} {i1 : Int32} {res : Int64 × Hp} (hf : fX7_ringsBehind h a0 i1 = some res) : XM l g yX7_ringsBehind wsX7_ringsBehind 4 95 0 0 [vR a0, vI i1] h (some (vL res.1)) res.2 := by
  refine x_start (cc := cX7_ringsBehind) (maxL := 6) (ret := (some .long)) (by decide) rfl (Nat.le_of_ble_eq_true rfl) (lv := [some (vR a0), some (vI i1), none, none, none, none]) rfl ?_
  intro p e s m args below meth c C hr hlk hnm
  unfold fX7_ringsBehind at hf
  refine x_aload_n C dX7_ringsBehind_0 (pc' := 1) rfl rfl rfl ?_
  refine x_iconst C (v := 0) (by decide) dX7_ringsBehind_1 (pc' := 2) rfl ?_
  refine x_put C (ci := 7) (kf := 0) rfl (by decide) hinX7_ringsBehind_X7 tyX7 tyX7_ok nmX7 lkX7_ringsBehind_5 rfl (Or.inl rfl) rfl hf dX7_ringsBehind_2 (pc' := 5) rfl (fun h1 _ hf => ?_)
  refine x_aload_n C dX7_ringsBehind_5 (pc' := 6) rfl rfl rfl ?_
  obtain ⟨h3, hq, hf⟩ := bind_some hf
  obtain ⟨hob, hq⟩ := oK_some hq
  refine x_callV C (As := []) (st := []) (r := none) (h' := h3) (mc := 0) (ms := 0) (k := 0) (n := 0) (mX7_taken hq) hob (ci := 7) rfl (cwV 0 C.1.2.2.2.2 gX7_ringsBehind_X7_taken rfl rfl rfl (by decide +kernel) ⟨Nat.le_of_ble_eq_true rfl, Nat.le_of_ble_eq_true rfl⟩) rfl rfl (Nat.le_of_ble_eq_true rfl) dX7_ringsBehind_6 (pc' := 9) rfl ?_
  refine x_aload_n C dX7_ringsBehind_9 (pc' := 10) rfl rfl rfl ?_
  refine x_iload_n C dX7_ringsBehind_10 (pc' := 11) rfl rfl rfl ?_
  obtain ⟨r4, h5, hq, hf⟩ := call_some hf
  obtain ⟨hob, hq⟩ := oK_some hq
  refine x_callV C (As := [vI i1]) (st := []) (r := (some (vI r4))) (h' := h5) (mc := 0) (ms := 0) (k := 0) (n := 0) (mX7_has hq) hob (ci := 7) rfl (cwV 1 C.1.2.2.2.2 gX7_ringsBehind_X7_has rfl rfl rfl (by decide +kernel) ⟨Nat.le_of_ble_eq_true rfl, Nat.le_of_ble_eq_true rfl⟩) rfl rfl (Nat.le_of_ble_eq_true rfl) dX7_ringsBehind_11 (pc' := 14) rfl ?_
  refine x_if_eq C hf dX7_ringsBehind_14 (pc' := 17) rfl (tgt := 28) (by decide) (fun _ hf => ?_) (fun _ hf => ?_)
  ·
    refine x_ldc2 C lkX7_ringsBehind_6 dX7_ringsBehind_28 (pc' := 31) rfl ?_
    cases hf
    exact x_lret C hr hlk dX7_ringsBehind_31
  ·
    refine x_aload_n C dX7_ringsBehind_17 (pc' := 18) rfl rfl rfl ?_
    refine x_iload_n C dX7_ringsBehind_18 (pc' := 19) rfl rfl rfl ?_
    refine x_iconst C (v := 1) (by decide) dX7_ringsBehind_19 (pc' := 20) rfl ?_
    refine x_bipush C (v := 20) (by decide) dX7_ringsBehind_20 (pc' := 22) rfl ?_
    obtain ⟨r6, h7, hq, hf⟩ := call_some hf
    obtain ⟨hob, hq⟩ := oK_some hq
    refine x_callV C (As := [vI i1, vI (1 : Int32), vI (20 : Int32)]) (st := []) (r := (some (vI r6))) (h' := h7) (mc := 0) (ms := 0) (k := 0) (n := 0) (mX7_areStates hq) hob (ci := 7) rfl (cwV 3 C.1.2.2.2.2 gX7_ringsBehind_X7_areStates rfl rfl rfl (by decide +kernel) ⟨Nat.le_of_ble_eq_true rfl, Nat.le_of_ble_eq_true rfl⟩) rfl rfl (Nat.le_of_ble_eq_true rfl) dX7_ringsBehind_22 (pc' := 25) rfl ?_
    refine x_if_ne C hf dX7_ringsBehind_25 (pc' := 28) rfl (tgt := 32) (by decide) (fun _ hf => ?_) (fun _ hf => ?_)
    ·
      refine x_ldc2 C lkX7_ringsBehind_6 dX7_ringsBehind_28 (pc' := 31) rfl ?_
      cases hf
      exact x_lret C hr hlk dX7_ringsBehind_31
    ·
      refine x_lconst C (v := 0) (by decide) dX7_ringsBehind_32 (pc' := 33) rfl ?_
      refine x_lstore_n C dX7_ringsBehind_33 (pc' := 34) rfl rfl (by decide) rfl (lv' := [some (vR a0), some (vI i1), some (vL (0 : Int64)), none, none, none]) rfl ?_
      refine x_iconst C (v := 0) (by decide) dX7_ringsBehind_34 (pc' := 35) rfl ?_
      refine x_istore C dX7_ringsBehind_35 (pc' := 37) rfl (by decide) rfl (lv' := [some (vR a0), some (vI i1), some (vL (0 : Int64)), none, some (vI (0 : Int32)), none]) rfl ?_
      refine x_more (k' := 0) (n' := 0) (Nat.le_of_ble_eq_true rfl) (Nat.le_of_ble_eq_true rfl) ?_
      exact mX7_ringsBehind_w37 C hr hlk hnm FUEL a0 i1 (0 : Int64) (0 : Int32) h7 hf
-- ===== X7_leads
theorem lkX7_leads_0 : Cond.fieldLink RX7 13 "MossRingsModel" "states" "[I" ∈ wsX7_leads := by decide +kernel
theorem hinX7_leads_X7 : ∀ w ∈ u_ws RX7 TX7 27, w ∈ wsX7_leads := by decide +kernel
def fX7_leads_b114 (w10 : Nat → Int32 → Int32 → Int32 → Int32 → Int32 → Hp → Option (Int32 × Hp)) (a0 : Nat) (i1 : Int32) (i2 : Int32) (i3 : Int32) (i4 : Int32) (i5 : Int32) (h : Hp) : Option (Int32 × Hp) := w10 a0 i1 i2 i3 i4 (i5 + 1) h
set_option maxHeartbeats 4000000 in
set_option maxRecDepth 100000 in
theorem mX7_leads_b114 {g : XG} {p : Program} {l : Launch} {e : Env} {s : State} {m : MethodId} {args : Array Value} {below : List Frame} {meth : Method} {c : Code} (C : x_C g p s m args c cX7_leads RX7 7 wsX7_leads) (hr : meth.sig.returnType = (some .boolean)) (hlk : meth.locks = false) (hnm : meth.name = yX7_leads.name) {res : Int32 × Hp} (w10 : Nat → Int32 → Int32 → Int32 → Int32 → Int32 → Hp → Option (Int32 × Hp)) (hw10 : ∀ (a0 : Nat) (i1 : Int32) (i2 : Int32) (i3 : Int32) (i4 : Int32) (i5 : Int32) (h : Hp), w10 a0 i1 i2 i3 i4 i5 h = some res → XW g p l e { frames := 3, cells := 0, slots := 0, locals := 67 } s m args below meth c (MQ below (x_Q g (some (vI res.1)) res.2) args s 0 0 (x_A g)) 7 0 0 h 10 [some (vR a0), some (vI i1), some (vI i2), some (vI i3), some (vI i4), some (vI i5), none] []) (a0 : Nat) (i1 : Int32) (i2 : Int32) (i3 : Int32) (i4 : Int32) (i5 : Int32) (h : Hp) (hf : fX7_leads_b114 w10 a0 i1 i2 i3 i4 i5 h = some res) : XW g p l e { frames := 3, cells := 0, slots := 0, locals := 67 } s m args below meth c (MQ below (x_Q g (some (vI res.1)) res.2) args s 0 0 (x_A g)) 7 0 0 h 114 [some (vR a0), some (vI i1), some (vI i2), some (vI i3), some (vI i4), some (vI i5), none] [] := by
  unfold fX7_leads_b114 at hf
  refine x_iinc C dX7_leads_114 (pc' := 117) rfl rfl (v := (i5 + 1)) rfl (by decide) rfl (lv' := [some (vR a0), some (vI i1), some (vI i2), some (vI i3), some (vI i4), some (vI (i5 + 1)), none]) rfl ?_
  refine x_goto C dX7_leads_117 (tgt := 10) (by decide) ?_
  exact hw10 a0 i1 i2 i3 i4 (i5 + 1) h hf
def fX7_leads_b108 (w10 : Nat → Int32 → Int32 → Int32 → Int32 → Int32 → Hp → Option (Int32 × Hp)) (w24 : Nat → Int32 → Int32 → Int32 → Int32 → Int32 → Int32 → Hp → Option (Int32 × Hp)) (a0 : Nat) (i1 : Int32) (i2 : Int32) (i3 : Int32) (i4 : Int32) (i5 : Int32) (i6 : Int32) (h : Hp) : Option (Int32 × Hp) := w24 a0 i1 i2 i3 i4 i5 (i6 + 1) h
set_option maxHeartbeats 4000000 in
set_option maxRecDepth 100000 in
theorem mX7_leads_b108 {g : XG} {p : Program} {l : Launch} {e : Env} {s : State} {m : MethodId} {args : Array Value} {below : List Frame} {meth : Method} {c : Code} (C : x_C g p s m args c cX7_leads RX7 7 wsX7_leads) (hr : meth.sig.returnType = (some .boolean)) (hlk : meth.locks = false) (hnm : meth.name = yX7_leads.name) {res : Int32 × Hp} (w10 : Nat → Int32 → Int32 → Int32 → Int32 → Int32 → Hp → Option (Int32 × Hp)) (hw10 : ∀ (a0 : Nat) (i1 : Int32) (i2 : Int32) (i3 : Int32) (i4 : Int32) (i5 : Int32) (h : Hp), w10 a0 i1 i2 i3 i4 i5 h = some res → XW g p l e { frames := 3, cells := 0, slots := 0, locals := 67 } s m args below meth c (MQ below (x_Q g (some (vI res.1)) res.2) args s 0 0 (x_A g)) 7 0 0 h 10 [some (vR a0), some (vI i1), some (vI i2), some (vI i3), some (vI i4), some (vI i5), none] []) (w24 : Nat → Int32 → Int32 → Int32 → Int32 → Int32 → Int32 → Hp → Option (Int32 × Hp)) (hw24 : ∀ (a0 : Nat) (i1 : Int32) (i2 : Int32) (i3 : Int32) (i4 : Int32) (i5 : Int32) (i6 : Int32) (h : Hp), w24 a0 i1 i2 i3 i4 i5 i6 h = some res → XW g p l e { frames := 3, cells := 0, slots := 0, locals := 67 } s m args below meth c (MQ below (x_Q g (some (vI res.1)) res.2) args s 0 0 (x_A g)) 7 0 0 h 24 [some (vR a0), some (vI i1), some (vI i2), some (vI i3), some (vI i4), some (vI i5), some (vI i6)] []) (a0 : Nat) (i1 : Int32) (i2 : Int32) (i3 : Int32) (i4 : Int32) (i5 : Int32) (i6 : Int32) (h : Hp) (hf : fX7_leads_b108 w10 w24 a0 i1 i2 i3 i4 i5 i6 h = some res) : XW g p l e { frames := 3, cells := 0, slots := 0, locals := 67 } s m args below meth c (MQ below (x_Q g (some (vI res.1)) res.2) args s 0 0 (x_A g)) 7 0 0 h 108 [some (vR a0), some (vI i1), some (vI i2), some (vI i3), some (vI i4), some (vI i5), some (vI i6)] [] := by
  unfold fX7_leads_b108 at hf
  refine x_iinc C dX7_leads_108 (pc' := 111) rfl rfl (v := (i6 + 1)) rfl (by decide) rfl (lv' := [some (vR a0), some (vI i1), some (vI i2), some (vI i3), some (vI i4), some (vI i5), some (vI (i6 + 1))]) rfl ?_
  refine x_goto C dX7_leads_111 (tgt := 24) (by decide) ?_
  exact hw24 a0 i1 i2 i3 i4 i5 (i6 + 1) h hf
def fX7_leads_w24 (w10 : Nat → Int32 → Int32 → Int32 → Int32 → Int32 → Hp → Option (Int32 × Hp)) : Nat → Nat → Int32 → Int32 → Int32 → Int32 → Int32 → Int32 → Hp → Option (Int32 × Hp)
  | 0 => fun _ _ _ _ _ _ _ _ => none
  | n + 1 => fun a0 i1 i2 i3 i4 i5 i6 h => (gR h a0 7 4).bind fun v1 => (aI h v1 0 i1).bind fun v2 => if v2 ≤ i6 then (fX7_leads_b114 w10 a0 i1 i2 i3 i4 i5 h) else ((gR h a0 7 4).bind fun v3 => (aI h v3 0 i1).bind fun v4 => iDiv i2 i4 fun v5 => call (oK h a0 7 (fX7_tells h a0 i1 ((v4 * v5) + i5))) fun r6 h7 => (gR h7 a0 7 4).bind fun v8 => (aI h7 v8 0 i1).bind fun v9 => iRem i2 i4 fun v10 => call (oK h7 a0 7 (fX7_tells h7 a0 i1 ((v9 * v10) + i6))) fun r11 h12 => if r6 = r11 then (iDiv i2 i4 fun v13 => call (oK h12 a0 7 (fX7_then h12 a0 i1 v13 i5)) fun r14 h15 => iRem i2 i4 fun v16 => call (oK h15 a0 7 (fX7_then h15 a0 i1 v16 i6)) fun r17 h18 => if ((r14 * i4) + r17) = i3 then (retZ (1 : Int32) h18) else (fX7_leads_b108 w10 (fX7_leads_w24 w10 n) a0 i1 i2 i3 i4 i5 i6 h18)) else (fX7_leads_b108 w10 (fX7_leads_w24 w10 n) a0 i1 i2 i3 i4 i5 i6 h12))
set_option maxHeartbeats 4000000 in
set_option maxRecDepth 100000 in
theorem mX7_leads_w24 {g : XG} {p : Program} {l : Launch} {e : Env} {s : State} {m : MethodId} {args : Array Value} {below : List Frame} {meth : Method} {c : Code} (C : x_C g p s m args c cX7_leads RX7 7 wsX7_leads) (hr : meth.sig.returnType = (some .boolean)) (hlk : meth.locks = false) (hnm : meth.name = yX7_leads.name) {res : Int32 × Hp} (w10 : Nat → Int32 → Int32 → Int32 → Int32 → Int32 → Hp → Option (Int32 × Hp)) (hw10 : ∀ (a0 : Nat) (i1 : Int32) (i2 : Int32) (i3 : Int32) (i4 : Int32) (i5 : Int32) (h : Hp), w10 a0 i1 i2 i3 i4 i5 h = some res → XW g p l e { frames := 3, cells := 0, slots := 0, locals := 67 } s m args below meth c (MQ below (x_Q g (some (vI res.1)) res.2) args s 0 0 (x_A g)) 7 0 0 h 10 [some (vR a0), some (vI i1), some (vI i2), some (vI i3), some (vI i4), some (vI i5), none] []) : ∀ (n : Nat) (a0 : Nat) (i1 : Int32) (i2 : Int32) (i3 : Int32) (i4 : Int32) (i5 : Int32) (i6 : Int32) (h : Hp), fX7_leads_w24 w10 n a0 i1 i2 i3 i4 i5 i6 h = some res → XW g p l e { frames := 3, cells := 0, slots := 0, locals := 67 } s m args below meth c (MQ below (x_Q g (some (vI res.1)) res.2) args s 0 0 (x_A g)) 7 0 0 h 24 [some (vR a0), some (vI i1), some (vI i2), some (vI i3), some (vI i4), some (vI i5), some (vI i6)] [] := by
  intro n
  induction n with
  | zero =>
    intro a0 i1 i2 i3 i4 i5 i6 h hf
    have hf2 : (none : Option (Int32 × Hp)) = some res := hf
    cases hf2
  | succ n ih =>
    intro a0 i1 i2 i3 i4 i5 i6 h hf
    rw [fX7_leads_w24] at hf
    refine x_iload C dX7_leads_24 (pc' := 26) rfl rfl ?_
    refine x_aload_n C dX7_leads_26 (pc' := 27) rfl rfl rfl ?_
    refine x_getR C (ci := 7) (kf := 4) rfl (by decide) hinX7_leads_X7 lkX7_leads_0 rfl hf dX7_leads_27 (pc' := 30) rfl (fun v1 _ hf => ?_)
    refine x_iload_n C dX7_leads_30 (pc' := 31) rfl rfl rfl ?_
    refine x_iaload C hf dX7_leads_31 (pc' := 32) rfl (fun v2 _ hf => ?_)
    refine x_icmp_ge C hf dX7_leads_32 (pc' := 35) rfl (tgt := 114) (by decide) (fun _ hf => ?_) (fun _ hf => ?_)
    ·
      refine x_keep [true, true, true, true, true, true, false] rfl ?_
      refine x_more (k' := 0) (n' := 0) (Nat.le_of_ble_eq_true rfl) (Nat.le_of_ble_eq_true rfl) ?_
      exact mX7_leads_b114 C hr hlk hnm w10 hw10 a0 i1 i2 i3 i4 i5 h hf
    ·
      refine x_aload_n C dX7_leads_35 (pc' := 36) rfl rfl rfl ?_
      refine x_iload_n C dX7_leads_36 (pc' := 37) rfl rfl rfl ?_
      refine x_aload_n C dX7_leads_37 (pc' := 38) rfl rfl rfl ?_
      refine x_getR C (ci := 7) (kf := 4) rfl (by decide) hinX7_leads_X7 lkX7_leads_0 rfl hf dX7_leads_38 (pc' := 41) rfl (fun v3 _ hf => ?_)
      refine x_iload_n C dX7_leads_41 (pc' := 42) rfl rfl rfl ?_
      refine x_iaload C hf dX7_leads_42 (pc' := 43) rfl (fun v4 _ hf => ?_)
      refine x_iload_n C dX7_leads_43 (pc' := 44) rfl rfl rfl ?_
      refine x_iload C dX7_leads_44 (pc' := 46) rfl rfl ?_
      refine x_idiv C hf dX7_leads_46 (pc' := 47) rfl (fun _ v5 _ hf => ?_)
      refine x_imul C dX7_leads_47 (pc' := 48) rfl ?_
      refine x_iload C dX7_leads_48 (pc' := 50) rfl rfl ?_
      refine x_iadd C dX7_leads_50 (pc' := 51) rfl ?_
      obtain ⟨r6, h7, hq, hf⟩ := call_some hf
      obtain ⟨hob, hq⟩ := oK_some hq
      refine x_callV C (As := [vI i1, vI ((v4 * v5) + i5)]) (st := []) (r := (some (vI r6))) (h' := h7) (mc := 0) (ms := 0) (k := 0) (n := 0) (mX7_tells hq) hob (ci := 7) rfl (cwV 2 C.1.2.2.2.2 gX7_leads_X7_tells rfl rfl rfl (by decide +kernel) ⟨Nat.le_of_ble_eq_true rfl, Nat.le_of_ble_eq_true rfl⟩) rfl rfl (Nat.le_of_ble_eq_true rfl) dX7_leads_51 (pc' := 54) rfl ?_
      refine x_aload_n C dX7_leads_54 (pc' := 55) rfl rfl rfl ?_
      refine x_iload_n C dX7_leads_55 (pc' := 56) rfl rfl rfl ?_
      refine x_aload_n C dX7_leads_56 (pc' := 57) rfl rfl rfl ?_
      refine x_getR C (ci := 7) (kf := 4) rfl (by decide) hinX7_leads_X7 lkX7_leads_0 rfl hf dX7_leads_57 (pc' := 60) rfl (fun v8 _ hf => ?_)
      refine x_iload_n C dX7_leads_60 (pc' := 61) rfl rfl rfl ?_
      refine x_iaload C hf dX7_leads_61 (pc' := 62) rfl (fun v9 _ hf => ?_)
      refine x_iload_n C dX7_leads_62 (pc' := 63) rfl rfl rfl ?_
      refine x_iload C dX7_leads_63 (pc' := 65) rfl rfl ?_
      refine x_irem C hf dX7_leads_65 (pc' := 66) rfl (fun _ v10 _ hf => ?_)
      refine x_imul C dX7_leads_66 (pc' := 67) rfl ?_
      refine x_iload C dX7_leads_67 (pc' := 69) rfl rfl ?_
      refine x_iadd C dX7_leads_69 (pc' := 70) rfl ?_
      obtain ⟨r11, h12, hq, hf⟩ := call_some hf
      obtain ⟨hob, hq⟩ := oK_some hq
      refine x_callV C (As := [vI i1, vI ((v9 * v10) + i6)]) (st := [vI r6]) (r := (some (vI r11))) (h' := h12) (mc := 0) (ms := 0) (k := 0) (n := 0) (mX7_tells hq) hob (ci := 7) rfl (cwV 2 C.1.2.2.2.2 gX7_leads_X7_tells rfl rfl rfl (by decide +kernel) ⟨Nat.le_of_ble_eq_true rfl, Nat.le_of_ble_eq_true rfl⟩) rfl rfl (Nat.le_of_ble_eq_true rfl) dX7_leads_70 (pc' := 73) rfl ?_
      refine x_icmp_ne C hf dX7_leads_73 (pc' := 76) rfl (tgt := 108) (by decide) (fun _ hf => ?_) (fun _ hf => ?_)
      ·
        refine x_aload_n C dX7_leads_76 (pc' := 77) rfl rfl rfl ?_
        refine x_iload_n C dX7_leads_77 (pc' := 78) rfl rfl rfl ?_
        refine x_iload_n C dX7_leads_78 (pc' := 79) rfl rfl rfl ?_
        refine x_iload C dX7_leads_79 (pc' := 81) rfl rfl ?_
        refine x_idiv C hf dX7_leads_81 (pc' := 82) rfl (fun _ v13 _ hf => ?_)
        refine x_iload C dX7_leads_82 (pc' := 84) rfl rfl ?_
        obtain ⟨r14, h15, hq, hf⟩ := call_some hf
        obtain ⟨hob, hq⟩ := oK_some hq
        refine x_callV C (As := [vI i1, vI v13, vI i5]) (st := []) (r := (some (vI r14))) (h' := h15) (mc := 0) (ms := 0) (k := 0) (n := 0) (mX7_then hq) hob (ci := 7) rfl (cwV 3 C.1.2.2.2.2 gX7_leads_X7_then rfl rfl rfl (by decide +kernel) ⟨Nat.le_of_ble_eq_true rfl, Nat.le_of_ble_eq_true rfl⟩) rfl rfl (Nat.le_of_ble_eq_true rfl) dX7_leads_84 (pc' := 87) rfl ?_
        refine x_iload C dX7_leads_87 (pc' := 89) rfl rfl ?_
        refine x_imul C dX7_leads_89 (pc' := 90) rfl ?_
        refine x_aload_n C dX7_leads_90 (pc' := 91) rfl rfl rfl ?_
        refine x_iload_n C dX7_leads_91 (pc' := 92) rfl rfl rfl ?_
        refine x_iload_n C dX7_leads_92 (pc' := 93) rfl rfl rfl ?_
        refine x_iload C dX7_leads_93 (pc' := 95) rfl rfl ?_
        refine x_irem C hf dX7_leads_95 (pc' := 96) rfl (fun _ v16 _ hf => ?_)
        refine x_iload C dX7_leads_96 (pc' := 98) rfl rfl ?_
        obtain ⟨r17, h18, hq, hf⟩ := call_some hf
        obtain ⟨hob, hq⟩ := oK_some hq
        refine x_callV C (As := [vI i1, vI v16, vI i6]) (st := [vI (r14 * i4)]) (r := (some (vI r17))) (h' := h18) (mc := 0) (ms := 0) (k := 0) (n := 0) (mX7_then hq) hob (ci := 7) rfl (cwV 3 C.1.2.2.2.2 gX7_leads_X7_then rfl rfl rfl (by decide +kernel) ⟨Nat.le_of_ble_eq_true rfl, Nat.le_of_ble_eq_true rfl⟩) rfl rfl (Nat.le_of_ble_eq_true rfl) dX7_leads_98 (pc' := 101) rfl ?_
        refine x_iadd C dX7_leads_101 (pc' := 102) rfl ?_
        refine x_iload_n C dX7_leads_102 (pc' := 103) rfl rfl rfl ?_
        refine x_icmp_ne C hf dX7_leads_103 (pc' := 106) rfl (tgt := 108) (by decide) (fun _ hf => ?_) (fun _ hf => ?_)
        ·
          refine x_iconst C (v := 1) (by decide) dX7_leads_106 (pc' := 107) rfl ?_
          exact x_zret C hf hr hlk dX7_leads_107
        ·
          refine x_more (k' := 0) (n' := 0) (Nat.le_of_ble_eq_true rfl) (Nat.le_of_ble_eq_true rfl) ?_
          exact mX7_leads_b108 C hr hlk hnm w10 hw10 (fX7_leads_w24 w10 n) ih a0 i1 i2 i3 i4 i5 i6 h18 hf
      ·
        refine x_more (k' := 0) (n' := 0) (Nat.le_of_ble_eq_true rfl) (Nat.le_of_ble_eq_true rfl) ?_
        exact mX7_leads_b108 C hr hlk hnm w10 hw10 (fX7_leads_w24 w10 n) ih a0 i1 i2 i3 i4 i5 i6 h12 hf
def fX7_leads_w10 : Nat → Nat → Int32 → Int32 → Int32 → Int32 → Int32 → Hp → Option (Int32 × Hp)
  | 0 => fun _ _ _ _ _ _ _ => none
  | n + 1 => fun a0 i1 i2 i3 i4 i5 h => (gR h a0 7 4).bind fun v1 => (aI h v1 0 i1).bind fun v2 => if v2 ≤ i5 then (retZ (0 : Int32) h) else (fX7_leads_w24 (fX7_leads_w10 n) FUEL a0 i1 i2 i3 i4 i5 (0 : Int32) h)
set_option maxHeartbeats 4000000 in
set_option maxRecDepth 100000 in
theorem mX7_leads_w10 {g : XG} {p : Program} {l : Launch} {e : Env} {s : State} {m : MethodId} {args : Array Value} {below : List Frame} {meth : Method} {c : Code} (C : x_C g p s m args c cX7_leads RX7 7 wsX7_leads) (hr : meth.sig.returnType = (some .boolean)) (hlk : meth.locks = false) (hnm : meth.name = yX7_leads.name) {res : Int32 × Hp} : ∀ (n : Nat) (a0 : Nat) (i1 : Int32) (i2 : Int32) (i3 : Int32) (i4 : Int32) (i5 : Int32) (h : Hp), fX7_leads_w10 n a0 i1 i2 i3 i4 i5 h = some res → XW g p l e { frames := 3, cells := 0, slots := 0, locals := 67 } s m args below meth c (MQ below (x_Q g (some (vI res.1)) res.2) args s 0 0 (x_A g)) 7 0 0 h 10 [some (vR a0), some (vI i1), some (vI i2), some (vI i3), some (vI i4), some (vI i5), none] [] := by
  intro n
  induction n with
  | zero =>
    intro a0 i1 i2 i3 i4 i5 h hf
    have hf2 : (none : Option (Int32 × Hp)) = some res := hf
    cases hf2
  | succ n ih =>
    intro a0 i1 i2 i3 i4 i5 h hf
    rw [fX7_leads_w10] at hf
    refine x_iload C dX7_leads_10 (pc' := 12) rfl rfl ?_
    refine x_aload_n C dX7_leads_12 (pc' := 13) rfl rfl rfl ?_
    refine x_getR C (ci := 7) (kf := 4) rfl (by decide) hinX7_leads_X7 lkX7_leads_0 rfl hf dX7_leads_13 (pc' := 16) rfl (fun v1 _ hf => ?_)
    refine x_iload_n C dX7_leads_16 (pc' := 17) rfl rfl rfl ?_
    refine x_iaload C hf dX7_leads_17 (pc' := 18) rfl (fun v2 _ hf => ?_)
    refine x_icmp_ge C hf dX7_leads_18 (pc' := 21) rfl (tgt := 120) (by decide) (fun _ hf => ?_) (fun _ hf => ?_)
    ·
      refine x_iconst C (v := 0) (by decide) dX7_leads_120 (pc' := 121) rfl ?_
      exact x_zret C hf hr hlk dX7_leads_121
    ·
      refine x_iconst C (v := 0) (by decide) dX7_leads_21 (pc' := 22) rfl ?_
      refine x_istore C dX7_leads_22 (pc' := 24) rfl (by decide) rfl (lv' := [some (vR a0), some (vI i1), some (vI i2), some (vI i3), some (vI i4), some (vI i5), some (vI (0 : Int32))]) rfl ?_
      refine x_more (k' := 0) (n' := 0) (Nat.le_of_ble_eq_true rfl) (Nat.le_of_ble_eq_true rfl) ?_
      exact mX7_leads_w24 C hr hlk hnm (fX7_leads_w10 n) ih FUEL a0 i1 i2 i3 i4 i5 (0 : Int32) h hf
def fX7_leads (h : Hp) (a0 : Nat) (i1 : Int32) (i2 : Int32) (i3 : Int32) : Option (Int32 × Hp) := call (oK h a0 7 (fX7_overlaps h a0 i1)) fun r1 h2 => fX7_leads_w10 FUEL a0 i1 i2 i3 r1 (0 : Int32) h2
set_option maxHeartbeats 4000000 in
set_option maxRecDepth 100000 in
theorem mX7_leads {l : Launch} {g : XG} {h : Hp} {a0 : Nat} {i1 : Int32} {i2 : Int32} {i3 : Int32} {res : Int32 × Hp} (hf : fX7_leads h a0 i1 i2 i3 = some res) : XM l g yX7_leads wsX7_leads 3 67 0 0 [vR a0, vI i1, vI i2, vI i3] h (some (vI res.1)) res.2 := by
  refine x_start (cc := cX7_leads) (maxL := 7) (ret := (some .boolean)) (by decide) rfl (Nat.le_of_ble_eq_true rfl) (lv := [some (vR a0), some (vI i1), some (vI i2), some (vI i3), none, none, none]) rfl ?_
  intro p e s m args below meth c C hr hlk hnm
  unfold fX7_leads at hf
  refine x_aload_n C dX7_leads_0 (pc' := 1) rfl rfl rfl ?_
  refine x_iload_n C dX7_leads_1 (pc' := 2) rfl rfl rfl ?_
  obtain ⟨r1, h2, hq, hf⟩ := call_some hf
  obtain ⟨hob, hq⟩ := oK_some hq
  refine x_callV C (As := [vI i1]) (st := []) (r := (some (vI r1))) (h' := h2) (mc := 0) (ms := 0) (k := 0) (n := 0) (mX7_overlaps hq) hob (ci := 7) rfl (cwV 1 C.1.2.2.2.2 gX7_leads_X7_overlaps rfl rfl rfl (by decide +kernel) ⟨Nat.le_of_ble_eq_true rfl, Nat.le_of_ble_eq_true rfl⟩) rfl rfl (Nat.le_of_ble_eq_true rfl) dX7_leads_2 (pc' := 5) rfl ?_
  refine x_istore C dX7_leads_5 (pc' := 7) rfl (by decide) rfl (lv' := [some (vR a0), some (vI i1), some (vI i2), some (vI i3), some (vI r1), none, none]) rfl ?_
  refine x_iconst C (v := 0) (by decide) dX7_leads_7 (pc' := 8) rfl ?_
  refine x_istore C dX7_leads_8 (pc' := 10) rfl (by decide) rfl (lv' := [some (vR a0), some (vI i1), some (vI i2), some (vI i3), some (vI r1), some (vI (0 : Int32)), none]) rfl ?_
  refine x_more (k' := 0) (n' := 0) (Nat.le_of_ble_eq_true rfl) (Nat.le_of_ble_eq_true rfl) ?_
  exact mX7_leads_w10 C hr hlk hnm FUEL a0 i1 i2 i3 r1 (0 : Int32) h2 hf
-- ===== X7_isOne
def fX7_isOne (h : Hp) (a0 : Nat) (i1 : Int32) (i2 : Int32) : Option (Int32 × Hp) := call (oK h a0 7 (fX7_overlaps h a0 i1)) fun r1 h2 => iDiv i2 r1 fun v3 => call (oK h2 a0 7 (fX7_overlaps h2 a0 i1)) fun r4 h5 => iRem i2 r4 fun v6 => if v3 = v6 then (retZ (1 : Int32) h5) else (retZ (0 : Int32) h5)
set_option maxHeartbeats 4000000 in
set_option maxRecDepth 100000 in
theorem mX7_isOne {l : Launch} {g : XG} {h : Hp} {a0 : Nat} {i1 : Int32} {i2 : Int32} {res : Int32 × Hp} (hf : fX7_isOne h a0 i1 i2 = some res) : XM l g yX7_isOne wsX7_isOne 2 44 0 0 [vR a0, vI i1, vI i2] h (some (vI res.1)) res.2 := by
  refine x_start (cc := cX7_isOne) (maxL := 3) (ret := (some .boolean)) (by decide) rfl (Nat.le_of_ble_eq_true rfl) (lv := [some (vR a0), some (vI i1), some (vI i2)]) rfl ?_
  intro p e s m args below meth c C hr hlk hnm
  unfold fX7_isOne at hf
  refine x_iload_n C dX7_isOne_0 (pc' := 1) rfl rfl rfl ?_
  refine x_aload_n C dX7_isOne_1 (pc' := 2) rfl rfl rfl ?_
  refine x_iload_n C dX7_isOne_2 (pc' := 3) rfl rfl rfl ?_
  obtain ⟨r1, h2, hq, hf⟩ := call_some hf
  obtain ⟨hob, hq⟩ := oK_some hq
  refine x_callV C (As := [vI i1]) (st := [vI i2]) (r := (some (vI r1))) (h' := h2) (mc := 0) (ms := 0) (k := 0) (n := 0) (mX7_overlaps hq) hob (ci := 7) rfl (cwV 1 C.1.2.2.2.2 gX7_isOne_X7_overlaps rfl rfl rfl (by decide +kernel) ⟨Nat.le_of_ble_eq_true rfl, Nat.le_of_ble_eq_true rfl⟩) rfl rfl (Nat.le_of_ble_eq_true rfl) dX7_isOne_3 (pc' := 6) rfl ?_
  refine x_idiv C hf dX7_isOne_6 (pc' := 7) rfl (fun _ v3 _ hf => ?_)
  refine x_iload_n C dX7_isOne_7 (pc' := 8) rfl rfl rfl ?_
  refine x_aload_n C dX7_isOne_8 (pc' := 9) rfl rfl rfl ?_
  refine x_iload_n C dX7_isOne_9 (pc' := 10) rfl rfl rfl ?_
  obtain ⟨r4, h5, hq, hf⟩ := call_some hf
  obtain ⟨hob, hq⟩ := oK_some hq
  refine x_callV C (As := [vI i1]) (st := [vI i2, vI v3]) (r := (some (vI r4))) (h' := h5) (mc := 0) (ms := 0) (k := 0) (n := 0) (mX7_overlaps hq) hob (ci := 7) rfl (cwV 1 C.1.2.2.2.2 gX7_isOne_X7_overlaps rfl rfl rfl (by decide +kernel) ⟨Nat.le_of_ble_eq_true rfl, Nat.le_of_ble_eq_true rfl⟩) rfl rfl (Nat.le_of_ble_eq_true rfl) dX7_isOne_10 (pc' := 13) rfl ?_
  refine x_irem C hf dX7_isOne_13 (pc' := 14) rfl (fun _ v6 _ hf => ?_)
  refine x_icmp_ne C hf dX7_isOne_14 (pc' := 17) rfl (tgt := 21) (by decide) (fun _ hf => ?_) (fun _ hf => ?_)
  ·
    refine x_iconst C (v := 1) (by decide) dX7_isOne_17 (pc' := 18) rfl ?_
    refine x_goto C dX7_isOne_18 (tgt := 22) (by decide) ?_
    exact x_zret C hf hr hlk dX7_isOne_22
  ·
    refine x_iconst C (v := 0) (by decide) dX7_isOne_21 (pc' := 22) rfl ?_
    exact x_zret C hf hr hlk dX7_isOne_22
-- ===== X7_parts
theorem lkX7_parts_0 : Cond.fieldLink RX7 40 "MossRingsModel" "seen" "[Z" ∈ wsX7_parts := by decide +kernel
theorem hinX7_parts_X7 : ∀ w ∈ u_ws RX7 TX7 27, w ∈ wsX7_parts := by decide +kernel
theorem lkX7_parts_1 : Cond.fieldLink RX7 36 "MossRingsModel" "alive" "[Z" ∈ wsX7_parts := by decide +kernel
def fX7_parts_b289 (w251 : Nat → Int32 → Int32 → Int32 → Hp → Option (Int32 × Hp)) (a0 : Nat) (i1 : Int32) (i3 : Int32) (i5 : Int32) (h : Hp) : Option (Int32 × Hp) := w251 a0 i1 i3 (i5 + 1) h
set_option maxHeartbeats 4000000 in
set_option maxRecDepth 100000 in
theorem mX7_parts_b289 {g : XG} {p : Program} {l : Launch} {e : Env} {s : State} {m : MethodId} {args : Array Value} {below : List Frame} {meth : Method} {c : Code} (C : x_C g p s m args c cX7_parts RX7 7 wsX7_parts) (hr : meth.sig.returnType = (some .boolean)) (hlk : meth.locks = false) (hnm : meth.name = yX7_parts.name) {res : Int32 × Hp} (w251 : Nat → Int32 → Int32 → Int32 → Hp → Option (Int32 × Hp)) (hw251 : ∀ (a0 : Nat) (i1 : Int32) (i3 : Int32) (i5 : Int32) (h : Hp), w251 a0 i1 i3 i5 h = some res → XW g p l e { frames := 4, cells := 0, slots := 0, locals := 93 } s m args below meth c (MQ below (x_Q g (some (vI res.1)) res.2) args s 0 0 (x_A g)) 7 0 0 h 251 [some (vR a0), some (vI i1), none, some (vI i3), none, some (vI i5), none] []) (a0 : Nat) (i1 : Int32) (i3 : Int32) (i5 : Int32) (h : Hp) (hf : fX7_parts_b289 w251 a0 i1 i3 i5 h = some res) : XW g p l e { frames := 4, cells := 0, slots := 0, locals := 93 } s m args below meth c (MQ below (x_Q g (some (vI res.1)) res.2) args s 0 0 (x_A g)) 7 0 0 h 289 [some (vR a0), some (vI i1), none, some (vI i3), none, some (vI i5), none] [] := by
  unfold fX7_parts_b289 at hf
  refine x_iinc C dX7_parts_289 (pc' := 292) rfl rfl (v := (i5 + 1)) rfl (by decide) rfl (lv' := [some (vR a0), some (vI i1), none, some (vI i3), none, some (vI (i5 + 1)), none]) rfl ?_
  refine x_goto C dX7_parts_292 (tgt := 251) (by decide) ?_
  exact hw251 a0 i1 i3 (i5 + 1) h hf
def fX7_parts_w251 : Nat → Nat → Int32 → Int32 → Int32 → Hp → Option (Int32 × Hp)
  | 0 => fun _ _ _ _ _ => none
  | n + 1 => fun a0 i1 i3 i5 h => if i3 ≤ i5 then (retZ (0 : Int32) h) else (call (oK h a0 7 (fX7_isOne h a0 i1 i5)) fun r1 h2 => if r1 = 0 then ((gR h2 a0 7 13).bind fun v3 => (aI h2 v3 2 i5).bind fun v4 => if v4 = 0 then (fX7_parts_b289 (fX7_parts_w251 n) a0 i1 i3 i5 h2) else ((gR h2 a0 7 12).bind fun v5 => (aI h2 v5 2 i5).bind fun v6 => if v6 = 0 then (fX7_parts_b289 (fX7_parts_w251 n) a0 i1 i3 i5 h2) else (retZ (1 : Int32) h2))) else (fX7_parts_b289 (fX7_parts_w251 n) a0 i1 i3 i5 h2))
set_option maxHeartbeats 4000000 in
set_option maxRecDepth 100000 in
theorem mX7_parts_w251 {g : XG} {p : Program} {l : Launch} {e : Env} {s : State} {m : MethodId} {args : Array Value} {below : List Frame} {meth : Method} {c : Code} (C : x_C g p s m args c cX7_parts RX7 7 wsX7_parts) (hr : meth.sig.returnType = (some .boolean)) (hlk : meth.locks = false) (hnm : meth.name = yX7_parts.name) {res : Int32 × Hp} : ∀ (n : Nat) (a0 : Nat) (i1 : Int32) (i3 : Int32) (i5 : Int32) (h : Hp), fX7_parts_w251 n a0 i1 i3 i5 h = some res → XW g p l e { frames := 4, cells := 0, slots := 0, locals := 93 } s m args below meth c (MQ below (x_Q g (some (vI res.1)) res.2) args s 0 0 (x_A g)) 7 0 0 h 251 [some (vR a0), some (vI i1), none, some (vI i3), none, some (vI i5), none] [] := by
  intro n
  induction n with
  | zero =>
    intro a0 i1 i3 i5 h hf
    have hf2 : (none : Option (Int32 × Hp)) = some res := hf
    cases hf2
  | succ n ih =>
    intro a0 i1 i3 i5 h hf
    rw [fX7_parts_w251] at hf
    refine x_iload C dX7_parts_251 (pc' := 253) rfl rfl ?_
    refine x_iload_n C dX7_parts_253 (pc' := 254) rfl rfl rfl ?_
    refine x_icmp_ge C hf dX7_parts_254 (pc' := 257) rfl (tgt := 295) (by decide) (fun _ hf => ?_) (fun _ hf => ?_)
    ·
      refine x_iconst C (v := 0) (by decide) dX7_parts_295 (pc' := 296) rfl ?_
      exact x_zret C hf hr hlk dX7_parts_296
    ·
      refine x_aload_n C dX7_parts_257 (pc' := 258) rfl rfl rfl ?_
      refine x_iload_n C dX7_parts_258 (pc' := 259) rfl rfl rfl ?_
      refine x_iload C dX7_parts_259 (pc' := 261) rfl rfl ?_
      obtain ⟨r1, h2, hq, hf⟩ := call_some hf
      obtain ⟨hob, hq⟩ := oK_some hq
      refine x_callV C (As := [vI i1, vI i5]) (st := []) (r := (some (vI r1))) (h' := h2) (mc := 0) (ms := 0) (k := 0) (n := 0) (mX7_isOne hq) hob (ci := 7) rfl (cwV 2 C.1.2.2.2.2 gX7_parts_X7_isOne rfl rfl rfl (by decide +kernel) ⟨Nat.le_of_ble_eq_true rfl, Nat.le_of_ble_eq_true rfl⟩) rfl rfl (Nat.le_of_ble_eq_true rfl) dX7_parts_261 (pc' := 264) rfl ?_
      refine x_if_ne C hf dX7_parts_264 (pc' := 267) rfl (tgt := 289) (by decide) (fun _ hf => ?_) (fun _ hf => ?_)
      ·
        refine x_aload_n C dX7_parts_267 (pc' := 268) rfl rfl rfl ?_
        refine x_getR C (ci := 7) (kf := 13) rfl (by decide) hinX7_parts_X7 lkX7_parts_0 rfl hf dX7_parts_268 (pc' := 271) rfl (fun v3 _ hf => ?_)
        refine x_iload C dX7_parts_271 (pc' := 273) rfl rfl ?_
        refine x_baloadZ C hf dX7_parts_273 (pc' := 274) rfl (fun v4 _ hf => ?_)
        refine x_if_eq C hf dX7_parts_274 (pc' := 277) rfl (tgt := 289) (by decide) (fun _ hf => ?_) (fun _ hf => ?_)
        ·
          refine x_more (k' := 0) (n' := 0) (Nat.le_of_ble_eq_true rfl) (Nat.le_of_ble_eq_true rfl) ?_
          exact mX7_parts_b289 C hr hlk hnm (fX7_parts_w251 n) ih a0 i1 i3 i5 h2 hf
        ·
          refine x_aload_n C dX7_parts_277 (pc' := 278) rfl rfl rfl ?_
          refine x_getR C (ci := 7) (kf := 12) rfl (by decide) hinX7_parts_X7 lkX7_parts_1 rfl hf dX7_parts_278 (pc' := 281) rfl (fun v5 _ hf => ?_)
          refine x_iload C dX7_parts_281 (pc' := 283) rfl rfl ?_
          refine x_baloadZ C hf dX7_parts_283 (pc' := 284) rfl (fun v6 _ hf => ?_)
          refine x_if_eq C hf dX7_parts_284 (pc' := 287) rfl (tgt := 289) (by decide) (fun _ hf => ?_) (fun _ hf => ?_)
          ·
            refine x_more (k' := 0) (n' := 0) (Nat.le_of_ble_eq_true rfl) (Nat.le_of_ble_eq_true rfl) ?_
            exact mX7_parts_b289 C hr hlk hnm (fX7_parts_w251 n) ih a0 i1 i3 i5 h2 hf
          ·
            refine x_iconst C (v := 1) (by decide) dX7_parts_287 (pc' := 288) rfl ?_
            exact x_zret C hf hr hlk dX7_parts_288
      ·
        refine x_more (k' := 0) (n' := 0) (Nat.le_of_ble_eq_true rfl) (Nat.le_of_ble_eq_true rfl) ?_
        exact mX7_parts_b289 C hr hlk hnm (fX7_parts_w251 n) ih a0 i1 i3 i5 h2 hf
def fX7_parts_b248 (a0 : Nat) (i1 : Int32) (i3 : Int32) (h : Hp) : Option (Int32 × Hp) := fX7_parts_w251 FUEL a0 i1 i3 (0 : Int32) h
set_option maxHeartbeats 4000000 in
set_option maxRecDepth 100000 in
theorem mX7_parts_b248 {g : XG} {p : Program} {l : Launch} {e : Env} {s : State} {m : MethodId} {args : Array Value} {below : List Frame} {meth : Method} {c : Code} (C : x_C g p s m args c cX7_parts RX7 7 wsX7_parts) (hr : meth.sig.returnType = (some .boolean)) (hlk : meth.locks = false) (hnm : meth.name = yX7_parts.name) {res : Int32 × Hp} (a0 : Nat) (i1 : Int32) (i3 : Int32) (h : Hp) (hf : fX7_parts_b248 a0 i1 i3 h = some res) : XW g p l e { frames := 4, cells := 0, slots := 0, locals := 93 } s m args below meth c (MQ below (x_Q g (some (vI res.1)) res.2) args s 0 0 (x_A g)) 7 0 0 h 248 [some (vR a0), some (vI i1), none, some (vI i3), none, none, none] [] := by
  unfold fX7_parts_b248 at hf
  refine x_iconst C (v := 0) (by decide) dX7_parts_248 (pc' := 249) rfl ?_
  refine x_istore C dX7_parts_249 (pc' := 251) rfl (by decide) rfl (lv' := [some (vR a0), some (vI i1), none, some (vI i3), none, some (vI (0 : Int32)), none]) rfl ?_
  refine x_more (k' := 0) (n' := 0) (Nat.le_of_ble_eq_true rfl) (Nat.le_of_ble_eq_true rfl) ?_
  exact mX7_parts_w251 C hr hlk hnm FUEL a0 i1 i3 (0 : Int32) h hf
def fX7_parts_b245 (w161 : Nat → Int32 → Int32 → Int32 → Hp → Option (Int32 × Hp)) (a0 : Nat) (i1 : Int32) (i3 : Int32) (i4 : Int32) (h : Hp) : Option (Int32 × Hp) := w161 a0 i1 i3 i4 h
set_option maxHeartbeats 4000000 in
set_option maxRecDepth 100000 in
theorem mX7_parts_b245 {g : XG} {p : Program} {l : Launch} {e : Env} {s : State} {m : MethodId} {args : Array Value} {below : List Frame} {meth : Method} {c : Code} (C : x_C g p s m args c cX7_parts RX7 7 wsX7_parts) (hr : meth.sig.returnType = (some .boolean)) (hlk : meth.locks = false) (hnm : meth.name = yX7_parts.name) {res : Int32 × Hp} (w161 : Nat → Int32 → Int32 → Int32 → Hp → Option (Int32 × Hp)) (hw161 : ∀ (a0 : Nat) (i1 : Int32) (i3 : Int32) (i4 : Int32) (h : Hp), w161 a0 i1 i3 i4 h = some res → XW g p l e { frames := 4, cells := 0, slots := 0, locals := 93 } s m args below meth c (MQ below (x_Q g (some (vI res.1)) res.2) args s 0 0 (x_A g)) 7 0 0 h 161 [some (vR a0), some (vI i1), none, some (vI i3), some (vI i4), none, none] []) (a0 : Nat) (i1 : Int32) (i3 : Int32) (i4 : Int32) (h : Hp) (hf : fX7_parts_b245 w161 a0 i1 i3 i4 h = some res) : XW g p l e { frames := 4, cells := 0, slots := 0, locals := 93 } s m args below meth c (MQ below (x_Q g (some (vI res.1)) res.2) args s 0 0 (x_A g)) 7 0 0 h 245 [some (vR a0), some (vI i1), none, some (vI i3), some (vI i4), none, none] [] := by
  unfold fX7_parts_b245 at hf
  refine x_goto C dX7_parts_245 (tgt := 161) (by decide) ?_
  exact hw161 a0 i1 i3 i4 h hf
def fX7_parts_b239 (w161 : Nat → Int32 → Int32 → Int32 → Hp → Option (Int32 × Hp)) (w172 : Nat → Int32 → Int32 → Int32 → Int32 → Hp → Option (Int32 × Hp)) (a0 : Nat) (i1 : Int32) (i3 : Int32) (i4 : Int32) (i5 : Int32) (h : Hp) : Option (Int32 × Hp) := w172 a0 i1 i3 i4 (i5 + 1) h
set_option maxHeartbeats 4000000 in
set_option maxRecDepth 100000 in
theorem mX7_parts_b239 {g : XG} {p : Program} {l : Launch} {e : Env} {s : State} {m : MethodId} {args : Array Value} {below : List Frame} {meth : Method} {c : Code} (C : x_C g p s m args c cX7_parts RX7 7 wsX7_parts) (hr : meth.sig.returnType = (some .boolean)) (hlk : meth.locks = false) (hnm : meth.name = yX7_parts.name) {res : Int32 × Hp} (w161 : Nat → Int32 → Int32 → Int32 → Hp → Option (Int32 × Hp)) (hw161 : ∀ (a0 : Nat) (i1 : Int32) (i3 : Int32) (i4 : Int32) (h : Hp), w161 a0 i1 i3 i4 h = some res → XW g p l e { frames := 4, cells := 0, slots := 0, locals := 93 } s m args below meth c (MQ below (x_Q g (some (vI res.1)) res.2) args s 0 0 (x_A g)) 7 0 0 h 161 [some (vR a0), some (vI i1), none, some (vI i3), some (vI i4), none, none] []) (w172 : Nat → Int32 → Int32 → Int32 → Int32 → Hp → Option (Int32 × Hp)) (hw172 : ∀ (a0 : Nat) (i1 : Int32) (i3 : Int32) (i4 : Int32) (i5 : Int32) (h : Hp), w172 a0 i1 i3 i4 i5 h = some res → XW g p l e { frames := 4, cells := 0, slots := 0, locals := 93 } s m args below meth c (MQ below (x_Q g (some (vI res.1)) res.2) args s 0 0 (x_A g)) 7 0 0 h 172 [some (vR a0), some (vI i1), none, some (vI i3), some (vI i4), some (vI i5), none] []) (a0 : Nat) (i1 : Int32) (i3 : Int32) (i4 : Int32) (i5 : Int32) (h : Hp) (hf : fX7_parts_b239 w161 w172 a0 i1 i3 i4 i5 h = some res) : XW g p l e { frames := 4, cells := 0, slots := 0, locals := 93 } s m args below meth c (MQ below (x_Q g (some (vI res.1)) res.2) args s 0 0 (x_A g)) 7 0 0 h 239 [some (vR a0), some (vI i1), none, some (vI i3), some (vI i4), some (vI i5), none] [] := by
  unfold fX7_parts_b239 at hf
  refine x_iinc C dX7_parts_239 (pc' := 242) rfl rfl (v := (i5 + 1)) rfl (by decide) rfl (lv' := [some (vR a0), some (vI i1), none, some (vI i3), some (vI i4), some (vI (i5 + 1)), none]) rfl ?_
  refine x_goto C dX7_parts_242 (tgt := 172) (by decide) ?_
  exact hw172 a0 i1 i3 i4 (i5 + 1) h hf
def fX7_parts_b233 (w161 : Nat → Int32 → Int32 → Int32 → Hp → Option (Int32 × Hp)) (w172 : Nat → Int32 → Int32 → Int32 → Int32 → Hp → Option (Int32 × Hp)) (w181 : Nat → Int32 → Int32 → Int32 → Int32 → Int32 → Hp → Option (Int32 × Hp)) (a0 : Nat) (i1 : Int32) (i3 : Int32) (i4 : Int32) (i5 : Int32) (i6 : Int32) (h : Hp) : Option (Int32 × Hp) := w181 a0 i1 i3 i4 i5 (i6 + 1) h
set_option maxHeartbeats 4000000 in
set_option maxRecDepth 100000 in
theorem mX7_parts_b233 {g : XG} {p : Program} {l : Launch} {e : Env} {s : State} {m : MethodId} {args : Array Value} {below : List Frame} {meth : Method} {c : Code} (C : x_C g p s m args c cX7_parts RX7 7 wsX7_parts) (hr : meth.sig.returnType = (some .boolean)) (hlk : meth.locks = false) (hnm : meth.name = yX7_parts.name) {res : Int32 × Hp} (w161 : Nat → Int32 → Int32 → Int32 → Hp → Option (Int32 × Hp)) (hw161 : ∀ (a0 : Nat) (i1 : Int32) (i3 : Int32) (i4 : Int32) (h : Hp), w161 a0 i1 i3 i4 h = some res → XW g p l e { frames := 4, cells := 0, slots := 0, locals := 93 } s m args below meth c (MQ below (x_Q g (some (vI res.1)) res.2) args s 0 0 (x_A g)) 7 0 0 h 161 [some (vR a0), some (vI i1), none, some (vI i3), some (vI i4), none, none] []) (w172 : Nat → Int32 → Int32 → Int32 → Int32 → Hp → Option (Int32 × Hp)) (hw172 : ∀ (a0 : Nat) (i1 : Int32) (i3 : Int32) (i4 : Int32) (i5 : Int32) (h : Hp), w172 a0 i1 i3 i4 i5 h = some res → XW g p l e { frames := 4, cells := 0, slots := 0, locals := 93 } s m args below meth c (MQ below (x_Q g (some (vI res.1)) res.2) args s 0 0 (x_A g)) 7 0 0 h 172 [some (vR a0), some (vI i1), none, some (vI i3), some (vI i4), some (vI i5), none] []) (w181 : Nat → Int32 → Int32 → Int32 → Int32 → Int32 → Hp → Option (Int32 × Hp)) (hw181 : ∀ (a0 : Nat) (i1 : Int32) (i3 : Int32) (i4 : Int32) (i5 : Int32) (i6 : Int32) (h : Hp), w181 a0 i1 i3 i4 i5 i6 h = some res → XW g p l e { frames := 4, cells := 0, slots := 0, locals := 93 } s m args below meth c (MQ below (x_Q g (some (vI res.1)) res.2) args s 0 0 (x_A g)) 7 0 0 h 181 [some (vR a0), some (vI i1), none, some (vI i3), some (vI i4), some (vI i5), some (vI i6)] []) (a0 : Nat) (i1 : Int32) (i3 : Int32) (i4 : Int32) (i5 : Int32) (i6 : Int32) (h : Hp) (hf : fX7_parts_b233 w161 w172 w181 a0 i1 i3 i4 i5 i6 h = some res) : XW g p l e { frames := 4, cells := 0, slots := 0, locals := 93 } s m args below meth c (MQ below (x_Q g (some (vI res.1)) res.2) args s 0 0 (x_A g)) 7 0 0 h 233 [some (vR a0), some (vI i1), none, some (vI i3), some (vI i4), some (vI i5), some (vI i6)] [] := by
  unfold fX7_parts_b233 at hf
  refine x_iinc C dX7_parts_233 (pc' := 236) rfl rfl (v := (i6 + 1)) rfl (by decide) rfl (lv' := [some (vR a0), some (vI i1), none, some (vI i3), some (vI i4), some (vI i5), some (vI (i6 + 1))]) rfl ?_
  refine x_goto C dX7_parts_236 (tgt := 181) (by decide) ?_
  exact hw181 a0 i1 i3 i4 i5 (i6 + 1) h hf
def fX7_parts_w181 (w161 : Nat → Int32 → Int32 → Int32 → Hp → Option (Int32 × Hp)) (w172 : Nat → Int32 → Int32 → Int32 → Int32 → Hp → Option (Int32 × Hp)) : Nat → Nat → Int32 → Int32 → Int32 → Int32 → Int32 → Hp → Option (Int32 × Hp)
  | 0 => fun _ _ _ _ _ _ _ => none
  | n + 1 => fun a0 i1 i3 i4 i5 i6 h => if i3 ≤ i6 then (fX7_parts_b239 w161 w172 a0 i1 i3 i4 i5 h) else ((gR h a0 7 12).bind fun v1 => (aI h v1 2 i5).bind fun v2 => if v2 = 0 then ((gR h a0 7 12).bind fun v3 => (aI h v3 2 i6).bind fun v4 => if v4 = 0 then (fX7_parts_b233 w161 w172 (fX7_parts_w181 w161 w172 n) a0 i1 i3 i4 i5 i6 h) else (call (oK h a0 7 (fX7_leads h a0 i1 i5 i6)) fun r5 h6 => if r5 = 0 then (fX7_parts_b233 w161 w172 (fX7_parts_w181 w161 w172 n) a0 i1 i3 i4 i5 i6 h6) else ((gR h6 a0 7 12).bind fun v7 => (sI h6 v7 2 i5 (1 : Int32)).bind fun h8 => fX7_parts_b233 w161 w172 (fX7_parts_w181 w161 w172 n) a0 i1 i3 (1 : Int32) i5 i6 h8))) else (fX7_parts_b239 w161 w172 a0 i1 i3 i4 i5 h))
set_option maxHeartbeats 4000000 in
set_option maxRecDepth 100000 in
theorem mX7_parts_w181 {g : XG} {p : Program} {l : Launch} {e : Env} {s : State} {m : MethodId} {args : Array Value} {below : List Frame} {meth : Method} {c : Code} (C : x_C g p s m args c cX7_parts RX7 7 wsX7_parts) (hr : meth.sig.returnType = (some .boolean)) (hlk : meth.locks = false) (hnm : meth.name = yX7_parts.name) {res : Int32 × Hp} (w161 : Nat → Int32 → Int32 → Int32 → Hp → Option (Int32 × Hp)) (hw161 : ∀ (a0 : Nat) (i1 : Int32) (i3 : Int32) (i4 : Int32) (h : Hp), w161 a0 i1 i3 i4 h = some res → XW g p l e { frames := 4, cells := 0, slots := 0, locals := 93 } s m args below meth c (MQ below (x_Q g (some (vI res.1)) res.2) args s 0 0 (x_A g)) 7 0 0 h 161 [some (vR a0), some (vI i1), none, some (vI i3), some (vI i4), none, none] []) (w172 : Nat → Int32 → Int32 → Int32 → Int32 → Hp → Option (Int32 × Hp)) (hw172 : ∀ (a0 : Nat) (i1 : Int32) (i3 : Int32) (i4 : Int32) (i5 : Int32) (h : Hp), w172 a0 i1 i3 i4 i5 h = some res → XW g p l e { frames := 4, cells := 0, slots := 0, locals := 93 } s m args below meth c (MQ below (x_Q g (some (vI res.1)) res.2) args s 0 0 (x_A g)) 7 0 0 h 172 [some (vR a0), some (vI i1), none, some (vI i3), some (vI i4), some (vI i5), none] []) : ∀ (n : Nat) (a0 : Nat) (i1 : Int32) (i3 : Int32) (i4 : Int32) (i5 : Int32) (i6 : Int32) (h : Hp), fX7_parts_w181 w161 w172 n a0 i1 i3 i4 i5 i6 h = some res → XW g p l e { frames := 4, cells := 0, slots := 0, locals := 93 } s m args below meth c (MQ below (x_Q g (some (vI res.1)) res.2) args s 0 0 (x_A g)) 7 0 0 h 181 [some (vR a0), some (vI i1), none, some (vI i3), some (vI i4), some (vI i5), some (vI i6)] [] := by
  intro n
  induction n with
  | zero =>
    intro a0 i1 i3 i4 i5 i6 h hf
    have hf2 : (none : Option (Int32 × Hp)) = some res := hf
    cases hf2
  | succ n ih =>
    intro a0 i1 i3 i4 i5 i6 h hf
    rw [fX7_parts_w181] at hf
    refine x_iload C dX7_parts_181 (pc' := 183) rfl rfl ?_
    refine x_iload_n C dX7_parts_183 (pc' := 184) rfl rfl rfl ?_
    refine x_icmp_ge C hf dX7_parts_184 (pc' := 187) rfl (tgt := 239) (by decide) (fun _ hf => ?_) (fun _ hf => ?_)
    ·
      refine x_keep [true, true, false, true, true, true, false] rfl ?_
      refine x_more (k' := 0) (n' := 0) (Nat.le_of_ble_eq_true rfl) (Nat.le_of_ble_eq_true rfl) ?_
      exact mX7_parts_b239 C hr hlk hnm w161 hw161 w172 hw172 a0 i1 i3 i4 i5 h hf
    ·
      refine x_aload_n C dX7_parts_187 (pc' := 188) rfl rfl rfl ?_
      refine x_getR C (ci := 7) (kf := 12) rfl (by decide) hinX7_parts_X7 lkX7_parts_1 rfl hf dX7_parts_188 (pc' := 191) rfl (fun v1 _ hf => ?_)
      refine x_iload C dX7_parts_191 (pc' := 193) rfl rfl ?_
      refine x_baloadZ C hf dX7_parts_193 (pc' := 194) rfl (fun v2 _ hf => ?_)
      refine x_if_ne C hf dX7_parts_194 (pc' := 197) rfl (tgt := 239) (by decide) (fun _ hf => ?_) (fun _ hf => ?_)
      ·
        refine x_aload_n C dX7_parts_197 (pc' := 198) rfl rfl rfl ?_
        refine x_getR C (ci := 7) (kf := 12) rfl (by decide) hinX7_parts_X7 lkX7_parts_1 rfl hf dX7_parts_198 (pc' := 201) rfl (fun v3 _ hf => ?_)
        refine x_iload C dX7_parts_201 (pc' := 203) rfl rfl ?_
        refine x_baloadZ C hf dX7_parts_203 (pc' := 204) rfl (fun v4 _ hf => ?_)
        refine x_if_eq C hf dX7_parts_204 (pc' := 207) rfl (tgt := 233) (by decide) (fun _ hf => ?_) (fun _ hf => ?_)
        ·
          refine x_more (k' := 0) (n' := 0) (Nat.le_of_ble_eq_true rfl) (Nat.le_of_ble_eq_true rfl) ?_
          exact mX7_parts_b233 C hr hlk hnm w161 hw161 w172 hw172 (fX7_parts_w181 w161 w172 n) ih a0 i1 i3 i4 i5 i6 h hf
        ·
          refine x_aload_n C dX7_parts_207 (pc' := 208) rfl rfl rfl ?_
          refine x_iload_n C dX7_parts_208 (pc' := 209) rfl rfl rfl ?_
          refine x_iload C dX7_parts_209 (pc' := 211) rfl rfl ?_
          refine x_iload C dX7_parts_211 (pc' := 213) rfl rfl ?_
          obtain ⟨r5, h6, hq, hf⟩ := call_some hf
          obtain ⟨hob, hq⟩ := oK_some hq
          refine x_callV C (As := [vI i1, vI i5, vI i6]) (st := []) (r := (some (vI r5))) (h' := h6) (mc := 0) (ms := 0) (k := 0) (n := 0) (mX7_leads hq) hob (ci := 7) rfl (cwV 3 C.1.2.2.2.2 gX7_parts_X7_leads rfl rfl rfl (by decide +kernel) ⟨Nat.le_of_ble_eq_true rfl, Nat.le_of_ble_eq_true rfl⟩) rfl rfl (Nat.le_of_ble_eq_true rfl) dX7_parts_213 (pc' := 216) rfl ?_
          refine x_if_ne C hf dX7_parts_216 (pc' := 219) rfl (tgt := 222) (by decide) (fun _ hf => ?_) (fun _ hf => ?_)
          ·
            refine x_goto C dX7_parts_219 (tgt := 233) (by decide) ?_
            refine x_more (k' := 0) (n' := 0) (Nat.le_of_ble_eq_true rfl) (Nat.le_of_ble_eq_true rfl) ?_
            exact mX7_parts_b233 C hr hlk hnm w161 hw161 w172 hw172 (fX7_parts_w181 w161 w172 n) ih a0 i1 i3 i4 i5 i6 h6 hf
          ·
            refine x_aload_n C dX7_parts_222 (pc' := 223) rfl rfl rfl ?_
            refine x_getR C (ci := 7) (kf := 12) rfl (by decide) hinX7_parts_X7 lkX7_parts_1 rfl hf dX7_parts_223 (pc' := 226) rfl (fun v7 _ hf => ?_)
            refine x_iload C dX7_parts_226 (pc' := 228) rfl rfl ?_
            refine x_iconst C (v := 1) (by decide) dX7_parts_228 (pc' := 229) rfl ?_
            refine x_bastoreZ C hf dX7_parts_229 (pc' := 230) rfl (fun h8 _ hf => ?_)
            refine x_iconst C (v := 1) (by decide) dX7_parts_230 (pc' := 231) rfl ?_
            refine x_istore C dX7_parts_231 (pc' := 233) rfl (by decide) rfl (lv' := [some (vR a0), some (vI i1), none, some (vI i3), some (vI (1 : Int32)), some (vI i5), some (vI i6)]) rfl ?_
            refine x_more (k' := 0) (n' := 0) (Nat.le_of_ble_eq_true rfl) (Nat.le_of_ble_eq_true rfl) ?_
            exact mX7_parts_b233 C hr hlk hnm w161 hw161 w172 hw172 (fX7_parts_w181 w161 w172 n) ih a0 i1 i3 (1 : Int32) i5 i6 h8 hf
      ·
        refine x_keep [true, true, false, true, true, true, false] rfl ?_
        refine x_more (k' := 0) (n' := 0) (Nat.le_of_ble_eq_true rfl) (Nat.le_of_ble_eq_true rfl) ?_
        exact mX7_parts_b239 C hr hlk hnm w161 hw161 w172 hw172 a0 i1 i3 i4 i5 h hf
def fX7_parts_w172 (w161 : Nat → Int32 → Int32 → Int32 → Hp → Option (Int32 × Hp)) : Nat → Nat → Int32 → Int32 → Int32 → Int32 → Hp → Option (Int32 × Hp)
  | 0 => fun _ _ _ _ _ _ => none
  | n + 1 => fun a0 i1 i3 i4 i5 h => if i3 ≤ i5 then (fX7_parts_b245 w161 a0 i1 i3 i4 h) else (fX7_parts_w181 w161 (fX7_parts_w172 w161 n) FUEL a0 i1 i3 i4 i5 (0 : Int32) h)
set_option maxHeartbeats 4000000 in
set_option maxRecDepth 100000 in
theorem mX7_parts_w172 {g : XG} {p : Program} {l : Launch} {e : Env} {s : State} {m : MethodId} {args : Array Value} {below : List Frame} {meth : Method} {c : Code} (C : x_C g p s m args c cX7_parts RX7 7 wsX7_parts) (hr : meth.sig.returnType = (some .boolean)) (hlk : meth.locks = false) (hnm : meth.name = yX7_parts.name) {res : Int32 × Hp} (w161 : Nat → Int32 → Int32 → Int32 → Hp → Option (Int32 × Hp)) (hw161 : ∀ (a0 : Nat) (i1 : Int32) (i3 : Int32) (i4 : Int32) (h : Hp), w161 a0 i1 i3 i4 h = some res → XW g p l e { frames := 4, cells := 0, slots := 0, locals := 93 } s m args below meth c (MQ below (x_Q g (some (vI res.1)) res.2) args s 0 0 (x_A g)) 7 0 0 h 161 [some (vR a0), some (vI i1), none, some (vI i3), some (vI i4), none, none] []) : ∀ (n : Nat) (a0 : Nat) (i1 : Int32) (i3 : Int32) (i4 : Int32) (i5 : Int32) (h : Hp), fX7_parts_w172 w161 n a0 i1 i3 i4 i5 h = some res → XW g p l e { frames := 4, cells := 0, slots := 0, locals := 93 } s m args below meth c (MQ below (x_Q g (some (vI res.1)) res.2) args s 0 0 (x_A g)) 7 0 0 h 172 [some (vR a0), some (vI i1), none, some (vI i3), some (vI i4), some (vI i5), none] [] := by
  intro n
  induction n with
  | zero =>
    intro a0 i1 i3 i4 i5 h hf
    have hf2 : (none : Option (Int32 × Hp)) = some res := hf
    cases hf2
  | succ n ih =>
    intro a0 i1 i3 i4 i5 h hf
    rw [fX7_parts_w172] at hf
    refine x_iload C dX7_parts_172 (pc' := 174) rfl rfl ?_
    refine x_iload_n C dX7_parts_174 (pc' := 175) rfl rfl rfl ?_
    refine x_icmp_ge C hf dX7_parts_175 (pc' := 178) rfl (tgt := 245) (by decide) (fun _ hf => ?_) (fun _ hf => ?_)
    ·
      refine x_keep [true, true, false, true, true, false, false] rfl ?_
      refine x_more (k' := 0) (n' := 0) (Nat.le_of_ble_eq_true rfl) (Nat.le_of_ble_eq_true rfl) ?_
      exact mX7_parts_b245 C hr hlk hnm w161 hw161 a0 i1 i3 i4 h hf
    ·
      refine x_iconst C (v := 0) (by decide) dX7_parts_178 (pc' := 179) rfl ?_
      refine x_istore C dX7_parts_179 (pc' := 181) rfl (by decide) rfl (lv' := [some (vR a0), some (vI i1), none, some (vI i3), some (vI i4), some (vI i5), some (vI (0 : Int32))]) rfl ?_
      refine x_more (k' := 0) (n' := 0) (Nat.le_of_ble_eq_true rfl) (Nat.le_of_ble_eq_true rfl) ?_
      exact mX7_parts_w181 C hr hlk hnm w161 hw161 (fX7_parts_w172 w161 n) ih FUEL a0 i1 i3 i4 i5 (0 : Int32) h hf
def fX7_parts_w161 : Nat → Nat → Int32 → Int32 → Int32 → Hp → Option (Int32 × Hp)
  | 0 => fun _ _ _ _ _ => none
  | n + 1 => fun a0 i1 i3 i4 h => if i4 = 0 then (fX7_parts_b248 a0 i1 i3 h) else (fX7_parts_w172 (fX7_parts_w161 n) FUEL a0 i1 i3 (0 : Int32) (0 : Int32) h)
set_option maxHeartbeats 4000000 in
set_option maxRecDepth 100000 in
theorem mX7_parts_w161 {g : XG} {p : Program} {l : Launch} {e : Env} {s : State} {m : MethodId} {args : Array Value} {below : List Frame} {meth : Method} {c : Code} (C : x_C g p s m args c cX7_parts RX7 7 wsX7_parts) (hr : meth.sig.returnType = (some .boolean)) (hlk : meth.locks = false) (hnm : meth.name = yX7_parts.name) {res : Int32 × Hp} : ∀ (n : Nat) (a0 : Nat) (i1 : Int32) (i3 : Int32) (i4 : Int32) (h : Hp), fX7_parts_w161 n a0 i1 i3 i4 h = some res → XW g p l e { frames := 4, cells := 0, slots := 0, locals := 93 } s m args below meth c (MQ below (x_Q g (some (vI res.1)) res.2) args s 0 0 (x_A g)) 7 0 0 h 161 [some (vR a0), some (vI i1), none, some (vI i3), some (vI i4), none, none] [] := by
  intro n
  induction n with
  | zero =>
    intro a0 i1 i3 i4 h hf
    have hf2 : (none : Option (Int32 × Hp)) = some res := hf
    cases hf2
  | succ n ih =>
    intro a0 i1 i3 i4 h hf
    rw [fX7_parts_w161] at hf
    refine x_iload C dX7_parts_161 (pc' := 163) rfl rfl ?_
    refine x_if_eq C hf dX7_parts_163 (pc' := 166) rfl (tgt := 248) (by decide) (fun _ hf => ?_) (fun _ hf => ?_)
    ·
      refine x_keep [true, true, false, true, false, false, false] rfl ?_
      refine x_more (k' := 0) (n' := 0) (Nat.le_of_ble_eq_true rfl) (Nat.le_of_ble_eq_true rfl) ?_
      exact mX7_parts_b248 C hr hlk hnm a0 i1 i3 h hf
    ·
      refine x_iconst C (v := 0) (by decide) dX7_parts_166 (pc' := 167) rfl ?_
      refine x_istore C dX7_parts_167 (pc' := 169) rfl (by decide) rfl (lv' := [some (vR a0), some (vI i1), none, some (vI i3), some (vI (0 : Int32)), none, none]) rfl ?_
      refine x_iconst C (v := 0) (by decide) dX7_parts_169 (pc' := 170) rfl ?_
      refine x_istore C dX7_parts_170 (pc' := 172) rfl (by decide) rfl (lv' := [some (vR a0), some (vI i1), none, some (vI i3), some (vI (0 : Int32)), some (vI (0 : Int32)), none]) rfl ?_
      refine x_more (k' := 0) (n' := 0) (Nat.le_of_ble_eq_true rfl) (Nat.le_of_ble_eq_true rfl) ?_
      exact mX7_parts_w172 C hr hlk hnm (fX7_parts_w161 n) ih FUEL a0 i1 i3 (0 : Int32) (0 : Int32) h hf
def fX7_parts_b158 (a0 : Nat) (i1 : Int32) (i3 : Int32) (h : Hp) : Option (Int32 × Hp) := fX7_parts_w161 FUEL a0 i1 i3 (1 : Int32) h
set_option maxHeartbeats 4000000 in
set_option maxRecDepth 100000 in
theorem mX7_parts_b158 {g : XG} {p : Program} {l : Launch} {e : Env} {s : State} {m : MethodId} {args : Array Value} {below : List Frame} {meth : Method} {c : Code} (C : x_C g p s m args c cX7_parts RX7 7 wsX7_parts) (hr : meth.sig.returnType = (some .boolean)) (hlk : meth.locks = false) (hnm : meth.name = yX7_parts.name) {res : Int32 × Hp} (a0 : Nat) (i1 : Int32) (i3 : Int32) (h : Hp) (hf : fX7_parts_b158 a0 i1 i3 h = some res) : XW g p l e { frames := 4, cells := 0, slots := 0, locals := 93 } s m args below meth c (MQ below (x_Q g (some (vI res.1)) res.2) args s 0 0 (x_A g)) 7 0 0 h 158 [some (vR a0), some (vI i1), none, some (vI i3), none, none, none] [] := by
  unfold fX7_parts_b158 at hf
  refine x_iconst C (v := 1) (by decide) dX7_parts_158 (pc' := 159) rfl ?_
  refine x_istore C dX7_parts_159 (pc' := 161) rfl (by decide) rfl (lv' := [some (vR a0), some (vI i1), none, some (vI i3), some (vI (1 : Int32)), none, none]) rfl ?_
  refine x_more (k' := 0) (n' := 0) (Nat.le_of_ble_eq_true rfl) (Nat.le_of_ble_eq_true rfl) ?_
  exact mX7_parts_w161 C hr hlk hnm FUEL a0 i1 i3 (1 : Int32) h hf
def fX7_parts_w132 : Nat → Nat → Int32 → Int32 → Int32 → Hp → Option (Int32 × Hp)
  | 0 => fun _ _ _ _ _ => none
  | n + 1 => fun a0 i1 i3 i5 h => if i3 ≤ i5 then (fX7_parts_b158 a0 i1 i3 h) else ((gR h a0 7 12).bind fun v1 => call (oK h a0 7 (fX7_isOne h a0 i1 i5)) fun r2 h3 => (sI h3 v1 2 i5 r2).bind fun h4 => (fX7_parts_w132 n) a0 i1 i3 (i5 + 1) h4)
set_option maxHeartbeats 4000000 in
set_option maxRecDepth 100000 in
theorem mX7_parts_w132 {g : XG} {p : Program} {l : Launch} {e : Env} {s : State} {m : MethodId} {args : Array Value} {below : List Frame} {meth : Method} {c : Code} (C : x_C g p s m args c cX7_parts RX7 7 wsX7_parts) (hr : meth.sig.returnType = (some .boolean)) (hlk : meth.locks = false) (hnm : meth.name = yX7_parts.name) {res : Int32 × Hp} : ∀ (n : Nat) (a0 : Nat) (i1 : Int32) (i3 : Int32) (i5 : Int32) (h : Hp), fX7_parts_w132 n a0 i1 i3 i5 h = some res → XW g p l e { frames := 4, cells := 0, slots := 0, locals := 93 } s m args below meth c (MQ below (x_Q g (some (vI res.1)) res.2) args s 0 0 (x_A g)) 7 0 0 h 132 [some (vR a0), some (vI i1), none, some (vI i3), none, some (vI i5), none] [] := by
  intro n
  induction n with
  | zero =>
    intro a0 i1 i3 i5 h hf
    have hf2 : (none : Option (Int32 × Hp)) = some res := hf
    cases hf2
  | succ n ih =>
    intro a0 i1 i3 i5 h hf
    rw [fX7_parts_w132] at hf
    refine x_iload C dX7_parts_132 (pc' := 134) rfl rfl ?_
    refine x_iload_n C dX7_parts_134 (pc' := 135) rfl rfl rfl ?_
    refine x_icmp_ge C hf dX7_parts_135 (pc' := 138) rfl (tgt := 158) (by decide) (fun _ hf => ?_) (fun _ hf => ?_)
    ·
      refine x_keep [true, true, false, true, false, false, false] rfl ?_
      refine x_more (k' := 0) (n' := 0) (Nat.le_of_ble_eq_true rfl) (Nat.le_of_ble_eq_true rfl) ?_
      exact mX7_parts_b158 C hr hlk hnm a0 i1 i3 h hf
    ·
      refine x_aload_n C dX7_parts_138 (pc' := 139) rfl rfl rfl ?_
      refine x_getR C (ci := 7) (kf := 12) rfl (by decide) hinX7_parts_X7 lkX7_parts_1 rfl hf dX7_parts_139 (pc' := 142) rfl (fun v1 _ hf => ?_)
      refine x_iload C dX7_parts_142 (pc' := 144) rfl rfl ?_
      refine x_aload_n C dX7_parts_144 (pc' := 145) rfl rfl rfl ?_
      refine x_iload_n C dX7_parts_145 (pc' := 146) rfl rfl rfl ?_
      refine x_iload C dX7_parts_146 (pc' := 148) rfl rfl ?_
      obtain ⟨r2, h3, hq, hf⟩ := call_some hf
      obtain ⟨hob, hq⟩ := oK_some hq
      refine x_callV C (As := [vI i1, vI i5]) (st := [vI i5, vR v1]) (r := (some (vI r2))) (h' := h3) (mc := 0) (ms := 0) (k := 0) (n := 0) (mX7_isOne hq) hob (ci := 7) rfl (cwV 2 C.1.2.2.2.2 gX7_parts_X7_isOne rfl rfl rfl (by decide +kernel) ⟨Nat.le_of_ble_eq_true rfl, Nat.le_of_ble_eq_true rfl⟩) rfl rfl (Nat.le_of_ble_eq_true rfl) dX7_parts_148 (pc' := 151) rfl ?_
      refine x_bastoreZ C hf dX7_parts_151 (pc' := 152) rfl (fun h4 _ hf => ?_)
      refine x_iinc C dX7_parts_152 (pc' := 155) rfl rfl (v := (i5 + 1)) rfl (by decide) rfl (lv' := [some (vR a0), some (vI i1), none, some (vI i3), none, some (vI (i5 + 1)), none]) rfl ?_
      refine x_goto C dX7_parts_155 (tgt := 132) (by decide) ?_
      exact ih a0 i1 i3 (i5 + 1) h4 hf
def fX7_parts_b129 (a0 : Nat) (i1 : Int32) (i3 : Int32) (h : Hp) : Option (Int32 × Hp) := fX7_parts_w132 FUEL a0 i1 i3 (0 : Int32) h
set_option maxHeartbeats 4000000 in
set_option maxRecDepth 100000 in
theorem mX7_parts_b129 {g : XG} {p : Program} {l : Launch} {e : Env} {s : State} {m : MethodId} {args : Array Value} {below : List Frame} {meth : Method} {c : Code} (C : x_C g p s m args c cX7_parts RX7 7 wsX7_parts) (hr : meth.sig.returnType = (some .boolean)) (hlk : meth.locks = false) (hnm : meth.name = yX7_parts.name) {res : Int32 × Hp} (a0 : Nat) (i1 : Int32) (i3 : Int32) (h : Hp) (hf : fX7_parts_b129 a0 i1 i3 h = some res) : XW g p l e { frames := 4, cells := 0, slots := 0, locals := 93 } s m args below meth c (MQ below (x_Q g (some (vI res.1)) res.2) args s 0 0 (x_A g)) 7 0 0 h 129 [some (vR a0), some (vI i1), none, some (vI i3), none, none, none] [] := by
  unfold fX7_parts_b129 at hf
  refine x_iconst C (v := 0) (by decide) dX7_parts_129 (pc' := 130) rfl ?_
  refine x_istore C dX7_parts_130 (pc' := 132) rfl (by decide) rfl (lv' := [some (vR a0), some (vI i1), none, some (vI i3), none, some (vI (0 : Int32)), none]) rfl ?_
  refine x_more (k' := 0) (n' := 0) (Nat.le_of_ble_eq_true rfl) (Nat.le_of_ble_eq_true rfl) ?_
  exact mX7_parts_w132 C hr hlk hnm FUEL a0 i1 i3 (0 : Int32) h hf
def fX7_parts_b126 (w42 : Nat → Int32 → Int32 → Int32 → Hp → Option (Int32 × Hp)) (a0 : Nat) (i1 : Int32) (i3 : Int32) (i4 : Int32) (h : Hp) : Option (Int32 × Hp) := w42 a0 i1 i3 i4 h
set_option maxHeartbeats 4000000 in
set_option maxRecDepth 100000 in
theorem mX7_parts_b126 {g : XG} {p : Program} {l : Launch} {e : Env} {s : State} {m : MethodId} {args : Array Value} {below : List Frame} {meth : Method} {c : Code} (C : x_C g p s m args c cX7_parts RX7 7 wsX7_parts) (hr : meth.sig.returnType = (some .boolean)) (hlk : meth.locks = false) (hnm : meth.name = yX7_parts.name) {res : Int32 × Hp} (w42 : Nat → Int32 → Int32 → Int32 → Hp → Option (Int32 × Hp)) (hw42 : ∀ (a0 : Nat) (i1 : Int32) (i3 : Int32) (i4 : Int32) (h : Hp), w42 a0 i1 i3 i4 h = some res → XW g p l e { frames := 4, cells := 0, slots := 0, locals := 93 } s m args below meth c (MQ below (x_Q g (some (vI res.1)) res.2) args s 0 0 (x_A g)) 7 0 0 h 42 [some (vR a0), some (vI i1), none, some (vI i3), some (vI i4), none, none] []) (a0 : Nat) (i1 : Int32) (i3 : Int32) (i4 : Int32) (h : Hp) (hf : fX7_parts_b126 w42 a0 i1 i3 i4 h = some res) : XW g p l e { frames := 4, cells := 0, slots := 0, locals := 93 } s m args below meth c (MQ below (x_Q g (some (vI res.1)) res.2) args s 0 0 (x_A g)) 7 0 0 h 126 [some (vR a0), some (vI i1), none, some (vI i3), some (vI i4), none, none] [] := by
  unfold fX7_parts_b126 at hf
  refine x_goto C dX7_parts_126 (tgt := 42) (by decide) ?_
  exact hw42 a0 i1 i3 i4 h hf
def fX7_parts_b120 (w42 : Nat → Int32 → Int32 → Int32 → Hp → Option (Int32 × Hp)) (w53 : Nat → Int32 → Int32 → Int32 → Int32 → Hp → Option (Int32 × Hp)) (a0 : Nat) (i1 : Int32) (i3 : Int32) (i4 : Int32) (i5 : Int32) (h : Hp) : Option (Int32 × Hp) := w53 a0 i1 i3 i4 (i5 + 1) h
set_option maxHeartbeats 4000000 in
set_option maxRecDepth 100000 in
theorem mX7_parts_b120 {g : XG} {p : Program} {l : Launch} {e : Env} {s : State} {m : MethodId} {args : Array Value} {below : List Frame} {meth : Method} {c : Code} (C : x_C g p s m args c cX7_parts RX7 7 wsX7_parts) (hr : meth.sig.returnType = (some .boolean)) (hlk : meth.locks = false) (hnm : meth.name = yX7_parts.name) {res : Int32 × Hp} (w42 : Nat → Int32 → Int32 → Int32 → Hp → Option (Int32 × Hp)) (hw42 : ∀ (a0 : Nat) (i1 : Int32) (i3 : Int32) (i4 : Int32) (h : Hp), w42 a0 i1 i3 i4 h = some res → XW g p l e { frames := 4, cells := 0, slots := 0, locals := 93 } s m args below meth c (MQ below (x_Q g (some (vI res.1)) res.2) args s 0 0 (x_A g)) 7 0 0 h 42 [some (vR a0), some (vI i1), none, some (vI i3), some (vI i4), none, none] []) (w53 : Nat → Int32 → Int32 → Int32 → Int32 → Hp → Option (Int32 × Hp)) (hw53 : ∀ (a0 : Nat) (i1 : Int32) (i3 : Int32) (i4 : Int32) (i5 : Int32) (h : Hp), w53 a0 i1 i3 i4 i5 h = some res → XW g p l e { frames := 4, cells := 0, slots := 0, locals := 93 } s m args below meth c (MQ below (x_Q g (some (vI res.1)) res.2) args s 0 0 (x_A g)) 7 0 0 h 53 [some (vR a0), some (vI i1), none, some (vI i3), some (vI i4), some (vI i5), none] []) (a0 : Nat) (i1 : Int32) (i3 : Int32) (i4 : Int32) (i5 : Int32) (h : Hp) (hf : fX7_parts_b120 w42 w53 a0 i1 i3 i4 i5 h = some res) : XW g p l e { frames := 4, cells := 0, slots := 0, locals := 93 } s m args below meth c (MQ below (x_Q g (some (vI res.1)) res.2) args s 0 0 (x_A g)) 7 0 0 h 120 [some (vR a0), some (vI i1), none, some (vI i3), some (vI i4), some (vI i5), none] [] := by
  unfold fX7_parts_b120 at hf
  refine x_iinc C dX7_parts_120 (pc' := 123) rfl rfl (v := (i5 + 1)) rfl (by decide) rfl (lv' := [some (vR a0), some (vI i1), none, some (vI i3), some (vI i4), some (vI (i5 + 1)), none]) rfl ?_
  refine x_goto C dX7_parts_123 (tgt := 53) (by decide) ?_
  exact hw53 a0 i1 i3 i4 (i5 + 1) h hf
def fX7_parts_b114 (w42 : Nat → Int32 → Int32 → Int32 → Hp → Option (Int32 × Hp)) (w53 : Nat → Int32 → Int32 → Int32 → Int32 → Hp → Option (Int32 × Hp)) (w62 : Nat → Int32 → Int32 → Int32 → Int32 → Int32 → Hp → Option (Int32 × Hp)) (a0 : Nat) (i1 : Int32) (i3 : Int32) (i4 : Int32) (i5 : Int32) (i6 : Int32) (h : Hp) : Option (Int32 × Hp) := w62 a0 i1 i3 i4 i5 (i6 + 1) h
set_option maxHeartbeats 4000000 in
set_option maxRecDepth 100000 in
theorem mX7_parts_b114 {g : XG} {p : Program} {l : Launch} {e : Env} {s : State} {m : MethodId} {args : Array Value} {below : List Frame} {meth : Method} {c : Code} (C : x_C g p s m args c cX7_parts RX7 7 wsX7_parts) (hr : meth.sig.returnType = (some .boolean)) (hlk : meth.locks = false) (hnm : meth.name = yX7_parts.name) {res : Int32 × Hp} (w42 : Nat → Int32 → Int32 → Int32 → Hp → Option (Int32 × Hp)) (hw42 : ∀ (a0 : Nat) (i1 : Int32) (i3 : Int32) (i4 : Int32) (h : Hp), w42 a0 i1 i3 i4 h = some res → XW g p l e { frames := 4, cells := 0, slots := 0, locals := 93 } s m args below meth c (MQ below (x_Q g (some (vI res.1)) res.2) args s 0 0 (x_A g)) 7 0 0 h 42 [some (vR a0), some (vI i1), none, some (vI i3), some (vI i4), none, none] []) (w53 : Nat → Int32 → Int32 → Int32 → Int32 → Hp → Option (Int32 × Hp)) (hw53 : ∀ (a0 : Nat) (i1 : Int32) (i3 : Int32) (i4 : Int32) (i5 : Int32) (h : Hp), w53 a0 i1 i3 i4 i5 h = some res → XW g p l e { frames := 4, cells := 0, slots := 0, locals := 93 } s m args below meth c (MQ below (x_Q g (some (vI res.1)) res.2) args s 0 0 (x_A g)) 7 0 0 h 53 [some (vR a0), some (vI i1), none, some (vI i3), some (vI i4), some (vI i5), none] []) (w62 : Nat → Int32 → Int32 → Int32 → Int32 → Int32 → Hp → Option (Int32 × Hp)) (hw62 : ∀ (a0 : Nat) (i1 : Int32) (i3 : Int32) (i4 : Int32) (i5 : Int32) (i6 : Int32) (h : Hp), w62 a0 i1 i3 i4 i5 i6 h = some res → XW g p l e { frames := 4, cells := 0, slots := 0, locals := 93 } s m args below meth c (MQ below (x_Q g (some (vI res.1)) res.2) args s 0 0 (x_A g)) 7 0 0 h 62 [some (vR a0), some (vI i1), none, some (vI i3), some (vI i4), some (vI i5), some (vI i6)] []) (a0 : Nat) (i1 : Int32) (i3 : Int32) (i4 : Int32) (i5 : Int32) (i6 : Int32) (h : Hp) (hf : fX7_parts_b114 w42 w53 w62 a0 i1 i3 i4 i5 i6 h = some res) : XW g p l e { frames := 4, cells := 0, slots := 0, locals := 93 } s m args below meth c (MQ below (x_Q g (some (vI res.1)) res.2) args s 0 0 (x_A g)) 7 0 0 h 114 [some (vR a0), some (vI i1), none, some (vI i3), some (vI i4), some (vI i5), some (vI i6)] [] := by
  unfold fX7_parts_b114 at hf
  refine x_iinc C dX7_parts_114 (pc' := 117) rfl rfl (v := (i6 + 1)) rfl (by decide) rfl (lv' := [some (vR a0), some (vI i1), none, some (vI i3), some (vI i4), some (vI i5), some (vI (i6 + 1))]) rfl ?_
  refine x_goto C dX7_parts_117 (tgt := 62) (by decide) ?_
  exact hw62 a0 i1 i3 i4 i5 (i6 + 1) h hf
def fX7_parts_w62 (w42 : Nat → Int32 → Int32 → Int32 → Hp → Option (Int32 × Hp)) (w53 : Nat → Int32 → Int32 → Int32 → Int32 → Hp → Option (Int32 × Hp)) : Nat → Nat → Int32 → Int32 → Int32 → Int32 → Int32 → Hp → Option (Int32 × Hp)
  | 0 => fun _ _ _ _ _ _ _ => none
  | n + 1 => fun a0 i1 i3 i4 i5 i6 h => if i3 ≤ i6 then (fX7_parts_b120 w42 w53 a0 i1 i3 i4 i5 h) else ((gR h a0 7 13).bind fun v1 => (aI h v1 2 i5).bind fun v2 => if v2 = 0 then (fX7_parts_b120 w42 w53 a0 i1 i3 i4 i5 h) else ((gR h a0 7 13).bind fun v3 => (aI h v3 2 i6).bind fun v4 => if v4 = 0 then (call (oK h a0 7 (fX7_leads h a0 i1 i5 i6)) fun r5 h6 => if r5 = 0 then (fX7_parts_b114 w42 w53 (fX7_parts_w62 w42 w53 n) a0 i1 i3 i4 i5 i6 h6) else ((gR h6 a0 7 13).bind fun v7 => (sI h6 v7 2 i6 (1 : Int32)).bind fun h8 => fX7_parts_b114 w42 w53 (fX7_parts_w62 w42 w53 n) a0 i1 i3 (1 : Int32) i5 i6 h8)) else (fX7_parts_b114 w42 w53 (fX7_parts_w62 w42 w53 n) a0 i1 i3 i4 i5 i6 h)))
set_option maxHeartbeats 4000000 in
set_option maxRecDepth 100000 in
theorem mX7_parts_w62 {g : XG} {p : Program} {l : Launch} {e : Env} {s : State} {m : MethodId} {args : Array Value} {below : List Frame} {meth : Method} {c : Code} (C : x_C g p s m args c cX7_parts RX7 7 wsX7_parts) (hr : meth.sig.returnType = (some .boolean)) (hlk : meth.locks = false) (hnm : meth.name = yX7_parts.name) {res : Int32 × Hp} (w42 : Nat → Int32 → Int32 → Int32 → Hp → Option (Int32 × Hp)) (hw42 : ∀ (a0 : Nat) (i1 : Int32) (i3 : Int32) (i4 : Int32) (h : Hp), w42 a0 i1 i3 i4 h = some res → XW g p l e { frames := 4, cells := 0, slots := 0, locals := 93 } s m args below meth c (MQ below (x_Q g (some (vI res.1)) res.2) args s 0 0 (x_A g)) 7 0 0 h 42 [some (vR a0), some (vI i1), none, some (vI i3), some (vI i4), none, none] []) (w53 : Nat → Int32 → Int32 → Int32 → Int32 → Hp → Option (Int32 × Hp)) (hw53 : ∀ (a0 : Nat) (i1 : Int32) (i3 : Int32) (i4 : Int32) (i5 : Int32) (h : Hp), w53 a0 i1 i3 i4 i5 h = some res → XW g p l e { frames := 4, cells := 0, slots := 0, locals := 93 } s m args below meth c (MQ below (x_Q g (some (vI res.1)) res.2) args s 0 0 (x_A g)) 7 0 0 h 53 [some (vR a0), some (vI i1), none, some (vI i3), some (vI i4), some (vI i5), none] []) : ∀ (n : Nat) (a0 : Nat) (i1 : Int32) (i3 : Int32) (i4 : Int32) (i5 : Int32) (i6 : Int32) (h : Hp), fX7_parts_w62 w42 w53 n a0 i1 i3 i4 i5 i6 h = some res → XW g p l e { frames := 4, cells := 0, slots := 0, locals := 93 } s m args below meth c (MQ below (x_Q g (some (vI res.1)) res.2) args s 0 0 (x_A g)) 7 0 0 h 62 [some (vR a0), some (vI i1), none, some (vI i3), some (vI i4), some (vI i5), some (vI i6)] [] := by
  intro n
  induction n with
  | zero =>
    intro a0 i1 i3 i4 i5 i6 h hf
    have hf2 : (none : Option (Int32 × Hp)) = some res := hf
    cases hf2
  | succ n ih =>
    intro a0 i1 i3 i4 i5 i6 h hf
    rw [fX7_parts_w62] at hf
    refine x_iload C dX7_parts_62 (pc' := 64) rfl rfl ?_
    refine x_iload_n C dX7_parts_64 (pc' := 65) rfl rfl rfl ?_
    refine x_icmp_ge C hf dX7_parts_65 (pc' := 68) rfl (tgt := 120) (by decide) (fun _ hf => ?_) (fun _ hf => ?_)
    ·
      refine x_keep [true, true, false, true, true, true, false] rfl ?_
      refine x_more (k' := 0) (n' := 0) (Nat.le_of_ble_eq_true rfl) (Nat.le_of_ble_eq_true rfl) ?_
      exact mX7_parts_b120 C hr hlk hnm w42 hw42 w53 hw53 a0 i1 i3 i4 i5 h hf
    ·
      refine x_aload_n C dX7_parts_68 (pc' := 69) rfl rfl rfl ?_
      refine x_getR C (ci := 7) (kf := 13) rfl (by decide) hinX7_parts_X7 lkX7_parts_0 rfl hf dX7_parts_69 (pc' := 72) rfl (fun v1 _ hf => ?_)
      refine x_iload C dX7_parts_72 (pc' := 74) rfl rfl ?_
      refine x_baloadZ C hf dX7_parts_74 (pc' := 75) rfl (fun v2 _ hf => ?_)
      refine x_if_eq C hf dX7_parts_75 (pc' := 78) rfl (tgt := 120) (by decide) (fun _ hf => ?_) (fun _ hf => ?_)
      ·
        refine x_keep [true, true, false, true, true, true, false] rfl ?_
        refine x_more (k' := 0) (n' := 0) (Nat.le_of_ble_eq_true rfl) (Nat.le_of_ble_eq_true rfl) ?_
        exact mX7_parts_b120 C hr hlk hnm w42 hw42 w53 hw53 a0 i1 i3 i4 i5 h hf
      ·
        refine x_aload_n C dX7_parts_78 (pc' := 79) rfl rfl rfl ?_
        refine x_getR C (ci := 7) (kf := 13) rfl (by decide) hinX7_parts_X7 lkX7_parts_0 rfl hf dX7_parts_79 (pc' := 82) rfl (fun v3 _ hf => ?_)
        refine x_iload C dX7_parts_82 (pc' := 84) rfl rfl ?_
        refine x_baloadZ C hf dX7_parts_84 (pc' := 85) rfl (fun v4 _ hf => ?_)
        refine x_if_ne C hf dX7_parts_85 (pc' := 88) rfl (tgt := 114) (by decide) (fun _ hf => ?_) (fun _ hf => ?_)
        ·
          refine x_aload_n C dX7_parts_88 (pc' := 89) rfl rfl rfl ?_
          refine x_iload_n C dX7_parts_89 (pc' := 90) rfl rfl rfl ?_
          refine x_iload C dX7_parts_90 (pc' := 92) rfl rfl ?_
          refine x_iload C dX7_parts_92 (pc' := 94) rfl rfl ?_
          obtain ⟨r5, h6, hq, hf⟩ := call_some hf
          obtain ⟨hob, hq⟩ := oK_some hq
          refine x_callV C (As := [vI i1, vI i5, vI i6]) (st := []) (r := (some (vI r5))) (h' := h6) (mc := 0) (ms := 0) (k := 0) (n := 0) (mX7_leads hq) hob (ci := 7) rfl (cwV 3 C.1.2.2.2.2 gX7_parts_X7_leads rfl rfl rfl (by decide +kernel) ⟨Nat.le_of_ble_eq_true rfl, Nat.le_of_ble_eq_true rfl⟩) rfl rfl (Nat.le_of_ble_eq_true rfl) dX7_parts_94 (pc' := 97) rfl ?_
          refine x_if_ne C hf dX7_parts_97 (pc' := 100) rfl (tgt := 103) (by decide) (fun _ hf => ?_) (fun _ hf => ?_)
          ·
            refine x_goto C dX7_parts_100 (tgt := 114) (by decide) ?_
            refine x_more (k' := 0) (n' := 0) (Nat.le_of_ble_eq_true rfl) (Nat.le_of_ble_eq_true rfl) ?_
            exact mX7_parts_b114 C hr hlk hnm w42 hw42 w53 hw53 (fX7_parts_w62 w42 w53 n) ih a0 i1 i3 i4 i5 i6 h6 hf
          ·
            refine x_aload_n C dX7_parts_103 (pc' := 104) rfl rfl rfl ?_
            refine x_getR C (ci := 7) (kf := 13) rfl (by decide) hinX7_parts_X7 lkX7_parts_0 rfl hf dX7_parts_104 (pc' := 107) rfl (fun v7 _ hf => ?_)
            refine x_iload C dX7_parts_107 (pc' := 109) rfl rfl ?_
            refine x_iconst C (v := 1) (by decide) dX7_parts_109 (pc' := 110) rfl ?_
            refine x_bastoreZ C hf dX7_parts_110 (pc' := 111) rfl (fun h8 _ hf => ?_)
            refine x_iconst C (v := 1) (by decide) dX7_parts_111 (pc' := 112) rfl ?_
            refine x_istore C dX7_parts_112 (pc' := 114) rfl (by decide) rfl (lv' := [some (vR a0), some (vI i1), none, some (vI i3), some (vI (1 : Int32)), some (vI i5), some (vI i6)]) rfl ?_
            refine x_more (k' := 0) (n' := 0) (Nat.le_of_ble_eq_true rfl) (Nat.le_of_ble_eq_true rfl) ?_
            exact mX7_parts_b114 C hr hlk hnm w42 hw42 w53 hw53 (fX7_parts_w62 w42 w53 n) ih a0 i1 i3 (1 : Int32) i5 i6 h8 hf
        ·
          refine x_more (k' := 0) (n' := 0) (Nat.le_of_ble_eq_true rfl) (Nat.le_of_ble_eq_true rfl) ?_
          exact mX7_parts_b114 C hr hlk hnm w42 hw42 w53 hw53 (fX7_parts_w62 w42 w53 n) ih a0 i1 i3 i4 i5 i6 h hf
def fX7_parts_w53 (w42 : Nat → Int32 → Int32 → Int32 → Hp → Option (Int32 × Hp)) : Nat → Nat → Int32 → Int32 → Int32 → Int32 → Hp → Option (Int32 × Hp)
  | 0 => fun _ _ _ _ _ _ => none
  | n + 1 => fun a0 i1 i3 i4 i5 h => if i3 ≤ i5 then (fX7_parts_b126 w42 a0 i1 i3 i4 h) else (fX7_parts_w62 w42 (fX7_parts_w53 w42 n) FUEL a0 i1 i3 i4 i5 (0 : Int32) h)
set_option maxHeartbeats 4000000 in
set_option maxRecDepth 100000 in
theorem mX7_parts_w53 {g : XG} {p : Program} {l : Launch} {e : Env} {s : State} {m : MethodId} {args : Array Value} {below : List Frame} {meth : Method} {c : Code} (C : x_C g p s m args c cX7_parts RX7 7 wsX7_parts) (hr : meth.sig.returnType = (some .boolean)) (hlk : meth.locks = false) (hnm : meth.name = yX7_parts.name) {res : Int32 × Hp} (w42 : Nat → Int32 → Int32 → Int32 → Hp → Option (Int32 × Hp)) (hw42 : ∀ (a0 : Nat) (i1 : Int32) (i3 : Int32) (i4 : Int32) (h : Hp), w42 a0 i1 i3 i4 h = some res → XW g p l e { frames := 4, cells := 0, slots := 0, locals := 93 } s m args below meth c (MQ below (x_Q g (some (vI res.1)) res.2) args s 0 0 (x_A g)) 7 0 0 h 42 [some (vR a0), some (vI i1), none, some (vI i3), some (vI i4), none, none] []) : ∀ (n : Nat) (a0 : Nat) (i1 : Int32) (i3 : Int32) (i4 : Int32) (i5 : Int32) (h : Hp), fX7_parts_w53 w42 n a0 i1 i3 i4 i5 h = some res → XW g p l e { frames := 4, cells := 0, slots := 0, locals := 93 } s m args below meth c (MQ below (x_Q g (some (vI res.1)) res.2) args s 0 0 (x_A g)) 7 0 0 h 53 [some (vR a0), some (vI i1), none, some (vI i3), some (vI i4), some (vI i5), none] [] := by
  intro n
  induction n with
  | zero =>
    intro a0 i1 i3 i4 i5 h hf
    have hf2 : (none : Option (Int32 × Hp)) = some res := hf
    cases hf2
  | succ n ih =>
    intro a0 i1 i3 i4 i5 h hf
    rw [fX7_parts_w53] at hf
    refine x_iload C dX7_parts_53 (pc' := 55) rfl rfl ?_
    refine x_iload_n C dX7_parts_55 (pc' := 56) rfl rfl rfl ?_
    refine x_icmp_ge C hf dX7_parts_56 (pc' := 59) rfl (tgt := 126) (by decide) (fun _ hf => ?_) (fun _ hf => ?_)
    ·
      refine x_keep [true, true, false, true, true, false, false] rfl ?_
      refine x_more (k' := 0) (n' := 0) (Nat.le_of_ble_eq_true rfl) (Nat.le_of_ble_eq_true rfl) ?_
      exact mX7_parts_b126 C hr hlk hnm w42 hw42 a0 i1 i3 i4 h hf
    ·
      refine x_iconst C (v := 0) (by decide) dX7_parts_59 (pc' := 60) rfl ?_
      refine x_istore C dX7_parts_60 (pc' := 62) rfl (by decide) rfl (lv' := [some (vR a0), some (vI i1), none, some (vI i3), some (vI i4), some (vI i5), some (vI (0 : Int32))]) rfl ?_
      refine x_more (k' := 0) (n' := 0) (Nat.le_of_ble_eq_true rfl) (Nat.le_of_ble_eq_true rfl) ?_
      exact mX7_parts_w62 C hr hlk hnm w42 hw42 (fX7_parts_w53 w42 n) ih FUEL a0 i1 i3 i4 i5 (0 : Int32) h hf
def fX7_parts_w42 : Nat → Nat → Int32 → Int32 → Int32 → Hp → Option (Int32 × Hp)
  | 0 => fun _ _ _ _ _ => none
  | n + 1 => fun a0 i1 i3 i4 h => if i4 = 0 then (fX7_parts_b129 a0 i1 i3 h) else (fX7_parts_w53 (fX7_parts_w42 n) FUEL a0 i1 i3 (0 : Int32) (0 : Int32) h)
set_option maxHeartbeats 4000000 in
set_option maxRecDepth 100000 in
theorem mX7_parts_w42 {g : XG} {p : Program} {l : Launch} {e : Env} {s : State} {m : MethodId} {args : Array Value} {below : List Frame} {meth : Method} {c : Code} (C : x_C g p s m args c cX7_parts RX7 7 wsX7_parts) (hr : meth.sig.returnType = (some .boolean)) (hlk : meth.locks = false) (hnm : meth.name = yX7_parts.name) {res : Int32 × Hp} : ∀ (n : Nat) (a0 : Nat) (i1 : Int32) (i3 : Int32) (i4 : Int32) (h : Hp), fX7_parts_w42 n a0 i1 i3 i4 h = some res → XW g p l e { frames := 4, cells := 0, slots := 0, locals := 93 } s m args below meth c (MQ below (x_Q g (some (vI res.1)) res.2) args s 0 0 (x_A g)) 7 0 0 h 42 [some (vR a0), some (vI i1), none, some (vI i3), some (vI i4), none, none] [] := by
  intro n
  induction n with
  | zero =>
    intro a0 i1 i3 i4 h hf
    have hf2 : (none : Option (Int32 × Hp)) = some res := hf
    cases hf2
  | succ n ih =>
    intro a0 i1 i3 i4 h hf
    rw [fX7_parts_w42] at hf
    refine x_iload C dX7_parts_42 (pc' := 44) rfl rfl ?_
    refine x_if_eq C hf dX7_parts_44 (pc' := 47) rfl (tgt := 129) (by decide) (fun _ hf => ?_) (fun _ hf => ?_)
    ·
      refine x_keep [true, true, false, true, false, false, false] rfl ?_
      refine x_more (k' := 0) (n' := 0) (Nat.le_of_ble_eq_true rfl) (Nat.le_of_ble_eq_true rfl) ?_
      exact mX7_parts_b129 C hr hlk hnm a0 i1 i3 h hf
    ·
      refine x_iconst C (v := 0) (by decide) dX7_parts_47 (pc' := 48) rfl ?_
      refine x_istore C dX7_parts_48 (pc' := 50) rfl (by decide) rfl (lv' := [some (vR a0), some (vI i1), none, some (vI i3), some (vI (0 : Int32)), none, none]) rfl ?_
      refine x_iconst C (v := 0) (by decide) dX7_parts_50 (pc' := 51) rfl ?_
      refine x_istore C dX7_parts_51 (pc' := 53) rfl (by decide) rfl (lv' := [some (vR a0), some (vI i1), none, some (vI i3), some (vI (0 : Int32)), some (vI (0 : Int32)), none]) rfl ?_
      refine x_more (k' := 0) (n' := 0) (Nat.le_of_ble_eq_true rfl) (Nat.le_of_ble_eq_true rfl) ?_
      exact mX7_parts_w53 C hr hlk hnm (fX7_parts_w42 n) ih FUEL a0 i1 i3 (0 : Int32) (0 : Int32) h hf
def fX7_parts_b39 (a0 : Nat) (i1 : Int32) (i3 : Int32) (h : Hp) : Option (Int32 × Hp) := fX7_parts_w42 FUEL a0 i1 i3 (1 : Int32) h
set_option maxHeartbeats 4000000 in
set_option maxRecDepth 100000 in
theorem mX7_parts_b39 {g : XG} {p : Program} {l : Launch} {e : Env} {s : State} {m : MethodId} {args : Array Value} {below : List Frame} {meth : Method} {c : Code} (C : x_C g p s m args c cX7_parts RX7 7 wsX7_parts) (hr : meth.sig.returnType = (some .boolean)) (hlk : meth.locks = false) (hnm : meth.name = yX7_parts.name) {res : Int32 × Hp} (a0 : Nat) (i1 : Int32) (i3 : Int32) (h : Hp) (hf : fX7_parts_b39 a0 i1 i3 h = some res) : XW g p l e { frames := 4, cells := 0, slots := 0, locals := 93 } s m args below meth c (MQ below (x_Q g (some (vI res.1)) res.2) args s 0 0 (x_A g)) 7 0 0 h 39 [some (vR a0), some (vI i1), none, some (vI i3), none, none, none] [] := by
  unfold fX7_parts_b39 at hf
  refine x_iconst C (v := 1) (by decide) dX7_parts_39 (pc' := 40) rfl ?_
  refine x_istore C dX7_parts_40 (pc' := 42) rfl (by decide) rfl (lv' := [some (vR a0), some (vI i1), none, some (vI i3), some (vI (1 : Int32)), none, none]) rfl ?_
  refine x_more (k' := 0) (n' := 0) (Nat.le_of_ble_eq_true rfl) (Nat.le_of_ble_eq_true rfl) ?_
  exact mX7_parts_w42 C hr hlk hnm FUEL a0 i1 i3 (1 : Int32) h hf
def fX7_parts_w13 : Nat → Nat → Int32 → Int32 → Int32 → Hp → Option (Int32 × Hp)
  | 0 => fun _ _ _ _ _ => none
  | n + 1 => fun a0 i1 i3 i4 h => if i3 ≤ i4 then (fX7_parts_b39 a0 i1 i3 h) else ((gR h a0 7 13).bind fun v1 => call (oK h a0 7 (fX7_isOne h a0 i1 i4)) fun r2 h3 => (sI h3 v1 2 i4 r2).bind fun h4 => (fX7_parts_w13 n) a0 i1 i3 (i4 + 1) h4)
set_option maxHeartbeats 4000000 in
set_option maxRecDepth 100000 in
theorem mX7_parts_w13 {g : XG} {p : Program} {l : Launch} {e : Env} {s : State} {m : MethodId} {args : Array Value} {below : List Frame} {meth : Method} {c : Code} (C : x_C g p s m args c cX7_parts RX7 7 wsX7_parts) (hr : meth.sig.returnType = (some .boolean)) (hlk : meth.locks = false) (hnm : meth.name = yX7_parts.name) {res : Int32 × Hp} : ∀ (n : Nat) (a0 : Nat) (i1 : Int32) (i3 : Int32) (i4 : Int32) (h : Hp), fX7_parts_w13 n a0 i1 i3 i4 h = some res → XW g p l e { frames := 4, cells := 0, slots := 0, locals := 93 } s m args below meth c (MQ below (x_Q g (some (vI res.1)) res.2) args s 0 0 (x_A g)) 7 0 0 h 13 [some (vR a0), some (vI i1), none, some (vI i3), some (vI i4), none, none] [] := by
  intro n
  induction n with
  | zero =>
    intro a0 i1 i3 i4 h hf
    have hf2 : (none : Option (Int32 × Hp)) = some res := hf
    cases hf2
  | succ n ih =>
    intro a0 i1 i3 i4 h hf
    rw [fX7_parts_w13] at hf
    refine x_iload C dX7_parts_13 (pc' := 15) rfl rfl ?_
    refine x_iload_n C dX7_parts_15 (pc' := 16) rfl rfl rfl ?_
    refine x_icmp_ge C hf dX7_parts_16 (pc' := 19) rfl (tgt := 39) (by decide) (fun _ hf => ?_) (fun _ hf => ?_)
    ·
      refine x_keep [true, true, false, true, false, false, false] rfl ?_
      refine x_more (k' := 0) (n' := 0) (Nat.le_of_ble_eq_true rfl) (Nat.le_of_ble_eq_true rfl) ?_
      exact mX7_parts_b39 C hr hlk hnm a0 i1 i3 h hf
    ·
      refine x_aload_n C dX7_parts_19 (pc' := 20) rfl rfl rfl ?_
      refine x_getR C (ci := 7) (kf := 13) rfl (by decide) hinX7_parts_X7 lkX7_parts_0 rfl hf dX7_parts_20 (pc' := 23) rfl (fun v1 _ hf => ?_)
      refine x_iload C dX7_parts_23 (pc' := 25) rfl rfl ?_
      refine x_aload_n C dX7_parts_25 (pc' := 26) rfl rfl rfl ?_
      refine x_iload_n C dX7_parts_26 (pc' := 27) rfl rfl rfl ?_
      refine x_iload C dX7_parts_27 (pc' := 29) rfl rfl ?_
      obtain ⟨r2, h3, hq, hf⟩ := call_some hf
      obtain ⟨hob, hq⟩ := oK_some hq
      refine x_callV C (As := [vI i1, vI i4]) (st := [vI i4, vR v1]) (r := (some (vI r2))) (h' := h3) (mc := 0) (ms := 0) (k := 0) (n := 0) (mX7_isOne hq) hob (ci := 7) rfl (cwV 2 C.1.2.2.2.2 gX7_parts_X7_isOne rfl rfl rfl (by decide +kernel) ⟨Nat.le_of_ble_eq_true rfl, Nat.le_of_ble_eq_true rfl⟩) rfl rfl (Nat.le_of_ble_eq_true rfl) dX7_parts_29 (pc' := 32) rfl ?_
      refine x_bastoreZ C hf dX7_parts_32 (pc' := 33) rfl (fun h4 _ hf => ?_)
      refine x_iinc C dX7_parts_33 (pc' := 36) rfl rfl (v := (i4 + 1)) rfl (by decide) rfl (lv' := [some (vR a0), some (vI i1), none, some (vI i3), some (vI (i4 + 1)), none, none]) rfl ?_
      refine x_goto C dX7_parts_36 (tgt := 13) (by decide) ?_
      exact ih a0 i1 i3 (i4 + 1) h4 hf
def fX7_parts (h : Hp) (a0 : Nat) (i1 : Int32) : Option (Int32 × Hp) := call (oK h a0 7 (fX7_overlaps h a0 i1)) fun r1 h2 => setv ((r1 * r1)) fun v3 => fX7_parts_w13 FUEL a0 i1 v3 (0 : Int32) h2
set_option maxHeartbeats 4000000 in
set_option maxRecDepth 100000 in
theorem mX7_parts {l : Launch} {g : XG} {h : Hp} {a0 : Nat} {i1 : Int32} {res : Int32 × Hp} (hf : fX7_parts h a0 i1 = some res) : XM l g yX7_parts wsX7_parts 4 93 0 0 [vR a0, vI i1] h (some (vI res.1)) res.2 := by
  refine x_start (cc := cX7_parts) (maxL := 7) (ret := (some .boolean)) (by decide) rfl (Nat.le_of_ble_eq_true rfl) (lv := [some (vR a0), some (vI i1), none, none, none, none, none]) rfl ?_
  intro p e s m args below meth c C hr hlk hnm
  unfold fX7_parts at hf
  refine x_aload_n C dX7_parts_0 (pc' := 1) rfl rfl rfl ?_
  refine x_iload_n C dX7_parts_1 (pc' := 2) rfl rfl rfl ?_
  obtain ⟨r1, h2, hq, hf⟩ := call_some hf
  obtain ⟨hob, hq⟩ := oK_some hq
  refine x_callV C (As := [vI i1]) (st := []) (r := (some (vI r1))) (h' := h2) (mc := 0) (ms := 0) (k := 0) (n := 0) (mX7_overlaps hq) hob (ci := 7) rfl (cwV 1 C.1.2.2.2.2 gX7_parts_X7_overlaps rfl rfl rfl (by decide +kernel) ⟨Nat.le_of_ble_eq_true rfl, Nat.le_of_ble_eq_true rfl⟩) rfl rfl (Nat.le_of_ble_eq_true rfl) dX7_parts_2 (pc' := 5) rfl ?_
  refine x_istore_n C dX7_parts_5 (pc' := 6) rfl rfl (by decide) rfl (lv' := [some (vR a0), some (vI i1), some (vI r1), none, none, none, none]) rfl ?_
  refine x_iload_n C dX7_parts_6 (pc' := 7) rfl rfl rfl ?_
  refine x_iload_n C dX7_parts_7 (pc' := 8) rfl rfl rfl ?_
  refine x_imul C dX7_parts_8 (pc' := 9) rfl ?_
  refine x_nameI hf (fun v3 _ hf => ?_)
  refine x_istore_n C dX7_parts_9 (pc' := 10) rfl rfl (by decide) rfl (lv' := [some (vR a0), some (vI i1), some (vI r1), some (vI v3), none, none, none]) rfl ?_
  refine x_iconst C (v := 0) (by decide) dX7_parts_10 (pc' := 11) rfl ?_
  refine x_istore C dX7_parts_11 (pc' := 13) rfl (by decide) rfl (lv' := [some (vR a0), some (vI i1), some (vI r1), some (vI v3), some (vI (0 : Int32)), none, none]) rfl ?_
  refine x_keep [true, true, false, true, true, false, false] rfl ?_
  refine x_more (k' := 0) (n' := 0) (Nat.le_of_ble_eq_true rfl) (Nat.le_of_ble_eq_true rfl) ?_
  exact mX7_parts_w13 C hr hlk hnm FUEL a0 i1 v3 (0 : Int32) h2 hf
-- ===== X7_isEven
theorem lkX7_isEven_0 : Cond.fieldLink RX7 13 "MossRingsModel" "states" "[I" ∈ wsX7_isEven := by decide +kernel
theorem hinX7_isEven_X7 : ∀ w ∈ u_ws RX7 TX7 27, w ∈ wsX7_isEven := by decide +kernel
theorem lkX7_isEven_1 : Cond.fieldLink RX7 17 "MossRingsModel" "widths" "[I" ∈ wsX7_isEven := by decide +kernel
def fX7_isEven_b67 (w18 : Nat → Int32 → Int32 → Int32 → Hp → Option (Int32 × Hp)) (a0 : Nat) (i1 : Int32) (i2 : Int32) (i3 : Int32) (i4 : Int32) (h : Hp) : Option (Int32 × Hp) := (gR h a0 7 4).bind fun v1 => (aI h v1 0 i1).bind fun v2 => if (i4 * v2) = i2 then (w18 a0 i1 i2 (i3 + 1) h) else (retZ (0 : Int32) h)
set_option maxHeartbeats 4000000 in
set_option maxRecDepth 100000 in
theorem mX7_isEven_b67 {g : XG} {p : Program} {l : Launch} {e : Env} {s : State} {m : MethodId} {args : Array Value} {below : List Frame} {meth : Method} {c : Code} (C : x_C g p s m args c cX7_isEven RX7 6 wsX7_isEven) (hr : meth.sig.returnType = (some .boolean)) (hlk : meth.locks = false) (hnm : meth.name = yX7_isEven.name) {res : Int32 × Hp} (w18 : Nat → Int32 → Int32 → Int32 → Hp → Option (Int32 × Hp)) (hw18 : ∀ (a0 : Nat) (i1 : Int32) (i2 : Int32) (i3 : Int32) (h : Hp), w18 a0 i1 i2 i3 h = some res → XW g p l e { frames := 1, cells := 0, slots := 0, locals := 23 } s m args below meth c (MQ below (x_Q g (some (vI res.1)) res.2) args s 0 0 (x_A g)) 6 0 0 h 18 [some (vR a0), some (vI i1), some (vI i2), some (vI i3), none, none] []) (a0 : Nat) (i1 : Int32) (i2 : Int32) (i3 : Int32) (i4 : Int32) (h : Hp) (hf : fX7_isEven_b67 w18 a0 i1 i2 i3 i4 h = some res) : XW g p l e { frames := 1, cells := 0, slots := 0, locals := 23 } s m args below meth c (MQ below (x_Q g (some (vI res.1)) res.2) args s 0 0 (x_A g)) 6 0 0 h 67 [some (vR a0), some (vI i1), some (vI i2), some (vI i3), some (vI i4), none] [] := by
  unfold fX7_isEven_b67 at hf
  refine x_iload C dX7_isEven_67 (pc' := 69) rfl rfl ?_
  refine x_aload_n C dX7_isEven_69 (pc' := 70) rfl rfl rfl ?_
  refine x_getR C (ci := 7) (kf := 4) rfl (by decide) hinX7_isEven_X7 lkX7_isEven_0 rfl hf dX7_isEven_70 (pc' := 73) rfl (fun v1 _ hf => ?_)
  refine x_iload_n C dX7_isEven_73 (pc' := 74) rfl rfl rfl ?_
  refine x_iaload C hf dX7_isEven_74 (pc' := 75) rfl (fun v2 _ hf => ?_)
  refine x_imul C dX7_isEven_75 (pc' := 76) rfl ?_
  refine x_iload_n C dX7_isEven_76 (pc' := 77) rfl rfl rfl ?_
  refine x_icmp_eq C hf dX7_isEven_77 (pc' := 80) rfl (tgt := 82) (by decide) (fun _ hf => ?_) (fun _ hf => ?_)
  ·
    refine x_iinc C dX7_isEven_82 (pc' := 85) rfl rfl (v := (i3 + 1)) rfl (by decide) rfl (lv' := [some (vR a0), some (vI i1), some (vI i2), some (vI (i3 + 1)), some (vI i4), none]) rfl ?_
    refine x_goto C dX7_isEven_85 (tgt := 18) (by decide) ?_
    refine x_keep [true, true, true, true, false, false] rfl ?_
    exact hw18 a0 i1 i2 (i3 + 1) h hf
  ·
    refine x_iconst C (v := 0) (by decide) dX7_isEven_80 (pc' := 81) rfl ?_
    exact x_zret C hf hr hlk dX7_isEven_81
def fX7_isEven_b58 (w18 : Nat → Int32 → Int32 → Int32 → Hp → Option (Int32 × Hp)) (w34 : Nat → Int32 → Int32 → Int32 → Int32 → Int32 → Hp → Option (Int32 × Hp)) (a0 : Nat) (i1 : Int32) (i2 : Int32) (i3 : Int32) (i5 : Int32) (s0 : Int32) (s1 : Int32) (h : Hp) : Option (Int32 × Hp) := setv ((s1 + s0)) fun v1 => w34 a0 i1 i2 i3 v1 (i5 + 1) h
set_option maxHeartbeats 4000000 in
set_option maxRecDepth 100000 in
theorem mX7_isEven_b58 {g : XG} {p : Program} {l : Launch} {e : Env} {s : State} {m : MethodId} {args : Array Value} {below : List Frame} {meth : Method} {c : Code} (C : x_C g p s m args c cX7_isEven RX7 6 wsX7_isEven) (hr : meth.sig.returnType = (some .boolean)) (hlk : meth.locks = false) (hnm : meth.name = yX7_isEven.name) {res : Int32 × Hp} (w18 : Nat → Int32 → Int32 → Int32 → Hp → Option (Int32 × Hp)) (hw18 : ∀ (a0 : Nat) (i1 : Int32) (i2 : Int32) (i3 : Int32) (h : Hp), w18 a0 i1 i2 i3 h = some res → XW g p l e { frames := 1, cells := 0, slots := 0, locals := 23 } s m args below meth c (MQ below (x_Q g (some (vI res.1)) res.2) args s 0 0 (x_A g)) 6 0 0 h 18 [some (vR a0), some (vI i1), some (vI i2), some (vI i3), none, none] []) (w34 : Nat → Int32 → Int32 → Int32 → Int32 → Int32 → Hp → Option (Int32 × Hp)) (hw34 : ∀ (a0 : Nat) (i1 : Int32) (i2 : Int32) (i3 : Int32) (i4 : Int32) (i5 : Int32) (h : Hp), w34 a0 i1 i2 i3 i4 i5 h = some res → XW g p l e { frames := 1, cells := 0, slots := 0, locals := 23 } s m args below meth c (MQ below (x_Q g (some (vI res.1)) res.2) args s 0 0 (x_A g)) 6 0 0 h 34 [some (vR a0), some (vI i1), some (vI i2), some (vI i3), some (vI i4), some (vI i5)] []) (a0 : Nat) (i1 : Int32) (i2 : Int32) (i3 : Int32) (i5 : Int32) (s0 : Int32) (s1 : Int32) (h : Hp) (hf : fX7_isEven_b58 w18 w34 a0 i1 i2 i3 i5 s0 s1 h = some res) : XW g p l e { frames := 1, cells := 0, slots := 0, locals := 23 } s m args below meth c (MQ below (x_Q g (some (vI res.1)) res.2) args s 0 0 (x_A g)) 6 0 0 h 58 [some (vR a0), some (vI i1), some (vI i2), some (vI i3), none, some (vI i5)] [vI s0, vI s1] := by
  unfold fX7_isEven_b58 at hf
  refine x_iadd C dX7_isEven_58 (pc' := 59) rfl ?_
  refine x_nameI hf (fun v1 _ hf => ?_)
  refine x_istore C dX7_isEven_59 (pc' := 61) rfl (by decide) rfl (lv' := [some (vR a0), some (vI i1), some (vI i2), some (vI i3), some (vI v1), some (vI i5)]) rfl ?_
  refine x_iinc C dX7_isEven_61 (pc' := 64) rfl rfl (v := (i5 + 1)) rfl (by decide) rfl (lv' := [some (vR a0), some (vI i1), some (vI i2), some (vI i3), some (vI v1), some (vI (i5 + 1))]) rfl ?_
  refine x_goto C dX7_isEven_64 (tgt := 34) (by decide) ?_
  exact hw34 a0 i1 i2 i3 v1 (i5 + 1) h hf
def fX7_isEven_w34 (w18 : Nat → Int32 → Int32 → Int32 → Hp → Option (Int32 × Hp)) : Nat → Nat → Int32 → Int32 → Int32 → Int32 → Int32 → Hp → Option (Int32 × Hp)
  | 0 => fun _ _ _ _ _ _ _ => none
  | n + 1 => fun a0 i1 i2 i3 i4 i5 h => if i2 ≤ i5 then (fX7_isEven_b67 w18 a0 i1 i2 i3 i4 h) else (call (oK h a0 7 (fX7_tells h a0 i1 i5)) fun r1 h2 => if r1 = i3 then (fX7_isEven_b58 w18 (fX7_isEven_w34 w18 n) a0 i1 i2 i3 i5 (1 : Int32) i4 h2) else (fX7_isEven_b58 w18 (fX7_isEven_w34 w18 n) a0 i1 i2 i3 i5 (0 : Int32) i4 h2))
set_option maxHeartbeats 4000000 in
set_option maxRecDepth 100000 in
theorem mX7_isEven_w34 {g : XG} {p : Program} {l : Launch} {e : Env} {s : State} {m : MethodId} {args : Array Value} {below : List Frame} {meth : Method} {c : Code} (C : x_C g p s m args c cX7_isEven RX7 6 wsX7_isEven) (hr : meth.sig.returnType = (some .boolean)) (hlk : meth.locks = false) (hnm : meth.name = yX7_isEven.name) {res : Int32 × Hp} (w18 : Nat → Int32 → Int32 → Int32 → Hp → Option (Int32 × Hp)) (hw18 : ∀ (a0 : Nat) (i1 : Int32) (i2 : Int32) (i3 : Int32) (h : Hp), w18 a0 i1 i2 i3 h = some res → XW g p l e { frames := 1, cells := 0, slots := 0, locals := 23 } s m args below meth c (MQ below (x_Q g (some (vI res.1)) res.2) args s 0 0 (x_A g)) 6 0 0 h 18 [some (vR a0), some (vI i1), some (vI i2), some (vI i3), none, none] []) : ∀ (n : Nat) (a0 : Nat) (i1 : Int32) (i2 : Int32) (i3 : Int32) (i4 : Int32) (i5 : Int32) (h : Hp), fX7_isEven_w34 w18 n a0 i1 i2 i3 i4 i5 h = some res → XW g p l e { frames := 1, cells := 0, slots := 0, locals := 23 } s m args below meth c (MQ below (x_Q g (some (vI res.1)) res.2) args s 0 0 (x_A g)) 6 0 0 h 34 [some (vR a0), some (vI i1), some (vI i2), some (vI i3), some (vI i4), some (vI i5)] [] := by
  intro n
  induction n with
  | zero =>
    intro a0 i1 i2 i3 i4 i5 h hf
    have hf2 : (none : Option (Int32 × Hp)) = some res := hf
    cases hf2
  | succ n ih =>
    intro a0 i1 i2 i3 i4 i5 h hf
    rw [fX7_isEven_w34] at hf
    refine x_iload C dX7_isEven_34 (pc' := 36) rfl rfl ?_
    refine x_iload_n C dX7_isEven_36 (pc' := 37) rfl rfl rfl ?_
    refine x_icmp_ge C hf dX7_isEven_37 (pc' := 40) rfl (tgt := 67) (by decide) (fun _ hf => ?_) (fun _ hf => ?_)
    ·
      refine x_keep [true, true, true, true, true, false] rfl ?_
      refine x_more (k' := 0) (n' := 0) (Nat.le_of_ble_eq_true rfl) (Nat.le_of_ble_eq_true rfl) ?_
      exact mX7_isEven_b67 C hr hlk hnm w18 hw18 a0 i1 i2 i3 i4 h hf
    ·
      refine x_iload C dX7_isEven_40 (pc' := 42) rfl rfl ?_
      refine x_aload_n C dX7_isEven_42 (pc' := 43) rfl rfl rfl ?_
      refine x_iload_n C dX7_isEven_43 (pc' := 44) rfl rfl rfl ?_
      refine x_iload C dX7_isEven_44 (pc' := 46) rfl rfl ?_
      obtain ⟨r1, h2, hq, hf⟩ := call_some hf
      obtain ⟨hob, hq⟩ := oK_some hq
      refine x_callV C (As := [vI i1, vI i5]) (st := [vI i4]) (r := (some (vI r1))) (h' := h2) (mc := 0) (ms := 0) (k := 0) (n := 0) (mX7_tells hq) hob (ci := 7) rfl (cwV 2 C.1.2.2.2.2 gX7_isEven_X7_tells rfl rfl rfl (by decide +kernel) ⟨Nat.le_of_ble_eq_true rfl, Nat.le_of_ble_eq_true rfl⟩) rfl rfl (Nat.le_of_ble_eq_true rfl) dX7_isEven_46 (pc' := 49) rfl ?_
      refine x_iload_n C dX7_isEven_49 (pc' := 50) rfl rfl rfl ?_
      refine x_icmp_ne C hf dX7_isEven_50 (pc' := 53) rfl (tgt := 57) (by decide) (fun _ hf => ?_) (fun _ hf => ?_)
      ·
        refine x_iconst C (v := 1) (by decide) dX7_isEven_53 (pc' := 54) rfl ?_
        refine x_goto C dX7_isEven_54 (tgt := 58) (by decide) ?_
        refine x_keep [true, true, true, true, false, true] rfl ?_
        refine x_more (k' := 0) (n' := 0) (Nat.le_of_ble_eq_true rfl) (Nat.le_of_ble_eq_true rfl) ?_
        exact mX7_isEven_b58 C hr hlk hnm w18 hw18 (fX7_isEven_w34 w18 n) ih a0 i1 i2 i3 i5 (1 : Int32) i4 h2 hf
      ·
        refine x_iconst C (v := 0) (by decide) dX7_isEven_57 (pc' := 58) rfl ?_
        refine x_keep [true, true, true, true, false, true] rfl ?_
        refine x_more (k' := 0) (n' := 0) (Nat.le_of_ble_eq_true rfl) (Nat.le_of_ble_eq_true rfl) ?_
        exact mX7_isEven_b58 C hr hlk hnm w18 hw18 (fX7_isEven_w34 w18 n) ih a0 i1 i2 i3 i5 (0 : Int32) i4 h2 hf
def fX7_isEven_w18 : Nat → Nat → Int32 → Int32 → Int32 → Hp → Option (Int32 × Hp)
  | 0 => fun _ _ _ _ _ => none
  | n + 1 => fun a0 i1 i2 i3 h => (gR h a0 7 4).bind fun v1 => (aI h v1 0 i1).bind fun v2 => if v2 ≤ i3 then (retZ (1 : Int32) h) else (fX7_isEven_w34 (fX7_isEven_w18 n) FUEL a0 i1 i2 i3 (0 : Int32) (0 : Int32) h)
set_option maxHeartbeats 4000000 in
set_option maxRecDepth 100000 in
theorem mX7_isEven_w18 {g : XG} {p : Program} {l : Launch} {e : Env} {s : State} {m : MethodId} {args : Array Value} {below : List Frame} {meth : Method} {c : Code} (C : x_C g p s m args c cX7_isEven RX7 6 wsX7_isEven) (hr : meth.sig.returnType = (some .boolean)) (hlk : meth.locks = false) (hnm : meth.name = yX7_isEven.name) {res : Int32 × Hp} : ∀ (n : Nat) (a0 : Nat) (i1 : Int32) (i2 : Int32) (i3 : Int32) (h : Hp), fX7_isEven_w18 n a0 i1 i2 i3 h = some res → XW g p l e { frames := 1, cells := 0, slots := 0, locals := 23 } s m args below meth c (MQ below (x_Q g (some (vI res.1)) res.2) args s 0 0 (x_A g)) 6 0 0 h 18 [some (vR a0), some (vI i1), some (vI i2), some (vI i3), none, none] [] := by
  intro n
  induction n with
  | zero =>
    intro a0 i1 i2 i3 h hf
    have hf2 : (none : Option (Int32 × Hp)) = some res := hf
    cases hf2
  | succ n ih =>
    intro a0 i1 i2 i3 h hf
    rw [fX7_isEven_w18] at hf
    refine x_iload_n C dX7_isEven_18 (pc' := 19) rfl rfl rfl ?_
    refine x_aload_n C dX7_isEven_19 (pc' := 20) rfl rfl rfl ?_
    refine x_getR C (ci := 7) (kf := 4) rfl (by decide) hinX7_isEven_X7 lkX7_isEven_0 rfl hf dX7_isEven_20 (pc' := 23) rfl (fun v1 _ hf => ?_)
    refine x_iload_n C dX7_isEven_23 (pc' := 24) rfl rfl rfl ?_
    refine x_iaload C hf dX7_isEven_24 (pc' := 25) rfl (fun v2 _ hf => ?_)
    refine x_icmp_ge C hf dX7_isEven_25 (pc' := 28) rfl (tgt := 88) (by decide) (fun _ hf => ?_) (fun _ hf => ?_)
    ·
      refine x_iconst C (v := 1) (by decide) dX7_isEven_88 (pc' := 89) rfl ?_
      exact x_zret C hf hr hlk dX7_isEven_89
    ·
      refine x_iconst C (v := 0) (by decide) dX7_isEven_28 (pc' := 29) rfl ?_
      refine x_istore C dX7_isEven_29 (pc' := 31) rfl (by decide) rfl (lv' := [some (vR a0), some (vI i1), some (vI i2), some (vI i3), some (vI (0 : Int32)), none]) rfl ?_
      refine x_iconst C (v := 0) (by decide) dX7_isEven_31 (pc' := 32) rfl ?_
      refine x_istore C dX7_isEven_32 (pc' := 34) rfl (by decide) rfl (lv' := [some (vR a0), some (vI i1), some (vI i2), some (vI i3), some (vI (0 : Int32)), some (vI (0 : Int32))]) rfl ?_
      refine x_more (k' := 0) (n' := 0) (Nat.le_of_ble_eq_true rfl) (Nat.le_of_ble_eq_true rfl) ?_
      exact mX7_isEven_w34 C hr hlk hnm (fX7_isEven_w18 n) ih FUEL a0 i1 i2 i3 (0 : Int32) (0 : Int32) h hf
def fX7_isEven (h : Hp) (a0 : Nat) (i1 : Int32) : Option (Int32 × Hp) := (gR h a0 7 4).bind fun v1 => (aI h v1 0 i1).bind fun v2 => (gR h a0 7 5).bind fun v3 => (aI h v3 0 i1).bind fun v4 => call (fX7_power h v2 v4) fun r5 h6 => fX7_isEven_w18 FUEL a0 i1 r5 (0 : Int32) h6
set_option maxHeartbeats 4000000 in
set_option maxRecDepth 100000 in
theorem mX7_isEven {l : Launch} {g : XG} {h : Hp} {a0 : Nat} {i1 : Int32} {res : Int32 × Hp} (hf : fX7_isEven h a0 i1 = some res) : XM l g yX7_isEven wsX7_isEven 1 23 0 0 [vR a0, vI i1] h (some (vI res.1)) res.2 := by
  refine x_start (cc := cX7_isEven) (maxL := 6) (ret := (some .boolean)) (by decide) rfl (Nat.le_of_ble_eq_true rfl) (lv := [some (vR a0), some (vI i1), none, none, none, none]) rfl ?_
  intro p e s m args below meth c C hr hlk hnm
  unfold fX7_isEven at hf
  refine x_aload_n C dX7_isEven_0 (pc' := 1) rfl rfl rfl ?_
  refine x_getR C (ci := 7) (kf := 4) rfl (by decide) hinX7_isEven_X7 lkX7_isEven_0 rfl hf dX7_isEven_1 (pc' := 4) rfl (fun v1 _ hf => ?_)
  refine x_iload_n C dX7_isEven_4 (pc' := 5) rfl rfl rfl ?_
  refine x_iaload C hf dX7_isEven_5 (pc' := 6) rfl (fun v2 _ hf => ?_)
  refine x_aload_n C dX7_isEven_6 (pc' := 7) rfl rfl rfl ?_
  refine x_getR C (ci := 7) (kf := 5) rfl (by decide) hinX7_isEven_X7 lkX7_isEven_1 rfl hf dX7_isEven_7 (pc' := 10) rfl (fun v3 _ hf => ?_)
  refine x_iload_n C dX7_isEven_10 (pc' := 11) rfl rfl rfl ?_
  refine x_iaload C hf dX7_isEven_11 (pc' := 12) rfl (fun v4 _ hf => ?_)
  obtain ⟨r5, h6, hq, hf⟩ := call_some hf
  refine x_callS C (As := [vI v2, vI v4]) (st := []) (r := (some (vI r5))) (h' := h6) (mc := 0) (ms := 0) (k := 0) (n := 0) (mX7_power hq) (va_cwS 2 C.1.2.2.2.2 gX7_isEven_X7_power rfl rfl rfl (by decide +kernel) ⟨Nat.le_of_ble_eq_true rfl, Nat.le_of_ble_eq_true rfl⟩) rfl rfl (Nat.le_of_ble_eq_true rfl) dX7_isEven_12 (pc' := 15) rfl ?_
  refine x_istore_n C dX7_isEven_15 (pc' := 16) rfl rfl (by decide) rfl (lv' := [some (vR a0), some (vI i1), some (vI r5), none, none, none]) rfl ?_
  refine x_iconst C (v := 0) (by decide) dX7_isEven_16 (pc' := 17) rfl ?_
  refine x_istore_n C dX7_isEven_17 (pc' := 18) rfl rfl (by decide) rfl (lv' := [some (vR a0), some (vI i1), some (vI r5), some (vI (0 : Int32)), none, none]) rfl ?_
  refine x_more (k' := 0) (n' := 0) (Nat.le_of_ble_eq_true rfl) (Nat.le_of_ble_eq_true rfl) ?_
  exact mX7_isEven_w18 C hr hlk hnm FUEL a0 i1 r5 (0 : Int32) h6 hf
-- ===== X7_isFull
def fX7_isFull (h : Hp) (a0 : Nat) (i1 : Int32) : Option (Int32 × Hp) := call (oK h a0 7 (fX7_isEven h a0 i1)) fun r1 h2 => if r1 = 0 then (retZ (0 : Int32) h2) else (call (oK h2 a0 7 (fX7_parts h2 a0 i1)) fun r3 h4 => if r3 = 0 then (retZ (1 : Int32) h4) else (retZ (0 : Int32) h4))
set_option maxHeartbeats 4000000 in
set_option maxRecDepth 100000 in
theorem mX7_isFull {l : Launch} {g : XG} {h : Hp} {a0 : Nat} {i1 : Int32} {res : Int32 × Hp} (hf : fX7_isFull h a0 i1 = some res) : XM l g yX7_isFull wsX7_isFull 5 119 0 0 [vR a0, vI i1] h (some (vI res.1)) res.2 := by
  refine x_start (cc := cX7_isFull) (maxL := 2) (ret := (some .boolean)) (by decide) rfl (Nat.le_of_ble_eq_true rfl) (lv := [some (vR a0), some (vI i1)]) rfl ?_
  intro p e s m args below meth c C hr hlk hnm
  unfold fX7_isFull at hf
  refine x_aload_n C dX7_isFull_0 (pc' := 1) rfl rfl rfl ?_
  refine x_iload_n C dX7_isFull_1 (pc' := 2) rfl rfl rfl ?_
  obtain ⟨r1, h2, hq, hf⟩ := call_some hf
  obtain ⟨hob, hq⟩ := oK_some hq
  refine x_callV C (As := [vI i1]) (st := []) (r := (some (vI r1))) (h' := h2) (mc := 0) (ms := 0) (k := 0) (n := 0) (mX7_isEven hq) hob (ci := 7) rfl (cwV 1 C.1.2.2.2.2 gX7_isFull_X7_isEven rfl rfl rfl (by decide +kernel) ⟨Nat.le_of_ble_eq_true rfl, Nat.le_of_ble_eq_true rfl⟩) rfl rfl (Nat.le_of_ble_eq_true rfl) dX7_isFull_2 (pc' := 5) rfl ?_
  refine x_if_eq C hf dX7_isFull_5 (pc' := 8) rfl (tgt := 20) (by decide) (fun _ hf => ?_) (fun _ hf => ?_)
  ·
    refine x_iconst C (v := 0) (by decide) dX7_isFull_20 (pc' := 21) rfl ?_
    exact x_zret C hf hr hlk dX7_isFull_21
  ·
    refine x_aload_n C dX7_isFull_8 (pc' := 9) rfl rfl rfl ?_
    refine x_iload_n C dX7_isFull_9 (pc' := 10) rfl rfl rfl ?_
    obtain ⟨r3, h4, hq, hf⟩ := call_some hf
    obtain ⟨hob, hq⟩ := oK_some hq
    refine x_callV C (As := [vI i1]) (st := []) (r := (some (vI r3))) (h' := h4) (mc := 0) (ms := 0) (k := 0) (n := 0) (mX7_parts hq) hob (ci := 7) rfl (cwV 1 C.1.2.2.2.2 gX7_isFull_X7_parts rfl rfl rfl (by decide +kernel) ⟨Nat.le_of_ble_eq_true rfl, Nat.le_of_ble_eq_true rfl⟩) rfl rfl (Nat.le_of_ble_eq_true rfl) dX7_isFull_10 (pc' := 13) rfl ?_
    refine x_if_ne C hf dX7_isFull_13 (pc' := 16) rfl (tgt := 20) (by decide) (fun _ hf => ?_) (fun _ hf => ?_)
    ·
      refine x_iconst C (v := 1) (by decide) dX7_isFull_16 (pc' := 17) rfl ?_
      refine x_goto C dX7_isFull_17 (tgt := 21) (by decide) ?_
      exact x_zret C hf hr hlk dX7_isFull_21
    ·
      refine x_iconst C (v := 0) (by decide) dX7_isFull_20 (pc' := 21) rfl ?_
      exact x_zret C hf hr hlk dX7_isFull_21
-- ===== X7_losesNothing
theorem lkX7_losesNothing_0 : Cond.fieldLink RX7 36 "MossRingsModel" "alive" "[Z" ∈ wsX7_losesNothing := by decide +kernel
theorem hinX7_losesNothing_X7 : ∀ w ∈ u_ws RX7 TX7 27, w ∈ wsX7_losesNothing := by decide +kernel
def fX7_losesNothing_b227 (w199 : Nat → Int32 → Int32 → Int32 → Hp → Option (Int32 × Hp)) (a0 : Nat) (i1 : Int32) (i2 : Int32) (i4 : Int32) (h : Hp) : Option (Int32 × Hp) := w199 a0 i1 i2 (i4 + 1) h
set_option maxHeartbeats 4000000 in
set_option maxRecDepth 100000 in
theorem mX7_losesNothing_b227 {g : XG} {p : Program} {l : Launch} {e : Env} {s : State} {m : MethodId} {args : Array Value} {below : List Frame} {meth : Method} {c : Code} (C : x_C g p s m args c cX7_losesNothing RX7 8 wsX7_losesNothing) (hr : meth.sig.returnType = (some .boolean)) (hlk : meth.locks = false) (hnm : meth.name = yX7_losesNothing.name) {res : Int32 × Hp} (w199 : Nat → Int32 → Int32 → Int32 → Hp → Option (Int32 × Hp)) (hw199 : ∀ (a0 : Nat) (i1 : Int32) (i2 : Int32) (i4 : Int32) (h : Hp), w199 a0 i1 i2 i4 h = some res → XW g p l e { frames := 4, cells := 0, slots := 0, locals := 93 } s m args below meth c (MQ below (x_Q g (some (vI res.1)) res.2) args s 0 0 (x_A g)) 8 0 0 h 199 [some (vR a0), some (vI i1), some (vI i2), none, some (vI i4), none, none, none] []) (a0 : Nat) (i1 : Int32) (i2 : Int32) (i4 : Int32) (h : Hp) (hf : fX7_losesNothing_b227 w199 a0 i1 i2 i4 h = some res) : XW g p l e { frames := 4, cells := 0, slots := 0, locals := 93 } s m args below meth c (MQ below (x_Q g (some (vI res.1)) res.2) args s 0 0 (x_A g)) 8 0 0 h 227 [some (vR a0), some (vI i1), some (vI i2), none, some (vI i4), none, none, none] [] := by
  unfold fX7_losesNothing_b227 at hf
  refine x_iinc C dX7_losesNothing_227 (pc' := 230) rfl rfl (v := (i4 + 1)) rfl (by decide) rfl (lv' := [some (vR a0), some (vI i1), some (vI i2), none, some (vI (i4 + 1)), none, none, none]) rfl ?_
  refine x_goto C dX7_losesNothing_230 (tgt := 199) (by decide) ?_
  exact hw199 a0 i1 i2 (i4 + 1) h hf
def fX7_losesNothing_w199 : Nat → Nat → Int32 → Int32 → Int32 → Hp → Option (Int32 × Hp)
  | 0 => fun _ _ _ _ _ => none
  | n + 1 => fun a0 i1 i2 i4 h => if i2 ≤ i4 then (retZ (1 : Int32) h) else ((gR h a0 7 12).bind fun v1 => (aI h v1 2 i4).bind fun v2 => if v2 = 0 then (fX7_losesNothing_b227 (fX7_losesNothing_w199 n) a0 i1 i2 i4 h) else (call (oK h a0 7 (fX7_isOne h a0 i1 i4)) fun r3 h4 => if r3 = 0 then (retZ (0 : Int32) h4) else (fX7_losesNothing_b227 (fX7_losesNothing_w199 n) a0 i1 i2 i4 h4)))
set_option maxHeartbeats 4000000 in
set_option maxRecDepth 100000 in
theorem mX7_losesNothing_w199 {g : XG} {p : Program} {l : Launch} {e : Env} {s : State} {m : MethodId} {args : Array Value} {below : List Frame} {meth : Method} {c : Code} (C : x_C g p s m args c cX7_losesNothing RX7 8 wsX7_losesNothing) (hr : meth.sig.returnType = (some .boolean)) (hlk : meth.locks = false) (hnm : meth.name = yX7_losesNothing.name) {res : Int32 × Hp} : ∀ (n : Nat) (a0 : Nat) (i1 : Int32) (i2 : Int32) (i4 : Int32) (h : Hp), fX7_losesNothing_w199 n a0 i1 i2 i4 h = some res → XW g p l e { frames := 4, cells := 0, slots := 0, locals := 93 } s m args below meth c (MQ below (x_Q g (some (vI res.1)) res.2) args s 0 0 (x_A g)) 8 0 0 h 199 [some (vR a0), some (vI i1), some (vI i2), none, some (vI i4), none, none, none] [] := by
  intro n
  induction n with
  | zero =>
    intro a0 i1 i2 i4 h hf
    have hf2 : (none : Option (Int32 × Hp)) = some res := hf
    cases hf2
  | succ n ih =>
    intro a0 i1 i2 i4 h hf
    rw [fX7_losesNothing_w199] at hf
    refine x_iload C dX7_losesNothing_199 (pc' := 201) rfl rfl ?_
    refine x_iload_n C dX7_losesNothing_201 (pc' := 202) rfl rfl rfl ?_
    refine x_icmp_ge C hf dX7_losesNothing_202 (pc' := 205) rfl (tgt := 233) (by decide) (fun _ hf => ?_) (fun _ hf => ?_)
    ·
      refine x_iconst C (v := 1) (by decide) dX7_losesNothing_233 (pc' := 234) rfl ?_
      exact x_zret C hf hr hlk dX7_losesNothing_234
    ·
      refine x_aload_n C dX7_losesNothing_205 (pc' := 206) rfl rfl rfl ?_
      refine x_getR C (ci := 7) (kf := 12) rfl (by decide) hinX7_losesNothing_X7 lkX7_losesNothing_0 rfl hf dX7_losesNothing_206 (pc' := 209) rfl (fun v1 _ hf => ?_)
      refine x_iload C dX7_losesNothing_209 (pc' := 211) rfl rfl ?_
      refine x_baloadZ C hf dX7_losesNothing_211 (pc' := 212) rfl (fun v2 _ hf => ?_)
      refine x_if_eq C hf dX7_losesNothing_212 (pc' := 215) rfl (tgt := 227) (by decide) (fun _ hf => ?_) (fun _ hf => ?_)
      ·
        refine x_more (k' := 0) (n' := 0) (Nat.le_of_ble_eq_true rfl) (Nat.le_of_ble_eq_true rfl) ?_
        exact mX7_losesNothing_b227 C hr hlk hnm (fX7_losesNothing_w199 n) ih a0 i1 i2 i4 h hf
      ·
        refine x_aload_n C dX7_losesNothing_215 (pc' := 216) rfl rfl rfl ?_
        refine x_iload_n C dX7_losesNothing_216 (pc' := 217) rfl rfl rfl ?_
        refine x_iload C dX7_losesNothing_217 (pc' := 219) rfl rfl ?_
        obtain ⟨r3, h4, hq, hf⟩ := call_some hf
        obtain ⟨hob, hq⟩ := oK_some hq
        refine x_callV C (As := [vI i1, vI i4]) (st := []) (r := (some (vI r3))) (h' := h4) (mc := 0) (ms := 0) (k := 0) (n := 0) (mX7_isOne hq) hob (ci := 7) rfl (cwV 2 C.1.2.2.2.2 gX7_losesNothing_X7_isOne rfl rfl rfl (by decide +kernel) ⟨Nat.le_of_ble_eq_true rfl, Nat.le_of_ble_eq_true rfl⟩) rfl rfl (Nat.le_of_ble_eq_true rfl) dX7_losesNothing_219 (pc' := 222) rfl ?_
        refine x_if_ne C hf dX7_losesNothing_222 (pc' := 225) rfl (tgt := 227) (by decide) (fun _ hf => ?_) (fun _ hf => ?_)
        ·
          refine x_iconst C (v := 0) (by decide) dX7_losesNothing_225 (pc' := 226) rfl ?_
          exact x_zret C hf hr hlk dX7_losesNothing_226
        ·
          refine x_more (k' := 0) (n' := 0) (Nat.le_of_ble_eq_true rfl) (Nat.le_of_ble_eq_true rfl) ?_
          exact mX7_losesNothing_b227 C hr hlk hnm (fX7_losesNothing_w199 n) ih a0 i1 i2 i4 h4 hf
def fX7_losesNothing_b196 (a0 : Nat) (i1 : Int32) (i2 : Int32) (h : Hp) : Option (Int32 × Hp) := fX7_losesNothing_w199 FUEL a0 i1 i2 (0 : Int32) h
set_option maxHeartbeats 4000000 in
set_option maxRecDepth 100000 in
theorem mX7_losesNothing_b196 {g : XG} {p : Program} {l : Launch} {e : Env} {s : State} {m : MethodId} {args : Array Value} {below : List Frame} {meth : Method} {c : Code} (C : x_C g p s m args c cX7_losesNothing RX7 8 wsX7_losesNothing) (hr : meth.sig.returnType = (some .boolean)) (hlk : meth.locks = false) (hnm : meth.name = yX7_losesNothing.name) {res : Int32 × Hp} (a0 : Nat) (i1 : Int32) (i2 : Int32) (h : Hp) (hf : fX7_losesNothing_b196 a0 i1 i2 h = some res) : XW g p l e { frames := 4, cells := 0, slots := 0, locals := 93 } s m args below meth c (MQ below (x_Q g (some (vI res.1)) res.2) args s 0 0 (x_A g)) 8 0 0 h 196 [some (vR a0), some (vI i1), some (vI i2), none, none, none, none, none] [] := by
  unfold fX7_losesNothing_b196 at hf
  refine x_iconst C (v := 0) (by decide) dX7_losesNothing_196 (pc' := 197) rfl ?_
  refine x_istore C dX7_losesNothing_197 (pc' := 199) rfl (by decide) rfl (lv' := [some (vR a0), some (vI i1), some (vI i2), none, some (vI (0 : Int32)), none, none, none]) rfl ?_
  refine x_more (k' := 0) (n' := 0) (Nat.le_of_ble_eq_true rfl) (Nat.le_of_ble_eq_true rfl) ?_
  exact mX7_losesNothing_w199 C hr hlk hnm FUEL a0 i1 i2 (0 : Int32) h hf
def fX7_losesNothing_b193 (w44 : Nat → Int32 → Int32 → Int32 → Hp → Option (Int32 × Hp)) (a0 : Nat) (i1 : Int32) (i2 : Int32) (i3 : Int32) (h : Hp) : Option (Int32 × Hp) := w44 a0 i1 i2 i3 h
set_option maxHeartbeats 4000000 in
set_option maxRecDepth 100000 in
theorem mX7_losesNothing_b193 {g : XG} {p : Program} {l : Launch} {e : Env} {s : State} {m : MethodId} {args : Array Value} {below : List Frame} {meth : Method} {c : Code} (C : x_C g p s m args c cX7_losesNothing RX7 8 wsX7_losesNothing) (hr : meth.sig.returnType = (some .boolean)) (hlk : meth.locks = false) (hnm : meth.name = yX7_losesNothing.name) {res : Int32 × Hp} (w44 : Nat → Int32 → Int32 → Int32 → Hp → Option (Int32 × Hp)) (hw44 : ∀ (a0 : Nat) (i1 : Int32) (i2 : Int32) (i3 : Int32) (h : Hp), w44 a0 i1 i2 i3 h = some res → XW g p l e { frames := 4, cells := 0, slots := 0, locals := 93 } s m args below meth c (MQ below (x_Q g (some (vI res.1)) res.2) args s 0 0 (x_A g)) 8 0 0 h 44 [some (vR a0), some (vI i1), some (vI i2), some (vI i3), none, none, none, none] []) (a0 : Nat) (i1 : Int32) (i2 : Int32) (i3 : Int32) (h : Hp) (hf : fX7_losesNothing_b193 w44 a0 i1 i2 i3 h = some res) : XW g p l e { frames := 4, cells := 0, slots := 0, locals := 93 } s m args below meth c (MQ below (x_Q g (some (vI res.1)) res.2) args s 0 0 (x_A g)) 8 0 0 h 193 [some (vR a0), some (vI i1), some (vI i2), some (vI i3), none, none, none, none] [] := by
  unfold fX7_losesNothing_b193 at hf
  refine x_goto C dX7_losesNothing_193 (tgt := 44) (by decide) ?_
  exact hw44 a0 i1 i2 i3 h hf
def fX7_losesNothing_b187 (w44 : Nat → Int32 → Int32 → Int32 → Hp → Option (Int32 × Hp)) (w53 : Nat → Int32 → Int32 → Int32 → Int32 → Hp → Option (Int32 × Hp)) (a0 : Nat) (i1 : Int32) (i2 : Int32) (i3 : Int32) (i4 : Int32) (h : Hp) : Option (Int32 × Hp) := w53 a0 i1 i2 i3 (i4 + 1) h
set_option maxHeartbeats 4000000 in
set_option maxRecDepth 100000 in
theorem mX7_losesNothing_b187 {g : XG} {p : Program} {l : Launch} {e : Env} {s : State} {m : MethodId} {args : Array Value} {below : List Frame} {meth : Method} {c : Code} (C : x_C g p s m args c cX7_losesNothing RX7 8 wsX7_losesNothing) (hr : meth.sig.returnType = (some .boolean)) (hlk : meth.locks = false) (hnm : meth.name = yX7_losesNothing.name) {res : Int32 × Hp} (w44 : Nat → Int32 → Int32 → Int32 → Hp → Option (Int32 × Hp)) (hw44 : ∀ (a0 : Nat) (i1 : Int32) (i2 : Int32) (i3 : Int32) (h : Hp), w44 a0 i1 i2 i3 h = some res → XW g p l e { frames := 4, cells := 0, slots := 0, locals := 93 } s m args below meth c (MQ below (x_Q g (some (vI res.1)) res.2) args s 0 0 (x_A g)) 8 0 0 h 44 [some (vR a0), some (vI i1), some (vI i2), some (vI i3), none, none, none, none] []) (w53 : Nat → Int32 → Int32 → Int32 → Int32 → Hp → Option (Int32 × Hp)) (hw53 : ∀ (a0 : Nat) (i1 : Int32) (i2 : Int32) (i3 : Int32) (i4 : Int32) (h : Hp), w53 a0 i1 i2 i3 i4 h = some res → XW g p l e { frames := 4, cells := 0, slots := 0, locals := 93 } s m args below meth c (MQ below (x_Q g (some (vI res.1)) res.2) args s 0 0 (x_A g)) 8 0 0 h 53 [some (vR a0), some (vI i1), some (vI i2), some (vI i3), some (vI i4), none, none, none] []) (a0 : Nat) (i1 : Int32) (i2 : Int32) (i3 : Int32) (i4 : Int32) (h : Hp) (hf : fX7_losesNothing_b187 w44 w53 a0 i1 i2 i3 i4 h = some res) : XW g p l e { frames := 4, cells := 0, slots := 0, locals := 93 } s m args below meth c (MQ below (x_Q g (some (vI res.1)) res.2) args s 0 0 (x_A g)) 8 0 0 h 187 [some (vR a0), some (vI i1), some (vI i2), some (vI i3), some (vI i4), none, none, none] [] := by
  unfold fX7_losesNothing_b187 at hf
  refine x_iinc C dX7_losesNothing_187 (pc' := 190) rfl rfl (v := (i4 + 1)) rfl (by decide) rfl (lv' := [some (vR a0), some (vI i1), some (vI i2), some (vI i3), some (vI (i4 + 1)), none, none, none]) rfl ?_
  refine x_goto C dX7_losesNothing_190 (tgt := 53) (by decide) ?_
  exact hw53 a0 i1 i2 i3 (i4 + 1) h hf
def fX7_losesNothing_b177 (w44 : Nat → Int32 → Int32 → Int32 → Hp → Option (Int32 × Hp)) (w53 : Nat → Int32 → Int32 → Int32 → Int32 → Hp → Option (Int32 × Hp)) (a0 : Nat) (i1 : Int32) (i2 : Int32) (i4 : Int32) (h : Hp) : Option (Int32 × Hp) := (gR h a0 7 12).bind fun v1 => (sI h v1 2 i4 (0 : Int32)).bind fun h2 => fX7_losesNothing_b187 w44 w53 a0 i1 i2 (1 : Int32) i4 h2
set_option maxHeartbeats 4000000 in
set_option maxRecDepth 100000 in
theorem mX7_losesNothing_b177 {g : XG} {p : Program} {l : Launch} {e : Env} {s : State} {m : MethodId} {args : Array Value} {below : List Frame} {meth : Method} {c : Code} (C : x_C g p s m args c cX7_losesNothing RX7 8 wsX7_losesNothing) (hr : meth.sig.returnType = (some .boolean)) (hlk : meth.locks = false) (hnm : meth.name = yX7_losesNothing.name) {res : Int32 × Hp} (w44 : Nat → Int32 → Int32 → Int32 → Hp → Option (Int32 × Hp)) (hw44 : ∀ (a0 : Nat) (i1 : Int32) (i2 : Int32) (i3 : Int32) (h : Hp), w44 a0 i1 i2 i3 h = some res → XW g p l e { frames := 4, cells := 0, slots := 0, locals := 93 } s m args below meth c (MQ below (x_Q g (some (vI res.1)) res.2) args s 0 0 (x_A g)) 8 0 0 h 44 [some (vR a0), some (vI i1), some (vI i2), some (vI i3), none, none, none, none] []) (w53 : Nat → Int32 → Int32 → Int32 → Int32 → Hp → Option (Int32 × Hp)) (hw53 : ∀ (a0 : Nat) (i1 : Int32) (i2 : Int32) (i3 : Int32) (i4 : Int32) (h : Hp), w53 a0 i1 i2 i3 i4 h = some res → XW g p l e { frames := 4, cells := 0, slots := 0, locals := 93 } s m args below meth c (MQ below (x_Q g (some (vI res.1)) res.2) args s 0 0 (x_A g)) 8 0 0 h 53 [some (vR a0), some (vI i1), some (vI i2), some (vI i3), some (vI i4), none, none, none] []) (a0 : Nat) (i1 : Int32) (i2 : Int32) (i4 : Int32) (h : Hp) (hf : fX7_losesNothing_b177 w44 w53 a0 i1 i2 i4 h = some res) : XW g p l e { frames := 4, cells := 0, slots := 0, locals := 93 } s m args below meth c (MQ below (x_Q g (some (vI res.1)) res.2) args s 0 0 (x_A g)) 8 0 0 h 177 [some (vR a0), some (vI i1), some (vI i2), none, some (vI i4), none, none, none] [] := by
  unfold fX7_losesNothing_b177 at hf
  refine x_aload_n C dX7_losesNothing_177 (pc' := 178) rfl rfl rfl ?_
  refine x_getR C (ci := 7) (kf := 12) rfl (by decide) hinX7_losesNothing_X7 lkX7_losesNothing_0 rfl hf dX7_losesNothing_178 (pc' := 181) rfl (fun v1 _ hf => ?_)
  refine x_iload C dX7_losesNothing_181 (pc' := 183) rfl rfl ?_
  refine x_iconst C (v := 0) (by decide) dX7_losesNothing_183 (pc' := 184) rfl ?_
  refine x_bastoreZ C hf dX7_losesNothing_184 (pc' := 185) rfl (fun h2 _ hf => ?_)
  refine x_iconst C (v := 1) (by decide) dX7_losesNothing_185 (pc' := 186) rfl ?_
  refine x_istore_n C dX7_losesNothing_186 (pc' := 187) rfl rfl (by decide) rfl (lv' := [some (vR a0), some (vI i1), some (vI i2), some (vI (1 : Int32)), some (vI i4), none, none, none]) rfl ?_
  refine x_more (k' := 0) (n' := 0) (Nat.le_of_ble_eq_true rfl) (Nat.le_of_ble_eq_true rfl) ?_
  exact mX7_losesNothing_b187 C hr hlk hnm w44 hw44 w53 hw53 a0 i1 i2 (1 : Int32) i4 h2 hf
def fX7_losesNothing_b164 (w44 : Nat → Int32 → Int32 → Int32 → Hp → Option (Int32 × Hp)) (w53 : Nat → Int32 → Int32 → Int32 → Int32 → Hp → Option (Int32 × Hp)) (a0 : Nat) (i1 : Int32) (i2 : Int32) (i3 : Int32) (i4 : Int32) (i5 : Int32) (i6 : Int32) (h : Hp) : Option (Int32 × Hp) := if i5 = 0 then (fX7_losesNothing_b177 w44 w53 a0 i1 i2 i4 h) else (if i6 = 0 then (fX7_losesNothing_b177 w44 w53 a0 i1 i2 i4 h) else (fX7_losesNothing_b187 w44 w53 a0 i1 i2 i3 i4 h))
set_option maxHeartbeats 4000000 in
set_option maxRecDepth 100000 in
theorem mX7_losesNothing_b164 {g : XG} {p : Program} {l : Launch} {e : Env} {s : State} {m : MethodId} {args : Array Value} {below : List Frame} {meth : Method} {c : Code} (C : x_C g p s m args c cX7_losesNothing RX7 8 wsX7_losesNothing) (hr : meth.sig.returnType = (some .boolean)) (hlk : meth.locks = false) (hnm : meth.name = yX7_losesNothing.name) {res : Int32 × Hp} (w44 : Nat → Int32 → Int32 → Int32 → Hp → Option (Int32 × Hp)) (hw44 : ∀ (a0 : Nat) (i1 : Int32) (i2 : Int32) (i3 : Int32) (h : Hp), w44 a0 i1 i2 i3 h = some res → XW g p l e { frames := 4, cells := 0, slots := 0, locals := 93 } s m args below meth c (MQ below (x_Q g (some (vI res.1)) res.2) args s 0 0 (x_A g)) 8 0 0 h 44 [some (vR a0), some (vI i1), some (vI i2), some (vI i3), none, none, none, none] []) (w53 : Nat → Int32 → Int32 → Int32 → Int32 → Hp → Option (Int32 × Hp)) (hw53 : ∀ (a0 : Nat) (i1 : Int32) (i2 : Int32) (i3 : Int32) (i4 : Int32) (h : Hp), w53 a0 i1 i2 i3 i4 h = some res → XW g p l e { frames := 4, cells := 0, slots := 0, locals := 93 } s m args below meth c (MQ below (x_Q g (some (vI res.1)) res.2) args s 0 0 (x_A g)) 8 0 0 h 53 [some (vR a0), some (vI i1), some (vI i2), some (vI i3), some (vI i4), none, none, none] []) (a0 : Nat) (i1 : Int32) (i2 : Int32) (i3 : Int32) (i4 : Int32) (i5 : Int32) (i6 : Int32) (h : Hp) (hf : fX7_losesNothing_b164 w44 w53 a0 i1 i2 i3 i4 i5 i6 h = some res) : XW g p l e { frames := 4, cells := 0, slots := 0, locals := 93 } s m args below meth c (MQ below (x_Q g (some (vI res.1)) res.2) args s 0 0 (x_A g)) 8 0 0 h 164 [some (vR a0), some (vI i1), some (vI i2), some (vI i3), some (vI i4), some (vI i5), some (vI i6), none] [] := by
  unfold fX7_losesNothing_b164 at hf
  refine x_iload C dX7_losesNothing_164 (pc' := 166) rfl rfl ?_
  refine x_if_eq C hf dX7_losesNothing_166 (pc' := 169) rfl (tgt := 177) (by decide) (fun _ hf => ?_) (fun _ hf => ?_)
  ·
    refine x_keep [true, true, true, false, true, false, false, false] rfl ?_
    refine x_more (k' := 0) (n' := 0) (Nat.le_of_ble_eq_true rfl) (Nat.le_of_ble_eq_true rfl) ?_
    exact mX7_losesNothing_b177 C hr hlk hnm w44 hw44 w53 hw53 a0 i1 i2 i4 h hf
  ·
    refine x_iload C dX7_losesNothing_169 (pc' := 171) rfl rfl ?_
    refine x_if_eq C hf dX7_losesNothing_171 (pc' := 174) rfl (tgt := 177) (by decide) (fun _ hf => ?_) (fun _ hf => ?_)
    ·
      refine x_keep [true, true, true, false, true, false, false, false] rfl ?_
      refine x_more (k' := 0) (n' := 0) (Nat.le_of_ble_eq_true rfl) (Nat.le_of_ble_eq_true rfl) ?_
      exact mX7_losesNothing_b177 C hr hlk hnm w44 hw44 w53 hw53 a0 i1 i2 i4 h hf
    ·
      refine x_goto C dX7_losesNothing_174 (tgt := 187) (by decide) ?_
      refine x_keep [true, true, true, true, true, false, false, false] rfl ?_
      refine x_more (k' := 0) (n' := 0) (Nat.le_of_ble_eq_true rfl) (Nat.le_of_ble_eq_true rfl) ?_
      exact mX7_losesNothing_b187 C hr hlk hnm w44 hw44 w53 hw53 a0 i1 i2 i3 i4 h hf
def fX7_losesNothing_b158 (w44 : Nat → Int32 → Int32 → Int32 → Hp → Option (Int32 × Hp)) (w53 : Nat → Int32 → Int32 → Int32 → Int32 → Hp → Option (Int32 × Hp)) (w91 : Nat → Int32 → Int32 → Int32 → Int32 → Int32 → Int32 → Int32 → Hp → Option (Int32 × Hp)) (a0 : Nat) (i1 : Int32) (i2 : Int32) (i3 : Int32) (i4 : Int32) (i5 : Int32) (i6 : Int32) (i7 : Int32) (h : Hp) : Option (Int32 × Hp) := w91 a0 i1 i2 i3 i4 i5 i6 (i7 + 1) h
set_option maxHeartbeats 4000000 in
set_option maxRecDepth 100000 in
theorem mX7_losesNothing_b158 {g : XG} {p : Program} {l : Launch} {e : Env} {s : State} {m : MethodId} {args : Array Value} {below : List Frame} {meth : Method} {c : Code} (C : x_C g p s m args c cX7_losesNothing RX7 8 wsX7_losesNothing) (hr : meth.sig.returnType = (some .boolean)) (hlk : meth.locks = false) (hnm : meth.name = yX7_losesNothing.name) {res : Int32 × Hp} (w44 : Nat → Int32 → Int32 → Int32 → Hp → Option (Int32 × Hp)) (hw44 : ∀ (a0 : Nat) (i1 : Int32) (i2 : Int32) (i3 : Int32) (h : Hp), w44 a0 i1 i2 i3 h = some res → XW g p l e { frames := 4, cells := 0, slots := 0, locals := 93 } s m args below meth c (MQ below (x_Q g (some (vI res.1)) res.2) args s 0 0 (x_A g)) 8 0 0 h 44 [some (vR a0), some (vI i1), some (vI i2), some (vI i3), none, none, none, none] []) (w53 : Nat → Int32 → Int32 → Int32 → Int32 → Hp → Option (Int32 × Hp)) (hw53 : ∀ (a0 : Nat) (i1 : Int32) (i2 : Int32) (i3 : Int32) (i4 : Int32) (h : Hp), w53 a0 i1 i2 i3 i4 h = some res → XW g p l e { frames := 4, cells := 0, slots := 0, locals := 93 } s m args below meth c (MQ below (x_Q g (some (vI res.1)) res.2) args s 0 0 (x_A g)) 8 0 0 h 53 [some (vR a0), some (vI i1), some (vI i2), some (vI i3), some (vI i4), none, none, none] []) (w91 : Nat → Int32 → Int32 → Int32 → Int32 → Int32 → Int32 → Int32 → Hp → Option (Int32 × Hp)) (hw91 : ∀ (a0 : Nat) (i1 : Int32) (i2 : Int32) (i3 : Int32) (i4 : Int32) (i5 : Int32) (i6 : Int32) (i7 : Int32) (h : Hp), w91 a0 i1 i2 i3 i4 i5 i6 i7 h = some res → XW g p l e { frames := 4, cells := 0, slots := 0, locals := 93 } s m args below meth c (MQ below (x_Q g (some (vI res.1)) res.2) args s 0 0 (x_A g)) 8 0 0 h 91 [some (vR a0), some (vI i1), some (vI i2), some (vI i3), some (vI i4), some (vI i5), some (vI i6), some (vI i7)] []) (a0 : Nat) (i1 : Int32) (i2 : Int32) (i3 : Int32) (i4 : Int32) (i5 : Int32) (i6 : Int32) (i7 : Int32) (h : Hp) (hf : fX7_losesNothing_b158 w44 w53 w91 a0 i1 i2 i3 i4 i5 i6 i7 h = some res) : XW g p l e { frames := 4, cells := 0, slots := 0, locals := 93 } s m args below meth c (MQ below (x_Q g (some (vI res.1)) res.2) args s 0 0 (x_A g)) 8 0 0 h 158 [some (vR a0), some (vI i1), some (vI i2), some (vI i3), some (vI i4), some (vI i5), some (vI i6), some (vI i7)] [] := by
  unfold fX7_losesNothing_b158 at hf
  refine x_iinc C dX7_losesNothing_158 (pc' := 161) rfl rfl (v := (i7 + 1)) rfl (by decide) rfl (lv' := [some (vR a0), some (vI i1), some (vI i2), some (vI i3), some (vI i4), some (vI i5), some (vI i6), some (vI (i7 + 1))]) rfl ?_
  refine x_goto C dX7_losesNothing_161 (tgt := 91) (by decide) ?_
  exact hw91 a0 i1 i2 i3 i4 i5 i6 (i7 + 1) h hf
def fX7_losesNothing_b156 (w44 : Nat → Int32 → Int32 → Int32 → Hp → Option (Int32 × Hp)) (w53 : Nat → Int32 → Int32 → Int32 → Int32 → Hp → Option (Int32 × Hp)) (w91 : Nat → Int32 → Int32 → Int32 → Int32 → Int32 → Int32 → Int32 → Hp → Option (Int32 × Hp)) (a0 : Nat) (i1 : Int32) (i2 : Int32) (i3 : Int32) (i4 : Int32) (i5 : Int32) (i7 : Int32) (s0 : Int32) (h : Hp) : Option (Int32 × Hp) := fX7_losesNothing_b158 w44 w53 w91 a0 i1 i2 i3 i4 i5 s0 i7 h
set_option maxHeartbeats 4000000 in
set_option maxRecDepth 100000 in
theorem mX7_losesNothing_b156 {g : XG} {p : Program} {l : Launch} {e : Env} {s : State} {m : MethodId} {args : Array Value} {below : List Frame} {meth : Method} {c : Code} (C : x_C g p s m args c cX7_losesNothing RX7 8 wsX7_losesNothing) (hr : meth.sig.returnType = (some .boolean)) (hlk : meth.locks = false) (hnm : meth.name = yX7_losesNothing.name) {res : Int32 × Hp} (w44 : Nat → Int32 → Int32 → Int32 → Hp → Option (Int32 × Hp)) (hw44 : ∀ (a0 : Nat) (i1 : Int32) (i2 : Int32) (i3 : Int32) (h : Hp), w44 a0 i1 i2 i3 h = some res → XW g p l e { frames := 4, cells := 0, slots := 0, locals := 93 } s m args below meth c (MQ below (x_Q g (some (vI res.1)) res.2) args s 0 0 (x_A g)) 8 0 0 h 44 [some (vR a0), some (vI i1), some (vI i2), some (vI i3), none, none, none, none] []) (w53 : Nat → Int32 → Int32 → Int32 → Int32 → Hp → Option (Int32 × Hp)) (hw53 : ∀ (a0 : Nat) (i1 : Int32) (i2 : Int32) (i3 : Int32) (i4 : Int32) (h : Hp), w53 a0 i1 i2 i3 i4 h = some res → XW g p l e { frames := 4, cells := 0, slots := 0, locals := 93 } s m args below meth c (MQ below (x_Q g (some (vI res.1)) res.2) args s 0 0 (x_A g)) 8 0 0 h 53 [some (vR a0), some (vI i1), some (vI i2), some (vI i3), some (vI i4), none, none, none] []) (w91 : Nat → Int32 → Int32 → Int32 → Int32 → Int32 → Int32 → Int32 → Hp → Option (Int32 × Hp)) (hw91 : ∀ (a0 : Nat) (i1 : Int32) (i2 : Int32) (i3 : Int32) (i4 : Int32) (i5 : Int32) (i6 : Int32) (i7 : Int32) (h : Hp), w91 a0 i1 i2 i3 i4 i5 i6 i7 h = some res → XW g p l e { frames := 4, cells := 0, slots := 0, locals := 93 } s m args below meth c (MQ below (x_Q g (some (vI res.1)) res.2) args s 0 0 (x_A g)) 8 0 0 h 91 [some (vR a0), some (vI i1), some (vI i2), some (vI i3), some (vI i4), some (vI i5), some (vI i6), some (vI i7)] []) (a0 : Nat) (i1 : Int32) (i2 : Int32) (i3 : Int32) (i4 : Int32) (i5 : Int32) (i7 : Int32) (s0 : Int32) (h : Hp) (hf : fX7_losesNothing_b156 w44 w53 w91 a0 i1 i2 i3 i4 i5 i7 s0 h = some res) : XW g p l e { frames := 4, cells := 0, slots := 0, locals := 93 } s m args below meth c (MQ below (x_Q g (some (vI res.1)) res.2) args s 0 0 (x_A g)) 8 0 0 h 156 [some (vR a0), some (vI i1), some (vI i2), some (vI i3), some (vI i4), some (vI i5), none, some (vI i7)] [vI s0] := by
  unfold fX7_losesNothing_b156 at hf
  refine x_istore C dX7_losesNothing_156 (pc' := 158) rfl (by decide) rfl (lv' := [some (vR a0), some (vI i1), some (vI i2), some (vI i3), some (vI i4), some (vI i5), some (vI s0), some (vI i7)]) rfl ?_
  refine x_more (k' := 0) (n' := 0) (Nat.le_of_ble_eq_true rfl) (Nat.le_of_ble_eq_true rfl) ?_
  exact mX7_losesNothing_b158 C hr hlk hnm w44 hw44 w53 hw53 w91 hw91 a0 i1 i2 i3 i4 i5 s0 i7 h hf
def fX7_losesNothing_b151 (w44 : Nat → Int32 → Int32 → Int32 → Hp → Option (Int32 × Hp)) (w53 : Nat → Int32 → Int32 → Int32 → Int32 → Hp → Option (Int32 × Hp)) (w91 : Nat → Int32 → Int32 → Int32 → Int32 → Int32 → Int32 → Int32 → Hp → Option (Int32 × Hp)) (a0 : Nat) (i1 : Int32) (i2 : Int32) (i3 : Int32) (i4 : Int32) (i5 : Int32) (i7 : Int32) (h : Hp) : Option (Int32 × Hp) := fX7_losesNothing_b156 w44 w53 w91 a0 i1 i2 i3 i4 i5 i7 (1 : Int32) h
set_option maxHeartbeats 4000000 in
set_option maxRecDepth 100000 in
theorem mX7_losesNothing_b151 {g : XG} {p : Program} {l : Launch} {e : Env} {s : State} {m : MethodId} {args : Array Value} {below : List Frame} {meth : Method} {c : Code} (C : x_C g p s m args c cX7_losesNothing RX7 8 wsX7_losesNothing) (hr : meth.sig.returnType = (some .boolean)) (hlk : meth.locks = false) (hnm : meth.name = yX7_losesNothing.name) {res : Int32 × Hp} (w44 : Nat → Int32 → Int32 → Int32 → Hp → Option (Int32 × Hp)) (hw44 : ∀ (a0 : Nat) (i1 : Int32) (i2 : Int32) (i3 : Int32) (h : Hp), w44 a0 i1 i2 i3 h = some res → XW g p l e { frames := 4, cells := 0, slots := 0, locals := 93 } s m args below meth c (MQ below (x_Q g (some (vI res.1)) res.2) args s 0 0 (x_A g)) 8 0 0 h 44 [some (vR a0), some (vI i1), some (vI i2), some (vI i3), none, none, none, none] []) (w53 : Nat → Int32 → Int32 → Int32 → Int32 → Hp → Option (Int32 × Hp)) (hw53 : ∀ (a0 : Nat) (i1 : Int32) (i2 : Int32) (i3 : Int32) (i4 : Int32) (h : Hp), w53 a0 i1 i2 i3 i4 h = some res → XW g p l e { frames := 4, cells := 0, slots := 0, locals := 93 } s m args below meth c (MQ below (x_Q g (some (vI res.1)) res.2) args s 0 0 (x_A g)) 8 0 0 h 53 [some (vR a0), some (vI i1), some (vI i2), some (vI i3), some (vI i4), none, none, none] []) (w91 : Nat → Int32 → Int32 → Int32 → Int32 → Int32 → Int32 → Int32 → Hp → Option (Int32 × Hp)) (hw91 : ∀ (a0 : Nat) (i1 : Int32) (i2 : Int32) (i3 : Int32) (i4 : Int32) (i5 : Int32) (i6 : Int32) (i7 : Int32) (h : Hp), w91 a0 i1 i2 i3 i4 i5 i6 i7 h = some res → XW g p l e { frames := 4, cells := 0, slots := 0, locals := 93 } s m args below meth c (MQ below (x_Q g (some (vI res.1)) res.2) args s 0 0 (x_A g)) 8 0 0 h 91 [some (vR a0), some (vI i1), some (vI i2), some (vI i3), some (vI i4), some (vI i5), some (vI i6), some (vI i7)] []) (a0 : Nat) (i1 : Int32) (i2 : Int32) (i3 : Int32) (i4 : Int32) (i5 : Int32) (i7 : Int32) (h : Hp) (hf : fX7_losesNothing_b151 w44 w53 w91 a0 i1 i2 i3 i4 i5 i7 h = some res) : XW g p l e { frames := 4, cells := 0, slots := 0, locals := 93 } s m args below meth c (MQ below (x_Q g (some (vI res.1)) res.2) args s 0 0 (x_A g)) 8 0 0 h 151 [some (vR a0), some (vI i1), some (vI i2), some (vI i3), some (vI i4), some (vI i5), none, some (vI i7)] [] := by
  unfold fX7_losesNothing_b151 at hf
  refine x_iconst C (v := 1) (by decide) dX7_losesNothing_151 (pc' := 152) rfl ?_
  refine x_goto C dX7_losesNothing_152 (tgt := 156) (by decide) ?_
  refine x_more (k' := 0) (n' := 0) (Nat.le_of_ble_eq_true rfl) (Nat.le_of_ble_eq_true rfl) ?_
  exact mX7_losesNothing_b156 C hr hlk hnm w44 hw44 w53 hw53 w91 hw91 a0 i1 i2 i3 i4 i5 i7 (1 : Int32) h hf
def fX7_losesNothing_b132 (w44 : Nat → Int32 → Int32 → Int32 → Hp → Option (Int32 × Hp)) (w53 : Nat → Int32 → Int32 → Int32 → Int32 → Hp → Option (Int32 × Hp)) (w91 : Nat → Int32 → Int32 → Int32 → Int32 → Int32 → Int32 → Int32 → Hp → Option (Int32 × Hp)) (a0 : Nat) (i1 : Int32) (i2 : Int32) (i3 : Int32) (i4 : Int32) (i6 : Int32) (i7 : Int32) (s0 : Int32) (h : Hp) : Option (Int32 × Hp) := if i6 = 0 then (call (oK h a0 7 (fX7_leads h a0 i1 i7 i4)) fun r1 h2 => if r1 = 0 then (fX7_losesNothing_b156 w44 w53 w91 a0 i1 i2 i3 i4 s0 i7 (0 : Int32) h2) else (fX7_losesNothing_b151 w44 w53 w91 a0 i1 i2 i3 i4 s0 i7 h2)) else (fX7_losesNothing_b151 w44 w53 w91 a0 i1 i2 i3 i4 s0 i7 h)
set_option maxHeartbeats 4000000 in
set_option maxRecDepth 100000 in
theorem mX7_losesNothing_b132 {g : XG} {p : Program} {l : Launch} {e : Env} {s : State} {m : MethodId} {args : Array Value} {below : List Frame} {meth : Method} {c : Code} (C : x_C g p s m args c cX7_losesNothing RX7 8 wsX7_losesNothing) (hr : meth.sig.returnType = (some .boolean)) (hlk : meth.locks = false) (hnm : meth.name = yX7_losesNothing.name) {res : Int32 × Hp} (w44 : Nat → Int32 → Int32 → Int32 → Hp → Option (Int32 × Hp)) (hw44 : ∀ (a0 : Nat) (i1 : Int32) (i2 : Int32) (i3 : Int32) (h : Hp), w44 a0 i1 i2 i3 h = some res → XW g p l e { frames := 4, cells := 0, slots := 0, locals := 93 } s m args below meth c (MQ below (x_Q g (some (vI res.1)) res.2) args s 0 0 (x_A g)) 8 0 0 h 44 [some (vR a0), some (vI i1), some (vI i2), some (vI i3), none, none, none, none] []) (w53 : Nat → Int32 → Int32 → Int32 → Int32 → Hp → Option (Int32 × Hp)) (hw53 : ∀ (a0 : Nat) (i1 : Int32) (i2 : Int32) (i3 : Int32) (i4 : Int32) (h : Hp), w53 a0 i1 i2 i3 i4 h = some res → XW g p l e { frames := 4, cells := 0, slots := 0, locals := 93 } s m args below meth c (MQ below (x_Q g (some (vI res.1)) res.2) args s 0 0 (x_A g)) 8 0 0 h 53 [some (vR a0), some (vI i1), some (vI i2), some (vI i3), some (vI i4), none, none, none] []) (w91 : Nat → Int32 → Int32 → Int32 → Int32 → Int32 → Int32 → Int32 → Hp → Option (Int32 × Hp)) (hw91 : ∀ (a0 : Nat) (i1 : Int32) (i2 : Int32) (i3 : Int32) (i4 : Int32) (i5 : Int32) (i6 : Int32) (i7 : Int32) (h : Hp), w91 a0 i1 i2 i3 i4 i5 i6 i7 h = some res → XW g p l e { frames := 4, cells := 0, slots := 0, locals := 93 } s m args below meth c (MQ below (x_Q g (some (vI res.1)) res.2) args s 0 0 (x_A g)) 8 0 0 h 91 [some (vR a0), some (vI i1), some (vI i2), some (vI i3), some (vI i4), some (vI i5), some (vI i6), some (vI i7)] []) (a0 : Nat) (i1 : Int32) (i2 : Int32) (i3 : Int32) (i4 : Int32) (i6 : Int32) (i7 : Int32) (s0 : Int32) (h : Hp) (hf : fX7_losesNothing_b132 w44 w53 w91 a0 i1 i2 i3 i4 i6 i7 s0 h = some res) : XW g p l e { frames := 4, cells := 0, slots := 0, locals := 93 } s m args below meth c (MQ below (x_Q g (some (vI res.1)) res.2) args s 0 0 (x_A g)) 8 0 0 h 132 [some (vR a0), some (vI i1), some (vI i2), some (vI i3), some (vI i4), none, some (vI i6), some (vI i7)] [vI s0] := by
  unfold fX7_losesNothing_b132 at hf
  refine x_istore C dX7_losesNothing_132 (pc' := 134) rfl (by decide) rfl (lv' := [some (vR a0), some (vI i1), some (vI i2), some (vI i3), some (vI i4), some (vI s0), some (vI i6), some (vI i7)]) rfl ?_
  refine x_iload C dX7_losesNothing_134 (pc' := 136) rfl rfl ?_
  refine x_if_ne C hf dX7_losesNothing_136 (pc' := 139) rfl (tgt := 151) (by decide) (fun _ hf => ?_) (fun _ hf => ?_)
  ·
    refine x_aload_n C dX7_losesNothing_139 (pc' := 140) rfl rfl rfl ?_
    refine x_iload_n C dX7_losesNothing_140 (pc' := 141) rfl rfl rfl ?_
    refine x_iload C dX7_losesNothing_141 (pc' := 143) rfl rfl ?_
    refine x_iload C dX7_losesNothing_143 (pc' := 145) rfl rfl ?_
    obtain ⟨r1, h2, hq, hf⟩ := call_some hf
    obtain ⟨hob, hq⟩ := oK_some hq
    refine x_callV C (As := [vI i1, vI i7, vI i4]) (st := []) (r := (some (vI r1))) (h' := h2) (mc := 0) (ms := 0) (k := 0) (n := 0) (mX7_leads hq) hob (ci := 7) rfl (cwV 3 C.1.2.2.2.2 gX7_losesNothing_X7_leads rfl rfl rfl (by decide +kernel) ⟨Nat.le_of_ble_eq_true rfl, Nat.le_of_ble_eq_true rfl⟩) rfl rfl (Nat.le_of_ble_eq_true rfl) dX7_losesNothing_145 (pc' := 148) rfl ?_
    refine x_if_eq C hf dX7_losesNothing_148 (pc' := 151) rfl (tgt := 155) (by decide) (fun _ hf => ?_) (fun _ hf => ?_)
    ·
      refine x_iconst C (v := 0) (by decide) dX7_losesNothing_155 (pc' := 156) rfl ?_
      refine x_keep [true, true, true, true, true, true, false, true] rfl ?_
      refine x_more (k' := 0) (n' := 0) (Nat.le_of_ble_eq_true rfl) (Nat.le_of_ble_eq_true rfl) ?_
      exact mX7_losesNothing_b156 C hr hlk hnm w44 hw44 w53 hw53 w91 hw91 a0 i1 i2 i3 i4 s0 i7 (0 : Int32) h2 hf
    ·
      refine x_keep [true, true, true, true, true, true, false, true] rfl ?_
      refine x_more (k' := 0) (n' := 0) (Nat.le_of_ble_eq_true rfl) (Nat.le_of_ble_eq_true rfl) ?_
      exact mX7_losesNothing_b151 C hr hlk hnm w44 hw44 w53 hw53 w91 hw91 a0 i1 i2 i3 i4 s0 i7 h2 hf
  ·
    refine x_keep [true, true, true, true, true, true, false, true] rfl ?_
    refine x_more (k' := 0) (n' := 0) (Nat.le_of_ble_eq_true rfl) (Nat.le_of_ble_eq_true rfl) ?_
    exact mX7_losesNothing_b151 C hr hlk hnm w44 hw44 w53 hw53 w91 hw91 a0 i1 i2 i3 i4 s0 i7 h hf
def fX7_losesNothing_b127 (w44 : Nat → Int32 → Int32 → Int32 → Hp → Option (Int32 × Hp)) (w53 : Nat → Int32 → Int32 → Int32 → Int32 → Hp → Option (Int32 × Hp)) (w91 : Nat → Int32 → Int32 → Int32 → Int32 → Int32 → Int32 → Int32 → Hp → Option (Int32 × Hp)) (a0 : Nat) (i1 : Int32) (i2 : Int32) (i3 : Int32) (i4 : Int32) (i6 : Int32) (i7 : Int32) (h : Hp) : Option (Int32 × Hp) := fX7_losesNothing_b132 w44 w53 w91 a0 i1 i2 i3 i4 i6 i7 (1 : Int32) h
set_option maxHeartbeats 4000000 in
set_option maxRecDepth 100000 in
theorem mX7_losesNothing_b127 {g : XG} {p : Program} {l : Launch} {e : Env} {s : State} {m : MethodId} {args : Array Value} {below : List Frame} {meth : Method} {c : Code} (C : x_C g p s m args c cX7_losesNothing RX7 8 wsX7_losesNothing) (hr : meth.sig.returnType = (some .boolean)) (hlk : meth.locks = false) (hnm : meth.name = yX7_losesNothing.name) {res : Int32 × Hp} (w44 : Nat → Int32 → Int32 → Int32 → Hp → Option (Int32 × Hp)) (hw44 : ∀ (a0 : Nat) (i1 : Int32) (i2 : Int32) (i3 : Int32) (h : Hp), w44 a0 i1 i2 i3 h = some res → XW g p l e { frames := 4, cells := 0, slots := 0, locals := 93 } s m args below meth c (MQ below (x_Q g (some (vI res.1)) res.2) args s 0 0 (x_A g)) 8 0 0 h 44 [some (vR a0), some (vI i1), some (vI i2), some (vI i3), none, none, none, none] []) (w53 : Nat → Int32 → Int32 → Int32 → Int32 → Hp → Option (Int32 × Hp)) (hw53 : ∀ (a0 : Nat) (i1 : Int32) (i2 : Int32) (i3 : Int32) (i4 : Int32) (h : Hp), w53 a0 i1 i2 i3 i4 h = some res → XW g p l e { frames := 4, cells := 0, slots := 0, locals := 93 } s m args below meth c (MQ below (x_Q g (some (vI res.1)) res.2) args s 0 0 (x_A g)) 8 0 0 h 53 [some (vR a0), some (vI i1), some (vI i2), some (vI i3), some (vI i4), none, none, none] []) (w91 : Nat → Int32 → Int32 → Int32 → Int32 → Int32 → Int32 → Int32 → Hp → Option (Int32 × Hp)) (hw91 : ∀ (a0 : Nat) (i1 : Int32) (i2 : Int32) (i3 : Int32) (i4 : Int32) (i5 : Int32) (i6 : Int32) (i7 : Int32) (h : Hp), w91 a0 i1 i2 i3 i4 i5 i6 i7 h = some res → XW g p l e { frames := 4, cells := 0, slots := 0, locals := 93 } s m args below meth c (MQ below (x_Q g (some (vI res.1)) res.2) args s 0 0 (x_A g)) 8 0 0 h 91 [some (vR a0), some (vI i1), some (vI i2), some (vI i3), some (vI i4), some (vI i5), some (vI i6), some (vI i7)] []) (a0 : Nat) (i1 : Int32) (i2 : Int32) (i3 : Int32) (i4 : Int32) (i6 : Int32) (i7 : Int32) (h : Hp) (hf : fX7_losesNothing_b127 w44 w53 w91 a0 i1 i2 i3 i4 i6 i7 h = some res) : XW g p l e { frames := 4, cells := 0, slots := 0, locals := 93 } s m args below meth c (MQ below (x_Q g (some (vI res.1)) res.2) args s 0 0 (x_A g)) 8 0 0 h 127 [some (vR a0), some (vI i1), some (vI i2), some (vI i3), some (vI i4), none, some (vI i6), some (vI i7)] [] := by
  unfold fX7_losesNothing_b127 at hf
  refine x_iconst C (v := 1) (by decide) dX7_losesNothing_127 (pc' := 128) rfl ?_
  refine x_goto C dX7_losesNothing_128 (tgt := 132) (by decide) ?_
  refine x_more (k' := 0) (n' := 0) (Nat.le_of_ble_eq_true rfl) (Nat.le_of_ble_eq_true rfl) ?_
  exact mX7_losesNothing_b132 C hr hlk hnm w44 hw44 w53 hw53 w91 hw91 a0 i1 i2 i3 i4 i6 i7 (1 : Int32) h hf
def fX7_losesNothing_w91 (w44 : Nat → Int32 → Int32 → Int32 → Hp → Option (Int32 × Hp)) (w53 : Nat → Int32 → Int32 → Int32 → Int32 → Hp → Option (Int32 × Hp)) : Nat → Nat → Int32 → Int32 → Int32 → Int32 → Int32 → Int32 → Int32 → Hp → Option (Int32 × Hp)
  | 0 => fun _ _ _ _ _ _ _ _ _ => none
  | n + 1 => fun a0 i1 i2 i3 i4 i5 i6 i7 h => if i2 ≤ i7 then (fX7_losesNothing_b164 w44 w53 a0 i1 i2 i3 i4 i5 i6 h) else ((gR h a0 7 12).bind fun v1 => (aI h v1 2 i7).bind fun v2 => if v2 = 0 then (fX7_losesNothing_b158 w44 w53 (fX7_losesNothing_w91 w44 w53 n) a0 i1 i2 i3 i4 i5 i6 i7 h) else (if i5 = 0 then (call (oK h a0 7 (fX7_leads h a0 i1 i4 i7)) fun r3 h4 => if r3 = 0 then (fX7_losesNothing_b132 w44 w53 (fX7_losesNothing_w91 w44 w53 n) a0 i1 i2 i3 i4 i6 i7 (0 : Int32) h4) else (fX7_losesNothing_b127 w44 w53 (fX7_losesNothing_w91 w44 w53 n) a0 i1 i2 i3 i4 i6 i7 h4)) else (fX7_losesNothing_b127 w44 w53 (fX7_losesNothing_w91 w44 w53 n) a0 i1 i2 i3 i4 i6 i7 h)))
set_option maxHeartbeats 4000000 in
set_option maxRecDepth 100000 in
theorem mX7_losesNothing_w91 {g : XG} {p : Program} {l : Launch} {e : Env} {s : State} {m : MethodId} {args : Array Value} {below : List Frame} {meth : Method} {c : Code} (C : x_C g p s m args c cX7_losesNothing RX7 8 wsX7_losesNothing) (hr : meth.sig.returnType = (some .boolean)) (hlk : meth.locks = false) (hnm : meth.name = yX7_losesNothing.name) {res : Int32 × Hp} (w44 : Nat → Int32 → Int32 → Int32 → Hp → Option (Int32 × Hp)) (hw44 : ∀ (a0 : Nat) (i1 : Int32) (i2 : Int32) (i3 : Int32) (h : Hp), w44 a0 i1 i2 i3 h = some res → XW g p l e { frames := 4, cells := 0, slots := 0, locals := 93 } s m args below meth c (MQ below (x_Q g (some (vI res.1)) res.2) args s 0 0 (x_A g)) 8 0 0 h 44 [some (vR a0), some (vI i1), some (vI i2), some (vI i3), none, none, none, none] []) (w53 : Nat → Int32 → Int32 → Int32 → Int32 → Hp → Option (Int32 × Hp)) (hw53 : ∀ (a0 : Nat) (i1 : Int32) (i2 : Int32) (i3 : Int32) (i4 : Int32) (h : Hp), w53 a0 i1 i2 i3 i4 h = some res → XW g p l e { frames := 4, cells := 0, slots := 0, locals := 93 } s m args below meth c (MQ below (x_Q g (some (vI res.1)) res.2) args s 0 0 (x_A g)) 8 0 0 h 53 [some (vR a0), some (vI i1), some (vI i2), some (vI i3), some (vI i4), none, none, none] []) : ∀ (n : Nat) (a0 : Nat) (i1 : Int32) (i2 : Int32) (i3 : Int32) (i4 : Int32) (i5 : Int32) (i6 : Int32) (i7 : Int32) (h : Hp), fX7_losesNothing_w91 w44 w53 n a0 i1 i2 i3 i4 i5 i6 i7 h = some res → XW g p l e { frames := 4, cells := 0, slots := 0, locals := 93 } s m args below meth c (MQ below (x_Q g (some (vI res.1)) res.2) args s 0 0 (x_A g)) 8 0 0 h 91 [some (vR a0), some (vI i1), some (vI i2), some (vI i3), some (vI i4), some (vI i5), some (vI i6), some (vI i7)] [] := by
  intro n
  induction n with
  | zero =>
    intro a0 i1 i2 i3 i4 i5 i6 i7 h hf
    have hf2 : (none : Option (Int32 × Hp)) = some res := hf
    cases hf2
  | succ n ih =>
    intro a0 i1 i2 i3 i4 i5 i6 i7 h hf
    rw [fX7_losesNothing_w91] at hf
    refine x_iload C dX7_losesNothing_91 (pc' := 93) rfl rfl ?_
    refine x_iload_n C dX7_losesNothing_93 (pc' := 94) rfl rfl rfl ?_
    refine x_icmp_ge C hf dX7_losesNothing_94 (pc' := 97) rfl (tgt := 164) (by decide) (fun _ hf => ?_) (fun _ hf => ?_)
    ·
      refine x_keep [true, true, true, true, true, true, true, false] rfl ?_
      refine x_more (k' := 0) (n' := 0) (Nat.le_of_ble_eq_true rfl) (Nat.le_of_ble_eq_true rfl) ?_
      exact mX7_losesNothing_b164 C hr hlk hnm w44 hw44 w53 hw53 a0 i1 i2 i3 i4 i5 i6 h hf
    ·
      refine x_aload_n C dX7_losesNothing_97 (pc' := 98) rfl rfl rfl ?_
      refine x_getR C (ci := 7) (kf := 12) rfl (by decide) hinX7_losesNothing_X7 lkX7_losesNothing_0 rfl hf dX7_losesNothing_98 (pc' := 101) rfl (fun v1 _ hf => ?_)
      refine x_iload C dX7_losesNothing_101 (pc' := 103) rfl rfl ?_
      refine x_baloadZ C hf dX7_losesNothing_103 (pc' := 104) rfl (fun v2 _ hf => ?_)
      refine x_if_ne C hf dX7_losesNothing_104 (pc' := 107) rfl (tgt := 110) (by decide) (fun _ hf => ?_) (fun _ hf => ?_)
      ·
        refine x_goto C dX7_losesNothing_107 (tgt := 158) (by decide) ?_
        refine x_more (k' := 0) (n' := 0) (Nat.le_of_ble_eq_true rfl) (Nat.le_of_ble_eq_true rfl) ?_
        exact mX7_losesNothing_b158 C hr hlk hnm w44 hw44 w53 hw53 (fX7_losesNothing_w91 w44 w53 n) ih a0 i1 i2 i3 i4 i5 i6 i7 h hf
      ·
        refine x_iload C dX7_losesNothing_110 (pc' := 112) rfl rfl ?_
        refine x_if_ne C hf dX7_losesNothing_112 (pc' := 115) rfl (tgt := 127) (by decide) (fun _ hf => ?_) (fun _ hf => ?_)
        ·
          refine x_aload_n C dX7_losesNothing_115 (pc' := 116) rfl rfl rfl ?_
          refine x_iload_n C dX7_losesNothing_116 (pc' := 117) rfl rfl rfl ?_
          refine x_iload C dX7_losesNothing_117 (pc' := 119) rfl rfl ?_
          refine x_iload C dX7_losesNothing_119 (pc' := 121) rfl rfl ?_
          obtain ⟨r3, h4, hq, hf⟩ := call_some hf
          obtain ⟨hob, hq⟩ := oK_some hq
          refine x_callV C (As := [vI i1, vI i4, vI i7]) (st := []) (r := (some (vI r3))) (h' := h4) (mc := 0) (ms := 0) (k := 0) (n := 0) (mX7_leads hq) hob (ci := 7) rfl (cwV 3 C.1.2.2.2.2 gX7_losesNothing_X7_leads rfl rfl rfl (by decide +kernel) ⟨Nat.le_of_ble_eq_true rfl, Nat.le_of_ble_eq_true rfl⟩) rfl rfl (Nat.le_of_ble_eq_true rfl) dX7_losesNothing_121 (pc' := 124) rfl ?_
          refine x_if_eq C hf dX7_losesNothing_124 (pc' := 127) rfl (tgt := 131) (by decide) (fun _ hf => ?_) (fun _ hf => ?_)
          ·
            refine x_iconst C (v := 0) (by decide) dX7_losesNothing_131 (pc' := 132) rfl ?_
            refine x_keep [true, true, true, true, true, false, true, true] rfl ?_
            refine x_more (k' := 0) (n' := 0) (Nat.le_of_ble_eq_true rfl) (Nat.le_of_ble_eq_true rfl) ?_
            exact mX7_losesNothing_b132 C hr hlk hnm w44 hw44 w53 hw53 (fX7_losesNothing_w91 w44 w53 n) ih a0 i1 i2 i3 i4 i6 i7 (0 : Int32) h4 hf
          ·
            refine x_keep [true, true, true, true, true, false, true, true] rfl ?_
            refine x_more (k' := 0) (n' := 0) (Nat.le_of_ble_eq_true rfl) (Nat.le_of_ble_eq_true rfl) ?_
            exact mX7_losesNothing_b127 C hr hlk hnm w44 hw44 w53 hw53 (fX7_losesNothing_w91 w44 w53 n) ih a0 i1 i2 i3 i4 i6 i7 h4 hf
        ·
          refine x_keep [true, true, true, true, true, false, true, true] rfl ?_
          refine x_more (k' := 0) (n' := 0) (Nat.le_of_ble_eq_true rfl) (Nat.le_of_ble_eq_true rfl) ?_
          exact mX7_losesNothing_b127 C hr hlk hnm w44 hw44 w53 hw53 (fX7_losesNothing_w91 w44 w53 n) ih a0 i1 i2 i3 i4 i6 i7 h hf
def fX7_losesNothing_w53 (w44 : Nat → Int32 → Int32 → Int32 → Hp → Option (Int32 × Hp)) : Nat → Nat → Int32 → Int32 → Int32 → Int32 → Hp → Option (Int32 × Hp)
  | 0 => fun _ _ _ _ _ _ => none
  | n + 1 => fun a0 i1 i2 i3 i4 h => if i2 ≤ i4 then (fX7_losesNothing_b193 w44 a0 i1 i2 i3 h) else ((gR h a0 7 12).bind fun v1 => (aI h v1 2 i4).bind fun v2 => if v2 = 0 then (fX7_losesNothing_b187 w44 (fX7_losesNothing_w53 w44 n) a0 i1 i2 i3 i4 h) else (call (oK h a0 7 (fX7_isOne h a0 i1 i4)) fun r3 h4 => if r3 = 0 then (fX7_losesNothing_w91 w44 (fX7_losesNothing_w53 w44 n) FUEL a0 i1 i2 i3 i4 (0 : Int32) (0 : Int32) (0 : Int32) h4) else (fX7_losesNothing_b187 w44 (fX7_losesNothing_w53 w44 n) a0 i1 i2 i3 i4 h4)))
set_option maxHeartbeats 4000000 in
set_option maxRecDepth 100000 in
theorem mX7_losesNothing_w53 {g : XG} {p : Program} {l : Launch} {e : Env} {s : State} {m : MethodId} {args : Array Value} {below : List Frame} {meth : Method} {c : Code} (C : x_C g p s m args c cX7_losesNothing RX7 8 wsX7_losesNothing) (hr : meth.sig.returnType = (some .boolean)) (hlk : meth.locks = false) (hnm : meth.name = yX7_losesNothing.name) {res : Int32 × Hp} (w44 : Nat → Int32 → Int32 → Int32 → Hp → Option (Int32 × Hp)) (hw44 : ∀ (a0 : Nat) (i1 : Int32) (i2 : Int32) (i3 : Int32) (h : Hp), w44 a0 i1 i2 i3 h = some res → XW g p l e { frames := 4, cells := 0, slots := 0, locals := 93 } s m args below meth c (MQ below (x_Q g (some (vI res.1)) res.2) args s 0 0 (x_A g)) 8 0 0 h 44 [some (vR a0), some (vI i1), some (vI i2), some (vI i3), none, none, none, none] []) : ∀ (n : Nat) (a0 : Nat) (i1 : Int32) (i2 : Int32) (i3 : Int32) (i4 : Int32) (h : Hp), fX7_losesNothing_w53 w44 n a0 i1 i2 i3 i4 h = some res → XW g p l e { frames := 4, cells := 0, slots := 0, locals := 93 } s m args below meth c (MQ below (x_Q g (some (vI res.1)) res.2) args s 0 0 (x_A g)) 8 0 0 h 53 [some (vR a0), some (vI i1), some (vI i2), some (vI i3), some (vI i4), none, none, none] [] := by
  intro n
  induction n with
  | zero =>
    intro a0 i1 i2 i3 i4 h hf
    have hf2 : (none : Option (Int32 × Hp)) = some res := hf
    cases hf2
  | succ n ih =>
    intro a0 i1 i2 i3 i4 h hf
    rw [fX7_losesNothing_w53] at hf
    refine x_iload C dX7_losesNothing_53 (pc' := 55) rfl rfl ?_
    refine x_iload_n C dX7_losesNothing_55 (pc' := 56) rfl rfl rfl ?_
    refine x_icmp_ge C hf dX7_losesNothing_56 (pc' := 59) rfl (tgt := 193) (by decide) (fun _ hf => ?_) (fun _ hf => ?_)
    ·
      refine x_keep [true, true, true, true, false, false, false, false] rfl ?_
      refine x_more (k' := 0) (n' := 0) (Nat.le_of_ble_eq_true rfl) (Nat.le_of_ble_eq_true rfl) ?_
      exact mX7_losesNothing_b193 C hr hlk hnm w44 hw44 a0 i1 i2 i3 h hf
    ·
      refine x_aload_n C dX7_losesNothing_59 (pc' := 60) rfl rfl rfl ?_
      refine x_getR C (ci := 7) (kf := 12) rfl (by decide) hinX7_losesNothing_X7 lkX7_losesNothing_0 rfl hf dX7_losesNothing_60 (pc' := 63) rfl (fun v1 _ hf => ?_)
      refine x_iload C dX7_losesNothing_63 (pc' := 65) rfl rfl ?_
      refine x_baloadZ C hf dX7_losesNothing_65 (pc' := 66) rfl (fun v2 _ hf => ?_)
      refine x_if_eq C hf dX7_losesNothing_66 (pc' := 69) rfl (tgt := 187) (by decide) (fun _ hf => ?_) (fun _ hf => ?_)
      ·
        refine x_more (k' := 0) (n' := 0) (Nat.le_of_ble_eq_true rfl) (Nat.le_of_ble_eq_true rfl) ?_
        exact mX7_losesNothing_b187 C hr hlk hnm w44 hw44 (fX7_losesNothing_w53 w44 n) ih a0 i1 i2 i3 i4 h hf
      ·
        refine x_aload_n C dX7_losesNothing_69 (pc' := 70) rfl rfl rfl ?_
        refine x_iload_n C dX7_losesNothing_70 (pc' := 71) rfl rfl rfl ?_
        refine x_iload C dX7_losesNothing_71 (pc' := 73) rfl rfl ?_
        obtain ⟨r3, h4, hq, hf⟩ := call_some hf
        obtain ⟨hob, hq⟩ := oK_some hq
        refine x_callV C (As := [vI i1, vI i4]) (st := []) (r := (some (vI r3))) (h' := h4) (mc := 0) (ms := 0) (k := 0) (n := 0) (mX7_isOne hq) hob (ci := 7) rfl (cwV 2 C.1.2.2.2.2 gX7_losesNothing_X7_isOne rfl rfl rfl (by decide +kernel) ⟨Nat.le_of_ble_eq_true rfl, Nat.le_of_ble_eq_true rfl⟩) rfl rfl (Nat.le_of_ble_eq_true rfl) dX7_losesNothing_73 (pc' := 76) rfl ?_
        refine x_if_eq C hf dX7_losesNothing_76 (pc' := 79) rfl (tgt := 82) (by decide) (fun _ hf => ?_) (fun _ hf => ?_)
        ·
          refine x_iconst C (v := 0) (by decide) dX7_losesNothing_82 (pc' := 83) rfl ?_
          refine x_istore C dX7_losesNothing_83 (pc' := 85) rfl (by decide) rfl (lv' := [some (vR a0), some (vI i1), some (vI i2), some (vI i3), some (vI i4), some (vI (0 : Int32)), none, none]) rfl ?_
          refine x_iconst C (v := 0) (by decide) dX7_losesNothing_85 (pc' := 86) rfl ?_
          refine x_istore C dX7_losesNothing_86 (pc' := 88) rfl (by decide) rfl (lv' := [some (vR a0), some (vI i1), some (vI i2), some (vI i3), some (vI i4), some (vI (0 : Int32)), some (vI (0 : Int32)), none]) rfl ?_
          refine x_iconst C (v := 0) (by decide) dX7_losesNothing_88 (pc' := 89) rfl ?_
          refine x_istore C dX7_losesNothing_89 (pc' := 91) rfl (by decide) rfl (lv' := [some (vR a0), some (vI i1), some (vI i2), some (vI i3), some (vI i4), some (vI (0 : Int32)), some (vI (0 : Int32)), some (vI (0 : Int32))]) rfl ?_
          refine x_more (k' := 0) (n' := 0) (Nat.le_of_ble_eq_true rfl) (Nat.le_of_ble_eq_true rfl) ?_
          exact mX7_losesNothing_w91 C hr hlk hnm w44 hw44 (fX7_losesNothing_w53 w44 n) ih FUEL a0 i1 i2 i3 i4 (0 : Int32) (0 : Int32) (0 : Int32) h4 hf
        ·
          refine x_goto C dX7_losesNothing_79 (tgt := 187) (by decide) ?_
          refine x_more (k' := 0) (n' := 0) (Nat.le_of_ble_eq_true rfl) (Nat.le_of_ble_eq_true rfl) ?_
          exact mX7_losesNothing_b187 C hr hlk hnm w44 hw44 (fX7_losesNothing_w53 w44 n) ih a0 i1 i2 i3 i4 h4 hf
def fX7_losesNothing_w44 : Nat → Nat → Int32 → Int32 → Int32 → Hp → Option (Int32 × Hp)
  | 0 => fun _ _ _ _ _ => none
  | n + 1 => fun a0 i1 i2 i3 h => if i3 = 0 then (fX7_losesNothing_b196 a0 i1 i2 h) else (fX7_losesNothing_w53 (fX7_losesNothing_w44 n) FUEL a0 i1 i2 (0 : Int32) (0 : Int32) h)
set_option maxHeartbeats 4000000 in
set_option maxRecDepth 100000 in
theorem mX7_losesNothing_w44 {g : XG} {p : Program} {l : Launch} {e : Env} {s : State} {m : MethodId} {args : Array Value} {below : List Frame} {meth : Method} {c : Code} (C : x_C g p s m args c cX7_losesNothing RX7 8 wsX7_losesNothing) (hr : meth.sig.returnType = (some .boolean)) (hlk : meth.locks = false) (hnm : meth.name = yX7_losesNothing.name) {res : Int32 × Hp} : ∀ (n : Nat) (a0 : Nat) (i1 : Int32) (i2 : Int32) (i3 : Int32) (h : Hp), fX7_losesNothing_w44 n a0 i1 i2 i3 h = some res → XW g p l e { frames := 4, cells := 0, slots := 0, locals := 93 } s m args below meth c (MQ below (x_Q g (some (vI res.1)) res.2) args s 0 0 (x_A g)) 8 0 0 h 44 [some (vR a0), some (vI i1), some (vI i2), some (vI i3), none, none, none, none] [] := by
  intro n
  induction n with
  | zero =>
    intro a0 i1 i2 i3 h hf
    have hf2 : (none : Option (Int32 × Hp)) = some res := hf
    cases hf2
  | succ n ih =>
    intro a0 i1 i2 i3 h hf
    rw [fX7_losesNothing_w44] at hf
    refine x_iload_n C dX7_losesNothing_44 (pc' := 45) rfl rfl rfl ?_
    refine x_if_eq C hf dX7_losesNothing_45 (pc' := 48) rfl (tgt := 196) (by decide) (fun _ hf => ?_) (fun _ hf => ?_)
    ·
      refine x_keep [true, true, true, false, false, false, false, false] rfl ?_
      refine x_more (k' := 0) (n' := 0) (Nat.le_of_ble_eq_true rfl) (Nat.le_of_ble_eq_true rfl) ?_
      exact mX7_losesNothing_b196 C hr hlk hnm a0 i1 i2 h hf
    ·
      refine x_iconst C (v := 0) (by decide) dX7_losesNothing_48 (pc' := 49) rfl ?_
      refine x_istore_n C dX7_losesNothing_49 (pc' := 50) rfl rfl (by decide) rfl (lv' := [some (vR a0), some (vI i1), some (vI i2), some (vI (0 : Int32)), none, none, none, none]) rfl ?_
      refine x_iconst C (v := 0) (by decide) dX7_losesNothing_50 (pc' := 51) rfl ?_
      refine x_istore C dX7_losesNothing_51 (pc' := 53) rfl (by decide) rfl (lv' := [some (vR a0), some (vI i1), some (vI i2), some (vI (0 : Int32)), some (vI (0 : Int32)), none, none, none]) rfl ?_
      refine x_more (k' := 0) (n' := 0) (Nat.le_of_ble_eq_true rfl) (Nat.le_of_ble_eq_true rfl) ?_
      exact mX7_losesNothing_w53 C hr hlk hnm (fX7_losesNothing_w44 n) ih FUEL a0 i1 i2 (0 : Int32) (0 : Int32) h hf
def fX7_losesNothing_b42 (a0 : Nat) (i1 : Int32) (i2 : Int32) (h : Hp) : Option (Int32 × Hp) := fX7_losesNothing_w44 FUEL a0 i1 i2 (1 : Int32) h
set_option maxHeartbeats 4000000 in
set_option maxRecDepth 100000 in
theorem mX7_losesNothing_b42 {g : XG} {p : Program} {l : Launch} {e : Env} {s : State} {m : MethodId} {args : Array Value} {below : List Frame} {meth : Method} {c : Code} (C : x_C g p s m args c cX7_losesNothing RX7 8 wsX7_losesNothing) (hr : meth.sig.returnType = (some .boolean)) (hlk : meth.locks = false) (hnm : meth.name = yX7_losesNothing.name) {res : Int32 × Hp} (a0 : Nat) (i1 : Int32) (i2 : Int32) (h : Hp) (hf : fX7_losesNothing_b42 a0 i1 i2 h = some res) : XW g p l e { frames := 4, cells := 0, slots := 0, locals := 93 } s m args below meth c (MQ below (x_Q g (some (vI res.1)) res.2) args s 0 0 (x_A g)) 8 0 0 h 42 [some (vR a0), some (vI i1), some (vI i2), none, none, none, none, none] [] := by
  unfold fX7_losesNothing_b42 at hf
  refine x_iconst C (v := 1) (by decide) dX7_losesNothing_42 (pc' := 43) rfl ?_
  refine x_istore_n C dX7_losesNothing_43 (pc' := 44) rfl rfl (by decide) rfl (lv' := [some (vR a0), some (vI i1), some (vI i2), some (vI (1 : Int32)), none, none, none, none]) rfl ?_
  refine x_more (k' := 0) (n' := 0) (Nat.le_of_ble_eq_true rfl) (Nat.le_of_ble_eq_true rfl) ?_
  exact mX7_losesNothing_w44 C hr hlk hnm FUEL a0 i1 i2 (1 : Int32) h hf
def fX7_losesNothing_w24 : Nat → Nat → Int32 → Int32 → Int32 → Hp → Option (Int32 × Hp)
  | 0 => fun _ _ _ _ _ => none
  | n + 1 => fun a0 i1 i2 i3 h => if i2 ≤ i3 then (fX7_losesNothing_b42 a0 i1 i2 h) else ((gR h a0 7 12).bind fun v1 => (sI h v1 2 i3 (1 : Int32)).bind fun h2 => (fX7_losesNothing_w24 n) a0 i1 i2 (i3 + 1) h2)
set_option maxHeartbeats 4000000 in
set_option maxRecDepth 100000 in
theorem mX7_losesNothing_w24 {g : XG} {p : Program} {l : Launch} {e : Env} {s : State} {m : MethodId} {args : Array Value} {below : List Frame} {meth : Method} {c : Code} (C : x_C g p s m args c cX7_losesNothing RX7 8 wsX7_losesNothing) (hr : meth.sig.returnType = (some .boolean)) (hlk : meth.locks = false) (hnm : meth.name = yX7_losesNothing.name) {res : Int32 × Hp} : ∀ (n : Nat) (a0 : Nat) (i1 : Int32) (i2 : Int32) (i3 : Int32) (h : Hp), fX7_losesNothing_w24 n a0 i1 i2 i3 h = some res → XW g p l e { frames := 4, cells := 0, slots := 0, locals := 93 } s m args below meth c (MQ below (x_Q g (some (vI res.1)) res.2) args s 0 0 (x_A g)) 8 0 0 h 24 [some (vR a0), some (vI i1), some (vI i2), some (vI i3), none, none, none, none] [] := by
  intro n
  induction n with
  | zero =>
    intro a0 i1 i2 i3 h hf
    have hf2 : (none : Option (Int32 × Hp)) = some res := hf
    cases hf2
  | succ n ih =>
    intro a0 i1 i2 i3 h hf
    rw [fX7_losesNothing_w24] at hf
    refine x_iload_n C dX7_losesNothing_24 (pc' := 25) rfl rfl rfl ?_
    refine x_iload_n C dX7_losesNothing_25 (pc' := 26) rfl rfl rfl ?_
    refine x_icmp_ge C hf dX7_losesNothing_26 (pc' := 29) rfl (tgt := 42) (by decide) (fun _ hf => ?_) (fun _ hf => ?_)
    ·
      refine x_keep [true, true, true, false, false, false, false, false] rfl ?_
      refine x_more (k' := 0) (n' := 0) (Nat.le_of_ble_eq_true rfl) (Nat.le_of_ble_eq_true rfl) ?_
      exact mX7_losesNothing_b42 C hr hlk hnm a0 i1 i2 h hf
    ·
      refine x_aload_n C dX7_losesNothing_29 (pc' := 30) rfl rfl rfl ?_
      refine x_getR C (ci := 7) (kf := 12) rfl (by decide) hinX7_losesNothing_X7 lkX7_losesNothing_0 rfl hf dX7_losesNothing_30 (pc' := 33) rfl (fun v1 _ hf => ?_)
      refine x_iload_n C dX7_losesNothing_33 (pc' := 34) rfl rfl rfl ?_
      refine x_iconst C (v := 1) (by decide) dX7_losesNothing_34 (pc' := 35) rfl ?_
      refine x_bastoreZ C hf dX7_losesNothing_35 (pc' := 36) rfl (fun h2 _ hf => ?_)
      refine x_iinc C dX7_losesNothing_36 (pc' := 39) rfl rfl (v := (i3 + 1)) rfl (by decide) rfl (lv' := [some (vR a0), some (vI i1), some (vI i2), some (vI (i3 + 1)), none, none, none, none]) rfl ?_
      refine x_goto C dX7_losesNothing_39 (tgt := 24) (by decide) ?_
      exact ih a0 i1 i2 (i3 + 1) h2 hf
def fX7_losesNothing (h : Hp) (a0 : Nat) (i1 : Int32) : Option (Int32 × Hp) := call (oK h a0 7 (fX7_isEven h a0 i1)) fun r1 h2 => if r1 = 0 then (retZ (0 : Int32) h2) else (call (oK h2 a0 7 (fX7_overlaps h2 a0 i1)) fun r3 h4 => call (oK h4 a0 7 (fX7_overlaps h4 a0 i1)) fun r5 h6 => setv ((r3 * r5)) fun v7 => fX7_losesNothing_w24 FUEL a0 i1 v7 (0 : Int32) h6)
set_option maxHeartbeats 4000000 in
set_option maxRecDepth 100000 in
theorem mX7_losesNothing {l : Launch} {g : XG} {h : Hp} {a0 : Nat} {i1 : Int32} {res : Int32 × Hp} (hf : fX7_losesNothing h a0 i1 = some res) : XM l g yX7_losesNothing wsX7_losesNothing 4 93 0 0 [vR a0, vI i1] h (some (vI res.1)) res.2 := by
  refine x_start (cc := cX7_losesNothing) (maxL := 8) (ret := (some .boolean)) (by decide) rfl (Nat.le_of_ble_eq_true rfl) (lv := [some (vR a0), some (vI i1), none, none, none, none, none, none]) rfl ?_
  intro p e s m args below meth c C hr hlk hnm
  unfold fX7_losesNothing at hf
  refine x_aload_n C dX7_losesNothing_0 (pc' := 1) rfl rfl rfl ?_
  refine x_iload_n C dX7_losesNothing_1 (pc' := 2) rfl rfl rfl ?_
  obtain ⟨r1, h2, hq, hf⟩ := call_some hf
  obtain ⟨hob, hq⟩ := oK_some hq
  refine x_callV C (As := [vI i1]) (st := []) (r := (some (vI r1))) (h' := h2) (mc := 0) (ms := 0) (k := 0) (n := 0) (mX7_isEven hq) hob (ci := 7) rfl (cwV 1 C.1.2.2.2.2 gX7_losesNothing_X7_isEven rfl rfl rfl (by decide +kernel) ⟨Nat.le_of_ble_eq_true rfl, Nat.le_of_ble_eq_true rfl⟩) rfl rfl (Nat.le_of_ble_eq_true rfl) dX7_losesNothing_2 (pc' := 5) rfl ?_
  refine x_if_ne C hf dX7_losesNothing_5 (pc' := 8) rfl (tgt := 10) (by decide) (fun _ hf => ?_) (fun _ hf => ?_)
  ·
    refine x_iconst C (v := 0) (by decide) dX7_losesNothing_8 (pc' := 9) rfl ?_
    exact x_zret C hf hr hlk dX7_losesNothing_9
  ·
    refine x_aload_n C dX7_losesNothing_10 (pc' := 11) rfl rfl rfl ?_
    refine x_iload_n C dX7_losesNothing_11 (pc' := 12) rfl rfl rfl ?_
    obtain ⟨r3, h4, hq, hf⟩ := call_some hf
    obtain ⟨hob, hq⟩ := oK_some hq
    refine x_callV C (As := [vI i1]) (st := []) (r := (some (vI r3))) (h' := h4) (mc := 0) (ms := 0) (k := 0) (n := 0) (mX7_overlaps hq) hob (ci := 7) rfl (cwV 1 C.1.2.2.2.2 gX7_losesNothing_X7_overlaps rfl rfl rfl (by decide +kernel) ⟨Nat.le_of_ble_eq_true rfl, Nat.le_of_ble_eq_true rfl⟩) rfl rfl (Nat.le_of_ble_eq_true rfl) dX7_losesNothing_12 (pc' := 15) rfl ?_
    refine x_aload_n C dX7_losesNothing_15 (pc' := 16) rfl rfl rfl ?_
    refine x_iload_n C dX7_losesNothing_16 (pc' := 17) rfl rfl rfl ?_
    obtain ⟨r5, h6, hq, hf⟩ := call_some hf
    obtain ⟨hob, hq⟩ := oK_some hq
    refine x_callV C (As := [vI i1]) (st := [vI r3]) (r := (some (vI r5))) (h' := h6) (mc := 0) (ms := 0) (k := 0) (n := 0) (mX7_overlaps hq) hob (ci := 7) rfl (cwV 1 C.1.2.2.2.2 gX7_losesNothing_X7_overlaps rfl rfl rfl (by decide +kernel) ⟨Nat.le_of_ble_eq_true rfl, Nat.le_of_ble_eq_true rfl⟩) rfl rfl (Nat.le_of_ble_eq_true rfl) dX7_losesNothing_17 (pc' := 20) rfl ?_
    refine x_imul C dX7_losesNothing_20 (pc' := 21) rfl ?_
    refine x_nameI hf (fun v7 _ hf => ?_)
    refine x_istore_n C dX7_losesNothing_21 (pc' := 22) rfl rfl (by decide) rfl (lv' := [some (vR a0), some (vI i1), some (vI v7), none, none, none, none, none]) rfl ?_
    refine x_iconst C (v := 0) (by decide) dX7_losesNothing_22 (pc' := 23) rfl ?_
    refine x_istore_n C dX7_losesNothing_23 (pc' := 24) rfl rfl (by decide) rfl (lv' := [some (vR a0), some (vI i1), some (vI v7), some (vI (0 : Int32)), none, none, none, none]) rfl ?_
    refine x_more (k' := 0) (n' := 0) (Nat.le_of_ble_eq_true rfl) (Nat.le_of_ble_eq_true rfl) ?_
    exact mX7_losesNothing_w24 C hr hlk hnm FUEL a0 i1 v7 (0 : Int32) h6 hf
-- ===== X7_about
theorem lkX7_about_0 : Cond.fieldLink RX7 80 "MossRingsModel" "thrown" "I" ∈ wsX7_about := by decide +kernel
theorem hinX7_about_X7 : ∀ w ∈ u_ws RX7 TX7 27, w ∈ wsX7_about := by decide +kernel
theorem lkX7_about_1 : Cond.fieldLink RX7 13 "MossRingsModel" "states" "[I" ∈ wsX7_about := by decide +kernel
theorem lkX7_about_2 : Cond.fieldLink RX7 17 "MossRingsModel" "widths" "[I" ∈ wsX7_about := by decide +kernel
def fX7_about (h : Hp) (a0 : Nat) (i1 : Int32) (i2 : Int32) : Option (Int32 × Hp) := (pF h a0 7 0 (vI (0 : Int32))).bind fun h1 => call (oK h1 a0 7 (fX7_has h1 a0 i1)) fun r2 h3 => if r2 = 0 then (some ((-1 : Int32), h3)) else (if i2 = 0 then ((gR h3 a0 7 4).bind fun v5 => (aI h3 v5 0 i1).bind fun v6 => some (v6, h3)) else (if i2 = 1 then ((gR h3 a0 7 5).bind fun v8 => (aI h3 v8 0 i1).bind fun v9 => some (v9, h3)) else (if i2 = 2 then (call (oK h3 a0 7 (fX7_isFull h3 a0 i1)) fun r11 h12 => if r11 = 0 then (some ((0 : Int32), h12)) else (some ((1 : Int32), h12))) else (if i2 = 3 then (call (oK h3 a0 7 (fX7_losesNothing h3 a0 i1)) fun r14 h15 => if r14 = 0 then (some ((0 : Int32), h15)) else (some ((1 : Int32), h15))) else (some ((-1 : Int32), h3))))))
set_option maxHeartbeats 4000000 in
set_option maxRecDepth 100000 in
theorem mX7_about {l : Launch} {g : XG} {h : Hp} {a0 : Nat} {i1 : Int32} {i2 : Int32} {res : Int32 × Hp} (hf : fX7_about h a0 i1 i2 = some res) : XM l g yX7_about wsX7_about 6 140 0 0 [vR a0, vI i1, vI i2] h (some (vI res.1)) res.2 := by
  refine x_start (cc := cX7_about) (maxL := 3) (ret := (some .int)) (by decide) rfl (Nat.le_of_ble_eq_true rfl) (lv := [some (vR a0), some (vI i1), some (vI i2)]) rfl ?_
  intro p e s m args below meth c C hr hlk hnm
  unfold fX7_about at hf
  refine x_aload_n C dX7_about_0 (pc' := 1) rfl rfl rfl ?_
  refine x_iconst C (v := 0) (by decide) dX7_about_1 (pc' := 2) rfl ?_
  refine x_put C (ci := 7) (kf := 0) rfl (by decide) hinX7_about_X7 tyX7 tyX7_ok nmX7 lkX7_about_0 rfl (Or.inl rfl) rfl hf dX7_about_2 (pc' := 5) rfl (fun h1 _ hf => ?_)
  refine x_aload_n C dX7_about_5 (pc' := 6) rfl rfl rfl ?_
  refine x_iload_n C dX7_about_6 (pc' := 7) rfl rfl rfl ?_
  obtain ⟨r2, h3, hq, hf⟩ := call_some hf
  obtain ⟨hob, hq⟩ := oK_some hq
  refine x_callV C (As := [vI i1]) (st := []) (r := (some (vI r2))) (h' := h3) (mc := 0) (ms := 0) (k := 0) (n := 0) (mX7_has hq) hob (ci := 7) rfl (cwV 1 C.1.2.2.2.2 gX7_about_X7_has rfl rfl rfl (by decide +kernel) ⟨Nat.le_of_ble_eq_true rfl, Nat.le_of_ble_eq_true rfl⟩) rfl rfl (Nat.le_of_ble_eq_true rfl) dX7_about_7 (pc' := 10) rfl ?_
  refine x_if_ne C hf dX7_about_10 (pc' := 13) rfl (tgt := 15) (by decide) (fun _ hf => ?_) (fun _ hf => ?_)
  ·
    refine x_iconst C (v := -1) (by decide) dX7_about_13 (pc' := 14) rfl ?_
    cases hf
    exact x_iret C hr hlk dX7_about_14
  ·
    refine x_iload_n C dX7_about_15 (pc' := 16) rfl rfl rfl ?_
    by_cases hc4 : i2 = 0
    ·
      rw [if_pos hc4] at hf
      refine x_tswIn C (i := 0) hc4 (by decide) (by decide) dX7_about_16 (off := 32) rfl (tgt := 48) (by decide) ?_
      refine x_aload_n C dX7_about_48 (pc' := 49) rfl rfl rfl ?_
      refine x_getR C (ci := 7) (kf := 4) rfl (by decide) hinX7_about_X7 lkX7_about_1 rfl hf dX7_about_49 (pc' := 52) rfl (fun v5 _ hf => ?_)
      refine x_iload_n C dX7_about_52 (pc' := 53) rfl rfl rfl ?_
      refine x_iaload C hf dX7_about_53 (pc' := 54) rfl (fun v6 _ hf => ?_)
      cases hf
      exact x_iret C hr hlk dX7_about_54
    ·
      rw [if_neg hc4] at hf
      by_cases hc7 : i2 = 1
      ·
        rw [if_pos hc7] at hf
        refine x_tswIn C (i := 1) hc7 (by decide) (by decide) dX7_about_16 (off := 39) rfl (tgt := 55) (by decide) ?_
        refine x_aload_n C dX7_about_55 (pc' := 56) rfl rfl rfl ?_
        refine x_getR C (ci := 7) (kf := 5) rfl (by decide) hinX7_about_X7 lkX7_about_2 rfl hf dX7_about_56 (pc' := 59) rfl (fun v8 _ hf => ?_)
        refine x_iload_n C dX7_about_59 (pc' := 60) rfl rfl rfl ?_
        refine x_iaload C hf dX7_about_60 (pc' := 61) rfl (fun v9 _ hf => ?_)
        cases hf
        exact x_iret C hr hlk dX7_about_61
      ·
        rw [if_neg hc7] at hf
        by_cases hc10 : i2 = 2
        ·
          rw [if_pos hc10] at hf
          refine x_tswIn C (i := 2) hc10 (by decide) (by decide) dX7_about_16 (off := 46) rfl (tgt := 62) (by decide) ?_
          refine x_aload_n C dX7_about_62 (pc' := 63) rfl rfl rfl ?_
          refine x_iload_n C dX7_about_63 (pc' := 64) rfl rfl rfl ?_
          obtain ⟨r11, h12, hq, hf⟩ := call_some hf
          obtain ⟨hob, hq⟩ := oK_some hq
          refine x_callV C (As := [vI i1]) (st := []) (r := (some (vI r11))) (h' := h12) (mc := 0) (ms := 0) (k := 0) (n := 0) (mX7_isFull hq) hob (ci := 7) rfl (cwV 1 C.1.2.2.2.2 gX7_about_X7_isFull rfl rfl rfl (by decide +kernel) ⟨Nat.le_of_ble_eq_true rfl, Nat.le_of_ble_eq_true rfl⟩) rfl rfl (Nat.le_of_ble_eq_true rfl) dX7_about_64 (pc' := 67) rfl ?_
          refine x_if_eq C hf dX7_about_67 (pc' := 70) rfl (tgt := 74) (by decide) (fun _ hf => ?_) (fun _ hf => ?_)
          ·
            refine x_iconst C (v := 0) (by decide) dX7_about_74 (pc' := 75) rfl ?_
            cases hf
            exact x_iret C hr hlk dX7_about_75
          ·
            refine x_iconst C (v := 1) (by decide) dX7_about_70 (pc' := 71) rfl ?_
            refine x_goto C dX7_about_71 (tgt := 75) (by decide) ?_
            cases hf
            exact x_iret C hr hlk dX7_about_75
        ·
          rw [if_neg hc10] at hf
          by_cases hc13 : i2 = 3
          ·
            rw [if_pos hc13] at hf
            refine x_tswIn C (i := 3) hc13 (by decide) (by decide) dX7_about_16 (off := 60) rfl (tgt := 76) (by decide) ?_
            refine x_aload_n C dX7_about_76 (pc' := 77) rfl rfl rfl ?_
            refine x_iload_n C dX7_about_77 (pc' := 78) rfl rfl rfl ?_
            obtain ⟨r14, h15, hq, hf⟩ := call_some hf
            obtain ⟨hob, hq⟩ := oK_some hq
            refine x_callV C (As := [vI i1]) (st := []) (r := (some (vI r14))) (h' := h15) (mc := 0) (ms := 0) (k := 0) (n := 0) (mX7_losesNothing hq) hob (ci := 7) rfl (cwV 1 C.1.2.2.2.2 gX7_about_X7_losesNothing rfl rfl rfl (by decide +kernel) ⟨Nat.le_of_ble_eq_true rfl, Nat.le_of_ble_eq_true rfl⟩) rfl rfl (Nat.le_of_ble_eq_true rfl) dX7_about_78 (pc' := 81) rfl ?_
            refine x_if_eq C hf dX7_about_81 (pc' := 84) rfl (tgt := 88) (by decide) (fun _ hf => ?_) (fun _ hf => ?_)
            ·
              refine x_iconst C (v := 0) (by decide) dX7_about_88 (pc' := 89) rfl ?_
              cases hf
              exact x_iret C hr hlk dX7_about_89
            ·
              refine x_iconst C (v := 1) (by decide) dX7_about_84 (pc' := 85) rfl ?_
              refine x_goto C dX7_about_85 (tgt := 89) (by decide) ?_
              cases hf
              exact x_iret C hr hlk dX7_about_89
          ·
            rw [if_neg hc13] at hf
            refine x_tswOut C 4 (by decide) (fun i hi => by match i, hi with | 0, _ => exact hc4 | 1, _ => exact hc7 | 2, _ => exact hc10 | 3, _ => exact hc13 | j + 4, hi => omega) dX7_about_16 (tgt := 90) (by decide) ?_
            refine x_iconst C (v := -1) (by decide) dX7_about_90 (pc' := 91) rfl ?_
            cases hf
            exact x_iret C hr hlk dX7_about_91
-- ===== X7_tellLine
theorem lkX7_tellLine_0 : Cond.fieldLink RX7 113 "MossRingsModel" "outMany" "I" ∈ wsX7_tellLine := by decide +kernel
theorem hinX7_tellLine_X7 : ∀ w ∈ u_ws RX7 TX7 27, w ∈ wsX7_tellLine := by decide +kernel
theorem lkX7_tellLine_1 : Cond.fieldLink RX7 23 "MossRingsModel" "out" "[B" ∈ wsX7_tellLine := by decide +kernel
theorem lkX7_tellLine_2 : Cond.fieldLink RX7 49 "MossRingsModel" "by" "[I" ∈ wsX7_tellLine := by decide +kernel
theorem lkX7_tellLine_3 : Cond.fieldLink RX7 46 "MossRingsModel" "from" "[I" ∈ wsX7_tellLine := by decide +kernel
def fX7_tellLine_b58 (a0 : Nat) (h : Hp) : Option (Int32 × Hp) := (gI h a0 7 8).bind fun v1 => some (v1, h)
set_option maxHeartbeats 4000000 in
set_option maxRecDepth 100000 in
theorem mX7_tellLine_b58 {g : XG} {p : Program} {l : Launch} {e : Env} {s : State} {m : MethodId} {args : Array Value} {below : List Frame} {meth : Method} {c : Code} (C : x_C g p s m args c cX7_tellLine RX7 4 wsX7_tellLine) (hr : meth.sig.returnType = (some .int)) (hlk : meth.locks = false) (hnm : meth.name = yX7_tellLine.name) {res : Int32 × Hp} (a0 : Nat) (h : Hp) (hf : fX7_tellLine_b58 a0 h = some res) : XW g p l e { frames := 0, cells := 0, slots := 0, locals := 0 } s m args below meth c (MQ below (x_Q g (some (vI res.1)) res.2) args s 0 0 (x_A g)) 4 0 0 h 58 [some (vR a0), none, none, none] [] := by
  unfold fX7_tellLine_b58 at hf
  refine x_aload_n C dX7_tellLine_58 (pc' := 59) rfl rfl rfl ?_
  refine x_getI C (ci := 7) (kf := 8) rfl (by decide) hinX7_tellLine_X7 lkX7_tellLine_0 rfl hf dX7_tellLine_59 (pc' := 62) rfl (fun v1 _ hf => ?_)
  cases hf
  exact x_iret C hr hlk dX7_tellLine_62
def fX7_tellLine_w28 : Nat → Nat → Int32 → Int32 → Hp → Option (Int32 × Hp)
  | 0 => fun _ _ _ _ => none
  | n + 1 => fun a0 i2 i3 h => if i3 ≤ 0 then (fX7_tellLine_b58 a0 h) else ((gR h a0 7 7).bind fun v1 => (gR h a0 7 16).bind fun v2 => (aI h v2 0 i3).bind fun v3 => (sI h v1 1 (i2 + (-1)) (v3).toInt8.toInt32).bind fun h4 => (gR h4 a0 7 15).bind fun v5 => (aI h4 v5 0 i3).bind fun v6 => (fX7_tellLine_w28 n) a0 (i2 + (-1)) v6 h4)
set_option maxHeartbeats 4000000 in
set_option maxRecDepth 100000 in
theorem mX7_tellLine_w28 {g : XG} {p : Program} {l : Launch} {e : Env} {s : State} {m : MethodId} {args : Array Value} {below : List Frame} {meth : Method} {c : Code} (C : x_C g p s m args c cX7_tellLine RX7 4 wsX7_tellLine) (hr : meth.sig.returnType = (some .int)) (hlk : meth.locks = false) (hnm : meth.name = yX7_tellLine.name) {res : Int32 × Hp} : ∀ (n : Nat) (a0 : Nat) (i2 : Int32) (i3 : Int32) (h : Hp), fX7_tellLine_w28 n a0 i2 i3 h = some res → XW g p l e { frames := 0, cells := 0, slots := 0, locals := 0 } s m args below meth c (MQ below (x_Q g (some (vI res.1)) res.2) args s 0 0 (x_A g)) 4 0 0 h 28 [some (vR a0), none, some (vI i2), some (vI i3)] [] := by
  intro n
  induction n with
  | zero =>
    intro a0 i2 i3 h hf
    have hf2 : (none : Option (Int32 × Hp)) = some res := hf
    cases hf2
  | succ n ih =>
    intro a0 i2 i3 h hf
    rw [fX7_tellLine_w28] at hf
    refine x_iload_n C dX7_tellLine_28 (pc' := 29) rfl rfl rfl ?_
    refine x_if_le C hf dX7_tellLine_29 (pc' := 32) rfl (tgt := 58) (by decide) (fun _ hf => ?_) (fun _ hf => ?_)
    ·
      refine x_keep [true, false, false, false] rfl ?_
      refine x_more (k' := 0) (n' := 0) (Nat.le_of_ble_eq_true rfl) (Nat.le_of_ble_eq_true rfl) ?_
      exact mX7_tellLine_b58 C hr hlk hnm a0 h hf
    ·
      refine x_iinc C dX7_tellLine_32 (pc' := 35) rfl rfl (v := (i2 + (-1))) rfl (by decide) rfl (lv' := [some (vR a0), none, some (vI (i2 + (-1))), some (vI i3)]) rfl ?_
      refine x_aload_n C dX7_tellLine_35 (pc' := 36) rfl rfl rfl ?_
      refine x_getR C (ci := 7) (kf := 7) rfl (by decide) hinX7_tellLine_X7 lkX7_tellLine_1 rfl hf dX7_tellLine_36 (pc' := 39) rfl (fun v1 _ hf => ?_)
      refine x_iload_n C dX7_tellLine_39 (pc' := 40) rfl rfl rfl ?_
      refine x_aload_n C dX7_tellLine_40 (pc' := 41) rfl rfl rfl ?_
      refine x_getR C (ci := 7) (kf := 16) rfl (by decide) hinX7_tellLine_X7 lkX7_tellLine_2 rfl hf dX7_tellLine_41 (pc' := 44) rfl (fun v2 _ hf => ?_)
      refine x_iload_n C dX7_tellLine_44 (pc' := 45) rfl rfl rfl ?_
      refine x_iaload C hf dX7_tellLine_45 (pc' := 46) rfl (fun v3 _ hf => ?_)
      refine x_i2b C dX7_tellLine_46 (pc' := 47) rfl ?_
      refine x_bastoreB C hf dX7_tellLine_47 (pc' := 48) rfl (fun h4 _ hf => ?_)
      refine x_aload_n C dX7_tellLine_48 (pc' := 49) rfl rfl rfl ?_
      refine x_getR C (ci := 7) (kf := 15) rfl (by decide) hinX7_tellLine_X7 lkX7_tellLine_3 rfl hf dX7_tellLine_49 (pc' := 52) rfl (fun v5 _ hf => ?_)
      refine x_iload_n C dX7_tellLine_52 (pc' := 53) rfl rfl rfl ?_
      refine x_iaload C hf dX7_tellLine_53 (pc' := 54) rfl (fun v6 _ hf => ?_)
      refine x_istore_n C dX7_tellLine_54 (pc' := 55) rfl rfl (by decide) rfl (lv' := [some (vR a0), none, some (vI (i2 + (-1))), some (vI v6)]) rfl ?_
      refine x_goto C dX7_tellLine_55 (tgt := 28) (by decide) ?_
      exact ih a0 (i2 + (-1)) v6 h4 hf
def fX7_tellLine_b21 (a0 : Nat) (i1 : Int32) (i2 : Int32) (h : Hp) : Option (Int32 × Hp) := (pF h a0 7 8 (vI i2)).bind fun h1 => fX7_tellLine_w28 FUEL a0 i2 i1 h1
set_option maxHeartbeats 4000000 in
set_option maxRecDepth 100000 in
theorem mX7_tellLine_b21 {g : XG} {p : Program} {l : Launch} {e : Env} {s : State} {m : MethodId} {args : Array Value} {below : List Frame} {meth : Method} {c : Code} (C : x_C g p s m args c cX7_tellLine RX7 4 wsX7_tellLine) (hr : meth.sig.returnType = (some .int)) (hlk : meth.locks = false) (hnm : meth.name = yX7_tellLine.name) {res : Int32 × Hp} (a0 : Nat) (i1 : Int32) (i2 : Int32) (h : Hp) (hf : fX7_tellLine_b21 a0 i1 i2 h = some res) : XW g p l e { frames := 0, cells := 0, slots := 0, locals := 0 } s m args below meth c (MQ below (x_Q g (some (vI res.1)) res.2) args s 0 0 (x_A g)) 4 0 0 h 21 [some (vR a0), some (vI i1), some (vI i2), none] [] := by
  unfold fX7_tellLine_b21 at hf
  refine x_aload_n C dX7_tellLine_21 (pc' := 22) rfl rfl rfl ?_
  refine x_iload_n C dX7_tellLine_22 (pc' := 23) rfl rfl rfl ?_
  refine x_put C (ci := 7) (kf := 8) rfl (by decide) hinX7_tellLine_X7 tyX7 tyX7_ok nmX7 lkX7_tellLine_0 rfl (Or.inl rfl) rfl hf dX7_tellLine_23 (pc' := 26) rfl (fun h1 _ hf => ?_)
  refine x_iload_n C dX7_tellLine_26 (pc' := 27) rfl rfl rfl ?_
  refine x_istore_n C dX7_tellLine_27 (pc' := 28) rfl rfl (by decide) rfl (lv' := [some (vR a0), some (vI i1), some (vI i2), some (vI i1)]) rfl ?_
  refine x_keep [true, false, true, true] rfl ?_
  refine x_more (k' := 0) (n' := 0) (Nat.le_of_ble_eq_true rfl) (Nat.le_of_ble_eq_true rfl) ?_
  exact mX7_tellLine_w28 C hr hlk hnm FUEL a0 i2 i1 h1 hf
def fX7_tellLine_w4 : Nat → Nat → Int32 → Int32 → Int32 → Hp → Option (Int32 × Hp)
  | 0 => fun _ _ _ _ _ => none
  | n + 1 => fun a0 i1 i2 i3 h => if i3 ≤ 0 then (fX7_tellLine_b21 a0 i1 i2 h) else ((gR h a0 7 15).bind fun v1 => (aI h v1 0 i3).bind fun v2 => (fX7_tellLine_w4 n) a0 i1 (i2 + 1) v2 h)
set_option maxHeartbeats 4000000 in
set_option maxRecDepth 100000 in
theorem mX7_tellLine_w4 {g : XG} {p : Program} {l : Launch} {e : Env} {s : State} {m : MethodId} {args : Array Value} {below : List Frame} {meth : Method} {c : Code} (C : x_C g p s m args c cX7_tellLine RX7 4 wsX7_tellLine) (hr : meth.sig.returnType = (some .int)) (hlk : meth.locks = false) (hnm : meth.name = yX7_tellLine.name) {res : Int32 × Hp} : ∀ (n : Nat) (a0 : Nat) (i1 : Int32) (i2 : Int32) (i3 : Int32) (h : Hp), fX7_tellLine_w4 n a0 i1 i2 i3 h = some res → XW g p l e { frames := 0, cells := 0, slots := 0, locals := 0 } s m args below meth c (MQ below (x_Q g (some (vI res.1)) res.2) args s 0 0 (x_A g)) 4 0 0 h 4 [some (vR a0), some (vI i1), some (vI i2), some (vI i3)] [] := by
  intro n
  induction n with
  | zero =>
    intro a0 i1 i2 i3 h hf
    have hf2 : (none : Option (Int32 × Hp)) = some res := hf
    cases hf2
  | succ n ih =>
    intro a0 i1 i2 i3 h hf
    rw [fX7_tellLine_w4] at hf
    refine x_iload_n C dX7_tellLine_4 (pc' := 5) rfl rfl rfl ?_
    refine x_if_le C hf dX7_tellLine_5 (pc' := 8) rfl (tgt := 21) (by decide) (fun _ hf => ?_) (fun _ hf => ?_)
    ·
      refine x_keep [true, true, true, false] rfl ?_
      refine x_more (k' := 0) (n' := 0) (Nat.le_of_ble_eq_true rfl) (Nat.le_of_ble_eq_true rfl) ?_
      exact mX7_tellLine_b21 C hr hlk hnm a0 i1 i2 h hf
    ·
      refine x_iinc C dX7_tellLine_8 (pc' := 11) rfl rfl (v := (i2 + 1)) rfl (by decide) rfl (lv' := [some (vR a0), some (vI i1), some (vI (i2 + 1)), some (vI i3)]) rfl ?_
      refine x_aload_n C dX7_tellLine_11 (pc' := 12) rfl rfl rfl ?_
      refine x_getR C (ci := 7) (kf := 15) rfl (by decide) hinX7_tellLine_X7 lkX7_tellLine_3 rfl hf dX7_tellLine_12 (pc' := 15) rfl (fun v1 _ hf => ?_)
      refine x_iload_n C dX7_tellLine_15 (pc' := 16) rfl rfl rfl ?_
      refine x_iaload C hf dX7_tellLine_16 (pc' := 17) rfl (fun v2 _ hf => ?_)
      refine x_istore_n C dX7_tellLine_17 (pc' := 18) rfl rfl (by decide) rfl (lv' := [some (vR a0), some (vI i1), some (vI (i2 + 1)), some (vI v2)]) rfl ?_
      refine x_goto C dX7_tellLine_18 (tgt := 4) (by decide) ?_
      exact ih a0 i1 (i2 + 1) v2 h hf
def fX7_tellLine (h : Hp) (a0 : Nat) (i1 : Int32) : Option (Int32 × Hp) := fX7_tellLine_w4 FUEL a0 i1 (0 : Int32) i1 h
set_option maxHeartbeats 4000000 in
set_option maxRecDepth 100000 in
theorem mX7_tellLine {l : Launch} {g : XG} {h : Hp} {a0 : Nat} {i1 : Int32} {res : Int32 × Hp} (hf : fX7_tellLine h a0 i1 = some res) : XM l g yX7_tellLine wsX7_tellLine 0 0 0 0 [vR a0, vI i1] h (some (vI res.1)) res.2 := by
  refine x_start (cc := cX7_tellLine) (maxL := 4) (ret := (some .int)) (by decide) rfl (Nat.le_of_ble_eq_true rfl) (lv := [some (vR a0), some (vI i1), none, none]) rfl ?_
  intro p e s m args below meth c C hr hlk hnm
  unfold fX7_tellLine at hf
  refine x_iconst C (v := 0) (by decide) dX7_tellLine_0 (pc' := 1) rfl ?_
  refine x_istore_n C dX7_tellLine_1 (pc' := 2) rfl rfl (by decide) rfl (lv' := [some (vR a0), some (vI i1), some (vI (0 : Int32)), none]) rfl ?_
  refine x_iload_n C dX7_tellLine_2 (pc' := 3) rfl rfl rfl ?_
  refine x_istore_n C dX7_tellLine_3 (pc' := 4) rfl rfl (by decide) rfl (lv' := [some (vR a0), some (vI i1), some (vI (0 : Int32)), some (vI i1)]) rfl ?_
  refine x_more (k' := 0) (n' := 0) (Nat.le_of_ble_eq_true rfl) (Nat.le_of_ble_eq_true rfl) ?_
  exact mX7_tellLine_w4 C hr hlk hnm FUEL a0 i1 (0 : Int32) i1 h hf
-- ===== X7_missed
theorem lkX7_missed_0 : Cond.fieldLink RX7 52 "MossRingsModel" "met" "[Z" ∈ wsX7_missed := by decide +kernel
theorem hinX7_missed_X7 : ∀ w ∈ u_ws RX7 TX7 27, w ∈ wsX7_missed := by decide +kernel
theorem lkX7_missed_1 : Cond.fieldLink RX7 43 "MossRingsModel" "line" "[I" ∈ wsX7_missed := by decide +kernel
theorem lkX7_missed_2 : Cond.fieldLink RX7 46 "MossRingsModel" "from" "[I" ∈ wsX7_missed := by decide +kernel
theorem lkX7_missed_3 : Cond.fieldLink RX7 49 "MossRingsModel" "by" "[I" ∈ wsX7_missed := by decide +kernel
theorem lkX7_missed_4 : Cond.fieldLink RX7 13 "MossRingsModel" "states" "[I" ∈ wsX7_missed := by decide +kernel
theorem lkX7_missed_5 : Cond.fieldLink RX7 80 "MossRingsModel" "thrown" "I" ∈ wsX7_missed := by decide +kernel
def fX7_missed_b250 (w71 : Nat → Int32 → Int32 → Int32 → Int32 → Hp → Option (Int32 × Hp)) (a0 : Nat) (i1 : Int32) (i2 : Int32) (i3 : Int32) (i4 : Int32) (h : Hp) : Option (Int32 × Hp) := w71 a0 i1 i2 i3 (i4 + 1) h
set_option maxHeartbeats 4000000 in
set_option maxRecDepth 100000 in
theorem mX7_missed_b250 {g : XG} {p : Program} {l : Launch} {e : Env} {s : State} {m : MethodId} {args : Array Value} {below : List Frame} {meth : Method} {c : Code} (C : x_C g p s m args c cX7_missed RX7 9 wsX7_missed) (hr : meth.sig.returnType = (some .int)) (hlk : meth.locks = false) (hnm : meth.name = yX7_missed.name) {res : Int32 × Hp} (w71 : Nat → Int32 → Int32 → Int32 → Int32 → Hp → Option (Int32 × Hp)) (hw71 : ∀ (a0 : Nat) (i1 : Int32) (i2 : Int32) (i3 : Int32) (i4 : Int32) (h : Hp), w71 a0 i1 i2 i3 i4 h = some res → XW g p l e { frames := 3, cells := 0, slots := 0, locals := 67 } s m args below meth c (MQ below (x_Q g (some (vI res.1)) res.2) args s 0 0 (x_A g)) 9 0 0 h 71 [some (vR a0), some (vI i1), some (vI i2), some (vI i3), some (vI i4), none, none, none, none] []) (a0 : Nat) (i1 : Int32) (i2 : Int32) (i3 : Int32) (i4 : Int32) (h : Hp) (hf : fX7_missed_b250 w71 a0 i1 i2 i3 i4 h = some res) : XW g p l e { frames := 3, cells := 0, slots := 0, locals := 67 } s m args below meth c (MQ below (x_Q g (some (vI res.1)) res.2) args s 0 0 (x_A g)) 9 0 0 h 250 [some (vR a0), some (vI i1), some (vI i2), some (vI i3), some (vI i4), none, none, none, none] [] := by
  unfold fX7_missed_b250 at hf
  refine x_iinc C dX7_missed_250 (pc' := 253) rfl rfl (v := (i4 + 1)) rfl (by decide) rfl (lv' := [some (vR a0), some (vI i1), some (vI i2), some (vI i3), some (vI (i4 + 1)), none, none, none, none]) rfl ?_
  refine x_goto C dX7_missed_253 (tgt := 71) (by decide) ?_
  exact hw71 a0 i1 i2 i3 (i4 + 1) h hf
def fX7_missed_b244 (w71 : Nat → Int32 → Int32 → Int32 → Int32 → Hp → Option (Int32 × Hp)) (w80 : Nat → Int32 → Int32 → Int32 → Int32 → Int32 → Hp → Option (Int32 × Hp)) (a0 : Nat) (i1 : Int32) (i2 : Int32) (i3 : Int32) (i4 : Int32) (i5 : Int32) (h : Hp) : Option (Int32 × Hp) := w80 a0 i1 i2 i3 i4 (i5 + 1) h
set_option maxHeartbeats 4000000 in
set_option maxRecDepth 100000 in
theorem mX7_missed_b244 {g : XG} {p : Program} {l : Launch} {e : Env} {s : State} {m : MethodId} {args : Array Value} {below : List Frame} {meth : Method} {c : Code} (C : x_C g p s m args c cX7_missed RX7 9 wsX7_missed) (hr : meth.sig.returnType = (some .int)) (hlk : meth.locks = false) (hnm : meth.name = yX7_missed.name) {res : Int32 × Hp} (w71 : Nat → Int32 → Int32 → Int32 → Int32 → Hp → Option (Int32 × Hp)) (hw71 : ∀ (a0 : Nat) (i1 : Int32) (i2 : Int32) (i3 : Int32) (i4 : Int32) (h : Hp), w71 a0 i1 i2 i3 i4 h = some res → XW g p l e { frames := 3, cells := 0, slots := 0, locals := 67 } s m args below meth c (MQ below (x_Q g (some (vI res.1)) res.2) args s 0 0 (x_A g)) 9 0 0 h 71 [some (vR a0), some (vI i1), some (vI i2), some (vI i3), some (vI i4), none, none, none, none] []) (w80 : Nat → Int32 → Int32 → Int32 → Int32 → Int32 → Hp → Option (Int32 × Hp)) (hw80 : ∀ (a0 : Nat) (i1 : Int32) (i2 : Int32) (i3 : Int32) (i4 : Int32) (i5 : Int32) (h : Hp), w80 a0 i1 i2 i3 i4 i5 h = some res → XW g p l e { frames := 3, cells := 0, slots := 0, locals := 67 } s m args below meth c (MQ below (x_Q g (some (vI res.1)) res.2) args s 0 0 (x_A g)) 9 0 0 h 80 [some (vR a0), some (vI i1), some (vI i2), some (vI i3), some (vI i4), some (vI i5), none, none, none] []) (a0 : Nat) (i1 : Int32) (i2 : Int32) (i3 : Int32) (i4 : Int32) (i5 : Int32) (h : Hp) (hf : fX7_missed_b244 w71 w80 a0 i1 i2 i3 i4 i5 h = some res) : XW g p l e { frames := 3, cells := 0, slots := 0, locals := 67 } s m args below meth c (MQ below (x_Q g (some (vI res.1)) res.2) args s 0 0 (x_A g)) 9 0 0 h 244 [some (vR a0), some (vI i1), some (vI i2), some (vI i3), some (vI i4), some (vI i5), none, none, none] [] := by
  unfold fX7_missed_b244 at hf
  refine x_iinc C dX7_missed_244 (pc' := 247) rfl rfl (v := (i5 + 1)) rfl (by decide) rfl (lv' := [some (vR a0), some (vI i1), some (vI i2), some (vI i3), some (vI i4), some (vI (i5 + 1)), none, none, none]) rfl ?_
  refine x_goto C dX7_missed_247 (tgt := 80) (by decide) ?_
  exact hw80 a0 i1 i2 i3 i4 (i5 + 1) h hf
def fX7_missed_b236 (a0 : Nat) (i3 : Int32) (h : Hp) : Option (Int32 × Hp) := call (oK h a0 7 (fX7_tellLine h a0 (i3 - (1 : Int32)))) fun r1 h2 => some (r1, h2)
set_option maxHeartbeats 4000000 in
set_option maxRecDepth 100000 in
theorem mX7_missed_b236 {g : XG} {p : Program} {l : Launch} {e : Env} {s : State} {m : MethodId} {args : Array Value} {below : List Frame} {meth : Method} {c : Code} (C : x_C g p s m args c cX7_missed RX7 9 wsX7_missed) (hr : meth.sig.returnType = (some .int)) (hlk : meth.locks = false) (hnm : meth.name = yX7_missed.name) {res : Int32 × Hp} (a0 : Nat) (i3 : Int32) (h : Hp) (hf : fX7_missed_b236 a0 i3 h = some res) : XW g p l e { frames := 3, cells := 0, slots := 0, locals := 67 } s m args below meth c (MQ below (x_Q g (some (vI res.1)) res.2) args s 0 0 (x_A g)) 9 0 0 h 236 [some (vR a0), none, none, some (vI i3), none, none, none, none, none] [] := by
  unfold fX7_missed_b236 at hf
  refine x_aload_n C dX7_missed_236 (pc' := 237) rfl rfl rfl ?_
  refine x_iload_n C dX7_missed_237 (pc' := 238) rfl rfl rfl ?_
  refine x_iconst C (v := 1) (by decide) dX7_missed_238 (pc' := 239) rfl ?_
  refine x_isub C dX7_missed_239 (pc' := 240) rfl ?_
  obtain ⟨r1, h2, hq, hf⟩ := call_some hf
  obtain ⟨hob, hq⟩ := oK_some hq
  refine x_callV C (As := [vI (i3 - (1 : Int32))]) (st := []) (r := (some (vI r1))) (h' := h2) (mc := 0) (ms := 0) (k := 0) (n := 0) (mX7_tellLine hq) hob (ci := 7) rfl (cwV 1 C.1.2.2.2.2 gX7_missed_X7_tellLine rfl rfl rfl (by decide +kernel) ⟨Nat.le_of_ble_eq_true rfl, Nat.le_of_ble_eq_true rfl⟩) rfl rfl (Nat.le_of_ble_eq_true rfl) dX7_missed_240 (pc' := 243) rfl ?_
  cases hf
  exact x_iret C hr hlk dX7_missed_243
def fX7_missed_b183 (w71 : Nat → Int32 → Int32 → Int32 → Int32 → Hp → Option (Int32 × Hp)) (w80 : Nat → Int32 → Int32 → Int32 → Int32 → Int32 → Hp → Option (Int32 × Hp)) (a0 : Nat) (i1 : Int32) (i2 : Int32) (i3 : Int32) (i4 : Int32) (i5 : Int32) (i6 : Int32) (h : Hp) : Option (Int32 × Hp) := (gR h a0 7 17).bind fun v1 => (aI h v1 2 i6).bind fun v2 => if v2 = 0 then ((gR h a0 7 17).bind fun v3 => (sI h v3 2 i6 (1 : Int32)).bind fun h4 => (gR h4 a0 7 14).bind fun v5 => (sI h4 v5 0 i3 i6).bind fun h6 => (gR h6 a0 7 15).bind fun v7 => (sI h6 v7 0 i3 i4).bind fun h8 => (gR h8 a0 7 16).bind fun v9 => (sI h8 v9 0 i3 i5).bind fun h10 => if i6 = 0 then (fX7_missed_b236 a0 (i3 + 1) h10) else (fX7_missed_b244 w71 w80 a0 i1 i2 (i3 + 1) i4 i5 h10)) else (fX7_missed_b244 w71 w80 a0 i1 i2 i3 i4 i5 h)
set_option maxHeartbeats 4000000 in
set_option maxRecDepth 100000 in
theorem mX7_missed_b183 {g : XG} {p : Program} {l : Launch} {e : Env} {s : State} {m : MethodId} {args : Array Value} {below : List Frame} {meth : Method} {c : Code} (C : x_C g p s m args c cX7_missed RX7 9 wsX7_missed) (hr : meth.sig.returnType = (some .int)) (hlk : meth.locks = false) (hnm : meth.name = yX7_missed.name) {res : Int32 × Hp} (w71 : Nat → Int32 → Int32 → Int32 → Int32 → Hp → Option (Int32 × Hp)) (hw71 : ∀ (a0 : Nat) (i1 : Int32) (i2 : Int32) (i3 : Int32) (i4 : Int32) (h : Hp), w71 a0 i1 i2 i3 i4 h = some res → XW g p l e { frames := 3, cells := 0, slots := 0, locals := 67 } s m args below meth c (MQ below (x_Q g (some (vI res.1)) res.2) args s 0 0 (x_A g)) 9 0 0 h 71 [some (vR a0), some (vI i1), some (vI i2), some (vI i3), some (vI i4), none, none, none, none] []) (w80 : Nat → Int32 → Int32 → Int32 → Int32 → Int32 → Hp → Option (Int32 × Hp)) (hw80 : ∀ (a0 : Nat) (i1 : Int32) (i2 : Int32) (i3 : Int32) (i4 : Int32) (i5 : Int32) (h : Hp), w80 a0 i1 i2 i3 i4 i5 h = some res → XW g p l e { frames := 3, cells := 0, slots := 0, locals := 67 } s m args below meth c (MQ below (x_Q g (some (vI res.1)) res.2) args s 0 0 (x_A g)) 9 0 0 h 80 [some (vR a0), some (vI i1), some (vI i2), some (vI i3), some (vI i4), some (vI i5), none, none, none] []) (a0 : Nat) (i1 : Int32) (i2 : Int32) (i3 : Int32) (i4 : Int32) (i5 : Int32) (i6 : Int32) (h : Hp) (hf : fX7_missed_b183 w71 w80 a0 i1 i2 i3 i4 i5 i6 h = some res) : XW g p l e { frames := 3, cells := 0, slots := 0, locals := 67 } s m args below meth c (MQ below (x_Q g (some (vI res.1)) res.2) args s 0 0 (x_A g)) 9 0 0 h 183 [some (vR a0), some (vI i1), some (vI i2), some (vI i3), some (vI i4), some (vI i5), some (vI i6), none, none] [] := by
  unfold fX7_missed_b183 at hf
  refine x_aload_n C dX7_missed_183 (pc' := 184) rfl rfl rfl ?_
  refine x_getR C (ci := 7) (kf := 17) rfl (by decide) hinX7_missed_X7 lkX7_missed_0 rfl hf dX7_missed_184 (pc' := 187) rfl (fun v1 _ hf => ?_)
  refine x_iload C dX7_missed_187 (pc' := 189) rfl rfl ?_
  refine x_baloadZ C hf dX7_missed_189 (pc' := 190) rfl (fun v2 _ hf => ?_)
  refine x_if_eq C hf dX7_missed_190 (pc' := 193) rfl (tgt := 196) (by decide) (fun _ hf => ?_) (fun _ hf => ?_)
  ·
    refine x_aload_n C dX7_missed_196 (pc' := 197) rfl rfl rfl ?_
    refine x_getR C (ci := 7) (kf := 17) rfl (by decide) hinX7_missed_X7 lkX7_missed_0 rfl hf dX7_missed_197 (pc' := 200) rfl (fun v3 _ hf => ?_)
    refine x_iload C dX7_missed_200 (pc' := 202) rfl rfl ?_
    refine x_iconst C (v := 1) (by decide) dX7_missed_202 (pc' := 203) rfl ?_
    refine x_bastoreZ C hf dX7_missed_203 (pc' := 204) rfl (fun h4 _ hf => ?_)
    refine x_aload_n C dX7_missed_204 (pc' := 205) rfl rfl rfl ?_
    refine x_getR C (ci := 7) (kf := 14) rfl (by decide) hinX7_missed_X7 lkX7_missed_1 rfl hf dX7_missed_205 (pc' := 208) rfl (fun v5 _ hf => ?_)
    refine x_iload_n C dX7_missed_208 (pc' := 209) rfl rfl rfl ?_
    refine x_iload C dX7_missed_209 (pc' := 211) rfl rfl ?_
    refine x_iastore C hf dX7_missed_211 (pc' := 212) rfl (fun h6 _ hf => ?_)
    refine x_aload_n C dX7_missed_212 (pc' := 213) rfl rfl rfl ?_
    refine x_getR C (ci := 7) (kf := 15) rfl (by decide) hinX7_missed_X7 lkX7_missed_2 rfl hf dX7_missed_213 (pc' := 216) rfl (fun v7 _ hf => ?_)
    refine x_iload_n C dX7_missed_216 (pc' := 217) rfl rfl rfl ?_
    refine x_iload C dX7_missed_217 (pc' := 219) rfl rfl ?_
    refine x_iastore C hf dX7_missed_219 (pc' := 220) rfl (fun h8 _ hf => ?_)
    refine x_aload_n C dX7_missed_220 (pc' := 221) rfl rfl rfl ?_
    refine x_getR C (ci := 7) (kf := 16) rfl (by decide) hinX7_missed_X7 lkX7_missed_3 rfl hf dX7_missed_221 (pc' := 224) rfl (fun v9 _ hf => ?_)
    refine x_iload_n C dX7_missed_224 (pc' := 225) rfl rfl rfl ?_
    refine x_iload C dX7_missed_225 (pc' := 227) rfl rfl ?_
    refine x_iastore C hf dX7_missed_227 (pc' := 228) rfl (fun h10 _ hf => ?_)
    refine x_iinc C dX7_missed_228 (pc' := 231) rfl rfl (v := (i3 + 1)) rfl (by decide) rfl (lv' := [some (vR a0), some (vI i1), some (vI i2), some (vI (i3 + 1)), some (vI i4), some (vI i5), some (vI i6), none, none]) rfl ?_
    refine x_iload C dX7_missed_231 (pc' := 233) rfl rfl ?_
    refine x_if_ne C hf dX7_missed_233 (pc' := 236) rfl (tgt := 244) (by decide) (fun _ hf => ?_) (fun _ hf => ?_)
    ·
      refine x_keep [true, false, false, true, false, false, false, false, false] rfl ?_
      refine x_more (k' := 0) (n' := 0) (Nat.le_of_ble_eq_true rfl) (Nat.le_of_ble_eq_true rfl) ?_
      exact mX7_missed_b236 C hr hlk hnm a0 (i3 + 1) h10 hf
    ·
      refine x_keep [true, true, true, true, true, true, false, false, false] rfl ?_
      refine x_more (k' := 0) (n' := 0) (Nat.le_of_ble_eq_true rfl) (Nat.le_of_ble_eq_true rfl) ?_
      exact mX7_missed_b244 C hr hlk hnm w71 hw71 w80 hw80 a0 i1 i2 (i3 + 1) i4 i5 h10 hf
  ·
    refine x_goto C dX7_missed_193 (tgt := 244) (by decide) ?_
    refine x_keep [true, true, true, true, true, true, false, false, false] rfl ?_
    refine x_more (k' := 0) (n' := 0) (Nat.le_of_ble_eq_true rfl) (Nat.le_of_ble_eq_true rfl) ?_
    exact mX7_missed_b244 C hr hlk hnm w71 hw71 w80 hw80 a0 i1 i2 i3 i4 i5 h hf
def fX7_missed_b177 (w71 : Nat → Int32 → Int32 → Int32 → Int32 → Hp → Option (Int32 × Hp)) (w80 : Nat → Int32 → Int32 → Int32 → Int32 → Int32 → Hp → Option (Int32 × Hp)) (w97 : Nat → Int32 → Int32 → Int32 → Int32 → Int32 → Int32 → Int32 → Hp → Option (Int32 × Hp)) (a0 : Nat) (i1 : Int32) (i2 : Int32) (i3 : Int32) (i4 : Int32) (i5 : Int32) (i6 : Int32) (i7 : Int32) (h : Hp) : Option (Int32 × Hp) := w97 a0 i1 i2 i3 i4 i5 i6 (i7 + 1) h
set_option maxHeartbeats 4000000 in
set_option maxRecDepth 100000 in
theorem mX7_missed_b177 {g : XG} {p : Program} {l : Launch} {e : Env} {s : State} {m : MethodId} {args : Array Value} {below : List Frame} {meth : Method} {c : Code} (C : x_C g p s m args c cX7_missed RX7 9 wsX7_missed) (hr : meth.sig.returnType = (some .int)) (hlk : meth.locks = false) (hnm : meth.name = yX7_missed.name) {res : Int32 × Hp} (w71 : Nat → Int32 → Int32 → Int32 → Int32 → Hp → Option (Int32 × Hp)) (hw71 : ∀ (a0 : Nat) (i1 : Int32) (i2 : Int32) (i3 : Int32) (i4 : Int32) (h : Hp), w71 a0 i1 i2 i3 i4 h = some res → XW g p l e { frames := 3, cells := 0, slots := 0, locals := 67 } s m args below meth c (MQ below (x_Q g (some (vI res.1)) res.2) args s 0 0 (x_A g)) 9 0 0 h 71 [some (vR a0), some (vI i1), some (vI i2), some (vI i3), some (vI i4), none, none, none, none] []) (w80 : Nat → Int32 → Int32 → Int32 → Int32 → Int32 → Hp → Option (Int32 × Hp)) (hw80 : ∀ (a0 : Nat) (i1 : Int32) (i2 : Int32) (i3 : Int32) (i4 : Int32) (i5 : Int32) (h : Hp), w80 a0 i1 i2 i3 i4 i5 h = some res → XW g p l e { frames := 3, cells := 0, slots := 0, locals := 67 } s m args below meth c (MQ below (x_Q g (some (vI res.1)) res.2) args s 0 0 (x_A g)) 9 0 0 h 80 [some (vR a0), some (vI i1), some (vI i2), some (vI i3), some (vI i4), some (vI i5), none, none, none] []) (w97 : Nat → Int32 → Int32 → Int32 → Int32 → Int32 → Int32 → Int32 → Hp → Option (Int32 × Hp)) (hw97 : ∀ (a0 : Nat) (i1 : Int32) (i2 : Int32) (i3 : Int32) (i4 : Int32) (i5 : Int32) (i6 : Int32) (i7 : Int32) (h : Hp), w97 a0 i1 i2 i3 i4 i5 i6 i7 h = some res → XW g p l e { frames := 3, cells := 0, slots := 0, locals := 67 } s m args below meth c (MQ below (x_Q g (some (vI res.1)) res.2) args s 0 0 (x_A g)) 9 0 0 h 97 [some (vR a0), some (vI i1), some (vI i2), some (vI i3), some (vI i4), some (vI i5), some (vI i6), some (vI i7), none] []) (a0 : Nat) (i1 : Int32) (i2 : Int32) (i3 : Int32) (i4 : Int32) (i5 : Int32) (i6 : Int32) (i7 : Int32) (h : Hp) (hf : fX7_missed_b177 w71 w80 w97 a0 i1 i2 i3 i4 i5 i6 i7 h = some res) : XW g p l e { frames := 3, cells := 0, slots := 0, locals := 67 } s m args below meth c (MQ below (x_Q g (some (vI res.1)) res.2) args s 0 0 (x_A g)) 9 0 0 h 177 [some (vR a0), some (vI i1), some (vI i2), some (vI i3), some (vI i4), some (vI i5), some (vI i6), some (vI i7), none] [] := by
  unfold fX7_missed_b177 at hf
  refine x_iinc C dX7_missed_177 (pc' := 180) rfl rfl (v := (i7 + 1)) rfl (by decide) rfl (lv' := [some (vR a0), some (vI i1), some (vI i2), some (vI i3), some (vI i4), some (vI i5), some (vI i6), some (vI (i7 + 1)), none]) rfl ?_
  refine x_goto C dX7_missed_180 (tgt := 97) (by decide) ?_
  exact hw97 a0 i1 i2 i3 i4 i5 i6 (i7 + 1) h hf
def fX7_missed_b171 (w71 : Nat → Int32 → Int32 → Int32 → Int32 → Hp → Option (Int32 × Hp)) (w80 : Nat → Int32 → Int32 → Int32 → Int32 → Int32 → Hp → Option (Int32 × Hp)) (w97 : Nat → Int32 → Int32 → Int32 → Int32 → Int32 → Int32 → Int32 → Hp → Option (Int32 × Hp)) (w106 : Nat → Int32 → Int32 → Int32 → Int32 → Int32 → Int32 → Int32 → Int32 → Hp → Option (Int32 × Hp)) (a0 : Nat) (i1 : Int32) (i2 : Int32) (i3 : Int32) (i4 : Int32) (i5 : Int32) (i6 : Int32) (i7 : Int32) (i8 : Int32) (h : Hp) : Option (Int32 × Hp) := w106 a0 i1 i2 i3 i4 i5 i6 i7 (i8 + 1) h
set_option maxHeartbeats 4000000 in
set_option maxRecDepth 100000 in
theorem mX7_missed_b171 {g : XG} {p : Program} {l : Launch} {e : Env} {s : State} {m : MethodId} {args : Array Value} {below : List Frame} {meth : Method} {c : Code} (C : x_C g p s m args c cX7_missed RX7 9 wsX7_missed) (hr : meth.sig.returnType = (some .int)) (hlk : meth.locks = false) (hnm : meth.name = yX7_missed.name) {res : Int32 × Hp} (w71 : Nat → Int32 → Int32 → Int32 → Int32 → Hp → Option (Int32 × Hp)) (hw71 : ∀ (a0 : Nat) (i1 : Int32) (i2 : Int32) (i3 : Int32) (i4 : Int32) (h : Hp), w71 a0 i1 i2 i3 i4 h = some res → XW g p l e { frames := 3, cells := 0, slots := 0, locals := 67 } s m args below meth c (MQ below (x_Q g (some (vI res.1)) res.2) args s 0 0 (x_A g)) 9 0 0 h 71 [some (vR a0), some (vI i1), some (vI i2), some (vI i3), some (vI i4), none, none, none, none] []) (w80 : Nat → Int32 → Int32 → Int32 → Int32 → Int32 → Hp → Option (Int32 × Hp)) (hw80 : ∀ (a0 : Nat) (i1 : Int32) (i2 : Int32) (i3 : Int32) (i4 : Int32) (i5 : Int32) (h : Hp), w80 a0 i1 i2 i3 i4 i5 h = some res → XW g p l e { frames := 3, cells := 0, slots := 0, locals := 67 } s m args below meth c (MQ below (x_Q g (some (vI res.1)) res.2) args s 0 0 (x_A g)) 9 0 0 h 80 [some (vR a0), some (vI i1), some (vI i2), some (vI i3), some (vI i4), some (vI i5), none, none, none] []) (w97 : Nat → Int32 → Int32 → Int32 → Int32 → Int32 → Int32 → Int32 → Hp → Option (Int32 × Hp)) (hw97 : ∀ (a0 : Nat) (i1 : Int32) (i2 : Int32) (i3 : Int32) (i4 : Int32) (i5 : Int32) (i6 : Int32) (i7 : Int32) (h : Hp), w97 a0 i1 i2 i3 i4 i5 i6 i7 h = some res → XW g p l e { frames := 3, cells := 0, slots := 0, locals := 67 } s m args below meth c (MQ below (x_Q g (some (vI res.1)) res.2) args s 0 0 (x_A g)) 9 0 0 h 97 [some (vR a0), some (vI i1), some (vI i2), some (vI i3), some (vI i4), some (vI i5), some (vI i6), some (vI i7), none] []) (w106 : Nat → Int32 → Int32 → Int32 → Int32 → Int32 → Int32 → Int32 → Int32 → Hp → Option (Int32 × Hp)) (hw106 : ∀ (a0 : Nat) (i1 : Int32) (i2 : Int32) (i3 : Int32) (i4 : Int32) (i5 : Int32) (i6 : Int32) (i7 : Int32) (i8 : Int32) (h : Hp), w106 a0 i1 i2 i3 i4 i5 i6 i7 i8 h = some res → XW g p l e { frames := 3, cells := 0, slots := 0, locals := 67 } s m args below meth c (MQ below (x_Q g (some (vI res.1)) res.2) args s 0 0 (x_A g)) 9 0 0 h 106 [some (vR a0), some (vI i1), some (vI i2), some (vI i3), some (vI i4), some (vI i5), some (vI i6), some (vI i7), some (vI i8)] []) (a0 : Nat) (i1 : Int32) (i2 : Int32) (i3 : Int32) (i4 : Int32) (i5 : Int32) (i6 : Int32) (i7 : Int32) (i8 : Int32) (h : Hp) (hf : fX7_missed_b171 w71 w80 w97 w106 a0 i1 i2 i3 i4 i5 i6 i7 i8 h = some res) : XW g p l e { frames := 3, cells := 0, slots := 0, locals := 67 } s m args below meth c (MQ below (x_Q g (some (vI res.1)) res.2) args s 0 0 (x_A g)) 9 0 0 h 171 [some (vR a0), some (vI i1), some (vI i2), some (vI i3), some (vI i4), some (vI i5), some (vI i6), some (vI i7), some (vI i8)] [] := by
  unfold fX7_missed_b171 at hf
  refine x_iinc C dX7_missed_171 (pc' := 174) rfl rfl (v := (i8 + 1)) rfl (by decide) rfl (lv' := [some (vR a0), some (vI i1), some (vI i2), some (vI i3), some (vI i4), some (vI i5), some (vI i6), some (vI i7), some (vI (i8 + 1))]) rfl ?_
  refine x_goto C dX7_missed_174 (tgt := 106) (by decide) ?_
  exact hw106 a0 i1 i2 i3 i4 i5 i6 i7 (i8 + 1) h hf
def fX7_missed_w106 (w71 : Nat → Int32 → Int32 → Int32 → Int32 → Hp → Option (Int32 × Hp)) (w80 : Nat → Int32 → Int32 → Int32 → Int32 → Int32 → Hp → Option (Int32 × Hp)) (w97 : Nat → Int32 → Int32 → Int32 → Int32 → Int32 → Int32 → Int32 → Hp → Option (Int32 × Hp)) : Nat → Nat → Int32 → Int32 → Int32 → Int32 → Int32 → Int32 → Int32 → Int32 → Hp → Option (Int32 × Hp)
  | 0 => fun _ _ _ _ _ _ _ _ _ _ => none
  | n + 1 => fun a0 i1 i2 i3 i4 i5 i6 i7 i8 h => (gR h a0 7 4).bind fun v1 => (aI h v1 0 i1).bind fun v2 => if v2 ≤ i8 then (fX7_missed_b177 w71 w80 w97 a0 i1 i2 i3 i4 i5 i6 i7 h) else ((gR h a0 7 14).bind fun v3 => (aI h v3 0 i4).bind fun v4 => if ((v4 >>> (i7 &&& 31)) &&& (1 : Int32)) = (1 : Int32) then ((gR h a0 7 4).bind fun v5 => (aI h v5 0 i1).bind fun v6 => call (oK h a0 7 (fX7_tells h a0 i1 ((v6 * i7) + i8))) fun r7 h8 => if r7 = i5 then (call (oK h8 a0 7 (fX7_then h8 a0 i1 i7 i8)) fun r9 h10 => setv ((i6 ||| ((1 : Int32) <<< (r9 &&& 31)))) fun v11 => fX7_missed_b171 w71 w80 w97 (fX7_missed_w106 w71 w80 w97 n) a0 i1 i2 i3 i4 i5 v11 i7 i8 h10) else (fX7_missed_b171 w71 w80 w97 (fX7_missed_w106 w71 w80 w97 n) a0 i1 i2 i3 i4 i5 i6 i7 i8 h8)) else (fX7_missed_b171 w71 w80 w97 (fX7_missed_w106 w71 w80 w97 n) a0 i1 i2 i3 i4 i5 i6 i7 i8 h))
set_option maxHeartbeats 4000000 in
set_option maxRecDepth 100000 in
theorem mX7_missed_w106 {g : XG} {p : Program} {l : Launch} {e : Env} {s : State} {m : MethodId} {args : Array Value} {below : List Frame} {meth : Method} {c : Code} (C : x_C g p s m args c cX7_missed RX7 9 wsX7_missed) (hr : meth.sig.returnType = (some .int)) (hlk : meth.locks = false) (hnm : meth.name = yX7_missed.name) {res : Int32 × Hp} (w71 : Nat → Int32 → Int32 → Int32 → Int32 → Hp → Option (Int32 × Hp)) (hw71 : ∀ (a0 : Nat) (i1 : Int32) (i2 : Int32) (i3 : Int32) (i4 : Int32) (h : Hp), w71 a0 i1 i2 i3 i4 h = some res → XW g p l e { frames := 3, cells := 0, slots := 0, locals := 67 } s m args below meth c (MQ below (x_Q g (some (vI res.1)) res.2) args s 0 0 (x_A g)) 9 0 0 h 71 [some (vR a0), some (vI i1), some (vI i2), some (vI i3), some (vI i4), none, none, none, none] []) (w80 : Nat → Int32 → Int32 → Int32 → Int32 → Int32 → Hp → Option (Int32 × Hp)) (hw80 : ∀ (a0 : Nat) (i1 : Int32) (i2 : Int32) (i3 : Int32) (i4 : Int32) (i5 : Int32) (h : Hp), w80 a0 i1 i2 i3 i4 i5 h = some res → XW g p l e { frames := 3, cells := 0, slots := 0, locals := 67 } s m args below meth c (MQ below (x_Q g (some (vI res.1)) res.2) args s 0 0 (x_A g)) 9 0 0 h 80 [some (vR a0), some (vI i1), some (vI i2), some (vI i3), some (vI i4), some (vI i5), none, none, none] []) (w97 : Nat → Int32 → Int32 → Int32 → Int32 → Int32 → Int32 → Int32 → Hp → Option (Int32 × Hp)) (hw97 : ∀ (a0 : Nat) (i1 : Int32) (i2 : Int32) (i3 : Int32) (i4 : Int32) (i5 : Int32) (i6 : Int32) (i7 : Int32) (h : Hp), w97 a0 i1 i2 i3 i4 i5 i6 i7 h = some res → XW g p l e { frames := 3, cells := 0, slots := 0, locals := 67 } s m args below meth c (MQ below (x_Q g (some (vI res.1)) res.2) args s 0 0 (x_A g)) 9 0 0 h 97 [some (vR a0), some (vI i1), some (vI i2), some (vI i3), some (vI i4), some (vI i5), some (vI i6), some (vI i7), none] []) : ∀ (n : Nat) (a0 : Nat) (i1 : Int32) (i2 : Int32) (i3 : Int32) (i4 : Int32) (i5 : Int32) (i6 : Int32) (i7 : Int32) (i8 : Int32) (h : Hp), fX7_missed_w106 w71 w80 w97 n a0 i1 i2 i3 i4 i5 i6 i7 i8 h = some res → XW g p l e { frames := 3, cells := 0, slots := 0, locals := 67 } s m args below meth c (MQ below (x_Q g (some (vI res.1)) res.2) args s 0 0 (x_A g)) 9 0 0 h 106 [some (vR a0), some (vI i1), some (vI i2), some (vI i3), some (vI i4), some (vI i5), some (vI i6), some (vI i7), some (vI i8)] [] := by
  intro n
  induction n with
  | zero =>
    intro a0 i1 i2 i3 i4 i5 i6 i7 i8 h hf
    have hf2 : (none : Option (Int32 × Hp)) = some res := hf
    cases hf2
  | succ n ih =>
    intro a0 i1 i2 i3 i4 i5 i6 i7 i8 h hf
    rw [fX7_missed_w106] at hf
    refine x_iload C dX7_missed_106 (pc' := 108) rfl rfl ?_
    refine x_aload_n C dX7_missed_108 (pc' := 109) rfl rfl rfl ?_
    refine x_getR C (ci := 7) (kf := 4) rfl (by decide) hinX7_missed_X7 lkX7_missed_4 rfl hf dX7_missed_109 (pc' := 112) rfl (fun v1 _ hf => ?_)
    refine x_iload_n C dX7_missed_112 (pc' := 113) rfl rfl rfl ?_
    refine x_iaload C hf dX7_missed_113 (pc' := 114) rfl (fun v2 _ hf => ?_)
    refine x_icmp_ge C hf dX7_missed_114 (pc' := 117) rfl (tgt := 177) (by decide) (fun _ hf => ?_) (fun _ hf => ?_)
    ·
      refine x_keep [true, true, true, true, true, true, true, true, false] rfl ?_
      refine x_more (k' := 0) (n' := 0) (Nat.le_of_ble_eq_true rfl) (Nat.le_of_ble_eq_true rfl) ?_
      exact mX7_missed_b177 C hr hlk hnm w71 hw71 w80 hw80 w97 hw97 a0 i1 i2 i3 i4 i5 i6 i7 h hf
    ·
      refine x_aload_n C dX7_missed_117 (pc' := 118) rfl rfl rfl ?_
      refine x_getR C (ci := 7) (kf := 14) rfl (by decide) hinX7_missed_X7 lkX7_missed_1 rfl hf dX7_missed_118 (pc' := 121) rfl (fun v3 _ hf => ?_)
      refine x_iload C dX7_missed_121 (pc' := 123) rfl rfl ?_
      refine x_iaload C hf dX7_missed_123 (pc' := 124) rfl (fun v4 _ hf => ?_)
      refine x_iload C dX7_missed_124 (pc' := 126) rfl rfl ?_
      refine x_ishr C dX7_missed_126 (pc' := 127) rfl ?_
      refine x_iconst C (v := 1) (by decide) dX7_missed_127 (pc' := 128) rfl ?_
      refine x_iand C dX7_missed_128 (pc' := 129) rfl ?_
      refine x_iconst C (v := 1) (by decide) dX7_missed_129 (pc' := 130) rfl ?_
      refine x_icmp_ne C hf dX7_missed_130 (pc' := 133) rfl (tgt := 171) (by decide) (fun _ hf => ?_) (fun _ hf => ?_)
      ·
        refine x_aload_n C dX7_missed_133 (pc' := 134) rfl rfl rfl ?_
        refine x_iload_n C dX7_missed_134 (pc' := 135) rfl rfl rfl ?_
        refine x_aload_n C dX7_missed_135 (pc' := 136) rfl rfl rfl ?_
        refine x_getR C (ci := 7) (kf := 4) rfl (by decide) hinX7_missed_X7 lkX7_missed_4 rfl hf dX7_missed_136 (pc' := 139) rfl (fun v5 _ hf => ?_)
        refine x_iload_n C dX7_missed_139 (pc' := 140) rfl rfl rfl ?_
        refine x_iaload C hf dX7_missed_140 (pc' := 141) rfl (fun v6 _ hf => ?_)
        refine x_iload C dX7_missed_141 (pc' := 143) rfl rfl ?_
        refine x_imul C dX7_missed_143 (pc' := 144) rfl ?_
        refine x_iload C dX7_missed_144 (pc' := 146) rfl rfl ?_
        refine x_iadd C dX7_missed_146 (pc' := 147) rfl ?_
        obtain ⟨r7, h8, hq, hf⟩ := call_some hf
        obtain ⟨hob, hq⟩ := oK_some hq
        refine x_callV C (As := [vI i1, vI ((v6 * i7) + i8)]) (st := []) (r := (some (vI r7))) (h' := h8) (mc := 0) (ms := 0) (k := 0) (n := 0) (mX7_tells hq) hob (ci := 7) rfl (cwV 2 C.1.2.2.2.2 gX7_missed_X7_tells rfl rfl rfl (by decide +kernel) ⟨Nat.le_of_ble_eq_true rfl, Nat.le_of_ble_eq_true rfl⟩) rfl rfl (Nat.le_of_ble_eq_true rfl) dX7_missed_147 (pc' := 150) rfl ?_
        refine x_iload C dX7_missed_150 (pc' := 152) rfl rfl ?_
        refine x_icmp_ne C hf dX7_missed_152 (pc' := 155) rfl (tgt := 171) (by decide) (fun _ hf => ?_) (fun _ hf => ?_)
        ·
          refine x_iload C dX7_missed_155 (pc' := 157) rfl rfl ?_
          refine x_iconst C (v := 1) (by decide) dX7_missed_157 (pc' := 158) rfl ?_
          refine x_aload_n C dX7_missed_158 (pc' := 159) rfl rfl rfl ?_
          refine x_iload_n C dX7_missed_159 (pc' := 160) rfl rfl rfl ?_
          refine x_iload C dX7_missed_160 (pc' := 162) rfl rfl ?_
          refine x_iload C dX7_missed_162 (pc' := 164) rfl rfl ?_
          obtain ⟨r9, h10, hq, hf⟩ := call_some hf
          obtain ⟨hob, hq⟩ := oK_some hq
          refine x_callV C (As := [vI i1, vI i7, vI i8]) (st := [vI (1 : Int32), vI i6]) (r := (some (vI r9))) (h' := h10) (mc := 0) (ms := 0) (k := 0) (n := 0) (mX7_then hq) hob (ci := 7) rfl (cwV 3 C.1.2.2.2.2 gX7_missed_X7_then rfl rfl rfl (by decide +kernel) ⟨Nat.le_of_ble_eq_true rfl, Nat.le_of_ble_eq_true rfl⟩) rfl rfl (Nat.le_of_ble_eq_true rfl) dX7_missed_164 (pc' := 167) rfl ?_
          refine x_ishl C dX7_missed_167 (pc' := 168) rfl ?_
          refine x_ior C dX7_missed_168 (pc' := 169) rfl ?_
          refine x_nameI hf (fun v11 _ hf => ?_)
          refine x_istore C dX7_missed_169 (pc' := 171) rfl (by decide) rfl (lv' := [some (vR a0), some (vI i1), some (vI i2), some (vI i3), some (vI i4), some (vI i5), some (vI v11), some (vI i7), some (vI i8)]) rfl ?_
          refine x_more (k' := 0) (n' := 0) (Nat.le_of_ble_eq_true rfl) (Nat.le_of_ble_eq_true rfl) ?_
          exact mX7_missed_b171 C hr hlk hnm w71 hw71 w80 hw80 w97 hw97 (fX7_missed_w106 w71 w80 w97 n) ih a0 i1 i2 i3 i4 i5 v11 i7 i8 h10 hf
        ·
          refine x_more (k' := 0) (n' := 0) (Nat.le_of_ble_eq_true rfl) (Nat.le_of_ble_eq_true rfl) ?_
          exact mX7_missed_b171 C hr hlk hnm w71 hw71 w80 hw80 w97 hw97 (fX7_missed_w106 w71 w80 w97 n) ih a0 i1 i2 i3 i4 i5 i6 i7 i8 h8 hf
      ·
        refine x_more (k' := 0) (n' := 0) (Nat.le_of_ble_eq_true rfl) (Nat.le_of_ble_eq_true rfl) ?_
        exact mX7_missed_b171 C hr hlk hnm w71 hw71 w80 hw80 w97 hw97 (fX7_missed_w106 w71 w80 w97 n) ih a0 i1 i2 i3 i4 i5 i6 i7 i8 h hf
def fX7_missed_w97 (w71 : Nat → Int32 → Int32 → Int32 → Int32 → Hp → Option (Int32 × Hp)) (w80 : Nat → Int32 → Int32 → Int32 → Int32 → Int32 → Hp → Option (Int32 × Hp)) : Nat → Nat → Int32 → Int32 → Int32 → Int32 → Int32 → Int32 → Int32 → Hp → Option (Int32 × Hp)
  | 0 => fun _ _ _ _ _ _ _ _ _ => none
  | n + 1 => fun a0 i1 i2 i3 i4 i5 i6 i7 h => if i2 ≤ i7 then (fX7_missed_b183 w71 w80 a0 i1 i2 i3 i4 i5 i6 h) else (fX7_missed_w106 w71 w80 (fX7_missed_w97 w71 w80 n) FUEL a0 i1 i2 i3 i4 i5 i6 i7 (0 : Int32) h)
set_option maxHeartbeats 4000000 in
set_option maxRecDepth 100000 in
theorem mX7_missed_w97 {g : XG} {p : Program} {l : Launch} {e : Env} {s : State} {m : MethodId} {args : Array Value} {below : List Frame} {meth : Method} {c : Code} (C : x_C g p s m args c cX7_missed RX7 9 wsX7_missed) (hr : meth.sig.returnType = (some .int)) (hlk : meth.locks = false) (hnm : meth.name = yX7_missed.name) {res : Int32 × Hp} (w71 : Nat → Int32 → Int32 → Int32 → Int32 → Hp → Option (Int32 × Hp)) (hw71 : ∀ (a0 : Nat) (i1 : Int32) (i2 : Int32) (i3 : Int32) (i4 : Int32) (h : Hp), w71 a0 i1 i2 i3 i4 h = some res → XW g p l e { frames := 3, cells := 0, slots := 0, locals := 67 } s m args below meth c (MQ below (x_Q g (some (vI res.1)) res.2) args s 0 0 (x_A g)) 9 0 0 h 71 [some (vR a0), some (vI i1), some (vI i2), some (vI i3), some (vI i4), none, none, none, none] []) (w80 : Nat → Int32 → Int32 → Int32 → Int32 → Int32 → Hp → Option (Int32 × Hp)) (hw80 : ∀ (a0 : Nat) (i1 : Int32) (i2 : Int32) (i3 : Int32) (i4 : Int32) (i5 : Int32) (h : Hp), w80 a0 i1 i2 i3 i4 i5 h = some res → XW g p l e { frames := 3, cells := 0, slots := 0, locals := 67 } s m args below meth c (MQ below (x_Q g (some (vI res.1)) res.2) args s 0 0 (x_A g)) 9 0 0 h 80 [some (vR a0), some (vI i1), some (vI i2), some (vI i3), some (vI i4), some (vI i5), none, none, none] []) : ∀ (n : Nat) (a0 : Nat) (i1 : Int32) (i2 : Int32) (i3 : Int32) (i4 : Int32) (i5 : Int32) (i6 : Int32) (i7 : Int32) (h : Hp), fX7_missed_w97 w71 w80 n a0 i1 i2 i3 i4 i5 i6 i7 h = some res → XW g p l e { frames := 3, cells := 0, slots := 0, locals := 67 } s m args below meth c (MQ below (x_Q g (some (vI res.1)) res.2) args s 0 0 (x_A g)) 9 0 0 h 97 [some (vR a0), some (vI i1), some (vI i2), some (vI i3), some (vI i4), some (vI i5), some (vI i6), some (vI i7), none] [] := by
  intro n
  induction n with
  | zero =>
    intro a0 i1 i2 i3 i4 i5 i6 i7 h hf
    have hf2 : (none : Option (Int32 × Hp)) = some res := hf
    cases hf2
  | succ n ih =>
    intro a0 i1 i2 i3 i4 i5 i6 i7 h hf
    rw [fX7_missed_w97] at hf
    refine x_iload C dX7_missed_97 (pc' := 99) rfl rfl ?_
    refine x_iload_n C dX7_missed_99 (pc' := 100) rfl rfl rfl ?_
    refine x_icmp_ge C hf dX7_missed_100 (pc' := 103) rfl (tgt := 183) (by decide) (fun _ hf => ?_) (fun _ hf => ?_)
    ·
      refine x_keep [true, true, true, true, true, true, true, false, false] rfl ?_
      refine x_more (k' := 0) (n' := 0) (Nat.le_of_ble_eq_true rfl) (Nat.le_of_ble_eq_true rfl) ?_
      exact mX7_missed_b183 C hr hlk hnm w71 hw71 w80 hw80 a0 i1 i2 i3 i4 i5 i6 h hf
    ·
      refine x_iconst C (v := 0) (by decide) dX7_missed_103 (pc' := 104) rfl ?_
      refine x_istore C dX7_missed_104 (pc' := 106) rfl (by decide) rfl (lv' := [some (vR a0), some (vI i1), some (vI i2), some (vI i3), some (vI i4), some (vI i5), some (vI i6), some (vI i7), some (vI (0 : Int32))]) rfl ?_
      refine x_more (k' := 0) (n' := 0) (Nat.le_of_ble_eq_true rfl) (Nat.le_of_ble_eq_true rfl) ?_
      exact mX7_missed_w106 C hr hlk hnm w71 hw71 w80 hw80 (fX7_missed_w97 w71 w80 n) ih FUEL a0 i1 i2 i3 i4 i5 i6 i7 (0 : Int32) h hf
def fX7_missed_w80 (w71 : Nat → Int32 → Int32 → Int32 → Int32 → Hp → Option (Int32 × Hp)) : Nat → Nat → Int32 → Int32 → Int32 → Int32 → Int32 → Hp → Option (Int32 × Hp)
  | 0 => fun _ _ _ _ _ _ _ => none
  | n + 1 => fun a0 i1 i2 i3 i4 i5 h => (gR h a0 7 4).bind fun v1 => (aI h v1 0 i1).bind fun v2 => if v2 ≤ i5 then (fX7_missed_b250 w71 a0 i1 i2 i3 i4 h) else (fX7_missed_w97 w71 (fX7_missed_w80 w71 n) FUEL a0 i1 i2 i3 i4 i5 (0 : Int32) (0 : Int32) h)
set_option maxHeartbeats 4000000 in
set_option maxRecDepth 100000 in
theorem mX7_missed_w80 {g : XG} {p : Program} {l : Launch} {e : Env} {s : State} {m : MethodId} {args : Array Value} {below : List Frame} {meth : Method} {c : Code} (C : x_C g p s m args c cX7_missed RX7 9 wsX7_missed) (hr : meth.sig.returnType = (some .int)) (hlk : meth.locks = false) (hnm : meth.name = yX7_missed.name) {res : Int32 × Hp} (w71 : Nat → Int32 → Int32 → Int32 → Int32 → Hp → Option (Int32 × Hp)) (hw71 : ∀ (a0 : Nat) (i1 : Int32) (i2 : Int32) (i3 : Int32) (i4 : Int32) (h : Hp), w71 a0 i1 i2 i3 i4 h = some res → XW g p l e { frames := 3, cells := 0, slots := 0, locals := 67 } s m args below meth c (MQ below (x_Q g (some (vI res.1)) res.2) args s 0 0 (x_A g)) 9 0 0 h 71 [some (vR a0), some (vI i1), some (vI i2), some (vI i3), some (vI i4), none, none, none, none] []) : ∀ (n : Nat) (a0 : Nat) (i1 : Int32) (i2 : Int32) (i3 : Int32) (i4 : Int32) (i5 : Int32) (h : Hp), fX7_missed_w80 w71 n a0 i1 i2 i3 i4 i5 h = some res → XW g p l e { frames := 3, cells := 0, slots := 0, locals := 67 } s m args below meth c (MQ below (x_Q g (some (vI res.1)) res.2) args s 0 0 (x_A g)) 9 0 0 h 80 [some (vR a0), some (vI i1), some (vI i2), some (vI i3), some (vI i4), some (vI i5), none, none, none] [] := by
  intro n
  induction n with
  | zero =>
    intro a0 i1 i2 i3 i4 i5 h hf
    have hf2 : (none : Option (Int32 × Hp)) = some res := hf
    cases hf2
  | succ n ih =>
    intro a0 i1 i2 i3 i4 i5 h hf
    rw [fX7_missed_w80] at hf
    refine x_iload C dX7_missed_80 (pc' := 82) rfl rfl ?_
    refine x_aload_n C dX7_missed_82 (pc' := 83) rfl rfl rfl ?_
    refine x_getR C (ci := 7) (kf := 4) rfl (by decide) hinX7_missed_X7 lkX7_missed_4 rfl hf dX7_missed_83 (pc' := 86) rfl (fun v1 _ hf => ?_)
    refine x_iload_n C dX7_missed_86 (pc' := 87) rfl rfl rfl ?_
    refine x_iaload C hf dX7_missed_87 (pc' := 88) rfl (fun v2 _ hf => ?_)
    refine x_icmp_ge C hf dX7_missed_88 (pc' := 91) rfl (tgt := 250) (by decide) (fun _ hf => ?_) (fun _ hf => ?_)
    ·
      refine x_keep [true, true, true, true, true, false, false, false, false] rfl ?_
      refine x_more (k' := 0) (n' := 0) (Nat.le_of_ble_eq_true rfl) (Nat.le_of_ble_eq_true rfl) ?_
      exact mX7_missed_b250 C hr hlk hnm w71 hw71 a0 i1 i2 i3 i4 h hf
    ·
      refine x_iconst C (v := 0) (by decide) dX7_missed_91 (pc' := 92) rfl ?_
      refine x_istore C dX7_missed_92 (pc' := 94) rfl (by decide) rfl (lv' := [some (vR a0), some (vI i1), some (vI i2), some (vI i3), some (vI i4), some (vI i5), some (vI (0 : Int32)), none, none]) rfl ?_
      refine x_iconst C (v := 0) (by decide) dX7_missed_94 (pc' := 95) rfl ?_
      refine x_istore C dX7_missed_95 (pc' := 97) rfl (by decide) rfl (lv' := [some (vR a0), some (vI i1), some (vI i2), some (vI i3), some (vI i4), some (vI i5), some (vI (0 : Int32)), some (vI (0 : Int32)), none]) rfl ?_
      refine x_more (k' := 0) (n' := 0) (Nat.le_of_ble_eq_true rfl) (Nat.le_of_ble_eq_true rfl) ?_
      exact mX7_missed_w97 C hr hlk hnm w71 hw71 (fX7_missed_w80 w71 n) ih FUEL a0 i1 i2 i3 i4 i5 (0 : Int32) (0 : Int32) h hf
def fX7_missed_w71 : Nat → Nat → Int32 → Int32 → Int32 → Int32 → Hp → Option (Int32 × Hp)
  | 0 => fun _ _ _ _ _ _ => none
  | n + 1 => fun a0 i1 i2 i3 i4 h => if i3 ≤ i4 then (some ((0 : Int32), h)) else (fX7_missed_w80 (fX7_missed_w71 n) FUEL a0 i1 i2 i3 i4 (0 : Int32) h)
set_option maxHeartbeats 4000000 in
set_option maxRecDepth 100000 in
theorem mX7_missed_w71 {g : XG} {p : Program} {l : Launch} {e : Env} {s : State} {m : MethodId} {args : Array Value} {below : List Frame} {meth : Method} {c : Code} (C : x_C g p s m args c cX7_missed RX7 9 wsX7_missed) (hr : meth.sig.returnType = (some .int)) (hlk : meth.locks = false) (hnm : meth.name = yX7_missed.name) {res : Int32 × Hp} : ∀ (n : Nat) (a0 : Nat) (i1 : Int32) (i2 : Int32) (i3 : Int32) (i4 : Int32) (h : Hp), fX7_missed_w71 n a0 i1 i2 i3 i4 h = some res → XW g p l e { frames := 3, cells := 0, slots := 0, locals := 67 } s m args below meth c (MQ below (x_Q g (some (vI res.1)) res.2) args s 0 0 (x_A g)) 9 0 0 h 71 [some (vR a0), some (vI i1), some (vI i2), some (vI i3), some (vI i4), none, none, none, none] [] := by
  intro n
  induction n with
  | zero =>
    intro a0 i1 i2 i3 i4 h hf
    have hf2 : (none : Option (Int32 × Hp)) = some res := hf
    cases hf2
  | succ n ih =>
    intro a0 i1 i2 i3 i4 h hf
    rw [fX7_missed_w71] at hf
    refine x_iload C dX7_missed_71 (pc' := 73) rfl rfl ?_
    refine x_iload_n C dX7_missed_73 (pc' := 74) rfl rfl rfl ?_
    refine x_icmp_ge C hf dX7_missed_74 (pc' := 77) rfl (tgt := 256) (by decide) (fun _ hf => ?_) (fun _ hf => ?_)
    ·
      refine x_iconst C (v := 0) (by decide) dX7_missed_256 (pc' := 257) rfl ?_
      cases hf
      exact x_iret C hr hlk dX7_missed_257
    ·
      refine x_iconst C (v := 0) (by decide) dX7_missed_77 (pc' := 78) rfl ?_
      refine x_istore C dX7_missed_78 (pc' := 80) rfl (by decide) rfl (lv' := [some (vR a0), some (vI i1), some (vI i2), some (vI i3), some (vI i4), some (vI (0 : Int32)), none, none, none]) rfl ?_
      refine x_more (k' := 0) (n' := 0) (Nat.le_of_ble_eq_true rfl) (Nat.le_of_ble_eq_true rfl) ?_
      exact mX7_missed_w80 C hr hlk hnm (fX7_missed_w71 n) ih FUEL a0 i1 i2 i3 i4 (0 : Int32) h hf
def fX7_missed_b43 (a0 : Nat) (i1 : Int32) (i2 : Int32) (h : Hp) : Option (Int32 × Hp) := (gR h a0 7 14).bind fun v1 => (sI h v1 0 (0 : Int32) (((1 : Int32) <<< (i2 &&& 31)) - (1 : Int32))).bind fun h2 => (gR h2 a0 7 17).bind fun v3 => (gR h2 a0 7 14).bind fun v4 => (aI h2 v4 0 (0 : Int32)).bind fun v5 => (sI h2 v3 2 v5 (1 : Int32)).bind fun h6 => fX7_missed_w71 FUEL a0 i1 i2 (1 : Int32) (0 : Int32) h6
set_option maxHeartbeats 4000000 in
set_option maxRecDepth 100000 in
theorem mX7_missed_b43 {g : XG} {p : Program} {l : Launch} {e : Env} {s : State} {m : MethodId} {args : Array Value} {below : List Frame} {meth : Method} {c : Code} (C : x_C g p s m args c cX7_missed RX7 9 wsX7_missed) (hr : meth.sig.returnType = (some .int)) (hlk : meth.locks = false) (hnm : meth.name = yX7_missed.name) {res : Int32 × Hp} (a0 : Nat) (i1 : Int32) (i2 : Int32) (h : Hp) (hf : fX7_missed_b43 a0 i1 i2 h = some res) : XW g p l e { frames := 3, cells := 0, slots := 0, locals := 67 } s m args below meth c (MQ below (x_Q g (some (vI res.1)) res.2) args s 0 0 (x_A g)) 9 0 0 h 43 [some (vR a0), some (vI i1), some (vI i2), none, none, none, none, none, none] [] := by
  unfold fX7_missed_b43 at hf
  refine x_iconst C (v := 1) (by decide) dX7_missed_43 (pc' := 44) rfl ?_
  refine x_istore_n C dX7_missed_44 (pc' := 45) rfl rfl (by decide) rfl (lv' := [some (vR a0), some (vI i1), some (vI i2), some (vI (1 : Int32)), none, none, none, none, none]) rfl ?_
  refine x_aload_n C dX7_missed_45 (pc' := 46) rfl rfl rfl ?_
  refine x_getR C (ci := 7) (kf := 14) rfl (by decide) hinX7_missed_X7 lkX7_missed_1 rfl hf dX7_missed_46 (pc' := 49) rfl (fun v1 _ hf => ?_)
  refine x_iconst C (v := 0) (by decide) dX7_missed_49 (pc' := 50) rfl ?_
  refine x_iconst C (v := 1) (by decide) dX7_missed_50 (pc' := 51) rfl ?_
  refine x_iload_n C dX7_missed_51 (pc' := 52) rfl rfl rfl ?_
  refine x_ishl C dX7_missed_52 (pc' := 53) rfl ?_
  refine x_iconst C (v := 1) (by decide) dX7_missed_53 (pc' := 54) rfl ?_
  refine x_isub C dX7_missed_54 (pc' := 55) rfl ?_
  refine x_iastore C hf dX7_missed_55 (pc' := 56) rfl (fun h2 _ hf => ?_)
  refine x_aload_n C dX7_missed_56 (pc' := 57) rfl rfl rfl ?_
  refine x_getR C (ci := 7) (kf := 17) rfl (by decide) hinX7_missed_X7 lkX7_missed_0 rfl hf dX7_missed_57 (pc' := 60) rfl (fun v3 _ hf => ?_)
  refine x_aload_n C dX7_missed_60 (pc' := 61) rfl rfl rfl ?_
  refine x_getR C (ci := 7) (kf := 14) rfl (by decide) hinX7_missed_X7 lkX7_missed_1 rfl hf dX7_missed_61 (pc' := 64) rfl (fun v4 _ hf => ?_)
  refine x_iconst C (v := 0) (by decide) dX7_missed_64 (pc' := 65) rfl ?_
  refine x_iaload C hf dX7_missed_65 (pc' := 66) rfl (fun v5 _ hf => ?_)
  refine x_iconst C (v := 1) (by decide) dX7_missed_66 (pc' := 67) rfl ?_
  refine x_bastoreZ C hf dX7_missed_67 (pc' := 68) rfl (fun h6 _ hf => ?_)
  refine x_iconst C (v := 0) (by decide) dX7_missed_68 (pc' := 69) rfl ?_
  refine x_istore C dX7_missed_69 (pc' := 71) rfl (by decide) rfl (lv' := [some (vR a0), some (vI i1), some (vI i2), some (vI (1 : Int32)), some (vI (0 : Int32)), none, none, none, none]) rfl ?_
  refine x_more (k' := 0) (n' := 0) (Nat.le_of_ble_eq_true rfl) (Nat.le_of_ble_eq_true rfl) ?_
  exact mX7_missed_w71 C hr hlk hnm FUEL a0 i1 i2 (1 : Int32) (0 : Int32) h6 hf
def fX7_missed_w23 : Nat → Nat → Int32 → Int32 → Int32 → Hp → Option (Int32 × Hp)
  | 0 => fun _ _ _ _ _ => none
  | n + 1 => fun a0 i1 i2 i3 h => if (512 : Int32) ≤ i3 then (fX7_missed_b43 a0 i1 i2 h) else ((gR h a0 7 17).bind fun v1 => (sI h v1 2 i3 (0 : Int32)).bind fun h2 => (fX7_missed_w23 n) a0 i1 i2 (i3 + 1) h2)
set_option maxHeartbeats 4000000 in
set_option maxRecDepth 100000 in
theorem mX7_missed_w23 {g : XG} {p : Program} {l : Launch} {e : Env} {s : State} {m : MethodId} {args : Array Value} {below : List Frame} {meth : Method} {c : Code} (C : x_C g p s m args c cX7_missed RX7 9 wsX7_missed) (hr : meth.sig.returnType = (some .int)) (hlk : meth.locks = false) (hnm : meth.name = yX7_missed.name) {res : Int32 × Hp} : ∀ (n : Nat) (a0 : Nat) (i1 : Int32) (i2 : Int32) (i3 : Int32) (h : Hp), fX7_missed_w23 n a0 i1 i2 i3 h = some res → XW g p l e { frames := 3, cells := 0, slots := 0, locals := 67 } s m args below meth c (MQ below (x_Q g (some (vI res.1)) res.2) args s 0 0 (x_A g)) 9 0 0 h 23 [some (vR a0), some (vI i1), some (vI i2), some (vI i3), none, none, none, none, none] [] := by
  intro n
  induction n with
  | zero =>
    intro a0 i1 i2 i3 h hf
    have hf2 : (none : Option (Int32 × Hp)) = some res := hf
    cases hf2
  | succ n ih =>
    intro a0 i1 i2 i3 h hf
    rw [fX7_missed_w23] at hf
    refine x_iload_n C dX7_missed_23 (pc' := 24) rfl rfl rfl ?_
    refine x_sipush C (v := 512) (by decide) dX7_missed_24 (pc' := 27) rfl ?_
    refine x_icmp_ge C hf dX7_missed_27 (pc' := 30) rfl (tgt := 43) (by decide) (fun _ hf => ?_) (fun _ hf => ?_)
    ·
      refine x_keep [true, true, true, false, false, false, false, false, false] rfl ?_
      refine x_more (k' := 0) (n' := 0) (Nat.le_of_ble_eq_true rfl) (Nat.le_of_ble_eq_true rfl) ?_
      exact mX7_missed_b43 C hr hlk hnm a0 i1 i2 h hf
    ·
      refine x_aload_n C dX7_missed_30 (pc' := 31) rfl rfl rfl ?_
      refine x_getR C (ci := 7) (kf := 17) rfl (by decide) hinX7_missed_X7 lkX7_missed_0 rfl hf dX7_missed_31 (pc' := 34) rfl (fun v1 _ hf => ?_)
      refine x_iload_n C dX7_missed_34 (pc' := 35) rfl rfl rfl ?_
      refine x_iconst C (v := 0) (by decide) dX7_missed_35 (pc' := 36) rfl ?_
      refine x_bastoreZ C hf dX7_missed_36 (pc' := 37) rfl (fun h2 _ hf => ?_)
      refine x_iinc C dX7_missed_37 (pc' := 40) rfl rfl (v := (i3 + 1)) rfl (by decide) rfl (lv' := [some (vR a0), some (vI i1), some (vI i2), some (vI (i3 + 1)), none, none, none, none, none]) rfl ?_
      refine x_goto C dX7_missed_40 (tgt := 23) (by decide) ?_
      exact ih a0 i1 i2 (i3 + 1) h2 hf
def fX7_missed (h : Hp) (a0 : Nat) (i1 : Int32) : Option (Int32 × Hp) := (pF h a0 7 0 (vI (0 : Int32))).bind fun h1 => call (oK h1 a0 7 (fX7_has h1 a0 i1)) fun r2 h3 => if r2 = 0 then (some ((-1 : Int32), h3)) else (call (oK h3 a0 7 (fX7_overlaps h3 a0 i1)) fun r4 h5 => fX7_missed_w23 FUEL a0 i1 r4 (0 : Int32) h5)
set_option maxHeartbeats 4000000 in
set_option maxRecDepth 100000 in
theorem mX7_missed {l : Launch} {g : XG} {h : Hp} {a0 : Nat} {i1 : Int32} {res : Int32 × Hp} (hf : fX7_missed h a0 i1 = some res) : XM l g yX7_missed wsX7_missed 3 67 0 0 [vR a0, vI i1] h (some (vI res.1)) res.2 := by
  refine x_start (cc := cX7_missed) (maxL := 9) (ret := (some .int)) (by decide) rfl (Nat.le_of_ble_eq_true rfl) (lv := [some (vR a0), some (vI i1), none, none, none, none, none, none, none]) rfl ?_
  intro p e s m args below meth c C hr hlk hnm
  unfold fX7_missed at hf
  refine x_aload_n C dX7_missed_0 (pc' := 1) rfl rfl rfl ?_
  refine x_iconst C (v := 0) (by decide) dX7_missed_1 (pc' := 2) rfl ?_
  refine x_put C (ci := 7) (kf := 0) rfl (by decide) hinX7_missed_X7 tyX7 tyX7_ok nmX7 lkX7_missed_5 rfl (Or.inl rfl) rfl hf dX7_missed_2 (pc' := 5) rfl (fun h1 _ hf => ?_)
  refine x_aload_n C dX7_missed_5 (pc' := 6) rfl rfl rfl ?_
  refine x_iload_n C dX7_missed_6 (pc' := 7) rfl rfl rfl ?_
  obtain ⟨r2, h3, hq, hf⟩ := call_some hf
  obtain ⟨hob, hq⟩ := oK_some hq
  refine x_callV C (As := [vI i1]) (st := []) (r := (some (vI r2))) (h' := h3) (mc := 0) (ms := 0) (k := 0) (n := 0) (mX7_has hq) hob (ci := 7) rfl (cwV 1 C.1.2.2.2.2 gX7_missed_X7_has rfl rfl rfl (by decide +kernel) ⟨Nat.le_of_ble_eq_true rfl, Nat.le_of_ble_eq_true rfl⟩) rfl rfl (Nat.le_of_ble_eq_true rfl) dX7_missed_7 (pc' := 10) rfl ?_
  refine x_if_ne C hf dX7_missed_10 (pc' := 13) rfl (tgt := 15) (by decide) (fun _ hf => ?_) (fun _ hf => ?_)
  ·
    refine x_iconst C (v := -1) (by decide) dX7_missed_13 (pc' := 14) rfl ?_
    cases hf
    exact x_iret C hr hlk dX7_missed_14
  ·
    refine x_aload_n C dX7_missed_15 (pc' := 16) rfl rfl rfl ?_
    refine x_iload_n C dX7_missed_16 (pc' := 17) rfl rfl rfl ?_
    obtain ⟨r4, h5, hq, hf⟩ := call_some hf
    obtain ⟨hob, hq⟩ := oK_some hq
    refine x_callV C (As := [vI i1]) (st := []) (r := (some (vI r4))) (h' := h5) (mc := 0) (ms := 0) (k := 0) (n := 0) (mX7_overlaps hq) hob (ci := 7) rfl (cwV 1 C.1.2.2.2.2 gX7_missed_X7_overlaps rfl rfl rfl (by decide +kernel) ⟨Nat.le_of_ble_eq_true rfl, Nat.le_of_ble_eq_true rfl⟩) rfl rfl (Nat.le_of_ble_eq_true rfl) dX7_missed_17 (pc' := 20) rfl ?_
    refine x_istore_n C dX7_missed_20 (pc' := 21) rfl rfl (by decide) rfl (lv' := [some (vR a0), some (vI i1), some (vI r4), none, none, none, none, none, none]) rfl ?_
    refine x_iconst C (v := 0) (by decide) dX7_missed_21 (pc' := 22) rfl ?_
    refine x_istore_n C dX7_missed_22 (pc' := 23) rfl rfl (by decide) rfl (lv' := [some (vR a0), some (vI i1), some (vI r4), some (vI (0 : Int32)), none, none, none, none, none]) rfl ?_
    refine x_more (k' := 0) (n' := 0) (Nat.le_of_ble_eq_true rfl) (Nat.le_of_ble_eq_true rfl) ?_
    exact mX7_missed_w23 C hr hlk hnm FUEL a0 i1 r4 (0 : Int32) h5 hf
-- ===== X7_turns
theorem lkX7_turns_0 : Cond.fieldLink RX7 55 "MossRingsModel" "made" "[I" ∈ wsX7_turns := by decide +kernel
theorem hinX7_turns_X7 : ∀ w ∈ u_ws RX7 TX7 27, w ∈ wsX7_turns := by decide +kernel
theorem lkX7_turns_1 : Cond.fieldLink RX7 20 "MossRingsModel" "table" "[I" ∈ wsX7_turns := by decide +kernel
theorem lkX7_turns_2 : Cond.fieldLink RX7 13 "MossRingsModel" "states" "[I" ∈ wsX7_turns := by decide +kernel
theorem lkX7_turns_3 : Cond.fieldLink RX7 17 "MossRingsModel" "widths" "[I" ∈ wsX7_turns := by decide +kernel
def fX7_turns_w183 : Nat → Nat → Int32 → Int32 → Int32 → Hp → Option (Int32 × Hp)
  | 0 => fun _ _ _ _ _ => none
  | n + 1 => fun a0 i2 i4 i7 h => call (fX7_power h i4 i2) fun r1 h2 => if r1 ≤ i7 then (retZ (1 : Int32) h2) else ((gR h2 a0 7 18).bind fun v3 => (aI h2 v3 0 i7).bind fun v4 => if 0 ≤ v4 then ((gR h2 a0 7 6).bind fun v5 => (gR h2 a0 7 18).bind fun v6 => (aI h2 v6 0 i7).bind fun v7 => (sI h2 v5 0 ((162 : Int32) + i7) v7).bind fun h8 => (fX7_turns_w183 n) a0 i2 i4 (i7 + 1) h8) else (retZ (0 : Int32) h2))
set_option maxHeartbeats 4000000 in
set_option maxRecDepth 100000 in
theorem mX7_turns_w183 {g : XG} {p : Program} {l : Launch} {e : Env} {s : State} {m : MethodId} {args : Array Value} {below : List Frame} {meth : Method} {c : Code} (C : x_C g p s m args c cX7_turns RX7 10 wsX7_turns) (hr : meth.sig.returnType = (some .boolean)) (hlk : meth.locks = false) (hnm : meth.name = yX7_turns.name) {res : Int32 × Hp} : ∀ (n : Nat) (a0 : Nat) (i2 : Int32) (i4 : Int32) (i7 : Int32) (h : Hp), fX7_turns_w183 n a0 i2 i4 i7 h = some res → XW g p l e { frames := 1, cells := 0, slots := 0, locals := 23 } s m args below meth c (MQ below (x_Q g (some (vI res.1)) res.2) args s 0 0 (x_A g)) 10 0 0 h 183 [some (vR a0), none, some (vI i2), none, some (vI i4), none, none, some (vI i7), none, none] [] := by
  intro n
  induction n with
  | zero =>
    intro a0 i2 i4 i7 h hf
    have hf2 : (none : Option (Int32 × Hp)) = some res := hf
    cases hf2
  | succ n ih =>
    intro a0 i2 i4 i7 h hf
    rw [fX7_turns_w183] at hf
    refine x_iload C dX7_turns_183 (pc' := 185) rfl rfl ?_
    refine x_iload C dX7_turns_185 (pc' := 187) rfl rfl ?_
    refine x_iload_n C dX7_turns_187 (pc' := 188) rfl rfl rfl ?_
    obtain ⟨r1, h2, hq, hf⟩ := call_some hf
    refine x_callS C (As := [vI i4, vI i2]) (st := [vI i7]) (r := (some (vI r1))) (h' := h2) (mc := 0) (ms := 0) (k := 0) (n := 0) (mX7_power hq) (va_cwS 2 C.1.2.2.2.2 gX7_turns_X7_power rfl rfl rfl (by decide +kernel) ⟨Nat.le_of_ble_eq_true rfl, Nat.le_of_ble_eq_true rfl⟩) rfl rfl (Nat.le_of_ble_eq_true rfl) dX7_turns_188 (pc' := 191) rfl ?_
    refine x_icmp_ge C hf dX7_turns_191 (pc' := 194) rfl (tgt := 230) (by decide) (fun _ hf => ?_) (fun _ hf => ?_)
    ·
      refine x_iconst C (v := 1) (by decide) dX7_turns_230 (pc' := 231) rfl ?_
      exact x_zret C hf hr hlk dX7_turns_231
    ·
      refine x_aload_n C dX7_turns_194 (pc' := 195) rfl rfl rfl ?_
      refine x_getR C (ci := 7) (kf := 18) rfl (by decide) hinX7_turns_X7 lkX7_turns_0 rfl hf dX7_turns_195 (pc' := 198) rfl (fun v3 _ hf => ?_)
      refine x_iload C dX7_turns_198 (pc' := 200) rfl rfl ?_
      refine x_iaload C hf dX7_turns_200 (pc' := 201) rfl (fun v4 _ hf => ?_)
      refine x_if_ge C hf dX7_turns_201 (pc' := 204) rfl (tgt := 206) (by decide) (fun _ hf => ?_) (fun _ hf => ?_)
      ·
        refine x_aload_n C dX7_turns_206 (pc' := 207) rfl rfl rfl ?_
        refine x_getR C (ci := 7) (kf := 6) rfl (by decide) hinX7_turns_X7 lkX7_turns_1 rfl hf dX7_turns_207 (pc' := 210) rfl (fun v5 _ hf => ?_)
        refine x_sipush C (v := 162) (by decide) dX7_turns_210 (pc' := 213) rfl ?_
        refine x_iload C dX7_turns_213 (pc' := 215) rfl rfl ?_
        refine x_iadd C dX7_turns_215 (pc' := 216) rfl ?_
        refine x_aload_n C dX7_turns_216 (pc' := 217) rfl rfl rfl ?_
        refine x_getR C (ci := 7) (kf := 18) rfl (by decide) hinX7_turns_X7 lkX7_turns_0 rfl hf dX7_turns_217 (pc' := 220) rfl (fun v6 _ hf => ?_)
        refine x_iload C dX7_turns_220 (pc' := 222) rfl rfl ?_
        refine x_iaload C hf dX7_turns_222 (pc' := 223) rfl (fun v7 _ hf => ?_)
        refine x_iastore C hf dX7_turns_223 (pc' := 224) rfl (fun h8 _ hf => ?_)
        refine x_iinc C dX7_turns_224 (pc' := 227) rfl rfl (v := (i7 + 1)) rfl (by decide) rfl (lv' := [some (vR a0), none, some (vI i2), none, some (vI i4), none, none, some (vI (i7 + 1)), none, none]) rfl ?_
        refine x_goto C dX7_turns_227 (tgt := 183) (by decide) ?_
        exact ih a0 i2 i4 (i7 + 1) h8 hf
      ·
        refine x_iconst C (v := 0) (by decide) dX7_turns_204 (pc' := 205) rfl ?_
        exact x_zret C hf hr hlk dX7_turns_205
def fX7_turns_b180 (a0 : Nat) (i2 : Int32) (i4 : Int32) (h : Hp) : Option (Int32 × Hp) := fX7_turns_w183 FUEL a0 i2 i4 (0 : Int32) h
set_option maxHeartbeats 4000000 in
set_option maxRecDepth 100000 in
theorem mX7_turns_b180 {g : XG} {p : Program} {l : Launch} {e : Env} {s : State} {m : MethodId} {args : Array Value} {below : List Frame} {meth : Method} {c : Code} (C : x_C g p s m args c cX7_turns RX7 10 wsX7_turns) (hr : meth.sig.returnType = (some .boolean)) (hlk : meth.locks = false) (hnm : meth.name = yX7_turns.name) {res : Int32 × Hp} (a0 : Nat) (i2 : Int32) (i4 : Int32) (h : Hp) (hf : fX7_turns_b180 a0 i2 i4 h = some res) : XW g p l e { frames := 1, cells := 0, slots := 0, locals := 23 } s m args below meth c (MQ below (x_Q g (some (vI res.1)) res.2) args s 0 0 (x_A g)) 10 0 0 h 180 [some (vR a0), none, some (vI i2), none, some (vI i4), none, none, none, none, none] [] := by
  unfold fX7_turns_b180 at hf
  refine x_iconst C (v := 0) (by decide) dX7_turns_180 (pc' := 181) rfl ?_
  refine x_istore C dX7_turns_181 (pc' := 183) rfl (by decide) rfl (lv' := [some (vR a0), none, some (vI i2), none, some (vI i4), none, none, some (vI (0 : Int32)), none, none]) rfl ?_
  refine x_more (k' := 0) (n' := 0) (Nat.le_of_ble_eq_true rfl) (Nat.le_of_ble_eq_true rfl) ?_
  exact mX7_turns_w183 C hr hlk hnm FUEL a0 i2 i4 (0 : Int32) h hf
def fX7_turns_b165 (w60 : Nat → Int32 → Int32 → Int32 → Int32 → Int32 → Int32 → Int32 → Hp → Option (Int32 × Hp)) (a0 : Nat) (i1 : Int32) (i2 : Int32) (i3 : Int32) (i4 : Int32) (i5 : Int32) (i6 : Int32) (i7 : Int32) (i8 : Int32) (i9 : Int32) (h : Hp) : Option (Int32 × Hp) := (gR h a0 7 18).bind fun v1 => (sI h v1 0 i8 i9).bind fun h2 => w60 a0 i1 i2 i3 i4 i5 i6 (i7 + 1) h2
set_option maxHeartbeats 4000000 in
set_option maxRecDepth 100000 in
theorem mX7_turns_b165 {g : XG} {p : Program} {l : Launch} {e : Env} {s : State} {m : MethodId} {args : Array Value} {below : List Frame} {meth : Method} {c : Code} (C : x_C g p s m args c cX7_turns RX7 10 wsX7_turns) (hr : meth.sig.returnType = (some .boolean)) (hlk : meth.locks = false) (hnm : meth.name = yX7_turns.name) {res : Int32 × Hp} (w60 : Nat → Int32 → Int32 → Int32 → Int32 → Int32 → Int32 → Int32 → Hp → Option (Int32 × Hp)) (hw60 : ∀ (a0 : Nat) (i1 : Int32) (i2 : Int32) (i3 : Int32) (i4 : Int32) (i5 : Int32) (i6 : Int32) (i7 : Int32) (h : Hp), w60 a0 i1 i2 i3 i4 i5 i6 i7 h = some res → XW g p l e { frames := 1, cells := 0, slots := 0, locals := 23 } s m args below meth c (MQ below (x_Q g (some (vI res.1)) res.2) args s 0 0 (x_A g)) 10 0 0 h 60 [some (vR a0), some (vI i1), some (vI i2), some (vI i3), some (vI i4), some (vI i5), some (vI i6), some (vI i7), none, none] []) (a0 : Nat) (i1 : Int32) (i2 : Int32) (i3 : Int32) (i4 : Int32) (i5 : Int32) (i6 : Int32) (i7 : Int32) (i8 : Int32) (i9 : Int32) (h : Hp) (hf : fX7_turns_b165 w60 a0 i1 i2 i3 i4 i5 i6 i7 i8 i9 h = some res) : XW g p l e { frames := 1, cells := 0, slots := 0, locals := 23 } s m args below meth c (MQ below (x_Q g (some (vI res.1)) res.2) args s 0 0 (x_A g)) 10 0 0 h 165 [some (vR a0), some (vI i1), some (vI i2), some (vI i3), some (vI i4), some (vI i5), some (vI i6), some (vI i7), some (vI i8), some (vI i9)] [] := by
  unfold fX7_turns_b165 at hf
  refine x_aload_n C dX7_turns_165 (pc' := 166) rfl rfl rfl ?_
  refine x_getR C (ci := 7) (kf := 18) rfl (by decide) hinX7_turns_X7 lkX7_turns_0 rfl hf dX7_turns_166 (pc' := 169) rfl (fun v1 _ hf => ?_)
  refine x_iload C dX7_turns_169 (pc' := 171) rfl rfl ?_
  refine x_iload C dX7_turns_171 (pc' := 173) rfl rfl ?_
  refine x_iastore C hf dX7_turns_173 (pc' := 174) rfl (fun h2 _ hf => ?_)
  refine x_iinc C dX7_turns_174 (pc' := 177) rfl rfl (v := (i7 + 1)) rfl (by decide) rfl (lv' := [some (vR a0), some (vI i1), some (vI i2), some (vI i3), some (vI i4), some (vI i5), some (vI i6), some (vI (i7 + 1)), some (vI i8), some (vI i9)]) rfl ?_
  refine x_goto C dX7_turns_177 (tgt := 60) (by decide) ?_
  refine x_keep [true, true, true, true, true, true, true, true, false, false] rfl ?_
  exact hw60 a0 i1 i2 i3 i4 i5 i6 (i7 + 1) h2 hf
def fX7_turns_b120 (w60 : Nat → Int32 → Int32 → Int32 → Int32 → Int32 → Int32 → Int32 → Hp → Option (Int32 × Hp)) (a0 : Nat) (i1 : Int32) (i2 : Int32) (i3 : Int32) (i4 : Int32) (i5 : Int32) (i6 : Int32) (i7 : Int32) (i8 : Int32) (h : Hp) : Option (Int32 × Hp) := call (fX7_power h i4 (((i5 + i2) - (2 : Int32)) - i3)) fun r1 h2 => iDiv i7 r1 fun v3 => iRem v3 i4 fun v4 => (gR h2 a0 7 18).bind fun v5 => (aI h2 v5 0 i8).bind fun v6 => if v6 < 0 then (fX7_turns_b165 w60 a0 i1 i2 i3 i4 i5 i6 i7 i8 v4 h2) else ((gR h2 a0 7 18).bind fun v7 => (aI h2 v7 0 i8).bind fun v8 => if v8 = v4 then (fX7_turns_b165 w60 a0 i1 i2 i3 i4 i5 i6 i7 i8 v4 h2) else (retZ (0 : Int32) h2))
set_option maxHeartbeats 4000000 in
set_option maxRecDepth 100000 in
theorem mX7_turns_b120 {g : XG} {p : Program} {l : Launch} {e : Env} {s : State} {m : MethodId} {args : Array Value} {below : List Frame} {meth : Method} {c : Code} (C : x_C g p s m args c cX7_turns RX7 10 wsX7_turns) (hr : meth.sig.returnType = (some .boolean)) (hlk : meth.locks = false) (hnm : meth.name = yX7_turns.name) {res : Int32 × Hp} (w60 : Nat → Int32 → Int32 → Int32 → Int32 → Int32 → Int32 → Int32 → Hp → Option (Int32 × Hp)) (hw60 : ∀ (a0 : Nat) (i1 : Int32) (i2 : Int32) (i3 : Int32) (i4 : Int32) (i5 : Int32) (i6 : Int32) (i7 : Int32) (h : Hp), w60 a0 i1 i2 i3 i4 i5 i6 i7 h = some res → XW g p l e { frames := 1, cells := 0, slots := 0, locals := 23 } s m args below meth c (MQ below (x_Q g (some (vI res.1)) res.2) args s 0 0 (x_A g)) 10 0 0 h 60 [some (vR a0), some (vI i1), some (vI i2), some (vI i3), some (vI i4), some (vI i5), some (vI i6), some (vI i7), none, none] []) (a0 : Nat) (i1 : Int32) (i2 : Int32) (i3 : Int32) (i4 : Int32) (i5 : Int32) (i6 : Int32) (i7 : Int32) (i8 : Int32) (h : Hp) (hf : fX7_turns_b120 w60 a0 i1 i2 i3 i4 i5 i6 i7 i8 h = some res) : XW g p l e { frames := 1, cells := 0, slots := 0, locals := 23 } s m args below meth c (MQ below (x_Q g (some (vI res.1)) res.2) args s 0 0 (x_A g)) 10 0 0 h 120 [some (vR a0), some (vI i1), some (vI i2), some (vI i3), some (vI i4), some (vI i5), some (vI i6), some (vI i7), some (vI i8), none] [] := by
  unfold fX7_turns_b120 at hf
  refine x_iload C dX7_turns_120 (pc' := 122) rfl rfl ?_
  refine x_iload C dX7_turns_122 (pc' := 124) rfl rfl ?_
  refine x_iload C dX7_turns_124 (pc' := 126) rfl rfl ?_
  refine x_iload_n C dX7_turns_126 (pc' := 127) rfl rfl rfl ?_
  refine x_iadd C dX7_turns_127 (pc' := 128) rfl ?_
  refine x_iconst C (v := 2) (by decide) dX7_turns_128 (pc' := 129) rfl ?_
  refine x_isub C dX7_turns_129 (pc' := 130) rfl ?_
  refine x_iload_n C dX7_turns_130 (pc' := 131) rfl rfl rfl ?_
  refine x_isub C dX7_turns_131 (pc' := 132) rfl ?_
  obtain ⟨r1, h2, hq, hf⟩ := call_some hf
  refine x_callS C (As := [vI i4, vI (((i5 + i2) - (2 : Int32)) - i3)]) (st := [vI i7]) (r := (some (vI r1))) (h' := h2) (mc := 0) (ms := 0) (k := 0) (n := 0) (mX7_power hq) (va_cwS 2 C.1.2.2.2.2 gX7_turns_X7_power rfl rfl rfl (by decide +kernel) ⟨Nat.le_of_ble_eq_true rfl, Nat.le_of_ble_eq_true rfl⟩) rfl rfl (Nat.le_of_ble_eq_true rfl) dX7_turns_132 (pc' := 135) rfl ?_
  refine x_idiv C hf dX7_turns_135 (pc' := 136) rfl (fun _ v3 _ hf => ?_)
  refine x_iload C dX7_turns_136 (pc' := 138) rfl rfl ?_
  refine x_irem C hf dX7_turns_138 (pc' := 139) rfl (fun _ v4 _ hf => ?_)
  refine x_istore C dX7_turns_139 (pc' := 141) rfl (by decide) rfl (lv' := [some (vR a0), some (vI i1), some (vI i2), some (vI i3), some (vI i4), some (vI i5), some (vI i6), some (vI i7), some (vI i8), some (vI v4)]) rfl ?_
  refine x_aload_n C dX7_turns_141 (pc' := 142) rfl rfl rfl ?_
  refine x_getR C (ci := 7) (kf := 18) rfl (by decide) hinX7_turns_X7 lkX7_turns_0 rfl hf dX7_turns_142 (pc' := 145) rfl (fun v5 _ hf => ?_)
  refine x_iload C dX7_turns_145 (pc' := 147) rfl rfl ?_
  refine x_iaload C hf dX7_turns_147 (pc' := 148) rfl (fun v6 _ hf => ?_)
  refine x_if_lt C hf dX7_turns_148 (pc' := 151) rfl (tgt := 165) (by decide) (fun _ hf => ?_) (fun _ hf => ?_)
  ·
    refine x_more (k' := 0) (n' := 0) (Nat.le_of_ble_eq_true rfl) (Nat.le_of_ble_eq_true rfl) ?_
    exact mX7_turns_b165 C hr hlk hnm w60 hw60 a0 i1 i2 i3 i4 i5 i6 i7 i8 v4 h2 hf
  ·
    refine x_aload_n C dX7_turns_151 (pc' := 152) rfl rfl rfl ?_
    refine x_getR C (ci := 7) (kf := 18) rfl (by decide) hinX7_turns_X7 lkX7_turns_0 rfl hf dX7_turns_152 (pc' := 155) rfl (fun v7 _ hf => ?_)
    refine x_iload C dX7_turns_155 (pc' := 157) rfl rfl ?_
    refine x_iaload C hf dX7_turns_157 (pc' := 158) rfl (fun v8 _ hf => ?_)
    refine x_iload C dX7_turns_158 (pc' := 160) rfl rfl ?_
    refine x_icmp_eq C hf dX7_turns_160 (pc' := 163) rfl (tgt := 165) (by decide) (fun _ hf => ?_) (fun _ hf => ?_)
    ·
      refine x_more (k' := 0) (n' := 0) (Nat.le_of_ble_eq_true rfl) (Nat.le_of_ble_eq_true rfl) ?_
      exact mX7_turns_b165 C hr hlk hnm w60 hw60 a0 i1 i2 i3 i4 i5 i6 i7 i8 v4 h2 hf
    ·
      refine x_iconst C (v := 0) (by decide) dX7_turns_163 (pc' := 164) rfl ?_
      exact x_zret C hf hr hlk dX7_turns_164
def fX7_turns_w73 (w60 : Nat → Int32 → Int32 → Int32 → Int32 → Int32 → Int32 → Int32 → Hp → Option (Int32 × Hp)) : Nat → Nat → Int32 → Int32 → Int32 → Int32 → Int32 → Int32 → Int32 → Int32 → Int32 → Hp → Option (Int32 × Hp)
  | 0 => fun _ _ _ _ _ _ _ _ _ _ _ => none
  | n + 1 => fun a0 i1 i2 i3 i4 i5 i6 i7 i8 i9 h => if i2 ≤ i9 then (fX7_turns_b120 w60 a0 i1 i2 i3 i4 i5 i6 i7 i8 h) else (call (fX7_power h i4 ((i2 - (1 : Int32)) - i9)) fun r1 h2 => iDiv i7 r1 fun v3 => call (fX7_power h2 i4 i5) fun r4 h5 => iRem v3 r4 fun v6 => call (oK h5 a0 7 (fX7_tells h5 a0 i1 v6)) fun r7 h8 => setv (((i4 * i8) + r7)) fun v9 => (fX7_turns_w73 w60 n) a0 i1 i2 i3 i4 i5 i6 i7 v9 (i9 + 1) h8)
set_option maxHeartbeats 4000000 in
set_option maxRecDepth 100000 in
theorem mX7_turns_w73 {g : XG} {p : Program} {l : Launch} {e : Env} {s : State} {m : MethodId} {args : Array Value} {below : List Frame} {meth : Method} {c : Code} (C : x_C g p s m args c cX7_turns RX7 10 wsX7_turns) (hr : meth.sig.returnType = (some .boolean)) (hlk : meth.locks = false) (hnm : meth.name = yX7_turns.name) {res : Int32 × Hp} (w60 : Nat → Int32 → Int32 → Int32 → Int32 → Int32 → Int32 → Int32 → Hp → Option (Int32 × Hp)) (hw60 : ∀ (a0 : Nat) (i1 : Int32) (i2 : Int32) (i3 : Int32) (i4 : Int32) (i5 : Int32) (i6 : Int32) (i7 : Int32) (h : Hp), w60 a0 i1 i2 i3 i4 i5 i6 i7 h = some res → XW g p l e { frames := 1, cells := 0, slots := 0, locals := 23 } s m args below meth c (MQ below (x_Q g (some (vI res.1)) res.2) args s 0 0 (x_A g)) 10 0 0 h 60 [some (vR a0), some (vI i1), some (vI i2), some (vI i3), some (vI i4), some (vI i5), some (vI i6), some (vI i7), none, none] []) : ∀ (n : Nat) (a0 : Nat) (i1 : Int32) (i2 : Int32) (i3 : Int32) (i4 : Int32) (i5 : Int32) (i6 : Int32) (i7 : Int32) (i8 : Int32) (i9 : Int32) (h : Hp), fX7_turns_w73 w60 n a0 i1 i2 i3 i4 i5 i6 i7 i8 i9 h = some res → XW g p l e { frames := 1, cells := 0, slots := 0, locals := 23 } s m args below meth c (MQ below (x_Q g (some (vI res.1)) res.2) args s 0 0 (x_A g)) 10 0 0 h 73 [some (vR a0), some (vI i1), some (vI i2), some (vI i3), some (vI i4), some (vI i5), some (vI i6), some (vI i7), some (vI i8), some (vI i9)] [] := by
  intro n
  induction n with
  | zero =>
    intro a0 i1 i2 i3 i4 i5 i6 i7 i8 i9 h hf
    have hf2 : (none : Option (Int32 × Hp)) = some res := hf
    cases hf2
  | succ n ih =>
    intro a0 i1 i2 i3 i4 i5 i6 i7 i8 i9 h hf
    rw [fX7_turns_w73] at hf
    refine x_iload C dX7_turns_73 (pc' := 75) rfl rfl ?_
    refine x_iload_n C dX7_turns_75 (pc' := 76) rfl rfl rfl ?_
    refine x_icmp_ge C hf dX7_turns_76 (pc' := 79) rfl (tgt := 120) (by decide) (fun _ hf => ?_) (fun _ hf => ?_)
    ·
      refine x_keep [true, true, true, true, true, true, true, true, true, false] rfl ?_
      refine x_more (k' := 0) (n' := 0) (Nat.le_of_ble_eq_true rfl) (Nat.le_of_ble_eq_true rfl) ?_
      exact mX7_turns_b120 C hr hlk hnm w60 hw60 a0 i1 i2 i3 i4 i5 i6 i7 i8 h hf
    ·
      refine x_iload C dX7_turns_79 (pc' := 81) rfl rfl ?_
      refine x_iload C dX7_turns_81 (pc' := 83) rfl rfl ?_
      refine x_imul C dX7_turns_83 (pc' := 84) rfl ?_
      refine x_aload_n C dX7_turns_84 (pc' := 85) rfl rfl rfl ?_
      refine x_iload_n C dX7_turns_85 (pc' := 86) rfl rfl rfl ?_
      refine x_iload C dX7_turns_86 (pc' := 88) rfl rfl ?_
      refine x_iload C dX7_turns_88 (pc' := 90) rfl rfl ?_
      refine x_iload_n C dX7_turns_90 (pc' := 91) rfl rfl rfl ?_
      refine x_iconst C (v := 1) (by decide) dX7_turns_91 (pc' := 92) rfl ?_
      refine x_isub C dX7_turns_92 (pc' := 93) rfl ?_
      refine x_iload C dX7_turns_93 (pc' := 95) rfl rfl ?_
      refine x_isub C dX7_turns_95 (pc' := 96) rfl ?_
      obtain ⟨r1, h2, hq, hf⟩ := call_some hf
      refine x_callS C (As := [vI i4, vI ((i2 - (1 : Int32)) - i9)]) (st := [vI i7, vI i1, vR a0, vI (i4 * i8)]) (r := (some (vI r1))) (h' := h2) (mc := 0) (ms := 0) (k := 0) (n := 0) (mX7_power hq) (va_cwS 2 C.1.2.2.2.2 gX7_turns_X7_power rfl rfl rfl (by decide +kernel) ⟨Nat.le_of_ble_eq_true rfl, Nat.le_of_ble_eq_true rfl⟩) rfl rfl (Nat.le_of_ble_eq_true rfl) dX7_turns_96 (pc' := 99) rfl ?_
      refine x_idiv C hf dX7_turns_99 (pc' := 100) rfl (fun _ v3 _ hf => ?_)
      refine x_iload C dX7_turns_100 (pc' := 102) rfl rfl ?_
      refine x_iload C dX7_turns_102 (pc' := 104) rfl rfl ?_
      obtain ⟨r4, h5, hq, hf⟩ := call_some hf
      refine x_callS C (As := [vI i4, vI i5]) (st := [vI v3, vI i1, vR a0, vI (i4 * i8)]) (r := (some (vI r4))) (h' := h5) (mc := 0) (ms := 0) (k := 0) (n := 0) (mX7_power hq) (va_cwS 2 C.1.2.2.2.2 gX7_turns_X7_power rfl rfl rfl (by decide +kernel) ⟨Nat.le_of_ble_eq_true rfl, Nat.le_of_ble_eq_true rfl⟩) rfl rfl (Nat.le_of_ble_eq_true rfl) dX7_turns_104 (pc' := 107) rfl ?_
      refine x_irem C hf dX7_turns_107 (pc' := 108) rfl (fun _ v6 _ hf => ?_)
      obtain ⟨r7, h8, hq, hf⟩ := call_some hf
      obtain ⟨hob, hq⟩ := oK_some hq
      refine x_callV C (As := [vI i1, vI v6]) (st := [vI (i4 * i8)]) (r := (some (vI r7))) (h' := h8) (mc := 0) (ms := 0) (k := 0) (n := 0) (mX7_tells hq) hob (ci := 7) rfl (cwV 2 C.1.2.2.2.2 gX7_turns_X7_tells rfl rfl rfl (by decide +kernel) ⟨Nat.le_of_ble_eq_true rfl, Nat.le_of_ble_eq_true rfl⟩) rfl rfl (Nat.le_of_ble_eq_true rfl) dX7_turns_108 (pc' := 111) rfl ?_
      refine x_iadd C dX7_turns_111 (pc' := 112) rfl ?_
      refine x_nameI hf (fun v9 _ hf => ?_)
      refine x_istore C dX7_turns_112 (pc' := 114) rfl (by decide) rfl (lv' := [some (vR a0), some (vI i1), some (vI i2), some (vI i3), some (vI i4), some (vI i5), some (vI i6), some (vI i7), some (vI v9), some (vI i9)]) rfl ?_
      refine x_iinc C dX7_turns_114 (pc' := 117) rfl rfl (v := (i9 + 1)) rfl (by decide) rfl (lv' := [some (vR a0), some (vI i1), some (vI i2), some (vI i3), some (vI i4), some (vI i5), some (vI i6), some (vI i7), some (vI v9), some (vI (i9 + 1))]) rfl ?_
      refine x_goto C dX7_turns_117 (tgt := 73) (by decide) ?_
      exact ih a0 i1 i2 i3 i4 i5 i6 i7 v9 (i9 + 1) h8 hf
def fX7_turns_w60 : Nat → Nat → Int32 → Int32 → Int32 → Int32 → Int32 → Int32 → Int32 → Hp → Option (Int32 × Hp)
  | 0 => fun _ _ _ _ _ _ _ _ _ => none
  | n + 1 => fun a0 i1 i2 i3 i4 i5 i6 i7 h => if i6 ≤ i7 then (fX7_turns_b180 a0 i2 i4 h) else (fX7_turns_w73 (fX7_turns_w60 n) FUEL a0 i1 i2 i3 i4 i5 i6 i7 (0 : Int32) (0 : Int32) h)
set_option maxHeartbeats 4000000 in
set_option maxRecDepth 100000 in
theorem mX7_turns_w60 {g : XG} {p : Program} {l : Launch} {e : Env} {s : State} {m : MethodId} {args : Array Value} {below : List Frame} {meth : Method} {c : Code} (C : x_C g p s m args c cX7_turns RX7 10 wsX7_turns) (hr : meth.sig.returnType = (some .boolean)) (hlk : meth.locks = false) (hnm : meth.name = yX7_turns.name) {res : Int32 × Hp} : ∀ (n : Nat) (a0 : Nat) (i1 : Int32) (i2 : Int32) (i3 : Int32) (i4 : Int32) (i5 : Int32) (i6 : Int32) (i7 : Int32) (h : Hp), fX7_turns_w60 n a0 i1 i2 i3 i4 i5 i6 i7 h = some res → XW g p l e { frames := 1, cells := 0, slots := 0, locals := 23 } s m args below meth c (MQ below (x_Q g (some (vI res.1)) res.2) args s 0 0 (x_A g)) 10 0 0 h 60 [some (vR a0), some (vI i1), some (vI i2), some (vI i3), some (vI i4), some (vI i5), some (vI i6), some (vI i7), none, none] [] := by
  intro n
  induction n with
  | zero =>
    intro a0 i1 i2 i3 i4 i5 i6 i7 h hf
    have hf2 : (none : Option (Int32 × Hp)) = some res := hf
    cases hf2
  | succ n ih =>
    intro a0 i1 i2 i3 i4 i5 i6 i7 h hf
    rw [fX7_turns_w60] at hf
    refine x_iload C dX7_turns_60 (pc' := 62) rfl rfl ?_
    refine x_iload C dX7_turns_62 (pc' := 64) rfl rfl ?_
    refine x_icmp_ge C hf dX7_turns_64 (pc' := 67) rfl (tgt := 180) (by decide) (fun _ hf => ?_) (fun _ hf => ?_)
    ·
      refine x_keep [true, false, true, false, true, false, false, false, false, false] rfl ?_
      refine x_more (k' := 0) (n' := 0) (Nat.le_of_ble_eq_true rfl) (Nat.le_of_ble_eq_true rfl) ?_
      exact mX7_turns_b180 C hr hlk hnm a0 i2 i4 h hf
    ·
      refine x_iconst C (v := 0) (by decide) dX7_turns_67 (pc' := 68) rfl ?_
      refine x_istore C dX7_turns_68 (pc' := 70) rfl (by decide) rfl (lv' := [some (vR a0), some (vI i1), some (vI i2), some (vI i3), some (vI i4), some (vI i5), some (vI i6), some (vI i7), some (vI (0 : Int32)), none]) rfl ?_
      refine x_iconst C (v := 0) (by decide) dX7_turns_70 (pc' := 71) rfl ?_
      refine x_istore C dX7_turns_71 (pc' := 73) rfl (by decide) rfl (lv' := [some (vR a0), some (vI i1), some (vI i2), some (vI i3), some (vI i4), some (vI i5), some (vI i6), some (vI i7), some (vI (0 : Int32)), some (vI (0 : Int32))]) rfl ?_
      refine x_more (k' := 0) (n' := 0) (Nat.le_of_ble_eq_true rfl) (Nat.le_of_ble_eq_true rfl) ?_
      exact mX7_turns_w73 C hr hlk hnm (fX7_turns_w60 n) ih FUEL a0 i1 i2 i3 i4 i5 i6 i7 (0 : Int32) (0 : Int32) h hf
def fX7_turns_b57 (a0 : Nat) (i1 : Int32) (i2 : Int32) (i3 : Int32) (i4 : Int32) (i5 : Int32) (i6 : Int32) (h : Hp) : Option (Int32 × Hp) := fX7_turns_w60 FUEL a0 i1 i2 i3 i4 i5 i6 (0 : Int32) h
set_option maxHeartbeats 4000000 in
set_option maxRecDepth 100000 in
theorem mX7_turns_b57 {g : XG} {p : Program} {l : Launch} {e : Env} {s : State} {m : MethodId} {args : Array Value} {below : List Frame} {meth : Method} {c : Code} (C : x_C g p s m args c cX7_turns RX7 10 wsX7_turns) (hr : meth.sig.returnType = (some .boolean)) (hlk : meth.locks = false) (hnm : meth.name = yX7_turns.name) {res : Int32 × Hp} (a0 : Nat) (i1 : Int32) (i2 : Int32) (i3 : Int32) (i4 : Int32) (i5 : Int32) (i6 : Int32) (h : Hp) (hf : fX7_turns_b57 a0 i1 i2 i3 i4 i5 i6 h = some res) : XW g p l e { frames := 1, cells := 0, slots := 0, locals := 23 } s m args below meth c (MQ below (x_Q g (some (vI res.1)) res.2) args s 0 0 (x_A g)) 10 0 0 h 57 [some (vR a0), some (vI i1), some (vI i2), some (vI i3), some (vI i4), some (vI i5), some (vI i6), none, none, none] [] := by
  unfold fX7_turns_b57 at hf
  refine x_iconst C (v := 0) (by decide) dX7_turns_57 (pc' := 58) rfl ?_
  refine x_istore C dX7_turns_58 (pc' := 60) rfl (by decide) rfl (lv' := [some (vR a0), some (vI i1), some (vI i2), some (vI i3), some (vI i4), some (vI i5), some (vI i6), some (vI (0 : Int32)), none, none]) rfl ?_
  refine x_more (k' := 0) (n' := 0) (Nat.le_of_ble_eq_true rfl) (Nat.le_of_ble_eq_true rfl) ?_
  exact mX7_turns_w60 C hr hlk hnm FUEL a0 i1 i2 i3 i4 i5 i6 (0 : Int32) h hf
def fX7_turns_w32 : Nat → Nat → Int32 → Int32 → Int32 → Int32 → Int32 → Int32 → Int32 → Hp → Option (Int32 × Hp)
  | 0 => fun _ _ _ _ _ _ _ _ _ => none
  | n + 1 => fun a0 i1 i2 i3 i4 i5 i6 i7 h => call (fX7_power h i4 i2) fun r1 h2 => if r1 ≤ i7 then (fX7_turns_b57 a0 i1 i2 i3 i4 i5 i6 h2) else ((gR h2 a0 7 18).bind fun v3 => (sI h2 v3 0 i7 (-1 : Int32)).bind fun h4 => (fX7_turns_w32 n) a0 i1 i2 i3 i4 i5 i6 (i7 + 1) h4)
set_option maxHeartbeats 4000000 in
set_option maxRecDepth 100000 in
theorem mX7_turns_w32 {g : XG} {p : Program} {l : Launch} {e : Env} {s : State} {m : MethodId} {args : Array Value} {below : List Frame} {meth : Method} {c : Code} (C : x_C g p s m args c cX7_turns RX7 10 wsX7_turns) (hr : meth.sig.returnType = (some .boolean)) (hlk : meth.locks = false) (hnm : meth.name = yX7_turns.name) {res : Int32 × Hp} : ∀ (n : Nat) (a0 : Nat) (i1 : Int32) (i2 : Int32) (i3 : Int32) (i4 : Int32) (i5 : Int32) (i6 : Int32) (i7 : Int32) (h : Hp), fX7_turns_w32 n a0 i1 i2 i3 i4 i5 i6 i7 h = some res → XW g p l e { frames := 1, cells := 0, slots := 0, locals := 23 } s m args below meth c (MQ below (x_Q g (some (vI res.1)) res.2) args s 0 0 (x_A g)) 10 0 0 h 32 [some (vR a0), some (vI i1), some (vI i2), some (vI i3), some (vI i4), some (vI i5), some (vI i6), some (vI i7), none, none] [] := by
  intro n
  induction n with
  | zero =>
    intro a0 i1 i2 i3 i4 i5 i6 i7 h hf
    have hf2 : (none : Option (Int32 × Hp)) = some res := hf
    cases hf2
  | succ n ih =>
    intro a0 i1 i2 i3 i4 i5 i6 i7 h hf
    rw [fX7_turns_w32] at hf
    refine x_iload C dX7_turns_32 (pc' := 34) rfl rfl ?_
    refine x_iload C dX7_turns_34 (pc' := 36) rfl rfl ?_
    refine x_iload_n C dX7_turns_36 (pc' := 37) rfl rfl rfl ?_
    obtain ⟨r1, h2, hq, hf⟩ := call_some hf
    refine x_callS C (As := [vI i4, vI i2]) (st := [vI i7]) (r := (some (vI r1))) (h' := h2) (mc := 0) (ms := 0) (k := 0) (n := 0) (mX7_power hq) (va_cwS 2 C.1.2.2.2.2 gX7_turns_X7_power rfl rfl rfl (by decide +kernel) ⟨Nat.le_of_ble_eq_true rfl, Nat.le_of_ble_eq_true rfl⟩) rfl rfl (Nat.le_of_ble_eq_true rfl) dX7_turns_37 (pc' := 40) rfl ?_
    refine x_icmp_ge C hf dX7_turns_40 (pc' := 43) rfl (tgt := 57) (by decide) (fun _ hf => ?_) (fun _ hf => ?_)
    ·
      refine x_keep [true, true, true, true, true, true, true, false, false, false] rfl ?_
      refine x_more (k' := 0) (n' := 0) (Nat.le_of_ble_eq_true rfl) (Nat.le_of_ble_eq_true rfl) ?_
      exact mX7_turns_b57 C hr hlk hnm a0 i1 i2 i3 i4 i5 i6 h2 hf
    ·
      refine x_aload_n C dX7_turns_43 (pc' := 44) rfl rfl rfl ?_
      refine x_getR C (ci := 7) (kf := 18) rfl (by decide) hinX7_turns_X7 lkX7_turns_0 rfl hf dX7_turns_44 (pc' := 47) rfl (fun v3 _ hf => ?_)
      refine x_iload C dX7_turns_47 (pc' := 49) rfl rfl ?_
      refine x_iconst C (v := -1) (by decide) dX7_turns_49 (pc' := 50) rfl ?_
      refine x_iastore C hf dX7_turns_50 (pc' := 51) rfl (fun h4 _ hf => ?_)
      refine x_iinc C dX7_turns_51 (pc' := 54) rfl rfl (v := (i7 + 1)) rfl (by decide) rfl (lv' := [some (vR a0), some (vI i1), some (vI i2), some (vI i3), some (vI i4), some (vI i5), some (vI i6), some (vI (i7 + 1)), none, none]) rfl ?_
      refine x_goto C dX7_turns_54 (tgt := 32) (by decide) ?_
      exact ih a0 i1 i2 i3 i4 i5 i6 (i7 + 1) h4 hf
def fX7_turns (h : Hp) (a0 : Nat) (i1 : Int32) (i2 : Int32) (i3 : Int32) : Option (Int32 × Hp) := (gR h a0 7 4).bind fun v1 => (aI h v1 0 i1).bind fun v2 => (gR h a0 7 5).bind fun v3 => (aI h v3 0 i1).bind fun v4 => call (fX7_power h v2 ((v4 + i2) - (1 : Int32))) fun r5 h6 => fX7_turns_w32 FUEL a0 i1 i2 i3 v2 v4 r5 (0 : Int32) h6
set_option maxHeartbeats 4000000 in
set_option maxRecDepth 100000 in
theorem mX7_turns {l : Launch} {g : XG} {h : Hp} {a0 : Nat} {i1 : Int32} {i2 : Int32} {i3 : Int32} {res : Int32 × Hp} (hf : fX7_turns h a0 i1 i2 i3 = some res) : XM l g yX7_turns wsX7_turns 1 23 0 0 [vR a0, vI i1, vI i2, vI i3] h (some (vI res.1)) res.2 := by
  refine x_start (cc := cX7_turns) (maxL := 10) (ret := (some .boolean)) (by decide) rfl (Nat.le_of_ble_eq_true rfl) (lv := [some (vR a0), some (vI i1), some (vI i2), some (vI i3), none, none, none, none, none, none]) rfl ?_
  intro p e s m args below meth c C hr hlk hnm
  unfold fX7_turns at hf
  refine x_aload_n C dX7_turns_0 (pc' := 1) rfl rfl rfl ?_
  refine x_getR C (ci := 7) (kf := 4) rfl (by decide) hinX7_turns_X7 lkX7_turns_2 rfl hf dX7_turns_1 (pc' := 4) rfl (fun v1 _ hf => ?_)
  refine x_iload_n C dX7_turns_4 (pc' := 5) rfl rfl rfl ?_
  refine x_iaload C hf dX7_turns_5 (pc' := 6) rfl (fun v2 _ hf => ?_)
  refine x_istore C dX7_turns_6 (pc' := 8) rfl (by decide) rfl (lv' := [some (vR a0), some (vI i1), some (vI i2), some (vI i3), some (vI v2), none, none, none, none, none]) rfl ?_
  refine x_aload_n C dX7_turns_8 (pc' := 9) rfl rfl rfl ?_
  refine x_getR C (ci := 7) (kf := 5) rfl (by decide) hinX7_turns_X7 lkX7_turns_3 rfl hf dX7_turns_9 (pc' := 12) rfl (fun v3 _ hf => ?_)
  refine x_iload_n C dX7_turns_12 (pc' := 13) rfl rfl rfl ?_
  refine x_iaload C hf dX7_turns_13 (pc' := 14) rfl (fun v4 _ hf => ?_)
  refine x_istore C dX7_turns_14 (pc' := 16) rfl (by decide) rfl (lv' := [some (vR a0), some (vI i1), some (vI i2), some (vI i3), some (vI v2), some (vI v4), none, none, none, none]) rfl ?_
  refine x_iload C dX7_turns_16 (pc' := 18) rfl rfl ?_
  refine x_iload C dX7_turns_18 (pc' := 20) rfl rfl ?_
  refine x_iload_n C dX7_turns_20 (pc' := 21) rfl rfl rfl ?_
  refine x_iadd C dX7_turns_21 (pc' := 22) rfl ?_
  refine x_iconst C (v := 1) (by decide) dX7_turns_22 (pc' := 23) rfl ?_
  refine x_isub C dX7_turns_23 (pc' := 24) rfl ?_
  obtain ⟨r5, h6, hq, hf⟩ := call_some hf
  refine x_callS C (As := [vI v2, vI ((v4 + i2) - (1 : Int32))]) (st := []) (r := (some (vI r5))) (h' := h6) (mc := 0) (ms := 0) (k := 0) (n := 0) (mX7_power hq) (va_cwS 2 C.1.2.2.2.2 gX7_turns_X7_power rfl rfl rfl (by decide +kernel) ⟨Nat.le_of_ble_eq_true rfl, Nat.le_of_ble_eq_true rfl⟩) rfl rfl (Nat.le_of_ble_eq_true rfl) dX7_turns_24 (pc' := 27) rfl ?_
  refine x_istore C dX7_turns_27 (pc' := 29) rfl (by decide) rfl (lv' := [some (vR a0), some (vI i1), some (vI i2), some (vI i3), some (vI v2), some (vI v4), some (vI r5), none, none, none]) rfl ?_
  refine x_iconst C (v := 0) (by decide) dX7_turns_29 (pc' := 30) rfl ?_
  refine x_istore C dX7_turns_30 (pc' := 32) rfl (by decide) rfl (lv' := [some (vR a0), some (vI i1), some (vI i2), some (vI i3), some (vI v2), some (vI v4), some (vI r5), some (vI (0 : Int32)), none, none]) rfl ?_
  refine x_more (k' := 0) (n' := 0) (Nat.le_of_ble_eq_true rfl) (Nat.le_of_ble_eq_true rfl) ?_
  exact mX7_turns_w32 C hr hlk hnm FUEL a0 i1 i2 i3 v2 v4 r5 (0 : Int32) h6 hf
-- ===== X7_back
theorem lkX7_back_0 : Cond.fieldLink RX7 13 "MossRingsModel" "states" "[I" ∈ wsX7_back := by decide +kernel
theorem hinX7_back_X7 : ∀ w ∈ u_ws RX7 TX7 27, w ∈ wsX7_back := by decide +kernel
theorem lkX7_back_1 : Cond.fieldLink RX7 17 "MossRingsModel" "widths" "[I" ∈ wsX7_back := by decide +kernel
theorem lkX7_back_2 : Cond.fieldLink RX7 80 "MossRingsModel" "thrown" "I" ∈ wsX7_back := by decide +kernel
def fX7_back_b95 (w24 : Nat → Int32 → Int32 → Int32 → Hp → Option (Int32 × Hp)) (a0 : Nat) (i1 : Int32) (i2 : Int32) (i3 : Int32) (h : Hp) : Option (Int32 × Hp) := w24 a0 i1 i2 (i3 + 1) h
set_option maxHeartbeats 4000000 in
set_option maxRecDepth 100000 in
theorem mX7_back_b95 {g : XG} {p : Program} {l : Launch} {e : Env} {s : State} {m : MethodId} {args : Array Value} {below : List Frame} {meth : Method} {c : Code} (C : x_C g p s m args c cX7_back RX7 5 wsX7_back) (hr : meth.sig.returnType = (some .int)) (hlk : meth.locks = false) (hnm : meth.name = yX7_back.name) {res : Int32 × Hp} (w24 : Nat → Int32 → Int32 → Int32 → Hp → Option (Int32 × Hp)) (hw24 : ∀ (a0 : Nat) (i1 : Int32) (i2 : Int32) (i3 : Int32) (h : Hp), w24 a0 i1 i2 i3 h = some res → XW g p l e { frames := 2, cells := 0, slots := 0, locals := 52 } s m args below meth c (MQ below (x_Q g (some (vI res.1)) res.2) args s 0 0 (x_A g)) 5 0 0 h 24 [some (vR a0), some (vI i1), some (vI i2), some (vI i3), none] []) (a0 : Nat) (i1 : Int32) (i2 : Int32) (i3 : Int32) (h : Hp) (hf : fX7_back_b95 w24 a0 i1 i2 i3 h = some res) : XW g p l e { frames := 2, cells := 0, slots := 0, locals := 52 } s m args below meth c (MQ below (x_Q g (some (vI res.1)) res.2) args s 0 0 (x_A g)) 5 0 0 h 95 [some (vR a0), some (vI i1), some (vI i2), some (vI i3), none] [] := by
  unfold fX7_back_b95 at hf
  refine x_iinc C dX7_back_95 (pc' := 98) rfl rfl (v := (i3 + 1)) rfl (by decide) rfl (lv' := [some (vR a0), some (vI i1), some (vI i2), some (vI (i3 + 1)), none]) rfl ?_
  refine x_goto C dX7_back_98 (tgt := 24) (by decide) ?_
  exact hw24 a0 i1 i2 (i3 + 1) h hf
def fX7_back_b69 (a0 : Nat) (i1 : Int32) (i2 : Int32) (i3 : Int32) (i4 : Int32) (h : Hp) : Option (Int32 × Hp) := (gR h a0 7 4).bind fun v1 => (aI h v1 0 i1).bind fun v2 => (oK h a0 7 (fX7_lay h a0 i2 v2 i3)).bind fun h4 => some ((((10 : Int32) * i3) + i4), h4)
set_option maxHeartbeats 4000000 in
set_option maxRecDepth 100000 in
theorem mX7_back_b69 {g : XG} {p : Program} {l : Launch} {e : Env} {s : State} {m : MethodId} {args : Array Value} {below : List Frame} {meth : Method} {c : Code} (C : x_C g p s m args c cX7_back RX7 5 wsX7_back) (hr : meth.sig.returnType = (some .int)) (hlk : meth.locks = false) (hnm : meth.name = yX7_back.name) {res : Int32 × Hp} (a0 : Nat) (i1 : Int32) (i2 : Int32) (i3 : Int32) (i4 : Int32) (h : Hp) (hf : fX7_back_b69 a0 i1 i2 i3 i4 h = some res) : XW g p l e { frames := 2, cells := 0, slots := 0, locals := 52 } s m args below meth c (MQ below (x_Q g (some (vI res.1)) res.2) args s 0 0 (x_A g)) 5 0 0 h 69 [some (vR a0), some (vI i1), some (vI i2), some (vI i3), some (vI i4)] [] := by
  unfold fX7_back_b69 at hf
  refine x_aload_n C dX7_back_69 (pc' := 70) rfl rfl rfl ?_
  refine x_iload_n C dX7_back_70 (pc' := 71) rfl rfl rfl ?_
  refine x_aload_n C dX7_back_71 (pc' := 72) rfl rfl rfl ?_
  refine x_getR C (ci := 7) (kf := 4) rfl (by decide) hinX7_back_X7 lkX7_back_0 rfl hf dX7_back_72 (pc' := 75) rfl (fun v1 _ hf => ?_)
  refine x_iload_n C dX7_back_75 (pc' := 76) rfl rfl rfl ?_
  refine x_iaload C hf dX7_back_76 (pc' := 77) rfl (fun v2 _ hf => ?_)
  refine x_iload_n C dX7_back_77 (pc' := 78) rfl rfl rfl ?_
  obtain ⟨h4, hq, hf⟩ := bind_some hf
  obtain ⟨hob, hq⟩ := oK_some hq
  refine x_callV C (As := [vI i2, vI v2, vI i3]) (st := []) (r := none) (h' := h4) (mc := 0) (ms := 0) (k := 0) (n := 0) (mX7_lay hq) hob (ci := 7) rfl (cwV 3 C.1.2.2.2.2 gX7_back_X7_lay rfl rfl rfl (by decide +kernel) ⟨Nat.le_of_ble_eq_true rfl, Nat.le_of_ble_eq_true rfl⟩) rfl rfl (Nat.le_of_ble_eq_true rfl) dX7_back_78 (pc' := 81) rfl ?_
  refine x_bipush C (v := 10) (by decide) dX7_back_81 (pc' := 83) rfl ?_
  refine x_iload_n C dX7_back_83 (pc' := 84) rfl rfl rfl ?_
  refine x_imul C dX7_back_84 (pc' := 85) rfl ?_
  refine x_iload C dX7_back_85 (pc' := 87) rfl rfl ?_
  refine x_iadd C dX7_back_87 (pc' := 88) rfl ?_
  cases hf
  exact x_iret C hr hlk dX7_back_88
def fX7_back_w40 (w24 : Nat → Int32 → Int32 → Int32 → Hp → Option (Int32 × Hp)) : Nat → Nat → Int32 → Int32 → Int32 → Int32 → Hp → Option (Int32 × Hp)
  | 0 => fun _ _ _ _ _ _ => none
  | n + 1 => fun a0 i1 i2 i3 i4 h => (gR h a0 7 5).bind fun v1 => (aI h v1 0 i1).bind fun v2 => if ((v2 + i3) - (1 : Int32)) ≤ i4 then (fX7_back_b95 w24 a0 i1 i2 i3 h) else (call (oK h a0 7 (fX7_turns h a0 i1 i3 i4)) fun r3 h4 => if r3 = 0 then ((fX7_back_w40 w24 n) a0 i1 i2 i3 (i4 + 1) h4) else (fX7_back_b69 a0 i1 i2 i3 i4 h4))
set_option maxHeartbeats 4000000 in
set_option maxRecDepth 100000 in
theorem mX7_back_w40 {g : XG} {p : Program} {l : Launch} {e : Env} {s : State} {m : MethodId} {args : Array Value} {below : List Frame} {meth : Method} {c : Code} (C : x_C g p s m args c cX7_back RX7 5 wsX7_back) (hr : meth.sig.returnType = (some .int)) (hlk : meth.locks = false) (hnm : meth.name = yX7_back.name) {res : Int32 × Hp} (w24 : Nat → Int32 → Int32 → Int32 → Hp → Option (Int32 × Hp)) (hw24 : ∀ (a0 : Nat) (i1 : Int32) (i2 : Int32) (i3 : Int32) (h : Hp), w24 a0 i1 i2 i3 h = some res → XW g p l e { frames := 2, cells := 0, slots := 0, locals := 52 } s m args below meth c (MQ below (x_Q g (some (vI res.1)) res.2) args s 0 0 (x_A g)) 5 0 0 h 24 [some (vR a0), some (vI i1), some (vI i2), some (vI i3), none] []) : ∀ (n : Nat) (a0 : Nat) (i1 : Int32) (i2 : Int32) (i3 : Int32) (i4 : Int32) (h : Hp), fX7_back_w40 w24 n a0 i1 i2 i3 i4 h = some res → XW g p l e { frames := 2, cells := 0, slots := 0, locals := 52 } s m args below meth c (MQ below (x_Q g (some (vI res.1)) res.2) args s 0 0 (x_A g)) 5 0 0 h 40 [some (vR a0), some (vI i1), some (vI i2), some (vI i3), some (vI i4)] [] := by
  intro n
  induction n with
  | zero =>
    intro a0 i1 i2 i3 i4 h hf
    have hf2 : (none : Option (Int32 × Hp)) = some res := hf
    cases hf2
  | succ n ih =>
    intro a0 i1 i2 i3 i4 h hf
    rw [fX7_back_w40] at hf
    refine x_iload C dX7_back_40 (pc' := 42) rfl rfl ?_
    refine x_aload_n C dX7_back_42 (pc' := 43) rfl rfl rfl ?_
    refine x_getR C (ci := 7) (kf := 5) rfl (by decide) hinX7_back_X7 lkX7_back_1 rfl hf dX7_back_43 (pc' := 46) rfl (fun v1 _ hf => ?_)
    refine x_iload_n C dX7_back_46 (pc' := 47) rfl rfl rfl ?_
    refine x_iaload C hf dX7_back_47 (pc' := 48) rfl (fun v2 _ hf => ?_)
    refine x_iload_n C dX7_back_48 (pc' := 49) rfl rfl rfl ?_
    refine x_iadd C dX7_back_49 (pc' := 50) rfl ?_
    refine x_iconst C (v := 1) (by decide) dX7_back_50 (pc' := 51) rfl ?_
    refine x_isub C dX7_back_51 (pc' := 52) rfl ?_
    refine x_icmp_ge C hf dX7_back_52 (pc' := 55) rfl (tgt := 95) (by decide) (fun _ hf => ?_) (fun _ hf => ?_)
    ·
      refine x_keep [true, true, true, true, false] rfl ?_
      refine x_more (k' := 0) (n' := 0) (Nat.le_of_ble_eq_true rfl) (Nat.le_of_ble_eq_true rfl) ?_
      exact mX7_back_b95 C hr hlk hnm w24 hw24 a0 i1 i2 i3 h hf
    ·
      refine x_aload_n C dX7_back_55 (pc' := 56) rfl rfl rfl ?_
      refine x_iload_n C dX7_back_56 (pc' := 57) rfl rfl rfl ?_
      refine x_iload_n C dX7_back_57 (pc' := 58) rfl rfl rfl ?_
      refine x_iload C dX7_back_58 (pc' := 60) rfl rfl ?_
      obtain ⟨r3, h4, hq, hf⟩ := call_some hf
      obtain ⟨hob, hq⟩ := oK_some hq
      refine x_callV C (As := [vI i1, vI i3, vI i4]) (st := []) (r := (some (vI r3))) (h' := h4) (mc := 0) (ms := 0) (k := 0) (n := 0) (mX7_turns hq) hob (ci := 7) rfl (cwV 3 C.1.2.2.2.2 gX7_back_X7_turns rfl rfl rfl (by decide +kernel) ⟨Nat.le_of_ble_eq_true rfl, Nat.le_of_ble_eq_true rfl⟩) rfl rfl (Nat.le_of_ble_eq_true rfl) dX7_back_60 (pc' := 63) rfl ?_
      refine x_if_ne C hf dX7_back_63 (pc' := 66) rfl (tgt := 69) (by decide) (fun _ hf => ?_) (fun _ hf => ?_)
      ·
        refine x_goto C dX7_back_66 (tgt := 89) (by decide) ?_
        refine x_iinc C dX7_back_89 (pc' := 92) rfl rfl (v := (i4 + 1)) rfl (by decide) rfl (lv' := [some (vR a0), some (vI i1), some (vI i2), some (vI i3), some (vI (i4 + 1))]) rfl ?_
        refine x_goto C dX7_back_92 (tgt := 40) (by decide) ?_
        exact ih a0 i1 i2 i3 (i4 + 1) h4 hf
      ·
        refine x_more (k' := 0) (n' := 0) (Nat.le_of_ble_eq_true rfl) (Nat.le_of_ble_eq_true rfl) ?_
        exact mX7_back_b69 C hr hlk hnm a0 i1 i2 i3 i4 h4 hf
def fX7_back_w24 : Nat → Nat → Int32 → Int32 → Int32 → Hp → Option (Int32 × Hp)
  | 0 => fun _ _ _ _ _ => none
  | n + 1 => fun a0 i1 i2 i3 h => (gR h a0 7 4).bind fun v1 => (aI h v1 0 i1).bind fun v2 => call (fX7_widest h v2) fun r3 h4 => if r3 < i3 then (some ((0 : Int32), h4)) else (fX7_back_w40 (fX7_back_w24 n) FUEL a0 i1 i2 i3 (0 : Int32) h4)
set_option maxHeartbeats 4000000 in
set_option maxRecDepth 100000 in
theorem mX7_back_w24 {g : XG} {p : Program} {l : Launch} {e : Env} {s : State} {m : MethodId} {args : Array Value} {below : List Frame} {meth : Method} {c : Code} (C : x_C g p s m args c cX7_back RX7 5 wsX7_back) (hr : meth.sig.returnType = (some .int)) (hlk : meth.locks = false) (hnm : meth.name = yX7_back.name) {res : Int32 × Hp} : ∀ (n : Nat) (a0 : Nat) (i1 : Int32) (i2 : Int32) (i3 : Int32) (h : Hp), fX7_back_w24 n a0 i1 i2 i3 h = some res → XW g p l e { frames := 2, cells := 0, slots := 0, locals := 52 } s m args below meth c (MQ below (x_Q g (some (vI res.1)) res.2) args s 0 0 (x_A g)) 5 0 0 h 24 [some (vR a0), some (vI i1), some (vI i2), some (vI i3), none] [] := by
  intro n
  induction n with
  | zero =>
    intro a0 i1 i2 i3 h hf
    have hf2 : (none : Option (Int32 × Hp)) = some res := hf
    cases hf2
  | succ n ih =>
    intro a0 i1 i2 i3 h hf
    rw [fX7_back_w24] at hf
    refine x_iload_n C dX7_back_24 (pc' := 25) rfl rfl rfl ?_
    refine x_aload_n C dX7_back_25 (pc' := 26) rfl rfl rfl ?_
    refine x_getR C (ci := 7) (kf := 4) rfl (by decide) hinX7_back_X7 lkX7_back_0 rfl hf dX7_back_26 (pc' := 29) rfl (fun v1 _ hf => ?_)
    refine x_iload_n C dX7_back_29 (pc' := 30) rfl rfl rfl ?_
    refine x_iaload C hf dX7_back_30 (pc' := 31) rfl (fun v2 _ hf => ?_)
    obtain ⟨r3, h4, hq, hf⟩ := call_some hf
    refine x_callS C (As := [vI v2]) (st := [vI i3]) (r := (some (vI r3))) (h' := h4) (mc := 0) (ms := 0) (k := 0) (n := 0) (mX7_widest hq) (va_cwS 1 C.1.2.2.2.2 gX7_back_X7_widest rfl rfl rfl (by decide +kernel) ⟨Nat.le_of_ble_eq_true rfl, Nat.le_of_ble_eq_true rfl⟩) rfl rfl (Nat.le_of_ble_eq_true rfl) dX7_back_31 (pc' := 34) rfl ?_
    refine x_icmp_gt C hf dX7_back_34 (pc' := 37) rfl (tgt := 101) (by decide) (fun _ hf => ?_) (fun _ hf => ?_)
    ·
      refine x_iconst C (v := 0) (by decide) dX7_back_101 (pc' := 102) rfl ?_
      cases hf
      exact x_iret C hr hlk dX7_back_102
    ·
      refine x_iconst C (v := 0) (by decide) dX7_back_37 (pc' := 38) rfl ?_
      refine x_istore C dX7_back_38 (pc' := 40) rfl (by decide) rfl (lv' := [some (vR a0), some (vI i1), some (vI i2), some (vI i3), some (vI (0 : Int32))]) rfl ?_
      refine x_more (k' := 0) (n' := 0) (Nat.le_of_ble_eq_true rfl) (Nat.le_of_ble_eq_true rfl) ?_
      exact mX7_back_w40 C hr hlk hnm (fX7_back_w24 n) ih FUEL a0 i1 i2 i3 (0 : Int32) h4 hf
def fX7_back (h : Hp) (a0 : Nat) (i1 : Int32) (i2 : Int32) : Option (Int32 × Hp) := (pF h a0 7 0 (vI (0 : Int32))).bind fun h1 => call (oK h1 a0 7 (fX7_has h1 a0 i1)) fun r2 h3 => if r2 = 0 then (some ((-1 : Int32), h3)) else (call (fX7_isSlot h3 i2) fun r4 h5 => if r4 = 0 then (some ((-1 : Int32), h5)) else (fX7_back_w24 FUEL a0 i1 i2 (1 : Int32) h5))
set_option maxHeartbeats 4000000 in
set_option maxRecDepth 100000 in
theorem mX7_back {l : Launch} {g : XG} {h : Hp} {a0 : Nat} {i1 : Int32} {i2 : Int32} {res : Int32 × Hp} (hf : fX7_back h a0 i1 i2 = some res) : XM l g yX7_back wsX7_back 2 52 0 0 [vR a0, vI i1, vI i2] h (some (vI res.1)) res.2 := by
  refine x_start (cc := cX7_back) (maxL := 5) (ret := (some .int)) (by decide) rfl (Nat.le_of_ble_eq_true rfl) (lv := [some (vR a0), some (vI i1), some (vI i2), none, none]) rfl ?_
  intro p e s m args below meth c C hr hlk hnm
  unfold fX7_back at hf
  refine x_aload_n C dX7_back_0 (pc' := 1) rfl rfl rfl ?_
  refine x_iconst C (v := 0) (by decide) dX7_back_1 (pc' := 2) rfl ?_
  refine x_put C (ci := 7) (kf := 0) rfl (by decide) hinX7_back_X7 tyX7 tyX7_ok nmX7 lkX7_back_2 rfl (Or.inl rfl) rfl hf dX7_back_2 (pc' := 5) rfl (fun h1 _ hf => ?_)
  refine x_aload_n C dX7_back_5 (pc' := 6) rfl rfl rfl ?_
  refine x_iload_n C dX7_back_6 (pc' := 7) rfl rfl rfl ?_
  obtain ⟨r2, h3, hq, hf⟩ := call_some hf
  obtain ⟨hob, hq⟩ := oK_some hq
  refine x_callV C (As := [vI i1]) (st := []) (r := (some (vI r2))) (h' := h3) (mc := 0) (ms := 0) (k := 0) (n := 0) (mX7_has hq) hob (ci := 7) rfl (cwV 1 C.1.2.2.2.2 gX7_back_X7_has rfl rfl rfl (by decide +kernel) ⟨Nat.le_of_ble_eq_true rfl, Nat.le_of_ble_eq_true rfl⟩) rfl rfl (Nat.le_of_ble_eq_true rfl) dX7_back_7 (pc' := 10) rfl ?_
  refine x_if_eq C hf dX7_back_10 (pc' := 13) rfl (tgt := 20) (by decide) (fun _ hf => ?_) (fun _ hf => ?_)
  ·
    refine x_iconst C (v := -1) (by decide) dX7_back_20 (pc' := 21) rfl ?_
    cases hf
    exact x_iret C hr hlk dX7_back_21
  ·
    refine x_iload_n C dX7_back_13 (pc' := 14) rfl rfl rfl ?_
    obtain ⟨r4, h5, hq, hf⟩ := call_some hf
    refine x_callS C (As := [vI i2]) (st := []) (r := (some (vI r4))) (h' := h5) (mc := 0) (ms := 0) (k := 0) (n := 0) (mX7_isSlot hq) (va_cwS 1 C.1.2.2.2.2 gX7_back_X7_isSlot rfl rfl rfl (by decide +kernel) ⟨Nat.le_of_ble_eq_true rfl, Nat.le_of_ble_eq_true rfl⟩) rfl rfl (Nat.le_of_ble_eq_true rfl) dX7_back_14 (pc' := 17) rfl ?_
    refine x_if_ne C hf dX7_back_17 (pc' := 20) rfl (tgt := 22) (by decide) (fun _ hf => ?_) (fun _ hf => ?_)
    ·
      refine x_iconst C (v := -1) (by decide) dX7_back_20 (pc' := 21) rfl ?_
      cases hf
      exact x_iret C hr hlk dX7_back_21
    ·
      refine x_iconst C (v := 1) (by decide) dX7_back_22 (pc' := 23) rfl ?_
      refine x_istore_n C dX7_back_23 (pc' := 24) rfl rfl (by decide) rfl (lv' := [some (vR a0), some (vI i1), some (vI i2), some (vI (1 : Int32)), none]) rfl ?_
      refine x_more (k' := 0) (n' := 0) (Nat.le_of_ble_eq_true rfl) (Nat.le_of_ble_eq_true rfl) ?_
      exact mX7_back_w24 C hr hlk hnm FUEL a0 i1 i2 (1 : Int32) h5 hf
-- ===== X7_codeOf
theorem lkX7_codeOf_0 : Cond.fieldLink RX7 13 "MossRingsModel" "states" "[I" ∈ wsX7_codeOf := by decide +kernel
theorem hinX7_codeOf_X7 : ∀ w ∈ u_ws RX7 TX7 27, w ∈ wsX7_codeOf := by decide +kernel
theorem lkX7_codeOf_1 : Cond.fieldLink RX7 26 "MossRingsModel" "cells" "[I" ∈ wsX7_codeOf := by decide +kernel
def fX7_codeOf_w5 : Nat → Nat → Int32 → Int32 → Int64 → Int32 → Hp → Option (Int64 × Hp)
  | 0 => fun _ _ _ _ _ _ => none
  | n + 1 => fun a0 i1 i2 j3 i5 h => if i2 ≤ i5 then (some (j3, h)) else ((gR h a0 7 4).bind fun v1 => (aI h v1 0 i1).bind fun v2 => (gR h a0 7 9).bind fun v3 => (aI h v3 0 i5).bind fun v4 => setv ((((v2).toInt64 * j3) + (v4).toInt64)) fun v5 => (fX7_codeOf_w5 n) a0 i1 i2 v5 (i5 + 1) h)
set_option maxHeartbeats 4000000 in
set_option maxRecDepth 100000 in
theorem mX7_codeOf_w5 {g : XG} {p : Program} {l : Launch} {e : Env} {s : State} {m : MethodId} {args : Array Value} {below : List Frame} {meth : Method} {c : Code} (C : x_C g p s m args c cX7_codeOf RX7 6 wsX7_codeOf) (hr : meth.sig.returnType = (some .long)) (hlk : meth.locks = false) (hnm : meth.name = yX7_codeOf.name) {res : Int64 × Hp} : ∀ (n : Nat) (a0 : Nat) (i1 : Int32) (i2 : Int32) (j3 : Int64) (i5 : Int32) (h : Hp), fX7_codeOf_w5 n a0 i1 i2 j3 i5 h = some res → XW g p l e { frames := 0, cells := 0, slots := 0, locals := 0 } s m args below meth c (MQ below (x_Q g (some (vL res.1)) res.2) args s 0 0 (x_A g)) 6 0 0 h 5 [some (vR a0), some (vI i1), some (vI i2), some (vL j3), none, some (vI i5)] [] := by
  intro n
  induction n with
  | zero =>
    intro a0 i1 i2 j3 i5 h hf
    have hf2 : (none : Option (Int64 × Hp)) = some res := hf
    cases hf2
  | succ n ih =>
    intro a0 i1 i2 j3 i5 h hf
    rw [fX7_codeOf_w5] at hf
    refine x_iload C dX7_codeOf_5 (pc' := 7) rfl rfl ?_
    refine x_iload_n C dX7_codeOf_7 (pc' := 8) rfl rfl rfl ?_
    refine x_icmp_ge C hf dX7_codeOf_8 (pc' := 11) rfl (tgt := 36) (by decide) (fun _ hf => ?_) (fun _ hf => ?_)
    ·
      refine x_lload_n C dX7_codeOf_36 (pc' := 37) rfl rfl rfl ?_
      cases hf
      exact x_lret C hr hlk dX7_codeOf_37
    ·
      refine x_aload_n C dX7_codeOf_11 (pc' := 12) rfl rfl rfl ?_
      refine x_getR C (ci := 7) (kf := 4) rfl (by decide) hinX7_codeOf_X7 lkX7_codeOf_0 rfl hf dX7_codeOf_12 (pc' := 15) rfl (fun v1 _ hf => ?_)
      refine x_iload_n C dX7_codeOf_15 (pc' := 16) rfl rfl rfl ?_
      refine x_iaload C hf dX7_codeOf_16 (pc' := 17) rfl (fun v2 _ hf => ?_)
      refine x_i2l C dX7_codeOf_17 (pc' := 18) rfl ?_
      refine x_lload_n C dX7_codeOf_18 (pc' := 19) rfl rfl rfl ?_
      refine x_lmul C dX7_codeOf_19 (pc' := 20) rfl ?_
      refine x_aload_n C dX7_codeOf_20 (pc' := 21) rfl rfl rfl ?_
      refine x_getR C (ci := 7) (kf := 9) rfl (by decide) hinX7_codeOf_X7 lkX7_codeOf_1 rfl hf dX7_codeOf_21 (pc' := 24) rfl (fun v3 _ hf => ?_)
      refine x_iload C dX7_codeOf_24 (pc' := 26) rfl rfl ?_
      refine x_iaload C hf dX7_codeOf_26 (pc' := 27) rfl (fun v4 _ hf => ?_)
      refine x_i2l C dX7_codeOf_27 (pc' := 28) rfl ?_
      refine x_ladd C dX7_codeOf_28 (pc' := 29) rfl ?_
      refine x_nameL hf (fun v5 _ hf => ?_)
      refine x_lstore_n C dX7_codeOf_29 (pc' := 30) rfl rfl (by decide) rfl (lv' := [some (vR a0), some (vI i1), some (vI i2), some (vL v5), none, some (vI i5)]) rfl ?_
      refine x_iinc C dX7_codeOf_30 (pc' := 33) rfl rfl (v := (i5 + 1)) rfl (by decide) rfl (lv' := [some (vR a0), some (vI i1), some (vI i2), some (vL v5), none, some (vI (i5 + 1))]) rfl ?_
      refine x_goto C dX7_codeOf_33 (tgt := 5) (by decide) ?_
      exact ih a0 i1 i2 v5 (i5 + 1) h hf
def fX7_codeOf (h : Hp) (a0 : Nat) (i1 : Int32) (i2 : Int32) : Option (Int64 × Hp) := fX7_codeOf_w5 FUEL a0 i1 i2 (0 : Int64) (0 : Int32) h
set_option maxHeartbeats 4000000 in
set_option maxRecDepth 100000 in
theorem mX7_codeOf {l : Launch} {g : XG} {h : Hp} {a0 : Nat} {i1 : Int32} {i2 : Int32} {res : Int64 × Hp} (hf : fX7_codeOf h a0 i1 i2 = some res) : XM l g yX7_codeOf wsX7_codeOf 0 0 0 0 [vR a0, vI i1, vI i2] h (some (vL res.1)) res.2 := by
  refine x_start (cc := cX7_codeOf) (maxL := 6) (ret := (some .long)) (by decide) rfl (Nat.le_of_ble_eq_true rfl) (lv := [some (vR a0), some (vI i1), some (vI i2), none, none, none]) rfl ?_
  intro p e s m args below meth c C hr hlk hnm
  unfold fX7_codeOf at hf
  refine x_lconst C (v := 0) (by decide) dX7_codeOf_0 (pc' := 1) rfl ?_
  refine x_lstore_n C dX7_codeOf_1 (pc' := 2) rfl rfl (by decide) rfl (lv' := [some (vR a0), some (vI i1), some (vI i2), some (vL (0 : Int64)), none, none]) rfl ?_
  refine x_iconst C (v := 0) (by decide) dX7_codeOf_2 (pc' := 3) rfl ?_
  refine x_istore C dX7_codeOf_3 (pc' := 5) rfl (by decide) rfl (lv' := [some (vR a0), some (vI i1), some (vI i2), some (vL (0 : Int64)), none, some (vI (0 : Int32))]) rfl ?_
  refine x_more (k' := 0) (n' := 0) (Nat.le_of_ble_eq_true rfl) (Nat.le_of_ble_eq_true rfl) ?_
  exact mX7_codeOf_w5 C hr hlk hnm FUEL a0 i1 i2 (0 : Int64) (0 : Int32) h hf
-- ===== X7_height
theorem lkX7_height_0 : Cond.fieldLink RX7 62 "MossRingsModel" "places" "[I" ∈ wsX7_height := by decide +kernel
theorem hinX7_height_X7 : ∀ w ∈ u_ws RX7 TX7 27, w ∈ wsX7_height := by decide +kernel
theorem lkX7_height_1 : Cond.fieldLink RX7 187 "MossRingsModel" "round" "I" ∈ wsX7_height := by decide +kernel
theorem lkX7_height_2 : Cond.fieldLink RX7 58 "MossRingsModel" "codes" "[J" ∈ wsX7_height := by decide +kernel
theorem lkX7_height_3 : Cond.fieldLink RX7 91 "MossRingsModel" "size" "I" ∈ wsX7_height := by decide +kernel
theorem lkX7_height_4 : Cond.constant RX7 61 (65536 : Int32) ∈ wsX7_height := by decide +kernel
theorem lkX7_height_5 : Cond.constantLong RX7 183 (2654435761 : Int64) ∈ wsX7_height := by decide +kernel
theorem lkX7_height_6 : Cond.constantLong RX7 185 (65535 : Int64) ∈ wsX7_height := by decide +kernel
theorem lkX7_height_7 : Cond.fieldLink RX7 80 "MossRingsModel" "thrown" "I" ∈ wsX7_height := by decide +kernel
def fX7_height_b138 (a0 : Nat) (i2 : Int32) (i5 : Int32) (h : Hp) : Option (Int32 × Hp) := (gR h a0 7 20).bind fun v1 => (aI h v1 0 i5).bind fun v2 => (pF h a0 7 21 (vI (i2 - v2))).bind fun h3 => (gR h3 a0 7 20).bind fun v4 => (aI h3 v4 0 i5).bind fun v5 => some (v5, h3)
set_option maxHeartbeats 4000000 in
set_option maxRecDepth 100000 in
theorem mX7_height_b138 {g : XG} {p : Program} {l : Launch} {e : Env} {s : State} {m : MethodId} {args : Array Value} {below : List Frame} {meth : Method} {c : Code} (C : x_C g p s m args c cX7_height RX7 6 wsX7_height) (hr : meth.sig.returnType = (some .int)) (hlk : meth.locks = false) (hnm : meth.name = yX7_height.name) {res : Int32 × Hp} (a0 : Nat) (i2 : Int32) (i5 : Int32) (h : Hp) (hf : fX7_height_b138 a0 i2 i5 h = some res) : XW g p l e { frames := 3, cells := 0, slots := 0, locals := 70 } s m args below meth c (MQ below (x_Q g (some (vI res.1)) res.2) args s 0 0 (x_A g)) 6 0 0 h 138 [some (vR a0), none, some (vI i2), none, none, some (vI i5)] [] := by
  unfold fX7_height_b138 at hf
  refine x_aload_n C dX7_height_138 (pc' := 139) rfl rfl rfl ?_
  refine x_iload_n C dX7_height_139 (pc' := 140) rfl rfl rfl ?_
  refine x_aload_n C dX7_height_140 (pc' := 141) rfl rfl rfl ?_
  refine x_getR C (ci := 7) (kf := 20) rfl (by decide) hinX7_height_X7 lkX7_height_0 rfl hf dX7_height_141 (pc' := 144) rfl (fun v1 _ hf => ?_)
  refine x_iload C dX7_height_144 (pc' := 146) rfl rfl ?_
  refine x_iaload C hf dX7_height_146 (pc' := 147) rfl (fun v2 _ hf => ?_)
  refine x_isub C dX7_height_147 (pc' := 148) rfl ?_
  refine x_put C (ci := 7) (kf := 21) rfl (by decide) hinX7_height_X7 tyX7 tyX7_ok nmX7 lkX7_height_1 rfl (Or.inl rfl) rfl hf dX7_height_148 (pc' := 151) rfl (fun h3 _ hf => ?_)
  refine x_aload_n C dX7_height_151 (pc' := 152) rfl rfl rfl ?_
  refine x_getR C (ci := 7) (kf := 20) rfl (by decide) hinX7_height_X7 lkX7_height_0 rfl hf dX7_height_152 (pc' := 155) rfl (fun v4 _ hf => ?_)
  refine x_iload C dX7_height_155 (pc' := 157) rfl rfl ?_
  refine x_iaload C hf dX7_height_157 (pc' := 158) rfl (fun v5 _ hf => ?_)
  cases hf
  exact x_iret C hr hlk dX7_height_158
def fX7_height_b128 (w57 : Nat → Int32 → Int32 → Hp → Option (Int32 × Hp)) (a0 : Nat) (i1 : Int32) (i2 : Int32) (j3 : Int64) (i5 : Int32) (h : Hp) : Option (Int32 × Hp) := (gR h a0 7 20).bind fun v1 => (aI h v1 0 i5).bind fun v2 => if v2 < 0 then ((gR h a0 7 19).bind fun v3 => (sL h v3 i2 j3).bind fun h4 => (gR h4 a0 7 20).bind fun v5 => (sI h4 v5 0 i5 i2).bind fun h6 => (gI h6 a0 7 3).bind fun v7 => (oK h6 a0 7 (fX7_step h6 a0 i1 v7)).bind fun h9 => w57 a0 i1 (i2 + 1) h9) else (fX7_height_b138 a0 i2 i5 h)
set_option maxHeartbeats 4000000 in
set_option maxRecDepth 100000 in
theorem mX7_height_b128 {g : XG} {p : Program} {l : Launch} {e : Env} {s : State} {m : MethodId} {args : Array Value} {below : List Frame} {meth : Method} {c : Code} (C : x_C g p s m args c cX7_height RX7 6 wsX7_height) (hr : meth.sig.returnType = (some .int)) (hlk : meth.locks = false) (hnm : meth.name = yX7_height.name) {res : Int32 × Hp} (w57 : Nat → Int32 → Int32 → Hp → Option (Int32 × Hp)) (hw57 : ∀ (a0 : Nat) (i1 : Int32) (i2 : Int32) (h : Hp), w57 a0 i1 i2 h = some res → XW g p l e { frames := 3, cells := 0, slots := 0, locals := 70 } s m args below meth c (MQ below (x_Q g (some (vI res.1)) res.2) args s 0 0 (x_A g)) 6 0 0 h 57 [some (vR a0), some (vI i1), some (vI i2), none, none, none] []) (a0 : Nat) (i1 : Int32) (i2 : Int32) (j3 : Int64) (i5 : Int32) (h : Hp) (hf : fX7_height_b128 w57 a0 i1 i2 j3 i5 h = some res) : XW g p l e { frames := 3, cells := 0, slots := 0, locals := 70 } s m args below meth c (MQ below (x_Q g (some (vI res.1)) res.2) args s 0 0 (x_A g)) 6 0 0 h 128 [some (vR a0), some (vI i1), some (vI i2), some (vL j3), none, some (vI i5)] [] := by
  unfold fX7_height_b128 at hf
  refine x_aload_n C dX7_height_128 (pc' := 129) rfl rfl rfl ?_
  refine x_getR C (ci := 7) (kf := 20) rfl (by decide) hinX7_height_X7 lkX7_height_0 rfl hf dX7_height_129 (pc' := 132) rfl (fun v1 _ hf => ?_)
  refine x_iload C dX7_height_132 (pc' := 134) rfl rfl ?_
  refine x_iaload C hf dX7_height_134 (pc' := 135) rfl (fun v2 _ hf => ?_)
  refine x_if_lt C hf dX7_height_135 (pc' := 138) rfl (tgt := 159) (by decide) (fun _ hf => ?_) (fun _ hf => ?_)
  ·
    refine x_aload_n C dX7_height_159 (pc' := 160) rfl rfl rfl ?_
    refine x_getR C (ci := 7) (kf := 19) rfl (by decide) hinX7_height_X7 lkX7_height_2 rfl hf dX7_height_160 (pc' := 163) rfl (fun v3 _ hf => ?_)
    refine x_iload_n C dX7_height_163 (pc' := 164) rfl rfl rfl ?_
    refine x_lload_n C dX7_height_164 (pc' := 165) rfl rfl rfl ?_
    refine x_lastore C hf dX7_height_165 (pc' := 166) rfl (fun h4 _ hf => ?_)
    refine x_aload_n C dX7_height_166 (pc' := 167) rfl rfl rfl ?_
    refine x_getR C (ci := 7) (kf := 20) rfl (by decide) hinX7_height_X7 lkX7_height_0 rfl hf dX7_height_167 (pc' := 170) rfl (fun v5 _ hf => ?_)
    refine x_iload C dX7_height_170 (pc' := 172) rfl rfl ?_
    refine x_iload_n C dX7_height_172 (pc' := 173) rfl rfl rfl ?_
    refine x_iastore C hf dX7_height_173 (pc' := 174) rfl (fun h6 _ hf => ?_)
    refine x_aload_n C dX7_height_174 (pc' := 175) rfl rfl rfl ?_
    refine x_iload_n C dX7_height_175 (pc' := 176) rfl rfl rfl ?_
    refine x_aload_n C dX7_height_176 (pc' := 177) rfl rfl rfl ?_
    refine x_getI C (ci := 7) (kf := 3) rfl (by decide) hinX7_height_X7 lkX7_height_3 rfl hf dX7_height_177 (pc' := 180) rfl (fun v7 _ hf => ?_)
    obtain ⟨h9, hq, hf⟩ := bind_some hf
    obtain ⟨hob, hq⟩ := oK_some hq
    refine x_callV C (As := [vI i1, vI v7]) (st := []) (r := none) (h' := h9) (mc := 0) (ms := 0) (k := 0) (n := 0) (mX7_step hq) hob (ci := 7) rfl (cwV 2 C.1.2.2.2.2 gX7_height_X7_step rfl rfl rfl (by decide +kernel) ⟨Nat.le_of_ble_eq_true rfl, Nat.le_of_ble_eq_true rfl⟩) rfl rfl (Nat.le_of_ble_eq_true rfl) dX7_height_180 (pc' := 183) rfl ?_
    refine x_iinc C dX7_height_183 (pc' := 186) rfl rfl (v := (i2 + 1)) rfl (by decide) rfl (lv' := [some (vR a0), some (vI i1), some (vI (i2 + 1)), some (vL j3), none, some (vI i5)]) rfl ?_
    refine x_goto C dX7_height_186 (tgt := 57) (by decide) ?_
    refine x_keep [true, true, true, false, false, false] rfl ?_
    exact hw57 a0 i1 (i2 + 1) h9 hf
  ·
    refine x_keep [true, false, true, false, false, true] rfl ?_
    refine x_more (k' := 0) (n' := 0) (Nat.le_of_ble_eq_true rfl) (Nat.le_of_ble_eq_true rfl) ?_
    exact mX7_height_b138 C hr hlk hnm a0 i2 i5 h hf
def fX7_height_w89 (w57 : Nat → Int32 → Int32 → Hp → Option (Int32 × Hp)) : Nat → Nat → Int32 → Int32 → Int64 → Int32 → Hp → Option (Int32 × Hp)
  | 0 => fun _ _ _ _ _ _ => none
  | n + 1 => fun a0 i1 i2 j3 i5 h => (gR h a0 7 20).bind fun v1 => (aI h v1 0 i5).bind fun v2 => if v2 < 0 then (fX7_height_b128 w57 a0 i1 i2 j3 i5 h) else ((gR h a0 7 19).bind fun v3 => (gR h a0 7 20).bind fun v4 => (aI h v4 0 i5).bind fun v5 => (aL h v3 v5).bind fun v6 => if (lg_cmp v6 j3) = 0 then (fX7_height_b128 w57 a0 i1 i2 j3 i5 h) else (iRem (i5 + (1 : Int32)) (65536 : Int32) fun v7 => (fX7_height_w89 w57 n) a0 i1 i2 j3 v7 h))
set_option maxHeartbeats 4000000 in
set_option maxRecDepth 100000 in
theorem mX7_height_w89 {g : XG} {p : Program} {l : Launch} {e : Env} {s : State} {m : MethodId} {args : Array Value} {below : List Frame} {meth : Method} {c : Code} (C : x_C g p s m args c cX7_height RX7 6 wsX7_height) (hr : meth.sig.returnType = (some .int)) (hlk : meth.locks = false) (hnm : meth.name = yX7_height.name) {res : Int32 × Hp} (w57 : Nat → Int32 → Int32 → Hp → Option (Int32 × Hp)) (hw57 : ∀ (a0 : Nat) (i1 : Int32) (i2 : Int32) (h : Hp), w57 a0 i1 i2 h = some res → XW g p l e { frames := 3, cells := 0, slots := 0, locals := 70 } s m args below meth c (MQ below (x_Q g (some (vI res.1)) res.2) args s 0 0 (x_A g)) 6 0 0 h 57 [some (vR a0), some (vI i1), some (vI i2), none, none, none] []) : ∀ (n : Nat) (a0 : Nat) (i1 : Int32) (i2 : Int32) (j3 : Int64) (i5 : Int32) (h : Hp), fX7_height_w89 w57 n a0 i1 i2 j3 i5 h = some res → XW g p l e { frames := 3, cells := 0, slots := 0, locals := 70 } s m args below meth c (MQ below (x_Q g (some (vI res.1)) res.2) args s 0 0 (x_A g)) 6 0 0 h 89 [some (vR a0), some (vI i1), some (vI i2), some (vL j3), none, some (vI i5)] [] := by
  intro n
  induction n with
  | zero =>
    intro a0 i1 i2 j3 i5 h hf
    have hf2 : (none : Option (Int32 × Hp)) = some res := hf
    cases hf2
  | succ n ih =>
    intro a0 i1 i2 j3 i5 h hf
    rw [fX7_height_w89] at hf
    refine x_aload_n C dX7_height_89 (pc' := 90) rfl rfl rfl ?_
    refine x_getR C (ci := 7) (kf := 20) rfl (by decide) hinX7_height_X7 lkX7_height_0 rfl hf dX7_height_90 (pc' := 93) rfl (fun v1 _ hf => ?_)
    refine x_iload C dX7_height_93 (pc' := 95) rfl rfl ?_
    refine x_iaload C hf dX7_height_95 (pc' := 96) rfl (fun v2 _ hf => ?_)
    refine x_if_lt C hf dX7_height_96 (pc' := 99) rfl (tgt := 128) (by decide) (fun _ hf => ?_) (fun _ hf => ?_)
    ·
      refine x_more (k' := 0) (n' := 0) (Nat.le_of_ble_eq_true rfl) (Nat.le_of_ble_eq_true rfl) ?_
      exact mX7_height_b128 C hr hlk hnm w57 hw57 a0 i1 i2 j3 i5 h hf
    ·
      refine x_aload_n C dX7_height_99 (pc' := 100) rfl rfl rfl ?_
      refine x_getR C (ci := 7) (kf := 19) rfl (by decide) hinX7_height_X7 lkX7_height_2 rfl hf dX7_height_100 (pc' := 103) rfl (fun v3 _ hf => ?_)
      refine x_aload_n C dX7_height_103 (pc' := 104) rfl rfl rfl ?_
      refine x_getR C (ci := 7) (kf := 20) rfl (by decide) hinX7_height_X7 lkX7_height_0 rfl hf dX7_height_104 (pc' := 107) rfl (fun v4 _ hf => ?_)
      refine x_iload C dX7_height_107 (pc' := 109) rfl rfl ?_
      refine x_iaload C hf dX7_height_109 (pc' := 110) rfl (fun v5 _ hf => ?_)
      refine x_laload C hf dX7_height_110 (pc' := 111) rfl (fun v6 _ hf => ?_)
      refine x_lload_n C dX7_height_111 (pc' := 112) rfl rfl rfl ?_
      refine x_lcmp C dX7_height_112 (pc' := 113) rfl ?_
      refine x_if_eq C hf dX7_height_113 (pc' := 116) rfl (tgt := 128) (by decide) (fun _ hf => ?_) (fun _ hf => ?_)
      ·
        refine x_more (k' := 0) (n' := 0) (Nat.le_of_ble_eq_true rfl) (Nat.le_of_ble_eq_true rfl) ?_
        exact mX7_height_b128 C hr hlk hnm w57 hw57 a0 i1 i2 j3 i5 h hf
      ·
        refine x_iload C dX7_height_116 (pc' := 118) rfl rfl ?_
        refine x_iconst C (v := 1) (by decide) dX7_height_118 (pc' := 119) rfl ?_
        refine x_iadd C dX7_height_119 (pc' := 120) rfl ?_
        refine x_ldc C lkX7_height_4 dX7_height_120 (pc' := 122) rfl ?_
        refine x_irem C hf dX7_height_122 (pc' := 123) rfl (fun _ v7 _ hf => ?_)
        refine x_istore C dX7_height_123 (pc' := 125) rfl (by decide) rfl (lv' := [some (vR a0), some (vI i1), some (vI i2), some (vL j3), none, some (vI v7)]) rfl ?_
        refine x_goto C dX7_height_125 (tgt := 89) (by decide) ?_
        exact ih a0 i1 i2 j3 v7 h hf
def fX7_height_w57 : Nat → Nat → Int32 → Int32 → Hp → Option (Int32 × Hp)
  | 0 => fun _ _ _ _ => none
  | n + 1 => fun a0 i1 i2 h => if (20000 : Int32) < i2 then (some ((-1 : Int32), h)) else ((gI h a0 7 3).bind fun v1 => call (oK h a0 7 (fX7_codeOf h a0 i1 v1)) fun r2 h3 => setv (((((r2 * (2654435761 : Int64)) >>> (((20 : Int32)).toInt64 &&& 63)) &&& (65535 : Int64))).toInt32) fun v4 => fX7_height_w89 (fX7_height_w57 n) FUEL a0 i1 i2 r2 v4 h3)
set_option maxHeartbeats 4000000 in
set_option maxRecDepth 100000 in
theorem mX7_height_w57 {g : XG} {p : Program} {l : Launch} {e : Env} {s : State} {m : MethodId} {args : Array Value} {below : List Frame} {meth : Method} {c : Code} (C : x_C g p s m args c cX7_height RX7 6 wsX7_height) (hr : meth.sig.returnType = (some .int)) (hlk : meth.locks = false) (hnm : meth.name = yX7_height.name) {res : Int32 × Hp} : ∀ (n : Nat) (a0 : Nat) (i1 : Int32) (i2 : Int32) (h : Hp), fX7_height_w57 n a0 i1 i2 h = some res → XW g p l e { frames := 3, cells := 0, slots := 0, locals := 70 } s m args below meth c (MQ below (x_Q g (some (vI res.1)) res.2) args s 0 0 (x_A g)) 6 0 0 h 57 [some (vR a0), some (vI i1), some (vI i2), none, none, none] [] := by
  intro n
  induction n with
  | zero =>
    intro a0 i1 i2 h hf
    have hf2 : (none : Option (Int32 × Hp)) = some res := hf
    cases hf2
  | succ n ih =>
    intro a0 i1 i2 h hf
    rw [fX7_height_w57] at hf
    refine x_iload_n C dX7_height_57 (pc' := 58) rfl rfl rfl ?_
    refine x_sipush C (v := 20000) (by decide) dX7_height_58 (pc' := 61) rfl ?_
    refine x_icmp_gt C hf dX7_height_61 (pc' := 64) rfl (tgt := 189) (by decide) (fun _ hf => ?_) (fun _ hf => ?_)
    ·
      refine x_iconst C (v := -1) (by decide) dX7_height_189 (pc' := 190) rfl ?_
      cases hf
      exact x_iret C hr hlk dX7_height_190
    ·
      refine x_aload_n C dX7_height_64 (pc' := 65) rfl rfl rfl ?_
      refine x_iload_n C dX7_height_65 (pc' := 66) rfl rfl rfl ?_
      refine x_aload_n C dX7_height_66 (pc' := 67) rfl rfl rfl ?_
      refine x_getI C (ci := 7) (kf := 3) rfl (by decide) hinX7_height_X7 lkX7_height_3 rfl hf dX7_height_67 (pc' := 70) rfl (fun v1 _ hf => ?_)
      obtain ⟨r2, h3, hq, hf⟩ := call_some hf
      obtain ⟨hob, hq⟩ := oK_some hq
      refine x_callV C (As := [vI i1, vI v1]) (st := []) (r := (some (vL r2))) (h' := h3) (mc := 0) (ms := 0) (k := 0) (n := 0) (mX7_codeOf hq) hob (ci := 7) rfl (cwV 2 C.1.2.2.2.2 gX7_height_X7_codeOf rfl rfl rfl (by decide +kernel) ⟨Nat.le_of_ble_eq_true rfl, Nat.le_of_ble_eq_true rfl⟩) rfl rfl (Nat.le_of_ble_eq_true rfl) dX7_height_70 (pc' := 73) rfl ?_
      refine x_lstore_n C dX7_height_73 (pc' := 74) rfl rfl (by decide) rfl (lv' := [some (vR a0), some (vI i1), some (vI i2), some (vL r2), none, none]) rfl ?_
      refine x_lload_n C dX7_height_74 (pc' := 75) rfl rfl rfl ?_
      refine x_ldc2 C lkX7_height_5 dX7_height_75 (pc' := 78) rfl ?_
      refine x_lmul C dX7_height_78 (pc' := 79) rfl ?_
      refine x_bipush C (v := 20) (by decide) dX7_height_79 (pc' := 81) rfl ?_
      refine x_lshr C dX7_height_81 (pc' := 82) rfl ?_
      refine x_ldc2 C lkX7_height_6 dX7_height_82 (pc' := 85) rfl ?_
      refine x_land C dX7_height_85 (pc' := 86) rfl ?_
      refine x_l2i C dX7_height_86 (pc' := 87) rfl ?_
      refine x_nameI hf (fun v4 _ hf => ?_)
      refine x_istore C dX7_height_87 (pc' := 89) rfl (by decide) rfl (lv' := [some (vR a0), some (vI i1), some (vI i2), some (vL r2), none, some (vI v4)]) rfl ?_
      refine x_more (k' := 0) (n' := 0) (Nat.le_of_ble_eq_true rfl) (Nat.le_of_ble_eq_true rfl) ?_
      exact mX7_height_w89 C hr hlk hnm (fX7_height_w57 n) ih FUEL a0 i1 i2 r2 v4 h3 hf
def fX7_height_b55 (a0 : Nat) (i1 : Int32) (h : Hp) : Option (Int32 × Hp) := fX7_height_w57 FUEL a0 i1 (0 : Int32) h
set_option maxHeartbeats 4000000 in
set_option maxRecDepth 100000 in
theorem mX7_height_b55 {g : XG} {p : Program} {l : Launch} {e : Env} {s : State} {m : MethodId} {args : Array Value} {below : List Frame} {meth : Method} {c : Code} (C : x_C g p s m args c cX7_height RX7 6 wsX7_height) (hr : meth.sig.returnType = (some .int)) (hlk : meth.locks = false) (hnm : meth.name = yX7_height.name) {res : Int32 × Hp} (a0 : Nat) (i1 : Int32) (h : Hp) (hf : fX7_height_b55 a0 i1 h = some res) : XW g p l e { frames := 3, cells := 0, slots := 0, locals := 70 } s m args below meth c (MQ below (x_Q g (some (vI res.1)) res.2) args s 0 0 (x_A g)) 6 0 0 h 55 [some (vR a0), some (vI i1), none, none, none, none] [] := by
  unfold fX7_height_b55 at hf
  refine x_iconst C (v := 0) (by decide) dX7_height_55 (pc' := 56) rfl ?_
  refine x_istore_n C dX7_height_56 (pc' := 57) rfl rfl (by decide) rfl (lv' := [some (vR a0), some (vI i1), some (vI (0 : Int32)), none, none, none]) rfl ?_
  refine x_more (k' := 0) (n' := 0) (Nat.le_of_ble_eq_true rfl) (Nat.le_of_ble_eq_true rfl) ?_
  exact mX7_height_w57 C hr hlk hnm FUEL a0 i1 (0 : Int32) h hf
def fX7_height_w36 : Nat → Nat → Int32 → Int32 → Hp → Option (Int32 × Hp)
  | 0 => fun _ _ _ _ => none
  | n + 1 => fun a0 i1 i2 h => if (65536 : Int32) ≤ i2 then (fX7_height_b55 a0 i1 h) else ((gR h a0 7 20).bind fun v1 => (sI h v1 0 i2 (-1 : Int32)).bind fun h2 => (fX7_height_w36 n) a0 i1 (i2 + 1) h2)
set_option maxHeartbeats 4000000 in
set_option maxRecDepth 100000 in
theorem mX7_height_w36 {g : XG} {p : Program} {l : Launch} {e : Env} {s : State} {m : MethodId} {args : Array Value} {below : List Frame} {meth : Method} {c : Code} (C : x_C g p s m args c cX7_height RX7 6 wsX7_height) (hr : meth.sig.returnType = (some .int)) (hlk : meth.locks = false) (hnm : meth.name = yX7_height.name) {res : Int32 × Hp} : ∀ (n : Nat) (a0 : Nat) (i1 : Int32) (i2 : Int32) (h : Hp), fX7_height_w36 n a0 i1 i2 h = some res → XW g p l e { frames := 3, cells := 0, slots := 0, locals := 70 } s m args below meth c (MQ below (x_Q g (some (vI res.1)) res.2) args s 0 0 (x_A g)) 6 0 0 h 36 [some (vR a0), some (vI i1), some (vI i2), none, none, none] [] := by
  intro n
  induction n with
  | zero =>
    intro a0 i1 i2 h hf
    have hf2 : (none : Option (Int32 × Hp)) = some res := hf
    cases hf2
  | succ n ih =>
    intro a0 i1 i2 h hf
    rw [fX7_height_w36] at hf
    refine x_iload_n C dX7_height_36 (pc' := 37) rfl rfl rfl ?_
    refine x_ldc C lkX7_height_4 dX7_height_37 (pc' := 39) rfl ?_
    refine x_icmp_ge C hf dX7_height_39 (pc' := 42) rfl (tgt := 55) (by decide) (fun _ hf => ?_) (fun _ hf => ?_)
    ·
      refine x_keep [true, true, false, false, false, false] rfl ?_
      refine x_more (k' := 0) (n' := 0) (Nat.le_of_ble_eq_true rfl) (Nat.le_of_ble_eq_true rfl) ?_
      exact mX7_height_b55 C hr hlk hnm a0 i1 h hf
    ·
      refine x_aload_n C dX7_height_42 (pc' := 43) rfl rfl rfl ?_
      refine x_getR C (ci := 7) (kf := 20) rfl (by decide) hinX7_height_X7 lkX7_height_0 rfl hf dX7_height_43 (pc' := 46) rfl (fun v1 _ hf => ?_)
      refine x_iload_n C dX7_height_46 (pc' := 47) rfl rfl rfl ?_
      refine x_iconst C (v := -1) (by decide) dX7_height_47 (pc' := 48) rfl ?_
      refine x_iastore C hf dX7_height_48 (pc' := 49) rfl (fun h2 _ hf => ?_)
      refine x_iinc C dX7_height_49 (pc' := 52) rfl rfl (v := (i2 + 1)) rfl (by decide) rfl (lv' := [some (vR a0), some (vI i1), some (vI (i2 + 1)), none, none, none]) rfl ?_
      refine x_goto C dX7_height_52 (tgt := 36) (by decide) ?_
      exact ih a0 i1 (i2 + 1) h2 hf
def fX7_height (h : Hp) (a0 : Nat) (i1 : Int32) : Option (Int32 × Hp) := (pF h a0 7 0 (vI (0 : Int32))).bind fun h1 => (oK h1 a0 7 (fX7_taken h1 a0)).bind fun h3 => call (oK h3 a0 7 (fX7_has h3 a0 i1)) fun r4 h5 => if r4 = 0 then (some ((-1 : Int32), h5)) else (call (oK h5 a0 7 (fX7_areStates h5 a0 i1 (1 : Int32) (20 : Int32))) fun r6 h7 => if r6 = 0 then (some ((-1 : Int32), h7)) else ((oK h7 a0 7 (fX7_takeCells h7 a0)).bind fun h9 => fX7_height_w36 FUEL a0 i1 (0 : Int32) h9))
set_option maxHeartbeats 4000000 in
set_option maxRecDepth 100000 in
theorem mX7_height {l : Launch} {g : XG} {h : Hp} {a0 : Nat} {i1 : Int32} {res : Int32 × Hp} (hf : fX7_height h a0 i1 = some res) : XM l g yX7_height wsX7_height 3 70 0 0 [vR a0, vI i1] h (some (vI res.1)) res.2 := by
  refine x_start (cc := cX7_height) (maxL := 6) (ret := (some .int)) (by decide) rfl (Nat.le_of_ble_eq_true rfl) (lv := [some (vR a0), some (vI i1), none, none, none, none]) rfl ?_
  intro p e s m args below meth c C hr hlk hnm
  unfold fX7_height at hf
  refine x_aload_n C dX7_height_0 (pc' := 1) rfl rfl rfl ?_
  refine x_iconst C (v := 0) (by decide) dX7_height_1 (pc' := 2) rfl ?_
  refine x_put C (ci := 7) (kf := 0) rfl (by decide) hinX7_height_X7 tyX7 tyX7_ok nmX7 lkX7_height_7 rfl (Or.inl rfl) rfl hf dX7_height_2 (pc' := 5) rfl (fun h1 _ hf => ?_)
  refine x_aload_n C dX7_height_5 (pc' := 6) rfl rfl rfl ?_
  obtain ⟨h3, hq, hf⟩ := bind_some hf
  obtain ⟨hob, hq⟩ := oK_some hq
  refine x_callV C (As := []) (st := []) (r := none) (h' := h3) (mc := 0) (ms := 0) (k := 0) (n := 0) (mX7_taken hq) hob (ci := 7) rfl (cwV 0 C.1.2.2.2.2 gX7_height_X7_taken rfl rfl rfl (by decide +kernel) ⟨Nat.le_of_ble_eq_true rfl, Nat.le_of_ble_eq_true rfl⟩) rfl rfl (Nat.le_of_ble_eq_true rfl) dX7_height_6 (pc' := 9) rfl ?_
  refine x_aload_n C dX7_height_9 (pc' := 10) rfl rfl rfl ?_
  refine x_iload_n C dX7_height_10 (pc' := 11) rfl rfl rfl ?_
  obtain ⟨r4, h5, hq, hf⟩ := call_some hf
  obtain ⟨hob, hq⟩ := oK_some hq
  refine x_callV C (As := [vI i1]) (st := []) (r := (some (vI r4))) (h' := h5) (mc := 0) (ms := 0) (k := 0) (n := 0) (mX7_has hq) hob (ci := 7) rfl (cwV 1 C.1.2.2.2.2 gX7_height_X7_has rfl rfl rfl (by decide +kernel) ⟨Nat.le_of_ble_eq_true rfl, Nat.le_of_ble_eq_true rfl⟩) rfl rfl (Nat.le_of_ble_eq_true rfl) dX7_height_11 (pc' := 14) rfl ?_
  refine x_if_eq C hf dX7_height_14 (pc' := 17) rfl (tgt := 28) (by decide) (fun _ hf => ?_) (fun _ hf => ?_)
  ·
    refine x_iconst C (v := -1) (by decide) dX7_height_28 (pc' := 29) rfl ?_
    cases hf
    exact x_iret C hr hlk dX7_height_29
  ·
    refine x_aload_n C dX7_height_17 (pc' := 18) rfl rfl rfl ?_
    refine x_iload_n C dX7_height_18 (pc' := 19) rfl rfl rfl ?_
    refine x_iconst C (v := 1) (by decide) dX7_height_19 (pc' := 20) rfl ?_
    refine x_bipush C (v := 20) (by decide) dX7_height_20 (pc' := 22) rfl ?_
    obtain ⟨r6, h7, hq, hf⟩ := call_some hf
    obtain ⟨hob, hq⟩ := oK_some hq
    refine x_callV C (As := [vI i1, vI (1 : Int32), vI (20 : Int32)]) (st := []) (r := (some (vI r6))) (h' := h7) (mc := 0) (ms := 0) (k := 0) (n := 0) (mX7_areStates hq) hob (ci := 7) rfl (cwV 3 C.1.2.2.2.2 gX7_height_X7_areStates rfl rfl rfl (by decide +kernel) ⟨Nat.le_of_ble_eq_true rfl, Nat.le_of_ble_eq_true rfl⟩) rfl rfl (Nat.le_of_ble_eq_true rfl) dX7_height_22 (pc' := 25) rfl ?_
    refine x_if_ne C hf dX7_height_25 (pc' := 28) rfl (tgt := 30) (by decide) (fun _ hf => ?_) (fun _ hf => ?_)
    ·
      refine x_iconst C (v := -1) (by decide) dX7_height_28 (pc' := 29) rfl ?_
      cases hf
      exact x_iret C hr hlk dX7_height_29
    ·
      refine x_aload_n C dX7_height_30 (pc' := 31) rfl rfl rfl ?_
      obtain ⟨h9, hq, hf⟩ := bind_some hf
      obtain ⟨hob, hq⟩ := oK_some hq
      refine x_callV C (As := []) (st := []) (r := none) (h' := h9) (mc := 0) (ms := 0) (k := 0) (n := 0) (mX7_takeCells hq) hob (ci := 7) rfl (cwV 0 C.1.2.2.2.2 gX7_height_X7_takeCells rfl rfl rfl (by decide +kernel) ⟨Nat.le_of_ble_eq_true rfl, Nat.le_of_ble_eq_true rfl⟩) rfl rfl (Nat.le_of_ble_eq_true rfl) dX7_height_31 (pc' := 34) rfl ?_
      refine x_iconst C (v := 0) (by decide) dX7_height_34 (pc' := 35) rfl ?_
      refine x_istore_n C dX7_height_35 (pc' := 36) rfl rfl (by decide) rfl (lv' := [some (vR a0), some (vI i1), some (vI (0 : Int32)), none, none, none]) rfl ?_
      refine x_more (k' := 0) (n' := 0) (Nat.le_of_ble_eq_true rfl) (Nat.le_of_ble_eq_true rfl) ?_
      exact mX7_height_w36 C hr hlk hnm FUEL a0 i1 (0 : Int32) h9 hf
-- ===== X7_round
theorem lkX7_round_0 : Cond.fieldLink RX7 80 "MossRingsModel" "thrown" "I" ∈ wsX7_round := by decide +kernel
theorem hinX7_round_X7 : ∀ w ∈ u_ws RX7 TX7 27, w ∈ wsX7_round := by decide +kernel
theorem lkX7_round_1 : Cond.fieldLink RX7 187 "MossRingsModel" "round" "I" ∈ wsX7_round := by decide +kernel
def fX7_round (h : Hp) (a0 : Nat) : Option (Int32 × Hp) := (pF h a0 7 0 (vI (0 : Int32))).bind fun h1 => (gI h1 a0 7 21).bind fun v2 => some (v2, h1)
set_option maxHeartbeats 4000000 in
set_option maxRecDepth 100000 in
theorem mX7_round {l : Launch} {g : XG} {h : Hp} {a0 : Nat} {res : Int32 × Hp} (hf : fX7_round h a0 = some res) : XM l g yX7_round wsX7_round 0 0 0 0 [vR a0] h (some (vI res.1)) res.2 := by
  refine x_start (cc := cX7_round) (maxL := 1) (ret := (some .int)) (by decide) rfl (Nat.le_of_ble_eq_true rfl) (lv := [some (vR a0)]) rfl ?_
  intro p e s m args below meth c C hr hlk hnm
  unfold fX7_round at hf
  refine x_aload_n C dX7_round_0 (pc' := 1) rfl rfl rfl ?_
  refine x_iconst C (v := 0) (by decide) dX7_round_1 (pc' := 2) rfl ?_
  refine x_put C (ci := 7) (kf := 0) rfl (by decide) hinX7_round_X7 tyX7 tyX7_ok nmX7 lkX7_round_0 rfl (Or.inl rfl) rfl hf dX7_round_2 (pc' := 5) rfl (fun h1 _ hf => ?_)
  refine x_aload_n C dX7_round_5 (pc' := 6) rfl rfl rfl ?_
  refine x_getI C (ci := 7) (kf := 21) rfl (by decide) hinX7_round_X7 lkX7_round_1 rfl hf dX7_round_6 (pc' := 9) rfl (fun v2 _ hf => ?_)
  cases hf
  exact x_iret C hr hlk dX7_round_9

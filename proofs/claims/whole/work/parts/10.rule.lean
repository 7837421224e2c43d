-- ===== X6_power
def fX6_power_w4 : Nat → Int32 → Int32 → Int32 → Int32 → Hp → Option (Int32 × Hp)
  | 0 => fun _ _ _ _ _ => none
  | n + 1 => fun i0 i1 i2 i3 h => if i1 ≤ i3 then (some (i2, h)) else (setv ((i2 * i0)) fun v1 => (fX6_power_w4 n) i0 i1 v1 (i3 + 1) h)
set_option maxHeartbeats 4000000 in
set_option maxRecDepth 100000 in
theorem mX6_power_w4 {g : XG} {p : Program} {l : Launch} {e : Env} {s : State} {m : MethodId} {args : Array Value} {below : List Frame} {meth : Method} {c : Code} (C : x_C g p s m args c cX6_power RX6 4 wsX6_power) (hr : meth.sig.returnType = (some .int)) (hlk : meth.locks = false) (hnm : meth.name = yX6_power.name) {res : Int32 × Hp} : ∀ (n : Nat) (i0 : Int32) (i1 : Int32) (i2 : Int32) (i3 : Int32) (h : Hp), fX6_power_w4 n i0 i1 i2 i3 h = some res → XW g p l e { frames := 0, cells := 0, slots := 0, locals := 0 } s m args below meth c (MQ below (x_Q g (some (vI res.1)) res.2) args s 0 0 (x_A g)) 4 0 0 h 4 [some (vI i0), some (vI i1), some (vI i2), some (vI i3)] [] := by
  intro n
  induction n with
  | zero =>
    intro i0 i1 i2 i3 h hf
    have hf2 : (none : Option (Int32 × Hp)) = some res := hf
    cases hf2
  | succ n ih =>
    intro i0 i1 i2 i3 h hf
    rw [fX6_power_w4] at hf
    refine x_iload_n C dX6_power_4 (pc' := 5) rfl rfl rfl ?_
    refine x_iload_n C dX6_power_5 (pc' := 6) rfl rfl rfl ?_
    refine x_icmp_ge C hf dX6_power_6 (pc' := 9) rfl (tgt := 19) (by decide) (fun _ hf => ?_) (fun _ hf => ?_)
    ·
      refine x_iload_n C dX6_power_19 (pc' := 20) rfl rfl rfl ?_
      cases hf
      exact x_iret C hr hlk dX6_power_20
    ·
      refine x_iload_n C dX6_power_9 (pc' := 10) rfl rfl rfl ?_
      refine x_iload_n C dX6_power_10 (pc' := 11) rfl rfl rfl ?_
      refine x_imul C dX6_power_11 (pc' := 12) rfl ?_
      refine x_nameI hf (fun v1 _ hf => ?_)
      refine x_istore_n C dX6_power_12 (pc' := 13) rfl rfl (by decide) rfl (lv' := [some (vI i0), some (vI i1), some (vI v1), some (vI i3)]) rfl ?_
      refine x_iinc C dX6_power_13 (pc' := 16) rfl rfl (v := (i3 + 1)) rfl (by decide) rfl (lv' := [some (vI i0), some (vI i1), some (vI v1), some (vI (i3 + 1))]) rfl ?_
      refine x_goto C dX6_power_16 (tgt := 4) (by decide) ?_
      exact ih i0 i1 v1 (i3 + 1) h hf
def fX6_power (h : Hp) (i0 : Int32) (i1 : Int32) : Option (Int32 × Hp) := fX6_power_w4 FUEL i0 i1 (1 : Int32) (0 : Int32) h
set_option maxHeartbeats 4000000 in
set_option maxRecDepth 100000 in
theorem mX6_power {l : Launch} {g : XG} {h : Hp} {i0 : Int32} {i1 : Int32} {res : Int32 × Hp} (hf : fX6_power h i0 i1 = some res) : XM l g yX6_power wsX6_power 0 0 0 0 [vI i0, vI i1] h (some (vI res.1)) res.2 := by
  refine x_start (cc := cX6_power) (maxL := 4) (ret := (some .int)) (by decide) rfl (Nat.le_of_ble_eq_true rfl) (lv := [some (vI i0), some (vI i1), none, none]) rfl ?_
  intro p e s m args below meth c C hr hlk hnm
  unfold fX6_power at hf
  refine x_iconst C (v := 1) (by decide) dX6_power_0 (pc' := 1) rfl ?_
  refine x_istore_n C dX6_power_1 (pc' := 2) rfl rfl (by decide) rfl (lv' := [some (vI i0), some (vI i1), some (vI (1 : Int32)), none]) rfl ?_
  refine x_iconst C (v := 0) (by decide) dX6_power_2 (pc' := 3) rfl ?_
  refine x_istore_n C dX6_power_3 (pc' := 4) rfl rfl (by decide) rfl (lv' := [some (vI i0), some (vI i1), some (vI (1 : Int32)), some (vI (0 : Int32))]) rfl ?_
  refine x_more (k' := 0) (n' := 0) (Nat.le_of_ble_eq_true rfl) (Nat.le_of_ble_eq_true rfl) ?_
  exact mX6_power_w4 C hr hlk hnm FUEL i0 i1 (1 : Int32) (0 : Int32) h hf
-- ===== X6_isSlot
def fX6_isSlot (h : Hp) (i0 : Int32) : Option (Int32 × Hp) := if i0 < 0 then (retZ (0 : Int32) h) else (if (6 : Int32) ≤ i0 then (retZ (0 : Int32) h) else (retZ (1 : Int32) h))
set_option maxHeartbeats 4000000 in
set_option maxRecDepth 100000 in
theorem mX6_isSlot {l : Launch} {g : XG} {h : Hp} {i0 : Int32} {res : Int32 × Hp} (hf : fX6_isSlot h i0 = some res) : XM l g yX6_isSlot wsX6_isSlot 0 0 0 0 [vI i0] h (some (vI res.1)) res.2 := by
  refine x_start (cc := cX6_isSlot) (maxL := 1) (ret := (some .boolean)) (by decide) rfl (Nat.le_of_ble_eq_true rfl) (lv := [some (vI i0)]) rfl ?_
  intro p e s m args below meth c C hr hlk hnm
  unfold fX6_isSlot at hf
  refine x_iload_n C dX6_isSlot_0 (pc' := 1) rfl rfl rfl ?_
  refine x_if_lt C hf dX6_isSlot_1 (pc' := 4) rfl (tgt := 14) (by decide) (fun _ hf => ?_) (fun _ hf => ?_)
  ·
    refine x_iconst C (v := 0) (by decide) dX6_isSlot_14 (pc' := 15) rfl ?_
    exact x_zret C hf hr hlk dX6_isSlot_15
  ·
    refine x_iload_n C dX6_isSlot_4 (pc' := 5) rfl rfl rfl ?_
    refine x_bipush C (v := 6) (by decide) dX6_isSlot_5 (pc' := 7) rfl ?_
    refine x_icmp_ge C hf dX6_isSlot_7 (pc' := 10) rfl (tgt := 14) (by decide) (fun _ hf => ?_) (fun _ hf => ?_)
    ·
      refine x_iconst C (v := 0) (by decide) dX6_isSlot_14 (pc' := 15) rfl ?_
      exact x_zret C hf hr hlk dX6_isSlot_15
    ·
      refine x_iconst C (v := 1) (by decide) dX6_isSlot_10 (pc' := 11) rfl ?_
      refine x_goto C dX6_isSlot_11 (tgt := 15) (by decide) ?_
      exact x_zret C hf hr hlk dX6_isSlot_15
-- ===== X6_mostWidth
theorem lkX6_mostWidth_0 : Cond.fieldLink RX6 225 "MossRings" "MOST_WIDTH" "[I" ∈ wsX6_mostWidth := by decide +kernel
def fX6_mostWidth (h : Hp) (i0 : Int32) : Option (Int32 × Hp) := if i0 < 0 then (some ((0 : Int32), h)) else ((aN h 2).bind fun v1 => if v1 ≤ i0 then (some ((0 : Int32), h)) else ((aI h 2 0 i0).bind fun v2 => some (v2, h)))
set_option maxHeartbeats 4000000 in
set_option maxRecDepth 100000 in
theorem mX6_mostWidth {l : Launch} {g : XG} {h : Hp} {i0 : Int32} {res : Int32 × Hp} (hf : fX6_mostWidth h i0 = some res) : XM l g yX6_mostWidth wsX6_mostWidth 0 0 0 0 [vI i0] h (some (vI res.1)) res.2 := by
  refine x_start (cc := cX6_mostWidth) (maxL := 1) (ret := (some .int)) (by decide) rfl (Nat.le_of_ble_eq_true rfl) (lv := [some (vI i0)]) rfl ?_
  intro p e s m args below meth c C hr hlk hnm
  unfold fX6_mostWidth at hf
  refine x_iload_n C dX6_mostWidth_0 (pc' := 1) rfl rfl rfl ?_
  refine x_if_lt C hf dX6_mostWidth_1 (pc' := 4) rfl (tgt := 20) (by decide) (fun _ hf => ?_) (fun _ hf => ?_)
  ·
    refine x_iconst C (v := 0) (by decide) dX6_mostWidth_20 (pc' := 21) rfl ?_
    cases hf
    exact x_iret C hr hlk dX6_mostWidth_21
  ·
    refine x_iload_n C dX6_mostWidth_4 (pc' := 5) rfl rfl rfl ?_
    refine x_getsW C lkX6_mostWidth_0 dX6_mostWidth_5 (pc' := 8) rfl ?_
    refine x_alen C hf dX6_mostWidth_8 (pc' := 9) rfl (fun v1 _ hf => ?_)
    refine x_icmp_ge C hf dX6_mostWidth_9 (pc' := 12) rfl (tgt := 20) (by decide) (fun _ hf => ?_) (fun _ hf => ?_)
    ·
      refine x_iconst C (v := 0) (by decide) dX6_mostWidth_20 (pc' := 21) rfl ?_
      cases hf
      exact x_iret C hr hlk dX6_mostWidth_21
    ·
      refine x_getsW C lkX6_mostWidth_0 dX6_mostWidth_12 (pc' := 15) rfl ?_
      refine x_iload_n C dX6_mostWidth_15 (pc' := 16) rfl rfl rfl ?_
      refine x_iaload C hf dX6_mostWidth_16 (pc' := 17) rfl (fun v2 _ hf => ?_)
      refine x_goto C dX6_mostWidth_17 (tgt := 21) (by decide) ?_
      cases hf
      exact x_iret C hr hlk dX6_mostWidth_21
-- ===== X6_ringsOf
def fX6_ringsOf_b33 (i2 : Int32) (h : Hp) : Option (Int32 × Hp) := if (4096 : Int32) < i2 then (some ((-1 : Int32), h)) else (some (i2, h))
set_option maxHeartbeats 4000000 in
set_option maxRecDepth 100000 in
theorem mX6_ringsOf_b33 {g : XG} {p : Program} {l : Launch} {e : Env} {s : State} {m : MethodId} {args : Array Value} {below : List Frame} {meth : Method} {c : Code} (C : x_C g p s m args c cX6_ringsOf RX6 4 wsX6_ringsOf) (hr : meth.sig.returnType = (some .int)) (hlk : meth.locks = false) (hnm : meth.name = yX6_ringsOf.name) {res : Int32 × Hp} (i2 : Int32) (h : Hp) (hf : fX6_ringsOf_b33 i2 h = some res) : XW g p l e { frames := 0, cells := 0, slots := 0, locals := 0 } s m args below meth c (MQ below (x_Q g (some (vI res.1)) res.2) args s 0 0 (x_A g)) 4 0 0 h 33 [none, none, some (vI i2), none] [] := by
  unfold fX6_ringsOf_b33 at hf
  refine x_iload_n C dX6_ringsOf_33 (pc' := 34) rfl rfl rfl ?_
  refine x_sipush C (v := 4096) (by decide) dX6_ringsOf_34 (pc' := 37) rfl ?_
  refine x_icmp_gt C hf dX6_ringsOf_37 (pc' := 40) rfl (tgt := 44) (by decide) (fun _ hf => ?_) (fun _ hf => ?_)
  ·
    refine x_iconst C (v := -1) (by decide) dX6_ringsOf_44 (pc' := 45) rfl ?_
    cases hf
    exact x_iret C hr hlk dX6_ringsOf_45
  ·
    refine x_iload_n C dX6_ringsOf_40 (pc' := 41) rfl rfl rfl ?_
    refine x_goto C dX6_ringsOf_41 (tgt := 45) (by decide) ?_
    cases hf
    exact x_iret C hr hlk dX6_ringsOf_45
def fX6_ringsOf_w11 : Nat → Int32 → Int32 → Int32 → Int32 → Hp → Option (Int32 × Hp)
  | 0 => fun _ _ _ _ _ => none
  | n + 1 => fun i0 i1 i2 i3 h => if i1 ≤ i3 then (fX6_ringsOf_b33 i2 h) else (if (4096 : Int32) < i2 then (fX6_ringsOf_b33 i2 h) else (setv ((i2 * i0)) fun v1 => (fX6_ringsOf_w11 n) i0 i1 v1 (i3 + 1) h))
set_option maxHeartbeats 4000000 in
set_option maxRecDepth 100000 in
theorem mX6_ringsOf_w11 {g : XG} {p : Program} {l : Launch} {e : Env} {s : State} {m : MethodId} {args : Array Value} {below : List Frame} {meth : Method} {c : Code} (C : x_C g p s m args c cX6_ringsOf RX6 4 wsX6_ringsOf) (hr : meth.sig.returnType = (some .int)) (hlk : meth.locks = false) (hnm : meth.name = yX6_ringsOf.name) {res : Int32 × Hp} : ∀ (n : Nat) (i0 : Int32) (i1 : Int32) (i2 : Int32) (i3 : Int32) (h : Hp), fX6_ringsOf_w11 n i0 i1 i2 i3 h = some res → XW g p l e { frames := 0, cells := 0, slots := 0, locals := 0 } s m args below meth c (MQ below (x_Q g (some (vI res.1)) res.2) args s 0 0 (x_A g)) 4 0 0 h 11 [some (vI i0), some (vI i1), some (vI i2), some (vI i3)] [] := by
  intro n
  induction n with
  | zero =>
    intro i0 i1 i2 i3 h hf
    have hf2 : (none : Option (Int32 × Hp)) = some res := hf
    cases hf2
  | succ n ih =>
    intro i0 i1 i2 i3 h hf
    rw [fX6_ringsOf_w11] at hf
    refine x_iload_n C dX6_ringsOf_11 (pc' := 12) rfl rfl rfl ?_
    refine x_iload_n C dX6_ringsOf_12 (pc' := 13) rfl rfl rfl ?_
    refine x_icmp_ge C hf dX6_ringsOf_13 (pc' := 16) rfl (tgt := 33) (by decide) (fun _ hf => ?_) (fun _ hf => ?_)
    ·
      refine x_keep [false, false, true, false] rfl ?_
      refine x_more (k' := 0) (n' := 0) (Nat.le_of_ble_eq_true rfl) (Nat.le_of_ble_eq_true rfl) ?_
      exact mX6_ringsOf_b33 C hr hlk hnm i2 h hf
    ·
      refine x_iload_n C dX6_ringsOf_16 (pc' := 17) rfl rfl rfl ?_
      refine x_sipush C (v := 4096) (by decide) dX6_ringsOf_17 (pc' := 20) rfl ?_
      refine x_icmp_gt C hf dX6_ringsOf_20 (pc' := 23) rfl (tgt := 33) (by decide) (fun _ hf => ?_) (fun _ hf => ?_)
      ·
        refine x_keep [false, false, true, false] rfl ?_
        refine x_more (k' := 0) (n' := 0) (Nat.le_of_ble_eq_true rfl) (Nat.le_of_ble_eq_true rfl) ?_
        exact mX6_ringsOf_b33 C hr hlk hnm i2 h hf
      ·
        refine x_iload_n C dX6_ringsOf_23 (pc' := 24) rfl rfl rfl ?_
        refine x_iload_n C dX6_ringsOf_24 (pc' := 25) rfl rfl rfl ?_
        refine x_imul C dX6_ringsOf_25 (pc' := 26) rfl ?_
        refine x_nameI hf (fun v1 _ hf => ?_)
        refine x_istore_n C dX6_ringsOf_26 (pc' := 27) rfl rfl (by decide) rfl (lv' := [some (vI i0), some (vI i1), some (vI v1), some (vI i3)]) rfl ?_
        refine x_iinc C dX6_ringsOf_27 (pc' := 30) rfl rfl (v := (i3 + 1)) rfl (by decide) rfl (lv' := [some (vI i0), some (vI i1), some (vI v1), some (vI (i3 + 1))]) rfl ?_
        refine x_goto C dX6_ringsOf_30 (tgt := 11) (by decide) ?_
        exact ih i0 i1 v1 (i3 + 1) h hf
def fX6_ringsOf (h : Hp) (i0 : Int32) (i1 : Int32) : Option (Int32 × Hp) := if (1 : Int32) ≤ i1 then (fX6_ringsOf_w11 FUEL i0 i1 (1 : Int32) (0 : Int32) h) else (some ((-1 : Int32), h))
set_option maxHeartbeats 4000000 in
set_option maxRecDepth 100000 in
theorem mX6_ringsOf {l : Launch} {g : XG} {h : Hp} {i0 : Int32} {i1 : Int32} {res : Int32 × Hp} (hf : fX6_ringsOf h i0 i1 = some res) : XM l g yX6_ringsOf wsX6_ringsOf 0 0 0 0 [vI i0, vI i1] h (some (vI res.1)) res.2 := by
  refine x_start (cc := cX6_ringsOf) (maxL := 4) (ret := (some .int)) (by decide) rfl (Nat.le_of_ble_eq_true rfl) (lv := [some (vI i0), some (vI i1), none, none]) rfl ?_
  intro p e s m args below meth c C hr hlk hnm
  unfold fX6_ringsOf at hf
  refine x_iload_n C dX6_ringsOf_0 (pc' := 1) rfl rfl rfl ?_
  refine x_iconst C (v := 1) (by decide) dX6_ringsOf_1 (pc' := 2) rfl ?_
  refine x_icmp_ge C hf dX6_ringsOf_2 (pc' := 5) rfl (tgt := 7) (by decide) (fun _ hf => ?_) (fun _ hf => ?_)
  ·
    refine x_iconst C (v := 1) (by decide) dX6_ringsOf_7 (pc' := 8) rfl ?_
    refine x_istore_n C dX6_ringsOf_8 (pc' := 9) rfl rfl (by decide) rfl (lv' := [some (vI i0), some (vI i1), some (vI (1 : Int32)), none]) rfl ?_
    refine x_iconst C (v := 0) (by decide) dX6_ringsOf_9 (pc' := 10) rfl ?_
    refine x_istore_n C dX6_ringsOf_10 (pc' := 11) rfl rfl (by decide) rfl (lv' := [some (vI i0), some (vI i1), some (vI (1 : Int32)), some (vI (0 : Int32))]) rfl ?_
    refine x_more (k' := 0) (n' := 0) (Nat.le_of_ble_eq_true rfl) (Nat.le_of_ble_eq_true rfl) ?_
    exact mX6_ringsOf_w11 C hr hlk hnm FUEL i0 i1 (1 : Int32) (0 : Int32) h hf
  ·
    refine x_iconst C (v := -1) (by decide) dX6_ringsOf_5 (pc' := 6) rfl ?_
    cases hf
    exact x_iret C hr hlk dX6_ringsOf_6
-- ===== J7_fill_53178
def fJ7_fill_53178_w5 : Nat → Nat → Int32 → Int32 → Int32 → Hp → Option (Hp)
  | 0 => fun _ _ _ _ _ => none
  | n + 1 => fun a0 i1 i2 i3 h => if i3 ≤ i2 then (some h) else ((sI h a0 0 i2 i1).bind fun h1 => (fJ7_fill_53178_w5 n) a0 i1 (i2 + 1) i3 h1)
set_option maxHeartbeats 4000000 in
set_option maxRecDepth 100000 in
theorem mJ7_fill_53178_w5 {g : XG} {p : Program} {l : Launch} {e : Env} {s : State} {m : MethodId} {args : Array Value} {below : List Frame} {meth : Method} {c : Code} (C : x_C g p s m args c cJ7_fill_53178 RJ7 4 wsJ7_fill_53178) (hr : meth.sig.returnType = none) (hlk : meth.locks = false) (hnm : meth.name = yJ7_fill_53178.name) {res : Hp} : ∀ (n : Nat) (a0 : Nat) (i1 : Int32) (i2 : Int32) (i3 : Int32) (h : Hp), fJ7_fill_53178_w5 n a0 i1 i2 i3 h = some res → XW g p l e { frames := 0, cells := 0, slots := 0, locals := 0 } s m args below meth c (MQ below (x_Q g none res) args s 0 0 (x_A g)) 4 0 0 h 5 [some (vR a0), some (vI i1), some (vI i2), some (vI i3)] [] := by
  intro n
  induction n with
  | zero =>
    intro a0 i1 i2 i3 h hf
    have hf2 : (none : Option (Hp)) = some res := hf
    cases hf2
  | succ n ih =>
    intro a0 i1 i2 i3 h hf
    rw [fJ7_fill_53178_w5] at hf
    refine x_iload_n C dJ7_fill_53178_5 (pc' := 6) rfl rfl rfl ?_
    refine x_iload_n C dJ7_fill_53178_6 (pc' := 7) rfl rfl rfl ?_
    refine x_icmp_ge C hf dJ7_fill_53178_7 (pc' := 10) rfl (tgt := 20) (by decide) (fun _ hf => ?_) (fun _ hf => ?_)
    ·
      cases hf
      exact x_vret C hr hlk dJ7_fill_53178_20
    ·
      refine x_aload_n C dJ7_fill_53178_10 (pc' := 11) rfl rfl rfl ?_
      refine x_iload_n C dJ7_fill_53178_11 (pc' := 12) rfl rfl rfl ?_
      refine x_iload_n C dJ7_fill_53178_12 (pc' := 13) rfl rfl rfl ?_
      refine x_iastore C hf dJ7_fill_53178_13 (pc' := 14) rfl (fun h1 _ hf => ?_)
      refine x_iinc C dJ7_fill_53178_14 (pc' := 17) rfl rfl (v := (i2 + 1)) rfl (by decide) rfl (lv' := [some (vR a0), some (vI i1), some (vI (i2 + 1)), some (vI i3)]) rfl ?_
      refine x_goto C dJ7_fill_53178_17 (tgt := 5) (by decide) ?_
      exact ih a0 i1 (i2 + 1) i3 h1 hf
def fJ7_fill_53178 (h : Hp) (a0 : Nat) (i1 : Int32) : Option (Hp) := (aN h a0).bind fun v1 => fJ7_fill_53178_w5 FUEL a0 i1 (0 : Int32) v1 h
set_option maxHeartbeats 4000000 in
set_option maxRecDepth 100000 in
theorem mJ7_fill_53178 {l : Launch} {g : XG} {h : Hp} {a0 : Nat} {i1 : Int32} {res : Hp} (hf : fJ7_fill_53178 h a0 i1 = some res) : XM l g yJ7_fill_53178 wsJ7_fill_53178 0 0 0 0 [vR a0, vI i1] h none res := by
  refine x_start (cc := cJ7_fill_53178) (maxL := 4) (ret := none) (by decide) rfl (Nat.le_of_ble_eq_true rfl) (lv := [some (vR a0), some (vI i1), none, none]) rfl ?_
  intro p e s m args below meth c C hr hlk hnm
  unfold fJ7_fill_53178 at hf
  refine x_iconst C (v := 0) (by decide) dJ7_fill_53178_0 (pc' := 1) rfl ?_
  refine x_istore_n C dJ7_fill_53178_1 (pc' := 2) rfl rfl (by decide) rfl (lv' := [some (vR a0), some (vI i1), some (vI (0 : Int32)), none]) rfl ?_
  refine x_aload_n C dJ7_fill_53178_2 (pc' := 3) rfl rfl rfl ?_
  refine x_alen C hf dJ7_fill_53178_3 (pc' := 4) rfl (fun v1 _ hf => ?_)
  refine x_istore_n C dJ7_fill_53178_4 (pc' := 5) rfl rfl (by decide) rfl (lv' := [some (vR a0), some (vI i1), some (vI (0 : Int32)), some (vI v1)]) rfl ?_
  refine x_more (k' := 0) (n' := 0) (Nat.le_of_ble_eq_true rfl) (Nat.le_of_ble_eq_true rfl) ?_
  exact mJ7_fill_53178_w5 C hr hlk hnm FUEL a0 i1 (0 : Int32) v1 h hf
-- ===== J7_copyOf_59c91
theorem lkJ7_copyOf_59c91_0 : Cond.methodLink RJ7 316 ⟨"[I", "clone", "()Ljava/lang/Object;"⟩ ∈ wsJ7_copyOf_59c91 := by decide +kernel
theorem lkJ7_copyOf_59c91_1 : Cond.sameMethod "[I" "java/lang/Object" "clone" "()Ljava/lang/Object;" ∈ wsJ7_copyOf_59c91 := by decide +kernel
theorem lkJ7_copyOf_59c91_2 : Cond.native ⟨"java/lang/Object", "clone", "()Ljava/lang/Object;"⟩ ∈ wsJ7_copyOf_59c91 := by decide +kernel
theorem lkJ7_copyOf_59c91_3 : Cond.instanceMethod ⟨"java/lang/Object", "clone", "()Ljava/lang/Object;"⟩ ∈ wsJ7_copyOf_59c91 := by decide +kernel
theorem lkJ7_copyOf_59c91_4 : Cond.selects "[I" ⟨"[I", "clone", "()Ljava/lang/Object;"⟩ ⟨"java/lang/Object", "clone", "()Ljava/lang/Object;"⟩ ∈ wsJ7_copyOf_59c91 := by decide +kernel
theorem lkJ7_copyOf_59c91_5 : Cond.classLink RJ7 317 "[I" ∈ wsJ7_copyOf_59c91 := by decide +kernel
theorem lkJ7_copyOf_59c91_6 : Cond.arrayClass .int ∈ wsJ7_copyOf_59c91 := by decide +kernel
theorem lkJ7_copyOf_59c91_7 : Cond.methodLink RJ7 304 Lib.Math.min.name ∈ wsJ7_copyOf_59c91 := by decide +kernel
theorem lkJ7_copyOf_59c91_8 : Cond.static Lib.Math.min.name ∈ wsJ7_copyOf_59c91 := by decide +kernel
theorem lkJ7_copyOf_59c91_9 : Cond.initialized "java/lang/Math" ∈ wsJ7_copyOf_59c91 := by decide +kernel
theorem lkJ7_copyOf_59c91_10 : Cond.code Lib.Math.min.name Lib.Math.min.code 2 (some .int) ∈ wsJ7_copyOf_59c91 := by decide +kernel
theorem lkJ7_copyOf_59c91_11 : Cond.methodLink RJ7 150 arraycopyName ∈ wsJ7_copyOf_59c91 := by decide +kernel
theorem lkJ7_copyOf_59c91_12 : Cond.native arraycopyName ∈ wsJ7_copyOf_59c91 := by decide +kernel
theorem lkJ7_copyOf_59c91_13 : Cond.static arraycopyName ∈ wsJ7_copyOf_59c91 := by decide +kernel
theorem lkJ7_copyOf_59c91_14 : Cond.initialized "java/lang/System" ∈ wsJ7_copyOf_59c91 := by decide +kernel
def fJ7_copyOf_59c91 (h : Hp) (a0 : Nat) (i1 : Int32) : Option (Nat × Hp) := (aN h a0).bind fun v1 => if i1 = v1 then (cpA h a0 27 fun q2 h3 => some (q2, h3)) else (mkA h 0 27 i1 fun q4 h5 => (aN h5 a0).bind fun v6 => (aCpy h5 a0 (0 : Int32) q4 (0 : Int32) (iMin v6 i1)).bind fun h7 => some (q4, h7))
set_option maxHeartbeats 4000000 in
set_option maxRecDepth 100000 in
theorem mJ7_copyOf_59c91 {l : Launch} {g : XG} {h : Hp} {a0 : Nat} {i1 : Int32} {res : Nat × Hp} (hf : fJ7_copyOf_59c91 h a0 i1 = some res) : XM l g yJ7_copyOf_59c91 wsJ7_copyOf_59c91 1 18 1 27 [vR a0, vI i1] h (some (vR res.1)) res.2 := by
  refine x_start (cc := cJ7_copyOf_59c91) (maxL := 3) (ret := (some (.array .int))) (by decide) rfl (Nat.le_of_ble_eq_true rfl) (lv := [some (vR a0), some (vI i1), none]) rfl ?_
  intro p e s m args below meth c C hr hlk hnm
  unfold fJ7_copyOf_59c91 at hf
  refine x_iload_n C dJ7_copyOf_59c91_0 (pc' := 1) rfl rfl rfl ?_
  refine x_aload_n C dJ7_copyOf_59c91_1 (pc' := 2) rfl rfl rfl ?_
  refine x_alen C hf dJ7_copyOf_59c91_2 (pc' := 3) rfl (fun v1 _ hf => ?_)
  refine x_icmp_ne C hf dJ7_copyOf_59c91_3 (pc' := 6) rfl (tgt := 14) (by decide) (fun _ hf => ?_) (fun _ hf => ?_)
  ·
    refine x_aload_n C dJ7_copyOf_59c91_6 (pc' := 7) rfl rfl rfl ?_
    refine x_clone C (k := 0) (n := 0) (cap := 27) lkJ7_copyOf_59c91_0 lkJ7_copyOf_59c91_1 lkJ7_copyOf_59c91_2 lkJ7_copyOf_59c91_3 lkJ7_copyOf_59c91_4 (Nat.le_of_ble_eq_true rfl) (Nat.le_of_ble_eq_true rfl) hf dJ7_copyOf_59c91_7 (pc' := 10) rfl (fun q2 h3 n0 f0 h4q2 hbe hhe hf => ?_)
    refine x_castI C lkJ7_copyOf_59c91_5 h4q2 (n0 := n0) (f := f0) (by rw [hbe, hhe]; simp) dJ7_copyOf_59c91_10 (pc' := 13) rfl ?_
    cases hf
    exact x_aret C hr (Or.inr ⟨_, rfl⟩) hlk dJ7_copyOf_59c91_13
  ·
    refine x_iload_n C dJ7_copyOf_59c91_14 (pc' := 15) rfl rfl rfl ?_
    refine x_newI C (k := 0) (n := 0) (ty := .int) rfl (Or.inl ⟨rfl, rfl⟩) lkJ7_copyOf_59c91_6 (by decide) hf dJ7_copyOf_59c91_15 (pc' := 17) rfl (fun q4 h5 _ _ _ _ hf => ?_)
    refine x_astore_n C dJ7_copyOf_59c91_17 (pc' := 18) rfl rfl (by decide) rfl (lv' := [some (vR a0), some (vI i1), some (vR q4)]) rfl ?_
    refine x_aload_n C dJ7_copyOf_59c91_18 (pc' := 19) rfl rfl rfl ?_
    refine x_iconst C (v := 0) (by decide) dJ7_copyOf_59c91_19 (pc' := 20) rfl ?_
    refine x_aload_n C dJ7_copyOf_59c91_20 (pc' := 21) rfl rfl rfl ?_
    refine x_iconst C (v := 0) (by decide) dJ7_copyOf_59c91_21 (pc' := 22) rfl ?_
    refine x_aload_n C dJ7_copyOf_59c91_22 (pc' := 23) rfl rfl rfl ?_
    refine x_alen C hf dJ7_copyOf_59c91_23 (pc' := 24) rfl (fun v6 _ hf => ?_)
    refine x_iload_n C dJ7_copyOf_59c91_24 (pc' := 25) rfl rfl rfl ?_
    refine x_min C lkJ7_copyOf_59c91_7 lkJ7_copyOf_59c91_8 lkJ7_copyOf_59c91_9 lkJ7_copyOf_59c91_10 (Nat.le_of_ble_eq_true rfl) (Nat.le_of_ble_eq_true rfl) dJ7_copyOf_59c91_25 (pc' := 28) rfl ?_
    refine x_copy C lkJ7_copyOf_59c91_11 lkJ7_copyOf_59c91_12 lkJ7_copyOf_59c91_13 lkJ7_copyOf_59c91_14 (Nat.le_of_ble_eq_true rfl) (Nat.le_of_ble_eq_true rfl) hf dJ7_copyOf_59c91_28 (pc' := 31) rfl (fun h7 _ hf => ?_)
    refine x_aload_n C dJ7_copyOf_59c91_31 (pc' := 32) rfl rfl rfl ?_
    cases hf
    exact x_aret C hr (Or.inr ⟨_, rfl⟩) hlk dJ7_copyOf_59c91_32
-- ===== X1_init
theorem lkX1_init_0 : Cond.methodLink RX1 1 objectInit ∈ wsX1_init := by decide +kernel
theorem lkX1_init_1 : Cond.instanceMethod objectInit ∈ wsX1_init := by decide +kernel
theorem lkX1_init_2 : Cond.code objectInit ⟨#[0xb1]⟩ 1 none ∈ wsX1_init := by decide +kernel
theorem lkX1_init_3 : Cond.methodLink RX1 7 Lib.Math.max.name ∈ wsX1_init := by decide +kernel
theorem lkX1_init_4 : Cond.static Lib.Math.max.name ∈ wsX1_init := by decide +kernel
theorem lkX1_init_5 : Cond.initialized "java/lang/Math" ∈ wsX1_init := by decide +kernel
theorem lkX1_init_6 : Cond.code Lib.Math.max.name Lib.Math.max.code 2 (some .int) ∈ wsX1_init := by decide +kernel
theorem lkX1_init_7 : Cond.fieldLink RX1 13 "MossRings$Rule" "states" "I" ∈ wsX1_init := by decide +kernel
theorem hinX1_init_X1 : ∀ w ∈ u_ws RX1 TX1 5, w ∈ wsX1_init := by decide +kernel
theorem lkX1_init_8 : Cond.fieldLink RX1 19 "MossRings$Rule" "width" "I" ∈ wsX1_init := by decide +kernel
theorem lkX1_init_9 : Cond.static yX6_power ∈ wsX1_init := by decide +kernel
theorem lkX1_init_10 : Cond.initialized RX6 ∈ wsX1_init := by decide +kernel
theorem lkX1_init_11 : Cond.fieldLink RX1 27 "MossRings$Rule" "nodes" "I" ∈ wsX1_init := by decide +kernel
theorem lkX1_init_12 : Cond.fieldLink RX1 30 "MossRings$Rule" "words" "I" ∈ wsX1_init := by decide +kernel
theorem lkX1_init_13 : Cond.fieldLink RX1 39 "MossRings$Rule" "told" "[I" ∈ wsX1_init := by decide +kernel
def fX1_init (h : Hp) (a0 : Nat) (i1 : Int32) (i2 : Int32) (a3 : Nat) : Option (Hp) := if a0 = 0 then none else ((pF h a0 1 0 (vI (iMax (2 : Int32) i1))).bind fun h1 => (pF h1 a0 1 1 (vI i2)).bind fun h2 => (gI h2 a0 1 0).bind fun v3 => call (fX6_power h2 v3 (i2 - (1 : Int32))) fun r4 h5 => (pF h5 a0 1 3 (vI (iMax (1 : Int32) r4))).bind fun h6 => (gI h6 a0 1 3).bind fun v7 => (gI h6 a0 1 0).bind fun v8 => (pF h6 a0 1 2 (vI (v7 * v8))).bind fun h9 => (gI h9 a0 1 2).bind fun v10 => call (fJ7_copyOf_59c91 h9 a3 v10) fun r11 h12 => (pF h12 a0 1 4 (vR r11)).bind fun h13 => some h13)
set_option maxHeartbeats 4000000 in
set_option maxRecDepth 100000 in
theorem mX1_init {l : Launch} {g : XG} {h : Hp} {a0 : Nat} {i1 : Int32} {i2 : Int32} {a3 : Nat} {res : Hp} (hf : fX1_init h a0 i1 i2 a3 = some res) : XM l g yX1_init wsX1_init 2 40 1 27 [vR a0, vI i1, vI i2, vR a3] h none res := by
  refine x_start (cc := cX1_init) (maxL := 4) (ret := none) (by decide) rfl (Nat.le_of_ble_eq_true rfl) (lv := [some (vR a0), some (vI i1), some (vI i2), some (vR a3)]) rfl ?_
  intro p e s m args below meth c C hr hlk hnm
  unfold fX1_init at hf
  refine x_aload_n C dX1_init_0 (pc' := 1) rfl rfl rfl ?_
  refine x_objInit C lkX1_init_0 lkX1_init_1 lkX1_init_2 (Nat.le_of_ble_eq_true rfl) (Nat.le_of_ble_eq_true rfl) hf dX1_init_1 (pc' := 4) rfl (fun hf => ?_)
  refine x_aload_n C dX1_init_4 (pc' := 5) rfl rfl rfl ?_
  refine x_iconst C (v := 2) (by decide) dX1_init_5 (pc' := 6) rfl ?_
  refine x_iload_n C dX1_init_6 (pc' := 7) rfl rfl rfl ?_
  refine x_max C lkX1_init_3 lkX1_init_4 lkX1_init_5 lkX1_init_6 (Nat.le_of_ble_eq_true rfl) (Nat.le_of_ble_eq_true rfl) dX1_init_7 (pc' := 10) rfl ?_
  refine x_put C (ci := 1) (kf := 0) rfl (by decide) hinX1_init_X1 tyX1 tyX1_ok nmX1 lkX1_init_7 rfl (Or.inr ⟨rfl, hnm, rfl⟩) rfl hf dX1_init_10 (pc' := 13) rfl (fun h1 _ hf => ?_)
  refine x_aload_n C dX1_init_13 (pc' := 14) rfl rfl rfl ?_
  refine x_iload_n C dX1_init_14 (pc' := 15) rfl rfl rfl ?_
  refine x_put C (ci := 1) (kf := 1) rfl (by decide) hinX1_init_X1 tyX1 tyX1_ok nmX1 lkX1_init_8 rfl (Or.inr ⟨rfl, hnm, rfl⟩) rfl hf dX1_init_15 (pc' := 18) rfl (fun h2 _ hf => ?_)
  refine x_aload_n C dX1_init_18 (pc' := 19) rfl rfl rfl ?_
  refine x_iconst C (v := 1) (by decide) dX1_init_19 (pc' := 20) rfl ?_
  refine x_aload_n C dX1_init_20 (pc' := 21) rfl rfl rfl ?_
  refine x_getI C (ci := 1) (kf := 0) rfl (by decide) hinX1_init_X1 lkX1_init_7 rfl hf dX1_init_21 (pc' := 24) rfl (fun v3 _ hf => ?_)
  refine x_iload_n C dX1_init_24 (pc' := 25) rfl rfl rfl ?_
  refine x_iconst C (v := 1) (by decide) dX1_init_25 (pc' := 26) rfl ?_
  refine x_isub C dX1_init_26 (pc' := 27) rfl ?_
  obtain ⟨r4, h5, hq, hf⟩ := call_some hf
  refine x_callSN C (As := [vI v3, vI (i2 - (1 : Int32))]) (st := [vI (1 : Int32), vR a0]) (r := (some (vI r4))) (h' := h5) (mc := 0) (ms := 0) (k := 1) (n := 27) (mX6_power hq) ⟨va_cnB 2 C.1.2.2.2.2 gX1_init_X6_power_n22 rfl rfl rfl (C.2.1.2.2.1 _ (List.mem_of_getElem? (i := 0) rfl)) (C.1.2.2.2.2 _ lkX1_init_10) (by decide +kernel) ⟨Nat.le_of_ble_eq_true rfl, Nat.le_of_ble_eq_true rfl⟩, C.1.2.2.2.2 _ lkX1_init_9, trivial⟩ rfl rfl (Nat.le_of_ble_eq_true rfl) dX1_init_27 (pc' := 30) rfl ?_
  refine x_max C lkX1_init_3 lkX1_init_4 lkX1_init_5 lkX1_init_6 (Nat.le_of_ble_eq_true rfl) (Nat.le_of_ble_eq_true rfl) dX1_init_30 (pc' := 33) rfl ?_
  refine x_put C (ci := 1) (kf := 3) rfl (by decide) hinX1_init_X1 tyX1 tyX1_ok nmX1 lkX1_init_11 rfl (Or.inr ⟨rfl, hnm, rfl⟩) rfl hf dX1_init_33 (pc' := 36) rfl (fun h6 _ hf => ?_)
  refine x_aload_n C dX1_init_36 (pc' := 37) rfl rfl rfl ?_
  refine x_aload_n C dX1_init_37 (pc' := 38) rfl rfl rfl ?_
  refine x_getI C (ci := 1) (kf := 3) rfl (by decide) hinX1_init_X1 lkX1_init_11 rfl hf dX1_init_38 (pc' := 41) rfl (fun v7 _ hf => ?_)
  refine x_aload_n C dX1_init_41 (pc' := 42) rfl rfl rfl ?_
  refine x_getI C (ci := 1) (kf := 0) rfl (by decide) hinX1_init_X1 lkX1_init_7 rfl hf dX1_init_42 (pc' := 45) rfl (fun v8 _ hf => ?_)
  refine x_imul C dX1_init_45 (pc' := 46) rfl ?_
  refine x_put C (ci := 1) (kf := 2) rfl (by decide) hinX1_init_X1 tyX1 tyX1_ok nmX1 lkX1_init_12 rfl (Or.inr ⟨rfl, hnm, rfl⟩) rfl hf dX1_init_46 (pc' := 49) rfl (fun h9 _ hf => ?_)
  refine x_aload_n C dX1_init_49 (pc' := 50) rfl rfl rfl ?_
  refine x_aload_n C dX1_init_50 (pc' := 51) rfl rfl rfl ?_
  refine x_aload_n C dX1_init_51 (pc' := 52) rfl rfl rfl ?_
  refine x_getI C (ci := 1) (kf := 2) rfl (by decide) hinX1_init_X1 lkX1_init_12 rfl hf dX1_init_52 (pc' := 55) rfl (fun v10 _ hf => ?_)
  obtain ⟨r11, h12, hq, hf⟩ := call_some hf
  refine x_callS C (As := [vR a3, vI v10]) (st := [vR a0]) (r := (some (vR r11))) (h' := h12) (mc := 1) (ms := 27) (k := 0) (n := 0) (mJ7_copyOf_59c91 hq) (va_cwS 2 C.1.2.2.2.2 gX1_init_J7_copyOf_59c91 rfl rfl rfl (by decide +kernel) ⟨Nat.le_of_ble_eq_true rfl, Nat.le_of_ble_eq_true rfl⟩) rfl rfl (Nat.le_of_ble_eq_true rfl) dX1_init_55 (pc' := 58) rfl ?_
  refine x_put C (ci := 1) (kf := 4) rfl (by decide) hinX1_init_X1 tyX1 tyX1_ok nmX1 lkX1_init_13 rfl (Or.inr ⟨rfl, hnm, rfl⟩) rfl hf dX1_init_58 (pc' := 61) rfl (fun h13 _ hf => ?_)
  cases hf
  exact x_vret C hr hlk dX1_init_61
-- ===== X1_tells
theorem lkX1_tells_0 : Cond.fieldLink RX1 39 "MossRings$Rule" "told" "[I" ∈ wsX1_tells := by decide +kernel
theorem hinX1_tells_X1 : ∀ w ∈ u_ws RX1 TX1 5, w ∈ wsX1_tells := by decide +kernel
def fX1_tells (h : Hp) (a0 : Nat) (i1 : Int32) : Option (Int32 × Hp) := if i1 < 0 then (some ((0 : Int32), h)) else ((gR h a0 1 4).bind fun v1 => (aN h v1).bind fun v2 => if v2 ≤ i1 then (some ((0 : Int32), h)) else ((gR h a0 1 4).bind fun v3 => (aI h v3 0 i1).bind fun v4 => some (v4, h)))
set_option maxHeartbeats 4000000 in
set_option maxRecDepth 100000 in
theorem mX1_tells {l : Launch} {g : XG} {h : Hp} {a0 : Nat} {i1 : Int32} {res : Int32 × Hp} (hf : fX1_tells h a0 i1 = some res) : XM l g yX1_tells wsX1_tells 0 0 0 0 [vR a0, vI i1] h (some (vI res.1)) res.2 := by
  refine x_start (cc := cX1_tells) (maxL := 2) (ret := (some .int)) (by decide) rfl (Nat.le_of_ble_eq_true rfl) (lv := [some (vR a0), some (vI i1)]) rfl ?_
  intro p e s m args below meth c C hr hlk hnm
  unfold fX1_tells at hf
  refine x_iload_n C dX1_tells_0 (pc' := 1) rfl rfl rfl ?_
  refine x_if_lt C hf dX1_tells_1 (pc' := 4) rfl (tgt := 22) (by decide) (fun _ hf => ?_) (fun _ hf => ?_)
  ·
    refine x_iconst C (v := 0) (by decide) dX1_tells_22 (pc' := 23) rfl ?_
    cases hf
    exact x_iret C hr hlk dX1_tells_23
  ·
    refine x_iload_n C dX1_tells_4 (pc' := 5) rfl rfl rfl ?_
    refine x_aload_n C dX1_tells_5 (pc' := 6) rfl rfl rfl ?_
    refine x_getR C (ci := 1) (kf := 4) rfl (by decide) hinX1_tells_X1 lkX1_tells_0 rfl hf dX1_tells_6 (pc' := 9) rfl (fun v1 _ hf => ?_)
    refine x_alen C hf dX1_tells_9 (pc' := 10) rfl (fun v2 _ hf => ?_)
    refine x_icmp_ge C hf dX1_tells_10 (pc' := 13) rfl (tgt := 22) (by decide) (fun _ hf => ?_) (fun _ hf => ?_)
    ·
      refine x_iconst C (v := 0) (by decide) dX1_tells_22 (pc' := 23) rfl ?_
      cases hf
      exact x_iret C hr hlk dX1_tells_23
    ·
      refine x_aload_n C dX1_tells_13 (pc' := 14) rfl rfl rfl ?_
      refine x_getR C (ci := 1) (kf := 4) rfl (by decide) hinX1_tells_X1 lkX1_tells_0 rfl hf dX1_tells_14 (pc' := 17) rfl (fun v3 _ hf => ?_)
      refine x_iload_n C dX1_tells_17 (pc' := 18) rfl rfl rfl ?_
      refine x_iaload C hf dX1_tells_18 (pc' := 19) rfl (fun v4 _ hf => ?_)
      refine x_goto C dX1_tells_19 (tgt := 23) (by decide) ?_
      cases hf
      exact x_iret C hr hlk dX1_tells_23
-- ===== X1_grow
theorem lkX1_grow_0 : Cond.fieldLink RX1 13 "MossRings$Rule" "states" "I" ∈ wsX1_grow := by decide +kernel
theorem hinX1_grow_X1 : ∀ w ∈ u_ws RX1 TX1 5, w ∈ wsX1_grow := by decide +kernel
theorem lkX1_grow_1 : Cond.fieldLink RX1 27 "MossRings$Rule" "nodes" "I" ∈ wsX1_grow := by decide +kernel
theorem lkX1_grow_2 : Cond.fieldLink RX1 19 "MossRings$Rule" "width" "I" ∈ wsX1_grow := by decide +kernel
def fX1_grow_b123 (w82 : Nat → Nat → Int32 → Int32 → Nat → Int32 → Int32 → Int64 → Int32 → Hp → Option (Int64 × Hp)) (a0 : Nat) (a1 : Nat) (i2 : Int32) (i3 : Int32) (a4 : Nat) (i5 : Int32) (j7 : Int64) (i9 : Int32) (s0 : Int32) (h : Hp) : Option (Int64 × Hp) := call (oK h a0 1 (fX1_tells h a0 i5)) fun r1 h2 => (sI h2 a4 0 i9 r1).bind fun h3 => (gI h3 a0 1 0).bind fun v4 => setv (((j7 * (v4).toInt64) + (r1).toInt64)) fun v5 => w82 a0 a1 i2 i3 a4 i5 s0 v5 (i9 + 1) h3
set_option maxHeartbeats 4000000 in
set_option maxRecDepth 100000 in
theorem mX1_grow_b123 {g : XG} {p : Program} {l : Launch} {e : Env} {s : State} {m : MethodId} {args : Array Value} {below : List Frame} {meth : Method} {c : Code} (C : x_C g p s m args c cX1_grow RX1 11 wsX1_grow) (hr : meth.sig.returnType = (some .long)) (hlk : meth.locks = false) (hnm : meth.name = yX1_grow.name) {res : Int64 × Hp} (w82 : Nat → Nat → Int32 → Int32 → Nat → Int32 → Int32 → Int64 → Int32 → Hp → Option (Int64 × Hp)) (hw82 : ∀ (a0 : Nat) (a1 : Nat) (i2 : Int32) (i3 : Int32) (a4 : Nat) (i5 : Int32) (i6 : Int32) (j7 : Int64) (i9 : Int32) (h : Hp), w82 a0 a1 i2 i3 a4 i5 i6 j7 i9 h = some res → XW g p l e { frames := 1, cells := 0, slots := 0, locals := 21 } s m args below meth c (MQ below (x_Q g (some (vL res.1)) res.2) args s 0 0 (x_A g)) 11 0 0 h 82 [some (vR a0), some (vR a1), some (vI i2), some (vI i3), some (vR a4), some (vI i5), some (vI i6), some (vL j7), none, some (vI i9), none] []) (a0 : Nat) (a1 : Nat) (i2 : Int32) (i3 : Int32) (a4 : Nat) (i5 : Int32) (j7 : Int64) (i9 : Int32) (s0 : Int32) (h : Hp) (hf : fX1_grow_b123 w82 a0 a1 i2 i3 a4 i5 j7 i9 s0 h = some res) : XW g p l e { frames := 1, cells := 0, slots := 0, locals := 21 } s m args below meth c (MQ below (x_Q g (some (vL res.1)) res.2) args s 0 0 (x_A g)) 11 0 0 h 123 [some (vR a0), some (vR a1), some (vI i2), some (vI i3), some (vR a4), some (vI i5), none, some (vL j7), none, some (vI i9), none] [vI s0] := by
  unfold fX1_grow_b123 at hf
  refine x_istore C dX1_grow_123 (pc' := 125) rfl (by decide) rfl (lv' := [some (vR a0), some (vR a1), some (vI i2), some (vI i3), some (vR a4), some (vI i5), some (vI s0), some (vL j7), none, some (vI i9), none]) rfl ?_
  refine x_aload_n C dX1_grow_125 (pc' := 126) rfl rfl rfl ?_
  refine x_iload C dX1_grow_126 (pc' := 128) rfl rfl ?_
  obtain ⟨r1, h2, hq, hf⟩ := call_some hf
  obtain ⟨hob, hq⟩ := oK_some hq
  refine x_callV C (As := [vI i5]) (st := []) (r := (some (vI r1))) (h' := h2) (mc := 0) (ms := 0) (k := 0) (n := 0) (mX1_tells hq) hob (ci := 1) rfl (cwV 1 C.1.2.2.2.2 gX1_grow_X1_tells rfl rfl rfl (by decide +kernel) ⟨Nat.le_of_ble_eq_true rfl, Nat.le_of_ble_eq_true rfl⟩) rfl rfl (Nat.le_of_ble_eq_true rfl) dX1_grow_128 (pc' := 131) rfl ?_
  refine x_istore C dX1_grow_131 (pc' := 133) rfl (by decide) rfl (lv' := [some (vR a0), some (vR a1), some (vI i2), some (vI i3), some (vR a4), some (vI i5), some (vI s0), some (vL j7), none, some (vI i9), some (vI r1)]) rfl ?_
  refine x_aload C dX1_grow_133 (pc' := 135) rfl rfl ?_
  refine x_iload C dX1_grow_135 (pc' := 137) rfl rfl ?_
  refine x_iload C dX1_grow_137 (pc' := 139) rfl rfl ?_
  refine x_iastore C hf dX1_grow_139 (pc' := 140) rfl (fun h3 _ hf => ?_)
  refine x_lload C dX1_grow_140 (pc' := 142) rfl rfl ?_
  refine x_aload_n C dX1_grow_142 (pc' := 143) rfl rfl rfl ?_
  refine x_getI C (ci := 1) (kf := 0) rfl (by decide) hinX1_grow_X1 lkX1_grow_0 rfl hf dX1_grow_143 (pc' := 146) rfl (fun v4 _ hf => ?_)
  refine x_i2l C dX1_grow_146 (pc' := 147) rfl ?_
  refine x_lmul C dX1_grow_147 (pc' := 148) rfl ?_
  refine x_iload C dX1_grow_148 (pc' := 150) rfl rfl ?_
  refine x_i2l C dX1_grow_150 (pc' := 151) rfl ?_
  refine x_ladd C dX1_grow_151 (pc' := 152) rfl ?_
  refine x_nameL hf (fun v5 _ hf => ?_)
  refine x_lstore C dX1_grow_152 (pc' := 154) rfl (by decide) rfl (lv' := [some (vR a0), some (vR a1), some (vI i2), some (vI i3), some (vR a4), some (vI i5), some (vI s0), some (vL v5), none, some (vI i9), some (vI r1)]) rfl ?_
  refine x_iinc C dX1_grow_154 (pc' := 157) rfl rfl (v := (i9 + 1)) rfl (by decide) rfl (lv' := [some (vR a0), some (vR a1), some (vI i2), some (vI i3), some (vR a4), some (vI i5), some (vI s0), some (vL v5), none, some (vI (i9 + 1)), some (vI r1)]) rfl ?_
  refine x_goto C dX1_grow_157 (tgt := 82) (by decide) ?_
  refine x_keep [true, true, true, true, true, true, true, true, false, true, false] rfl ?_
  exact hw82 a0 a1 i2 i3 a4 i5 s0 v5 (i9 + 1) h3 hf
def fX1_grow_w82 : Nat → Nat → Nat → Int32 → Int32 → Nat → Int32 → Int32 → Int64 → Int32 → Hp → Option (Int64 × Hp)
  | 0 => fun _ _ _ _ _ _ _ _ _ _ => none
  | n + 1 => fun a0 a1 i2 i3 a4 i5 i6 j7 i9 h => if i3 ≤ i9 then (some (j7, h)) else ((gI h a0 1 3).bind fun v1 => iRem i5 v1 fun v2 => (gI h a0 1 0).bind fun v3 => (aI h a1 0 i6).bind fun v4 => setv (((v2 * v3) + v4)) fun v5 => if i2 ≤ (i6 + (1 : Int32)) then (fX1_grow_b123 (fX1_grow_w82 n) a0 a1 i2 i3 a4 v5 j7 i9 (0 : Int32) h) else (fX1_grow_b123 (fX1_grow_w82 n) a0 a1 i2 i3 a4 v5 j7 i9 (i6 + (1 : Int32)) h))
set_option maxHeartbeats 4000000 in
set_option maxRecDepth 100000 in
theorem mX1_grow_w82 {g : XG} {p : Program} {l : Launch} {e : Env} {s : State} {m : MethodId} {args : Array Value} {below : List Frame} {meth : Method} {c : Code} (C : x_C g p s m args c cX1_grow RX1 11 wsX1_grow) (hr : meth.sig.returnType = (some .long)) (hlk : meth.locks = false) (hnm : meth.name = yX1_grow.name) {res : Int64 × Hp} : ∀ (n : Nat) (a0 : Nat) (a1 : Nat) (i2 : Int32) (i3 : Int32) (a4 : Nat) (i5 : Int32) (i6 : Int32) (j7 : Int64) (i9 : Int32) (h : Hp), fX1_grow_w82 n a0 a1 i2 i3 a4 i5 i6 j7 i9 h = some res → XW g p l e { frames := 1, cells := 0, slots := 0, locals := 21 } s m args below meth c (MQ below (x_Q g (some (vL res.1)) res.2) args s 0 0 (x_A g)) 11 0 0 h 82 [some (vR a0), some (vR a1), some (vI i2), some (vI i3), some (vR a4), some (vI i5), some (vI i6), some (vL j7), none, some (vI i9), none] [] := by
  intro n
  induction n with
  | zero =>
    intro a0 a1 i2 i3 a4 i5 i6 j7 i9 h hf
    have hf2 : (none : Option (Int64 × Hp)) = some res := hf
    cases hf2
  | succ n ih =>
    intro a0 a1 i2 i3 a4 i5 i6 j7 i9 h hf
    rw [fX1_grow_w82] at hf
    refine x_iload C dX1_grow_82 (pc' := 84) rfl rfl ?_
    refine x_iload_n C dX1_grow_84 (pc' := 85) rfl rfl rfl ?_
    refine x_icmp_ge C hf dX1_grow_85 (pc' := 88) rfl (tgt := 160) (by decide) (fun _ hf => ?_) (fun _ hf => ?_)
    ·
      refine x_lload C dX1_grow_160 (pc' := 162) rfl rfl ?_
      cases hf
      exact x_lret C hr hlk dX1_grow_162
    ·
      refine x_iload C dX1_grow_88 (pc' := 90) rfl rfl ?_
      refine x_aload_n C dX1_grow_90 (pc' := 91) rfl rfl rfl ?_
      refine x_getI C (ci := 1) (kf := 3) rfl (by decide) hinX1_grow_X1 lkX1_grow_1 rfl hf dX1_grow_91 (pc' := 94) rfl (fun v1 _ hf => ?_)
      refine x_irem C hf dX1_grow_94 (pc' := 95) rfl (fun _ v2 _ hf => ?_)
      refine x_aload_n C dX1_grow_95 (pc' := 96) rfl rfl rfl ?_
      refine x_getI C (ci := 1) (kf := 0) rfl (by decide) hinX1_grow_X1 lkX1_grow_0 rfl hf dX1_grow_96 (pc' := 99) rfl (fun v3 _ hf => ?_)
      refine x_imul C dX1_grow_99 (pc' := 100) rfl ?_
      refine x_aload_n C dX1_grow_100 (pc' := 101) rfl rfl rfl ?_
      refine x_iload C dX1_grow_101 (pc' := 103) rfl rfl ?_
      refine x_iaload C hf dX1_grow_103 (pc' := 104) rfl (fun v4 _ hf => ?_)
      refine x_iadd C dX1_grow_104 (pc' := 105) rfl ?_
      refine x_nameI hf (fun v5 _ hf => ?_)
      refine x_istore C dX1_grow_105 (pc' := 107) rfl (by decide) rfl (lv' := [some (vR a0), some (vR a1), some (vI i2), some (vI i3), some (vR a4), some (vI v5), some (vI i6), some (vL j7), none, some (vI i9), none]) rfl ?_
      refine x_iload C dX1_grow_107 (pc' := 109) rfl rfl ?_
      refine x_iconst C (v := 1) (by decide) dX1_grow_109 (pc' := 110) rfl ?_
      refine x_iadd C dX1_grow_110 (pc' := 111) rfl ?_
      refine x_iload_n C dX1_grow_111 (pc' := 112) rfl rfl rfl ?_
      refine x_icmp_ge C hf dX1_grow_112 (pc' := 115) rfl (tgt := 122) (by decide) (fun _ hf => ?_) (fun _ hf => ?_)
      ·
        refine x_iconst C (v := 0) (by decide) dX1_grow_122 (pc' := 123) rfl ?_
        refine x_keep [true, true, true, true, true, true, false, true, false, true, false] rfl ?_
        refine x_more (k' := 0) (n' := 0) (Nat.le_of_ble_eq_true rfl) (Nat.le_of_ble_eq_true rfl) ?_
        exact mX1_grow_b123 C hr hlk hnm (fX1_grow_w82 n) ih a0 a1 i2 i3 a4 v5 j7 i9 (0 : Int32) h hf
      ·
        refine x_iload C dX1_grow_115 (pc' := 117) rfl rfl ?_
        refine x_iconst C (v := 1) (by decide) dX1_grow_117 (pc' := 118) rfl ?_
        refine x_iadd C dX1_grow_118 (pc' := 119) rfl ?_
        refine x_goto C dX1_grow_119 (tgt := 123) (by decide) ?_
        refine x_keep [true, true, true, true, true, true, false, true, false, true, false] rfl ?_
        refine x_more (k' := 0) (n' := 0) (Nat.le_of_ble_eq_true rfl) (Nat.le_of_ble_eq_true rfl) ?_
        exact mX1_grow_b123 C hr hlk hnm (fX1_grow_w82 n) ih a0 a1 i2 i3 a4 v5 j7 i9 (i6 + (1 : Int32)) h hf
def fX1_grow_b76 (a0 : Nat) (a1 : Nat) (i2 : Int32) (i3 : Int32) (a4 : Nat) (i5 : Int32) (i6 : Int32) (h : Hp) : Option (Int64 × Hp) := fX1_grow_w82 FUEL a0 a1 i2 i3 a4 i5 i6 (0 : Int64) (0 : Int32) h
set_option maxHeartbeats 4000000 in
set_option maxRecDepth 100000 in
theorem mX1_grow_b76 {g : XG} {p : Program} {l : Launch} {e : Env} {s : State} {m : MethodId} {args : Array Value} {below : List Frame} {meth : Method} {c : Code} (C : x_C g p s m args c cX1_grow RX1 11 wsX1_grow) (hr : meth.sig.returnType = (some .long)) (hlk : meth.locks = false) (hnm : meth.name = yX1_grow.name) {res : Int64 × Hp} (a0 : Nat) (a1 : Nat) (i2 : Int32) (i3 : Int32) (a4 : Nat) (i5 : Int32) (i6 : Int32) (h : Hp) (hf : fX1_grow_b76 a0 a1 i2 i3 a4 i5 i6 h = some res) : XW g p l e { frames := 1, cells := 0, slots := 0, locals := 21 } s m args below meth c (MQ below (x_Q g (some (vL res.1)) res.2) args s 0 0 (x_A g)) 11 0 0 h 76 [some (vR a0), some (vR a1), some (vI i2), some (vI i3), some (vR a4), some (vI i5), some (vI i6), none, none, none, none] [] := by
  unfold fX1_grow_b76 at hf
  refine x_lconst C (v := 0) (by decide) dX1_grow_76 (pc' := 77) rfl ?_
  refine x_lstore C dX1_grow_77 (pc' := 79) rfl (by decide) rfl (lv' := [some (vR a0), some (vR a1), some (vI i2), some (vI i3), some (vR a4), some (vI i5), some (vI i6), some (vL (0 : Int64)), none, none, none]) rfl ?_
  refine x_iconst C (v := 0) (by decide) dX1_grow_79 (pc' := 80) rfl ?_
  refine x_istore C dX1_grow_80 (pc' := 82) rfl (by decide) rfl (lv' := [some (vR a0), some (vR a1), some (vI i2), some (vI i3), some (vR a4), some (vI i5), some (vI i6), some (vL (0 : Int64)), none, some (vI (0 : Int32)), none]) rfl ?_
  refine x_more (k' := 0) (n' := 0) (Nat.le_of_ble_eq_true rfl) (Nat.le_of_ble_eq_true rfl) ?_
  exact mX1_grow_w82 C hr hlk hnm FUEL a0 a1 i2 i3 a4 i5 i6 (0 : Int64) (0 : Int32) h hf
def fX1_grow_b68 (w29 : Nat → Nat → Int32 → Int32 → Nat → Int32 → Int32 → Int32 → Hp → Option (Int64 × Hp)) (a0 : Nat) (a1 : Nat) (i2 : Int32) (i3 : Int32) (a4 : Nat) (i5 : Int32) (i7 : Int32) (s0 : Int32) (h : Hp) : Option (Int64 × Hp) := w29 a0 a1 i2 i3 a4 i5 s0 (i7 + 1) h
set_option maxHeartbeats 4000000 in
set_option maxRecDepth 100000 in
theorem mX1_grow_b68 {g : XG} {p : Program} {l : Launch} {e : Env} {s : State} {m : MethodId} {args : Array Value} {below : List Frame} {meth : Method} {c : Code} (C : x_C g p s m args c cX1_grow RX1 11 wsX1_grow) (hr : meth.sig.returnType = (some .long)) (hlk : meth.locks = false) (hnm : meth.name = yX1_grow.name) {res : Int64 × Hp} (w29 : Nat → Nat → Int32 → Int32 → Nat → Int32 → Int32 → Int32 → Hp → Option (Int64 × Hp)) (hw29 : ∀ (a0 : Nat) (a1 : Nat) (i2 : Int32) (i3 : Int32) (a4 : Nat) (i5 : Int32) (i6 : Int32) (i7 : Int32) (h : Hp), w29 a0 a1 i2 i3 a4 i5 i6 i7 h = some res → XW g p l e { frames := 1, cells := 0, slots := 0, locals := 21 } s m args below meth c (MQ below (x_Q g (some (vL res.1)) res.2) args s 0 0 (x_A g)) 11 0 0 h 29 [some (vR a0), some (vR a1), some (vI i2), some (vI i3), some (vR a4), some (vI i5), some (vI i6), some (vI i7), none, none, none] []) (a0 : Nat) (a1 : Nat) (i2 : Int32) (i3 : Int32) (a4 : Nat) (i5 : Int32) (i7 : Int32) (s0 : Int32) (h : Hp) (hf : fX1_grow_b68 w29 a0 a1 i2 i3 a4 i5 i7 s0 h = some res) : XW g p l e { frames := 1, cells := 0, slots := 0, locals := 21 } s m args below meth c (MQ below (x_Q g (some (vL res.1)) res.2) args s 0 0 (x_A g)) 11 0 0 h 68 [some (vR a0), some (vR a1), some (vI i2), some (vI i3), some (vR a4), some (vI i5), none, some (vI i7), none, none, none] [vI s0] := by
  unfold fX1_grow_b68 at hf
  refine x_istore C dX1_grow_68 (pc' := 70) rfl (by decide) rfl (lv' := [some (vR a0), some (vR a1), some (vI i2), some (vI i3), some (vR a4), some (vI i5), some (vI s0), some (vI i7), none, none, none]) rfl ?_
  refine x_iinc C dX1_grow_70 (pc' := 73) rfl rfl (v := (i7 + 1)) rfl (by decide) rfl (lv' := [some (vR a0), some (vR a1), some (vI i2), some (vI i3), some (vR a4), some (vI i5), some (vI s0), some (vI (i7 + 1)), none, none, none]) rfl ?_
  refine x_goto C dX1_grow_73 (tgt := 29) (by decide) ?_
  exact hw29 a0 a1 i2 i3 a4 i5 s0 (i7 + 1) h hf
def fX1_grow_w29 : Nat → Nat → Nat → Int32 → Int32 → Nat → Int32 → Int32 → Int32 → Hp → Option (Int64 × Hp)
  | 0 => fun _ _ _ _ _ _ _ _ _ => none
  | n + 1 => fun a0 a1 i2 i3 a4 i5 i6 i7 h => (gI h a0 1 1).bind fun v1 => if v1 ≤ i7 then (fX1_grow_b76 a0 a1 i2 i3 a4 i5 i6 h) else ((gI h a0 1 0).bind fun v2 => (aI h a1 0 i6).bind fun v3 => setv (((i5 * v2) + v3)) fun v4 => if i2 ≤ (i6 + (1 : Int32)) then (fX1_grow_b68 (fX1_grow_w29 n) a0 a1 i2 i3 a4 v4 i7 (0 : Int32) h) else (fX1_grow_b68 (fX1_grow_w29 n) a0 a1 i2 i3 a4 v4 i7 (i6 + (1 : Int32)) h))
set_option maxHeartbeats 4000000 in
set_option maxRecDepth 100000 in
theorem mX1_grow_w29 {g : XG} {p : Program} {l : Launch} {e : Env} {s : State} {m : MethodId} {args : Array Value} {below : List Frame} {meth : Method} {c : Code} (C : x_C g p s m args c cX1_grow RX1 11 wsX1_grow) (hr : meth.sig.returnType = (some .long)) (hlk : meth.locks = false) (hnm : meth.name = yX1_grow.name) {res : Int64 × Hp} : ∀ (n : Nat) (a0 : Nat) (a1 : Nat) (i2 : Int32) (i3 : Int32) (a4 : Nat) (i5 : Int32) (i6 : Int32) (i7 : Int32) (h : Hp), fX1_grow_w29 n a0 a1 i2 i3 a4 i5 i6 i7 h = some res → XW g p l e { frames := 1, cells := 0, slots := 0, locals := 21 } s m args below meth c (MQ below (x_Q g (some (vL res.1)) res.2) args s 0 0 (x_A g)) 11 0 0 h 29 [some (vR a0), some (vR a1), some (vI i2), some (vI i3), some (vR a4), some (vI i5), some (vI i6), some (vI i7), none, none, none] [] := by
  intro n
  induction n with
  | zero =>
    intro a0 a1 i2 i3 a4 i5 i6 i7 h hf
    have hf2 : (none : Option (Int64 × Hp)) = some res := hf
    cases hf2
  | succ n ih =>
    intro a0 a1 i2 i3 a4 i5 i6 i7 h hf
    rw [fX1_grow_w29] at hf
    refine x_iload C dX1_grow_29 (pc' := 31) rfl rfl ?_
    refine x_aload_n C dX1_grow_31 (pc' := 32) rfl rfl rfl ?_
    refine x_getI C (ci := 1) (kf := 1) rfl (by decide) hinX1_grow_X1 lkX1_grow_2 rfl hf dX1_grow_32 (pc' := 35) rfl (fun v1 _ hf => ?_)
    refine x_icmp_ge C hf dX1_grow_35 (pc' := 38) rfl (tgt := 76) (by decide) (fun _ hf => ?_) (fun _ hf => ?_)
    ·
      refine x_keep [true, true, true, true, true, true, true, false, false, false, false] rfl ?_
      refine x_more (k' := 0) (n' := 0) (Nat.le_of_ble_eq_true rfl) (Nat.le_of_ble_eq_true rfl) ?_
      exact mX1_grow_b76 C hr hlk hnm a0 a1 i2 i3 a4 i5 i6 h hf
    ·
      refine x_iload C dX1_grow_38 (pc' := 40) rfl rfl ?_
      refine x_aload_n C dX1_grow_40 (pc' := 41) rfl rfl rfl ?_
      refine x_getI C (ci := 1) (kf := 0) rfl (by decide) hinX1_grow_X1 lkX1_grow_0 rfl hf dX1_grow_41 (pc' := 44) rfl (fun v2 _ hf => ?_)
      refine x_imul C dX1_grow_44 (pc' := 45) rfl ?_
      refine x_aload_n C dX1_grow_45 (pc' := 46) rfl rfl rfl ?_
      refine x_iload C dX1_grow_46 (pc' := 48) rfl rfl ?_
      refine x_iaload C hf dX1_grow_48 (pc' := 49) rfl (fun v3 _ hf => ?_)
      refine x_iadd C dX1_grow_49 (pc' := 50) rfl ?_
      refine x_nameI hf (fun v4 _ hf => ?_)
      refine x_istore C dX1_grow_50 (pc' := 52) rfl (by decide) rfl (lv' := [some (vR a0), some (vR a1), some (vI i2), some (vI i3), some (vR a4), some (vI v4), some (vI i6), some (vI i7), none, none, none]) rfl ?_
      refine x_iload C dX1_grow_52 (pc' := 54) rfl rfl ?_
      refine x_iconst C (v := 1) (by decide) dX1_grow_54 (pc' := 55) rfl ?_
      refine x_iadd C dX1_grow_55 (pc' := 56) rfl ?_
      refine x_iload_n C dX1_grow_56 (pc' := 57) rfl rfl rfl ?_
      refine x_icmp_ge C hf dX1_grow_57 (pc' := 60) rfl (tgt := 67) (by decide) (fun _ hf => ?_) (fun _ hf => ?_)
      ·
        refine x_iconst C (v := 0) (by decide) dX1_grow_67 (pc' := 68) rfl ?_
        refine x_keep [true, true, true, true, true, true, false, true, false, false, false] rfl ?_
        refine x_more (k' := 0) (n' := 0) (Nat.le_of_ble_eq_true rfl) (Nat.le_of_ble_eq_true rfl) ?_
        exact mX1_grow_b68 C hr hlk hnm (fX1_grow_w29 n) ih a0 a1 i2 i3 a4 v4 i7 (0 : Int32) h hf
      ·
        refine x_iload C dX1_grow_60 (pc' := 62) rfl rfl ?_
        refine x_iconst C (v := 1) (by decide) dX1_grow_62 (pc' := 63) rfl ?_
        refine x_iadd C dX1_grow_63 (pc' := 64) rfl ?_
        refine x_goto C dX1_grow_64 (tgt := 68) (by decide) ?_
        refine x_keep [true, true, true, true, true, true, false, true, false, false, false] rfl ?_
        refine x_more (k' := 0) (n' := 0) (Nat.le_of_ble_eq_true rfl) (Nat.le_of_ble_eq_true rfl) ?_
        exact mX1_grow_b68 C hr hlk hnm (fX1_grow_w29 n) ih a0 a1 i2 i3 a4 v4 i7 (i6 + (1 : Int32)) h hf
def fX1_grow (h : Hp) (a0 : Nat) (a1 : Nat) (i2 : Int32) (i3 : Int32) (a4 : Nat) : Option (Int64 × Hp) := if i2 < (1 : Int32) then (some ((0 : Int64), h)) else ((aN h a1).bind fun v1 => if v1 < i2 then (some ((0 : Int64), h)) else ((aN h a4).bind fun v2 => if i3 ≤ v2 then (fX1_grow_w29 FUEL a0 a1 i2 i3 a4 (0 : Int32) (0 : Int32) (1 : Int32) h) else (some ((0 : Int64), h))))
set_option maxHeartbeats 4000000 in
set_option maxRecDepth 100000 in
theorem mX1_grow {l : Launch} {g : XG} {h : Hp} {a0 : Nat} {a1 : Nat} {i2 : Int32} {i3 : Int32} {a4 : Nat} {res : Int64 × Hp} (hf : fX1_grow h a0 a1 i2 i3 a4 = some res) : XM l g yX1_grow wsX1_grow 1 21 0 0 [vR a0, vR a1, vI i2, vI i3, vR a4] h (some (vL res.1)) res.2 := by
  refine x_start (cc := cX1_grow) (maxL := 11) (ret := (some .long)) (by decide) rfl (Nat.le_of_ble_eq_true rfl) (lv := [some (vR a0), some (vR a1), some (vI i2), some (vI i3), some (vR a4), none, none, none, none, none, none]) rfl ?_
  intro p e s m args below meth c C hr hlk hnm
  unfold fX1_grow at hf
  refine x_iload_n C dX1_grow_0 (pc' := 1) rfl rfl rfl ?_
  refine x_iconst C (v := 1) (by decide) dX1_grow_1 (pc' := 2) rfl ?_
  refine x_icmp_lt C hf dX1_grow_2 (pc' := 5) rfl (tgt := 18) (by decide) (fun _ hf => ?_) (fun _ hf => ?_)
  ·
    refine x_lconst C (v := 0) (by decide) dX1_grow_18 (pc' := 19) rfl ?_
    cases hf
    exact x_lret C hr hlk dX1_grow_19
  ·
    refine x_iload_n C dX1_grow_5 (pc' := 6) rfl rfl rfl ?_
    refine x_aload_n C dX1_grow_6 (pc' := 7) rfl rfl rfl ?_
    refine x_alen C hf dX1_grow_7 (pc' := 8) rfl (fun v1 _ hf => ?_)
    refine x_icmp_gt C hf dX1_grow_8 (pc' := 11) rfl (tgt := 18) (by decide) (fun _ hf => ?_) (fun _ hf => ?_)
    ·
      refine x_lconst C (v := 0) (by decide) dX1_grow_18 (pc' := 19) rfl ?_
      cases hf
      exact x_lret C hr hlk dX1_grow_19
    ·
      refine x_iload_n C dX1_grow_11 (pc' := 12) rfl rfl rfl ?_
      refine x_aload C dX1_grow_12 (pc' := 14) rfl rfl ?_
      refine x_alen C hf dX1_grow_14 (pc' := 15) rfl (fun v2 _ hf => ?_)
      refine x_icmp_le C hf dX1_grow_15 (pc' := 18) rfl (tgt := 20) (by decide) (fun _ hf => ?_) (fun _ hf => ?_)
      ·
        refine x_iconst C (v := 0) (by decide) dX1_grow_20 (pc' := 21) rfl ?_
        refine x_istore C dX1_grow_21 (pc' := 23) rfl (by decide) rfl (lv' := [some (vR a0), some (vR a1), some (vI i2), some (vI i3), some (vR a4), some (vI (0 : Int32)), none, none, none, none, none]) rfl ?_
        refine x_iconst C (v := 0) (by decide) dX1_grow_23 (pc' := 24) rfl ?_
        refine x_istore C dX1_grow_24 (pc' := 26) rfl (by decide) rfl (lv' := [some (vR a0), some (vR a1), some (vI i2), some (vI i3), some (vR a4), some (vI (0 : Int32)), some (vI (0 : Int32)), none, none, none, none]) rfl ?_
        refine x_iconst C (v := 1) (by decide) dX1_grow_26 (pc' := 27) rfl ?_
        refine x_istore C dX1_grow_27 (pc' := 29) rfl (by decide) rfl (lv' := [some (vR a0), some (vR a1), some (vI i2), some (vI i3), some (vR a4), some (vI (0 : Int32)), some (vI (0 : Int32)), some (vI (1 : Int32)), none, none, none]) rfl ?_
        refine x_more (k' := 0) (n' := 0) (Nat.le_of_ble_eq_true rfl) (Nat.le_of_ble_eq_true rfl) ?_
        exact mX1_grow_w29 C hr hlk hnm FUEL a0 a1 i2 i3 a4 (0 : Int32) (0 : Int32) (1 : Int32) h hf
      ·
        refine x_lconst C (v := 0) (by decide) dX1_grow_18 (pc' := 19) rfl ?_
        cases hf
        exact x_lret C hr hlk dX1_grow_19
-- ===== X1_spread
theorem lkX1_spread_0 : Cond.fieldLink RX1 13 "MossRings$Rule" "states" "I" ∈ wsX1_spread := by decide +kernel
theorem hinX1_spread_X1 : ∀ w ∈ u_ws RX1 TX1 5, w ∈ wsX1_spread := by decide +kernel
theorem lkX1_spread_1 : Cond.methodLink RX1 47 Lib.Math.min.name ∈ wsX1_spread := by decide +kernel
theorem lkX1_spread_2 : Cond.static Lib.Math.min.name ∈ wsX1_spread := by decide +kernel
theorem lkX1_spread_3 : Cond.initialized "java/lang/Math" ∈ wsX1_spread := by decide +kernel
theorem lkX1_spread_4 : Cond.code Lib.Math.min.name Lib.Math.min.code 2 (some .int) ∈ wsX1_spread := by decide +kernel
def fX1_spread_w13 : Nat → Nat → Nat → Int32 → Int32 → Hp → Option (Hp)
  | 0 => fun _ _ _ _ _ => none
  | n + 1 => fun a0 a3 i4 i5 h => if i5 < 0 then (some h) else ((gI h a0 1 0).bind fun v1 => iRem i4 v1 fun v2 => (sI h a3 0 i5 v2).bind fun h3 => (gI h3 a0 1 0).bind fun v4 => iDiv i4 v4 fun v5 => (fX1_spread_w13 n) a0 a3 v5 (i5 + (-1)) h3)
set_option maxHeartbeats 4000000 in
set_option maxRecDepth 100000 in
theorem mX1_spread_w13 {g : XG} {p : Program} {l : Launch} {e : Env} {s : State} {m : MethodId} {args : Array Value} {below : List Frame} {meth : Method} {c : Code} (C : x_C g p s m args c cX1_spread RX1 6 wsX1_spread) (hr : meth.sig.returnType = none) (hlk : meth.locks = false) (hnm : meth.name = yX1_spread.name) {res : Hp} : ∀ (n : Nat) (a0 : Nat) (a3 : Nat) (i4 : Int32) (i5 : Int32) (h : Hp), fX1_spread_w13 n a0 a3 i4 i5 h = some res → XW g p l e { frames := 1, cells := 0, slots := 0, locals := 13 } s m args below meth c (MQ below (x_Q g none res) args s 0 0 (x_A g)) 6 0 0 h 13 [some (vR a0), none, none, some (vR a3), some (vI i4), some (vI i5)] [] := by
  intro n
  induction n with
  | zero =>
    intro a0 a3 i4 i5 h hf
    have hf2 : (none : Option (Hp)) = some res := hf
    cases hf2
  | succ n ih =>
    intro a0 a3 i4 i5 h hf
    rw [fX1_spread_w13] at hf
    refine x_iload C dX1_spread_13 (pc' := 15) rfl rfl ?_
    refine x_if_lt C hf dX1_spread_15 (pc' := 18) rfl (tgt := 44) (by decide) (fun _ hf => ?_) (fun _ hf => ?_)
    ·
      cases hf
      exact x_vret C hr hlk dX1_spread_44
    ·
      refine x_aload_n C dX1_spread_18 (pc' := 19) rfl rfl rfl ?_
      refine x_iload C dX1_spread_19 (pc' := 21) rfl rfl ?_
      refine x_iload C dX1_spread_21 (pc' := 23) rfl rfl ?_
      refine x_aload_n C dX1_spread_23 (pc' := 24) rfl rfl rfl ?_
      refine x_getI C (ci := 1) (kf := 0) rfl (by decide) hinX1_spread_X1 lkX1_spread_0 rfl hf dX1_spread_24 (pc' := 27) rfl (fun v1 _ hf => ?_)
      refine x_irem C hf dX1_spread_27 (pc' := 28) rfl (fun _ v2 _ hf => ?_)
      refine x_iastore C hf dX1_spread_28 (pc' := 29) rfl (fun h3 _ hf => ?_)
      refine x_iload C dX1_spread_29 (pc' := 31) rfl rfl ?_
      refine x_aload_n C dX1_spread_31 (pc' := 32) rfl rfl rfl ?_
      refine x_getI C (ci := 1) (kf := 0) rfl (by decide) hinX1_spread_X1 lkX1_spread_0 rfl hf dX1_spread_32 (pc' := 35) rfl (fun v4 _ hf => ?_)
      refine x_idiv C hf dX1_spread_35 (pc' := 36) rfl (fun _ v5 _ hf => ?_)
      refine x_istore C dX1_spread_36 (pc' := 38) rfl (by decide) rfl (lv' := [some (vR a0), none, none, some (vR a3), some (vI v5), some (vI i5)]) rfl ?_
      refine x_iinc C dX1_spread_38 (pc' := 41) rfl rfl (v := (i5 + (-1))) rfl (by decide) rfl (lv' := [some (vR a0), none, none, some (vR a3), some (vI v5), some (vI (i5 + (-1)))]) rfl ?_
      refine x_goto C dX1_spread_41 (tgt := 13) (by decide) ?_
      exact ih a0 a3 v5 (i5 + (-1)) h3 hf
def fX1_spread (h : Hp) (a0 : Nat) (i1 : Int32) (i2 : Int32) (a3 : Nat) : Option (Hp) := (aN h a3).bind fun v1 => setv (((iMin i2 v1) - (1 : Int32))) fun v2 => fX1_spread_w13 FUEL a0 a3 i1 v2 h
set_option maxHeartbeats 4000000 in
set_option maxRecDepth 100000 in
theorem mX1_spread {l : Launch} {g : XG} {h : Hp} {a0 : Nat} {i1 : Int32} {i2 : Int32} {a3 : Nat} {res : Hp} (hf : fX1_spread h a0 i1 i2 a3 = some res) : XM l g yX1_spread wsX1_spread 1 13 0 0 [vR a0, vI i1, vI i2, vR a3] h none res := by
  refine x_start (cc := cX1_spread) (maxL := 6) (ret := none) (by decide) rfl (Nat.le_of_ble_eq_true rfl) (lv := [some (vR a0), some (vI i1), some (vI i2), some (vR a3), none, none]) rfl ?_
  intro p e s m args below meth c C hr hlk hnm
  unfold fX1_spread at hf
  refine x_iload_n C dX1_spread_0 (pc' := 1) rfl rfl rfl ?_
  refine x_istore C dX1_spread_1 (pc' := 3) rfl (by decide) rfl (lv' := [some (vR a0), some (vI i1), some (vI i2), some (vR a3), some (vI i1), none]) rfl ?_
  refine x_iload_n C dX1_spread_3 (pc' := 4) rfl rfl rfl ?_
  refine x_aload_n C dX1_spread_4 (pc' := 5) rfl rfl rfl ?_
  refine x_alen C hf dX1_spread_5 (pc' := 6) rfl (fun v1 _ hf => ?_)
  refine x_min C lkX1_spread_1 lkX1_spread_2 lkX1_spread_3 lkX1_spread_4 (Nat.le_of_ble_eq_true rfl) (Nat.le_of_ble_eq_true rfl) dX1_spread_6 (pc' := 9) rfl ?_
  refine x_iconst C (v := 1) (by decide) dX1_spread_9 (pc' := 10) rfl ?_
  refine x_isub C dX1_spread_10 (pc' := 11) rfl ?_
  refine x_nameI hf (fun v2 _ hf => ?_)
  refine x_istore C dX1_spread_11 (pc' := 13) rfl (by decide) rfl (lv' := [some (vR a0), some (vI i1), some (vI i2), some (vR a3), some (vI i1), some (vI v2)]) rfl ?_
  refine x_keep [true, false, false, true, true, true] rfl ?_
  refine x_more (k' := 0) (n' := 0) (Nat.le_of_ble_eq_true rfl) (Nat.le_of_ble_eq_true rfl) ?_
  exact mX1_spread_w13 C hr hlk hnm FUEL a0 a3 i1 v2 h hf
-- ===== X1_backward
theorem lkX1_backward_0 : Cond.fieldLink RX1 19 "MossRings$Rule" "width" "I" ∈ wsX1_backward := by decide +kernel
theorem hinX1_backward_X1 : ∀ w ∈ u_ws RX1 TX1 5, w ∈ wsX1_backward := by decide +kernel
theorem lkX1_backward_1 : Cond.fieldLink RX1 13 "MossRings$Rule" "states" "I" ∈ wsX1_backward := by decide +kernel
def fX1_backward_w7 : Nat → Nat → Int32 → Int32 → Int32 → Hp → Option (Int32 × Hp)
  | 0 => fun _ _ _ _ _ => none
  | n + 1 => fun a0 i2 i3 i4 h => (gI h a0 1 1).bind fun v1 => if v1 ≤ i4 then (some (i3, h)) else ((gI h a0 1 0).bind fun v2 => (gI h a0 1 0).bind fun v3 => iRem i2 v3 fun v4 => setv (((i3 * v2) + v4)) fun v5 => (gI h a0 1 0).bind fun v6 => iDiv i2 v6 fun v7 => (fX1_backward_w7 n) a0 v7 v5 (i4 + 1) h)
set_option maxHeartbeats 4000000 in
set_option maxRecDepth 100000 in
theorem mX1_backward_w7 {g : XG} {p : Program} {l : Launch} {e : Env} {s : State} {m : MethodId} {args : Array Value} {below : List Frame} {meth : Method} {c : Code} (C : x_C g p s m args c cX1_backward RX1 5 wsX1_backward) (hr : meth.sig.returnType = (some .int)) (hlk : meth.locks = false) (hnm : meth.name = yX1_backward.name) {res : Int32 × Hp} : ∀ (n : Nat) (a0 : Nat) (i2 : Int32) (i3 : Int32) (i4 : Int32) (h : Hp), fX1_backward_w7 n a0 i2 i3 i4 h = some res → XW g p l e { frames := 0, cells := 0, slots := 0, locals := 0 } s m args below meth c (MQ below (x_Q g (some (vI res.1)) res.2) args s 0 0 (x_A g)) 5 0 0 h 7 [some (vR a0), none, some (vI i2), some (vI i3), some (vI i4)] [] := by
  intro n
  induction n with
  | zero =>
    intro a0 i2 i3 i4 h hf
    have hf2 : (none : Option (Int32 × Hp)) = some res := hf
    cases hf2
  | succ n ih =>
    intro a0 i2 i3 i4 h hf
    rw [fX1_backward_w7] at hf
    refine x_iload C dX1_backward_7 (pc' := 9) rfl rfl ?_
    refine x_aload_n C dX1_backward_9 (pc' := 10) rfl rfl rfl ?_
    refine x_getI C (ci := 1) (kf := 1) rfl (by decide) hinX1_backward_X1 lkX1_backward_0 rfl hf dX1_backward_10 (pc' := 13) rfl (fun v1 _ hf => ?_)
    refine x_icmp_ge C hf dX1_backward_13 (pc' := 16) rfl (tgt := 43) (by decide) (fun _ hf => ?_) (fun _ hf => ?_)
    ·
      refine x_iload_n C dX1_backward_43 (pc' := 44) rfl rfl rfl ?_
      cases hf
      exact x_iret C hr hlk dX1_backward_44
    ·
      refine x_iload_n C dX1_backward_16 (pc' := 17) rfl rfl rfl ?_
      refine x_aload_n C dX1_backward_17 (pc' := 18) rfl rfl rfl ?_
      refine x_getI C (ci := 1) (kf := 0) rfl (by decide) hinX1_backward_X1 lkX1_backward_1 rfl hf dX1_backward_18 (pc' := 21) rfl (fun v2 _ hf => ?_)
      refine x_imul C dX1_backward_21 (pc' := 22) rfl ?_
      refine x_iload_n C dX1_backward_22 (pc' := 23) rfl rfl rfl ?_
      refine x_aload_n C dX1_backward_23 (pc' := 24) rfl rfl rfl ?_
      refine x_getI C (ci := 1) (kf := 0) rfl (by decide) hinX1_backward_X1 lkX1_backward_1 rfl hf dX1_backward_24 (pc' := 27) rfl (fun v3 _ hf => ?_)
      refine x_irem C hf dX1_backward_27 (pc' := 28) rfl (fun _ v4 _ hf => ?_)
      refine x_iadd C dX1_backward_28 (pc' := 29) rfl ?_
      refine x_nameI hf (fun v5 _ hf => ?_)
      refine x_istore_n C dX1_backward_29 (pc' := 30) rfl rfl (by decide) rfl (lv' := [some (vR a0), none, some (vI i2), some (vI v5), some (vI i4)]) rfl ?_
      refine x_iload_n C dX1_backward_30 (pc' := 31) rfl rfl rfl ?_
      refine x_aload_n C dX1_backward_31 (pc' := 32) rfl rfl rfl ?_
      refine x_getI C (ci := 1) (kf := 0) rfl (by decide) hinX1_backward_X1 lkX1_backward_1 rfl hf dX1_backward_32 (pc' := 35) rfl (fun v6 _ hf => ?_)
      refine x_idiv C hf dX1_backward_35 (pc' := 36) rfl (fun _ v7 _ hf => ?_)
      refine x_istore_n C dX1_backward_36 (pc' := 37) rfl rfl (by decide) rfl (lv' := [some (vR a0), none, some (vI v7), some (vI v5), some (vI i4)]) rfl ?_
      refine x_iinc C dX1_backward_37 (pc' := 40) rfl rfl (v := (i4 + 1)) rfl (by decide) rfl (lv' := [some (vR a0), none, some (vI v7), some (vI v5), some (vI (i4 + 1))]) rfl ?_
      refine x_goto C dX1_backward_40 (tgt := 7) (by decide) ?_
      exact ih a0 v7 v5 (i4 + 1) h hf
def fX1_backward (h : Hp) (a0 : Nat) (i1 : Int32) : Option (Int32 × Hp) := fX1_backward_w7 FUEL a0 i1 (0 : Int32) (0 : Int32) h
set_option maxHeartbeats 4000000 in
set_option maxRecDepth 100000 in
theorem mX1_backward {l : Launch} {g : XG} {h : Hp} {a0 : Nat} {i1 : Int32} {res : Int32 × Hp} (hf : fX1_backward h a0 i1 = some res) : XM l g yX1_backward wsX1_backward 0 0 0 0 [vR a0, vI i1] h (some (vI res.1)) res.2 := by
  refine x_start (cc := cX1_backward) (maxL := 5) (ret := (some .int)) (by decide) rfl (Nat.le_of_ble_eq_true rfl) (lv := [some (vR a0), some (vI i1), none, none, none]) rfl ?_
  intro p e s m args below meth c C hr hlk hnm
  unfold fX1_backward at hf
  refine x_iload_n C dX1_backward_0 (pc' := 1) rfl rfl rfl ?_
  refine x_istore_n C dX1_backward_1 (pc' := 2) rfl rfl (by decide) rfl (lv' := [some (vR a0), some (vI i1), some (vI i1), none, none]) rfl ?_
  refine x_iconst C (v := 0) (by decide) dX1_backward_2 (pc' := 3) rfl ?_
  refine x_istore_n C dX1_backward_3 (pc' := 4) rfl rfl (by decide) rfl (lv' := [some (vR a0), some (vI i1), some (vI i1), some (vI (0 : Int32)), none]) rfl ?_
  refine x_iconst C (v := 0) (by decide) dX1_backward_4 (pc' := 5) rfl ?_
  refine x_istore C dX1_backward_5 (pc' := 7) rfl (by decide) rfl (lv' := [some (vR a0), some (vI i1), some (vI i1), some (vI (0 : Int32)), some (vI (0 : Int32))]) rfl ?_
  refine x_keep [true, false, true, true, true] rfl ?_
  refine x_more (k' := 0) (n' := 0) (Nat.le_of_ble_eq_true rfl) (Nat.le_of_ble_eq_true rfl) ?_
  exact mX1_backward_w7 C hr hlk hnm FUEL a0 i1 (0 : Int32) (0 : Int32) h hf
-- ===== X1_translated
theorem lkX1_translated_0 : Cond.fieldLink RX1 13 "MossRings$Rule" "states" "I" ∈ wsX1_translated := by decide +kernel
theorem hinX1_translated_X1 : ∀ w ∈ u_ws RX1 TX1 5, w ∈ wsX1_translated := by decide +kernel
theorem lkX1_translated_1 : Cond.fieldLink RX1 19 "MossRings$Rule" "width" "I" ∈ wsX1_translated := by decide +kernel
def fX1_translated_b53 (w11 : Nat → Nat → Int32 → Int32 → Int32 → Int32 → Hp → Option (Int32 × Hp)) (a0 : Nat) (a2 : Nat) (i3 : Int32) (i4 : Int32) (i6 : Int32) (s0 : Int32) (s1 : Int32) (h : Hp) : Option (Int32 × Hp) := setv ((s1 + s0)) fun v1 => (gI h a0 1 0).bind fun v2 => setv ((i4 * v2)) fun v3 => (gI h a0 1 0).bind fun v4 => iDiv i3 v4 fun v5 => w11 a0 a2 v5 v3 v1 (i6 + 1) h
set_option maxHeartbeats 4000000 in
set_option maxRecDepth 100000 in
theorem mX1_translated_b53 {g : XG} {p : Program} {l : Launch} {e : Env} {s : State} {m : MethodId} {args : Array Value} {below : List Frame} {meth : Method} {c : Code} (C : x_C g p s m args c cX1_translated RX1 8 wsX1_translated) (hr : meth.sig.returnType = (some .int)) (hlk : meth.locks = false) (hnm : meth.name = yX1_translated.name) {res : Int32 × Hp} (w11 : Nat → Nat → Int32 → Int32 → Int32 → Int32 → Hp → Option (Int32 × Hp)) (hw11 : ∀ (a0 : Nat) (a2 : Nat) (i3 : Int32) (i4 : Int32) (i5 : Int32) (i6 : Int32) (h : Hp), w11 a0 a2 i3 i4 i5 i6 h = some res → XW g p l e { frames := 0, cells := 0, slots := 0, locals := 0 } s m args below meth c (MQ below (x_Q g (some (vI res.1)) res.2) args s 0 0 (x_A g)) 8 0 0 h 11 [some (vR a0), none, some (vR a2), some (vI i3), some (vI i4), some (vI i5), some (vI i6), none] []) (a0 : Nat) (a2 : Nat) (i3 : Int32) (i4 : Int32) (i6 : Int32) (s0 : Int32) (s1 : Int32) (h : Hp) (hf : fX1_translated_b53 w11 a0 a2 i3 i4 i6 s0 s1 h = some res) : XW g p l e { frames := 0, cells := 0, slots := 0, locals := 0 } s m args below meth c (MQ below (x_Q g (some (vI res.1)) res.2) args s 0 0 (x_A g)) 8 0 0 h 53 [some (vR a0), none, some (vR a2), some (vI i3), some (vI i4), none, some (vI i6), none] [vI s0, vI s1] := by
  unfold fX1_translated_b53 at hf
  refine x_iadd C dX1_translated_53 (pc' := 54) rfl ?_
  refine x_nameI hf (fun v1 _ hf => ?_)
  refine x_istore C dX1_translated_54 (pc' := 56) rfl (by decide) rfl (lv' := [some (vR a0), none, some (vR a2), some (vI i3), some (vI i4), some (vI v1), some (vI i6), none]) rfl ?_
  refine x_iload C dX1_translated_56 (pc' := 58) rfl rfl ?_
  refine x_aload_n C dX1_translated_58 (pc' := 59) rfl rfl rfl ?_
  refine x_getI C (ci := 1) (kf := 0) rfl (by decide) hinX1_translated_X1 lkX1_translated_0 rfl hf dX1_translated_59 (pc' := 62) rfl (fun v2 _ hf => ?_)
  refine x_imul C dX1_translated_62 (pc' := 63) rfl ?_
  refine x_nameI hf (fun v3 _ hf => ?_)
  refine x_istore C dX1_translated_63 (pc' := 65) rfl (by decide) rfl (lv' := [some (vR a0), none, some (vR a2), some (vI i3), some (vI v3), some (vI v1), some (vI i6), none]) rfl ?_
  refine x_iload_n C dX1_translated_65 (pc' := 66) rfl rfl rfl ?_
  refine x_aload_n C dX1_translated_66 (pc' := 67) rfl rfl rfl ?_
  refine x_getI C (ci := 1) (kf := 0) rfl (by decide) hinX1_translated_X1 lkX1_translated_0 rfl hf dX1_translated_67 (pc' := 70) rfl (fun v4 _ hf => ?_)
  refine x_idiv C hf dX1_translated_70 (pc' := 71) rfl (fun _ v5 _ hf => ?_)
  refine x_istore_n C dX1_translated_71 (pc' := 72) rfl rfl (by decide) rfl (lv' := [some (vR a0), none, some (vR a2), some (vI v5), some (vI v3), some (vI v1), some (vI i6), none]) rfl ?_
  refine x_iinc C dX1_translated_72 (pc' := 75) rfl rfl (v := (i6 + 1)) rfl (by decide) rfl (lv' := [some (vR a0), none, some (vR a2), some (vI v5), some (vI v3), some (vI v1), some (vI (i6 + 1)), none]) rfl ?_
  refine x_goto C dX1_translated_75 (tgt := 11) (by decide) ?_
  exact hw11 a0 a2 v5 v3 v1 (i6 + 1) h hf
def fX1_translated_b52 (w11 : Nat → Nat → Int32 → Int32 → Int32 → Int32 → Hp → Option (Int32 × Hp)) (a0 : Nat) (a2 : Nat) (i3 : Int32) (i4 : Int32) (i6 : Int32) (s0 : Int32) (h : Hp) : Option (Int32 × Hp) := fX1_translated_b53 w11 a0 a2 i3 i4 i6 (0 : Int32) s0 h
set_option maxHeartbeats 4000000 in
set_option maxRecDepth 100000 in
theorem mX1_translated_b52 {g : XG} {p : Program} {l : Launch} {e : Env} {s : State} {m : MethodId} {args : Array Value} {below : List Frame} {meth : Method} {c : Code} (C : x_C g p s m args c cX1_translated RX1 8 wsX1_translated) (hr : meth.sig.returnType = (some .int)) (hlk : meth.locks = false) (hnm : meth.name = yX1_translated.name) {res : Int32 × Hp} (w11 : Nat → Nat → Int32 → Int32 → Int32 → Int32 → Hp → Option (Int32 × Hp)) (hw11 : ∀ (a0 : Nat) (a2 : Nat) (i3 : Int32) (i4 : Int32) (i5 : Int32) (i6 : Int32) (h : Hp), w11 a0 a2 i3 i4 i5 i6 h = some res → XW g p l e { frames := 0, cells := 0, slots := 0, locals := 0 } s m args below meth c (MQ below (x_Q g (some (vI res.1)) res.2) args s 0 0 (x_A g)) 8 0 0 h 11 [some (vR a0), none, some (vR a2), some (vI i3), some (vI i4), some (vI i5), some (vI i6), none] []) (a0 : Nat) (a2 : Nat) (i3 : Int32) (i4 : Int32) (i6 : Int32) (s0 : Int32) (h : Hp) (hf : fX1_translated_b52 w11 a0 a2 i3 i4 i6 s0 h = some res) : XW g p l e { frames := 0, cells := 0, slots := 0, locals := 0 } s m args below meth c (MQ below (x_Q g (some (vI res.1)) res.2) args s 0 0 (x_A g)) 8 0 0 h 52 [some (vR a0), none, some (vR a2), some (vI i3), some (vI i4), none, some (vI i6), none] [vI s0] := by
  unfold fX1_translated_b52 at hf
  refine x_iconst C (v := 0) (by decide) dX1_translated_52 (pc' := 53) rfl ?_
  refine x_more (k' := 0) (n' := 0) (Nat.le_of_ble_eq_true rfl) (Nat.le_of_ble_eq_true rfl) ?_
  exact mX1_translated_b53 C hr hlk hnm w11 hw11 a0 a2 i3 i4 i6 (0 : Int32) s0 h hf
def fX1_translated_w11 : Nat → Nat → Nat → Int32 → Int32 → Int32 → Int32 → Hp → Option (Int32 × Hp)
  | 0 => fun _ _ _ _ _ _ _ => none
  | n + 1 => fun a0 a2 i3 i4 i5 i6 h => (gI h a0 1 1).bind fun v1 => if v1 ≤ i6 then (some (i5, h)) else ((gI h a0 1 0).bind fun v2 => iRem i3 v2 fun v3 => if v3 < 0 then (fX1_translated_b52 (fX1_translated_w11 n) a0 a2 i3 i4 i6 i5 h) else ((aN h a2).bind fun v4 => if v4 ≤ v3 then (fX1_translated_b52 (fX1_translated_w11 n) a0 a2 i3 i4 i6 i5 h) else ((aI h a2 0 v3).bind fun v5 => fX1_translated_b53 (fX1_translated_w11 n) a0 a2 i3 i4 i6 (v5 * i4) i5 h)))
set_option maxHeartbeats 4000000 in
set_option maxRecDepth 100000 in
theorem mX1_translated_w11 {g : XG} {p : Program} {l : Launch} {e : Env} {s : State} {m : MethodId} {args : Array Value} {below : List Frame} {meth : Method} {c : Code} (C : x_C g p s m args c cX1_translated RX1 8 wsX1_translated) (hr : meth.sig.returnType = (some .int)) (hlk : meth.locks = false) (hnm : meth.name = yX1_translated.name) {res : Int32 × Hp} : ∀ (n : Nat) (a0 : Nat) (a2 : Nat) (i3 : Int32) (i4 : Int32) (i5 : Int32) (i6 : Int32) (h : Hp), fX1_translated_w11 n a0 a2 i3 i4 i5 i6 h = some res → XW g p l e { frames := 0, cells := 0, slots := 0, locals := 0 } s m args below meth c (MQ below (x_Q g (some (vI res.1)) res.2) args s 0 0 (x_A g)) 8 0 0 h 11 [some (vR a0), none, some (vR a2), some (vI i3), some (vI i4), some (vI i5), some (vI i6), none] [] := by
  intro n
  induction n with
  | zero =>
    intro a0 a2 i3 i4 i5 i6 h hf
    have hf2 : (none : Option (Int32 × Hp)) = some res := hf
    cases hf2
  | succ n ih =>
    intro a0 a2 i3 i4 i5 i6 h hf
    rw [fX1_translated_w11] at hf
    refine x_iload C dX1_translated_11 (pc' := 13) rfl rfl ?_
    refine x_aload_n C dX1_translated_13 (pc' := 14) rfl rfl rfl ?_
    refine x_getI C (ci := 1) (kf := 1) rfl (by decide) hinX1_translated_X1 lkX1_translated_1 rfl hf dX1_translated_14 (pc' := 17) rfl (fun v1 _ hf => ?_)
    refine x_icmp_ge C hf dX1_translated_17 (pc' := 20) rfl (tgt := 78) (by decide) (fun _ hf => ?_) (fun _ hf => ?_)
    ·
      refine x_iload C dX1_translated_78 (pc' := 80) rfl rfl ?_
      cases hf
      exact x_iret C hr hlk dX1_translated_80
    ·
      refine x_iload_n C dX1_translated_20 (pc' := 21) rfl rfl rfl ?_
      refine x_aload_n C dX1_translated_21 (pc' := 22) rfl rfl rfl ?_
      refine x_getI C (ci := 1) (kf := 0) rfl (by decide) hinX1_translated_X1 lkX1_translated_0 rfl hf dX1_translated_22 (pc' := 25) rfl (fun v2 _ hf => ?_)
      refine x_irem C hf dX1_translated_25 (pc' := 26) rfl (fun _ v3 _ hf => ?_)
      refine x_istore C dX1_translated_26 (pc' := 28) rfl (by decide) rfl (lv' := [some (vR a0), none, some (vR a2), some (vI i3), some (vI i4), some (vI i5), some (vI i6), some (vI v3)]) rfl ?_
      refine x_iload C dX1_translated_28 (pc' := 30) rfl rfl ?_
      refine x_iload C dX1_translated_30 (pc' := 32) rfl rfl ?_
      refine x_if_lt C hf dX1_translated_32 (pc' := 35) rfl (tgt := 52) (by decide) (fun _ hf => ?_) (fun _ hf => ?_)
      ·
        refine x_keep [true, false, true, true, true, false, true, false] rfl ?_
        refine x_more (k' := 0) (n' := 0) (Nat.le_of_ble_eq_true rfl) (Nat.le_of_ble_eq_true rfl) ?_
        exact mX1_translated_b52 C hr hlk hnm (fX1_translated_w11 n) ih a0 a2 i3 i4 i6 i5 h hf
      ·
        refine x_iload C dX1_translated_35 (pc' := 37) rfl rfl ?_
        refine x_aload_n C dX1_translated_37 (pc' := 38) rfl rfl rfl ?_
        refine x_alen C hf dX1_translated_38 (pc' := 39) rfl (fun v4 _ hf => ?_)
        refine x_icmp_ge C hf dX1_translated_39 (pc' := 42) rfl (tgt := 52) (by decide) (fun _ hf => ?_) (fun _ hf => ?_)
        ·
          refine x_keep [true, false, true, true, true, false, true, false] rfl ?_
          refine x_more (k' := 0) (n' := 0) (Nat.le_of_ble_eq_true rfl) (Nat.le_of_ble_eq_true rfl) ?_
          exact mX1_translated_b52 C hr hlk hnm (fX1_translated_w11 n) ih a0 a2 i3 i4 i6 i5 h hf
        ·
          refine x_aload_n C dX1_translated_42 (pc' := 43) rfl rfl rfl ?_
          refine x_iload C dX1_translated_43 (pc' := 45) rfl rfl ?_
          refine x_iaload C hf dX1_translated_45 (pc' := 46) rfl (fun v5 _ hf => ?_)
          refine x_iload C dX1_translated_46 (pc' := 48) rfl rfl ?_
          refine x_imul C dX1_translated_48 (pc' := 49) rfl ?_
          refine x_goto C dX1_translated_49 (tgt := 53) (by decide) ?_
          refine x_keep [true, false, true, true, true, false, true, false] rfl ?_
          refine x_more (k' := 0) (n' := 0) (Nat.le_of_ble_eq_true rfl) (Nat.le_of_ble_eq_true rfl) ?_
          exact mX1_translated_b53 C hr hlk hnm (fX1_translated_w11 n) ih a0 a2 i3 i4 i6 (v5 * i4) i5 h hf
def fX1_translated (h : Hp) (a0 : Nat) (i1 : Int32) (a2 : Nat) : Option (Int32 × Hp) := fX1_translated_w11 FUEL a0 a2 i1 (1 : Int32) (0 : Int32) (0 : Int32) h
set_option maxHeartbeats 4000000 in
set_option maxRecDepth 100000 in
theorem mX1_translated {l : Launch} {g : XG} {h : Hp} {a0 : Nat} {i1 : Int32} {a2 : Nat} {res : Int32 × Hp} (hf : fX1_translated h a0 i1 a2 = some res) : XM l g yX1_translated wsX1_translated 0 0 0 0 [vR a0, vI i1, vR a2] h (some (vI res.1)) res.2 := by
  refine x_start (cc := cX1_translated) (maxL := 8) (ret := (some .int)) (by decide) rfl (Nat.le_of_ble_eq_true rfl) (lv := [some (vR a0), some (vI i1), some (vR a2), none, none, none, none, none]) rfl ?_
  intro p e s m args below meth c C hr hlk hnm
  unfold fX1_translated at hf
  refine x_iload_n C dX1_translated_0 (pc' := 1) rfl rfl rfl ?_
  refine x_istore_n C dX1_translated_1 (pc' := 2) rfl rfl (by decide) rfl (lv' := [some (vR a0), some (vI i1), some (vR a2), some (vI i1), none, none, none, none]) rfl ?_
  refine x_iconst C (v := 1) (by decide) dX1_translated_2 (pc' := 3) rfl ?_
  refine x_istore C dX1_translated_3 (pc' := 5) rfl (by decide) rfl (lv' := [some (vR a0), some (vI i1), some (vR a2), some (vI i1), some (vI (1 : Int32)), none, none, none]) rfl ?_
  refine x_iconst C (v := 0) (by decide) dX1_translated_5 (pc' := 6) rfl ?_
  refine x_istore C dX1_translated_6 (pc' := 8) rfl (by decide) rfl (lv' := [some (vR a0), some (vI i1), some (vR a2), some (vI i1), some (vI (1 : Int32)), some (vI (0 : Int32)), none, none]) rfl ?_
  refine x_iconst C (v := 0) (by decide) dX1_translated_8 (pc' := 9) rfl ?_
  refine x_istore C dX1_translated_9 (pc' := 11) rfl (by decide) rfl (lv' := [some (vR a0), some (vI i1), some (vR a2), some (vI i1), some (vI (1 : Int32)), some (vI (0 : Int32)), some (vI (0 : Int32)), none]) rfl ?_
  refine x_keep [true, false, true, true, true, true, true, false] rfl ?_
  refine x_more (k' := 0) (n' := 0) (Nat.le_of_ble_eq_true rfl) (Nat.le_of_ble_eq_true rfl) ?_
  exact mX1_translated_w11 C hr hlk hnm FUEL a0 a2 i1 (1 : Int32) (0 : Int32) (0 : Int32) h hf
-- ===== X1_idlesAhead
theorem lkX1_idlesAhead_0 : Cond.fieldLink RX1 30 "MossRings$Rule" "words" "I" ∈ wsX1_idlesAhead := by decide +kernel
theorem hinX1_idlesAhead_X1 : ∀ w ∈ u_ws RX1 TX1 5, w ∈ wsX1_idlesAhead := by decide +kernel
theorem lkX1_idlesAhead_1 : Cond.fieldLink RX1 27 "MossRings$Rule" "nodes" "I" ∈ wsX1_idlesAhead := by decide +kernel
theorem lkX1_idlesAhead_2 : Cond.fieldLink RX1 19 "MossRings$Rule" "width" "I" ∈ wsX1_idlesAhead := by decide +kernel
def fX1_idlesAhead_w15 : Nat → Nat → Int32 → Hp → Option (Int32 × Hp)
  | 0 => fun _ _ _ => none
  | n + 1 => fun a0 i1 h => (gI h a0 1 2).bind fun v1 => if v1 ≤ i1 then (retZ (1 : Int32) h) else (call (oK h a0 1 (fX1_tells h a0 i1)) fun r2 h3 => (gI h3 a0 1 3).bind fun v4 => iRem i1 v4 fun v5 => call (oK h3 a0 1 (fX1_tells h3 a0 v5)) fun r6 h7 => if r2 = r6 then ((fX1_idlesAhead_w15 n) a0 (i1 + 1) h7) else (retZ (0 : Int32) h7))
set_option maxHeartbeats 4000000 in
set_option maxRecDepth 100000 in
theorem mX1_idlesAhead_w15 {g : XG} {p : Program} {l : Launch} {e : Env} {s : State} {m : MethodId} {args : Array Value} {below : List Frame} {meth : Method} {c : Code} (C : x_C g p s m args c cX1_idlesAhead RX1 2 wsX1_idlesAhead) (hr : meth.sig.returnType = (some .boolean)) (hlk : meth.locks = false) (hnm : meth.name = yX1_idlesAhead.name) {res : Int32 × Hp} : ∀ (n : Nat) (a0 : Nat) (i1 : Int32) (h : Hp), fX1_idlesAhead_w15 n a0 i1 h = some res → XW g p l e { frames := 1, cells := 0, slots := 0, locals := 21 } s m args below meth c (MQ below (x_Q g (some (vI res.1)) res.2) args s 0 0 (x_A g)) 2 0 0 h 15 [some (vR a0), some (vI i1)] [] := by
  intro n
  induction n with
  | zero =>
    intro a0 i1 h hf
    have hf2 : (none : Option (Int32 × Hp)) = some res := hf
    cases hf2
  | succ n ih =>
    intro a0 i1 h hf
    rw [fX1_idlesAhead_w15] at hf
    refine x_iload_n C dX1_idlesAhead_15 (pc' := 16) rfl rfl rfl ?_
    refine x_aload_n C dX1_idlesAhead_16 (pc' := 17) rfl rfl rfl ?_
    refine x_getI C (ci := 1) (kf := 2) rfl (by decide) hinX1_idlesAhead_X1 lkX1_idlesAhead_0 rfl hf dX1_idlesAhead_17 (pc' := 20) rfl (fun v1 _ hf => ?_)
    refine x_icmp_ge C hf dX1_idlesAhead_20 (pc' := 23) rfl (tgt := 49) (by decide) (fun _ hf => ?_) (fun _ hf => ?_)
    ·
      refine x_iconst C (v := 1) (by decide) dX1_idlesAhead_49 (pc' := 50) rfl ?_
      exact x_zret C hf hr hlk dX1_idlesAhead_50
    ·
      refine x_aload_n C dX1_idlesAhead_23 (pc' := 24) rfl rfl rfl ?_
      refine x_iload_n C dX1_idlesAhead_24 (pc' := 25) rfl rfl rfl ?_
      obtain ⟨r2, h3, hq, hf⟩ := call_some hf
      obtain ⟨hob, hq⟩ := oK_some hq
      refine x_callV C (As := [vI i1]) (st := []) (r := (some (vI r2))) (h' := h3) (mc := 0) (ms := 0) (k := 0) (n := 0) (mX1_tells hq) hob (ci := 1) rfl (cwV 1 C.1.2.2.2.2 gX1_idlesAhead_X1_tells rfl rfl rfl (by decide +kernel) ⟨Nat.le_of_ble_eq_true rfl, Nat.le_of_ble_eq_true rfl⟩) rfl rfl (Nat.le_of_ble_eq_true rfl) dX1_idlesAhead_25 (pc' := 28) rfl ?_
      refine x_aload_n C dX1_idlesAhead_28 (pc' := 29) rfl rfl rfl ?_
      refine x_iload_n C dX1_idlesAhead_29 (pc' := 30) rfl rfl rfl ?_
      refine x_aload_n C dX1_idlesAhead_30 (pc' := 31) rfl rfl rfl ?_
      refine x_getI C (ci := 1) (kf := 3) rfl (by decide) hinX1_idlesAhead_X1 lkX1_idlesAhead_1 rfl hf dX1_idlesAhead_31 (pc' := 34) rfl (fun v4 _ hf => ?_)
      refine x_irem C hf dX1_idlesAhead_34 (pc' := 35) rfl (fun _ v5 _ hf => ?_)
      obtain ⟨r6, h7, hq, hf⟩ := call_some hf
      obtain ⟨hob, hq⟩ := oK_some hq
      refine x_callV C (As := [vI v5]) (st := [vI r2]) (r := (some (vI r6))) (h' := h7) (mc := 0) (ms := 0) (k := 0) (n := 0) (mX1_tells hq) hob (ci := 1) rfl (cwV 1 C.1.2.2.2.2 gX1_idlesAhead_X1_tells rfl rfl rfl (by decide +kernel) ⟨Nat.le_of_ble_eq_true rfl, Nat.le_of_ble_eq_true rfl⟩) rfl rfl (Nat.le_of_ble_eq_true rfl) dX1_idlesAhead_35 (pc' := 38) rfl ?_
      refine x_icmp_eq C hf dX1_idlesAhead_38 (pc' := 41) rfl (tgt := 43) (by decide) (fun _ hf => ?_) (fun _ hf => ?_)
      ·
        refine x_iinc C dX1_idlesAhead_43 (pc' := 46) rfl rfl (v := (i1 + 1)) rfl (by decide) rfl (lv' := [some (vR a0), some (vI (i1 + 1))]) rfl ?_
        refine x_goto C dX1_idlesAhead_46 (tgt := 15) (by decide) ?_
        exact ih a0 (i1 + 1) h7 hf
      ·
        refine x_iconst C (v := 0) (by decide) dX1_idlesAhead_41 (pc' := 42) rfl ?_
        exact x_zret C hf hr hlk dX1_idlesAhead_42
def fX1_idlesAhead (h : Hp) (a0 : Nat) : Option (Int32 × Hp) := (gI h a0 1 1).bind fun v1 => if (2 : Int32) ≤ v1 then ((gI h a0 1 3).bind fun v2 => fX1_idlesAhead_w15 FUEL a0 v2 h) else (retZ (0 : Int32) h)
set_option maxHeartbeats 4000000 in
set_option maxRecDepth 100000 in
theorem mX1_idlesAhead {l : Launch} {g : XG} {h : Hp} {a0 : Nat} {res : Int32 × Hp} (hf : fX1_idlesAhead h a0 = some res) : XM l g yX1_idlesAhead wsX1_idlesAhead 1 21 0 0 [vR a0] h (some (vI res.1)) res.2 := by
  refine x_start (cc := cX1_idlesAhead) (maxL := 2) (ret := (some .boolean)) (by decide) rfl (Nat.le_of_ble_eq_true rfl) (lv := [some (vR a0), none]) rfl ?_
  intro p e s m args below meth c C hr hlk hnm
  unfold fX1_idlesAhead at hf
  refine x_aload_n C dX1_idlesAhead_0 (pc' := 1) rfl rfl rfl ?_
  refine x_getI C (ci := 1) (kf := 1) rfl (by decide) hinX1_idlesAhead_X1 lkX1_idlesAhead_2 rfl hf dX1_idlesAhead_1 (pc' := 4) rfl (fun v1 _ hf => ?_)
  refine x_iconst C (v := 2) (by decide) dX1_idlesAhead_4 (pc' := 5) rfl ?_
  refine x_icmp_ge C hf dX1_idlesAhead_5 (pc' := 8) rfl (tgt := 10) (by decide) (fun _ hf => ?_) (fun _ hf => ?_)
  ·
    refine x_aload_n C dX1_idlesAhead_10 (pc' := 11) rfl rfl rfl ?_
    refine x_getI C (ci := 1) (kf := 3) rfl (by decide) hinX1_idlesAhead_X1 lkX1_idlesAhead_1 rfl hf dX1_idlesAhead_11 (pc' := 14) rfl (fun v2 _ hf => ?_)
    refine x_istore_n C dX1_idlesAhead_14 (pc' := 15) rfl rfl (by decide) rfl (lv' := [some (vR a0), some (vI v2)]) rfl ?_
    refine x_more (k' := 0) (n' := 0) (Nat.le_of_ble_eq_true rfl) (Nat.le_of_ble_eq_true rfl) ?_
    exact mX1_idlesAhead_w15 C hr hlk hnm FUEL a0 v2 h hf
  ·
    refine x_iconst C (v := 0) (by decide) dX1_idlesAhead_8 (pc' := 9) rfl ?_
    exact x_zret C hf hr hlk dX1_idlesAhead_9
-- ===== X1_idlesBehind
theorem lkX1_idlesBehind_0 : Cond.fieldLink RX1 30 "MossRings$Rule" "words" "I" ∈ wsX1_idlesBehind := by decide +kernel
theorem hinX1_idlesBehind_X1 : ∀ w ∈ u_ws RX1 TX1 5, w ∈ wsX1_idlesBehind := by decide +kernel
theorem lkX1_idlesBehind_1 : Cond.fieldLink RX1 13 "MossRings$Rule" "states" "I" ∈ wsX1_idlesBehind := by decide +kernel
theorem lkX1_idlesBehind_2 : Cond.fieldLink RX1 19 "MossRings$Rule" "width" "I" ∈ wsX1_idlesBehind := by decide +kernel
def fX1_idlesBehind_w12 : Nat → Nat → Int32 → Hp → Option (Int32 × Hp)
  | 0 => fun _ _ _ => none
  | n + 1 => fun a0 i1 h => (gI h a0 1 2).bind fun v1 => if v1 ≤ i1 then (retZ (1 : Int32) h) else (call (oK h a0 1 (fX1_tells h a0 i1)) fun r2 h3 => (gI h3 a0 1 0).bind fun v4 => iRem i1 v4 fun v5 => call (oK h3 a0 1 (fX1_tells h3 a0 (i1 - v5))) fun r6 h7 => if r2 = r6 then ((fX1_idlesBehind_w12 n) a0 (i1 + 1) h7) else (retZ (0 : Int32) h7))
set_option maxHeartbeats 4000000 in
set_option maxRecDepth 100000 in
theorem mX1_idlesBehind_w12 {g : XG} {p : Program} {l : Launch} {e : Env} {s : State} {m : MethodId} {args : Array Value} {below : List Frame} {meth : Method} {c : Code} (C : x_C g p s m args c cX1_idlesBehind RX1 2 wsX1_idlesBehind) (hr : meth.sig.returnType = (some .boolean)) (hlk : meth.locks = false) (hnm : meth.name = yX1_idlesBehind.name) {res : Int32 × Hp} : ∀ (n : Nat) (a0 : Nat) (i1 : Int32) (h : Hp), fX1_idlesBehind_w12 n a0 i1 h = some res → XW g p l e { frames := 1, cells := 0, slots := 0, locals := 21 } s m args below meth c (MQ below (x_Q g (some (vI res.1)) res.2) args s 0 0 (x_A g)) 2 0 0 h 12 [some (vR a0), some (vI i1)] [] := by
  intro n
  induction n with
  | zero =>
    intro a0 i1 h hf
    have hf2 : (none : Option (Int32 × Hp)) = some res := hf
    cases hf2
  | succ n ih =>
    intro a0 i1 h hf
    rw [fX1_idlesBehind_w12] at hf
    refine x_iload_n C dX1_idlesBehind_12 (pc' := 13) rfl rfl rfl ?_
    refine x_aload_n C dX1_idlesBehind_13 (pc' := 14) rfl rfl rfl ?_
    refine x_getI C (ci := 1) (kf := 2) rfl (by decide) hinX1_idlesBehind_X1 lkX1_idlesBehind_0 rfl hf dX1_idlesBehind_14 (pc' := 17) rfl (fun v1 _ hf => ?_)
    refine x_icmp_ge C hf dX1_idlesBehind_17 (pc' := 20) rfl (tgt := 48) (by decide) (fun _ hf => ?_) (fun _ hf => ?_)
    ·
      refine x_iconst C (v := 1) (by decide) dX1_idlesBehind_48 (pc' := 49) rfl ?_
      exact x_zret C hf hr hlk dX1_idlesBehind_49
    ·
      refine x_aload_n C dX1_idlesBehind_20 (pc' := 21) rfl rfl rfl ?_
      refine x_iload_n C dX1_idlesBehind_21 (pc' := 22) rfl rfl rfl ?_
      obtain ⟨r2, h3, hq, hf⟩ := call_some hf
      obtain ⟨hob, hq⟩ := oK_some hq
      refine x_callV C (As := [vI i1]) (st := []) (r := (some (vI r2))) (h' := h3) (mc := 0) (ms := 0) (k := 0) (n := 0) (mX1_tells hq) hob (ci := 1) rfl (cwV 1 C.1.2.2.2.2 gX1_idlesBehind_X1_tells rfl rfl rfl (by decide +kernel) ⟨Nat.le_of_ble_eq_true rfl, Nat.le_of_ble_eq_true rfl⟩) rfl rfl (Nat.le_of_ble_eq_true rfl) dX1_idlesBehind_22 (pc' := 25) rfl ?_
      refine x_aload_n C dX1_idlesBehind_25 (pc' := 26) rfl rfl rfl ?_
      refine x_iload_n C dX1_idlesBehind_26 (pc' := 27) rfl rfl rfl ?_
      refine x_iload_n C dX1_idlesBehind_27 (pc' := 28) rfl rfl rfl ?_
      refine x_aload_n C dX1_idlesBehind_28 (pc' := 29) rfl rfl rfl ?_
      refine x_getI C (ci := 1) (kf := 0) rfl (by decide) hinX1_idlesBehind_X1 lkX1_idlesBehind_1 rfl hf dX1_idlesBehind_29 (pc' := 32) rfl (fun v4 _ hf => ?_)
      refine x_irem C hf dX1_idlesBehind_32 (pc' := 33) rfl (fun _ v5 _ hf => ?_)
      refine x_isub C dX1_idlesBehind_33 (pc' := 34) rfl ?_
      obtain ⟨r6, h7, hq, hf⟩ := call_some hf
      obtain ⟨hob, hq⟩ := oK_some hq
      refine x_callV C (As := [vI (i1 - v5)]) (st := [vI r2]) (r := (some (vI r6))) (h' := h7) (mc := 0) (ms := 0) (k := 0) (n := 0) (mX1_tells hq) hob (ci := 1) rfl (cwV 1 C.1.2.2.2.2 gX1_idlesBehind_X1_tells rfl rfl rfl (by decide +kernel) ⟨Nat.le_of_ble_eq_true rfl, Nat.le_of_ble_eq_true rfl⟩) rfl rfl (Nat.le_of_ble_eq_true rfl) dX1_idlesBehind_34 (pc' := 37) rfl ?_
      refine x_icmp_eq C hf dX1_idlesBehind_37 (pc' := 40) rfl (tgt := 42) (by decide) (fun _ hf => ?_) (fun _ hf => ?_)
      ·
        refine x_iinc C dX1_idlesBehind_42 (pc' := 45) rfl rfl (v := (i1 + 1)) rfl (by decide) rfl (lv' := [some (vR a0), some (vI (i1 + 1))]) rfl ?_
        refine x_goto C dX1_idlesBehind_45 (tgt := 12) (by decide) ?_
        exact ih a0 (i1 + 1) h7 hf
      ·
        refine x_iconst C (v := 0) (by decide) dX1_idlesBehind_40 (pc' := 41) rfl ?_
        exact x_zret C hf hr hlk dX1_idlesBehind_41
def fX1_idlesBehind (h : Hp) (a0 : Nat) : Option (Int32 × Hp) := (gI h a0 1 1).bind fun v1 => if (2 : Int32) ≤ v1 then (fX1_idlesBehind_w12 FUEL a0 (0 : Int32) h) else (retZ (0 : Int32) h)
set_option maxHeartbeats 4000000 in
set_option maxRecDepth 100000 in
theorem mX1_idlesBehind {l : Launch} {g : XG} {h : Hp} {a0 : Nat} {res : Int32 × Hp} (hf : fX1_idlesBehind h a0 = some res) : XM l g yX1_idlesBehind wsX1_idlesBehind 1 21 0 0 [vR a0] h (some (vI res.1)) res.2 := by
  refine x_start (cc := cX1_idlesBehind) (maxL := 2) (ret := (some .boolean)) (by decide) rfl (Nat.le_of_ble_eq_true rfl) (lv := [some (vR a0), none]) rfl ?_
  intro p e s m args below meth c C hr hlk hnm
  unfold fX1_idlesBehind at hf
  refine x_aload_n C dX1_idlesBehind_0 (pc' := 1) rfl rfl rfl ?_
  refine x_getI C (ci := 1) (kf := 1) rfl (by decide) hinX1_idlesBehind_X1 lkX1_idlesBehind_2 rfl hf dX1_idlesBehind_1 (pc' := 4) rfl (fun v1 _ hf => ?_)
  refine x_iconst C (v := 2) (by decide) dX1_idlesBehind_4 (pc' := 5) rfl ?_
  refine x_icmp_ge C hf dX1_idlesBehind_5 (pc' := 8) rfl (tgt := 10) (by decide) (fun _ hf => ?_) (fun _ hf => ?_)
  ·
    refine x_iconst C (v := 0) (by decide) dX1_idlesBehind_10 (pc' := 11) rfl ?_
    refine x_istore_n C dX1_idlesBehind_11 (pc' := 12) rfl rfl (by decide) rfl (lv' := [some (vR a0), some (vI (0 : Int32))]) rfl ?_
    refine x_more (k' := 0) (n' := 0) (Nat.le_of_ble_eq_true rfl) (Nat.le_of_ble_eq_true rfl) ?_
    exact mX1_idlesBehind_w12 C hr hlk hnm FUEL a0 (0 : Int32) h hf
  ·
    refine x_iconst C (v := 0) (by decide) dX1_idlesBehind_8 (pc' := 9) rfl ?_
    exact x_zret C hf hr hlk dX1_idlesBehind_9
-- ===== X1_withoutAhead
theorem lkX1_withoutAhead_0 : Cond.classLink RX1 14 RX1 ∈ wsX1_withoutAhead := by decide +kernel
theorem lkX1_withoutAhead_1 : Cond.instantiable RX1 5 ∈ wsX1_withoutAhead := by decide +kernel
theorem lkX1_withoutAhead_2 : Cond.initialized RX1 ∈ wsX1_withoutAhead := by decide +kernel
theorem hinX1_withoutAhead_X1 : ∀ w ∈ u_ws RX1 TX1 5, w ∈ wsX1_withoutAhead := by decide +kernel
theorem lkX1_withoutAhead_3 : Cond.fieldLink RX1 13 "MossRings$Rule" "states" "I" ∈ wsX1_withoutAhead := by decide +kernel
theorem lkX1_withoutAhead_4 : Cond.fieldLink RX1 19 "MossRings$Rule" "width" "I" ∈ wsX1_withoutAhead := by decide +kernel
theorem lkX1_withoutAhead_5 : Cond.fieldLink RX1 39 "MossRings$Rule" "told" "[I" ∈ wsX1_withoutAhead := by decide +kernel
theorem lkX1_withoutAhead_6 : Cond.methodLink RX1 50 yX1_init ∈ wsX1_withoutAhead := by decide +kernel
theorem lkX1_withoutAhead_7 : Cond.instanceMethod yX1_init ∈ wsX1_withoutAhead := by decide +kernel
def fX1_withoutAhead (h : Hp) (a0 : Nat) : Option (Nat × Hp) := mkO h 1 [vI 0, vI 0, vI 0, vI 0, vR 0] fun q1 h2 => (gI h2 a0 1 0).bind fun v3 => (gI h2 a0 1 1).bind fun v4 => (gR h2 a0 1 4).bind fun v5 => (fX1_init h2 q1 v3 (v4 - (1 : Int32)) v5).bind fun h7 => some (q1, h7)
set_option maxHeartbeats 4000000 in
set_option maxRecDepth 100000 in
theorem mX1_withoutAhead {l : Launch} {g : XG} {h : Hp} {a0 : Nat} {res : Nat × Hp} (hf : fX1_withoutAhead h a0 = some res) : XM l g yX1_withoutAhead wsX1_withoutAhead 3 63 2 32 [vR a0] h (some (vR res.1)) res.2 := by
  refine x_start (cc := cX1_withoutAhead) (maxL := 1) (ret := (some (.object "MossRings$Rule"))) (by decide) rfl (Nat.le_of_ble_eq_true rfl) (lv := [some (vR a0)]) rfl ?_
  intro p e s m args below meth c C hr hlk hnm
  unfold fX1_withoutAhead at hf
  refine x_newO C (k := 1) (n := 27) (ci := 1) (fs := [vI 0, vI 0, vI 0, vI 0, vR 0]) rfl hinX1_withoutAhead_X1 tyX1 tyX1_ok lkX1_withoutAhead_0 lkX1_withoutAhead_1 lkX1_withoutAhead_2 (dfX1 g) hf dX1_withoutAhead_0 (pc' := 3) rfl (fun q1 h2 h4q1 _ _ hf => ?_)
  refine x_dup C rfl dX1_withoutAhead_3 (pc' := 4) rfl ?_
  refine x_aload_n C dX1_withoutAhead_4 (pc' := 5) rfl rfl rfl ?_
  refine x_getI C (ci := 1) (kf := 0) rfl (by decide) hinX1_withoutAhead_X1 lkX1_withoutAhead_3 rfl hf dX1_withoutAhead_5 (pc' := 8) rfl (fun v3 _ hf => ?_)
  refine x_aload_n C dX1_withoutAhead_8 (pc' := 9) rfl rfl rfl ?_
  refine x_getI C (ci := 1) (kf := 1) rfl (by decide) hinX1_withoutAhead_X1 lkX1_withoutAhead_4 rfl hf dX1_withoutAhead_9 (pc' := 12) rfl (fun v4 _ hf => ?_)
  refine x_iconst C (v := 1) (by decide) dX1_withoutAhead_12 (pc' := 13) rfl ?_
  refine x_isub C dX1_withoutAhead_13 (pc' := 14) rfl ?_
  refine x_aload_n C dX1_withoutAhead_14 (pc' := 15) rfl rfl rfl ?_
  refine x_getR C (ci := 1) (kf := 4) rfl (by decide) hinX1_withoutAhead_X1 lkX1_withoutAhead_5 rfl hf dX1_withoutAhead_15 (pc' := 18) rfl (fun v5 _ hf => ?_)
  obtain ⟨h7, hq, hf⟩ := bind_some hf
  refine x_callI C (As := [vI v3, vI (v4 - (1 : Int32)), vR v5]) (st := [vR q1]) (r := none) (h' := h7) (mc := 1) (ms := 27) (k := 0) (n := 0) (mX1_init hq) h4q1 (cwI 3 C.1.2.2.2.2 gX1_withoutAhead_X1_init rfl rfl rfl (C.1.2.2.2.2 _ lkX1_withoutAhead_2) (C.1.2.2.2.2 _ lkX1_withoutAhead_6) (C.1.2.2.2.2 _ lkX1_withoutAhead_7) rfl (by decide +kernel) ⟨Nat.le_of_ble_eq_true rfl, Nat.le_of_ble_eq_true rfl⟩) rfl rfl (Nat.le_of_ble_eq_true rfl) dX1_withoutAhead_18 (pc' := 21) rfl ?_
  cases hf
  exact x_aret C hr (Or.inl ⟨_, rfl⟩) hlk dX1_withoutAhead_21
-- ===== X1_withoutBehind
theorem lkX1_withoutBehind_0 : Cond.classLink RX1 14 RX1 ∈ wsX1_withoutBehind := by decide +kernel
theorem lkX1_withoutBehind_1 : Cond.instantiable RX1 5 ∈ wsX1_withoutBehind := by decide +kernel
theorem lkX1_withoutBehind_2 : Cond.initialized RX1 ∈ wsX1_withoutBehind := by decide +kernel
theorem hinX1_withoutBehind_X1 : ∀ w ∈ u_ws RX1 TX1 5, w ∈ wsX1_withoutBehind := by decide +kernel
theorem lkX1_withoutBehind_3 : Cond.fieldLink RX1 13 "MossRings$Rule" "states" "I" ∈ wsX1_withoutBehind := by decide +kernel
theorem lkX1_withoutBehind_4 : Cond.fieldLink RX1 19 "MossRings$Rule" "width" "I" ∈ wsX1_withoutBehind := by decide +kernel
theorem lkX1_withoutBehind_5 : Cond.methodLink RX1 50 yX1_init ∈ wsX1_withoutBehind := by decide +kernel
theorem lkX1_withoutBehind_6 : Cond.instanceMethod yX1_init ∈ wsX1_withoutBehind := by decide +kernel
theorem lkX1_withoutBehind_7 : Cond.fieldLink RX1 27 "MossRings$Rule" "nodes" "I" ∈ wsX1_withoutBehind := by decide +kernel
theorem lkX1_withoutBehind_8 : Cond.arrayClass .int ∈ wsX1_withoutBehind := by decide +kernel
def fX1_withoutBehind_b36 (a0 : Nat) (a1 : Nat) (h : Hp) : Option (Nat × Hp) := mkO h 1 [vI 0, vI 0, vI 0, vI 0, vR 0] fun q1 h2 => (gI h2 a0 1 0).bind fun v3 => (gI h2 a0 1 1).bind fun v4 => (fX1_init h2 q1 v3 (v4 - (1 : Int32)) a1).bind fun h6 => some (q1, h6)
set_option maxHeartbeats 4000000 in
set_option maxRecDepth 100000 in
theorem mX1_withoutBehind_b36 {g : XG} {p : Program} {l : Launch} {e : Env} {s : State} {m : MethodId} {args : Array Value} {below : List Frame} {meth : Method} {c : Code} (C : x_C g p s m args c cX1_withoutBehind RX1 3 wsX1_withoutBehind) (hr : meth.sig.returnType = (some (.object "MossRings$Rule"))) (hlk : meth.locks = false) (hnm : meth.name = yX1_withoutBehind.name) {res : Nat × Hp} (a0 : Nat) (a1 : Nat) (h : Hp) (hf : fX1_withoutBehind_b36 a0 a1 h = some res) : XW g p l e { frames := 3, cells := 3, slots := 59, locals := 63 } s m args below meth c (MQ below (x_Q g (some (vR res.1)) res.2) args s 3 59 (x_A g)) 3 2 32 h 36 [some (vR a0), some (vR a1), none] [] := by
  unfold fX1_withoutBehind_b36 at hf
  refine x_newO C (k := 1) (n := 27) (ci := 1) (fs := [vI 0, vI 0, vI 0, vI 0, vR 0]) rfl hinX1_withoutBehind_X1 tyX1 tyX1_ok lkX1_withoutBehind_0 lkX1_withoutBehind_1 lkX1_withoutBehind_2 (dfX1 g) hf dX1_withoutBehind_36 (pc' := 39) rfl (fun q1 h2 h4q1 _ _ hf => ?_)
  refine x_dup C rfl dX1_withoutBehind_39 (pc' := 40) rfl ?_
  refine x_aload_n C dX1_withoutBehind_40 (pc' := 41) rfl rfl rfl ?_
  refine x_getI C (ci := 1) (kf := 0) rfl (by decide) hinX1_withoutBehind_X1 lkX1_withoutBehind_3 rfl hf dX1_withoutBehind_41 (pc' := 44) rfl (fun v3 _ hf => ?_)
  refine x_aload_n C dX1_withoutBehind_44 (pc' := 45) rfl rfl rfl ?_
  refine x_getI C (ci := 1) (kf := 1) rfl (by decide) hinX1_withoutBehind_X1 lkX1_withoutBehind_4 rfl hf dX1_withoutBehind_45 (pc' := 48) rfl (fun v4 _ hf => ?_)
  refine x_iconst C (v := 1) (by decide) dX1_withoutBehind_48 (pc' := 49) rfl ?_
  refine x_isub C dX1_withoutBehind_49 (pc' := 50) rfl ?_
  refine x_aload_n C dX1_withoutBehind_50 (pc' := 51) rfl rfl rfl ?_
  obtain ⟨h6, hq, hf⟩ := bind_some hf
  refine x_callI C (As := [vI v3, vI (v4 - (1 : Int32)), vR a1]) (st := [vR q1]) (r := none) (h' := h6) (mc := 1) (ms := 27) (k := 0) (n := 0) (mX1_init hq) h4q1 (cwI 3 C.1.2.2.2.2 gX1_withoutBehind_X1_init rfl rfl rfl (C.1.2.2.2.2 _ lkX1_withoutBehind_2) (C.1.2.2.2.2 _ lkX1_withoutBehind_5) (C.1.2.2.2.2 _ lkX1_withoutBehind_6) rfl (by decide +kernel) ⟨Nat.le_of_ble_eq_true rfl, Nat.le_of_ble_eq_true rfl⟩) rfl rfl (Nat.le_of_ble_eq_true rfl) dX1_withoutBehind_51 (pc' := 54) rfl ?_
  cases hf
  exact x_aret C hr (Or.inl ⟨_, rfl⟩) hlk dX1_withoutBehind_54
def fX1_withoutBehind_w9 : Nat → Nat → Nat → Int32 → Hp → Option (Nat × Hp)
  | 0 => fun _ _ _ _ => none
  | n + 1 => fun a0 a1 i2 h => (gI h a0 1 3).bind fun v1 => if v1 ≤ i2 then (fX1_withoutBehind_b36 a0 a1 h) else ((gI h a0 1 0).bind fun v2 => call (oK h a0 1 (fX1_tells h a0 (i2 * v2))) fun r3 h4 => (sI h4 a1 0 i2 r3).bind fun h5 => (fX1_withoutBehind_w9 n) a0 a1 (i2 + 1) h5)
set_option maxHeartbeats 4000000 in
set_option maxRecDepth 100000 in
theorem mX1_withoutBehind_w9 {g : XG} {p : Program} {l : Launch} {e : Env} {s : State} {m : MethodId} {args : Array Value} {below : List Frame} {meth : Method} {c : Code} (C : x_C g p s m args c cX1_withoutBehind RX1 3 wsX1_withoutBehind) (hr : meth.sig.returnType = (some (.object "MossRings$Rule"))) (hlk : meth.locks = false) (hnm : meth.name = yX1_withoutBehind.name) {res : Nat × Hp} : ∀ (n : Nat) (a0 : Nat) (a1 : Nat) (i2 : Int32) (h : Hp), fX1_withoutBehind_w9 n a0 a1 i2 h = some res → XW g p l e { frames := 3, cells := 3, slots := 59, locals := 63 } s m args below meth c (MQ below (x_Q g (some (vR res.1)) res.2) args s 3 59 (x_A g)) 3 2 32 h 9 [some (vR a0), some (vR a1), some (vI i2)] [] := by
  intro n
  induction n with
  | zero =>
    intro a0 a1 i2 h hf
    have hf2 : (none : Option (Nat × Hp)) = some res := hf
    cases hf2
  | succ n ih =>
    intro a0 a1 i2 h hf
    rw [fX1_withoutBehind_w9] at hf
    refine x_iload_n C dX1_withoutBehind_9 (pc' := 10) rfl rfl rfl ?_
    refine x_aload_n C dX1_withoutBehind_10 (pc' := 11) rfl rfl rfl ?_
    refine x_getI C (ci := 1) (kf := 3) rfl (by decide) hinX1_withoutBehind_X1 lkX1_withoutBehind_7 rfl hf dX1_withoutBehind_11 (pc' := 14) rfl (fun v1 _ hf => ?_)
    refine x_icmp_ge C hf dX1_withoutBehind_14 (pc' := 17) rfl (tgt := 36) (by decide) (fun _ hf => ?_) (fun _ hf => ?_)
    ·
      refine x_keep [true, true, false] rfl ?_
      refine x_more (k' := 2) (n' := 32) (Nat.le_of_ble_eq_true rfl) (Nat.le_of_ble_eq_true rfl) ?_
      exact mX1_withoutBehind_b36 C hr hlk hnm a0 a1 h hf
    ·
      refine x_aload_n C dX1_withoutBehind_17 (pc' := 18) rfl rfl rfl ?_
      refine x_iload_n C dX1_withoutBehind_18 (pc' := 19) rfl rfl rfl ?_
      refine x_aload_n C dX1_withoutBehind_19 (pc' := 20) rfl rfl rfl ?_
      refine x_iload_n C dX1_withoutBehind_20 (pc' := 21) rfl rfl rfl ?_
      refine x_aload_n C dX1_withoutBehind_21 (pc' := 22) rfl rfl rfl ?_
      refine x_getI C (ci := 1) (kf := 0) rfl (by decide) hinX1_withoutBehind_X1 lkX1_withoutBehind_3 rfl hf dX1_withoutBehind_22 (pc' := 25) rfl (fun v2 _ hf => ?_)
      refine x_imul C dX1_withoutBehind_25 (pc' := 26) rfl ?_
      obtain ⟨r3, h4, hq, hf⟩ := call_some hf
      obtain ⟨hob, hq⟩ := oK_some hq
      refine x_callV C (As := [vI (i2 * v2)]) (st := [vI i2, vR a1]) (r := (some (vI r3))) (h' := h4) (mc := 0) (ms := 0) (k := 2) (n := 32) (mX1_tells hq) hob (ci := 1) rfl (cwV 1 C.1.2.2.2.2 gX1_withoutBehind_X1_tells rfl rfl rfl (by decide +kernel) ⟨Nat.le_of_ble_eq_true rfl, Nat.le_of_ble_eq_true rfl⟩) rfl rfl (Nat.le_of_ble_eq_true rfl) dX1_withoutBehind_26 (pc' := 29) rfl ?_
      refine x_iastore C hf dX1_withoutBehind_29 (pc' := 30) rfl (fun h5 _ hf => ?_)
      refine x_iinc C dX1_withoutBehind_30 (pc' := 33) rfl rfl (v := (i2 + 1)) rfl (by decide) rfl (lv' := [some (vR a0), some (vR a1), some (vI (i2 + 1))]) rfl ?_
      refine x_goto C dX1_withoutBehind_33 (tgt := 9) (by decide) ?_
      exact ih a0 a1 (i2 + 1) h5 hf
def fX1_withoutBehind (h : Hp) (a0 : Nat) : Option (Nat × Hp) := (gI h a0 1 3).bind fun v1 => mkA h 0 27 v1 fun q2 h3 => fX1_withoutBehind_w9 FUEL a0 q2 (0 : Int32) h3
set_option maxHeartbeats 4000000 in
set_option maxRecDepth 100000 in
theorem mX1_withoutBehind {l : Launch} {g : XG} {h : Hp} {a0 : Nat} {res : Nat × Hp} (hf : fX1_withoutBehind h a0 = some res) : XM l g yX1_withoutBehind wsX1_withoutBehind 3 63 3 59 [vR a0] h (some (vR res.1)) res.2 := by
  refine x_start (cc := cX1_withoutBehind) (maxL := 3) (ret := (some (.object "MossRings$Rule"))) (by decide) rfl (Nat.le_of_ble_eq_true rfl) (lv := [some (vR a0), none, none]) rfl ?_
  intro p e s m args below meth c C hr hlk hnm
  unfold fX1_withoutBehind at hf
  refine x_aload_n C dX1_withoutBehind_0 (pc' := 1) rfl rfl rfl ?_
  refine x_getI C (ci := 1) (kf := 3) rfl (by decide) hinX1_withoutBehind_X1 lkX1_withoutBehind_7 rfl hf dX1_withoutBehind_1 (pc' := 4) rfl (fun v1 _ hf => ?_)
  refine x_newI C (k := 2) (n := 32) (ty := .int) rfl (Or.inl ⟨rfl, rfl⟩) lkX1_withoutBehind_8 (by decide) hf dX1_withoutBehind_4 (pc' := 6) rfl (fun q2 h3 _ _ _ _ hf => ?_)
  refine x_astore_n C dX1_withoutBehind_6 (pc' := 7) rfl rfl (by decide) rfl (lv' := [some (vR a0), some (vR q2), none]) rfl ?_
  refine x_iconst C (v := 0) (by decide) dX1_withoutBehind_7 (pc' := 8) rfl ?_
  refine x_istore_n C dX1_withoutBehind_8 (pc' := 9) rfl rfl (by decide) rfl (lv' := [some (vR a0), some (vR q2), some (vI (0 : Int32))]) rfl ?_
  refine x_more (k' := 2) (n' := 32) (Nat.le_of_ble_eq_true rfl) (Nat.le_of_ble_eq_true rfl) ?_
  exact mX1_withoutBehind_w9 C hr hlk hnm FUEL a0 q2 (0 : Int32) h3 hf
-- ===== X1_gain
theorem lkX1_gain_0 : Cond.fieldLink RX1 27 "MossRings$Rule" "nodes" "I" ∈ wsX1_gain := by decide +kernel
theorem hinX1_gain_X1 : ∀ w ∈ u_ws RX1 TX1 5, w ∈ wsX1_gain := by decide +kernel
def fX1_gain (h : Hp) (a0 : Nat) (i1 : Int32) (a2 : Nat) : Option (Int32 × Hp) := call (oK h a0 1 (fX1_tells h a0 i1)) fun r1 h2 => (gI h2 a0 1 3).bind fun v3 => iDiv i1 v3 fun v4 => if r1 < 0 then (some ((0 : Int32), h2)) else ((aN h2 a2).bind fun v5 => if v5 ≤ r1 then (some ((0 : Int32), h2)) else (if v4 < 0 then (some ((0 : Int32), h2)) else ((aN h2 a2).bind fun v6 => if v4 < v6 then ((aI h2 a2 0 r1).bind fun v7 => (aI h2 a2 0 v4).bind fun v8 => some ((v7 - v8), h2)) else (some ((0 : Int32), h2)))))
set_option maxHeartbeats 4000000 in
set_option maxRecDepth 100000 in
theorem mX1_gain {l : Launch} {g : XG} {h : Hp} {a0 : Nat} {i1 : Int32} {a2 : Nat} {res : Int32 × Hp} (hf : fX1_gain h a0 i1 a2 = some res) : XM l g yX1_gain wsX1_gain 1 21 0 0 [vR a0, vI i1, vR a2] h (some (vI res.1)) res.2 := by
  refine x_start (cc := cX1_gain) (maxL := 5) (ret := (some .int)) (by decide) rfl (Nat.le_of_ble_eq_true rfl) (lv := [some (vR a0), some (vI i1), some (vR a2), none, none]) rfl ?_
  intro p e s m args below meth c C hr hlk hnm
  unfold fX1_gain at hf
  refine x_aload_n C dX1_gain_0 (pc' := 1) rfl rfl rfl ?_
  refine x_iload_n C dX1_gain_1 (pc' := 2) rfl rfl rfl ?_
  obtain ⟨r1, h2, hq, hf⟩ := call_some hf
  obtain ⟨hob, hq⟩ := oK_some hq
  refine x_callV C (As := [vI i1]) (st := []) (r := (some (vI r1))) (h' := h2) (mc := 0) (ms := 0) (k := 0) (n := 0) (mX1_tells hq) hob (ci := 1) rfl (cwV 1 C.1.2.2.2.2 gX1_gain_X1_tells rfl rfl rfl (by decide +kernel) ⟨Nat.le_of_ble_eq_true rfl, Nat.le_of_ble_eq_true rfl⟩) rfl rfl (Nat.le_of_ble_eq_true rfl) dX1_gain_2 (pc' := 5) rfl ?_
  refine x_istore_n C dX1_gain_5 (pc' := 6) rfl rfl (by decide) rfl (lv' := [some (vR a0), some (vI i1), some (vR a2), some (vI r1), none]) rfl ?_
  refine x_iload_n C dX1_gain_6 (pc' := 7) rfl rfl rfl ?_
  refine x_aload_n C dX1_gain_7 (pc' := 8) rfl rfl rfl ?_
  refine x_getI C (ci := 1) (kf := 3) rfl (by decide) hinX1_gain_X1 lkX1_gain_0 rfl hf dX1_gain_8 (pc' := 11) rfl (fun v3 _ hf => ?_)
  refine x_idiv C hf dX1_gain_11 (pc' := 12) rfl (fun _ v4 _ hf => ?_)
  refine x_istore C dX1_gain_12 (pc' := 14) rfl (by decide) rfl (lv' := [some (vR a0), some (vI i1), some (vR a2), some (vI r1), some (vI v4)]) rfl ?_
  refine x_iload_n C dX1_gain_14 (pc' := 15) rfl rfl rfl ?_
  refine x_if_lt C hf dX1_gain_15 (pc' := 18) rfl (tgt := 36) (by decide) (fun _ hf => ?_) (fun _ hf => ?_)
  ·
    refine x_iconst C (v := 0) (by decide) dX1_gain_36 (pc' := 37) rfl ?_
    cases hf
    exact x_iret C hr hlk dX1_gain_37
  ·
    refine x_iload_n C dX1_gain_18 (pc' := 19) rfl rfl rfl ?_
    refine x_aload_n C dX1_gain_19 (pc' := 20) rfl rfl rfl ?_
    refine x_alen C hf dX1_gain_20 (pc' := 21) rfl (fun v5 _ hf => ?_)
    refine x_icmp_ge C hf dX1_gain_21 (pc' := 24) rfl (tgt := 36) (by decide) (fun _ hf => ?_) (fun _ hf => ?_)
    ·
      refine x_iconst C (v := 0) (by decide) dX1_gain_36 (pc' := 37) rfl ?_
      cases hf
      exact x_iret C hr hlk dX1_gain_37
    ·
      refine x_iload C dX1_gain_24 (pc' := 26) rfl rfl ?_
      refine x_if_lt C hf dX1_gain_26 (pc' := 29) rfl (tgt := 36) (by decide) (fun _ hf => ?_) (fun _ hf => ?_)
      ·
        refine x_iconst C (v := 0) (by decide) dX1_gain_36 (pc' := 37) rfl ?_
        cases hf
        exact x_iret C hr hlk dX1_gain_37
      ·
        refine x_iload C dX1_gain_29 (pc' := 31) rfl rfl ?_
        refine x_aload_n C dX1_gain_31 (pc' := 32) rfl rfl rfl ?_
        refine x_alen C hf dX1_gain_32 (pc' := 33) rfl (fun v6 _ hf => ?_)
        refine x_icmp_lt C hf dX1_gain_33 (pc' := 36) rfl (tgt := 38) (by decide) (fun _ hf => ?_) (fun _ hf => ?_)
        ·
          refine x_aload_n C dX1_gain_38 (pc' := 39) rfl rfl rfl ?_
          refine x_iload_n C dX1_gain_39 (pc' := 40) rfl rfl rfl ?_
          refine x_iaload C hf dX1_gain_40 (pc' := 41) rfl (fun v7 _ hf => ?_)
          refine x_aload_n C dX1_gain_41 (pc' := 42) rfl rfl rfl ?_
          refine x_iload C dX1_gain_42 (pc' := 44) rfl rfl ?_
          refine x_iaload C hf dX1_gain_44 (pc' := 45) rfl (fun v8 _ hf => ?_)
          refine x_isub C dX1_gain_45 (pc' := 46) rfl ?_
          cases hf
          exact x_iret C hr hlk dX1_gain_46
        ·
          refine x_iconst C (v := 0) (by decide) dX1_gain_36 (pc' := 37) rfl ?_
          cases hf
          exact x_iret C hr hlk dX1_gain_37
-- ===== X1_level
theorem lkX1_level_0 : Cond.fieldLink RX1 19 "MossRings$Rule" "width" "I" ∈ wsX1_level := by decide +kernel
theorem hinX1_level_X1 : ∀ w ∈ u_ws RX1 TX1 5, w ∈ wsX1_level := by decide +kernel
theorem lkX1_level_1 : Cond.fieldLink RX1 13 "MossRings$Rule" "states" "I" ∈ wsX1_level := by decide +kernel
theorem lkX1_level_2 : Cond.methodLink RX1 7 Lib.Math.max.name ∈ wsX1_level := by decide +kernel
theorem lkX1_level_3 : Cond.static Lib.Math.max.name ∈ wsX1_level := by decide +kernel
theorem lkX1_level_4 : Cond.initialized "java/lang/Math" ∈ wsX1_level := by decide +kernel
theorem lkX1_level_5 : Cond.code Lib.Math.max.name Lib.Math.max.code 2 (some .int) ∈ wsX1_level := by decide +kernel
theorem lkX1_level_6 : Cond.fieldLink RX1 27 "MossRings$Rule" "nodes" "I" ∈ wsX1_level := by decide +kernel
def fX1_level_w14 : Nat → Nat → Int32 → Nat → Int32 → Int32 → Int32 → Int32 → Hp → Option (Int32 × Hp)
  | 0 => fun _ _ _ _ _ _ _ _ => none
  | n + 1 => fun a0 i1 a2 i3 i4 i5 i6 h => (gI h a0 1 1).bind fun v1 => if v1 ≤ i6 then (some (i3, h)) else ((gI h a0 1 0).bind fun v2 => iDiv i5 v2 fun v3 => setv ((iMax (1 : Int32) v3)) fun v4 => (gI h a0 1 0).bind fun v5 => iDiv i1 v4 fun v6 => (gI h a0 1 0).bind fun v7 => iRem v6 v7 fun v8 => setv (((i4 * v5) + v8)) fun v9 => call (oK h a0 1 (fX1_gain h a0 v9 a2)) fun r10 h11 => setv ((i3 + r10)) fun v12 => (gI h11 a0 1 3).bind fun v13 => iRem v9 v13 fun v14 => (fX1_level_w14 n) a0 i1 a2 v12 v14 v4 (i6 + 1) h11)
set_option maxHeartbeats 4000000 in
set_option maxRecDepth 100000 in
theorem mX1_level_w14 {g : XG} {p : Program} {l : Launch} {e : Env} {s : State} {m : MethodId} {args : Array Value} {below : List Frame} {meth : Method} {c : Code} (C : x_C g p s m args c cX1_level RX1 8 wsX1_level) (hr : meth.sig.returnType = (some .int)) (hlk : meth.locks = false) (hnm : meth.name = yX1_level.name) {res : Int32 × Hp} : ∀ (n : Nat) (a0 : Nat) (i1 : Int32) (a2 : Nat) (i3 : Int32) (i4 : Int32) (i5 : Int32) (i6 : Int32) (h : Hp), fX1_level_w14 n a0 i1 a2 i3 i4 i5 i6 h = some res → XW g p l e { frames := 2, cells := 0, slots := 0, locals := 45 } s m args below meth c (MQ below (x_Q g (some (vI res.1)) res.2) args s 0 0 (x_A g)) 8 0 0 h 14 [some (vR a0), some (vI i1), some (vR a2), some (vI i3), some (vI i4), some (vI i5), some (vI i6), none] [] := by
  intro n
  induction n with
  | zero =>
    intro a0 i1 a2 i3 i4 i5 i6 h hf
    have hf2 : (none : Option (Int32 × Hp)) = some res := hf
    cases hf2
  | succ n ih =>
    intro a0 i1 a2 i3 i4 i5 i6 h hf
    rw [fX1_level_w14] at hf
    refine x_iload C dX1_level_14 (pc' := 16) rfl rfl ?_
    refine x_aload_n C dX1_level_16 (pc' := 17) rfl rfl rfl ?_
    refine x_getI C (ci := 1) (kf := 1) rfl (by decide) hinX1_level_X1 lkX1_level_0 rfl hf dX1_level_17 (pc' := 20) rfl (fun v1 _ hf => ?_)
    refine x_icmp_ge C hf dX1_level_20 (pc' := 23) rfl (tgt := 80) (by decide) (fun _ hf => ?_) (fun _ hf => ?_)
    ·
      refine x_iload_n C dX1_level_80 (pc' := 81) rfl rfl rfl ?_
      cases hf
      exact x_iret C hr hlk dX1_level_81
    ·
      refine x_iconst C (v := 1) (by decide) dX1_level_23 (pc' := 24) rfl ?_
      refine x_iload C dX1_level_24 (pc' := 26) rfl rfl ?_
      refine x_aload_n C dX1_level_26 (pc' := 27) rfl rfl rfl ?_
      refine x_getI C (ci := 1) (kf := 0) rfl (by decide) hinX1_level_X1 lkX1_level_1 rfl hf dX1_level_27 (pc' := 30) rfl (fun v2 _ hf => ?_)
      refine x_idiv C hf dX1_level_30 (pc' := 31) rfl (fun _ v3 _ hf => ?_)
      refine x_max C lkX1_level_2 lkX1_level_3 lkX1_level_4 lkX1_level_5 (Nat.le_of_ble_eq_true rfl) (Nat.le_of_ble_eq_true rfl) dX1_level_31 (pc' := 34) rfl ?_
      refine x_nameI hf (fun v4 _ hf => ?_)
      refine x_istore C dX1_level_34 (pc' := 36) rfl (by decide) rfl (lv' := [some (vR a0), some (vI i1), some (vR a2), some (vI i3), some (vI i4), some (vI v4), some (vI i6), none]) rfl ?_
      refine x_iload C dX1_level_36 (pc' := 38) rfl rfl ?_
      refine x_aload_n C dX1_level_38 (pc' := 39) rfl rfl rfl ?_
      refine x_getI C (ci := 1) (kf := 0) rfl (by decide) hinX1_level_X1 lkX1_level_1 rfl hf dX1_level_39 (pc' := 42) rfl (fun v5 _ hf => ?_)
      refine x_imul C dX1_level_42 (pc' := 43) rfl ?_
      refine x_iload_n C dX1_level_43 (pc' := 44) rfl rfl rfl ?_
      refine x_iload C dX1_level_44 (pc' := 46) rfl rfl ?_
      refine x_idiv C hf dX1_level_46 (pc' := 47) rfl (fun _ v6 _ hf => ?_)
      refine x_aload_n C dX1_level_47 (pc' := 48) rfl rfl rfl ?_
      refine x_getI C (ci := 1) (kf := 0) rfl (by decide) hinX1_level_X1 lkX1_level_1 rfl hf dX1_level_48 (pc' := 51) rfl (fun v7 _ hf => ?_)
      refine x_irem C hf dX1_level_51 (pc' := 52) rfl (fun _ v8 _ hf => ?_)
      refine x_iadd C dX1_level_52 (pc' := 53) rfl ?_
      refine x_nameI hf (fun v9 _ hf => ?_)
      refine x_istore C dX1_level_53 (pc' := 55) rfl (by decide) rfl (lv' := [some (vR a0), some (vI i1), some (vR a2), some (vI i3), some (vI i4), some (vI v4), some (vI i6), some (vI v9)]) rfl ?_
      refine x_iload_n C dX1_level_55 (pc' := 56) rfl rfl rfl ?_
      refine x_aload_n C dX1_level_56 (pc' := 57) rfl rfl rfl ?_
      refine x_iload C dX1_level_57 (pc' := 59) rfl rfl ?_
      refine x_aload_n C dX1_level_59 (pc' := 60) rfl rfl rfl ?_
      obtain ⟨r10, h11, hq, hf⟩ := call_some hf
      obtain ⟨hob, hq⟩ := oK_some hq
      refine x_callV C (As := [vI v9, vR a2]) (st := [vI i3]) (r := (some (vI r10))) (h' := h11) (mc := 0) (ms := 0) (k := 0) (n := 0) (mX1_gain hq) hob (ci := 1) rfl (cwV 2 C.1.2.2.2.2 gX1_level_X1_gain rfl rfl rfl (by decide +kernel) ⟨Nat.le_of_ble_eq_true rfl, Nat.le_of_ble_eq_true rfl⟩) rfl rfl (Nat.le_of_ble_eq_true rfl) dX1_level_60 (pc' := 63) rfl ?_
      refine x_iadd C dX1_level_63 (pc' := 64) rfl ?_
      refine x_nameI hf (fun v12 _ hf => ?_)
      refine x_istore_n C dX1_level_64 (pc' := 65) rfl rfl (by decide) rfl (lv' := [some (vR a0), some (vI i1), some (vR a2), some (vI v12), some (vI i4), some (vI v4), some (vI i6), some (vI v9)]) rfl ?_
      refine x_iload C dX1_level_65 (pc' := 67) rfl rfl ?_
      refine x_aload_n C dX1_level_67 (pc' := 68) rfl rfl rfl ?_
      refine x_getI C (ci := 1) (kf := 3) rfl (by decide) hinX1_level_X1 lkX1_level_6 rfl hf dX1_level_68 (pc' := 71) rfl (fun v13 _ hf => ?_)
      refine x_irem C hf dX1_level_71 (pc' := 72) rfl (fun _ v14 _ hf => ?_)
      refine x_istore C dX1_level_72 (pc' := 74) rfl (by decide) rfl (lv' := [some (vR a0), some (vI i1), some (vR a2), some (vI v12), some (vI v14), some (vI v4), some (vI i6), some (vI v9)]) rfl ?_
      refine x_iinc C dX1_level_74 (pc' := 77) rfl rfl (v := (i6 + 1)) rfl (by decide) rfl (lv' := [some (vR a0), some (vI i1), some (vR a2), some (vI v12), some (vI v14), some (vI v4), some (vI (i6 + 1)), some (vI v9)]) rfl ?_
      refine x_goto C dX1_level_77 (tgt := 14) (by decide) ?_
      refine x_keep [true, true, true, true, true, true, true, false] rfl ?_
      exact ih a0 i1 a2 v12 v14 v4 (i6 + 1) h11 hf
def fX1_level (h : Hp) (a0 : Nat) (i1 : Int32) (a2 : Nat) : Option (Int32 × Hp) := (gI h a0 1 3).bind fun v1 => fX1_level_w14 FUEL a0 i1 a2 (0 : Int32) (0 : Int32) v1 (1 : Int32) h
set_option maxHeartbeats 4000000 in
set_option maxRecDepth 100000 in
theorem mX1_level {l : Launch} {g : XG} {h : Hp} {a0 : Nat} {i1 : Int32} {a2 : Nat} {res : Int32 × Hp} (hf : fX1_level h a0 i1 a2 = some res) : XM l g yX1_level wsX1_level 2 45 0 0 [vR a0, vI i1, vR a2] h (some (vI res.1)) res.2 := by
  refine x_start (cc := cX1_level) (maxL := 8) (ret := (some .int)) (by decide) rfl (Nat.le_of_ble_eq_true rfl) (lv := [some (vR a0), some (vI i1), some (vR a2), none, none, none, none, none]) rfl ?_
  intro p e s m args below meth c C hr hlk hnm
  unfold fX1_level at hf
  refine x_iconst C (v := 0) (by decide) dX1_level_0 (pc' := 1) rfl ?_
  refine x_istore_n C dX1_level_1 (pc' := 2) rfl rfl (by decide) rfl (lv' := [some (vR a0), some (vI i1), some (vR a2), some (vI (0 : Int32)), none, none, none, none]) rfl ?_
  refine x_iconst C (v := 0) (by decide) dX1_level_2 (pc' := 3) rfl ?_
  refine x_istore C dX1_level_3 (pc' := 5) rfl (by decide) rfl (lv' := [some (vR a0), some (vI i1), some (vR a2), some (vI (0 : Int32)), some (vI (0 : Int32)), none, none, none]) rfl ?_
  refine x_aload_n C dX1_level_5 (pc' := 6) rfl rfl rfl ?_
  refine x_getI C (ci := 1) (kf := 3) rfl (by decide) hinX1_level_X1 lkX1_level_6 rfl hf dX1_level_6 (pc' := 9) rfl (fun v1 _ hf => ?_)
  refine x_istore C dX1_level_9 (pc' := 11) rfl (by decide) rfl (lv' := [some (vR a0), some (vI i1), some (vR a2), some (vI (0 : Int32)), some (vI (0 : Int32)), some (vI v1), none, none]) rfl ?_
  refine x_iconst C (v := 1) (by decide) dX1_level_11 (pc' := 12) rfl ?_
  refine x_istore C dX1_level_12 (pc' := 14) rfl (by decide) rfl (lv' := [some (vR a0), some (vI i1), some (vR a2), some (vI (0 : Int32)), some (vI (0 : Int32)), some (vI v1), some (vI (1 : Int32)), none]) rfl ?_
  refine x_more (k' := 0) (n' := 0) (Nat.le_of_ble_eq_true rfl) (Nat.le_of_ble_eq_true rfl) ?_
  exact mX1_level_w14 C hr hlk hnm FUEL a0 i1 a2 (0 : Int32) (0 : Int32) v1 (1 : Int32) h hf
-- ===== X1_holds
theorem lkX1_holds_0 : Cond.fieldLink RX1 30 "MossRings$Rule" "words" "I" ∈ wsX1_holds := by decide +kernel
theorem hinX1_holds_X1 : ∀ w ∈ u_ws RX1 TX1 5, w ∈ wsX1_holds := by decide +kernel
theorem lkX1_holds_1 : Cond.fieldLink RX1 13 "MossRings$Rule" "states" "I" ∈ wsX1_holds := by decide +kernel
theorem lkX1_holds_2 : Cond.fieldLink RX1 27 "MossRings$Rule" "nodes" "I" ∈ wsX1_holds := by decide +kernel
def fX1_holds_w2 : Nat → Nat → Nat → Int32 → Hp → Option (Int32 × Hp)
  | 0 => fun _ _ _ _ => none
  | n + 1 => fun a0 a1 i2 h => (gI h a0 1 2).bind fun v1 => if v1 ≤ i2 then (retZ (1 : Int32) h) else ((gI h a0 1 0).bind fun v2 => iDiv i2 v2 fun v3 => call (oK h a0 1 (fX1_level h a0 v3 a1)) fun r4 h5 => (gI h5 a0 1 3).bind fun v6 => iRem i2 v6 fun v7 => call (oK h5 a0 1 (fX1_level h5 a0 v7 a1)) fun r8 h9 => call (oK h9 a0 1 (fX1_gain h9 a0 i2 a1)) fun r10 h11 => if (r4 + r10) = r8 then ((fX1_holds_w2 n) a0 a1 (i2 + 1) h11) else (retZ (0 : Int32) h11))
set_option maxHeartbeats 4000000 in
set_option maxRecDepth 100000 in
theorem mX1_holds_w2 {g : XG} {p : Program} {l : Launch} {e : Env} {s : State} {m : MethodId} {args : Array Value} {below : List Frame} {meth : Method} {c : Code} (C : x_C g p s m args c cX1_holds RX1 5 wsX1_holds) (hr : meth.sig.returnType = (some .boolean)) (hlk : meth.locks = false) (hnm : meth.name = yX1_holds.name) {res : Int32 × Hp} : ∀ (n : Nat) (a0 : Nat) (a1 : Nat) (i2 : Int32) (h : Hp), fX1_holds_w2 n a0 a1 i2 h = some res → XW g p l e { frames := 3, cells := 0, slots := 0, locals := 72 } s m args below meth c (MQ below (x_Q g (some (vI res.1)) res.2) args s 0 0 (x_A g)) 5 0 0 h 2 [some (vR a0), some (vR a1), some (vI i2), none, none] [] := by
  intro n
  induction n with
  | zero =>
    intro a0 a1 i2 h hf
    have hf2 : (none : Option (Int32 × Hp)) = some res := hf
    cases hf2
  | succ n ih =>
    intro a0 a1 i2 h hf
    rw [fX1_holds_w2] at hf
    refine x_iload_n C dX1_holds_2 (pc' := 3) rfl rfl rfl ?_
    refine x_aload_n C dX1_holds_3 (pc' := 4) rfl rfl rfl ?_
    refine x_getI C (ci := 1) (kf := 2) rfl (by decide) hinX1_holds_X1 lkX1_holds_0 rfl hf dX1_holds_4 (pc' := 7) rfl (fun v1 _ hf => ?_)
    refine x_icmp_ge C hf dX1_holds_7 (pc' := 10) rfl (tgt := 56) (by decide) (fun _ hf => ?_) (fun _ hf => ?_)
    ·
      refine x_iconst C (v := 1) (by decide) dX1_holds_56 (pc' := 57) rfl ?_
      exact x_zret C hf hr hlk dX1_holds_57
    ·
      refine x_aload_n C dX1_holds_10 (pc' := 11) rfl rfl rfl ?_
      refine x_iload_n C dX1_holds_11 (pc' := 12) rfl rfl rfl ?_
      refine x_aload_n C dX1_holds_12 (pc' := 13) rfl rfl rfl ?_
      refine x_getI C (ci := 1) (kf := 0) rfl (by decide) hinX1_holds_X1 lkX1_holds_1 rfl hf dX1_holds_13 (pc' := 16) rfl (fun v2 _ hf => ?_)
      refine x_idiv C hf dX1_holds_16 (pc' := 17) rfl (fun _ v3 _ hf => ?_)
      refine x_aload_n C dX1_holds_17 (pc' := 18) rfl rfl rfl ?_
      obtain ⟨r4, h5, hq, hf⟩ := call_some hf
      obtain ⟨hob, hq⟩ := oK_some hq
      refine x_callV C (As := [vI v3, vR a1]) (st := []) (r := (some (vI r4))) (h' := h5) (mc := 0) (ms := 0) (k := 0) (n := 0) (mX1_level hq) hob (ci := 1) rfl (cwV 2 C.1.2.2.2.2 gX1_holds_X1_level rfl rfl rfl (by decide +kernel) ⟨Nat.le_of_ble_eq_true rfl, Nat.le_of_ble_eq_true rfl⟩) rfl rfl (Nat.le_of_ble_eq_true rfl) dX1_holds_18 (pc' := 21) rfl ?_
      refine x_istore_n C dX1_holds_21 (pc' := 22) rfl rfl (by decide) rfl (lv' := [some (vR a0), some (vR a1), some (vI i2), some (vI r4), none]) rfl ?_
      refine x_aload_n C dX1_holds_22 (pc' := 23) rfl rfl rfl ?_
      refine x_iload_n C dX1_holds_23 (pc' := 24) rfl rfl rfl ?_
      refine x_aload_n C dX1_holds_24 (pc' := 25) rfl rfl rfl ?_
      refine x_getI C (ci := 1) (kf := 3) rfl (by decide) hinX1_holds_X1 lkX1_holds_2 rfl hf dX1_holds_25 (pc' := 28) rfl (fun v6 _ hf => ?_)
      refine x_irem C hf dX1_holds_28 (pc' := 29) rfl (fun _ v7 _ hf => ?_)
      refine x_aload_n C dX1_holds_29 (pc' := 30) rfl rfl rfl ?_
      obtain ⟨r8, h9, hq, hf⟩ := call_some hf
      obtain ⟨hob, hq⟩ := oK_some hq
      refine x_callV C (As := [vI v7, vR a1]) (st := []) (r := (some (vI r8))) (h' := h9) (mc := 0) (ms := 0) (k := 0) (n := 0) (mX1_level hq) hob (ci := 1) rfl (cwV 2 C.1.2.2.2.2 gX1_holds_X1_level rfl rfl rfl (by decide +kernel) ⟨Nat.le_of_ble_eq_true rfl, Nat.le_of_ble_eq_true rfl⟩) rfl rfl (Nat.le_of_ble_eq_true rfl) dX1_holds_30 (pc' := 33) rfl ?_
      refine x_istore C dX1_holds_33 (pc' := 35) rfl (by decide) rfl (lv' := [some (vR a0), some (vR a1), some (vI i2), some (vI r4), some (vI r8)]) rfl ?_
      refine x_iload_n C dX1_holds_35 (pc' := 36) rfl rfl rfl ?_
      refine x_aload_n C dX1_holds_36 (pc' := 37) rfl rfl rfl ?_
      refine x_iload_n C dX1_holds_37 (pc' := 38) rfl rfl rfl ?_
      refine x_aload_n C dX1_holds_38 (pc' := 39) rfl rfl rfl ?_
      obtain ⟨r10, h11, hq, hf⟩ := call_some hf
      obtain ⟨hob, hq⟩ := oK_some hq
      refine x_callV C (As := [vI i2, vR a1]) (st := [vI r4]) (r := (some (vI r10))) (h' := h11) (mc := 0) (ms := 0) (k := 0) (n := 0) (mX1_gain hq) hob (ci := 1) rfl (cwV 2 C.1.2.2.2.2 gX1_holds_X1_gain rfl rfl rfl (by decide +kernel) ⟨Nat.le_of_ble_eq_true rfl, Nat.le_of_ble_eq_true rfl⟩) rfl rfl (Nat.le_of_ble_eq_true rfl) dX1_holds_39 (pc' := 42) rfl ?_
      refine x_iadd C dX1_holds_42 (pc' := 43) rfl ?_
      refine x_iload C dX1_holds_43 (pc' := 45) rfl rfl ?_
      refine x_icmp_eq C hf dX1_holds_45 (pc' := 48) rfl (tgt := 50) (by decide) (fun _ hf => ?_) (fun _ hf => ?_)
      ·
        refine x_iinc C dX1_holds_50 (pc' := 53) rfl rfl (v := (i2 + 1)) rfl (by decide) rfl (lv' := [some (vR a0), some (vR a1), some (vI (i2 + 1)), some (vI r4), some (vI r8)]) rfl ?_
        refine x_goto C dX1_holds_53 (tgt := 2) (by decide) ?_
        refine x_keep [true, true, true, false, false] rfl ?_
        exact ih a0 a1 (i2 + 1) h11 hf
      ·
        refine x_iconst C (v := 0) (by decide) dX1_holds_48 (pc' := 49) rfl ?_
        exact x_zret C hf hr hlk dX1_holds_49
def fX1_holds (h : Hp) (a0 : Nat) (a1 : Nat) : Option (Int32 × Hp) := fX1_holds_w2 FUEL a0 a1 (0 : Int32) h
set_option maxHeartbeats 4000000 in
set_option maxRecDepth 100000 in
theorem mX1_holds {l : Launch} {g : XG} {h : Hp} {a0 : Nat} {a1 : Nat} {res : Int32 × Hp} (hf : fX1_holds h a0 a1 = some res) : XM l g yX1_holds wsX1_holds 3 72 0 0 [vR a0, vR a1] h (some (vI res.1)) res.2 := by
  refine x_start (cc := cX1_holds) (maxL := 5) (ret := (some .boolean)) (by decide) rfl (Nat.le_of_ble_eq_true rfl) (lv := [some (vR a0), some (vR a1), none, none, none]) rfl ?_
  intro p e s m args below meth c C hr hlk hnm
  unfold fX1_holds at hf
  refine x_iconst C (v := 0) (by decide) dX1_holds_0 (pc' := 1) rfl ?_
  refine x_istore_n C dX1_holds_1 (pc' := 2) rfl rfl (by decide) rfl (lv' := [some (vR a0), some (vR a1), some (vI (0 : Int32)), none, none]) rfl ?_
  refine x_more (k' := 0) (n' := 0) (Nat.le_of_ble_eq_true rfl) (Nat.le_of_ble_eq_true rfl) ?_
  exact mX1_holds_w2 C hr hlk hnm FUEL a0 a1 (0 : Int32) h hf

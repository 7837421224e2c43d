-- ===== X4_init
theorem lkX4_init_0 : Cond.methodLink RX4 3 objectInit ∈ wsX4_init := by decide +kernel
theorem lkX4_init_1 : Cond.instanceMethod objectInit ∈ wsX4_init := by decide +kernel
theorem lkX4_init_2 : Cond.code objectInit ⟨#[0xb1]⟩ 1 none ∈ wsX4_init := by decide +kernel
theorem lkX4_init_3 : Cond.arrayClass .long ∈ wsX4_init := by decide +kernel
theorem lkX4_init_4 : Cond.fieldLink RX4 9 "MossRings$Trail" "codes" "[J" ∈ wsX4_init := by decide +kernel
theorem hinX4_init_X4 : ∀ w ∈ u_ws RX4 TX4 4, w ∈ wsX4_init := by decide +kernel
theorem lkX4_init_5 : Cond.arrayClass .int ∈ wsX4_init := by decide +kernel
theorem lkX4_init_6 : Cond.fieldLink RX4 15 "MossRings$Trail" "here" "[I" ∈ wsX4_init := by decide +kernel
theorem lkX4_init_7 : Cond.fieldLink RX4 19 "MossRings$Trail" "there" "[I" ∈ wsX4_init := by decide +kernel
def fX4_init (h : Hp) (a0 : Nat) : Option (Hp) := if a0 = 0 then none else (mkL h 20001 (20001 : Int32) fun q1 h2 => (pF h2 a0 4 0 (vR q1)).bind fun h3 => mkA h3 0 20 (20 : Int32) fun q4 h5 => (pF h5 a0 4 1 (vR q4)).bind fun h6 => mkA h6 0 20 (20 : Int32) fun q7 h8 => (pF h8 a0 4 2 (vR q7)).bind fun h9 => some h9)
set_option maxHeartbeats 4000000 in
set_option maxRecDepth 100000 in
theorem mX4_init {l : Launch} {g : XG} {h : Hp} {a0 : Nat} {res : Hp} (hf : fX4_init h a0 = some res) : XM l g yX4_init wsX4_init 1 12 3 20041 [vR a0] h none res := by
  refine x_start (cc := cX4_init) (maxL := 1) (ret := none) (by decide) rfl (Nat.le_of_ble_eq_true rfl) (lv := [some (vR a0)]) rfl ?_
  intro p e s m args below meth c C hr hlk hnm
  unfold fX4_init at hf
  refine x_aload_n C dX4_init_0 (pc' := 1) rfl rfl rfl ?_
  refine x_objInit C lkX4_init_0 lkX4_init_1 lkX4_init_2 (Nat.le_of_ble_eq_true rfl) (Nat.le_of_ble_eq_true rfl) hf dX4_init_1 (pc' := 4) rfl (fun hf => ?_)
  refine x_aload_n C dX4_init_4 (pc' := 5) rfl rfl rfl ?_
  refine x_sipush C (v := 20001) (by decide) dX4_init_5 (pc' := 8) rfl ?_
  refine x_newL C (k := 2) (n := 40) lkX4_init_3 (by decide) hf dX4_init_8 (pc' := 10) rfl (fun q1 h2 _ _ _ _ hf => ?_)
  refine x_put C (ci := 4) (kf := 0) rfl (by decide) hinX4_init_X4 tyX4 tyX4_ok nmX4 lkX4_init_4 rfl (Or.inr ⟨rfl, hnm, rfl⟩) rfl hf dX4_init_10 (pc' := 13) rfl (fun h3 _ hf => ?_)
  refine x_aload_n C dX4_init_13 (pc' := 14) rfl rfl rfl ?_
  refine x_bipush C (v := 20) (by decide) dX4_init_14 (pc' := 16) rfl ?_
  refine x_newI C (k := 1) (n := 20) (ty := .int) rfl (Or.inl ⟨rfl, rfl⟩) lkX4_init_5 (by decide) hf dX4_init_16 (pc' := 18) rfl (fun q4 h5 _ _ _ _ hf => ?_)
  refine x_put C (ci := 4) (kf := 1) rfl (by decide) hinX4_init_X4 tyX4 tyX4_ok nmX4 lkX4_init_6 rfl (Or.inl rfl) rfl hf dX4_init_18 (pc' := 21) rfl (fun h6 _ hf => ?_)
  refine x_aload_n C dX4_init_21 (pc' := 22) rfl rfl rfl ?_
  refine x_bipush C (v := 20) (by decide) dX4_init_22 (pc' := 24) rfl ?_
  refine x_newI C (k := 0) (n := 0) (ty := .int) rfl (Or.inl ⟨rfl, rfl⟩) lkX4_init_5 (by decide) hf dX4_init_24 (pc' := 26) rfl (fun q7 h8 _ _ _ _ hf => ?_)
  refine x_put C (ci := 4) (kf := 2) rfl (by decide) hinX4_init_X4 tyX4 tyX4_ok nmX4 lkX4_init_7 rfl (Or.inl rfl) rfl hf dX4_init_26 (pc' := 29) rfl (fun h9 _ hf => ?_)
  cases hf
  exact x_vret C hr hlk dX4_init_29
-- ===== X4_begin
theorem lkX4_begin_0 : Cond.fieldLink RX4 9 "MossRings$Trail" "codes" "[J" ∈ wsX4_begin := by decide +kernel
theorem hinX4_begin_X4 : ∀ w ∈ u_ws RX4 TX4 4, w ∈ wsX4_begin := by decide +kernel
theorem lkX4_begin_1 : Cond.fieldLink RX4 15 "MossRings$Trail" "here" "[I" ∈ wsX4_begin := by decide +kernel
theorem hinX4_begin_X1 : ∀ w ∈ u_ws RX1 TX1 5, w ∈ wsX4_begin := by decide +kernel
def fX4_begin_b45 (a0 : Nat) (j4 : Int64) (h : Hp) : Option (Hp) := (gR h a0 4 0).bind fun v1 => (sL h v1 (0 : Int32) j4).bind fun h2 => some h2
set_option maxHeartbeats 4000000 in
set_option maxRecDepth 100000 in
theorem mX4_begin_b45 {g : XG} {p : Program} {l : Launch} {e : Env} {s : State} {m : MethodId} {args : Array Value} {below : List Frame} {meth : Method} {c : Code} (C : x_C g p s m args c cX4_begin RX4 7 wsX4_begin) (hr : meth.sig.returnType = none) (hlk : meth.locks = false) (hnm : meth.name = yX4_begin.name) {res : Hp} (a0 : Nat) (j4 : Int64) (h : Hp) (hf : fX4_begin_b45 a0 j4 h = some res) : XW g p l e { frames := 0, cells := 0, slots := 0, locals := 0 } s m args below meth c (MQ below (x_Q g none res) args s 0 0 (x_A g)) 7 0 0 h 45 [some (vR a0), none, none, none, some (vL j4), none, none] [] := by
  unfold fX4_begin_b45 at hf
  refine x_aload_n C dX4_begin_45 (pc' := 46) rfl rfl rfl ?_
  refine x_getR C (ci := 4) (kf := 0) rfl (by decide) hinX4_begin_X4 lkX4_begin_0 rfl hf dX4_begin_46 (pc' := 49) rfl (fun v1 _ hf => ?_)
  refine x_iconst C (v := 0) (by decide) dX4_begin_49 (pc' := 50) rfl ?_
  refine x_lload C dX4_begin_50 (pc' := 52) rfl rfl ?_
  refine x_lastore C hf dX4_begin_52 (pc' := 53) rfl (fun h2 _ hf => ?_)
  cases hf
  exact x_vret C hr hlk dX4_begin_53
def fX4_begin_w6 : Nat → Nat → Nat → Nat → Int32 → Int64 → Int32 → Hp → Option (Hp)
  | 0 => fun _ _ _ _ _ _ _ => none
  | n + 1 => fun a0 a1 a2 i3 j4 i6 h => if i3 ≤ i6 then (fX4_begin_b45 a0 j4 h) else ((gR h a0 4 1).bind fun v1 => (aI h a2 0 i6).bind fun v2 => (sI h v1 0 i6 v2).bind fun h3 => (gI h3 a1 1 0).bind fun v4 => (aI h3 a2 0 i6).bind fun v5 => setv (((j4 * (v4).toInt64) + (v5).toInt64)) fun v6 => (fX4_begin_w6 n) a0 a1 a2 i3 v6 (i6 + 1) h3)
set_option maxHeartbeats 4000000 in
set_option maxRecDepth 100000 in
theorem mX4_begin_w6 {g : XG} {p : Program} {l : Launch} {e : Env} {s : State} {m : MethodId} {args : Array Value} {below : List Frame} {meth : Method} {c : Code} (C : x_C g p s m args c cX4_begin RX4 7 wsX4_begin) (hr : meth.sig.returnType = none) (hlk : meth.locks = false) (hnm : meth.name = yX4_begin.name) {res : Hp} : ∀ (n : Nat) (a0 : Nat) (a1 : Nat) (a2 : Nat) (i3 : Int32) (j4 : Int64) (i6 : Int32) (h : Hp), fX4_begin_w6 n a0 a1 a2 i3 j4 i6 h = some res → XW g p l e { frames := 0, cells := 0, slots := 0, locals := 0 } s m args below meth c (MQ below (x_Q g none res) args s 0 0 (x_A g)) 7 0 0 h 6 [some (vR a0), some (vR a1), some (vR a2), some (vI i3), some (vL j4), none, some (vI i6)] [] := by
  intro n
  induction n with
  | zero =>
    intro a0 a1 a2 i3 j4 i6 h hf
    have hf2 : (none : Option (Hp)) = some res := hf
    cases hf2
  | succ n ih =>
    intro a0 a1 a2 i3 j4 i6 h hf
    rw [fX4_begin_w6] at hf
    refine x_iload C dX4_begin_6 (pc' := 8) rfl rfl ?_
    refine x_iload_n C dX4_begin_8 (pc' := 9) rfl rfl rfl ?_
    refine x_icmp_ge C hf dX4_begin_9 (pc' := 12) rfl (tgt := 45) (by decide) (fun _ hf => ?_) (fun _ hf => ?_)
    ·
      refine x_keep [true, false, false, false, true, false, false] rfl ?_
      refine x_more (k' := 0) (n' := 0) (Nat.le_of_ble_eq_true rfl) (Nat.le_of_ble_eq_true rfl) ?_
      exact mX4_begin_b45 C hr hlk hnm a0 j4 h hf
    ·
      refine x_aload_n C dX4_begin_12 (pc' := 13) rfl rfl rfl ?_
      refine x_getR C (ci := 4) (kf := 1) rfl (by decide) hinX4_begin_X4 lkX4_begin_1 rfl hf dX4_begin_13 (pc' := 16) rfl (fun v1 _ hf => ?_)
      refine x_iload C dX4_begin_16 (pc' := 18) rfl rfl ?_
      refine x_aload_n C dX4_begin_18 (pc' := 19) rfl rfl rfl ?_
      refine x_iload C dX4_begin_19 (pc' := 21) rfl rfl ?_
      refine x_iaload C hf dX4_begin_21 (pc' := 22) rfl (fun v2 _ hf => ?_)
      refine x_iastore C hf dX4_begin_22 (pc' := 23) rfl (fun h3 _ hf => ?_)
      refine x_lload C dX4_begin_23 (pc' := 25) rfl rfl ?_
      refine x_aload_n C dX4_begin_25 (pc' := 26) rfl rfl rfl ?_
      refine x_getIN C (ci := 1) (kf := 0) rfl (by decide) hinX4_begin_X1 (List.mem_of_getElem? (i := 2) rfl) rfl hf dX4_begin_26 (pc' := 29) rfl (fun v4 _ hf => ?_)
      refine x_i2l C dX4_begin_29 (pc' := 30) rfl ?_
      refine x_lmul C dX4_begin_30 (pc' := 31) rfl ?_
      refine x_aload_n C dX4_begin_31 (pc' := 32) rfl rfl rfl ?_
      refine x_iload C dX4_begin_32 (pc' := 34) rfl rfl ?_
      refine x_iaload C hf dX4_begin_34 (pc' := 35) rfl (fun v5 _ hf => ?_)
      refine x_i2l C dX4_begin_35 (pc' := 36) rfl ?_
      refine x_ladd C dX4_begin_36 (pc' := 37) rfl ?_
      refine x_nameL hf (fun v6 _ hf => ?_)
      refine x_lstore C dX4_begin_37 (pc' := 39) rfl (by decide) rfl (lv' := [some (vR a0), some (vR a1), some (vR a2), some (vI i3), some (vL v6), none, some (vI i6)]) rfl ?_
      refine x_iinc C dX4_begin_39 (pc' := 42) rfl rfl (v := (i6 + 1)) rfl (by decide) rfl (lv' := [some (vR a0), some (vR a1), some (vR a2), some (vI i3), some (vL v6), none, some (vI (i6 + 1))]) rfl ?_
      refine x_goto C dX4_begin_42 (tgt := 6) (by decide) ?_
      exact ih a0 a1 a2 i3 v6 (i6 + 1) h3 hf
def fX4_begin (h : Hp) (a0 : Nat) (a1 : Nat) (a2 : Nat) (i3 : Int32) : Option (Hp) := fX4_begin_w6 FUEL a0 a1 a2 i3 (0 : Int64) (0 : Int32) h
set_option maxHeartbeats 4000000 in
set_option maxRecDepth 100000 in
theorem mX4_begin {l : Launch} {g : XG} {h : Hp} {a0 : Nat} {a1 : Nat} {a2 : Nat} {i3 : Int32} {res : Hp} (hf : fX4_begin h a0 a1 a2 i3 = some res) : XM l g yX4_begin wsX4_begin 0 0 0 0 [vR a0, vR a1, vR a2, vI i3] h none res := by
  refine x_start (cc := cX4_begin) (maxL := 7) (ret := none) (by decide) rfl (Nat.le_of_ble_eq_true rfl) (lv := [some (vR a0), some (vR a1), some (vR a2), some (vI i3), none, none, none]) rfl ?_
  intro p e s m args below meth c C hr hlk hnm
  unfold fX4_begin at hf
  refine x_lconst C (v := 0) (by decide) dX4_begin_0 (pc' := 1) rfl ?_
  refine x_lstore C dX4_begin_1 (pc' := 3) rfl (by decide) rfl (lv' := [some (vR a0), some (vR a1), some (vR a2), some (vI i3), some (vL (0 : Int64)), none, none]) rfl ?_
  refine x_iconst C (v := 0) (by decide) dX4_begin_3 (pc' := 4) rfl ?_
  refine x_istore C dX4_begin_4 (pc' := 6) rfl (by decide) rfl (lv' := [some (vR a0), some (vR a1), some (vR a2), some (vI i3), some (vL (0 : Int64)), none, some (vI (0 : Int32))]) rfl ?_
  refine x_more (k' := 0) (n' := 0) (Nat.le_of_ble_eq_true rfl) (Nat.le_of_ble_eq_true rfl) ?_
  exact mX4_begin_w6 C hr hlk hnm FUEL a0 a1 a2 i3 (0 : Int64) (0 : Int32) h hf
-- ===== X4_lengthAt
theorem lkX4_lengthAt_0 : Cond.fieldLink RX4 9 "MossRings$Trail" "codes" "[J" ∈ wsX4_lengthAt := by decide +kernel
theorem hinX4_lengthAt_X4 : ∀ w ∈ u_ws RX4 TX4 4, w ∈ wsX4_lengthAt := by decide +kernel
def fX4_lengthAt_w15 : Nat → Nat → Int32 → Int32 → Hp → Option (Int32 × Hp)
  | 0 => fun _ _ _ _ => none
  | n + 1 => fun a0 i1 i2 h => if i2 < 0 then (some ((0 : Int32), h)) else ((gR h a0 4 0).bind fun v1 => (aL h v1 i2).bind fun v2 => (gR h a0 4 0).bind fun v3 => (aL h v3 i1).bind fun v4 => if (lg_cmp v2 v4) = 0 then (some ((i1 - i2), h)) else ((fX4_lengthAt_w15 n) a0 i1 (i2 + (-1)) h))
set_option maxHeartbeats 4000000 in
set_option maxRecDepth 100000 in
theorem mX4_lengthAt_w15 {g : XG} {p : Program} {l : Launch} {e : Env} {s : State} {m : MethodId} {args : Array Value} {below : List Frame} {meth : Method} {c : Code} (C : x_C g p s m args c cX4_lengthAt RX4 3 wsX4_lengthAt) (hr : meth.sig.returnType = (some .int)) (hlk : meth.locks = false) (hnm : meth.name = yX4_lengthAt.name) {res : Int32 × Hp} : ∀ (n : Nat) (a0 : Nat) (i1 : Int32) (i2 : Int32) (h : Hp), fX4_lengthAt_w15 n a0 i1 i2 h = some res → XW g p l e { frames := 0, cells := 0, slots := 0, locals := 0 } s m args below meth c (MQ below (x_Q g (some (vI res.1)) res.2) args s 0 0 (x_A g)) 3 0 0 h 15 [some (vR a0), some (vI i1), some (vI i2)] [] := by
  intro n
  induction n with
  | zero =>
    intro a0 i1 i2 h hf
    have hf2 : (none : Option (Int32 × Hp)) = some res := hf
    cases hf2
  | succ n ih =>
    intro a0 i1 i2 h hf
    rw [fX4_lengthAt_w15] at hf
    refine x_iload_n C dX4_lengthAt_15 (pc' := 16) rfl rfl rfl ?_
    refine x_if_lt C hf dX4_lengthAt_16 (pc' := 19) rfl (tgt := 45) (by decide) (fun _ hf => ?_) (fun _ hf => ?_)
    ·
      refine x_iconst C (v := 0) (by decide) dX4_lengthAt_45 (pc' := 46) rfl ?_
      cases hf
      exact x_iret C hr hlk dX4_lengthAt_46
    ·
      refine x_aload_n C dX4_lengthAt_19 (pc' := 20) rfl rfl rfl ?_
      refine x_getR C (ci := 4) (kf := 0) rfl (by decide) hinX4_lengthAt_X4 lkX4_lengthAt_0 rfl hf dX4_lengthAt_20 (pc' := 23) rfl (fun v1 _ hf => ?_)
      refine x_iload_n C dX4_lengthAt_23 (pc' := 24) rfl rfl rfl ?_
      refine x_laload C hf dX4_lengthAt_24 (pc' := 25) rfl (fun v2 _ hf => ?_)
      refine x_aload_n C dX4_lengthAt_25 (pc' := 26) rfl rfl rfl ?_
      refine x_getR C (ci := 4) (kf := 0) rfl (by decide) hinX4_lengthAt_X4 lkX4_lengthAt_0 rfl hf dX4_lengthAt_26 (pc' := 29) rfl (fun v3 _ hf => ?_)
      refine x_iload_n C dX4_lengthAt_29 (pc' := 30) rfl rfl rfl ?_
      refine x_laload C hf dX4_lengthAt_30 (pc' := 31) rfl (fun v4 _ hf => ?_)
      refine x_lcmp C dX4_lengthAt_31 (pc' := 32) rfl ?_
      refine x_if_ne C hf dX4_lengthAt_32 (pc' := 35) rfl (tgt := 39) (by decide) (fun _ hf => ?_) (fun _ hf => ?_)
      ·
        refine x_iload_n C dX4_lengthAt_35 (pc' := 36) rfl rfl rfl ?_
        refine x_iload_n C dX4_lengthAt_36 (pc' := 37) rfl rfl rfl ?_
        refine x_isub C dX4_lengthAt_37 (pc' := 38) rfl ?_
        cases hf
        exact x_iret C hr hlk dX4_lengthAt_38
      ·
        refine x_iinc C dX4_lengthAt_39 (pc' := 42) rfl rfl (v := (i2 + (-1))) rfl (by decide) rfl (lv' := [some (vR a0), some (vI i1), some (vI (i2 + (-1)))]) rfl ?_
        refine x_goto C dX4_lengthAt_42 (tgt := 15) (by decide) ?_
        exact ih a0 i1 (i2 + (-1)) h hf
def fX4_lengthAt (h : Hp) (a0 : Nat) (i1 : Int32) : Option (Int32 × Hp) := (gR h a0 4 0).bind fun v1 => (aN h v1).bind fun v2 => if i1 < v2 then (setv ((i1 - (1 : Int32))) fun v3 => fX4_lengthAt_w15 FUEL a0 i1 v3 h) else (some ((0 : Int32), h))
set_option maxHeartbeats 4000000 in
set_option maxRecDepth 100000 in
theorem mX4_lengthAt {l : Launch} {g : XG} {h : Hp} {a0 : Nat} {i1 : Int32} {res : Int32 × Hp} (hf : fX4_lengthAt h a0 i1 = some res) : XM l g yX4_lengthAt wsX4_lengthAt 0 0 0 0 [vR a0, vI i1] h (some (vI res.1)) res.2 := by
  refine x_start (cc := cX4_lengthAt) (maxL := 3) (ret := (some .int)) (by decide) rfl (Nat.le_of_ble_eq_true rfl) (lv := [some (vR a0), some (vI i1), none]) rfl ?_
  intro p e s m args below meth c C hr hlk hnm
  unfold fX4_lengthAt at hf
  refine x_iload_n C dX4_lengthAt_0 (pc' := 1) rfl rfl rfl ?_
  refine x_aload_n C dX4_lengthAt_1 (pc' := 2) rfl rfl rfl ?_
  refine x_getR C (ci := 4) (kf := 0) rfl (by decide) hinX4_lengthAt_X4 lkX4_lengthAt_0 rfl hf dX4_lengthAt_2 (pc' := 5) rfl (fun v1 _ hf => ?_)
  refine x_alen C hf dX4_lengthAt_5 (pc' := 6) rfl (fun v2 _ hf => ?_)
  refine x_icmp_lt C hf dX4_lengthAt_6 (pc' := 9) rfl (tgt := 11) (by decide) (fun _ hf => ?_) (fun _ hf => ?_)
  ·
    refine x_iload_n C dX4_lengthAt_11 (pc' := 12) rfl rfl rfl ?_
    refine x_iconst C (v := 1) (by decide) dX4_lengthAt_12 (pc' := 13) rfl ?_
    refine x_isub C dX4_lengthAt_13 (pc' := 14) rfl ?_
    refine x_nameI hf (fun v3 _ hf => ?_)
    refine x_istore_n C dX4_lengthAt_14 (pc' := 15) rfl rfl (by decide) rfl (lv' := [some (vR a0), some (vI i1), some (vI v3)]) rfl ?_
    refine x_more (k' := 0) (n' := 0) (Nat.le_of_ble_eq_true rfl) (Nat.le_of_ble_eq_true rfl) ?_
    exact mX4_lengthAt_w15 C hr hlk hnm FUEL a0 i1 v3 h hf
  ·
    refine x_iconst C (v := 0) (by decide) dX4_lengthAt_9 (pc' := 10) rfl ?_
    cases hf
    exact x_iret C hr hlk dX4_lengthAt_10
-- ===== X4_heightBefore
theorem lkX4_heightBefore_0 : Cond.fieldLink RX4 9 "MossRings$Trail" "codes" "[J" ∈ wsX4_heightBefore := by decide +kernel
theorem hinX4_heightBefore_X4 : ∀ w ∈ u_ws RX4 TX4 4, w ∈ wsX4_heightBefore := by decide +kernel
def fX4_heightBefore_w2 : Nat → Nat → Int32 → Int32 → Int32 → Hp → Option (Int32 × Hp)
  | 0 => fun _ _ _ _ _ => none
  | n + 1 => fun a0 i1 i2 i3 h => if i1 < (i3 + i2) then (some ((-1 : Int32), h)) else ((gR h a0 4 0).bind fun v1 => (aL h v1 i3).bind fun v2 => (gR h a0 4 0).bind fun v3 => (aL h v3 (i3 + i2)).bind fun v4 => if (lg_cmp v2 v4) = 0 then (some (i3, h)) else ((fX4_heightBefore_w2 n) a0 i1 i2 (i3 + 1) h))
set_option maxHeartbeats 4000000 in
set_option maxRecDepth 100000 in
theorem mX4_heightBefore_w2 {g : XG} {p : Program} {l : Launch} {e : Env} {s : State} {m : MethodId} {args : Array Value} {below : List Frame} {meth : Method} {c : Code} (C : x_C g p s m args c cX4_heightBefore RX4 4 wsX4_heightBefore) (hr : meth.sig.returnType = (some .int)) (hlk : meth.locks = false) (hnm : meth.name = yX4_heightBefore.name) {res : Int32 × Hp} : ∀ (n : Nat) (a0 : Nat) (i1 : Int32) (i2 : Int32) (i3 : Int32) (h : Hp), fX4_heightBefore_w2 n a0 i1 i2 i3 h = some res → XW g p l e { frames := 0, cells := 0, slots := 0, locals := 0 } s m args below meth c (MQ below (x_Q g (some (vI res.1)) res.2) args s 0 0 (x_A g)) 4 0 0 h 2 [some (vR a0), some (vI i1), some (vI i2), some (vI i3)] [] := by
  intro n
  induction n with
  | zero =>
    intro a0 i1 i2 i3 h hf
    have hf2 : (none : Option (Int32 × Hp)) = some res := hf
    cases hf2
  | succ n ih =>
    intro a0 i1 i2 i3 h hf
    rw [fX4_heightBefore_w2] at hf
    refine x_iload_n C dX4_heightBefore_2 (pc' := 3) rfl rfl rfl ?_
    refine x_iload_n C dX4_heightBefore_3 (pc' := 4) rfl rfl rfl ?_
    refine x_iadd C dX4_heightBefore_4 (pc' := 5) rfl ?_
    refine x_iload_n C dX4_heightBefore_5 (pc' := 6) rfl rfl rfl ?_
    refine x_icmp_gt C hf dX4_heightBefore_6 (pc' := 9) rfl (tgt := 35) (by decide) (fun _ hf => ?_) (fun _ hf => ?_)
    ·
      refine x_iconst C (v := -1) (by decide) dX4_heightBefore_35 (pc' := 36) rfl ?_
      cases hf
      exact x_iret C hr hlk dX4_heightBefore_36
    ·
      refine x_aload_n C dX4_heightBefore_9 (pc' := 10) rfl rfl rfl ?_
      refine x_getR C (ci := 4) (kf := 0) rfl (by decide) hinX4_heightBefore_X4 lkX4_heightBefore_0 rfl hf dX4_heightBefore_10 (pc' := 13) rfl (fun v1 _ hf => ?_)
      refine x_iload_n C dX4_heightBefore_13 (pc' := 14) rfl rfl rfl ?_
      refine x_laload C hf dX4_heightBefore_14 (pc' := 15) rfl (fun v2 _ hf => ?_)
      refine x_aload_n C dX4_heightBefore_15 (pc' := 16) rfl rfl rfl ?_
      refine x_getR C (ci := 4) (kf := 0) rfl (by decide) hinX4_heightBefore_X4 lkX4_heightBefore_0 rfl hf dX4_heightBefore_16 (pc' := 19) rfl (fun v3 _ hf => ?_)
      refine x_iload_n C dX4_heightBefore_19 (pc' := 20) rfl rfl rfl ?_
      refine x_iload_n C dX4_heightBefore_20 (pc' := 21) rfl rfl rfl ?_
      refine x_iadd C dX4_heightBefore_21 (pc' := 22) rfl ?_
      refine x_laload C hf dX4_heightBefore_22 (pc' := 23) rfl (fun v4 _ hf => ?_)
      refine x_lcmp C dX4_heightBefore_23 (pc' := 24) rfl ?_
      refine x_if_ne C hf dX4_heightBefore_24 (pc' := 27) rfl (tgt := 29) (by decide) (fun _ hf => ?_) (fun _ hf => ?_)
      ·
        refine x_iload_n C dX4_heightBefore_27 (pc' := 28) rfl rfl rfl ?_
        cases hf
        exact x_iret C hr hlk dX4_heightBefore_28
      ·
        refine x_iinc C dX4_heightBefore_29 (pc' := 32) rfl rfl (v := (i3 + 1)) rfl (by decide) rfl (lv' := [some (vR a0), some (vI i1), some (vI i2), some (vI (i3 + 1))]) rfl ?_
        refine x_goto C dX4_heightBefore_32 (tgt := 2) (by decide) ?_
        exact ih a0 i1 i2 (i3 + 1) h hf
def fX4_heightBefore (h : Hp) (a0 : Nat) (i1 : Int32) (i2 : Int32) : Option (Int32 × Hp) := fX4_heightBefore_w2 FUEL a0 i1 i2 (0 : Int32) h
set_option maxHeartbeats 4000000 in
set_option maxRecDepth 100000 in
theorem mX4_heightBefore {l : Launch} {g : XG} {h : Hp} {a0 : Nat} {i1 : Int32} {i2 : Int32} {res : Int32 × Hp} (hf : fX4_heightBefore h a0 i1 i2 = some res) : XM l g yX4_heightBefore wsX4_heightBefore 0 0 0 0 [vR a0, vI i1, vI i2] h (some (vI res.1)) res.2 := by
  refine x_start (cc := cX4_heightBefore) (maxL := 4) (ret := (some .int)) (by decide) rfl (Nat.le_of_ble_eq_true rfl) (lv := [some (vR a0), some (vI i1), some (vI i2), none]) rfl ?_
  intro p e s m args below meth c C hr hlk hnm
  unfold fX4_heightBefore at hf
  refine x_iconst C (v := 0) (by decide) dX4_heightBefore_0 (pc' := 1) rfl ?_
  refine x_istore_n C dX4_heightBefore_1 (pc' := 2) rfl rfl (by decide) rfl (lv' := [some (vR a0), some (vI i1), some (vI i2), some (vI (0 : Int32))]) rfl ?_
  refine x_more (k' := 0) (n' := 0) (Nat.le_of_ble_eq_true rfl) (Nat.le_of_ble_eq_true rfl) ?_
  exact mX4_heightBefore_w2 C hr hlk hnm FUEL a0 i1 i2 (0 : Int32) h hf
-- ===== X4_climb
theorem lkX4_climb_0 : Cond.fieldLink RX4 39 "MossRings$Trail" "roundLength" "I" ∈ wsX4_climb := by decide +kernel
theorem hinX4_climb_X4 : ∀ w ∈ u_ws RX4 TX4 4, w ∈ wsX4_climb := by decide +kernel
theorem lkX4_climb_1 : Cond.fieldLink RX4 9 "MossRings$Trail" "codes" "[J" ∈ wsX4_climb := by decide +kernel
theorem lkX4_climb_2 : Cond.fieldLink RX4 15 "MossRings$Trail" "here" "[I" ∈ wsX4_climb := by decide +kernel
theorem lkX4_climb_3 : Cond.fieldLink RX4 19 "MossRings$Trail" "there" "[I" ∈ wsX4_climb := by decide +kernel
theorem lkX4_climb_4 : Cond.fieldLink RX4 26 "MossRings$Trail" "LOOKS" "[I" ∈ wsX4_climb := by decide +kernel
def fX4_climb_b146 (a0 : Nat) (i4 : Int32) (i9 : Int32) (h : Hp) : Option (Int32 × Hp) := (pF h a0 4 3 (vI i9)).bind fun h1 => call (oK h1 a0 4 (fX4_heightBefore h1 a0 i4 i9)) fun r2 h3 => some (r2, h3)
set_option maxHeartbeats 4000000 in
set_option maxRecDepth 100000 in
theorem mX4_climb_b146 {g : XG} {p : Program} {l : Launch} {e : Env} {s : State} {m : MethodId} {args : Array Value} {below : List Frame} {meth : Method} {c : Code} (C : x_C g p s m args c cX4_climb RX4 11 wsX4_climb) (hr : meth.sig.returnType = (some .int)) (hlk : meth.locks = false) (hnm : meth.name = yX4_climb.name) {res : Int32 × Hp} (a0 : Nat) (i4 : Int32) (i9 : Int32) (h : Hp) (hf : fX4_climb_b146 a0 i4 i9 h = some res) : XW g p l e { frames := 2, cells := 0, slots := 0, locals := 51 } s m args below meth c (MQ below (x_Q g (some (vI res.1)) res.2) args s 0 0 (x_A g)) 11 0 0 h 146 [some (vR a0), none, none, none, some (vI i4), none, none, none, none, some (vI i9), none] [] := by
  unfold fX4_climb_b146 at hf
  refine x_aload_n C dX4_climb_146 (pc' := 147) rfl rfl rfl ?_
  refine x_iload C dX4_climb_147 (pc' := 149) rfl rfl ?_
  refine x_put C (ci := 4) (kf := 3) rfl (by decide) hinX4_climb_X4 tyX4 tyX4_ok nmX4 lkX4_climb_0 rfl (Or.inl rfl) rfl hf dX4_climb_149 (pc' := 152) rfl (fun h1 _ hf => ?_)
  refine x_aload_n C dX4_climb_152 (pc' := 153) rfl rfl rfl ?_
  refine x_iload C dX4_climb_153 (pc' := 155) rfl rfl ?_
  refine x_iload C dX4_climb_155 (pc' := 157) rfl rfl ?_
  obtain ⟨r2, h3, hq, hf⟩ := call_some hf
  obtain ⟨hob, hq⟩ := oK_some hq
  refine x_callV C (As := [vI i4, vI i9]) (st := []) (r := (some (vI r2))) (h' := h3) (mc := 0) (ms := 0) (k := 0) (n := 0) (mX4_heightBefore hq) hob (ci := 4) rfl (cwV 2 C.1.2.2.2.2 gX4_climb_X4_heightBefore rfl rfl rfl (by decide +kernel) ⟨Nat.le_of_ble_eq_true rfl, Nat.le_of_ble_eq_true rfl⟩) rfl rfl (Nat.le_of_ble_eq_true rfl) dX4_climb_157 (pc' := 160) rfl ?_
  cases hf
  exact x_iret C hr hlk dX4_climb_160
def fX4_climb_b129 (w45 : Nat → Nat → Int32 → Int32 → Nat → Int32 → Int32 → Hp → Option (Int32 × Hp)) (a0 : Nat) (a1 : Nat) (i3 : Int32) (a5 : Nat) (i6 : Int32) (i7 : Int32) (i8 : Int32) (h : Hp) : Option (Int32 × Hp) := call (oK h a0 4 (fX4_lengthAt h a0 i8)) fun r1 h2 => if r1 ≤ 0 then (w45 a0 a1 i3 i8 a5 i6 (i7 + 1) h2) else (fX4_climb_b146 a0 i8 r1 h2)
set_option maxHeartbeats 4000000 in
set_option maxRecDepth 100000 in
theorem mX4_climb_b129 {g : XG} {p : Program} {l : Launch} {e : Env} {s : State} {m : MethodId} {args : Array Value} {below : List Frame} {meth : Method} {c : Code} (C : x_C g p s m args c cX4_climb RX4 11 wsX4_climb) (hr : meth.sig.returnType = (some .int)) (hlk : meth.locks = false) (hnm : meth.name = yX4_climb.name) {res : Int32 × Hp} (w45 : Nat → Nat → Int32 → Int32 → Nat → Int32 → Int32 → Hp → Option (Int32 × Hp)) (hw45 : ∀ (a0 : Nat) (a1 : Nat) (i3 : Int32) (i4 : Int32) (a5 : Nat) (i6 : Int32) (i7 : Int32) (h : Hp), w45 a0 a1 i3 i4 a5 i6 i7 h = some res → XW g p l e { frames := 2, cells := 0, slots := 0, locals := 51 } s m args below meth c (MQ below (x_Q g (some (vI res.1)) res.2) args s 0 0 (x_A g)) 11 0 0 h 45 [some (vR a0), some (vR a1), none, some (vI i3), some (vI i4), some (vR a5), some (vI i6), some (vI i7), none, none, none] []) (a0 : Nat) (a1 : Nat) (i3 : Int32) (a5 : Nat) (i6 : Int32) (i7 : Int32) (i8 : Int32) (h : Hp) (hf : fX4_climb_b129 w45 a0 a1 i3 a5 i6 i7 i8 h = some res) : XW g p l e { frames := 2, cells := 0, slots := 0, locals := 51 } s m args below meth c (MQ below (x_Q g (some (vI res.1)) res.2) args s 0 0 (x_A g)) 11 0 0 h 129 [some (vR a0), some (vR a1), none, some (vI i3), none, some (vR a5), some (vI i6), some (vI i7), some (vI i8), none, none] [] := by
  unfold fX4_climb_b129 at hf
  refine x_iload C dX4_climb_129 (pc' := 131) rfl rfl ?_
  refine x_istore C dX4_climb_131 (pc' := 133) rfl (by decide) rfl (lv' := [some (vR a0), some (vR a1), none, some (vI i3), some (vI i8), some (vR a5), some (vI i6), some (vI i7), some (vI i8), none, none]) rfl ?_
  refine x_aload_n C dX4_climb_133 (pc' := 134) rfl rfl rfl ?_
  refine x_iload C dX4_climb_134 (pc' := 136) rfl rfl ?_
  obtain ⟨r1, h2, hq, hf⟩ := call_some hf
  obtain ⟨hob, hq⟩ := oK_some hq
  refine x_callV C (As := [vI i8]) (st := []) (r := (some (vI r1))) (h' := h2) (mc := 0) (ms := 0) (k := 0) (n := 0) (mX4_lengthAt hq) hob (ci := 4) rfl (cwV 1 C.1.2.2.2.2 gX4_climb_X4_lengthAt rfl rfl rfl (by decide +kernel) ⟨Nat.le_of_ble_eq_true rfl, Nat.le_of_ble_eq_true rfl⟩) rfl rfl (Nat.le_of_ble_eq_true rfl) dX4_climb_136 (pc' := 139) rfl ?_
  refine x_istore C dX4_climb_139 (pc' := 141) rfl (by decide) rfl (lv' := [some (vR a0), some (vR a1), none, some (vI i3), some (vI i8), some (vR a5), some (vI i6), some (vI i7), some (vI i8), some (vI r1), none]) rfl ?_
  refine x_iload C dX4_climb_141 (pc' := 143) rfl rfl ?_
  refine x_if_le C hf dX4_climb_143 (pc' := 146) rfl (tgt := 161) (by decide) (fun _ hf => ?_) (fun _ hf => ?_)
  ·
    refine x_iinc C dX4_climb_161 (pc' := 164) rfl rfl (v := (i7 + 1)) rfl (by decide) rfl (lv' := [some (vR a0), some (vR a1), none, some (vI i3), some (vI i8), some (vR a5), some (vI i6), some (vI (i7 + 1)), some (vI i8), some (vI r1), none]) rfl ?_
    refine x_goto C dX4_climb_164 (tgt := 45) (by decide) ?_
    refine x_keep [true, true, false, true, true, true, true, true, false, false, false] rfl ?_
    exact hw45 a0 a1 i3 i8 a5 i6 (i7 + 1) h2 hf
  ·
    refine x_keep [true, false, false, false, true, false, false, false, false, true, false] rfl ?_
    refine x_more (k' := 0) (n' := 0) (Nat.le_of_ble_eq_true rfl) (Nat.le_of_ble_eq_true rfl) ?_
    exact mX4_climb_b146 C hr hlk hnm a0 i8 r1 h2 hf
def fX4_climb_w65 (w45 : Nat → Nat → Int32 → Int32 → Nat → Int32 → Int32 → Hp → Option (Int32 × Hp)) : Nat → Nat → Nat → Int32 → Nat → Int32 → Int32 → Int32 → Int32 → Hp → Option (Int32 × Hp)
  | 0 => fun _ _ _ _ _ _ _ _ _ => none
  | n + 1 => fun a0 a1 i3 a5 i6 i7 i8 i9 h => if i8 < i9 then (fX4_climb_b129 w45 a0 a1 i3 a5 i6 i7 i8 h) else ((gR h a0 4 0).bind fun v1 => (aN h v1).bind fun v2 => if v2 ≤ i9 then (fX4_climb_b129 w45 a0 a1 i3 a5 i6 i7 i8 h) else ((gR h a0 4 0).bind fun v3 => (gR h a0 4 1).bind fun v4 => (gR h a0 4 2).bind fun v5 => call (oK h a1 1 (fX1_grow h a1 v4 i3 i3 v5)) fun r6 h7 => (sL h7 v3 i9 r6).bind fun h8 => (gR h8 a0 4 2).bind fun v9 => (gR h8 a0 4 1).bind fun v10 => (pF h8 a0 4 2 (vR v10)).bind fun h11 => (pF h11 a0 4 1 (vR v9)).bind fun h12 => (fX4_climb_w65 w45 n) a0 a1 i3 a5 i6 i7 i8 (i9 + 1) h12))
set_option maxHeartbeats 4000000 in
set_option maxRecDepth 100000 in
theorem mX4_climb_w65 {g : XG} {p : Program} {l : Launch} {e : Env} {s : State} {m : MethodId} {args : Array Value} {below : List Frame} {meth : Method} {c : Code} (C : x_C g p s m args c cX4_climb RX4 11 wsX4_climb) (hr : meth.sig.returnType = (some .int)) (hlk : meth.locks = false) (hnm : meth.name = yX4_climb.name) {res : Int32 × Hp} (w45 : Nat → Nat → Int32 → Int32 → Nat → Int32 → Int32 → Hp → Option (Int32 × Hp)) (hw45 : ∀ (a0 : Nat) (a1 : Nat) (i3 : Int32) (i4 : Int32) (a5 : Nat) (i6 : Int32) (i7 : Int32) (h : Hp), w45 a0 a1 i3 i4 a5 i6 i7 h = some res → XW g p l e { frames := 2, cells := 0, slots := 0, locals := 51 } s m args below meth c (MQ below (x_Q g (some (vI res.1)) res.2) args s 0 0 (x_A g)) 11 0 0 h 45 [some (vR a0), some (vR a1), none, some (vI i3), some (vI i4), some (vR a5), some (vI i6), some (vI i7), none, none, none] []) : ∀ (n : Nat) (a0 : Nat) (a1 : Nat) (i3 : Int32) (a5 : Nat) (i6 : Int32) (i7 : Int32) (i8 : Int32) (i9 : Int32) (h : Hp), fX4_climb_w65 w45 n a0 a1 i3 a5 i6 i7 i8 i9 h = some res → XW g p l e { frames := 2, cells := 0, slots := 0, locals := 51 } s m args below meth c (MQ below (x_Q g (some (vI res.1)) res.2) args s 0 0 (x_A g)) 11 0 0 h 65 [some (vR a0), some (vR a1), none, some (vI i3), none, some (vR a5), some (vI i6), some (vI i7), some (vI i8), some (vI i9), none] [] := by
  intro n
  induction n with
  | zero =>
    intro a0 a1 i3 a5 i6 i7 i8 i9 h hf
    have hf2 : (none : Option (Int32 × Hp)) = some res := hf
    cases hf2
  | succ n ih =>
    intro a0 a1 i3 a5 i6 i7 i8 i9 h hf
    rw [fX4_climb_w65] at hf
    refine x_iload C dX4_climb_65 (pc' := 67) rfl rfl ?_
    refine x_iload C dX4_climb_67 (pc' := 69) rfl rfl ?_
    refine x_icmp_gt C hf dX4_climb_69 (pc' := 72) rfl (tgt := 129) (by decide) (fun _ hf => ?_) (fun _ hf => ?_)
    ·
      refine x_keep [true, true, false, true, false, true, true, true, true, false, false] rfl ?_
      refine x_more (k' := 0) (n' := 0) (Nat.le_of_ble_eq_true rfl) (Nat.le_of_ble_eq_true rfl) ?_
      exact mX4_climb_b129 C hr hlk hnm w45 hw45 a0 a1 i3 a5 i6 i7 i8 h hf
    ·
      refine x_iload C dX4_climb_72 (pc' := 74) rfl rfl ?_
      refine x_aload_n C dX4_climb_74 (pc' := 75) rfl rfl rfl ?_
      refine x_getR C (ci := 4) (kf := 0) rfl (by decide) hinX4_climb_X4 lkX4_climb_1 rfl hf dX4_climb_75 (pc' := 78) rfl (fun v1 _ hf => ?_)
      refine x_alen C hf dX4_climb_78 (pc' := 79) rfl (fun v2 _ hf => ?_)
      refine x_icmp_ge C hf dX4_climb_79 (pc' := 82) rfl (tgt := 129) (by decide) (fun _ hf => ?_) (fun _ hf => ?_)
      ·
        refine x_keep [true, true, false, true, false, true, true, true, true, false, false] rfl ?_
        refine x_more (k' := 0) (n' := 0) (Nat.le_of_ble_eq_true rfl) (Nat.le_of_ble_eq_true rfl) ?_
        exact mX4_climb_b129 C hr hlk hnm w45 hw45 a0 a1 i3 a5 i6 i7 i8 h hf
      ·
        refine x_aload_n C dX4_climb_82 (pc' := 83) rfl rfl rfl ?_
        refine x_getR C (ci := 4) (kf := 0) rfl (by decide) hinX4_climb_X4 lkX4_climb_1 rfl hf dX4_climb_83 (pc' := 86) rfl (fun v3 _ hf => ?_)
        refine x_iload C dX4_climb_86 (pc' := 88) rfl rfl ?_
        refine x_aload_n C dX4_climb_88 (pc' := 89) rfl rfl rfl ?_
        refine x_aload_n C dX4_climb_89 (pc' := 90) rfl rfl rfl ?_
        refine x_getR C (ci := 4) (kf := 1) rfl (by decide) hinX4_climb_X4 lkX4_climb_2 rfl hf dX4_climb_90 (pc' := 93) rfl (fun v4 _ hf => ?_)
        refine x_iload_n C dX4_climb_93 (pc' := 94) rfl rfl rfl ?_
        refine x_iload_n C dX4_climb_94 (pc' := 95) rfl rfl rfl ?_
        refine x_aload_n C dX4_climb_95 (pc' := 96) rfl rfl rfl ?_
        refine x_getR C (ci := 4) (kf := 2) rfl (by decide) hinX4_climb_X4 lkX4_climb_3 rfl hf dX4_climb_96 (pc' := 99) rfl (fun v5 _ hf => ?_)
        obtain ⟨r6, h7, hq, hf⟩ := call_some hf
        obtain ⟨hob, hq⟩ := oK_some hq
        refine x_callV C (As := [vR v4, vI i3, vI i3, vR v5]) (st := [vI i9, vR v3]) (r := (some (vL r6))) (h' := h7) (mc := 0) (ms := 0) (k := 0) (n := 0) (mX1_grow hq) hob (ci := 1) rfl (cwV 4 C.1.2.2.2.2 gX4_climb_X1_grow rfl rfl rfl (by decide +kernel) ⟨Nat.le_of_ble_eq_true rfl, Nat.le_of_ble_eq_true rfl⟩) rfl rfl (Nat.le_of_ble_eq_true rfl) dX4_climb_99 (pc' := 102) rfl ?_
        refine x_lastore C hf dX4_climb_102 (pc' := 103) rfl (fun h8 _ hf => ?_)
        refine x_aload_n C dX4_climb_103 (pc' := 104) rfl rfl rfl ?_
        refine x_getR C (ci := 4) (kf := 2) rfl (by decide) hinX4_climb_X4 lkX4_climb_3 rfl hf dX4_climb_104 (pc' := 107) rfl (fun v9 _ hf => ?_)
        refine x_astore C dX4_climb_107 (pc' := 109) rfl (by decide) rfl (lv' := [some (vR a0), some (vR a1), none, some (vI i3), none, some (vR a5), some (vI i6), some (vI i7), some (vI i8), some (vI i9), some (vR v9)]) rfl ?_
        refine x_aload_n C dX4_climb_109 (pc' := 110) rfl rfl rfl ?_
        refine x_aload_n C dX4_climb_110 (pc' := 111) rfl rfl rfl ?_
        refine x_getR C (ci := 4) (kf := 1) rfl (by decide) hinX4_climb_X4 lkX4_climb_2 rfl hf dX4_climb_111 (pc' := 114) rfl (fun v10 _ hf => ?_)
        refine x_put C (ci := 4) (kf := 2) rfl (by decide) hinX4_climb_X4 tyX4 tyX4_ok nmX4 lkX4_climb_3 rfl (Or.inl rfl) rfl hf dX4_climb_114 (pc' := 117) rfl (fun h11 _ hf => ?_)
        refine x_aload_n C dX4_climb_117 (pc' := 118) rfl rfl rfl ?_
        refine x_aload C dX4_climb_118 (pc' := 120) rfl rfl ?_
        refine x_put C (ci := 4) (kf := 1) rfl (by decide) hinX4_climb_X4 tyX4 tyX4_ok nmX4 lkX4_climb_2 rfl (Or.inl rfl) rfl hf dX4_climb_120 (pc' := 123) rfl (fun h12 _ hf => ?_)
        refine x_iinc C dX4_climb_123 (pc' := 126) rfl rfl (v := (i9 + 1)) rfl (by decide) rfl (lv' := [some (vR a0), some (vR a1), none, some (vI i3), none, some (vR a5), some (vI i6), some (vI i7), some (vI i8), some (vI (i9 + 1)), some (vR v9)]) rfl ?_
        refine x_goto C dX4_climb_126 (tgt := 65) (by decide) ?_
        refine x_keep [true, true, false, true, false, true, true, true, true, true, false] rfl ?_
        exact ih a0 a1 i3 a5 i6 i7 i8 (i9 + 1) h12 hf
def fX4_climb_w45 : Nat → Nat → Nat → Int32 → Int32 → Nat → Int32 → Int32 → Hp → Option (Int32 × Hp)
  | 0 => fun _ _ _ _ _ _ _ _ => none
  | n + 1 => fun a0 a1 i3 i4 a5 i6 i7 h => if i6 ≤ i7 then (some ((-1 : Int32), h)) else ((aI h a5 0 i7).bind fun v1 => setv ((i4 + (1 : Int32))) fun v2 => fX4_climb_w65 (fX4_climb_w45 n) FUEL a0 a1 i3 a5 i6 i7 v1 v2 h)
set_option maxHeartbeats 4000000 in
set_option maxRecDepth 100000 in
theorem mX4_climb_w45 {g : XG} {p : Program} {l : Launch} {e : Env} {s : State} {m : MethodId} {args : Array Value} {below : List Frame} {meth : Method} {c : Code} (C : x_C g p s m args c cX4_climb RX4 11 wsX4_climb) (hr : meth.sig.returnType = (some .int)) (hlk : meth.locks = false) (hnm : meth.name = yX4_climb.name) {res : Int32 × Hp} : ∀ (n : Nat) (a0 : Nat) (a1 : Nat) (i3 : Int32) (i4 : Int32) (a5 : Nat) (i6 : Int32) (i7 : Int32) (h : Hp), fX4_climb_w45 n a0 a1 i3 i4 a5 i6 i7 h = some res → XW g p l e { frames := 2, cells := 0, slots := 0, locals := 51 } s m args below meth c (MQ below (x_Q g (some (vI res.1)) res.2) args s 0 0 (x_A g)) 11 0 0 h 45 [some (vR a0), some (vR a1), none, some (vI i3), some (vI i4), some (vR a5), some (vI i6), some (vI i7), none, none, none] [] := by
  intro n
  induction n with
  | zero =>
    intro a0 a1 i3 i4 a5 i6 i7 h hf
    have hf2 : (none : Option (Int32 × Hp)) = some res := hf
    cases hf2
  | succ n ih =>
    intro a0 a1 i3 i4 a5 i6 i7 h hf
    rw [fX4_climb_w45] at hf
    refine x_iload C dX4_climb_45 (pc' := 47) rfl rfl ?_
    refine x_iload C dX4_climb_47 (pc' := 49) rfl rfl ?_
    refine x_icmp_ge C hf dX4_climb_49 (pc' := 52) rfl (tgt := 167) (by decide) (fun _ hf => ?_) (fun _ hf => ?_)
    ·
      refine x_iconst C (v := -1) (by decide) dX4_climb_167 (pc' := 168) rfl ?_
      cases hf
      exact x_iret C hr hlk dX4_climb_168
    ·
      refine x_aload C dX4_climb_52 (pc' := 54) rfl rfl ?_
      refine x_iload C dX4_climb_54 (pc' := 56) rfl rfl ?_
      refine x_iaload C hf dX4_climb_56 (pc' := 57) rfl (fun v1 _ hf => ?_)
      refine x_istore C dX4_climb_57 (pc' := 59) rfl (by decide) rfl (lv' := [some (vR a0), some (vR a1), none, some (vI i3), some (vI i4), some (vR a5), some (vI i6), some (vI i7), some (vI v1), none, none]) rfl ?_
      refine x_iload C dX4_climb_59 (pc' := 61) rfl rfl ?_
      refine x_iconst C (v := 1) (by decide) dX4_climb_61 (pc' := 62) rfl ?_
      refine x_iadd C dX4_climb_62 (pc' := 63) rfl ?_
      refine x_nameI hf (fun v2 _ hf => ?_)
      refine x_istore C dX4_climb_63 (pc' := 65) rfl (by decide) rfl (lv' := [some (vR a0), some (vR a1), none, some (vI i3), some (vI i4), some (vR a5), some (vI i6), some (vI i7), some (vI v1), some (vI v2), none]) rfl ?_
      refine x_keep [true, true, false, true, false, true, true, true, true, true, false] rfl ?_
      refine x_more (k' := 0) (n' := 0) (Nat.le_of_ble_eq_true rfl) (Nat.le_of_ble_eq_true rfl) ?_
      exact mX4_climb_w65 C hr hlk hnm (fX4_climb_w45 n) ih FUEL a0 a1 i3 a5 i6 i7 v1 v2 h hf
def fX4_climb (h : Hp) (a0 : Nat) (a1 : Nat) (a2 : Nat) (i3 : Int32) : Option (Int32 × Hp) := if i3 < (1 : Int32) then (some ((-1 : Int32), h)) else ((aN h a2).bind fun v1 => if v1 < i3 then (some ((-1 : Int32), h)) else ((gR h a0 4 1).bind fun v2 => (aN h v2).bind fun v3 => if i3 ≤ v3 then ((oK h a0 4 (fX4_begin h a0 a1 a2 i3)).bind fun h5 => (aN h5 3).bind fun v6 => fX4_climb_w45 FUEL a0 a1 i3 (0 : Int32) 3 v6 (0 : Int32) h5) else (some ((-1 : Int32), h))))
set_option maxHeartbeats 4000000 in
set_option maxRecDepth 100000 in
theorem mX4_climb {l : Launch} {g : XG} {h : Hp} {a0 : Nat} {a1 : Nat} {a2 : Nat} {i3 : Int32} {res : Int32 × Hp} (hf : fX4_climb h a0 a1 a2 i3 = some res) : XM l g yX4_climb wsX4_climb 2 51 0 0 [vR a0, vR a1, vR a2, vI i3] h (some (vI res.1)) res.2 := by
  refine x_start (cc := cX4_climb) (maxL := 11) (ret := (some .int)) (by decide) rfl (Nat.le_of_ble_eq_true rfl) (lv := [some (vR a0), some (vR a1), some (vR a2), some (vI i3), none, none, none, none, none, none, none]) rfl ?_
  intro p e s m args below meth c C hr hlk hnm
  unfold fX4_climb at hf
  refine x_iload_n C dX4_climb_0 (pc' := 1) rfl rfl rfl ?_
  refine x_iconst C (v := 1) (by decide) dX4_climb_1 (pc' := 2) rfl ?_
  refine x_icmp_lt C hf dX4_climb_2 (pc' := 5) rfl (tgt := 20) (by decide) (fun _ hf => ?_) (fun _ hf => ?_)
  ·
    refine x_iconst C (v := -1) (by decide) dX4_climb_20 (pc' := 21) rfl ?_
    cases hf
    exact x_iret C hr hlk dX4_climb_21
  ·
    refine x_iload_n C dX4_climb_5 (pc' := 6) rfl rfl rfl ?_
    refine x_aload_n C dX4_climb_6 (pc' := 7) rfl rfl rfl ?_
    refine x_alen C hf dX4_climb_7 (pc' := 8) rfl (fun v1 _ hf => ?_)
    refine x_icmp_gt C hf dX4_climb_8 (pc' := 11) rfl (tgt := 20) (by decide) (fun _ hf => ?_) (fun _ hf => ?_)
    ·
      refine x_iconst C (v := -1) (by decide) dX4_climb_20 (pc' := 21) rfl ?_
      cases hf
      exact x_iret C hr hlk dX4_climb_21
    ·
      refine x_iload_n C dX4_climb_11 (pc' := 12) rfl rfl rfl ?_
      refine x_aload_n C dX4_climb_12 (pc' := 13) rfl rfl rfl ?_
      refine x_getR C (ci := 4) (kf := 1) rfl (by decide) hinX4_climb_X4 lkX4_climb_2 rfl hf dX4_climb_13 (pc' := 16) rfl (fun v2 _ hf => ?_)
      refine x_alen C hf dX4_climb_16 (pc' := 17) rfl (fun v3 _ hf => ?_)
      refine x_icmp_le C hf dX4_climb_17 (pc' := 20) rfl (tgt := 22) (by decide) (fun _ hf => ?_) (fun _ hf => ?_)
      ·
        refine x_aload_n C dX4_climb_22 (pc' := 23) rfl rfl rfl ?_
        refine x_aload_n C dX4_climb_23 (pc' := 24) rfl rfl rfl ?_
        refine x_aload_n C dX4_climb_24 (pc' := 25) rfl rfl rfl ?_
        refine x_iload_n C dX4_climb_25 (pc' := 26) rfl rfl rfl ?_
        obtain ⟨h5, hq, hf⟩ := bind_some hf
        obtain ⟨hob, hq⟩ := oK_some hq
        refine x_callV C (As := [vR a1, vR a2, vI i3]) (st := []) (r := none) (h' := h5) (mc := 0) (ms := 0) (k := 0) (n := 0) (mX4_begin hq) hob (ci := 4) rfl (cwV 3 C.1.2.2.2.2 gX4_climb_X4_begin rfl rfl rfl (by decide +kernel) ⟨Nat.le_of_ble_eq_true rfl, Nat.le_of_ble_eq_true rfl⟩) rfl rfl (Nat.le_of_ble_eq_true rfl) dX4_climb_26 (pc' := 29) rfl ?_
        refine x_iconst C (v := 0) (by decide) dX4_climb_29 (pc' := 30) rfl ?_
        refine x_istore C dX4_climb_30 (pc' := 32) rfl (by decide) rfl (lv' := [some (vR a0), some (vR a1), some (vR a2), some (vI i3), some (vI (0 : Int32)), none, none, none, none, none, none]) rfl ?_
        refine x_getsL C lkX4_climb_4 dX4_climb_32 (pc' := 35) rfl ?_
        refine x_astore C dX4_climb_35 (pc' := 37) rfl (by decide) rfl (lv' := [some (vR a0), some (vR a1), some (vR a2), some (vI i3), some (vI (0 : Int32)), some (vR 3), none, none, none, none, none]) rfl ?_
        refine x_aload C dX4_climb_37 (pc' := 39) rfl rfl ?_
        refine x_alen C hf dX4_climb_39 (pc' := 40) rfl (fun v6 _ hf => ?_)
        refine x_istore C dX4_climb_40 (pc' := 42) rfl (by decide) rfl (lv' := [some (vR a0), some (vR a1), some (vR a2), some (vI i3), some (vI (0 : Int32)), some (vR 3), some (vI v6), none, none, none, none]) rfl ?_
        refine x_iconst C (v := 0) (by decide) dX4_climb_42 (pc' := 43) rfl ?_
        refine x_istore C dX4_climb_43 (pc' := 45) rfl (by decide) rfl (lv' := [some (vR a0), some (vR a1), some (vR a2), some (vI i3), some (vI (0 : Int32)), some (vR 3), some (vI v6), some (vI (0 : Int32)), none, none, none]) rfl ?_
        refine x_keep [true, true, false, true, true, true, true, true, false, false, false] rfl ?_
        refine x_more (k' := 0) (n' := 0) (Nat.le_of_ble_eq_true rfl) (Nat.le_of_ble_eq_true rfl) ?_
        exact mX4_climb_w45 C hr hlk hnm FUEL a0 a1 i3 (0 : Int32) 3 v6 (0 : Int32) h5 hf
      ·
        refine x_iconst C (v := -1) (by decide) dX4_climb_20 (pc' := 21) rfl ?_
        cases hf
        exact x_iret C hr hlk dX4_climb_21

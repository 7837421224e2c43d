-- ===== X2_init
theorem lkX2_init_0 : Cond.methodLink RX2 3 objectInit ∈ wsX2_init := by decide +kernel
theorem lkX2_init_1 : Cond.instanceMethod objectInit ∈ wsX2_init := by decide +kernel
theorem lkX2_init_2 : Cond.code objectInit ⟨#[0xb1]⟩ 1 none ∈ wsX2_init := by decide +kernel
theorem lkX2_init_3 : Cond.arrayClass .int ∈ wsX2_init := by decide +kernel
theorem lkX2_init_4 : Cond.fieldLink RX2 9 "MossRings$Sets" "queue" "[I" ∈ wsX2_init := by decide +kernel
theorem hinX2_init_X2 : ∀ w ∈ u_ws RX2 TX2 5, w ∈ wsX2_init := by decide +kernel
theorem lkX2_init_5 : Cond.fieldLink RX2 15 "MossRings$Sets" "cameFrom" "[I" ∈ wsX2_init := by decide +kernel
theorem lkX2_init_6 : Cond.fieldLink RX2 18 "MossRings$Sets" "cameBy" "[I" ∈ wsX2_init := by decide +kernel
theorem lkX2_init_7 : Cond.fieldLink RX2 21 "MossRings$Sets" "reached" "[I" ∈ wsX2_init := by decide +kernel
def fX2_init (h : Hp) (a0 : Nat) : Option (Hp) := if a0 = 0 then none else (mkA h 0 512 (512 : Int32) fun q1 h2 => (pF h2 a0 2 0 (vR q1)).bind fun h3 => mkA h3 0 512 (512 : Int32) fun q4 h5 => (pF h5 a0 2 1 (vR q4)).bind fun h6 => mkA h6 0 512 (512 : Int32) fun q7 h8 => (pF h8 a0 2 2 (vR q7)).bind fun h9 => mkA h9 0 27 (27 : Int32) fun q10 h11 => (pF h11 a0 2 3 (vR q10)).bind fun h12 => some h12)
set_option maxHeartbeats 4000000 in
set_option maxRecDepth 100000 in
theorem mX2_init {l : Launch} {g : XG} {h : Hp} {a0 : Nat} {res : Hp} (hf : fX2_init h a0 = some res) : XM l g yX2_init wsX2_init 1 12 4 1563 [vR a0] h none res := by
  refine x_start (cc := cX2_init) (maxL := 1) (ret := none) (by decide) rfl (Nat.le_of_ble_eq_true rfl) (lv := [some (vR a0)]) rfl ?_
  intro p e s m args below meth c C hr hlk hnm
  unfold fX2_init at hf
  refine x_aload_n C dX2_init_0 (pc' := 1) rfl rfl rfl ?_
  refine x_objInit C lkX2_init_0 lkX2_init_1 lkX2_init_2 (Nat.le_of_ble_eq_true rfl) (Nat.le_of_ble_eq_true rfl) hf dX2_init_1 (pc' := 4) rfl (fun hf => ?_)
  refine x_aload_n C dX2_init_4 (pc' := 5) rfl rfl rfl ?_
  refine x_sipush C (v := 512) (by decide) dX2_init_5 (pc' := 8) rfl ?_
  refine x_newI C (k := 3) (n := 1051) (ty := .int) rfl (Or.inl ⟨rfl, rfl⟩) lkX2_init_3 (by decide) hf dX2_init_8 (pc' := 10) rfl (fun q1 h2 _ _ _ _ hf => ?_)
  refine x_put C (ci := 2) (kf := 0) rfl (by decide) hinX2_init_X2 tyX2 tyX2_ok nmX2 lkX2_init_4 rfl (Or.inr ⟨rfl, hnm, rfl⟩) rfl hf dX2_init_10 (pc' := 13) rfl (fun h3 _ hf => ?_)
  refine x_aload_n C dX2_init_13 (pc' := 14) rfl rfl rfl ?_
  refine x_sipush C (v := 512) (by decide) dX2_init_14 (pc' := 17) rfl ?_
  refine x_newI C (k := 2) (n := 539) (ty := .int) rfl (Or.inl ⟨rfl, rfl⟩) lkX2_init_3 (by decide) hf dX2_init_17 (pc' := 19) rfl (fun q4 h5 _ _ _ _ hf => ?_)
  refine x_put C (ci := 2) (kf := 1) rfl (by decide) hinX2_init_X2 tyX2 tyX2_ok nmX2 lkX2_init_5 rfl (Or.inr ⟨rfl, hnm, rfl⟩) rfl hf dX2_init_19 (pc' := 22) rfl (fun h6 _ hf => ?_)
  refine x_aload_n C dX2_init_22 (pc' := 23) rfl rfl rfl ?_
  refine x_sipush C (v := 512) (by decide) dX2_init_23 (pc' := 26) rfl ?_
  refine x_newI C (k := 1) (n := 27) (ty := .int) rfl (Or.inl ⟨rfl, rfl⟩) lkX2_init_3 (by decide) hf dX2_init_26 (pc' := 28) rfl (fun q7 h8 _ _ _ _ hf => ?_)
  refine x_put C (ci := 2) (kf := 2) rfl (by decide) hinX2_init_X2 tyX2 tyX2_ok nmX2 lkX2_init_6 rfl (Or.inr ⟨rfl, hnm, rfl⟩) rfl hf dX2_init_28 (pc' := 31) rfl (fun h9 _ hf => ?_)
  refine x_aload_n C dX2_init_31 (pc' := 32) rfl rfl rfl ?_
  refine x_bipush C (v := 27) (by decide) dX2_init_32 (pc' := 34) rfl ?_
  refine x_newI C (k := 0) (n := 0) (ty := .int) rfl (Or.inl ⟨rfl, rfl⟩) lkX2_init_3 (by decide) hf dX2_init_34 (pc' := 36) rfl (fun q10 h11 _ _ _ _ hf => ?_)
  refine x_put C (ci := 2) (kf := 3) rfl (by decide) hinX2_init_X2 tyX2 tyX2_ok nmX2 lkX2_init_7 rfl (Or.inr ⟨rfl, hnm, rfl⟩) rfl hf dX2_init_36 (pc' := 39) rfl (fun h12 _ hf => ?_)
  cases hf
  exact x_vret C hr hlk dX2_init_39
-- ===== X2_learn
theorem hinX2_learn_X1 : ∀ w ∈ u_ws RX1 TX1 5, w ∈ wsX2_learn := by decide +kernel
theorem lkX2_learn_0 : Cond.fieldLink RX2 21 "MossRings$Sets" "reached" "[I" ∈ wsX2_learn := by decide +kernel
theorem hinX2_learn_X2 : ∀ w ∈ u_ws RX2 TX2 5, w ∈ wsX2_learn := by decide +kernel
def fX2_learn_b66 (w10 : Nat → Nat → Int32 → Hp → Option (Hp)) (a0 : Nat) (a1 : Nat) (i2 : Int32) (h : Hp) : Option (Hp) := w10 a0 a1 (i2 + 1) h
set_option maxHeartbeats 4000000 in
set_option maxRecDepth 100000 in
theorem mX2_learn_b66 {g : XG} {p : Program} {l : Launch} {e : Env} {s : State} {m : MethodId} {args : Array Value} {below : List Frame} {meth : Method} {c : Code} (C : x_C g p s m args c cX2_learn RX2 4 wsX2_learn) (hr : meth.sig.returnType = none) (hlk : meth.locks = false) (hnm : meth.name = yX2_learn.name) {res : Hp} (w10 : Nat → Nat → Int32 → Hp → Option (Hp)) (hw10 : ∀ (a0 : Nat) (a1 : Nat) (i2 : Int32) (h : Hp), w10 a0 a1 i2 h = some res → XW g p l e { frames := 1, cells := 0, slots := 0, locals := 23 } s m args below meth c (MQ below (x_Q g none res) args s 0 0 (x_A g)) 4 0 0 h 10 [some (vR a0), some (vR a1), some (vI i2), none] []) (a0 : Nat) (a1 : Nat) (i2 : Int32) (h : Hp) (hf : fX2_learn_b66 w10 a0 a1 i2 h = some res) : XW g p l e { frames := 1, cells := 0, slots := 0, locals := 23 } s m args below meth c (MQ below (x_Q g none res) args s 0 0 (x_A g)) 4 0 0 h 66 [some (vR a0), some (vR a1), some (vI i2), none] [] := by
  unfold fX2_learn_b66 at hf
  refine x_iinc C dX2_learn_66 (pc' := 69) rfl rfl (v := (i2 + 1)) rfl (by decide) rfl (lv' := [some (vR a0), some (vR a1), some (vI (i2 + 1)), none]) rfl ?_
  refine x_goto C dX2_learn_69 (tgt := 10) (by decide) ?_
  exact hw10 a0 a1 (i2 + 1) h hf
def fX2_learn_w10 : Nat → Nat → Nat → Int32 → Hp → Option (Hp)
  | 0 => fun _ _ _ _ => none
  | n + 1 => fun a0 a1 i2 h => (gI h a1 1 2).bind fun v1 => if v1 ≤ i2 then (some h) else ((gI h a1 1 0).bind fun v2 => iDiv i2 v2 fun v3 => (gI h a1 1 0).bind fun v4 => call (oK h a1 1 (fX1_tells h a1 i2)) fun r5 h6 => setv (((v3 * v4) + r5)) fun v7 => if v7 < 0 then (fX2_learn_b66 (fX2_learn_w10 n) a0 a1 i2 h6) else ((gR h6 a0 2 3).bind fun v8 => (aN h6 v8).bind fun v9 => if v9 ≤ v7 then (fX2_learn_b66 (fX2_learn_w10 n) a0 a1 i2 h6) else ((gR h6 a0 2 3).bind fun v10 => (aI h6 v10 0 v7).bind fun v11 => (gI h6 a1 1 3).bind fun v12 => iRem i2 v12 fun v13 => (sI h6 v10 0 v7 (v11 ||| ((1 : Int32) <<< (v13 &&& 31)))).bind fun h14 => fX2_learn_b66 (fX2_learn_w10 n) a0 a1 i2 h14)))
set_option maxHeartbeats 4000000 in
set_option maxRecDepth 100000 in
theorem mX2_learn_w10 {g : XG} {p : Program} {l : Launch} {e : Env} {s : State} {m : MethodId} {args : Array Value} {below : List Frame} {meth : Method} {c : Code} (C : x_C g p s m args c cX2_learn RX2 4 wsX2_learn) (hr : meth.sig.returnType = none) (hlk : meth.locks = false) (hnm : meth.name = yX2_learn.name) {res : Hp} : ∀ (n : Nat) (a0 : Nat) (a1 : Nat) (i2 : Int32) (h : Hp), fX2_learn_w10 n a0 a1 i2 h = some res → XW g p l e { frames := 1, cells := 0, slots := 0, locals := 23 } s m args below meth c (MQ below (x_Q g none res) args s 0 0 (x_A g)) 4 0 0 h 10 [some (vR a0), some (vR a1), some (vI i2), none] [] := by
  intro n
  induction n with
  | zero =>
    intro a0 a1 i2 h hf
    have hf2 : (none : Option (Hp)) = some res := hf
    cases hf2
  | succ n ih =>
    intro a0 a1 i2 h hf
    rw [fX2_learn_w10] at hf
    refine x_iload_n C dX2_learn_10 (pc' := 11) rfl rfl rfl ?_
    refine x_aload_n C dX2_learn_11 (pc' := 12) rfl rfl rfl ?_
    refine x_getIN C (ci := 1) (kf := 2) rfl (by decide) hinX2_learn_X1 (List.mem_of_getElem? (i := 9) rfl) rfl hf dX2_learn_12 (pc' := 15) rfl (fun v1 _ hf => ?_)
    refine x_icmp_ge C hf dX2_learn_15 (pc' := 18) rfl (tgt := 72) (by decide) (fun _ hf => ?_) (fun _ hf => ?_)
    ·
      cases hf
      exact x_vret C hr hlk dX2_learn_72
    ·
      refine x_iload_n C dX2_learn_18 (pc' := 19) rfl rfl rfl ?_
      refine x_aload_n C dX2_learn_19 (pc' := 20) rfl rfl rfl ?_
      refine x_getIN C (ci := 1) (kf := 0) rfl (by decide) hinX2_learn_X1 (List.mem_of_getElem? (i := 1) rfl) rfl hf dX2_learn_20 (pc' := 23) rfl (fun v2 _ hf => ?_)
      refine x_idiv C hf dX2_learn_23 (pc' := 24) rfl (fun _ v3 _ hf => ?_)
      refine x_aload_n C dX2_learn_24 (pc' := 25) rfl rfl rfl ?_
      refine x_getIN C (ci := 1) (kf := 0) rfl (by decide) hinX2_learn_X1 (List.mem_of_getElem? (i := 1) rfl) rfl hf dX2_learn_25 (pc' := 28) rfl (fun v4 _ hf => ?_)
      refine x_imul C dX2_learn_28 (pc' := 29) rfl ?_
      refine x_aload_n C dX2_learn_29 (pc' := 30) rfl rfl rfl ?_
      refine x_iload_n C dX2_learn_30 (pc' := 31) rfl rfl rfl ?_
      obtain ⟨r5, h6, hq, hf⟩ := call_some hf
      obtain ⟨hob, hq⟩ := oK_some hq
      refine x_callV C (As := [vI i2]) (st := [vI (v3 * v4)]) (r := (some (vI r5))) (h' := h6) (mc := 0) (ms := 0) (k := 0) (n := 0) (mX1_tells hq) hob (ci := 1) rfl (cwV 1 C.1.2.2.2.2 gX2_learn_X1_tells rfl rfl rfl (by decide +kernel) ⟨Nat.le_of_ble_eq_true rfl, Nat.le_of_ble_eq_true rfl⟩) rfl rfl (Nat.le_of_ble_eq_true rfl) dX2_learn_31 (pc' := 34) rfl ?_
      refine x_iadd C dX2_learn_34 (pc' := 35) rfl ?_
      refine x_nameI hf (fun v7 _ hf => ?_)
      refine x_istore_n C dX2_learn_35 (pc' := 36) rfl rfl (by decide) rfl (lv' := [some (vR a0), some (vR a1), some (vI i2), some (vI v7)]) rfl ?_
      refine x_iload_n C dX2_learn_36 (pc' := 37) rfl rfl rfl ?_
      refine x_if_lt C hf dX2_learn_37 (pc' := 40) rfl (tgt := 66) (by decide) (fun _ hf => ?_) (fun _ hf => ?_)
      ·
        refine x_keep [true, true, true, false] rfl ?_
        refine x_more (k' := 0) (n' := 0) (Nat.le_of_ble_eq_true rfl) (Nat.le_of_ble_eq_true rfl) ?_
        exact mX2_learn_b66 C hr hlk hnm (fX2_learn_w10 n) ih a0 a1 i2 h6 hf
      ·
        refine x_iload_n C dX2_learn_40 (pc' := 41) rfl rfl rfl ?_
        refine x_aload_n C dX2_learn_41 (pc' := 42) rfl rfl rfl ?_
        refine x_getR C (ci := 2) (kf := 3) rfl (by decide) hinX2_learn_X2 lkX2_learn_0 rfl hf dX2_learn_42 (pc' := 45) rfl (fun v8 _ hf => ?_)
        refine x_alen C hf dX2_learn_45 (pc' := 46) rfl (fun v9 _ hf => ?_)
        refine x_icmp_ge C hf dX2_learn_46 (pc' := 49) rfl (tgt := 66) (by decide) (fun _ hf => ?_) (fun _ hf => ?_)
        ·
          refine x_keep [true, true, true, false] rfl ?_
          refine x_more (k' := 0) (n' := 0) (Nat.le_of_ble_eq_true rfl) (Nat.le_of_ble_eq_true rfl) ?_
          exact mX2_learn_b66 C hr hlk hnm (fX2_learn_w10 n) ih a0 a1 i2 h6 hf
        ·
          refine x_aload_n C dX2_learn_49 (pc' := 50) rfl rfl rfl ?_
          refine x_getR C (ci := 2) (kf := 3) rfl (by decide) hinX2_learn_X2 lkX2_learn_0 rfl hf dX2_learn_50 (pc' := 53) rfl (fun v10 _ hf => ?_)
          refine x_iload_n C dX2_learn_53 (pc' := 54) rfl rfl rfl ?_
          refine x_dup2 C rfl rfl dX2_learn_54 (pc' := 55) rfl ?_
          refine x_iaload C hf dX2_learn_55 (pc' := 56) rfl (fun v11 _ hf => ?_)
          refine x_iconst C (v := 1) (by decide) dX2_learn_56 (pc' := 57) rfl ?_
          refine x_iload_n C dX2_learn_57 (pc' := 58) rfl rfl rfl ?_
          refine x_aload_n C dX2_learn_58 (pc' := 59) rfl rfl rfl ?_
          refine x_getIN C (ci := 1) (kf := 3) rfl (by decide) hinX2_learn_X1 (List.mem_of_getElem? (i := 11) rfl) rfl hf dX2_learn_59 (pc' := 62) rfl (fun v12 _ hf => ?_)
          refine x_irem C hf dX2_learn_62 (pc' := 63) rfl (fun _ v13 _ hf => ?_)
          refine x_ishl C dX2_learn_63 (pc' := 64) rfl ?_
          refine x_ior C dX2_learn_64 (pc' := 65) rfl ?_
          refine x_iastore C hf dX2_learn_65 (pc' := 66) rfl (fun h14 _ hf => ?_)
          refine x_keep [true, true, true, false] rfl ?_
          refine x_more (k' := 0) (n' := 0) (Nat.le_of_ble_eq_true rfl) (Nat.le_of_ble_eq_true rfl) ?_
          exact mX2_learn_b66 C hr hlk hnm (fX2_learn_w10 n) ih a0 a1 i2 h14 hf
def fX2_learn (h : Hp) (a0 : Nat) (a1 : Nat) : Option (Hp) := (gR h a0 2 3).bind fun v1 => (fJ7_fill_53178 h v1 (0 : Int32)).bind fun h3 => fX2_learn_w10 FUEL a0 a1 (0 : Int32) h3
set_option maxHeartbeats 4000000 in
set_option maxRecDepth 100000 in
theorem mX2_learn {l : Launch} {g : XG} {h : Hp} {a0 : Nat} {a1 : Nat} {res : Hp} (hf : fX2_learn h a0 a1 = some res) : XM l g yX2_learn wsX2_learn 1 23 0 0 [vR a0, vR a1] h none res := by
  refine x_start (cc := cX2_learn) (maxL := 4) (ret := none) (by decide) rfl (Nat.le_of_ble_eq_true rfl) (lv := [some (vR a0), some (vR a1), none, none]) rfl ?_
  intro p e s m args below meth c C hr hlk hnm
  unfold fX2_learn at hf
  refine x_aload_n C dX2_learn_0 (pc' := 1) rfl rfl rfl ?_
  refine x_getR C (ci := 2) (kf := 3) rfl (by decide) hinX2_learn_X2 lkX2_learn_0 rfl hf dX2_learn_1 (pc' := 4) rfl (fun v1 _ hf => ?_)
  refine x_iconst C (v := 0) (by decide) dX2_learn_4 (pc' := 5) rfl ?_
  obtain ⟨h3, hq, hf⟩ := bind_some hf
  refine x_callS C (As := [vR v1, vI (0 : Int32)]) (st := []) (r := none) (h' := h3) (mc := 0) (ms := 0) (k := 0) (n := 0) (mJ7_fill_53178 hq) (va_cwS 2 C.1.2.2.2.2 gX2_learn_J7_fill_53178 rfl rfl rfl (by decide +kernel) ⟨Nat.le_of_ble_eq_true rfl, Nat.le_of_ble_eq_true rfl⟩) rfl rfl (Nat.le_of_ble_eq_true rfl) dX2_learn_5 (pc' := 8) rfl ?_
  refine x_iconst C (v := 0) (by decide) dX2_learn_8 (pc' := 9) rfl ?_
  refine x_istore_n C dX2_learn_9 (pc' := 10) rfl rfl (by decide) rfl (lv' := [some (vR a0), some (vR a1), some (vI (0 : Int32)), none]) rfl ?_
  refine x_more (k' := 0) (n' := 0) (Nat.le_of_ble_eq_true rfl) (Nat.le_of_ble_eq_true rfl) ?_
  exact mX2_learn_w10 C hr hlk hnm FUEL a0 a1 (0 : Int32) h3 hf
-- ===== X2_follow
theorem hinX2_follow_X1 : ∀ w ∈ u_ws RX1 TX1 5, w ∈ wsX2_follow := by decide +kernel
theorem lkX2_follow_0 : Cond.fieldLink RX2 21 "MossRings$Sets" "reached" "[I" ∈ wsX2_follow := by decide +kernel
theorem hinX2_follow_X2 : ∀ w ∈ u_ws RX2 TX2 5, w ∈ wsX2_follow := by decide +kernel
def fX2_follow_b58 (w6 : Nat → Nat → Int32 → Int32 → Int32 → Int32 → Hp → Option (Int32 × Hp)) (a0 : Nat) (a1 : Nat) (i2 : Int32) (i3 : Int32) (i4 : Int32) (i5 : Int32) (h : Hp) : Option (Int32 × Hp) := w6 a0 a1 i2 i3 i4 (i5 + 1) h
set_option maxHeartbeats 4000000 in
set_option maxRecDepth 100000 in
theorem mX2_follow_b58 {g : XG} {p : Program} {l : Launch} {e : Env} {s : State} {m : MethodId} {args : Array Value} {below : List Frame} {meth : Method} {c : Code} (C : x_C g p s m args c cX2_follow RX2 7 wsX2_follow) (hr : meth.sig.returnType = (some .int)) (hlk : meth.locks = false) (hnm : meth.name = yX2_follow.name) {res : Int32 × Hp} (w6 : Nat → Nat → Int32 → Int32 → Int32 → Int32 → Hp → Option (Int32 × Hp)) (hw6 : ∀ (a0 : Nat) (a1 : Nat) (i2 : Int32) (i3 : Int32) (i4 : Int32) (i5 : Int32) (h : Hp), w6 a0 a1 i2 i3 i4 i5 h = some res → XW g p l e { frames := 0, cells := 0, slots := 0, locals := 0 } s m args below meth c (MQ below (x_Q g (some (vI res.1)) res.2) args s 0 0 (x_A g)) 7 0 0 h 6 [some (vR a0), some (vR a1), some (vI i2), some (vI i3), some (vI i4), some (vI i5), none] []) (a0 : Nat) (a1 : Nat) (i2 : Int32) (i3 : Int32) (i4 : Int32) (i5 : Int32) (h : Hp) (hf : fX2_follow_b58 w6 a0 a1 i2 i3 i4 i5 h = some res) : XW g p l e { frames := 0, cells := 0, slots := 0, locals := 0 } s m args below meth c (MQ below (x_Q g (some (vI res.1)) res.2) args s 0 0 (x_A g)) 7 0 0 h 58 [some (vR a0), some (vR a1), some (vI i2), some (vI i3), some (vI i4), some (vI i5), none] [] := by
  unfold fX2_follow_b58 at hf
  refine x_iinc C dX2_follow_58 (pc' := 61) rfl rfl (v := (i5 + 1)) rfl (by decide) rfl (lv' := [some (vR a0), some (vR a1), some (vI i2), some (vI i3), some (vI i4), some (vI (i5 + 1)), none]) rfl ?_
  refine x_goto C dX2_follow_61 (tgt := 6) (by decide) ?_
  exact hw6 a0 a1 i2 i3 i4 (i5 + 1) h hf
def fX2_follow_w6 : Nat → Nat → Nat → Int32 → Int32 → Int32 → Int32 → Hp → Option (Int32 × Hp)
  | 0 => fun _ _ _ _ _ _ _ => none
  | n + 1 => fun a0 a1 i2 i3 i4 i5 h => (gI h a1 1 3).bind fun v1 => if v1 ≤ i5 then (some (i4, h)) else ((gI h a1 1 0).bind fun v2 => setv (((i5 * v2) + i3)) fun v3 => if ((i2 >>> (i5 &&& 31)) &&& (1 : Int32)) = (1 : Int32) then ((gR h a0 2 3).bind fun v4 => (aN h v4).bind fun v5 => if v5 ≤ v3 then (fX2_follow_b58 (fX2_follow_w6 n) a0 a1 i2 i3 i4 i5 h) else ((gR h a0 2 3).bind fun v6 => (aI h v6 0 v3).bind fun v7 => setv ((i4 ||| v7)) fun v8 => fX2_follow_b58 (fX2_follow_w6 n) a0 a1 i2 i3 v8 i5 h)) else (fX2_follow_b58 (fX2_follow_w6 n) a0 a1 i2 i3 i4 i5 h))
set_option maxHeartbeats 4000000 in
set_option maxRecDepth 100000 in
theorem mX2_follow_w6 {g : XG} {p : Program} {l : Launch} {e : Env} {s : State} {m : MethodId} {args : Array Value} {below : List Frame} {meth : Method} {c : Code} (C : x_C g p s m args c cX2_follow RX2 7 wsX2_follow) (hr : meth.sig.returnType = (some .int)) (hlk : meth.locks = false) (hnm : meth.name = yX2_follow.name) {res : Int32 × Hp} : ∀ (n : Nat) (a0 : Nat) (a1 : Nat) (i2 : Int32) (i3 : Int32) (i4 : Int32) (i5 : Int32) (h : Hp), fX2_follow_w6 n a0 a1 i2 i3 i4 i5 h = some res → XW g p l e { frames := 0, cells := 0, slots := 0, locals := 0 } s m args below meth c (MQ below (x_Q g (some (vI res.1)) res.2) args s 0 0 (x_A g)) 7 0 0 h 6 [some (vR a0), some (vR a1), some (vI i2), some (vI i3), some (vI i4), some (vI i5), none] [] := by
  intro n
  induction n with
  | zero =>
    intro a0 a1 i2 i3 i4 i5 h hf
    have hf2 : (none : Option (Int32 × Hp)) = some res := hf
    cases hf2
  | succ n ih =>
    intro a0 a1 i2 i3 i4 i5 h hf
    rw [fX2_follow_w6] at hf
    refine x_iload C dX2_follow_6 (pc' := 8) rfl rfl ?_
    refine x_aload_n C dX2_follow_8 (pc' := 9) rfl rfl rfl ?_
    refine x_getIN C (ci := 1) (kf := 3) rfl (by decide) hinX2_follow_X1 (List.mem_of_getElem? (i := 11) rfl) rfl hf dX2_follow_9 (pc' := 12) rfl (fun v1 _ hf => ?_)
    refine x_icmp_ge C hf dX2_follow_12 (pc' := 15) rfl (tgt := 64) (by decide) (fun _ hf => ?_) (fun _ hf => ?_)
    ·
      refine x_iload C dX2_follow_64 (pc' := 66) rfl rfl ?_
      cases hf
      exact x_iret C hr hlk dX2_follow_66
    ·
      refine x_iload C dX2_follow_15 (pc' := 17) rfl rfl ?_
      refine x_aload_n C dX2_follow_17 (pc' := 18) rfl rfl rfl ?_
      refine x_getIN C (ci := 1) (kf := 0) rfl (by decide) hinX2_follow_X1 (List.mem_of_getElem? (i := 1) rfl) rfl hf dX2_follow_18 (pc' := 21) rfl (fun v2 _ hf => ?_)
      refine x_imul C dX2_follow_21 (pc' := 22) rfl ?_
      refine x_iload_n C dX2_follow_22 (pc' := 23) rfl rfl rfl ?_
      refine x_iadd C dX2_follow_23 (pc' := 24) rfl ?_
      refine x_nameI hf (fun v3 _ hf => ?_)
      refine x_istore C dX2_follow_24 (pc' := 26) rfl (by decide) rfl (lv' := [some (vR a0), some (vR a1), some (vI i2), some (vI i3), some (vI i4), some (vI i5), some (vI v3)]) rfl ?_
      refine x_iload_n C dX2_follow_26 (pc' := 27) rfl rfl rfl ?_
      refine x_iload C dX2_follow_27 (pc' := 29) rfl rfl ?_
      refine x_ishr C dX2_follow_29 (pc' := 30) rfl ?_
      refine x_iconst C (v := 1) (by decide) dX2_follow_30 (pc' := 31) rfl ?_
      refine x_iand C dX2_follow_31 (pc' := 32) rfl ?_
      refine x_iconst C (v := 1) (by decide) dX2_follow_32 (pc' := 33) rfl ?_
      refine x_icmp_ne C hf dX2_follow_33 (pc' := 36) rfl (tgt := 58) (by decide) (fun _ hf => ?_) (fun _ hf => ?_)
      ·
        refine x_iload C dX2_follow_36 (pc' := 38) rfl rfl ?_
        refine x_aload_n C dX2_follow_38 (pc' := 39) rfl rfl rfl ?_
        refine x_getR C (ci := 2) (kf := 3) rfl (by decide) hinX2_follow_X2 lkX2_follow_0 rfl hf dX2_follow_39 (pc' := 42) rfl (fun v4 _ hf => ?_)
        refine x_alen C hf dX2_follow_42 (pc' := 43) rfl (fun v5 _ hf => ?_)
        refine x_icmp_ge C hf dX2_follow_43 (pc' := 46) rfl (tgt := 58) (by decide) (fun _ hf => ?_) (fun _ hf => ?_)
        ·
          refine x_keep [true, true, true, true, true, true, false] rfl ?_
          refine x_more (k' := 0) (n' := 0) (Nat.le_of_ble_eq_true rfl) (Nat.le_of_ble_eq_true rfl) ?_
          exact mX2_follow_b58 C hr hlk hnm (fX2_follow_w6 n) ih a0 a1 i2 i3 i4 i5 h hf
        ·
          refine x_iload C dX2_follow_46 (pc' := 48) rfl rfl ?_
          refine x_aload_n C dX2_follow_48 (pc' := 49) rfl rfl rfl ?_
          refine x_getR C (ci := 2) (kf := 3) rfl (by decide) hinX2_follow_X2 lkX2_follow_0 rfl hf dX2_follow_49 (pc' := 52) rfl (fun v6 _ hf => ?_)
          refine x_iload C dX2_follow_52 (pc' := 54) rfl rfl ?_
          refine x_iaload C hf dX2_follow_54 (pc' := 55) rfl (fun v7 _ hf => ?_)
          refine x_ior C dX2_follow_55 (pc' := 56) rfl ?_
          refine x_nameI hf (fun v8 _ hf => ?_)
          refine x_istore C dX2_follow_56 (pc' := 58) rfl (by decide) rfl (lv' := [some (vR a0), some (vR a1), some (vI i2), some (vI i3), some (vI v8), some (vI i5), some (vI v3)]) rfl ?_
          refine x_keep [true, true, true, true, true, true, false] rfl ?_
          refine x_more (k' := 0) (n' := 0) (Nat.le_of_ble_eq_true rfl) (Nat.le_of_ble_eq_true rfl) ?_
          exact mX2_follow_b58 C hr hlk hnm (fX2_follow_w6 n) ih a0 a1 i2 i3 v8 i5 h hf
      ·
        refine x_keep [true, true, true, true, true, true, false] rfl ?_
        refine x_more (k' := 0) (n' := 0) (Nat.le_of_ble_eq_true rfl) (Nat.le_of_ble_eq_true rfl) ?_
        exact mX2_follow_b58 C hr hlk hnm (fX2_follow_w6 n) ih a0 a1 i2 i3 i4 i5 h hf
def fX2_follow (h : Hp) (a0 : Nat) (a1 : Nat) (i2 : Int32) (i3 : Int32) : Option (Int32 × Hp) := fX2_follow_w6 FUEL a0 a1 i2 i3 (0 : Int32) (0 : Int32) h
set_option maxHeartbeats 4000000 in
set_option maxRecDepth 100000 in
theorem mX2_follow {l : Launch} {g : XG} {h : Hp} {a0 : Nat} {a1 : Nat} {i2 : Int32} {i3 : Int32} {res : Int32 × Hp} (hf : fX2_follow h a0 a1 i2 i3 = some res) : XM l g yX2_follow wsX2_follow 0 0 0 0 [vR a0, vR a1, vI i2, vI i3] h (some (vI res.1)) res.2 := by
  refine x_start (cc := cX2_follow) (maxL := 7) (ret := (some .int)) (by decide) rfl (Nat.le_of_ble_eq_true rfl) (lv := [some (vR a0), some (vR a1), some (vI i2), some (vI i3), none, none, none]) rfl ?_
  intro p e s m args below meth c C hr hlk hnm
  unfold fX2_follow at hf
  refine x_iconst C (v := 0) (by decide) dX2_follow_0 (pc' := 1) rfl ?_
  refine x_istore C dX2_follow_1 (pc' := 3) rfl (by decide) rfl (lv' := [some (vR a0), some (vR a1), some (vI i2), some (vI i3), some (vI (0 : Int32)), none, none]) rfl ?_
  refine x_iconst C (v := 0) (by decide) dX2_follow_3 (pc' := 4) rfl ?_
  refine x_istore C dX2_follow_4 (pc' := 6) rfl (by decide) rfl (lv' := [some (vR a0), some (vR a1), some (vI i2), some (vI i3), some (vI (0 : Int32)), some (vI (0 : Int32)), none]) rfl ?_
  refine x_more (k' := 0) (n' := 0) (Nat.le_of_ble_eq_true rfl) (Nat.le_of_ble_eq_true rfl) ?_
  exact mX2_follow_w6 C hr hlk hnm FUEL a0 a1 i2 i3 (0 : Int32) (0 : Int32) h hf
-- ===== X2_before
theorem lkX2_before_0 : Cond.fieldLink RX2 34 "MossRings$Sets" "whole" "I" ∈ wsX2_before := by decide +kernel
theorem hinX2_before_X2 : ∀ w ∈ u_ws RX2 TX2 5, w ∈ wsX2_before := by decide +kernel
theorem lkX2_before_1 : Cond.fieldLink RX2 15 "MossRings$Sets" "cameFrom" "[I" ∈ wsX2_before := by decide +kernel
def fX2_before_b30 (a0 : Nat) (h : Hp) : Option (Int32 × Hp) := (gI h a0 2 4).bind fun v1 => some (v1, h)
set_option maxHeartbeats 4000000 in
set_option maxRecDepth 100000 in
theorem mX2_before_b30 {g : XG} {p : Program} {l : Launch} {e : Env} {s : State} {m : MethodId} {args : Array Value} {below : List Frame} {meth : Method} {c : Code} (C : x_C g p s m args c cX2_before RX2 2 wsX2_before) (hr : meth.sig.returnType = (some .int)) (hlk : meth.locks = false) (hnm : meth.name = yX2_before.name) {res : Int32 × Hp} (a0 : Nat) (h : Hp) (hf : fX2_before_b30 a0 h = some res) : XW g p l e { frames := 0, cells := 0, slots := 0, locals := 0 } s m args below meth c (MQ below (x_Q g (some (vI res.1)) res.2) args s 0 0 (x_A g)) 2 0 0 h 30 [some (vR a0), none] [] := by
  unfold fX2_before_b30 at hf
  refine x_aload_n C dX2_before_30 (pc' := 31) rfl rfl rfl ?_
  refine x_getI C (ci := 2) (kf := 4) rfl (by decide) hinX2_before_X2 lkX2_before_0 rfl hf dX2_before_31 (pc' := 34) rfl (fun v1 _ hf => ?_)
  cases hf
  exact x_iret C hr hlk dX2_before_34
def fX2_before (h : Hp) (a0 : Nat) (i1 : Int32) : Option (Int32 × Hp) := (gR h a0 2 1).bind fun v1 => (aI h v1 0 i1).bind fun v2 => if v2 < 0 then (fX2_before_b30 a0 h) else ((gR h a0 2 1).bind fun v3 => (aI h v3 0 i1).bind fun v4 => if (512 : Int32) ≤ v4 then (fX2_before_b30 a0 h) else ((gR h a0 2 1).bind fun v5 => (aI h v5 0 i1).bind fun v6 => some (v6, h)))
set_option maxHeartbeats 4000000 in
set_option maxRecDepth 100000 in
theorem mX2_before {l : Launch} {g : XG} {h : Hp} {a0 : Nat} {i1 : Int32} {res : Int32 × Hp} (hf : fX2_before h a0 i1 = some res) : XM l g yX2_before wsX2_before 0 0 0 0 [vR a0, vI i1] h (some (vI res.1)) res.2 := by
  refine x_start (cc := cX2_before) (maxL := 2) (ret := (some .int)) (by decide) rfl (Nat.le_of_ble_eq_true rfl) (lv := [some (vR a0), some (vI i1)]) rfl ?_
  intro p e s m args below meth c C hr hlk hnm
  unfold fX2_before at hf
  refine x_aload_n C dX2_before_0 (pc' := 1) rfl rfl rfl ?_
  refine x_getR C (ci := 2) (kf := 1) rfl (by decide) hinX2_before_X2 lkX2_before_1 rfl hf dX2_before_1 (pc' := 4) rfl (fun v1 _ hf => ?_)
  refine x_iload_n C dX2_before_4 (pc' := 5) rfl rfl rfl ?_
  refine x_iaload C hf dX2_before_5 (pc' := 6) rfl (fun v2 _ hf => ?_)
  refine x_if_lt C hf dX2_before_6 (pc' := 9) rfl (tgt := 30) (by decide) (fun _ hf => ?_) (fun _ hf => ?_)
  ·
    refine x_keep [true, false] rfl ?_
    refine x_more (k' := 0) (n' := 0) (Nat.le_of_ble_eq_true rfl) (Nat.le_of_ble_eq_true rfl) ?_
    exact mX2_before_b30 C hr hlk hnm a0 h hf
  ·
    refine x_aload_n C dX2_before_9 (pc' := 10) rfl rfl rfl ?_
    refine x_getR C (ci := 2) (kf := 1) rfl (by decide) hinX2_before_X2 lkX2_before_1 rfl hf dX2_before_10 (pc' := 13) rfl (fun v3 _ hf => ?_)
    refine x_iload_n C dX2_before_13 (pc' := 14) rfl rfl rfl ?_
    refine x_iaload C hf dX2_before_14 (pc' := 15) rfl (fun v4 _ hf => ?_)
    refine x_sipush C (v := 512) (by decide) dX2_before_15 (pc' := 18) rfl ?_
    refine x_icmp_ge C hf dX2_before_18 (pc' := 21) rfl (tgt := 30) (by decide) (fun _ hf => ?_) (fun _ hf => ?_)
    ·
      refine x_keep [true, false] rfl ?_
      refine x_more (k' := 0) (n' := 0) (Nat.le_of_ble_eq_true rfl) (Nat.le_of_ble_eq_true rfl) ?_
      exact mX2_before_b30 C hr hlk hnm a0 h hf
    ·
      refine x_aload_n C dX2_before_21 (pc' := 22) rfl rfl rfl ?_
      refine x_getR C (ci := 2) (kf := 1) rfl (by decide) hinX2_before_X2 lkX2_before_1 rfl hf dX2_before_22 (pc' := 25) rfl (fun v5 _ hf => ?_)
      refine x_iload_n C dX2_before_25 (pc' := 26) rfl rfl rfl ?_
      refine x_iaload C hf dX2_before_26 (pc' := 27) rfl (fun v6 _ hf => ?_)
      refine x_goto C dX2_before_27 (tgt := 34) (by decide) ?_
      cases hf
      exact x_iret C hr hlk dX2_before_34
-- ===== X2_writeMissed
theorem lkX2_writeMissed_0 : Cond.fieldLink RX2 18 "MossRings$Sets" "cameBy" "[I" ∈ wsX2_writeMissed := by decide +kernel
theorem hinX2_writeMissed_X2 : ∀ w ∈ u_ws RX2 TX2 5, w ∈ wsX2_writeMissed := by decide +kernel
theorem lkX2_writeMissed_1 : Cond.methodLink RX2 54 Lib.Math.min.name ∈ wsX2_writeMissed := by decide +kernel
theorem lkX2_writeMissed_2 : Cond.static Lib.Math.min.name ∈ wsX2_writeMissed := by decide +kernel
theorem lkX2_writeMissed_3 : Cond.initialized "java/lang/Math" ∈ wsX2_writeMissed := by decide +kernel
theorem lkX2_writeMissed_4 : Cond.code Lib.Math.min.name Lib.Math.min.code 2 (some .int) ∈ wsX2_writeMissed := by decide +kernel
theorem lkX2_writeMissed_5 : Cond.fieldLink RX2 34 "MossRings$Sets" "whole" "I" ∈ wsX2_writeMissed := by decide +kernel
def fX2_writeMissed_w43 : Nat → Nat → Nat → Int32 → Int32 → Int32 → Hp → Option (Int32 × Hp)
  | 0 => fun _ _ _ _ _ _ => none
  | n + 1 => fun a0 a1 i2 i3 i4 h => if i4 < 0 then (some (i2, h)) else ((gR h a0 2 2).bind fun v1 => (aI h v1 0 i3).bind fun v2 => (sI h a1 0 i4 v2).bind fun h3 => call (oK h3 a0 2 (fX2_before h3 a0 i3)) fun r4 h5 => (fX2_writeMissed_w43 n) a0 a1 i2 r4 (i4 + (-1)) h5)
set_option maxHeartbeats 4000000 in
set_option maxRecDepth 100000 in
theorem mX2_writeMissed_w43 {g : XG} {p : Program} {l : Launch} {e : Env} {s : State} {m : MethodId} {args : Array Value} {below : List Frame} {meth : Method} {c : Code} (C : x_C g p s m args c cX2_writeMissed RX2 5 wsX2_writeMissed) (hr : meth.sig.returnType = (some .int)) (hlk : meth.locks = false) (hnm : meth.name = yX2_writeMissed.name) {res : Int32 × Hp} : ∀ (n : Nat) (a0 : Nat) (a1 : Nat) (i2 : Int32) (i3 : Int32) (i4 : Int32) (h : Hp), fX2_writeMissed_w43 n a0 a1 i2 i3 i4 h = some res → XW g p l e { frames := 1, cells := 0, slots := 0, locals := 21 } s m args below meth c (MQ below (x_Q g (some (vI res.1)) res.2) args s 0 0 (x_A g)) 5 0 0 h 43 [some (vR a0), some (vR a1), some (vI i2), some (vI i3), some (vI i4)] [] := by
  intro n
  induction n with
  | zero =>
    intro a0 a1 i2 i3 i4 h hf
    have hf2 : (none : Option (Int32 × Hp)) = some res := hf
    cases hf2
  | succ n ih =>
    intro a0 a1 i2 i3 i4 h hf
    rw [fX2_writeMissed_w43] at hf
    refine x_iload C dX2_writeMissed_43 (pc' := 45) rfl rfl ?_
    refine x_if_lt C hf dX2_writeMissed_45 (pc' := 48) rfl (tgt := 70) (by decide) (fun _ hf => ?_) (fun _ hf => ?_)
    ·
      refine x_iload_n C dX2_writeMissed_70 (pc' := 71) rfl rfl rfl ?_
      cases hf
      exact x_iret C hr hlk dX2_writeMissed_71
    ·
      refine x_aload_n C dX2_writeMissed_48 (pc' := 49) rfl rfl rfl ?_
      refine x_iload C dX2_writeMissed_49 (pc' := 51) rfl rfl ?_
      refine x_aload_n C dX2_writeMissed_51 (pc' := 52) rfl rfl rfl ?_
      refine x_getR C (ci := 2) (kf := 2) rfl (by decide) hinX2_writeMissed_X2 lkX2_writeMissed_0 rfl hf dX2_writeMissed_52 (pc' := 55) rfl (fun v1 _ hf => ?_)
      refine x_iload_n C dX2_writeMissed_55 (pc' := 56) rfl rfl rfl ?_
      refine x_iaload C hf dX2_writeMissed_56 (pc' := 57) rfl (fun v2 _ hf => ?_)
      refine x_iastore C hf dX2_writeMissed_57 (pc' := 58) rfl (fun h3 _ hf => ?_)
      refine x_aload_n C dX2_writeMissed_58 (pc' := 59) rfl rfl rfl ?_
      refine x_iload_n C dX2_writeMissed_59 (pc' := 60) rfl rfl rfl ?_
      obtain ⟨r4, h5, hq, hf⟩ := call_some hf
      obtain ⟨hob, hq⟩ := oK_some hq
      refine x_callV C (As := [vI i3]) (st := []) (r := (some (vI r4))) (h' := h5) (mc := 0) (ms := 0) (k := 0) (n := 0) (mX2_before hq) hob (ci := 2) rfl (cwV 1 C.1.2.2.2.2 gX2_writeMissed_X2_before rfl rfl rfl (by decide +kernel) ⟨Nat.le_of_ble_eq_true rfl, Nat.le_of_ble_eq_true rfl⟩) rfl rfl (Nat.le_of_ble_eq_true rfl) dX2_writeMissed_60 (pc' := 63) rfl ?_
      refine x_istore_n C dX2_writeMissed_63 (pc' := 64) rfl rfl (by decide) rfl (lv' := [some (vR a0), some (vR a1), some (vI i2), some (vI r4), some (vI i4)]) rfl ?_
      refine x_iinc C dX2_writeMissed_64 (pc' := 67) rfl rfl (v := (i4 + (-1))) rfl (by decide) rfl (lv' := [some (vR a0), some (vR a1), some (vI i2), some (vI r4), some (vI (i4 + (-1)))]) rfl ?_
      refine x_goto C dX2_writeMissed_67 (tgt := 43) (by decide) ?_
      exact ih a0 a1 i2 r4 (i4 + (-1)) h5 hf
def fX2_writeMissed_b31 (a0 : Nat) (a1 : Nat) (i2 : Int32) (h : Hp) : Option (Int32 × Hp) := (aN h a1).bind fun v1 => setv (((iMin i2 v1) - (1 : Int32))) fun v2 => fX2_writeMissed_w43 FUEL a0 a1 i2 (0 : Int32) v2 h
set_option maxHeartbeats 4000000 in
set_option maxRecDepth 100000 in
theorem mX2_writeMissed_b31 {g : XG} {p : Program} {l : Launch} {e : Env} {s : State} {m : MethodId} {args : Array Value} {below : List Frame} {meth : Method} {c : Code} (C : x_C g p s m args c cX2_writeMissed RX2 5 wsX2_writeMissed) (hr : meth.sig.returnType = (some .int)) (hlk : meth.locks = false) (hnm : meth.name = yX2_writeMissed.name) {res : Int32 × Hp} (a0 : Nat) (a1 : Nat) (i2 : Int32) (h : Hp) (hf : fX2_writeMissed_b31 a0 a1 i2 h = some res) : XW g p l e { frames := 1, cells := 0, slots := 0, locals := 21 } s m args below meth c (MQ below (x_Q g (some (vI res.1)) res.2) args s 0 0 (x_A g)) 5 0 0 h 31 [some (vR a0), some (vR a1), some (vI i2), none, none] [] := by
  unfold fX2_writeMissed_b31 at hf
  refine x_iconst C (v := 0) (by decide) dX2_writeMissed_31 (pc' := 32) rfl ?_
  refine x_istore_n C dX2_writeMissed_32 (pc' := 33) rfl rfl (by decide) rfl (lv' := [some (vR a0), some (vR a1), some (vI i2), some (vI (0 : Int32)), none]) rfl ?_
  refine x_iload_n C dX2_writeMissed_33 (pc' := 34) rfl rfl rfl ?_
  refine x_aload_n C dX2_writeMissed_34 (pc' := 35) rfl rfl rfl ?_
  refine x_alen C hf dX2_writeMissed_35 (pc' := 36) rfl (fun v1 _ hf => ?_)
  refine x_min C lkX2_writeMissed_1 lkX2_writeMissed_2 lkX2_writeMissed_3 lkX2_writeMissed_4 (Nat.le_of_ble_eq_true rfl) (Nat.le_of_ble_eq_true rfl) dX2_writeMissed_36 (pc' := 39) rfl ?_
  refine x_iconst C (v := 1) (by decide) dX2_writeMissed_39 (pc' := 40) rfl ?_
  refine x_isub C dX2_writeMissed_40 (pc' := 41) rfl ?_
  refine x_nameI hf (fun v2 _ hf => ?_)
  refine x_istore C dX2_writeMissed_41 (pc' := 43) rfl (by decide) rfl (lv' := [some (vR a0), some (vR a1), some (vI i2), some (vI (0 : Int32)), some (vI v2)]) rfl ?_
  refine x_more (k' := 0) (n' := 0) (Nat.le_of_ble_eq_true rfl) (Nat.le_of_ble_eq_true rfl) ?_
  exact mX2_writeMissed_w43 C hr hlk hnm FUEL a0 a1 i2 (0 : Int32) v2 h hf
def fX2_writeMissed_w4 : Nat → Nat → Nat → Int32 → Int32 → Hp → Option (Int32 × Hp)
  | 0 => fun _ _ _ _ _ => none
  | n + 1 => fun a0 a1 i2 i3 h => (gI h a0 2 4).bind fun v1 => if i3 = v1 then (fX2_writeMissed_b31 a0 a1 i2 h) else (if (512 : Int32) ≤ i2 then (fX2_writeMissed_b31 a0 a1 i2 h) else (call (oK h a0 2 (fX2_before h a0 i3)) fun r2 h3 => (fX2_writeMissed_w4 n) a0 a1 (i2 + 1) r2 h3))
set_option maxHeartbeats 4000000 in
set_option maxRecDepth 100000 in
theorem mX2_writeMissed_w4 {g : XG} {p : Program} {l : Launch} {e : Env} {s : State} {m : MethodId} {args : Array Value} {below : List Frame} {meth : Method} {c : Code} (C : x_C g p s m args c cX2_writeMissed RX2 5 wsX2_writeMissed) (hr : meth.sig.returnType = (some .int)) (hlk : meth.locks = false) (hnm : meth.name = yX2_writeMissed.name) {res : Int32 × Hp} : ∀ (n : Nat) (a0 : Nat) (a1 : Nat) (i2 : Int32) (i3 : Int32) (h : Hp), fX2_writeMissed_w4 n a0 a1 i2 i3 h = some res → XW g p l e { frames := 1, cells := 0, slots := 0, locals := 21 } s m args below meth c (MQ below (x_Q g (some (vI res.1)) res.2) args s 0 0 (x_A g)) 5 0 0 h 4 [some (vR a0), some (vR a1), some (vI i2), some (vI i3), none] [] := by
  intro n
  induction n with
  | zero =>
    intro a0 a1 i2 i3 h hf
    have hf2 : (none : Option (Int32 × Hp)) = some res := hf
    cases hf2
  | succ n ih =>
    intro a0 a1 i2 i3 h hf
    rw [fX2_writeMissed_w4] at hf
    refine x_iload_n C dX2_writeMissed_4 (pc' := 5) rfl rfl rfl ?_
    refine x_aload_n C dX2_writeMissed_5 (pc' := 6) rfl rfl rfl ?_
    refine x_getI C (ci := 2) (kf := 4) rfl (by decide) hinX2_writeMissed_X2 lkX2_writeMissed_5 rfl hf dX2_writeMissed_6 (pc' := 9) rfl (fun v1 _ hf => ?_)
    refine x_icmp_eq C hf dX2_writeMissed_9 (pc' := 12) rfl (tgt := 31) (by decide) (fun _ hf => ?_) (fun _ hf => ?_)
    ·
      refine x_keep [true, true, true, false, false] rfl ?_
      refine x_more (k' := 0) (n' := 0) (Nat.le_of_ble_eq_true rfl) (Nat.le_of_ble_eq_true rfl) ?_
      exact mX2_writeMissed_b31 C hr hlk hnm a0 a1 i2 h hf
    ·
      refine x_iload_n C dX2_writeMissed_12 (pc' := 13) rfl rfl rfl ?_
      refine x_sipush C (v := 512) (by decide) dX2_writeMissed_13 (pc' := 16) rfl ?_
      refine x_icmp_ge C hf dX2_writeMissed_16 (pc' := 19) rfl (tgt := 31) (by decide) (fun _ hf => ?_) (fun _ hf => ?_)
      ·
        refine x_keep [true, true, true, false, false] rfl ?_
        refine x_more (k' := 0) (n' := 0) (Nat.le_of_ble_eq_true rfl) (Nat.le_of_ble_eq_true rfl) ?_
        exact mX2_writeMissed_b31 C hr hlk hnm a0 a1 i2 h hf
      ·
        refine x_iinc C dX2_writeMissed_19 (pc' := 22) rfl rfl (v := (i2 + 1)) rfl (by decide) rfl (lv' := [some (vR a0), some (vR a1), some (vI (i2 + 1)), some (vI i3), none]) rfl ?_
        refine x_aload_n C dX2_writeMissed_22 (pc' := 23) rfl rfl rfl ?_
        refine x_iload_n C dX2_writeMissed_23 (pc' := 24) rfl rfl rfl ?_
        obtain ⟨r2, h3, hq, hf⟩ := call_some hf
        obtain ⟨hob, hq⟩ := oK_some hq
        refine x_callV C (As := [vI i3]) (st := []) (r := (some (vI r2))) (h' := h3) (mc := 0) (ms := 0) (k := 0) (n := 0) (mX2_before hq) hob (ci := 2) rfl (cwV 1 C.1.2.2.2.2 gX2_writeMissed_X2_before rfl rfl rfl (by decide +kernel) ⟨Nat.le_of_ble_eq_true rfl, Nat.le_of_ble_eq_true rfl⟩) rfl rfl (Nat.le_of_ble_eq_true rfl) dX2_writeMissed_24 (pc' := 27) rfl ?_
        refine x_istore_n C dX2_writeMissed_27 (pc' := 28) rfl rfl (by decide) rfl (lv' := [some (vR a0), some (vR a1), some (vI (i2 + 1)), some (vI r2), none]) rfl ?_
        refine x_goto C dX2_writeMissed_28 (tgt := 4) (by decide) ?_
        exact ih a0 a1 (i2 + 1) r2 h3 hf
def fX2_writeMissed (h : Hp) (a0 : Nat) (a1 : Nat) : Option (Int32 × Hp) := fX2_writeMissed_w4 FUEL a0 a1 (0 : Int32) (0 : Int32) h
set_option maxHeartbeats 4000000 in
set_option maxRecDepth 100000 in
theorem mX2_writeMissed {l : Launch} {g : XG} {h : Hp} {a0 : Nat} {a1 : Nat} {res : Int32 × Hp} (hf : fX2_writeMissed h a0 a1 = some res) : XM l g yX2_writeMissed wsX2_writeMissed 1 21 0 0 [vR a0, vR a1] h (some (vI res.1)) res.2 := by
  refine x_start (cc := cX2_writeMissed) (maxL := 5) (ret := (some .int)) (by decide) rfl (Nat.le_of_ble_eq_true rfl) (lv := [some (vR a0), some (vR a1), none, none, none]) rfl ?_
  intro p e s m args below meth c C hr hlk hnm
  unfold fX2_writeMissed at hf
  refine x_iconst C (v := 0) (by decide) dX2_writeMissed_0 (pc' := 1) rfl ?_
  refine x_istore_n C dX2_writeMissed_1 (pc' := 2) rfl rfl (by decide) rfl (lv' := [some (vR a0), some (vR a1), some (vI (0 : Int32)), none, none]) rfl ?_
  refine x_iconst C (v := 0) (by decide) dX2_writeMissed_2 (pc' := 3) rfl ?_
  refine x_istore_n C dX2_writeMissed_3 (pc' := 4) rfl rfl (by decide) rfl (lv' := [some (vR a0), some (vR a1), some (vI (0 : Int32)), some (vI (0 : Int32)), none]) rfl ?_
  refine x_more (k' := 0) (n' := 0) (Nat.le_of_ble_eq_true rfl) (Nat.le_of_ble_eq_true rfl) ?_
  exact mX2_writeMissed_w4 C hr hlk hnm FUEL a0 a1 (0 : Int32) (0 : Int32) h hf
-- ===== X2_missesSome
theorem lkX2_missesSome_0 : Cond.fieldLink RX2 15 "MossRings$Sets" "cameFrom" "[I" ∈ wsX2_missesSome := by decide +kernel
theorem hinX2_missesSome_X2 : ∀ w ∈ u_ws RX2 TX2 5, w ∈ wsX2_missesSome := by decide +kernel
theorem hinX2_missesSome_X1 : ∀ w ∈ u_ws RX1 TX1 5, w ∈ wsX2_missesSome := by decide +kernel
theorem lkX2_missesSome_1 : Cond.fieldLink RX2 9 "MossRings$Sets" "queue" "[I" ∈ wsX2_missesSome := by decide +kernel
theorem lkX2_missesSome_2 : Cond.fieldLink RX2 18 "MossRings$Sets" "cameBy" "[I" ∈ wsX2_missesSome := by decide +kernel
theorem lkX2_missesSome_3 : Cond.fieldLink RX2 34 "MossRings$Sets" "whole" "I" ∈ wsX2_missesSome := by decide +kernel
def fX2_missesSome_b165 (w56 : Nat → Nat → Int32 → Int32 → Hp → Option (Int32 × Hp)) (a0 : Nat) (a1 : Nat) (i2 : Int32) (i3 : Int32) (h : Hp) : Option (Int32 × Hp) := (gR h a0 2 1).bind fun v1 => (aI h v1 0 (0 : Int32)).bind fun v2 => if v2 = (-1 : Int32) then (w56 a0 a1 i2 (i3 + 1) h) else (retZ (1 : Int32) h)
set_option maxHeartbeats 4000000 in
set_option maxRecDepth 100000 in
theorem mX2_missesSome_b165 {g : XG} {p : Program} {l : Launch} {e : Env} {s : State} {m : MethodId} {args : Array Value} {below : List Frame} {meth : Method} {c : Code} (C : x_C g p s m args c cX2_missesSome RX2 6 wsX2_missesSome) (hr : meth.sig.returnType = (some .boolean)) (hlk : meth.locks = false) (hnm : meth.name = yX2_missesSome.name) {res : Int32 × Hp} (w56 : Nat → Nat → Int32 → Int32 → Hp → Option (Int32 × Hp)) (hw56 : ∀ (a0 : Nat) (a1 : Nat) (i2 : Int32) (i3 : Int32) (h : Hp), w56 a0 a1 i2 i3 h = some res → XW g p l e { frames := 2, cells := 0, slots := 0, locals := 46 } s m args below meth c (MQ below (x_Q g (some (vI res.1)) res.2) args s 0 0 (x_A g)) 6 0 0 h 56 [some (vR a0), some (vR a1), some (vI i2), some (vI i3), none, none] []) (a0 : Nat) (a1 : Nat) (i2 : Int32) (i3 : Int32) (h : Hp) (hf : fX2_missesSome_b165 w56 a0 a1 i2 i3 h = some res) : XW g p l e { frames := 2, cells := 0, slots := 0, locals := 46 } s m args below meth c (MQ below (x_Q g (some (vI res.1)) res.2) args s 0 0 (x_A g)) 6 0 0 h 165 [some (vR a0), some (vR a1), some (vI i2), some (vI i3), none, none] [] := by
  unfold fX2_missesSome_b165 at hf
  refine x_aload_n C dX2_missesSome_165 (pc' := 166) rfl rfl rfl ?_
  refine x_getR C (ci := 2) (kf := 1) rfl (by decide) hinX2_missesSome_X2 lkX2_missesSome_0 rfl hf dX2_missesSome_166 (pc' := 169) rfl (fun v1 _ hf => ?_)
  refine x_iconst C (v := 0) (by decide) dX2_missesSome_169 (pc' := 170) rfl ?_
  refine x_iaload C hf dX2_missesSome_170 (pc' := 171) rfl (fun v2 _ hf => ?_)
  refine x_iconst C (v := -1) (by decide) dX2_missesSome_171 (pc' := 172) rfl ?_
  refine x_icmp_eq C hf dX2_missesSome_172 (pc' := 175) rfl (tgt := 177) (by decide) (fun _ hf => ?_) (fun _ hf => ?_)
  ·
    refine x_iinc C dX2_missesSome_177 (pc' := 180) rfl rfl (v := (i3 + 1)) rfl (by decide) rfl (lv' := [some (vR a0), some (vR a1), some (vI i2), some (vI (i3 + 1)), none, none]) rfl ?_
    refine x_goto C dX2_missesSome_180 (tgt := 56) (by decide) ?_
    exact hw56 a0 a1 i2 (i3 + 1) h hf
  ·
    refine x_iconst C (v := 1) (by decide) dX2_missesSome_175 (pc' := 176) rfl ?_
    exact x_zret C hf hr hlk dX2_missesSome_176
def fX2_missesSome_b159 (w56 : Nat → Nat → Int32 → Int32 → Hp → Option (Int32 × Hp)) (w71 : Nat → Nat → Int32 → Int32 → Int32 → Hp → Option (Int32 × Hp)) (a0 : Nat) (a1 : Nat) (i2 : Int32) (i3 : Int32) (i4 : Int32) (h : Hp) : Option (Int32 × Hp) := w71 a0 a1 i2 i3 (i4 + 1) h
set_option maxHeartbeats 4000000 in
set_option maxRecDepth 100000 in
theorem mX2_missesSome_b159 {g : XG} {p : Program} {l : Launch} {e : Env} {s : State} {m : MethodId} {args : Array Value} {below : List Frame} {meth : Method} {c : Code} (C : x_C g p s m args c cX2_missesSome RX2 6 wsX2_missesSome) (hr : meth.sig.returnType = (some .boolean)) (hlk : meth.locks = false) (hnm : meth.name = yX2_missesSome.name) {res : Int32 × Hp} (w56 : Nat → Nat → Int32 → Int32 → Hp → Option (Int32 × Hp)) (hw56 : ∀ (a0 : Nat) (a1 : Nat) (i2 : Int32) (i3 : Int32) (h : Hp), w56 a0 a1 i2 i3 h = some res → XW g p l e { frames := 2, cells := 0, slots := 0, locals := 46 } s m args below meth c (MQ below (x_Q g (some (vI res.1)) res.2) args s 0 0 (x_A g)) 6 0 0 h 56 [some (vR a0), some (vR a1), some (vI i2), some (vI i3), none, none] []) (w71 : Nat → Nat → Int32 → Int32 → Int32 → Hp → Option (Int32 × Hp)) (hw71 : ∀ (a0 : Nat) (a1 : Nat) (i2 : Int32) (i3 : Int32) (i4 : Int32) (h : Hp), w71 a0 a1 i2 i3 i4 h = some res → XW g p l e { frames := 2, cells := 0, slots := 0, locals := 46 } s m args below meth c (MQ below (x_Q g (some (vI res.1)) res.2) args s 0 0 (x_A g)) 6 0 0 h 71 [some (vR a0), some (vR a1), some (vI i2), some (vI i3), some (vI i4), none] []) (a0 : Nat) (a1 : Nat) (i2 : Int32) (i3 : Int32) (i4 : Int32) (h : Hp) (hf : fX2_missesSome_b159 w56 w71 a0 a1 i2 i3 i4 h = some res) : XW g p l e { frames := 2, cells := 0, slots := 0, locals := 46 } s m args below meth c (MQ below (x_Q g (some (vI res.1)) res.2) args s 0 0 (x_A g)) 6 0 0 h 159 [some (vR a0), some (vR a1), some (vI i2), some (vI i3), some (vI i4), none] [] := by
  unfold fX2_missesSome_b159 at hf
  refine x_iinc C dX2_missesSome_159 (pc' := 162) rfl rfl (v := (i4 + 1)) rfl (by decide) rfl (lv' := [some (vR a0), some (vR a1), some (vI i2), some (vI i3), some (vI (i4 + 1)), none]) rfl ?_
  refine x_goto C dX2_missesSome_162 (tgt := 71) (by decide) ?_
  exact hw71 a0 a1 i2 i3 (i4 + 1) h hf
def fX2_missesSome_w71 (w56 : Nat → Nat → Int32 → Int32 → Hp → Option (Int32 × Hp)) : Nat → Nat → Nat → Int32 → Int32 → Int32 → Hp → Option (Int32 × Hp)
  | 0 => fun _ _ _ _ _ _ => none
  | n + 1 => fun a0 a1 i2 i3 i4 h => (gI h a1 1 0).bind fun v1 => if v1 ≤ i4 then (fX2_missesSome_b165 w56 a0 a1 i2 i3 h) else ((gR h a0 2 0).bind fun v2 => (aI h v2 0 i3).bind fun v3 => call (oK h a0 2 (fX2_follow h a0 a1 v3 i4)) fun r4 h5 => if r4 < 0 then (fX2_missesSome_b159 w56 (fX2_missesSome_w71 w56 n) a0 a1 i2 i3 i4 h5) else (if (512 : Int32) ≤ r4 then (fX2_missesSome_b159 w56 (fX2_missesSome_w71 w56 n) a0 a1 i2 i3 i4 h5) else (if (512 : Int32) ≤ i2 then (fX2_missesSome_b159 w56 (fX2_missesSome_w71 w56 n) a0 a1 i2 i3 i4 h5) else ((gR h5 a0 2 1).bind fun v6 => (aI h5 v6 0 r4).bind fun v7 => if v7 = (-1 : Int32) then ((gR h5 a0 2 1).bind fun v8 => (gR h5 a0 2 0).bind fun v9 => (aI h5 v9 0 i3).bind fun v10 => (sI h5 v8 0 r4 v10).bind fun h11 => (gR h11 a0 2 2).bind fun v12 => (sI h11 v12 0 r4 i4).bind fun h13 => (gR h13 a0 2 0).bind fun v14 => (sI h13 v14 0 i2 r4).bind fun h15 => fX2_missesSome_b159 w56 (fX2_missesSome_w71 w56 n) a0 a1 (i2 + 1) i3 i4 h15) else (fX2_missesSome_b159 w56 (fX2_missesSome_w71 w56 n) a0 a1 i2 i3 i4 h5)))))
set_option maxHeartbeats 4000000 in
set_option maxRecDepth 100000 in
theorem mX2_missesSome_w71 {g : XG} {p : Program} {l : Launch} {e : Env} {s : State} {m : MethodId} {args : Array Value} {below : List Frame} {meth : Method} {c : Code} (C : x_C g p s m args c cX2_missesSome RX2 6 wsX2_missesSome) (hr : meth.sig.returnType = (some .boolean)) (hlk : meth.locks = false) (hnm : meth.name = yX2_missesSome.name) {res : Int32 × Hp} (w56 : Nat → Nat → Int32 → Int32 → Hp → Option (Int32 × Hp)) (hw56 : ∀ (a0 : Nat) (a1 : Nat) (i2 : Int32) (i3 : Int32) (h : Hp), w56 a0 a1 i2 i3 h = some res → XW g p l e { frames := 2, cells := 0, slots := 0, locals := 46 } s m args below meth c (MQ below (x_Q g (some (vI res.1)) res.2) args s 0 0 (x_A g)) 6 0 0 h 56 [some (vR a0), some (vR a1), some (vI i2), some (vI i3), none, none] []) : ∀ (n : Nat) (a0 : Nat) (a1 : Nat) (i2 : Int32) (i3 : Int32) (i4 : Int32) (h : Hp), fX2_missesSome_w71 w56 n a0 a1 i2 i3 i4 h = some res → XW g p l e { frames := 2, cells := 0, slots := 0, locals := 46 } s m args below meth c (MQ below (x_Q g (some (vI res.1)) res.2) args s 0 0 (x_A g)) 6 0 0 h 71 [some (vR a0), some (vR a1), some (vI i2), some (vI i3), some (vI i4), none] [] := by
  intro n
  induction n with
  | zero =>
    intro a0 a1 i2 i3 i4 h hf
    have hf2 : (none : Option (Int32 × Hp)) = some res := hf
    cases hf2
  | succ n ih =>
    intro a0 a1 i2 i3 i4 h hf
    rw [fX2_missesSome_w71] at hf
    refine x_iload C dX2_missesSome_71 (pc' := 73) rfl rfl ?_
    refine x_aload_n C dX2_missesSome_73 (pc' := 74) rfl rfl rfl ?_
    refine x_getIN C (ci := 1) (kf := 0) rfl (by decide) hinX2_missesSome_X1 (List.mem_of_getElem? (i := 1) rfl) rfl hf dX2_missesSome_74 (pc' := 77) rfl (fun v1 _ hf => ?_)
    refine x_icmp_ge C hf dX2_missesSome_77 (pc' := 80) rfl (tgt := 165) (by decide) (fun _ hf => ?_) (fun _ hf => ?_)
    ·
      refine x_keep [true, true, true, true, false, false] rfl ?_
      refine x_more (k' := 0) (n' := 0) (Nat.le_of_ble_eq_true rfl) (Nat.le_of_ble_eq_true rfl) ?_
      exact mX2_missesSome_b165 C hr hlk hnm w56 hw56 a0 a1 i2 i3 h hf
    ·
      refine x_aload_n C dX2_missesSome_80 (pc' := 81) rfl rfl rfl ?_
      refine x_aload_n C dX2_missesSome_81 (pc' := 82) rfl rfl rfl ?_
      refine x_aload_n C dX2_missesSome_82 (pc' := 83) rfl rfl rfl ?_
      refine x_getR C (ci := 2) (kf := 0) rfl (by decide) hinX2_missesSome_X2 lkX2_missesSome_1 rfl hf dX2_missesSome_83 (pc' := 86) rfl (fun v2 _ hf => ?_)
      refine x_iload_n C dX2_missesSome_86 (pc' := 87) rfl rfl rfl ?_
      refine x_iaload C hf dX2_missesSome_87 (pc' := 88) rfl (fun v3 _ hf => ?_)
      refine x_iload C dX2_missesSome_88 (pc' := 90) rfl rfl ?_
      obtain ⟨r4, h5, hq, hf⟩ := call_some hf
      obtain ⟨hob, hq⟩ := oK_some hq
      refine x_callV C (As := [vR a1, vI v3, vI i4]) (st := []) (r := (some (vI r4))) (h' := h5) (mc := 0) (ms := 0) (k := 0) (n := 0) (mX2_follow hq) hob (ci := 2) rfl (cwV 3 C.1.2.2.2.2 gX2_missesSome_X2_follow rfl rfl rfl (by decide +kernel) ⟨Nat.le_of_ble_eq_true rfl, Nat.le_of_ble_eq_true rfl⟩) rfl rfl (Nat.le_of_ble_eq_true rfl) dX2_missesSome_90 (pc' := 93) rfl ?_
      refine x_istore C dX2_missesSome_93 (pc' := 95) rfl (by decide) rfl (lv' := [some (vR a0), some (vR a1), some (vI i2), some (vI i3), some (vI i4), some (vI r4)]) rfl ?_
      refine x_iload C dX2_missesSome_95 (pc' := 97) rfl rfl ?_
      refine x_if_lt C hf dX2_missesSome_97 (pc' := 100) rfl (tgt := 159) (by decide) (fun _ hf => ?_) (fun _ hf => ?_)
      ·
        refine x_keep [true, true, true, true, true, false] rfl ?_
        refine x_more (k' := 0) (n' := 0) (Nat.le_of_ble_eq_true rfl) (Nat.le_of_ble_eq_true rfl) ?_
        exact mX2_missesSome_b159 C hr hlk hnm w56 hw56 (fX2_missesSome_w71 w56 n) ih a0 a1 i2 i3 i4 h5 hf
      ·
        refine x_iload C dX2_missesSome_100 (pc' := 102) rfl rfl ?_
        refine x_sipush C (v := 512) (by decide) dX2_missesSome_102 (pc' := 105) rfl ?_
        refine x_icmp_ge C hf dX2_missesSome_105 (pc' := 108) rfl (tgt := 159) (by decide) (fun _ hf => ?_) (fun _ hf => ?_)
        ·
          refine x_keep [true, true, true, true, true, false] rfl ?_
          refine x_more (k' := 0) (n' := 0) (Nat.le_of_ble_eq_true rfl) (Nat.le_of_ble_eq_true rfl) ?_
          exact mX2_missesSome_b159 C hr hlk hnm w56 hw56 (fX2_missesSome_w71 w56 n) ih a0 a1 i2 i3 i4 h5 hf
        ·
          refine x_iload_n C dX2_missesSome_108 (pc' := 109) rfl rfl rfl ?_
          refine x_sipush C (v := 512) (by decide) dX2_missesSome_109 (pc' := 112) rfl ?_
          refine x_icmp_ge C hf dX2_missesSome_112 (pc' := 115) rfl (tgt := 159) (by decide) (fun _ hf => ?_) (fun _ hf => ?_)
          ·
            refine x_keep [true, true, true, true, true, false] rfl ?_
            refine x_more (k' := 0) (n' := 0) (Nat.le_of_ble_eq_true rfl) (Nat.le_of_ble_eq_true rfl) ?_
            exact mX2_missesSome_b159 C hr hlk hnm w56 hw56 (fX2_missesSome_w71 w56 n) ih a0 a1 i2 i3 i4 h5 hf
          ·
            refine x_aload_n C dX2_missesSome_115 (pc' := 116) rfl rfl rfl ?_
            refine x_getR C (ci := 2) (kf := 1) rfl (by decide) hinX2_missesSome_X2 lkX2_missesSome_0 rfl hf dX2_missesSome_116 (pc' := 119) rfl (fun v6 _ hf => ?_)
            refine x_iload C dX2_missesSome_119 (pc' := 121) rfl rfl ?_
            refine x_iaload C hf dX2_missesSome_121 (pc' := 122) rfl (fun v7 _ hf => ?_)
            refine x_iconst C (v := -1) (by decide) dX2_missesSome_122 (pc' := 123) rfl ?_
            refine x_icmp_ne C hf dX2_missesSome_123 (pc' := 126) rfl (tgt := 159) (by decide) (fun _ hf => ?_) (fun _ hf => ?_)
            ·
              refine x_aload_n C dX2_missesSome_126 (pc' := 127) rfl rfl rfl ?_
              refine x_getR C (ci := 2) (kf := 1) rfl (by decide) hinX2_missesSome_X2 lkX2_missesSome_0 rfl hf dX2_missesSome_127 (pc' := 130) rfl (fun v8 _ hf => ?_)
              refine x_iload C dX2_missesSome_130 (pc' := 132) rfl rfl ?_
              refine x_aload_n C dX2_missesSome_132 (pc' := 133) rfl rfl rfl ?_
              refine x_getR C (ci := 2) (kf := 0) rfl (by decide) hinX2_missesSome_X2 lkX2_missesSome_1 rfl hf dX2_missesSome_133 (pc' := 136) rfl (fun v9 _ hf => ?_)
              refine x_iload_n C dX2_missesSome_136 (pc' := 137) rfl rfl rfl ?_
              refine x_iaload C hf dX2_missesSome_137 (pc' := 138) rfl (fun v10 _ hf => ?_)
              refine x_iastore C hf dX2_missesSome_138 (pc' := 139) rfl (fun h11 _ hf => ?_)
              refine x_aload_n C dX2_missesSome_139 (pc' := 140) rfl rfl rfl ?_
              refine x_getR C (ci := 2) (kf := 2) rfl (by decide) hinX2_missesSome_X2 lkX2_missesSome_2 rfl hf dX2_missesSome_140 (pc' := 143) rfl (fun v12 _ hf => ?_)
              refine x_iload C dX2_missesSome_143 (pc' := 145) rfl rfl ?_
              refine x_iload C dX2_missesSome_145 (pc' := 147) rfl rfl ?_
              refine x_iastore C hf dX2_missesSome_147 (pc' := 148) rfl (fun h13 _ hf => ?_)
              refine x_aload_n C dX2_missesSome_148 (pc' := 149) rfl rfl rfl ?_
              refine x_getR C (ci := 2) (kf := 0) rfl (by decide) hinX2_missesSome_X2 lkX2_missesSome_1 rfl hf dX2_missesSome_149 (pc' := 152) rfl (fun v14 _ hf => ?_)
              refine x_iload_n C dX2_missesSome_152 (pc' := 153) rfl rfl rfl ?_
              refine x_iload C dX2_missesSome_153 (pc' := 155) rfl rfl ?_
              refine x_iastore C hf dX2_missesSome_155 (pc' := 156) rfl (fun h15 _ hf => ?_)
              refine x_iinc C dX2_missesSome_156 (pc' := 159) rfl rfl (v := (i2 + 1)) rfl (by decide) rfl (lv' := [some (vR a0), some (vR a1), some (vI (i2 + 1)), some (vI i3), some (vI i4), some (vI r4)]) rfl ?_
              refine x_keep [true, true, true, true, true, false] rfl ?_
              refine x_more (k' := 0) (n' := 0) (Nat.le_of_ble_eq_true rfl) (Nat.le_of_ble_eq_true rfl) ?_
              exact mX2_missesSome_b159 C hr hlk hnm w56 hw56 (fX2_missesSome_w71 w56 n) ih a0 a1 (i2 + 1) i3 i4 h15 hf
            ·
              refine x_keep [true, true, true, true, true, false] rfl ?_
              refine x_more (k' := 0) (n' := 0) (Nat.le_of_ble_eq_true rfl) (Nat.le_of_ble_eq_true rfl) ?_
              exact mX2_missesSome_b159 C hr hlk hnm w56 hw56 (fX2_missesSome_w71 w56 n) ih a0 a1 i2 i3 i4 h5 hf
def fX2_missesSome_w56 : Nat → Nat → Nat → Int32 → Int32 → Hp → Option (Int32 × Hp)
  | 0 => fun _ _ _ _ _ => none
  | n + 1 => fun a0 a1 i2 i3 h => if i2 ≤ i3 then (retZ (0 : Int32) h) else (if (512 : Int32) ≤ i3 then (retZ (0 : Int32) h) else (fX2_missesSome_w71 (fX2_missesSome_w56 n) FUEL a0 a1 i2 i3 (0 : Int32) h))
set_option maxHeartbeats 4000000 in
set_option maxRecDepth 100000 in
theorem mX2_missesSome_w56 {g : XG} {p : Program} {l : Launch} {e : Env} {s : State} {m : MethodId} {args : Array Value} {below : List Frame} {meth : Method} {c : Code} (C : x_C g p s m args c cX2_missesSome RX2 6 wsX2_missesSome) (hr : meth.sig.returnType = (some .boolean)) (hlk : meth.locks = false) (hnm : meth.name = yX2_missesSome.name) {res : Int32 × Hp} : ∀ (n : Nat) (a0 : Nat) (a1 : Nat) (i2 : Int32) (i3 : Int32) (h : Hp), fX2_missesSome_w56 n a0 a1 i2 i3 h = some res → XW g p l e { frames := 2, cells := 0, slots := 0, locals := 46 } s m args below meth c (MQ below (x_Q g (some (vI res.1)) res.2) args s 0 0 (x_A g)) 6 0 0 h 56 [some (vR a0), some (vR a1), some (vI i2), some (vI i3), none, none] [] := by
  intro n
  induction n with
  | zero =>
    intro a0 a1 i2 i3 h hf
    have hf2 : (none : Option (Int32 × Hp)) = some res := hf
    cases hf2
  | succ n ih =>
    intro a0 a1 i2 i3 h hf
    rw [fX2_missesSome_w56] at hf
    refine x_iload_n C dX2_missesSome_56 (pc' := 57) rfl rfl rfl ?_
    refine x_iload_n C dX2_missesSome_57 (pc' := 58) rfl rfl rfl ?_
    refine x_icmp_ge C hf dX2_missesSome_58 (pc' := 61) rfl (tgt := 183) (by decide) (fun _ hf => ?_) (fun _ hf => ?_)
    ·
      refine x_iconst C (v := 0) (by decide) dX2_missesSome_183 (pc' := 184) rfl ?_
      exact x_zret C hf hr hlk dX2_missesSome_184
    ·
      refine x_iload_n C dX2_missesSome_61 (pc' := 62) rfl rfl rfl ?_
      refine x_sipush C (v := 512) (by decide) dX2_missesSome_62 (pc' := 65) rfl ?_
      refine x_icmp_ge C hf dX2_missesSome_65 (pc' := 68) rfl (tgt := 183) (by decide) (fun _ hf => ?_) (fun _ hf => ?_)
      ·
        refine x_iconst C (v := 0) (by decide) dX2_missesSome_183 (pc' := 184) rfl ?_
        exact x_zret C hf hr hlk dX2_missesSome_184
      ·
        refine x_iconst C (v := 0) (by decide) dX2_missesSome_68 (pc' := 69) rfl ?_
        refine x_istore C dX2_missesSome_69 (pc' := 71) rfl (by decide) rfl (lv' := [some (vR a0), some (vR a1), some (vI i2), some (vI i3), some (vI (0 : Int32)), none]) rfl ?_
        refine x_more (k' := 0) (n' := 0) (Nat.le_of_ble_eq_true rfl) (Nat.le_of_ble_eq_true rfl) ?_
        exact mX2_missesSome_w71 C hr hlk hnm (fX2_missesSome_w56 n) ih FUEL a0 a1 i2 i3 (0 : Int32) h hf
def fX2_missesSome (h : Hp) (a0 : Nat) (a1 : Nat) : Option (Int32 × Hp) := (oK h a0 2 (fX2_learn h a0 a1)).bind fun h2 => (gI h2 a1 1 3).bind fun v3 => (pF h2 a0 2 4 (vI ((((1 : Int32) <<< (v3 &&& 31)) - (1 : Int32)) &&& (511 : Int32)))).bind fun h4 => (gR h4 a0 2 1).bind fun v5 => (fJ7_fill_53178 h4 v5 (-1 : Int32)).bind fun h7 => (gR h7 a0 2 0).bind fun v8 => (gI h7 a0 2 4).bind fun v9 => (sI h7 v8 0 (0 : Int32) v9).bind fun h10 => (gR h10 a0 2 1).bind fun v11 => (gI h10 a0 2 4).bind fun v12 => (gI h10 a0 2 4).bind fun v13 => (sI h10 v11 0 v12 v13).bind fun h14 => fX2_missesSome_w56 FUEL a0 a1 (1 : Int32) (0 : Int32) h14
set_option maxHeartbeats 4000000 in
set_option maxRecDepth 100000 in
theorem mX2_missesSome {l : Launch} {g : XG} {h : Hp} {a0 : Nat} {a1 : Nat} {res : Int32 × Hp} (hf : fX2_missesSome h a0 a1 = some res) : XM l g yX2_missesSome wsX2_missesSome 2 46 0 0 [vR a0, vR a1] h (some (vI res.1)) res.2 := by
  refine x_start (cc := cX2_missesSome) (maxL := 6) (ret := (some .boolean)) (by decide) rfl (Nat.le_of_ble_eq_true rfl) (lv := [some (vR a0), some (vR a1), none, none, none, none]) rfl ?_
  intro p e s m args below meth c C hr hlk hnm
  unfold fX2_missesSome at hf
  refine x_aload_n C dX2_missesSome_0 (pc' := 1) rfl rfl rfl ?_
  refine x_aload_n C dX2_missesSome_1 (pc' := 2) rfl rfl rfl ?_
  obtain ⟨h2, hq, hf⟩ := bind_some hf
  obtain ⟨hob, hq⟩ := oK_some hq
  refine x_callV C (As := [vR a1]) (st := []) (r := none) (h' := h2) (mc := 0) (ms := 0) (k := 0) (n := 0) (mX2_learn hq) hob (ci := 2) rfl (cwV 1 C.1.2.2.2.2 gX2_missesSome_X2_learn rfl rfl rfl (by decide +kernel) ⟨Nat.le_of_ble_eq_true rfl, Nat.le_of_ble_eq_true rfl⟩) rfl rfl (Nat.le_of_ble_eq_true rfl) dX2_missesSome_2 (pc' := 5) rfl ?_
  refine x_aload_n C dX2_missesSome_5 (pc' := 6) rfl rfl rfl ?_
  refine x_iconst C (v := 1) (by decide) dX2_missesSome_6 (pc' := 7) rfl ?_
  refine x_aload_n C dX2_missesSome_7 (pc' := 8) rfl rfl rfl ?_
  refine x_getIN C (ci := 1) (kf := 3) rfl (by decide) hinX2_missesSome_X1 (List.mem_of_getElem? (i := 11) rfl) rfl hf dX2_missesSome_8 (pc' := 11) rfl (fun v3 _ hf => ?_)
  refine x_ishl C dX2_missesSome_11 (pc' := 12) rfl ?_
  refine x_iconst C (v := 1) (by decide) dX2_missesSome_12 (pc' := 13) rfl ?_
  refine x_isub C dX2_missesSome_13 (pc' := 14) rfl ?_
  refine x_sipush C (v := 511) (by decide) dX2_missesSome_14 (pc' := 17) rfl ?_
  refine x_iand C dX2_missesSome_17 (pc' := 18) rfl ?_
  refine x_put C (ci := 2) (kf := 4) rfl (by decide) hinX2_missesSome_X2 tyX2 tyX2_ok nmX2 lkX2_missesSome_3 rfl (Or.inl rfl) rfl hf dX2_missesSome_18 (pc' := 21) rfl (fun h4 _ hf => ?_)
  refine x_aload_n C dX2_missesSome_21 (pc' := 22) rfl rfl rfl ?_
  refine x_getR C (ci := 2) (kf := 1) rfl (by decide) hinX2_missesSome_X2 lkX2_missesSome_0 rfl hf dX2_missesSome_22 (pc' := 25) rfl (fun v5 _ hf => ?_)
  refine x_iconst C (v := -1) (by decide) dX2_missesSome_25 (pc' := 26) rfl ?_
  obtain ⟨h7, hq, hf⟩ := bind_some hf
  refine x_callS C (As := [vR v5, vI (-1 : Int32)]) (st := []) (r := none) (h' := h7) (mc := 0) (ms := 0) (k := 0) (n := 0) (mJ7_fill_53178 hq) (va_cwS 2 C.1.2.2.2.2 gX2_missesSome_J7_fill_53178 rfl rfl rfl (by decide +kernel) ⟨Nat.le_of_ble_eq_true rfl, Nat.le_of_ble_eq_true rfl⟩) rfl rfl (Nat.le_of_ble_eq_true rfl) dX2_missesSome_26 (pc' := 29) rfl ?_
  refine x_aload_n C dX2_missesSome_29 (pc' := 30) rfl rfl rfl ?_
  refine x_getR C (ci := 2) (kf := 0) rfl (by decide) hinX2_missesSome_X2 lkX2_missesSome_1 rfl hf dX2_missesSome_30 (pc' := 33) rfl (fun v8 _ hf => ?_)
  refine x_iconst C (v := 0) (by decide) dX2_missesSome_33 (pc' := 34) rfl ?_
  refine x_aload_n C dX2_missesSome_34 (pc' := 35) rfl rfl rfl ?_
  refine x_getI C (ci := 2) (kf := 4) rfl (by decide) hinX2_missesSome_X2 lkX2_missesSome_3 rfl hf dX2_missesSome_35 (pc' := 38) rfl (fun v9 _ hf => ?_)
  refine x_iastore C hf dX2_missesSome_38 (pc' := 39) rfl (fun h10 _ hf => ?_)
  refine x_aload_n C dX2_missesSome_39 (pc' := 40) rfl rfl rfl ?_
  refine x_getR C (ci := 2) (kf := 1) rfl (by decide) hinX2_missesSome_X2 lkX2_missesSome_0 rfl hf dX2_missesSome_40 (pc' := 43) rfl (fun v11 _ hf => ?_)
  refine x_aload_n C dX2_missesSome_43 (pc' := 44) rfl rfl rfl ?_
  refine x_getI C (ci := 2) (kf := 4) rfl (by decide) hinX2_missesSome_X2 lkX2_missesSome_3 rfl hf dX2_missesSome_44 (pc' := 47) rfl (fun v12 _ hf => ?_)
  refine x_aload_n C dX2_missesSome_47 (pc' := 48) rfl rfl rfl ?_
  refine x_getI C (ci := 2) (kf := 4) rfl (by decide) hinX2_missesSome_X2 lkX2_missesSome_3 rfl hf dX2_missesSome_48 (pc' := 51) rfl (fun v13 _ hf => ?_)
  refine x_iastore C hf dX2_missesSome_51 (pc' := 52) rfl (fun h14 _ hf => ?_)
  refine x_iconst C (v := 1) (by decide) dX2_missesSome_52 (pc' := 53) rfl ?_
  refine x_istore_n C dX2_missesSome_53 (pc' := 54) rfl rfl (by decide) rfl (lv' := [some (vR a0), some (vR a1), some (vI (1 : Int32)), none, none, none]) rfl ?_
  refine x_iconst C (v := 0) (by decide) dX2_missesSome_54 (pc' := 55) rfl ?_
  refine x_istore_n C dX2_missesSome_55 (pc' := 56) rfl rfl (by decide) rfl (lv' := [some (vR a0), some (vR a1), some (vI (1 : Int32)), some (vI (0 : Int32)), none, none]) rfl ?_
  refine x_more (k' := 0) (n' := 0) (Nat.le_of_ble_eq_true rfl) (Nat.le_of_ble_eq_true rfl) ?_
  exact mX2_missesSome_w56 C hr hlk hnm FUEL a0 a1 (1 : Int32) (0 : Int32) h14 hf

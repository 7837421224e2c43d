-- ===== X5_init
theorem lkX5_init_0 : Cond.methodLink RX5 3 objectInit ∈ wsX5_init := by decide +kernel
theorem lkX5_init_1 : Cond.instanceMethod objectInit ∈ wsX5_init := by decide +kernel
theorem lkX5_init_2 : Cond.code objectInit ⟨#[0xb1]⟩ 1 none ∈ wsX5_init := by decide +kernel
theorem lkX5_init_3 : Cond.arrayClass .long ∈ wsX5_init := by decide +kernel
theorem lkX5_init_4 : Cond.fieldLink RX5 9 "MossRings$Walks" "ways" "[J" ∈ wsX5_init := by decide +kernel
theorem hinX5_init_X5 : ∀ w ∈ u_ws RX5 TX5 3, w ∈ wsX5_init := by decide +kernel
def fX5_init (h : Hp) (a0 : Nat) : Option (Hp) := if a0 = 0 then none else (mkL h 189 (189 : Int32) fun q1 h2 => (pF h2 a0 5 0 (vR q1)).bind fun h3 => some h3)
set_option maxHeartbeats 4000000 in
set_option maxRecDepth 100000 in
theorem mX5_init {l : Launch} {g : XG} {h : Hp} {a0 : Nat} {res : Hp} (hf : fX5_init h a0 = some res) : XM l g yX5_init wsX5_init 1 12 1 189 [vR a0] h none res := by
  refine x_start (cc := cX5_init) (maxL := 1) (ret := none) (by decide) rfl (Nat.le_of_ble_eq_true rfl) (lv := [some (vR a0)]) rfl ?_
  intro p e s m args below meth c C hr hlk hnm
  unfold fX5_init at hf
  refine x_aload_n C dX5_init_0 (pc' := 1) rfl rfl rfl ?_
  refine x_objInit C lkX5_init_0 lkX5_init_1 lkX5_init_2 (Nat.le_of_ble_eq_true rfl) (Nat.le_of_ble_eq_true rfl) hf dX5_init_1 (pc' := 4) rfl (fun hf => ?_)
  refine x_aload_n C dX5_init_4 (pc' := 5) rfl rfl rfl ?_
  refine x_sipush C (v := 189) (by decide) dX5_init_5 (pc' := 8) rfl ?_
  refine x_newL C (k := 0) (n := 0) lkX5_init_3 (by decide) hf dX5_init_8 (pc' := 10) rfl (fun q1 h2 _ _ _ _ hf => ?_)
  refine x_put C (ci := 5) (kf := 0) rfl (by decide) hinX5_init_X5 tyX5 tyX5_ok nmX5 lkX5_init_4 rfl (Or.inr ⟨rfl, hnm, rfl⟩) rfl hf dX5_init_10 (pc' := 13) rfl (fun h3 _ hf => ?_)
  cases hf
  exact x_vret C hr hlk dX5_init_13
-- ===== X5_waysFrom
theorem lkX5_waysFrom_0 : Cond.fieldLink RX5 9 "MossRings$Walks" "ways" "[J" ∈ wsX5_waysFrom := by decide +kernel
theorem hinX5_waysFrom_X5 : ∀ w ∈ u_ws RX5 TX5 3, w ∈ wsX5_waysFrom := by decide +kernel
def fX5_waysFrom (h : Hp) (a0 : Nat) (i1 : Int32) (i2 : Int32) : Option (Int64 × Hp) := setv (((i1 * (9 : Int32)) + i2)) fun v1 => if v1 < 0 then (some ((0 : Int64), h)) else ((gR h a0 5 0).bind fun v2 => (aN h v2).bind fun v3 => if v3 ≤ v1 then (some ((0 : Int64), h)) else ((gR h a0 5 0).bind fun v4 => (aL h v4 v1).bind fun v5 => some (v5, h)))
set_option maxHeartbeats 4000000 in
set_option maxRecDepth 100000 in
theorem mX5_waysFrom {l : Launch} {g : XG} {h : Hp} {a0 : Nat} {i1 : Int32} {i2 : Int32} {res : Int64 × Hp} (hf : fX5_waysFrom h a0 i1 i2 = some res) : XM l g yX5_waysFrom wsX5_waysFrom 0 0 0 0 [vR a0, vI i1, vI i2] h (some (vL res.1)) res.2 := by
  refine x_start (cc := cX5_waysFrom) (maxL := 4) (ret := (some .long)) (by decide) rfl (Nat.le_of_ble_eq_true rfl) (lv := [some (vR a0), some (vI i1), some (vI i2), none]) rfl ?_
  intro p e s m args below meth c C hr hlk hnm
  unfold fX5_waysFrom at hf
  refine x_iload_n C dX5_waysFrom_0 (pc' := 1) rfl rfl rfl ?_
  refine x_bipush C (v := 9) (by decide) dX5_waysFrom_1 (pc' := 3) rfl ?_
  refine x_imul C dX5_waysFrom_3 (pc' := 4) rfl ?_
  refine x_iload_n C dX5_waysFrom_4 (pc' := 5) rfl rfl rfl ?_
  refine x_iadd C dX5_waysFrom_5 (pc' := 6) rfl ?_
  refine x_nameI hf (fun v1 _ hf => ?_)
  refine x_istore_n C dX5_waysFrom_6 (pc' := 7) rfl rfl (by decide) rfl (lv' := [some (vR a0), some (vI i1), some (vI i2), some (vI v1)]) rfl ?_
  refine x_iload_n C dX5_waysFrom_7 (pc' := 8) rfl rfl rfl ?_
  refine x_if_lt C hf dX5_waysFrom_8 (pc' := 11) rfl (tgt := 29) (by decide) (fun _ hf => ?_) (fun _ hf => ?_)
  ·
    refine x_lconst C (v := 0) (by decide) dX5_waysFrom_29 (pc' := 30) rfl ?_
    cases hf
    exact x_lret C hr hlk dX5_waysFrom_30
  ·
    refine x_iload_n C dX5_waysFrom_11 (pc' := 12) rfl rfl rfl ?_
    refine x_aload_n C dX5_waysFrom_12 (pc' := 13) rfl rfl rfl ?_
    refine x_getR C (ci := 5) (kf := 0) rfl (by decide) hinX5_waysFrom_X5 lkX5_waysFrom_0 rfl hf dX5_waysFrom_13 (pc' := 16) rfl (fun v2 _ hf => ?_)
    refine x_alen C hf dX5_waysFrom_16 (pc' := 17) rfl (fun v3 _ hf => ?_)
    refine x_icmp_ge C hf dX5_waysFrom_17 (pc' := 20) rfl (tgt := 29) (by decide) (fun _ hf => ?_) (fun _ hf => ?_)
    ·
      refine x_lconst C (v := 0) (by decide) dX5_waysFrom_29 (pc' := 30) rfl ?_
      cases hf
      exact x_lret C hr hlk dX5_waysFrom_30
    ·
      refine x_aload_n C dX5_waysFrom_20 (pc' := 21) rfl rfl rfl ?_
      refine x_getR C (ci := 5) (kf := 0) rfl (by decide) hinX5_waysFrom_X5 lkX5_waysFrom_0 rfl hf dX5_waysFrom_21 (pc' := 24) rfl (fun v4 _ hf => ?_)
      refine x_iload_n C dX5_waysFrom_24 (pc' := 25) rfl rfl rfl ?_
      refine x_laload C hf dX5_waysFrom_25 (pc' := 26) rfl (fun v5 _ hf => ?_)
      refine x_goto C dX5_waysFrom_26 (tgt := 30) (by decide) ?_
      cases hf
      exact x_lret C hr hlk dX5_waysFrom_30
-- ===== X5_putWays
theorem lkX5_putWays_0 : Cond.fieldLink RX5 9 "MossRings$Walks" "ways" "[J" ∈ wsX5_putWays := by decide +kernel
theorem hinX5_putWays_X5 : ∀ w ∈ u_ws RX5 TX5 3, w ∈ wsX5_putWays := by decide +kernel
def fX5_putWays (h : Hp) (a0 : Nat) (i1 : Int32) (i2 : Int32) (j3 : Int64) : Option (Hp) := setv (((i1 * (9 : Int32)) + i2)) fun v1 => if v1 < 0 then (some h) else ((gR h a0 5 0).bind fun v2 => (aN h v2).bind fun v3 => if v3 ≤ v1 then (some h) else ((gR h a0 5 0).bind fun v4 => (sL h v4 v1 j3).bind fun h5 => some h5))
set_option maxHeartbeats 4000000 in
set_option maxRecDepth 100000 in
theorem mX5_putWays {l : Launch} {g : XG} {h : Hp} {a0 : Nat} {i1 : Int32} {i2 : Int32} {j3 : Int64} {res : Hp} (hf : fX5_putWays h a0 i1 i2 j3 = some res) : XM l g yX5_putWays wsX5_putWays 0 0 0 0 [vR a0, vI i1, vI i2, vL j3] h none res := by
  refine x_start (cc := cX5_putWays) (maxL := 6) (ret := none) (by decide) rfl (Nat.le_of_ble_eq_true rfl) (lv := [some (vR a0), some (vI i1), some (vI i2), some (vL j3), none, none]) rfl ?_
  intro p e s m args below meth c C hr hlk hnm
  unfold fX5_putWays at hf
  refine x_iload_n C dX5_putWays_0 (pc' := 1) rfl rfl rfl ?_
  refine x_bipush C (v := 9) (by decide) dX5_putWays_1 (pc' := 3) rfl ?_
  refine x_imul C dX5_putWays_3 (pc' := 4) rfl ?_
  refine x_iload_n C dX5_putWays_4 (pc' := 5) rfl rfl rfl ?_
  refine x_iadd C dX5_putWays_5 (pc' := 6) rfl ?_
  refine x_nameI hf (fun v1 _ hf => ?_)
  refine x_istore C dX5_putWays_6 (pc' := 8) rfl (by decide) rfl (lv' := [some (vR a0), some (vI i1), some (vI i2), some (vL j3), none, some (vI v1)]) rfl ?_
  refine x_iload C dX5_putWays_8 (pc' := 10) rfl rfl ?_
  refine x_if_lt C hf dX5_putWays_10 (pc' := 13) rfl (tgt := 31) (by decide) (fun _ hf => ?_) (fun _ hf => ?_)
  ·
    cases hf
    exact x_vret C hr hlk dX5_putWays_31
  ·
    refine x_iload C dX5_putWays_13 (pc' := 15) rfl rfl ?_
    refine x_aload_n C dX5_putWays_15 (pc' := 16) rfl rfl rfl ?_
    refine x_getR C (ci := 5) (kf := 0) rfl (by decide) hinX5_putWays_X5 lkX5_putWays_0 rfl hf dX5_putWays_16 (pc' := 19) rfl (fun v2 _ hf => ?_)
    refine x_alen C hf dX5_putWays_19 (pc' := 20) rfl (fun v3 _ hf => ?_)
    refine x_icmp_ge C hf dX5_putWays_20 (pc' := 23) rfl (tgt := 31) (by decide) (fun _ hf => ?_) (fun _ hf => ?_)
    ·
      cases hf
      exact x_vret C hr hlk dX5_putWays_31
    ·
      refine x_aload_n C dX5_putWays_23 (pc' := 24) rfl rfl rfl ?_
      refine x_getR C (ci := 5) (kf := 0) rfl (by decide) hinX5_putWays_X5 lkX5_putWays_0 rfl hf dX5_putWays_24 (pc' := 27) rfl (fun v4 _ hf => ?_)
      refine x_iload C dX5_putWays_27 (pc' := 29) rfl rfl ?_
      refine x_lload_n C dX5_putWays_29 (pc' := 30) rfl rfl rfl ?_
      refine x_lastore C hf dX5_putWays_30 (pc' := 31) rfl (fun h5 _ hf => ?_)
      cases hf
      exact x_vret C hr hlk dX5_putWays_31
-- ===== X5_waysOver
theorem lkX5_waysOver_0 : Cond.fieldLink RX5 15 "MossRings$Walks" "rule" "LMossRings$Rule;" ∈ wsX5_waysOver := by decide +kernel
theorem hinX5_waysOver_X5 : ∀ w ∈ u_ws RX5 TX5 3, w ∈ wsX5_waysOver := by decide +kernel
theorem hinX5_waysOver_X1 : ∀ w ∈ u_ws RX1 TX1 5, w ∈ wsX5_waysOver := by decide +kernel
def fX5_waysOver_b67 (w6 : Nat → Int32 → Int32 → Int32 → Int64 → Int32 → Hp → Option (Int64 × Hp)) (a0 : Nat) (i1 : Int32) (i2 : Int32) (i3 : Int32) (j4 : Int64) (i6 : Int32) (h : Hp) : Option (Int64 × Hp) := w6 a0 i1 i2 i3 j4 (i6 + 1) h
set_option maxHeartbeats 4000000 in
set_option maxRecDepth 100000 in
theorem mX5_waysOver_b67 {g : XG} {p : Program} {l : Launch} {e : Env} {s : State} {m : MethodId} {args : Array Value} {below : List Frame} {meth : Method} {c : Code} (C : x_C g p s m args c cX5_waysOver RX5 8 wsX5_waysOver) (hr : meth.sig.returnType = (some .long)) (hlk : meth.locks = false) (hnm : meth.name = yX5_waysOver.name) {res : Int64 × Hp} (w6 : Nat → Int32 → Int32 → Int32 → Int64 → Int32 → Hp → Option (Int64 × Hp)) (hw6 : ∀ (a0 : Nat) (i1 : Int32) (i2 : Int32) (i3 : Int32) (j4 : Int64) (i6 : Int32) (h : Hp), w6 a0 i1 i2 i3 j4 i6 h = some res → XW g p l e { frames := 1, cells := 0, slots := 0, locals := 23 } s m args below meth c (MQ below (x_Q g (some (vL res.1)) res.2) args s 0 0 (x_A g)) 8 0 0 h 6 [some (vR a0), some (vI i1), some (vI i2), some (vI i3), some (vL j4), none, some (vI i6), none] []) (a0 : Nat) (i1 : Int32) (i2 : Int32) (i3 : Int32) (j4 : Int64) (i6 : Int32) (h : Hp) (hf : fX5_waysOver_b67 w6 a0 i1 i2 i3 j4 i6 h = some res) : XW g p l e { frames := 1, cells := 0, slots := 0, locals := 23 } s m args below meth c (MQ below (x_Q g (some (vL res.1)) res.2) args s 0 0 (x_A g)) 8 0 0 h 67 [some (vR a0), some (vI i1), some (vI i2), some (vI i3), some (vL j4), none, some (vI i6), none] [] := by
  unfold fX5_waysOver_b67 at hf
  refine x_iinc C dX5_waysOver_67 (pc' := 70) rfl rfl (v := (i6 + 1)) rfl (by decide) rfl (lv' := [some (vR a0), some (vI i1), some (vI i2), some (vI i3), some (vL j4), none, some (vI (i6 + 1)), none]) rfl ?_
  refine x_goto C dX5_waysOver_70 (tgt := 6) (by decide) ?_
  exact hw6 a0 i1 i2 i3 j4 (i6 + 1) h hf
def fX5_waysOver_w6 : Nat → Nat → Int32 → Int32 → Int32 → Int64 → Int32 → Hp → Option (Int64 × Hp)
  | 0 => fun _ _ _ _ _ _ _ => none
  | n + 1 => fun a0 i1 i2 i3 j4 i6 h => (gR h a0 5 1).bind fun v1 => (gI h v1 1 0).bind fun v2 => if v2 ≤ i6 then (some (j4, h)) else ((gR h a0 5 1).bind fun v3 => (gI h v3 1 0).bind fun v4 => setv (((i2 * v4) + i6)) fun v5 => (gR h a0 5 1).bind fun v6 => call (oK h v6 1 (fX1_tells h v6 v5)) fun r7 h8 => if r7 = i3 then ((gR h8 a0 5 1).bind fun v9 => (gI h8 v9 1 3).bind fun v10 => iRem v5 v10 fun v11 => call (oK h8 a0 5 (fX5_waysFrom h8 a0 (i1 + (1 : Int32)) v11)) fun r12 h13 => setv ((j4 + r12)) fun v14 => fX5_waysOver_b67 (fX5_waysOver_w6 n) a0 i1 i2 i3 v14 i6 h13) else (fX5_waysOver_b67 (fX5_waysOver_w6 n) a0 i1 i2 i3 j4 i6 h8))
set_option maxHeartbeats 4000000 in
set_option maxRecDepth 100000 in
theorem mX5_waysOver_w6 {g : XG} {p : Program} {l : Launch} {e : Env} {s : State} {m : MethodId} {args : Array Value} {below : List Frame} {meth : Method} {c : Code} (C : x_C g p s m args c cX5_waysOver RX5 8 wsX5_waysOver) (hr : meth.sig.returnType = (some .long)) (hlk : meth.locks = false) (hnm : meth.name = yX5_waysOver.name) {res : Int64 × Hp} : ∀ (n : Nat) (a0 : Nat) (i1 : Int32) (i2 : Int32) (i3 : Int32) (j4 : Int64) (i6 : Int32) (h : Hp), fX5_waysOver_w6 n a0 i1 i2 i3 j4 i6 h = some res → XW g p l e { frames := 1, cells := 0, slots := 0, locals := 23 } s m args below meth c (MQ below (x_Q g (some (vL res.1)) res.2) args s 0 0 (x_A g)) 8 0 0 h 6 [some (vR a0), some (vI i1), some (vI i2), some (vI i3), some (vL j4), none, some (vI i6), none] [] := by
  intro n
  induction n with
  | zero =>
    intro a0 i1 i2 i3 j4 i6 h hf
    have hf2 : (none : Option (Int64 × Hp)) = some res := hf
    cases hf2
  | succ n ih =>
    intro a0 i1 i2 i3 j4 i6 h hf
    rw [fX5_waysOver_w6] at hf
    refine x_iload C dX5_waysOver_6 (pc' := 8) rfl rfl ?_
    refine x_aload_n C dX5_waysOver_8 (pc' := 9) rfl rfl rfl ?_
    refine x_getR C (ci := 5) (kf := 1) rfl (by decide) hinX5_waysOver_X5 lkX5_waysOver_0 rfl hf dX5_waysOver_9 (pc' := 12) rfl (fun v1 _ hf => ?_)
    refine x_getIN C (ci := 1) (kf := 0) rfl (by decide) hinX5_waysOver_X1 (List.mem_of_getElem? (i := 3) rfl) rfl hf dX5_waysOver_12 (pc' := 15) rfl (fun v2 _ hf => ?_)
    refine x_icmp_ge C hf dX5_waysOver_15 (pc' := 18) rfl (tgt := 73) (by decide) (fun _ hf => ?_) (fun _ hf => ?_)
    ·
      refine x_lload C dX5_waysOver_73 (pc' := 75) rfl rfl ?_
      cases hf
      exact x_lret C hr hlk dX5_waysOver_75
    ·
      refine x_iload_n C dX5_waysOver_18 (pc' := 19) rfl rfl rfl ?_
      refine x_aload_n C dX5_waysOver_19 (pc' := 20) rfl rfl rfl ?_
      refine x_getR C (ci := 5) (kf := 1) rfl (by decide) hinX5_waysOver_X5 lkX5_waysOver_0 rfl hf dX5_waysOver_20 (pc' := 23) rfl (fun v3 _ hf => ?_)
      refine x_getIN C (ci := 1) (kf := 0) rfl (by decide) hinX5_waysOver_X1 (List.mem_of_getElem? (i := 3) rfl) rfl hf dX5_waysOver_23 (pc' := 26) rfl (fun v4 _ hf => ?_)
      refine x_imul C dX5_waysOver_26 (pc' := 27) rfl ?_
      refine x_iload C dX5_waysOver_27 (pc' := 29) rfl rfl ?_
      refine x_iadd C dX5_waysOver_29 (pc' := 30) rfl ?_
      refine x_nameI hf (fun v5 _ hf => ?_)
      refine x_istore C dX5_waysOver_30 (pc' := 32) rfl (by decide) rfl (lv' := [some (vR a0), some (vI i1), some (vI i2), some (vI i3), some (vL j4), none, some (vI i6), some (vI v5)]) rfl ?_
      refine x_aload_n C dX5_waysOver_32 (pc' := 33) rfl rfl rfl ?_
      refine x_getR C (ci := 5) (kf := 1) rfl (by decide) hinX5_waysOver_X5 lkX5_waysOver_0 rfl hf dX5_waysOver_33 (pc' := 36) rfl (fun v6 _ hf => ?_)
      refine x_iload C dX5_waysOver_36 (pc' := 38) rfl rfl ?_
      obtain ⟨r7, h8, hq, hf⟩ := call_some hf
      obtain ⟨hob, hq⟩ := oK_some hq
      refine x_callV C (As := [vI v5]) (st := []) (r := (some (vI r7))) (h' := h8) (mc := 0) (ms := 0) (k := 0) (n := 0) (mX1_tells hq) hob (ci := 1) rfl (cwV 1 C.1.2.2.2.2 gX5_waysOver_X1_tells rfl rfl rfl (by decide +kernel) ⟨Nat.le_of_ble_eq_true rfl, Nat.le_of_ble_eq_true rfl⟩) rfl rfl (Nat.le_of_ble_eq_true rfl) dX5_waysOver_38 (pc' := 41) rfl ?_
      refine x_iload_n C dX5_waysOver_41 (pc' := 42) rfl rfl rfl ?_
      refine x_icmp_ne C hf dX5_waysOver_42 (pc' := 45) rfl (tgt := 67) (by decide) (fun _ hf => ?_) (fun _ hf => ?_)
      ·
        refine x_lload C dX5_waysOver_45 (pc' := 47) rfl rfl ?_
        refine x_aload_n C dX5_waysOver_47 (pc' := 48) rfl rfl rfl ?_
        refine x_iload_n C dX5_waysOver_48 (pc' := 49) rfl rfl rfl ?_
        refine x_iconst C (v := 1) (by decide) dX5_waysOver_49 (pc' := 50) rfl ?_
        refine x_iadd C dX5_waysOver_50 (pc' := 51) rfl ?_
        refine x_iload C dX5_waysOver_51 (pc' := 53) rfl rfl ?_
        refine x_aload_n C dX5_waysOver_53 (pc' := 54) rfl rfl rfl ?_
        refine x_getR C (ci := 5) (kf := 1) rfl (by decide) hinX5_waysOver_X5 lkX5_waysOver_0 rfl hf dX5_waysOver_54 (pc' := 57) rfl (fun v9 _ hf => ?_)
        refine x_getIN C (ci := 1) (kf := 3) rfl (by decide) hinX5_waysOver_X1 (List.mem_of_getElem? (i := 12) rfl) rfl hf dX5_waysOver_57 (pc' := 60) rfl (fun v10 _ hf => ?_)
        refine x_irem C hf dX5_waysOver_60 (pc' := 61) rfl (fun _ v11 _ hf => ?_)
        obtain ⟨r12, h13, hq, hf⟩ := call_some hf
        obtain ⟨hob, hq⟩ := oK_some hq
        refine x_callV C (As := [vI (i1 + (1 : Int32)), vI v11]) (st := [vL j4]) (r := (some (vL r12))) (h' := h13) (mc := 0) (ms := 0) (k := 0) (n := 0) (mX5_waysFrom hq) hob (ci := 5) rfl (cwV 2 C.1.2.2.2.2 gX5_waysOver_X5_waysFrom rfl rfl rfl (by decide +kernel) ⟨Nat.le_of_ble_eq_true rfl, Nat.le_of_ble_eq_true rfl⟩) rfl rfl (Nat.le_of_ble_eq_true rfl) dX5_waysOver_61 (pc' := 64) rfl ?_
        refine x_ladd C dX5_waysOver_64 (pc' := 65) rfl ?_
        refine x_nameL hf (fun v14 _ hf => ?_)
        refine x_lstore C dX5_waysOver_65 (pc' := 67) rfl (by decide) rfl (lv' := [some (vR a0), some (vI i1), some (vI i2), some (vI i3), some (vL v14), none, some (vI i6), some (vI v5)]) rfl ?_
        refine x_keep [true, true, true, true, true, false, true, false] rfl ?_
        refine x_more (k' := 0) (n' := 0) (Nat.le_of_ble_eq_true rfl) (Nat.le_of_ble_eq_true rfl) ?_
        exact mX5_waysOver_b67 C hr hlk hnm (fX5_waysOver_w6 n) ih a0 i1 i2 i3 v14 i6 h13 hf
      ·
        refine x_keep [true, true, true, true, true, false, true, false] rfl ?_
        refine x_more (k' := 0) (n' := 0) (Nat.le_of_ble_eq_true rfl) (Nat.le_of_ble_eq_true rfl) ?_
        exact mX5_waysOver_b67 C hr hlk hnm (fX5_waysOver_w6 n) ih a0 i1 i2 i3 j4 i6 h8 hf
def fX5_waysOver (h : Hp) (a0 : Nat) (i1 : Int32) (i2 : Int32) (i3 : Int32) : Option (Int64 × Hp) := fX5_waysOver_w6 FUEL a0 i1 i2 i3 (0 : Int64) (0 : Int32) h
set_option maxHeartbeats 4000000 in
set_option maxRecDepth 100000 in
theorem mX5_waysOver {l : Launch} {g : XG} {h : Hp} {a0 : Nat} {i1 : Int32} {i2 : Int32} {i3 : Int32} {res : Int64 × Hp} (hf : fX5_waysOver h a0 i1 i2 i3 = some res) : XM l g yX5_waysOver wsX5_waysOver 1 23 0 0 [vR a0, vI i1, vI i2, vI i3] h (some (vL res.1)) res.2 := by
  refine x_start (cc := cX5_waysOver) (maxL := 8) (ret := (some .long)) (by decide) rfl (Nat.le_of_ble_eq_true rfl) (lv := [some (vR a0), some (vI i1), some (vI i2), some (vI i3), none, none, none, none]) rfl ?_
  intro p e s m args below meth c C hr hlk hnm
  unfold fX5_waysOver at hf
  refine x_lconst C (v := 0) (by decide) dX5_waysOver_0 (pc' := 1) rfl ?_
  refine x_lstore C dX5_waysOver_1 (pc' := 3) rfl (by decide) rfl (lv' := [some (vR a0), some (vI i1), some (vI i2), some (vI i3), some (vL (0 : Int64)), none, none, none]) rfl ?_
  refine x_iconst C (v := 0) (by decide) dX5_waysOver_3 (pc' := 4) rfl ?_
  refine x_istore C dX5_waysOver_4 (pc' := 6) rfl (by decide) rfl (lv' := [some (vR a0), some (vI i1), some (vI i2), some (vI i3), some (vL (0 : Int64)), none, some (vI (0 : Int32)), none]) rfl ?_
  refine x_more (k' := 0) (n' := 0) (Nat.le_of_ble_eq_true rfl) (Nat.le_of_ble_eq_true rfl) ?_
  exact mX5_waysOver_w6 C hr hlk hnm FUEL a0 i1 i2 i3 (0 : Int64) (0 : Int32) h hf
-- ===== X5_firstCell
theorem lkX5_firstCell_0 : Cond.fieldLink RX5 15 "MossRings$Walks" "rule" "LMossRings$Rule;" ∈ wsX5_firstCell := by decide +kernel
theorem hinX5_firstCell_X5 : ∀ w ∈ u_ws RX5 TX5 3, w ∈ wsX5_firstCell := by decide +kernel
theorem hinX5_firstCell_X1 : ∀ w ∈ u_ws RX1 TX1 5, w ∈ wsX5_firstCell := by decide +kernel
def fX5_firstCell_b67 (w3 : Nat → Int32 → Int32 → Int32 → Int32 → Hp → Option (Int32 × Hp)) (a0 : Nat) (i1 : Int32) (i2 : Int32) (i3 : Int32) (i4 : Int32) (h : Hp) : Option (Int32 × Hp) := w3 a0 i1 i2 i3 (i4 + 1) h
set_option maxHeartbeats 4000000 in
set_option maxRecDepth 100000 in
theorem mX5_firstCell_b67 {g : XG} {p : Program} {l : Launch} {e : Env} {s : State} {m : MethodId} {args : Array Value} {below : List Frame} {meth : Method} {c : Code} (C : x_C g p s m args c cX5_firstCell RX5 6 wsX5_firstCell) (hr : meth.sig.returnType = (some .int)) (hlk : meth.locks = false) (hnm : meth.name = yX5_firstCell.name) {res : Int32 × Hp} (w3 : Nat → Int32 → Int32 → Int32 → Int32 → Hp → Option (Int32 × Hp)) (hw3 : ∀ (a0 : Nat) (i1 : Int32) (i2 : Int32) (i3 : Int32) (i4 : Int32) (h : Hp), w3 a0 i1 i2 i3 i4 h = some res → XW g p l e { frames := 1, cells := 0, slots := 0, locals := 23 } s m args below meth c (MQ below (x_Q g (some (vI res.1)) res.2) args s 0 0 (x_A g)) 6 0 0 h 3 [some (vR a0), some (vI i1), some (vI i2), some (vI i3), some (vI i4), none] []) (a0 : Nat) (i1 : Int32) (i2 : Int32) (i3 : Int32) (i4 : Int32) (h : Hp) (hf : fX5_firstCell_b67 w3 a0 i1 i2 i3 i4 h = some res) : XW g p l e { frames := 1, cells := 0, slots := 0, locals := 23 } s m args below meth c (MQ below (x_Q g (some (vI res.1)) res.2) args s 0 0 (x_A g)) 6 0 0 h 67 [some (vR a0), some (vI i1), some (vI i2), some (vI i3), some (vI i4), none] [] := by
  unfold fX5_firstCell_b67 at hf
  refine x_iinc C dX5_firstCell_67 (pc' := 70) rfl rfl (v := (i4 + 1)) rfl (by decide) rfl (lv' := [some (vR a0), some (vI i1), some (vI i2), some (vI i3), some (vI (i4 + 1)), none]) rfl ?_
  refine x_goto C dX5_firstCell_70 (tgt := 3) (by decide) ?_
  exact hw3 a0 i1 i2 i3 (i4 + 1) h hf
def fX5_firstCell_w3 : Nat → Nat → Int32 → Int32 → Int32 → Int32 → Hp → Option (Int32 × Hp)
  | 0 => fun _ _ _ _ _ _ => none
  | n + 1 => fun a0 i1 i2 i3 i4 h => (gR h a0 5 1).bind fun v1 => (gI h v1 1 0).bind fun v2 => if v2 ≤ i4 then (some ((0 : Int32), h)) else ((gR h a0 5 1).bind fun v3 => (gI h v3 1 0).bind fun v4 => setv (((i2 * v4) + i4)) fun v5 => (gR h a0 5 1).bind fun v6 => call (oK h v6 1 (fX1_tells h v6 v5)) fun r7 h8 => if r7 = i3 then ((gR h8 a0 5 1).bind fun v9 => (gI h8 v9 1 3).bind fun v10 => iRem v5 v10 fun v11 => call (oK h8 a0 5 (fX5_waysFrom h8 a0 (i1 + (1 : Int32)) v11)) fun r12 h13 => if (lg_cmp r12 (0 : Int64)) ≤ 0 then (fX5_firstCell_b67 (fX5_firstCell_w3 n) a0 i1 i2 i3 i4 h13) else (some (i4, h13))) else (fX5_firstCell_b67 (fX5_firstCell_w3 n) a0 i1 i2 i3 i4 h8))
set_option maxHeartbeats 4000000 in
set_option maxRecDepth 100000 in
theorem mX5_firstCell_w3 {g : XG} {p : Program} {l : Launch} {e : Env} {s : State} {m : MethodId} {args : Array Value} {below : List Frame} {meth : Method} {c : Code} (C : x_C g p s m args c cX5_firstCell RX5 6 wsX5_firstCell) (hr : meth.sig.returnType = (some .int)) (hlk : meth.locks = false) (hnm : meth.name = yX5_firstCell.name) {res : Int32 × Hp} : ∀ (n : Nat) (a0 : Nat) (i1 : Int32) (i2 : Int32) (i3 : Int32) (i4 : Int32) (h : Hp), fX5_firstCell_w3 n a0 i1 i2 i3 i4 h = some res → XW g p l e { frames := 1, cells := 0, slots := 0, locals := 23 } s m args below meth c (MQ below (x_Q g (some (vI res.1)) res.2) args s 0 0 (x_A g)) 6 0 0 h 3 [some (vR a0), some (vI i1), some (vI i2), some (vI i3), some (vI i4), none] [] := by
  intro n
  induction n with
  | zero =>
    intro a0 i1 i2 i3 i4 h hf
    have hf2 : (none : Option (Int32 × Hp)) = some res := hf
    cases hf2
  | succ n ih =>
    intro a0 i1 i2 i3 i4 h hf
    rw [fX5_firstCell_w3] at hf
    refine x_iload C dX5_firstCell_3 (pc' := 5) rfl rfl ?_
    refine x_aload_n C dX5_firstCell_5 (pc' := 6) rfl rfl rfl ?_
    refine x_getR C (ci := 5) (kf := 1) rfl (by decide) hinX5_firstCell_X5 lkX5_firstCell_0 rfl hf dX5_firstCell_6 (pc' := 9) rfl (fun v1 _ hf => ?_)
    refine x_getIN C (ci := 1) (kf := 0) rfl (by decide) hinX5_firstCell_X1 (List.mem_of_getElem? (i := 3) rfl) rfl hf dX5_firstCell_9 (pc' := 12) rfl (fun v2 _ hf => ?_)
    refine x_icmp_ge C hf dX5_firstCell_12 (pc' := 15) rfl (tgt := 73) (by decide) (fun _ hf => ?_) (fun _ hf => ?_)
    ·
      refine x_iconst C (v := 0) (by decide) dX5_firstCell_73 (pc' := 74) rfl ?_
      cases hf
      exact x_iret C hr hlk dX5_firstCell_74
    ·
      refine x_iload_n C dX5_firstCell_15 (pc' := 16) rfl rfl rfl ?_
      refine x_aload_n C dX5_firstCell_16 (pc' := 17) rfl rfl rfl ?_
      refine x_getR C (ci := 5) (kf := 1) rfl (by decide) hinX5_firstCell_X5 lkX5_firstCell_0 rfl hf dX5_firstCell_17 (pc' := 20) rfl (fun v3 _ hf => ?_)
      refine x_getIN C (ci := 1) (kf := 0) rfl (by decide) hinX5_firstCell_X1 (List.mem_of_getElem? (i := 3) rfl) rfl hf dX5_firstCell_20 (pc' := 23) rfl (fun v4 _ hf => ?_)
      refine x_imul C dX5_firstCell_23 (pc' := 24) rfl ?_
      refine x_iload C dX5_firstCell_24 (pc' := 26) rfl rfl ?_
      refine x_iadd C dX5_firstCell_26 (pc' := 27) rfl ?_
      refine x_nameI hf (fun v5 _ hf => ?_)
      refine x_istore C dX5_firstCell_27 (pc' := 29) rfl (by decide) rfl (lv' := [some (vR a0), some (vI i1), some (vI i2), some (vI i3), some (vI i4), some (vI v5)]) rfl ?_
      refine x_aload_n C dX5_firstCell_29 (pc' := 30) rfl rfl rfl ?_
      refine x_getR C (ci := 5) (kf := 1) rfl (by decide) hinX5_firstCell_X5 lkX5_firstCell_0 rfl hf dX5_firstCell_30 (pc' := 33) rfl (fun v6 _ hf => ?_)
      refine x_iload C dX5_firstCell_33 (pc' := 35) rfl rfl ?_
      obtain ⟨r7, h8, hq, hf⟩ := call_some hf
      obtain ⟨hob, hq⟩ := oK_some hq
      refine x_callV C (As := [vI v5]) (st := []) (r := (some (vI r7))) (h' := h8) (mc := 0) (ms := 0) (k := 0) (n := 0) (mX1_tells hq) hob (ci := 1) rfl (cwV 1 C.1.2.2.2.2 gX5_firstCell_X1_tells rfl rfl rfl (by decide +kernel) ⟨Nat.le_of_ble_eq_true rfl, Nat.le_of_ble_eq_true rfl⟩) rfl rfl (Nat.le_of_ble_eq_true rfl) dX5_firstCell_35 (pc' := 38) rfl ?_
      refine x_iload_n C dX5_firstCell_38 (pc' := 39) rfl rfl rfl ?_
      refine x_icmp_ne C hf dX5_firstCell_39 (pc' := 42) rfl (tgt := 67) (by decide) (fun _ hf => ?_) (fun _ hf => ?_)
      ·
        refine x_aload_n C dX5_firstCell_42 (pc' := 43) rfl rfl rfl ?_
        refine x_iload_n C dX5_firstCell_43 (pc' := 44) rfl rfl rfl ?_
        refine x_iconst C (v := 1) (by decide) dX5_firstCell_44 (pc' := 45) rfl ?_
        refine x_iadd C dX5_firstCell_45 (pc' := 46) rfl ?_
        refine x_iload C dX5_firstCell_46 (pc' := 48) rfl rfl ?_
        refine x_aload_n C dX5_firstCell_48 (pc' := 49) rfl rfl rfl ?_
        refine x_getR C (ci := 5) (kf := 1) rfl (by decide) hinX5_firstCell_X5 lkX5_firstCell_0 rfl hf dX5_firstCell_49 (pc' := 52) rfl (fun v9 _ hf => ?_)
        refine x_getIN C (ci := 1) (kf := 3) rfl (by decide) hinX5_firstCell_X1 (List.mem_of_getElem? (i := 12) rfl) rfl hf dX5_firstCell_52 (pc' := 55) rfl (fun v10 _ hf => ?_)
        refine x_irem C hf dX5_firstCell_55 (pc' := 56) rfl (fun _ v11 _ hf => ?_)
        obtain ⟨r12, h13, hq, hf⟩ := call_some hf
        obtain ⟨hob, hq⟩ := oK_some hq
        refine x_callV C (As := [vI (i1 + (1 : Int32)), vI v11]) (st := []) (r := (some (vL r12))) (h' := h13) (mc := 0) (ms := 0) (k := 0) (n := 0) (mX5_waysFrom hq) hob (ci := 5) rfl (cwV 2 C.1.2.2.2.2 gX5_firstCell_X5_waysFrom rfl rfl rfl (by decide +kernel) ⟨Nat.le_of_ble_eq_true rfl, Nat.le_of_ble_eq_true rfl⟩) rfl rfl (Nat.le_of_ble_eq_true rfl) dX5_firstCell_56 (pc' := 59) rfl ?_
        refine x_lconst C (v := 0) (by decide) dX5_firstCell_59 (pc' := 60) rfl ?_
        refine x_lcmp C dX5_firstCell_60 (pc' := 61) rfl ?_
        refine x_if_le C hf dX5_firstCell_61 (pc' := 64) rfl (tgt := 67) (by decide) (fun _ hf => ?_) (fun _ hf => ?_)
        ·
          refine x_keep [true, true, true, true, true, false] rfl ?_
          refine x_more (k' := 0) (n' := 0) (Nat.le_of_ble_eq_true rfl) (Nat.le_of_ble_eq_true rfl) ?_
          exact mX5_firstCell_b67 C hr hlk hnm (fX5_firstCell_w3 n) ih a0 i1 i2 i3 i4 h13 hf
        ·
          refine x_iload C dX5_firstCell_64 (pc' := 66) rfl rfl ?_
          cases hf
          exact x_iret C hr hlk dX5_firstCell_66
      ·
        refine x_keep [true, true, true, true, true, false] rfl ?_
        refine x_more (k' := 0) (n' := 0) (Nat.le_of_ble_eq_true rfl) (Nat.le_of_ble_eq_true rfl) ?_
        exact mX5_firstCell_b67 C hr hlk hnm (fX5_firstCell_w3 n) ih a0 i1 i2 i3 i4 h8 hf
def fX5_firstCell (h : Hp) (a0 : Nat) (i1 : Int32) (i2 : Int32) (i3 : Int32) : Option (Int32 × Hp) := fX5_firstCell_w3 FUEL a0 i1 i2 i3 (0 : Int32) h
set_option maxHeartbeats 4000000 in
set_option maxRecDepth 100000 in
theorem mX5_firstCell {l : Launch} {g : XG} {h : Hp} {a0 : Nat} {i1 : Int32} {i2 : Int32} {i3 : Int32} {res : Int32 × Hp} (hf : fX5_firstCell h a0 i1 i2 i3 = some res) : XM l g yX5_firstCell wsX5_firstCell 1 23 0 0 [vR a0, vI i1, vI i2, vI i3] h (some (vI res.1)) res.2 := by
  refine x_start (cc := cX5_firstCell) (maxL := 6) (ret := (some .int)) (by decide) rfl (Nat.le_of_ble_eq_true rfl) (lv := [some (vR a0), some (vI i1), some (vI i2), some (vI i3), none, none]) rfl ?_
  intro p e s m args below meth c C hr hlk hnm
  unfold fX5_firstCell at hf
  refine x_iconst C (v := 0) (by decide) dX5_firstCell_0 (pc' := 1) rfl ?_
  refine x_istore C dX5_firstCell_1 (pc' := 3) rfl (by decide) rfl (lv' := [some (vR a0), some (vI i1), some (vI i2), some (vI i3), some (vI (0 : Int32)), none]) rfl ?_
  refine x_more (k' := 0) (n' := 0) (Nat.le_of_ble_eq_true rfl) (Nat.le_of_ble_eq_true rfl) ?_
  exact mX5_firstCell_w3 C hr hlk hnm FUEL a0 i1 i2 i3 (0 : Int32) h hf
-- ===== X5_weigh
theorem lkX5_weigh_0 : Cond.fieldLink RX5 15 "MossRings$Walks" "rule" "LMossRings$Rule;" ∈ wsX5_weigh := by decide +kernel
theorem hinX5_weigh_X5 : ∀ w ∈ u_ws RX5 TX5 3, w ∈ wsX5_weigh := by decide +kernel
theorem hinX5_weigh_X1 : ∀ w ∈ u_ws RX1 TX1 5, w ∈ wsX5_weigh := by decide +kernel
theorem lkX5_weigh_1 : Cond.methodLink RX5 58 Lib.Math.min.name ∈ wsX5_weigh := by decide +kernel
theorem lkX5_weigh_2 : Cond.static Lib.Math.min.name ∈ wsX5_weigh := by decide +kernel
theorem lkX5_weigh_3 : Cond.initialized "java/lang/Math" ∈ wsX5_weigh := by decide +kernel
theorem lkX5_weigh_4 : Cond.code Lib.Math.min.name Lib.Math.min.code 2 (some .int) ∈ wsX5_weigh := by decide +kernel
def fX5_weigh_b100 (w54 : Nat → Nat → Int32 → Hp → Option (Hp)) (a0 : Nat) (a1 : Nat) (i4 : Int32) (h : Hp) : Option (Hp) := w54 a0 a1 (i4 + (-1)) h
set_option maxHeartbeats 4000000 in
set_option maxRecDepth 100000 in
theorem mX5_weigh_b100 {g : XG} {p : Program} {l : Launch} {e : Env} {s : State} {m : MethodId} {args : Array Value} {below : List Frame} {meth : Method} {c : Code} (C : x_C g p s m args c cX5_weigh RX5 6 wsX5_weigh) (hr : meth.sig.returnType = none) (hlk : meth.locks = false) (hnm : meth.name = yX5_weigh.name) {res : Hp} (w54 : Nat → Nat → Int32 → Hp → Option (Hp)) (hw54 : ∀ (a0 : Nat) (a1 : Nat) (i4 : Int32) (h : Hp), w54 a0 a1 i4 h = some res → XW g p l e { frames := 2, cells := 0, slots := 0, locals := 50 } s m args below meth c (MQ below (x_Q g none res) args s 0 0 (x_A g)) 6 0 0 h 54 [some (vR a0), some (vR a1), none, none, some (vI i4), none] []) (a0 : Nat) (a1 : Nat) (i4 : Int32) (h : Hp) (hf : fX5_weigh_b100 w54 a0 a1 i4 h = some res) : XW g p l e { frames := 2, cells := 0, slots := 0, locals := 50 } s m args below meth c (MQ below (x_Q g none res) args s 0 0 (x_A g)) 6 0 0 h 100 [some (vR a0), some (vR a1), none, none, some (vI i4), none] [] := by
  unfold fX5_weigh_b100 at hf
  refine x_iinc C dX5_weigh_100 (pc' := 103) rfl rfl (v := (i4 + (-1))) rfl (by decide) rfl (lv' := [some (vR a0), some (vR a1), none, none, some (vI (i4 + (-1))), none]) rfl ?_
  refine x_goto C dX5_weigh_103 (tgt := 54) (by decide) ?_
  exact hw54 a0 a1 (i4 + (-1)) h hf
def fX5_weigh_w62 (w54 : Nat → Nat → Int32 → Hp → Option (Hp)) : Nat → Nat → Nat → Int32 → Int32 → Hp → Option (Hp)
  | 0 => fun _ _ _ _ _ => none
  | n + 1 => fun a0 a1 i4 i5 h => (gR h a0 5 1).bind fun v1 => (gI h v1 1 3).bind fun v2 => if v2 ≤ i5 then (fX5_weigh_b100 w54 a0 a1 i4 h) else ((aI h a1 0 i4).bind fun v3 => call (oK h a0 5 (fX5_waysOver h a0 i4 i5 v3)) fun r4 h5 => (oK h5 a0 5 (fX5_putWays h5 a0 i4 i5 r4)).bind fun h7 => (fX5_weigh_w62 w54 n) a0 a1 i4 (i5 + 1) h7)
set_option maxHeartbeats 4000000 in
set_option maxRecDepth 100000 in
theorem mX5_weigh_w62 {g : XG} {p : Program} {l : Launch} {e : Env} {s : State} {m : MethodId} {args : Array Value} {below : List Frame} {meth : Method} {c : Code} (C : x_C g p s m args c cX5_weigh RX5 6 wsX5_weigh) (hr : meth.sig.returnType = none) (hlk : meth.locks = false) (hnm : meth.name = yX5_weigh.name) {res : Hp} (w54 : Nat → Nat → Int32 → Hp → Option (Hp)) (hw54 : ∀ (a0 : Nat) (a1 : Nat) (i4 : Int32) (h : Hp), w54 a0 a1 i4 h = some res → XW g p l e { frames := 2, cells := 0, slots := 0, locals := 50 } s m args below meth c (MQ below (x_Q g none res) args s 0 0 (x_A g)) 6 0 0 h 54 [some (vR a0), some (vR a1), none, none, some (vI i4), none] []) : ∀ (n : Nat) (a0 : Nat) (a1 : Nat) (i4 : Int32) (i5 : Int32) (h : Hp), fX5_weigh_w62 w54 n a0 a1 i4 i5 h = some res → XW g p l e { frames := 2, cells := 0, slots := 0, locals := 50 } s m args below meth c (MQ below (x_Q g none res) args s 0 0 (x_A g)) 6 0 0 h 62 [some (vR a0), some (vR a1), none, none, some (vI i4), some (vI i5)] [] := by
  intro n
  induction n with
  | zero =>
    intro a0 a1 i4 i5 h hf
    have hf2 : (none : Option (Hp)) = some res := hf
    cases hf2
  | succ n ih =>
    intro a0 a1 i4 i5 h hf
    rw [fX5_weigh_w62] at hf
    refine x_iload C dX5_weigh_62 (pc' := 64) rfl rfl ?_
    refine x_aload_n C dX5_weigh_64 (pc' := 65) rfl rfl rfl ?_
    refine x_getR C (ci := 5) (kf := 1) rfl (by decide) hinX5_weigh_X5 lkX5_weigh_0 rfl hf dX5_weigh_65 (pc' := 68) rfl (fun v1 _ hf => ?_)
    refine x_getIN C (ci := 1) (kf := 3) rfl (by decide) hinX5_weigh_X1 (List.mem_of_getElem? (i := 12) rfl) rfl hf dX5_weigh_68 (pc' := 71) rfl (fun v2 _ hf => ?_)
    refine x_icmp_ge C hf dX5_weigh_71 (pc' := 74) rfl (tgt := 100) (by decide) (fun _ hf => ?_) (fun _ hf => ?_)
    ·
      refine x_keep [true, true, false, false, true, false] rfl ?_
      refine x_more (k' := 0) (n' := 0) (Nat.le_of_ble_eq_true rfl) (Nat.le_of_ble_eq_true rfl) ?_
      exact mX5_weigh_b100 C hr hlk hnm w54 hw54 a0 a1 i4 h hf
    ·
      refine x_aload_n C dX5_weigh_74 (pc' := 75) rfl rfl rfl ?_
      refine x_iload C dX5_weigh_75 (pc' := 77) rfl rfl ?_
      refine x_iload C dX5_weigh_77 (pc' := 79) rfl rfl ?_
      refine x_aload_n C dX5_weigh_79 (pc' := 80) rfl rfl rfl ?_
      refine x_iload C dX5_weigh_80 (pc' := 82) rfl rfl ?_
      refine x_iload C dX5_weigh_82 (pc' := 84) rfl rfl ?_
      refine x_aload_n C dX5_weigh_84 (pc' := 85) rfl rfl rfl ?_
      refine x_iload C dX5_weigh_85 (pc' := 87) rfl rfl ?_
      refine x_iaload C hf dX5_weigh_87 (pc' := 88) rfl (fun v3 _ hf => ?_)
      obtain ⟨r4, h5, hq, hf⟩ := call_some hf
      obtain ⟨hob, hq⟩ := oK_some hq
      refine x_callV C (As := [vI i4, vI i5, vI v3]) (st := [vI i5, vI i4, vR a0]) (r := (some (vL r4))) (h' := h5) (mc := 0) (ms := 0) (k := 0) (n := 0) (mX5_waysOver hq) hob (ci := 5) rfl (cwV 3 C.1.2.2.2.2 gX5_weigh_X5_waysOver rfl rfl rfl (by decide +kernel) ⟨Nat.le_of_ble_eq_true rfl, Nat.le_of_ble_eq_true rfl⟩) rfl rfl (Nat.le_of_ble_eq_true rfl) dX5_weigh_88 (pc' := 91) rfl ?_
      obtain ⟨h7, hq, hf⟩ := bind_some hf
      obtain ⟨hob, hq⟩ := oK_some hq
      refine x_callV C (As := [vI i4, vI i5, vL r4]) (st := []) (r := none) (h' := h7) (mc := 0) (ms := 0) (k := 0) (n := 0) (mX5_putWays hq) hob (ci := 5) rfl (cwV 3 C.1.2.2.2.2 gX5_weigh_X5_putWays rfl rfl rfl (by decide +kernel) ⟨Nat.le_of_ble_eq_true rfl, Nat.le_of_ble_eq_true rfl⟩) rfl rfl (Nat.le_of_ble_eq_true rfl) dX5_weigh_91 (pc' := 94) rfl ?_
      refine x_iinc C dX5_weigh_94 (pc' := 97) rfl rfl (v := (i5 + 1)) rfl (by decide) rfl (lv' := [some (vR a0), some (vR a1), none, none, some (vI i4), some (vI (i5 + 1))]) rfl ?_
      refine x_goto C dX5_weigh_97 (tgt := 62) (by decide) ?_
      exact ih a0 a1 i4 (i5 + 1) h7 hf
def fX5_weigh_w54 : Nat → Nat → Nat → Int32 → Hp → Option (Hp)
  | 0 => fun _ _ _ _ => none
  | n + 1 => fun a0 a1 i4 h => if i4 < 0 then (some h) else (fX5_weigh_w62 (fX5_weigh_w54 n) FUEL a0 a1 i4 (0 : Int32) h)
set_option maxHeartbeats 4000000 in
set_option maxRecDepth 100000 in
theorem mX5_weigh_w54 {g : XG} {p : Program} {l : Launch} {e : Env} {s : State} {m : MethodId} {args : Array Value} {below : List Frame} {meth : Method} {c : Code} (C : x_C g p s m args c cX5_weigh RX5 6 wsX5_weigh) (hr : meth.sig.returnType = none) (hlk : meth.locks = false) (hnm : meth.name = yX5_weigh.name) {res : Hp} : ∀ (n : Nat) (a0 : Nat) (a1 : Nat) (i4 : Int32) (h : Hp), fX5_weigh_w54 n a0 a1 i4 h = some res → XW g p l e { frames := 2, cells := 0, slots := 0, locals := 50 } s m args below meth c (MQ below (x_Q g none res) args s 0 0 (x_A g)) 6 0 0 h 54 [some (vR a0), some (vR a1), none, none, some (vI i4), none] [] := by
  intro n
  induction n with
  | zero =>
    intro a0 a1 i4 h hf
    have hf2 : (none : Option (Hp)) = some res := hf
    cases hf2
  | succ n ih =>
    intro a0 a1 i4 h hf
    rw [fX5_weigh_w54] at hf
    refine x_iload C dX5_weigh_54 (pc' := 56) rfl rfl ?_
    refine x_if_lt C hf dX5_weigh_56 (pc' := 59) rfl (tgt := 106) (by decide) (fun _ hf => ?_) (fun _ hf => ?_)
    ·
      cases hf
      exact x_vret C hr hlk dX5_weigh_106
    ·
      refine x_iconst C (v := 0) (by decide) dX5_weigh_59 (pc' := 60) rfl ?_
      refine x_istore C dX5_weigh_60 (pc' := 62) rfl (by decide) rfl (lv' := [some (vR a0), some (vR a1), none, none, some (vI i4), some (vI (0 : Int32))]) rfl ?_
      refine x_more (k' := 0) (n' := 0) (Nat.le_of_ble_eq_true rfl) (Nat.le_of_ble_eq_true rfl) ?_
      exact mX5_weigh_w62 C hr hlk hnm (fX5_weigh_w54 n) ih FUEL a0 a1 i4 (0 : Int32) h hf
def fX5_weigh_b44 (a0 : Nat) (a1 : Nat) (i2 : Int32) (h : Hp) : Option (Hp) := (aN h a1).bind fun v1 => setv (((iMin i2 v1) - (1 : Int32))) fun v2 => fX5_weigh_w54 FUEL a0 a1 v2 h
set_option maxHeartbeats 4000000 in
set_option maxRecDepth 100000 in
theorem mX5_weigh_b44 {g : XG} {p : Program} {l : Launch} {e : Env} {s : State} {m : MethodId} {args : Array Value} {below : List Frame} {meth : Method} {c : Code} (C : x_C g p s m args c cX5_weigh RX5 6 wsX5_weigh) (hr : meth.sig.returnType = none) (hlk : meth.locks = false) (hnm : meth.name = yX5_weigh.name) {res : Hp} (a0 : Nat) (a1 : Nat) (i2 : Int32) (h : Hp) (hf : fX5_weigh_b44 a0 a1 i2 h = some res) : XW g p l e { frames := 2, cells := 0, slots := 0, locals := 50 } s m args below meth c (MQ below (x_Q g none res) args s 0 0 (x_A g)) 6 0 0 h 44 [some (vR a0), some (vR a1), some (vI i2), none, none, none] [] := by
  unfold fX5_weigh_b44 at hf
  refine x_iload_n C dX5_weigh_44 (pc' := 45) rfl rfl rfl ?_
  refine x_aload_n C dX5_weigh_45 (pc' := 46) rfl rfl rfl ?_
  refine x_alen C hf dX5_weigh_46 (pc' := 47) rfl (fun v1 _ hf => ?_)
  refine x_min C lkX5_weigh_1 lkX5_weigh_2 lkX5_weigh_3 lkX5_weigh_4 (Nat.le_of_ble_eq_true rfl) (Nat.le_of_ble_eq_true rfl) dX5_weigh_47 (pc' := 50) rfl ?_
  refine x_iconst C (v := 1) (by decide) dX5_weigh_50 (pc' := 51) rfl ?_
  refine x_isub C dX5_weigh_51 (pc' := 52) rfl ?_
  refine x_nameI hf (fun v2 _ hf => ?_)
  refine x_istore C dX5_weigh_52 (pc' := 54) rfl (by decide) rfl (lv' := [some (vR a0), some (vR a1), some (vI i2), none, some (vI v2), none]) rfl ?_
  refine x_keep [true, true, false, false, true, false] rfl ?_
  refine x_more (k' := 0) (n' := 0) (Nat.le_of_ble_eq_true rfl) (Nat.le_of_ble_eq_true rfl) ?_
  exact mX5_weigh_w54 C hr hlk hnm FUEL a0 a1 v2 h hf
def fX5_weigh_b35 (w3 : Nat → Nat → Int32 → Int32 → Int32 → Hp → Option (Hp)) (a0 : Nat) (a1 : Nat) (i2 : Int32) (i3 : Int32) (i4 : Int32) (s0 : Int64) (s1 : Int32) (s2 : Int32) (s3 : Nat) (h : Hp) : Option (Hp) := (oK h s3 5 (fX5_putWays h s3 s2 s1 s0)).bind fun h2 => w3 a0 a1 i2 i3 (i4 + 1) h2
set_option maxHeartbeats 4000000 in
set_option maxRecDepth 100000 in
theorem mX5_weigh_b35 {g : XG} {p : Program} {l : Launch} {e : Env} {s : State} {m : MethodId} {args : Array Value} {below : List Frame} {meth : Method} {c : Code} (C : x_C g p s m args c cX5_weigh RX5 6 wsX5_weigh) (hr : meth.sig.returnType = none) (hlk : meth.locks = false) (hnm : meth.name = yX5_weigh.name) {res : Hp} (w3 : Nat → Nat → Int32 → Int32 → Int32 → Hp → Option (Hp)) (hw3 : ∀ (a0 : Nat) (a1 : Nat) (i2 : Int32) (i3 : Int32) (i4 : Int32) (h : Hp), w3 a0 a1 i2 i3 i4 h = some res → XW g p l e { frames := 2, cells := 0, slots := 0, locals := 50 } s m args below meth c (MQ below (x_Q g none res) args s 0 0 (x_A g)) 6 0 0 h 3 [some (vR a0), some (vR a1), some (vI i2), some (vI i3), some (vI i4), none] []) (a0 : Nat) (a1 : Nat) (i2 : Int32) (i3 : Int32) (i4 : Int32) (s0 : Int64) (s1 : Int32) (s2 : Int32) (s3 : Nat) (h : Hp) (hf : fX5_weigh_b35 w3 a0 a1 i2 i3 i4 s0 s1 s2 s3 h = some res) : XW g p l e { frames := 2, cells := 0, slots := 0, locals := 50 } s m args below meth c (MQ below (x_Q g none res) args s 0 0 (x_A g)) 6 0 0 h 35 [some (vR a0), some (vR a1), some (vI i2), some (vI i3), some (vI i4), none] [vL s0, vI s1, vI s2, vR s3] := by
  unfold fX5_weigh_b35 at hf
  obtain ⟨h2, hq, hf⟩ := bind_some hf
  obtain ⟨hob, hq⟩ := oK_some hq
  refine x_callV C (As := [vI s2, vI s1, vL s0]) (st := []) (r := none) (h' := h2) (mc := 0) (ms := 0) (k := 0) (n := 0) (mX5_putWays hq) hob (ci := 5) rfl (cwV 3 C.1.2.2.2.2 gX5_weigh_X5_putWays rfl rfl rfl (by decide +kernel) ⟨Nat.le_of_ble_eq_true rfl, Nat.le_of_ble_eq_true rfl⟩) rfl rfl (Nat.le_of_ble_eq_true rfl) dX5_weigh_35 (pc' := 38) rfl ?_
  refine x_iinc C dX5_weigh_38 (pc' := 41) rfl rfl (v := (i4 + 1)) rfl (by decide) rfl (lv' := [some (vR a0), some (vR a1), some (vI i2), some (vI i3), some (vI (i4 + 1)), none]) rfl ?_
  refine x_goto C dX5_weigh_41 (tgt := 3) (by decide) ?_
  exact hw3 a0 a1 i2 i3 (i4 + 1) h2 hf
def fX5_weigh_b30 (w3 : Nat → Nat → Int32 → Int32 → Int32 → Hp → Option (Hp)) (a0 : Nat) (a1 : Nat) (i2 : Int32) (i3 : Int32) (i4 : Int32) (s0 : Int32) (s1 : Int32) (s2 : Nat) (h : Hp) : Option (Hp) := fX5_weigh_b35 w3 a0 a1 i2 i3 i4 (1 : Int64) s0 s1 s2 h
set_option maxHeartbeats 4000000 in
set_option maxRecDepth 100000 in
theorem mX5_weigh_b30 {g : XG} {p : Program} {l : Launch} {e : Env} {s : State} {m : MethodId} {args : Array Value} {below : List Frame} {meth : Method} {c : Code} (C : x_C g p s m args c cX5_weigh RX5 6 wsX5_weigh) (hr : meth.sig.returnType = none) (hlk : meth.locks = false) (hnm : meth.name = yX5_weigh.name) {res : Hp} (w3 : Nat → Nat → Int32 → Int32 → Int32 → Hp → Option (Hp)) (hw3 : ∀ (a0 : Nat) (a1 : Nat) (i2 : Int32) (i3 : Int32) (i4 : Int32) (h : Hp), w3 a0 a1 i2 i3 i4 h = some res → XW g p l e { frames := 2, cells := 0, slots := 0, locals := 50 } s m args below meth c (MQ below (x_Q g none res) args s 0 0 (x_A g)) 6 0 0 h 3 [some (vR a0), some (vR a1), some (vI i2), some (vI i3), some (vI i4), none] []) (a0 : Nat) (a1 : Nat) (i2 : Int32) (i3 : Int32) (i4 : Int32) (s0 : Int32) (s1 : Int32) (s2 : Nat) (h : Hp) (hf : fX5_weigh_b30 w3 a0 a1 i2 i3 i4 s0 s1 s2 h = some res) : XW g p l e { frames := 2, cells := 0, slots := 0, locals := 50 } s m args below meth c (MQ below (x_Q g none res) args s 0 0 (x_A g)) 6 0 0 h 30 [some (vR a0), some (vR a1), some (vI i2), some (vI i3), some (vI i4), none] [vI s0, vI s1, vR s2] := by
  unfold fX5_weigh_b30 at hf
  refine x_lconst C (v := 1) (by decide) dX5_weigh_30 (pc' := 31) rfl ?_
  refine x_goto C dX5_weigh_31 (tgt := 35) (by decide) ?_
  refine x_more (k' := 0) (n' := 0) (Nat.le_of_ble_eq_true rfl) (Nat.le_of_ble_eq_true rfl) ?_
  exact mX5_weigh_b35 C hr hlk hnm w3 hw3 a0 a1 i2 i3 i4 (1 : Int64) s0 s1 s2 h hf
def fX5_weigh_w3 : Nat → Nat → Nat → Int32 → Int32 → Int32 → Hp → Option (Hp)
  | 0 => fun _ _ _ _ _ _ => none
  | n + 1 => fun a0 a1 i2 i3 i4 h => (gR h a0 5 1).bind fun v1 => (gI h v1 1 3).bind fun v2 => if v2 ≤ i4 then (fX5_weigh_b44 a0 a1 i2 h) else (if i3 = (-1 : Int32) then (fX5_weigh_b30 (fX5_weigh_w3 n) a0 a1 i2 i3 i4 i4 i2 a0 h) else (if i3 = i4 then (fX5_weigh_b30 (fX5_weigh_w3 n) a0 a1 i2 i3 i4 i4 i2 a0 h) else (fX5_weigh_b35 (fX5_weigh_w3 n) a0 a1 i2 i3 i4 (0 : Int64) i4 i2 a0 h)))
set_option maxHeartbeats 4000000 in
set_option maxRecDepth 100000 in
theorem mX5_weigh_w3 {g : XG} {p : Program} {l : Launch} {e : Env} {s : State} {m : MethodId} {args : Array Value} {below : List Frame} {meth : Method} {c : Code} (C : x_C g p s m args c cX5_weigh RX5 6 wsX5_weigh) (hr : meth.sig.returnType = none) (hlk : meth.locks = false) (hnm : meth.name = yX5_weigh.name) {res : Hp} : ∀ (n : Nat) (a0 : Nat) (a1 : Nat) (i2 : Int32) (i3 : Int32) (i4 : Int32) (h : Hp), fX5_weigh_w3 n a0 a1 i2 i3 i4 h = some res → XW g p l e { frames := 2, cells := 0, slots := 0, locals := 50 } s m args below meth c (MQ below (x_Q g none res) args s 0 0 (x_A g)) 6 0 0 h 3 [some (vR a0), some (vR a1), some (vI i2), some (vI i3), some (vI i4), none] [] := by
  intro n
  induction n with
  | zero =>
    intro a0 a1 i2 i3 i4 h hf
    have hf2 : (none : Option (Hp)) = some res := hf
    cases hf2
  | succ n ih =>
    intro a0 a1 i2 i3 i4 h hf
    rw [fX5_weigh_w3] at hf
    refine x_iload C dX5_weigh_3 (pc' := 5) rfl rfl ?_
    refine x_aload_n C dX5_weigh_5 (pc' := 6) rfl rfl rfl ?_
    refine x_getR C (ci := 5) (kf := 1) rfl (by decide) hinX5_weigh_X5 lkX5_weigh_0 rfl hf dX5_weigh_6 (pc' := 9) rfl (fun v1 _ hf => ?_)
    refine x_getIN C (ci := 1) (kf := 3) rfl (by decide) hinX5_weigh_X1 (List.mem_of_getElem? (i := 12) rfl) rfl hf dX5_weigh_9 (pc' := 12) rfl (fun v2 _ hf => ?_)
    refine x_icmp_ge C hf dX5_weigh_12 (pc' := 15) rfl (tgt := 44) (by decide) (fun _ hf => ?_) (fun _ hf => ?_)
    ·
      refine x_keep [true, true, true, false, false, false] rfl ?_
      refine x_more (k' := 0) (n' := 0) (Nat.le_of_ble_eq_true rfl) (Nat.le_of_ble_eq_true rfl) ?_
      exact mX5_weigh_b44 C hr hlk hnm a0 a1 i2 h hf
    ·
      refine x_aload_n C dX5_weigh_15 (pc' := 16) rfl rfl rfl ?_
      refine x_iload_n C dX5_weigh_16 (pc' := 17) rfl rfl rfl ?_
      refine x_iload C dX5_weigh_17 (pc' := 19) rfl rfl ?_
      refine x_iload_n C dX5_weigh_19 (pc' := 20) rfl rfl rfl ?_
      refine x_iconst C (v := -1) (by decide) dX5_weigh_20 (pc' := 21) rfl ?_
      refine x_icmp_eq C hf dX5_weigh_21 (pc' := 24) rfl (tgt := 30) (by decide) (fun _ hf => ?_) (fun _ hf => ?_)
      ·
        refine x_more (k' := 0) (n' := 0) (Nat.le_of_ble_eq_true rfl) (Nat.le_of_ble_eq_true rfl) ?_
        exact mX5_weigh_b30 C hr hlk hnm (fX5_weigh_w3 n) ih a0 a1 i2 i3 i4 i4 i2 a0 h hf
      ·
        refine x_iload_n C dX5_weigh_24 (pc' := 25) rfl rfl rfl ?_
        refine x_iload C dX5_weigh_25 (pc' := 27) rfl rfl ?_
        refine x_icmp_ne C hf dX5_weigh_27 (pc' := 30) rfl (tgt := 34) (by decide) (fun _ hf => ?_) (fun _ hf => ?_)
        ·
          refine x_more (k' := 0) (n' := 0) (Nat.le_of_ble_eq_true rfl) (Nat.le_of_ble_eq_true rfl) ?_
          exact mX5_weigh_b30 C hr hlk hnm (fX5_weigh_w3 n) ih a0 a1 i2 i3 i4 i4 i2 a0 h hf
        ·
          refine x_lconst C (v := 0) (by decide) dX5_weigh_34 (pc' := 35) rfl ?_
          refine x_more (k' := 0) (n' := 0) (Nat.le_of_ble_eq_true rfl) (Nat.le_of_ble_eq_true rfl) ?_
          exact mX5_weigh_b35 C hr hlk hnm (fX5_weigh_w3 n) ih a0 a1 i2 i3 i4 (0 : Int64) i4 i2 a0 h hf
def fX5_weigh (h : Hp) (a0 : Nat) (a1 : Nat) (i2 : Int32) (i3 : Int32) : Option (Hp) := fX5_weigh_w3 FUEL a0 a1 i2 i3 (0 : Int32) h
set_option maxHeartbeats 4000000 in
set_option maxRecDepth 100000 in
theorem mX5_weigh {l : Launch} {g : XG} {h : Hp} {a0 : Nat} {a1 : Nat} {i2 : Int32} {i3 : Int32} {res : Hp} (hf : fX5_weigh h a0 a1 i2 i3 = some res) : XM l g yX5_weigh wsX5_weigh 2 50 0 0 [vR a0, vR a1, vI i2, vI i3] h none res := by
  refine x_start (cc := cX5_weigh) (maxL := 6) (ret := none) (by decide) rfl (Nat.le_of_ble_eq_true rfl) (lv := [some (vR a0), some (vR a1), some (vI i2), some (vI i3), none, none]) rfl ?_
  intro p e s m args below meth c C hr hlk hnm
  unfold fX5_weigh at hf
  refine x_iconst C (v := 0) (by decide) dX5_weigh_0 (pc' := 1) rfl ?_
  refine x_istore C dX5_weigh_1 (pc' := 3) rfl (by decide) rfl (lv' := [some (vR a0), some (vR a1), some (vI i2), some (vI i3), some (vI (0 : Int32)), none]) rfl ?_
  refine x_more (k' := 0) (n' := 0) (Nat.le_of_ble_eq_true rfl) (Nat.le_of_ble_eq_true rfl) ?_
  exact mX5_weigh_w3 C hr hlk hnm FUEL a0 a1 i2 i3 (0 : Int32) h hf
-- ===== X5_rowsBehind
theorem lkX5_rowsBehind_0 : Cond.fieldLink RX5 23 "MossRings$Walks" "start" "I" ∈ wsX5_rowsBehind := by decide +kernel
theorem hinX5_rowsBehind_X5 : ∀ w ∈ u_ws RX5 TX5 3, w ∈ wsX5_rowsBehind := by decide +kernel
theorem lkX5_rowsBehind_1 : Cond.fieldLink RX5 15 "MossRings$Walks" "rule" "LMossRings$Rule;" ∈ wsX5_rowsBehind := by decide +kernel
theorem hinX5_rowsBehind_X1 : ∀ w ∈ u_ws RX1 TX1 5, w ∈ wsX5_rowsBehind := by decide +kernel
def fX5_rowsBehind_b76 (w23 : Nat → Int64 → Int32 → Hp → Option (Int64 × Hp)) (a0 : Nat) (j4 : Int64) (i6 : Int32) (s0 : Int32) (s1 : Nat) (h : Hp) : Option (Int64 × Hp) := (pF h s1 5 2 (vI s0)).bind fun h1 => w23 a0 j4 (i6 + 1) h1
set_option maxHeartbeats 4000000 in
set_option maxRecDepth 100000 in
theorem mX5_rowsBehind_b76 {g : XG} {p : Program} {l : Launch} {e : Env} {s : State} {m : MethodId} {args : Array Value} {below : List Frame} {meth : Method} {c : Code} (C : x_C g p s m args c cX5_rowsBehind RX5 9 wsX5_rowsBehind) (hr : meth.sig.returnType = (some .long)) (hlk : meth.locks = false) (hnm : meth.name = yX5_rowsBehind.name) {res : Int64 × Hp} (w23 : Nat → Int64 → Int32 → Hp → Option (Int64 × Hp)) (hw23 : ∀ (a0 : Nat) (j4 : Int64) (i6 : Int32) (h : Hp), w23 a0 j4 i6 h = some res → XW g p l e { frames := 3, cells := 0, slots := 0, locals := 75 } s m args below meth c (MQ below (x_Q g (some (vL res.1)) res.2) args s 0 0 (x_A g)) 9 0 0 h 23 [some (vR a0), none, none, none, some (vL j4), none, some (vI i6), none, none] []) (a0 : Nat) (j4 : Int64) (i6 : Int32) (s0 : Int32) (s1 : Nat) (h : Hp) (hf : fX5_rowsBehind_b76 w23 a0 j4 i6 s0 s1 h = some res) : XW g p l e { frames := 3, cells := 0, slots := 0, locals := 75 } s m args below meth c (MQ below (x_Q g (some (vL res.1)) res.2) args s 0 0 (x_A g)) 9 0 0 h 76 [some (vR a0), none, none, none, some (vL j4), none, some (vI i6), none, none] [vI s0, vR s1] := by
  unfold fX5_rowsBehind_b76 at hf
  refine x_put C (ci := 5) (kf := 2) rfl (by decide) hinX5_rowsBehind_X5 tyX5 tyX5_ok nmX5 lkX5_rowsBehind_0 rfl (Or.inl rfl) rfl hf dX5_rowsBehind_76 (pc' := 79) rfl (fun h1 _ hf => ?_)
  refine x_iinc C dX5_rowsBehind_79 (pc' := 82) rfl rfl (v := (i6 + 1)) rfl (by decide) rfl (lv' := [some (vR a0), none, none, none, some (vL j4), none, some (vI (i6 + 1)), none, none]) rfl ?_
  refine x_goto C dX5_rowsBehind_82 (tgt := 23) (by decide) ?_
  exact hw23 a0 j4 (i6 + 1) h1 hf
def fX5_rowsBehind_b72 (w23 : Nat → Int64 → Int32 → Hp → Option (Int64 × Hp)) (a0 : Nat) (j4 : Int64) (i6 : Int32) (s0 : Nat) (h : Hp) : Option (Int64 × Hp) := (gI h a0 5 2).bind fun v1 => fX5_rowsBehind_b76 w23 a0 j4 i6 v1 s0 h
set_option maxHeartbeats 4000000 in
set_option maxRecDepth 100000 in
theorem mX5_rowsBehind_b72 {g : XG} {p : Program} {l : Launch} {e : Env} {s : State} {m : MethodId} {args : Array Value} {below : List Frame} {meth : Method} {c : Code} (C : x_C g p s m args c cX5_rowsBehind RX5 9 wsX5_rowsBehind) (hr : meth.sig.returnType = (some .long)) (hlk : meth.locks = false) (hnm : meth.name = yX5_rowsBehind.name) {res : Int64 × Hp} (w23 : Nat → Int64 → Int32 → Hp → Option (Int64 × Hp)) (hw23 : ∀ (a0 : Nat) (j4 : Int64) (i6 : Int32) (h : Hp), w23 a0 j4 i6 h = some res → XW g p l e { frames := 3, cells := 0, slots := 0, locals := 75 } s m args below meth c (MQ below (x_Q g (some (vL res.1)) res.2) args s 0 0 (x_A g)) 9 0 0 h 23 [some (vR a0), none, none, none, some (vL j4), none, some (vI i6), none, none] []) (a0 : Nat) (j4 : Int64) (i6 : Int32) (s0 : Nat) (h : Hp) (hf : fX5_rowsBehind_b72 w23 a0 j4 i6 s0 h = some res) : XW g p l e { frames := 3, cells := 0, slots := 0, locals := 75 } s m args below meth c (MQ below (x_Q g (some (vL res.1)) res.2) args s 0 0 (x_A g)) 9 0 0 h 72 [some (vR a0), none, none, none, some (vL j4), none, some (vI i6), none, none] [vR s0] := by
  unfold fX5_rowsBehind_b72 at hf
  refine x_aload_n C dX5_rowsBehind_72 (pc' := 73) rfl rfl rfl ?_
  refine x_getI C (ci := 5) (kf := 2) rfl (by decide) hinX5_rowsBehind_X5 lkX5_rowsBehind_0 rfl hf dX5_rowsBehind_73 (pc' := 76) rfl (fun v1 _ hf => ?_)
  refine x_more (k' := 0) (n' := 0) (Nat.le_of_ble_eq_true rfl) (Nat.le_of_ble_eq_true rfl) ?_
  exact mX5_rowsBehind_b76 C hr hlk hnm w23 hw23 a0 j4 i6 v1 s0 h hf
def fX5_rowsBehind_w23 : Nat → Nat → Int64 → Int32 → Hp → Option (Int64 × Hp)
  | 0 => fun _ _ _ _ => none
  | n + 1 => fun a0 j4 i6 h => (gR h a0 5 1).bind fun v1 => (gI h v1 1 3).bind fun v2 => if v2 ≤ i6 then (some (j4, h)) else (call (oK h a0 5 (fX5_waysFrom h a0 (0 : Int32) i6)) fun r3 h4 => setv ((j4 + r3)) fun v5 => (gI h4 a0 5 2).bind fun v6 => if v6 = (-1 : Int32) then (if (lg_cmp r3 (0 : Int64)) ≤ 0 then (fX5_rowsBehind_b72 (fX5_rowsBehind_w23 n) a0 v5 i6 a0 h4) else (fX5_rowsBehind_b76 (fX5_rowsBehind_w23 n) a0 v5 i6 i6 a0 h4)) else (fX5_rowsBehind_b72 (fX5_rowsBehind_w23 n) a0 v5 i6 a0 h4))
set_option maxHeartbeats 4000000 in
set_option maxRecDepth 100000 in
theorem mX5_rowsBehind_w23 {g : XG} {p : Program} {l : Launch} {e : Env} {s : State} {m : MethodId} {args : Array Value} {below : List Frame} {meth : Method} {c : Code} (C : x_C g p s m args c cX5_rowsBehind RX5 9 wsX5_rowsBehind) (hr : meth.sig.returnType = (some .long)) (hlk : meth.locks = false) (hnm : meth.name = yX5_rowsBehind.name) {res : Int64 × Hp} : ∀ (n : Nat) (a0 : Nat) (j4 : Int64) (i6 : Int32) (h : Hp), fX5_rowsBehind_w23 n a0 j4 i6 h = some res → XW g p l e { frames := 3, cells := 0, slots := 0, locals := 75 } s m args below meth c (MQ below (x_Q g (some (vL res.1)) res.2) args s 0 0 (x_A g)) 9 0 0 h 23 [some (vR a0), none, none, none, some (vL j4), none, some (vI i6), none, none] [] := by
  intro n
  induction n with
  | zero =>
    intro a0 j4 i6 h hf
    have hf2 : (none : Option (Int64 × Hp)) = some res := hf
    cases hf2
  | succ n ih =>
    intro a0 j4 i6 h hf
    rw [fX5_rowsBehind_w23] at hf
    refine x_iload C dX5_rowsBehind_23 (pc' := 25) rfl rfl ?_
    refine x_aload_n C dX5_rowsBehind_25 (pc' := 26) rfl rfl rfl ?_
    refine x_getR C (ci := 5) (kf := 1) rfl (by decide) hinX5_rowsBehind_X5 lkX5_rowsBehind_1 rfl hf dX5_rowsBehind_26 (pc' := 29) rfl (fun v1 _ hf => ?_)
    refine x_getIN C (ci := 1) (kf := 3) rfl (by decide) hinX5_rowsBehind_X1 (List.mem_of_getElem? (i := 12) rfl) rfl hf dX5_rowsBehind_29 (pc' := 32) rfl (fun v2 _ hf => ?_)
    refine x_icmp_ge C hf dX5_rowsBehind_32 (pc' := 35) rfl (tgt := 85) (by decide) (fun _ hf => ?_) (fun _ hf => ?_)
    ·
      refine x_lload C dX5_rowsBehind_85 (pc' := 87) rfl rfl ?_
      cases hf
      exact x_lret C hr hlk dX5_rowsBehind_87
    ·
      refine x_aload_n C dX5_rowsBehind_35 (pc' := 36) rfl rfl rfl ?_
      refine x_iconst C (v := 0) (by decide) dX5_rowsBehind_36 (pc' := 37) rfl ?_
      refine x_iload C dX5_rowsBehind_37 (pc' := 39) rfl rfl ?_
      obtain ⟨r3, h4, hq, hf⟩ := call_some hf
      obtain ⟨hob, hq⟩ := oK_some hq
      refine x_callV C (As := [vI (0 : Int32), vI i6]) (st := []) (r := (some (vL r3))) (h' := h4) (mc := 0) (ms := 0) (k := 0) (n := 0) (mX5_waysFrom hq) hob (ci := 5) rfl (cwV 2 C.1.2.2.2.2 gX5_rowsBehind_X5_waysFrom rfl rfl rfl (by decide +kernel) ⟨Nat.le_of_ble_eq_true rfl, Nat.le_of_ble_eq_true rfl⟩) rfl rfl (Nat.le_of_ble_eq_true rfl) dX5_rowsBehind_39 (pc' := 42) rfl ?_
      refine x_lstore C dX5_rowsBehind_42 (pc' := 44) rfl (by decide) rfl (lv' := [some (vR a0), none, none, none, some (vL j4), none, some (vI i6), some (vL r3), none]) rfl ?_
      refine x_lload C dX5_rowsBehind_44 (pc' := 46) rfl rfl ?_
      refine x_lload C dX5_rowsBehind_46 (pc' := 48) rfl rfl ?_
      refine x_ladd C dX5_rowsBehind_48 (pc' := 49) rfl ?_
      refine x_nameL hf (fun v5 _ hf => ?_)
      refine x_lstore C dX5_rowsBehind_49 (pc' := 51) rfl (by decide) rfl (lv' := [some (vR a0), none, none, none, some (vL v5), none, some (vI i6), some (vL r3), none]) rfl ?_
      refine x_aload_n C dX5_rowsBehind_51 (pc' := 52) rfl rfl rfl ?_
      refine x_aload_n C dX5_rowsBehind_52 (pc' := 53) rfl rfl rfl ?_
      refine x_getI C (ci := 5) (kf := 2) rfl (by decide) hinX5_rowsBehind_X5 lkX5_rowsBehind_0 rfl hf dX5_rowsBehind_53 (pc' := 56) rfl (fun v6 _ hf => ?_)
      refine x_iconst C (v := -1) (by decide) dX5_rowsBehind_56 (pc' := 57) rfl ?_
      refine x_icmp_ne C hf dX5_rowsBehind_57 (pc' := 60) rfl (tgt := 72) (by decide) (fun _ hf => ?_) (fun _ hf => ?_)
      ·
        refine x_lload C dX5_rowsBehind_60 (pc' := 62) rfl rfl ?_
        refine x_lconst C (v := 0) (by decide) dX5_rowsBehind_62 (pc' := 63) rfl ?_
        refine x_lcmp C dX5_rowsBehind_63 (pc' := 64) rfl ?_
        refine x_if_le C hf dX5_rowsBehind_64 (pc' := 67) rfl (tgt := 72) (by decide) (fun _ hf => ?_) (fun _ hf => ?_)
        ·
          refine x_keep [true, false, false, false, true, false, true, false, false] rfl ?_
          refine x_more (k' := 0) (n' := 0) (Nat.le_of_ble_eq_true rfl) (Nat.le_of_ble_eq_true rfl) ?_
          exact mX5_rowsBehind_b72 C hr hlk hnm (fX5_rowsBehind_w23 n) ih a0 v5 i6 a0 h4 hf
        ·
          refine x_iload C dX5_rowsBehind_67 (pc' := 69) rfl rfl ?_
          refine x_goto C dX5_rowsBehind_69 (tgt := 76) (by decide) ?_
          refine x_keep [true, false, false, false, true, false, true, false, false] rfl ?_
          refine x_more (k' := 0) (n' := 0) (Nat.le_of_ble_eq_true rfl) (Nat.le_of_ble_eq_true rfl) ?_
          exact mX5_rowsBehind_b76 C hr hlk hnm (fX5_rowsBehind_w23 n) ih a0 v5 i6 i6 a0 h4 hf
      ·
        refine x_keep [true, false, false, false, true, false, true, false, false] rfl ?_
        refine x_more (k' := 0) (n' := 0) (Nat.le_of_ble_eq_true rfl) (Nat.le_of_ble_eq_true rfl) ?_
        exact mX5_rowsBehind_b72 C hr hlk hnm (fX5_rowsBehind_w23 n) ih a0 v5 i6 a0 h4 hf
def fX5_rowsBehind (h : Hp) (a0 : Nat) (a1 : Nat) (a2 : Nat) (i3 : Int32) : Option (Int64 × Hp) := (pF h a0 5 1 (vR a1)).bind fun h1 => (oK h1 a0 5 (fX5_weigh h1 a0 a2 i3 (-1 : Int32))).bind fun h3 => (pF h3 a0 5 2 (vI (-1 : Int32))).bind fun h4 => fX5_rowsBehind_w23 FUEL a0 (0 : Int64) (0 : Int32) h4
set_option maxHeartbeats 4000000 in
set_option maxRecDepth 100000 in
theorem mX5_rowsBehind {l : Launch} {g : XG} {h : Hp} {a0 : Nat} {a1 : Nat} {a2 : Nat} {i3 : Int32} {res : Int64 × Hp} (hf : fX5_rowsBehind h a0 a1 a2 i3 = some res) : XM l g yX5_rowsBehind wsX5_rowsBehind 3 75 0 0 [vR a0, vR a1, vR a2, vI i3] h (some (vL res.1)) res.2 := by
  refine x_start (cc := cX5_rowsBehind) (maxL := 9) (ret := (some .long)) (by decide) rfl (Nat.le_of_ble_eq_true rfl) (lv := [some (vR a0), some (vR a1), some (vR a2), some (vI i3), none, none, none, none, none]) rfl ?_
  intro p e s m args below meth c C hr hlk hnm
  unfold fX5_rowsBehind at hf
  refine x_aload_n C dX5_rowsBehind_0 (pc' := 1) rfl rfl rfl ?_
  refine x_aload_n C dX5_rowsBehind_1 (pc' := 2) rfl rfl rfl ?_
  refine x_put C (ci := 5) (kf := 1) rfl (by decide) hinX5_rowsBehind_X5 tyX5 tyX5_ok nmX5 lkX5_rowsBehind_1 rfl (Or.inl rfl) rfl hf dX5_rowsBehind_2 (pc' := 5) rfl (fun h1 _ hf => ?_)
  refine x_aload_n C dX5_rowsBehind_5 (pc' := 6) rfl rfl rfl ?_
  refine x_aload_n C dX5_rowsBehind_6 (pc' := 7) rfl rfl rfl ?_
  refine x_iload_n C dX5_rowsBehind_7 (pc' := 8) rfl rfl rfl ?_
  refine x_iconst C (v := -1) (by decide) dX5_rowsBehind_8 (pc' := 9) rfl ?_
  obtain ⟨h3, hq, hf⟩ := bind_some hf
  obtain ⟨hob, hq⟩ := oK_some hq
  refine x_callV C (As := [vR a2, vI i3, vI (-1 : Int32)]) (st := []) (r := none) (h' := h3) (mc := 0) (ms := 0) (k := 0) (n := 0) (mX5_weigh hq) hob (ci := 5) rfl (cwV 3 C.1.2.2.2.2 gX5_rowsBehind_X5_weigh rfl rfl rfl (by decide +kernel) ⟨Nat.le_of_ble_eq_true rfl, Nat.le_of_ble_eq_true rfl⟩) rfl rfl (Nat.le_of_ble_eq_true rfl) dX5_rowsBehind_9 (pc' := 12) rfl ?_
  refine x_lconst C (v := 0) (by decide) dX5_rowsBehind_12 (pc' := 13) rfl ?_
  refine x_lstore C dX5_rowsBehind_13 (pc' := 15) rfl (by decide) rfl (lv' := [some (vR a0), some (vR a1), some (vR a2), some (vI i3), some (vL (0 : Int64)), none, none, none, none]) rfl ?_
  refine x_aload_n C dX5_rowsBehind_15 (pc' := 16) rfl rfl rfl ?_
  refine x_iconst C (v := -1) (by decide) dX5_rowsBehind_16 (pc' := 17) rfl ?_
  refine x_put C (ci := 5) (kf := 2) rfl (by decide) hinX5_rowsBehind_X5 tyX5 tyX5_ok nmX5 lkX5_rowsBehind_0 rfl (Or.inl rfl) rfl hf dX5_rowsBehind_17 (pc' := 20) rfl (fun h4 _ hf => ?_)
  refine x_iconst C (v := 0) (by decide) dX5_rowsBehind_20 (pc' := 21) rfl ?_
  refine x_istore C dX5_rowsBehind_21 (pc' := 23) rfl (by decide) rfl (lv' := [some (vR a0), some (vR a1), some (vR a2), some (vI i3), some (vL (0 : Int64)), none, some (vI (0 : Int32)), none, none]) rfl ?_
  refine x_keep [true, false, false, false, true, false, true, false, false] rfl ?_
  refine x_more (k' := 0) (n' := 0) (Nat.le_of_ble_eq_true rfl) (Nat.le_of_ble_eq_true rfl) ?_
  exact mX5_rowsBehind_w23 C hr hlk hnm FUEL a0 (0 : Int64) (0 : Int32) h4 hf
-- ===== X5_closedBehind
theorem lkX5_closedBehind_0 : Cond.fieldLink RX5 23 "MossRings$Walks" "start" "I" ∈ wsX5_closedBehind := by decide +kernel
theorem hinX5_closedBehind_X5 : ∀ w ∈ u_ws RX5 TX5 3, w ∈ wsX5_closedBehind := by decide +kernel
theorem lkX5_closedBehind_1 : Cond.fieldLink RX5 15 "MossRings$Walks" "rule" "LMossRings$Rule;" ∈ wsX5_closedBehind := by decide +kernel
theorem hinX5_closedBehind_X1 : ∀ w ∈ u_ws RX1 TX1 5, w ∈ wsX5_closedBehind := by decide +kernel
def fX5_closedBehind_b86 (a0 : Nat) (a2 : Nat) (i3 : Int32) (j4 : Int64) (h : Hp) : Option (Int64 × Hp) := (gI h a0 5 2).bind fun v1 => if v1 = (-1 : Int32) then (some (j4, h)) else ((gI h a0 5 2).bind fun v2 => (oK h a0 5 (fX5_weigh h a0 a2 i3 v2)).bind fun h4 => some (j4, h4))
set_option maxHeartbeats 4000000 in
set_option maxRecDepth 100000 in
theorem mX5_closedBehind_b86 {g : XG} {p : Program} {l : Launch} {e : Env} {s : State} {m : MethodId} {args : Array Value} {below : List Frame} {meth : Method} {c : Code} (C : x_C g p s m args c cX5_closedBehind RX5 9 wsX5_closedBehind) (hr : meth.sig.returnType = (some .long)) (hlk : meth.locks = false) (hnm : meth.name = yX5_closedBehind.name) {res : Int64 × Hp} (a0 : Nat) (a2 : Nat) (i3 : Int32) (j4 : Int64) (h : Hp) (hf : fX5_closedBehind_b86 a0 a2 i3 j4 h = some res) : XW g p l e { frames := 3, cells := 0, slots := 0, locals := 75 } s m args below meth c (MQ below (x_Q g (some (vL res.1)) res.2) args s 0 0 (x_A g)) 9 0 0 h 86 [some (vR a0), none, some (vR a2), some (vI i3), some (vL j4), none, none, none, none] [] := by
  unfold fX5_closedBehind_b86 at hf
  refine x_aload_n C dX5_closedBehind_86 (pc' := 87) rfl rfl rfl ?_
  refine x_getI C (ci := 5) (kf := 2) rfl (by decide) hinX5_closedBehind_X5 lkX5_closedBehind_0 rfl hf dX5_closedBehind_87 (pc' := 90) rfl (fun v1 _ hf => ?_)
  refine x_iconst C (v := -1) (by decide) dX5_closedBehind_90 (pc' := 91) rfl ?_
  refine x_icmp_eq C hf dX5_closedBehind_91 (pc' := 94) rfl (tgt := 104) (by decide) (fun _ hf => ?_) (fun _ hf => ?_)
  ·
    refine x_lload C dX5_closedBehind_104 (pc' := 106) rfl rfl ?_
    cases hf
    exact x_lret C hr hlk dX5_closedBehind_106
  ·
    refine x_aload_n C dX5_closedBehind_94 (pc' := 95) rfl rfl rfl ?_
    refine x_aload_n C dX5_closedBehind_95 (pc' := 96) rfl rfl rfl ?_
    refine x_iload_n C dX5_closedBehind_96 (pc' := 97) rfl rfl rfl ?_
    refine x_aload_n C dX5_closedBehind_97 (pc' := 98) rfl rfl rfl ?_
    refine x_getI C (ci := 5) (kf := 2) rfl (by decide) hinX5_closedBehind_X5 lkX5_closedBehind_0 rfl hf dX5_closedBehind_98 (pc' := 101) rfl (fun v2 _ hf => ?_)
    obtain ⟨h4, hq, hf⟩ := bind_some hf
    obtain ⟨hob, hq⟩ := oK_some hq
    refine x_callV C (As := [vR a2, vI i3, vI v2]) (st := []) (r := none) (h' := h4) (mc := 0) (ms := 0) (k := 0) (n := 0) (mX5_weigh hq) hob (ci := 5) rfl (cwV 3 C.1.2.2.2.2 gX5_closedBehind_X5_weigh rfl rfl rfl (by decide +kernel) ⟨Nat.le_of_ble_eq_true rfl, Nat.le_of_ble_eq_true rfl⟩) rfl rfl (Nat.le_of_ble_eq_true rfl) dX5_closedBehind_101 (pc' := 104) rfl ?_
    refine x_lload C dX5_closedBehind_104 (pc' := 106) rfl rfl ?_
    cases hf
    exact x_lret C hr hlk dX5_closedBehind_106
def fX5_closedBehind_b77 (w16 : Nat → Nat → Int32 → Int64 → Int32 → Hp → Option (Int64 × Hp)) (a0 : Nat) (a2 : Nat) (i3 : Int32) (j4 : Int64) (i6 : Int32) (s0 : Int32) (s1 : Nat) (h : Hp) : Option (Int64 × Hp) := (pF h s1 5 2 (vI s0)).bind fun h1 => w16 a0 a2 i3 j4 (i6 + 1) h1
set_option maxHeartbeats 4000000 in
set_option maxRecDepth 100000 in
theorem mX5_closedBehind_b77 {g : XG} {p : Program} {l : Launch} {e : Env} {s : State} {m : MethodId} {args : Array Value} {below : List Frame} {meth : Method} {c : Code} (C : x_C g p s m args c cX5_closedBehind RX5 9 wsX5_closedBehind) (hr : meth.sig.returnType = (some .long)) (hlk : meth.locks = false) (hnm : meth.name = yX5_closedBehind.name) {res : Int64 × Hp} (w16 : Nat → Nat → Int32 → Int64 → Int32 → Hp → Option (Int64 × Hp)) (hw16 : ∀ (a0 : Nat) (a2 : Nat) (i3 : Int32) (j4 : Int64) (i6 : Int32) (h : Hp), w16 a0 a2 i3 j4 i6 h = some res → XW g p l e { frames := 3, cells := 0, slots := 0, locals := 75 } s m args below meth c (MQ below (x_Q g (some (vL res.1)) res.2) args s 0 0 (x_A g)) 9 0 0 h 16 [some (vR a0), none, some (vR a2), some (vI i3), some (vL j4), none, some (vI i6), none, none] []) (a0 : Nat) (a2 : Nat) (i3 : Int32) (j4 : Int64) (i6 : Int32) (s0 : Int32) (s1 : Nat) (h : Hp) (hf : fX5_closedBehind_b77 w16 a0 a2 i3 j4 i6 s0 s1 h = some res) : XW g p l e { frames := 3, cells := 0, slots := 0, locals := 75 } s m args below meth c (MQ below (x_Q g (some (vL res.1)) res.2) args s 0 0 (x_A g)) 9 0 0 h 77 [some (vR a0), none, some (vR a2), some (vI i3), some (vL j4), none, some (vI i6), none, none] [vI s0, vR s1] := by
  unfold fX5_closedBehind_b77 at hf
  refine x_put C (ci := 5) (kf := 2) rfl (by decide) hinX5_closedBehind_X5 tyX5 tyX5_ok nmX5 lkX5_closedBehind_0 rfl (Or.inl rfl) rfl hf dX5_closedBehind_77 (pc' := 80) rfl (fun h1 _ hf => ?_)
  refine x_iinc C dX5_closedBehind_80 (pc' := 83) rfl rfl (v := (i6 + 1)) rfl (by decide) rfl (lv' := [some (vR a0), none, some (vR a2), some (vI i3), some (vL j4), none, some (vI (i6 + 1)), none, none]) rfl ?_
  refine x_goto C dX5_closedBehind_83 (tgt := 16) (by decide) ?_
  exact hw16 a0 a2 i3 j4 (i6 + 1) h1 hf
def fX5_closedBehind_b73 (w16 : Nat → Nat → Int32 → Int64 → Int32 → Hp → Option (Int64 × Hp)) (a0 : Nat) (a2 : Nat) (i3 : Int32) (j4 : Int64) (i6 : Int32) (s0 : Nat) (h : Hp) : Option (Int64 × Hp) := (gI h a0 5 2).bind fun v1 => fX5_closedBehind_b77 w16 a0 a2 i3 j4 i6 v1 s0 h
set_option maxHeartbeats 4000000 in
set_option maxRecDepth 100000 in
theorem mX5_closedBehind_b73 {g : XG} {p : Program} {l : Launch} {e : Env} {s : State} {m : MethodId} {args : Array Value} {below : List Frame} {meth : Method} {c : Code} (C : x_C g p s m args c cX5_closedBehind RX5 9 wsX5_closedBehind) (hr : meth.sig.returnType = (some .long)) (hlk : meth.locks = false) (hnm : meth.name = yX5_closedBehind.name) {res : Int64 × Hp} (w16 : Nat → Nat → Int32 → Int64 → Int32 → Hp → Option (Int64 × Hp)) (hw16 : ∀ (a0 : Nat) (a2 : Nat) (i3 : Int32) (j4 : Int64) (i6 : Int32) (h : Hp), w16 a0 a2 i3 j4 i6 h = some res → XW g p l e { frames := 3, cells := 0, slots := 0, locals := 75 } s m args below meth c (MQ below (x_Q g (some (vL res.1)) res.2) args s 0 0 (x_A g)) 9 0 0 h 16 [some (vR a0), none, some (vR a2), some (vI i3), some (vL j4), none, some (vI i6), none, none] []) (a0 : Nat) (a2 : Nat) (i3 : Int32) (j4 : Int64) (i6 : Int32) (s0 : Nat) (h : Hp) (hf : fX5_closedBehind_b73 w16 a0 a2 i3 j4 i6 s0 h = some res) : XW g p l e { frames := 3, cells := 0, slots := 0, locals := 75 } s m args below meth c (MQ below (x_Q g (some (vL res.1)) res.2) args s 0 0 (x_A g)) 9 0 0 h 73 [some (vR a0), none, some (vR a2), some (vI i3), some (vL j4), none, some (vI i6), none, none] [vR s0] := by
  unfold fX5_closedBehind_b73 at hf
  refine x_aload_n C dX5_closedBehind_73 (pc' := 74) rfl rfl rfl ?_
  refine x_getI C (ci := 5) (kf := 2) rfl (by decide) hinX5_closedBehind_X5 lkX5_closedBehind_0 rfl hf dX5_closedBehind_74 (pc' := 77) rfl (fun v1 _ hf => ?_)
  refine x_more (k' := 0) (n' := 0) (Nat.le_of_ble_eq_true rfl) (Nat.le_of_ble_eq_true rfl) ?_
  exact mX5_closedBehind_b77 C hr hlk hnm w16 hw16 a0 a2 i3 j4 i6 v1 s0 h hf
def fX5_closedBehind_w16 : Nat → Nat → Nat → Int32 → Int64 → Int32 → Hp → Option (Int64 × Hp)
  | 0 => fun _ _ _ _ _ _ => none
  | n + 1 => fun a0 a2 i3 j4 i6 h => (gR h a0 5 1).bind fun v1 => (gI h v1 1 3).bind fun v2 => if v2 ≤ i6 then (fX5_closedBehind_b86 a0 a2 i3 j4 h) else ((oK h a0 5 (fX5_weigh h a0 a2 i3 i6)).bind fun h4 => call (oK h4 a0 5 (fX5_waysFrom h4 a0 (0 : Int32) i6)) fun r5 h6 => setv ((j4 + r5)) fun v7 => (gI h6 a0 5 2).bind fun v8 => if v8 = (-1 : Int32) then (if (lg_cmp r5 (0 : Int64)) ≤ 0 then (fX5_closedBehind_b73 (fX5_closedBehind_w16 n) a0 a2 i3 v7 i6 a0 h6) else (fX5_closedBehind_b77 (fX5_closedBehind_w16 n) a0 a2 i3 v7 i6 i6 a0 h6)) else (fX5_closedBehind_b73 (fX5_closedBehind_w16 n) a0 a2 i3 v7 i6 a0 h6))
set_option maxHeartbeats 4000000 in
set_option maxRecDepth 100000 in
theorem mX5_closedBehind_w16 {g : XG} {p : Program} {l : Launch} {e : Env} {s : State} {m : MethodId} {args : Array Value} {below : List Frame} {meth : Method} {c : Code} (C : x_C g p s m args c cX5_closedBehind RX5 9 wsX5_closedBehind) (hr : meth.sig.returnType = (some .long)) (hlk : meth.locks = false) (hnm : meth.name = yX5_closedBehind.name) {res : Int64 × Hp} : ∀ (n : Nat) (a0 : Nat) (a2 : Nat) (i3 : Int32) (j4 : Int64) (i6 : Int32) (h : Hp), fX5_closedBehind_w16 n a0 a2 i3 j4 i6 h = some res → XW g p l e { frames := 3, cells := 0, slots := 0, locals := 75 } s m args below meth c (MQ below (x_Q g (some (vL res.1)) res.2) args s 0 0 (x_A g)) 9 0 0 h 16 [some (vR a0), none, some (vR a2), some (vI i3), some (vL j4), none, some (vI i6), none, none] [] := by
  intro n
  induction n with
  | zero =>
    intro a0 a2 i3 j4 i6 h hf
    have hf2 : (none : Option (Int64 × Hp)) = some res := hf
    cases hf2
  | succ n ih =>
    intro a0 a2 i3 j4 i6 h hf
    rw [fX5_closedBehind_w16] at hf
    refine x_iload C dX5_closedBehind_16 (pc' := 18) rfl rfl ?_
    refine x_aload_n C dX5_closedBehind_18 (pc' := 19) rfl rfl rfl ?_
    refine x_getR C (ci := 5) (kf := 1) rfl (by decide) hinX5_closedBehind_X5 lkX5_closedBehind_1 rfl hf dX5_closedBehind_19 (pc' := 22) rfl (fun v1 _ hf => ?_)
    refine x_getIN C (ci := 1) (kf := 3) rfl (by decide) hinX5_closedBehind_X1 (List.mem_of_getElem? (i := 12) rfl) rfl hf dX5_closedBehind_22 (pc' := 25) rfl (fun v2 _ hf => ?_)
    refine x_icmp_ge C hf dX5_closedBehind_25 (pc' := 28) rfl (tgt := 86) (by decide) (fun _ hf => ?_) (fun _ hf => ?_)
    ·
      refine x_keep [true, false, true, true, true, false, false, false, false] rfl ?_
      refine x_more (k' := 0) (n' := 0) (Nat.le_of_ble_eq_true rfl) (Nat.le_of_ble_eq_true rfl) ?_
      exact mX5_closedBehind_b86 C hr hlk hnm a0 a2 i3 j4 h hf
    ·
      refine x_aload_n C dX5_closedBehind_28 (pc' := 29) rfl rfl rfl ?_
      refine x_aload_n C dX5_closedBehind_29 (pc' := 30) rfl rfl rfl ?_
      refine x_iload_n C dX5_closedBehind_30 (pc' := 31) rfl rfl rfl ?_
      refine x_iload C dX5_closedBehind_31 (pc' := 33) rfl rfl ?_
      obtain ⟨h4, hq, hf⟩ := bind_some hf
      obtain ⟨hob, hq⟩ := oK_some hq
      refine x_callV C (As := [vR a2, vI i3, vI i6]) (st := []) (r := none) (h' := h4) (mc := 0) (ms := 0) (k := 0) (n := 0) (mX5_weigh hq) hob (ci := 5) rfl (cwV 3 C.1.2.2.2.2 gX5_closedBehind_X5_weigh rfl rfl rfl (by decide +kernel) ⟨Nat.le_of_ble_eq_true rfl, Nat.le_of_ble_eq_true rfl⟩) rfl rfl (Nat.le_of_ble_eq_true rfl) dX5_closedBehind_33 (pc' := 36) rfl ?_
      refine x_aload_n C dX5_closedBehind_36 (pc' := 37) rfl rfl rfl ?_
      refine x_iconst C (v := 0) (by decide) dX5_closedBehind_37 (pc' := 38) rfl ?_
      refine x_iload C dX5_closedBehind_38 (pc' := 40) rfl rfl ?_
      obtain ⟨r5, h6, hq, hf⟩ := call_some hf
      obtain ⟨hob, hq⟩ := oK_some hq
      refine x_callV C (As := [vI (0 : Int32), vI i6]) (st := []) (r := (some (vL r5))) (h' := h6) (mc := 0) (ms := 0) (k := 0) (n := 0) (mX5_waysFrom hq) hob (ci := 5) rfl (cwV 2 C.1.2.2.2.2 gX5_closedBehind_X5_waysFrom rfl rfl rfl (by decide +kernel) ⟨Nat.le_of_ble_eq_true rfl, Nat.le_of_ble_eq_true rfl⟩) rfl rfl (Nat.le_of_ble_eq_true rfl) dX5_closedBehind_40 (pc' := 43) rfl ?_
      refine x_lstore C dX5_closedBehind_43 (pc' := 45) rfl (by decide) rfl (lv' := [some (vR a0), none, some (vR a2), some (vI i3), some (vL j4), none, some (vI i6), some (vL r5), none]) rfl ?_
      refine x_lload C dX5_closedBehind_45 (pc' := 47) rfl rfl ?_
      refine x_lload C dX5_closedBehind_47 (pc' := 49) rfl rfl ?_
      refine x_ladd C dX5_closedBehind_49 (pc' := 50) rfl ?_
      refine x_nameL hf (fun v7 _ hf => ?_)
      refine x_lstore C dX5_closedBehind_50 (pc' := 52) rfl (by decide) rfl (lv' := [some (vR a0), none, some (vR a2), some (vI i3), some (vL v7), none, some (vI i6), some (vL r5), none]) rfl ?_
      refine x_aload_n C dX5_closedBehind_52 (pc' := 53) rfl rfl rfl ?_
      refine x_aload_n C dX5_closedBehind_53 (pc' := 54) rfl rfl rfl ?_
      refine x_getI C (ci := 5) (kf := 2) rfl (by decide) hinX5_closedBehind_X5 lkX5_closedBehind_0 rfl hf dX5_closedBehind_54 (pc' := 57) rfl (fun v8 _ hf => ?_)
      refine x_iconst C (v := -1) (by decide) dX5_closedBehind_57 (pc' := 58) rfl ?_
      refine x_icmp_ne C hf dX5_closedBehind_58 (pc' := 61) rfl (tgt := 73) (by decide) (fun _ hf => ?_) (fun _ hf => ?_)
      ·
        refine x_lload C dX5_closedBehind_61 (pc' := 63) rfl rfl ?_
        refine x_lconst C (v := 0) (by decide) dX5_closedBehind_63 (pc' := 64) rfl ?_
        refine x_lcmp C dX5_closedBehind_64 (pc' := 65) rfl ?_
        refine x_if_le C hf dX5_closedBehind_65 (pc' := 68) rfl (tgt := 73) (by decide) (fun _ hf => ?_) (fun _ hf => ?_)
        ·
          refine x_keep [true, false, true, true, true, false, true, false, false] rfl ?_
          refine x_more (k' := 0) (n' := 0) (Nat.le_of_ble_eq_true rfl) (Nat.le_of_ble_eq_true rfl) ?_
          exact mX5_closedBehind_b73 C hr hlk hnm (fX5_closedBehind_w16 n) ih a0 a2 i3 v7 i6 a0 h6 hf
        ·
          refine x_iload C dX5_closedBehind_68 (pc' := 70) rfl rfl ?_
          refine x_goto C dX5_closedBehind_70 (tgt := 77) (by decide) ?_
          refine x_keep [true, false, true, true, true, false, true, false, false] rfl ?_
          refine x_more (k' := 0) (n' := 0) (Nat.le_of_ble_eq_true rfl) (Nat.le_of_ble_eq_true rfl) ?_
          exact mX5_closedBehind_b77 C hr hlk hnm (fX5_closedBehind_w16 n) ih a0 a2 i3 v7 i6 i6 a0 h6 hf
      ·
        refine x_keep [true, false, true, true, true, false, true, false, false] rfl ?_
        refine x_more (k' := 0) (n' := 0) (Nat.le_of_ble_eq_true rfl) (Nat.le_of_ble_eq_true rfl) ?_
        exact mX5_closedBehind_b73 C hr hlk hnm (fX5_closedBehind_w16 n) ih a0 a2 i3 v7 i6 a0 h6 hf
def fX5_closedBehind (h : Hp) (a0 : Nat) (a1 : Nat) (a2 : Nat) (i3 : Int32) : Option (Int64 × Hp) := (pF h a0 5 1 (vR a1)).bind fun h1 => (pF h1 a0 5 2 (vI (-1 : Int32))).bind fun h2 => fX5_closedBehind_w16 FUEL a0 a2 i3 (0 : Int64) (0 : Int32) h2
set_option maxHeartbeats 4000000 in
set_option maxRecDepth 100000 in
theorem mX5_closedBehind {l : Launch} {g : XG} {h : Hp} {a0 : Nat} {a1 : Nat} {a2 : Nat} {i3 : Int32} {res : Int64 × Hp} (hf : fX5_closedBehind h a0 a1 a2 i3 = some res) : XM l g yX5_closedBehind wsX5_closedBehind 3 75 0 0 [vR a0, vR a1, vR a2, vI i3] h (some (vL res.1)) res.2 := by
  refine x_start (cc := cX5_closedBehind) (maxL := 9) (ret := (some .long)) (by decide) rfl (Nat.le_of_ble_eq_true rfl) (lv := [some (vR a0), some (vR a1), some (vR a2), some (vI i3), none, none, none, none, none]) rfl ?_
  intro p e s m args below meth c C hr hlk hnm
  unfold fX5_closedBehind at hf
  refine x_aload_n C dX5_closedBehind_0 (pc' := 1) rfl rfl rfl ?_
  refine x_aload_n C dX5_closedBehind_1 (pc' := 2) rfl rfl rfl ?_
  refine x_put C (ci := 5) (kf := 1) rfl (by decide) hinX5_closedBehind_X5 tyX5 tyX5_ok nmX5 lkX5_closedBehind_1 rfl (Or.inl rfl) rfl hf dX5_closedBehind_2 (pc' := 5) rfl (fun h1 _ hf => ?_)
  refine x_lconst C (v := 0) (by decide) dX5_closedBehind_5 (pc' := 6) rfl ?_
  refine x_lstore C dX5_closedBehind_6 (pc' := 8) rfl (by decide) rfl (lv' := [some (vR a0), some (vR a1), some (vR a2), some (vI i3), some (vL (0 : Int64)), none, none, none, none]) rfl ?_
  refine x_aload_n C dX5_closedBehind_8 (pc' := 9) rfl rfl rfl ?_
  refine x_iconst C (v := -1) (by decide) dX5_closedBehind_9 (pc' := 10) rfl ?_
  refine x_put C (ci := 5) (kf := 2) rfl (by decide) hinX5_closedBehind_X5 tyX5 tyX5_ok nmX5 lkX5_closedBehind_0 rfl (Or.inl rfl) rfl hf dX5_closedBehind_10 (pc' := 13) rfl (fun h2 _ hf => ?_)
  refine x_iconst C (v := 0) (by decide) dX5_closedBehind_13 (pc' := 14) rfl ?_
  refine x_istore C dX5_closedBehind_14 (pc' := 16) rfl (by decide) rfl (lv' := [some (vR a0), some (vR a1), some (vR a2), some (vI i3), some (vL (0 : Int64)), none, some (vI (0 : Int32)), none, none]) rfl ?_
  refine x_keep [true, false, true, true, true, false, true, false, false] rfl ?_
  refine x_more (k' := 0) (n' := 0) (Nat.le_of_ble_eq_true rfl) (Nat.le_of_ble_eq_true rfl) ?_
  exact mX5_closedBehind_w16 C hr hlk hnm FUEL a0 a2 i3 (0 : Int64) (0 : Int32) h2 hf
-- ===== X5_writeFirst
theorem lkX5_writeFirst_0 : Cond.fieldLink RX5 15 "MossRings$Walks" "rule" "LMossRings$Rule;" ∈ wsX5_writeFirst := by decide +kernel
theorem hinX5_writeFirst_X5 : ∀ w ∈ u_ws RX5 TX5 3, w ∈ wsX5_writeFirst := by decide +kernel
theorem hinX5_writeFirst_X1 : ∀ w ∈ u_ws RX1 TX1 5, w ∈ wsX5_writeFirst := by decide +kernel
theorem lkX5_writeFirst_1 : Cond.fieldLink RX5 23 "MossRings$Walks" "start" "I" ∈ wsX5_writeFirst := by decide +kernel
def fX5_writeFirst_w59 : Nat → Nat → Nat → Int32 → Nat → Int32 → Int32 → Int32 → Hp → Option (Int32 × Hp)
  | 0 => fun _ _ _ _ _ _ _ _ => none
  | n + 1 => fun a0 a1 i2 a3 i4 i5 i6 h => if i2 ≤ i6 then (some ((i4 + i2), h)) else ((aI h a1 0 i6).bind fun v1 => call (oK h a0 5 (fX5_firstCell h a0 i6 i5 v1)) fun r2 h3 => (sI h3 a3 0 (i4 + i6) r2).bind fun h4 => (gR h4 a0 5 1).bind fun v5 => (gI h4 v5 1 0).bind fun v6 => (gR h4 a0 5 1).bind fun v7 => (gI h4 v7 1 3).bind fun v8 => iRem ((i5 * v6) + r2) v8 fun v9 => (fX5_writeFirst_w59 n) a0 a1 i2 a3 i4 v9 (i6 + 1) h4)
set_option maxHeartbeats 4000000 in
set_option maxRecDepth 100000 in
theorem mX5_writeFirst_w59 {g : XG} {p : Program} {l : Launch} {e : Env} {s : State} {m : MethodId} {args : Array Value} {below : List Frame} {meth : Method} {c : Code} (C : x_C g p s m args c cX5_writeFirst RX5 8 wsX5_writeFirst) (hr : meth.sig.returnType = (some .int)) (hlk : meth.locks = false) (hnm : meth.name = yX5_writeFirst.name) {res : Int32 × Hp} : ∀ (n : Nat) (a0 : Nat) (a1 : Nat) (i2 : Int32) (a3 : Nat) (i4 : Int32) (i5 : Int32) (i6 : Int32) (h : Hp), fX5_writeFirst_w59 n a0 a1 i2 a3 i4 i5 i6 h = some res → XW g p l e { frames := 2, cells := 0, slots := 0, locals := 48 } s m args below meth c (MQ below (x_Q g (some (vI res.1)) res.2) args s 0 0 (x_A g)) 8 0 0 h 59 [some (vR a0), some (vR a1), some (vI i2), some (vR a3), some (vI i4), some (vI i5), some (vI i6), none] [] := by
  intro n
  induction n with
  | zero =>
    intro a0 a1 i2 a3 i4 i5 i6 h hf
    have hf2 : (none : Option (Int32 × Hp)) = some res := hf
    cases hf2
  | succ n ih =>
    intro a0 a1 i2 a3 i4 i5 i6 h hf
    rw [fX5_writeFirst_w59] at hf
    refine x_iload C dX5_writeFirst_59 (pc' := 61) rfl rfl ?_
    refine x_iload_n C dX5_writeFirst_61 (pc' := 62) rfl rfl rfl ?_
    refine x_icmp_ge C hf dX5_writeFirst_62 (pc' := 65) rfl (tgt := 117) (by decide) (fun _ hf => ?_) (fun _ hf => ?_)
    ·
      refine x_iload C dX5_writeFirst_117 (pc' := 119) rfl rfl ?_
      refine x_iload_n C dX5_writeFirst_119 (pc' := 120) rfl rfl rfl ?_
      refine x_iadd C dX5_writeFirst_120 (pc' := 121) rfl ?_
      cases hf
      exact x_iret C hr hlk dX5_writeFirst_121
    ·
      refine x_aload_n C dX5_writeFirst_65 (pc' := 66) rfl rfl rfl ?_
      refine x_iload C dX5_writeFirst_66 (pc' := 68) rfl rfl ?_
      refine x_iload C dX5_writeFirst_68 (pc' := 70) rfl rfl ?_
      refine x_aload_n C dX5_writeFirst_70 (pc' := 71) rfl rfl rfl ?_
      refine x_iload C dX5_writeFirst_71 (pc' := 73) rfl rfl ?_
      refine x_iaload C hf dX5_writeFirst_73 (pc' := 74) rfl (fun v1 _ hf => ?_)
      obtain ⟨r2, h3, hq, hf⟩ := call_some hf
      obtain ⟨hob, hq⟩ := oK_some hq
      refine x_callV C (As := [vI i6, vI i5, vI v1]) (st := []) (r := (some (vI r2))) (h' := h3) (mc := 0) (ms := 0) (k := 0) (n := 0) (mX5_firstCell hq) hob (ci := 5) rfl (cwV 3 C.1.2.2.2.2 gX5_writeFirst_X5_firstCell rfl rfl rfl (by decide +kernel) ⟨Nat.le_of_ble_eq_true rfl, Nat.le_of_ble_eq_true rfl⟩) rfl rfl (Nat.le_of_ble_eq_true rfl) dX5_writeFirst_74 (pc' := 77) rfl ?_
      refine x_istore C dX5_writeFirst_77 (pc' := 79) rfl (by decide) rfl (lv' := [some (vR a0), some (vR a1), some (vI i2), some (vR a3), some (vI i4), some (vI i5), some (vI i6), some (vI r2)]) rfl ?_
      refine x_aload_n C dX5_writeFirst_79 (pc' := 80) rfl rfl rfl ?_
      refine x_iload C dX5_writeFirst_80 (pc' := 82) rfl rfl ?_
      refine x_iload C dX5_writeFirst_82 (pc' := 84) rfl rfl ?_
      refine x_iadd C dX5_writeFirst_84 (pc' := 85) rfl ?_
      refine x_iload C dX5_writeFirst_85 (pc' := 87) rfl rfl ?_
      refine x_iastore C hf dX5_writeFirst_87 (pc' := 88) rfl (fun h4 _ hf => ?_)
      refine x_iload C dX5_writeFirst_88 (pc' := 90) rfl rfl ?_
      refine x_aload_n C dX5_writeFirst_90 (pc' := 91) rfl rfl rfl ?_
      refine x_getR C (ci := 5) (kf := 1) rfl (by decide) hinX5_writeFirst_X5 lkX5_writeFirst_0 rfl hf dX5_writeFirst_91 (pc' := 94) rfl (fun v5 _ hf => ?_)
      refine x_getIN C (ci := 1) (kf := 0) rfl (by decide) hinX5_writeFirst_X1 (List.mem_of_getElem? (i := 3) rfl) rfl hf dX5_writeFirst_94 (pc' := 97) rfl (fun v6 _ hf => ?_)
      refine x_imul C dX5_writeFirst_97 (pc' := 98) rfl ?_
      refine x_iload C dX5_writeFirst_98 (pc' := 100) rfl rfl ?_
      refine x_iadd C dX5_writeFirst_100 (pc' := 101) rfl ?_
      refine x_aload_n C dX5_writeFirst_101 (pc' := 102) rfl rfl rfl ?_
      refine x_getR C (ci := 5) (kf := 1) rfl (by decide) hinX5_writeFirst_X5 lkX5_writeFirst_0 rfl hf dX5_writeFirst_102 (pc' := 105) rfl (fun v7 _ hf => ?_)
      refine x_getIN C (ci := 1) (kf := 3) rfl (by decide) hinX5_writeFirst_X1 (List.mem_of_getElem? (i := 12) rfl) rfl hf dX5_writeFirst_105 (pc' := 108) rfl (fun v8 _ hf => ?_)
      refine x_irem C hf dX5_writeFirst_108 (pc' := 109) rfl (fun _ v9 _ hf => ?_)
      refine x_istore C dX5_writeFirst_109 (pc' := 111) rfl (by decide) rfl (lv' := [some (vR a0), some (vR a1), some (vI i2), some (vR a3), some (vI i4), some (vI v9), some (vI i6), some (vI r2)]) rfl ?_
      refine x_iinc C dX5_writeFirst_111 (pc' := 114) rfl rfl (v := (i6 + 1)) rfl (by decide) rfl (lv' := [some (vR a0), some (vR a1), some (vI i2), some (vR a3), some (vI i4), some (vI v9), some (vI (i6 + 1)), some (vI r2)]) rfl ?_
      refine x_goto C dX5_writeFirst_114 (tgt := 59) (by decide) ?_
      refine x_keep [true, true, true, true, true, true, true, false] rfl ?_
      exact ih a0 a1 i2 a3 i4 v9 (i6 + 1) h4 hf
def fX5_writeFirst (h : Hp) (a0 : Nat) (a1 : Nat) (i2 : Int32) (a3 : Nat) : Option (Int32 × Hp) := (gR h a0 5 1).bind fun v1 => (gI h v1 1 1).bind fun v2 => setv ((v2 - (1 : Int32))) fun v3 => (gI h a0 5 2).bind fun v4 => if v4 = (-1 : Int32) then (some ((0 : Int32), h)) else ((aN h a1).bind fun v5 => if v5 < i2 then (some ((0 : Int32), h)) else ((aN h a3).bind fun v6 => if (v3 + i2) ≤ v6 then ((gR h a0 5 1).bind fun v7 => (gI h a0 5 2).bind fun v8 => (oK h v7 1 (fX1_spread h v7 v8 v3 a3)).bind fun h10 => (gI h10 a0 5 2).bind fun v11 => fX5_writeFirst_w59 FUEL a0 a1 i2 a3 v3 v11 (0 : Int32) h10) else (some ((0 : Int32), h))))
set_option maxHeartbeats 4000000 in
set_option maxRecDepth 100000 in
theorem mX5_writeFirst {l : Launch} {g : XG} {h : Hp} {a0 : Nat} {a1 : Nat} {i2 : Int32} {a3 : Nat} {res : Int32 × Hp} (hf : fX5_writeFirst h a0 a1 i2 a3 = some res) : XM l g yX5_writeFirst wsX5_writeFirst 2 48 0 0 [vR a0, vR a1, vI i2, vR a3] h (some (vI res.1)) res.2 := by
  refine x_start (cc := cX5_writeFirst) (maxL := 8) (ret := (some .int)) (by decide) rfl (Nat.le_of_ble_eq_true rfl) (lv := [some (vR a0), some (vR a1), some (vI i2), some (vR a3), none, none, none, none]) rfl ?_
  intro p e s m args below meth c C hr hlk hnm
  unfold fX5_writeFirst at hf
  refine x_aload_n C dX5_writeFirst_0 (pc' := 1) rfl rfl rfl ?_
  refine x_getR C (ci := 5) (kf := 1) rfl (by decide) hinX5_writeFirst_X5 lkX5_writeFirst_0 rfl hf dX5_writeFirst_1 (pc' := 4) rfl (fun v1 _ hf => ?_)
  refine x_getIN C (ci := 1) (kf := 1) rfl (by decide) hinX5_writeFirst_X1 (List.mem_of_getElem? (i := 6) rfl) rfl hf dX5_writeFirst_4 (pc' := 7) rfl (fun v2 _ hf => ?_)
  refine x_iconst C (v := 1) (by decide) dX5_writeFirst_7 (pc' := 8) rfl ?_
  refine x_isub C dX5_writeFirst_8 (pc' := 9) rfl ?_
  refine x_nameI hf (fun v3 _ hf => ?_)
  refine x_istore C dX5_writeFirst_9 (pc' := 11) rfl (by decide) rfl (lv' := [some (vR a0), some (vR a1), some (vI i2), some (vR a3), some (vI v3), none, none, none]) rfl ?_
  refine x_aload_n C dX5_writeFirst_11 (pc' := 12) rfl rfl rfl ?_
  refine x_getI C (ci := 5) (kf := 2) rfl (by decide) hinX5_writeFirst_X5 lkX5_writeFirst_1 rfl hf dX5_writeFirst_12 (pc' := 15) rfl (fun v4 _ hf => ?_)
  refine x_iconst C (v := -1) (by decide) dX5_writeFirst_15 (pc' := 16) rfl ?_
  refine x_icmp_eq C hf dX5_writeFirst_16 (pc' := 19) rfl (tgt := 34) (by decide) (fun _ hf => ?_) (fun _ hf => ?_)
  ·
    refine x_iconst C (v := 0) (by decide) dX5_writeFirst_34 (pc' := 35) rfl ?_
    cases hf
    exact x_iret C hr hlk dX5_writeFirst_35
  ·
    refine x_iload_n C dX5_writeFirst_19 (pc' := 20) rfl rfl rfl ?_
    refine x_aload_n C dX5_writeFirst_20 (pc' := 21) rfl rfl rfl ?_
    refine x_alen C hf dX5_writeFirst_21 (pc' := 22) rfl (fun v5 _ hf => ?_)
    refine x_icmp_gt C hf dX5_writeFirst_22 (pc' := 25) rfl (tgt := 34) (by decide) (fun _ hf => ?_) (fun _ hf => ?_)
    ·
      refine x_iconst C (v := 0) (by decide) dX5_writeFirst_34 (pc' := 35) rfl ?_
      cases hf
      exact x_iret C hr hlk dX5_writeFirst_35
    ·
      refine x_iload C dX5_writeFirst_25 (pc' := 27) rfl rfl ?_
      refine x_iload_n C dX5_writeFirst_27 (pc' := 28) rfl rfl rfl ?_
      refine x_iadd C dX5_writeFirst_28 (pc' := 29) rfl ?_
      refine x_aload_n C dX5_writeFirst_29 (pc' := 30) rfl rfl rfl ?_
      refine x_alen C hf dX5_writeFirst_30 (pc' := 31) rfl (fun v6 _ hf => ?_)
      refine x_icmp_le C hf dX5_writeFirst_31 (pc' := 34) rfl (tgt := 36) (by decide) (fun _ hf => ?_) (fun _ hf => ?_)
      ·
        refine x_aload_n C dX5_writeFirst_36 (pc' := 37) rfl rfl rfl ?_
        refine x_getR C (ci := 5) (kf := 1) rfl (by decide) hinX5_writeFirst_X5 lkX5_writeFirst_0 rfl hf dX5_writeFirst_37 (pc' := 40) rfl (fun v7 _ hf => ?_)
        refine x_aload_n C dX5_writeFirst_40 (pc' := 41) rfl rfl rfl ?_
        refine x_getI C (ci := 5) (kf := 2) rfl (by decide) hinX5_writeFirst_X5 lkX5_writeFirst_1 rfl hf dX5_writeFirst_41 (pc' := 44) rfl (fun v8 _ hf => ?_)
        refine x_iload C dX5_writeFirst_44 (pc' := 46) rfl rfl ?_
        refine x_aload_n C dX5_writeFirst_46 (pc' := 47) rfl rfl rfl ?_
        obtain ⟨h10, hq, hf⟩ := bind_some hf
        obtain ⟨hob, hq⟩ := oK_some hq
        refine x_callV C (As := [vI v8, vI v3, vR a3]) (st := []) (r := none) (h' := h10) (mc := 0) (ms := 0) (k := 0) (n := 0) (mX1_spread hq) hob (ci := 1) rfl (cwV 3 C.1.2.2.2.2 gX5_writeFirst_X1_spread rfl rfl rfl (by decide +kernel) ⟨Nat.le_of_ble_eq_true rfl, Nat.le_of_ble_eq_true rfl⟩) rfl rfl (Nat.le_of_ble_eq_true rfl) dX5_writeFirst_47 (pc' := 50) rfl ?_
        refine x_aload_n C dX5_writeFirst_50 (pc' := 51) rfl rfl rfl ?_
        refine x_getI C (ci := 5) (kf := 2) rfl (by decide) hinX5_writeFirst_X5 lkX5_writeFirst_1 rfl hf dX5_writeFirst_51 (pc' := 54) rfl (fun v11 _ hf => ?_)
        refine x_istore C dX5_writeFirst_54 (pc' := 56) rfl (by decide) rfl (lv' := [some (vR a0), some (vR a1), some (vI i2), some (vR a3), some (vI v3), some (vI v11), none, none]) rfl ?_
        refine x_iconst C (v := 0) (by decide) dX5_writeFirst_56 (pc' := 57) rfl ?_
        refine x_istore C dX5_writeFirst_57 (pc' := 59) rfl (by decide) rfl (lv' := [some (vR a0), some (vR a1), some (vI i2), some (vR a3), some (vI v3), some (vI v11), some (vI (0 : Int32)), none]) rfl ?_
        refine x_more (k' := 0) (n' := 0) (Nat.le_of_ble_eq_true rfl) (Nat.le_of_ble_eq_true rfl) ?_
        exact mX5_writeFirst_w59 C hr hlk hnm FUEL a0 a1 i2 a3 v3 v11 (0 : Int32) h10 hf
      ·
        refine x_iconst C (v := 0) (by decide) dX5_writeFirst_34 (pc' := 35) rfl ?_
        cases hf
        exact x_iret C hr hlk dX5_writeFirst_35

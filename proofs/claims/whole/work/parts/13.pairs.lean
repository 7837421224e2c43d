-- ===== X0_init
theorem lkX0_init_0 : Cond.methodLink RX0 3 objectInit ∈ wsX0_init := by decide +kernel
theorem lkX0_init_1 : Cond.instanceMethod objectInit ∈ wsX0_init := by decide +kernel
theorem lkX0_init_2 : Cond.code objectInit ⟨#[0xb1]⟩ 1 none ∈ wsX0_init := by decide +kernel
theorem lkX0_init_3 : Cond.arrayClass .boolean ∈ wsX0_init := by decide +kernel
theorem lkX0_init_4 : Cond.fieldLink RX0 9 "MossRings$Pairs" "alive" "[Z" ∈ wsX0_init := by decide +kernel
theorem hinX0_init_X0 : ∀ w ∈ u_ws RX0 TX0 1, w ∈ wsX0_init := by decide +kernel
def fX0_init (h : Hp) (a0 : Nat) : Option (Hp) := if a0 = 0 then none else (mkA h 2 729 (729 : Int32) fun q1 h2 => (pF h2 a0 0 0 (vR q1)).bind fun h3 => some h3)
set_option maxHeartbeats 4000000 in
set_option maxRecDepth 100000 in
theorem mX0_init {l : Launch} {g : XG} {h : Hp} {a0 : Nat} {res : Hp} (hf : fX0_init h a0 = some res) : XM l g yX0_init wsX0_init 1 12 1 729 [vR a0] h none res := by
  refine x_start (cc := cX0_init) (maxL := 1) (ret := none) (by decide) rfl (Nat.le_of_ble_eq_true rfl) (lv := [some (vR a0)]) rfl ?_
  intro p e s m args below meth c C hr hlk hnm
  unfold fX0_init at hf
  refine x_aload_n C dX0_init_0 (pc' := 1) rfl rfl rfl ?_
  refine x_objInit C lkX0_init_0 lkX0_init_1 lkX0_init_2 (Nat.le_of_ble_eq_true rfl) (Nat.le_of_ble_eq_true rfl) hf dX0_init_1 (pc' := 4) rfl (fun hf => ?_)
  refine x_aload_n C dX0_init_4 (pc' := 5) rfl rfl rfl ?_
  refine x_sipush C (v := 729) (by decide) dX0_init_5 (pc' := 8) rfl ?_
  refine x_newI C (k := 0) (n := 0) (ty := .boolean) rfl (Or.inr (Or.inr ⟨rfl, rfl⟩)) lkX0_init_3 (by decide) hf dX0_init_8 (pc' := 10) rfl (fun q1 h2 _ _ _ _ hf => ?_)
  refine x_put C (ci := 0) (kf := 0) rfl (by decide) hinX0_init_X0 tyX0 tyX0_ok nmX0 lkX0_init_4 rfl (Or.inr ⟨rfl, hnm, rfl⟩) rfl hf dX0_init_10 (pc' := 13) rfl (fun h3 _ hf => ?_)
  cases hf
  exact x_vret C hr hlk dX0_init_13
-- ===== X0_lives
theorem lkX0_lives_0 : Cond.fieldLink RX0 9 "MossRings$Pairs" "alive" "[Z" ∈ wsX0_lives := by decide +kernel
theorem hinX0_lives_X0 : ∀ w ∈ u_ws RX0 TX0 1, w ∈ wsX0_lives := by decide +kernel
def fX0_lives (h : Hp) (a0 : Nat) (i1 : Int32) (i2 : Int32) : Option (Int32 × Hp) := setv (((i1 * (27 : Int32)) + i2)) fun v1 => if v1 < 0 then (retZ (0 : Int32) h) else ((gR h a0 0 0).bind fun v2 => (aN h v2).bind fun v3 => if v3 ≤ v1 then (retZ (0 : Int32) h) else ((gR h a0 0 0).bind fun v4 => (aI h v4 2 v1).bind fun v5 => if v5 = 0 then (retZ (0 : Int32) h) else (retZ (1 : Int32) h)))
set_option maxHeartbeats 4000000 in
set_option maxRecDepth 100000 in
theorem mX0_lives {l : Launch} {g : XG} {h : Hp} {a0 : Nat} {i1 : Int32} {i2 : Int32} {res : Int32 × Hp} (hf : fX0_lives h a0 i1 i2 = some res) : XM l g yX0_lives wsX0_lives 0 0 0 0 [vR a0, vI i1, vI i2] h (some (vI res.1)) res.2 := by
  refine x_start (cc := cX0_lives) (maxL := 4) (ret := (some .boolean)) (by decide) rfl (Nat.le_of_ble_eq_true rfl) (lv := [some (vR a0), some (vI i1), some (vI i2), none]) rfl ?_
  intro p e s m args below meth c C hr hlk hnm
  unfold fX0_lives at hf
  refine x_iload_n C dX0_lives_0 (pc' := 1) rfl rfl rfl ?_
  refine x_bipush C (v := 27) (by decide) dX0_lives_1 (pc' := 3) rfl ?_
  refine x_imul C dX0_lives_3 (pc' := 4) rfl ?_
  refine x_iload_n C dX0_lives_4 (pc' := 5) rfl rfl rfl ?_
  refine x_iadd C dX0_lives_5 (pc' := 6) rfl ?_
  refine x_nameI hf (fun v1 _ hf => ?_)
  refine x_istore_n C dX0_lives_6 (pc' := 7) rfl rfl (by decide) rfl (lv' := [some (vR a0), some (vI i1), some (vI i2), some (vI v1)]) rfl ?_
  refine x_iload_n C dX0_lives_7 (pc' := 8) rfl rfl rfl ?_
  refine x_if_lt C hf dX0_lives_8 (pc' := 11) rfl (tgt := 33) (by decide) (fun _ hf => ?_) (fun _ hf => ?_)
  ·
    refine x_iconst C (v := 0) (by decide) dX0_lives_33 (pc' := 34) rfl ?_
    exact x_zret C hf hr hlk dX0_lives_34
  ·
    refine x_iload_n C dX0_lives_11 (pc' := 12) rfl rfl rfl ?_
    refine x_aload_n C dX0_lives_12 (pc' := 13) rfl rfl rfl ?_
    refine x_getR C (ci := 0) (kf := 0) rfl (by decide) hinX0_lives_X0 lkX0_lives_0 rfl hf dX0_lives_13 (pc' := 16) rfl (fun v2 _ hf => ?_)
    refine x_alen C hf dX0_lives_16 (pc' := 17) rfl (fun v3 _ hf => ?_)
    refine x_icmp_ge C hf dX0_lives_17 (pc' := 20) rfl (tgt := 33) (by decide) (fun _ hf => ?_) (fun _ hf => ?_)
    ·
      refine x_iconst C (v := 0) (by decide) dX0_lives_33 (pc' := 34) rfl ?_
      exact x_zret C hf hr hlk dX0_lives_34
    ·
      refine x_aload_n C dX0_lives_20 (pc' := 21) rfl rfl rfl ?_
      refine x_getR C (ci := 0) (kf := 0) rfl (by decide) hinX0_lives_X0 lkX0_lives_0 rfl hf dX0_lives_21 (pc' := 24) rfl (fun v4 _ hf => ?_)
      refine x_iload_n C dX0_lives_24 (pc' := 25) rfl rfl rfl ?_
      refine x_baloadZ C hf dX0_lives_25 (pc' := 26) rfl (fun v5 _ hf => ?_)
      refine x_if_eq C hf dX0_lives_26 (pc' := 29) rfl (tgt := 33) (by decide) (fun _ hf => ?_) (fun _ hf => ?_)
      ·
        refine x_iconst C (v := 0) (by decide) dX0_lives_33 (pc' := 34) rfl ?_
        exact x_zret C hf hr hlk dX0_lives_34
      ·
        refine x_iconst C (v := 1) (by decide) dX0_lives_29 (pc' := 30) rfl ?_
        refine x_goto C dX0_lives_30 (tgt := 34) (by decide) ?_
        exact x_zret C hf hr hlk dX0_lives_34
-- ===== X0_setLife
theorem lkX0_setLife_0 : Cond.fieldLink RX0 9 "MossRings$Pairs" "alive" "[Z" ∈ wsX0_setLife := by decide +kernel
theorem hinX0_setLife_X0 : ∀ w ∈ u_ws RX0 TX0 1, w ∈ wsX0_setLife := by decide +kernel
def fX0_setLife (h : Hp) (a0 : Nat) (i1 : Int32) (i2 : Int32) (i3 : Int32) : Option (Hp) := setv (((i1 * (27 : Int32)) + i2)) fun v1 => if v1 < 0 then (some h) else ((gR h a0 0 0).bind fun v2 => (aN h v2).bind fun v3 => if v3 ≤ v1 then (some h) else ((gR h a0 0 0).bind fun v4 => (sI h v4 2 v1 i3).bind fun h5 => some h5))
set_option maxHeartbeats 4000000 in
set_option maxRecDepth 100000 in
theorem mX0_setLife {l : Launch} {g : XG} {h : Hp} {a0 : Nat} {i1 : Int32} {i2 : Int32} {i3 : Int32} {res : Hp} (hf : fX0_setLife h a0 i1 i2 i3 = some res) : XM l g yX0_setLife wsX0_setLife 0 0 0 0 [vR a0, vI i1, vI i2, vI i3] h none res := by
  refine x_start (cc := cX0_setLife) (maxL := 5) (ret := none) (by decide) rfl (Nat.le_of_ble_eq_true rfl) (lv := [some (vR a0), some (vI i1), some (vI i2), some (vI i3), none]) rfl ?_
  intro p e s m args below meth c C hr hlk hnm
  unfold fX0_setLife at hf
  refine x_iload_n C dX0_setLife_0 (pc' := 1) rfl rfl rfl ?_
  refine x_bipush C (v := 27) (by decide) dX0_setLife_1 (pc' := 3) rfl ?_
  refine x_imul C dX0_setLife_3 (pc' := 4) rfl ?_
  refine x_iload_n C dX0_setLife_4 (pc' := 5) rfl rfl rfl ?_
  refine x_iadd C dX0_setLife_5 (pc' := 6) rfl ?_
  refine x_nameI hf (fun v1 _ hf => ?_)
  refine x_istore C dX0_setLife_6 (pc' := 8) rfl (by decide) rfl (lv' := [some (vR a0), some (vI i1), some (vI i2), some (vI i3), some (vI v1)]) rfl ?_
  refine x_iload C dX0_setLife_8 (pc' := 10) rfl rfl ?_
  refine x_if_lt C hf dX0_setLife_10 (pc' := 13) rfl (tgt := 31) (by decide) (fun _ hf => ?_) (fun _ hf => ?_)
  ·
    cases hf
    exact x_vret C hr hlk dX0_setLife_31
  ·
    refine x_iload C dX0_setLife_13 (pc' := 15) rfl rfl ?_
    refine x_aload_n C dX0_setLife_15 (pc' := 16) rfl rfl rfl ?_
    refine x_getR C (ci := 0) (kf := 0) rfl (by decide) hinX0_setLife_X0 lkX0_setLife_0 rfl hf dX0_setLife_16 (pc' := 19) rfl (fun v2 _ hf => ?_)
    refine x_alen C hf dX0_setLife_19 (pc' := 20) rfl (fun v3 _ hf => ?_)
    refine x_icmp_ge C hf dX0_setLife_20 (pc' := 23) rfl (tgt := 31) (by decide) (fun _ hf => ?_) (fun _ hf => ?_)
    ·
      cases hf
      exact x_vret C hr hlk dX0_setLife_31
    ·
      refine x_aload_n C dX0_setLife_23 (pc' := 24) rfl rfl rfl ?_
      refine x_getR C (ci := 0) (kf := 0) rfl (by decide) hinX0_setLife_X0 lkX0_setLife_0 rfl hf dX0_setLife_24 (pc' := 27) rfl (fun v4 _ hf => ?_)
      refine x_iload C dX0_setLife_27 (pc' := 29) rfl rfl ?_
      refine x_iload_n C dX0_setLife_29 (pc' := 30) rfl rfl rfl ?_
      refine x_bastoreZ C hf dX0_setLife_30 (pc' := 31) rfl (fun h5 _ hf => ?_)
      cases hf
      exact x_vret C hr hlk dX0_setLife_31
-- ===== X0_begin
theorem hinX0_begin_X1 : ∀ w ∈ u_ws RX1 TX1 5, w ∈ wsX0_begin := by decide +kernel
def fX0_begin_b50 (w2 : Nat → Nat → Int32 → Hp → Option (Hp)) (a0 : Nat) (a1 : Nat) (i2 : Int32) (h : Hp) : Option (Hp) := w2 a0 a1 (i2 + 1) h
set_option maxHeartbeats 4000000 in
set_option maxRecDepth 100000 in
theorem mX0_begin_b50 {g : XG} {p : Program} {l : Launch} {e : Env} {s : State} {m : MethodId} {args : Array Value} {below : List Frame} {meth : Method} {c : Code} (C : x_C g p s m args c cX0_begin RX0 4 wsX0_begin) (hr : meth.sig.returnType = none) (hlk : meth.locks = false) (hnm : meth.name = yX0_begin.name) {res : Hp} (w2 : Nat → Nat → Int32 → Hp → Option (Hp)) (hw2 : ∀ (a0 : Nat) (a1 : Nat) (i2 : Int32) (h : Hp), w2 a0 a1 i2 h = some res → XW g p l e { frames := 1, cells := 0, slots := 0, locals := 24 } s m args below meth c (MQ below (x_Q g none res) args s 0 0 (x_A g)) 4 0 0 h 2 [some (vR a0), some (vR a1), some (vI i2), none] []) (a0 : Nat) (a1 : Nat) (i2 : Int32) (h : Hp) (hf : fX0_begin_b50 w2 a0 a1 i2 h = some res) : XW g p l e { frames := 1, cells := 0, slots := 0, locals := 24 } s m args below meth c (MQ below (x_Q g none res) args s 0 0 (x_A g)) 4 0 0 h 50 [some (vR a0), some (vR a1), some (vI i2), none] [] := by
  unfold fX0_begin_b50 at hf
  refine x_iinc C dX0_begin_50 (pc' := 53) rfl rfl (v := (i2 + 1)) rfl (by decide) rfl (lv' := [some (vR a0), some (vR a1), some (vI (i2 + 1)), none]) rfl ?_
  refine x_goto C dX0_begin_53 (tgt := 2) (by decide) ?_
  exact hw2 a0 a1 (i2 + 1) h hf
def fX0_begin_b41 (w2 : Nat → Nat → Int32 → Hp → Option (Hp)) (w12 : Nat → Nat → Int32 → Int32 → Hp → Option (Hp)) (a0 : Nat) (a1 : Nat) (i2 : Int32) (i3 : Int32) (s0 : Int32) (s1 : Int32) (s2 : Int32) (s3 : Nat) (h : Hp) : Option (Hp) := (oK h s3 0 (fX0_setLife h s3 s2 s1 s0)).bind fun h2 => w12 a0 a1 i2 (i3 + 1) h2
set_option maxHeartbeats 4000000 in
set_option maxRecDepth 100000 in
theorem mX0_begin_b41 {g : XG} {p : Program} {l : Launch} {e : Env} {s : State} {m : MethodId} {args : Array Value} {below : List Frame} {meth : Method} {c : Code} (C : x_C g p s m args c cX0_begin RX0 4 wsX0_begin) (hr : meth.sig.returnType = none) (hlk : meth.locks = false) (hnm : meth.name = yX0_begin.name) {res : Hp} (w2 : Nat → Nat → Int32 → Hp → Option (Hp)) (hw2 : ∀ (a0 : Nat) (a1 : Nat) (i2 : Int32) (h : Hp), w2 a0 a1 i2 h = some res → XW g p l e { frames := 1, cells := 0, slots := 0, locals := 24 } s m args below meth c (MQ below (x_Q g none res) args s 0 0 (x_A g)) 4 0 0 h 2 [some (vR a0), some (vR a1), some (vI i2), none] []) (w12 : Nat → Nat → Int32 → Int32 → Hp → Option (Hp)) (hw12 : ∀ (a0 : Nat) (a1 : Nat) (i2 : Int32) (i3 : Int32) (h : Hp), w12 a0 a1 i2 i3 h = some res → XW g p l e { frames := 1, cells := 0, slots := 0, locals := 24 } s m args below meth c (MQ below (x_Q g none res) args s 0 0 (x_A g)) 4 0 0 h 12 [some (vR a0), some (vR a1), some (vI i2), some (vI i3)] []) (a0 : Nat) (a1 : Nat) (i2 : Int32) (i3 : Int32) (s0 : Int32) (s1 : Int32) (s2 : Int32) (s3 : Nat) (h : Hp) (hf : fX0_begin_b41 w2 w12 a0 a1 i2 i3 s0 s1 s2 s3 h = some res) : XW g p l e { frames := 1, cells := 0, slots := 0, locals := 24 } s m args below meth c (MQ below (x_Q g none res) args s 0 0 (x_A g)) 4 0 0 h 41 [some (vR a0), some (vR a1), some (vI i2), some (vI i3)] [vI s0, vI s1, vI s2, vR s3] := by
  unfold fX0_begin_b41 at hf
  obtain ⟨h2, hq, hf⟩ := bind_some hf
  obtain ⟨hob, hq⟩ := oK_some hq
  refine x_callV C (As := [vI s2, vI s1, vI s0]) (st := []) (r := none) (h' := h2) (mc := 0) (ms := 0) (k := 0) (n := 0) (mX0_setLife hq) hob (ci := 0) rfl (cwV 3 C.1.2.2.2.2 gX0_begin_X0_setLife rfl rfl rfl (by decide +kernel) ⟨Nat.le_of_ble_eq_true rfl, Nat.le_of_ble_eq_true rfl⟩) rfl rfl (Nat.le_of_ble_eq_true rfl) dX0_begin_41 (pc' := 44) rfl ?_
  refine x_iinc C dX0_begin_44 (pc' := 47) rfl rfl (v := (i3 + 1)) rfl (by decide) rfl (lv' := [some (vR a0), some (vR a1), some (vI i2), some (vI (i3 + 1))]) rfl ?_
  refine x_goto C dX0_begin_47 (tgt := 12) (by decide) ?_
  exact hw12 a0 a1 i2 (i3 + 1) h2 hf
def fX0_begin_w12 (w2 : Nat → Nat → Int32 → Hp → Option (Hp)) : Nat → Nat → Nat → Int32 → Int32 → Hp → Option (Hp)
  | 0 => fun _ _ _ _ _ => none
  | n + 1 => fun a0 a1 i2 i3 h => (gI h a1 1 2).bind fun v1 => if v1 ≤ i3 then (fX0_begin_b50 w2 a0 a1 i2 h) else (call (oK h a1 1 (fX1_tells h a1 i2)) fun r2 h3 => call (oK h3 a1 1 (fX1_tells h3 a1 i3)) fun r4 h5 => if r2 = r4 then (fX0_begin_b41 w2 (fX0_begin_w12 w2 n) a0 a1 i2 i3 (1 : Int32) i3 i2 a0 h5) else (fX0_begin_b41 w2 (fX0_begin_w12 w2 n) a0 a1 i2 i3 (0 : Int32) i3 i2 a0 h5))
set_option maxHeartbeats 4000000 in
set_option maxRecDepth 100000 in
theorem mX0_begin_w12 {g : XG} {p : Program} {l : Launch} {e : Env} {s : State} {m : MethodId} {args : Array Value} {below : List Frame} {meth : Method} {c : Code} (C : x_C g p s m args c cX0_begin RX0 4 wsX0_begin) (hr : meth.sig.returnType = none) (hlk : meth.locks = false) (hnm : meth.name = yX0_begin.name) {res : Hp} (w2 : Nat → Nat → Int32 → Hp → Option (Hp)) (hw2 : ∀ (a0 : Nat) (a1 : Nat) (i2 : Int32) (h : Hp), w2 a0 a1 i2 h = some res → XW g p l e { frames := 1, cells := 0, slots := 0, locals := 24 } s m args below meth c (MQ below (x_Q g none res) args s 0 0 (x_A g)) 4 0 0 h 2 [some (vR a0), some (vR a1), some (vI i2), none] []) : ∀ (n : Nat) (a0 : Nat) (a1 : Nat) (i2 : Int32) (i3 : Int32) (h : Hp), fX0_begin_w12 w2 n a0 a1 i2 i3 h = some res → XW g p l e { frames := 1, cells := 0, slots := 0, locals := 24 } s m args below meth c (MQ below (x_Q g none res) args s 0 0 (x_A g)) 4 0 0 h 12 [some (vR a0), some (vR a1), some (vI i2), some (vI i3)] [] := by
  intro n
  induction n with
  | zero =>
    intro a0 a1 i2 i3 h hf
    have hf2 : (none : Option (Hp)) = some res := hf
    cases hf2
  | succ n ih =>
    intro a0 a1 i2 i3 h hf
    rw [fX0_begin_w12] at hf
    refine x_iload_n C dX0_begin_12 (pc' := 13) rfl rfl rfl ?_
    refine x_aload_n C dX0_begin_13 (pc' := 14) rfl rfl rfl ?_
    refine x_getIN C (ci := 1) (kf := 2) rfl (by decide) hinX0_begin_X1 (List.mem_of_getElem? (i := 8) rfl) rfl hf dX0_begin_14 (pc' := 17) rfl (fun v1 _ hf => ?_)
    refine x_icmp_ge C hf dX0_begin_17 (pc' := 20) rfl (tgt := 50) (by decide) (fun _ hf => ?_) (fun _ hf => ?_)
    ·
      refine x_keep [true, true, true, false] rfl ?_
      refine x_more (k' := 0) (n' := 0) (Nat.le_of_ble_eq_true rfl) (Nat.le_of_ble_eq_true rfl) ?_
      exact mX0_begin_b50 C hr hlk hnm w2 hw2 a0 a1 i2 h hf
    ·
      refine x_aload_n C dX0_begin_20 (pc' := 21) rfl rfl rfl ?_
      refine x_iload_n C dX0_begin_21 (pc' := 22) rfl rfl rfl ?_
      refine x_iload_n C dX0_begin_22 (pc' := 23) rfl rfl rfl ?_
      refine x_aload_n C dX0_begin_23 (pc' := 24) rfl rfl rfl ?_
      refine x_iload_n C dX0_begin_24 (pc' := 25) rfl rfl rfl ?_
      obtain ⟨r2, h3, hq, hf⟩ := call_some hf
      obtain ⟨hob, hq⟩ := oK_some hq
      refine x_callV C (As := [vI i2]) (st := [vI i3, vI i2, vR a0]) (r := (some (vI r2))) (h' := h3) (mc := 0) (ms := 0) (k := 0) (n := 0) (mX1_tells hq) hob (ci := 1) rfl (cwV 1 C.1.2.2.2.2 gX0_begin_X1_tells rfl rfl rfl (by decide +kernel) ⟨Nat.le_of_ble_eq_true rfl, Nat.le_of_ble_eq_true rfl⟩) rfl rfl (Nat.le_of_ble_eq_true rfl) dX0_begin_25 (pc' := 28) rfl ?_
      refine x_aload_n C dX0_begin_28 (pc' := 29) rfl rfl rfl ?_
      refine x_iload_n C dX0_begin_29 (pc' := 30) rfl rfl rfl ?_
      obtain ⟨r4, h5, hq, hf⟩ := call_some hf
      obtain ⟨hob, hq⟩ := oK_some hq
      refine x_callV C (As := [vI i3]) (st := [vI r2, vI i3, vI i2, vR a0]) (r := (some (vI r4))) (h' := h5) (mc := 0) (ms := 0) (k := 0) (n := 0) (mX1_tells hq) hob (ci := 1) rfl (cwV 1 C.1.2.2.2.2 gX0_begin_X1_tells rfl rfl rfl (by decide +kernel) ⟨Nat.le_of_ble_eq_true rfl, Nat.le_of_ble_eq_true rfl⟩) rfl rfl (Nat.le_of_ble_eq_true rfl) dX0_begin_30 (pc' := 33) rfl ?_
      refine x_icmp_ne C hf dX0_begin_33 (pc' := 36) rfl (tgt := 40) (by decide) (fun _ hf => ?_) (fun _ hf => ?_)
      ·
        refine x_iconst C (v := 1) (by decide) dX0_begin_36 (pc' := 37) rfl ?_
        refine x_goto C dX0_begin_37 (tgt := 41) (by decide) ?_
        refine x_more (k' := 0) (n' := 0) (Nat.le_of_ble_eq_true rfl) (Nat.le_of_ble_eq_true rfl) ?_
        exact mX0_begin_b41 C hr hlk hnm w2 hw2 (fX0_begin_w12 w2 n) ih a0 a1 i2 i3 (1 : Int32) i3 i2 a0 h5 hf
      ·
        refine x_iconst C (v := 0) (by decide) dX0_begin_40 (pc' := 41) rfl ?_
        refine x_more (k' := 0) (n' := 0) (Nat.le_of_ble_eq_true rfl) (Nat.le_of_ble_eq_true rfl) ?_
        exact mX0_begin_b41 C hr hlk hnm w2 hw2 (fX0_begin_w12 w2 n) ih a0 a1 i2 i3 (0 : Int32) i3 i2 a0 h5 hf
def fX0_begin_w2 : Nat → Nat → Nat → Int32 → Hp → Option (Hp)
  | 0 => fun _ _ _ _ => none
  | n + 1 => fun a0 a1 i2 h => (gI h a1 1 2).bind fun v1 => if v1 ≤ i2 then (some h) else (fX0_begin_w12 (fX0_begin_w2 n) FUEL a0 a1 i2 (0 : Int32) h)
set_option maxHeartbeats 4000000 in
set_option maxRecDepth 100000 in
theorem mX0_begin_w2 {g : XG} {p : Program} {l : Launch} {e : Env} {s : State} {m : MethodId} {args : Array Value} {below : List Frame} {meth : Method} {c : Code} (C : x_C g p s m args c cX0_begin RX0 4 wsX0_begin) (hr : meth.sig.returnType = none) (hlk : meth.locks = false) (hnm : meth.name = yX0_begin.name) {res : Hp} : ∀ (n : Nat) (a0 : Nat) (a1 : Nat) (i2 : Int32) (h : Hp), fX0_begin_w2 n a0 a1 i2 h = some res → XW g p l e { frames := 1, cells := 0, slots := 0, locals := 24 } s m args below meth c (MQ below (x_Q g none res) args s 0 0 (x_A g)) 4 0 0 h 2 [some (vR a0), some (vR a1), some (vI i2), none] [] := by
  intro n
  induction n with
  | zero =>
    intro a0 a1 i2 h hf
    have hf2 : (none : Option (Hp)) = some res := hf
    cases hf2
  | succ n ih =>
    intro a0 a1 i2 h hf
    rw [fX0_begin_w2] at hf
    refine x_iload_n C dX0_begin_2 (pc' := 3) rfl rfl rfl ?_
    refine x_aload_n C dX0_begin_3 (pc' := 4) rfl rfl rfl ?_
    refine x_getIN C (ci := 1) (kf := 2) rfl (by decide) hinX0_begin_X1 (List.mem_of_getElem? (i := 8) rfl) rfl hf dX0_begin_4 (pc' := 7) rfl (fun v1 _ hf => ?_)
    refine x_icmp_ge C hf dX0_begin_7 (pc' := 10) rfl (tgt := 56) (by decide) (fun _ hf => ?_) (fun _ hf => ?_)
    ·
      cases hf
      exact x_vret C hr hlk dX0_begin_56
    ·
      refine x_iconst C (v := 0) (by decide) dX0_begin_10 (pc' := 11) rfl ?_
      refine x_istore_n C dX0_begin_11 (pc' := 12) rfl rfl (by decide) rfl (lv' := [some (vR a0), some (vR a1), some (vI i2), some (vI (0 : Int32))]) rfl ?_
      refine x_more (k' := 0) (n' := 0) (Nat.le_of_ble_eq_true rfl) (Nat.le_of_ble_eq_true rfl) ?_
      exact mX0_begin_w12 C hr hlk hnm (fX0_begin_w2 n) ih FUEL a0 a1 i2 (0 : Int32) h hf
def fX0_begin (h : Hp) (a0 : Nat) (a1 : Nat) : Option (Hp) := fX0_begin_w2 FUEL a0 a1 (0 : Int32) h
set_option maxHeartbeats 4000000 in
set_option maxRecDepth 100000 in
theorem mX0_begin {l : Launch} {g : XG} {h : Hp} {a0 : Nat} {a1 : Nat} {res : Hp} (hf : fX0_begin h a0 a1 = some res) : XM l g yX0_begin wsX0_begin 1 24 0 0 [vR a0, vR a1] h none res := by
  refine x_start (cc := cX0_begin) (maxL := 4) (ret := none) (by decide) rfl (Nat.le_of_ble_eq_true rfl) (lv := [some (vR a0), some (vR a1), none, none]) rfl ?_
  intro p e s m args below meth c C hr hlk hnm
  unfold fX0_begin at hf
  refine x_iconst C (v := 0) (by decide) dX0_begin_0 (pc' := 1) rfl ?_
  refine x_istore_n C dX0_begin_1 (pc' := 2) rfl rfl (by decide) rfl (lv' := [some (vR a0), some (vR a1), some (vI (0 : Int32)), none]) rfl ?_
  refine x_more (k' := 0) (n' := 0) (Nat.le_of_ble_eq_true rfl) (Nat.le_of_ble_eq_true rfl) ?_
  exact mX0_begin_w2 C hr hlk hnm FUEL a0 a1 (0 : Int32) h hf
-- ===== X0_goesOn
theorem hinX0_goesOn_X1 : ∀ w ∈ u_ws RX1 TX1 5, w ∈ wsX0_goesOn := by decide +kernel
def fX0_goesOn_b75 (w29 : Nat → Nat → Int32 → Int32 → Int32 → Hp → Option (Int32 × Hp)) (a0 : Nat) (a1 : Nat) (i4 : Int32) (i5 : Int32) (i6 : Int32) (h : Hp) : Option (Int32 × Hp) := w29 a0 a1 i4 i5 (i6 + 1) h
set_option maxHeartbeats 4000000 in
set_option maxRecDepth 100000 in
theorem mX0_goesOn_b75 {g : XG} {p : Program} {l : Launch} {e : Env} {s : State} {m : MethodId} {args : Array Value} {below : List Frame} {meth : Method} {c : Code} (C : x_C g p s m args c cX0_goesOn RX0 8 wsX0_goesOn) (hr : meth.sig.returnType = (some .boolean)) (hlk : meth.locks = false) (hnm : meth.name = yX0_goesOn.name) {res : Int32 × Hp} (w29 : Nat → Nat → Int32 → Int32 → Int32 → Hp → Option (Int32 × Hp)) (hw29 : ∀ (a0 : Nat) (a1 : Nat) (i4 : Int32) (i5 : Int32) (i6 : Int32) (h : Hp), w29 a0 a1 i4 i5 i6 h = some res → XW g p l e { frames := 1, cells := 0, slots := 0, locals := 23 } s m args below meth c (MQ below (x_Q g (some (vI res.1)) res.2) args s 0 0 (x_A g)) 8 0 0 h 29 [some (vR a0), some (vR a1), none, none, some (vI i4), some (vI i5), some (vI i6), none] []) (a0 : Nat) (a1 : Nat) (i4 : Int32) (i5 : Int32) (i6 : Int32) (h : Hp) (hf : fX0_goesOn_b75 w29 a0 a1 i4 i5 i6 h = some res) : XW g p l e { frames := 1, cells := 0, slots := 0, locals := 23 } s m args below meth c (MQ below (x_Q g (some (vI res.1)) res.2) args s 0 0 (x_A g)) 8 0 0 h 75 [some (vR a0), some (vR a1), none, none, some (vI i4), some (vI i5), some (vI i6), none] [] := by
  unfold fX0_goesOn_b75 at hf
  refine x_iinc C dX0_goesOn_75 (pc' := 78) rfl rfl (v := (i6 + 1)) rfl (by decide) rfl (lv' := [some (vR a0), some (vR a1), none, none, some (vI i4), some (vI i5), some (vI (i6 + 1)), none]) rfl ?_
  refine x_goto C dX0_goesOn_78 (tgt := 29) (by decide) ?_
  exact hw29 a0 a1 i4 i5 (i6 + 1) h hf
def fX0_goesOn_w41 (w29 : Nat → Nat → Int32 → Int32 → Int32 → Hp → Option (Int32 × Hp)) : Nat → Nat → Nat → Int32 → Int32 → Int32 → Int32 → Hp → Option (Int32 × Hp)
  | 0 => fun _ _ _ _ _ _ _ => none
  | n + 1 => fun a0 a1 i4 i5 i6 i7 h => (gI h a1 1 0).bind fun v1 => if v1 ≤ i7 then (fX0_goesOn_b75 w29 a0 a1 i4 i5 i6 h) else (call (oK h a0 0 (fX0_lives h a0 (i4 + i6) (i5 + i7))) fun r2 h3 => if r2 = 0 then ((fX0_goesOn_w41 w29 n) a0 a1 i4 i5 i6 (i7 + 1) h3) else (retZ (1 : Int32) h3))
set_option maxHeartbeats 4000000 in
set_option maxRecDepth 100000 in
theorem mX0_goesOn_w41 {g : XG} {p : Program} {l : Launch} {e : Env} {s : State} {m : MethodId} {args : Array Value} {below : List Frame} {meth : Method} {c : Code} (C : x_C g p s m args c cX0_goesOn RX0 8 wsX0_goesOn) (hr : meth.sig.returnType = (some .boolean)) (hlk : meth.locks = false) (hnm : meth.name = yX0_goesOn.name) {res : Int32 × Hp} (w29 : Nat → Nat → Int32 → Int32 → Int32 → Hp → Option (Int32 × Hp)) (hw29 : ∀ (a0 : Nat) (a1 : Nat) (i4 : Int32) (i5 : Int32) (i6 : Int32) (h : Hp), w29 a0 a1 i4 i5 i6 h = some res → XW g p l e { frames := 1, cells := 0, slots := 0, locals := 23 } s m args below meth c (MQ below (x_Q g (some (vI res.1)) res.2) args s 0 0 (x_A g)) 8 0 0 h 29 [some (vR a0), some (vR a1), none, none, some (vI i4), some (vI i5), some (vI i6), none] []) : ∀ (n : Nat) (a0 : Nat) (a1 : Nat) (i4 : Int32) (i5 : Int32) (i6 : Int32) (i7 : Int32) (h : Hp), fX0_goesOn_w41 w29 n a0 a1 i4 i5 i6 i7 h = some res → XW g p l e { frames := 1, cells := 0, slots := 0, locals := 23 } s m args below meth c (MQ below (x_Q g (some (vI res.1)) res.2) args s 0 0 (x_A g)) 8 0 0 h 41 [some (vR a0), some (vR a1), none, none, some (vI i4), some (vI i5), some (vI i6), some (vI i7)] [] := by
  intro n
  induction n with
  | zero =>
    intro a0 a1 i4 i5 i6 i7 h hf
    have hf2 : (none : Option (Int32 × Hp)) = some res := hf
    cases hf2
  | succ n ih =>
    intro a0 a1 i4 i5 i6 i7 h hf
    rw [fX0_goesOn_w41] at hf
    refine x_iload C dX0_goesOn_41 (pc' := 43) rfl rfl ?_
    refine x_aload_n C dX0_goesOn_43 (pc' := 44) rfl rfl rfl ?_
    refine x_getIN C (ci := 1) (kf := 0) rfl (by decide) hinX0_goesOn_X1 (List.mem_of_getElem? (i := 4) rfl) rfl hf dX0_goesOn_44 (pc' := 47) rfl (fun v1 _ hf => ?_)
    refine x_icmp_ge C hf dX0_goesOn_47 (pc' := 50) rfl (tgt := 75) (by decide) (fun _ hf => ?_) (fun _ hf => ?_)
    ·
      refine x_keep [true, true, false, false, true, true, true, false] rfl ?_
      refine x_more (k' := 0) (n' := 0) (Nat.le_of_ble_eq_true rfl) (Nat.le_of_ble_eq_true rfl) ?_
      exact mX0_goesOn_b75 C hr hlk hnm w29 hw29 a0 a1 i4 i5 i6 h hf
    ·
      refine x_aload_n C dX0_goesOn_50 (pc' := 51) rfl rfl rfl ?_
      refine x_iload C dX0_goesOn_51 (pc' := 53) rfl rfl ?_
      refine x_iload C dX0_goesOn_53 (pc' := 55) rfl rfl ?_
      refine x_iadd C dX0_goesOn_55 (pc' := 56) rfl ?_
      refine x_iload C dX0_goesOn_56 (pc' := 58) rfl rfl ?_
      refine x_iload C dX0_goesOn_58 (pc' := 60) rfl rfl ?_
      refine x_iadd C dX0_goesOn_60 (pc' := 61) rfl ?_
      obtain ⟨r2, h3, hq, hf⟩ := call_some hf
      obtain ⟨hob, hq⟩ := oK_some hq
      refine x_callV C (As := [vI (i4 + i6), vI (i5 + i7)]) (st := []) (r := (some (vI r2))) (h' := h3) (mc := 0) (ms := 0) (k := 0) (n := 0) (mX0_lives hq) hob (ci := 0) rfl (cwV 2 C.1.2.2.2.2 gX0_goesOn_X0_lives rfl rfl rfl (by decide +kernel) ⟨Nat.le_of_ble_eq_true rfl, Nat.le_of_ble_eq_true rfl⟩) rfl rfl (Nat.le_of_ble_eq_true rfl) dX0_goesOn_61 (pc' := 64) rfl ?_
      refine x_if_eq C hf dX0_goesOn_64 (pc' := 67) rfl (tgt := 69) (by decide) (fun _ hf => ?_) (fun _ hf => ?_)
      ·
        refine x_iinc C dX0_goesOn_69 (pc' := 72) rfl rfl (v := (i7 + 1)) rfl (by decide) rfl (lv' := [some (vR a0), some (vR a1), none, none, some (vI i4), some (vI i5), some (vI i6), some (vI (i7 + 1))]) rfl ?_
        refine x_goto C dX0_goesOn_72 (tgt := 41) (by decide) ?_
        exact ih a0 a1 i4 i5 i6 (i7 + 1) h3 hf
      ·
        refine x_iconst C (v := 1) (by decide) dX0_goesOn_67 (pc' := 68) rfl ?_
        exact x_zret C hf hr hlk dX0_goesOn_68
def fX0_goesOn_w29 : Nat → Nat → Nat → Int32 → Int32 → Int32 → Hp → Option (Int32 × Hp)
  | 0 => fun _ _ _ _ _ _ => none
  | n + 1 => fun a0 a1 i4 i5 i6 h => (gI h a1 1 0).bind fun v1 => if v1 ≤ i6 then (retZ (0 : Int32) h) else (fX0_goesOn_w41 (fX0_goesOn_w29 n) FUEL a0 a1 i4 i5 i6 (0 : Int32) h)
set_option maxHeartbeats 4000000 in
set_option maxRecDepth 100000 in
theorem mX0_goesOn_w29 {g : XG} {p : Program} {l : Launch} {e : Env} {s : State} {m : MethodId} {args : Array Value} {below : List Frame} {meth : Method} {c : Code} (C : x_C g p s m args c cX0_goesOn RX0 8 wsX0_goesOn) (hr : meth.sig.returnType = (some .boolean)) (hlk : meth.locks = false) (hnm : meth.name = yX0_goesOn.name) {res : Int32 × Hp} : ∀ (n : Nat) (a0 : Nat) (a1 : Nat) (i4 : Int32) (i5 : Int32) (i6 : Int32) (h : Hp), fX0_goesOn_w29 n a0 a1 i4 i5 i6 h = some res → XW g p l e { frames := 1, cells := 0, slots := 0, locals := 23 } s m args below meth c (MQ below (x_Q g (some (vI res.1)) res.2) args s 0 0 (x_A g)) 8 0 0 h 29 [some (vR a0), some (vR a1), none, none, some (vI i4), some (vI i5), some (vI i6), none] [] := by
  intro n
  induction n with
  | zero =>
    intro a0 a1 i4 i5 i6 h hf
    have hf2 : (none : Option (Int32 × Hp)) = some res := hf
    cases hf2
  | succ n ih =>
    intro a0 a1 i4 i5 i6 h hf
    rw [fX0_goesOn_w29] at hf
    refine x_iload C dX0_goesOn_29 (pc' := 31) rfl rfl ?_
    refine x_aload_n C dX0_goesOn_31 (pc' := 32) rfl rfl rfl ?_
    refine x_getIN C (ci := 1) (kf := 0) rfl (by decide) hinX0_goesOn_X1 (List.mem_of_getElem? (i := 4) rfl) rfl hf dX0_goesOn_32 (pc' := 35) rfl (fun v1 _ hf => ?_)
    refine x_icmp_ge C hf dX0_goesOn_35 (pc' := 38) rfl (tgt := 81) (by decide) (fun _ hf => ?_) (fun _ hf => ?_)
    ·
      refine x_iconst C (v := 0) (by decide) dX0_goesOn_81 (pc' := 82) rfl ?_
      exact x_zret C hf hr hlk dX0_goesOn_82
    ·
      refine x_iconst C (v := 0) (by decide) dX0_goesOn_38 (pc' := 39) rfl ?_
      refine x_istore C dX0_goesOn_39 (pc' := 41) rfl (by decide) rfl (lv' := [some (vR a0), some (vR a1), none, none, some (vI i4), some (vI i5), some (vI i6), some (vI (0 : Int32))]) rfl ?_
      refine x_more (k' := 0) (n' := 0) (Nat.le_of_ble_eq_true rfl) (Nat.le_of_ble_eq_true rfl) ?_
      exact mX0_goesOn_w41 C hr hlk hnm (fX0_goesOn_w29 n) ih FUEL a0 a1 i4 i5 i6 (0 : Int32) h hf
def fX0_goesOn (h : Hp) (a0 : Nat) (a1 : Nat) (i2 : Int32) (i3 : Int32) : Option (Int32 × Hp) := (gI h a1 1 3).bind fun v1 => iRem i2 v1 fun v2 => (gI h a1 1 0).bind fun v3 => setv ((v2 * v3)) fun v4 => (gI h a1 1 3).bind fun v5 => iRem i3 v5 fun v6 => (gI h a1 1 0).bind fun v7 => setv ((v6 * v7)) fun v8 => fX0_goesOn_w29 FUEL a0 a1 v4 v8 (0 : Int32) h
set_option maxHeartbeats 4000000 in
set_option maxRecDepth 100000 in
theorem mX0_goesOn {l : Launch} {g : XG} {h : Hp} {a0 : Nat} {a1 : Nat} {i2 : Int32} {i3 : Int32} {res : Int32 × Hp} (hf : fX0_goesOn h a0 a1 i2 i3 = some res) : XM l g yX0_goesOn wsX0_goesOn 1 23 0 0 [vR a0, vR a1, vI i2, vI i3] h (some (vI res.1)) res.2 := by
  refine x_start (cc := cX0_goesOn) (maxL := 8) (ret := (some .boolean)) (by decide) rfl (Nat.le_of_ble_eq_true rfl) (lv := [some (vR a0), some (vR a1), some (vI i2), some (vI i3), none, none, none, none]) rfl ?_
  intro p e s m args below meth c C hr hlk hnm
  unfold fX0_goesOn at hf
  refine x_iload_n C dX0_goesOn_0 (pc' := 1) rfl rfl rfl ?_
  refine x_aload_n C dX0_goesOn_1 (pc' := 2) rfl rfl rfl ?_
  refine x_getIN C (ci := 1) (kf := 3) rfl (by decide) hinX0_goesOn_X1 (List.mem_of_getElem? (i := 13) rfl) rfl hf dX0_goesOn_2 (pc' := 5) rfl (fun v1 _ hf => ?_)
  refine x_irem C hf dX0_goesOn_5 (pc' := 6) rfl (fun _ v2 _ hf => ?_)
  refine x_aload_n C dX0_goesOn_6 (pc' := 7) rfl rfl rfl ?_
  refine x_getIN C (ci := 1) (kf := 0) rfl (by decide) hinX0_goesOn_X1 (List.mem_of_getElem? (i := 4) rfl) rfl hf dX0_goesOn_7 (pc' := 10) rfl (fun v3 _ hf => ?_)
  refine x_imul C dX0_goesOn_10 (pc' := 11) rfl ?_
  refine x_nameI hf (fun v4 _ hf => ?_)
  refine x_istore C dX0_goesOn_11 (pc' := 13) rfl (by decide) rfl (lv' := [some (vR a0), some (vR a1), some (vI i2), some (vI i3), some (vI v4), none, none, none]) rfl ?_
  refine x_iload_n C dX0_goesOn_13 (pc' := 14) rfl rfl rfl ?_
  refine x_aload_n C dX0_goesOn_14 (pc' := 15) rfl rfl rfl ?_
  refine x_getIN C (ci := 1) (kf := 3) rfl (by decide) hinX0_goesOn_X1 (List.mem_of_getElem? (i := 13) rfl) rfl hf dX0_goesOn_15 (pc' := 18) rfl (fun v5 _ hf => ?_)
  refine x_irem C hf dX0_goesOn_18 (pc' := 19) rfl (fun _ v6 _ hf => ?_)
  refine x_aload_n C dX0_goesOn_19 (pc' := 20) rfl rfl rfl ?_
  refine x_getIN C (ci := 1) (kf := 0) rfl (by decide) hinX0_goesOn_X1 (List.mem_of_getElem? (i := 4) rfl) rfl hf dX0_goesOn_20 (pc' := 23) rfl (fun v7 _ hf => ?_)
  refine x_imul C dX0_goesOn_23 (pc' := 24) rfl ?_
  refine x_nameI hf (fun v8 _ hf => ?_)
  refine x_istore C dX0_goesOn_24 (pc' := 26) rfl (by decide) rfl (lv' := [some (vR a0), some (vR a1), some (vI i2), some (vI i3), some (vI v4), some (vI v8), none, none]) rfl ?_
  refine x_iconst C (v := 0) (by decide) dX0_goesOn_26 (pc' := 27) rfl ?_
  refine x_istore C dX0_goesOn_27 (pc' := 29) rfl (by decide) rfl (lv' := [some (vR a0), some (vR a1), some (vI i2), some (vI i3), some (vI v4), some (vI v8), some (vI (0 : Int32)), none]) rfl ?_
  refine x_keep [true, true, false, false, true, true, true, false] rfl ?_
  refine x_more (k' := 0) (n' := 0) (Nat.le_of_ble_eq_true rfl) (Nat.le_of_ble_eq_true rfl) ?_
  exact mX0_goesOn_w29 C hr hlk hnm FUEL a0 a1 v4 v8 (0 : Int32) h hf
-- ===== X0_comesFrom
theorem hinX0_comesFrom_X1 : ∀ w ∈ u_ws RX1 TX1 5, w ∈ wsX0_comesFrom := by decide +kernel
def fX0_comesFrom_b75 (w19 : Nat → Nat → Int32 → Int32 → Int32 → Hp → Option (Int32 × Hp)) (a0 : Nat) (a1 : Nat) (i4 : Int32) (i5 : Int32) (i6 : Int32) (h : Hp) : Option (Int32 × Hp) := w19 a0 a1 i4 i5 (i6 + 1) h
set_option maxHeartbeats 4000000 in
set_option maxRecDepth 100000 in
theorem mX0_comesFrom_b75 {g : XG} {p : Program} {l : Launch} {e : Env} {s : State} {m : MethodId} {args : Array Value} {below : List Frame} {meth : Method} {c : Code} (C : x_C g p s m args c cX0_comesFrom RX0 8 wsX0_comesFrom) (hr : meth.sig.returnType = (some .boolean)) (hlk : meth.locks = false) (hnm : meth.name = yX0_comesFrom.name) {res : Int32 × Hp} (w19 : Nat → Nat → Int32 → Int32 → Int32 → Hp → Option (Int32 × Hp)) (hw19 : ∀ (a0 : Nat) (a1 : Nat) (i4 : Int32) (i5 : Int32) (i6 : Int32) (h : Hp), w19 a0 a1 i4 i5 i6 h = some res → XW g p l e { frames := 1, cells := 0, slots := 0, locals := 23 } s m args below meth c (MQ below (x_Q g (some (vI res.1)) res.2) args s 0 0 (x_A g)) 8 0 0 h 19 [some (vR a0), some (vR a1), none, none, some (vI i4), some (vI i5), some (vI i6), none] []) (a0 : Nat) (a1 : Nat) (i4 : Int32) (i5 : Int32) (i6 : Int32) (h : Hp) (hf : fX0_comesFrom_b75 w19 a0 a1 i4 i5 i6 h = some res) : XW g p l e { frames := 1, cells := 0, slots := 0, locals := 23 } s m args below meth c (MQ below (x_Q g (some (vI res.1)) res.2) args s 0 0 (x_A g)) 8 0 0 h 75 [some (vR a0), some (vR a1), none, none, some (vI i4), some (vI i5), some (vI i6), none] [] := by
  unfold fX0_comesFrom_b75 at hf
  refine x_iinc C dX0_comesFrom_75 (pc' := 78) rfl rfl (v := (i6 + 1)) rfl (by decide) rfl (lv' := [some (vR a0), some (vR a1), none, none, some (vI i4), some (vI i5), some (vI (i6 + 1)), none]) rfl ?_
  refine x_goto C dX0_comesFrom_78 (tgt := 19) (by decide) ?_
  exact hw19 a0 a1 i4 i5 (i6 + 1) h hf
def fX0_comesFrom_w31 (w19 : Nat → Nat → Int32 → Int32 → Int32 → Hp → Option (Int32 × Hp)) : Nat → Nat → Nat → Int32 → Int32 → Int32 → Int32 → Hp → Option (Int32 × Hp)
  | 0 => fun _ _ _ _ _ _ _ => none
  | n + 1 => fun a0 a1 i4 i5 i6 i7 h => (gI h a1 1 0).bind fun v1 => if v1 ≤ i7 then (fX0_comesFrom_b75 w19 a0 a1 i4 i5 i6 h) else ((gI h a1 1 3).bind fun v2 => (gI h a1 1 3).bind fun v3 => call (oK h a0 0 (fX0_lives h a0 (i4 + (i6 * v2)) (i5 + (i7 * v3)))) fun r4 h5 => if r4 = 0 then ((fX0_comesFrom_w31 w19 n) a0 a1 i4 i5 i6 (i7 + 1) h5) else (retZ (1 : Int32) h5))
set_option maxHeartbeats 4000000 in
set_option maxRecDepth 100000 in
theorem mX0_comesFrom_w31 {g : XG} {p : Program} {l : Launch} {e : Env} {s : State} {m : MethodId} {args : Array Value} {below : List Frame} {meth : Method} {c : Code} (C : x_C g p s m args c cX0_comesFrom RX0 8 wsX0_comesFrom) (hr : meth.sig.returnType = (some .boolean)) (hlk : meth.locks = false) (hnm : meth.name = yX0_comesFrom.name) {res : Int32 × Hp} (w19 : Nat → Nat → Int32 → Int32 → Int32 → Hp → Option (Int32 × Hp)) (hw19 : ∀ (a0 : Nat) (a1 : Nat) (i4 : Int32) (i5 : Int32) (i6 : Int32) (h : Hp), w19 a0 a1 i4 i5 i6 h = some res → XW g p l e { frames := 1, cells := 0, slots := 0, locals := 23 } s m args below meth c (MQ below (x_Q g (some (vI res.1)) res.2) args s 0 0 (x_A g)) 8 0 0 h 19 [some (vR a0), some (vR a1), none, none, some (vI i4), some (vI i5), some (vI i6), none] []) : ∀ (n : Nat) (a0 : Nat) (a1 : Nat) (i4 : Int32) (i5 : Int32) (i6 : Int32) (i7 : Int32) (h : Hp), fX0_comesFrom_w31 w19 n a0 a1 i4 i5 i6 i7 h = some res → XW g p l e { frames := 1, cells := 0, slots := 0, locals := 23 } s m args below meth c (MQ below (x_Q g (some (vI res.1)) res.2) args s 0 0 (x_A g)) 8 0 0 h 31 [some (vR a0), some (vR a1), none, none, some (vI i4), some (vI i5), some (vI i6), some (vI i7)] [] := by
  intro n
  induction n with
  | zero =>
    intro a0 a1 i4 i5 i6 i7 h hf
    have hf2 : (none : Option (Int32 × Hp)) = some res := hf
    cases hf2
  | succ n ih =>
    intro a0 a1 i4 i5 i6 i7 h hf
    rw [fX0_comesFrom_w31] at hf
    refine x_iload C dX0_comesFrom_31 (pc' := 33) rfl rfl ?_
    refine x_aload_n C dX0_comesFrom_33 (pc' := 34) rfl rfl rfl ?_
    refine x_getIN C (ci := 1) (kf := 0) rfl (by decide) hinX0_comesFrom_X1 (List.mem_of_getElem? (i := 4) rfl) rfl hf dX0_comesFrom_34 (pc' := 37) rfl (fun v1 _ hf => ?_)
    refine x_icmp_ge C hf dX0_comesFrom_37 (pc' := 40) rfl (tgt := 75) (by decide) (fun _ hf => ?_) (fun _ hf => ?_)
    ·
      refine x_keep [true, true, false, false, true, true, true, false] rfl ?_
      refine x_more (k' := 0) (n' := 0) (Nat.le_of_ble_eq_true rfl) (Nat.le_of_ble_eq_true rfl) ?_
      exact mX0_comesFrom_b75 C hr hlk hnm w19 hw19 a0 a1 i4 i5 i6 h hf
    ·
      refine x_aload_n C dX0_comesFrom_40 (pc' := 41) rfl rfl rfl ?_
      refine x_iload C dX0_comesFrom_41 (pc' := 43) rfl rfl ?_
      refine x_iload C dX0_comesFrom_43 (pc' := 45) rfl rfl ?_
      refine x_aload_n C dX0_comesFrom_45 (pc' := 46) rfl rfl rfl ?_
      refine x_getIN C (ci := 1) (kf := 3) rfl (by decide) hinX0_comesFrom_X1 (List.mem_of_getElem? (i := 13) rfl) rfl hf dX0_comesFrom_46 (pc' := 49) rfl (fun v2 _ hf => ?_)
      refine x_imul C dX0_comesFrom_49 (pc' := 50) rfl ?_
      refine x_iadd C dX0_comesFrom_50 (pc' := 51) rfl ?_
      refine x_iload C dX0_comesFrom_51 (pc' := 53) rfl rfl ?_
      refine x_iload C dX0_comesFrom_53 (pc' := 55) rfl rfl ?_
      refine x_aload_n C dX0_comesFrom_55 (pc' := 56) rfl rfl rfl ?_
      refine x_getIN C (ci := 1) (kf := 3) rfl (by decide) hinX0_comesFrom_X1 (List.mem_of_getElem? (i := 13) rfl) rfl hf dX0_comesFrom_56 (pc' := 59) rfl (fun v3 _ hf => ?_)
      refine x_imul C dX0_comesFrom_59 (pc' := 60) rfl ?_
      refine x_iadd C dX0_comesFrom_60 (pc' := 61) rfl ?_
      obtain ⟨r4, h5, hq, hf⟩ := call_some hf
      obtain ⟨hob, hq⟩ := oK_some hq
      refine x_callV C (As := [vI (i4 + (i6 * v2)), vI (i5 + (i7 * v3))]) (st := []) (r := (some (vI r4))) (h' := h5) (mc := 0) (ms := 0) (k := 0) (n := 0) (mX0_lives hq) hob (ci := 0) rfl (cwV 2 C.1.2.2.2.2 gX0_comesFrom_X0_lives rfl rfl rfl (by decide +kernel) ⟨Nat.le_of_ble_eq_true rfl, Nat.le_of_ble_eq_true rfl⟩) rfl rfl (Nat.le_of_ble_eq_true rfl) dX0_comesFrom_61 (pc' := 64) rfl ?_
      refine x_if_eq C hf dX0_comesFrom_64 (pc' := 67) rfl (tgt := 69) (by decide) (fun _ hf => ?_) (fun _ hf => ?_)
      ·
        refine x_iinc C dX0_comesFrom_69 (pc' := 72) rfl rfl (v := (i7 + 1)) rfl (by decide) rfl (lv' := [some (vR a0), some (vR a1), none, none, some (vI i4), some (vI i5), some (vI i6), some (vI (i7 + 1))]) rfl ?_
        refine x_goto C dX0_comesFrom_72 (tgt := 31) (by decide) ?_
        exact ih a0 a1 i4 i5 i6 (i7 + 1) h5 hf
      ·
        refine x_iconst C (v := 1) (by decide) dX0_comesFrom_67 (pc' := 68) rfl ?_
        exact x_zret C hf hr hlk dX0_comesFrom_68
def fX0_comesFrom_w19 : Nat → Nat → Nat → Int32 → Int32 → Int32 → Hp → Option (Int32 × Hp)
  | 0 => fun _ _ _ _ _ _ => none
  | n + 1 => fun a0 a1 i4 i5 i6 h => (gI h a1 1 0).bind fun v1 => if v1 ≤ i6 then (retZ (0 : Int32) h) else (fX0_comesFrom_w31 (fX0_comesFrom_w19 n) FUEL a0 a1 i4 i5 i6 (0 : Int32) h)
set_option maxHeartbeats 4000000 in
set_option maxRecDepth 100000 in
theorem mX0_comesFrom_w19 {g : XG} {p : Program} {l : Launch} {e : Env} {s : State} {m : MethodId} {args : Array Value} {below : List Frame} {meth : Method} {c : Code} (C : x_C g p s m args c cX0_comesFrom RX0 8 wsX0_comesFrom) (hr : meth.sig.returnType = (some .boolean)) (hlk : meth.locks = false) (hnm : meth.name = yX0_comesFrom.name) {res : Int32 × Hp} : ∀ (n : Nat) (a0 : Nat) (a1 : Nat) (i4 : Int32) (i5 : Int32) (i6 : Int32) (h : Hp), fX0_comesFrom_w19 n a0 a1 i4 i5 i6 h = some res → XW g p l e { frames := 1, cells := 0, slots := 0, locals := 23 } s m args below meth c (MQ below (x_Q g (some (vI res.1)) res.2) args s 0 0 (x_A g)) 8 0 0 h 19 [some (vR a0), some (vR a1), none, none, some (vI i4), some (vI i5), some (vI i6), none] [] := by
  intro n
  induction n with
  | zero =>
    intro a0 a1 i4 i5 i6 h hf
    have hf2 : (none : Option (Int32 × Hp)) = some res := hf
    cases hf2
  | succ n ih =>
    intro a0 a1 i4 i5 i6 h hf
    rw [fX0_comesFrom_w19] at hf
    refine x_iload C dX0_comesFrom_19 (pc' := 21) rfl rfl ?_
    refine x_aload_n C dX0_comesFrom_21 (pc' := 22) rfl rfl rfl ?_
    refine x_getIN C (ci := 1) (kf := 0) rfl (by decide) hinX0_comesFrom_X1 (List.mem_of_getElem? (i := 4) rfl) rfl hf dX0_comesFrom_22 (pc' := 25) rfl (fun v1 _ hf => ?_)
    refine x_icmp_ge C hf dX0_comesFrom_25 (pc' := 28) rfl (tgt := 81) (by decide) (fun _ hf => ?_) (fun _ hf => ?_)
    ·
      refine x_iconst C (v := 0) (by decide) dX0_comesFrom_81 (pc' := 82) rfl ?_
      exact x_zret C hf hr hlk dX0_comesFrom_82
    ·
      refine x_iconst C (v := 0) (by decide) dX0_comesFrom_28 (pc' := 29) rfl ?_
      refine x_istore C dX0_comesFrom_29 (pc' := 31) rfl (by decide) rfl (lv' := [some (vR a0), some (vR a1), none, none, some (vI i4), some (vI i5), some (vI i6), some (vI (0 : Int32))]) rfl ?_
      refine x_more (k' := 0) (n' := 0) (Nat.le_of_ble_eq_true rfl) (Nat.le_of_ble_eq_true rfl) ?_
      exact mX0_comesFrom_w31 C hr hlk hnm (fX0_comesFrom_w19 n) ih FUEL a0 a1 i4 i5 i6 (0 : Int32) h hf
def fX0_comesFrom (h : Hp) (a0 : Nat) (a1 : Nat) (i2 : Int32) (i3 : Int32) : Option (Int32 × Hp) := (gI h a1 1 0).bind fun v1 => iDiv i2 v1 fun v2 => (gI h a1 1 0).bind fun v3 => iDiv i3 v3 fun v4 => fX0_comesFrom_w19 FUEL a0 a1 v2 v4 (0 : Int32) h
set_option maxHeartbeats 4000000 in
set_option maxRecDepth 100000 in
theorem mX0_comesFrom {l : Launch} {g : XG} {h : Hp} {a0 : Nat} {a1 : Nat} {i2 : Int32} {i3 : Int32} {res : Int32 × Hp} (hf : fX0_comesFrom h a0 a1 i2 i3 = some res) : XM l g yX0_comesFrom wsX0_comesFrom 1 23 0 0 [vR a0, vR a1, vI i2, vI i3] h (some (vI res.1)) res.2 := by
  refine x_start (cc := cX0_comesFrom) (maxL := 8) (ret := (some .boolean)) (by decide) rfl (Nat.le_of_ble_eq_true rfl) (lv := [some (vR a0), some (vR a1), some (vI i2), some (vI i3), none, none, none, none]) rfl ?_
  intro p e s m args below meth c C hr hlk hnm
  unfold fX0_comesFrom at hf
  refine x_iload_n C dX0_comesFrom_0 (pc' := 1) rfl rfl rfl ?_
  refine x_aload_n C dX0_comesFrom_1 (pc' := 2) rfl rfl rfl ?_
  refine x_getIN C (ci := 1) (kf := 0) rfl (by decide) hinX0_comesFrom_X1 (List.mem_of_getElem? (i := 4) rfl) rfl hf dX0_comesFrom_2 (pc' := 5) rfl (fun v1 _ hf => ?_)
  refine x_idiv C hf dX0_comesFrom_5 (pc' := 6) rfl (fun _ v2 _ hf => ?_)
  refine x_istore C dX0_comesFrom_6 (pc' := 8) rfl (by decide) rfl (lv' := [some (vR a0), some (vR a1), some (vI i2), some (vI i3), some (vI v2), none, none, none]) rfl ?_
  refine x_iload_n C dX0_comesFrom_8 (pc' := 9) rfl rfl rfl ?_
  refine x_aload_n C dX0_comesFrom_9 (pc' := 10) rfl rfl rfl ?_
  refine x_getIN C (ci := 1) (kf := 0) rfl (by decide) hinX0_comesFrom_X1 (List.mem_of_getElem? (i := 4) rfl) rfl hf dX0_comesFrom_10 (pc' := 13) rfl (fun v3 _ hf => ?_)
  refine x_idiv C hf dX0_comesFrom_13 (pc' := 14) rfl (fun _ v4 _ hf => ?_)
  refine x_istore C dX0_comesFrom_14 (pc' := 16) rfl (by decide) rfl (lv' := [some (vR a0), some (vR a1), some (vI i2), some (vI i3), some (vI v2), some (vI v4), none, none]) rfl ?_
  refine x_iconst C (v := 0) (by decide) dX0_comesFrom_16 (pc' := 17) rfl ?_
  refine x_istore C dX0_comesFrom_17 (pc' := 19) rfl (by decide) rfl (lv' := [some (vR a0), some (vR a1), some (vI i2), some (vI i3), some (vI v2), some (vI v4), some (vI (0 : Int32)), none]) rfl ?_
  refine x_keep [true, true, false, false, true, true, true, false] rfl ?_
  refine x_more (k' := 0) (n' := 0) (Nat.le_of_ble_eq_true rfl) (Nat.le_of_ble_eq_true rfl) ?_
  exact mX0_comesFrom_w19 C hr hlk hnm FUEL a0 a1 v2 v4 (0 : Int32) h hf
-- ===== X0_prune
theorem hinX0_prune_X1 : ∀ w ∈ u_ws RX1 TX1 5, w ∈ wsX0_prune := by decide +kernel
def fX0_prune_b72 (w4 : Nat → Nat → Int32 → Int32 → Hp → Option (Int32 × Hp)) (a0 : Nat) (a1 : Nat) (i2 : Int32) (i3 : Int32) (h : Hp) : Option (Int32 × Hp) := w4 a0 a1 i2 (i3 + 1) h
set_option maxHeartbeats 4000000 in
set_option maxRecDepth 100000 in
theorem mX0_prune_b72 {g : XG} {p : Program} {l : Launch} {e : Env} {s : State} {m : MethodId} {args : Array Value} {below : List Frame} {meth : Method} {c : Code} (C : x_C g p s m args c cX0_prune RX0 5 wsX0_prune) (hr : meth.sig.returnType = (some .boolean)) (hlk : meth.locks = false) (hnm : meth.name = yX0_prune.name) {res : Int32 × Hp} (w4 : Nat → Nat → Int32 → Int32 → Hp → Option (Int32 × Hp)) (hw4 : ∀ (a0 : Nat) (a1 : Nat) (i2 : Int32) (i3 : Int32) (h : Hp), w4 a0 a1 i2 i3 h = some res → XW g p l e { frames := 2, cells := 0, slots := 0, locals := 50 } s m args below meth c (MQ below (x_Q g (some (vI res.1)) res.2) args s 0 0 (x_A g)) 5 0 0 h 4 [some (vR a0), some (vR a1), some (vI i2), some (vI i3), none] []) (a0 : Nat) (a1 : Nat) (i2 : Int32) (i3 : Int32) (h : Hp) (hf : fX0_prune_b72 w4 a0 a1 i2 i3 h = some res) : XW g p l e { frames := 2, cells := 0, slots := 0, locals := 50 } s m args below meth c (MQ below (x_Q g (some (vI res.1)) res.2) args s 0 0 (x_A g)) 5 0 0 h 72 [some (vR a0), some (vR a1), some (vI i2), some (vI i3), none] [] := by
  unfold fX0_prune_b72 at hf
  refine x_iinc C dX0_prune_72 (pc' := 75) rfl rfl (v := (i3 + 1)) rfl (by decide) rfl (lv' := [some (vR a0), some (vR a1), some (vI i2), some (vI (i3 + 1)), none]) rfl ?_
  refine x_goto C dX0_prune_75 (tgt := 4) (by decide) ?_
  exact hw4 a0 a1 i2 (i3 + 1) h hf
def fX0_prune_b66 (w4 : Nat → Nat → Int32 → Int32 → Hp → Option (Int32 × Hp)) (w15 : Nat → Nat → Int32 → Int32 → Int32 → Hp → Option (Int32 × Hp)) (a0 : Nat) (a1 : Nat) (i2 : Int32) (i3 : Int32) (i4 : Int32) (h : Hp) : Option (Int32 × Hp) := w15 a0 a1 i2 i3 (i4 + 1) h
set_option maxHeartbeats 4000000 in
set_option maxRecDepth 100000 in
theorem mX0_prune_b66 {g : XG} {p : Program} {l : Launch} {e : Env} {s : State} {m : MethodId} {args : Array Value} {below : List Frame} {meth : Method} {c : Code} (C : x_C g p s m args c cX0_prune RX0 5 wsX0_prune) (hr : meth.sig.returnType = (some .boolean)) (hlk : meth.locks = false) (hnm : meth.name = yX0_prune.name) {res : Int32 × Hp} (w4 : Nat → Nat → Int32 → Int32 → Hp → Option (Int32 × Hp)) (hw4 : ∀ (a0 : Nat) (a1 : Nat) (i2 : Int32) (i3 : Int32) (h : Hp), w4 a0 a1 i2 i3 h = some res → XW g p l e { frames := 2, cells := 0, slots := 0, locals := 50 } s m args below meth c (MQ below (x_Q g (some (vI res.1)) res.2) args s 0 0 (x_A g)) 5 0 0 h 4 [some (vR a0), some (vR a1), some (vI i2), some (vI i3), none] []) (w15 : Nat → Nat → Int32 → Int32 → Int32 → Hp → Option (Int32 × Hp)) (hw15 : ∀ (a0 : Nat) (a1 : Nat) (i2 : Int32) (i3 : Int32) (i4 : Int32) (h : Hp), w15 a0 a1 i2 i3 i4 h = some res → XW g p l e { frames := 2, cells := 0, slots := 0, locals := 50 } s m args below meth c (MQ below (x_Q g (some (vI res.1)) res.2) args s 0 0 (x_A g)) 5 0 0 h 15 [some (vR a0), some (vR a1), some (vI i2), some (vI i3), some (vI i4)] []) (a0 : Nat) (a1 : Nat) (i2 : Int32) (i3 : Int32) (i4 : Int32) (h : Hp) (hf : fX0_prune_b66 w4 w15 a0 a1 i2 i3 i4 h = some res) : XW g p l e { frames := 2, cells := 0, slots := 0, locals := 50 } s m args below meth c (MQ below (x_Q g (some (vI res.1)) res.2) args s 0 0 (x_A g)) 5 0 0 h 66 [some (vR a0), some (vR a1), some (vI i2), some (vI i3), some (vI i4)] [] := by
  unfold fX0_prune_b66 at hf
  refine x_iinc C dX0_prune_66 (pc' := 69) rfl rfl (v := (i4 + 1)) rfl (by decide) rfl (lv' := [some (vR a0), some (vR a1), some (vI i2), some (vI i3), some (vI (i4 + 1))]) rfl ?_
  refine x_goto C dX0_prune_69 (tgt := 15) (by decide) ?_
  exact hw15 a0 a1 i2 i3 (i4 + 1) h hf
def fX0_prune_b56 (w4 : Nat → Nat → Int32 → Int32 → Hp → Option (Int32 × Hp)) (w15 : Nat → Nat → Int32 → Int32 → Int32 → Hp → Option (Int32 × Hp)) (a0 : Nat) (a1 : Nat) (i3 : Int32) (i4 : Int32) (h : Hp) : Option (Int32 × Hp) := (oK h a0 0 (fX0_setLife h a0 i3 i4 (0 : Int32))).bind fun h2 => fX0_prune_b66 w4 w15 a0 a1 (1 : Int32) i3 i4 h2
set_option maxHeartbeats 4000000 in
set_option maxRecDepth 100000 in
theorem mX0_prune_b56 {g : XG} {p : Program} {l : Launch} {e : Env} {s : State} {m : MethodId} {args : Array Value} {below : List Frame} {meth : Method} {c : Code} (C : x_C g p s m args c cX0_prune RX0 5 wsX0_prune) (hr : meth.sig.returnType = (some .boolean)) (hlk : meth.locks = false) (hnm : meth.name = yX0_prune.name) {res : Int32 × Hp} (w4 : Nat → Nat → Int32 → Int32 → Hp → Option (Int32 × Hp)) (hw4 : ∀ (a0 : Nat) (a1 : Nat) (i2 : Int32) (i3 : Int32) (h : Hp), w4 a0 a1 i2 i3 h = some res → XW g p l e { frames := 2, cells := 0, slots := 0, locals := 50 } s m args below meth c (MQ below (x_Q g (some (vI res.1)) res.2) args s 0 0 (x_A g)) 5 0 0 h 4 [some (vR a0), some (vR a1), some (vI i2), some (vI i3), none] []) (w15 : Nat → Nat → Int32 → Int32 → Int32 → Hp → Option (Int32 × Hp)) (hw15 : ∀ (a0 : Nat) (a1 : Nat) (i2 : Int32) (i3 : Int32) (i4 : Int32) (h : Hp), w15 a0 a1 i2 i3 i4 h = some res → XW g p l e { frames := 2, cells := 0, slots := 0, locals := 50 } s m args below meth c (MQ below (x_Q g (some (vI res.1)) res.2) args s 0 0 (x_A g)) 5 0 0 h 15 [some (vR a0), some (vR a1), some (vI i2), some (vI i3), some (vI i4)] []) (a0 : Nat) (a1 : Nat) (i3 : Int32) (i4 : Int32) (h : Hp) (hf : fX0_prune_b56 w4 w15 a0 a1 i3 i4 h = some res) : XW g p l e { frames := 2, cells := 0, slots := 0, locals := 50 } s m args below meth c (MQ below (x_Q g (some (vI res.1)) res.2) args s 0 0 (x_A g)) 5 0 0 h 56 [some (vR a0), some (vR a1), none, some (vI i3), some (vI i4)] [] := by
  unfold fX0_prune_b56 at hf
  refine x_aload_n C dX0_prune_56 (pc' := 57) rfl rfl rfl ?_
  refine x_iload_n C dX0_prune_57 (pc' := 58) rfl rfl rfl ?_
  refine x_iload C dX0_prune_58 (pc' := 60) rfl rfl ?_
  refine x_iconst C (v := 0) (by decide) dX0_prune_60 (pc' := 61) rfl ?_
  obtain ⟨h2, hq, hf⟩ := bind_some hf
  obtain ⟨hob, hq⟩ := oK_some hq
  refine x_callV C (As := [vI i3, vI i4, vI (0 : Int32)]) (st := []) (r := none) (h' := h2) (mc := 0) (ms := 0) (k := 0) (n := 0) (mX0_setLife hq) hob (ci := 0) rfl (cwV 3 C.1.2.2.2.2 gX0_prune_X0_setLife rfl rfl rfl (by decide +kernel) ⟨Nat.le_of_ble_eq_true rfl, Nat.le_of_ble_eq_true rfl⟩) rfl rfl (Nat.le_of_ble_eq_true rfl) dX0_prune_61 (pc' := 64) rfl ?_
  refine x_iconst C (v := 1) (by decide) dX0_prune_64 (pc' := 65) rfl ?_
  refine x_istore_n C dX0_prune_65 (pc' := 66) rfl rfl (by decide) rfl (lv' := [some (vR a0), some (vR a1), some (vI (1 : Int32)), some (vI i3), some (vI i4)]) rfl ?_
  refine x_more (k' := 0) (n' := 0) (Nat.le_of_ble_eq_true rfl) (Nat.le_of_ble_eq_true rfl) ?_
  exact mX0_prune_b66 C hr hlk hnm w4 hw4 w15 hw15 a0 a1 (1 : Int32) i3 i4 h2 hf
def fX0_prune_w15 (w4 : Nat → Nat → Int32 → Int32 → Hp → Option (Int32 × Hp)) : Nat → Nat → Nat → Int32 → Int32 → Int32 → Hp → Option (Int32 × Hp)
  | 0 => fun _ _ _ _ _ _ => none
  | n + 1 => fun a0 a1 i2 i3 i4 h => (gI h a1 1 2).bind fun v1 => if v1 ≤ i4 then (fX0_prune_b72 w4 a0 a1 i2 i3 h) else (call (oK h a0 0 (fX0_lives h a0 i3 i4)) fun r2 h3 => if r2 = 0 then (fX0_prune_b66 w4 (fX0_prune_w15 w4 n) a0 a1 i2 i3 i4 h3) else (call (oK h3 a0 0 (fX0_goesOn h3 a0 a1 i3 i4)) fun r4 h5 => if r4 = 0 then (fX0_prune_b56 w4 (fX0_prune_w15 w4 n) a0 a1 i3 i4 h5) else (call (oK h5 a0 0 (fX0_comesFrom h5 a0 a1 i3 i4)) fun r6 h7 => if r6 = 0 then (fX0_prune_b56 w4 (fX0_prune_w15 w4 n) a0 a1 i3 i4 h7) else (fX0_prune_b66 w4 (fX0_prune_w15 w4 n) a0 a1 i2 i3 i4 h7))))
set_option maxHeartbeats 4000000 in
set_option maxRecDepth 100000 in
theorem mX0_prune_w15 {g : XG} {p : Program} {l : Launch} {e : Env} {s : State} {m : MethodId} {args : Array Value} {below : List Frame} {meth : Method} {c : Code} (C : x_C g p s m args c cX0_prune RX0 5 wsX0_prune) (hr : meth.sig.returnType = (some .boolean)) (hlk : meth.locks = false) (hnm : meth.name = yX0_prune.name) {res : Int32 × Hp} (w4 : Nat → Nat → Int32 → Int32 → Hp → Option (Int32 × Hp)) (hw4 : ∀ (a0 : Nat) (a1 : Nat) (i2 : Int32) (i3 : Int32) (h : Hp), w4 a0 a1 i2 i3 h = some res → XW g p l e { frames := 2, cells := 0, slots := 0, locals := 50 } s m args below meth c (MQ below (x_Q g (some (vI res.1)) res.2) args s 0 0 (x_A g)) 5 0 0 h 4 [some (vR a0), some (vR a1), some (vI i2), some (vI i3), none] []) : ∀ (n : Nat) (a0 : Nat) (a1 : Nat) (i2 : Int32) (i3 : Int32) (i4 : Int32) (h : Hp), fX0_prune_w15 w4 n a0 a1 i2 i3 i4 h = some res → XW g p l e { frames := 2, cells := 0, slots := 0, locals := 50 } s m args below meth c (MQ below (x_Q g (some (vI res.1)) res.2) args s 0 0 (x_A g)) 5 0 0 h 15 [some (vR a0), some (vR a1), some (vI i2), some (vI i3), some (vI i4)] [] := by
  intro n
  induction n with
  | zero =>
    intro a0 a1 i2 i3 i4 h hf
    have hf2 : (none : Option (Int32 × Hp)) = some res := hf
    cases hf2
  | succ n ih =>
    intro a0 a1 i2 i3 i4 h hf
    rw [fX0_prune_w15] at hf
    refine x_iload C dX0_prune_15 (pc' := 17) rfl rfl ?_
    refine x_aload_n C dX0_prune_17 (pc' := 18) rfl rfl rfl ?_
    refine x_getIN C (ci := 1) (kf := 2) rfl (by decide) hinX0_prune_X1 (List.mem_of_getElem? (i := 8) rfl) rfl hf dX0_prune_18 (pc' := 21) rfl (fun v1 _ hf => ?_)
    refine x_icmp_ge C hf dX0_prune_21 (pc' := 24) rfl (tgt := 72) (by decide) (fun _ hf => ?_) (fun _ hf => ?_)
    ·
      refine x_keep [true, true, true, true, false] rfl ?_
      refine x_more (k' := 0) (n' := 0) (Nat.le_of_ble_eq_true rfl) (Nat.le_of_ble_eq_true rfl) ?_
      exact mX0_prune_b72 C hr hlk hnm w4 hw4 a0 a1 i2 i3 h hf
    ·
      refine x_aload_n C dX0_prune_24 (pc' := 25) rfl rfl rfl ?_
      refine x_iload_n C dX0_prune_25 (pc' := 26) rfl rfl rfl ?_
      refine x_iload C dX0_prune_26 (pc' := 28) rfl rfl ?_
      obtain ⟨r2, h3, hq, hf⟩ := call_some hf
      obtain ⟨hob, hq⟩ := oK_some hq
      refine x_callV C (As := [vI i3, vI i4]) (st := []) (r := (some (vI r2))) (h' := h3) (mc := 0) (ms := 0) (k := 0) (n := 0) (mX0_lives hq) hob (ci := 0) rfl (cwV 2 C.1.2.2.2.2 gX0_prune_X0_lives rfl rfl rfl (by decide +kernel) ⟨Nat.le_of_ble_eq_true rfl, Nat.le_of_ble_eq_true rfl⟩) rfl rfl (Nat.le_of_ble_eq_true rfl) dX0_prune_28 (pc' := 31) rfl ?_
      refine x_if_eq C hf dX0_prune_31 (pc' := 34) rfl (tgt := 66) (by decide) (fun _ hf => ?_) (fun _ hf => ?_)
      ·
        refine x_more (k' := 0) (n' := 0) (Nat.le_of_ble_eq_true rfl) (Nat.le_of_ble_eq_true rfl) ?_
        exact mX0_prune_b66 C hr hlk hnm w4 hw4 (fX0_prune_w15 w4 n) ih a0 a1 i2 i3 i4 h3 hf
      ·
        refine x_aload_n C dX0_prune_34 (pc' := 35) rfl rfl rfl ?_
        refine x_aload_n C dX0_prune_35 (pc' := 36) rfl rfl rfl ?_
        refine x_iload_n C dX0_prune_36 (pc' := 37) rfl rfl rfl ?_
        refine x_iload C dX0_prune_37 (pc' := 39) rfl rfl ?_
        obtain ⟨r4, h5, hq, hf⟩ := call_some hf
        obtain ⟨hob, hq⟩ := oK_some hq
        refine x_callV C (As := [vR a1, vI i3, vI i4]) (st := []) (r := (some (vI r4))) (h' := h5) (mc := 0) (ms := 0) (k := 0) (n := 0) (mX0_goesOn hq) hob (ci := 0) rfl (cwV 3 C.1.2.2.2.2 gX0_prune_X0_goesOn rfl rfl rfl (by decide +kernel) ⟨Nat.le_of_ble_eq_true rfl, Nat.le_of_ble_eq_true rfl⟩) rfl rfl (Nat.le_of_ble_eq_true rfl) dX0_prune_39 (pc' := 42) rfl ?_
        refine x_if_eq C hf dX0_prune_42 (pc' := 45) rfl (tgt := 56) (by decide) (fun _ hf => ?_) (fun _ hf => ?_)
        ·
          refine x_keep [true, true, false, true, true] rfl ?_
          refine x_more (k' := 0) (n' := 0) (Nat.le_of_ble_eq_true rfl) (Nat.le_of_ble_eq_true rfl) ?_
          exact mX0_prune_b56 C hr hlk hnm w4 hw4 (fX0_prune_w15 w4 n) ih a0 a1 i3 i4 h5 hf
        ·
          refine x_aload_n C dX0_prune_45 (pc' := 46) rfl rfl rfl ?_
          refine x_aload_n C dX0_prune_46 (pc' := 47) rfl rfl rfl ?_
          refine x_iload_n C dX0_prune_47 (pc' := 48) rfl rfl rfl ?_
          refine x_iload C dX0_prune_48 (pc' := 50) rfl rfl ?_
          obtain ⟨r6, h7, hq, hf⟩ := call_some hf
          obtain ⟨hob, hq⟩ := oK_some hq
          refine x_callV C (As := [vR a1, vI i3, vI i4]) (st := []) (r := (some (vI r6))) (h' := h7) (mc := 0) (ms := 0) (k := 0) (n := 0) (mX0_comesFrom hq) hob (ci := 0) rfl (cwV 3 C.1.2.2.2.2 gX0_prune_X0_comesFrom rfl rfl rfl (by decide +kernel) ⟨Nat.le_of_ble_eq_true rfl, Nat.le_of_ble_eq_true rfl⟩) rfl rfl (Nat.le_of_ble_eq_true rfl) dX0_prune_50 (pc' := 53) rfl ?_
          refine x_if_ne C hf dX0_prune_53 (pc' := 56) rfl (tgt := 66) (by decide) (fun _ hf => ?_) (fun _ hf => ?_)
          ·
            refine x_keep [true, true, false, true, true] rfl ?_
            refine x_more (k' := 0) (n' := 0) (Nat.le_of_ble_eq_true rfl) (Nat.le_of_ble_eq_true rfl) ?_
            exact mX0_prune_b56 C hr hlk hnm w4 hw4 (fX0_prune_w15 w4 n) ih a0 a1 i3 i4 h7 hf
          ·
            refine x_more (k' := 0) (n' := 0) (Nat.le_of_ble_eq_true rfl) (Nat.le_of_ble_eq_true rfl) ?_
            exact mX0_prune_b66 C hr hlk hnm w4 hw4 (fX0_prune_w15 w4 n) ih a0 a1 i2 i3 i4 h7 hf
def fX0_prune_w4 : Nat → Nat → Nat → Int32 → Int32 → Hp → Option (Int32 × Hp)
  | 0 => fun _ _ _ _ _ => none
  | n + 1 => fun a0 a1 i2 i3 h => (gI h a1 1 2).bind fun v1 => if v1 ≤ i3 then (retZ i2 h) else (fX0_prune_w15 (fX0_prune_w4 n) FUEL a0 a1 i2 i3 (0 : Int32) h)
set_option maxHeartbeats 4000000 in
set_option maxRecDepth 100000 in
theorem mX0_prune_w4 {g : XG} {p : Program} {l : Launch} {e : Env} {s : State} {m : MethodId} {args : Array Value} {below : List Frame} {meth : Method} {c : Code} (C : x_C g p s m args c cX0_prune RX0 5 wsX0_prune) (hr : meth.sig.returnType = (some .boolean)) (hlk : meth.locks = false) (hnm : meth.name = yX0_prune.name) {res : Int32 × Hp} : ∀ (n : Nat) (a0 : Nat) (a1 : Nat) (i2 : Int32) (i3 : Int32) (h : Hp), fX0_prune_w4 n a0 a1 i2 i3 h = some res → XW g p l e { frames := 2, cells := 0, slots := 0, locals := 50 } s m args below meth c (MQ below (x_Q g (some (vI res.1)) res.2) args s 0 0 (x_A g)) 5 0 0 h 4 [some (vR a0), some (vR a1), some (vI i2), some (vI i3), none] [] := by
  intro n
  induction n with
  | zero =>
    intro a0 a1 i2 i3 h hf
    have hf2 : (none : Option (Int32 × Hp)) = some res := hf
    cases hf2
  | succ n ih =>
    intro a0 a1 i2 i3 h hf
    rw [fX0_prune_w4] at hf
    refine x_iload_n C dX0_prune_4 (pc' := 5) rfl rfl rfl ?_
    refine x_aload_n C dX0_prune_5 (pc' := 6) rfl rfl rfl ?_
    refine x_getIN C (ci := 1) (kf := 2) rfl (by decide) hinX0_prune_X1 (List.mem_of_getElem? (i := 8) rfl) rfl hf dX0_prune_6 (pc' := 9) rfl (fun v1 _ hf => ?_)
    refine x_icmp_ge C hf dX0_prune_9 (pc' := 12) rfl (tgt := 78) (by decide) (fun _ hf => ?_) (fun _ hf => ?_)
    ·
      refine x_iload_n C dX0_prune_78 (pc' := 79) rfl rfl rfl ?_
      exact x_zret C hf hr hlk dX0_prune_79
    ·
      refine x_iconst C (v := 0) (by decide) dX0_prune_12 (pc' := 13) rfl ?_
      refine x_istore C dX0_prune_13 (pc' := 15) rfl (by decide) rfl (lv' := [some (vR a0), some (vR a1), some (vI i2), some (vI i3), some (vI (0 : Int32))]) rfl ?_
      refine x_more (k' := 0) (n' := 0) (Nat.le_of_ble_eq_true rfl) (Nat.le_of_ble_eq_true rfl) ?_
      exact mX0_prune_w15 C hr hlk hnm (fX0_prune_w4 n) ih FUEL a0 a1 i2 i3 (0 : Int32) h hf
def fX0_prune (h : Hp) (a0 : Nat) (a1 : Nat) : Option (Int32 × Hp) := fX0_prune_w4 FUEL a0 a1 (0 : Int32) (0 : Int32) h
set_option maxHeartbeats 4000000 in
set_option maxRecDepth 100000 in
theorem mX0_prune {l : Launch} {g : XG} {h : Hp} {a0 : Nat} {a1 : Nat} {res : Int32 × Hp} (hf : fX0_prune h a0 a1 = some res) : XM l g yX0_prune wsX0_prune 2 50 0 0 [vR a0, vR a1] h (some (vI res.1)) res.2 := by
  refine x_start (cc := cX0_prune) (maxL := 5) (ret := (some .boolean)) (by decide) rfl (Nat.le_of_ble_eq_true rfl) (lv := [some (vR a0), some (vR a1), none, none, none]) rfl ?_
  intro p e s m args below meth c C hr hlk hnm
  unfold fX0_prune at hf
  refine x_iconst C (v := 0) (by decide) dX0_prune_0 (pc' := 1) rfl ?_
  refine x_istore_n C dX0_prune_1 (pc' := 2) rfl rfl (by decide) rfl (lv' := [some (vR a0), some (vR a1), some (vI (0 : Int32)), none, none]) rfl ?_
  refine x_iconst C (v := 0) (by decide) dX0_prune_2 (pc' := 3) rfl ?_
  refine x_istore_n C dX0_prune_3 (pc' := 4) rfl rfl (by decide) rfl (lv' := [some (vR a0), some (vR a1), some (vI (0 : Int32)), some (vI (0 : Int32)), none]) rfl ?_
  refine x_more (k' := 0) (n' := 0) (Nat.le_of_ble_eq_true rfl) (Nat.le_of_ble_eq_true rfl) ?_
  exact mX0_prune_w4 C hr hlk hnm FUEL a0 a1 (0 : Int32) (0 : Int32) h hf
-- ===== X0_losesNothing
theorem hinX0_losesNothing_X1 : ∀ w ∈ u_ws RX1 TX1 5, w ∈ wsX0_losesNothing := by decide +kernel
theorem lkX0_losesNothing_0 : Cond.fieldLink RX0 9 "MossRings$Pairs" "alive" "[Z" ∈ wsX0_losesNothing := by decide +kernel
theorem hinX0_losesNothing_X0 : ∀ w ∈ u_ws RX0 TX0 1, w ∈ wsX0_losesNothing := by decide +kernel
def fX0_losesNothing_b71 (w36 : Nat → Nat → Int32 → Hp → Option (Int32 × Hp)) (a0 : Nat) (a1 : Nat) (i3 : Int32) (h : Hp) : Option (Int32 × Hp) := w36 a0 a1 (i3 + 1) h
set_option maxHeartbeats 4000000 in
set_option maxRecDepth 100000 in
theorem mX0_losesNothing_b71 {g : XG} {p : Program} {l : Launch} {e : Env} {s : State} {m : MethodId} {args : Array Value} {below : List Frame} {meth : Method} {c : Code} (C : x_C g p s m args c cX0_losesNothing RX0 5 wsX0_losesNothing) (hr : meth.sig.returnType = (some .boolean)) (hlk : meth.locks = false) (hnm : meth.name = yX0_losesNothing.name) {res : Int32 × Hp} (w36 : Nat → Nat → Int32 → Hp → Option (Int32 × Hp)) (hw36 : ∀ (a0 : Nat) (a1 : Nat) (i3 : Int32) (h : Hp), w36 a0 a1 i3 h = some res → XW g p l e { frames := 3, cells := 0, slots := 0, locals := 74 } s m args below meth c (MQ below (x_Q g (some (vI res.1)) res.2) args s 0 0 (x_A g)) 5 0 0 h 36 [some (vR a0), some (vR a1), none, some (vI i3), none] []) (a0 : Nat) (a1 : Nat) (i3 : Int32) (h : Hp) (hf : fX0_losesNothing_b71 w36 a0 a1 i3 h = some res) : XW g p l e { frames := 3, cells := 0, slots := 0, locals := 74 } s m args below meth c (MQ below (x_Q g (some (vI res.1)) res.2) args s 0 0 (x_A g)) 5 0 0 h 71 [some (vR a0), some (vR a1), none, some (vI i3), none] [] := by
  unfold fX0_losesNothing_b71 at hf
  refine x_iinc C dX0_losesNothing_71 (pc' := 74) rfl rfl (v := (i3 + 1)) rfl (by decide) rfl (lv' := [some (vR a0), some (vR a1), none, some (vI (i3 + 1)), none]) rfl ?_
  refine x_goto C dX0_losesNothing_74 (tgt := 36) (by decide) ?_
  exact hw36 a0 a1 (i3 + 1) h hf
def fX0_losesNothing_w47 (w36 : Nat → Nat → Int32 → Hp → Option (Int32 × Hp)) : Nat → Nat → Nat → Int32 → Int32 → Hp → Option (Int32 × Hp)
  | 0 => fun _ _ _ _ _ => none
  | n + 1 => fun a0 a1 i3 i4 h => if i3 ≤ i4 then (fX0_losesNothing_b71 w36 a0 a1 i3 h) else (call (oK h a0 0 (fX0_lives h a0 i3 i4)) fun r1 h2 => if r1 = 0 then ((fX0_losesNothing_w47 w36 n) a0 a1 i3 (i4 + 1) h2) else (retZ (0 : Int32) h2))
set_option maxHeartbeats 4000000 in
set_option maxRecDepth 100000 in
theorem mX0_losesNothing_w47 {g : XG} {p : Program} {l : Launch} {e : Env} {s : State} {m : MethodId} {args : Array Value} {below : List Frame} {meth : Method} {c : Code} (C : x_C g p s m args c cX0_losesNothing RX0 5 wsX0_losesNothing) (hr : meth.sig.returnType = (some .boolean)) (hlk : meth.locks = false) (hnm : meth.name = yX0_losesNothing.name) {res : Int32 × Hp} (w36 : Nat → Nat → Int32 → Hp → Option (Int32 × Hp)) (hw36 : ∀ (a0 : Nat) (a1 : Nat) (i3 : Int32) (h : Hp), w36 a0 a1 i3 h = some res → XW g p l e { frames := 3, cells := 0, slots := 0, locals := 74 } s m args below meth c (MQ below (x_Q g (some (vI res.1)) res.2) args s 0 0 (x_A g)) 5 0 0 h 36 [some (vR a0), some (vR a1), none, some (vI i3), none] []) : ∀ (n : Nat) (a0 : Nat) (a1 : Nat) (i3 : Int32) (i4 : Int32) (h : Hp), fX0_losesNothing_w47 w36 n a0 a1 i3 i4 h = some res → XW g p l e { frames := 3, cells := 0, slots := 0, locals := 74 } s m args below meth c (MQ below (x_Q g (some (vI res.1)) res.2) args s 0 0 (x_A g)) 5 0 0 h 47 [some (vR a0), some (vR a1), none, some (vI i3), some (vI i4)] [] := by
  intro n
  induction n with
  | zero =>
    intro a0 a1 i3 i4 h hf
    have hf2 : (none : Option (Int32 × Hp)) = some res := hf
    cases hf2
  | succ n ih =>
    intro a0 a1 i3 i4 h hf
    rw [fX0_losesNothing_w47] at hf
    refine x_iload C dX0_losesNothing_47 (pc' := 49) rfl rfl ?_
    refine x_iload_n C dX0_losesNothing_49 (pc' := 50) rfl rfl rfl ?_
    refine x_icmp_ge C hf dX0_losesNothing_50 (pc' := 53) rfl (tgt := 71) (by decide) (fun _ hf => ?_) (fun _ hf => ?_)
    ·
      refine x_keep [true, true, false, true, false] rfl ?_
      refine x_more (k' := 0) (n' := 0) (Nat.le_of_ble_eq_true rfl) (Nat.le_of_ble_eq_true rfl) ?_
      exact mX0_losesNothing_b71 C hr hlk hnm w36 hw36 a0 a1 i3 h hf
    ·
      refine x_aload_n C dX0_losesNothing_53 (pc' := 54) rfl rfl rfl ?_
      refine x_iload_n C dX0_losesNothing_54 (pc' := 55) rfl rfl rfl ?_
      refine x_iload C dX0_losesNothing_55 (pc' := 57) rfl rfl ?_
      obtain ⟨r1, h2, hq, hf⟩ := call_some hf
      obtain ⟨hob, hq⟩ := oK_some hq
      refine x_callV C (As := [vI i3, vI i4]) (st := []) (r := (some (vI r1))) (h' := h2) (mc := 0) (ms := 0) (k := 0) (n := 0) (mX0_lives hq) hob (ci := 0) rfl (cwV 2 C.1.2.2.2.2 gX0_losesNothing_X0_lives rfl rfl rfl (by decide +kernel) ⟨Nat.le_of_ble_eq_true rfl, Nat.le_of_ble_eq_true rfl⟩) rfl rfl (Nat.le_of_ble_eq_true rfl) dX0_losesNothing_57 (pc' := 60) rfl ?_
      refine x_if_eq C hf dX0_losesNothing_60 (pc' := 63) rfl (tgt := 65) (by decide) (fun _ hf => ?_) (fun _ hf => ?_)
      ·
        refine x_iinc C dX0_losesNothing_65 (pc' := 68) rfl rfl (v := (i4 + 1)) rfl (by decide) rfl (lv' := [some (vR a0), some (vR a1), none, some (vI i3), some (vI (i4 + 1))]) rfl ?_
        refine x_goto C dX0_losesNothing_68 (tgt := 47) (by decide) ?_
        exact ih a0 a1 i3 (i4 + 1) h2 hf
      ·
        refine x_iconst C (v := 0) (by decide) dX0_losesNothing_63 (pc' := 64) rfl ?_
        exact x_zret C hf hr hlk dX0_losesNothing_64
def fX0_losesNothing_w36 : Nat → Nat → Nat → Int32 → Hp → Option (Int32 × Hp)
  | 0 => fun _ _ _ _ => none
  | n + 1 => fun a0 a1 i3 h => (gI h a1 1 2).bind fun v1 => if v1 ≤ i3 then (retZ (1 : Int32) h) else (fX0_losesNothing_w47 (fX0_losesNothing_w36 n) FUEL a0 a1 i3 (0 : Int32) h)
set_option maxHeartbeats 4000000 in
set_option maxRecDepth 100000 in
theorem mX0_losesNothing_w36 {g : XG} {p : Program} {l : Launch} {e : Env} {s : State} {m : MethodId} {args : Array Value} {below : List Frame} {meth : Method} {c : Code} (C : x_C g p s m args c cX0_losesNothing RX0 5 wsX0_losesNothing) (hr : meth.sig.returnType = (some .boolean)) (hlk : meth.locks = false) (hnm : meth.name = yX0_losesNothing.name) {res : Int32 × Hp} : ∀ (n : Nat) (a0 : Nat) (a1 : Nat) (i3 : Int32) (h : Hp), fX0_losesNothing_w36 n a0 a1 i3 h = some res → XW g p l e { frames := 3, cells := 0, slots := 0, locals := 74 } s m args below meth c (MQ below (x_Q g (some (vI res.1)) res.2) args s 0 0 (x_A g)) 5 0 0 h 36 [some (vR a0), some (vR a1), none, some (vI i3), none] [] := by
  intro n
  induction n with
  | zero =>
    intro a0 a1 i3 h hf
    have hf2 : (none : Option (Int32 × Hp)) = some res := hf
    cases hf2
  | succ n ih =>
    intro a0 a1 i3 h hf
    rw [fX0_losesNothing_w36] at hf
    refine x_iload_n C dX0_losesNothing_36 (pc' := 37) rfl rfl rfl ?_
    refine x_aload_n C dX0_losesNothing_37 (pc' := 38) rfl rfl rfl ?_
    refine x_getIN C (ci := 1) (kf := 2) rfl (by decide) hinX0_losesNothing_X1 (List.mem_of_getElem? (i := 8) rfl) rfl hf dX0_losesNothing_38 (pc' := 41) rfl (fun v1 _ hf => ?_)
    refine x_icmp_ge C hf dX0_losesNothing_41 (pc' := 44) rfl (tgt := 77) (by decide) (fun _ hf => ?_) (fun _ hf => ?_)
    ·
      refine x_iconst C (v := 1) (by decide) dX0_losesNothing_77 (pc' := 78) rfl ?_
      exact x_zret C hf hr hlk dX0_losesNothing_78
    ·
      refine x_iconst C (v := 0) (by decide) dX0_losesNothing_44 (pc' := 45) rfl ?_
      refine x_istore C dX0_losesNothing_45 (pc' := 47) rfl (by decide) rfl (lv' := [some (vR a0), some (vR a1), none, some (vI i3), some (vI (0 : Int32))]) rfl ?_
      refine x_more (k' := 0) (n' := 0) (Nat.le_of_ble_eq_true rfl) (Nat.le_of_ble_eq_true rfl) ?_
      exact mX0_losesNothing_w47 C hr hlk hnm (fX0_losesNothing_w36 n) ih FUEL a0 a1 i3 (0 : Int32) h hf
def fX0_losesNothing_b34 (a0 : Nat) (a1 : Nat) (h : Hp) : Option (Int32 × Hp) := fX0_losesNothing_w36 FUEL a0 a1 (0 : Int32) h
set_option maxHeartbeats 4000000 in
set_option maxRecDepth 100000 in
theorem mX0_losesNothing_b34 {g : XG} {p : Program} {l : Launch} {e : Env} {s : State} {m : MethodId} {args : Array Value} {below : List Frame} {meth : Method} {c : Code} (C : x_C g p s m args c cX0_losesNothing RX0 5 wsX0_losesNothing) (hr : meth.sig.returnType = (some .boolean)) (hlk : meth.locks = false) (hnm : meth.name = yX0_losesNothing.name) {res : Int32 × Hp} (a0 : Nat) (a1 : Nat) (h : Hp) (hf : fX0_losesNothing_b34 a0 a1 h = some res) : XW g p l e { frames := 3, cells := 0, slots := 0, locals := 74 } s m args below meth c (MQ below (x_Q g (some (vI res.1)) res.2) args s 0 0 (x_A g)) 5 0 0 h 34 [some (vR a0), some (vR a1), none, none, none] [] := by
  unfold fX0_losesNothing_b34 at hf
  refine x_iconst C (v := 0) (by decide) dX0_losesNothing_34 (pc' := 35) rfl ?_
  refine x_istore_n C dX0_losesNothing_35 (pc' := 36) rfl rfl (by decide) rfl (lv' := [some (vR a0), some (vR a1), none, some (vI (0 : Int32)), none]) rfl ?_
  refine x_more (k' := 0) (n' := 0) (Nat.le_of_ble_eq_true rfl) (Nat.le_of_ble_eq_true rfl) ?_
  exact mX0_losesNothing_w36 C hr hlk hnm FUEL a0 a1 (0 : Int32) h hf
def fX0_losesNothing_w9 : Nat → Nat → Nat → Int32 → Int32 → Hp → Option (Int32 × Hp)
  | 0 => fun _ _ _ _ _ => none
  | n + 1 => fun a0 a1 i2 i3 h => (gR h a0 0 0).bind fun v1 => (aN h v1).bind fun v2 => if v2 < i3 then (fX0_losesNothing_b34 a0 a1 h) else (if i2 = 0 then (fX0_losesNothing_b34 a0 a1 h) else (call (oK h a0 0 (fX0_prune h a0 a1)) fun r3 h4 => (fX0_losesNothing_w9 n) a0 a1 r3 (i3 + 1) h4))
set_option maxHeartbeats 4000000 in
set_option maxRecDepth 100000 in
theorem mX0_losesNothing_w9 {g : XG} {p : Program} {l : Launch} {e : Env} {s : State} {m : MethodId} {args : Array Value} {below : List Frame} {meth : Method} {c : Code} (C : x_C g p s m args c cX0_losesNothing RX0 5 wsX0_losesNothing) (hr : meth.sig.returnType = (some .boolean)) (hlk : meth.locks = false) (hnm : meth.name = yX0_losesNothing.name) {res : Int32 × Hp} : ∀ (n : Nat) (a0 : Nat) (a1 : Nat) (i2 : Int32) (i3 : Int32) (h : Hp), fX0_losesNothing_w9 n a0 a1 i2 i3 h = some res → XW g p l e { frames := 3, cells := 0, slots := 0, locals := 74 } s m args below meth c (MQ below (x_Q g (some (vI res.1)) res.2) args s 0 0 (x_A g)) 5 0 0 h 9 [some (vR a0), some (vR a1), some (vI i2), some (vI i3), none] [] := by
  intro n
  induction n with
  | zero =>
    intro a0 a1 i2 i3 h hf
    have hf2 : (none : Option (Int32 × Hp)) = some res := hf
    cases hf2
  | succ n ih =>
    intro a0 a1 i2 i3 h hf
    rw [fX0_losesNothing_w9] at hf
    refine x_iload_n C dX0_losesNothing_9 (pc' := 10) rfl rfl rfl ?_
    refine x_aload_n C dX0_losesNothing_10 (pc' := 11) rfl rfl rfl ?_
    refine x_getR C (ci := 0) (kf := 0) rfl (by decide) hinX0_losesNothing_X0 lkX0_losesNothing_0 rfl hf dX0_losesNothing_11 (pc' := 14) rfl (fun v1 _ hf => ?_)
    refine x_alen C hf dX0_losesNothing_14 (pc' := 15) rfl (fun v2 _ hf => ?_)
    refine x_icmp_gt C hf dX0_losesNothing_15 (pc' := 18) rfl (tgt := 34) (by decide) (fun _ hf => ?_) (fun _ hf => ?_)
    ·
      refine x_keep [true, true, false, false, false] rfl ?_
      refine x_more (k' := 0) (n' := 0) (Nat.le_of_ble_eq_true rfl) (Nat.le_of_ble_eq_true rfl) ?_
      exact mX0_losesNothing_b34 C hr hlk hnm a0 a1 h hf
    ·
      refine x_iload_n C dX0_losesNothing_18 (pc' := 19) rfl rfl rfl ?_
      refine x_if_eq C hf dX0_losesNothing_19 (pc' := 22) rfl (tgt := 34) (by decide) (fun _ hf => ?_) (fun _ hf => ?_)
      ·
        refine x_keep [true, true, false, false, false] rfl ?_
        refine x_more (k' := 0) (n' := 0) (Nat.le_of_ble_eq_true rfl) (Nat.le_of_ble_eq_true rfl) ?_
        exact mX0_losesNothing_b34 C hr hlk hnm a0 a1 h hf
      ·
        refine x_aload_n C dX0_losesNothing_22 (pc' := 23) rfl rfl rfl ?_
        refine x_aload_n C dX0_losesNothing_23 (pc' := 24) rfl rfl rfl ?_
        obtain ⟨r3, h4, hq, hf⟩ := call_some hf
        obtain ⟨hob, hq⟩ := oK_some hq
        refine x_callV C (As := [vR a1]) (st := []) (r := (some (vI r3))) (h' := h4) (mc := 0) (ms := 0) (k := 0) (n := 0) (mX0_prune hq) hob (ci := 0) rfl (cwV 1 C.1.2.2.2.2 gX0_losesNothing_X0_prune rfl rfl rfl (by decide +kernel) ⟨Nat.le_of_ble_eq_true rfl, Nat.le_of_ble_eq_true rfl⟩) rfl rfl (Nat.le_of_ble_eq_true rfl) dX0_losesNothing_24 (pc' := 27) rfl ?_
        refine x_istore_n C dX0_losesNothing_27 (pc' := 28) rfl rfl (by decide) rfl (lv' := [some (vR a0), some (vR a1), some (vI r3), some (vI i3), none]) rfl ?_
        refine x_iinc C dX0_losesNothing_28 (pc' := 31) rfl rfl (v := (i3 + 1)) rfl (by decide) rfl (lv' := [some (vR a0), some (vR a1), some (vI r3), some (vI (i3 + 1)), none]) rfl ?_
        refine x_goto C dX0_losesNothing_31 (tgt := 9) (by decide) ?_
        exact ih a0 a1 r3 (i3 + 1) h4 hf
def fX0_losesNothing (h : Hp) (a0 : Nat) (a1 : Nat) : Option (Int32 × Hp) := (oK h a0 0 (fX0_begin h a0 a1)).bind fun h2 => fX0_losesNothing_w9 FUEL a0 a1 (1 : Int32) (0 : Int32) h2
set_option maxHeartbeats 4000000 in
set_option maxRecDepth 100000 in
theorem mX0_losesNothing {l : Launch} {g : XG} {h : Hp} {a0 : Nat} {a1 : Nat} {res : Int32 × Hp} (hf : fX0_losesNothing h a0 a1 = some res) : XM l g yX0_losesNothing wsX0_losesNothing 3 74 0 0 [vR a0, vR a1] h (some (vI res.1)) res.2 := by
  refine x_start (cc := cX0_losesNothing) (maxL := 5) (ret := (some .boolean)) (by decide) rfl (Nat.le_of_ble_eq_true rfl) (lv := [some (vR a0), some (vR a1), none, none, none]) rfl ?_
  intro p e s m args below meth c C hr hlk hnm
  unfold fX0_losesNothing at hf
  refine x_aload_n C dX0_losesNothing_0 (pc' := 1) rfl rfl rfl ?_
  refine x_aload_n C dX0_losesNothing_1 (pc' := 2) rfl rfl rfl ?_
  obtain ⟨h2, hq, hf⟩ := bind_some hf
  obtain ⟨hob, hq⟩ := oK_some hq
  refine x_callV C (As := [vR a1]) (st := []) (r := none) (h' := h2) (mc := 0) (ms := 0) (k := 0) (n := 0) (mX0_begin hq) hob (ci := 0) rfl (cwV 1 C.1.2.2.2.2 gX0_losesNothing_X0_begin rfl rfl rfl (by decide +kernel) ⟨Nat.le_of_ble_eq_true rfl, Nat.le_of_ble_eq_true rfl⟩) rfl rfl (Nat.le_of_ble_eq_true rfl) dX0_losesNothing_2 (pc' := 5) rfl ?_
  refine x_iconst C (v := 1) (by decide) dX0_losesNothing_5 (pc' := 6) rfl ?_
  refine x_istore_n C dX0_losesNothing_6 (pc' := 7) rfl rfl (by decide) rfl (lv' := [some (vR a0), some (vR a1), some (vI (1 : Int32)), none, none]) rfl ?_
  refine x_iconst C (v := 0) (by decide) dX0_losesNothing_7 (pc' := 8) rfl ?_
  refine x_istore_n C dX0_losesNothing_8 (pc' := 9) rfl rfl (by decide) rfl (lv' := [some (vR a0), some (vR a1), some (vI (1 : Int32)), some (vI (0 : Int32)), none]) rfl ?_
  refine x_more (k' := 0) (n' := 0) (Nat.le_of_ble_eq_true rfl) (Nat.le_of_ble_eq_true rfl) ?_
  exact mX0_losesNothing_w9 C hr hlk hnm FUEL a0 a1 (1 : Int32) (0 : Int32) h2 hf

-- ===== X7_all
theorem lkX7_all_0 : Cond.fieldLink RX7 71 "MossRingsModel" "heightOf" "[I" ∈ wsX7_all := by decide +kernel
theorem hinX7_all_X7 : ∀ w ∈ u_ws RX7 TX7 27, w ∈ wsX7_all := by decide +kernel
theorem lkX7_all_1 : Cond.fieldLink RX7 65 "MossRingsModel" "leads" "[I" ∈ wsX7_all := by decide +kernel
theorem lkX7_all_2 : Cond.fieldLink RX7 74 "MossRingsModel" "mark" "[I" ∈ wsX7_all := by decide +kernel
theorem lkX7_all_3 : Cond.fieldLink RX7 68 "MossRingsModel" "ahead" "[I" ∈ wsX7_all := by decide +kernel
theorem lkX7_all_4 : Cond.fieldLink RX7 26 "MossRingsModel" "cells" "[I" ∈ wsX7_all := by decide +kernel
theorem lkX7_all_5 : Cond.fieldLink RX7 13 "MossRingsModel" "states" "[I" ∈ wsX7_all := by decide +kernel
theorem lkX7_all_6 : Cond.fieldLink RX7 80 "MossRingsModel" "thrown" "I" ∈ wsX7_all := by decide +kernel
def fX7_all_b585 (i3 : Int32) (i10 : Int32) (i11 : Int32) (h : Hp) : Option (Int32 × Hp) := if i3 = (2 : Int32) then (some (i10, h)) else (some (i11, h))
set_option maxHeartbeats 4000000 in
set_option maxRecDepth 100000 in
theorem mX7_all_b585 {g : XG} {p : Program} {l : Launch} {e : Env} {s : State} {m : MethodId} {args : Array Value} {below : List Frame} {meth : Method} {c : Code} (C : x_C g p s m args c cX7_all RX7 15 wsX7_all) (hr : meth.sig.returnType = (some .int)) (hlk : meth.locks = false) (hnm : meth.name = yX7_all.name) {res : Int32 × Hp} (i3 : Int32) (i10 : Int32) (i11 : Int32) (h : Hp) (hf : fX7_all_b585 i3 i10 i11 h = some res) : XW g p l e { frames := 3, cells := 0, slots := 0, locals := 70 } s m args below meth c (MQ below (x_Q g (some (vI res.1)) res.2) args s 0 0 (x_A g)) 15 0 0 h 585 [none, none, none, some (vI i3), none, none, none, none, none, none, some (vI i10), some (vI i11), none, none, none] [] := by
  unfold fX7_all_b585 at hf
  refine x_iload_n C dX7_all_585 (pc' := 586) rfl rfl rfl ?_
  refine x_iconst C (v := 2) (by decide) dX7_all_586 (pc' := 587) rfl ?_
  refine x_icmp_ne C hf dX7_all_587 (pc' := 590) rfl (tgt := 595) (by decide) (fun _ hf => ?_) (fun _ hf => ?_)
  ·
    refine x_iload C dX7_all_590 (pc' := 592) rfl rfl ?_
    refine x_goto C dX7_all_592 (tgt := 597) (by decide) ?_
    cases hf
    exact x_iret C hr hlk dX7_all_597
  ·
    refine x_iload C dX7_all_595 (pc' := 597) rfl rfl ?_
    cases hf
    exact x_iret C hr hlk dX7_all_597
def fX7_all_b579 (w500 : Nat → Int32 → Int32 → Int32 → Int32 → Int32 → Hp → Option (Int32 × Hp)) (a0 : Nat) (i3 : Int32) (i5 : Int32) (i10 : Int32) (i11 : Int32) (i12 : Int32) (h : Hp) : Option (Int32 × Hp) := w500 a0 i3 i5 i10 i11 (i12 + 1) h
set_option maxHeartbeats 4000000 in
set_option maxRecDepth 100000 in
theorem mX7_all_b579 {g : XG} {p : Program} {l : Launch} {e : Env} {s : State} {m : MethodId} {args : Array Value} {below : List Frame} {meth : Method} {c : Code} (C : x_C g p s m args c cX7_all RX7 15 wsX7_all) (hr : meth.sig.returnType = (some .int)) (hlk : meth.locks = false) (hnm : meth.name = yX7_all.name) {res : Int32 × Hp} (w500 : Nat → Int32 → Int32 → Int32 → Int32 → Int32 → Hp → Option (Int32 × Hp)) (hw500 : ∀ (a0 : Nat) (i3 : Int32) (i5 : Int32) (i10 : Int32) (i11 : Int32) (i12 : Int32) (h : Hp), w500 a0 i3 i5 i10 i11 i12 h = some res → XW g p l e { frames := 3, cells := 0, slots := 0, locals := 70 } s m args below meth c (MQ below (x_Q g (some (vI res.1)) res.2) args s 0 0 (x_A g)) 15 0 0 h 500 [some (vR a0), none, none, some (vI i3), none, some (vI i5), none, none, none, none, some (vI i10), some (vI i11), some (vI i12), none, none] []) (a0 : Nat) (i3 : Int32) (i5 : Int32) (i10 : Int32) (i11 : Int32) (i12 : Int32) (h : Hp) (hf : fX7_all_b579 w500 a0 i3 i5 i10 i11 i12 h = some res) : XW g p l e { frames := 3, cells := 0, slots := 0, locals := 70 } s m args below meth c (MQ below (x_Q g (some (vI res.1)) res.2) args s 0 0 (x_A g)) 15 0 0 h 579 [some (vR a0), none, none, some (vI i3), none, some (vI i5), none, none, none, none, some (vI i10), some (vI i11), some (vI i12), none, none] [] := by
  unfold fX7_all_b579 at hf
  refine x_iinc C dX7_all_579 (pc' := 582) rfl rfl (v := (i12 + 1)) rfl (by decide) rfl (lv' := [some (vR a0), none, none, some (vI i3), none, some (vI i5), none, none, none, none, some (vI i10), some (vI i11), some (vI (i12 + 1)), none, none]) rfl ?_
  refine x_goto C dX7_all_582 (tgt := 500) (by decide) ?_
  exact hw500 a0 i3 i5 i10 i11 (i12 + 1) h hf
def fX7_all_b577 (w500 : Nat → Int32 → Int32 → Int32 → Int32 → Int32 → Hp → Option (Int32 × Hp)) (a0 : Nat) (i3 : Int32) (i5 : Int32) (i10 : Int32) (i12 : Int32) (s0 : Int32) (h : Hp) : Option (Int32 × Hp) := fX7_all_b579 w500 a0 i3 i5 i10 s0 i12 h
set_option maxHeartbeats 4000000 in
set_option maxRecDepth 100000 in
theorem mX7_all_b577 {g : XG} {p : Program} {l : Launch} {e : Env} {s : State} {m : MethodId} {args : Array Value} {below : List Frame} {meth : Method} {c : Code} (C : x_C g p s m args c cX7_all RX7 15 wsX7_all) (hr : meth.sig.returnType = (some .int)) (hlk : meth.locks = false) (hnm : meth.name = yX7_all.name) {res : Int32 × Hp} (w500 : Nat → Int32 → Int32 → Int32 → Int32 → Int32 → Hp → Option (Int32 × Hp)) (hw500 : ∀ (a0 : Nat) (i3 : Int32) (i5 : Int32) (i10 : Int32) (i11 : Int32) (i12 : Int32) (h : Hp), w500 a0 i3 i5 i10 i11 i12 h = some res → XW g p l e { frames := 3, cells := 0, slots := 0, locals := 70 } s m args below meth c (MQ below (x_Q g (some (vI res.1)) res.2) args s 0 0 (x_A g)) 15 0 0 h 500 [some (vR a0), none, none, some (vI i3), none, some (vI i5), none, none, none, none, some (vI i10), some (vI i11), some (vI i12), none, none] []) (a0 : Nat) (i3 : Int32) (i5 : Int32) (i10 : Int32) (i12 : Int32) (s0 : Int32) (h : Hp) (hf : fX7_all_b577 w500 a0 i3 i5 i10 i12 s0 h = some res) : XW g p l e { frames := 3, cells := 0, slots := 0, locals := 70 } s m args below meth c (MQ below (x_Q g (some (vI res.1)) res.2) args s 0 0 (x_A g)) 15 0 0 h 577 [some (vR a0), none, none, some (vI i3), none, some (vI i5), none, none, none, none, some (vI i10), none, some (vI i12), none, none] [vI s0] := by
  unfold fX7_all_b577 at hf
  refine x_istore C dX7_all_577 (pc' := 579) rfl (by decide) rfl (lv' := [some (vR a0), none, none, some (vI i3), none, some (vI i5), none, none, none, none, some (vI i10), some (vI s0), some (vI i12), none, none]) rfl ?_
  refine x_more (k' := 0) (n' := 0) (Nat.le_of_ble_eq_true rfl) (Nat.le_of_ble_eq_true rfl) ?_
  exact mX7_all_b579 C hr hlk hnm w500 hw500 a0 i3 i5 i10 s0 i12 h hf
def fX7_all_b560 (w500 : Nat → Int32 → Int32 → Int32 → Int32 → Int32 → Hp → Option (Int32 × Hp)) (a0 : Nat) (i3 : Int32) (i5 : Int32) (i10 : Int32) (i11 : Int32) (i12 : Int32) (i13 : Int32) (h : Hp) : Option (Int32 × Hp) := if i13 ≤ i11 then (fX7_all_b577 w500 a0 i3 i5 (i10 + 1) i12 i11 h) else (fX7_all_b577 w500 a0 i3 i5 (i10 + 1) i12 i13 h)
set_option maxHeartbeats 4000000 in
set_option maxRecDepth 100000 in
theorem mX7_all_b560 {g : XG} {p : Program} {l : Launch} {e : Env} {s : State} {m : MethodId} {args : Array Value} {below : List Frame} {meth : Method} {c : Code} (C : x_C g p s m args c cX7_all RX7 15 wsX7_all) (hr : meth.sig.returnType = (some .int)) (hlk : meth.locks = false) (hnm : meth.name = yX7_all.name) {res : Int32 × Hp} (w500 : Nat → Int32 → Int32 → Int32 → Int32 → Int32 → Hp → Option (Int32 × Hp)) (hw500 : ∀ (a0 : Nat) (i3 : Int32) (i5 : Int32) (i10 : Int32) (i11 : Int32) (i12 : Int32) (h : Hp), w500 a0 i3 i5 i10 i11 i12 h = some res → XW g p l e { frames := 3, cells := 0, slots := 0, locals := 70 } s m args below meth c (MQ below (x_Q g (some (vI res.1)) res.2) args s 0 0 (x_A g)) 15 0 0 h 500 [some (vR a0), none, none, some (vI i3), none, some (vI i5), none, none, none, none, some (vI i10), some (vI i11), some (vI i12), none, none] []) (a0 : Nat) (i3 : Int32) (i5 : Int32) (i10 : Int32) (i11 : Int32) (i12 : Int32) (i13 : Int32) (h : Hp) (hf : fX7_all_b560 w500 a0 i3 i5 i10 i11 i12 i13 h = some res) : XW g p l e { frames := 3, cells := 0, slots := 0, locals := 70 } s m args below meth c (MQ below (x_Q g (some (vI res.1)) res.2) args s 0 0 (x_A g)) 15 0 0 h 560 [some (vR a0), none, none, some (vI i3), none, some (vI i5), none, none, none, none, some (vI i10), some (vI i11), some (vI i12), some (vI i13), none] [] := by
  unfold fX7_all_b560 at hf
  refine x_iinc C dX7_all_560 (pc' := 563) rfl rfl (v := (i10 + 1)) rfl (by decide) rfl (lv' := [some (vR a0), none, none, some (vI i3), none, some (vI i5), none, none, none, none, some (vI (i10 + 1)), some (vI i11), some (vI i12), some (vI i13), none]) rfl ?_
  refine x_iload C dX7_all_563 (pc' := 565) rfl rfl ?_
  refine x_iload C dX7_all_565 (pc' := 567) rfl rfl ?_
  refine x_icmp_le C hf dX7_all_567 (pc' := 570) rfl (tgt := 575) (by decide) (fun _ hf => ?_) (fun _ hf => ?_)
  ·
    refine x_iload C dX7_all_575 (pc' := 577) rfl rfl ?_
    refine x_keep [true, false, false, true, false, true, false, false, false, false, true, false, true, false, false] rfl ?_
    refine x_more (k' := 0) (n' := 0) (Nat.le_of_ble_eq_true rfl) (Nat.le_of_ble_eq_true rfl) ?_
    exact mX7_all_b577 C hr hlk hnm w500 hw500 a0 i3 i5 (i10 + 1) i12 i11 h hf
  ·
    refine x_iload C dX7_all_570 (pc' := 572) rfl rfl ?_
    refine x_goto C dX7_all_572 (tgt := 577) (by decide) ?_
    refine x_keep [true, false, false, true, false, true, false, false, false, false, true, false, true, false, false] rfl ?_
    refine x_more (k' := 0) (n' := 0) (Nat.le_of_ble_eq_true rfl) (Nat.le_of_ble_eq_true rfl) ?_
    exact mX7_all_b577 C hr hlk hnm w500 hw500 a0 i3 i5 (i10 + 1) i12 i13 h hf
def fX7_all_w527 (w500 : Nat → Int32 → Int32 → Int32 → Int32 → Int32 → Hp → Option (Int32 × Hp)) : Nat → Nat → Int32 → Int32 → Int32 → Int32 → Int32 → Int32 → Int32 → Hp → Option (Int32 × Hp)
  | 0 => fun _ _ _ _ _ _ _ _ _ => none
  | n + 1 => fun a0 i3 i5 i10 i11 i12 i13 i14 h => (gR h a0 7 24).bind fun v1 => (aI h v1 0 i14).bind fun v2 => if v2 = 0 then ((gR h a0 7 24).bind fun v3 => (sI h v3 0 i14 (-1 : Int32)).bind fun h4 => (gR h4 a0 7 22).bind fun v5 => (aI h4 v5 0 i14).bind fun v6 => (fX7_all_w527 w500 n) a0 i3 i5 i10 i11 i12 (i13 + 1) v6 h4) else (fX7_all_b560 w500 a0 i3 i5 i10 i11 i12 i13 h)
set_option maxHeartbeats 4000000 in
set_option maxRecDepth 100000 in
theorem mX7_all_w527 {g : XG} {p : Program} {l : Launch} {e : Env} {s : State} {m : MethodId} {args : Array Value} {below : List Frame} {meth : Method} {c : Code} (C : x_C g p s m args c cX7_all RX7 15 wsX7_all) (hr : meth.sig.returnType = (some .int)) (hlk : meth.locks = false) (hnm : meth.name = yX7_all.name) {res : Int32 × Hp} (w500 : Nat → Int32 → Int32 → Int32 → Int32 → Int32 → Hp → Option (Int32 × Hp)) (hw500 : ∀ (a0 : Nat) (i3 : Int32) (i5 : Int32) (i10 : Int32) (i11 : Int32) (i12 : Int32) (h : Hp), w500 a0 i3 i5 i10 i11 i12 h = some res → XW g p l e { frames := 3, cells := 0, slots := 0, locals := 70 } s m args below meth c (MQ below (x_Q g (some (vI res.1)) res.2) args s 0 0 (x_A g)) 15 0 0 h 500 [some (vR a0), none, none, some (vI i3), none, some (vI i5), none, none, none, none, some (vI i10), some (vI i11), some (vI i12), none, none] []) : ∀ (n : Nat) (a0 : Nat) (i3 : Int32) (i5 : Int32) (i10 : Int32) (i11 : Int32) (i12 : Int32) (i13 : Int32) (i14 : Int32) (h : Hp), fX7_all_w527 w500 n a0 i3 i5 i10 i11 i12 i13 i14 h = some res → XW g p l e { frames := 3, cells := 0, slots := 0, locals := 70 } s m args below meth c (MQ below (x_Q g (some (vI res.1)) res.2) args s 0 0 (x_A g)) 15 0 0 h 527 [some (vR a0), none, none, some (vI i3), none, some (vI i5), none, none, none, none, some (vI i10), some (vI i11), some (vI i12), some (vI i13), some (vI i14)] [] := by
  intro n
  induction n with
  | zero =>
    intro a0 i3 i5 i10 i11 i12 i13 i14 h hf
    have hf2 : (none : Option (Int32 × Hp)) = some res := hf
    cases hf2
  | succ n ih =>
    intro a0 i3 i5 i10 i11 i12 i13 i14 h hf
    rw [fX7_all_w527] at hf
    refine x_aload_n C dX7_all_527 (pc' := 528) rfl rfl rfl ?_
    refine x_getR C (ci := 7) (kf := 24) rfl (by decide) hinX7_all_X7 lkX7_all_0 rfl hf dX7_all_528 (pc' := 531) rfl (fun v1 _ hf => ?_)
    refine x_iload C dX7_all_531 (pc' := 533) rfl rfl ?_
    refine x_iaload C hf dX7_all_533 (pc' := 534) rfl (fun v2 _ hf => ?_)
    refine x_if_ne C hf dX7_all_534 (pc' := 537) rfl (tgt := 560) (by decide) (fun _ hf => ?_) (fun _ hf => ?_)
    ·
      refine x_aload_n C dX7_all_537 (pc' := 538) rfl rfl rfl ?_
      refine x_getR C (ci := 7) (kf := 24) rfl (by decide) hinX7_all_X7 lkX7_all_0 rfl hf dX7_all_538 (pc' := 541) rfl (fun v3 _ hf => ?_)
      refine x_iload C dX7_all_541 (pc' := 543) rfl rfl ?_
      refine x_iconst C (v := -1) (by decide) dX7_all_543 (pc' := 544) rfl ?_
      refine x_iastore C hf dX7_all_544 (pc' := 545) rfl (fun h4 _ hf => ?_)
      refine x_iinc C dX7_all_545 (pc' := 548) rfl rfl (v := (i13 + 1)) rfl (by decide) rfl (lv' := [some (vR a0), none, none, some (vI i3), none, some (vI i5), none, none, none, none, some (vI i10), some (vI i11), some (vI i12), some (vI (i13 + 1)), some (vI i14)]) rfl ?_
      refine x_aload_n C dX7_all_548 (pc' := 549) rfl rfl rfl ?_
      refine x_getR C (ci := 7) (kf := 22) rfl (by decide) hinX7_all_X7 lkX7_all_1 rfl hf dX7_all_549 (pc' := 552) rfl (fun v5 _ hf => ?_)
      refine x_iload C dX7_all_552 (pc' := 554) rfl rfl ?_
      refine x_iaload C hf dX7_all_554 (pc' := 555) rfl (fun v6 _ hf => ?_)
      refine x_istore C dX7_all_555 (pc' := 557) rfl (by decide) rfl (lv' := [some (vR a0), none, none, some (vI i3), none, some (vI i5), none, none, none, none, some (vI i10), some (vI i11), some (vI i12), some (vI (i13 + 1)), some (vI v6)]) rfl ?_
      refine x_goto C dX7_all_557 (tgt := 527) (by decide) ?_
      exact ih a0 i3 i5 i10 i11 i12 (i13 + 1) v6 h4 hf
    ·
      refine x_keep [true, false, false, true, false, true, false, false, false, false, true, true, true, true, false] rfl ?_
      refine x_more (k' := 0) (n' := 0) (Nat.le_of_ble_eq_true rfl) (Nat.le_of_ble_eq_true rfl) ?_
      exact mX7_all_b560 C hr hlk hnm w500 hw500 a0 i3 i5 i10 i11 i12 i13 h hf
def fX7_all_w500 : Nat → Nat → Int32 → Int32 → Int32 → Int32 → Int32 → Hp → Option (Int32 × Hp)
  | 0 => fun _ _ _ _ _ _ _ => none
  | n + 1 => fun a0 i3 i5 i10 i11 i12 h => if i5 ≤ i12 then (fX7_all_b585 i3 i10 i11 h) else ((gR h a0 7 24).bind fun v1 => (aI h v1 0 i12).bind fun v2 => if v2 = 0 then (fX7_all_w527 (fX7_all_w500 n) FUEL a0 i3 i5 i10 i11 i12 (0 : Int32) i12 h) else (fX7_all_b579 (fX7_all_w500 n) a0 i3 i5 i10 i11 i12 h))
set_option maxHeartbeats 4000000 in
set_option maxRecDepth 100000 in
theorem mX7_all_w500 {g : XG} {p : Program} {l : Launch} {e : Env} {s : State} {m : MethodId} {args : Array Value} {below : List Frame} {meth : Method} {c : Code} (C : x_C g p s m args c cX7_all RX7 15 wsX7_all) (hr : meth.sig.returnType = (some .int)) (hlk : meth.locks = false) (hnm : meth.name = yX7_all.name) {res : Int32 × Hp} : ∀ (n : Nat) (a0 : Nat) (i3 : Int32) (i5 : Int32) (i10 : Int32) (i11 : Int32) (i12 : Int32) (h : Hp), fX7_all_w500 n a0 i3 i5 i10 i11 i12 h = some res → XW g p l e { frames := 3, cells := 0, slots := 0, locals := 70 } s m args below meth c (MQ below (x_Q g (some (vI res.1)) res.2) args s 0 0 (x_A g)) 15 0 0 h 500 [some (vR a0), none, none, some (vI i3), none, some (vI i5), none, none, none, none, some (vI i10), some (vI i11), some (vI i12), none, none] [] := by
  intro n
  induction n with
  | zero =>
    intro a0 i3 i5 i10 i11 i12 h hf
    have hf2 : (none : Option (Int32 × Hp)) = some res := hf
    cases hf2
  | succ n ih =>
    intro a0 i3 i5 i10 i11 i12 h hf
    rw [fX7_all_w500] at hf
    refine x_iload C dX7_all_500 (pc' := 502) rfl rfl ?_
    refine x_iload C dX7_all_502 (pc' := 504) rfl rfl ?_
    refine x_icmp_ge C hf dX7_all_504 (pc' := 507) rfl (tgt := 585) (by decide) (fun _ hf => ?_) (fun _ hf => ?_)
    ·
      refine x_keep [false, false, false, true, false, false, false, false, false, false, true, true, false, false, false] rfl ?_
      refine x_more (k' := 0) (n' := 0) (Nat.le_of_ble_eq_true rfl) (Nat.le_of_ble_eq_true rfl) ?_
      exact mX7_all_b585 C hr hlk hnm i3 i10 i11 h hf
    ·
      refine x_aload_n C dX7_all_507 (pc' := 508) rfl rfl rfl ?_
      refine x_getR C (ci := 7) (kf := 24) rfl (by decide) hinX7_all_X7 lkX7_all_0 rfl hf dX7_all_508 (pc' := 511) rfl (fun v1 _ hf => ?_)
      refine x_iload C dX7_all_511 (pc' := 513) rfl rfl ?_
      refine x_iaload C hf dX7_all_513 (pc' := 514) rfl (fun v2 _ hf => ?_)
      refine x_if_eq C hf dX7_all_514 (pc' := 517) rfl (tgt := 520) (by decide) (fun _ hf => ?_) (fun _ hf => ?_)
      ·
        refine x_iconst C (v := 0) (by decide) dX7_all_520 (pc' := 521) rfl ?_
        refine x_istore C dX7_all_521 (pc' := 523) rfl (by decide) rfl (lv' := [some (vR a0), none, none, some (vI i3), none, some (vI i5), none, none, none, none, some (vI i10), some (vI i11), some (vI i12), some (vI (0 : Int32)), none]) rfl ?_
        refine x_iload C dX7_all_523 (pc' := 525) rfl rfl ?_
        refine x_istore C dX7_all_525 (pc' := 527) rfl (by decide) rfl (lv' := [some (vR a0), none, none, some (vI i3), none, some (vI i5), none, none, none, none, some (vI i10), some (vI i11), some (vI i12), some (vI (0 : Int32)), some (vI i12)]) rfl ?_
        refine x_more (k' := 0) (n' := 0) (Nat.le_of_ble_eq_true rfl) (Nat.le_of_ble_eq_true rfl) ?_
        exact mX7_all_w527 C hr hlk hnm (fX7_all_w500 n) ih FUEL a0 i3 i5 i10 i11 i12 (0 : Int32) i12 h hf
      ·
        refine x_goto C dX7_all_517 (tgt := 579) (by decide) ?_
        refine x_more (k' := 0) (n' := 0) (Nat.le_of_ble_eq_true rfl) (Nat.le_of_ble_eq_true rfl) ?_
        exact mX7_all_b579 C hr hlk hnm (fX7_all_w500 n) ih a0 i3 i5 i10 i11 i12 h hf
def fX7_all_b483 (a0 : Nat) (i3 : Int32) (i5 : Int32) (i9 : Int32) (h : Hp) : Option (Int32 × Hp) := if i3 = (3 : Int32) then (some (i9, h)) else (fX7_all_w500 FUEL a0 i3 i5 (0 : Int32) (0 : Int32) (0 : Int32) h)
set_option maxHeartbeats 4000000 in
set_option maxRecDepth 100000 in
theorem mX7_all_b483 {g : XG} {p : Program} {l : Launch} {e : Env} {s : State} {m : MethodId} {args : Array Value} {below : List Frame} {meth : Method} {c : Code} (C : x_C g p s m args c cX7_all RX7 15 wsX7_all) (hr : meth.sig.returnType = (some .int)) (hlk : meth.locks = false) (hnm : meth.name = yX7_all.name) {res : Int32 × Hp} (a0 : Nat) (i3 : Int32) (i5 : Int32) (i9 : Int32) (h : Hp) (hf : fX7_all_b483 a0 i3 i5 i9 h = some res) : XW g p l e { frames := 3, cells := 0, slots := 0, locals := 70 } s m args below meth c (MQ below (x_Q g (some (vI res.1)) res.2) args s 0 0 (x_A g)) 15 0 0 h 483 [some (vR a0), none, none, some (vI i3), none, some (vI i5), none, none, none, some (vI i9), none, none, none, none, none] [] := by
  unfold fX7_all_b483 at hf
  refine x_iload_n C dX7_all_483 (pc' := 484) rfl rfl rfl ?_
  refine x_iconst C (v := 3) (by decide) dX7_all_484 (pc' := 485) rfl ?_
  refine x_icmp_ne C hf dX7_all_485 (pc' := 488) rfl (tgt := 491) (by decide) (fun _ hf => ?_) (fun _ hf => ?_)
  ·
    refine x_iload C dX7_all_488 (pc' := 490) rfl rfl ?_
    cases hf
    exact x_iret C hr hlk dX7_all_490
  ·
    refine x_iconst C (v := 0) (by decide) dX7_all_491 (pc' := 492) rfl ?_
    refine x_istore C dX7_all_492 (pc' := 494) rfl (by decide) rfl (lv' := [some (vR a0), none, none, some (vI i3), none, some (vI i5), none, none, none, some (vI i9), some (vI (0 : Int32)), none, none, none, none]) rfl ?_
    refine x_iconst C (v := 0) (by decide) dX7_all_494 (pc' := 495) rfl ?_
    refine x_istore C dX7_all_495 (pc' := 497) rfl (by decide) rfl (lv' := [some (vR a0), none, none, some (vI i3), none, some (vI i5), none, none, none, some (vI i9), some (vI (0 : Int32)), some (vI (0 : Int32)), none, none, none]) rfl ?_
    refine x_iconst C (v := 0) (by decide) dX7_all_497 (pc' := 498) rfl ?_
    refine x_istore C dX7_all_498 (pc' := 500) rfl (by decide) rfl (lv' := [some (vR a0), none, none, some (vI i3), none, some (vI i5), none, none, none, some (vI i9), some (vI (0 : Int32)), some (vI (0 : Int32)), some (vI (0 : Int32)), none, none]) rfl ?_
    refine x_keep [true, false, false, true, false, true, false, false, false, false, true, true, true, false, false] rfl ?_
    refine x_more (k' := 0) (n' := 0) (Nat.le_of_ble_eq_true rfl) (Nat.le_of_ble_eq_true rfl) ?_
    exact mX7_all_w500 C hr hlk hnm FUEL a0 i3 i5 (0 : Int32) (0 : Int32) (0 : Int32) h hf
def fX7_all_b475 (w405 : Nat → Int32 → Int32 → Int32 → Int32 → Hp → Option (Int32 × Hp)) (a0 : Nat) (i3 : Int32) (i5 : Int32) (i10 : Int32) (s0 : Int32) (h : Hp) : Option (Int32 × Hp) := w405 a0 i3 i5 s0 (i10 + (-1)) h
set_option maxHeartbeats 4000000 in
set_option maxRecDepth 100000 in
theorem mX7_all_b475 {g : XG} {p : Program} {l : Launch} {e : Env} {s : State} {m : MethodId} {args : Array Value} {below : List Frame} {meth : Method} {c : Code} (C : x_C g p s m args c cX7_all RX7 15 wsX7_all) (hr : meth.sig.returnType = (some .int)) (hlk : meth.locks = false) (hnm : meth.name = yX7_all.name) {res : Int32 × Hp} (w405 : Nat → Int32 → Int32 → Int32 → Int32 → Hp → Option (Int32 × Hp)) (hw405 : ∀ (a0 : Nat) (i3 : Int32) (i5 : Int32) (i9 : Int32) (i10 : Int32) (h : Hp), w405 a0 i3 i5 i9 i10 h = some res → XW g p l e { frames := 3, cells := 0, slots := 0, locals := 70 } s m args below meth c (MQ below (x_Q g (some (vI res.1)) res.2) args s 0 0 (x_A g)) 15 0 0 h 405 [some (vR a0), none, none, some (vI i3), none, some (vI i5), none, none, none, some (vI i9), some (vI i10), none, none, none, none] []) (a0 : Nat) (i3 : Int32) (i5 : Int32) (i10 : Int32) (s0 : Int32) (h : Hp) (hf : fX7_all_b475 w405 a0 i3 i5 i10 s0 h = some res) : XW g p l e { frames := 3, cells := 0, slots := 0, locals := 70 } s m args below meth c (MQ below (x_Q g (some (vI res.1)) res.2) args s 0 0 (x_A g)) 15 0 0 h 475 [some (vR a0), none, none, some (vI i3), none, some (vI i5), none, none, none, none, some (vI i10), none, none, none, none] [vI s0] := by
  unfold fX7_all_b475 at hf
  refine x_istore C dX7_all_475 (pc' := 477) rfl (by decide) rfl (lv' := [some (vR a0), none, none, some (vI i3), none, some (vI i5), none, none, none, some (vI s0), some (vI i10), none, none, none, none]) rfl ?_
  refine x_iinc C dX7_all_477 (pc' := 480) rfl rfl (v := (i10 + (-1))) rfl (by decide) rfl (lv' := [some (vR a0), none, none, some (vI i3), none, some (vI i5), none, none, none, some (vI s0), some (vI (i10 + (-1))), none, none, none, none]) rfl ?_
  refine x_goto C dX7_all_480 (tgt := 405) (by decide) ?_
  exact hw405 a0 i3 i5 s0 (i10 + (-1)) h hf
def fX7_all_w405 : Nat → Nat → Int32 → Int32 → Int32 → Int32 → Hp → Option (Int32 × Hp)
  | 0 => fun _ _ _ _ _ _ => none
  | n + 1 => fun a0 i3 i5 i9 i10 h => if i10 < 0 then (fX7_all_b483 a0 i3 i5 i9 h) else ((gR h a0 7 24).bind fun v1 => (gR h a0 7 25).bind fun v2 => (aI h v2 0 i10).bind fun v3 => (gR h a0 7 24).bind fun v4 => (gR h a0 7 22).bind fun v5 => (gR h a0 7 25).bind fun v6 => (aI h v6 0 i10).bind fun v7 => (aI h v5 0 v7).bind fun v8 => (aI h v4 0 v8).bind fun v9 => (sI h v1 0 v3 (v9 + (1 : Int32))).bind fun h10 => (gR h10 a0 7 24).bind fun v11 => (gR h10 a0 7 25).bind fun v12 => (aI h10 v12 0 i10).bind fun v13 => (aI h10 v11 0 v13).bind fun v14 => if v14 ≤ i9 then (fX7_all_b475 (fX7_all_w405 n) a0 i3 i5 i10 i9 h10) else ((gR h10 a0 7 24).bind fun v15 => (gR h10 a0 7 25).bind fun v16 => (aI h10 v16 0 i10).bind fun v17 => (aI h10 v15 0 v17).bind fun v18 => fX7_all_b475 (fX7_all_w405 n) a0 i3 i5 i10 v18 h10))
set_option maxHeartbeats 4000000 in
set_option maxRecDepth 100000 in
theorem mX7_all_w405 {g : XG} {p : Program} {l : Launch} {e : Env} {s : State} {m : MethodId} {args : Array Value} {below : List Frame} {meth : Method} {c : Code} (C : x_C g p s m args c cX7_all RX7 15 wsX7_all) (hr : meth.sig.returnType = (some .int)) (hlk : meth.locks = false) (hnm : meth.name = yX7_all.name) {res : Int32 × Hp} : ∀ (n : Nat) (a0 : Nat) (i3 : Int32) (i5 : Int32) (i9 : Int32) (i10 : Int32) (h : Hp), fX7_all_w405 n a0 i3 i5 i9 i10 h = some res → XW g p l e { frames := 3, cells := 0, slots := 0, locals := 70 } s m args below meth c (MQ below (x_Q g (some (vI res.1)) res.2) args s 0 0 (x_A g)) 15 0 0 h 405 [some (vR a0), none, none, some (vI i3), none, some (vI i5), none, none, none, some (vI i9), some (vI i10), none, none, none, none] [] := by
  intro n
  induction n with
  | zero =>
    intro a0 i3 i5 i9 i10 h hf
    have hf2 : (none : Option (Int32 × Hp)) = some res := hf
    cases hf2
  | succ n ih =>
    intro a0 i3 i5 i9 i10 h hf
    rw [fX7_all_w405] at hf
    refine x_iload C dX7_all_405 (pc' := 407) rfl rfl ?_
    refine x_if_lt C hf dX7_all_407 (pc' := 410) rfl (tgt := 483) (by decide) (fun _ hf => ?_) (fun _ hf => ?_)
    ·
      refine x_keep [true, false, false, true, false, true, false, false, false, true, false, false, false, false, false] rfl ?_
      refine x_more (k' := 0) (n' := 0) (Nat.le_of_ble_eq_true rfl) (Nat.le_of_ble_eq_true rfl) ?_
      exact mX7_all_b483 C hr hlk hnm a0 i3 i5 i9 h hf
    ·
      refine x_aload_n C dX7_all_410 (pc' := 411) rfl rfl rfl ?_
      refine x_getR C (ci := 7) (kf := 24) rfl (by decide) hinX7_all_X7 lkX7_all_0 rfl hf dX7_all_411 (pc' := 414) rfl (fun v1 _ hf => ?_)
      refine x_aload_n C dX7_all_414 (pc' := 415) rfl rfl rfl ?_
      refine x_getR C (ci := 7) (kf := 25) rfl (by decide) hinX7_all_X7 lkX7_all_2 rfl hf dX7_all_415 (pc' := 418) rfl (fun v2 _ hf => ?_)
      refine x_iload C dX7_all_418 (pc' := 420) rfl rfl ?_
      refine x_iaload C hf dX7_all_420 (pc' := 421) rfl (fun v3 _ hf => ?_)
      refine x_aload_n C dX7_all_421 (pc' := 422) rfl rfl rfl ?_
      refine x_getR C (ci := 7) (kf := 24) rfl (by decide) hinX7_all_X7 lkX7_all_0 rfl hf dX7_all_422 (pc' := 425) rfl (fun v4 _ hf => ?_)
      refine x_aload_n C dX7_all_425 (pc' := 426) rfl rfl rfl ?_
      refine x_getR C (ci := 7) (kf := 22) rfl (by decide) hinX7_all_X7 lkX7_all_1 rfl hf dX7_all_426 (pc' := 429) rfl (fun v5 _ hf => ?_)
      refine x_aload_n C dX7_all_429 (pc' := 430) rfl rfl rfl ?_
      refine x_getR C (ci := 7) (kf := 25) rfl (by decide) hinX7_all_X7 lkX7_all_2 rfl hf dX7_all_430 (pc' := 433) rfl (fun v6 _ hf => ?_)
      refine x_iload C dX7_all_433 (pc' := 435) rfl rfl ?_
      refine x_iaload C hf dX7_all_435 (pc' := 436) rfl (fun v7 _ hf => ?_)
      refine x_iaload C hf dX7_all_436 (pc' := 437) rfl (fun v8 _ hf => ?_)
      refine x_iaload C hf dX7_all_437 (pc' := 438) rfl (fun v9 _ hf => ?_)
      refine x_iconst C (v := 1) (by decide) dX7_all_438 (pc' := 439) rfl ?_
      refine x_iadd C dX7_all_439 (pc' := 440) rfl ?_
      refine x_iastore C hf dX7_all_440 (pc' := 441) rfl (fun h10 _ hf => ?_)
      refine x_aload_n C dX7_all_441 (pc' := 442) rfl rfl rfl ?_
      refine x_getR C (ci := 7) (kf := 24) rfl (by decide) hinX7_all_X7 lkX7_all_0 rfl hf dX7_all_442 (pc' := 445) rfl (fun v11 _ hf => ?_)
      refine x_aload_n C dX7_all_445 (pc' := 446) rfl rfl rfl ?_
      refine x_getR C (ci := 7) (kf := 25) rfl (by decide) hinX7_all_X7 lkX7_all_2 rfl hf dX7_all_446 (pc' := 449) rfl (fun v12 _ hf => ?_)
      refine x_iload C dX7_all_449 (pc' := 451) rfl rfl ?_
      refine x_iaload C hf dX7_all_451 (pc' := 452) rfl (fun v13 _ hf => ?_)
      refine x_iaload C hf dX7_all_452 (pc' := 453) rfl (fun v14 _ hf => ?_)
      refine x_iload C dX7_all_453 (pc' := 455) rfl rfl ?_
      refine x_icmp_le C hf dX7_all_455 (pc' := 458) rfl (tgt := 473) (by decide) (fun _ hf => ?_) (fun _ hf => ?_)
      ·
        refine x_iload C dX7_all_473 (pc' := 475) rfl rfl ?_
        refine x_keep [true, false, false, true, false, true, false, false, false, false, true, false, false, false, false] rfl ?_
        refine x_more (k' := 0) (n' := 0) (Nat.le_of_ble_eq_true rfl) (Nat.le_of_ble_eq_true rfl) ?_
        exact mX7_all_b475 C hr hlk hnm (fX7_all_w405 n) ih a0 i3 i5 i10 i9 h10 hf
      ·
        refine x_aload_n C dX7_all_458 (pc' := 459) rfl rfl rfl ?_
        refine x_getR C (ci := 7) (kf := 24) rfl (by decide) hinX7_all_X7 lkX7_all_0 rfl hf dX7_all_459 (pc' := 462) rfl (fun v15 _ hf => ?_)
        refine x_aload_n C dX7_all_462 (pc' := 463) rfl rfl rfl ?_
        refine x_getR C (ci := 7) (kf := 25) rfl (by decide) hinX7_all_X7 lkX7_all_2 rfl hf dX7_all_463 (pc' := 466) rfl (fun v16 _ hf => ?_)
        refine x_iload C dX7_all_466 (pc' := 468) rfl rfl ?_
        refine x_iaload C hf dX7_all_468 (pc' := 469) rfl (fun v17 _ hf => ?_)
        refine x_iaload C hf dX7_all_469 (pc' := 470) rfl (fun v18 _ hf => ?_)
        refine x_goto C dX7_all_470 (tgt := 475) (by decide) ?_
        refine x_keep [true, false, false, true, false, true, false, false, false, false, true, false, false, false, false] rfl ?_
        refine x_more (k' := 0) (n' := 0) (Nat.le_of_ble_eq_true rfl) (Nat.le_of_ble_eq_true rfl) ?_
        exact mX7_all_b475 C hr hlk hnm (fX7_all_w405 n) ih a0 i3 i5 i10 v18 h10 hf
def fX7_all_b388 (a0 : Nat) (i3 : Int32) (i5 : Int32) (i7 : Int32) (i8 : Int32) (h : Hp) : Option (Int32 × Hp) := if i3 = (1 : Int32) then (some (i7, h)) else (setv ((i8 - (1 : Int32))) fun v1 => fX7_all_w405 FUEL a0 i3 i5 (0 : Int32) v1 h)
set_option maxHeartbeats 4000000 in
set_option maxRecDepth 100000 in
theorem mX7_all_b388 {g : XG} {p : Program} {l : Launch} {e : Env} {s : State} {m : MethodId} {args : Array Value} {below : List Frame} {meth : Method} {c : Code} (C : x_C g p s m args c cX7_all RX7 15 wsX7_all) (hr : meth.sig.returnType = (some .int)) (hlk : meth.locks = false) (hnm : meth.name = yX7_all.name) {res : Int32 × Hp} (a0 : Nat) (i3 : Int32) (i5 : Int32) (i7 : Int32) (i8 : Int32) (h : Hp) (hf : fX7_all_b388 a0 i3 i5 i7 i8 h = some res) : XW g p l e { frames := 3, cells := 0, slots := 0, locals := 70 } s m args below meth c (MQ below (x_Q g (some (vI res.1)) res.2) args s 0 0 (x_A g)) 15 0 0 h 388 [some (vR a0), none, none, some (vI i3), none, some (vI i5), none, some (vI i7), some (vI i8), none, none, none, none, none, none] [] := by
  unfold fX7_all_b388 at hf
  refine x_iload_n C dX7_all_388 (pc' := 389) rfl rfl rfl ?_
  refine x_iconst C (v := 1) (by decide) dX7_all_389 (pc' := 390) rfl ?_
  refine x_icmp_ne C hf dX7_all_390 (pc' := 393) rfl (tgt := 396) (by decide) (fun _ hf => ?_) (fun _ hf => ?_)
  ·
    refine x_iload C dX7_all_393 (pc' := 395) rfl rfl ?_
    cases hf
    exact x_iret C hr hlk dX7_all_395
  ·
    refine x_iconst C (v := 0) (by decide) dX7_all_396 (pc' := 397) rfl ?_
    refine x_istore C dX7_all_397 (pc' := 399) rfl (by decide) rfl (lv' := [some (vR a0), none, none, some (vI i3), none, some (vI i5), none, some (vI i7), some (vI i8), some (vI (0 : Int32)), none, none, none, none, none]) rfl ?_
    refine x_iload C dX7_all_399 (pc' := 401) rfl rfl ?_
    refine x_iconst C (v := 1) (by decide) dX7_all_401 (pc' := 402) rfl ?_
    refine x_isub C dX7_all_402 (pc' := 403) rfl ?_
    refine x_nameI hf (fun v1 _ hf => ?_)
    refine x_istore C dX7_all_403 (pc' := 405) rfl (by decide) rfl (lv' := [some (vR a0), none, none, some (vI i3), none, some (vI i5), none, some (vI i7), some (vI i8), some (vI (0 : Int32)), some (vI v1), none, none, none, none]) rfl ?_
    refine x_keep [true, false, false, true, false, true, false, false, false, true, true, false, false, false, false] rfl ?_
    refine x_more (k' := 0) (n' := 0) (Nat.le_of_ble_eq_true rfl) (Nat.le_of_ble_eq_true rfl) ?_
    exact mX7_all_w405 C hr hlk hnm FUEL a0 i3 i5 (0 : Int32) v1 h hf
def fX7_all_b382 (w322 : Nat → Int32 → Int32 → Int32 → Int32 → Int32 → Hp → Option (Int32 × Hp)) (a0 : Nat) (i3 : Int32) (i5 : Int32) (i7 : Int32) (i8 : Int32) (i9 : Int32) (h : Hp) : Option (Int32 × Hp) := w322 a0 i3 i5 i7 i8 (i9 + 1) h
set_option maxHeartbeats 4000000 in
set_option maxRecDepth 100000 in
theorem mX7_all_b382 {g : XG} {p : Program} {l : Launch} {e : Env} {s : State} {m : MethodId} {args : Array Value} {below : List Frame} {meth : Method} {c : Code} (C : x_C g p s m args c cX7_all RX7 15 wsX7_all) (hr : meth.sig.returnType = (some .int)) (hlk : meth.locks = false) (hnm : meth.name = yX7_all.name) {res : Int32 × Hp} (w322 : Nat → Int32 → Int32 → Int32 → Int32 → Int32 → Hp → Option (Int32 × Hp)) (hw322 : ∀ (a0 : Nat) (i3 : Int32) (i5 : Int32) (i7 : Int32) (i8 : Int32) (i9 : Int32) (h : Hp), w322 a0 i3 i5 i7 i8 i9 h = some res → XW g p l e { frames := 3, cells := 0, slots := 0, locals := 70 } s m args below meth c (MQ below (x_Q g (some (vI res.1)) res.2) args s 0 0 (x_A g)) 15 0 0 h 322 [some (vR a0), none, none, some (vI i3), none, some (vI i5), none, some (vI i7), some (vI i8), some (vI i9), none, none, none, none, none] []) (a0 : Nat) (i3 : Int32) (i5 : Int32) (i7 : Int32) (i8 : Int32) (i9 : Int32) (h : Hp) (hf : fX7_all_b382 w322 a0 i3 i5 i7 i8 i9 h = some res) : XW g p l e { frames := 3, cells := 0, slots := 0, locals := 70 } s m args below meth c (MQ below (x_Q g (some (vI res.1)) res.2) args s 0 0 (x_A g)) 15 0 0 h 382 [some (vR a0), none, none, some (vI i3), none, some (vI i5), none, some (vI i7), some (vI i8), some (vI i9), none, none, none, none, none] [] := by
  unfold fX7_all_b382 at hf
  refine x_iinc C dX7_all_382 (pc' := 385) rfl rfl (v := (i9 + 1)) rfl (by decide) rfl (lv' := [some (vR a0), none, none, some (vI i3), none, some (vI i5), none, some (vI i7), some (vI i8), some (vI (i9 + 1)), none, none, none, none, none]) rfl ?_
  refine x_goto C dX7_all_385 (tgt := 322) (by decide) ?_
  exact hw322 a0 i3 i5 i7 i8 (i9 + 1) h hf
def fX7_all_w322 : Nat → Nat → Int32 → Int32 → Int32 → Int32 → Int32 → Hp → Option (Int32 × Hp)
  | 0 => fun _ _ _ _ _ _ _ => none
  | n + 1 => fun a0 i3 i5 i7 i8 i9 h => if i8 ≤ i9 then (fX7_all_b388 a0 i3 i5 i7 i8 h) else ((gR h a0 7 22).bind fun v1 => (gR h a0 7 25).bind fun v2 => (aI h v2 0 i9).bind fun v3 => (aI h v1 0 v3).bind fun v4 => (gR h a0 7 23).bind fun v5 => (aI h v5 0 v4).bind fun v6 => (sI h v5 0 v4 (v6 - (1 : Int32))).bind fun h7 => (gR h7 a0 7 23).bind fun v8 => (aI h7 v8 0 v4).bind fun v9 => if v9 ≤ 0 then ((gR h7 a0 7 25).bind fun v10 => (sI h7 v10 0 i8 v4).bind fun h11 => fX7_all_b382 (fX7_all_w322 n) a0 i3 i5 (i7 + (-1)) (i8 + 1) i9 h11) else (fX7_all_b382 (fX7_all_w322 n) a0 i3 i5 (i7 + (-1)) i8 i9 h7))
set_option maxHeartbeats 4000000 in
set_option maxRecDepth 100000 in
theorem mX7_all_w322 {g : XG} {p : Program} {l : Launch} {e : Env} {s : State} {m : MethodId} {args : Array Value} {below : List Frame} {meth : Method} {c : Code} (C : x_C g p s m args c cX7_all RX7 15 wsX7_all) (hr : meth.sig.returnType = (some .int)) (hlk : meth.locks = false) (hnm : meth.name = yX7_all.name) {res : Int32 × Hp} : ∀ (n : Nat) (a0 : Nat) (i3 : Int32) (i5 : Int32) (i7 : Int32) (i8 : Int32) (i9 : Int32) (h : Hp), fX7_all_w322 n a0 i3 i5 i7 i8 i9 h = some res → XW g p l e { frames := 3, cells := 0, slots := 0, locals := 70 } s m args below meth c (MQ below (x_Q g (some (vI res.1)) res.2) args s 0 0 (x_A g)) 15 0 0 h 322 [some (vR a0), none, none, some (vI i3), none, some (vI i5), none, some (vI i7), some (vI i8), some (vI i9), none, none, none, none, none] [] := by
  intro n
  induction n with
  | zero =>
    intro a0 i3 i5 i7 i8 i9 h hf
    have hf2 : (none : Option (Int32 × Hp)) = some res := hf
    cases hf2
  | succ n ih =>
    intro a0 i3 i5 i7 i8 i9 h hf
    rw [fX7_all_w322] at hf
    refine x_iload C dX7_all_322 (pc' := 324) rfl rfl ?_
    refine x_iload C dX7_all_324 (pc' := 326) rfl rfl ?_
    refine x_icmp_ge C hf dX7_all_326 (pc' := 329) rfl (tgt := 388) (by decide) (fun _ hf => ?_) (fun _ hf => ?_)
    ·
      refine x_keep [true, false, false, true, false, true, false, true, true, false, false, false, false, false, false] rfl ?_
      refine x_more (k' := 0) (n' := 0) (Nat.le_of_ble_eq_true rfl) (Nat.le_of_ble_eq_true rfl) ?_
      exact mX7_all_b388 C hr hlk hnm a0 i3 i5 i7 i8 h hf
    ·
      refine x_iinc C dX7_all_329 (pc' := 332) rfl rfl (v := (i7 + (-1))) rfl (by decide) rfl (lv' := [some (vR a0), none, none, some (vI i3), none, some (vI i5), none, some (vI (i7 + (-1))), some (vI i8), some (vI i9), none, none, none, none, none]) rfl ?_
      refine x_aload_n C dX7_all_332 (pc' := 333) rfl rfl rfl ?_
      refine x_getR C (ci := 7) (kf := 22) rfl (by decide) hinX7_all_X7 lkX7_all_1 rfl hf dX7_all_333 (pc' := 336) rfl (fun v1 _ hf => ?_)
      refine x_aload_n C dX7_all_336 (pc' := 337) rfl rfl rfl ?_
      refine x_getR C (ci := 7) (kf := 25) rfl (by decide) hinX7_all_X7 lkX7_all_2 rfl hf dX7_all_337 (pc' := 340) rfl (fun v2 _ hf => ?_)
      refine x_iload C dX7_all_340 (pc' := 342) rfl rfl ?_
      refine x_iaload C hf dX7_all_342 (pc' := 343) rfl (fun v3 _ hf => ?_)
      refine x_iaload C hf dX7_all_343 (pc' := 344) rfl (fun v4 _ hf => ?_)
      refine x_istore C dX7_all_344 (pc' := 346) rfl (by decide) rfl (lv' := [some (vR a0), none, none, some (vI i3), none, some (vI i5), none, some (vI (i7 + (-1))), some (vI i8), some (vI i9), some (vI v4), none, none, none, none]) rfl ?_
      refine x_aload_n C dX7_all_346 (pc' := 347) rfl rfl rfl ?_
      refine x_getR C (ci := 7) (kf := 23) rfl (by decide) hinX7_all_X7 lkX7_all_3 rfl hf dX7_all_347 (pc' := 350) rfl (fun v5 _ hf => ?_)
      refine x_iload C dX7_all_350 (pc' := 352) rfl rfl ?_
      refine x_dup2 C rfl rfl dX7_all_352 (pc' := 353) rfl ?_
      refine x_iaload C hf dX7_all_353 (pc' := 354) rfl (fun v6 _ hf => ?_)
      refine x_iconst C (v := 1) (by decide) dX7_all_354 (pc' := 355) rfl ?_
      refine x_isub C dX7_all_355 (pc' := 356) rfl ?_
      refine x_iastore C hf dX7_all_356 (pc' := 357) rfl (fun h7 _ hf => ?_)
      refine x_aload_n C dX7_all_357 (pc' := 358) rfl rfl rfl ?_
      refine x_getR C (ci := 7) (kf := 23) rfl (by decide) hinX7_all_X7 lkX7_all_3 rfl hf dX7_all_358 (pc' := 361) rfl (fun v8 _ hf => ?_)
      refine x_iload C dX7_all_361 (pc' := 363) rfl rfl ?_
      refine x_iaload C hf dX7_all_363 (pc' := 364) rfl (fun v9 _ hf => ?_)
      refine x_if_le C hf dX7_all_364 (pc' := 367) rfl (tgt := 370) (by decide) (fun _ hf => ?_) (fun _ hf => ?_)
      ·
        refine x_aload_n C dX7_all_370 (pc' := 371) rfl rfl rfl ?_
        refine x_getR C (ci := 7) (kf := 25) rfl (by decide) hinX7_all_X7 lkX7_all_2 rfl hf dX7_all_371 (pc' := 374) rfl (fun v10 _ hf => ?_)
        refine x_iload C dX7_all_374 (pc' := 376) rfl rfl ?_
        refine x_iload C dX7_all_376 (pc' := 378) rfl rfl ?_
        refine x_iastore C hf dX7_all_378 (pc' := 379) rfl (fun h11 _ hf => ?_)
        refine x_iinc C dX7_all_379 (pc' := 382) rfl rfl (v := (i8 + 1)) rfl (by decide) rfl (lv' := [some (vR a0), none, none, some (vI i3), none, some (vI i5), none, some (vI (i7 + (-1))), some (vI (i8 + 1)), some (vI i9), some (vI v4), none, none, none, none]) rfl ?_
        refine x_keep [true, false, false, true, false, true, false, true, true, true, false, false, false, false, false] rfl ?_
        refine x_more (k' := 0) (n' := 0) (Nat.le_of_ble_eq_true rfl) (Nat.le_of_ble_eq_true rfl) ?_
        exact mX7_all_b382 C hr hlk hnm (fX7_all_w322 n) ih a0 i3 i5 (i7 + (-1)) (i8 + 1) i9 h11 hf
      ·
        refine x_goto C dX7_all_367 (tgt := 382) (by decide) ?_
        refine x_keep [true, false, false, true, false, true, false, true, true, true, false, false, false, false, false] rfl ?_
        refine x_more (k' := 0) (n' := 0) (Nat.le_of_ble_eq_true rfl) (Nat.le_of_ble_eq_true rfl) ?_
        exact mX7_all_b382 C hr hlk hnm (fX7_all_w322 n) ih a0 i3 i5 (i7 + (-1)) i8 i9 h7 hf
def fX7_all_b319 (a0 : Nat) (i3 : Int32) (i5 : Int32) (i7 : Int32) (i8 : Int32) (h : Hp) : Option (Int32 × Hp) := fX7_all_w322 FUEL a0 i3 i5 i7 i8 (0 : Int32) h
set_option maxHeartbeats 4000000 in
set_option maxRecDepth 100000 in
theorem mX7_all_b319 {g : XG} {p : Program} {l : Launch} {e : Env} {s : State} {m : MethodId} {args : Array Value} {below : List Frame} {meth : Method} {c : Code} (C : x_C g p s m args c cX7_all RX7 15 wsX7_all) (hr : meth.sig.returnType = (some .int)) (hlk : meth.locks = false) (hnm : meth.name = yX7_all.name) {res : Int32 × Hp} (a0 : Nat) (i3 : Int32) (i5 : Int32) (i7 : Int32) (i8 : Int32) (h : Hp) (hf : fX7_all_b319 a0 i3 i5 i7 i8 h = some res) : XW g p l e { frames := 3, cells := 0, slots := 0, locals := 70 } s m args below meth c (MQ below (x_Q g (some (vI res.1)) res.2) args s 0 0 (x_A g)) 15 0 0 h 319 [some (vR a0), none, none, some (vI i3), none, some (vI i5), none, some (vI i7), some (vI i8), none, none, none, none, none, none] [] := by
  unfold fX7_all_b319 at hf
  refine x_iconst C (v := 0) (by decide) dX7_all_319 (pc' := 320) rfl ?_
  refine x_istore C dX7_all_320 (pc' := 322) rfl (by decide) rfl (lv' := [some (vR a0), none, none, some (vI i3), none, some (vI i5), none, some (vI i7), some (vI i8), some (vI (0 : Int32)), none, none, none, none, none]) rfl ?_
  refine x_more (k' := 0) (n' := 0) (Nat.le_of_ble_eq_true rfl) (Nat.le_of_ble_eq_true rfl) ?_
  exact mX7_all_w322 C hr hlk hnm FUEL a0 i3 i5 i7 i8 (0 : Int32) h hf
def fX7_all_b313 (w273 : Nat → Int32 → Int32 → Int32 → Int32 → Int32 → Hp → Option (Int32 × Hp)) (a0 : Nat) (i3 : Int32) (i5 : Int32) (i7 : Int32) (i8 : Int32) (i9 : Int32) (h : Hp) : Option (Int32 × Hp) := w273 a0 i3 i5 i7 i8 (i9 + 1) h
set_option maxHeartbeats 4000000 in
set_option maxRecDepth 100000 in
theorem mX7_all_b313 {g : XG} {p : Program} {l : Launch} {e : Env} {s : State} {m : MethodId} {args : Array Value} {below : List Frame} {meth : Method} {c : Code} (C : x_C g p s m args c cX7_all RX7 15 wsX7_all) (hr : meth.sig.returnType = (some .int)) (hlk : meth.locks = false) (hnm : meth.name = yX7_all.name) {res : Int32 × Hp} (w273 : Nat → Int32 → Int32 → Int32 → Int32 → Int32 → Hp → Option (Int32 × Hp)) (hw273 : ∀ (a0 : Nat) (i3 : Int32) (i5 : Int32) (i7 : Int32) (i8 : Int32) (i9 : Int32) (h : Hp), w273 a0 i3 i5 i7 i8 i9 h = some res → XW g p l e { frames := 3, cells := 0, slots := 0, locals := 70 } s m args below meth c (MQ below (x_Q g (some (vI res.1)) res.2) args s 0 0 (x_A g)) 15 0 0 h 273 [some (vR a0), none, none, some (vI i3), none, some (vI i5), none, some (vI i7), some (vI i8), some (vI i9), none, none, none, none, none] []) (a0 : Nat) (i3 : Int32) (i5 : Int32) (i7 : Int32) (i8 : Int32) (i9 : Int32) (h : Hp) (hf : fX7_all_b313 w273 a0 i3 i5 i7 i8 i9 h = some res) : XW g p l e { frames := 3, cells := 0, slots := 0, locals := 70 } s m args below meth c (MQ below (x_Q g (some (vI res.1)) res.2) args s 0 0 (x_A g)) 15 0 0 h 313 [some (vR a0), none, none, some (vI i3), none, some (vI i5), none, some (vI i7), some (vI i8), some (vI i9), none, none, none, none, none] [] := by
  unfold fX7_all_b313 at hf
  refine x_iinc C dX7_all_313 (pc' := 316) rfl rfl (v := (i9 + 1)) rfl (by decide) rfl (lv' := [some (vR a0), none, none, some (vI i3), none, some (vI i5), none, some (vI i7), some (vI i8), some (vI (i9 + 1)), none, none, none, none, none]) rfl ?_
  refine x_goto C dX7_all_316 (tgt := 273) (by decide) ?_
  exact hw273 a0 i3 i5 i7 i8 (i9 + 1) h hf
def fX7_all_w273 : Nat → Nat → Int32 → Int32 → Int32 → Int32 → Int32 → Hp → Option (Int32 × Hp)
  | 0 => fun _ _ _ _ _ _ _ => none
  | n + 1 => fun a0 i3 i5 i7 i8 i9 h => if i5 ≤ i9 then (fX7_all_b319 a0 i3 i5 i7 i8 h) else ((gR h a0 7 24).bind fun v1 => (sI h v1 0 i9 (0 : Int32)).bind fun h2 => (gR h2 a0 7 23).bind fun v3 => (aI h2 v3 0 i9).bind fun v4 => if v4 ≤ 0 then ((gR h2 a0 7 25).bind fun v5 => (sI h2 v5 0 i8 i9).bind fun h6 => fX7_all_b313 (fX7_all_w273 n) a0 i3 i5 i7 (i8 + 1) i9 h6) else (fX7_all_b313 (fX7_all_w273 n) a0 i3 i5 i7 i8 i9 h2))
set_option maxHeartbeats 4000000 in
set_option maxRecDepth 100000 in
theorem mX7_all_w273 {g : XG} {p : Program} {l : Launch} {e : Env} {s : State} {m : MethodId} {args : Array Value} {below : List Frame} {meth : Method} {c : Code} (C : x_C g p s m args c cX7_all RX7 15 wsX7_all) (hr : meth.sig.returnType = (some .int)) (hlk : meth.locks = false) (hnm : meth.name = yX7_all.name) {res : Int32 × Hp} : ∀ (n : Nat) (a0 : Nat) (i3 : Int32) (i5 : Int32) (i7 : Int32) (i8 : Int32) (i9 : Int32) (h : Hp), fX7_all_w273 n a0 i3 i5 i7 i8 i9 h = some res → XW g p l e { frames := 3, cells := 0, slots := 0, locals := 70 } s m args below meth c (MQ below (x_Q g (some (vI res.1)) res.2) args s 0 0 (x_A g)) 15 0 0 h 273 [some (vR a0), none, none, some (vI i3), none, some (vI i5), none, some (vI i7), some (vI i8), some (vI i9), none, none, none, none, none] [] := by
  intro n
  induction n with
  | zero =>
    intro a0 i3 i5 i7 i8 i9 h hf
    have hf2 : (none : Option (Int32 × Hp)) = some res := hf
    cases hf2
  | succ n ih =>
    intro a0 i3 i5 i7 i8 i9 h hf
    rw [fX7_all_w273] at hf
    refine x_iload C dX7_all_273 (pc' := 275) rfl rfl ?_
    refine x_iload C dX7_all_275 (pc' := 277) rfl rfl ?_
    refine x_icmp_ge C hf dX7_all_277 (pc' := 280) rfl (tgt := 319) (by decide) (fun _ hf => ?_) (fun _ hf => ?_)
    ·
      refine x_keep [true, false, false, true, false, true, false, true, true, false, false, false, false, false, false] rfl ?_
      refine x_more (k' := 0) (n' := 0) (Nat.le_of_ble_eq_true rfl) (Nat.le_of_ble_eq_true rfl) ?_
      exact mX7_all_b319 C hr hlk hnm a0 i3 i5 i7 i8 h hf
    ·
      refine x_aload_n C dX7_all_280 (pc' := 281) rfl rfl rfl ?_
      refine x_getR C (ci := 7) (kf := 24) rfl (by decide) hinX7_all_X7 lkX7_all_0 rfl hf dX7_all_281 (pc' := 284) rfl (fun v1 _ hf => ?_)
      refine x_iload C dX7_all_284 (pc' := 286) rfl rfl ?_
      refine x_iconst C (v := 0) (by decide) dX7_all_286 (pc' := 287) rfl ?_
      refine x_iastore C hf dX7_all_287 (pc' := 288) rfl (fun h2 _ hf => ?_)
      refine x_aload_n C dX7_all_288 (pc' := 289) rfl rfl rfl ?_
      refine x_getR C (ci := 7) (kf := 23) rfl (by decide) hinX7_all_X7 lkX7_all_3 rfl hf dX7_all_289 (pc' := 292) rfl (fun v3 _ hf => ?_)
      refine x_iload C dX7_all_292 (pc' := 294) rfl rfl ?_
      refine x_iaload C hf dX7_all_294 (pc' := 295) rfl (fun v4 _ hf => ?_)
      refine x_if_le C hf dX7_all_295 (pc' := 298) rfl (tgt := 301) (by decide) (fun _ hf => ?_) (fun _ hf => ?_)
      ·
        refine x_aload_n C dX7_all_301 (pc' := 302) rfl rfl rfl ?_
        refine x_getR C (ci := 7) (kf := 25) rfl (by decide) hinX7_all_X7 lkX7_all_2 rfl hf dX7_all_302 (pc' := 305) rfl (fun v5 _ hf => ?_)
        refine x_iload C dX7_all_305 (pc' := 307) rfl rfl ?_
        refine x_iload C dX7_all_307 (pc' := 309) rfl rfl ?_
        refine x_iastore C hf dX7_all_309 (pc' := 310) rfl (fun h6 _ hf => ?_)
        refine x_iinc C dX7_all_310 (pc' := 313) rfl rfl (v := (i8 + 1)) rfl (by decide) rfl (lv' := [some (vR a0), none, none, some (vI i3), none, some (vI i5), none, some (vI i7), some (vI (i8 + 1)), some (vI i9), none, none, none, none, none]) rfl ?_
        refine x_more (k' := 0) (n' := 0) (Nat.le_of_ble_eq_true rfl) (Nat.le_of_ble_eq_true rfl) ?_
        exact mX7_all_b313 C hr hlk hnm (fX7_all_w273 n) ih a0 i3 i5 i7 (i8 + 1) i9 h6 hf
      ·
        refine x_goto C dX7_all_298 (tgt := 313) (by decide) ?_
        refine x_more (k' := 0) (n' := 0) (Nat.le_of_ble_eq_true rfl) (Nat.le_of_ble_eq_true rfl) ?_
        exact mX7_all_b313 C hr hlk hnm (fX7_all_w273 n) ih a0 i3 i5 i7 i8 i9 h2 hf
def fX7_all_b256 (a0 : Nat) (i3 : Int32) (i5 : Int32) (i6 : Int32) (h : Hp) : Option (Int32 × Hp) := if i3 = 0 then (some (i6, h)) else (fX7_all_w273 FUEL a0 i3 i5 i5 (0 : Int32) (0 : Int32) h)
set_option maxHeartbeats 4000000 in
set_option maxRecDepth 100000 in
theorem mX7_all_b256 {g : XG} {p : Program} {l : Launch} {e : Env} {s : State} {m : MethodId} {args : Array Value} {below : List Frame} {meth : Method} {c : Code} (C : x_C g p s m args c cX7_all RX7 15 wsX7_all) (hr : meth.sig.returnType = (some .int)) (hlk : meth.locks = false) (hnm : meth.name = yX7_all.name) {res : Int32 × Hp} (a0 : Nat) (i3 : Int32) (i5 : Int32) (i6 : Int32) (h : Hp) (hf : fX7_all_b256 a0 i3 i5 i6 h = some res) : XW g p l e { frames := 3, cells := 0, slots := 0, locals := 70 } s m args below meth c (MQ below (x_Q g (some (vI res.1)) res.2) args s 0 0 (x_A g)) 15 0 0 h 256 [some (vR a0), none, none, some (vI i3), none, some (vI i5), some (vI i6), none, none, none, none, none, none, none, none] [] := by
  unfold fX7_all_b256 at hf
  refine x_iload_n C dX7_all_256 (pc' := 257) rfl rfl rfl ?_
  refine x_if_ne C hf dX7_all_257 (pc' := 260) rfl (tgt := 263) (by decide) (fun _ hf => ?_) (fun _ hf => ?_)
  ·
    refine x_iload C dX7_all_260 (pc' := 262) rfl rfl ?_
    cases hf
    exact x_iret C hr hlk dX7_all_262
  ·
    refine x_iload C dX7_all_263 (pc' := 265) rfl rfl ?_
    refine x_istore C dX7_all_265 (pc' := 267) rfl (by decide) rfl (lv' := [some (vR a0), none, none, some (vI i3), none, some (vI i5), some (vI i6), some (vI i5), none, none, none, none, none, none, none]) rfl ?_
    refine x_iconst C (v := 0) (by decide) dX7_all_267 (pc' := 268) rfl ?_
    refine x_istore C dX7_all_268 (pc' := 270) rfl (by decide) rfl (lv' := [some (vR a0), none, none, some (vI i3), none, some (vI i5), some (vI i6), some (vI i5), some (vI (0 : Int32)), none, none, none, none, none, none]) rfl ?_
    refine x_iconst C (v := 0) (by decide) dX7_all_270 (pc' := 271) rfl ?_
    refine x_istore C dX7_all_271 (pc' := 273) rfl (by decide) rfl (lv' := [some (vR a0), none, none, some (vI i3), none, some (vI i5), some (vI i6), some (vI i5), some (vI (0 : Int32)), some (vI (0 : Int32)), none, none, none, none, none]) rfl ?_
    refine x_keep [true, false, false, true, false, true, false, true, true, true, false, false, false, false, false] rfl ?_
    refine x_more (k' := 0) (n' := 0) (Nat.le_of_ble_eq_true rfl) (Nat.le_of_ble_eq_true rfl) ?_
    exact mX7_all_w273 C hr hlk hnm FUEL a0 i3 i5 i5 (0 : Int32) (0 : Int32) h hf
def fX7_all_b247 (w223 : Nat → Int32 → Int32 → Int32 → Int32 → Hp → Option (Int32 × Hp)) (a0 : Nat) (i3 : Int32) (i5 : Int32) (i7 : Int32) (s0 : Int32) (s1 : Int32) (h : Hp) : Option (Int32 × Hp) := setv ((s1 + s0)) fun v1 => w223 a0 i3 i5 v1 (i7 + 1) h
set_option maxHeartbeats 4000000 in
set_option maxRecDepth 100000 in
theorem mX7_all_b247 {g : XG} {p : Program} {l : Launch} {e : Env} {s : State} {m : MethodId} {args : Array Value} {below : List Frame} {meth : Method} {c : Code} (C : x_C g p s m args c cX7_all RX7 15 wsX7_all) (hr : meth.sig.returnType = (some .int)) (hlk : meth.locks = false) (hnm : meth.name = yX7_all.name) {res : Int32 × Hp} (w223 : Nat → Int32 → Int32 → Int32 → Int32 → Hp → Option (Int32 × Hp)) (hw223 : ∀ (a0 : Nat) (i3 : Int32) (i5 : Int32) (i6 : Int32) (i7 : Int32) (h : Hp), w223 a0 i3 i5 i6 i7 h = some res → XW g p l e { frames := 3, cells := 0, slots := 0, locals := 70 } s m args below meth c (MQ below (x_Q g (some (vI res.1)) res.2) args s 0 0 (x_A g)) 15 0 0 h 223 [some (vR a0), none, none, some (vI i3), none, some (vI i5), some (vI i6), some (vI i7), none, none, none, none, none, none, none] []) (a0 : Nat) (i3 : Int32) (i5 : Int32) (i7 : Int32) (s0 : Int32) (s1 : Int32) (h : Hp) (hf : fX7_all_b247 w223 a0 i3 i5 i7 s0 s1 h = some res) : XW g p l e { frames := 3, cells := 0, slots := 0, locals := 70 } s m args below meth c (MQ below (x_Q g (some (vI res.1)) res.2) args s 0 0 (x_A g)) 15 0 0 h 247 [some (vR a0), none, none, some (vI i3), none, some (vI i5), none, some (vI i7), none, none, none, none, none, none, none] [vI s0, vI s1] := by
  unfold fX7_all_b247 at hf
  refine x_iadd C dX7_all_247 (pc' := 248) rfl ?_
  refine x_nameI hf (fun v1 _ hf => ?_)
  refine x_istore C dX7_all_248 (pc' := 250) rfl (by decide) rfl (lv' := [some (vR a0), none, none, some (vI i3), none, some (vI i5), some (vI v1), some (vI i7), none, none, none, none, none, none, none]) rfl ?_
  refine x_iinc C dX7_all_250 (pc' := 253) rfl rfl (v := (i7 + 1)) rfl (by decide) rfl (lv' := [some (vR a0), none, none, some (vI i3), none, some (vI i5), some (vI v1), some (vI (i7 + 1)), none, none, none, none, none, none, none]) rfl ?_
  refine x_goto C dX7_all_253 (tgt := 223) (by decide) ?_
  exact hw223 a0 i3 i5 v1 (i7 + 1) h hf
def fX7_all_w223 : Nat → Nat → Int32 → Int32 → Int32 → Int32 → Hp → Option (Int32 × Hp)
  | 0 => fun _ _ _ _ _ _ => none
  | n + 1 => fun a0 i3 i5 i6 i7 h => if i5 ≤ i7 then (fX7_all_b256 a0 i3 i5 i6 h) else ((gR h a0 7 23).bind fun v1 => (aI h v1 0 i7).bind fun v2 => if v2 = 0 then (fX7_all_b247 (fX7_all_w223 n) a0 i3 i5 i7 (1 : Int32) i6 h) else (fX7_all_b247 (fX7_all_w223 n) a0 i3 i5 i7 (0 : Int32) i6 h))
set_option maxHeartbeats 4000000 in
set_option maxRecDepth 100000 in
theorem mX7_all_w223 {g : XG} {p : Program} {l : Launch} {e : Env} {s : State} {m : MethodId} {args : Array Value} {below : List Frame} {meth : Method} {c : Code} (C : x_C g p s m args c cX7_all RX7 15 wsX7_all) (hr : meth.sig.returnType = (some .int)) (hlk : meth.locks = false) (hnm : meth.name = yX7_all.name) {res : Int32 × Hp} : ∀ (n : Nat) (a0 : Nat) (i3 : Int32) (i5 : Int32) (i6 : Int32) (i7 : Int32) (h : Hp), fX7_all_w223 n a0 i3 i5 i6 i7 h = some res → XW g p l e { frames := 3, cells := 0, slots := 0, locals := 70 } s m args below meth c (MQ below (x_Q g (some (vI res.1)) res.2) args s 0 0 (x_A g)) 15 0 0 h 223 [some (vR a0), none, none, some (vI i3), none, some (vI i5), some (vI i6), some (vI i7), none, none, none, none, none, none, none] [] := by
  intro n
  induction n with
  | zero =>
    intro a0 i3 i5 i6 i7 h hf
    have hf2 : (none : Option (Int32 × Hp)) = some res := hf
    cases hf2
  | succ n ih =>
    intro a0 i3 i5 i6 i7 h hf
    rw [fX7_all_w223] at hf
    refine x_iload C dX7_all_223 (pc' := 225) rfl rfl ?_
    refine x_iload C dX7_all_225 (pc' := 227) rfl rfl ?_
    refine x_icmp_ge C hf dX7_all_227 (pc' := 230) rfl (tgt := 256) (by decide) (fun _ hf => ?_) (fun _ hf => ?_)
    ·
      refine x_keep [true, false, false, true, false, true, true, false, false, false, false, false, false, false, false] rfl ?_
      refine x_more (k' := 0) (n' := 0) (Nat.le_of_ble_eq_true rfl) (Nat.le_of_ble_eq_true rfl) ?_
      exact mX7_all_b256 C hr hlk hnm a0 i3 i5 i6 h hf
    ·
      refine x_iload C dX7_all_230 (pc' := 232) rfl rfl ?_
      refine x_aload_n C dX7_all_232 (pc' := 233) rfl rfl rfl ?_
      refine x_getR C (ci := 7) (kf := 23) rfl (by decide) hinX7_all_X7 lkX7_all_3 rfl hf dX7_all_233 (pc' := 236) rfl (fun v1 _ hf => ?_)
      refine x_iload C dX7_all_236 (pc' := 238) rfl rfl ?_
      refine x_iaload C hf dX7_all_238 (pc' := 239) rfl (fun v2 _ hf => ?_)
      refine x_if_ne C hf dX7_all_239 (pc' := 242) rfl (tgt := 246) (by decide) (fun _ hf => ?_) (fun _ hf => ?_)
      ·
        refine x_iconst C (v := 1) (by decide) dX7_all_242 (pc' := 243) rfl ?_
        refine x_goto C dX7_all_243 (tgt := 247) (by decide) ?_
        refine x_keep [true, false, false, true, false, true, false, true, false, false, false, false, false, false, false] rfl ?_
        refine x_more (k' := 0) (n' := 0) (Nat.le_of_ble_eq_true rfl) (Nat.le_of_ble_eq_true rfl) ?_
        exact mX7_all_b247 C hr hlk hnm (fX7_all_w223 n) ih a0 i3 i5 i7 (1 : Int32) i6 h hf
      ·
        refine x_iconst C (v := 0) (by decide) dX7_all_246 (pc' := 247) rfl ?_
        refine x_keep [true, false, false, true, false, true, false, true, false, false, false, false, false, false, false] rfl ?_
        refine x_more (k' := 0) (n' := 0) (Nat.le_of_ble_eq_true rfl) (Nat.le_of_ble_eq_true rfl) ?_
        exact mX7_all_b247 C hr hlk hnm (fX7_all_w223 n) ih a0 i3 i5 i7 (0 : Int32) i6 h hf
def fX7_all_b217 (a0 : Nat) (i3 : Int32) (i5 : Int32) (h : Hp) : Option (Int32 × Hp) := fX7_all_w223 FUEL a0 i3 i5 (0 : Int32) (0 : Int32) h
set_option maxHeartbeats 4000000 in
set_option maxRecDepth 100000 in
theorem mX7_all_b217 {g : XG} {p : Program} {l : Launch} {e : Env} {s : State} {m : MethodId} {args : Array Value} {below : List Frame} {meth : Method} {c : Code} (C : x_C g p s m args c cX7_all RX7 15 wsX7_all) (hr : meth.sig.returnType = (some .int)) (hlk : meth.locks = false) (hnm : meth.name = yX7_all.name) {res : Int32 × Hp} (a0 : Nat) (i3 : Int32) (i5 : Int32) (h : Hp) (hf : fX7_all_b217 a0 i3 i5 h = some res) : XW g p l e { frames := 3, cells := 0, slots := 0, locals := 70 } s m args below meth c (MQ below (x_Q g (some (vI res.1)) res.2) args s 0 0 (x_A g)) 15 0 0 h 217 [some (vR a0), none, none, some (vI i3), none, some (vI i5), none, none, none, none, none, none, none, none, none] [] := by
  unfold fX7_all_b217 at hf
  refine x_iconst C (v := 0) (by decide) dX7_all_217 (pc' := 218) rfl ?_
  refine x_istore C dX7_all_218 (pc' := 220) rfl (by decide) rfl (lv' := [some (vR a0), none, none, some (vI i3), none, some (vI i5), some (vI (0 : Int32)), none, none, none, none, none, none, none, none]) rfl ?_
  refine x_iconst C (v := 0) (by decide) dX7_all_220 (pc' := 221) rfl ?_
  refine x_istore C dX7_all_221 (pc' := 223) rfl (by decide) rfl (lv' := [some (vR a0), none, none, some (vI i3), none, some (vI i5), some (vI (0 : Int32)), some (vI (0 : Int32)), none, none, none, none, none, none, none]) rfl ?_
  refine x_more (k' := 0) (n' := 0) (Nat.le_of_ble_eq_true rfl) (Nat.le_of_ble_eq_true rfl) ?_
  exact mX7_all_w223 C hr hlk hnm FUEL a0 i3 i5 (0 : Int32) (0 : Int32) h hf
def fX7_all_b175 (w121 : Nat → Int32 → Int32 → Int32 → Int32 → Int32 → Hp → Option (Int32 × Hp)) (a0 : Nat) (i1 : Int32) (i2 : Int32) (i3 : Int32) (i5 : Int32) (i6 : Int32) (h : Hp) : Option (Int32 × Hp) := (oK h a0 7 (fX7_step h a0 i1 i2)).bind fun h2 => (gR h2 a0 7 22).bind fun v3 => call (oK h2 a0 7 (fX7_codeOf h2 a0 i1 i2)) fun r4 h5 => (sI h5 v3 0 i6 (r4).toInt32).bind fun h6 => (gR h6 a0 7 23).bind fun v7 => (gR h6 a0 7 22).bind fun v8 => (aI h6 v8 0 i6).bind fun v9 => (aI h6 v7 0 v9).bind fun v10 => (sI h6 v7 0 v9 (v10 + (1 : Int32))).bind fun h11 => w121 a0 i1 i2 i3 i5 (i6 + 1) h11
set_option maxHeartbeats 4000000 in
set_option maxRecDepth 100000 in
theorem mX7_all_b175 {g : XG} {p : Program} {l : Launch} {e : Env} {s : State} {m : MethodId} {args : Array Value} {below : List Frame} {meth : Method} {c : Code} (C : x_C g p s m args c cX7_all RX7 15 wsX7_all) (hr : meth.sig.returnType = (some .int)) (hlk : meth.locks = false) (hnm : meth.name = yX7_all.name) {res : Int32 × Hp} (w121 : Nat → Int32 → Int32 → Int32 → Int32 → Int32 → Hp → Option (Int32 × Hp)) (hw121 : ∀ (a0 : Nat) (i1 : Int32) (i2 : Int32) (i3 : Int32) (i5 : Int32) (i6 : Int32) (h : Hp), w121 a0 i1 i2 i3 i5 i6 h = some res → XW g p l e { frames := 3, cells := 0, slots := 0, locals := 70 } s m args below meth c (MQ below (x_Q g (some (vI res.1)) res.2) args s 0 0 (x_A g)) 15 0 0 h 121 [some (vR a0), some (vI i1), some (vI i2), some (vI i3), none, some (vI i5), some (vI i6), none, none, none, none, none, none, none, none] []) (a0 : Nat) (i1 : Int32) (i2 : Int32) (i3 : Int32) (i5 : Int32) (i6 : Int32) (h : Hp) (hf : fX7_all_b175 w121 a0 i1 i2 i3 i5 i6 h = some res) : XW g p l e { frames := 3, cells := 0, slots := 0, locals := 70 } s m args below meth c (MQ below (x_Q g (some (vI res.1)) res.2) args s 0 0 (x_A g)) 15 0 0 h 175 [some (vR a0), some (vI i1), some (vI i2), some (vI i3), none, some (vI i5), some (vI i6), none, none, none, none, none, none, none, none] [] := by
  unfold fX7_all_b175 at hf
  refine x_aload_n C dX7_all_175 (pc' := 176) rfl rfl rfl ?_
  refine x_iload_n C dX7_all_176 (pc' := 177) rfl rfl rfl ?_
  refine x_iload_n C dX7_all_177 (pc' := 178) rfl rfl rfl ?_
  obtain ⟨h2, hq, hf⟩ := bind_some hf
  obtain ⟨hob, hq⟩ := oK_some hq
  refine x_callV C (As := [vI i1, vI i2]) (st := []) (r := none) (h' := h2) (mc := 0) (ms := 0) (k := 0) (n := 0) (mX7_step hq) hob (ci := 7) rfl (cwV 2 C.1.2.2.2.2 gX7_all_X7_step rfl rfl rfl (by decide +kernel) ⟨Nat.le_of_ble_eq_true rfl, Nat.le_of_ble_eq_true rfl⟩) rfl rfl (Nat.le_of_ble_eq_true rfl) dX7_all_178 (pc' := 181) rfl ?_
  refine x_aload_n C dX7_all_181 (pc' := 182) rfl rfl rfl ?_
  refine x_getR C (ci := 7) (kf := 22) rfl (by decide) hinX7_all_X7 lkX7_all_1 rfl hf dX7_all_182 (pc' := 185) rfl (fun v3 _ hf => ?_)
  refine x_iload C dX7_all_185 (pc' := 187) rfl rfl ?_
  refine x_aload_n C dX7_all_187 (pc' := 188) rfl rfl rfl ?_
  refine x_iload_n C dX7_all_188 (pc' := 189) rfl rfl rfl ?_
  refine x_iload_n C dX7_all_189 (pc' := 190) rfl rfl rfl ?_
  obtain ⟨r4, h5, hq, hf⟩ := call_some hf
  obtain ⟨hob, hq⟩ := oK_some hq
  refine x_callV C (As := [vI i1, vI i2]) (st := [vI i6, vR v3]) (r := (some (vL r4))) (h' := h5) (mc := 0) (ms := 0) (k := 0) (n := 0) (mX7_codeOf hq) hob (ci := 7) rfl (cwV 2 C.1.2.2.2.2 gX7_all_X7_codeOf rfl rfl rfl (by decide +kernel) ⟨Nat.le_of_ble_eq_true rfl, Nat.le_of_ble_eq_true rfl⟩) rfl rfl (Nat.le_of_ble_eq_true rfl) dX7_all_190 (pc' := 193) rfl ?_
  refine x_l2i C dX7_all_193 (pc' := 194) rfl ?_
  refine x_iastore C hf dX7_all_194 (pc' := 195) rfl (fun h6 _ hf => ?_)
  refine x_aload_n C dX7_all_195 (pc' := 196) rfl rfl rfl ?_
  refine x_getR C (ci := 7) (kf := 23) rfl (by decide) hinX7_all_X7 lkX7_all_3 rfl hf dX7_all_196 (pc' := 199) rfl (fun v7 _ hf => ?_)
  refine x_aload_n C dX7_all_199 (pc' := 200) rfl rfl rfl ?_
  refine x_getR C (ci := 7) (kf := 22) rfl (by decide) hinX7_all_X7 lkX7_all_1 rfl hf dX7_all_200 (pc' := 203) rfl (fun v8 _ hf => ?_)
  refine x_iload C dX7_all_203 (pc' := 205) rfl rfl ?_
  refine x_iaload C hf dX7_all_205 (pc' := 206) rfl (fun v9 _ hf => ?_)
  refine x_dup2 C rfl rfl dX7_all_206 (pc' := 207) rfl ?_
  refine x_iaload C hf dX7_all_207 (pc' := 208) rfl (fun v10 _ hf => ?_)
  refine x_iconst C (v := 1) (by decide) dX7_all_208 (pc' := 209) rfl ?_
  refine x_iadd C dX7_all_209 (pc' := 210) rfl ?_
  refine x_iastore C hf dX7_all_210 (pc' := 211) rfl (fun h11 _ hf => ?_)
  refine x_iinc C dX7_all_211 (pc' := 214) rfl rfl (v := (i6 + 1)) rfl (by decide) rfl (lv' := [some (vR a0), some (vI i1), some (vI i2), some (vI i3), none, some (vI i5), some (vI (i6 + 1)), none, none, none, none, none, none, none, none]) rfl ?_
  refine x_goto C dX7_all_214 (tgt := 121) (by decide) ?_
  exact hw121 a0 i1 i2 i3 i5 (i6 + 1) h11 hf
def fX7_all_w137 (w121 : Nat → Int32 → Int32 → Int32 → Int32 → Int32 → Hp → Option (Int32 × Hp)) : Nat → Nat → Int32 → Int32 → Int32 → Int32 → Int32 → Int32 → Int32 → Hp → Option (Int32 × Hp)
  | 0 => fun _ _ _ _ _ _ _ _ _ => none
  | n + 1 => fun a0 i1 i2 i3 i5 i6 i7 i8 h => if i8 < 0 then (fX7_all_b175 w121 a0 i1 i2 i3 i5 i6 h) else ((gR h a0 7 9).bind fun v1 => (gR h a0 7 4).bind fun v2 => (aI h v2 0 i1).bind fun v3 => iRem i7 v3 fun v4 => (sI h v1 0 i8 v4).bind fun h5 => (gR h5 a0 7 4).bind fun v6 => (aI h5 v6 0 i1).bind fun v7 => iDiv i7 v7 fun v8 => (fX7_all_w137 w121 n) a0 i1 i2 i3 i5 i6 v8 (i8 + (-1)) h5)
set_option maxHeartbeats 4000000 in
set_option maxRecDepth 100000 in
theorem mX7_all_w137 {g : XG} {p : Program} {l : Launch} {e : Env} {s : State} {m : MethodId} {args : Array Value} {below : List Frame} {meth : Method} {c : Code} (C : x_C g p s m args c cX7_all RX7 15 wsX7_all) (hr : meth.sig.returnType = (some .int)) (hlk : meth.locks = false) (hnm : meth.name = yX7_all.name) {res : Int32 × Hp} (w121 : Nat → Int32 → Int32 → Int32 → Int32 → Int32 → Hp → Option (Int32 × Hp)) (hw121 : ∀ (a0 : Nat) (i1 : Int32) (i2 : Int32) (i3 : Int32) (i5 : Int32) (i6 : Int32) (h : Hp), w121 a0 i1 i2 i3 i5 i6 h = some res → XW g p l e { frames := 3, cells := 0, slots := 0, locals := 70 } s m args below meth c (MQ below (x_Q g (some (vI res.1)) res.2) args s 0 0 (x_A g)) 15 0 0 h 121 [some (vR a0), some (vI i1), some (vI i2), some (vI i3), none, some (vI i5), some (vI i6), none, none, none, none, none, none, none, none] []) : ∀ (n : Nat) (a0 : Nat) (i1 : Int32) (i2 : Int32) (i3 : Int32) (i5 : Int32) (i6 : Int32) (i7 : Int32) (i8 : Int32) (h : Hp), fX7_all_w137 w121 n a0 i1 i2 i3 i5 i6 i7 i8 h = some res → XW g p l e { frames := 3, cells := 0, slots := 0, locals := 70 } s m args below meth c (MQ below (x_Q g (some (vI res.1)) res.2) args s 0 0 (x_A g)) 15 0 0 h 137 [some (vR a0), some (vI i1), some (vI i2), some (vI i3), none, some (vI i5), some (vI i6), some (vI i7), some (vI i8), none, none, none, none, none, none] [] := by
  intro n
  induction n with
  | zero =>
    intro a0 i1 i2 i3 i5 i6 i7 i8 h hf
    have hf2 : (none : Option (Int32 × Hp)) = some res := hf
    cases hf2
  | succ n ih =>
    intro a0 i1 i2 i3 i5 i6 i7 i8 h hf
    rw [fX7_all_w137] at hf
    refine x_iload C dX7_all_137 (pc' := 139) rfl rfl ?_
    refine x_if_lt C hf dX7_all_139 (pc' := 142) rfl (tgt := 175) (by decide) (fun _ hf => ?_) (fun _ hf => ?_)
    ·
      refine x_keep [true, true, true, true, false, true, true, false, false, false, false, false, false, false, false] rfl ?_
      refine x_more (k' := 0) (n' := 0) (Nat.le_of_ble_eq_true rfl) (Nat.le_of_ble_eq_true rfl) ?_
      exact mX7_all_b175 C hr hlk hnm w121 hw121 a0 i1 i2 i3 i5 i6 h hf
    ·
      refine x_aload_n C dX7_all_142 (pc' := 143) rfl rfl rfl ?_
      refine x_getR C (ci := 7) (kf := 9) rfl (by decide) hinX7_all_X7 lkX7_all_4 rfl hf dX7_all_143 (pc' := 146) rfl (fun v1 _ hf => ?_)
      refine x_iload C dX7_all_146 (pc' := 148) rfl rfl ?_
      refine x_iload C dX7_all_148 (pc' := 150) rfl rfl ?_
      refine x_aload_n C dX7_all_150 (pc' := 151) rfl rfl rfl ?_
      refine x_getR C (ci := 7) (kf := 4) rfl (by decide) hinX7_all_X7 lkX7_all_5 rfl hf dX7_all_151 (pc' := 154) rfl (fun v2 _ hf => ?_)
      refine x_iload_n C dX7_all_154 (pc' := 155) rfl rfl rfl ?_
      refine x_iaload C hf dX7_all_155 (pc' := 156) rfl (fun v3 _ hf => ?_)
      refine x_irem C hf dX7_all_156 (pc' := 157) rfl (fun _ v4 _ hf => ?_)
      refine x_iastore C hf dX7_all_157 (pc' := 158) rfl (fun h5 _ hf => ?_)
      refine x_iload C dX7_all_158 (pc' := 160) rfl rfl ?_
      refine x_aload_n C dX7_all_160 (pc' := 161) rfl rfl rfl ?_
      refine x_getR C (ci := 7) (kf := 4) rfl (by decide) hinX7_all_X7 lkX7_all_5 rfl hf dX7_all_161 (pc' := 164) rfl (fun v6 _ hf => ?_)
      refine x_iload_n C dX7_all_164 (pc' := 165) rfl rfl rfl ?_
      refine x_iaload C hf dX7_all_165 (pc' := 166) rfl (fun v7 _ hf => ?_)
      refine x_idiv C hf dX7_all_166 (pc' := 167) rfl (fun _ v8 _ hf => ?_)
      refine x_istore C dX7_all_167 (pc' := 169) rfl (by decide) rfl (lv' := [some (vR a0), some (vI i1), some (vI i2), some (vI i3), none, some (vI i5), some (vI i6), some (vI v8), some (vI i8), none, none, none, none, none, none]) rfl ?_
      refine x_iinc C dX7_all_169 (pc' := 172) rfl rfl (v := (i8 + (-1))) rfl (by decide) rfl (lv' := [some (vR a0), some (vI i1), some (vI i2), some (vI i3), none, some (vI i5), some (vI i6), some (vI v8), some (vI (i8 + (-1))), none, none, none, none, none, none]) rfl ?_
      refine x_goto C dX7_all_172 (tgt := 137) (by decide) ?_
      exact ih a0 i1 i2 i3 i5 i6 v8 (i8 + (-1)) h5 hf
def fX7_all_w121 : Nat → Nat → Int32 → Int32 → Int32 → Int32 → Int32 → Hp → Option (Int32 × Hp)
  | 0 => fun _ _ _ _ _ _ _ => none
  | n + 1 => fun a0 i1 i2 i3 i5 i6 h => if i5 ≤ i6 then (fX7_all_b217 a0 i3 i5 h) else (setv ((i2 - (1 : Int32))) fun v1 => fX7_all_w137 (fX7_all_w121 n) FUEL a0 i1 i2 i3 i5 i6 i6 v1 h)
set_option maxHeartbeats 4000000 in
set_option maxRecDepth 100000 in
theorem mX7_all_w121 {g : XG} {p : Program} {l : Launch} {e : Env} {s : State} {m : MethodId} {args : Array Value} {below : List Frame} {meth : Method} {c : Code} (C : x_C g p s m args c cX7_all RX7 15 wsX7_all) (hr : meth.sig.returnType = (some .int)) (hlk : meth.locks = false) (hnm : meth.name = yX7_all.name) {res : Int32 × Hp} : ∀ (n : Nat) (a0 : Nat) (i1 : Int32) (i2 : Int32) (i3 : Int32) (i5 : Int32) (i6 : Int32) (h : Hp), fX7_all_w121 n a0 i1 i2 i3 i5 i6 h = some res → XW g p l e { frames := 3, cells := 0, slots := 0, locals := 70 } s m args below meth c (MQ below (x_Q g (some (vI res.1)) res.2) args s 0 0 (x_A g)) 15 0 0 h 121 [some (vR a0), some (vI i1), some (vI i2), some (vI i3), none, some (vI i5), some (vI i6), none, none, none, none, none, none, none, none] [] := by
  intro n
  induction n with
  | zero =>
    intro a0 i1 i2 i3 i5 i6 h hf
    have hf2 : (none : Option (Int32 × Hp)) = some res := hf
    cases hf2
  | succ n ih =>
    intro a0 i1 i2 i3 i5 i6 h hf
    rw [fX7_all_w121] at hf
    refine x_iload C dX7_all_121 (pc' := 123) rfl rfl ?_
    refine x_iload C dX7_all_123 (pc' := 125) rfl rfl ?_
    refine x_icmp_ge C hf dX7_all_125 (pc' := 128) rfl (tgt := 217) (by decide) (fun _ hf => ?_) (fun _ hf => ?_)
    ·
      refine x_keep [true, false, false, true, false, true, false, false, false, false, false, false, false, false, false] rfl ?_
      refine x_more (k' := 0) (n' := 0) (Nat.le_of_ble_eq_true rfl) (Nat.le_of_ble_eq_true rfl) ?_
      exact mX7_all_b217 C hr hlk hnm a0 i3 i5 h hf
    ·
      refine x_iload C dX7_all_128 (pc' := 130) rfl rfl ?_
      refine x_istore C dX7_all_130 (pc' := 132) rfl (by decide) rfl (lv' := [some (vR a0), some (vI i1), some (vI i2), some (vI i3), none, some (vI i5), some (vI i6), some (vI i6), none, none, none, none, none, none, none]) rfl ?_
      refine x_iload_n C dX7_all_132 (pc' := 133) rfl rfl rfl ?_
      refine x_iconst C (v := 1) (by decide) dX7_all_133 (pc' := 134) rfl ?_
      refine x_isub C dX7_all_134 (pc' := 135) rfl ?_
      refine x_nameI hf (fun v1 _ hf => ?_)
      refine x_istore C dX7_all_135 (pc' := 137) rfl (by decide) rfl (lv' := [some (vR a0), some (vI i1), some (vI i2), some (vI i3), none, some (vI i5), some (vI i6), some (vI i6), some (vI v1), none, none, none, none, none, none]) rfl ?_
      refine x_more (k' := 0) (n' := 0) (Nat.le_of_ble_eq_true rfl) (Nat.le_of_ble_eq_true rfl) ?_
      exact mX7_all_w137 C hr hlk hnm (fX7_all_w121 n) ih FUEL a0 i1 i2 i3 i5 i6 i6 v1 h hf
def fX7_all_b118 (a0 : Nat) (i1 : Int32) (i2 : Int32) (i3 : Int32) (i5 : Int32) (h : Hp) : Option (Int32 × Hp) := fX7_all_w121 FUEL a0 i1 i2 i3 i5 (0 : Int32) h
set_option maxHeartbeats 4000000 in
set_option maxRecDepth 100000 in
theorem mX7_all_b118 {g : XG} {p : Program} {l : Launch} {e : Env} {s : State} {m : MethodId} {args : Array Value} {below : List Frame} {meth : Method} {c : Code} (C : x_C g p s m args c cX7_all RX7 15 wsX7_all) (hr : meth.sig.returnType = (some .int)) (hlk : meth.locks = false) (hnm : meth.name = yX7_all.name) {res : Int32 × Hp} (a0 : Nat) (i1 : Int32) (i2 : Int32) (i3 : Int32) (i5 : Int32) (h : Hp) (hf : fX7_all_b118 a0 i1 i2 i3 i5 h = some res) : XW g p l e { frames := 3, cells := 0, slots := 0, locals := 70 } s m args below meth c (MQ below (x_Q g (some (vI res.1)) res.2) args s 0 0 (x_A g)) 15 0 0 h 118 [some (vR a0), some (vI i1), some (vI i2), some (vI i3), none, some (vI i5), none, none, none, none, none, none, none, none, none] [] := by
  unfold fX7_all_b118 at hf
  refine x_iconst C (v := 0) (by decide) dX7_all_118 (pc' := 119) rfl ?_
  refine x_istore C dX7_all_119 (pc' := 121) rfl (by decide) rfl (lv' := [some (vR a0), some (vI i1), some (vI i2), some (vI i3), none, some (vI i5), some (vI (0 : Int32)), none, none, none, none, none, none, none, none]) rfl ?_
  refine x_more (k' := 0) (n' := 0) (Nat.le_of_ble_eq_true rfl) (Nat.le_of_ble_eq_true rfl) ?_
  exact mX7_all_w121 C hr hlk hnm FUEL a0 i1 i2 i3 i5 (0 : Int32) h hf
def fX7_all_w97 : Nat → Nat → Int32 → Int32 → Int32 → Int32 → Int32 → Hp → Option (Int32 × Hp)
  | 0 => fun _ _ _ _ _ _ _ => none
  | n + 1 => fun a0 i1 i2 i3 i5 i6 h => if i5 ≤ i6 then (fX7_all_b118 a0 i1 i2 i3 i5 h) else ((gR h a0 7 23).bind fun v1 => (sI h v1 0 i6 (0 : Int32)).bind fun h2 => (fX7_all_w97 n) a0 i1 i2 i3 i5 (i6 + 1) h2)
set_option maxHeartbeats 4000000 in
set_option maxRecDepth 100000 in
theorem mX7_all_w97 {g : XG} {p : Program} {l : Launch} {e : Env} {s : State} {m : MethodId} {args : Array Value} {below : List Frame} {meth : Method} {c : Code} (C : x_C g p s m args c cX7_all RX7 15 wsX7_all) (hr : meth.sig.returnType = (some .int)) (hlk : meth.locks = false) (hnm : meth.name = yX7_all.name) {res : Int32 × Hp} : ∀ (n : Nat) (a0 : Nat) (i1 : Int32) (i2 : Int32) (i3 : Int32) (i5 : Int32) (i6 : Int32) (h : Hp), fX7_all_w97 n a0 i1 i2 i3 i5 i6 h = some res → XW g p l e { frames := 3, cells := 0, slots := 0, locals := 70 } s m args below meth c (MQ below (x_Q g (some (vI res.1)) res.2) args s 0 0 (x_A g)) 15 0 0 h 97 [some (vR a0), some (vI i1), some (vI i2), some (vI i3), none, some (vI i5), some (vI i6), none, none, none, none, none, none, none, none] [] := by
  intro n
  induction n with
  | zero =>
    intro a0 i1 i2 i3 i5 i6 h hf
    have hf2 : (none : Option (Int32 × Hp)) = some res := hf
    cases hf2
  | succ n ih =>
    intro a0 i1 i2 i3 i5 i6 h hf
    rw [fX7_all_w97] at hf
    refine x_iload C dX7_all_97 (pc' := 99) rfl rfl ?_
    refine x_iload C dX7_all_99 (pc' := 101) rfl rfl ?_
    refine x_icmp_ge C hf dX7_all_101 (pc' := 104) rfl (tgt := 118) (by decide) (fun _ hf => ?_) (fun _ hf => ?_)
    ·
      refine x_keep [true, true, true, true, false, true, false, false, false, false, false, false, false, false, false] rfl ?_
      refine x_more (k' := 0) (n' := 0) (Nat.le_of_ble_eq_true rfl) (Nat.le_of_ble_eq_true rfl) ?_
      exact mX7_all_b118 C hr hlk hnm a0 i1 i2 i3 i5 h hf
    ·
      refine x_aload_n C dX7_all_104 (pc' := 105) rfl rfl rfl ?_
      refine x_getR C (ci := 7) (kf := 23) rfl (by decide) hinX7_all_X7 lkX7_all_3 rfl hf dX7_all_105 (pc' := 108) rfl (fun v1 _ hf => ?_)
      refine x_iload C dX7_all_108 (pc' := 110) rfl rfl ?_
      refine x_iconst C (v := 0) (by decide) dX7_all_110 (pc' := 111) rfl ?_
      refine x_iastore C hf dX7_all_111 (pc' := 112) rfl (fun h2 _ hf => ?_)
      refine x_iinc C dX7_all_112 (pc' := 115) rfl rfl (v := (i6 + 1)) rfl (by decide) rfl (lv' := [some (vR a0), some (vI i1), some (vI i2), some (vI i3), none, some (vI i5), some (vI (i6 + 1)), none, none, none, none, none, none, none, none]) rfl ?_
      refine x_goto C dX7_all_115 (tgt := 97) (by decide) ?_
      exact ih a0 i1 i2 i3 i5 (i6 + 1) h2 hf
def fX7_all_b72 (a0 : Nat) (i1 : Int32) (i2 : Int32) (i3 : Int32) (i4 : Int32) (h : Hp) : Option (Int32 × Hp) := if i4 ≤ (4096 : Int32) then ((gR h a0 7 4).bind fun v1 => (aI h v1 0 i1).bind fun v2 => call (fX7_power h v2 i2) fun r3 h4 => fX7_all_w97 FUEL a0 i1 i2 i3 r3 (0 : Int32) h4) else (some ((-1 : Int32), h))
set_option maxHeartbeats 4000000 in
set_option maxRecDepth 100000 in
theorem mX7_all_b72 {g : XG} {p : Program} {l : Launch} {e : Env} {s : State} {m : MethodId} {args : Array Value} {below : List Frame} {meth : Method} {c : Code} (C : x_C g p s m args c cX7_all RX7 15 wsX7_all) (hr : meth.sig.returnType = (some .int)) (hlk : meth.locks = false) (hnm : meth.name = yX7_all.name) {res : Int32 × Hp} (a0 : Nat) (i1 : Int32) (i2 : Int32) (i3 : Int32) (i4 : Int32) (h : Hp) (hf : fX7_all_b72 a0 i1 i2 i3 i4 h = some res) : XW g p l e { frames := 3, cells := 0, slots := 0, locals := 70 } s m args below meth c (MQ below (x_Q g (some (vI res.1)) res.2) args s 0 0 (x_A g)) 15 0 0 h 72 [some (vR a0), some (vI i1), some (vI i2), some (vI i3), some (vI i4), none, none, none, none, none, none, none, none, none, none] [] := by
  unfold fX7_all_b72 at hf
  refine x_iload C dX7_all_72 (pc' := 74) rfl rfl ?_
  refine x_sipush C (v := 4096) (by decide) dX7_all_74 (pc' := 77) rfl ?_
  refine x_icmp_le C hf dX7_all_77 (pc' := 80) rfl (tgt := 82) (by decide) (fun _ hf => ?_) (fun _ hf => ?_)
  ·
    refine x_aload_n C dX7_all_82 (pc' := 83) rfl rfl rfl ?_
    refine x_getR C (ci := 7) (kf := 4) rfl (by decide) hinX7_all_X7 lkX7_all_5 rfl hf dX7_all_83 (pc' := 86) rfl (fun v1 _ hf => ?_)
    refine x_iload_n C dX7_all_86 (pc' := 87) rfl rfl rfl ?_
    refine x_iaload C hf dX7_all_87 (pc' := 88) rfl (fun v2 _ hf => ?_)
    refine x_iload_n C dX7_all_88 (pc' := 89) rfl rfl rfl ?_
    obtain ⟨r3, h4, hq, hf⟩ := call_some hf
    refine x_callS C (As := [vI v2, vI i2]) (st := []) (r := (some (vI r3))) (h' := h4) (mc := 0) (ms := 0) (k := 0) (n := 0) (mX7_power hq) (va_cwS 2 C.1.2.2.2.2 gX7_all_X7_power rfl rfl rfl (by decide +kernel) ⟨Nat.le_of_ble_eq_true rfl, Nat.le_of_ble_eq_true rfl⟩) rfl rfl (Nat.le_of_ble_eq_true rfl) dX7_all_89 (pc' := 92) rfl ?_
    refine x_istore C dX7_all_92 (pc' := 94) rfl (by decide) rfl (lv' := [some (vR a0), some (vI i1), some (vI i2), some (vI i3), some (vI i4), some (vI r3), none, none, none, none, none, none, none, none, none]) rfl ?_
    refine x_iconst C (v := 0) (by decide) dX7_all_94 (pc' := 95) rfl ?_
    refine x_istore C dX7_all_95 (pc' := 97) rfl (by decide) rfl (lv' := [some (vR a0), some (vI i1), some (vI i2), some (vI i3), some (vI i4), some (vI r3), some (vI (0 : Int32)), none, none, none, none, none, none, none, none]) rfl ?_
    refine x_keep [true, true, true, true, false, true, true, false, false, false, false, false, false, false, false] rfl ?_
    refine x_more (k' := 0) (n' := 0) (Nat.le_of_ble_eq_true rfl) (Nat.le_of_ble_eq_true rfl) ?_
    exact mX7_all_w97 C hr hlk hnm FUEL a0 i1 i2 i3 r3 (0 : Int32) h4 hf
  ·
    refine x_iconst C (v := -1) (by decide) dX7_all_80 (pc' := 81) rfl ?_
    cases hf
    exact x_iret C hr hlk dX7_all_81
def fX7_all_w41 : Nat → Nat → Int32 → Int32 → Int32 → Int32 → Int32 → Hp → Option (Int32 × Hp)
  | 0 => fun _ _ _ _ _ _ _ => none
  | n + 1 => fun a0 i1 i2 i3 i4 i5 h => if i2 ≤ i5 then (fX7_all_b72 a0 i1 i2 i3 i4 h) else (if (4096 : Int32) < i4 then (fX7_all_b72 a0 i1 i2 i3 i4 h) else ((gR h a0 7 4).bind fun v1 => (aI h v1 0 i1).bind fun v2 => setv ((i4 * v2)) fun v3 => (fX7_all_w41 n) a0 i1 i2 i3 v3 (i5 + 1) h))
set_option maxHeartbeats 4000000 in
set_option maxRecDepth 100000 in
theorem mX7_all_w41 {g : XG} {p : Program} {l : Launch} {e : Env} {s : State} {m : MethodId} {args : Array Value} {below : List Frame} {meth : Method} {c : Code} (C : x_C g p s m args c cX7_all RX7 15 wsX7_all) (hr : meth.sig.returnType = (some .int)) (hlk : meth.locks = false) (hnm : meth.name = yX7_all.name) {res : Int32 × Hp} : ∀ (n : Nat) (a0 : Nat) (i1 : Int32) (i2 : Int32) (i3 : Int32) (i4 : Int32) (i5 : Int32) (h : Hp), fX7_all_w41 n a0 i1 i2 i3 i4 i5 h = some res → XW g p l e { frames := 3, cells := 0, slots := 0, locals := 70 } s m args below meth c (MQ below (x_Q g (some (vI res.1)) res.2) args s 0 0 (x_A g)) 15 0 0 h 41 [some (vR a0), some (vI i1), some (vI i2), some (vI i3), some (vI i4), some (vI i5), none, none, none, none, none, none, none, none, none] [] := by
  intro n
  induction n with
  | zero =>
    intro a0 i1 i2 i3 i4 i5 h hf
    have hf2 : (none : Option (Int32 × Hp)) = some res := hf
    cases hf2
  | succ n ih =>
    intro a0 i1 i2 i3 i4 i5 h hf
    rw [fX7_all_w41] at hf
    refine x_iload C dX7_all_41 (pc' := 43) rfl rfl ?_
    refine x_iload_n C dX7_all_43 (pc' := 44) rfl rfl rfl ?_
    refine x_icmp_ge C hf dX7_all_44 (pc' := 47) rfl (tgt := 72) (by decide) (fun _ hf => ?_) (fun _ hf => ?_)
    ·
      refine x_keep [true, true, true, true, true, false, false, false, false, false, false, false, false, false, false] rfl ?_
      refine x_more (k' := 0) (n' := 0) (Nat.le_of_ble_eq_true rfl) (Nat.le_of_ble_eq_true rfl) ?_
      exact mX7_all_b72 C hr hlk hnm a0 i1 i2 i3 i4 h hf
    ·
      refine x_iload C dX7_all_47 (pc' := 49) rfl rfl ?_
      refine x_sipush C (v := 4096) (by decide) dX7_all_49 (pc' := 52) rfl ?_
      refine x_icmp_gt C hf dX7_all_52 (pc' := 55) rfl (tgt := 72) (by decide) (fun _ hf => ?_) (fun _ hf => ?_)
      ·
        refine x_keep [true, true, true, true, true, false, false, false, false, false, false, false, false, false, false] rfl ?_
        refine x_more (k' := 0) (n' := 0) (Nat.le_of_ble_eq_true rfl) (Nat.le_of_ble_eq_true rfl) ?_
        exact mX7_all_b72 C hr hlk hnm a0 i1 i2 i3 i4 h hf
      ·
        refine x_iload C dX7_all_55 (pc' := 57) rfl rfl ?_
        refine x_aload_n C dX7_all_57 (pc' := 58) rfl rfl rfl ?_
        refine x_getR C (ci := 7) (kf := 4) rfl (by decide) hinX7_all_X7 lkX7_all_5 rfl hf dX7_all_58 (pc' := 61) rfl (fun v1 _ hf => ?_)
        refine x_iload_n C dX7_all_61 (pc' := 62) rfl rfl rfl ?_
        refine x_iaload C hf dX7_all_62 (pc' := 63) rfl (fun v2 _ hf => ?_)
        refine x_imul C dX7_all_63 (pc' := 64) rfl ?_
        refine x_nameI hf (fun v3 _ hf => ?_)
        refine x_istore C dX7_all_64 (pc' := 66) rfl (by decide) rfl (lv' := [some (vR a0), some (vI i1), some (vI i2), some (vI i3), some (vI v3), some (vI i5), none, none, none, none, none, none, none, none, none]) rfl ?_
        refine x_iinc C dX7_all_66 (pc' := 69) rfl rfl (v := (i5 + 1)) rfl (by decide) rfl (lv' := [some (vR a0), some (vI i1), some (vI i2), some (vI i3), some (vI v3), some (vI (i5 + 1)), none, none, none, none, none, none, none, none, none]) rfl ?_
        refine x_goto C dX7_all_69 (tgt := 41) (by decide) ?_
        exact ih a0 i1 i2 i3 v3 (i5 + 1) h hf
def fX7_all (h : Hp) (a0 : Nat) (i1 : Int32) (i2 : Int32) (i3 : Int32) : Option (Int32 × Hp) := (pF h a0 7 0 (vI (0 : Int32))).bind fun h1 => call (oK h1 a0 7 (fX7_has h1 a0 i1)) fun r2 h3 => if r2 = 0 then (some ((-1 : Int32), h3)) else (if i2 < (1 : Int32) then (some ((-1 : Int32), h3)) else (if (12 : Int32) < i2 then (some ((-1 : Int32), h3)) else (if i3 < 0 then (some ((-1 : Int32), h3)) else (if i3 ≤ (4 : Int32) then (fX7_all_w41 FUEL a0 i1 i2 i3 (1 : Int32) (0 : Int32) h3) else (some ((-1 : Int32), h3))))))
set_option maxHeartbeats 4000000 in
set_option maxRecDepth 100000 in
theorem mX7_all {l : Launch} {g : XG} {h : Hp} {a0 : Nat} {i1 : Int32} {i2 : Int32} {i3 : Int32} {res : Int32 × Hp} (hf : fX7_all h a0 i1 i2 i3 = some res) : XM l g yX7_all wsX7_all 3 70 0 0 [vR a0, vI i1, vI i2, vI i3] h (some (vI res.1)) res.2 := by
  refine x_start (cc := cX7_all) (maxL := 15) (ret := (some .int)) (by decide) rfl (Nat.le_of_ble_eq_true rfl) (lv := [some (vR a0), some (vI i1), some (vI i2), some (vI i3), none, none, none, none, none, none, none, none, none, none, none]) rfl ?_
  intro p e s m args below meth c C hr hlk hnm
  unfold fX7_all at hf
  refine x_aload_n C dX7_all_0 (pc' := 1) rfl rfl rfl ?_
  refine x_iconst C (v := 0) (by decide) dX7_all_1 (pc' := 2) rfl ?_
  refine x_put C (ci := 7) (kf := 0) rfl (by decide) hinX7_all_X7 tyX7 tyX7_ok nmX7 lkX7_all_6 rfl (Or.inl rfl) rfl hf dX7_all_2 (pc' := 5) rfl (fun h1 _ hf => ?_)
  refine x_aload_n C dX7_all_5 (pc' := 6) rfl rfl rfl ?_
  refine x_iload_n C dX7_all_6 (pc' := 7) rfl rfl rfl ?_
  obtain ⟨r2, h3, hq, hf⟩ := call_some hf
  obtain ⟨hob, hq⟩ := oK_some hq
  refine x_callV C (As := [vI i1]) (st := []) (r := (some (vI r2))) (h' := h3) (mc := 0) (ms := 0) (k := 0) (n := 0) (mX7_has hq) hob (ci := 7) rfl (cwV 1 C.1.2.2.2.2 gX7_all_X7_has rfl rfl rfl (by decide +kernel) ⟨Nat.le_of_ble_eq_true rfl, Nat.le_of_ble_eq_true rfl⟩) rfl rfl (Nat.le_of_ble_eq_true rfl) dX7_all_7 (pc' := 10) rfl ?_
  refine x_if_eq C hf dX7_all_10 (pc' := 13) rfl (tgt := 33) (by decide) (fun _ hf => ?_) (fun _ hf => ?_)
  ·
    refine x_iconst C (v := -1) (by decide) dX7_all_33 (pc' := 34) rfl ?_
    cases hf
    exact x_iret C hr hlk dX7_all_34
  ·
    refine x_iload_n C dX7_all_13 (pc' := 14) rfl rfl rfl ?_
    refine x_iconst C (v := 1) (by decide) dX7_all_14 (pc' := 15) rfl ?_
    refine x_icmp_lt C hf dX7_all_15 (pc' := 18) rfl (tgt := 33) (by decide) (fun _ hf => ?_) (fun _ hf => ?_)
    ·
      refine x_iconst C (v := -1) (by decide) dX7_all_33 (pc' := 34) rfl ?_
      cases hf
      exact x_iret C hr hlk dX7_all_34
    ·
      refine x_iload_n C dX7_all_18 (pc' := 19) rfl rfl rfl ?_
      refine x_bipush C (v := 12) (by decide) dX7_all_19 (pc' := 21) rfl ?_
      refine x_icmp_gt C hf dX7_all_21 (pc' := 24) rfl (tgt := 33) (by decide) (fun _ hf => ?_) (fun _ hf => ?_)
      ·
        refine x_iconst C (v := -1) (by decide) dX7_all_33 (pc' := 34) rfl ?_
        cases hf
        exact x_iret C hr hlk dX7_all_34
      ·
        refine x_iload_n C dX7_all_24 (pc' := 25) rfl rfl rfl ?_
        refine x_if_lt C hf dX7_all_25 (pc' := 28) rfl (tgt := 33) (by decide) (fun _ hf => ?_) (fun _ hf => ?_)
        ·
          refine x_iconst C (v := -1) (by decide) dX7_all_33 (pc' := 34) rfl ?_
          cases hf
          exact x_iret C hr hlk dX7_all_34
        ·
          refine x_iload_n C dX7_all_28 (pc' := 29) rfl rfl rfl ?_
          refine x_iconst C (v := 4) (by decide) dX7_all_29 (pc' := 30) rfl ?_
          refine x_icmp_le C hf dX7_all_30 (pc' := 33) rfl (tgt := 35) (by decide) (fun _ hf => ?_) (fun _ hf => ?_)
          ·
            refine x_iconst C (v := 1) (by decide) dX7_all_35 (pc' := 36) rfl ?_
            refine x_istore C dX7_all_36 (pc' := 38) rfl (by decide) rfl (lv' := [some (vR a0), some (vI i1), some (vI i2), some (vI i3), some (vI (1 : Int32)), none, none, none, none, none, none, none, none, none, none]) rfl ?_
            refine x_iconst C (v := 0) (by decide) dX7_all_38 (pc' := 39) rfl ?_
            refine x_istore C dX7_all_39 (pc' := 41) rfl (by decide) rfl (lv' := [some (vR a0), some (vI i1), some (vI i2), some (vI i3), some (vI (1 : Int32)), some (vI (0 : Int32)), none, none, none, none, none, none, none, none, none]) rfl ?_
            refine x_more (k' := 0) (n' := 0) (Nat.le_of_ble_eq_true rfl) (Nat.le_of_ble_eq_true rfl) ?_
            exact mX7_all_w41 C hr hlk hnm FUEL a0 i1 i2 i3 (1 : Int32) (0 : Int32) h3 hf
          ·
            refine x_iconst C (v := -1) (by decide) dX7_all_33 (pc' := 34) rfl ?_
            cases hf
            exact x_iret C hr hlk dX7_all_34
-- ===== X7_gain
theorem lkX7_gain_0 : Cond.fieldLink RX7 7 "MossRingsModel" "tape" "[B" ∈ wsX7_gain := by decide +kernel
theorem hinX7_gain_X7 : ∀ w ∈ u_ws RX7 TX7 27, w ∈ wsX7_gain := by decide +kernel
def fX7_gain (h : Hp) (a0 : Nat) (i1 : Int32) (i2 : Int32) : Option (Int32 × Hp) := (gR h a0 7 1).bind fun v1 => call (oK h a0 7 (fX7_tells h a0 i1 i2)) fun r2 h3 => (aI h3 v1 1 r2).bind fun v4 => (gR h3 a0 7 1).bind fun v5 => call (oK h3 a0 7 (fX7_overlaps h3 a0 i1)) fun r6 h7 => iDiv i2 r6 fun v8 => (aI h7 v5 1 v8).bind fun v9 => some ((v4 - v9), h7)
set_option maxHeartbeats 4000000 in
set_option maxRecDepth 100000 in
theorem mX7_gain {l : Launch} {g : XG} {h : Hp} {a0 : Nat} {i1 : Int32} {i2 : Int32} {res : Int32 × Hp} (hf : fX7_gain h a0 i1 i2 = some res) : XM l g yX7_gain wsX7_gain 2 44 0 0 [vR a0, vI i1, vI i2] h (some (vI res.1)) res.2 := by
  refine x_start (cc := cX7_gain) (maxL := 3) (ret := (some .int)) (by decide) rfl (Nat.le_of_ble_eq_true rfl) (lv := [some (vR a0), some (vI i1), some (vI i2)]) rfl ?_
  intro p e s m args below meth c C hr hlk hnm
  unfold fX7_gain at hf
  refine x_aload_n C dX7_gain_0 (pc' := 1) rfl rfl rfl ?_
  refine x_getR C (ci := 7) (kf := 1) rfl (by decide) hinX7_gain_X7 lkX7_gain_0 rfl hf dX7_gain_1 (pc' := 4) rfl (fun v1 _ hf => ?_)
  refine x_aload_n C dX7_gain_4 (pc' := 5) rfl rfl rfl ?_
  refine x_iload_n C dX7_gain_5 (pc' := 6) rfl rfl rfl ?_
  refine x_iload_n C dX7_gain_6 (pc' := 7) rfl rfl rfl ?_
  obtain ⟨r2, h3, hq, hf⟩ := call_some hf
  obtain ⟨hob, hq⟩ := oK_some hq
  refine x_callV C (As := [vI i1, vI i2]) (st := [vR v1]) (r := (some (vI r2))) (h' := h3) (mc := 0) (ms := 0) (k := 0) (n := 0) (mX7_tells hq) hob (ci := 7) rfl (cwV 2 C.1.2.2.2.2 gX7_gain_X7_tells rfl rfl rfl (by decide +kernel) ⟨Nat.le_of_ble_eq_true rfl, Nat.le_of_ble_eq_true rfl⟩) rfl rfl (Nat.le_of_ble_eq_true rfl) dX7_gain_7 (pc' := 10) rfl ?_
  refine x_baloadB C hf dX7_gain_10 (pc' := 11) rfl (fun v4 _ hf => ?_)
  refine x_aload_n C dX7_gain_11 (pc' := 12) rfl rfl rfl ?_
  refine x_getR C (ci := 7) (kf := 1) rfl (by decide) hinX7_gain_X7 lkX7_gain_0 rfl hf dX7_gain_12 (pc' := 15) rfl (fun v5 _ hf => ?_)
  refine x_iload_n C dX7_gain_15 (pc' := 16) rfl rfl rfl ?_
  refine x_aload_n C dX7_gain_16 (pc' := 17) rfl rfl rfl ?_
  refine x_iload_n C dX7_gain_17 (pc' := 18) rfl rfl rfl ?_
  obtain ⟨r6, h7, hq, hf⟩ := call_some hf
  obtain ⟨hob, hq⟩ := oK_some hq
  refine x_callV C (As := [vI i1]) (st := [vI i2, vR v5, vI v4]) (r := (some (vI r6))) (h' := h7) (mc := 0) (ms := 0) (k := 0) (n := 0) (mX7_overlaps hq) hob (ci := 7) rfl (cwV 1 C.1.2.2.2.2 gX7_gain_X7_overlaps rfl rfl rfl (by decide +kernel) ⟨Nat.le_of_ble_eq_true rfl, Nat.le_of_ble_eq_true rfl⟩) rfl rfl (Nat.le_of_ble_eq_true rfl) dX7_gain_18 (pc' := 21) rfl ?_
  refine x_idiv C hf dX7_gain_21 (pc' := 22) rfl (fun _ v8 _ hf => ?_)
  refine x_baloadB C hf dX7_gain_22 (pc' := 23) rfl (fun v9 _ hf => ?_)
  refine x_isub C dX7_gain_23 (pc' := 24) rfl ?_
  cases hf
  exact x_iret C hr hlk dX7_gain_24
-- ===== X7_keeps
theorem lkX7_keeps_0 : Cond.fieldLink RX7 77 "MossRingsModel" "pot" "[I" ∈ wsX7_keeps := by decide +kernel
theorem hinX7_keeps_X7 : ∀ w ∈ u_ws RX7 TX7 27, w ∈ wsX7_keeps := by decide +kernel
theorem lkX7_keeps_1 : Cond.fieldLink RX7 17 "MossRingsModel" "widths" "[I" ∈ wsX7_keeps := by decide +kernel
theorem lkX7_keeps_2 : Cond.fieldLink RX7 80 "MossRingsModel" "thrown" "I" ∈ wsX7_keeps := by decide +kernel
theorem lkX7_keeps_3 : Cond.fieldLink RX7 91 "MossRingsModel" "size" "I" ∈ wsX7_keeps := by decide +kernel
theorem lkX7_keeps_4 : Cond.fieldLink RX7 13 "MossRingsModel" "states" "[I" ∈ wsX7_keeps := by decide +kernel
def fX7_keeps_w152 : Nat → Nat → Int32 → Int32 → Int32 → Int32 → Hp → Option (Int32 × Hp)
  | 0 => fun _ _ _ _ _ _ => none
  | n + 1 => fun a0 i1 i2 i3 i4 h => if (i2 * i3) ≤ i4 then (some ((1 : Int32), h)) else ((gR h a0 7 26).bind fun v1 => iDiv i4 i2 fun v2 => (aI h v1 0 v2).bind fun v3 => call (oK h a0 7 (fX7_gain h a0 i1 i4)) fun r4 h5 => (gR h5 a0 7 26).bind fun v6 => iRem i4 i3 fun v7 => (aI h5 v6 0 v7).bind fun v8 => if (v3 + r4) = v8 then ((fX7_keeps_w152 n) a0 i1 i2 i3 (i4 + 1) h5) else (some ((0 : Int32), h5)))
set_option maxHeartbeats 4000000 in
set_option maxRecDepth 100000 in
theorem mX7_keeps_w152 {g : XG} {p : Program} {l : Launch} {e : Env} {s : State} {m : MethodId} {args : Array Value} {below : List Frame} {meth : Method} {c : Code} (C : x_C g p s m args c cX7_keeps RX7 8 wsX7_keeps) (hr : meth.sig.returnType = (some .int)) (hlk : meth.locks = false) (hnm : meth.name = yX7_keeps.name) {res : Int32 × Hp} : ∀ (n : Nat) (a0 : Nat) (i1 : Int32) (i2 : Int32) (i3 : Int32) (i4 : Int32) (h : Hp), fX7_keeps_w152 n a0 i1 i2 i3 i4 h = some res → XW g p l e { frames := 3, cells := 0, slots := 0, locals := 67 } s m args below meth c (MQ below (x_Q g (some (vI res.1)) res.2) args s 0 0 (x_A g)) 8 0 0 h 152 [some (vR a0), some (vI i1), some (vI i2), some (vI i3), some (vI i4), none, none, none] [] := by
  intro n
  induction n with
  | zero =>
    intro a0 i1 i2 i3 i4 h hf
    have hf2 : (none : Option (Int32 × Hp)) = some res := hf
    cases hf2
  | succ n ih =>
    intro a0 i1 i2 i3 i4 h hf
    rw [fX7_keeps_w152] at hf
    refine x_iload C dX7_keeps_152 (pc' := 154) rfl rfl ?_
    refine x_iload_n C dX7_keeps_154 (pc' := 155) rfl rfl rfl ?_
    refine x_iload_n C dX7_keeps_155 (pc' := 156) rfl rfl rfl ?_
    refine x_imul C dX7_keeps_156 (pc' := 157) rfl ?_
    refine x_icmp_ge C hf dX7_keeps_157 (pc' := 160) rfl (tgt := 197) (by decide) (fun _ hf => ?_) (fun _ hf => ?_)
    ·
      refine x_iconst C (v := 1) (by decide) dX7_keeps_197 (pc' := 198) rfl ?_
      cases hf
      exact x_iret C hr hlk dX7_keeps_198
    ·
      refine x_aload_n C dX7_keeps_160 (pc' := 161) rfl rfl rfl ?_
      refine x_getR C (ci := 7) (kf := 26) rfl (by decide) hinX7_keeps_X7 lkX7_keeps_0 rfl hf dX7_keeps_161 (pc' := 164) rfl (fun v1 _ hf => ?_)
      refine x_iload C dX7_keeps_164 (pc' := 166) rfl rfl ?_
      refine x_iload_n C dX7_keeps_166 (pc' := 167) rfl rfl rfl ?_
      refine x_idiv C hf dX7_keeps_167 (pc' := 168) rfl (fun _ v2 _ hf => ?_)
      refine x_iaload C hf dX7_keeps_168 (pc' := 169) rfl (fun v3 _ hf => ?_)
      refine x_aload_n C dX7_keeps_169 (pc' := 170) rfl rfl rfl ?_
      refine x_iload_n C dX7_keeps_170 (pc' := 171) rfl rfl rfl ?_
      refine x_iload C dX7_keeps_171 (pc' := 173) rfl rfl ?_
      obtain ⟨r4, h5, hq, hf⟩ := call_some hf
      obtain ⟨hob, hq⟩ := oK_some hq
      refine x_callV C (As := [vI i1, vI i4]) (st := [vI v3]) (r := (some (vI r4))) (h' := h5) (mc := 0) (ms := 0) (k := 0) (n := 0) (mX7_gain hq) hob (ci := 7) rfl (cwV 2 C.1.2.2.2.2 gX7_keeps_X7_gain rfl rfl rfl (by decide +kernel) ⟨Nat.le_of_ble_eq_true rfl, Nat.le_of_ble_eq_true rfl⟩) rfl rfl (Nat.le_of_ble_eq_true rfl) dX7_keeps_173 (pc' := 176) rfl ?_
      refine x_iadd C dX7_keeps_176 (pc' := 177) rfl ?_
      refine x_aload_n C dX7_keeps_177 (pc' := 178) rfl rfl rfl ?_
      refine x_getR C (ci := 7) (kf := 26) rfl (by decide) hinX7_keeps_X7 lkX7_keeps_0 rfl hf dX7_keeps_178 (pc' := 181) rfl (fun v6 _ hf => ?_)
      refine x_iload C dX7_keeps_181 (pc' := 183) rfl rfl ?_
      refine x_iload_n C dX7_keeps_183 (pc' := 184) rfl rfl rfl ?_
      refine x_irem C hf dX7_keeps_184 (pc' := 185) rfl (fun _ v7 _ hf => ?_)
      refine x_iaload C hf dX7_keeps_185 (pc' := 186) rfl (fun v8 _ hf => ?_)
      refine x_icmp_eq C hf dX7_keeps_186 (pc' := 189) rfl (tgt := 191) (by decide) (fun _ hf => ?_) (fun _ hf => ?_)
      ·
        refine x_iinc C dX7_keeps_191 (pc' := 194) rfl rfl (v := (i4 + 1)) rfl (by decide) rfl (lv' := [some (vR a0), some (vI i1), some (vI i2), some (vI i3), some (vI (i4 + 1)), none, none, none]) rfl ?_
        refine x_goto C dX7_keeps_194 (tgt := 152) (by decide) ?_
        exact ih a0 i1 i2 i3 (i4 + 1) h5 hf
      ·
        refine x_iconst C (v := 0) (by decide) dX7_keeps_189 (pc' := 190) rfl ?_
        cases hf
        exact x_iret C hr hlk dX7_keeps_190
def fX7_keeps_b138 (a0 : Nat) (i1 : Int32) (i2 : Int32) (i3 : Int32) (h : Hp) : Option (Int32 × Hp) := call (oK h a0 7 (fX7_gain h a0 i1 (0 : Int32))) fun r1 h2 => if r1 = 0 then (fX7_keeps_w152 FUEL a0 i1 i2 i3 (0 : Int32) h2) else (some ((0 : Int32), h2))
set_option maxHeartbeats 4000000 in
set_option maxRecDepth 100000 in
theorem mX7_keeps_b138 {g : XG} {p : Program} {l : Launch} {e : Env} {s : State} {m : MethodId} {args : Array Value} {below : List Frame} {meth : Method} {c : Code} (C : x_C g p s m args c cX7_keeps RX7 8 wsX7_keeps) (hr : meth.sig.returnType = (some .int)) (hlk : meth.locks = false) (hnm : meth.name = yX7_keeps.name) {res : Int32 × Hp} (a0 : Nat) (i1 : Int32) (i2 : Int32) (i3 : Int32) (h : Hp) (hf : fX7_keeps_b138 a0 i1 i2 i3 h = some res) : XW g p l e { frames := 3, cells := 0, slots := 0, locals := 67 } s m args below meth c (MQ below (x_Q g (some (vI res.1)) res.2) args s 0 0 (x_A g)) 8 0 0 h 138 [some (vR a0), some (vI i1), some (vI i2), some (vI i3), none, none, none, none] [] := by
  unfold fX7_keeps_b138 at hf
  refine x_aload_n C dX7_keeps_138 (pc' := 139) rfl rfl rfl ?_
  refine x_iload_n C dX7_keeps_139 (pc' := 140) rfl rfl rfl ?_
  refine x_iconst C (v := 0) (by decide) dX7_keeps_140 (pc' := 141) rfl ?_
  obtain ⟨r1, h2, hq, hf⟩ := call_some hf
  obtain ⟨hob, hq⟩ := oK_some hq
  refine x_callV C (As := [vI i1, vI (0 : Int32)]) (st := []) (r := (some (vI r1))) (h' := h2) (mc := 0) (ms := 0) (k := 0) (n := 0) (mX7_gain hq) hob (ci := 7) rfl (cwV 2 C.1.2.2.2.2 gX7_keeps_X7_gain rfl rfl rfl (by decide +kernel) ⟨Nat.le_of_ble_eq_true rfl, Nat.le_of_ble_eq_true rfl⟩) rfl rfl (Nat.le_of_ble_eq_true rfl) dX7_keeps_141 (pc' := 144) rfl ?_
  refine x_if_eq C hf dX7_keeps_144 (pc' := 147) rfl (tgt := 149) (by decide) (fun _ hf => ?_) (fun _ hf => ?_)
  ·
    refine x_iconst C (v := 0) (by decide) dX7_keeps_149 (pc' := 150) rfl ?_
    refine x_istore C dX7_keeps_150 (pc' := 152) rfl (by decide) rfl (lv' := [some (vR a0), some (vI i1), some (vI i2), some (vI i3), some (vI (0 : Int32)), none, none, none]) rfl ?_
    refine x_more (k' := 0) (n' := 0) (Nat.le_of_ble_eq_true rfl) (Nat.le_of_ble_eq_true rfl) ?_
    exact mX7_keeps_w152 C hr hlk hnm FUEL a0 i1 i2 i3 (0 : Int32) h2 hf
  ·
    refine x_iconst C (v := 0) (by decide) dX7_keeps_147 (pc' := 148) rfl ?_
    cases hf
    exact x_iret C hr hlk dX7_keeps_148
def fX7_keeps_b132 (w48 : Nat → Int32 → Int32 → Int32 → Int32 → Hp → Option (Int32 × Hp)) (a0 : Nat) (i1 : Int32) (i2 : Int32) (i3 : Int32) (i4 : Int32) (h : Hp) : Option (Int32 × Hp) := w48 a0 i1 i2 i3 (i4 + 1) h
set_option maxHeartbeats 4000000 in
set_option maxRecDepth 100000 in
theorem mX7_keeps_b132 {g : XG} {p : Program} {l : Launch} {e : Env} {s : State} {m : MethodId} {args : Array Value} {below : List Frame} {meth : Method} {c : Code} (C : x_C g p s m args c cX7_keeps RX7 8 wsX7_keeps) (hr : meth.sig.returnType = (some .int)) (hlk : meth.locks = false) (hnm : meth.name = yX7_keeps.name) {res : Int32 × Hp} (w48 : Nat → Int32 → Int32 → Int32 → Int32 → Hp → Option (Int32 × Hp)) (hw48 : ∀ (a0 : Nat) (i1 : Int32) (i2 : Int32) (i3 : Int32) (i4 : Int32) (h : Hp), w48 a0 i1 i2 i3 i4 h = some res → XW g p l e { frames := 3, cells := 0, slots := 0, locals := 67 } s m args below meth c (MQ below (x_Q g (some (vI res.1)) res.2) args s 0 0 (x_A g)) 8 0 0 h 48 [some (vR a0), some (vI i1), some (vI i2), some (vI i3), some (vI i4), none, none, none] []) (a0 : Nat) (i1 : Int32) (i2 : Int32) (i3 : Int32) (i4 : Int32) (h : Hp) (hf : fX7_keeps_b132 w48 a0 i1 i2 i3 i4 h = some res) : XW g p l e { frames := 3, cells := 0, slots := 0, locals := 67 } s m args below meth c (MQ below (x_Q g (some (vI res.1)) res.2) args s 0 0 (x_A g)) 8 0 0 h 132 [some (vR a0), some (vI i1), some (vI i2), some (vI i3), some (vI i4), none, none, none] [] := by
  unfold fX7_keeps_b132 at hf
  refine x_iinc C dX7_keeps_132 (pc' := 135) rfl rfl (v := (i4 + 1)) rfl (by decide) rfl (lv' := [some (vR a0), some (vI i1), some (vI i2), some (vI i3), some (vI (i4 + 1)), none, none, none]) rfl ?_
  refine x_goto C dX7_keeps_135 (tgt := 48) (by decide) ?_
  exact hw48 a0 i1 i2 i3 (i4 + 1) h hf
def fX7_keeps_w75 (w48 : Nat → Int32 → Int32 → Int32 → Int32 → Hp → Option (Int32 × Hp)) : Nat → Nat → Int32 → Int32 → Int32 → Int32 → Int32 → Int32 → Hp → Option (Int32 × Hp)
  | 0 => fun _ _ _ _ _ _ _ _ => none
  | n + 1 => fun a0 i1 i2 i3 i4 i5 i6 h => if i6 < 0 then (fX7_keeps_b132 w48 a0 i1 i2 i3 i4 h) else (call (fX7_power h i2 i6) fun r1 h2 => iDiv i4 r1 fun v3 => iRem v3 i2 fun v4 => (gR h2 a0 7 26).bind fun v5 => (aI h2 v5 0 i4).bind fun v6 => call (oK h2 a0 7 (fX7_gain h2 a0 i1 ((i2 * i5) + v4))) fun r7 h8 => (sI h8 v5 0 i4 (v6 + r7)).bind fun h9 => call (oK h9 a0 7 (fX7_then h9 a0 i1 i5 v4)) fun r10 h11 => (fX7_keeps_w75 w48 n) a0 i1 i2 i3 i4 r10 (i6 + (-1)) h11)
set_option maxHeartbeats 4000000 in
set_option maxRecDepth 100000 in
theorem mX7_keeps_w75 {g : XG} {p : Program} {l : Launch} {e : Env} {s : State} {m : MethodId} {args : Array Value} {below : List Frame} {meth : Method} {c : Code} (C : x_C g p s m args c cX7_keeps RX7 8 wsX7_keeps) (hr : meth.sig.returnType = (some .int)) (hlk : meth.locks = false) (hnm : meth.name = yX7_keeps.name) {res : Int32 × Hp} (w48 : Nat → Int32 → Int32 → Int32 → Int32 → Hp → Option (Int32 × Hp)) (hw48 : ∀ (a0 : Nat) (i1 : Int32) (i2 : Int32) (i3 : Int32) (i4 : Int32) (h : Hp), w48 a0 i1 i2 i3 i4 h = some res → XW g p l e { frames := 3, cells := 0, slots := 0, locals := 67 } s m args below meth c (MQ below (x_Q g (some (vI res.1)) res.2) args s 0 0 (x_A g)) 8 0 0 h 48 [some (vR a0), some (vI i1), some (vI i2), some (vI i3), some (vI i4), none, none, none] []) : ∀ (n : Nat) (a0 : Nat) (i1 : Int32) (i2 : Int32) (i3 : Int32) (i4 : Int32) (i5 : Int32) (i6 : Int32) (h : Hp), fX7_keeps_w75 w48 n a0 i1 i2 i3 i4 i5 i6 h = some res → XW g p l e { frames := 3, cells := 0, slots := 0, locals := 67 } s m args below meth c (MQ below (x_Q g (some (vI res.1)) res.2) args s 0 0 (x_A g)) 8 0 0 h 75 [some (vR a0), some (vI i1), some (vI i2), some (vI i3), some (vI i4), some (vI i5), some (vI i6), none] [] := by
  intro n
  induction n with
  | zero =>
    intro a0 i1 i2 i3 i4 i5 i6 h hf
    have hf2 : (none : Option (Int32 × Hp)) = some res := hf
    cases hf2
  | succ n ih =>
    intro a0 i1 i2 i3 i4 i5 i6 h hf
    rw [fX7_keeps_w75] at hf
    refine x_iload C dX7_keeps_75 (pc' := 77) rfl rfl ?_
    refine x_if_lt C hf dX7_keeps_77 (pc' := 80) rfl (tgt := 132) (by decide) (fun _ hf => ?_) (fun _ hf => ?_)
    ·
      refine x_keep [true, true, true, true, true, false, false, false] rfl ?_
      refine x_more (k' := 0) (n' := 0) (Nat.le_of_ble_eq_true rfl) (Nat.le_of_ble_eq_true rfl) ?_
      exact mX7_keeps_b132 C hr hlk hnm w48 hw48 a0 i1 i2 i3 i4 h hf
    ·
      refine x_iload C dX7_keeps_80 (pc' := 82) rfl rfl ?_
      refine x_iload_n C dX7_keeps_82 (pc' := 83) rfl rfl rfl ?_
      refine x_iload C dX7_keeps_83 (pc' := 85) rfl rfl ?_
      obtain ⟨r1, h2, hq, hf⟩ := call_some hf
      refine x_callS C (As := [vI i2, vI i6]) (st := [vI i4]) (r := (some (vI r1))) (h' := h2) (mc := 0) (ms := 0) (k := 0) (n := 0) (mX7_power hq) (va_cwS 2 C.1.2.2.2.2 gX7_keeps_X7_power rfl rfl rfl (by decide +kernel) ⟨Nat.le_of_ble_eq_true rfl, Nat.le_of_ble_eq_true rfl⟩) rfl rfl (Nat.le_of_ble_eq_true rfl) dX7_keeps_85 (pc' := 88) rfl ?_
      refine x_idiv C hf dX7_keeps_88 (pc' := 89) rfl (fun _ v3 _ hf => ?_)
      refine x_iload_n C dX7_keeps_89 (pc' := 90) rfl rfl rfl ?_
      refine x_irem C hf dX7_keeps_90 (pc' := 91) rfl (fun _ v4 _ hf => ?_)
      refine x_istore C dX7_keeps_91 (pc' := 93) rfl (by decide) rfl (lv' := [some (vR a0), some (vI i1), some (vI i2), some (vI i3), some (vI i4), some (vI i5), some (vI i6), some (vI v4)]) rfl ?_
      refine x_aload_n C dX7_keeps_93 (pc' := 94) rfl rfl rfl ?_
      refine x_getR C (ci := 7) (kf := 26) rfl (by decide) hinX7_keeps_X7 lkX7_keeps_0 rfl hf dX7_keeps_94 (pc' := 97) rfl (fun v5 _ hf => ?_)
      refine x_iload C dX7_keeps_97 (pc' := 99) rfl rfl ?_
      refine x_dup2 C rfl rfl dX7_keeps_99 (pc' := 100) rfl ?_
      refine x_iaload C hf dX7_keeps_100 (pc' := 101) rfl (fun v6 _ hf => ?_)
      refine x_aload_n C dX7_keeps_101 (pc' := 102) rfl rfl rfl ?_
      refine x_iload_n C dX7_keeps_102 (pc' := 103) rfl rfl rfl ?_
      refine x_iload_n C dX7_keeps_103 (pc' := 104) rfl rfl rfl ?_
      refine x_iload C dX7_keeps_104 (pc' := 106) rfl rfl ?_
      refine x_imul C dX7_keeps_106 (pc' := 107) rfl ?_
      refine x_iload C dX7_keeps_107 (pc' := 109) rfl rfl ?_
      refine x_iadd C dX7_keeps_109 (pc' := 110) rfl ?_
      obtain ⟨r7, h8, hq, hf⟩ := call_some hf
      obtain ⟨hob, hq⟩ := oK_some hq
      refine x_callV C (As := [vI i1, vI ((i2 * i5) + v4)]) (st := [vI v6, vI i4, vR v5]) (r := (some (vI r7))) (h' := h8) (mc := 0) (ms := 0) (k := 0) (n := 0) (mX7_gain hq) hob (ci := 7) rfl (cwV 2 C.1.2.2.2.2 gX7_keeps_X7_gain rfl rfl rfl (by decide +kernel) ⟨Nat.le_of_ble_eq_true rfl, Nat.le_of_ble_eq_true rfl⟩) rfl rfl (Nat.le_of_ble_eq_true rfl) dX7_keeps_110 (pc' := 113) rfl ?_
      refine x_iadd C dX7_keeps_113 (pc' := 114) rfl ?_
      refine x_iastore C hf dX7_keeps_114 (pc' := 115) rfl (fun h9 _ hf => ?_)
      refine x_aload_n C dX7_keeps_115 (pc' := 116) rfl rfl rfl ?_
      refine x_iload_n C dX7_keeps_116 (pc' := 117) rfl rfl rfl ?_
      refine x_iload C dX7_keeps_117 (pc' := 119) rfl rfl ?_
      refine x_iload C dX7_keeps_119 (pc' := 121) rfl rfl ?_
      obtain ⟨r10, h11, hq, hf⟩ := call_some hf
      obtain ⟨hob, hq⟩ := oK_some hq
      refine x_callV C (As := [vI i1, vI i5, vI v4]) (st := []) (r := (some (vI r10))) (h' := h11) (mc := 0) (ms := 0) (k := 0) (n := 0) (mX7_then hq) hob (ci := 7) rfl (cwV 3 C.1.2.2.2.2 gX7_keeps_X7_then rfl rfl rfl (by decide +kernel) ⟨Nat.le_of_ble_eq_true rfl, Nat.le_of_ble_eq_true rfl⟩) rfl rfl (Nat.le_of_ble_eq_true rfl) dX7_keeps_121 (pc' := 124) rfl ?_
      refine x_istore C dX7_keeps_124 (pc' := 126) rfl (by decide) rfl (lv' := [some (vR a0), some (vI i1), some (vI i2), some (vI i3), some (vI i4), some (vI r10), some (vI i6), some (vI v4)]) rfl ?_
      refine x_iinc C dX7_keeps_126 (pc' := 129) rfl rfl (v := (i6 + (-1))) rfl (by decide) rfl (lv' := [some (vR a0), some (vI i1), some (vI i2), some (vI i3), some (vI i4), some (vI r10), some (vI (i6 + (-1))), some (vI v4)]) rfl ?_
      refine x_goto C dX7_keeps_129 (tgt := 75) (by decide) ?_
      refine x_keep [true, true, true, true, true, true, true, false] rfl ?_
      exact ih a0 i1 i2 i3 i4 r10 (i6 + (-1)) h11 hf
def fX7_keeps_w48 : Nat → Nat → Int32 → Int32 → Int32 → Int32 → Hp → Option (Int32 × Hp)
  | 0 => fun _ _ _ _ _ _ => none
  | n + 1 => fun a0 i1 i2 i3 i4 h => if i3 ≤ i4 then (fX7_keeps_b138 a0 i1 i2 i3 h) else ((gR h a0 7 26).bind fun v1 => (sI h v1 0 i4 (0 : Int32)).bind fun h2 => (gR h2 a0 7 5).bind fun v3 => (aI h2 v3 0 i1).bind fun v4 => setv ((v4 - (2 : Int32))) fun v5 => fX7_keeps_w75 (fX7_keeps_w48 n) FUEL a0 i1 i2 i3 i4 (0 : Int32) v5 h2)
set_option maxHeartbeats 4000000 in
set_option maxRecDepth 100000 in
theorem mX7_keeps_w48 {g : XG} {p : Program} {l : Launch} {e : Env} {s : State} {m : MethodId} {args : Array Value} {below : List Frame} {meth : Method} {c : Code} (C : x_C g p s m args c cX7_keeps RX7 8 wsX7_keeps) (hr : meth.sig.returnType = (some .int)) (hlk : meth.locks = false) (hnm : meth.name = yX7_keeps.name) {res : Int32 × Hp} : ∀ (n : Nat) (a0 : Nat) (i1 : Int32) (i2 : Int32) (i3 : Int32) (i4 : Int32) (h : Hp), fX7_keeps_w48 n a0 i1 i2 i3 i4 h = some res → XW g p l e { frames := 3, cells := 0, slots := 0, locals := 67 } s m args below meth c (MQ below (x_Q g (some (vI res.1)) res.2) args s 0 0 (x_A g)) 8 0 0 h 48 [some (vR a0), some (vI i1), some (vI i2), some (vI i3), some (vI i4), none, none, none] [] := by
  intro n
  induction n with
  | zero =>
    intro a0 i1 i2 i3 i4 h hf
    have hf2 : (none : Option (Int32 × Hp)) = some res := hf
    cases hf2
  | succ n ih =>
    intro a0 i1 i2 i3 i4 h hf
    rw [fX7_keeps_w48] at hf
    refine x_iload C dX7_keeps_48 (pc' := 50) rfl rfl ?_
    refine x_iload_n C dX7_keeps_50 (pc' := 51) rfl rfl rfl ?_
    refine x_icmp_ge C hf dX7_keeps_51 (pc' := 54) rfl (tgt := 138) (by decide) (fun _ hf => ?_) (fun _ hf => ?_)
    ·
      refine x_keep [true, true, true, true, false, false, false, false] rfl ?_
      refine x_more (k' := 0) (n' := 0) (Nat.le_of_ble_eq_true rfl) (Nat.le_of_ble_eq_true rfl) ?_
      exact mX7_keeps_b138 C hr hlk hnm a0 i1 i2 i3 h hf
    ·
      refine x_iconst C (v := 0) (by decide) dX7_keeps_54 (pc' := 55) rfl ?_
      refine x_istore C dX7_keeps_55 (pc' := 57) rfl (by decide) rfl (lv' := [some (vR a0), some (vI i1), some (vI i2), some (vI i3), some (vI i4), some (vI (0 : Int32)), none, none]) rfl ?_
      refine x_aload_n C dX7_keeps_57 (pc' := 58) rfl rfl rfl ?_
      refine x_getR C (ci := 7) (kf := 26) rfl (by decide) hinX7_keeps_X7 lkX7_keeps_0 rfl hf dX7_keeps_58 (pc' := 61) rfl (fun v1 _ hf => ?_)
      refine x_iload C dX7_keeps_61 (pc' := 63) rfl rfl ?_
      refine x_iconst C (v := 0) (by decide) dX7_keeps_63 (pc' := 64) rfl ?_
      refine x_iastore C hf dX7_keeps_64 (pc' := 65) rfl (fun h2 _ hf => ?_)
      refine x_aload_n C dX7_keeps_65 (pc' := 66) rfl rfl rfl ?_
      refine x_getR C (ci := 7) (kf := 5) rfl (by decide) hinX7_keeps_X7 lkX7_keeps_1 rfl hf dX7_keeps_66 (pc' := 69) rfl (fun v3 _ hf => ?_)
      refine x_iload_n C dX7_keeps_69 (pc' := 70) rfl rfl rfl ?_
      refine x_iaload C hf dX7_keeps_70 (pc' := 71) rfl (fun v4 _ hf => ?_)
      refine x_iconst C (v := 2) (by decide) dX7_keeps_71 (pc' := 72) rfl ?_
      refine x_isub C dX7_keeps_72 (pc' := 73) rfl ?_
      refine x_nameI hf (fun v5 _ hf => ?_)
      refine x_istore C dX7_keeps_73 (pc' := 75) rfl (by decide) rfl (lv' := [some (vR a0), some (vI i1), some (vI i2), some (vI i3), some (vI i4), some (vI (0 : Int32)), some (vI v5), none]) rfl ?_
      refine x_more (k' := 0) (n' := 0) (Nat.le_of_ble_eq_true rfl) (Nat.le_of_ble_eq_true rfl) ?_
      exact mX7_keeps_w75 C hr hlk hnm (fX7_keeps_w48 n) ih FUEL a0 i1 i2 i3 i4 (0 : Int32) v5 h2 hf
def fX7_keeps (h : Hp) (a0 : Nat) (i1 : Int32) : Option (Int32 × Hp) := (pF h a0 7 0 (vI (0 : Int32))).bind fun h1 => (oK h1 a0 7 (fX7_taken h1 a0)).bind fun h3 => call (oK h3 a0 7 (fX7_has h3 a0 i1)) fun r4 h5 => if r4 = 0 then (some ((-1 : Int32), h5)) else ((gI h5 a0 7 3).bind fun v6 => (gR h5 a0 7 4).bind fun v7 => (aI h5 v7 0 i1).bind fun v8 => if v6 = v8 then ((gR h5 a0 7 4).bind fun v9 => (aI h5 v9 0 i1).bind fun v10 => call (oK h5 a0 7 (fX7_overlaps h5 a0 i1)) fun r11 h12 => fX7_keeps_w48 FUEL a0 i1 v10 r11 (0 : Int32) h12) else (some ((-1 : Int32), h5)))
set_option maxHeartbeats 4000000 in
set_option maxRecDepth 100000 in
theorem mX7_keeps {l : Launch} {g : XG} {h : Hp} {a0 : Nat} {i1 : Int32} {res : Int32 × Hp} (hf : fX7_keeps h a0 i1 = some res) : XM l g yX7_keeps wsX7_keeps 3 67 0 0 [vR a0, vI i1] h (some (vI res.1)) res.2 := by
  refine x_start (cc := cX7_keeps) (maxL := 8) (ret := (some .int)) (by decide) rfl (Nat.le_of_ble_eq_true rfl) (lv := [some (vR a0), some (vI i1), none, none, none, none, none, none]) rfl ?_
  intro p e s m args below meth c C hr hlk hnm
  unfold fX7_keeps at hf
  refine x_aload_n C dX7_keeps_0 (pc' := 1) rfl rfl rfl ?_
  refine x_iconst C (v := 0) (by decide) dX7_keeps_1 (pc' := 2) rfl ?_
  refine x_put C (ci := 7) (kf := 0) rfl (by decide) hinX7_keeps_X7 tyX7 tyX7_ok nmX7 lkX7_keeps_2 rfl (Or.inl rfl) rfl hf dX7_keeps_2 (pc' := 5) rfl (fun h1 _ hf => ?_)
  refine x_aload_n C dX7_keeps_5 (pc' := 6) rfl rfl rfl ?_
  obtain ⟨h3, hq, hf⟩ := bind_some hf
  obtain ⟨hob, hq⟩ := oK_some hq
  refine x_callV C (As := []) (st := []) (r := none) (h' := h3) (mc := 0) (ms := 0) (k := 0) (n := 0) (mX7_taken hq) hob (ci := 7) rfl (cwV 0 C.1.2.2.2.2 gX7_keeps_X7_taken rfl rfl rfl (by decide +kernel) ⟨Nat.le_of_ble_eq_true rfl, Nat.le_of_ble_eq_true rfl⟩) rfl rfl (Nat.le_of_ble_eq_true rfl) dX7_keeps_6 (pc' := 9) rfl ?_
  refine x_aload_n C dX7_keeps_9 (pc' := 10) rfl rfl rfl ?_
  refine x_iload_n C dX7_keeps_10 (pc' := 11) rfl rfl rfl ?_
  obtain ⟨r4, h5, hq, hf⟩ := call_some hf
  obtain ⟨hob, hq⟩ := oK_some hq
  refine x_callV C (As := [vI i1]) (st := []) (r := (some (vI r4))) (h' := h5) (mc := 0) (ms := 0) (k := 0) (n := 0) (mX7_has hq) hob (ci := 7) rfl (cwV 1 C.1.2.2.2.2 gX7_keeps_X7_has rfl rfl rfl (by decide +kernel) ⟨Nat.le_of_ble_eq_true rfl, Nat.le_of_ble_eq_true rfl⟩) rfl rfl (Nat.le_of_ble_eq_true rfl) dX7_keeps_11 (pc' := 14) rfl ?_
  refine x_if_eq C hf dX7_keeps_14 (pc' := 17) rfl (tgt := 30) (by decide) (fun _ hf => ?_) (fun _ hf => ?_)
  ·
    refine x_iconst C (v := -1) (by decide) dX7_keeps_30 (pc' := 31) rfl ?_
    cases hf
    exact x_iret C hr hlk dX7_keeps_31
  ·
    refine x_aload_n C dX7_keeps_17 (pc' := 18) rfl rfl rfl ?_
    refine x_getI C (ci := 7) (kf := 3) rfl (by decide) hinX7_keeps_X7 lkX7_keeps_3 rfl hf dX7_keeps_18 (pc' := 21) rfl (fun v6 _ hf => ?_)
    refine x_aload_n C dX7_keeps_21 (pc' := 22) rfl rfl rfl ?_
    refine x_getR C (ci := 7) (kf := 4) rfl (by decide) hinX7_keeps_X7 lkX7_keeps_4 rfl hf dX7_keeps_22 (pc' := 25) rfl (fun v7 _ hf => ?_)
    refine x_iload_n C dX7_keeps_25 (pc' := 26) rfl rfl rfl ?_
    refine x_iaload C hf dX7_keeps_26 (pc' := 27) rfl (fun v8 _ hf => ?_)
    refine x_icmp_eq C hf dX7_keeps_27 (pc' := 30) rfl (tgt := 32) (by decide) (fun _ hf => ?_) (fun _ hf => ?_)
    ·
      refine x_aload_n C dX7_keeps_32 (pc' := 33) rfl rfl rfl ?_
      refine x_getR C (ci := 7) (kf := 4) rfl (by decide) hinX7_keeps_X7 lkX7_keeps_4 rfl hf dX7_keeps_33 (pc' := 36) rfl (fun v9 _ hf => ?_)
      refine x_iload_n C dX7_keeps_36 (pc' := 37) rfl rfl rfl ?_
      refine x_iaload C hf dX7_keeps_37 (pc' := 38) rfl (fun v10 _ hf => ?_)
      refine x_istore_n C dX7_keeps_38 (pc' := 39) rfl rfl (by decide) rfl (lv' := [some (vR a0), some (vI i1), some (vI v10), none, none, none, none, none]) rfl ?_
      refine x_aload_n C dX7_keeps_39 (pc' := 40) rfl rfl rfl ?_
      refine x_iload_n C dX7_keeps_40 (pc' := 41) rfl rfl rfl ?_
      obtain ⟨r11, h12, hq, hf⟩ := call_some hf
      obtain ⟨hob, hq⟩ := oK_some hq
      refine x_callV C (As := [vI i1]) (st := []) (r := (some (vI r11))) (h' := h12) (mc := 0) (ms := 0) (k := 0) (n := 0) (mX7_overlaps hq) hob (ci := 7) rfl (cwV 1 C.1.2.2.2.2 gX7_keeps_X7_overlaps rfl rfl rfl (by decide +kernel) ⟨Nat.le_of_ble_eq_true rfl, Nat.le_of_ble_eq_true rfl⟩) rfl rfl (Nat.le_of_ble_eq_true rfl) dX7_keeps_41 (pc' := 44) rfl ?_
      refine x_istore_n C dX7_keeps_44 (pc' := 45) rfl rfl (by decide) rfl (lv' := [some (vR a0), some (vI i1), some (vI v10), some (vI r11), none, none, none, none]) rfl ?_
      refine x_iconst C (v := 0) (by decide) dX7_keeps_45 (pc' := 46) rfl ?_
      refine x_istore C dX7_keeps_46 (pc' := 48) rfl (by decide) rfl (lv' := [some (vR a0), some (vI i1), some (vI v10), some (vI r11), some (vI (0 : Int32)), none, none, none]) rfl ?_
      refine x_more (k' := 0) (n' := 0) (Nat.le_of_ble_eq_true rfl) (Nat.le_of_ble_eq_true rfl) ?_
      exact mX7_keeps_w48 C hr hlk hnm FUEL a0 i1 v10 r11 (0 : Int32) h12 hf
    ·
      refine x_iconst C (v := -1) (by decide) dX7_keeps_30 (pc' := 31) rfl ?_
      cases hf
      exact x_iret C hr hlk dX7_keeps_31
-- ===== X7_join
theorem lkX7_join_0 : Cond.fieldLink RX7 20 "MossRingsModel" "table" "[I" ∈ wsX7_join := by decide +kernel
theorem hinX7_join_X7 : ∀ w ∈ u_ws RX7 TX7 27, w ∈ wsX7_join := by decide +kernel
theorem lkX7_join_1 : Cond.fieldLink RX7 17 "MossRingsModel" "widths" "[I" ∈ wsX7_join := by decide +kernel
theorem lkX7_join_2 : Cond.fieldLink RX7 80 "MossRingsModel" "thrown" "I" ∈ wsX7_join := by decide +kernel
theorem lkX7_join_3 : Cond.fieldLink RX7 13 "MossRingsModel" "states" "[I" ∈ wsX7_join := by decide +kernel
def fX7_join_b184 (a0 : Nat) (i3 : Int32) (i4 : Int32) (i6 : Int32) (h : Hp) : Option (Int32 × Hp) := (oK h a0 7 (fX7_lay h a0 i3 i4 i6)).bind fun h2 => some (i6, h2)
set_option maxHeartbeats 4000000 in
set_option maxRecDepth 100000 in
theorem mX7_join_b184 {g : XG} {p : Program} {l : Launch} {e : Env} {s : State} {m : MethodId} {args : Array Value} {below : List Frame} {meth : Method} {c : Code} (C : x_C g p s m args c cX7_join RX7 10 wsX7_join) (hr : meth.sig.returnType = (some .int)) (hlk : meth.locks = false) (hnm : meth.name = yX7_join.name) {res : Int32 × Hp} (a0 : Nat) (i3 : Int32) (i4 : Int32) (i6 : Int32) (h : Hp) (hf : fX7_join_b184 a0 i3 i4 i6 h = some res) : XW g p l e { frames := 2, cells := 0, slots := 0, locals := 47 } s m args below meth c (MQ below (x_Q g (some (vI res.1)) res.2) args s 0 0 (x_A g)) 10 0 0 h 184 [some (vR a0), none, none, some (vI i3), some (vI i4), none, some (vI i6), none, none, none] [] := by
  unfold fX7_join_b184 at hf
  refine x_aload_n C dX7_join_184 (pc' := 185) rfl rfl rfl ?_
  refine x_iload_n C dX7_join_185 (pc' := 186) rfl rfl rfl ?_
  refine x_iload C dX7_join_186 (pc' := 188) rfl rfl ?_
  refine x_iload C dX7_join_188 (pc' := 190) rfl rfl ?_
  obtain ⟨h2, hq, hf⟩ := bind_some hf
  obtain ⟨hob, hq⟩ := oK_some hq
  refine x_callV C (As := [vI i3, vI i4, vI i6]) (st := []) (r := none) (h' := h2) (mc := 0) (ms := 0) (k := 0) (n := 0) (mX7_lay hq) hob (ci := 7) rfl (cwV 3 C.1.2.2.2.2 gX7_join_X7_lay rfl rfl rfl (by decide +kernel) ⟨Nat.le_of_ble_eq_true rfl, Nat.le_of_ble_eq_true rfl⟩) rfl rfl (Nat.le_of_ble_eq_true rfl) dX7_join_190 (pc' := 193) rfl ?_
  refine x_iload C dX7_join_193 (pc' := 195) rfl rfl ?_
  cases hf
  exact x_iret C hr hlk dX7_join_195
def fX7_join_b160 (w89 : Nat → Int32 → Int32 → Int32 → Int32 → Int32 → Int32 → Int32 → Hp → Option (Int32 × Hp)) (a0 : Nat) (i1 : Int32) (i2 : Int32) (i3 : Int32) (i4 : Int32) (i5 : Int32) (i6 : Int32) (i7 : Int32) (i8 : Int32) (h : Hp) : Option (Int32 × Hp) := (gR h a0 7 6).bind fun v1 => call (oK h a0 7 (fX7_tells h a0 i2 i8)) fun r2 h3 => (sI h3 v1 0 ((162 : Int32) + i7) r2).bind fun h4 => w89 a0 i1 i2 i3 i4 i5 i6 (i7 + 1) h4
set_option maxHeartbeats 4000000 in
set_option maxRecDepth 100000 in
theorem mX7_join_b160 {g : XG} {p : Program} {l : Launch} {e : Env} {s : State} {m : MethodId} {args : Array Value} {below : List Frame} {meth : Method} {c : Code} (C : x_C g p s m args c cX7_join RX7 10 wsX7_join) (hr : meth.sig.returnType = (some .int)) (hlk : meth.locks = false) (hnm : meth.name = yX7_join.name) {res : Int32 × Hp} (w89 : Nat → Int32 → Int32 → Int32 → Int32 → Int32 → Int32 → Int32 → Hp → Option (Int32 × Hp)) (hw89 : ∀ (a0 : Nat) (i1 : Int32) (i2 : Int32) (i3 : Int32) (i4 : Int32) (i5 : Int32) (i6 : Int32) (i7 : Int32) (h : Hp), w89 a0 i1 i2 i3 i4 i5 i6 i7 h = some res → XW g p l e { frames := 2, cells := 0, slots := 0, locals := 47 } s m args below meth c (MQ below (x_Q g (some (vI res.1)) res.2) args s 0 0 (x_A g)) 10 0 0 h 89 [some (vR a0), some (vI i1), some (vI i2), some (vI i3), some (vI i4), some (vI i5), some (vI i6), some (vI i7), none, none] []) (a0 : Nat) (i1 : Int32) (i2 : Int32) (i3 : Int32) (i4 : Int32) (i5 : Int32) (i6 : Int32) (i7 : Int32) (i8 : Int32) (h : Hp) (hf : fX7_join_b160 w89 a0 i1 i2 i3 i4 i5 i6 i7 i8 h = some res) : XW g p l e { frames := 2, cells := 0, slots := 0, locals := 47 } s m args below meth c (MQ below (x_Q g (some (vI res.1)) res.2) args s 0 0 (x_A g)) 10 0 0 h 160 [some (vR a0), some (vI i1), some (vI i2), some (vI i3), some (vI i4), some (vI i5), some (vI i6), some (vI i7), some (vI i8), none] [] := by
  unfold fX7_join_b160 at hf
  refine x_aload_n C dX7_join_160 (pc' := 161) rfl rfl rfl ?_
  refine x_getR C (ci := 7) (kf := 6) rfl (by decide) hinX7_join_X7 lkX7_join_0 rfl hf dX7_join_161 (pc' := 164) rfl (fun v1 _ hf => ?_)
  refine x_sipush C (v := 162) (by decide) dX7_join_164 (pc' := 167) rfl ?_
  refine x_iload C dX7_join_167 (pc' := 169) rfl rfl ?_
  refine x_iadd C dX7_join_169 (pc' := 170) rfl ?_
  refine x_aload_n C dX7_join_170 (pc' := 171) rfl rfl rfl ?_
  refine x_iload_n C dX7_join_171 (pc' := 172) rfl rfl rfl ?_
  refine x_iload C dX7_join_172 (pc' := 174) rfl rfl ?_
  obtain ⟨r2, h3, hq, hf⟩ := call_some hf
  obtain ⟨hob, hq⟩ := oK_some hq
  refine x_callV C (As := [vI i2, vI i8]) (st := [vI ((162 : Int32) + i7), vR v1]) (r := (some (vI r2))) (h' := h3) (mc := 0) (ms := 0) (k := 0) (n := 0) (mX7_tells hq) hob (ci := 7) rfl (cwV 2 C.1.2.2.2.2 gX7_join_X7_tells rfl rfl rfl (by decide +kernel) ⟨Nat.le_of_ble_eq_true rfl, Nat.le_of_ble_eq_true rfl⟩) rfl rfl (Nat.le_of_ble_eq_true rfl) dX7_join_174 (pc' := 177) rfl ?_
  refine x_iastore C hf dX7_join_177 (pc' := 178) rfl (fun h4 _ hf => ?_)
  refine x_iinc C dX7_join_178 (pc' := 181) rfl rfl (v := (i7 + 1)) rfl (by decide) rfl (lv' := [some (vR a0), some (vI i1), some (vI i2), some (vI i3), some (vI i4), some (vI i5), some (vI i6), some (vI (i7 + 1)), some (vI i8), none]) rfl ?_
  refine x_goto C dX7_join_181 (tgt := 89) (by decide) ?_
  refine x_keep [true, true, true, true, true, true, true, true, false, false] rfl ?_
  exact hw89 a0 i1 i2 i3 i4 i5 i6 (i7 + 1) h4 hf
def fX7_join_w107 (w89 : Nat → Int32 → Int32 → Int32 → Int32 → Int32 → Int32 → Int32 → Hp → Option (Int32 × Hp)) : Nat → Nat → Int32 → Int32 → Int32 → Int32 → Int32 → Int32 → Int32 → Int32 → Int32 → Hp → Option (Int32 × Hp)
  | 0 => fun _ _ _ _ _ _ _ _ _ _ _ => none
  | n + 1 => fun a0 i1 i2 i3 i4 i5 i6 i7 i8 i9 h => if i5 ≤ i9 then (fX7_join_b160 w89 a0 i1 i2 i3 i4 i5 i6 i7 i8 h) else (call (fX7_power h i4 ((i5 - (1 : Int32)) - i9)) fun r1 h2 => iDiv i7 r1 fun v3 => (gR h2 a0 7 5).bind fun v4 => (aI h2 v4 0 i1).bind fun v5 => call (fX7_power h2 i4 v5) fun r6 h7 => iRem v3 r6 fun v8 => call (oK h7 a0 7 (fX7_tells h7 a0 i1 v8)) fun r9 h10 => setv (((i4 * i8) + r9)) fun v11 => (fX7_join_w107 w89 n) a0 i1 i2 i3 i4 i5 i6 i7 v11 (i9 + 1) h10)
set_option maxHeartbeats 4000000 in
set_option maxRecDepth 100000 in
theorem mX7_join_w107 {g : XG} {p : Program} {l : Launch} {e : Env} {s : State} {m : MethodId} {args : Array Value} {below : List Frame} {meth : Method} {c : Code} (C : x_C g p s m args c cX7_join RX7 10 wsX7_join) (hr : meth.sig.returnType = (some .int)) (hlk : meth.locks = false) (hnm : meth.name = yX7_join.name) {res : Int32 × Hp} (w89 : Nat → Int32 → Int32 → Int32 → Int32 → Int32 → Int32 → Int32 → Hp → Option (Int32 × Hp)) (hw89 : ∀ (a0 : Nat) (i1 : Int32) (i2 : Int32) (i3 : Int32) (i4 : Int32) (i5 : Int32) (i6 : Int32) (i7 : Int32) (h : Hp), w89 a0 i1 i2 i3 i4 i5 i6 i7 h = some res → XW g p l e { frames := 2, cells := 0, slots := 0, locals := 47 } s m args below meth c (MQ below (x_Q g (some (vI res.1)) res.2) args s 0 0 (x_A g)) 10 0 0 h 89 [some (vR a0), some (vI i1), some (vI i2), some (vI i3), some (vI i4), some (vI i5), some (vI i6), some (vI i7), none, none] []) : ∀ (n : Nat) (a0 : Nat) (i1 : Int32) (i2 : Int32) (i3 : Int32) (i4 : Int32) (i5 : Int32) (i6 : Int32) (i7 : Int32) (i8 : Int32) (i9 : Int32) (h : Hp), fX7_join_w107 w89 n a0 i1 i2 i3 i4 i5 i6 i7 i8 i9 h = some res → XW g p l e { frames := 2, cells := 0, slots := 0, locals := 47 } s m args below meth c (MQ below (x_Q g (some (vI res.1)) res.2) args s 0 0 (x_A g)) 10 0 0 h 107 [some (vR a0), some (vI i1), some (vI i2), some (vI i3), some (vI i4), some (vI i5), some (vI i6), some (vI i7), some (vI i8), some (vI i9)] [] := by
  intro n
  induction n with
  | zero =>
    intro a0 i1 i2 i3 i4 i5 i6 i7 i8 i9 h hf
    have hf2 : (none : Option (Int32 × Hp)) = some res := hf
    cases hf2
  | succ n ih =>
    intro a0 i1 i2 i3 i4 i5 i6 i7 i8 i9 h hf
    rw [fX7_join_w107] at hf
    refine x_iload C dX7_join_107 (pc' := 109) rfl rfl ?_
    refine x_iload C dX7_join_109 (pc' := 111) rfl rfl ?_
    refine x_icmp_ge C hf dX7_join_111 (pc' := 114) rfl (tgt := 160) (by decide) (fun _ hf => ?_) (fun _ hf => ?_)
    ·
      refine x_keep [true, true, true, true, true, true, true, true, true, false] rfl ?_
      refine x_more (k' := 0) (n' := 0) (Nat.le_of_ble_eq_true rfl) (Nat.le_of_ble_eq_true rfl) ?_
      exact mX7_join_b160 C hr hlk hnm w89 hw89 a0 i1 i2 i3 i4 i5 i6 i7 i8 h hf
    ·
      refine x_iload C dX7_join_114 (pc' := 116) rfl rfl ?_
      refine x_iload C dX7_join_116 (pc' := 118) rfl rfl ?_
      refine x_imul C dX7_join_118 (pc' := 119) rfl ?_
      refine x_aload_n C dX7_join_119 (pc' := 120) rfl rfl rfl ?_
      refine x_iload_n C dX7_join_120 (pc' := 121) rfl rfl rfl ?_
      refine x_iload C dX7_join_121 (pc' := 123) rfl rfl ?_
      refine x_iload C dX7_join_123 (pc' := 125) rfl rfl ?_
      refine x_iload C dX7_join_125 (pc' := 127) rfl rfl ?_
      refine x_iconst C (v := 1) (by decide) dX7_join_127 (pc' := 128) rfl ?_
      refine x_isub C dX7_join_128 (pc' := 129) rfl ?_
      refine x_iload C dX7_join_129 (pc' := 131) rfl rfl ?_
      refine x_isub C dX7_join_131 (pc' := 132) rfl ?_
      obtain ⟨r1, h2, hq, hf⟩ := call_some hf
      refine x_callS C (As := [vI i4, vI ((i5 - (1 : Int32)) - i9)]) (st := [vI i7, vI i1, vR a0, vI (i4 * i8)]) (r := (some (vI r1))) (h' := h2) (mc := 0) (ms := 0) (k := 0) (n := 0) (mX7_power hq) (va_cwS 2 C.1.2.2.2.2 gX7_join_X7_power rfl rfl rfl (by decide +kernel) ⟨Nat.le_of_ble_eq_true rfl, Nat.le_of_ble_eq_true rfl⟩) rfl rfl (Nat.le_of_ble_eq_true rfl) dX7_join_132 (pc' := 135) rfl ?_
      refine x_idiv C hf dX7_join_135 (pc' := 136) rfl (fun _ v3 _ hf => ?_)
      refine x_iload C dX7_join_136 (pc' := 138) rfl rfl ?_
      refine x_aload_n C dX7_join_138 (pc' := 139) rfl rfl rfl ?_
      refine x_getR C (ci := 7) (kf := 5) rfl (by decide) hinX7_join_X7 lkX7_join_1 rfl hf dX7_join_139 (pc' := 142) rfl (fun v4 _ hf => ?_)
      refine x_iload_n C dX7_join_142 (pc' := 143) rfl rfl rfl ?_
      refine x_iaload C hf dX7_join_143 (pc' := 144) rfl (fun v5 _ hf => ?_)
      obtain ⟨r6, h7, hq, hf⟩ := call_some hf
      refine x_callS C (As := [vI i4, vI v5]) (st := [vI v3, vI i1, vR a0, vI (i4 * i8)]) (r := (some (vI r6))) (h' := h7) (mc := 0) (ms := 0) (k := 0) (n := 0) (mX7_power hq) (va_cwS 2 C.1.2.2.2.2 gX7_join_X7_power rfl rfl rfl (by decide +kernel) ⟨Nat.le_of_ble_eq_true rfl, Nat.le_of_ble_eq_true rfl⟩) rfl rfl (Nat.le_of_ble_eq_true rfl) dX7_join_144 (pc' := 147) rfl ?_
      refine x_irem C hf dX7_join_147 (pc' := 148) rfl (fun _ v8 _ hf => ?_)
      obtain ⟨r9, h10, hq, hf⟩ := call_some hf
      obtain ⟨hob, hq⟩ := oK_some hq
      refine x_callV C (As := [vI i1, vI v8]) (st := [vI (i4 * i8)]) (r := (some (vI r9))) (h' := h10) (mc := 0) (ms := 0) (k := 0) (n := 0) (mX7_tells hq) hob (ci := 7) rfl (cwV 2 C.1.2.2.2.2 gX7_join_X7_tells rfl rfl rfl (by decide +kernel) ⟨Nat.le_of_ble_eq_true rfl, Nat.le_of_ble_eq_true rfl⟩) rfl rfl (Nat.le_of_ble_eq_true rfl) dX7_join_148 (pc' := 151) rfl ?_
      refine x_iadd C dX7_join_151 (pc' := 152) rfl ?_
      refine x_nameI hf (fun v11 _ hf => ?_)
      refine x_istore C dX7_join_152 (pc' := 154) rfl (by decide) rfl (lv' := [some (vR a0), some (vI i1), some (vI i2), some (vI i3), some (vI i4), some (vI i5), some (vI i6), some (vI i7), some (vI v11), some (vI i9)]) rfl ?_
      refine x_iinc C dX7_join_154 (pc' := 157) rfl rfl (v := (i9 + 1)) rfl (by decide) rfl (lv' := [some (vR a0), some (vI i1), some (vI i2), some (vI i3), some (vI i4), some (vI i5), some (vI i6), some (vI i7), some (vI v11), some (vI (i9 + 1))]) rfl ?_
      refine x_goto C dX7_join_157 (tgt := 107) (by decide) ?_
      exact ih a0 i1 i2 i3 i4 i5 i6 i7 v11 (i9 + 1) h10 hf
def fX7_join_w89 : Nat → Nat → Int32 → Int32 → Int32 → Int32 → Int32 → Int32 → Int32 → Hp → Option (Int32 × Hp)
  | 0 => fun _ _ _ _ _ _ _ _ _ => none
  | n + 1 => fun a0 i1 i2 i3 i4 i5 i6 i7 h => call (fX7_power h i4 i6) fun r1 h2 => if r1 ≤ i7 then (fX7_join_b184 a0 i3 i4 i6 h2) else (fX7_join_w107 (fX7_join_w89 n) FUEL a0 i1 i2 i3 i4 i5 i6 i7 (0 : Int32) (0 : Int32) h2)
set_option maxHeartbeats 4000000 in
set_option maxRecDepth 100000 in
theorem mX7_join_w89 {g : XG} {p : Program} {l : Launch} {e : Env} {s : State} {m : MethodId} {args : Array Value} {below : List Frame} {meth : Method} {c : Code} (C : x_C g p s m args c cX7_join RX7 10 wsX7_join) (hr : meth.sig.returnType = (some .int)) (hlk : meth.locks = false) (hnm : meth.name = yX7_join.name) {res : Int32 × Hp} : ∀ (n : Nat) (a0 : Nat) (i1 : Int32) (i2 : Int32) (i3 : Int32) (i4 : Int32) (i5 : Int32) (i6 : Int32) (i7 : Int32) (h : Hp), fX7_join_w89 n a0 i1 i2 i3 i4 i5 i6 i7 h = some res → XW g p l e { frames := 2, cells := 0, slots := 0, locals := 47 } s m args below meth c (MQ below (x_Q g (some (vI res.1)) res.2) args s 0 0 (x_A g)) 10 0 0 h 89 [some (vR a0), some (vI i1), some (vI i2), some (vI i3), some (vI i4), some (vI i5), some (vI i6), some (vI i7), none, none] [] := by
  intro n
  induction n with
  | zero =>
    intro a0 i1 i2 i3 i4 i5 i6 i7 h hf
    have hf2 : (none : Option (Int32 × Hp)) = some res := hf
    cases hf2
  | succ n ih =>
    intro a0 i1 i2 i3 i4 i5 i6 i7 h hf
    rw [fX7_join_w89] at hf
    refine x_iload C dX7_join_89 (pc' := 91) rfl rfl ?_
    refine x_iload C dX7_join_91 (pc' := 93) rfl rfl ?_
    refine x_iload C dX7_join_93 (pc' := 95) rfl rfl ?_
    obtain ⟨r1, h2, hq, hf⟩ := call_some hf
    refine x_callS C (As := [vI i4, vI i6]) (st := [vI i7]) (r := (some (vI r1))) (h' := h2) (mc := 0) (ms := 0) (k := 0) (n := 0) (mX7_power hq) (va_cwS 2 C.1.2.2.2.2 gX7_join_X7_power rfl rfl rfl (by decide +kernel) ⟨Nat.le_of_ble_eq_true rfl, Nat.le_of_ble_eq_true rfl⟩) rfl rfl (Nat.le_of_ble_eq_true rfl) dX7_join_95 (pc' := 98) rfl ?_
    refine x_icmp_ge C hf dX7_join_98 (pc' := 101) rfl (tgt := 184) (by decide) (fun _ hf => ?_) (fun _ hf => ?_)
    ·
      refine x_keep [true, false, false, true, true, false, true, false, false, false] rfl ?_
      refine x_more (k' := 0) (n' := 0) (Nat.le_of_ble_eq_true rfl) (Nat.le_of_ble_eq_true rfl) ?_
      exact mX7_join_b184 C hr hlk hnm a0 i3 i4 i6 h2 hf
    ·
      refine x_iconst C (v := 0) (by decide) dX7_join_101 (pc' := 102) rfl ?_
      refine x_istore C dX7_join_102 (pc' := 104) rfl (by decide) rfl (lv' := [some (vR a0), some (vI i1), some (vI i2), some (vI i3), some (vI i4), some (vI i5), some (vI i6), some (vI i7), some (vI (0 : Int32)), none]) rfl ?_
      refine x_iconst C (v := 0) (by decide) dX7_join_104 (pc' := 105) rfl ?_
      refine x_istore C dX7_join_105 (pc' := 107) rfl (by decide) rfl (lv' := [some (vR a0), some (vI i1), some (vI i2), some (vI i3), some (vI i4), some (vI i5), some (vI i6), some (vI i7), some (vI (0 : Int32)), some (vI (0 : Int32))]) rfl ?_
      refine x_more (k' := 0) (n' := 0) (Nat.le_of_ble_eq_true rfl) (Nat.le_of_ble_eq_true rfl) ?_
      exact mX7_join_w107 C hr hlk hnm (fX7_join_w89 n) ih FUEL a0 i1 i2 i3 i4 i5 i6 i7 (0 : Int32) (0 : Int32) h2 hf
def fX7_join (h : Hp) (a0 : Nat) (i1 : Int32) (i2 : Int32) (i3 : Int32) : Option (Int32 × Hp) := (pF h a0 7 0 (vI (0 : Int32))).bind fun h1 => call (oK h1 a0 7 (fX7_has h1 a0 i1)) fun r2 h3 => if r2 = 0 then (some ((-1 : Int32), h3)) else (call (oK h3 a0 7 (fX7_has h3 a0 i2)) fun r4 h5 => if r4 = 0 then (some ((-1 : Int32), h5)) else (call (fX7_isSlot h5 i3) fun r6 h7 => if r6 = 0 then (some ((-1 : Int32), h7)) else ((gR h7 a0 7 4).bind fun v8 => (aI h7 v8 0 i1).bind fun v9 => (gR h7 a0 7 4).bind fun v10 => (aI h7 v10 0 i2).bind fun v11 => if v9 = v11 then ((gR h7 a0 7 4).bind fun v12 => (aI h7 v12 0 i1).bind fun v13 => (gR h7 a0 7 5).bind fun v14 => (aI h7 v14 0 i2).bind fun v15 => (gR h7 a0 7 5).bind fun v16 => (aI h7 v16 0 i1).bind fun v17 => setv (((v17 + v15) - (1 : Int32))) fun v18 => call (fX7_widest h7 v13) fun r19 h20 => if v18 ≤ r19 then (fX7_join_w89 FUEL a0 i1 i2 i3 v13 v15 v18 (0 : Int32) h20) else (some ((-1 : Int32), h20))) else (some ((-1 : Int32), h7)))))
set_option maxHeartbeats 4000000 in
set_option maxRecDepth 100000 in
theorem mX7_join {l : Launch} {g : XG} {h : Hp} {a0 : Nat} {i1 : Int32} {i2 : Int32} {i3 : Int32} {res : Int32 × Hp} (hf : fX7_join h a0 i1 i2 i3 = some res) : XM l g yX7_join wsX7_join 2 47 0 0 [vR a0, vI i1, vI i2, vI i3] h (some (vI res.1)) res.2 := by
  refine x_start (cc := cX7_join) (maxL := 10) (ret := (some .int)) (by decide) rfl (Nat.le_of_ble_eq_true rfl) (lv := [some (vR a0), some (vI i1), some (vI i2), some (vI i3), none, none, none, none, none, none]) rfl ?_
  intro p e s m args below meth c C hr hlk hnm
  unfold fX7_join at hf
  refine x_aload_n C dX7_join_0 (pc' := 1) rfl rfl rfl ?_
  refine x_iconst C (v := 0) (by decide) dX7_join_1 (pc' := 2) rfl ?_
  refine x_put C (ci := 7) (kf := 0) rfl (by decide) hinX7_join_X7 tyX7 tyX7_ok nmX7 lkX7_join_2 rfl (Or.inl rfl) rfl hf dX7_join_2 (pc' := 5) rfl (fun h1 _ hf => ?_)
  refine x_aload_n C dX7_join_5 (pc' := 6) rfl rfl rfl ?_
  refine x_iload_n C dX7_join_6 (pc' := 7) rfl rfl rfl ?_
  obtain ⟨r2, h3, hq, hf⟩ := call_some hf
  obtain ⟨hob, hq⟩ := oK_some hq
  refine x_callV C (As := [vI i1]) (st := []) (r := (some (vI r2))) (h' := h3) (mc := 0) (ms := 0) (k := 0) (n := 0) (mX7_has hq) hob (ci := 7) rfl (cwV 1 C.1.2.2.2.2 gX7_join_X7_has rfl rfl rfl (by decide +kernel) ⟨Nat.le_of_ble_eq_true rfl, Nat.le_of_ble_eq_true rfl⟩) rfl rfl (Nat.le_of_ble_eq_true rfl) dX7_join_7 (pc' := 10) rfl ?_
  refine x_if_eq C hf dX7_join_10 (pc' := 13) rfl (tgt := 43) (by decide) (fun _ hf => ?_) (fun _ hf => ?_)
  ·
    refine x_iconst C (v := -1) (by decide) dX7_join_43 (pc' := 44) rfl ?_
    cases hf
    exact x_iret C hr hlk dX7_join_44
  ·
    refine x_aload_n C dX7_join_13 (pc' := 14) rfl rfl rfl ?_
    refine x_iload_n C dX7_join_14 (pc' := 15) rfl rfl rfl ?_
    obtain ⟨r4, h5, hq, hf⟩ := call_some hf
    obtain ⟨hob, hq⟩ := oK_some hq
    refine x_callV C (As := [vI i2]) (st := []) (r := (some (vI r4))) (h' := h5) (mc := 0) (ms := 0) (k := 0) (n := 0) (mX7_has hq) hob (ci := 7) rfl (cwV 1 C.1.2.2.2.2 gX7_join_X7_has rfl rfl rfl (by decide +kernel) ⟨Nat.le_of_ble_eq_true rfl, Nat.le_of_ble_eq_true rfl⟩) rfl rfl (Nat.le_of_ble_eq_true rfl) dX7_join_15 (pc' := 18) rfl ?_
    refine x_if_eq C hf dX7_join_18 (pc' := 21) rfl (tgt := 43) (by decide) (fun _ hf => ?_) (fun _ hf => ?_)
    ·
      refine x_iconst C (v := -1) (by decide) dX7_join_43 (pc' := 44) rfl ?_
      cases hf
      exact x_iret C hr hlk dX7_join_44
    ·
      refine x_iload_n C dX7_join_21 (pc' := 22) rfl rfl rfl ?_
      obtain ⟨r6, h7, hq, hf⟩ := call_some hf
      refine x_callS C (As := [vI i3]) (st := []) (r := (some (vI r6))) (h' := h7) (mc := 0) (ms := 0) (k := 0) (n := 0) (mX7_isSlot hq) (va_cwS 1 C.1.2.2.2.2 gX7_join_X7_isSlot rfl rfl rfl (by decide +kernel) ⟨Nat.le_of_ble_eq_true rfl, Nat.le_of_ble_eq_true rfl⟩) rfl rfl (Nat.le_of_ble_eq_true rfl) dX7_join_22 (pc' := 25) rfl ?_
      refine x_if_eq C hf dX7_join_25 (pc' := 28) rfl (tgt := 43) (by decide) (fun _ hf => ?_) (fun _ hf => ?_)
      ·
        refine x_iconst C (v := -1) (by decide) dX7_join_43 (pc' := 44) rfl ?_
        cases hf
        exact x_iret C hr hlk dX7_join_44
      ·
        refine x_aload_n C dX7_join_28 (pc' := 29) rfl rfl rfl ?_
        refine x_getR C (ci := 7) (kf := 4) rfl (by decide) hinX7_join_X7 lkX7_join_3 rfl hf dX7_join_29 (pc' := 32) rfl (fun v8 _ hf => ?_)
        refine x_iload_n C dX7_join_32 (pc' := 33) rfl rfl rfl ?_
        refine x_iaload C hf dX7_join_33 (pc' := 34) rfl (fun v9 _ hf => ?_)
        refine x_aload_n C dX7_join_34 (pc' := 35) rfl rfl rfl ?_
        refine x_getR C (ci := 7) (kf := 4) rfl (by decide) hinX7_join_X7 lkX7_join_3 rfl hf dX7_join_35 (pc' := 38) rfl (fun v10 _ hf => ?_)
        refine x_iload_n C dX7_join_38 (pc' := 39) rfl rfl rfl ?_
        refine x_iaload C hf dX7_join_39 (pc' := 40) rfl (fun v11 _ hf => ?_)
        refine x_icmp_eq C hf dX7_join_40 (pc' := 43) rfl (tgt := 45) (by decide) (fun _ hf => ?_) (fun _ hf => ?_)
        ·
          refine x_aload_n C dX7_join_45 (pc' := 46) rfl rfl rfl ?_
          refine x_getR C (ci := 7) (kf := 4) rfl (by decide) hinX7_join_X7 lkX7_join_3 rfl hf dX7_join_46 (pc' := 49) rfl (fun v12 _ hf => ?_)
          refine x_iload_n C dX7_join_49 (pc' := 50) rfl rfl rfl ?_
          refine x_iaload C hf dX7_join_50 (pc' := 51) rfl (fun v13 _ hf => ?_)
          refine x_istore C dX7_join_51 (pc' := 53) rfl (by decide) rfl (lv' := [some (vR a0), some (vI i1), some (vI i2), some (vI i3), some (vI v13), none, none, none, none, none]) rfl ?_
          refine x_aload_n C dX7_join_53 (pc' := 54) rfl rfl rfl ?_
          refine x_getR C (ci := 7) (kf := 5) rfl (by decide) hinX7_join_X7 lkX7_join_1 rfl hf dX7_join_54 (pc' := 57) rfl (fun v14 _ hf => ?_)
          refine x_iload_n C dX7_join_57 (pc' := 58) rfl rfl rfl ?_
          refine x_iaload C hf dX7_join_58 (pc' := 59) rfl (fun v15 _ hf => ?_)
          refine x_istore C dX7_join_59 (pc' := 61) rfl (by decide) rfl (lv' := [some (vR a0), some (vI i1), some (vI i2), some (vI i3), some (vI v13), some (vI v15), none, none, none, none]) rfl ?_
          refine x_aload_n C dX7_join_61 (pc' := 62) rfl rfl rfl ?_
          refine x_getR C (ci := 7) (kf := 5) rfl (by decide) hinX7_join_X7 lkX7_join_1 rfl hf dX7_join_62 (pc' := 65) rfl (fun v16 _ hf => ?_)
          refine x_iload_n C dX7_join_65 (pc' := 66) rfl rfl rfl ?_
          refine x_iaload C hf dX7_join_66 (pc' := 67) rfl (fun v17 _ hf => ?_)
          refine x_iload C dX7_join_67 (pc' := 69) rfl rfl ?_
          refine x_iadd C dX7_join_69 (pc' := 70) rfl ?_
          refine x_iconst C (v := 1) (by decide) dX7_join_70 (pc' := 71) rfl ?_
          refine x_isub C dX7_join_71 (pc' := 72) rfl ?_
          refine x_nameI hf (fun v18 _ hf => ?_)
          refine x_istore C dX7_join_72 (pc' := 74) rfl (by decide) rfl (lv' := [some (vR a0), some (vI i1), some (vI i2), some (vI i3), some (vI v13), some (vI v15), some (vI v18), none, none, none]) rfl ?_
          refine x_iload C dX7_join_74 (pc' := 76) rfl rfl ?_
          refine x_iload C dX7_join_76 (pc' := 78) rfl rfl ?_
          obtain ⟨r19, h20, hq, hf⟩ := call_some hf
          refine x_callS C (As := [vI v13]) (st := [vI v18]) (r := (some (vI r19))) (h' := h20) (mc := 0) (ms := 0) (k := 0) (n := 0) (mX7_widest hq) (va_cwS 1 C.1.2.2.2.2 gX7_join_X7_widest rfl rfl rfl (by decide +kernel) ⟨Nat.le_of_ble_eq_true rfl, Nat.le_of_ble_eq_true rfl⟩) rfl rfl (Nat.le_of_ble_eq_true rfl) dX7_join_78 (pc' := 81) rfl ?_
          refine x_icmp_le C hf dX7_join_81 (pc' := 84) rfl (tgt := 86) (by decide) (fun _ hf => ?_) (fun _ hf => ?_)
          ·
            refine x_iconst C (v := 0) (by decide) dX7_join_86 (pc' := 87) rfl ?_
            refine x_istore C dX7_join_87 (pc' := 89) rfl (by decide) rfl (lv' := [some (vR a0), some (vI i1), some (vI i2), some (vI i3), some (vI v13), some (vI v15), some (vI v18), some (vI (0 : Int32)), none, none]) rfl ?_
            refine x_more (k' := 0) (n' := 0) (Nat.le_of_ble_eq_true rfl) (Nat.le_of_ble_eq_true rfl) ?_
            exact mX7_join_w89 C hr hlk hnm FUEL a0 i1 i2 i3 v13 v15 v18 (0 : Int32) h20 hf
          ·
            refine x_iconst C (v := -1) (by decide) dX7_join_84 (pc' := 85) rfl ?_
            cases hf
            exact x_iret C hr hlk dX7_join_85
        ·
          refine x_iconst C (v := -1) (by decide) dX7_join_43 (pc' := 44) rfl ?_
          cases hf
          exact x_iret C hr hlk dX7_join_44
-- ===== X7_mirror
theorem lkX7_mirror_0 : Cond.fieldLink RX7 17 "MossRingsModel" "widths" "[I" ∈ wsX7_mirror := by decide +kernel
theorem hinX7_mirror_X7 : ∀ w ∈ u_ws RX7 TX7 27, w ∈ wsX7_mirror := by decide +kernel
theorem lkX7_mirror_1 : Cond.fieldLink RX7 20 "MossRingsModel" "table" "[I" ∈ wsX7_mirror := by decide +kernel
theorem lkX7_mirror_2 : Cond.fieldLink RX7 80 "MossRingsModel" "thrown" "I" ∈ wsX7_mirror := by decide +kernel
theorem lkX7_mirror_3 : Cond.fieldLink RX7 13 "MossRingsModel" "states" "[I" ∈ wsX7_mirror := by decide +kernel
def fX7_mirror_b115 (a0 : Nat) (i1 : Int32) (i2 : Int32) (i3 : Int32) (h : Hp) : Option (Int32 × Hp) := (gR h a0 7 5).bind fun v1 => (aI h v1 0 i1).bind fun v2 => (oK h a0 7 (fX7_lay h a0 i2 i3 v2)).bind fun h4 => retZ (1 : Int32) h4
set_option maxHeartbeats 4000000 in
set_option maxRecDepth 100000 in
theorem mX7_mirror_b115 {g : XG} {p : Program} {l : Launch} {e : Env} {s : State} {m : MethodId} {args : Array Value} {below : List Frame} {meth : Method} {c : Code} (C : x_C g p s m args c cX7_mirror RX7 8 wsX7_mirror) (hr : meth.sig.returnType = (some .boolean)) (hlk : meth.locks = false) (hnm : meth.name = yX7_mirror.name) {res : Int32 × Hp} (a0 : Nat) (i1 : Int32) (i2 : Int32) (i3 : Int32) (h : Hp) (hf : fX7_mirror_b115 a0 i1 i2 i3 h = some res) : XW g p l e { frames := 2, cells := 0, slots := 0, locals := 47 } s m args below meth c (MQ below (x_Q g (some (vI res.1)) res.2) args s 0 0 (x_A g)) 8 0 0 h 115 [some (vR a0), some (vI i1), some (vI i2), some (vI i3), none, none, none, none] [] := by
  unfold fX7_mirror_b115 at hf
  refine x_aload_n C dX7_mirror_115 (pc' := 116) rfl rfl rfl ?_
  refine x_iload_n C dX7_mirror_116 (pc' := 117) rfl rfl rfl ?_
  refine x_iload_n C dX7_mirror_117 (pc' := 118) rfl rfl rfl ?_
  refine x_aload_n C dX7_mirror_118 (pc' := 119) rfl rfl rfl ?_
  refine x_getR C (ci := 7) (kf := 5) rfl (by decide) hinX7_mirror_X7 lkX7_mirror_0 rfl hf dX7_mirror_119 (pc' := 122) rfl (fun v1 _ hf => ?_)
  refine x_iload_n C dX7_mirror_122 (pc' := 123) rfl rfl rfl ?_
  refine x_iaload C hf dX7_mirror_123 (pc' := 124) rfl (fun v2 _ hf => ?_)
  obtain ⟨h4, hq, hf⟩ := bind_some hf
  obtain ⟨hob, hq⟩ := oK_some hq
  refine x_callV C (As := [vI i2, vI i3, vI v2]) (st := []) (r := none) (h' := h4) (mc := 0) (ms := 0) (k := 0) (n := 0) (mX7_lay hq) hob (ci := 7) rfl (cwV 3 C.1.2.2.2.2 gX7_mirror_X7_lay rfl rfl rfl (by decide +kernel) ⟨Nat.le_of_ble_eq_true rfl, Nat.le_of_ble_eq_true rfl⟩) rfl rfl (Nat.le_of_ble_eq_true rfl) dX7_mirror_124 (pc' := 127) rfl ?_
  refine x_iconst C (v := 1) (by decide) dX7_mirror_127 (pc' := 128) rfl ?_
  exact x_zret C hf hr hlk dX7_mirror_128
def fX7_mirror_b91 (w32 : Nat → Int32 → Int32 → Int32 → Int32 → Hp → Option (Int32 × Hp)) (a0 : Nat) (i1 : Int32) (i2 : Int32) (i3 : Int32) (i4 : Int32) (i5 : Int32) (h : Hp) : Option (Int32 × Hp) := (gR h a0 7 6).bind fun v1 => call (oK h a0 7 (fX7_tells h a0 i1 i5)) fun r2 h3 => (sI h3 v1 0 ((162 : Int32) + i4) r2).bind fun h4 => w32 a0 i1 i2 i3 (i4 + 1) h4
set_option maxHeartbeats 4000000 in
set_option maxRecDepth 100000 in
theorem mX7_mirror_b91 {g : XG} {p : Program} {l : Launch} {e : Env} {s : State} {m : MethodId} {args : Array Value} {below : List Frame} {meth : Method} {c : Code} (C : x_C g p s m args c cX7_mirror RX7 8 wsX7_mirror) (hr : meth.sig.returnType = (some .boolean)) (hlk : meth.locks = false) (hnm : meth.name = yX7_mirror.name) {res : Int32 × Hp} (w32 : Nat → Int32 → Int32 → Int32 → Int32 → Hp → Option (Int32 × Hp)) (hw32 : ∀ (a0 : Nat) (i1 : Int32) (i2 : Int32) (i3 : Int32) (i4 : Int32) (h : Hp), w32 a0 i1 i2 i3 i4 h = some res → XW g p l e { frames := 2, cells := 0, slots := 0, locals := 47 } s m args below meth c (MQ below (x_Q g (some (vI res.1)) res.2) args s 0 0 (x_A g)) 8 0 0 h 32 [some (vR a0), some (vI i1), some (vI i2), some (vI i3), some (vI i4), none, none, none] []) (a0 : Nat) (i1 : Int32) (i2 : Int32) (i3 : Int32) (i4 : Int32) (i5 : Int32) (h : Hp) (hf : fX7_mirror_b91 w32 a0 i1 i2 i3 i4 i5 h = some res) : XW g p l e { frames := 2, cells := 0, slots := 0, locals := 47 } s m args below meth c (MQ below (x_Q g (some (vI res.1)) res.2) args s 0 0 (x_A g)) 8 0 0 h 91 [some (vR a0), some (vI i1), some (vI i2), some (vI i3), some (vI i4), some (vI i5), none, none] [] := by
  unfold fX7_mirror_b91 at hf
  refine x_aload_n C dX7_mirror_91 (pc' := 92) rfl rfl rfl ?_
  refine x_getR C (ci := 7) (kf := 6) rfl (by decide) hinX7_mirror_X7 lkX7_mirror_1 rfl hf dX7_mirror_92 (pc' := 95) rfl (fun v1 _ hf => ?_)
  refine x_sipush C (v := 162) (by decide) dX7_mirror_95 (pc' := 98) rfl ?_
  refine x_iload C dX7_mirror_98 (pc' := 100) rfl rfl ?_
  refine x_iadd C dX7_mirror_100 (pc' := 101) rfl ?_
  refine x_aload_n C dX7_mirror_101 (pc' := 102) rfl rfl rfl ?_
  refine x_iload_n C dX7_mirror_102 (pc' := 103) rfl rfl rfl ?_
  refine x_iload C dX7_mirror_103 (pc' := 105) rfl rfl ?_
  obtain ⟨r2, h3, hq, hf⟩ := call_some hf
  obtain ⟨hob, hq⟩ := oK_some hq
  refine x_callV C (As := [vI i1, vI i5]) (st := [vI ((162 : Int32) + i4), vR v1]) (r := (some (vI r2))) (h' := h3) (mc := 0) (ms := 0) (k := 0) (n := 0) (mX7_tells hq) hob (ci := 7) rfl (cwV 2 C.1.2.2.2.2 gX7_mirror_X7_tells rfl rfl rfl (by decide +kernel) ⟨Nat.le_of_ble_eq_true rfl, Nat.le_of_ble_eq_true rfl⟩) rfl rfl (Nat.le_of_ble_eq_true rfl) dX7_mirror_105 (pc' := 108) rfl ?_
  refine x_iastore C hf dX7_mirror_108 (pc' := 109) rfl (fun h4 _ hf => ?_)
  refine x_iinc C dX7_mirror_109 (pc' := 112) rfl rfl (v := (i4 + 1)) rfl (by decide) rfl (lv' := [some (vR a0), some (vI i1), some (vI i2), some (vI i3), some (vI (i4 + 1)), some (vI i5), none, none]) rfl ?_
  refine x_goto C dX7_mirror_112 (tgt := 32) (by decide) ?_
  refine x_keep [true, true, true, true, true, false, false, false] rfl ?_
  exact hw32 a0 i1 i2 i3 (i4 + 1) h4 hf
def fX7_mirror_w57 (w32 : Nat → Int32 → Int32 → Int32 → Int32 → Hp → Option (Int32 × Hp)) : Nat → Nat → Int32 → Int32 → Int32 → Int32 → Int32 → Int32 → Int32 → Hp → Option (Int32 × Hp)
  | 0 => fun _ _ _ _ _ _ _ _ _ => none
  | n + 1 => fun a0 i1 i2 i3 i4 i5 i6 i7 h => (gR h a0 7 5).bind fun v1 => (aI h v1 0 i1).bind fun v2 => if v2 ≤ i7 then (fX7_mirror_b91 w32 a0 i1 i2 i3 i4 i5 h) else (iRem i6 i3 fun v3 => setv (((i3 * i5) + v3)) fun v4 => iDiv i6 i3 fun v5 => (fX7_mirror_w57 w32 n) a0 i1 i2 i3 i4 v4 v5 (i7 + 1) h)
set_option maxHeartbeats 4000000 in
set_option maxRecDepth 100000 in
theorem mX7_mirror_w57 {g : XG} {p : Program} {l : Launch} {e : Env} {s : State} {m : MethodId} {args : Array Value} {below : List Frame} {meth : Method} {c : Code} (C : x_C g p s m args c cX7_mirror RX7 8 wsX7_mirror) (hr : meth.sig.returnType = (some .boolean)) (hlk : meth.locks = false) (hnm : meth.name = yX7_mirror.name) {res : Int32 × Hp} (w32 : Nat → Int32 → Int32 → Int32 → Int32 → Hp → Option (Int32 × Hp)) (hw32 : ∀ (a0 : Nat) (i1 : Int32) (i2 : Int32) (i3 : Int32) (i4 : Int32) (h : Hp), w32 a0 i1 i2 i3 i4 h = some res → XW g p l e { frames := 2, cells := 0, slots := 0, locals := 47 } s m args below meth c (MQ below (x_Q g (some (vI res.1)) res.2) args s 0 0 (x_A g)) 8 0 0 h 32 [some (vR a0), some (vI i1), some (vI i2), some (vI i3), some (vI i4), none, none, none] []) : ∀ (n : Nat) (a0 : Nat) (i1 : Int32) (i2 : Int32) (i3 : Int32) (i4 : Int32) (i5 : Int32) (i6 : Int32) (i7 : Int32) (h : Hp), fX7_mirror_w57 w32 n a0 i1 i2 i3 i4 i5 i6 i7 h = some res → XW g p l e { frames := 2, cells := 0, slots := 0, locals := 47 } s m args below meth c (MQ below (x_Q g (some (vI res.1)) res.2) args s 0 0 (x_A g)) 8 0 0 h 57 [some (vR a0), some (vI i1), some (vI i2), some (vI i3), some (vI i4), some (vI i5), some (vI i6), some (vI i7)] [] := by
  intro n
  induction n with
  | zero =>
    intro a0 i1 i2 i3 i4 i5 i6 i7 h hf
    have hf2 : (none : Option (Int32 × Hp)) = some res := hf
    cases hf2
  | succ n ih =>
    intro a0 i1 i2 i3 i4 i5 i6 i7 h hf
    rw [fX7_mirror_w57] at hf
    refine x_iload C dX7_mirror_57 (pc' := 59) rfl rfl ?_
    refine x_aload_n C dX7_mirror_59 (pc' := 60) rfl rfl rfl ?_
    refine x_getR C (ci := 7) (kf := 5) rfl (by decide) hinX7_mirror_X7 lkX7_mirror_0 rfl hf dX7_mirror_60 (pc' := 63) rfl (fun v1 _ hf => ?_)
    refine x_iload_n C dX7_mirror_63 (pc' := 64) rfl rfl rfl ?_
    refine x_iaload C hf dX7_mirror_64 (pc' := 65) rfl (fun v2 _ hf => ?_)
    refine x_icmp_ge C hf dX7_mirror_65 (pc' := 68) rfl (tgt := 91) (by decide) (fun _ hf => ?_) (fun _ hf => ?_)
    ·
      refine x_keep [true, true, true, true, true, true, false, false] rfl ?_
      refine x_more (k' := 0) (n' := 0) (Nat.le_of_ble_eq_true rfl) (Nat.le_of_ble_eq_true rfl) ?_
      exact mX7_mirror_b91 C hr hlk hnm w32 hw32 a0 i1 i2 i3 i4 i5 h hf
    ·
      refine x_iload_n C dX7_mirror_68 (pc' := 69) rfl rfl rfl ?_
      refine x_iload C dX7_mirror_69 (pc' := 71) rfl rfl ?_
      refine x_imul C dX7_mirror_71 (pc' := 72) rfl ?_
      refine x_iload C dX7_mirror_72 (pc' := 74) rfl rfl ?_
      refine x_iload_n C dX7_mirror_74 (pc' := 75) rfl rfl rfl ?_
      refine x_irem C hf dX7_mirror_75 (pc' := 76) rfl (fun _ v3 _ hf => ?_)
      refine x_iadd C dX7_mirror_76 (pc' := 77) rfl ?_
      refine x_nameI hf (fun v4 _ hf => ?_)
      refine x_istore C dX7_mirror_77 (pc' := 79) rfl (by decide) rfl (lv' := [some (vR a0), some (vI i1), some (vI i2), some (vI i3), some (vI i4), some (vI v4), some (vI i6), some (vI i7)]) rfl ?_
      refine x_iload C dX7_mirror_79 (pc' := 81) rfl rfl ?_
      refine x_iload_n C dX7_mirror_81 (pc' := 82) rfl rfl rfl ?_
      refine x_idiv C hf dX7_mirror_82 (pc' := 83) rfl (fun _ v5 _ hf => ?_)
      refine x_istore C dX7_mirror_83 (pc' := 85) rfl (by decide) rfl (lv' := [some (vR a0), some (vI i1), some (vI i2), some (vI i3), some (vI i4), some (vI v4), some (vI v5), some (vI i7)]) rfl ?_
      refine x_iinc C dX7_mirror_85 (pc' := 88) rfl rfl (v := (i7 + 1)) rfl (by decide) rfl (lv' := [some (vR a0), some (vI i1), some (vI i2), some (vI i3), some (vI i4), some (vI v4), some (vI v5), some (vI (i7 + 1))]) rfl ?_
      refine x_goto C dX7_mirror_88 (tgt := 57) (by decide) ?_
      exact ih a0 i1 i2 i3 i4 v4 v5 (i7 + 1) h hf
def fX7_mirror_w32 : Nat → Nat → Int32 → Int32 → Int32 → Int32 → Hp → Option (Int32 × Hp)
  | 0 => fun _ _ _ _ _ _ => none
  | n + 1 => fun a0 i1 i2 i3 i4 h => (gR h a0 7 5).bind fun v1 => (aI h v1 0 i1).bind fun v2 => call (fX7_power h i3 v2) fun r3 h4 => if r3 ≤ i4 then (fX7_mirror_b115 a0 i1 i2 i3 h4) else (fX7_mirror_w57 (fX7_mirror_w32 n) FUEL a0 i1 i2 i3 i4 (0 : Int32) i4 (0 : Int32) h4)
set_option maxHeartbeats 4000000 in
set_option maxRecDepth 100000 in
theorem mX7_mirror_w32 {g : XG} {p : Program} {l : Launch} {e : Env} {s : State} {m : MethodId} {args : Array Value} {below : List Frame} {meth : Method} {c : Code} (C : x_C g p s m args c cX7_mirror RX7 8 wsX7_mirror) (hr : meth.sig.returnType = (some .boolean)) (hlk : meth.locks = false) (hnm : meth.name = yX7_mirror.name) {res : Int32 × Hp} : ∀ (n : Nat) (a0 : Nat) (i1 : Int32) (i2 : Int32) (i3 : Int32) (i4 : Int32) (h : Hp), fX7_mirror_w32 n a0 i1 i2 i3 i4 h = some res → XW g p l e { frames := 2, cells := 0, slots := 0, locals := 47 } s m args below meth c (MQ below (x_Q g (some (vI res.1)) res.2) args s 0 0 (x_A g)) 8 0 0 h 32 [some (vR a0), some (vI i1), some (vI i2), some (vI i3), some (vI i4), none, none, none] [] := by
  intro n
  induction n with
  | zero =>
    intro a0 i1 i2 i3 i4 h hf
    have hf2 : (none : Option (Int32 × Hp)) = some res := hf
    cases hf2
  | succ n ih =>
    intro a0 i1 i2 i3 i4 h hf
    rw [fX7_mirror_w32] at hf
    refine x_iload C dX7_mirror_32 (pc' := 34) rfl rfl ?_
    refine x_iload_n C dX7_mirror_34 (pc' := 35) rfl rfl rfl ?_
    refine x_aload_n C dX7_mirror_35 (pc' := 36) rfl rfl rfl ?_
    refine x_getR C (ci := 7) (kf := 5) rfl (by decide) hinX7_mirror_X7 lkX7_mirror_0 rfl hf dX7_mirror_36 (pc' := 39) rfl (fun v1 _ hf => ?_)
    refine x_iload_n C dX7_mirror_39 (pc' := 40) rfl rfl rfl ?_
    refine x_iaload C hf dX7_mirror_40 (pc' := 41) rfl (fun v2 _ hf => ?_)
    obtain ⟨r3, h4, hq, hf⟩ := call_some hf
    refine x_callS C (As := [vI i3, vI v2]) (st := [vI i4]) (r := (some (vI r3))) (h' := h4) (mc := 0) (ms := 0) (k := 0) (n := 0) (mX7_power hq) (va_cwS 2 C.1.2.2.2.2 gX7_mirror_X7_power rfl rfl rfl (by decide +kernel) ⟨Nat.le_of_ble_eq_true rfl, Nat.le_of_ble_eq_true rfl⟩) rfl rfl (Nat.le_of_ble_eq_true rfl) dX7_mirror_41 (pc' := 44) rfl ?_
    refine x_icmp_ge C hf dX7_mirror_44 (pc' := 47) rfl (tgt := 115) (by decide) (fun _ hf => ?_) (fun _ hf => ?_)
    ·
      refine x_keep [true, true, true, true, false, false, false, false] rfl ?_
      refine x_more (k' := 0) (n' := 0) (Nat.le_of_ble_eq_true rfl) (Nat.le_of_ble_eq_true rfl) ?_
      exact mX7_mirror_b115 C hr hlk hnm a0 i1 i2 i3 h4 hf
    ·
      refine x_iconst C (v := 0) (by decide) dX7_mirror_47 (pc' := 48) rfl ?_
      refine x_istore C dX7_mirror_48 (pc' := 50) rfl (by decide) rfl (lv' := [some (vR a0), some (vI i1), some (vI i2), some (vI i3), some (vI i4), some (vI (0 : Int32)), none, none]) rfl ?_
      refine x_iload C dX7_mirror_50 (pc' := 52) rfl rfl ?_
      refine x_istore C dX7_mirror_52 (pc' := 54) rfl (by decide) rfl (lv' := [some (vR a0), some (vI i1), some (vI i2), some (vI i3), some (vI i4), some (vI (0 : Int32)), some (vI i4), none]) rfl ?_
      refine x_iconst C (v := 0) (by decide) dX7_mirror_54 (pc' := 55) rfl ?_
      refine x_istore C dX7_mirror_55 (pc' := 57) rfl (by decide) rfl (lv' := [some (vR a0), some (vI i1), some (vI i2), some (vI i3), some (vI i4), some (vI (0 : Int32)), some (vI i4), some (vI (0 : Int32))]) rfl ?_
      refine x_more (k' := 0) (n' := 0) (Nat.le_of_ble_eq_true rfl) (Nat.le_of_ble_eq_true rfl) ?_
      exact mX7_mirror_w57 C hr hlk hnm (fX7_mirror_w32 n) ih FUEL a0 i1 i2 i3 i4 (0 : Int32) i4 (0 : Int32) h4 hf
def fX7_mirror (h : Hp) (a0 : Nat) (i1 : Int32) (i2 : Int32) : Option (Int32 × Hp) := (pF h a0 7 0 (vI (0 : Int32))).bind fun h1 => call (oK h1 a0 7 (fX7_has h1 a0 i1)) fun r2 h3 => if r2 = 0 then (retZ (0 : Int32) h3) else (call (fX7_isSlot h3 i2) fun r4 h5 => if r4 = 0 then (retZ (0 : Int32) h5) else ((gR h5 a0 7 4).bind fun v6 => (aI h5 v6 0 i1).bind fun v7 => fX7_mirror_w32 FUEL a0 i1 i2 v7 (0 : Int32) h5))
set_option maxHeartbeats 4000000 in
set_option maxRecDepth 100000 in
theorem mX7_mirror {l : Launch} {g : XG} {h : Hp} {a0 : Nat} {i1 : Int32} {i2 : Int32} {res : Int32 × Hp} (hf : fX7_mirror h a0 i1 i2 = some res) : XM l g yX7_mirror wsX7_mirror 2 47 0 0 [vR a0, vI i1, vI i2] h (some (vI res.1)) res.2 := by
  refine x_start (cc := cX7_mirror) (maxL := 8) (ret := (some .boolean)) (by decide) rfl (Nat.le_of_ble_eq_true rfl) (lv := [some (vR a0), some (vI i1), some (vI i2), none, none, none, none, none]) rfl ?_
  intro p e s m args below meth c C hr hlk hnm
  unfold fX7_mirror at hf
  refine x_aload_n C dX7_mirror_0 (pc' := 1) rfl rfl rfl ?_
  refine x_iconst C (v := 0) (by decide) dX7_mirror_1 (pc' := 2) rfl ?_
  refine x_put C (ci := 7) (kf := 0) rfl (by decide) hinX7_mirror_X7 tyX7 tyX7_ok nmX7 lkX7_mirror_2 rfl (Or.inl rfl) rfl hf dX7_mirror_2 (pc' := 5) rfl (fun h1 _ hf => ?_)
  refine x_aload_n C dX7_mirror_5 (pc' := 6) rfl rfl rfl ?_
  refine x_iload_n C dX7_mirror_6 (pc' := 7) rfl rfl rfl ?_
  obtain ⟨r2, h3, hq, hf⟩ := call_some hf
  obtain ⟨hob, hq⟩ := oK_some hq
  refine x_callV C (As := [vI i1]) (st := []) (r := (some (vI r2))) (h' := h3) (mc := 0) (ms := 0) (k := 0) (n := 0) (mX7_has hq) hob (ci := 7) rfl (cwV 1 C.1.2.2.2.2 gX7_mirror_X7_has rfl rfl rfl (by decide +kernel) ⟨Nat.le_of_ble_eq_true rfl, Nat.le_of_ble_eq_true rfl⟩) rfl rfl (Nat.le_of_ble_eq_true rfl) dX7_mirror_7 (pc' := 10) rfl ?_
  refine x_if_eq C hf dX7_mirror_10 (pc' := 13) rfl (tgt := 20) (by decide) (fun _ hf => ?_) (fun _ hf => ?_)
  ·
    refine x_iconst C (v := 0) (by decide) dX7_mirror_20 (pc' := 21) rfl ?_
    exact x_zret C hf hr hlk dX7_mirror_21
  ·
    refine x_iload_n C dX7_mirror_13 (pc' := 14) rfl rfl rfl ?_
    obtain ⟨r4, h5, hq, hf⟩ := call_some hf
    refine x_callS C (As := [vI i2]) (st := []) (r := (some (vI r4))) (h' := h5) (mc := 0) (ms := 0) (k := 0) (n := 0) (mX7_isSlot hq) (va_cwS 1 C.1.2.2.2.2 gX7_mirror_X7_isSlot rfl rfl rfl (by decide +kernel) ⟨Nat.le_of_ble_eq_true rfl, Nat.le_of_ble_eq_true rfl⟩) rfl rfl (Nat.le_of_ble_eq_true rfl) dX7_mirror_14 (pc' := 17) rfl ?_
    refine x_if_ne C hf dX7_mirror_17 (pc' := 20) rfl (tgt := 22) (by decide) (fun _ hf => ?_) (fun _ hf => ?_)
    ·
      refine x_iconst C (v := 0) (by decide) dX7_mirror_20 (pc' := 21) rfl ?_
      exact x_zret C hf hr hlk dX7_mirror_21
    ·
      refine x_aload_n C dX7_mirror_22 (pc' := 23) rfl rfl rfl ?_
      refine x_getR C (ci := 7) (kf := 4) rfl (by decide) hinX7_mirror_X7 lkX7_mirror_3 rfl hf dX7_mirror_23 (pc' := 26) rfl (fun v6 _ hf => ?_)
      refine x_iload_n C dX7_mirror_26 (pc' := 27) rfl rfl rfl ?_
      refine x_iaload C hf dX7_mirror_27 (pc' := 28) rfl (fun v7 _ hf => ?_)
      refine x_istore_n C dX7_mirror_28 (pc' := 29) rfl rfl (by decide) rfl (lv' := [some (vR a0), some (vI i1), some (vI i2), some (vI v7), none, none, none, none]) rfl ?_
      refine x_iconst C (v := 0) (by decide) dX7_mirror_29 (pc' := 30) rfl ?_
      refine x_istore C dX7_mirror_30 (pc' := 32) rfl (by decide) rfl (lv' := [some (vR a0), some (vI i1), some (vI i2), some (vI v7), some (vI (0 : Int32)), none, none, none]) rfl ?_
      refine x_more (k' := 0) (n' := 0) (Nat.le_of_ble_eq_true rfl) (Nat.le_of_ble_eq_true rfl) ?_
      exact mX7_mirror_w32 C hr hlk hnm FUEL a0 i1 i2 v7 (0 : Int32) h5 hf
-- ===== X7_rename
theorem lkX7_rename_0 : Cond.fieldLink RX7 17 "MossRingsModel" "widths" "[I" ∈ wsX7_rename := by decide +kernel
theorem hinX7_rename_X7 : ∀ w ∈ u_ws RX7 TX7 27, w ∈ wsX7_rename := by decide +kernel
theorem lkX7_rename_1 : Cond.fieldLink RX7 20 "MossRingsModel" "table" "[I" ∈ wsX7_rename := by decide +kernel
theorem lkX7_rename_2 : Cond.fieldLink RX7 7 "MossRingsModel" "tape" "[B" ∈ wsX7_rename := by decide +kernel
theorem lkX7_rename_3 : Cond.fieldLink RX7 80 "MossRingsModel" "thrown" "I" ∈ wsX7_rename := by decide +kernel
theorem lkX7_rename_4 : Cond.fieldLink RX7 91 "MossRingsModel" "size" "I" ∈ wsX7_rename := by decide +kernel
theorem lkX7_rename_5 : Cond.fieldLink RX7 13 "MossRingsModel" "states" "[I" ∈ wsX7_rename := by decide +kernel
def fX7_rename_b227 (a0 : Nat) (i1 : Int32) (i2 : Int32) (i3 : Int32) (h : Hp) : Option (Int32 × Hp) := (gR h a0 7 5).bind fun v1 => (aI h v1 0 i1).bind fun v2 => (oK h a0 7 (fX7_lay h a0 i2 i3 v2)).bind fun h4 => retZ (1 : Int32) h4
set_option maxHeartbeats 4000000 in
set_option maxRecDepth 100000 in
theorem mX7_rename_b227 {g : XG} {p : Program} {l : Launch} {e : Env} {s : State} {m : MethodId} {args : Array Value} {below : List Frame} {meth : Method} {c : Code} (C : x_C g p s m args c cX7_rename RX7 8 wsX7_rename) (hr : meth.sig.returnType = (some .boolean)) (hlk : meth.locks = false) (hnm : meth.name = yX7_rename.name) {res : Int32 × Hp} (a0 : Nat) (i1 : Int32) (i2 : Int32) (i3 : Int32) (h : Hp) (hf : fX7_rename_b227 a0 i1 i2 i3 h = some res) : XW g p l e { frames := 2, cells := 0, slots := 0, locals := 47 } s m args below meth c (MQ below (x_Q g (some (vI res.1)) res.2) args s 0 0 (x_A g)) 8 0 0 h 227 [some (vR a0), some (vI i1), some (vI i2), some (vI i3), none, none, none, none] [] := by
  unfold fX7_rename_b227 at hf
  refine x_aload_n C dX7_rename_227 (pc' := 228) rfl rfl rfl ?_
  refine x_iload_n C dX7_rename_228 (pc' := 229) rfl rfl rfl ?_
  refine x_iload_n C dX7_rename_229 (pc' := 230) rfl rfl rfl ?_
  refine x_aload_n C dX7_rename_230 (pc' := 231) rfl rfl rfl ?_
  refine x_getR C (ci := 7) (kf := 5) rfl (by decide) hinX7_rename_X7 lkX7_rename_0 rfl hf dX7_rename_231 (pc' := 234) rfl (fun v1 _ hf => ?_)
  refine x_iload_n C dX7_rename_234 (pc' := 235) rfl rfl rfl ?_
  refine x_iaload C hf dX7_rename_235 (pc' := 236) rfl (fun v2 _ hf => ?_)
  obtain ⟨h4, hq, hf⟩ := bind_some hf
  obtain ⟨hob, hq⟩ := oK_some hq
  refine x_callV C (As := [vI i2, vI i3, vI v2]) (st := []) (r := none) (h' := h4) (mc := 0) (ms := 0) (k := 0) (n := 0) (mX7_lay hq) hob (ci := 7) rfl (cwV 3 C.1.2.2.2.2 gX7_rename_X7_lay rfl rfl rfl (by decide +kernel) ⟨Nat.le_of_ble_eq_true rfl, Nat.le_of_ble_eq_true rfl⟩) rfl rfl (Nat.le_of_ble_eq_true rfl) dX7_rename_236 (pc' := 239) rfl ?_
  refine x_iconst C (v := 1) (by decide) dX7_rename_239 (pc' := 240) rfl ?_
  exact x_zret C hf hr hlk dX7_rename_240
def fX7_rename_b208 (w120 : Nat → Int32 → Int32 → Int32 → Int32 → Hp → Option (Int32 × Hp)) (a0 : Nat) (i1 : Int32) (i2 : Int32) (i3 : Int32) (i5 : Int32) (i7 : Int32) (h : Hp) : Option (Int32 × Hp) := (gR h a0 7 6).bind fun v1 => (sI h v1 0 ((162 : Int32) + i5) i7).bind fun h2 => w120 a0 i1 i2 i3 (i5 + 1) h2
set_option maxHeartbeats 4000000 in
set_option maxRecDepth 100000 in
theorem mX7_rename_b208 {g : XG} {p : Program} {l : Launch} {e : Env} {s : State} {m : MethodId} {args : Array Value} {below : List Frame} {meth : Method} {c : Code} (C : x_C g p s m args c cX7_rename RX7 8 wsX7_rename) (hr : meth.sig.returnType = (some .boolean)) (hlk : meth.locks = false) (hnm : meth.name = yX7_rename.name) {res : Int32 × Hp} (w120 : Nat → Int32 → Int32 → Int32 → Int32 → Hp → Option (Int32 × Hp)) (hw120 : ∀ (a0 : Nat) (i1 : Int32) (i2 : Int32) (i3 : Int32) (i5 : Int32) (h : Hp), w120 a0 i1 i2 i3 i5 h = some res → XW g p l e { frames := 2, cells := 0, slots := 0, locals := 47 } s m args below meth c (MQ below (x_Q g (some (vI res.1)) res.2) args s 0 0 (x_A g)) 8 0 0 h 120 [some (vR a0), some (vI i1), some (vI i2), some (vI i3), none, some (vI i5), none, none] []) (a0 : Nat) (i1 : Int32) (i2 : Int32) (i3 : Int32) (i5 : Int32) (i7 : Int32) (h : Hp) (hf : fX7_rename_b208 w120 a0 i1 i2 i3 i5 i7 h = some res) : XW g p l e { frames := 2, cells := 0, slots := 0, locals := 47 } s m args below meth c (MQ below (x_Q g (some (vI res.1)) res.2) args s 0 0 (x_A g)) 8 0 0 h 208 [some (vR a0), some (vI i1), some (vI i2), some (vI i3), none, some (vI i5), none, some (vI i7)] [] := by
  unfold fX7_rename_b208 at hf
  refine x_aload_n C dX7_rename_208 (pc' := 209) rfl rfl rfl ?_
  refine x_getR C (ci := 7) (kf := 6) rfl (by decide) hinX7_rename_X7 lkX7_rename_1 rfl hf dX7_rename_209 (pc' := 212) rfl (fun v1 _ hf => ?_)
  refine x_sipush C (v := 162) (by decide) dX7_rename_212 (pc' := 215) rfl ?_
  refine x_iload C dX7_rename_215 (pc' := 217) rfl rfl ?_
  refine x_iadd C dX7_rename_217 (pc' := 218) rfl ?_
  refine x_iload C dX7_rename_218 (pc' := 220) rfl rfl ?_
  refine x_iastore C hf dX7_rename_220 (pc' := 221) rfl (fun h2 _ hf => ?_)
  refine x_iinc C dX7_rename_221 (pc' := 224) rfl rfl (v := (i5 + 1)) rfl (by decide) rfl (lv' := [some (vR a0), some (vI i1), some (vI i2), some (vI i3), none, some (vI (i5 + 1)), none, some (vI i7)]) rfl ?_
  refine x_goto C dX7_rename_224 (tgt := 120) (by decide) ?_
  refine x_keep [true, true, true, true, false, true, false, false] rfl ?_
  exact hw120 a0 i1 i2 i3 (i5 + 1) h2 hf
def fX7_rename_w185 (w120 : Nat → Int32 → Int32 → Int32 → Int32 → Hp → Option (Int32 × Hp)) : Nat → Nat → Int32 → Int32 → Int32 → Int32 → Int32 → Int32 → Hp → Option (Int32 × Hp)
  | 0 => fun _ _ _ _ _ _ _ _ => none
  | n + 1 => fun a0 i1 i2 i3 i5 i6 i7 h => (gR h a0 7 1).bind fun v1 => (aI h v1 1 i7).bind fun v2 => call (oK h a0 7 (fX7_tells h a0 i1 i6)) fun r3 h4 => if v2 = r3 then (fX7_rename_b208 w120 a0 i1 i2 i3 i5 i7 h4) else ((fX7_rename_w185 w120 n) a0 i1 i2 i3 i5 i6 (i7 + 1) h4)
set_option maxHeartbeats 4000000 in
set_option maxRecDepth 100000 in
theorem mX7_rename_w185 {g : XG} {p : Program} {l : Launch} {e : Env} {s : State} {m : MethodId} {args : Array Value} {below : List Frame} {meth : Method} {c : Code} (C : x_C g p s m args c cX7_rename RX7 8 wsX7_rename) (hr : meth.sig.returnType = (some .boolean)) (hlk : meth.locks = false) (hnm : meth.name = yX7_rename.name) {res : Int32 × Hp} (w120 : Nat → Int32 → Int32 → Int32 → Int32 → Hp → Option (Int32 × Hp)) (hw120 : ∀ (a0 : Nat) (i1 : Int32) (i2 : Int32) (i3 : Int32) (i5 : Int32) (h : Hp), w120 a0 i1 i2 i3 i5 h = some res → XW g p l e { frames := 2, cells := 0, slots := 0, locals := 47 } s m args below meth c (MQ below (x_Q g (some (vI res.1)) res.2) args s 0 0 (x_A g)) 8 0 0 h 120 [some (vR a0), some (vI i1), some (vI i2), some (vI i3), none, some (vI i5), none, none] []) : ∀ (n : Nat) (a0 : Nat) (i1 : Int32) (i2 : Int32) (i3 : Int32) (i5 : Int32) (i6 : Int32) (i7 : Int32) (h : Hp), fX7_rename_w185 w120 n a0 i1 i2 i3 i5 i6 i7 h = some res → XW g p l e { frames := 2, cells := 0, slots := 0, locals := 47 } s m args below meth c (MQ below (x_Q g (some (vI res.1)) res.2) args s 0 0 (x_A g)) 8 0 0 h 185 [some (vR a0), some (vI i1), some (vI i2), some (vI i3), none, some (vI i5), some (vI i6), some (vI i7)] [] := by
  intro n
  induction n with
  | zero =>
    intro a0 i1 i2 i3 i5 i6 i7 h hf
    have hf2 : (none : Option (Int32 × Hp)) = some res := hf
    cases hf2
  | succ n ih =>
    intro a0 i1 i2 i3 i5 i6 i7 h hf
    rw [fX7_rename_w185] at hf
    refine x_aload_n C dX7_rename_185 (pc' := 186) rfl rfl rfl ?_
    refine x_getR C (ci := 7) (kf := 1) rfl (by decide) hinX7_rename_X7 lkX7_rename_2 rfl hf dX7_rename_186 (pc' := 189) rfl (fun v1 _ hf => ?_)
    refine x_iload C dX7_rename_189 (pc' := 191) rfl rfl ?_
    refine x_baloadB C hf dX7_rename_191 (pc' := 192) rfl (fun v2 _ hf => ?_)
    refine x_aload_n C dX7_rename_192 (pc' := 193) rfl rfl rfl ?_
    refine x_iload_n C dX7_rename_193 (pc' := 194) rfl rfl rfl ?_
    refine x_iload C dX7_rename_194 (pc' := 196) rfl rfl ?_
    obtain ⟨r3, h4, hq, hf⟩ := call_some hf
    obtain ⟨hob, hq⟩ := oK_some hq
    refine x_callV C (As := [vI i1, vI i6]) (st := [vI v2]) (r := (some (vI r3))) (h' := h4) (mc := 0) (ms := 0) (k := 0) (n := 0) (mX7_tells hq) hob (ci := 7) rfl (cwV 2 C.1.2.2.2.2 gX7_rename_X7_tells rfl rfl rfl (by decide +kernel) ⟨Nat.le_of_ble_eq_true rfl, Nat.le_of_ble_eq_true rfl⟩) rfl rfl (Nat.le_of_ble_eq_true rfl) dX7_rename_196 (pc' := 199) rfl ?_
    refine x_icmp_eq C hf dX7_rename_199 (pc' := 202) rfl (tgt := 208) (by decide) (fun _ hf => ?_) (fun _ hf => ?_)
    ·
      refine x_keep [true, true, true, true, false, true, false, true] rfl ?_
      refine x_more (k' := 0) (n' := 0) (Nat.le_of_ble_eq_true rfl) (Nat.le_of_ble_eq_true rfl) ?_
      exact mX7_rename_b208 C hr hlk hnm w120 hw120 a0 i1 i2 i3 i5 i7 h4 hf
    ·
      refine x_iinc C dX7_rename_202 (pc' := 205) rfl rfl (v := (i7 + 1)) rfl (by decide) rfl (lv' := [some (vR a0), some (vI i1), some (vI i2), some (vI i3), none, some (vI i5), some (vI i6), some (vI (i7 + 1))]) rfl ?_
      refine x_goto C dX7_rename_205 (tgt := 185) (by decide) ?_
      exact ih a0 i1 i2 i3 i5 i6 (i7 + 1) h4 hf
def fX7_rename_b182 (w120 : Nat → Int32 → Int32 → Int32 → Int32 → Hp → Option (Int32 × Hp)) (a0 : Nat) (i1 : Int32) (i2 : Int32) (i3 : Int32) (i5 : Int32) (i6 : Int32) (h : Hp) : Option (Int32 × Hp) := fX7_rename_w185 w120 FUEL a0 i1 i2 i3 i5 i6 (0 : Int32) h
set_option maxHeartbeats 4000000 in
set_option maxRecDepth 100000 in
theorem mX7_rename_b182 {g : XG} {p : Program} {l : Launch} {e : Env} {s : State} {m : MethodId} {args : Array Value} {below : List Frame} {meth : Method} {c : Code} (C : x_C g p s m args c cX7_rename RX7 8 wsX7_rename) (hr : meth.sig.returnType = (some .boolean)) (hlk : meth.locks = false) (hnm : meth.name = yX7_rename.name) {res : Int32 × Hp} (w120 : Nat → Int32 → Int32 → Int32 → Int32 → Hp → Option (Int32 × Hp)) (hw120 : ∀ (a0 : Nat) (i1 : Int32) (i2 : Int32) (i3 : Int32) (i5 : Int32) (h : Hp), w120 a0 i1 i2 i3 i5 h = some res → XW g p l e { frames := 2, cells := 0, slots := 0, locals := 47 } s m args below meth c (MQ below (x_Q g (some (vI res.1)) res.2) args s 0 0 (x_A g)) 8 0 0 h 120 [some (vR a0), some (vI i1), some (vI i2), some (vI i3), none, some (vI i5), none, none] []) (a0 : Nat) (i1 : Int32) (i2 : Int32) (i3 : Int32) (i5 : Int32) (i6 : Int32) (h : Hp) (hf : fX7_rename_b182 w120 a0 i1 i2 i3 i5 i6 h = some res) : XW g p l e { frames := 2, cells := 0, slots := 0, locals := 47 } s m args below meth c (MQ below (x_Q g (some (vI res.1)) res.2) args s 0 0 (x_A g)) 8 0 0 h 182 [some (vR a0), some (vI i1), some (vI i2), some (vI i3), none, some (vI i5), some (vI i6), none] [] := by
  unfold fX7_rename_b182 at hf
  refine x_iconst C (v := 0) (by decide) dX7_rename_182 (pc' := 183) rfl ?_
  refine x_istore C dX7_rename_183 (pc' := 185) rfl (by decide) rfl (lv' := [some (vR a0), some (vI i1), some (vI i2), some (vI i3), none, some (vI i5), some (vI i6), some (vI (0 : Int32))]) rfl ?_
  refine x_more (k' := 0) (n' := 0) (Nat.le_of_ble_eq_true rfl) (Nat.le_of_ble_eq_true rfl) ?_
  exact mX7_rename_w185 C hr hlk hnm w120 hw120 FUEL a0 i1 i2 i3 i5 i6 (0 : Int32) h hf
def fX7_rename_w148 (w120 : Nat → Int32 → Int32 → Int32 → Int32 → Hp → Option (Int32 × Hp)) : Nat → Nat → Int32 → Int32 → Int32 → Int32 → Int32 → Int32 → Hp → Option (Int32 × Hp)
  | 0 => fun _ _ _ _ _ _ _ _ => none
  | n + 1 => fun a0 i1 i2 i3 i5 i6 i7 h => if i7 < 0 then (fX7_rename_b182 w120 a0 i1 i2 i3 i5 i6 h) else ((gR h a0 7 1).bind fun v1 => call (fX7_power h i3 i7) fun r2 h3 => iDiv i5 r2 fun v4 => iRem v4 i3 fun v5 => (aI h3 v1 1 v5).bind fun v6 => setv (((i3 * i6) + v6)) fun v7 => (fX7_rename_w148 w120 n) a0 i1 i2 i3 i5 v7 (i7 + (-1)) h3)
set_option maxHeartbeats 4000000 in
set_option maxRecDepth 100000 in
theorem mX7_rename_w148 {g : XG} {p : Program} {l : Launch} {e : Env} {s : State} {m : MethodId} {args : Array Value} {below : List Frame} {meth : Method} {c : Code} (C : x_C g p s m args c cX7_rename RX7 8 wsX7_rename) (hr : meth.sig.returnType = (some .boolean)) (hlk : meth.locks = false) (hnm : meth.name = yX7_rename.name) {res : Int32 × Hp} (w120 : Nat → Int32 → Int32 → Int32 → Int32 → Hp → Option (Int32 × Hp)) (hw120 : ∀ (a0 : Nat) (i1 : Int32) (i2 : Int32) (i3 : Int32) (i5 : Int32) (h : Hp), w120 a0 i1 i2 i3 i5 h = some res → XW g p l e { frames := 2, cells := 0, slots := 0, locals := 47 } s m args below meth c (MQ below (x_Q g (some (vI res.1)) res.2) args s 0 0 (x_A g)) 8 0 0 h 120 [some (vR a0), some (vI i1), some (vI i2), some (vI i3), none, some (vI i5), none, none] []) : ∀ (n : Nat) (a0 : Nat) (i1 : Int32) (i2 : Int32) (i3 : Int32) (i5 : Int32) (i6 : Int32) (i7 : Int32) (h : Hp), fX7_rename_w148 w120 n a0 i1 i2 i3 i5 i6 i7 h = some res → XW g p l e { frames := 2, cells := 0, slots := 0, locals := 47 } s m args below meth c (MQ below (x_Q g (some (vI res.1)) res.2) args s 0 0 (x_A g)) 8 0 0 h 148 [some (vR a0), some (vI i1), some (vI i2), some (vI i3), none, some (vI i5), some (vI i6), some (vI i7)] [] := by
  intro n
  induction n with
  | zero =>
    intro a0 i1 i2 i3 i5 i6 i7 h hf
    have hf2 : (none : Option (Int32 × Hp)) = some res := hf
    cases hf2
  | succ n ih =>
    intro a0 i1 i2 i3 i5 i6 i7 h hf
    rw [fX7_rename_w148] at hf
    refine x_iload C dX7_rename_148 (pc' := 150) rfl rfl ?_
    refine x_if_lt C hf dX7_rename_150 (pc' := 153) rfl (tgt := 182) (by decide) (fun _ hf => ?_) (fun _ hf => ?_)
    ·
      refine x_keep [true, true, true, true, false, true, true, false] rfl ?_
      refine x_more (k' := 0) (n' := 0) (Nat.le_of_ble_eq_true rfl) (Nat.le_of_ble_eq_true rfl) ?_
      exact mX7_rename_b182 C hr hlk hnm w120 hw120 a0 i1 i2 i3 i5 i6 h hf
    ·
      refine x_iload_n C dX7_rename_153 (pc' := 154) rfl rfl rfl ?_
      refine x_iload C dX7_rename_154 (pc' := 156) rfl rfl ?_
      refine x_imul C dX7_rename_156 (pc' := 157) rfl ?_
      refine x_aload_n C dX7_rename_157 (pc' := 158) rfl rfl rfl ?_
      refine x_getR C (ci := 7) (kf := 1) rfl (by decide) hinX7_rename_X7 lkX7_rename_2 rfl hf dX7_rename_158 (pc' := 161) rfl (fun v1 _ hf => ?_)
      refine x_iload C dX7_rename_161 (pc' := 163) rfl rfl ?_
      refine x_iload_n C dX7_rename_163 (pc' := 164) rfl rfl rfl ?_
      refine x_iload C dX7_rename_164 (pc' := 166) rfl rfl ?_
      obtain ⟨r2, h3, hq, hf⟩ := call_some hf
      refine x_callS C (As := [vI i3, vI i7]) (st := [vI i5, vR v1, vI (i3 * i6)]) (r := (some (vI r2))) (h' := h3) (mc := 0) (ms := 0) (k := 0) (n := 0) (mX7_power hq) (va_cwS 2 C.1.2.2.2.2 gX7_rename_X7_power rfl rfl rfl (by decide +kernel) ⟨Nat.le_of_ble_eq_true rfl, Nat.le_of_ble_eq_true rfl⟩) rfl rfl (Nat.le_of_ble_eq_true rfl) dX7_rename_166 (pc' := 169) rfl ?_
      refine x_idiv C hf dX7_rename_169 (pc' := 170) rfl (fun _ v4 _ hf => ?_)
      refine x_iload_n C dX7_rename_170 (pc' := 171) rfl rfl rfl ?_
      refine x_irem C hf dX7_rename_171 (pc' := 172) rfl (fun _ v5 _ hf => ?_)
      refine x_baloadB C hf dX7_rename_172 (pc' := 173) rfl (fun v6 _ hf => ?_)
      refine x_iadd C dX7_rename_173 (pc' := 174) rfl ?_
      refine x_nameI hf (fun v7 _ hf => ?_)
      refine x_istore C dX7_rename_174 (pc' := 176) rfl (by decide) rfl (lv' := [some (vR a0), some (vI i1), some (vI i2), some (vI i3), none, some (vI i5), some (vI v7), some (vI i7)]) rfl ?_
      refine x_iinc C dX7_rename_176 (pc' := 179) rfl rfl (v := (i7 + (-1))) rfl (by decide) rfl (lv' := [some (vR a0), some (vI i1), some (vI i2), some (vI i3), none, some (vI i5), some (vI v7), some (vI (i7 + (-1)))]) rfl ?_
      refine x_goto C dX7_rename_179 (tgt := 148) (by decide) ?_
      exact ih a0 i1 i2 i3 i5 v7 (i7 + (-1)) h3 hf
def fX7_rename_w120 : Nat → Nat → Int32 → Int32 → Int32 → Int32 → Hp → Option (Int32 × Hp)
  | 0 => fun _ _ _ _ _ _ => none
  | n + 1 => fun a0 i1 i2 i3 i5 h => (gR h a0 7 5).bind fun v1 => (aI h v1 0 i1).bind fun v2 => call (fX7_power h i3 v2) fun r3 h4 => if r3 ≤ i5 then (fX7_rename_b227 a0 i1 i2 i3 h4) else ((gR h4 a0 7 5).bind fun v5 => (aI h4 v5 0 i1).bind fun v6 => setv ((v6 - (1 : Int32))) fun v7 => fX7_rename_w148 (fX7_rename_w120 n) FUEL a0 i1 i2 i3 i5 (0 : Int32) v7 h4)
set_option maxHeartbeats 4000000 in
set_option maxRecDepth 100000 in
theorem mX7_rename_w120 {g : XG} {p : Program} {l : Launch} {e : Env} {s : State} {m : MethodId} {args : Array Value} {below : List Frame} {meth : Method} {c : Code} (C : x_C g p s m args c cX7_rename RX7 8 wsX7_rename) (hr : meth.sig.returnType = (some .boolean)) (hlk : meth.locks = false) (hnm : meth.name = yX7_rename.name) {res : Int32 × Hp} : ∀ (n : Nat) (a0 : Nat) (i1 : Int32) (i2 : Int32) (i3 : Int32) (i5 : Int32) (h : Hp), fX7_rename_w120 n a0 i1 i2 i3 i5 h = some res → XW g p l e { frames := 2, cells := 0, slots := 0, locals := 47 } s m args below meth c (MQ below (x_Q g (some (vI res.1)) res.2) args s 0 0 (x_A g)) 8 0 0 h 120 [some (vR a0), some (vI i1), some (vI i2), some (vI i3), none, some (vI i5), none, none] [] := by
  intro n
  induction n with
  | zero =>
    intro a0 i1 i2 i3 i5 h hf
    have hf2 : (none : Option (Int32 × Hp)) = some res := hf
    cases hf2
  | succ n ih =>
    intro a0 i1 i2 i3 i5 h hf
    rw [fX7_rename_w120] at hf
    refine x_iload C dX7_rename_120 (pc' := 122) rfl rfl ?_
    refine x_iload_n C dX7_rename_122 (pc' := 123) rfl rfl rfl ?_
    refine x_aload_n C dX7_rename_123 (pc' := 124) rfl rfl rfl ?_
    refine x_getR C (ci := 7) (kf := 5) rfl (by decide) hinX7_rename_X7 lkX7_rename_0 rfl hf dX7_rename_124 (pc' := 127) rfl (fun v1 _ hf => ?_)
    refine x_iload_n C dX7_rename_127 (pc' := 128) rfl rfl rfl ?_
    refine x_iaload C hf dX7_rename_128 (pc' := 129) rfl (fun v2 _ hf => ?_)
    obtain ⟨r3, h4, hq, hf⟩ := call_some hf
    refine x_callS C (As := [vI i3, vI v2]) (st := [vI i5]) (r := (some (vI r3))) (h' := h4) (mc := 0) (ms := 0) (k := 0) (n := 0) (mX7_power hq) (va_cwS 2 C.1.2.2.2.2 gX7_rename_X7_power rfl rfl rfl (by decide +kernel) ⟨Nat.le_of_ble_eq_true rfl, Nat.le_of_ble_eq_true rfl⟩) rfl rfl (Nat.le_of_ble_eq_true rfl) dX7_rename_129 (pc' := 132) rfl ?_
    refine x_icmp_ge C hf dX7_rename_132 (pc' := 135) rfl (tgt := 227) (by decide) (fun _ hf => ?_) (fun _ hf => ?_)
    ·
      refine x_keep [true, true, true, true, false, false, false, false] rfl ?_
      refine x_more (k' := 0) (n' := 0) (Nat.le_of_ble_eq_true rfl) (Nat.le_of_ble_eq_true rfl) ?_
      exact mX7_rename_b227 C hr hlk hnm a0 i1 i2 i3 h4 hf
    ·
      refine x_iconst C (v := 0) (by decide) dX7_rename_135 (pc' := 136) rfl ?_
      refine x_istore C dX7_rename_136 (pc' := 138) rfl (by decide) rfl (lv' := [some (vR a0), some (vI i1), some (vI i2), some (vI i3), none, some (vI i5), some (vI (0 : Int32)), none]) rfl ?_
      refine x_aload_n C dX7_rename_138 (pc' := 139) rfl rfl rfl ?_
      refine x_getR C (ci := 7) (kf := 5) rfl (by decide) hinX7_rename_X7 lkX7_rename_0 rfl hf dX7_rename_139 (pc' := 142) rfl (fun v5 _ hf => ?_)
      refine x_iload_n C dX7_rename_142 (pc' := 143) rfl rfl rfl ?_
      refine x_iaload C hf dX7_rename_143 (pc' := 144) rfl (fun v6 _ hf => ?_)
      refine x_iconst C (v := 1) (by decide) dX7_rename_144 (pc' := 145) rfl ?_
      refine x_isub C dX7_rename_145 (pc' := 146) rfl ?_
      refine x_nameI hf (fun v7 _ hf => ?_)
      refine x_istore C dX7_rename_146 (pc' := 148) rfl (by decide) rfl (lv' := [some (vR a0), some (vI i1), some (vI i2), some (vI i3), none, some (vI i5), some (vI (0 : Int32)), some (vI v7)]) rfl ?_
      refine x_more (k' := 0) (n' := 0) (Nat.le_of_ble_eq_true rfl) (Nat.le_of_ble_eq_true rfl) ?_
      exact mX7_rename_w148 C hr hlk hnm (fX7_rename_w120 n) ih FUEL a0 i1 i2 i3 i5 (0 : Int32) v7 h4 hf
def fX7_rename_b117 (a0 : Nat) (i1 : Int32) (i2 : Int32) (i3 : Int32) (h : Hp) : Option (Int32 × Hp) := fX7_rename_w120 FUEL a0 i1 i2 i3 (0 : Int32) h
set_option maxHeartbeats 4000000 in
set_option maxRecDepth 100000 in
theorem mX7_rename_b117 {g : XG} {p : Program} {l : Launch} {e : Env} {s : State} {m : MethodId} {args : Array Value} {below : List Frame} {meth : Method} {c : Code} (C : x_C g p s m args c cX7_rename RX7 8 wsX7_rename) (hr : meth.sig.returnType = (some .boolean)) (hlk : meth.locks = false) (hnm : meth.name = yX7_rename.name) {res : Int32 × Hp} (a0 : Nat) (i1 : Int32) (i2 : Int32) (i3 : Int32) (h : Hp) (hf : fX7_rename_b117 a0 i1 i2 i3 h = some res) : XW g p l e { frames := 2, cells := 0, slots := 0, locals := 47 } s m args below meth c (MQ below (x_Q g (some (vI res.1)) res.2) args s 0 0 (x_A g)) 8 0 0 h 117 [some (vR a0), some (vI i1), some (vI i2), some (vI i3), none, none, none, none] [] := by
  unfold fX7_rename_b117 at hf
  refine x_iconst C (v := 0) (by decide) dX7_rename_117 (pc' := 118) rfl ?_
  refine x_istore C dX7_rename_118 (pc' := 120) rfl (by decide) rfl (lv' := [some (vR a0), some (vI i1), some (vI i2), some (vI i3), none, some (vI (0 : Int32)), none, none]) rfl ?_
  refine x_more (k' := 0) (n' := 0) (Nat.le_of_ble_eq_true rfl) (Nat.le_of_ble_eq_true rfl) ?_
  exact mX7_rename_w120 C hr hlk hnm FUEL a0 i1 i2 i3 (0 : Int32) h hf
def fX7_rename_w52 : Nat → Nat → Int32 → Int32 → Int32 → Int32 → Int32 → Hp → Option (Int32 × Hp)
  | 0 => fun _ _ _ _ _ _ _ => none
  | n + 1 => fun a0 i1 i2 i3 i4 i5 h => if i3 ≤ i5 then (fX7_rename_b117 a0 i1 i2 i3 h) else ((gR h a0 7 1).bind fun v1 => (aI h v1 1 i5).bind fun v2 => if v2 < 0 then (retZ (0 : Int32) h) else ((gR h a0 7 1).bind fun v3 => (aI h v3 1 i5).bind fun v4 => if i3 ≤ v4 then (retZ (0 : Int32) h) else ((gR h a0 7 1).bind fun v5 => (aI h v5 1 i5).bind fun v6 => if ((i4 >>> (v6 &&& 31)) &&& (1 : Int32)) = (1 : Int32) then (retZ (0 : Int32) h) else ((gR h a0 7 1).bind fun v7 => (aI h v7 1 i5).bind fun v8 => setv ((i4 ||| ((1 : Int32) <<< (v8 &&& 31)))) fun v9 => (fX7_rename_w52 n) a0 i1 i2 i3 v9 (i5 + 1) h))))
set_option maxHeartbeats 4000000 in
set_option maxRecDepth 100000 in
theorem mX7_rename_w52 {g : XG} {p : Program} {l : Launch} {e : Env} {s : State} {m : MethodId} {args : Array Value} {below : List Frame} {meth : Method} {c : Code} (C : x_C g p s m args c cX7_rename RX7 8 wsX7_rename) (hr : meth.sig.returnType = (some .boolean)) (hlk : meth.locks = false) (hnm : meth.name = yX7_rename.name) {res : Int32 × Hp} : ∀ (n : Nat) (a0 : Nat) (i1 : Int32) (i2 : Int32) (i3 : Int32) (i4 : Int32) (i5 : Int32) (h : Hp), fX7_rename_w52 n a0 i1 i2 i3 i4 i5 h = some res → XW g p l e { frames := 2, cells := 0, slots := 0, locals := 47 } s m args below meth c (MQ below (x_Q g (some (vI res.1)) res.2) args s 0 0 (x_A g)) 8 0 0 h 52 [some (vR a0), some (vI i1), some (vI i2), some (vI i3), some (vI i4), some (vI i5), none, none] [] := by
  intro n
  induction n with
  | zero =>
    intro a0 i1 i2 i3 i4 i5 h hf
    have hf2 : (none : Option (Int32 × Hp)) = some res := hf
    cases hf2
  | succ n ih =>
    intro a0 i1 i2 i3 i4 i5 h hf
    rw [fX7_rename_w52] at hf
    refine x_iload C dX7_rename_52 (pc' := 54) rfl rfl ?_
    refine x_iload_n C dX7_rename_54 (pc' := 55) rfl rfl rfl ?_
    refine x_icmp_ge C hf dX7_rename_55 (pc' := 58) rfl (tgt := 117) (by decide) (fun _ hf => ?_) (fun _ hf => ?_)
    ·
      refine x_keep [true, true, true, true, false, false, false, false] rfl ?_
      refine x_more (k' := 0) (n' := 0) (Nat.le_of_ble_eq_true rfl) (Nat.le_of_ble_eq_true rfl) ?_
      exact mX7_rename_b117 C hr hlk hnm a0 i1 i2 i3 h hf
    ·
      refine x_aload_n C dX7_rename_58 (pc' := 59) rfl rfl rfl ?_
      refine x_getR C (ci := 7) (kf := 1) rfl (by decide) hinX7_rename_X7 lkX7_rename_2 rfl hf dX7_rename_59 (pc' := 62) rfl (fun v1 _ hf => ?_)
      refine x_iload C dX7_rename_62 (pc' := 64) rfl rfl ?_
      refine x_baloadB C hf dX7_rename_64 (pc' := 65) rfl (fun v2 _ hf => ?_)
      refine x_if_lt C hf dX7_rename_65 (pc' := 68) rfl (tgt := 95) (by decide) (fun _ hf => ?_) (fun _ hf => ?_)
      ·
        refine x_iconst C (v := 0) (by decide) dX7_rename_95 (pc' := 96) rfl ?_
        exact x_zret C hf hr hlk dX7_rename_96
      ·
        refine x_aload_n C dX7_rename_68 (pc' := 69) rfl rfl rfl ?_
        refine x_getR C (ci := 7) (kf := 1) rfl (by decide) hinX7_rename_X7 lkX7_rename_2 rfl hf dX7_rename_69 (pc' := 72) rfl (fun v3 _ hf => ?_)
        refine x_iload C dX7_rename_72 (pc' := 74) rfl rfl ?_
        refine x_baloadB C hf dX7_rename_74 (pc' := 75) rfl (fun v4 _ hf => ?_)
        refine x_iload_n C dX7_rename_75 (pc' := 76) rfl rfl rfl ?_
        refine x_icmp_ge C hf dX7_rename_76 (pc' := 79) rfl (tgt := 95) (by decide) (fun _ hf => ?_) (fun _ hf => ?_)
        ·
          refine x_iconst C (v := 0) (by decide) dX7_rename_95 (pc' := 96) rfl ?_
          exact x_zret C hf hr hlk dX7_rename_96
        ·
          refine x_iload C dX7_rename_79 (pc' := 81) rfl rfl ?_
          refine x_aload_n C dX7_rename_81 (pc' := 82) rfl rfl rfl ?_
          refine x_getR C (ci := 7) (kf := 1) rfl (by decide) hinX7_rename_X7 lkX7_rename_2 rfl hf dX7_rename_82 (pc' := 85) rfl (fun v5 _ hf => ?_)
          refine x_iload C dX7_rename_85 (pc' := 87) rfl rfl ?_
          refine x_baloadB C hf dX7_rename_87 (pc' := 88) rfl (fun v6 _ hf => ?_)
          refine x_ishr C dX7_rename_88 (pc' := 89) rfl ?_
          refine x_iconst C (v := 1) (by decide) dX7_rename_89 (pc' := 90) rfl ?_
          refine x_iand C dX7_rename_90 (pc' := 91) rfl ?_
          refine x_iconst C (v := 1) (by decide) dX7_rename_91 (pc' := 92) rfl ?_
          refine x_icmp_ne C hf dX7_rename_92 (pc' := 95) rfl (tgt := 97) (by decide) (fun _ hf => ?_) (fun _ hf => ?_)
          ·
            refine x_iconst C (v := 0) (by decide) dX7_rename_95 (pc' := 96) rfl ?_
            exact x_zret C hf hr hlk dX7_rename_96
          ·
            refine x_iload C dX7_rename_97 (pc' := 99) rfl rfl ?_
            refine x_iconst C (v := 1) (by decide) dX7_rename_99 (pc' := 100) rfl ?_
            refine x_aload_n C dX7_rename_100 (pc' := 101) rfl rfl rfl ?_
            refine x_getR C (ci := 7) (kf := 1) rfl (by decide) hinX7_rename_X7 lkX7_rename_2 rfl hf dX7_rename_101 (pc' := 104) rfl (fun v7 _ hf => ?_)
            refine x_iload C dX7_rename_104 (pc' := 106) rfl rfl ?_
            refine x_baloadB C hf dX7_rename_106 (pc' := 107) rfl (fun v8 _ hf => ?_)
            refine x_ishl C dX7_rename_107 (pc' := 108) rfl ?_
            refine x_ior C dX7_rename_108 (pc' := 109) rfl ?_
            refine x_nameI hf (fun v9 _ hf => ?_)
            refine x_istore C dX7_rename_109 (pc' := 111) rfl (by decide) rfl (lv' := [some (vR a0), some (vI i1), some (vI i2), some (vI i3), some (vI v9), some (vI i5), none, none]) rfl ?_
            refine x_iinc C dX7_rename_111 (pc' := 114) rfl rfl (v := (i5 + 1)) rfl (by decide) rfl (lv' := [some (vR a0), some (vI i1), some (vI i2), some (vI i3), some (vI v9), some (vI (i5 + 1)), none, none]) rfl ?_
            refine x_goto C dX7_rename_114 (tgt := 52) (by decide) ?_
            exact ih a0 i1 i2 i3 v9 (i5 + 1) h hf
def fX7_rename (h : Hp) (a0 : Nat) (i1 : Int32) (i2 : Int32) : Option (Int32 × Hp) := (pF h a0 7 0 (vI (0 : Int32))).bind fun h1 => (oK h1 a0 7 (fX7_taken h1 a0)).bind fun h3 => call (oK h3 a0 7 (fX7_has h3 a0 i1)) fun r4 h5 => if r4 = 0 then (retZ (0 : Int32) h5) else (call (fX7_isSlot h5 i2) fun r6 h7 => if r6 = 0 then (retZ (0 : Int32) h7) else ((gI h7 a0 7 3).bind fun v8 => (gR h7 a0 7 4).bind fun v9 => (aI h7 v9 0 i1).bind fun v10 => if v8 = v10 then ((gR h7 a0 7 4).bind fun v11 => (aI h7 v11 0 i1).bind fun v12 => fX7_rename_w52 FUEL a0 i1 i2 v12 (0 : Int32) (0 : Int32) h7) else (retZ (0 : Int32) h7)))
set_option maxHeartbeats 4000000 in
set_option maxRecDepth 100000 in
theorem mX7_rename {l : Launch} {g : XG} {h : Hp} {a0 : Nat} {i1 : Int32} {i2 : Int32} {res : Int32 × Hp} (hf : fX7_rename h a0 i1 i2 = some res) : XM l g yX7_rename wsX7_rename 2 47 0 0 [vR a0, vI i1, vI i2] h (some (vI res.1)) res.2 := by
  refine x_start (cc := cX7_rename) (maxL := 8) (ret := (some .boolean)) (by decide) rfl (Nat.le_of_ble_eq_true rfl) (lv := [some (vR a0), some (vI i1), some (vI i2), none, none, none, none, none]) rfl ?_
  intro p e s m args below meth c C hr hlk hnm
  unfold fX7_rename at hf
  refine x_aload_n C dX7_rename_0 (pc' := 1) rfl rfl rfl ?_
  refine x_iconst C (v := 0) (by decide) dX7_rename_1 (pc' := 2) rfl ?_
  refine x_put C (ci := 7) (kf := 0) rfl (by decide) hinX7_rename_X7 tyX7 tyX7_ok nmX7 lkX7_rename_3 rfl (Or.inl rfl) rfl hf dX7_rename_2 (pc' := 5) rfl (fun h1 _ hf => ?_)
  refine x_aload_n C dX7_rename_5 (pc' := 6) rfl rfl rfl ?_
  obtain ⟨h3, hq, hf⟩ := bind_some hf
  obtain ⟨hob, hq⟩ := oK_some hq
  refine x_callV C (As := []) (st := []) (r := none) (h' := h3) (mc := 0) (ms := 0) (k := 0) (n := 0) (mX7_taken hq) hob (ci := 7) rfl (cwV 0 C.1.2.2.2.2 gX7_rename_X7_taken rfl rfl rfl (by decide +kernel) ⟨Nat.le_of_ble_eq_true rfl, Nat.le_of_ble_eq_true rfl⟩) rfl rfl (Nat.le_of_ble_eq_true rfl) dX7_rename_6 (pc' := 9) rfl ?_
  refine x_aload_n C dX7_rename_9 (pc' := 10) rfl rfl rfl ?_
  refine x_iload_n C dX7_rename_10 (pc' := 11) rfl rfl rfl ?_
  obtain ⟨r4, h5, hq, hf⟩ := call_some hf
  obtain ⟨hob, hq⟩ := oK_some hq
  refine x_callV C (As := [vI i1]) (st := []) (r := (some (vI r4))) (h' := h5) (mc := 0) (ms := 0) (k := 0) (n := 0) (mX7_has hq) hob (ci := 7) rfl (cwV 1 C.1.2.2.2.2 gX7_rename_X7_has rfl rfl rfl (by decide +kernel) ⟨Nat.le_of_ble_eq_true rfl, Nat.le_of_ble_eq_true rfl⟩) rfl rfl (Nat.le_of_ble_eq_true rfl) dX7_rename_11 (pc' := 14) rfl ?_
  refine x_if_eq C hf dX7_rename_14 (pc' := 17) rfl (tgt := 37) (by decide) (fun _ hf => ?_) (fun _ hf => ?_)
  ·
    refine x_iconst C (v := 0) (by decide) dX7_rename_37 (pc' := 38) rfl ?_
    exact x_zret C hf hr hlk dX7_rename_38
  ·
    refine x_iload_n C dX7_rename_17 (pc' := 18) rfl rfl rfl ?_
    obtain ⟨r6, h7, hq, hf⟩ := call_some hf
    refine x_callS C (As := [vI i2]) (st := []) (r := (some (vI r6))) (h' := h7) (mc := 0) (ms := 0) (k := 0) (n := 0) (mX7_isSlot hq) (va_cwS 1 C.1.2.2.2.2 gX7_rename_X7_isSlot rfl rfl rfl (by decide +kernel) ⟨Nat.le_of_ble_eq_true rfl, Nat.le_of_ble_eq_true rfl⟩) rfl rfl (Nat.le_of_ble_eq_true rfl) dX7_rename_18 (pc' := 21) rfl ?_
    refine x_if_eq C hf dX7_rename_21 (pc' := 24) rfl (tgt := 37) (by decide) (fun _ hf => ?_) (fun _ hf => ?_)
    ·
      refine x_iconst C (v := 0) (by decide) dX7_rename_37 (pc' := 38) rfl ?_
      exact x_zret C hf hr hlk dX7_rename_38
    ·
      refine x_aload_n C dX7_rename_24 (pc' := 25) rfl rfl rfl ?_
      refine x_getI C (ci := 7) (kf := 3) rfl (by decide) hinX7_rename_X7 lkX7_rename_4 rfl hf dX7_rename_25 (pc' := 28) rfl (fun v8 _ hf => ?_)
      refine x_aload_n C dX7_rename_28 (pc' := 29) rfl rfl rfl ?_
      refine x_getR C (ci := 7) (kf := 4) rfl (by decide) hinX7_rename_X7 lkX7_rename_5 rfl hf dX7_rename_29 (pc' := 32) rfl (fun v9 _ hf => ?_)
      refine x_iload_n C dX7_rename_32 (pc' := 33) rfl rfl rfl ?_
      refine x_iaload C hf dX7_rename_33 (pc' := 34) rfl (fun v10 _ hf => ?_)
      refine x_icmp_eq C hf dX7_rename_34 (pc' := 37) rfl (tgt := 39) (by decide) (fun _ hf => ?_) (fun _ hf => ?_)
      ·
        refine x_aload_n C dX7_rename_39 (pc' := 40) rfl rfl rfl ?_
        refine x_getR C (ci := 7) (kf := 4) rfl (by decide) hinX7_rename_X7 lkX7_rename_5 rfl hf dX7_rename_40 (pc' := 43) rfl (fun v11 _ hf => ?_)
        refine x_iload_n C dX7_rename_43 (pc' := 44) rfl rfl rfl ?_
        refine x_iaload C hf dX7_rename_44 (pc' := 45) rfl (fun v12 _ hf => ?_)
        refine x_istore_n C dX7_rename_45 (pc' := 46) rfl rfl (by decide) rfl (lv' := [some (vR a0), some (vI i1), some (vI i2), some (vI v12), none, none, none, none]) rfl ?_
        refine x_iconst C (v := 0) (by decide) dX7_rename_46 (pc' := 47) rfl ?_
        refine x_istore C dX7_rename_47 (pc' := 49) rfl (by decide) rfl (lv' := [some (vR a0), some (vI i1), some (vI i2), some (vI v12), some (vI (0 : Int32)), none, none, none]) rfl ?_
        refine x_iconst C (v := 0) (by decide) dX7_rename_49 (pc' := 50) rfl ?_
        refine x_istore C dX7_rename_50 (pc' := 52) rfl (by decide) rfl (lv' := [some (vR a0), some (vI i1), some (vI i2), some (vI v12), some (vI (0 : Int32)), some (vI (0 : Int32)), none, none]) rfl ?_
        refine x_more (k' := 0) (n' := 0) (Nat.le_of_ble_eq_true rfl) (Nat.le_of_ble_eq_true rfl) ?_
        exact mX7_rename_w52 C hr hlk hnm FUEL a0 i1 i2 v12 (0 : Int32) (0 : Int32) h7 hf
      ·
        refine x_iconst C (v := 0) (by decide) dX7_rename_37 (pc' := 38) rfl ?_
        exact x_zret C hf hr hlk dX7_rename_38
-- ===== X7_isIdle
theorem lkX7_isIdle_0 : Cond.fieldLink RX7 20 "MossRingsModel" "table" "[I" ∈ wsX7_isIdle := by decide +kernel
theorem hinX7_isIdle_X7 : ∀ w ∈ u_ws RX7 TX7 27, w ∈ wsX7_isIdle := by decide +kernel
def fX7_isIdle_b57 (w12 : Nat → Int32 → Int32 → Int32 → Int32 → Hp → Option (Int32 × Hp)) (a0 : Nat) (i1 : Int32) (i3 : Int32) (i4 : Int32) (i5 : Int32) (s0 : Int32) (s1 : Int32) (s2 : Nat) (s3 : Int32) (h : Hp) : Option (Int32 × Hp) := (aI h s2 0 (s1 + s0)).bind fun v1 => if s3 = v1 then (w12 a0 i1 i3 i4 (i5 + 1) h) else (retZ (0 : Int32) h)
set_option maxHeartbeats 4000000 in
set_option maxRecDepth 100000 in
theorem mX7_isIdle_b57 {g : XG} {p : Program} {l : Launch} {e : Env} {s : State} {m : MethodId} {args : Array Value} {below : List Frame} {meth : Method} {c : Code} (C : x_C g p s m args c cX7_isIdle RX7 6 wsX7_isIdle) (hr : meth.sig.returnType = (some .boolean)) (hlk : meth.locks = false) (hnm : meth.name = yX7_isIdle.name) {res : Int32 × Hp} (w12 : Nat → Int32 → Int32 → Int32 → Int32 → Hp → Option (Int32 × Hp)) (hw12 : ∀ (a0 : Nat) (i1 : Int32) (i3 : Int32) (i4 : Int32) (i5 : Int32) (h : Hp), w12 a0 i1 i3 i4 i5 h = some res → XW g p l e { frames := 1, cells := 0, slots := 0, locals := 23 } s m args below meth c (MQ below (x_Q g (some (vI res.1)) res.2) args s 0 0 (x_A g)) 6 0 0 h 12 [some (vR a0), some (vI i1), none, some (vI i3), some (vI i4), some (vI i5)] []) (a0 : Nat) (i1 : Int32) (i3 : Int32) (i4 : Int32) (i5 : Int32) (s0 : Int32) (s1 : Int32) (s2 : Nat) (s3 : Int32) (h : Hp) (hf : fX7_isIdle_b57 w12 a0 i1 i3 i4 i5 s0 s1 s2 s3 h = some res) : XW g p l e { frames := 1, cells := 0, slots := 0, locals := 23 } s m args below meth c (MQ below (x_Q g (some (vI res.1)) res.2) args s 0 0 (x_A g)) 6 0 0 h 57 [some (vR a0), some (vI i1), none, some (vI i3), some (vI i4), some (vI i5)] [vI s0, vI s1, vR s2, vI s3] := by
  unfold fX7_isIdle_b57 at hf
  refine x_iadd C dX7_isIdle_57 (pc' := 58) rfl ?_
  refine x_iaload C hf dX7_isIdle_58 (pc' := 59) rfl (fun v1 _ hf => ?_)
  refine x_icmp_eq C hf dX7_isIdle_59 (pc' := 62) rfl (tgt := 64) (by decide) (fun _ hf => ?_) (fun _ hf => ?_)
  ·
    refine x_iinc C dX7_isIdle_64 (pc' := 67) rfl rfl (v := (i5 + 1)) rfl (by decide) rfl (lv' := [some (vR a0), some (vI i1), none, some (vI i3), some (vI i4), some (vI (i5 + 1))]) rfl ?_
    refine x_goto C dX7_isIdle_67 (tgt := 12) (by decide) ?_
    exact hw12 a0 i1 i3 i4 (i5 + 1) h hf
  ·
    refine x_iconst C (v := 0) (by decide) dX7_isIdle_62 (pc' := 63) rfl ?_
    exact x_zret C hf hr hlk dX7_isIdle_63
def fX7_isIdle_w12 : Nat → Nat → Int32 → Int32 → Int32 → Int32 → Hp → Option (Int32 × Hp)
  | 0 => fun _ _ _ _ _ _ => none
  | n + 1 => fun a0 i1 i3 i4 i5 h => if (i1 * i4) ≤ i5 then (retZ (1 : Int32) h) else ((gR h a0 7 6).bind fun v1 => (aI h v1 0 ((162 : Int32) + i5)).bind fun v2 => (gR h a0 7 6).bind fun v3 => if i3 = 0 then (iRem i5 i4 fun v4 => fX7_isIdle_b57 (fX7_isIdle_w12 n) a0 i1 i3 i4 i5 v4 (162 : Int32) v3 v2 h) else (iDiv i5 i1 fun v5 => fX7_isIdle_b57 (fX7_isIdle_w12 n) a0 i1 i3 i4 i5 (v5 * i1) (162 : Int32) v3 v2 h))
set_option maxHeartbeats 4000000 in
set_option maxRecDepth 100000 in
theorem mX7_isIdle_w12 {g : XG} {p : Program} {l : Launch} {e : Env} {s : State} {m : MethodId} {args : Array Value} {below : List Frame} {meth : Method} {c : Code} (C : x_C g p s m args c cX7_isIdle RX7 6 wsX7_isIdle) (hr : meth.sig.returnType = (some .boolean)) (hlk : meth.locks = false) (hnm : meth.name = yX7_isIdle.name) {res : Int32 × Hp} : ∀ (n : Nat) (a0 : Nat) (i1 : Int32) (i3 : Int32) (i4 : Int32) (i5 : Int32) (h : Hp), fX7_isIdle_w12 n a0 i1 i3 i4 i5 h = some res → XW g p l e { frames := 1, cells := 0, slots := 0, locals := 23 } s m args below meth c (MQ below (x_Q g (some (vI res.1)) res.2) args s 0 0 (x_A g)) 6 0 0 h 12 [some (vR a0), some (vI i1), none, some (vI i3), some (vI i4), some (vI i5)] [] := by
  intro n
  induction n with
  | zero =>
    intro a0 i1 i3 i4 i5 h hf
    have hf2 : (none : Option (Int32 × Hp)) = some res := hf
    cases hf2
  | succ n ih =>
    intro a0 i1 i3 i4 i5 h hf
    rw [fX7_isIdle_w12] at hf
    refine x_iload C dX7_isIdle_12 (pc' := 14) rfl rfl ?_
    refine x_iload_n C dX7_isIdle_14 (pc' := 15) rfl rfl rfl ?_
    refine x_iload C dX7_isIdle_15 (pc' := 17) rfl rfl ?_
    refine x_imul C dX7_isIdle_17 (pc' := 18) rfl ?_
    refine x_icmp_ge C hf dX7_isIdle_18 (pc' := 21) rfl (tgt := 70) (by decide) (fun _ hf => ?_) (fun _ hf => ?_)
    ·
      refine x_iconst C (v := 1) (by decide) dX7_isIdle_70 (pc' := 71) rfl ?_
      exact x_zret C hf hr hlk dX7_isIdle_71
    ·
      refine x_aload_n C dX7_isIdle_21 (pc' := 22) rfl rfl rfl ?_
      refine x_getR C (ci := 7) (kf := 6) rfl (by decide) hinX7_isIdle_X7 lkX7_isIdle_0 rfl hf dX7_isIdle_22 (pc' := 25) rfl (fun v1 _ hf => ?_)
      refine x_sipush C (v := 162) (by decide) dX7_isIdle_25 (pc' := 28) rfl ?_
      refine x_iload C dX7_isIdle_28 (pc' := 30) rfl rfl ?_
      refine x_iadd C dX7_isIdle_30 (pc' := 31) rfl ?_
      refine x_iaload C hf dX7_isIdle_31 (pc' := 32) rfl (fun v2 _ hf => ?_)
      refine x_aload_n C dX7_isIdle_32 (pc' := 33) rfl rfl rfl ?_
      refine x_getR C (ci := 7) (kf := 6) rfl (by decide) hinX7_isIdle_X7 lkX7_isIdle_0 rfl hf dX7_isIdle_33 (pc' := 36) rfl (fun v3 _ hf => ?_)
      refine x_sipush C (v := 162) (by decide) dX7_isIdle_36 (pc' := 39) rfl ?_
      refine x_iload_n C dX7_isIdle_39 (pc' := 40) rfl rfl rfl ?_
      refine x_if_eq C hf dX7_isIdle_40 (pc' := 43) rfl (tgt := 52) (by decide) (fun _ hf => ?_) (fun _ hf => ?_)
      ·
        refine x_iload C dX7_isIdle_52 (pc' := 54) rfl rfl ?_
        refine x_iload C dX7_isIdle_54 (pc' := 56) rfl rfl ?_
        refine x_irem C hf dX7_isIdle_56 (pc' := 57) rfl (fun _ v4 _ hf => ?_)
        refine x_more (k' := 0) (n' := 0) (Nat.le_of_ble_eq_true rfl) (Nat.le_of_ble_eq_true rfl) ?_
        exact mX7_isIdle_b57 C hr hlk hnm (fX7_isIdle_w12 n) ih a0 i1 i3 i4 i5 v4 (162 : Int32) v3 v2 h hf
      ·
        refine x_iload C dX7_isIdle_43 (pc' := 45) rfl rfl ?_
        refine x_iload_n C dX7_isIdle_45 (pc' := 46) rfl rfl rfl ?_
        refine x_idiv C hf dX7_isIdle_46 (pc' := 47) rfl (fun _ v5 _ hf => ?_)
        refine x_iload_n C dX7_isIdle_47 (pc' := 48) rfl rfl rfl ?_
        refine x_imul C dX7_isIdle_48 (pc' := 49) rfl ?_
        refine x_goto C dX7_isIdle_49 (tgt := 57) (by decide) ?_
        refine x_more (k' := 0) (n' := 0) (Nat.le_of_ble_eq_true rfl) (Nat.le_of_ble_eq_true rfl) ?_
        exact mX7_isIdle_b57 C hr hlk hnm (fX7_isIdle_w12 n) ih a0 i1 i3 i4 i5 (v5 * i1) (162 : Int32) v3 v2 h hf
def fX7_isIdle (h : Hp) (a0 : Nat) (i1 : Int32) (i2 : Int32) (i3 : Int32) : Option (Int32 × Hp) := call (fX7_power h i1 (i2 - (1 : Int32))) fun r1 h2 => fX7_isIdle_w12 FUEL a0 i1 i3 r1 (0 : Int32) h2
set_option maxHeartbeats 4000000 in
set_option maxRecDepth 100000 in
theorem mX7_isIdle {l : Launch} {g : XG} {h : Hp} {a0 : Nat} {i1 : Int32} {i2 : Int32} {i3 : Int32} {res : Int32 × Hp} (hf : fX7_isIdle h a0 i1 i2 i3 = some res) : XM l g yX7_isIdle wsX7_isIdle 1 23 0 0 [vR a0, vI i1, vI i2, vI i3] h (some (vI res.1)) res.2 := by
  refine x_start (cc := cX7_isIdle) (maxL := 6) (ret := (some .boolean)) (by decide) rfl (Nat.le_of_ble_eq_true rfl) (lv := [some (vR a0), some (vI i1), some (vI i2), some (vI i3), none, none]) rfl ?_
  intro p e s m args below meth c C hr hlk hnm
  unfold fX7_isIdle at hf
  refine x_iload_n C dX7_isIdle_0 (pc' := 1) rfl rfl rfl ?_
  refine x_iload_n C dX7_isIdle_1 (pc' := 2) rfl rfl rfl ?_
  refine x_iconst C (v := 1) (by decide) dX7_isIdle_2 (pc' := 3) rfl ?_
  refine x_isub C dX7_isIdle_3 (pc' := 4) rfl ?_
  obtain ⟨r1, h2, hq, hf⟩ := call_some hf
  refine x_callS C (As := [vI i1, vI (i2 - (1 : Int32))]) (st := []) (r := (some (vI r1))) (h' := h2) (mc := 0) (ms := 0) (k := 0) (n := 0) (mX7_power hq) (va_cwS 2 C.1.2.2.2.2 gX7_isIdle_X7_power rfl rfl rfl (by decide +kernel) ⟨Nat.le_of_ble_eq_true rfl, Nat.le_of_ble_eq_true rfl⟩) rfl rfl (Nat.le_of_ble_eq_true rfl) dX7_isIdle_4 (pc' := 7) rfl ?_
  refine x_istore C dX7_isIdle_7 (pc' := 9) rfl (by decide) rfl (lv' := [some (vR a0), some (vI i1), some (vI i2), some (vI i3), some (vI r1), none]) rfl ?_
  refine x_iconst C (v := 0) (by decide) dX7_isIdle_9 (pc' := 10) rfl ?_
  refine x_istore C dX7_isIdle_10 (pc' := 12) rfl (by decide) rfl (lv' := [some (vR a0), some (vI i1), some (vI i2), some (vI i3), some (vI r1), some (vI (0 : Int32))]) rfl ?_
  refine x_keep [true, true, false, true, true, true] rfl ?_
  refine x_more (k' := 0) (n' := 0) (Nat.le_of_ble_eq_true rfl) (Nat.le_of_ble_eq_true rfl) ?_
  exact mX7_isIdle_w12 C hr hlk hnm FUEL a0 i1 i3 r1 (0 : Int32) h2 hf
-- ===== X7_trim
theorem lkX7_trim_0 : Cond.fieldLink RX7 20 "MossRingsModel" "table" "[I" ∈ wsX7_trim := by decide +kernel
theorem hinX7_trim_X7 : ∀ w ∈ u_ws RX7 TX7 27, w ∈ wsX7_trim := by decide +kernel
theorem lkX7_trim_1 : Cond.fieldLink RX7 80 "MossRingsModel" "thrown" "I" ∈ wsX7_trim := by decide +kernel
theorem lkX7_trim_2 : Cond.fieldLink RX7 13 "MossRingsModel" "states" "[I" ∈ wsX7_trim := by decide +kernel
theorem lkX7_trim_3 : Cond.fieldLink RX7 17 "MossRingsModel" "widths" "[I" ∈ wsX7_trim := by decide +kernel
def fX7_trim_b171 (a0 : Nat) (i2 : Int32) (i3 : Int32) (i4 : Int32) (i5 : Int32) (h : Hp) : Option (Int32 × Hp) := (oK h a0 7 (fX7_lay h a0 i2 i3 i4)).bind fun h2 => some (i5, h2)
set_option maxHeartbeats 4000000 in
set_option maxRecDepth 100000 in
theorem mX7_trim_b171 {g : XG} {p : Program} {l : Launch} {e : Env} {s : State} {m : MethodId} {args : Array Value} {below : List Frame} {meth : Method} {c : Code} (C : x_C g p s m args c cX7_trim RX7 7 wsX7_trim) (hr : meth.sig.returnType = (some .int)) (hlk : meth.locks = false) (hnm : meth.name = yX7_trim.name) {res : Int32 × Hp} (a0 : Nat) (i2 : Int32) (i3 : Int32) (i4 : Int32) (i5 : Int32) (h : Hp) (hf : fX7_trim_b171 a0 i2 i3 i4 i5 h = some res) : XW g p l e { frames := 2, cells := 0, slots := 0, locals := 48 } s m args below meth c (MQ below (x_Q g (some (vI res.1)) res.2) args s 0 0 (x_A g)) 7 0 0 h 171 [some (vR a0), none, some (vI i2), some (vI i3), some (vI i4), some (vI i5), none] [] := by
  unfold fX7_trim_b171 at hf
  refine x_aload_n C dX7_trim_171 (pc' := 172) rfl rfl rfl ?_
  refine x_iload_n C dX7_trim_172 (pc' := 173) rfl rfl rfl ?_
  refine x_iload_n C dX7_trim_173 (pc' := 174) rfl rfl rfl ?_
  refine x_iload C dX7_trim_174 (pc' := 176) rfl rfl ?_
  obtain ⟨h2, hq, hf⟩ := bind_some hf
  obtain ⟨hob, hq⟩ := oK_some hq
  refine x_callV C (As := [vI i2, vI i3, vI i4]) (st := []) (r := none) (h' := h2) (mc := 0) (ms := 0) (k := 0) (n := 0) (mX7_lay hq) hob (ci := 7) rfl (cwV 3 C.1.2.2.2.2 gX7_trim_X7_lay rfl rfl rfl (by decide +kernel) ⟨Nat.le_of_ble_eq_true rfl, Nat.le_of_ble_eq_true rfl⟩) rfl rfl (Nat.le_of_ble_eq_true rfl) dX7_trim_176 (pc' := 179) rfl ?_
  refine x_iload C dX7_trim_179 (pc' := 181) rfl rfl ?_
  cases hf
  exact x_iret C hr hlk dX7_trim_181
def fX7_trim_b168 (w104 : Nat → Int32 → Int32 → Int32 → Int32 → Hp → Option (Int32 × Hp)) (a0 : Nat) (i2 : Int32) (i3 : Int32) (i4 : Int32) (i5 : Int32) (h : Hp) : Option (Int32 × Hp) := w104 a0 i2 i3 i4 i5 h
set_option maxHeartbeats 4000000 in
set_option maxRecDepth 100000 in
theorem mX7_trim_b168 {g : XG} {p : Program} {l : Launch} {e : Env} {s : State} {m : MethodId} {args : Array Value} {below : List Frame} {meth : Method} {c : Code} (C : x_C g p s m args c cX7_trim RX7 7 wsX7_trim) (hr : meth.sig.returnType = (some .int)) (hlk : meth.locks = false) (hnm : meth.name = yX7_trim.name) {res : Int32 × Hp} (w104 : Nat → Int32 → Int32 → Int32 → Int32 → Hp → Option (Int32 × Hp)) (hw104 : ∀ (a0 : Nat) (i2 : Int32) (i3 : Int32) (i4 : Int32) (i5 : Int32) (h : Hp), w104 a0 i2 i3 i4 i5 h = some res → XW g p l e { frames := 2, cells := 0, slots := 0, locals := 48 } s m args below meth c (MQ below (x_Q g (some (vI res.1)) res.2) args s 0 0 (x_A g)) 7 0 0 h 104 [some (vR a0), none, some (vI i2), some (vI i3), some (vI i4), some (vI i5), none] []) (a0 : Nat) (i2 : Int32) (i3 : Int32) (i4 : Int32) (i5 : Int32) (h : Hp) (hf : fX7_trim_b168 w104 a0 i2 i3 i4 i5 h = some res) : XW g p l e { frames := 2, cells := 0, slots := 0, locals := 48 } s m args below meth c (MQ below (x_Q g (some (vI res.1)) res.2) args s 0 0 (x_A g)) 7 0 0 h 168 [some (vR a0), none, some (vI i2), some (vI i3), some (vI i4), some (vI i5), none] [] := by
  unfold fX7_trim_b168 at hf
  refine x_goto C dX7_trim_168 (tgt := 104) (by decide) ?_
  exact hw104 a0 i2 i3 i4 i5 h hf
def fX7_trim_w127 (w104 : Nat → Int32 → Int32 → Int32 → Int32 → Hp → Option (Int32 × Hp)) : Nat → Nat → Int32 → Int32 → Int32 → Int32 → Int32 → Hp → Option (Int32 × Hp)
  | 0 => fun _ _ _ _ _ _ _ => none
  | n + 1 => fun a0 i2 i3 i4 i5 i6 h => call (fX7_power h i3 i4) fun r1 h2 => if r1 ≤ i6 then (fX7_trim_b168 w104 a0 i2 i3 i4 i5 h2) else ((gR h2 a0 7 6).bind fun v3 => (gR h2 a0 7 6).bind fun v4 => (aI h2 v4 0 ((162 : Int32) + (i3 * i6))).bind fun v5 => (sI h2 v3 0 ((162 : Int32) + i6) v5).bind fun h6 => (fX7_trim_w127 w104 n) a0 i2 i3 i4 i5 (i6 + 1) h6)
set_option maxHeartbeats 4000000 in
set_option maxRecDepth 100000 in
theorem mX7_trim_w127 {g : XG} {p : Program} {l : Launch} {e : Env} {s : State} {m : MethodId} {args : Array Value} {below : List Frame} {meth : Method} {c : Code} (C : x_C g p s m args c cX7_trim RX7 7 wsX7_trim) (hr : meth.sig.returnType = (some .int)) (hlk : meth.locks = false) (hnm : meth.name = yX7_trim.name) {res : Int32 × Hp} (w104 : Nat → Int32 → Int32 → Int32 → Int32 → Hp → Option (Int32 × Hp)) (hw104 : ∀ (a0 : Nat) (i2 : Int32) (i3 : Int32) (i4 : Int32) (i5 : Int32) (h : Hp), w104 a0 i2 i3 i4 i5 h = some res → XW g p l e { frames := 2, cells := 0, slots := 0, locals := 48 } s m args below meth c (MQ below (x_Q g (some (vI res.1)) res.2) args s 0 0 (x_A g)) 7 0 0 h 104 [some (vR a0), none, some (vI i2), some (vI i3), some (vI i4), some (vI i5), none] []) : ∀ (n : Nat) (a0 : Nat) (i2 : Int32) (i3 : Int32) (i4 : Int32) (i5 : Int32) (i6 : Int32) (h : Hp), fX7_trim_w127 w104 n a0 i2 i3 i4 i5 i6 h = some res → XW g p l e { frames := 2, cells := 0, slots := 0, locals := 48 } s m args below meth c (MQ below (x_Q g (some (vI res.1)) res.2) args s 0 0 (x_A g)) 7 0 0 h 127 [some (vR a0), none, some (vI i2), some (vI i3), some (vI i4), some (vI i5), some (vI i6)] [] := by
  intro n
  induction n with
  | zero =>
    intro a0 i2 i3 i4 i5 i6 h hf
    have hf2 : (none : Option (Int32 × Hp)) = some res := hf
    cases hf2
  | succ n ih =>
    intro a0 i2 i3 i4 i5 i6 h hf
    rw [fX7_trim_w127] at hf
    refine x_iload C dX7_trim_127 (pc' := 129) rfl rfl ?_
    refine x_iload_n C dX7_trim_129 (pc' := 130) rfl rfl rfl ?_
    refine x_iload C dX7_trim_130 (pc' := 132) rfl rfl ?_
    obtain ⟨r1, h2, hq, hf⟩ := call_some hf
    refine x_callS C (As := [vI i3, vI i4]) (st := [vI i6]) (r := (some (vI r1))) (h' := h2) (mc := 0) (ms := 0) (k := 0) (n := 0) (mX7_power hq) (va_cwS 2 C.1.2.2.2.2 gX7_trim_X7_power rfl rfl rfl (by decide +kernel) ⟨Nat.le_of_ble_eq_true rfl, Nat.le_of_ble_eq_true rfl⟩) rfl rfl (Nat.le_of_ble_eq_true rfl) dX7_trim_132 (pc' := 135) rfl ?_
    refine x_icmp_ge C hf dX7_trim_135 (pc' := 138) rfl (tgt := 168) (by decide) (fun _ hf => ?_) (fun _ hf => ?_)
    ·
      refine x_keep [true, false, true, true, true, true, false] rfl ?_
      refine x_more (k' := 0) (n' := 0) (Nat.le_of_ble_eq_true rfl) (Nat.le_of_ble_eq_true rfl) ?_
      exact mX7_trim_b168 C hr hlk hnm w104 hw104 a0 i2 i3 i4 i5 h2 hf
    ·
      refine x_aload_n C dX7_trim_138 (pc' := 139) rfl rfl rfl ?_
      refine x_getR C (ci := 7) (kf := 6) rfl (by decide) hinX7_trim_X7 lkX7_trim_0 rfl hf dX7_trim_139 (pc' := 142) rfl (fun v3 _ hf => ?_)
      refine x_sipush C (v := 162) (by decide) dX7_trim_142 (pc' := 145) rfl ?_
      refine x_iload C dX7_trim_145 (pc' := 147) rfl rfl ?_
      refine x_iadd C dX7_trim_147 (pc' := 148) rfl ?_
      refine x_aload_n C dX7_trim_148 (pc' := 149) rfl rfl rfl ?_
      refine x_getR C (ci := 7) (kf := 6) rfl (by decide) hinX7_trim_X7 lkX7_trim_0 rfl hf dX7_trim_149 (pc' := 152) rfl (fun v4 _ hf => ?_)
      refine x_sipush C (v := 162) (by decide) dX7_trim_152 (pc' := 155) rfl ?_
      refine x_iload_n C dX7_trim_155 (pc' := 156) rfl rfl rfl ?_
      refine x_iload C dX7_trim_156 (pc' := 158) rfl rfl ?_
      refine x_imul C dX7_trim_158 (pc' := 159) rfl ?_
      refine x_iadd C dX7_trim_159 (pc' := 160) rfl ?_
      refine x_iaload C hf dX7_trim_160 (pc' := 161) rfl (fun v5 _ hf => ?_)
      refine x_iastore C hf dX7_trim_161 (pc' := 162) rfl (fun h6 _ hf => ?_)
      refine x_iinc C dX7_trim_162 (pc' := 165) rfl rfl (v := (i6 + 1)) rfl (by decide) rfl (lv' := [some (vR a0), none, some (vI i2), some (vI i3), some (vI i4), some (vI i5), some (vI (i6 + 1))]) rfl ?_
      refine x_goto C dX7_trim_165 (tgt := 127) (by decide) ?_
      exact ih a0 i2 i3 i4 i5 (i6 + 1) h6 hf
def fX7_trim_w104 : Nat → Nat → Int32 → Int32 → Int32 → Int32 → Hp → Option (Int32 × Hp)
  | 0 => fun _ _ _ _ _ _ => none
  | n + 1 => fun a0 i2 i3 i4 i5 h => if i4 ≤ (1 : Int32) then (fX7_trim_b171 a0 i2 i3 i4 i5 h) else (call (oK h a0 7 (fX7_isIdle h a0 i3 i4 (1 : Int32))) fun r1 h2 => if r1 = 0 then (fX7_trim_b171 a0 i2 i3 i4 i5 h2) else (fX7_trim_w127 (fX7_trim_w104 n) FUEL a0 i2 i3 (i4 + (-1)) i5 (0 : Int32) h2))
set_option maxHeartbeats 4000000 in
set_option maxRecDepth 100000 in
theorem mX7_trim_w104 {g : XG} {p : Program} {l : Launch} {e : Env} {s : State} {m : MethodId} {args : Array Value} {below : List Frame} {meth : Method} {c : Code} (C : x_C g p s m args c cX7_trim RX7 7 wsX7_trim) (hr : meth.sig.returnType = (some .int)) (hlk : meth.locks = false) (hnm : meth.name = yX7_trim.name) {res : Int32 × Hp} : ∀ (n : Nat) (a0 : Nat) (i2 : Int32) (i3 : Int32) (i4 : Int32) (i5 : Int32) (h : Hp), fX7_trim_w104 n a0 i2 i3 i4 i5 h = some res → XW g p l e { frames := 2, cells := 0, slots := 0, locals := 48 } s m args below meth c (MQ below (x_Q g (some (vI res.1)) res.2) args s 0 0 (x_A g)) 7 0 0 h 104 [some (vR a0), none, some (vI i2), some (vI i3), some (vI i4), some (vI i5), none] [] := by
  intro n
  induction n with
  | zero =>
    intro a0 i2 i3 i4 i5 h hf
    have hf2 : (none : Option (Int32 × Hp)) = some res := hf
    cases hf2
  | succ n ih =>
    intro a0 i2 i3 i4 i5 h hf
    rw [fX7_trim_w104] at hf
    refine x_iload C dX7_trim_104 (pc' := 106) rfl rfl ?_
    refine x_iconst C (v := 1) (by decide) dX7_trim_106 (pc' := 107) rfl ?_
    refine x_icmp_le C hf dX7_trim_107 (pc' := 110) rfl (tgt := 171) (by decide) (fun _ hf => ?_) (fun _ hf => ?_)
    ·
      refine x_more (k' := 0) (n' := 0) (Nat.le_of_ble_eq_true rfl) (Nat.le_of_ble_eq_true rfl) ?_
      exact mX7_trim_b171 C hr hlk hnm a0 i2 i3 i4 i5 h hf
    ·
      refine x_aload_n C dX7_trim_110 (pc' := 111) rfl rfl rfl ?_
      refine x_iload_n C dX7_trim_111 (pc' := 112) rfl rfl rfl ?_
      refine x_iload C dX7_trim_112 (pc' := 114) rfl rfl ?_
      refine x_iconst C (v := 1) (by decide) dX7_trim_114 (pc' := 115) rfl ?_
      obtain ⟨r1, h2, hq, hf⟩ := call_some hf
      obtain ⟨hob, hq⟩ := oK_some hq
      refine x_callV C (As := [vI i3, vI i4, vI (1 : Int32)]) (st := []) (r := (some (vI r1))) (h' := h2) (mc := 0) (ms := 0) (k := 0) (n := 0) (mX7_isIdle hq) hob (ci := 7) rfl (cwV 3 C.1.2.2.2.2 gX7_trim_X7_isIdle rfl rfl rfl (by decide +kernel) ⟨Nat.le_of_ble_eq_true rfl, Nat.le_of_ble_eq_true rfl⟩) rfl rfl (Nat.le_of_ble_eq_true rfl) dX7_trim_115 (pc' := 118) rfl ?_
      refine x_if_eq C hf dX7_trim_118 (pc' := 121) rfl (tgt := 171) (by decide) (fun _ hf => ?_) (fun _ hf => ?_)
      ·
        refine x_more (k' := 0) (n' := 0) (Nat.le_of_ble_eq_true rfl) (Nat.le_of_ble_eq_true rfl) ?_
        exact mX7_trim_b171 C hr hlk hnm a0 i2 i3 i4 i5 h2 hf
      ·
        refine x_iinc C dX7_trim_121 (pc' := 124) rfl rfl (v := (i4 + (-1))) rfl (by decide) rfl (lv' := [some (vR a0), none, some (vI i2), some (vI i3), some (vI (i4 + (-1))), some (vI i5), none]) rfl ?_
        refine x_iconst C (v := 0) (by decide) dX7_trim_124 (pc' := 125) rfl ?_
        refine x_istore C dX7_trim_125 (pc' := 127) rfl (by decide) rfl (lv' := [some (vR a0), none, some (vI i2), some (vI i3), some (vI (i4 + (-1))), some (vI i5), some (vI (0 : Int32))]) rfl ?_
        refine x_more (k' := 0) (n' := 0) (Nat.le_of_ble_eq_true rfl) (Nat.le_of_ble_eq_true rfl) ?_
        exact mX7_trim_w127 C hr hlk hnm (fX7_trim_w104 n) ih FUEL a0 i2 i3 (i4 + (-1)) i5 (0 : Int32) h2 hf
def fX7_trim_w78 : Nat → Nat → Int32 → Int32 → Int32 → Int32 → Hp → Option (Int32 × Hp)
  | 0 => fun _ _ _ _ _ _ => none
  | n + 1 => fun a0 i2 i3 i4 i5 h => if i4 ≤ (1 : Int32) then (fX7_trim_w104 FUEL a0 i2 i3 i4 i5 h) else (call (oK h a0 7 (fX7_isIdle h a0 i3 i4 (0 : Int32))) fun r1 h2 => if r1 = 0 then (fX7_trim_w104 FUEL a0 i2 i3 i4 i5 h2) else ((fX7_trim_w78 n) a0 i2 i3 (i4 + (-1)) (i5 + 1) h2))
set_option maxHeartbeats 4000000 in
set_option maxRecDepth 100000 in
theorem mX7_trim_w78 {g : XG} {p : Program} {l : Launch} {e : Env} {s : State} {m : MethodId} {args : Array Value} {below : List Frame} {meth : Method} {c : Code} (C : x_C g p s m args c cX7_trim RX7 7 wsX7_trim) (hr : meth.sig.returnType = (some .int)) (hlk : meth.locks = false) (hnm : meth.name = yX7_trim.name) {res : Int32 × Hp} : ∀ (n : Nat) (a0 : Nat) (i2 : Int32) (i3 : Int32) (i4 : Int32) (i5 : Int32) (h : Hp), fX7_trim_w78 n a0 i2 i3 i4 i5 h = some res → XW g p l e { frames := 2, cells := 0, slots := 0, locals := 48 } s m args below meth c (MQ below (x_Q g (some (vI res.1)) res.2) args s 0 0 (x_A g)) 7 0 0 h 78 [some (vR a0), none, some (vI i2), some (vI i3), some (vI i4), some (vI i5), none] [] := by
  intro n
  induction n with
  | zero =>
    intro a0 i2 i3 i4 i5 h hf
    have hf2 : (none : Option (Int32 × Hp)) = some res := hf
    cases hf2
  | succ n ih =>
    intro a0 i2 i3 i4 i5 h hf
    rw [fX7_trim_w78] at hf
    refine x_iload C dX7_trim_78 (pc' := 80) rfl rfl ?_
    refine x_iconst C (v := 1) (by decide) dX7_trim_80 (pc' := 81) rfl ?_
    refine x_icmp_le C hf dX7_trim_81 (pc' := 84) rfl (tgt := 104) (by decide) (fun _ hf => ?_) (fun _ hf => ?_)
    ·
      refine x_more (k' := 0) (n' := 0) (Nat.le_of_ble_eq_true rfl) (Nat.le_of_ble_eq_true rfl) ?_
      exact mX7_trim_w104 C hr hlk hnm FUEL a0 i2 i3 i4 i5 h hf
    ·
      refine x_aload_n C dX7_trim_84 (pc' := 85) rfl rfl rfl ?_
      refine x_iload_n C dX7_trim_85 (pc' := 86) rfl rfl rfl ?_
      refine x_iload C dX7_trim_86 (pc' := 88) rfl rfl ?_
      refine x_iconst C (v := 0) (by decide) dX7_trim_88 (pc' := 89) rfl ?_
      obtain ⟨r1, h2, hq, hf⟩ := call_some hf
      obtain ⟨hob, hq⟩ := oK_some hq
      refine x_callV C (As := [vI i3, vI i4, vI (0 : Int32)]) (st := []) (r := (some (vI r1))) (h' := h2) (mc := 0) (ms := 0) (k := 0) (n := 0) (mX7_isIdle hq) hob (ci := 7) rfl (cwV 3 C.1.2.2.2.2 gX7_trim_X7_isIdle rfl rfl rfl (by decide +kernel) ⟨Nat.le_of_ble_eq_true rfl, Nat.le_of_ble_eq_true rfl⟩) rfl rfl (Nat.le_of_ble_eq_true rfl) dX7_trim_89 (pc' := 92) rfl ?_
      refine x_if_eq C hf dX7_trim_92 (pc' := 95) rfl (tgt := 104) (by decide) (fun _ hf => ?_) (fun _ hf => ?_)
      ·
        refine x_more (k' := 0) (n' := 0) (Nat.le_of_ble_eq_true rfl) (Nat.le_of_ble_eq_true rfl) ?_
        exact mX7_trim_w104 C hr hlk hnm FUEL a0 i2 i3 i4 i5 h2 hf
      ·
        refine x_iinc C dX7_trim_95 (pc' := 98) rfl rfl (v := (i4 + (-1))) rfl (by decide) rfl (lv' := [some (vR a0), none, some (vI i2), some (vI i3), some (vI (i4 + (-1))), some (vI i5), none]) rfl ?_
        refine x_iinc C dX7_trim_98 (pc' := 101) rfl rfl (v := (i5 + 1)) rfl (by decide) rfl (lv' := [some (vR a0), none, some (vI i2), some (vI i3), some (vI (i4 + (-1))), some (vI (i5 + 1)), none]) rfl ?_
        refine x_goto C dX7_trim_101 (tgt := 78) (by decide) ?_
        exact ih a0 i2 i3 (i4 + (-1)) (i5 + 1) h2 hf
def fX7_trim_w43 : Nat → Nat → Int32 → Int32 → Int32 → Int32 → Int32 → Int32 → Hp → Option (Int32 × Hp)
  | 0 => fun _ _ _ _ _ _ _ _ => none
  | n + 1 => fun a0 i1 i2 i3 i4 i5 i6 h => call (fX7_power h i3 i4) fun r1 h2 => if r1 ≤ i6 then (fX7_trim_w78 FUEL a0 i2 i3 i4 i5 h2) else ((gR h2 a0 7 6).bind fun v3 => call (oK h2 a0 7 (fX7_tells h2 a0 i1 i6)) fun r4 h5 => (sI h5 v3 0 ((162 : Int32) + i6) r4).bind fun h6 => (fX7_trim_w43 n) a0 i1 i2 i3 i4 i5 (i6 + 1) h6)
set_option maxHeartbeats 4000000 in
set_option maxRecDepth 100000 in
theorem mX7_trim_w43 {g : XG} {p : Program} {l : Launch} {e : Env} {s : State} {m : MethodId} {args : Array Value} {below : List Frame} {meth : Method} {c : Code} (C : x_C g p s m args c cX7_trim RX7 7 wsX7_trim) (hr : meth.sig.returnType = (some .int)) (hlk : meth.locks = false) (hnm : meth.name = yX7_trim.name) {res : Int32 × Hp} : ∀ (n : Nat) (a0 : Nat) (i1 : Int32) (i2 : Int32) (i3 : Int32) (i4 : Int32) (i5 : Int32) (i6 : Int32) (h : Hp), fX7_trim_w43 n a0 i1 i2 i3 i4 i5 i6 h = some res → XW g p l e { frames := 2, cells := 0, slots := 0, locals := 48 } s m args below meth c (MQ below (x_Q g (some (vI res.1)) res.2) args s 0 0 (x_A g)) 7 0 0 h 43 [some (vR a0), some (vI i1), some (vI i2), some (vI i3), some (vI i4), some (vI i5), some (vI i6)] [] := by
  intro n
  induction n with
  | zero =>
    intro a0 i1 i2 i3 i4 i5 i6 h hf
    have hf2 : (none : Option (Int32 × Hp)) = some res := hf
    cases hf2
  | succ n ih =>
    intro a0 i1 i2 i3 i4 i5 i6 h hf
    rw [fX7_trim_w43] at hf
    refine x_iload C dX7_trim_43 (pc' := 45) rfl rfl ?_
    refine x_iload_n C dX7_trim_45 (pc' := 46) rfl rfl rfl ?_
    refine x_iload C dX7_trim_46 (pc' := 48) rfl rfl ?_
    obtain ⟨r1, h2, hq, hf⟩ := call_some hf
    refine x_callS C (As := [vI i3, vI i4]) (st := [vI i6]) (r := (some (vI r1))) (h' := h2) (mc := 0) (ms := 0) (k := 0) (n := 0) (mX7_power hq) (va_cwS 2 C.1.2.2.2.2 gX7_trim_X7_power rfl rfl rfl (by decide +kernel) ⟨Nat.le_of_ble_eq_true rfl, Nat.le_of_ble_eq_true rfl⟩) rfl rfl (Nat.le_of_ble_eq_true rfl) dX7_trim_48 (pc' := 51) rfl ?_
    refine x_icmp_ge C hf dX7_trim_51 (pc' := 54) rfl (tgt := 78) (by decide) (fun _ hf => ?_) (fun _ hf => ?_)
    ·
      refine x_keep [true, false, true, true, true, true, false] rfl ?_
      refine x_more (k' := 0) (n' := 0) (Nat.le_of_ble_eq_true rfl) (Nat.le_of_ble_eq_true rfl) ?_
      exact mX7_trim_w78 C hr hlk hnm FUEL a0 i2 i3 i4 i5 h2 hf
    ·
      refine x_aload_n C dX7_trim_54 (pc' := 55) rfl rfl rfl ?_
      refine x_getR C (ci := 7) (kf := 6) rfl (by decide) hinX7_trim_X7 lkX7_trim_0 rfl hf dX7_trim_55 (pc' := 58) rfl (fun v3 _ hf => ?_)
      refine x_sipush C (v := 162) (by decide) dX7_trim_58 (pc' := 61) rfl ?_
      refine x_iload C dX7_trim_61 (pc' := 63) rfl rfl ?_
      refine x_iadd C dX7_trim_63 (pc' := 64) rfl ?_
      refine x_aload_n C dX7_trim_64 (pc' := 65) rfl rfl rfl ?_
      refine x_iload_n C dX7_trim_65 (pc' := 66) rfl rfl rfl ?_
      refine x_iload C dX7_trim_66 (pc' := 68) rfl rfl ?_
      obtain ⟨r4, h5, hq, hf⟩ := call_some hf
      obtain ⟨hob, hq⟩ := oK_some hq
      refine x_callV C (As := [vI i1, vI i6]) (st := [vI ((162 : Int32) + i6), vR v3]) (r := (some (vI r4))) (h' := h5) (mc := 0) (ms := 0) (k := 0) (n := 0) (mX7_tells hq) hob (ci := 7) rfl (cwV 2 C.1.2.2.2.2 gX7_trim_X7_tells rfl rfl rfl (by decide +kernel) ⟨Nat.le_of_ble_eq_true rfl, Nat.le_of_ble_eq_true rfl⟩) rfl rfl (Nat.le_of_ble_eq_true rfl) dX7_trim_68 (pc' := 71) rfl ?_
      refine x_iastore C hf dX7_trim_71 (pc' := 72) rfl (fun h6 _ hf => ?_)
      refine x_iinc C dX7_trim_72 (pc' := 75) rfl rfl (v := (i6 + 1)) rfl (by decide) rfl (lv' := [some (vR a0), some (vI i1), some (vI i2), some (vI i3), some (vI i4), some (vI i5), some (vI (i6 + 1))]) rfl ?_
      refine x_goto C dX7_trim_75 (tgt := 43) (by decide) ?_
      exact ih a0 i1 i2 i3 i4 i5 (i6 + 1) h6 hf
def fX7_trim (h : Hp) (a0 : Nat) (i1 : Int32) (i2 : Int32) : Option (Int32 × Hp) := (pF h a0 7 0 (vI (0 : Int32))).bind fun h1 => call (oK h1 a0 7 (fX7_has h1 a0 i1)) fun r2 h3 => if r2 = 0 then (some ((-1 : Int32), h3)) else (call (fX7_isSlot h3 i2) fun r4 h5 => if r4 = 0 then (some ((-1 : Int32), h5)) else ((gR h5 a0 7 4).bind fun v6 => (aI h5 v6 0 i1).bind fun v7 => (gR h5 a0 7 5).bind fun v8 => (aI h5 v8 0 i1).bind fun v9 => fX7_trim_w43 FUEL a0 i1 i2 v7 v9 (0 : Int32) (0 : Int32) h5))
set_option maxHeartbeats 4000000 in
set_option maxRecDepth 100000 in
theorem mX7_trim {l : Launch} {g : XG} {h : Hp} {a0 : Nat} {i1 : Int32} {i2 : Int32} {res : Int32 × Hp} (hf : fX7_trim h a0 i1 i2 = some res) : XM l g yX7_trim wsX7_trim 2 48 0 0 [vR a0, vI i1, vI i2] h (some (vI res.1)) res.2 := by
  refine x_start (cc := cX7_trim) (maxL := 7) (ret := (some .int)) (by decide) rfl (Nat.le_of_ble_eq_true rfl) (lv := [some (vR a0), some (vI i1), some (vI i2), none, none, none, none]) rfl ?_
  intro p e s m args below meth c C hr hlk hnm
  unfold fX7_trim at hf
  refine x_aload_n C dX7_trim_0 (pc' := 1) rfl rfl rfl ?_
  refine x_iconst C (v := 0) (by decide) dX7_trim_1 (pc' := 2) rfl ?_
  refine x_put C (ci := 7) (kf := 0) rfl (by decide) hinX7_trim_X7 tyX7 tyX7_ok nmX7 lkX7_trim_1 rfl (Or.inl rfl) rfl hf dX7_trim_2 (pc' := 5) rfl (fun h1 _ hf => ?_)
  refine x_aload_n C dX7_trim_5 (pc' := 6) rfl rfl rfl ?_
  refine x_iload_n C dX7_trim_6 (pc' := 7) rfl rfl rfl ?_
  obtain ⟨r2, h3, hq, hf⟩ := call_some hf
  obtain ⟨hob, hq⟩ := oK_some hq
  refine x_callV C (As := [vI i1]) (st := []) (r := (some (vI r2))) (h' := h3) (mc := 0) (ms := 0) (k := 0) (n := 0) (mX7_has hq) hob (ci := 7) rfl (cwV 1 C.1.2.2.2.2 gX7_trim_X7_has rfl rfl rfl (by decide +kernel) ⟨Nat.le_of_ble_eq_true rfl, Nat.le_of_ble_eq_true rfl⟩) rfl rfl (Nat.le_of_ble_eq_true rfl) dX7_trim_7 (pc' := 10) rfl ?_
  refine x_if_eq C hf dX7_trim_10 (pc' := 13) rfl (tgt := 20) (by decide) (fun _ hf => ?_) (fun _ hf => ?_)
  ·
    refine x_iconst C (v := -1) (by decide) dX7_trim_20 (pc' := 21) rfl ?_
    cases hf
    exact x_iret C hr hlk dX7_trim_21
  ·
    refine x_iload_n C dX7_trim_13 (pc' := 14) rfl rfl rfl ?_
    obtain ⟨r4, h5, hq, hf⟩ := call_some hf
    refine x_callS C (As := [vI i2]) (st := []) (r := (some (vI r4))) (h' := h5) (mc := 0) (ms := 0) (k := 0) (n := 0) (mX7_isSlot hq) (va_cwS 1 C.1.2.2.2.2 gX7_trim_X7_isSlot rfl rfl rfl (by decide +kernel) ⟨Nat.le_of_ble_eq_true rfl, Nat.le_of_ble_eq_true rfl⟩) rfl rfl (Nat.le_of_ble_eq_true rfl) dX7_trim_14 (pc' := 17) rfl ?_
    refine x_if_ne C hf dX7_trim_17 (pc' := 20) rfl (tgt := 22) (by decide) (fun _ hf => ?_) (fun _ hf => ?_)
    ·
      refine x_iconst C (v := -1) (by decide) dX7_trim_20 (pc' := 21) rfl ?_
      cases hf
      exact x_iret C hr hlk dX7_trim_21
    ·
      refine x_aload_n C dX7_trim_22 (pc' := 23) rfl rfl rfl ?_
      refine x_getR C (ci := 7) (kf := 4) rfl (by decide) hinX7_trim_X7 lkX7_trim_2 rfl hf dX7_trim_23 (pc' := 26) rfl (fun v6 _ hf => ?_)
      refine x_iload_n C dX7_trim_26 (pc' := 27) rfl rfl rfl ?_
      refine x_iaload C hf dX7_trim_27 (pc' := 28) rfl (fun v7 _ hf => ?_)
      refine x_istore_n C dX7_trim_28 (pc' := 29) rfl rfl (by decide) rfl (lv' := [some (vR a0), some (vI i1), some (vI i2), some (vI v7), none, none, none]) rfl ?_
      refine x_aload_n C dX7_trim_29 (pc' := 30) rfl rfl rfl ?_
      refine x_getR C (ci := 7) (kf := 5) rfl (by decide) hinX7_trim_X7 lkX7_trim_3 rfl hf dX7_trim_30 (pc' := 33) rfl (fun v8 _ hf => ?_)
      refine x_iload_n C dX7_trim_33 (pc' := 34) rfl rfl rfl ?_
      refine x_iaload C hf dX7_trim_34 (pc' := 35) rfl (fun v9 _ hf => ?_)
      refine x_istore C dX7_trim_35 (pc' := 37) rfl (by decide) rfl (lv' := [some (vR a0), some (vI i1), some (vI i2), some (vI v7), some (vI v9), none, none]) rfl ?_
      refine x_iconst C (v := 0) (by decide) dX7_trim_37 (pc' := 38) rfl ?_
      refine x_istore C dX7_trim_38 (pc' := 40) rfl (by decide) rfl (lv' := [some (vR a0), some (vI i1), some (vI i2), some (vI v7), some (vI v9), some (vI (0 : Int32)), none]) rfl ?_
      refine x_iconst C (v := 0) (by decide) dX7_trim_40 (pc' := 41) rfl ?_
      refine x_istore C dX7_trim_41 (pc' := 43) rfl (by decide) rfl (lv' := [some (vR a0), some (vI i1), some (vI i2), some (vI v7), some (vI v9), some (vI (0 : Int32)), some (vI (0 : Int32))]) rfl ?_
      refine x_more (k' := 0) (n' := 0) (Nat.le_of_ble_eq_true rfl) (Nat.le_of_ble_eq_true rfl) ?_
      exact mX7_trim_w43 C hr hlk hnm FUEL a0 i1 i2 v7 v9 (0 : Int32) (0 : Int32) h5 hf
-- ===== X7_count_
theorem lkX7_count__0 : Cond.fieldLink RX7 13 "MossRingsModel" "states" "[I" ∈ wsX7_count_ := by decide +kernel
theorem hinX7_count__X7 : ∀ w ∈ u_ws RX7 TX7 27, w ∈ wsX7_count_ := by decide +kernel
theorem lkX7_count__1 : Cond.fieldLink RX7 80 "MossRingsModel" "thrown" "I" ∈ wsX7_count_ := by decide +kernel
theorem lkX7_count__2 : Cond.fieldLink RX7 84 "MossRingsModel" "length" "I" ∈ wsX7_count_ := by decide +kernel
theorem lkX7_count__3 : Cond.fieldLink RX7 113 "MossRingsModel" "outMany" "I" ∈ wsX7_count_ := by decide +kernel
def fX7_count__b59 (w38 : Nat → Int32 → Int32 → Hp → Option (Int32 × Hp)) (a0 : Nat) (i3 : Int32) (s0 : Int32) (s1 : Int32) (h : Hp) : Option (Int32 × Hp) := setv ((s1 + s0)) fun v1 => w38 a0 v1 (i3 + 1) h
set_option maxHeartbeats 4000000 in
set_option maxRecDepth 100000 in
theorem mX7_count__b59 {g : XG} {p : Program} {l : Launch} {e : Env} {s : State} {m : MethodId} {args : Array Value} {below : List Frame} {meth : Method} {c : Code} (C : x_C g p s m args c cX7_count_ RX7 4 wsX7_count_) (hr : meth.sig.returnType = (some .int)) (hlk : meth.locks = false) (hnm : meth.name = yX7_count_.name) {res : Int32 × Hp} (w38 : Nat → Int32 → Int32 → Hp → Option (Int32 × Hp)) (hw38 : ∀ (a0 : Nat) (i2 : Int32) (i3 : Int32) (h : Hp), w38 a0 i2 i3 h = some res → XW g p l e { frames := 0, cells := 0, slots := 0, locals := 0 } s m args below meth c (MQ below (x_Q g (some (vI res.1)) res.2) args s 0 0 (x_A g)) 4 0 0 h 38 [some (vR a0), none, some (vI i2), some (vI i3)] []) (a0 : Nat) (i3 : Int32) (s0 : Int32) (s1 : Int32) (h : Hp) (hf : fX7_count__b59 w38 a0 i3 s0 s1 h = some res) : XW g p l e { frames := 0, cells := 0, slots := 0, locals := 0 } s m args below meth c (MQ below (x_Q g (some (vI res.1)) res.2) args s 0 0 (x_A g)) 4 0 0 h 59 [some (vR a0), none, none, some (vI i3)] [vI s0, vI s1] := by
  unfold fX7_count__b59 at hf
  refine x_iadd C dX7_count__59 (pc' := 60) rfl ?_
  refine x_nameI hf (fun v1 _ hf => ?_)
  refine x_istore_n C dX7_count__60 (pc' := 61) rfl rfl (by decide) rfl (lv' := [some (vR a0), none, some (vI v1), some (vI i3)]) rfl ?_
  refine x_iinc C dX7_count__61 (pc' := 64) rfl rfl (v := (i3 + 1)) rfl (by decide) rfl (lv' := [some (vR a0), none, some (vI v1), some (vI (i3 + 1))]) rfl ?_
  refine x_goto C dX7_count__64 (tgt := 38) (by decide) ?_
  exact hw38 a0 v1 (i3 + 1) h hf
def fX7_count__w38 : Nat → Nat → Int32 → Int32 → Hp → Option (Int32 × Hp)
  | 0 => fun _ _ _ _ => none
  | n + 1 => fun a0 i2 i3 h => if (6 : Int32) ≤ i3 then (some (i2, h)) else ((gR h a0 7 4).bind fun v1 => (aI h v1 0 i3).bind fun v2 => if v2 ≤ 0 then (fX7_count__b59 (fX7_count__w38 n) a0 i3 (0 : Int32) i2 h) else (fX7_count__b59 (fX7_count__w38 n) a0 i3 (1 : Int32) i2 h))
set_option maxHeartbeats 4000000 in
set_option maxRecDepth 100000 in
theorem mX7_count__w38 {g : XG} {p : Program} {l : Launch} {e : Env} {s : State} {m : MethodId} {args : Array Value} {below : List Frame} {meth : Method} {c : Code} (C : x_C g p s m args c cX7_count_ RX7 4 wsX7_count_) (hr : meth.sig.returnType = (some .int)) (hlk : meth.locks = false) (hnm : meth.name = yX7_count_.name) {res : Int32 × Hp} : ∀ (n : Nat) (a0 : Nat) (i2 : Int32) (i3 : Int32) (h : Hp), fX7_count__w38 n a0 i2 i3 h = some res → XW g p l e { frames := 0, cells := 0, slots := 0, locals := 0 } s m args below meth c (MQ below (x_Q g (some (vI res.1)) res.2) args s 0 0 (x_A g)) 4 0 0 h 38 [some (vR a0), none, some (vI i2), some (vI i3)] [] := by
  intro n
  induction n with
  | zero =>
    intro a0 i2 i3 h hf
    have hf2 : (none : Option (Int32 × Hp)) = some res := hf
    cases hf2
  | succ n ih =>
    intro a0 i2 i3 h hf
    rw [fX7_count__w38] at hf
    refine x_iload_n C dX7_count__38 (pc' := 39) rfl rfl rfl ?_
    refine x_bipush C (v := 6) (by decide) dX7_count__39 (pc' := 41) rfl ?_
    refine x_icmp_ge C hf dX7_count__41 (pc' := 44) rfl (tgt := 67) (by decide) (fun _ hf => ?_) (fun _ hf => ?_)
    ·
      refine x_iload_n C dX7_count__67 (pc' := 68) rfl rfl rfl ?_
      cases hf
      exact x_iret C hr hlk dX7_count__68
    ·
      refine x_iload_n C dX7_count__44 (pc' := 45) rfl rfl rfl ?_
      refine x_aload_n C dX7_count__45 (pc' := 46) rfl rfl rfl ?_
      refine x_getR C (ci := 7) (kf := 4) rfl (by decide) hinX7_count__X7 lkX7_count__0 rfl hf dX7_count__46 (pc' := 49) rfl (fun v1 _ hf => ?_)
      refine x_iload_n C dX7_count__49 (pc' := 50) rfl rfl rfl ?_
      refine x_iaload C hf dX7_count__50 (pc' := 51) rfl (fun v2 _ hf => ?_)
      refine x_if_le C hf dX7_count__51 (pc' := 54) rfl (tgt := 58) (by decide) (fun _ hf => ?_) (fun _ hf => ?_)
      ·
        refine x_iconst C (v := 0) (by decide) dX7_count__58 (pc' := 59) rfl ?_
        refine x_keep [true, false, false, true] rfl ?_
        refine x_more (k' := 0) (n' := 0) (Nat.le_of_ble_eq_true rfl) (Nat.le_of_ble_eq_true rfl) ?_
        exact mX7_count__b59 C hr hlk hnm (fX7_count__w38 n) ih a0 i3 (0 : Int32) i2 h hf
      ·
        refine x_iconst C (v := 1) (by decide) dX7_count__54 (pc' := 55) rfl ?_
        refine x_goto C dX7_count__55 (tgt := 59) (by decide) ?_
        refine x_keep [true, false, false, true] rfl ?_
        refine x_more (k' := 0) (n' := 0) (Nat.le_of_ble_eq_true rfl) (Nat.le_of_ble_eq_true rfl) ?_
        exact mX7_count__b59 C hr hlk hnm (fX7_count__w38 n) ih a0 i3 (1 : Int32) i2 h hf
def fX7_count_ (h : Hp) (a0 : Nat) (i1 : Int32) : Option (Int32 × Hp) := (pF h a0 7 0 (vI (0 : Int32))).bind fun h1 => if i1 = 0 then (fX7_count__w38 FUEL a0 (0 : Int32) (0 : Int32) h1) else (if i1 = 1 then ((gI h1 a0 7 2).bind fun v4 => some (v4, h1)) else (if i1 = 2 then ((gI h1 a0 7 8).bind fun v6 => some (v6, h1)) else (some ((-1 : Int32), h1))))
set_option maxHeartbeats 4000000 in
set_option maxRecDepth 100000 in
theorem mX7_count_ {l : Launch} {g : XG} {h : Hp} {a0 : Nat} {i1 : Int32} {res : Int32 × Hp} (hf : fX7_count_ h a0 i1 = some res) : XM l g yX7_count_ wsX7_count_ 0 0 0 0 [vR a0, vI i1] h (some (vI res.1)) res.2 := by
  refine x_start (cc := cX7_count_) (maxL := 4) (ret := (some .int)) (by decide) rfl (Nat.le_of_ble_eq_true rfl) (lv := [some (vR a0), some (vI i1), none, none]) rfl ?_
  intro p e s m args below meth c C hr hlk hnm
  unfold fX7_count_ at hf
  refine x_aload_n C dX7_count__0 (pc' := 1) rfl rfl rfl ?_
  refine x_iconst C (v := 0) (by decide) dX7_count__1 (pc' := 2) rfl ?_
  refine x_put C (ci := 7) (kf := 0) rfl (by decide) hinX7_count__X7 tyX7 tyX7_ok nmX7 lkX7_count__1 rfl (Or.inl rfl) rfl hf dX7_count__2 (pc' := 5) rfl (fun h1 _ hf => ?_)
  refine x_iconst C (v := 0) (by decide) dX7_count__5 (pc' := 6) rfl ?_
  refine x_istore_n C dX7_count__6 (pc' := 7) rfl rfl (by decide) rfl (lv' := [some (vR a0), some (vI i1), some (vI (0 : Int32)), none]) rfl ?_
  refine x_iload_n C dX7_count__7 (pc' := 8) rfl rfl rfl ?_
  by_cases hc2 : i1 = 0
  ·
    rw [if_pos hc2] at hf
    refine x_tswIn C (i := 0) hc2 (by decide) (by decide) dX7_count__8 (off := 28) rfl (tgt := 36) (by decide) ?_
    refine x_iconst C (v := 0) (by decide) dX7_count__36 (pc' := 37) rfl ?_
    refine x_istore_n C dX7_count__37 (pc' := 38) rfl rfl (by decide) rfl (lv' := [some (vR a0), some (vI i1), some (vI (0 : Int32)), some (vI (0 : Int32))]) rfl ?_
    refine x_keep [true, false, true, true] rfl ?_
    refine x_more (k' := 0) (n' := 0) (Nat.le_of_ble_eq_true rfl) (Nat.le_of_ble_eq_true rfl) ?_
    exact mX7_count__w38 C hr hlk hnm FUEL a0 (0 : Int32) (0 : Int32) h1 hf
  ·
    rw [if_neg hc2] at hf
    by_cases hc3 : i1 = 1
    ·
      rw [if_pos hc3] at hf
      refine x_tswIn C (i := 1) hc3 (by decide) (by decide) dX7_count__8 (off := 61) rfl (tgt := 69) (by decide) ?_
      refine x_aload_n C dX7_count__69 (pc' := 70) rfl rfl rfl ?_
      refine x_getI C (ci := 7) (kf := 2) rfl (by decide) hinX7_count__X7 lkX7_count__2 rfl hf dX7_count__70 (pc' := 73) rfl (fun v4 _ hf => ?_)
      cases hf
      exact x_iret C hr hlk dX7_count__73
    ·
      rw [if_neg hc3] at hf
      by_cases hc5 : i1 = 2
      ·
        rw [if_pos hc5] at hf
        refine x_tswIn C (i := 2) hc5 (by decide) (by decide) dX7_count__8 (off := 66) rfl (tgt := 74) (by decide) ?_
        refine x_aload_n C dX7_count__74 (pc' := 75) rfl rfl rfl ?_
        refine x_getI C (ci := 7) (kf := 8) rfl (by decide) hinX7_count__X7 lkX7_count__3 rfl hf dX7_count__75 (pc' := 78) rfl (fun v6 _ hf => ?_)
        cases hf
        exact x_iret C hr hlk dX7_count__78
      ·
        rw [if_neg hc5] at hf
        refine x_tswOut C 3 (by decide) (fun i hi => by match i, hi with | 0, _ => exact hc2 | 1, _ => exact hc3 | 2, _ => exact hc5 | j + 3, hi => omega) dX7_count__8 (tgt := 79) (by decide) ?_
        refine x_iconst C (v := -1) (by decide) dX7_count__79 (pc' := 80) rfl ?_
        cases hf
        exact x_iret C hr hlk dX7_count__80

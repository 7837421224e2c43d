/-! octet: the class's method returns or throws; the law's helper catches. -/
section OX
variable {g : XG} {p : Program} {l : Launch} {e : Env} {s : State} {m : MethodId} {below : List Frame} {meth : Method} {c : Code} {h : Hp}
/-- what a throw asks beside x_U -/
def x_E (g : XG) (sa : Nat) (U : State) : Prop := vk_R RX6 211 "OUT has no such byte" sa U ∧ (∀ w ∈ xw_b, va_Nw w U) ∧ vx_Zq Bundle.tN "UNASSIGNED_STACK" Bundle.steD (x_A g) U U.heap ∧ vx_Zq Bundle.tN "SUPPRESSED_SENTINEL" Bundle.listD (x_A g) U U.heap
theorem xw_b_on : ∀ w ∈ xw_b, w.onTables = true := by
  intro w hw
  simp only [xw_b, List.mem_cons, List.not_mem_nil, or_false] at hw
  rcases hw with rfl | rfl | rfl | rfl <;> rfl
theorem x_mkE {sa : Nat} (E : x_E g sa s) {H : Heap} {locs : List Loc} (hS : x_S g s h H locs) {U : State} (hU : U.heap = H) (hW : s.WarmedH U.vm) : x_E g sa U := by
  obtain ⟨e1, e2, e3, e4⟩ := E
  have kept : ∀ a : Nat, a < s.heap.size → ¬ x_A g a → U.heap[a]? = s.heap[a]? := fun a h1 h2 => by rw [hU]; exact hS.2.2.1 a h1 h2
  refine ⟨vk_R.warm hW e1, ?_, vx_Zq.moved hW.alike (e3.kept kept), vx_Zq.moved hW.alike (e4.kept kept)⟩
  intro w hw
  have h0 := e2 w hw
  simp only [xw_b, List.mem_cons, List.not_mem_nil, or_false] at hw
  rcases hw with rfl | rfl | rfl | rfl
  · exact h0.warmD hW
  · exact h0.warmD hW
  · exact h0.warmD hW
  · exact h0.warmC hW
theorem x_blindE (av : List Value) (sa : Nat) : FrameBlind (va_Pc av (fun U => x_U g h U ∧ x_E g sa U)) := by
  intro a U g' mk q
  obtain ⟨q0, qU, e1, e2, e3, e4⟩ := q
  have b := x_blind (g := g) (h := h) av a U g' mk ⟨q0, qU⟩
  exact ⟨q0, b.2, vk_R.same (u := U) (U := U.calling g' mk a) rfl e1, fun w hw => va_Nw.same (xw_b_on w hw) (u := U) (U := U.calling g' mk a) rfl (e2 w hw), vx_Zq.moved (u := U) (U := U.calling g' mk a) (Vm.Alike.refl U.vm) e3, vx_Zq.moved (u := U) (U := U.calling g' mk a) (Vm.Alike.refl U.vm) e4⟩
/-- from a body's entry into the picture -/
theorem x_enter {y : MethodName} {ws : List Cond} {rm : Room} {cc : ByteArray} {maxL : Nat} {ret : Option FieldType} {s₁ : State} {as : List XV} {lv : List (Option XV)} {Q : State → Prop} (B : BodyLoose p l y (headSpec ws rm) cc maxL ret e s m (as.map (x_v g)).toArray below meth c s₁) (hml : c.maxLocals = maxL) (hU : x_U g h s) (hlen : x_wds as ≤ maxL) (hlv : x_args as ++ List.replicate (maxL - x_wds as) none = lv)
    (K : x_C g p s m (as.map (x_v g)).toArray c cc y.cls maxL ws → XW g p l e rm s m (as.map (x_v g)).toArray below meth c Q maxL rm.cells rm.slots h 0 lv []) : W p l e (headSpec ws rm).room s m (as.map (x_v g)).toArray below meth c s.heap [] 0 0 Q (entryFrame m (as.map (x_v g)).toArray maxL) := by
  obtain ⟨hH, hK, hSt, hN, hO, hC⟩ := hU
  have hts := atoms_spec (ws := ws) B.pre
  have hown : s.vm.findClass y.cls = some m.cls := findClass_of_methodNamed B.named
  have hsz : g.1.1 ≤ s.heap.size := by rw [hH.2.1]; omega
  rw [lg_entry_eq]
  have hl := lv_entry (as.map (x_v g)) (n := maxL) (by rw [x_slen]; exact hlen)
  refine K ⟨⟨B.exec, B.bytes, hml, hown, hts⟩, ⟨hK, hSt, hN, hO, hC⟩, hsz⟩ s.heap [] _ 0 0 ⟨hH, va_S.rf⟩ ⟨hl.1, hl.2.1, fun i v hi => ?_⟩ (by omega) (by omega)
  subst hlv
  have h1 : (x_args as)[i]? = some (some v) := by
    rw [List.getElem?_append] at hi
    split at hi
    · exact hi
    · rw [List.getElem?_replicate] at hi
      split at hi <;> cases hi
  have := x_args_at g as 0 i v h1
  rw [Nat.zero_add] at this
  exact hl.2.2 _ this
theorem x_toX {R : Room} {args : Array Value} {Qc : Array Value → State → Outcome → State → Prop} {XC : String → State → State → Prop} {mc ms : Nat} {free : Addr → Prop} {nL k n pc : Nat} {lv : List (Option XV)} {st : List XV} (K : XW g p l e R s m args below meth c (MQ below Qc args s mc ms free) nL k n h pc lv st) : XW g p l e R s m args below meth c (vx_MQ below Qc XC args s mc ms free) nL k n h pc lv st := fun H locs ls cells slots hS hl hc hn => vx_ret (K H locs ls cells slots hS hl hc hn)
theorem hin_oct : ∀ w ∈ u_ws RX6 TX6 14, w ∈ wsX6_oct := fun w hw => List.mem_cons_of_mem _ (List.mem_append_left _ (List.mem_append_right _ hw))
theorem lk_oct0 : Cond.fieldLink RX6 106 "MossRings" "outLength" "I" ∈ wsX6_oct := List.mem_of_getElem? (i := 3) rfl
theorem lk_oct1 : Cond.fieldLink RX6 19 "MossRings" "out" "[I" ∈ wsX6_oct := List.mem_of_getElem? (i := 4) rfl
theorem lk_oct2 : Cond.classLink RX6 209 "java/util/NoSuchElementException" ∈ wsX6_oct := List.mem_of_getElem? (i := 1) rfl
theorem lk_oct3 : Cond.initialized "java/util/NoSuchElementException" ∈ wsX6_oct := List.mem_of_getElem? (i := 2) rfl
def fX6_octet (h : Hp) (a0 : Nat) (i1 : Int32) : Option (Int32 × Hp) := if i1 < 0 then none else ((gI h a0 6 4).bind fun v1 => if v1 ≤ i1 then none else ((gR h a0 6 3).bind fun v2 => (aN h v2).bind fun v3 => if i1 < v3 then ((gR h a0 6 3).bind fun v4 => (aI h v4 0 i1).bind fun v5 => some (v5, h)) else none))
set_option maxHeartbeats 4000000 in
set_option maxRecDepth 100000 in
theorem mX6_octet {a0 : Nat} {i1 : Int32} {res : Int32 × Hp} (hf : fX6_octet h a0 i1 = some res) : XM l g yX6_octet wsX6_oct 0 0 0 0 [vR a0, vI i1] h (some (vI res.1)) res.2 := by
  refine x_start (cc := cX6_octet) (maxL := 2) (ret := (some .int)) (by decide) rfl (Nat.le_of_ble_eq_true rfl) (lv := [some (vR a0), some (vI i1)]) rfl ?_
  intro p e s m args below meth c C hr hlk hnm
  unfold fX6_octet at hf
  refine x_iload_n C dX6_octet_0 (pc' := 1) rfl rfl rfl ?_
  refine x_if_lt C hf dX6_octet_1 (pc' := 4) rfl (tgt := 21) (by decide) (fun _ hf => ?_) (fun _ hf => ?_)
  · cases hf
  refine x_iload_n C dX6_octet_4 (pc' := 5) rfl rfl rfl ?_
  refine x_aload_n C dX6_octet_5 (pc' := 6) rfl rfl rfl ?_
  refine x_getI C (ci := 6) (kf := 4) rfl (by decide) hin_oct lk_oct0 rfl hf dX6_octet_6 (pc' := 9) rfl (fun v1 _ hf => ?_)
  refine x_icmp_ge C hf dX6_octet_9 (pc' := 12) rfl (tgt := 21) (by decide) (fun _ hf => ?_) (fun _ hf => ?_)
  · cases hf
  refine x_iload_n C dX6_octet_12 (pc' := 13) rfl rfl rfl ?_
  refine x_aload_n C dX6_octet_13 (pc' := 14) rfl rfl rfl ?_
  refine x_getR C (ci := 6) (kf := 3) rfl (by decide) hin_oct lk_oct1 rfl hf dX6_octet_14 (pc' := 17) rfl (fun v2 _ hf => ?_)
  refine x_alen C hf dX6_octet_17 (pc' := 18) rfl (fun v3 _ hf => ?_)
  refine x_icmp_lt C hf dX6_octet_18 (pc' := 21) rfl (tgt := 31) (by decide) (fun _ hf => ?_) (fun _ hf => ?_)
  · refine x_aload_n C dX6_octet_31 (pc' := 32) rfl rfl rfl ?_
    refine x_getR C (ci := 6) (kf := 3) rfl (by decide) hin_oct lk_oct1 rfl hf dX6_octet_32 (pc' := 35) rfl (fun v4 _ hf => ?_)
    refine x_iload_n C dX6_octet_35 (pc' := 36) rfl rfl rfl ?_
    refine x_iaload C hf dX6_octet_36 (pc' := 37) rfl (fun v5 _ hf => ?_)
    cases hf
    exact x_iret C hr hlk dX6_octet_37
  · cases hf
/-- the world behind a throw: one cell more -/
def x_XC (g : XG) (h : Hp) : String → State → State → Prop := fun E st t => E = "java/util/NoSuchElementException" ∧ x_H g (h ++ [oC 8 []]) t.heap ∧ va_F (x_A g) st t
set_option maxHeartbeats 4000000 in
set_option maxRecDepth 100000 in
theorem xX6_throw {args : Array Value} (hlt : l.stackTraces = false) {sa : Nat} {lv : List (Option XV)} (C : x_C g p s m args c cX6_octet RX6 2 wsX6_oct) (E : x_E g sa s) (hnt : ∀ x ∈ c.exceptionTable.toList, False) (hlk : meth.locks = false) : XW g p l e { frames := 6, cells := 1, slots := 6, locals := 82 } s m args below meth c (vx_MQ below (fun _ _ _ _ => False) (x_XC g h) args s 1 6 (x_A g)) 2 1 6 h 21 lv [] := by
  intro H locs ls cells slots hS hl hc hn
  have hc : cells + 1 ≤ 1 := hc
  have hn : slots + 6 ≤ 6 := hn
  refine vy_throw (own := RX6) (cls := "java/util/NoSuchElementException") (text := "OUT has no such byte") (names := ["java/lang/RuntimeException", "java/lang/Exception"]) (ik := 209) (is := 211) (ic := 213) (sa := sa) (A := x_A g) (ix := 13) (rx := prog_18_method_4_code) C.1.1 C.1.2.1 hlt (by decide +kernel) (by decide +kernel) (by decide +kernel) (by decide +kernel) C.1.2.2.2.1 (by decide +kernel) (by decide +kernel) (C.1.2.2.2.2 _ lk_oct2) (C.1.2.2.2.2 _ lk_oct3) E.1 ?_ xw_ot E.2.2.1 E.2.2.2 hS.2 (hl.1.trans C.1.2.2.1.symm) dX6_octet_21 dX6_octet_24 dX6_octet_25 dX6_octet_27 dX6_octet_30 (fun x hx => (hnt x hx).elim) (Nat.le_of_ble_eq_true rfl) (Nat.le_of_ble_eq_true rfl) hc hn hlk ?_ hS.2.2.2 hc hn
  · exact vx_hat (L := xw_all) (B := xw_b) (fun w hw => C.1.2.2.2.2 w (List.mem_cons_of_mem _ (List.mem_append_right _ hw))) xw_b_in (fun w hw => va_Nw.use (xw_b_on w hw) (E.2.1 w hw))
  · intro t ce hvm z1 o1 hce hcv hcl
    have hat : va_at g.2.1.2 x_cl (H.size, x_tr g (oC 8 [])) t.heap := by
      have hk := (C.2.1.1.1 8 _ rfl).2.1
      exact ⟨_, rfl, ce, hce, Option.some.inj (hcl.symm.trans hk), hcv, fun k hk => absurd hk (Nat.not_lt_zero k)⟩
    obtain ⟨hS1, -⟩ := x_S_push (c' := oC 8 []) C.2.2 hS z1 o1 hat
    exact ⟨rfl, hS1.1, hS1.2.1, hS1.2.2.1⟩
set_option maxHeartbeats 4000000 in
set_option maxRecDepth 100000 in
theorem xX6_octet (hlt : l.stackTraces = false) {sa a0 : Nat} {i1 v1 : Int32} (h1 : gI h a0 6 4 = some v1) {v2 : Nat} (h2 : gR h a0 6 3 = some v2) (hbad : i1 < 0 ∨ v1 ≤ i1) : vx_Met l yX6_octet wsX6_oct { frames := 6, cells := 1, slots := 6, locals := 82 } (va_Pc ([vR a0, vI i1].map (x_v g)) (fun U => x_U g h U ∧ x_E g sa U)) (fun _ _ _ _ => False) (x_XC g h) 1 6 (x_A g) := by
  refine vx_ofW (cc := cX6_octet) (maxL := 2) (ret := (some .int)) (by decide) rfl ?_
  intro p e s m args below meth c s₁ B hml hnt hv
  obtain ⟨rfl, hU, hE⟩ := hv
  refine x_enter (lv := [some (vR a0), some (vI i1)]) B hml hU (Nat.le_of_ble_eq_true rfl) rfl (fun C => ?_)
  have T := fun lv => xX6_throw (g := g) (e := e) (below := below) (meth := meth) (h := h) (lv := lv) hlt C hE hnt B.notSynchronized
  refine x_iload_n C dX6_octet_0 (pc' := 1) rfl rfl rfl ?_
  by_cases q : i1 < 0
  · exact x_if_lt C (A := some ()) (B := none) (res := ()) (by rw [if_pos q]) dX6_octet_1 (pc' := 4) rfl (tgt := 21) (by decide) (fun _ _ => T _) (fun q' _ => absurd q q')
  · refine x_if_lt C (A := none) (B := some ()) (res := ()) (by rw [if_neg q]) dX6_octet_1 (pc' := 4) rfl (tgt := 21) (by decide) (fun q' _ => absurd q' q) (fun _ _ => ?_)
    refine x_iload_n C dX6_octet_4 (pc' := 5) rfl rfl rfl ?_
    refine x_aload_n C dX6_octet_5 (pc' := 6) rfl rfl rfl ?_
    refine x_getI C (ci := 6) (kf := 4) (F := some) (res := v1) rfl (by decide) hin_oct lk_oct0 rfl (by rw [h1]; rfl) dX6_octet_6 (pc' := 9) rfl (fun v _ hv => ?_)
    cases hv
    have q2 := hbad.resolve_left q
    exact x_icmp_ge C (A := some ()) (B := none) (res := ()) (by rw [if_pos q2]) dX6_octet_9 (pc' := 12) rfl (tgt := 21) (by decide) (fun _ _ => T _) (fun q' _ => absurd q2 q')
theorem gOct : GoodIn wsL_oct (wsV RL 7 RX6 yX6_octet wsX6_oct) := by
  refine goodIn_app (goodIn_of _ (by decide +kernel)) (fun w hw => ⟨?_, (k_wsX6_oct w hw).2⟩)
  rcases List.mem_cons.mp hw with rfl | hw
  · exact List.mem_of_getElem? (i := 6) rfl
  rcases List.mem_append.mp hw with hw | hw
  · rcases List.mem_append.mp hw with hw | hw
    · exact List.mem_cons_of_mem _ (List.mem_append_left _ (List.mem_append_left _ (List.mem_of_mem_drop (i := 6) hw)))
    · exact List.mem_cons_of_mem _ (List.mem_append_left _ (List.mem_append_right _ hw))
  · exact List.mem_cons_of_mem _ (List.mem_append_right _ hw)
theorem lk_loc : Cond.classLink RL 13 "java/util/NoSuchElementException" ∈ wsL_oct := List.mem_of_getElem? (i := 1) rfl
set_option maxHeartbeats 4000000 in
set_option maxRecDepth 100000 in
theorem mL_oct {sa a0 a2 : Nat} {i1 v : Int32} {h' : Hp} (hf : oK h a0 6 (fX6_octet h a0 i1) = some (v, h)) (hs : sL h a2 0 v.toInt64 = some h') : vx_Met l yL_octet wsL_oct { frames := 7, cells := 1, slots := 6, locals := 103 } (va_Pc ([vR a0, vI i1, vR a2].map (x_v g)) (fun U => x_U g h U ∧ x_E g sa U)) (x_Q g (some (vI 0)) h') (fun _ _ _ => False) 1 6 (x_A g) := by
  refine vx_ofWH (cc := cL_octet) (maxL := 4) (ret := (some .int)) (hh := [(0, 9, 12, 13)]) (by decide) rfl ?_
  intro p e s m args below meth c s₁ B hml hv
  obtain ⟨rfl, hU, hE⟩ := hv
  refine x_enter (lv := [some (vR a0), some (vI i1), some (vR a2), none]) B hml hU (Nat.le_of_ble_eq_true rfl) rfl (fun C => ?_)
  have hr := B.returns
  have hlk := B.notSynchronized
  refine x_aload_n C dL_octet_0 (pc' := 1) rfl rfl rfl ?_
  refine x_iconst C (v := 0) (by decide) dL_octet_1 (pc' := 2) rfl ?_
  refine x_aload_n C dL_octet_2 (pc' := 3) rfl rfl rfl ?_
  refine x_iload_n C dL_octet_3 (pc' := 4) rfl rfl rfl ?_
  obtain ⟨hob, hq⟩ := oK_some hf
  refine x_callV C (As := [vI i1]) (st := [vI 0, vR a2]) (r := (some (vI v))) (h' := h) (mc := 0) (ms := 0) (k := 1) (n := 6) (mX6_octet hq) hob (ci := 6) rfl (cwV 1 C.1.2.2.2.2 gOct rfl rfl rfl (by decide +kernel) ⟨Nat.le_of_ble_eq_true rfl, Nat.le_of_ble_eq_true rfl⟩) rfl rfl (Nat.le_of_ble_eq_true rfl) dL_octet_4 (pc' := 7) rfl ?_
  refine x_i2l C dL_octet_7 (pc' := 8) rfl ?_
  refine x_lastore C (F := some) (res := h') (by rw [hs]; rfl) dL_octet_8 (pc' := 9) rfl (fun h1 _ hh => ?_)
  cases hh
  refine x_goto C dL_octet_9 (tgt := 15) (by decide) ?_
  refine x_iconst C (v := 0) (by decide) dL_octet_15 (pc' := 16) rfl ?_
  exact x_toX (x_iret C hr hlk dL_octet_16)
set_option maxHeartbeats 4000000 in
set_option maxRecDepth 100000 in
theorem mL_octX (hlt : l.stackTraces = false) {sa a0 a2 : Nat} {i1 v1 : Int32} (h1 : gI h a0 6 4 = some v1) {v2 : Nat} (h2 : gR h a0 6 3 = some v2) (hbad : i1 < 0 ∨ v1 ≤ i1) : vx_Met l yL_octet wsL_oct { frames := 7, cells := 1, slots := 6, locals := 103 } (va_Pc ([vR a0, vI i1, vR a2].map (x_v g)) (fun U => x_U g h U ∧ x_E g sa U)) (x_Q g (some (vI 1)) (h ++ [oC 8 []])) (fun _ _ _ => False) 1 6 (x_A g) := by
  refine vx_ofWH (cc := cL_octet) (maxL := 4) (ret := (some .int)) (hh := [(0, 9, 12, 13)]) (by decide) rfl ?_
  intro p e s m args below meth c s₁ B hml hv
  obtain ⟨rfl, hU, hE⟩ := hv
  refine x_enter (lv := [some (vR a0), some (vI i1), some (vR a2), none]) B hml hU (Nat.le_of_ble_eq_true rfl) rfl (fun C => ?_)
  have hr := B.returns
  have hlk := B.notSynchronized
  have htb : c.exceptionTable.toList = tableOf [(0, 9, 12, 13)] := vx_table (x := yL_octet) B (C.1.2.2.2.2 _ List.mem_cons_self)
  refine x_aload_n C dL_octet_0 (pc' := 1) rfl rfl rfl ?_
  refine x_iconst C (v := 0) (by decide) dL_octet_1 (pc' := 2) rfl ?_
  refine x_aload_n C dL_octet_2 (pc' := 3) rfl rfl rfl ?_
  refine x_iload_n C dL_octet_3 (pc' := 4) rfl rfl rfl ?_
  intro H locs ls cells slots hS hl hc hn
  have hc : cells + 1 ≤ 1 := hc
  have hn : slots + 6 ≤ 6 := hn
  obtain ⟨fs, hfs, -⟩ := gI_at h1
  obtain ⟨hb4, hbh⟩ := hObj_at hfs
  have hb : x_rv g a0 = .ref (x_ad g a0) := x_rv_pos hb4
  have hM := xX6_octet (l := l) (g := g) (h := h) (sa := sa) hlt h1 h2 hbad
  have hpc : ∀ U : State, U.heap = H → s.WarmedH U.vm → va_Pc ([vR a0, vI i1].map (x_v g)) (fun U => x_U g h U ∧ x_E g sa U) (Value.ref (x_ad g a0) :: [Value.int i1]).toArray U := fun U hU hW => ⟨by rw [← hb]; rfl, x_mkU C hS hU hW, x_mkE hE hS hU hW⟩
  have hrun := vx_runV (e := e) (meth := meth) (below := below) (b := x_ad g a0) (As := [Value.int i1]) (rest := [Value.int 0, x_v g (vR a2)]) (g := F0 m 4 ls ([vI i1, vR a0, vI 0, vR a2].map (x_v g))) (H := H) (locs := locs) (cells := cells) (slots := slots) C.1 hM (cwV 1 C.1.2.2.2.2 gOct rfl rfl rfl (by decide +kernel) ⟨Nat.le_of_ble_eq_true rfl, Nat.le_of_ble_eq_true rfl⟩) ⟨x_blindE _ _, va_recv C.2.1.1 hS.1.2.2 (ci := 6) rfl (x_wd_at (g := g) hb4 hbh), hpc⟩ rfl rfl hl.1 (by show _ = [Value.int i1] ++ Value.ref (x_ad g a0) :: [Value.int 0, x_v g (vR a2)]; rw [← hb]; rfl) (lv_room (by show 1 + ((x_v g (vR a2)).category + 0) ≤ 8; rw [x_cat_R]; exact Nat.le_of_ble_eq_true rfl)) dL_octet_4 ⟨by omega, by omega⟩
  intro T hT X
  rcases hrun T hT X with ⟨v, st₀, t, T', L, h0, X', hL, e1, e2, hfalse, st⟩ | ⟨q, st₀, t, T', L, E, ce, h0, X', hL, e1, e2, ⟨rfl, hH, hz, hk⟩, hce, hcv, hcl, st⟩
  · exact hfalse.elim
  · rw [h0] at hz hk
    have hS1 : x_S g s (h ++ [oC 8 []]) T'.heap (locs ++ L) := ⟨by rw [e1]; exact hH, Nat.le_trans hS.2.1 (by rw [e1]; exact hz), fun q h1 h2 => by rw [e1, hk q (Nat.lt_of_lt_of_le h1 hS.2.1) h2]; exact hS.2.2.1 q h1 h2, fun q hq => by
      rcases List.mem_append.mp hq with h | h
      · exact hS.2.2.2 q h
      · exact hL q h⟩
    have K := vx_catch (p := p) (l := l) (e := e) (R := { frames := 7, cells := 1, slots := 6, locals := 103 }) (s := s) (m := m) (args := ([vR a0, vI i1, vR a2].map (x_v g)).toArray) (below := below) (meth := meth) (c := c) (H := T'.heap) (locs := locs ++ L) (cells := cells + 1) (slots := slots + 6) (Q := vx_MQ below (x_Q g (some (vI 1)) (h ++ [oC 8 []])) (fun _ _ _ => False) ([vR a0, vI i1, vR a2].map (x_v g)).toArray s 1 6 (x_A g)) (pc := 4) (ls := ls) (rest := [Value.int 0, x_v g (vR a2)]) (own := RL) (name := "java/util/NoSuchElementException") (E := "java/util/NoSuchElementException") (ce := ce) (q := q) C.1.2.2.2.1 [] ⟨0, 9, 12, 13⟩ [] htb (fun z hz => nomatch hz) (by decide) (by decide) (C.1.2.2.2.2 _ lk_loc) (va_Nw.use rfl (hE.2.1 _ (List.mem_of_getElem? (i := 3) rfl))) (by rw [e1]; exact hce) hcv hcl ?_
    · obtain ⟨t2, a1, b1⟩ := K T' rfl X'
      exact ⟨t2, st.trans a1, b1⟩
    · have hl0 : lv_has ls 4 [] := ⟨hl.1, hl.2.1, fun _ hq => nomatch hq⟩
      refine lv_astore_n (x := q) (lv' := [(3, .ref q)]) C.1.1 C.1.2.1 dL_octet_12 rfl hl0 (by decide) rfl (fun ls2 hl2 => ?_)
      have K2 : XW g p l e { frames := 7, cells := 1, slots := 6, locals := 103 } s m ([vR a0, vI i1, vR a2].map (x_v g)).toArray below meth c (vx_MQ below (x_Q g (some (vI 1)) (h ++ [oC 8 []])) (fun _ _ _ => False) ([vR a0, vI i1, vR a2].map (x_v g)).toArray s 1 6 (x_A g)) 4 0 0 (h ++ [oC 8 []]) 13 [] [] := by
        refine x_iconst C (v := 1) (by decide) dL_octet_13 (pc' := 14) rfl ?_
        exact x_toX (x_iret C hr hlk dL_octet_14)
      exact K2 T'.heap (locs ++ L) ls2 (cells + 1) (slots + 6) hS1 ⟨hl2.1, hl2.2.1, fun i v hi => by simp at hi⟩ (by show cells + 1 + 0 ≤ 1; omega) (by show slots + 6 + 0 ≤ 6; omega)
end OX

section XT
variable {g : XG} {p : Program} {l : Launch} {e : Env} {R : Room} {s : State} {m : MethodId} {args : Array Value} {below : List Frame} {meth : Method} {c : Code} {Q : State → Prop} {cc : ByteArray} {own : String} {nL k n : Nat} {Ts : List Cond} {h : Hp} {pc pc' : Nat} {lv : List (Option XV)} {st : List XV}
-- making
theorem x_new (C : x_C g p s m args c cc own nL Ts) {ci ix : Nat} {C0 : String} {T : u_T} {N : Nat} {fs : List XV} (hcl : x_cl[ci]? = some (C0, T, N)) (hin : ∀ w ∈ u_ws C0 T N, w ∈ Ts) (ty0 : Nat → FieldType) (hty : ∀ k, k < N → parseFieldDescriptor (T k).2.2.1 = some (ty0 k)) (hlk : Cond.classLink own ix C0 ∈ Ts) (hins : Cond.instantiable C0 N ∈ Ts) (hini : Cond.initialized C0 ∈ Ts) (hfs : ∀ j, j < N → defaultValue (ty0 j) = vp_V (fs.map (x_v g)) j) {β : Type} {F : Nat → Hp → Option β} {res : β} (hf : mkO h ci fs F = some res) (d : decode cc pc = .ok (.new ix, 3)) (e1 : pc + 3 = pc') (K : ∀ a h', a = h.length → h' = h ++ [oC ci fs] → F a h' = some res → XW g p l e R s m args below meth c Q nL k n h' pc' lv (vR a :: st)) : XW g p l e R s m args below meth c Q nL (k + 1) (n + N) h pc lv st := by
  subst e1
  intro H locs ls cells slots hS hl hc hn
  have hK := C.2.1.1
  have hts := C.1.2.2.2.2
  have hKn := hK.1 ci _ hcl
  refine W.newcK C.1.1 C.1.2.1 C.1.2.2.2.1 (hts _ hlk) (hts _ hins) (hts _ hini) rfl d (by omega) (by omega) hKn.2.1 rfl fun H1 kC hkC e1 z1 o1 => ?_
  obtain ⟨hS1, hrv⟩ := x_S_push (c' := oC ci fs) C.2.2 hS z1 o1 ⟨_, hcl, (u_born ty0 hts hin hKn hkC e1 hty).to hfs⟩
  have K1 := K _ _ rfl rfl hf H1 locs ls (cells + 1) (slots + N) hS1 hl (by omega) (by omega)
  rw [← hrv]
  exact K1
theorem x_arrId {cA : ClassId} {ty : FieldType} {tg : Nat} (hK : va_K g.2.1.2 x_cl (x_ty g) s) (t0 : Nat) (ht : (x_ty g)[t0]? = some (g.2.1.1 tg, ty)) (hp : ty = .int ∨ ty = .byte ∨ ty = .boolean ∨ ty = .long) (hc : s.vm.findClass ("[" ++ ty.toString) = some cA) : cA = g.2.1.1 tg := by
  have h2 := (hK.2 t0 _ ht).2
  rcases hp with rfl | rfl | rfl | rfl <;> exact Option.some.inj (hc.symm.trans h2)
theorem x_newI (C : x_C g p s m args c cc own nL Ts) {at0 : ArrayType} {tg cap : Nat} {n0 : Int32} {ty : FieldType} (hty : newarray.typeOf at0 = ty) (htg : (tg = 0 ∧ ty = .int) ∨ (tg = 1 ∧ ty = .byte) ∨ (tg = 2 ∧ ty = .boolean)) (hlk : Cond.arrayClass ty ∈ Ts) (hcap : cap ≤ 100000) {β : Type} {F : Nat → Hp → Option β} {res : β} (hf : mkA h tg cap n0 F = some res) (d : decode cc pc = .ok (.newarray at0, 2)) (e1 : pc + 2 = pc') (K : ∀ a h', ¬ n0 < 0 → n0.toNatClampNeg ≤ cap → a = h.length → h' = h ++ [aC tg n0.toNatClampNeg (fun _ => 0)] → F a h' = some res → XW g p l e R s m args below meth c Q nL k n h' pc' lv (vR a :: st)) : XW g p l e R s m args below meth c Q nL (k + 1) (n + cap) h pc lv (vI n0 :: st) := by
  subst e1
  unfold mkA at hf
  split at hf
  case isTrue => cases hf
  rename_i hb
  have hb1 : ¬ n0 < 0 := fun q => hb (Or.inl q)
  have hb2 : n0.toNatClampNeg ≤ cap := Nat.not_lt.mp (fun q => hb (Or.inr q))
  intro H locs ls cells slots hS hl hc hn
  have hts := C.1.2.2.2.2
  have hbytes : n0.toNatClampNeg * componentBytes (newarray.typeOf at0) ≤ 536870912 := by
    rw [hty]
    rcases htg with ⟨-, rfl⟩ | ⟨-, rfl⟩ | ⟨-, rfl⟩ <;> simp [componentBytes] <;> omega
  refine va_newaK C.1.1 C.1.2.1 (by rw [hty]; exact hts _ hlk) rfl d rfl hb1 rfl hbytes (by omega) (by omega) rfl fun H1 cA e1 z1 o1 hAr hNm => ?_
  have hid : cA = g.2.1.1 tg := by
    rw [hty] at hNm
    rcases htg with ⟨rfl, rfl⟩ | ⟨rfl, rfl⟩ | ⟨rfl, rfl⟩
    · exact x_arrId C.2.1.1 0 rfl (Or.inl rfl) hNm
    · exact x_arrId C.2.1.1 1 rfl (Or.inr (Or.inl rfl)) hNm
    · exact x_arrId C.2.1.1 2 rfl (Or.inr (Or.inr (Or.inl rfl))) hNm
  have hat : va_at g.2.1.2 x_cl (H.size, x_tr g (aC tg n0.toNatClampNeg (fun _ => 0))) H1 := by
    show H1[H.size]? = some (vp_cell (g.2.1.1 tg) (n0.toNatClampNeg, .inl (fun _ => 0)))
    rw [e1, hid, vp_cell_i, hty]
    rcases htg with ⟨-, rfl⟩ | ⟨-, rfl⟩ | ⟨-, rfl⟩ <;> rfl
  obtain ⟨hS1, hrv⟩ := x_S_push C.2.2 hS z1 o1 hat
  have K1 := K _ _ hb1 hb2 rfl rfl hf H1 locs ls (cells + 1) (slots + n0.toNatClampNeg) hS1 hl (by omega) (by omega)
  rw [← hrv]
  exact K1
theorem x_newL (C : x_C g p s m args c cc own nL Ts) {cap : Nat} {n0 : Int32} (hlk : Cond.arrayClass .long ∈ Ts) (hcap : cap ≤ 100000) {β : Type} {F : Nat → Hp → Option β} {res : β} (hf : mkL h cap n0 F = some res) (d : decode cc pc = .ok (.newarray .long, 2)) (e1 : pc + 2 = pc') (K : ∀ a h', ¬ n0 < 0 → n0.toNatClampNeg ≤ cap → a = h.length → h' = h ++ [lC n0.toNatClampNeg (fun _ => 0)] → F a h' = some res → XW g p l e R s m args below meth c Q nL k n h' pc' lv (vR a :: st)) : XW g p l e R s m args below meth c Q nL (k + 1) (n + cap) h pc lv (vI n0 :: st) := by
  subst e1
  unfold mkL at hf
  split at hf
  case isTrue => cases hf
  rename_i hb
  have hb1 : ¬ n0 < 0 := fun q => hb (Or.inl q)
  have hb2 : n0.toNatClampNeg ≤ cap := Nat.not_lt.mp (fun q => hb (Or.inr q))
  intro H locs ls cells slots hS hl hc hn
  have hts := C.1.2.2.2.2
  refine va_newaK (atype := .long) C.1.1 C.1.2.1 (hts _ hlk) rfl d rfl hb1 rfl (by simp [componentBytes, newarray.typeOf]; omega) (by omega) (by omega) rfl fun H1 cA e1 z1 o1 hAr hNm => ?_
  have hid : cA = g.2.1.1 3 := x_arrId C.2.1.1 3 rfl (Or.inr (Or.inr (Or.inr rfl))) hNm
  have hat : va_at g.2.1.2 x_cl (H.size, x_tr g (lC n0.toNatClampNeg (fun _ => 0))) H1 := by
    show H1[H.size]? = some (vp_cell (g.2.1.1 3) (n0.toNatClampNeg, .inr (.inl (fun _ => 0))))
    rw [e1, hid, vp_cell_l]
    rfl
  obtain ⟨hS1, hrv⟩ := x_S_push C.2.2 hS z1 o1 hat
  have K1 := K _ _ hb1 hb2 rfl rfl hf H1 locs ls (cells + 1) (slots + n0.toNatClampNeg) hS1 hl (by omega) (by omega)
  rw [← hrv]
  exact K1
theorem x_newR (C : x_C g p s m args c cc own nL Ts) {cap ix : Nat} {n0 : Int32} (hlk : Cond.classLink own ix "MossRings$Rule" ∈ Ts) (hcap : cap ≤ 100000) {β : Type} {F : Nat → Hp → Option β} {res : β} (hf : mkR h cap n0 F = some res) (d : decode cc pc = .ok (.anewarray ix, 3)) (e1 : pc + 3 = pc') (K : ∀ a h', ¬ n0 < 0 → n0.toNatClampNeg ≤ cap → a = h.length → h' = h ++ [rC n0.toNatClampNeg (fun _ => 0)] → F a h' = some res → XW g p l e R s m args below meth c Q nL k n h' pc' lv (vR a :: st)) : XW g p l e R s m args below meth c Q nL (k + 1) (n + cap) h pc lv (vI n0 :: st) := by
  subst e1
  unfold mkR at hf
  split at hf
  case isTrue => cases hf
  rename_i hb
  have hb1 : ¬ n0 < 0 := fun q => hb (Or.inl q)
  have hb2 : n0.toNatClampNeg ≤ cap := Nat.not_lt.mp (fun q => hb (Or.inr q))
  intro H locs ls cells slots hS hl hc hn
  have hts := C.1.2.2.2.2
  refine W.anew C.1.1 C.1.2.1 C.1.2.2.2.1 (hts _ hlk) (va_AO.use C.2.1.2.2.2.1) rfl d rfl hb1 (by omega) (by omega) (by omega) fun cA kA comp f1 f2 f3 f4 => ?_
  generalize hH1 : H.push ({ cls := cA, slots := Array.replicate n0.toNatClampNeg .null, vm := .none } : Cell) = H1
  have z1 : H1.size = H.size + 1 := by rw [← hH1, Array.size_push]
  have e1 : H1[H.size]? = some (arrV cA n0.toNatClampNeg (fun _ => .null)) := by rw [← hH1, Array.getElem?_push_size, ← arrV_new]
  have o1 : ∀ q : Nat, q < H.size → H1[q]? = H[q]? := fun q hq => by rw [← hH1, Array.getElem?_push, if_neg (Nat.ne_of_lt hq)]
  have hid : cA = g.2.1.1 4 := by
    obtain ⟨kA', comp', k1, k2, k3, k4⟩ := (C.2.1.1.2 4 _ rfl).2
    exact Option.some.inj (f1.symm.trans k4)
  have hat : va_at g.2.1.2 x_cl (H.size, x_tr g (rC n0.toNatClampNeg (fun _ => 0))) H1 := by
    show H1[H.size]? = some (vp_cell (g.2.1.1 4) (n0.toNatClampNeg, .inr (.inr (.inr (.inr (fun j => x_o g 0))))))
    rw [e1, hid, vp_cell_q]
    rfl
  obtain ⟨hS1, hrv⟩ := x_S_push C.2.2 hS z1 o1 hat
  have K1 := K _ _ hb1 hb2 rfl rfl hf H1 locs ls (cells + 1) (slots + n0.toNatClampNeg) hS1 hl (by omega) (by omega)
  rw [← hrv]
  exact K1
-- the two static rows
theorem x_getsW (C : x_C g p s m args c cc own nL Ts) {ix : Nat} (hlk : Cond.fieldLink own ix "MossRings" "MOST_WIDTH" "[I" ∈ Ts) (d : decode cc pc = .ok (.getstatic ix, 3)) (e1 : pc + 3 = pc') (K : XW g p l e R s m args below meth c Q nL k n h pc' lv (vR 2 :: st)) : XW g p l e R s m args below meth c Q nL k n h pc lv st := by
  subst e1
  intro H locs ls cells slots hS hl hc hn
  exact va_gets C.1.1 C.1.2.1 C.2.1.2.1.1 hS.2 C.1.2.2.2.1 (C.1.2.2.2.2 _ hlk) (fun _ q => q) d (K H locs ls cells slots hS hl hc hn)
theorem x_getsL (C : x_C g p s m args c cc own nL Ts) {ix : Nat} (hlk : Cond.fieldLink own ix "MossRings$Trail" "LOOKS" "[I" ∈ Ts) (d : decode cc pc = .ok (.getstatic ix, 3)) (e1 : pc + 3 = pc') (K : XW g p l e R s m args below meth c Q nL k n h pc' lv (vR 3 :: st)) : XW g p l e R s m args below meth c Q nL k n h pc lv st := by
  subst e1
  intro H locs ls cells slots hS hl hc hn
  exact va_gets C.1.1 C.1.2.1 C.2.1.2.1.2.2.1 hS.2 C.1.2.2.2.1 (C.1.2.2.2.2 _ hlk) (fun _ q => q) d (K H locs ls cells slots hS hl hc hn)
-- what a callee takes as given
theorem x_mkU (C : x_C g p s m args c cc own nL Ts) {H : Heap} {locs : List Loc} (hS : x_S g s h H locs) {U : State} (hU : U.heap = H) (hW : s.WarmedH U.vm) : x_U g h U := by
  obtain ⟨hK, ⟨z1, z2, z3, z4, z5, z6⟩, hN, hO, hC⟩ := C.2.1
  have kept : ∀ a : Nat, a < s.heap.size → ¬ x_A g a → U.heap[a]? = s.heap[a]? := fun a h1 h2 => by rw [hU]; exact hS.2.2.1 a h1 h2
  refine ⟨by rw [hU]; exact hS.1, hK.moved hW.alike, ⟨(z1.kept kept).moved hW.alike, (z2.kept kept).moved hW.alike, (z3.kept kept).moved hW.alike, (z4.kept kept).moved hW.alike, z5, (z6.kept (kept _ (Nat.lt_of_lt_of_le z5 C.2.2) (Nat.not_le.mpr z5))).moved hW.alike⟩, ?_, hO.moved hW.alike, hC.warmC hW⟩
  intro w hw
  have h0 := hN w hw
  simp only [x_nest, List.mem_cons, List.not_mem_nil, or_false] at hw
  rcases hw with rfl | rfl | rfl | rfl | rfl | rfl | rfl | rfl | rfl | rfl | rfl | rfl | rfl | rfl | rfl
  · exact h0.warmM hW
  all_goals exact h0.warmF hW
theorem x_blind (av : List Value) : FrameBlind (va_Pc av (x_U g h)) := by
  intro a U g' mk q
  obtain ⟨q0, qH, qK, ⟨z1, z2, z3, z4, z5, z6⟩, qN, qO, qC⟩ := q
  refine ⟨q0, qH, va_K.moved (u := U) (U := U.calling g' mk a) (Vm.Alike.refl U.vm) qK, ⟨va_Z.moved (u := U) (U := U.calling g' mk a) (Vm.Alike.refl U.vm) z1, va_T.moved (u := U) (U := U.calling g' mk a) (Vm.Alike.refl U.vm) z2, va_Z.moved (u := U) (U := U.calling g' mk a) (Vm.Alike.refl U.vm) z3, va_T.moved (u := U) (U := U.calling g' mk a) (Vm.Alike.refl U.vm) z4, z5, va_X.moved (u := U) (U := U.calling g' mk a) (Vm.Alike.refl U.vm) z6⟩, ?_, va_AO.moved (u := U) (U := U.calling g' mk a) (Vm.Alike.refl U.vm) qO, va_Nw.same rfl (u := U) (U := U.calling g' mk a) rfl qC⟩
  intro w hw
  have h0 := qN w hw
  simp only [x_nest, List.mem_cons, List.not_mem_nil, or_false] at hw
  rcases hw with rfl | rfl | rfl | rfl | rfl | rfl | rfl | rfl | rfl | rfl | rfl | rfl | rfl | rfl | rfl <;> exact va_Nw.same rfl (u := U) (U := U.calling g' mk a) rfl h0
/-- behind a call -/
theorem x_ran {H : Heap} {locs : List Loc} {cells slots mc ms : Nat} {ls : Array Slot} {stk rest : List Value} {r : Option XV} {h' : Hp} {av : Array Value} (hr : va_Run p l e R s m args below meth c H locs cells slots mc ms (F0 m pc ls stk) rest (x_Q g r h' av) (x_A g)) (hS : x_S g s h H locs) (K : ∀ (H1 : Heap) (locs1 : List Loc), x_S g s h' H1 locs1 → W p l e R s m args below meth c H1 locs1 (cells + mc) (slots + ms) Q (F0 m (pc + 3) ls ((r.map (x_v g)).toList ++ rest))) : W p l e R s m args below meth c H locs cells slots Q (F0 m pc ls stk) := by
  intro T hT X
  obtain ⟨v, st₀, t, T', L, h0, X', hL, e1, e2, ⟨hv, hh, hz, hk⟩, st⟩ := hr T hT X
  cases hv
  rw [h0] at hz hk
  obtain ⟨t2, a1, b1⟩ := K T'.heap (locs ++ L) ⟨by rw [e1]; exact hh, Nat.le_trans hS.2.1 (by rw [e1]; exact hz), fun q h1 h2 => by rw [e1, hk q (Nat.lt_of_lt_of_le h1 hS.2.1) h2]; exact hS.2.2.1 q h1 h2, fun q hq => by
      rcases List.mem_append.mp hq with h | h
      · exact hS.2.2.2 q h
      · exact hL q h⟩ T' rfl X'
  exact ⟨t2, st t2 a1, b1⟩
def x_wds (st : List XV) : Nat := match st with
  | [] => 0
  | v :: st => (if x_one v then 1 else 2) + x_wds st
theorem x_wds_eq (g : XG) : ∀ st : List XV, ((st.map (x_v g)).map fun v => v.category).sum = x_wds st
  | [] => rfl
  | v :: st => by
    have ih := x_wds_eq g st
    simp only [List.map_cons, List.sum_cons, x_wds, ih]
    congr 1
    match v with
    | Sum.inl x => rfl
    | Sum.inr (Sum.inl x) => rfl
    | Sum.inr (Sum.inr a) => exact x_cat_R g a
def oK (h : Hp) (b ci : Nat) {β : Type} (x : Option β) : Option β := if (hObj h b ci).isSome then x else none
theorem oK_some {h : Hp} {b ci : Nat} {β : Type} {x : Option β} {v : β} (q : oK h b ci x = some v) : (∃ fs, hObj h b ci = some fs) ∧ x = some v := by
  unfold oK at q
  split at q
  · rename_i h1
    exact ⟨Option.isSome_iff_exists.mp h1, q⟩
  · cases q
theorem x_callV (C : x_C g p s m args c cc own nL Ts) {y : MethodName} {ws : List Cond} {fr lo mc ms b ci ix maxL na : Nat} {As stk : List XV} {r : Option XV} {h' : Hp} {C0 : String} {T : u_T} {N : Nat} {bytes : ByteArray} {ret : Option FieldType} (hM : XM l g y ws fr lo mc ms (vR b :: As) h r h') (hob : ∃ fs, hObj h b ci = some fs) (hcl : x_cl[ci]? = some (C0, T, N)) (cw : CallW R s args own C0 ix y bytes maxL ret ws { frames := fr, cells := mc, slots := ms, locals := lo } mc ms na) (hna : As.length = na) (hstk : stk = As.reverse ++ vR b :: st) (hw : x_wds st ≤ 8) (d : decode cc pc = .ok (.invokevirtual ix, 3)) (e1 : pc + 3 = pc') (K : XW g p l e R s m args below meth c Q nL k n h' pc' lv (r.toList ++ st)) : XW g p l e R s m args below meth c Q nL (k + mc) (n + ms) h pc lv stk := by
  subst e1; subst hstk
  intro H locs ls cells slots hS hl hc hn
  obtain ⟨fs, hfs⟩ := hob
  obtain ⟨hb4, hbh⟩ := hObj_at hfs
  have hb : x_rv g b = .ref (x_ad g b) := x_rv_pos hb4
  have hpc : ∀ U : State, U.heap = H → s.WarmedH U.vm → va_Pc ((vR b :: As).map (x_v g)) (x_U g h) (Value.ref (x_ad g b) :: As.map (x_v g)).toArray U := fun U hU hW => ⟨by rw [← hb]; rfl, x_mkU C hS hU hW⟩
  have hr := va_runV (e := e) (meth := meth) (below := below) (b := x_ad g b) (As := As.map (x_v g)) (rest := st.map (x_v g)) (g := F0 m pc ls ((As.reverse ++ vR b :: st).map (x_v g))) (H := H) (locs := locs) (cells := cells) (slots := slots) C.1 hM cw ⟨x_blind _, va_recv C.2.1.1 hS.1.2.2 hcl (x_wd_at (g := g) hb4 hbh), hpc⟩ rfl (by rw [List.length_map]; exact hna) hl.1 (by rw [List.map_append, List.map_reverse, List.map_cons, ← hb]; rfl) (lv_room (by rw [x_wds_eq]; exact hw)) d ⟨by omega, by omega⟩
  refine x_ran hr hS (fun H1 locs1 hS1 => ?_)
  have K1 := K H1 locs1 ls (cells + mc) (slots + ms) hS1 hl (by omega) (by omega)
  rw [List.map_append] at K1
  cases r with
  | none => exact K1
  | some v => exact K1
theorem x_callS (C : x_C g p s m args c cc own nL Ts) {y : MethodName} {ws : List Cond} {fr lo mc ms ix maxL na : Nat} {As stk : List XV} {r : Option XV} {h' : Hp} {bytes : ByteArray} {ret : Option FieldType} (hM : XM l g y ws fr lo mc ms As h r h') (cw : CallB R s args own ix y bytes maxL ret ws { frames := fr, cells := mc, slots := ms, locals := lo } mc ms na ∧ (Cond.static y).before args s = true) (hna : As.length = na) (hstk : stk = As.reverse ++ st) (hw : x_wds st ≤ 8) (d : decode cc pc = .ok (.invokestatic ix, 3)) (e1 : pc + 3 = pc') (K : XW g p l e R s m args below meth c Q nL k n h' pc' lv (r.toList ++ st)) : XW g p l e R s m args below meth c Q nL (k + mc) (n + ms) h pc lv stk := by
  subst e1; subst hstk
  intro H locs ls cells slots hS hl hc hn
  have hpc : ∀ U : State, U.heap = H → s.WarmedH U.vm → va_Pc (As.map (x_v g)) (x_U g h) (As.map (x_v g)).toArray U := fun U hU hW => ⟨rfl, x_mkU C hS hU hW⟩
  have hr := va_runS (e := e) (meth := meth) (below := below) (As := As.map (x_v g)) (rest := st.map (x_v g)) (g := F0 m pc ls ((As.reverse ++ st).map (x_v g))) (H := H) (locs := locs) (cells := cells) (slots := slots) C.1 hM cw ⟨x_blind _, hpc⟩ rfl (by rw [List.length_map]; exact hna) hl.1 (by rw [List.map_append, List.map_reverse]) (lv_room (by rw [x_wds_eq]; exact hw)) d ⟨by omega, by omega⟩
  refine x_ran hr hS (fun H1 locs1 hS1 => ?_)
  have K1 := K H1 locs1 ls (cells + mc) (slots + ms) hS1 hl (by omega) (by omega)
  rw [List.map_append] at K1
  cases r with
  | none => exact K1
  | some v => exact K1
theorem x_callSN (C : x_C g p s m args c cc own nL Ts) {y : MethodName} {ws : List Cond} {fr lo mc ms ix maxL na : Nat} {host : String} {As stk : List XV} {r : Option XV} {h' : Hp} {bytes : ByteArray} {ret : Option FieldType} (hM : XM l g y ws fr lo mc ms As h r h') (cw : va_CN R s args own ix y host bytes maxL ret ws { frames := fr, cells := mc, slots := ms, locals := lo } mc ms na ∧ (Cond.static y).before args s = true ∧ True) (hna : As.length = na) (hstk : stk = As.reverse ++ st) (hw : x_wds st ≤ 8) (d : decode cc pc = .ok (.invokestatic ix, 3)) (e1 : pc + 3 = pc') (K : XW g p l e R s m args below meth c Q nL k n h' pc' lv (r.toList ++ st)) : XW g p l e R s m args below meth c Q nL (k + mc) (n + ms) h pc lv stk := by
  subst e1; subst hstk
  intro H locs ls cells slots hS hl hc hn
  have hpc : ∀ U : State, U.heap = H → s.WarmedH U.vm → va_Pc (As.map (x_v g)) (x_U g h) (As.map (x_v g)).toArray U := fun U hU hW => ⟨rfl, x_mkU C hS hU hW⟩
  have hr := va_runSN (e := e) (meth := meth) (below := below) (As := As.map (x_v g)) (rest := st.map (x_v g)) (g := F0 m pc ls ((As.reverse ++ st).map (x_v g))) (H := H) (locs := locs) (cells := cells) (slots := slots) C.1 hM cw ⟨x_blind _, hpc⟩ rfl (by rw [List.length_map]; exact hna) hl.1 (by rw [List.map_append, List.map_reverse]) (lv_room (by rw [x_wds_eq]; exact hw)) d ⟨by omega, by omega⟩
  refine x_ran hr hS (fun H1 locs1 hS1 => ?_)
  have K1 := K H1 locs1 ls (cells + mc) (slots + ms) hS1 hl (by omega) (by omega)
  rw [List.map_append] at K1
  cases r with
  | none => exact K1
  | some v => exact K1
theorem x_callI (C : x_C g p s m args c cc own nL Ts) {y : MethodName} {ws : List Cond} {fr lo mc ms b ix maxL na : Nat} {As stk : List XV} {r : Option XV} {h' : Hp} {bytes : ByteArray} (hM : XM l g y ws fr lo mc ms (vR b :: As) h r h') (hob : 4 ≤ b) (cw : CallB R s args own ix y bytes maxL none ws { frames := fr, cells := mc, slots := ms, locals := lo } mc ms na ∧ y.name = "<init>" ∧ (Cond.instanceMethod y).before args s = true) (hna : As.length = na) (hstk : stk = As.reverse ++ vR b :: st) (hw : x_wds st ≤ 8) (d : decode cc pc = .ok (.invokespecial ix, 3)) (e1 : pc + 3 = pc') (K : XW g p l e R s m args below meth c Q nL k n h' pc' lv (r.toList ++ st)) : XW g p l e R s m args below meth c Q nL (k + mc) (n + ms) h pc lv stk := by
  subst e1; subst hstk
  intro H locs ls cells slots hS hl hc hn
  have hb : x_rv g b = .ref (x_ad g b) := x_rv_pos hob
  have hpc : ∀ U : State, U.heap = H → s.WarmedH U.vm → va_Pc ((vR b :: As).map (x_v g)) (x_U g h) (Value.ref (x_ad g b) :: As.map (x_v g)).toArray U := fun U hU hW => ⟨by rw [← hb]; rfl, x_mkU C hS hU hW⟩
  have hr := va_runI (e := e) (meth := meth) (below := below) (b := x_ad g b) (As := As.map (x_v g)) (rest := st.map (x_v g)) (g := F0 m pc ls ((As.reverse ++ vR b :: st).map (x_v g))) (H := H) (locs := locs) (cells := cells) (slots := slots) C.1 hM cw ⟨x_blind _, hpc⟩ rfl (by rw [List.length_map]; exact hna) hl.1 (by rw [List.map_append, List.map_reverse, List.map_cons, ← hb]; rfl) (lv_room (by rw [x_wds_eq]; exact hw)) d ⟨by omega, by omega⟩
  refine x_ran hr hS (fun H1 locs1 hS1 => ?_)
  have K1 := K H1 locs1 ls (cells + mc) (slots + ms) hS1 hl (by omega) (by omega)
  rw [List.map_append] at K1
  cases r with
  | none => exact K1
  | some v => exact K1
theorem x_objInit (C : x_C g p s m args c cc own nL Ts) {a ix : Nat} (h1 : Cond.methodLink own ix Lib.objectInit ∈ Ts) (h2 : Cond.instanceMethod Lib.objectInit ∈ Ts) (h3 : Cond.code Lib.objectInit ⟨#[0xb1]⟩ 1 none ∈ Ts) (hfr : 1 ≤ R.frames) (hlo : x_wds st + 12 ≤ R.locals) {β : Type} {A : Option β} {res : β} (hf : (if a = 0 then none else A) = some res) (d : decode cc pc = .ok (.invokespecial ix, 3)) (e1 : pc + 3 = pc') (K : A = some res → XW g p l e R s m args below meth c Q nL k n h pc' lv st) : XW g p l e R s m args below meth c Q nL k n h pc lv (vR a :: st) := by
  subst e1
  intro H locs ls cells slots hS hl hc hn
  by_cases ha : a = 0
  · rw [if_pos ha] at hf; cases hf
  · rw [if_neg ha] at hf
    have hts := C.1.2.2.2.2
    have K1 := K hf H locs ls cells slots hS hl hc hn
    show W p l e R s m args below meth c H locs cells slots Q (F0 m pc ls (x_rv g a :: st.map (x_v g)))
    unfold x_rv
    rw [if_neg ha]
    exact W.objInit C.1.1 C.1.2.1 C.1.2.2.2.1 (hts _ h1) (hts _ h2) (hts _ h3) rfl (by rw [C.1.2.2.1]; exact hl.1) rfl d hfr (by show 2 * 0 + _ + 12 ≤ _; rw [x_wds_eq]; omega) K1
def iMax (x y : Int32) : Int32 := if x < y then y else x
def iMin (x y : Int32) : Int32 := if y < x then y else x
theorem x_max (C : x_C g p s m args c cc own nL Ts) {ix : Nat} {x y : Int32} (h1 : Cond.methodLink own ix Lib.Math.max.name ∈ Ts) (h2 : Cond.static Lib.Math.max.name ∈ Ts) (h3 : Cond.initialized "java/lang/Math" ∈ Ts) (h4 : Cond.code Lib.Math.max.name Lib.Math.max.code 2 (some .int) ∈ Ts) (hfr : 1 ≤ R.frames) (hlo : x_wds st + 13 ≤ R.locals) (d : decode cc pc = .ok (.invokestatic ix, 3)) (e1 : pc + 3 = pc') (K : XW g p l e R s m args below meth c Q nL k n h pc' lv (vI (iMax x y) :: st)) : XW g p l e R s m args below meth c Q nL k n h pc lv (vI y :: vI x :: st) := by
  subst e1
  intro H locs ls cells slots hS hl hc hn
  have hts := C.1.2.2.2.2
  exact va_mmax C.1.1 C.1.2.1 (by rw [C.1.2.2.1]; exact hl.1.symm) C.1.2.2.2.1 (hts _ h1) (hts _ h2) (hts _ h3) (hts _ h4) hfr (by rw [x_wds_eq]; exact hlo) (by omega) (by omega) d (K H locs ls cells slots hS hl hc hn)
theorem x_min (C : x_C g p s m args c cc own nL Ts) {ix : Nat} {x y : Int32} (h1 : Cond.methodLink own ix Lib.Math.min.name ∈ Ts) (h2 : Cond.static Lib.Math.min.name ∈ Ts) (h3 : Cond.initialized "java/lang/Math" ∈ Ts) (h4 : Cond.code Lib.Math.min.name Lib.Math.min.code 2 (some .int) ∈ Ts) (hfr : 1 ≤ R.frames) (hlo : x_wds st + 13 ≤ R.locals) (d : decode cc pc = .ok (.invokestatic ix, 3)) (e1 : pc + 3 = pc') (K : XW g p l e R s m args below meth c Q nL k n h pc' lv (vI (iMin x y) :: st)) : XW g p l e R s m args below meth c Q nL k n h pc lv (vI y :: vI x :: st) := by
  subst e1
  intro H locs ls cells slots hS hl hc hn
  have hts := C.1.2.2.2.2
  exact va_mmin C.1.1 C.1.2.1 (by rw [C.1.2.2.1]; exact hl.1.symm) C.1.2.2.2.1 (hts _ h1) (hts _ h2) (hts _ h3) (hts _ h4) hfr (by rw [x_wds_eq]; exact hlo) (by omega) (by omega) d (K H locs ls cells slots hS hl hc hn)
-- ends
theorem x_vret (C : x_C g p s m args c cc own nL Ts) (hr : meth.sig.returnType = none) (hlk : meth.locks = false) (d : decode cc pc = .ok (.return_, 1)) : XW g p l e R s m args below meth c (MQ below (x_Q g none h) args s R.cells R.slots (x_A g)) nL k n h pc lv [] := by
  intro H locs ls cells slots hS hl hc hn
  refine W.widen (k := R.cells) (n := R.slots) (by omega) (by omega) ?_
  exact W.vret C.1.1 C.1.2.1 hr (fun t ht hW => ⟨rfl, by rw [ht]; exact hS.1, hS.2.F ht⟩) hS.2.2.2 d (hlocks := hlk)
theorem x_iret (C : x_C g p s m args c cc own nL Ts) {x : Int32} (hr : meth.sig.returnType = some .int) (hlk : meth.locks = false) (d : decode cc pc = .ok (.ireturn, 1)) : XW g p l e R s m args below meth c (MQ below (x_Q g (some (vI x)) h) args s R.cells R.slots (x_A g)) nL k n h pc lv [vI x] := by
  intro H locs ls cells slots hS hl hc hn
  refine W.widen (k := R.cells) (n := R.slots) (by omega) (by omega) ?_
  exact W.iret C.1.1 C.1.2.1 hr (fun t ht hW => ⟨rfl, by rw [ht]; exact hS.1, hS.2.F ht⟩) hS.2.2.2 d (hlocks := hlk)
theorem x_lret (C : x_C g p s m args c cc own nL Ts) {x : Int64} (hr : meth.sig.returnType = some .long) (hlk : meth.locks = false) (d : decode cc pc = .ok (.lreturn, 1)) : XW g p l e R s m args below meth c (MQ below (x_Q g (some (vL x)) h) args s R.cells R.slots (x_A g)) nL k n h pc lv [vL x] := by
  intro H locs ls cells slots hS hl hc hn
  refine W.widen (k := R.cells) (n := R.slots) (by omega) (by omega) ?_
  exact W.lret C.1.1 C.1.2.1 hr (fun t ht hW => ⟨rfl, by rw [ht]; exact hS.1, hS.2.F ht⟩) hS.2.2.2 d (hlocks := hlk)
theorem x_aret (C : x_C g p s m args c cc own nL Ts) {a : Nat} {rt : FieldType} (hr : meth.sig.returnType = some rt) (hrt : (∃ n, rt = .object n) ∨ ∃ t, rt = .array t) (hlk : meth.locks = false) (d : decode cc pc = .ok (.areturn, 1)) : XW g p l e R s m args below meth c (MQ below (x_Q g (some (vR a)) h) args s R.cells R.slots (x_A g)) nL k n h pc lv [vR a] := by
  intro H locs ls cells slots hS hl hc hn
  refine W.widen (k := R.cells) (n := R.slots) (by omega) (by omega) ?_
  exact W.aret (v := x_rv g a) C.1.1 C.1.2.1 hr hrt (by unfold x_rv; split; exact Or.inl rfl; exact Or.inr ⟨_, rfl⟩) (fun t ht hW => ⟨rfl, by rw [ht]; exact hS.1, hS.2.F ht⟩) hS.2.2.2 d (hlocks := hlk)
def retZ (x : Int32) (h : Hp) : Option (Int32 × Hp) := if x = 0 ∨ x = 1 then some (x, h) else none
theorem x_zret (C : x_C g p s m args c cc own nL Ts) {x : Int32} {res : Int32 × Hp} (hf : retZ x h = some res) (hr : meth.sig.returnType = some .boolean) (hlk : meth.locks = false) (d : decode cc pc = .ok (.ireturn, 1)) : XW g p l e R s m args below meth c (MQ below (x_Q g (some (vI res.1)) res.2) args s R.cells R.slots (x_A g)) nL k n h pc lv [vI x] := by
  unfold retZ at hf
  split at hf
  case isFalse => cases hf
  rename_i hx
  cases hf
  intro H locs ls cells slots hS hl hc hn
  refine W.widen (k := R.cells) (n := R.slots) (by omega) (by omega) ?_
  exact W.zret C.1.1 C.1.2.1 hr (by rcases hx with rfl | rfl <;> rfl) (fun t ht hW => ⟨rfl, by rw [ht]; exact hS.1, hS.2.F ht⟩) hS.2.2.2 d (hlocks := hlk)
-- the beginning
def x_args (as : List XV) : List (Option XV) := match as with
  | [] => []
  | v :: as => if x_one v then some v :: x_args as else some v :: none :: x_args as
theorem x_args_at (g : XG) : ∀ (as : List XV) (j i : Nat) (v : XV), (x_args as)[i]? = some (some v) → (j + i, x_v g v) ∈ lv_args j (as.map (x_v g))
  | [], j, i, v, hi => by simp [x_args] at hi
  | w :: as, j, i, v, hi => by
    by_cases hw : x_one w = true
    · simp only [x_args, hw, if_true] at hi
      have hc := x_cat1 g hw
      simp only [List.map_cons, lv_args, hc]
      cases i with
      | zero =>
        simp only [List.getElem?_cons_zero, Option.some.injEq] at hi
        subst hi
        exact List.mem_cons_self
      | succ i =>
        simp only [List.getElem?_cons_succ] at hi
        have := x_args_at g as (j + 1) i v hi
        rw [show j + (i + 1) = j + 1 + i by omega]
        exact List.mem_cons_of_mem _ this
    · simp only [x_args, hw] at hi
      have hc : (x_v g w).category = 2 := by
        match w, hw with
        | Sum.inl x, hw => exact absurd rfl hw
        | Sum.inr (Sum.inl x), hw => rfl
        | Sum.inr (Sum.inr a), hw => exact absurd rfl hw
      simp only [List.map_cons, lv_args, hc, if_true]
      match i, hi with
      | 0, hi =>
        simp at hi
        subst hi
        exact List.mem_cons_self
      | 1, hi => simp at hi
      | i + 2, hi =>
        have hi : (x_args as)[i]? = some (some v) := by simpa using hi
        have := x_args_at g as (j + 2) i v hi
        rw [show j + (i + 2) = j + 2 + i by omega]
        exact List.mem_cons_of_mem _ this
theorem x_slen (g : XG) : ∀ as : List XV, (lg_sl (as.map (x_v g))).length = x_wds as
  | [] => rfl
  | v :: as => by
    have ih := x_slen g as
    unfold lg_sl at ih ⊢
    simp only [List.map_cons, List.flatMap_cons, List.length_append, ih, x_wds]
    congr 1
    match v with
    | Sum.inl x => rfl
    | Sum.inr (Sum.inl x) => rfl
    | Sum.inr (Sum.inr a) => simp [x_cat_R, x_one]
theorem x_start {y : MethodName} {ws ws' : List Cond} {fr lo mc ms maxL : Nat} {as : List XV} {r : Option XV} {h' : Hp} {cc : ByteArray} {ret : Option FieldType} {lv : List (Option XV)} (hy : plainName y.cls = true) (hw : ws = Cond.code y cc maxL ret :: ws') (hlen : x_wds as ≤ maxL) (hlv : x_args as ++ List.replicate (maxL - x_wds as) none = lv)
    (body : ∀ (p : Program) (e : Env) (s : State) (m : MethodId) (args : Array Value) (below : List Frame) (meth : Method) (c : Code), x_C g p s m args c cc y.cls maxL ws → meth.sig.returnType = ret → meth.locks = false → meth.name = y.name → XW g p l e { frames := fr, cells := mc, slots := ms, locals := lo } s m args below meth c (MQ below (x_Q g r h') args s mc ms (x_A g)) maxL mc ms h 0 lv []) : XM l g y ws fr lo mc ms as h r h' := by
  refine Met.ofW (cc := cc) (maxL := maxL) (ret := ret) hy hw ?_
  intro p e s m args below meth c s₁ B hml hv
  obtain ⟨rfl, hH, hK, hSt, hN, hO, hC⟩ := hv
  have hts := atoms_spec (ws := ws) B.pre
  have hown : s.vm.findClass y.cls = some m.cls := findClass_of_methodNamed B.named
  have hsz : g.1.1 ≤ s.heap.size := by rw [hH.2.1]; omega
  rw [lg_entry_eq]
  have hl := lv_entry (as.map (x_v g)) (n := maxL) (by rw [x_slen]; exact hlen)
  refine body p e s m (as.map (x_v g)).toArray below meth c ⟨⟨B.exec, B.bytes, hml, hown, hts⟩, ⟨hK, hSt, hN, hO, hC⟩, hsz⟩ B.returns B.notSynchronized (name_of_methodNamed B.named B.method).1 s.heap [] _ 0 0 ⟨hH, va_S.rf⟩ ⟨hl.1, hl.2.1, fun i v hi => ?_⟩ (by show 0 + mc ≤ mc; omega) (by show 0 + ms ≤ ms; omega)
  subst hlv
  have h1 : (x_args as)[i]? = some (some v) := by
    rw [List.getElem?_append] at hi
    split at hi
    · exact hi
    · rw [List.getElem?_replicate] at hi
      split at hi <;> cases hi
  have := x_args_at g as 0 i v h1
  rw [Nat.zero_add] at this
  exact hl.2.2 _ this
end XT

def FUEL : Nat := 100000
def setv {α β : Type} (x : α) (K : α → Option β) : Option β := K x
def call {α β : Type} (x : Option (α × Hp)) (K : α → Hp → Option β) : Option β := match x with
  | some (r, h) => K r h
  | none => none
theorem call_some {α β : Type} {x : Option (α × Hp)} {K : α → Hp → Option β} {v : β} (q : call x K = some v) : ∃ r h, x = some (r, h) ∧ K r h = some v := by
  match x, q with
  | some (r, h), q => exact ⟨r, h, rfl, q⟩
  | none, q => cases q
section XE
variable {g : XG} {p : Program} {l : Launch} {e : Env} {R : Room} {s : State} {m : MethodId} {args : Array Value} {below : List Frame} {meth : Method} {c : Code} {Q : State → Prop} {cc : ByteArray} {own : String} {nL k n : Nat} {Ts : List Cond} {h : Hp} {pc pc' : Nat} {lv : List (Option XV)} {st : List XV}
theorem x_nameI {x : Int32} {β : Type} {F : Int32 → Option β} {res : β} (hf : setv x F = some res) (K : ∀ z, z = x → F z = some res → XW g p l e R s m args below meth c Q nL k n h pc lv (vI z :: st)) : XW g p l e R s m args below meth c Q nL k n h pc lv (vI x :: st) := K x rfl hf
theorem x_nameL {x : Int64} {β : Type} {F : Int64 → Option β} {res : β} (hf : setv x F = some res) (K : ∀ z, z = x → F z = some res → XW g p l e R s m args below meth c Q nL k n h pc lv (vL z :: st)) : XW g p l e R s m args below meth c Q nL k n h pc lv (vL x :: st) := K x rfl hf
theorem x_newO (C : x_C g p s m args c cc own nL Ts) {ci ix : Nat} {C0 : String} {T : u_T} {N : Nat} {fs : List XV} (hcl : x_cl[ci]? = some (C0, T, N)) (hin : ∀ w ∈ u_ws C0 T N, w ∈ Ts) (ty0 : Nat → FieldType) (hty : ∀ k, k < N → parseFieldDescriptor (T k).2.2.1 = some (ty0 k)) (hlk : Cond.classLink own ix C0 ∈ Ts) (hins : Cond.instantiable C0 N ∈ Ts) (hini : Cond.initialized C0 ∈ Ts) (hfs : ∀ j, j < N → defaultValue (ty0 j) = vp_V (fs.map (x_v g)) j) {β : Type} {F : Nat → Hp → Option β} {res : β} (hf : mkO h ci fs F = some res) (d : decode cc pc = .ok (.new ix, 3)) (e1 : pc + 3 = pc') (K : ∀ a h', 4 ≤ a → a = h.length → h' = h ++ [oC ci fs] → F a h' = some res → XW g p l e R s m args below meth c Q nL k n h' pc' lv (vR a :: st)) : XW g p l e R s m args below meth c Q nL (k + 1) (n + N) h pc lv st := by
  intro H locs ls cells slots hS hl hc hn
  exact x_new C hcl hin ty0 hty hlk hins hini hfs hf d e1 (fun a h' ha hh hf => K a h' (by rw [ha]; exact x_len hS.1.1) ha hh hf) H locs ls cells slots hS hl hc hn
def aCpy (h : Hp) (a : Nat) (sp : Int32) (b : Nat) (dp n : Int32) : Option Hp := if a < 4 ∨ b < 4 then none else (hArr h a 0).bind fun q => (hArr h b 0).bind fun r => if ¬ sp < 0 ∧ ¬ dp < 0 ∧ ¬ n < 0 ∧ sp.toNatClampNeg + n.toNatClampNeg ≤ q.1 ∧ dp.toNatClampNeg + n.toNatClampNeg ≤ r.1 then some (h.set b (aC 0 r.1 (va_cpy q.2 r.2 sp.toNatClampNeg dp.toNatClampNeg n.toNatClampNeg))) else none
theorem x_copy (C : x_C g p s m args c cc own nL Ts) {ix a b : Nat} {sp dp n0 : Int32} (h1 : Cond.methodLink own ix arraycopyName ∈ Ts) (h2 : Cond.native arraycopyName ∈ Ts) (h3 : Cond.static arraycopyName ∈ Ts) (h4 : Cond.initialized "java/lang/System" ∈ Ts) (hfr : 1 ≤ R.frames) (hlo : x_wds st + 18 ≤ R.locals) {β : Type} {F : Hp → Option β} {res : β} (hf : (aCpy h a sp b dp n0).bind F = some res) (d : decode cc pc = .ok (.invokestatic ix, 3)) (e1 : pc + 3 = pc') (K : ∀ h', aCpy h a sp b dp n0 = some h' → F h' = some res → XW g p l e R s m args below meth c Q nL k n h' pc' lv st) : XW g p l e R s m args below meth c Q nL k n h pc lv (vI n0 :: vI dp :: vR b :: vI sp :: vR a :: st) := by
  subst e1
  obtain ⟨h', hx, hf⟩ := bind_some hf
  have K1 := K h' hx hf
  unfold aCpy at hx
  split at hx
  · cases hx
  rename_i hab
  obtain ⟨⟨n0', f⟩, hq1, hx⟩ := bind_some hx
  obtain ⟨⟨n1, f1⟩, hq2, hx⟩ := bind_some hx
  split at hx
  case isFalse => cases hx
  rename_i hb
  obtain ⟨g1, g2, g3, g4, g5⟩ := hb
  have hha := hArr_at hq1
  have hhb := hArr_at hq2
  have ha4 : 4 ≤ a := by omega
  have hb4 : 4 ≤ b := by omega
  have e2 := Option.some.inj hx
  subst e2
  have hts := C.1.2.2.2.2
  intro H locs ls cells slots hS hl hc hn
  show W p l e R s m args below meth c H locs cells slots Q (F0 m pc ls (.int n0 :: .int dp :: x_rv g b :: .int sp :: x_rv g a :: st.map (x_v g)))
  rw [x_rv_pos ha4, x_rv_pos hb4]
  have nn : ∀ z : Int32, ¬ z < 0 → z.toInt = (z.toNatClampNeg : Int) := by
    intro z hz
    have hz0 : (0 : Int) ≤ z.toInt := by
      have := Int32.not_lt.mp hz
      simpa using Int32.le_iff_toInt_le.mp this
    show z.toInt = ((z.toInt.toNat : Nat) : Int)
    omega
  intro T hT X
  have hc0 : H[x_ad g a]? = some (vp_cell (g.2.1.1 0) (n0', .inl f)) := hS.1.2.2 (a - 4) _ (x_wd_at ha4 hha)
  have hc1 : H[x_ad g b]? = some (vp_cell (g.2.1.1 0) (n1, .inl f1)) := hS.1.2.2 (b - 4) _ (x_wd_at hb4 hhb)
  obtain ⟨-, k0, hk0, cm0, hkk0⟩ := (C.2.1.1.2 0 _ rfl).1 n0' (fun j => .int (f j))
  obtain ⟨-, k1, hk1, cm1, hkk1⟩ := (C.2.1.1.2 0 _ rfl).1 n1 (fun j => .int (f1 j))
  obtain ⟨vm', X', step⟩ := X.arraycopy C.1.1 C.1.2.2.2.1 (hts _ h1) (hts _ h2) (hts _ h3) (hts _ h4) (src := x_ad g a) (dst := x_ad g b) (cs := vp_cell (g.2.1.1 0) (n0', .inl f)) (cd := vp_cell (g.2.1.1 0) (n1, .inl f1)) (srcPos := sp) (destPos := dp) (n := n0) (by rw [hT]; exact hc0) (by rw [hT]; exact hc1)
    (fun _ h => by cases h) (fun _ h => by cases h) (fun h => by cases h) (fun h => by cases h) hk0 hk1 hkk0 hkk1 (by simp [refKind]) g1 g2 g3
    (by rw [nn sp g1, nn n0 g3]; show ¬ _ > ((arrV (g.2.1.1 0) n0' (fun j => .int (f j))).slots.size : Int); rw [arrV_size]; omega)
    (by rw [nn dp g2, nn n0 g3]; show ¬ _ > ((arrV (g.2.1.1 0) n1 (fun j => .int (f1 j))).slots.size : Int); rw [arrV_size]; omega)
    (fun vm₁ _ i hi => by
      have e : (vp_cell (g.2.1.1 0) (n0', .inl f)).slots.getD (sp.toNatClampNeg + i) .null = .int (f (sp.toNatClampNeg + i)) := by
        show (arrV (g.2.1.1 0) n0' (fun j => .int (f j))).slots.getD _ _ = _
        rw [Array.getD_eq_getD_getElem?, arrV_read _ _ (by omega)]
        rfl
      refine ⟨?_, ?_⟩
      · rw [e]
        rfl
      · rw [e]
        exact trivial)
    (g := F0 m pc ls (.int n0 :: .int dp :: .ref (x_ad g b) :: .int sp :: .ref (x_ad g a) :: st.map (x_v g))) rfl (by rw [C.1.2.2.1]; exact hl.1) (rest := st.map (x_v g)) rfl (by rw [C.1.2.1]; exact d) hfr (by show 2 * 0 + _ + 18 ≤ _; rw [x_wds_eq]; omega)
  have e1 : copied (vp_cell (g.2.1.1 0) (n0', .inl f)) (vp_cell (g.2.1.1 0) (n1, .inl f1)) sp dp n0 = vp_cell (g.2.1.1 0) (n1, .inl (va_cpy f f1 sp.toNatClampNeg dp.toNatClampNeg n0.toNatClampNeg)) := va_copied (fun z => .int z) _ _ f f1 g4
  rw [e1] at X' step
  have hlt : x_ad g b < H.size := (Array.getElem?_eq_some_iff.mp hc1).1
  have hheap : ((T.setVm vm').setCell (x_ad g b) (vp_cell (g.2.1.1 0) (n1, .inl (va_cpy f f1 sp.toNatClampNeg dp.toNatClampNeg n0.toNatClampNeg)))).heap = H.setIfInBounds (x_ad g b) (vp_cell (g.2.1.1 0) (n1, .inl (va_cpy f f1 sp.toNatClampNeg dp.toNatClampNeg n0.toNatClampNeg))) := by rw [← hT]; rfl
  have oq : ∀ q : Nat, q ≠ x_ad g b → (H.setIfInBounds (x_ad g b) (vp_cell (g.2.1.1 0) (n1, .inl (va_cpy f f1 sp.toNatClampNeg dp.toNatClampNeg n0.toNatClampNeg))))[q]? = H[q]? := fun q hq => by simp [Array.getElem?_setIfInBounds, Ne.symm hq]
  have hAb : x_A g (x_ad g b) := (x_D g h).2 _ _ (x_wd_at (g := g) hb4 hhb)
  obtain ⟨t, a1, b1⟩ := K1 _ _ ls cells slots ⟨⟨x_take_set hb4 hS.1.1, by rw [Array.size_setIfInBounds, hS.1.2.1, List.length_set], by
      rw [x_wd_set hb4]
      exact hS.1.2.2.set (x_D g h) (x_wd_at hb4 hhb) (show (H.setIfInBounds (x_ad g b) _)[x_ad g b]? = some (vp_cell (g.2.1.1 0) _) by simp [Array.getElem?_setIfInBounds, hlt]) oq⟩, by rw [Array.size_setIfInBounds]; exact hS.2.1, fun q w1 w2 => by
      rw [oq q (fun e => w2 (by rw [e]; exact hAb))]
      exact hS.2.2.1 q w1 w2, fun q hq => by
      rcases List.mem_append.mp hq with h | h
      · exact hS.2.2.2 q h
      · obtain ⟨z, -, hz⟩ := List.mem_map.mp h
        rw [← hz]
        exact hAb⟩ hl hc hn _ hheap X'
  exact ⟨t, step t a1, b1⟩
def cpA (h : Hp) (a cap : Nat) {β : Type} (K : Nat → Hp → Option β) : Option β := if a < 4 then none else (hArr h a 0).bind fun q => if q.1 ≤ cap then K h.length (h ++ [aC 0 q.1 q.2]) else none
theorem x_clone (C : x_C g p s m args c cc own nL Ts) {ix a cap : Nat} (h1 : Cond.methodLink own ix ⟨"[I", "clone", "()Ljava/lang/Object;"⟩ ∈ Ts) (h2 : Cond.sameMethod "[I" "java/lang/Object" "clone" "()Ljava/lang/Object;" ∈ Ts) (h3 : Cond.native ⟨"java/lang/Object", "clone", "()Ljava/lang/Object;"⟩ ∈ Ts) (h4 : Cond.instanceMethod ⟨"java/lang/Object", "clone", "()Ljava/lang/Object;"⟩ ∈ Ts) (h5 : Cond.selects "[I" ⟨"[I", "clone", "()Ljava/lang/Object;"⟩ ⟨"java/lang/Object", "clone", "()Ljava/lang/Object;"⟩ ∈ Ts) (hfr : 1 ≤ R.frames) (hlo : x_wds st + 14 ≤ R.locals) {β : Type} {F : Nat → Hp → Option β} {res : β} (hf : cpA h a cap F = some res) (d : decode cc pc = .ok (.invokevirtual ix, 3)) (e1 : pc + 3 = pc') (K : ∀ b h' n0 f, 4 ≤ b → b = h.length → h' = h ++ [aC 0 n0 f] → F b h' = some res → XW g p l e R s m args below meth c Q nL k n h' pc' lv (vR b :: st)) : XW g p l e R s m args below meth c Q nL (k + 1) (n + cap) h pc lv (vR a :: st) := by
  subst e1
  unfold cpA at hf
  split at hf
  · cases hf
  rename_i ha
  obtain ⟨⟨n0, f⟩, hq, hf⟩ := bind_some hf
  split at hf
  case isFalse => cases hf
  rename_i hcap
  have hh := hArr_at hq
  have ha4 : 4 ≤ a := by omega
  have hts := C.1.2.2.2.2
  have hK := C.2.1.1
  intro H locs ls cells slots hS hl hc hn
  show W p l e R s m args below meth c H locs cells slots Q (F0 m pc ls (x_rv g a :: st.map (x_v g)))
  rw [x_rv_pos ha4]
  have hnm : s.vm.findClass "[I" = some (g.2.1.1 0) := va_nm_int (hK.2 0 _ rfl).2
  have hsz : (vp_cell (g.2.1.1 0) (n0, .inl f)).slots.size = n0 := arrV_size _ _ _
  have hcellE : ({ cls := (vp_cell (g.2.1.1 0) (n0, .inl f)).cls, slots := (vp_cell (g.2.1.1 0) (n0, .inl f)).slots } : Cell) = vp_cell (g.2.1.1 0) (n0, .inl f) := rfl
  obtain ⟨c0, t0', f1, f2, f3⟩ := Cond.castable_spec (va_Nw.use (A := args) rfl C.2.1.2.2.2.2)
  cases hnm.symm.trans f1
  intro T hT X
  have hcellT : T.heap[x_ad g a]? = some (vp_cell (g.2.1.1 0) (n0, .inl f)) := by rw [hT]; exact hS.1.2.2 (a - 4) _ (x_wd_at ha4 hh)
  obtain ⟨-, kA, hkA, comp, hkind⟩ := State.isArrayOf_alike X.warmed.alike ((hK.2 0 _ rfl).1 0 (fun _ => .null))
  obtain ⟨-, kS, hkS, compS, hkindS⟩ := (hK.2 0 _ rfl).1 0 (fun _ => .null)
  obtain ⟨vm', X', stp⟩ := X.cloneArray C.1.1 C.1.2.2.2.1 (hts _ h1) (hts _ h2) (hts _ h3) (hts _ h4) (hts _ h5) (a := x_ad g a) (cell := vp_cell (g.2.1.1 0) (n0, .inl f)) hcellT (fun k h => by cases h) (fun h => by cases h) hnm f2 f3
    (fun i v hv => by
      have hk' : T.vm.classes[g.2.1.1 0]? = some kA := hkA
      have hfit : fits .int v = true := by
        have hv : (arrV (g.2.1.1 0) n0 (fun j => .int (f j))).slots[i]? = some v := hv
        by_cases hi : i < n0
        · rw [arrV_read _ _ hi] at hv
          cases hv
          rfl
        · have : (arrV (g.2.1.1 0) n0 (fun j => .int (f j))).slots.size ≤ i := by rw [arrV_size]; omega
          rw [Array.getElem?_eq_none this] at hv
          cases hv
      show State.fitsSlot _ (g.2.1.1 0) _ _ _ = true
      simpa [State.fitsSlot, State.slotType?, hk', hkind] using hfit)
    (g := F0 m pc ls (.ref (x_ad g a) :: st.map (x_v g))) rfl (by rw [C.1.2.2.1]; exact hl.1) rfl (by rw [C.1.2.1]; exact d) hfr (by show 2 * 0 + _ + 14 ≤ _; rw [x_wds_eq]; omega) (by omega) (by rw [hsz]; omega) (hloader := Vm.clonesLoader_of_array hkS hkindS)
  rw [hcellE, hsz] at X'
  generalize hH1 : H.push (vp_cell (g.2.1.1 0) (n0, .inl f)) = H1
  have z1 : H1.size = H.size + 1 := by rw [← hH1, Array.size_push]
  have e1 : H1[H.size]? = some (vp_cell (g.2.1.1 0) (n0, .inl f)) := by rw [← hH1, Array.getElem?_push_size]
  have o1 : ∀ q : Nat, q < H.size → H1[q]? = H[q]? := fun q hq => by rw [← hH1, Array.getElem?_push, if_neg (Nat.ne_of_lt hq)]
  obtain ⟨hS1, hrv⟩ := x_S_push (c' := aC 0 n0 f) C.2.2 hS z1 o1 e1
  have K1 := K h.length _ n0 f (x_len hS.1.1) rfl rfl hf H1 locs ls (cells + 1) (slots + n0) hS1 hl (by omega) (by omega)
  obtain ⟨t, b1, b2⟩ := K1 ((T.setVm vm').pushCell (vp_cell (g.2.1.1 0) (n0, .inl f))) (by rw [← hH1, ← hT]; rfl) X'
  refine ⟨t, stp t ?_, b2⟩
  have hrv2 : x_v g (vR h.length) = .ref H.size := hrv
  rw [List.map_cons, hrv2] at b1
  rw [hcellE, hT]
  exact b1
theorem x_castI (C : x_C g p s m args c cc own nL Ts) {ix a n0 : Nat} {f : Nat → Int32} (h1 : Cond.classLink own ix "[I" ∈ Ts) (ha : 4 ≤ a) (hh : h[a]? = some (aC 0 n0 f)) (d : decode cc pc = .ok (.checkcast ix, 3)) (e1 : pc + 3 = pc') (K : XW g p l e R s m args below meth c Q nL k n h pc' lv (vR a :: st)) : XW g p l e R s m args below meth c Q nL k n h pc lv (vR a :: st) := by
  subst e1
  intro H locs ls cells slots hS hl hc hn
  have K1 : W p l e R s m args below meth c H locs cells slots Q (F0 m (pc + 3) ls (x_rv g a :: st.map (x_v g))) := K H locs ls cells slots hS hl hc hn
  show W p l e R s m args below meth c H locs cells slots Q (F0 m pc ls (x_rv g a :: st.map (x_v g)))
  rw [x_rv_pos ha] at K1 ⊢
  exact va_castA (D := g.2.1.2) (cl := x_cl) C.1.1 C.1.2.1 C.1.2.2.2.1 (C.1.2.2.2.2 _ h1) hS.1.2.2 (a - 4) (x_wd_at ha hh) (va_nm_int (C.2.1.1.2 0 _ rfl).2) d K1
end XE

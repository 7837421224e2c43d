section XH
variable {g : XG} {p : Program} {l : Launch} {e : Env} {R : Room} {s : State} {m : MethodId} {args : Array Value} {below : List Frame} {meth : Method} {c : Code} {Q : State → Prop} {cc : ByteArray} {own : String} {nL k n : Nat} {Ts : List Cond} {h : Hp} {pc pc' : Nat} {lv : List (Option XV)} {st : List XV}
theorem gI_at {h : Hp} {a ci k : Nat} {x : Int32} (q : gI h a ci k = some x) : ∃ fs, hObj h a ci = some fs ∧ fs[k]? = some (vI x) := by
  unfold gI at q
  split at q
  · rename_i y hy
    cases q
    unfold gV at hy
    obtain ⟨fs, h1, h2⟩ := bind_some hy
    exact ⟨fs, h1, h2⟩
  · cases q
theorem gR_at {h : Hp} {a ci k : Nat} {x : Nat} (q : gR h a ci k = some x) : ∃ fs, hObj h a ci = some fs ∧ fs[k]? = some (vR x) := by
  unfold gR at q
  split at q
  · rename_i y hy
    cases q
    unfold gV at hy
    obtain ⟨fs, h1, h2⟩ := bind_some hy
    exact ⟨fs, h1, h2⟩
  · cases q
theorem pF_at {h h' : Hp} {a ci k : Nat} {v : XV} (q : pF h a ci k v = some h') : ∃ fs, hObj h a ci = some fs ∧ k < fs.length ∧ h' = h.set a (oC ci (fs.set k v)) := by
  unfold pF at q
  obtain ⟨fs, h1, h2⟩ := bind_some q
  split at h2
  · cases h2
    exact ⟨fs, h1, by assumption, rfl⟩
  · cases h2
/-- a cell written -/
theorem x_S_set {H H' : Heap} {locs : List Loc} {a j : Nat} {c0 c' : HC} (hS : x_S g s h H locs) (ha : 4 ≤ a) (hh : h[a]? = some c0) (z : H'.size = H.size) (oq : ∀ q, q ≠ x_ad g a → H'[q]? = H[q]?) (hat : va_at g.2.1.2 x_cl (x_ad g a, x_tr g c') H') : x_S g s (h.set a c') H' (locs ++ [⟨x_ad g a, j⟩]) := by
  obtain ⟨⟨h1, h2, h3⟩, h4⟩ := hS
  refine ⟨⟨x_take_set ha h1, by rw [z, h2, List.length_set], ?_⟩, h4.put z oq ?_⟩
  · rw [x_wd_set ha]
    exact h3.set (x_D g h) (x_wd_at ha hh) hat oq
  · exact (x_D g h).2 _ _ (x_wd_at ha hh)
/-- a cell made -/
theorem x_S_push {H H1 : Heap} {locs : List Loc} {c' : HC} (hs : g.1.1 ≤ s.heap.size) (hS : x_S g s h H locs) (z : H1.size = H.size + 1) (o1 : ∀ q, q < H.size → H1[q]? = H[q]?) (hat : va_at g.2.1.2 x_cl (H.size, x_tr g c') H1) : x_S g s (h ++ [c']) H1 locs ∧ x_rv g h.length = .ref H.size := by
  obtain ⟨⟨h1, h2, h3⟩, h4⟩ := hS
  have hl := x_len h1
  refine ⟨⟨⟨x_take_push h1, by rw [z, h2, List.length_append, List.length_singleton]; omega, ?_⟩, Nat.le_trans h4.1 (by omega), fun q g1 g2 => (o1 q (Nat.lt_of_lt_of_le g1 h4.1)).trans (h4.2.1 q g1 g2), h4.2.2⟩, ?_⟩
  · rw [x_wd_push hl]
    refine va_P.app (h3.kept (fun k x hx => o1 x.1 ((h3 k x hx).lt))) (fun k x hx => ?_)
    have hz : k < 1 := (List.getElem?_eq_some_iff.mp hx).1
    rw [show k = 0 by omega] at hx
    cases hx
    rw [h2] at hat
    exact hat
  · unfold x_rv x_ad
    rw [if_neg (by omega), if_neg (by omega), h2]
-- fields
theorem x_getI (C : x_C g p s m args c cc own nL Ts) {a ci kf ix : Nat} {ref C0 : String} {T : u_T} {N : Nat} (hcl : x_cl[ci]? = some (C0, T, N)) (hk : kf < N) (hin : ∀ w ∈ u_ws C0 T N, w ∈ Ts) (hlk : Cond.fieldLink own ix ref (T kf).2.1 (T kf).2.2.1 ∈ Ts) (href : (T kf).1 = ref) {β : Type} {F : Int32 → Option β} {res : β} (hf : (gI h a ci kf).bind F = some res) (d : decode cc pc = .ok (.getfield ix, 3)) (e1 : pc + 3 = pc') (K : ∀ x, gI h a ci kf = some x → F x = some res → XW g p l e R s m args below meth c Q nL k n h pc' lv (vI x :: st)) : XW g p l e R s m args below meth c Q nL k n h pc lv (vR a :: st) := by
  subst e1
  obtain ⟨x, hx, hf⟩ := bind_some hf
  obtain ⟨fs, h1, h2⟩ := gI_at hx
  obtain ⟨ha, hh⟩ := hObj_at h1
  intro H locs ls cells slots hS hl hc hn
  show W p l e R s m args below meth c H locs cells slots Q (F0 m pc ls (x_rv g a :: st.map (x_v g)))
  rw [x_rv_pos ha]
  exact va_get (D := g.2.1.2) (cl := x_cl) (v := .int x) C.1.1 C.1.2.1 C.1.2.2.2.2 hin C.1.2.2.2.1 C.2.1.1 hS.1.2.2 (a - 4) (x_wd_at ha hh) hcl kf hk (C.1.2.2.2.2 _ hlk) (fun _ q => by rw [← href]; exact q) (by rw [List.getElem?_map, h2]; rfl) d (K x hx hf H locs ls cells slots hS hl hc hn)
theorem x_getR (C : x_C g p s m args c cc own nL Ts) {a ci kf ix : Nat} {ref C0 : String} {T : u_T} {N : Nat} (hcl : x_cl[ci]? = some (C0, T, N)) (hk : kf < N) (hin : ∀ w ∈ u_ws C0 T N, w ∈ Ts) (hlk : Cond.fieldLink own ix ref (T kf).2.1 (T kf).2.2.1 ∈ Ts) (href : (T kf).1 = ref) {β : Type} {F : Nat → Option β} {res : β} (hf : (gR h a ci kf).bind F = some res) (d : decode cc pc = .ok (.getfield ix, 3)) (e1 : pc + 3 = pc') (K : ∀ x, gR h a ci kf = some x → F x = some res → XW g p l e R s m args below meth c Q nL k n h pc' lv (vR x :: st)) : XW g p l e R s m args below meth c Q nL k n h pc lv (vR a :: st) := by
  subst e1
  obtain ⟨x, hx, hf⟩ := bind_some hf
  obtain ⟨fs, h1, h2⟩ := gR_at hx
  obtain ⟨ha, hh⟩ := hObj_at h1
  intro H locs ls cells slots hS hl hc hn
  show W p l e R s m args below meth c H locs cells slots Q (F0 m pc ls (x_rv g a :: st.map (x_v g)))
  rw [x_rv_pos ha]
  exact va_get (D := g.2.1.2) (cl := x_cl) (v := x_rv g x) C.1.1 C.1.2.1 C.1.2.2.2.2 hin C.1.2.2.2.1 C.2.1.1 hS.1.2.2 (a - 4) (x_wd_at ha hh) hcl kf hk (C.1.2.2.2.2 _ hlk) (fun _ q => by rw [← href]; exact q) (by rw [List.getElem?_map, h2]; rfl) d (K x hx hf H locs ls cells slots hS hl hc hn)
theorem x_getIN (C : x_C g p s m args c cc own nL Ts) {a ci kf ix : Nat} {ref C0 host : String} {T : u_T} {N : Nat} (hcl : x_cl[ci]? = some (C0, T, N)) (hk : kf < N) (hin : ∀ w ∈ u_ws C0 T N, w ∈ Ts) (hlk : Cond.fieldLinkNest own ix ref (T kf).2.1 (T kf).2.2.1 host ∈ x_nest) (href : (T kf).1 = ref) {β : Type} {F : Int32 → Option β} {res : β} (hf : (gI h a ci kf).bind F = some res) (d : decode cc pc = .ok (.getfield ix, 3)) (e1 : pc + 3 = pc') (K : ∀ x, gI h a ci kf = some x → F x = some res → XW g p l e R s m args below meth c Q nL k n h pc' lv (vI x :: st)) : XW g p l e R s m args below meth c Q nL k n h pc lv (vR a :: st) := by
  subst e1
  obtain ⟨x, hx, hf⟩ := bind_some hf
  obtain ⟨fs, h1, h2⟩ := gI_at hx
  obtain ⟨ha, hh⟩ := hObj_at h1
  intro H locs ls cells slots hS hl hc hn
  show W p l e R s m args below meth c H locs cells slots Q (F0 m pc ls (x_rv g a :: st.map (x_v g)))
  rw [x_rv_pos ha]
  exact va_getN (D := g.2.1.2) (cl := x_cl) (v := .int x) C.1.1 C.1.2.1 C.1.2.2.2.2 hin C.1.2.2.2.1 C.2.1.1 hS.1.2.2 (a - 4) (x_wd_at ha hh) hcl kf hk (va_Nw.use rfl (C.2.1.2.2.1 _ hlk)) (fun _ q => by rw [← href]; exact q) (by rw [List.getElem?_map, h2]; rfl) d (K x hx hf H locs ls cells slots hS hl hc hn)
/-- a value fits a field of a type -/
def x_fit (ty : FieldType) (v : XV) : Bool := match ty, v with
  | .int, Sum.inl _ => true
  | .object _, Sum.inr (Sum.inr _) => true
  | .array _, Sum.inr (Sum.inr _) => true
  | _, _ => false
theorem x_fit_ok {ty : FieldType} {v : XV} (q : x_fit ty v = true) : narrow ty (x_v g v) = x_v g v ∧ fits ty (x_v g v) = true := by
  unfold x_fit at q
  split at q
  · exact ⟨rfl, rfl⟩
  · show narrow _ (x_rv g _) = x_rv g _ ∧ fits _ (x_rv g _) = true
    unfold x_rv
    split <;> exact ⟨rfl, rfl⟩
  · show narrow _ (x_rv g _) = x_rv g _ ∧ fits _ (x_rv g _) = true
    unfold x_rv
    split <;> exact ⟨rfl, rfl⟩
  · cases q
theorem x_put (C : x_C g p s m args c cc own nL Ts) {a ci kf ix : Nat} {ref C0 : String} {T : u_T} {N : Nat} {v : XV} (hcl : x_cl[ci]? = some (C0, T, N)) (hk : kf < N) (hin : ∀ w ∈ u_ws C0 T N, w ∈ Ts) (ty0 : Nat → FieldType) (hty : ∀ k, k < N → parseFieldDescriptor (T k).2.2.1 = some (ty0 k)) (hnm : ∀ a, a < N → ∀ b, b < N → a ≠ b → (T a).2.1 ≠ (T b).2.1) (hlk : Cond.fieldLink own ix ref (T kf).2.1 (T kf).2.2.1 ∈ Ts) (href : (T kf).1 = ref) (hfin : (T kf).2.2.2 = false ∨ ((T kf).2.2.2 = true ∧ meth.name = "<init>" ∧ (T kf).1 = own)) (hft : x_fit (ty0 kf) v = true) {β : Type} {F : Hp → Option β} {res : β} (hf : (pF h a ci kf v).bind F = some res) (d : decode cc pc = .ok (.putfield ix, 3)) (e1 : pc + 3 = pc') (K : ∀ h', pF h a ci kf v = some h' → F h' = some res → XW g p l e R s m args below meth c Q nL k n h' pc' lv st) : XW g p l e R s m args below meth c Q nL k n h pc lv (v :: vR a :: st) := by
  subst e1
  obtain ⟨h', hp', hf⟩ := bind_some hf
  obtain ⟨fs, h1, hlt, h2⟩ := pF_at hp'
  obtain ⟨ha, hh⟩ := hObj_at h1
  have hK1 := K h' hp' hf
  subst h2
  intro H locs ls cells slots hS hl hc hn
  show W p l e R s m args below meth c H locs cells slots Q (F0 m pc ls (x_v g v :: x_rv g a :: st.map (x_v g)))
  rw [x_rv_pos ha]
  obtain ⟨hn9, hfit⟩ := x_fit_ok (g := g) hft
  have hK := C.2.1.1
  have hts := C.1.2.2.2.2
  have he := x_wd_at (g := g) ha hh
  have hap := va_apart (own := own) hts hin ty0 hty hnm hK hcl
  obtain ⟨r, g1, cell, q1, q2, q3, q4⟩ := hS.1.2.2 (a - 4) _ he
  have hr : r = (C0, T, N) := Option.some.inj (g1.symm.trans hcl)
  subst hr
  obtain ⟨hSl, hfc, kC, hkC, hkind⟩ := hK.1 ci _ hcl
  obtain ⟨cf, kc, fi, f, hi, hsl⟩ := hSl kf hk
  have hlay := hts _ (hin _ (u_in_lay hk))
  unfold u_lay at hlay
  have hst := (u_facts hfc hkC (u_lays hts hin hk) hi).1
  have hsame : s.fieldFound? ref (T kf).2.1 (T kf).2.2.1 = some (cf, kc, fi, f) := by rw [← href]; exact hi
  have fin : ∀ H' : Heap, H'[x_ad g a]? = some (cell.setSlot f.slot (x_v g v)) → H'.size = H.size → (∀ q, q ≠ x_ad g a → H'[q]? = H[q]?) → W p l e R s m args below meth c H' (locs ++ [⟨x_ad g a, f.slot⟩]) cells slots Q (F0 m (pc + 3) ls (st.map (x_v g))) := by
    intro H' e1 e2 e3
    refine hK1 H' _ ls cells slots (x_S_set hS ha hh e2 e3 ?_) hl hc hn
    rw [hsl] at e1
    show ∃ r : vw_C, x_cl[ci]? = some r ∧ t_OB (x_ad g a) (g.2.1.2.1 ci) r.2.2 (g.2.1.2.2 ci) H' (vp_V ((fs.set kf v).map (x_v g)))
    rw [List.map_set]
    exact ⟨_, hcl, t_OB.to (V := updV (vp_V (fs.map (x_v g))) kf (x_v g v)) ⟨_, e1, q2, q3, t_set q4 hap hk (x_v g v)⟩ (fun j _ => vp_updV_set (by rw [List.length_map]; exact hlt) (x_v g v) j)⟩
  rcases hfin with hfin | ⟨hfin, hin2, hdecl⟩
  · rw [if_neg (by rw [hfin]; decide)] at hlay
    have h6 := u_store hfc hkC hkind hlay hi (hty kf hk) hn9 hfit
    exact W.putK C.1.1 C.1.2.1 (f := f) ⟨C.1.2.2.2.1, hts _ hlk, ⟨_, _, _, hsame⟩, hst⟩ (by rw [q2]; exact h6) q1 q3 (by rw [hsl]; exact k2_hasslot (q4 kf hk)) rfl rfl d fin
  · rw [if_pos hfin] at hlay
    have hcf : m.cls = cf := by
      obtain ⟨_, _, c', _, _, _, -, -, hf', -, -, -, hown2, -⟩ := Cond.laysFinal_spec hlay
      have e1 : c' = cf := by have := hi.symm.trans hf'; simp at this; exact this.1.symm
      rw [hdecl] at hown2
      rw [← e1]; exact Option.some.inj (C.1.2.2.2.1.symm.trans hown2)
    have h6 := u_fits hfc hkC hkind (Or.inr hlay) hi (hty kf hk) hn9 hfit
    exact W.putFinK C.1.1 C.1.2.1 C.1.2.2.2.1 (hts _ hlk) hsame hst hcf hin2 (by rw [q2]; exact h6) q1 q3 (by rw [hsl]; exact k2_hasslot (q4 kf hk)) rfl rfl d fin
-- arrays
theorem x_old {a : Nat} (ha : a < 4) (e : h.take 4 = x_st g) : h[a]? = (x_st g)[a]? := by
  rw [← e, List.getElem?_take_of_lt ha]
theorem aI_at {h : Hp} {a tg : Nat} {i x : Int32} (q : aI h a tg i = some x) : ∃ (n : Nat) (f : Nat → Int32), h[a]? = some (aC tg n f) ∧ vp_in i n ∧ x = f i.toNatClampNeg := by
  unfold aI at q
  obtain ⟨w, h1, h2⟩ := bind_some q
  split at h2
  · rename_i hb
    cases h2
    exact ⟨w.1, w.2, hArr_at h1, inB_in hb, rfl⟩
  · cases h2
theorem x_iaload (C : x_C g p s m args c cc own nL Ts) {a : Nat} {i : Int32} {β : Type} {F : Int32 → Option β} {res : β} (hf : (aI h a 0 i).bind F = some res) (d : decode cc pc = .ok (.iaload, 1)) (e1 : pc + 1 = pc') (K : ∀ x, aI h a 0 i = some x → F x = some res → XW g p l e R s m args below meth c Q nL k n h pc' lv (vI x :: st)) : XW g p l e R s m args below meth c Q nL k n h pc lv (vI i :: vR a :: st) := by
  subst e1
  obtain ⟨x, hx, hf⟩ := bind_some hf
  obtain ⟨nn, f, hh, hb, rfl⟩ := aI_at hx
  intro H locs ls cells slots hS hl hc hn
  have K1 := K _ hx hf H locs ls cells slots hS hl hc hn
  show W p l e R s m args below meth c H locs cells slots Q (F0 m pc ls (.int i :: x_rv g a :: st.map (x_v g)))
  by_cases ha : 4 ≤ a
  · rw [x_rv_pos ha]
    exact va_iald (D := g.2.1.2) (cl := x_cl) (tys := x_ty g) C.1.1 C.1.2.1 C.2.1.1 hS.1.2.2 (a - 4) 0 (x_wd_at ha hh) rfl hb d K1
  · obtain ⟨z1, z2, z3, z4, z5, z6⟩ := C.2.1.2.1
    have hold := x_old (g := g) (h := h) (a := a) (by omega) hS.1.1
    rw [hh] at hold
    have hn4 : a = 0 ∨ a = 1 ∨ a = 2 ∨ a = 3 := by omega
    rcases hn4 with rfl | rfl | rfl | rfl
    · simp [x_st] at hold
    · have e2 : nn = g.2.2.1 ∧ f = g.2.2.2 := by
        simp only [x_st, List.getElem?_cons_succ, List.getElem?_cons_zero, Option.some.injEq, Sum.inr.injEq, Sum.inl.injEq, Prod.mk.injEq, true_and] at hold
        exact hold
      obtain ⟨rfl, rfl⟩ := e2
      exact va_sld C.1.1 C.1.2.1 z6 (Nat.lt_of_lt_of_le z5 C.2.2) (Nat.not_le.mpr z5) hS.2 hb d K1
    · have e2 : nn = 5 ∧ f = x_mw := by
        simp only [x_st, List.getElem?_cons_succ, List.getElem?_cons_zero, Option.some.injEq, Sum.inr.injEq, Sum.inl.injEq, Prod.mk.injEq, true_and] at hold
        exact hold
      obtain ⟨rfl, rfl⟩ := e2
      exact va_ti C.1.1 C.1.2.1 z2 hS.2 hb rfl d K1
    · have e2 : nn = 4 ∧ f = x_lk := by
        simp only [x_st, List.getElem?_cons_succ, List.getElem?_cons_zero, Option.some.injEq, Sum.inr.injEq, Sum.inl.injEq, Prod.mk.injEq, true_and] at hold
        exact hold
      obtain ⟨rfl, rfl⟩ := e2
      exact va_ti C.1.1 C.1.2.1 z4 hS.2 hb rfl d K1
theorem x_new4 {a tg nn : Nat} {f : Nat → Int32} (ht : ¬ tg = 0) (e : h.take 4 = x_st g) (hh : h[a]? = some (aC tg nn f)) : 4 ≤ a := by
  by_cases ha : 4 ≤ a
  · exact ha
  · exfalso
    have hold := x_old (g := g) (h := h) (a := a) (by omega) e
    rw [hh] at hold
    have hn4 : a = 0 ∨ a = 1 ∨ a = 2 ∨ a = 3 := by omega
    rcases hn4 with rfl | rfl | rfl | rfl
    · simp [x_st] at hold
    · simp only [x_st, List.getElem?_cons_succ, List.getElem?_cons_zero, Option.some.injEq, Sum.inr.injEq, Sum.inl.injEq, Prod.mk.injEq] at hold
      exact ht hold.1
    · simp only [x_st, List.getElem?_cons_succ, List.getElem?_cons_zero, Option.some.injEq, Sum.inr.injEq, Sum.inl.injEq, Prod.mk.injEq] at hold
      exact ht hold.1
    · simp only [x_st, List.getElem?_cons_succ, List.getElem?_cons_zero, Option.some.injEq, Sum.inr.injEq, Sum.inl.injEq, Prod.mk.injEq] at hold
      exact ht hold.1
theorem x_baloadB (C : x_C g p s m args c cc own nL Ts) {a : Nat} {i : Int32} {β : Type} {F : Int32 → Option β} {res : β} (hf : (aI h a 1 i).bind F = some res) (d : decode cc pc = .ok (.baload, 1)) (e1 : pc + 1 = pc') (K : ∀ x, aI h a 1 i = some x → F x = some res → XW g p l e R s m args below meth c Q nL k n h pc' lv (vI x :: st)) : XW g p l e R s m args below meth c Q nL k n h pc lv (vI i :: vR a :: st) := by
  subst e1
  obtain ⟨x, hx, hf⟩ := bind_some hf
  obtain ⟨nn, f, hh, hb, rfl⟩ := aI_at hx
  intro H locs ls cells slots hS hl hc hn
  have ha := x_new4 (g := g) (by decide) hS.1.1 hh
  show W p l e R s m args below meth c H locs cells slots Q (F0 m pc ls (.int i :: x_rv g a :: st.map (x_v g)))
  rw [x_rv_pos ha]
  exact va_bald (D := g.2.1.2) (cl := x_cl) (tys := x_ty g) C.1.1 C.1.2.1 C.2.1.1 hS.1.2.2 (a - 4) 1 (x_wd_at ha hh) rfl hb d (K _ hx hf H locs ls cells slots hS hl hc hn)
theorem x_baloadZ (C : x_C g p s m args c cc own nL Ts) {a : Nat} {i : Int32} {β : Type} {F : Int32 → Option β} {res : β} (hf : (aI h a 2 i).bind F = some res) (d : decode cc pc = .ok (.baload, 1)) (e1 : pc + 1 = pc') (K : ∀ x, aI h a 2 i = some x → F x = some res → XW g p l e R s m args below meth c Q nL k n h pc' lv (vI x :: st)) : XW g p l e R s m args below meth c Q nL k n h pc lv (vI i :: vR a :: st) := by
  subst e1
  obtain ⟨x, hx, hf⟩ := bind_some hf
  obtain ⟨nn, f, hh, hb, rfl⟩ := aI_at hx
  intro H locs ls cells slots hS hl hc hn
  have ha := x_new4 (g := g) (by decide) hS.1.1 hh
  show W p l e R s m args below meth c H locs cells slots Q (F0 m pc ls (.int i :: x_rv g a :: st.map (x_v g)))
  rw [x_rv_pos ha]
  exact va_zald (D := g.2.1.2) (cl := x_cl) (tys := x_ty g) C.1.1 C.1.2.1 C.2.1.1 hS.1.2.2 (a - 4) 2 (x_wd_at ha hh) rfl hb d (K _ hx hf H locs ls cells slots hS hl hc hn)
theorem sI_at {h h' : Hp} {a tg : Nat} {i x : Int32} (q : sI h a tg i x = some h') : 4 ≤ a ∧ ∃ (n : Nat) (f : Nat → Int32), h[a]? = some (aC tg n f) ∧ vp_in i n ∧ h' = h.set a (aC tg n (upd f i.toNatClampNeg (x_nar tg x))) := by
  unfold sI at q
  split at q
  · cases q
  · obtain ⟨w, h1, h2⟩ := bind_some q
    split at h2
    · rename_i hb
      cases h2
      exact ⟨by omega, w.1, w.2, hArr_at h1, inB_in hb, rfl⟩
    · cases h2
theorem x_cellI {cA : ClassId} {nn j : Nat} {f : Nat → Int32} {x : Int32} : (vp_cell cA (nn, .inl f)).setSlot j (.int x) = vp_cell cA (nn, .inl (upd f j x)) := by
  rw [vp_cell_i, vp_cell_i, arrV_store]
  congr 2
  funext q
  by_cases hq : q = j
  · subst hq
    simp [updV, upd]
  · simp [updV, upd, hq]
theorem x_iastore (C : x_C g p s m args c cc own nL Ts) {a : Nat} {i x : Int32} {β : Type} {F : Hp → Option β} {res : β} (hf : (sI h a 0 i x).bind F = some res) (d : decode cc pc = .ok (.iastore, 1)) (e1 : pc + 1 = pc') (K : ∀ h', sI h a 0 i x = some h' → F h' = some res → XW g p l e R s m args below meth c Q nL k n h' pc' lv st) : XW g p l e R s m args below meth c Q nL k n h pc lv (vI x :: vI i :: vR a :: st) := by
  subst e1
  obtain ⟨h', hx, hf⟩ := bind_some hf
  obtain ⟨ha, nn, f, hh, hb, e2⟩ := sI_at hx
  have K1 := K h' hx hf
  subst e2
  intro H locs ls cells slots hS hl hc hn
  show W p l e R s m args below meth c H locs cells slots Q (F0 m pc ls (.int x :: .int i :: x_rv g a :: st.map (x_v g)))
  rw [x_rv_pos ha]
  refine W.iast C.1.1 C.1.2.1 (hS.1.2.2 (a - 4) _ (x_wd_at ha hh)) ((C.2.1.1.2 0 _ rfl).1 nn (fun j => .int (f j))) (fun q => by cases q) (by show ¬ (i < 0 ∨ (arrV _ _ _).slots.size ≤ _); rw [arrV_size]; exact hb) rfl rfl d fun H1 e z oq => ?_
  refine K1 H1 _ ls cells slots (x_S_set hS ha hh z oq ?_) hl hc hn
  show H1[x_ad g a]? = some (vp_cell _ _)
  rw [e]
  exact congrArg some x_cellI
theorem x_bastoreB (C : x_C g p s m args c cc own nL Ts) {a : Nat} {i x : Int32} {β : Type} {F : Hp → Option β} {res : β} (hf : (sI h a 1 i x).bind F = some res) (d : decode cc pc = .ok (.bastore, 1)) (e1 : pc + 1 = pc') (K : ∀ h', sI h a 1 i x = some h' → F h' = some res → XW g p l e R s m args below meth c Q nL k n h' pc' lv st) : XW g p l e R s m args below meth c Q nL k n h pc lv (vI x :: vI i :: vR a :: st) := by
  subst e1
  obtain ⟨h', hx, hf⟩ := bind_some hf
  obtain ⟨ha, nn, f, hh, hb, e2⟩ := sI_at hx
  have K1 := K h' hx hf
  subst e2
  intro H locs ls cells slots hS hl hc hn
  show W p l e R s m args below meth c H locs cells slots Q (F0 m pc ls (.int x :: .int i :: x_rv g a :: st.map (x_v g)))
  rw [x_rv_pos ha]
  refine W.bast C.1.1 C.1.2.1 (hS.1.2.2 (a - 4) _ (x_wd_at ha hh)) ((C.2.1.1.2 1 _ rfl).1 nn (fun j => .int (f j))) (fun q => by cases q) (by show ¬ (i < 0 ∨ (arrV _ _ _).slots.size ≤ _); rw [arrV_size]; exact hb) rfl rfl d fun H1 e z oq => ?_
  refine K1 H1 _ ls cells slots (x_S_set hS ha hh z oq ?_) hl hc hn
  show H1[x_ad g a]? = some (vp_cell _ _)
  rw [e]
  exact congrArg some x_cellI
theorem x_bastoreZ (C : x_C g p s m args c cc own nL Ts) {a : Nat} {i x : Int32} {β : Type} {F : Hp → Option β} {res : β} (hf : (sI h a 2 i x).bind F = some res) (d : decode cc pc = .ok (.bastore, 1)) (e1 : pc + 1 = pc') (K : ∀ h', sI h a 2 i x = some h' → F h' = some res → XW g p l e R s m args below meth c Q nL k n h' pc' lv st) : XW g p l e R s m args below meth c Q nL k n h pc lv (vI x :: vI i :: vR a :: st) := by
  subst e1
  obtain ⟨h', hx, hf⟩ := bind_some hf
  obtain ⟨ha, nn, f, hh, hb, e2⟩ := sI_at hx
  have K1 := K h' hx hf
  subst e2
  intro H locs ls cells slots hS hl hc hn
  show W p l e R s m args below meth c H locs cells slots Q (F0 m pc ls (.int x :: .int i :: x_rv g a :: st.map (x_v g)))
  rw [x_rv_pos ha]
  refine W.zast C.1.1 C.1.2.1 (hS.1.2.2 (a - 4) _ (x_wd_at ha hh)) ((C.2.1.1.2 2 _ rfl).1 nn (fun j => .int (f j))) (fun q => by cases q) (by show ¬ (i < 0 ∨ (arrV _ _ _).slots.size ≤ _); rw [arrV_size]; exact hb) rfl rfl d fun H1 e z oq => ?_
  refine K1 H1 _ ls cells slots (x_S_set hS ha hh z oq ?_) hl hc hn
  show H1[x_ad g a]? = some (vp_cell _ _)
  rw [e]
  exact congrArg some x_cellI
theorem aL_at {h : Hp} {a : Nat} {i : Int32} {x : Int64} (q : aL h a i = some x) : 4 ≤ a ∧ ∃ (n : Nat) (f : Nat → Int64), h[a]? = some (lC n f) ∧ vp_in i n ∧ x = f i.toNatClampNeg := by
  unfold aL at q
  obtain ⟨w, h1, h2⟩ := bind_some q
  split at h2
  · rename_i hb
    cases h2
    exact ⟨(hLng_at h1).1, w.1, w.2, (hLng_at h1).2, inB_in hb, rfl⟩
  · cases h2
theorem sL_at {h h' : Hp} {a : Nat} {i : Int32} {x : Int64} (q : sL h a i x = some h') : 4 ≤ a ∧ ∃ (n : Nat) (f : Nat → Int64), h[a]? = some (lC n f) ∧ vp_in i n ∧ h' = h.set a (lC n (vp_updL f i.toNatClampNeg x)) := by
  unfold sL at q
  obtain ⟨w, h1, h2⟩ := bind_some q
  split at h2
  · rename_i hb
    cases h2
    exact ⟨(hLng_at h1).1, w.1, w.2, (hLng_at h1).2, inB_in hb, rfl⟩
  · cases h2
theorem x_laload (C : x_C g p s m args c cc own nL Ts) {a : Nat} {i : Int32} {β : Type} {F : Int64 → Option β} {res : β} (hf : (aL h a i).bind F = some res) (d : decode cc pc = .ok (.laload, 1)) (e1 : pc + 1 = pc') (K : ∀ x, aL h a i = some x → F x = some res → XW g p l e R s m args below meth c Q nL k n h pc' lv (vL x :: st)) : XW g p l e R s m args below meth c Q nL k n h pc lv (vI i :: vR a :: st) := by
  subst e1
  obtain ⟨x, hx, hf⟩ := bind_some hf
  obtain ⟨ha, nn, f, hh, hb, rfl⟩ := aL_at hx
  intro H locs ls cells slots hS hl hc hn
  show W p l e R s m args below meth c H locs cells slots Q (F0 m pc ls (.int i :: x_rv g a :: st.map (x_v g)))
  rw [x_rv_pos ha]
  exact va_lald (D := g.2.1.2) (cl := x_cl) (tys := x_ty g) C.1.1 C.1.2.1 C.2.1.1 hS.1.2.2 (a - 4) 3 (x_wd_at ha hh) rfl hb d (K _ hx hf H locs ls cells slots hS hl hc hn)
theorem x_lastore (C : x_C g p s m args c cc own nL Ts) {a : Nat} {i : Int32} {x : Int64} {β : Type} {F : Hp → Option β} {res : β} (hf : (sL h a i x).bind F = some res) (d : decode cc pc = .ok (.lastore, 1)) (e1 : pc + 1 = pc') (K : ∀ h', sL h a i x = some h' → F h' = some res → XW g p l e R s m args below meth c Q nL k n h' pc' lv st) : XW g p l e R s m args below meth c Q nL k n h pc lv (vL x :: vI i :: vR a :: st) := by
  subst e1
  obtain ⟨h', hx, hf⟩ := bind_some hf
  obtain ⟨ha, nn, f, hh, hb, e2⟩ := sL_at hx
  have K1 := K h' hx hf
  subst e2
  intro H locs ls cells slots hS hl hc hn
  show W p l e R s m args below meth c H locs cells slots Q (F0 m pc ls (.long x :: .int i :: x_rv g a :: st.map (x_v g)))
  rw [x_rv_pos ha]
  refine W.last C.1.1 C.1.2.1 (hS.1.2.2 (a - 4) _ (x_wd_at ha hh)) ((C.2.1.1.2 3 _ rfl).1 nn (fun j => .long (f j))) (fun q => by cases q) (by show ¬ (i < 0 ∨ (arrV _ _ _).slots.size ≤ _); rw [arrV_size]; exact hb) rfl rfl d fun H1 e z oq => ?_
  refine K1 H1 _ ls cells slots (x_S_set hS ha hh z oq ?_) hl hc hn
  show H1[x_ad g a]? = some (vp_cell _ (nn, .inr (.inl (vp_updL f i.toNatClampNeg x))))
  rw [e]
  show some ((vp_cell _ (nn, .inr (.inl f))).setSlot _ _) = _
  rw [vp_cell_l, vp_cell_l, arrV_store]
  congr 2
  funext q
  by_cases hq : q = i.toNatClampNeg
  · subst hq
    simp [updV, vp_updL]
  · simp [updV, vp_updL, hq]
theorem aR_at {h : Hp} {a : Nat} {i : Int32} {x : Nat} (q : aR h a i = some x) : 4 ≤ a ∧ ∃ (n : Nat) (f : Nat → Nat), h[a]? = some (rC n f) ∧ vp_in i n ∧ x = f i.toNatClampNeg := by
  unfold aR at q
  obtain ⟨w, h1, h2⟩ := bind_some q
  split at h2
  · rename_i hb
    cases h2
    exact ⟨(hRow_at h1).1, w.1, w.2, (hRow_at h1).2, inB_in hb, rfl⟩
  · cases h2
theorem x_aaload (C : x_C g p s m args c cc own nL Ts) {a : Nat} {i : Int32} {β : Type} {F : Nat → Option β} {res : β} (hf : (aR h a i).bind F = some res) (d : decode cc pc = .ok (.aaload, 1)) (e1 : pc + 1 = pc') (K : ∀ x, aR h a i = some x → F x = some res → XW g p l e R s m args below meth c Q nL k n h pc' lv (vR x :: st)) : XW g p l e R s m args below meth c Q nL k n h pc lv (vI i :: vR a :: st) := by
  subst e1
  obtain ⟨x, hx, hf⟩ := bind_some hf
  obtain ⟨ha, nn, f, hh, hb, rfl⟩ := aR_at hx
  intro H locs ls cells slots hS hl hc hn
  show W p l e R s m args below meth c H locs cells slots Q (F0 m pc ls (.int i :: x_rv g a :: st.map (x_v g)))
  rw [x_rv_pos ha]
  have K1 : W p l e R s m args below meth c H locs cells slots Q (F0 m (pc + 1) ls (x_rv g (f i.toNatClampNeg) :: st.map (x_v g))) := K _ hx hf H locs ls cells slots hS hl hc hn
  rw [← x_rf] at K1
  exact va_aldq (D := g.2.1.2) (cl := x_cl) (tys := x_ty g) (f := fun j => x_o g (f j)) C.1.1 C.1.2.1 C.2.1.1 hS.1.2.2 (a - 4) 4 (x_wd_at ha hh) rfl hb d K1
theorem sR_at {h h' : Hp} {a : Nat} {i : Int32} {v : Nat} (q : sR h a i v = some h') : 4 ≤ a ∧ ∃ (n : Nat) (f : Nat → Nat), h[a]? = some (rC n f) ∧ vp_in i n ∧ (v = 0 ∨ ∃ fs, hObj h v 1 = some fs) ∧ h' = h.set a (rC n (va_up f i.toNatClampNeg v)) := by
  unfold sR at q
  obtain ⟨w, h1, h2⟩ := bind_some q
  split at h2
  · rename_i hb
    cases h2
    exact ⟨(hRow_at h1).1, w.1, w.2, (hRow_at h1).2, inB_in hb.1, hb.2.imp id (fun q => Option.isSome_iff_exists.mp q), rfl⟩
  · cases h2
theorem x_aastore (C : x_C g p s m args c cc own nL Ts) {a v : Nat} {i : Int32} {β : Type} {F : Hp → Option β} {res : β} (hf : (sR h a i v).bind F = some res) (d : decode cc pc = .ok (.aastore, 1)) (e1 : pc + 1 = pc') (K : ∀ h', sR h a i v = some h' → F h' = some res → XW g p l e R s m args below meth c Q nL k n h' pc' lv st) : XW g p l e R s m args below meth c Q nL k n h pc lv (vR v :: vI i :: vR a :: st) := by
  subst e1
  obtain ⟨h', hx, hf⟩ := bind_some hf
  obtain ⟨ha, nn, f, hh, hb, hv, e2⟩ := sR_at hx
  have K1 := K h' hx hf
  subst e2
  intro H locs ls cells slots hS hl hc hn
  show W p l e R s m args below meth c H locs cells slots Q (F0 m pc ls (x_rv g v :: .int i :: x_rv g a :: st.map (x_v g)))
  rw [x_rv_pos ha]
  have hK := C.2.1.1
  have hP := hS.1.2.2
  have he := x_wd_at (g := g) ha hh
  have fin : ∀ H' : Heap, H'[x_ad g a]? = some ((vp_cell (g.2.1.1 4) (nn, .inr (.inr (.inr (.inr (fun j => x_o g (f j))))))).setSlot i.toNatClampNeg (x_rv g v)) → H'.size = H.size → (∀ q, q ≠ x_ad g a → H'[q]? = H[q]?) → W p l e R s m args below meth c H' (locs ++ [⟨x_ad g a, i.toNatClampNeg⟩]) cells slots Q (F0 m (pc + 1) ls (st.map (x_v g))) := by
    intro H1 e z oq
    refine K1 H1 _ ls cells slots (x_S_set hS ha hh z oq ?_) hl hc hn
    show H1[x_ad g a]? = some (vp_cell (g.2.1.1 4) (nn, .inr (.inr (.inr (.inr (fun j => x_o g (va_up f i.toNatClampNeg v j)))))))
    rw [e, vp_cell_q, vp_cell_q, arrV_store]
    congr 2
    funext q
    by_cases hq : q = i.toNatClampNeg
    · subst hq
      simp [updV, va_up, x_rf]
    · simp [updV, va_up, hq]
  rcases hv with rfl | ⟨fs, hfs⟩
  · exact va_WaastN (C := "MossRings$Rule") C.1.1 C.1.2.1 (hP (a - 4) _ he) ((hK.2 4 _ rfl).1 nn (fun j => va_rf (x_o g (f j)))) (fun h => by cases h) (by show ¬ (i < 0 ∨ (arrV _ _ _).slots.size ≤ _); rw [arrV_size]; exact hb) rfl rfl d fin
  · obtain ⟨hv4, hvv⟩ := hObj_at hfs
    rw [x_rv_pos hv4] at fin ⊢
    have hlt : i.toNatClampNeg < nn := Nat.not_le.mp fun q => hb (Or.inr q)
    have h0 : ¬ i < 0 := fun q => hb (Or.inl q)
    obtain ⟨r', hr', cellV, g1, g2, g3, -⟩ := hP (v - 4) _ (x_wd_at (g := g) hv4 hvv)
    have hcls := (hK.1 1 (RX1, TX1, 5) rfl).2
    obtain ⟨kA, comp, k1, k2, k3, -⟩ := (hK.2 4 _ rfl).2
    have hcomp : comp = g.2.1.2.1 1 := Option.some.inj (k3.symm.trans hcls.1)
    subst hcomp
    obtain ⟨kC, hkC, -⟩ := hcls.2
    exact W.aast C.1.1 C.1.2.1 (hP (a - 4) _ he) (fun q h => by cases h) (fun h => by cases h) k1 k2 rfl hkC ⟨h0, by show _ < (arrV _ _ _).slots.size; rw [arrV_size]; exact hlt⟩ g1 (fun q h => by rw [g3] at h; cases h) (by rw [g2]; exact hkC) (by rw [g2]; exact va_assign hcls) rfl rfl d fin
theorem x_alen (C : x_C g p s m args c cc own nL Ts) {a : Nat} {β : Type} {F : Int32 → Option β} {res : β} (hf : (aN h a).bind F = some res) (d : decode cc pc = .ok (.arraylength, 1)) (e1 : pc + 1 = pc') (K : ∀ x, aN h a = some x → F x = some res → XW g p l e R s m args below meth c Q nL k n h pc' lv (vI x :: st)) : XW g p l e R s m args below meth c Q nL k n h pc lv (vR a :: st) := by
  subst e1
  obtain ⟨x, hx, hf⟩ := bind_some hf
  have K1 := K x hx hf
  intro H locs ls cells slots hS hl hc hn
  have K1 := K1 H locs ls cells slots hS hl hc hn
  show W p l e R s m args below meth c H locs cells slots Q (F0 m pc ls (x_rv g a :: st.map (x_v g)))
  unfold aN at hx
  split at hx
  · rename_i tg nn f hh
    split at hx
    case isFalse => cases hx
    rename_i ht
    cases hx
    by_cases ha : 4 ≤ a
    · rw [x_rv_pos ha]
      have ht3 : tg = 0 ∨ tg = 1 ∨ tg = 2 := by omega
      rcases ht3 with rfl | rfl | rfl
      · exact va_alen (D := g.2.1.2) (cl := x_cl) (tys := x_ty g) C.1.1 C.1.2.1 C.2.1.1 hS.1.2.2 (a - 4) 0 (x_wd_at ha hh) rfl rfl d K1
      · exact va_alen (D := g.2.1.2) (cl := x_cl) (tys := x_ty g) C.1.1 C.1.2.1 C.2.1.1 hS.1.2.2 (a - 4) 1 (x_wd_at ha hh) rfl rfl d K1
      · exact va_alen (D := g.2.1.2) (cl := x_cl) (tys := x_ty g) C.1.1 C.1.2.1 C.2.1.1 hS.1.2.2 (a - 4) 2 (x_wd_at ha hh) rfl rfl d K1
    · obtain ⟨z1, z2, z3, z4, z5, z6⟩ := C.2.1.2.1
      have hold := x_old (g := g) (h := h) (a := a) (by omega) hS.1.1
      rw [hh] at hold
      have hn4 : a = 0 ∨ a = 1 ∨ a = 2 ∨ a = 3 := by omega
      rcases hn4 with rfl | rfl | rfl | rfl
      · simp [x_st] at hold
      · have e2 : nn = g.2.2.1 := by
          simp only [x_st, List.getElem?_cons_succ, List.getElem?_cons_zero, Option.some.injEq, Sum.inr.injEq, Sum.inl.injEq, Prod.mk.injEq] at hold
          exact hold.2.1
        subst e2
        exact va_slen C.1.1 C.1.2.1 z6 (Nat.lt_of_lt_of_le z5 C.2.2) (Nat.not_le.mpr z5) hS.2 d K1
      · have e2 : nn = 5 := by
          simp only [x_st, List.getElem?_cons_succ, List.getElem?_cons_zero, Option.some.injEq, Sum.inr.injEq, Sum.inl.injEq, Prod.mk.injEq] at hold
          exact hold.2.1
        subst e2
        exact va_tlen C.1.1 C.1.2.1 z2 hS.2 rfl d K1
      · have e2 : nn = 4 := by
          simp only [x_st, List.getElem?_cons_succ, List.getElem?_cons_zero, Option.some.injEq, Sum.inr.injEq, Sum.inl.injEq, Prod.mk.injEq] at hold
          exact hold.2.1
        subst e2
        exact va_tlen C.1.1 C.1.2.1 z4 hS.2 rfl d K1
  · rename_i nn f hh
    split at hx
    · cases hx
    · rename_i ha
      cases hx
      rw [x_rv_pos (by omega)]
      exact va_alen (D := g.2.1.2) (cl := x_cl) (tys := x_ty g) C.1.1 C.1.2.1 C.2.1.1 hS.1.2.2 (a - 4) 3 (x_wd_at (by omega) hh) rfl rfl d K1
  · rename_i nn f hh
    split at hx
    · cases hx
    · rename_i ha
      cases hx
      rw [x_rv_pos (by omega)]
      exact va_alen (D := g.2.1.2) (cl := x_cl) (tys := x_ty g) C.1.1 C.1.2.1 C.2.1.1 hS.1.2.2 (a - 4) 4 (x_wd_at (by omega) hh) rfl rfl d K1
  · cases hx
end XH

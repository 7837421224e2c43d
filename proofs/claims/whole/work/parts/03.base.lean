/-! My own picture: values, cells, a heap as a list. A reference is a place in the list: 0 is null, 1 the script, 2 and 3 the two static rows, from 4 on what was made since the law began, in the order of its making. -/
abbrev XV : Type := Int32 ⊕ (Int64 ⊕ Nat)
abbrev HC : Type := (Nat × List XV) ⊕ ((Nat × Nat × (Nat → Int32)) ⊕ ((Nat × (Nat → Int64)) ⊕ (Nat × (Nat → Nat))))
abbrev Hp : Type := List HC
abbrev vI (x : Int32) : XV := Sum.inl x
abbrev vL (x : Int64) : XV := Sum.inr (Sum.inl x)
abbrev vR (a : Nat) : XV := Sum.inr (Sum.inr a)
abbrev oC (ci : Nat) (fs : List XV) : HC := Sum.inl (ci, fs)
abbrev aC (tg n : Nat) (f : Nat → Int32) : HC := Sum.inr (Sum.inl (tg, n, f))
abbrev lC (n : Nat) (f : Nat → Int64) : HC := Sum.inr (Sum.inr (Sum.inl (n, f)))
abbrev rC (n : Nat) (f : Nat → Nat) : HC := Sum.inr (Sum.inr (Sum.inr (n, f)))
/-- the surroundings: where the law's cells begin, the old cells' addresses, the array classes, the classes, the script -/
abbrev XG : Type := (Nat × (Nat → Nat)) × ((Nat → ClassId) × va_G) × (Nat × (Nat → Int32))
def x_cl : List vw_C := vwCl ++ [("java/util/NoSuchElementException", fun _ => ("", "", "", false), 0)]
def x_ad (g : XG) (a : Nat) : Nat := if a < 4 then g.1.2 a else g.1.1 + (a - 4)
def x_rv (g : XG) (a : Nat) : Value := if a = 0 then .null else .ref (x_ad g a)
def x_o (g : XG) (a : Nat) : Option Nat := if a = 0 then none else some (x_ad g a)
def x_v (g : XG) (v : XV) : Value := match v with
  | Sum.inl x => .int x
  | Sum.inr (Sum.inl x) => .long x
  | Sum.inr (Sum.inr a) => x_rv g a
def x_tr (g : XG) (c : HC) : va_E := match c with
  | Sum.inl (ci, fs) => .inr (ci, fs.map (x_v g))
  | Sum.inr (Sum.inl (tg, n, f)) => .inl (g.2.1.1 tg, n, .inl f)
  | Sum.inr (Sum.inr (Sum.inl (n, f))) => .inl (g.2.1.1 3, n, .inr (.inl f))
  | Sum.inr (Sum.inr (Sum.inr (n, f))) => .inl (g.2.1.1 4, n, .inr (.inr (.inr (.inr (fun j => x_o g (f j))))))
def x_wd (g : XG) (h : Hp) : va_W := (h.drop 4).mapIdx (fun i c => (g.1.1 + i, x_tr g c))
def x_ty (g : XG) : List (ClassId × FieldType) := [(g.2.1.1 0, .int), (g.2.1.1 1, .byte), (g.2.1.1 2, .boolean), (g.2.1.1 3, .long), (g.2.1.1 4, .object "MossRings$Rule")]
def x_mw (j : Nat) : Int32 := if j = 2 then 4 else if j = 3 then 3 else if j = 4 then 2 else 0
def x_lk (j : Nat) : Int32 := if j = 0 then 32 else if j = 1 then 256 else if j = 2 then 2048 else 20000
def x_st (g : XG) : Hp := [oC 99 [], aC 0 g.2.2.1 g.2.2.2, aC 0 5 x_mw, aC 0 4 x_lk]
def x_A (g : XG) : Nat → Prop := fun q => g.1.1 ≤ q
def x_nest : List Cond := [.methodLinkNest "MossRings$Rule" 22 ⟨"MossRings", "power", "(II)I"⟩ "MossRings", .fieldLinkNest "MossRings$Sets" 43 "MossRings$Rule" "states" "I" "MossRings", .fieldLinkNest "MossRings$Trail" 47 "MossRings$Rule" "states" "I" "MossRings", .fieldLinkNest "MossRings$Walks" 47 "MossRings$Rule" "states" "I" "MossRings", .fieldLinkNest "MossRings$Pairs" 51 "MossRings$Rule" "states" "I" "MossRings", .fieldLinkNest "MossRings" 87 "MossRings$Rule" "states" "I" "MossRings", .fieldLinkNest "MossRings$Walks" 36 "MossRings$Rule" "width" "I" "MossRings", .fieldLinkNest "MossRings" 90 "MossRings$Rule" "width" "I" "MossRings", .fieldLinkNest "MossRings$Pairs" 23 "MossRings$Rule" "words" "I" "MossRings", .fieldLinkNest "MossRings$Sets" 60 "MossRings$Rule" "words" "I" "MossRings", .fieldLinkNest "MossRings" 100 "MossRings$Rule" "words" "I" "MossRings", .fieldLinkNest "MossRings$Sets" 28 "MossRings$Rule" "nodes" "I" "MossRings", .fieldLinkNest "MossRings$Walks" 27 "MossRings$Rule" "nodes" "I" "MossRings", .fieldLinkNest "MossRings$Pairs" 48 "MossRings$Rule" "nodes" "I" "MossRings", .fieldLinkNest "MossRings" 154 "MossRings$Trail" "roundLength" "I" "MossRings"]
/-- what holds of the old cells -/
def x_St (g : XG) (U : State) (H : Heap) : Prop :=
  va_Z "MossRings" "MOST_WIDTH" "[I" (.ref (g.1.2 2)) (x_A g) U H ∧ va_T .int (g.1.2 2) 5 (fun j => .int (x_mw j)) (x_A g) U H ∧ va_Z "MossRings$Trail" "LOOKS" "[I" (.ref (g.1.2 3)) (x_A g) U H ∧ va_T .int (g.1.2 3) 4 (fun j => .int (x_lk j)) (x_A g) U H ∧ g.1.2 1 < g.1.1 ∧ va_X (g.1.2 1) g.2.2.1 g.2.2.2 U H
/-- the heap as the picture has it -/
def x_H (g : XG) (h : Hp) (H : Heap) : Prop := h.take 4 = x_st g ∧ H.size = g.1.1 + (h.length - 4) ∧ va_P g.2.1.2 x_cl (x_wd g h) H
/-- what a method of the system takes as given -/
def x_U (g : XG) (h : Hp) (U : State) : Prop := x_H g h U.heap ∧ va_K g.2.1.2 x_cl (x_ty g) U ∧ x_St g U U.heap ∧ (∀ w ∈ x_nest, va_Nw w U) ∧ va_AO "MossRings$Rule" U ∧ va_Nw (.castable "[I" "java/lang/Cloneable") U
def x_Q (g : XG) (r : Option XV) (h : Hp) : Array Value → State → Outcome → State → Prop := fun _ st oc t => oc = .returned (r.map (x_v g)) ∧ x_H g h t.heap ∧ va_F (x_A g) st t
/-- a method's contract at these arguments and this heap -/
def XM (l : Launch) (g : XG) (y : MethodName) (ws : List Cond) (fr lo mc ms : Nat) (as : List XV) (h : Hp) (r : Option XV) (h' : Hp) : Prop :=
  Met l y ws { frames := fr, cells := mc, slots := ms, locals := lo } (va_Pc (as.map (x_v g)) (x_U g h)) (x_Q g r h') mc ms (x_A g)
/-- the fixed facts of a method's body -/
def x_C (g : XG) (p : Program) (s : State) (m : MethodId) (args : Array Value) (c : Code) (cc : ByteArray) (own : String) (nL : Nat) (Ts : List Cond) : Prop :=
  (p.tables.exec = Jvm.exec ∧ c.code = cc ∧ c.maxLocals = nL ∧ s.vm.findClass own = some m.cls ∧ ∀ w ∈ Ts, w.before args s = true) ∧ (va_K g.2.1.2 x_cl (x_ty g) s ∧ x_St g s s.heap ∧ (∀ w ∈ x_nest, va_Nw w s) ∧ va_AO "MossRings$Rule" s ∧ va_Nw (.castable "[I" "java/lang/Cloneable") s) ∧ g.1.1 ≤ s.heap.size
def x_S (g : XG) (s : State) (h : Hp) (H : Heap) (locs : List Loc) : Prop := x_H g h H ∧ va_S (x_A g) s.heap H locs
def x_L (g : XG) (ls : Array Slot) (nL : Nat) (lv : List (Option XV)) : Prop := ls.size = nL ∧ lv_wf ls ∧ ∀ (i : Nat) (v : XV), lv[i]? = some (some v) → ls[i]? = some (.val (x_v g v))
def XW (g : XG) (p : Program) (l : Launch) (e : Env) (R : Room) (s : State) (m : MethodId) (args : Array Value) (below : List Frame) (meth : Method) (c : Code) (Q : State → Prop) (nL k n : Nat) (h : Hp) (pc : Nat) (lv : List (Option XV)) (st : List XV) : Prop :=
  ∀ (H : Heap) (locs : List Loc) (ls : Array Slot) (cells slots : Nat), x_S g s h H locs → x_L g ls nL lv → cells + k ≤ R.cells → slots + n ≤ R.slots → W p l e R s m args below meth c H locs cells slots Q (F0 m pc ls (st.map (x_v g)))
-- ===== what the functions of the methods are made of =====
def hObj (h : Hp) (a ci : Nat) : Option (List XV) := if a < 4 then none else match h[a]? with
  | some (Sum.inl (c, fs)) => if c = ci then some fs else none
  | _ => none
def gV (h : Hp) (a ci k : Nat) : Option XV := (hObj h a ci).bind fun fs => fs[k]?
def gI (h : Hp) (a ci k : Nat) : Option Int32 := match gV h a ci k with
  | some (Sum.inl x) => some x
  | _ => none
def gR (h : Hp) (a ci k : Nat) : Option Nat := match gV h a ci k with
  | some (Sum.inr (Sum.inr x)) => some x
  | _ => none
def pF (h : Hp) (a ci k : Nat) (v : XV) : Option Hp := (hObj h a ci).bind fun fs => if k < fs.length then some (h.set a (oC ci (fs.set k v))) else none
def hArr (h : Hp) (a tg : Nat) : Option (Nat × (Nat → Int32)) := match h[a]? with
  | some (Sum.inr (Sum.inl (t, n, f))) => if t = tg then some (n, f) else none
  | _ => none
def inB (i : Int32) (n : Nat) : Bool := decide (0 ≤ i) && decide (i.toNatClampNeg < n)
def aI (h : Hp) (a tg : Nat) (i : Int32) : Option Int32 := (hArr h a tg).bind fun q => if inB i q.1 then some (q.2 i.toNatClampNeg) else none
def x_nar (tg : Nat) (x : Int32) : Int32 := if tg = 0 then x else if tg = 1 then vp_nar .byte x else vp_nar .boolean x
def sI (h : Hp) (a tg : Nat) (i x : Int32) : Option Hp := if a < 4 then none else (hArr h a tg).bind fun q => if inB i q.1 then some (h.set a (aC tg q.1 (upd q.2 i.toNatClampNeg (x_nar tg x)))) else none
def hLng (h : Hp) (a : Nat) : Option (Nat × (Nat → Int64)) := if a < 4 then none else match h[a]? with
  | some (Sum.inr (Sum.inr (Sum.inl q))) => some q
  | _ => none
def aL (h : Hp) (a : Nat) (i : Int32) : Option Int64 := (hLng h a).bind fun q => if inB i q.1 then some (q.2 i.toNatClampNeg) else none
def sL (h : Hp) (a : Nat) (i : Int32) (x : Int64) : Option Hp := (hLng h a).bind fun q => if inB i q.1 then some (h.set a (lC q.1 (vp_updL q.2 i.toNatClampNeg x))) else none
def hRow (h : Hp) (a : Nat) : Option (Nat × (Nat → Nat)) := if a < 4 then none else match h[a]? with
  | some (Sum.inr (Sum.inr (Sum.inr q))) => some q
  | _ => none
def aR (h : Hp) (a : Nat) (i : Int32) : Option Nat := (hRow h a).bind fun q => if inB i q.1 then some (q.2 i.toNatClampNeg) else none
def sR (h : Hp) (a : Nat) (i : Int32) (v : Nat) : Option Hp := (hRow h a).bind fun q => if inB i q.1 ∧ (v = 0 ∨ (hObj h v 1).isSome) then some (h.set a (rC q.1 (va_up q.2 i.toNatClampNeg v))) else none
def aN (h : Hp) (a : Nat) : Option Int32 := match h[a]? with
  | some (Sum.inr (Sum.inl (t, n, _))) => if t < 3 then some (Int32.ofNat n) else none
  | some (Sum.inr (Sum.inr (Sum.inl (n, _)))) => if a < 4 then none else some (Int32.ofNat n)
  | some (Sum.inr (Sum.inr (Sum.inr (n, _)))) => if a < 4 then none else some (Int32.ofNat n)
  | _ => none
def mkA (h : Hp) (tg cap : Nat) (n : Int32) {β : Type} (K : Nat → Hp → Option β) : Option β := if n < 0 ∨ cap < n.toNatClampNeg then none else K h.length (h ++ [aC tg n.toNatClampNeg (fun _ => 0)])
def mkL (h : Hp) (cap : Nat) (n : Int32) {β : Type} (K : Nat → Hp → Option β) : Option β := if n < 0 ∨ cap < n.toNatClampNeg then none else K h.length (h ++ [lC n.toNatClampNeg (fun _ => 0)])
def mkR (h : Hp) (cap : Nat) (n : Int32) {β : Type} (K : Nat → Hp → Option β) : Option β := if n < 0 ∨ cap < n.toNatClampNeg then none else K h.length (h ++ [rC n.toNatClampNeg (fun _ => 0)])
def mkO (h : Hp) (ci : Nat) (fs : List XV) {β : Type} (K : Nat → Hp → Option β) : Option β := K h.length (h ++ [oC ci fs])
def iDiv (x y : Int32) {β : Type} (K : Int32 → Option β) : Option β := if y = 0 then none else K (x / y)
def iRem (x y : Int32) {β : Type} (K : Int32 → Option β) : Option β := if y = 0 then none else K (x - x / y * y)
-- ===== plain facts =====
theorem inB_in {i : Int32} {n : Nat} (h : inB i n = true) : vp_in i n := by
  simp only [inB, Bool.and_eq_true, decide_eq_true_eq] at h
  intro q
  rcases q with q | q
  · exact absurd h.1 (by rw [Int32.not_le]; exact q)
  · omega
theorem bind_some {α β : Type} {x : Option α} {K : α → Option β} {r : β} (h : x.bind K = some r) : ∃ v, x = some v ∧ K v = some r := by
  cases x with
  | none => cases h
  | some v => exact ⟨v, rfl, h⟩
theorem hObj_at {h : Hp} {a ci : Nat} {fs : List XV} (q : hObj h a ci = some fs) : 4 ≤ a ∧ h[a]? = some (oC ci fs) := by
  unfold hObj at q
  split at q
  · cases q
  · split at q
    · split at q
      · rename_i h1 _ c fs' h2 h3
        cases q
        subst h3
        exact ⟨by omega, h2⟩
      · cases q
    · cases q
theorem hArr_at {h : Hp} {a tg : Nat} {q : Nat × (Nat → Int32)} (e : hArr h a tg = some q) : h[a]? = some (aC tg q.1 q.2) := by
  unfold hArr at e
  split at e
  · split at e
    · rename_i h2 h3
      cases e
      subst h3
      exact h2
    · cases e
  · cases e
theorem hLng_at {h : Hp} {a : Nat} {q : Nat × (Nat → Int64)} (e : hLng h a = some q) : 4 ≤ a ∧ h[a]? = some (lC q.1 q.2) := by
  unfold hLng at e
  split at e
  · cases e
  · split at e
    · rename_i h2
      cases e
      exact ⟨by omega, h2⟩
    · cases e
theorem hRow_at {h : Hp} {a : Nat} {q : Nat × (Nat → Nat)} (e : hRow h a = some q) : 4 ≤ a ∧ h[a]? = some (rC q.1 q.2) := by
  unfold hRow at e
  split at e
  · cases e
  · split at e
    · rename_i h2
      cases e
      exact ⟨by omega, h2⟩
    · cases e
theorem x_rf (g : XG) (a : Nat) : va_rf (x_o g a) = x_rv g a := by
  unfold x_o x_rv
  split <;> rfl
theorem x_wd_at {g : XG} {h : Hp} {a : Nat} {c : HC} (ha : 4 ≤ a) (hc : h[a]? = some c) : (x_wd g h)[a - 4]? = some (x_ad g a, x_tr g c) := by
  unfold x_wd
  rw [List.getElem?_mapIdx, List.getElem?_drop, show 4 + (a - 4) = a by omega, hc]
  simp [x_ad, Nat.not_lt.mpr ha]
theorem x_rv_pos {g : XG} {a : Nat} (ha : 4 ≤ a) : x_rv g a = .ref (x_ad g a) := by
  unfold x_rv
  rw [if_neg (by omega)]
theorem x_len {g : XG} {h : Hp} (e : h.take 4 = x_st g) : 4 ≤ h.length := by
  have h1 : (h.take 4).length = 4 := by rw [e]; rfl
  rw [List.length_take] at h1
  omega
theorem x_D (g : XG) (h : Hp) : va_D (x_A g) (x_wd g h) := by
  have key : ∀ (k : Nat) (q : Nat × va_E), (x_wd g h)[k]? = some q → q.1 = g.1.1 + k := by
    intro k q hk
    unfold x_wd at hk
    rw [List.getElem?_mapIdx] at hk
    cases hd : (h.drop 4)[k]? with
    | none => rw [hd] at hk; cases hk
    | some c => rw [hd] at hk; cases hk; rfl
  refine ⟨fun i j x y hi hj hxy => ?_, fun k q hk => ?_⟩
  · have := key i x hi; have := key j y hj; omega
  · show g.1.1 ≤ q.1
    rw [key k q hk]; omega
theorem x_wd_set {g : XG} {h : Hp} {a : Nat} {c : HC} (ha : 4 ≤ a) : x_wd g (h.set a c) = (x_wd g h).set (a - 4) (x_ad g a, x_tr g c) := by
  unfold x_wd
  apply List.ext_getElem?
  intro k
  rw [List.getElem?_mapIdx, List.getElem?_drop]
  by_cases e : k = a - 4
  · subst e
    rw [show 4 + (a - 4) = a by omega]
    by_cases hl : a < h.length
    · rw [List.getElem?_set_self hl, List.getElem?_set_self (by simp; omega)]
      simp [x_ad, Nat.not_lt.mpr ha]
    · rw [List.getElem?_eq_none (by simp; omega), List.getElem?_eq_none (by simp; omega)]
      rfl
  · rw [List.getElem?_set_ne (by omega), List.getElem?_set_ne (by omega), List.getElem?_mapIdx, List.getElem?_drop]
theorem x_wd_push {g : XG} {h : Hp} {c : HC} (hl : 4 ≤ h.length) : x_wd g (h ++ [c]) = x_wd g h ++ [(g.1.1 + (h.length - 4), x_tr g c)] := by
  unfold x_wd
  rw [List.drop_append_of_le_length hl, List.mapIdx_append]
  simp
theorem x_take_set {g : XG} {h : Hp} {a : Nat} {c : HC} (ha : 4 ≤ a) (e : h.take 4 = x_st g) : (h.set a c).take 4 = x_st g := by
  rw [List.take_set_of_le ha, e]
theorem x_take_push {g : XG} {h : Hp} {c : HC} (e : h.take 4 = x_st g) : (h ++ [c]).take 4 = x_st g := by
  rw [List.take_append_of_le_length (x_len e), e]

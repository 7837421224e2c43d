/-! Plain facts about the functions' building blocks, over natural numbers: nI n is the int n. -/
theorem l0 : (0 : Int32) = nI 0 := rfl
theorem l1 : (1 : Int32) = nI 1 := rfl
theorem l2 : (2 : Int32) = nI 2 := rfl
theorem cl_nI {n : Nat} (h : n < 2 ^ 31) : (nI n).toNatClampNeg = n := nI_clamp h
theorem nI_nn {n : Nat} (h : n < 2 ^ 31) : ¬ nI n < 0 := nI_pos h
theorem inB_nI {i n : Nat} (h : i < 2 ^ 31) : inB (nI i) n = decide (i < n) := by
  unfold inB
  rw [cl_nI h]
  have : decide (0 ≤ nI i) = true := decide_eq_true (nI_pos' h)
  rw [this, Bool.true_and]
theorem iRem_nI {a d : Nat} {β : Type} {K : Int32 → Option β} (ha : a < 2 ^ 31) (h0 : 0 < d) (hd : d < 2 ^ 31) : iRem (nI a) (nI d) K = K (nI (a % d)) := by
  unfold iRem
  rw [if_neg (nI_ne0 h0 hd), pk_rem ha h0 hd]
theorem iDiv_nI {a d : Nat} {β : Type} {K : Int32 → Option β} (ha : a < 2 ^ 31) (h0 : 0 < d) (hd : d < 2 ^ 31) : iDiv (nI a) (nI d) K = K (nI (a / d)) := by
  unfold iDiv
  rw [if_neg (nI_ne0 h0 hd), pk_div ha h0 hd]
theorem iMin_nI {a b : Nat} (ha : a < 2 ^ 31) (hb : b < 2 ^ 31) : iMin (nI a) (nI b) = nI (min a b) := by
  unfold iMin
  by_cases q : b < a
  · rw [if_pos ((nI_ltI hb ha).mpr q), Nat.min_eq_right (Nat.le_of_lt q)]
  · rw [if_neg (fun z => q ((nI_ltI hb ha).mp z)), Nat.min_eq_left (by omega)]
theorem iMax_nI {a b : Nat} (ha : a < 2 ^ 31) (hb : b < 2 ^ 31) : iMax (nI a) (nI b) = nI (max a b) := by
  unfold iMax
  by_cases q : a < b
  · rw [if_pos ((nI_ltI ha hb).mpr q), Nat.max_eq_right (Nat.le_of_lt q)]
  · rw [if_neg (fun z => q ((nI_ltI ha hb).mp z)), Nat.max_eq_left (by omega)]
theorem if_leI {a b : Nat} {β : Type} {A B : Option β} (ha : a < 2 ^ 31) (hb : b < 2 ^ 31) : (if nI a ≤ nI b then A else B) = if a ≤ b then A else B := by
  by_cases q : a ≤ b
  · rw [if_pos q, if_pos ((nI_leI ha hb).mpr q)]
  · rw [if_neg q, if_neg (fun z => q ((nI_leI ha hb).mp z))]
theorem if_ltI {a b : Nat} {β : Type} {A B : Option β} (ha : a < 2 ^ 31) (hb : b < 2 ^ 31) : (if nI a < nI b then A else B) = if a < b then A else B := by
  by_cases q : a < b
  · rw [if_pos q, if_pos ((nI_ltI ha hb).mpr q)]
  · rw [if_neg q, if_neg (fun z => q ((nI_ltI ha hb).mp z))]
theorem if_eqI {a b : Nat} {β : Type} {A B : Option β} (ha : a < 2 ^ 31) (hb : b < 2 ^ 31) : (if nI a = nI b then A else B) = if a = b then A else B := by
  by_cases q : a = b
  · rw [if_pos q, if_pos (by rw [q])]
  · rw [if_neg q, if_neg (fun z => q ((nI_eq ha hb).mp z))]
theorem gV_of {h : Hp} {a ci k : Nat} {fs : List XV} (h4 : 4 ≤ a) (e : h[a]? = some (oC ci fs)) : gV h a ci k = fs[k]? := by
  unfold gV hObj
  rw [if_neg (Nat.not_lt.mpr h4), e]
  simp
theorem gI_of {h : Hp} {a ci k : Nat} {fs : List XV} {x : Int32} (h4 : 4 ≤ a) (e : h[a]? = some (oC ci fs)) (hk : fs[k]? = some (vI x)) : gI h a ci k = some x := by
  unfold gI
  rw [gV_of h4 e, hk]
theorem gR_of {h : Hp} {a ci k : Nat} {fs : List XV} {x : Nat} (h4 : 4 ≤ a) (e : h[a]? = some (oC ci fs)) (hk : fs[k]? = some (vR x)) : gR h a ci k = some x := by
  unfold gR
  rw [gV_of h4 e, hk]
theorem hObj_of {h : Hp} {a ci : Nat} {fs : List XV} (h4 : 4 ≤ a) (e : h[a]? = some (oC ci fs)) : hObj h a ci = some fs := by
  unfold hObj
  rw [if_neg (Nat.not_lt.mpr h4), e]
  simp
theorem pF_of {h : Hp} {a ci k : Nat} {fs : List XV} {v : XV} (h4 : 4 ≤ a) (e : h[a]? = some (oC ci fs)) (hk : k < fs.length) : pF h a ci k v = some (h.set a (oC ci (fs.set k v))) := by
  unfold pF
  rw [hObj_of h4 e]
  show (if k < fs.length then _ else _) = _
  rw [if_pos hk]
theorem oK_of {h : Hp} {a ci : Nat} {fs : List XV} {β : Type} {x : Option β} (h4 : 4 ≤ a) (e : h[a]? = some (oC ci fs)) : oK h a ci x = x := by
  unfold oK
  rw [hObj_of h4 e]
  rfl
theorem hArr_of {h : Hp} {a tg n : Nat} {f : Nat → Int32} (e : h[a]? = some (aC tg n f)) : hArr h a tg = some (n, f) := by
  unfold hArr
  rw [e]
  simp
theorem aI_of {h : Hp} {a tg n i : Nat} {f : Nat → Int32} (e : h[a]? = some (aC tg n f)) (hi : i < n) (hn : n ≤ 2 ^ 31) : aI h a tg (nI i) = some (f i) := by
  unfold aI
  rw [hArr_of e]
  show (if inB (nI i) n = true then some (f (nI i).toNatClampNeg) else none) = some (f i)
  rw [inB_nI (by omega), cl_nI (by omega), if_pos (decide_eq_true hi)]
theorem sI_of {h : Hp} {a tg n i : Nat} {f : Nat → Int32} {x : Int32} (h4 : 4 ≤ a) (e : h[a]? = some (aC tg n f)) (hi : i < n) (hn : n ≤ 2 ^ 31) : sI h a tg (nI i) x = some (h.set a (aC tg n (upd f i (x_nar tg x)))) := by
  unfold sI
  rw [if_neg (Nat.not_lt.mpr h4), hArr_of e]
  show (if inB (nI i) n = true then some (h.set a (aC tg n (upd f (nI i).toNatClampNeg (x_nar tg x)))) else none) = _
  rw [inB_nI (by omega), cl_nI (by omega), if_pos (decide_eq_true hi)]
theorem aN_of {h : Hp} {a tg n : Nat} {f : Nat → Int32} (e : h[a]? = some (aC tg n f)) (ht : tg < 3) : aN h a = some (nI n) := by
  unfold aN
  rw [e]
  show (if tg < 3 then _ else _) = _
  rw [if_pos ht]
  rfl
theorem aN_ofL {h : Hp} {a n : Nat} {f : Nat → Int64} (h4 : 4 ≤ a) (e : h[a]? = some (lC n f)) : aN h a = some (nI n) := by
  unfold aN
  rw [e]
  show (if a < 4 then _ else _) = _
  rw [if_neg (by omega)]
  rfl
theorem hLng_of {h : Hp} {a n : Nat} {f : Nat → Int64} (h4 : 4 ≤ a) (e : h[a]? = some (lC n f)) : hLng h a = some (n, f) := by
  unfold hLng
  rw [if_neg (by omega), e]
theorem aL_of {h : Hp} {a n i : Nat} {f : Nat → Int64} (h4 : 4 ≤ a) (e : h[a]? = some (lC n f)) (hi : i < n) (hn : n ≤ 2 ^ 31) : aL h a (nI i) = some (f i) := by
  unfold aL
  rw [hLng_of h4 e]
  show (if inB (nI i) n = true then some (f (nI i).toNatClampNeg) else none) = some (f i)
  rw [inB_nI (by omega), cl_nI (by omega), if_pos (decide_eq_true hi)]
theorem sL_of {h : Hp} {a n i : Nat} {f : Nat → Int64} {x : Int64} (h4 : 4 ≤ a) (e : h[a]? = some (lC n f)) (hi : i < n) (hn : n ≤ 2 ^ 31) : sL h a (nI i) x = some (h.set a (lC n (vp_updL f i x))) := by
  unfold sL
  rw [hLng_of h4 e]
  show (if inB (nI i) n = true then some (h.set a (lC n (vp_updL f (nI i).toNatClampNeg x))) else none) = _
  rw [inB_nI (by omega), cl_nI (by omega), if_pos (decide_eq_true hi)]
theorem hRow_of {h : Hp} {a n : Nat} {f : Nat → Nat} (h4 : 4 ≤ a) (e : h[a]? = some (rC n f)) : hRow h a = some (n, f) := by
  unfold hRow
  rw [if_neg (by omega), e]
theorem aR_of {h : Hp} {a n i : Nat} {f : Nat → Nat} (h4 : 4 ≤ a) (e : h[a]? = some (rC n f)) (hi : i < n) (hn : n ≤ 2 ^ 31) : aR h a (nI i) = some (f i) := by
  unfold aR
  rw [hRow_of h4 e]
  show (if inB (nI i) n = true then some (f (nI i).toNatClampNeg) else none) = some (f i)
  rw [inB_nI (by omega), cl_nI (by omega), if_pos (decide_eq_true hi)]
theorem sR_of {h : Hp} {a n i v : Nat} {f : Nat → Nat} {fs : List XV} (h4 : 4 ≤ a) (e : h[a]? = some (rC n f)) (hi : i < n) (hn : n ≤ 2 ^ 31) (hv4 : 4 ≤ v) (hv : h[v]? = some (oC 1 fs)) : sR h a (nI i) v = some (h.set a (rC n (va_up f i v))) := by
  unfold sR
  rw [hRow_of h4 e]
  show (if inB (nI i) n = true ∧ (v = 0 ∨ (hObj h v 1).isSome = true) then some (h.set a (rC n (va_up f (nI i).toNatClampNeg v))) else none) = _
  rw [inB_nI (by omega), cl_nI (by omega), if_pos ⟨decide_eq_true hi, Or.inr (by rw [hObj_of hv4 hv]; rfl)⟩]
-- the heap: a cell written, others stay
theorem st_s {h : Hp} {a : Nat} {c0 c : HC} (e : h[a]? = some c0) : (h.set a c)[a]? = some c := List.getElem?_set_self (List.getElem?_eq_some_iff.mp e).1
theorem st_n {h : Hp} {a b : Nat} {c : HC} (hab : a ≠ b) : (h.set a c)[b]? = h[b]? := List.getElem?_set_ne hab
theorem st_n' {h : Hp} {a b : Nat} {c d : HC} (hab : a ≠ b) (e : h[b]? = some d) : (h.set a c)[b]? = some d := (List.getElem?_set_ne hab).trans e
theorem st_id {h : Hp} {a : Nat} {c : HC} (e : h[a]? = some c) : h.set a c = h := by
  apply List.ext_getElem?
  intro k
  by_cases q : k = a
  · subst q
    rw [st_s e, e]
  · rw [st_n (Ne.symm q)]
theorem st_p {h : Hp} {b : Nat} {c d : HC} (e : h[b]? = some d) : (h ++ [c])[b]? = some d := by
  rw [List.getElem?_append_left (List.getElem?_eq_some_iff.mp e).1, e]
theorem st_pn {h : Hp} {c : HC} : (h ++ [c])[h.length]? = some c := by simp
theorem upd_self {f : Nat → Int32} {i : Nat} {x : Int32} : upd f i x i = x := if_pos rfl
theorem upd_ne {f : Nat → Int32} {i j : Nat} {x : Int32} (h : j ≠ i) : upd f i x j = f j := if_neg h

/-! Sets of nodes as numbers; the search from the whole set. -/
theorem nI_or (a b : Nat) : nI a ||| nI b = nI (a ||| b) := by
  apply Int32.toBitVec_inj.mp
  show BitVec.ofNat 32 a ||| BitVec.ofNat 32 b = BitVec.ofNat 32 (a ||| b)
  apply BitVec.eq_of_getLsbD_eq
  intro i hi
  simp [hi]
theorem nI_shl : ∀ v, v < 9 → (1 : Int32) <<< (nI v &&& 31) = nI (2 ^ v) := by decide +kernel
theorem nI_tb : ∀ v, v < 9 → ∀ S, S < 512 → (((nI S >>> (nI v &&& 31)) &&& (1 : Int32)) = (1 : Int32) ↔ S.testBit v = true) := by decide +kernel
theorem nI_wh : ∀ m, m < 10 → ((((1 : Int32) <<< (nI m &&& 31)) - (1 : Int32)) &&& (511 : Int32)) = nI (2 ^ m - 1) := by decide +kernel
theorem nI_wh2 : ∀ m, m < 10 → (((1 : Int32) <<< (nI m &&& 31)) - (1 : Int32)) = nI (2 ^ m - 1) := by decide +kernel
def orS (f : Nat → Nat) : Nat → Nat
  | 0 => 0
  | n + 1 => orS f n ||| f n
theorem orS_cong {f g : Nat → Nat} : ∀ {n : Nat}, (∀ i, i < n → f i = g i) → orS f n = orS g n
  | 0, _ => rfl
  | n + 1, h => by rw [orS, orS, orS_cong (n := n) (fun i hi => h i (by omega)), h n (by omega)]
theorem orS_bit {f : Nat → Nat} {i : Nat} : ∀ n, (orS f n).testBit i = true ↔ ∃ j, j < n ∧ (f j).testBit i = true
  | 0 => by simp [orS]
  | n + 1 => by
    rw [orS, Nat.testBit_or, Bool.or_eq_true, orS_bit n]
    constructor
    · rintro (⟨j, h1, h2⟩ | h)
      · exact ⟨j, by omega, h2⟩
      · exact ⟨n, by omega, h⟩
    · rintro ⟨j, h1, h2⟩
      by_cases q : j = n
      · right; rw [← q]; exact h2
      · left; exact ⟨j, by omega, h2⟩
theorem orS_lt {f : Nat → Nat} {m : Nat} : ∀ n, (∀ i, i < n → f i < 2 ^ m) → orS f n < 2 ^ m
  | 0, _ => Nat.two_pow_pos m
  | n + 1, h => Nat.or_lt_two_pow (orS_lt n (fun i hi => h i (by omega))) (h n (by omega))
/-- the nodes behind u by a word that tells c -/
def fo1 (k m : Nat) (F : Nat → Nat) (c u : Nat) : Nat := orS (fun x => if F (u * k + x) = c then 2 ^ ((u * k + x) % m) else 0) k
/-- the nodes behind a set -/
def fo (k m : Nat) (F : Nat → Nat) (S c : Nat) : Nat := orS (fun u => if S.testBit u = true then fo1 k m F c u else 0) m
theorem fo1_lt {k m : Nat} {F : Nat → Nat} {c u : Nat} (hm : 0 < m) : fo1 k m F c u < 2 ^ m := orS_lt k fun i hi => by
  split
  · exact Nat.pow_lt_pow_right (by decide) (Nat.mod_lt _ hm)
  · exact Nat.two_pow_pos m
theorem fo_lt {k m : Nat} {F : Nat → Nat} {S c : Nat} (hm : 0 < m) : fo k m F S c < 2 ^ m := orS_lt m fun i hi => by
  split
  · exact fo1_lt hm
  · exact Nat.two_pow_pos m
theorem tb_if {p : Prop} [Decidable p] {a i : Nat} : (if p then 2 ^ a else 0).testBit i = true ↔ p ∧ a = i := by
  by_cases q : p
  · rw [if_pos q, Nat.testBit_two_pow]; simp [q]
  · rw [if_neg q]; simp [q]
theorem fo1_bit {k m : Nat} {F : Nat → Nat} {c u v : Nat} : (fo1 k m F c u).testBit v = true ↔ ∃ x, x < k ∧ F (u * k + x) = c ∧ (u * k + x) % m = v := by
  unfold fo1
  rw [orS_bit]
  simp only [tb_if]
theorem fo_bit {k m : Nat} {F : Nat → Nat} {S c v : Nat} : (fo k m F S c).testBit v = true ↔ ∃ u, u < m ∧ S.testBit u = true ∧ ∃ x, x < k ∧ F (u * k + x) = c ∧ (u * k + x) % m = v := by
  unfold fo
  rw [orS_bit]
  constructor
  · rintro ⟨u, h1, h2⟩
    by_cases q : S.testBit u = true
    · rw [if_pos q] at h2; exact ⟨u, h1, q, fo1_bit.mp h2⟩
    · rw [if_neg q] at h2; simp at h2
  · rintro ⟨u, h1, h2, h3⟩
    exact ⟨u, h1, by rw [if_pos h2]; exact fo1_bit.mpr h3⟩
/-- what the class learns: by place -/
def rchN (k m : Nat) (F : Nat → Nat) (p : Nat) : Nat → Nat := orS (fun w => if w / k * k + F w = p then 2 ^ (w % m) else 0)
theorem rch_fo1 {k r : Nat} {F : Nat → Nat} (g : GR k r F) {u c : Nat} (hu : u < k ^ (r - 1)) (hc : c < k) : rchN k (k ^ (r - 1)) F (u * k + c) (k ^ r) = fo1 k (k ^ (r - 1)) F c u := by
  obtain ⟨n1, n2, n3, n4, n5⟩ := g.nums
  obtain ⟨g1, g2, g3, g4, gF⟩ := id g
  apply Nat.eq_of_testBit_eq
  intro i
  rw [Bool.eq_iff_iff]
  unfold rchN
  rw [orS_bit, fo1_bit]
  simp only [tb_if]
  constructor
  · rintro ⟨w, h1, h2, h3⟩
    have hF := gF w h1
    have hd : w / k = u := by
      have e1 : (w / k * k + F w) / k = (u * k + c) / k := by rw [h2]
      rw [Nat.mul_comm, Nat.mul_add_div (by omega), Nat.div_eq_of_lt hF, Nat.mul_comm, Nat.mul_add_div (by omega), Nat.div_eq_of_lt hc] at e1
      omega
    have hw : u * k + w % k = w := by rw [← hd, Nat.mul_comm]; exact Nat.div_add_mod w k
    refine ⟨w % k, Nat.mod_lt _ (by omega), ?_, ?_⟩
    · rw [hw]; rw [hd] at h2; omega
    · rw [hw]; exact h3
  · rintro ⟨x, h1, h2, h3⟩
    refine ⟨u * k + x, ?_, ?_, h3⟩
    · rw [n4]
      have : (u + 1) * k ≤ k ^ (r - 1) * k := Nat.mul_le_mul_right k hu
      rw [Nat.succ_mul] at this
      omega
    · rw [show (u * k + x) / k = u by rw [Nat.mul_comm, Nat.mul_add_div (by omega), Nat.div_eq_of_lt h1]; omega, h2]
/-- an entry: a set, where it came from (a place of the line), by which cell -/
abbrev En : Type := Nat × Nat × Nat
def stsL (L : List En) : List Nat := L.map (fun e => e.1)
/-- the line behind s steps of the search -/
def bst (f : Nat → Nat → Nat) (k wh : Nat) : Nat → List En
  | 0 => [(wh, 0, 0)]
  | s + 1 => match (bst f k wh s)[s / k]? with
    | none => bst f k wh s
    | some e => if f e.1 (s % k) ∈ stsL (bst f k wh s) then bst f k wh s else bst f k wh s ++ [(f e.1 (s % k), s / k, s % k)]
section BS
variable {f : Nat → Nat → Nat} {k wh : Nat}
theorem bst_in {s : Nat} {e : En} (h : (bst f k wh s)[s / k]? = some e) : bst f k wh (s + 1) = if f e.1 (s % k) ∈ stsL (bst f k wh s) then bst f k wh s else bst f k wh s ++ [(f e.1 (s % k), s / k, s % k)] := by
  rw [bst, h]
theorem bst_more (s : Nat) : ∃ X, bst f k wh (s + 1) = bst f k wh s ++ X := by
  rw [bst]
  split
  · exact ⟨[], by simp⟩
  · split
    · exact ⟨[], by simp⟩
    · exact ⟨_, rfl⟩
theorem bst_pre {s : Nat} : ∀ t, ∃ X, bst f k wh (s + t) = bst f k wh s ++ X
  | 0 => ⟨[], by simp⟩
  | t + 1 => by
    obtain ⟨X, hX⟩ := bst_pre (s := s) t
    obtain ⟨Y, hY⟩ := bst_more (f := f) (k := k) (wh := wh) (s + t)
    exact ⟨X ++ Y, by rw [← Nat.add_assoc, hY, hX, List.append_assoc]⟩
theorem bst_get {s t j : Nat} {e : En} (h : s ≤ t) (hj : (bst f k wh s)[j]? = some e) : (bst f k wh t)[j]? = some e := by
  obtain ⟨X, hX⟩ := bst_pre (f := f) (k := k) (wh := wh) (s := s) (t - s)
  rw [Nat.add_sub_cancel' h] at hX
  rw [hX, List.getElem?_append_left (List.getElem?_eq_some_iff.mp hj).1, hj]
theorem stsL_get {L : List En} {x : Nat} : x ∈ stsL L ↔ ∃ (j : Nat) (e : En), L[j]? = some e ∧ e.1 = x := by
  unfold stsL
  rw [List.mem_map]
  constructor
  · rintro ⟨e, h1, h2⟩
    obtain ⟨j, hj⟩ := List.getElem?_of_mem h1
    exact ⟨j, e, hj, h2⟩
  · rintro ⟨j, e, h1, h2⟩
    exact ⟨e, List.mem_of_getElem? h1, h2⟩
/-- what holds of the line -/
def LOK (f : Nat → Nat → Nat) (k wh : Nat) (L : List En) : Prop := (L[0]? = some (wh, 0, 0)) ∧ (∀ (j : Nat) (e : En), L[j]? = some e → 0 < j → e.2.1 < j ∧ e.2.2 < k ∧ ∃ e' : En, L[e.2.1]? = some e' ∧ e.1 = f e'.1 e.2.2) ∧ (∀ (i j : Nat) (e e' : En), L[i]? = some e → L[j]? = some e' → e.1 = e'.1 → i = j)
theorem bst_ok (hk : 0 < k) : ∀ s, LOK f k wh (bst f k wh s)
  | 0 => by
    have h1 : ∀ j e, (bst f k wh 0)[j]? = some e → j = 0 := by
      intro j e h
      have := (List.getElem?_eq_some_iff.mp h).1
      simp only [bst, List.length_cons, List.length_nil] at this
      omega
    refine ⟨rfl, fun j e h hj => ?_, fun i j e e' h2 h3 _ => ?_⟩
    · have := h1 j e h; omega
    · rw [h1 i e h2, h1 j e' h3]
  | s + 1 => by
    obtain ⟨a1, a2, a3⟩ := bst_ok hk s
    rcases hq : (bst f k wh s)[s / k]? with _ | e0
    · have : bst f k wh (s + 1) = bst f k wh s := by rw [bst, hq]
      rw [this]
      exact ⟨a1, a2, a3⟩
    · rw [bst_in hq]
      have hlen := (List.getElem?_eq_some_iff.mp hq).1
      split
      · exact ⟨a1, a2, a3⟩
      · rename_i hni
        have spl : ∀ j e, (bst f k wh s ++ [(f e0.1 (s % k), s / k, s % k)])[j]? = some e → (bst f k wh s)[j]? = some e ∨ (j = (bst f k wh s).length ∧ e = (f e0.1 (s % k), s / k, s % k)) := by
          intro j e h
          by_cases q : j < (bst f k wh s).length
          · left; rwa [List.getElem?_append_left q] at h
          · right
            have := (List.getElem?_eq_some_iff.mp h).1
            rw [List.length_append, List.length_singleton] at this
            have hj : j = (bst f k wh s).length := by omega
            rw [hj, List.getElem?_append_right (Nat.le_refl _), Nat.sub_self] at h
            exact ⟨hj, (Option.some.inj h).symm⟩
        have old : ∀ {j e}, (bst f k wh s)[j]? = some e → (bst f k wh s ++ [(f e0.1 (s % k), s / k, s % k)])[j]? = some e := fun {j e} h => by
          rw [List.getElem?_append_left (List.getElem?_eq_some_iff.mp h).1, h]
        refine ⟨old a1, fun j e h hj => ?_, fun i j e e' h1 h2 h3 => ?_⟩
        · rcases spl j e h with h | ⟨rfl, rfl⟩
          · obtain ⟨b1, b2, e', b3, b4⟩ := a2 j e h hj
            exact ⟨b1, b2, e', old b3, b4⟩
          · exact ⟨hlen, Nat.mod_lt _ hk, e0, old hq, rfl⟩
        · rcases spl i e h1 with h1 | ⟨rfl, rfl⟩
          · rcases spl j e' h2 with h2 | ⟨rfl, rfl⟩
            · exact a3 i j e e' h1 h2 h3
            · exact absurd (stsL_get.mpr ⟨i, e, h1, h3⟩) hni
          · rcases spl j e' h2 with h2 | ⟨rfl, rfl⟩
            · exact absurd (stsL_get.mpr ⟨j, e', h2, h3.symm⟩) hni
            · rfl
theorem LOK.lt {L : List En} {M : Nat} (o : LOK f k wh L) (hf : ∀ S c, f S c < M) (hw : wh < M) {j : Nat} {e : En} (h : L[j]? = some e) : e.1 < M := by
  by_cases q : j = 0
  · subst q
    have := o.1.symm.trans h
    injection this with this
    rw [← this]; exact hw
  · obtain ⟨-, -, e', -, h4⟩ := o.2.1 j e h (by omega)
    rw [h4]; exact hf _ _
theorem LOK.len {L : List En} {M : Nat} (o : LOK f k wh L) (hf : ∀ S c, f S c < M) (hw : wh < M) : L.length ≤ M := by
  refine fb_holes M L.length (fun i => (L.getD i (0, 0, 0)).1) (fun i hi => ?_) (fun i j hij hj e => ?_)
  · exact o.lt hf hw (j := i) (by rw [List.getElem?_eq_getElem hi, List.getD_eq_getElem?_getD, List.getElem?_eq_getElem hi]; rfl)
  · have h1 : L[i]? = some (L.getD i (0, 0, 0)) := by rw [List.getElem?_eq_getElem (by omega), List.getD_eq_getElem?_getD, List.getElem?_eq_getElem (by omega)]; rfl
    have h2 : L[j]? = some (L.getD j (0, 0, 0)) := by rw [List.getElem?_eq_getElem hj, List.getD_eq_getElem?_getD, List.getElem?_eq_getElem hj]; rfl
    have := o.2.2 i j _ _ h1 h2 e
    omega
theorem LOK.more {L : List En} {M : Nat} (o : LOK f k wh L) (hf : ∀ S c, f S c < M) (hw : wh < M) {x : Nat} (hx : x < M) (hn : ¬ x ∈ stsL L) : L.length < M := by
  have hg : ∀ i, i < L.length → L[i]? = some (L.getD i (0, 0, 0)) := fun i hi => by rw [List.getElem?_eq_getElem hi, List.getD_eq_getElem?_getD, List.getElem?_eq_getElem hi]; rfl
  refine fb_holes M (L.length + 1) (fun i => if i < L.length then (L.getD i (0, 0, 0)).1 else x) (fun i hi => ?_) (fun i j hij hj e => ?_)
  · show (if i < L.length then (L.getD i (0, 0, 0)).1 else x) < M
    split
    · rename_i q; exact o.lt hf hw (hg i q)
    · exact hx
  · have e2 : (if i < L.length then (L.getD i (0, 0, 0)).1 else x) = (if j < L.length then (L.getD j (0, 0, 0)).1 else x) := e
    have hi : i < L.length := by omega
    rw [if_pos hi] at e2
    by_cases q : j < L.length
    · rw [if_pos q] at e2
      have := o.2.2 i j _ _ (hg i hi) (hg j q) e2
      omega
    · rw [if_neg q] at e2
      exact hn (stsL_get.mpr ⟨i, _, hg i hi, e2⟩)
/-- all steps done so far lead into the line -/
def Clo (f : Nat → Nat → Nat) (k wh s : Nat) : Prop := ∀ (h c : Nat) (e : En), c < k → h * k + c < s → (bst f k wh s)[h]? = some e → f e.1 c ∈ stsL (bst f k wh s)
theorem Clo.step {s : Nat} (hk : 0 < k) (hs : s / k < (bst f k wh s).length) (c : Clo f k wh s) : Clo f k wh (s + 1) := by
  intro h' c' e hc hlt he
  have hge : ∀ x, x ∈ stsL (bst f k wh s) → x ∈ stsL (bst f k wh (s + 1)) := fun x hx => by
    obtain ⟨j, e, h1, h2⟩ := stsL_get.mp hx
    exact stsL_get.mpr ⟨j, e, bst_get (Nat.le_succ s) h1, h2⟩
  have hh : h' ≤ s / k := (Nat.le_div_iff_mul_le hk).mpr (by omega)
  have he0 : (bst f k wh s)[h']? = some e := by
    obtain ⟨X, hX⟩ := bst_more (f := f) (k := k) (wh := wh) s
    rwa [hX, List.getElem?_append_left (by omega)] at he
  by_cases q : h' * k + c' < s
  · exact hge _ (c h' c' e hc q he0)
  · have hs2 : s = h' * k + c' := by omega
    have hd : s / k = h' := by rw [hs2, Nat.mul_comm, Nat.mul_add_div hk, Nat.div_eq_of_lt hc]; omega
    have hm : s % k = c' := by rw [hs2, Nat.mul_comm, Nat.mul_add_mod, Nat.mod_eq_of_lt hc]
    have he1 : (bst f k wh s)[s / k]? = some e := by rw [hd]; exact he0
    by_cases q2 : f e.1 c' ∈ stsL (bst f k wh s)
    · exact hge _ q2
    · rw [bst_in he1, hm, if_neg q2]
      unfold stsL
      simp
/-- the way to an entry of the line -/
def pth (L : List En) : Nat → Nat → List Nat
  | 0, _ => []
  | q + 1, j => if j = 0 then [] else match L[j]? with
    | none => []
    | some e => pth L q e.2.1 ++ [e.2.2]
/-- a row that none leads to, as the search finds it -/
def MisRow (f : Nat → Nat → Nat) (k wh : Nat) (y : List Nat) : Prop := ∃ (s j : Nat) (e : En), (bst f k wh s)[j]? = some e ∧ e.1 = 0 ∧ y = pth (bst f k wh s) j j
theorem pth_pre {L L' : List En} (o : LOK f k wh L) (hp : ∀ (j : Nat) (e : En), L[j]? = some e → L'[j]? = some e) : ∀ (q q' j : Nat) (e : En), L[j]? = some e → j ≤ q → j ≤ q' → pth L q j = pth L' q' j
  | 0, q', j, e, h, h1, h2 => by
    have : j = 0 := by omega
    subst this
    cases q' <;> simp [pth]
  | q + 1, q', j, e, h, h1, h2 => by
    by_cases hj : j = 0
    · subst hj
      cases q' <;> simp [pth]
    · obtain ⟨b1, b2, e', b3, b4⟩ := o.2.1 j e h (by omega)
      obtain ⟨q'', rfl⟩ : ∃ q'', q' = q'' + 1 := ⟨q' - 1, by omega⟩
      rw [pth, pth, if_neg hj, if_neg hj, h, hp j e h]
      show pth L q e.2.1 ++ [e.2.2] = pth L' q'' e.2.1 ++ [e.2.2]
      rw [pth_pre o hp q q'' e.2.1 e' b3 (by omega) (by omega)]
theorem MisRow.one (hk : 0 < k) {y y' : List Nat} (h1 : MisRow f k wh y) (h2 : MisRow f k wh y') : y = y' := by
  have key : ∀ {s s' j j' : Nat} {e e' : En}, s ≤ s' → (bst f k wh s)[j]? = some e → e.1 = 0 → (bst f k wh s')[j']? = some e' → e'.1 = 0 → pth (bst f k wh s) j j = pth (bst f k wh s') j' j' := by
    intro s s' j j' e e' hs a1 a2 b1 b2
    have hj : j = j' := (bst_ok hk s').2.2 j j' e e' (bst_get hs a1) b1 (a2.trans b2.symm)
    subst hj
    exact pth_pre (bst_ok hk s) (fun j e h => bst_get hs h) j j j e a1 (Nat.le_refl _) (Nat.le_refl _)
  obtain ⟨s, j, e, a1, a2, rfl⟩ := h1
  obtain ⟨s', j', e', b1, b2, rfl⟩ := h2
  by_cases q : s ≤ s'
  · exact key q a1 a2 b1 b2
  · exact (key (by omega) b1 b2 a1 a2).symm
theorem pth_len {L : List En} (o : LOK f k wh L) : ∀ (q j : Nat) (e : En), L[j]? = some e → j ≤ q → (pth L q j).length ≤ j
  | 0, j, e, h, h1 => by simp [pth]
  | q + 1, j, e, h, h1 => by
    by_cases hj : j = 0
    · simp [pth, hj]
    · obtain ⟨b1, b2, e', b3, b4⟩ := o.2.1 j e h (by omega)
      rw [pth, if_neg hj, h]
      have := pth_len o q e.2.1 e' b3 (by omega)
      simp only [List.length_append, List.length_singleton]
      omega
theorem pth_ok {L : List En} (o : LOK f k wh L) : ∀ (q j : Nat) (e : En), L[j]? = some e → j ≤ q → okL k (pth L q j) ∧ e.1 = (pth L q j).foldl f wh
  | 0, j, e, h, h1 => by
    have : j = 0 := by omega
    subst this
    have := o.1.symm.trans h
    injection this with this
    rw [← this]
    exact ⟨fun c hc => by simp [pth] at hc, rfl⟩
  | q + 1, j, e, h, h1 => by
    by_cases hj : j = 0
    · subst hj
      have := o.1.symm.trans h
      injection this with this
      rw [← this]
      refine ⟨fun c hc => by simp [pth] at hc, ?_⟩
      simp [pth]
    · obtain ⟨b1, b2, e', b3, b4⟩ := o.2.1 j e h (by omega)
      obtain ⟨c1, c2⟩ := pth_ok o q e.2.1 e' b3 (by omega)
      rw [pth, if_neg hj, h]
      refine ⟨okL_app c1 (fun c hc => by rw [List.mem_singleton] at hc; rw [hc]; exact b2), ?_⟩
      show e.1 = (pth L q e.2.1 ++ [e.2.2]).foldl f wh
      rw [List.foldl_append, ← c2, b4]
      rfl
end BS

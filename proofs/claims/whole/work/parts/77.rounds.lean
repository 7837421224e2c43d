section RN
variable {M : Nat} {nx : Nat → Nat}
theorem pls_stop {s : Nat} (h : (pls M nx s).2[s]? = none) : ∀ t, pls M nx (s + t) = pls M nx s
  | 0 => rfl
  | t + 1 => by
    have ih := pls_stop h t
    rw [← Nat.add_assoc, pls, ih]
    have h1 : (pls M nx s).2[s + t]? = none := by
      rw [List.getElem?_eq_none_iff] at h ⊢
      omega
    rw [h1]
theorem PV.back (hM : ∀ x, x < M → nx x < M) {s : Nat} (p : PV M nx s) : ∀ i, i ≤ s → PV M nx i
  | 0, _ => PV.z hM
  | i + 1, hi => by
    have pi := PV.back hM p i (by omega)
    rcases hx : (pls M nx i).2[i]? with _ | x
    · have h1 := pls_stop hx (s - i)
      rw [show i + (s - i) = s by omega] at h1
      have h2 := p.1
      rw [h1] at h2
      rw [List.getElem?_eq_none_iff] at hx
      omega
    · exact pi.st hM hx
/-- the end of the peeling is one -/
theorem PV.one {s t : Nat} (p : PV M nx s) (hs : (pls M nx s).2.length = s) (q : PV M nx t) (ht : (pls M nx t).2.length = t) : s = t := by
  have key : ∀ {s t : Nat}, s < t → (pls M nx s).2.length = s → (pls M nx t).2.length = t → False := by
    intro s t h hs ht
    have h1 := pls_stop (s := s) (M := M) (nx := nx) (by rw [List.getElem?_eq_none_iff]; omega) (t - s)
    rw [show s + (t - s) = t by omega] at h1
    rw [h1] at ht
    omega
  rcases Nat.lt_trichotomy s t with h | h | h
  · exact (key h hs ht).elim
  · exact h
  · exact (key h ht hs).elim
/-- what a peeled ring leads to is peeled behind it, or not at all -/
theorem PV.order (hM : ∀ x, x < M → nx x < M) {s i j x : Nat} (p : PV M nx s) (hi : i < s) (hx : (pls M nx s).2[i]? = some x) (hj : (pls M nx s).2[j]? = some (nx x)) : i < j := by
  have pi := p.back hM i (by omega)
  have pi1 := p.back hM (i + 1) (by omega)
  have hget : ∀ {a y : Nat}, (pls M nx s).2[a]? = some y → a < (pls M nx i).2.length → (pls M nx i).2[a]? = some y := by
    intro a y h1 h2
    have h3 := pls_get (M := M) (nx := nx) (s := i) (j := a) (s - i) (List.getElem?_eq_getElem h2)
    rw [show i + (s - i) = s by omega, h1] at h3
    rw [List.getElem?_eq_getElem h2, ← h3]
  have hlen : i < (pls M nx i).2.length := by
    rcases Nat.lt_or_ge i (pls M nx i).2.length with h | h
    · exact h
    · have h1 := pls_stop (s := i) (M := M) (nx := nx) (by rw [List.getElem?_eq_none_iff]; exact h) 1
      have h2 := pi1.1
      rw [h1] at h2
      omega
  have hxi := hget hx hlen
  have hpos := pi.pos hxi
  rcases Nat.lt_or_ge i j with h | h
  · exact h
  · have h1 := hget hj (by omega)
    have h2 := List.mem_of_getElem? h1
    have h3 := (pi.2.2.2.2 _ (pi.2.2.1 _ h2)).mp h2
    omega
def updB (f : Nat → Bool) (i : Nat) (v : Bool) : Nat → Bool := fun j => if j = i then v else f j
/-- a walk over the marked: what is left marked, how many were met -/
def wkS (nx : Nat → Nat) : Nat → (Nat → Bool) → Nat → Nat → (Nat → Bool) × Nat
  | 0, S, _, l => (S, l)
  | q + 1, S, x, l => if S x = true then wkS nx q (updB S x false) (nx x) (l + 1) else (S, l)
/-- behind i rings: what is left marked, how many rounds, the longest -/
def grS (M : Nat) (nx : Nat → Nat) (S0 : Nat → Bool) : Nat → (Nat → Bool) × Nat × Nat
  | 0 => (S0, 0, 0)
  | i + 1 => ((wkS nx M (grS M nx S0 i).1 i 0).1, if (wkS nx M (grS M nx S0 i).1 i 0).2 = 0 then (grS M nx S0 i).2.1 else (grS M nx S0 i).2.1 + 1, if (wkS nx M (grS M nx S0 i).1 i 0).2 = 0 then (grS M nx S0 i).2.2 else max (grS M nx S0 i).2.2 (wkS nx M (grS M nx S0 i).1 i 0).2)
theorem wkS_mono {x : Nat} : ∀ (q : Nat) (S : Nat → Bool) (y l : Nat), S x = false → (wkS nx q S y l).1 x = false
  | 0, S, y, l, h => h
  | q + 1, S, y, l, h => by
    unfold wkS
    split
    · refine wkS_mono q _ _ _ ?_
      unfold updB
      split
      · rfl
      · exact h
    · exact h
theorem wkS_at {q : Nat} {S : Nat → Bool} {x l : Nat} : (wkS nx (q + 1) S x l).1 x = false := by
  unfold wkS
  split
  · refine wkS_mono q _ _ _ ?_
    unfold updB
    rw [if_pos rfl]
  · rename_i h
    exact Bool.eq_false_iff.mpr h
theorem wkS_len : ∀ (q : Nat) (S : Nat → Bool) (y l : Nat), (wkS nx q S y l).2 ≤ l + q
  | 0, S, y, l => by unfold wkS; exact Nat.le_refl _
  | q + 1, S, y, l => by
    unfold wkS
    split
    · have := wkS_len q (updB S y false) (nx y) (l + 1)
      omega
    · show l ≤ l + (q + 1)
      omega
theorem grS_le {S0 : Nat → Bool} : ∀ i, (grS M nx S0 i).2.1 ≤ i ∧ (grS M nx S0 i).2.2 ≤ M
  | 0 => ⟨Nat.le_refl _, Nat.zero_le _⟩
  | i + 1 => by
    obtain ⟨h1, h2⟩ := grS_le (S0 := S0) i
    have h3 := wkS_len (nx := nx) M (grS M nx S0 i).1 i 0
    constructor
    · show (if (wkS nx M (grS M nx S0 i).1 i 0).2 = 0 then (grS M nx S0 i).2.1 else (grS M nx S0 i).2.1 + 1) ≤ i + 1
      split <;> omega
    · show (if (wkS nx M (grS M nx S0 i).1 i 0).2 = 0 then (grS M nx S0 i).2.2 else max (grS M nx S0 i).2.2 (wkS nx M (grS M nx S0 i).1 i 0).2) ≤ M
      split
      · exact h2
      · exact Nat.max_le.mpr ⟨h2, by omega⟩
theorem grS_done {S0 : Nat → Bool} (hM : 0 < M) : ∀ i x, x < i → (grS M nx S0 i).1 x = false
  | 0, x, h => by omega
  | i + 1, x, h => by
    show (wkS nx M (grS M nx S0 i).1 i 0).1 x = false
    by_cases q : x = i
    · obtain ⟨m, rfl⟩ : ∃ m, M = m + 1 := ⟨M - 1, by omega⟩
      rw [q]; exact wkS_at
    · exact wkS_mono M _ _ _ (grS_done hM i x (by omega))
/-- heights, from the last of the queue to the first; the greatest -/
def hgS (nx : Nat → Nat) : List Nat → (Nat → Nat) × Nat
  | [] => (fun _ => 0, 0)
  | x :: l => (updN (hgS nx l).1 x ((hgS nx l).1 (nx x) + 1), max (hgS nx l).2 ((hgS nx l).1 (nx x) + 1))
theorem hgS_le : ∀ (l : List Nat) (x : Nat), (hgS nx l).1 x ≤ l.length ∧ (hgS nx l).2 ≤ l.length
  | [], x => ⟨Nat.zero_le _, Nat.zero_le _⟩
  | y :: l, x => by
    have h1 := hgS_le l
    refine ⟨?_, ?_⟩
    · show updN (hgS nx l).1 y ((hgS nx l).1 (nx y) + 1) x ≤ l.length + 1
      by_cases q : x = y
      · rw [q, updN_self]; have := (h1 (nx y)).1; omega
      · rw [updN_ne q]; have := (h1 x).1; omega
    · show max _ _ ≤ l.length + 1
      have a := (h1 (nx y)).1
      have b := (h1 x).2
      exact Nat.max_le.mpr ⟨by omega, by omega⟩
theorem hgS_out : ∀ (l : List Nat) (x : Nat), ¬ x ∈ l → (hgS nx l).1 x = 0
  | [], _, _ => rfl
  | y :: l, x, h => by
    show updN (hgS nx l).1 y ((hgS nx l).1 (nx y) + 1) x = 0
    rw [updN_ne (fun z => h (by rw [z]; exact List.mem_cons_self)), hgS_out l x (fun z => h (List.mem_cons_of_mem y z))]
theorem drop_s {l : List Nat} {i x : Nat} (h : l[i]? = some x) : l.drop i = x :: l.drop (i + 1) := by
  obtain ⟨h1, h2⟩ := List.getElem?_eq_some_iff.mp h
  rw [List.drop_eq_getElem_cons h1, h2]
end RN

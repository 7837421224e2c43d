/-! All rings of a length: rings peeled off in the order of a queue. -/
def updN (f : Nat → Nat) (i v : Nat) : Nat → Nat := fun j => if j = i then v else f j
theorem updN_self {f : Nat → Nat} {i v : Nat} : updN f i v i = v := if_pos rfl
theorem updN_ne {f : Nat → Nat} {i v j : Nat} (h : j ≠ i) : updN f i v j = f j := if_neg h
/-- how many of M rings lead to x -/
def inN (M : Nat) (nx : Nat → Nat) (x : Nat) : Nat := sm (fun y => if nx y = x then 1 else 0) M
/-- the rings of the first m to which none leads, in their order -/
def lvs (M : Nat) (nx : Nat → Nat) : Nat → List Nat
  | 0 => []
  | m + 1 => if inN M nx m = 0 then lvs M nx m ++ [m] else lvs M nx m
/-- how many are left behind each ring, and the queue, behind s steps -/
def pls (M : Nat) (nx : Nat → Nat) : Nat → (Nat → Nat) × List Nat
  | 0 => (inN M nx, lvs M nx M)
  | s + 1 => match (pls M nx s).2[s]? with
    | none => pls M nx s
    | some x => (updN (pls M nx s).1 (nx x) ((pls M nx s).1 (nx x) - 1), if (pls M nx s).1 (nx x) - 1 = 0 then (pls M nx s).2 ++ [nx x] else (pls M nx s).2)
/-- how often x is led to from a list -/
def lcn (nx : Nat → Nat) (x : Nat) : List Nat → Nat
  | [] => 0
  | y :: l => (if nx y = x then 1 else 0) + lcn nx x l
theorem lcn_app {nx : Nat → Nat} {x : Nat} : ∀ (l m : List Nat), lcn nx x (l ++ m) = lcn nx x l + lcn nx x m
  | [], m => by simp [lcn]
  | y :: l, m => by simp only [List.cons_append, lcn]; rw [lcn_app l m]; omega
/-- a list without repeats counts no more than there are -/
theorem lcn_le {nx : Nat → Nat} {x M : Nat} {l : List Nat} (hd : l.Nodup) (hM : ∀ y ∈ l, y < M) : lcn nx x l ≤ inN M nx x := by
  have key : ∀ l : List Nat, l.Nodup → (∀ y ∈ l, y < M) → sm (fun y => if nx y = x ∧ y ∈ l then 1 else 0) M = lcn nx x l := by
    intro l
    induction l with
    | nil =>
      intro _ _
      rw [sm_cong (g := fun _ => 0) (fun i _ => by simp), sm_zero]
      rfl
    | cons a l ih =>
      intro hd hM
      obtain ⟨h1, h2⟩ := List.nodup_cons.mp hd
      have ha : a < M := hM a List.mem_cons_self
      have h3 := ih h2 (fun y hy => hM y (List.mem_cons_of_mem a hy))
      rw [lcn, ← h3, ← sm_one (f := fun y => if nx y = x then 1 else 0) ha, ← sm_add]
      refine sm_cong fun i _ => ?_
      by_cases q : a = i
      · subst q
        simp [h1]
      · rw [if_neg q, Nat.zero_add]
        by_cases q2 : nx i = x ∧ i ∈ l
        · rw [if_pos q2, if_pos ⟨q2.1, List.mem_cons_of_mem a q2.2⟩]
        · rw [if_neg q2, if_neg (fun z => q2 ⟨z.1, (List.mem_cons.mp z.2).elim (fun w => absurd w.symm q) id⟩)]
  rw [← key l hd hM]
  unfold inN
  refine sm_le fun i _ => ?_
  by_cases q : nx i = x ∧ i ∈ l
  · rw [if_pos q, if_pos q.1]; exact Nat.le_refl _
  · rw [if_neg q]; exact Nat.zero_le _
section PLS
variable {M : Nat} {nx : Nat → Nat}
theorem lvs_mem {x : Nat} : ∀ m, x ∈ lvs M nx m ↔ x < m ∧ inN M nx x = 0
  | 0 => by simp [lvs]
  | m + 1 => by
    unfold lvs
    split
    · rename_i q
      rw [List.mem_append, lvs_mem m, List.mem_singleton]
      constructor
      · rintro (⟨h1, h2⟩ | rfl)
        · exact ⟨by omega, h2⟩
        · exact ⟨by omega, q⟩
      · rintro ⟨h1, h2⟩
        by_cases q2 : x = m
        · exact Or.inr q2
        · exact Or.inl ⟨by omega, h2⟩
    · rename_i q
      rw [lvs_mem m]
      constructor
      · rintro ⟨h1, h2⟩; exact ⟨by omega, h2⟩
      · rintro ⟨h1, h2⟩
        have : x ≠ m := fun z => q (by rw [← z]; exact h2)
        exact ⟨by omega, h2⟩
theorem lvs_nd : ∀ m, (lvs M nx m).Nodup
  | 0 => by simp [lvs]
  | m + 1 => by
    unfold lvs
    split
    · rw [List.nodup_append]
      refine ⟨lvs_nd m, by simp, fun a ha b hb => ?_⟩
      rw [List.mem_singleton] at hb
      have := (lvs_mem m).mp ha
      omega
    · exact lvs_nd m
theorem lvs_len : ∀ m, (lvs M nx m).length ≤ m
  | 0 => by simp [lvs]
  | m + 1 => by
    have := lvs_len m
    unfold lvs
    split
    · rw [List.length_append, List.length_singleton]; omega
    · omega
/-- what holds of the peeling: s steps done, all of them in the queue -/
def PV (M : Nat) (nx : Nat → Nat) (s : Nat) : Prop := s ≤ (pls M nx s).2.length ∧ (pls M nx s).2.Nodup ∧ (∀ x ∈ (pls M nx s).2, x < M) ∧ (∀ x, (pls M nx s).1 x + lcn nx x ((pls M nx s).2.take s) = inN M nx x) ∧ ∀ x, x < M → (x ∈ (pls M nx s).2 ↔ (pls M nx s).1 x = 0)
theorem PV.z (hM : ∀ x, x < M → nx x < M) : PV M nx 0 := by
  refine ⟨Nat.zero_le _, lvs_nd M, fun x hx => ((lvs_mem M).mp hx).1, fun x => ?_, fun x hx => ?_⟩
  · rw [List.take_zero]; rfl
  · show x ∈ lvs M nx M ↔ inN M nx x = 0
    rw [lvs_mem]
    exact ⟨fun h => h.2, fun h => ⟨hx, h⟩⟩
theorem pls_in {s x : Nat} (h : (pls M nx s).2[s]? = some x) : pls M nx (s + 1) = (updN (pls M nx s).1 (nx x) ((pls M nx s).1 (nx x) - 1), if (pls M nx s).1 (nx x) - 1 = 0 then (pls M nx s).2 ++ [nx x] else (pls M nx s).2) := by
  rw [pls, h]
theorem take_s {l : List Nat} {s x : Nat} (h : l[s]? = some x) : l.take (s + 1) = l.take s ++ [x] := by
  rw [List.take_add_one, h]
  rfl
/-- where a step goes to, there is one left before -/
theorem PV.pos {s x : Nat} (p : PV M nx s) (h : (pls M nx s).2[s]? = some x) : 1 ≤ (pls M nx s).1 (nx x) := by
  obtain ⟨p1, p2, p3, p4, p5⟩ := p
  have h1 := lcn_le (nx := nx) (x := nx x) (M := M) (l := (pls M nx s).2.take (s + 1)) (List.Sublist.nodup (List.take_sublist _ _) p2) (fun y hy => p3 y (List.mem_of_mem_take hy))
  rw [take_s h, lcn_app] at h1
  have h2 := p4 (nx x)
  simp only [lcn, if_pos] at h1
  omega
theorem PV.st {s x : Nat} (hM : ∀ x, x < M → nx x < M) (p : PV M nx s) (h : (pls M nx s).2[s]? = some x) : PV M nx (s + 1) := by
  have hpos := p.pos h
  obtain ⟨p1, p2, p3, p4, p5⟩ := id p
  have hlen := (List.getElem?_eq_some_iff.mp h).1
  have hxM : nx x < M := hM x (p3 x (List.mem_of_getElem? h))
  have hnin : ¬ nx x ∈ (pls M nx s).2 := fun z => by have := (p5 _ hxM).mp z; omega
  unfold PV
  rw [pls_in h]
  have hcount : ∀ z, updN (pls M nx s).1 (nx x) ((pls M nx s).1 (nx x) - 1) z + (lcn nx z ((pls M nx s).2.take s) + lcn nx z [x]) = inN M nx z := by
    intro z
    have h4 := p4 z
    by_cases q : z = nx x
    · rw [q, updN_self]
      rw [q] at h4
      simp only [lcn, if_pos]
      omega
    · rw [updN_ne q]
      simp only [lcn, if_neg (Ne.symm q)]
      omega
  by_cases q0 : (pls M nx s).1 (nx x) - 1 = 0
  · simp only [if_pos q0]
    refine ⟨?_, ?_, ?_, fun z => ?_, fun z hz => ?_⟩
    · rw [List.length_append, List.length_singleton]; omega
    · rw [List.nodup_append]
      refine ⟨p2, by simp, fun a ha b hb => ?_⟩
      rw [List.mem_singleton] at hb
      intro e
      rw [e, hb] at ha
      exact hnin ha
    · intro z hz
      rw [List.mem_append, List.mem_singleton] at hz
      rcases hz with hz | rfl
      · exact p3 z hz
      · exact hxM
    · rw [List.take_append_of_le_length (by omega), take_s h, lcn_app]
      exact hcount z
    · rw [List.mem_append, List.mem_singleton, p5 z hz]
      by_cases q : z = nx x
      · rw [q, updN_self]
        exact ⟨fun _ => q0, fun _ => Or.inr rfl⟩
      · rw [updN_ne q]
        exact ⟨fun w => w.elim id (fun v => absurd v q), Or.inl⟩
  · simp only [if_neg q0]
    refine ⟨by omega, p2, p3, fun z => ?_, fun z hz => ?_⟩
    · rw [take_s h, lcn_app]
      exact hcount z
    · rw [p5 z hz]
      by_cases q : z = nx x
      · rw [q, updN_self]
        exact ⟨fun w => by omega, fun w => absurd w q0⟩
      · rw [updN_ne q]
theorem PV.le {s : Nat} (p : PV M nx s) : (pls M nx s).2.length ≤ M := by
  obtain ⟨-, p2, p3, -⟩ := p
  refine fb_holes M _ (fun i => (pls M nx s).2.getD i 0) (fun i hi => ?_) (fun i j hij hj e => ?_)
  · show (pls M nx s).2.getD i 0 < M
    rw [List.getD_eq_getElem?_getD, List.getElem?_eq_getElem hi]
    exact p3 _ (List.getElem_mem hi)
  · have e2 : (pls M nx s).2.getD i 0 = (pls M nx s).2.getD j 0 := e
    have hi : i < (pls M nx s).2.length := by omega
    rw [List.getD_eq_getElem?_getD, List.getElem?_eq_getElem hi, List.getD_eq_getElem?_getD, List.getElem?_eq_getElem hj] at e2
    have e3 : (pls M nx s).2[i]? = (pls M nx s).2[j]? := by rw [List.getElem?_eq_getElem hi, List.getElem?_eq_getElem hj]; exact congrArg some e2
    have := (List.getElem?_inj hi p2).mp e3
    omega
theorem pls_more (s : Nat) : ∃ X, (pls M nx (s + 1)).2 = (pls M nx s).2 ++ X := by
  rw [pls]
  split
  · exact ⟨[], by simp⟩
  · rename_i x _
    show ∃ X, (if (pls M nx s).1 (nx x) - 1 = 0 then (pls M nx s).2 ++ [nx x] else (pls M nx s).2) = _
    split
    · exact ⟨_, rfl⟩
    · exact ⟨[], by simp⟩
theorem pls_get {s j x : Nat} : ∀ t, (pls M nx s).2[j]? = some x → (pls M nx (s + t)).2[j]? = some x
  | 0, h => h
  | t + 1, h => by
    have h1 := pls_get t h
    obtain ⟨X, hX⟩ := pls_more (M := M) (nx := nx) (s + t)
    rw [← Nat.add_assoc, hX, List.getElem?_append_left (List.getElem?_eq_some_iff.mp h1).1, h1]
end PLS

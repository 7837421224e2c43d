/-! Rules: what the class's Rule methods compute. -/
def mwN (k : Nat) : Nat := if k = 2 then 4 else if k = 3 then 3 else if k = 4 then 2 else 0
/-- a rule: k states, width r, table F -/
def GR (k r : Nat) (F : Nat → Nat) : Prop := 2 ≤ k ∧ k ≤ 4 ∧ 1 ≤ r ∧ r ≤ mwN k ∧ ∀ w, w < k ^ r → F w < k
def RuleAt (h : Hp) (a t k r : Nat) (F : Nat → Nat) : Prop := 4 ≤ a ∧ 4 ≤ t ∧ a ≠ t ∧ h[a]? = some (oC 1 [vI (nI k), vI (nI r), vI (nI (k ^ r)), vI (nI (k ^ (r - 1))), vR t]) ∧ ∃ f, h[t]? = some (aC 0 (k ^ r) f) ∧ ∀ w, w < k ^ r → f w = nI (F w)
theorem GR.cases {k r : Nat} {F : Nat → Nat} (g : GR k r F) : (k = 2 ∧ (r = 1 ∨ r = 2 ∨ r = 3 ∨ r = 4)) ∨ (k = 3 ∧ (r = 1 ∨ r = 2 ∨ r = 3)) ∨ (k = 4 ∧ (r = 1 ∨ r = 2)) := by
  obtain ⟨h1, h2, h3, h4, -⟩ := g
  have hk : k = 2 ∨ k = 3 ∨ k = 4 := by omega
  rcases hk with rfl | rfl | rfl
  · have : mwN 2 = 4 := rfl
    omega
  · have : mwN 3 = 3 := rfl
    omega
  · have : mwN 4 = 2 := rfl
    omega
theorem GR.nums {k r : Nat} {F : Nat → Nat} (g : GR k r F) : k ^ r ≤ 27 ∧ k ^ (r - 1) ≤ 9 ∧ 1 ≤ k ^ (r - 1) ∧ k ^ r = k ^ (r - 1) * k ∧ r ≤ 4 := by
  rcases g.cases with ⟨rfl, rfl | rfl | rfl | rfl⟩ | ⟨rfl, rfl | rfl | rfl⟩ | ⟨rfl, rfl | rfl⟩ <;> decide
theorem RuleAt.set {h : Hp} {a t k r b : Nat} {F : Nat → Nat} {c : HC} (R : RuleAt h a t k r F) (hb : b ≠ a) (hb2 : b ≠ t) : RuleAt (h.set b c) a t k r F := by
  obtain ⟨h1, h2, h3, h4, f, h5, h6⟩ := R
  exact ⟨h1, h2, h3, st_n' hb h4, f, st_n' hb2 h5, h6⟩
theorem RuleAt.push {h : Hp} {a t k r : Nat} {F : Nat → Nat} {c : HC} (R : RuleAt h a t k r F) : RuleAt (h ++ [c]) a t k r F := by
  obtain ⟨h1, h2, h3, h4, f, h5, h6⟩ := R
  exact ⟨h1, h2, h3, st_p h4, f, st_p h5, h6⟩
section PR
variable {h : Hp} {a t k r : Nat} {F : Nat → Nat}
theorem rk (R : RuleAt h a t k r F) : gI h a 1 0 = some (nI k) := gI_of R.1 R.2.2.2.1 rfl
theorem rr (R : RuleAt h a t k r F) : gI h a 1 1 = some (nI r) := gI_of R.1 R.2.2.2.1 rfl
theorem rw9 (R : RuleAt h a t k r F) : gI h a 1 2 = some (nI (k ^ r)) := gI_of R.1 R.2.2.2.1 rfl
theorem rn (R : RuleAt h a t k r F) : gI h a 1 3 = some (nI (k ^ (r - 1))) := gI_of R.1 R.2.2.2.1 rfl
theorem rt (R : RuleAt h a t k r F) : gR h a 1 4 = some t := gR_of R.1 R.2.2.2.1 rfl
theorem rok (R : RuleAt h a t k r F) {β : Type} {x : Option β} : oK h a 1 x = x := oK_of R.1 R.2.2.2.1
theorem tells_ok (g : GR k r F) (R : RuleAt h a t k r F) {w : Nat} (hw : w < k ^ r) : fX1_tells h a (nI w) = some (nI (F w), h) := by
  obtain ⟨n1, n2, n3, n4, n5⟩ := g.nums
  obtain ⟨h1, h2, h3, h4, f, h5, h6⟩ := id R
  unfold fX1_tells
  rw [if_neg (nI_nn (by omega)), rt R]
  simp only [Option.bind_some]
  rw [aN_of h5 (by decide)]
  simp only [Option.bind_some]
  rw [if_leI (by omega) (by omega), if_neg (by omega), aI_of h5 hw (by omega), h6 w hw]
  rfl
/-- the word of r cells from place i on, round a ring of n -/
def wd (k : Nat) (c : Nat → Nat) (n : Nat) : Nat → Nat → Nat
  | 0, _ => 0
  | r + 1, i => wd k c n r i * k + c ((i + r) % n)
theorem wd_lt {k n : Nat} {c : Nat → Nat} (hc : ∀ i, i < n → c i < k) (hn : 0 < n) : ∀ r i, wd k c n r i < k ^ r
  | 0, _ => by simp [wd]
  | r + 1, i => by
    have h1 := wd_lt hc hn r i
    have h2 := hc _ (Nat.mod_lt (i + r) hn)
    unfold wd
    rw [Nat.pow_succ]
    have h3 : (wd k c n r i + 1) * k ≤ k ^ r * k := Nat.mul_le_mul_right k h1
    rw [Nat.succ_mul] at h3
    omega
theorem wd_split {k n : Nat} {c : Nat → Nat} : ∀ r i, wd k c n (r + 1) i = c (i % n) * k ^ r + wd k c n r (i + 1)
  | 0, i => by simp [wd]
  | r + 1, i => by
    have ih := wd_split (k := k) (n := n) (c := c) r i
    rw [wd, ih, wd, Nat.pow_succ, Nat.add_mul, Nat.mul_assoc, show i + 1 + r = i + (r + 1) by omega, Nat.add_assoc]
theorem wd_next {k n r : Nat} {c : Nat → Nat} (hc : ∀ i, i < n → c i < k) (hn : 0 < n) (hr : 1 ≤ r) (i : Nat) : wd k c n r i % k ^ (r - 1) = wd k c n (r - 1) (i + 1) := by
  obtain ⟨q, rfl⟩ : ∃ q, r = q + 1 := ⟨r - 1, by omega⟩
  rw [Nat.add_sub_cancel, wd_split, Nat.mul_comm, Nat.mul_add_mod, Nat.mod_eq_of_lt (wd_lt hc hn q (i + 1))]
/-- cells as a number to the base k -/
def cd (k : Nat) (d : Nat → Nat) : Nat → Nat
  | 0 => 0
  | n + 1 => cd k d n * k + d n
theorem cd_lt {k : Nat} {d : Nat → Nat} : ∀ n, (∀ i, i < n → d i < k) → cd k d n < k ^ n
  | 0, _ => by simp [cd]
  | n + 1, hd => by
    have h1 := cd_lt (d := d) n (fun i hi => hd i (by omega))
    have h2 := hd n (by omega)
    unfold cd
    rw [Nat.pow_succ]
    have h3 : (cd k d n + 1) * k ≤ k ^ n * k := Nat.mul_le_mul_right k h1
    rw [Nat.succ_mul] at h3
    omega
theorem cd_cong {k : Nat} {d d' : Nat → Nat} : ∀ n, (∀ i, i < n → d i = d' i) → cd k d n = cd k d' n
  | 0, _ => rfl
  | n + 1, hd => by rw [cd, cd, cd_cong n (fun i hi => hd i (by omega)), hd n (by omega)]
/-- what the first n cells of a row become -/
def fillN (f : Nat → Int32) (n : Nat) (g : Nat → Int32) : Nat → Int32 := fun j => if j < n then f j else g j
theorem fillN_0 {f g : Nat → Int32} : fillN f 0 g = g := by funext j; simp [fillN]
theorem fillN_s {f g : Nat → Int32} {n : Nat} : upd (fillN f n g) n (f n) = fillN f (n + 1) g := by
  funext j
  unfold upd fillN
  by_cases q : j = n
  · subst q; simp
  · by_cases q2 : j < n
    · simp [q, q2, show j < n + 1 by omega]
    · simp [q, q2, show ¬ j < n + 1 by omega]
theorem at_next {i n : Nat} (hn : 0 < n) : (if i % n + 1 < n then i % n + 1 else 0) = (i + 1) % n := by
  have h1 := Nat.mod_lt i hn
  by_cases q : i % n + 1 < n
  · rw [if_pos q, Nat.add_mod, Nat.mod_eq_of_lt (show 1 < n by omega), Nat.mod_eq_of_lt q]
  · rw [if_neg q]
    have e : i % n + 1 = n := by omega
    have h2 : (i + 1) % n = (i % n + 1) % n := by rw [Nat.add_mod, Nat.add_mod (i % n) 1, Nat.mod_mod]
    rw [h2, e, Nat.mod_self]
end PR

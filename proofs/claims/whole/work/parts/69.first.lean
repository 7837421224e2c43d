/-! The first repeat of a trail. -/
/-- j and i: the first two like ones -/
def FR (co : Nat → Nat) (j i : Nat) : Prop := j < i ∧ co j = co i ∧ ∀ a b, a < b → b < i → co a ≠ co b
theorem FR.one {co : Nat → Nat} {j i j' i' : Nat} (h : FR co j i) (h' : FR co j' i') : j = j' ∧ i = i' := by
  obtain ⟨a1, a2, a3⟩ := h
  obtain ⟨b1, b2, b3⟩ := h'
  have hi : i = i' := by
    have h1 : ¬ i < i' := fun z => b3 j i a1 z a2
    have h2 : ¬ i' < i := fun z => a3 j' i' b1 z b2
    omega
  subst hi
  refine ⟨?_, rfl⟩
  have h1 : ¬ j < j' := fun z => a3 j j' z b1 (a2.trans b2.symm)
  have h2 : ¬ j' < j := fun z => a3 j' j z a1 (b2.trans a2.symm)
  omega
theorem FR.of {co : Nat → Nat} {N : Nat} (h : ∃ a b, a < b ∧ b ≤ N ∧ co a = co b) : ∃ j i, i ≤ N ∧ FR co j i := by
  obtain ⟨a, b, h1, h2, h3⟩ := h
  obtain ⟨i, ⟨hi, j, hj, he⟩, hmin⟩ := pk_least (fun i => i ≤ N ∧ ∃ j, j < i ∧ co j = co i) ⟨b, h2, a, h1, h3⟩
  exact ⟨j, i, hi, hj, he, fun x y hxy hy e => hmin y hy ⟨by omega, x, hxy, e⟩⟩
section FF
variable {co : Nat → Nat}
theorem co_sh (hd : ∀ s t, co s = co t → co (s + 1) = co (t + 1)) : ∀ d s t, co s = co t → co (s + d) = co (t + d)
  | 0, _, _, h => h
  | d + 1, s, t, h => hd _ _ (co_sh hd d s t h)
theorem co_per (hd : ∀ s t, co s = co t → co (s + 1) = co (t + 1)) {m l : Nat} (h : co m = co (m + l)) (t : Nat) (ht : m ≤ t) : ∀ q, co (t + q * l) = co t
  | 0 => by rw [Nat.zero_mul, Nat.add_zero]
  | q + 1 => by
    have ih := co_per hd h t ht q
    have h1 := co_sh hd (t - m + q * l) m (m + l) h
    rw [show m + (t - m + q * l) = t + q * l by omega, show m + l + (t - m + q * l) = t + (q + 1) * l by rw [Nat.succ_mul]; omega] at h1
    rw [← h1, ih]
/-- a repeat not behind the last shows at the last -/
theorem FR.last (hd : ∀ s t, co s = co t → co (s + 1) = co (t + 1)) {j i la : Nat} (h : FR co j i) (hi : i ≤ la) : co (la - (i - j)) = co la := by
  have h1 := co_sh hd (la - i) j i h.2.1
  have := h.1
  rwa [show j + (la - i) = la - (i - j) by omega, show i + (la - i) = la by omega] at h1
/-- what the nearest like one and the first pair at its distance are -/
theorem FR.found (hd : ∀ s t, co s = co t → co (s + 1) = co (t + 1)) {j i la l x : Nat} (h : FR co j i) (hl : 1 ≤ l) (hla : l ≤ la) (hnear : ∀ l', 1 ≤ l' → l' < l → co (la - l') ≠ co la) (hx : x + l ≤ la) (hxe : co x = co (x + l)) (hfirst : ∀ y, y < x → co y ≠ co (y + l)) : x = j ∧ l = i - j := by
  obtain ⟨a1, a2, a3⟩ := id h
  have b1 : i ≤ x + l := by
    have : ¬ x + l < i := fun z => a3 x (x + l) (by omega) z hxe
    omega
  have b2 : l ≤ i - j := by
    have : ¬ i - j < l := fun z => hnear (i - j) (by omega) z (FR.last hd h (by omega))
    omega
  have b3 : l = i - j := by
    rcases Nat.lt_or_ge l (i - j) with z | z
    · exfalso
      by_cases q : x ≤ j
      · have e1 := co_sh hd (j - x) x (x + l) hxe
        rw [show x + (j - x) = j by omega, show x + l + (j - x) = j + l by omega] at e1
        exact a3 j (j + l) (by omega) (by omega) e1
      · have e0 : co j = co (j + (i - j)) := by rw [show j + (i - j) = i by omega]; exact a2
        have p1 := co_per hd e0 j (Nat.le_refl _) x
        have p2 := co_per hd e0 (j + l) (by omega) x
        have hxm : x ≤ x * (i - j) := Nat.le_mul_of_pos_right x (by omega)
        have e1 := co_sh hd (j + x * (i - j) - x) x (x + l) hxe
        rw [show x + (j + x * (i - j) - x) = j + x * (i - j) by omega, show x + l + (j + x * (i - j) - x) = j + l + x * (i - j) by omega, p1, p2] at e1
        exact a3 j (j + l) (by omega) (by omega) e1
    · omega
  refine ⟨?_, b3⟩
  have c1 : ¬ j < x := fun z => hfirst j z (by rw [b3, show j + (i - j) = i by omega]; exact a2)
  omega
end FF
/-- a ring of a trail as a number -/
def coN (k r : Nat) (F : Nat → Nat) (n : Nat) (c : Nat → Nat) (t : Nat) : Nat := cd k (gro k r F n c t) n
theorem wd_cong {k n : Nat} {c c' : Nat → Nat} (hn : 0 < n) (h : ∀ i, i < n → c i = c' i) : ∀ r i, wd k c n r i = wd k c' n r i
  | 0, _ => rfl
  | r + 1, i => by rw [wd, wd, wd_cong hn h r i, h _ (Nat.mod_lt _ hn)]
theorem coN_det {k r n : Nat} {F c : Nat → Nat} (g : GR k r F) (hn : 0 < n) (hc : ∀ i, i < n → c i < k) : ∀ s t, coN k r F n c s = coN k r F n c t → coN k r F n c (s + 1) = coN k r F n c (t + 1) := by
  intro s t h
  have h1 := cd_inj n (gro_lt g hn hc s) (gro_lt g hn hc t) h
  unfold coN
  refine cd_cong n fun i hi => ?_
  show F (wd k (gro k r F n c s) n r i) = F (wd k (gro k r F n c t) n r i)
  rw [wd_cong hn h1]
theorem coN_lt {k r n : Nat} {F c : Nat → Nat} (g : GR k r F) (hn : 0 < n) (hn2 : n ≤ 20) (hc : ∀ i, i < n → c i < k) (t : Nat) : coN k r F n c t < 2 ^ 41 := by
  have h1 := cd_lt n (gro_lt g hn hc t)
  have h2 := pow_40 g.2.1 hn2
  unfold coN
  omega

/-! Loops: a state that is a function of the counter. -/
theorem upto {β : Type} (P : Nat → Nat → Option β) (e : Nat) (out : Option β) (hs : ∀ n i, i < e → P (n + 1) i = P n (i + 1)) (hx : ∀ n, P (n + 1) e = out) : ∀ i fuel, i ≤ e → e - i < fuel → P fuel i = out := by
  intro i fuel hi hf
  generalize hd : e - i = d at hf
  induction d generalizing i fuel with
  | zero =>
    obtain ⟨f, rfl⟩ : ∃ f, fuel = f + 1 := ⟨fuel - 1, by omega⟩
    have : i = e := by omega
    subst this
    exact hx f
  | succ d ih =>
    obtain ⟨f, rfl⟩ : ∃ f, fuel = f + 1 := ⟨fuel - 1, by omega⟩
    rw [hs f i (by omega)]
    exact ih (i + 1) f (by omega) (by omega) (by omega)
/-- a search: none found -/
theorem scan_no {β : Type} (P : Nat → Nat → Option β) (e : Nat) (bad : Nat → Prop) (out : Option β) (hs : ∀ n i, i < e → ¬ bad i → P (n + 1) i = P n (i + 1)) (hx : ∀ n, P (n + 1) e = out) : ∀ i fuel, i ≤ e → e - i < fuel → (∀ j, i ≤ j → j < e → ¬ bad j) → P fuel i = out := by
  intro i fuel hi hf hb
  generalize hd : e - i = d at hf
  induction d generalizing i fuel with
  | zero =>
    obtain ⟨f, rfl⟩ : ∃ f, fuel = f + 1 := ⟨fuel - 1, by omega⟩
    have : i = e := by omega
    subst this
    exact hx f
  | succ d ih =>
    obtain ⟨f, rfl⟩ : ∃ f, fuel = f + 1 := ⟨fuel - 1, by omega⟩
    rw [hs f i (by omega) (hb i (Nat.le_refl _) (by omega))]
    exact ih (i + 1) f (by omega) (fun j h1 h2 => hb j (by omega) h2) (by omega) (by omega)
/-- a search: the first one is at j -/
theorem scan_at {β : Type} (P : Nat → Nat → Option β) (e : Nat) (bad : Nat → Prop) (o1 : Nat → Option β) (hs : ∀ n i, i < e → ¬ bad i → P (n + 1) i = P n (i + 1)) (hb : ∀ n i, i < e → bad i → P (n + 1) i = o1 i) : ∀ i fuel j, i ≤ j → j < e → bad j → (∀ q, i ≤ q → q < j → ¬ bad q) → e - i < fuel → P fuel i = o1 j := by
  intro i fuel j hij hje hbj hno hf
  generalize hd : j - i = d
  induction d generalizing i fuel with
  | zero =>
    obtain ⟨f, rfl⟩ : ∃ f, fuel = f + 1 := ⟨fuel - 1, by omega⟩
    have : i = j := by omega
    subst this
    exact hb f i hje hbj
  | succ d ih =>
    obtain ⟨f, rfl⟩ : ∃ f, fuel = f + 1 := ⟨fuel - 1, by omega⟩
    rw [hs f i (by omega) (hno i (Nat.le_refl _) (by omega))]
    exact ih (i + 1) f (by omega) (fun q h1 h2 => hno q (by omega) h2) (by omega) (by omega)
/-- whether all are good: the answer of a search that ends at the first bad one -/
theorem scan_all {β : Type} (P : Nat → Nat → Option β) (e : Nat) (bad : Nat → Prop) (o1 o2 : Option β) (hs : ∀ n i, i < e → ¬ bad i → P (n + 1) i = P n (i + 1)) (hb : ∀ n i, i < e → bad i → P (n + 1) i = o1) (hx : ∀ n, P (n + 1) e = o2) (i fuel : Nat) (hi : i ≤ e) (hf : e - i < fuel) : ((∀ j, i ≤ j → j < e → ¬ bad j) ∧ P fuel i = o2) ∨ ((∃ j, i ≤ j ∧ j < e ∧ bad j) ∧ P fuel i = o1) := by
  by_cases q : ∃ j, i ≤ j ∧ j < e ∧ bad j
  · right
    refine ⟨q, ?_⟩
    obtain ⟨j, ⟨h1, h2, h3⟩, hmin⟩ := pk_least (fun j => i ≤ j ∧ j < e ∧ bad j) q
    exact scan_at P e bad (fun _ => o1) hs hb i fuel j h1 h2 h3 (fun x a b c => hmin x b ⟨a, by omega, c⟩) hf
  · left
    have hno : ∀ j, i ≤ j → j < e → ¬ bad j := fun j a b c => q ⟨j, a, b, c⟩
    exact ⟨hno, scan_no P e bad o2 hs hx i fuel hi hf hno⟩
theorem downto {β : Type} (P : Nat → Nat → Option β) (out : Option β) (hs : ∀ n i, P (n + 1) (i + 1) = P n i) (hx : ∀ n, P (n + 1) 0 = out) : ∀ i fuel, i < fuel → P fuel i = out := by
  intro i
  induction i with
  | zero =>
    intro fuel hf
    obtain ⟨f, rfl⟩ : ∃ f, fuel = f + 1 := ⟨fuel - 1, by omega⟩
    exact hx f
  | succ i ih =>
    intro fuel hf
    obtain ⟨f, rfl⟩ : ∃ f, fuel = f + 1 := ⟨fuel - 1, by omega⟩
    rw [hs f i]
    exact ih f (by omega)
theorem downto' {β : Type} (P : Nat → Nat → Option β) (e : Nat) (out : Option β) (hs : ∀ n i, i < e → P (n + 1) (i + 1) = P n i) (hx : ∀ n, P (n + 1) 0 = out) : ∀ i fuel, i ≤ e → i < fuel → P fuel i = out := by
  intro i
  induction i with
  | zero =>
    intro fuel _ hf
    obtain ⟨f, rfl⟩ : ∃ f, fuel = f + 1 := ⟨fuel - 1, by omega⟩
    exact hx f
  | succ i ih =>
    intro fuel he hf
    obtain ⟨f, rfl⟩ : ∃ f, fuel = f + 1 := ⟨fuel - 1, by omega⟩
    rw [hs f i (by omega)]
    exact ih f (by omega) (by omega)
theorem fuel_big {n : Nat} (h : n < 100000) : n < FUEL := h
theorem nI_m1 (n : Nat) : nI (n + 1) + (-1) = nI n := pk_m1 n
theorem retZ1 (h : Hp) : retZ 1 h = some (1, h) := rfl
theorem retZ0 (h : Hp) : retZ 0 h = some (0, h) := rfl
-- powers
theorem power_ok {h : Hp} {k r : Nat} (hb : k ^ r < 2 ^ 31) (hk : 1 ≤ k) (hr : r < 1000) : fX6_power h (nI k) (nI r) = some (nI (k ^ r), h) := by
  unfold fX6_power
  have key := upto (fun n i => fX6_power_w4 n (nI k) (nI r) (nI (k ^ i)) (nI i) h) r (some (nI (k ^ r), h)) (fun n i hi => by
    rw [fX6_power_w4]
    simp only []
    rw [if_leI (by omega) (by omega), if_neg (by omega), setv_ok, pk_mul, nI_p1, ← Nat.pow_succ]) (fun n => by
    rw [fX6_power_w4]
    simp only []
    rw [if_leI (by omega) (by omega), if_pos (Nat.le_refl _)]) 0 FUEL (by omega) (fuel_big (by omega))
  rw [Nat.pow_zero] at key
  rw [l1, l0]
  exact key
theorem fill_ok {h : Hp} {a n : Nat} {f : Nat → Int32} {x : Int32} (h4 : 4 ≤ a) (hn : n < 90000) (e : h[a]? = some (aC 0 n f)) : fJ7_fill_53178 h a x = some (h.set a (aC 0 n (fillN (fun _ => x) n f))) := by
  unfold fJ7_fill_53178
  rw [aN_of e (by decide)]
  simp only [Option.bind_some]
  have key := upto (fun q i => fJ7_fill_53178_w5 q a x (nI i) (nI n) (h.set a (aC 0 n (fillN (fun _ => x) i f)))) n (some (h.set a (aC 0 n (fillN (fun _ => x) n f)))) (fun q i hi => by
    rw [fJ7_fill_53178_w5]
    simp only []
    rw [if_leI (by omega) (by omega), if_neg (by omega), sI_of h4 (st_s e) hi (by omega), x_nar0]
    simp only [Option.bind_some]
    rw [List.set_set, nI_p1, show upd (fillN (fun _ => x) i f) i x = fillN (fun _ => x) (i + 1) f from fillN_s (f := fun _ => x)]) (fun q => by
    rw [fJ7_fill_53178_w5]
    simp only []
    rw [if_leI (by omega) (by omega), if_pos (Nat.le_refl _)]) 0 FUEL (by omega) (fuel_big (by omega))
  rw [fillN_0, st_id e] at key
  rw [l0]
  exact key

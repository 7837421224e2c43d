theorem uptoE {β : Type} (w : Nat → Nat → Hp → Option β) (e : Nat) (J : Nat → Hp → Prop) (X : Hp → Prop) (o : Hp → Option β) (hs : ∀ n i h, i < e → J i h → (∃ h', w (n + 1) i h = w n (i + 1) h' ∧ J (i + 1) h') ∨ (∃ h', w (n + 1) i h = o h' ∧ X h')) : ∀ i fuel h, i ≤ e → e - i < fuel → J i h → (∃ f h', w fuel i h = w (f + 1) e h' ∧ J e h') ∨ (∃ h', w fuel i h = o h' ∧ X h') := by
  intro i fuel h hi hf hJ
  generalize hd : e - i = d at hf
  induction d generalizing i fuel h with
  | zero =>
    obtain ⟨f, rfl⟩ : ∃ f, fuel = f + 1 := ⟨fuel - 1, by omega⟩
    have : i = e := by omega
    subst this
    exact Or.inl ⟨f, h, rfl, hJ⟩
  | succ d ih =>
    obtain ⟨f, rfl⟩ : ∃ f, fuel = f + 1 := ⟨fuel - 1, by omega⟩
    rcases hs f i h (by omega) hJ with ⟨h', e1, J1⟩ | ⟨h', e1, X1⟩
    · rw [e1]
      exact ih (i + 1) f h' (by omega) J1 (by omega) (by omega)
    · exact Or.inr ⟨h', e1, X1⟩
-- digits and words
theorem cd_inj {k : Nat} {d d' : Nat → Nat} : ∀ n, (∀ i, i < n → d i < k) → (∀ i, i < n → d' i < k) → cd k d n = cd k d' n → ∀ i, i < n → d i = d' i
  | 0, _, _, _, i, hi => absurd hi (Nat.not_lt_zero i)
  | n + 1, h1, h2, e, i, hi => by
    have a1 := h1 n (by omega)
    have a2 := h2 n (by omega)
    unfold cd at e
    have e1 : d n = d' n := by
      have := congrArg (· % k) e
      simpa [Nat.mul_comm _ k, Nat.mul_add_mod, Nat.mod_eq_of_lt a1, Nat.mod_eq_of_lt a2] using this
    have e2 : cd k d n = cd k d' n := by
      rw [e1] at e
      exact Nat.eq_of_mul_eq_mul_right (show 0 < k by omega) (by omega)
    by_cases q : i = n
    · subst q; exact e1
    · exact cd_inj n (fun i hi => h1 i (by omega)) (fun i hi => h2 i (by omega)) e2 i (by omega)
theorem cd_dg {k : Nat} (hk : 0 < k) : ∀ n z, z < k ^ n → cd k (dg k n z) n = z
  | 0, z, h => by simp at h; simp [cd, h]
  | n + 1, z, h => by
    have h1 : z / k < k ^ n := Nat.div_lt_of_lt_mul (by rw [Nat.mul_comm, ← Nat.pow_succ]; exact h)
    have ih := cd_dg hk n (z / k) h1
    have e : cd k (dg k (n + 1) z) n = cd k (dg k n (z / k)) n := cd_cong n (fun i hi => by
      unfold dg
      rw [Nat.div_div_eq_div_mul, Nat.mul_comm, ← Nat.pow_succ, show (n - 1 - i).succ = n + 1 - 1 - i by omega])
    rw [cd, e, ih]
    unfold dg
    simp
    have := Nat.div_add_mod z k
    rw [Nat.mul_comm] at this
    exact this
theorem wd_mod {k n : Nat} {c : Nat → Nat} : ∀ r i, wd k c n r i = wd k c n r (i % n)
  | 0, _ => rfl
  | r + 1, i => by rw [wd, wd, wd_mod r i, Nat.mod_add_mod]
theorem wd_cat {k n : Nat} {c : Nat → Nat} (a : Nat) : ∀ b i, wd k c n (a + b) i = wd k c n a i * k ^ b + wd k c n b (i + a)
  | 0, i => by simp [wd]
  | b + 1, i => by
    rw [← Nat.add_assoc, wd, wd_cat a b i, wd, Nat.pow_succ, Nat.add_mul, Nat.mul_assoc, Nat.add_assoc, Nat.add_assoc]
theorem wd_win {k n L r j i : Nat} {c : Nat → Nat} (hc : ∀ i, i < n → c i < k) (hn : 0 < n) (hk : 0 < k) (h : j + r ≤ L) : wd k c n L i / k ^ (L - r - j) % k ^ r = wd k c n r (i + j) := by
  have e1 : wd k c n L i = wd k c n (j + r) i * k ^ (L - r - j) + wd k c n (L - r - j) (i + (j + r)) := by
    rw [← wd_cat, show j + r + (L - r - j) = L by omega]
  have b1 := wd_lt hc hn (L - r - j) (i + (j + r))
  rw [e1, Nat.mul_comm, Nat.mul_add_div (Nat.pow_pos hk), Nat.div_eq_of_lt b1, Nat.add_zero, wd_cat j r i, Nat.mul_comm, Nat.mul_add_mod, Nat.mod_eq_of_lt (wd_lt hc hn r (i + j))]
/-- the cell d of the row x of L cells -/
theorem dg_wd {k n L d i : Nat} {c : Nat → Nat} (hc : ∀ i, i < n → c i < k) (hn : 0 < n) (hk : 0 < k) (h : d < L) : dg k L (wd k c n L i) d = c ((i + d) % n) := by
  have := wd_win (r := 1) (j := d) (L := L) (i := i) hc hn hk (by omega)
  rw [Nat.pow_one] at this
  unfold dg
  rw [show L - 1 - d = L - 1 - d from rfl, this]
  simp [wd]
/-- a rule of width w tells cell d of each row of r + w - 1 cells -/
def TB (k r : Nat) (F : Nat → Nat) (w d : Nat) : Prop := ∀ x x', x < k ^ (r + w - 1) → x' < k ^ (r + w - 1) → imN k r F w x = imN k r F w x' → dg k (r + w - 1) x d = dg k (r + w - 1) x' d
/-- a rule that is turned back makes every word -/
theorem TB_all {k r : Nat} {F : Nat → Nat} {w d : Nat} (g : GR k r F) (hw : 1 ≤ w) (hd : d < r + w - 1) (tb : TB k r F w d) : ∀ y, y < k ^ w → ∃ x, x < k ^ (r + w - 1) ∧ imN k r F w x = y := by
  obtain ⟨g1, g2, g3, g4, gF⟩ := id g
  have hk : 0 < k := by omega
  have hc : ∀ z i, i < w → dg k w z i < k := fun z i _ => dg_lt hk
  have hX : ∀ z i, wd k (dg k w z) w (r + w - 1) i < k ^ (r + w - 1) := fun z i => wd_lt (hc z) (by omega) _ _
  have him : ∀ z i, imN k r F w (wd k (dg k w z) w (r + w - 1) i) = cd k (fun j => F (wd k (dg k w z) w r (i + j))) w := fun z i => by
    unfold imN
    refine cd_cong w (fun j hj => ?_)
    have := wd_win (r := r) (j := j) (L := r + w - 1) (i := i) (hc z) (by omega) hk (by omega)
    rw [show r + w - 1 - r - j = w - 1 - j by omega] at this
    rw [this]
  have hFl : ∀ z i, F (wd k (dg k w z) w r i) < k := fun z i => gF _ (wd_lt (hc z) (by omega) r i)
  have inj : ∀ z z', z < z' → z' < k ^ w → cd k (fun j => F (wd k (dg k w z) w r j)) w ≠ cd k (fun j => F (wd k (dg k w z') w r j)) w := by
    intro z z' hzz hz' e
    have e1 := cd_inj w (fun i _ => hFl z i) (fun i _ => hFl z' i) e
    have e2 : ∀ i, F (wd k (dg k w z) w r i) = F (wd k (dg k w z') w r i) := fun i => by
      rw [wd_mod r i, wd_mod (c := dg k w z') r i]
      exact e1 _ (Nat.mod_lt _ (by omega))
    have e3 : ∀ i, dg k w z ((i + d) % w) = dg k w z' ((i + d) % w) := fun i => by
      have h1 := tb _ _ (hX z i) (hX z' i) (by rw [him, him]; exact cd_cong w (fun j _ => e2 (i + j)))
      rw [dg_wd (hc z) (by omega) hk hd, dg_wd (hc z') (by omega) hk hd] at h1
      exact h1
    have e4 : ∀ i, i < w → dg k w z i = dg k w z' i := fun i hi => by
      have h1 := e3 (i + w * d - d)
      have h2 : (i + w * d - d + d) % w = i := by
        have : d ≤ w * d := Nat.le_mul_of_pos_left d (by omega)
        rw [show i + w * d - d + d = i + w * d by omega, Nat.add_mul_mod_self_left, Nat.mod_eq_of_lt hi]
      rw [h2] at h1
      exact h1
    have e5 : z = z' := by
      rw [← cd_dg hk w z (by omega), ← cd_dg hk w z' hz']
      exact cd_cong w e4
    omega
  intro y hy
  obtain ⟨z, hz, e⟩ := fb_onto (n := k ^ w) (f := fun z => cd k (fun j => F (wd k (dg k w z) w r j)) w) (fun z _ => cd_lt w (fun i _ => hFl z i)) inj hy
  refine ⟨wd k (dg k w z) w (r + w - 1) 0, hX z 0, ?_⟩
  rw [him, ← e]
  exact cd_cong w (fun j _ => by rw [Nat.zero_add])
/-- the table of the rule that turns back -/
def bkG (k r : Nat) (F : Nat → Nat) (w d y : Nat) : Nat := dg k (r + w - 1) (plN (imN k r F w) y (k ^ (r + w - 1))) d
theorem bkG_of {k r : Nat} {F : Nat → Nat} {w d x : Nat} (tb : TB k r F w d) (hx : x < k ^ (r + w - 1)) : bkG k r F w d (imN k r F w x) = dg k (r + w - 1) x d := by
  obtain ⟨h1, h2⟩ := plN_at (tp := imN k r F w) (v := imN k r F w x) (n := k ^ (r + w - 1)) ⟨x, hx, rfl⟩
  exact tb _ _ h1 hx h2

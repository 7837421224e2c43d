section BL
variable {k r : Nat} {F : Nat → Nat}
theorem word_lt (g : GR k r F) {u x : Nat} (hu : u < k ^ (r - 1)) (hx : x < k) : u * k + x < k ^ r := by
  rw [g.nums.2.2.2.1]; exact wlt hu hx
theorem word_div (g : GR k r F) {u x : Nat} (hx : x < k) : (u * k + x) / k = u := by
  rw [Nat.mul_comm, Nat.mul_add_div (by have := g.1; omega), Nat.div_eq_of_lt hx, Nat.add_zero]
theorem word_up (g : GR k r F) {u x : Nat} (hu : u < k ^ (r - 1)) (hx : x < k) : u + x * k ^ (r - 1) < k ^ r ∧ (u + x * k ^ (r - 1)) % k ^ (r - 1) = u := by
  constructor
  · rw [g.nums.2.2.2.1, Nat.mul_comm (k ^ (r - 1)) k, Nat.add_comm]
    exact wlt (k := k ^ (r - 1)) hx hu
  · rw [Nat.add_mul_mod_self_right, Nat.mod_eq_of_lt hu]
theorem pair_div (g : GR k r F) {u v : Nat} (hv : v < k ^ (r - 1)) : (u * k ^ (r - 1) + v) / k ^ (r - 1) = u ∧ (u * k ^ (r - 1) + v) % k ^ (r - 1) = v := pr_div hv
/-- pairs of nodes that live make pairs of words that live -/
theorem loses_M (g : GR k r F) (h : LosesNo k r F) : LosesM k (k ^ (r - 1)) F := by
  have hm : 0 < k ^ (r - 1) := g.nums.2.2.1
  have hk : 0 < k := by have := g.1; omega
  have n4 := g.nums.2.2.2.1
  intro P hP p hp
  refine Classical.byContradiction fun hd => ?_
  -- with all pairs of one node
  have hQ : SelfS k r F (fun a b => (a < k ^ r ∧ b < k ^ r ∧ F a = F b) ∧ (P (a / k * k ^ (r - 1) + b / k) ∨ a / k = b / k) ∧ (P (a % k ^ (r - 1) * k ^ (r - 1) + b % k ^ (r - 1)) ∨ a % k ^ (r - 1) = b % k ^ (r - 1))) := by
    rintro a b ⟨⟨ha, hb, hab⟩, hs, he⟩
    have hbn : b % k ^ (r - 1) < k ^ (r - 1) := Nat.mod_lt _ hm
    have han : a % k ^ (r - 1) < k ^ (r - 1) := Nat.mod_lt _ hm
    have has : a / k < k ^ (r - 1) := div_k g ha
    have hbs : b / k < k ^ (r - 1) := div_k g hb
    refine ⟨ha, hb, hab, ?_, ?_⟩
    · -- on
      have same : a % k ^ (r - 1) = b % k ^ (r - 1) → ∃ x, x < k ∧ ∃ y, y < k ∧ (((a % k ^ (r - 1) * k + x < k ^ r ∧ b % k ^ (r - 1) * k + y < k ^ r ∧ F (a % k ^ (r - 1) * k + x) = F (b % k ^ (r - 1) * k + y)) ∧ (P ((a % k ^ (r - 1) * k + x) / k * k ^ (r - 1) + (b % k ^ (r - 1) * k + y) / k) ∨ (a % k ^ (r - 1) * k + x) / k = (b % k ^ (r - 1) * k + y) / k) ∧ (P ((a % k ^ (r - 1) * k + x) % k ^ (r - 1) * k ^ (r - 1) + (b % k ^ (r - 1) * k + y) % k ^ (r - 1)) ∨ (a % k ^ (r - 1) * k + x) % k ^ (r - 1) = (b % k ^ (r - 1) * k + y) % k ^ (r - 1)))) := fun e => ⟨0, hk, 0, hk, ⟨word_lt g han hk, word_lt g hbn hk, by rw [e]⟩, Or.inr (by rw [e]), Or.inr (by rw [e])⟩
      rcases he with he | he
      · obtain ⟨-, s2⟩ := hP _ he
        obtain ⟨d1, d2⟩ := pair_div g (u := a % k ^ (r - 1)) hbn
        rcases s2 with s2 | ⟨⟨q, hq, x, hx, y, hy, hF, hqe⟩, -⟩
        · unfold dgP at s2
          rw [d1, d2] at s2
          exact same s2
        · rw [d1, d2] at hF hqe
          refine ⟨x, hx, y, hy, ⟨word_lt g han hx, word_lt g hbn hy, hF⟩, Or.inl ?_, Or.inl ?_⟩
          · rw [word_div g hx, word_div g hy]; exact he
          · rw [hqe]; exact hq
      · exact same he
    · -- back
      have same : a / k = b / k → ∃ x, x < k ∧ ∃ y, y < k ∧ (((a / k + x * k ^ (r - 1) < k ^ r ∧ b / k + y * k ^ (r - 1) < k ^ r ∧ F (a / k + x * k ^ (r - 1)) = F (b / k + y * k ^ (r - 1))) ∧ (P ((a / k + x * k ^ (r - 1)) / k * k ^ (r - 1) + (b / k + y * k ^ (r - 1)) / k) ∨ (a / k + x * k ^ (r - 1)) / k = (b / k + y * k ^ (r - 1)) / k) ∧ (P ((a / k + x * k ^ (r - 1)) % k ^ (r - 1) * k ^ (r - 1) + (b / k + y * k ^ (r - 1)) % k ^ (r - 1)) ∨ (a / k + x * k ^ (r - 1)) % k ^ (r - 1) = (b / k + y * k ^ (r - 1)) % k ^ (r - 1)))) := fun e => ⟨0, hk, 0, hk, ⟨(word_up g has hk).1, (word_up g hbs hk).1, by rw [e]⟩, Or.inr (by rw [e]), Or.inr (by rw [e])⟩
      rcases hs with hs | hs
      · obtain ⟨-, s2⟩ := hP _ hs
        obtain ⟨d1, d2⟩ := pair_div g (u := a / k) hbs
        rcases s2 with s2 | ⟨-, q, hq, x, hx, y, hy, hF, hqe⟩
        · unfold dgP at s2
          rw [d1, d2] at s2
          exact same s2
        · have hqm := (hP q hq).1
          have hq1 : q / k ^ (r - 1) < k ^ (r - 1) := Nat.div_lt_of_lt_mul hqm
          have hq2 : q % k ^ (r - 1) < k ^ (r - 1) := Nat.mod_lt _ hm
          have w1 := word_lt g hq1 hx
          have w2 := word_lt g hq2 hy
          have hB : (q % k ^ (r - 1) * k + y) % k ^ (r - 1) < k ^ (r - 1) := Nat.mod_lt _ hm
          have e1 : (q / k ^ (r - 1) * k + x) % k ^ (r - 1) = a / k := by
            have := (pair_div g (u := (q / k ^ (r - 1) * k + x) % k ^ (r - 1)) hB).1
            rw [hqe, d1] at this
            exact this.symm
          have e2 : (q % k ^ (r - 1) * k + y) % k ^ (r - 1) = b / k := by
            have := (pair_div g (u := (q / k ^ (r - 1) * k + x) % k ^ (r - 1)) hB).2
            rw [hqe, d2] at this
            exact this.symm
          have f1 : a / k + (q / k ^ (r - 1) * k + x) / k ^ (r - 1) * k ^ (r - 1) = q / k ^ (r - 1) * k + x := by
            rw [← e1, Nat.mul_comm ((q / k ^ (r - 1) * k + x) / k ^ (r - 1))]; exact Nat.mod_add_div _ _
          have f2 : b / k + (q % k ^ (r - 1) * k + y) / k ^ (r - 1) * k ^ (r - 1) = q % k ^ (r - 1) * k + y := by
            rw [← e2, Nat.mul_comm (_ / k ^ (r - 1))]; exact Nat.mod_add_div _ _
          refine ⟨(q / k ^ (r - 1) * k + x) / k ^ (r - 1), div_node g w1, (q % k ^ (r - 1) * k + y) / k ^ (r - 1), div_node g w2, ?_⟩
          rw [f1, f2]
          refine ⟨⟨w1, w2, hF⟩, Or.inl ?_, Or.inl ?_⟩
          · rw [word_div g hx, word_div g hy, Nat.mul_comm (q / k ^ (r - 1)), Nat.div_add_mod]
            exact hq
          · rw [e1, e2]; exact hs
      · exact same hs
  obtain ⟨hpm, s2⟩ := hP p hp
  have hp1 : p / k ^ (r - 1) < k ^ (r - 1) := Nat.div_lt_of_lt_mul hpm
  have hp2 : p % k ^ (r - 1) < k ^ (r - 1) := Nat.mod_lt _ hm
  rcases s2 with s2 | ⟨⟨q, hq, x, hx, y, hy, hF, hqe⟩, -⟩
  · exact hd s2
  · have := h _ hQ (p / k ^ (r - 1) * k + x) (p % k ^ (r - 1) * k + y) ⟨⟨word_lt g hp1 hx, word_lt g hp2 hy, hF⟩, Or.inl (by rw [word_div g hx, word_div g hy, Nat.mul_comm (p / k ^ (r - 1)), Nat.div_add_mod]; exact hp), Or.inl (by rw [hqe]; exact hq)⟩
    refine hd ?_
    unfold dgP
    rw [← word_div g hx (u := p / k ^ (r - 1)), this, word_div g hy]
theorem seen_un {m : Nat} {q : Nat} (h : SeenP k m F q) (hm : 0 < m) : q < m * m ∧ (dgP m q ∨ ∃ p, p < m * m ∧ SeenP k m F p ∧ LDp k m F p q) := by
  have := h (fun q => SeenP k m F q ∧ q < m * m ∧ (dgP m q ∨ ∃ p, p < m * m ∧ SeenP k m F p ∧ LDp k m F p q)) (fun p hp hd => ⟨SeenP.dg hp hd, hp, Or.inl hd⟩) (fun p q hp ih l => ⟨SeenP.st hp ih.1 l, by
    obtain ⟨x, hx, y, hy, hF, rfl⟩ := l
    exact pr_lt (Nat.mod_lt _ hm) (Nat.mod_lt _ hm), Or.inr ⟨p, hp, ih.1, l⟩⟩)
  exact this.2
theorem alive_un {m : Nat} {p : Nat} (h : AliveP k m F p) : dgP m p ∨ ∃ q, q < m * m ∧ AliveP k m F q ∧ LDp k m F p q := by
  have := h (fun p => AliveP k m F p ∧ (dgP m p ∨ ∃ q, q < m * m ∧ AliveP k m F q ∧ LDp k m F p q)) (fun p hp hd => ⟨AliveP.dg hp hd, Or.inl hd⟩) (fun p q hp hq ih l => ⟨AliveP.st hp hq ih.1 l, Or.inr ⟨q, hq, ih.1, l⟩⟩)
  exact this.2
theorem losesM_parts {m : Nat} (hm : 0 < m) (h : LosesM k m F) : ¬ PartsP k m F := by
  rintro ⟨p, hp, hd, hs, ha⟩
  refine hd (h (fun p => SeenP k m F p ∧ AliveP k m F p) ?_ p ⟨hs, ha⟩)
  rintro p ⟨hs, ha⟩
  obtain ⟨hpm, s2⟩ := seen_un hs hm
  refine ⟨hpm, ?_⟩
  rcases s2 with s2 | ⟨p', h1, h2, h3⟩
  · exact Or.inl s2
  · rcases alive_un ha with s3 | ⟨q, h4, h5, h6⟩
    · exact Or.inl s3
    · exact Or.inr ⟨⟨q, ⟨SeenP.st hpm hs h6, h5⟩, h6⟩, ⟨p', ⟨h2, AliveP.st h1 hpm ha h3⟩, h3⟩⟩
theorem loses_even (g : GR k r F) (h : LosesNo k r F) : EvenR k r F := by
  have hm : 0 < k ^ (r - 1) := g.nums.2.2.1
  have hk : 0 < k := by have := g.1; omega
  by_cases hr : 2 ≤ r
  · have hp := losesM_parts hm (loses_M g h)
    refine bal_even g (nodia_balanced g.hF hm (r - 1) rfl (TW_one g) (fun y u v hu hv => ?_))
    rcases Nat.lt_or_ge 1 (NW k (k ^ (r - 1)) F y u v) with q | q
    · exact absurd (dia_parts g hr hv y u hu q) hp
    · exact q
  · have hr1 : r = 1 := by have := g.2.2.1; omega
    subst hr1
    have gF := g.2.2.2.2
    rw [Nat.pow_one] at gF
    have hinj : ∀ a b, a < b → b < k → F a ≠ F b := by
      intro a b hab hb e
      have hS : SelfS k 1 F (fun a b => a < k ∧ b < k ∧ F a = F b) := by
        rintro a b ⟨h1, h2, h3⟩
        rw [Nat.sub_self, Nat.pow_zero, Nat.pow_one, Nat.mod_one, Nat.mod_one, Nat.div_eq_of_lt h1, Nat.div_eq_of_lt h2]
        refine ⟨h1, h2, h3, ⟨0, hk, 0, hk, ?_⟩, ⟨0, hk, 0, hk, ?_⟩⟩ <;> exact ⟨by omega, by omega, rfl⟩
      have := h _ hS a b ⟨by omega, hb, e⟩
      omega
    intro c hc
    rw [Nat.pow_one]
    obtain ⟨w, hw, hFw⟩ := fb_onto (n := k) (f := F) (fun i hi => gF i hi) hinj hc
    have : sm (fun w => if F w = c then 1 else 0) k = sm (fun x => if w = x then (fun _ => 1) x else 0) k := by
      refine sm_cong fun x hx => ?_
      by_cases q : w = x
      · rw [if_pos q, ← q, if_pos hFw]
      · rw [if_neg q, if_neg (fun z => by
          rcases Nat.lt_or_gt_of_ne q with y | y
          · exact hinj w x y hx (hFw.trans z.symm)
          · exact hinj x w y hw (z.trans hFw.symm))]
    rw [this, sm_one (f := fun _ => 1) hw, Nat.one_mul]
theorem M_loses (g : GR k r F) (he : EvenR k r F) (hM : LosesM k (k ^ (r - 1)) F) : LosesNo k r F := by
  have hm : 0 < k ^ (r - 1) := g.nums.2.2.1
  have hk : 0 < k := by have := g.1; omega
  intro Q hQ a b hab
  by_cases hr : 2 ≤ r
  · have hS : SelfM k (k ^ (r - 1)) F (fun p => ∃ a b, Q a b ∧ p = a / k * k ^ (r - 1) + b / k) := by
      rintro p ⟨a, b, hab, rfl⟩
      obtain ⟨ha, hb, hF, ⟨x, hx, y, hy, hon⟩, ⟨x', hx', y', hy', hbk⟩⟩ := hQ a b hab
      have has : a / k < k ^ (r - 1) := div_k g ha
      have hbs : b / k < k ^ (r - 1) := div_k g hb
      have hbn : b % k ^ (r - 1) < k ^ (r - 1) := Nat.mod_lt _ hm
      obtain ⟨d1, d2⟩ := pair_div g (u := a / k) hbs
      refine ⟨pr_lt has hbs, Or.inr ⟨⟨a % k ^ (r - 1) * k ^ (r - 1) + b % k ^ (r - 1), ⟨_, _, hon, by rw [word_div g hx, word_div g hy]⟩, a % k, Nat.mod_lt _ hk, b % k, Nat.mod_lt _ hk, ?_, ?_⟩, ⟨(a / k + x' * k ^ (r - 1)) / k * k ^ (r - 1) + (b / k + y' * k ^ (r - 1)) / k, ⟨_, _, hbk, rfl⟩, (a / k + x' * k ^ (r - 1)) % k, Nat.mod_lt _ hk, (b / k + y' * k ^ (r - 1)) % k, Nat.mod_lt _ hk, ?_, ?_⟩⟩⟩
      · rw [d1, d2, Nat.mul_comm (a / k), Nat.div_add_mod, Nat.mul_comm (b / k), Nat.div_add_mod]
        exact hF
      · rw [d1, d2, Nat.mul_comm (a / k), Nat.div_add_mod, Nat.mul_comm (b / k), Nat.div_add_mod]
      · obtain ⟨c1, c2⟩ := pair_div g (u := (a / k + x' * k ^ (r - 1)) / k) (div_k g (word_up g hbs hy').1)
        rw [c1, c2, Nat.mul_comm ((a / k + x' * k ^ (r - 1)) / k), Nat.div_add_mod, Nat.mul_comm ((b / k + y' * k ^ (r - 1)) / k), Nat.div_add_mod]
        exact (hQ _ _ hbk).2.2.1
      · obtain ⟨c1, c2⟩ := pair_div g (u := (a / k + x' * k ^ (r - 1)) / k) (div_k g (word_up g hbs hy').1)
        rw [c1, c2, Nat.mul_comm ((a / k + x' * k ^ (r - 1)) / k), Nat.div_add_mod, Nat.mul_comm ((b / k + y' * k ^ (r - 1)) / k), Nat.div_add_mod, (word_up g has hx').2, (word_up g hbs hy').2]
    have hdg : ∀ a b, Q a b → a / k = b / k := fun a b hab => by
      obtain ⟨ha, hb, -⟩ := hQ a b hab
      have h1 := hM _ hS _ ⟨a, b, hab, rfl⟩
      unfold dgP at h1
      obtain ⟨d1, d2⟩ := pair_div g (u := a / k) (div_k g hb)
      rw [d1, d2] at h1
      exact h1
    have h1 := hdg a b hab
    obtain ⟨ha, hb, -, ⟨x, hx, y, hy, hon⟩, -⟩ := hQ a b hab
    have h2 := hdg _ _ hon
    rw [word_div g hx, word_div g hy] at h2
    have hdv : k ∣ k ^ (r - 1) := by
      obtain ⟨q, hq⟩ : ∃ q, r - 1 = q + 1 := ⟨r - 2, by omega⟩
      rw [hq, Nat.pow_succ]
      exact Nat.dvd_mul_left _ _
    have h3 : a % k = b % k := by rw [← Nat.mod_mod_of_dvd a hdv, h2, Nat.mod_mod_of_dvd b hdv]
    rw [← Nat.div_add_mod a k, ← Nat.div_add_mod b k, h1, h3]
  · have hr1 : r = 1 := by have := g.2.2.1; omega
    subst hr1
    obtain ⟨ha, hb, hF, -⟩ := hQ a b hab
    rw [Nat.pow_one] at ha hb
    refine Classical.byContradiction fun hne => ?_
    have gF := g.2.2.2.2
    rw [Nat.pow_one] at gF
    have h1 := sm_two (f := fun w => if F w = F a then 1 else 0) hne ha hb
    rw [if_pos rfl, if_pos hF.symm, even1 g he (gF a ha)] at h1
    omega
theorem br_loses (g : GR k r F) : LosesNo k r F ↔ EvenR k r F ∧ LosesM k (k ^ (r - 1)) F := ⟨fun h => ⟨loses_even g h, loses_M g h⟩, fun h => M_loses g h.1 h.2⟩
end BL

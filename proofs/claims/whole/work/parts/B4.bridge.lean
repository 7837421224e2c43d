/-! Class and reference say the same of FULL and LOSES NOTHING. -/
theorem sm_two {f : Nat → Nat} {a b : Nat} (hab : a ≠ b) : ∀ {n : Nat}, a < n → b < n → f a + f b ≤ sm f n
  | 0, h, _ => by omega
  | n + 1, h1, h2 => by
    rw [sm]
    by_cases q1 : a = n
    · have := sm_part (f := f) (show b < n by omega)
      rw [q1]; omega
    · by_cases q2 : b = n
      · have := sm_part (f := f) (show a < n by omega)
        rw [q2]; omega
      · have := sm_two (f := f) hab (show a < n by omega) (show b < n by omega)
        omega
theorem sm_ge2 {f : Nat → Nat} : ∀ {n : Nat}, 2 ≤ sm f n → (∃ i, i < n ∧ 2 ≤ f i) ∨ ∃ i j, i < n ∧ j < n ∧ i ≠ j ∧ 0 < f i ∧ 0 < f j
  | 0, h => by simp [sm] at h
  | n + 1, h => by
    rw [sm] at h
    by_cases q : 2 ≤ f n
    · exact Or.inl ⟨n, by omega, q⟩
    · by_cases q2 : f n = 0
      · rcases sm_ge2 (f := f) (n := n) (by omega) with ⟨i, h1, h2⟩ | ⟨i, j, h1, h2, h3⟩
        · exact Or.inl ⟨i, by omega, h2⟩
        · exact Or.inr ⟨i, j, by omega, by omega, h3⟩
      · obtain ⟨i, h1, h2⟩ := sm_pos (f := f) (n := n) (by omega)
        exact Or.inr ⟨i, n, by omega, by omega, by omega, h2, by omega⟩
theorem sm_rng {f : Nat → Nat} (a : Nat) : ∀ b, sm f (a + b) = sm f a + sm (fun i => f (a + i)) b
  | 0 => rfl
  | b + 1 => by rw [← Nat.add_assoc, sm, sm_rng a b, sm]; omega
theorem sm_dbl {f : Nat → Nat} {k : Nat} : ∀ m, sm f (m * k) = sm (fun u => sm (fun x => f (u * k + x)) k) m
  | 0 => by rw [Nat.zero_mul]; rfl
  | m + 1 => by rw [Nat.succ_mul, sm_rng, sm_dbl m, sm]
section BR
variable {k r m : Nat} {F : Nat → Nat}
theorem TW_one (g : GR k r F) : ∀ a b, a < k ^ (r - 1) → b < k ^ (r - 1) → TW k (k ^ (r - 1)) (r - 1) a b = 1 := by
  have key : ∀ a, a < k ^ (r - 1) → ∀ b, b < k ^ (r - 1) → TW k (k ^ (r - 1)) (r - 1) a b = 1 := by
    rcases g.cases with ⟨rfl, rfl | rfl | rfl | rfl⟩ | ⟨rfl, rfl | rfl | rfl⟩ | ⟨rfl, rfl | rfl⟩ <;> decide +kernel
  exact fun a b ha hb => key a ha b hb
theorem GR.hF (g : GR k r F) : ∀ u x, u < k ^ (r - 1) → x < k → F (u * k + x) < k := fun u x hu hx => g.2.2.2.2 _ (by rw [g.nums.2.2.2.1]; exact wlt hu hx)
theorem NW_cons {y : List Nat} {u v x c : Nat} (hx : x < k) (hc : F (u * k + x) = c) (h : 0 < NW k m F y ((u * k + x) % m) v) : 0 < NW k m F (c :: y) u v := by
  unfold NW
  have := sm_part (f := fun x => if F (u * k + x) = c then NW k m F y ((u * k + x) % m) v else 0) hx
  simp only [if_pos hc] at this
  omega
theorem NW_nil (u : Nat) : 0 < NW k m F [] u u := by unfold NW; rw [if_pos rfl]; exact Nat.one_pos
theorem pr_div {a b : Nat} (hb : b < m) : (a * m + b) / m = a ∧ (a * m + b) % m = b := by
  constructor
  · rw [Nat.mul_comm, Nat.mul_add_div (by omega), Nat.div_eq_of_lt hb, Nat.add_zero]
  · rw [Nat.mul_comm, Nat.mul_add_mod, Nat.mod_eq_of_lt hb]
theorem pr_lt {a b : Nat} (ha : a < m) (hb : b < m) : a * m + b < m * m := by
  have : (a + 1) * m ≤ m * m := Nat.mul_le_mul_right m ha
  rw [Nat.succ_mul] at this
  omega
theorem seen_walk (hm : 0 < m) {p : Nat} (h : SeenP k m F p) : p < m * m ∧ ∃ y u, u < m ∧ 0 < NW k m F y u (p / m) ∧ 0 < NW k m F y u (p % m) := by
  refine h (fun p => p < m * m ∧ ∃ y u, u < m ∧ 0 < NW k m F y u (p / m) ∧ 0 < NW k m F y u (p % m)) (fun p hp hd => ?_) (fun p q hp ih l => ?_)
  · refine ⟨hp, [], p / m, Nat.div_lt_of_lt_mul hp, NW_nil _, ?_⟩
    unfold dgP at hd
    rw [← hd]
    exact NW_nil _
  · obtain ⟨-, y, u, hu, h1, h2⟩ := ih
    obtain ⟨x, hx, x', hx', hF, rfl⟩ := l
    have hA : (p / m * k + x) % m < m := Nat.mod_lt _ hm
    have hB : (p % m * k + x') % m < m := Nat.mod_lt _ hm
    obtain ⟨d1, d2⟩ := pr_div (a := (p / m * k + x) % m) hB
    refine ⟨pr_lt hA hB, y ++ [F (p / m * k + x)], u, hu, ?_, ?_⟩
    · rw [d1]
      have h3 := NW_mul (k := k) (F := F) hm (y1 := y) (y2 := [F (p / m * k + x)]) (v := (p / m * k + x) % m) hu (Nat.div_lt_of_lt_mul hp)
      have h4 : 0 < NW k m F [F (p / m * k + x)] (p / m) ((p / m * k + x) % m) := NW_cons hx rfl (NW_nil _)
      exact Nat.lt_of_lt_of_le (Nat.mul_pos h1 h4) h3
    · rw [d2]
      have h3 := NW_mul (k := k) (F := F) hm (y1 := y) (y2 := [F (p / m * k + x)]) (v := (p % m * k + x') % m) hu (Nat.mod_lt p hm)
      have h4 : 0 < NW k m F [F (p / m * k + x)] (p % m) ((p % m * k + x') % m) := NW_cons hx' hF.symm (NW_nil _)
      exact Nat.lt_of_lt_of_le (Nat.mul_pos h2 h4) h3
theorem alive_walk (hm : 0 < m) {p : Nat} (h : AliveP k m F p) : ∃ y v, v < m ∧ 0 < NW k m F y (p / m) v ∧ 0 < NW k m F y (p % m) v := by
  refine h (fun p => ∃ y v, v < m ∧ 0 < NW k m F y (p / m) v ∧ 0 < NW k m F y (p % m) v) (fun p hp hd => ?_) (fun p q hp hq ih l => ?_)
  · refine ⟨[], p / m, Nat.div_lt_of_lt_mul hp, NW_nil _, ?_⟩
    unfold dgP at hd
    rw [← hd]
    exact NW_nil _
  · obtain ⟨y, v, hv, h1, h2⟩ := ih
    obtain ⟨x, hx, x', hx', hF, rfl⟩ := l
    obtain ⟨d1, d2⟩ := pr_div (a := (p / m * k + x) % m) (Nat.mod_lt (p % m * k + x') hm)
    rw [d1] at h1
    rw [d2] at h2
    exact ⟨F (p / m * k + x) :: y, v, hv, NW_cons hx rfl h1, NW_cons hx' hF.symm h2⟩
theorem parts_dia (hm : 0 < m) (h : PartsP k m F) : ∃ y u v, u < m ∧ v < m ∧ 2 ≤ NW k m F y u v := by
  obtain ⟨p, hp, hd, hs, ha⟩ := h
  obtain ⟨-, y1, u, hu, a1, a2⟩ := seen_walk hm hs
  obtain ⟨y2, v, hv, b1, b2⟩ := alive_walk hm ha
  refine ⟨y1 ++ y2, u, v, hu, hv, ?_⟩
  rw [NW_app hm y2 v y1 u hu]
  have h1 := sm_two (f := fun w => NW k m F y1 u w * NW k m F y2 w v) (a := p / m) (b := p % m) hd (Nat.div_lt_of_lt_mul hp) (Nat.mod_lt p hm)
  have h2 := Nat.mul_pos a1 b1
  have h3 := Nat.mul_pos a2 b2
  have h4 : NW k m F y1 u (p / m) * NW k m F y2 (p / m) v + NW k m F y1 u (p % m) * NW k m F y2 (p % m) v ≤ sm (fun w => NW k m F y1 u w * NW k m F y2 w v) m := h1
  omega
theorem walk_alive (hm : 0 < m) {v : Nat} (hv : v < m) : ∀ (y : List Nat) (a b : Nat), a < m → b < m → 0 < NW k m F y a v → 0 < NW k m F y b v → AliveP k m F (a * m + b)
  | [], a, b, ha, hb, h1, h2 => by
    unfold NW at h1 h2
    have e1 : a = v := by
      by_cases q : a = v
      · exact q
      · rw [if_neg q] at h1; omega
    have e2 : b = v := by
      by_cases q : b = v
      · exact q
      · rw [if_neg q] at h2; omega
    obtain ⟨d1, d2⟩ := pr_div (a := a) hb
    refine AliveP.dg (pr_lt ha hb) ?_
    unfold dgP
    rw [d1, d2, e1, e2]
  | c :: y, a, b, ha, hb, h1, h2 => by
    obtain ⟨x, hx, h3⟩ := sm_pos h1
    obtain ⟨x', hx', h4⟩ := sm_pos h2
    have f1 : F (a * k + x) = c := by
      by_cases q : F (a * k + x) = c
      · exact q
      · rw [if_neg q] at h3; omega
    have f2 : F (b * k + x') = c := by
      by_cases q : F (b * k + x') = c
      · exact q
      · rw [if_neg q] at h4; omega
    rw [if_pos f1] at h3
    rw [if_pos f2] at h4
    have hA : (a * k + x) % m < m := Nat.mod_lt _ hm
    have hB : (b * k + x') % m < m := Nat.mod_lt _ hm
    obtain ⟨d1, d2⟩ := pr_div (a := a) hb
    refine AliveP.st (pr_lt ha hb) (pr_lt hA hB) (walk_alive hm hv y _ _ hA hB h3 h4) ⟨x, hx, x', hx', ?_, ?_⟩
    · rw [d1, d2, f1, f2]
    · rw [d1, d2]
theorem node_ne (g : GR k r F) (hr : 2 ≤ r) {u x x' : Nat} (hx : x < k) (hx' : x' < k) (hne : x ≠ x') : (u * k + x) % k ^ (r - 1) ≠ (u * k + x') % k ^ (r - 1) := by
  intro e
  have hdv : k ∣ k ^ (r - 1) := by
    obtain ⟨q, hq⟩ : ∃ q, r - 1 = q + 1 := ⟨r - 2, by omega⟩
    rw [hq, Nat.pow_succ]
    exact Nat.dvd_mul_left _ _
  have h1 : (u * k + x) % k ^ (r - 1) % k = (u * k + x') % k ^ (r - 1) % k := by rw [e]
  rw [Nat.mod_mod_of_dvd _ hdv, Nat.mod_mod_of_dvd _ hdv, Nat.mul_comm, Nat.mul_add_mod, Nat.mul_add_mod, Nat.mod_eq_of_lt hx, Nat.mod_eq_of_lt hx'] at h1
  exact hne h1
theorem dia_parts (g : GR k r F) (hr : 2 ≤ r) {v : Nat} (hv : v < k ^ (r - 1)) : ∀ (y : List Nat) (u : Nat), u < k ^ (r - 1) → 2 ≤ NW k (k ^ (r - 1)) F y u v → PartsP k (k ^ (r - 1)) F
  | [], u, hu, h => by
    unfold NW at h
    by_cases q : u = v
    · rw [if_pos q] at h; omega
    · rw [if_neg q] at h; omega
  | c :: y, u, hu, h => by
    have hm : 0 < k ^ (r - 1) := g.nums.2.2.1
    rcases sm_ge2 (show 2 ≤ sm (fun x => if F (u * k + x) = c then NW k (k ^ (r - 1)) F y ((u * k + x) % k ^ (r - 1)) v else 0) k from h) with ⟨x, hx, h1⟩ | ⟨x, x', hx, hx', hne, h1, h2⟩
    · by_cases q : F (u * k + x) = c
      · rw [if_pos q] at h1
        exact dia_parts g hr hv y _ (Nat.mod_lt _ hm) h1
      · rw [if_neg q] at h1; omega
    · have f1 : F (u * k + x) = c := by
        by_cases q : F (u * k + x) = c
        · exact q
        · rw [if_neg q] at h1; omega
      have f2 : F (u * k + x') = c := by
        by_cases q : F (u * k + x') = c
        · exact q
        · rw [if_neg q] at h2; omega
      rw [if_pos f1] at h1
      rw [if_pos f2] at h2
      have hA : (u * k + x) % k ^ (r - 1) < k ^ (r - 1) := Nat.mod_lt _ hm
      have hB : (u * k + x') % k ^ (r - 1) < k ^ (r - 1) := Nat.mod_lt _ hm
      obtain ⟨d1, d2⟩ := pr_div (a := u) hu
      obtain ⟨c1, c2⟩ := pr_div (a := (u * k + x) % k ^ (r - 1)) hB
      refine ⟨_, pr_lt hA hB, ?_, SeenP.st (pr_lt hu hu) (SeenP.dg (pr_lt hu hu) ?_) ⟨x, hx, x', hx', ?_, ?_⟩, walk_alive hm hv y _ _ hA hB h1 h2⟩
      · unfold dgP
        rw [c1, c2]
        exact node_ne g hr hx hx' hne
      · unfold dgP
        rw [d1, d2]
      · rw [d1, d2, f1, f2]
      · rw [d1, d2]
theorem N0_one (g : GR k r F) {c : Nat} : N0 k (k ^ (r - 1)) F [c] = sm (fun w => if F w = c then 1 else 0) (k ^ r) := by
  have hm : 0 < k ^ (r - 1) := g.nums.2.2.1
  rw [g.nums.2.2.2.1, sm_dbl]
  unfold N0
  refine sm_cong fun u _ => ?_
  unfold NW
  rw [← sm_swap (fun x v => if F (u * k + x) = c then NW k (k ^ (r - 1)) F [] ((u * k + x) % k ^ (r - 1)) v else 0) k (k ^ (r - 1))]
  refine sm_cong fun x _ => ?_
  by_cases q : F (u * k + x) = c
  · rw [if_pos q, sm_cong (g := fun v => if (u * k + x) % k ^ (r - 1) = v then (fun _ => 1) v else 0) (fun v _ => by rw [if_pos q]; rfl), sm_one (f := fun _ => 1) (Nat.mod_lt _ hm)]
  · rw [if_neg q, sm_cong (g := fun _ => 0) (fun v _ => by rw [if_neg q]), sm_zero]
theorem bal_even (g : GR k r F) (hb : ∀ y, okL k y → N0 k (k ^ (r - 1)) F y = k ^ (r - 1)) : EvenR k r F := by
  intro c hc
  rw [← N0_one g, hb [c] (fun z hz => by rw [List.mem_singleton] at hz; rw [hz]; exact hc), ← g.nums.2.2.2.1]
theorem full_cond (g : GR k r F) (hf : ∀ y, okL k y → 0 < N0 k (k ^ (r - 1)) F y) : EvenR k r F ∧ ¬ PartsP k (k ^ (r - 1)) F := by
  have hm : 0 < k ^ (r - 1) := g.nums.2.2.1
  have hb := full_balanced g.hF hm (r - 1) rfl (TW_one g) hf
  refine ⟨bal_even g hb, fun hp => ?_⟩
  obtain ⟨y, u, v, hu, hv, h2⟩ := parts_dia hm hp
  have := balanced_nodia g.hF hm g.nums.2.1 (r - 1) (TW_one g) hb y u v hu hv
  omega
theorem even1 (g : GR k 1 F) (he : EvenR k 1 F) {c : Nat} (hc : c < k) : sm (fun w => if F w = c then 1 else 0) k = 1 := by
  have h1 := he c hc
  rw [Nat.pow_one] at h1
  have hk : 0 < k := by have := g.1; omega
  exact Nat.eq_of_mul_eq_mul_right hk (by rw [Nat.one_mul]; exact h1)
theorem cond_full (g : GR k r F) (he : EvenR k r F) (hp : ¬ PartsP k (k ^ (r - 1)) F) : ∀ y, okL k y → 0 < N0 k (k ^ (r - 1)) F y := by
  have hm : 0 < k ^ (r - 1) := g.nums.2.2.1
  by_cases hr : 2 ≤ r
  · intro y hy
    rw [nodia_balanced g.hF hm (r - 1) rfl (TW_one g) (fun y u v hu hv => ?_) y hy]
    · exact hm
    · rcases Nat.lt_or_ge 1 (NW k (k ^ (r - 1)) F y u v) with q | q
      · exact absurd (dia_parts g hr hv y u hu q) hp
      · exact q
  · have hr1 : r = 1 := by have := g.2.2.1; omega
    subst hr1
    rw [Nat.sub_self, Nat.pow_zero]
    have key : ∀ y, okL k y → 0 < NW k 1 F y 0 0 := by
      intro y
      induction y with
      | nil => intro _; exact NW_nil 0
      | cons c y ih =>
        intro hy
        have hc : c < k := hy c List.mem_cons_self
        obtain ⟨w, hw, h2⟩ := sm_pos (f := fun w => if F w = c then 1 else 0) (n := k) (by rw [even1 g he hc]; exact Nat.one_pos)
        have f1 : F w = c := by
          by_cases q : F w = c
          · exact q
          · rw [if_neg q] at h2; omega
        refine NW_cons (u := 0) hw (by rw [Nat.zero_mul, Nat.zero_add]; exact f1) ?_
        rw [Nat.mod_one]
        exact ih (fun z hz => hy z (List.mem_cons_of_mem c hz))
    intro y hy
    have h1 := key y hy
    unfold N0
    rw [sm, sm, sm, sm]
    omega
/-- the sets of the search are the nodes where a row behind may end -/
theorem fold_bit (hm : 0 < m) {v : Nat} (hv : v < m) : ∀ (y : List Nat) (S : Nat), (y.foldl (fo k m F) S).testBit v = true ↔ ∃ u, u < m ∧ S.testBit u = true ∧ 0 < NW k m F y u v
  | [], S => by
    constructor
    · intro h
      exact ⟨v, hv, h, NW_nil v⟩
    · rintro ⟨u, hu, h1, h2⟩
      unfold NW at h2
      by_cases q : u = v
      · rw [← q]; exact h1
      · rw [if_neg q] at h2; omega
  | c :: y, S => by
    rw [List.foldl_cons, fold_bit hm hv y]
    constructor
    · rintro ⟨w, hw, h1, h2⟩
      obtain ⟨u, hu, h3, x, hx, h4, h5⟩ := fo_bit.mp h1
      exact ⟨u, hu, h3, NW_cons hx h4 (by rw [h5]; exact h2)⟩
    · rintro ⟨u, hu, h1, h2⟩
      obtain ⟨x, hx, h3⟩ := sm_pos h2
      have f1 : F (u * k + x) = c := by
        by_cases q : F (u * k + x) = c
        · exact q
        · rw [if_neg q] at h3; omega
      rw [if_pos f1] at h3
      exact ⟨(u * k + x) % m, Nat.mod_lt _ hm, fo_bit.mpr ⟨u, hu, h1, x, hx, f1, rfl⟩, h3⟩
theorem fold_lt (hm : 0 < m) : ∀ (y : List Nat) (S : Nat), S < 2 ^ m → y.foldl (fo k m F) S < 2 ^ m
  | [], S, h => h
  | c :: y, S, _ => by
    rw [List.foldl_cons]
    exact fold_lt hm y _ (fo_lt hm)
theorem fold_zero (g : GR k r F) (y : List Nat) : y.foldl (fo k (k ^ (r - 1)) F) (whN k r) = 0 ↔ N0 k (k ^ (r - 1)) F y = 0 := by
  have hm : 0 < k ^ (r - 1) := g.nums.2.2.1
  have hwb : ∀ u, u < k ^ (r - 1) → (whN k r).testBit u = true := fun u hu => by
    unfold whN
    rw [Nat.testBit_two_pow_sub_one]
    exact decide_eq_true hu
  constructor
  · intro h
    refine Classical.byContradiction fun hn => ?_
    obtain ⟨u, hu, h1⟩ := sm_pos (show 0 < sm (fun u => sm (fun v => NW k (k ^ (r - 1)) F y u v) (k ^ (r - 1))) (k ^ (r - 1)) by have : N0 k (k ^ (r - 1)) F y ≠ 0 := hn; unfold N0 at this; omega)
    obtain ⟨v, hv, h2⟩ := sm_pos h1
    have h3 := (fold_bit (k := k) (F := F) hm hv y (whN k r)).mpr ⟨u, hu, hwb u hu, h2⟩
    rw [h] at h3
    simp at h3
  · intro h
    refine Classical.byContradiction fun hn => ?_
    obtain ⟨v, hv⟩ : ∃ v, (y.foldl (fo k (k ^ (r - 1)) F) (whN k r)).testBit v = true := by
      refine Classical.byContradiction fun hx => hn ?_
      refine Nat.eq_of_testBit_eq fun i => ?_
      rw [Nat.zero_testBit]
      exact Bool.eq_false_iff.mpr fun w => hx ⟨i, w⟩
    have hvm : v < k ^ (r - 1) := by
      refine Classical.byContradiction fun hge => ?_
      have h1 := fold_lt (k := k) (F := F) hm y (whN k r) (whN_lt k r)
      have h2 : y.foldl (fo k (k ^ (r - 1)) F) (whN k r) < 2 ^ v := Nat.lt_of_lt_of_le h1 (Nat.pow_le_pow_right (by decide) (by omega))
      rw [Nat.testBit_lt_two_pow h2] at hv
      exact absurd hv (by decide)
    obtain ⟨u, hu, -, h3⟩ := (fold_bit (k := k) (F := F) hm hvm y (whN k r)).mp hv
    have h4 : NW k (k ^ (r - 1)) F y u v ≤ N0 k (k ^ (r - 1)) F y := by
      unfold N0
      exact Nat.le_trans (sm_part (f := fun v => NW k (k ^ (r - 1)) F y u v) hvm) (sm_part (f := fun u => sm (fun v => NW k (k ^ (r - 1)) F y u v) (k ^ (r - 1))) hu)
    omega
theorem noMis_full (g : GR k r F) (h : NoMis k r F) : ∀ y, okL k y → 0 < N0 k (k ^ (r - 1)) F y := by
  obtain ⟨s, hcl, hlen, h0⟩ := h
  have o := bst_ok (f := fo k (k ^ (r - 1)) F) (wh := whN k r) (show 0 < k by have := g.1; omega) s
  have key : ∀ (y : List Nat) (S : Nat), okL k y → S ∈ stsL (bst (fo k (k ^ (r - 1)) F) k (whN k r) s) → y.foldl (fo k (k ^ (r - 1)) F) S ∈ stsL (bst (fo k (k ^ (r - 1)) F) k (whN k r) s) := by
    intro y
    induction y with
    | nil => intro S _ h; exact h
    | cons c y ih =>
      intro S hy hS
      rw [List.foldl_cons]
      refine ih _ (fun z hz => hy z (List.mem_cons_of_mem c hz)) ?_
      obtain ⟨i, e, h1, h2⟩ := stsL_get.mp hS
      have hi := (List.getElem?_eq_some_iff.mp h1).1
      have hc : c < k := hy c List.mem_cons_self
      have := hcl i c e hc (by
        have : (i + 1) * k ≤ (bst (fo k (k ^ (r - 1)) F) k (whN k r) s).length * k := Nat.mul_le_mul_right k hi
        rw [Nat.succ_mul] at this
        omega) h1
      rw [h2] at this
      exact this
  intro y hy
  have h1 := key y (whN k r) hy (stsL_get.mpr ⟨0, _, o.1, rfl⟩)
  refine Nat.pos_of_ne_zero fun hz => h0 ?_
  rw [(fold_zero g y).mpr hz] at h1
  exact h1
theorem mis_zero (g : GR k r F) {y : List Nat} (h : MisOf k r F y) : okL k y ∧ N0 k (k ^ (r - 1)) F y = 0 := by
  obtain ⟨s, j, e, h1, h2, rfl⟩ := h
  have o := bst_ok (f := fo k (k ^ (r - 1)) F) (wh := whN k r) (show 0 < k by have := g.1; omega) s
  obtain ⟨p1, p2⟩ := pth_ok o j j e h1 (Nat.le_refl _)
  refine ⟨p1, (fold_zero g _).mp ?_⟩
  rw [← p2, h2]
theorem br_full (g : GR k r F) : (NoMis k r F → EvenR k r F ∧ ¬ PartsP k (k ^ (r - 1)) F) ∧ ((∃ y, MisOf k r F y) → ¬ (EvenR k r F ∧ ¬ PartsP k (k ^ (r - 1)) F)) := by
  refine ⟨fun h => full_cond g (noMis_full g h), fun ⟨y, hy⟩ ⟨he, hp⟩ => ?_⟩
  obtain ⟨h1, h2⟩ := mis_zero g hy
  have := cond_full g he hp y h1
  omega
end BR

/-! Walks over nodes, counted by their labels: full, balanced, no diamond. -/
def sm (f : Nat → Nat) : Nat → Nat
  | 0 => 0
  | n + 1 => sm f n + f n
theorem sm_cong {f g : Nat → Nat} : ∀ {n : Nat}, (∀ i, i < n → f i = g i) → sm f n = sm g n
  | 0, _ => rfl
  | n + 1, h => by rw [sm, sm, sm_cong (fun i hi => h i (by omega)), h n (by omega)]
theorem sm_zero : ∀ n, sm (fun _ => 0) n = 0
  | 0 => rfl
  | n + 1 => by rw [sm, sm_zero n]
theorem sm_const (c : Nat) : ∀ n, sm (fun _ => c) n = n * c
  | 0 => by simp [sm]
  | n + 1 => by rw [sm, sm_const c n, Nat.succ_mul]
theorem sm_add (f g : Nat → Nat) : ∀ n, sm (fun i => f i + g i) n = sm f n + sm g n
  | 0 => rfl
  | n + 1 => by rw [sm, sm, sm, sm_add f g n]; omega
theorem sm_mul (c : Nat) (f : Nat → Nat) : ∀ n, sm (fun i => c * f i) n = c * sm f n
  | 0 => by simp [sm]
  | n + 1 => by rw [sm, sm, sm_mul c f n, Nat.mul_add]
theorem sm_mulr (c : Nat) (f : Nat → Nat) (n : Nat) : sm (fun i => f i * c) n = sm f n * c := by
  rw [Nat.mul_comm, ← sm_mul]
  exact sm_cong (fun i _ => Nat.mul_comm _ _)
theorem sm_swap (f : Nat → Nat → Nat) : ∀ n k, sm (fun i => sm (f i) k) n = sm (fun j => sm (fun i => f i j) n) k
  | 0, k => by
    have : (fun j => sm (fun i => f i j) 0) = fun _ => 0 := rfl
    rw [this, sm_zero]; rfl
  | n + 1, k => by
    rw [sm, sm_swap f n k, ← sm_add]
    rfl
theorem sm_le {f g : Nat → Nat} : ∀ {n : Nat}, (∀ i, i < n → f i ≤ g i) → sm f n ≤ sm g n
  | 0, _ => Nat.le_refl _
  | n + 1, h => by
    have h1 := sm_le (f := f) (g := g) (n := n) (fun i hi => h i (by omega))
    have h2 := h n (by omega)
    rw [sm, sm]; omega
theorem sm_one {f : Nat → Nat} {a : Nat} : ∀ {n : Nat}, a < n → sm (fun i => if a = i then f i else 0) n = f a
  | 0, h => absurd h (Nat.not_lt_zero a)
  | n + 1, h => by
    rw [sm]
    by_cases q : a = n
    · subst q
      rw [if_pos rfl, sm_cong (g := fun _ => 0) (fun i hi => if_neg (by omega)), sm_zero, Nat.zero_add]
    · rw [if_neg q, sm_one (f := f) (a := a) (n := n) (by omega)]
      rfl
theorem sm_part {f : Nat → Nat} : ∀ {n i : Nat}, i < n → f i ≤ sm f n
  | 0, i, h => absurd h (Nat.not_lt_zero i)
  | n + 1, i, h => by
    rw [sm]
    by_cases q : i = n
    · subst q; omega
    · have := sm_part (f := f) (n := n) (i := i) (by omega)
      omega
theorem sm_pos {f : Nat → Nat} : ∀ {n : Nat}, 0 < sm f n → ∃ i, i < n ∧ 0 < f i
  | 0, h => by simp [sm] at h
  | n + 1, h => by
    rw [sm] at h
    by_cases q : 0 < f n
    · exact ⟨n, by omega, q⟩
    · obtain ⟨i, h1, h2⟩ := sm_pos (f := f) (n := n) (by omega)
      exact ⟨i, by omega, h2⟩
/-- all at most M, and the sum as great as can be: all are M -/
theorem sm_top {f : Nat → Nat} {M : Nat} : ∀ {n : Nat}, (∀ i, i < n → f i ≤ M) → sm f n = n * M → ∀ i, i < n → f i = M
  | 0, _, _, i, hi => absurd hi (Nat.not_lt_zero i)
  | n + 1, h, e, i, hi => by
    rw [sm, Nat.succ_mul] at e
    have h1 : sm f n ≤ n * M := by rw [← sm_const]; exact sm_le (fun i hi => h i (by omega))
    have h2 := h n (by omega)
    by_cases q : i = n
    · subst q; omega
    · exact sm_top (n := n) (fun i hi => h i (by omega)) (by omega) i (by omega)
theorem sm_bot {f : Nat → Nat} {M : Nat} : ∀ {n : Nat}, (∀ i, i < n → M ≤ f i) → sm f n = n * M → ∀ i, i < n → f i = M
  | 0, _, _, i, hi => absurd hi (Nat.not_lt_zero i)
  | n + 1, h, e, i, hi => by
    rw [sm, Nat.succ_mul] at e
    have h1 : n * M ≤ sm f n := by rw [← sm_const]; exact sm_le (fun i hi => h i (by omega))
    have h2 := h n (by omega)
    by_cases q : i = n
    · subst q; omega
    · exact sm_bot (n := n) (fun i hi => h i (by omega)) (by omega) i (by omega)
section WK
variable {k m : Nat} {F : Nat → Nat}
/-- walks from u to v whose words tell y -/
def NW (k m : Nat) (F : Nat → Nat) : List Nat → Nat → Nat → Nat
  | [], u, v => if u = v then 1 else 0
  | c :: y, u, v => sm (fun x => if F (u * k + x) = c then NW k m F y ((u * k + x) % m) v else 0) k
def N0 (k m : Nat) (F : Nat → Nat) (y : List Nat) : Nat := sm (fun u => sm (fun v => NW k m F y u v) m) m
/-- walks of j steps, whatever they tell -/
def TW (k m : Nat) : Nat → Nat → Nat → Nat
  | 0, u, v => if u = v then 1 else 0
  | j + 1, u, v => sm (fun x => TW k m j ((u * k + x) % m) v) k
def sumG (k : Nat) : Nat → (List Nat → Nat) → Nat
  | 0, f => f []
  | j + 1, f => sm (fun c => sumG k j (fun g => f (c :: g))) k
theorem NW_app (hm : 0 < m) (y2 : List Nat) (v : Nat) : ∀ (y1 : List Nat) (u : Nat), u < m → NW k m F (y1 ++ y2) u v = sm (fun w => NW k m F y1 u w * NW k m F y2 w v) m
  | [], u, hu => by
    have e : (fun w => NW k m F [] u w * NW k m F y2 w v) = fun w => if u = w then NW k m F y2 w v else 0 := by
      funext w
      simp only [NW]
      by_cases q : u = w
      · rw [if_pos q, if_pos q, Nat.one_mul]
      · rw [if_neg q, if_neg q, Nat.zero_mul]
    rw [e, sm_one hu]
    rfl
  | c :: y1, u, hu => by
    show sm (fun x => if F (u * k + x) = c then NW k m F (y1 ++ y2) ((u * k + x) % m) v else 0) k = _
    have e : ∀ w, NW k m F (c :: y1) u w * NW k m F y2 w v = sm (fun x => (if F (u * k + x) = c then NW k m F y1 ((u * k + x) % m) w else 0) * NW k m F y2 w v) k := fun w => by
      rw [sm_mulr]
      rfl
    rw [sm_cong (fun w _ => e w), ← sm_swap]
    refine sm_cong (fun x _ => ?_)
    by_cases q : F (u * k + x) = c
    · simp only [if_pos q]
      exact NW_app hm y2 v y1 _ (Nat.mod_lt _ hm)
    · simp only [if_neg q, Nat.zero_mul, sm_zero]
theorem sumG_add (f g : List Nat → Nat) : ∀ j (_ : True), sumG k j (fun l => f l + g l) = sumG k j f + sumG k j g := by
  intro j
  induction j generalizing f g with
  | zero => intro _; rfl
  | succ j ih =>
    intro _
    simp only [sumG]
    rw [← sm_add]
    exact sm_cong (fun c _ => ih _ _ trivial)
theorem sumG_zero : ∀ j, sumG k j (fun _ => 0) = 0
  | 0 => rfl
  | j + 1 => by
    simp only [sumG]
    rw [sm_cong (g := fun _ => 0) (fun c _ => sumG_zero j), sm_zero]
theorem sumG_sm (f : List Nat → Nat → Nat) (j : Nat) : ∀ n, sumG k j (fun l => sm (f l) n) = sm (fun i => sumG k j (fun l => f l i)) n
  | 0 => by
    have : (fun l => sm (f l) 0) = fun _ => 0 := rfl
    rw [this, sumG_zero]; rfl
  | n + 1 => by
    have : (fun l => sm (f l) (n + 1)) = fun l => sm (f l) n + f l n := rfl
    rw [this, sumG_add _ _ j trivial, sumG_sm f j n]
    rfl
theorem sumG_mul (c : Nat) (f : List Nat → Nat) : ∀ j, sumG k j (fun l => c * f l) = c * sumG k j f := by
  intro j
  induction j generalizing f with
  | zero => rfl
  | succ j ih =>
    simp only [sumG]
    rw [← sm_mul]
    exact sm_cong (fun x _ => ih _)
theorem sumG_mulr (c : Nat) (f : List Nat → Nat) (j : Nat) : sumG k j (fun l => f l * c) = sumG k j f * c := by
  have : (fun l => f l * c) = fun l => c * f l := funext fun l => Nat.mul_comm _ _
  rw [this, sumG_mul, Nat.mul_comm]
theorem sumG_const {f : List Nat → Nat} {M : Nat} : ∀ j, (∀ g, (∀ c ∈ g, c < k) → g.length = j → f g = M) → sumG k j f = k ^ j * M := by
  intro j
  induction j generalizing f with
  | zero =>
    intro h
    simp only [sumG, Nat.pow_zero, Nat.one_mul]
    exact h [] (fun _ h => by cases h) rfl
  | succ j ih =>
    intro h
    simp only [sumG]
    rw [sm_cong (g := fun _ => k ^ j * M) (fun c hc => ih (fun g hg hl => h (c :: g) (fun x hx => by
      rcases List.mem_cons.mp hx with rfl | hx
      · exact hc
      · exact hg x hx) (by simp [hl]))), sm_const, Nat.pow_succ]
    rw [← Nat.mul_assoc, Nat.mul_comm k]
theorem sumG_NW (hF : ∀ u x, u < m → x < k → F (u * k + x) < k) (hm : 0 < m) (v : Nat) : ∀ j u, u < m → sumG k j (fun g => NW k m F g u v) = TW k m j u v
  | 0, u, _ => rfl
  | j + 1, u, hu => by
    simp only [sumG, TW, NW]
    have e : ∀ c, sumG k j (fun g => sm (fun x => if F (u * k + x) = c then NW k m F g ((u * k + x) % m) v else 0) k) = sm (fun x => if F (u * k + x) = c then TW k m j ((u * k + x) % m) v else 0) k := by
      intro c
      rw [sumG_sm (fun g x => if F (u * k + x) = c then NW k m F g ((u * k + x) % m) v else 0) j k]
      refine sm_cong (fun x _ => ?_)
      by_cases q : F (u * k + x) = c
      · simp only [if_pos q]
        exact sumG_NW hF hm v j _ (Nat.mod_lt _ hm)
      · simp only [if_neg q]
        exact sumG_zero j
    rw [sm_cong (fun c _ => e c), sm_swap]
    refine sm_cong (fun x hx => ?_)
    exact sm_one (f := fun _ => TW k m j ((u * k + x) % m) v) (hF u x hu hx)
/-- with a free stretch of j cells between them -/
theorem gap (hF : ∀ u x, u < m → x < k → F (u * k + x) < k) (hm : 0 < m) (y1 y2 : List Nat) (j : Nat) : sumG k j (fun g => N0 k m F (y1 ++ (g ++ y2))) = sm (fun u => sm (fun v => sm (fun a => NW k m F y1 u a * sm (fun b => TW k m j a b * NW k m F y2 b v) m) m) m) m := by
  unfold N0
  rw [sumG_sm (fun g u => sm (fun v => NW k m F (y1 ++ (g ++ y2)) u v) m)]
  refine sm_cong (fun u hu => ?_)
  rw [sumG_sm (fun g v => NW k m F (y1 ++ (g ++ y2)) u v)]
  refine sm_cong (fun v _ => ?_)
  have e1 : (fun g => NW k m F (y1 ++ (g ++ y2)) u v) = fun g => sm (fun a => NW k m F y1 u a * NW k m F (g ++ y2) a v) m := funext fun g => NW_app hm (g ++ y2) v y1 u hu
  rw [e1, sumG_sm (fun g a => NW k m F y1 u a * NW k m F (g ++ y2) a v)]
  refine sm_cong (fun a ha => ?_)
  rw [sumG_mul]
  congr 1
  have e2 : (fun g => NW k m F (g ++ y2) a v) = fun g => sm (fun b => NW k m F g a b * NW k m F y2 b v) m := funext fun g => NW_app hm y2 v g a ha
  rw [e2, sumG_sm (fun g b => NW k m F g a b * NW k m F y2 b v)]
  refine sm_cong (fun b _ => ?_)
  rw [sumG_mulr, sumG_NW hF hm b j a ha]
theorem gap_full (hF : ∀ u x, u < m → x < k → F (u * k + x) < k) (hm : 0 < m) (j : Nat) (hT : ∀ a b, a < m → b < m → TW k m j a b = 1) (y1 y2 : List Nat) : sumG k j (fun g => N0 k m F (y1 ++ (g ++ y2))) = N0 k m F y1 * N0 k m F y2 := by
  rw [gap hF hm]
  have e : ∀ u v, sm (fun a => NW k m F y1 u a * sm (fun b => TW k m j a b * NW k m F y2 b v) m) m = sm (fun a => NW k m F y1 u a) m * sm (fun b => NW k m F y2 b v) m := by
    intro u v
    rw [← sm_mulr]
    refine sm_cong (fun a ha => ?_)
    congr 1
    exact sm_cong (fun b hb => by rw [hT a b ha hb, Nat.one_mul])
  rw [sm_cong (fun u _ => sm_cong (fun v _ => e u v)), sm_cong (fun u _ => sm_mul _ _ m), sm_mulr]
  unfold N0
  rw [sm_swap (fun v b => NW k m F y2 b v)]
theorem ext1 (hF : ∀ u x, u < m → x < k → F (u * k + x) < k) (hm : 0 < m) (y : List Nat) : sm (fun c => N0 k m F (y ++ [c])) k = k * N0 k m F y := by
  have h := gap hF hm y [] 1
  simp only [sumG, List.append_nil] at h
  rw [h]
  unfold N0
  rw [← sm_mul]
  refine sm_cong (fun u _ => ?_)
  have e : ∀ v, v < m → sm (fun a => NW k m F y u a * sm (fun b => TW k m 1 a b * NW k m F [] b v) m) m = sm (fun a => NW k m F y u a * TW k m 1 a v) m := by
    intro v hv
    refine sm_cong (fun a _ => ?_)
    congr 1
    have : (fun b => TW k m 1 a b * NW k m F [] b v) = fun b => if v = b then TW k m 1 a b else 0 := by
      funext b
      simp only [NW]
      by_cases q : b = v
      · rw [if_pos q, if_pos q.symm, Nat.mul_one]
      · rw [if_neg q, if_neg (Ne.symm q), Nat.mul_zero]
    rw [this, sm_one hv]
  rw [sm_cong (fun v hv => e v hv), sm_swap, ← sm_mul]
  refine sm_cong (fun a ha => ?_)
  rw [sm_mul, Nat.mul_comm k]
  congr 1
  simp only [TW]
  rw [sm_swap]
  have : ∀ x, x < k → sm (fun i => if (a * k + x) % m = i then 1 else 0) m = 1 := fun x _ => sm_one (f := fun _ => 1) (Nat.mod_lt _ hm)
  rw [sm_cong this, sm_const, Nat.mul_one]
def okL (k : Nat) (y : List Nat) : Prop := ∀ c ∈ y, c < k
theorem okL_app {y1 y2 : List Nat} (h1 : okL k y1) (h2 : okL k y2) : okL k (y1 ++ y2) := fun c hc => (List.mem_append.mp hc).elim (h1 c) (h2 c)
/-- a longest plateau: where N is greatest, it stays -/
theorem plateau (hF : ∀ u x, u < m → x < k → F (u * k + x) < k) (hm : 0 < m) {ys : List Nat} (hys : okL k ys) (hx : (∀ y, okL k y → N0 k m F y ≤ N0 k m F ys) ∨ (∀ y, okL k y → N0 k m F ys ≤ N0 k m F y)) : ∀ (y : List Nat), okL k y → N0 k m F (ys ++ y) = N0 k m F ys := by
  intro y0
  generalize hn0 : y0.length = n0
  induction n0 generalizing y0 with
  | zero =>
    intro _
    rw [List.length_eq_zero_iff.mp hn0, List.append_nil]
  | succ n0 ih0 =>
    intro hy
    rcases List.eq_nil_or_concat y0 with rfl | ⟨y, c, ey⟩
    · simp at hn0
    rw [List.concat_eq_append] at ey
    subst ey
    have ih := ih0 y (by simpa using hn0)
    have hy1 : okL k y := fun x h => hy x (List.mem_append_left _ h)
    have hc : c < k := hy c (by simp)
    have h1 := ih hy1
    have h2 := ext1 (k := k) hF hm (ys ++ y)
    rw [h1] at h2
    rw [← List.append_assoc]
    have ok : ∀ i, i < k → okL k (ys ++ y ++ [i]) := fun i hi => okL_app (okL_app hys hy1) (fun c hc => by rw [List.mem_singleton.mp hc]; exact hi)
    rcases hx with hx | hx
    · exact sm_top (f := fun c => N0 k m F (ys ++ y ++ [c])) (fun i hi => hx _ (ok i hi)) h2 c hc
    · exact sm_bot (f := fun c => N0 k m F (ys ++ y ++ [c])) (fun i hi => hx _ (ok i hi)) h2 c hc
theorem balanced_of (hF : ∀ u x, u < m → x < k → F (u * k + x) < k) (hm : 0 < m) (j : Nat) (hj : k ^ j = m) (hT : ∀ a b, a < m → b < m → TW k m j a b = 1) {ys : List Nat} (hys : okL k ys) (hpos : 0 < N0 k m F ys) (hx : (∀ y, okL k y → N0 k m F y ≤ N0 k m F ys) ∨ (∀ y, okL k y → N0 k m F ys ≤ N0 k m F y)) : ∀ (y : List Nat), okL k y → N0 k m F y = m := by
  intro y hy
  have h1 := gap_full hF hm j hT ys y
  rw [sumG_const (M := N0 k m F ys) j (fun g hg _ => plateau hF hm hys hx _ (okL_app hg hy)), hj, Nat.mul_comm] at h1
  exact (Nat.eq_of_mul_eq_mul_left hpos h1).symm
theorem least_of {P : List Nat → Prop} {f : List Nat → Nat} (y0 : List Nat) (h0 : P y0) : ∃ ys, P ys ∧ ∀ y, P y → f ys ≤ f y := by
  have : ∀ n y, P y → f y ≤ n → ∃ ys, P ys ∧ ∀ y, P y → f ys ≤ f y := by
    intro n
    induction n with
    | zero => intro y hy hn; exact ⟨y, hy, fun z _ => by omega⟩
    | succ n ih =>
      intro y hy hn
      by_cases q : ∃ z, P z ∧ f z ≤ n
      · obtain ⟨z, hz, hzn⟩ := q
        exact ih z hz hzn
      · refine ⟨y, hy, fun z hz => ?_⟩
        have : ¬ f z ≤ n := fun w => q ⟨z, hz, w⟩
        omega
  exact this (f y0) y0 h0 (Nat.le_refl _)
theorem most_of {P : List Nat → Prop} {f : List Nat → Nat} {B : Nat} (hB : ∀ y, P y → f y ≤ B) (y0 : List Nat) (h0 : P y0) : ∃ ys, P ys ∧ ∀ y, P y → f y ≤ f ys := by
  obtain ⟨ys, h1, h2⟩ := least_of (P := P) (f := fun y => B - f y) y0 h0
  refine ⟨ys, h1, fun y hy => ?_⟩
  have a : B - f ys ≤ B - f y := h2 y hy
  have b := hB y hy; have c := hB ys h1
  omega
theorem N0_nil (hm : 0 < m) : N0 k m F [] = m := by
  unfold N0
  have : ∀ u, u < m → sm (fun v => NW k m F [] u v) m = 1 := fun u hu => sm_one (f := fun _ => 1) hu
  rw [sm_cong this, sm_const, Nat.mul_one]
/-- every row is made: every row is made alike often -/
theorem full_balanced (hF : ∀ u x, u < m → x < k → F (u * k + x) < k) (hm : 0 < m) (j : Nat) (hj : k ^ j = m) (hT : ∀ a b, a < m → b < m → TW k m j a b = 1) (hfull : ∀ y, okL k y → 0 < N0 k m F y) : ∀ y, okL k y → N0 k m F y = m := by
  obtain ⟨ys, h1, h2⟩ := least_of (P := okL k) (f := N0 k m F) [] (fun c h => by cases h)
  exact balanced_of hF hm j hj hT h1 (hfull ys h1) (Or.inr h2)
theorem nodia_balanced (hF : ∀ u x, u < m → x < k → F (u * k + x) < k) (hm : 0 < m) (j : Nat) (hj : k ^ j = m) (hT : ∀ a b, a < m → b < m → TW k m j a b = 1) (hnd : ∀ y u v, u < m → v < m → NW k m F y u v ≤ 1) : ∀ y, okL k y → N0 k m F y = m := by
  have hB : ∀ y, okL k y → N0 k m F y ≤ m * m := by
    intro y _
    unfold N0
    have : ∀ u, u < m → sm (fun v => NW k m F y u v) m ≤ m := fun u hu => by
      have := sm_le (f := fun v => NW k m F y u v) (g := fun _ => 1) (n := m) (fun v hv => hnd y u v hu hv)
      rw [sm_const, Nat.mul_one] at this
      exact this
    have h2 := sm_le this
    rw [sm_const] at h2
    exact h2
  obtain ⟨ys, h1, h2⟩ := most_of (P := okL k) (f := N0 k m F) hB [] (fun c h => by cases h)
  have h3 := h2 [] (fun c h => by cases h)
  rw [N0_nil hm] at h3
  exact balanced_of hF hm j hj hT h1 (by omega) (Or.inl h2)
theorem NW_ok (hF : ∀ u x, u < m → x < k → F (u * k + x) < k) (hm : 0 < m) (v : Nat) : ∀ (y : List Nat) (u : Nat), u < m → 0 < NW k m F y u v → okL k y
  | [], _, _, _ => fun c h => by cases h
  | c :: y, u, hu, h => by
    obtain ⟨x, hx, hp⟩ := sm_pos h
    by_cases q : F (u * k + x) = c
    · rw [if_pos q] at hp
      intro z hz
      rcases List.mem_cons.mp hz with rfl | hz
      · rw [← q]; exact hF u x hu hx
      · exact NW_ok hF hm v y _ (Nat.mod_lt _ hm) hp z hz
    · rw [if_neg q] at hp
      exact absurd hp (Nat.lt_irrefl 0)
theorem NW_mul (hm : 0 < m) {y1 y2 : List Nat} {u w v : Nat} (hu : u < m) (hw : w < m) : NW k m F y1 u w * NW k m F y2 w v ≤ NW k m F (y1 ++ y2) u v := by
  rw [NW_app hm y2 v y1 u hu]
  exact sm_part (f := fun w => NW k m F y1 u w * NW k m F y2 w v) hw
theorem sumG_pos {f : List Nat → Nat} : ∀ j, 0 < sumG k j f → ∃ g, okL k g ∧ 0 < f g := by
  intro j
  induction j generalizing f with
  | zero => intro h; exact ⟨[], (fun c h => by cases h), h⟩
  | succ j ih =>
    intro h
    obtain ⟨c, hc, h2⟩ := sm_pos h
    obtain ⟨g, h3, h4⟩ := ih h2
    exact ⟨c :: g, fun z hz => by
      rcases List.mem_cons.mp hz with rfl | hz
      · exact hc
      · exact h3 z hz, h4⟩
theorem balanced_nodia (hF : ∀ u x, u < m → x < k → F (u * k + x) < k) (hm : 0 < m) (hm9 : m ≤ 9) (j : Nat) (hT : ∀ a b, a < m → b < m → TW k m j a b = 1) (hb : ∀ y, okL k y → N0 k m F y = m) : ∀ y u v, u < m → v < m → NW k m F y u v ≤ 1 := by
  intro y u v hu hv
  rcases Nat.lt_or_ge 1 (NW k m F y u v) with q | q
  · exfalso
    have hg : 0 < sumG k j (fun g => NW k m F g v u) := by rw [sumG_NW hF hm u j v hv, hT v u hv hu]; exact Nat.one_pos
    obtain ⟨g, hg1, hg2⟩ := sumG_pos j hg
    have h1 : 2 ≤ NW k m F (y ++ g) u u := by
      have h2 := NW_mul (k := k) (F := F) hm (y1 := y) (y2 := g) (v := u) hu hv
      have h3 : 2 * 1 ≤ NW k m F y u v * NW k m F g v u := Nat.mul_le_mul q hg2
      omega
    have h4 : 4 ≤ NW k m F ((y ++ g) ++ (y ++ g)) u u := by
      have h2 := NW_mul (k := k) (F := F) hm (y1 := y ++ g) (y2 := y ++ g) (v := u) hu hu
      have h3 : 2 * 2 ≤ NW k m F (y ++ g) u u * NW k m F (y ++ g) u u := Nat.mul_le_mul h1 h1
      omega
    have h16 : 16 ≤ NW k m F (((y ++ g) ++ (y ++ g)) ++ ((y ++ g) ++ (y ++ g))) u u := by
      have h2 := NW_mul (k := k) (F := F) hm (y1 := (y ++ g) ++ (y ++ g)) (y2 := (y ++ g) ++ (y ++ g)) (v := u) hu hu
      have h3 : 4 * 4 ≤ NW k m F ((y ++ g) ++ (y ++ g)) u u * NW k m F ((y ++ g) ++ (y ++ g)) u u := Nat.mul_le_mul h4 h4
      omega
    have hok := NW_ok hF hm u _ u hu (show 0 < NW k m F (((y ++ g) ++ (y ++ g)) ++ ((y ++ g) ++ (y ++ g))) u u by omega)
    have h5 := hb _ hok
    have h6 : NW k m F (((y ++ g) ++ (y ++ g)) ++ ((y ++ g) ++ (y ++ g))) u u ≤ N0 k m F (((y ++ g) ++ (y ++ g)) ++ ((y ++ g) ++ (y ++ g))) := by
      unfold N0
      exact Nat.le_trans (sm_part (f := fun v => NW k m F _ u v) hu) (sm_part (f := fun u => sm (fun v => NW k m F _ u v) m) hu)
    omega
  · exact q
end WK

/-! Walks: how many lead to a row, and the first. -/
theorem lN_le0 {n : Nat} (hn : n < 2 ^ 63) : (lg_cmp (lN n) (0 : Int64) ≤ 0) ↔ n = 0 := by
  rw [lg_cmp_le, show (0 : Int64) = lN 0 from rfl, Int64.le_iff_toInt_le, show (lN n).toInt = (n : Int) from lg_ofNat_toInt hn, show (lN 0).toInt = ((0 : Nat) : Int) from lg_ofNat_toInt (by decide)]
  omega
theorem lN_eq0 {n : Nat} (hn : n < 2 ^ 63) : (lg_cmp (lN n) (0 : Int64) = 0) ↔ n = 0 := by
  rw [lg_cmp_eq, show (0 : Int64) = lN 0 from rfl, ← Int64.toInt_inj, show (lN n).toInt = (n : Int) from lg_ofNat_toInt hn, show (lN 0).toInt = ((0 : Nat) : Int) from lg_ofNat_toInt (by decide)]
  omega
theorem updL_self {f : Nat → Int64} {i : Nat} {x : Int64} : vp_updL f i x i = x := if_pos rfl
theorem updL_ne {f : Nat → Int64} {i j : Nat} {x : Int64} (h : j ≠ i) : vp_updL f i x j = f j := if_neg h
/-- the first of e numbers from i on, else d -/
def fnd (p : Nat → Prop) [DecidablePred p] (d : Nat) : Nat → Nat → Nat
  | 0, _ => d
  | q + 1, i => if p i then i else fnd p d q (i + 1)
theorem fnd_lt {p : Nat → Prop} [DecidablePred p] {d e : Nat} (hd : d < e) : ∀ q i, i + q ≤ e → fnd p d q i < e
  | 0, _, _ => hd
  | q + 1, i, h => by
    unfold fnd
    split
    · omega
    · exact fnd_lt hd q (i + 1) (by omega)
/-- the ways over d cells from place i on, from a node; G: the weight of the last node -/
def wy (k m : Nat) (F c G : Nat → Nat) : Nat → Nat → Nat → Nat
  | 0, _, v => G v
  | d + 1, i, v => sm (fun x => if F (v * k + x) = c i then wy k m F c G d (i + 1) ((v * k + x) % m) else 0) k
theorem wy_le {k m : Nat} {F c G : Nat → Nat} (hG : ∀ v, G v ≤ 1) : ∀ d i v, wy k m F c G d i v ≤ k ^ d
  | 0, _, v => hG v
  | d + 1, i, v => by
    unfold wy
    refine Nat.le_trans (sm_le (g := fun _ => k ^ d) fun x _ => ?_) ?_
    · split
      · exact wy_le hG d _ _
      · exact Nat.zero_le _
    · rw [sm_const, Nat.pow_succ, Nat.mul_comm]
      exact Nat.le_refl _
theorem pow_40 {k d : Nat} (hk : k ≤ 4) (hd : d ≤ 20) : k ^ d ≤ 2 ^ 40 := by
  refine Nat.le_trans (Nat.pow_le_pow_left hk d) (Nat.le_trans (Nat.pow_le_pow_right (by decide) hd) ?_)
  decide
section WK
variable {h : Hp} {a k r : Nat} {F : Nat → Nat} {st : Int32} {f : Nat → Int64}
def wo (a : Nat) (st : Int32) : HC := oC 5 [vR 12, vR a, vI st]
theorem w0 (e : h[11]? = some (wo a st)) : gR h 11 5 0 = some 12 := gR_of (by decide) e rfl
theorem w1 (e : h[11]? = some (wo a st)) : gR h 11 5 1 = some a := gR_of (by decide) e rfl
theorem w2 (e : h[11]? = some (wo a st)) : gI h 11 5 2 = some st := gI_of (by decide) e rfl
theorem wok (e : h[11]? = some (wo a st)) {β : Type} {x : Option β} : oK h 11 5 x = x := oK_of (by decide) e
theorem waysFrom_ok (e : h[11]? = some (wo a st)) (e12 : h[12]? = some (lC 189 f)) {i v : Nat} (hi : i ≤ 20) (hv : v < 9) : fX5_waysFrom h 11 (nI i) (nI v) = some (f (i * 9 + v), h) := by
  unfold fX5_waysFrom
  rw [setv_ok, show (9 : Int32) = nI 9 from rfl, pk_mul, nI_add, if_neg (nI_nn (by omega)), w0 e]
  simp only [Option.bind_some]
  rw [aN_ofL (by decide) e12]
  simp only [Option.bind_some]
  rw [if_leI (by omega) (by omega), if_neg (by omega), aL_of (by decide) e12 (by omega) (by decide)]
  rfl
theorem putWays_ok (e : h[11]? = some (wo a st)) (e12 : h[12]? = some (lC 189 f)) {i v : Nat} {x : Int64} (hi : i ≤ 20) (hv : v < 9) : fX5_putWays h 11 (nI i) (nI v) x = some (h.set 12 (lC 189 (vp_updL f (i * 9 + v) x))) := by
  unfold fX5_putWays
  rw [setv_ok, show (9 : Int32) = nI 9 from rfl, pk_mul, nI_add, if_neg (nI_nn (by omega)), w0 e]
  simp only [Option.bind_some]
  rw [aN_ofL (by decide) e12]
  simp only [Option.bind_some]
  rw [if_leI (by omega) (by omega), if_neg (by omega), sL_of (by decide) e12 (by omega) (by decide)]
  rfl
theorem waysOver_ok (g : GR k r F) (R : RuleAt h a (a + 1) k r F) (e : h[11]? = some (wo a st)) (e12 : h[12]? = some (lC 189 f)) {G : Nat → Nat} {i v c : Nat} (hi : i < 20) (hv : v < k ^ (r - 1)) (hc : c < 1000) (hG : ∀ v, v < k ^ (r - 1) → f ((i + 1) * 9 + v) = lN (G v)) : fX5_waysOver h 11 (nI i) (nI v) (nI c) = some (lN (sm (fun x => if F (v * k + x) = c then G ((v * k + x) % k ^ (r - 1)) else 0) k), h) := by
  obtain ⟨n1, n2, n3, n4, n5⟩ := g.nums
  obtain ⟨g1, g2, g3, g4, gF⟩ := id g
  unfold fX5_waysOver
  have key := upto (fun q x => fX5_waysOver_w6 q 11 (nI i) (nI v) (nI c) (lN (sm (fun x => if F (v * k + x) = c then G ((v * k + x) % k ^ (r - 1)) else 0) x)) (nI x) h) k (some (lN (sm (fun x => if F (v * k + x) = c then G ((v * k + x) % k ^ (r - 1)) else 0) k), h)) (fun q x hx => by
    have hw : v * k + x < k ^ r := by
      rw [n4]
      have : (v + 1) * k ≤ k ^ (r - 1) * k := Nat.mul_le_mul_right k hv
      rw [Nat.succ_mul] at this
      omega
    have hF := gF _ hw
    rw [fX5_waysOver_w6]
    simp only []
    rw [w1 e]
    simp only [Option.bind_some]
    rw [rk R]
    simp only [Option.bind_some]
    rw [if_leI (by omega) (by omega), if_neg (by omega), setv_ok, pk_mul, nI_add, rok R, tells_ok g R hw, call_ok, if_eqI (by omega) (by omega)]
    unfold fX5_waysOver_b67
    rw [sm]
    by_cases q1 : F (v * k + x) = c
    · rw [if_pos q1, if_pos q1, w1 e]
      simp only [Option.bind_some]
      rw [rn R]
      simp only [Option.bind_some]
      rw [iRem_nI (by omega) (by omega) (by omega), wok e, nI_p1, waysFrom_ok e e12 (by omega) (by have := Nat.mod_lt (v * k + x) (show k ^ (r - 1) > 0 by omega); omega), call_ok, setv_ok, hG _ (Nat.mod_lt _ (by omega)), lN_add, nI_p1]
    · rw [if_neg q1, if_neg q1, nI_p1]
      rfl) (fun q => by
    rw [fX5_waysOver_w6]
    simp only []
    rw [w1 e]
    simp only [Option.bind_some]
    rw [rk R]
    simp only [Option.bind_some]
    rw [if_leI (by omega) (by omega), if_pos (Nat.le_refl _)]) 0 FUEL (by omega) (fuel_big (by omega))
  rw [l0]
  exact key
theorem firstCell_ok (g : GR k r F) (R : RuleAt h a (a + 1) k r F) (e : h[11]? = some (wo a st)) (e12 : h[12]? = some (lC 189 f)) {G : Nat → Nat} {i v c : Nat} (hi : i < 20) (hv : v < k ^ (r - 1)) (hc : c < 1000) (hG : ∀ v, v < k ^ (r - 1) → f ((i + 1) * 9 + v) = lN (G v) ∧ G v < 2 ^ 50) : fX5_firstCell h 11 (nI i) (nI v) (nI c) = some (nI (fnd (fun x => F (v * k + x) = c ∧ 0 < G ((v * k + x) % k ^ (r - 1))) 0 k 0), h) := by
  obtain ⟨n1, n2, n3, n4, n5⟩ := g.nums
  obtain ⟨g1, g2, g3, g4, gF⟩ := id g
  unfold fX5_firstCell
  have key : ∀ d x fuel, x + d = k → d < fuel → fX5_firstCell_w3 fuel 11 (nI i) (nI v) (nI c) (nI x) h = some (nI (fnd (fun x => F (v * k + x) = c ∧ 0 < G ((v * k + x) % k ^ (r - 1))) 0 d x), h) := by
    intro d
    induction d with
    | zero =>
      intro x fuel hx hf
      obtain ⟨q, rfl⟩ : ∃ q, fuel = q + 1 := ⟨fuel - 1, by omega⟩
      rw [fX5_firstCell_w3]
      simp only []
      rw [w1 e]
      simp only [Option.bind_some]
      rw [rk R]
      simp only [Option.bind_some]
      rw [if_leI (by omega) (by omega), if_pos (by omega)]
      rfl
    | succ d ih =>
      intro x fuel hx hf
      obtain ⟨q, rfl⟩ : ∃ q, fuel = q + 1 := ⟨fuel - 1, by omega⟩
      have hw : v * k + x < k ^ r := by
        rw [n4]
        have : (v + 1) * k ≤ k ^ (r - 1) * k := Nat.mul_le_mul_right k hv
        rw [Nat.succ_mul] at this
        omega
      have hF := gF _ hw
      rw [fX5_firstCell_w3]
      simp only []
      rw [w1 e]
      simp only [Option.bind_some]
      rw [rk R]
      simp only [Option.bind_some]
      rw [if_leI (by omega) (by omega), if_neg (by omega), setv_ok, pk_mul, nI_add, rok R, tells_ok g R hw, call_ok, if_eqI (by omega) (by omega), fnd]
      unfold fX5_firstCell_b67
      have hm := Nat.mod_lt (v * k + x) (show k ^ (r - 1) > 0 by omega)
      obtain ⟨hG1, hG2⟩ := hG _ hm
      by_cases q1 : F (v * k + x) = c
      · rw [if_pos q1, w1 e]
        simp only [Option.bind_some]
        rw [rn R]
        simp only [Option.bind_some]
        rw [iRem_nI (by omega) (by omega) (by omega), wok e, nI_p1, waysFrom_ok e e12 (by omega) (by omega), call_ok, hG1, nI_p1]
        by_cases q2 : G ((v * k + x) % k ^ (r - 1)) = 0
        · rw [if_pos ((lN_le0 (by omega)).mpr q2), if_neg (fun z => by omega)]
          exact ih (x + 1) q (by omega) (by omega)
        · rw [if_neg (fun z => q2 ((lN_le0 (by omega)).mp z)), if_pos ⟨q1, by omega⟩]
      · rw [if_neg q1, if_neg (fun z => q1 z.1), nI_p1]
        exact ih (x + 1) q (by omega) (by omega)
  rw [l0]
  exact key k 0 FUEL (by omega) (fuel_big (by omega))
/-- weigh: all rows of ways, from the last to the first -/
theorem weigh_ok (g : GR k r F) (ha : 44 ≤ a) (R : RuleAt h a (a + 1) k r F) (e : h[11]? = some (wo a st)) (e12 : h[12]? = some (lC 189 f)) {tf : Nat → Int32} {c G : Nat → Nat} {n : Nat} (e6 : h[6]? = some (aC 0 100 tf)) (hn : n ≤ 20) (hc : ∀ i, i < n → tf i = nI (c i) ∧ c i < 1000) {goal : Int32} (hgl : ∀ v, v < k ^ (r - 1) → (goal = -1 ∨ goal = nI v → G v = 1) ∧ (¬ (goal = -1 ∨ goal = nI v) → G v = 0)) : ∃ f', fX5_weigh h 11 6 (nI n) goal = some (h.set 12 (lC 189 f')) ∧ ∀ i v, i ≤ n → v < k ^ (r - 1) → f' (i * 9 + v) = lN (wy k (k ^ (r - 1)) F c G (n - i) i v) := by
  obtain ⟨n1, n2, n3, n4, n5⟩ := g.nums
  obtain ⟨g1, g2, g3, g4, gF⟩ := id g
  have E : ∀ f', (h.set 12 (lC 189 f'))[11]? = some (wo a st) := fun f' => st_n' (by decide) e
  have E12 : ∀ f', (h.set 12 (lC 189 f'))[12]? = some (lC 189 f') := fun f' => st_s e12
  have E6 : ∀ f', (h.set 12 (lC 189 f'))[6]? = some (aC 0 100 tf) := fun f' => st_n' (by decide) e6
  have ER : ∀ f', RuleAt (h.set 12 (lC 189 f')) a (a + 1) k r F := fun f' => R.set (by omega) (by omega)
  -- the last row
  have k1 := uptoI (fun q i H => fX5_weigh_w3 q 11 6 (nI n) goal (nI i) H) (k ^ (r - 1)) (fun i H => ∃ f', H = h.set 12 (lC 189 f') ∧ ∀ v, v < i → f' (n * 9 + v) = lN (G v)) (by
    rintro q i H hi ⟨f', rfl, hf⟩
    refine ⟨h.set 12 (lC 189 (vp_updL f' (n * 9 + i) (lN (G i)))), ?_, _, rfl, fun v hv => ?_⟩
    · rw [fX5_weigh_w3]
      simp only []
      rw [w1 (E f')]
      simp only [Option.bind_some]
      rw [rn (ER f')]
      simp only [Option.bind_some]
      rw [if_leI (by omega) (by omega), if_neg (by omega)]
      have hp : ∀ x : Int64, fX5_weigh_b35 (fX5_weigh_w3 q) 11 6 (nI n) goal (nI i) x (nI i) (nI n) 11 (h.set 12 (lC 189 f')) = fX5_weigh_w3 q 11 6 (nI n) goal (nI (i + 1)) (h.set 12 (lC 189 (vp_updL f' (n * 9 + i) x))) := by
        intro x
        unfold fX5_weigh_b35
        rw [wok (E f'), putWays_ok (E f') (E12 f') (by omega) (by omega)]
        simp only [Option.bind_some]
        rw [List.set_set, nI_p1]
      unfold fX5_weigh_b30
      rw [hp, hp]
      obtain ⟨y1, y2⟩ := hgl i hi
      by_cases q1 : goal = -1
      · rw [if_pos q1, y1 (Or.inl q1)]; rfl
      · rw [if_neg q1]
        by_cases q2 : goal = nI i
        · rw [if_pos q2, y1 (Or.inr q2)]; rfl
        · rw [if_neg q2, y2 (fun z => z.elim q1 q2)]; rfl
    · by_cases q1 : v = i
      · rw [q1, updL_self]
      · rw [updL_ne (by omega), hf v (by omega)]) 0 FUEL h (by omega) (fuel_big (by omega)) ⟨f, (st_id e12).symm, fun v hv => by omega⟩
  obtain ⟨fu, H, k2, f1, rfl, k3⟩ := k1
  -- the rows before
  have k4 : ∀ i fuel f', i ≤ n → i < fuel → (∀ j v, i ≤ j → j ≤ n → v < k ^ (r - 1) → f' (j * 9 + v) = lN (wy k (k ^ (r - 1)) F c G (n - j) j v)) → ∃ f2, fX5_weigh_w54 fuel 11 6 (nI i - 1) (h.set 12 (lC 189 f')) = some (h.set 12 (lC 189 f2)) ∧ ∀ j v, j ≤ n → v < k ^ (r - 1) → f2 (j * 9 + v) = lN (wy k (k ^ (r - 1)) F c G (n - j) j v) := by
    intro i
    induction i with
    | zero =>
      intro fuel f' hi hf hJ
      obtain ⟨q, rfl⟩ : ∃ q, fuel = q + 1 := ⟨fuel - 1, by omega⟩
      refine ⟨f', ?_, fun j v hj hv => hJ j v (by omega) hj hv⟩
      rw [fX5_weigh_w54]
      simp only []
      rw [if_pos (by decide)]
    | succ i ih =>
      intro fuel f' hi hf hJ
      obtain ⟨q, rfl⟩ : ∃ q, fuel = q + 1 := ⟨fuel - 1, by omega⟩
      rw [fX5_weigh_w54]
      simp only []
      rw [i_sub1 (by omega), Nat.add_sub_cancel, if_neg (nI_nn (by omega)), l0]
      obtain ⟨c1, c2⟩ := hc i (by omega)
      have k5 := uptoI (fun q2 v H => fX5_weigh_w62 (fX5_weigh_w54 q) q2 11 6 (nI i) (nI v) H) (k ^ (r - 1)) (fun v0 H => ∃ f3, H = h.set 12 (lC 189 f3) ∧ (∀ v, v < v0 → f3 (i * 9 + v) = lN (wy k (k ^ (r - 1)) F c G (n - i) i v)) ∧ ∀ j v, i + 1 ≤ j → j ≤ n → v < k ^ (r - 1) → f3 (j * 9 + v) = lN (wy k (k ^ (r - 1)) F c G (n - j) j v)) (by
        rintro q2 v H hv ⟨f3, rfl, h1, h2⟩
        have hov := waysOver_ok g (ER f3) (E f3) (E12 f3) (G := wy k (k ^ (r - 1)) F c G (n - (i + 1)) (i + 1)) (i := i) (v := v) (c := c i) (by omega) hv c2 (fun v hv => h2 (i + 1) v (Nat.le_refl _) hi hv)
        have hwy : wy k (k ^ (r - 1)) F c G (n - i) i v = sm (fun x => if F (v * k + x) = c i then wy k (k ^ (r - 1)) F c G (n - (i + 1)) (i + 1) ((v * k + x) % k ^ (r - 1)) else 0) k := by
          rw [show n - i = (n - (i + 1)) + 1 by omega]; rfl
        rw [← hwy] at hov
        refine ⟨h.set 12 (lC 189 (vp_updL f3 (i * 9 + v) (lN (wy k (k ^ (r - 1)) F c G (n - i) i v)))), ?_, _, rfl, fun w hw => ?_, fun j w hj1 hj2 hw => ?_⟩
        · rw [fX5_weigh_w62]
          simp only []
          rw [w1 (E f3)]
          simp only [Option.bind_some]
          rw [rn (ER f3)]
          simp only [Option.bind_some]
          rw [if_leI (by omega) (by omega), if_neg (by omega), aI_of (E6 f3) (by omega) (by decide), c1]
          simp only [Option.bind_some]
          rw [wok (E f3), hov, call_ok, wok (E f3), putWays_ok (E f3) (E12 f3) (by omega) (by omega)]
          simp only [Option.bind_some]
          rw [List.set_set, nI_p1]
        · by_cases q1 : w = v
          · rw [q1, updL_self]
          · rw [updL_ne (by omega), h1 w (by omega)]
        · rw [updL_ne (by omega), h2 j w hj1 hj2 hw]) 0 FUEL (h.set 12 (lC 189 f')) (by omega) (fuel_big (by omega)) ⟨f', rfl, fun v hv => by omega, hJ⟩
      obtain ⟨fu, H, k6, f3, rfl, k7, k8⟩ := k5
      obtain ⟨f2, k9, k10⟩ := ih q f3 (by omega) (by omega) (fun j v hj1 hj2 hv => by
        by_cases q1 : j = i
        · rw [q1]; exact k7 v hv
        · exact k8 j v (by omega) hj2 hv)
      refine ⟨f2, ?_, k10⟩
      refine Eq.trans k6 ?_
      rw [fX5_weigh_w62]
      simp only []
      rw [w1 (E f3)]
      simp only [Option.bind_some]
      rw [rn (ER f3)]
      simp only [Option.bind_some]
      rw [if_leI (by omega) (by omega), if_pos (Nat.le_refl _)]
      unfold fX5_weigh_b100
      rw [i_m1]
      exact k9
  obtain ⟨f2, k5, k6⟩ := k4 n FUEL f1 (Nat.le_refl _) (fuel_big (by omega)) (fun j v hj1 hj2 hv => by
    have : j = n := by omega
    subst this
    rw [Nat.sub_self]
    exact k3 v hv)
  refine ⟨f2, ?_, k6⟩
  unfold fX5_weigh
  rw [l0]
  refine Eq.trans k2 ?_
  rw [fX5_weigh_w3]
  simp only []
  rw [w1 (E f1)]
  simp only [Option.bind_some]
  rw [rn (ER f1)]
  simp only [Option.bind_some]
  rw [if_leI (by omega) (by omega), if_pos (Nat.le_refl _)]
  unfold fX5_weigh_b44
  rw [aN_of (E6 f1) (by decide)]
  simp only [Option.bind_some, setv_ok]
  rw [iMin_nI (by omega) (by omega), Nat.min_eq_left (by omega)]
  exact k5
end WK

theorem fnd_eq {p : Nat → Prop} [DecidablePred p] {d v : Nat} (hv : p v) : ∀ q i, i ≤ v → v < i + q → (∀ u, i ≤ u → u < v → ¬ p u) → fnd p d q i = v
  | 0, i, h1, h2, _ => by omega
  | q + 1, i, h1, h2, hno => by
    unfold fnd
    by_cases z : i = v
    · rw [z, if_pos hv]
    · rw [if_neg (hno i (Nat.le_refl _) (by omega))]
      exact fnd_eq hv q (i + 1) (by omega) (by omega) (fun u h3 h4 => hno u (by omega) h4)
/-- the first cell at place i from node v on -/
def fcN (k m : Nat) (F c G : Nat → Nat) (n i v : Nat) : Nat := fnd (fun x => F (v * k + x) = c i ∧ 0 < wy k m F c G (n - (i + 1)) (i + 1) ((v * k + x) % m)) 0 k 0
/-- the nodes of the first walk -/
def ndN (k m : Nat) (F c G : Nat → Nat) (n v0 : Nat) : Nat → Nat
  | 0 => v0
  | i + 1 => (ndN k m F c G n v0 i * k + fcN k m F c G n i (ndN k m F c G n v0 i)) % m
/-- the cells of the first walk -/
def frN (k r : Nat) (F c G : Nat → Nat) (n v0 j : Nat) : Nat := if j < r - 1 then dg k (r - 1) v0 j else fcN k (k ^ (r - 1)) F c G n (j - (r - 1)) (ndN k (k ^ (r - 1)) F c G n v0 (j - (r - 1)))
theorem ndN_lt {k m : Nat} {F c G : Nat → Nat} {n v0 : Nat} (hm : 0 < m) (hv : v0 < m) : ∀ i, ndN k m F c G n v0 i < m
  | 0 => hv
  | i + 1 => Nat.mod_lt _ hm
theorem frN_lt {k r : Nat} {F c G : Nat → Nat} {n v0 j : Nat} (hk : 0 < k) : frN k r F c G n v0 j < k := by
  unfold frN
  split
  · exact dg_lt hk
  · exact fnd_lt hk k 0 (by omega)
section WL
variable {h : Hp} {a k r : Nat} {F : Nat → Nat} {f : Nat → Int64}
theorem writeFirst_ok (g : GR k r F) (ha : 44 ≤ a) (R : RuleAt h a (a + 1) k r F) {v0 n : Nat} {tf uf : Nat → Int32} {c G : Nat → Nat} (hv0 : v0 < k ^ (r - 1)) (e : h[11]? = some (wo a (nI v0))) (e12 : h[12]? = some (lC 189 f)) (e6 : h[6]? = some (aC 0 100 tf)) (e7 : h[7]? = some (aC 0 512 uf)) (hn : n ≤ 20) (hc : ∀ i, i < n → tf i = nI (c i) ∧ c i < 1000) (hG : ∀ v, G v ≤ 1) (hw : ∀ i v, i ≤ n → v < k ^ (r - 1) → f (i * 9 + v) = lN (wy k (k ^ (r - 1)) F c G (n - i) i v)) : fX5_writeFirst h 11 6 (nI n) 7 = some (nI (r - 1 + n), h.set 7 (aC 0 512 (fillN (fun j => nI (frN k r F c G n v0 j)) (r - 1 + n) uf))) := by
  obtain ⟨n1, n2, n3, n4, n5⟩ := g.nums
  obtain ⟨g1, g2, g3, g4, gF⟩ := id g
  unfold fX5_writeFirst
  rw [w1 e]
  simp only [Option.bind_some]
  rw [rr R]
  simp only [Option.bind_some, setv_ok]
  rw [w2 e]
  simp only [Option.bind_some]
  rw [if_neg (fun z => nI_nm1 (by omega) z), aN_of e6 (by decide)]
  simp only [Option.bind_some]
  rw [if_ltI (by omega) (by omega), if_neg (by omega), aN_of e7 (by decide)]
  simp only [Option.bind_some]
  rw [i_sub1 g3, nI_add, if_leI (by omega) (by omega), if_pos (by omega), rok R, spread_ok g (show r - 1 ≤ 512 by omega) (by decide) (by omega) (by decide) (by omega) (by omega) R e7]
  simp only [Option.bind_some]
  rw [w2 (st_n' (by decide) e)]
  simp only [Option.bind_some]
  have hfill : fillN (fun j => nI (dg k (r - 1) v0 j)) (r - 1) uf = fillN (fun j => nI (frN k r F c G n v0 j)) (r - 1 + 0) uf := by
    funext j
    unfold fillN
    by_cases q : j < r - 1
    · rw [if_pos q, if_pos (by omega)]
      show nI _ = nI _
      unfold frN
      rw [if_pos q]
    · rw [if_neg q, if_neg (by omega)]
  rw [hfill]
  have key := upto (fun q i => fX5_writeFirst_w59 q 11 6 (nI n) 7 (nI (r - 1)) (nI (ndN k (k ^ (r - 1)) F c G n v0 i)) (nI i) (h.set 7 (aC 0 512 (fillN (fun j => nI (frN k r F c G n v0 j)) (r - 1 + i) uf)))) n (some (nI (r - 1 + n), h.set 7 (aC 0 512 (fillN (fun j => nI (frN k r F c G n v0 j)) (r - 1 + n) uf)))) (fun q i hi => by
    obtain ⟨c1, c2⟩ := hc i hi
    have hnd := ndN_lt (k := k) (F := F) (c := c) (G := G) (n := n) (show 0 < k ^ (r - 1) by omega) hv0 i
    have E : ∀ u, (h.set 7 (aC 0 512 u))[11]? = some (wo a (nI v0)) := fun u => st_n' (by decide) e
    have E12 : ∀ u, (h.set 7 (aC 0 512 u))[12]? = some (lC 189 f) := fun u => st_n' (by decide) e12
    have E6 : ∀ u, (h.set 7 (aC 0 512 u))[6]? = some (aC 0 100 tf) := fun u => st_n' (by decide) e6
    have E7 : ∀ u, (h.set 7 (aC 0 512 u))[7]? = some (aC 0 512 u) := fun u => st_s e7
    have ER : ∀ u, RuleAt (h.set 7 (aC 0 512 u)) a (a + 1) k r F := fun u => R.set (by omega) (by omega)
    have hfc := firstCell_ok g (ER (fillN (fun j => nI (frN k r F c G n v0 j)) (r - 1 + i) uf)) (E _) (E12 _) (G := wy k (k ^ (r - 1)) F c G (n - (i + 1)) (i + 1)) (i := i) (v := ndN k (k ^ (r - 1)) F c G n v0 i) (c := c i) (by omega) hnd c2 (fun v hv => ⟨hw (i + 1) v hi hv, by
      have b1 := wy_le (k := k) (m := k ^ (r - 1)) (F := F) (c := c) hG (n - (i + 1)) (i + 1) v
      have b2 := pow_40 g2 (show n - (i + 1) ≤ 20 by omega)
      omega⟩)
    have hfc2 : fnd (fun x => F (ndN k (k ^ (r - 1)) F c G n v0 i * k + x) = c i ∧ 0 < wy k (k ^ (r - 1)) F c G (n - (i + 1)) (i + 1) ((ndN k (k ^ (r - 1)) F c G n v0 i * k + x) % k ^ (r - 1))) 0 k 0 = fcN k (k ^ (r - 1)) F c G n i (ndN k (k ^ (r - 1)) F c G n v0 i) := rfl
    rw [hfc2] at hfc
    have hlt : fcN k (k ^ (r - 1)) F c G n i (ndN k (k ^ (r - 1)) F c G n v0 i) < k := fnd_lt (by omega) k 0 (by omega)
    have hb : ndN k (k ^ (r - 1)) F c G n v0 i * k ≤ 9 * 4 := Nat.mul_le_mul (by omega) g2
    have hfr : frN k r F c G n v0 (r - 1 + i) = fcN k (k ^ (r - 1)) F c G n i (ndN k (k ^ (r - 1)) F c G n v0 i) := by
      unfold frN
      rw [if_neg (by omega), Nat.add_sub_cancel_left]
    rw [fX5_writeFirst_w59]
    simp only []
    rw [if_leI (by omega) (by omega), if_neg (by omega), aI_of (E6 _) (by omega) (by decide), c1]
    simp only [Option.bind_some]
    rw [wok (E _), hfc, call_ok, nI_add, sI_of (by decide) (E7 _) (by omega) (by decide), x_nar0]
    simp only [Option.bind_some]
    rw [List.set_set, ← hfr, fillN_s (f := fun j => nI (frN k r F c G n v0 j)), w1 (E _)]
    simp only [Option.bind_some]
    rw [rk (ER _)]
    simp only [Option.bind_some]
    rw [rn (ER _)]
    simp only [Option.bind_some]
    rw [hfr, pk_mul, nI_add, iRem_nI (by omega) (by omega) (by omega), nI_p1]
    rfl) (fun q => by
    rw [fX5_writeFirst_w59]
    simp only []
    rw [if_leI (by omega) (by omega), if_pos (Nat.le_refl _), nI_add]) 0 FUEL (by omega) (fuel_big (by omega))
  rw [l0]
  exact key
/-- the weight of the last node: any -/
def g1N : Nat → Nat := fun _ => 1
/-- the weight of the last node: where it began -/
def gvN (v : Nat) : Nat → Nat := fun u => if u = v then 1 else 0
theorem gvN_le (v u : Nat) : gvN v u ≤ 1 := by unfold gvN; split <;> omega
/-- a step of the search for the first start -/
theorem first_step {p : Nat → Prop} {i : Nat} {s : Int32} (hi : i < 1000) (hs : ((∀ v, v < i → ¬ p v) ∧ s = -1) ∨ ∃ v0, v0 < i ∧ p v0 ∧ (∀ v, v < v0 → ¬ p v) ∧ s = nI v0) : (s = -1 ∧ p i → ((∀ v, v < i + 1 → ¬ p v) ∧ nI i = -1) ∨ ∃ v0, v0 < i + 1 ∧ p v0 ∧ (∀ v, v < v0 → ¬ p v) ∧ nI i = nI v0) ∧ (¬ (s = -1 ∧ p i) → ((∀ v, v < i + 1 → ¬ p v) ∧ s = -1) ∨ ∃ v0, v0 < i + 1 ∧ p v0 ∧ (∀ v, v < v0 → ¬ p v) ∧ s = nI v0) := by
  rcases hs with ⟨h1, h2⟩ | ⟨v0, h1, h2, h3, h4⟩
  · refine ⟨fun z => Or.inr ⟨i, by omega, z.2, h1, rfl⟩, fun z => Or.inl ⟨fun v hv => ?_, h2⟩⟩
    by_cases q : v = i
    · rw [q]; exact fun y => z ⟨h2, y⟩
    · exact h1 v (by omega)
  · refine ⟨fun z => absurd (h4.symm.trans z.1) (fun y => nI_nm1 (by omega) y), fun _ => Or.inr ⟨v0, by omega, h2, h3, h4⟩⟩
theorem wp1 {st : Int32} {x : Nat} (e : h[11]? = some (wo a st)) : pF h 11 5 1 (vR x) = some (h.set 11 (wo x st)) := pF_of (by decide) e (by simp)
theorem wp2 {st x : Int32} (e : h[11]? = some (wo a st)) : pF h 11 5 2 (vI x) = some (h.set 11 (wo a x)) := pF_of (by decide) e (by simp)
theorem waysFrom0 {st : Int32} (e : h[11]? = some (wo a st)) (e12 : h[12]? = some (lC 189 f)) {v : Nat} (hv : v < 9) : fX5_waysFrom h 11 0 (nI v) = some (f (0 * 9 + v), h) := waysFrom_ok (i := 0) e e12 (by decide) hv
theorem rowsBehind_ok (g : GR k r F) (ha : 44 ≤ a) (R : RuleAt h a (a + 1) k r F) {a' n : Nat} {st : Int32} {tf : Nat → Int32} {c : Nat → Nat} (e : h[11]? = some (wo a' st)) (e12 : h[12]? = some (lC 189 f)) (e6 : h[6]? = some (aC 0 100 tf)) (hn : n ≤ 20) (hc : ∀ i, i < n → tf i = nI (c i) ∧ c i < 1000) : ∃ f' s, fX5_rowsBehind h 11 a 6 (nI n) = some (lN (sm (wy k (k ^ (r - 1)) F c g1N n 0) (k ^ (r - 1))), (h.set 11 (wo a s)).set 12 (lC 189 f')) ∧ (∀ i v, i ≤ n → v < k ^ (r - 1) → f' (i * 9 + v) = lN (wy k (k ^ (r - 1)) F c g1N (n - i) i v)) ∧ (((∀ v, v < k ^ (r - 1) → ¬ 0 < wy k (k ^ (r - 1)) F c g1N n 0 v) ∧ s = -1) ∨ ∃ v0, v0 < k ^ (r - 1) ∧ 0 < wy k (k ^ (r - 1)) F c g1N n 0 v0 ∧ (∀ v, v < v0 → ¬ 0 < wy k (k ^ (r - 1)) F c g1N n 0 v) ∧ s = nI v0) := by
  obtain ⟨n1, n2, n3, n4, n5⟩ := g.nums
  obtain ⟨g1, g2, g3, g4, gF⟩ := id g
  unfold fX5_rowsBehind
  rw [wp1 e]
  simp only [Option.bind_some]
  obtain ⟨f', b1, b2⟩ := weigh_ok g ha (R.set (b := 11) (c := wo a st) (by omega) (by omega)) (st_s e) (st_n' (by decide) e12) (G := g1N) (st_n' (by decide) e6) hn hc (goal := -1) (fun v hv => ⟨fun _ => rfl, fun z => absurd (Or.inl rfl) z⟩)
  rw [wok (st_s e), b1]
  simp only [Option.bind_some]
  have hcm : ∀ s s', ((h.set 11 (wo a s)).set 12 (lC 189 f')).set 11 (wo a s') = (h.set 11 (wo a s')).set 12 (lC 189 f') := fun s s' => by rw [List.set_comm _ _ (by decide : (12 : Nat) ≠ 11), List.set_set]
  have E : ∀ s, ((h.set 11 (wo a s)).set 12 (lC 189 f'))[11]? = some (wo a s) := fun s => st_n' (by decide) (st_s e)
  have E12 : ∀ s, ((h.set 11 (wo a s)).set 12 (lC 189 f'))[12]? = some (lC 189 f') := fun s => st_s (st_n' (by decide) e12)
  have ER : ∀ s, RuleAt ((h.set 11 (wo a s)).set 12 (lC 189 f')) a (a + 1) k r F := fun s => (R.set (by omega) (by omega)).set (by omega) (by omega)
  rw [wp2 (E st), hcm]
  simp only [Option.bind_some]
  have k1 := uptoI (fun q i H => fX5_rowsBehind_w23 q 11 (lN (sm (wy k (k ^ (r - 1)) F c g1N n 0) i)) (nI i) H) (k ^ (r - 1)) (fun i H => ∃ s, H = (h.set 11 (wo a s)).set 12 (lC 189 f') ∧ (((∀ v, v < i → ¬ 0 < wy k (k ^ (r - 1)) F c g1N n 0 v) ∧ s = -1) ∨ ∃ v0, v0 < i ∧ 0 < wy k (k ^ (r - 1)) F c g1N n 0 v0 ∧ (∀ v, v < v0 → ¬ 0 < wy k (k ^ (r - 1)) F c g1N n 0 v) ∧ s = nI v0)) (by
    rintro q i H hi ⟨s, rfl, hs⟩
    have hfw := b2 0 i (by omega) hi
    rw [Nat.sub_zero] at hfw
    have hbd : wy k (k ^ (r - 1)) F c g1N n 0 i < 2 ^ 63 := by
      have b1 := wy_le (k := k) (m := k ^ (r - 1)) (F := F) (c := c) (G := g1N) (fun _ => Nat.le_refl _) n 0 i
      have b2 := pow_40 g2 hn
      omega
    obtain ⟨s1, s2⟩ := first_step (p := fun v => 0 < wy k (k ^ (r - 1)) F c g1N n 0 v) (show i < 1000 by omega) hs
    have hst : fX5_rowsBehind_w23 (q + 1) 11 (lN (sm (wy k (k ^ (r - 1)) F c g1N n 0) i)) (nI i) ((h.set 11 (wo a s)).set 12 (lC 189 f')) = fX5_rowsBehind_w23 q 11 (lN (sm (wy k (k ^ (r - 1)) F c g1N n 0) (i + 1))) (nI (i + 1)) ((h.set 11 (wo a (if s = -1 ∧ 0 < wy k (k ^ (r - 1)) F c g1N n 0 i then nI i else s))).set 12 (lC 189 f')) := by
      have hp : ∀ x y : Int32, fX5_rowsBehind_b76 (fX5_rowsBehind_w23 q) 11 (lN (sm (wy k (k ^ (r - 1)) F c g1N n 0) (i + 1))) (nI i) y 11 ((h.set 11 (wo a x)).set 12 (lC 189 f')) = fX5_rowsBehind_w23 q 11 (lN (sm (wy k (k ^ (r - 1)) F c g1N n 0) (i + 1))) (nI (i + 1)) ((h.set 11 (wo a y)).set 12 (lC 189 f')) := by
        intro x y
        unfold fX5_rowsBehind_b76
        rw [wp2 (E x), hcm]
        simp only [Option.bind_some]
        rw [nI_p1]
      rw [fX5_rowsBehind_w23]
      simp only []
      rw [w1 (E s)]
      simp only [Option.bind_some]
      rw [rn (ER s)]
      simp only [Option.bind_some]
      rw [if_leI (by omega) (by omega), if_neg (by omega), wok (E s), waysFrom0 (E s) (E12 s) (by omega), call_ok, hfw, setv_ok, lN_add, w2 (E s)]
      simp only [Option.bind_some]
      unfold fX5_rowsBehind_b72
      rw [w2 (E s)]
      simp only [Option.bind_some]
      have hsm : sm (wy k (k ^ (r - 1)) F c g1N n 0) i + wy k (k ^ (r - 1)) F c g1N n 0 i = sm (wy k (k ^ (r - 1)) F c g1N n 0) (i + 1) := rfl
      rw [hsm, hp, hp]
      by_cases q1 : s = -1
      · rw [if_pos q1]
        by_cases q2 : wy k (k ^ (r - 1)) F c g1N n 0 i = 0
        · rw [if_pos ((lN_le0 hbd).mpr q2), if_neg (fun z => by omega)]
        · rw [if_neg (fun z => q2 ((lN_le0 hbd).mp z)), if_pos ⟨q1, by omega⟩]
      · rw [if_neg q1, if_neg (fun z => q1 z.1)]
    refine ⟨_, hst, _, rfl, ?_⟩
    by_cases q1 : s = -1 ∧ 0 < wy k (k ^ (r - 1)) F c g1N n 0 i
    · rw [if_pos q1]; exact s1 q1
    · rw [if_neg q1]; exact s2 q1) 0 FUEL ((h.set 11 (wo a (-1))).set 12 (lC 189 f')) (by omega) (fuel_big (by omega)) ⟨-1, rfl, Or.inl ⟨fun v hv => by omega, rfl⟩⟩
  obtain ⟨fu, H, k2, s, rfl, k3⟩ := k1
  refine ⟨f', s, ?_, b2, k3⟩
  rw [l0]
  refine Eq.trans k2 ?_
  rw [fX5_rowsBehind_w23]
  simp only []
  rw [w1 (E s)]
  simp only [Option.bind_some]
  rw [rn (ER s)]
  simp only [Option.bind_some]
  rw [if_leI (by omega) (by omega), if_pos (Nat.le_refl _)]
theorem closedBehind_ok (g : GR k r F) (ha : 44 ≤ a) (R : RuleAt h a (a + 1) k r F) {a' n : Nat} {st : Int32} {tf : Nat → Int32} {c : Nat → Nat} (e : h[11]? = some (wo a' st)) (e12 : h[12]? = some (lC 189 f)) (e6 : h[6]? = some (aC 0 100 tf)) (hn : n ≤ 20) (hc : ∀ i, i < n → tf i = nI (c i) ∧ c i < 1000) : ∃ f' s, fX5_closedBehind h 11 a 6 (nI n) = some (lN (sm (fun v => wy k (k ^ (r - 1)) F c (gvN v) n 0 v) (k ^ (r - 1))), (h.set 11 (wo a s)).set 12 (lC 189 f')) ∧ (((∀ v, v < k ^ (r - 1) → ¬ 0 < wy k (k ^ (r - 1)) F c (gvN v) n 0 v) ∧ s = -1) ∨ ∃ v0, v0 < k ^ (r - 1) ∧ 0 < wy k (k ^ (r - 1)) F c (gvN v0) n 0 v0 ∧ (∀ v, v < v0 → ¬ 0 < wy k (k ^ (r - 1)) F c (gvN v) n 0 v) ∧ s = nI v0 ∧ ∀ i v, i ≤ n → v < k ^ (r - 1) → f' (i * 9 + v) = lN (wy k (k ^ (r - 1)) F c (gvN v0) (n - i) i v)) := by
  obtain ⟨n1, n2, n3, n4, n5⟩ := g.nums
  obtain ⟨g1, g2, g3, g4, gF⟩ := id g
  unfold fX5_closedBehind
  rw [wp1 e]
  simp only [Option.bind_some]
  rw [wp2 (st_s e), List.set_set]
  simp only [Option.bind_some]
  have hcm : ∀ f' s s', ((h.set 11 (wo a s)).set 12 (lC 189 f')).set 11 (wo a s') = (h.set 11 (wo a s')).set 12 (lC 189 f') := fun f' s s' => by rw [List.set_comm _ _ (by decide : (12 : Nat) ≠ 11), List.set_set]
  have E : ∀ f' s, ((h.set 11 (wo a s)).set 12 (lC 189 f'))[11]? = some (wo a s) := fun f' s => st_n' (by decide) (st_s e)
  have E12 : ∀ f' s, ((h.set 11 (wo a s)).set 12 (lC 189 f'))[12]? = some (lC 189 f') := fun f' s => st_s (st_n' (by decide) e12)
  have E6 : ∀ f' s, ((h.set 11 (wo a s)).set 12 (lC 189 f'))[6]? = some (aC 0 100 tf) := fun f' s => st_n' (by decide) (st_n' (by decide) e6)
  have ER : ∀ f' s, RuleAt ((h.set 11 (wo a s)).set 12 (lC 189 f')) a (a + 1) k r F := fun f' s => (R.set (by omega) (by omega)).set (by omega) (by omega)
  have WG : ∀ f1 s v0, v0 < k ^ (r - 1) → ∃ f', fX5_weigh ((h.set 11 (wo a s)).set 12 (lC 189 f1)) 11 6 (nI n) (nI v0) = some ((h.set 11 (wo a s)).set 12 (lC 189 f')) ∧ ∀ i v, i ≤ n → v < k ^ (r - 1) → f' (i * 9 + v) = lN (wy k (k ^ (r - 1)) F c (gvN v0) (n - i) i v) := by
    intro f1 s v0 hv0
    obtain ⟨f', b1, b2⟩ := weigh_ok g ha (ER f1 s) (E f1 s) (E12 f1 s) (G := gvN v0) (E6 f1 s) hn hc (goal := nI v0) (fun v hv => ⟨fun z => by
      rcases z with z | z
      · exact absurd z (fun y => nI_nm1 (by omega) y)
      · unfold gvN
        rw [if_pos ((nI_eq (by omega) (by omega)).mp z).symm], fun z => by
      unfold gvN
      rw [if_neg (fun y => z (Or.inr (by rw [y])))]⟩)
    refine ⟨f', ?_, b2⟩
    rw [b1, List.set_set]
  have k1 := uptoI (fun q i H => fX5_closedBehind_w16 q 11 6 (nI n) (lN (sm (fun v => wy k (k ^ (r - 1)) F c (gvN v) n 0 v) i)) (nI i) H) (k ^ (r - 1)) (fun i H => ∃ f' s, H = (h.set 11 (wo a s)).set 12 (lC 189 f') ∧ (((∀ v, v < i → ¬ 0 < wy k (k ^ (r - 1)) F c (gvN v) n 0 v) ∧ s = -1) ∨ ∃ v0, v0 < i ∧ 0 < wy k (k ^ (r - 1)) F c (gvN v0) n 0 v0 ∧ (∀ v, v < v0 → ¬ 0 < wy k (k ^ (r - 1)) F c (gvN v) n 0 v) ∧ s = nI v0)) (by
    rintro q i H hi ⟨f1, s, rfl, hs⟩
    obtain ⟨f', b1, b2⟩ := WG f1 s i hi
    have hfw := b2 0 i (by omega) hi
    rw [Nat.sub_zero] at hfw
    have hbd : wy k (k ^ (r - 1)) F c (gvN i) n 0 i < 2 ^ 63 := by
      have b1 := wy_le (k := k) (m := k ^ (r - 1)) (F := F) (c := c) (G := gvN i) (gvN_le i) n 0 i
      have b2 := pow_40 g2 hn
      omega
    obtain ⟨s1, s2⟩ := first_step (p := fun v => 0 < wy k (k ^ (r - 1)) F c (gvN v) n 0 v) (show i < 1000 by omega) hs
    have hst : fX5_closedBehind_w16 (q + 1) 11 6 (nI n) (lN (sm (fun v => wy k (k ^ (r - 1)) F c (gvN v) n 0 v) i)) (nI i) ((h.set 11 (wo a s)).set 12 (lC 189 f1)) = fX5_closedBehind_w16 q 11 6 (nI n) (lN (sm (fun v => wy k (k ^ (r - 1)) F c (gvN v) n 0 v) (i + 1))) (nI (i + 1)) ((h.set 11 (wo a (if s = -1 ∧ 0 < wy k (k ^ (r - 1)) F c (gvN i) n 0 i then nI i else s))).set 12 (lC 189 f')) := by
      have hp : ∀ x y : Int32, fX5_closedBehind_b77 (fX5_closedBehind_w16 q) 11 6 (nI n) (lN (sm (fun v => wy k (k ^ (r - 1)) F c (gvN v) n 0 v) (i + 1))) (nI i) y 11 ((h.set 11 (wo a x)).set 12 (lC 189 f')) = fX5_closedBehind_w16 q 11 6 (nI n) (lN (sm (fun v => wy k (k ^ (r - 1)) F c (gvN v) n 0 v) (i + 1))) (nI (i + 1)) ((h.set 11 (wo a y)).set 12 (lC 189 f')) := by
        intro x y
        unfold fX5_closedBehind_b77
        rw [wp2 (E f' x), hcm]
        simp only [Option.bind_some]
        rw [nI_p1]
      rw [fX5_closedBehind_w16]
      simp only []
      rw [w1 (E f1 s)]
      simp only [Option.bind_some]
      rw [rn (ER f1 s)]
      simp only [Option.bind_some]
      rw [if_leI (by omega) (by omega), if_neg (by omega), wok (E f1 s), b1]
      simp only [Option.bind_some]
      rw [wok (E f' s), waysFrom0 (E f' s) (E12 f' s) (by omega), call_ok, hfw, setv_ok, lN_add, w2 (E f' s)]
      simp only [Option.bind_some]
      unfold fX5_closedBehind_b73
      rw [w2 (E f' s)]
      simp only [Option.bind_some]
      have hsm : sm (fun v => wy k (k ^ (r - 1)) F c (gvN v) n 0 v) i + wy k (k ^ (r - 1)) F c (gvN i) n 0 i = sm (fun v => wy k (k ^ (r - 1)) F c (gvN v) n 0 v) (i + 1) := rfl
      rw [hsm, hp, hp]
      by_cases q1 : s = -1
      · rw [if_pos q1]
        by_cases q2 : wy k (k ^ (r - 1)) F c (gvN i) n 0 i = 0
        · rw [if_pos ((lN_le0 hbd).mpr q2), if_neg (fun z => by omega)]
        · rw [if_neg (fun z => q2 ((lN_le0 hbd).mp z)), if_pos ⟨q1, by omega⟩]
      · rw [if_neg q1, if_neg (fun z => q1 z.1)]
    refine ⟨_, hst, _, _, rfl, ?_⟩
    by_cases q1 : s = -1 ∧ 0 < wy k (k ^ (r - 1)) F c (gvN i) n 0 i
    · rw [if_pos q1]; exact s1 q1
    · rw [if_neg q1]; exact s2 q1) 0 FUEL (h.set 11 (wo a (-1))) (by omega) (fuel_big (by omega)) ⟨f, -1, (st_id (st_n' (by decide) e12)).symm, Or.inl ⟨fun v hv => by omega, rfl⟩⟩
  obtain ⟨fu, H, k2, f1, s, rfl, k3⟩ := k1
  rw [l0]
  rcases k3 with ⟨k4, rfl⟩ | ⟨v0, k4, k5, k6, rfl⟩
  · refine ⟨f1, -1, ?_, Or.inl ⟨k4, rfl⟩⟩
    refine Eq.trans k2 ?_
    rw [fX5_closedBehind_w16]
    simp only []
    rw [w1 (E f1 (-1))]
    simp only [Option.bind_some]
    rw [rn (ER f1 (-1))]
    simp only [Option.bind_some]
    rw [if_leI (by omega) (by omega), if_pos (Nat.le_refl _)]
    unfold fX5_closedBehind_b86
    rw [w2 (E f1 (-1))]
    simp only [Option.bind_some]
    rw [if_pos trivial]
  · obtain ⟨f', b1, b2⟩ := WG f1 (nI v0) v0 k4
    refine ⟨f', nI v0, ?_, Or.inr ⟨v0, k4, k5, k6, rfl, b2⟩⟩
    refine Eq.trans k2 ?_
    rw [fX5_closedBehind_w16]
    simp only []
    rw [w1 (E f1 (nI v0))]
    simp only [Option.bind_some]
    rw [rn (ER f1 (nI v0))]
    simp only [Option.bind_some]
    rw [if_leI (by omega) (by omega), if_pos (Nat.le_refl _)]
    unfold fX5_closedBehind_b86
    rw [w2 (E f1 (nI v0))]
    simp only [Option.bind_some]
    rw [if_neg (fun y => nI_nm1 (by omega) y), wok (E f1 (nI v0)), b1]
    rfl
end WL

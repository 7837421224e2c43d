/-! Pairs of words: the greatest set of pairs that go on both ways. -/
theorem uptoG {β σ : Type} (w : Nat → Nat → σ → Option β) (e : Nat) (J : Nat → σ → Prop) (hs : ∀ n i h, i < e → J i h → ∃ h', w (n + 1) i h = w n (i + 1) h' ∧ J (i + 1) h') : ∀ i fuel h, i ≤ e → e - i < fuel → J i h → ∃ f h', w fuel i h = w (f + 1) e h' ∧ J e h' := by
  intro i fuel h hi hf hJ
  generalize hd : e - i = d at hf
  induction d generalizing i fuel h with
  | zero =>
    obtain ⟨f, rfl⟩ : ∃ f, fuel = f + 1 := ⟨fuel - 1, by omega⟩
    have : i = e := by omega
    subst this
    exact ⟨f, h, rfl, hJ⟩
  | succ d ih =>
    obtain ⟨f, rfl⟩ : ∃ f, fuel = f + 1 := ⟨fuel - 1, by omega⟩
    obtain ⟨h', h1, h2⟩ := hs f i h (by omega) hJ
    rw [h1]
    exact ih (i + 1) f h' (by omega) h2 (by omega) (by omega)
/-- pairs that go on both ways -/
def SelfS (k r : Nat) (F : Nat → Nat) (P : Nat → Nat → Prop) : Prop := ∀ a b, P a b → a < k ^ r ∧ b < k ^ r ∧ F a = F b ∧ (∃ x, x < k ∧ ∃ y, y < k ∧ P (a % k ^ (r - 1) * k + x) (b % k ^ (r - 1) * k + y)) ∧ (∃ x, x < k ∧ ∃ y, y < k ∧ P (a / k + x * k ^ (r - 1)) (b / k + y * k ^ (r - 1)))
/-- no unlike pair goes on both ways -/
def LosesNo (k r : Nat) (F : Nat → Nat) : Prop := ∀ P, SelfS k r F P → ∀ a b, P a b → a = b
def alv (f : Nat → Int32) (a b : Nat) : Prop := f (a * 27 + b) ≠ 0
def cntA (f : Nat → Int32) : Nat → Nat := sm (fun p => if f p = 0 then 0 else 1)
theorem cntA_le (f : Nat → Int32) : ∀ n, cntA f n ≤ n := fun n => by
  have := sm_le (f := fun p => if f p = 0 then 0 else 1) (g := fun _ => 1) (n := n) (fun i _ => by show (if f i = 0 then 0 else 1) ≤ 1; split <;> omega)
  rw [sm_const] at this
  unfold cntA
  omega
theorem cntA_upd {f : Nat → Int32} {p : Nat} : ∀ n, cntA (upd f p 0) n + (if p < n then (if f p = 0 then 0 else 1) else 0) = cntA f n
  | 0 => by simp [cntA, sm]
  | n + 1 => by
    have ih := cntA_upd (f := f) (p := p) n
    unfold cntA at ih ⊢
    rw [sm, sm]
    by_cases q : p = n
    · subst q
      rw [if_neg (Nat.lt_irrefl _)] at ih
      rw [if_pos (Nat.lt_succ_self _)]
      have : upd f p 0 p = 0 := upd_self
      rw [if_pos this]
      omega
    · rw [show upd f p 0 n = f n from upd_ne (Ne.symm q)]
      by_cases q2 : p < n
      · rw [if_pos q2] at ih
        rw [if_pos (show p < n + 1 by omega)]
        omega
      · rw [if_neg q2] at ih
        rw [if_neg (show ¬ p < n + 1 by omega)]
        omega
section PA
variable {h : Hp} {a k r : Nat} {F : Nat → Nat} {f : Nat → Int32}
theorem pa0 (e : h[18]? = some (oC 0 [vR 19])) : gR h 18 0 0 = some 19 := gR_of (by decide) e rfl
theorem pok (e : h[18]? = some (oC 0 [vR 19])) {β : Type} {x : Option β} : oK h 18 0 x = x := oK_of (by decide) e
theorem lives_ok (e : h[18]? = some (oC 0 [vR 19])) (e19 : h[19]? = some (aC 2 729 f)) {x y : Nat} (hx : x < 27) (hy : y < 27) : fX0_lives h 18 (nI x) (nI y) = if f (x * 27 + y) = 0 then some (0, h) else some (1, h) := by
  unfold fX0_lives
  rw [setv_ok, show (27 : Int32) = nI 27 from rfl, pk_mul, nI_add, if_neg (nI_nn (by omega)), pa0 e]
  simp only [Option.bind_some]
  rw [aN_of e19 (by decide)]
  simp only [Option.bind_some]
  rw [if_leI (by omega) (by omega), if_neg (by omega), aI_of e19 (by omega) (by decide)]
  simp only [Option.bind_some]
  rw [retZ0, retZ1]
theorem setLife_ok (e : h[18]? = some (oC 0 [vR 19])) (e19 : h[19]? = some (aC 2 729 f)) {x y : Nat} (hx : x < 27) (hy : y < 27) {v : Int32} (hv : x_nar 2 v = v) : fX0_setLife h 18 (nI x) (nI y) v = some (h.set 19 (aC 2 729 (upd f (x * 27 + y) v))) := by
  unfold fX0_setLife
  rw [setv_ok, show (27 : Int32) = nI 27 from rfl, pk_mul, nI_add, if_neg (nI_nn (by omega)), pa0 e]
  simp only [Option.bind_some]
  rw [aN_of e19 (by decide)]
  simp only [Option.bind_some]
  rw [if_leI (by omega) (by omega), if_neg (by omega), sI_of (by decide) e19 (by omega) (by decide), hv]
  rfl
theorem goesOn_ok (g : GR k r F) (R : RuleAt h a (a + 1) k r F) (e : h[18]? = some (oC 0 [vR 19])) (e19 : h[19]? = some (aC 2 729 f)) {x y : Nat} (hx : x < k ^ r) (hy : y < k ^ r) : ((∃ u, u < k ∧ ∃ v, v < k ∧ alv f (x % k ^ (r - 1) * k + u) (y % k ^ (r - 1) * k + v)) ∧ fX0_goesOn h 18 a (nI x) (nI y) = some (1, h)) ∨ ((¬ ∃ u, u < k ∧ ∃ v, v < k ∧ alv f (x % k ^ (r - 1) * k + u) (y % k ^ (r - 1) * k + v)) ∧ fX0_goesOn h 18 a (nI x) (nI y) = some (0, h)) := by
  obtain ⟨n1, n2, n3, n4, n5⟩ := g.nums
  obtain ⟨g1, g2, g3, g4, gF⟩ := id g
  have hb : ∀ x u, u < k → x % k ^ (r - 1) * k + u < k ^ r := fun x u hu => by
    have h1 := Nat.mod_lt x (show k ^ (r - 1) > 0 by omega)
    have : (x % k ^ (r - 1) + 1) * k ≤ k ^ (r - 1) * k := Nat.mul_le_mul_right k h1
    rw [Nat.succ_mul] at this
    omega
  unfold fX0_goesOn
  rw [rn R]
  simp only [Option.bind_some]
  rw [iRem_nI (by omega) (by omega) (by omega), rk R]
  simp only [Option.bind_some]
  rw [setv_ok, pk_mul, iRem_nI (by omega) (by omega) (by omega), setv_ok, pk_mul]
  have inner : ∀ n u, u < k → ((∀ v, 0 ≤ v → v < k → ¬ alv f (x % k ^ (r - 1) * k + u) (y % k ^ (r - 1) * k + v)) ∧ fX0_goesOn_w29 (n + 1) 18 a (nI (x % k ^ (r - 1) * k)) (nI (y % k ^ (r - 1) * k)) (nI u) h = fX0_goesOn_w29 n 18 a (nI (x % k ^ (r - 1) * k)) (nI (y % k ^ (r - 1) * k)) (nI (u + 1)) h) ∨ ((∃ v, 0 ≤ v ∧ v < k ∧ alv f (x % k ^ (r - 1) * k + u) (y % k ^ (r - 1) * k + v)) ∧ fX0_goesOn_w29 (n + 1) 18 a (nI (x % k ^ (r - 1) * k)) (nI (y % k ^ (r - 1) * k)) (nI u) h = some (1, h)) := by
    intro n u hu
    have st : ∀ q v, v < k → fX0_goesOn_w41 (fX0_goesOn_w29 n) (q + 1) 18 a (nI (x % k ^ (r - 1) * k)) (nI (y % k ^ (r - 1) * k)) (nI u) (nI v) h = if f ((x % k ^ (r - 1) * k + u) * 27 + (y % k ^ (r - 1) * k + v)) = 0 then fX0_goesOn_w41 (fX0_goesOn_w29 n) q 18 a (nI (x % k ^ (r - 1) * k)) (nI (y % k ^ (r - 1) * k)) (nI u) (nI (v + 1)) h else some (1, h) := by
      intro q v hv
      have b1 := hb x u hu
      have b2 := hb y v hv
      rw [fX0_goesOn_w41]
      simp only []
      rw [rk R]
      simp only [Option.bind_some]
      rw [if_leI (by omega) (by omega), if_neg (by omega), nI_add, nI_add, pok e, lives_ok e e19 (by omega) (by omega)]
      by_cases q1 : f ((x % k ^ (r - 1) * k + u) * 27 + (y % k ^ (r - 1) * k + v)) = 0
      · rw [if_pos q1, if_pos q1, call_ok, if_pos rfl, nI_p1]
      · rw [if_neg q1, if_neg q1, call_ok, if_neg one_ne, retZ1]
    have key := scan_all (fun q v => fX0_goesOn_w41 (fX0_goesOn_w29 n) q 18 a (nI (x % k ^ (r - 1) * k)) (nI (y % k ^ (r - 1) * k)) (nI u) (nI v) h) k (fun v => alv f (x % k ^ (r - 1) * k + u) (y % k ^ (r - 1) * k + v)) (some (1, h)) (fX0_goesOn_w29 n 18 a (nI (x % k ^ (r - 1) * k)) (nI (y % k ^ (r - 1) * k)) (nI (u + 1)) h) (fun q v hv hn => by rw [st q v hv, if_pos (Decidable.not_not.mp hn)]) (fun q v hv hn => by rw [st q v hv, if_neg hn]) (fun q => by
      rw [fX0_goesOn_w41]
      simp only []
      rw [rk R]
      simp only [Option.bind_some]
      rw [if_leI (by omega) (by omega), if_pos (Nat.le_refl _)]
      unfold fX0_goesOn_b75
      rw [nI_p1]) 0 FUEL (by omega) (fuel_big (by omega))
    have hst : fX0_goesOn_w29 (n + 1) 18 a (nI (x % k ^ (r - 1) * k)) (nI (y % k ^ (r - 1) * k)) (nI u) h = fX0_goesOn_w41 (fX0_goesOn_w29 n) FUEL 18 a (nI (x % k ^ (r - 1) * k)) (nI (y % k ^ (r - 1) * k)) (nI u) (nI 0) h := by
      rw [fX0_goesOn_w29]
      simp only []
      rw [rk R]
      simp only [Option.bind_some]
      rw [if_leI (by omega) (by omega), if_neg (by omega)]
      rfl
    rw [hst]
    exact key
  have key := scan_all (fun q u => fX0_goesOn_w29 q 18 a (nI (x % k ^ (r - 1) * k)) (nI (y % k ^ (r - 1) * k)) (nI u) h) k (fun u => ∃ v, v < k ∧ alv f (x % k ^ (r - 1) * k + u) (y % k ^ (r - 1) * k + v)) (some (1, h)) (some (0, h)) (fun q u hu hn => by
    rcases inner q u hu with ⟨z1, z2⟩ | ⟨⟨v, z0, z1, z3⟩, z2⟩
    · exact z2
    · exact absurd ⟨v, z1, z3⟩ hn) (fun q u hu hn => by
    rcases inner q u hu with ⟨z1, z2⟩ | ⟨z1, z2⟩
    · obtain ⟨v, v1, v2⟩ := hn
      exact absurd v2 (z1 v (Nat.zero_le _) v1)
    · exact z2) (fun q => by
    rw [fX0_goesOn_w29]
    simp only []
    rw [rk R]
    simp only [Option.bind_some]
    rw [if_leI (by omega) (by omega), if_pos (Nat.le_refl _), retZ0]) 0 FUEL (by omega) (fuel_big (by omega))
  rcases key with ⟨z1, z2⟩ | ⟨⟨u, z0, z1, v, z3, z4⟩, z2⟩
  · right
    exact ⟨fun ⟨u, u1, u2⟩ => z1 u (Nat.zero_le _) u1 u2, z2⟩
  · left
    exact ⟨⟨u, z1, v, z3, z4⟩, z2⟩
theorem comesFrom_ok (g : GR k r F) (R : RuleAt h a (a + 1) k r F) (e : h[18]? = some (oC 0 [vR 19])) (e19 : h[19]? = some (aC 2 729 f)) {x y : Nat} (hx : x < k ^ r) (hy : y < k ^ r) : ((∃ u, u < k ∧ ∃ v, v < k ∧ alv f (x / k + u * k ^ (r - 1)) (y / k + v * k ^ (r - 1))) ∧ fX0_comesFrom h 18 a (nI x) (nI y) = some (1, h)) ∨ ((¬ ∃ u, u < k ∧ ∃ v, v < k ∧ alv f (x / k + u * k ^ (r - 1)) (y / k + v * k ^ (r - 1))) ∧ fX0_comesFrom h 18 a (nI x) (nI y) = some (0, h)) := by
  obtain ⟨n1, n2, n3, n4, n5⟩ := g.nums
  obtain ⟨g1, g2, g3, g4, gF⟩ := id g
  have hb : ∀ x u, x < k ^ r → u < k → x / k + u * k ^ (r - 1) < k ^ r := fun x u hx hu => by
    have h1 : x / k < k ^ (r - 1) := by
      rw [Nat.div_lt_iff_lt_mul (by omega)]
      omega
    have : (u + 1) * k ^ (r - 1) ≤ k * k ^ (r - 1) := Nat.mul_le_mul_right _ hu
    rw [Nat.succ_mul, Nat.mul_comm k] at this
    omega
  unfold fX0_comesFrom
  rw [rk R]
  simp only [Option.bind_some]
  rw [iDiv_nI (by omega) (by omega) (by omega), iDiv_nI (by omega) (by omega) (by omega)]
  have inner : ∀ n u, u < k → ((∀ v, 0 ≤ v → v < k → ¬ alv f (x / k + u * k ^ (r - 1)) (y / k + v * k ^ (r - 1))) ∧ fX0_comesFrom_w19 (n + 1) 18 a (nI (x / k)) (nI (y / k)) (nI u) h = fX0_comesFrom_w19 n 18 a (nI (x / k)) (nI (y / k)) (nI (u + 1)) h) ∨ ((∃ v, 0 ≤ v ∧ v < k ∧ alv f (x / k + u * k ^ (r - 1)) (y / k + v * k ^ (r - 1))) ∧ fX0_comesFrom_w19 (n + 1) 18 a (nI (x / k)) (nI (y / k)) (nI u) h = some (1, h)) := by
    intro n u hu
    have st : ∀ q v, v < k → fX0_comesFrom_w31 (fX0_comesFrom_w19 n) (q + 1) 18 a (nI (x / k)) (nI (y / k)) (nI u) (nI v) h = if f ((x / k + u * k ^ (r - 1)) * 27 + (y / k + v * k ^ (r - 1))) = 0 then fX0_comesFrom_w31 (fX0_comesFrom_w19 n) q 18 a (nI (x / k)) (nI (y / k)) (nI u) (nI (v + 1)) h else some (1, h) := by
      intro q v hv
      have b1 := hb x u hx hu
      have b2 := hb y v hy hv
      rw [fX0_comesFrom_w31]
      simp only []
      rw [rk R]
      simp only [Option.bind_some]
      rw [if_leI (by omega) (by omega), if_neg (by omega), rn R]
      simp only [Option.bind_some]
      rw [pk_mul, pk_mul, nI_add, nI_add, pok e, lives_ok e e19 (by omega) (by omega)]
      by_cases q1 : f ((x / k + u * k ^ (r - 1)) * 27 + (y / k + v * k ^ (r - 1))) = 0
      · rw [if_pos q1, if_pos q1, call_ok, if_pos rfl, nI_p1]
      · rw [if_neg q1, if_neg q1, call_ok, if_neg one_ne, retZ1]
    have key := scan_all (fun q v => fX0_comesFrom_w31 (fX0_comesFrom_w19 n) q 18 a (nI (x / k)) (nI (y / k)) (nI u) (nI v) h) k (fun v => alv f (x / k + u * k ^ (r - 1)) (y / k + v * k ^ (r - 1))) (some (1, h)) (fX0_comesFrom_w19 n 18 a (nI (x / k)) (nI (y / k)) (nI (u + 1)) h) (fun q v hv hn => by rw [st q v hv, if_pos (Decidable.not_not.mp hn)]) (fun q v hv hn => by rw [st q v hv, if_neg hn]) (fun q => by
      rw [fX0_comesFrom_w31]
      simp only []
      rw [rk R]
      simp only [Option.bind_some]
      rw [if_leI (by omega) (by omega), if_pos (Nat.le_refl _)]
      unfold fX0_comesFrom_b75
      rw [nI_p1]) 0 FUEL (by omega) (fuel_big (by omega))
    have hst : fX0_comesFrom_w19 (n + 1) 18 a (nI (x / k)) (nI (y / k)) (nI u) h = fX0_comesFrom_w31 (fX0_comesFrom_w19 n) FUEL 18 a (nI (x / k)) (nI (y / k)) (nI u) (nI 0) h := by
      rw [fX0_comesFrom_w19]
      simp only []
      rw [rk R]
      simp only [Option.bind_some]
      rw [if_leI (by omega) (by omega), if_neg (by omega)]
      rfl
    rw [hst]
    exact key
  have key := scan_all (fun q u => fX0_comesFrom_w19 q 18 a (nI (x / k)) (nI (y / k)) (nI u) h) k (fun u => ∃ v, v < k ∧ alv f (x / k + u * k ^ (r - 1)) (y / k + v * k ^ (r - 1))) (some (1, h)) (some (0, h)) (fun q u hu hn => by
    rcases inner q u hu with ⟨z1, z2⟩ | ⟨⟨v, z0, z1, z3⟩, z2⟩
    · exact z2
    · exact absurd ⟨v, z1, z3⟩ hn) (fun q u hu hn => by
    rcases inner q u hu with ⟨z1, z2⟩ | ⟨z1, z2⟩
    · obtain ⟨v, v1, v2⟩ := hn
      exact absurd v2 (z1 v (Nat.zero_le _) v1)
    · exact z2) (fun q => by
    rw [fX0_comesFrom_w19]
    simp only []
    rw [rk R]
    simp only [Option.bind_some]
    rw [if_leI (by omega) (by omega), if_pos (Nat.le_refl _), retZ0]) 0 FUEL (by omega) (fuel_big (by omega))
  rcases key with ⟨z1, z2⟩ | ⟨⟨u, z0, z1, v, z3, z4⟩, z2⟩
  · right
    exact ⟨fun ⟨u, u1, u2⟩ => z1 u (Nat.zero_le _) u1 u2, z2⟩
  · left
    exact ⟨⟨u, z1, v, z3, z4⟩, z2⟩
end PA

/-! Pairs of nodes: as a number, the first one's place m times. -/
/-- a pair leads to a pair: two words that tell the same -/
def LDp (k m : Nat) (F : Nat → Nat) (p q : Nat) : Prop := ∃ x, x < k ∧ ∃ y, y < k ∧ F (p / m * k + x) = F (p % m * k + y) ∧ (p / m * k + x) % m * m + (p % m * k + y) % m = q
/-- a pair of one node -/
def dgP (m p : Nat) : Prop := p / m = p % m
def EvenR (k r : Nat) (F : Nat → Nat) : Prop := ∀ c, c < k → sm (fun w => if F w = c then 1 else 0) (k ^ r) * k = k ^ r
section MPR
variable {h : Hp} {thr tl' sz om rd' : Int32} {stf wdf tbf : Nat → Int32} {j k r : Nat} {F : Nat → Nat}
theorem isOne_m (g : GR k r F) (e0 : h[20]? = some (mob thr tl' sz om rd')) (e2 : h[22]? = some (aC 0 6 stf)) (e3 : h[23]? = some (aC 0 6 wdf)) (hj : j < 6) (s1 : stf j = nI k) (s2 : wdf j = nI r) {p : Nat} (hp : p < 1000) : (dgP (k ^ (r - 1)) p ∧ fX7_isOne h 20 (nI j) (nI p) = some (1, h)) ∨ (¬ dgP (k ^ (r - 1)) p ∧ fX7_isOne h 20 (nI j) (nI p) = some (0, h)) := by
  obtain ⟨n1, n2, n3, n4, n5⟩ := g.nums
  have hd : p / k ^ (r - 1) ≤ p := Nat.div_le_self _ _
  have hm : p % k ^ (r - 1) ≤ p := Nat.mod_le _ _
  unfold fX7_isOne dgP
  rw [oo e0, overlaps_m g e0 e2 e3 hj s1 s2, call_ok, iDiv_nI (by omega) n3 (by omega), oo e0, overlaps_m g e0 e2 e3 hj s1 s2, call_ok, iRem_nI (by omega) n3 (by omega), if_eqI (by omega) (by omega), retZ1, retZ0]
  by_cases q : p / k ^ (r - 1) = p % k ^ (r - 1)
  · rw [if_pos q]
    exact Or.inl ⟨q, rfl⟩
  · rw [if_neg q]
    exact Or.inr ⟨q, rfl⟩
theorem leads_m (g : GR k r F) (e0 : h[20]? = some (mob thr tl' sz om rd')) (e2 : h[22]? = some (aC 0 6 stf)) (e3 : h[23]? = some (aC 0 6 wdf)) (e4 : h[24]? = some (aC 0 189 tbf)) (hj : j < 6) (s1 : stf j = nI k) (s2 : wdf j = nI r) (s3 : ∀ w, w < k ^ r → tbf (27 * j + w) = nI (F w)) {p q : Nat} (hp : p < k ^ (r - 1) * k ^ (r - 1)) (hq : q < 1000) : (LDp k (k ^ (r - 1)) F p q ∧ fX7_leads h 20 (nI j) (nI p) (nI q) = some (1, h)) ∨ (¬ LDp k (k ^ (r - 1)) F p q ∧ fX7_leads h 20 (nI j) (nI p) (nI q) = some (0, h)) := by
  obtain ⟨n1, n2, n3, n4, n5⟩ := g.nums
  obtain ⟨g1, g2, g3, g4, gF⟩ := id g
  have hpb : k ^ (r - 1) * k ^ (r - 1) ≤ 9 * 9 := Nat.mul_le_mul n2 n2
  have hu : p / k ^ (r - 1) < k ^ (r - 1) := Nat.div_lt_of_lt_mul hp
  have hv : p % k ^ (r - 1) < k ^ (r - 1) := Nat.mod_lt _ n3
  unfold fX7_leads
  rw [oo e0, overlaps_m g e0 e2 e3 hj s1 s2, call_ok, l0]
  have step : ∀ (W10 : Nat → Int32 → Int32 → Int32 → Int32 → Int32 → Hp → Option (Int32 × Hp)) f x y, x < k → y < k → fX7_leads_w24 W10 (f + 1) 20 (nI j) (nI p) (nI q) (nI (k ^ (r - 1))) (nI x) (nI y) h = if F (p / k ^ (r - 1) * k + x) = F (p % k ^ (r - 1) * k + y) ∧ (p / k ^ (r - 1) * k + x) % k ^ (r - 1) * k ^ (r - 1) + (p % k ^ (r - 1) * k + y) % k ^ (r - 1) = q then some (1, h) else fX7_leads_w24 W10 f 20 (nI j) (nI p) (nI q) (nI (k ^ (r - 1))) (nI x) (nI (y + 1)) h := by
    intro W10 f x y hx hy
    have w1 : p / k ^ (r - 1) * k + x < k ^ r := by rw [n4]; exact wlt hu hx
    have w2 : p % k ^ (r - 1) * k + y < k ^ r := by rw [n4]; exact wlt hv hy
    have f1 := gF _ w1
    have f2 := gF _ w2
    have hb1 : (p / k ^ (r - 1) * k + x) % k ^ (r - 1) < k ^ (r - 1) := Nat.mod_lt _ n3
    have hb2 : (p % k ^ (r - 1) * k + y) % k ^ (r - 1) < k ^ (r - 1) := Nat.mod_lt _ n3
    have hb3 : (p / k ^ (r - 1) * k + x) % k ^ (r - 1) * k ^ (r - 1) ≤ 9 * 9 := Nat.mul_le_mul (by omega) n2
    rw [fX7_leads_w24]
    simp only []
    rw [o_4 e0]
    simp only [Option.bind_some]
    rw [aI_of e2 hj (by decide), s1]
    simp only [Option.bind_some]
    rw [if_leI (by omega) (by omega), if_neg (by omega), iDiv_nI (by omega) n3 (by omega), oo e0, pk_mul, nI_add, Nat.mul_comm k, mtells e0 e4 g hj s3 w1, call_ok]
    rw [o_4 e0]
    simp only [Option.bind_some]
    rw [aI_of e2 hj (by decide), s1]
    simp only [Option.bind_some]
    rw [iRem_nI (by omega) n3 (by omega), oo e0, pk_mul, nI_add, Nat.mul_comm k, mtells e0 e4 g hj s3 w2, call_ok, if_eqI (by omega) (by omega)]
    unfold fX7_leads_b108
    rw [nI_p1, iDiv_nI (by omega) n3 (by omega), oo e0, then_m g e0 e2 e3 hj s1 s2 (by omega) (by omega), call_ok, iRem_nI (by omega) n3 (by omega), oo e0, then_m g e0 e2 e3 hj s1 s2 (by omega) (by omega), call_ok, pk_mul, nI_add, if_eqI (by omega) (by omega), retZ1]
    by_cases z1 : F (p / k ^ (r - 1) * k + x) = F (p % k ^ (r - 1) * k + y)
    · rw [if_pos z1]
      by_cases z2 : (p / k ^ (r - 1) * k + x) % k ^ (r - 1) * k ^ (r - 1) + (p % k ^ (r - 1) * k + y) % k ^ (r - 1) = q
      · rw [if_pos z2, if_pos ⟨z1, z2⟩]
      · rw [if_neg z2, if_neg (fun z => z2 z.2)]
    · rw [if_neg z1, if_neg (fun z => z1 z.1)]
  have inner : ∀ f x, x < k → fX7_leads_w10 (f + 1) 20 (nI j) (nI p) (nI q) (nI (k ^ (r - 1))) (nI x) h = fX7_leads_w24 (fX7_leads_w10 f) FUEL 20 (nI j) (nI p) (nI q) (nI (k ^ (r - 1))) (nI x) (nI 0) h := by
    intro f x hx
    rw [fX7_leads_w10]
    simp only []
    rw [o_4 e0]
    simp only [Option.bind_some]
    rw [aI_of e2 hj (by decide), s1]
    simp only [Option.bind_some]
    rw [if_leI (by omega) (by omega), if_neg (by omega), ← l0]
  have inn : ∀ f x, x < k → ((∀ y, 0 ≤ y → y < k → ¬ (F (p / k ^ (r - 1) * k + x) = F (p % k ^ (r - 1) * k + y) ∧ (p / k ^ (r - 1) * k + x) % k ^ (r - 1) * k ^ (r - 1) + (p % k ^ (r - 1) * k + y) % k ^ (r - 1) = q)) ∧ fX7_leads_w10 (f + 1) 20 (nI j) (nI p) (nI q) (nI (k ^ (r - 1))) (nI x) h = fX7_leads_w10 f 20 (nI j) (nI p) (nI q) (nI (k ^ (r - 1))) (nI (x + 1)) h) ∨ ((∃ y, 0 ≤ y ∧ y < k ∧ (F (p / k ^ (r - 1) * k + x) = F (p % k ^ (r - 1) * k + y) ∧ (p / k ^ (r - 1) * k + x) % k ^ (r - 1) * k ^ (r - 1) + (p % k ^ (r - 1) * k + y) % k ^ (r - 1) = q)) ∧ fX7_leads_w10 (f + 1) 20 (nI j) (nI p) (nI q) (nI (k ^ (r - 1))) (nI x) h = some (1, h)) := by
    intro f x hx
    rw [inner f x hx]
    exact scan_all (fun f2 y => fX7_leads_w24 (fX7_leads_w10 f) f2 20 (nI j) (nI p) (nI q) (nI (k ^ (r - 1))) (nI x) (nI y) h) k (fun y => F (p / k ^ (r - 1) * k + x) = F (p % k ^ (r - 1) * k + y) ∧ (p / k ^ (r - 1) * k + x) % k ^ (r - 1) * k ^ (r - 1) + (p % k ^ (r - 1) * k + y) % k ^ (r - 1) = q) (some (1, h)) (fX7_leads_w10 f 20 (nI j) (nI p) (nI q) (nI (k ^ (r - 1))) (nI (x + 1)) h) (fun f2 y hy hb => by rw [step _ f2 x y hx hy, if_neg hb]) (fun f2 y hy hb => by rw [step _ f2 x y hx hy, if_pos hb]) (fun f2 => by
      rw [fX7_leads_w24]
      simp only []
      rw [o_4 e0]
      simp only [Option.bind_some]
      rw [aI_of e2 hj (by decide), s1]
      simp only [Option.bind_some]
      rw [if_leI (by omega) (by omega), if_pos (Nat.le_refl _)]
      unfold fX7_leads_b114
      rw [nI_p1]) 0 FUEL (by omega) (fuel_big (by omega))
  have key := scan_all (fun f x => fX7_leads_w10 f 20 (nI j) (nI p) (nI q) (nI (k ^ (r - 1))) (nI x) h) k (fun x => ∃ y, y < k ∧ F (p / k ^ (r - 1) * k + x) = F (p % k ^ (r - 1) * k + y) ∧ (p / k ^ (r - 1) * k + x) % k ^ (r - 1) * k ^ (r - 1) + (p % k ^ (r - 1) * k + y) % k ^ (r - 1) = q) (some (1, h)) (some (0, h)) (fun f x hx hb => by
    rcases inn f x hx with ⟨-, z⟩ | ⟨⟨y, -, y2, y3⟩, -⟩
    · exact z
    · exact absurd ⟨y, y2, y3⟩ hb) (fun f x hx hb => by
    rcases inn f x hx with ⟨z, -⟩ | ⟨-, z⟩
    · obtain ⟨y, y1, y2⟩ := hb
      exact absurd y2 (z y (by omega) y1)
    · exact z) (fun f => by
    rw [fX7_leads_w10]
    simp only []
    rw [o_4 e0]
    simp only [Option.bind_some]
    rw [aI_of e2 hj (by decide), s1]
    simp only [Option.bind_some]
    rw [if_leI (by omega) (by omega), if_pos (Nat.le_refl _), retZ0]) 0 FUEL (by omega) (fuel_big (by omega))
  rcases key with ⟨y1, y2⟩ | ⟨⟨x, -, y2, y3⟩, y4⟩
  · right
    exact ⟨fun ⟨x, x1, y, x2, x3⟩ => y1 x (by omega) x1 ⟨y, x2, x3⟩, y2⟩
  · left
    obtain ⟨y, y5, y6⟩ := y3
    exact ⟨⟨x, y2, y, y5, y6⟩, y4⟩
theorem sm01 (p : Nat → Prop) [DecidablePred p] (n : Nat) : sm (fun w => if p w then 1 else 0) n ≤ n := by
  have := sm_le (f := fun y => if p y then 1 else 0) (g := fun _ => 1) (n := n) (fun i _ => by show (if p i then 1 else 0) ≤ 1; split <;> omega)
  rw [sm_const] at this
  omega
theorem isEven_m (g : GR k r F) (e0 : h[20]? = some (mob thr tl' sz om rd')) (e2 : h[22]? = some (aC 0 6 stf)) (e3 : h[23]? = some (aC 0 6 wdf)) (e4 : h[24]? = some (aC 0 189 tbf)) (hj : j < 6) (s1 : stf j = nI k) (s2 : wdf j = nI r) (s3 : ∀ w, w < k ^ r → tbf (27 * j + w) = nI (F w)) : (EvenR k r F ∧ fX7_isEven h 20 (nI j) = some (1, h)) ∨ (¬ EvenR k r F ∧ fX7_isEven h 20 (nI j) = some (0, h)) := by
  obtain ⟨n1, n2, n3, n4, n5⟩ := g.nums
  obtain ⟨g1, g2, g3, g4, gF⟩ := id g
  unfold fX7_isEven
  rw [o_4 e0]
  simp only [Option.bind_some]
  rw [aI_of e2 hj (by decide), s1]
  simp only [Option.bind_some]
  rw [o_5 e0]
  simp only [Option.bind_some]
  rw [aI_of e3 hj (by decide), s2]
  simp only [Option.bind_some]
  rw [mpower (by omega) (by omega), call_ok, l0]
  have step : ∀ f c, c < k → fX7_isEven_w18 (f + 1) 20 (nI j) (nI (k ^ r)) (nI c) h = if sm (fun w => if F w = c then 1 else 0) (k ^ r) * k = k ^ r then fX7_isEven_w18 f 20 (nI j) (nI (k ^ r)) (nI (c + 1)) h else some (0, h) := by
    intro f c hc
    rw [fX7_isEven_w18]
    simp only []
    rw [o_4 e0]
    simp only [Option.bind_some]
    rw [aI_of e2 hj (by decide), s1]
    simp only [Option.bind_some]
    rw [if_leI (by omega) (by omega), if_neg (by omega)]
    have inn := upto (fun f2 w => fX7_isEven_w34 (fX7_isEven_w18 f) f2 20 (nI j) (nI (k ^ r)) (nI c) (nI (sm (fun w => if F w = c then 1 else 0) w)) (nI w) h) (k ^ r) (fX7_isEven_b67 (fX7_isEven_w18 f) 20 (nI j) (nI (k ^ r)) (nI c) (nI (sm (fun w => if F w = c then 1 else 0) (k ^ r))) h) (fun f2 w hw => by
      have hF := gF w hw
      rw [fX7_isEven_w34]
      simp only []
      rw [if_leI (by omega) (by omega), if_neg (by omega), oo e0, mtells e0 e4 g hj s3 hw, call_ok, if_eqI (by omega) (by omega)]
      unfold fX7_isEven_b58
      rw [setv_ok, setv_ok, sm]
      by_cases z : F w = c
      · rw [if_pos z, if_pos z, nI_p1, nI_p1]
      · rw [if_neg z, if_neg z, nI_p1, show (0 : Int32) = nI 0 from rfl, nI_add]) (fun f2 => by
      rw [fX7_isEven_w34]
      simp only []
      rw [if_leI (by omega) (by omega), if_pos (Nat.le_refl _)]) 0 FUEL (by omega) (fuel_big (by omega))
    refine Eq.trans (show fX7_isEven_w34 (fX7_isEven_w18 f) FUEL 20 (nI j) (nI (k ^ r)) (nI c) (nI 0) (nI 0) h = _ from inn) ?_
    have hsm := sm01 (fun w => F w = c) (k ^ r)
    have hsk : sm (fun w => if F w = c then 1 else 0) (k ^ r) * k ≤ 27 * 4 := Nat.mul_le_mul (by omega) g2
    unfold fX7_isEven_b67
    rw [o_4 e0]
    simp only [Option.bind_some]
    rw [aI_of e2 hj (by decide), s1]
    simp only [Option.bind_some]
    rw [pk_mul, if_eqI (by omega) (by omega), nI_p1, retZ0]
  have key := scan_all (fun f c => fX7_isEven_w18 f 20 (nI j) (nI (k ^ r)) (nI c) h) k (fun c => ¬ sm (fun w => if F w = c then 1 else 0) (k ^ r) * k = k ^ r) (some (0, h)) (some (1, h)) (fun f c hc hb => by rw [step f c hc, if_pos (Decidable.not_not.mp hb)]) (fun f c hc hb => by rw [step f c hc, if_neg hb]) (fun f => by
    rw [fX7_isEven_w18]
    simp only []
    rw [o_4 e0]
    simp only [Option.bind_some]
    rw [aI_of e2 hj (by decide), s1]
    simp only [Option.bind_some]
    rw [if_leI (by omega) (by omega), if_pos (Nat.le_refl _), retZ1]) 0 FUEL (by omega) (fuel_big (by omega))
  rcases key with ⟨y1, y2⟩ | ⟨⟨c, -, y2, y3⟩, y4⟩
  · left
    exact ⟨fun c hc => Decidable.not_not.mp (y1 c (by omega) hc), y2⟩
  · right
    exact ⟨fun z => y3 (z c y2), y4⟩
end MPR

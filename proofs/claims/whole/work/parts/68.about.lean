section PL
variable {h : Hp} {a k r : Nat} {F : Nat → Nat} {f : Nat → Int32}
theorem lastLook_ok (g : GR k r F) (R : RuleAt h a (a + 1) k r F) (e : h[18]? = some (oC 0 [vR 19])) (e19 : h[19]? = some (aC 2 729 f)) : ((∀ x y, x < k ^ r → y < x → ¬ alv f x y) ∧ fX0_losesNothing_b34 18 a h = some (1, h)) ∨ ((∃ x y, x < k ^ r ∧ y < x ∧ alv f x y) ∧ fX0_losesNothing_b34 18 a h = some (0, h)) := by
  obtain ⟨n1, n2, n3, n4, n5⟩ := g.nums
  unfold fX0_losesNothing_b34
  have inner : ∀ n x, x < k ^ r → ((∀ y, 0 ≤ y → y < x → ¬ alv f x y) ∧ fX0_losesNothing_w36 (n + 1) 18 a (nI x) h = fX0_losesNothing_w36 n 18 a (nI (x + 1)) h) ∨ ((∃ y, 0 ≤ y ∧ y < x ∧ alv f x y) ∧ fX0_losesNothing_w36 (n + 1) 18 a (nI x) h = some (0, h)) := by
    intro n x hx
    have st : ∀ q y, y < x → fX0_losesNothing_w47 (fX0_losesNothing_w36 n) (q + 1) 18 a (nI x) (nI y) h = if f (x * 27 + y) = 0 then fX0_losesNothing_w47 (fX0_losesNothing_w36 n) q 18 a (nI x) (nI (y + 1)) h else some (0, h) := by
      intro q y hy
      rw [fX0_losesNothing_w47]
      simp only []
      rw [if_leI (by omega) (by omega), if_neg (by omega), pok e, lives_ok e e19 (by omega) (by omega)]
      by_cases q1 : f (x * 27 + y) = 0
      · rw [if_pos q1, if_pos q1, call_ok, if_pos rfl, nI_p1]
      · rw [if_neg q1, if_neg q1, call_ok, if_neg one_ne, retZ0]
    have key := scan_all (fun q y => fX0_losesNothing_w47 (fX0_losesNothing_w36 n) q 18 a (nI x) (nI y) h) x (fun y => alv f x y) (some (0, h)) (fX0_losesNothing_w36 n 18 a (nI (x + 1)) h) (fun q y hy hn => by rw [st q y hy, if_pos (Decidable.not_not.mp hn)]) (fun q y hy hn => by rw [st q y hy, if_neg hn]) (fun q => by
      rw [fX0_losesNothing_w47]
      simp only []
      rw [if_leI (by omega) (by omega), if_pos (Nat.le_refl _)]
      unfold fX0_losesNothing_b71
      rw [nI_p1]) 0 FUEL (by omega) (fuel_big (by omega))
    have hst : fX0_losesNothing_w36 (n + 1) 18 a (nI x) h = fX0_losesNothing_w47 (fX0_losesNothing_w36 n) FUEL 18 a (nI x) (nI 0) h := by
      rw [fX0_losesNothing_w36]
      simp only []
      rw [rw9 R]
      simp only [Option.bind_some]
      rw [if_leI (by omega) (by omega), if_neg (by omega)]
      rfl
    rw [hst]
    exact key
  have key := scan_all (fun q x => fX0_losesNothing_w36 q 18 a (nI x) h) (k ^ r) (fun x => ∃ y, y < x ∧ alv f x y) (some (0, h)) (some (1, h)) (fun q x hx hn => by
    rcases inner q x hx with ⟨z1, z2⟩ | ⟨⟨v, z0, z1, z3⟩, z2⟩
    · exact z2
    · exact absurd ⟨v, z1, z3⟩ hn) (fun q x hx hn => by
    rcases inner q x hx with ⟨z1, z2⟩ | ⟨z1, z2⟩
    · obtain ⟨v, v1, v2⟩ := hn
      exact absurd v2 (z1 v (Nat.zero_le _) v1)
    · exact z2) (fun q => by
    rw [fX0_losesNothing_w36]
    simp only []
    rw [rw9 R]
    simp only [Option.bind_some]
    rw [if_leI (by omega) (by omega), if_pos (Nat.le_refl _), retZ1]) 0 FUEL (by omega) (fuel_big (by omega))
  rcases key with ⟨z1, z2⟩ | ⟨⟨x, z0, z1, y, z3, z4⟩, z2⟩
  · left
    exact ⟨fun x y hx hy hal => z1 x (Nat.zero_le _) hx ⟨y, hy, hal⟩, z2⟩
  · right
    exact ⟨⟨x, y, z1, z3, z4⟩, z2⟩
theorem losesNothing_ok (g : GR k r F) (ha : 44 ≤ a) (R : RuleAt h a (a + 1) k r F) (e : h[18]? = some (oC 0 [vR 19])) (e19 : h[19]? = some (aC 2 729 f)) : ∃ f', (LosesNo k r F ∧ fX0_losesNothing h 18 a = some (1, h.set 19 (aC 2 729 f'))) ∨ (¬ LosesNo k r F ∧ fX0_losesNothing h 18 a = some (0, h.set 19 (aC 2 729 f'))) := by
  obtain ⟨n1, n2, n3, n4, n5⟩ := g.nums
  obtain ⟨g1, g2, g3, g4, gF⟩ := id g
  obtain ⟨f0, b1, b2⟩ := begin_ok g ha R e e19
  have E : ∀ u, (h.set 19 (aC 2 729 u))[18]? = some (oC 0 [vR 19]) := fun u => st_n' (by decide) e
  have E19 : ∀ u, (h.set 19 (aC 2 729 u))[19]? = some (aC 2 729 u) := fun u => st_s e19
  have ER : ∀ u, RuleAt (h.set 19 (aC 2 729 u)) a (a + 1) k r F := fun u => R.set (by omega) (by omega)
  unfold fX0_losesNothing
  rw [pok e, b1]
  simp only [Option.bind_some]
  -- the passes
  have key : ∀ d i fuel f1, i + d = 729 → d + 1 < fuel → PI k r F f0 f1 → cntA f1 729 + i ≤ 729 → ∃ f2, fX0_losesNothing_w9 fuel 18 a 1 (nI i) (h.set 19 (aC 2 729 f1)) = fX0_losesNothing_b34 18 a (h.set 19 (aC 2 729 f2)) ∧ PI k r F f0 f2 ∧ ∀ x y, x < k ^ r → y < k ^ r → alv f2 x y → sup k r f2 x y := by
    intro d
    induction d with
    | zero =>
      intro i fuel f1 hi hf hP hc
      obtain ⟨q, rfl⟩ : ∃ q, fuel = q + 2 := ⟨fuel - 2, by omega⟩
      obtain ⟨f2, ch, p1, p2, p3⟩ := prune_ok g ha (ER f1) (E f1) (E19 f1)
      rw [fX0_losesNothing_w9]
      simp only []
      rw [pa0 (E f1)]
      simp only [Option.bind_some]
      rw [aN_of (E19 f1) (by decide)]
      simp only [Option.bind_some]
      rw [if_ltI (by omega) (by omega), if_neg (by omega), if_neg one_ne, pok (E f1), p1, call_ok, nI_p1, List.set_set]
      rcases p3 with ⟨rfl, rfl, p4⟩ | ⟨-, p4⟩
      · refine ⟨f2, ?_, hP, p4⟩
        rw [fX0_losesNothing_w9]
        simp only []
        rw [pa0 (E f2)]
        simp only [Option.bind_some]
        rw [aN_of (E19 f2) (by decide)]
        simp only [Option.bind_some]
        rw [if_ltI (by omega) (by omega), if_pos (by omega)]
      · omega
    | succ d ih =>
      intro i fuel f1 hi hf hP hc
      obtain ⟨q, rfl⟩ : ∃ q, fuel = q + 2 := ⟨fuel - 2, by omega⟩
      obtain ⟨f2, ch, p1, p2, p3⟩ := prune_ok g ha (ER f1) (E f1) (E19 f1)
      rw [fX0_losesNothing_w9]
      simp only []
      rw [pa0 (E f1)]
      simp only [Option.bind_some]
      rw [aN_of (E19 f1) (by decide)]
      simp only [Option.bind_some]
      rw [if_ltI (by omega) (by omega), if_neg (by omega), if_neg one_ne, pok (E f1), p1, call_ok, nI_p1, List.set_set]
      rcases p3 with ⟨rfl, rfl, p4⟩ | ⟨rfl, p4⟩
      · refine ⟨f2, ?_, hP, p4⟩
        rw [fX0_losesNothing_w9]
        simp only []
        rw [pa0 (E f2)]
        simp only [Option.bind_some]
        rw [aN_of (E19 f2) (by decide)]
        simp only [Option.bind_some]
        rw [if_ltI (by omega) (by omega), if_neg (by omega), if_pos trivial]
      · exact ih (i + 1) (q + 1) f2 (by omega) (by omega) (hP.tn p2) (by omega)
  obtain ⟨f2, k1, k2, k3⟩ := key 729 0 FUEL f0 (by omega) (fuel_big (by omega)) PI.rf (by have := cntA_le f0 729; omega)
  refine ⟨f2, ?_⟩
  have hself : SelfS k r F (fun x y => x < k ^ r ∧ y < k ^ r ∧ alv f2 x y) := by
    rintro x y ⟨hx, hy, hal⟩
    obtain ⟨⟨u, u1, v, v1, s1⟩, ⟨u', u1', v', v1', s2⟩⟩ := k3 x y hx hy hal
    have hb1 : ∀ x u, u < k → x % k ^ (r - 1) * k + u < k ^ r := fun x u hu => by
      have h1 := Nat.mod_lt x (show k ^ (r - 1) > 0 by omega)
      have : (x % k ^ (r - 1) + 1) * k ≤ k ^ (r - 1) * k := Nat.mul_le_mul_right k h1
      rw [Nat.succ_mul] at this
      omega
    have hb2 : ∀ x u, x < k ^ r → u < k → x / k + u * k ^ (r - 1) < k ^ r := fun x u hx hu => by
      have h1 : x / k < k ^ (r - 1) := by
        rw [Nat.div_lt_iff_lt_mul (by omega)]
        omega
      have : (u + 1) * k ^ (r - 1) ≤ k * k ^ (r - 1) := Nat.mul_le_mul_right _ hu
      rw [Nat.succ_mul, Nat.mul_comm k] at this
      omega
    exact ⟨hx, hy, (b2 x y hx hy).mp (k2.2.1 x y hx hy hal), ⟨u, u1, v, v1, hb1 x u u1, hb1 y v v1, s1⟩, ⟨u', u1', v', v1', hb2 x u' hx u1', hb2 y v' hy v1', s2⟩⟩
  have hall : ∀ P, SelfS k r F P → ∀ x y, P x y → alv f2 x y := fun P s => k2.1 P s (fun x y hp => by
    obtain ⟨s1, s2, s3, -⟩ := s x y hp
    exact (b2 x y s1 s2).mpr s3)
  rw [show (0 : Int32) = nI 0 from rfl] at *
  rw [k1]
  rcases lastLook_ok g (ER f2) (E f2) (E19 f2) with ⟨z1, z2⟩ | ⟨⟨x, y, z1, z3, z4⟩, z2⟩
  · left
    refine ⟨fun P s x y hp => ?_, z2⟩
    have hflip : SelfS k r F (fun x y => P y x) := by
      rintro x y hp
      obtain ⟨s1, s2, s3, ⟨u, u1, v, v1, s4⟩, ⟨u', u1', v', v1', s5⟩⟩ := s y x hp
      exact ⟨s2, s1, s3.symm, ⟨v, v1, u, u1, s4⟩, ⟨v', v1', u', u1', s5⟩⟩
    obtain ⟨s1, s2, -⟩ := s x y hp
    have h1 := hall P s x y hp
    have h2 := hall _ hflip y x hp
    have h3 : ¬ y < x := fun z => z1 x y s1 z h1
    have h4 : ¬ x < y := fun z => z1 y x s2 z h2
    omega
  · right
    refine ⟨fun ln => ?_, z2⟩
    have := ln _ hself x y ⟨z1, by omega, z4⟩
    omega
end PL
section CA
variable {SV : SVP} {h : Hp} {tl : Nat} {tp : Nat → Nat} {sl : SL} {ol : Nat} {of : Nat → Nat} {rd tr su : Nat}
theorem c_about (I : CInv SV h tl tp sl ol of rd tr su) (s w : Int32) : (ruleOf sl s = none ∧ fX6_about h 4 s w = some (-1, h)) ∨ (∃ k r F, ruleOf sl s = some (k, r, F) ∧ GR k r F ∧ ((w = 0 ∧ fX6_about h 4 s w = some (nI k, h)) ∨ (w = 1 ∧ fX6_about h 4 s w = some (nI r, h)) ∨ (w = 2 ∧ ∃ h', CInv SV h' tl tp sl ol of rd tr su ∧ Up h h' ∧ ((NoMis k r F ∧ fX6_about h 4 s w = some (1, h')) ∨ ((∃ y, MisOf k r F y) ∧ fX6_about h 4 s w = some (0, h')))) ∨ (w = 3 ∧ ∃ h', CInv SV h' tl tp sl ol of rd tr su ∧ Up h h' ∧ ((LosesNo k r F ∧ fX6_about h 4 s w = some (1, h')) ∨ (¬ LosesNo k r F ∧ fX6_about h 4 s w = some (0, h')))) ∨ (w ≠ 0 ∧ w ≠ 1 ∧ w ≠ 2 ∧ w ≠ 3 ∧ fX6_about h 4 s w = some (-1, h)))) := by
  obtain ⟨he, th, sf, tf, uf, e2, e3, e4, a1, a2, a3, a4, e5, a5, e6, a6, e7, a7, cf, aT, aS, aL⟩ := id I
  unfold fX6_about
  rw [mok e4]
  rcases ruleIn_st e4 e5 a5 s with ⟨q, e⟩ | ⟨a, k, r, F, q, e, ha, g, R⟩
  · left
    rw [e, call_ok, if_pos rfl]
    exact ⟨q, rfl⟩
  right
  refine ⟨k, r, F, q, g, ?_⟩
  rw [e, call_ok, if_neg (by omega)]
  by_cases w0 : w = 0
  · left
    rw [if_pos w0, rk R]
    exact ⟨w0, rfl⟩
  rw [if_neg w0]
  by_cases w1 : w = 1
  · right; left
    rw [if_pos w1, rr R]
    exact ⟨w1, rfl⟩
  rw [if_neg w1]
  by_cases w2 : w = 2
  · right; right; left
    rw [if_pos w2, m10 e4]
    simp only [Option.bind_some]
    obtain ⟨w0, e13⟩ := cf.2.2.2.2.2.1
    obtain ⟨H, I', u, hk, cfH, h13, z⟩ := misses_c I e4 cf g ha R
    rw [oK_of (by decide) e13]
    refine ⟨w2, H, I', u, ?_⟩
    rcases z with ⟨z1, s', j, e1, J, y1, y2⟩ | ⟨z1, z2⟩
    · right
      rw [z1, call_ok, if_neg one_ne]
      exact ⟨⟨_, s', j, e1, y1, y2, rfl⟩, rfl⟩
    · left
      rw [z1, call_ok, if_pos rfl]
      exact ⟨z2, rfl⟩
  rw [if_neg w2]
  by_cases w3 : w = 3
  · right; right; right; left
    rw [if_pos w3, m11 e4]
    simp only [Option.bind_some]
    have e18 := cf.2.2.2.2.2.2.2.2.2.2.1
    obtain ⟨f19, e19⟩ := cf.2.2.2.2.2.2.2.2.2.2.2
    obtain ⟨f', z⟩ := losesNothing_ok g ha R e18 e19
    obtain ⟨I', u⟩ := I.scr (h' := h.set 19 (aC 2 729 f')) (by simp) (fun i hi => st_n (by omega)) (CFix.s19 cf)
    rw [pok e18]
    refine ⟨w3, h.set 19 (aC 2 729 f'), I', u, ?_⟩
    rcases z with ⟨z1, z2⟩ | ⟨z1, z2⟩
    · left
      rw [z2, call_ok, if_neg one_ne]
      exact ⟨z1, rfl⟩
    · right
      rw [z2, call_ok, if_pos rfl]
      exact ⟨z1, rfl⟩
  · right; right; right; right
    rw [if_neg w3]
    exact ⟨w0, w1, w2, w3, rfl⟩
end CA

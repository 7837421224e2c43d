section PB
variable {h : Hp} {a k r : Nat} {F : Nat → Nat} {f : Nat → Int32}
/-- a pair goes on both ways among the living -/
def sup (k r : Nat) (f : Nat → Int32) (x y : Nat) : Prop := (∃ u, u < k ∧ ∃ v, v < k ∧ alv f (x % k ^ (r - 1) * k + u) (y % k ^ (r - 1) * k + v)) ∧ (∃ u, u < k ∧ ∃ v, v < k ∧ alv f (x / k + u * k ^ (r - 1)) (y / k + v * k ^ (r - 1)))
def PI (k r : Nat) (F : Nat → Nat) (f f' : Nat → Int32) : Prop := (∀ P, SelfS k r F P → (∀ x y, P x y → alv f x y) → ∀ x y, P x y → alv f' x y) ∧ (∀ x y, x < k ^ r → y < k ^ r → alv f' x y → alv f x y) ∧ cntA f' 729 ≤ cntA f 729
theorem PI.rf : PI k r F f f := ⟨fun _ _ h => h, fun _ _ _ _ h => h, Nat.le_refl _⟩
theorem PI.tn {f' f'' : Nat → Int32} (p : PI k r F f f') (q : PI k r F f' f'') : PI k r F f f'' := ⟨fun P s h => q.1 P s (p.1 P s h), fun x y hx hy h => p.2.1 x y hx hy (q.2.1 x y hx hy h), Nat.le_trans q.2.2 p.2.2⟩
theorem pl_inj {x y u v : Nat} (hy : y < 27) (hv : v < 27) (h : x * 27 + y = u * 27 + v) : x = u ∧ y = v := by omega
theorem PI.kill (g : GR k r F) {x y : Nat} (hx : x < k ^ r) (hy : y < k ^ r) (hn : ¬ sup k r f x y) : PI k r F f (upd f (x * 27 + y) 0) := by
  obtain ⟨n1, n2, n3, n4, n5⟩ := g.nums
  refine ⟨fun P s hP u v huv => ?_, fun u v hu hv h => ?_, ?_⟩
  · obtain ⟨s1, s2, s3, ⟨p, p1, q, q1, s4⟩, ⟨p', p1', q', q1', s5⟩⟩ := s u v huv
    have hne : ¬ (u * 27 + v = x * 27 + y) := fun z => by
      obtain ⟨rfl, rfl⟩ := pl_inj (by omega) (by omega) z
      exact hn ⟨⟨p, p1, q, q1, hP _ _ s4⟩, ⟨p', p1', q', q1', hP _ _ s5⟩⟩
    unfold alv
    rw [upd_ne hne]
    exact hP u v huv
  · unfold alv at h ⊢
    by_cases q : u * 27 + v = x * 27 + y
    · rw [q, upd_self] at h
      exact absurd rfl h
    · rwa [upd_ne q] at h
  · have := cntA_upd (f := f) (p := x * 27 + y) 729
    omega
theorem begin_ok (g : GR k r F) (ha : 44 ≤ a) (R : RuleAt h a (a + 1) k r F) (e : h[18]? = some (oC 0 [vR 19])) (e19 : h[19]? = some (aC 2 729 f)) : ∃ f', fX0_begin h 18 a = some (h.set 19 (aC 2 729 f')) ∧ ∀ x y, x < k ^ r → y < k ^ r → (alv f' x y ↔ F x = F y) := by
  obtain ⟨n1, n2, n3, n4, n5⟩ := g.nums
  obtain ⟨g1, g2, g3, g4, gF⟩ := id g
  have E : ∀ u, (h.set 19 (aC 2 729 u))[18]? = some (oC 0 [vR 19]) := fun u => st_n' (by decide) e
  have E19 : ∀ u, (h.set 19 (aC 2 729 u))[19]? = some (aC 2 729 u) := fun u => st_s e19
  have ER : ∀ u, RuleAt (h.set 19 (aC 2 729 u)) a (a + 1) k r F := fun u => R.set (by omega) (by omega)
  have k1 := uptoI (fun q x H => fX0_begin_w2 q 18 a (nI x) H) (k ^ r) (fun i H => ∃ f', H = h.set 19 (aC 2 729 f') ∧ ∀ x y, x < i → y < k ^ r → (alv f' x y ↔ F x = F y)) (by
    rintro q x H hx ⟨f', rfl, hf⟩
    have k2 := uptoI (fun q2 y H => fX0_begin_w12 (fX0_begin_w2 q) q2 18 a (nI x) (nI y) H) (k ^ r) (fun j H => ∃ f', H = h.set 19 (aC 2 729 f') ∧ (∀ x y, x < x → y < k ^ r → (alv f' x y ↔ F x = F y)) ∧ (∀ x' y, x' < x → y < k ^ r → (alv f' x' y ↔ F x' = F y)) ∧ ∀ y, y < j → (alv f' x y ↔ F x = F y)) (by
      rintro q2 y H hy ⟨f2, rfl, h0, h1, h2⟩
      refine ⟨h.set 19 (aC 2 729 (upd f2 (x * 27 + y) (if F x = F y then 1 else 0))), ?_, _, rfl, fun x y hx => absurd hx (Nat.lt_irrefl _), fun x' y' hx' hy' => ?_, fun y' hy' => ?_⟩
      · have b1 := gF x hx
        have b2 := gF y hy
        rw [fX0_begin_w12]
        simp only []
        rw [rw9 (ER f2)]
        simp only [Option.bind_some]
        rw [if_leI (by omega) (by omega), if_neg (by omega), rok (ER f2), tells_ok g (ER f2) hx, call_ok, rok (ER f2), tells_ok g (ER f2) hy, call_ok, if_eqI (by omega) (by omega)]
        unfold fX0_begin_b41
        by_cases q1 : F x = F y
        · rw [if_pos q1, if_pos q1, pok (E f2), setLife_ok (E f2) (E19 f2) (by omega) (by omega) (v := 1) (by decide)]
          simp only [Option.bind_some]
          rw [List.set_set, nI_p1]
        · rw [if_neg q1, if_neg q1, pok (E f2), setLife_ok (E f2) (E19 f2) (by omega) (by omega) (v := 0) (by decide)]
          simp only [Option.bind_some]
          rw [List.set_set, nI_p1]
      · unfold alv
        rw [upd_ne (by omega)]
        exact h1 x' y' hx' hy'
      · by_cases q1 : y' = y
        · subst q1
          unfold alv
          rw [upd_self]
          by_cases q2 : F x = F y'
          · rw [if_pos q2]; exact ⟨fun _ => q2, fun _ => one_ne⟩
          · rw [if_neg q2]; exact ⟨fun z => absurd rfl z, fun z => absurd z q2⟩
        · unfold alv
          rw [upd_ne (by omega)]
          exact h2 y' (by omega)) 0 FUEL (h.set 19 (aC 2 729 f')) (by omega) (fuel_big (by omega)) ⟨f', rfl, fun x y hx => absurd hx (Nat.lt_irrefl _), hf, fun y hy => by omega⟩
    obtain ⟨fu, H2, z1, f2, rfl, -, z2, z3⟩ := k2
    refine ⟨h.set 19 (aC 2 729 f2), ?_, f2, rfl, fun x' y hx' hy => ?_⟩
    · rw [fX0_begin_w2]
      simp only []
      rw [rw9 (ER f')]
      simp only [Option.bind_some]
      rw [if_leI (by omega) (by omega), if_neg (by omega)]
      refine Eq.trans z1 ?_
      rw [fX0_begin_w12]
      simp only []
      rw [rw9 (ER f2)]
      simp only [Option.bind_some]
      rw [if_leI (by omega) (by omega), if_pos (Nat.le_refl _)]
      unfold fX0_begin_b50
      rw [nI_p1]
    · by_cases q1 : x' = x
      · rw [q1]; exact z3 y hy
      · exact z2 x' y (by omega) hy) 0 FUEL h (by omega) (fuel_big (by omega)) ⟨f, (st_id e19).symm, fun x y hx => by omega⟩
  obtain ⟨fu, H, z1, f', rfl, z2⟩ := k1
  refine ⟨f', ?_, z2⟩
  unfold fX0_begin
  refine Eq.trans (show fX0_begin_w2 FUEL 18 a (nI 0) h = _ from z1) ?_
  rw [fX0_begin_w2]
  simp only []
  rw [rw9 (ER f')]
  simp only [Option.bind_some]
  rw [if_leI (by omega) (by omega), if_pos (Nat.le_refl _)]
theorem prune_ok (g : GR k r F) (ha : 44 ≤ a) (R : RuleAt h a (a + 1) k r F) (e : h[18]? = some (oC 0 [vR 19])) (e19 : h[19]? = some (aC 2 729 f)) : ∃ f' ch, fX0_prune h 18 a = some (ch, h.set 19 (aC 2 729 f')) ∧ PI k r F f f' ∧ ((ch = 0 ∧ f' = f ∧ ∀ x y, x < k ^ r → y < k ^ r → alv f x y → sup k r f x y) ∨ (ch = 1 ∧ cntA f' 729 < cntA f 729)) := by
  obtain ⟨n1, n2, n3, n4, n5⟩ := g.nums
  obtain ⟨g1, g2, g3, g4, gF⟩ := id g
  have E : ∀ u, (h.set 19 (aC 2 729 u))[18]? = some (oC 0 [vR 19]) := fun u => st_n' (by decide) e
  have E19 : ∀ u, (h.set 19 (aC 2 729 u))[19]? = some (aC 2 729 u) := fun u => st_s e19
  have ER : ∀ u, RuleAt (h.set 19 (aC 2 729 u)) a (a + 1) k r F := fun u => R.set (by omega) (by omega)
  have k1 := uptoG (σ := Int32 × Hp) (fun q x s => fX0_prune_w4 q 18 a s.1 (nI x) s.2) (k ^ r) (fun i s => ∃ f', s.2 = h.set 19 (aC 2 729 f') ∧ PI k r F f f' ∧ ((s.1 = 0 ∧ f' = f ∧ ∀ x y, x < i → y < k ^ r → alv f x y → sup k r f x y) ∨ (s.1 = 1 ∧ cntA f' 729 < cntA f 729))) (by
    rintro q x ⟨ch, H⟩ hx ⟨f', hH, hPI, hch⟩
    have hH' : H = h.set 19 (aC 2 729 f') := hH
    subst hH'
    have k2 := uptoG (σ := Int32 × Hp) (fun q2 y s => fX0_prune_w15 (fX0_prune_w4 q) q2 18 a s.1 (nI x) (nI y) s.2) (k ^ r) (fun j s => ∃ f', s.2 = h.set 19 (aC 2 729 f') ∧ PI k r F f f' ∧ ((s.1 = 0 ∧ f' = f ∧ (∀ x' y, x' < x → y < k ^ r → alv f x' y → sup k r f x' y) ∧ ∀ y, y < j → alv f x y → sup k r f x y) ∨ (s.1 = 1 ∧ cntA f' 729 < cntA f 729))) (by
      rintro q2 y ⟨ch, H⟩ hy ⟨f2, hH, hP, hc⟩
      have hH' : H = h.set 19 (aC 2 729 f2) := hH
      subst hH'
      have hst : fX0_prune_w15 (fX0_prune_w4 q) (q2 + 1) 18 a ch (nI x) (nI y) (h.set 19 (aC 2 729 f2)) = call (if f2 (x * 27 + y) = 0 then some ((0 : Int32), h.set 19 (aC 2 729 f2)) else some ((1 : Int32), h.set 19 (aC 2 729 f2))) fun r2 h3 => if r2 = 0 then (fX0_prune_b66 (fX0_prune_w4 q) (fX0_prune_w15 (fX0_prune_w4 q) q2) 18 a ch (nI x) (nI y) h3) else (call (oK h3 18 0 (fX0_goesOn h3 18 a (nI x) (nI y))) fun r4 h5 => if r4 = 0 then (fX0_prune_b56 (fX0_prune_w4 q) (fX0_prune_w15 (fX0_prune_w4 q) q2) 18 a (nI x) (nI y) h5) else (call (oK h5 18 0 (fX0_comesFrom h5 18 a (nI x) (nI y))) fun r6 h7 => if r6 = 0 then (fX0_prune_b56 (fX0_prune_w4 q) (fX0_prune_w15 (fX0_prune_w4 q) q2) 18 a (nI x) (nI y) h7) else (fX0_prune_b66 (fX0_prune_w4 q) (fX0_prune_w15 (fX0_prune_w4 q) q2) 18 a ch (nI x) (nI y) h7))) := by
        rw [fX0_prune_w15]
        simp only []
        rw [rw9 (ER f2)]
        simp only [Option.bind_some]
        rw [if_leI (by omega) (by omega), if_neg (by omega), pok (E f2), lives_ok (E f2) (E19 f2) (by omega) (by omega)]
      have hb66 : fX0_prune_b66 (fX0_prune_w4 q) (fX0_prune_w15 (fX0_prune_w4 q) q2) 18 a ch (nI x) (nI y) (h.set 19 (aC 2 729 f2)) = fX0_prune_w15 (fX0_prune_w4 q) q2 18 a ch (nI x) (nI (y + 1)) (h.set 19 (aC 2 729 f2)) := by
        unfold fX0_prune_b66
        rw [nI_p1]
      have hb56 : fX0_prune_b56 (fX0_prune_w4 q) (fX0_prune_w15 (fX0_prune_w4 q) q2) 18 a (nI x) (nI y) (h.set 19 (aC 2 729 f2)) = fX0_prune_w15 (fX0_prune_w4 q) q2 18 a 1 (nI x) (nI (y + 1)) (h.set 19 (aC 2 729 (upd f2 (x * 27 + y) 0))) := by
        unfold fX0_prune_b56 fX0_prune_b66
        rw [pok (E f2), setLife_ok (E f2) (E19 f2) (by omega) (by omega) (v := 0) (by decide)]
        simp only [Option.bind_some]
        rw [List.set_set, nI_p1]
      -- kept
      have keep : (alv f2 x y → sup k r f2 x y) → fX0_prune_w15 (fX0_prune_w4 q) (q2 + 1) 18 a ch (nI x) (nI y) (h.set 19 (aC 2 729 f2)) = fX0_prune_w15 (fX0_prune_w4 q) q2 18 a ch (nI x) (nI (y + 1)) (h.set 19 (aC 2 729 f2)) → ∃ s' : Int32 × Hp, fX0_prune_w15 (fX0_prune_w4 q) (q2 + 1) 18 a ch (nI x) (nI y) (h.set 19 (aC 2 729 f2)) = fX0_prune_w15 (fX0_prune_w4 q) q2 18 a s'.1 (nI x) (nI (y + 1)) s'.2 ∧ ∃ f', s'.2 = h.set 19 (aC 2 729 f') ∧ PI k r F f f' ∧ ((s'.1 = 0 ∧ f' = f ∧ (∀ x' y, x' < x → y < k ^ r → alv f x' y → sup k r f x' y) ∧ ∀ y', y' < y + 1 → alv f x y' → sup k r f x y') ∨ (s'.1 = 1 ∧ cntA f' 729 < cntA f 729)) := by
        intro hs heq
        refine ⟨(ch, h.set 19 (aC 2 729 f2)), heq, f2, rfl, hP, ?_⟩
        rcases hc with ⟨c1, c2, c3, c4⟩ | c1
        · left
          refine ⟨c1, c2, c3, fun y' hy' hal => ?_⟩
          by_cases q1 : y' = y
          · rw [q1] at hal ⊢
            rw [← c2] at hal ⊢
            exact hs hal
          · exact c4 y' (by omega) hal
        · exact Or.inr c1
      -- killed
      have kill : alv f2 x y → ¬ sup k r f2 x y → fX0_prune_w15 (fX0_prune_w4 q) (q2 + 1) 18 a ch (nI x) (nI y) (h.set 19 (aC 2 729 f2)) = fX0_prune_w15 (fX0_prune_w4 q) q2 18 a 1 (nI x) (nI (y + 1)) (h.set 19 (aC 2 729 (upd f2 (x * 27 + y) 0))) → ∃ s' : Int32 × Hp, fX0_prune_w15 (fX0_prune_w4 q) (q2 + 1) 18 a ch (nI x) (nI y) (h.set 19 (aC 2 729 f2)) = fX0_prune_w15 (fX0_prune_w4 q) q2 18 a s'.1 (nI x) (nI (y + 1)) s'.2 ∧ ∃ f', s'.2 = h.set 19 (aC 2 729 f') ∧ PI k r F f f' ∧ ((s'.1 = 0 ∧ f' = f ∧ (∀ x' y, x' < x → y < k ^ r → alv f x' y → sup k r f x' y) ∧ ∀ y', y' < y + 1 → alv f x y' → sup k r f x y') ∨ (s'.1 = 1 ∧ cntA f' 729 < cntA f 729)) := by
        intro hal hs heq
        refine ⟨(1, h.set 19 (aC 2 729 (upd f2 (x * 27 + y) 0))), heq, _, rfl, hP.tn (PI.kill g hx hy hs), Or.inr ⟨rfl, ?_⟩⟩
        have := cntA_upd (f := f2) (p := x * 27 + y) 729
        rw [if_pos (show x * 27 + y < 729 by omega), if_neg hal] at this
        have := hP.2.2
        omega
      by_cases q1 : f2 (x * 27 + y) = 0
      · refine keep (fun z => absurd q1 z) ?_
        rw [hst, if_pos q1, call_ok, if_pos rfl, hb66]
      · rw [if_neg q1, call_ok, if_neg one_ne, pok (E f2)] at hst
        rcases goesOn_ok g (ER f2) (E f2) (E19 f2) hx hy with ⟨s1, s2⟩ | ⟨s1, s2⟩
        · rw [s2, call_ok, if_neg one_ne, pok (E f2)] at hst
          rcases comesFrom_ok g (ER f2) (E f2) (E19 f2) hx hy with ⟨t1, t2⟩ | ⟨t1, t2⟩
          · rw [t2, call_ok, if_neg one_ne, hb66] at hst
            exact keep (fun _ => ⟨s1, t1⟩) hst
          · rw [t2, call_ok, if_pos rfl, hb56] at hst
            exact kill q1 (fun z => t1 z.2) hst
        · rw [s2, call_ok, if_pos rfl, hb56] at hst
          exact kill q1 (fun z => s1 z.1) hst) 0 FUEL (ch, h.set 19 (aC 2 729 f')) (by omega) (fuel_big (by omega)) ⟨f', rfl, hPI, hch.imp (fun ⟨c1, c2, c3⟩ => ⟨c1, c2, c3, fun y hy => by omega⟩) id⟩
    obtain ⟨fu, ⟨ch2, H2⟩, z1, f2, hH2, z2, z3⟩ := k2
    have hH2' : H2 = h.set 19 (aC 2 729 f2) := hH2
    subst hH2'
    refine ⟨(ch2, h.set 19 (aC 2 729 f2)), ?_, f2, rfl, z2, ?_⟩
    · show fX0_prune_w4 (q + 1) 18 a ch (nI x) (h.set 19 (aC 2 729 f')) = fX0_prune_w4 q 18 a ch2 (nI (x + 1)) (h.set 19 (aC 2 729 f2))
      rw [fX0_prune_w4]
      simp only []
      rw [rw9 (ER f')]
      simp only [Option.bind_some]
      rw [if_leI (by omega) (by omega), if_neg (by omega)]
      refine Eq.trans z1 ?_
      show fX0_prune_w15 (fX0_prune_w4 q) (fu + 1) 18 a ch2 (nI x) (nI (k ^ r)) (h.set 19 (aC 2 729 f2)) = _
      rw [fX0_prune_w15]
      simp only []
      rw [rw9 (ER f2)]
      simp only [Option.bind_some]
      rw [if_leI (by omega) (by omega), if_pos (Nat.le_refl _)]
      unfold fX0_prune_b72
      rw [nI_p1]
    · rcases z3 with ⟨c1, c2, c3, c4⟩ | c1
      · left
        refine ⟨c1, c2, fun x' y hx' hy hal => ?_⟩
        by_cases q1 : x' = x
        · rw [q1] at hal ⊢; exact c4 y hy hal
        · exact c3 x' y (by omega) hy hal
      · exact Or.inr c1) 0 FUEL (0, h) (by omega) (fuel_big (by omega)) ⟨f, (st_id e19).symm, PI.rf, Or.inl ⟨rfl, rfl, fun x y hx => by omega⟩⟩
  obtain ⟨fu, ⟨ch, H⟩, z1, f', hH, z2, z3⟩ := k1
  have hH' : H = h.set 19 (aC 2 729 f') := hH
  subst hH'
  refine ⟨f', ch, ?_, z2, z3⟩
  unfold fX0_prune
  refine Eq.trans (show fX0_prune_w4 FUEL 18 a 0 (nI 0) h = _ from z1) ?_
  show fX0_prune_w4 (fu + 1) 18 a ch (nI (k ^ r)) (h.set 19 (aC 2 729 f')) = _
  rw [fX0_prune_w4]
  simp only []
  rw [rw9 (ER f')]
  simp only [Option.bind_some]
  rw [if_leI (by omega) (by omega), if_pos (Nat.le_refl _)]
  rcases z3 with ⟨c1, -⟩ | ⟨c1, -⟩
  · have : ch = 0 := c1
    rw [this, retZ0]
  · have : ch = 1 := c1
    rw [this, retZ1]
end PB

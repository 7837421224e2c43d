/-- ahead c neighbours are left out, then none -/
def TrA (k : Nat) (F : Nat → Nat) : Nat → Nat → Nat → Prop
  | r, 0, r' => r' = r ∧ (r < 2 ∨ ¬ idA k r F)
  | r, c + 1, r' => 2 ≤ r ∧ idA k r F ∧ TrA k F (r - 1) c r'
def TrB (k : Nat) : (Nat → Nat) → Nat → Nat → (Nat → Nat) → Nat → Prop
  | F, r, 0, F', r' => F' = F ∧ r' = r ∧ (r < 2 ∨ ¬ idB k r F)
  | F, r, b + 1, F', r' => 2 ≤ r ∧ idB k r F ∧ TrB k (fun w => F (w * k)) (r - 1) b F' r'
theorem TrA.one {k : Nat} {F : Nat → Nat} : ∀ {c c' r r1 r2 : Nat}, TrA k F r c r1 → TrA k F r c' r2 → c = c' ∧ r1 = r2
  | 0, 0, r, r1, r2, h1, h2 => ⟨rfl, h1.1.trans h2.1.symm⟩
  | 0, c' + 1, r, r1, r2, h1, h2 => by
    rcases h1.2 with q | q
    · have := h2.1; omega
    · exact absurd h2.2.1 q
  | c + 1, 0, r, r1, r2, h1, h2 => by
    rcases h2.2 with q | q
    · have := h1.1; omega
    · exact absurd h1.2.1 q
  | c + 1, c' + 1, r, r1, r2, h1, h2 => by
    obtain ⟨a, b⟩ := TrA.one h1.2.2 h2.2.2
    exact ⟨by omega, b⟩
theorem TrB.one {k : Nat} : ∀ {b b' r r1 r2 : Nat} {F F1 F2 : Nat → Nat}, TrB k F r b F1 r1 → TrB k F r b' F2 r2 → F1 = F2 ∧ r1 = r2
  | 0, 0, r, r1, r2, F, F1, F2, h1, h2 => ⟨h1.1.trans h2.1.symm, h1.2.1.trans h2.2.1.symm⟩
  | 0, c' + 1, r, r1, r2, F, F1, F2, h1, h2 => by
    rcases h1.2.2 with q | q
    · have := h2.1; omega
    · exact absurd h2.2.1 q
  | c + 1, 0, r, r1, r2, F, F1, F2, h1, h2 => by
    rcases h2.2.2 with q | q
    · have := h1.1; omega
    · exact absurd h1.2.1 q
  | c + 1, c' + 1, r, r1, r2, F, F1, F2, h1, h2 => TrB.one h1.2.2 h2.2.2
section CTR
variable {SV : SVP} {tl : Nat} {tp : Nat → Nat} {sl : SL} {ol : Nat} {of : Nat → Nat} {rd tr su : Nat} {k : Nat}
theorem CInv.len {h : Hp} (I : CInv SV h tl tp sl ol of rd tr su) : 44 ≤ h.length := by
  obtain ⟨he, th, sf, tf, uf, e2, e3, e4, a1, a2, a3, a4, e5, a5, e6, a6, e7, a7, cf, aT, aS, aL⟩ := I
  exact aL
theorem trimA {F : Nat → Nat} {j : Nat} : ∀ (fuel r a id : Nat) (h : Hp), r ≤ fuel → GR k r F → RuleAt h id (id + 1) k r F → 44 ≤ id → CInv SV h tl tp sl ol of rd tr su → a + r < 1000 →
    ∃ c r' h' id', TrA k F r c r' ∧ fX6_trim_w28 fuel 4 (nI j) id (nI a) (nI r) h = fX6_trim_b55 4 (nI j) id' (nI (a + c)) h' ∧ CInv SV h' tl tp sl ol of rd tr su ∧ Up h h' ∧ 44 ≤ id' ∧ GR k r' F ∧ RuleAt h' id' (id' + 1) k r' F
  | 0, r, a, id, h, hr, g, R, hid, I, ha => absurd g.2.2.1 (by omega)
  | fuel + 1, r, a, id, h, hr, g, R, hid, I, ha => by
    obtain ⟨n1, n2, n3, n4, n5⟩ := g.nums
    rw [fX6_trim_w28]
    simp only []
    rw [l1, if_leI (by omega) (by omega)]
    by_cases q1 : r ≤ 1
    · rw [if_pos q1]
      exact ⟨0, r, h, id, ⟨rfl, Or.inl (by omega)⟩, rfl, I, Up.rf, hid, g, R⟩
    rw [if_neg q1, rok R]
    rcases idlesAhead_ok g R with ⟨b1, b2, b3⟩ | ⟨b1, b2⟩
    · rw [b3, call_ok, if_neg one_ne, rok R]
      obtain ⟨f', w1, w2⟩ := withoutAhead_ok g R b1 (by have := I.len; omega)
      rw [w1, call_ok]
      have g' : GR k (r - 1) F := g.less b1 (fun w hw => g.2.2.2.2 w (by
        have := Nat.pow_le_pow_right (show 0 < k by have := g.1; omega) (show r - 1 ≤ r by omega)
        omega))
      have R' : RuleAt (h ++ [oR k (r - 1) (h.length + 1)] ++ [aC 0 (k ^ (r - 1)) f']) h.length (h.length + 1) k (r - 1) F := ruleAt_new (by have := I.len; omega) w2
      obtain ⟨c, r', h', id', t1, t2, t3, t4, t5, t6, t7⟩ := trimA fuel (r - 1) (a + 1) h.length _ (by omega) g' R' I.len (I.push.push) (by omega)
      refine ⟨c + 1, r', h', id', ⟨b1, b2, t1⟩, ?_, t3, (Up.push.tr Up.push).tr t4, t5, t6, t7⟩
      have hm : nI r + -nI 1 = nI (r - 1) := by
        obtain ⟨q, rfl⟩ : ∃ q, r = q + 1 := ⟨r - 1, by omega⟩
        exact nI_m1 q
      rw [hm, nI_add, t2, show a + 1 + c = a + (c + 1) by omega]
    · rw [b2, call_ok, if_pos rfl]
      exact ⟨0, r, h, id, ⟨rfl, b1⟩, rfl, I, Up.rf, hid, g, R⟩
theorem trimB {j : Nat} {x : Int32} : ∀ (fuel r id : Nat) (h : Hp) (F : Nat → Nat), r ≤ fuel → GR k r F → RuleAt h id (id + 1) k r F → 44 ≤ id → CInv SV h tl tp sl ol of rd tr su →
    ∃ b F' r' h' id', TrB k F r b F' r' ∧ fX6_trim_w61 fuel 4 (nI j) id x (nI r) h = fX6_trim_b85 4 (nI j) id' x h' ∧ CInv SV h' tl tp sl ol of rd tr su ∧ Up h h' ∧ 44 ≤ id' ∧ GR k r' F' ∧ RuleAt h' id' (id' + 1) k r' F'
  | 0, r, id, h, F, hr, g, R, hid, I => absurd g.2.2.1 (by omega)
  | fuel + 1, r, id, h, F, hr, g, R, hid, I => by
    obtain ⟨n1, n2, n3, n4, n5⟩ := g.nums
    rw [fX6_trim_w61]
    simp only []
    rw [l1, if_leI (by omega) (by omega)]
    by_cases q1 : r ≤ 1
    · rw [if_pos q1]
      exact ⟨0, F, r, h, id, ⟨rfl, rfl, Or.inl (by omega)⟩, rfl, I, Up.rf, hid, g, R⟩
    rw [if_neg q1, rok R]
    rcases idlesBehind_ok g R with ⟨b1, b2, b3⟩ | ⟨b1, b2⟩
    · rw [b3, call_ok, if_neg one_ne, rok R]
      obtain ⟨f0, f', w1, w2⟩ := withoutBehind_ok g R b1 (by have := I.len; omega)
      rw [w1, call_ok]
      have g' : GR k (r - 1) (fun w => F (w * k)) := g.less b1 (fun w hw => g.2.2.2.2 _ (by
        have := wlt (k := k) (x := 0) hw (by have := g.1; omega)
        rw [← n4] at this
        omega))
      have hl : (h ++ [aC 0 (k ^ (r - 1)) f0]).length = h.length + 1 := by simp
      have R' : RuleAt (h ++ [aC 0 (k ^ (r - 1)) f0] ++ [oR k (r - 1) (h.length + 2)] ++ [aC 0 (k ^ (r - 1)) f']) (h.length + 1) (h.length + 1 + 1) k (r - 1) (fun w => F (w * k)) := by
        have := ruleAt_new (h := h ++ [aC 0 (k ^ (r - 1)) f0]) (k := k) (r := r - 1) (F := fun w => F (w * k)) (f' := f') (by have := I.len; omega) w2
        rw [hl] at this
        exact this
      obtain ⟨b, F', r', h', id', t1, t2, t3, t4, t5, t6, t7⟩ := trimB (j := j) (x := x) fuel (r - 1) (h.length + 1) _ (fun w => F (w * k)) (by omega) g' R' (by have := I.len; omega) (I.push.push.push)
      refine ⟨b + 1, F', r', h', id', ⟨b1, b2, t1⟩, ?_, t3, ((Up.push.tr Up.push).tr Up.push).tr t4, t5, t6, t7⟩
      have hm : nI r + -nI 1 = nI (r - 1) := by
        obtain ⟨q, rfl⟩ : ∃ q, r = q + 1 := ⟨r - 1, by omega⟩
        exact nI_m1 q
      rw [hm, t2]
    · rw [b2, call_ok, if_pos rfl]
      exact ⟨0, F, r, h, id, ⟨rfl, rfl, b1⟩, rfl, I, Up.rf, hid, g, R⟩
theorem c_trim {h : Hp} (I : CInv SV h tl tp sl ol of rd tr su) (s t : Int32) : (((ruleOf sl s = none) ∨ t < 0 ∨ nI 6 ≤ t) ∧ fX6_trim h 4 s t = some (-1, h)) ∨ (∃ k r F j c r1 b F' r' h', ruleOf sl s = some (k, r, F) ∧ GR k r F ∧ j < 6 ∧ t = nI j ∧ TrA k F r c r1 ∧ TrB k F r1 b F' r' ∧ GR k r1 F ∧ GR k r' F' ∧ fX6_trim h 4 s t = some (nI c, h') ∧ CInv SV h' tl tp (upS sl j (k, r', F')) ol of rd tr su ∧ Up h h') := by
  obtain ⟨he, th, sf, tf, uf, e2, e3, e4, a1, a2, a3, a4, e5, a5, e6, a6, e7, a7, cf, aT, aS, aL⟩ := id I
  unfold fX6_trim
  rw [mok e4]
  rcases ruleIn_st e4 e5 a5 s with ⟨q, e⟩ | ⟨a, k, r, F, q, e, ha, g, R⟩
  · left
    rw [e, call_ok, if_pos rfl]
    exact ⟨Or.inl q, rfl⟩
  rw [e, call_ok, if_neg (by omega)]
  rcases isSlot_ok (h := h) t with ⟨q1, e1⟩ | ⟨j, hj, rfl, e1⟩
  · left
    rw [e1, call_ok, if_pos rfl]
    exact ⟨Or.inr q1, rfl⟩
  right
  have hr4 := g.nums.2.2.2.2
  rw [e1, call_ok, if_neg one_ne, rr R]
  simp only [Option.bind_some]
  obtain ⟨c, r1, h1, id1, t1, t2, t3, t4, t5, t6, t7⟩ := trimA (j := j) 4 r 0 a h hr4 g R ha I (by omega)
  have hr41 := t6.nums.2.2.2.2
  obtain ⟨b, F', r', h2, id2, v1, v2, v3, v4, v5, v6, v7⟩ := trimB (j := j) (x := nI (0 + c)) 4 r1 id1 h1 F hr41 t6 t7 t5 t3
  obtain ⟨h', s1, s2, s3⟩ := v3.slotA hj v5 v6 v7
  refine ⟨k, r, F, j, c, r1, b, F', r', h', q, g, hj, rfl, t1, v1, t6, v6, ?_, s2, (t4.tr v4).tr s3⟩
  rw [l0, t2]
  unfold fX6_trim_b55
  rw [rr t7]
  simp only [Option.bind_some]
  rw [v2]
  unfold fX6_trim_b85
  obtain ⟨he', th', sf', tf', uf', -, -, e4', -⟩ := id v3
  rw [m0 e4']
  simp only [Option.bind_some]
  rw [s1, Nat.zero_add]
  rfl
end CTR

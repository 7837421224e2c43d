section CO6
variable {SV : SVP} {h : Hp} {tl : Nat} {tp : Nat → Nat} {sl : SL} {ol : Nat} {of : Nat → Nat} {rd tr su : Nat}
/-- each state once -/
def EO (k : Nat) (tp : Nat → Nat) : Prop := ∀ v, v < k → ∃ i, i < k ∧ tp i = v
def PM (k : Nat) (tp : Nat → Nat) : Prop := (∀ i, i < k → tp i < k) ∧ ∀ i j, i < j → j < k → tp i ≠ tp j
theorem EO_PM {k : Nat} : EO k tp ↔ PM k tp := by
  constructor
  · intro q
    have q2 : ∀ v, ∃ i, v < k → (i < k ∧ tp i = v) := fun v => by
      by_cases hv : v < k
      · obtain ⟨i, hi⟩ := q v hv
        exact ⟨i, fun _ => hi⟩
      · exact ⟨0, fun z => absurd z hv⟩
    let g : Nat → Nat := fun v => Classical.choose (q2 v)
    have hg : ∀ v, v < k → g v < k ∧ tp (g v) = v := fun v hv => Classical.choose_spec (q2 v) hv
    have inj : ∀ i j, i < j → j < k → g i ≠ g j := fun i j hij hj e => by
      have h1 := (hg i (by omega)).2
      have h2 := (hg j hj).2
      rw [e, h2] at h1
      omega
    have onto := fun y (hy : y < k) => fb_onto (n := k) (f := g) (fun v hv => (hg v hv).1) inj (y := y) hy
    refine ⟨fun i hi => ?_, fun i j hij hj e => ?_⟩
    · obtain ⟨v, hv, rfl⟩ := onto i hi
      rw [(hg v hv).2]
      exact hv
    · obtain ⟨v, hv, rfl⟩ := onto i (by omega)
      obtain ⟨w, hw, rfl⟩ := onto j hj
      rw [(hg v hv).2, (hg w hw).2] at e
      subst e
      omega
  · intro q v hv
    exact fb_onto (n := k) (f := tp) q.1 q.2 hv
def sN (k : Nat) (tp : Nat → Nat) : Nat → Nat
  | 0 => 0
  | i + 1 => if tp i < k then sN k tp i ||| 2 ^ tp i else sN k tp i
theorem sN_bit {k : Nat} (v : Nat) : ∀ i, (sN k tp i).testBit v = true ↔ ∃ j, j < i ∧ tp j = v ∧ v < k
  | 0 => by simp [sN]
  | i + 1 => by
    have ih := sN_bit (k := k) v i
    unfold sN
    by_cases q : tp i < k
    · rw [if_pos q, Nat.testBit_or, Bool.or_eq_true, ih, Nat.testBit_two_pow]
      constructor
      · rintro (⟨j, h1, h2⟩ | h1)
        · exact ⟨j, by omega, h2⟩
        · have := of_decide_eq_true h1
          exact ⟨i, by omega, this, by omega⟩
      · rintro ⟨j, h1, h2, h3⟩
        by_cases q2 : j = i
        · right; subst q2; exact decide_eq_true h2
        · left; exact ⟨j, by omega, h2, h3⟩
    · rw [if_neg q, ih]
      constructor
      · rintro ⟨j, h1, h2⟩
        exact ⟨j, by omega, h2⟩
      · rintro ⟨j, h1, h2, h3⟩
        refine ⟨j, ?_, h2, h3⟩
        rcases Nat.lt_or_ge j i with z | z
        · exact z
        · have : j = i := by omega
          subst this
          omega
theorem sN_all {k : Nat} : sN k tp k = 2 ^ k - 1 ↔ EO k tp := by
  constructor
  · intro e v hv
    have h1 : (sN k tp k).testBit v = true := by rw [e, Nat.testBit_two_pow_sub_one]; exact decide_eq_true hv
    obtain ⟨j, h2, h3, -⟩ := (sN_bit v k).mp h1
    exact ⟨j, h2, h3⟩
  · intro q
    apply Nat.eq_of_testBit_eq
    intro v
    rw [Nat.testBit_two_pow_sub_one]
    by_cases hv : v < k
    · rw [decide_eq_true hv]
      obtain ⟨i, h1, h2⟩ := q v hv
      exact (sN_bit v k).mpr ⟨i, h1, h2, hv⟩
    · rw [decide_eq_false hv]
      rw [Bool.eq_false_iff]
      intro z
      obtain ⟨j, -, -, h3⟩ := (sN_bit v k).mp z
      exact hv h3
theorem sN_lt {k : Nat} (hk : k ≤ 4) : ∀ i, sN k tp i < 16
  | 0 => by simp [sN]
  | i + 1 => by
    have ih := sN_lt hk i
    unfold sN
    split
    · exact Nat.or_lt_two_pow (n := 4) ih (Nat.pow_lt_pow_right (by decide) (by omega))
    · exact ih
theorem or16 {a b : Nat} (ha : a < 16) (hb : b < 16) : nI a ||| nI b = nI (a ||| b) := by
  have key : ∀ a b : Fin 16, nI a.val ||| nI b.val = nI (a.val ||| b.val) := by decide
  exact key ⟨a, ha⟩ ⟨b, hb⟩
theorem shl4 {v : Nat} (hv : v ≤ 4) : (1 : Int32) <<< (nI v &&& 31) = nI (2 ^ v) := by
  have : v = 0 ∨ v = 1 ∨ v = 2 ∨ v = 3 ∨ v = 4 := by omega
  rcases this with rfl | rfl | rfl | rfl | rfl <;> decide
theorem eachOnce_ok {tl' ol' rl' : Int32} {he th k : Nat} {tf : Nat → Int32} (e4 : h[4]? = some (mo tl' ol' rl' he th tr su)) (e6 : h[6]? = some (aC 0 100 tf)) (hk : k ≤ 4) (ht : ∀ i, i < k → tf i = nI (tp i) ∧ tp i < 256) : (EO k tp ∧ fX6_isEachOnce h 4 (nI k) = some (1, h)) ∨ (¬ EO k tp ∧ fX6_isEachOnce h 4 (nI k) = some (0, h)) := by
  unfold fX6_isEachOnce
  have key := upto (fun q i => fX6_isEachOnce_w4 q 4 (nI k) (nI (sN k tp i)) (nI i) h) k (fX6_isEachOnce_b41 (nI k) (nI (sN k tp k)) h) (fun q i hi => by
    obtain ⟨t1, t2⟩ := ht i hi
    have hs := sN_lt (tp := tp) hk i
    rw [fX6_isEachOnce_w4]
    simp only []
    rw [if_leI (by omega) (by omega), if_neg (by omega), show (4 : Int32) = nI 4 from rfl, if_leI (by omega) (by omega), if_neg (by omega), m1 e4]
    simp only [Option.bind_some]
    rw [aI_of e6 (by omega) (by decide), t1]
    simp only [Option.bind_some]
    rw [if_leI (by omega) (by omega)]
    by_cases q2 : k ≤ tp i
    · rw [if_pos q2]
      unfold fX6_isEachOnce_b35
      rw [nI_p1, show sN k tp (i + 1) = sN k tp i by rw [sN, if_neg (by omega)]]
    · rw [if_neg q2, setv_ok, shl4 (by omega), or16 hs (Nat.pow_lt_pow_right (by decide) (show tp i < 4 by omega))]
      unfold fX6_isEachOnce_b35
      rw [nI_p1, show sN k tp (i + 1) = sN k tp i ||| 2 ^ tp i by rw [sN, if_pos (by omega)]]) (fun q => by
    rw [fX6_isEachOnce_w4]
    simp only []
    rw [if_leI (by omega) (by omega), if_pos (Nat.le_refl _)]) 0 FUEL (by omega) (fuel_big (by omega))
  have key2 : fX6_isEachOnce_w4 FUEL 4 (nI k) 0 0 h = fX6_isEachOnce_b41 (nI k) (nI (sN k tp k)) h := key
  rw [key2]
  unfold fX6_isEachOnce_b41
  have hs := sN_lt (tp := tp) hk k
  have hp : 2 ^ k ≤ 16 := Nat.pow_le_pow_right (by decide) hk
  have hp1 : 1 ≤ 2 ^ k := Nat.one_le_two_pow
  rw [shl4 hk, i_sub1 hp1, if_eqI (by omega) (by omega)]
  by_cases q : sN k tp k = 2 ^ k - 1
  · left
    rw [if_pos q, retZ1]
    exact ⟨sN_all.mp q, rfl⟩
  · right
    rw [if_neg q, retZ0]
    exact ⟨fun z => q (sN_all.mpr z), rfl⟩
/-- the last place of v among the first n -/
def plN (tp : Nat → Nat) (v : Nat) : Nat → Nat
  | 0 => 0
  | n + 1 => if tp n = v then n else plN tp v n
theorem plN_at {v : Nat} : ∀ {n : Nat}, (∃ i, i < n ∧ tp i = v) → plN tp v n < n ∧ tp (plN tp v n) = v
  | 0, ⟨i, hi, _⟩ => absurd hi (Nat.not_lt_zero i)
  | n + 1, ⟨i, hi, e⟩ => by
    unfold plN
    by_cases q : tp n = v
    · rw [if_pos q]
      exact ⟨by omega, q⟩
    · rw [if_neg q]
      have hin : i ≠ n := fun z => q (by rw [← z]; exact e)
      obtain ⟨h1, h2⟩ := plN_at (n := n) ⟨i, by omega, e⟩
      exact ⟨by omega, h2⟩
theorem place_ok {tl' ol' rl' : Int32} {he th k v : Nat} {tf : Nat → Int32} (e4 : h[4]? = some (mo tl' ol' rl' he th tr su)) (e6 : h[6]? = some (aC 0 100 tf)) (hk : k ≤ 4) (hv : v < 1000) (ht : ∀ i, i < k → tf i = nI (tp i) ∧ tp i < 256) : fX6_placeOnTape h 4 (nI v) (nI k) = some (nI (plN tp v k), h) := by
  unfold fX6_placeOnTape
  have key := upto (fun q i => fX6_placeOnTape_w5 q 4 (nI v) (nI k) (nI (plN tp v i)) (nI i) h) k (some (nI (plN tp v k), h)) (fun q i hi => by
    obtain ⟨t1, t2⟩ := ht i hi
    rw [fX6_placeOnTape_w5]
    simp only []
    rw [if_leI (by omega) (by omega), if_neg (by omega), m1 e4]
    simp only [Option.bind_some]
    rw [aN_of e6 (by decide)]
    simp only [Option.bind_some]
    rw [if_leI (by omega) (by omega), if_neg (by omega), aI_of e6 (by omega) (by decide), t1]
    simp only [Option.bind_some]
    rw [if_eqI (by omega) (by omega)]
    by_cases q2 : tp i = v
    · rw [if_pos q2]
      unfold fX6_placeOnTape_b35
      rw [nI_p1, show plN tp v (i + 1) = i by rw [plN, if_pos q2]]
    · rw [if_neg q2]
      unfold fX6_placeOnTape_b35
      rw [nI_p1, show plN tp v (i + 1) = plN tp v i by rw [plN, if_neg q2]]) (fun q => by
    rw [fX6_placeOnTape_w5]
    simp only []
    rw [if_leI (by omega) (by omega), if_pos (Nat.le_refl _)]) 0 FUEL (by omega) (fuel_big (by omega))
  exact key
def okRen (sl : SL) (tl : Nat) (tp : Nat → Nat) (s t : Int32) (k r : Nat) (F : Nat → Nat) (j : Nat) : Prop := ruleOf sl s = some (k, r, F) ∧ j < 6 ∧ t = nI j ∧ tl = k ∧ EO k tp
theorem c_rename (I : CInv SV h tl tp sl ol of rd tr su) (s t : Int32) : ((∀ k r F j, ¬ okRen sl tl tp s t k r F j) ∧ ∃ h', fX6_rename h 4 s t = some (0, h') ∧ CInv SV h' 0 tp sl ol of rd tr su ∧ Up h h') ∨ (∃ k r F j h', okRen sl tl tp s t k r F j ∧ GR k r F ∧ fX6_rename h 4 s t = some (1, h') ∧ CInv SV h' 0 tp (upS sl j (k, r, fun w => plN tp (F (trN k w tp r)) k)) ol of rd tr su ∧ Up h h') := by
  obtain ⟨h0, he, th, sf, tf, uf, c0, I0, u0, e4, q, e5, a5, e6, a6, e7, a7, cf, e2, e3, a1, a2, a3, aT, aS, aL⟩ := c_pre I
  unfold fX6_rename
  rw [c0, call_ok, mok e4]
  rcases ruleIn_st e4 e5 a5 s with ⟨q1, e⟩ | ⟨a, k, r, F, q1, e, ha, g, R⟩
  · left
    rw [e, call_ok, if_pos rfl, retZ0]
    exact ⟨(fun k r F j z => by have z1 := z.1; rw [q1] at z1; cases z1), _, rfl, I0, u0⟩
  obtain ⟨n1, n2, n3, n4, n5⟩ := g.nums
  obtain ⟨g1, g2, g3, g4, gF⟩ := id g
  rw [e, call_ok, if_neg (by omega)]
  rcases isSlot_ok (h := h0) t with ⟨q2, e1⟩ | ⟨j, hj, rfl, e1⟩
  · left
    rw [e1, call_ok, if_pos rfl, retZ0]
    refine ⟨fun k r F j z => ?_, _, rfl, I0, u0⟩
    obtain ⟨-, z2, z3, -⟩ := z
    rw [z3] at q2
    rcases q2 with q2 | q2
    · exact nI_nn (by omega) q2
    · have := (nI_leI (a := 6) (b := j) (by omega) (by omega)).mp q2
      omega
  rw [e1, call_ok, if_neg one_ne, rk R]
  simp only [Option.bind_some]
  rw [if_eqI (by omega) (by omega)]
  by_cases q3 : tl = k
  · rw [if_pos q3, mok e4, q3]
    rcases eachOnce_ok e4 e6 g2 (fun i hi => a6 i (by omega)) with ⟨b1, b2⟩ | ⟨b1, b2⟩
    · right
      have pm := EO_PM.mp b1
      have htr : ∀ w, trN k w tp r < k ^ r := fun w => trN_lt (by omega) w pm.1 r
      have hpl : ∀ w, plN tp (F (trN k w tp r)) k < k := fun w => (plN_at (b1 _ (gF _ (htr w)))).1
      have gG : GR k r (fun w => plN tp (F (trN k w tp r)) k) := g.re (fun w _ => hpl w)
      obtain ⟨f0, e10⟩ := cf.2.2.1
      obtain ⟨I1, u1⟩ := I0.told (f := fillN (fun w => nI (plN tp (F (trN k w tp r)) k)) (k ^ r) f0)
      obtain ⟨h1, h', i1, i2, i3, i4⟩ := put_told I1 hj gG (st_s e10) (fun w hw => by simp [fillN, hw])
      refine ⟨k, r, F, j, h', ⟨q1, hj, rfl, rfl, b1⟩, g, ?_, i3, (u0.tr u1).tr i4⟩
      rw [b2, call_ok, if_neg one_ne]
      have key := upto (fun q i => fX6_rename_w46 q 4 (nI j) (nI k) a (nI i) (h0.set 10 (aC 0 27 (fillN (fun w => nI (plN tp (F (trN k w tp r)) k)) i f0)))) (k ^ r) (fX6_rename_b100 4 (nI j) a (h0.set 10 (aC 0 27 (fillN (fun w => nI (plN tp (F (trN k w tp r)) k)) (k ^ r) f0)))) (fun q i hi => by
        have R1 : RuleAt (h0.set 10 (aC 0 27 (fillN (fun w => nI (plN tp (F (trN k w tp r)) k)) i f0))) a (a + 1) k r F := R.set (by omega) (by omega)
        have f4 : (h0.set 10 (aC 0 27 (fillN (fun w => nI (plN tp (F (trN k w tp r)) k)) i f0)))[4]? = _ := st_n' (by decide) e4
        have f6 : (h0.set 10 (aC 0 27 (fillN (fun w => nI (plN tp (F (trN k w tp r)) k)) i f0)))[6]? = _ := st_n' (by decide) e6
        have hv := gF _ (htr i)
        rw [fX6_rename_w46]
        simp only []
        rw [rw9 R1]
        simp only [Option.bind_some]
        rw [if_leI (by omega) (by omega), if_neg (by omega), m8 f4]
        simp only [Option.bind_some]
        rw [aN_of (st_s e10) (by decide)]
        simp only [Option.bind_some]
        rw [if_leI (by omega) (by omega), if_neg (by omega), m1 f4]
        simp only [Option.bind_some]
        rw [rok R1, translated_ok g R1 hi f6 (by omega) (by decide) (fun i hi => (a6 i (by omega)).1) pm.1, call_ok, tells_call g R1 (htr i), mok f4, place_ok f4 f6 g2 (by omega) (fun i hi => a6 i (by omega)), call_ok, sI_of (by decide) (st_s e10) (by omega) (by decide), x_nar0]
        simp only [Option.bind_some]
        rw [List.set_set, nI_p1, show upd (fillN (fun w => nI (plN tp (F (trN k w tp r)) k)) i f0) i (nI (plN tp (F (trN k i tp r)) k)) = fillN (fun w => nI (plN tp (F (trN k w tp r)) k)) (i + 1) f0 from fillN_s (f := fun w => nI (plN tp (F (trN k w tp r)) k))]) (fun q => by
        have R1 : RuleAt (h0.set 10 (aC 0 27 (fillN (fun w => nI (plN tp (F (trN k w tp r)) k)) (k ^ r) f0))) a (a + 1) k r F := R.set (by omega) (by omega)
        rw [fX6_rename_w46]
        simp only []
        rw [rw9 R1]
        simp only [Option.bind_some]
        rw [if_leI (by omega) (by omega), if_pos (Nat.le_refl _)]) 0 FUEL (by omega) (fuel_big (by omega))
      rw [fillN_0, st_id e10] at key
      rw [l0]
      refine Eq.trans key ?_
      generalize hH : h0.set 10 (aC 0 27 (fillN (fun w => nI (plN tp (F (trN k w tp r)) k)) (k ^ r) f0)) = H at i1 i2 ⊢
      have R1 : RuleAt (H ++ [oC 1 zR]) a (a + 1) k r F := by rw [← hH]; exact (R.set (by omega) (by omega)).push
      have f4 : H[4]? = some (mo (nI 0) (nI ol) (nI rd) he th tr su) := by rw [← hH]; exact st_n' (by decide) e4
      unfold fX6_rename_b100 mkO
      rw [m0 f4]
      simp only [Option.bind_some]
      show Option.bind (gI (H ++ [oC 1 zR]) a 1 0) _ = _
      rw [rk R1]
      simp only [Option.bind_some]
      show Option.bind (gI (H ++ [oC 1 zR]) a 1 1) _ = _
      rw [rr R1]
      simp only [Option.bind_some]
      show Option.bind (gR (H ++ [oC 1 zR]) 4 6 8) _ = _
      rw [m8 (st_p f4)]
      simp only [Option.bind_some]
      show Option.bind (fX1_init (H ++ [oC 1 zR]) H.length (nI k) (nI r) 10) _ = _
      rw [i1]
      simp only [Option.bind_some]
      rw [i2]
      rfl
    · left
      rw [b2, call_ok, if_pos rfl, retZ0]
      exact ⟨(fun k' r' F' j' z => by have z1 := z.1; rw [q1] at z1; cases z1; exact b1 z.2.2.2.2), _, rfl, I0, u0⟩
  · left
    rw [if_neg q3, retZ0]
    exact ⟨(fun k' r' F' j' z => by have z1 := z.1; rw [q1] at z1; cases z1; exact q3 z.2.2.2.1), _, rfl, I0, u0⟩
end CO6

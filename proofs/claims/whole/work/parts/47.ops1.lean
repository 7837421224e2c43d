section CO1
variable {SV : SVP} {h : Hp} {tl : Nat} {tp : Nat → Nat} {sl : SL} {ol : Nat} {of : Nat → Nat} {rd tr su : Nat}
theorem isSlot_ok (s : Int32) : ((s < 0 ∨ nI 6 ≤ s) ∧ fX6_isSlot h s = some (0, h)) ∨ (∃ j, j < 6 ∧ s = nI j ∧ fX6_isSlot h s = some (1, h)) := by
  unfold fX6_isSlot
  rcases pk_ix s (n := 6) (by decide) with q | q | ⟨j, hj, rfl⟩
  · left
    rw [if_pos q, retZ0]
    exact ⟨Or.inl q, rfl⟩
  · left
    by_cases q2 : s < 0
    · rw [if_pos q2, retZ0]; exact ⟨Or.inl q2, rfl⟩
    · rw [if_neg q2, show (6 : Int32) = nI 6 from rfl, if_pos q, retZ0]; exact ⟨Or.inr q, rfl⟩
  · right
    refine ⟨j, hj, rfl, ?_⟩
    rw [if_neg (nI_nn (by omega)), show (6 : Int32) = nI 6 from rfl, if_leI (by omega) (by omega), if_neg (by omega), retZ1]
theorem one_ne : ¬ (1 : Int32) = 0 := by decide
theorem ruleIn_ok {tl' ol' rl' : Int32} {he th : Nat} {sf : Nat → Nat} (e4 : h[4]? = some (mo tl' ol' rl' he th tr su)) (e5 : h[5]? = some (rC 6 sf)) (s : Int32) : ((s < 0 ∨ nI 6 ≤ s) ∧ fX6_ruleIn h 4 s = some (0, h)) ∨ (∃ j, j < 6 ∧ s = nI j ∧ fX6_ruleIn h 4 s = some (sf j, h)) := by
  unfold fX6_ruleIn
  rcases isSlot_ok (h := h) s with ⟨q, e⟩ | ⟨j, hj, rfl, e⟩
  · left
    rw [e, call_ok, if_pos rfl]
    exact ⟨q, rfl⟩
  · right
    refine ⟨j, hj, rfl, ?_⟩
    rw [e, call_ok, if_neg one_ne, m0 e4]
    simp only [Option.bind_some]
    rw [aR_of (by decide) e5 hj (by decide)]
    rfl
theorem takeTape_ok {ol' rl' : Int32} {he th : Nat} (e4 : h[4]? = some (mo (nI tl) ol' rl' he th tr su)) : fX6_takeTape h 4 = some (nI tl, h.set 4 (mo (nI 0) ol' rl' he th tr su)) := by
  unfold fX6_takeTape
  rw [m2 e4]
  simp only [Option.bind_some]
  rw [p2 e4]
  rfl
theorem mostWidth_ok (e2 : h[2]? = some (aC 0 5 x_mw)) {k : Nat} (hk : k < 1000) : fX6_mostWidth h (nI k) = some (nI (mwN k), h) := by
  unfold fX6_mostWidth
  rw [if_neg (nI_nn (by omega)), aN_of e2 (by decide)]
  simp only [Option.bind_some]
  rw [if_leI (by omega) (by omega)]
  by_cases q : 5 ≤ k
  · rw [if_pos q]
    have : mwN k = 0 := by unfold mwN; rw [if_neg (by omega), if_neg (by omega), if_neg (by omega)]
    rw [this]; rfl
  · rw [if_neg q, aI_of e2 (by omega) (by decide)]
    have hk5 : k = 0 ∨ k = 1 ∨ k = 2 ∨ k = 3 ∨ k = 4 := by omega
    rcases hk5 with rfl | rfl | rfl | rfl | rfl <;> rfl
theorem mostWidth_any (e2 : h[2]? = some (aC 0 5 x_mw)) (k : Int32) : (∃ j, j < 5 ∧ k = nI j ∧ fX6_mostWidth h k = some (nI (mwN j), h)) ∨ ((k < 0 ∨ nI 5 ≤ k) ∧ fX6_mostWidth h k = some (0, h)) := by
  rcases pk_ix k (n := 5) (by decide) with q | q | ⟨j, hj, rfl⟩
  · right
    refine ⟨Or.inl q, ?_⟩
    unfold fX6_mostWidth
    rw [if_pos q]
  · right
    refine ⟨Or.inr q, ?_⟩
    unfold fX6_mostWidth
    by_cases q2 : k < 0
    · rw [if_pos q2]
    · rw [if_neg q2, aN_of e2 (by decide)]
      simp only [Option.bind_some]
      rw [if_pos q]
  · left
    exact ⟨j, hj, rfl, mostWidth_ok e2 (by omega)⟩
/-- the first n bytes of a tape are states of k -/
def Sts (k n : Nat) (tp : Nat → Nat) : Prop := ∀ i, i < n → tp i < k
theorem areStates_ok {tl' ol' rl' : Int32} {he th k n : Nat} {tf : Nat → Int32} (e4 : h[4]? = some (mo tl' ol' rl' he th tr su)) (e6 : h[6]? = some (aC 0 100 tf)) (hn : n ≤ 100) (hk : k < 1000) (ht : ∀ i, i < n → tf i = nI (tp i) ∧ tp i < 256) : (Sts k n tp ∧ fX6_areStates h 4 (nI k) (nI n) = some (1, h)) ∨ (¬ Sts k n tp ∧ fX6_areStates h 4 (nI k) (nI n) = some (0, h)) := by
  unfold fX6_areStates
  have step : ∀ q i, i < n → fX6_areStates_w2 (q + 1) 4 (nI k) (nI n) (nI i) h = if tp i < k then fX6_areStates_w2 q 4 (nI k) (nI n) (nI (i + 1)) h else some (0, h) := by
    intro q i hi
    obtain ⟨t1, t2⟩ := ht i hi
    rw [fX6_areStates_w2]
    simp only []
    rw [if_leI (by omega) (by omega), if_neg (by omega), show (100 : Int32) = nI 100 from rfl, if_leI (by omega) (by omega), if_neg (by omega), m1 e4]
    simp only [Option.bind_some]
    rw [aI_of e6 (by omega) (by decide), t1]
    simp only [Option.bind_some]
    rw [if_ltI (by omega) (by omega), nI_p1, retZ0]
  have key := scan_all (fun q i => fX6_areStates_w2 q 4 (nI k) (nI n) (nI i) h) n (fun i => ¬ tp i < k) (some (0, h)) (some (1, h)) (fun q i hi hb => by rw [step q i hi, if_pos (Decidable.not_not.mp hb)]) (fun q i hi hb => by rw [step q i hi, if_neg hb]) (fun q => by
    rw [fX6_areStates_w2]
    simp only []
    rw [if_leI (by omega) (by omega), if_pos (Nat.le_refl _), retZ1]) 0 FUEL (by omega) (fuel_big (by omega))
  rw [l0]
  rcases key with ⟨h1, h2⟩ | ⟨⟨j, h1, h2, h3⟩, h4⟩
  · left
    exact ⟨fun i hi => Decidable.not_not.mp (h1 i (by omega) hi), h2⟩
  · right
    exact ⟨fun q => h3 (q j h2), h4⟩
theorem areFew_ok {tl' ol' rl' : Int32} {he th k n : Nat} {tf : Nat → Int32} (e4 : h[4]? = some (mo tl' ol' rl' he th tr su)) (e6 : h[6]? = some (aC 0 100 tf)) (hn : n ≤ 100) (hk : k < 1000) (ht : ∀ i, i < n → tf i = nI (tp i) ∧ tp i < 256) : ((1 ≤ n ∧ n ≤ 20 ∧ Sts k n tp) ∧ fX6_areFewStates h 4 (nI k) (nI n) = some (1, h)) ∨ (¬ (1 ≤ n ∧ n ≤ 20 ∧ Sts k n tp) ∧ fX6_areFewStates h 4 (nI k) (nI n) = some (0, h)) := by
  unfold fX6_areFewStates
  rw [l1, if_ltI (by omega) (by omega)]
  by_cases q1 : n < 1
  · right
    rw [if_pos q1, retZ0]
    exact ⟨by omega, rfl⟩
  rw [if_neg q1, show (20 : Int32) = nI 20 from rfl, if_ltI (by omega) (by omega)]
  by_cases q2 : 20 < n
  · right
    rw [if_pos q2, retZ0]
    exact ⟨by omega, rfl⟩
  rw [if_neg q2, mok e4]
  rcases areStates_ok e4 e6 hn hk ht with ⟨a, b⟩ | ⟨a, b⟩
  · left
    rw [b, call_ok, if_neg one_ne]
    exact ⟨⟨by omega, by omega, a⟩, retZ1 h⟩
  · right
    rw [b, call_ok, if_pos rfl, retZ0]
    exact ⟨fun z => a z.2.2, rfl⟩
-- end, round, count
theorem CInv.tape (I : CInv SV h tl tp sl ol of rd tr su) {n : Nat} (hn : n ≤ tl) : ∃ he th, h[4]? = some (mo (nI tl) (nI ol) (nI rd) he th tr su) ∧ CInv SV (h.set 4 (mo (nI n) (nI ol) (nI rd) he th tr su)) n tp sl ol of rd tr su ∧ Up h (h.set 4 (mo (nI n) (nI ol) (nI rd) he th tr su)) := by
  obtain ⟨he, th, sf, tf, uf, e2, e3, e4, a1, a2, a3, a4, e5, a5, e6, a6, e7, a7, ⟨f8, f9, f10, f11, f12, f13, f14, f15, f16, f17, f18, f19⟩, aT, aS, aL⟩ := I
  have u : Up h (h.set 4 (mo (nI n) (nI ol) (nI rd) he th tr su)) := Up.set (by decide)
  refine ⟨he, th, e4, ⟨he, th, sf, tf, uf, st_n' (by decide) e2, st_n' (by decide) e3, st_s e4, by omega, a2, a3, a4, st_n' (by decide) e5, fun s hs => (a5 s hs).up u, st_n' (by decide) e6, fun i hi => a6 i (by omega), st_n' (by decide) e7, a7, ⟨f8.imp fun _ q => st_n' (by decide) q, f9.imp fun _ q => st_n' (by decide) q, f10.imp fun _ q => st_n' (by decide) q, f11.imp fun _ q => q.imp fun _ q => st_n' (by decide) q, f12.imp fun _ q => st_n' (by decide) q, f13.imp fun _ q => st_n' (by decide) q, f14.imp fun _ q => st_n' (by decide) q, f15.imp fun _ q => st_n' (by decide) q, f16.imp fun _ q => st_n' (by decide) q, f17.imp fun _ q => st_n' (by decide) q, st_n' (by decide) f18, f19.imp fun _ q => st_n' (by decide) q⟩, aT.up u, aS.up u, by rw [List.length_set]; exact aL⟩, u⟩
theorem c_end (I : CInv SV h tl tp sl ol of rd tr su) (n : Int32) : ((n < 0 ∨ nI tl < n) ∧ fX6_end h 4 n = some (0, h)) ∨ (∃ j h', j ≤ tl ∧ n = nI j ∧ fX6_end h 4 n = some (1, h') ∧ CInv SV h' j tp sl ol of rd tr su ∧ Up h h') := by
  have htl : tl ≤ 100 := by obtain ⟨he, th, sf, tf, uf, e2, e3, e4, a1, -⟩ := I; exact a1
  rcases pk_ix n (n := tl + 1) (by omega) with q | q | ⟨j, hj, rfl⟩
  · left
    refine ⟨Or.inl q, ?_⟩
    unfold fX6_end
    rw [if_pos q, retZ0]
  · left
    obtain ⟨he, th, e4, -⟩ := I.tape (Nat.le_refl tl)
    have hgt : nI tl < n := by
      have h1 : nI tl < nI (tl + 1) := nI_lt (by omega) (by omega)
      exact Int32.lt_of_lt_of_le h1 q
    refine ⟨Or.inr hgt, ?_⟩
    unfold fX6_end
    by_cases q2 : n < 0
    · rw [if_pos q2, retZ0]
    · rw [if_neg q2, m2 e4]
      simp only [Option.bind_some]
      rw [if_neg (by rw [Int32.not_le]; exact hgt), retZ0]
  · right
    obtain ⟨he, th, e4, I', u⟩ := I.tape (n := j) (by omega)
    refine ⟨j, _, by omega, rfl, ?_, I', u⟩
    unfold fX6_end
    rw [if_neg (nI_nn (by omega)), m2 e4]
    simp only [Option.bind_some]
    rw [if_leI (by omega) (by omega), if_pos (by omega), p2 e4]
    simp only [Option.bind_some]
    rw [retZ1]
theorem c_round (I : CInv SV h tl tp sl ol of rd tr su) : fX6_round h 4 = some (nI rd, h) := by
  obtain ⟨he, th, sf, tf, uf, e2, e3, e4, -⟩ := I
  unfold fX6_round
  rw [m5 e4]
  rfl
/-- how many slots hold a rule, of the first n -/
def cntS (sl : SL) : Nat → Nat
  | 0 => 0
  | n + 1 => cntS sl n + if (sl n).isSome then 1 else 0
theorem cntS_le (sl : SL) : ∀ n, cntS sl n ≤ n
  | 0 => Nat.le_refl _
  | n + 1 => by
    have := cntS_le sl n
    unfold cntS
    split <;> omega
theorem c_count (I : CInv SV h tl tp sl ol of rd tr su) (w : Int32) : fX6_count h 4 w = some (if w = 0 then nI (cntS sl 6) else if w = 1 then nI tl else if w = 2 then nI ol else -1, h) := by
  obtain ⟨he, th, sf, tf, uf, e2, e3, e4, a1, a2, a3, a4, e5, a5, -⟩ := I
  unfold fX6_count
  by_cases q0 : w = 0
  · rw [if_pos q0, if_pos q0, mok e4]
    unfold fX6_fullSlots
    have key := upto (fun q i => fX6_fullSlots_w4 q 4 (nI (cntS sl i)) (nI i) h) 6 (some (nI (cntS sl 6), h)) (fun q i hi => by
      have hc := cntS_le sl i
      rw [fX6_fullSlots_w4]
      simp only []
      rw [show (6 : Int32) = nI 6 from rfl, if_leI (by omega) (by omega), if_neg (by omega), m0 e4]
      simp only [Option.bind_some]
      rw [aR_of (by decide) e5 hi (by decide)]
      simp only [Option.bind_some]
      have hs := a5 i hi
      cases hsl : sl i with
      | none =>
        rw [hsl] at hs
        have hs0 : sf i = 0 := hs
        rw [if_pos hs0]
        unfold fX6_fullSlots_b22
        rw [nI_p1]
        simp [cntS, hsl]
      | some x =>
        rw [hsl] at hs
        have hs0 : ¬ sf i = 0 := by have := hs.1; omega
        rw [if_neg hs0]
        unfold fX6_fullSlots_b22
        rw [nI_p1, nI_p1]
        simp [cntS, hsl]) (fun q => by
      rw [fX6_fullSlots_w4]
      simp only []
      rw [show (6 : Int32) = nI 6 from rfl, if_leI (by omega) (by omega), if_pos (Nat.le_refl _)]) 0 FUEL (by omega) (fuel_big (by omega))
    have key2 : fX6_fullSlots_w4 FUEL 4 0 0 h = some (nI (cntS sl 6), h) := key
    rw [key2, call_ok]
  · rw [if_neg q0, if_neg q0]
    by_cases q1 : w = 1
    · rw [if_pos q1, if_pos q1, m2 e4]
      rfl
    · rw [if_neg q1, if_neg q1]
      by_cases q2 : w = 2
      · rw [if_pos q2, if_pos q2, m4 e4]
        rfl
      · rw [if_neg q2, if_neg q2]
end CO1

section CO2
variable {SV : SVP} {h : Hp} {tl : Nat} {tp : Nat → Nat} {sl : SL} {ol : Nat} {of : Nat → Nat} {rd tr su : Nat}
/-- the rule that a call names -/
def ruleOf (sl : SL) (s : Int32) : Option (Nat × Nat × (Nat → Nat)) := if s < 0 ∨ nI 6 ≤ s then none else sl s.toNatClampNeg
theorem ruleOf_j {j : Nat} (hj : j < 6) : ruleOf sl (nI j) = sl j := by
  unfold ruleOf
  rw [if_neg (by rintro (q | q); exact nI_nn (by omega) q; exact absurd ((nI_leI (by omega) (by omega)).mp q) (by omega)), cl_nI (by omega)]
theorem ruleOf_out {s : Int32} (q : s < 0 ∨ nI 6 ≤ s) : ruleOf sl s = none := if_pos q
/-- ruleIn in the words of the state: null where there is no rule -/
theorem ruleIn_st {tl' ol' rl' : Int32} {he th : Nat} {sf : Nat → Nat} (e4 : h[4]? = some (mo tl' ol' rl' he th tr su)) (e5 : h[5]? = some (rC 6 sf)) (a5 : ∀ s, s < 6 → SlotOK h (sf s) (sl s)) (s : Int32) : (ruleOf sl s = none ∧ fX6_ruleIn h 4 s = some (0, h)) ∨ (∃ a k r F, ruleOf sl s = some (k, r, F) ∧ fX6_ruleIn h 4 s = some (a, h) ∧ 44 ≤ a ∧ GR k r F ∧ RuleAt h a (a + 1) k r F) := by
  rcases ruleIn_ok e4 e5 s with ⟨q, e⟩ | ⟨j, hj, rfl, e⟩
  · exact Or.inl ⟨ruleOf_out q, e⟩
  · rw [ruleOf_j hj]
    have hs := a5 j hj
    cases hsl : sl j with
    | none =>
      rw [hsl] at hs
      have : sf j = 0 := hs
      rw [this] at e
      exact Or.inl ⟨rfl, e⟩
    | some x =>
      rw [hsl] at hs
      obtain ⟨k, r, F⟩ := x
      exact Or.inr ⟨sf j, k, r, F, rfl, e, hs.1, hs.2.1, hs.2.2⟩
theorem c_table (I : CInv SV h tl tp sl ol of rd tr su) (s : Int32) : (ruleOf sl s = none ∧ fX6_table h 4 s = some (-1, h)) ∨ (∃ k r F h', ruleOf sl s = some (k, r, F) ∧ GR k r F ∧ fX6_table h 4 s = some (nI (k ^ r), h') ∧ CInv SV h' tl tp sl (k ^ r) F rd tr su ∧ Up h h') := by
  obtain ⟨he, th, sf, tf, uf, e2, e3, e4, a1, a2, a3, a4, e5, a5, e6, a6, e7, a7, cf, aT, aS, aL⟩ := id I
  unfold fX6_table
  rw [mok e4]
  rcases ruleIn_st e4 e5 a5 s with ⟨q, e⟩ | ⟨a, k, r, F, q, e, ha, g, R⟩
  · left
    rw [e, call_ok, if_pos rfl]
    exact ⟨q, rfl⟩
  · right
    obtain ⟨n1, n2, n3, n4, n5⟩ := g.nums
    obtain ⟨g1, g2, g3, g4, gF⟩ := id g
    refine ⟨k, r, F, (h.set 7 (aC 0 512 (fillN (fun j => nI (F j)) (k ^ r) uf))).set 4 (mo (nI tl) (nI (k ^ r)) (nI rd) he th tr su), q, g, ?_, ?_, (Up.set (by decide)).tr (Up.set (by decide))⟩
    · rw [e, call_ok, if_neg (by omega)]
      have key := upto (fun q i => fX6_table_w14 q 4 a (nI i) (h.set 7 (aC 0 512 (fillN (fun j => nI (F j)) i uf)))) (k ^ r) (fX6_table_b48 4 a (h.set 7 (aC 0 512 (fillN (fun j => nI (F j)) (k ^ r) uf)))) (fun q i hi => by
        have R1 : RuleAt (h.set 7 (aC 0 512 (fillN (fun j => nI (F j)) i uf))) a (a + 1) k r F := R.set (by omega) (by omega)
        have f4 : (h.set 7 (aC 0 512 (fillN (fun j => nI (F j)) i uf)))[4]? = _ := st_n' (by decide) e4
        rw [fX6_table_w14]
        simp only []
        rw [rw9 R1]
        simp only [Option.bind_some]
        rw [if_leI (by omega) (by omega), if_neg (by omega), m3 f4]
        simp only [Option.bind_some]
        rw [aN_of (st_s e7) (by decide)]
        simp only [Option.bind_some]
        rw [if_leI (by omega) (by omega), if_neg (by omega), tells_call g R1 hi, sI_of (by decide) (st_s e7) (by omega) (by decide), x_nar0]
        simp only [Option.bind_some]
        rw [List.set_set, nI_p1, show upd (fillN (fun j => nI (F j)) i uf) i (nI (F i)) = fillN (fun j => nI (F j)) (i + 1) uf from fillN_s (f := fun j => nI (F j))]) (fun q => by
        have R1 : RuleAt (h.set 7 (aC 0 512 (fillN (fun j => nI (F j)) (k ^ r) uf))) a (a + 1) k r F := R.set (by omega) (by omega)
        rw [fX6_table_w14]
        simp only []
        rw [rw9 R1]
        simp only [Option.bind_some]
        rw [if_leI (by omega) (by omega), if_pos (Nat.le_refl _)]) 0 FUEL (by omega) (fuel_big (by omega))
      rw [fillN_0, st_id e7] at key
      rw [l0]
      refine Eq.trans key ?_
      have R1 : RuleAt (h.set 7 (aC 0 512 (fillN (fun j => nI (F j)) (k ^ r) uf))) a (a + 1) k r F := R.set (by omega) (by omega)
      have f4 : (h.set 7 (aC 0 512 (fillN (fun j => nI (F j)) (k ^ r) uf)))[4]? = _ := st_n' (by decide) e4
      unfold fX6_table_b48
      rw [rw9 R1]
      simp only [Option.bind_some]
      rw [p4 f4]
      simp only [Option.bind_some]
      rw [m4 (st_s f4)]
      rfl
    · refine I.re ((Up.set (by decide)).tr (Up.set (by decide))) ?_ (st_s (st_n' (by decide) e4)) (Nat.le_refl _) (by omega) a3 a4 (st_n' (by decide) (st_s e7)) (fun i hi => ⟨by simp [fillN, hi], by have := gF i hi; omega⟩) ((cf.o (by decide)).o (by decide))
      rintro i (rfl | rfl | rfl | rfl) <;> rw [st_n (by decide), st_n (by decide)]
theorem c_row (I : CInv SV h tl tp sl ol of rd tr su) (s : Int32) : ((∀ k r F, ruleOf sl s = some (k, r, F) → ¬ (r ≤ tl ∧ Sts k tl tp)) ∧ ∃ h', fX6_row h 4 s = some (-1, h') ∧ CInv SV h' 0 tp sl ol of rd tr su ∧ Up h h') ∨ (∃ k r F h', ruleOf sl s = some (k, r, F) ∧ GR k r F ∧ r ≤ tl ∧ Sts k tl tp ∧ fX6_row h 4 s = some (nI (tl - r + 1), h') ∧ CInv SV h' 0 tp sl (tl - r + 1) (fun i => F (wd k tp tl r i)) rd tr su ∧ Up h h') := by
  obtain ⟨he, th, sf, tf, uf, e2, e3, e4, a1, a2, a3, a4, e5, a5, e6, a6, e7, a7, cf, aT, aS, aL⟩ := id I
  obtain ⟨he0, th0, e40, I0, u0⟩ := I.tape (n := 0) (Nat.zero_le _)
  have eqm : mo (nI tl) (nI ol) (nI rd) he0 th0 tr su = mo (nI tl) (nI ol) (nI rd) he th tr su := Option.some.inj (e40.symm.trans e4)
  have hhe : he0 = he ∧ th0 = th := by
    simp only [mo, Sum.inl.injEq, Prod.mk.injEq, List.cons.injEq, Sum.inr.injEq, true_and, and_true] at eqm
    exact eqm
  obtain ⟨rfl, rfl⟩ := hhe
  have f4 : (h.set 4 (mo (nI 0) (nI ol) (nI rd) he0 th0 tr su))[4]? = some (mo (nI 0) (nI ol) (nI rd) he0 th0 tr su) := st_s e4
  have f5 : (h.set 4 (mo (nI 0) (nI ol) (nI rd) he0 th0 tr su))[5]? = some (rC 6 sf) := st_n' (by decide) e5
  have f6 : (h.set 4 (mo (nI 0) (nI ol) (nI rd) he0 th0 tr su))[6]? = some (aC 0 100 tf) := st_n' (by decide) e6
  have f7 : (h.set 4 (mo (nI 0) (nI ol) (nI rd) he0 th0 tr su))[7]? = some (aC 0 512 uf) := st_n' (by decide) e7
  have b5 : ∀ s, s < 6 → SlotOK (h.set 4 (mo (nI 0) (nI ol) (nI rd) he0 th0 tr su)) (sf s) (sl s) := fun s hs => (a5 s hs).up u0
  unfold fX6_row
  rw [mok e4, takeTape_ok e4, call_ok, mok f4]
  rcases ruleIn_st f4 f5 b5 s with ⟨q, e⟩ | ⟨a, k, r, F, q, e, ha, g, R⟩
  · left
    rw [e, call_ok, if_pos rfl]
    exact ⟨(fun k r F h9 => by rw [q] at h9; cases h9), _, rfl, I0, u0⟩
  · obtain ⟨n1, n2, n3, n4, n5⟩ := g.nums
    obtain ⟨g1, g2, g3, g4, gF⟩ := id g
    rw [e, call_ok, if_neg (by omega), rr R]
    simp only [Option.bind_some]
    rw [if_ltI (by omega) (by omega)]
    by_cases q1 : tl < r
    · left
      rw [if_pos q1]
      exact ⟨fun k' r' F' h9 h8 => by rw [q] at h9; cases h9; omega, _, rfl, I0, u0⟩
    rw [if_neg q1, rk R]
    simp only [Option.bind_some]
    rw [mok f4]
    rcases areStates_ok f4 f6 a1 (show k < 1000 by omega) a6 with ⟨b1, b2⟩ | ⟨b1, b2⟩
    · right
      refine ⟨k, r, F, ((h.set 4 (mo (nI 0) (nI ol) (nI rd) he0 th0 tr su)).set 4 (mo (nI 0) (nI (tl - r + 1)) (nI rd) he0 th0 tr su)).set 7 (aC 0 512 (fillN (fun j => nI (F (wd k tp tl r j))) (tl - r + 1) uf)), q, g, by omega, b1, ?_, ?_, (u0.tr (Up.set (by decide))).tr (Up.set (by decide))⟩
      · rw [b2, call_ok, if_neg one_ne, rr R]
        simp only [Option.bind_some]
        rw [pk_sub (show r ≤ tl by omega), nI_p1, p4 f4]
        simp only [Option.bind_some]
        have R2 : RuleAt ((h.set 4 (mo (nI 0) (nI ol) (nI rd) he0 th0 tr su)).set 4 (mo (nI 0) (nI (tl - r + 1)) (nI rd) he0 th0 tr su)) a (a + 1) k r F := R.set (by omega) (by omega)
        rw [m1 (st_s f4)]
        simp only [Option.bind_some]
        rw [m4 (st_s f4)]
        simp only [Option.bind_some]
        rw [m3 (st_s f4)]
        simp only [Option.bind_some]
        rw [rok R2, grow_ok g (c := tp) (show 0 < tl by omega) a1 (by decide) (show tl - r + 1 ≤ 512 by omega) (by decide) b1 (fun i hi => (a6 i hi).1) (by decide) (by decide) (by omega) (by omega) R2 (st_n' (by decide) f6) (st_n' (by decide) f7), call_ok, m4 (st_n' (by decide) (st_s f4))]
        rfl
      · refine I0.re ((Up.set (by decide)).tr (Up.set (by decide))) ?_ (st_n' (by decide) (st_s f4)) (Nat.le_refl _) (by omega) a3 a4 (st_s (st_n' (by decide) f7)) (fun i hi => ⟨by simp [fillN, hi], ?_⟩) (((cf.o (by decide)).o (by decide)).o (by decide))
        · rintro i (rfl | rfl | rfl | rfl) <;> rw [st_n (by decide), st_n (by decide)]
        · have := gF _ (wd_lt b1 (show 0 < tl by omega) r i)
          omega
    · left
      rw [b2, call_ok, if_pos rfl]
      exact ⟨fun k' r' F' h9 h8 => by rw [q] at h9; cases h9; exact b1 h8.2, _, rfl, I0, u0⟩
end CO2

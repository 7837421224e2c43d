section CO3
variable {SV : SVP} {h : Hp} {tl : Nat} {tp : Nat → Nat} {sl : SL} {ol : Nat} {of : Nat → Nat} {rd tr su : Nat}
/-- behind takeTape: the tape is empty, its bytes still lie there -/
theorem c_pre (I : CInv SV h tl tp sl ol of rd tr su) : ∃ (h0 : Hp) (he th : Nat) (sf : Nat → Nat) (tf uf : Nat → Int32), oK h 4 6 (fX6_takeTape h 4) = some (nI tl, h0) ∧ CInv SV h0 0 tp sl ol of rd tr su ∧ Up h h0 ∧ h0[4]? = some (mo (nI 0) (nI ol) (nI rd) he th tr su) ∧ HT he th ∧ h0[5]? = some (rC 6 sf) ∧ (∀ s, s < 6 → SlotOK h0 (sf s) (sl s)) ∧ h0[6]? = some (aC 0 100 tf) ∧ (∀ i, i < tl → tf i = nI (tp i) ∧ tp i < 256) ∧ h0[7]? = some (aC 0 512 uf) ∧ (∀ i, i < ol → uf i = nI (of i) ∧ of i < 4) ∧ CFix h0 ∧ h0[2]? = some (aC 0 5 x_mw) ∧ h0[3]? = some (aC 0 4 x_lk) ∧ tl ≤ 100 ∧ ol ≤ 512 ∧ rd < 100000 ∧ TrailOK h0 tr ∧ SurveyOK SV h0 su ∧ 44 ≤ h0.length := by
  obtain ⟨he, th, sf, tf, uf, e2, e3, e4, a1, a2, a3, a4, e5, a5, e6, a6, e7, a7, cf, aT, aS, aL⟩ := id I
  have u : Up h (h.set 4 (mo (nI 0) (nI ol) (nI rd) he th tr su)) := Up.set (by decide)
  refine ⟨h.set 4 (mo (nI 0) (nI ol) (nI rd) he th tr su), he, th, sf, tf, uf, (mok e4).trans (takeTape_ok e4), ?_, u, st_s e4, a4, st_n' (by decide) e5, fun s hs => (a5 s hs).up u, st_n' (by decide) e6, a6, st_n' (by decide) e7, a7, cf.o (by decide), st_n' (by decide) e2, st_n' (by decide) e3, a1, a2, a3, aT.up u, aS.up u, by rw [List.length_set]; exact aL⟩
  refine I.re u ?_ (st_s e4) (Nat.zero_le _) a2 a3 a4 (st_n' (by decide) e7) a7 (cf.o (by decide))
  rintro i (rfl | rfl | rfl | rfl) <;> rw [st_n (by decide)]
/-- a ring's cells behind t steps -/
def gro (k r : Nat) (F : Nat → Nat) (n : Nat) (c : Nat → Nat) : Nat → Nat → Nat
  | 0 => c
  | t + 1 => fun i => F (wd k (gro k r F n c t) n r i)
theorem gro_lt {k r n : Nat} {F : Nat → Nat} {c : Nat → Nat} (g : GR k r F) (hn : 0 < n) (hc : ∀ i, i < n → c i < k) : ∀ t i, i < n → gro k r F n c t i < k
  | 0, i, hi => hc i hi
  | t + 1, i, hi => g.2.2.2.2 _ (wd_lt (gro_lt g hn hc t) hn r i)
theorem copy_ok {a b n na nb : Nat} {f g : Nat → Int32} (ha : 4 ≤ a) (hb : 4 ≤ b) (ea : h[a]? = some (aC 0 na f)) (eb : h[b]? = some (aC 0 nb g)) (h1 : n ≤ na) (h2 : n ≤ nb) (hn : n < 1000) : aCpy h a 0 b 0 (nI n) = some (h.set b (aC 0 nb (fillN f n g))) := by
  unfold aCpy
  rw [if_neg (by omega), hArr_of ea, hArr_of eb]
  simp only [Option.bind_some]
  have h0 : (0 : Int32).toNatClampNeg = 0 := rfl
  rw [h0, cl_nI (by omega), if_pos ⟨by decide, by decide, nI_nn (by omega), by omega, by omega⟩]
  congr 4
  funext j
  unfold va_cpy fillN
  by_cases q : j < n
  · rw [if_pos (by omega), if_pos q]
    simp
  · rw [if_neg (by omega), if_neg q]
theorem HT.ne {he th : Nat} (q : HT he th) : he ≠ th ∧ 4 ≤ he ∧ 4 ≤ th ∧ he < 10 ∧ th < 10 ∧ 8 ≤ he ∧ 8 ≤ th := by
  rcases q with ⟨rfl, rfl⟩ | ⟨rfl, rfl⟩ <;> decide
theorem HT.sw {he th : Nat} (q : HT he th) : HT th he := q.elim (fun z => Or.inr ⟨z.2, z.1⟩) (fun z => Or.inl ⟨z.2, z.1⟩)
theorem HT.rows {he th : Nat} (q : HT he th) (cf : CFix h) : ∃ f g, h[he]? = some (aC 0 100 f) ∧ h[th]? = some (aC 0 100 g) := by
  obtain ⟨⟨f8, e8⟩, ⟨f9, e9⟩, -⟩ := cf
  rcases q with ⟨rfl, rfl⟩ | ⟨rfl, rfl⟩
  · exact ⟨f8, f9, e8, e9⟩
  · exact ⟨f9, f8, e9, e8⟩
theorem HT.cf {he th : Nat} (q : HT he th) (cf : CFix h) {f : Nat → Int32} : CFix (h.set th (aC 0 100 f)) ∧ CFix (h.set he (aC 0 100 f)) := by
  rcases q with ⟨rfl, rfl⟩ | ⟨rfl, rfl⟩
  · exact ⟨cf.s9, cf.s8⟩
  · exact ⟨cf.s8, cf.s9⟩
/-- the steps of ring() -/
theorem ring_steps {k r : Nat} {F : Nat → Nat} (g : GR k r F) {n a : Nat} (hn : 0 < n) (hn2 : n ≤ 100) (hc : ∀ i, i < n → tp i < k) (ha : 44 ≤ a) {ol' : Int32} : ∀ (d T fuel t : Nat) (h : Hp) (he th : Nat) (f : Nat → Int32), d = T - t → t ≤ T → d < fuel → T ≤ 1000 → RuleAt h a (a + 1) k r F → h[4]? = some (mo (nI 0) ol' (nI rd) he th tr su) → HT he th → CFix h → h[he]? = some (aC 0 100 f) → (∀ i, i < n → f i = nI (gro k r F n tp t i)) →
    ∃ h' he' th' f', fX6_ring_w65 fuel 4 (nI T) (nI n) a (nI t) h = fX6_ring_b113 4 (nI n) h' ∧ h'[4]? = some (mo (nI 0) ol' (nI rd) he' th' tr su) ∧ HT he' th' ∧ CFix h' ∧ h'[he']? = some (aC 0 100 f') ∧ (∀ i, i < n → f' i = nI (gro k r F n tp T i)) ∧ h'.length = h.length ∧ ∀ i, i ≠ 4 → i ≠ 8 → i ≠ 9 → h'[i]? = h[i]? := by
  intro d
  induction d with
  | zero =>
    intro T fuel t h he th f hd ht hf hT R e4 q cf e8 hfc
    obtain ⟨fu, rfl⟩ : ∃ fu, fuel = fu + 1 := ⟨fuel - 1, by omega⟩
    have : t = T := by omega
    subst this
    refine ⟨h, he, th, f, ?_, e4, q, cf, e8, hfc, rfl, fun _ _ _ _ => rfl⟩
    rw [fX6_ring_w65]
    simp only []
    rw [if_leI (by omega) (by omega), if_pos (Nat.le_refl _)]
  | succ d ih =>
    intro T fuel t h he th f hd ht hf hT R e4 q cf e8 hfc
    obtain ⟨fu, rfl⟩ : ∃ fu, fuel = fu + 1 := ⟨fuel - 1, by omega⟩
    obtain ⟨z1, z2, z3, z4, z5, z6, z7⟩ := q.ne
    obtain ⟨-, g0, -, e9⟩ := q.rows cf
    have hlt := gro_lt g hn hc t
    have hgr := grow_ok g (c := gro k r F n tp t) hn hn2 (by decide) hn2 (by decide) hlt hfc z3 (Ne.symm z1) (by omega) (by omega) R e8 e9
    generalize hG : fillN (fun j => nI (F (wd k (gro k r F n tp t) n r j))) n g0 = G at hgr
    have f4 : (h.set th (aC 0 100 G))[4]? = some (mo (nI 0) ol' (nI rd) he th tr su) := st_n' (by omega) e4
    have cf1 : CFix (h.set th (aC 0 100 G)) := (q.cf cf).1
    have R1 : RuleAt (((h.set th (aC 0 100 G)).set 4 (mo (nI 0) ol' (nI rd) he he tr su)).set 4 (mo (nI 0) ol' (nI rd) th he tr su)) a (a + 1) k r F := ((R.set (by omega) (by omega)).set (by omega) (by omega)).set (by omega) (by omega)
    obtain ⟨h', he', th', f', r1, r2, r3, r4, r5, r6, r7, r8⟩ := ih T fu (t + 1) (((h.set th (aC 0 100 G)).set 4 (mo (nI 0) ol' (nI rd) he he tr su)).set 4 (mo (nI 0) ol' (nI rd) th he tr su)) th he G (by omega) (by omega) (by omega) hT R1 (st_s (st_s f4)) q.sw ((cf1.o (by decide)).o (by decide)) (st_n' (by omega) (st_n' (by omega) (st_s e9))) (fun i hi => by rw [← hG]; simp [fillN, hi, gro])
    refine ⟨h', he', th', f', ?_, r2, r3, r4, r5, r6, by rw [r7]; simp, fun i i4 i8 i9 => by rw [r8 i i4 i8 i9, st_n (Ne.symm i4), st_n (Ne.symm i4), st_n (by rcases q with ⟨-, rfl⟩ | ⟨-, rfl⟩ <;> omega)]⟩
    rw [fX6_ring_w65]
    simp only []
    rw [if_leI (by omega) (by omega), if_neg (by omega), m6 e4]
    simp only [Option.bind_some]
    rw [m7 e4]
    simp only [Option.bind_some]
    rw [rok R, hgr, call_ok, m7 f4]
    simp only [Option.bind_some]
    rw [m6 f4]
    simp only [Option.bind_some]
    rw [p7 f4]
    simp only [Option.bind_some]
    rw [p6 (st_s f4)]
    simp only [Option.bind_some]
    rw [nI_p1]
    exact r1
def okRing (sl : SL) (tl : Nat) (tp : Nat → Nat) (k r : Nat) (F : Nat → Nat) (s t : Int32) (T : Nat) : Prop := ruleOf sl s = some (k, r, F) ∧ t = nI T ∧ T ≤ 1000 ∧ 1 ≤ tl ∧ Sts k tl tp
theorem c_ring (I : CInv SV h tl tp sl ol of rd tr su) (s t : Int32) : ((∀ k r F T, ¬ okRing sl tl tp k r F s t T) ∧ ∃ h', fX6_ring h 4 s t = some (-1, h') ∧ CInv SV h' 0 tp sl ol of rd tr su ∧ Up h h') ∨ (∃ k r F T h', okRing sl tl tp k r F s t T ∧ GR k r F ∧ fX6_ring h 4 s t = some (nI tl, h') ∧ CInv SV h' 0 tp sl tl (gro k r F tl tp T) rd tr su ∧ Up h h') := by
  obtain ⟨h0, he, th, sf, tf, uf, c0, I0, u0, e4, q, e5, a5, e6, a6, e7, a7, cf, e2, e3, a1, a2, a3, aT, aS, aL⟩ := c_pre I
  unfold fX6_ring
  rw [c0, call_ok, mok e4]
  rcases ruleIn_st e4 e5 a5 s with ⟨q1, e⟩ | ⟨a, k, r, F, q1, e, ha, g, R⟩
  · left
    rw [e, call_ok, if_pos rfl]
    exact ⟨(fun k r F T z => by have z1 := z.1; rw [q1] at z1; cases z1), _, rfl, I0, u0⟩
  obtain ⟨n1, n2, n3, n4, n5⟩ := g.nums
  obtain ⟨g1, g2, g3, g4, gF⟩ := id g
  rw [e, call_ok, if_neg (by omega)]
  rcases pk_ix t (n := 1001) (by decide) with q2 | q2 | ⟨T, hT, rfl⟩
  · left
    rw [if_pos q2]
    refine ⟨fun k r F T z => ?_, _, rfl, I0, u0⟩
    obtain ⟨-, z2, z3, -⟩ := z
    rw [z2] at q2
    exact nI_nn (by omega) q2
  · left
    have hn0 : ¬ t < 0 := fun z => by
      have h1 : nI 1001 < 0 := Int32.lt_of_le_of_lt q2 z
      exact nI_nn (by decide) h1
    have hgt : (1000 : Int32) < t := Int32.lt_of_lt_of_le (show (1000 : Int32) < nI 1001 by decide) q2
    rw [if_neg hn0, if_pos hgt]
    refine ⟨fun k r F T z => ?_, _, rfl, I0, u0⟩
    obtain ⟨-, z2, z3, -⟩ := z
    rw [z2] at q2
    have := (nI_leI (a := 1001) (b := T) (by omega) (by omega)).mp q2
    omega
  rw [if_neg (nI_nn (by omega)), show (1000 : Int32) = nI 1000 from rfl, if_ltI (by omega) (by omega), if_neg (by omega), l1, if_ltI (by omega) (by omega)]
  have hTT : ∀ T', T' ≤ 1000 → nI T = nI T' → T = T' := fun T' h1 h2 => (nI_eq (by omega) (by omega)).mp h2
  by_cases q3 : tl < 1
  · left
    rw [if_pos q3]
    exact ⟨fun k' r' F' T' z => (by have := z.2.2.2.1; omega : False), _, rfl, I0, u0⟩
  rw [if_neg q3, rk R]
  simp only [Option.bind_some]
  rw [mok e4]
  rcases areStates_ok e4 e6 a1 (show k < 1000 by omega) a6 with ⟨b1, b2⟩ | ⟨b1, b2⟩
  · right
    obtain ⟨f8, f9, e8, e9⟩ := q.rows cf
    obtain ⟨z1, z2, z3, z4, z5, z6, z7⟩ := q.ne
    have hcp := copy_ok (n := tl) (show 4 ≤ 6 by decide) z2 e6 e8 a1 a1 (by omega)
    have f4 : (h0.set he (aC 0 100 (fillN tf tl f8)))[4]? = _ := st_n' (by omega) e4
    obtain ⟨h', he', th', f', r1, r2, r3, r4, r5, r6, r7, r8⟩ := ring_steps (tp := tp) g (n := tl) (a := a) (by omega) a1 b1 ha T T FUEL 0 (h0.set he (aC 0 100 (fillN tf tl f8))) he th (fillN tf tl f8) (by omega) (by omega) (fuel_big (by omega)) (by omega) (R.set (by omega) (by omega)) f4 q (q.cf cf).2 (st_s e8) (fun i hi => by simp [fillN, hi, gro, (a6 i hi).1])
    have k0 : ∀ i, i ≠ 4 → i ≠ 8 → i ≠ 9 → h'[i]? = h0[i]? := fun i i4 i8 i9 => by rw [r8 i i4 i8 i9, st_n (by rcases q with ⟨rfl, -⟩ | ⟨rfl, -⟩ <;> omega)]
    obtain ⟨y1, y2, y3, y4, y5, y6, y7⟩ := r3.ne
    have e7' : h'[7]? = some (aC 0 512 uf) := (k0 7 (by decide) (by decide) (by decide)).trans e7
    have hcp2 := copy_ok (n := tl) y2 (show 4 ≤ 7 by decide) r5 e7' a1 (show tl ≤ 512 by omega) (by omega)
    refine ⟨k, r, F, T, (h'.set 7 (aC 0 512 (fillN f' tl uf))).set 4 (mo (nI 0) (nI tl) (nI rd) he' th' tr su), ⟨q1, rfl, by omega, by omega, b1⟩, g, ?_, ?_, ?_⟩
    · rw [b2, call_ok, if_neg one_ne, m1 e4]
      simp only [Option.bind_some]
      rw [m6 e4]
      simp only [Option.bind_some]
      rw [hcp]
      simp only [Option.bind_some]
      refine Eq.trans r1 ?_
      unfold fX6_ring_b113
      rw [m6 r2]
      simp only [Option.bind_some]
      rw [m3 r2]
      simp only [Option.bind_some]
      rw [hcp2]
      simp only [Option.bind_some]
      rw [p4 (st_n' (by decide) r2)]
      simp only [Option.bind_some]
      rw [m4 (st_s (st_n' (by decide) r2))]
      rfl
    · have u' : Up h0 ((h'.set 7 (aC 0 512 (fillN f' tl uf))).set 4 (mo (nI 0) (nI tl) (nI rd) he' th' tr su)) := ⟨by simp [r7], fun i c hi hc => st_n' (by omega) (st_n' (by omega) ((k0 i (by omega) (by omega) (by omega)).trans hc))⟩
      refine I0.re u' ?_ (st_s (st_n' (by decide) r2)) (Nat.le_refl _) (by omega) a3 r3 (st_n' (by decide) (st_s e7')) (fun i hi => ⟨by simp [fillN, hi, r6 i hi], ?_⟩) ((r4.o (by decide)).o (by decide))
      · rintro i (rfl | rfl | rfl | rfl) <;> rw [st_n (by decide), st_n (by decide), k0 _ (by decide) (by decide) (by decide)]
      · have := gro_lt g (show 0 < tl by omega) b1 T i hi
        omega
    · exact u0.tr ⟨by simp [r7], fun i c hi hc => st_n' (by omega) (st_n' (by omega) ((k0 i (by omega) (by omega) (by omega)).trans hc))⟩
  · left
    rw [b2, call_ok, if_pos rfl]
    exact ⟨fun k' r' F' T' z => (by have := z.1; rw [q1] at this; cases this; exact b1 z.2.2.2.2 : False), _, rfl, I0, u0⟩
end CO3

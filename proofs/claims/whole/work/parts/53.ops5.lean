section CO5
variable {SV : SVP} {h : Hp} {tl : Nat} {tp : Nat → Nat} {sl : SL} {ol : Nat} {of : Nat → Nat} {rd tr su : Nat}
/-- scratch rows written: the state is as it was -/
theorem CInv.scr (I : CInv SV h tl tp sl ol of rd tr su) {h' : Hp} (hl : h'.length = h.length) (hk : ∀ i, i < 8 ∨ 19 < i → h'[i]? = h[i]?) (cf : CFix h') : CInv SV h' tl tp sl ol of rd tr su ∧ Up h h' := by
  have u : Up h h' := ⟨by omega, fun i c hi e => (hk i (by omega)).trans e⟩
  obtain ⟨he, th, sf, tf, uf, e2, e3, e4, a1, a2, a3, a4, e5, a5, e6, a6, e7, a7, -, aT, aS, aL⟩ := I
  exact ⟨⟨he, th, sf, tf, uf, (hk 2 (by omega)).trans e2, (hk 3 (by omega)).trans e3, (hk 4 (by omega)).trans e4, a1, a2, a3, a4, (hk 5 (by omega)).trans e5, fun s hs => (a5 s hs).up u, (hk 6 (by omega)).trans e6, a6, (hk 7 (by omega)).trans e7, a7, cf, aT.up u, aS.up u, by omega⟩, u⟩
theorem CInv.told (I : CInv SV h tl tp sl ol of rd tr su) {f : Nat → Int32} : CInv SV (h.set 10 (aC 0 27 f)) tl tp sl ol of rd tr su ∧ Up h (h.set 10 (aC 0 27 f)) := by
  have cf : CFix h := by obtain ⟨he, th, sf, tf, uf, e2, e3, e4, a1, a2, a3, a4, e5, a5, e6, a6, e7, a7, cf, aT, aS, aL⟩ := I; exact cf
  exact I.scr (by simp) (fun i hi => st_n (by omega)) cf.s10
theorem GR.re {k r : Nat} {F G : Nat → Nat} (g : GR k r F) (hG : ∀ w, w < k ^ r → G w < k) : GR k r G := ⟨g.1, g.2.1, g.2.2.1, g.2.2.2.1, hG⟩
/-- the end of mirror, rename and join: a rule out of 'told' -/
theorem put_told (I : CInv SV h tl tp sl ol of rd tr su) {j k r : Nat} {G : Nat → Nat} {f : Nat → Int32} (hj : j < 6) (g : GR k r G) (e10 : h[10]? = some (aC 0 27 f)) (hf : ∀ w, w < k ^ r → f w = nI (G w)) : ∃ h1 h', fX1_init (h ++ [oC 1 zR]) h.length (nI k) (nI r) 10 = some h1 ∧ sR h1 5 (nI j) h.length = some h' ∧ CInv SV h' tl tp (upS sl j (k, r, G)) ol of rd tr su ∧ Up h h' :=
  mk_rule I hj g (by decide) e10 g.nums.1 (by decide) hf
theorem c_mirror (I : CInv SV h tl tp sl ol of rd tr su) (s t : Int32) : (((ruleOf sl s = none) ∨ t < 0 ∨ nI 6 ≤ t) ∧ fX6_mirror h 4 s t = some (0, h)) ∨ (∃ k r F j h', ruleOf sl s = some (k, r, F) ∧ GR k r F ∧ j < 6 ∧ t = nI j ∧ fX6_mirror h 4 s t = some (1, h') ∧ CInv SV h' tl tp (upS sl j (k, r, fun w => F (revN k w r))) ol of rd tr su ∧ Up h h') := by
  obtain ⟨he, th, sf, tf, uf, e2, e3, e4, a1, a2, a3, a4, e5, a5, e6, a6, e7, a7, cf, aT, aS, aL⟩ := id I
  unfold fX6_mirror
  rw [mok e4]
  rcases ruleIn_st e4 e5 a5 s with ⟨q, e⟩ | ⟨a, k, r, F, q, e, ha, g, R⟩
  · left
    rw [e, call_ok, if_pos rfl, retZ0]
    exact ⟨Or.inl q, rfl⟩
  rw [e, call_ok, if_neg (by omega)]
  rcases isSlot_ok (h := h) t with ⟨q1, e1⟩ | ⟨j, hj, rfl, e1⟩
  · left
    rw [e1, call_ok, if_pos rfl, retZ0]
    exact ⟨Or.inr q1, rfl⟩
  right
  obtain ⟨n1, n2, n3, n4, n5⟩ := g.nums
  obtain ⟨g1, g2, g3, g4, gF⟩ := id g
  obtain ⟨f0, e10⟩ := cf.2.2.1
  have hrev : ∀ w, revN k w r < k ^ r := fun w => revN_lt (by omega) w r
  have gG : GR k r (fun w => F (revN k w r)) := g.re (fun w _ => gF _ (hrev w))
  obtain ⟨I1, u1⟩ := I.told (f := fillN (fun w => nI (F (revN k w r))) (k ^ r) f0)
  obtain ⟨h1, h', i1, i2, i3, i4⟩ := put_told I1 hj gG (st_s e10) (fun w hw => by simp [fillN, hw])
  refine ⟨k, r, F, j, h', q, g, hj, rfl, ?_, i3, u1.tr i4⟩
  rw [e1, call_ok, if_neg one_ne]
  have key := upto (fun q i => fX6_mirror_w22 q 4 (nI j) a (nI i) (h.set 10 (aC 0 27 (fillN (fun w => nI (F (revN k w r))) i f0)))) (k ^ r) (fX6_mirror_b64 4 (nI j) a (h.set 10 (aC 0 27 (fillN (fun w => nI (F (revN k w r))) (k ^ r) f0)))) (fun q i hi => by
    have R1 : RuleAt (h.set 10 (aC 0 27 (fillN (fun w => nI (F (revN k w r))) i f0))) a (a + 1) k r F := R.set (by omega) (by omega)
    have f4 : (h.set 10 (aC 0 27 (fillN (fun w => nI (F (revN k w r))) i f0)))[4]? = _ := st_n' (by decide) e4
    rw [fX6_mirror_w22]
    simp only []
    rw [rw9 R1]
    simp only [Option.bind_some]
    rw [if_leI (by omega) (by omega), if_neg (by omega), m8 f4]
    simp only [Option.bind_some]
    rw [aN_of (st_s e10) (by decide)]
    simp only [Option.bind_some]
    rw [if_leI (by omega) (by omega), if_neg (by omega), rok R1, backward_ok g R1 hi, call_ok, tells_call g R1 (hrev i), sI_of (by decide) (st_s e10) (by omega) (by decide), x_nar0]
    simp only [Option.bind_some]
    rw [List.set_set, nI_p1, show upd (fillN (fun w => nI (F (revN k w r))) i f0) i (nI (F (revN k i r))) = fillN (fun w => nI (F (revN k w r))) (i + 1) f0 from fillN_s (f := fun w => nI (F (revN k w r)))]) (fun q => by
    have R1 : RuleAt (h.set 10 (aC 0 27 (fillN (fun w => nI (F (revN k w r))) (k ^ r) f0))) a (a + 1) k r F := R.set (by omega) (by omega)
    rw [fX6_mirror_w22]
    simp only []
    rw [rw9 R1]
    simp only [Option.bind_some]
    rw [if_leI (by omega) (by omega), if_pos (Nat.le_refl _)]) 0 FUEL (by omega) (fuel_big (by omega))
  rw [fillN_0, st_id e10] at key
  rw [l0]
  refine Eq.trans key ?_
  generalize hH : h.set 10 (aC 0 27 (fillN (fun w => nI (F (revN k w r))) (k ^ r) f0)) = H at i1 i2 ⊢
  have R1 : RuleAt (H ++ [oC 1 zR]) a (a + 1) k r F := by rw [← hH]; exact (R.set (by omega) (by omega)).push
  have f4 : H[4]? = some (mo (nI tl) (nI ol) (nI rd) he th tr su) := by rw [← hH]; exact st_n' (by decide) e4
  unfold fX6_mirror_b64 mkO
  rw [m0 f4]
  simp only [Option.bind_some]
  show Option.bind (gI (H ++ [oC 1 zR]) a 1 0) _ = _
  rw [rk R1]
  simp only [Option.bind_some]
  show Option.bind (gI (H ++ [oC 1 zR]) a 1 1) _ = _
  rw [rr R1]
  simp only [Option.bind_some]
  show Option.bind (gR (H ++ [oC 1 zR]) 4 6 8) _ = _
  rw [m8 (st_p f4)]
  simp only [Option.bind_some]
  show Option.bind (fX1_init (H ++ [oC 1 zR]) H.length (nI k) (nI r) 10) _ = _
  rw [i1]
  simp only [Option.bind_some]
  rw [i2]
  rfl
/-- the weights that bytes are -/
def wtB (tp : Nat → Nat) (i : Nat) : Int32 := (nI (tp i)).toInt8.toInt32
theorem KeepsW.cong {k r : Nat} {F : Nat → Nat} {W W' : Nat → Int32} (g : GR k r F) (hW : ∀ i, i < k → W i = W' i) : KeepsW k r F W ↔ KeepsW k r F W' := by
  have hg : ∀ w, w < k ^ r → gn (k ^ (r - 1)) F W w = gn (k ^ (r - 1)) F W' w := fun w hw => by
    unfold gn
    rw [hW _ (g.2.2.2.2 w hw), hW _ (div_node g hw)]
  obtain ⟨n1, n2, n3, n4, n5⟩ := g.nums
  obtain ⟨g1, g2, g3, g4, gF⟩ := id g
  have hl : ∀ u i, lvS k (k ^ (r - 1)) r u F W i = lvS k (k ^ (r - 1)) r u F W' i := by
    intro u i
    induction i with
    | zero => rfl
    | succ i ih =>
      unfold lvS
      rw [ih, hg]
      rw [n4]
      exact wlt (lvA_lt (by omega) r u n3 i) (Nat.mod_lt _ (by omega))
  unfold KeepsW
  constructor
  · intro z w hw
    rw [← hl, ← hl, ← hg w hw]
    exact z w hw
  · intro z w hw
    rw [hl, hl, hg w hw]
    exact z w hw
theorem c_keeps (I : CInv SV h tl tp sl ol of rd tr su) (s : Int32) : ((∀ k r F, ruleOf sl s = some (k, r, F) → tl ≠ k) ∧ ∃ h', fX6_keeps h 4 s = some (-1, h') ∧ CInv SV h' 0 tp sl ol of rd tr su ∧ Up h h') ∨ (∃ k r F h', ruleOf sl s = some (k, r, F) ∧ GR k r F ∧ tl = k ∧ ((KeepsW k r F (wtB tp) ∧ fX6_keeps h 4 s = some (1, h')) ∨ (¬ KeepsW k r F (wtB tp) ∧ fX6_keeps h 4 s = some (0, h'))) ∧ CInv SV h' 0 tp sl ol of rd tr su ∧ Up h h') := by
  obtain ⟨h0, he, th, sf, tf, uf, c0, I0, u0, e4, q, e5, a5, e6, a6, e7, a7, cf, e2, e3, a1, a2, a3, aT, aS, aL⟩ := c_pre I
  unfold fX6_keeps
  rw [c0, call_ok, mok e4]
  rcases ruleIn_st e4 e5 a5 s with ⟨q1, e⟩ | ⟨a, k, r, F, q1, e, ha, g, R⟩
  · left
    rw [e, call_ok, if_pos rfl]
    exact ⟨(fun k r F z => by rw [q1] at z; cases z), _, rfl, I0, u0⟩
  obtain ⟨n1, n2, n3, n4, n5⟩ := g.nums
  obtain ⟨g1, g2, g3, g4, gF⟩ := id g
  rw [e, call_ok, if_neg (by omega), rk R]
  simp only [Option.bind_some]
  rw [if_eqI (by omega) (by omega)]
  by_cases q2 : tl = k
  · right
    rw [if_pos q2]
    obtain ⟨f8, f9, e8, e9⟩ := q.rows cf
    obtain ⟨z1, z2, z3, z4, z5, z6, z7⟩ := q.ne
    have key := upto (fun q i => fX6_keeps_w28 q 4 (nI tl) a (nI i) (h0.set he (aC 0 100 (fillN (wtB tp) i f8)))) tl (fX6_keeps_b55 4 a (h0.set he (aC 0 100 (fillN (wtB tp) tl f8)))) (fun q i hi => by
      have f4 : (h0.set he (aC 0 100 (fillN (wtB tp) i f8)))[4]? = _ := st_n' (by omega) e4
      rw [fX6_keeps_w28]
      simp only []
      rw [if_leI (by omega) (by omega), if_neg (by omega), m6 f4]
      simp only [Option.bind_some]
      rw [m1 f4]
      simp only [Option.bind_some]
      rw [aI_of (st_n' (by omega) e6) (show i < 100 by omega) (by decide), (a6 i hi).1]
      simp only [Option.bind_some]
      rw [sI_of z2 (st_s e8) (show i < 100 by omega) (by decide), x_nar0]
      simp only [Option.bind_some]
      rw [List.set_set, nI_p1, show upd (fillN (wtB tp) i f8) i (nI (tp i)).toInt8.toInt32 = fillN (wtB tp) (i + 1) f8 from fillN_s (f := wtB tp)]) (fun q => by
      rw [fX6_keeps_w28]
      simp only []
      rw [if_leI (by omega) (by omega), if_pos (Nat.le_refl _)]) 0 FUEL (by omega) (fuel_big (by omega))
    rw [fillN_0, st_id e8] at key
    have R1 : RuleAt (h0.set he (aC 0 100 (fillN (wtB tp) tl f8))) a (a + 1) k r F := R.set (by omega) (by omega)
    have f4 : (h0.set he (aC 0 100 (fillN (wtB tp) tl f8)))[4]? = _ := st_n' (by omega) e4
    obtain ⟨I1, u1⟩ := I0.scr (h' := h0.set he (aC 0 100 (fillN (wtB tp) tl f8))) (by simp) (fun i hi => st_n (by omega)) (q.cf cf).2
    refine ⟨k, r, F, h0.set he (aC 0 100 (fillN (wtB tp) tl f8)), q1, g, q2, ?_, I1, u0.tr u1⟩
    rw [l0, key]
    unfold fX6_keeps_b55
    rw [m6 f4]
    simp only [Option.bind_some]
    rw [rok R1]
    have hc : KeepsW k r F (fillN (wtB tp) tl f8) ↔ KeepsW k r F (wtB tp) := KeepsW.cong g (fun i hi => by simp [fillN, show i < tl by omega])
    rcases holds_ok g R1 (st_s e8) (show k ≤ 100 by omega) (by decide) with ⟨b1, b2⟩ | ⟨b1, b2⟩
    · left
      rw [b2, call_ok, if_neg one_ne]
      exact ⟨hc.mp b1, rfl⟩
    · right
      rw [b2, call_ok, if_pos rfl]
      exact ⟨fun z => b1 (hc.mpr z), rfl⟩
  · left
    rw [if_neg q2]
    exact ⟨(fun k' r' F' z => by rw [q1] at z; cases z; exact q2), _, rfl, I0, u0⟩
end CO5

theorem byM_small : ∀ b, b < 128 → byM b = nI b := by unfold byM; decide +kernel
theorem byM_neg : ∀ b, b < 256 → (byM b < 0 ↔ 128 ≤ b) := by unfold byM; decide +kernel
theorem byN : ∀ v, v < 4 → x_nar 1 ((nI v).toInt8.toInt32) = nI v := by decide +kernel
section MA
variable {h : Hp} {thr sz : Int32} {tl : Nat} {tp : Nat → Nat} {sl : SL} {ol : Nat} {of : Nat → Nat} {rd : Nat}
/-- every call begins so -/
theorem MInv.begin (I : MInv h thr sz tl tp sl ol of rd) : ∃ h1, pF h 20 7 0 (vI (0 : Int32)) = some h1 ∧ MInv h1 0 sz tl tp sl ol of rd ∧ Dn h h1 := by
  obtain ⟨tpf, stf, wdf, tbf, otf, e0, a1, a2, a3, e1, b1, e2, e3, e4, b2, e5, b3, F⟩ := I
  exact ⟨_, q_0 e0, ⟨tpf, stf, wdf, tbf, otf, st_s e0, a1, a2, a3, st_n' (by decide) e1, b1, st_n' (by decide) e2, st_n' (by decide) e3, st_n' (by decide) e4, b2, st_n' (by decide) e5, b3, F.o (by decide)⟩, Dn.rf.st (by decide)⟩
theorem MInv.taken (I : MInv h thr sz tl tp sl ol of rd) : ∃ h1 tpf, fX7_taken h 20 = some h1 ∧ MInv h1 thr (nI tl) 0 tp sl ol of rd ∧ Dn h h1 ∧ h1[21]? = some (aC 1 100 tpf) ∧ (∀ i, i < tl → tpf i = byM (tp i) ∧ tp i < 256) ∧ tl ≤ 100 := by
  obtain ⟨tpf, stf, wdf, tbf, otf, e0, a1, a2, a3, e1, b1, e2, e3, e4, b2, e5, b3, F⟩ := I
  refine ⟨(h.set 20 (mob thr (nI tl) (nI tl) (nI ol) (nI rd))).set 20 (mob thr (nI 0) (nI tl) (nI ol) (nI rd)), tpf, ?_, ⟨tpf, stf, wdf, tbf, otf, st_s (st_s e0), by omega, a2, a3, st_n' (by decide) (st_n' (by decide) e1), fun i hi => by omega, st_n' (by decide) (st_n' (by decide) e2), st_n' (by decide) (st_n' (by decide) e3), st_n' (by decide) (st_n' (by decide) e4), b2, st_n' (by decide) (st_n' (by decide) e5), b3, (F.o (by decide)).o (by decide)⟩, (Dn.rf.st (by decide)).st (by decide), st_n' (by decide) (st_n' (by decide) e1), b1, a1⟩
  unfold fX7_taken
  rw [o_2 e0]
  simp only [Option.bind_some]
  rw [q_3 e0]
  simp only [Option.bind_some]
  rw [q_2 (st_s e0)]
  rfl
theorem misSlot (s : Int32) : ((s < 0 ∨ nI 6 ≤ s) ∧ fX7_isSlot h s = some (0, h)) ∨ (∃ j, j < 6 ∧ s = nI j ∧ fX7_isSlot h s = some (1, h)) := by
  unfold fX7_isSlot
  rcases pk_ix s (n := 6) (by decide) with q | q | ⟨j, hj, rfl⟩
  · left
    rw [if_pos q, retZ0]
    exact ⟨Or.inl q, rfl⟩
  · left
    by_cases q2 : s < 0
    · rw [if_pos q2, retZ0]; exact ⟨Or.inl q2, rfl⟩
    · rw [if_neg q2, show (6 : Int32) = nI 6 from rfl, if_pos q, retZ0]; exact ⟨Or.inr q, rfl⟩
  · right
    refine ⟨j, hj, rfl, ?_⟩
    rw [if_neg (nI_nn (by omega)), show (6 : Int32) = nI 6 from rfl, if_leI (by omega) (by omega), if_neg (by omega), retZ1]
/-- whether a slot holds a rule, and where the model keeps it -/
theorem mhas {thr tl' sz om rd' : Int32} {stf wdf tbf : Nat → Int32} (e0 : h[20]? = some (mob thr tl' sz om rd')) (e2 : h[22]? = some (aC 0 6 stf)) (b2 : ∀ s, s < 6 → MSlot stf wdf tbf s (sl s)) (s : Int32) : (ruleOf sl s = none ∧ fX7_has h 20 s = some (0, h)) ∨ (∃ j k r F, j < 6 ∧ s = nI j ∧ ruleOf sl s = some (k, r, F) ∧ fX7_has h 20 s = some (1, h) ∧ GR k r F ∧ stf j = nI k ∧ wdf j = nI r ∧ ∀ w, w < k ^ r → tbf (27 * j + w) = nI (F w)) := by
  unfold fX7_has
  rcases misSlot (h := h) s with ⟨q, e⟩ | ⟨j, hj, rfl, e⟩
  · left
    rw [e, call_ok, if_pos rfl, retZ0]
    exact ⟨ruleOf_out q, rfl⟩
  · rw [e, call_ok, if_neg one_ne, o_4 e0]
    simp only [Option.bind_some]
    rw [aI_of e2 hj (by decide), ruleOf_j hj]
    simp only [Option.bind_some]
    have hs := b2 j hj
    cases hsl : sl j with
    | none =>
      left
      rw [hsl] at hs
      have hs0 : stf j = nI 0 := hs
      rw [hs0, if_pos (by decide), retZ0]
      exact ⟨rfl, rfl⟩
    | some x =>
      right
      obtain ⟨k, r, F⟩ := x
      rw [hsl] at hs
      obtain ⟨g, s1, s2, s3⟩ := hs
      have g1 : 2 ≤ k := g.1
      have g2 : k ≤ 4 := g.2.1
      refine ⟨j, k, r, F, hj, rfl, rfl, ?_, g, s1, s2, s3⟩
      rw [s1, show (0 : Int32) = nI 0 from rfl]
      show (if nI k ≤ nI 0 then _ else _) = _
      rw [if_leI (by omega) (by omega), if_neg (by omega), retZ1]
theorem mpower {k r : Nat} (hb : k ^ r < 2 ^ 31) (hr : r < 1000) : fX7_power h (nI k) (nI r) = some (nI (k ^ r), h) := by
  unfold fX7_power
  have key := upto (fun n i => fX7_power_w4 n (nI k) (nI r) (nI (k ^ i)) (nI i) h) r (some (nI (k ^ r), h)) (fun n i hi => by
    rw [fX7_power_w4]
    simp only []
    rw [if_leI (by omega) (by omega), if_neg (by omega), setv_ok, pk_mul, nI_p1, ← Nat.pow_succ]) (fun n => by
    rw [fX7_power_w4]
    simp only []
    rw [if_leI (by omega) (by omega), if_pos (Nat.le_refl _)]) 0 FUEL (by omega) (fuel_big (by omega))
  rw [Nat.pow_zero] at key
  rw [l1, l0]
  exact key
theorem m_end (I : MInv h thr sz tl tp sl ol of rd) (n : Int32) : ((n < 0 ∨ nI tl < n) ∧ ∃ h', fX7_end h 20 n = some (0, h') ∧ MInv h' 0 sz tl tp sl ol of rd ∧ Dn h h') ∨ (∃ j h', j ≤ tl ∧ n = nI j ∧ fX7_end h 20 n = some (1, h') ∧ MInv h' 0 sz j tp sl ol of rd ∧ Dn h h') := by
  obtain ⟨h1, c1, I1, d1⟩ := I.begin
  obtain ⟨tpf, stf, wdf, tbf, otf, e0, a1, a2, a3, e1, b1, e2, e3, e4, b2, e5, b3, F⟩ := id I1
  unfold fX7_end
  rw [c1]
  simp only [Option.bind_some]
  rcases pk_ix n (n := tl + 1) (by omega) with q | q | ⟨j, hj, rfl⟩
  · left
    rw [if_pos q, retZ0]
    exact ⟨Or.inl q, h1, rfl, I1, d1⟩
  · left
    have hgt : nI tl < n := Int32.lt_of_lt_of_le (nI_lt (show tl < tl + 1 by omega) (by omega)) q
    refine ⟨Or.inr hgt, h1, ?_, I1, d1⟩
    by_cases q2 : n < 0
    · rw [if_pos q2, retZ0]
    · rw [if_neg q2, o_2 e0]
      simp only [Option.bind_some]
      rw [if_neg (by rw [Int32.not_le]; exact hgt), retZ0]
  · right
    refine ⟨j, h1.set 20 (mob 0 (nI j) sz (nI ol) (nI rd)), by omega, rfl, ?_, ⟨tpf, stf, wdf, tbf, otf, st_s e0, by omega, a2, a3, st_n' (by decide) e1, fun i hi => b1 i (by omega), st_n' (by decide) e2, st_n' (by decide) e3, st_n' (by decide) e4, b2, st_n' (by decide) e5, b3, F.o (by decide)⟩, d1.st (by decide)⟩
    rw [if_neg (nI_nn (by omega)), o_2 e0]
    simp only [Option.bind_some]
    rw [if_leI (by omega) (by omega), if_pos (by omega), q_2 e0]
    simp only [Option.bind_some]
    rw [retZ1]
theorem m_round (I : MInv h thr sz tl tp sl ol of rd) : ∃ h', fX7_round h 20 = some (nI rd, h') ∧ MInv h' 0 sz tl tp sl ol of rd ∧ Dn h h' := by
  obtain ⟨h1, c1, I1, d1⟩ := I.begin
  obtain ⟨tpf, stf, wdf, tbf, otf, e0, -⟩ := id I1
  refine ⟨h1, ?_, I1, d1⟩
  unfold fX7_round
  rw [c1]
  simp only [Option.bind_some]
  rw [o_21 e0]
  rfl
theorem m_count (I : MInv h thr sz tl tp sl ol of rd) (w : Int32) : ∃ h', fX7_count_ h 20 w = some (if w = 0 then nI (cntS sl 6) else if w = 1 then nI tl else if w = 2 then nI ol else -1, h') ∧ MInv h' 0 sz tl tp sl ol of rd ∧ Dn h h' := by
  obtain ⟨h1, c1, I1, d1⟩ := I.begin
  obtain ⟨tpf, stf, wdf, tbf, otf, e0, a1, a2, a3, e1, b1, e2, e3, e4, b2, e5, b3, F⟩ := id I1
  refine ⟨h1, ?_, I1, d1⟩
  unfold fX7_count_
  rw [c1]
  simp only [Option.bind_some]
  by_cases q0 : w = 0
  · rw [if_pos q0, if_pos q0]
    have key := upto (fun q i => fX7_count__w38 q 20 (nI (cntS sl i)) (nI i) h1) 6 (some (nI (cntS sl 6), h1)) (fun q i hi => by
      have hc := cntS_le sl i
      rw [fX7_count__w38]
      simp only []
      rw [show (6 : Int32) = nI 6 from rfl, if_leI (by omega) (by omega), if_neg (by omega), o_4 e0]
      simp only [Option.bind_some]
      rw [aI_of e2 hi (by decide)]
      simp only [Option.bind_some]
      unfold fX7_count__b59
      have hs := b2 i hi
      cases hsl : sl i with
      | none =>
        rw [hsl] at hs
        have hs0 : stf i = nI 0 := hs
        rw [hs0, if_pos (by decide), setv_ok, nI_p1, show (0 : Int32) = nI 0 from rfl, nI_add]
        simp [cntS, hsl]
      | some x =>
        obtain ⟨k, r, F⟩ := x
        rw [hsl] at hs
        obtain ⟨g, s1, -⟩ := hs
        have g1 : 2 ≤ k := g.1
        have g2 : k ≤ 4 := g.2.1
        have s1' : stf i = nI k := s1
        rw [s1', show (0 : Int32) = nI 0 from rfl, if_leI (by omega) (by omega), if_neg (by omega), setv_ok, nI_p1, nI_p1]
        simp [cntS, hsl]) (fun q => by
      rw [fX7_count__w38]
      simp only []
      rw [show (6 : Int32) = nI 6 from rfl, if_leI (by omega) (by omega), if_pos (Nat.le_refl _)]) 0 FUEL (by omega) (fuel_big (by omega))
    exact key
  · rw [if_neg q0, if_neg q0]
    by_cases q1 : w = 1
    · rw [if_pos q1, if_pos q1, o_2 e0]; rfl
    · rw [if_neg q1, if_neg q1]
      by_cases q2 : w = 2
      · rw [if_pos q2, if_pos q2, o_8 e0]; rfl
      · rw [if_neg q2, if_neg q2]
theorem mtells {thr tl' sz om rd' : Int32} {tbf : Nat → Int32} (e0 : h[20]? = some (mob thr tl' sz om rd')) (e4 : h[24]? = some (aC 0 189 tbf)) {j k r w : Nat} {F : Nat → Nat} (g : GR k r F) (hj : j < 6) (ht : ∀ w, w < k ^ r → tbf (27 * j + w) = nI (F w)) (hw : w < k ^ r) : fX7_tells h 20 (nI j) (nI w) = some (nI (F w), h) := by
  obtain ⟨n1, n2, n3, n4, n5⟩ := g.nums
  unfold fX7_tells
  rw [o_6 e0]
  simp only [Option.bind_some]
  rw [show (27 : Int32) = nI 27 from rfl, pk_mul, nI_add, aI_of e4 (by omega) (by decide), ht w hw]
  rfl
/-- new OUT -/
theorem MInv.out (I : MInv h thr sz tl tp sl ol of rd) {h' : Hp} {ol' : Nat} {of' : Nat → Nat} {otf' : Nat → Int32} (hk : ∀ i, i = 21 ∨ i = 22 ∨ i = 23 ∨ i = 24 → h'[i]? = h[i]?) (e0 : h'[20]? = some (mob thr (nI tl) sz (nI ol') (nI rd))) (ho : ol' ≤ 512) (e5 : h'[25]? = some (aC 1 600 otf')) (b3 : ∀ i, i < ol' → otf' i = nI (of' i) ∧ of' i < 4) (F : MFix h') : MInv h' thr sz tl tp sl ol' of' rd := by
  obtain ⟨tpf, stf, wdf, tbf, otf, -, a1, a2, a3, e1, b1, e2, e3, e4, b2, -, -, -⟩ := I
  exact ⟨tpf, stf, wdf, tbf, otf', e0, a1, ho, a3, (hk 21 (by omega)).trans e1, b1, (hk 22 (by omega)).trans e2, (hk 23 (by omega)).trans e3, (hk 24 (by omega)).trans e4, b2, e5, b3, F⟩
theorem m_table (I : MInv h thr sz tl tp sl ol of rd) (s : Int32) : (ruleOf sl s = none ∧ ∃ h', fX7_table h 20 s = some (-1, h') ∧ MInv h' 0 sz tl tp sl ol of rd ∧ Dn h h') ∨ (∃ k r F h', ruleOf sl s = some (k, r, F) ∧ GR k r F ∧ fX7_table h 20 s = some (nI (k ^ r), h') ∧ MInv h' 0 sz tl tp sl (k ^ r) F rd ∧ Dn h h') := by
  obtain ⟨h1, c1, I1, d1⟩ := I.begin
  obtain ⟨tpf, stf, wdf, tbf, otf, e0, a1, a2, a3, e1, b1, e2, e3, e4, b2, e5, b3, Fx⟩ := id I1
  unfold fX7_table
  rw [c1]
  simp only [Option.bind_some]
  rw [oo e0]
  rcases mhas e0 e2 b2 s with ⟨q, e⟩ | ⟨j, k, r, F, hj, rfl, q, e, g, s1, s2, s3⟩
  · left
    rw [e, call_ok, if_pos rfl]
    exact ⟨q, h1, rfl, I1, d1⟩
  · right
    obtain ⟨n1, n2, n3, n4, n5⟩ := g.nums
    obtain ⟨g1, g2, g3, g4, gF⟩ := id g
    rw [e, call_ok, if_neg one_ne, o_4 e0]
    simp only [Option.bind_some]
    rw [aI_of e2 hj (by decide), s1]
    simp only [Option.bind_some]
    rw [o_5 e0]
    simp only [Option.bind_some]
    rw [aI_of e3 hj (by decide), s2]
    simp only [Option.bind_some]
    rw [mpower (by omega) (by omega), call_ok, q_8 e0]
    simp only [Option.bind_some]
    have E0 : ∀ u, ((h1.set 20 (mob 0 (nI tl) sz (nI (k ^ r)) (nI rd))).set 25 u)[20]? = some (mob 0 (nI tl) sz (nI (k ^ r)) (nI rd)) := fun u => st_n' (by decide) (st_s e0)
    have E4 : ∀ u, ((h1.set 20 (mob 0 (nI tl) sz (nI (k ^ r)) (nI rd))).set 25 u)[24]? = some (aC 0 189 tbf) := fun u => st_n' (by decide) (st_n' (by decide) e4)
    have E5 : ∀ u, ((h1.set 20 (mob 0 (nI tl) sz (nI (k ^ r)) (nI rd))).set 25 u)[25]? = some u := fun u => st_s (st_n' (by decide) e5)
    have key := upto (fun q i => fX7_table_w36 q 20 (nI j) (nI i) ((h1.set 20 (mob 0 (nI tl) sz (nI (k ^ r)) (nI rd))).set 25 (aC 1 600 (fillN (fun j => nI (F j)) i otf)))) (k ^ r) (some (nI (k ^ r), (h1.set 20 (mob 0 (nI tl) sz (nI (k ^ r)) (nI rd))).set 25 (aC 1 600 (fillN (fun j => nI (F j)) (k ^ r) otf)))) (fun q i hi => by
      have hF := gF i hi
      rw [fX7_table_w36]
      simp only []
      rw [o_8 (E0 _)]
      simp only [Option.bind_some]
      rw [if_leI (by omega) (by omega), if_neg (by omega), o_7 (E0 _)]
      simp only [Option.bind_some]
      rw [oo (E0 _), mtells (E0 _) (E4 _) g hj s3 hi, call_ok, sI_of (by decide) (E5 _) (by omega) (by decide), byN _ (by omega)]
      simp only [Option.bind_some]
      rw [List.set_set, nI_p1, show upd (fillN (fun j => nI (F j)) i otf) i (nI (F i)) = fillN (fun j => nI (F j)) (i + 1) otf from fillN_s (f := fun j => nI (F j))]) (fun q => by
      rw [fX7_table_w36]
      simp only []
      rw [o_8 (E0 _)]
      simp only [Option.bind_some]
      rw [if_leI (by omega) (by omega), if_pos (Nat.le_refl _)]
      unfold fX7_table_b63
      rw [o_8 (E0 _)]
      rfl) 0 FUEL (by omega) (fuel_big (by omega))
    rw [fillN_0, st_id (st_n' (by decide) e5)] at key
    refine ⟨k, r, F, _, q, g, key, ?_, (d1.st (by decide)).st (by decide)⟩
    refine I1.out ?_ (E0 _) (by omega) (E5 _) (fun i hi => ⟨by simp [fillN, hi], by have := gF i hi; omega⟩) ((Fx.o (by decide)).o (by decide))
    rintro i (rfl | rfl | rfl | rfl) <;> rw [st_n (by decide), st_n (by decide)]
end MA

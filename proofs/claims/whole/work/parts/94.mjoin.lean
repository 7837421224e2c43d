section MJ
variable {h : Hp} {thr sz : Int32} {tl : Nat} {tp : Nat → Nat} {sl : SL} {ol : Nat} {of : Nat → Nat} {rd : Nat}
theorem m_join (I : MInv h thr sz tl tp sl ol of rd) (s t u : Int32) : ((∀ k r q F G j, ¬ okJoin sl s t u k r q F G j) ∧ ∃ h', fX7_join h 20 s t u = some (-1, h') ∧ MInv h' 0 sz tl tp sl ol of rd ∧ Dn h h') ∨ (∃ k r q F G j h', okJoin sl s t u k r q F G j ∧ GR k r F ∧ GR k q G ∧ fX7_join h 20 s t u = some (nI (r + q - 1), h') ∧ MInv h' 0 sz tl tp (upS sl j (k, r + q - 1, fun x => G (imN k r F q x))) ol of rd ∧ Dn h h') := by
  obtain ⟨h1, c1, I1, d1⟩ := I.begin
  obtain ⟨tpf, stf, wdf, tbf, otf, e0, a1, a2, a3, e1, b1, e2, e3, e4, b2, e5, b3, Fx⟩ := id I1
  unfold fX7_join
  rw [c1]
  simp only [Option.bind_some]
  rw [oo e0]
  rcases mhas e0 e2 b2 s with ⟨q0, e⟩ | ⟨i0, k, r, F, hi0, rfl, q0, e, g, s1, s2, s3⟩
  · left
    rw [e, call_ok, if_pos rfl]
    exact ⟨(fun k r q F G j h9 => by have := h9.1; rw [q0] at this; cases this), h1, rfl, I1, d1⟩
  rw [e, call_ok, if_neg one_ne, oo e0]
  rcases mhas e0 e2 b2 t with ⟨q1, e⟩ | ⟨i1, k', q, G, hi1, rfl, q1, e, g', t1, t2, t3⟩
  · left
    rw [e, call_ok, if_pos rfl]
    exact ⟨(fun k r q F G j h9 => by have := h9.2.1; rw [q1] at this; cases this), h1, rfl, I1, d1⟩
  rw [e, call_ok, if_neg one_ne]
  have uq : ∀ {k2 r2 q2 F2 G2 j2}, okJoin sl (nI i0) (nI i1) u k2 r2 q2 F2 G2 j2 → k2 = k ∧ k' = k ∧ r2 = r ∧ q2 = q ∧ j2 < 6 ∧ u = nI j2 ∧ r2 + q2 - 1 ≤ mwN k2 := fun {k2 r2 q2 F2 G2 j2} z => by
    obtain ⟨z1, z2, z3, z4, z5⟩ := z
    rw [q0] at z1
    rw [q1] at z2
    cases z1
    cases z2
    exact ⟨rfl, rfl, rfl, rfl, z3, z4, z5⟩
  rcases misSlot (h := h1) u with ⟨w1, e9⟩ | ⟨j, hj, rfl, e9⟩
  · left
    rw [e9, call_ok, if_pos rfl]
    refine ⟨fun k2 r2 q2 F2 G2 j2 z => ?_, h1, rfl, I1, d1⟩
    obtain ⟨-, -, -, -, z2, z3, -⟩ := uq z
    rw [z3] at w1
    rcases w1 with w1 | w1
    · exact nI_nn (by omega) w1
    · have := (nI_leI (a := 6) (b := j2) (by omega) (by omega)).mp w1
      omega
  obtain ⟨n1, n2, n3, n4, n5⟩ := g.nums
  obtain ⟨g1, g2, g3, g4, gF⟩ := id g
  obtain ⟨n1', n2', n3', n4', n5'⟩ := g'.nums
  obtain ⟨g1', g2', g3', g4', gG⟩ := id g'
  rw [e9, call_ok, if_neg one_ne, o_4 e0]
  simp only [Option.bind_some]
  rw [aI_of e2 hi0 (by decide), s1]
  simp only [Option.bind_some]
  rw [aI_of e2 hi1 (by decide), t1]
  simp only [Option.bind_some]
  rw [if_eqI (by omega) (by omega)]
  by_cases q5 : k = k'
  case neg =>
    left
    rw [if_neg q5]
    exact ⟨fun k2 r2 q2 F2 G2 j2 z => q5 (uq z).2.1.symm, h1, rfl, I1, d1⟩
  subst q5
  rw [if_pos rfl, o_5 e0]
  simp only [Option.bind_some]
  rw [aI_of e3 hi1 (by decide), t2]
  simp only [Option.bind_some]
  rw [aI_of e3 hi0 (by decide), s2]
  simp only [Option.bind_some]
  rw [setv_ok, nI_add, i_sub1 (by omega), widest_m g1 g2, call_ok, if_leI (by omega) (by have := n5; have : mwN k ≤ 4 := (by unfold mwN; split; omega; split; omega; split <;> omega); omega)]
  by_cases q6 : r + q - 1 ≤ mwN k
  case neg =>
    left
    rw [if_neg q6]
    refine ⟨fun k2 r2 q2 F2 G2 j2 z => q6 ?_, h1, rfl, I1, d1⟩
    obtain ⟨rfl, -, rfl, rfl, -, -, z7⟩ := uq z
    exact z7
  rw [if_pos q6]
  right
  have gj : GR k (r + q - 1) (fun x => G (imN k r F q x)) := ⟨g1, g2, by omega, q6, fun w _ => gG _ (imN_lt g q w)⟩
  obtain ⟨m1, m2, m3, m4, m5⟩ := gj.nums
  have E0 : ∀ u, (h1.set 24 u)[20]? = some (mob 0 (nI tl) sz (nI ol) (nI rd)) := fun u => st_n' (by decide) e0
  have E3 : ∀ u, (h1.set 24 u)[23]? = some (aC 0 6 wdf) := fun u => st_n' (by decide) e3
  generalize hH : (fun x => G (imN k r F q x)) = H at gj
  have hHw : ∀ x, H x = G (imN k r F q x) := fun x => by rw [← hH]
  have key := upto (fun f x => fX7_join_w89 f 20 (nI i0) (nI i1) (nI j) (nI k) (nI q) (nI (r + q - 1)) (nI x) (h1.set 24 (aC 0 189 (drF tbf H x)))) (k ^ (r + q - 1)) (fX7_join_b184 20 (nI j) (nI k) (nI (r + q - 1)) (h1.set 24 (aC 0 189 (drF tbf H (k ^ (r + q - 1)))))) (fun f x hx => by
    have him := imN_lt g q x
    rw [fX7_join_w89]
    simp only []
    rw [mpower (by omega) (by omega), call_ok, if_leI (by omega) (by omega), if_neg (by omega)]
    have inner := upto (fun f2 i => fX7_join_w107 (fX7_join_w89 f) f2 20 (nI i0) (nI i1) (nI j) (nI k) (nI q) (nI (r + q - 1)) (nI x) (nI (cd k (fun j => F (x / k ^ (q - 1 - j) % k ^ r)) i)) (nI i) (h1.set 24 (aC 0 189 (drF tbf H x)))) q (fX7_join_b160 (fX7_join_w89 f) 20 (nI i0) (nI i1) (nI j) (nI k) (nI q) (nI (r + q - 1)) (nI x) (nI (imN k r F q x)) (h1.set 24 (aC 0 189 (drF tbf H x)))) (fun f2 i hi => by
      have hm : x / k ^ (q - 1 - i) % k ^ r < k ^ r := Nat.mod_lt _ (kpow_pos g r)
      have hle : x / k ^ (q - 1 - i) ≤ x := Nat.div_le_self _ _
      have hp := kpow_pos g (q - 1 - i)
      have hpl := pow_le g' (show q - 1 - i ≤ q by omega)
      rw [fX7_join_w107]
      simp only []
      rw [if_leI (by omega) (by omega), if_neg (by omega), i_sub1 (by omega), pk_sub (by omega), mpower (by omega) (by omega), call_ok, iDiv_nI (by omega) hp (by omega), o_5 (E0 _)]
      simp only [Option.bind_some]
      rw [aI_of (E3 _) hi0 (by decide), s2]
      simp only [Option.bind_some]
      rw [mpower (by omega) (by omega), call_ok, iRem_nI (by omega) (kpow_pos g r) (by omega), oo (E0 _), mtells (F := F) (E0 _) (st_s e4) g hi0 (fun w hw => by rw [drF_lo (by omega)]; exact s3 w hw) hm, call_ok, setv_ok, pk_mul, nI_add, nI_p1, cd, Nat.mul_comm k]) (fun f2 => by
      rw [fX7_join_w107]
      simp only []
      rw [if_leI (by omega) (by omega), if_pos (Nat.le_refl _)]
      rfl) 0 FUEL (by omega) (fuel_big (by omega))
    refine Eq.trans (show fX7_join_w107 (fX7_join_w89 f) FUEL 20 (nI i0) (nI i1) (nI j) (nI k) (nI q) (nI (r + q - 1)) (nI x) (nI 0) (nI 0) _ = _ from inner) ?_
    unfold fX7_join_b160
    rw [o_6 (E0 _)]
    simp only [Option.bind_some]
    rw [oo (E0 _), mtells (F := G) (E0 _) (st_s e4) g' hi1 (fun w hw => by rw [drF_lo (by omega)]; exact t3 w hw) him, call_ok, show (162 : Int32) = nI 162 from rfl, nI_add, sI_of (by decide) (st_s e4) (by omega) (by decide), x_nar0]
    simp only [Option.bind_some]
    rw [List.set_set, nI_p1, ← hHw, drF_s]) (fun f => by
    rw [fX7_join_w89]
    simp only []
    rw [mpower (by omega) (by omega), call_ok, if_leI (by omega) (by omega), if_pos (Nat.le_refl _)]) 0 FUEL (by omega) (fuel_big (by omega))
  rw [drF_0, st_id e4] at key
  obtain ⟨I4, d4⟩ := I1.draft e4 (tbf2 := drF tbf H (k ^ (r + q - 1))) (fun x hx => drF_lo hx)
  obtain ⟨h5, y1, I5, d5⟩ := I4.lay (st_s e4) gj hj (fun w hw => drF_hi hw)
  refine ⟨k, r, q, F, G, j, h5, ⟨q0, q1, hj, rfl, q6⟩, g, g', ?_, by rw [hH]; exact I5, (d1.tn d4).tn d5⟩
  refine Eq.trans (show fX7_join_w89 FUEL 20 (nI i0) (nI i1) (nI j) (nI k) (nI q) (nI (r + q - 1)) (nI 0) h1 = _ from key) ?_
  unfold fX7_join_b184
  rw [oo (E0 _), y1]
  rfl
end MJ

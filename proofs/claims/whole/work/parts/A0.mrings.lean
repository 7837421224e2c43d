section MRB
variable {h : Hp} {thr sz : Int32} {tl : Nat} {tp : Nat → Nat} {sl : SL} {ol : Nat} {of : Nat → Nat} {rd : Nat}
theorem sm_eq0 {f : Nat → Nat} {n : Nat} (h : sm f n = 0) : ∀ v, v < n → f v = 0 := fun v hv => by
  have := sm_part (f := f) hv
  omega
theorem m_ringsBehind (I : MInv h thr sz tl tp sl ol of rd) (s : Int32) : ((∀ k r F, ruleOf sl s = some (k, r, F) → ¬ Few k tl tp) ∧ ∃ h', fX7_ringsBehind h 20 s = some (-1, h') ∧ MInv h' 0 (nI tl) 0 tp sl ol of rd ∧ Dn h h') ∨ (∃ k r F h', ruleOf sl s = some (k, r, F) ∧ GR k r F ∧ Few k tl tp ∧ fX7_ringsBehind h 20 s = some (lN (nRng k r F tl tp), h') ∧ MInv h' 0 (nI tl) 0 tp sl (if nRng k r F tl tp = 0 then ol else tl) (if nRng k r F tl tp = 0 then of else fRng k r F tl tp) rd ∧ Dn h h') := by
  obtain ⟨h1, c1, I1, d1⟩ := I.begin
  obtain ⟨h3, tpf, c2, I3, d2, f1, ft, htl⟩ := I1.taken
  obtain ⟨_, _, _, _, _, e00, -⟩ := id I1
  obtain ⟨tpf', stf, wdf, tbf, otf, e0, a1, a2, a3, e1, b1, e2, e3, e4, b2, e5, b3, Fx⟩ := id I3
  have d := d1.tn d2
  unfold fX7_ringsBehind
  rw [c1]
  simp only [Option.bind_some]
  rw [oo e00, c2]
  simp only [Option.bind_some]
  rw [oo e0]
  rcases mhas e0 e2 b2 s with ⟨q, e⟩ | ⟨j, k, r, F, hj, rfl, q, e, g, s1, s2, s3⟩
  · left
    rw [e, call_ok, if_pos rfl]
    exact ⟨(fun k r F h9 => by rw [q] at h9; cases h9), h3, rfl, I3, d⟩
  obtain ⟨n1, n2, n3, n4, n5⟩ := g.nums
  obtain ⟨g1, g2, g3, g4, gF⟩ := id g
  rw [e, call_ok, if_neg one_ne, oo e0]
  have hA := areStates_m e0 f1 e2 hj s1 g2 htl ft (lo := 1) (hi := 20) (by decide) (by decide)
  rw [← l1, ← show (20 : Int32) = nI 20 from rfl] at hA
  rcases hA with ⟨z1, z2⟩ | ⟨z1, z2⟩
  case inr =>
    left
    rw [z2, call_ok, if_pos rfl]
    exact ⟨fun k' r' F' h9 h8 => by rw [q] at h9; cases h9; exact z1 h8, h3, rfl, I3, d⟩
  right
  have hfew : Few k tl tp := z1
  obtain ⟨y1, y2, y3⟩ := z1
  have hc : ∀ i, i < tl → tpf i = nI (tp i) ∧ tp i < 1000 := fun i hi => by
    have := y3 i hi
    rw [(ft i hi).1, byM_small _ (by omega)]
    exact ⟨rfl, by omega⟩
  rw [z2, call_ok, if_neg one_ne]
  have qs : sl j = some (k, r, F) := by rw [ruleOf_j hj] at q; exact q
  generalize hW : (fun v => wy k (k ^ (r - 1)) F tp (gvN v) tl 0 v) = w
  have hWv : ∀ v, w v = wy k (k ^ (r - 1)) F tp (gvN v) tl 0 v := fun v => by rw [← hW]
  have hwb : ∀ v, w v ≤ k ^ tl := fun v => by rw [hWv]; exact wy_le (gvN_le v) tl 0 v
  have hnr : nRng k r F tl tp = sm w (k ^ (r - 1)) := by rw [← hW]; rfl
  have hbs : ∀ i, i ≤ 9 → sm w i < 2 ^ 50 := fun i hi => nSm_lt g2 hi y2 (fun v _ => hwb v)
  have key := uptoI (fun q i H => fX7_ringsBehind_w37 q 20 (nI j) (lN (sm w i)) (nI i) H) (k ^ (r - 1)) (fun i H => MInv H 0 (nI tl) 0 tp sl (if sm w i = 0 then ol else tl) (if sm w i = 0 then of else fRng k r F tl tp) rd ∧ Dn h H ∧ H[21]? = some (aC 1 100 tpf)) (by
    rintro fu i H hi ⟨J, D, K1⟩
    have K0 := J.obj
    obtain ⟨stf, wdf, tbf, K2, K3, K4, s1, s2, s3⟩ := J.slot hj qs
    obtain ⟨wf0, K28⟩ := J.fx.r28
    have hbi := hbs i (by omega)
    have hwi := hwb i
    have h40 := pow_40 g2 y2
    obtain ⟨f', t1, t2⟩ := count_m g K0 K1 K2 K3 K4 hj s1 s2 s3 K28 (c := tp) (G := gvN i) y2 hc (goal := nI i) (fun v hv => ⟨fun z => by
        rcases z with z | z
        · exact absurd z (nI_nn (by omega))
        · have := (nI_eq (by omega) (by omega)).mp z
          simp [gvN, this], fun z => by
        have hne : v ≠ i := fun y => z (Or.inr (by rw [y]))
        simp [gvN, hne]⟩)
    have hfw := t2 0 i (by omega) hi
    rw [Nat.sub_zero, Nat.zero_mul, Nat.zero_add, ← hWv] at hfw
    generalize hH2 : H.set 28 (lC 189 f') = H2 at t1
    have L0 : H2[20]? = some (mob 0 (nI 0) (nI tl) (nI (if sm w i = 0 then ol else tl)) (nI rd)) := by rw [← hH2]; exact st_n' (by decide) K0
    have L1 : H2[21]? = some (aC 1 100 tpf) := by rw [← hH2]; exact st_n' (by decide) K1
    have L2 : H2[22]? = some (aC 0 6 stf) := by rw [← hH2]; exact st_n' (by decide) K2
    have L3 : H2[23]? = some (aC 0 6 wdf) := by rw [← hH2]; exact st_n' (by decide) K3
    have L4 : H2[24]? = some (aC 0 189 tbf) := by rw [← hH2]; exact st_n' (by decide) K4
    have L28 : H2[28]? = some (lC 189 f') := by rw [← hH2]; exact st_s K28
    have LI : MInv H2 0 (nI tl) 0 tp sl (if sm w i = 0 then ol else tl) (if sm w i = 0 then of else fRng k r F tl tp) rd := by
      rw [← hH2]
      exact J.scr (fun i h1 h2 => st_n (by omega)) J.fx.s28
    have LD : Dn h H2 := by rw [← hH2]; exact D.st (by decide)
    have hbeg : ∀ X, X = (if w i = 0 then fX7_ringsBehind_w37 fu 20 (nI j) (lN (sm w i)) (nI (i + 1)) H2 else (if (lg_cmp (lN (sm w i)) (0 : Int64)) = 0 then ((oK H2 20 7 (fX7_first H2 20 (nI j) (nI i))).bind fun h8 => (gI h8 20 7 3).bind fun v9 => (pF h8 20 7 8 (vI v9)).bind fun h10 => fX7_ringsBehind_w93 (fX7_ringsBehind_w37 fu) FUEL 20 (nI j) (lN (sm w i)) (nI i) (0 : Int32) h10) else (fX7_ringsBehind_b123 (fX7_ringsBehind_w37 fu) 20 (nI j) (lN (sm w i)) (nI i) H2))) → fX7_ringsBehind_w37 (fu + 1) 20 (nI j) (lN (sm w i)) (nI i) H = X := by
      rintro X rfl
      rw [fX7_ringsBehind_w37]
      simp only []
      rw [oo K0, overlaps_m g K0 K2 K3 hj s1 s2, call_ok, if_leI (by omega) (by omega), if_neg (by omega), oo K0, t1]
      simp only [Option.bind_some]
      rw [o_11 L0]
      simp only [Option.bind_some]
      rw [aL_of (by decide) L28 (by omega) (by decide), hfw]
      simp only [Option.bind_some]
      by_cases x : w i = 0
      · rw [if_pos ((lN_eq0 (by omega)).mpr x), if_pos x]
        unfold fX7_ringsBehind_b133
        rw [nI_p1]
      · rw [if_neg (fun y => x ((lN_eq0 (by omega)).mp y)), if_neg x]
    have hs1 : sm w (i + 1) = sm w i + w i := rfl
    -- the end of a round of the loop
    have fin : ∀ H', H'[20]? = some (mob 0 (nI 0) (nI tl) (nI tl) (nI rd)) → H'[28]? = some (lC 189 f') → fX7_ringsBehind_b123 (fX7_ringsBehind_w37 fu) 20 (nI j) (lN (sm w i)) (nI i) H' = fX7_ringsBehind_w37 fu 20 (nI j) (lN (sm w (i + 1))) (nI (i + 1)) H' := by
      intro H' x0 x28
      unfold fX7_ringsBehind_b123
      rw [o_11 x0]
      simp only [Option.bind_some]
      rw [aL_of (by decide) x28 (by omega) (by decide), hfw]
      simp only [Option.bind_some]
      rw [setv_ok, lN_add]
      unfold fX7_ringsBehind_b133
      rw [nI_p1, hs1]
    by_cases x : w i = 0
    · refine ⟨H2, ?_, ?_, LD, L1⟩
      · refine hbeg _ ?_
        rw [if_pos x]
        show fX7_ringsBehind_w37 fu 20 (nI j) (lN (sm w (i + 1))) (nI (i + 1)) H2 = _
        rw [hs1, x, Nat.add_zero]
      · rw [hs1, x, Nat.add_zero]
        exact LI
    by_cases x2 : sm w i = 0
    · -- the first one
      have hpos : 0 < wy k (k ^ (r - 1)) F tp (gvN i) tl 0 i := by rw [← hWv]; omega
      have hv : fnd (fun v => 0 < wy k (k ^ (r - 1)) F tp (gvN v) tl 0 v) 0 (k ^ (r - 1)) 0 = i := fnd_eq (p := fun v => 0 < wy k (k ^ (r - 1)) F tp (gvN v) tl 0 v) hpos _ _ (Nat.zero_le _) (by omega) (fun u _ hu z => by
        have := sm_eq0 x2 u hu
        rw [hWv] at this
        omega)
      have hb : (fun j => frN k r F tp (gvN i) tl i j) = fRng k r F tl tp := by
        unfold fRng
        rw [hv]
      have hbw : ∀ x, fRng k r F tl tp x < k := fun x => by
        rw [← hb]
        exact frN_lt (by omega)
      rw [x2] at L0
      rw [if_pos rfl] at L0
      obtain ⟨cf, L6⟩ := LI.fx.r26
      have hfm := first_m g L0 L1 L2 L3 L4 hj s1 s2 s3 L28 L6 y2 hc (G := gvN i) (gvN_le i) t2 hi hpos
      have hfe : (fun j => nI (frN k r F tp (gvN i) tl i j)) = fun j => nI (fRng k r F tl tp j) := by rw [← hb]
      rw [hfe] at hfm
      generalize hcf1 : fillN (fun j => nI (fRng k r F tl tp j)) (r - 1 + tl) cf = cf1 at hfm
      have hcw : ∀ x, x < tl → cf1 x = nI (fRng k r F tl tp x) := fun x hx => by rw [← hcf1]; simp [fillN, show x < r - 1 + tl by omega]
      have N0 : (H2.set 26 (aC 0 100 cf1))[20]? = some (mob 0 (nI 0) (nI tl) (nI ol) (nI rd)) := st_n' (by decide) L0
      obtain ⟨tpf2, stf2, wdf2, tbf2, otf2, -, -, -, -, -, -, -, -, -, -, L5, -, -⟩ := id LI
      have E0 : ∀ u, (((H2.set 26 (aC 0 100 cf1)).set 20 (mob 0 (nI 0) (nI tl) (nI tl) (nI rd))).set 25 u)[20]? = some (mob 0 (nI 0) (nI tl) (nI tl) (nI rd)) := fun u => st_n' (by decide) (st_s N0)
      have E6 : ∀ u, (((H2.set 26 (aC 0 100 cf1)).set 20 (mob 0 (nI 0) (nI tl) (nI tl) (nI rd))).set 25 u)[26]? = some (aC 0 100 cf1) := fun u => st_n' (by decide) (st_n' (by decide) (st_s L6))
      have E5 : ∀ u, (((H2.set 26 (aC 0 100 cf1)).set 20 (mob 0 (nI 0) (nI tl) (nI tl) (nI rd))).set 25 u)[25]? = some u := fun u => st_s (st_n' (by decide) (st_n' (by decide) L5))
      have E28 : ∀ u, (((H2.set 26 (aC 0 100 cf1)).set 20 (mob 0 (nI 0) (nI tl) (nI tl) (nI rd))).set 25 u)[28]? = some (lC 189 f') := fun u => st_n' (by decide) (st_n' (by decide) (st_n' (by decide) L28))
      have kc := upto (fun q2 x => fX7_ringsBehind_w93 (fX7_ringsBehind_w37 fu) q2 20 (nI j) (lN (sm w i)) (nI i) (nI x) (((H2.set 26 (aC 0 100 cf1)).set 20 (mob 0 (nI 0) (nI tl) (nI tl) (nI rd))).set 25 (aC 1 600 (fillN (fun j => nI (fRng k r F tl tp j)) x otf2)))) tl (fX7_ringsBehind_b123 (fX7_ringsBehind_w37 fu) 20 (nI j) (lN (sm w i)) (nI i) (((H2.set 26 (aC 0 100 cf1)).set 20 (mob 0 (nI 0) (nI tl) (nI tl) (nI rd))).set 25 (aC 1 600 (fillN (fun j => nI (fRng k r F tl tp j)) tl otf2)))) (fun q2 x hx => by
        have hB := hbw x
        rw [fX7_ringsBehind_w93]
        simp only []
        rw [o_3 (E0 _)]
        simp only [Option.bind_some]
        rw [if_leI (by omega) (by omega), if_neg (by omega), o_7 (E0 _)]
        simp only [Option.bind_some]
        rw [o_9 (E0 _)]
        simp only [Option.bind_some]
        rw [aI_of (E6 _) (by omega) (by decide), hcw x hx]
        simp only [Option.bind_some]
        rw [sI_of (by decide) (E5 _) (by omega) (by decide), byN _ (by omega)]
        simp only [Option.bind_some]
        rw [List.set_set, nI_p1, show upd (fillN (fun j => nI (fRng k r F tl tp j)) x otf2) x (nI (fRng k r F tl tp x)) = fillN (fun j => nI (fRng k r F tl tp j)) (x + 1) otf2 from fillN_s (f := fun j => nI (fRng k r F tl tp j))]) (fun q2 => by
        rw [fX7_ringsBehind_w93]
        simp only []
        rw [o_3 (E0 _)]
        simp only [Option.bind_some]
        rw [if_leI (by omega) (by omega), if_pos (Nat.le_refl _)]) 0 FUEL (by omega) (fuel_big (by omega))
      rw [fillN_0, st_id (st_n' (by decide) (st_n' (by decide) L5)), fin _ (E0 _) (E28 _)] at kc
      refine ⟨((H2.set 26 (aC 0 100 cf1)).set 20 (mob 0 (nI 0) (nI tl) (nI tl) (nI rd))).set 25 (aC 1 600 (fillN (fun j => nI (fRng k r F tl tp j)) tl otf2)), ?_, ?_, ((LD.st (by decide)).st (by decide)).st (by decide), st_n' (by decide) (st_n' (by decide) (st_n' (by decide) L1))⟩
      · refine hbeg _ ?_
        rw [if_neg x, if_pos ((lN_eq0 (by omega)).mpr x2), oo L0, hfm]
        simp only [Option.bind_some]
        rw [o_3 N0]
        simp only [Option.bind_some]
        rw [q_8 N0, Option.bind_some]
        exact (show fX7_ringsBehind_w93 (fX7_ringsBehind_w37 fu) FUEL 20 (nI j) (lN (sm w i)) (nI i) (nI 0) _ = _ from kc).symm
      · have hs2 : sm w (i + 1) ≠ 0 := by rw [hs1]; omega
        rw [if_neg hs2, if_neg hs2]
        refine LI.out ?_ (E0 _) (by omega) (E5 _) (fun y hy => ⟨by simp [fillN, hy], by have := hbw y; omega⟩) (((MFix.s26 LI.fx).o (by decide)).o (by decide))
        rintro y (rfl | rfl | rfl | rfl) <;> rw [st_n (by decide), st_n (by decide), st_n (by decide)]
    · refine ⟨H2, ?_, ?_, LD, L1⟩
      · refine hbeg _ ?_
        rw [if_neg x2] at L0
        rw [if_neg x, if_neg (fun y => x2 ((lN_eq0 (by omega)).mp y)), fin _ L0 L28]
      · have hs2 : sm w (i + 1) ≠ 0 := by rw [hs1]; omega
        rw [if_neg x2, if_neg x2] at LI
        rw [if_neg hs2, if_neg hs2]
        exact LI) 0 FUEL h3 (by omega) (fuel_big (by omega)) ⟨by rw [if_pos (show sm w 0 = 0 from rfl), if_pos (show sm w 0 = 0 from rfl)]; exact I3, d, f1⟩
  obtain ⟨fu, H, k1, J, D, K1⟩ := key
  have K0 := J.obj
  obtain ⟨stf, wdf, tbf, K2, K3, K4, s1, s2, s3⟩ := J.slot hj qs
  refine ⟨k, r, F, H, q, g, hfew, ?_, by rw [hnr]; exact J, D⟩
  refine Eq.trans (show fX7_ringsBehind_w37 FUEL 20 (nI j) (0 : Int64) (0 : Int32) h3 = _ from k1) ?_
  rw [fX7_ringsBehind_w37]
  simp only []
  rw [oo K0, overlaps_m g K0 K2 K3 hj s1 s2, call_ok, if_leI (by omega) (by omega), if_pos (Nat.le_refl _), hnr]
end MRB

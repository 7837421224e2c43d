section MBH
variable {h : Hp} {thr sz : Int32} {tl : Nat} {tp : Nat → Nat} {sl : SL} {ol : Nat} {of : Nat → Nat} {rd : Nat}
theorem m_behind (I : MInv h thr sz tl tp sl ol of rd) (s : Int32) : ((∀ k r F, ruleOf sl s = some (k, r, F) → ¬ Few k tl tp) ∧ ∃ h', fX7_behind h 20 s = some (-1, h') ∧ MInv h' 0 (nI tl) 0 tp sl ol of rd ∧ Dn h h') ∨ (∃ k r F h', ruleOf sl s = some (k, r, F) ∧ GR k r F ∧ Few k tl tp ∧ fX7_behind h 20 s = some (lN (nBeh k r F tl tp), h') ∧ MInv h' 0 (nI tl) 0 tp sl (if nBeh k r F tl tp = 0 then ol else r - 1 + tl) (if nBeh k r F tl tp = 0 then of else fBeh k r F tl tp) rd ∧ Dn h h') := by
  obtain ⟨h1, c1, I1, d1⟩ := I.begin
  obtain ⟨h3, tpf, c2, I3, d2, f1, ft, htl⟩ := I1.taken
  obtain ⟨_, _, _, _, _, e00, -⟩ := id I1
  obtain ⟨tpf', stf, wdf, tbf, otf, e0, a1, a2, a3, e1, b1, e2, e3, e4, b2, e5, b3, Fx⟩ := id I3
  have d := d1.tn d2
  unfold fX7_behind
  rw [c1]
  simp only [Option.bind_some]
  rw [oo e00, c2]
  simp only [Option.bind_some]
  rw [oo e0]
  rcases mhas e0 e2 b2 s with ⟨q, e⟩ | ⟨j, k, r, F, hj, rfl, q, e, g, s1, s2, s3⟩
  · left
    rw [e, call_ok, if_pos rfl]
    exact ⟨(fun k r F h9 => by rw [q] at h9; cases h9), h3, rfl, I3, d⟩
  obtain ⟨n1, n2, n3, n4, n5⟩ := g.nums
  obtain ⟨g1, g2, g3, g4, gF⟩ := id g
  rw [e, call_ok, if_neg one_ne, oo e0]
  have hA := areStates_m e0 f1 e2 hj s1 g2 htl ft (lo := 1) (hi := 20) (by decide) (by decide)
  rw [← l1, ← show (20 : Int32) = nI 20 from rfl] at hA
  rcases hA with ⟨z1, z2⟩ | ⟨z1, z2⟩
  case inr =>
    left
    rw [z2, call_ok, if_pos rfl]
    exact ⟨fun k' r' F' h9 h8 => by rw [q] at h9; cases h9; exact z1 h8, h3, rfl, I3, d⟩
  right
  have hfew : Few k tl tp := z1
  obtain ⟨y1, y2, y3⟩ := z1
  have hc : ∀ i, i < tl → tpf i = nI (tp i) ∧ tp i < 1000 := fun i hi => by
    have := y3 i hi
    rw [(ft i hi).1, byM_small _ (by omega)]
    exact ⟨rfl, by omega⟩
  obtain ⟨wf0, e28⟩ := Fx.r28
  obtain ⟨f', t1, t2⟩ := count_m g e0 f1 e2 e3 e4 hj s1 s2 s3 e28 (c := tp) (G := g1N) y2 hc (goal := -1) (fun v hv => ⟨fun _ => rfl, fun z => absurd (Or.inl (by decide)) z⟩)
  rw [z2, call_ok, if_neg one_ne, oo e0, t1]
  simp only [Option.bind_some]
  have hbd : nBeh k r F tl tp < 2 ^ 50 := nSm_lt g2 n2 y2 (fun v _ => wy_le (fun _ => Nat.le_refl _) tl 0 v)
  generalize hH : h3.set 28 (lC 189 f') = H
  have K0 : H[20]? = some (mob 0 (nI 0) (nI tl) (nI ol) (nI rd)) := by rw [← hH]; exact st_n' (by decide) e0
  have K1 : H[21]? = some (aC 1 100 tpf) := by rw [← hH]; exact st_n' (by decide) f1
  have K2 : H[22]? = some (aC 0 6 stf) := by rw [← hH]; exact st_n' (by decide) e2
  have K3 : H[23]? = some (aC 0 6 wdf) := by rw [← hH]; exact st_n' (by decide) e3
  have K4 : H[24]? = some (aC 0 189 tbf) := by rw [← hH]; exact st_n' (by decide) e4
  have K5 : H[25]? = some (aC 1 600 otf) := by rw [← hH]; exact st_n' (by decide) e5
  have K28 : H[28]? = some (lC 189 f') := by rw [← hH]; exact st_s e28
  have KI : MInv H 0 (nI tl) 0 tp sl ol of rd := by
    rw [← hH]
    exact I3.scr (fun i h1 h2 => st_n (by omega)) Fx.s28
  have KD : Dn h H := by rw [← hH]; exact d.st (by decide)
  have loop : ∀ i fuel (s : Int32), i ≤ k ^ (r - 1) → k ^ (r - 1) - i < fuel → (((∀ v, v < i → ¬ 0 < wy k (k ^ (r - 1)) F tp g1N tl 0 v) ∧ s = -1) ∨ ∃ v0, v0 < i ∧ 0 < wy k (k ^ (r - 1)) F tp g1N tl 0 v0 ∧ (∀ v, v < v0 → ¬ 0 < wy k (k ^ (r - 1)) F tp g1N tl 0 v) ∧ s = nI v0) → ∃ s' : Int32, fX7_behind_w46 fuel 20 (nI j) (lN (sm (wy k (k ^ (r - 1)) F tp g1N tl 0) i)) s (nI i) H = fX7_behind_b93 20 (nI j) (lN (nBeh k r F tl tp)) s' H ∧ (((∀ v, v < k ^ (r - 1) → ¬ 0 < wy k (k ^ (r - 1)) F tp g1N tl 0 v) ∧ s' = -1) ∨ ∃ v0, v0 < k ^ (r - 1) ∧ 0 < wy k (k ^ (r - 1)) F tp g1N tl 0 v0 ∧ (∀ v, v < v0 → ¬ 0 < wy k (k ^ (r - 1)) F tp g1N tl 0 v) ∧ s' = nI v0) := by
    intro i fuel s hi hf
    generalize hd : k ^ (r - 1) - i = dd at hf
    induction dd generalizing i fuel s with
    | zero =>
      intro hs
      obtain ⟨fu, rfl⟩ : ∃ fu, fuel = fu + 1 := ⟨fuel - 1, by omega⟩
      have hie : i = k ^ (r - 1) := by omega
      subst hie
      refine ⟨s, ?_, hs⟩
      rw [fX7_behind_w46]
      simp only []
      rw [oo K0, overlaps_m g K0 K2 K3 hj s1 s2, call_ok, if_leI (by omega) (by omega), if_pos (Nat.le_refl _)]
      rfl
    | succ dd ih =>
      intro hs
      obtain ⟨fu, rfl⟩ : ∃ fu, fuel = fu + 1 := ⟨fuel - 1, by omega⟩
      have hfw := t2 0 i (by omega) (by omega)
      rw [Nat.sub_zero, Nat.zero_mul, Nat.zero_add] at hfw
      have hbw : wy k (k ^ (r - 1)) F tp g1N tl 0 i < 2 ^ 63 := by
        have b1 := wy_le (k := k) (m := k ^ (r - 1)) (F := F) (c := tp) (G := g1N) (fun _ => Nat.le_refl _) tl 0 i
        have b2 := pow_40 g2 y2
        omega
      obtain ⟨u1, u2⟩ := first_step (p := fun v => 0 < wy k (k ^ (r - 1)) F tp g1N tl 0 v) (show i < 1000 by omega) hs
      have hst : fX7_behind_w46 (fu + 1) 20 (nI j) (lN (sm (wy k (k ^ (r - 1)) F tp g1N tl 0) i)) s (nI i) H = fX7_behind_w46 fu 20 (nI j) (lN (sm (wy k (k ^ (r - 1)) F tp g1N tl 0) (i + 1))) (if s = -1 ∧ 0 < wy k (k ^ (r - 1)) F tp g1N tl 0 i then nI i else s) (nI (i + 1)) H := by
        rw [fX7_behind_w46]
        simp only []
        rw [oo K0, overlaps_m g K0 K2 K3 hj s1 s2, call_ok, if_leI (by omega) (by omega), if_neg (by omega), o_11 K0]
        simp only [Option.bind_some]
        rw [aL_of (by decide) K28 (by omega) (by decide), hfw]
        simp only [Option.bind_some]
        rw [setv_ok, lN_add]
        unfold fX7_behind_b87
        rw [nI_p1]
        have hsm : sm (wy k (k ^ (r - 1)) F tp g1N tl 0) i + wy k (k ^ (r - 1)) F tp g1N tl 0 i = sm (wy k (k ^ (r - 1)) F tp g1N tl 0) (i + 1) := rfl
        rw [hsm]
        by_cases x1 : s = -1
        · rw [x1, if_neg (by decide)]
          by_cases x2 : wy k (k ^ (r - 1)) F tp g1N tl 0 i = 0
          · rw [if_pos ((lN_le0 hbw).mpr x2), if_neg (fun z => by omega)]
          · rw [if_neg (fun z => x2 ((lN_le0 hbw).mp z)), if_pos ⟨rfl, by omega⟩]
        · have hs0 : 0 ≤ s := by
            rcases hs with ⟨-, x3⟩ | ⟨v0, x3, -, -, x4⟩
            · exact absurd x3 x1
            · rw [x4]; exact nI_pos' (by omega)
          rw [if_pos hs0, if_neg (fun z => x1 z.1)]
      rw [hst]
      refine ih (i + 1) fu _ (by omega) (by omega) (by omega) ?_
      by_cases x1 : s = -1 ∧ 0 < wy k (k ^ (r - 1)) F tp g1N tl 0 i
      · rw [if_pos x1]; exact u1 x1
      · rw [if_neg x1]; exact u2 x1
  obtain ⟨s', k1, k2⟩ := loop 0 FUEL (-1) (by omega) (fuel_big (by omega)) (Or.inl ⟨fun v hv => by omega, rfl⟩)
  have k1' : fX7_behind_w46 FUEL 20 (nI j) (0 : Int64) (-1 : Int32) (0 : Int32) H = fX7_behind_b93 20 (nI j) (lN (nBeh k r F tl tp)) s' H := k1
  rw [k1']
  unfold fX7_behind_b93
  rcases k2 with ⟨x1, rfl⟩ | ⟨v0, x1, x2, x3, rfl⟩
  · have hz : nBeh k r F tl tp = 0 := sm_no x1
    refine ⟨k, r, F, H, q, g, hfew, ?_, ?_, KD⟩
    · rw [if_pos ((lN_eq0 (by omega)).mpr hz), hz]
      rfl
    · rw [if_pos hz, if_pos hz]
      exact KI
  · have hz : nBeh k r F tl tp ≠ 0 := by
      have h1 := sm_part (f := wy k (k ^ (r - 1)) F tp g1N tl 0) x1
      unfold nBeh
      omega
    have hv : fnd (fun v => 0 < wy k (k ^ (r - 1)) F tp g1N tl 0 v) 0 (k ^ (r - 1)) 0 = v0 := fnd_eq (p := fun v => 0 < wy k (k ^ (r - 1)) F tp g1N tl 0 v) x2 _ _ (Nat.zero_le _) (by omega) (fun u _ hu => x3 u hu)
    have hb : (fun j => frN k r F tp g1N tl v0 j) = fBeh k r F tl tp := by
      unfold fBeh
      rw [hv]
    have hbw : ∀ i, fBeh k r F tl tp i < k := fun i => by
      rw [← hb]
      exact frN_lt (by omega)
    obtain ⟨cf, K6⟩ := KI.fx.r26
    have hfm := first_m g K0 K1 K2 K3 K4 hj s1 s2 s3 K28 K6 y2 hc (G := g1N) (fun _ => Nat.le_refl _) t2 x1 x2
    have hfe : (fun j => nI (frN k r F tp g1N tl v0 j)) = fun j => nI (fBeh k r F tl tp j) := by rw [← hb]
    rw [hfe] at hfm
    rw [if_neg (fun y => hz ((lN_eq0 (by omega)).mp y)), oo K0, hfm]
    simp only [Option.bind_some]
    generalize hcf1 : fillN (fun j => nI (fBeh k r F tl tp j)) (r - 1 + tl) cf = cf1
    have hcw : ∀ i, i < r - 1 + tl → cf1 i = nI (fBeh k r F tl tp i) := fun i hi => by rw [← hcf1]; simp [fillN, hi]
    have L0 : (H.set 26 (aC 0 100 cf1))[20]? = some (mob 0 (nI 0) (nI tl) (nI ol) (nI rd)) := st_n' (by decide) K0
    rw [o_3 L0]
    simp only [Option.bind_some]
    rw [o_5 L0]
    simp only [Option.bind_some]
    rw [aI_of (st_n' (by decide) K3) hj (by decide), s2]
    simp only [Option.bind_some]
    rw [nI_add, i_sub1 (by omega), show tl + r - 1 = r - 1 + tl by omega, q_8 L0]
    simp only [Option.bind_some]
    have E0 : ∀ u, (((H.set 26 (aC 0 100 cf1)).set 20 (mob 0 (nI 0) (nI tl) (nI (r - 1 + tl)) (nI rd))).set 25 u)[20]? = some (mob 0 (nI 0) (nI tl) (nI (r - 1 + tl)) (nI rd)) := fun u => st_n' (by decide) (st_s L0)
    have E6 : ∀ u, (((H.set 26 (aC 0 100 cf1)).set 20 (mob 0 (nI 0) (nI tl) (nI (r - 1 + tl)) (nI rd))).set 25 u)[26]? = some (aC 0 100 cf1) := fun u => st_n' (by decide) (st_n' (by decide) (st_s K6))
    have E5 : ∀ u, (((H.set 26 (aC 0 100 cf1)).set 20 (mob 0 (nI 0) (nI tl) (nI (r - 1 + tl)) (nI rd))).set 25 u)[25]? = some u := fun u => st_s (st_n' (by decide) (st_n' (by decide) K5))
    have key := upto (fun q i => fX7_behind_w128 q 20 (lN (nBeh k r F tl tp)) (nI i) (((H.set 26 (aC 0 100 cf1)).set 20 (mob 0 (nI 0) (nI tl) (nI (r - 1 + tl)) (nI rd))).set 25 (aC 1 600 (fillN (fun j => nI (fBeh k r F tl tp j)) i otf)))) (r - 1 + tl) (some (lN (nBeh k r F tl tp), ((H.set 26 (aC 0 100 cf1)).set 20 (mob 0 (nI 0) (nI tl) (nI (r - 1 + tl)) (nI rd))).set 25 (aC 1 600 (fillN (fun j => nI (fBeh k r F tl tp j)) (r - 1 + tl) otf)))) (fun q i hi => by
      have hB := hbw i
      rw [fX7_behind_w128]
      simp only []
      rw [o_8 (E0 _)]
      simp only [Option.bind_some]
      rw [if_leI (by omega) (by omega), if_neg (by omega), o_7 (E0 _)]
      simp only [Option.bind_some]
      rw [o_9 (E0 _)]
      simp only [Option.bind_some]
      rw [aI_of (E6 _) (by omega) (by decide), hcw i hi]
      simp only [Option.bind_some]
      rw [sI_of (by decide) (E5 _) (by omega) (by decide), byN _ (by omega)]
      simp only [Option.bind_some]
      rw [List.set_set, nI_p1, show upd (fillN (fun j => nI (fBeh k r F tl tp j)) i otf) i (nI (fBeh k r F tl tp i)) = fillN (fun j => nI (fBeh k r F tl tp j)) (i + 1) otf from fillN_s (f := fun j => nI (fBeh k r F tl tp j))]) (fun q => by
      rw [fX7_behind_w128]
      simp only []
      rw [o_8 (E0 _)]
      simp only [Option.bind_some]
      rw [if_leI (by omega) (by omega), if_pos (Nat.le_refl _)]) 0 FUEL (by omega) (fuel_big (by omega))
    rw [fillN_0, st_id (st_n' (by decide) (st_n' (by decide) K5))] at key
    refine ⟨k, r, F, _, q, g, hfew, key, ?_, ((KD.st (by decide)).st (by decide)).st (by decide)⟩
    rw [if_neg hz, if_neg hz]
    refine KI.out ?_ (E0 _) (by omega) (E5 _) (fun i hi => ⟨by simp [fillN, hi], by have := hbw i; omega⟩) (((MFix.s26 KI.fx).o (by decide)).o (by decide))
    rintro i (rfl | rfl | rfl | rfl) <;> rw [st_n (by decide), st_n (by decide), st_n (by decide)]
end MBH

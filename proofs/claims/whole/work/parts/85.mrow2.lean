section MS
variable {h : Hp} {thr sz : Int32} {tl : Nat} {tp : Nat → Nat} {sl : SL} {ol : Nat} {of : Nat → Nat} {rd : Nat}
theorem step_m {thr tl' om rd' sz : Int32} {n : Nat} {stf wdf tbf : Nat → Int32} {j k r : Nat} {F : Nat → Nat} (g : GR k r F) (e0 : h[20]? = some (mob thr tl' sz om rd')) (e2 : h[22]? = some (aC 0 6 stf)) (e3 : h[23]? = some (aC 0 6 wdf)) (e4 : h[24]? = some (aC 0 189 tbf)) (hj : j < 6) (s1 : stf j = nI k) (s2 : wdf j = nI r) (s3 : ∀ w, w < k ^ r → tbf (27 * j + w) = nI (F w)) {cf nf : Nat → Int32} {c : Nat → Nat} (e6 : h[26]? = some (aC 0 100 cf)) (e7 : h[27]? = some (aC 0 100 nf)) (hn : 0 < n) (hn2 : n ≤ 100) (hc : ∀ i, i < n → c i < k) (hcf : ∀ i, i < n → cf i = nI (c i)) : fX7_step h 20 (nI j) (nI n) = some ((h.set 27 (aC 0 100 (fillN (fun i => nI (F (wd k c n r i))) n nf))).set 26 (aC 0 100 (fillN (fillN (fun i => nI (F (wd k c n r i))) n nf) n cf))) := by
  unfold fX7_step
  have key := upto (fun q i => fX7_step_w2 q 20 (nI j) (nI n) (nI i) (h.set 27 (aC 0 100 (fillN (fun i => nI (F (wd k c n r i))) i nf)))) n (fX7_step_b26 20 (nI n) (h.set 27 (aC 0 100 (fillN (fun i => nI (F (wd k c n r i))) n nf)))) (fun q i hi => by
    have E0 : ∀ u, (h.set 27 u)[20]? = some (mob thr tl' sz om rd') := fun u => st_n' (by decide) e0
    rw [fX7_step_w2]
    simp only []
    rw [if_leI (by omega) (by omega), if_neg (by omega), o_10 (E0 _)]
    simp only [Option.bind_some]
    rw [oo (E0 _), leadsTo_m g (E0 _) (st_n' (by decide) e2) (st_n' (by decide) e3) (st_n' (by decide) e4) hj s1 s2 s3 (st_n' (by decide) e6) hn hn2 hc hcf (by omega), call_ok, sI_of (by decide) (st_s e7) (by omega) (by decide), x_nar0]
    simp only [Option.bind_some]
    rw [List.set_set, nI_p1, show upd (fillN (fun i => nI (F (wd k c n r i))) i nf) i (nI (F (wd k c n r i))) = fillN (fun i => nI (F (wd k c n r i))) (i + 1) nf from fillN_s (f := fun i => nI (F (wd k c n r i)))]) (fun q => by
    rw [fX7_step_w2]
    simp only []
    rw [if_leI (by omega) (by omega), if_pos (Nat.le_refl _)]) 0 FUEL (by omega) (fuel_big (by omega))
  rw [fillN_0, st_id e7] at key
  rw [l0]
  refine Eq.trans key ?_
  unfold fX7_step_b26
  generalize hG : fillN (fun i => nI (F (wd k c n r i))) n nf = G
  have E0 : ∀ u, ((h.set 27 (aC 0 100 G)).set 26 u)[20]? = some (mob thr tl' sz om rd') := fun u => st_n' (by decide) (st_n' (by decide) e0)
  have E7 : ∀ u, ((h.set 27 (aC 0 100 G)).set 26 u)[27]? = some (aC 0 100 G) := fun u => st_n' (by decide) (st_s e7)
  have key2 := upto (fun q i => fX7_step_w28 q 20 (nI n) (nI i) ((h.set 27 (aC 0 100 G)).set 26 (aC 0 100 (fillN G i cf)))) n (some ((h.set 27 (aC 0 100 G)).set 26 (aC 0 100 (fillN G n cf)))) (fun q i hi => by
    rw [fX7_step_w28]
    simp only []
    rw [if_leI (by omega) (by omega), if_neg (by omega), o_9 (E0 _)]
    simp only [Option.bind_some]
    rw [o_10 (E0 _)]
    simp only [Option.bind_some]
    rw [aI_of (E7 _) (by omega) (by decide)]
    simp only [Option.bind_some]
    rw [sI_of (by decide) (st_s (st_n' (by decide) e6)) (by omega) (by decide), x_nar0]
    simp only [Option.bind_some]
    rw [List.set_set, fillN_s, nI_p1]) (fun q => by
    rw [fX7_step_w28]
    simp only []
    rw [if_leI (by omega) (by omega), if_pos (Nat.le_refl _)]) 0 FUEL (by omega) (fuel_big (by omega))
  rw [fillN_0, st_id (st_n' (by decide) e6)] at key2
  rw [l0]
  exact key2
theorem m_row (I : MInv h thr sz tl tp sl ol of rd) (s : Int32) : ((∀ k r F, ruleOf sl s = some (k, r, F) → ¬ (r ≤ tl ∧ Sts k tl tp)) ∧ ∃ h', fX7_row h 20 s = some (-1, h') ∧ MInv h' 0 (nI tl) 0 tp sl ol of rd ∧ Dn h h') ∨ (∃ k r F h', ruleOf sl s = some (k, r, F) ∧ GR k r F ∧ r ≤ tl ∧ Sts k tl tp ∧ fX7_row h 20 s = some (nI (tl - r + 1), h') ∧ MInv h' 0 (nI tl) 0 tp sl (tl - r + 1) (fun i => F (wd k tp tl r i)) rd ∧ Dn h h') := by
  obtain ⟨h1, c1, I1, d1⟩ := I.begin
  obtain ⟨h3, tpf, c2, I3, d2, f1, ft, htl⟩ := I1.taken
  obtain ⟨_, _, _, _, _, e00, -⟩ := id I1
  obtain ⟨tpf', stf, wdf, tbf, otf, e0, a1, a2, a3, e1, b1, e2, e3, e4, b2, e5, b3, Fx⟩ := id I3
  have d := d1.tn d2
  unfold fX7_row
  rw [c1]
  simp only [Option.bind_some]
  rw [oo e00, c2]
  simp only [Option.bind_some]
  rw [oo e0]
  rcases mhas e0 e2 b2 s with ⟨q, e⟩ | ⟨j, k, r, F, hj, rfl, q, e, g, s1, s2, s3⟩
  · left
    rw [e, call_ok, if_pos rfl]
    exact ⟨(fun k r F h9 => by rw [q] at h9; cases h9), h3, rfl, I3, d⟩
  obtain ⟨n1, n2, n3, n4, n5⟩ := g.nums
  obtain ⟨g1, g2, g3, g4, gF⟩ := id g
  rw [e, call_ok, if_neg one_ne, o_5 e0]
  simp only [Option.bind_some]
  rw [aI_of e3 hj (by decide), s2]
  simp only [Option.bind_some]
  rw [oo e0, show (100 : Int32) = nI 100 from rfl]
  rcases areStates_m e0 f1 e2 hj s1 g2 htl ft (lo := r) (hi := 100) (by omega) (by decide) with ⟨z1, z2⟩ | ⟨z1, z2⟩
  · right
    obtain ⟨cf, e6⟩ := Fx.r26
    rw [z2, call_ok, if_neg one_ne, oo e0, takeCells_m e0 f1 e6 htl]
    simp only [Option.bind_some]
    have E0 := st_n' (c := aC 0 100 (fillN tpf tl cf)) (show (26 : Nat) ≠ 20 by decide) e0
    rw [o_3 E0]
    simp only [Option.bind_some]
    rw [o_5 E0]
    simp only [Option.bind_some]
    rw [aI_of (st_n' (by decide) e3) hj (by decide), s2]
    simp only [Option.bind_some]
    rw [pk_sub z1.1, nI_p1, q_8 E0]
    simp only [Option.bind_some]
    generalize hB : (h3.set 26 (aC 0 100 (fillN tpf tl cf))).set 20 (mob 0 (nI 0) (nI tl) (nI (tl - r + 1)) (nI rd)) = hb
    have k0 : hb[20]? = some (mob 0 (nI 0) (nI tl) (nI (tl - r + 1)) (nI rd)) := by rw [← hB]; exact st_s E0
    have k1 : hb[21]? = some (aC 1 100 tpf') := by rw [← hB]; exact st_n' (by decide) (st_n' (by decide) e1)
    have k2 : hb[22]? = some (aC 0 6 stf) := by rw [← hB]; exact st_n' (by decide) (st_n' (by decide) e2)
    have k3 : hb[23]? = some (aC 0 6 wdf) := by rw [← hB]; exact st_n' (by decide) (st_n' (by decide) e3)
    have k4 : hb[24]? = some (aC 0 189 tbf) := by rw [← hB]; exact st_n' (by decide) (st_n' (by decide) e4)
    have k5 : hb[25]? = some (aC 1 600 otf) := by rw [← hB]; exact st_n' (by decide) (st_n' (by decide) e5)
    have k6 : hb[26]? = some (aC 0 100 (fillN tpf tl cf)) := by rw [← hB]; exact st_n' (by decide) (st_s e6)
    have kF : MFix hb := by rw [← hB]; exact (MFix.s26 Fx).o (by decide)
    have kd : Dn h hb := by rw [← hB]; exact (d.st (by decide)).st (by decide)
    have hcf : ∀ i, i < tl → fillN tpf tl cf i = nI (tp i) := fun i hi => by
      have hz := z1.2.2 i hi
      simp only [fillN, if_pos hi]
      rw [(ft i hi).1, byM_small _ (by omega)]
    have E0' : ∀ u, (hb.set 25 u)[20]? = some (mob 0 (nI 0) (nI tl) (nI (tl - r + 1)) (nI rd)) := fun u => st_n' (by decide) k0
    have key := upto (fun q i => fX7_row_w58 q 20 (nI j) (nI i) (hb.set 25 (aC 1 600 (fillN (fun i => nI (F (wd k tp tl r i))) i otf)))) (tl - r + 1) (some (nI (tl - r + 1), hb.set 25 (aC 1 600 (fillN (fun i => nI (F (wd k tp tl r i))) (tl - r + 1) otf)))) (fun q i hi => by
      have hF := gF _ (wd_lt (k := k) (c := tp) (n := tl) z1.2.2 (by omega) r i)
      rw [fX7_row_w58]
      simp only []
      rw [o_8 (E0' _)]
      simp only [Option.bind_some]
      rw [if_leI (by omega) (by omega), if_neg (by omega), o_7 (E0' _)]
      simp only [Option.bind_some]
      rw [o_3 (E0' _)]
      simp only [Option.bind_some]
      rw [oo (E0' _), leadsTo_m g (E0' _) (st_n' (by decide) k2) (st_n' (by decide) k3) (st_n' (by decide) k4) hj s1 s2 s3 (st_n' (by decide) k6) (show 0 < tl by omega) htl z1.2.2 hcf (by omega), call_ok, sI_of (by decide) (st_s k5) (by omega) (by decide), byN _ (by omega)]
      simp only [Option.bind_some]
      rw [List.set_set, nI_p1, show upd (fillN (fun i => nI (F (wd k tp tl r i))) i otf) i (nI (F (wd k tp tl r i))) = fillN (fun i => nI (F (wd k tp tl r i))) (i + 1) otf from fillN_s (f := fun i => nI (F (wd k tp tl r i)))]) (fun q => by
      rw [fX7_row_w58]
      simp only []
      rw [o_8 (E0' _)]
      simp only [Option.bind_some]
      rw [if_leI (by omega) (by omega), if_pos (Nat.le_refl _)]
      unfold fX7_row_b89
      rw [o_8 (E0' _)]
      rfl) 0 FUEL (by omega) (fuel_big (by omega))
    rw [fillN_0, st_id k5] at key
    refine ⟨k, r, F, _, q, g, z1.1, z1.2.2, key, ?_, kd.st (by decide)⟩
    refine ⟨tpf', stf, wdf, tbf, _, E0' _, by omega, by omega, a3, st_n' (by decide) k1, fun i hi => by omega, st_n' (by decide) k2, st_n' (by decide) k3, st_n' (by decide) k4, b2, st_s k5, fun i hi => ⟨by simp [fillN, hi], ?_⟩, kF.o (by decide)⟩
    have := gF _ (wd_lt (k := k) (c := tp) (n := tl) z1.2.2 (by omega) r i)
    show F (wd k tp tl r i) < 4
    omega
  · left
    rw [z2, call_ok, if_pos rfl]
    refine ⟨fun k' r' F' h9 h8 => ?_, h3, rfl, I3, d⟩
    rw [q] at h9
    cases h9
    exact z1 ⟨h8.1, htl, h8.2⟩
end MS

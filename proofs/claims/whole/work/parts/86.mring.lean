section MG
variable {h : Hp} {thr sz : Int32} {tl : Nat} {tp : Nat → Nat} {sl : SL} {ol : Nat} {of : Nat → Nat} {rd : Nat}
/-- only the rows cells and next change -/
def D67 (h H : Hp) : Prop := H.length = h.length ∧ ∀ i, i ≠ 26 → i ≠ 27 → H[i]? = h[i]?
theorem D67.rf : D67 h h := ⟨rfl, fun _ _ _ => rfl⟩
theorem D67.tn {H H' : Hp} (a : D67 h H) (b : D67 H H') : D67 h H' := ⟨b.1.trans a.1, fun i h1 h2 => (b.2 i h1 h2).trans (a.2 i h1 h2)⟩
theorem D67.st {H : Hp} {i : Nat} {c : HC} (a : D67 h H) (hi : i = 26 ∨ i = 27) : D67 h (H.set i c) := ⟨by rw [List.length_set]; exact a.1, fun j h1 h2 => by rw [st_n (by omega)]; exact a.2 j h1 h2⟩
theorem D67.dn {H : Hp} (a : D67 h H) : Dn h H := ⟨a.1, fun i hi => a.2 i (by omega) (by omega)⟩
theorem m_ring (I : MInv h thr sz tl tp sl ol of rd) (s t : Int32) : ((∀ k r F T, ¬ okRing sl tl tp k r F s t T) ∧ ∃ h', fX7_ring h 20 s t = some (-1, h') ∧ MInv h' 0 (nI tl) 0 tp sl ol of rd ∧ Dn h h') ∨ (∃ k r F T h', okRing sl tl tp k r F s t T ∧ GR k r F ∧ fX7_ring h 20 s t = some (nI tl, h') ∧ MInv h' 0 (nI tl) 0 tp sl tl (gro k r F tl tp T) rd ∧ Dn h h') := by
  obtain ⟨h1, c1, I1, d1⟩ := I.begin
  obtain ⟨h3, tpf, c2, I3, d2, f1, ft, htl⟩ := I1.taken
  obtain ⟨_, _, _, _, _, e00, -⟩ := id I1
  obtain ⟨tpf', stf, wdf, tbf, otf, e0, a1, a2, a3, e1, b1, e2, e3, e4, b2, e5, b3, Fx⟩ := id I3
  have d := d1.tn d2
  unfold fX7_ring
  rw [c1]
  simp only [Option.bind_some]
  rw [oo e00, c2]
  simp only [Option.bind_some]
  rw [oo e0]
  rcases mhas e0 e2 b2 s with ⟨q, e⟩ | ⟨j, k, r, F, hj, rfl, q, e, g, s1, s2, s3⟩
  · left
    rw [e, call_ok, if_pos rfl]
    exact ⟨(fun k r F T h9 => by have := h9.1; rw [q] at this; cases this), h3, rfl, I3, d⟩
  obtain ⟨n1, n2, n3, n4, n5⟩ := g.nums
  obtain ⟨g1, g2, g3, g4, gF⟩ := id g
  rw [e, call_ok, if_neg one_ne]
  rcases pk_ix t (n := 1001) (by decide) with z | z | ⟨T, hT, rfl⟩
  · left
    rw [if_pos z]
    exact ⟨fun k r F T h9 => by have h8 := h9.2.1; rw [h8] at z; exact nI_nn (by have := h9.2.2.1; omega) z, h3, rfl, I3, d⟩
  · left
    have hgt : (1000 : Int32) < t := Int32.lt_of_lt_of_le (show (1000 : Int32) < nI 1001 by decide) z
    refine ⟨fun k r F T h9 => ?_, h3, ?_, I3, d⟩
    · have h8 := h9.2.1
      have h7 := h9.2.2.1
      rw [h8] at z
      have := (nI_leI (a := 1001) (b := T) (by omega) (by omega)).mp z
      omega
    · by_cases z2 : t < 0
      · rw [if_pos z2]
      · rw [if_neg z2, if_pos hgt]
  rw [if_neg (nI_nn (by omega)), show (1000 : Int32) = nI 1000 from rfl, if_ltI (by omega) (by omega), if_neg (by omega), oo e0, show (1 : Int32) = nI 1 from rfl, show (100 : Int32) = nI 100 from rfl]
  rcases areStates_m e0 f1 e2 hj s1 g2 htl ft (lo := 1) (hi := 100) (by decide) (by decide) with ⟨z1, z2⟩ | ⟨z1, z2⟩
  · right
    have hn : 0 < tl := z1.1
    obtain ⟨cf, e6⟩ := Fx.r26
    obtain ⟨nf, e7⟩ := Fx.r27
    rw [z2, call_ok, if_neg one_ne, oo e0, takeCells_m e0 f1 e6 htl]
    simp only [Option.bind_some]
    have hcf : ∀ i, i < tl → fillN tpf tl cf i = nI (tp i) := fun i hi => by
      have hz := z1.2.2 i hi
      simp only [fillN, if_pos hi]
      rw [(ft i hi).1, byM_small _ (by omega)]
    have key := uptoI (fun q i H => fX7_ring_w47 q 20 (nI j) (nI T) (nI i) H) T (fun i H => D67 h3 H ∧ (∃ cf, H[26]? = some (aC 0 100 cf) ∧ ∀ x, x < tl → cf x = nI (gro k r F tl tp i x)) ∧ ∃ nf, H[27]? = some (aC 0 100 nf)) (by
      rintro q i H hi ⟨D, ⟨cf1, x6, hc1⟩, ⟨nf1, x7⟩⟩
      have E0 : H[20]? = some (mob 0 (nI 0) (nI tl) (nI ol) (nI rd)) := (D.2 20 (by decide) (by decide)).trans e0
      have hst := step_m g E0 ((D.2 22 (by decide) (by decide)).trans e2) ((D.2 23 (by decide) (by decide)).trans e3) ((D.2 24 (by decide) (by decide)).trans e4) hj s1 s2 s3 x6 x7 hn htl (gro_lt g hn z1.2.2 i) hc1
      refine ⟨(H.set 27 (aC 0 100 (fillN (fun x => nI (F (wd k (gro k r F tl tp i) tl r x))) tl nf1))).set 26 (aC 0 100 (fillN (fillN (fun x => nI (F (wd k (gro k r F tl tp i) tl r x))) tl nf1) tl cf1)), ?_, (D.st (Or.inr rfl)).st (Or.inl rfl), ⟨_, st_s (st_n' (by decide) x6), fun x hx => by simp [fillN, hx, gro]⟩, ⟨_, st_n' (by decide) (st_s x7)⟩⟩
      show fX7_ring_w47 (q + 1) 20 (nI j) (nI T) (nI i) H = _
      rw [fX7_ring_w47]
      simp only []
      rw [if_leI (by omega) (by omega), if_neg (by omega), o_3 E0]
      simp only [Option.bind_some]
      rw [oo E0, hst]
      simp only [Option.bind_some]
      rw [nI_p1]) 0 FUEL (h3.set 26 (aC 0 100 (fillN tpf tl cf))) (by omega) (fuel_big (by omega)) ⟨D67.rf.st (Or.inl rfl), ⟨_, st_s e6, hcf⟩, ⟨nf, st_n' (by decide) e7⟩⟩
    obtain ⟨fu, H, k1, D, ⟨cf1, x6, hc1⟩, ⟨nf1, x7⟩⟩ := key
    have E0 : H[20]? = some (mob 0 (nI 0) (nI tl) (nI ol) (nI rd)) := (D.2 20 (by decide) (by decide)).trans e0
    have E5 : H[25]? = some (aC 1 600 otf) := (D.2 25 (by decide) (by decide)).trans e5
    have hst : fX7_ring_w47 FUEL 20 (nI j) (nI T) (0 : Int32) (h3.set 26 (aC 0 100 (fillN tpf tl cf))) = fX7_ring_w77 FUEL 20 (nI 0) (H.set 20 (mob 0 (nI 0) (nI tl) (nI tl) (nI rd))) := by
      refine Eq.trans (show fX7_ring_w47 FUEL 20 (nI j) (nI T) (nI 0) _ = _ from k1) ?_
      rw [fX7_ring_w47]
      simp only []
      rw [if_leI (by omega) (by omega), if_pos (Nat.le_refl _)]
      unfold fX7_ring_b67
      rw [o_3 E0]
      simp only [Option.bind_some]
      rw [q_8 E0]
      simp only [Option.bind_some]
      rfl
    have E0' : ∀ u, ((H.set 20 (mob 0 (nI 0) (nI tl) (nI tl) (nI rd))).set 25 u)[20]? = some (mob 0 (nI 0) (nI tl) (nI tl) (nI rd)) := fun u => st_n' (by decide) (st_s E0)
    have E6' : ∀ u, ((H.set 20 (mob 0 (nI 0) (nI tl) (nI tl) (nI rd))).set 25 u)[26]? = some (aC 0 100 cf1) := fun u => st_n' (by decide) (st_n' (by decide) x6)
    have E5' : ∀ u, ((H.set 20 (mob 0 (nI 0) (nI tl) (nI tl) (nI rd))).set 25 u)[25]? = some u := fun u => st_s (st_n' (by decide) E5)
    have key := upto (fun q i => fX7_ring_w77 q 20 (nI i) ((H.set 20 (mob 0 (nI 0) (nI tl) (nI tl) (nI rd))).set 25 (aC 1 600 (fillN (fun i => nI (gro k r F tl tp T i)) i otf)))) tl (some (nI tl, (H.set 20 (mob 0 (nI 0) (nI tl) (nI tl) (nI rd))).set 25 (aC 1 600 (fillN (fun i => nI (gro k r F tl tp T i)) tl otf)))) (fun q i hi => by
      have hG := gro_lt g hn z1.2.2 T i hi
      rw [fX7_ring_w77]
      simp only []
      rw [o_3 (E0' _)]
      simp only [Option.bind_some]
      rw [if_leI (by omega) (by omega), if_neg (by omega), o_7 (E0' _)]
      simp only [Option.bind_some]
      rw [o_9 (E0' _)]
      simp only [Option.bind_some]
      rw [aI_of (E6' _) (by omega) (by decide), hc1 i hi]
      simp only [Option.bind_some]
      rw [sI_of (by decide) (E5' _) (by omega) (by decide), byN _ (by omega)]
      simp only [Option.bind_some]
      rw [List.set_set, nI_p1, show upd (fillN (fun i => nI (gro k r F tl tp T i)) i otf) i (nI (gro k r F tl tp T i)) = fillN (fun i => nI (gro k r F tl tp T i)) (i + 1) otf from fillN_s (f := fun i => nI (gro k r F tl tp T i))]) (fun q => by
      rw [fX7_ring_w77]
      simp only []
      rw [o_3 (E0' _)]
      simp only [Option.bind_some]
      rw [if_leI (by omega) (by omega), if_pos (Nat.le_refl _)]
      unfold fX7_ring_b104
      rw [o_3 (E0' _)]
      rfl) 0 FUEL (by omega) (fuel_big (by omega))
    rw [fillN_0, st_id (st_n' (by decide) E5)] at key
    refine ⟨k, r, F, T, _, ⟨q, rfl, by omega, z1.1, z1.2.2⟩, g, hst.trans key, ?_, ((d.tn D.dn).st (by decide)).st (by decide)⟩
    have lo : ∀ {i : Nat} {c : HC}, i = 21 ∨ i = 22 ∨ i = 23 ∨ i = 24 → h3[i]? = some c → ((H.set 20 (mob 0 (nI 0) (nI tl) (nI tl) (nI rd))).set 25 (aC 1 600 (fillN (fun i => nI (gro k r F tl tp T i)) tl otf)))[i]? = some c := fun hi ee => st_n' (by omega) (st_n' (by omega) ((D.2 _ (by omega) (by omega)).trans ee))
    have FH : MFix H := by
      obtain ⟨f26, f27, f28, f29, f30, f31, f32, f33, f34, f35, f36, f37, f38, f39, f40, f41, f42⟩ := Fx
      exact ⟨⟨_, x6⟩, ⟨_, x7⟩, f28.imp fun _ q => (D.2 28 (by decide) (by decide)).trans q, f29.imp fun _ q => (D.2 29 (by decide) (by decide)).trans q, f30.imp fun _ q => (D.2 30 (by decide) (by decide)).trans q, f31.imp fun _ q => (D.2 31 (by decide) (by decide)).trans q, f32.imp fun _ q => (D.2 32 (by decide) (by decide)).trans q, f33.imp fun _ q => (D.2 33 (by decide) (by decide)).trans q, f34.imp fun _ q => (D.2 34 (by decide) (by decide)).trans q, f35.imp fun _ q => (D.2 35 (by decide) (by decide)).trans q, f36.imp fun _ q => (D.2 36 (by decide) (by decide)).trans q, f37.imp fun _ q => (D.2 37 (by decide) (by decide)).trans q, f38.imp fun _ q => (D.2 38 (by decide) (by decide)).trans q, f39.imp fun _ q => (D.2 39 (by decide) (by decide)).trans q, f40.imp fun _ q => (D.2 40 (by decide) (by decide)).trans q, f41.imp fun _ q => (D.2 41 (by decide) (by decide)).trans q, f42.imp fun _ q => (D.2 42 (by decide) (by decide)).trans q⟩
    refine ⟨tpf', stf, wdf, tbf, _, E0' _, by omega, by omega, a3, lo (by decide) e1, fun i hi => by omega, lo (by decide) e2, lo (by decide) e3, lo (by decide) e4, b2, E5' _, fun i hi => ⟨by simp [fillN, hi], ?_⟩, (FH.o (by decide)).o (by decide)⟩
    have := gro_lt g hn z1.2.2 T i hi
    omega
  · left
    rw [z2, call_ok, if_pos rfl]
    refine ⟨fun k' r' F' T' h9 => ?_, h3, rfl, I3, d⟩
    have h8 := h9.1
    rw [q] at h8
    cases h8
    exact z1 ⟨h9.2.2.2.1, htl, h9.2.2.2.2⟩
end MG

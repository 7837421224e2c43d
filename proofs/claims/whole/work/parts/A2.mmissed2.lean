theorem aI_of0 {h : Hp} {a tg n : Nat} {f : Nat → Int32} (e : h[a]? = some (aC tg n f)) (hi : 0 < n) (hn : n ≤ 2 ^ 31) : aI h a tg (0 : Int32) = some (f 0) := aI_of (i := 0) e hi hn
theorem sI_of0 {h : Hp} {a tg n : Nat} {f : Nat → Int32} {x : Int32} (h4 : 4 ≤ a) (e : h[a]? = some (aC tg n f)) (hi : 0 < n) (hn : n ≤ 2 ^ 31) : sI h a tg (0 : Int32) x = some (h.set a (aC tg n (upd f 0 (x_nar tg x)))) := sI_of (i := 0) h4 e hi hn
section MTL
variable {H : Hp} {thr tl' sz om rd' : Int32} {f : Nat → Nat → Nat} {k wh : Nat} {L : List En}
theorem tlc_m (J : MJ L H) (o : LOK f k wh L) (hlen : L.length ≤ 512) (e0 : H[20]? = some (mob thr tl' sz om rd')) (last : Int32) : ∀ (j fuel n : Nat) (e1 : En), L[j]? = some e1 → j < fuel → n + j < 1000 → fX7_tellLine_w4 fuel 20 last (nI n) (nI j) H = fX7_tellLine_b21 20 last (nI (n + (pth L j j).length)) H := by
  obtain ⟨qf, cf, bf, mf, e31, e32, e33, e34, J1, J2⟩ := J
  intro j
  induction j using Nat.strongRecOn with
  | ind j ih =>
    intro fuel n e1 h1 hfu hn
    obtain ⟨q, rfl⟩ : ∃ q, fuel = q + 1 := ⟨fuel - 1, by omega⟩
    have hjl := (List.getElem?_eq_some_iff.mp h1).1
    rw [fX7_tellLine_w4]
    simp only []
    rw [show (0 : Int32) = nI 0 from rfl, if_leI (by omega) (by omega)]
    by_cases hj : j = 0
    · subst hj
      rw [if_pos (Nat.le_refl _)]
      rfl
    · obtain ⟨c1, c2, e2, c3, c4⟩ := o.2.1 j e1 h1 (by omega)
      rw [if_neg (by omega), o_15 e0]
      simp only [Option.bind_some]
      rw [aI_of e32 (by omega) (by decide), ((J1 j e1 h1).2 (by omega)).1]
      simp only [Option.bind_some]
      rw [nI_p1, ih e1.2.1 c1 q (n + 1) e2 c3 (by omega) (by omega), pth_s o h1 (by omega), List.length_append, List.length_singleton]
      rw [show n + 1 + (pth L e1.2.1 e1.2.1).length = n + ((pth L e1.2.1 e1.2.1).length + 1) by omega]
theorem tlw_m (J : MJ L H) (o : LOK f k wh L) (hk4 : k ≤ 4) (hlen : L.length ≤ 512) (e0 : H[20]? = some (mob thr tl' sz om rd')) {u0 : Nat → Int32} (e5 : H[25]? = some (aC 1 600 u0)) : ∀ (j fuel : Nat) (e1 : En) (uf : Nat → Int32), L[j]? = some e1 → j < fuel → ∃ uf', fX7_tellLine_w28 fuel 20 (nI (pth L j j).length) (nI j) (H.set 25 (aC 1 600 uf)) = fX7_tellLine_b58 20 (H.set 25 (aC 1 600 uf')) ∧ (∀ i, i < (pth L j j).length → uf' i = nI ((pth L j j).getD i 0)) ∧ ∀ i, (pth L j j).length ≤ i → uf' i = uf i := by
  obtain ⟨qf, cf, bf, mf, e31, e32, e33, e34, J1, J2⟩ := J
  intro j
  induction j using Nat.strongRecOn with
  | ind j ih =>
    intro fuel e1 uf h1 hfu
    obtain ⟨q, rfl⟩ : ∃ q, fuel = q + 1 := ⟨fuel - 1, by omega⟩
    have hjl := (List.getElem?_eq_some_iff.mp h1).1
    rw [fX7_tellLine_w28]
    simp only []
    rw [show (0 : Int32) = nI 0 from rfl, if_leI (by omega) (by omega)]
    by_cases hj : j = 0
    · subst hj
      refine ⟨uf, ?_, fun i hi => by simp [pth] at hi, fun i _ => rfl⟩
      rw [if_pos (Nat.le_refl _)]
    · obtain ⟨c1, c2, e2, c3, c4⟩ := o.2.1 j e1 h1 (by omega)
      have hp := pth_s o h1 (by omega)
      have hl : (pth L j j).length = (pth L e1.2.1 e1.2.1).length + 1 := by rw [hp, List.length_append, List.length_singleton]
      have hle := pth_len o j j e1 h1 (Nat.le_refl _)
      have E0 : ∀ u, (H.set 25 u)[20]? = some (mob thr tl' sz om rd') := fun u => st_n' (by decide) e0
      obtain ⟨uf', z1, z2, z3⟩ := ih e1.2.1 c1 q e2 (upd uf (pth L e1.2.1 e1.2.1).length (nI e1.2.2)) c3 (by omega)
      refine ⟨uf', ?_, fun i hi => ?_, fun i hi => ?_⟩
      · rw [if_neg (by omega), o_7 (E0 _)]
        simp only [Option.bind_some]
        rw [o_16 (E0 _)]
        simp only [Option.bind_some]
        rw [aI_of (st_n' (by decide) e33) (by omega) (by decide), ((J1 j e1 h1).2 (by omega)).2]
        simp only [Option.bind_some]
        rw [hl, i_m1, i_sub1 (by omega), Nat.add_sub_cancel, sI_of (by decide) (st_s e5) (by omega) (by decide), byN _ (by omega), List.set_set]
        simp only [Option.bind_some]
        rw [o_15 (E0 _)]
        simp only [Option.bind_some]
        rw [aI_of (st_n' (by decide) e32) (by omega) (by decide), ((J1 j e1 h1).2 (by omega)).1]
        simp only [Option.bind_some]
        exact z1
      · by_cases q1 : i < (pth L e1.2.1 e1.2.1).length
        · rw [z2 i q1, hp, List.getD_eq_getElem?_getD, List.getD_eq_getElem?_getD, List.getElem?_append_left q1]
        · have hi2 : i = (pth L e1.2.1 e1.2.1).length := by omega
          rw [z3 i (by omega), hi2, upd_self, hp, List.getD_eq_getElem?_getD, List.getElem?_append_right (Nat.le_refl _), Nat.sub_self]
          rfl
      · rw [z3 i (by omega), upd_ne (by omega)]
end MTL
section MMM
variable {h : Hp} {thr sz : Int32} {tl : Nat} {tp : Nat → Nat} {sl : SL} {ol : Nat} {of : Nat → Nat} {rd : Nat}
theorem m_missed (I : MInv h thr sz tl tp sl ol of rd) (s : Int32) : (ruleOf sl s = none ∧ ∃ h', fX7_missed h 20 s = some (-1, h') ∧ MInv h' 0 sz tl tp sl ol of rd ∧ Dn h h') ∨ (∃ k r F, ruleOf sl s = some (k, r, F) ∧ GR k r F ∧ ((NoMis k r F ∧ ∃ h', fX7_missed h 20 s = some (0, h') ∧ MInv h' 0 sz tl tp sl ol of rd ∧ Dn h h') ∨ (∃ y h', MisOf k r F y ∧ y.length < 512 ∧ fX7_missed h 20 s = some (nI y.length, h') ∧ MInv h' 0 sz tl tp sl y.length (fun i => y.getD i 0) rd ∧ Dn h h'))) := by
  obtain ⟨h1, c1, I1, d1⟩ := I.begin
  obtain ⟨tpf, stf, wdf, tbf, otf, e0, a1, a2, a3, e1, b1, e2, e3, e4, b2, e5, b3, Fx⟩ := id I1
  unfold fX7_missed
  rw [c1]
  simp only [Option.bind_some]
  rw [oo e0]
  rcases mhas e0 e2 b2 s with ⟨q, e⟩ | ⟨i0, k, r, F, hi0, rfl, q, e, g, s1, s2, s3⟩
  · left
    rw [e, call_ok, if_pos rfl]
    exact ⟨q, h1, rfl, I1, d1⟩
  right
  refine ⟨k, r, F, q, g, ?_⟩
  obtain ⟨n1, n2, n3, n4, n5⟩ := g.nums
  obtain ⟨g1, g2, g3, g4, gF⟩ := id g
  have hP := pow9 n2
  have hwl := whN_lt k r
  have hw0 : 0 < whN k r := by
    have : 2 ^ 1 ≤ 2 ^ k ^ (r - 1) := Nat.pow_le_pow_right (by decide) n3
    unfold whN
    omega
  rw [e, call_ok, if_neg one_ne, oo e0, overlaps_m g e0 e2 e3 hi0 s1 s2, call_ok]
  obtain ⟨qf, e31⟩ := Fx.r31
  obtain ⟨cf, e32⟩ := Fx.r32
  obtain ⟨bf, e33⟩ := Fx.r33
  obtain ⟨mf, e34⟩ := Fx.r34
  have kA := upto (fun f y => fX7_missed_w23 f 20 (nI i0) (nI (k ^ (r - 1))) (nI y) (h1.set 34 (aC 2 512 (fillN (fun _ => 0) y mf)))) 512 (fX7_missed_b43 20 (nI i0) (nI (k ^ (r - 1))) (h1.set 34 (aC 2 512 (fillN (fun _ => 0) 512 mf)))) (fun f y hy => by
    rw [fX7_missed_w23]
    simp only []
    rw [show (512 : Int32) = nI 512 from rfl, if_leI (by omega) (by omega), if_neg (by omega), o_17 (st_n' (by decide) e0)]
    simp only [Option.bind_some]
    rw [sI_of (by decide) (st_s e34) (by omega) (by decide), nar2_0]
    simp only [Option.bind_some]
    rw [List.set_set, nI_p1, show upd (fillN (fun _ => 0) y mf) y 0 = fillN (fun _ => 0) (y + 1) mf from fillN_s (f := fun _ => 0)]) (fun f => by
    rw [fX7_missed_w23]
    simp only []
    rw [show (512 : Int32) = nI 512 from rfl, if_leI (by omega) (by omega), if_pos (Nat.le_refl _)]) 0 FUEL (by omega) (fuel_big (by omega))
  rw [fillN_0, st_id e34] at kA
  generalize hB : ((h1.set 34 (aC 2 512 (fillN (fun _ => 0) 512 mf))).set 31 (aC 0 512 (upd qf 0 (nI (whN k r))))).set 34 (aC 2 512 (upd (fillN (fun _ => 0) 512 mf) (whN k r) 1)) = hb
  have hbeg : fX7_missed_w23 FUEL 20 (nI i0) (nI (k ^ (r - 1))) (0 : Int32) h1 = fX7_missed_w71 FUEL 20 (nI i0) (nI (k ^ (r - 1))) (nI 1) (nI 0) hb := by
    refine Eq.trans (show fX7_missed_w23 FUEL 20 (nI i0) (nI (k ^ (r - 1))) (nI 0) h1 = _ from kA) ?_
    unfold fX7_missed_b43
    rw [o_14 (st_n' (by decide) e0), Option.bind_some, nI_wh2 _ (by omega), show nI (2 ^ k ^ (r - 1) - 1) = nI (whN k r) from rfl, sI_of0 (by decide) (st_n' (by decide) e31) (by decide) (by decide), x_nar0, Option.bind_some]
    rw [o_17 (st_n' (by decide) (st_n' (by decide) e0)), Option.bind_some, o_14 (st_n' (by decide) (st_n' (by decide) e0)), Option.bind_some, aI_of0 (st_s (st_n' (by decide) e31)) (by decide) (by decide), upd_self, Option.bind_some, sI_of (by decide) (st_n' (by decide) (st_s e34)) (by omega) (by decide), nar2_1, Option.bind_some, hB]
    rfl
  rw [hbeg]
  have Db : DM h1 hb := by rw [← hB]; exact ((DM.rf.st (by decide)).st (by decide)).st (by decide)
  have Jb : MJ (bst (fo k (k ^ (r - 1)) F) k (whN k r) 0) hb := by
    refine ⟨upd qf 0 (nI (whN k r)), cf, bf, upd (fillN (fun _ => 0) 512 mf) (whN k r) 1, ?_, ?_, ?_, ?_, fun j e hj => ?_, fun x hx => ?_⟩
    · rw [← hB]; exact st_n' (by decide) (st_s (st_n' (by decide) e31))
    · rw [← hB]; exact st_n' (by decide) (st_n' (by decide) (st_n' (by decide) e32))
    · rw [← hB]; exact st_n' (by decide) (st_n' (by decide) (st_n' (by decide) e33))
    · rw [← hB]; exact st_s (st_n' (by decide) (st_s e34))
    · have hj0 : j = 0 := by
        have := (List.getElem?_eq_some_iff.mp hj).1
        simp only [bst, List.length_cons, List.length_nil] at this
        omega
      subst hj0
      have : ((whN k r, 0, 0) : En) = e := Option.some.inj hj
      subst this
      exact ⟨upd_self, fun z => by omega⟩
    · have hm : x ∈ stsL (bst (fo k (k ^ (r - 1)) F) k (whN k r) 0) ↔ x = whN k r := by
        unfold stsL bst
        simp
      rw [hm]
      by_cases z : x = whN k r
      · rw [z, upd_self]
        exact ⟨fun _ => rfl, fun y => absurd rfl y⟩
      · rw [upd_ne z]
        exact ⟨fun y => absurd y z, fun _ => by simp [fillN, hx]⟩
  have hfl : ∀ S c, fo k (k ^ (r - 1)) F S c < 2 ^ k ^ (r - 1) := fun S c => fo_lt (by omega)
  have ok : ∀ s, LOK (fo k (k ^ (r - 1)) F) k (whN k r) (bst (fo k (k ^ (r - 1)) F) k (whN k r) s) := bst_ok (by omega)
  have lenle : ∀ s, (bst (fo k (k ^ (r - 1)) F) k (whN k r) s).length ≤ 512 := fun s => by have := (ok s).len hfl hwl; omega
  have mI : ∀ H, DM h1 H → MFix H → MInv H 0 sz tl tp sl ol of rd := fun H D FH => I1.scr (fun i h1 h2 => D.2 i (by omega)) FH
  have mF : ∀ H s, DM h1 H → MJ (bst (fo k (k ^ (r - 1)) F) k (whN k r) s) H → MFix H := fun H s D J => by
    obtain ⟨qf, cf, bf, mf, e31, e32, e33, e34, J1, J2⟩ := J
    obtain ⟨f26, f27, f28, f29, f30, f31, f32, f33, f34, f35, f36, f37, f38, f39, f40, f41, f42⟩ := Fx
    exact ⟨f26.imp fun _ q => (D.2 26 (by decide)).trans q, f27.imp fun _ q => (D.2 27 (by decide)).trans q, f28.imp fun _ q => (D.2 28 (by decide)).trans q, f29.imp fun _ q => (D.2 29 (by decide)).trans q, f30.imp fun _ q => (D.2 30 (by decide)).trans q, ⟨_, e31⟩, ⟨_, e32⟩, ⟨_, e33⟩, ⟨_, e34⟩, f35.imp fun _ q => (D.2 35 (by decide)).trans q, f36.imp fun _ q => (D.2 36 (by decide)).trans q, f37.imp fun _ q => (D.2 37 (by decide)).trans q, f38.imp fun _ q => (D.2 38 (by decide)).trans q, f39.imp fun _ q => (D.2 39 (by decide)).trans q, f40.imp fun _ q => (D.2 40 (by decide)).trans q, f41.imp fun _ q => (D.2 41 (by decide)).trans q, f42.imp fun _ q => (D.2 42 (by decide)).trans q⟩
  -- the end where the empty set is met
  have fin : ∀ H s j e, DM h1 H → MJ (bst (fo k (k ^ (r - 1)) F) k (whN k r) s) H → (bst (fo k (k ^ (r - 1)) F) k (whN k r) s)[j]? = some e → e.1 = 0 → ∃ y h', MisOf k r F y ∧ y.length < 512 ∧ fX7_missed_b236 20 (nI (j + 1)) H = some (nI y.length, h') ∧ MInv h' 0 sz tl tp sl y.length (fun i => y.getD i 0) rd ∧ Dn h h' := by
    intro H s j e D J hj hz
    have o := ok s
    have hl := lenle s
    have hjl := (List.getElem?_eq_some_iff.mp hj).1
    have FH := mF H s D J
    have IH := mI H D FH
    have f0 := IH.obj
    have f5 : H[25]? = some (aC 1 600 otf) := (D.2 25 (by decide)).trans e5
    have hple := pth_len o j j e hj (Nat.le_refl _)
    obtain ⟨p1, p2⟩ := pth_ok o j j e hj (Nat.le_refl _)
    have w1 := tlc_m J o hl f0 (nI j) j FUEL 0 e hj (fuel_big (by omega)) (by omega)
    rw [Nat.zero_add] at w1
    have hmis : MisOf k r F (pth (bst (fo k (k ^ (r - 1)) F) k (whN k r) s) j j) := ⟨s, j, e, hj, hz, rfl⟩
    have L0 : (H.set 20 (mob 0 (nI tl) sz (nI (pth (bst (fo k (k ^ (r - 1)) F) k (whN k r) s) j j).length) (nI rd)))[20]? = some (mob 0 (nI tl) sz (nI (pth (bst (fo k (k ^ (r - 1)) F) k (whN k r) s) j j).length) (nI rd)) := st_s f0
    have J2 : MJ (bst (fo k (k ^ (r - 1)) F) k (whN k r) s) (H.set 20 (mob 0 (nI tl) sz (nI (pth (bst (fo k (k ^ (r - 1)) F) k (whN k r) s) j j).length) (nI rd))) := by
      obtain ⟨qf, cf, bf, mf, e31, e32, e33, e34, J1, J2⟩ := J
      exact ⟨qf, cf, bf, mf, st_n' (by decide) e31, st_n' (by decide) e32, st_n' (by decide) e33, st_n' (by decide) e34, J1, J2⟩
    obtain ⟨uf', z1, z2, z3⟩ := tlw_m J2 o g2 hl L0 (st_n' (by decide) f5) j FUEL e otf hj (fuel_big (by omega))
    rw [st_id (st_n' (by decide) f5)] at z1
    generalize pth (bst (fo k (k ^ (r - 1)) F) k (whN k r) s) j j = y at w1 hmis L0 J2 z1 z2 z3 hple p1
    have hyk : ∀ i, i < y.length → y.getD i 0 < 4 := fun i hi => by
      have : y.getD i 0 < k := by
        rw [List.getD_eq_getElem?_getD, List.getElem?_eq_getElem hi]
        exact p1 _ (List.getElem_mem hi)
      omega
    have M0 : ((H.set 20 (mob 0 (nI tl) sz (nI y.length) (nI rd))).set 25 (aC 1 600 uf'))[20]? = some (mob 0 (nI tl) sz (nI y.length) (nI rd)) := st_n' (by decide) L0
    refine ⟨y, (H.set 20 (mob 0 (nI tl) sz (nI y.length) (nI rd))).set 25 (aC 1 600 uf'), hmis, by omega, ?_, ?_, ((d1.tn D.dn).st (by decide)).st (by decide)⟩
    · have ht : fX7_tellLine H 20 (nI j) = some (nI y.length, (H.set 20 (mob 0 (nI tl) sz (nI y.length) (nI rd))).set 25 (aC 1 600 uf')) := by
        unfold fX7_tellLine
        refine Eq.trans (show fX7_tellLine_w4 FUEL 20 (nI j) (nI 0) (nI j) H = _ from w1) ?_
        unfold fX7_tellLine_b21
        rw [q_8 f0, Option.bind_some, z1]
        unfold fX7_tellLine_b58
        rw [o_8 M0, Option.bind_some]
      unfold fX7_missed_b236
      rw [oo f0, i_sub1 (by omega), Nat.add_sub_cancel, ht, call_ok]
    · refine IH.out ?_ M0 (by omega) (st_s (st_n' (by decide) f5)) (fun i hi => ⟨z2 i hi, hyk i hi⟩) ((FH.o (by decide)).o (by decide))
      rintro i (rfl | rfl | rfl | rfl) <;> rw [st_n (by decide), st_n (by decide)]
  -- one set
  have inner : ∀ (hd : Nat) (W71 : Nat → Int32 → Int32 → Int32 → Int32 → Hp → Option (Int32 × Hp)) (d c fuel : Nat) (H : Hp), d = k - c → c ≤ k → d < fuel → hd < (bst (fo k (k ^ (r - 1)) F) k (whN k r) (hd * k + c)).length → DM h1 H → MJ (bst (fo k (k ^ (r - 1)) F) k (whN k r) (hd * k + c)) H → ¬ 0 ∈ stsL (bst (fo k (k ^ (r - 1)) F) k (whN k r) (hd * k + c)) → Clo (fo k (k ^ (r - 1)) F) k (whN k r) (hd * k + c) → (∃ H', fX7_missed_w80 W71 fuel 20 (nI i0) (nI (k ^ (r - 1))) (nI (bst (fo k (k ^ (r - 1)) F) k (whN k r) (hd * k + c)).length) (nI hd) (nI c) H = W71 20 (nI i0) (nI (k ^ (r - 1))) (nI (bst (fo k (k ^ (r - 1)) F) k (whN k r) (hd * k + k)).length) (nI (hd + 1)) H' ∧ hd < (bst (fo k (k ^ (r - 1)) F) k (whN k r) (hd * k + k)).length ∧ DM h1 H' ∧ MJ (bst (fo k (k ^ (r - 1)) F) k (whN k r) (hd * k + k)) H' ∧ ¬ 0 ∈ stsL (bst (fo k (k ^ (r - 1)) F) k (whN k r) (hd * k + k)) ∧ Clo (fo k (k ^ (r - 1)) F) k (whN k r) (hd * k + k)) ∨ (∃ H' s j e, fX7_missed_w80 W71 fuel 20 (nI i0) (nI (k ^ (r - 1))) (nI (bst (fo k (k ^ (r - 1)) F) k (whN k r) (hd * k + c)).length) (nI hd) (nI c) H = fX7_missed_b236 20 (nI (j + 1)) H' ∧ DM h1 H' ∧ MJ (bst (fo k (k ^ (r - 1)) F) k (whN k r) s) H' ∧ (bst (fo k (k ^ (r - 1)) F) k (whN k r) s)[j]? = some e ∧ e.1 = 0) := by
    intro hd W71 d
    induction d with
    | zero =>
      intro c fuel H hdc hck hfu hlt D J hno hcl
      have hce : c = k := by omega
      subst hce
      obtain ⟨fu, rfl⟩ : ∃ fu, fuel = fu + 1 := ⟨fuel - 1, by omega⟩
      left
      refine ⟨H, ?_, hlt, D, J, hno, hcl⟩
      have f0 := (mI H D (mF H _ D J)).obj
      rw [fX7_missed_w80]
      simp only []
      rw [o_4 f0]
      simp only [Option.bind_some]
      rw [aI_of ((D.2 22 (by decide)).trans e2) hi0 (by decide), s1]
      simp only [Option.bind_some]
      rw [if_leI (by omega) (by omega), if_pos (Nat.le_refl _)]
      unfold fX7_missed_b250
      rw [nI_p1]
    | succ d ih =>
      intro c fuel H hdc hck hfu hlt D J hno hcl
      obtain ⟨fu, rfl⟩ : ∃ fu, fuel = fu + 1 := ⟨fuel - 1, by omega⟩
      have hdiv : (hd * k + c) / k = hd := by rw [Nat.mul_comm, Nat.mul_add_div (by omega), Nat.div_eq_of_lt (by omega)]; omega
      rcases mset_step g e0 e2 e3 e4 hi0 s1 s2 s3 (W71 := W71) (n := fu) hwl D (show c < k by omega) hlt J hno with ⟨H', x1, x2, x3, x4⟩ | x
      · have hlt2 : hd < (bst (fo k (k ^ (r - 1)) F) k (whN k r) (hd * k + (c + 1))).length := by
          obtain ⟨X, hX⟩ := bst_more (f := fo k (k ^ (r - 1)) F) (k := k) (wh := whN k r) (hd * k + c)
          rw [← Nat.add_assoc, hX, List.length_append]
          omega
        have hcl2 : Clo (fo k (k ^ (r - 1)) F) k (whN k r) (hd * k + (c + 1)) := by
          rw [← Nat.add_assoc]
          exact hcl.step (by omega) (by rw [hdiv]; exact hlt)
        rw [x1]
        exact ih (c + 1) fu H' (by omega) (by omega) (by omega) hlt2 x2 x3 x4 hcl2
      · right
        exact x
  have outer : ∀ (fuel hd : Nat) (H : Hp), 600 ≤ fuel + hd → hd ≤ (bst (fo k (k ^ (r - 1)) F) k (whN k r) (hd * k)).length → DM h1 H → MJ (bst (fo k (k ^ (r - 1)) F) k (whN k r) (hd * k)) H → ¬ 0 ∈ stsL (bst (fo k (k ^ (r - 1)) F) k (whN k r) (hd * k)) → Clo (fo k (k ^ (r - 1)) F) k (whN k r) (hd * k) → (∃ H' s, fX7_missed_w71 fuel 20 (nI i0) (nI (k ^ (r - 1))) (nI (bst (fo k (k ^ (r - 1)) F) k (whN k r) (hd * k)).length) (nI hd) H = some (0, H') ∧ DM h1 H' ∧ MJ (bst (fo k (k ^ (r - 1)) F) k (whN k r) s) H' ∧ NoMis k r F) ∨ (∃ H' s j e, fX7_missed_w71 fuel 20 (nI i0) (nI (k ^ (r - 1))) (nI (bst (fo k (k ^ (r - 1)) F) k (whN k r) (hd * k)).length) (nI hd) H = fX7_missed_b236 20 (nI (j + 1)) H' ∧ DM h1 H' ∧ MJ (bst (fo k (k ^ (r - 1)) F) k (whN k r) s) H' ∧ (bst (fo k (k ^ (r - 1)) F) k (whN k r) s)[j]? = some e ∧ e.1 = 0) := by
    intro fuel
    induction fuel with
    | zero =>
      intro hd H hf hle
      have := lenle (hd * k)
      omega
    | succ fu ih =>
      intro hd H hf hle D J hno hcl
      have hl := lenle (hd * k)
      have hst : ∀ X, X = (if (bst (fo k (k ^ (r - 1)) F) k (whN k r) (hd * k)).length ≤ hd then some ((0 : Int32), H) else fX7_missed_w80 (fX7_missed_w71 fu) FUEL 20 (nI i0) (nI (k ^ (r - 1))) (nI (bst (fo k (k ^ (r - 1)) F) k (whN k r) (hd * k)).length) (nI hd) (nI 0) H) → fX7_missed_w71 (fu + 1) 20 (nI i0) (nI (k ^ (r - 1))) (nI (bst (fo k (k ^ (r - 1)) F) k (whN k r) (hd * k)).length) (nI hd) H = X := by
        rintro X rfl
        rw [fX7_missed_w71]
        simp only []
        rw [if_leI (by omega) (by omega), ← l0]
      by_cases z : (bst (fo k (k ^ (r - 1)) F) k (whN k r) (hd * k)).length ≤ hd
      · left
        refine ⟨H, hd * k, hst _ (by rw [if_pos z]), D, J, hd * k, hcl, Nat.mul_le_mul_right k z, hno⟩
      · rcases inner hd (fX7_missed_w71 fu) k 0 FUEL H (by omega) (by omega) (fuel_big (by omega)) (by rw [Nat.add_zero]; omega) D J hno hcl with ⟨H', x1, x2, x3, x4, x5, x6⟩ | ⟨H', s', j, e, x1, x2⟩
        · have hhk : hd * k + k = (hd + 1) * k := (Nat.succ_mul hd k).symm
          rw [hhk] at x1 x2 x4 x5 x6
          rcases ih (hd + 1) H' (by omega) (by omega) x3 x4 x5 x6 with ⟨H2, s2, y1, y2⟩ | ⟨H2, s2, j2, e2, y1, y2⟩
          · left
            exact ⟨H2, s2, hst _ (by rw [if_neg z]; exact (x1.trans y1).symm), y2⟩
          · right
            exact ⟨H2, s2, j2, e2, hst _ (by rw [if_neg z]; exact (x1.trans y1).symm), y2⟩
        · right
          exact ⟨H', s', j, e, hst _ (by rw [if_neg z]; exact x1.symm), x2⟩
  have hFU : FUEL = 100000 := rfl
  have hno0 : ¬ 0 ∈ stsL (bst (fo k (k ^ (r - 1)) F) k (whN k r) (0 * k)) := by
    rw [Nat.zero_mul]
    unfold stsL bst
    simp
    omega
  rcases outer FUEL 0 hb (by omega) (by omega) Db (by rw [Nat.zero_mul]; exact Jb) hno0 (fun h' c' e' _ hlt _ => by rw [Nat.zero_mul] at hlt; omega) with ⟨H', s', y1, y2, y3, y4⟩ | ⟨H', s', j, e', y1, y2, y3, y4, y5⟩
  · left
    have FH := mF H' s' y2 y3
    refine ⟨y4, H', ?_, mI H' y2 FH, d1.tn y2.dn⟩
    rw [Nat.zero_mul] at y1
    exact y1
  · right
    obtain ⟨y, h', z1, z2, z3, z4⟩ := fin H' s' j e' y2 y3 y4 y5
    refine ⟨y, h', z1, z2, ?_, z4⟩
    rw [Nat.zero_mul] at y1
    exact y1.trans z3
end MMM

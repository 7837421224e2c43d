section MMS
variable {h : Hp} {thr tl' sz om rd' : Int32} {stf wdf tbf : Nat → Int32} {i0 k r : Nat} {F : Nat → Nat}
/-- the model's rows of the search hold the line L -/
def MJ (L : List En) (H : Hp) : Prop := ∃ qf cf bf mf : Nat → Int32, H[31]? = some (aC 0 512 qf) ∧ H[32]? = some (aC 0 512 cf) ∧ H[33]? = some (aC 0 512 bf) ∧ H[34]? = some (aC 2 512 mf) ∧ (∀ (j : Nat) (e : En), L[j]? = some e → qf j = nI e.1 ∧ (0 < j → cf j = nI e.2.1 ∧ bf j = nI e.2.2)) ∧ ∀ x, x < 512 → (x ∈ stsL L → mf x = 1) ∧ (¬ x ∈ stsL L → mf x = 0)
/-- cells but 31 .. 34 stay -/
def DM (h H : Hp) : Prop := H.length = h.length ∧ ∀ i, i < 31 ∨ 34 < i → H[i]? = h[i]?
theorem DM.rf : DM h h := ⟨rfl, fun _ _ => rfl⟩
theorem DM.st {H : Hp} {i : Nat} {c : HC} (a : DM h H) (hi : 31 ≤ i ∧ i ≤ 34) : DM h (H.set i c) := ⟨by rw [List.length_set]; exact a.1, fun j hj => by rw [st_n (by omega)]; exact a.2 j hj⟩
theorem DM.dn {H : Hp} (a : DM h H) : Dn h H := ⟨a.1, fun i hi => a.2 i (by omega)⟩
theorem orS_s {f : Nat → Nat} {n : Nat} : orS f (n + 1) = orS f n ||| f n := rfl
theorem nar2_1 : x_nar 2 1 = 1 := by decide
theorem nar2_0 : x_nar 2 0 = 0 := by decide
theorem getD_at {L : List En} {j : Nat} (h : j < L.length) : L[j]? = some (L.getD j (0, 0, 0)) := by
  rw [List.getElem?_eq_getElem h, List.getD_eq_getElem?_getD, List.getElem?_eq_getElem h]; rfl
/-- what set the cells c lead to from a set -/
theorem follow_m (g : GR k r F) {H : Hp} (e0 : H[20]? = some (mob thr tl' sz om rd')) (e2 : H[22]? = some (aC 0 6 stf)) (e3 : H[23]? = some (aC 0 6 wdf)) (e4 : H[24]? = some (aC 0 189 tbf)) (hi0 : i0 < 6) (s1 : stf i0 = nI k) (s2 : wdf i0 = nI r) (s3 : ∀ w, w < k ^ r → tbf (27 * i0 + w) = nI (F w)) {qf : Nat → Int32} (e31 : H[31]? = some (aC 0 512 qf)) {hd c S : Nat} {M : Int32} (hhd : hd < 512) (hq : qf hd = nI S) (hS : S < 512) (hc : c < k) {W71 : Nat → Int32 → Int32 → Int32 → Int32 → Hp → Option (Int32 × Hp)} {W80 : Nat → Int32 → Int32 → Int32 → Int32 → Int32 → Hp → Option (Int32 × Hp)} : fX7_missed_w97 W71 W80 FUEL 20 (nI i0) (nI (k ^ (r - 1))) M (nI hd) (nI c) (nI 0) (nI 0) H = fX7_missed_b183 W71 W80 20 (nI i0) (nI (k ^ (r - 1))) M (nI hd) (nI c) (nI (fo k (k ^ (r - 1)) F S c)) H := by
  obtain ⟨n1, n2, n3, n4, n5⟩ := g.nums
  obtain ⟨g1, g2, g3, g4, gF⟩ := id g
  have key := upto (fun q u => fX7_missed_w97 W71 W80 q 20 (nI i0) (nI (k ^ (r - 1))) M (nI hd) (nI c) (nI (orS (fun u => if S.testBit u = true then fo1 k (k ^ (r - 1)) F c u else 0) u)) (nI u) H) (k ^ (r - 1)) (fX7_missed_b183 W71 W80 20 (nI i0) (nI (k ^ (r - 1))) M (nI hd) (nI c) (nI (fo k (k ^ (r - 1)) F S c)) H) (fun q u hu => by
    rw [fX7_missed_w97]
    simp only []
    rw [if_leI (by omega) (by omega), if_neg (by omega)]
    generalize hA : orS (fun u => if S.testBit u = true then fo1 k (k ^ (r - 1)) F c u else 0) u = A
    have inn := upto (fun q2 x => fX7_missed_w106 W71 W80 (fX7_missed_w97 W71 W80 q) q2 20 (nI i0) (nI (k ^ (r - 1))) M (nI hd) (nI c) (nI (A ||| if S.testBit u = true then orS (fun x => if F (u * k + x) = c then 2 ^ ((u * k + x) % k ^ (r - 1)) else 0) x else 0)) (nI u) (nI x) H) k (fX7_missed_w97 W71 W80 q 20 (nI i0) (nI (k ^ (r - 1))) M (nI hd) (nI c) (nI (A ||| if S.testBit u = true then fo1 k (k ^ (r - 1)) F c u else 0)) (nI (u + 1)) H) (fun q2 x hx => by
      have hwl : u * k + x < k ^ r := by rw [n4]; exact wlt hu hx
      have hF := gF _ hwl
      have hmd : (u * k + x) % k ^ (r - 1) < k ^ (r - 1) := Nat.mod_lt _ n3
      rw [fX7_missed_w106]
      simp only []
      rw [o_4 e0]
      simp only [Option.bind_some]
      rw [aI_of e2 hi0 (by decide), s1]
      simp only [Option.bind_some]
      rw [if_leI (by omega) (by omega), if_neg (by omega), o_14 e0]
      simp only [Option.bind_some]
      rw [aI_of e31 hhd (by decide), hq]
      simp only [Option.bind_some]
      unfold fX7_missed_b171
      by_cases z : S.testBit u = true
      · rw [if_pos ((nI_tb u (by omega) S hS).mpr z)]
        rw [oo e0, pk_mul, nI_add, Nat.mul_comm k, mtells (F := F) e0 e4 g hi0 s3 hwl, call_ok, if_eqI (by omega) (by omega)]
        by_cases z2 : F (u * k + x) = c
        · rw [if_pos z2, oo e0, then_m g e0 e2 e3 hi0 s1 s2 (by omega) (by omega), call_ok, setv_ok, nI_shl _ (by omega), nI_or, nI_p1, if_pos z, if_pos z, orS_s, if_pos z2, Nat.or_assoc]
        · rw [if_neg z2, nI_p1, if_pos z, if_pos z, orS_s, if_neg z2, Nat.or_zero]
      · rw [if_neg (fun y => z ((nI_tb u (by omega) S hS).mp y)), nI_p1, if_neg z, if_neg z]) (fun q2 => by
      rw [fX7_missed_w106]
      simp only []
      rw [o_4 e0]
      simp only [Option.bind_some]
      rw [aI_of e2 hi0 (by decide), s1]
      simp only [Option.bind_some]
      rw [if_leI (by omega) (by omega), if_pos (Nat.le_refl _)]
      unfold fX7_missed_b177
      rw [nI_p1]
      rfl) 0 FUEL (by omega) (fuel_big (by omega))
    have h0 : (A ||| if S.testBit u = true then orS (fun x => if F (u * k + x) = c then 2 ^ ((u * k + x) % k ^ (r - 1)) else 0) 0 else 0) = A := by
      have : orS (fun x => if F (u * k + x) = c then 2 ^ ((u * k + x) % k ^ (r - 1)) else 0) 0 = 0 := rfl
      rw [this, ite_self, Nat.or_zero]
    rw [h0] at inn
    rw [l0]
    refine Eq.trans inn ?_
    rw [orS_s, hA]) (fun q => by
    rw [fX7_missed_w97]
    simp only []
    rw [if_leI (by omega) (by omega), if_pos (Nat.le_refl _)]
    rfl) 0 FUEL (by omega) (fuel_big (by omega))
  exact key
/-- one step of the search in the model's rows -/
theorem mset_step (g : GR k r F) (e0 : h[20]? = some (mob thr tl' sz om rd')) (e2 : h[22]? = some (aC 0 6 stf)) (e3 : h[23]? = some (aC 0 6 wdf)) (e4 : h[24]? = some (aC 0 189 tbf)) (hi0 : i0 < 6) (s1 : stf i0 = nI k) (s2 : wdf i0 = nI r) (s3 : ∀ w, w < k ^ r → tbf (27 * i0 + w) = nI (F w)) {W71 : Nat → Int32 → Int32 → Int32 → Int32 → Hp → Option (Int32 × Hp)} {wh hd c n : Nat} {H : Hp} (hwh : wh < 2 ^ k ^ (r - 1)) (D : DM h H) (hc : c < k) (hhd : hd < (bst (fo k (k ^ (r - 1)) F) k wh (hd * k + c)).length) (J : MJ (bst (fo k (k ^ (r - 1)) F) k wh (hd * k + c)) H) (hno : ¬ 0 ∈ stsL (bst (fo k (k ^ (r - 1)) F) k wh (hd * k + c))) : (∃ H', fX7_missed_w80 W71 (n + 1) 20 (nI i0) (nI (k ^ (r - 1))) (nI (bst (fo k (k ^ (r - 1)) F) k wh (hd * k + c)).length) (nI hd) (nI c) H = fX7_missed_w80 W71 n 20 (nI i0) (nI (k ^ (r - 1))) (nI (bst (fo k (k ^ (r - 1)) F) k wh (hd * k + (c + 1))).length) (nI hd) (nI (c + 1)) H' ∧ DM h H' ∧ MJ (bst (fo k (k ^ (r - 1)) F) k wh (hd * k + (c + 1))) H' ∧ ¬ 0 ∈ stsL (bst (fo k (k ^ (r - 1)) F) k wh (hd * k + (c + 1)))) ∨ (∃ H' s j e, fX7_missed_w80 W71 (n + 1) 20 (nI i0) (nI (k ^ (r - 1))) (nI (bst (fo k (k ^ (r - 1)) F) k wh (hd * k + c)).length) (nI hd) (nI c) H = fX7_missed_b236 20 (nI (j + 1)) H' ∧ DM h H' ∧ MJ (bst (fo k (k ^ (r - 1)) F) k wh s) H' ∧ (bst (fo k (k ^ (r - 1)) F) k wh s)[j]? = some e ∧ e.1 = 0) := by
  obtain ⟨n1, n2, n3, n4, n5⟩ := g.nums
  obtain ⟨g1, g2, g3, g4, gF⟩ := id g
  have hP := pow9 n2
  have o := bst_ok (f := fo k (k ^ (r - 1)) F) (wh := wh) (show 0 < k by omega) (hd * k + c)
  have hfl : ∀ S c, fo k (k ^ (r - 1)) F S c < 2 ^ k ^ (r - 1) := fun S c => fo_lt (by omega)
  have hlen := o.len hfl hwh
  have hs1 : (hd * k + c) / k = hd := by rw [Nat.mul_comm, Nat.mul_add_div (by omega), Nat.div_eq_of_lt hc]; omega
  have hs2 : (hd * k + c) % k = c := by rw [Nat.mul_comm, Nat.mul_add_mod, Nat.mod_eq_of_lt hc]
  have hL2 : ∀ s, bst (fo k (k ^ (r - 1)) F) k wh s = bst (fo k (k ^ (r - 1)) F) k wh s := fun _ => rfl
  rw [← Nat.add_assoc]
  generalize hLL : bst (fo k (k ^ (r - 1)) F) k wh (hd * k + c) = L at *
  obtain ⟨qf, cf, bf, mf, e31, e32, e33, e34, J1, J2⟩ := J
  have x0 := getD_at hhd
  generalize hee : L.getD hd (0, 0, 0) = e1 at x0
  have hb := bst_in (f := fo k (k ^ (r - 1)) F) (k := k) (wh := wh) (s := hd * k + c) (e := e1) (by rw [hs1, hLL]; exact x0)
  rw [hs1, hs2, hLL] at hb
  have he1 : e1.1 < 512 := by have := o.lt hfl hwh x0; omega
  have f0 : H[20]? = some (mob thr tl' sz om rd') := (D.2 20 (by decide)).trans e0
  have f2 : H[22]? = some (aC 0 6 stf) := (D.2 22 (by decide)).trans e2
  have f3 : H[23]? = some (aC 0 6 wdf) := (D.2 23 (by decide)).trans e3
  have f4 : H[24]? = some (aC 0 189 tbf) := (D.2 24 (by decide)).trans e4
  have hnx : fo k (k ^ (r - 1)) F e1.1 c < 512 := by have := hfl e1.1 c; omega
  have hbeg : fX7_missed_w80 W71 (n + 1) 20 (nI i0) (nI (k ^ (r - 1))) (nI L.length) (nI hd) (nI c) H = fX7_missed_b183 W71 (fX7_missed_w80 W71 n) 20 (nI i0) (nI (k ^ (r - 1))) (nI L.length) (nI hd) (nI c) (nI (fo k (k ^ (r - 1)) F e1.1 c)) H := by
    rw [fX7_missed_w80]
    simp only []
    rw [o_4 f0]
    simp only [Option.bind_some]
    rw [aI_of f2 hi0 (by decide), s1]
    simp only [Option.bind_some]
    rw [if_leI (by omega) (by omega), if_neg (by omega)]
    exact follow_m g f0 f2 f3 f4 hi0 s1 s2 s3 e31 (by omega) (J1 hd e1 x0).1 he1 hc
  generalize hto : fo k (k ^ (r - 1)) F e1.1 c = to at hb hnx hbeg
  rw [hbeg]
  unfold fX7_missed_b183
  rw [o_17 f0]
  simp only [Option.bind_some]
  rw [aI_of e34 hnx (by decide)]
  simp only [Option.bind_some]
  by_cases hin : to ∈ stsL L
  · left
    rw [if_pos hin] at hb
    rw [hb]
    refine ⟨H, ?_, D, ⟨qf, cf, bf, mf, e31, e32, e33, e34, J1, J2⟩, hno⟩
    rw [(J2 to hnx).1 hin, if_neg one_ne]
    unfold fX7_missed_b244
    rw [nI_p1]
  · rw [if_neg hin] at hb
    have hmore := o.more hfl hwh (by rw [← hto]; exact hfl _ _) hin
    have hL5 : L.length < 512 := by omega
    generalize hH' : (((H.set 34 (aC 2 512 (upd mf to 1))).set 31 (aC 0 512 (upd qf L.length (nI to)))).set 32 (aC 0 512 (upd cf L.length (nI hd)))).set 33 (aC 0 512 (upd bf L.length (nI c))) = H'
    have D' : DM h H' := by rw [← hH']; exact (((D.st (by decide)).st (by decide)).st (by decide)).st (by decide)
    have old : ∀ (j : Nat) (e : En), (L ++ [(to, hd, c)])[j]? = some e → L[j]? = some e ∨ (j = L.length ∧ e = (to, hd, c)) := by
      intro j e hj
      by_cases q : j < L.length
      · left; rwa [List.getElem?_append_left q] at hj
      · right
        have := (List.getElem?_eq_some_iff.mp hj).1
        rw [List.length_append, List.length_singleton] at this
        have hj2 : j = L.length := by omega
        rw [hj2, List.getElem?_append_right (Nat.le_refl _), Nat.sub_self] at hj
        exact ⟨hj2, (Option.some.inj hj).symm⟩
    have hst : ∀ x, x ∈ stsL (L ++ [(to, hd, c)]) ↔ x ∈ stsL L ∨ x = to := by
      intro x
      unfold stsL
      simp
    have J' : MJ (L ++ [(to, hd, c)]) H' := by
      refine ⟨upd qf L.length (nI to), upd cf L.length (nI hd), upd bf L.length (nI c), upd mf to 1, ?_, ?_, ?_, ?_, fun j e hj => ?_, fun x hx => ?_⟩
      · rw [← hH']; exact st_n' (by decide) (st_n' (by decide) (st_s (st_n' (by decide) e31)))
      · rw [← hH']; exact st_n' (by decide) (st_s (st_n' (by decide) (st_n' (by decide) e32)))
      · rw [← hH']; exact st_s (st_n' (by decide) (st_n' (by decide) (st_n' (by decide) e33)))
      · rw [← hH']; exact st_n' (by decide) (st_n' (by decide) (st_n' (by decide) (st_s e34)))
      · rcases old j e hj with q | ⟨rfl, rfl⟩
        · have hjl := (List.getElem?_eq_some_iff.mp q).1
          rw [upd_ne (by omega), upd_ne (by omega), upd_ne (by omega)]
          exact J1 j e q
        · rw [upd_self, upd_self, upd_self]
          exact ⟨rfl, fun _ => ⟨rfl, rfl⟩⟩
      · rw [hst]
        by_cases q : x = to
        · rw [q, upd_self]
          exact ⟨fun _ => rfl, fun z => absurd (Or.inr rfl) z⟩
        · rw [upd_ne q]
          exact ⟨fun z => (J2 x hx).1 (z.elim id (fun y => absurd y q)), fun z => (J2 x hx).2 (fun y => z (Or.inl y))⟩
    have hrun : ∀ (K : Hp → Option (Int32 × Hp)), ((sI H 34 2 (nI to) (1 : Int32)).bind fun h4 => (gR h4 20 7 14).bind fun v5 => (sI h4 v5 0 (nI L.length) (nI to)).bind fun h6 => (gR h6 20 7 15).bind fun v7 => (sI h6 v7 0 (nI L.length) (nI hd)).bind fun h8 => (gR h8 20 7 16).bind fun v9 => (sI h8 v9 0 (nI L.length) (nI c)).bind K) = K H' := by
      intro K
      rw [sI_of (by decide) e34 hnx (by decide), nar2_1]
      simp only [Option.bind_some]
      rw [o_14 (st_n' (by decide) f0)]
      simp only [Option.bind_some]
      rw [sI_of (by decide) (st_n' (by decide) e31) hL5 (by decide), x_nar0]
      simp only [Option.bind_some]
      rw [o_15 (st_n' (by decide) (st_n' (by decide) f0))]
      simp only [Option.bind_some]
      rw [sI_of (by decide) (st_n' (by decide) (st_n' (by decide) e32)) hL5 (by decide), x_nar0]
      simp only [Option.bind_some]
      rw [o_16 (st_n' (by decide) (st_n' (by decide) (st_n' (by decide) f0)))]
      simp only [Option.bind_some]
      rw [sI_of (by decide) (st_n' (by decide) (st_n' (by decide) (st_n' (by decide) e33))) hL5 (by decide), x_nar0, Option.bind_some, hH']
    rw [(J2 to hnx).2 hin, if_pos rfl]
    by_cases hz : to = 0
    · right
      refine ⟨H', hd * k + c + 1, L.length, (to, hd, c), ?_, D', by rw [hb]; exact J', by rw [hb]; simp, hz⟩
      refine Eq.trans (hrun _) ?_
      rw [hz, if_pos (show nI 0 = (0 : Int32) from rfl), nI_p1]
    · left
      refine ⟨H', ?_, D', by rw [hb]; exact J', ?_⟩
      · refine Eq.trans (hrun _) ?_
        rw [if_neg (fun (y : nI to = (0 : Int32)) => hz ((nI_eq (b := 0) (by omega) (by omega)).mp y)), hb]
        unfold fX7_missed_b244
        rw [nI_p1, nI_p1, List.length_append, List.length_singleton]
      · rw [hb, hst]
        rintro (y | y)
        · exact hno y
        · exact hz y.symm
end MMS

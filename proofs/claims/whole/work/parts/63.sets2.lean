section ST
variable {h : Hp} {a k r : Nat} {F : Nat → Nat} {w : Int32}
def so (w : Int32) : HC := oC 2 [vR 14, vR 15, vR 16, vR 17, vI w]
theorem s0' (e : h[13]? = some (so w)) : gR h 13 2 0 = some 14 := gR_of (by decide) e rfl
theorem s1' (e : h[13]? = some (so w)) : gR h 13 2 1 = some 15 := gR_of (by decide) e rfl
theorem s2' (e : h[13]? = some (so w)) : gR h 13 2 2 = some 16 := gR_of (by decide) e rfl
theorem s3' (e : h[13]? = some (so w)) : gR h 13 2 3 = some 17 := gR_of (by decide) e rfl
theorem s4' (e : h[13]? = some (so w)) : gI h 13 2 4 = some w := gI_of (by decide) e rfl
theorem sok (e : h[13]? = some (so w)) {β : Type} {x : Option β} : oK h 13 2 x = x := oK_of (by decide) e
theorem sp4 {x : Int32} (e : h[13]? = some (so w)) : pF h 13 2 4 (vI x) = some (h.set 13 (so x)) := pF_of (by decide) e (by simp)
theorem learn_ok (g : GR k r F) (ha : 44 ≤ a) (R : RuleAt h a (a + 1) k r F) {f0 : Nat → Int32} (e : h[13]? = some (so w)) (e17 : h[17]? = some (aC 0 27 f0)) : ∃ rf, fX2_learn h 13 a = some (h.set 17 (aC 0 27 rf)) ∧ ∀ p, p < 27 → rf p = nI (rchN k (k ^ (r - 1)) F p (k ^ r)) := by
  obtain ⟨n1, n2, n3, n4, n5⟩ := g.nums
  obtain ⟨g1, g2, g3, g4, gF⟩ := id g
  unfold fX2_learn
  rw [s3' e]
  simp only [Option.bind_some]
  rw [fill_ok (by decide) (by decide) e17]
  simp only [Option.bind_some]
  have E : ∀ u, (h.set 17 (aC 0 27 u))[13]? = some (so w) := fun u => st_n' (by decide) e
  have E17 : ∀ u, (h.set 17 (aC 0 27 u))[17]? = some (aC 0 27 u) := fun u => st_s e17
  have ER : ∀ u, RuleAt (h.set 17 (aC 0 27 u)) a (a + 1) k r F := fun u => R.set (by omega) (by omega)
  have k1 := uptoI (fun q i H => fX2_learn_w10 q 13 a (nI i) H) (k ^ r) (fun i H => ∃ rf, H = h.set 17 (aC 0 27 rf) ∧ ∀ p, p < 27 → rf p = nI (rchN k (k ^ (r - 1)) F p i)) (by
    rintro q i H hi ⟨rf, rfl, hr⟩
    have hF := gF i hi
    have hd : i / k * k ≤ i := Nat.div_mul_le_self i k
    have hpl : i / k * k + F i < k ^ r := by
      have h1 : i / k < k ^ (r - 1) := by
        rw [Nat.div_lt_iff_lt_mul (by omega)]
        omega
      have : (i / k + 1) * k ≤ k ^ (r - 1) * k := Nat.mul_le_mul_right k h1
      rw [Nat.succ_mul] at this
      omega
    refine ⟨h.set 17 (aC 0 27 (upd rf (i / k * k + F i) (nI (rchN k (k ^ (r - 1)) F (i / k * k + F i) i ||| 2 ^ (i % k ^ (r - 1)))))), ?_, _, rfl, fun p hp => ?_⟩
    · rw [fX2_learn_w10]
      simp only []
      rw [rw9 (ER rf)]
      simp only [Option.bind_some]
      rw [if_leI (by omega) (by omega), if_neg (by omega), rk (ER rf)]
      simp only [Option.bind_some]
      rw [iDiv_nI (by omega) (by omega) (by omega), rok (ER rf), tells_ok g (ER rf) hi, call_ok, setv_ok, pk_mul, nI_add, if_neg (nI_nn (by omega)), s3' (E rf)]
      simp only [Option.bind_some]
      rw [aN_of (E17 rf) (by decide)]
      simp only [Option.bind_some]
      rw [if_leI (by omega) (by omega), if_neg (by omega), aI_of (E17 rf) (by omega) (by decide)]
      simp only [Option.bind_some]
      rw [rn (ER rf)]
      simp only [Option.bind_some]
      have hmod := Nat.mod_lt i (show k ^ (r - 1) > 0 by omega)
      rw [iRem_nI (by omega) (by omega) (by omega), hr _ (by omega), nI_shl _ (by omega), nI_or, sI_of (by decide) (E17 rf) (by omega) (by decide), x_nar0]
      simp only [Option.bind_some]
      unfold fX2_learn_b66
      rw [List.set_set, nI_p1]
    · by_cases q1 : p = i / k * k + F i
      · rw [q1, upd_self]
        unfold rchN
        rw [orS, if_pos rfl]
      · rw [upd_ne q1, hr p hp]
        unfold rchN
        rw [orS, if_neg (fun z => q1 z.symm), Nat.or_zero]) 0 FUEL (h.set 17 (aC 0 27 (fillN (fun _ => 0) 27 f0))) (by omega) (fuel_big (by omega)) ⟨_, rfl, fun p hp => by simp [fillN, hp]; rfl⟩
  obtain ⟨fu, H, k2, rf, rfl, k3⟩ := k1
  refine ⟨rf, ?_, k3⟩
  refine Eq.trans (show fX2_learn_w10 FUEL 13 a (nI 0) (h.set 17 (aC 0 27 (fillN (fun _ => 0) 27 f0))) = _ from k2) ?_
  rw [fX2_learn_w10]
  simp only []
  rw [rw9 (ER rf)]
  simp only [Option.bind_some]
  rw [if_leI (by omega) (by omega), if_pos (Nat.le_refl _)]
theorem follow_ok (g : GR k r F) (R : RuleAt h a (a + 1) k r F) {rf : Nat → Int32} (e : h[13]? = some (so w)) (e17 : h[17]? = some (aC 0 27 rf)) (hr : ∀ p, p < 27 → rf p = nI (rchN k (k ^ (r - 1)) F p (k ^ r))) {S c : Nat} (hS : S < 512) (hc : c < k) : fX2_follow h 13 a (nI S) (nI c) = some (nI (fo k (k ^ (r - 1)) F S c), h) := by
  obtain ⟨n1, n2, n3, n4, n5⟩ := g.nums
  obtain ⟨g1, g2, g3, g4, gF⟩ := id g
  unfold fX2_follow
  have key := upto (fun q u => fX2_follow_w6 q 13 a (nI S) (nI c) (nI (orS (fun u => if S.testBit u = true then fo1 k (k ^ (r - 1)) F c u else 0) u)) (nI u) h) (k ^ (r - 1)) (some (nI (fo k (k ^ (r - 1)) F S c), h)) (fun q u hu => by
    have hp : u * k + c < k ^ r := by
      rw [n4]
      have : (u + 1) * k ≤ k ^ (r - 1) * k := Nat.mul_le_mul_right k hu
      rw [Nat.succ_mul] at this
      omega
    rw [fX2_follow_w6]
    simp only []
    rw [rn R]
    simp only [Option.bind_some]
    rw [if_leI (by omega) (by omega), if_neg (by omega), rk R]
    simp only [Option.bind_some]
    rw [setv_ok, pk_mul, nI_add, orS]
    unfold fX2_follow_b58
    by_cases q1 : S.testBit u = true
    · rw [if_pos ((nI_tb u (by omega) S hS).mpr q1), if_pos q1, s3' e]
      simp only [Option.bind_some]
      rw [aN_of e17 (by decide)]
      simp only [Option.bind_some]
      rw [if_leI (by omega) (by omega), if_neg (by omega), aI_of e17 (by omega) (by decide)]
      simp only [Option.bind_some]
      rw [setv_ok, hr _ (by omega), rch_fo1 g hu hc, nI_or, nI_p1]
    · rw [if_neg (fun z => q1 ((nI_tb u (by omega) S hS).mp z)), if_neg q1, Nat.or_zero, nI_p1]) (fun q => by
    rw [fX2_follow_w6]
    simp only []
    rw [rn R]
    simp only [Option.bind_some]
    rw [if_leI (by omega) (by omega), if_pos (Nat.le_refl _)]
    rfl) 0 FUEL (by omega) (fuel_big (by omega))
  rw [l0]
  exact key
/-- the rows of the search hold the line L -/
def SJ (L : List En) (H : Hp) : Prop := ∃ qf cf bf : Nat → Int32, H[14]? = some (aC 0 512 qf) ∧ H[15]? = some (aC 0 512 cf) ∧ H[16]? = some (aC 0 512 bf) ∧ (∀ (j : Nat) (e : En), L[j]? = some e → qf j = nI e.1 ∧ (∃ e' : En, L[e.2.1]? = some e' ∧ cf e.1 = nI e'.1) ∧ (0 < j → bf e.1 = nI e.2.2)) ∧ ∀ x, x < 512 → ¬ x ∈ stsL L → cf x = -1
/-- cells but 14, 15, 16 stay -/
def DS (h H : Hp) : Prop := H.length = h.length ∧ ∀ i, i ≠ 14 → i ≠ 15 → i ≠ 16 → H[i]? = h[i]?
theorem DS.rf : DS h h := ⟨rfl, fun _ _ _ _ => rfl⟩
theorem DS.tn {H H' : Hp} (a : DS h H) (b : DS H H') : DS h H' := ⟨b.1.trans a.1, fun i h1 h2 h3 => (b.2 i h1 h2 h3).trans (a.2 i h1 h2 h3)⟩
theorem DS.rule {H : Hp} (d : DS h H) (ha : 44 ≤ a) (R : RuleAt h a (a + 1) k r F) : RuleAt H a (a + 1) k r F := by
  obtain ⟨h1, h2, h3, h4, f, h5, h6⟩ := R
  exact ⟨h1, h2, h3, (d.2 _ (by omega) (by omega) (by omega)).trans h4, f, (d.2 _ (by omega) (by omega) (by omega)).trans h5, h6⟩
theorem pow9 {m : Nat} (hm : m ≤ 9) : 2 ^ m ≤ 512 := Nat.pow_le_pow_right (n := 2) (by decide) hm
/-- one step of the search in the class's rows -/
theorem set_step (g : GR k r F) (ha : 44 ≤ a) (R : RuleAt h a (a + 1) k r F) {rf : Nat → Int32} (e : h[13]? = some (so w)) (e17 : h[17]? = some (aC 0 27 rf)) (hr : ∀ p, p < 27 → rf p = nI (rchN k (k ^ (r - 1)) F p (k ^ r))) {W56 : Nat → Nat → Int32 → Int32 → Hp → Option (Int32 × Hp)} {wh hd c n : Nat} {H : Hp} (hwh : wh < 2 ^ k ^ (r - 1)) (D : DS h H) (hc : c < k) (hhd : hd < (bst (fo k (k ^ (r - 1)) F) k wh (hd * k + c)).length) (J : SJ (bst (fo k (k ^ (r - 1)) F) k wh (hd * k + c)) H) : ∃ H', fX2_missesSome_w71 W56 (n + 1) 13 a (nI (bst (fo k (k ^ (r - 1)) F) k wh (hd * k + c)).length) (nI hd) (nI c) H = fX2_missesSome_w71 W56 n 13 a (nI (bst (fo k (k ^ (r - 1)) F) k wh (hd * k + (c + 1))).length) (nI hd) (nI (c + 1)) H' ∧ DS h H' ∧ SJ (bst (fo k (k ^ (r - 1)) F) k wh (hd * k + (c + 1))) H' := by
  obtain ⟨n1, n2, n3, n4, n5⟩ := g.nums
  obtain ⟨g1, g2, g3, g4, gF⟩ := id g
  have hP := pow9 n2
  have o := bst_ok (f := fo k (k ^ (r - 1)) F) (wh := wh) (show 0 < k by omega) (hd * k + c)
  have hfl : ∀ S c, fo k (k ^ (r - 1)) F S c < 2 ^ k ^ (r - 1) := fun S c => fo_lt (by omega)
  have hlen := o.len hfl hwh
  have hs1 : (hd * k + c) / k = hd := by rw [Nat.mul_comm, Nat.mul_add_div (by omega), Nat.div_eq_of_lt hc]; omega
  have hs2 : (hd * k + c) % k = c := by rw [Nat.mul_comm, Nat.mul_add_mod, Nat.mod_eq_of_lt hc]
  rw [← Nat.add_assoc]
  generalize hLL : bst (fo k (k ^ (r - 1)) F) k wh (hd * k + c) = L at *
  obtain ⟨qf, cf, bf, e14, e15, e16, J1, J2⟩ := J
  have e0 : L[hd]? = some (L.getD hd (0, 0, 0)) := by rw [List.getElem?_eq_getElem hhd, List.getD_eq_getElem?_getD, List.getElem?_eq_getElem hhd]; rfl
  generalize hee : L.getD hd (0, 0, 0) = e1 at e0
  have hb := bst_in (f := fo k (k ^ (r - 1)) F) (k := k) (wh := wh) (s := hd * k + c) (e := e1) (by rw [hs1, hLL]; exact e0)
  rw [hs1, hs2, hLL] at hb
  have he1 : e1.1 < 512 := by have := o.lt hfl hwh e0; omega
  have f13 : H[13]? = some (so w) := (D.2 13 (by decide) (by decide) (by decide)).trans e
  have f17 : H[17]? = some (aC 0 27 rf) := (D.2 17 (by decide) (by decide) (by decide)).trans e17
  have R1 := D.rule ha R
  have hnx : fo k (k ^ (r - 1)) F e1.1 c < 512 := by have := hfl e1.1 c; omega
  have hfo := follow_ok g R1 f13 f17 hr he1 hc
  obtain ⟨j1, -, -⟩ := J1 hd e1 e0
  rw [fX2_missesSome_w71]
  simp only []
  rw [rk R1]
  simp only [Option.bind_some]
  rw [if_leI (by omega) (by omega), if_neg (by omega), s0' f13]
  simp only [Option.bind_some]
  rw [aI_of e14 (by omega) (by decide), j1]
  simp only [Option.bind_some]
  rw [sok f13, hfo, call_ok, if_neg (nI_nn (by omega)), show (512 : Int32) = nI 512 from rfl, if_leI (by omega) (by omega), if_neg (by omega)]
  unfold fX2_missesSome_b159
  by_cases q1 : fo k (k ^ (r - 1)) F e1.1 c ∈ stsL L
  · rw [if_pos q1] at hb
    rw [hb]
    refine ⟨H, ?_, D, qf, cf, bf, e14, e15, e16, J1, J2⟩
    obtain ⟨j, e2, y1, y2⟩ := stsL_get.mp q1
    obtain ⟨-, ⟨e3, y3, y4⟩, -⟩ := J1 j e2 y1
    rw [y2] at y4
    have he3 : e3.1 < 512 := by have := o.lt hfl hwh y3; omega
    by_cases q2 : 512 ≤ L.length
    · rw [if_leI (by omega) (by omega), if_pos q2, nI_p1]
    · rw [if_leI (by omega) (by omega), if_neg q2, s1' f13]
      simp only [Option.bind_some]
      rw [aI_of e15 (by omega) (by decide), y4]
      simp only [Option.bind_some]
      rw [if_neg (fun z => nI_nm1 (by omega) z), nI_p1]
  · rw [if_neg q1] at hb
    have hmore := o.more hfl hwh (hfl e1.1 c) q1
    rw [hb, if_leI (by omega) (by omega), if_neg (by omega), s1' f13]
    simp only [Option.bind_some]
    rw [aI_of e15 (by omega) (by decide), J2 _ hnx q1]
    simp only [Option.bind_some]
    rw [if_pos trivial]
    generalize hx : fo k (k ^ (r - 1)) F e1.1 c = x at *
    refine ⟨((H.set 15 (aC 0 512 (upd cf x (nI e1.1)))).set 16 (aC 0 512 (upd bf x (nI c)))).set 14 (aC 0 512 (upd qf L.length (nI x))), ?_, ?_, ?_⟩
    · rw [s0' f13]
      simp only [Option.bind_some]
      rw [aI_of e14 (by omega) (by decide), j1]
      simp only [Option.bind_some]
      rw [sI_of (by decide) e15 (by omega) (by decide), x_nar0]
      simp only [Option.bind_some]
      rw [s2' (st_n' (by decide) f13)]
      simp only [Option.bind_some]
      rw [sI_of (by decide) (st_n' (by decide) e16) (by omega) (by decide), x_nar0]
      simp only [Option.bind_some]
      rw [s0' (st_n' (by decide) (st_n' (by decide) f13))]
      simp only [Option.bind_some]
      rw [sI_of (by decide) (st_n' (by decide) (st_n' (by decide) e14)) (by omega) (by decide), x_nar0]
      simp only [Option.bind_some]
      rw [nI_p1, nI_p1, List.length_append, List.length_singleton]
    · refine D.tn ⟨by simp, fun i h1 h2 h3 => ?_⟩
      rw [st_n (Ne.symm h1), st_n (Ne.symm h3), st_n (Ne.symm h2)]
    · refine ⟨_, _, _, st_s (st_n' (by decide) (st_n' (by decide) e14)), st_n' (by decide) (st_n' (by decide) (st_s e15)), st_n' (by decide) (st_s (st_n' (by decide) e16)), fun j e' he' => ?_, fun y hy hn => ?_⟩
      · by_cases qj : j < L.length
        · have heo : L[j]? = some e' := by rwa [List.getElem?_append_left qj] at he'
          obtain ⟨y1, ⟨e3, y3, y4⟩, y5⟩ := J1 j e' heo
          have hne : e'.1 ≠ x := fun z => q1 (stsL_get.mpr ⟨j, e', heo, z⟩)
          refine ⟨?_, ⟨e3, ?_, ?_⟩, fun hj => ?_⟩
          · rw [upd_ne (by omega), y1]
          · rw [List.getElem?_append_left (List.getElem?_eq_some_iff.mp y3).1, y3]
          · rw [upd_ne hne, y4]
          · rw [upd_ne hne, y5 hj]
        · have hl := (List.getElem?_eq_some_iff.mp he').1
          rw [List.length_append, List.length_singleton] at hl
          have hj : j = L.length := by omega
          subst hj
          rw [List.getElem?_append_right (Nat.le_refl _), Nat.sub_self] at he'
          have he2 : (x, hd, c) = e' := Option.some.inj he'
          subst he2
          refine ⟨upd_self, ⟨e1, ?_, upd_self⟩, fun _ => upd_self⟩
          show (L ++ [(x, hd, c)])[hd]? = some e1
          rw [List.getElem?_append_left hhd, e0]
      · have hny : ¬ y ∈ stsL L := fun z => hn (by unfold stsL at z ⊢; rw [List.map_append, List.mem_append]; exact Or.inl z)
        have hyx : y ≠ x := fun z => hn (by unfold stsL; rw [List.map_append, List.mem_append]; right; simp [z])
        rw [upd_ne hyx, J2 y hy hny]
end ST

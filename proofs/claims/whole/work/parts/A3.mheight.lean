/-! A table of places with open addressing. -/
theorem low_w (x : Int64) : ∃ v : Nat, v < 65536 ∧ (x &&& (65535 : Int64)).toInt32 = nI v := by
  generalize hy : x &&& (65535 : Int64) = y
  have h1 : y = lN y.toBitVec.toNat := by
    apply Int64.toBitVec_inj.mp
    show y.toBitVec = (Int64.ofNat y.toBitVec.toNat).toBitVec
    rw [Int64.toBitVec_ofNat', BitVec.ofNat_toNat, BitVec.setWidth_eq]
  have h2 : y.toBitVec.toNat ≤ 65535 := by
    rw [← hy, Int64.toBitVec_and, BitVec.toNat_and]
    exact Nat.le_trans Nat.and_le_right (by decide)
  refine ⟨y.toBitVec.toNat, by omega, ?_⟩
  rw [h1, lN_i, ← h1]
def hsI (c : Nat) : Int32 := ((((lN c * (2654435761 : Int64)) >>> (((20 : Int32)).toInt64 &&& 63)) &&& (65535 : Int64))).toInt32
def hsN (c : Nat) : Nat := (hsI c).toNatClampNeg
theorem hsN_ok (c : Nat) : hsN c < 65536 ∧ hsI c = nI (hsN c) := by
  obtain ⟨v, h1, h2⟩ := low_w ((lN c * (2654435761 : Int64)) >>> (((20 : Int32)).toInt64 &&& 63))
  have h3 : hsI c = nI v := h2
  unfold hsN
  rw [h3, cl_nI (by omega)]
  exact ⟨h1, rfl⟩
/-- t codes stand in the table: code p dd p places behind its own -/
def HT2 (co : Nat → Nat) (t : Nat) (pf : Nat → Int32) (dd : Nat → Nat) : Prop := (∀ a, a < 65536 → pf a = -1 ∨ ∃ p, p < t ∧ pf a = nI p ∧ a = (hsN (co p) + dd p) % 65536) ∧ ∀ p, p < t → pf ((hsN (co p) + dd p) % 65536) = nI p ∧ ∀ e, e < dd p → pf ((hsN (co p) + e) % 65536) ≠ -1
/-- where the search for the code c ends -/
def Pb (co : Nat → Nat) (t : Nat) (pf : Nat → Int32) (c e : Nat) : Prop := pf ((hsN c + e) % 65536) = -1 ∨ ∃ p, p < t ∧ pf ((hsN c + e) % 65536) = nI p ∧ co p = c
theorem HT2.end {co : Nat → Nat} {t : Nat} {pf : Nat → Int32} {dd : Nat → Nat} (T : HT2 co t pf dd) (ht : t ≤ 30000) (c : Nat) : ∃ e, e < 65536 ∧ Pb co t pf c e ∧ ∀ e', e' < e → ¬ Pb co t pf c e' := by
  have hex : ∃ a, a < 65536 ∧ pf a = -1 := by
    refine Classical.byContradiction fun hx => ?_
    have hA : ∀ a, ∃ p, a < 65536 → p < t ∧ pf a = nI p ∧ a = (hsN (co p) + dd p) % 65536 := fun a => by
      by_cases ha : a < 65536
      · rcases T.1 a ha with z | ⟨p, z⟩
        · exact absurd ⟨a, ha, z⟩ hx
        · exact ⟨p, fun _ => z⟩
      · exact ⟨0, fun z => absurd z ha⟩
    have hg : ∀ a, a < 65536 → (fun a => Classical.choose (hA a)) a < t ∧ pf a = nI ((fun a => Classical.choose (hA a)) a) ∧ a = (hsN (co ((fun a => Classical.choose (hA a)) a)) + dd ((fun a => Classical.choose (hA a)) a)) % 65536 := fun a ha => Classical.choose_spec (hA a) ha
    generalize (fun a => Classical.choose (hA a)) = G at hg
    have := fb_holes t 65536 G (fun a ha => (hg a ha).1) (fun a b hab hb e => by
      have h1 := (hg a (by omega)).2.2
      have h2 := (hg b hb).2.2
      rw [e, ← h2] at h1
      omega)
    omega
  obtain ⟨a0, ha0, hm⟩ := hex
  have hs := (hsN_ok c).1
  have hP : ∃ e, Pb co t pf c e := ⟨(a0 + 65536 - hsN c) % 65536, Or.inl (by
    have : (hsN c + (a0 + 65536 - hsN c) % 65536) % 65536 = a0 := by omega
    rw [this]; exact hm)⟩
  obtain ⟨e, he, hmin⟩ := pk_least (fun e => Pb co t pf c e) hP
  refine ⟨e, ?_, he, hmin⟩
  refine Classical.byContradiction fun hge => hmin (e - 65536) (by omega) ?_
  have h1 : (hsN c + e) % 65536 = (hsN c + (e - 65536)) % 65536 := by omega
  unfold Pb at he ⊢
  rw [← h1]
  exact he
theorem HT2.none {co : Nat → Nat} {t : Nat} {pf : Nat → Int32} {dd : Nat → Nat} (T : HT2 co t pf dd) (ht : t ≤ 30000) {c e : Nat} (hm : ∀ e', e' < e → ¬ Pb co t pf c e') (hz : pf ((hsN c + e) % 65536) = -1) : ∀ p, p < t → co p ≠ c := by
  intro p hp hc
  obtain ⟨h1, h2⟩ := T.2 p hp
  rw [hc] at h1 h2
  rcases Nat.lt_trichotomy e (dd p) with q | q | q
  · exact h2 e q hz
  · rw [q, h1] at hz
    exact nI_nm1 (by omega) hz
  · exact hm (dd p) q (Or.inr ⟨p, hp, h1, hc⟩)
theorem HT2.add {co : Nat → Nat} {t : Nat} {pf : Nat → Int32} {dd : Nat → Nat} (T : HT2 co t pf dd) (ht : t ≤ 30000) {e : Nat} (hm : ∀ e', e' < e → ¬ Pb co t pf (co t) e') (hz : pf ((hsN (co t) + e) % 65536) = -1) : HT2 co (t + 1) (upd pf ((hsN (co t) + e) % 65536) (nI t)) (fun p => if p = t then e else dd p) := by
  have hne : ∀ a, upd pf ((hsN (co t) + e) % 65536) (nI t) a = -1 → pf a = -1 := fun a h => by
    by_cases q : a = (hsN (co t) + e) % 65536
    · rw [q, upd_self] at h
      exact absurd h (nI_nm1 (by omega))
    · rwa [upd_ne q] at h
  generalize hdd : (fun p => if p = t then e else dd p) = D2
  have dA : D2 t = e := by rw [← hdd]; simp
  have dB : ∀ p, p ≠ t → D2 p = dd p := fun p hp => by rw [← hdd]; simp [hp]
  refine ⟨fun a ha => ?_, fun p hp => ?_⟩
  · by_cases q : a = (hsN (co t) + e) % 65536
    · right
      refine ⟨t, by omega, by rw [q, upd_self], ?_⟩
      rw [dA]
      exact q
    · rw [upd_ne q]
      rcases T.1 a ha with z | ⟨p, z1, z2, z3⟩
      · exact Or.inl z
      · right
        refine ⟨p, by omega, z2, ?_⟩
        rw [dB p (by omega)]
        exact z3
  · by_cases q : p = t
    · rw [q, dA, upd_self]
      exact ⟨rfl, fun e' he' h => hm e' he' (Or.inl (hne _ h))⟩
    · rw [dB p q]
      obtain ⟨h1, h2⟩ := T.2 p (by omega)
      refine ⟨?_, fun e' he' h => h2 e' he' (hne _ h)⟩
      rw [upd_ne (fun z => by rw [z, hz] at h1; exact nI_nm1 (by omega) h1.symm)]
      exact h1
section MHT
variable {h : Hp} {thr sz : Int32} {tl : Nat} {tp : Nat → Nat} {sl : SL} {ol : Nat} {of : Nat → Nat} {rd : Nat}
theorem codeOf_m {thr tl' om rd' sz : Int32} {n : Nat} {stf : Nat → Int32} {j k : Nat} (e0 : h[20]? = some (mob thr tl' sz om rd')) (e2 : h[22]? = some (aC 0 6 stf)) (hj : j < 6) (s1 : stf j = nI k) (hk : k ≤ 4) {cf : Nat → Int32} {c : Nat → Nat} (e6 : h[26]? = some (aC 0 100 cf)) (hn2 : n ≤ 100) (hc : ∀ i, i < n → c i < k) (hcf : ∀ i, i < n → cf i = nI (c i)) : fX7_codeOf h 20 (nI j) (nI n) = some (lN (cd k c n), h) := by
  unfold fX7_codeOf
  have key := upto (fun q i => fX7_codeOf_w5 q 20 (nI j) (nI n) (lN (cd k c i)) (nI i) h) n (some (lN (cd k c n), h)) (fun q i hi => by
    have := hc i hi
    rw [fX7_codeOf_w5]
    simp only []
    rw [if_leI (by omega) (by omega), if_neg (by omega), o_4 e0]
    simp only [Option.bind_some]
    rw [aI_of e2 hj (by decide), s1]
    simp only [Option.bind_some]
    rw [o_9 e0]
    simp only [Option.bind_some]
    rw [aI_of e6 (by omega) (by decide), hcf i hi]
    simp only [Option.bind_some]
    rw [setv_ok, nI_l (by omega), nI_l (by omega), lN_mul, lN_add, nI_p1, cd, Nat.mul_comm k]) (fun q => by
    rw [fX7_codeOf_w5]
    simp only []
    rw [if_leI (by omega) (by omega), if_pos (Nat.le_refl _)]) 0 FUEL (by omega) (fuel_big (by omega))
  exact key
/-- only the rows cells, next, codes and places change -/
def DH (h H : Hp) : Prop := H.length = h.length ∧ ∀ i, i ≠ 26 → i ≠ 27 → i ≠ 36 → i ≠ 37 → H[i]? = h[i]?
theorem DH.rf : DH h h := ⟨rfl, fun _ _ _ _ _ => rfl⟩
theorem DH.st {H : Hp} {i : Nat} {c : HC} (a : DH h H) (hi : i = 26 ∨ i = 27 ∨ i = 36 ∨ i = 37) : DH h (H.set i c) := ⟨by rw [List.length_set]; exact a.1, fun j h1 h2 h3 h4 => by rw [st_n (by omega)]; exact a.2 j h1 h2 h3 h4⟩
theorem DH.dn {H : Hp} (a : DH h H) : Dn h H := ⟨a.1, fun i hi => a.2 i (by omega) (by omega) (by omega) (by omega)⟩
theorem m_height (I : MInv h thr sz tl tp sl ol of rd) (s : Int32) : ((∀ k r F, ruleOf sl s = some (k, r, F) → ¬ Few k tl tp) ∧ ∃ h', fX7_height h 20 s = some (-1, h') ∧ MInv h' 0 (nI tl) 0 tp sl ol of rd ∧ Dn h h') ∨ (∃ k r F h', ruleOf sl s = some (k, r, F) ∧ GR k r F ∧ Few k tl tp ∧ Dn h h' ∧ ((∃ j i, i ≤ 20000 ∧ FR (coN k r F tl tp) j i ∧ fX7_height h 20 s = some (nI j, h') ∧ MInv h' 0 (nI tl) 0 tp sl ol of (i - j)) ∨ ((∀ p q, p < q → q ≤ 20000 → coN k r F tl tp p ≠ coN k r F tl tp q) ∧ fX7_height h 20 s = some (-1, h') ∧ MInv h' 0 (nI tl) 0 tp sl ol of rd))) := by
  obtain ⟨h1, c1, I1, d1⟩ := I.begin
  obtain ⟨h3, tpf, c2, I3, d2, f1, ft, htl⟩ := I1.taken
  obtain ⟨_, _, _, _, _, e00, -⟩ := id I1
  obtain ⟨tpf', stf, wdf, tbf, otf, e0, a1, a2, a3, e1, b1, e2, e3, e4, b2, e5, b3, Fx⟩ := id I3
  have d := d1.tn d2
  unfold fX7_height
  rw [c1]
  simp only [Option.bind_some]
  rw [oo e00, c2]
  simp only [Option.bind_some]
  rw [oo e0]
  rcases mhas e0 e2 b2 s with ⟨q, e⟩ | ⟨j, k, r, F, hj, rfl, q, e, g, s1, s2, s3⟩
  · left
    rw [e, call_ok, if_pos rfl]
    exact ⟨(fun k r F h9 => by rw [q] at h9; cases h9), h3, rfl, I3, d⟩
  obtain ⟨n1, n2, n3, n4, n5⟩ := g.nums
  obtain ⟨g1, g2, g3, g4, gF⟩ := id g
  rw [e, call_ok, if_neg one_ne, oo e0]
  have hA := areStates_m e0 f1 e2 hj s1 g2 htl ft (lo := 1) (hi := 20) (by decide) (by decide)
  rw [← l1, ← show (20 : Int32) = nI 20 from rfl] at hA
  rcases hA with ⟨z1, z2⟩ | ⟨z1, z2⟩
  case inr =>
    left
    rw [z2, call_ok, if_pos rfl]
    exact ⟨fun k' r' F' h9 h8 => by rw [q] at h9; cases h9; exact z1 h8, h3, rfl, I3, d⟩
  right
  have hfew : Few k tl tp := z1
  obtain ⟨y1, y2, y3⟩ := z1
  have hn : 0 < tl := y1
  obtain ⟨cf, e6⟩ := Fx.r26
  obtain ⟨nf, e7⟩ := Fx.r27
  obtain ⟨lc, e36⟩ := Fx.r36
  obtain ⟨pl, e37⟩ := Fx.r37
  rw [z2, call_ok, if_neg one_ne, oo e0, takeCells_m e0 f1 e6 htl, Option.bind_some]
  have hcf : ∀ i, i < tl → fillN tpf tl cf i = nI (tp i) := fun i hi => by
    have hz := y3 i hi
    simp only [fillN, if_pos hi]
    rw [(ft i hi).1, byM_small _ (by omega)]
  have E0 : ∀ u v, ((h3.set 26 u).set 37 v)[20]? = some (mob 0 (nI 0) (nI tl) (nI ol) (nI rd)) := fun u v => st_n' (by decide) (st_n' (by decide) e0)
  have kA := upto (fun f y => fX7_height_w36 f 20 (nI j) (nI y) ((h3.set 26 (aC 0 100 (fillN tpf tl cf))).set 37 (aC 0 65536 (fillN (fun _ => -1) y pl)))) 65536 (fX7_height_b55 20 (nI j) ((h3.set 26 (aC 0 100 (fillN tpf tl cf))).set 37 (aC 0 65536 (fillN (fun _ => -1) 65536 pl)))) (fun f y hy => by
    rw [fX7_height_w36]
    simp only []
    rw [show (65536 : Int32) = nI 65536 from rfl, if_leI (by omega) (by omega), if_neg (by omega), o_20 (E0 _ _)]
    simp only [Option.bind_some]
    rw [sI_of (by decide) (st_s (st_n' (by decide) e37)) (by omega) (by decide), x_nar0]
    simp only [Option.bind_some]
    rw [List.set_set, nI_p1, show upd (fillN (fun _ => -1) y pl) y (-1) = fillN (fun _ => -1) (y + 1) pl from fillN_s (f := fun _ => -1)]) (fun f => by
    rw [fX7_height_w36]
    simp only []
    rw [show (65536 : Int32) = nI 65536 from rfl, if_leI (by omega) (by omega), if_pos (Nat.le_refl _)]) 0 FUEL (by omega) (fuel_big (by omega))
  rw [fillN_0, st_id (st_n' (by decide) e37)] at kA
  have hco : ∀ t, coN k r F tl tp t < 2 ^ 41 := coN_lt g hn y2 y3
  generalize hcoE : coN k r F tl tp = co at hco
  have hcoT : ∀ t, cd k (gro k r F tl tp t) tl = co t := fun t => by rw [← hcoE]; rfl
  -- the invariant of the trail
  have mFx : ∀ {H : Hp} {f6 f7 f37 : Nat → Int32} {f36 : Nat → Int64}, DH h3 H → H[26]? = some (aC 0 100 f6) → H[27]? = some (aC 0 100 f7) → H[36]? = some (lC 20002 f36) → H[37]? = some (aC 0 65536 f37) → MFix H := fun {H f6 f7 f37 f36} D x6 x7 x36 x37 => by
    obtain ⟨f26, f27, f28, f29, f30, f31, f32, f33, f34, f35, f36, f37, f38, f39, f40, f41, f42⟩ := Fx
    exact ⟨⟨_, x6⟩, ⟨_, x7⟩, f28.imp fun _ q => (D.2 28 (by decide) (by decide) (by decide) (by decide)).trans q, f29.imp fun _ q => (D.2 29 (by decide) (by decide) (by decide) (by decide)).trans q, f30.imp fun _ q => (D.2 30 (by decide) (by decide) (by decide) (by decide)).trans q, f31.imp fun _ q => (D.2 31 (by decide) (by decide) (by decide) (by decide)).trans q, f32.imp fun _ q => (D.2 32 (by decide) (by decide) (by decide) (by decide)).trans q, f33.imp fun _ q => (D.2 33 (by decide) (by decide) (by decide) (by decide)).trans q, f34.imp fun _ q => (D.2 34 (by decide) (by decide) (by decide) (by decide)).trans q, f35.imp fun _ q => (D.2 35 (by decide) (by decide) (by decide) (by decide)).trans q, ⟨_, x36⟩, ⟨_, x37⟩, f38.imp fun _ q => (D.2 38 (by decide) (by decide) (by decide) (by decide)).trans q, f39.imp fun _ q => (D.2 39 (by decide) (by decide) (by decide) (by decide)).trans q, f40.imp fun _ q => (D.2 40 (by decide) (by decide) (by decide) (by decide)).trans q, f41.imp fun _ q => (D.2 41 (by decide) (by decide) (by decide) (by decide)).trans q, f42.imp fun _ q => (D.2 42 (by decide) (by decide) (by decide) (by decide)).trans q⟩
  have key := uptoX (fun f t H => fX7_height_w57 f 20 (nI j) (nI t) H) 20001 (fun t H => DH h3 H ∧ (∃ cf, H[26]? = some (aC 0 100 cf) ∧ ∀ x, x < tl → cf x = nI (gro k r F tl tp t x)) ∧ (∃ nf, H[27]? = some (aC 0 100 nf)) ∧ (∃ fc, H[36]? = some (lC 20002 fc) ∧ ∀ p, p < t → fc p = lN (co p)) ∧ (∃ pf dd, H[37]? = some (aC 0 65536 pf) ∧ HT2 co t pf dd) ∧ ∀ a b, a < b → b < t → co a ≠ co b) (fun t rr => ∃ p H', t ≤ 20000 ∧ FR co p t ∧ rr = some (nI p, H') ∧ MInv H' 0 (nI tl) 0 tp sl ol of (t - p) ∧ Dn h H') (by
    rintro f t H ht ⟨D, ⟨cf, x6, hc6⟩, ⟨nf, x7⟩, ⟨fc, x36, hfc⟩, ⟨pf, dd, x37, T⟩, hdis⟩
    have f0 : H[20]? = some (mob 0 (nI 0) (nI tl) (nI ol) (nI rd)) := (D.2 20 (by decide) (by decide) (by decide) (by decide)).trans e0
    have f2 : H[22]? = some (aC 0 6 stf) := (D.2 22 (by decide) (by decide) (by decide) (by decide)).trans e2
    have f3 : H[23]? = some (aC 0 6 wdf) := (D.2 23 (by decide) (by decide) (by decide) (by decide)).trans e3
    have f4 : H[24]? = some (aC 0 189 tbf) := (D.2 24 (by decide) (by decide) (by decide) (by decide)).trans e4
    obtain ⟨hs1, hs2⟩ := hsN_ok (co t)
    obtain ⟨e, he, hP, hmin⟩ := T.end (by omega) (co t)
    have hbeg : fX7_height_w57 (f + 1) 20 (nI j) (nI t) H = fX7_height_w89 (fX7_height_w57 f) FUEL 20 (nI j) (nI t) (lN (co t)) (nI ((hsN (co t) + 0) % 65536)) H := by
      rw [fX7_height_w57]
      simp only []
      rw [show (20000 : Int32) = nI 20000 from rfl, if_ltI (by omega) (by omega), if_neg (by omega), o_3 f0, Option.bind_some, oo f0, codeOf_m f0 f2 hj s1 g2 x6 htl (gro_lt g hn y3 t) hc6, call_ok, setv_ok, hcoT]
      rw [Nat.add_zero, Nat.mod_eq_of_lt hs1, ← hs2]
      rfl
    have prb := scan_at (fun q2 i => fX7_height_w89 (fX7_height_w57 f) q2 20 (nI j) (nI t) (lN (co t)) (nI ((hsN (co t) + i) % 65536)) H) 65536 (fun i => Pb co t pf (co t) i) (fun i => fX7_height_b128 (fX7_height_w57 f) 20 (nI j) (nI t) (lN (co t)) (nI ((hsN (co t) + i) % 65536)) H) (fun q2 i hi hb => by
      have hm : (hsN (co t) + i) % 65536 < 65536 := Nat.mod_lt _ (by decide)
      rcases T.1 _ hm with z | ⟨p, w1, w2, w3⟩
      · exact absurd (Or.inl z) hb
      have hnc : co p ≠ co t := fun z => hb (Or.inr ⟨p, w1, w2, z⟩)
      have hp1 := hco p
      have ht1 := hco t
      rw [fX7_height_w89]
      simp only []
      rw [o_20 f0]
      simp only [Option.bind_some]
      rw [aI_of x37 hm (by decide), w2]
      simp only [Option.bind_some]
      rw [if_neg (nI_nn (by omega)), o_19 f0]
      simp only [Option.bind_some]
      rw [aL_of (by decide) x36 (by omega) (by decide), hfc p w1]
      simp only [Option.bind_some]
      rw [if_neg (fun y => hnc ((lcmp_eq (by omega) (by omega)).mp y)), nI_p1, show (65536 : Int32) = nI 65536 from rfl, iRem_nI (by omega) (by decide) (by decide)]
      rw [show ((hsN (co t) + i) % 65536 + 1) % 65536 = (hsN (co t) + (i + 1)) % 65536 by omega]) (fun q2 i hi hb => by
      have hm : (hsN (co t) + i) % 65536 < 65536 := Nat.mod_lt _ (by decide)
      have ht1 := hco t
      rw [fX7_height_w89]
      simp only []
      rw [o_20 f0]
      simp only [Option.bind_some]
      rw [aI_of x37 hm (by decide)]
      simp only [Option.bind_some]
      rcases hb with z | ⟨p, w1, w2, w3⟩
      · rw [z, if_pos (by decide)]
      · have hp1 := hco p
        rw [w2, if_neg (nI_nn (by omega)), o_19 f0]
        simp only [Option.bind_some]
        rw [aL_of (by decide) x36 (by omega) (by decide), hfc p w1]
        simp only [Option.bind_some]
        rw [if_pos ((lcmp_eq (by omega) (by omega)).mpr w3)]) 0 FUEL e (by omega) he hP (fun i _ hi => hmin i hi) (fuel_big (by omega))
    have hm : (hsN (co t) + e) % 65536 < 65536 := Nat.mod_lt _ (by decide)
    have hrun := hbeg.trans prb
    rcases hP with hz | ⟨p, w1, w2, w3⟩
    · left
      have hnone := T.none (by omega) hmin hz
      have x6' : ((H.set 36 (lC 20002 (vp_updL fc t (lN (co t))))).set 37 (aC 0 65536 (upd pf ((hsN (co t) + e) % 65536) (nI t))))[26]? = some (aC 0 100 cf) := st_n' (by decide) (st_n' (by decide) x6)
      have x7' : ((H.set 36 (lC 20002 (vp_updL fc t (lN (co t))))).set 37 (aC 0 65536 (upd pf ((hsN (co t) + e) % 65536) (nI t))))[27]? = some (aC 0 100 nf) := st_n' (by decide) (st_n' (by decide) x7)
      have f0' : ((H.set 36 (lC 20002 (vp_updL fc t (lN (co t))))).set 37 (aC 0 65536 (upd pf ((hsN (co t) + e) % 65536) (nI t))))[20]? = some (mob 0 (nI 0) (nI tl) (nI ol) (nI rd)) := st_n' (by decide) (st_n' (by decide) f0)
      have hst := step_m g f0' (st_n' (by decide) (st_n' (by decide) f2)) (st_n' (by decide) (st_n' (by decide) f3)) (st_n' (by decide) (st_n' (by decide) f4)) hj s1 s2 s3 x6' x7' hn htl (gro_lt g hn y3 t) hc6
      refine ⟨(((H.set 36 (lC 20002 (vp_updL fc t (lN (co t))))).set 37 (aC 0 65536 (upd pf ((hsN (co t) + e) % 65536) (nI t)))).set 27 (aC 0 100 (fillN (fun x => nI (F (wd k (gro k r F tl tp t) tl r x))) tl nf))).set 26 (aC 0 100 (fillN (fillN (fun x => nI (F (wd k (gro k r F tl tp t) tl r x))) tl nf) tl cf)), ?_, (((D.st (Or.inr (Or.inr (Or.inl rfl)))).st (Or.inr (Or.inr (Or.inr rfl)))).st (Or.inr (Or.inl rfl))).st (Or.inl rfl), ⟨_, st_s (st_n' (by decide) x6'), fun x hx => by simp [fillN, hx, gro]⟩, ⟨_, st_n' (by decide) (st_s x7')⟩, ⟨_, st_n' (by decide) (st_n' (by decide) (st_n' (by decide) (st_s x36))), fun p hp => ?_⟩, ⟨_, _, st_n' (by decide) (st_n' (by decide) (st_s (st_n' (by decide) x37))), T.add (by omega) hmin hz⟩, fun a b hab hb => ?_⟩
      · refine hrun.trans ?_
        unfold fX7_height_b128
        rw [o_20 f0]
        simp only [Option.bind_some]
        rw [aI_of x37 hm (by decide), hz]
        simp only [Option.bind_some]
        rw [if_pos (show (-1 : Int32) < 0 by decide), o_19 f0]
        simp only [Option.bind_some]
        rw [sL_of (by decide) x36 (show t < 20002 by omega) (by decide)]
        simp only [Option.bind_some]
        rw [o_20 (st_n' (by decide) f0)]
        simp only [Option.bind_some]
        rw [sI_of (by decide) (st_n' (by decide) x37) hm (by decide), x_nar0]
        simp only [Option.bind_some]
        rw [o_3 f0']
        simp only [Option.bind_some]
        rw [oo f0', hst, Option.bind_some, nI_p1]
      · by_cases w : p = t
        · rw [w, updL_self]
        · rw [updL_ne w, hfc p (by omega)]
      · by_cases w : b = t
        · rw [w]; exact hnone a (by omega)
        · exact hdis a b hab (by omega)
    · right
      have fr : FR co p t := ⟨w1, w3, hdis⟩
      refine ⟨_, rfl, p, H.set 20 (mob 0 (nI 0) (nI tl) (nI ol) (nI (t - p))), by omega, fr, ?_, ?_, (d.tn D.dn).st (by decide)⟩
      · refine hrun.trans ?_
        unfold fX7_height_b128
        rw [o_20 f0]
        simp only [Option.bind_some]
        rw [aI_of x37 hm (by decide), w2]
        simp only [Option.bind_some]
        rw [if_neg (nI_nn (by omega))]
        unfold fX7_height_b138
        rw [o_20 f0]
        simp only [Option.bind_some]
        rw [aI_of x37 hm (by decide), w2]
        simp only [Option.bind_some]
        rw [pk_sub (by omega), q_21 f0]
        simp only [Option.bind_some]
        rw [o_20 (st_s f0)]
        simp only [Option.bind_some]
        rw [aI_of (st_n' (by decide) x37) hm (by decide), w2]
        rfl
      · have lo : ∀ {i : Nat} {c : HC}, i = 21 ∨ i = 22 ∨ i = 23 ∨ i = 24 ∨ i = 25 → h3[i]? = some c → (H.set 20 (mob 0 (nI 0) (nI tl) (nI ol) (nI (t - p))))[i]? = some c := fun hi ee => st_n' (by omega) ((D.2 _ (by omega) (by omega) (by omega) (by omega)).trans ee)
        exact ⟨tpf', stf, wdf, tbf, otf, st_s f0, a1, a2, by omega, lo (by decide) e1, b1, lo (by decide) e2, lo (by decide) e3, lo (by decide) e4, b2, lo (by decide) e5, b3, (mFx D x6 x7 x36 x37).o (by decide)⟩) 0 FUEL ((h3.set 26 (aC 0 100 (fillN tpf tl cf))).set 37 (aC 0 65536 (fillN (fun _ => -1) 65536 pl))) (by omega) (fuel_big (by omega)) ⟨(DH.rf.st (Or.inl rfl)).st (Or.inr (Or.inr (Or.inr rfl))), ⟨_, st_n' (by decide) (st_s e6), hcf⟩, ⟨nf, st_n' (by decide) (st_n' (by decide) e7)⟩, ⟨lc, st_n' (by decide) (st_n' (by decide) e36), fun p hp => by omega⟩, ⟨_, fun _ => 0, st_s (st_n' (by decide) e37), ⟨fun a ha => Or.inl (by simp [fillN, ha]), fun p hp => by omega⟩⟩, fun a b _ hb => by omega⟩
  have hbeg : fX7_height_w36 FUEL 20 (nI j) (0 : Int32) (h3.set 26 (aC 0 100 (fillN tpf tl cf))) = fX7_height_w57 FUEL 20 (nI j) (nI 0) ((h3.set 26 (aC 0 100 (fillN tpf tl cf))).set 37 (aC 0 65536 (fillN (fun _ => -1) 65536 pl))) := by
    refine Eq.trans (show fX7_height_w36 FUEL 20 (nI j) (nI 0) _ = _ from kA) ?_
    unfold fX7_height_b55
    rw [l0]
  rcases key with ⟨fu, H, k1, D, ⟨cf, x6, hc6⟩, ⟨nf, x7⟩, ⟨fc, x36, hfc⟩, ⟨pf, dd, x37, T⟩, hdis⟩ | ⟨t, rr, k1, p, H', k2, k3, k4, k5, k6⟩
  · have IH : MInv H 0 (nI tl) 0 tp sl ol of rd := I3.scr (fun i h1 h2 => D.2 i (by omega) (by omega) (by omega) (by omega)) (mFx D x6 x7 x36 x37)
    refine ⟨k, r, F, H, q, g, hfew, d.tn D.dn, Or.inr ⟨fun p q' hpq hq => ?_, ?_, IH⟩⟩
    · rw [hcoE]; exact hdis p q' hpq (by omega)
    · refine (hbeg.trans k1).trans ?_
      rw [fX7_height_w57]
      simp only []
      rw [show (20000 : Int32) = nI 20000 from rfl, if_ltI (by omega) (by omega), if_pos (by omega)]
  · refine ⟨k, r, F, H', q, g, hfew, k6, Or.inl ⟨p, t, k2, by rw [hcoE]; exact k3, (hbeg.trans k1).trans k4, k5⟩⟩
end MHT

section SW
variable {H : Hp} {f : Nat → Nat → Nat} {k wh : Nat} {L : List En}
theorem before_ok (J : SJ L H) (o : LOK f k wh L) (hf : ∀ S c, f S c < 512) (hw : wh < 512) {w : Int32} (e : H[13]? = some (so w)) {j : Nat} {e1 e2 : En} (h1 : L[j]? = some e1) (h2 : L[e1.2.1]? = some e2) : fX2_before H 13 (nI e1.1) = some (nI e2.1, H) := by
  obtain ⟨qf, cf, bf, y14, y15, y16, J1, J2⟩ := J
  obtain ⟨-, ⟨e3, y3, y4⟩, -⟩ := J1 j e1 h1
  have : e3 = e2 := Option.some.inj (y3.symm.trans h2)
  subst this
  have b1 := o.lt hf hw h1
  have b2 := o.lt hf hw h2
  unfold fX2_before
  rw [s1' e]
  simp only [Option.bind_some]
  rw [aI_of y15 (by omega) (by decide), y4]
  simp only [Option.bind_some]
  rw [if_neg (nI_nn (by omega)), show (512 : Int32) = nI 512 from rfl, if_leI (by omega) (by omega), if_neg (by omega)]
theorem pth_s (o : LOK f k wh L) {j : Nat} {e : En} (h : L[j]? = some e) (hj : 0 < j) : pth L j j = pth L e.2.1 e.2.1 ++ [e.2.2] := by
  obtain ⟨b1, b2, e', b3, b4⟩ := o.2.1 j e h hj
  obtain ⟨q, rfl⟩ : ∃ q, j = q + 1 := ⟨j - 1, by omega⟩
  rw [pth, if_neg (by omega), h]
  show pth L q e.2.1 ++ [e.2.2] = _
  rw [pth_pre o (fun _ _ z => z) q e.2.1 e.2.1 e' b3 (by omega) (Nat.le_refl _)]
theorem count_ok (J : SJ L H) (o : LOK f k wh L) (hf : ∀ S c, f S c < 512) (hw : wh < 512) (e : H[13]? = some (so (nI wh))) : ∀ (j fuel n : Nat) (e1 : En), L[j]? = some e1 → j < fuel → n + j < 512 → fX2_writeMissed_w4 fuel 13 7 (nI n) (nI e1.1) H = fX2_writeMissed_b31 13 7 (nI (n + (pth L j j).length)) H := by
  intro j
  induction j using Nat.strongRecOn with
  | ind j ih =>
    intro fuel n e1 h1 hfu hn
    obtain ⟨q, rfl⟩ : ∃ q, fuel = q + 1 := ⟨fuel - 1, by omega⟩
    have b1 := o.lt hf hw h1
    rw [fX2_writeMissed_w4]
    simp only []
    rw [s4' e]
    simp only [Option.bind_some]
    rw [if_eqI (by omega) (by omega)]
    by_cases hj : j = 0
    · subst hj
      have : ((wh, 0, 0) : En) = e1 := Option.some.inj (o.1.symm.trans h1)
      subst this
      rw [if_pos rfl]
      rfl
    · obtain ⟨c1, c2, e2, c3, c4⟩ := o.2.1 j e1 h1 (by omega)
      have hne : e1.1 ≠ wh := fun z => hj (o.2.2 j 0 e1 (wh, 0, 0) h1 o.1 z)
      rw [if_neg hne, show (512 : Int32) = nI 512 from rfl, if_leI (by omega) (by omega), if_neg (by omega), sok e, before_ok J o hf hw e h1 c3, call_ok, nI_p1, ih e1.2.1 c1 q (n + 1) e2 c3 (by omega) (by omega), pth_s o h1 (by omega), List.length_append, List.length_singleton]
      rw [show n + 1 + (pth L e1.2.1 e1.2.1).length = n + ((pth L e1.2.1 e1.2.1).length + 1) by omega]
theorem SJ.set7 {u : HC} (J : SJ L H) : SJ L (H.set 7 u) := by
  obtain ⟨qf, cf, bf, y14, y15, y16, J1, J2⟩ := J
  exact ⟨qf, cf, bf, st_n' (by decide) y14, st_n' (by decide) y15, st_n' (by decide) y16, J1, J2⟩
theorem write_ok (J : SJ L H) (o : LOK f k wh L) (hf : ∀ S c, f S c < 512) (hw : wh < 512) (e : H[13]? = some (so (nI wh))) (N : Int32) : ∀ (j fuel : Nat) (e1 : En) (uf : Nat → Int32), L[j]? = some e1 → j < fuel → j < 512 → (∃ u0, H[7]? = some (aC 0 512 u0)) → ∃ uf', fX2_writeMissed_w43 fuel 13 7 N (nI e1.1) (nI (pth L j j).length - 1) (H.set 7 (aC 0 512 uf)) = some (N, H.set 7 (aC 0 512 uf')) ∧ (∀ i, i < (pth L j j).length → uf' i = nI ((pth L j j).getD i 0)) ∧ ∀ i, (pth L j j).length ≤ i → uf' i = uf i := by
  intro j
  induction j using Nat.strongRecOn with
  | ind j ih =>
    intro fuel e1 uf h1 hfu hj5 h7
    obtain ⟨u0, h70⟩ := h7
    obtain ⟨q, rfl⟩ : ∃ q, fuel = q + 1 := ⟨fuel - 1, by omega⟩
    have b1 := o.lt hf hw h1
    rw [fX2_writeMissed_w43]
    simp only []
    by_cases hj : j = 0
    · subst hj
      refine ⟨uf, ?_, fun i hi => by simp [pth] at hi, fun i _ => rfl⟩
      rw [show (pth L 0 0).length = 0 from rfl, if_pos (by decide)]
    · obtain ⟨c1, c2, e2, c3, c4⟩ := o.2.1 j e1 h1 (by omega)
      have hp := pth_s o h1 (by omega)
      have hlen : (pth L j j).length = (pth L e1.2.1 e1.2.1).length + 1 := by rw [hp, List.length_append, List.length_singleton]
      have hle := pth_len o j j e1 h1 (Nat.le_refl _)
      have J7 : SJ L (H.set 7 (aC 0 512 uf)) := J.set7
      obtain ⟨qf, cf, bf, y14, y15, y16, J1, J2⟩ := id J
      obtain ⟨-, -, y5⟩ := J1 j e1 h1
      have e13 : ∀ u, (H.set 7 u)[13]? = some (so (nI wh)) := fun u => st_n' (by decide) e
      rw [hlen, i_sub1 (by omega), Nat.add_sub_cancel, if_neg (nI_nn (by omega)), s2' (e13 _)]
      simp only [Option.bind_some]
      rw [aI_of (st_n' (by decide) y16) (by omega) (by decide), y5 (by omega)]
      simp only [Option.bind_some]
      rw [sI_of (by decide) (st_s h70) (by omega) (by decide), x_nar0, List.set_set]
      simp only [Option.bind_some]
      rw [sok (e13 _), before_ok J.set7 o hf hw (e13 _) h1 c3, call_ok, i_m1]
      obtain ⟨uf', z1, z2, z3⟩ := ih e1.2.1 c1 q e2 (upd uf (pth L e1.2.1 e1.2.1).length (nI e1.2.2)) c3 (by omega) (by omega) ⟨u0, h70⟩
      refine ⟨uf', z1, fun i hi => ?_, fun i hi => ?_⟩
      · by_cases q1 : i < (pth L e1.2.1 e1.2.1).length
        · rw [z2 i q1, hp, List.getD_eq_getElem?_getD, List.getD_eq_getElem?_getD, List.getElem?_append_left q1]
        · have hi2 : i = (pth L e1.2.1 e1.2.1).length := by omega
          rw [z3 i (by omega), hi2, upd_self, hp, List.getD_eq_getElem?_getD, List.getElem?_append_right (Nat.le_refl _), Nat.sub_self]
          rfl
      · rw [z3 i (by omega), upd_ne (by omega)]
theorem writeMissed_ok (J : SJ L H) (o : LOK f k wh L) (hf : ∀ S c, f S c < 512) (hw : wh < 512) (e : H[13]? = some (so (nI wh))) {u0 : Nat → Int32} (e7 : H[7]? = some (aC 0 512 u0)) {j : Nat} {e1 : En} (h1 : L[j]? = some e1) (h0 : e1.1 = 0) : ∃ uf', fX2_writeMissed H 13 7 = some (nI (pth L j j).length, H.set 7 (aC 0 512 uf')) ∧ (pth L j j).length < 512 ∧ ∀ i, i < (pth L j j).length → uf' i = nI ((pth L j j).getD i 0) := by
  have hl := o.len hf hw
  have hj := (List.getElem?_eq_some_iff.mp h1).1
  have hle := pth_len o j j e1 h1 (Nat.le_refl _)
  have hc := count_ok J o hf hw e j FUEL 0 e1 h1 (fuel_big (by omega)) (by omega)
  obtain ⟨uf', z1, z2, -⟩ := write_ok J o hf hw e (nI (pth L j j).length) j FUEL e1 u0 h1 (fuel_big (by omega)) (by omega) ⟨u0, e7⟩
  refine ⟨uf', ?_, by omega, z2⟩
  rw [h0] at hc z1
  unfold fX2_writeMissed
  rw [l0, hc, Nat.zero_add]
  unfold fX2_writeMissed_b31
  rw [aN_of e7 (by decide)]
  simp only [Option.bind_some]
  rw [setv_ok, iMin_nI (by omega) (by omega), Nat.min_eq_left (by omega)]
  rw [st_id e7] at z1
  exact z1
end SW
section CM
variable {SV : SVP} {h : Hp} {tl : Nat} {tp : Nat → Nat} {sl : SL} {ol : Nat} {of : Nat → Nat} {rd tr su : Nat}
/-- the row that none leads to, of a rule -/
def MisOf (k r : Nat) (F : Nat → Nat) (y : List Nat) : Prop := MisRow (fo k (k ^ (r - 1)) F) k (whN k r) y
/-- the search ends and the empty set is not met -/
def NoMis (k r : Nat) (F : Nat → Nat) : Prop := ∃ s, Clo (fo k (k ^ (r - 1)) F) k (whN k r) s ∧ (bst (fo k (k ^ (r - 1)) F) k (whN k r) s).length * k ≤ s ∧ ¬ 0 ∈ stsL (bst (fo k (k ^ (r - 1)) F) k (whN k r) s)
theorem misses_c {k r : Nat} {F : Nat → Nat} {a he th : Nat} {tl' ol' rl' : Int32} (I : CInv SV h tl tp sl ol of rd tr su) (e4 : h[4]? = some (mo tl' ol' rl' he th tr su)) (cf : CFix h) (g : GR k r F) (ha : 44 ≤ a) (R : RuleAt h a (a + 1) k r F) : ∃ H, CInv SV H tl tp sl ol of rd tr su ∧ Up h H ∧ (∀ i, i < 13 ∨ 17 < i → H[i]? = h[i]?) ∧ CFix H ∧ H[13]? = some (so (nI (whN k r))) ∧ ((fX2_missesSome h 13 a = some (1, H) ∧ ∃ (s j : Nat) (e : En), SJ (bst (fo k (k ^ (r - 1)) F) k (whN k r) s) H ∧ (bst (fo k (k ^ (r - 1)) F) k (whN k r) s)[j]? = some e ∧ e.1 = 0) ∨ (fX2_missesSome h 13 a = some (0, H) ∧ NoMis k r F)) := by
  obtain ⟨w, e13⟩ := cf.2.2.2.2.2.1
  obtain ⟨f14, e14⟩ := cf.2.2.2.2.2.2.1
  obtain ⟨f15, e15⟩ := cf.2.2.2.2.2.2.2.1
  obtain ⟨f16, e16⟩ := cf.2.2.2.2.2.2.2.2.1
  obtain ⟨f17, e17⟩ := cf.2.2.2.2.2.2.2.2.2.1
  obtain ⟨rf, H, s, D, J, z⟩ := missesSome_ok g ha R e13 e14 e15 e16 e17
  have hl : H.length = h.length := by rw [D.1]; simp
  have hk : ∀ i, i < 13 ∨ 17 < i → H[i]? = h[i]? := fun i hi => by
    rw [D.2 i (by omega) (by omega) (by omega), st_n (by omega), st_n (by omega)]
  have h13 : H[13]? = some (so (nI (whN k r))) := (D.2 13 (by decide) (by decide) (by decide)).trans (st_s (st_n' (by decide) e13))
  have h17 : H[17]? = some (aC 0 27 rf) := (D.2 17 (by decide) (by decide) (by decide)).trans (st_n' (by decide) (st_s e17))
  have cfH : CFix H := by
    obtain ⟨qf, cf', bf, y14, y15, y16, -⟩ := J
    obtain ⟨x8, x9, x10, x11, x12, -, -, -, -, -, x18, x19⟩ := cf
    exact ⟨x8.imp fun _ q => (hk 8 (by decide)).trans q, x9.imp fun _ q => (hk 9 (by decide)).trans q, x10.imp fun _ q => (hk 10 (by decide)).trans q, x11.imp fun _ q => q.imp fun _ q => (hk 11 (by decide)).trans q, x12.imp fun _ q => (hk 12 (by decide)).trans q, ⟨_, h13⟩, ⟨_, y14⟩, ⟨_, y15⟩, ⟨_, y16⟩, ⟨_, h17⟩, (hk 18 (by decide)).trans x18, x19.imp fun _ q => (hk 19 (by decide)).trans q⟩
  obtain ⟨I', u⟩ := I.scr hl (fun i hi => hk i (by omega)) cfH
  refine ⟨H, I', u, hk, cfH, h13, ?_⟩
  rcases z with ⟨z1, z2⟩ | ⟨z1, z2⟩
  · left
    obtain ⟨j, e, y1, y2⟩ := stsL_get.mp z2
    exact ⟨z1, s, j, e, J, y1, y2⟩
  · right
    exact ⟨z1, s, z2⟩
theorem c_missed (I : CInv SV h tl tp sl ol of rd tr su) (s : Int32) : (ruleOf sl s = none ∧ fX6_missed h 4 s = some (-1, h)) ∨ (∃ k r F, ruleOf sl s = some (k, r, F) ∧ GR k r F ∧ ((NoMis k r F ∧ ∃ h', fX6_missed h 4 s = some (0, h') ∧ CInv SV h' tl tp sl ol of rd tr su ∧ Up h h') ∨ (∃ y h', MisOf k r F y ∧ y.length < 512 ∧ fX6_missed h 4 s = some (nI y.length, h') ∧ CInv SV h' tl tp sl y.length (fun i => y.getD i 0) rd tr su ∧ Up h h'))) := by
  obtain ⟨he, th, sf, tf, uf, e2, e3, e4, a1, a2, a3, a4, e5, a5, e6, a6, e7, a7, cf, aT, aS, aL⟩ := id I
  unfold fX6_missed
  rw [mok e4]
  rcases ruleIn_st e4 e5 a5 s with ⟨q, e⟩ | ⟨a, k, r, F, q, e, ha, g, R⟩
  · left
    rw [e, call_ok, if_pos rfl]
    exact ⟨q, rfl⟩
  right
  refine ⟨k, r, F, q, g, ?_⟩
  obtain ⟨n1, n2, n3, n4, n5⟩ := g.nums
  obtain ⟨g1, g2, g3, g4, gF⟩ := id g
  have hP := pow9 n2
  rw [e, call_ok, if_neg (by omega), m10 e4]
  simp only [Option.bind_some]
  obtain ⟨w0, e13⟩ := cf.2.2.2.2.2.1
  obtain ⟨H, I', u, hk, cfH, h13, z⟩ := misses_c I e4 cf g ha R
  rw [oK_of (by decide) e13]
  rcases z with ⟨z1, s', j, e1, J, y1, y2⟩ | ⟨z1, z2⟩
  · right
    have hfl : ∀ S c, fo k (k ^ (r - 1)) F S c < 512 := fun S c => Nat.lt_of_lt_of_le (fo_lt (by omega)) hP
    have hwl : whN k r < 512 := Nat.lt_of_lt_of_le (whN_lt k r) hP
    have o := bst_ok (f := fo k (k ^ (r - 1)) F) (wh := whN k r) (show 0 < k by omega) s'
    have f7 : H[7]? = some (aC 0 512 uf) := (hk 7 (by decide)).trans e7
    have f4 : H[4]? = some (mo (nI tl) (nI ol) (nI rd) he th tr su) := (hk 4 (by decide)).trans e4
    obtain ⟨uf', w1', w2', w3'⟩ := writeMissed_ok J o hfl hwl h13 f7 y1 y2
    obtain ⟨p1, p2'⟩ := pth_ok o j j e1 y1 (Nat.le_refl _)
    refine ⟨pth (bst (fo k (k ^ (r - 1)) F) k (whN k r) s') j j, (H.set 7 (aC 0 512 uf')).set 4 (mo (nI tl) (nI (pth (bst (fo k (k ^ (r - 1)) F) k (whN k r) s') j j).length) (nI rd) he th tr su), ⟨s', j, e1, y1, y2, rfl⟩, w2', ?_, ?_, (u.tr (Up.set (by decide))).tr (Up.set (by decide))⟩
    · rw [z1, call_ok, if_neg one_ne, m10 f4]
      simp only [Option.bind_some]
      rw [m3 f4]
      simp only [Option.bind_some]
      rw [sok h13, w1', call_ok, p4 (st_n' (by decide) f4)]
      simp only [Option.bind_some]
      rw [m4 (st_s (st_n' (by decide) f4))]
      rfl
    · refine I'.re ((Up.set (by decide)).tr (Up.set (by decide))) ?_ (st_s (st_n' (by decide) f4)) (Nat.le_refl _) (by omega) a3 a4 (st_n' (by decide) (st_s f7)) (fun i hi => ⟨w3' i hi, ?_⟩) ((cfH.o (by decide)).o (by decide))
      · rintro i (rfl | rfl | rfl | rfl) <;> rw [st_n (by decide), st_n (by decide)]
      · have hm : (pth (bst (fo k (k ^ (r - 1)) F) k (whN k r) s') j j).getD i 0 < k := by
          rw [List.getD_eq_getElem?_getD, List.getElem?_eq_getElem hi]
          exact p1 _ (List.getElem_mem hi)
        omega
  · left
    refine ⟨z2, H, ?_, I', u⟩
    rw [z1, call_ok, if_pos rfl]
end CM

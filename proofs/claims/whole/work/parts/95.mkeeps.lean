section MK
variable {h : Hp} {thr tl' sz om rd' : Int32} {stf wdf tbf tpf : Nat → Int32} {j k r : Nat} {F : Nat → Nat}
theorem overlaps_m (g : GR k r F) (e0 : h[20]? = some (mob thr tl' sz om rd')) (e2 : h[22]? = some (aC 0 6 stf)) (e3 : h[23]? = some (aC 0 6 wdf)) (hj : j < 6) (s1 : stf j = nI k) (s2 : wdf j = nI r) : fX7_overlaps h 20 (nI j) = some (nI (k ^ (r - 1)), h) := by
  obtain ⟨n1, n2, n3, n4, n5⟩ := g.nums
  have g3 := g.2.2.1
  unfold fX7_overlaps
  rw [o_4 e0]
  simp only [Option.bind_some]
  rw [aI_of e2 hj (by decide), s1]
  simp only [Option.bind_some]
  rw [o_5 e0]
  simp only [Option.bind_some]
  rw [aI_of e3 hj (by decide), s2]
  simp only [Option.bind_some]
  rw [i_sub1 g3, mpower (by omega) (by omega), call_ok]
theorem then_m (g : GR k r F) (e0 : h[20]? = some (mob thr tl' sz om rd')) (e2 : h[22]? = some (aC 0 6 stf)) (e3 : h[23]? = some (aC 0 6 wdf)) (hj : j < 6) (s1 : stf j = nI k) (s2 : wdf j = nI r) {u x : Nat} (hu : u < 1000) (hx : x < 1000) : fX7_then h 20 (nI j) (nI u) (nI x) = some (nI ((u * k + x) % k ^ (r - 1)), h) := by
  obtain ⟨n1, n2, n3, n4, n5⟩ := g.nums
  obtain ⟨g1, g2, g3, g4, gF⟩ := id g
  have hb : k * u < 5000 := by
    have : k * u ≤ 4 * u := Nat.mul_le_mul_right u g2
    omega
  unfold fX7_then
  rw [o_4 e0]
  simp only [Option.bind_some]
  rw [aI_of e2 hj (by decide), s1]
  simp only [Option.bind_some]
  rw [oo e0, overlaps_m g e0 e2 e3 hj s1 s2, call_ok, pk_mul, nI_add, iRem_nI (by omega) n3 (by omega), Nat.mul_comm k]
theorem gain_m (g : GR k r F) (e0 : h[20]? = some (mob thr tl' sz om rd')) (e1 : h[21]? = some (aC 1 100 tpf)) (e2 : h[22]? = some (aC 0 6 stf)) (e3 : h[23]? = some (aC 0 6 wdf)) (e4 : h[24]? = some (aC 0 189 tbf)) (hj : j < 6) (s1 : stf j = nI k) (s2 : wdf j = nI r) (s3 : ∀ w, w < k ^ r → tbf (27 * j + w) = nI (F w)) {W : Nat → Int32} (ht : ∀ i, i < k → tpf i = W i) {w : Nat} (hw : w < k ^ r) : fX7_gain h 20 (nI j) (nI w) = some (gn (k ^ (r - 1)) F W w, h) := by
  obtain ⟨n1, n2, n3, n4, n5⟩ := g.nums
  obtain ⟨g1, g2, g3, g4, gF⟩ := id g
  have hF := gF w hw
  have hd := div_node g hw
  unfold fX7_gain
  rw [o_1 e0]
  simp only [Option.bind_some]
  rw [oo e0, mtells e0 e4 g hj s3 hw, call_ok, aI_of e1 (by omega) (by decide), ht _ hF]
  simp only [Option.bind_some]
  rw [o_1 e0]
  simp only [Option.bind_some]
  rw [oo e0, overlaps_m g e0 e2 e3 hj s1 s2, call_ok, iDiv_nI (by omega) n3 (by omega), aI_of e1 (by omega) (by decide), ht _ hd]
  simp only [Option.bind_some]
  rfl
/-- the levels of the first i nodes -/
def potF (lv : Nat → Int32) (i : Nat) (f : Nat → Int32) : Nat → Int32 := fillN lv i f
end MK
section MKK
variable {h : Hp} {thr sz : Int32} {tl : Nat} {tp : Nat → Nat} {sl : SL} {ol : Nat} {of : Nat → Nat} {rd : Nat}
theorem m_keeps (I : MInv h thr sz tl tp sl ol of rd) (s : Int32) : ((∀ k r F, ruleOf sl s = some (k, r, F) → tl ≠ k) ∧ ∃ h', fX7_keeps h 20 s = some (-1, h') ∧ MInv h' 0 (nI tl) 0 tp sl ol of rd ∧ Dn h h') ∨ (∃ k r F h', ruleOf sl s = some (k, r, F) ∧ GR k r F ∧ tl = k ∧ ((KeepsW k r F (wtB tp) ∧ fX7_keeps h 20 s = some (1, h')) ∨ (¬ KeepsW k r F (wtB tp) ∧ fX7_keeps h 20 s = some (0, h'))) ∧ MInv h' 0 (nI tl) 0 tp sl ol of rd ∧ Dn h h') := by
  obtain ⟨h1, c1, I1, d1⟩ := I.begin
  obtain ⟨h3, tpf, c2, I3, d2, f1, ft, htl⟩ := I1.taken
  obtain ⟨_, _, _, _, _, e00, -⟩ := id I1
  obtain ⟨tpf', stf, wdf, tbf, otf, e0, a1, a2, a3, e1, b1, e2, e3, e4, b2, e5, b3, Fx⟩ := id I3
  have d := d1.tn d2
  unfold fX7_keeps
  rw [c1]
  simp only [Option.bind_some]
  rw [oo e00, c2]
  simp only [Option.bind_some]
  rw [oo e0]
  rcases mhas e0 e2 b2 s with ⟨q, e⟩ | ⟨j, k, r, F, hj, rfl, q, e, g, s1, s2, s3⟩
  · left
    rw [e, call_ok, if_pos rfl]
    exact ⟨(fun k r F h9 => by rw [q] at h9; cases h9), h3, rfl, I3, d⟩
  obtain ⟨n1, n2, n3, n4, n5⟩ := g.nums
  obtain ⟨g1, g2, g3, g4, gF⟩ := id g
  rw [e, call_ok, if_neg one_ne, o_3 e0]
  simp only [Option.bind_some]
  rw [o_4 e0]
  simp only [Option.bind_some]
  rw [aI_of e2 hj (by decide), s1]
  simp only [Option.bind_some]
  rw [if_eqI (by omega) (by omega)]
  by_cases q5 : tl = k
  case neg =>
    left
    rw [if_neg q5]
    refine ⟨fun k' r' F' h9 => ?_, h3, rfl, I3, d⟩
    rw [q] at h9
    cases h9
    exact q5
  right
  rw [if_pos q5, oo e0, overlaps_m g e0 e2 e3 hj s1 s2, call_ok]
  obtain ⟨pf, e42⟩ := Fx.r42
  have hW : ∀ i, i < k → tpf i = wtB tp i := fun i hi => (ft i (by omega)).1
  generalize hLv : (fun u => lvS k (k ^ (r - 1)) r u F (wtB tp) (r - 1)) = lv
  have hlv : ∀ u, lv u = lvS k (k ^ (r - 1)) r u F (wtB tp) (r - 1) := fun u => by rw [← hLv]
  have E0 : ∀ u, (h3.set 42 u)[20]? = some (mob 0 (nI 0) (nI tl) (nI ol) (nI rd)) := fun u => st_n' (by decide) e0
  have E1 : ∀ u, (h3.set 42 u)[21]? = some (aC 1 100 tpf) := fun u => st_n' (by decide) f1
  have E2 : ∀ u, (h3.set 42 u)[22]? = some (aC 0 6 stf) := fun u => st_n' (by decide) e2
  have E3 : ∀ u, (h3.set 42 u)[23]? = some (aC 0 6 wdf) := fun u => st_n' (by decide) e3
  have E4 : ∀ u, (h3.set 42 u)[24]? = some (aC 0 189 tbf) := fun u => st_n' (by decide) e4
  have hgn : ∀ u {w}, w < k ^ r → fX7_gain (h3.set 42 u) 20 (nI j) (nI w) = some (gn (k ^ (r - 1)) F (wtB tp) w, h3.set 42 u) := fun u {w} hw => gain_m g (E0 u) (E1 u) (E2 u) (E3 u) (E4 u) hj s1 s2 s3 hW hw
  have key := upto (fun f u => fX7_keeps_w48 f 20 (nI j) (nI k) (nI (k ^ (r - 1))) (nI u) (h3.set 42 (aC 0 9 (fillN lv u pf)))) (k ^ (r - 1)) (fX7_keeps_b138 20 (nI j) (nI k) (nI (k ^ (r - 1))) (h3.set 42 (aC 0 9 (fillN lv (k ^ (r - 1)) pf)))) (fun f u hu => by
    rw [fX7_keeps_w48]
    simp only []
    rw [if_leI (by omega) (by omega), if_neg (by omega), o_26 (E0 _)]
    simp only [Option.bind_some]
    rw [sI_of (by decide) (st_s e42) (by omega) (by decide), x_nar0]
    simp only [Option.bind_some]
    rw [List.set_set, o_5 (E0 _)]
    simp only [Option.bind_some]
    rw [aI_of (E3 _) hj (by decide), s2]
    simp only [Option.bind_some]
    rw [setv_ok]
    have inner := upto (fun f2 i => fX7_keeps_w75 (fX7_keeps_w48 f) f2 20 (nI j) (nI k) (nI (k ^ (r - 1))) (nI u) (nI (lvA k (k ^ (r - 1)) r u i)) (nI (r - 1 - i) - 1) (h3.set 42 (aC 0 9 (upd (fillN lv u pf) u (lvS k (k ^ (r - 1)) r u F (wtB tp) i))))) (r - 1) (fX7_keeps_b132 (fX7_keeps_w48 f) 20 (nI j) (nI k) (nI (k ^ (r - 1))) (nI u) (h3.set 42 (aC 0 9 (upd (fillN lv u pf) u (lvS k (k ^ (r - 1)) r u F (wtB tp) (r - 1)))))) (fun f2 i hi => by
      have hA := lvA_lt (k := k) (by omega) r u n3 i
      have hx : u / k ^ (r - 2 - i) % k < k := Nat.mod_lt _ (by omega)
      have hle : u / k ^ (r - 2 - i) ≤ u := Nat.div_le_self _ _
      have hp := kpow_pos g (r - 2 - i)
      have hpl := pow_le g (show r - 2 - i ≤ r by omega)
      have hwl : lvA k (k ^ (r - 1)) r u i * k + u / k ^ (r - 2 - i) % k < k ^ r := by
        rw [n4]
        exact wlt hA hx
      rw [i_sub1 (by omega), show r - 1 - i - 1 = r - 2 - i by omega]
      rw [fX7_keeps_w75]
      simp only []
      rw [if_neg (nI_nn (by omega)), mpower (by omega) (by omega), call_ok, iDiv_nI (by omega) hp (by omega), iRem_nI (by omega) (by omega) (by omega), o_26 (E0 _)]
      simp only [Option.bind_some]
      rw [aI_of (st_s e42) (by omega) (by decide), upd_self]
      simp only [Option.bind_some]
      rw [oo (E0 _), pk_mul, nI_add, Nat.mul_comm k, hgn _ hwl, call_ok, sI_of (by decide) (st_s e42) (by omega) (by decide), x_nar0]
      simp only [Option.bind_some]
      rw [List.set_set, oo (E0 _), then_m g (E0 _) (E2 _) (E3 _) hj s1 s2 (by omega) (by omega), call_ok, i_m1, show r - 1 - (i + 1) = r - 2 - i by omega]
      have hu2 : upd (upd (fillN lv u pf) u (lvS k (k ^ (r - 1)) r u F (wtB tp) i)) u (lvS k (k ^ (r - 1)) r u F (wtB tp) i + gn (k ^ (r - 1)) F (wtB tp) (lvA k (k ^ (r - 1)) r u i * k + u / k ^ (r - 2 - i) % k)) = upd (fillN lv u pf) u (lvS k (k ^ (r - 1)) r u F (wtB tp) (i + 1)) := by
        funext x
        unfold upd
        by_cases w : x = u
        · rw [if_pos w, if_pos w, lvS]
        · rw [if_neg w, if_neg w, if_neg w]
      rw [hu2, lvA]) (fun f2 => by
      rw [Nat.sub_self]
      rw [fX7_keeps_w75]
      simp only []
      rw [if_pos (by decide)]) 0 FUEL (by omega) (fuel_big (by omega))
    have h2 : nI r - 2 = nI (r - 1 - 0) - 1 := by
      obtain ⟨z, rfl⟩ : ∃ z, r = z + 1 := ⟨r - 1, by omega⟩
      rw [Nat.add_sub_cancel, Nat.sub_zero, ← nI_p1]
      rw [Int32.sub_eq_add_neg, Int32.sub_eq_add_neg, Int32.add_assoc]
      rfl
    rw [h2]
    refine Eq.trans inner ?_
    unfold fX7_keeps_b132
    rw [nI_p1, ← hlv, fillN_s]) (fun f => by
    rw [fX7_keeps_w48]
    simp only []
    rw [if_leI (by omega) (by omega), if_pos (Nat.le_refl _)]) 0 FUEL (by omega) (fuel_big (by omega))
  rw [fillN_0, st_id e42] at key
  have hpot : ∀ u, u < k ^ (r - 1) → fillN lv (k ^ (r - 1)) pf u = lv u := fun u hu => by simp [fillN, hu]
  generalize hH : h3.set 42 (aC 0 9 (fillN lv (k ^ (r - 1)) pf)) = H at key
  have k0 : H[20]? = some (mob 0 (nI 0) (nI tl) (nI ol) (nI rd)) := by rw [← hH]; exact E0 _
  have k42 : H[42]? = some (aC 0 9 (fillN lv (k ^ (r - 1)) pf)) := by rw [← hH]; exact st_s e42
  have hgH : ∀ {w}, w < k ^ r → fX7_gain H 20 (nI j) (nI w) = some (gn (k ^ (r - 1)) F (wtB tp) w, H) := fun {w} hw => by rw [← hH]; exact hgn _ hw
  have IH : MInv H 0 (nI tl) 0 tp sl ol of rd := by
    rw [← hH]
    exact ⟨tpf', stf, wdf, tbf, otf, E0 _, a1, a2, a3, st_n' (by decide) e1, b1, E2 _, E3 _, E4 _, b2, st_n' (by decide) e5, b3, Fx.s42⟩
  have dH : Dn h H := by rw [← hH]; exact d.st (by decide)
  have fin := scan_all (fun f w => fX7_keeps_w152 f 20 (nI j) (nI k) (nI (k ^ (r - 1))) (nI w) H) (k ^ r) (fun w => ¬ lv (w / k) + gn (k ^ (r - 1)) F (wtB tp) w = lv (w % k ^ (r - 1))) (some (0, H)) (some (1, H)) (fun f w hw hb => by
    have h1 := div_k g hw
    have h2 : w % k ^ (r - 1) < k ^ (r - 1) := Nat.mod_lt _ n3
    rw [fX7_keeps_w152]
    simp only []
    rw [pk_mul, Nat.mul_comm k, ← n4, if_leI (by omega) (by omega), if_neg (by omega), o_26 k0]
    simp only [Option.bind_some]
    rw [iDiv_nI (by omega) (by omega) (by omega), aI_of k42 (by omega) (by decide), hpot _ h1]
    simp only [Option.bind_some]
    rw [oo k0, hgH hw, call_ok, o_26 k0]
    simp only [Option.bind_some]
    rw [iRem_nI (by omega) n3 (by omega), aI_of k42 (by omega) (by decide), hpot _ h2]
    simp only [Option.bind_some]
    rw [if_pos (Decidable.not_not.mp hb), nI_p1]) (fun f w hw hb => by
    have h1 := div_k g hw
    have h2 : w % k ^ (r - 1) < k ^ (r - 1) := Nat.mod_lt _ n3
    rw [fX7_keeps_w152]
    simp only []
    rw [pk_mul, Nat.mul_comm k, ← n4, if_leI (by omega) (by omega), if_neg (by omega), o_26 k0]
    simp only [Option.bind_some]
    rw [iDiv_nI (by omega) (by omega) (by omega), aI_of k42 (by omega) (by decide), hpot _ h1]
    simp only [Option.bind_some]
    rw [oo k0, hgH hw, call_ok, o_26 k0]
    simp only [Option.bind_some]
    rw [iRem_nI (by omega) n3 (by omega), aI_of k42 (by omega) (by decide), hpot _ h2]
    simp only [Option.bind_some]
    rw [if_neg hb]) (fun f => by
    rw [fX7_keeps_w152]
    simp only []
    rw [pk_mul, Nat.mul_comm k, ← n4, if_leI (by omega) (by omega), if_pos (Nat.le_refl _)]) 0 FUEL (by omega) (fuel_big (by omega))
  have kw : KeepsW k r F (wtB tp) ↔ ∀ w, w < k ^ r → lv (w / k) + gn (k ^ (r - 1)) F (wtB tp) w = lv (w % k ^ (r - 1)) := by
    rw [← hLv]
    rfl
  have g00 : KeepsW k r F (wtB tp) → gn (k ^ (r - 1)) F (wtB tp) 0 = 0 := fun z => by
    have z0 := kw.mp z 0 (kpow_pos g r)
    rw [Nat.zero_div, Nat.zero_mod] at z0
    have : lv 0 + gn (k ^ (r - 1)) F (wtB tp) 0 = lv 0 + 0 := by rw [z0, Int32.add_zero]
    exact (Int32.add_right_inj _).mp this
  have hfst : fX7_keeps_w48 FUEL 20 (nI j) (nI k) (nI (k ^ (r - 1))) (0 : Int32) h3 = if gn (k ^ (r - 1)) F (wtB tp) 0 = 0 then fX7_keeps_w152 FUEL 20 (nI j) (nI k) (nI (k ^ (r - 1))) 0 H else some (0, H) := by
    refine Eq.trans (show fX7_keeps_w48 FUEL 20 (nI j) (nI k) (nI (k ^ (r - 1))) (nI 0) h3 = _ from key) ?_
    unfold fX7_keeps_b138
    rw [oo k0, l0, hgH (kpow_pos g r), call_ok]
  refine ⟨k, r, F, H, q, g, q5, ?_, IH, dH⟩
  rw [hfst]
  by_cases z0 : gn (k ^ (r - 1)) F (wtB tp) 0 = 0
  · rw [if_pos z0]
    rcases fin with ⟨y1, y2⟩ | ⟨⟨w, -, y2, y3⟩, y4⟩
    · left
      exact ⟨kw.mpr fun w hw => Decidable.not_not.mp (y1 w (by omega) hw), y2⟩
    · right
      exact ⟨fun z => y3 (kw.mp z w y2), y4⟩
  · right
    rw [if_neg z0]
    exact ⟨fun z => z0 (g00 z), rfl⟩
end MKK

theorem if_le1 {a : Nat} {β : Type} {A B : Option β} (ha : a < 2 ^ 31) : (if nI a ≤ (1 : Int32) then A else B) = if a ≤ 1 then A else B := if_leI (b := 1) ha (by decide)
section MT
variable {thr sz : Int32} {tl : Nat} {tp : Nat → Nat} {sl : SL} {ol : Nat} {of : Nat → Nat} {rd : Nat} {k : Nat}
theorem idle_m {h : Hp} {tl' om rd' : Int32} {tbf : Nat → Int32} {r : Nat} {F : Nat → Nat} (g : GR k r F) (e0 : h[20]? = some (mob thr tl' sz om rd')) (e4 : h[24]? = some (aC 0 189 tbf)) (ht : ∀ w, w < k ^ r → tbf (162 + w) = nI (F w)) : ((idA k r F ∧ fX7_isIdle h 20 (nI k) (nI r) 0 = some (1, h)) ∨ (¬ idA k r F ∧ fX7_isIdle h 20 (nI k) (nI r) 0 = some (0, h))) ∧ ((idB k r F ∧ fX7_isIdle h 20 (nI k) (nI r) 1 = some (1, h)) ∨ (¬ idB k r F ∧ fX7_isIdle h 20 (nI k) (nI r) 1 = some (0, h))) := by
  obtain ⟨n1, n2, n3, n4, n5⟩ := g.nums
  obtain ⟨g1, g2, g3, g4, gF⟩ := id g
  have hpow : fX7_power h (nI k) (nI r - 1) = some (nI (k ^ (r - 1)), h) := by rw [i_sub1 g3, mpower (by omega) (by omega)]
  have gen : ∀ (v : Int32) (P : Nat → Nat), (∀ w, w < k ^ r → P w < k ^ r) → (∀ w f, w < k ^ r → (if v = 0 then (iRem (nI w) (nI (k ^ (r - 1))) fun v4 => fX7_isIdle_b57 (fX7_isIdle_w12 f) 20 (nI k) v (nI (k ^ (r - 1))) (nI w) v4 (162 : Int32) 24 (nI (F w)) h) else (iDiv (nI w) (nI k) fun v5 => fX7_isIdle_b57 (fX7_isIdle_w12 f) 20 (nI k) v (nI (k ^ (r - 1))) (nI w) (v5 * nI k) (162 : Int32) 24 (nI (F w)) h)) = fX7_isIdle_b57 (fX7_isIdle_w12 f) 20 (nI k) v (nI (k ^ (r - 1))) (nI w) (nI (P w)) (162 : Int32) 24 (nI (F w)) h) → ((∀ w, w < k ^ r → F w = F (P w)) ∧ fX7_isIdle h 20 (nI k) (nI r) v = some (1, h)) ∨ (¬ (∀ w, w < k ^ r → F w = F (P w)) ∧ fX7_isIdle h 20 (nI k) (nI r) v = some (0, h)) := by
    intro v P hP hv
    have step : ∀ f w, w < k ^ r → fX7_isIdle_w12 (f + 1) 20 (nI k) v (nI (k ^ (r - 1))) (nI w) h = if F w = F (P w) then fX7_isIdle_w12 f 20 (nI k) v (nI (k ^ (r - 1))) (nI (w + 1)) h else some (0, h) := by
      intro f w hw
      have hPw := hP w hw
      have hF1 := gF w hw
      have hF2 := gF _ hPw
      rw [fX7_isIdle_w12]
      simp only []
      rw [pk_mul, Nat.mul_comm k, ← n4, if_leI (by omega) (by omega), if_neg (by omega), o_6 e0]
      simp only [Option.bind_some]
      rw [show (162 : Int32) = nI 162 from rfl, nI_add, aI_of e4 (by omega) (by decide), ht w hw]
      simp only [Option.bind_some]
      refine Eq.trans (hv w f hw) ?_
      unfold fX7_isIdle_b57
      rw [show (162 : Int32) = nI 162 from rfl, nI_add, aI_of e4 (by omega) (by decide), ht _ hPw]
      simp only [Option.bind_some]
      rw [if_eqI (by omega) (by omega), nI_p1, retZ0]
    have key := scan_all (fun f w => fX7_isIdle_w12 f 20 (nI k) v (nI (k ^ (r - 1))) (nI w) h) (k ^ r) (fun w => ¬ F w = F (P w)) (some (0, h)) (some (1, h)) (fun f w hw hb => by rw [step f w hw, if_pos (Decidable.not_not.mp hb)]) (fun f w hw hb => by rw [step f w hw, if_neg hb]) (fun f => by
      rw [fX7_isIdle_w12]
      simp only []
      rw [pk_mul, Nat.mul_comm k, ← n4, if_leI (by omega) (by omega), if_pos (Nat.le_refl _), retZ1]) 0 FUEL (by omega) (fuel_big (by omega))
    unfold fX7_isIdle
    rw [hpow, call_ok]
    rcases key with ⟨y1, y2⟩ | ⟨⟨w, -, y2, y3⟩, y4⟩
    · left
      exact ⟨fun w hw => Decidable.not_not.mp (y1 w (by omega) hw), y2⟩
    · right
      exact ⟨fun z => y3 (z w y2), y4⟩
  have hdv : ∀ w, w < k ^ r → w / k * k < k ^ r := fun w hw => by
    have := Nat.div_mul_le_self w k
    omega
  constructor
  · exact gen 0 (fun w => w % k ^ (r - 1)) (fun w hw => by have := Nat.mod_le w (k ^ (r - 1)); omega) (fun w f hw => by
      rw [if_pos rfl, iRem_nI (by omega) n3 (by omega)])
  · exact gen 1 (fun w => w / k * k) hdv (fun w f hw => by
      rw [if_neg one_ne, iDiv_nI (by omega) (by omega) (by omega), pk_mul])
theorem mtrimA {h : Hp} {tl' om rd' : Int32} {tbf : Nat → Int32} {F : Nat → Nat} {j : Nat} (e0 : h[20]? = some (mob thr tl' sz om rd')) (e4 : h[24]? = some (aC 0 189 tbf)) : ∀ (fuel r a : Nat), r ≤ fuel → GR k r F → a + r < 1000 → (∀ w, w < k ^ r → tbf (162 + w) = nI (F w)) → ∃ c r1, TrA k F r c r1 ∧ GR k r1 F ∧ r1 ≤ r ∧ (∀ w, w < k ^ r1 → tbf (162 + w) = nI (F w)) ∧ fX7_trim_w78 fuel 20 (nI j) (nI k) (nI r) (nI a) h = fX7_trim_w104 FUEL 20 (nI j) (nI k) (nI r1) (nI (a + c)) h := by
  intro fuel
  induction fuel with
  | zero =>
    intro r a hf g
    have := g.2.2.1
    omega
  | succ fu ih =>
    intro r a hf g ha ht
    obtain ⟨n1, n2, n3, n4, n5⟩ := g.nums
    obtain ⟨g1, g2, g3, g4, gF⟩ := id g
    have stop : (r < 2 ∨ ¬ idA k r F) → fX7_trim_w78 (fu + 1) 20 (nI j) (nI k) (nI r) (nI a) h = fX7_trim_w104 FUEL 20 (nI j) (nI k) (nI r) (nI (a + 0)) h → ∃ c r1, TrA k F r c r1 ∧ GR k r1 F ∧ r1 ≤ r ∧ (∀ w, w < k ^ r1 → tbf (162 + w) = nI (F w)) ∧ fX7_trim_w78 (fu + 1) 20 (nI j) (nI k) (nI r) (nI a) h = fX7_trim_w104 FUEL 20 (nI j) (nI k) (nI r1) (nI (a + c)) h := fun z1 z2 => ⟨0, r, ⟨rfl, z1⟩, g, Nat.le_refl _, ht, z2⟩
    by_cases q : r ≤ 1
    · refine stop (Or.inl (by omega)) ?_
      rw [fX7_trim_w78]
      simp only []
      rw [if_le1 (by omega), if_pos q, Nat.add_zero]
    rcases (idle_m g e0 e4 ht).1 with ⟨z1, z2⟩ | ⟨z1, z2⟩
    · have hless : k ^ (r - 1) ≤ k ^ r := by rw [n4]; exact Nat.le_mul_of_pos_right _ (by omega)
      obtain ⟨c, r1, t1, t2, t3, t4, t5⟩ := ih (r - 1) (a + 1) (by omega) (g.less (by omega) fun w hw => gF w (by omega)) (by omega) (fun w hw => ht w (by omega))
      refine ⟨c + 1, r1, ⟨by omega, z1, t1⟩, t2, by omega, t4, ?_⟩
      rw [fX7_trim_w78]
      simp only []
      rw [if_le1 (by omega), if_neg q, oo e0, z2, call_ok, if_neg one_ne, i_m1, i_sub1 g3, nI_p1, t5, show a + 1 + c = a + (c + 1) by omega]
    · refine stop (Or.inr z1) ?_
      rw [fX7_trim_w78]
      simp only []
      rw [if_le1 (by omega), if_neg q, oo e0, z2, call_ok, if_pos rfl, Nat.add_zero]
theorem mtrimB {j : Nat} {x : Int32} (hj : j < 6) : ∀ (fuel r : Nat) (h : Hp) (F : Nat → Nat) (tbf : Nat → Int32), r ≤ fuel → GR k r F → MInv h thr sz tl tp sl ol of rd → h[24]? = some (aC 0 189 tbf) → (∀ w, w < k ^ r → tbf (162 + w) = nI (F w)) → ∃ b F' r' h', TrB k F r b F' r' ∧ GR k r' F' ∧ fX7_trim_w104 fuel 20 (nI j) (nI k) (nI r) x h = some (x, h') ∧ MInv h' thr sz tl tp (upS sl j (k, r', F')) ol of rd ∧ Dn h h' := by
  intro fuel
  induction fuel with
  | zero =>
    intro r h F tbf hf g
    have := g.2.2.1
    omega
  | succ fu ih =>
    intro r h F tbf hf g I e4 ht
    obtain ⟨n1, n2, n3, n4, n5⟩ := g.nums
    obtain ⟨g1, g2, g3, g4, gF⟩ := id g
    obtain ⟨_, _, _, _, _, e0, -⟩ := id I
    have stop : (r < 2 ∨ ¬ idB k r F) → fX7_trim_w104 (fu + 1) 20 (nI j) (nI k) (nI r) x h = fX7_trim_b171 20 (nI j) (nI k) (nI r) x h → ∃ b F' r' h', TrB k F r b F' r' ∧ GR k r' F' ∧ fX7_trim_w104 (fu + 1) 20 (nI j) (nI k) (nI r) x h = some (x, h') ∧ MInv h' thr sz tl tp (upS sl j (k, r', F')) ol of rd ∧ Dn h h' := fun z1 z2 => by
      obtain ⟨h5, y1, I5, d5⟩ := I.lay e4 g hj ht
      refine ⟨0, F, r, h5, ⟨rfl, rfl, z1⟩, g, ?_, I5, d5⟩
      rw [z2]
      unfold fX7_trim_b171
      rw [oo e0, y1]
      rfl
    by_cases q : r ≤ 1
    · refine stop (Or.inl (by omega)) ?_
      rw [fX7_trim_w104]
      simp only []
      rw [if_le1 (by omega), if_pos q]
    rcases (idle_m g e0 e4 ht).2 with ⟨z1, z2⟩ | ⟨z1, z2⟩
    · have hmul : ∀ w, w < k ^ (r - 1) → w * k < k ^ r := fun w hw => by
        have := wlt (k := k) (m := k ^ (r - 1)) (u := w) (x := 0) hw (by omega)
        omega
      have g' : GR k (r - 1) (fun w => F (w * k)) := g.less (by omega) fun w hw => gF _ (hmul w hw)
      have E0 : ∀ u, (h.set 24 u)[20]? = some (mob thr (nI tl) sz (nI ol) (nI rd)) := fun u => st_n' (by decide) e0
      have inner := upto (fun f w => fX7_trim_w127 (fX7_trim_w104 fu) f 20 (nI j) (nI k) (nI (r - 1)) x (nI w) (h.set 24 (aC 0 189 (drF tbf (fun w => F (w * k)) w)))) (k ^ (r - 1)) (fX7_trim_w104 fu 20 (nI j) (nI k) (nI (r - 1)) x (h.set 24 (aC 0 189 (drF tbf (fun w => F (w * k)) (k ^ (r - 1)))))) (fun f w hw => by
        have hm := hmul w hw
        have hge : w ≤ w * k := Nat.le_mul_of_pos_right _ (by omega)
        have hrd : drF tbf (fun w => F (w * k)) w (162 + w * k) = nI (F (w * k)) := by
          unfold drF
          rw [if_neg (by omega), ht _ hm]
        rw [fX7_trim_w127]
        simp only []
        rw [mpower (by omega) (by omega), call_ok, if_leI (by omega) (by omega), if_neg (by omega), o_6 (E0 _)]
        simp only [Option.bind_some]
        rw [show (162 : Int32) = nI 162 from rfl, pk_mul, nI_add, Nat.mul_comm k, aI_of (st_s e4) (by omega) (by decide), hrd]
        simp only [Option.bind_some]
        rw [nI_add, sI_of (by decide) (st_s e4) (by omega) (by decide), x_nar0]
        simp only [Option.bind_some]
        rw [List.set_set, nI_p1, show upd (drF tbf (fun w => F (w * k)) w) (162 + w) (nI (F (w * k))) = drF tbf (fun w => F (w * k)) (w + 1) from drF_s (G := fun w => F (w * k))]) (fun f => by
        rw [fX7_trim_w127]
        simp only []
        rw [mpower (by omega) (by omega), call_ok, if_leI (by omega) (by omega), if_pos (Nat.le_refl _)]
        rfl) 0 FUEL (by omega) (fuel_big (by omega))
      rw [drF_0, st_id e4] at inner
      obtain ⟨I4, d4⟩ := I.draft e4 (tbf2 := drF tbf (fun w => F (w * k)) (k ^ (r - 1))) (fun x hx => drF_lo hx)
      obtain ⟨b, F', r', h', y1, y2, y3, y4, y5⟩ := ih (r - 1) _ (fun w => F (w * k)) _ (by omega) g' I4 (st_s e4) (fun w hw => drF_hi hw)
      refine ⟨b + 1, F', r', h', ⟨by omega, z1, y1⟩, y2, ?_, y4, d4.tn y5⟩
      rw [fX7_trim_w104]
      simp only []
      rw [if_le1 (by omega), if_neg q, oo e0]
      rw [z2, call_ok, if_neg one_ne, i_m1, i_sub1 g3]
      exact (show fX7_trim_w127 (fX7_trim_w104 fu) FUEL 20 (nI j) (nI k) (nI (r - 1)) x (nI 0) h = _ from inner).trans y3
    · refine stop (Or.inr z1) ?_
      rw [fX7_trim_w104]
      simp only []
      rw [if_le1 (by omega), if_neg q, oo e0]
      rw [z2, call_ok, if_pos rfl]
end MT
section MTT
variable {h : Hp} {thr sz : Int32} {tl : Nat} {tp : Nat → Nat} {sl : SL} {ol : Nat} {of : Nat → Nat} {rd : Nat}
theorem m_trim (I : MInv h thr sz tl tp sl ol of rd) (s t : Int32) : (((ruleOf sl s = none) ∨ t < 0 ∨ nI 6 ≤ t) ∧ ∃ h', fX7_trim h 20 s t = some (-1, h') ∧ MInv h' 0 sz tl tp sl ol of rd ∧ Dn h h') ∨ (∃ k r F j c r1 b F' r' h', ruleOf sl s = some (k, r, F) ∧ GR k r F ∧ j < 6 ∧ t = nI j ∧ TrA k F r c r1 ∧ TrB k F r1 b F' r' ∧ GR k r' F' ∧ fX7_trim h 20 s t = some (nI c, h') ∧ MInv h' 0 sz tl tp (upS sl j (k, r', F')) ol of rd ∧ Dn h h') := by
  obtain ⟨h1, c1, I1, d1⟩ := I.begin
  obtain ⟨tpf, stf, wdf, tbf, otf, e0, a1, a2, a3, e1, b1, e2, e3, e4, b2, e5, b3, Fx⟩ := id I1
  unfold fX7_trim
  rw [c1]
  simp only [Option.bind_some]
  rw [oo e0]
  rcases mhas e0 e2 b2 s with ⟨q, e⟩ | ⟨i0, k, r, F, hi0, rfl, q, e, g, s1, s2, s3⟩
  · left
    rw [e, call_ok, if_pos rfl]
    exact ⟨Or.inl q, h1, rfl, I1, d1⟩
  rw [e, call_ok, if_neg one_ne]
  rcases misSlot (h := h1) t with ⟨q1, e9⟩ | ⟨j, hj, rfl, e9⟩
  · left
    rw [e9, call_ok, if_pos rfl]
    exact ⟨Or.inr q1, h1, rfl, I1, d1⟩
  right
  obtain ⟨n1, n2, n3, n4, n5⟩ := g.nums
  obtain ⟨g1, g2, g3, g4, gF⟩ := id g
  rw [e9, call_ok, if_neg one_ne, o_4 e0]
  simp only [Option.bind_some]
  rw [aI_of e2 hi0 (by decide), s1]
  simp only [Option.bind_some]
  rw [o_5 e0]
  simp only [Option.bind_some]
  rw [aI_of e3 hi0 (by decide), s2]
  simp only [Option.bind_some]
  have E0 : ∀ u, (h1.set 24 u)[20]? = some (mob 0 (nI tl) sz (nI ol) (nI rd)) := fun u => st_n' (by decide) e0
  have key := upto (fun f w => fX7_trim_w43 f 20 (nI i0) (nI j) (nI k) (nI r) 0 (nI w) (h1.set 24 (aC 0 189 (drF tbf F w)))) (k ^ r) (fX7_trim_w78 FUEL 20 (nI j) (nI k) (nI r) 0 (h1.set 24 (aC 0 189 (drF tbf F (k ^ r))))) (fun f w hw => by
    rw [fX7_trim_w43]
    simp only []
    rw [mpower (by omega) (by omega), call_ok, if_leI (by omega) (by omega), if_neg (by omega), o_6 (E0 _)]
    simp only [Option.bind_some]
    rw [oo (E0 _), mtells (F := F) (E0 _) (st_s e4) g hi0 (fun w hw => by rw [drF_lo (by omega)]; exact s3 w hw) hw, call_ok, show (162 : Int32) = nI 162 from rfl, nI_add, sI_of (by decide) (st_s e4) (by omega) (by decide), x_nar0]
    simp only [Option.bind_some]
    rw [List.set_set, nI_p1, drF_s]) (fun f => by
    rw [fX7_trim_w43]
    simp only []
    rw [mpower (by omega) (by omega), call_ok, if_leI (by omega) (by omega), if_pos (Nat.le_refl _)]) 0 FUEL (by omega) (fuel_big (by omega))
  rw [drF_0, st_id e4] at key
  obtain ⟨I4, d4⟩ := I1.draft e4 (tbf2 := drF tbf F (k ^ r)) (fun x hx => drF_lo hx)
  have hFU : FUEL = 100000 := rfl
  obtain ⟨c, r1, t1, t2, t3, t4, t5⟩ := mtrimA (j := j) (E0 _) (st_s e4) FUEL r 0 (by omega) g (by omega) (fun w hw => drF_hi hw)
  obtain ⟨b, F', r', h', y1, y2, y3, y4, y5⟩ := mtrimB (x := nI (0 + c)) hj FUEL r1 _ F _ (by omega) t2 I4 (st_s e4) t4
  refine ⟨k, r, F, j, c, r1, b, F', r', h', q, g, hj, rfl, t1, y1, y2, ?_, y4, (d1.tn d4).tn y5⟩
  refine Eq.trans (show fX7_trim_w43 FUEL 20 (nI i0) (nI j) (nI k) (nI r) 0 (nI 0) h1 = _ from key) ?_
  rw [l0]
  rw [t5, y3, Nat.zero_add]
end MTT

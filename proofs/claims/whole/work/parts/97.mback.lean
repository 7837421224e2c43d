section MB
variable {h : Hp} {thr sz : Int32} {tl : Nat} {tp : Nat → Nat} {sl : SL} {ol : Nat} {of : Nat → Nat} {rd : Nat}
/-- rows that hold nothing may change -/
theorem MInv.scr (I : MInv h thr sz tl tp sl ol of rd) {h' : Hp} (hk : ∀ i, 20 ≤ i → i < 26 → h'[i]? = h[i]?) (F : MFix h') : MInv h' thr sz tl tp sl ol of rd := by
  obtain ⟨tpf, stf, wdf, tbf, otf, e0, a1, a2, a3, e1, b1, e2, e3, e4, b2, e5, b3, -⟩ := I
  exact ⟨tpf, stf, wdf, tbf, otf, (hk 20 (by decide) (by decide)).trans e0, a1, a2, a3, (hk 21 (by decide) (by decide)).trans e1, b1, (hk 22 (by decide) (by decide)).trans e2, (hk 23 (by decide) (by decide)).trans e3, (hk 24 (by decide) (by decide)).trans e4, b2, (hk 25 (by decide) (by decide)).trans e5, b3, F⟩
theorem MInv.fx (I : MInv h thr sz tl tp sl ol of rd) : MFix h := by
  obtain ⟨tpf, stf, wdf, tbf, otf, e0, a1, a2, a3, e1, b1, e2, e3, e4, b2, e5, b3, F⟩ := I
  exact F
theorem MInv.obj (I : MInv h thr sz tl tp sl ol of rd) : h[20]? = some (mob thr (nI tl) sz (nI ol) (nI rd)) := by
  obtain ⟨tpf, stf, wdf, tbf, otf, e0, -⟩ := I
  exact e0
theorem MInv.slot (I : MInv h thr sz tl tp sl ol of rd) {j k r : Nat} {F : Nat → Nat} (hj : j < 6) (q : sl j = some (k, r, F)) : ∃ stf wdf tbf, h[22]? = some (aC 0 6 stf) ∧ h[23]? = some (aC 0 6 wdf) ∧ h[24]? = some (aC 0 189 tbf) ∧ stf j = nI k ∧ wdf j = nI r ∧ ∀ w, w < k ^ r → tbf (27 * j + w) = nI (F w) := by
  obtain ⟨tpf, stf, wdf, tbf, otf, e0, a1, a2, a3, e1, b1, e2, e3, e4, b2, e5, b3, Fx⟩ := I
  have hs := b2 j hj
  rw [q] at hs
  obtain ⟨g, s1, s2, s3⟩ := hs
  exact ⟨stf, wdf, tbf, e2, e3, e4, s1, s2, s3⟩
theorem turns_m (I : MInv h thr sz tl tp sl ol of rd) {i0 k r : Nat} {F : Nat → Nat} (g : GR k r F) (hi0 : i0 < 6) (q0 : sl i0 = some (k, r, F)) {w d : Nat} (hw1 : 1 ≤ w) (hw : w ≤ mwN k) (hd : d < r + w - 1) : (¬ TB k r F w d ∧ ∃ h', fX7_turns h 20 (nI i0) (nI w) (nI d) = some (0, h') ∧ MInv h' thr sz tl tp sl ol of rd ∧ Dn h h') ∨ (TB k r F w d ∧ ∃ h' tbf, fX7_turns h 20 (nI i0) (nI w) (nI d) = some (1, h') ∧ MInv h' thr sz tl tp sl ol of rd ∧ Dn h h' ∧ h'[24]? = some (aC 0 189 tbf) ∧ ∀ y, y < k ^ w → tbf (162 + y) = nI (bkG k r F w d y)) := by
  obtain ⟨n1, n2, n3, n4, n5⟩ := g.nums
  obtain ⟨g1, g2, g3, g4, gF⟩ := id g
  obtain ⟨p1, p2, p3, p4⟩ := pows_le g hw
  have e0 := I.obj
  obtain ⟨stf, wdf, tbf, e2, e3, e4, s1, s2, s3⟩ := I.slot hi0 q0
  obtain ⟨mf0, e35⟩ := I.fx.r35
  have E0 : ∀ u, (h.set 35 u)[20]? = some (mob thr (nI tl) sz (nI ol) (nI rd)) := fun u => st_n' (by decide) e0
  have E4 : ∀ u, (h.set 35 u)[24]? = some (aC 0 189 tbf) := fun u => st_n' (by decide) e4
  have hM : ∀ f, MInv (h.set 35 (aC 0 27 f)) thr sz tl tp sl ol of rd := fun f => I.scr (fun i h1 h2 => st_n (by omega)) I.fx.s35
  have hD : ∀ u, Dn h (h.set 35 u) := fun u => Dn.rf.st (by decide)
  -- the row 'made' is emptied
  have kA := upto (fun f y => fX7_turns_w32 f 20 (nI i0) (nI w) (nI d) (nI k) (nI r) (nI (k ^ (r + w - 1))) (nI y) (h.set 35 (aC 0 27 (fillN (fun _ => -1) y mf0)))) (k ^ w) (fX7_turns_b57 20 (nI i0) (nI w) (nI d) (nI k) (nI r) (nI (k ^ (r + w - 1))) (h.set 35 (aC 0 27 (fillN (fun _ => -1) (k ^ w) mf0)))) (fun f y hy => by
    rw [fX7_turns_w32]
    simp only []
    rw [mpower (by omega) (by omega), call_ok, if_leI (by omega) (by omega), if_neg (by omega), o_18 (E0 _)]
    simp only [Option.bind_some]
    rw [sI_of (by decide) (st_s e35) (by omega) (by decide), x_nar0]
    simp only [Option.bind_some]
    rw [List.set_set, nI_p1, show upd (fillN (fun _ => -1) y mf0) y (-1) = fillN (fun _ => -1) (y + 1) mf0 from fillN_s (f := fun _ => -1)]) (fun f => by
    rw [fX7_turns_w32]
    simp only []
    rw [mpower (by omega) (by omega), call_ok, if_leI (by omega) (by omega), if_pos (Nat.le_refl _)]) 0 FUEL (by omega) (fuel_big (by omega))
  rw [fillN_0, st_id e35] at kA
  -- the rows one by one
  have kB := uptoX (fun f x H => fX7_turns_w60 f 20 (nI i0) (nI w) (nI d) (nI k) (nI r) (nI (k ^ (r + w - 1))) (nI x) H) (k ^ (r + w - 1)) (fun x H => ∃ mf, H = h.set 35 (aC 0 27 mf) ∧ (∀ y, y < k ^ w → (∀ x', x' < x → imN k r F w x' ≠ y) → mf y = -1) ∧ ∀ x', x' < x → mf (imN k r F w x') = nI (dg k (r + w - 1) x' d)) (fun x rr => ¬ TB k r F w d ∧ ∃ mf, rr = some (0, h.set 35 (aC 0 27 mf))) (by
    rintro f x H hx ⟨mf, rfl, m1, m2⟩
    have him := imN_lt g w x
    have hdg : dg k (r + w - 1) x d < k := dg_lt (by omega)
    have inner := upto (fun f2 i => fX7_turns_w73 (fX7_turns_w60 f) f2 20 (nI i0) (nI w) (nI d) (nI k) (nI r) (nI (k ^ (r + w - 1))) (nI x) (nI (cd k (fun j => F (x / k ^ (w - 1 - j) % k ^ r)) i)) (nI i) (h.set 35 (aC 0 27 mf))) w (fX7_turns_b120 (fX7_turns_w60 f) 20 (nI i0) (nI w) (nI d) (nI k) (nI r) (nI (k ^ (r + w - 1))) (nI x) (nI (imN k r F w x)) (h.set 35 (aC 0 27 mf))) (fun f2 i hi => by
      have hm : x / k ^ (w - 1 - i) % k ^ r < k ^ r := Nat.mod_lt _ (kpow_pos g r)
      have hle : x / k ^ (w - 1 - i) ≤ x := Nat.div_le_self _ _
      have hp := kpow_pos g (w - 1 - i)
      have hpl : k ^ (w - 1 - i) ≤ k ^ w := Nat.pow_le_pow_right (by omega) (by omega)
      rw [fX7_turns_w73]
      simp only []
      rw [if_leI (by omega) (by omega), if_neg (by omega), i_sub1 (by omega), pk_sub (by omega), mpower (by omega) (by omega), call_ok, iDiv_nI (by omega) hp (by omega), mpower (by omega) (by omega), call_ok, iRem_nI (by omega) (kpow_pos g r) (by omega), oo (E0 _), mtells (F := F) (E0 _) (E4 _) g hi0 s3 hm, call_ok, setv_ok, pk_mul, nI_add, nI_p1, cd, Nat.mul_comm k]) (fun f2 => by
      rw [fX7_turns_w73]
      simp only []
      rw [if_leI (by omega) (by omega), if_pos (Nat.le_refl _)]
      rfl) 0 FUEL (by omega) (fuel_big (by omega))
    have hcell : ∀ {β : Type} (K : Int32 → Hp → Option β), (call (fX7_power (h.set 35 (aC 0 27 mf)) (nI k) (((nI r + nI w) - (2 : Int32)) - nI d)) fun r1 h2 => iDiv (nI x) r1 fun v3 => iRem v3 (nI k) fun v4 => K v4 h2) = K (nI (dg k (r + w - 1) x d)) (h.set 35 (aC 0 27 mf)) := by
      intro β K
      have hle : x / k ^ (r + w - 2 - d) ≤ x := Nat.div_le_self _ _
      have hp := kpow_pos g (r + w - 2 - d)
      have hpl : k ^ (r + w - 2 - d) ≤ k ^ (r + w - 1) := Nat.pow_le_pow_right (by omega) (by omega)
      rw [nI_add, l2, pk_sub (by omega), pk_sub (by omega), mpower (by omega) (by omega), call_ok, iDiv_nI (by omega) hp (by omega), iRem_nI (by omega) (by omega) (by omega)]
      unfold dg
      rw [show r + w - 1 - 1 - d = r + w - 2 - d by omega]
    have hst : fX7_turns_w60 (f + 1) 20 (nI i0) (nI w) (nI d) (nI k) (nI r) (nI (k ^ (r + w - 1))) (nI x) (h.set 35 (aC 0 27 mf)) = if mf (imN k r F w x) < 0 ∨ mf (imN k r F w x) = nI (dg k (r + w - 1) x d) then fX7_turns_w60 f 20 (nI i0) (nI w) (nI d) (nI k) (nI r) (nI (k ^ (r + w - 1))) (nI (x + 1)) (h.set 35 (aC 0 27 (upd mf (imN k r F w x) (nI (dg k (r + w - 1) x d))))) else some (0, h.set 35 (aC 0 27 mf)) := by
      rw [fX7_turns_w60]
      simp only []
      rw [if_leI (by omega) (by omega), if_neg (by omega)]
      refine Eq.trans (show fX7_turns_w73 (fX7_turns_w60 f) FUEL 20 (nI i0) (nI w) (nI d) (nI k) (nI r) (nI (k ^ (r + w - 1))) (nI x) (nI 0) (nI 0) _ = _ from inner) ?_
      have hb : fX7_turns_b165 (fX7_turns_w60 f) 20 (nI i0) (nI w) (nI d) (nI k) (nI r) (nI (k ^ (r + w - 1))) (nI x) (nI (imN k r F w x)) (nI (dg k (r + w - 1) x d)) (h.set 35 (aC 0 27 mf)) = fX7_turns_w60 f 20 (nI i0) (nI w) (nI d) (nI k) (nI r) (nI (k ^ (r + w - 1))) (nI (x + 1)) (h.set 35 (aC 0 27 (upd mf (imN k r F w x) (nI (dg k (r + w - 1) x d))))) := by
        unfold fX7_turns_b165
        rw [o_18 (E0 _)]
        simp only [Option.bind_some]
        rw [sI_of (by decide) (st_s e35) (by omega) (by decide), x_nar0]
        simp only [Option.bind_some]
        rw [List.set_set, nI_p1]
      unfold fX7_turns_b120
      refine Eq.trans (hcell _) ?_
      rw [o_18 (E0 _)]
      simp only [Option.bind_some]
      rw [aI_of (st_s e35) (by omega) (by decide)]
      simp only [Option.bind_some]
      by_cases z1 : mf (imN k r F w x) < 0
      · rw [if_pos z1, if_pos (Or.inl z1), hb]
      · rw [if_neg z1]
        by_cases z2 : mf (imN k r F w x) = nI (dg k (r + w - 1) x d)
        · rw [if_pos z2, if_pos (Or.inr z2), hb]
        · rw [if_neg z2, if_neg (fun z => z.elim z1 z2), retZ0]
    by_cases z : mf (imN k r F w x) < 0 ∨ mf (imN k r F w x) = nI (dg k (r + w - 1) x d)
    · left
      refine ⟨_, hst.trans (if_pos z), _, rfl, fun y hy hno => ?_, fun x' hx' => ?_⟩
      · rw [upd_ne (fun e => hno x (by omega) e.symm)]
        exact m1 y hy (fun x' hx' => hno x' (by omega))
      · by_cases w2 : imN k r F w x' = imN k r F w x
        · rw [w2, upd_self]
          by_cases w3 : x' = x
          · rw [w3]
          · have m3 := m2 x' (by omega)
            rw [w2] at m3
            rcases z with z | z
            · rw [m3] at z
              have : dg k (r + w - 1) x' d < k := dg_lt (by omega)
              exact absurd z (nI_nn (by omega))
            · rw [← z, m3]
        · rw [upd_ne w2]
          by_cases w3 : x' = x
          · exact absurd (by rw [w3]) w2
          · exact m2 x' (by omega)
    · right
      refine ⟨_, rfl, fun tb => z ?_, mf, hst.trans (if_neg z)⟩
      by_cases w2 : ∃ x', x' < x ∧ imN k r F w x' = imN k r F w x
      · obtain ⟨x', w3, w4⟩ := w2
        right
        rw [← w4, m2 x' w3, tb x' x (by omega) hx w4]
      · left
        rw [m1 _ him (fun x' w3 w4 => w2 ⟨x', w3, w4⟩)]
        decide) 0 FUEL (h.set 35 (aC 0 27 (fillN (fun _ => -1) (k ^ w) mf0))) (by omega) (fuel_big (by omega)) ⟨_, rfl, fun y hy _ => by simp [fillN, hy], fun x' hx' => by omega⟩
  have hbeg : fX7_turns h 20 (nI i0) (nI w) (nI d) = fX7_turns_w60 FUEL 20 (nI i0) (nI w) (nI d) (nI k) (nI r) (nI (k ^ (r + w - 1))) (nI 0) (h.set 35 (aC 0 27 (fillN (fun _ => -1) (k ^ w) mf0))) := by
    unfold fX7_turns
    rw [o_4 e0]
    simp only [Option.bind_some]
    rw [aI_of e2 hi0 (by decide), s1]
    simp only [Option.bind_some]
    rw [o_5 e0]
    simp only [Option.bind_some]
    rw [aI_of e3 hi0 (by decide), s2]
    simp only [Option.bind_some]
    rw [nI_add, i_sub1 (by omega), mpower (by omega) (by omega), call_ok]
    refine Eq.trans (show fX7_turns_w32 FUEL 20 (nI i0) (nI w) (nI d) (nI k) (nI r) (nI (k ^ (r + w - 1))) (nI 0) h = _ from kA) ?_
    unfold fX7_turns_b57
    rw [l0]
  rw [hbeg]
  rcases kB with ⟨fu, H, k1, mf, rfl, m1, m2⟩ | ⟨x, rr, k1, k2, mf, rfl⟩
  · right
    have tb : TB k r F w d := fun x x' hx hx' e => by
      have y1 := m2 x hx
      have y2 := m2 x' hx'
      rw [e, y2] at y1
      have b1 : dg k (r + w - 1) x d < k := dg_lt (by omega)
      have b2 : dg k (r + w - 1) x' d < k := dg_lt (by omega)
      exact ((nI_eq (by omega) (by omega)).mp y1).symm
    have hmf : ∀ y, y < k ^ w → mf y = nI (bkG k r F w d y) := fun y hy => by
      obtain ⟨x, hx, rfl⟩ := TB_all g hw1 hd tb y hy
      rw [m2 x hx, bkG_of tb hx]
    have hbk : ∀ y, bkG k r F w d y < k := fun y => dg_lt (by omega)
    obtain ⟨I4, d4⟩ := (hM mf).draft (E4 _) (tbf2 := drF tbf (bkG k r F w d) (k ^ w)) (fun x hx => drF_lo hx)
    refine ⟨tb, _, _, ?_, I4, (hD _).tn d4, st_s (E4 _), fun y hy => drF_hi hy⟩
    rw [k1]
    rw [fX7_turns_w60]
    simp only []
    rw [if_leI (by omega) (by omega), if_pos (Nat.le_refl _)]
    unfold fX7_turns_b180
    have F0 : ∀ u, ((h.set 35 (aC 0 27 mf)).set 24 u)[20]? = some (mob thr (nI tl) sz (nI ol) (nI rd)) := fun u => st_n' (by decide) (E0 _)
    have F35 : ∀ u, ((h.set 35 (aC 0 27 mf)).set 24 u)[35]? = some (aC 0 27 mf) := fun u => st_n' (by decide) (st_s e35)
    have kC := upto (fun f y => fX7_turns_w183 f 20 (nI w) (nI k) (nI y) ((h.set 35 (aC 0 27 mf)).set 24 (aC 0 189 (drF tbf (bkG k r F w d) y)))) (k ^ w) (some (1, (h.set 35 (aC 0 27 mf)).set 24 (aC 0 189 (drF tbf (bkG k r F w d) (k ^ w))))) (fun f y hy => by
      have hb := hbk y
      rw [fX7_turns_w183]
      simp only []
      rw [mpower (by omega) (by omega), call_ok, if_leI (by omega) (by omega), if_neg (by omega), o_18 (F0 _)]
      simp only [Option.bind_some]
      rw [aI_of (F35 _) (by omega) (by decide), hmf y hy]
      simp only [Option.bind_some]
      rw [if_pos (nI_pos' (by omega)), o_6 (F0 _)]
      simp only [Option.bind_some]
      rw [show (162 : Int32) = nI 162 from rfl, nI_add, sI_of (by decide) (st_s (E4 _)) (by omega) (by decide), x_nar0]
      simp only [Option.bind_some]
      rw [List.set_set, nI_p1, drF_s]) (fun f => by
      rw [fX7_turns_w183]
      simp only []
      rw [mpower (by omega) (by omega), call_ok, if_leI (by omega) (by omega), if_pos (Nat.le_refl _), retZ1]) 0 FUEL (by omega) (fuel_big (by omega))
    rw [drF_0, st_id (E4 _)] at kC
    exact kC
  · left
    exact ⟨k2, _, k1, hM mf, hD _⟩
theorem m_back (I : MInv h thr sz tl tp sl ol of rd) (s t : Int32) : (((ruleOf sl s = none) ∨ t < 0 ∨ nI 6 ≤ t) ∧ ∃ h', fX7_back h 20 s t = some (-1, h') ∧ MInv h' 0 sz tl tp sl ol of rd ∧ Dn h h') ∨ (∃ k r F j, ruleOf sl s = some (k, r, F) ∧ GR k r F ∧ j < 6 ∧ t = nI j ∧ ((NoBack k r F ∧ ∃ h', fX7_back h 20 s t = some (0, h') ∧ MInv h' 0 sz tl tp sl ol of rd ∧ Dn h h') ∨ (∃ w d h', BackAt k r F w d ∧ fX7_back h 20 s t = some (nI (10 * w + d), h') ∧ MInv h' 0 sz tl tp (upS sl j (k, w, bkG k r F w d)) ol of rd ∧ Dn h h'))) := by
  obtain ⟨h1, c1, I1, d1⟩ := I.begin
  obtain ⟨tpf, stf, wdf, tbf, otf, e0, a1, a2, a3, e1, b1, e2, e3, e4, b2, e5, b3, Fx⟩ := id I1
  unfold fX7_back
  rw [c1]
  simp only [Option.bind_some]
  rw [oo e0]
  rcases mhas e0 e2 b2 s with ⟨q, e⟩ | ⟨i0, k, r, F, hi0, rfl, q, e, g, -⟩
  · left
    rw [e, call_ok, if_pos rfl]
    exact ⟨Or.inl q, h1, rfl, I1, d1⟩
  rw [e, call_ok, if_neg one_ne]
  rcases misSlot (h := h1) t with ⟨q1, e9⟩ | ⟨j, hj, rfl, e9⟩
  · left
    rw [e9, call_ok, if_pos rfl]
    exact ⟨Or.inr q1, h1, rfl, I1, d1⟩
  right
  refine ⟨k, r, F, j, q, g, hj, rfl, ?_⟩
  rw [e9, call_ok, if_neg one_ne]
  rw [ruleOf_j hi0] at q
  obtain ⟨n1, n2, n3, n4, n5⟩ := g.nums
  obtain ⟨g1, g2, g3, g4, gF⟩ := id g
  have hmw : mwN k ≤ 4 := by unfold mwN; split; omega; split; omega; split <;> omega
  -- one width
  have inner : ∀ w (W24 : Nat → Int32 → Int32 → Int32 → Hp → Option (Int32 × Hp)) H0, 1 ≤ w → w ≤ mwN k → MInv H0 0 sz tl tp sl ol of rd → Dn h H0 → (∃ H, fX7_back_w40 W24 FUEL 20 (nI i0) (nI j) (nI w) (nI 0) H0 = W24 20 (nI i0) (nI j) (nI (w + 1)) H ∧ (MInv H 0 sz tl tp sl ol of rd ∧ Dn h H) ∧ ∀ d, d < r + w - 1 → ¬ TB k r F w d) ∨ (∃ d rr, fX7_back_w40 W24 FUEL 20 (nI i0) (nI j) (nI w) (nI 0) H0 = rr ∧ (d < r + w - 1 ∧ TB k r F w d ∧ (∀ d', d' < d → ¬ TB k r F w d') ∧ ∃ h', rr = some (nI (10 * w + d), h') ∧ MInv h' 0 sz tl tp (upS sl j (k, w, bkG k r F w d)) ol of rd ∧ Dn h h')) := by
    intro w W24 H0 hw1 hw J0 D0
    obtain ⟨p1, p2, p3, p4⟩ := pows_le g hw
    have key := uptoX (fun n d H => fX7_back_w40 W24 n 20 (nI i0) (nI j) (nI w) (nI d) H) (r + w - 1) (fun i H => (MInv H 0 sz tl tp sl ol of rd ∧ Dn h H) ∧ ∀ d, d < i → ¬ TB k r F w d) (fun d rr => d < r + w - 1 ∧ TB k r F w d ∧ (∀ d', d' < d → ¬ TB k r F w d') ∧ ∃ h', rr = some (nI (10 * w + d), h') ∧ MInv h' 0 sz tl tp (upS sl j (k, w, bkG k r F w d)) ol of rd ∧ Dn h h') (by
      intro n i H hi ⟨⟨J, D⟩, hno⟩
      have f0 := J.obj
      obtain ⟨stf, wdf, tbf, f2, f3, f4, s1, s2, s3⟩ := J.slot hi0 q
      have hst : fX7_back_w40 W24 (n + 1) 20 (nI i0) (nI j) (nI w) (nI i) H = call (fX7_turns H 20 (nI i0) (nI w) (nI i)) fun r3 h4 => if r3 = 0 then ((fX7_back_w40 W24 n) 20 (nI i0) (nI j) (nI w) (nI (i + 1)) h4) else (fX7_back_b69 20 (nI i0) (nI j) (nI w) (nI i) h4) := by
        rw [fX7_back_w40]
        simp only []
        rw [o_5 f0]
        simp only [Option.bind_some]
        rw [aI_of f3 hi0 (by decide), s2]
        simp only [Option.bind_some]
        rw [nI_add, i_sub1 (by omega), if_leI (by omega) (by omega), if_neg (by omega), oo f0, nI_p1]
      rw [hst]
      rcases turns_m J g hi0 q hw1 hw hi with ⟨tb, H2, t1, t2, t3⟩ | ⟨tb, H2, tbf2, t1, t2, t3, t4, t5⟩
      · left
        refine ⟨H2, ?_, ⟨t2, D.tn t3⟩, fun d hd => ?_⟩
        · rw [t1, call_ok, if_pos rfl]
        · by_cases q9 : d = i
          · rw [q9]; exact tb
          · exact hno d (by omega)
      · right
        have gW : GR k w (bkG k r F w i) := ⟨g1, g2, hw1, hw, fun y _ => dg_lt (by omega)⟩
        obtain ⟨h', y1, y2, y3⟩ := t2.lay t4 gW hj t5
        refine ⟨_, rfl, hi, tb, hno, h', ?_, y2, (D.tn t3).tn y3⟩
        have u0 := t2.obj
        obtain ⟨stf', wdf', tbf', u2, u3, u4, v1, v2, v3⟩ := t2.slot hi0 q
        rw [t1, call_ok, if_neg one_ne]
        unfold fX7_back_b69
        rw [o_4 u0]
        simp only [Option.bind_some]
        rw [aI_of u2 hi0 (by decide), v1]
        simp only [Option.bind_some]
        rw [oo u0, y1]
        simp only [Option.bind_some]
        rw [show (10 : Int32) = nI 10 from rfl, pk_mul, nI_add]) 0 FUEL H0 (by omega) (fuel_big (by omega)) ⟨⟨J0, D0⟩, fun d hd => by omega⟩
    rcases key with ⟨fu, H, k1, ⟨J, D⟩, hno⟩ | ⟨d, rr, k1, k2⟩
    · left
      refine ⟨H, ?_, ⟨J, D⟩, hno⟩
      have f0 := J.obj
      obtain ⟨stf, wdf, tbf, f2, f3, f4, s1, s2, s3⟩ := J.slot hi0 q
      refine Eq.trans k1 ?_
      rw [fX7_back_w40]
      simp only []
      rw [o_5 f0]
      simp only [Option.bind_some]
      rw [aI_of f3 hi0 (by decide), s2]
      simp only [Option.bind_some]
      rw [nI_add, i_sub1 (by omega), if_leI (by omega) (by omega), if_pos (Nat.le_refl _)]
      unfold fX7_back_b95
      rw [nI_p1]
    · right
      exact ⟨d, rr, k1, k2⟩
  have hst : ∀ n w H, MInv H 0 sz tl tp sl ol of rd → w < 1000 → fX7_back_w24 (n + 1) 20 (nI i0) (nI j) (nI w) H = if mwN k < w then some ((0 : Int32), H) else fX7_back_w40 (fX7_back_w24 n) FUEL 20 (nI i0) (nI j) (nI w) (nI 0) H := by
    intro n w H J hw
    have f0 := J.obj
    obtain ⟨stf, wdf, tbf, f2, f3, f4, s1, s2, s3⟩ := J.slot hi0 q
    rw [fX7_back_w24]
    simp only []
    rw [o_4 f0]
    simp only [Option.bind_some]
    rw [aI_of f2 hi0 (by decide), s1]
    simp only [Option.bind_some]
    rw [widest_m g1 g2, call_ok, if_ltI (by omega) (by omega), ← l0]
  have key := uptoX (fun n w H => fX7_back_w24 n 20 (nI i0) (nI j) (nI w) H) (mwN k + 1) (fun w H => (MInv H 0 sz tl tp sl ol of rd ∧ Dn h H) ∧ 1 ≤ w ∧ ∀ w' d', 1 ≤ w' → w' < w → d' < r + w' - 1 → ¬ TB k r F w' d') (fun w rr => ∃ d h', BackAt k r F w d ∧ rr = some (nI (10 * w + d), h') ∧ MInv h' 0 sz tl tp (upS sl j (k, w, bkG k r F w d)) ol of rd ∧ Dn h h') (by
    intro n w H hw ⟨⟨J, D⟩, hw1, hno⟩
    rw [hst n w H J (by omega), if_neg (by omega)]
    rcases inner w (fX7_back_w24 n) H hw1 (by omega) J D with ⟨H2, k1, D2, k3⟩ | ⟨d, rr, k1, k2, k3, k4, h', k5, k6⟩
    · left
      refine ⟨H2, k1, D2, by omega, fun w' d' x1 x2 x3 => ?_⟩
      by_cases q9 : w' = w
      · rw [q9] at x3 ⊢; exact k3 d' x3
      · exact hno w' d' x1 (by omega) x3
    · right
      exact ⟨rr, k1, d, h', ⟨hw1, by omega, k2, k3, k4, hno⟩, k5, k6⟩) 1 FUEL h1 (by omega) (fuel_big (by omega)) ⟨⟨I1, d1⟩, Nat.le_refl _, fun w' d' x1 x2 _ => by omega⟩
  rcases key with ⟨fu, H, k1, ⟨J, D⟩, -, hno⟩ | ⟨w, rr, k1, d, h', k2, k3, k4⟩
  · left
    refine ⟨fun w d x1 x2 x3 => hno w d x1 (by omega) x3, H, ?_, J, D⟩
    refine Eq.trans (show fX7_back_w24 FUEL 20 (nI i0) (nI j) (nI 1) h1 = _ from k1) ?_
    rw [hst fu (mwN k + 1) H J (by omega), if_pos (by omega)]
  · right
    exact ⟨w, d, h', k2, (show fX7_back_w24 FUEL 20 (nI i0) (nI j) (nI 1) h1 = _ from k1).trans k3, k4⟩
end MB

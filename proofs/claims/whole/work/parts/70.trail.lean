section TR
variable {h H : Hp} {tr x y : Nat} {rl : Int32}
def tob (tr x y : Nat) (rl : Int32) : HC := oC 4 [vR (tr + 1), vR x, vR y, vI rl]
theorem t0 (h4 : 4 ≤ tr) (e : H[tr]? = some (tob tr x y rl)) : gR H tr 4 0 = some (tr + 1) := gR_of h4 e rfl
theorem t1 (h4 : 4 ≤ tr) (e : H[tr]? = some (tob tr x y rl)) : gR H tr 4 1 = some x := gR_of h4 e rfl
theorem t2 (h4 : 4 ≤ tr) (e : H[tr]? = some (tob tr x y rl)) : gR H tr 4 2 = some y := gR_of h4 e rfl
theorem t3 (h4 : 4 ≤ tr) (e : H[tr]? = some (tob tr x y rl)) : gI H tr 4 3 = some rl := gI_of h4 e rfl
theorem tok (h4 : 4 ≤ tr) (e : H[tr]? = some (tob tr x y rl)) {β : Type} {z : Option β} : oK H tr 4 z = z := oK_of h4 e
theorem tp1 (h4 : 4 ≤ tr) (e : H[tr]? = some (tob tr x y rl)) {z : Nat} : pF H tr 4 1 (vR z) = some (H.set tr (tob tr z y rl)) := pF_of h4 e (by simp)
theorem tp2 (h4 : 4 ≤ tr) (e : H[tr]? = some (tob tr x y rl)) {z : Nat} : pF H tr 4 2 (vR z) = some (H.set tr (tob tr x z rl)) := pF_of h4 e (by simp)
theorem tp3 (h4 : 4 ≤ tr) (e : H[tr]? = some (tob tr x y rl)) {z : Int32} : pF H tr 4 3 (vI z) = some (H.set tr (tob tr x y z)) := pF_of h4 e (by simp)
def XY (tr x y : Nat) : Prop := (x = tr + 2 ∧ y = tr + 3) ∨ (x = tr + 3 ∧ y = tr + 2)
/-- all but the trail's cells stay -/
def DT (tr : Nat) (h H : Hp) : Prop := H.length = h.length ∧ ∀ i, i < tr ∨ tr + 3 < i → H[i]? = h[i]?
theorem DT.rf : DT tr h h := ⟨rfl, fun _ _ => rfl⟩
theorem DT.st {i : Nat} {c : HC} (d : DT tr h H) (hi : tr ≤ i ∧ i ≤ tr + 3) : DT tr h (H.set i c) := ⟨by rw [List.length_set]; exact d.1, fun j hj => by rw [st_n (by omega)]; exact d.2 j hj⟩
theorem DT.rule {a k r : Nat} {F : Nat → Nat} (d : DT tr h H) (ha : a < tr ∨ tr + 3 < a) (hb : a + 1 < tr ∨ tr + 3 < a + 1) (R : RuleAt h a (a + 1) k r F) : RuleAt H a (a + 1) k r F := by
  obtain ⟨h1, h2, h3, h4, f, h5, h6⟩ := R
  exact ⟨h1, h2, h3, (d.2 _ ha).trans h4, f, (d.2 _ hb).trans h5, h6⟩
/-- the trail behind t steps -/
def TS (h : Hp) (tr k r : Nat) (F : Nat → Nat) (n : Nat) (c : Nat → Nat) (rl : Int32) (t : Nat) (H : Hp) : Prop := ∃ (x y : Nat) (f1 f2 : Nat → Int32) (fc : Nat → Int64), DT tr h H ∧ H[tr]? = some (tob tr x y rl) ∧ XY tr x y ∧ H[x]? = some (aC 0 20 f1) ∧ (∀ j, j < n → f1 j = nI (gro k r F n c t j)) ∧ H[y]? = some (aC 0 20 f2) ∧ H[tr + 1]? = some (lC 20001 fc) ∧ ∀ i, i ≤ t → fc i = lN (coN k r F n c i)
variable {a k r : Nat} {F : Nat → Nat} {n : Nat} {c : Nat → Nat}
theorem tbegin_ok (g : GR k r F) (htr : 44 ≤ tr) (ha : a < tr ∨ tr + 3 < a) (hb : a + 1 < tr ∨ tr + 3 < a + 1) (R : RuleAt h a (a + 1) k r F) (hn2 : n ≤ 20) (hc : ∀ i, i < n → c i < k) {tf f1 f2 : Nat → Int32} {fc : Nat → Int64} (e6 : h[6]? = some (aC 0 100 tf)) (htf : ∀ i, i < n → tf i = nI (c i)) (et : h[tr]? = some (tob tr x y rl)) (hxy : XY tr x y) (ex : h[x]? = some (aC 0 20 f1)) (ey : h[y]? = some (aC 0 20 f2)) (ec : h[tr + 1]? = some (lC 20001 fc)) : ∃ H, fX4_begin h tr a 6 (nI n) = some H ∧ TS h tr k r F n c rl 0 H := by
  obtain ⟨g1, g2, g3, g4, gF⟩ := id g
  have hx : tr + 2 ≤ x ∧ x ≤ tr + 3 := by rcases hxy with ⟨rfl, rfl⟩ | ⟨rfl, rfl⟩ <;> omega
  have hyy : tr + 2 ≤ y ∧ y ≤ tr + 3 ∧ x ≠ y := by rcases hxy with ⟨rfl, rfl⟩ | ⟨rfl, rfl⟩ <;> omega
  refine ⟨(h.set x (aC 0 20 (fillN (fun j => nI (c j)) n f1))).set (tr + 1) (lC 20001 (vp_updL fc 0 (lN (cd k c n)))), ?_, x, y, _, f2, _, (DT.rf.st (by omega)).st (by omega), st_n' (by omega) (st_n' (by omega) et), hxy, st_n' (by omega) (st_s ex), fun j hj => by simp [fillN, hj, gro], st_n' (by omega) (st_n' (by omega) ey), st_s (st_n' (by omega) ec), fun i hi => ?_⟩
  · unfold fX4_begin
    have E6 : ∀ u, (h.set x u)[6]? = some (aC 0 100 tf) := fun u => st_n' (by omega) e6
    have ET : ∀ u, (h.set x u)[tr]? = some (tob tr x y rl) := fun u => st_n' (by omega) et
    have ER : ∀ u, RuleAt (h.set x u) a (a + 1) k r F := fun u => R.set (by omega) (by omega)
    have key := upto (fun q i => fX4_begin_w6 q tr a 6 (nI n) (lN (cd k c i)) (nI i) (h.set x (aC 0 20 (fillN (fun j => nI (c j)) i f1)))) n (some ((h.set x (aC 0 20 (fillN (fun j => nI (c j)) n f1))).set (tr + 1) (lC 20001 (vp_updL fc 0 (lN (cd k c n)))))) (fun q i hi => by
      have hci := hc i hi
      rw [fX4_begin_w6]
      simp only []
      rw [if_leI (by omega) (by omega), if_neg (by omega), t1 (by omega) (ET _)]
      simp only [Option.bind_some]
      rw [aI_of (E6 _) (by omega) (by decide), htf i hi]
      simp only [Option.bind_some]
      rw [sI_of (by omega) (st_s ex) (by omega) (by decide), x_nar0, List.set_set, show upd (fillN (fun j => nI (c j)) i f1) i (nI (c i)) = fillN (fun j => nI (c j)) (i + 1) f1 from fillN_s (f := fun j => nI (c j))]
      simp only [Option.bind_some]
      rw [rk (ER _)]
      simp only [Option.bind_some]
      rw [aI_of (E6 _) (by omega) (by decide), htf i hi]
      simp only [Option.bind_some]
      rw [setv_ok, nI_l (by omega), nI_l (by omega), lN_mul, lN_add, nI_p1]
      rfl) (fun q => by
      rw [fX4_begin_w6]
      simp only []
      rw [if_leI (by omega) (by omega), if_pos (Nat.le_refl _)]
      unfold fX4_begin_b45
      rw [t0 (by omega) (ET _)]
      simp only [Option.bind_some]
      rw [show (0 : Int32) = nI 0 from rfl, sL_of (by omega) (st_n' (by omega) ec) (by decide) (by decide)]
      rfl) 0 FUEL (by omega) (fuel_big (by omega))
    rw [fillN_0, st_id ex] at key
    exact key
  · have : i = 0 := by omega
    rw [this, updL_self]
    rfl
theorem tstep_ok (g : GR k r F) (htr : 44 ≤ tr) (ha : a < tr ∨ tr + 3 < a) (hb : a + 1 < tr ∨ tr + 3 < a + 1) (R : RuleAt h a (a + 1) k r F) (hn : 0 < n) (hn2 : n ≤ 20) (hc : ∀ i, i < n → c i < k) {W : Nat → Nat → Int32 → Int32 → Nat → Int32 → Int32 → Hp → Option (Int32 × Hp)} {i6 i7 : Int32} {t look q : Nat} (hl : look ≤ 20000) (ht : t < look) (T : TS h tr k r F n c rl t H) : ∃ H', fX4_climb_w65 W (q + 1) tr a (nI n) 3 i6 i7 (nI look) (nI (t + 1)) H = fX4_climb_w65 W q tr a (nI n) 3 i6 i7 (nI look) (nI (t + 1 + 1)) H' ∧ TS h tr k r F n c rl (t + 1) H' := by
  obtain ⟨x, y, f1, f2, fc, D, et, hxy, ex, hf1, ey, ec, hfc⟩ := T
  have hx : tr + 2 ≤ x ∧ x ≤ tr + 3 := by rcases hxy with ⟨rfl, rfl⟩ | ⟨rfl, rfl⟩ <;> omega
  have hyy : tr + 2 ≤ y ∧ y ≤ tr + 3 ∧ x ≠ y := by rcases hxy with ⟨rfl, rfl⟩ | ⟨rfl, rfl⟩ <;> omega
  have RH := D.rule ha hb R
  have hgr := grow_ok g (c := gro k r F n c t) hn hn2 (by decide) hn2 (by decide) (gro_lt g hn hc t) hf1 (show 4 ≤ y by omega) (Ne.symm hyy.2.2) (by omega) (by omega) RH ex ey
  generalize hG : fillN (fun j => nI (F (wd k (gro k r F n c t) n r j))) n f2 = G at hgr
  have hGj : ∀ j, j < n → G j = nI (gro k r F n c (t + 1) j) := fun j hj => by rw [← hG]; simp [fillN, hj, gro]
  have hco : cd k (fun j => F (wd k (gro k r F n c t) n r j)) n = coN k r F n c (t + 1) := rfl
  rw [hco] at hgr
  refine ⟨(((H.set y (aC 0 20 G)).set (tr + 1) (lC 20001 (vp_updL fc (t + 1) (lN (coN k r F n c (t + 1)))))).set tr (tob tr x x rl)).set tr (tob tr y x rl), ?_, y, x, G, f1, _, (((D.st (by omega)).st (by omega)).st (by omega)).st (by omega), st_s (st_s (st_n' (by omega) (st_n' (by omega) et))), hxy.symm.imp id id |>.elim (fun z => Or.inl ⟨z.2, z.1⟩) (fun z => Or.inr ⟨z.2, z.1⟩), st_n' (by omega) (st_n' (by omega) (st_n' (by omega) (st_s ey))), hGj, st_n' (by omega) (st_n' (by omega) (st_n' (by omega) (st_n' (by omega) ex))), st_n' (by omega) (st_n' (by omega) (st_s (st_n' (by omega) ec))), fun i hi => ?_⟩
  · rw [fX4_climb_w65]
    simp only []
    rw [if_ltI (by omega) (by omega), if_neg (by omega), t0 (by omega) et]
    simp only [Option.bind_some]
    rw [aN_ofL (by omega) ec]
    simp only [Option.bind_some]
    rw [if_leI (by omega) (by omega), if_neg (by omega), t1 (by omega) et]
    simp only [Option.bind_some]
    rw [t2 (by omega) et]
    simp only [Option.bind_some]
    rw [rok RH, hgr, call_ok, sL_of (by omega) (st_n' (by omega) ec) (by omega) (by decide)]
    simp only [Option.bind_some]
    rw [t2 (by omega) (st_n' (by omega) (st_n' (by omega) et))]
    simp only [Option.bind_some]
    rw [t1 (by omega) (st_n' (by omega) (st_n' (by omega) et))]
    simp only [Option.bind_some]
    rw [tp2 (by omega) (st_n' (by omega) (st_n' (by omega) et))]
    simp only [Option.bind_some]
    rw [tp1 (by omega) (st_s (st_n' (by omega) (st_n' (by omega) et)))]
    simp only [Option.bind_some]
    rw [nI_p1]
  · by_cases q1 : i = t + 1
    · rw [q1, updL_self]
    · rw [updL_ne q1, hfc i (by omega)]
theorem lcmp_eq {p q : Nat} (hp : p < 2 ^ 63) (hq : q < 2 ^ 63) : (lg_cmp (lN p) (lN q) = 0) ↔ p = q := by
  rw [lg_cmp_eq, ← Int64.toInt_inj, show (lN p).toInt = (p : Int) from lg_ofNat_toInt hp, show (lN q).toInt = (q : Int) from lg_ofNat_toInt hq]
  omega
theorem lengthAt_ok {fc : Nat → Int64} {co : Nat → Nat} (htr : 44 ≤ tr) (et : H[tr]? = some (tob tr x y rl)) (ec : H[tr + 1]? = some (lC 20001 fc)) {la : Nat} (hla : la ≤ 20000) (hfc : ∀ i, i ≤ la → fc i = lN (co i)) (hco : ∀ i, co i < 2 ^ 41) : ((∀ l, 1 ≤ l → l ≤ la → co (la - l) ≠ co la) ∧ fX4_lengthAt H tr (nI la) = some (0, H)) ∨ (∃ l, 1 ≤ l ∧ l ≤ la ∧ co (la - l) = co la ∧ (∀ l', 1 ≤ l' → l' < l → co (la - l') ≠ co la) ∧ fX4_lengthAt H tr (nI la) = some (nI l, H)) := by
  unfold fX4_lengthAt
  rw [t0 (by omega) et]
  simp only [Option.bind_some]
  rw [aN_ofL (by omega) ec]
  simp only [Option.bind_some]
  rw [if_ltI (by omega) (by omega), if_pos (by omega), setv_ok]
  have key : ∀ i fuel, i ≤ la → i < fuel → (∀ l, 1 ≤ l → l ≤ la - i → co (la - l) ≠ co la) → ((∀ l, 1 ≤ l → l ≤ la → co (la - l) ≠ co la) ∧ fX4_lengthAt_w15 fuel tr (nI la) (nI i - 1) H = some (0, H)) ∨ (∃ l, 1 ≤ l ∧ l ≤ la ∧ co (la - l) = co la ∧ (∀ l', 1 ≤ l' → l' < l → co (la - l') ≠ co la) ∧ fX4_lengthAt_w15 fuel tr (nI la) (nI i - 1) H = some (nI l, H)) := by
    intro i
    induction i with
    | zero =>
      intro fuel hi hf hno
      obtain ⟨q, rfl⟩ : ∃ q, fuel = q + 1 := ⟨fuel - 1, by omega⟩
      left
      refine ⟨fun l h1 h2 => hno l h1 (by omega), ?_⟩
      rw [fX4_lengthAt_w15]
      simp only []
      rw [if_pos (by decide)]
    | succ i ih =>
      intro fuel hi hf hno
      obtain ⟨q, rfl⟩ : ∃ q, fuel = q + 1 := ⟨fuel - 1, by omega⟩
      have c1 := hco i
      have c2 := hco la
      rw [fX4_lengthAt_w15]
      simp only []
      rw [i_sub1 (by omega), Nat.add_sub_cancel, if_neg (nI_nn (by omega)), t0 (by omega) et]
      simp only [Option.bind_some]
      rw [aL_of (by omega) ec (by omega) (by decide), hfc i (by omega)]
      simp only [Option.bind_some]
      rw [aL_of (by omega) ec (by omega) (by decide), hfc la (Nat.le_refl _)]
      simp only [Option.bind_some]
      by_cases q1 : co i = co la
      · right
        refine ⟨la - i, by omega, by omega, by rw [show la - (la - i) = i by omega]; exact q1, fun l' h1 h2 => hno l' h1 (by omega), ?_⟩
        rw [if_pos ((lcmp_eq (by omega) (by omega)).mpr q1), pk_sub (by omega)]
      · rw [if_neg (fun z => q1 ((lcmp_eq (by omega) (by omega)).mp z)), i_m1]
        refine ih q (by omega) (by omega) (fun l h1 h2 => ?_)
        by_cases q2 : l = la - i
        · rw [q2, show la - (la - i) = i by omega]; exact q1
        · exact hno l h1 (by omega)
  exact key la FUEL (Nat.le_refl _) (fuel_big (by omega)) (fun l h1 h2 => by omega)
theorem heightBefore_ok {fc : Nat → Int64} {co : Nat → Nat} (htr : 44 ≤ tr) (et : H[tr]? = some (tob tr x y rl)) (ec : H[tr + 1]? = some (lC 20001 fc)) {la l : Nat} (hla : la ≤ 20000) (hl : l ≤ la) (hfc : ∀ i, i ≤ la → fc i = lN (co i)) (hco : ∀ i, co i < 2 ^ 41) (hex : co (la - l) = co la) : ∃ z, z + l ≤ la ∧ co z = co (z + l) ∧ (∀ u, u < z → co u ≠ co (u + l)) ∧ fX4_heightBefore H tr (nI la) (nI l) = some (nI z, H) := by
  obtain ⟨z, hz, hmin⟩ := pk_least (fun z => co z = co (z + l)) ⟨la - l, by rw [Nat.sub_add_cancel hl]; exact hex⟩
  have hzl : z ≤ la - l := by
    have : ¬ la - l < z := fun w => hmin (la - l) w (by rw [Nat.sub_add_cancel hl]; exact hex)
    omega
  refine ⟨z, by omega, hz, hmin, ?_⟩
  unfold fX4_heightBefore
  have st : ∀ q i, i < la - l + 1 → fX4_heightBefore_w2 (q + 1) tr (nI la) (nI l) (nI i) H = if co i = co (i + l) then some (nI i, H) else fX4_heightBefore_w2 q tr (nI la) (nI l) (nI (i + 1)) H := by
    intro q i hi
    have c1 := hco i
    have c2 := hco (i + l)
    rw [fX4_heightBefore_w2]
    simp only []
    rw [nI_add, if_ltI (by omega) (by omega), if_neg (by omega), t0 (by omega) et]
    simp only [Option.bind_some]
    rw [aL_of (by omega) ec (by omega) (by decide), hfc i (by omega)]
    simp only [Option.bind_some]
    rw [aL_of (by omega) ec (by omega) (by decide), hfc (i + l) (by omega)]
    simp only [Option.bind_some]
    by_cases q1 : co i = co (i + l)
    · rw [if_pos q1, if_pos ((lcmp_eq (by omega) (by omega)).mpr q1)]
    · rw [if_neg q1, if_neg (fun w => q1 ((lcmp_eq (by omega) (by omega)).mp w)), nI_p1]
  exact scan_at (fun q i => fX4_heightBefore_w2 q tr (nI la) (nI l) (nI i) H) (la - l + 1) (fun i => co i = co (i + l)) (fun i => some (nI i, H)) (fun q i hi hn => by rw [st q i hi, if_neg hn]) (fun q i hi hn => by rw [st q i hi, if_pos hn]) 0 FUEL z (Nat.zero_le _) (by omega) hz (fun u _ hu => hmin u hu) (fuel_big (by omega))
/-- one look: the repeat is found, or the look is clear -/
theorem look_ok (g : GR k r F) (htr : 44 ≤ tr) (ha : a < tr ∨ tr + 3 < a) (hb : a + 1 < tr ∨ tr + 3 < a + 1) (R : RuleAt h a (a + 1) k r F) (hn : 0 < n) (hn2 : n ≤ 20) (hc : ∀ i, i < n → c i < k) {W : Nat → Nat → Int32 → Int32 → Nat → Int32 → Int32 → Hp → Option (Int32 × Hp)} {i6 i7 : Int32} {la look : Nat} (hl : look ≤ 20000) (hla : la < look) (T : TS h tr k r F n c rl la H) : (∃ H' j i, i ≤ look ∧ FR (coN k r F n c) j i ∧ fX4_climb_w65 W FUEL tr a (nI n) 3 i6 i7 (nI look) (nI (la + 1)) H = some (nI j, H') ∧ TS h tr k r F n c (nI (i - j)) look H') ∨ (∃ H', (∀ l, 1 ≤ l → l ≤ look → coN k r F n c (look - l) ≠ coN k r F n c look) ∧ fX4_climb_w65 W FUEL tr a (nI n) 3 i6 i7 (nI look) (nI (la + 1)) H = W tr a (nI n) (nI look) 3 i6 (i7 + 1) H' ∧ TS h tr k r F n c rl look H') := by
  have key := uptoI (fun q i H => fX4_climb_w65 W q tr a (nI n) 3 i6 i7 (nI look) (nI i) H) (look + 1) (fun i H => 1 ≤ i ∧ TS h tr k r F n c rl (i - 1) H) (by
    rintro q i H hi ⟨h1, T⟩
    obtain ⟨H', y1, y2⟩ := tstep_ok g htr ha hb R hn hn2 hc (W := W) (i6 := i6) (i7 := i7) (q := q) hl (show i - 1 < look by omega) T
    rw [show i - 1 + 1 = i by omega] at y1 y2
    exact ⟨H', y1, by omega, by rw [Nat.add_sub_cancel]; exact y2⟩) (la + 1) FUEL H (by omega) (fuel_big (by omega)) ⟨by omega, by rw [Nat.add_sub_cancel]; exact T⟩
  obtain ⟨fu, H1, k1, -, k2⟩ := key
  rw [Nat.add_sub_cancel] at k2
  have hco : ∀ i, coN k r F n c i < 2 ^ 41 := fun i => coN_lt g hn hn2 hc i
  have hdet := coN_det g hn hc
  obtain ⟨x, y, f1, f2, fc, D, et, hxy, ex, hf1, ey, ec, hfc⟩ := id k2
  have hst : fX4_climb_w65 W FUEL tr a (nI n) 3 i6 i7 (nI look) (nI (la + 1)) H = fX4_climb_b129 W tr a (nI n) 3 i6 i7 (nI look) H1 := by
    refine Eq.trans k1 ?_
    rw [fX4_climb_w65]
    simp only []
    rw [if_ltI (by omega) (by omega), if_pos (by omega)]
  unfold fX4_climb_b129 at hst
  rw [tok (by omega) et] at hst
  rcases lengthAt_ok htr et ec hl hfc hco with ⟨z1, z2⟩ | ⟨l, z1, z2, z3, z4, z5⟩
  · right
    refine ⟨H1, z1, ?_, k2⟩
    rw [hst, z2, call_ok, if_pos (by decide)]
  · left
    rw [z5, call_ok, if_neg (by rw [l0, Int32.not_le]; exact nI_lt (by omega) (by omega))] at hst
    unfold fX4_climb_b146 at hst
    rw [tp3 (by omega) et] at hst
    simp only [Option.bind_some] at hst
    have et2 : (H1.set tr (tob tr x y (nI l)))[tr]? = some (tob tr x y (nI l)) := st_s et
    obtain ⟨w, w1, w2, w3, w4⟩ := heightBefore_ok htr et2 (st_n' (by omega) ec) hl z2 hfc hco z3
    rw [tok (by omega) et2, w4, call_ok] at hst
    obtain ⟨j, i, hi, fr⟩ := FR.of (co := coN k r F n c) (N := look) ⟨w, w + l, by omega, w1, w2⟩
    obtain ⟨rfl, hli⟩ := FR.found hdet fr z1 z2 z4 w1 w2 w3
    refine ⟨_, w, i, hi, fr, hst, ?_⟩
    rw [← hli]
    have hx : tr + 2 ≤ x ∧ tr + 2 ≤ y := by rcases hxy with ⟨rfl, rfl⟩ | ⟨rfl, rfl⟩ <;> omega
    exact ⟨x, y, f1, f2, fc, D.st (by omega), et2, hxy, st_n' (by omega) ex, hf1, st_n' (by omega) ey, st_n' (by omega) ec, hfc⟩
end TR

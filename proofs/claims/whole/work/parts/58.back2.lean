theorem uptoX {β : Type} (w : Nat → Nat → Hp → Option β) (e : Nat) (J : Nat → Hp → Prop) (X : Nat → Option β → Prop) (hs : ∀ n i h, i < e → J i h → (∃ h', w (n + 1) i h = w n (i + 1) h' ∧ J (i + 1) h') ∨ (∃ r, w (n + 1) i h = r ∧ X i r)) : ∀ i fuel h, i ≤ e → e - i < fuel → J i h → (∃ f h', w fuel i h = w (f + 1) e h' ∧ J e h') ∨ (∃ i' r, w fuel i h = r ∧ X i' r) := by
  intro i fuel h hi hf hJ
  generalize hd : e - i = d at hf
  induction d generalizing i fuel h with
  | zero =>
    obtain ⟨f, rfl⟩ : ∃ f, fuel = f + 1 := ⟨fuel - 1, by omega⟩
    have : i = e := by omega
    subst this
    exact Or.inl ⟨f, h, rfl, hJ⟩
  | succ d ih =>
    obtain ⟨f, rfl⟩ : ∃ f, fuel = f + 1 := ⟨fuel - 1, by omega⟩
    rcases hs f i h (by omega) hJ with ⟨h', e1, J1⟩ | ⟨r, e1, X1⟩
    · rw [e1]
      exact ih (i + 1) f h' (by omega) J1 (by omega) (by omega)
    · exact Or.inr ⟨i, r, e1, X1⟩
section CBK
variable {SV : SVP} {h : Hp} {tl : Nat} {tp : Nat → Nat} {sl : SL} {ol : Nat} {of : Nat → Nat} {rd tr su : Nat}
theorem nI_nm1 {n : Nat} (hn : n < 2 ^ 31) : ¬ nI n = -1 := fun z => by
  have h1 := nI_nn hn
  rw [z] at h1
  exact h1 (by decide)
theorem pows_le {k r w : Nat} {F : Nat → Nat} (g : GR k r F) (hw : w ≤ mwN k) : k ^ (r + w - 1) ≤ 243 ∧ k ^ w ≤ 27 ∧ w ≤ 4 ∧ r + w - 1 ≤ 7 := by
  have hw4 : w = 0 ∨ w = 1 ∨ w = 2 ∨ w = 3 ∨ w = 4 := by
    have : mwN k ≤ 4 := by unfold mwN; split; omega; split; omega; split <;> omega
    omega
  rcases g.cases with ⟨rfl, rfl | rfl | rfl | rfl⟩ | ⟨rfl, rfl | rfl | rfl⟩ | ⟨rfl, rfl | rfl⟩ <;> rcases hw4 with rfl | rfl | rfl | rfl | rfl <;> first | decide | (exfalso; revert hw; decide)
theorem turnsBack_ok {k r : Nat} {F : Nat → Nat} (g : GR k r F) {a w d : Nat} {he th : Nat} {tl' ol' rl' : Int32} (ha : 44 ≤ a) (hq : HT he th) (hw1 : 1 ≤ w) (hw : w ≤ mwN k) (hd : d < r + w - 1) (R : RuleAt h a (a + 1) k r F) (e4 : h[4]? = some (mo tl' ol' rl' he th tr su)) (cf : CFix h) :
    (TB k r F w d ∧ ∃ H f, fX6_turnsBack h 4 a (nI w) (nI d) = some (1, H) ∧ D3 h H ∧ H[10]? = some (aC 0 27 f) ∧ ∀ x, x < k ^ (r + w - 1) → f (imN k r F w x) = nI (dg k (r + w - 1) x d)) ∨ (¬ TB k r F w d ∧ ∃ H, fX6_turnsBack h 4 a (nI w) (nI d) = some (0, H) ∧ D3 h H) := by
  obtain ⟨n1, n2, n3, n4, n5⟩ := g.nums
  obtain ⟨g1, g2, g3, g4, gF⟩ := id g
  obtain ⟨p1, p2, p3, p4⟩ := pows_le g hw
  obtain ⟨z1, z2, z3, z4, z5, z6, z7⟩ := hq.ne
  obtain ⟨f8, f9, e8, e9⟩ := hq.rows cf
  obtain ⟨f0, e10⟩ := cf.2.2.1
  have hpre : fX6_turnsBack h 4 a (nI w) (nI d) = fX6_turnsBack_w54 FUEL 4 a (nI w) (nI d) (nI (r + w - 1)) (nI (k ^ (r + w - 1))) (nI 0) (h.set 10 (aC 0 27 (fillN (fun _ => -1) 27 f0))) := by
    unfold fX6_turnsBack
    rw [rr R]
    simp only [Option.bind_some]
    rw [nI_add, i_sub1 (by omega), setv_ok, rk R]
    simp only [Option.bind_some]
    rw [power_ok (by omega) (by omega) (by omega), call_ok, if_neg (nI_nn (by omega)), if_leI (by omega) (by omega), if_neg (by omega), m6 e4]
    simp only [Option.bind_some]
    rw [aN_of e8 (by decide)]
    simp only [Option.bind_some]
    rw [if_leI (by omega) (by omega), if_pos (by omega), m8 e4]
    simp only [Option.bind_some]
    rw [fill_ok (by decide) (by decide) e10]
    rfl
  rw [hpre]
  have key := uptoE (fun n i H => fX6_turnsBack_w54 n 4 a (nI w) (nI d) (nI (r + w - 1)) (nI (k ^ (r + w - 1))) (nI i) H) (k ^ (r + w - 1)) (fun i H => D3 h H ∧ ∃ f, H[10]? = some (aC 0 27 f) ∧ (∀ x, x < i → f (imN k r F w x) = nI (dg k (r + w - 1) x d)) ∧ ∀ y, y < 27 → (∀ x, x < i → imN k r F w x ≠ y) → f y = -1) (fun H => D3 h H ∧ ¬ TB k r F w d) (fun H => some (0, H)) (by
    intro n i H hi ⟨D, f, fe, ff, fn⟩
    have f4 : H[4]? = some (mo tl' ol' rl' he th tr su) := (D.2.1 4 (by decide) (by decide) (by decide)).trans e4
    have R1 : RuleAt H a (a + 1) k r F := R.up D.up (by omega) (by omega)
    obtain ⟨H1, H2, fh, s1, s2, s3, s4, s5, s6, s7, s8, s9⟩ := sg_ok (q := w) (x := i) g ha hq (by omega) (by omega) (by omega) R1 f4 D.2.2
    have R3 : RuleAt H1 a (a + 1) k r F := R1.up s8.up (by omega) (by omega)
    have hil := imN_lt g w i
    have hi27 : imN k r F w i < 27 := by omega
    have hdd : dg k (r + w - 1) i d < k := dg_lt (by omega)
    have fe2 : H2[10]? = some (aC 0 27 f) := s7.trans fe
    have hstep : fX6_turnsBack_w54 (n + 1) 4 a (nI w) (nI d) (nI (r + w - 1)) (nI (k ^ (r + w - 1))) (nI i) H = if f (imN k r F w i) = -1 then fX6_turnsBack_b132 (fX6_turnsBack_w54 n) 4 a (nI w) (nI d) (nI (r + w - 1)) (nI (k ^ (r + w - 1))) (nI i) (nI (imN k r F w i)) (H2.set 10 (aC 0 27 (upd f (imN k r F w i) (nI (dg k (r + w - 1) i d))))) else fX6_turnsBack_b132 (fX6_turnsBack_w54 n) 4 a (nI w) (nI d) (nI (r + w - 1)) (nI (k ^ (r + w - 1))) (nI i) (nI (imN k r F w i)) H2 := by
      rw [fX6_turnsBack_w54]
      simp only []
      rw [if_leI (by omega) (by omega), if_neg (by omega), m6 f4]
      simp only [Option.bind_some]
      rw [rok R1, s1]
      simp only [Option.bind_some]
      rw [m6 s3]
      simp only [Option.bind_some]
      rw [m7 s3]
      simp only [Option.bind_some]
      rw [rok R3, s2, call_ok, setv_ok, lN_i, if_neg (nI_nn (by omega)), m8 s4]
      simp only [Option.bind_some]
      rw [aN_of fe2 (by decide)]
      simp only [Option.bind_some]
      rw [if_ltI (by omega) (by omega), if_pos hi27, aI_of fe2 hi27 (by decide)]
      simp only [Option.bind_some]
      rw [m6 s4]
      simp only [Option.bind_some]
      rw [aI_of s5 (show d < 100 by omega) (by decide), s6 d hd]
      simp only [Option.bind_some]
      rw [sI_of (by decide) fe2 hi27 (by decide), x_nar0]
      rfl
    have hb : ∀ (H3 : Hp) (f3 : Nat → Int32), H3[4]? = some (mo tl' ol' rl' he th tr su) → H3[10]? = some (aC 0 27 f3) → H3[he]? = some (aC 0 100 fh) → fX6_turnsBack_b132 (fX6_turnsBack_w54 n) 4 a (nI w) (nI d) (nI (r + w - 1)) (nI (k ^ (r + w - 1))) (nI i) (nI (imN k r F w i)) H3 = if f3 (imN k r F w i) = nI (dg k (r + w - 1) i d) then fX6_turnsBack_w54 n 4 a (nI w) (nI d) (nI (r + w - 1)) (nI (k ^ (r + w - 1))) (nI (i + 1)) H3 else some (0, H3) := by
      intro H3 f3 y4 y10 yh
      unfold fX6_turnsBack_b132
      rw [m8 y4]
      simp only [Option.bind_some]
      rw [aI_of y10 hi27 (by decide)]
      simp only [Option.bind_some]
      rw [m6 y4]
      simp only [Option.bind_some]
      rw [aI_of yh (show d < 100 by omega) (by decide), s6 d hd]
      simp only [Option.bind_some]
      rw [nI_p1, retZ0]
    rw [hstep]
    by_cases q1 : f (imN k r F w i) = -1
    · left
      rw [if_pos q1, hb _ (upd f (imN k r F w i) (nI (dg k (r + w - 1) i d))) (st_n' (by decide) s4) (st_s fe2) (st_n' (by omega) s5), upd_self, if_pos rfl]
      refine ⟨_, rfl, (D.trn s9).told, _, st_s fe2, fun x hx => ?_, fun y hy hno => ?_⟩
      · by_cases q2 : imN k r F w x = imN k r F w i
        · rw [q2, upd_self]
          by_cases q3 : x = i
          · rw [q3]
          · exfalso
            have := ff x (by omega)
            rw [q2, q1] at this
            exact nI_nm1 (by have := dg_lt (k := k) (W := r + w - 1) (x := x) (j := d) (by omega); omega) this.symm
        · rw [upd_ne q2]
          refine ff x ?_
          have : x ≠ i := fun z => q2 (by rw [z])
          omega
      · have hne : y ≠ imN k r F w i := fun z => hno i (by omega) z.symm
        rw [upd_ne hne]
        exact fn y hy (fun x hx => hno x (by omega))
    · rw [if_neg q1, hb H2 f s4 fe2 s5]
      obtain ⟨x0, hx0, hx1⟩ : ∃ x, x < i ∧ imN k r F w x = imN k r F w i := by
        rcases Classical.em (∃ x, x < i ∧ imN k r F w x = imN k r F w i) with z | z
        · exact z
        · exact absurd (fn _ hi27 (fun x hx e => z ⟨x, hx, e⟩)) q1
      have hfx := ff x0 hx0
      rw [hx1] at hfx
      by_cases q2 : f (imN k r F w i) = nI (dg k (r + w - 1) i d)
      · left
        rw [if_pos q2]
        refine ⟨_, rfl, D.trn s9, f, fe2, fun x hx => ?_, fun y hy hno => fn y hy (fun x hx => hno x (by omega))⟩
        by_cases q3 : x = i
        · rw [q3]; exact q2
        · exact ff x (by omega)
      · right
        rw [if_neg q2]
        refine ⟨_, rfl, D.trn s9, fun tb => q2 ?_⟩
        rw [hfx, tb x0 i (by omega) hi hx1]) 0 FUEL (h.set 10 (aC 0 27 (fillN (fun _ => -1) 27 f0))) (by omega) (fuel_big (by omega)) ⟨(D3.rf cf).told, _, st_s e10, fun x hx => by omega, fun y hy _ => by simp [fillN, hy]⟩
  rcases key with ⟨fu, H, k1, ⟨D, f, fe, ff, fn⟩⟩ | ⟨H, k1, D, nt⟩
  · left
    refine ⟨fun x x' hx hx' e => ?_, H, f, ?_, D, fe, ff⟩
    · have a1 := ff x hx
      have a2 := ff x' hx'
      rw [e, a2] at a1
      have b1 := dg_lt (k := k) (W := r + w - 1) (x := x) (j := d) (by omega)
      have b2 := dg_lt (k := k) (W := r + w - 1) (x := x') (j := d) (by omega)
      exact ((nI_eq (by omega) (by omega)).mp a1).symm
    · refine Eq.trans k1 ?_
      rw [fX6_turnsBack_w54]
      simp only []
      rw [if_leI (by omega) (by omega), if_pos (Nat.le_refl _), retZ1]
  · right
    exact ⟨nt, H, k1, D⟩
/-- where back() finds the rule: the first width, then the first shift -/
def BackAt (k r : Nat) (F : Nat → Nat) (w d : Nat) : Prop := 1 ≤ w ∧ w ≤ mwN k ∧ d < r + w - 1 ∧ TB k r F w d ∧ (∀ d', d' < d → ¬ TB k r F w d') ∧ ∀ w' d', 1 ≤ w' → w' < w → d' < r + w' - 1 → ¬ TB k r F w' d'
def NoBack (k r : Nat) (F : Nat → Nat) : Prop := ∀ w d, 1 ≤ w → w ≤ mwN k → d < r + w - 1 → ¬ TB k r F w d
theorem c_back (I : CInv SV h tl tp sl ol of rd tr su) (s t : Int32) : (((ruleOf sl s = none) ∨ t < 0 ∨ nI 6 ≤ t) ∧ fX6_back h 4 s t = some (-1, h)) ∨ (∃ k r F j, ruleOf sl s = some (k, r, F) ∧ GR k r F ∧ j < 6 ∧ t = nI j ∧ ((NoBack k r F ∧ ∃ h', fX6_back h 4 s t = some (0, h') ∧ CInv SV h' tl tp sl ol of rd tr su ∧ Up h h') ∨ (∃ w d h', BackAt k r F w d ∧ fX6_back h 4 s t = some (nI (10 * w + d), h') ∧ GR k w (bkG k r F w d) ∧ CInv SV h' tl tp (upS sl j (k, w, bkG k r F w d)) ol of rd tr su ∧ Up h h'))) := by
  obtain ⟨he, th, sf, tf, uf, e2, e3, e4, a1, a2, a3, a4, e5, a5, e6, a6, e7, a7, cf, aT, aS, aL⟩ := id I
  unfold fX6_back
  rw [mok e4]
  rcases ruleIn_st e4 e5 a5 s with ⟨q, e⟩ | ⟨a, k, r, F, q, e, ha, g, R⟩
  · left
    rw [e, call_ok, if_pos rfl]
    exact ⟨Or.inl q, rfl⟩
  rw [e, call_ok, if_neg (by omega)]
  rcases isSlot_ok (h := h) t with ⟨q1, e1⟩ | ⟨j, hj, rfl, e1⟩
  · left
    rw [e1, call_ok, if_pos rfl]
    exact ⟨Or.inr q1, rfl⟩
  right
  refine ⟨k, r, F, j, q, g, hj, rfl, ?_⟩
  rw [e1, call_ok, if_neg one_ne]
  obtain ⟨n1, n2, n3, n4, n5⟩ := g.nums
  obtain ⟨g1, g2, g3, g4, gF⟩ := id g
  have hmw : mwN k ≤ 4 := by unfold mwN; split; omega; split; omega; split <;> omega
  -- the end, where w and d are found
  have fin : ∀ w d H f, 1 ≤ w → w ≤ mwN k → d < r + w - 1 → TB k r F w d → D3 h H → H[10]? = some (aC 0 27 f) → (∀ x, x < k ^ (r + w - 1) → f (imN k r F w x) = nI (dg k (r + w - 1) x d)) → ∃ h', fX6_back_b63 4 (nI j) a (nI w) (nI d) H = some (nI (10 * w + d), h') ∧ GR k w (bkG k r F w d) ∧ CInv SV h' tl tp (upS sl j (k, w, bkG k r F w d)) ol of rd tr su ∧ Up h h' := by
    intro w d H f hw1 hw hd tb D fe ff
    have gW : GR k w (bkG k r F w d) := ⟨g1, g2, hw1, hw, fun y _ => dg_lt (by omega)⟩
    have hfy : ∀ y, y < k ^ w → f y = nI (bkG k r F w d y) := fun y hy => by
      obtain ⟨x, hx, rfl⟩ := TB_all g hw1 hd tb y hy
      rw [ff x hx, bkG_of tb hx]
    obtain ⟨h1, h', i1, i2, i3, i4⟩ := put_told (D.inv I) hj gW fe hfy
    refine ⟨h', ?_, gW, i3, D.up.tr i4⟩
    have f4 : H[4]? = some (mo (nI tl) (nI ol) (nI rd) he th tr su) := (D.2.1 4 (by decide) (by decide) (by decide)).trans e4
    have R1 : RuleAt (H ++ [oC 1 zR]) a (a + 1) k r F := (R.up D.up (by omega) (by omega)).push
    unfold fX6_back_b63 mkO
    rw [m0 f4]
    simp only [Option.bind_some]
    show Option.bind (gI (H ++ [oC 1 zR]) a 1 0) _ = _
    rw [rk R1]
    simp only [Option.bind_some]
    show Option.bind (gR (H ++ [oC 1 zR]) 4 6 8) _ = _
    rw [m8 (st_p f4)]
    simp only [Option.bind_some]
    show Option.bind (fX1_init (H ++ [oC 1 zR]) H.length (nI k) (nI w) 10) _ = _
    rw [i1]
    simp only [Option.bind_some]
    rw [i2]
    simp only [Option.bind_some]
    rw [show (10 : Int32) = nI 10 from rfl, pk_mul, nI_add]
  -- one width
  have inner : ∀ w (W22 : Nat → Int32 → Nat → Int32 → Hp → Option (Int32 × Hp)) H0, 1 ≤ w → w ≤ mwN k → D3 h H0 → (∃ H, fX6_back_w37 W22 FUEL 4 (nI j) a (nI w) (nI 0) H0 = W22 4 (nI j) a (nI (w + 1)) H ∧ D3 h H ∧ ∀ d, d < r + w - 1 → ¬ TB k r F w d) ∨ (∃ d rr, fX6_back_w37 W22 FUEL 4 (nI j) a (nI w) (nI 0) H0 = rr ∧ (d < r + w - 1 ∧ TB k r F w d ∧ (∀ d', d' < d → ¬ TB k r F w d') ∧ ∃ h', rr = some (nI (10 * w + d), h') ∧ GR k w (bkG k r F w d) ∧ CInv SV h' tl tp (upS sl j (k, w, bkG k r F w d)) ol of rd tr su ∧ Up h h')) := by
    intro w W22 H0 hw1 hw D0
    obtain ⟨p1, p2, p3, p4⟩ := pows_le g hw
    have key := uptoX (fun n d H => fX6_back_w37 W22 n 4 (nI j) a (nI w) (nI d) H) (r + w - 1) (fun i H => D3 h H ∧ ∀ d, d < i → ¬ TB k r F w d) (fun d rr => d < r + w - 1 ∧ TB k r F w d ∧ (∀ d', d' < d → ¬ TB k r F w d') ∧ ∃ h', rr = some (nI (10 * w + d), h') ∧ GR k w (bkG k r F w d) ∧ CInv SV h' tl tp (upS sl j (k, w, bkG k r F w d)) ol of rd tr su ∧ Up h h') (by
      intro n i H hi ⟨D, hno⟩
      have f4 : H[4]? = some (mo (nI tl) (nI ol) (nI rd) he th tr su) := (D.2.1 4 (by decide) (by decide) (by decide)).trans e4
      have R1 : RuleAt H a (a + 1) k r F := R.up D.up (by omega) (by omega)
      have hst : fX6_back_w37 W22 (n + 1) 4 (nI j) a (nI w) (nI i) H = call (fX6_turnsBack H 4 a (nI w) (nI i)) fun r2 h3 => if r2 = 0 then ((fX6_back_w37 W22 n) 4 (nI j) a (nI w) (nI (i + 1)) h3) else (fX6_back_b63 4 (nI j) a (nI w) (nI i) h3) := by
        rw [fX6_back_w37]
        simp only []
        rw [rr R1]
        simp only [Option.bind_some]
        rw [nI_add, l2, pk_sub (show 2 ≤ r + w by omega), if_ltI (by omega) (by omega), if_neg (by omega), mok f4, nI_p1]
      rw [hst]
      rcases turnsBack_ok g ha a4 hw1 hw hi R1 f4 D.2.2 with ⟨tb, H2, f, b1, b2, b3, b4⟩ | ⟨tb, H2, b1, b2⟩
      · right
        obtain ⟨h', c1, c2, c3, c4⟩ := fin w i H2 f hw1 hw hi tb (D.trn b2) b3 b4
        refine ⟨_, rfl, hi, tb, hno, h', ?_, c2, c3, c4⟩
        rw [b1, call_ok, if_neg one_ne, c1]
      · left
        refine ⟨H2, ?_, D.trn b2, fun d hd => ?_⟩
        · rw [b1, call_ok, if_pos rfl]
        · by_cases q9 : d = i
          · rw [q9]; exact tb
          · exact hno d (by omega)) 0 FUEL H0 (by omega) (fuel_big (by omega)) ⟨D0, fun d hd => by omega⟩
    rcases key with ⟨fu, H, k1, D, hno⟩ | ⟨d, rr, k1, k2⟩
    · left
      refine ⟨H, ?_, D, hno⟩
      have R1 : RuleAt H a (a + 1) k r F := R.up D.up (by omega) (by omega)
      refine Eq.trans k1 ?_
      rw [fX6_back_w37]
      simp only []
      rw [rr R1]
      simp only [Option.bind_some]
      rw [nI_add, l2, pk_sub (show 2 ≤ r + w by omega), if_ltI (by omega) (by omega), if_pos (by omega)]
      unfold fX6_back_b101
      rw [nI_p1]
    · right
      exact ⟨d, rr, k1, k2⟩
  have key := uptoX (fun n w H => fX6_back_w22 n 4 (nI j) a (nI w) H) (mwN k + 1) (fun w H => D3 h H ∧ 1 ≤ w ∧ ∀ w' d', 1 ≤ w' → w' < w → d' < r + w' - 1 → ¬ TB k r F w' d') (fun w rr => ∃ d h', BackAt k r F w d ∧ rr = some (nI (10 * w + d), h') ∧ GR k w (bkG k r F w d) ∧ CInv SV h' tl tp (upS sl j (k, w, bkG k r F w d)) ol of rd tr su ∧ Up h h') (by
    intro n w H hw ⟨D, hw1, hno⟩
    have f2 : H[2]? = some (aC 0 5 x_mw) := (D.2.1 2 (by decide) (by decide) (by decide)).trans e2
    have R1 : RuleAt H a (a + 1) k r F := R.up D.up (by omega) (by omega)
    have hst : fX6_back_w22 (n + 1) 4 (nI j) a (nI w) H = fX6_back_w37 (fX6_back_w22 n) FUEL 4 (nI j) a (nI w) (nI 0) H := by
      rw [fX6_back_w22]
      simp only []
      rw [rk R1]
      simp only [Option.bind_some]
      rw [mostWidth_ok f2 (by omega), call_ok, if_ltI (by omega) (by omega), if_neg (by omega)]
      rfl
    rw [hst]
    rcases inner w (fX6_back_w22 n) H hw1 (by omega) D with ⟨H2, k1, D2, k3⟩ | ⟨d, rr, k1, k2, k3, k4, h', k5, k6⟩
    · left
      refine ⟨H2, k1, D2, by omega, fun w' d' x1 x2 x3 => ?_⟩
      by_cases q9 : w' = w
      · rw [q9] at x3 ⊢; exact k3 d' x3
      · exact hno w' d' x1 (by omega) x3
    · right
      exact ⟨rr, k1, d, h', ⟨hw1, by omega, k2, k3, k4, hno⟩, k5, k6⟩) 1 FUEL h (by omega) (fuel_big (by omega)) ⟨D3.rf cf, Nat.le_refl _, fun w' d' x1 x2 _ => by omega⟩
  rcases key with ⟨fu, H, k1, D, -, hno⟩ | ⟨w, rr, k1, d, h', k2, k3, k4⟩
  · left
    refine ⟨fun w d x1 x2 x3 => hno w d x1 (by omega) x3, H, ?_, D.inv I, D.up⟩
    have f2 : H[2]? = some (aC 0 5 x_mw) := (D.2.1 2 (by decide) (by decide) (by decide)).trans e2
    have R1 : RuleAt H a (a + 1) k r F := R.up D.up (by omega) (by omega)
    refine Eq.trans k1 ?_
    rw [fX6_back_w22]
    simp only []
    rw [rk R1]
    simp only [Option.bind_some]
    rw [mostWidth_ok f2 (by omega), call_ok, if_ltI (by omega) (by omega), if_pos (by omega)]
  · right
    exact ⟨w, d, h', k2, k1.trans k3, k4⟩
end CBK

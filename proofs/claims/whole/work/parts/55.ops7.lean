/-- a loop with a heap that is known by an invariant -/
theorem uptoI {β : Type} (w : Nat → Nat → Hp → Option β) (e : Nat) (J : Nat → Hp → Prop) (hs : ∀ n i h, i < e → J i h → ∃ h', w (n + 1) i h = w n (i + 1) h' ∧ J (i + 1) h') : ∀ i fuel h, i ≤ e → e - i < fuel → J i h → ∃ f h', w fuel i h = w (f + 1) e h' ∧ J e h' := by
  intro i fuel h hi hf hJ
  generalize hd : e - i = d at hf
  induction d generalizing i fuel h with
  | zero =>
    obtain ⟨f, rfl⟩ : ∃ f, fuel = f + 1 := ⟨fuel - 1, by omega⟩
    have : i = e := by omega
    subst this
    exact ⟨f, h, rfl, hJ⟩
  | succ d ih =>
    obtain ⟨f, rfl⟩ : ∃ f, fuel = f + 1 := ⟨fuel - 1, by omega⟩
    obtain ⟨h', e1, J1⟩ := hs f i h (by omega) hJ
    rw [e1]
    exact ih (i + 1) f h' (by omega) J1 (by omega) (by omega)
/-- r cells of the digits of x, from place j on -/
theorem window {k W x : Nat} (hk : 0 < k) : ∀ (r j : Nat), j + r ≤ W → wd k (dg k W x) W r j = x / k ^ (W - r - j) % k ^ r
  | 0, j, _ => by simp [wd, Nat.mod_one]
  | r + 1, j, h => by
    have ih := window (x := x) (W := W) hk r j (by omega)
    rw [wd, ih, Nat.mod_eq_of_lt (show j + r < W by omega)]
    unfold dg
    rw [show W - 1 - (j + r) = W - (r + 1) - j by omega, show W - r - j = (W - (r + 1) - j) + 1 by omega, Nat.pow_succ, ← Nat.div_div_eq_div_mul, Nat.pow_succ, Nat.mul_comm (k ^ r) k, Nat.mod_mul]
    rw [Nat.mul_comm (x / k ^ (W - (r + 1) - j) / k % k ^ r) k, Nat.add_comm]
theorem dg_lt {k W x j : Nat} (hk : 0 < k) : dg k W x j < k := Nat.mod_lt _ hk
/-- what a rule makes of the row x of r + q - 1 cells: q cells, as a number -/
def imN (k r : Nat) (F : Nat → Nat) (q x : Nat) : Nat := cd k (fun j => F (x / k ^ (q - 1 - j) % k ^ r)) q
theorem imN_lt {k r : Nat} {F : Nat → Nat} (g : GR k r F) (q x : Nat) : imN k r F q x < k ^ q := cd_lt q (fun j _ => g.2.2.2.2 _ (Nat.mod_lt _ (kpow_pos g r)))
section CO7
variable {SV : SVP} {h : Hp} {tl : Nat} {tp : Nat → Nat} {sl : SL} {ol : Nat} {of : Nat → Nat} {rd tr su : Nat}
/-- only the rows here, there and told have changed -/
def D3 (h H : Hp) : Prop := H.length = h.length ∧ (∀ i, i ≠ 8 → i ≠ 9 → i ≠ 10 → H[i]? = h[i]?) ∧ CFix H
theorem D3.rf (cf : CFix h) : D3 h h := ⟨rfl, fun _ _ _ _ => rfl, cf⟩
theorem D3.up {H : Hp} (d : D3 h H) : Up h H := ⟨by rw [d.1]; exact Nat.le_refl _, fun i c hi e => (d.2.1 i (by omega) (by omega) (by omega)).trans e⟩
theorem D3.inv {H : Hp} (d : D3 h H) (I : CInv SV h tl tp sl ol of rd tr su) : CInv SV H tl tp sl ol of rd tr su := (I.scr d.1 (fun i hi => d.2.1 i (by omega) (by omega) (by omega)) d.2.2).1
/-- spread and grow of one row: the image, as a number; the row lies in 'here' -/
theorem sg_ok {k r : Nat} {F : Nat → Nat} (g : GR k r F) {a q x : Nat} {H : Hp} {he th : Nat} {tl' ol' rl' : Int32} (ha : 44 ≤ a) (hq : HT he th) (hq1 : 1 ≤ q) (hW : r + q - 1 ≤ 20) (hx : x < 2 ^ 30) (R : RuleAt H a (a + 1) k r F) (e4 : H[4]? = some (mo tl' ol' rl' he th tr su)) (cf : CFix H) : ∃ H1 H2 f, fX1_spread H a (nI x) (nI (r + q - 1)) he = some H1 ∧ fX1_grow H1 a he (nI (r + q - 1)) (nI q) th = some (lN (imN k r F q x), H2) ∧ H1[4]? = some (mo tl' ol' rl' he th tr su) ∧ H2[4]? = some (mo tl' ol' rl' he th tr su) ∧ H2[he]? = some (aC 0 100 f) ∧ (∀ j, j < r + q - 1 → f j = nI (dg k (r + q - 1) x j)) ∧ H2[10]? = H[10]? ∧ D3 H H1 ∧ D3 H H2 := by
  obtain ⟨n1, n2, n3, n4, n5⟩ := g.nums
  obtain ⟨g1, g2, g3, g4, gF⟩ := id g
  obtain ⟨z1, z2, z3, z4, z5, z6, z7⟩ := hq.ne
  obtain ⟨f8, f9, e8, e9⟩ := hq.rows cf
  have hs := spread_ok g (n := r + q - 1) (nc := 100) (code := x) (g0 := f8) (by omega) (by decide) hx z2 (by omega) (by omega) R e8
  generalize hf1 : fillN (fun j => nI (dg k (r + q - 1) x j)) (r + q - 1) f8 = f1 at hs
  have hfd : ∀ j, j < r + q - 1 → f1 j = nI (dg k (r + q - 1) x j) := fun j hj => by rw [← hf1]; simp [fillN, hj]
  have R1 : RuleAt (H.set he (aC 0 100 f1)) a (a + 1) k r F := R.set (by omega) (by omega)
  have hg := grow_ok g (c := dg k (r + q - 1) x) (n := r + q - 1) (cnt := q) (by omega) (show r + q - 1 ≤ 100 by omega) (by decide) (show q ≤ 100 by omega) (by decide) (fun i _ => dg_lt (by omega)) hfd z3 (Ne.symm z1) (by omega) (by omega) R1 (st_s e8) (st_n' z1 e9)
  have him : cd k (fun j => F (wd k (dg k (r + q - 1) x) (r + q - 1) r j)) q = imN k r F q x := by
    unfold imN
    refine cd_cong q (fun j hj => ?_)
    rw [window (by omega) r j (by omega), show r + q - 1 - r - j = q - 1 - j by omega]
  rw [him] at hg
  have cf1 : CFix (H.set he (aC 0 100 f1)) := (hq.cf cf).2
  refine ⟨_, _, f1, hs, hg, st_n' (by omega) e4, st_n' (by omega) (st_n' (by omega) e4), st_n' (Ne.symm z1) (st_s e8), hfd, by rw [st_n (by omega), st_n (by omega)], ⟨by simp, fun i i8 i9 _ => st_n (by rcases hq with ⟨rfl, -⟩ | ⟨rfl, -⟩ <;> omega), cf1⟩, ⟨by simp, fun i i8 i9 _ => by rw [st_n (by rcases hq with ⟨-, rfl⟩ | ⟨-, rfl⟩ <;> omega), st_n (by rcases hq with ⟨rfl, -⟩ | ⟨rfl, -⟩ <;> omega)], (hq.cf cf1).1⟩⟩
theorem D3.trn {h1 h2 : Hp} (a : D3 h h1) (b : D3 h1 h2) : D3 h h2 := ⟨b.1.trans a.1, fun i x y z => (b.2.1 i x y z).trans (a.2.1 i x y z), b.2.2⟩
theorem D3.told {H : Hp} (d : D3 h H) {f : Nat → Int32} : D3 h (H.set 10 (aC 0 27 f)) := ⟨by rw [List.length_set]; exact d.1, fun i x y z => by rw [st_n (Ne.symm z)]; exact d.2.1 i x y z, d.2.2.s10⟩
def okJoin (sl : SL) (s t u : Int32) (k r q : Nat) (F G : Nat → Nat) (j : Nat) : Prop := ruleOf sl s = some (k, r, F) ∧ ruleOf sl t = some (k, q, G) ∧ j < 6 ∧ u = nI j ∧ r + q - 1 ≤ mwN k
theorem c_join (I : CInv SV h tl tp sl ol of rd tr su) (s t u : Int32) : ((∀ k r q F G j, ¬ okJoin sl s t u k r q F G j) ∧ fX6_join h 4 s t u = some (-1, h)) ∨ (∃ k r q F G j h', okJoin sl s t u k r q F G j ∧ GR k r F ∧ GR k q G ∧ fX6_join h 4 s t u = some (nI (r + q - 1), h') ∧ CInv SV h' tl tp (upS sl j (k, r + q - 1, fun x => G (imN k r F q x))) ol of rd tr su ∧ Up h h') := by
  obtain ⟨he, th, sf, tf, uf, e2, e3, e4, a1, a2, a3, a4, e5, a5, e6, a6, e7, a7, cf, aT, aS, aL⟩ := id I
  unfold fX6_join
  rw [mok e4]
  rcases ruleIn_st e4 e5 a5 s with ⟨q1, e⟩ | ⟨a, k, r, F, q1, e, ha, g, R⟩
  · left
    refine ⟨fun k r q F G j z => ?_, ?_⟩
    · have z1 := z.1; rw [q1] at z1; cases z1
    · rw [e, call_ok, mok e4]
      rcases ruleIn_st e4 e5 a5 t with ⟨-, e'⟩ | ⟨a', k', r', F', -, e', -⟩ <;> rw [e', call_ok, if_pos rfl]
  rw [e, call_ok, mok e4]
  rcases ruleIn_st e4 e5 a5 t with ⟨q2, e'⟩ | ⟨b, k', q, G, q2, e', hb, g', R'⟩
  · left
    rw [e', call_ok, if_neg (by omega), if_pos rfl]
    refine ⟨fun k r q F G j z => ?_, rfl⟩
    have z1 := z.2.1; rw [q2] at z1; cases z1
  rw [e', call_ok, if_neg (by omega), if_neg (by omega)]
  rcases isSlot_ok (h := h) u with ⟨q3, e1⟩ | ⟨j, hj, rfl, e1⟩
  · left
    rw [e1, call_ok, if_pos rfl]
    refine ⟨fun k r q F G j z => ?_, rfl⟩
    obtain ⟨-, -, z3, z4, -⟩ := z
    rw [z4] at q3
    rcases q3 with q3 | q3
    · exact nI_nn (by omega) q3
    · have := (nI_leI (a := 6) (b := j) (by omega) (by omega)).mp q3
      omega
  obtain ⟨n1, n2, n3, n4, n5⟩ := g.nums
  obtain ⟨g1, g2, g3, g4, gF⟩ := id g
  obtain ⟨n1', n2', n3', n4', n5'⟩ := g'.nums
  obtain ⟨g1', g2', g3', g4', gF'⟩ := id g'
  rw [e1, call_ok, if_neg one_ne, rk R]
  simp only [Option.bind_some]
  rw [rk R']
  simp only [Option.bind_some]
  rw [if_eqI (by omega) (by omega)]
  by_cases q4 : k = k'
  · subst q4
    rw [if_pos rfl, rr R]
    simp only [Option.bind_some]
    rw [rr R']
    simp only [Option.bind_some]
    rw [nI_add, i_sub1 (by omega), setv_ok, mostWidth_ok e2 (by omega), call_ok]
    have hmw : mwN k ≤ 4 := by unfold mwN; split; omega; split; omega; split <;> omega
    rw [if_leI (by omega) (by omega)]
    by_cases q5 : r + q - 1 ≤ mwN k
    · right
      rw [if_pos q5]
      have gW : GR k (r + q - 1) (fun x => G (imN k r F q x)) := ⟨g1, g2, by omega, q5, fun w _ => gF' _ (imN_lt g q w)⟩
      obtain ⟨w1, w2, w3, w4, w5⟩ := gW.nums
      rw [rk R]
      simp only [Option.bind_some]
      rw [power_ok (by omega) (by omega) (by omega), call_ok]
      obtain ⟨f0, e10⟩ := cf.2.2.1
      obtain ⟨fu, H, k1, ⟨D, f, fe, ff⟩⟩ := uptoI (fun n i H => fX6_join_w91 n 4 (nI j) a b (nI (r + q - 1)) (nI (k ^ (r + q - 1))) (nI i) H) (k ^ (r + q - 1)) (fun i H => D3 h H ∧ ∃ f, H[10]? = some (aC 0 27 f) ∧ ∀ w, w < i → f w = nI (G (imN k r F q w))) (by
        intro n i H hi ⟨D, f, fe, ff⟩
        have f4 : H[4]? = some (mo (nI tl) (nI ol) (nI rd) he th tr su) := (D.2.1 4 (by decide) (by decide) (by decide)).trans e4
        have R1 : RuleAt H a (a + 1) k r F := R.up D.up (by omega) (by omega)
        obtain ⟨H1, H2, fh, s1, s2, s3, s4, s5, s6, s7, s8, s9⟩ := sg_ok (q := q) (x := i) g ha a4 (by omega) (by omega) (by omega) R1 f4 D.2.2
        have R2 : RuleAt H1 b (b + 1) k q G := R'.up (D.up.tr s8.up) (by omega) (by omega)
        have R3 : RuleAt H1 a (a + 1) k r F := R1.up s8.up (by omega) (by omega)
        have R4 : RuleAt H2 b (b + 1) k q G := R'.up (D.up.tr s9.up) (by omega) (by omega)
        have hil := imN_lt g q i
        refine ⟨H2.set 10 (aC 0 27 (upd f i (nI (G (imN k r F q i))))), ?_, (D.trn s9).told, _, st_s (s7.trans fe), fun w hw => ?_⟩
        · rw [fX6_join_w91]
          simp only []
          rw [if_leI (by omega) (by omega), if_neg (by omega), m8 f4]
          simp only [Option.bind_some]
          rw [aN_of fe (by decide)]
          simp only [Option.bind_some]
          rw [if_leI (by omega) (by omega), if_neg (by omega), m6 f4]
          simp only [Option.bind_some]
          rw [rok R1, s1]
          simp only [Option.bind_some]
          rw [m8 s3]
          simp only [Option.bind_some]
          rw [m6 s3]
          simp only [Option.bind_some]
          rw [rr R2]
          simp only [Option.bind_some]
          rw [m7 s3]
          simp only [Option.bind_some]
          rw [rok R3, s2, call_ok, lN_i, tells_call g' R4 hil, sI_of (by decide) (s7.trans fe) (by omega) (by decide), x_nar0]
          simp only [Option.bind_some]
          rw [nI_p1]
        · by_cases q9 : w = i
          · subst q9; rw [upd_self]
          · rw [upd_ne q9]; exact ff w (by omega)) 0 FUEL h (by omega) (fuel_big (by omega)) ⟨D3.rf cf, f0, e10, fun w hw => by omega⟩
      obtain ⟨h1, h', i1, i2, i3, i4⟩ := put_told (D.inv I) hj gW fe ff
      refine ⟨k, r, q, F, G, j, h', ⟨q1, q2, hj, rfl, q5⟩, g, g', ?_, i3, D.up.tr i4⟩
      rw [l0]
      refine Eq.trans k1 ?_
      have f4 : H[4]? = some (mo (nI tl) (nI ol) (nI rd) he th tr su) := (D.2.1 4 (by decide) (by decide) (by decide)).trans e4
      have R1 : RuleAt (H ++ [oC 1 zR]) a (a + 1) k r F := (R.up D.up (by omega) (by omega)).push
      rw [fX6_join_w91]
      simp only []
      rw [if_leI (by omega) (by omega), if_pos (Nat.le_refl _)]
      unfold fX6_join_b160 mkO
      rw [m0 f4]
      simp only [Option.bind_some]
      show Option.bind (gI (H ++ [oC 1 zR]) a 1 0) _ = _
      rw [rk R1]
      simp only [Option.bind_some]
      show Option.bind (gR (H ++ [oC 1 zR]) 4 6 8) _ = _
      rw [m8 (st_p f4)]
      simp only [Option.bind_some]
      show Option.bind (fX1_init (H ++ [oC 1 zR]) H.length (nI k) (nI (r + q - 1)) 10) _ = _
      rw [i1]
      simp only [Option.bind_some]
      rw [i2]
      rfl
    · left
      rw [if_neg q5]
      refine ⟨fun k' r' q' F' G' j' z => ?_, rfl⟩
      obtain ⟨z1, z2, -, -, z5⟩ := z
      rw [q1] at z1; cases z1
      rw [q2] at z2; cases z2
      exact q5 z5
  · left
    rw [if_neg q4]
    refine ⟨fun k' r' q' F' G' j' z => ?_, rfl⟩
    obtain ⟨z1, z2, -⟩ := z
    rw [q1] at z1; cases z1
    rw [q2] at z2; cases z2
    exact q4 rfl
end CO7

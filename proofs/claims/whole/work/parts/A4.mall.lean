section MAL
variable {h H : Hp} {thr tl' sz om rd' : Int32} {stf wdf tbf : Nat → Int32} {j k r : Nat} {F : Nat → Nat} {lf af hf mf : Nat → Int32} {M : Nat} {nx : Nat → Nat}
/-- only the rows cells, next, leads, ahead, heightOf and mark change -/
def DA (h H : Hp) : Prop := H.length = h.length ∧ ∀ i, i ≠ 26 → i ≠ 27 → i < 38 ∨ 41 < i → H[i]? = h[i]?
theorem DA.rf : DA h h := ⟨rfl, fun _ _ _ _ => rfl⟩
theorem DA.st {i : Nat} {c : HC} (a : DA h H) (hi : i = 26 ∨ i = 27 ∨ (38 ≤ i ∧ i ≤ 41)) : DA h (H.set i c) := ⟨by rw [List.length_set]; exact a.1, fun j h1 h2 h3 => by rw [st_n (by omega)]; exact a.2 j h1 h2 h3⟩
theorem DA.dn (a : DA h H) : Dn h H := ⟨a.1, fun i hi => a.2 i (by omega) (by omega) (by omega)⟩
def AS (h H : Hp) (lf af hf mf : Nat → Int32) : Prop := DA h H ∧ H[38]? = some (aC 0 4096 lf) ∧ H[39]? = some (aC 0 4096 af) ∧ H[40]? = some (aC 0 4096 hf) ∧ H[41]? = some (aC 0 4096 mf) ∧ (∃ f, H[26]? = some (aC 0 100 f)) ∧ ∃ f, H[27]? = some (aC 0 100 f)
theorem AS.s38 (Y : AS h H lf af hf mf) {f : Nat → Int32} : AS h (H.set 38 (aC 0 4096 f)) f af hf mf := by
  obtain ⟨d, e1, e2, e3, e4, e5, e6⟩ := Y
  exact ⟨d.st (by omega), st_s e1, st_n' (by decide) e2, st_n' (by decide) e3, st_n' (by decide) e4, e5.imp fun _ q => st_n' (by decide) q, e6.imp fun _ q => st_n' (by decide) q⟩
theorem AS.s39 (Y : AS h H lf af hf mf) {f : Nat → Int32} : AS h (H.set 39 (aC 0 4096 f)) lf f hf mf := by
  obtain ⟨d, e1, e2, e3, e4, e5, e6⟩ := Y
  exact ⟨d.st (by omega), st_n' (by decide) e1, st_s e2, st_n' (by decide) e3, st_n' (by decide) e4, e5.imp fun _ q => st_n' (by decide) q, e6.imp fun _ q => st_n' (by decide) q⟩
theorem AS.s40 (Y : AS h H lf af hf mf) {f : Nat → Int32} : AS h (H.set 40 (aC 0 4096 f)) lf af f mf := by
  obtain ⟨d, e1, e2, e3, e4, e5, e6⟩ := Y
  exact ⟨d.st (by omega), st_n' (by decide) e1, st_n' (by decide) e2, st_s e3, st_n' (by decide) e4, e5.imp fun _ q => st_n' (by decide) q, e6.imp fun _ q => st_n' (by decide) q⟩
theorem AS.s41 (Y : AS h H lf af hf mf) {f : Nat → Int32} : AS h (H.set 41 (aC 0 4096 f)) lf af hf f := by
  obtain ⟨d, e1, e2, e3, e4, e5, e6⟩ := Y
  exact ⟨d.st (by omega), st_n' (by decide) e1, st_n' (by decide) e2, st_n' (by decide) e3, st_s e4, e5.imp fun _ q => st_n' (by decide) q, e6.imp fun _ q => st_n' (by decide) q⟩
theorem AS.s26 (Y : AS h H lf af hf mf) {f : Nat → Int32} : AS h (H.set 26 (aC 0 100 f)) lf af hf mf := by
  obtain ⟨d, e1, e2, e3, e4, e5, e6⟩ := Y
  exact ⟨d.st (by omega), st_n' (by decide) e1, st_n' (by decide) e2, st_n' (by decide) e3, st_n' (by decide) e4, e5.elim fun _ q => ⟨f, st_s q⟩, e6.imp fun _ q => st_n' (by decide) q⟩
theorem AS.s27 (Y : AS h H lf af hf mf) {f : Nat → Int32} : AS h (H.set 27 (aC 0 100 f)) lf af hf mf := by
  obtain ⟨d, e1, e2, e3, e4, e5, e6⟩ := Y
  exact ⟨d.st (by omega), st_n' (by decide) e1, st_n' (by decide) e2, st_n' (by decide) e3, st_n' (by decide) e4, e5.imp fun _ q => st_n' (by decide) q, e6.elim fun _ q => ⟨f, st_s q⟩⟩
theorem AS.lo (Y : AS h H lf af hf mf) {i : Nat} {c : HC} (hi : i < 26) (e : h[i]? = some c) : H[i]? = some c := (Y.1.2 i (by omega) (by omega) (by omega)).trans e
/-- what each ring leads to, and how many lead to it -/
theorem alead_m (g : GR k r F) (e0 : h[20]? = some (mob thr tl' sz om rd')) (e2 : h[22]? = some (aC 0 6 stf)) (e3 : h[23]? = some (aC 0 6 wdf)) (e4 : h[24]? = some (aC 0 189 tbf)) (hj : j < 6) (s1 : stf j = nI k) (s2 : wdf j = nI r) (s3 : ∀ w, w < k ^ r → tbf (27 * j + w) = nI (F w)) {N : Nat} {W : Int32} (hN : 0 < N) (hN2 : N ≤ 20) (hM : M = k ^ N) (hM2 : M ≤ 4096) (Y : AS h H lf af hf mf) : ∃ H' lf' af', fX7_all_w97 FUEL 20 (nI j) (nI N) W (nI M) (nI 0) H = fX7_all_b217 20 W (nI M) H' ∧ AS h H' lf' af' hf mf ∧ (∀ x, x < M → lf' x = nI (nxN k r F N x)) ∧ ∀ x, x < M → af' x = nI (inN M (nxN k r F N) x) := by
  obtain ⟨g1, g2, g3, g4, gF⟩ := id g
  have kA := uptoI (fun q i H => fX7_all_w97 q 20 (nI j) (nI N) W (nI M) (nI i) H) M (fun i H => ∃ af', AS h H lf af' hf mf ∧ ∀ x, x < i → af' x = nI 0) (by
    rintro q i H hi ⟨af', Y, h1⟩
    refine ⟨H.set 39 (aC 0 4096 (upd af' i (nI 0))), ?_, _, Y.s39, fun x hx => ?_⟩
    · show fX7_all_w97 (q + 1) 20 (nI j) (nI N) W (nI M) (nI i) H = _
      rw [fX7_all_w97]
      simp only []
      rw [if_leI (by omega) (by omega), if_neg (by omega), o_23 (Y.lo (by decide) e0)]
      simp only [Option.bind_some]
      rw [sI_of (by decide) Y.2.2.1 (by omega) (by decide), x_nar0]
      simp only [Option.bind_some]
      rw [nI_p1]
      rfl
    · by_cases q1 : x = i
      · rw [q1, upd_self]
      · rw [upd_ne q1, h1 x (by omega)]) 0 FUEL H (by omega) (fuel_big (by omega)) ⟨af, Y, fun x hx => by omega⟩
  obtain ⟨fu, H1, k1, af1, Y1, k2⟩ := kA
  have key := uptoI (fun q i H => fX7_all_w121 q 20 (nI j) (nI N) W (nI M) (nI i) H) M (fun i H => ∃ lf' af', AS h H lf' af' hf mf ∧ (∀ x, x < i → lf' x = nI (nxN k r F N x)) ∧ ∀ x, x < M → af' x = nI (inN i (nxN k r F N) x)) (by
    rintro q i H hi ⟨lf', af', Y, h1, h2⟩
    obtain ⟨f6, x6⟩ := Y.2.2.2.2.2.1
    have E0 : ∀ u, (H.set 26 u)[20]? = some (mob thr tl' sz om rd') := fun u => st_n' (by decide) (Y.lo (by decide) e0)
    have E2 : ∀ u, (H.set 26 u)[22]? = some (aC 0 6 stf) := fun u => st_n' (by decide) (Y.lo (by decide) e2)
    have E6 : ∀ u, (H.set 26 u)[26]? = some u := fun u => st_s x6
    have kS := downto' (fun q2 i2 => fX7_all_w137 (fX7_all_w121 q) q2 20 (nI j) (nI N) W (nI M) (nI i) (nI (i / k ^ (N - i2))) (nI i2 - 1) (H.set 26 (aC 0 100 (fillD (fun x => nI (dg k N i x)) i2 N f6)))) N (fX7_all_b175 (fX7_all_w121 q) 20 (nI j) (nI N) W (nI M) (nI i) (H.set 26 (aC 0 100 (fillD (fun x => nI (dg k N i x)) 0 N f6)))) (fun q2 i2 hi2 => by
      have hle : i / k ^ (N - (i2 + 1)) ≤ i := Nat.div_le_self _ _
      rw [fX7_all_w137]
      simp only []
      rw [i_sub1 (by omega), Nat.add_sub_cancel, if_neg (nI_nn (by omega)), o_9 (E0 _)]
      simp only [Option.bind_some]
      rw [o_4 (E0 _)]
      simp only [Option.bind_some]
      rw [aI_of (E2 _) hj (by decide), s1]
      simp only [Option.bind_some]
      rw [iRem_nI (by omega) (by omega) (by omega), sI_of (by decide) (E6 _) (by omega) (by decide), x_nar0]
      simp only [Option.bind_some]
      rw [List.set_set]
      have hd : nI (i / k ^ (N - (i2 + 1)) % k) = (fun x => nI (dg k N i x)) i2 := by
        show _ = nI (dg k N i i2)
        unfold dg
        rw [show N - 1 - i2 = N - (i2 + 1) by omega]
      rw [hd, fillD_s hi2, o_4 (E0 _)]
      simp only [Option.bind_some]
      rw [aI_of (E2 _) hj (by decide), s1]
      simp only [Option.bind_some]
      rw [iDiv_nI (by omega) (by omega) (by omega), Nat.div_div_eq_div_mul, ← Nat.pow_succ, show (N - (i2 + 1)).succ = N - i2 by omega, i_m1]) (fun q2 => by
      rw [fX7_all_w137]
      simp only []
      rw [if_pos (by decide)]) N FUEL (Nat.le_refl _) (fuel_big (by omega))
    rw [Nat.sub_self, Nat.pow_zero, Nat.div_one, fillD_n, st_id x6, fillD_0] at kS
    have Y6 := Y.s26 (f := fillN (fun x => nI (dg k N i x)) N f6)
    obtain ⟨f7, x7⟩ := Y6.2.2.2.2.2.2
    have hst := step_m g (Y6.lo (by decide) e0) (Y6.lo (by decide) e2) (Y6.lo (by decide) e3) (Y6.lo (by decide) e4) hj s1 s2 s3 (E6 _) x7 (c := dg k N i) hN (by omega) (fun x _ => dg_lt (by omega)) (fun x hx => by simp [fillN, hx])
    generalize hG1 : fillN (fun x => nI (F (wd k (dg k N i) N r x))) N f7 = G1 at hst
    have hG1w : ∀ x, x < N → G1 x = nI (F (wd k (dg k N i) N r x)) := fun x hx => by rw [← hG1]; simp [fillN, hx]
    generalize hG2 : fillN G1 N (fillN (fun x => nI (dg k N i x)) N f6) = G2 at hst
    have hG2w : ∀ x, x < N → G2 x = nI (F (wd k (dg k N i) N r x)) := fun x hx => by rw [← hG2]; simp [fillN, hx, hG1w x hx]
    have Y7 := (Y6.s27 (f := G1)).s26 (f := G2)
    have hlt : nxN k r F N i < M := by rw [hM]; exact nxN_lt g hN i
    have hcode := codeOf_m (Y7.lo (by decide) e0) (Y7.lo (by decide) e2) hj s1 g2 (c := fun x => F (wd k (dg k N i) N r x)) (st_s (st_n' (by decide) (E6 _))) (show N ≤ 100 by omega) (fun x hx => gF _ (wd_lt (fun y _ => dg_lt (by omega)) hN r x)) hG2w
    have Y8 := Y7.s38 (f := upd lf' i (nI (nxN k r F N i)))
    have Y9 := Y8.s39 (f := upd af' (nxN k r F N i) (nI (inN i (nxN k r F N) (nxN k r F N i) + 1)))
    refine ⟨_, ?_, _, _, Y9, fun x hx => ?_, fun x hx => ?_⟩
    · show fX7_all_w121 (q + 1) 20 (nI j) (nI N) W (nI M) (nI i) H = _
      rw [fX7_all_w121]
      simp only []
      rw [if_leI (by omega) (by omega), if_neg (by omega), setv_ok]
      refine Eq.trans kS ?_
      unfold fX7_all_b175
      rw [oo (Y6.lo (by decide) e0), hst]
      simp only [Option.bind_some]
      rw [o_22 (Y7.lo (by decide) e0)]
      simp only [Option.bind_some]
      rw [oo (Y7.lo (by decide) e0), hcode, call_ok, show cd k (fun x => F (wd k (dg k N i) N r x)) N = nxN k r F N i from rfl, lN_i]
      rw [sI_of (by decide) Y7.2.1 (by omega) (by decide), x_nar0]
      simp only [Option.bind_some]
      rw [o_23 (Y8.lo (by decide) e0)]
      simp only [Option.bind_some]
      rw [o_22 (Y8.lo (by decide) e0)]
      simp only [Option.bind_some]
      rw [aI_of Y8.2.1 (by omega) (by decide), upd_self]
      simp only [Option.bind_some]
      rw [aI_of Y8.2.2.1 (by omega) (by decide), h2 _ hlt]
      simp only [Option.bind_some]
      rw [nI_p1, sI_of (by decide) Y8.2.2.1 (by omega) (by decide), x_nar0]
      simp only [Option.bind_some]
      rw [nI_p1]
    · by_cases q1 : x = i
      · rw [q1, upd_self]
      · rw [upd_ne q1, h1 x (by omega)]
    · by_cases q1 : x = nxN k r F N i
      · rw [q1, upd_self]
        unfold inN
        rw [sm, if_pos rfl]
      · rw [upd_ne q1, h2 x hx]
        unfold inN
        rw [sm, if_neg (Ne.symm q1)]
        rfl) 0 FUEL H1 (by omega) (fuel_big (by omega)) ⟨lf, af1, Y1, fun x hx => by omega, fun x hx => k2 x hx⟩
  obtain ⟨fu2, H', z1, lf', af', z2, z3, z4⟩ := key
  refine ⟨H', lf', af', ?_, z2, z3, z4⟩
  refine Eq.trans k1 ?_
  rw [fX7_all_w97]
  simp only []
  rw [if_leI (by omega) (by omega), if_pos (Nat.le_refl _)]
  unfold fX7_all_b118
  refine Eq.trans (show fX7_all_w121 FUEL 20 (nI j) (nI N) W (nI M) (nI 0) H1 = _ from z1) ?_
  rw [fX7_all_w121]
  simp only []
  rw [if_leI (by omega) (by omega), if_pos (Nat.le_refl _)]
theorem inN_le (x : Nat) : inN M nx x ≤ M := by
  have := sm_le (f := fun y => if nx y = x then 1 else 0) (g := fun _ => 1) (n := M) (fun i _ => by show (if nx i = x then 1 else 0) ≤ 1; split <;> omega)
  rw [sm_const] at this
  unfold inN
  omega
/-- how many have none behind them -/
theorem anone_m (e0 : h[20]? = some (mob thr tl' sz om rd')) {W : Int32} (hM2 : M ≤ 4096) (Y : AS h H lf af hf mf) (haf : ∀ x, x < M → af x = nI (inN M nx x)) : fX7_all_b217 20 W (nI M) H = fX7_all_b256 20 W (nI M) (nI (lvs M nx M).length) H := by
  unfold fX7_all_b217
  have key := upto (fun q i => fX7_all_w223 q 20 W (nI M) (nI (lvs M nx i).length) (nI i) H) M (fX7_all_b256 20 W (nI M) (nI (lvs M nx M).length) H) (fun q i hi => by
    have h1 := inN_le (M := M) (nx := nx) i
    rw [fX7_all_w223]
    simp only []
    rw [if_leI (by omega) (by omega), if_neg (by omega), o_23 (Y.lo (by decide) e0)]
    simp only [Option.bind_some]
    rw [aI_of Y.2.2.1 (by omega) (by decide), haf i hi]
    simp only [Option.bind_some]
    unfold fX7_all_b247
    rw [setv_ok, setv_ok, show (0 : Int32) = nI 0 from rfl, if_eqI (by omega) (by omega)]
    by_cases q1 : inN M nx i = 0
    · rw [if_pos q1, lvs, if_pos q1, List.length_append, List.length_singleton, nI_p1, nI_p1]
    · rw [if_neg q1, lvs, if_neg q1, nI_add, Nat.add_zero, nI_p1]) (fun q => by
    rw [fX7_all_w223]
    simp only []
    rw [if_leI (by omega) (by omega), if_pos (Nat.le_refl _)]) 0 FUEL (by omega) (fuel_big (by omega))
  exact key
/-- the first of the queue -/
theorem afirst_m (e0 : h[20]? = some (mob thr tl' sz om rd')) {W : Int32} (hM2 : M ≤ 4096) (Y : AS h H lf af hf mf) (haf : ∀ x, x < M → af x = nI (inN M nx x)) : ∃ H' hf' mf', fX7_all_w273 FUEL 20 W (nI M) (nI M) (nI 0) (nI 0) H = fX7_all_b319 20 W (nI M) (nI M) (nI (lvs M nx M).length) H' ∧ AS h H' lf af hf' mf' ∧ QL (lvs M nx M) mf' ∧ ∀ x, x < M → hf' x = nI 0 := by
  have key := uptoI (fun q i H => fX7_all_w273 q 20 W (nI M) (nI M) (nI (lvs M nx i).length) (nI i) H) M (fun i H => ∃ hf' mf', AS h H lf af hf' mf' ∧ QL (lvs M nx i) mf' ∧ ∀ x, x < i → hf' x = nI 0) (by
    rintro q i H hi ⟨hf', mf', Y, hq, hh⟩
    have hl := lvs_len (M := M) (nx := nx) i
    have h1 := inN_le (M := M) (nx := nx) i
    have Y1 := Y.s40 (f := upd hf' i (nI 0))
    have hh1 : ∀ x, x < i + 1 → upd hf' i (nI 0) x = nI 0 := fun x hx => by
      by_cases q1 : x = i
      · rw [q1, upd_self]
      · rw [upd_ne q1, hh x (by omega)]
    have hst : fX7_all_w273 (q + 1) 20 W (nI M) (nI M) (nI (lvs M nx i).length) (nI i) H = if inN M nx i = 0 then fX7_all_w273 q 20 W (nI M) (nI M) (nI ((lvs M nx i).length + 1)) (nI (i + 1)) ((H.set 40 (aC 0 4096 (upd hf' i (nI 0)))).set 41 (aC 0 4096 (upd mf' (lvs M nx i).length (nI i)))) else fX7_all_w273 q 20 W (nI M) (nI M) (nI (lvs M nx i).length) (nI (i + 1)) (H.set 40 (aC 0 4096 (upd hf' i (nI 0)))) := by
      rw [fX7_all_w273]
      simp only []
      rw [if_leI (by omega) (by omega), if_neg (by omega), o_24 (Y.lo (by decide) e0)]
      simp only [Option.bind_some]
      rw [sI_of (by decide) Y.2.2.2.1 (by omega) (by decide), x_nar0]
      simp only [Option.bind_some]
      rw [show (0 : Int32) = nI 0 from rfl, o_23 (Y1.lo (by decide) e0)]
      simp only [Option.bind_some]
      rw [aI_of Y1.2.2.1 (by omega) (by decide), haf i hi]
      simp only [Option.bind_some]
      rw [if_leI (by omega) (by omega), o_25 (Y1.lo (by decide) e0)]
      simp only [Option.bind_some]
      rw [sI_of (by decide) Y1.2.2.2.2.1 (by omega) (by decide), x_nar0]
      simp only [Option.bind_some]
      unfold fX7_all_b313
      rw [nI_p1, nI_p1]
      by_cases q1 : inN M nx i = 0
      · rw [if_pos (by omega), if_pos q1]
      · rw [if_neg (by omega), if_neg q1]
    by_cases q1 : inN M nx i = 0
    · refine ⟨_, ?_, _, _, Y1.s41 (f := upd mf' (lvs M nx i).length (nI i)), ?_, hh1⟩
      · show fX7_all_w273 (q + 1) 20 W (nI M) (nI M) (nI (lvs M nx i).length) (nI i) H = _
        rw [hst, if_pos q1, lvs, if_pos q1, List.length_append, List.length_singleton]
      · rw [lvs, if_pos q1]; exact hq.app
    · refine ⟨_, ?_, _, _, Y1, ?_, hh1⟩
      · show fX7_all_w273 (q + 1) 20 W (nI M) (nI M) (nI (lvs M nx i).length) (nI i) H = _
        rw [hst, if_neg q1, lvs, if_neg q1]
      · rw [lvs, if_neg q1]; exact hq) 0 FUEL H (by omega) (fuel_big (by omega)) ⟨hf, mf, Y, fun j x h => by simp [lvs] at h, fun x hx => by omega⟩
  obtain ⟨fu, H1, k1, hf1, mf1, Y1, k2, k3⟩ := key
  refine ⟨H1, hf1, mf1, ?_, Y1, k2, k3⟩
  refine Eq.trans k1 ?_
  rw [fX7_all_w273]
  simp only []
  rw [if_leI (by omega) (by omega), if_pos (Nat.le_refl _)]
/-- the queue to its end -/
theorem apeel_m (e0 : h[20]? = some (mob thr tl' sz om rd')) {W : Int32} (hM2 : M ≤ 4096) (hM : ∀ x, x < M → nx x < M) (Y : AS h H lf af hf mf) (hlf : ∀ x, x < M → lf x = nI (nx x)) (haf : ∀ x, x < M → af x = nI (inN M nx x)) (hq : QL (lvs M nx M) mf) : ∃ H' af' mf' s, fX7_all_b319 20 W (nI M) (nI M) (nI (lvs M nx M).length) H = fX7_all_b388 20 W (nI M) (nI (M - s)) (nI s) H' ∧ AS h H' lf af' hf mf' ∧ PV M nx s ∧ (pls M nx s).2.length = s ∧ QL (pls M nx s).2 mf' := by
  unfold fX7_all_b319
  have key2 := uptoX (fun q s H => fX7_all_w322 q 20 W (nI M) (nI (M - s)) (nI (pls M nx s).2.length) (nI s) H) (M + 1) (fun s H => ∃ af' mf', AS h H lf af' hf mf' ∧ PV M nx s ∧ (∀ x, x < M → af' x = nI ((pls M nx s).1 x)) ∧ QL (pls M nx s).2 mf') (fun _ rr => ∃ H' af' mf' s, rr = fX7_all_b388 20 W (nI M) (nI (M - s)) (nI s) H' ∧ AS h H' lf af' hf mf' ∧ PV M nx s ∧ (pls M nx s).2.length = s ∧ QL (pls M nx s).2 mf') (by
    rintro q s H hs ⟨af', mf', Y, pv, hb, hq⟩
    have hle := pv.le
    have hsl := pv.1
    by_cases q1 : (pls M nx s).2.length ≤ s
    · right
      have hse : (pls M nx s).2.length = s := by omega
      refine ⟨_, rfl, H, af', mf', s, ?_, Y, pv, hse, hq⟩
      show fX7_all_w322 (q + 1) 20 W (nI M) (nI (M - s)) (nI (pls M nx s).2.length) (nI s) H = _
      rw [fX7_all_w322]
      simp only []
      rw [if_leI (by omega) (by omega), if_pos q1, hse]
    · left
      obtain ⟨x, hx⟩ : ∃ x, (pls M nx s).2[s]? = some x := ⟨_, List.getElem?_eq_getElem (by omega)⟩
      have hxM : x < M := pv.2.2.1 x (List.mem_of_getElem? hx)
      have hto := hM x hxM
      have hpos := pv.pos hx
      have hbi : (pls M nx s).1 (nx x) ≤ M := by
        have := pv.2.2.2.1 (nx x)
        have := inN_le (M := M) (nx := nx) (nx x)
        omega
      have pv' := pv.st hM hx
      have hle' := pv'.le
      have hpl := pls_in hx
      have Y3 := Y.s39 (f := upd af' (nx x) (nI ((pls M nx s).1 (nx x) - 1)))
      have hb3 : ∀ z, z < M → upd af' (nx x) (nI ((pls M nx s).1 (nx x) - 1)) z = nI ((pls M nx (s + 1)).1 z) := by
        intro z hz
        rw [hpl]
        show _ = nI (updN (pls M nx s).1 (nx x) ((pls M nx s).1 (nx x) - 1) z)
        by_cases q2 : z = nx x
        · rw [q2, upd_self, updN_self]
        · rw [upd_ne q2, updN_ne q2, hb z hz]
      have hst : fX7_all_w322 (q + 1) 20 W (nI M) (nI (M - s)) (nI (pls M nx s).2.length) (nI s) H = if (pls M nx s).1 (nx x) - 1 = 0 then ((sI (H.set 39 (aC 0 4096 (upd af' (nx x) (nI ((pls M nx s).1 (nx x) - 1))))) 41 0 (nI (pls M nx s).2.length) (nI (nx x))).bind fun h11 => fX7_all_w322 q 20 W (nI M) (nI (M - (s + 1))) (nI ((pls M nx s).2.length + 1)) (nI (s + 1)) h11) else fX7_all_w322 q 20 W (nI M) (nI (M - (s + 1))) (nI (pls M nx s).2.length) (nI (s + 1)) (H.set 39 (aC 0 4096 (upd af' (nx x) (nI ((pls M nx s).1 (nx x) - 1))))) := by
        rw [fX7_all_w322]
        simp only []
        rw [if_leI (by omega) (by omega), if_neg q1, o_22 (Y.lo (by decide) e0)]
        simp only [Option.bind_some]
        rw [o_25 (Y.lo (by decide) e0)]
        simp only [Option.bind_some]
        rw [aI_of Y.2.2.2.2.1 (by omega) (by decide), hq s x hx]
        simp only [Option.bind_some]
        rw [aI_of Y.2.1 (by omega) (by decide), hlf x hxM]
        simp only [Option.bind_some]
        rw [o_23 (Y.lo (by decide) e0)]
        simp only [Option.bind_some]
        rw [aI_of Y.2.2.1 (by omega) (by decide), hb _ hto]
        simp only [Option.bind_some]
        rw [i_sub1 hpos, sI_of (by decide) Y.2.2.1 (by omega) (by decide), x_nar0]
        simp only [Option.bind_some]
        rw [o_23 (Y3.lo (by decide) e0)]
        simp only [Option.bind_some]
        rw [aI_of Y3.2.2.1 (by omega) (by decide), upd_self]
        simp only [Option.bind_some]
        rw [show (0 : Int32) = nI 0 from rfl, if_leI (by omega) (by omega), o_25 (Y3.lo (by decide) e0)]
        simp only [Option.bind_some]
        unfold fX7_all_b382
        rw [nI_p1, nI_p1, i_m1, i_sub1 (by omega), show M - s - 1 = M - (s + 1) by omega]
        by_cases q0 : (pls M nx s).1 (nx x) - 1 = 0
        · rw [if_pos (by omega), if_pos q0]
        · rw [if_neg (by omega), if_neg q0]
      by_cases q0 : (pls M nx s).1 (nx x) - 1 = 0
      · have e2 : (pls M nx (s + 1)).2 = (pls M nx s).2 ++ [nx x] := by rw [hpl]; exact if_pos q0
        rw [e2, List.length_append, List.length_singleton] at hle'
        refine ⟨(H.set 39 (aC 0 4096 (upd af' (nx x) (nI ((pls M nx s).1 (nx x) - 1))))).set 41 (aC 0 4096 (upd mf' (pls M nx s).2.length (nI (nx x)))), ?_, _, _, Y3.s41, pv', hb3, ?_⟩
        · show fX7_all_w322 (q + 1) 20 W (nI M) (nI (M - s)) (nI (pls M nx s).2.length) (nI s) H = _
          rw [hst, if_pos q0, sI_of (by decide) Y3.2.2.2.2.1 (by omega) (by decide), x_nar0, e2, List.length_append, List.length_singleton, Option.bind_some]
        · rw [e2]; exact hq.app
      · have e2 : (pls M nx (s + 1)).2 = (pls M nx s).2 := by rw [hpl]; exact if_neg q0
        refine ⟨_, ?_, _, _, Y3, pv', hb3, ?_⟩
        · show fX7_all_w322 (q + 1) 20 W (nI M) (nI (M - s)) (nI (pls M nx s).2.length) (nI s) H = _
          rw [hst, if_neg q0, e2]
        · rw [e2]; exact hq) 0 FUEL H (by omega) (fuel_big (by omega)) ⟨af, mf, Y, PV.z hM, haf, hq⟩
  rcases key2 with ⟨fu2, H', z1, af', mf', Y', pv, hb, hq⟩ | ⟨i', rr, z1, H', af', mf', s, z2, z3⟩
  · have hle := pv.le
    have hsl := pv.1
    omega
  · exact ⟨H', af', mf', s, z1.trans z2, z3⟩
end MAL

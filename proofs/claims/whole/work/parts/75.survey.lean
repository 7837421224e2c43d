section SY
variable {h H : Hp} {su : Nat}
def sob (su ru : Nat) (n x0 x1 x2 x3 x4 : Int32) : HC := oC 3 [vR (su + 1), vR (su + 2), vR (su + 3), vR (su + 4), vR (su + 5), vR (su + 6), vR ru, vI n, vI x0, vI x1, vI x2, vI x3, vI x4]
/-- all but the survey's cells stay -/
def DY (su : Nat) (h H : Hp) : Prop := H.length = h.length ∧ ∀ i, i < su ∨ su + 6 < i → H[i]? = h[i]?
theorem DY.rf : DY su h h := ⟨rfl, fun _ _ => rfl⟩
theorem DY.st {i : Nat} {c : HC} (d : DY su h H) (hi : su ≤ i ∧ i ≤ su + 6) : DY su h (H.set i c) := ⟨by rw [List.length_set]; exact d.1, fun j hj => by rw [st_n (by omega)]; exact d.2 j hj⟩
theorem DY.rule {a k r : Nat} {F : Nat → Nat} (d : DY su h H) (ha : a < su ∨ su + 6 < a) (hb : a + 1 < su ∨ su + 6 < a + 1) (R : RuleAt h a (a + 1) k r F) : RuleAt H a (a + 1) k r F := by
  obtain ⟨h1, h2, h3, h4, f, h5, h6⟩ := R
  exact ⟨h1, h2, h3, (d.2 _ ha).trans h4, f, (d.2 _ hb).trans h5, h6⟩
/-- the survey at a state of its rows -/
def YS (h : Hp) (su : Nat) (H : Hp) (ru : Nat) (n x0 x1 x2 x3 x4 : Int32) (nf bf qf hf : Nat → Int32) : Prop := DY su h H ∧ H[su]? = some (sob su ru n x0 x1 x2 x3 x4) ∧ H[su + 1]? = some (aC 0 4096 nf) ∧ H[su + 2]? = some (aC 0 4096 bf) ∧ H[su + 3]? = some (aC 0 4096 qf) ∧ H[su + 4]? = some (aC 0 4096 hf) ∧ (∃ f, H[su + 5]? = some (aC 0 20 f)) ∧ ∃ f, H[su + 6]? = some (aC 0 20 f)
variable {ru : Nat} {n x0 x1 x2 x3 x4 : Int32} {nf bf qf hf : Nat → Int32}
theorem YS.g0 (Y : YS h su H ru n x0 x1 x2 x3 x4 nf bf qf hf) (h4 : 4 ≤ su) : gR H su 3 0 = some (su + 1) := gR_of h4 Y.2.1 rfl
theorem YS.g1 (Y : YS h su H ru n x0 x1 x2 x3 x4 nf bf qf hf) (h4 : 4 ≤ su) : gR H su 3 1 = some (su + 2) := gR_of h4 Y.2.1 rfl
theorem YS.g2 (Y : YS h su H ru n x0 x1 x2 x3 x4 nf bf qf hf) (h4 : 4 ≤ su) : gR H su 3 2 = some (su + 3) := gR_of h4 Y.2.1 rfl
theorem YS.g3 (Y : YS h su H ru n x0 x1 x2 x3 x4 nf bf qf hf) (h4 : 4 ≤ su) : gR H su 3 3 = some (su + 4) := gR_of h4 Y.2.1 rfl
theorem YS.g4 (Y : YS h su H ru n x0 x1 x2 x3 x4 nf bf qf hf) (h4 : 4 ≤ su) : gR H su 3 4 = some (su + 5) := gR_of h4 Y.2.1 rfl
theorem YS.g5 (Y : YS h su H ru n x0 x1 x2 x3 x4 nf bf qf hf) (h4 : 4 ≤ su) : gR H su 3 5 = some (su + 6) := gR_of h4 Y.2.1 rfl
theorem YS.g6 (Y : YS h su H ru n x0 x1 x2 x3 x4 nf bf qf hf) (h4 : 4 ≤ su) : gR H su 3 6 = some ru := gR_of h4 Y.2.1 rfl
theorem YS.g7 (Y : YS h su H ru n x0 x1 x2 x3 x4 nf bf qf hf) (h4 : 4 ≤ su) : gI H su 3 7 = some n := gI_of h4 Y.2.1 rfl
theorem YS.g8 (Y : YS h su H ru n x0 x1 x2 x3 x4 nf bf qf hf) (h4 : 4 ≤ su) : gI H su 3 8 = some x0 := gI_of h4 Y.2.1 rfl
theorem YS.g9 (Y : YS h su H ru n x0 x1 x2 x3 x4 nf bf qf hf) (h4 : 4 ≤ su) : gI H su 3 9 = some x1 := gI_of h4 Y.2.1 rfl
theorem YS.g10 (Y : YS h su H ru n x0 x1 x2 x3 x4 nf bf qf hf) (h4 : 4 ≤ su) : gI H su 3 10 = some x2 := gI_of h4 Y.2.1 rfl
theorem YS.g11 (Y : YS h su H ru n x0 x1 x2 x3 x4 nf bf qf hf) (h4 : 4 ≤ su) : gI H su 3 11 = some x3 := gI_of h4 Y.2.1 rfl
theorem YS.g12 (Y : YS h su H ru n x0 x1 x2 x3 x4 nf bf qf hf) (h4 : 4 ≤ su) : gI H su 3 12 = some x4 := gI_of h4 Y.2.1 rfl
theorem YS.ok (Y : YS h su H ru n x0 x1 x2 x3 x4 nf bf qf hf) (h4 : 4 ≤ su) {β : Type} {z : Option β} : oK H su 3 z = z := oK_of h4 Y.2.1
theorem YS.ob (Y : YS h su H ru n x0 x1 x2 x3 x4 nf bf qf hf) {ru' : Nat} {n' y0 y1 y2 y3 y4 : Int32} : YS h su (H.set su (sob su ru' n' y0 y1 y2 y3 y4)) ru' n' y0 y1 y2 y3 y4 nf bf qf hf := by
  obtain ⟨d, e, e1, e2, e3, e4, e5, e6⟩ := Y
  exact ⟨d.st (by omega), st_s e, st_n' (by omega) e1, st_n' (by omega) e2, st_n' (by omega) e3, st_n' (by omega) e4, e5.imp fun _ q => st_n' (by omega) q, e6.imp fun _ q => st_n' (by omega) q⟩
theorem YS.s1 (Y : YS h su H ru n x0 x1 x2 x3 x4 nf bf qf hf) {f : Nat → Int32} : YS h su (H.set (su + 1) (aC 0 4096 f)) ru n x0 x1 x2 x3 x4 f bf qf hf := by
  obtain ⟨d, e, e1, e2, e3, e4, e5, e6⟩ := Y
  exact ⟨d.st (by omega), st_n' (by omega) e, st_s e1, st_n' (by omega) e2, st_n' (by omega) e3, st_n' (by omega) e4, e5.imp fun _ q => st_n' (by omega) q, e6.imp fun _ q => st_n' (by omega) q⟩
theorem YS.s2 (Y : YS h su H ru n x0 x1 x2 x3 x4 nf bf qf hf) {f : Nat → Int32} : YS h su (H.set (su + 2) (aC 0 4096 f)) ru n x0 x1 x2 x3 x4 nf f qf hf := by
  obtain ⟨d, e, e1, e2, e3, e4, e5, e6⟩ := Y
  exact ⟨d.st (by omega), st_n' (by omega) e, st_n' (by omega) e1, st_s e2, st_n' (by omega) e3, st_n' (by omega) e4, e5.imp fun _ q => st_n' (by omega) q, e6.imp fun _ q => st_n' (by omega) q⟩
theorem YS.s3 (Y : YS h su H ru n x0 x1 x2 x3 x4 nf bf qf hf) {f : Nat → Int32} : YS h su (H.set (su + 3) (aC 0 4096 f)) ru n x0 x1 x2 x3 x4 nf bf f hf := by
  obtain ⟨d, e, e1, e2, e3, e4, e5, e6⟩ := Y
  exact ⟨d.st (by omega), st_n' (by omega) e, st_n' (by omega) e1, st_n' (by omega) e2, st_s e3, st_n' (by omega) e4, e5.imp fun _ q => st_n' (by omega) q, e6.imp fun _ q => st_n' (by omega) q⟩
theorem YS.s4 (Y : YS h su H ru n x0 x1 x2 x3 x4 nf bf qf hf) {f : Nat → Int32} : YS h su (H.set (su + 4) (aC 0 4096 f)) ru n x0 x1 x2 x3 x4 nf bf qf f := by
  obtain ⟨d, e, e1, e2, e3, e4, e5, e6⟩ := Y
  exact ⟨d.st (by omega), st_n' (by omega) e, st_n' (by omega) e1, st_n' (by omega) e2, st_n' (by omega) e3, st_s e4, e5.imp fun _ q => st_n' (by omega) q, e6.imp fun _ q => st_n' (by omega) q⟩
theorem YS.s5 (Y : YS h su H ru n x0 x1 x2 x3 x4 nf bf qf hf) {f : Nat → Int32} : YS h su (H.set (su + 5) (aC 0 20 f)) ru n x0 x1 x2 x3 x4 nf bf qf hf := by
  obtain ⟨d, e, e1, e2, e3, e4, ⟨f5, e5⟩, e6⟩ := Y
  exact ⟨d.st (by omega), st_n' (by omega) e, st_n' (by omega) e1, st_n' (by omega) e2, st_n' (by omega) e3, st_n' (by omega) e4, ⟨f, st_s e5⟩, e6.imp fun _ q => st_n' (by omega) q⟩
theorem YS.s6 (Y : YS h su H ru n x0 x1 x2 x3 x4 nf bf qf hf) {f : Nat → Int32} : YS h su (H.set (su + 6) (aC 0 20 f)) ru n x0 x1 x2 x3 x4 nf bf qf hf := by
  obtain ⟨d, e, e1, e2, e3, e4, e5, ⟨f6, e6⟩⟩ := Y
  exact ⟨d.st (by omega), st_n' (by omega) e, st_n' (by omega) e1, st_n' (by omega) e2, st_n' (by omega) e3, st_n' (by omega) e4, e5.imp fun _ q => st_n' (by omega) q, ⟨f, st_s e6⟩⟩
/-- what a ring, as a number, leads to -/
def nxN (k r : Nat) (F : Nat → Nat) (n x : Nat) : Nat := cd k (fun j => F (wd k (dg k n x) n r j)) n
theorem nxN_lt {k r : Nat} {F : Nat → Nat} (g : GR k r F) {n : Nat} (hn : 0 < n) (x : Nat) : nxN k r F n x < k ^ n := cd_lt n fun i _ => g.2.2.2.2 _ (wd_lt (fun j _ => dg_lt (by have := g.1; omega)) hn r i)
theorem lead_ok {k r a N M : Nat} {F : Nat → Nat} (g : GR k r F) (hsu : 44 ≤ su) (ha : a < su ∨ su + 6 < a) (hb : a + 1 < su ∨ su + 6 < a + 1) (R : RuleAt h a (a + 1) k r F) (hN : 0 < N) (hN2 : N ≤ 20) (hM : M = k ^ N) (hM2 : M ≤ 4096) (Y : YS h su H a (nI N) x0 x1 x2 x3 x4 nf bf qf hf) : ∃ H' nf' bf', fX3_lead H su (nI M) = some H' ∧ YS h su H' a (nI N) x0 x1 x2 x3 x4 nf' bf' qf hf ∧ (∀ x, x < M → nf' x = nI (nxN k r F N x)) ∧ ∀ x, x < M → bf' x = nI (inN M (nxN k r F N) x) := by
  obtain ⟨g1, g2, g3, g4, gF⟩ := id g
  unfold fX3_lead
  rw [Y.g1 (by omega)]
  simp only [Option.bind_some]
  rw [fill_ok (by omega) (by decide) Y.2.2.2.1]
  simp only [Option.bind_some]
  have key := uptoI (fun q i H => fX3_lead_w10 q su (nI M) (nI i) H) M (fun i H => ∃ nf' bf', YS h su H a (nI N) x0 x1 x2 x3 x4 nf' bf' qf hf ∧ (∀ x, x < i → nf' x = nI (nxN k r F N x)) ∧ ∀ x, x < M → bf' x = nI (inN i (nxN k r F N) x)) (by
    rintro q i H hi ⟨nf', bf', Y, h1, h2⟩
    obtain ⟨f5, e5⟩ := Y.2.2.2.2.2.2.1
    have RH := Y.1.rule ha hb R
    have hsp := spread_ok g (n := N) (nc := 20) (code := i) (a3 := su + 5) hN2 (by decide) (by omega) (by omega) (by omega) (by omega) RH e5
    have Y5 := Y.s5 (f := fillN (fun j => nI (dg k N i j)) N f5)
    obtain ⟨f6, e6⟩ := Y5.2.2.2.2.2.2.2
    have e5' : (H.set (su + 5) (aC 0 20 (fillN (fun j => nI (dg k N i j)) N f5)))[su + 5]? = some (aC 0 20 (fillN (fun j => nI (dg k N i j)) N f5)) := st_s e5
    have R5 := Y5.1.rule ha hb R
    have hgr := grow_ok g (c := dg k N i) hN hN2 (by decide) hN2 (by decide) (fun j _ => dg_lt (by omega)) (fun j hj => by simp [fillN, hj]) (show 4 ≤ su + 6 by omega) (show su + 6 ≠ su + 5 by omega) (by omega) (by omega) R5 e5' e6
    have Y6 := Y5.s6 (f := fillN (fun j => nI (F (wd k (dg k N i) N r j))) N f6)
    have hlt : nxN k r F N i < M := by rw [hM]; exact nxN_lt g hN i
    have Y7 := Y6.s1 (f := upd nf' i (nI (nxN k r F N i)))
    have Y8 := Y7.s2 (f := upd bf' (nxN k r F N i) (nI (inN i (nxN k r F N) (nxN k r F N i) + 1)))
    refine ⟨_, ?_, _, _, Y8, fun x hx => ?_, fun x hx => ?_⟩
    · show fX3_lead_w10 (q + 1) su (nI M) (nI i) H = _
      rw [fX3_lead_w10]
      simp only []
      rw [if_leI (by omega) (by omega), if_neg (by omega), Y.g6 (by omega)]
      simp only [Option.bind_some]
      rw [Y.g7 (by omega)]
      simp only [Option.bind_some]
      rw [Y.g4 (by omega)]
      simp only [Option.bind_some]
      rw [rok RH, hsp]
      simp only [Option.bind_some]
      rw [Y5.g6 (by omega)]
      simp only [Option.bind_some]
      rw [Y5.g4 (by omega)]
      simp only [Option.bind_some]
      rw [Y5.g7 (by omega)]
      simp only [Option.bind_some]
      rw [Y5.g5 (by omega)]
      simp only [Option.bind_some]
      rw [rok R5, hgr, call_ok, lN_i, setv_ok, show cd k (fun j => F (wd k (dg k N i) N r j)) N = nxN k r F N i from rfl, Y6.g0 (by omega)]
      simp only [Option.bind_some]
      rw [if_neg (nI_nn (by omega)), if_leI (by omega) (by omega), if_neg (by omega)]
      unfold fX3_lead_b75
      rw [sI_of (by omega) Y6.2.2.1 (by omega) (by decide), x_nar0]
      simp only [Option.bind_some]
      rw [Y7.g1 (by omega)]
      simp only [Option.bind_some]
      rw [Y7.g0 (by omega)]
      simp only [Option.bind_some]
      rw [aI_of Y7.2.2.1 (by omega) (by decide), upd_self]
      simp only [Option.bind_some]
      rw [aI_of Y7.2.2.2.1 (by omega) (by decide), h2 _ hlt]
      simp only [Option.bind_some]
      rw [nI_p1, sI_of (by omega) Y7.2.2.2.1 (by omega) (by decide), x_nar0]
      simp only [Option.bind_some]
      rw [nI_p1]
    · by_cases q1 : x = i
      · rw [q1, upd_self]
      · rw [upd_ne q1, h1 x (by omega)]
    · by_cases q1 : x = nxN k r F N i
      · rw [q1, upd_self]
        unfold inN
        rw [sm, if_pos rfl]
      · rw [upd_ne q1, h2 x hx]
        unfold inN
        rw [sm, if_neg (Ne.symm q1)]
        rfl) 0 FUEL (H.set (su + 2) (aC 0 4096 (fillN (fun _ => 0) 4096 bf))) (by omega) (fuel_big (by omega)) ⟨nf, _, Y.s2, fun x hx => by omega, fun x hx => by simp [fillN, show x < 4096 by omega, inN, sm]; rfl⟩
  obtain ⟨fu, H', k1, nf', bf', k2, k3, k4⟩ := key
  refine ⟨H', nf', bf', ?_, k2, k3, k4⟩
  refine Eq.trans (show fX3_lead_w10 FUEL su (nI M) (nI 0) _ = _ from k1) ?_
  rw [fX3_lead_w10]
  simp only []
  rw [if_leI (by omega) (by omega), if_pos (Nat.le_refl _)]
end SY

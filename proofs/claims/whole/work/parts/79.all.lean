/-- the five numbers of a survey -/
def SVN : SVP := fun q N x0 x1 x2 x3 x4 => ∃ s, PV (q.1 ^ N) (nxN q.1 q.2.1 q.2.2 N) s ∧ (pls (q.1 ^ N) (nxN q.1 q.2.1 q.2.2 N) s).2.length = s ∧ x0 = nI (lvs (q.1 ^ N) (nxN q.1 q.2.1 q.2.2 N) (q.1 ^ N)).length ∧ x1 = nI (q.1 ^ N - s) ∧ x2 = nI (grS (q.1 ^ N) (nxN q.1 q.2.1 q.2.2 N) (fun x => decide (0 < (pls (q.1 ^ N) (nxN q.1 q.2.1 q.2.2 N) s).1 x)) (q.1 ^ N)).2.1 ∧ x3 = nI (hgS (nxN q.1 q.2.1 q.2.2 N) (pls (q.1 ^ N) (nxN q.1 q.2.1 q.2.2 N) s).2).2 ∧ x4 = nI (grS (q.1 ^ N) (nxN q.1 q.2.1 q.2.2 N) (fun x => decide (0 < (pls (q.1 ^ N) (nxN q.1 q.2.1 q.2.2 N) s).1 x)) (q.1 ^ N)).2.2
theorem nxN_cong {k r N : Nat} {F F' : Nat → Nat} (hk : 0 < k) (hN : 0 < N) (h : ∀ w, w < k ^ r → F w = F' w) : nxN k r F N = nxN k r F' N := by
  funext x
  unfold nxN
  exact cd_cong N fun i _ => h _ (wd_lt (fun j _ => dg_lt hk) hN r i)
section SL3
variable {h H : Hp} {su ru : Nat} {n x0 x1 x2 x3 x4 : Int32} {nf bf qf hf : Nat → Int32}
theorem YS.p6 (Y : YS h su H ru n x0 x1 x2 x3 x4 nf bf qf hf) (h4 : 4 ≤ su) {z : Nat} : pF H su 3 6 (vR z) = some (H.set su (sob su z n x0 x1 x2 x3 x4)) := pF_of h4 Y.2.1 (by simp)
theorem YS.p7 (Y : YS h su H ru n x0 x1 x2 x3 x4 nf bf qf hf) (h4 : 4 ≤ su) {z : Int32} : pF H su 3 7 (vI z) = some (H.set su (sob su ru z x0 x1 x2 x3 x4)) := pF_of h4 Y.2.1 (by simp)
theorem look3_ok {k r a N : Nat} {F : Nat → Nat} (g : GR k r F) (hsu : 44 ≤ su) (ha : a < su ∨ su + 6 < a) (hb : a + 1 < su ∨ su + 6 < a + 1) (R : RuleAt h a (a + 1) k r F) (hN : 0 < N) (hN2 : N ≤ 20) (hM2 : k ^ N ≤ 4096) (Y : YS h su H ru n x0 x1 x2 x3 x4 nf bf qf hf) : ∃ H' y0 y1 y2 y3 y4 nf' bf' qf' hf', fX3_look_b16 su a (nI N) (nI (k ^ N)) H = some H' ∧ YS h su H' a (nI N) y0 y1 y2 y3 y4 nf' bf' qf' hf' ∧ SVN (k, r, F) N y0 y1 y2 y3 y4 := by
  obtain ⟨g1, g2, g3, g4, gF⟩ := id g
  unfold fX3_look_b16
  rw [show (4096 : Int32) = nI 4096 from rfl, if_leI (by omega) (by omega), if_pos hM2, Y.p6 (by omega)]
  simp only [Option.bind_some]
  have Y1 := Y.ob (ru' := a) (n' := n) (y0 := x0) (y1 := x1) (y2 := x2) (y3 := x3) (y4 := x4)
  rw [Y1.p7 (by omega)]
  simp only [Option.bind_some]
  have Y2 := Y1.ob (ru' := a) (n' := nI N) (y0 := x0) (y1 := x1) (y2 := x2) (y3 := x3) (y4 := x4)
  rw [Y2.ok (by omega)]
  have hM0 : 0 < k ^ N := Nat.pow_pos (by omega)
  have hM : ∀ x, x < k ^ N → nxN k r F N x < k ^ N := fun x _ => nxN_lt g hN x
  obtain ⟨H3, nf3, bf3, c1, Y3, c2, c3⟩ := lead_ok g hsu ha hb R hN hN2 rfl hM2 Y2
  rw [c1]
  simp only [Option.bind_some]
  rw [Y3.ok (by omega)]
  obtain ⟨H4, bf4, qf4, s, d1, Y4, pv, d2, d3, d4⟩ := peel_ok hsu hM2 hM Y3 c2 c3
  have hle := pv.le
  rw [d1, call_ok, pk_sub (by omega), Y4.p9 (by omega)]
  simp only [Option.bind_some]
  have Y5 := Y4.ob (ru' := a) (n' := nI N) (y0 := nI (lvs (k ^ N) (nxN k r F N) (k ^ N)).length) (y1 := nI (k ^ N - s)) (y2 := x2) (y3 := x3) (y4 := x4)
  rw [Y5.ok (by omega)]
  have hbd : ∀ x, (pls (k ^ N) (nxN k r F N) s).1 x ≤ k ^ N := fun x => by
    have h1 := pv.2.2.2.1 x
    have h2 := sm_le (f := fun y => if nxN k r F N y = x then 1 else 0) (g := fun _ => 1) (n := k ^ N) (fun i _ => by show (if nxN k r F N i = x then 1 else 0) ≤ 1; split <;> omega)
    rw [sm_const] at h2
    unfold inN at h1
    omega
  obtain ⟨H6, bf6, hf6, e1, Y6, e2⟩ := goRound_ok hsu hM0 hM2 hM c2 (S0 := fun x => decide (0 < (pls (k ^ N) (nxN k r F N) s).1 x)) Y5 (fun x hx => ⟨fun z => ⟨⟨(pls (k ^ N) (nxN k r F N) s).1 x, of_decide_eq_true z, by have := hbd x; omega, d3 x hx⟩, z⟩, fun z => ⟨by
    have : (pls (k ^ N) (nxN k r F N) s).1 x = 0 := by have := of_decide_eq_false z; omega
    rw [d3 x hx, this], fun w => by rw [z] at w; exact absurd w (by decide)⟩⟩)
  rw [e1]
  simp only [Option.bind_some]
  rw [Y6.ok (by omega)]
  obtain ⟨H7, hf7, f1, Y7⟩ := climb3_ok hsu hM2 hM c2 pv d2 Y6 d4 (fun x hx hn => e2 x hx (decide_eq_true (by
    have : ¬ (pls (k ^ N) (nxN k r F N) s).1 x = 0 := fun z => hn ((pv.2.2.2.2 x hx).mpr z)
    omega)))
  rw [f1]
  exact ⟨H7, _, _, _, _, _, _, _, _, _, rfl, Y7, s, pv, d2, rfl, rfl, rfl, rfl, rfl⟩
theorem ringsOf_at {k N : Nat} (hk : 2 ≤ k) (hk4 : k ≤ 4) (hb : N < 2 ^ 31) (h1 : 1 ≤ N) : ((∀ N', nI N = nI N' → N' < 2 ^ 31 → ¬ (1 ≤ N' ∧ k ^ N' ≤ 4096)) ∧ fX6_ringsOf_w11 FUEL (nI k) (nI N) 1 0 h = some (-1, h)) ∨ (∃ N', nI N = nI N' ∧ 1 ≤ N' ∧ N' ≤ 12 ∧ k ^ N' ≤ 4096 ∧ fX6_ringsOf_w11 FUEL (nI k) (nI N) 1 0 h = some (nI (k ^ N'), h)) := by
  have h13 : 8192 ≤ k ^ 13 := Nat.le_trans (show 8192 ≤ 2 ^ 13 by decide) (Nat.pow_le_pow_left hk 13)
  have key : ∀ d i fuel, i + d = 13 → d < fuel → i ≤ N → k ^ i ≤ 16384 → fX6_ringsOf_w11 fuel (nI k) (nI N) (nI (k ^ i)) (nI i) h = if k ^ N ≤ 4096 then some (nI (k ^ N), h) else some (-1, h) := by
    intro d
    induction d with
    | zero =>
      intro i fuel hi hf hiN hp
      obtain ⟨q, rfl⟩ : ∃ q, fuel = q + 1 := ⟨fuel - 1, by omega⟩
      have hi13 : i = 13 := by omega
      subst hi13
      have hN : k ^ 13 ≤ k ^ N := Nat.pow_le_pow_right (by omega) hiN
      have hb33 : fX6_ringsOf_b33 (nI (k ^ 13)) h = some (-1, h) := by
        unfold fX6_ringsOf_b33
        rw [show (4096 : Int32) = nI 4096 from rfl, if_ltI (by omega) (by omega), if_pos (by omega)]
      rw [fX6_ringsOf_w11]
      simp only []
      rw [hb33, if_leI (by omega) (by omega), show (4096 : Int32) = nI 4096 from rfl, if_ltI (by omega) (by omega), if_neg (show ¬ k ^ N ≤ 4096 by omega)]
      by_cases q2 : N ≤ 13
      · rw [if_pos q2]
      · rw [if_neg q2, if_pos (by omega)]
    | succ d ih =>
      intro i fuel hi hf hiN hp
      obtain ⟨q, rfl⟩ : ∃ q, fuel = q + 1 := ⟨fuel - 1, by omega⟩
      have hb33 : fX6_ringsOf_b33 (nI (k ^ i)) h = if 4096 < k ^ i then some (-1, h) else some (nI (k ^ i), h) := by
        unfold fX6_ringsOf_b33
        rw [show (4096 : Int32) = nI 4096 from rfl, if_ltI (by omega) (by omega)]
      rw [fX6_ringsOf_w11]
      simp only []
      rw [hb33, if_leI (by omega) (by omega), show (4096 : Int32) = nI 4096 from rfl, if_ltI (by omega) (by omega)]
      by_cases q2 : N ≤ i
      · have hNi : N = i := by omega
        subst hNi
        rw [if_pos (Nat.le_refl _)]
        by_cases q3 : 4096 < k ^ N
        · rw [if_pos q3, if_neg (by omega)]
        · rw [if_neg q3, if_pos (by omega)]
      · rw [if_neg q2]
        by_cases q3 : 4096 < k ^ i
        · have hN : k ^ i ≤ k ^ N := Nat.pow_le_pow_right (by omega) hiN
          rw [if_pos q3, if_pos q3, if_neg (by omega)]
        · rw [if_neg q3, setv_ok, pk_mul, nI_p1, ← Nat.pow_succ]
          refine ih (i + 1) q (by omega) (by omega) (by omega) ?_
          rw [Nat.pow_succ]
          have : k ^ i * k ≤ 4096 * 4 := Nat.mul_le_mul (by omega) hk4
          omega
  have k0 := key 13 0 FUEL (by omega) (fuel_big (by omega)) (Nat.zero_le _) (by rw [Nat.pow_zero]; decide)
  rw [Nat.pow_zero] at k0
  have k1 : fX6_ringsOf_w11 FUEL (nI k) (nI N) 1 0 h = _ := k0
  rw [k1]
  by_cases q : k ^ N ≤ 4096
  · right
    refine ⟨N, rfl, h1, ?_, q, by rw [if_pos q]⟩
    rcases Nat.lt_or_ge N 13 with w | w
    · omega
    · have := Nat.pow_le_pow_right (show 0 < k by omega) w
      omega
  · left
    refine ⟨fun N' hN' hb' hc => ?_, by rw [if_neg q]⟩
    have := (nI_eq hb hb').mp hN'
    subst this
    exact q hc.2
theorem ringsOf_ok {k : Nat} (hk : 2 ≤ k) (hk4 : k ≤ 4) (n : Int32) : ((∀ N, n = nI N → N < 2 ^ 31 → ¬ (1 ≤ N ∧ k ^ N ≤ 4096)) ∧ fX6_ringsOf h (nI k) n = some (-1, h)) ∨ (∃ N, n = nI N ∧ 1 ≤ N ∧ N ≤ 12 ∧ k ^ N ≤ 4096 ∧ fX6_ringsOf h (nI k) n = some (nI (k ^ N), h)) := by
  unfold fX6_ringsOf
  by_cases q : n < 1
  · left
    refine ⟨fun N hN hb hc => ?_, ?_⟩
    · rw [hN, l1] at q
      have := (nI_ltI hb (by decide)).mp q
      omega
    · rw [if_neg (by rw [Int32.not_le]; exact q)]
  rw [if_pos (by rw [Int32.not_lt] at q; exact q)]
  rcases pk_ix n (n := 2 ^ 31 - 1) (by decide) with z | z | ⟨N, hN, rfl⟩
  · exact absurd (Int32.lt_of_lt_of_le z (show (0 : Int32) ≤ 1 by decide)) q
  · obtain rfl : n = nI (2 ^ 31 - 1) := by
      apply Int32.le_antisymm _ z
      rw [Int32.le_iff_toInt_le, nI_toInt (by decide)]
      have := Int32.toInt_lt n
      omega
    exact ringsOf_at hk hk4 (N := 2 ^ 31 - 1) (by decide) (by decide)
  · exact ringsOf_at hk hk4 (N := N) (by omega) (by
      have : ¬ N < 1 := fun w => q (by rw [l1]; exact (nI_ltI (by omega) (by decide)).mpr w)
      omega)
end SL3

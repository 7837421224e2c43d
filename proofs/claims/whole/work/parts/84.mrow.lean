section MR
variable {h : Hp} {thr tl' om rd' : Int32} {sz : Int32} {n : Nat} {tp : Nat → Nat} {stf wdf tbf tpf : Nat → Int32} {j k r : Nat} {F : Nat → Nat}
theorem areStates_m (e0 : h[20]? = some (mob thr tl' (nI n) om rd')) (e1 : h[21]? = some (aC 1 100 tpf)) (e2 : h[22]? = some (aC 0 6 stf)) (hj : j < 6) (hk : stf j = nI k) (hk4 : k ≤ 4) (hn : n ≤ 100) (ht : ∀ i, i < n → tpf i = byM (tp i) ∧ tp i < 256) {lo hi : Nat} (hlo : lo < 1000) (hhi : hi < 1000) : ((lo ≤ n ∧ n ≤ hi ∧ Sts k n tp) ∧ fX7_areStates h 20 (nI j) (nI lo) (nI hi) = some (1, h)) ∨ (¬ (lo ≤ n ∧ n ≤ hi ∧ Sts k n tp) ∧ fX7_areStates h 20 (nI j) (nI lo) (nI hi) = some (0, h)) := by
  unfold fX7_areStates
  rw [o_3 e0]
  simp only [Option.bind_some]
  rw [if_ltI (by omega) (by omega)]
  by_cases q1 : n < lo
  · right
    rw [if_pos q1, retZ0]
    exact ⟨by omega, rfl⟩
  rw [if_neg q1, if_leI (by omega) (by omega)]
  by_cases q2 : n ≤ hi
  · rw [if_pos q2]
    have step : ∀ q i, i < n → fX7_areStates_w21 (q + 1) 20 (nI j) (nI i) h = if tp i < k then fX7_areStates_w21 q 20 (nI j) (nI (i + 1)) h else some (0, h) := by
      intro q i hi
      obtain ⟨t1, t2⟩ := ht i hi
      rw [fX7_areStates_w21]
      simp only []
      rw [o_3 e0]
      simp only [Option.bind_some]
      rw [if_leI (by omega) (by omega), if_neg (by omega), o_1 e0]
      simp only [Option.bind_some]
      rw [aI_of e1 (by omega) (by decide), t1]
      simp only [Option.bind_some]
      by_cases q3 : 128 ≤ tp i
      · rw [if_pos ((byM_neg _ t2).mpr q3), if_neg (by omega), retZ0]
      · rw [if_neg (fun z => q3 ((byM_neg _ t2).mp z)), o_4 e0]
        simp only [Option.bind_some]
        rw [aI_of e2 hj (by decide), hk]
        simp only [Option.bind_some]
        rw [byM_small _ (by omega), if_ltI (by omega) (by omega), nI_p1, retZ0]
    have key := scan_all (fun q i => fX7_areStates_w21 q 20 (nI j) (nI i) h) n (fun i => ¬ tp i < k) (some (0, h)) (some (1, h)) (fun q i hi hb => by rw [step q i hi, if_pos (Decidable.not_not.mp hb)]) (fun q i hi hb => by rw [step q i hi, if_neg hb]) (fun q => by
      rw [fX7_areStates_w21]
      simp only []
      rw [o_3 e0]
      simp only [Option.bind_some]
      rw [if_leI (by omega) (by omega), if_pos (Nat.le_refl _), retZ1]) 0 FUEL (by omega) (fuel_big (by omega))
    rw [l0]
    rcases key with ⟨h1, h2⟩ | ⟨⟨i, h1, h2, h3⟩, h4⟩
    · left
      exact ⟨⟨by omega, q2, fun i hi => Decidable.not_not.mp (h1 i (by omega) hi)⟩, h2⟩
    · right
      exact ⟨fun z => h3 (z.2.2 i h2), h4⟩
  · right
    rw [if_neg q2, retZ0]
    exact ⟨fun z => q2 z.2.1, rfl⟩
theorem takeCells_m (e0 : h[20]? = some (mob thr tl' (nI n) om rd')) (e1 : h[21]? = some (aC 1 100 tpf)) {cf : Nat → Int32} (e6 : h[26]? = some (aC 0 100 cf)) (hn : n ≤ 100) : fX7_takeCells h 20 = some (h.set 26 (aC 0 100 (fillN tpf n cf))) := by
  unfold fX7_takeCells
  have E0 : ∀ u, (h.set 26 u)[20]? = some (mob thr tl' (nI n) om rd') := fun u => st_n' (by decide) e0
  have E1 : ∀ u, (h.set 26 u)[21]? = some (aC 1 100 tpf) := fun u => st_n' (by decide) e1
  have key := upto (fun q i => fX7_takeCells_w2 q 20 (nI i) (h.set 26 (aC 0 100 (fillN tpf i cf)))) n (some (h.set 26 (aC 0 100 (fillN tpf n cf)))) (fun q i hi => by
    rw [fX7_takeCells_w2]
    simp only []
    rw [o_3 (E0 _)]
    simp only [Option.bind_some]
    rw [if_leI (by omega) (by omega), if_neg (by omega), o_9 (E0 _)]
    simp only [Option.bind_some]
    rw [o_1 (E0 _)]
    simp only [Option.bind_some]
    rw [aI_of (E1 _) (by omega) (by decide)]
    simp only [Option.bind_some]
    rw [sI_of (by decide) (st_s e6) (by omega) (by decide), x_nar0]
    simp only [Option.bind_some]
    rw [List.set_set, fillN_s, nI_p1]) (fun q => by
    rw [fX7_takeCells_w2]
    simp only []
    rw [o_3 (E0 _)]
    simp only [Option.bind_some]
    rw [if_leI (by omega) (by omega), if_pos (Nat.le_refl _)]) 0 FUEL (by omega) (fuel_big (by omega))
  rw [fillN_0, st_id e6] at key
  rw [l0]
  exact key
theorem leadsTo_m (g : GR k r F) (e0 : h[20]? = some (mob thr tl' sz om rd')) (e2 : h[22]? = some (aC 0 6 stf)) (e3 : h[23]? = some (aC 0 6 wdf)) (e4 : h[24]? = some (aC 0 189 tbf)) (hj : j < 6) (s1 : stf j = nI k) (s2 : wdf j = nI r) (s3 : ∀ w, w < k ^ r → tbf (27 * j + w) = nI (F w)) {cf : Nat → Int32} {c : Nat → Nat} (e6 : h[26]? = some (aC 0 100 cf)) (hn : 0 < n) (hn2 : n ≤ 100) (hc : ∀ i, i < n → c i < k) (hcf : ∀ i, i < n → cf i = nI (c i)) {i : Nat} (hi : i < 1000) : fX7_leadsTo h 20 (nI j) (nI i) (nI n) = some (nI (F (wd k c n r i)), h) := by
  obtain ⟨n1, n2, n3, n4, n5⟩ := g.nums
  obtain ⟨g1, g2, g3, g4, gF⟩ := id g
  unfold fX7_leadsTo
  have key := upto (fun q x => fX7_leadsTo_w6 q 20 (nI j) (nI i) (nI n) (nI (wd k c n x i)) (nI x) h) r (some (nI (F (wd k c n r i)), h)) (fun q x hx => by
    have hm := Nat.mod_lt (i + x) hn
    rw [fX7_leadsTo_w6]
    simp only []
    rw [o_5 e0]
    simp only [Option.bind_some]
    rw [aI_of e3 hj (by decide), s2]
    simp only [Option.bind_some]
    rw [if_leI (by omega) (by omega), if_neg (by omega), o_4 e0]
    simp only [Option.bind_some]
    rw [aI_of e2 hj (by decide), s1]
    simp only [Option.bind_some]
    rw [o_9 e0]
    simp only [Option.bind_some]
    rw [nI_add, iRem_nI (by omega) hn (by omega), aI_of e6 (by omega) (by decide), hcf _ hm]
    simp only [Option.bind_some]
    rw [setv_ok, pk_mul, nI_add, nI_p1, wd, Nat.mul_comm k]) (fun q => by
    rw [fX7_leadsTo_w6]
    simp only []
    rw [o_5 e0]
    simp only [Option.bind_some]
    rw [aI_of e3 hj (by decide), s2]
    simp only [Option.bind_some]
    rw [if_leI (by omega) (by omega), if_pos (Nat.le_refl _)]
    unfold fX7_leadsTo_b46
    rw [oo e0, mtells e0 e4 g hj s3 (wd_lt hc hn r i), call_ok]) 0 FUEL (by omega) (fuel_big (by omega))
  rw [l0]
  exact key
end MR

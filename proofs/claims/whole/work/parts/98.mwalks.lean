section MW
variable {h : Hp} {thr tl' om rd' : Int32} {stf wdf tbf tpf : Nat → Int32} {j k r n : Nat} {F : Nat → Nat} {f : Nat → Int64}
theorem count_m (g : GR k r F) (e0 : h[20]? = some (mob thr tl' (nI n) om rd')) (e1 : h[21]? = some (aC 1 100 tpf)) (e2 : h[22]? = some (aC 0 6 stf)) (e3 : h[23]? = some (aC 0 6 wdf)) (e4 : h[24]? = some (aC 0 189 tbf)) (hj : j < 6) (s1 : stf j = nI k) (s2 : wdf j = nI r) (s3 : ∀ w, w < k ^ r → tbf (27 * j + w) = nI (F w)) (e28 : h[28]? = some (lC 189 f)) {c G : Nat → Nat} (hn : n ≤ 20) (hc : ∀ i, i < n → tpf i = nI (c i) ∧ c i < 1000) {goal : Int32} (hgl : ∀ v, v < k ^ (r - 1) → (goal < 0 ∨ nI v = goal → G v = 1) ∧ (¬ (goal < 0 ∨ nI v = goal) → G v = 0)) : ∃ f', fX7_count h 20 (nI j) goal = some (h.set 28 (lC 189 f')) ∧ ∀ i v, i ≤ n → v < k ^ (r - 1) → f' (i * 9 + v) = lN (wy k (k ^ (r - 1)) F c G (n - i) i v) := by
  obtain ⟨n1, n2, n3, n4, n5⟩ := g.nums
  obtain ⟨g1, g2, g3, g4, gF⟩ := id g
  have E0 : ∀ u, (h.set 28 u)[20]? = some (mob thr tl' (nI n) om rd') := fun u => st_n' (by decide) e0
  have E1 : ∀ u, (h.set 28 u)[21]? = some (aC 1 100 tpf) := fun u => st_n' (by decide) e1
  have E2 : ∀ u, (h.set 28 u)[22]? = some (aC 0 6 stf) := fun u => st_n' (by decide) e2
  have E3 : ∀ u, (h.set 28 u)[23]? = some (aC 0 6 wdf) := fun u => st_n' (by decide) e3
  have E4 : ∀ u, (h.set 28 u)[24]? = some (aC 0 189 tbf) := fun u => st_n' (by decide) e4
  have E28 : ∀ u, (h.set 28 u)[28]? = some u := fun u => st_s e28
  -- the last row
  have k1 := uptoI (fun q i H => fX7_count_w9 q 20 (nI j) goal (nI (k ^ (r - 1))) (nI i) H) (k ^ (r - 1)) (fun i H => ∃ f', H = h.set 28 (lC 189 f') ∧ ∀ v, v < i → f' (n * 9 + v) = lN (G v)) (by
    rintro q i H hi ⟨f', rfl, hf⟩
    refine ⟨h.set 28 (lC 189 (vp_updL f' (n * 9 + i) (lN (G i)))), ?_, _, rfl, fun v hv => ?_⟩
    · show fX7_count_w9 (q + 1) 20 (nI j) goal (nI (k ^ (r - 1))) (nI i) (h.set 28 (lC 189 f')) = _
      rw [fX7_count_w9]
      simp only []
      rw [if_leI (by omega) (by omega), if_neg (by omega), o_11 (E0 _)]
      simp only [Option.bind_some]
      rw [o_3 (E0 _)]
      simp only [Option.bind_some]
      have hp : ∀ x : Int64, fX7_count_b44 (fX7_count_w9 q) 20 (nI j) goal (nI (k ^ (r - 1))) (nI i) x ((9 : Int32) * nI n + nI i) 28 (h.set 28 (lC 189 f')) = fX7_count_w9 q 20 (nI j) goal (nI (k ^ (r - 1))) (nI (i + 1)) (h.set 28 (lC 189 (vp_updL f' (n * 9 + i) x))) := by
        intro x
        unfold fX7_count_b44
        rw [show (9 : Int32) = nI 9 from rfl, pk_mul, nI_add, Nat.mul_comm 9, sL_of (by decide) (E28 _) (by omega) (by decide)]
        simp only [Option.bind_some]
        rw [List.set_set, nI_p1]
      unfold fX7_count_b39
      rw [hp, hp]
      obtain ⟨y1, y2⟩ := hgl i hi
      by_cases q1 : goal < 0
      · rw [if_pos q1, y1 (Or.inl q1)]; rfl
      · rw [if_neg q1]
        by_cases q2 : nI i = goal
        · rw [if_pos q2, y1 (Or.inr q2)]; rfl
        · rw [if_neg q2, y2 (fun z => z.elim q1 q2)]; rfl
    · by_cases q1 : v = i
      · rw [q1, updL_self]
      · rw [updL_ne (by omega), hf v (by omega)]) 0 FUEL h (by omega) (fuel_big (by omega)) ⟨f, (st_id e28).symm, fun v hv => by omega⟩
  obtain ⟨fu, H, k2, f1, rfl, k3⟩ := k1
  -- the rows before
  have k4 : ∀ i fuel f', i ≤ n → i < fuel → (∀ j v, i ≤ j → j ≤ n → v < k ^ (r - 1) → f' (j * 9 + v) = lN (wy k (k ^ (r - 1)) F c G (n - j) j v)) → ∃ f2, fX7_count_w59 fuel 20 (nI j) (nI (k ^ (r - 1))) (nI i - 1) (h.set 28 (lC 189 f')) = some (h.set 28 (lC 189 f2)) ∧ ∀ j v, j ≤ n → v < k ^ (r - 1) → f2 (j * 9 + v) = lN (wy k (k ^ (r - 1)) F c G (n - j) j v) := by
    intro i
    induction i with
    | zero =>
      intro fuel f' hi hf hJ
      obtain ⟨q, rfl⟩ : ∃ q, fuel = q + 1 := ⟨fuel - 1, by omega⟩
      refine ⟨f', ?_, fun j v hj hv => hJ j v (by omega) hj hv⟩
      rw [fX7_count_w59]
      simp only []
      rw [if_pos (by decide)]
    | succ i ih =>
      intro fuel f' hi hf hJ
      obtain ⟨q, rfl⟩ : ∃ q, fuel = q + 1 := ⟨fuel - 1, by omega⟩
      rw [fX7_count_w59]
      simp only []
      rw [i_sub1 (by omega), Nat.add_sub_cancel, if_neg (nI_nn (by omega)), l0]
      obtain ⟨c1, c2⟩ := hc i (by omega)
      have k5 := uptoI (fun q2 v H => fX7_count_w67 (fX7_count_w59 q) q2 20 (nI j) (nI (k ^ (r - 1))) (nI i) (nI v) H) (k ^ (r - 1)) (fun v0 H => ∃ f3, H = h.set 28 (lC 189 f3) ∧ (∀ v, v < v0 → f3 (i * 9 + v) = lN (wy k (k ^ (r - 1)) F c G (n - i) i v)) ∧ ∀ j v, i + 1 ≤ j → j ≤ n → v < k ^ (r - 1) → f3 (j * 9 + v) = lN (wy k (k ^ (r - 1)) F c G (n - j) j v)) (by
        rintro q2 v H hv ⟨f3, rfl, h1, h2⟩
        have hwy : wy k (k ^ (r - 1)) F c G (n - i) i v = sm (fun x => if F (v * k + x) = c i then wy k (k ^ (r - 1)) F c G (n - (i + 1)) (i + 1) ((v * k + x) % k ^ (r - 1)) else 0) k := by
          rw [show n - i = (n - (i + 1)) + 1 by omega]; rfl
        refine ⟨h.set 28 (lC 189 (vp_updL f3 (i * 9 + v) (lN (wy k (k ^ (r - 1)) F c G (n - i) i v)))), ?_, _, rfl, fun w hw => ?_, fun j w hj1 hj2 hw => ?_⟩
        · show fX7_count_w67 (fX7_count_w59 q) (q2 + 1) 20 (nI j) (nI (k ^ (r - 1))) (nI i) (nI v) (h.set 28 (lC 189 f3)) = _
          rw [fX7_count_w67]
          simp only []
          rw [if_leI (by omega) (by omega), if_neg (by omega)]
          have inn := upto (fun q3 x => fX7_count_w79 (fX7_count_w59 q) (fX7_count_w67 (fX7_count_w59 q) q2) q3 20 (nI j) (nI (k ^ (r - 1))) (nI i) (nI v) (lN (sm (fun x => if F (v * k + x) = c i then wy k (k ^ (r - 1)) F c G (n - (i + 1)) (i + 1) ((v * k + x) % k ^ (r - 1)) else 0) x)) (nI x) (h.set 28 (lC 189 f3))) k (fX7_count_b150 (fX7_count_w59 q) (fX7_count_w67 (fX7_count_w59 q) q2) 20 (nI j) (nI (k ^ (r - 1))) (nI i) (nI v) (lN (wy k (k ^ (r - 1)) F c G (n - i) i v)) (h.set 28 (lC 189 f3))) (fun q3 x hx => by
            have hwl : v * k + x < k ^ r := by rw [n4]; exact wlt hv hx
            have hF := gF _ hwl
            have hmd : (v * k + x) % k ^ (r - 1) < k ^ (r - 1) := Nat.mod_lt _ n3
            rw [fX7_count_w79]
            simp only []
            rw [o_4 (E0 _)]
            simp only [Option.bind_some]
            rw [aI_of (E2 _) hj (by decide), s1]
            simp only [Option.bind_some]
            rw [if_leI (by omega) (by omega), if_neg (by omega), oo (E0 _), pk_mul, nI_add, Nat.mul_comm k, mtells (F := F) (E0 _) (E4 _) g hj s3 hwl, call_ok, o_1 (E0 _)]
            simp only [Option.bind_some]
            rw [aI_of (E1 _) (by omega) (by decide), c1]
            simp only [Option.bind_some]
            rw [if_eqI (by omega) (by omega)]
            unfold fX7_count_b144
            by_cases z : F (v * k + x) = c i
            · rw [if_pos z, o_11 (E0 _)]
              simp only [Option.bind_some]
              rw [oo (E0 _), then_m g (E0 _) (E2 _) (E3 _) hj s1 s2 (by omega) (by omega), call_ok, nI_p1 i, show (9 : Int32) = nI 9 from rfl, pk_mul, nI_add, Nat.mul_comm 9, aL_of (by decide) (E28 _) (by omega) (by decide), h2 (i + 1) _ (Nat.le_refl _) hi hmd]
              simp only [Option.bind_some]
              rw [setv_ok, lN_add, nI_p1, sm, if_pos z]
            · rw [if_neg z, nI_p1, sm, if_neg z]
              rfl) (fun q3 => by
            rw [fX7_count_w79]
            simp only []
            rw [o_4 (E0 _)]
            simp only [Option.bind_some]
            rw [aI_of (E2 _) hj (by decide), s1]
            simp only [Option.bind_some]
            rw [if_leI (by omega) (by omega), if_pos (Nat.le_refl _), hwy]) 0 FUEL (by omega) (fuel_big (by omega))
          refine Eq.trans (show fX7_count_w79 (fX7_count_w59 q) (fX7_count_w67 (fX7_count_w59 q) q2) FUEL 20 (nI j) (nI (k ^ (r - 1))) (nI i) (nI v) (lN 0) (nI 0) (h.set 28 (lC 189 f3)) = _ from inn) ?_
          unfold fX7_count_b150
          rw [o_11 (E0 _)]
          simp only [Option.bind_some]
          rw [show (9 : Int32) = nI 9 from rfl, pk_mul, nI_add, Nat.mul_comm 9, sL_of (by decide) (E28 _) (by omega) (by decide)]
          simp only [Option.bind_some]
          rw [List.set_set, nI_p1]
        · by_cases q1 : w = v
          · rw [q1, updL_self]
          · rw [updL_ne (by omega), h1 w (by omega)]
        · rw [updL_ne (by omega), h2 j w hj1 hj2 hw]) 0 FUEL (h.set 28 (lC 189 f')) (by omega) (fuel_big (by omega)) ⟨f', rfl, fun v hv => by omega, fun j v hj1 hj2 hv => hJ j v hj1 hj2 hv⟩
      obtain ⟨fu5, H5, k6, f3, rfl, k7, k8⟩ := k5
      obtain ⟨f2, r1, r2⟩ := ih q f3 (by omega) (by omega) (fun j' v hj1 hj2 hv => by
        by_cases z : j' = i
        · rw [z]; exact k7 v hv
        · exact k8 j' v (by omega) hj2 hv)
      refine ⟨f2, ?_, r2⟩
      refine Eq.trans k6 ?_
      rw [fX7_count_w67]
      simp only []
      rw [if_leI (by omega) (by omega), if_pos (Nat.le_refl _)]
      unfold fX7_count_b171
      rw [i_m1, r1]
  obtain ⟨f2, r1, r2⟩ := k4 n FUEL f1 (Nat.le_refl _) (fuel_big (by omega)) (fun j' v hj1 hj2 hv => by
    have : j' = n := by omega
    subst this
    rw [k3 v hv, Nat.sub_self]
    rfl)
  refine ⟨f2, ?_, r2⟩
  unfold fX7_count
  rw [oo e0, overlaps_m g e0 e2 e3 hj s1 s2, call_ok, l0]
  refine Eq.trans k2 ?_
  rw [fX7_count_w9]
  simp only []
  rw [if_leI (by omega) (by omega), if_pos (Nat.le_refl _)]
  unfold fX7_count_b51
  rw [o_3 (E0 _)]
  simp only [Option.bind_some]
  rw [setv_ok, r1]
theorem first_m (g : GR k r F) (e0 : h[20]? = some (mob thr tl' (nI n) om rd')) (e1 : h[21]? = some (aC 1 100 tpf)) (e2 : h[22]? = some (aC 0 6 stf)) (e3 : h[23]? = some (aC 0 6 wdf)) (e4 : h[24]? = some (aC 0 189 tbf)) (hj : j < 6) (s1 : stf j = nI k) (s2 : wdf j = nI r) (s3 : ∀ w, w < k ^ r → tbf (27 * j + w) = nI (F w)) (e28 : h[28]? = some (lC 189 f)) {cf : Nat → Int32} (e6 : h[26]? = some (aC 0 100 cf)) {c G : Nat → Nat} (hn : n ≤ 20) (hc : ∀ i, i < n → tpf i = nI (c i) ∧ c i < 1000) (hG : ∀ v, G v ≤ 1) (hw : ∀ i v, i ≤ n → v < k ^ (r - 1) → f (i * 9 + v) = lN (wy k (k ^ (r - 1)) F c G (n - i) i v)) {v0 : Nat} (hv0 : v0 < k ^ (r - 1)) (hpos : 0 < wy k (k ^ (r - 1)) F c G n 0 v0) : fX7_first h 20 (nI j) (nI v0) = some (h.set 26 (aC 0 100 (fillN (fun j => nI (frN k r F c G n v0 j)) (r - 1 + n) cf))) := by
  obtain ⟨n1, n2, n3, n4, n5⟩ := g.nums
  obtain ⟨g1, g2, g3, g4, gF⟩ := id g
  have E0 : ∀ u, (h.set 26 u)[20]? = some (mob thr tl' (nI n) om rd') := fun u => st_n' (by decide) e0
  have E1 : ∀ u, (h.set 26 u)[21]? = some (aC 1 100 tpf) := fun u => st_n' (by decide) e1
  have E2 : ∀ u, (h.set 26 u)[22]? = some (aC 0 6 stf) := fun u => st_n' (by decide) e2
  have E3 : ∀ u, (h.set 26 u)[23]? = some (aC 0 6 wdf) := fun u => st_n' (by decide) e3
  have E4 : ∀ u, (h.set 26 u)[24]? = some (aC 0 189 tbf) := fun u => st_n' (by decide) e4
  have E28 : ∀ u, (h.set 26 u)[28]? = some (lC 189 f) := fun u => st_n' (by decide) e28
  have E6 : ∀ u, (h.set 26 u)[26]? = some u := fun u => st_s e6
  unfold fX7_first
  rw [o_5 e0]
  simp only [Option.bind_some]
  rw [aI_of e3 hj (by decide), s2]
  simp only [Option.bind_some]
  have h2 : nI r - 2 = nI (r - 1) - 1 := by
    obtain ⟨z, rfl⟩ : ∃ z, r = z + 1 := ⟨r - 1, by omega⟩
    rw [Nat.add_sub_cancel, ← nI_p1]
    rw [Int32.sub_eq_add_neg, Int32.sub_eq_add_neg, Int32.add_assoc]
    rfl
  rw [setv_ok, h2]
  have kA := downto' (fun q i => fX7_first_w15 q 20 (nI j) (nI v0) (nI r) (nI (v0 / k ^ (r - 1 - i))) (nI i - 1) (h.set 26 (aC 0 100 (fillD (fun j => nI (dg k (r - 1) v0 j)) i (r - 1) cf)))) (r - 1) (fX7_first_b53 20 (nI j) (nI v0) (nI r) (h.set 26 (aC 0 100 (fillD (fun j => nI (dg k (r - 1) v0 j)) 0 (r - 1) cf)))) (fun q i hi => by
    have hle : v0 / k ^ (r - 1 - (i + 1)) ≤ v0 := Nat.div_le_self _ _
    rw [fX7_first_w15]
    simp only []
    rw [i_sub1 (by omega), Nat.add_sub_cancel, if_neg (nI_nn (by omega)), o_9 (E0 _)]
    simp only [Option.bind_some]
    rw [o_4 (E0 _)]
    simp only [Option.bind_some]
    rw [aI_of (E2 _) hj (by decide), s1]
    simp only [Option.bind_some]
    rw [iRem_nI (by omega) (by omega) (by omega), sI_of (by decide) (E6 _) (by omega) (by decide), x_nar0]
    simp only [Option.bind_some]
    rw [List.set_set]
    have hd : nI (v0 / k ^ (r - 1 - (i + 1)) % k) = (fun j => nI (dg k (r - 1) v0 j)) i := by
      show _ = nI (dg k (r - 1) v0 i)
      unfold dg
      rw [show r - 1 - 1 - i = r - 1 - (i + 1) by omega]
    rw [hd, fillD_s hi, o_4 (E0 _)]
    simp only [Option.bind_some]
    rw [aI_of (E2 _) hj (by decide), s1]
    simp only [Option.bind_some]
    rw [iDiv_nI (by omega) (by omega) (by omega), Nat.div_div_eq_div_mul, ← Nat.pow_succ, show (r - 1 - (i + 1)).succ = r - 1 - i by omega, i_m1]) (fun q => by
    rw [fX7_first_w15]
    simp only []
    rw [if_pos (by decide)]) (r - 1) FUEL (Nat.le_refl _) (fuel_big (by omega))
  rw [Nat.sub_self, Nat.pow_zero, Nat.div_one, fillD_n, st_id e6, fillD_0] at kA
  refine Eq.trans kA ?_
  unfold fX7_first_b53
  have hfill : fillN (fun j => nI (dg k (r - 1) v0 j)) (r - 1) cf = fillN (fun j => nI (frN k r F c G n v0 j)) (r - 1 + 0) cf := by
    funext j
    unfold fillN
    by_cases q : j < r - 1
    · rw [if_pos q, if_pos (by omega)]
      show nI _ = nI _
      unfold frN
      rw [if_pos q]
    · rw [if_neg q, if_neg (by omega)]
  rw [hfill]
  -- every node of the first walk has a way on
  have hex : ∀ i, i < n → 0 < wy k (k ^ (r - 1)) F c G (n - i) i (ndN k (k ^ (r - 1)) F c G n v0 i) → fcN k (k ^ (r - 1)) F c G n i (ndN k (k ^ (r - 1)) F c G n v0 i) < k ∧ (F (ndN k (k ^ (r - 1)) F c G n v0 i * k + fcN k (k ^ (r - 1)) F c G n i (ndN k (k ^ (r - 1)) F c G n v0 i)) = c i ∧ 0 < wy k (k ^ (r - 1)) F c G (n - (i + 1)) (i + 1) ((ndN k (k ^ (r - 1)) F c G n v0 i * k + fcN k (k ^ (r - 1)) F c G n i (ndN k (k ^ (r - 1)) F c G n v0 i)) % k ^ (r - 1))) ∧ ∀ x, x < fcN k (k ^ (r - 1)) F c G n i (ndN k (k ^ (r - 1)) F c G n v0 i) → ¬ (F (ndN k (k ^ (r - 1)) F c G n v0 i * k + x) = c i ∧ 0 < wy k (k ^ (r - 1)) F c G (n - (i + 1)) (i + 1) ((ndN k (k ^ (r - 1)) F c G n v0 i * k + x) % k ^ (r - 1))) := by
    intro i hi hp
    generalize ndN k (k ^ (r - 1)) F c G n v0 i = v at hp ⊢
    rw [show n - i = (n - (i + 1)) + 1 by omega, wy] at hp
    obtain ⟨x, hx, hx2⟩ := sm_pos hp
    have hx3 : F (v * k + x) = c i ∧ 0 < wy k (k ^ (r - 1)) F c G (n - (i + 1)) (i + 1) ((v * k + x) % k ^ (r - 1)) := by
      by_cases z : F (v * k + x) = c i
      · rw [if_pos z] at hx2; exact ⟨z, hx2⟩
      · rw [if_neg z] at hx2; omega
    obtain ⟨y, ⟨hy1, hy2⟩, hmin⟩ := pk_least (fun y => y < k ∧ F (v * k + y) = c i ∧ 0 < wy k (k ^ (r - 1)) F c G (n - (i + 1)) (i + 1) ((v * k + y) % k ^ (r - 1))) ⟨x, hx, hx3⟩
    have hfe : fcN k (k ^ (r - 1)) F c G n i v = y := fnd_eq (p := fun x => F (v * k + x) = c i ∧ 0 < wy k (k ^ (r - 1)) F c G (n - (i + 1)) (i + 1) ((v * k + x) % k ^ (r - 1))) hy2 k 0 (by omega) (by omega) (fun u _ hu z => hmin u hu ⟨by omega, z⟩)
    rw [hfe]
    exact ⟨hy1, hy2, fun u hu z => hmin u hu ⟨by omega, z⟩⟩
  have hall : ∀ i, i ≤ n → 0 < wy k (k ^ (r - 1)) F c G (n - i) i (ndN k (k ^ (r - 1)) F c G n v0 i) := by
    intro i
    induction i with
    | zero => intro _; exact hpos
    | succ i ih => intro hi; exact (hex i (by omega) (ih (by omega))).2.1.2
  have key := upto (fun q i => fX7_first_w59 q 20 (nI j) (nI r) (nI (ndN k (k ^ (r - 1)) F c G n v0 i)) (nI i) (h.set 26 (aC 0 100 (fillN (fun j => nI (frN k r F c G n v0 j)) (r - 1 + i) cf)))) n (some (h.set 26 (aC 0 100 (fillN (fun j => nI (frN k r F c G n v0 j)) (r - 1 + n) cf)))) (fun q i hi => by
    obtain ⟨c1, c2⟩ := hc i hi
    have hnd := ndN_lt (k := k) (F := F) (c := c) (G := G) (n := n) n3 hv0 i
    obtain ⟨x1, x2, x3⟩ := hex i hi (hall i (by omega))
    have hfr : frN k r F c G n v0 (r - 1 + i) = fcN k (k ^ (r - 1)) F c G n i (ndN k (k ^ (r - 1)) F c G n v0 i) := by
      unfold frN
      rw [if_neg (by omega), Nat.add_sub_cancel_left]
    have hns : ndN k (k ^ (r - 1)) F c G n v0 (i + 1) = (ndN k (k ^ (r - 1)) F c G n v0 i * k + fcN k (k ^ (r - 1)) F c G n i (ndN k (k ^ (r - 1)) F c G n v0 i)) % k ^ (r - 1) := rfl
    generalize ndN k (k ^ (r - 1)) F c G n v0 i = v at hnd x1 x2 x3 hfr hns ⊢
    generalize hH : h.set 26 (aC 0 100 (fillN (fun j => nI (frN k r F c G n v0 j)) (r - 1 + i) cf)) = H
    have K0 : H[20]? = some (mob thr tl' (nI n) om rd') := by rw [← hH]; exact E0 _
    have K1 : H[21]? = some (aC 1 100 tpf) := by rw [← hH]; exact E1 _
    have K2 : H[22]? = some (aC 0 6 stf) := by rw [← hH]; exact E2 _
    have K3 : H[23]? = some (aC 0 6 wdf) := by rw [← hH]; exact E3 _
    have K4 : H[24]? = some (aC 0 189 tbf) := by rw [← hH]; exact E4 _
    have K28 : H[28]? = some (lC 189 f) := by rw [← hH]; exact E28 _
    rw [fX7_first_w59]
    simp only []
    rw [o_3 K0]
    simp only [Option.bind_some]
    rw [if_leI (by omega) (by omega), if_neg (by omega)]
    have step : ∀ q2 x, x < k → fX7_first_w71 (fX7_first_w59 q) (q2 + 1) 20 (nI j) (nI r) (nI v) (nI i) (nI x) H = if F (v * k + x) = c i ∧ 0 < wy k (k ^ (r - 1)) F c G (n - (i + 1)) (i + 1) ((v * k + x) % k ^ (r - 1)) then fX7_first_b131 (fX7_first_w59 q) 20 (nI j) (nI r) (nI v) (nI i) (nI x) H else fX7_first_w71 (fX7_first_w59 q) q2 20 (nI j) (nI r) (nI v) (nI i) (nI (x + 1)) H := by
      intro q2 x hx
      have hwl : v * k + x < k ^ r := by rw [n4]; exact wlt hnd hx
      have hF := gF _ hwl
      have hmd : (v * k + x) % k ^ (r - 1) < k ^ (r - 1) := Nat.mod_lt _ n3
      have b1 := wy_le (k := k) (m := k ^ (r - 1)) (F := F) (c := c) hG (n - (i + 1)) (i + 1) ((v * k + x) % k ^ (r - 1))
      have b2 := pow_40 g2 (show n - (i + 1) ≤ 20 by omega)
      rw [fX7_first_w71]
      simp only []
      rw [o_4 K0]
      simp only [Option.bind_some]
      rw [aI_of K2 hj (by decide), s1]
      simp only [Option.bind_some]
      rw [oo K0, pk_mul, nI_add, Nat.mul_comm k, mtells (F := F) K0 K4 g hj s3 hwl, call_ok, o_1 K0]
      simp only [Option.bind_some]
      rw [aI_of K1 (by omega) (by decide), c1]
      simp only [Option.bind_some]
      rw [if_eqI (by omega) (by omega)]
      unfold fX7_first_b125
      by_cases z : F (v * k + x) = c i
      · rw [if_pos z, o_11 K0]
        simp only [Option.bind_some]
        rw [oo K0, then_m g K0 K2 K3 hj s1 s2 (by omega) (by omega), call_ok, nI_p1 i, show (9 : Int32) = nI 9 from rfl, pk_mul, nI_add, Nat.mul_comm 9, aL_of (by decide) K28 (by omega) (by decide), hw (i + 1) _ (by omega) hmd]
        simp only [Option.bind_some]
        by_cases z2 : wy k (k ^ (r - 1)) F c G (n - (i + 1)) (i + 1) ((v * k + x) % k ^ (r - 1)) = 0
        · rw [if_pos ((lN_eq0 (by omega)).mpr z2), if_neg (fun y => by omega), nI_p1]
        · rw [if_neg (fun y => z2 ((lN_eq0 (by omega)).mp y)), if_pos ⟨z, by omega⟩]
      · rw [if_neg z, if_neg (fun y => z y.1), nI_p1]
    have srch := scan_at (fun q2 x => fX7_first_w71 (fX7_first_w59 q) q2 20 (nI j) (nI r) (nI v) (nI i) (nI x) H) k (fun x => F (v * k + x) = c i ∧ 0 < wy k (k ^ (r - 1)) F c G (n - (i + 1)) (i + 1) ((v * k + x) % k ^ (r - 1))) (fun x => fX7_first_b131 (fX7_first_w59 q) 20 (nI j) (nI r) (nI v) (nI i) (nI x) H) (fun q2 x hx hb => by rw [step q2 x hx, if_neg hb]) (fun q2 x hx hb => by rw [step q2 x hx, if_pos hb]) 0 FUEL (fcN k (k ^ (r - 1)) F c G n i v) (by omega) x1 x2 (fun x _ hx => x3 x hx) (fuel_big (by omega))
    refine Eq.trans srch ?_
    unfold fX7_first_b131
    subst hH
    rw [o_9 K0]
    simp only [Option.bind_some]
    rw [i_sub1 g3, nI_add, sI_of (by decide) (E6 _) (by omega) (by decide), x_nar0]
    simp only [Option.bind_some]
    rw [List.set_set, oo (E0 _), then_m g (E0 _) (E2 _) (E3 _) hj s1 s2 (by omega) (by omega), call_ok, ← hns, nI_p1, ← hfr, fillN_s (f := fun j => nI (frN k r F c G n v0 j))]
    rfl) (fun q => by
    rw [fX7_first_w59]
    simp only []
    rw [o_3 (E0 _)]
    simp only [Option.bind_some]
    rw [if_leI (by omega) (by omega), if_pos (Nat.le_refl _)]) 0 FUEL (by omega) (fuel_big (by omega))
  rw [l0]
  exact key
end MW

section SM
variable {h : Hp} {a k r : Nat} {F : Nat → Nat}
def whN (k r : Nat) : Nat := 2 ^ k ^ (r - 1) - 1
theorem whN_lt (k r : Nat) : whN k r < 2 ^ k ^ (r - 1) := by
  have := Nat.two_pow_pos (k ^ (r - 1))
  unfold whN
  omega
theorem missesSome_ok (g : GR k r F) (ha : 44 ≤ a) (R : RuleAt h a (a + 1) k r F) {w : Int32} {f14 f15 f16 f17 : Nat → Int32} (e : h[13]? = some (so w)) (e14 : h[14]? = some (aC 0 512 f14)) (e15 : h[15]? = some (aC 0 512 f15)) (e16 : h[16]? = some (aC 0 512 f16)) (e17 : h[17]? = some (aC 0 27 f17)) : ∃ rf H s, DS ((h.set 17 (aC 0 27 rf)).set 13 (so (nI (whN k r)))) H ∧ SJ (bst (fo k (k ^ (r - 1)) F) k (whN k r) s) H ∧ ((fX2_missesSome h 13 a = some (1, H) ∧ 0 ∈ stsL (bst (fo k (k ^ (r - 1)) F) k (whN k r) s)) ∨ (fX2_missesSome h 13 a = some (0, H) ∧ Clo (fo k (k ^ (r - 1)) F) k (whN k r) s ∧ (bst (fo k (k ^ (r - 1)) F) k (whN k r) s).length * k ≤ s ∧ ¬ 0 ∈ stsL (bst (fo k (k ^ (r - 1)) F) k (whN k r) s))) := by
  obtain ⟨n1, n2, n3, n4, n5⟩ := g.nums
  obtain ⟨g1, g2, g3, g4, gF⟩ := id g
  have hP := pow9 n2
  have hwl := whN_lt k r
  have hw0 : 0 < whN k r := by
    have : 2 ^ 1 ≤ 2 ^ k ^ (r - 1) := Nat.pow_le_pow_right (by decide) n3
    unfold whN
    omega
  obtain ⟨rf, l1', l2'⟩ := learn_ok g ha R e e17
  refine ⟨rf, ?_⟩
  unfold fX2_missesSome
  rw [sok e, l1']
  simp only [Option.bind_some]
  rw [rn (R.set (by omega) (by omega))]
  simp only [Option.bind_some]
  rw [nI_wh _ (by omega), sp4 (st_n' (by decide) e)]
  simp only [Option.bind_some]
  rw [show nI (2 ^ k ^ (r - 1) - 1) = nI (whN k r) from rfl]
  generalize hB : (h.set 17 (aC 0 27 rf)).set 13 (so (nI (whN k r))) = h1
  have b13 : h1[13]? = some (so (nI (whN k r))) := by rw [← hB]; exact st_s (st_n' (by decide) e)
  have b14 : h1[14]? = some (aC 0 512 f14) := by rw [← hB]; exact st_n' (by decide) (st_n' (by decide) e14)
  have b15 : h1[15]? = some (aC 0 512 f15) := by rw [← hB]; exact st_n' (by decide) (st_n' (by decide) e15)
  have b16 : h1[16]? = some (aC 0 512 f16) := by rw [← hB]; exact st_n' (by decide) (st_n' (by decide) e16)
  have b17 : h1[17]? = some (aC 0 27 rf) := by rw [← hB]; exact st_n' (by decide) (st_s e17)
  have bR : RuleAt h1 a (a + 1) k r F := by rw [← hB]; exact (R.set (by omega) (by omega)).set (by omega) (by omega)
  rw [s1' b13]
  simp only [Option.bind_some]
  rw [fill_ok (by decide) (by decide) b15]
  simp only [Option.bind_some]
  rw [s0' (st_n' (by decide) b13)]
  simp only [Option.bind_some]
  rw [s4' (st_n' (by decide) b13)]
  simp only [Option.bind_some]
  rw [l0, sI_of (by decide) (st_n' (by decide) b14) (by decide) (by decide), x_nar0]
  simp only [Option.bind_some]
  rw [s1' (st_n' (by decide) (st_n' (by decide) b13))]
  simp only [Option.bind_some]
  rw [s4' (st_n' (by decide) (st_n' (by decide) b13))]
  simp only [Option.bind_some]
  rw [sI_of (by decide) (st_n' (by decide) (st_s b15)) (by omega) (by decide), x_nar0]
  simp only [Option.bind_some]
  generalize hH : ((h1.set 15 (aC 0 512 (fillN (fun _ => -1) 512 f15))).set 14 (aC 0 512 (upd f14 0 (nI (whN k r))))).set 15 (aC 0 512 (upd (fillN (fun _ => -1) 512 f15) (whN k r) (nI (whN k r)))) = H0
  have D0 : DS h1 H0 := by
    rw [← hH]
    exact ⟨by simp, fun i i1 i2 i3 => by rw [st_n (Ne.symm i2), st_n (Ne.symm i1), st_n (Ne.symm i2)]⟩
  have J0 : SJ (bst (fo k (k ^ (r - 1)) F) k (whN k r) 0) H0 := by
    rw [← hH]
    refine ⟨_, _, f16, st_n' (by decide) (st_s (st_n' (by decide) b14)), st_s (st_n' (by decide) (st_s b15)), st_n' (by decide) (st_n' (by decide) (st_n' (by decide) b16)), fun j e' he' => ?_, fun x hx hn => ?_⟩
    · have hl := (List.getElem?_eq_some_iff.mp he').1
      simp only [bst, List.length_cons, List.length_nil] at hl
      have hj : j = 0 := by omega
      subst hj
      have he2 : ((whN k r, 0, 0) : En) = e' := Option.some.inj he'
      subst he2
      exact ⟨upd_self, ⟨(whN k r, 0, 0), rfl, upd_self⟩, fun z => absurd z (by decide)⟩
    · have hxw : x ≠ whN k r := fun z => hn (by simp [bst, stsL, z])
      rw [upd_ne hxw]
      simp [fillN, hx]
  have C0 : Clo (fo k (k ^ (r - 1)) F) k (whN k r) 0 := fun _ _ _ _ z => absurd z (Nat.not_lt_zero _)
  have N0' : ¬ 0 ∈ stsL (bst (fo k (k ^ (r - 1)) F) k (whN k r) 0) := by
    simp only [bst, stsL, List.map_cons, List.map_nil, List.mem_singleton]
    omega
  have hfl : ∀ S c, fo k (k ^ (r - 1)) F S c < 2 ^ k ^ (r - 1) := fun S c => fo_lt (by omega)
  have hlen : ∀ s, (bst (fo k (k ^ (r - 1)) F) k (whN k r) s).length ≤ 512 := fun s => Nat.le_trans ((bst_ok (show 0 < k by omega) s).len hfl hwl) hP
  have hcf : ∀ s H, SJ (bst (fo k (k ^ (r - 1)) F) k (whN k r) s) H → ∃ v, aI H 15 0 (nI 0) = some v ∧ ((0 ∈ stsL (bst (fo k (k ^ (r - 1)) F) k (whN k r) s) ∧ v ≠ -1) ∨ (¬ 0 ∈ stsL (bst (fo k (k ^ (r - 1)) F) k (whN k r) s) ∧ v = -1)) := by
    rintro s H ⟨qf, cf, bf, y14, y15, y16, J1, J2⟩
    refine ⟨cf 0, aI_of y15 (by decide) (by decide), ?_⟩
    by_cases q : 0 ∈ stsL (bst (fo k (k ^ (r - 1)) F) k (whN k r) s)
    · left
      refine ⟨q, ?_⟩
      obtain ⟨j, e2, y1, y2⟩ := stsL_get.mp q
      obtain ⟨-, ⟨e3, y3, y4⟩, -⟩ := J1 j e2 y1
      rw [y2] at y4
      rw [y4]
      have := (bst_ok (show 0 < k by omega) s).lt hfl hwl y3
      exact fun z => nI_nm1 (by omega) z
    · right
      exact ⟨q, J2 0 (by decide) q⟩
  have key := uptoX (fun n hd H => fX2_missesSome_w56 n 13 a (nI (bst (fo k (k ^ (r - 1)) F) k (whN k r) (hd * k)).length) (nI hd) H) 512 (fun hd H => DS h1 H ∧ SJ (bst (fo k (k ^ (r - 1)) F) k (whN k r) (hd * k)) H ∧ Clo (fo k (k ^ (r - 1)) F) k (whN k r) (hd * k) ∧ ¬ 0 ∈ stsL (bst (fo k (k ^ (r - 1)) F) k (whN k r) (hd * k))) (fun _ rr => ∃ H s, DS h1 H ∧ SJ (bst (fo k (k ^ (r - 1)) F) k (whN k r) s) H ∧ ((rr = some (1, H) ∧ 0 ∈ stsL (bst (fo k (k ^ (r - 1)) F) k (whN k r) s)) ∨ (rr = some (0, H) ∧ Clo (fo k (k ^ (r - 1)) F) k (whN k r) s ∧ (bst (fo k (k ^ (r - 1)) F) k (whN k r) s).length * k ≤ s ∧ ¬ 0 ∈ stsL (bst (fo k (k ^ (r - 1)) F) k (whN k r) s)))) (by
    rintro n hd H hhd ⟨D, J, C, N⟩
    have hl := hlen (hd * k)
    by_cases q1 : (bst (fo k (k ^ (r - 1)) F) k (whN k r) (hd * k)).length ≤ hd
    · right
      refine ⟨_, rfl, H, hd * k, D, J, Or.inr ⟨?_, C, Nat.mul_le_mul_right k q1, N⟩⟩
      rw [fX2_missesSome_w56]
      simp only []
      rw [if_leI (by omega) (by omega), if_pos q1, retZ0]
    · have hst : fX2_missesSome_w56 (n + 1) 13 a (nI (bst (fo k (k ^ (r - 1)) F) k (whN k r) (hd * k)).length) (nI hd) H = fX2_missesSome_w71 (fX2_missesSome_w56 n) FUEL 13 a (nI (bst (fo k (k ^ (r - 1)) F) k (whN k r) (hd * k + 0)).length) (nI hd) (nI 0) H := by
        rw [fX2_missesSome_w56]
        simp only []
        rw [if_leI (by omega) (by omega), if_neg q1, show (512 : Int32) = nI 512 from rfl, if_leI (by omega) (by omega), if_neg (by omega)]
        rfl
      have inn := uptoI (fun q c H => fX2_missesSome_w71 (fX2_missesSome_w56 n) q 13 a (nI (bst (fo k (k ^ (r - 1)) F) k (whN k r) (hd * k + c)).length) (nI hd) (nI c) H) k (fun c H => DS h1 H ∧ SJ (bst (fo k (k ^ (r - 1)) F) k (whN k r) (hd * k + c)) H ∧ Clo (fo k (k ^ (r - 1)) F) k (whN k r) (hd * k + c) ∧ hd < (bst (fo k (k ^ (r - 1)) F) k (whN k r) (hd * k + c)).length) (by
        rintro q c H' hc ⟨D', J', C', L'⟩
        obtain ⟨H2, y1, y2, y3⟩ := set_step g ha bR b13 b17 l2' (W56 := fX2_missesSome_w56 n) (n := q) hwl D' hc L' J'
        have hs1 : (hd * k + c) / k = hd := by rw [Nat.mul_comm, Nat.mul_add_div (by omega), Nat.div_eq_of_lt hc]; omega
        refine ⟨H2, y1, y2, y3, ?_, ?_⟩
        · rw [← Nat.add_assoc]
          exact C'.step (by omega) (by rw [hs1]; exact L')
        · rw [← Nat.add_assoc]
          obtain ⟨X, hX⟩ := bst_more (f := fo k (k ^ (r - 1)) F) (k := k) (wh := whN k r) (hd * k + c)
          rw [hX, List.length_append]
          omega) 0 FUEL H (by omega) (fuel_big (by omega)) ⟨D, J, C, by rw [Nat.add_zero]; omega⟩
      obtain ⟨fu, H2, y1, D2, J2, C2, L2⟩ := inn
      have hkk : hd * k + k = (hd + 1) * k := by rw [Nat.succ_mul]
      rw [hkk] at J2 C2 L2
      have f13 : H2[13]? = some (so (nI (whN k r))) := (D2.2 13 (by decide) (by decide) (by decide)).trans b13
      obtain ⟨v, v1, v2⟩ := hcf _ _ J2
      have hend : fX2_missesSome_w56 (n + 1) 13 a (nI (bst (fo k (k ^ (r - 1)) F) k (whN k r) (hd * k)).length) (nI hd) H = if v = -1 then fX2_missesSome_w56 n 13 a (nI (bst (fo k (k ^ (r - 1)) F) k (whN k r) ((hd + 1) * k)).length) (nI (hd + 1)) H2 else some (1, H2) := by
        rw [hst]
        refine Eq.trans y1 ?_
        rw [fX2_missesSome_w71]
        simp only []
        rw [rk (D2.rule ha bR)]
        simp only [Option.bind_some]
        rw [if_leI (by omega) (by omega), if_pos (Nat.le_refl _)]
        unfold fX2_missesSome_b165
        rw [s1' f13]
        simp only [Option.bind_some]
        rw [show (0 : Int32) = nI 0 from rfl, v1]
        simp only [Option.bind_some]
        rw [hkk, nI_p1]
        rfl
      rcases v2 with ⟨v3, v4⟩ | ⟨v3, v4⟩
      · right
        refine ⟨_, rfl, H2, _, D2, J2, Or.inl ⟨?_, v3⟩⟩
        rw [hend, if_neg v4]
      · left
        refine ⟨H2, ?_, D2, J2, C2, v3⟩
        rw [hend, if_pos v4]) 0 FUEL H0 (by omega) (fuel_big (by omega)) (by rw [Nat.zero_mul]; exact ⟨D0, J0, C0, N0'⟩)
  rw [Nat.zero_mul] at key
  rcases key with ⟨fu, H, k1, D, J, C, N⟩ | ⟨i', rr, k1, H, s, D, J, k2⟩
  · have hl := hlen (512 * k)
    refine ⟨H, 512 * k, D, J, Or.inr ⟨?_, C, Nat.mul_le_mul_right k hl, N⟩⟩
    refine Eq.trans k1 ?_
    rw [fX2_missesSome_w56]
    simp only []
    rw [if_leI (by omega) (by omega), if_pos hl, retZ0]
    rfl
  · refine ⟨H, s, D, J, ?_⟩
    rcases k2 with ⟨k2, k3⟩ | ⟨k2, k3⟩
    · exact Or.inl ⟨k1.trans k2, k3⟩
    · exact Or.inr ⟨k1.trans k2, k3⟩
end SM

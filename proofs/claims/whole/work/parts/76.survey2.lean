section SP
variable {h H : Hp} {su ru : Nat} {n x0 x1 x2 x3 x4 : Int32} {nf bf qf hf : Nat → Int32} {M : Nat} {nx : Nat → Nat}
/-- the queue's row holds a list -/
def QL (L : List Nat) (qf : Nat → Int32) : Prop := ∀ j x, L[j]? = some x → qf j = nI x
theorem QL.app {L : List Nat} {x : Nat} (q : QL L qf) : QL (L ++ [x]) (upd qf L.length (nI x)) := by
  intro j y h
  by_cases z : j < L.length
  · rw [List.getElem?_append_left z] at h
    rw [upd_ne (by omega)]
    exact q j y h
  · have hl := (List.getElem?_eq_some_iff.mp h).1
    rw [List.length_append, List.length_singleton] at hl
    have hj : j = L.length := by omega
    subst hj
    rw [List.getElem?_append_right (Nat.le_refl _), Nat.sub_self] at h
    rw [upd_self, Option.some.inj h]
theorem peel_ok (hsu : 44 ≤ su) (hM2 : M ≤ 4096) (hM : ∀ x, x < M → nx x < M) (Y : YS h su H ru n x0 x1 x2 x3 x4 nf bf qf hf) (hnf : ∀ x, x < M → nf x = nI (nx x)) (hbf : ∀ x, x < M → bf x = nI (inN M nx x)) : ∃ H' bf' qf' s, fX3_peel H su (nI M) = some (nI s, H') ∧ YS h su H' ru n (nI (lvs M nx M).length) x1 x2 x3 x4 nf bf' qf' hf ∧ PV M nx s ∧ (pls M nx s).2.length = s ∧ (∀ x, x < M → bf' x = nI ((pls M nx s).1 x)) ∧ QL (pls M nx s).2 qf' := by
  have hin : ∀ x, inN M nx x ≤ M := fun x => by
    have := sm_le (f := fun y => if nx y = x then 1 else 0) (g := fun _ => 1) (n := M) (fun i _ => by show (if nx i = x then 1 else 0) ≤ 1; split <;> omega)
    rw [sm_const] at this
    unfold inN
    omega
  unfold fX3_peel
  have key := uptoI (fun q i H => fX3_peel_w4 q su (nI M) (nI (lvs M nx i).length) (nI i) H) M (fun i H => ∃ qf', YS h su H ru n x0 x1 x2 x3 x4 nf bf qf' hf ∧ QL (lvs M nx i) qf') (by
    rintro q i H hi ⟨qf', Y, hq⟩
    have hl := lvs_len (M := M) (nx := nx) i
    have hst : fX3_peel_w4 (q + 1) su (nI M) (nI (lvs M nx i).length) (nI i) H = if inN M nx i = 0 then fX3_peel_w4 q su (nI M) (nI ((lvs M nx i).length + 1)) (nI (i + 1)) (H.set (su + 3) (aC 0 4096 (upd qf' (lvs M nx i).length (nI i)))) else fX3_peel_w4 q su (nI M) (nI (lvs M nx i).length) (nI (i + 1)) H := by
      rw [fX3_peel_w4]
      simp only []
      rw [if_leI (by omega) (by omega), if_neg (by omega), Y.g1 (by omega)]
      simp only [Option.bind_some]
      rw [aI_of Y.2.2.2.1 (by omega) (by decide), hbf i hi]
      simp only [Option.bind_some]
      have h1 := hin i
      rw [show (0 : Int32) = nI 0 from rfl, if_eqI (by omega) (by omega)]
      unfold fX3_peel_b28
      rw [Y.g2 (by omega)]
      simp only [Option.bind_some]
      rw [sI_of (by omega) Y.2.2.2.2.1 (by omega) (by decide), x_nar0]
      simp only [Option.bind_some]
      rw [nI_p1, nI_p1]
    by_cases q1 : inN M nx i = 0
    · refine ⟨H.set (su + 3) (aC 0 4096 (upd qf' (lvs M nx i).length (nI i))), ?_, _, Y.s3, ?_⟩
      · show fX3_peel_w4 (q + 1) su (nI M) (nI (lvs M nx i).length) (nI i) H = _
        rw [hst, if_pos q1, lvs, if_pos q1, List.length_append, List.length_singleton]
      · rw [lvs, if_pos q1]; exact hq.app
    · refine ⟨H, ?_, qf', Y, ?_⟩
      · show fX3_peel_w4 (q + 1) su (nI M) (nI (lvs M nx i).length) (nI i) H = _
        rw [hst, if_neg q1, lvs, if_neg q1]
      · rw [lvs, if_neg q1]; exact hq) 0 FUEL H (by omega) (fuel_big (by omega)) ⟨qf, Y, fun j x h => by simp [lvs] at h⟩
  obtain ⟨fu, H1, k1, qf1, Y1, k2⟩ := key
  have hl := lvs_len (M := M) (nx := nx) M
  have hst1 : fX3_peel_w4 FUEL su (nI M) (0 : Int32) (0 : Int32) H = fX3_peel_w41 FUEL su (nI M) (nI (pls M nx 0).2.length) (nI 0) (H1.set su (sob su ru n (nI (lvs M nx M).length) x1 x2 x3 x4)) := by
    refine Eq.trans (show fX3_peel_w4 FUEL su (nI M) (nI (lvs M nx 0).length) (nI 0) H = _ from k1) ?_
    rw [fX3_peel_w4]
    simp only []
    rw [if_leI (by omega) (by omega), if_pos (Nat.le_refl _)]
    unfold fX3_peel_b34
    rw [pF_of (k := 8) (by omega) Y1.2.1 (by simp)]
    rfl
  rw [hst1]
  have Y2 := Y1.ob (ru' := ru) (n' := n) (y0 := nI (lvs M nx M).length) (y1 := x1) (y2 := x2) (y3 := x3) (y4 := x4)
  have key2 := uptoX (fun q s H => fX3_peel_w41 q su (nI M) (nI (pls M nx s).2.length) (nI s) H) M (fun s H => ∃ bf' qf', YS h su H ru n (nI (lvs M nx M).length) x1 x2 x3 x4 nf bf' qf' hf ∧ PV M nx s ∧ (∀ x, x < M → bf' x = nI ((pls M nx s).1 x)) ∧ QL (pls M nx s).2 qf') (fun _ rr => ∃ H' bf' qf' s, rr = some (nI s, H') ∧ YS h su H' ru n (nI (lvs M nx M).length) x1 x2 x3 x4 nf bf' qf' hf ∧ PV M nx s ∧ (pls M nx s).2.length = s ∧ (∀ x, x < M → bf' x = nI ((pls M nx s).1 x)) ∧ QL (pls M nx s).2 qf') (by
    rintro q s H hs ⟨bf', qf', Y, pv, hb, hq⟩
    have hle := pv.le
    have hsl := pv.1
    by_cases q1 : (pls M nx s).2.length ≤ s
    · right
      have hse : (pls M nx s).2.length = s := by omega
      refine ⟨_, rfl, H, bf', qf', s, ?_, Y, pv, hse, hb, hq⟩
      rw [fX3_peel_w41]
      simp only []
      rw [if_leI (by omega) (by omega), if_pos q1, hse]
    · left
      obtain ⟨x, hx⟩ : ∃ x, (pls M nx s).2[s]? = some x := ⟨_, List.getElem?_eq_getElem (by omega)⟩
      have hxM : x < M := pv.2.2.1 x (List.mem_of_getElem? hx)
      have hto := hM x hxM
      have hpos := pv.pos hx
      have hbi : (pls M nx s).1 (nx x) ≤ M := by
        have := pv.2.2.2.1 (nx x)
        have := hin (nx x)
        omega
      have pv' := pv.st hM hx
      have hle' := pv'.le
      have hpl := pls_in hx
      have Y3 := Y.s2 (f := upd bf' (nx x) (nI ((pls M nx s).1 (nx x) - 1)))
      have hb3 : ∀ z, z < M → upd bf' (nx x) (nI ((pls M nx s).1 (nx x) - 1)) z = nI ((pls M nx (s + 1)).1 z) := by
        intro z hz
        rw [hpl]
        show _ = nI (updN (pls M nx s).1 (nx x) ((pls M nx s).1 (nx x) - 1) z)
        by_cases q2 : z = nx x
        · rw [q2, upd_self, updN_self]
        · rw [upd_ne q2, updN_ne q2, hb z hz]
      have hst : fX3_peel_w41 (q + 1) su (nI M) (nI (pls M nx s).2.length) (nI s) H = if (pls M nx s).1 (nx x) - 1 = 0 then (if M ≤ (pls M nx s).2.length then fX3_peel_w41 q su (nI M) (nI (pls M nx s).2.length) (nI (s + 1)) (H.set (su + 2) (aC 0 4096 (upd bf' (nx x) (nI ((pls M nx s).1 (nx x) - 1))))) else ((sI (H.set (su + 2) (aC 0 4096 (upd bf' (nx x) (nI ((pls M nx s).1 (nx x) - 1))))) (su + 3) 0 (nI (pls M nx s).2.length) (nI (nx x))).bind fun h11 => fX3_peel_w41 q su (nI M) (nI ((pls M nx s).2.length + 1)) (nI (s + 1)) h11)) else fX3_peel_w41 q su (nI M) (nI (pls M nx s).2.length) (nI (s + 1)) (H.set (su + 2) (aC 0 4096 (upd bf' (nx x) (nI ((pls M nx s).1 (nx x) - 1))))) := by
        rw [fX3_peel_w41]
        simp only []
        rw [if_leI (by omega) (by omega), if_neg q1, if_leI (by omega) (by omega), if_neg (by omega), Y.g0 (by omega)]
        simp only [Option.bind_some]
        rw [Y.g2 (by omega)]
        simp only [Option.bind_some]
        rw [aI_of Y.2.2.2.2.1 (by omega) (by decide), hq s x hx]
        simp only [Option.bind_some]
        rw [aI_of Y.2.2.1 (by omega) (by decide), hnf x hxM]
        simp only [Option.bind_some]
        rw [Y.g1 (by omega)]
        simp only [Option.bind_some]
        rw [aI_of Y.2.2.2.1 (by omega) (by decide), hb _ hto]
        simp only [Option.bind_some]
        rw [i_sub1 hpos, sI_of (by omega) Y.2.2.2.1 (by omega) (by decide), x_nar0]
        simp only [Option.bind_some]
        rw [Y3.g1 (by omega)]
        simp only [Option.bind_some]
        rw [aI_of Y3.2.2.2.1 (by omega) (by decide), upd_self]
        simp only [Option.bind_some]
        rw [show (0 : Int32) = nI 0 from rfl, if_eqI (by omega) (by omega), if_leI (by omega) (by omega), Y3.g2 (by omega)]
        simp only [Option.bind_some]
        unfold fX3_peel_b101
        rw [nI_p1, nI_p1]
      by_cases q0 : (pls M nx s).1 (nx x) - 1 = 0
      · have e2 : (pls M nx (s + 1)).2 = (pls M nx s).2 ++ [nx x] := by rw [hpl]; exact if_pos q0
        rw [e2, List.length_append, List.length_singleton] at hle'
        refine ⟨(H.set (su + 2) (aC 0 4096 (upd bf' (nx x) (nI ((pls M nx s).1 (nx x) - 1))))).set (su + 3) (aC 0 4096 (upd qf' (pls M nx s).2.length (nI (nx x)))), ?_, _, _, Y3.s3, pv', hb3, ?_⟩
        · show fX3_peel_w41 (q + 1) su (nI M) (nI (pls M nx s).2.length) (nI s) H = _
          rw [hst, if_pos q0, if_neg (by omega), sI_of (by omega) Y3.2.2.2.2.1 (by omega) (by decide), x_nar0, e2, List.length_append, List.length_singleton]
          rfl
        · rw [e2]; exact hq.app
      · have e2 : (pls M nx (s + 1)).2 = (pls M nx s).2 := by rw [hpl]; exact if_neg q0
        refine ⟨_, ?_, _, _, Y3, pv', hb3, ?_⟩
        · show fX3_peel_w41 (q + 1) su (nI M) (nI (pls M nx s).2.length) (nI s) H = _
          rw [hst, if_neg q0, e2]
        · rw [e2]; exact hq) 0 FUEL (H1.set su (sob su ru n (nI (lvs M nx M).length) x1 x2 x3 x4)) (by omega) (fuel_big (by omega)) ⟨bf, qf1, Y2, PV.z hM, hbf, k2⟩
  rcases key2 with ⟨fu2, H', z1, bf', qf', Y', pv, hb, hq⟩ | ⟨i', rr, z1, H', bf', qf', s, z2, z3⟩
  · have hle := pv.le
    have hsl := pv.1
    refine ⟨H', bf', qf', M, ?_, Y', pv, by omega, hb, hq⟩
    refine Eq.trans z1 ?_
    rw [fX3_peel_w41]
    simp only []
    rw [if_leI (by omega) (by omega), if_pos hle, show (pls M nx M).2.length = M by omega]
  · exact ⟨H', bf', qf', s, z1.trans z2, z3⟩
end SP

section SG
variable {h H : Hp} {su ru : Nat} {n x0 x1 x2 x3 x4 : Int32} {nf bf qf hf : Nat → Int32} {M : Nat} {nx : Nat → Nat}
theorem YS.p9 (Y : YS h su H ru n x0 x1 x2 x3 x4 nf bf qf hf) (h4 : 4 ≤ su) {z : Int32} : pF H su 3 9 (vI z) = some (H.set su (sob su ru n x0 z x2 x3 x4)) := pF_of h4 Y.2.1 (by simp)
theorem YS.p10 (Y : YS h su H ru n x0 x1 x2 x3 x4 nf bf qf hf) (h4 : 4 ≤ su) {z : Int32} : pF H su 3 10 (vI z) = some (H.set su (sob su ru n x0 x1 z x3 x4)) := pF_of h4 Y.2.1 (by simp)
theorem YS.p11 (Y : YS h su H ru n x0 x1 x2 x3 x4 nf bf qf hf) (h4 : 4 ≤ su) {z : Int32} : pF H su 3 11 (vI z) = some (H.set su (sob su ru n x0 x1 x2 z x4)) := pF_of h4 Y.2.1 (by simp)
theorem YS.p12 (Y : YS h su H ru n x0 x1 x2 x3 x4 nf bf qf hf) (h4 : 4 ≤ su) {z : Int32} : pF H su 3 12 (vI z) = some (H.set su (sob su ru n x0 x1 x2 x3 z)) := pF_of h4 Y.2.1 (by simp)
/-- the marked rings, as the class holds them -/
def GB (M : Nat) (S0 S : Nat → Bool) (bf hf : Nat → Int32) : Prop := ∀ x, x < M → (S x = true → (∃ v, 0 < v ∧ v < 5000 ∧ bf x = nI v) ∧ S0 x = true) ∧ (S x = false → bf x = nI 0 ∧ (S0 x = true → hf x = nI 0))
theorem walk_ok (hsu : 44 ≤ su) (hM2 : M ≤ 4096) (hM : ∀ x, x < M → nx x < M) (hnf : ∀ x, x < M → nf x = nI (nx x)) {S0 : Nat → Bool} {W : Nat → Int32 → Int32 → Hp → Option Hp} {i : Nat} : ∀ (q fuel l z : Nat) (S : Nat → Bool) (H : Hp) (bf hf : Nat → Int32), q + l = M → q < fuel → z < M → YS h su H ru n x0 x1 x2 x3 x4 nf bf qf hf → GB M S0 S bf hf → ∃ H' bf' hf', fX3_goRound_w25 W fuel su (nI M) (nI i) (nI l) (nI z) (nI l) H = fX3_goRound_b75 W su (nI M) (nI i) (nI (wkS nx q S z l).2) H' ∧ YS h su H' ru n x0 x1 x2 x3 x4 nf bf' qf hf' ∧ GB M S0 (wkS nx q S z l).1 bf' hf' := by
  intro q
  induction q with
  | zero =>
    intro fuel l z S H bf hf hq hf' hz Y G
    obtain ⟨fu, rfl⟩ : ∃ fu, fuel = fu + 1 := ⟨fuel - 1, by omega⟩
    refine ⟨H, bf, hf, ?_, Y, G⟩
    rw [fX3_goRound_w25]
    simp only []
    rw [if_leI (by omega) (by omega), if_pos (by omega)]
    rfl
  | succ q ih =>
    intro fuel l z S H bf hf hq hf' hz Y G
    obtain ⟨fu, rfl⟩ : ∃ fu, fuel = fu + 1 := ⟨fuel - 1, by omega⟩
    rw [fX3_goRound_w25]
    simp only []
    rw [if_leI (by omega) (by omega), if_neg (by omega), Y.g1 (by omega)]
    simp only [Option.bind_some]
    rw [aI_of Y.2.2.2.1 (by omega) (by decide)]
    simp only [Option.bind_some]
    by_cases q1 : S z = true
    · obtain ⟨⟨v, v1, v2, v3⟩, v4⟩ := (G z hz).1 q1
      have e1 : wkS nx (q + 1) S z l = wkS nx q (updB S z false) (nx z) (l + 1) := by rw [wkS, if_pos q1]
      rw [e1, v3, show (0 : Int32) = nI 0 from rfl, if_leI (by omega) (by omega), if_neg (by omega), sI_of (by omega) Y.2.2.2.1 (by omega) (by decide), x_nar0]
      simp only [Option.bind_some]
      have Y1 := Y.s2 (f := upd bf z (nI 0))
      rw [Y1.g3 (by omega)]
      simp only [Option.bind_some]
      rw [sI_of (by omega) Y1.2.2.2.2.2.1 (by omega) (by decide), x_nar0]
      simp only [Option.bind_some]
      have Y2 := Y1.s4 (f := upd hf z (nI 0))
      rw [Y2.g0 (by omega)]
      simp only [Option.bind_some]
      rw [aI_of Y2.2.2.1 (by omega) (by decide), hnf z hz]
      simp only [Option.bind_some]
      rw [nI_p1]
      refine ih fu (l + 1) (nx z) (updB S z false) _ _ _ (by omega) (by omega) (hM z hz) Y2 (fun x hx => ?_)
      by_cases q2 : x = z
      · subst q2
        refine ⟨(fun w => by unfold updB at w; rw [if_pos rfl] at w; exact absurd w (by decide)), fun _ => ⟨upd_self, fun _ => upd_self⟩⟩
      · have e2 : updB S z false x = S x := if_neg q2
        rw [e2, upd_ne q2, upd_ne q2]
        exact G x hx
    · have q2 : S z = false := Bool.eq_false_iff.mpr q1
      have e1 : wkS nx (q + 1) S z l = (S, l) := by rw [wkS, if_neg q1]
      rw [e1, ((G z hz).2 q2).1, if_pos (by decide)]
      exact ⟨H, bf, hf, rfl, Y, G⟩
theorem goRound_ok (hsu : 44 ≤ su) (hM0 : 0 < M) (hM2 : M ≤ 4096) (hM : ∀ x, x < M → nx x < M) (hnf : ∀ x, x < M → nf x = nI (nx x)) {S0 : Nat → Bool} (Y : YS h su H ru n x0 x1 x2 x3 x4 nf bf qf hf) (G : GB M S0 S0 bf hf) : ∃ H' bf' hf', fX3_goRound H su (nI M) = some H' ∧ YS h su H' ru n x0 x1 (nI (grS M nx S0 M).2.1) x3 (nI (grS M nx S0 M).2.2) nf bf' qf hf' ∧ ∀ x, x < M → S0 x = true → hf' x = nI 0 := by
  unfold fX3_goRound
  rw [Y.p10 (by omega)]
  simp only [Option.bind_some]
  have Y1 := Y.ob (ru' := ru) (n' := n) (y0 := x0) (y1 := x1) (y2 := 0) (y3 := x3) (y4 := x4)
  rw [Y1.p12 (by omega)]
  simp only [Option.bind_some]
  have Y2 := Y1.ob (ru' := ru) (n' := n) (y0 := x0) (y1 := x1) (y2 := 0) (y3 := x3) (y4 := 0)
  have key := uptoI (fun q i H => fX3_goRound_w12 q su (nI M) (nI i) H) M (fun i H => ∃ bf' hf', YS h su H ru n x0 x1 (nI (grS M nx S0 i).2.1) x3 (nI (grS M nx S0 i).2.2) nf bf' qf hf' ∧ GB M S0 (grS M nx S0 i).1 bf' hf') (by
    rintro q i H hi ⟨bf', hf', Y, G⟩
    obtain ⟨H1, bf1, hf1, w1, w2, w3⟩ := walk_ok hsu hM2 hM hnf (W := fX3_goRound_w12 q) (i := i) M FUEL 0 i (grS M nx S0 i).1 H bf' hf' (by omega) (fuel_big (by omega)) hi Y G
    have hst : fX3_goRound_w12 (q + 1) su (nI M) (nI i) H = fX3_goRound_b75 (fX3_goRound_w12 q) su (nI M) (nI i) (nI (wkS nx M (grS M nx S0 i).1 i 0).2) H1 := by
      rw [fX3_goRound_w12]
      simp only []
      rw [if_leI (by omega) (by omega), if_neg (by omega)]
      exact w1
    have hl := wkS_len (nx := nx) M (grS M nx S0 i).1 i 0
    obtain ⟨b1, b2⟩ := grS_le (M := M) (nx := nx) (S0 := S0) i
    unfold fX3_goRound_b75 fX3_goRound_b101 at hst
    rw [show (0 : Int32) = nI 0 from rfl, if_leI (by omega) (by omega)] at hst
    by_cases q1 : (wkS nx M (grS M nx S0 i).1 i 0).2 = 0
    · rw [if_pos (by omega), nI_p1] at hst
      have e1 : (grS M nx S0 (i + 1)).2.1 = (grS M nx S0 i).2.1 := if_pos q1
      have e2 : (grS M nx S0 (i + 1)).2.2 = (grS M nx S0 i).2.2 := if_pos q1
      refine ⟨H1, hst, bf1, hf1, ?_, w3⟩
      rw [e1, e2]
      exact w2
    · have e1 : (grS M nx S0 (i + 1)).2.1 = (grS M nx S0 i).2.1 + 1 := if_neg q1
      have e2 : (grS M nx S0 (i + 1)).2.2 = max (grS M nx S0 i).2.2 (wkS nx M (grS M nx S0 i).1 i 0).2 := if_neg q1
      rw [if_neg (by omega), w2.g10 (by omega)] at hst
      simp only [Option.bind_some] at hst
      rw [nI_p1, w2.p10 (by omega)] at hst
      simp only [Option.bind_some] at hst
      have w4 := w2.ob (ru' := ru) (n' := n) (y0 := x0) (y1 := x1) (y2 := nI ((grS M nx S0 i).2.1 + 1)) (y3 := x3) (y4 := nI (grS M nx S0 i).2.2)
      rw [w4.g12 (by omega)] at hst
      simp only [Option.bind_some] at hst
      rw [iMax_nI (by omega) (by omega), w4.p12 (by omega)] at hst
      simp only [Option.bind_some] at hst
      rw [nI_p1] at hst
      refine ⟨_, hst, bf1, hf1, ?_, w3⟩
      rw [e1, e2]
      exact w4.ob) 0 FUEL _ (by omega) (fuel_big (by omega)) ⟨bf, hf, Y2, G⟩
  obtain ⟨fu, H', k1, bf', hf', k2, k3⟩ := key
  refine ⟨H', bf', hf', ?_, k2, fun x hx hs => ((k3 x hx).2 (grS_done hM0 M x hx)).2 hs⟩
  refine Eq.trans (show fX3_goRound_w12 FUEL su (nI M) (nI 0) _ = _ from k1) ?_
  rw [fX3_goRound_w12]
  simp only []
  rw [if_leI (by omega) (by omega), if_pos (Nat.le_refl _)]
theorem climb3_ok (hsu : 44 ≤ su) (hM2 : M ≤ 4096) (hM : ∀ x, x < M → nx x < M) (hnf : ∀ x, x < M → nf x = nI (nx x)) {s : Nat} (pv : PV M nx s) (hs : (pls M nx s).2.length = s) (Y : YS h su H ru n x0 x1 x2 x3 x4 nf bf qf hf) (hq : QL (pls M nx s).2 qf) (hh : ∀ x, x < M → ¬ x ∈ (pls M nx s).2 → hf x = nI 0) : ∃ H' hf', fX3_climb H su (nI s) = some H' ∧ YS h su H' ru n x0 x1 x2 (nI (hgS nx (pls M nx s).2).2) x4 nf bf qf hf' := by
  have hsM : s ≤ M := by have := pv.le; omega
  unfold fX3_climb
  rw [Y.p11 (by omega)]
  simp only [Option.bind_some, setv_ok]
  have key : ∀ (i fuel : Nat) (H : Hp) (hf : Nat → Int32), i ≤ s → i < fuel → YS h su H ru n x0 x1 x2 (nI (hgS nx ((pls M nx s).2.drop i)).2) x4 nf bf qf hf → (∀ x, x < M → (¬ x ∈ (pls M nx s).2 ∨ x ∈ (pls M nx s).2.drop i) → hf x = nI ((hgS nx ((pls M nx s).2.drop i)).1 x)) → ∃ H' hf', fX3_climb_w9 fuel su (nI i - 1) H = some H' ∧ YS h su H' ru n x0 x1 x2 (nI (hgS nx (pls M nx s).2).2) x4 nf bf qf hf' := by
    intro i
    induction i with
    | zero =>
      intro fuel H hf hi hfu Y hI
      obtain ⟨q, rfl⟩ : ∃ q, fuel = q + 1 := ⟨fuel - 1, by omega⟩
      refine ⟨H, hf, ?_, ?_⟩
      · rw [fX3_climb_w9]
        simp only []
        rw [if_pos (by decide)]
      · rw [List.drop_zero] at Y
        exact Y
    | succ i ih =>
      intro fuel H hf hi hfu Y hI
      obtain ⟨q, rfl⟩ : ∃ q, fuel = q + 1 := ⟨fuel - 1, by omega⟩
      obtain ⟨x, hx⟩ : ∃ x, (pls M nx s).2[i]? = some x := ⟨_, List.getElem?_eq_getElem (by omega)⟩
      have hxM : x < M := pv.2.2.1 x (List.mem_of_getElem? hx)
      have hd := drop_s hx
      have hto : hf (nx x) = nI ((hgS nx ((pls M nx s).2.drop (i + 1))).1 (nx x)) := by
        refine hI (nx x) (hM x hxM) ?_
        by_cases q1 : nx x ∈ (pls M nx s).2
        · right
          obtain ⟨j, hj⟩ := List.getElem?_of_mem q1
          have hij := pv.order hM (show i < s by omega) hx hj
          refine List.mem_of_getElem? (i := j - (i + 1)) ?_
          rw [List.getElem?_drop, show i + 1 + (j - (i + 1)) = j by omega, hj]
        · exact Or.inl q1
      have hle := hgS_le (nx := nx) ((pls M nx s).2.drop (i + 1)) (nx x)
      have hdl : ((pls M nx s).2.drop (i + 1)).length ≤ s := by rw [List.length_drop]; omega
      have e1 : (hgS nx ((pls M nx s).2.drop i)).1 = updN (hgS nx ((pls M nx s).2.drop (i + 1))).1 x ((hgS nx ((pls M nx s).2.drop (i + 1))).1 (nx x) + 1) := by rw [hd]; rfl
      have e2 : (hgS nx ((pls M nx s).2.drop i)).2 = max (hgS nx ((pls M nx s).2.drop (i + 1))).2 ((hgS nx ((pls M nx s).2.drop (i + 1))).1 (nx x) + 1) := by rw [hd]; rfl
      rw [fX3_climb_w9]
      simp only []
      rw [i_sub1 (by omega), Nat.add_sub_cancel, if_neg (nI_nn (by omega)), Y.g2 (by omega)]
      simp only [Option.bind_some]
      rw [aI_of Y.2.2.2.2.1 (by omega) (by decide), hq i x hx]
      simp only [Option.bind_some]
      rw [Y.g3 (by omega)]
      simp only [Option.bind_some]
      rw [Y.g0 (by omega)]
      simp only [Option.bind_some]
      rw [aI_of Y.2.2.1 (by omega) (by decide), hnf x hxM]
      simp only [Option.bind_some]
      have hnx := hM x hxM
      rw [aI_of Y.2.2.2.2.2.1 (by omega) (by decide), hto]
      simp only [Option.bind_some]
      rw [nI_p1, sI_of (by omega) Y.2.2.2.2.2.1 (by omega) (by decide), x_nar0]
      simp only [Option.bind_some]
      have Y1 := Y.s4 (f := upd hf x (nI ((hgS nx ((pls M nx s).2.drop (i + 1))).1 (nx x) + 1)))
      rw [Y1.g11 (by omega)]
      simp only [Option.bind_some]
      rw [Y1.g3 (by omega)]
      simp only [Option.bind_some]
      rw [aI_of Y1.2.2.2.2.2.1 (by omega) (by decide), upd_self]
      simp only [Option.bind_some]
      rw [iMax_nI (by omega) (by omega), ← e2, Y1.p11 (by omega)]
      simp only [Option.bind_some]
      rw [i_m1]
      refine ih q _ _ (by omega) (by omega) Y1.ob (fun y hy hc => ?_)
      rw [e1]
      by_cases q1 : y = x
      · rw [q1, upd_self, updN_self]
      · rw [upd_ne q1, updN_ne q1]
        refine hI y hy (hc.imp id fun z => ?_)
        rw [hd] at z
        exact (List.mem_cons.mp z).elim (fun w => absurd w q1) id
  have hd0 : (pls M nx s).2.drop s = [] := List.drop_eq_nil_of_le (by omega)
  refine key s FUEL _ hf (Nat.le_refl _) (fuel_big (by omega)) ?_ (fun x hx hc => ?_)
  · rw [hd0]
    exact Y.ob
  · rw [hd0] at hc ⊢
    exact hh x hx (hc.elim id (fun z => by simp at z))
end SG

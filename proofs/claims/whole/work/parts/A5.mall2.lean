section MAR
variable {h H : Hp} {thr tl' sz om rd' : Int32} {lf af hf mf : Nat → Int32} {M : Nat} {nx : Nat → Nat}
theorem hgS_in : ∀ (l : List Nat) (x : Nat), x ∈ l → 0 < (hgS nx l).1 x
  | [], x, h => by simp at h
  | y :: l, x, h => by
    show 0 < updN (hgS nx l).1 y ((hgS nx l).1 (nx y) + 1) x
    by_cases q : x = y
    · rw [q, updN_self]; omega
    · rw [updN_ne q]
      exact hgS_in l x ((List.mem_cons.mp h).elim (fun z => absurd z q) id)
/-- the heights, backward -/
theorem aclimb_m (e0 : h[20]? = some (mob thr tl' sz om rd')) {W : Int32} (hM2 : M ≤ 4096) (hM : ∀ x, x < M → nx x < M) (hlf : ∀ x, x < M → lf x = nI (nx x)) {s : Nat} (pv : PV M nx s) (hs : (pls M nx s).2.length = s) (Y : AS h H lf af hf mf) (hq : QL (pls M nx s).2 mf) (hh : ∀ x, x < M → hf x = nI 0) : ∃ H' hf', fX7_all_w405 FUEL 20 W (nI M) (nI 0) (nI s - 1) H = fX7_all_b483 20 W (nI M) (nI (hgS nx (pls M nx s).2).2) H' ∧ AS h H' lf af hf' mf ∧ ∀ x, x < M → hf' x = nI ((hgS nx (pls M nx s).2).1 x) := by
  have hsM : s ≤ M := by have := pv.le; omega
  have key : ∀ (i fuel : Nat) (H : Hp) (hf : Nat → Int32), i ≤ s → i < fuel → AS h H lf af hf mf → (∀ x, x < M → hf x = nI ((hgS nx ((pls M nx s).2.drop i)).1 x)) → ∃ H' hf', fX7_all_w405 fuel 20 W (nI M) (nI (hgS nx ((pls M nx s).2.drop i)).2) (nI i - 1) H = fX7_all_b483 20 W (nI M) (nI (hgS nx (pls M nx s).2).2) H' ∧ AS h H' lf af hf' mf ∧ ∀ x, x < M → hf' x = nI ((hgS nx (pls M nx s).2).1 x) := by
    intro i
    induction i with
    | zero =>
      intro fuel H hf hi hfu Y hI
      obtain ⟨q, rfl⟩ : ∃ q, fuel = q + 1 := ⟨fuel - 1, by omega⟩
      rw [List.drop_zero] at hI ⊢
      refine ⟨H, hf, ?_, Y, hI⟩
      rw [fX7_all_w405]
      simp only []
      rw [if_pos (by decide)]
    | succ i ih =>
      intro fuel H hf hi hfu Y hI
      obtain ⟨q, rfl⟩ : ∃ q, fuel = q + 1 := ⟨fuel - 1, by omega⟩
      obtain ⟨x, hx⟩ : ∃ x, (pls M nx s).2[i]? = some x := ⟨_, List.getElem?_eq_getElem (by omega)⟩
      have hxM : x < M := pv.2.2.1 x (List.mem_of_getElem? hx)
      have hd := drop_s hx
      have hnx := hM x hxM
      have hto := hI (nx x) hnx
      have hle := hgS_le (nx := nx) ((pls M nx s).2.drop (i + 1)) (nx x)
      have hdl : ((pls M nx s).2.drop (i + 1)).length ≤ s := by rw [List.length_drop]; omega
      have e1 : (hgS nx ((pls M nx s).2.drop i)).1 = updN (hgS nx ((pls M nx s).2.drop (i + 1))).1 x ((hgS nx ((pls M nx s).2.drop (i + 1))).1 (nx x) + 1) := by rw [hd]; rfl
      have e2 : (hgS nx ((pls M nx s).2.drop i)).2 = max (hgS nx ((pls M nx s).2.drop (i + 1))).2 ((hgS nx ((pls M nx s).2.drop (i + 1))).1 (nx x) + 1) := by rw [hd]; rfl
      have Y1 := Y.s40 (f := upd hf x (nI ((hgS nx ((pls M nx s).2.drop (i + 1))).1 (nx x) + 1)))
      obtain ⟨H', hf', z1, z2, z3⟩ := ih q _ _ (by omega) (by omega) Y1 (fun y hy => by
        rw [e1]
        by_cases q1 : y = x
        · rw [q1, upd_self, updN_self]
        · rw [upd_ne q1, updN_ne q1]
          exact hI y hy)
      refine ⟨H', hf', ?_, z2, z3⟩
      refine Eq.trans ?_ z1
      rw [fX7_all_w405]
      simp only []
      rw [i_sub1 (by omega), Nat.add_sub_cancel, if_neg (nI_nn (by omega)), o_24 (Y.lo (by decide) e0)]
      simp only [Option.bind_some]
      rw [o_25 (Y.lo (by decide) e0)]
      simp only [Option.bind_some]
      rw [aI_of Y.2.2.2.2.1 (by omega) (by decide), hq i x hx]
      simp only [Option.bind_some]
      rw [o_22 (Y.lo (by decide) e0)]
      simp only [Option.bind_some]
      rw [aI_of Y.2.1 (by omega) (by decide), hlf x hxM]
      simp only [Option.bind_some]
      rw [aI_of Y.2.2.2.1 (by omega) (by decide), hto]
      simp only [Option.bind_some]
      rw [nI_p1, sI_of (by decide) Y.2.2.2.1 (by omega) (by decide), x_nar0]
      simp only [Option.bind_some]
      rw [o_24 (Y1.lo (by decide) e0)]
      simp only [Option.bind_some]
      rw [o_25 (Y1.lo (by decide) e0)]
      simp only [Option.bind_some]
      rw [aI_of Y1.2.2.2.2.1 (by omega) (by decide), hq i x hx]
      simp only [Option.bind_some]
      rw [aI_of Y1.2.2.2.1 (by omega) (by decide), upd_self]
      simp only [Option.bind_some]
      unfold fX7_all_b475
      rw [if_leI (by omega) (by omega), i_m1, e2]
      by_cases q2 : (hgS nx ((pls M nx s).2.drop (i + 1))).1 (nx x) + 1 ≤ (hgS nx ((pls M nx s).2.drop (i + 1))).2
      · rw [if_pos q2, Nat.max_eq_left q2]
      · rw [if_neg q2, Nat.max_eq_right (by omega)]
  have hd0 : (pls M nx s).2.drop s = [] := List.drop_eq_nil_of_le (by omega)
  have := key s FUEL H hf (Nat.le_refl _) (fuel_big (by omega)) Y (fun x hx => by rw [hd0]; exact hh x hx)
  rw [hd0] at this
  exact this
/-- how many of M are marked -/
def cnB (M : Nat) (S : Nat → Bool) : Nat := sm (fun x => if S x = true then 1 else 0) M
theorem cnB_up {S : Nat → Bool} {z : Nat} (hz : z < M) (hS : S z = true) : cnB M (updB S z false) + 1 = cnB M S := by
  unfold cnB
  have h1 : sm (fun x => if S x = true then 1 else 0) M = sm (fun x => (if updB S z false x = true then 1 else 0) + (if z = x then (fun _ => 1) x else 0)) M := by
    refine sm_cong fun x _ => ?_
    by_cases q : x = z
    · rw [q, hS]
      simp [updB]
    · have e2 : updB S z false x = S x := if_neg q
      rw [e2, if_neg (Ne.symm q)]
      rfl
  rw [h1, sm_add, sm_one (f := fun _ => 1) hz]
theorem cnB_0 {S : Nat → Bool} {z : Nat} (hz : z < M) (h : cnB M S ≤ 0) : S z = false := by
  have := sm_part (f := fun x => if S x = true then 1 else 0) hz
  refine Bool.eq_false_iff.mpr fun q => ?_
  have h2 : (if S z = true then 1 else 0) ≤ cnB M S := this
  rw [if_pos q] at h2
  omega
theorem cnB_le {S : Nat → Bool} : cnB M S ≤ M := by
  have := sm_le (f := fun x => if S x = true then 1 else 0) (g := fun _ => 1) (n := M) (fun i _ => by show (if S i = true then 1 else 0) ≤ 1; split <;> omega)
  rw [sm_const] at this
  unfold cnB
  omega
/-- the marked rings as the model holds them: height 0 -/
def GM (M : Nat) (S : Nat → Bool) (hf : Nat → Int32) : Prop := ∀ x, x < M → (S x = true → hf x = 0) ∧ (S x = false → hf x ≠ 0)
theorem awalk_m (e0 : h[20]? = some (mob thr tl' sz om rd')) (hM2 : M ≤ 4096) (hM : ∀ x, x < M → nx x < M) (hlf : ∀ x, x < M → lf x = nI (nx x)) {W500 : Nat → Int32 → Int32 → Int32 → Int32 → Int32 → Hp → Option (Int32 × Hp)} {W r1 r2 : Int32} {i : Nat} : ∀ (q fuel l z : Nat) (S : Nat → Bool) (H : Hp) (hf : Nat → Int32), cnB M S ≤ q → q < fuel → z < M → AS h H lf af hf mf → GM M S hf → ∃ H' hf', fX7_all_w527 W500 fuel 20 W (nI M) r1 r2 (nI i) (nI l) (nI z) H = fX7_all_b560 W500 20 W (nI M) r1 r2 (nI i) (nI (wkS nx q S z l).2) H' ∧ AS h H' lf af hf' mf ∧ GM M (wkS nx q S z l).1 hf' := by
  intro q
  have stop : ∀ (fu l z : Nat) (S : Nat → Bool) (H : Hp) (hf : Nat → Int32), z < M → S z = false → AS h H lf af hf mf → GM M S hf → fX7_all_w527 W500 (fu + 1) 20 W (nI M) r1 r2 (nI i) (nI l) (nI z) H = fX7_all_b560 W500 20 W (nI M) r1 r2 (nI i) (nI l) H := by
    intro fu l z S H hf hz hS Y G
    rw [fX7_all_w527]
    simp only []
    rw [o_24 (Y.lo (by decide) e0)]
    simp only [Option.bind_some]
    rw [aI_of Y.2.2.2.1 (by omega) (by decide)]
    simp only [Option.bind_some]
    rw [if_neg ((G z hz).2 hS)]
  induction q with
  | zero =>
    intro fuel l z S H hf hc hfu hz Y G
    obtain ⟨fu, rfl⟩ : ∃ fu, fuel = fu + 1 := ⟨fuel - 1, by omega⟩
    exact ⟨H, hf, stop fu l z S H hf hz (cnB_0 hz hc) Y G, Y, G⟩
  | succ q ih =>
    intro fuel l z S H hf hc hfu hz Y G
    obtain ⟨fu, rfl⟩ : ∃ fu, fuel = fu + 1 := ⟨fuel - 1, by omega⟩
    by_cases q1 : S z = true
    · have e1 : wkS nx (q + 1) S z l = wkS nx q (updB S z false) (nx z) (l + 1) := by rw [wkS, if_pos q1]
      have hcu := cnB_up hz q1
      have Y1 := Y.s40 (f := upd hf z (-1))
      obtain ⟨H', hf', z1, z2, z3⟩ := ih fu (l + 1) (nx z) (updB S z false) _ _ (by omega) (by omega) (hM z hz) Y1 (fun x hx => by
        by_cases q2 : x = z
        · subst q2
          refine ⟨(fun w => by unfold updB at w; rw [if_pos rfl] at w; exact absurd w (by decide)), fun _ => ?_⟩
          rw [upd_self]
          decide
        · have e2 : updB S z false x = S x := if_neg q2
          rw [e2, upd_ne q2]
          exact G x hx)
      rw [e1]
      refine ⟨H', hf', ?_, z2, z3⟩
      refine Eq.trans ?_ z1
      rw [fX7_all_w527]
      simp only []
      rw [o_24 (Y.lo (by decide) e0)]
      simp only [Option.bind_some]
      rw [aI_of Y.2.2.2.1 (by omega) (by decide), (G z hz).1 q1]
      simp only [Option.bind_some]
      rw [if_pos trivial, sI_of (by decide) Y.2.2.2.1 (by omega) (by decide), x_nar0]
      simp only [Option.bind_some]
      rw [o_22 (Y1.lo (by decide) e0)]
      simp only [Option.bind_some]
      rw [aI_of Y1.2.1 (by omega) (by decide), hlf z hz]
      simp only [Option.bind_some]
      rw [nI_p1]
    · have q2 : S z = false := Bool.eq_false_iff.mpr q1
      have e1 : wkS nx (q + 1) S z l = (S, l) := by rw [wkS, if_neg q1]
      rw [e1]
      exact ⟨H, hf, stop fu l z S H hf hz q2 Y G, Y, G⟩
theorem wkS_pos : ∀ (q : Nat) (S : Nat → Bool) (x l : Nat), l ≤ (wkS nx q S x l).2
  | 0, S, x, l => Nat.le_refl _
  | q + 1, S, x, l => by
    unfold wkS
    split
    · have := wkS_pos q (updB S x false) (nx x) (l + 1)
      omega
    · exact Nat.le_refl _
theorem around_m (e0 : h[20]? = some (mob thr tl' sz om rd')) (hM0 : 0 < M) (hM2 : M ≤ 4096) (hM : ∀ x, x < M → nx x < M) (hlf : ∀ x, x < M → lf x = nI (nx x)) {W : Int32} {S0 : Nat → Bool} (Y : AS h H lf af hf mf) (G : GM M S0 hf) : ∃ H' hf', fX7_all_w500 FUEL 20 W (nI M) (nI 0) (nI 0) (nI 0) H = fX7_all_b585 W (nI (grS M nx S0 M).2.1) (nI (grS M nx S0 M).2.2) H' ∧ AS h H' lf af hf' mf := by
  have key := uptoI (fun q i H => fX7_all_w500 q 20 W (nI M) (nI (grS M nx S0 i).2.1) (nI (grS M nx S0 i).2.2) (nI i) H) M (fun i H => ∃ hf', AS h H lf af hf' mf ∧ GM M (grS M nx S0 i).1 hf') (by
    rintro q i H hi ⟨hf', Y, G⟩
    obtain ⟨b1, b2⟩ := grS_le (M := M) (nx := nx) (S0 := S0) i
    have hl := wkS_len (nx := nx) M (grS M nx S0 i).1 i 0
    have e3 : (grS M nx S0 (i + 1)).1 = (wkS nx M (grS M nx S0 i).1 i 0).1 := rfl
    obtain ⟨m, hm⟩ : ∃ m, M = m + 1 := ⟨M - 1, by omega⟩
    by_cases q1 : (grS M nx S0 i).1 i = true
    · obtain ⟨H1, hf1, w1, w2, w3⟩ := awalk_m e0 hM2 hM hlf (W500 := fX7_all_w500 q) (W := W) (r1 := nI (grS M nx S0 i).2.1) (r2 := nI (grS M nx S0 i).2.2) (i := i) M FUEL 0 i (grS M nx S0 i).1 H hf' cnB_le (fuel_big (by omega)) hi Y G
      have hne : (wkS nx M (grS M nx S0 i).1 i 0).2 ≠ 0 := by
        have h1 : wkS nx (m + 1) (grS M nx S0 i).1 i 0 = wkS nx m (updB (grS M nx S0 i).1 i false) (nx i) (0 + 1) := by rw [wkS, if_pos q1]
        have h2 := wkS_pos (nx := nx) m (updB (grS M nx S0 i).1 i false) (nx i) (0 + 1)
        have h3 : wkS nx M (grS M nx S0 i).1 i 0 = wkS nx (m + 1) (grS M nx S0 i).1 i 0 := by rw [← hm]
        rw [h3, h1]
        omega
      have e1 : (grS M nx S0 (i + 1)).2.1 = (grS M nx S0 i).2.1 + 1 := if_neg hne
      have e2 : (grS M nx S0 (i + 1)).2.2 = max (grS M nx S0 i).2.2 (wkS nx M (grS M nx S0 i).1 i 0).2 := if_neg hne
      refine ⟨H1, ?_, hf1, w2, w3⟩
      show fX7_all_w500 (q + 1) 20 W (nI M) (nI (grS M nx S0 i).2.1) (nI (grS M nx S0 i).2.2) (nI i) H = _
      rw [fX7_all_w500]
      simp only []
      rw [if_leI (by omega) (by omega), if_neg (by omega), o_24 (Y.lo (by decide) e0)]
      simp only [Option.bind_some]
      rw [aI_of Y.2.2.2.1 (by omega) (by decide), (G i hi).1 q1]
      simp only [Option.bind_some]
      rw [if_pos trivial]
      refine Eq.trans (show fX7_all_w527 (fX7_all_w500 q) FUEL 20 W (nI M) (nI (grS M nx S0 i).2.1) (nI (grS M nx S0 i).2.2) (nI i) (nI 0) (nI i) H = _ from w1) ?_
      unfold fX7_all_b560 fX7_all_b577 fX7_all_b579
      rw [if_leI (by omega) (by omega), nI_p1, nI_p1, e1, e2]
      by_cases q2 : (wkS nx M (grS M nx S0 i).1 i 0).2 ≤ (grS M nx S0 i).2.2
      · rw [if_pos q2, Nat.max_eq_left q2]
      · rw [if_neg q2, Nat.max_eq_right (by omega)]
    · have q2 : (grS M nx S0 i).1 i = false := Bool.eq_false_iff.mpr q1
      have hw : wkS nx M (grS M nx S0 i).1 i 0 = ((grS M nx S0 i).1, 0) := by
        have h1 : wkS nx (m + 1) (grS M nx S0 i).1 i 0 = ((grS M nx S0 i).1, 0) := by rw [wkS, if_neg q1]
        have h3 : wkS nx M (grS M nx S0 i).1 i 0 = wkS nx (m + 1) (grS M nx S0 i).1 i 0 := by rw [← hm]
        rw [h3, h1]
      have h0 : (wkS nx M (grS M nx S0 i).1 i 0).2 = 0 := by rw [hw]
      have e1 : (grS M nx S0 (i + 1)).2.1 = (grS M nx S0 i).2.1 := if_pos h0
      have e2 : (grS M nx S0 (i + 1)).2.2 = (grS M nx S0 i).2.2 := if_pos h0
      refine ⟨H, ?_, hf', Y, by rw [e3, hw]; exact G⟩
      show fX7_all_w500 (q + 1) 20 W (nI M) (nI (grS M nx S0 i).2.1) (nI (grS M nx S0 i).2.2) (nI i) H = _
      rw [fX7_all_w500]
      simp only []
      rw [if_leI (by omega) (by omega), if_neg (by omega), o_24 (Y.lo (by decide) e0)]
      simp only [Option.bind_some]
      rw [aI_of Y.2.2.2.1 (by omega) (by decide)]
      simp only [Option.bind_some]
      rw [if_neg ((G i hi).2 q2)]
      unfold fX7_all_b579
      rw [nI_p1, e1, e2]) 0 FUEL H (by omega) (fuel_big (by omega)) ⟨hf, Y, G⟩
  obtain ⟨fu, H', k1, hf', k2, k3⟩ := key
  refine ⟨H', hf', ?_, k2⟩
  refine Eq.trans k1 ?_
  rw [fX7_all_w500]
  simp only []
  rw [if_leI (by omega) (by omega), if_pos (Nat.le_refl _)]
/-- the peeling has an end -/
theorem PV.ex (hM : ∀ x, x < M → nx x < M) : ∃ s, PV M nx s ∧ (pls M nx s).2.length = s := by
  have key : ∀ d s, d = M + 1 - s → PV M nx s → ∃ s, PV M nx s ∧ (pls M nx s).2.length = s := by
    intro d
    induction d with
    | zero =>
      intro s hd pv
      have := pv.le
      have := pv.1
      omega
    | succ d ih =>
      intro s hd pv
      have h1 := pv.1
      by_cases q : (pls M nx s).2.length = s
      · exact ⟨s, pv, q⟩
      · exact ih (s + 1) (by omega) (pv.st hM (List.getElem?_eq_getElem (by omega)))
  exact key (M + 1 - 0) 0 rfl (PV.z hM)
end MAR
section MAA
variable {h : Hp} {thr sz : Int32} {tl : Nat} {tp : Nat → Nat} {sl : SL} {ol : Nat} {of : Nat → Nat} {rd : Nat}
theorem AS.inv {lf af hf mf : Nat → Int32} {H : Hp} (I : MInv h thr sz tl tp sl ol of rd) (Y : AS h H lf af hf mf) : MInv H thr sz tl tp sl ol of rd ∧ Dn h H := by
  refine ⟨I.scr (fun i h1 h2 => Y.1.2 i (by omega) (by omega) (by omega)) ?_, Y.1.dn⟩
  have Fx := I.fx
  obtain ⟨D, e1, e2, e3, e4, e5, e6⟩ := Y
  obtain ⟨f26, f27, f28, f29, f30, f31, f32, f33, f34, f35, f36, f37, f38, f39, f40, f41, f42⟩ := Fx
  exact ⟨e5, e6, f28.imp fun _ q => (D.2 28 (by decide) (by decide) (by decide)).trans q, f29.imp fun _ q => (D.2 29 (by decide) (by decide) (by decide)).trans q, f30.imp fun _ q => (D.2 30 (by decide) (by decide) (by decide)).trans q, f31.imp fun _ q => (D.2 31 (by decide) (by decide) (by decide)).trans q, f32.imp fun _ q => (D.2 32 (by decide) (by decide) (by decide)).trans q, f33.imp fun _ q => (D.2 33 (by decide) (by decide) (by decide)).trans q, f34.imp fun _ q => (D.2 34 (by decide) (by decide) (by decide)).trans q, f35.imp fun _ q => (D.2 35 (by decide) (by decide) (by decide)).trans q, f36.imp fun _ q => (D.2 36 (by decide) (by decide) (by decide)).trans q, f37.imp fun _ q => (D.2 37 (by decide) (by decide) (by decide)).trans q, ⟨_, e1⟩, ⟨_, e2⟩, ⟨_, e3⟩, ⟨_, e4⟩, f42.imp fun _ q => (D.2 42 (by decide) (by decide) (by decide)).trans q⟩
theorem n12_cases (n : Int32) : (n < 1 ∨ 12 < n) ∨ ∃ N, 1 ≤ N ∧ N ≤ 12 ∧ n = nI N := by
  by_cases q1 : n < 1
  · exact Or.inl (Or.inl q1)
  by_cases q2 : 12 < n
  · exact Or.inl (Or.inr q2)
  right
  have h0 : ¬ n < 0 := fun z => q1 (Int32.lt_trans z (by decide))
  obtain ⟨N, hb, rfl⟩ := nI_of h0
  refine ⟨N, ?_, ?_, rfl⟩
  · rcases Nat.lt_or_ge N 1 with z | z
    · exact absurd (by rw [l1]; exact (nI_ltI hb (by omega)).mpr z) q1
    · exact z
  · rcases Nat.lt_or_ge 12 N with z | z
    · exact absurd (by rw [show (12 : Int32) = nI 12 from rfl]; exact (nI_ltI (by omega) hb).mpr z) q2
    · exact z
theorem m_all (I : MInv h thr sz tl tp sl ol of rd) (s n w : Int32) : ((∀ k r F N W, ¬ okAll sl s n w k r F N W) ∧ ∃ h', fX7_all h 20 s n w = some (-1, h') ∧ MInv h' 0 sz tl tp sl ol of rd ∧ Dn h h') ∨ (∃ k r F N W h' x0 x1 x2 x3 x4, okAll sl s n w k r F N W ∧ fX7_all h 20 s n w = some (sel5 x0 x1 x2 x3 x4 W, h') ∧ SVN (k, r, F) N x0 x1 x2 x3 x4 ∧ MInv h' 0 sz tl tp sl ol of rd ∧ Dn h h') := by
  obtain ⟨h1, c1, I1, d1⟩ := I.begin
  obtain ⟨tpf, stf, wdf, tbf, otf, e0, a1, a2, a3, e1, b1, e2, e3, e4, b2, e5, b3, Fx⟩ := id I1
  unfold fX7_all
  rw [c1]
  simp only [Option.bind_some]
  rw [oo e0]
  rcases mhas e0 e2 b2 s with ⟨q, e⟩ | ⟨j, k, r, F, hj, rfl, q, e, g, s1, s2, s3⟩
  · left
    rw [e, call_ok, if_pos rfl]
    exact ⟨(fun k r F N W h9 => by have := h9.1; rw [q] at this; cases this), h1, rfl, I1, d1⟩
  obtain ⟨n1, n2, n3, n4, n5⟩ := g.nums
  obtain ⟨g1, g2, g3, g4, gF⟩ := id g
  rw [e, call_ok, if_neg one_ne]
  rcases n12_cases n with z | ⟨N, hN1, hN2, rfl⟩
  · left
    refine ⟨fun k' r' F' N' W' h9 => ?_, h1, ?_, I1, d1⟩
    · obtain ⟨-, -, x3, x4, x5, -⟩ := h9
      rw [x3, l1, show (12 : Int32) = nI 12 from rfl] at z
      rcases z with z | z
      · have := (nI_ltI (a := N') (b := 1) (by omega) (by omega)).mp z
        omega
      · have := (nI_ltI (a := 12) (b := N') (by omega) (by omega)).mp z
        omega
    · by_cases z1 : n < 1
      · rw [if_pos z1]
      · rw [if_neg z1, if_pos (z.elim (fun y => absurd y z1) id)]
  rw [if_neg (fun y => by have := (nI_ltI (a := N) (b := 1) (by omega) (by omega)).mp y; omega), if_neg (fun y => by have := (nI_ltI (a := 12) (b := N) (by omega) (by omega)).mp y; omega)]
  rcases w_cases w with z | ⟨W, hW, rfl⟩
  · left
    refine ⟨fun k' r' F' N' W' h9 => w_no z h9.2.2.2.2.2.2.2 h9.2.2.2.2.2.2.1, h1, ?_, I1, d1⟩
    by_cases z1 : w < 0
    · rw [if_pos z1]
    · rw [if_neg z1, if_neg (z.elim (fun y => absurd y z1) id)]
  rw [if_neg (nI_nn (by omega)), if_pos (show nI W ≤ (4 : Int32) from (nI_leI (a := W) (b := 4) (by omega) (by omega)).mpr hW)]
  have uq : ∀ {k' r' F' N' W'}, okAll sl (nI j) (nI N) (nI W) k' r' F' N' W' → k' = k ∧ N' = N ∧ k' ^ N' ≤ 4096 := fun {k' r' F' N' W'} h9 => by
    obtain ⟨x1, -, x3, x4, x5, x6, -⟩ := h9
    rw [q] at x1
    cases x1
    exact ⟨rfl, ((nI_eq (by omega) (by omega)).mp x3).symm, x6⟩
  have hpw : ∀ i, i ≤ 12 → k ^ i ≤ 2 ^ 24 := fun i hi => Nat.le_trans (Nat.pow_le_pow_left g2 i) (Nat.le_trans (Nat.pow_le_pow_right (by decide) hi) (by decide))
  have hN24 := hpw N hN2
  have kR := scan_all (fun f i => fX7_all_w41 f 20 (nI j) (nI N) (nI W) (nI (k ^ i)) (nI i) h1) N (fun i => 4096 < k ^ i) (some (-1, h1)) (fX7_all_b72 20 (nI j) (nI N) (nI W) (nI (k ^ N)) h1) (fun f i hi hb => by
    have hp := hpw i (by omega)
    rw [fX7_all_w41]
    simp only []
    rw [if_leI (by omega) (by omega), if_neg (by omega), show (4096 : Int32) = nI 4096 from rfl, if_ltI (by omega) (by omega), if_neg hb, o_4 e0]
    simp only [Option.bind_some]
    rw [aI_of e2 hj (by decide), s1]
    simp only [Option.bind_some]
    rw [setv_ok, pk_mul, nI_p1, ← Nat.pow_succ]) (fun f i hi hb => by
    have hp := hpw i (by omega)
    rw [fX7_all_w41]
    simp only []
    rw [if_leI (by omega) (by omega), if_neg (by omega), show (4096 : Int32) = nI 4096 from rfl, if_ltI (by omega) (by omega), if_pos hb]
    unfold fX7_all_b72
    rw [show (4096 : Int32) = nI 4096 from rfl, if_leI (by omega) (by omega), if_neg (by omega)]) (fun f => by
    rw [fX7_all_w41]
    simp only []
    rw [if_leI (by omega) (by omega), if_pos (Nat.le_refl _)]) 0 FUEL (by omega) (fuel_big (by omega))
  rw [Nat.pow_zero] at kR
  rcases kR with ⟨y1, y2⟩ | ⟨⟨i, -, y2, y3⟩, y4⟩
  case inr =>
    left
    refine ⟨fun k' r' F' N' W' h9 => ?_, h1, y4, I1, d1⟩
    obtain ⟨rfl, rfl, x⟩ := uq h9
    have : k' ^ i ≤ k' ^ N' := Nat.pow_le_pow_right (by omega) (by omega)
    omega
  have y2' : fX7_all_w41 FUEL 20 (nI j) (nI N) (nI W) (1 : Int32) (0 : Int32) h1 = fX7_all_b72 20 (nI j) (nI N) (nI W) (nI (k ^ N)) h1 := y2
  rw [y2']
  by_cases hM2 : k ^ N ≤ 4096
  case neg =>
    left
    refine ⟨fun k' r' F' N' W' h9 => ?_, h1, ?_, I1, d1⟩
    · obtain ⟨rfl, rfl, x⟩ := uq h9
      exact hM2 x
    · unfold fX7_all_b72
      rw [show (4096 : Int32) = nI 4096 from rfl, if_leI (by omega) (by omega), if_neg hM2]
  right
  have hM0 : 0 < k ^ N := Nat.pow_pos (by omega)
  have hMx : ∀ x, x < k ^ N → nxN k r F N x < k ^ N := fun x _ => nxN_lt g hN1 x
  obtain ⟨sp, pv, hsp⟩ := PV.ex hMx
  have hspM : sp ≤ k ^ N := by have := pv.le; omega
  obtain ⟨f38, z38⟩ := Fx.r38
  obtain ⟨f39, z39⟩ := Fx.r39
  obtain ⟨f40, z40⟩ := Fx.r40
  obtain ⟨f41, z41⟩ := Fx.r41
  have Y0 : AS h1 h1 f38 f39 f40 f41 := ⟨DA.rf, z38, z39, z40, z41, Fx.r26, Fx.r27⟩
  obtain ⟨H1, lf, af, k1, Y1, hlf, haf⟩ := alead_m g e0 e2 e3 e4 hj s1 s2 s3 (W := nI W) hN1 (show N ≤ 20 by omega) rfl hM2 Y0
  have hb72 : fX7_all_b72 20 (nI j) (nI N) (nI W) (nI (k ^ N)) h1 = fX7_all_b256 20 (nI W) (nI (k ^ N)) (nI (lvs (k ^ N) (nxN k r F N) (k ^ N)).length) H1 := by
    unfold fX7_all_b72
    rw [show (4096 : Int32) = nI 4096 from rfl, if_leI (by omega) (by omega), if_pos hM2, o_4 e0, Option.bind_some, aI_of e2 hj (by decide), s1, Option.bind_some, mpower (by omega) (by omega), call_ok]
    refine Eq.trans (show fX7_all_w97 FUEL 20 (nI j) (nI N) (nI W) (nI (k ^ N)) (nI 0) h1 = _ from k1) ?_
    exact anone_m e0 hM2 Y1 haf
  rw [hb72]
  have hok : okAll sl (nI j) (nI N) (nI W) k r F N W := ⟨q, g, rfl, hN1, hN2, hM2, rfl, hW⟩
  have hsv : SVN (k, r, F) N (nI (lvs (k ^ N) (nxN k r F N) (k ^ N)).length) (nI (k ^ N - sp)) (nI (grS (k ^ N) (nxN k r F N) (fun x => decide (0 < (pls (k ^ N) (nxN k r F N) sp).1 x)) (k ^ N)).2.1) (nI (hgS (nxN k r F N) (pls (k ^ N) (nxN k r F N) sp).2).2) (nI (grS (k ^ N) (nxN k r F N) (fun x => decide (0 < (pls (k ^ N) (nxN k r F N) sp).1 x)) (k ^ N)).2.2) := ⟨sp, pv, hsp, rfl, rfl, rfl, rfl, rfl⟩
  -- the answer for each what
  suffices hans : ∃ h', fX7_all_b256 20 (nI W) (nI (k ^ N)) (nI (lvs (k ^ N) (nxN k r F N) (k ^ N)).length) H1 = some (sel5 (nI (lvs (k ^ N) (nxN k r F N) (k ^ N)).length) (nI (k ^ N - sp)) (nI (grS (k ^ N) (nxN k r F N) (fun x => decide (0 < (pls (k ^ N) (nxN k r F N) sp).1 x)) (k ^ N)).2.1) (nI (hgS (nxN k r F N) (pls (k ^ N) (nxN k r F N) sp).2).2) (nI (grS (k ^ N) (nxN k r F N) (fun x => decide (0 < (pls (k ^ N) (nxN k r F N) sp).1 x)) (k ^ N)).2.2) W, h') ∧ MInv h' 0 sz tl tp sl ol of rd ∧ Dn h1 h' by
    obtain ⟨h', v1, v2, v3⟩ := hans
    exact ⟨k, r, F, N, W, h', _, _, _, _, _, hok, v1, hsv, v2, d1.tn v3⟩
  unfold sel5 fX7_all_b256
  rw [show (0 : Int32) = nI 0 from rfl, if_eqI (by omega) (by omega)]
  by_cases w0 : W = 0
  · rw [if_pos w0, if_pos w0]
    exact ⟨H1, rfl, Y1.inv I1⟩
  rw [if_neg w0, if_neg w0]
  obtain ⟨H2, hf2, mf2, k2, Y2, hq2, hh2⟩ := afirst_m e0 (W := nI W) hM2 Y1 haf
  obtain ⟨H3, af3, mf3, s3', k3, Y3, pv3, hs3, hq3⟩ := apeel_m e0 (W := nI W) hM2 hMx Y2 hlf haf hq2
  have hse : s3' = sp := PV.one pv3 hs3 pv hsp
  subst hse
  rw [k2, k3]
  unfold fX7_all_b388
  rw [show (1 : Int32) = nI 1 from rfl, if_eqI (by omega) (by omega)]
  by_cases w1 : W = 1
  · rw [if_pos w1, if_pos w1]
    exact ⟨H3, rfl, Y3.inv I1⟩
  rw [if_neg w1, if_neg w1, setv_ok]
  obtain ⟨H4, hf4, k4, Y4, hh4⟩ := aclimb_m e0 (W := nI W) hM2 hMx hlf pv hsp Y3 hq3 hh2
  have k4' : fX7_all_w405 FUEL 20 (nI W) (nI (k ^ N)) (0 : Int32) (nI s3' - nI 1) H3 = _ := k4
  rw [k4']
  unfold fX7_all_b483
  rw [show (3 : Int32) = nI 3 from rfl, if_eqI (by omega) (by omega)]
  by_cases w3 : W = 3
  · rw [if_pos w3, if_neg (show ¬ W = 2 by omega), if_pos w3]
    exact ⟨H4, rfl, Y4.inv I1⟩
  have G : GM (k ^ N) (fun x => decide (0 < (pls (k ^ N) (nxN k r F N) s3').1 x)) hf4 := by
    intro x hx
    have hmem := pv.2.2.2.2 x hx
    have hhl := (hgS_le (nx := nxN k r F N) (pls (k ^ N) (nxN k r F N) s3').2 x).1
    refine ⟨fun y => ?_, fun y => ?_⟩
    · have y1 := of_decide_eq_true y
      rw [hh4 x hx, hgS_out _ x (fun v => by have := hmem.mp v; omega)]
      rfl
    · have y1 := of_decide_eq_false y
      have y2 := hgS_in (nx := nxN k r F N) _ x (hmem.mpr (by omega))
      rw [hh4 x hx]
      exact fun v => by
        have := (nI_eq (b := 0) (by omega) (by omega)).mp v
        omega
  obtain ⟨H5, hf5, k5, Y5⟩ := around_m e0 hM0 hM2 hMx hlf (W := nI W) Y4 G
  rw [if_neg w3]
  have k5' : fX7_all_w500 FUEL 20 (nI W) (nI (k ^ N)) (0 : Int32) (0 : Int32) (0 : Int32) H4 = _ := k5
  rw [k5']
  unfold fX7_all_b585
  rw [show (2 : Int32) = nI 2 from rfl, if_eqI (by omega) (by omega)]
  by_cases w2 : W = 2
  · rw [if_pos w2, if_pos w2]
    exact ⟨H5, rfl, Y5.inv I1⟩
  · rw [if_neg w2, if_neg w2, if_neg w3]
    exact ⟨H5, rfl, Y5.inv I1⟩
end MAA

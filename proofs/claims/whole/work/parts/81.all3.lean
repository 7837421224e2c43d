section SC
variable {h H : Hp} {tl : Nat} {tp : Nat → Nat} {sl : SL} {ol : Nat} {of : Nat → Nat} {rd tr su : Nat}
/-- what all asks -/
def okAll (sl : SL) (s n w : Int32) (k r : Nat) (F : Nat → Nat) (N W : Nat) : Prop := ruleOf sl s = some (k, r, F) ∧ GR k r F ∧ n = nI N ∧ 1 ≤ N ∧ N ≤ 12 ∧ k ^ N ≤ 4096 ∧ w = nI W ∧ W ≤ 4
theorem all_v2 {n w M : Int32} {a : Nat} {h : Hp} : fX6_all_v2_b60 4 n w a M h = fX6_all_b60 4 n w a M h := rfl
theorem w_cases (w : Int32) : (w < 0 ∨ ¬ w ≤ 4) ∨ ∃ W, W ≤ 4 ∧ w = nI W := by
  rcases pk_ix w (n := 5) (by decide) with z | z | ⟨W, hW, rfl⟩
  · exact Or.inl (Or.inl z)
  · left; right
    rw [Int32.not_le]
    exact Int32.lt_of_lt_of_le (show (4 : Int32) < nI 5 by decide) z
  · exact Or.inr ⟨W, by omega, rfl⟩
theorem w_no {w : Int32} (h : w < 0 ∨ ¬ w ≤ 4) {W : Nat} (hW : W ≤ 4) : w ≠ nI W := fun e => by
  subst e
  rcases h with h | h
  · exact nI_nn (by omega) h
  · exact h (by rw [show (4 : Int32) = nI 4 from rfl]; exact (nI_leI (by omega) (by decide)).mpr hW)
theorem c_all_old (I : CInv SVN h tl tp sl ol of rd tr su) (hsu : su ≠ 0) (s n w : Int32) : ((∀ k r F N W, ¬ okAll sl s n w k r F N W) ∧ fX6_all_v2 h 4 s n w = some (-1, h)) ∨ (∃ k r F N W h' x0 x1 x2 x3 x4, okAll sl s n w k r F N W ∧ fX6_all_v2 h 4 s n w = some (sel5 x0 x1 x2 x3 x4 W, h') ∧ SVN (k, r, F) N x0 x1 x2 x3 x4 ∧ CInv SVN h' tl tp sl ol of rd tr su ∧ Mid h h' ∧ h'.length = h.length) := by
  obtain ⟨he, th, sf, tf, uf, e2, e3, e4, a1, a2, a3, a4, e5, a5, e6, a6, e7, a7, cf, aT, aS, aL⟩ := id I
  unfold fX6_all_v2
  rw [mok e4]
  rcases ruleIn_st e4 e5 a5 s with ⟨q, e⟩ | ⟨a, k, r, F, q, e, ha, g, R⟩
  · left
    rw [e, call_ok, if_pos rfl]
    exact ⟨(fun k r F N W z => by have := z.1; rw [q] at this; cases this), rfl⟩
  obtain ⟨g1, g2, g3, g4, gF⟩ := id g
  rw [e, call_ok, if_neg (by omega)]
  rcases w_cases w with z | ⟨W, hW, rfl⟩
  · left
    refine ⟨fun k r F N W y => w_no z y.2.2.2.2.2.2.2 y.2.2.2.2.2.2.1, ?_⟩
    by_cases z1 : w < 0
    · rw [if_pos z1]
    · rw [if_neg z1, if_neg (z.resolve_left z1)]
  rw [if_neg (nI_nn (by omega)), show (4 : Int32) = nI 4 from rfl, if_leI (by omega) (by omega), if_pos hW, rk R]
  simp only [Option.bind_some]
  rcases ringsOf_ok (h := h) g1 g2 n with ⟨z1, z2⟩ | ⟨N, rfl, z1, z2, z3, z4⟩
  · left
    rw [z2, call_ok, if_pos rfl]
    refine ⟨fun k' r' F' N W y => ?_, rfl⟩
    have hkk := y.1
    rw [q] at hkk
    cases hkk
    exact z1 N y.2.2.1 (by have := y.2.2.2.2.1; omega) ⟨y.2.2.2.1, y.2.2.2.2.2.1⟩
  · right
    rw [z4, call_ok, if_neg (fun y => nI_nm1 (by omega) y), m13 e4]
    simp only [Option.bind_some]
    rw [if_neg hsu, all_v2]
    obtain ⟨H, x0, x1, x2, x3, x4, c1, c2, c3, c4, c5⟩ := all_core I hsu g ha R z1 z2 z3 hW
    exact ⟨k, r, F, N, W, H, x0, x1, x2, x3, x4, ⟨q, g, rfl, z1, z2, z3, rfl, hW⟩, c1, c2, c3, c4, c5⟩
/-- one more row made and put into a field -/
theorem row_put {L f n : Nat} {fs : List XV} {K : Hp → Option Hp} (h4 : 4 ≤ L) (hn : n < 2 ^ 31) (hf : f < fs.length) (e : H[L]? = some (oC 3 fs)) : (mkA H 0 n (nI n) fun q h2 => (pF h2 L 3 f (vR q)).bind K) = K ((H ++ [aC 0 n (fun _ => 0)]).set L (oC 3 (fs.set f (vR H.length)))) := by
  rw [mkA_ok hn]
  show Option.bind (pF (H ++ [aC 0 n (fun _ => 0)]) L 3 f (vR H.length)) _ = _
  rw [pF_of h4 (st_p e) hf]
  rfl
theorem sinit_ok (h4 : 4 ≤ h.length) : ∃ H, fX3_init (h ++ [oC 3 [vR 0, vR 0, vR 0, vR 0, vR 0, vR 0, vR 0, vI 0, vI 0, vI 0, vI 0, vI 0, vI 0]]) h.length = some H ∧ H.length = h.length + 7 ∧ Ext h H ∧ H[h.length]? = some (sob h.length 0 0 0 0 0 0 0) ∧ H[h.length + 1]? = some (aC 0 4096 (fun _ => 0)) ∧ H[h.length + 2]? = some (aC 0 4096 (fun _ => 0)) ∧ H[h.length + 3]? = some (aC 0 4096 (fun _ => 0)) ∧ H[h.length + 4]? = some (aC 0 4096 (fun _ => 0)) ∧ H[h.length + 5]? = some (aC 0 20 (fun _ => 0)) ∧ H[h.length + 6]? = some (aC 0 20 (fun _ => 0)) := by
  unfold fX3_init
  rw [if_neg (by omega), show (4096 : Int32) = nI 4096 from rfl, show (20 : Int32) = nI 20 from rfl]
  have l0 : (h ++ [oC 3 [vR 0, vR 0, vR 0, vR 0, vR 0, vR 0, vR 0, vI 0, vI 0, vI 0, vI 0, vI 0, vI 0]]).length = h.length + 1 := by simp
  have x0 : Ext h (h ++ [oC 3 [vR 0, vR 0, vR 0, vR 0, vR 0, vR 0, vR 0, vI 0, vI 0, vI 0, vI 0, vI 0, vI 0]]) := Ext.push
  have y0 : (h ++ [oC 3 [vR 0, vR 0, vR 0, vR 0, vR 0, vR 0, vR 0, vI 0, vI 0, vI 0, vI 0, vI 0, vI 0]])[h.length]? = some (oC 3 [vR 0, vR 0, vR 0, vR 0, vR 0, vR 0, vR 0, vI 0, vI 0, vI 0, vI 0, vI 0, vI 0]) := st_pn
  generalize h ++ [oC 3 [vR 0, vR 0, vR 0, vR 0, vR 0, vR 0, vR 0, vI 0, vI 0, vI 0, vI 0, vI 0, vI 0]] = H0 at l0 x0 y0 ⊢
  rw [row_put h4 (by decide) (by simp) y0, l0]
  have l1 : ((H0 ++ [aC 0 4096 (fun _ => 0)]).set h.length (oC 3 ([vR 0, vR 0, vR 0, vR 0, vR 0, vR 0, vR 0, vI 0, vI 0, vI 0, vI 0, vI 0, vI 0].set 0 (vR (h.length + 1))))).length = h.length + 2 := by rw [List.length_set, List.length_append, l0]; rfl
  have x1 : Ext h ((H0 ++ [aC 0 4096 (fun _ => 0)]).set h.length (oC 3 ([vR 0, vR 0, vR 0, vR 0, vR 0, vR 0, vR 0, vI 0, vI 0, vI 0, vI 0, vI 0, vI 0].set 0 (vR (h.length + 1))))) := (x0.tn Ext.push).set (Nat.le_refl _)
  have y1 : ((H0 ++ [aC 0 4096 (fun _ => 0)]).set h.length (oC 3 ([vR 0, vR 0, vR 0, vR 0, vR 0, vR 0, vR 0, vI 0, vI 0, vI 0, vI 0, vI 0, vI 0].set 0 (vR (h.length + 1)))))[h.length]? = some (oC 3 [vR (h.length + 1), vR 0, vR 0, vR 0, vR 0, vR 0, vR 0, vI 0, vI 0, vI 0, vI 0, vI 0, vI 0]) := st_s (st_p y0)
  have r1_0 : ((H0 ++ [aC 0 4096 (fun _ => 0)]).set h.length (oC 3 ([vR 0, vR 0, vR 0, vR 0, vR 0, vR 0, vR 0, vI 0, vI 0, vI 0, vI 0, vI 0, vI 0].set 0 (vR (h.length + 1)))))[h.length + 1]? = some (aC 0 4096 (fun _ => 0)) := st_n' (by omega) (by rw [← l0]; exact st_pn)
  generalize (H0 ++ [aC 0 4096 (fun _ => 0)]).set h.length (oC 3 ([vR 0, vR 0, vR 0, vR 0, vR 0, vR 0, vR 0, vI 0, vI 0, vI 0, vI 0, vI 0, vI 0].set 0 (vR (h.length + 1)))) = H1 at l1 x1 y1 r1_0 ⊢
  rw [row_put h4 (by decide) (by simp) y1, l1]
  have l2 : ((H1 ++ [aC 0 4096 (fun _ => 0)]).set h.length (oC 3 ([vR (h.length + 1), vR 0, vR 0, vR 0, vR 0, vR 0, vR 0, vI 0, vI 0, vI 0, vI 0, vI 0, vI 0].set 1 (vR (h.length + 2))))).length = h.length + 3 := by rw [List.length_set, List.length_append, l1]; rfl
  have x2 : Ext h ((H1 ++ [aC 0 4096 (fun _ => 0)]).set h.length (oC 3 ([vR (h.length + 1), vR 0, vR 0, vR 0, vR 0, vR 0, vR 0, vI 0, vI 0, vI 0, vI 0, vI 0, vI 0].set 1 (vR (h.length + 2))))) := (x1.tn Ext.push).set (Nat.le_refl _)
  have y2 : ((H1 ++ [aC 0 4096 (fun _ => 0)]).set h.length (oC 3 ([vR (h.length + 1), vR 0, vR 0, vR 0, vR 0, vR 0, vR 0, vI 0, vI 0, vI 0, vI 0, vI 0, vI 0].set 1 (vR (h.length + 2)))))[h.length]? = some (oC 3 [vR (h.length + 1), vR (h.length + 2), vR 0, vR 0, vR 0, vR 0, vR 0, vI 0, vI 0, vI 0, vI 0, vI 0, vI 0]) := st_s (st_p y1)
  have r2_0 : ((H1 ++ [aC 0 4096 (fun _ => 0)]).set h.length (oC 3 ([vR (h.length + 1), vR 0, vR 0, vR 0, vR 0, vR 0, vR 0, vI 0, vI 0, vI 0, vI 0, vI 0, vI 0].set 1 (vR (h.length + 2)))))[h.length + 1]? = some (aC 0 4096 (fun _ => 0)) := st_n' (by omega) (st_p r1_0)
  have r2_1 : ((H1 ++ [aC 0 4096 (fun _ => 0)]).set h.length (oC 3 ([vR (h.length + 1), vR 0, vR 0, vR 0, vR 0, vR 0, vR 0, vI 0, vI 0, vI 0, vI 0, vI 0, vI 0].set 1 (vR (h.length + 2)))))[h.length + 2]? = some (aC 0 4096 (fun _ => 0)) := st_n' (by omega) (by rw [← l1]; exact st_pn)
  generalize (H1 ++ [aC 0 4096 (fun _ => 0)]).set h.length (oC 3 ([vR (h.length + 1), vR 0, vR 0, vR 0, vR 0, vR 0, vR 0, vI 0, vI 0, vI 0, vI 0, vI 0, vI 0].set 1 (vR (h.length + 2)))) = H2 at l2 x2 y2 r2_0 r2_1 ⊢
  rw [row_put h4 (by decide) (by simp) y2, l2]
  have l3 : ((H2 ++ [aC 0 4096 (fun _ => 0)]).set h.length (oC 3 ([vR (h.length + 1), vR (h.length + 2), vR 0, vR 0, vR 0, vR 0, vR 0, vI 0, vI 0, vI 0, vI 0, vI 0, vI 0].set 2 (vR (h.length + 3))))).length = h.length + 4 := by rw [List.length_set, List.length_append, l2]; rfl
  have x3 : Ext h ((H2 ++ [aC 0 4096 (fun _ => 0)]).set h.length (oC 3 ([vR (h.length + 1), vR (h.length + 2), vR 0, vR 0, vR 0, vR 0, vR 0, vI 0, vI 0, vI 0, vI 0, vI 0, vI 0].set 2 (vR (h.length + 3))))) := (x2.tn Ext.push).set (Nat.le_refl _)
  have y3 : ((H2 ++ [aC 0 4096 (fun _ => 0)]).set h.length (oC 3 ([vR (h.length + 1), vR (h.length + 2), vR 0, vR 0, vR 0, vR 0, vR 0, vI 0, vI 0, vI 0, vI 0, vI 0, vI 0].set 2 (vR (h.length + 3)))))[h.length]? = some (oC 3 [vR (h.length + 1), vR (h.length + 2), vR (h.length + 3), vR 0, vR 0, vR 0, vR 0, vI 0, vI 0, vI 0, vI 0, vI 0, vI 0]) := st_s (st_p y2)
  have r3_0 : ((H2 ++ [aC 0 4096 (fun _ => 0)]).set h.length (oC 3 ([vR (h.length + 1), vR (h.length + 2), vR 0, vR 0, vR 0, vR 0, vR 0, vI 0, vI 0, vI 0, vI 0, vI 0, vI 0].set 2 (vR (h.length + 3)))))[h.length + 1]? = some (aC 0 4096 (fun _ => 0)) := st_n' (by omega) (st_p r2_0)
  have r3_1 : ((H2 ++ [aC 0 4096 (fun _ => 0)]).set h.length (oC 3 ([vR (h.length + 1), vR (h.length + 2), vR 0, vR 0, vR 0, vR 0, vR 0, vI 0, vI 0, vI 0, vI 0, vI 0, vI 0].set 2 (vR (h.length + 3)))))[h.length + 2]? = some (aC 0 4096 (fun _ => 0)) := st_n' (by omega) (st_p r2_1)
  have r3_2 : ((H2 ++ [aC 0 4096 (fun _ => 0)]).set h.length (oC 3 ([vR (h.length + 1), vR (h.length + 2), vR 0, vR 0, vR 0, vR 0, vR 0, vI 0, vI 0, vI 0, vI 0, vI 0, vI 0].set 2 (vR (h.length + 3)))))[h.length + 3]? = some (aC 0 4096 (fun _ => 0)) := st_n' (by omega) (by rw [← l2]; exact st_pn)
  generalize (H2 ++ [aC 0 4096 (fun _ => 0)]).set h.length (oC 3 ([vR (h.length + 1), vR (h.length + 2), vR 0, vR 0, vR 0, vR 0, vR 0, vI 0, vI 0, vI 0, vI 0, vI 0, vI 0].set 2 (vR (h.length + 3)))) = H3 at l3 x3 y3 r3_0 r3_1 r3_2 ⊢
  rw [row_put h4 (by decide) (by simp) y3, l3]
  have l4 : ((H3 ++ [aC 0 4096 (fun _ => 0)]).set h.length (oC 3 ([vR (h.length + 1), vR (h.length + 2), vR (h.length + 3), vR 0, vR 0, vR 0, vR 0, vI 0, vI 0, vI 0, vI 0, vI 0, vI 0].set 3 (vR (h.length + 4))))).length = h.length + 5 := by rw [List.length_set, List.length_append, l3]; rfl
  have x4 : Ext h ((H3 ++ [aC 0 4096 (fun _ => 0)]).set h.length (oC 3 ([vR (h.length + 1), vR (h.length + 2), vR (h.length + 3), vR 0, vR 0, vR 0, vR 0, vI 0, vI 0, vI 0, vI 0, vI 0, vI 0].set 3 (vR (h.length + 4))))) := (x3.tn Ext.push).set (Nat.le_refl _)
  have y4 : ((H3 ++ [aC 0 4096 (fun _ => 0)]).set h.length (oC 3 ([vR (h.length + 1), vR (h.length + 2), vR (h.length + 3), vR 0, vR 0, vR 0, vR 0, vI 0, vI 0, vI 0, vI 0, vI 0, vI 0].set 3 (vR (h.length + 4)))))[h.length]? = some (oC 3 [vR (h.length + 1), vR (h.length + 2), vR (h.length + 3), vR (h.length + 4), vR 0, vR 0, vR 0, vI 0, vI 0, vI 0, vI 0, vI 0, vI 0]) := st_s (st_p y3)
  have r4_0 : ((H3 ++ [aC 0 4096 (fun _ => 0)]).set h.length (oC 3 ([vR (h.length + 1), vR (h.length + 2), vR (h.length + 3), vR 0, vR 0, vR 0, vR 0, vI 0, vI 0, vI 0, vI 0, vI 0, vI 0].set 3 (vR (h.length + 4)))))[h.length + 1]? = some (aC 0 4096 (fun _ => 0)) := st_n' (by omega) (st_p r3_0)
  have r4_1 : ((H3 ++ [aC 0 4096 (fun _ => 0)]).set h.length (oC 3 ([vR (h.length + 1), vR (h.length + 2), vR (h.length + 3), vR 0, vR 0, vR 0, vR 0, vI 0, vI 0, vI 0, vI 0, vI 0, vI 0].set 3 (vR (h.length + 4)))))[h.length + 2]? = some (aC 0 4096 (fun _ => 0)) := st_n' (by omega) (st_p r3_1)
  have r4_2 : ((H3 ++ [aC 0 4096 (fun _ => 0)]).set h.length (oC 3 ([vR (h.length + 1), vR (h.length + 2), vR (h.length + 3), vR 0, vR 0, vR 0, vR 0, vI 0, vI 0, vI 0, vI 0, vI 0, vI 0].set 3 (vR (h.length + 4)))))[h.length + 3]? = some (aC 0 4096 (fun _ => 0)) := st_n' (by omega) (st_p r3_2)
  have r4_3 : ((H3 ++ [aC 0 4096 (fun _ => 0)]).set h.length (oC 3 ([vR (h.length + 1), vR (h.length + 2), vR (h.length + 3), vR 0, vR 0, vR 0, vR 0, vI 0, vI 0, vI 0, vI 0, vI 0, vI 0].set 3 (vR (h.length + 4)))))[h.length + 4]? = some (aC 0 4096 (fun _ => 0)) := st_n' (by omega) (by rw [← l3]; exact st_pn)
  generalize (H3 ++ [aC 0 4096 (fun _ => 0)]).set h.length (oC 3 ([vR (h.length + 1), vR (h.length + 2), vR (h.length + 3), vR 0, vR 0, vR 0, vR 0, vI 0, vI 0, vI 0, vI 0, vI 0, vI 0].set 3 (vR (h.length + 4)))) = H4 at l4 x4 y4 r4_0 r4_1 r4_2 r4_3 ⊢
  rw [row_put h4 (by decide) (by simp) y4, l4]
  have l5 : ((H4 ++ [aC 0 20 (fun _ => 0)]).set h.length (oC 3 ([vR (h.length + 1), vR (h.length + 2), vR (h.length + 3), vR (h.length + 4), vR 0, vR 0, vR 0, vI 0, vI 0, vI 0, vI 0, vI 0, vI 0].set 4 (vR (h.length + 5))))).length = h.length + 6 := by rw [List.length_set, List.length_append, l4]; rfl
  have x5 : Ext h ((H4 ++ [aC 0 20 (fun _ => 0)]).set h.length (oC 3 ([vR (h.length + 1), vR (h.length + 2), vR (h.length + 3), vR (h.length + 4), vR 0, vR 0, vR 0, vI 0, vI 0, vI 0, vI 0, vI 0, vI 0].set 4 (vR (h.length + 5))))) := (x4.tn Ext.push).set (Nat.le_refl _)
  have y5 : ((H4 ++ [aC 0 20 (fun _ => 0)]).set h.length (oC 3 ([vR (h.length + 1), vR (h.length + 2), vR (h.length + 3), vR (h.length + 4), vR 0, vR 0, vR 0, vI 0, vI 0, vI 0, vI 0, vI 0, vI 0].set 4 (vR (h.length + 5)))))[h.length]? = some (oC 3 [vR (h.length + 1), vR (h.length + 2), vR (h.length + 3), vR (h.length + 4), vR (h.length + 5), vR 0, vR 0, vI 0, vI 0, vI 0, vI 0, vI 0, vI 0]) := st_s (st_p y4)
  have r5_0 : ((H4 ++ [aC 0 20 (fun _ => 0)]).set h.length (oC 3 ([vR (h.length + 1), vR (h.length + 2), vR (h.length + 3), vR (h.length + 4), vR 0, vR 0, vR 0, vI 0, vI 0, vI 0, vI 0, vI 0, vI 0].set 4 (vR (h.length + 5)))))[h.length + 1]? = some (aC 0 4096 (fun _ => 0)) := st_n' (by omega) (st_p r4_0)
  have r5_1 : ((H4 ++ [aC 0 20 (fun _ => 0)]).set h.length (oC 3 ([vR (h.length + 1), vR (h.length + 2), vR (h.length + 3), vR (h.length + 4), vR 0, vR 0, vR 0, vI 0, vI 0, vI 0, vI 0, vI 0, vI 0].set 4 (vR (h.length + 5)))))[h.length + 2]? = some (aC 0 4096 (fun _ => 0)) := st_n' (by omega) (st_p r4_1)
  have r5_2 : ((H4 ++ [aC 0 20 (fun _ => 0)]).set h.length (oC 3 ([vR (h.length + 1), vR (h.length + 2), vR (h.length + 3), vR (h.length + 4), vR 0, vR 0, vR 0, vI 0, vI 0, vI 0, vI 0, vI 0, vI 0].set 4 (vR (h.length + 5)))))[h.length + 3]? = some (aC 0 4096 (fun _ => 0)) := st_n' (by omega) (st_p r4_2)
  have r5_3 : ((H4 ++ [aC 0 20 (fun _ => 0)]).set h.length (oC 3 ([vR (h.length + 1), vR (h.length + 2), vR (h.length + 3), vR (h.length + 4), vR 0, vR 0, vR 0, vI 0, vI 0, vI 0, vI 0, vI 0, vI 0].set 4 (vR (h.length + 5)))))[h.length + 4]? = some (aC 0 4096 (fun _ => 0)) := st_n' (by omega) (st_p r4_3)
  have r5_4 : ((H4 ++ [aC 0 20 (fun _ => 0)]).set h.length (oC 3 ([vR (h.length + 1), vR (h.length + 2), vR (h.length + 3), vR (h.length + 4), vR 0, vR 0, vR 0, vI 0, vI 0, vI 0, vI 0, vI 0, vI 0].set 4 (vR (h.length + 5)))))[h.length + 5]? = some (aC 0 20 (fun _ => 0)) := st_n' (by omega) (by rw [← l4]; exact st_pn)
  generalize (H4 ++ [aC 0 20 (fun _ => 0)]).set h.length (oC 3 ([vR (h.length + 1), vR (h.length + 2), vR (h.length + 3), vR (h.length + 4), vR 0, vR 0, vR 0, vI 0, vI 0, vI 0, vI 0, vI 0, vI 0].set 4 (vR (h.length + 5)))) = H5 at l5 x5 y5 r5_0 r5_1 r5_2 r5_3 r5_4 ⊢
  rw [row_put h4 (by decide) (by simp) y5, l5]
  have l6 : ((H5 ++ [aC 0 20 (fun _ => 0)]).set h.length (oC 3 ([vR (h.length + 1), vR (h.length + 2), vR (h.length + 3), vR (h.length + 4), vR (h.length + 5), vR 0, vR 0, vI 0, vI 0, vI 0, vI 0, vI 0, vI 0].set 5 (vR (h.length + 6))))).length = h.length + 7 := by rw [List.length_set, List.length_append, l5]; rfl
  have x6 : Ext h ((H5 ++ [aC 0 20 (fun _ => 0)]).set h.length (oC 3 ([vR (h.length + 1), vR (h.length + 2), vR (h.length + 3), vR (h.length + 4), vR (h.length + 5), vR 0, vR 0, vI 0, vI 0, vI 0, vI 0, vI 0, vI 0].set 5 (vR (h.length + 6))))) := (x5.tn Ext.push).set (Nat.le_refl _)
  have y6 : ((H5 ++ [aC 0 20 (fun _ => 0)]).set h.length (oC 3 ([vR (h.length + 1), vR (h.length + 2), vR (h.length + 3), vR (h.length + 4), vR (h.length + 5), vR 0, vR 0, vI 0, vI 0, vI 0, vI 0, vI 0, vI 0].set 5 (vR (h.length + 6)))))[h.length]? = some (oC 3 [vR (h.length + 1), vR (h.length + 2), vR (h.length + 3), vR (h.length + 4), vR (h.length + 5), vR (h.length + 6), vR 0, vI 0, vI 0, vI 0, vI 0, vI 0, vI 0]) := st_s (st_p y5)
  have r6_0 : ((H5 ++ [aC 0 20 (fun _ => 0)]).set h.length (oC 3 ([vR (h.length + 1), vR (h.length + 2), vR (h.length + 3), vR (h.length + 4), vR (h.length + 5), vR 0, vR 0, vI 0, vI 0, vI 0, vI 0, vI 0, vI 0].set 5 (vR (h.length + 6)))))[h.length + 1]? = some (aC 0 4096 (fun _ => 0)) := st_n' (by omega) (st_p r5_0)
  have r6_1 : ((H5 ++ [aC 0 20 (fun _ => 0)]).set h.length (oC 3 ([vR (h.length + 1), vR (h.length + 2), vR (h.length + 3), vR (h.length + 4), vR (h.length + 5), vR 0, vR 0, vI 0, vI 0, vI 0, vI 0, vI 0, vI 0].set 5 (vR (h.length + 6)))))[h.length + 2]? = some (aC 0 4096 (fun _ => 0)) := st_n' (by omega) (st_p r5_1)
  have r6_2 : ((H5 ++ [aC 0 20 (fun _ => 0)]).set h.length (oC 3 ([vR (h.length + 1), vR (h.length + 2), vR (h.length + 3), vR (h.length + 4), vR (h.length + 5), vR 0, vR 0, vI 0, vI 0, vI 0, vI 0, vI 0, vI 0].set 5 (vR (h.length + 6)))))[h.length + 3]? = some (aC 0 4096 (fun _ => 0)) := st_n' (by omega) (st_p r5_2)
  have r6_3 : ((H5 ++ [aC 0 20 (fun _ => 0)]).set h.length (oC 3 ([vR (h.length + 1), vR (h.length + 2), vR (h.length + 3), vR (h.length + 4), vR (h.length + 5), vR 0, vR 0, vI 0, vI 0, vI 0, vI 0, vI 0, vI 0].set 5 (vR (h.length + 6)))))[h.length + 4]? = some (aC 0 4096 (fun _ => 0)) := st_n' (by omega) (st_p r5_3)
  have r6_4 : ((H5 ++ [aC 0 20 (fun _ => 0)]).set h.length (oC 3 ([vR (h.length + 1), vR (h.length + 2), vR (h.length + 3), vR (h.length + 4), vR (h.length + 5), vR 0, vR 0, vI 0, vI 0, vI 0, vI 0, vI 0, vI 0].set 5 (vR (h.length + 6)))))[h.length + 5]? = some (aC 0 20 (fun _ => 0)) := st_n' (by omega) (st_p r5_4)
  have r6_5 : ((H5 ++ [aC 0 20 (fun _ => 0)]).set h.length (oC 3 ([vR (h.length + 1), vR (h.length + 2), vR (h.length + 3), vR (h.length + 4), vR (h.length + 5), vR 0, vR 0, vI 0, vI 0, vI 0, vI 0, vI 0, vI 0].set 5 (vR (h.length + 6)))))[h.length + 6]? = some (aC 0 20 (fun _ => 0)) := st_n' (by omega) (by rw [← l5]; exact st_pn)
  generalize (H5 ++ [aC 0 20 (fun _ => 0)]).set h.length (oC 3 ([vR (h.length + 1), vR (h.length + 2), vR (h.length + 3), vR (h.length + 4), vR (h.length + 5), vR 0, vR 0, vI 0, vI 0, vI 0, vI 0, vI 0, vI 0].set 5 (vR (h.length + 6)))) = H6 at l6 x6 y6 r6_0 r6_1 r6_2 r6_3 r6_4 r6_5 ⊢
  exact ⟨H6, rfl, l6, x6, y6, r6_0, r6_1, r6_2, r6_3, r6_4, r6_5⟩
theorem c_all_new (I : CInv SVN h tl tp sl ol of rd tr 0) (s n w : Int32) : ((∀ k r F N W, ¬ okAll sl s n w k r F N W) ∧ fX6_all h 4 s n w = some (-1, h)) ∨ (∃ k r F N W h' x0 x1 x2 x3 x4, okAll sl s n w k r F N W ∧ fX6_all h 4 s n w = some (sel5 x0 x1 x2 x3 x4 W, h') ∧ SVN (k, r, F) N x0 x1 x2 x3 x4 ∧ CInv SVN h' tl tp sl ol of rd tr h.length ∧ Mid h h' ∧ h'.length = h.length + 7) := by
  obtain ⟨he, th, sf, tf, uf, e2, e3, e4, a1, a2, a3, a4, e5, a5, e6, a6, e7, a7, cf, aT, aS, aL⟩ := id I
  unfold fX6_all
  rw [mok e4]
  rcases ruleIn_st e4 e5 a5 s with ⟨q, e⟩ | ⟨a, k, r, F, q, e, ha, g, R⟩
  · left
    rw [e, call_ok, if_pos rfl]
    exact ⟨(fun k r F N W z => by have := z.1; rw [q] at this; cases this), rfl⟩
  obtain ⟨g1, g2, g3, g4, gF⟩ := id g
  rw [e, call_ok, if_neg (by omega)]
  rcases w_cases w with z | ⟨W, hW, rfl⟩
  · left
    refine ⟨fun k r F N W y => w_no z y.2.2.2.2.2.2.2 y.2.2.2.2.2.2.1, ?_⟩
    by_cases z1 : w < 0
    · rw [if_pos z1]
    · rw [if_neg z1, if_neg (z.resolve_left z1)]
  rw [if_neg (nI_nn (by omega)), show (4 : Int32) = nI 4 from rfl, if_leI (by omega) (by omega), if_pos hW, rk R]
  simp only [Option.bind_some]
  rcases ringsOf_ok (h := h) g1 g2 n with ⟨z1, z2⟩ | ⟨N, rfl, z1, z2, z3, z4⟩
  · left
    rw [z2, call_ok, if_pos rfl]
    refine ⟨fun k' r' F' N W y => ?_, rfl⟩
    have hkk := y.1
    rw [q] at hkk
    cases hkk
    exact z1 N y.2.2.1 (by have := y.2.2.2.2.1; omega) ⟨y.2.2.2.1, y.2.2.2.2.2.1⟩
  · right
    rw [z4, call_ok, if_neg (fun y => nI_nm1 (by omega) y), m13 e4]
    simp only [Option.bind_some]
    rw [if_pos trivial]
    obtain ⟨H, i1, i2, i3, j0, j1, j2, j3, j4, j5, j6⟩ := sinit_ok (h := h) (by omega)
    have hh : (mkO h 3 [vR 0, vR 0, vR 0, vR 0, vR 0, vR 0, vR 0, vI 0, vI 0, vI 0, vI 0, vI 0, vI 0] fun q7 h8 => (fX3_init h8 q7).bind fun h10 => (pF h10 4 6 13 (vR q7)).bind fun h11 => fX6_all_b60 4 (nI N) (nI W) a (nI (k ^ N)) h11) = fX6_all_b60 4 (nI N) (nI W) a (nI (k ^ N)) (H.set 4 (mo (nI tl) (nI ol) (nI rd) he th tr h.length)) := by
      unfold mkO
      show Option.bind (fX3_init (h ++ [oC 3 [vR 0, vR 0, vR 0, vR 0, vR 0, vR 0, vR 0, vI 0, vI 0, vI 0, vI 0, vI 0, vI 0]]) h.length) _ = _
      rw [i1]
      simp only [Option.bind_some]
      rw [p13 (i3 _ _ e4)]
      rfl
    rw [hh]
    have up : Up h (H.set 4 (mo (nI tl) (nI ol) (nI rd) he th tr h.length)) := ⟨by rw [List.length_set]; omega, fun i c hi e => st_n' (by omega) (i3 i c e)⟩
    have lo : ∀ {i : Nat} {d : HC}, i ≠ 4 → h[i]? = some d → (H.set 4 (mo (nI tl) (nI ol) (nI rd) he th tr h.length))[i]? = some d := fun hi e => st_n' (Ne.symm hi) (i3 _ _ e)
    have I1 : CInv SVN (H.set 4 (mo (nI tl) (nI ol) (nI rd) he th tr h.length)) tl tp sl ol of rd tr h.length := by
      refine ⟨he, th, sf, tf, uf, lo (by decide) e2, lo (by decide) e3, st_s (i3 _ _ e4), a1, a2, a3, a4, lo (by decide) e5, fun s hs => (a5 s hs).up up, lo (by decide) e6, a6, lo (by decide) e7, a7, ?_, aT.up up, ?_, by rw [List.length_set]; omega⟩
      · obtain ⟨f8, f9, f10, f11, f12, f13, f14, f15, f16, f17, f18, f19⟩ := cf
        exact ⟨f8.imp fun _ q => lo (by decide) q, f9.imp fun _ q => lo (by decide) q, f10.imp fun _ q => lo (by decide) q, f11.imp fun _ q => q.imp fun _ q => lo (by decide) q, f12.imp fun _ q => lo (by decide) q, f13.imp fun _ q => lo (by decide) q, f14.imp fun _ q => lo (by decide) q, f15.imp fun _ q => lo (by decide) q, f16.imp fun _ q => lo (by decide) q, f17.imp fun _ q => lo (by decide) q, lo (by decide) f18, f19.imp fun _ q => lo (by decide) q⟩
      · exact Or.inr ⟨aL, 0, 0, 0, 0, 0, 0, 0, _, _, _, _, _, _, st_n' (by omega) j0, st_n' (by omega) j1, st_n' (by omega) j2, st_n' (by omega) j3, st_n' (by omega) j4, st_n' (by omega) j5, st_n' (by omega) j6, Or.inl rfl⟩
    obtain ⟨H2, x0, x1, x2, x3, x4, c1, c2, c3, c4, c5⟩ := all_core I1 (by omega) g ha (R.up up (by omega) (by omega)) z1 z2 z3 hW
    exact ⟨k, r, F, N, W, H2, x0, x1, x2, x3, x4, ⟨q, g, rfl, z1, z2, z3, rfl, hW⟩, c1, c2, c3, up.mid.tn c4, by rw [c5, List.length_set, i2]⟩
end SC

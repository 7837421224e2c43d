section HC3
variable {SV : SVP} {h H : Hp} {tl : Nat} {tp : Nat → Nat} {sl : SL} {ol : Nat} {of : Nat → Nat} {rd tr su : Nat}
/-- cells from the first stay, whatever is made -/
def Ext (h h' : Hp) : Prop := ∀ (i : Nat) (c : HC), h[i]? = some c → h'[i]? = some c
theorem Ext.push {c : HC} : Ext h (h ++ [c]) := fun _ _ e => st_p e
theorem Ext.tn {h' h'' : Hp} (a : Ext h h') (b : Ext h' h'') : Ext h h'' := fun i c e => b i c (a i c e)
theorem Ext.set {h' : Hp} {i : Nat} {c : HC} (a : Ext h h') (hi : h.length ≤ i) : Ext h (h'.set i c) := fun j d e => st_n' (by have := (List.getElem?_eq_some_iff.mp e).1; omega) (a j d e)
theorem mkL_ok {h : Hp} {n : Nat} {β : Type} {K : Nat → Hp → Option β} (hn : n < 2 ^ 31) : mkL h n (nI n) K = K h.length (h ++ [lC n (fun _ => 0)]) := by
  unfold mkL
  rw [cl_nI hn, if_neg (fun z => z.elim (fun w => nI_nn hn w) (fun w => absurd w (Nat.lt_irrefl _)))]
theorem mkA_ok {h : Hp} {tg n : Nat} {β : Type} {K : Nat → Hp → Option β} (hn : n < 2 ^ 31) : mkA h tg n (nI n) K = K h.length (h ++ [aC tg n (fun _ => 0)]) := by
  unfold mkA
  rw [cl_nI hn, if_neg (fun z => z.elim (fun w => nI_nn hn w) (fun w => absurd w (Nat.lt_irrefl _)))]
theorem tinit_ok (h4 : 4 ≤ h.length) : ∃ H, fX4_init (h ++ [oC 4 [vR 0, vR 0, vR 0, vI 0]]) h.length = some H ∧ H.length = h.length + 4 ∧ Ext h H ∧ H[h.length]? = some (tob h.length (h.length + 2) (h.length + 3) 0) ∧ H[h.length + 1]? = some (lC 20001 (fun _ => 0)) ∧ H[h.length + 2]? = some (aC 0 20 (fun _ => 0)) ∧ H[h.length + 3]? = some (aC 0 20 (fun _ => 0)) := by
  unfold fX4_init
  rw [if_neg (by omega), show (20001 : Int32) = nI 20001 from rfl, mkL_ok (by decide)]
  have l1 : (h ++ [oC 4 [vR 0, vR 0, vR 0, vI 0]]).length = h.length + 1 := by simp
  have x1 : Ext h ((h ++ [oC 4 [vR 0, vR 0, vR 0, vI 0]]) ++ [lC 20001 (fun _ => 0)]) := Ext.push.tn Ext.push
  have y0 : ((h ++ [oC 4 [vR 0, vR 0, vR 0, vI 0]]) ++ [lC 20001 (fun _ => 0)])[h.length]? = some (oC 4 [vR 0, vR 0, vR 0, vI 0]) := st_p st_pn
  have y1 : ((h ++ [oC 4 [vR 0, vR 0, vR 0, vI 0]]) ++ [lC 20001 (fun _ => 0)])[h.length + 1]? = some (lC 20001 (fun _ => 0)) := by rw [← l1]; exact st_pn
  have l2 : ((h ++ [oC 4 [vR 0, vR 0, vR 0, vI 0]]) ++ [lC 20001 (fun _ => 0)]).length = h.length + 2 := by simp
  rw [l1]
  generalize (h ++ [oC 4 [vR 0, vR 0, vR 0, vI 0]]) ++ [lC 20001 (fun _ => 0)] = h2 at x1 y0 y1 l2 ⊢
  rw [pF_of (fs := [vR 0, vR 0, vR 0, vI 0]) (by omega) y0 (by simp)]
  simp only [Option.bind_some]
  rw [show (20 : Int32) = nI 20 from rfl, mkA_ok (by decide)]
  have l3 : (h2.set h.length (oC 4 ([vR 0, vR 0, vR 0, vI 0].set 0 (vR (h.length + 1))))).length = h.length + 2 := by rw [List.length_set]; exact l2
  have x3 : Ext h (h2.set h.length (oC 4 ([vR 0, vR 0, vR 0, vI 0].set 0 (vR (h.length + 1))))) := x1.set (Nat.le_refl _)
  have z0 : (h2.set h.length (oC 4 ([vR 0, vR 0, vR 0, vI 0].set 0 (vR (h.length + 1)))))[h.length]? = some (oC 4 [vR (h.length + 1), vR 0, vR 0, vI 0]) := st_s y0
  have z1 : (h2.set h.length (oC 4 ([vR 0, vR 0, vR 0, vI 0].set 0 (vR (h.length + 1)))))[h.length + 1]? = some (lC 20001 (fun _ => 0)) := st_n' (by omega) y1
  rw [l3]
  generalize h2.set h.length (oC 4 ([vR 0, vR 0, vR 0, vI 0].set 0 (vR (h.length + 1)))) = h3 at x3 z0 z1 l3 ⊢
  rw [pF_of (fs := [vR (h.length + 1), vR 0, vR 0, vI 0]) (by omega) (st_p z0) (by simp)]
  simp only [Option.bind_some]
  rw [mkA_ok (by decide)]
  have l4 : ((h3 ++ [aC 0 20 (fun _ => 0)]).set h.length (oC 4 ([vR (h.length + 1), vR 0, vR 0, vI 0].set 1 (vR (h.length + 2))))).length = h.length + 3 := by rw [List.length_set, List.length_append, l3]; rfl
  have x4 : Ext h ((h3 ++ [aC 0 20 (fun _ => 0)]).set h.length (oC 4 ([vR (h.length + 1), vR 0, vR 0, vI 0].set 1 (vR (h.length + 2))))) := (x3.tn Ext.push).set (Nat.le_refl _)
  have w0 : ((h3 ++ [aC 0 20 (fun _ => 0)]).set h.length (oC 4 ([vR (h.length + 1), vR 0, vR 0, vI 0].set 1 (vR (h.length + 2)))))[h.length]? = some (oC 4 [vR (h.length + 1), vR (h.length + 2), vR 0, vI 0]) := st_s (st_p z0)
  have w1 : ((h3 ++ [aC 0 20 (fun _ => 0)]).set h.length (oC 4 ([vR (h.length + 1), vR 0, vR 0, vI 0].set 1 (vR (h.length + 2)))))[h.length + 1]? = some (lC 20001 (fun _ => 0)) := st_n' (by omega) (st_p z1)
  have w2 : ((h3 ++ [aC 0 20 (fun _ => 0)]).set h.length (oC 4 ([vR (h.length + 1), vR 0, vR 0, vI 0].set 1 (vR (h.length + 2)))))[h.length + 2]? = some (aC 0 20 (fun _ => 0)) := st_n' (by omega) (by rw [← l3]; exact st_pn)
  rw [l4]
  generalize (h3 ++ [aC 0 20 (fun _ => 0)]).set h.length (oC 4 ([vR (h.length + 1), vR 0, vR 0, vI 0].set 1 (vR (h.length + 2)))) = h4' at x4 w0 w1 w2 l4 ⊢
  rw [pF_of (fs := [vR (h.length + 1), vR (h.length + 2), vR 0, vI 0]) (by omega) (st_p w0) (by simp)]
  refine ⟨_, rfl, ?_, (x4.tn Ext.push).set (Nat.le_refl _), st_s (st_p w0), st_n' (by omega) (st_p w1), st_n' (by omega) (st_p w2), st_n' (by omega) (by rw [← l4]; exact st_pn)⟩
  rw [List.length_set, List.length_append, l4]
  rfl
theorem c_height_new (I : CInv SV h tl tp sl ol of rd 0 su) (s : Int32) : ((∀ k r F, ruleOf sl s = some (k, r, F) → ¬ Few k tl tp) ∧ ∃ h', fX6_height h 4 s = some (-1, h') ∧ CInv SV h' 0 tp sl ol of rd 0 su ∧ Mid h h' ∧ h'.length = h.length) ∨ (∃ k r F h', ruleOf sl s = some (k, r, F) ∧ GR k r F ∧ Few k tl tp ∧ Mid h h' ∧ h'.length = h.length + 4 ∧ ((∃ j i, i ≤ 20000 ∧ FR (coN k r F tl tp) j i ∧ fX6_height h 4 s = some (nI j, h') ∧ CInv SV h' 0 tp sl ol of (i - j) h.length su) ∨ ((∀ p q, p < q → q ≤ 20000 → coN k r F tl tp p ≠ coN k r F tl tp q) ∧ fX6_height h 4 s = some (-1, h') ∧ CInv SV h' 0 tp sl ol of rd h.length su))) := by
  obtain ⟨h0, he, th, sf, tf, uf, c0, I0, u0, e4, a4, e5, a5, e6, a6, e7, a7, cf, e2, e3, a1, a2, a3, aT, aS, aL⟩ := c_pre I
  have hl0 : h0.length = h.length := by
    obtain ⟨he', th', sf', tf', uf', -, -, e4', -⟩ := I
    rw [mok e4', takeTape_ok e4'] at c0
    have := congrArg Prod.snd (Option.some.inj c0)
    rw [← show _ = h0 from this]
    simp
  unfold fX6_height
  rw [c0, call_ok, mok e4]
  rcases ruleIn_st e4 e5 a5 s with ⟨q, e⟩ | ⟨a, k, r, F, q, e, ha, g, R⟩
  · left
    rw [e, call_ok, if_pos rfl]
    exact ⟨(fun k r F h9 => by rw [q] at h9; cases h9), _, rfl, I0, u0.mid, hl0⟩
  obtain ⟨g1, g2, g3, g4, gF⟩ := id g
  rw [e, call_ok, if_neg (by omega), rk R]
  simp only [Option.bind_some]
  rw [mok e4]
  rcases areFew_ok e4 e6 a1 (show k < 1000 by omega) a6 with ⟨b1, b2⟩ | ⟨b1, b2⟩
  · right
    rw [b2, call_ok, if_neg one_ne, m12 e4]
    simp only [Option.bind_some]
    rw [if_pos trivial]
    obtain ⟨H, i1, i2, i3, j0, j1, j2, j3⟩ := tinit_ok (h := h0) (by omega)
    have hh : (mkO h0 4 [vR 0, vR 0, vR 0, vI 0] fun q9 h10 => (fX4_init h10 q9).bind fun h12 => (pF h12 4 6 12 (vR q9)).bind fun h13 => fX6_height_b47 4 (nI tl) a h13) = fX6_height_b47 4 (nI tl) a (H.set 4 (mo (nI 0) (nI ol) (nI rd) he th h0.length su)) := by
      unfold mkO
      show Option.bind (fX4_init (h0 ++ [oC 4 [vR 0, vR 0, vR 0, vI 0]]) h0.length) _ = _
      rw [i1]
      simp only [Option.bind_some]
      rw [p12 (i3 _ _ e4)]
      rfl
    rw [hh]
    have up : Up h0 (H.set 4 (mo (nI 0) (nI ol) (nI rd) he th h0.length su)) := ⟨by rw [List.length_set]; omega, fun i c hi e => st_n' (by omega) (i3 i c e)⟩
    have lo : ∀ {i : Nat} {d : HC}, i ≠ 4 → h0[i]? = some d → (H.set 4 (mo (nI 0) (nI ol) (nI rd) he th h0.length su))[i]? = some d := fun hi e => st_n' (Ne.symm hi) (i3 _ _ e)
    have I1 : CInv SV (H.set 4 (mo (nI 0) (nI ol) (nI rd) he th h0.length su)) 0 tp sl ol of rd h0.length su := by
      refine ⟨he, th, sf, tf, uf, lo (by decide) e2, lo (by decide) e3, st_s (i3 _ _ e4), by omega, a2, a3, a4, lo (by decide) e5, fun s hs => (a5 s hs).up up, lo (by decide) e6, fun i hi => by omega, lo (by decide) e7, a7, ?_, ?_, aS.up up, by rw [List.length_set]; omega⟩
      · obtain ⟨f8, f9, f10, f11, f12, f13, f14, f15, f16, f17, f18, f19⟩ := cf
        exact ⟨f8.imp fun _ q => lo (by decide) q, f9.imp fun _ q => lo (by decide) q, f10.imp fun _ q => lo (by decide) q, f11.imp fun _ q => q.imp fun _ q => lo (by decide) q, f12.imp fun _ q => lo (by decide) q, f13.imp fun _ q => lo (by decide) q, f14.imp fun _ q => lo (by decide) q, f15.imp fun _ q => lo (by decide) q, f16.imp fun _ q => lo (by decide) q, f17.imp fun _ q => lo (by decide) q, lo (by decide) f18, f19.imp fun _ q => lo (by decide) q⟩
      · exact Or.inr ⟨aL, _, _, 0, _, _, _, st_n' (by omega) j0, st_n' (by omega) j1, st_n' (by omega) j2, st_n' (by omega) j3, Or.inl ⟨rfl, rfl⟩⟩
    rw [← hl0]
    rcases height_core I1 (by omega) g (R.up up (by omega) (by omega)) b1.1 b1.2.1 b1.2.2 (lo (by decide) e6) (fun i hi => (a6 i hi).1) with ⟨H2, j, i, z1, z2, z3, z4, z5, z6⟩ | ⟨H2, z1, z2, z3, z4, z5⟩
    · exact ⟨k, r, F, H2, q, g, b1, (u0.mid.tn up.mid).tn z5, by rw [z6, List.length_set, i2], Or.inl ⟨j, i, z1, z2, z3, z4⟩⟩
    · exact ⟨k, r, F, H2, q, g, b1, (u0.mid.tn up.mid).tn z4, by rw [z5, List.length_set, i2], Or.inr ⟨z1, z2, z3⟩⟩
  · left
    rw [b2, call_ok, if_pos rfl]
    exact ⟨fun k' r' F' h9 h8 => by rw [q] at h9; cases h9; exact b1 h8, _, rfl, I0, u0.mid, hl0⟩
end HC3

section ML
variable {h : Hp} {thr sz : Int32} {tl : Nat} {tp : Nat → Nat} {sl : SL} {ol : Nat} {of : Nat → Nat} {rd : Nat}
/-- the table where n words of the draft are laid into slot j -/
def layF (tbf : Nat → Int32) (j n : Nat) : Nat → Int32 := fun x => if 27 * j ≤ x ∧ x < 27 * j + n then tbf (162 + (x - 27 * j)) else tbf x
theorem layF_0 {tbf : Nat → Int32} {j : Nat} : layF tbf j 0 = tbf := by
  funext x
  unfold layF
  rw [if_neg (by omega)]
theorem layF_s {tbf : Nat → Int32} {j n : Nat} : upd (layF tbf j n) (27 * j + n) (tbf (162 + n)) = layF tbf j (n + 1) := by
  funext x
  unfold upd layF
  by_cases q : x = 27 * j + n
  · subst q
    rw [if_pos rfl, if_pos (by omega), Nat.add_sub_cancel_left]
  · rw [if_neg q]
    by_cases q2 : 27 * j ≤ x ∧ x < 27 * j + n
    · rw [if_pos q2, if_pos (by omega)]
    · rw [if_neg q2, if_neg (by omega)]
theorem layF_hi {tbf : Nat → Int32} {j n i : Nat} (hj : j < 6) (hn : n ≤ 27) : layF tbf j n (162 + i) = tbf (162 + i) := if_neg (by omega)
/-- a rule from the draft is laid into a slot -/
theorem MInv.lay (I : MInv h thr sz tl tp sl ol of rd) {tbf : Nat → Int32} (e4 : h[24]? = some (aC 0 189 tbf)) {j k r : Nat} {F : Nat → Nat} (g : GR k r F) (hj : j < 6) (hF : ∀ w, w < k ^ r → tbf (162 + w) = nI (F w)) : ∃ h', fX7_lay h 20 (nI j) (nI k) (nI r) = some h' ∧ MInv h' thr sz tl tp (upS sl j (k, r, F)) ol of rd ∧ Dn h h' := by
  obtain ⟨tpf, stf, wdf, tbf', otf, e0, a1, a2, a3, e1, b1, e2, e3, e4', b2, e5, b3, Fx⟩ := I
  have htb : tbf' = tbf := by
    have := Option.some.inj (e4'.symm.trans e4)
    simp only [Sum.inr.injEq, Sum.inl.injEq, Prod.mk.injEq, true_and] at this
    exact this
  subst htb
  obtain ⟨n1, n2, n3, n4, n5⟩ := g.nums
  have E0 : ∀ u, (h.set 24 u)[20]? = some (mob thr (nI tl) sz (nI ol) (nI rd)) := fun u => st_n' (by decide) e0
  refine ⟨((h.set 24 (aC 0 189 (layF tbf' j (k ^ r)))).set 22 (aC 0 6 (upd stf j (nI k)))).set 23 (aC 0 6 (upd wdf j (nI r))), ?_, ⟨tpf, upd stf j (nI k), upd wdf j (nI r), layF tbf' j (k ^ r), otf, st_n' (by decide) (st_n' (by decide) (E0 _)), a1, a2, a3, st_n' (by decide) (st_n' (by decide) (st_n' (by decide) e1)), b1, st_n' (by decide) (st_s (st_n' (by decide) e2)), st_s (st_n' (by decide) (st_n' (by decide) e3)), st_n' (by decide) (st_n' (by decide) (st_s e4)), fun s hs => ?_, st_n' (by decide) (st_n' (by decide) (st_n' (by decide) e5)), b3, ((Fx.o (by decide)).o (by decide)).o (by decide)⟩, ((Dn.rf.st (by decide)).st (by decide)).st (by decide)⟩
  · unfold fX7_lay
    have key := upto (fun q i => fX7_lay_w3 q 20 (nI j) (nI k) (nI r) (nI i) (h.set 24 (aC 0 189 (layF tbf' j i)))) (k ^ r) (fX7_lay_b42 20 (nI j) (nI k) (nI r) (h.set 24 (aC 0 189 (layF tbf' j (k ^ r))))) (fun q i hi => by
      rw [fX7_lay_w3]
      simp only []
      rw [mpower (by omega) (by omega), call_ok, if_leI (by omega) (by omega), if_neg (by omega), o_6 (E0 _)]
      simp only [Option.bind_some]
      rw [show (162 : Int32) = nI 162 from rfl, nI_add, aI_of (st_s e4) (by omega) (by decide), layF_hi hj (by omega)]
      simp only [Option.bind_some]
      rw [show (27 : Int32) = nI 27 from rfl, pk_mul, nI_add, sI_of (by decide) (st_s e4) (by omega) (by decide), x_nar0, layF_s]
      simp only [Option.bind_some]
      rw [List.set_set, nI_p1]) (fun q => by
      rw [fX7_lay_w3]
      simp only []
      rw [mpower (by omega) (by omega), call_ok, if_leI (by omega) (by omega), if_pos (Nat.le_refl _)]) 0 FUEL (by omega) (fuel_big (by omega))
    rw [layF_0, st_id e4] at key
    rw [l0]
    refine Eq.trans key ?_
    unfold fX7_lay_b42
    rw [o_4 (E0 _)]
    simp only [Option.bind_some]
    rw [sI_of (by decide) (st_n' (by decide) e2) hj (by decide), x_nar0]
    simp only [Option.bind_some]
    rw [o_5 (st_n' (by decide) (E0 _))]
    simp only [Option.bind_some]
    rw [sI_of (by decide) (st_n' (by decide) (st_n' (by decide) e3)) hj (by decide), x_nar0]
    rfl
  · unfold upS
    by_cases q : s = j
    · subst q
      rw [if_pos rfl]
      refine ⟨g, upd_self, upd_self, fun w hw => ?_⟩
      have hw' : w < k ^ r := hw
      show layF tbf' s (k ^ r) (27 * s + w) = nI (F w)
      unfold layF
      rw [if_pos (by omega), Nat.add_sub_cancel_left, hF w hw']
    · rw [if_neg q]
      have hs2 := b2 s hs
      cases hsl : sl s with
      | none =>
        rw [hsl] at hs2
        have hs0 : stf s = nI 0 := hs2
        show upd stf j (nI k) s = nI 0
        rw [upd_ne q, hs0]
      | some x =>
        obtain ⟨k', r', F'⟩ := x
        rw [hsl] at hs2
        obtain ⟨g', t1, t2, t3⟩ := hs2
        obtain ⟨m1, m2, m3, m4, m5⟩ := g'.nums
        refine ⟨g', by rw [upd_ne q]; exact t1, by rw [upd_ne q]; exact t2, fun w hw => ?_⟩
        have hw' : w < k' ^ r' := hw
        have m1' : k' ^ r' ≤ 27 := m1
        show layF tbf' j (k ^ r) (27 * s + w) = nI (F' w)
        unfold layF
        rw [if_neg (by omega)]
        exact t3 w hw
end ML

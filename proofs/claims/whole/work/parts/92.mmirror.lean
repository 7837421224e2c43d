/-- the draft where m words of G are written -/
def drF (tbf : Nat → Int32) (G : Nat → Nat) (m : Nat) : Nat → Int32 := fun x => if 162 ≤ x ∧ x < 162 + m then nI (G (x - 162)) else tbf x
theorem drF_0 {tbf : Nat → Int32} {G : Nat → Nat} : drF tbf G 0 = tbf := by
  funext x
  unfold drF
  rw [if_neg (by omega)]
theorem drF_s {tbf : Nat → Int32} {G : Nat → Nat} {m : Nat} : upd (drF tbf G m) (162 + m) (nI (G m)) = drF tbf G (m + 1) := by
  funext x
  unfold upd drF
  by_cases q : x = 162 + m
  · subst q
    rw [if_pos rfl, if_pos (by omega), Nat.add_sub_cancel_left]
  · rw [if_neg q]
    by_cases q2 : 162 ≤ x ∧ x < 162 + m
    · rw [if_pos q2, if_pos (by omega)]
    · rw [if_neg q2, if_neg (by omega)]
theorem drF_lo {tbf : Nat → Int32} {G : Nat → Nat} {m x : Nat} (hx : x < 162) : drF tbf G m x = tbf x := if_neg (by omega)
theorem drF_hi {tbf : Nat → Int32} {G : Nat → Nat} {m w : Nat} (hw : w < m) : drF tbf G m (162 + w) = nI (G w) := by
  unfold drF
  rw [if_pos (by omega), Nat.add_sub_cancel_left]
section MM
variable {h : Hp} {thr sz : Int32} {tl : Nat} {tp : Nat → Nat} {sl : SL} {ol : Nat} {of : Nat → Nat} {rd : Nat}
theorem m_mirror (I : MInv h thr sz tl tp sl ol of rd) (s t : Int32) : (((ruleOf sl s = none) ∨ t < 0 ∨ nI 6 ≤ t) ∧ ∃ h', fX7_mirror h 20 s t = some (0, h') ∧ MInv h' 0 sz tl tp sl ol of rd ∧ Dn h h') ∨ (∃ k r F j h', ruleOf sl s = some (k, r, F) ∧ GR k r F ∧ j < 6 ∧ t = nI j ∧ fX7_mirror h 20 s t = some (1, h') ∧ MInv h' 0 sz tl tp (upS sl j (k, r, fun w => F (revN k w r))) ol of rd ∧ Dn h h') := by
  obtain ⟨h1, c1, I1, d1⟩ := I.begin
  obtain ⟨tpf, stf, wdf, tbf, otf, e0, a1, a2, a3, e1, b1, e2, e3, e4, b2, e5, b3, Fx⟩ := id I1
  unfold fX7_mirror
  rw [c1]
  simp only [Option.bind_some]
  rw [oo e0]
  rcases mhas e0 e2 b2 s with ⟨q, e⟩ | ⟨i0, k, r, F, hi0, rfl, q, e, g, s1, s2, s3⟩
  · left
    rw [e, call_ok, if_pos rfl, retZ0]
    exact ⟨Or.inl q, h1, rfl, I1, d1⟩
  rw [e, call_ok, if_neg one_ne]
  rcases misSlot (h := h1) t with ⟨q1, e9⟩ | ⟨j, hj, rfl, e9⟩
  · left
    rw [e9, call_ok, if_pos rfl, retZ0]
    exact ⟨Or.inr q1, h1, rfl, I1, d1⟩
  right
  obtain ⟨n1, n2, n3, n4, n5⟩ := g.nums
  obtain ⟨g1, g2, g3, g4, gF⟩ := id g
  rw [e9, call_ok, if_neg one_ne, o_4 e0]
  simp only [Option.bind_some]
  rw [aI_of e2 hi0 (by decide), s1]
  simp only [Option.bind_some]
  have E0 : ∀ u, (h1.set 24 u)[20]? = some (mob 0 (nI tl) sz (nI ol) (nI rd)) := fun u => st_n' (by decide) e0
  have E3 : ∀ u, (h1.set 24 u)[23]? = some (aC 0 6 wdf) := fun u => st_n' (by decide) e3
  have key := upto (fun q w => fX7_mirror_w32 q 20 (nI i0) (nI j) (nI k) (nI w) (h1.set 24 (aC 0 189 (drF tbf (fun w => F (revN k w r)) w)))) (k ^ r) (fX7_mirror_b115 20 (nI i0) (nI j) (nI k) (h1.set 24 (aC 0 189 (drF tbf (fun w => F (revN k w r)) (k ^ r))))) (fun q w hw => by
    have hrv := revN_lt (k := k) (by omega) w r
    have hF := gF _ hrv
    rw [fX7_mirror_w32]
    simp only []
    rw [o_5 (E0 _)]
    simp only [Option.bind_some]
    rw [aI_of (E3 _) hi0 (by decide), s2]
    simp only [Option.bind_some]
    rw [mpower (by omega) (by omega), call_ok, if_leI (by omega) (by omega), if_neg (by omega)]
    have inner := upto (fun q2 i => fX7_mirror_w57 (fX7_mirror_w32 q) q2 20 (nI i0) (nI j) (nI k) (nI w) (nI (revN k w i)) (nI (w / k ^ i)) (nI i) (h1.set 24 (aC 0 189 (drF tbf (fun w => F (revN k w r)) w)))) r (fX7_mirror_b91 (fX7_mirror_w32 q) 20 (nI i0) (nI j) (nI k) (nI w) (nI (revN k w r)) (h1.set 24 (aC 0 189 (drF tbf (fun w => F (revN k w r)) w)))) (fun q2 i hi => by
      have hle : w / k ^ i ≤ w := Nat.div_le_self _ _
      rw [fX7_mirror_w57]
      simp only []
      rw [o_5 (E0 _)]
      simp only [Option.bind_some]
      rw [aI_of (E3 _) hi0 (by decide), s2]
      simp only [Option.bind_some]
      rw [if_leI (by omega) (by omega), if_neg (by omega), iRem_nI (by omega) (by omega) (by omega), setv_ok, pk_mul, nI_add, iDiv_nI (by omega) (by omega) (by omega), Nat.div_div_eq_div_mul, ← Nat.pow_succ, nI_p1, revN, Nat.mul_comm k]) (fun q2 => by
      rw [fX7_mirror_w57]
      simp only []
      rw [o_5 (E0 _)]
      simp only [Option.bind_some]
      rw [aI_of (E3 _) hi0 (by decide), s2]
      simp only [Option.bind_some]
      rw [if_leI (by omega) (by omega), if_pos (Nat.le_refl _)]) 0 FUEL (by omega) (fuel_big (by omega))
    rw [Nat.pow_zero, Nat.div_one] at inner
    refine Eq.trans (show fX7_mirror_w57 (fX7_mirror_w32 q) FUEL 20 (nI i0) (nI j) (nI k) (nI w) (nI 0) (nI w) (nI 0) _ = _ from inner) ?_
    unfold fX7_mirror_b91
    rw [o_6 (E0 _)]
    simp only [Option.bind_some]
    rw [oo (E0 _), mtells (F := F) (E0 _) (st_s e4) g hi0 (fun w hw => by rw [drF_lo (by omega)]; exact s3 w hw) hrv, call_ok, show (162 : Int32) = nI 162 from rfl, nI_add, sI_of (by decide) (st_s e4) (by omega) (by decide), x_nar0]
    simp only [Option.bind_some]
    rw [List.set_set, nI_p1, show upd (drF tbf (fun w => F (revN k w r)) w) (162 + w) (nI (F (revN k w r))) = drF tbf (fun w => F (revN k w r)) (w + 1) from drF_s (G := fun w => F (revN k w r))]) (fun q => by
    rw [fX7_mirror_w32]
    simp only []
    rw [o_5 (E0 _)]
    simp only [Option.bind_some]
    rw [aI_of (E3 _) hi0 (by decide), s2]
    simp only [Option.bind_some]
    rw [mpower (by omega) (by omega), call_ok, if_leI (by omega) (by omega), if_pos (Nat.le_refl _)]) 0 FUEL (by omega) (fuel_big (by omega))
  rw [drF_0, st_id e4] at key
  have gm : GR k r (fun w => F (revN k w r)) := ⟨g1, g2, g3, g4, fun w _ => gF _ (revN_lt (by omega) w r)⟩
  obtain ⟨I4, d4⟩ := I1.draft e4 (tbf2 := drF tbf (fun w => F (revN k w r)) (k ^ r)) (fun x hx => drF_lo hx)
  obtain ⟨h5, y1, I5, d5⟩ := I4.lay (st_s e4) gm hj (fun w hw => drF_hi hw)
  refine ⟨k, r, F, j, h5, q, g, hj, rfl, ?_, I5, (d1.tn d4).tn d5⟩
  rw [l0]
  refine Eq.trans key ?_
  unfold fX7_mirror_b115
  rw [o_5 (E0 _)]
  simp only [Option.bind_some]
  rw [aI_of (E3 _) hi0 (by decide), s2]
  simp only [Option.bind_some]
  rw [oo (E0 _), y1]
  rfl
end MM

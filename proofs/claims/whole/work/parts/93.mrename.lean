/-- a word in other names, from its first cell on -/
def hiN (k x : Nat) (nm : Nat → Nat) (r : Nat) : Nat → Nat
  | 0 => 0
  | j + 1 => k * hiN k x nm r j + nm (x / k ^ (r - 1 - j) % k)
theorem hiN_tr {k x r : Nat} {nm : Nat → Nat} : ∀ j, j ≤ r → hiN k x nm r j * k ^ (r - j) + trN k x nm (r - j) = trN k x nm r
  | 0, _ => by simp [hiN]
  | j + 1, h => by
    have ih := hiN_tr (k := k) (x := x) (r := r) (nm := nm) j (by omega)
    obtain ⟨q, hq⟩ : ∃ q, r - j = q + 1 := ⟨r - j - 1, by omega⟩
    rw [hq, trN] at ih
    rw [hiN, show r - (j + 1) = q by omega, show r - 1 - j = q by omega, Nat.add_mul, Nat.add_assoc]
    rw [← ih, Nat.pow_succ, Nat.add_comm (trN k x nm q), ← Nat.add_assoc, ← Nat.add_assoc, Nat.mul_comm k, Nat.mul_assoc, Nat.mul_comm k (k ^ q)]
theorem hiN_r {k x r : Nat} {nm : Nat → Nat} : hiN k x nm r r = trN k x nm r := by
  have := hiN_tr (k := k) (x := x) (nm := nm) r (Nat.le_refl r)
  rw [Nat.sub_self, Nat.pow_zero, Nat.mul_one, trN, Nat.add_zero] at this
  exact this
section MN
variable {h : Hp} {thr sz : Int32} {tl : Nat} {tp : Nat → Nat} {sl : SL} {ol : Nat} {of : Nat → Nat} {rd : Nat}
theorem m_rename (I : MInv h thr sz tl tp sl ol of rd) (s t : Int32) : ((∀ k r F j, ¬ okRen sl tl tp s t k r F j) ∧ ∃ h', fX7_rename h 20 s t = some (0, h') ∧ MInv h' 0 (nI tl) 0 tp sl ol of rd ∧ Dn h h') ∨ (∃ k r F j h', okRen sl tl tp s t k r F j ∧ GR k r F ∧ fX7_rename h 20 s t = some (1, h') ∧ MInv h' 0 (nI tl) 0 tp (upS sl j (k, r, fun w => plN tp (F (trN k w tp r)) k)) ol of rd ∧ Dn h h') := by
  obtain ⟨h1, c1, I1, d1⟩ := I.begin
  obtain ⟨h3, tpf, c2, I3, d2, f1, ft, htl⟩ := I1.taken
  obtain ⟨_, _, _, _, _, e00, -⟩ := id I1
  obtain ⟨tpf', stf, wdf, tbf, otf, e0, a1, a2, a3, e1, b1, e2, e3, e4, b2, e5, b3, Fx⟩ := id I3
  have d := d1.tn d2
  unfold fX7_rename
  rw [c1]
  simp only [Option.bind_some]
  rw [oo e00, c2]
  simp only [Option.bind_some]
  rw [oo e0]
  rcases mhas e0 e2 b2 s with ⟨q, e⟩ | ⟨i0, k, r, F, hi0, rfl, q, e, g, s1, s2, s3⟩
  · left
    rw [e, call_ok, if_pos rfl, retZ0]
    exact ⟨(fun k r F j h9 => by have := h9.1; rw [q] at this; cases this), h3, rfl, I3, d⟩
  rw [e, call_ok, if_neg one_ne]
  have uq : ∀ {k' r' F' j'}, okRen sl tl tp (nI i0) t k' r' F' j' → k' = k ∧ j' < 6 ∧ t = nI j' ∧ tl = k ∧ EO k tp := fun {k' r' F' j'} z => by
    obtain ⟨z1, z2, z3, z4, z5⟩ := z
    rw [q] at z1
    cases z1
    exact ⟨rfl, z2, z3, z4, z5⟩
  rcases misSlot (h := h3) t with ⟨q1, e9⟩ | ⟨j, hj, rfl, e9⟩
  · left
    rw [e9, call_ok, if_pos rfl, retZ0]
    refine ⟨fun k' r' F' j' z => ?_, h3, rfl, I3, d⟩
    obtain ⟨-, z2, z3, -⟩ := uq z
    rw [z3] at q1
    rcases q1 with q1 | q1
    · exact nI_nn (by omega) q1
    · have := (nI_leI (a := 6) (b := j') (by omega) (by omega)).mp q1
      omega
  obtain ⟨n1, n2, n3, n4, n5⟩ := g.nums
  obtain ⟨g1, g2, g3, g4, gF⟩ := id g
  rw [e9, call_ok, if_neg one_ne, o_3 e0]
  simp only [Option.bind_some]
  rw [o_4 e0]
  simp only [Option.bind_some]
  rw [aI_of e2 hi0 (by decide), s1]
  simp only [Option.bind_some]
  rw [if_eqI (by omega) (by omega)]
  by_cases q5 : tl = k
  case neg =>
    left
    rw [if_neg q5, retZ0]
    exact ⟨fun k' r' F' j' z => q5 (uq z).2.2.2.1, h3, rfl, I3, d⟩
  rw [if_pos q5]
  have key := scan_all (fun q i => fX7_rename_w52 q 20 (nI i0) (nI j) (nI k) (nI (sN k tp i)) (nI i) h3) k (fun i => ¬ tp i < k ∨ ∃ x, x < i ∧ tp x = tp i) (some (0, h3)) (fX7_rename_b117 20 (nI i0) (nI j) (nI k) h3) (fun q i hi hb => by
    obtain ⟨t1, t2⟩ := ft i (by omega)
    have w1 : tp i < k := Decidable.not_not.mp fun z => hb (Or.inl z)
    have w2 : ¬ (sN k tp i).testBit (tp i) = true := fun z => by
      obtain ⟨x, x1, x2, x3⟩ := (sN_bit (tp i) i).mp z
      exact hb (Or.inr ⟨x, x1, x2⟩)
    have hsn := sN_lt (tp := tp) (k := k) (by omega) i
    have t3 : tpf i = nI (tp i) := by rw [t1, byM_small _ (by omega)]
    rw [fX7_rename_w52]
    simp only []
    rw [if_leI (by omega) (by omega), if_neg (by omega), o_1 e0]
    simp only [Option.bind_some]
    rw [aI_of f1 (by omega) (by decide), t3]
    simp only [Option.bind_some]
    rw [if_neg (nI_nn (by omega)), if_leI (by omega) (by omega), if_neg (by omega), if_neg (fun z => w2 ((nI_tb _ (by omega) _ (by omega)).mp z)), setv_ok, nI_shl _ (by omega), nI_or, nI_p1, sN, if_pos w1]) (fun q i hi hb => by
    obtain ⟨t1, t2⟩ := ft i (by omega)
    have hsn := sN_lt (tp := tp) (k := k) (by omega) i
    rw [fX7_rename_w52]
    simp only []
    rw [if_leI (by omega) (by omega), if_neg (by omega), o_1 e0]
    simp only [Option.bind_some]
    rw [aI_of f1 (by omega) (by decide), t1]
    simp only [Option.bind_some]
    by_cases q3 : 128 ≤ tp i
    · rw [if_pos ((byM_neg _ t2).mpr q3), retZ0]
    rw [if_neg (fun z => q3 ((byM_neg _ t2).mp z)), byM_small _ (by omega), if_leI (by omega) (by omega)]
    by_cases q4 : tp i < k
    · have hb2 : ∃ x, x < i ∧ tp x = tp i := hb.elim (fun z => absurd q4 z) id
      have w2 : (sN k tp i).testBit (tp i) = true := by
        obtain ⟨x, x1, x2⟩ := hb2
        exact (sN_bit (tp i) i).mpr ⟨x, x1, x2, q4⟩
      rw [if_neg (by omega), if_pos ((nI_tb _ (by omega) _ (by omega)).mpr w2), retZ0]
    · rw [if_pos (by omega), retZ0]) (fun q => by
    rw [fX7_rename_w52]
    simp only []
    rw [if_leI (by omega) (by omega), if_pos (Nat.le_refl _)]) 0 FUEL (by omega) (fuel_big (by omega))
  rcases key with ⟨y1, y2⟩ | ⟨⟨i, -, y2, y3⟩, y4⟩
  case inr =>
    left
    refine ⟨fun k' r' F' j' z => ?_, h3, y4, I3, d⟩
    have pm := EO_PM.mp (uq z).2.2.2.2
    rcases y3 with y3 | ⟨x, x1, x2⟩
    · exact y3 (pm.1 i y2)
    · exact pm.2 x i x1 y2 x2
  right
  have pm : PM k tp := ⟨fun i hi => Decidable.not_not.mp fun z => y1 i (by omega) hi (Or.inl z), fun i x hix hx e => y1 x (by omega) hx (Or.inr ⟨i, hix, e⟩)⟩
  have eo : EO k tp := EO_PM.mpr pm
  have htp : ∀ i, i < k → tpf i = nI (tp i) := fun i hi => by
    have := pm.1 i hi
    rw [(ft i (by omega)).1, byM_small _ (by omega)]
  have E0 : ∀ u, (h3.set 24 u)[20]? = some (mob 0 (nI 0) (nI tl) (nI ol) (nI rd)) := fun u => st_n' (by decide) e0
  have E1 : ∀ u, (h3.set 24 u)[21]? = some (aC 1 100 tpf) := fun u => st_n' (by decide) f1
  have E3 : ∀ u, (h3.set 24 u)[23]? = some (aC 0 6 wdf) := fun u => st_n' (by decide) e3
  generalize hG : (fun w => plN tp (F (trN k w tp r)) k) = G
  have hGw : ∀ w, G w = plN tp (F (trN k w tp r)) k := fun w => by rw [← hG]
  have key := upto (fun q w => fX7_rename_w120 q 20 (nI i0) (nI j) (nI k) (nI w) (h3.set 24 (aC 0 189 (drF tbf G w)))) (k ^ r) (fX7_rename_b227 20 (nI i0) (nI j) (nI k) (h3.set 24 (aC 0 189 (drF tbf G (k ^ r))))) (fun q w hw => by
    have htr := trN_lt (k := k) (by omega) w pm.1 r
    have hF := gF _ htr
    obtain ⟨v1, v2⟩ := plN_at (tp := tp) (eo _ hF)
    rw [fX7_rename_w120]
    simp only []
    rw [o_5 (E0 _)]
    simp only [Option.bind_some]
    rw [aI_of (E3 _) hi0 (by decide), s2]
    simp only [Option.bind_some]
    rw [mpower (by omega) (by omega), call_ok, if_leI (by omega) (by omega), if_neg (by omega), o_5 (E0 _)]
    simp only [Option.bind_some]
    rw [aI_of (E3 _) hi0 (by decide), s2]
    simp only [Option.bind_some]
    rw [setv_ok]
    have inner := upto (fun q2 i => fX7_rename_w148 (fX7_rename_w120 q) q2 20 (nI i0) (nI j) (nI k) (nI w) (nI (hiN k w tp r i)) (nI (r - i) - 1) (h3.set 24 (aC 0 189 (drF tbf G w)))) r (fX7_rename_b182 (fX7_rename_w120 q) 20 (nI i0) (nI j) (nI k) (nI w) (nI (hiN k w tp r r)) (h3.set 24 (aC 0 189 (drF tbf G w)))) (fun q2 i hi => by
      have hm : w / k ^ (r - 1 - i) % k < k := Nat.mod_lt _ (by omega)
      have hle : w / k ^ (r - 1 - i) ≤ w := Nat.div_le_self _ _
      have hp := kpow_pos g (r - 1 - i)
      have hpl := pow_le g (show r - 1 - i ≤ r by omega)
      rw [i_sub1 (by omega), show r - i - 1 = r - 1 - i by omega]
      rw [fX7_rename_w148]
      simp only []
      rw [if_neg (nI_nn (by omega)), o_1 (E0 _)]
      simp only [Option.bind_some]
      rw [mpower (by omega) (by omega), call_ok, iDiv_nI (by omega) hp (by omega), iRem_nI (by omega) (by omega) (by omega), aI_of (E1 _) (by omega) (by decide), htp _ hm]
      simp only [Option.bind_some]
      rw [setv_ok, pk_mul, nI_add, i_m1, show r - (i + 1) = r - 1 - i by omega, hiN]) (fun q2 => by
      rw [Nat.sub_self]
      rw [fX7_rename_w148]
      simp only []
      rw [if_pos (by decide)]) 0 FUEL (by omega) (fuel_big (by omega))
    refine Eq.trans (show fX7_rename_w148 (fX7_rename_w120 q) FUEL 20 (nI i0) (nI j) (nI k) (nI w) (nI 0) (nI (r - 0) - 1) _ = _ from inner) ?_
    rw [hiN_r]
    unfold fX7_rename_b182
    have srch := scan_at (fun q2 i => fX7_rename_w185 (fX7_rename_w120 q) q2 20 (nI i0) (nI j) (nI k) (nI w) (nI (trN k w tp r)) (nI i) (h3.set 24 (aC 0 189 (drF tbf G w)))) k (fun i => tp i = F (trN k w tp r)) (fun i => fX7_rename_b208 (fX7_rename_w120 q) 20 (nI i0) (nI j) (nI k) (nI w) (nI i) (h3.set 24 (aC 0 189 (drF tbf G w)))) (fun q2 i hi hb => by
      have := pm.1 i hi
      rw [fX7_rename_w185]
      simp only []
      rw [o_1 (E0 _)]
      simp only [Option.bind_some]
      rw [aI_of (E1 _) (by omega) (by decide), htp _ hi]
      simp only [Option.bind_some]
      rw [oo (E0 _), mtells (F := F) (E0 _) (st_s e4) g hi0 (fun w hw => by rw [drF_lo (by omega)]; exact s3 w hw) htr, call_ok, if_eqI (by omega) (by omega), if_neg hb, nI_p1]) (fun q2 i hi hb => by
      have := pm.1 i hi
      rw [fX7_rename_w185]
      simp only []
      rw [o_1 (E0 _)]
      simp only [Option.bind_some]
      rw [aI_of (E1 _) (by omega) (by decide), htp _ hi]
      simp only [Option.bind_some]
      rw [oo (E0 _), mtells (F := F) (E0 _) (st_s e4) g hi0 (fun w hw => by rw [drF_lo (by omega)]; exact s3 w hw) htr, call_ok, if_eqI (by omega) (by omega), if_pos hb]) 0 FUEL (plN tp (F (trN k w tp r)) k) (by omega) v1 v2 (fun x _ hx e => pm.2 x _ hx v1 (by rw [e, v2])) (fuel_big (by omega))
    refine Eq.trans srch ?_
    unfold fX7_rename_b208
    rw [o_6 (E0 _)]
    simp only [Option.bind_some]
    rw [show (162 : Int32) = nI 162 from rfl, nI_add, sI_of (by decide) (st_s e4) (by omega) (by decide), x_nar0]
    simp only [Option.bind_some]
    rw [List.set_set, nI_p1, ← hGw, drF_s]) (fun q => by
    rw [fX7_rename_w120]
    simp only []
    rw [o_5 (E0 _)]
    simp only [Option.bind_some]
    rw [aI_of (E3 _) hi0 (by decide), s2]
    simp only [Option.bind_some]
    rw [mpower (by omega) (by omega), call_ok, if_leI (by omega) (by omega), if_pos (Nat.le_refl _)]) 0 FUEL (by omega) (fuel_big (by omega))
  rw [drF_0, st_id e4] at key
  have gm : GR k r G := ⟨g1, g2, g3, g4, fun w _ => by
    rw [hGw]
    exact (plN_at (tp := tp) (eo _ (gF _ (trN_lt (k := k) (by omega) w pm.1 r)))).1⟩
  obtain ⟨I4, d4⟩ := I3.draft e4 (tbf2 := drF tbf G (k ^ r)) (fun x hx => drF_lo hx)
  obtain ⟨h5, z1, I5, d5⟩ := I4.lay (st_s e4) gm hj (fun w hw => drF_hi hw)
  refine ⟨k, r, F, j, h5, ⟨q, hj, rfl, q5, eo⟩, g, ?_, by rw [hG]; exact I5, (d.tn d4).tn d5⟩
  refine Eq.trans (show fX7_rename_w52 FUEL 20 (nI i0) (nI j) (nI k) (nI 0) (nI 0) h3 = _ from y2) ?_
  unfold fX7_rename_b117
  refine Eq.trans (show fX7_rename_w120 FUEL 20 (nI i0) (nI j) (nI k) (nI 0) h3 = _ from key) ?_
  unfold fX7_rename_b227
  rw [o_5 (E0 _)]
  simp only [Option.bind_some]
  rw [aI_of (E3 _) hi0 (by decide), s2]
  simp only [Option.bind_some]
  rw [oo (E0 _), z1]
  rfl
end MN

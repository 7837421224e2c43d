section MU
variable {h : Hp} {thr sz : Int32} {tl : Nat} {tp : Nat → Nat} {sl : SL} {ol : Nat} {of : Nat → Nat} {rd : Nat}
/-- the draft, from place 162 on, holds nothing from call to call -/
theorem MInv.draft (I : MInv h thr sz tl tp sl ol of rd) {tbf tbf2 : Nat → Int32} (e4 : h[24]? = some (aC 0 189 tbf)) (ht : ∀ x, x < 162 → tbf2 x = tbf x) : MInv (h.set 24 (aC 0 189 tbf2)) thr sz tl tp sl ol of rd ∧ Dn h (h.set 24 (aC 0 189 tbf2)) := by
  obtain ⟨tpf, stf, wdf, tbf', otf, e0, a1, a2, a3, e1, b1, e2, e3, e4', b2, e5, b3, Fx⟩ := I
  have htb : tbf' = tbf := by
    have := Option.some.inj (e4'.symm.trans e4)
    simp only [Sum.inr.injEq, Sum.inl.injEq, Prod.mk.injEq, true_and] at this
    exact this
  subst htb
  refine ⟨⟨tpf, stf, wdf, tbf2, otf, st_n' (by decide) e0, a1, a2, a3, st_n' (by decide) e1, b1, st_n' (by decide) e2, st_n' (by decide) e3, st_s e4, fun s hs => ?_, st_n' (by decide) e5, b3, Fx.o (by decide)⟩, Dn.rf.st (by decide)⟩
  have hs2 := b2 s hs
  cases hsl : sl s with
  | none => rw [hsl] at hs2; exact hs2
  | some x =>
    obtain ⟨k', r', F'⟩ := x
    rw [hsl] at hs2
    obtain ⟨g', t1, t2, t3⟩ := hs2
    obtain ⟨m1, m2, m3, m4, m5⟩ := g'.nums
    have m1' : k' ^ r' ≤ 27 := m1
    refine ⟨g', t1, t2, fun w hw => ?_⟩
    have hw' : w < k' ^ r' := hw
    rw [ht _ (by omega)]
    exact t3 w hw
/-- the tape is read into the draft, as long as its bytes are states -/
theorem draft_loop {thr tl' om rd' : Int32} {n : Nat} {tpf tbf : Nat → Int32} {j K W : Nat} (e0 : h[20]? = some (mob thr tl' (nI n) om rd')) (e1 : h[21]? = some (aC 1 100 tpf)) (e4 : h[24]? = some (aC 0 189 tbf)) (hn : n ≤ 27) (hK : K ≤ 4) (ht : ∀ i, i < n → tpf i = byM (tp i) ∧ tp i < 256) : ∃ m, m ≤ n ∧ (∀ i, i < m → tp i < K) ∧ ((m = n ∧ fX7_rule_w56 FUEL 20 (nI j) (nI K) (nI W) 0 h = fX7_rule_b112 20 (nI j) (nI K) (nI W) (h.set 24 (aC 0 189 (fun x => if 162 ≤ x ∧ x < 162 + m then nI (tp (x - 162)) else tbf x)))) ∨ (m < n ∧ ¬ tp m < K ∧ fX7_rule_w56 FUEL 20 (nI j) (nI K) (nI W) 0 h = some (0, h.set 24 (aC 0 189 (fun x => if 162 ≤ x ∧ x < 162 + m then nI (tp (x - 162)) else tbf x))))) := by
  have E0 : ∀ u, (h.set 24 u)[20]? = some (mob thr tl' (nI n) om rd') := fun u => st_n' (by decide) e0
  have E1 : ∀ u, (h.set 24 u)[21]? = some (aC 1 100 tpf) := fun u => st_n' (by decide) e1
  have key := uptoX (fun q i H => fX7_rule_w56 q 20 (nI j) (nI K) (nI W) (nI i) H) n (fun i H => H = h.set 24 (aC 0 189 (fun x => if 162 ≤ x ∧ x < 162 + i then nI (tp (x - 162)) else tbf x)) ∧ ∀ x, x < i → tp x < K) (fun m rr => m < n ∧ ¬ tp m < K ∧ (∀ x, x < m → tp x < K) ∧ rr = some (0, h.set 24 (aC 0 189 (fun x => if 162 ≤ x ∧ x < 162 + m then nI (tp (x - 162)) else tbf x)))) (by
    rintro q i H hi ⟨rfl, hx⟩
    obtain ⟨t1, t2⟩ := ht i hi
    have hst : fX7_rule_w56 (q + 1) 20 (nI j) (nI K) (nI W) (nI i) (h.set 24 (aC 0 189 (fun x => if 162 ≤ x ∧ x < 162 + i then nI (tp (x - 162)) else tbf x))) = if tp i < K then fX7_rule_w56 q 20 (nI j) (nI K) (nI W) (nI (i + 1)) (h.set 24 (aC 0 189 (fun x => if 162 ≤ x ∧ x < 162 + (i + 1) then nI (tp (x - 162)) else tbf x))) else some (0, h.set 24 (aC 0 189 (fun x => if 162 ≤ x ∧ x < 162 + i then nI (tp (x - 162)) else tbf x))) := by
      rw [fX7_rule_w56]
      simp only []
      rw [o_3 (E0 _)]
      simp only [Option.bind_some]
      rw [if_leI (by omega) (by omega), if_neg (by omega), o_1 (E0 _)]
      simp only [Option.bind_some]
      rw [aI_of (E1 _) (by omega) (by decide), t1]
      simp only [Option.bind_some]
      by_cases q3 : 128 ≤ tp i
      · rw [if_pos ((byM_neg _ t2).mpr q3), if_neg (by omega), retZ0]
      · rw [if_neg (fun z => q3 ((byM_neg _ t2).mp z)), byM_small _ (by omega), if_ltI (by omega) (by omega)]
        by_cases q4 : tp i < K
        · rw [if_pos q4, if_pos q4, o_6 (E0 _)]
          simp only [Option.bind_some]
          rw [show (162 : Int32) = nI 162 from rfl, nI_add, sI_of (by decide) (st_s e4) (by omega) (by decide), x_nar0]
          simp only [Option.bind_some]
          have hu : upd (fun x => if 162 ≤ x ∧ x < 162 + i then nI (tp (x - 162)) else tbf x) (162 + i) (nI (tp i)) = fun x => if 162 ≤ x ∧ x < 162 + (i + 1) then nI (tp (x - 162)) else tbf x := by
            funext x
            unfold upd
            by_cases w : x = 162 + i
            · subst w
              rw [if_pos rfl, if_pos (by omega), Nat.add_sub_cancel_left]
            · rw [if_neg w]
              show (if 162 ≤ x ∧ x < 162 + i then nI (tp (x - 162)) else tbf x) = _
              by_cases w2 : 162 ≤ x ∧ x < 162 + i
              · rw [if_pos w2, if_pos (by omega)]
              · rw [if_neg w2, if_neg (by omega)]
          rw [List.set_set, hu, nI_p1]
        · rw [if_neg q4, if_neg q4, retZ0]
    by_cases q4 : tp i < K
    · left
      refine ⟨_, hst.trans (if_pos q4), rfl, fun x hx2 => ?_⟩
      by_cases w : x = i
      · rw [w]; exact q4
      · exact hx x (by omega)
    · right
      exact ⟨_, rfl, hi, q4, hx, hst.trans (if_neg q4)⟩) 0 FUEL h (by omega) (fuel_big (by omega)) ⟨by
        have : (fun x => if 162 ≤ x ∧ x < 162 + 0 then nI (tp (x - 162)) else tbf x) = tbf := by
          funext x
          rw [if_neg (by omega)]
        rw [this, st_id e4], fun x hx => by omega⟩
  rcases key with ⟨fu, H, k1, rfl, k2⟩ | ⟨m, rr, k1, k2, k3, k4, k5⟩
  · refine ⟨n, Nat.le_refl _, k2, Or.inl ⟨rfl, ?_⟩⟩
    refine Eq.trans (show fX7_rule_w56 FUEL 20 (nI j) (nI K) (nI W) (nI 0) h = _ from k1) ?_
    rw [fX7_rule_w56]
    simp only []
    rw [o_3 (E0 _)]
    simp only [Option.bind_some]
    rw [if_leI (by omega) (by omega), if_pos (Nat.le_refl _)]
  · exact ⟨m, by omega, k4, Or.inr ⟨k2, k3, k1.trans k5⟩⟩
end MU

section MF
variable {h : Hp} {thr sz : Int32} {tl : Nat} {tp : Nat → Nat} {sl : SL} {ol : Nat} {of : Nat → Nat} {rd : Nat}
/-- all but the object and the tape of the model stays -/
def D01 (h h' : Hp) : Prop := h'.length = h.length ∧ ∀ i, i ≠ 20 → i ≠ 21 → h'[i]? = h[i]?
theorem D01.tn {h h1 h2 : Hp} (a : D01 h h1) (b : D01 h1 h2) : D01 h h2 := ⟨b.1.trans a.1, fun i x y => (b.2 i x y).trans (a.2 i x y)⟩
theorem four_next {h : Hp} {t : Nat} {thr sz om rd : Int32} {tf : Nat → Int32} (x : Int32) (e0 : h[20]? = some (mob thr (nI t) sz om rd)) (e1 : h[21]? = some (aC 1 100 tf)) (ht : t + 4 ≤ 100) : ∃ h', oK h 20 7 (fX7_four h 20 x) = some h' ∧ h'[20]? = some (mob thr (nI (t + 4)) sz om rd) ∧ h'[21]? = some (aC 1 100 (putM tf t x 4)) ∧ D01 h h' :=
  ⟨_, (oo e0).trans (four_m x e0 e1 ht), st_s (st_n' (by decide) e0), st_n' (by decide) (st_s e1), by simp, fun i x y => by rw [st_n (Ne.symm x), st_n (Ne.symm y)]⟩
theorem m_feed (I : MInv h thr sz tl tp sl ol of rd) (a b c d e : Int32) : (80 < tl ∧ ∃ h', fX7_feed h 20 a b c d e = some (-1, h') ∧ MInv h' 0 sz tl tp sl ol of rd ∧ Dn h h') ∨ (tl ≤ 80 ∧ ∃ h', fX7_feed h 20 a b c d e = some (nI (tl + 20), h') ∧ MInv h' 0 sz (tl + 20) (feedT tl tp a b c d e) sl ol of rd ∧ Dn h h') := by
  obtain ⟨h0, c1, I1, dd⟩ := I.begin
  obtain ⟨tpf, stf, wdf, tbf, otf, e0, a1, a2, a3, e1, b1, e2, e3, e4, b2, e5, b3, Fx⟩ := id I1
  unfold fX7_feed
  rw [c1]
  simp only [Option.bind_some]
  rw [o_2 e0]
  simp only [Option.bind_some]
  rw [show (20 : Int32) = nI 20 from rfl, nI_add, show (100 : Int32) = nI 100 from rfl, if_leI (by omega) (by omega)]
  by_cases q : tl + 20 ≤ 100
  · right
    refine ⟨by omega, ?_⟩
    obtain ⟨h1, p1, f0, f1, d1⟩ := four_next a e0 e1 (by omega)
    obtain ⟨h2, p2, f0, f1, d2⟩ := four_next b f0 f1 (by omega)
    obtain ⟨h3, p3, f0, f1, d3⟩ := four_next c f0 f1 (by omega)
    obtain ⟨h4, p4, f0, f1, d4⟩ := four_next d f0 f1 (by omega)
    obtain ⟨h5, p5, f0, f1, d5⟩ := four_next e f0 f1 (by omega)
    have D := (((d1.tn d2).tn d3).tn d4).tn d5
    have lo : ∀ {i : Nat} {z : HC}, i ≠ 20 → i ≠ 21 → h0[i]? = some z → h5[i]? = some z := fun x y ee => (D.2 _ x y).trans ee
    refine ⟨h5, ?_, ⟨_, stf, wdf, tbf, otf, by rw [f0, show tl + 4 + 4 + 4 + 4 + 4 = tl + 20 by omega], by omega, a2, a3, f1, fun i hi => ?_, lo (by decide) (by decide) e2, lo (by decide) (by decide) e3, lo (by decide) (by decide) e4, b2, lo (by decide) (by decide) e5, b3, Fx.of fun i x y => D.2 i (by omega) (by omega)⟩, dd.tn ⟨D.1, fun i hi => D.2 i (by omega) (by omega)⟩⟩
    · rw [if_pos q, p1]
      simp only [Option.bind_some]
      rw [p2]
      simp only [Option.bind_some]
      rw [p3]
      simp only [Option.bind_some]
      rw [p4]
      simp only [Option.bind_some]
      rw [p5]
      simp only [Option.bind_some]
      rw [o_2 f0]
      simp only [Option.bind_some]
    · refine ⟨?_, ?_⟩
      · unfold feedT
        by_cases i0 : i < tl
        · rw [if_pos i0]
          simp only [putM]
          rw [if_neg (by omega), if_neg (by omega), if_neg (by omega), if_neg (by omega), if_neg (by omega), (b1 i i0).1]
        rw [if_neg i0]
        simp only [putM]
        by_cases i1 : i < tl + 4
        · rw [if_neg (by omega), if_neg (by omega), if_neg (by omega), if_neg (by omega), if_pos (by omega), b20_at (q := 0) (by omega) (by omega) (by omega)]
          rfl
        by_cases i2 : i < tl + 8
        · rw [if_neg (by omega), if_neg (by omega), if_neg (by omega), if_pos (by omega), b20_at (q := 1) (by omega) (by omega) (by omega), show i - tl - 4 * 1 = i - (tl + 4) by omega]
          rfl
        by_cases i3 : i < tl + 12
        · rw [if_neg (by omega), if_neg (by omega), if_pos (by omega), b20_at (q := 2) (by omega) (by omega) (by omega), show i - tl - 4 * 2 = i - (tl + 4 + 4) by omega]
          rfl
        by_cases i4 : i < tl + 16
        · rw [if_neg (by omega), if_pos (by omega), b20_at (q := 3) (by omega) (by omega) (by omega), show i - tl - 4 * 3 = i - (tl + 4 + 4 + 4) by omega]
          rfl
        · rw [if_pos (by omega), b20_at (q := 4) (by omega) (by omega) (by omega), show i - tl - 4 * 4 = i - (tl + 4 + 4 + 4 + 4) by omega]
          rfl
      · unfold feedT
        split
        · exact (b1 i (by assumption)).2
        · exact bt_lt _ _
  · left
    rw [if_neg q]
    exact ⟨by omega, h0, rfl, I1, dd⟩
end MF

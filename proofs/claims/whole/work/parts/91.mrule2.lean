section MV
variable {h : Hp} {thr sz : Int32} {tl : Nat} {tp : Nat → Nat} {sl : SL} {ol : Nat} {of : Nat → Nat} {rd : Nat}
theorem widest_m {K : Nat} (h1 : 2 ≤ K) (h2 : K ≤ 4) : fX7_widest h (nI K) = some (nI (mwN K), h) := by
  have : K = 2 ∨ K = 3 ∨ K = 4 := by omega
  unfold fX7_widest
  rcases this with rfl | rfl | rfl
  · rw [if_pos (by decide)]; rfl
  · rw [if_neg (by decide), if_pos (by decide)]; rfl
  · rw [if_neg (by decide), if_neg (by decide)]; rfl
theorem m_rule (I : MInv h thr sz tl tp sl ol of rd) (s k r : Int32) : ((∀ j K W, ¬ okRule tl tp s k r j K W) ∧ ∃ h', fX7_rule h 20 s k r = some (0, h') ∧ MInv h' 0 (nI tl) 0 tp sl ol of rd ∧ Dn h h') ∨ (∃ j K W h', okRule tl tp s k r j K W ∧ fX7_rule h 20 s k r = some (1, h') ∧ MInv h' 0 (nI tl) 0 tp (upS sl j (K, W, tp)) ol of rd ∧ Dn h h') := by
  obtain ⟨h1, c1, I1, d1⟩ := I.begin
  obtain ⟨h3, tpf, c2, I3, d2, f1, ft, htl⟩ := I1.taken
  obtain ⟨_, _, _, _, _, e00, -⟩ := id I1
  obtain ⟨tpf', stf, wdf, tbf, otf, e0, a1, a2, a3, e1, b1, e2, e3, e4, b2, e5, b3, Fx⟩ := id I3
  have d := d1.tn d2
  unfold fX7_rule
  rw [c1]
  simp only [Option.bind_some]
  rw [oo e00, c2]
  simp only [Option.bind_some]
  rcases misSlot (h := h3) s with ⟨q1, e⟩ | ⟨j, hj, rfl, e⟩
  · left
    rw [e, call_ok, if_pos rfl, retZ0]
    refine ⟨fun j K W z => ?_, h3, rfl, I3, d⟩
    obtain ⟨z1, z2, -⟩ := z
    rw [z2] at q1
    rcases q1 with q1 | q1
    · exact nI_nn (by omega) q1
    · have := (nI_leI (a := 6) (b := j) (by omega) (by omega)).mp q1
      omega
  rw [e, call_ok, if_neg one_ne]
  -- the states
  by_cases k1 : k < 2
  · left
    rw [if_pos k1, retZ0]
    refine ⟨fun j K W z => ?_, h3, rfl, I3, d⟩
    obtain ⟨-, -, z3, -, z5, z6, -⟩ := z
    rw [z3, l2] at k1
    have := (nI_ltI (a := K) (b := 2) (by omega) (by omega)).mp k1
    have := z6.1
    omega
  rw [if_neg k1]
  by_cases k2 : 4 < k
  · left
    rw [if_pos k2, retZ0]
    refine ⟨fun j K W z => ?_, h3, rfl, I3, d⟩
    obtain ⟨-, -, z3, -, z5, z6, -⟩ := z
    rw [z3, show (4 : Int32) = nI 4 from rfl] at k2
    have := (nI_ltI (a := 4) (b := K) (by omega) (by omega)).mp k2
    omega
  rw [if_neg k2]
  have hk0 : ¬ k < 0 := fun z => k1 (Int32.lt_trans z (by decide))
  obtain ⟨K, hKb, rfl⟩ := nI_of hk0
  have hK2 : 2 ≤ K := by
    rcases Nat.lt_or_ge K 2 with z | z
    · exact absurd (by rw [l2]; exact (nI_ltI hKb (by omega)).mpr z) k1
    · exact z
  have hK4 : K ≤ 4 := by
    rcases Nat.lt_or_ge 4 K with z | z
    · exact absurd (by rw [show (4 : Int32) = nI 4 from rfl]; exact (nI_ltI (by omega) hKb).mpr z) k2
    · exact z
  by_cases r1 : r < 1
  · left
    rw [if_pos r1, retZ0]
    refine ⟨fun j K W z => ?_, h3, rfl, I3, d⟩
    obtain ⟨-, -, -, z4, -, z6, -⟩ := z
    rw [z4, l1] at r1
    have n5 := z6.nums.2.2.2.2
    have := (nI_ltI (a := W) (b := 1) (by omega) (by omega)).mp r1
    have := z6.2.2.1
    omega
  rw [if_neg r1]
  have hr0 : ¬ r < 0 := fun z => r1 (Int32.lt_trans z (by decide))
  obtain ⟨W, hW, rfl⟩ := nI_of hr0
  have hW1 : 1 ≤ W := by
    rcases Nat.lt_or_ge W 1 with z | z
    · exact absurd (by rw [l1]; exact (nI_ltI hW (by omega)).mpr z) r1
    · exact z
  have hmw : mwN K ≤ 4 := by unfold mwN; split; omega; split; omega; split <;> omega
  have uniq : ∀ {j' K' W'}, okRule tl tp (nI j) (nI K) (nI W) j' K' W' → K = K' ∧ W = W' := fun {j' K' W'} z => by
    obtain ⟨-, -, z3, z4, z5, z6, -⟩ := z
    have n5 := z6.nums.2.2.2.2
    exact ⟨(nI_eq (by omega) (by omega)).mp z3, (nI_eq hW (by omega)).mp z4⟩
  rw [widest_m hK2 hK4, call_ok, if_ltI (by omega) hW]
  by_cases q4 : mwN K < W
  · left
    rw [if_pos q4, retZ0]
    refine ⟨fun j' K' W' z => ?_, h3, rfl, I3, d⟩
    obtain ⟨rfl, rfl⟩ := uniq z
    have := z.2.2.2.2.2.1.2.2.2.1
    omega
  rw [if_neg q4, o_3 e0]
  simp only [Option.bind_some]
  have gz : GR K W (fun _ => 0) := ⟨hK2, hK4, hW1, by omega, fun _ _ => by show 0 < K; omega⟩
  have hpw := gz.nums.1
  rw [mpower (by omega) (by omega), call_ok, if_eqI (by omega) (by omega)]
  by_cases q5 : tl = K ^ W
  · rw [if_pos q5]
    obtain ⟨m, m1, m2, m3⟩ := draft_loop (tp := tp) (j := j) (K := K) (W := W) e0 f1 e4 (by omega) hK4 ft
    obtain ⟨I4, d4⟩ := I3.draft e4 (tbf2 := fun x => if 162 ≤ x ∧ x < 162 + m then nI (tp (x - 162)) else tbf x) (fun x hx => if_neg (by omega))
    rcases m3 with ⟨rfl, m4⟩ | ⟨m4, m5, m6⟩
    · right
      have g : GR K W tp := ⟨hK2, hK4, hW1, by omega, fun w hw => m2 w (by omega)⟩
      have E0 : (h3.set 24 (aC 0 189 (fun x => if 162 ≤ x ∧ x < 162 + m then nI (tp (x - 162)) else tbf x)))[20]? = some (mob 0 (nI 0) (nI m) (nI ol) (nI rd)) := st_n' (by decide) e0
      obtain ⟨h5, l1', I5, d5⟩ := I4.lay (st_s e4) g hj (fun w hw => by rw [if_pos (by omega), Nat.add_sub_cancel_left])
      refine ⟨j, K, W, h5, ⟨hj, rfl, rfl, rfl, hK4, g, q5⟩, ?_, I5, (d.tn d4).tn d5⟩
      rw [m4]
      unfold fX7_rule_b112
      rw [oo E0, l1']
      rfl
    · left
      rw [m6]
      refine ⟨fun j' K' W' z => ?_, _, rfl, I4, d.tn d4⟩
      obtain ⟨rfl, rfl⟩ := uniq z
      exact m5 (z.2.2.2.2.2.1.2.2.2.2 m (by omega))
  · left
    rw [if_neg q5, retZ0]
    refine ⟨fun j' K' W' z => ?_, h3, rfl, I3, d⟩
    obtain ⟨rfl, rfl⟩ := uniq z
    exact q5 z.2.2.2.2.2.2
end MV

section HC2
variable {SV : SVP} {h H : Hp} {tl : Nat} {tp : Nat → Nat} {sl : SL} {ol : Nat} {of : Nat → Nat} {rd tr su : Nat}
/-- the class's state where the trail's own cells changed -/
theorem CInv.tst (I : CInv SV h tl tp sl ol of rd tr su) (htr : tr ≠ 0) {k r n t : Nat} {F c : Nat → Nat} {rl : Int32} (T : TS h tr k r F n c rl t H) : CInv SV H tl tp sl ol of rd tr su ∧ Mid h H ∧ H.length = h.length := by
  obtain ⟨he, th, sf, tf, uf, e2, e3, e4, a1, a2, a3, a4, e5, a5, e6, a6, e7, a7, cf, aT, aS, aL⟩ := I
  rcases aT with z | ⟨t4, x0, y0, rl0, fc0, g1, g2, b0, b1, b2, b3, b5⟩
  · exact absurd z htr
  obtain ⟨x, y, f1, f2, fc, D, et, hxy, ex, hf1, ey, ec, hfc⟩ := T
  have lo : ∀ {i : Nat} {d : HC}, i < 44 → h[i]? = some d → H[i]? = some d := fun hi e => (D.2 _ (by omega)).trans e
  have ru : ∀ {a k r : Nat} {F : Nat → Nat}, RuleAt h a (a + 1) k r F → RuleAt H a (a + 1) k r F := fun R => by
    obtain ⟨q1, q2⟩ := apart (x := x0) (y := y0) (rl := rl0) b0 b1 b2 b3 R
    exact D.rule q1 q2 R
  refine ⟨⟨he, th, sf, tf, uf, lo (by decide) e2, lo (by decide) e3, lo (by decide) e4, a1, a2, a3, a4, lo (by decide) e5, fun s hs => ?_, lo (by decide) e6, a6, lo (by decide) e7, a7, ?_, ?_, ?_, by rw [D.1]; exact aL⟩, fun i d _ h2 e => lo h2 e, D.1⟩
  · have := a5 s hs
    generalize sl s = z at this ⊢
    match z, this with
    | none, s => exact s
    | some q, ⟨h1, h2, h3⟩ => exact ⟨h1, h2, ru h3⟩
  · obtain ⟨f8, f9, f10, f11, f12, f13, f14, f15, f16, f17, f18, f19⟩ := cf
    exact ⟨f8.imp fun _ q => lo (by decide) q, f9.imp fun _ q => lo (by decide) q, f10.imp fun _ q => lo (by decide) q, f11.imp fun _ q => q.imp fun _ q => lo (by decide) q, f12.imp fun _ q => lo (by decide) q, f13.imp fun _ q => lo (by decide) q, f14.imp fun _ q => lo (by decide) q, f15.imp fun _ q => lo (by decide) q, f16.imp fun _ q => lo (by decide) q, f17.imp fun _ q => lo (by decide) q, lo (by decide) f18, f19.imp fun _ q => lo (by decide) q⟩
  · right
    refine ⟨t4, x, y, rl, fc, ?_⟩
    rcases hxy with ⟨rfl, rfl⟩ | ⟨rfl, rfl⟩
    · exact ⟨f1, f2, et, ec, ex, ey, Or.inl ⟨rfl, rfl⟩⟩
    · exact ⟨f2, f1, et, ec, ey, ex, Or.inr ⟨rfl, rfl⟩⟩
  · rcases aS with z | ⟨h0, ru0, n, x0, x1, x2, x3, x4, f1, f2, f3, f4, f5, f6, h1, h2, h3, h4, h5, h6, h7, h8⟩
    · exact Or.inl z
    · have m0 : su ≠ tr := fun z => by rw [z, b0] at h1; simp at h1
      have m1 : su ≠ tr + 1 := fun z => by rw [z, b1] at h1; simp at h1
      have m2 : su ≠ tr + 2 := fun z => by rw [z, b2] at h1; simp at h1
      have m3 : su ≠ tr + 3 := fun z => by rw [z, b3] at h1; simp at h1
      have n1 : su + 1 ≠ tr := fun z => by rw [z, b0] at h2; simp at h2
      have n2 : su + 2 ≠ tr := fun z => by rw [z, b0] at h3; simp at h3
      have n3 : su + 3 ≠ tr := fun z => by rw [z, b0] at h4; simp at h4
      have n4 : su + 4 ≠ tr := fun z => by rw [z, b0] at h5; simp at h5
      have n5 : su + 5 ≠ tr := fun z => by rw [z, b0] at h6; simp at h6
      have n6 : su + 6 ≠ tr := fun z => by rw [z, b0] at h7; simp at h7
      have hi : ∀ {i : Nat} {d : HC}, su ≤ i → i ≤ su + 6 → h[i]? = some d → H[i]? = some d := fun q1 q2 e => (D.2 _ (by omega)).trans e
      refine Or.inr ⟨h0, ru0, n, x0, x1, x2, x3, x4, f1, f2, f3, f4, f5, f6, hi (by omega) (by omega) h1, hi (by omega) (by omega) h2, hi (by omega) (by omega) h3, hi (by omega) (by omega) h4, hi (by omega) (by omega) h5, hi (by omega) (by omega) h6, hi (by omega) (by omega) h7, ?_⟩
      rcases h8 with h8 | ⟨h9, q, N, g, R, rest⟩
      · exact Or.inl h8
      · exact Or.inr ⟨h9, q, N, g, ru R, rest⟩
theorem height_core (I : CInv SV h tl tp sl ol of rd tr su) (htr : tr ≠ 0) {a k r n : Nat} {F c : Nat → Nat} (g : GR k r F) (R : RuleAt h a (a + 1) k r F) (hn : 0 < n) (hn2 : n ≤ 20) (hc : ∀ i, i < n → c i < k) {tf : Nat → Int32} (e6 : h[6]? = some (aC 0 100 tf)) (htf : ∀ i, i < n → tf i = nI (c i)) : (∃ H j i, i ≤ 20000 ∧ FR (coN k r F n c) j i ∧ fX6_height_b47 4 (nI n) a h = some (nI j, H) ∧ CInv SV H tl tp sl ol of (i - j) tr su ∧ Mid h H ∧ H.length = h.length) ∨ (∃ H, (∀ p q, p < q → q ≤ 20000 → coN k r F n c p ≠ coN k r F n c q) ∧ fX6_height_b47 4 (nI n) a h = some (-1, H) ∧ CInv SV H tl tp sl ol of rd tr su ∧ Mid h H ∧ H.length = h.length) := by
  obtain ⟨he, th, sf, tf', uf, e2, e3, e4, a1, a2, a3, a4, e5, a5, e6', a6, e7, a7, cf, aT, aS, aL⟩ := id I
  rcases aT with z | ⟨t4, x0, y0, rl0, fc0, g1, g2, b0, b1, b2, b3, b5⟩
  · exact absurd z htr
  obtain ⟨q1, q2⟩ := apart (x := x0) (y := y0) (rl := rl0) b0 b1 b2 b3 R
  have hxy : ∃ f1 f2, h[x0]? = some (aC 0 20 f1) ∧ h[y0]? = some (aC 0 20 f2) := by
    rcases b5 with ⟨rfl, rfl⟩ | ⟨rfl, rfl⟩
    · exact ⟨g1, g2, b2, b3⟩
    · exact ⟨g2, g1, b3, b2⟩
  obtain ⟨f1, f2, ex, ey⟩ := hxy
  unfold fX6_height_b47
  rw [m12 e4]
  simp only [Option.bind_some]
  rw [m1 e4]
  simp only [Option.bind_some]
  rw [tok (x := x0) (y := y0) (rl := rl0) (by omega) b0]
  rcases climb_ok g t4 q1 q2 R hn hn2 hc e3 e6 htf (x := x0) (y := y0) (rl := rl0) b0 b5 ex ey b1 with ⟨H, j, i, t, z1, z2, z3, z4⟩ | ⟨H, t, z1, z2, z3⟩
  · left
    have hji := z2.1
    obtain ⟨I1, md, ln⟩ := I.tst htr z4
    obtain ⟨x, y, -, -, -, D, et, -⟩ := z4
    have f4 : H[4]? = some (mo (nI tl) (nI ol) (nI rd) he th tr su) := (D.2 4 (by omega)).trans e4
    have f7 : H[7]? = some (aC 0 512 uf) := (D.2 7 (by omega)).trans e7
    have cfH : CFix H := by obtain ⟨he, th, sf, tf, uf, e2, e3, e4, a1, a2, a3, a4, e5, a5, e6, a6, e7, a7, cf, aT, aS, aL⟩ := I1; exact cf
    refine ⟨H.set 4 (mo (nI tl) (nI ol) (nI (i - j)) he th tr su), j, i, z1, z2, ?_, ?_, fun p d p1 p2 e => st_n' (by omega) (md p d p1 p2 e), by rw [List.length_set]; exact ln⟩
    · rw [z3, call_ok, if_neg (fun z => nI_nm1 (by omega) z), m12 f4]
      simp only [Option.bind_some]
      rw [t3 (by omega) et]
      simp only [Option.bind_some]
      rw [p5 f4]
      rfl
    · refine I1.re (Up.set (by decide)) ?_ (st_s f4) (Nat.le_refl _) a2 (by omega) a4 (st_n' (by decide) f7) a7 (cfH.o (by decide))
      rintro i (rfl | rfl | rfl | rfl) <;> rw [st_n (by decide)]
  · right
    obtain ⟨I1, md, ln⟩ := I.tst htr z3
    refine ⟨H, z1, ?_, I1, md, ln⟩
    rw [z2, call_ok, if_pos rfl]
theorem height_v2 {n : Int32} {a : Nat} {h : Hp} : fX6_height_v2_b47 4 n a h = fX6_height_b47 4 n a h := rfl
/-- what height asks of the tape -/
theorem c_height_old (I : CInv SV h tl tp sl ol of rd tr su) (htr : tr ≠ 0) (s : Int32) : ((∀ k r F, ruleOf sl s = some (k, r, F) → ¬ Few k tl tp) ∧ ∃ h', fX6_height_v2 h 4 s = some (-1, h') ∧ CInv SV h' 0 tp sl ol of rd tr su ∧ Mid h h' ∧ h'.length = h.length) ∨ (∃ k r F h', ruleOf sl s = some (k, r, F) ∧ GR k r F ∧ Few k tl tp ∧ Mid h h' ∧ h'.length = h.length ∧ ((∃ j i, i ≤ 20000 ∧ FR (coN k r F tl tp) j i ∧ fX6_height_v2 h 4 s = some (nI j, h') ∧ CInv SV h' 0 tp sl ol of (i - j) tr su) ∨ ((∀ p q, p < q → q ≤ 20000 → coN k r F tl tp p ≠ coN k r F tl tp q) ∧ fX6_height_v2 h 4 s = some (-1, h') ∧ CInv SV h' 0 tp sl ol of rd tr su))) := by
  obtain ⟨h0, he, th, sf, tf, uf, c0, I0, u0, e4, a4, e5, a5, e6, a6, e7, a7, cf, e2, e3, a1, a2, a3, aT, aS, aL⟩ := c_pre I
  have hl0 : h0.length = h.length := by
    obtain ⟨he', th', sf', tf', uf', -, -, e4', -⟩ := I
    rw [mok e4', takeTape_ok e4'] at c0
    have := congrArg Prod.snd (Option.some.inj c0)
    rw [← show _ = h0 from this]
    simp
  unfold fX6_height_v2
  rw [c0, call_ok, mok e4]
  rcases ruleIn_st e4 e5 a5 s with ⟨q, e⟩ | ⟨a, k, r, F, q, e, ha, g, R⟩
  · left
    rw [e, call_ok, if_pos rfl]
    exact ⟨(fun k r F h9 => by rw [q] at h9; cases h9), _, rfl, I0, u0.mid, hl0⟩
  obtain ⟨g1, g2, g3, g4, gF⟩ := id g
  rw [e, call_ok, if_neg (by omega), rk R]
  simp only [Option.bind_some]
  rw [mok e4]
  rcases areFew_ok e4 e6 a1 (show k < 1000 by omega) a6 with ⟨b1, b2⟩ | ⟨b1, b2⟩
  · right
    rw [b2, call_ok, if_neg one_ne, m12 e4]
    simp only [Option.bind_some]
    rw [if_neg htr, height_v2]
    rcases height_core I0 htr g R b1.1 b1.2.1 b1.2.2 e6 (fun i hi => (a6 i hi).1) with ⟨H, j, i, z1, z2, z3, z4, z5, z6⟩ | ⟨H, z1, z2, z3, z4, z5⟩
    · exact ⟨k, r, F, H, q, g, b1, u0.mid.tn z5, z6.trans hl0, Or.inl ⟨j, i, z1, z2, z3, z4⟩⟩
    · exact ⟨k, r, F, H, q, g, b1, u0.mid.tn z4, z5.trans hl0, Or.inr ⟨z1, z2, z3⟩⟩
  · left
    rw [b2, call_ok, if_pos rfl]
    exact ⟨fun k' r' F' h9 h8 => by rw [q] at h9; cases h9; exact b1 h8, _, rfl, I0, u0.mid, hl0⟩
end HC2

section SA
variable {h H : Hp} {tl : Nat} {tp : Nat → Nat} {sl : SL} {ol : Nat} {of : Nat → Nat} {rd tr su : Nat}
theorem apartS {ru : Nat} {n x0 x1 x2 x3 x4 : Int32} {nf bf qf hf : Nat → Int32} (Y : YS h su h ru n x0 x1 x2 x3 x4 nf bf qf hf) {a k r : Nat} {F : Nat → Nat} (R : RuleAt h a (a + 1) k r F) : (a < su ∨ su + 6 < a) ∧ (a + 1 < su ∨ su + 6 < a + 1) := by
  obtain ⟨h1, h2, h3, h4, f, h5, h6⟩ := R
  obtain ⟨-, e0, e1, e2, e3, e4, ⟨f5, e5⟩, ⟨f6, e6⟩⟩ := Y
  have n0 : a ≠ su := fun z => by rw [z, e0] at h4; simp [sob] at h4
  have n1 : a ≠ su + 1 := fun z => by rw [z, e1] at h4; simp at h4
  have n2 : a ≠ su + 2 := fun z => by rw [z, e2] at h4; simp at h4
  have n3 : a ≠ su + 3 := fun z => by rw [z, e3] at h4; simp at h4
  have n4 : a ≠ su + 4 := fun z => by rw [z, e4] at h4; simp at h4
  have n5 : a ≠ su + 5 := fun z => by rw [z, e5] at h4; simp at h4
  have n6 : a ≠ su + 6 := fun z => by rw [z, e6] at h4; simp at h4
  have n7 : a + 1 ≠ su := fun z => by rw [z, e0] at h5; simp [sob] at h5
  omega
/-- the class's state where the survey's own cells changed -/
theorem CInv.sst (I : CInv SVN h tl tp sl ol of rd tr su) {ru' : Nat} {n' y0 y1 y2 y3 y4 : Int32} {nf' bf' qf' hf' : Nat → Int32} (hsu : 44 ≤ su) {ru : Nat} {n x0 x1 x2 x3 x4 : Int32} {nf bf qf hf : Nat → Int32} (Y : YS h su h ru n x0 x1 x2 x3 x4 nf bf qf hf) {a k r N : Nat} {F : Nat → Nat} (g : GR k r F) (ha : 44 ≤ a) (hN : N < 1000) (R : RuleAt h a (a + 1) k r F) (Y' : YS h su H a (nI N) y0 y1 y2 y3 y4 nf' bf' qf' hf') (sv : SVN (k, r, F) N y0 y1 y2 y3 y4) : CInv SVN H tl tp sl ol of rd tr su ∧ Mid h H ∧ H.length = h.length := by
  obtain ⟨he, th, sf, tf, uf, e2, e3, e4, a1, a2, a3, a4, e5, a5, e6, a6, e7, a7, cf, aT, aS, aL⟩ := I
  obtain ⟨D, z0, z1, z2, z3, z4, ⟨f5, z5⟩, ⟨f6, z6⟩⟩ := id Y'
  have lo : ∀ {i : Nat} {d : HC}, i < 44 → h[i]? = some d → H[i]? = some d := fun hi e => (D.2 _ (by omega)).trans e
  have ru : ∀ {a k r : Nat} {F : Nat → Nat}, RuleAt h a (a + 1) k r F → RuleAt H a (a + 1) k r F := fun R => by
    obtain ⟨q1, q2⟩ := apartS Y R
    exact D.rule q1 q2 R
  refine ⟨⟨he, th, sf, tf, uf, lo (by decide) e2, lo (by decide) e3, lo (by decide) e4, a1, a2, a3, a4, lo (by decide) e5, fun s hs => ?_, lo (by decide) e6, a6, lo (by decide) e7, a7, ?_, ?_, ?_, by rw [D.1]; exact aL⟩, fun i d _ h2 e => lo h2 e, D.1⟩
  · have := a5 s hs
    generalize sl s = z at this ⊢
    match z, this with
    | none, s => exact s
    | some q, ⟨h1, h2, h3⟩ => exact ⟨h1, h2, ru h3⟩
  · obtain ⟨f8, f9, f10, f11, f12, f13, f14, f15, f16, f17, f18, f19⟩ := cf
    exact ⟨f8.imp fun _ q => lo (by decide) q, f9.imp fun _ q => lo (by decide) q, f10.imp fun _ q => lo (by decide) q, f11.imp fun _ q => q.imp fun _ q => lo (by decide) q, f12.imp fun _ q => lo (by decide) q, f13.imp fun _ q => lo (by decide) q, f14.imp fun _ q => lo (by decide) q, f15.imp fun _ q => lo (by decide) q, f16.imp fun _ q => lo (by decide) q, f17.imp fun _ q => lo (by decide) q, lo (by decide) f18, f19.imp fun _ q => lo (by decide) q⟩
  · rcases aT with z | ⟨t4, x0, y0, rl0, fc0, g1, g2, b0, b1, b2, b3, b5⟩
    · exact Or.inl z
    · obtain ⟨-, w0, w1, w2, w3, w4, ⟨p5, w5⟩, ⟨p6, w6⟩⟩ := Y
      have m0 : su ≠ tr := fun z => by rw [z, b0] at w0; simp [sob] at w0
      have m1 : su ≠ tr + 1 := fun z => by rw [z, b1] at w0; simp [sob] at w0
      have m2 : su ≠ tr + 2 := fun z => by rw [z, b2] at w0; simp [sob] at w0
      have m3 : su ≠ tr + 3 := fun z => by rw [z, b3] at w0; simp [sob] at w0
      have n1 : su + 1 ≠ tr := fun z => by rw [z, b0] at w1; simp at w1
      have n2 : su + 2 ≠ tr := fun z => by rw [z, b0] at w2; simp at w2
      have n3 : su + 3 ≠ tr := fun z => by rw [z, b0] at w3; simp at w3
      have n4 : su + 4 ≠ tr := fun z => by rw [z, b0] at w4; simp at w4
      have n5 : su + 5 ≠ tr := fun z => by rw [z, b0] at w5; simp at w5
      have n6 : su + 6 ≠ tr := fun z => by rw [z, b0] at w6; simp at w6
      have hi : ∀ {i : Nat} {d : HC}, tr ≤ i → i ≤ tr + 3 → h[i]? = some d → H[i]? = some d := fun q1 q2 e => (D.2 _ (by omega)).trans e
      exact Or.inr ⟨t4, x0, y0, rl0, fc0, g1, g2, hi (by omega) (by omega) b0, hi (by omega) (by omega) b1, hi (by omega) (by omega) b2, hi (by omega) (by omega) b3, b5⟩
  · exact Or.inr ⟨hsu, a, nI N, y0, y1, y2, y3, y4, nf', bf', qf', hf', f5, f6, z0, z1, z2, z3, z4, z5, z6, Or.inr ⟨ha, (k, r, F), N, g, ru R, rfl, hN, sv⟩⟩
/-- one of five -/
def sel5 (x0 x1 x2 x3 x4 : Int32) (w : Nat) : Int32 := if w = 0 then x0 else if w = 1 then x1 else if w = 2 then x2 else if w = 3 then x3 else x4
theorem tell_ok {ru : Nat} {n x0 x1 x2 x3 x4 : Int32} {nf bf qf hf : Nat → Int32} {h0 : Hp} (Y : YS h0 su H ru n x0 x1 x2 x3 x4 nf bf qf hf) (h4 : 4 ≤ su) {w : Nat} (hw : w ≤ 4) : fX3_tell H su (nI w) = some (sel5 x0 x1 x2 x3 x4 w, H) := by
  have hc : w = 0 ∨ w = 1 ∨ w = 2 ∨ w = 3 ∨ w = 4 := by omega
  unfold fX3_tell
  rcases hc with rfl | rfl | rfl | rfl | rfl
  · rw [if_pos (by decide), Y.g8 h4]; rfl
  · rw [if_neg (by decide), if_pos (by decide), Y.g9 h4]; rfl
  · rw [if_neg (by decide), if_neg (by decide), if_pos (by decide), Y.g10 h4]; rfl
  · rw [if_neg (by decide), if_neg (by decide), if_neg (by decide), if_pos (by decide), Y.g11 h4]; rfl
  · rw [if_neg (by decide), if_neg (by decide), if_neg (by decide), if_neg (by decide), if_pos (by decide), Y.g12 h4]; rfl
theorem SVN.cong {k r N : Nat} {F F' : Nat → Nat} (hk : 0 < k) (hN : 0 < N) (h : ∀ w, w < k ^ r → F w = F' w) {x0 x1 x2 x3 x4 : Int32} (s : SVN (k, r, F) N x0 x1 x2 x3 x4) : SVN (k, r, F') N x0 x1 x2 x3 x4 := by
  have e := nxN_cong hk hN h
  unfold SVN at s ⊢
  simp only [] at s ⊢
  rw [← e]
  exact s
theorem RuleAt.same {a k r k' r' : Nat} {F F' : Nat → Nat} (g : GR k r F) (g' : GR k' r' F') (R : RuleAt h a (a + 1) k r F) (R' : RuleAt h a (a + 1) k' r' F') : k = k' ∧ r = r' ∧ ∀ w, w < k ^ r → F' w = F w := by
  obtain ⟨-, -, -, h4, f, h5, h6⟩ := R
  obtain ⟨-, -, -, h4', f', h5', h6'⟩ := R'
  obtain ⟨n1, n2, n3, n4, n5⟩ := g.nums
  obtain ⟨m1, m2, m3, m4, m5⟩ := g'.nums
  obtain ⟨g1, g2, -, -, gF⟩ := g
  obtain ⟨g1', g2', -, -, gF'⟩ := g'
  have e := Option.some.inj (h4.symm.trans h4')
  simp only [Sum.inl.injEq, Prod.mk.injEq, List.cons.injEq, Sum.inr.injEq, true_and, and_true] at e
  have ek : k = k' := (nI_eq (by omega) (by omega)).mp e.1
  have er : r = r' := (nI_eq (by omega) (by omega)).mp e.2.1
  subst ek
  subst er
  refine ⟨rfl, rfl, fun w hw => ?_⟩
  have e2 := Option.some.inj (h5.symm.trans h5')
  simp only [Sum.inr.injEq, Sum.inl.injEq, Prod.mk.injEq, true_and] at e2
  have e3 := (h6 w hw).symm.trans ((congrFun e2 w).trans (h6' w hw))
  have b1 := gF w hw
  have b2 := gF' w hw
  exact ((nI_eq (by omega) (by omega)).mp e3).symm
theorem all_core (I : CInv SVN h tl tp sl ol of rd tr su) (hsu : su ≠ 0) {a k r N w : Nat} {F : Nat → Nat} (g : GR k r F) (ha : 44 ≤ a) (R : RuleAt h a (a + 1) k r F) (hN : 1 ≤ N) (hN2 : N ≤ 12) (hM2 : k ^ N ≤ 4096) (hw : w ≤ 4) : ∃ H x0 x1 x2 x3 x4, fX6_all_b60 4 (nI N) (nI w) a (nI (k ^ N)) h = some (sel5 x0 x1 x2 x3 x4 w, H) ∧ SVN (k, r, F) N x0 x1 x2 x3 x4 ∧ CInv SVN H tl tp sl ol of rd tr su ∧ Mid h H ∧ H.length = h.length := by
  obtain ⟨he, th, sf, tf, uf, e2, e3, e4, a1, a2, a3, a4, e5, a5, e6, a6, e7, a7, cf, aT, aS, aL⟩ := id I
  rcases aS with z | ⟨s4, ru, n, x0, x1, x2, x3, x4, f1, f2, f3, f4, f5, f6, h1, h2, h3, h4, h5, h6, h7, h8⟩
  · exact absurd z hsu
  have Y : YS h su h ru n x0 x1 x2 x3 x4 f1 f2 f3 f4 := ⟨DY.rf, h1, h2, h3, h4, h5, ⟨f5, h6⟩, ⟨f6, h7⟩⟩
  obtain ⟨q1, q2⟩ := apartS Y R
  obtain ⟨g1, g2, g3, g4, gF⟩ := id g
  unfold fX6_all_b60
  rw [m13 e4]
  simp only [Option.bind_some]
  rw [Y.ok (by omega)]
  -- a look anew
  have fresh : fX3_look h su a (nI N) (nI (k ^ N)) = fX3_look_b16 su a (nI N) (nI (k ^ N)) h → ∃ H x0 x1 x2 x3 x4, ((fX3_look h su a (nI N) (nI (k ^ N))).bind fun h3 => (gR h3 4 6 13).bind fun v4 => call (oK h3 v4 3 (fX3_tell h3 v4 (nI w))) fun r5 h6 => some (r5, h6)) = some (sel5 x0 x1 x2 x3 x4 w, H) ∧ SVN (k, r, F) N x0 x1 x2 x3 x4 ∧ CInv SVN H tl tp sl ol of rd tr su ∧ Mid h H ∧ H.length = h.length := by
    intro hl
    obtain ⟨H', y0, y1, y2, y3, y4, nf', bf', qf', hf', c1, Y', sv⟩ := look3_ok g s4 q1 q2 R (by omega) (by omega) hM2 Y
    obtain ⟨I', md, ln⟩ := I.sst (ru' := a) (n' := nI N) s4 Y g ha (by omega) R Y' sv
    refine ⟨H', y0, y1, y2, y3, y4, ?_, sv, I', md, ln⟩
    rw [hl, c1]
    simp only [Option.bind_some]
    rw [m13 ((Y'.1.2 4 (by omega)).trans e4)]
    simp only [Option.bind_some]
    rw [Y'.ok (by omega), tell_ok Y' (by omega) hw, call_ok]
  have hlook : fX3_look h su a (nI N) (nI (k ^ N)) = aEq a ru (if nI N = n then some h else fX3_look_b16 su a (nI N) (nI (k ^ N)) h) (fX3_look_b16 su a (nI N) (nI (k ^ N)) h) := by
    unfold fX3_look
    rw [Y.g6 (by omega)]
    simp only [Option.bind_some]
    rw [Y.g7 (by omega)]
    rfl
  unfold aEq at hlook
  have hru4 : (a = 0 ∨ 4 ≤ a) ∧ (ru = 0 ∨ 4 ≤ ru) := ⟨Or.inr (by omega), h8.imp id fun z => by have := z.1; omega⟩
  rw [if_pos hru4] at hlook
  by_cases c1 : a = ru
  · rw [if_pos c1] at hlook
    by_cases c2 : nI N = n
    · rw [if_pos c2] at hlook
      rcases h8 with z | ⟨-, q, N', g', R', r1, r2, r3⟩
      · omega
      · subst c1
        have hNN : N = N' := (nI_eq (by omega) (by omega)).mp (c2.trans r1)
        subst hNN
        obtain ⟨k', r', F'⟩ := q
        obtain ⟨rfl, rfl, hF⟩ := RuleAt.same g g' R R'
        refine ⟨h, x0, x1, x2, x3, x4, ?_, SVN.cong (by omega) (by omega) hF r3, I, fun i c _ _ e => e, rfl⟩
        rw [hlook]
        simp only [Option.bind_some]
        rw [m13 e4]
        simp only [Option.bind_some]
        rw [Y.ok (by omega), tell_ok Y (by omega) hw, call_ok]
    · rw [if_neg c2] at hlook
      exact fresh hlook
  · rw [if_neg c1] at hlook
    exact fresh hlook
end SA

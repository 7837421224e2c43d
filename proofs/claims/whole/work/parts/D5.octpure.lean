section LB3
variable {h h' : Hp} {tr su : Nat} {SV : SVP} {tl : Nat} {tp : Nat → Nat} {sl : SL} {ol : Nat} {of : Nat → Nat} {rd : Nat} {thr sz : Int32}
/-- the class's state stays where its own cells stay -/
theorem CInv.stay (I : CInv SV h tl tp sl ol of rd tr su) (hln : h.length ≤ h'.length) (d : ∀ (i : Nat) (c : HC), i < 20 ∨ 44 ≤ i → h[i]? = some c → h'[i]? = some c) : CInv SV h' tl tp sl ol of rd tr su := by
  obtain ⟨he, th, sf, tf, uf, e2, e3, e4, a1, a2, a3, a4, e5, a5, e6, a6, e7, a7, cf, aT, aS, aL⟩ := I
  have lo : ∀ {i : Nat} {c : HC}, i < 20 → h[i]? = some c → h'[i]? = some c := fun hi e => d _ _ (Or.inl hi) e
  have hi : ∀ {i : Nat} {c : HC}, 44 ≤ i → h[i]? = some c → h'[i]? = some c := fun hi e => d _ _ (Or.inr hi) e
  have ru : ∀ {a k r : Nat} {F : Nat → Nat}, 44 ≤ a → RuleAt h a (a + 1) k r F → RuleAt h' a (a + 1) k r F := fun ha R => by
    obtain ⟨h1, h2, h3, h4, f, h5, h6⟩ := R
    exact ⟨h1, h2, h3, hi (by omega) h4, f, hi (by omega) h5, h6⟩
  refine ⟨he, th, sf, tf, uf, lo (by decide) e2, lo (by decide) e3, lo (by decide) e4, a1, a2, a3, a4, lo (by decide) e5, fun s hs => ?_, lo (by decide) e6, a6, lo (by decide) e7, a7, ?_, ?_, ?_, by omega⟩
  · have := a5 s hs
    generalize sl s = z at this ⊢
    match z, this with
    | none, s => exact s
    | some q, ⟨h1, h2, h3⟩ => exact ⟨h1, h2, ru h1 h3⟩
  · obtain ⟨f8, f9, f10, f11, f12, f13, f14, f15, f16, f17, f18, f19⟩ := cf
    exact ⟨f8.imp fun _ q => lo (by decide) q, f9.imp fun _ q => lo (by decide) q, f10.imp fun _ q => lo (by decide) q, f11.imp fun _ q => q.imp fun _ q => lo (by decide) q, f12.imp fun _ q => lo (by decide) q, f13.imp fun _ q => lo (by decide) q, f14.imp fun _ q => lo (by decide) q, f15.imp fun _ q => lo (by decide) q, f16.imp fun _ q => lo (by decide) q, f17.imp fun _ q => lo (by decide) q, lo (by decide) f18, f19.imp fun _ q => lo (by decide) q⟩
  · rcases aT with z | ⟨t4, x, y, rl, fc, g1, g2, b0, b1, b2, b3, b5⟩
    · exact Or.inl z
    · exact Or.inr ⟨t4, x, y, rl, fc, g1, g2, hi (by omega) b0, hi (by omega) b1, hi (by omega) b2, hi (by omega) b3, b5⟩
  · rcases aS with z | ⟨h0, ru0, n, x0, x1, x2, x3, x4, f1, f2, f3, f4, f5, f6, h1, h2, h3, h4, h5, h6, h7, h8⟩
    · exact Or.inl z
    · refine Or.inr ⟨h0, ru0, n, x0, x1, x2, x3, x4, f1, f2, f3, f4, f5, f6, hi (by omega) h1, hi (by omega) h2, hi (by omega) h3, hi (by omega) h4, hi (by omega) h5, hi (by omega) h6, hi (by omega) h7, ?_⟩
      rcases h8 with h8 | ⟨h9, q, N, g, R, rest⟩
      · exact Or.inl h8
      · exact Or.inr ⟨h9, q, N, g, ru h9 R, rest⟩
theorem MInv.stay (I : MInv h thr sz tl tp sl ol of rd) (d : ∀ (i : Nat) (c : HC), 20 ≤ i → i < 43 → h[i]? = some c → h'[i]? = some c) : MInv h' thr sz tl tp sl ol of rd := by
  obtain ⟨tpf, stf, wdf, tbf, otf, e0, a1, a2, a3, e1, b1, e2, e3, e4, b2, e5, b3, F⟩ := I
  have lo : ∀ {i : Nat} {c : HC}, 20 ≤ i → i < 43 → h[i]? = some c → h'[i]? = some c := fun h1 h2 e => d _ _ h1 h2 e
  refine ⟨tpf, stf, wdf, tbf, otf, lo (by decide) (by decide) e0, a1, a2, a3, lo (by decide) (by decide) e1, b1, lo (by decide) (by decide) e2, lo (by decide) (by decide) e3, lo (by decide) (by decide) e4, b2, lo (by decide) (by decide) e5, b3, ?_⟩
  obtain ⟨f26, f27, f28, f29, f30, f31, f32, f33, f34, f35, f36, f37, f38, f39, f40, f41, f42⟩ := F
  exact ⟨f26.imp fun _ q => lo (by decide) (by decide) q, f27.imp fun _ q => lo (by decide) (by decide) q, f28.imp fun _ q => lo (by decide) (by decide) q, f29.imp fun _ q => lo (by decide) (by decide) q, f30.imp fun _ q => lo (by decide) (by decide) q, f31.imp fun _ q => lo (by decide) (by decide) q, f32.imp fun _ q => lo (by decide) (by decide) q, f33.imp fun _ q => lo (by decide) (by decide) q, f34.imp fun _ q => lo (by decide) (by decide) q, f35.imp fun _ q => lo (by decide) (by decide) q, f36.imp fun _ q => lo (by decide) (by decide) q, f37.imp fun _ q => lo (by decide) (by decide) q, f38.imp fun _ q => lo (by decide) (by decide) q, f39.imp fun _ q => lo (by decide) (by decide) q, f40.imp fun _ q => lo (by decide) (by decide) q, f41.imp fun _ q => lo (by decide) (by decide) q, f42.imp fun _ q => lo (by decide) (by decide) q⟩
theorem LI.o4 (L : LI h tr su) : ∃ fs, hObj h 4 6 = some fs := by
  obtain ⟨j, thr, sz, tl, tp, sl, ol, of, rd, C, M⟩ := L
  obtain ⟨he, th, sf, tf, uf, e2, e3, e4, -⟩ := C
  exact ⟨_, hObj_of (by decide) e4⟩
theorem LI.o20 (L : LI h tr su) : O20 h := by
  obtain ⟨⟨j1, fs, j2⟩, -⟩ := L
  exact ⟨fs, hObj_of (by decide) j2⟩
/-- the law's row written -/
theorem LI.row (L : LI h tr su) (x : Int64) : ∃ f, sL h 43 0 x = some (h.set 43 (lC 1 f)) ∧ f 0 = x ∧ LI (h.set 43 (lC 1 f)) tr su := by
  obtain ⟨⟨⟨f0, j1⟩, fs, j2⟩, thr, sz, tl, tp, sl, ol, of, rd, C, M⟩ := L
  refine ⟨vp_updL f0 0 x, sL_of (i := 0) (by decide) j1 (by decide) (by decide), ?_, ⟨⟨_, st_s j1⟩, fs, st_n' (by decide) j2⟩, thr, sz, tl, tp, sl, ol, of, rd, C.stay (by rw [List.length_set]; exact Nat.le_refl _) (fun i c hi e => st_n' (by omega) e), M.stay (fun i c h1 h2 e => st_n' (by omega) e)⟩
  simp [vp_updL]
/-- one cell more -/
theorem LI.push (L : LI h tr su) (c : HC) : LI (h ++ [c]) tr su := by
  obtain ⟨⟨⟨f0, j1⟩, fs, j2⟩, thr, sz, tl, tp, sl, ol, of, rd, C, M⟩ := L
  exact ⟨⟨⟨_, st_p j1⟩, fs, st_p j2⟩, thr, sz, tl, tp, sl, ol, of, rd, C.stay (by simp) (fun i c hi e => st_p e), M.stay (fun i c h1 h2 e => st_p e)⟩
theorem s_octet (L : LI h tr su) (k : Int32) : (∃ v h1 h2, oK h 4 6 (fX6_octet h 4 k) = some (v, h) ∧ sL h 43 0 v.toInt64 = some h1 ∧ fX7_octet h1 20 k = some (v, h2) ∧ fX7_thrown h2 20 = some (0, h2) ∧ aL h2 43 0 = some v.toInt64 ∧ O20 h1 ∧ O20 h2 ∧ LI h2 tr su) ∨ (∃ v1 v2 h2, gI h 4 6 4 = some v1 ∧ gR h 4 6 3 = some v2 ∧ (k < 0 ∨ v1 ≤ k) ∧ fX7_octet (h ++ [oC 8 []]) 20 k = some (0, h2) ∧ fX7_thrown h2 20 = some (1, h2) ∧ O20 (h ++ [oC 8 []]) ∧ O20 h2 ∧ LI h2 tr su) := by
  obtain ⟨⟨⟨f0, j1⟩, fs, j2⟩, thr, sz, tl, tp, sl, ol, of, rd, C, M⟩ := id L
  obtain ⟨he, th, sf, tf, uf, e2, e3, e4, a1, a2, a3, a4, e5, a5, e6, a6, e7, a7, cf, aT, aS, aL⟩ := id C
  have hol : ol ≤ 512 := a2
  by_cases hb : k < 0 ∨ nI ol ≤ k
  · right
    have L1 := L.push (oC 8 [])
    have M1 : MInv (h ++ [oC 8 []]) thr sz tl tp sl ol of rd := M.stay (fun i c h1 h2 e => st_p e)
    have C1 : CInv SVN (h ++ [oC 8 []]) tl tp sl ol of rd tr su := C.stay (by simp) (fun i c hi e => st_p e)
    rcases m_octet M1 k with ⟨-, h2, b2, b3, b4⟩ | ⟨j, h2, b1, rfl, -⟩
    · have r := LI.mk (h := h ++ [oC 8 []]) ⟨⟨_, st_p j1⟩, fs, st_p j2⟩ Mid.rf C1 b4 b3
      exact ⟨nI ol, 7, h2, m4 e4, m3 e4, hb, b2, m_thrown b3, r.1, r.2.o20, r.2⟩
    · exfalso
      rcases hb with hb | hb
      · exact nI_nn (by omega) hb
      · have := (nI_leI (by omega) (by omega)).mp hb
        omega
  · left
    rcases pk_ix k (n := ol) (by omega) with q | q | ⟨j, hj, rfl⟩
    · exact absurd (Or.inl q) hb
    · exact absurd (Or.inr q) hb
    · obtain ⟨f, w1, w2, L1⟩ := L.row (nI (of j)).toInt64
      have M1 : MInv (h.set 43 (lC 1 f)) thr sz tl tp sl ol of rd := M.stay (fun i c h1 h2 e => st_n' (by omega) e)
      have C1 : CInv SVN (h.set 43 (lC 1 f)) tl tp sl ol of rd tr su := C.stay (by rw [List.length_set]; exact Nat.le_refl _) (fun i c hi e => st_n' (by omega) e)
      rcases m_octet M1 (nI j) with ⟨b1, -⟩ | ⟨j', h2, b1, b5, b2, b3, b4⟩
      · exact absurd b1 hb
      · have : j = j' := nI_ij (by omega) (by omega) b5
        subst this
        have r := LI.mk (h := h.set 43 (lC 1 f)) ⟨⟨_, st_s j1⟩, fs, st_n' (by decide) j2⟩ Mid.rf C1 b4 b3
        have e43 : h2[43]? = some (lC 1 f) := (b4.2 43 (Or.inr (by decide))).trans (st_s j1)
        refine ⟨nI (of j), _, h2, ?_, w1, b2, m_thrown b3, ?_, r.1, r.2.o20, r.2⟩
        · rw [mok e4]
          unfold fX6_octet
          rw [if_neg (nI_nn (by omega)), m4 e4]
          simp only [Option.bind_some]
          rw [if_leI (by omega) (by omega), if_neg (by omega), m3 e4]
          simp only [Option.bind_some]
          rw [aN_of e7 (by decide)]
          simp only [Option.bind_some]
          rw [if_ltI (by omega) (by omega), if_pos (by omega), aI_of e7 (by omega) (by decide), (a7 j hj).1]
          rfl
        · rw [← w2]
          exact aL_of (i := 0) (by decide) e43 (by decide) (by decide)
end LB3

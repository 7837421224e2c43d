section LB2
variable {h : Hp} {tr su : Nat} {SV : SVP} {tl : Nat} {tp : Nat → Nat} {sl : SL} {ol : Nat} {of : Nat → Nat} {rd : Nat} {thr sz : Int32}
/-- height that asks for nothing makes nothing -/
theorem c_height_bad (I : CInv SV h tl tp sl ol of rd tr su) (s : Int32) (hb : ∀ k r F, ruleOf sl s = some (k, r, F) → ¬ Few k tl tp) : ∃ h', fX6_height_v2 h 4 s = some (-1, h') ∧ CInv SV h' 0 tp sl ol of rd tr su ∧ Mid h h' := by
  obtain ⟨h0, he, th, sf, tf, uf, c0, I0, u0, e4, a4, e5, a5, e6, a6, e7, a7, cf, e2, e3, a1, a2, a3, aT, aS, aL⟩ := c_pre I
  unfold fX6_height_v2
  rw [c0, call_ok, mok e4]
  rcases ruleIn_st e4 e5 a5 s with ⟨q, e⟩ | ⟨a, k, r, F, q, e, ha, g, R⟩
  · rw [e, call_ok, if_pos rfl]
    exact ⟨_, rfl, I0, u0.mid⟩
  obtain ⟨g1, g2, g3, g4, gF⟩ := id g
  rw [e, call_ok, if_neg (by omega), rk R]
  simp only [Option.bind_some]
  rw [mok e4]
  rcases areFew_ok e4 e6 a1 (show k < 1000 by omega) a6 with ⟨b1, b2⟩ | ⟨b1, b2⟩
  · exact absurd b1 (hb k r F q)
  · rw [b2, call_ok, if_pos rfl]
    exact ⟨_, rfl, I0, u0.mid⟩
theorem c_all_bad (I : CInv SV h tl tp sl ol of rd tr su) (s n w : Int32) (hb : ∀ k r F N W, ¬ okAll sl s n w k r F N W) : fX6_all_v2 h 4 s n w = some (-1, h) := by
  obtain ⟨he, th, sf, tf, uf, e2, e3, e4, a1, a2, a3, a4, e5, a5, e6, a6, e7, a7, cf, aT, aS, aL⟩ := id I
  unfold fX6_all_v2
  rw [mok e4]
  rcases ruleIn_st e4 e5 a5 s with ⟨q, e⟩ | ⟨a, k, r, F, q, e, ha, g, R⟩
  · rw [e, call_ok, if_pos rfl]
  obtain ⟨g1, g2, g3, g4, gF⟩ := id g
  rw [e, call_ok, if_neg (by omega)]
  rcases w_cases w with z | ⟨W, hW, rfl⟩
  · by_cases z1 : w < 0
    · rw [if_pos z1]
    · rw [if_neg z1, if_neg (z.resolve_left z1)]
  rw [if_neg (nI_nn (by omega)), show (4 : Int32) = nI 4 from rfl, if_leI (by omega) (by omega), if_pos hW, rk R]
  simp only [Option.bind_some]
  rcases ringsOf_ok (h := h) g1 g2 n with ⟨z1, z2⟩ | ⟨N, rfl, z1, z2, z3, z4⟩
  · rw [z2, call_ok, if_pos rfl]
  · exact absurd ⟨q, g, rfl, z1, z2, z3, rfl, hW⟩ (hb k r F N W)
theorem CInv.l44 (I : CInv SV h tl tp sl ol of rd tr su) : 44 ≤ h.length := by
  obtain ⟨he, th, sf, tf, uf, e2, e3, e4, a1, a2, a3, a4, e5, a5, e6, a6, e7, a7, cf, aT, aS, aL⟩ := I
  exact aL
theorem s_height (L : LI h tr su) (s : Int32) : (∃ v h1 h2, fX6_height_v2 h 4 s = some (v, h1) ∧ fX7_height h1 20 s = some (v, h2) ∧ O20 h1 ∧ LI h2 tr su) ∨ (tr = 0 ∧ ∃ v h1 h2 tr', tr' ≠ 0 ∧ fX6_height h 4 s = some (v, h1) ∧ fX7_height h1 20 s = some (v, h2) ∧ O20 h1 ∧ LI h2 tr' su) := by
  by_cases htr : tr = 0
  · subst htr
    obtain ⟨j, thr, sz, tl, tp, sl, ol, of, rd, C, M⟩ := L
    have hl := C.l44
    rcases c_height_new C s with ⟨a1, -⟩ | ⟨k, r, F, h1, a1, -, a5, a4, -, a2⟩
    · left
      obtain ⟨h1, a2, a3, a4⟩ := c_height_bad C s a1
      rcases m_height (M.mid a4) s with ⟨b1, h2, b2, b3, b4⟩ | ⟨k, r, F, h2, b1, -, b5, -⟩
      · exact ⟨_, _, _, a2, b2, LI.mk j a4 a3 b4 b3⟩
      · exact absurd b5 (a1 k r F b1)
    · right
      refine ⟨rfl, ?_⟩
      rcases m_height (M.mid a4) s with ⟨b1, -⟩ | ⟨k', r', F', h2, b1, -, b5, b4, b2⟩
      · exact absurd a5 (b1 k r F a1)
      · obtain ⟨rfl, rfl, rfl⟩ := rule_in a1 b1
        rcases a2 with ⟨p, i, c1, c2, c3, c4⟩ | ⟨c1, c2, c3⟩
        · rcases b2 with ⟨p', i', d1, d2, d3, d4⟩ | ⟨d1, -⟩
          · obtain ⟨rfl, rfl⟩ := c2.one d2
            exact ⟨_, _, _, h.length, by omega, c3, d3, LI.mk j a4 c4 b4 d4⟩
          · exact absurd c2.2.1 (d1 p i c2.1 c1)
        · rcases b2 with ⟨p', i', d1, d2, d3, d4⟩ | ⟨d1, d2, d3⟩
          · exact absurd d2.2.1 (c1 p' i' d2.1 d1)
          · exact ⟨_, _, _, h.length, by omega, c2, d2, LI.mk j a4 c3 b4 d3⟩
  · exact Or.inl (s_height_old L htr s)
theorem s_all (L : LI h tr su) (s n w : Int32) : (∃ v h1 h2, fX6_all_v2 h 4 s n w = some (v, h1) ∧ fX7_all h1 20 s n w = some (v, h2) ∧ O20 h1 ∧ LI h2 tr su) ∨ (su = 0 ∧ ∃ v h1 h2 su', su' ≠ 0 ∧ fX6_all h 4 s n w = some (v, h1) ∧ fX7_all h1 20 s n w = some (v, h2) ∧ O20 h1 ∧ LI h2 tr su') := by
  by_cases hsu : su = 0
  · subst hsu
    obtain ⟨j, thr, sz, tl, tp, sl, ol, of, rd, C, M⟩ := L
    have hl := C.l44
    rcases c_all_new C s n w with ⟨a1, -⟩ | ⟨k, r, F, N, W, h1, x0, x1, x2, x3, x4, a1, a2, a5, a3, a4, -⟩
    · left
      rcases m_all M s n w with ⟨b1, h2, b2, b3, b4⟩ | ⟨k, r, F, N, W, h2, x0, x1, x2, x3, x4, b1, -⟩
      · exact ⟨_, _, _, c_all_bad C s n w a1, b2, LI.mk j Mid.rf C b4 b3⟩
      · exact absurd b1 (a1 k r F N W)
    · right
      refine ⟨rfl, ?_⟩
      rcases m_all (M.mid a4) s n w with ⟨b1, -⟩ | ⟨k', r', F', N', W', h2, y0, y1, y2, y3, y4, b1, b2, b5, b3, b4⟩
      · exact absurd a1 (b1 k r F N W)
      · obtain ⟨⟨rfl, rfl, rfl⟩, rfl, rfl⟩ := a1.one b1
        obtain ⟨rfl, rfl, rfl, rfl, rfl⟩ := a5.one b5
        exact ⟨_, _, _, h.length, by omega, a2, b2, LI.mk j a4 a3 b4 b3⟩
  · exact Or.inl (s_all_old L hsu s n w)
theorem MInv.setT (I : MInv h thr sz tl tp sl ol of rd) (x : Int32) : ∃ h', pF h 20 7 0 (vI x) = some h' ∧ MInv h' x sz tl tp sl ol of rd ∧ Dn h h' := by
  obtain ⟨tpf, stf, wdf, tbf, otf, e0, a1, a2, a3, e1, b1, e2, e3, e4, b2, e5, b3, F⟩ := I
  exact ⟨_, q_0 e0, ⟨tpf, stf, wdf, tbf, otf, st_s e0, a1, a2, a3, st_n' (by decide) e1, b1, st_n' (by decide) e2, st_n' (by decide) e3, st_n' (by decide) e4, b2, st_n' (by decide) e5, b3, F.o (by decide)⟩, Dn.rf.st (by decide)⟩
theorem m_thrown (I : MInv h thr sz tl tp sl ol of rd) : fX7_thrown h 20 = some (thr, h) := by
  obtain ⟨tpf, stf, wdf, tbf, otf, e0, -⟩ := I
  unfold fX7_thrown
  rw [o_0 e0]
  rfl
theorem m_oct18 (I : MInv h thr sz tl tp sl ol of rd) (k : Int32) : ∃ h', fX7_octet_b18 20 k 1 20 h = some (0, h') ∧ MInv h' 1 sz tl tp sl ol of rd ∧ Dn h h' := by
  obtain ⟨h', c1, I1, d1⟩ := I.setT 1
  obtain ⟨tpf, stf, wdf, tbf, otf, e0, -⟩ := id I
  refine ⟨h', ?_, I1, d1⟩
  unfold fX7_octet_b18 fX7_throwsIf fX7_throwsIf_b10
  rw [oo e0, if_neg (by decide), c1]
  simp only [Option.bind_some]
  rw [retZ1, call_ok, if_neg (by decide)]
theorem m_octet (I : MInv h thr sz tl tp sl ol of rd) (k : Int32) : ((k < 0 ∨ nI ol ≤ k) ∧ ∃ h', fX7_octet h 20 k = some (0, h') ∧ MInv h' 1 sz tl tp sl ol of rd ∧ Dn h h') ∨ (∃ j h', j < ol ∧ k = nI j ∧ fX7_octet h 20 k = some (nI (of j), h') ∧ MInv h' 0 sz tl tp sl ol of rd ∧ Dn h h') := by
  obtain ⟨tpf, stf, wdf, tbf, otf, e0, a1, a2, a3, e1, b1, e2, e3, e4, b2, e5, b3, F⟩ := id I
  unfold fX7_octet
  rcases pk_ix k (n := ol) (by omega) with q | q | ⟨j, hj, rfl⟩
  · left
    rw [if_pos q]
    exact ⟨Or.inl q, m_oct18 I k⟩
  · left
    refine ⟨Or.inr q, ?_⟩
    by_cases q2 : k < 0
    · rw [if_pos q2]
      exact m_oct18 I k
    · rw [if_neg q2, o_8 e0]
      simp only [Option.bind_some]
      rw [if_neg (by rw [Int32.not_lt]; exact q)]
      exact m_oct18 I k
  · right
    obtain ⟨h', c1, I1, d1⟩ := I.setT 0
    obtain ⟨tpf', stf', wdf', tbf', otf', e0', -, -, -, -, -, -, -, -, -, e5', b3', -⟩ := id I1
    refine ⟨j, h', hj, rfl, ?_, I1, d1⟩
    rw [if_neg (nI_nn (by omega)), o_8 e0]
    simp only [Option.bind_some]
    rw [if_ltI (by omega) (by omega), if_pos hj]
    unfold fX7_octet_b18 fX7_throwsIf fX7_throwsIf_b10
    rw [oo e0, if_pos rfl, c1]
    simp only [Option.bind_some]
    rw [retZ0, call_ok, if_pos rfl, o_7 e0']
    simp only [Option.bind_some]
    rw [aI_of e5' (by omega) (by omega), (b3' j hj).1]
    rfl
end LB2

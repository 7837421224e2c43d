/-! Class and reference side by side: every call answers alike, and both stay at one state. -/
/-- the law's own row, and the reference's object -/
def J43 (h : Hp) : Prop := (∃ f, h[43]? = some (lC 1 f)) ∧ ∃ fs, h[20]? = some (oC 7 fs)
def O20 (h : Hp) : Prop := ∃ fs, hObj h 20 7 = some fs
/-- both at one state -/
def LI (h : Hp) (tr su : Nat) : Prop := J43 h ∧ ∃ (thr sz : Int32) (tl : Nat) (tp : Nat → Nat) (sl : SL) (ol : Nat) (of : Nat → Nat) (rd : Nat), CInv SVN h tl tp sl ol of rd tr su ∧ MInv h thr sz tl tp sl ol of rd
section LB
variable {h : Hp} {tr su : Nat}
theorem LI.mk {h1 h2 : Hp} {thr sz : Int32} {tl : Nat} {tp : Nat → Nat} {sl : SL} {ol : Nat} {of : Nat → Nat} {rd : Nat} (j : J43 h) (u : Mid h h1) (C : CInv SVN h1 tl tp sl ol of rd tr su) (d : Dn h1 h2) (M : MInv h2 thr sz tl tp sl ol of rd) : O20 h1 ∧ LI h2 tr su := by
  obtain ⟨j1, fs, j2⟩ := j
  refine ⟨⟨fs, hObj_of (by decide) (u 20 _ (by decide) (by decide) j2)⟩, ⟨j1.imp fun _ q => (d.2 43 (Or.inr (by decide))).trans (u 43 _ (by decide) (by decide) q), ?_⟩, thr, sz, tl, tp, sl, ol, of, rd, C.dn d, M⟩
  obtain ⟨tpf, stf, wdf, tbf, otf, e0, -⟩ := M
  exact ⟨_, e0⟩
theorem Mid.rf : Mid h h := fun _ _ _ _ e => e
theorem CInv.t100 {SV : SVP} {tl : Nat} {tp : Nat → Nat} {sl : SL} {ol : Nat} {of : Nat → Nat} {rd : Nat} (I : CInv SV h tl tp sl ol of rd tr su) : tl ≤ 100 := by
  obtain ⟨he, th, sf, tf, uf, e2, e3, e4, a1, -⟩ := I
  exact a1
theorem nI_ij {a b : Nat} (ha : a < 2 ^ 31) (hb : b < 2 ^ 31) (h : nI a = nI b) : a = b := (nI_eq ha hb).mp h
theorem s_feed (L : LI h tr su) (a b c d e : Int32) : ∃ v h1 h2, fX6_feed h 4 a b c d e = some (v, h1) ∧ fX7_feed h1 20 a b c d e = some (v, h2) ∧ O20 h1 ∧ LI h2 tr su := by
  obtain ⟨j, thr, sz, tl, tp, sl, ol, of, rd, C, M⟩ := L
  rcases c_feed C a b c d e with ⟨a1, a2⟩ | ⟨a1, h1, a2, a3, a4⟩
  · rcases m_feed M a b c d e with ⟨b1, h2, b2, b3, b4⟩ | ⟨b1, -⟩
    · exact ⟨_, _, _, a2, b2, LI.mk j Mid.rf C b4 b3⟩
    · omega
  · rcases m_feed (M.mid a4.mid) a b c d e with ⟨b1, -⟩ | ⟨b1, h2, b2, b3, b4⟩
    · omega
    · exact ⟨_, _, _, a2, b2, LI.mk j a4.mid a3 b4 b3⟩
theorem s_end (L : LI h tr su) (n : Int32) : ∃ v h1 h2, fX6_end h 4 n = some (v, h1) ∧ fX7_end h1 20 n = some (v, h2) ∧ O20 h1 ∧ LI h2 tr su := by
  obtain ⟨j, thr, sz, tl, tp, sl, ol, of, rd, C, M⟩ := L
  have ht := C.t100
  have no : ∀ i, i ≤ tl → ¬ (nI i < 0 ∨ nI tl < nI i) := fun i hi w => by
    rcases w with w | w
    · exact nI_nn (by omega) w
    · have := (nI_ltI (by omega) (by omega)).mp w
      omega
  rcases c_end C n with ⟨a1, a2⟩ | ⟨i, h1, a1, rfl, a2, a3, a4⟩
  · rcases m_end M n with ⟨b1, h2, b2, b3, b4⟩ | ⟨i, h2, b1, rfl, -⟩
    · exact ⟨_, _, _, a2, b2, LI.mk j Mid.rf C b4 b3⟩
    · exact absurd a1 (no i b1)
  · rcases m_end (M.mid a4.mid) (nI i) with ⟨b1, -⟩ | ⟨i', h2, b1, b5, b2, b3, b4⟩
    · exact absurd b1 (no i a1)
    · have : i = i' := nI_ij (by omega) (by omega) b5
      subst this
      exact ⟨_, _, _, a2, b2, LI.mk j a4.mid a3 b4 b3⟩
theorem okRule.one {tl : Nat} {tp : Nat → Nat} {s k r : Int32} {j K W j' K' W' : Nat} (a : okRule tl tp s k r j K W) (b : okRule tl tp s k r j' K' W') : j = j' ∧ K = K' ∧ W = W' := by
  obtain ⟨a1, a2, a3, a4, a5, a6, -⟩ := a
  obtain ⟨b1, b2, b3, b4, b5, b6, -⟩ := b
  have := a6.nums.2.2.2.2
  have := b6.nums.2.2.2.2
  exact ⟨nI_ij (by omega) (by omega) (a2.symm.trans b2), nI_ij (by omega) (by omega) (a3.symm.trans b3), nI_ij (by omega) (by omega) (a4.symm.trans b4)⟩
theorem s_rule (L : LI h tr su) (s k r : Int32) : ∃ v h1 h2, fX6_rule h 4 s k r = some (v, h1) ∧ fX7_rule h1 20 s k r = some (v, h2) ∧ O20 h1 ∧ LI h2 tr su := by
  obtain ⟨j, thr, sz, tl, tp, sl, ol, of, rd, C, M⟩ := L
  rcases c_rule C s k r with ⟨a1, h1, a2, a3, a4⟩ | ⟨i, K, W, h1, a1, a2, a3, a4⟩
  · rcases m_rule (M.mid a4.mid) s k r with ⟨b1, h2, b2, b3, b4⟩ | ⟨i, K, W, h2, b1, -⟩
    · exact ⟨_, _, _, a2, b2, LI.mk j a4.mid a3 b4 b3⟩
    · exact absurd b1 (a1 i K W)
  · rcases m_rule (M.mid a4.mid) s k r with ⟨b1, -⟩ | ⟨i', K', W', h2, b1, b2, b3, b4⟩
    · exact absurd a1 (b1 i K W)
    · obtain ⟨rfl, rfl, rfl⟩ := a1.one b1
      exact ⟨_, _, _, a2, b2, LI.mk j a4.mid a3 b4 b3⟩
theorem rule_in {sl : SL} {s : Int32} {k r k' r' : Nat} {F F' : Nat → Nat} (a : ruleOf sl s = some (k, r, F)) (b : ruleOf sl s = some (k', r', F')) : k = k' ∧ r = r' ∧ F = F' := by
  rw [a] at b
  cases b
  exact ⟨rfl, rfl, rfl⟩
theorem rule_no {sl : SL} {s : Int32} {x : Nat × Nat × (Nat → Nat)} (a : ruleOf sl s = none) (b : ruleOf sl s = some x) : False := by
  rw [a] at b
  cases b
theorem s_about (L : LI h tr su) (s w : Int32) : ∃ v h1 h2, fX6_about h 4 s w = some (v, h1) ∧ fX7_about h1 20 s w = some (v, h2) ∧ O20 h1 ∧ LI h2 tr su := by
  obtain ⟨j, thr, sz, tl, tp, sl, ol, of, rd, C, M⟩ := L
  have fin : ∀ {h1 v}, fX6_about h 4 s w = some (v, h1) → CInv SVN h1 tl tp sl ol of rd tr su → Mid h h1 → (∃ h2, fX7_about h1 20 s w = some (v, h2) ∧ (∃ thr sz, MInv h2 thr sz tl tp sl ol of rd) ∧ Dn h1 h2) → ∃ v h1 h2, fX6_about h 4 s w = some (v, h1) ∧ fX7_about h1 20 s w = some (v, h2) ∧ O20 h1 ∧ LI h2 tr su := fun {h1 v} x1 x2 x3 ⟨h2, x4, ⟨_, _, x5⟩, x6⟩ => ⟨_, _, _, x1, x4, LI.mk j x3 x2 x6 x5⟩
  rcases c_about C s w with ⟨a1, a2⟩ | ⟨k, r, F, a1, g, a2⟩
  · rcases m_about M s w with ⟨b1, h2, b2, b3, b4⟩ | ⟨k, r, F, h2, b1, -⟩
    · exact ⟨_, _, _, a2, b2, LI.mk j Mid.rf C b4 b3⟩
    · exact (rule_no a1 b1).elim
  have mod : ∀ h1, Mid h h1 → ∃ h2, MInv h2 0 sz tl tp sl ol of rd ∧ Dn h1 h2 ∧ ((w = 0 ∧ fX7_about h1 20 s w = some (nI k, h2)) ∨ (w = 1 ∧ fX7_about h1 20 s w = some (nI r, h2)) ∨ (w = 2 ∧ (((EvenR k r F ∧ ¬ PartsP k (k ^ (r - 1)) F) ∧ fX7_about h1 20 s w = some (1, h2)) ∨ (¬ (EvenR k r F ∧ ¬ PartsP k (k ^ (r - 1)) F) ∧ fX7_about h1 20 s w = some (0, h2)))) ∨ (w = 3 ∧ (((EvenR k r F ∧ LosesM k (k ^ (r - 1)) F) ∧ fX7_about h1 20 s w = some (1, h2)) ∨ (¬ (EvenR k r F ∧ LosesM k (k ^ (r - 1)) F) ∧ fX7_about h1 20 s w = some (0, h2)))) ∨ (w ≠ 0 ∧ w ≠ 1 ∧ w ≠ 2 ∧ w ≠ 3 ∧ fX7_about h1 20 s w = some (-1, h2))) := fun h1 u => by
    rcases m_about (M.mid u) s w with ⟨b1, -⟩ | ⟨k', r', F', h2, b1, -, b3, b4, b5⟩
    · exact (rule_no b1 a1).elim
    · obtain ⟨rfl, rfl, rfl⟩ := rule_in a1 b1
      exact ⟨h2, b3, b4, b5⟩
  have n01 : (0 : Int32) ≠ 1 := by decide
  have n02 : (0 : Int32) ≠ 2 := by decide
  have n03 : (0 : Int32) ≠ 3 := by decide
  have n12 : (1 : Int32) ≠ 2 := by decide
  have n13 : (1 : Int32) ≠ 3 := by decide
  have n23 : (2 : Int32) ≠ 3 := by decide
  rcases a2 with ⟨w0, a2⟩ | ⟨w0, a2⟩ | ⟨w0, h1, a3, a4, a2⟩ | ⟨w0, h1, a3, a4, a2⟩ | ⟨w0, w1, w2, w3, a2⟩
  · obtain ⟨h2, b3, b4, b5⟩ := mod h Mid.rf
    subst w0
    rcases b5 with ⟨-, b5⟩ | ⟨b, -⟩ | ⟨b, -⟩ | ⟨b, -⟩ | ⟨b, -⟩
    · exact fin a2 C Mid.rf ⟨h2, b5, ⟨_, _, b3⟩, b4⟩
    · exact absurd b n01
    · exact absurd b n02
    · exact absurd b n03
    · exact absurd rfl b
  · obtain ⟨h2, b3, b4, b5⟩ := mod h Mid.rf
    subst w0
    rcases b5 with ⟨b, -⟩ | ⟨-, b5⟩ | ⟨b, -⟩ | ⟨b, -⟩ | ⟨-, b, -⟩
    · exact absurd b.symm n01
    · exact fin a2 C Mid.rf ⟨h2, b5, ⟨_, _, b3⟩, b4⟩
    · exact absurd b n12
    · exact absurd b n13
    · exact absurd rfl b
  · obtain ⟨h2, b3, b4, b5⟩ := mod h1 a4.mid
    subst w0
    rcases b5 with ⟨b, -⟩ | ⟨b, -⟩ | ⟨-, b5⟩ | ⟨b, -⟩ | ⟨-, -, b, -⟩
    · exact absurd b.symm n02
    · exact absurd b.symm n12
    · rcases a2 with ⟨c1, c2⟩ | ⟨c1, c2⟩
      · rcases b5 with ⟨-, b5⟩ | ⟨b5, -⟩
        · exact fin c2 a3 a4.mid ⟨h2, b5, ⟨_, _, b3⟩, b4⟩
        · exact absurd ((br_full g).1 c1) b5
      · rcases b5 with ⟨b5, -⟩ | ⟨-, b5⟩
        · exact absurd b5 ((br_full g).2 c1)
        · exact fin c2 a3 a4.mid ⟨h2, b5, ⟨_, _, b3⟩, b4⟩
    · exact absurd b n23
    · exact absurd rfl b
  · obtain ⟨h2, b3, b4, b5⟩ := mod h1 a4.mid
    subst w0
    rcases b5 with ⟨b, -⟩ | ⟨b, -⟩ | ⟨b, -⟩ | ⟨-, b5⟩ | ⟨-, -, -, b, -⟩
    · exact absurd b.symm n03
    · exact absurd b.symm n13
    · exact absurd b.symm n23
    · rcases a2 with ⟨c1, c2⟩ | ⟨c1, c2⟩
      · rcases b5 with ⟨-, b5⟩ | ⟨b5, -⟩
        · exact fin c2 a3 a4.mid ⟨h2, b5, ⟨_, _, b3⟩, b4⟩
        · exact absurd ((br_loses g).mp c1) b5
      · rcases b5 with ⟨b5, -⟩ | ⟨-, b5⟩
        · exact absurd ((br_loses g).mpr b5) c1
        · exact fin c2 a3 a4.mid ⟨h2, b5, ⟨_, _, b3⟩, b4⟩
    · exact absurd rfl b
  · obtain ⟨h2, b3, b4, b5⟩ := mod h Mid.rf
    rcases b5 with ⟨b, -⟩ | ⟨b, -⟩ | ⟨b, -⟩ | ⟨b, -⟩ | ⟨-, -, -, -, b5⟩
    · exact absurd b w0
    · exact absurd b w1
    · exact absurd b w2
    · exact absurd b w3
    · exact fin a2 C Mid.rf ⟨h2, b5, ⟨_, _, b3⟩, b4⟩
theorem s_table (L : LI h tr su) (s : Int32) : ∃ v h1 h2, fX6_table h 4 s = some (v, h1) ∧ fX7_table h1 20 s = some (v, h2) ∧ O20 h1 ∧ LI h2 tr su := by
  obtain ⟨j, thr, sz, tl, tp, sl, ol, of, rd, C, M⟩ := L
  rcases c_table C s with ⟨a1, a2⟩ | ⟨k, r, F, h1, a1, -, a2, a3, a4⟩
  · rcases m_table M s with ⟨b1, h2, b2, b3, b4⟩ | ⟨k, r, F, h2, b1, -⟩
    · exact ⟨_, _, _, a2, b2, LI.mk j Mid.rf C b4 b3⟩
    · exact (rule_no a1 b1).elim
  · rcases m_table (M.mid a4.mid) s with ⟨b1, -⟩ | ⟨k', r', F', h2, b1, -, b2, b3, b4⟩
    · exact (rule_no b1 a1).elim
    · obtain ⟨rfl, rfl, rfl⟩ := rule_in a1 b1
      exact ⟨_, _, _, a2, b2, LI.mk j a4.mid a3 b4 b3⟩
theorem s_row (L : LI h tr su) (s : Int32) : ∃ v h1 h2, fX6_row h 4 s = some (v, h1) ∧ fX7_row h1 20 s = some (v, h2) ∧ O20 h1 ∧ LI h2 tr su := by
  obtain ⟨j, thr, sz, tl, tp, sl, ol, of, rd, C, M⟩ := L
  rcases c_row C s with ⟨a1, h1, a2, a3, a4⟩ | ⟨k, r, F, h1, a1, -, a5, a6, a2, a3, a4⟩
  · rcases m_row (M.mid a4.mid) s with ⟨b1, h2, b2, b3, b4⟩ | ⟨k, r, F, h2, b1, -, b5, b6, -⟩
    · exact ⟨_, _, _, a2, b2, LI.mk j a4.mid a3 b4 b3⟩
    · exact absurd ⟨b5, b6⟩ (a1 k r F b1)
  · rcases m_row (M.mid a4.mid) s with ⟨b1, -⟩ | ⟨k', r', F', h2, b1, -, b5, b6, b2, b3, b4⟩
    · exact absurd ⟨a5, a6⟩ (b1 k r F a1)
    · obtain ⟨rfl, rfl, rfl⟩ := rule_in a1 b1
      exact ⟨_, _, _, a2, b2, LI.mk j a4.mid a3 b4 b3⟩
theorem s_ring (L : LI h tr su) (s t : Int32) : ∃ v h1 h2, fX6_ring h 4 s t = some (v, h1) ∧ fX7_ring h1 20 s t = some (v, h2) ∧ O20 h1 ∧ LI h2 tr su := by
  obtain ⟨j, thr, sz, tl, tp, sl, ol, of, rd, C, M⟩ := L
  rcases c_ring C s t with ⟨a1, h1, a2, a3, a4⟩ | ⟨k, r, F, T, h1, a1, -, a2, a3, a4⟩
  · rcases m_ring (M.mid a4.mid) s t with ⟨b1, h2, b2, b3, b4⟩ | ⟨k, r, F, T, h2, b1, -⟩
    · exact ⟨_, _, _, a2, b2, LI.mk j a4.mid a3 b4 b3⟩
    · exact absurd b1 (a1 k r F T)
  · rcases m_ring (M.mid a4.mid) s t with ⟨b1, -⟩ | ⟨k', r', F', T', h2, b1, -, b2, b3, b4⟩
    · exact absurd a1 (b1 k r F T)
    · obtain ⟨rfl, rfl, rfl⟩ := rule_in a1.1 b1.1
      have hT : T = T' := nI_ij (by have := a1.2.2.1; omega) (by have := b1.2.2.1; omega) (a1.2.1.symm.trans b1.2.1)
      subst hT
      exact ⟨_, _, _, a2, b2, LI.mk j a4.mid a3 b4 b3⟩
theorem s_behind (L : LI h tr su) (s : Int32) : ∃ v h1 h2, fX6_behind h 4 s = some (v, h1) ∧ fX7_behind h1 20 s = some (v, h2) ∧ O20 h1 ∧ LI h2 tr su := by
  obtain ⟨j, thr, sz, tl, tp, sl, ol, of, rd, C, M⟩ := L
  rcases c_behind C s with ⟨a1, h1, a2, a3, a4⟩ | ⟨k, r, F, h1, a1, -, a5, a2, a3, a4⟩
  · rcases m_behind (M.mid a4.mid) s with ⟨b1, h2, b2, b3, b4⟩ | ⟨k, r, F, h2, b1, -, b5, -⟩
    · exact ⟨_, _, _, a2, b2, LI.mk j a4.mid a3 b4 b3⟩
    · exact absurd b5 (a1 k r F b1)
  · rcases m_behind (M.mid a4.mid) s with ⟨b1, -⟩ | ⟨k', r', F', h2, b1, -, b5, b2, b3, b4⟩
    · exact absurd a5 (b1 k r F a1)
    · obtain ⟨rfl, rfl, rfl⟩ := rule_in a1 b1
      exact ⟨_, _, _, a2, b2, LI.mk j a4.mid a3 b4 b3⟩
theorem s_ringsBehind (L : LI h tr su) (s : Int32) : ∃ v h1 h2, fX6_ringsBehind h 4 s = some (v, h1) ∧ fX7_ringsBehind h1 20 s = some (v, h2) ∧ O20 h1 ∧ LI h2 tr su := by
  obtain ⟨j, thr, sz, tl, tp, sl, ol, of, rd, C, M⟩ := L
  rcases c_ringsBehind C s with ⟨a1, h1, a2, a3, a4⟩ | ⟨k, r, F, h1, a1, -, a5, a2, a3, a4⟩
  · rcases m_ringsBehind (M.mid a4.mid) s with ⟨b1, h2, b2, b3, b4⟩ | ⟨k, r, F, h2, b1, -, b5, -⟩
    · exact ⟨_, _, _, a2, b2, LI.mk j a4.mid a3 b4 b3⟩
    · exact absurd b5 (a1 k r F b1)
  · rcases m_ringsBehind (M.mid a4.mid) s with ⟨b1, -⟩ | ⟨k', r', F', h2, b1, -, b5, b2, b3, b4⟩
    · exact absurd a5 (b1 k r F a1)
    · obtain ⟨rfl, rfl, rfl⟩ := rule_in a1 b1
      exact ⟨_, _, _, a2, b2, LI.mk j a4.mid a3 b4 b3⟩
theorem mis_yes_no {k r : Nat} {F : Nat → Nat} (g : GR k r F) (a : NoMis k r F) {y : List Nat} (b : MisOf k r F y) : False := (br_full g).2 ⟨y, b⟩ ((br_full g).1 a)
theorem s_missed (L : LI h tr su) (s : Int32) : ∃ v h1 h2, fX6_missed h 4 s = some (v, h1) ∧ fX7_missed h1 20 s = some (v, h2) ∧ O20 h1 ∧ LI h2 tr su := by
  obtain ⟨j, thr, sz, tl, tp, sl, ol, of, rd, C, M⟩ := L
  rcases c_missed C s with ⟨a1, a2⟩ | ⟨k, r, F, a1, g, a2⟩
  · rcases m_missed M s with ⟨b1, h2, b2, b3, b4⟩ | ⟨k, r, F, b1, -⟩
    · exact ⟨_, _, _, a2, b2, LI.mk j Mid.rf C b4 b3⟩
    · exact (rule_no a1 b1).elim
  · have hk : 0 < k := by have := g.1; omega
    rcases a2 with ⟨c1, h1, c2, c3, c4⟩ | ⟨y, h1, c1, c5, c2, c3, c4⟩
    · rcases m_missed (M.mid c4.mid) s with ⟨b1, -⟩ | ⟨k', r', F', b1, -, b2⟩
      · exact (rule_no b1 a1).elim
      · obtain ⟨rfl, rfl, rfl⟩ := rule_in a1 b1
        rcases b2 with ⟨-, h2, d2, d3, d4⟩ | ⟨y', h2, d1, -⟩
        · exact ⟨_, _, _, c2, d2, LI.mk j c4.mid c3 d4 d3⟩
        · exact (mis_yes_no g c1 d1).elim
    · rcases m_missed (M.mid c4.mid) s with ⟨b1, -⟩ | ⟨k', r', F', b1, -, b2⟩
      · exact (rule_no b1 a1).elim
      · obtain ⟨rfl, rfl, rfl⟩ := rule_in a1 b1
        rcases b2 with ⟨d1, -⟩ | ⟨y', h2, d1, d5, d2, d3, d4⟩
        · exact (mis_yes_no g d1 c1).elim
        · have : y = y' := MisRow.one hk c1 d1
          subst this
          exact ⟨_, _, _, c2, d2, LI.mk j c4.mid c3 d4 d3⟩
theorem slot_no {t : Int32} {j : Nat} (hj : j < 6) (a : t < 0 ∨ nI 6 ≤ t) (e : t = nI j) : False := by
  rw [e] at a
  rcases a with a | a
  · exact nI_nn (by omega) a
  · have := (nI_leI (a := 6) (b := j) (by omega) (by omega)).mp a
    omega
theorem BackAt.one {k r : Nat} {F : Nat → Nat} {w d w' d' : Nat} (a : BackAt k r F w d) (b : BackAt k r F w' d') : w = w' ∧ d = d' := by
  obtain ⟨a1, a2, a3, a4, a5, a6⟩ := a
  obtain ⟨b1, b2, b3, b4, b5, b6⟩ := b
  have hw : w = w' := by
    rcases Nat.lt_trichotomy w w' with z | z | z
    · exact absurd a4 (b6 w d a1 z a3)
    · exact z
    · exact absurd b4 (a6 w' d' b1 z b3)
  subst hw
  refine ⟨rfl, ?_⟩
  rcases Nat.lt_trichotomy d d' with z | z | z
  · exact absurd a4 (b5 d z)
  · exact z
  · exact absurd b4 (a5 d' z)
theorem s_back (L : LI h tr su) (s t : Int32) : ∃ v h1 h2, fX6_back h 4 s t = some (v, h1) ∧ fX7_back h1 20 s t = some (v, h2) ∧ O20 h1 ∧ LI h2 tr su := by
  obtain ⟨j, thr, sz, tl, tp, sl, ol, of, rd, C, M⟩ := L
  rcases c_back C s t with ⟨a1, a2⟩ | ⟨k, r, F, i, a1, g, a5, a6, a2⟩
  · rcases m_back M s t with ⟨b1, h2, b2, b3, b4⟩ | ⟨k, r, F, i, b1, -, b5, b6, -⟩
    · exact ⟨_, _, _, a2, b2, LI.mk j Mid.rf C b4 b3⟩
    · rcases a1 with a1 | a1
      · exact (rule_no a1 b1).elim
      · exact (slot_no b5 a1 b6).elim
  · have mod : ∀ h1, Mid h h1 → (NoBack k r F ∧ ∃ h', fX7_back h1 20 s t = some (0, h') ∧ MInv h' 0 sz tl tp sl ol of rd ∧ Dn h1 h') ∨ (∃ w d h', BackAt k r F w d ∧ fX7_back h1 20 s t = some (nI (10 * w + d), h') ∧ MInv h' 0 sz tl tp (upS sl i (k, w, bkG k r F w d)) ol of rd ∧ Dn h1 h') := fun h1 u => by
      rcases m_back (M.mid u) s t with ⟨b1, -⟩ | ⟨k', r', F', i', b1, -, b5, b6, b2⟩
      · rcases b1 with b1 | b1
        · exact (rule_no b1 a1).elim
        · exact (slot_no a5 b1 a6).elim
      · obtain ⟨rfl, rfl, rfl⟩ := rule_in a1 b1
        have : i = i' := nI_ij (by omega) (by omega) (a6.symm.trans b6)
        subst this
        exact b2
    rcases a2 with ⟨c1, h1, c2, c3, c4⟩ | ⟨w, d, h1, c1, c2, c5, c3, c4⟩
    · rcases mod h1 c4.mid with ⟨-, h2, d2, d3, d4⟩ | ⟨w, d, h2, d1, -⟩
      · exact ⟨_, _, _, c2, d2, LI.mk j c4.mid c3 d4 d3⟩
      · exact absurd d1.2.2.2.1 (c1 w d d1.1 d1.2.1 d1.2.2.1)
    · rcases mod h1 c4.mid with ⟨d1, -⟩ | ⟨w', d', h2, d1, d2, d3, d4⟩
      · exact absurd c1.2.2.2.1 (d1 w d c1.1 c1.2.1 c1.2.2.1)
      · obtain ⟨rfl, rfl⟩ := c1.one d1
        exact ⟨_, _, _, c2, d2, LI.mk j c4.mid c3 d4 d3⟩
theorem s_round (L : LI h tr su) : ∃ v h1 h2, fX6_round h 4 = some (v, h1) ∧ fX7_round h1 20 = some (v, h2) ∧ O20 h1 ∧ LI h2 tr su := by
  obtain ⟨j, thr, sz, tl, tp, sl, ol, of, rd, C, M⟩ := L
  obtain ⟨h2, b2, b3, b4⟩ := m_round M
  exact ⟨_, _, _, c_round C, b2, LI.mk j Mid.rf C b4 b3⟩
theorem s_count (L : LI h tr su) (w : Int32) : ∃ v h1 h2, fX6_count h 4 w = some (v, h1) ∧ fX7_count_ h1 20 w = some (v, h2) ∧ O20 h1 ∧ LI h2 tr su := by
  obtain ⟨j, thr, sz, tl, tp, sl, ol, of, rd, C, M⟩ := L
  obtain ⟨h2, b2, b3, b4⟩ := m_count M w
  exact ⟨_, _, _, c_count C w, b2, LI.mk j Mid.rf C b4 b3⟩
theorem s_keeps (L : LI h tr su) (s : Int32) : ∃ v h1 h2, fX6_keeps h 4 s = some (v, h1) ∧ fX7_keeps h1 20 s = some (v, h2) ∧ O20 h1 ∧ LI h2 tr su := by
  obtain ⟨j, thr, sz, tl, tp, sl, ol, of, rd, C, M⟩ := L
  rcases c_keeps C s with ⟨a1, h1, a2, a3, a4⟩ | ⟨k, r, F, h1, a1, -, a5, a2, a3, a4⟩
  · rcases m_keeps (M.mid a4.mid) s with ⟨b1, h2, b2, b3, b4⟩ | ⟨k, r, F, h2, b1, -, b5, -⟩
    · exact ⟨_, _, _, a2, b2, LI.mk j a4.mid a3 b4 b3⟩
    · exact absurd b5 (a1 k r F b1)
  · rcases m_keeps (M.mid a4.mid) s with ⟨b1, -⟩ | ⟨k', r', F', h2, b1, -, b5, b2, b3, b4⟩
    · exact absurd a5 (b1 k r F a1)
    · obtain ⟨rfl, rfl, rfl⟩ := rule_in a1 b1
      rcases a2 with ⟨c1, c2⟩ | ⟨c1, c2⟩
      · rcases b2 with ⟨d1, d2⟩ | ⟨d1, d2⟩
        · exact ⟨_, _, _, c2, d2, LI.mk j a4.mid a3 b4 b3⟩
        · exact absurd c1 d1
      · rcases b2 with ⟨d1, d2⟩ | ⟨d1, d2⟩
        · exact absurd d1 c1
        · exact ⟨_, _, _, c2, d2, LI.mk j a4.mid a3 b4 b3⟩
theorem s_join (L : LI h tr su) (s t u : Int32) : ∃ v h1 h2, fX6_join h 4 s t u = some (v, h1) ∧ fX7_join h1 20 s t u = some (v, h2) ∧ O20 h1 ∧ LI h2 tr su := by
  obtain ⟨j, thr, sz, tl, tp, sl, ol, of, rd, C, M⟩ := L
  rcases c_join C s t u with ⟨a1, a2⟩ | ⟨k, r, q, F, G, i, h1, a1, -, -, a2, a3, a4⟩
  · rcases m_join M s t u with ⟨b1, h2, b2, b3, b4⟩ | ⟨k, r, q, F, G, i, h2, b1, -⟩
    · exact ⟨_, _, _, a2, b2, LI.mk j Mid.rf C b4 b3⟩
    · exact absurd b1 (a1 k r q F G i)
  · rcases m_join (M.mid a4.mid) s t u with ⟨b1, -⟩ | ⟨k', r', q', F', G', i', h2, b1, -, -, b2, b3, b4⟩
    · exact absurd a1 (b1 k r q F G i)
    · obtain ⟨rfl, rfl, rfl⟩ := rule_in a1.1 b1.1
      obtain ⟨-, rfl, rfl⟩ := rule_in a1.2.1 b1.2.1
      have : i = i' := nI_ij (by have := a1.2.2.1; omega) (by have := b1.2.2.1; omega) (a1.2.2.2.1.symm.trans b1.2.2.2.1)
      subst this
      exact ⟨_, _, _, a2, b2, LI.mk j a4.mid a3 b4 b3⟩
theorem s_mirror (L : LI h tr su) (s t : Int32) : ∃ v h1 h2, fX6_mirror h 4 s t = some (v, h1) ∧ fX7_mirror h1 20 s t = some (v, h2) ∧ O20 h1 ∧ LI h2 tr su := by
  obtain ⟨j, thr, sz, tl, tp, sl, ol, of, rd, C, M⟩ := L
  rcases c_mirror C s t with ⟨a1, a2⟩ | ⟨k, r, F, i, h1, a1, -, a5, a6, a2, a3, a4⟩
  · rcases m_mirror M s t with ⟨b1, h2, b2, b3, b4⟩ | ⟨k, r, F, i, h2, b1, -, b5, b6, -⟩
    · exact ⟨_, _, _, a2, b2, LI.mk j Mid.rf C b4 b3⟩
    · rcases a1 with a1 | a1
      · exact (rule_no a1 b1).elim
      · exact (slot_no b5 a1 b6).elim
  · rcases m_mirror (M.mid a4.mid) s t with ⟨b1, -⟩ | ⟨k', r', F', i', h2, b1, -, b5, b6, b2, b3, b4⟩
    · rcases b1 with b1 | b1
      · exact (rule_no b1 a1).elim
      · exact (slot_no a5 b1 a6).elim
    · obtain ⟨rfl, rfl, rfl⟩ := rule_in a1 b1
      have : i = i' := nI_ij (by omega) (by omega) (a6.symm.trans b6)
      subst this
      exact ⟨_, _, _, a2, b2, LI.mk j a4.mid a3 b4 b3⟩
theorem s_rename (L : LI h tr su) (s t : Int32) : ∃ v h1 h2, fX6_rename h 4 s t = some (v, h1) ∧ fX7_rename h1 20 s t = some (v, h2) ∧ O20 h1 ∧ LI h2 tr su := by
  obtain ⟨j, thr, sz, tl, tp, sl, ol, of, rd, C, M⟩ := L
  rcases c_rename C s t with ⟨a1, h1, a2, a3, a4⟩ | ⟨k, r, F, i, h1, a1, -, a2, a3, a4⟩
  · rcases m_rename (M.mid a4.mid) s t with ⟨b1, h2, b2, b3, b4⟩ | ⟨k, r, F, i, h2, b1, -⟩
    · exact ⟨_, _, _, a2, b2, LI.mk j a4.mid a3 b4 b3⟩
    · exact absurd b1 (a1 k r F i)
  · rcases m_rename (M.mid a4.mid) s t with ⟨b1, -⟩ | ⟨k', r', F', i', h2, b1, -, b2, b3, b4⟩
    · exact absurd a1 (b1 k r F i)
    · obtain ⟨rfl, rfl, rfl⟩ := rule_in a1.1 b1.1
      have : i = i' := nI_ij (by have := a1.2.1; omega) (by have := b1.2.1; omega) (a1.2.2.1.symm.trans b1.2.2.1)
      subst this
      exact ⟨_, _, _, a2, b2, LI.mk j a4.mid a3 b4 b3⟩
theorem s_trim (L : LI h tr su) (s t : Int32) : ∃ v h1 h2, fX6_trim h 4 s t = some (v, h1) ∧ fX7_trim h1 20 s t = some (v, h2) ∧ O20 h1 ∧ LI h2 tr su := by
  obtain ⟨j, thr, sz, tl, tp, sl, ol, of, rd, C, M⟩ := L
  rcases c_trim C s t with ⟨a1, a2⟩ | ⟨k, r, F, i, c, r1, b, F1, r2, h1, a1, -, a5, a6, a7, a8, -, -, a2, a3, a4⟩
  · rcases m_trim M s t with ⟨b1, h2, b2, b3, b4⟩ | ⟨k, r, F, i, c, r1, b, F1, r2, h2, b1, -, b5, b6, -⟩
    · exact ⟨_, _, _, a2, b2, LI.mk j Mid.rf C b4 b3⟩
    · rcases a1 with a1 | a1
      · exact (rule_no a1 b1).elim
      · exact (slot_no b5 a1 b6).elim
  · rcases m_trim (M.mid a4.mid) s t with ⟨b1, -⟩ | ⟨k', r', F', i', c', r1', b', F1', r2', h2, b1, -, b5, b6, b7, b8, -, b2, b3, b4⟩
    · rcases b1 with b1 | b1
      · exact (rule_no b1 a1).elim
      · exact (slot_no a5 b1 a6).elim
    · obtain ⟨rfl, rfl, rfl⟩ := rule_in a1 b1
      have : i = i' := nI_ij (by omega) (by omega) (a6.symm.trans b6)
      subst this
      obtain ⟨rfl, rfl⟩ := a7.one b7
      obtain ⟨rfl, rfl⟩ := a8.one b8
      exact ⟨_, _, _, a2, b2, LI.mk j a4.mid a3 b4 b3⟩
theorem s_height_old (L : LI h tr su) (htr : tr ≠ 0) (s : Int32) : ∃ v h1 h2, fX6_height_v2 h 4 s = some (v, h1) ∧ fX7_height h1 20 s = some (v, h2) ∧ O20 h1 ∧ LI h2 tr su := by
  obtain ⟨j, thr, sz, tl, tp, sl, ol, of, rd, C, M⟩ := L
  rcases c_height_old C htr s with ⟨a1, h1, a2, a3, a4, -⟩ | ⟨k, r, F, h1, a1, -, a5, a4, -, a2⟩
  · rcases m_height (M.mid a4) s with ⟨b1, h2, b2, b3, b4⟩ | ⟨k, r, F, h2, b1, -, b5, -⟩
    · exact ⟨_, _, _, a2, b2, LI.mk j a4 a3 b4 b3⟩
    · exact absurd b5 (a1 k r F b1)
  · rcases m_height (M.mid a4) s with ⟨b1, -⟩ | ⟨k', r', F', h2, b1, -, b5, b4, b2⟩
    · exact absurd a5 (b1 k r F a1)
    · obtain ⟨rfl, rfl, rfl⟩ := rule_in a1 b1
      rcases a2 with ⟨p, i, c1, c2, c3, c4⟩ | ⟨c1, c2, c3⟩
      · rcases b2 with ⟨p', i', d1, d2, d3, d4⟩ | ⟨d1, -⟩
        · obtain ⟨rfl, rfl⟩ := c2.one d2
          exact ⟨_, _, _, c3, d3, LI.mk j a4 c4 b4 d4⟩
        · exact absurd c2.2.1 (d1 p i c2.1 c1)
      · rcases b2 with ⟨p', i', d1, d2, d3, d4⟩ | ⟨d1, d2, d3⟩
        · exact absurd d2.2.1 (c1 p' i' d2.1 d1)
        · exact ⟨_, _, _, c2, d2, LI.mk j a4 c3 b4 d3⟩
theorem SVN.one {q : Nat × Nat × (Nat → Nat)} {N : Nat} {x0 x1 x2 x3 x4 y0 y1 y2 y3 y4 : Int32} (a : SVN q N x0 x1 x2 x3 x4) (b : SVN q N y0 y1 y2 y3 y4) : x0 = y0 ∧ x1 = y1 ∧ x2 = y2 ∧ x3 = y3 ∧ x4 = y4 := by
  obtain ⟨s, a1, a2, rfl, rfl, rfl, rfl, rfl⟩ := a
  obtain ⟨s', b1, b2, rfl, rfl, rfl, rfl, rfl⟩ := b
  have := PV.one a1 a2 b1 b2
  subst this
  exact ⟨rfl, rfl, rfl, rfl, rfl⟩
theorem okAll.one {sl : SL} {s n w : Int32} {k r : Nat} {F : Nat → Nat} {N W k' r' : Nat} {F' : Nat → Nat} {N' W' : Nat} (a : okAll sl s n w k r F N W) (b : okAll sl s n w k' r' F' N' W') : (k = k' ∧ r = r' ∧ F = F') ∧ N = N' ∧ W = W' := by
  obtain ⟨a1, -, a3, a4, a5, -, a7, a8⟩ := a
  obtain ⟨b1, -, b3, b4, b5, -, b7, b8⟩ := b
  exact ⟨rule_in a1 b1, nI_ij (by omega) (by omega) (a3.symm.trans b3), nI_ij (by omega) (by omega) (a7.symm.trans b7)⟩
theorem s_all_old (L : LI h tr su) (hsu : su ≠ 0) (s n w : Int32) : ∃ v h1 h2, fX6_all_v2 h 4 s n w = some (v, h1) ∧ fX7_all h1 20 s n w = some (v, h2) ∧ O20 h1 ∧ LI h2 tr su := by
  obtain ⟨j, thr, sz, tl, tp, sl, ol, of, rd, C, M⟩ := L
  rcases c_all_old C hsu s n w with ⟨a1, a2⟩ | ⟨k, r, F, N, W, h1, x0, x1, x2, x3, x4, a1, a2, a5, a3, a4, -⟩
  · rcases m_all M s n w with ⟨b1, h2, b2, b3, b4⟩ | ⟨k, r, F, N, W, h2, x0, x1, x2, x3, x4, b1, -⟩
    · exact ⟨_, _, _, a2, b2, LI.mk j Mid.rf C b4 b3⟩
    · exact absurd b1 (a1 k r F N W)
  · rcases m_all (M.mid a4) s n w with ⟨b1, -⟩ | ⟨k', r', F', N', W', h2, y0, y1, y2, y3, y4, b1, b2, b5, b3, b4⟩
    · exact absurd a1 (b1 k r F N W)
    · obtain ⟨⟨rfl, rfl, rfl⟩, rfl, rfl⟩ := a1.one b1
      obtain ⟨rfl, rfl, rfl, rfl, rfl⟩ := a5.one b5
      exact ⟨_, _, _, a2, b2, LI.mk j a4 a3 b4 b3⟩
end LB

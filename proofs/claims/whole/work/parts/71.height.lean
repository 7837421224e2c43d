section HG
variable {h H : Hp} {tr x y : Nat} {rl : Int32} {a k r : Nat} {F : Nat → Nat} {n : Nat} {c : Nat → Nat}
theorem climb_ok (g : GR k r F) (htr : 44 ≤ tr) (ha : a < tr ∨ tr + 3 < a) (hb : a + 1 < tr ∨ tr + 3 < a + 1) (R : RuleAt h a (a + 1) k r F) (hn : 0 < n) (hn2 : n ≤ 20) (hc : ∀ i, i < n → c i < k) {tf f1 f2 : Nat → Int32} {fc : Nat → Int64} (e3 : h[3]? = some (aC 0 4 x_lk)) (e6 : h[6]? = some (aC 0 100 tf)) (htf : ∀ i, i < n → tf i = nI (c i)) (et : h[tr]? = some (tob tr x y rl)) (hxy : XY tr x y) (ex : h[x]? = some (aC 0 20 f1)) (ey : h[y]? = some (aC 0 20 f2)) (ec : h[tr + 1]? = some (lC 20001 fc)) : (∃ H' j i t, i ≤ 20000 ∧ FR (coN k r F n c) j i ∧ fX4_climb h tr a 6 (nI n) = some (nI j, H') ∧ TS h tr k r F n c (nI (i - j)) t H') ∨ (∃ H' t, (∀ p q, p < q → q ≤ 20000 → coN k r F n c p ≠ coN k r F n c q) ∧ fX4_climb h tr a 6 (nI n) = some (-1, H') ∧ TS h tr k r F n c rl t H') := by
  obtain ⟨H0, b1, T0⟩ := tbegin_ok g htr ha hb R hn2 hc e6 htf et hxy ex ey ec
  have hst0 : fX4_climb h tr a 6 (nI n) = fX4_climb_w45 FUEL tr a (nI n) (nI 0) 3 (nI 4) (nI 0) H0 := by
    unfold fX4_climb
    rw [l1, if_ltI (by omega) (by omega), if_neg (by omega), aN_of e6 (by decide)]
    simp only [Option.bind_some]
    rw [if_ltI (by omega) (by omega), if_neg (by omega), t1 (by omega) et]
    simp only [Option.bind_some]
    rw [aN_of ex (by decide)]
    simp only [Option.bind_some]
    rw [if_leI (by omega) (by omega), if_pos hn2, tok (by omega) et, b1]
    simp only [Option.bind_some]
    have e30 : H0[3]? = some (aC 0 4 x_lk) := by
      obtain ⟨x, y, f1, f2, fc, D, -⟩ := T0
      exact (D.2 3 (by omega)).trans e3
    rw [aN_of e30 (by decide)]
    rfl
  have hst : ∀ (q m la look : Nat) (t : Nat) (H : Hp), m < 4 → x_lk m = nI look → TS h tr k r F n c rl t H → fX4_climb_w45 (q + 1) tr a (nI n) (nI la) 3 (nI 4) (nI m) H = fX4_climb_w65 (fX4_climb_w45 q) FUEL tr a (nI n) 3 (nI 4) (nI m) (nI look) (nI (la + 1)) H := by
    intro q m la look t H hm hlk T
    have e30 : H[3]? = some (aC 0 4 x_lk) := by
      obtain ⟨x, y, f1, f2, fc, D, -⟩ := T
      exact (D.2 3 (by omega)).trans e3
    rw [fX4_climb_w45]
    simp only []
    rw [if_leI (by omega) (by omega), if_neg (by omega), aI_of e30 hm (by decide), hlk]
    simp only [Option.bind_some]
    rw [setv_ok, nI_p1]
  rw [hst0, show FUEL = 99995 + 1 + 1 + 1 + 1 + 1 from rfl]
  rw [hst _ 0 0 32 0 H0 (by decide) rfl T0]
  rcases look_ok g htr ha hb R hn hn2 hc (W := fX4_climb_w45 (99995 + 1 + 1 + 1 + 1)) (i6 := nI 4) (i7 := nI 0) (show 32 ≤ 20000 by decide) (show 0 < 32 by decide) T0 with ⟨H1, j, i, z1, z2, z3, z4⟩ | ⟨H1, y1, y2, y3⟩
  · exact Or.inl ⟨H1, j, i, _, by omega, z2, z3, z4⟩
  rw [y2, nI_p1, hst _ 1 32 256 32 H1 (by decide) rfl y3]
  rcases look_ok g htr ha hb R hn hn2 hc (W := fX4_climb_w45 (99995 + 1 + 1 + 1)) (i6 := nI 4) (i7 := nI 1) (show 256 ≤ 20000 by decide) (show 32 < 256 by decide) y3 with ⟨H2, j, i, z1, z2, z3, z4⟩ | ⟨H2, y1', y2', y3'⟩
  · exact Or.inl ⟨H2, j, i, _, by omega, z2, z3, z4⟩
  rw [y2', nI_p1, hst _ 2 256 2048 256 H2 (by decide) rfl y3']
  rcases look_ok g htr ha hb R hn hn2 hc (W := fX4_climb_w45 (99995 + 1 + 1)) (i6 := nI 4) (i7 := nI 2) (show 2048 ≤ 20000 by decide) (show 256 < 2048 by decide) y3' with ⟨H3, j, i, z1, z2, z3, z4⟩ | ⟨H3, y1'', y2'', y3''⟩
  · exact Or.inl ⟨H3, j, i, _, by omega, z2, z3, z4⟩
  rw [y2'', nI_p1, hst _ 3 2048 20000 2048 H3 (by decide) rfl y3'']
  rcases look_ok g htr ha hb R hn hn2 hc (W := fX4_climb_w45 (99995 + 1)) (i6 := nI 4) (i7 := nI 3) (show 20000 ≤ 20000 by decide) (show 2048 < 20000 by decide) y3'' with ⟨H4, j, i, z1, z2, z3, z4⟩ | ⟨H4, u1, u2, u3⟩
  · exact Or.inl ⟨H4, j, i, _, by omega, z2, z3, z4⟩
  · right
    refine ⟨H4, 20000, fun p q hpq hq e => ?_, ?_, u3⟩
    · obtain ⟨j, i, hi, fr⟩ := FR.of (co := coN k r F n c) (N := 20000) ⟨p, q, hpq, hq, e⟩
      have hji := fr.1
      exact u1 (i - j) (by omega) (by omega) (FR.last (coN_det g hn hc) fr hi)
    · rw [u2, nI_p1, fX4_climb_w45]
      simp only []
      rw [if_leI (by omega) (by omega), if_pos (by omega)]
/-- the model's cells stay -/
def Mid (h h' : Hp) : Prop := ∀ (i : Nat) (c : HC), 20 ≤ i → i < 44 → h[i]? = some c → h'[i]? = some c
theorem Up.mid {h h' : Hp} (u : Up h h') : Mid h h' := fun i c h1 _ e => u.2 i c h1 e
theorem Mid.tn {h h' h'' : Hp} (a : Mid h h') (b : Mid h' h'') : Mid h h'' := fun i c h1 h2 e => b i c h1 h2 (a i c h1 h2 e)
/-- a rule lies apart from the trail -/
theorem apart (et : h[tr]? = some (tob tr x y rl)) {fc : Nat → Int64} {f1 f2 : Nat → Int32} (ec : h[tr + 1]? = some (lC 20001 fc)) (e2 : h[tr + 2]? = some (aC 0 20 f1)) (e3 : h[tr + 3]? = some (aC 0 20 f2)) (R : RuleAt h a (a + 1) k r F) : (a < tr ∨ tr + 3 < a) ∧ (a + 1 < tr ∨ tr + 3 < a + 1) := by
  obtain ⟨h1, h2, h3, h4, f, h5, h6⟩ := R
  have n0 : a ≠ tr := fun z => by subst z; simp [tob] at et; rw [et] at h4; simp at h4
  have n1 : a ≠ tr + 1 := fun z => by rw [z, ec] at h4; simp at h4
  have n2 : a ≠ tr + 2 := fun z => by rw [z, e2] at h4; simp at h4
  have n3 : a ≠ tr + 3 := fun z => by rw [z, e3] at h4; simp at h4
  have n4 : a + 1 ≠ tr := fun z => by rw [z, et] at h5; simp [tob] at h5
  omega
end HG

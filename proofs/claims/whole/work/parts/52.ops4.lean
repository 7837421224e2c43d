section CO4
variable {SV : SVP} {h : Hp} {tl : Nat} {tp : Nat → Nat} {sl : SL} {ol : Nat} {of : Nat → Nat} {rd tr su : Nat}
theorem CInv.push {c : HC} (I : CInv SV h tl tp sl ol of rd tr su) : CInv SV (h ++ [c]) tl tp sl ol of rd tr su := by
  obtain ⟨he, th, sf, tf, uf, e2, e3, e4, a1, a2, a3, a4, e5, a5, e6, a6, e7, a7, cf, aT, aS, aL⟩ := I
  have u : Up h (h ++ [c]) := Up.push
  exact ⟨he, th, sf, tf, uf, st_p e2, st_p e3, st_p e4, a1, a2, a3, a4, st_p e5, fun s hs => (a5 s hs).up u, st_p e6, a6, st_p e7, a7, cf.p, aT.up u, aS.up u, Nat.le_trans aL u.1⟩
def upS (sl : SL) (j : Nat) (x : Nat × Nat × (Nat → Nat)) : SL := fun s => if s = j then some x else sl s
theorem CInv.slotA (I : CInv SV h tl tp sl ol of rd tr su) {j a k r : Nat} {F : Nat → Nat} (hj : j < 6) (ha : 44 ≤ a) (g : GR k r F) (R : RuleAt h a (a + 1) k r F) : ∃ h', sR h 5 (nI j) a = some h' ∧ CInv SV h' tl tp (upS sl j (k, r, F)) ol of rd tr su ∧ Up h h' := by
  obtain ⟨he, th, sf, tf, uf, e2, e3, e4, a1, a2, a3, a4, e5, a5, e6, a6, e7, a7, cf, aT, aS, aL⟩ := I
  have u : Up h (h.set 5 (rC 6 (va_up sf j a))) := Up.set (by decide)
  refine ⟨h.set 5 (rC 6 (va_up sf j a)), sR_of (by decide) e5 hj (by decide) (by omega) R.2.2.2.1, ?_, u⟩
  refine ⟨he, th, va_up sf j a, tf, uf, st_n' (by decide) e2, st_n' (by decide) e3, st_n' (by decide) e4, a1, a2, a3, a4, st_s e5, fun s hs => ?_, st_n' (by decide) e6, a6, st_n' (by decide) e7, a7, cf.o (by decide), aT.up u, aS.up u, Nat.le_trans aL u.1⟩
  unfold upS va_up
  by_cases q : s = j
  · rw [if_pos q, if_pos q]
    exact ⟨ha, g, R.up u (by omega) (by omega)⟩
  · rw [if_neg q, if_neg q]
    exact (a5 s hs).up u
/-- a rule made of the row src, and put into slot j -/
theorem mk_rule (I : CInv SV h tl tp sl ol of rd tr su) {j k r src ns : Nat} {F : Nat → Nat} {f : Nat → Int32} (hj : j < 6) (g : GR k r F) (hs : 4 ≤ src) (es : h[src]? = some (aC 0 ns f)) (hns : k ^ r ≤ ns) (hns2 : ns < 1000) (hf : ∀ w, w < k ^ r → f w = nI (F w)) : ∃ h1 h', fX1_init (h ++ [oC 1 zR]) h.length (nI k) (nI r) src = some h1 ∧ sR h1 5 (nI j) h.length = some h' ∧ CInv SV h' tl tp (upS sl j (k, r, F)) ol of rd tr su ∧ Up h h' := by
  have hL : 44 ≤ h.length := by obtain ⟨he, th, sf, tf, uf, e2, e3, e4, a1, a2, a3, a4, e5, a5, e6, a6, e7, a7, cf, aT, aS, aL⟩ := I; exact aL
  have g0 : GR k r (fun _ => 0) := ⟨g.1, g.2.1, g.2.2.1, g.2.2.2.1, fun w _ => by show 0 < k; have := g.1; omega⟩
  obtain ⟨f', i1, i2⟩ := init_ok (h := h) g0 hs (by omega) es hns hns2
  have R : RuleAt (h ++ [oR k r (h.length + 1)] ++ [aC 0 (k ^ r) f']) h.length (h.length + 1) k r F := ruleAt_new (by omega) (fun w hw => by rw [i2 w hw, hf w hw])
  obtain ⟨h', s1, s2, s3⟩ := (I.push (c := oR k r (h.length + 1))).push (c := aC 0 (k ^ r) f') |>.slotA hj hL g R
  exact ⟨_, h', i1, s1, s2, (Up.push.tr Up.push).tr s3⟩
theorem GR.of_tape {k r : Nat} {tp : Nat → Nat} (h1 : 1 ≤ r) (h2 : r ≤ mwN k) (h3 : Sts k (k ^ r) tp) : GR k r tp := by
  have hk : 2 ≤ k ∧ k ≤ 4 := by
    unfold mwN at h2
    split at h2
    · omega
    · split at h2
      · omega
      · split at h2 <;> omega
  exact ⟨hk.1, hk.2, h1, h2, h3⟩
def okRule (tl : Nat) (tp : Nat → Nat) (s k r : Int32) (j K W : Nat) : Prop := j < 6 ∧ s = nI j ∧ k = nI K ∧ r = nI W ∧ K ≤ 4 ∧ GR K W tp ∧ tl = K ^ W
theorem c_rule (I : CInv SV h tl tp sl ol of rd tr su) (s k r : Int32) : ((∀ j K W, ¬ okRule tl tp s k r j K W) ∧ ∃ h', fX6_rule h 4 s k r = some (0, h') ∧ CInv SV h' 0 tp sl ol of rd tr su ∧ Up h h') ∨ (∃ j K W h', okRule tl tp s k r j K W ∧ fX6_rule h 4 s k r = some (1, h') ∧ CInv SV h' 0 tp (upS sl j (K, W, tp)) ol of rd tr su ∧ Up h h') := by
  obtain ⟨h0, he, th, sf, tf, uf, c0, I0, u0, e4, q, e5, a5, e6, a6, e7, a7, cf, e2, e3, a1, a2, a3, aT, aS, aL⟩ := c_pre I
  unfold fX6_rule
  rw [c0, call_ok]
  rcases isSlot_ok (h := h0) s with ⟨q1, e⟩ | ⟨j, hj, rfl, e⟩
  · left
    rw [e, call_ok, if_pos rfl, retZ0]
    refine ⟨fun j K W z => ?_, _, rfl, I0, u0⟩
    obtain ⟨z1, z2, -⟩ := z
    rw [z2] at q1
    rcases q1 with q1 | q1
    · exact nI_nn (by omega) q1
    · have := (nI_leI (a := 6) (b := j) (by omega) (by omega)).mp q1
      omega
  rw [e, call_ok, if_neg one_ne]
  by_cases q2 : r < 1
  · left
    rw [if_pos q2, retZ0]
    refine ⟨fun j K W z => ?_, _, rfl, I0, u0⟩
    obtain ⟨-, -, -, z4, -, z6, -⟩ := z
    rw [z4, l1] at q2
    have n5 := z6.nums.2.2.2.2
    have := (nI_ltI (a := W) (b := 1) (by omega) (by omega)).mp q2
    have := z6.2.2.1
    omega
  rw [if_neg q2]
  rcases mostWidth_any e2 k with ⟨K, hK, rfl, e9⟩ | ⟨q3, e9⟩
  · rw [e9, call_ok]
    have hr0 : ¬ r < 0 := fun z => q2 (Int32.lt_trans z (by decide))
    obtain ⟨W, hW, rfl⟩ := nI_of hr0
    have hmw : mwN K ≤ 4 := by unfold mwN; split; omega; split; omega; split <;> omega
    rw [if_leI hW (by omega)]
    rw [l1] at q2
    have hW1 : 1 ≤ W := by
      rcases Nat.lt_or_ge W 1 with z | z
      · exact absurd ((nI_ltI hW (by omega)).mpr z) q2
      · exact z
    by_cases q4 : W ≤ mwN K
    · rw [if_pos q4]
      have hK4 : K ≤ 4 := by omega
      have hpow : K ^ W ≤ 27 ∧ 1 ≤ K := by
        have hk : K = 2 ∨ K = 3 ∨ K = 4 := by
          unfold mwN at q4
          split at q4
          · omega
          · split at q4
            · omega
            · split at q4 <;> omega
        have hw : W = 1 ∨ W = 2 ∨ W = 3 ∨ W = 4 := by omega
        rcases hk with rfl | rfl | rfl <;> rcases hw with rfl | rfl | rfl | rfl <;> first | decide | (exfalso; revert q4; decide)
      rw [power_ok (by omega) hpow.2 (by omega), call_ok, if_eqI (by omega) (by omega)]
      have uniq : ∀ K' W', nI K = nI K' → nI W = nI W' → K' ≤ 4 → W' ≤ 4 → K = K' ∧ W = W' := fun K' W' x y z w => ⟨(nI_eq (by omega) (by omega)).mp x, (nI_eq (by omega) (by omega)).mp y⟩
      by_cases q5 : tl = K ^ W
      · rw [if_pos q5, mok e4]
        rcases areStates_ok e4 e6 a1 (show K < 1000 by omega) a6 with ⟨b1, b2⟩ | ⟨b1, b2⟩
        · right
          rw [b2, call_ok, if_neg one_ne, m0 e4]
          simp only [Option.bind_some]
          have g : GR K W tp := GR.of_tape hW1 q4 (by rw [← q5]; exact b1)
          obtain ⟨h1, h', i1, i2, i3, i4⟩ := mk_rule I0 hj g (show 4 ≤ 6 by decide) e6 (by omega) (by decide) (fun w hw => (a6 w (by omega)).1)
          refine ⟨j, K, W, h', ⟨hj, rfl, rfl, rfl, hK4, g, q5⟩, ?_, i3, u0.tr i4⟩
          unfold mkO
          show Option.bind (gR (h0 ++ [oC 1 zR]) 4 6 1) _ = _
          rw [m1 (st_p e4)]
          simp only [Option.bind_some]
          show Option.bind (fX1_init (h0 ++ [oC 1 zR]) h0.length (nI K) (nI W) 6) _ = _
          rw [i1]
          simp only [Option.bind_some]
          rw [i2]
          simp only [Option.bind_some]
          rw [retZ1]
        · left
          rw [b2, call_ok, if_pos rfl, retZ0]
          refine ⟨fun j K' W' z => ?_, _, rfl, I0, u0⟩
          obtain ⟨-, -, z3, z4, z5, z6, z7⟩ := z
          obtain ⟨rfl, rfl⟩ := uniq K' W' z3 z4 z5 z6.nums.2.2.2.2
          exact b1 (by rw [z7]; exact z6.2.2.2.2)
      · left
        rw [if_neg q5, retZ0]
        refine ⟨fun j K' W' z => ?_, _, rfl, I0, u0⟩
        obtain ⟨-, -, z3, z4, z5, z6, z7⟩ := z
        obtain ⟨rfl, rfl⟩ := uniq K' W' z3 z4 z5 z6.nums.2.2.2.2
        exact q5 z7
    · left
      rw [if_neg q4, retZ0]
      refine ⟨fun j K' W' z => ?_, _, rfl, I0, u0⟩
      obtain ⟨-, -, z3, z4, z5, z6, z7⟩ := z
      have e1 := (nI_eq (a := K) (b := K') (by omega) (by omega)).mp z3
      have e2 := (nI_eq (a := W) (b := W') hW (by have := z6.nums.2.2.2.2; omega)).mp z4
      subst e1; subst e2
      exact q4 z6.2.2.2.1
  · left
    rw [e9, call_ok]
    have hle : ¬ r ≤ 0 := by
      intro z
      exact q2 (Int32.lt_of_le_of_lt z (by decide))
    rw [if_neg hle, retZ0]
    refine ⟨fun j K' W' z => ?_, _, rfl, I0, u0⟩
    obtain ⟨-, -, z3, z4, z5, z6, z7⟩ := z
    rw [z3] at q3
    rcases q3 with q3 | q3
    · exact nI_nn (by omega) q3
    · have := (nI_leI (a := 5) (b := K') (by omega) (by omega)).mp q3
      omega
end CO4

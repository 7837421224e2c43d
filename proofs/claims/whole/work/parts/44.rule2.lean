section PR2
variable {h : Hp} {a t k r : Nat} {F : Nat → Nat}
theorem i_sub1 {j : Nat} (hj : 1 ≤ j) : nI j - 1 = nI (j - 1) := by
  obtain ⟨q, rfl⟩ : ∃ q, j = q + 1 := ⟨j - 1, by omega⟩
  exact nI_pred q
theorem i_m1 (j : Nat) : nI j + (-1) = nI j - 1 := by rw [Int32.sub_eq_add_neg]
/-- what the cells j .. n - 1 of a row become -/
def fillD (f : Nat → Int32) (j n : Nat) (g : Nat → Int32) : Nat → Int32 := fun i => if j ≤ i ∧ i < n then f i else g i
theorem fillD_n {f g : Nat → Int32} {n : Nat} : fillD f n n g = g := by
  funext i
  unfold fillD
  rw [if_neg (by omega)]
theorem fillD_0 {f g : Nat → Int32} {n : Nat} : fillD f 0 n g = fillN f n g := by
  funext i
  unfold fillD fillN
  by_cases q : i < n
  · rw [if_pos ⟨Nat.zero_le _, q⟩, if_pos q]
  · rw [if_neg (fun z => q z.2), if_neg q]
theorem fillD_s {f g : Nat → Int32} {j n : Nat} (hj : j < n) : upd (fillD f (j + 1) n g) j (f j) = fillD f j n g := by
  funext i
  unfold upd fillD
  by_cases q : i = j
  · subst q
    rw [if_pos rfl, if_pos ⟨Nat.le_refl _, hj⟩]
  · rw [if_neg q]
    by_cases q2 : j + 1 ≤ i ∧ i < n
    · rw [if_pos q2, if_pos ⟨by omega, q2.2⟩]
    · rw [if_neg q2, if_neg (by omega)]
/-- digit j of a number of n digits, the first one highest -/
def dg (k n code j : Nat) : Nat := code / k ^ (n - 1 - j) % k
theorem spread_ok (g : GR k r F) {nc n code a3 : Nat} {g0 : Nat → Int32} (hn : n ≤ nc) (hnc : nc < 1000) (hcode : code < 2 ^ 30) (h4 : 4 ≤ a3) (h3a : a3 ≠ a) (h3t : a3 ≠ t) (R : RuleAt h a t k r F) (e : h[a3]? = some (aC 0 nc g0)) :
    fX1_spread h a (nI code) (nI n) a3 = some (h.set a3 (aC 0 nc (fillN (fun j => nI (dg k n code j)) n g0))) := by
  obtain ⟨g1, g2, g3, g4, gF⟩ := id g
  unfold fX1_spread
  rw [aN_of e (by decide)]
  simp only [Option.bind_some, setv_ok]
  rw [iMin_nI (by omega) (by omega), Nat.min_eq_left hn]
  have key := downto' (fun q j => fX1_spread_w13 q a a3 (nI (code / k ^ (n - j))) (nI j - 1) (h.set a3 (aC 0 nc (fillD (fun j => nI (dg k n code j)) j n g0)))) n (some (h.set a3 (aC 0 nc (fillD (fun j => nI (dg k n code j)) 0 n g0)))) (fun q j hj => by
    rw [fX1_spread_w13]
    simp only []
    have R1 : RuleAt (h.set a3 (aC 0 nc (fillD (fun j => nI (dg k n code j)) (j + 1) n g0))) a t k r F := R.set h3a h3t
    have hle : code / k ^ (n - (j + 1)) ≤ code := Nat.div_le_self _ _
    rw [i_sub1 (by omega), Nat.add_sub_cancel, if_neg (nI_nn (by omega)), rk R1]
    simp only [Option.bind_some]
    rw [iRem_nI (by omega) (by omega) (by omega), sI_of h4 (st_s e) (by omega) (by omega), x_nar0]
    simp only [Option.bind_some]
    rw [List.set_set]
    have hd : nI (code / k ^ (n - (j + 1)) % k) = (fun j => nI (dg k n code j)) j := by
      show _ = nI (dg k n code j)
      unfold dg
      rw [show n - 1 - j = n - (j + 1) by omega]
    rw [hd, fillD_s hj]
    have R2 : RuleAt (h.set a3 (aC 0 nc (fillD (fun j => nI (dg k n code j)) j n g0))) a t k r F := R.set h3a h3t
    rw [rk R2]
    simp only [Option.bind_some]
    rw [iDiv_nI (by omega) (by omega) (by omega), Nat.div_div_eq_div_mul, ← Nat.pow_succ, show (n - (j + 1)).succ = n - j by omega, i_m1]) (fun q => by
    rw [fX1_spread_w13]
    simp only []
    rw [if_pos (by decide)]) n FUEL (Nat.le_refl _) (fuel_big (by omega))
  rw [Nat.sub_self, Nat.pow_zero, Nat.div_one, fillD_n, st_id e, fillD_0] at key
  exact key
/-- a word backward -/
def revN (k w : Nat) : Nat → Nat
  | 0 => 0
  | i + 1 => revN k w i * k + w / k ^ i % k
theorem revN_lt (hk : 0 < k) (w : Nat) : ∀ i, revN k w i < k ^ i
  | 0 => by simp [revN]
  | i + 1 => by
    have h1 := revN_lt hk w i
    have h2 := Nat.mod_lt (w / k ^ i) hk
    unfold revN
    rw [Nat.pow_succ]
    have h3 : (revN k w i + 1) * k ≤ k ^ i * k := Nat.mul_le_mul_right k h1
    rw [Nat.succ_mul] at h3
    omega
theorem pow_le {i : Nat} (g : GR k r F) (hi : i ≤ r) : k ^ i ≤ 27 := by
  have := Nat.pow_le_pow_right (show 0 < k by have := g.1; omega) hi
  have := g.nums.1
  omega
theorem backward_ok (g : GR k r F) (R : RuleAt h a t k r F) {w : Nat} (hw : w < k ^ r) : fX1_backward h a (nI w) = some (nI (revN k w r), h) := by
  obtain ⟨n1, n2, n3, n4, n5⟩ := g.nums
  obtain ⟨g1, g2, g3, g4, gF⟩ := id g
  unfold fX1_backward
  have key := upto (fun q i => fX1_backward_w7 q a (nI (w / k ^ i)) (nI (revN k w i)) (nI i) h) r (some (nI (revN k w r), h)) (fun q i hi => by
    have hle : w / k ^ i ≤ w := Nat.div_le_self _ _
    rw [fX1_backward_w7]
    simp only []
    rw [rr R]
    simp only [Option.bind_some]
    rw [if_leI (by omega) (by omega), if_neg (by omega), rk R]
    simp only [Option.bind_some]
    rw [iRem_nI (by omega) (by omega) (by omega), setv_ok, pk_mul, nI_add, iDiv_nI (by omega) (by omega) (by omega), nI_p1, Nat.div_div_eq_div_mul, ← Nat.pow_succ]
    rfl) (fun q => by
    rw [fX1_backward_w7]
    simp only []
    rw [rr R]
    simp only [Option.bind_some]
    rw [if_leI (by omega) (by omega), if_pos (Nat.le_refl _)]) 0 FUEL (by omega) (fuel_big (by omega))
  rw [Nat.pow_zero, Nat.div_one, show revN k w 0 = 0 from rfl] at key
  rw [l0]
  exact key
/-- a word with other names -/
def trN (k w : Nat) (nm : Nat → Nat) : Nat → Nat
  | 0 => 0
  | i + 1 => trN k w nm i + nm (w / k ^ i % k) * k ^ i
theorem trN_lt (hk : 0 < k) (w : Nat) {nm : Nat → Nat} (hnm : ∀ i, i < k → nm i < k) : ∀ i, trN k w nm i < k ^ i
  | 0 => by simp [trN]
  | i + 1 => by
    have h1 := trN_lt hk w hnm i
    have h2 := hnm _ (Nat.mod_lt (w / k ^ i) hk)
    unfold trN
    rw [Nat.pow_succ]
    have h3 : (nm (w / k ^ i % k) + 1) * k ^ i ≤ k * k ^ i := Nat.mul_le_mul_right _ h2
    rw [Nat.succ_mul, Nat.mul_comm k] at h3
    omega
theorem translated_ok (g : GR k r F) (R : RuleAt h a t k r F) {w a2 nn : Nat} {f : Nat → Int32} {nm : Nat → Nat} (hw : w < k ^ r) (e : h[a2]? = some (aC 0 nn f)) (hnn : k ≤ nn) (hnn2 : nn < 1000) (hf : ∀ i, i < k → f i = nI (nm i)) (hnm : ∀ i, i < k → nm i < k) : fX1_translated h a (nI w) a2 = some (nI (trN k w nm r), h) := by
  obtain ⟨n1, n2, n3, n4, n5⟩ := g.nums
  obtain ⟨g1, g2, g3, g4, gF⟩ := id g
  unfold fX1_translated
  have key := upto (fun q i => fX1_translated_w11 q a a2 (nI (w / k ^ i)) (nI (k ^ i)) (nI (trN k w nm i)) (nI i) h) r (some (nI (trN k w nm r), h)) (fun q i hi => by
    have hle : w / k ^ i ≤ w := Nat.div_le_self _ _
    have hc : w / k ^ i % k < k := Nat.mod_lt _ (by omega)
    rw [fX1_translated_w11]
    simp only []
    rw [rr R]
    simp only [Option.bind_some]
    rw [if_leI (by omega) (by omega), if_neg (by omega), rk R]
    simp only [Option.bind_some]
    rw [iRem_nI (by omega) (by omega) (by omega), if_neg (nI_nn (by omega)), aN_of e (by decide)]
    simp only [Option.bind_some]
    rw [if_leI (by omega) (by omega), if_neg (by omega), aI_of e (by omega) (by omega), hf _ hc]
    simp only [Option.bind_some]
    unfold fX1_translated_b53
    rw [setv_ok, rk R]
    simp only [Option.bind_some, setv_ok]
    rw [pk_mul, pk_mul, nI_add, iDiv_nI (by omega) (by omega) (by omega), nI_p1, Nat.div_div_eq_div_mul, ← Nat.pow_succ]
    rfl) (fun q => by
    rw [fX1_translated_w11]
    simp only []
    rw [rr R]
    simp only [Option.bind_some]
    rw [if_leI (by omega) (by omega), if_pos (Nat.le_refl _)]) 0 FUEL (by omega) (fuel_big (by omega))
  rw [Nat.pow_zero, Nat.div_one, show trN k w nm 0 = 0 from rfl] at key
  rw [l1, l0]
  exact key
theorem tells_call (g : GR k r F) (R : RuleAt h a t k r F) {w : Nat} (hw : w < k ^ r) {β : Type} {K : Int32 → Hp → Option β} : call (oK h a 1 (fX1_tells h a (nI w))) K = K (nI (F w)) h := by
  rw [rok R, tells_ok g R hw, call_ok]
/-- the first neighbour tells nothing -/
def idA (k r : Nat) (F : Nat → Nat) : Prop := ∀ w, w < k ^ r → F w = F (w % k ^ (r - 1))
def idB (k r : Nat) (F : Nat → Nat) : Prop := ∀ w, w < k ^ r → F w = F (w / k * k)
theorem idlesAhead_ok (g : GR k r F) (R : RuleAt h a t k r F) : (2 ≤ r ∧ idA k r F ∧ fX1_idlesAhead h a = some (1, h)) ∨ ((r < 2 ∨ ¬ idA k r F) ∧ fX1_idlesAhead h a = some (0, h)) := by
  obtain ⟨n1, n2, n3, n4, n5⟩ := g.nums
  obtain ⟨g1, g2, g3, g4, gF⟩ := id g
  unfold fX1_idlesAhead
  rw [rr R]
  simp only [Option.bind_some]
  rw [l2, if_leI (by omega) (by omega)]
  by_cases hr : 2 ≤ r
  · rw [if_pos hr, rn R]
    simp only [Option.bind_some]
    have hmn : k ^ (r - 1) ≤ k ^ r := by rw [n4]; exact Nat.le_mul_of_pos_right _ (by omega)
    have key := scan_all (fun q i => fX1_idlesAhead_w15 q a (nI i) h) (k ^ r) (fun w => F w ≠ F (w % k ^ (r - 1))) (some (0, h)) (some (1, h)) (fun q i hi hb => by
      have hl : i % k ^ (r - 1) < k ^ r := Nat.lt_of_lt_of_le (Nat.mod_lt _ (by omega)) hmn
      have hv1 := gF i hi
      have hv2 := gF _ hl
      rw [fX1_idlesAhead_w15]
      simp only []
      rw [rw9 R]
      simp only [Option.bind_some]
      rw [if_leI (by omega) (by omega), if_neg (by omega), tells_call g R hi, rn R]
      simp only [Option.bind_some]
      rw [iRem_nI (by omega) (by omega) (by omega), tells_call g R hl, if_eqI (by omega) (by omega), if_pos (Decidable.not_not.mp hb), nI_p1]) (fun q i hi hb => by
      have hl : i % k ^ (r - 1) < k ^ r := Nat.lt_of_lt_of_le (Nat.mod_lt _ (by omega)) hmn
      have hv1 := gF i hi
      have hv2 := gF _ hl
      rw [fX1_idlesAhead_w15]
      simp only []
      rw [rw9 R]
      simp only [Option.bind_some]
      rw [if_leI (by omega) (by omega), if_neg (by omega), tells_call g R hi, rn R]
      simp only [Option.bind_some]
      rw [iRem_nI (by omega) (by omega) (by omega), tells_call g R hl, if_eqI (by omega) (by omega), if_neg hb, retZ0]) (fun q => by
      rw [fX1_idlesAhead_w15]
      simp only []
      rw [rw9 R]
      simp only [Option.bind_some]
      rw [if_leI (by omega) (by omega), if_pos (Nat.le_refl _), retZ1]) (k ^ (r - 1)) FUEL hmn (fuel_big (by omega))
    rcases key with ⟨h1, h2⟩ | ⟨⟨j, h1, h2, h3⟩, h4⟩
    · left
      refine ⟨hr, fun w hw => ?_, h2⟩
      by_cases q : w < k ^ (r - 1)
      · rw [Nat.mod_eq_of_lt q]
      · exact Decidable.not_not.mp (h1 w (by omega) hw)
    · right
      exact ⟨Or.inr (fun q => h3 (q j h2)), h4⟩
  · right
    rw [if_neg hr, retZ0]
    exact ⟨Or.inl (by omega), rfl⟩
theorem mod_sub {w : Nat} (_hk : 0 < k) : w - w % k = w / k * k := by
  have := Nat.div_add_mod w k
  rw [Nat.mul_comm] at this
  omega
theorem idlesBehind_ok (g : GR k r F) (R : RuleAt h a t k r F) : (2 ≤ r ∧ idB k r F ∧ fX1_idlesBehind h a = some (1, h)) ∨ ((r < 2 ∨ ¬ idB k r F) ∧ fX1_idlesBehind h a = some (0, h)) := by
  obtain ⟨n1, n2, n3, n4, n5⟩ := g.nums
  obtain ⟨g1, g2, g3, g4, gF⟩ := id g
  unfold fX1_idlesBehind
  rw [rr R]
  simp only [Option.bind_some]
  rw [l2, if_leI (by omega) (by omega)]
  by_cases hr : 2 ≤ r
  · rw [if_pos hr]
    have key := scan_all (fun q i => fX1_idlesBehind_w12 q a (nI i) h) (k ^ r) (fun w => F w ≠ F (w / k * k)) (some (0, h)) (some (1, h)) (fun q i hi hb => by
      have hl : i / k * k < k ^ r := Nat.lt_of_le_of_lt (Nat.div_mul_le_self _ _) hi
      have hv1 := gF i hi
      have hv2 := gF _ hl
      have hm := Nat.mod_le i k
      rw [fX1_idlesBehind_w12]
      simp only []
      rw [rw9 R]
      simp only [Option.bind_some]
      rw [if_leI (by omega) (by omega), if_neg (by omega), tells_call g R hi, rk R]
      simp only [Option.bind_some]
      rw [iRem_nI (by omega) (by omega) (by omega), pk_sub hm, mod_sub (by omega), tells_call g R hl, if_eqI (by omega) (by omega), if_pos (Decidable.not_not.mp hb), nI_p1]) (fun q i hi hb => by
      have hl : i / k * k < k ^ r := Nat.lt_of_le_of_lt (Nat.div_mul_le_self _ _) hi
      have hv1 := gF i hi
      have hv2 := gF _ hl
      have hm := Nat.mod_le i k
      rw [fX1_idlesBehind_w12]
      simp only []
      rw [rw9 R]
      simp only [Option.bind_some]
      rw [if_leI (by omega) (by omega), if_neg (by omega), tells_call g R hi, rk R]
      simp only [Option.bind_some]
      rw [iRem_nI (by omega) (by omega) (by omega), pk_sub hm, mod_sub (by omega), tells_call g R hl, if_eqI (by omega) (by omega), if_neg hb, retZ0]) (fun q => by
      rw [fX1_idlesBehind_w12]
      simp only []
      rw [rw9 R]
      simp only [Option.bind_some]
      rw [if_leI (by omega) (by omega), if_pos (Nat.le_refl _), retZ1]) 0 FUEL (by omega) (fuel_big (by omega))
    rw [l0]
    rcases key with ⟨h1, h2⟩ | ⟨⟨j, h1, h2, h3⟩, h4⟩
    · left
      exact ⟨hr, fun w hw => Decidable.not_not.mp (h1 w (by omega) hw), h2⟩
    · right
      exact ⟨Or.inr (fun q => h3 (q j h2)), h4⟩
  · right
    rw [if_neg hr, retZ0]
    exact ⟨Or.inl (by omega), rfl⟩
-- making rules
theorem app_set {c c' : HC} : (h ++ [c]).set h.length c' = h ++ [c'] := by
  rw [List.set_append_right _ _ (Nat.le_refl _), Nat.sub_self]
  rfl
theorem app_set2 {c c' d : HC} : (h ++ [c] ++ [d]).set h.length c' = h ++ [c'] ++ [d] := by
  rw [List.set_append_left _ _ (by simp), app_set]
theorem copyOf_ok {na n : Nat} {f : Nat → Int32} (h4 : 4 ≤ a) (hl : 4 ≤ h.length) (e : h[a]? = some (aC 0 na f)) (hn : n ≤ na) (hn2 : n ≤ 27) (hna : na < 1000) : ∃ f', fJ7_copyOf_59c91 h a (nI n) = some (h.length, h ++ [aC 0 n f']) ∧ ∀ j, j < n → f' j = f j := by
  unfold fJ7_copyOf_59c91
  rw [aN_of e (by decide)]
  simp only [Option.bind_some]
  rw [if_eqI (by omega) (by omega)]
  by_cases q : n = na
  · subst q
    rw [if_pos rfl]
    unfold cpA
    rw [if_neg (by omega), hArr_of e]
    simp only [Option.bind_some]
    rw [if_pos hn2]
    exact ⟨f, rfl, fun j _ => rfl⟩
  · rw [if_neg q]
    unfold mkA
    have hcl : (nI n).toNatClampNeg = n := cl_nI (by omega)
    rw [hcl, if_neg (by rintro (z | z); exact nI_nn (by omega) z; omega)]
    dsimp only
    rw [aN_of (st_p e) (by decide)]
    simp only [Option.bind_some]
    unfold aCpy
    rw [iMin_nI (by omega) (by omega), Nat.min_eq_right hn, if_neg (by omega), hArr_of (st_p e), hArr_of st_pn]
    simp only [Option.bind_some]
    have h0 : (0 : Int32).toNatClampNeg = 0 := rfl
    rw [hcl, h0, if_pos ⟨by decide, by decide, nI_nn (by omega), by omega, by omega⟩]
    refine ⟨va_cpy f (fun _ => 0) 0 0 n, by simp only [Option.bind_some, app_set], fun j hj => ?_⟩
    rw [pk_cpy_in (by omega) (by omega)]
    simp
def zR : List XV := [vI 0, vI 0, vI 0, vI 0, vR 0]
def oR (k r t : Nat) : HC := oC 1 [vI (nI k), vI (nI r), vI (nI (k ^ r)), vI (nI (k ^ (r - 1))), vR t]
theorem init_ok {src ns : Nat} {f : Nat → Int32} (hg : GR k r (fun _ => 0)) (hs4 : 4 ≤ src) (hl : 4 ≤ h.length) (e : h[src]? = some (aC 0 ns f)) (hns : k ^ r ≤ ns) (hns2 : ns < 1000) : ∃ f', fX1_init (h ++ [oC 1 zR]) h.length (nI k) (nI r) src = some (h ++ [oR k r (h.length + 1)] ++ [aC 0 (k ^ r) f']) ∧ ∀ j, j < k ^ r → f' j = f j := by
  obtain ⟨n1, n2, n3, n4, n5⟩ := hg.nums
  obtain ⟨g1, g2, g3, g4, gF⟩ := id hg
  have hkk : k ^ (r - 1) < 2 ^ 31 := by omega
  obtain ⟨f', hc1, hc2⟩ := copyOf_ok (h := h ++ [oC 1 [vI (nI k), vI (nI r), vI (nI (k ^ r)), vI (nI (k ^ (r - 1))), vR 0]]) hs4 (by simp; omega) (st_p e) hns n1 hns2
  refine ⟨f', ?_, hc2⟩
  unfold fX1_init
  rw [if_neg (by omega), l2, iMax_nI (by omega) (by omega), Nat.max_eq_right g1, pF_of (fs := zR) hl st_pn (by decide), app_set]
  simp only [Option.bind_some, zR, List.set_cons_zero, List.set_cons_succ]
  rw [pF_of (fs := [vI (nI k), vI 0, vI 0, vI 0, vR 0]) hl st_pn (by simp), app_set]
  simp only [Option.bind_some, List.set_cons_zero, List.set_cons_succ]
  rw [gI_of hl st_pn rfl]
  simp only [Option.bind_some]
  rw [i_sub1 g3, power_ok hkk (by omega) (by omega), call_ok, l1, iMax_nI (by omega) (by omega), Nat.max_eq_right n3, pF_of (fs := [vI (nI k), vI (nI r), vI 0, vI 0, vR 0]) hl st_pn (by simp), app_set]
  simp only [Option.bind_some, List.set_cons_zero, List.set_cons_succ]
  rw [gI_of hl st_pn rfl]
  simp only [Option.bind_some]
  rw [gI_of hl st_pn rfl]
  simp only [Option.bind_some]
  rw [pk_mul, ← n4, pF_of (fs := [vI (nI k), vI (nI r), vI 0, vI (nI (k ^ (r - 1))), vR 0]) hl st_pn (by simp), app_set]
  simp only [Option.bind_some, List.set_cons_zero, List.set_cons_succ]
  rw [gI_of hl st_pn rfl]
  simp only [Option.bind_some]
  rw [hc1, call_ok, pF_of (fs := [vI (nI k), vI (nI r), vI (nI (k ^ r)), vI (nI (k ^ (r - 1))), vR 0]) hl (st_p st_pn) (by simp), app_set2]
  simp [oR]
theorem ruleAt_new {f' : Nat → Int32} (hl : 4 ≤ h.length) (hf : ∀ w, w < k ^ r → f' w = nI (F w)) : RuleAt (h ++ [oR k r (h.length + 1)] ++ [aC 0 (k ^ r) f']) h.length (h.length + 1) k r F := by
  refine ⟨hl, by omega, by omega, st_p st_pn, f', ?_, hf⟩
  have : h.length + 1 = (h ++ [oR k r (h.length + 1)]).length := by simp
  rw [this, ← this]
  simp
end PR2

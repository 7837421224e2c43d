section PR3
variable {h : Hp} {a t k r : Nat} {F : Nat → Nat}
/-- what a word adds to the sum of weights -/
def gn (m : Nat) (F : Nat → Nat) (W : Nat → Int32) (w : Nat) : Int32 := W (F w) - W (w / m)
/-- the node and the sum behind i steps of the walk from node 0 to u -/
def lvA (k m r u : Nat) : Nat → Nat
  | 0 => 0
  | i + 1 => (lvA k m r u i * k + u / k ^ (r - 2 - i) % k) % m
def lvS (k m r u : Nat) (F : Nat → Nat) (W : Nat → Int32) : Nat → Int32
  | 0 => 0
  | i + 1 => lvS k m r u F W i + gn m F W (lvA k m r u i * k + u / k ^ (r - 2 - i) % k)
def KeepsW (k r : Nat) (F : Nat → Nat) (W : Nat → Int32) : Prop := ∀ w, w < k ^ r → lvS k (k ^ (r - 1)) r (w / k) F W (r - 1) + gn (k ^ (r - 1)) F W w = lvS k (k ^ (r - 1)) r (w % k ^ (r - 1)) F W (r - 1)
theorem lvA_lt (hk : 0 < k) (r u : Nat) {m : Nat} (hm : 0 < m) (i : Nat) : lvA k m r u i < m := by
  cases i with
  | zero => exact hm
  | succ i => exact Nat.mod_lt _ hm
theorem wlt {m u x : Nat} (hu : u < m) (hx : x < k) : u * k + x < m * k := by
  have : (u + 1) * k ≤ m * k := Nat.mul_le_mul_right k hu
  rw [Nat.succ_mul] at this
  omega
theorem div_node (g : GR k r F) {w : Nat} (hw : w < k ^ r) : w / k ^ (r - 1) < k := by
  obtain ⟨n1, n2, n3, n4, n5⟩ := g.nums
  rw [n4, Nat.mul_comm] at hw
  exact Nat.div_lt_of_lt_mul (by rw [Nat.mul_comm]; exact hw)
theorem gain_ok (g : GR k r F) (R : RuleAt h a t k r F) {w a2 nn : Nat} {W : Nat → Int32} (hw : w < k ^ r) (e : h[a2]? = some (aC 0 nn W)) (hnn : k ≤ nn) (hnn2 : nn < 1000) : fX1_gain h a (nI w) a2 = some (gn (k ^ (r - 1)) F W w, h) := by
  obtain ⟨n1, n2, n3, n4, n5⟩ := g.nums
  obtain ⟨g1, g2, g3, g4, gF⟩ := id g
  have hv := gF w hw
  have hd := div_node g hw
  unfold fX1_gain
  rw [tells_call g R hw, rn R]
  simp only [Option.bind_some]
  rw [iDiv_nI (by omega) (by omega) (by omega), if_neg (nI_nn (by omega)), aN_of e (by decide)]
  simp only [Option.bind_some]
  rw [if_leI (by omega) (by omega), if_neg (by omega), if_neg (nI_nn (by omega)), if_ltI (by omega) (by omega), if_pos (by omega), aI_of e (by omega) (by omega)]
  simp only [Option.bind_some]
  rw [aI_of e (by omega) (by omega)]
  rfl
theorem kpow_pos (g : GR k r F) (i : Nat) : 0 < k ^ i := Nat.pow_pos (by have := g.1; omega)
theorem level_ok (g : GR k r F) (R : RuleAt h a t k r F) {u a2 nn : Nat} {W : Nat → Int32} (hu : u < k ^ (r - 1)) (e : h[a2]? = some (aC 0 nn W)) (hnn : k ≤ nn) (hnn2 : nn < 1000) : fX1_level h a (nI u) a2 = some (lvS k (k ^ (r - 1)) r u F W (r - 1), h) := by
  obtain ⟨n1, n2, n3, n4, n5⟩ := g.nums
  obtain ⟨g1, g2, g3, g4, gF⟩ := id g
  unfold fX1_level
  rw [rn R]
  simp only [Option.bind_some]
  have key := upto (fun q i => fX1_level_w14 q a (nI u) a2 (lvS k (k ^ (r - 1)) r u F W i) (nI (lvA k (k ^ (r - 1)) r u i)) (nI (k ^ (r - 1 - i))) (nI (i + 1)) h) (r - 1) (some (lvS k (k ^ (r - 1)) r u F W (r - 1), h)) (fun q i hi => by
    have hA := lvA_lt (k := k) (by omega) r u n3 i
    have hx : u / k ^ (r - 2 - i) % k < k := Nat.mod_lt _ (by omega)
    have hww : lvA k (k ^ (r - 1)) r u i * k + u / k ^ (r - 2 - i) % k < k ^ r := by rw [n4]; exact wlt hA hx
    have hp1 : k ^ (r - 1 - i) ≤ 27 := pow_le g (by omega)
    have hp2 : k ^ (r - 2 - i) ≤ 27 := pow_le g (by omega)
    have hp3 := kpow_pos g (r - 2 - i)
    have hpd : k ^ (r - 1 - i) / k = k ^ (r - 2 - i) := by
      rw [show r - 1 - i = (r - 2 - i) + 1 by omega, Nat.pow_succ, Nat.mul_div_cancel _ (by omega)]
    have hdu : u / k ^ (r - 2 - i) ≤ u := Nat.div_le_self _ _
    rw [fX1_level_w14]
    simp only []
    rw [rr R]
    simp only [Option.bind_some]
    rw [if_leI (by omega) (by omega), if_neg (by omega), rk R]
    simp only [Option.bind_some]
    rw [iDiv_nI (by omega) (by omega) (by omega), setv_ok, l1, hpd, iMax_nI (by omega) (by omega), Nat.max_eq_right hp3, iDiv_nI (by omega) hp3 (by omega), iRem_nI (by omega) (by omega) (by omega), setv_ok, pk_mul, nI_add, rok R, gain_ok g R hww e hnn hnn2, call_ok, setv_ok, rn R]
    simp only [Option.bind_some]
    rw [iRem_nI (by omega) (by omega) (by omega), nI_add]
    have e9 : r - 1 - (i + 1) = r - 2 - i := by omega
    rw [e9]
    rfl) (fun q => by
    rw [fX1_level_w14]
    simp only []
    rw [rr R]
    simp only [Option.bind_some]
    rw [if_leI (by omega) (by omega), if_pos (by omega)]) 0 FUEL (by omega) (fuel_big (by omega))
  rw [l0, l1]
  exact key
theorem div_k (g : GR k r F) {w : Nat} (hw : w < k ^ r) : w / k < k ^ (r - 1) := by
  obtain ⟨n1, n2, n3, n4, n5⟩ := g.nums
  rw [n4] at hw
  exact Nat.div_lt_of_lt_mul (by rw [Nat.mul_comm]; exact hw)
theorem holds_ok (g : GR k r F) (R : RuleAt h a t k r F) {a2 nn : Nat} {W : Nat → Int32} (e : h[a2]? = some (aC 0 nn W)) (hnn : k ≤ nn) (hnn2 : nn < 1000) : (KeepsW k r F W ∧ fX1_holds h a a2 = some (1, h)) ∨ (¬ KeepsW k r F W ∧ fX1_holds h a a2 = some (0, h)) := by
  obtain ⟨n1, n2, n3, n4, n5⟩ := g.nums
  obtain ⟨g1, g2, g3, g4, gF⟩ := id g
  unfold fX1_holds
  have step : ∀ q i, i < k ^ r → fX1_holds_w2 (q + 1) a a2 (nI i) h = if lvS k (k ^ (r - 1)) r (i / k) F W (r - 1) + gn (k ^ (r - 1)) F W i = lvS k (k ^ (r - 1)) r (i % k ^ (r - 1)) F W (r - 1) then fX1_holds_w2 q a a2 (nI (i + 1)) h else some (0, h) := by
    intro q i hi
    have h1 := div_k g hi
    have h2 : i % k ^ (r - 1) < k ^ (r - 1) := Nat.mod_lt _ n3
    rw [fX1_holds_w2]
    simp only []
    rw [rw9 R]
    simp only [Option.bind_some]
    rw [if_leI (by omega) (by omega), if_neg (by omega), rk R]
    simp only [Option.bind_some]
    rw [iDiv_nI (by omega) (by omega) (by omega), rok R, level_ok g R h1 e hnn hnn2, call_ok, rn R]
    simp only [Option.bind_some]
    rw [iRem_nI (by omega) (by omega) (by omega), rok R, level_ok g R h2 e hnn hnn2, call_ok, rok R, gain_ok g R hi e hnn hnn2, call_ok, nI_p1, retZ0]
  have key := scan_all (fun q i => fX1_holds_w2 q a a2 (nI i) h) (k ^ r) (fun i => ¬ lvS k (k ^ (r - 1)) r (i / k) F W (r - 1) + gn (k ^ (r - 1)) F W i = lvS k (k ^ (r - 1)) r (i % k ^ (r - 1)) F W (r - 1)) (some (0, h)) (some (1, h)) (fun q i hi hb => by
      rw [step q i hi, if_pos (Decidable.not_not.mp hb)]) (fun q i hi hb => by
      rw [step q i hi, if_neg hb]) (fun q => by
      rw [fX1_holds_w2]
      simp only []
      rw [rw9 R]
      simp only [Option.bind_some]
      rw [if_leI (by omega) (by omega), if_pos (Nat.le_refl _), retZ1]) 0 FUEL (by omega) (fuel_big (by omega))
  rw [l0]
  rcases key with ⟨h1, h2⟩ | ⟨⟨j, h1, h2, h3⟩, h4⟩
  · left
    exact ⟨fun w hw => Decidable.not_not.mp (h1 w (by omega) hw), h2⟩
  · right
    exact ⟨fun q => h3 (q j h2), h4⟩
theorem GR.less (g : GR k r F) (hr : 2 ≤ r) {F' : Nat → Nat} (hF : ∀ w, w < k ^ (r - 1) → F' w < k) : GR k (r - 1) F' := by
  obtain ⟨g1, g2, g3, g4, -⟩ := g
  exact ⟨g1, g2, by omega, by omega, hF⟩
theorem withoutAhead_ok (g : GR k r F) (R : RuleAt h a t k r F) (hr : 2 ≤ r) (hl : 4 ≤ h.length) : ∃ f', fX1_withoutAhead h a = some (h.length, h ++ [oR k (r - 1) (h.length + 1)] ++ [aC 0 (k ^ (r - 1)) f']) ∧ ∀ w, w < k ^ (r - 1) → f' w = nI (F w) := by
  obtain ⟨n1, n2, n3, n4, n5⟩ := g.nums
  obtain ⟨g1, g2, g3, g4, gF⟩ := id g
  obtain ⟨h1, h2, h3, h4, f, h5, h6⟩ := id R
  have hmn : k ^ (r - 1) ≤ k ^ r := by rw [n4]; exact Nat.le_mul_of_pos_right _ (by omega)
  have g' : GR k (r - 1) (fun _ => 0) := g.less hr (fun w _ => by omega)
  obtain ⟨f', e1, e2⟩ := init_ok (h := h) g' h2 hl h5 hmn (by omega)
  refine ⟨f', ?_, fun w hw => by rw [e2 w hw, h6 w (by omega)]⟩
  have R1 : RuleAt (h ++ [oC 1 zR]) a t k r F := R.push
  unfold fX1_withoutAhead
  unfold mkO
  show Option.bind (gI (h ++ [oC 1 zR]) a 1 0) _ = _
  rw [rk R1]
  simp only [Option.bind_some]
  show Option.bind (gI (h ++ [oC 1 zR]) a 1 1) _ = _
  rw [rr R1]
  simp only [Option.bind_some]
  show Option.bind (gR (h ++ [oC 1 zR]) a 1 4) _ = _
  rw [rt R1]
  simp only [Option.bind_some]
  show Option.bind (fX1_init (h ++ [oC 1 zR]) h.length (nI k) (nI r - 1) t) _ = _
  rw [i_sub1 (by omega), e1]
  rfl
theorem withoutBehind_ok (g : GR k r F) (R : RuleAt h a t k r F) (hr : 2 ≤ r) (hl : 4 ≤ h.length) : ∃ f0 f', fX1_withoutBehind h a = some (h.length + 1, h ++ [aC 0 (k ^ (r - 1)) f0] ++ [oR k (r - 1) (h.length + 2)] ++ [aC 0 (k ^ (r - 1)) f']) ∧ ∀ w, w < k ^ (r - 1) → f' w = nI (F (w * k)) := by
  obtain ⟨n1, n2, n3, n4, n5⟩ := g.nums
  obtain ⟨g1, g2, g3, g4, gF⟩ := id g
  have R0 := R
  have g' : GR k (r - 1) (fun _ => 0) := g.less hr (fun w _ => by omega)
  obtain ⟨f', e1, e2⟩ := init_ok (h := h ++ [aC 0 (k ^ (r - 1)) (fillN (fun j => nI (F (j * k))) (k ^ (r - 1)) (fun _ => 0))]) (src := h.length) g' hl (by simp; omega) st_pn (Nat.le_refl _) (by omega)
  refine ⟨fillN (fun j => nI (F (j * k))) (k ^ (r - 1)) (fun _ => 0), f', ?_, fun w hw => by rw [e2 w hw]; simp [fillN, hw]⟩
  unfold fX1_withoutBehind
  rw [rn R]
  simp only [Option.bind_some]
  unfold mkA
  have hcl : (nI (k ^ (r - 1))).toNatClampNeg = k ^ (r - 1) := cl_nI (by omega)
  rw [hcl, if_neg (by rintro (z | z); exact nI_nn (by omega) z; omega)]
  dsimp only
  have key := upto (fun q i => fX1_withoutBehind_w9 q a h.length (nI i) (h ++ [aC 0 (k ^ (r - 1)) (fillN (fun j => nI (F (j * k))) i (fun _ => 0))])) (k ^ (r - 1)) (fX1_withoutBehind_b36 a h.length (h ++ [aC 0 (k ^ (r - 1)) (fillN (fun j => nI (F (j * k))) (k ^ (r - 1)) (fun _ => 0))])) (fun q i hi => by
    have R1 : RuleAt (h ++ [aC 0 (k ^ (r - 1)) (fillN (fun j => nI (F (j * k))) i (fun _ => 0))]) a t k r F := R.push
    have hik : i * k < k ^ r := by
      have := wlt (k := k) (x := 0) hi (by omega)
      rw [← n4] at this
      omega
    rw [fX1_withoutBehind_w9]
    simp only []
    rw [rn R1]
    simp only [Option.bind_some]
    rw [if_leI (by omega) (by omega), if_neg (by omega), rk R1]
    simp only [Option.bind_some]
    rw [pk_mul, tells_call g R1 hik, sI_of hl st_pn hi (by omega), x_nar0, app_set]
    simp only [Option.bind_some]
    rw [nI_p1, show upd (fillN (fun j => nI (F (j * k))) i (fun _ => 0)) i (nI (F (i * k))) = fillN (fun j => nI (F (j * k))) (i + 1) (fun _ => 0) from fillN_s (f := fun j => nI (F (j * k)))]) (fun q => by
    have R1 : RuleAt (h ++ [aC 0 (k ^ (r - 1)) (fillN (fun j => nI (F (j * k))) (k ^ (r - 1)) (fun _ => 0))]) a t k r F := R.push
    rw [fX1_withoutBehind_w9]
    simp only []
    rw [rn R1]
    simp only [Option.bind_some]
    rw [if_leI (by omega) (by omega), if_pos (Nat.le_refl _)]) 0 FUEL (by omega) (fuel_big (by omega))
  rw [fillN_0] at key
  rw [l0]
  refine Eq.trans key ?_
  unfold fX1_withoutBehind_b36 mkO
  have R2 : RuleAt (h ++ [aC 0 (k ^ (r - 1)) (fillN (fun j => nI (F (j * k))) (k ^ (r - 1)) (fun _ => 0))] ++ [oC 1 zR]) a t k r F := R.push.push
  show Option.bind (gI (_ ++ [oC 1 zR]) a 1 0) _ = _
  rw [rk R2]
  simp only [Option.bind_some]
  show Option.bind (gI (_ ++ [oC 1 zR]) a 1 1) _ = _
  rw [rr R2]
  simp only [Option.bind_some]
  rw [i_sub1 (by omega)]
  show Option.bind (fX1_init (_ ++ [oC 1 zR]) _ (nI k) (nI (r - 1)) h.length) _ = _
  rw [e1]
  simp
  rfl
end PR3

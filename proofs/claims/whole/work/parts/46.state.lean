/-! The class's state. mo: the MossRings object. -/
def mo (tl ol rl : Int32) (he th tr su : Nat) : HC := oC 6 [vR 5, vR 6, vI tl, vR 7, vI ol, vI rl, vR he, vR th, vR 10, vR 11, vR 13, vR 18, vR tr, vR su]
section CS
variable {h : Hp} {tl ol rl : Int32} {he th tr su : Nat}
theorem m0 (e : h[4]? = some (mo tl ol rl he th tr su)) : gR h 4 6 0 = some 5 := gR_of (by decide) e rfl
theorem m1 (e : h[4]? = some (mo tl ol rl he th tr su)) : gR h 4 6 1 = some 6 := gR_of (by decide) e rfl
theorem m2 (e : h[4]? = some (mo tl ol rl he th tr su)) : gI h 4 6 2 = some tl := gI_of (by decide) e rfl
theorem m3 (e : h[4]? = some (mo tl ol rl he th tr su)) : gR h 4 6 3 = some 7 := gR_of (by decide) e rfl
theorem m4 (e : h[4]? = some (mo tl ol rl he th tr su)) : gI h 4 6 4 = some ol := gI_of (by decide) e rfl
theorem m5 (e : h[4]? = some (mo tl ol rl he th tr su)) : gI h 4 6 5 = some rl := gI_of (by decide) e rfl
theorem m6 (e : h[4]? = some (mo tl ol rl he th tr su)) : gR h 4 6 6 = some he := gR_of (by decide) e rfl
theorem m7 (e : h[4]? = some (mo tl ol rl he th tr su)) : gR h 4 6 7 = some th := gR_of (by decide) e rfl
theorem m8 (e : h[4]? = some (mo tl ol rl he th tr su)) : gR h 4 6 8 = some 10 := gR_of (by decide) e rfl
theorem m9 (e : h[4]? = some (mo tl ol rl he th tr su)) : gR h 4 6 9 = some 11 := gR_of (by decide) e rfl
theorem m10 (e : h[4]? = some (mo tl ol rl he th tr su)) : gR h 4 6 10 = some 13 := gR_of (by decide) e rfl
theorem m11 (e : h[4]? = some (mo tl ol rl he th tr su)) : gR h 4 6 11 = some 18 := gR_of (by decide) e rfl
theorem m12 (e : h[4]? = some (mo tl ol rl he th tr su)) : gR h 4 6 12 = some tr := gR_of (by decide) e rfl
theorem m13 (e : h[4]? = some (mo tl ol rl he th tr su)) : gR h 4 6 13 = some su := gR_of (by decide) e rfl
theorem mok (e : h[4]? = some (mo tl ol rl he th tr su)) {β : Type} {x : Option β} : oK h 4 6 x = x := oK_of (by decide) e
theorem p2 (e : h[4]? = some (mo tl ol rl he th tr su)) {x : Int32} : pF h 4 6 2 (vI x) = some (h.set 4 (mo x ol rl he th tr su)) := pF_of (by decide) e (by simp)
theorem p4 (e : h[4]? = some (mo tl ol rl he th tr su)) {x : Int32} : pF h 4 6 4 (vI x) = some (h.set 4 (mo tl x rl he th tr su)) := pF_of (by decide) e (by simp)
theorem p5 (e : h[4]? = some (mo tl ol rl he th tr su)) {x : Int32} : pF h 4 6 5 (vI x) = some (h.set 4 (mo tl ol x he th tr su)) := pF_of (by decide) e (by simp)
theorem p6 (e : h[4]? = some (mo tl ol rl he th tr su)) {x : Nat} : pF h 4 6 6 (vR x) = some (h.set 4 (mo tl ol rl x th tr su)) := pF_of (by decide) e (by simp)
theorem p7 (e : h[4]? = some (mo tl ol rl he th tr su)) {x : Nat} : pF h 4 6 7 (vR x) = some (h.set 4 (mo tl ol rl he x tr su)) := pF_of (by decide) e (by simp)
theorem p12 (e : h[4]? = some (mo tl ol rl he th tr su)) {x : Nat} : pF h 4 6 12 (vR x) = some (h.set 4 (mo tl ol rl he th x su)) := pF_of (by decide) e (by simp)
theorem p13 (e : h[4]? = some (mo tl ol rl he th tr su)) {x : Nat} : pF h 4 6 13 (vR x) = some (h.set 4 (mo tl ol rl he th tr x)) := pF_of (by decide) e (by simp)
theorem mset (e : h[4]? = some (mo tl ol rl he th tr su)) {c : HC} : (h.set 4 c)[4]? = some c := st_s e
end CS
/-- cells from 20 on stay -/
def Up (h h' : Hp) : Prop := h.length ≤ h'.length ∧ ∀ (i : Nat) (c : HC), 20 ≤ i → h[i]? = some c → h'[i]? = some c
theorem Up.rf {h : Hp} : Up h h := ⟨Nat.le_refl _, fun _ _ _ h => h⟩
theorem Up.set {h : Hp} {i : Nat} {c : HC} (hi : i < 20) : Up h (h.set i c) := ⟨by rw [List.length_set]; exact Nat.le_refl _, fun j d hj e => st_n' (by omega) e⟩
theorem Up.push {h : Hp} {c : HC} : Up h (h ++ [c]) := ⟨by simp, fun j d _ e => st_p e⟩
theorem Up.tr {h h1 h2 : Hp} (a : Up h h1) (b : Up h1 h2) : Up h h2 := ⟨Nat.le_trans a.1 b.1, fun i c hi e => b.2 i c hi (a.2 i c hi e)⟩
theorem RuleAt.up {h h' : Hp} {a t k r : Nat} {F : Nat → Nat} (R : RuleAt h a t k r F) (u : Up h h') (ha : 20 ≤ a) (ht : 20 ≤ t) : RuleAt h' a t k r F := by
  obtain ⟨h1, h2, h3, h4, f, h5, h6⟩ := R
  exact ⟨h1, h2, h3, u.2 _ _ ha h4, f, u.2 _ _ ht h5, h6⟩
abbrev SL : Type := Nat → Option (Nat × Nat × (Nat → Nat))
/-- what a slot's reference is, by the slot's rule -/
def SlotOK (h : Hp) (a : Nat) (x : Option (Nat × Nat × (Nat → Nat))) : Prop := match x with
  | none => a = 0
  | some q => 44 ≤ a ∧ GR q.1 q.2.1 q.2.2 ∧ RuleAt h a (a + 1) q.1 q.2.1 q.2.2
theorem SlotOK.up {h h' : Hp} {a : Nat} {x : Option (Nat × Nat × (Nat → Nat))} (s : SlotOK h a x) (u : Up h h') : SlotOK h' a x := by
  match x, s with
  | none, s => exact s
  | some q, ⟨h1, h2, h3⟩ => exact ⟨h1, h2, h3.up u (by omega) (by omega)⟩
def TrailOK (h : Hp) (tr : Nat) : Prop := tr = 0 ∨ (44 ≤ tr ∧ ∃ (x y : Nat) (rl : Int32) (fc : Nat → Int64) (f1 f2 : Nat → Int32), h[tr]? = some (oC 4 [vR (tr + 1), vR x, vR y, vI rl]) ∧ h[tr + 1]? = some (lC 20001 fc) ∧ h[tr + 2]? = some (aC 0 20 f1) ∧ h[tr + 3]? = some (aC 0 20 f2) ∧ ((x = tr + 2 ∧ y = tr + 3) ∨ (x = tr + 3 ∧ y = tr + 2)))
theorem TrailOK.up {h h' : Hp} {tr : Nat} (s : TrailOK h tr) (u : Up h h') : TrailOK h' tr := by
  rcases s with s | ⟨h0, x, y, rl, fc, f1, f2, h1, h2, h3, h4, h5⟩
  · exact Or.inl s
  · exact Or.inr ⟨h0, x, y, rl, fc, f1, f2, u.2 _ _ (by omega) h1, u.2 _ _ (by omega) h2, u.2 _ _ (by omega) h3, u.2 _ _ (by omega) h4, h5⟩
/-- what a survey holds of a rule and a length: five numbers -/
abbrev SVP : Type := (Nat × Nat × (Nat → Nat)) → Nat → Int32 → Int32 → Int32 → Int32 → Int32 → Prop
def SurveyOK (SV : SVP) (h : Hp) (su : Nat) : Prop := su = 0 ∨ (44 ≤ su ∧ ∃ (ru : Nat) (n : Int32) (x0 x1 x2 x3 x4 : Int32) (f1 f2 f3 f4 f5 f6 : Nat → Int32), h[su]? = some (oC 3 [vR (su + 1), vR (su + 2), vR (su + 3), vR (su + 4), vR (su + 5), vR (su + 6), vR ru, vI n, vI x0, vI x1, vI x2, vI x3, vI x4]) ∧ h[su + 1]? = some (aC 0 4096 f1) ∧ h[su + 2]? = some (aC 0 4096 f2) ∧ h[su + 3]? = some (aC 0 4096 f3) ∧ h[su + 4]? = some (aC 0 4096 f4) ∧ h[su + 5]? = some (aC 0 20 f5) ∧ h[su + 6]? = some (aC 0 20 f6) ∧ (ru = 0 ∨ (44 ≤ ru ∧ ∃ (q : Nat × Nat × (Nat → Nat)) (N : Nat), GR q.1 q.2.1 q.2.2 ∧ RuleAt h ru (ru + 1) q.1 q.2.1 q.2.2 ∧ n = nI N ∧ N < 1000 ∧ SV q N x0 x1 x2 x3 x4)))
theorem SurveyOK.up {SV : SVP} {h h' : Hp} {su : Nat} (s : SurveyOK SV h su) (u : Up h h') : SurveyOK SV h' su := by
  rcases s with s | ⟨h0, ru, n, x0, x1, x2, x3, x4, f1, f2, f3, f4, f5, f6, h1, h2, h3, h4, h5, h6, h7, h8⟩
  · exact Or.inl s
  · refine Or.inr ⟨h0, ru, n, x0, x1, x2, x3, x4, f1, f2, f3, f4, f5, f6, u.2 _ _ (by omega) h1, u.2 _ _ (by omega) h2, u.2 _ _ (by omega) h3, u.2 _ _ (by omega) h4, u.2 _ _ (by omega) h5, u.2 _ _ (by omega) h6, u.2 _ _ (by omega) h7, ?_⟩
    rcases h8 with h8 | ⟨h9, q, N, g, R, r⟩
    · exact Or.inl h8
    · exact Or.inr ⟨h9, q, N, g, R.up u (by omega) (by omega), r⟩
/-- the class's rows that hold nothing from call to call -/
def CFix (h : Hp) : Prop := (∃ f, h[8]? = some (aC 0 100 f)) ∧ (∃ f, h[9]? = some (aC 0 100 f)) ∧ (∃ f, h[10]? = some (aC 0 27 f)) ∧ (∃ wr ws, h[11]? = some (oC 5 [vR 12, vR wr, vI ws])) ∧ (∃ f, h[12]? = some (lC 189 f)) ∧ (∃ w, h[13]? = some (oC 2 [vR 14, vR 15, vR 16, vR 17, vI w])) ∧ (∃ f, h[14]? = some (aC 0 512 f)) ∧ (∃ f, h[15]? = some (aC 0 512 f)) ∧ (∃ f, h[16]? = some (aC 0 512 f)) ∧ (∃ f, h[17]? = some (aC 0 27 f)) ∧ h[18]? = some (oC 0 [vR 19]) ∧ ∃ f, h[19]? = some (aC 2 729 f)
/-- two of the rows 8 and 9, one each -/
def HT (he th : Nat) : Prop := (he = 8 ∧ th = 9) ∨ (he = 9 ∧ th = 8)
/-- the class at a state: tape of tl bytes tp, slots sl, OUT of ol bytes of, round rd -/
def CInv (SV : SVP) (h : Hp) (tl : Nat) (tp : Nat → Nat) (sl : SL) (ol : Nat) (of : Nat → Nat) (rd : Nat) (tr su : Nat) : Prop :=
  ∃ (he th : Nat) (sf : Nat → Nat) (tf uf : Nat → Int32), h[2]? = some (aC 0 5 x_mw) ∧ h[3]? = some (aC 0 4 x_lk) ∧ h[4]? = some (mo (nI tl) (nI ol) (nI rd) he th tr su) ∧ tl ≤ 100 ∧ ol ≤ 512 ∧ rd < 100000 ∧ HT he th ∧ h[5]? = some (rC 6 sf) ∧ (∀ s, s < 6 → SlotOK h (sf s) (sl s)) ∧ h[6]? = some (aC 0 100 tf) ∧ (∀ i, i < tl → tf i = nI (tp i) ∧ tp i < 256) ∧ h[7]? = some (aC 0 512 uf) ∧ (∀ i, i < ol → uf i = nI (of i) ∧ of i < 4) ∧ CFix h ∧ TrailOK h tr ∧ SurveyOK SV h su ∧ 44 ≤ h.length

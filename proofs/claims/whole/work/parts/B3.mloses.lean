/-- pairs that go on and come from, or of one node -/
def SelfM (k m : Nat) (F : Nat → Nat) (P : Nat → Prop) : Prop := ∀ p, P p → p < m * m ∧ (dgP m p ∨ ((∃ q, P q ∧ LDp k m F p q) ∧ ∃ q, P q ∧ LDp k m F q p))
def LosesM (k m : Nat) (F : Nat → Nat) : Prop := ∀ P, SelfM k m F P → ∀ p, P p → dgP m p
section MLN
variable {h : Hp} {j k r : Nat} {F : Nat → Nat}
/-- whether one of the first b does -/
def FdQ (n b : Nat) (Q : Nat → Prop) (v : Int32) : Prop := (v = 1 ∧ ∃ q, q < b ∧ q < n ∧ Q q) ∨ (v = 0 ∧ ¬ ∃ q, q < b ∧ q < n ∧ Q q)
theorem FdQ.one {n b : Nat} {Q : Nat → Prop} {v : Int32} (f : FdQ n b Q v) (h : v = 1 ∨ (b < n ∧ Q b)) : FdQ n (b + 1) Q 1 := by
  left
  refine ⟨rfl, ?_⟩
  rcases h with h | h
  · rcases f with ⟨-, q, h1, h2⟩ | ⟨f, -⟩
    · exact ⟨q, by omega, h2⟩
    · rw [f] at h; exact absurd h (by decide)
  · exact ⟨b, by omega, h⟩
theorem FdQ.no {n b : Nat} {Q : Nat → Prop} {v : Int32} (f : FdQ n b Q v) (h : ¬ Q b) : FdQ n (b + 1) Q v := by
  rcases f with ⟨f1, q, h1, h2⟩ | ⟨f1, f2⟩
  · exact Or.inl ⟨f1, q, by omega, h2⟩
  · refine Or.inr ⟨f1, fun ⟨q, h1, h2, h3⟩ => ?_⟩
    by_cases z : q = b
    · rw [z] at h3; exact h h3
    · exact f2 ⟨q, by omega, h2, h3⟩
theorem loses_in (R : RF h j k r F) {W44 : Nat → Int32 → Int32 → Int32 → Hp → Option (Int32 × Hp)} {W53 : Nat → Int32 → Int32 → Int32 → Int32 → Hp → Option (Int32 × Hp)} {f : Nat → Int32} {a : Nat} {more : Int32} (ha : a < k ^ (r - 1) * k ^ (r - 1)) (e29 : h[29]? = some (aC 2 81 f)) : ∀ (d b fuel : Nat) (on back : Int32), d = k ^ (r - 1) * k ^ (r - 1) - b → b ≤ k ^ (r - 1) * k ^ (r - 1) → d < fuel → FdQ (k ^ (r - 1) * k ^ (r - 1)) b (fun q => f q ≠ 0 ∧ LDp k (k ^ (r - 1)) F a q) on → FdQ (k ^ (r - 1) * k ^ (r - 1)) b (fun q => f q ≠ 0 ∧ LDp k (k ^ (r - 1)) F q a) back → ∃ on' back', fX7_losesNothing_w91 W44 W53 fuel 20 (nI j) (nI (k ^ (r - 1) * k ^ (r - 1))) more (nI a) on back (nI b) h = fX7_losesNothing_b164 W44 W53 20 (nI j) (nI (k ^ (r - 1) * k ^ (r - 1))) more (nI a) on' back' h ∧ FdQ (k ^ (r - 1) * k ^ (r - 1)) (k ^ (r - 1) * k ^ (r - 1)) (fun q => f q ≠ 0 ∧ LDp k (k ^ (r - 1)) F a q) on' ∧ FdQ (k ^ (r - 1) * k ^ (r - 1)) (k ^ (r - 1) * k ^ (r - 1)) (fun q => f q ≠ 0 ∧ LDp k (k ^ (r - 1)) F q a) back' := by
  obtain ⟨hN, hN1⟩ := R.n81
  obtain ⟨_, _, _, _, _, e0⟩ := R.obj
  intro d
  induction d with
  | zero =>
    intro b fuel on back hd hb hfu f1 f2
    obtain ⟨fu, rfl⟩ : ∃ fu, fuel = fu + 1 := ⟨fuel - 1, by omega⟩
    have hbe : b = k ^ (r - 1) * k ^ (r - 1) := by omega
    rw [hbe] at f1 f2
    refine ⟨on, back, ?_, f1, f2⟩
    rw [fX7_losesNothing_w91]
    simp only []
    rw [if_leI (by omega) (by omega), if_pos (by omega)]
  | succ d ih =>
    intro b fuel on back hd hb hfu f1 f2
    obtain ⟨fu, rfl⟩ : ∃ fu, fuel = fu + 1 := ⟨fuel - 1, by omega⟩
    have hbl : b < k ^ (r - 1) * k ^ (r - 1) := by omega
    -- what the second half does
    have half : ∀ s0 : Int32, FdQ (k ^ (r - 1) * k ^ (r - 1)) (b + 1) (fun q => f q ≠ 0 ∧ LDp k (k ^ (r - 1)) F a q) s0 → f b ≠ 0 → ∃ on' back', fX7_losesNothing_b132 W44 W53 (fX7_losesNothing_w91 W44 W53 fu) 20 (nI j) (nI (k ^ (r - 1) * k ^ (r - 1))) more (nI a) back (nI b) s0 h = fX7_losesNothing_b164 W44 W53 20 (nI j) (nI (k ^ (r - 1) * k ^ (r - 1))) more (nI a) on' back' h ∧ FdQ (k ^ (r - 1) * k ^ (r - 1)) (k ^ (r - 1) * k ^ (r - 1)) (fun q => f q ≠ 0 ∧ LDp k (k ^ (r - 1)) F a q) on' ∧ FdQ (k ^ (r - 1) * k ^ (r - 1)) (k ^ (r - 1) * k ^ (r - 1)) (fun q => f q ≠ 0 ∧ LDp k (k ^ (r - 1)) F q a) back' := by
      intro s0 g1 hfb
      unfold fX7_losesNothing_b132 fX7_losesNothing_b151 fX7_losesNothing_b156 fX7_losesNothing_b158
      rw [nI_p1]
      by_cases z : back = 0
      · rw [if_pos z, oo e0]
        rcases R.lds (p := b) (q := a) hbl (by omega) with ⟨l1', l2'⟩ | ⟨l1', l2'⟩
        · rw [l2', call_ok, if_neg one_ne]
          exact ih (b + 1) fu s0 1 (by omega) (by omega) (by omega) g1 (f2.one (Or.inr ⟨hbl, hfb, l1'⟩))
        · rw [l2', call_ok, if_pos rfl]
          have f3 := f2.no (fun w => l1' w.2)
          rw [z] at f3
          exact ih (b + 1) fu s0 0 (by omega) (by omega) (by omega) g1 f3
      · rw [if_neg z]
        have hb1 : back = 1 := by
          rcases f2 with ⟨w, -⟩ | ⟨w, -⟩
          · exact w
          · exact absurd w z
        exact ih (b + 1) fu s0 1 (by omega) (by omega) (by omega) g1 (f2.one (Or.inl hb1))
    rw [fX7_losesNothing_w91]
    simp only []
    rw [if_leI (by omega) (by omega), if_neg (by omega), o_12 e0, Option.bind_some, aI_of e29 (by omega) (by decide), Option.bind_some]
    by_cases z1 : f b = 0
    · rw [if_pos z1]
      unfold fX7_losesNothing_b158
      rw [nI_p1]
      exact ih (b + 1) fu on back (by omega) (by omega) (by omega) (f1.no (fun w => w.1 z1)) (f2.no (fun w => w.1 z1))
    · rw [if_neg z1]
      unfold fX7_losesNothing_b127
      by_cases z2 : on = 0
      · rw [if_pos z2, oo e0]
        rcases R.lds (p := a) (q := b) ha (by omega) with ⟨l1', l2'⟩ | ⟨l1', l2'⟩
        · rw [l2', call_ok, if_neg one_ne]
          exact half 1 (f1.one (Or.inr ⟨hbl, z1, l1'⟩)) z1
        · rw [l2', call_ok, if_pos rfl]
          have f3 := f1.no (fun w => l1' w.2)
          rw [z2] at f3
          exact half 0 f3 z1
      · rw [if_neg z2]
        have ho1 : on = 1 := by
          rcases f1 with ⟨w, -⟩ | ⟨w, -⟩
          · exact w
          · exact absurd w z2
        exact half 1 (f1.one (Or.inl ho1)) z1
/-- the state of a pass -/
def PLn (k r : Nat) (F : Nat → Nat) (f0 f : Nat → Int32) (more : Int32) (a : Nat) : Prop := (∀ P, SelfM k (k ^ (r - 1)) F P → (∀ x, P x → f0 x ≠ 0) → ∀ x, P x → f x ≠ 0) ∧ ((more = 0 ∧ f = f0 ∧ ∀ a', a' < a → f0 a' ≠ 0 → ¬ dgP (k ^ (r - 1)) a' → (∃ q, q < k ^ (r - 1) * k ^ (r - 1) ∧ f0 q ≠ 0 ∧ LDp k (k ^ (r - 1)) F a' q) ∧ ∃ q, q < k ^ (r - 1) * k ^ (r - 1) ∧ f0 q ≠ 0 ∧ LDp k (k ^ (r - 1)) F q a') ∨ (more = 1 ∧ cntA f 81 < cntA f0 81))
theorem loses_pass (R : RF h j k r F) {W44 : Nat → Int32 → Int32 → Int32 → Hp → Option (Int32 × Hp)} {f0 : Nat → Int32} : ∀ (d a fuel : Nat) (H : Hp) (f : Nat → Int32) (more : Int32), d = k ^ (r - 1) * k ^ (r - 1) - a → a ≤ k ^ (r - 1) * k ^ (r - 1) → d < fuel → DQ h H → H[29]? = some (aC 2 81 f) → PLn k r F f0 f more a → ∃ H' f' more', fX7_losesNothing_w53 W44 fuel 20 (nI j) (nI (k ^ (r - 1) * k ^ (r - 1))) more (nI a) H = W44 20 (nI j) (nI (k ^ (r - 1) * k ^ (r - 1))) more' H' ∧ DQ h H' ∧ H'[30]? = H[30]? ∧ H'[29]? = some (aC 2 81 f') ∧ PLn k r F f0 f' more' (k ^ (r - 1) * k ^ (r - 1)) := by
  obtain ⟨hN, hN1⟩ := R.n81
  intro d
  induction d with
  | zero =>
    intro a fuel H f more hd ha hfu D e29 p
    obtain ⟨fu, rfl⟩ : ∃ fu, fuel = fu + 1 := ⟨fuel - 1, by omega⟩
    have hae : a = k ^ (r - 1) * k ^ (r - 1) := by omega
    refine ⟨H, f, more, ?_, D, rfl, e29, by rw [← hae]; exact p⟩
    rw [fX7_losesNothing_w53]
    simp only []
    rw [if_leI (by omega) (by omega), if_pos (by omega)]
    rfl
  | succ d ih =>
    intro a fuel H f more hd ha hfu D e29 p
    obtain ⟨fu, rfl⟩ : ∃ fu, fuel = fu + 1 := ⟨fuel - 1, by omega⟩
    have hal : a < k ^ (r - 1) * k ^ (r - 1) := by omega
    have RH := R.dq D
    obtain ⟨_, _, _, _, _, e0⟩ := RH.obj
    obtain ⟨p1, p2⟩ := id p
    have keep : ((∀ (_ : f a ≠ 0) (_ : ¬ dgP (k ^ (r - 1)) a), (∃ q, q < k ^ (r - 1) * k ^ (r - 1) ∧ f q ≠ 0 ∧ LDp k (k ^ (r - 1)) F a q) ∧ ∃ q, q < k ^ (r - 1) * k ^ (r - 1) ∧ f q ≠ 0 ∧ LDp k (k ^ (r - 1)) F q a)) → PLn k r F f0 f more (a + 1) := fun w => by
      refine ⟨p1, ?_⟩
      rcases p2 with ⟨q1, q2, q3⟩ | q'
      · left
        refine ⟨q1, q2, fun a' ha' w1 w2 => ?_⟩
        by_cases z : a' = a
        · rw [z] at w1 w2 ⊢
          rw [← q2] at w1 ⊢
          exact w w1 w2
        · exact q3 a' (by omega) w1 w2
      · exact Or.inr q'
    have same : PLn k r F f0 f more (a + 1) → ∃ H' f' more', fX7_losesNothing_w53 W44 fu 20 (nI j) (nI (k ^ (r - 1) * k ^ (r - 1))) more (nI (a + 1)) H = W44 20 (nI j) (nI (k ^ (r - 1) * k ^ (r - 1))) more' H' ∧ DQ h H' ∧ H'[30]? = H[30]? ∧ H'[29]? = some (aC 2 81 f') ∧ PLn k r F f0 f' more' (k ^ (r - 1) * k ^ (r - 1)) := fun p' => ih (a + 1) fu H f more (by omega) (by omega) (by omega) D e29 p'
    have kill : f a ≠ 0 → ¬ dgP (k ^ (r - 1)) a → ((¬ ∃ q, q < k ^ (r - 1) * k ^ (r - 1) ∧ q < k ^ (r - 1) * k ^ (r - 1) ∧ (f q ≠ 0 ∧ LDp k (k ^ (r - 1)) F a q)) ∨ ¬ ∃ q, q < k ^ (r - 1) * k ^ (r - 1) ∧ q < k ^ (r - 1) * k ^ (r - 1) ∧ (f q ≠ 0 ∧ LDp k (k ^ (r - 1)) F q a)) → ∃ H' f' more', fX7_losesNothing_b177 W44 (fX7_losesNothing_w53 W44 fu) 20 (nI j) (nI (k ^ (r - 1) * k ^ (r - 1))) (nI a) H = W44 20 (nI j) (nI (k ^ (r - 1) * k ^ (r - 1))) more' H' ∧ DQ h H' ∧ H'[30]? = H[30]? ∧ H'[29]? = some (aC 2 81 f') ∧ PLn k r F f0 f' more' (k ^ (r - 1) * k ^ (r - 1)) := fun w1 w2 w3 => by
      have hc := cntA_upd (f := f) (p := a) 81
      rw [if_pos (by omega), if_neg w1] at hc
      have p' : PLn k r F f0 (upd f a 0) 1 (a + 1) := by
        refine ⟨fun P hP hf0 x hx => ?_, Or.inr ⟨rfl, ?_⟩⟩
        · by_cases z : x = a
          · exfalso
            rw [z] at hx
            have hin := p1 P hP hf0
            obtain ⟨-, s2⟩ := hP a hx
            rcases s2 with s2 | ⟨⟨q1, t1, t2⟩, ⟨q2, t3, t4⟩⟩
            · exact w2 s2
            · rcases w3 with w3 | w3
              · exact w3 ⟨q1, (hP q1 t1).1, (hP q1 t1).1, hin q1 t1, t2⟩
              · exact w3 ⟨q2, (hP q2 t3).1, (hP q2 t3).1, hin q2 t3, t4⟩
          · rw [upd_ne z]; exact p1 P hP hf0 x hx
        · rcases p2 with ⟨q1, q2, q3⟩ | q'
          · rw [q2] at hc ⊢; omega
          · omega
      obtain ⟨H', f', more', y1, y2, y3, y4, y5⟩ := ih (a + 1) fu (H.set 29 (aC 2 81 (upd f a 0))) _ 1 (by omega) (by omega) (by omega) (D.st (Or.inl rfl)) (st_s e29) p'
      refine ⟨H', f', more', ?_, y2, y3.trans (st_n (by decide)), y4, y5⟩
      unfold fX7_losesNothing_b177 fX7_losesNothing_b187
      rw [o_12 e0, Option.bind_some, sI_of (by decide) e29 (by omega) (by decide), nar2_0, Option.bind_some, nI_p1]
      exact y1
    have hbeg : ∀ X : Option (Int32 × Hp), (f a = 0 → fX7_losesNothing_w53 W44 fu 20 (nI j) (nI (k ^ (r - 1) * k ^ (r - 1))) more (nI (a + 1)) H = X) → (f a ≠ 0 → dgP (k ^ (r - 1)) a → fX7_losesNothing_w53 W44 fu 20 (nI j) (nI (k ^ (r - 1) * k ^ (r - 1))) more (nI (a + 1)) H = X) → (f a ≠ 0 → ¬ dgP (k ^ (r - 1)) a → fX7_losesNothing_w91 W44 (fX7_losesNothing_w53 W44 fu) FUEL 20 (nI j) (nI (k ^ (r - 1) * k ^ (r - 1))) more (nI a) 0 0 (nI 0) H = X) → fX7_losesNothing_w53 W44 (fu + 1) 20 (nI j) (nI (k ^ (r - 1) * k ^ (r - 1))) more (nI a) H = X := by
      intro X h1 h2 h3
      rw [fX7_losesNothing_w53]
      simp only []
      unfold fX7_losesNothing_b187
      rw [if_leI (by omega) (by omega), if_neg (by omega), o_12 e0, Option.bind_some, aI_of e29 (by omega) (by decide), Option.bind_some, nI_p1]
      by_cases z : f a = 0
      · rw [if_pos z]; exact h1 z
      · rw [if_neg z, oo e0]
        rcases RH.one (show a < 1000 by omega) with ⟨z1, z2⟩ | ⟨z1, z2⟩
        · rw [z2, call_ok, if_neg one_ne]; exact h2 z z1
        · rw [z2, call_ok, if_pos rfl]; exact h3 z z1
    by_cases z : f a = 0
    · obtain ⟨H', f', more', y1, y2⟩ := same (keep fun w _ => absurd z w)
      exact ⟨H', f', more', hbeg _ (fun _ => y1) (fun w _ => absurd z w) (fun w _ => absurd z w), y2⟩
    by_cases z1 : dgP (k ^ (r - 1)) a
    · obtain ⟨H', f', more', y1, y2⟩ := same (keep fun _ w => absurd z1 w)
      exact ⟨H', f', more', hbeg _ (fun w => absurd w z) (fun _ _ => y1) (fun _ w => absurd z1 w), y2⟩
    obtain ⟨on, back, x1, x2, x3⟩ := loses_in RH (W44 := W44) (W53 := fX7_losesNothing_w53 W44 fu) (more := more) hal e29 (k ^ (r - 1) * k ^ (r - 1)) 0 FUEL 0 0 (by omega) (by omega) (fuel_big (by omega)) (Or.inr ⟨rfl, fun ⟨q, h1, _⟩ => by omega⟩) (Or.inr ⟨rfl, fun ⟨q, h1, _⟩ => by omega⟩)
    unfold fX7_losesNothing_b164 at x1
    rcases x2 with ⟨rfl, x2⟩ | ⟨rfl, x2⟩
    · rcases x3 with ⟨rfl, x3⟩ | ⟨rfl, x3⟩
      · rw [if_neg one_ne, if_neg one_ne] at x1
        unfold fX7_losesNothing_b187 at x1
        rw [nI_p1] at x1
        obtain ⟨H', f', more', y1, y2⟩ := same (keep fun _ _ => ⟨x2.imp fun q w => w.2, x3.imp fun q w => w.2⟩)
        exact ⟨H', f', more', hbeg _ (fun w => absurd w z) (fun _ w => absurd w z1) (fun _ _ => x1.trans y1), y2⟩
      · rw [if_neg one_ne, if_pos rfl] at x1
        obtain ⟨H', f', more', y1, y2⟩ := kill z z1 (Or.inr x3)
        exact ⟨H', f', more', hbeg _ (fun w => absurd w z) (fun _ w => absurd w z1) (fun _ _ => x1.trans y1), y2⟩
    · rw [if_pos rfl] at x1
      obtain ⟨H', f', more', y1, y2⟩ := kill z z1 (Or.inl x2)
      exact ⟨H', f', more', hbeg _ (fun w => absurd w z) (fun _ w => absurd w z1) (fun _ _ => x1.trans y1), y2⟩
theorem loses_all (R : RF h j k r F) : ∀ (fuel : Nat) (H : Hp) (f : Nat → Int32), cntA f 81 + 2 ≤ fuel → DQ h H → H[29]? = some (aC 2 81 f) → (∀ P, SelfM k (k ^ (r - 1)) F P → ∀ x, P x → f x ≠ 0) → ∃ H' f', fX7_losesNothing_w44 fuel 20 (nI j) (nI (k ^ (r - 1) * k ^ (r - 1))) 1 H = fX7_losesNothing_b196 20 (nI j) (nI (k ^ (r - 1) * k ^ (r - 1))) H' ∧ DQ h H' ∧ H'[30]? = H[30]? ∧ H'[29]? = some (aC 2 81 f') ∧ (∀ P, SelfM k (k ^ (r - 1)) F P → ∀ x, P x → f' x ≠ 0) ∧ SelfM k (k ^ (r - 1)) F (fun p => p < k ^ (r - 1) * k ^ (r - 1) ∧ f' p ≠ 0) := by
  obtain ⟨hN, hN1⟩ := R.n81
  intro fuel
  induction fuel with
  | zero => intro H f hf; omega
  | succ fu ih =>
    intro H f hf D e29 hP
    obtain ⟨H1, f1, more, y1, y2, y3, y4, p1, p3⟩ := loses_pass R (W44 := fX7_losesNothing_w44 fu) (f0 := f) (k ^ (r - 1) * k ^ (r - 1)) 0 FUEL H f 0 (by omega) (by omega) (fuel_big (by omega)) D e29 ⟨fun _ _ w => w, Or.inl ⟨rfl, rfl, fun a' ha' => by omega⟩⟩
    have hst : fX7_losesNothing_w44 (fu + 1) 20 (nI j) (nI (k ^ (r - 1) * k ^ (r - 1))) 1 H = fX7_losesNothing_w44 fu 20 (nI j) (nI (k ^ (r - 1) * k ^ (r - 1))) more H1 := by
      rw [fX7_losesNothing_w44]
      simp only []
      rw [if_neg one_ne]
      exact (show fX7_losesNothing_w53 (fX7_losesNothing_w44 fu) FUEL 20 (nI j) (nI (k ^ (r - 1) * k ^ (r - 1))) 0 (nI 0) H = _ from y1)
    rw [hst]
    rcases p3 with ⟨rfl, rfl, q3⟩ | ⟨rfl, q⟩
    · obtain ⟨f', rfl⟩ : ∃ f', fu = f' + 1 := ⟨fu - 1, by omega⟩
      refine ⟨H1, f1, ?_, y2, y3, y4, hP, ?_⟩
      · rw [fX7_losesNothing_w44]
        simp only []
        rw [if_pos trivial]
      · rintro p ⟨hp, hfp⟩
        refine ⟨hp, ?_⟩
        by_cases z : dgP (k ^ (r - 1)) p
        · exact Or.inl z
        · obtain ⟨⟨q1, t1, t2, t3⟩, ⟨q2, t4, t5, t6⟩⟩ := q3 p hp hfp z
          exact Or.inr ⟨⟨q1, ⟨t1, t2⟩, t3⟩, ⟨q2, ⟨t4, t5⟩, t6⟩⟩
    · obtain ⟨H2, f2, x1, x2, x3, x4⟩ := ih H1 f1 (by omega) y2 y4 (fun P hS => p1 P hS (hP P hS))
      exact ⟨H2, f2, x1, x2, x3.trans y3, x4⟩
theorem loses_m (R : RF h j k r F) {fa fs : Nat → Int32} (e29 : h[29]? = some (aC 2 81 fa)) (e30 : h[30]? = some (aC 2 81 fs)) : ∃ H fa' fs', DQ h H ∧ H[29]? = some (aC 2 81 fa') ∧ H[30]? = some (aC 2 81 fs') ∧ (((EvenR k r F ∧ LosesM k (k ^ (r - 1)) F) ∧ fX7_losesNothing h 20 (nI j) = some (1, H)) ∨ (¬ (EvenR k r F ∧ LosesM k (k ^ (r - 1)) F) ∧ fX7_losesNothing h 20 (nI j) = some (0, H))) := by
  obtain ⟨hN, hN1⟩ := R.n81
  obtain ⟨_, _, _, _, _, e0⟩ := R.obj
  unfold fX7_losesNothing
  rw [oo e0]
  rcases R.ev with ⟨ev, z⟩ | ⟨ev, z⟩
  case inr =>
    refine ⟨h, fa, fs, DQ.rf, e29, e30, Or.inr ⟨fun w => ev w.1, ?_⟩⟩
    rw [z, call_ok, if_pos rfl, retZ0]
  rw [z, call_ok, if_neg one_ne, oo e0, R.ov, call_ok, oo e0, R.ov, call_ok, setv_ok, pk_mul]
  have kA := uptoI (fun q i H => fX7_losesNothing_w24 q 20 (nI j) (nI (k ^ (r - 1) * k ^ (r - 1))) (nI i) H) (k ^ (r - 1) * k ^ (r - 1)) (fun i H => DQ h H ∧ H[30]? = h[30]? ∧ ∃ f, H[29]? = some (aC 2 81 f) ∧ ∀ x, x < i → f x ≠ 0) (by
    rintro q i H hi ⟨D, x30, f, x29, hf⟩
    obtain ⟨_, _, _, _, _, f0⟩ := (R.dq D).obj
    refine ⟨H.set 29 (aC 2 81 (upd f i 1)), ?_, D.st (Or.inl rfl), by rw [st_n (by decide)]; exact x30, _, st_s x29, fun x hx => ?_⟩
    · show fX7_losesNothing_w24 (q + 1) 20 (nI j) (nI (k ^ (r - 1) * k ^ (r - 1))) (nI i) H = _
      rw [fX7_losesNothing_w24]
      simp only []
      rw [if_leI (by omega) (by omega), if_neg (by omega), o_12 f0, Option.bind_some, sI_of (by decide) x29 (by omega) (by decide), nar2_1, Option.bind_some, nI_p1]
    · by_cases w : x = i
      · rw [w, upd_self]; exact one_ne
      · rw [upd_ne w]; exact hf x (by omega)) 0 FUEL h (by omega) (fuel_big (by omega)) ⟨DQ.rf, rfl, fa, e29, fun x hx => by omega⟩
  obtain ⟨fu, H1, k1, D1, x30, f1, x29, hf1⟩ := kA
  have hFU : FUEL = 100000 := rfl
  have hc1 := cntA_le f1 81
  obtain ⟨H2, f2, k2, D2, y30, y29, hP, hS⟩ := loses_all R FUEL H1 f1 (by omega) D1 x29 (fun P hS x hx => hf1 x (hS x hx).1)
  have R2 := R.dq D2
  obtain ⟨_, _, _, _, _, g0⟩ := R2.obj
  have step : ∀ f p, p < k ^ (r - 1) * k ^ (r - 1) → ((f2 p ≠ 0 ∧ ¬ dgP (k ^ (r - 1)) p) ∧ fX7_losesNothing_w199 (f + 1) 20 (nI j) (nI (k ^ (r - 1) * k ^ (r - 1))) (nI p) H2 = some (0, H2)) ∨ (¬ (f2 p ≠ 0 ∧ ¬ dgP (k ^ (r - 1)) p) ∧ fX7_losesNothing_w199 (f + 1) 20 (nI j) (nI (k ^ (r - 1) * k ^ (r - 1))) (nI p) H2 = fX7_losesNothing_w199 f 20 (nI j) (nI (k ^ (r - 1) * k ^ (r - 1))) (nI (p + 1)) H2) := by
    intro f p hp
    rw [fX7_losesNothing_w199]
    simp only []
    unfold fX7_losesNothing_b227
    rw [if_leI (by omega) (by omega), if_neg (by omega), o_12 g0, Option.bind_some, aI_of y29 (by omega) (by decide), Option.bind_some, nI_p1]
    by_cases v1 : f2 p = 0
    · right
      rw [if_pos v1]
      exact ⟨fun w => w.1 v1, rfl⟩
    · rw [if_neg v1, oo g0]
      rcases R2.one (show p < 1000 by omega) with ⟨z1, z2⟩ | ⟨z1, z2⟩
      · right
        rw [z2, call_ok, if_neg one_ne]
        exact ⟨fun w => w.2 z1, rfl⟩
      · left
        rw [z2, call_ok, if_pos rfl, retZ0]
        exact ⟨⟨v1, z1⟩, rfl⟩
  have key := scan_all (fun f p => fX7_losesNothing_w199 f 20 (nI j) (nI (k ^ (r - 1) * k ^ (r - 1))) (nI p) H2) (k ^ (r - 1) * k ^ (r - 1)) (fun p => f2 p ≠ 0 ∧ ¬ dgP (k ^ (r - 1)) p) (some (0, H2)) (some (1, H2)) (fun f p hp hb => by
    rcases step f p hp with ⟨z1, -⟩ | ⟨-, z2⟩
    · exact absurd z1 hb
    · exact z2) (fun f p hp hb => by
    rcases step f p hp with ⟨-, z2⟩ | ⟨z1, -⟩
    · exact z2
    · exact absurd hb z1) (fun f => by
    rw [fX7_losesNothing_w199]
    simp only []
    rw [if_leI (by omega) (by omega), if_pos (Nat.le_refl _), retZ1]) 0 FUEL (by omega) (fuel_big (by omega))
  have hrun : fX7_losesNothing_w24 FUEL 20 (nI j) (nI (k ^ (r - 1) * k ^ (r - 1))) 0 h = fX7_losesNothing_w199 FUEL 20 (nI j) (nI (k ^ (r - 1) * k ^ (r - 1))) (nI 0) H2 := by
    refine Eq.trans (show fX7_losesNothing_w24 FUEL 20 (nI j) (nI (k ^ (r - 1) * k ^ (r - 1))) (nI 0) h = _ from k1) ?_
    rw [fX7_losesNothing_w24]
    simp only []
    rw [if_leI (by omega) (by omega), if_pos (Nat.le_refl _)]
    unfold fX7_losesNothing_b42
    rw [k2]
    unfold fX7_losesNothing_b196
    rw [l0]
  rw [hrun]
  refine ⟨H2, f2, fs, D2, y29, (y30.trans x30).trans e30, ?_⟩
  rcases key with ⟨v1, v2⟩ | ⟨⟨p, -, v1, v2, v3⟩, v5⟩
  · left
    refine ⟨⟨ev, fun P hS' p hp => ?_⟩, v2⟩
    have hpn := (hS' p hp).1
    exact Classical.byContradiction fun w => v1 p (by omega) hpn ⟨hP P hS' p hp, w⟩
  · right
    exact ⟨fun w => v3 (w.2 _ hS p ⟨v1, v2⟩), v5⟩
end MLN
section MAB
variable {h : Hp} {thr sz : Int32} {tl : Nat} {tp : Nat → Nat} {sl : SL} {ol : Nat} {of : Nat → Nat} {rd : Nat}
theorem m_about (I : MInv h thr sz tl tp sl ol of rd) (s w : Int32) : (ruleOf sl s = none ∧ ∃ h', fX7_about h 20 s w = some (-1, h') ∧ MInv h' 0 sz tl tp sl ol of rd ∧ Dn h h') ∨ (∃ k r F h', ruleOf sl s = some (k, r, F) ∧ GR k r F ∧ MInv h' 0 sz tl tp sl ol of rd ∧ Dn h h' ∧ ((w = 0 ∧ fX7_about h 20 s w = some (nI k, h')) ∨ (w = 1 ∧ fX7_about h 20 s w = some (nI r, h')) ∨ (w = 2 ∧ (((EvenR k r F ∧ ¬ PartsP k (k ^ (r - 1)) F) ∧ fX7_about h 20 s w = some (1, h')) ∨ (¬ (EvenR k r F ∧ ¬ PartsP k (k ^ (r - 1)) F) ∧ fX7_about h 20 s w = some (0, h')))) ∨ (w = 3 ∧ (((EvenR k r F ∧ LosesM k (k ^ (r - 1)) F) ∧ fX7_about h 20 s w = some (1, h')) ∨ (¬ (EvenR k r F ∧ LosesM k (k ^ (r - 1)) F) ∧ fX7_about h 20 s w = some (0, h')))) ∨ (w ≠ 0 ∧ w ≠ 1 ∧ w ≠ 2 ∧ w ≠ 3 ∧ fX7_about h 20 s w = some (-1, h')))) := by
  obtain ⟨h1, c1, I1, d1⟩ := I.begin
  obtain ⟨tpf, stf, wdf, tbf, otf, e0, a1, a2, a3, e1, b1, e2, e3, e4, b2, e5, b3, Fx⟩ := id I1
  unfold fX7_about
  rw [c1]
  simp only [Option.bind_some]
  rw [oo e0]
  rcases mhas e0 e2 b2 s with ⟨q, e⟩ | ⟨j, k, r, F, hj, rfl, q, e, g, s1, s2, s3⟩
  · left
    rw [e, call_ok, if_pos rfl]
    exact ⟨q, h1, rfl, I1, d1⟩
  right
  rw [e, call_ok, if_neg one_ne]
  have R : RF h1 j k r F := ⟨g, hj, 0, nI tl, sz, nI ol, nI rd, stf, wdf, tbf, e0, e2, e3, e4, s1, s2, s3⟩
  obtain ⟨fa, e29⟩ := Fx.r29
  obtain ⟨fs, e30⟩ := Fx.r30
  have inv : ∀ {H : Hp} {fa' fs' : Nat → Int32}, DQ h1 H → H[29]? = some (aC 2 81 fa') → H[30]? = some (aC 2 81 fs') → MInv H 0 sz tl tp sl ol of rd ∧ Dn h H := fun {H fa' fs'} D x29 x30 => by
    refine ⟨I1.scr (fun i h1 h2 => D.2 i (by omega) (by omega)) ?_, d1.tn D.dn⟩
    obtain ⟨f26, f27, f28, f29, f30, f31, f32, f33, f34, f35, f36, f37, f38, f39, f40, f41, f42⟩ := Fx
    exact ⟨f26.imp fun _ q => (D.2 26 (by decide) (by decide)).trans q, f27.imp fun _ q => (D.2 27 (by decide) (by decide)).trans q, f28.imp fun _ q => (D.2 28 (by decide) (by decide)).trans q, ⟨_, x29⟩, ⟨_, x30⟩, f31.imp fun _ q => (D.2 31 (by decide) (by decide)).trans q, f32.imp fun _ q => (D.2 32 (by decide) (by decide)).trans q, f33.imp fun _ q => (D.2 33 (by decide) (by decide)).trans q, f34.imp fun _ q => (D.2 34 (by decide) (by decide)).trans q, f35.imp fun _ q => (D.2 35 (by decide) (by decide)).trans q, f36.imp fun _ q => (D.2 36 (by decide) (by decide)).trans q, f37.imp fun _ q => (D.2 37 (by decide) (by decide)).trans q, f38.imp fun _ q => (D.2 38 (by decide) (by decide)).trans q, f39.imp fun _ q => (D.2 39 (by decide) (by decide)).trans q, f40.imp fun _ q => (D.2 40 (by decide) (by decide)).trans q, f41.imp fun _ q => (D.2 41 (by decide) (by decide)).trans q, f42.imp fun _ q => (D.2 42 (by decide) (by decide)).trans q⟩
  by_cases w0 : w = 0
  · refine ⟨k, r, F, h1, q, g, I1, d1, Or.inl ⟨w0, ?_⟩⟩
    rw [if_pos w0, o_4 e0, Option.bind_some, aI_of e2 hj (by decide), s1]
    rfl
  by_cases w1 : w = 1
  · refine ⟨k, r, F, h1, q, g, I1, d1, Or.inr (Or.inl ⟨w1, ?_⟩)⟩
    rw [if_neg w0, if_pos w1, o_5 e0, Option.bind_some, aI_of e3 hj (by decide), s2]
    rfl
  by_cases w2 : w = 2
  · rw [if_neg w0, if_neg w1, if_pos w2, oo e0]
    unfold fX7_isFull
    rw [oo e0]
    rcases R.ev with ⟨ev, z⟩ | ⟨ev, z⟩
    · rw [z, call_ok, if_neg one_ne, oo e0]
      obtain ⟨H, fa', fs', D, x29, x30, y⟩ := parts_m R e29 e30
      obtain ⟨iv, dn⟩ := inv D x29 x30
      rcases y with ⟨y1, y2⟩ | ⟨y1, y2⟩
      · refine ⟨k, r, F, H, q, g, iv, dn, Or.inr (Or.inr (Or.inl ⟨w2, Or.inr ⟨fun v => v.2 y1, ?_⟩⟩))⟩
        rw [y2, call_ok, if_neg one_ne, retZ0, call_ok, if_pos rfl]
      · refine ⟨k, r, F, H, q, g, iv, dn, Or.inr (Or.inr (Or.inl ⟨w2, Or.inl ⟨⟨ev, y1⟩, ?_⟩⟩))⟩
        rw [y2, call_ok, if_pos rfl, retZ1, call_ok, if_neg one_ne]
    · refine ⟨k, r, F, h1, q, g, I1, d1, Or.inr (Or.inr (Or.inl ⟨w2, Or.inr ⟨fun v => ev v.1, ?_⟩⟩))⟩
      rw [z, call_ok, if_pos rfl, retZ0, call_ok, if_pos rfl]
  by_cases w3 : w = 3
  · rw [if_neg w0, if_neg w1, if_neg w2, if_pos w3, oo e0]
    obtain ⟨H, fa', fs', D, x29, x30, y⟩ := loses_m R e29 e30
    obtain ⟨iv, dn⟩ := inv D x29 x30
    rcases y with ⟨y1, y2⟩ | ⟨y1, y2⟩
    · refine ⟨k, r, F, H, q, g, iv, dn, Or.inr (Or.inr (Or.inr (Or.inl ⟨w3, Or.inl ⟨y1, ?_⟩⟩)))⟩
      rw [y2, call_ok, if_neg one_ne]
    · refine ⟨k, r, F, H, q, g, iv, dn, Or.inr (Or.inr (Or.inr (Or.inl ⟨w3, Or.inr ⟨y1, ?_⟩⟩)))⟩
      rw [y2, call_ok, if_pos rfl]
  refine ⟨k, r, F, h1, q, g, I1, d1, Or.inr (Or.inr (Or.inr (Or.inr ⟨w0, w1, w2, w3, ?_⟩)))⟩
  rw [if_neg w0, if_neg w1, if_neg w2, if_neg w3]
end MAB

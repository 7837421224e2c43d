/-- reached from a pair of one node; reaching one -/
def SeenP (k m : Nat) (F : Nat → Nat) (q : Nat) : Prop := ∀ P : Nat → Prop, (∀ p, p < m * m → dgP m p → P p) → (∀ p q, p < m * m → P p → LDp k m F p q → P q) → P q
def AliveP (k m : Nat) (F : Nat → Nat) (p : Nat) : Prop := ∀ P : Nat → Prop, (∀ p, p < m * m → dgP m p → P p) → (∀ p q, p < m * m → q < m * m → P q → LDp k m F p q → P p) → P p
def PartsP (k m : Nat) (F : Nat → Nat) : Prop := ∃ p, p < m * m ∧ ¬ dgP m p ∧ SeenP k m F p ∧ AliveP k m F p
theorem SeenP.dg {k m : Nat} {F : Nat → Nat} {p : Nat} (hp : p < m * m) (h : dgP m p) : SeenP k m F p := fun _ h1 _ => h1 p hp h
theorem SeenP.st {k m : Nat} {F : Nat → Nat} {p q : Nat} (hp : p < m * m) (h : SeenP k m F p) (l : LDp k m F p q) : SeenP k m F q := fun P h1 h2 => h2 p q hp (h P h1 h2) l
theorem AliveP.dg {k m : Nat} {F : Nat → Nat} {p : Nat} (hp : p < m * m) (h : dgP m p) : AliveP k m F p := fun _ h1 _ => h1 p hp h
theorem AliveP.st {k m : Nat} {F : Nat → Nat} {p q : Nat} (hp : p < m * m) (hq : q < m * m) (h : AliveP k m F q) (l : LDp k m F p q) : AliveP k m F p := fun P h1 h2 => h2 p q hp hq (h P h1 h2) l
theorem cntA_one {f : Nat → Int32} {p n : Nat} (hp : p < n) (h0 : f p = 0) : cntA (upd f p 1) n = cntA f n + 1 := by
  have h1 := cntA_upd (f := upd f p 1) (p := p) n
  have h2 : upd (upd f p 1) p 0 = f := by
    funext x
    unfold upd
    by_cases q : x = p
    · rw [if_pos q, q, h0]
    · rw [if_neg q, if_neg q]
  rw [h2, if_pos hp, upd_self, if_neg (by decide)] at h1
  exact h1.symm
section MPT
variable {h : Hp} {thr tl' sz om rd' : Int32} {stf wdf tbf : Nat → Int32} {j k r : Nat} {F : Nat → Nat}
/-- only the rows alive and seen change -/
def DQ (h H : Hp) : Prop := H.length = h.length ∧ ∀ i, i ≠ 29 → i ≠ 30 → H[i]? = h[i]?
theorem DQ.rf : DQ h h := ⟨rfl, fun _ _ _ => rfl⟩
theorem DQ.st {H : Hp} {i : Nat} {c : HC} (a : DQ h H) (hi : i = 29 ∨ i = 30) : DQ h (H.set i c) := ⟨by rw [List.length_set]; exact a.1, fun j h1 h2 => by rw [st_n (by omega)]; exact a.2 j h1 h2⟩
theorem DQ.dn {H : Hp} (a : DQ h H) : Dn h H := ⟨a.1, fun i hi => a.2 i (by omega) (by omega)⟩
/-- the model's fixed facts of a rule in slot j, at a heap -/
def RF (h : Hp) (j k r : Nat) (F : Nat → Nat) : Prop := GR k r F ∧ j < 6 ∧ ∃ (thr tl' sz om rd' : Int32) (stf wdf tbf : Nat → Int32), h[20]? = some (mob thr tl' sz om rd') ∧ h[22]? = some (aC 0 6 stf) ∧ h[23]? = some (aC 0 6 wdf) ∧ h[24]? = some (aC 0 189 tbf) ∧ stf j = nI k ∧ wdf j = nI r ∧ ∀ w, w < k ^ r → tbf (27 * j + w) = nI (F w)
theorem RF.dq {H : Hp} (R : RF h j k r F) (D : DQ h H) : RF H j k r F := by
  obtain ⟨g, hj, thr, tl', sz, om, rd', stf, wdf, tbf, e0, e2, e3, e4, s⟩ := R
  exact ⟨g, hj, thr, tl', sz, om, rd', stf, wdf, tbf, (D.2 20 (by decide) (by decide)).trans e0, (D.2 22 (by decide) (by decide)).trans e2, (D.2 23 (by decide) (by decide)).trans e3, (D.2 24 (by decide) (by decide)).trans e4, s⟩
theorem RF.one (R : RF h j k r F) {p : Nat} (hp : p < 1000) : (dgP (k ^ (r - 1)) p ∧ fX7_isOne h 20 (nI j) (nI p) = some (1, h)) ∨ (¬ dgP (k ^ (r - 1)) p ∧ fX7_isOne h 20 (nI j) (nI p) = some (0, h)) := by
  obtain ⟨g, hj, thr, tl', sz, om, rd', stf, wdf, tbf, e0, e2, e3, e4, s1, s2, s3⟩ := R
  exact isOne_m g e0 e2 e3 hj s1 s2 hp
theorem RF.lds (R : RF h j k r F) {p q : Nat} (hp : p < k ^ (r - 1) * k ^ (r - 1)) (hq : q < 1000) : (LDp k (k ^ (r - 1)) F p q ∧ fX7_leads h 20 (nI j) (nI p) (nI q) = some (1, h)) ∨ (¬ LDp k (k ^ (r - 1)) F p q ∧ fX7_leads h 20 (nI j) (nI p) (nI q) = some (0, h)) := by
  obtain ⟨g, hj, thr, tl', sz, om, rd', stf, wdf, tbf, e0, e2, e3, e4, s1, s2, s3⟩ := R
  exact leads_m g e0 e2 e3 e4 hj s1 s2 s3 hp hq
theorem RF.ev (R : RF h j k r F) : (EvenR k r F ∧ fX7_isEven h 20 (nI j) = some (1, h)) ∨ (¬ EvenR k r F ∧ fX7_isEven h 20 (nI j) = some (0, h)) := by
  obtain ⟨g, hj, thr, tl', sz, om, rd', stf, wdf, tbf, e0, e2, e3, e4, s1, s2, s3⟩ := R
  exact isEven_m g e0 e2 e3 e4 hj s1 s2 s3
theorem RF.ov (R : RF h j k r F) : fX7_overlaps h 20 (nI j) = some (nI (k ^ (r - 1)), h) := by
  obtain ⟨g, hj, thr, tl', sz, om, rd', stf, wdf, tbf, e0, e2, e3, e4, s1, s2, s3⟩ := R
  exact overlaps_m g e0 e2 e3 hj s1 s2
theorem RF.obj (R : RF h j k r F) : ∃ thr tl' sz om rd', h[20]? = some (mob thr tl' sz om rd') := by
  obtain ⟨g, hj, thr, tl', sz, om, rd', stf, wdf, tbf, e0, e2, e3, e4, s1, s2, s3⟩ := R
  exact ⟨thr, tl', sz, om, rd', e0⟩
theorem RF.n81 (R : RF h j k r F) : k ^ (r - 1) * k ^ (r - 1) ≤ 81 ∧ 1 ≤ k ^ (r - 1) * k ^ (r - 1) := by
  obtain ⟨n1, n2, n3, n4, n5⟩ := R.1.nums
  exact ⟨Nat.mul_le_mul n2 n2, Nat.mul_le_mul n3 n3⟩
/-- the state of a pass of 'seen' -/
def PSn (k r : Nat) (F : Nat → Nat) (f0 f : Nat → Int32) (more : Int32) (a b : Nat) : Prop := (∀ x, x < k ^ (r - 1) * k ^ (r - 1) → f0 x ≠ 0 → f x ≠ 0) ∧ (∀ x, x < k ^ (r - 1) * k ^ (r - 1) → f x ≠ 0 → SeenP k (k ^ (r - 1)) F x) ∧ ((more = 0 ∧ f = f0 ∧ (∀ a', a' < a → ∀ b', b' < k ^ (r - 1) * k ^ (r - 1) → f0 a' ≠ 0 → LDp k (k ^ (r - 1)) F a' b' → f0 b' ≠ 0) ∧ (∀ b', b' < b → f0 a ≠ 0 → LDp k (k ^ (r - 1)) F a b' → f0 b' ≠ 0)) ∨ (more = 1 ∧ cntA f0 81 < cntA f 81))
theorem PSn.nx {f0 f : Nat → Int32} {more : Int32} {a b : Nat} (p : PSn k r F f0 f more a b) (hb : b = k ^ (r - 1) * k ^ (r - 1) ∨ f a = 0) : PSn k r F f0 f more (a + 1) 0 := by
  obtain ⟨p1, p2, p3⟩ := p
  refine ⟨p1, p2, ?_⟩
  rcases p3 with ⟨q1, q2, q3, q4⟩ | q
  · left
    refine ⟨q1, q2, fun a' ha' b' hb' => ?_, fun b' hb' => by omega⟩
    by_cases z : a' = a
    · rw [z]
      intro w1 w2
      rcases hb with hb | hb
      · exact q4 b' (by omega) w1 w2
      · rw [q2] at hb
        exact absurd hb w1
    · exact q3 a' (by omega) b' hb'
  · exact Or.inr q
theorem seen_in (R : RF h j k r F) {W42 : Nat → Int32 → Int32 → Int32 → Hp → Option (Int32 × Hp)} {W53 : Nat → Int32 → Int32 → Int32 → Int32 → Hp → Option (Int32 × Hp)} {f0 : Nat → Int32} {a : Nat} (ha : a < k ^ (r - 1) * k ^ (r - 1)) : ∀ (d b fuel : Nat) (H : Hp) (f : Nat → Int32) (more : Int32), d = k ^ (r - 1) * k ^ (r - 1) - b → b ≤ k ^ (r - 1) * k ^ (r - 1) → d < fuel → DQ h H → H[30]? = some (aC 2 81 f) → PSn k r F f0 f more a b → ∃ H' f' more', fX7_parts_w62 W42 W53 fuel 20 (nI j) (nI (k ^ (r - 1) * k ^ (r - 1))) more (nI a) (nI b) H = W53 20 (nI j) (nI (k ^ (r - 1) * k ^ (r - 1))) more' (nI (a + 1)) H' ∧ DQ h H' ∧ H'[29]? = H[29]? ∧ H'[30]? = some (aC 2 81 f') ∧ PSn k r F f0 f' more' (a + 1) 0 := by
  obtain ⟨hN, hN1⟩ := R.n81
  intro d
  induction d with
  | zero =>
    intro b fuel H f more hd hb hfu D e30 p
    obtain ⟨fu, rfl⟩ : ∃ fu, fuel = fu + 1 := ⟨fuel - 1, by omega⟩
    refine ⟨H, f, more, ?_, D, rfl, e30, p.nx (Or.inl (by omega))⟩
    rw [fX7_parts_w62]
    simp only []
    rw [if_leI (by omega) (by omega), if_pos (by omega)]
    unfold fX7_parts_b120
    rw [nI_p1]
  | succ d ih =>
    intro b fuel H f more hd hb hfu D e30 p
    obtain ⟨fu, rfl⟩ : ∃ fu, fuel = fu + 1 := ⟨fuel - 1, by omega⟩
    have RH := R.dq D
    obtain ⟨_, _, _, _, _, e0⟩ := RH.obj
    by_cases z1 : f a = 0
    · refine ⟨H, f, more, ?_, D, rfl, e30, p.nx (Or.inr z1)⟩
      rw [fX7_parts_w62]
      simp only []
      rw [if_leI (by omega) (by omega), if_neg (by omega), o_13 e0]
      simp only [Option.bind_some]
      rw [aI_of e30 (by omega) (by decide), Option.bind_some, if_pos z1]
      unfold fX7_parts_b120
      rw [nI_p1]
    obtain ⟨p1, p2, p3⟩ := id p
    have hbeg : fX7_parts_w62 W42 W53 (fu + 1) 20 (nI j) (nI (k ^ (r - 1) * k ^ (r - 1))) more (nI a) (nI b) H = if f b = 0 then (call (oK H 20 7 (fX7_leads H 20 (nI j) (nI a) (nI b))) fun r5 h6 => if r5 = 0 then (fX7_parts_w62 W42 W53 fu 20 (nI j) (nI (k ^ (r - 1) * k ^ (r - 1))) more (nI a) (nI (b + 1)) h6) else ((gR h6 20 7 13).bind fun v7 => (sI h6 v7 2 (nI b) (1 : Int32)).bind fun h8 => fX7_parts_w62 W42 W53 fu 20 (nI j) (nI (k ^ (r - 1) * k ^ (r - 1))) (1 : Int32) (nI a) (nI (b + 1)) h8)) else fX7_parts_w62 W42 W53 fu 20 (nI j) (nI (k ^ (r - 1) * k ^ (r - 1))) more (nI a) (nI (b + 1)) H := by
      rw [fX7_parts_w62]
      simp only []
      unfold fX7_parts_b114
      rw [if_leI (by omega) (by omega), if_neg (by omega), o_13 e0]
      simp only [Option.bind_some]
      rw [aI_of e30 (show a < 81 by omega) (by decide), Option.bind_some, if_neg z1, aI_of e30 (show b < 81 by omega) (by decide), Option.bind_some, nI_p1]
    have same : PSn k r F f0 f more a (b + 1) → ∃ H' f' more', fX7_parts_w62 W42 W53 fu 20 (nI j) (nI (k ^ (r - 1) * k ^ (r - 1))) more (nI a) (nI (b + 1)) H = W53 20 (nI j) (nI (k ^ (r - 1) * k ^ (r - 1))) more' (nI (a + 1)) H' ∧ DQ h H' ∧ H'[29]? = H[29]? ∧ H'[30]? = some (aC 2 81 f') ∧ PSn k r F f0 f' more' (a + 1) 0 := fun p' => ih (b + 1) fu H f more (by omega) (by omega) (by omega) D e30 p'
    have grow : (∀ b', b' < b + 1 → b' = b → f0 a ≠ 0 → LDp k (k ^ (r - 1)) F a b' → f0 b' ≠ 0 ∨ ¬ more = 0) → PSn k r F f0 f more a (b + 1) := fun w => by
      refine ⟨p1, p2, ?_⟩
      rcases p3 with ⟨q1, q2, q3, q4⟩ | q'
      · left
        refine ⟨q1, q2, q3, fun b' hb' w1 w2 => ?_⟩
        by_cases z : b' = b
        · exact (w b' hb' z w1 w2).elim id (fun y => absurd q1 y)
        · exact q4 b' (by omega) w1 w2
      · exact Or.inr q'
    rw [hbeg]
    by_cases z2 : f b = 0
    · rw [if_pos z2, oo e0]
      rcases RH.lds ha (show b < 1000 by omega) with ⟨l1', l2'⟩ | ⟨l1', l2'⟩
      · rw [l2', call_ok, if_neg one_ne, o_13 e0, Option.bind_some, sI_of (by decide) e30 (by omega) (by decide), nar2_1, Option.bind_some]
        have hc1 := cntA_one (n := 81) (show b < 81 by omega) z2
        have p' : PSn k r F f0 (upd f b 1) 1 a (b + 1) := by
          refine ⟨fun x hx w1 => ?_, fun x hx w1 => ?_, Or.inr ⟨rfl, ?_⟩⟩
          · by_cases z : x = b
            · rw [z, upd_self]; decide
            · rw [upd_ne z]; exact p1 x hx w1
          · by_cases z : x = b
            · rw [z]; exact SeenP.st ha (p2 a ha z1) l1'
            · rw [upd_ne z] at w1; exact p2 x hx w1
          · rcases p3 with ⟨q1, q2, q3, q4⟩ | q'
            · rw [hc1, q2]; omega
            · rw [hc1]; omega
        obtain ⟨H', f', more', y1, y2, y3, y4, y5⟩ := ih (b + 1) fu (H.set 30 (aC 2 81 (upd f b 1))) _ 1 (by omega) (by omega) (by omega) (D.st (Or.inr rfl)) (st_s e30) p'
        exact ⟨H', f', more', y1, y2, y3.trans (st_n (by decide)), y4, y5⟩
      · rw [l2', call_ok, if_pos rfl]
        exact same (grow fun b' _ z _ w2 => by rw [z] at w2; exact absurd w2 l1')
    · rw [if_neg z2]
      refine same (grow fun b' _ z w1 w2 => ?_)
      rcases p3 with ⟨q1, q2, q3, q4⟩ | q'
      · left; rw [z, ← q2]; exact z2
      · right; rw [q'.1]; exact one_ne
theorem seen_pass (R : RF h j k r F) {W42 : Nat → Int32 → Int32 → Int32 → Hp → Option (Int32 × Hp)} {f0 : Nat → Int32} : ∀ (d a fuel : Nat) (H : Hp) (f : Nat → Int32) (more : Int32), d = k ^ (r - 1) * k ^ (r - 1) - a → a ≤ k ^ (r - 1) * k ^ (r - 1) → d < fuel → DQ h H → H[30]? = some (aC 2 81 f) → PSn k r F f0 f more a 0 → ∃ H' f' more', fX7_parts_w53 W42 fuel 20 (nI j) (nI (k ^ (r - 1) * k ^ (r - 1))) more (nI a) H = W42 20 (nI j) (nI (k ^ (r - 1) * k ^ (r - 1))) more' H' ∧ DQ h H' ∧ H'[29]? = H[29]? ∧ H'[30]? = some (aC 2 81 f') ∧ PSn k r F f0 f' more' (k ^ (r - 1) * k ^ (r - 1)) 0 := by
  obtain ⟨hN, hN1⟩ := R.n81
  intro d
  induction d with
  | zero =>
    intro a fuel H f more hd ha hfu D e30 p
    obtain ⟨fu, rfl⟩ : ∃ fu, fuel = fu + 1 := ⟨fuel - 1, by omega⟩
    have hae : a = k ^ (r - 1) * k ^ (r - 1) := by omega
    refine ⟨H, f, more, ?_, D, rfl, e30, by rw [← hae]; exact p⟩
    rw [fX7_parts_w53]
    simp only []
    rw [if_leI (by omega) (by omega), if_pos (by omega)]
    rfl
  | succ d ih =>
    intro a fuel H f more hd ha hfu D e30 p
    obtain ⟨fu, rfl⟩ : ∃ fu, fuel = fu + 1 := ⟨fuel - 1, by omega⟩
    obtain ⟨H1, f1, m1', y1, y2, y3, y4, y5⟩ := seen_in R (W42 := W42) (W53 := fX7_parts_w53 W42 fu) (show a < k ^ (r - 1) * k ^ (r - 1) by omega) (k ^ (r - 1) * k ^ (r - 1)) 0 FUEL H f more (by omega) (by omega) (fuel_big (by omega)) D e30 p
    obtain ⟨H2, f2, m2', x1, x2, x3, x4, x5⟩ := ih (a + 1) fu H1 f1 m1' (by omega) (by omega) (by omega) y2 y4 y5
    refine ⟨H2, f2, m2', ?_, x2, x3.trans y3, x4, x5⟩
    rw [fX7_parts_w53]
    simp only []
    rw [if_leI (by omega) (by omega), if_neg (by omega)]
    exact (show fX7_parts_w62 W42 (fX7_parts_w53 W42 fu) FUEL 20 (nI j) (nI (k ^ (r - 1) * k ^ (r - 1))) more (nI a) (nI 0) H = _ from y1).trans x1
/-- closed -/
def ClS (k r : Nat) (F : Nat → Nat) (f : Nat → Int32) : Prop := ∀ a, a < k ^ (r - 1) * k ^ (r - 1) → ∀ b, b < k ^ (r - 1) * k ^ (r - 1) → f a ≠ 0 → LDp k (k ^ (r - 1)) F a b → f b ≠ 0
theorem seen_all (R : RF h j k r F) : ∀ (fuel : Nat) (H : Hp) (f : Nat → Int32), 90 ≤ fuel + cntA f 81 → DQ h H → H[30]? = some (aC 2 81 f) → (∀ x, x < k ^ (r - 1) * k ^ (r - 1) → dgP (k ^ (r - 1)) x → f x ≠ 0) → (∀ x, x < k ^ (r - 1) * k ^ (r - 1) → f x ≠ 0 → SeenP k (k ^ (r - 1)) F x) → ∃ H' f', fX7_parts_w42 fuel 20 (nI j) (nI (k ^ (r - 1) * k ^ (r - 1))) 1 H = fX7_parts_b129 20 (nI j) (nI (k ^ (r - 1) * k ^ (r - 1))) H' ∧ DQ h H' ∧ H'[29]? = H[29]? ∧ H'[30]? = some (aC 2 81 f') ∧ ∀ x, x < k ^ (r - 1) * k ^ (r - 1) → (f' x ≠ 0 ↔ SeenP k (k ^ (r - 1)) F x) := by
  obtain ⟨hN, hN1⟩ := R.n81
  intro fuel
  induction fuel with
  | zero =>
    intro H f hf
    have := cntA_le f 81
    omega
  | succ fu ih =>
    intro H f hf D e30 hdg hsn
    have hcl := cntA_le f 81
    obtain ⟨H1, f1, more, y1, y2, y3, y4, y5⟩ := seen_pass R (W42 := fX7_parts_w42 fu) (f0 := f) (k ^ (r - 1) * k ^ (r - 1)) 0 FUEL H f 0 (by omega) (by omega) (fuel_big (by omega)) D e30 ⟨fun _ _ w => w, hsn, Or.inl ⟨rfl, rfl, fun a' ha' => by omega, fun b' hb' => by omega⟩⟩
    have hst : fX7_parts_w42 (fu + 1) 20 (nI j) (nI (k ^ (r - 1) * k ^ (r - 1))) 1 H = fX7_parts_w42 fu 20 (nI j) (nI (k ^ (r - 1) * k ^ (r - 1))) more H1 := by
      rw [fX7_parts_w42]
      simp only []
      rw [if_neg one_ne]
      exact (show fX7_parts_w53 (fX7_parts_w42 fu) FUEL 20 (nI j) (nI (k ^ (r - 1) * k ^ (r - 1))) 0 (nI 0) H = _ from y1)
    rw [hst]
    obtain ⟨p1, p2, p3⟩ := y5
    rcases p3 with ⟨rfl, rfl, q3, -⟩ | ⟨rfl, q⟩
    · obtain ⟨f', rfl⟩ : ∃ f', fu = f' + 1 := ⟨fu - 1, by omega⟩
      refine ⟨H1, f1, ?_, y2, y3, y4, fun x hx => ⟨hsn x hx, fun w => ?_⟩⟩
      · rw [fX7_parts_w42]
        simp only []
        rw [if_pos trivial]
      · exact w (fun q => q < k ^ (r - 1) * k ^ (r - 1) → f1 q ≠ 0) (fun p hp hd _ => hdg p hp hd) (fun p q hp w1 w2 hq => q3 p hp q hq (w1 hp) w2) hx
    · obtain ⟨H2, f2, x1, x2, x3, x4, x5⟩ := ih H1 f1 (by omega) y2 y4 (fun x hx hd => p1 x hx (hdg x hx hd)) p2
      exact ⟨H2, f2, x1, x2, x3.trans y3, x4, x5⟩
end MPT

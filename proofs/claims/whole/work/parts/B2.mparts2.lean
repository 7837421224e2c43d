section MPA
variable {h : Hp} {j k r : Nat} {F : Nat → Nat}
/-- the state of a pass of 'alive' -/
def PAn (k r : Nat) (F : Nat → Nat) (f0 f : Nat → Int32) (more : Int32) (a b : Nat) : Prop := (∀ x, x < k ^ (r - 1) * k ^ (r - 1) → f0 x ≠ 0 → f x ≠ 0) ∧ (∀ x, x < k ^ (r - 1) * k ^ (r - 1) → f x ≠ 0 → AliveP k (k ^ (r - 1)) F x) ∧ ((more = 0 ∧ f = f0 ∧ (∀ a', a' < a → ∀ b', b' < k ^ (r - 1) * k ^ (r - 1) → f0 b' ≠ 0 → LDp k (k ^ (r - 1)) F a' b' → f0 a' ≠ 0) ∧ (∀ b', b' < b → f0 b' ≠ 0 → LDp k (k ^ (r - 1)) F a b' → f0 a ≠ 0)) ∨ (more = 1 ∧ cntA f0 81 < cntA f 81))
theorem PAn.nx {f0 f : Nat → Int32} {more : Int32} {a b : Nat} (p : PAn k r F f0 f more a b) (hb : b = k ^ (r - 1) * k ^ (r - 1) ∨ f a ≠ 0) : PAn k r F f0 f more (a + 1) 0 := by
  obtain ⟨p1, p2, p3⟩ := p
  refine ⟨p1, p2, ?_⟩
  rcases p3 with ⟨q1, q2, q3, q4⟩ | q
  · left
    refine ⟨q1, q2, fun a' ha' b' hb' => ?_, fun b' hb' => by omega⟩
    by_cases z : a' = a
    · rw [z]
      intro w1 w2
      rcases hb with hb | hb
      · exact q4 b' (by omega) w1 w2
      · rw [q2] at hb
        exact hb
    · exact q3 a' (by omega) b' hb'
  · exact Or.inr q
theorem alive_in (R : RF h j k r F) {W161 : Nat → Int32 → Int32 → Int32 → Hp → Option (Int32 × Hp)} {W172 : Nat → Int32 → Int32 → Int32 → Int32 → Hp → Option (Int32 × Hp)} {f0 : Nat → Int32} {a : Nat} (ha : a < k ^ (r - 1) * k ^ (r - 1)) : ∀ (d b fuel : Nat) (H : Hp) (f : Nat → Int32) (more : Int32), d = k ^ (r - 1) * k ^ (r - 1) - b → b ≤ k ^ (r - 1) * k ^ (r - 1) → d < fuel → DQ h H → H[29]? = some (aC 2 81 f) → PAn k r F f0 f more a b → ∃ H' f' more', fX7_parts_w181 W161 W172 fuel 20 (nI j) (nI (k ^ (r - 1) * k ^ (r - 1))) more (nI a) (nI b) H = W172 20 (nI j) (nI (k ^ (r - 1) * k ^ (r - 1))) more' (nI (a + 1)) H' ∧ DQ h H' ∧ H'[30]? = H[30]? ∧ H'[29]? = some (aC 2 81 f') ∧ PAn k r F f0 f' more' (a + 1) 0 := by
  obtain ⟨hN, hN1⟩ := R.n81
  intro d
  induction d with
  | zero =>
    intro b fuel H f more hd hb hfu D e29 p
    obtain ⟨fu, rfl⟩ : ∃ fu, fuel = fu + 1 := ⟨fuel - 1, by omega⟩
    refine ⟨H, f, more, ?_, D, rfl, e29, p.nx (Or.inl (by omega))⟩
    rw [fX7_parts_w181]
    simp only []
    rw [if_leI (by omega) (by omega), if_pos (by omega)]
    unfold fX7_parts_b239
    rw [nI_p1]
  | succ d ih =>
    intro b fuel H f more hd hb hfu D e29 p
    obtain ⟨fu, rfl⟩ : ∃ fu, fuel = fu + 1 := ⟨fuel - 1, by omega⟩
    have RH := R.dq D
    obtain ⟨_, _, _, _, _, e0⟩ := RH.obj
    by_cases z1 : f a = 0
    case neg =>
      refine ⟨H, f, more, ?_, D, rfl, e29, p.nx (Or.inr z1)⟩
      rw [fX7_parts_w181]
      simp only []
      rw [if_leI (by omega) (by omega), if_neg (by omega), o_12 e0]
      simp only [Option.bind_some]
      rw [aI_of e29 (by omega) (by decide), Option.bind_some, if_neg z1]
      unfold fX7_parts_b239
      rw [nI_p1]
    obtain ⟨p1, p2, p3⟩ := id p
    have hbeg : fX7_parts_w181 W161 W172 (fu + 1) 20 (nI j) (nI (k ^ (r - 1) * k ^ (r - 1))) more (nI a) (nI b) H = if f b = 0 then fX7_parts_w181 W161 W172 fu 20 (nI j) (nI (k ^ (r - 1) * k ^ (r - 1))) more (nI a) (nI (b + 1)) H else (call (oK H 20 7 (fX7_leads H 20 (nI j) (nI a) (nI b))) fun r5 h6 => if r5 = 0 then (fX7_parts_w181 W161 W172 fu 20 (nI j) (nI (k ^ (r - 1) * k ^ (r - 1))) more (nI a) (nI (b + 1)) h6) else ((gR h6 20 7 12).bind fun v7 => (sI h6 v7 2 (nI a) (1 : Int32)).bind fun h8 => fX7_parts_w181 W161 W172 fu 20 (nI j) (nI (k ^ (r - 1) * k ^ (r - 1))) (1 : Int32) (nI a) (nI (b + 1)) h8)) := by
      rw [fX7_parts_w181]
      simp only []
      unfold fX7_parts_b233
      rw [if_leI (by omega) (by omega), if_neg (by omega), o_12 e0]
      simp only [Option.bind_some]
      rw [aI_of e29 (show a < 81 by omega) (by decide), Option.bind_some, if_pos z1, aI_of e29 (show b < 81 by omega) (by decide), Option.bind_some, nI_p1]
    have same : PAn k r F f0 f more a (b + 1) → ∃ H' f' more', fX7_parts_w181 W161 W172 fu 20 (nI j) (nI (k ^ (r - 1) * k ^ (r - 1))) more (nI a) (nI (b + 1)) H = W172 20 (nI j) (nI (k ^ (r - 1) * k ^ (r - 1))) more' (nI (a + 1)) H' ∧ DQ h H' ∧ H'[30]? = H[30]? ∧ H'[29]? = some (aC 2 81 f') ∧ PAn k r F f0 f' more' (a + 1) 0 := fun p' => ih (b + 1) fu H f more (by omega) (by omega) (by omega) D e29 p'
    have grow : (f b ≠ 0 → LDp k (k ^ (r - 1)) F a b → False) → PAn k r F f0 f more a (b + 1) := fun w => by
      refine ⟨p1, p2, ?_⟩
      rcases p3 with ⟨q1, q2, q3, q4⟩ | q'
      · left
        refine ⟨q1, q2, q3, fun b' hb' w1 w2 => ?_⟩
        by_cases z : b' = b
        · rw [z] at w1 w2
          rw [← q2] at w1
          exact (w w1 w2).elim
        · exact q4 b' (by omega) w1 w2
      · exact Or.inr q'
    rw [hbeg]
    by_cases z2 : f b = 0
    · rw [if_pos z2]
      exact same (grow fun w _ => w z2)
    · rw [if_neg z2, oo e0]
      rcases RH.lds ha (show b < 1000 by omega) with ⟨l1', l2'⟩ | ⟨l1', l2'⟩
      · rw [l2', call_ok, if_neg one_ne, o_12 e0, Option.bind_some, sI_of (by decide) e29 (by omega) (by decide), nar2_1, Option.bind_some]
        have hc1 := cntA_one (n := 81) (show a < 81 by omega) z1
        have p' : PAn k r F f0 (upd f a 1) 1 a (b + 1) := by
          refine ⟨fun x hx w1 => ?_, fun x hx w1 => ?_, Or.inr ⟨rfl, ?_⟩⟩
          · by_cases z : x = a
            · rw [z, upd_self]; decide
            · rw [upd_ne z]; exact p1 x hx w1
          · by_cases z : x = a
            · rw [z]; exact AliveP.st ha (by omega) (p2 b (by omega) z2) l1'
            · rw [upd_ne z] at w1; exact p2 x hx w1
          · rcases p3 with ⟨q1, q2, q3, q4⟩ | q'
            · rw [hc1, q2]; omega
            · rw [hc1]; omega
        obtain ⟨H', f', more', y1, y2, y3, y4, y5⟩ := ih (b + 1) fu (H.set 29 (aC 2 81 (upd f a 1))) _ 1 (by omega) (by omega) (by omega) (D.st (Or.inl rfl)) (st_s e29) p'
        exact ⟨H', f', more', y1, y2, y3.trans (st_n (by decide)), y4, y5⟩
      · rw [l2', call_ok, if_pos rfl]
        exact same (grow fun _ w2 => l1' w2)
theorem alive_pass (R : RF h j k r F) {W161 : Nat → Int32 → Int32 → Int32 → Hp → Option (Int32 × Hp)} {f0 : Nat → Int32} : ∀ (d a fuel : Nat) (H : Hp) (f : Nat → Int32) (more : Int32), d = k ^ (r - 1) * k ^ (r - 1) - a → a ≤ k ^ (r - 1) * k ^ (r - 1) → d < fuel → DQ h H → H[29]? = some (aC 2 81 f) → PAn k r F f0 f more a 0 → ∃ H' f' more', fX7_parts_w172 W161 fuel 20 (nI j) (nI (k ^ (r - 1) * k ^ (r - 1))) more (nI a) H = W161 20 (nI j) (nI (k ^ (r - 1) * k ^ (r - 1))) more' H' ∧ DQ h H' ∧ H'[30]? = H[30]? ∧ H'[29]? = some (aC 2 81 f') ∧ PAn k r F f0 f' more' (k ^ (r - 1) * k ^ (r - 1)) 0 := by
  obtain ⟨hN, hN1⟩ := R.n81
  intro d
  induction d with
  | zero =>
    intro a fuel H f more hd ha hfu D e29 p
    obtain ⟨fu, rfl⟩ : ∃ fu, fuel = fu + 1 := ⟨fuel - 1, by omega⟩
    have hae : a = k ^ (r - 1) * k ^ (r - 1) := by omega
    refine ⟨H, f, more, ?_, D, rfl, e29, by rw [← hae]; exact p⟩
    rw [fX7_parts_w172]
    simp only []
    rw [if_leI (by omega) (by omega), if_pos (by omega)]
    rfl
  | succ d ih =>
    intro a fuel H f more hd ha hfu D e29 p
    obtain ⟨fu, rfl⟩ : ∃ fu, fuel = fu + 1 := ⟨fuel - 1, by omega⟩
    obtain ⟨H1, f1, m1', y1, y2, y3, y4, y5⟩ := alive_in R (W161 := W161) (W172 := fX7_parts_w172 W161 fu) (show a < k ^ (r - 1) * k ^ (r - 1) by omega) (k ^ (r - 1) * k ^ (r - 1)) 0 FUEL H f more (by omega) (by omega) (fuel_big (by omega)) D e29 p
    obtain ⟨H2, f2, m2', x1, x2, x3, x4, x5⟩ := ih (a + 1) fu H1 f1 m1' (by omega) (by omega) (by omega) y2 y4 y5
    refine ⟨H2, f2, m2', ?_, x2, x3.trans y3, x4, x5⟩
    rw [fX7_parts_w172]
    simp only []
    rw [if_leI (by omega) (by omega), if_neg (by omega)]
    exact (show fX7_parts_w181 W161 (fX7_parts_w172 W161 fu) FUEL 20 (nI j) (nI (k ^ (r - 1) * k ^ (r - 1))) more (nI a) (nI 0) H = _ from y1).trans x1
theorem alive_all (R : RF h j k r F) : ∀ (fuel : Nat) (H : Hp) (f : Nat → Int32), 90 ≤ fuel + cntA f 81 → DQ h H → H[29]? = some (aC 2 81 f) → (∀ x, x < k ^ (r - 1) * k ^ (r - 1) → dgP (k ^ (r - 1)) x → f x ≠ 0) → (∀ x, x < k ^ (r - 1) * k ^ (r - 1) → f x ≠ 0 → AliveP k (k ^ (r - 1)) F x) → ∃ H' f', fX7_parts_w161 fuel 20 (nI j) (nI (k ^ (r - 1) * k ^ (r - 1))) 1 H = fX7_parts_b248 20 (nI j) (nI (k ^ (r - 1) * k ^ (r - 1))) H' ∧ DQ h H' ∧ H'[30]? = H[30]? ∧ H'[29]? = some (aC 2 81 f') ∧ ∀ x, x < k ^ (r - 1) * k ^ (r - 1) → (f' x ≠ 0 ↔ AliveP k (k ^ (r - 1)) F x) := by
  obtain ⟨hN, hN1⟩ := R.n81
  intro fuel
  induction fuel with
  | zero =>
    intro H f hf
    have := cntA_le f 81
    omega
  | succ fu ih =>
    intro H f hf D e29 hdg hsn
    have hcl := cntA_le f 81
    obtain ⟨H1, f1, more, y1, y2, y3, y4, y5⟩ := alive_pass R (W161 := fX7_parts_w161 fu) (f0 := f) (k ^ (r - 1) * k ^ (r - 1)) 0 FUEL H f 0 (by omega) (by omega) (fuel_big (by omega)) D e29 ⟨fun _ _ w => w, hsn, Or.inl ⟨rfl, rfl, fun a' ha' => by omega, fun b' hb' => by omega⟩⟩
    have hst : fX7_parts_w161 (fu + 1) 20 (nI j) (nI (k ^ (r - 1) * k ^ (r - 1))) 1 H = fX7_parts_w161 fu 20 (nI j) (nI (k ^ (r - 1) * k ^ (r - 1))) more H1 := by
      rw [fX7_parts_w161]
      simp only []
      rw [if_neg one_ne]
      exact (show fX7_parts_w172 (fX7_parts_w161 fu) FUEL 20 (nI j) (nI (k ^ (r - 1) * k ^ (r - 1))) 0 (nI 0) H = _ from y1)
    rw [hst]
    obtain ⟨p1, p2, p3⟩ := y5
    rcases p3 with ⟨rfl, rfl, q3, -⟩ | ⟨rfl, q⟩
    · obtain ⟨f', rfl⟩ : ∃ f', fu = f' + 1 := ⟨fu - 1, by omega⟩
      refine ⟨H1, f1, ?_, y2, y3, y4, fun x hx => ⟨hsn x hx, fun w => ?_⟩⟩
      · rw [fX7_parts_w161]
        simp only []
        rw [if_pos trivial]
      · exact w (fun q => q < k ^ (r - 1) * k ^ (r - 1) → f1 q ≠ 0) (fun p hp hd _ => hdg p hp hd) (fun p q hp hq w1 w2 _ => q3 p hp q hq (w1 hq) w2) hx
    · obtain ⟨H2, f2, x1, x2, x3, x4, x5⟩ := ih H1 f1 (by omega) y2 y4 (fun x hx hd => p1 x hx (hdg x hx hd)) p2
      exact ⟨H2, f2, x1, x2, x3.trans y3, x4, x5⟩
theorem parts_m (R : RF h j k r F) {fa fs : Nat → Int32} (e29 : h[29]? = some (aC 2 81 fa)) (e30 : h[30]? = some (aC 2 81 fs)) : ∃ H fa' fs', DQ h H ∧ H[29]? = some (aC 2 81 fa') ∧ H[30]? = some (aC 2 81 fs') ∧ ((PartsP k (k ^ (r - 1)) F ∧ fX7_parts h 20 (nI j) = some (1, H)) ∨ (¬ PartsP k (k ^ (r - 1)) F ∧ fX7_parts h 20 (nI j) = some (0, H))) := by
  obtain ⟨hN, hN1⟩ := R.n81
  obtain ⟨_, _, _, _, _, e0⟩ := R.obj
  have kA := uptoI (fun q i H => fX7_parts_w13 q 20 (nI j) (nI (k ^ (r - 1) * k ^ (r - 1))) (nI i) H) (k ^ (r - 1) * k ^ (r - 1)) (fun i H => DQ h H ∧ H[29]? = h[29]? ∧ ∃ f, H[30]? = some (aC 2 81 f) ∧ ∀ x, x < i → (f x ≠ 0 ↔ dgP (k ^ (r - 1)) x)) (by
    rintro q i H hi ⟨D, x29, f, x30, hf⟩
    have RH := R.dq D
    obtain ⟨_, _, _, _, _, f0⟩ := RH.obj
    have hst : ∀ v : Int32, fX7_isOne H 20 (nI j) (nI i) = some (v, H) → x_nar 2 v = v → fX7_parts_w13 (q + 1) 20 (nI j) (nI (k ^ (r - 1) * k ^ (r - 1))) (nI i) H = fX7_parts_w13 q 20 (nI j) (nI (k ^ (r - 1) * k ^ (r - 1))) (nI (i + 1)) (H.set 30 (aC 2 81 (upd f i v))) := by
      intro v h1 h2
      rw [fX7_parts_w13]
      simp only []
      rw [if_leI (by omega) (by omega), if_neg (by omega), o_13 f0]
      simp only [Option.bind_some]
      rw [oo f0, h1, call_ok, sI_of (by decide) x30 (by omega) (by decide), h2, Option.bind_some, nI_p1]
    have hset : ∀ v : Int32, (v ≠ 0 ↔ dgP (k ^ (r - 1)) i) → ∀ x, x < i + 1 → (upd f i v x ≠ 0 ↔ dgP (k ^ (r - 1)) x) := by
      intro v hv x hx
      by_cases z : x = i
      · rw [z, upd_self]; exact hv
      · rw [upd_ne z]; exact hf x (by omega)
    rcases RH.one (show i < 1000 by omega) with ⟨z1, z2⟩ | ⟨z1, z2⟩
    · exact ⟨_, hst 1 z2 nar2_1, D.st (Or.inr rfl), by rw [st_n (by decide)]; exact x29, _, st_s x30, hset 1 ⟨fun _ => z1, fun _ => one_ne⟩⟩
    · exact ⟨_, hst 0 z2 nar2_0, D.st (Or.inr rfl), by rw [st_n (by decide)]; exact x29, _, st_s x30, hset 0 ⟨fun y => absurd rfl y, fun y => absurd y z1⟩⟩) 0 FUEL h (by omega) (fuel_big (by omega)) ⟨DQ.rf, rfl, fs, e30, fun x hx => by omega⟩
  obtain ⟨fu, H1, k1, D1, x29, f1, x30, hf1⟩ := kA
  have hFU : FUEL = 100000 := rfl
  obtain ⟨H2, f2, k2, D2, y29, y30, hf2⟩ := seen_all R FUEL H1 f1 (by omega) D1 x30 (fun x hx hd => (hf1 x hx).mpr hd) (fun x hx w => SeenP.dg hx ((hf1 x hx).mp w))
  rw [x29] at y29
  have kB := uptoI (fun q i H => fX7_parts_w132 q 20 (nI j) (nI (k ^ (r - 1) * k ^ (r - 1))) (nI i) H) (k ^ (r - 1) * k ^ (r - 1)) (fun i H => DQ h H ∧ H[30]? = some (aC 2 81 f2) ∧ ∃ f, H[29]? = some (aC 2 81 f) ∧ ∀ x, x < i → (f x ≠ 0 ↔ dgP (k ^ (r - 1)) x)) (by
    rintro q i H hi ⟨D, x30, f, x29, hf⟩
    have RH := R.dq D
    obtain ⟨_, _, _, _, _, f0⟩ := RH.obj
    have hst : ∀ v : Int32, fX7_isOne H 20 (nI j) (nI i) = some (v, H) → x_nar 2 v = v → fX7_parts_w132 (q + 1) 20 (nI j) (nI (k ^ (r - 1) * k ^ (r - 1))) (nI i) H = fX7_parts_w132 q 20 (nI j) (nI (k ^ (r - 1) * k ^ (r - 1))) (nI (i + 1)) (H.set 29 (aC 2 81 (upd f i v))) := by
      intro v h1 h2
      rw [fX7_parts_w132]
      simp only []
      rw [if_leI (by omega) (by omega), if_neg (by omega), o_12 f0]
      simp only [Option.bind_some]
      rw [oo f0, h1, call_ok, sI_of (by decide) x29 (by omega) (by decide), h2, Option.bind_some, nI_p1]
    have hset : ∀ v : Int32, (v ≠ 0 ↔ dgP (k ^ (r - 1)) i) → ∀ x, x < i + 1 → (upd f i v x ≠ 0 ↔ dgP (k ^ (r - 1)) x) := by
      intro v hv x hx
      by_cases z : x = i
      · rw [z, upd_self]; exact hv
      · rw [upd_ne z]; exact hf x (by omega)
    rcases RH.one (show i < 1000 by omega) with ⟨z1, z2⟩ | ⟨z1, z2⟩
    · exact ⟨_, hst 1 z2 nar2_1, D.st (Or.inl rfl), st_n' (by decide) x30, _, st_s x29, hset 1 ⟨fun _ => z1, fun _ => one_ne⟩⟩
    · exact ⟨_, hst 0 z2 nar2_0, D.st (Or.inl rfl), st_n' (by decide) x30, _, st_s x29, hset 0 ⟨fun y => absurd rfl y, fun y => absurd y z1⟩⟩) 0 FUEL H2 (by omega) (fuel_big (by omega)) ⟨D2, y30, fa, y29.trans e29, fun x hx => by omega⟩
  obtain ⟨fu3, H3, k3, D3', z30, f3, z29, hf3⟩ := kB
  obtain ⟨H4, f4, k4, D4, w30, w29, hf4⟩ := alive_all R FUEL H3 f3 (by omega) D3' z29 (fun x hx hd => (hf3 x hx).mpr hd) (fun x hx w => AliveP.dg hx ((hf3 x hx).mp w))
  rw [z30] at w30
  have R4 := R.dq D4
  obtain ⟨_, _, _, _, _, g0⟩ := R4.obj
  refine ⟨H4, f4, f2, D4, w29, w30, ?_⟩
  have step : ∀ f p, p < k ^ (r - 1) * k ^ (r - 1) → ((¬ dgP (k ^ (r - 1)) p ∧ f2 p ≠ 0 ∧ f4 p ≠ 0) ∧ fX7_parts_w251 (f + 1) 20 (nI j) (nI (k ^ (r - 1) * k ^ (r - 1))) (nI p) H4 = some (1, H4)) ∨ (¬ (¬ dgP (k ^ (r - 1)) p ∧ f2 p ≠ 0 ∧ f4 p ≠ 0) ∧ fX7_parts_w251 (f + 1) 20 (nI j) (nI (k ^ (r - 1) * k ^ (r - 1))) (nI p) H4 = fX7_parts_w251 f 20 (nI j) (nI (k ^ (r - 1) * k ^ (r - 1))) (nI (p + 1)) H4) := by
    intro f p hp
    rw [fX7_parts_w251]
    simp only []
    unfold fX7_parts_b289
    rw [if_leI (by omega) (by omega), if_neg (by omega), oo g0, nI_p1]
    rcases R4.one (show p < 1000 by omega) with ⟨z1, z2⟩ | ⟨z1, z2⟩
    · right
      rw [z2, call_ok, if_neg one_ne]
      exact ⟨fun w => w.1 z1, rfl⟩
    · rw [z2, call_ok, if_pos rfl, o_13 g0, Option.bind_some, aI_of w30 (by omega) (by decide), Option.bind_some]
      by_cases v1 : f2 p = 0
      · right
        rw [if_pos v1]
        exact ⟨fun w => w.2.1 v1, rfl⟩
      · rw [if_neg v1, o_12 g0, Option.bind_some, aI_of w29 (by omega) (by decide), Option.bind_some]
        by_cases v2 : f4 p = 0
        · right
          rw [if_pos v2]
          exact ⟨fun w => w.2.2 v2, rfl⟩
        · left
          rw [if_neg v2, retZ1]
          exact ⟨⟨z1, v1, v2⟩, rfl⟩
  have key := scan_all (fun f p => fX7_parts_w251 f 20 (nI j) (nI (k ^ (r - 1) * k ^ (r - 1))) (nI p) H4) (k ^ (r - 1) * k ^ (r - 1)) (fun p => ¬ dgP (k ^ (r - 1)) p ∧ f2 p ≠ 0 ∧ f4 p ≠ 0) (some (1, H4)) (some (0, H4)) (fun f p hp hb => by
    rcases step f p hp with ⟨z1, -⟩ | ⟨-, z2⟩
    · exact absurd z1 hb
    · exact z2) (fun f p hp hb => by
    rcases step f p hp with ⟨-, z2⟩ | ⟨z1, -⟩
    · exact z2
    · exact absurd hb z1) (fun f => by
    rw [fX7_parts_w251]
    simp only []
    rw [if_leI (by omega) (by omega), if_pos (Nat.le_refl _), retZ0]) 0 FUEL (by omega) (fuel_big (by omega))
  have hrun : fX7_parts h 20 (nI j) = fX7_parts_w251 FUEL 20 (nI j) (nI (k ^ (r - 1) * k ^ (r - 1))) (nI 0) H4 := by
    unfold fX7_parts
    rw [oo e0, R.ov, call_ok, setv_ok, pk_mul]
    refine Eq.trans (show fX7_parts_w13 FUEL 20 (nI j) (nI (k ^ (r - 1) * k ^ (r - 1))) (nI 0) h = _ from k1) ?_
    rw [fX7_parts_w13]
    simp only []
    rw [if_leI (by omega) (by omega), if_pos (Nat.le_refl _)]
    unfold fX7_parts_b39
    rw [k2]
    unfold fX7_parts_b129
    refine Eq.trans (show fX7_parts_w132 FUEL 20 (nI j) (nI (k ^ (r - 1) * k ^ (r - 1))) (nI 0) H2 = _ from k3) ?_
    rw [fX7_parts_w132]
    simp only []
    rw [if_leI (by omega) (by omega), if_pos (Nat.le_refl _)]
    unfold fX7_parts_b158
    rw [k4]
    unfold fX7_parts_b248
    rw [l0]
  rw [hrun]
  rcases key with ⟨v1, v2⟩ | ⟨⟨p, -, v1, v2, v3, v4⟩, v5⟩
  · right
    refine ⟨fun ⟨p, q1, q2, q3, q4⟩ => v1 p (by omega) q1 ⟨q2, (hf2 p q1).mpr q3, (hf4 p q1).mpr q4⟩, v2⟩
  · left
    exact ⟨⟨p, v1, v2, (hf2 p v1).mp v3, (hf4 p v1).mp v4⟩, v5⟩
end MPA

section CW
variable {SV : SVP} {h : Hp} {tl : Nat} {tp : Nat → Nat} {sl : SL} {ol : Nat} {of : Nat → Nat} {rd tr su : Nat}
/-- a row of cells for the few-cells calls -/
def Few (k tl : Nat) (tp : Nat → Nat) : Prop := 1 ≤ tl ∧ tl ≤ 20 ∧ Sts k tl tp
/-- how many rows lead to the tape -/
def nBeh (k r : Nat) (F : Nat → Nat) (n : Nat) (c : Nat → Nat) : Nat := sm (wy k (k ^ (r - 1)) F c g1N n 0) (k ^ (r - 1))
def fBeh (k r : Nat) (F : Nat → Nat) (n : Nat) (c : Nat → Nat) : Nat → Nat := frN k r F c g1N n (fnd (fun v => 0 < wy k (k ^ (r - 1)) F c g1N n 0 v) 0 (k ^ (r - 1)) 0)
/-- how many rings lead to it -/
def nRng (k r : Nat) (F : Nat → Nat) (n : Nat) (c : Nat → Nat) : Nat := sm (fun v => wy k (k ^ (r - 1)) F c (gvN v) n 0 v) (k ^ (r - 1))
def fRng (k r : Nat) (F : Nat → Nat) (n : Nat) (c : Nat → Nat) : Nat → Nat := frN k r F c (gvN (fnd (fun v => 0 < wy k (k ^ (r - 1)) F c (gvN v) n 0 v) 0 (k ^ (r - 1)) 0)) n (fnd (fun v => 0 < wy k (k ^ (r - 1)) F c (gvN v) n 0 v) 0 (k ^ (r - 1)) 0)
theorem nSm_lt {k m : Nat} {f : Nat → Nat} {n : Nat} (hk : k ≤ 4) (hm : m ≤ 9) (hn : n ≤ 20) (hf : ∀ v, v < m → f v ≤ k ^ n) : sm f m < 2 ^ 50 := by
  have h1 : sm f m ≤ sm (fun _ => k ^ n) m := sm_le hf
  rw [sm_const] at h1
  have h2 := pow_40 hk hn
  have h3 : m * k ^ n ≤ 9 * 2 ^ 40 := Nat.mul_le_mul hm h2
  omega
theorem sm_no {f : Nat → Nat} {n : Nat} (hf : ∀ v, v < n → ¬ 0 < f v) : sm f n = 0 := by
  rw [sm_cong (g := fun _ => 0) (fun i hi => by have := hf i hi; omega), sm_zero]
theorem c_behind (I : CInv SV h tl tp sl ol of rd tr su) (s : Int32) : ((∀ k r F, ruleOf sl s = some (k, r, F) → ¬ Few k tl tp) ∧ ∃ h', fX6_behind h 4 s = some (-1, h') ∧ CInv SV h' 0 tp sl ol of rd tr su ∧ Up h h') ∨ (∃ k r F h', ruleOf sl s = some (k, r, F) ∧ GR k r F ∧ Few k tl tp ∧ fX6_behind h 4 s = some (lN (nBeh k r F tl tp), h') ∧ CInv SV h' 0 tp sl (if nBeh k r F tl tp = 0 then ol else r - 1 + tl) (if nBeh k r F tl tp = 0 then of else fBeh k r F tl tp) rd tr su ∧ Up h h') := by
  obtain ⟨h0, he, th, sf, tf, uf, c0, I0, u0, e4, a4, e5, a5, e6, a6, e7, a7, cf, e2, e3, a1, a2, a3, aT, aS, aL⟩ := c_pre I
  unfold fX6_behind
  rw [c0, call_ok, mok e4]
  rcases ruleIn_st e4 e5 a5 s with ⟨q, e⟩ | ⟨a, k, r, F, q, e, ha, g, R⟩
  · left
    rw [e, call_ok, if_pos rfl]
    exact ⟨(fun k r F h9 => by rw [q] at h9; cases h9), _, rfl, I0, u0⟩
  obtain ⟨n1, n2, n3, n4, n5⟩ := g.nums
  obtain ⟨g1, g2, g3, g4, gF⟩ := id g
  rw [e, call_ok, if_neg (by omega), rk R]
  simp only [Option.bind_some]
  rw [mok e4]
  rcases areFew_ok e4 e6 a1 (show k < 1000 by omega) a6 with ⟨b1, b2⟩ | ⟨b1, b2⟩
  · right
    rw [b2, call_ok, if_neg one_ne, m9 e4]
    simp only [Option.bind_some]
    rw [m1 e4]
    simp only [Option.bind_some]
    obtain ⟨wr, ws, e11⟩ := cf.2.2.2.1
    obtain ⟨wf, e12⟩ := cf.2.2.2.2.1
    obtain ⟨f', st, d1, d2, d3⟩ := rowsBehind_ok g ha R (c := tp) e11 e12 e6 b1.2.1 (fun i hi => ⟨(a6 i hi).1, by have := (a6 i hi).2; omega⟩)
    rw [wok e11, d1, call_ok]
    have hbd : nBeh k r F tl tp < 2 ^ 50 := nSm_lt g2 n2 b1.2.1 (fun v _ => wy_le (fun _ => Nat.le_refl _) tl 0 v)
    have cf1 : CFix ((h0.set 11 (wo a st)).set 12 (lC 189 f')) := CFix.s12 (CFix.s11 cf)
    rcases d3 with ⟨z1, rfl⟩ | ⟨v0, z1, z2, z3, rfl⟩
    · have hz : nBeh k r F tl tp = 0 := sm_no z1
      refine ⟨k, r, F, (h0.set 11 (wo a (-1))).set 12 (lC 189 f'), q, g, b1, ?_, ?_, (u0.tr (Up.set (by decide))).tr (Up.set (by decide))⟩
      · show (if lg_cmp (lN (nBeh k r F tl tp)) 0 ≤ 0 then _ else _) = _
        rw [if_pos ((lN_le0 (by omega)).mpr hz)]
        rfl
      · rw [if_pos hz, if_pos hz]
        exact (I0.scr (by simp) (fun i hi => by rw [st_n (by omega), st_n (by omega)]) cf1).1
    · have hz : nBeh k r F tl tp ≠ 0 := by
        have h1 := sm_part (f := wy k (k ^ (r - 1)) F tp g1N tl 0) z1
        unfold nBeh
        omega
      have hv : fnd (fun v => 0 < wy k (k ^ (r - 1)) F tp g1N tl 0 v) 0 (k ^ (r - 1)) 0 = v0 := fnd_eq (p := fun v => 0 < wy k (k ^ (r - 1)) F tp g1N tl 0 v) z2 _ _ (Nat.zero_le _) (by omega) (fun u _ hu => z3 u hu)
      have R1 : RuleAt ((h0.set 11 (wo a (nI v0))).set 12 (lC 189 f')) a (a + 1) k r F := (R.set (by omega) (by omega)).set (by omega) (by omega)
      have wf := writeFirst_ok g ha R1 z1 (st_n' (by decide) (st_s e11)) (st_s (st_n' (by decide) e12)) (st_n' (by decide) (st_n' (by decide) e6)) (st_n' (by decide) (st_n' (by decide) e7)) b1.2.1 (c := tp) (G := g1N) (fun i hi => ⟨(a6 i hi).1, by have := (a6 i hi).2; omega⟩) (fun _ => Nat.le_refl _) d2
      refine ⟨k, r, F, (((h0.set 11 (wo a (nI v0))).set 12 (lC 189 f')).set 7 (aC 0 512 (fillN (fun j => nI (frN k r F tp g1N tl v0 j)) (r - 1 + tl) uf))).set 4 (mo (nI 0) (nI (r - 1 + tl)) (nI rd) he th tr su), q, g, b1, ?_, ?_, (((u0.tr (Up.set (by decide))).tr (Up.set (by decide))).tr (Up.set (by decide))).tr (Up.set (by decide))⟩
      · show (if lg_cmp (lN (nBeh k r F tl tp)) 0 ≤ 0 then _ else _) = _
        rw [if_neg (fun y => hz ((lN_le0 (by omega)).mp y)), m9 (st_n' (by decide) (st_n' (by decide) e4))]
        simp only [Option.bind_some]
        rw [m1 (st_n' (by decide) (st_n' (by decide) e4))]
        simp only [Option.bind_some]
        rw [m3 (st_n' (by decide) (st_n' (by decide) e4))]
        simp only [Option.bind_some]
        rw [wok (st_n' (by decide) (st_s e11)), wf, call_ok, p4 (st_n' (by decide) (st_n' (by decide) (st_n' (by decide) e4)))]
        rfl
      · rw [if_neg hz, if_neg hz]
        have hb : (fun j => frN k r F tp g1N tl v0 j) = fBeh k r F tl tp := by
          unfold fBeh
          rw [hv]
        rw [← hb]
        refine I0.re ((((Up.set (by decide)).tr (Up.set (by decide))).tr (Up.set (by decide))).tr (Up.set (by decide))) ?_ (st_s (st_n' (by decide) (st_n' (by decide) (st_n' (by decide) e4)))) (Nat.le_refl _) (by have := b1.2.1; omega) a3 a4 (st_n' (by decide) (st_s (st_n' (by decide) (st_n' (by decide) e7)))) (fun i hi => ⟨by simp [fillN, hi], ?_⟩) ((cf1.o (by decide)).o (by decide))
        · rintro i (rfl | rfl | rfl | rfl) <;> rw [st_n (by decide), st_n (by decide), st_n (by decide), st_n (by decide)]
        · have := frN_lt (k := k) (r := r) (F := F) (c := tp) (G := g1N) (n := tl) (v0 := v0) (j := i) (by omega)
          omega
  · left
    rw [b2, call_ok, if_pos rfl]
    exact ⟨fun k' r' F' h9 h8 => by rw [q] at h9; cases h9; exact b1 h8, _, rfl, I0, u0⟩
theorem c_ringsBehind (I : CInv SV h tl tp sl ol of rd tr su) (s : Int32) : ((∀ k r F, ruleOf sl s = some (k, r, F) → ¬ Few k tl tp) ∧ ∃ h', fX6_ringsBehind h 4 s = some (-1, h') ∧ CInv SV h' 0 tp sl ol of rd tr su ∧ Up h h') ∨ (∃ k r F h', ruleOf sl s = some (k, r, F) ∧ GR k r F ∧ Few k tl tp ∧ fX6_ringsBehind h 4 s = some (lN (nRng k r F tl tp), h') ∧ CInv SV h' 0 tp sl (if nRng k r F tl tp = 0 then ol else tl) (if nRng k r F tl tp = 0 then of else fRng k r F tl tp) rd tr su ∧ Up h h') := by
  obtain ⟨h0, he, th, sf, tf, uf, c0, I0, u0, e4, a4, e5, a5, e6, a6, e7, a7, cf, e2, e3, a1, a2, a3, aT, aS, aL⟩ := c_pre I
  unfold fX6_ringsBehind
  rw [c0, call_ok, mok e4]
  rcases ruleIn_st e4 e5 a5 s with ⟨q, e⟩ | ⟨a, k, r, F, q, e, ha, g, R⟩
  · left
    rw [e, call_ok, if_pos rfl]
    exact ⟨(fun k r F h9 => by rw [q] at h9; cases h9), _, rfl, I0, u0⟩
  obtain ⟨n1, n2, n3, n4, n5⟩ := g.nums
  obtain ⟨g1, g2, g3, g4, gF⟩ := id g
  rw [e, call_ok, if_neg (by omega), rk R]
  simp only [Option.bind_some]
  rw [mok e4]
  rcases areFew_ok e4 e6 a1 (show k < 1000 by omega) a6 with ⟨b1, b2⟩ | ⟨b1, b2⟩
  · right
    rw [b2, call_ok, if_neg one_ne, m9 e4]
    simp only [Option.bind_some]
    rw [m1 e4]
    simp only [Option.bind_some]
    obtain ⟨wr, ws, e11⟩ := cf.2.2.2.1
    obtain ⟨wf, e12⟩ := cf.2.2.2.2.1
    obtain ⟨f', st, d1, d3⟩ := closedBehind_ok g ha R (c := tp) e11 e12 e6 b1.2.1 (fun i hi => ⟨(a6 i hi).1, by have := (a6 i hi).2; omega⟩)
    rw [wok e11, d1, call_ok]
    have hbd : nRng k r F tl tp < 2 ^ 50 := nSm_lt g2 n2 b1.2.1 (fun v _ => wy_le (gvN_le v) tl 0 v)
    have cf1 : CFix ((h0.set 11 (wo a st)).set 12 (lC 189 f')) := CFix.s12 (CFix.s11 cf)
    rcases d3 with ⟨z1, rfl⟩ | ⟨v0, z1, z2, z3, rfl, d2⟩
    · have hz : nRng k r F tl tp = 0 := sm_no z1
      refine ⟨k, r, F, (h0.set 11 (wo a (-1))).set 12 (lC 189 f'), q, g, b1, ?_, ?_, (u0.tr (Up.set (by decide))).tr (Up.set (by decide))⟩
      · show (if lg_cmp (lN (nRng k r F tl tp)) 0 ≤ 0 then _ else _) = _
        rw [if_pos ((lN_le0 (by omega)).mpr hz)]
        rfl
      · rw [if_pos hz, if_pos hz]
        exact (I0.scr (by simp) (fun i hi => by rw [st_n (by omega), st_n (by omega)]) cf1).1
    · have hz : nRng k r F tl tp ≠ 0 := by
        have h1 := sm_part (f := fun v => wy k (k ^ (r - 1)) F tp (gvN v) tl 0 v) z1
        unfold nRng
        omega
      have hv : fnd (fun v => 0 < wy k (k ^ (r - 1)) F tp (gvN v) tl 0 v) 0 (k ^ (r - 1)) 0 = v0 := fnd_eq (p := fun v => 0 < wy k (k ^ (r - 1)) F tp (gvN v) tl 0 v) z2 _ _ (Nat.zero_le _) (by omega) (fun u _ hu => z3 u hu)
      have R1 : RuleAt ((h0.set 11 (wo a (nI v0))).set 12 (lC 189 f')) a (a + 1) k r F := (R.set (by omega) (by omega)).set (by omega) (by omega)
      have wf := writeFirst_ok g ha R1 z1 (st_n' (by decide) (st_s e11)) (st_s (st_n' (by decide) e12)) (st_n' (by decide) (st_n' (by decide) e6)) (st_n' (by decide) (st_n' (by decide) e7)) b1.2.1 (c := tp) (G := gvN v0) (fun i hi => ⟨(a6 i hi).1, by have := (a6 i hi).2; omega⟩) (gvN_le v0) d2
      refine ⟨k, r, F, (((h0.set 11 (wo a (nI v0))).set 12 (lC 189 f')).set 7 (aC 0 512 (fillN (fun j => nI (frN k r F tp (gvN v0) tl v0 j)) (r - 1 + tl) uf))).set 4 (mo (nI 0) (nI tl) (nI rd) he th tr su), q, g, b1, ?_, ?_, (((u0.tr (Up.set (by decide))).tr (Up.set (by decide))).tr (Up.set (by decide))).tr (Up.set (by decide))⟩
      · show (if lg_cmp (lN (nRng k r F tl tp)) 0 ≤ 0 then _ else _) = _
        rw [if_neg (fun y => hz ((lN_le0 (by omega)).mp y)), m9 (st_n' (by decide) (st_n' (by decide) e4))]
        simp only [Option.bind_some]
        rw [m1 (st_n' (by decide) (st_n' (by decide) e4))]
        simp only [Option.bind_some]
        rw [m3 (st_n' (by decide) (st_n' (by decide) e4))]
        simp only [Option.bind_some]
        rw [wok (st_n' (by decide) (st_s e11)), wf, call_ok, p4 (st_n' (by decide) (st_n' (by decide) (st_n' (by decide) e4)))]
        rfl
      · rw [if_neg hz, if_neg hz]
        have hb : (fun j => frN k r F tp (gvN v0) tl v0 j) = fRng k r F tl tp := by
          unfold fRng
          rw [hv]
        rw [← hb]
        refine I0.re ((((Up.set (by decide)).tr (Up.set (by decide))).tr (Up.set (by decide))).tr (Up.set (by decide))) ?_ (st_s (st_n' (by decide) (st_n' (by decide) (st_n' (by decide) e4)))) (Nat.le_refl _) (by have := b1.2.1; omega) a3 a4 (st_n' (by decide) (st_s (st_n' (by decide) (st_n' (by decide) e7)))) (fun i hi => ⟨by simp [fillN, show i < r - 1 + tl by omega], ?_⟩) ((cf1.o (by decide)).o (by decide))
        · rintro i (rfl | rfl | rfl | rfl) <;> rw [st_n (by decide), st_n (by decide), st_n (by decide), st_n (by decide)]
        · have := frN_lt (k := k) (r := r) (F := F) (c := tp) (G := gvN v0) (n := tl) (v0 := v0) (j := i) (by omega)
          omega
  · left
    rw [b2, call_ok, if_pos rfl]
    exact ⟨fun k' r' F' h9 h8 => by rw [q] at h9; cases h9; exact b1 h8, _, rfl, I0, u0⟩
end CW

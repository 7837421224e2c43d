/-- byte j of a number, the highest first -/
def bt (x : Int32) (j : Nat) : Nat := x.toBitVec.toNat / 2 ^ (24 - 8 * j) % 256
def sf4 (j : Nat) : Int32 := if j = 0 then 24 else if j = 1 then 16 else if j = 2 then 8 else if j = 3 then 0 else -8
theorem byte_cls (x : Int32) {j : Nat} (hj : j < 4) : ((x.toUInt32 >>> ((sf4 j).toUInt32 &&& Int32.toUInt32 31)).toInt32 &&& (255 : Int32)) = nI (bt x j) := by
  have hs : (((sf4 j).toUInt32 &&& Int32.toUInt32 31).toBitVec % 32).toNat = 24 - 8 * j := by
    have : j = 0 ∨ j = 1 ∨ j = 2 ∨ j = 3 := by omega
    rcases this with rfl | rfl | rfl | rfl <;> decide
  rw [pk_and _ 8 (by decide), pk_ushr x (sf4 j) (24 - 8 * j) hs]
  rfl
theorem bt_lt (x : Int32) (j : Nat) : bt x j < 256 := Nat.mod_lt _ (by decide)
theorem sf4_next {j : Nat} (hj : j < 4) : sf4 j + (-8) = sf4 (j + 1) := by
  have : j = 0 ∨ j = 1 ∨ j = 2 ∨ j = 3 := by omega
  rcases this with rfl | rfl | rfl | rfl <;> decide
theorem sf4_nn {j : Nat} (hj : j < 4) : ¬ sf4 j < 0 := by
  have : j = 0 ∨ j = 1 ∨ j = 2 ∨ j = 3 := by omega
  rcases this with rfl | rfl | rfl | rfl <;> decide
def putB (tf : Nat → Int32) (t : Nat) (x : Int32) (n : Nat) : Nat → Int32 := fun i => if t ≤ i ∧ i < t + n then nI (bt x (i - t)) else tf i
theorem putB_0 {tf : Nat → Int32} {t : Nat} {x : Int32} : putB tf t x 0 = tf := by
  funext i
  unfold putB
  rw [if_neg (by omega)]
theorem putB_s {tf : Nat → Int32} {t n : Nat} {x : Int32} : upd (putB tf t x n) (t + n) (nI (bt x n)) = putB tf t x (n + 1) := by
  funext i
  unfold upd putB
  by_cases q : i = t + n
  · subst q
    rw [if_pos rfl, if_pos (by omega), show t + n - t = n by omega]
  · rw [if_neg q]
    by_cases q2 : t ≤ i ∧ i < t + n
    · rw [if_pos q2, if_pos (by omega)]
    · rw [if_neg q2, if_neg (by omega)]
theorem putBytes_ok {h : Hp} {t : Nat} {ol rl : Int32} {he th tr su : Nat} {tf : Nat → Int32} (x : Int32) (e4 : h[4]? = some (mo (nI t) ol rl he th tr su)) (e6 : h[6]? = some (aC 0 100 tf)) (ht : t + 4 ≤ 100) : fX6_putBytes h 4 x = some ((h.set 6 (aC 0 100 (putB tf t x 4))).set 4 (mo (nI (t + 4)) ol rl he th tr su)) := by
  unfold fX6_putBytes
  have key := upto (fun q j => fX6_putBytes_w3 q 4 x (sf4 j) ((h.set 6 (aC 0 100 (putB tf t x j))).set 4 (mo (nI (t + j)) ol rl he th tr su))) 4 (some ((h.set 6 (aC 0 100 (putB tf t x 4))).set 4 (mo (nI (t + 4)) ol rl he th tr su))) (fun q j hj => by
    have f4 : ((h.set 6 (aC 0 100 (putB tf t x j))).set 4 (mo (nI (t + j)) ol rl he th tr su))[4]? = some (mo (nI (t + j)) ol rl he th tr su) := st_s (st_n' (by decide) e4)
    have f6 : ((h.set 6 (aC 0 100 (putB tf t x j))).set 4 (mo (nI (t + j)) ol rl he th tr su))[6]? = some (aC 0 100 (putB tf t x j)) := st_n' (by decide) (st_s e6)
    rw [fX6_putBytes_w3]
    simp only []
    rw [if_neg (sf4_nn hj), m2 f4]
    simp only [Option.bind_some]
    rw [show (100 : Int32) = nI 100 from rfl, if_leI (by omega) (by omega), if_neg (by omega), m1 f4]
    simp only [Option.bind_some]
    rw [byte_cls x hj, sI_of (by decide) f6 (by omega) (by decide), x_nar0, putB_s]
    simp only [Option.bind_some]
    have f4' : (((h.set 6 (aC 0 100 (putB tf t x j))).set 4 (mo (nI (t + j)) ol rl he th tr su)).set 6 (aC 0 100 (putB tf t x (j + 1))))[4]? = some (mo (nI (t + j)) ol rl he th tr su) := st_n' (by decide) f4
    rw [m2 f4']
    simp only [Option.bind_some]
    rw [p2 f4']
    simp only [Option.bind_some]
    rw [nI_p1, sf4_next hj, List.set_comm _ _ (show 4 ≠ 6 by decide), List.set_set, List.set_set, Nat.add_assoc]) (fun q => by
    rw [fX6_putBytes_w3]
    simp only []
    rw [if_pos (by decide)]) 0 FUEL (by omega) (fuel_big (by omega))
  rw [putB_0, Nat.add_zero, st_id e6, st_id e4] at key
  exact key
/-- all but the object and the tape stays -/
def D46 (h h' : Hp) : Prop := h'.length = h.length ∧ ∀ i, i ≠ 4 → i ≠ 6 → h'[i]? = h[i]?
theorem D46.tr {h h1 h2 : Hp} (a : D46 h h1) (b : D46 h1 h2) : D46 h h2 := ⟨b.1.trans a.1, fun i x y => (b.2 i x y).trans (a.2 i x y)⟩
theorem D46.of {h : Hp} {c d : HC} : D46 h ((h.set 6 c).set 4 d) := ⟨by simp, fun i x y => by rw [st_n (Ne.symm x), st_n (Ne.symm y)]⟩
theorem D46.up {h h' : Hp} (a : D46 h h') : Up h h' := ⟨by rw [a.1]; exact Nat.le_refl _, fun i c hi e => by rw [a.2 i (by omega) (by omega)]; exact e⟩
theorem put_next {h : Hp} {t : Nat} {ol rl : Int32} {he th tr su : Nat} {tf : Nat → Int32} (x : Int32) (e4 : h[4]? = some (mo (nI t) ol rl he th tr su)) (e6 : h[6]? = some (aC 0 100 tf)) (ht : t + 4 ≤ 100) : ∃ h', oK h 4 6 (fX6_putBytes h 4 x) = some h' ∧ h'[4]? = some (mo (nI (t + 4)) ol rl he th tr su) ∧ h'[6]? = some (aC 0 100 (putB tf t x 4)) ∧ D46 h h' :=
  ⟨_, (mok e4).trans (putBytes_ok x e4 e6 ht), st_s (st_n' (by decide) e4), st_n' (by decide) (st_s e6), D46.of⟩
/-- the bytes of five numbers -/
def b20 (a b c d e : Int32) (j : Nat) : Nat := bt (if j / 4 = 0 then a else if j / 4 = 1 then b else if j / 4 = 2 then c else if j / 4 = 3 then d else e) (j % 4)
def feedT (tl : Nat) (tp : Nat → Nat) (a b c d e : Int32) (i : Nat) : Nat := if i < tl then tp i else b20 a b c d e (i - tl)
theorem b20_at {a b c d e : Int32} {q j : Nat} (hq : q < 5) (h1 : 4 * q ≤ j) (h2 : j < 4 * q + 4) : b20 a b c d e j = bt (if q = 0 then a else if q = 1 then b else if q = 2 then c else if q = 3 then d else e) (j - 4 * q) := by
  unfold b20
  rw [show j / 4 = q by omega, show j % 4 = j - 4 * q by omega]
section CFE
variable {SV : SVP} {h : Hp} {tl : Nat} {tp : Nat → Nat} {sl : SL} {ol : Nat} {of : Nat → Nat} {rd tr su : Nat}
theorem c_feed (I : CInv SV h tl tp sl ol of rd tr su) (a b c d e : Int32) : (80 < tl ∧ fX6_feed h 4 a b c d e = some (-1, h)) ∨ (tl ≤ 80 ∧ ∃ h', fX6_feed h 4 a b c d e = some (nI (tl + 20), h') ∧ CInv SV h' (tl + 20) (feedT tl tp a b c d e) sl ol of rd tr su ∧ Up h h') := by
  obtain ⟨he, th, sf, tf, uf, e2, e3, e4, a1, a2, a3, a4, e5, a5, e6, a6, e7, a7, cf, aT, aS, aL⟩ := I
  by_cases q : tl ≤ 80
  · right
    refine ⟨q, ?_⟩
    obtain ⟨h1, p1, f4, f6, d1⟩ := put_next a e4 e6 (by omega)
    obtain ⟨h2, p2, f4, f6, d2⟩ := put_next b f4 f6 (by omega)
    obtain ⟨h3, p3, f4, f6, d3⟩ := put_next c f4 f6 (by omega)
    obtain ⟨h4, p4, f4, f6, d4⟩ := put_next d f4 f6 (by omega)
    obtain ⟨h5, p5, f4, f6, d5⟩ := put_next e f4 f6 (by omega)
    have D := (((d1.tr d2).tr d3).tr d4).tr d5
    refine ⟨h5, ?_, ⟨he, th, sf, _, uf, (D.2 2 (by decide) (by decide)).trans e2, (D.2 3 (by decide) (by decide)).trans e3, by rw [f4, show tl + 4 + 4 + 4 + 4 + 4 = tl + 20 by omega], by omega, a2, a3, a4, (D.2 5 (by decide) (by decide)).trans e5, fun s hs => (a5 s hs).up D.up, f6, fun i hi => ?_, (D.2 7 (by decide) (by decide)).trans e7, a7, ?_, aT.up D.up, aS.up D.up, by rw [D.1]; exact aL⟩, D.up⟩
    · unfold fX6_feed
      rw [m2 e4]
      simp only [Option.bind_some]
      rw [show (80 : Int32) = nI 80 from rfl, if_leI (by omega) (by omega), if_pos q, p1]
      simp only [Option.bind_some]
      rw [p2]
      simp only [Option.bind_some]
      rw [p3]
      simp only [Option.bind_some]
      rw [p4]
      simp only [Option.bind_some]
      rw [p5]
      simp only [Option.bind_some]
      rw [m2 f4]
      simp only [Option.bind_some]
    · refine ⟨?_, ?_⟩
      · unfold feedT
        by_cases i0 : i < tl
        · rw [if_pos i0]
          simp only [putB]
          rw [if_neg (by omega), if_neg (by omega), if_neg (by omega), if_neg (by omega), if_neg (by omega), (a6 i i0).1]
        rw [if_neg i0]
        simp only [putB]
        by_cases i1 : i < tl + 4
        · rw [if_neg (by omega), if_neg (by omega), if_neg (by omega), if_neg (by omega), if_pos (by omega), b20_at (q := 0) (by omega) (by omega) (by omega)]
          rfl
        by_cases i2 : i < tl + 8
        · rw [if_neg (by omega), if_neg (by omega), if_neg (by omega), if_pos (by omega), b20_at (q := 1) (by omega) (by omega) (by omega), show i - tl - 4 * 1 = i - (tl + 4) by omega]
          rfl
        by_cases i3 : i < tl + 12
        · rw [if_neg (by omega), if_neg (by omega), if_pos (by omega), b20_at (q := 2) (by omega) (by omega) (by omega), show i - tl - 4 * 2 = i - (tl + 4 + 4) by omega]
          rfl
        by_cases i4 : i < tl + 16
        · rw [if_neg (by omega), if_pos (by omega), b20_at (q := 3) (by omega) (by omega) (by omega), show i - tl - 4 * 3 = i - (tl + 4 + 4 + 4) by omega]
          rfl
        · rw [if_pos (by omega), b20_at (q := 4) (by omega) (by omega) (by omega), show i - tl - 4 * 4 = i - (tl + 4 + 4 + 4 + 4) by omega]
          rfl
      · unfold feedT
        split
        · exact (a6 i (by assumption)).2
        · exact bt_lt _ _
    · obtain ⟨g8, g9, g10, g11, g12, g13, g14, g15, g16, g17, g18, g19⟩ := cf
      exact ⟨g8.imp fun _ z => (D.2 8 (by decide) (by decide)).trans z, g9.imp fun _ z => (D.2 9 (by decide) (by decide)).trans z, g10.imp fun _ z => (D.2 10 (by decide) (by decide)).trans z, g11.imp fun _ z => z.imp fun _ z => (D.2 11 (by decide) (by decide)).trans z, g12.imp fun _ z => (D.2 12 (by decide) (by decide)).trans z, g13.imp fun _ z => (D.2 13 (by decide) (by decide)).trans z, g14.imp fun _ z => (D.2 14 (by decide) (by decide)).trans z, g15.imp fun _ z => (D.2 15 (by decide) (by decide)).trans z, g16.imp fun _ z => (D.2 16 (by decide) (by decide)).trans z, g17.imp fun _ z => (D.2 17 (by decide) (by decide)).trans z, (D.2 18 (by decide) (by decide)).trans g18, g19.imp fun _ z => (D.2 19 (by decide) (by decide)).trans z⟩
  · left
    refine ⟨by omega, ?_⟩
    unfold fX6_feed
    rw [m2 e4]
    simp only [Option.bind_some]
    rw [show (80 : Int32) = nI 80 from rfl, if_leI (by omega) (by omega), if_neg q]
end CFE

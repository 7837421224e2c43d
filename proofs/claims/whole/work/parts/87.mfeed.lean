theorem byte_m (x : Int32) {j : Nat} (hj : j < 4) : (x >>> (sf4 j &&& 31)).toInt8.toInt32 = byM (bt x j) := by
  have hs : ((sf4 j &&& 31).toBitVec.smod 32).toNat = 24 - 8 * j := by
    have : j = 0 ∨ j = 1 ∨ j = 2 ∨ j = 3 := by omega
    rcases this with rfl | rfl | rfl | rfl <;> decide
  unfold byM
  congr 1
  apply Int8.toBitVec_inj.mp
  rw [Int32.toBitVec_toInt8, Int32.toBitVec_toInt8, Int32.toBitVec_shiftRight]
  apply BitVec.eq_of_getLsbD_eq
  intro i hi
  have h1 : (nI (bt x j)).toBitVec = BitVec.ofNat 32 (bt x j) := rfl
  rw [h1, BitVec.getLsbD_signExtend, BitVec.getLsbD_signExtend, if_pos (show i < 32 by omega), if_pos (show i < 32 by omega)]
  show (decide (i < 8) && (x.toBitVec.sshiftRight ((sf4 j &&& 31).toBitVec.smod 32).toNat).getLsbD i) = _
  rw [hs, BitVec.getLsbD_sshiftRight, BitVec.getLsbD_ofNat]
  unfold bt
  rw [show (256 : Nat) = 2 ^ 8 from rfl, Nat.testBit_mod_two_pow, Nat.testBit_div_two_pow]
  have h2 : i + (24 - 8 * j) < 32 := by omega
  have h3 : ¬ 32 ≤ i := by omega
  simp [hi, h2, h3, show i < 32 by omega, BitVec.getLsbD, Nat.add_comm]
theorem nar_by (x : Int32) {j : Nat} (hj : j < 4) : x_nar 1 ((x >>> (sf4 j &&& 31)).toInt8.toInt32) = byM (bt x j) := by
  rw [byte_m x hj]
  have hb := bt_lt x j
  generalize bt x j = b at hb ⊢
  revert b
  unfold byM
  decide +kernel
/-- the tape of the model behind n bytes of x -/
def putM (tf : Nat → Int32) (t : Nat) (x : Int32) (n : Nat) : Nat → Int32 := fun i => if t ≤ i ∧ i < t + n then byM (bt x (i - t)) else tf i
theorem putM_0 {tf : Nat → Int32} {t : Nat} {x : Int32} : putM tf t x 0 = tf := by
  funext i
  unfold putM
  rw [if_neg (by omega)]
theorem putM_s {tf : Nat → Int32} {t n : Nat} {x : Int32} : upd (putM tf t x n) (t + n) (byM (bt x n)) = putM tf t x (n + 1) := by
  funext i
  unfold upd putM
  by_cases q : i = t + n
  · subst q
    rw [if_pos rfl, if_pos (by omega), Nat.add_sub_cancel_left]
  · rw [if_neg q]
    by_cases q2 : t ≤ i ∧ i < t + n
    · rw [if_pos q2, if_pos (by omega)]
    · rw [if_neg q2, if_neg (by omega)]
theorem four_m {h : Hp} {t : Nat} {thr sz om rd : Int32} {tf : Nat → Int32} (x : Int32) (e0 : h[20]? = some (mob thr (nI t) sz om rd)) (e1 : h[21]? = some (aC 1 100 tf)) (ht : t + 4 ≤ 100) : fX7_four h 20 x = some ((h.set 21 (aC 1 100 (putM tf t x 4))).set 20 (mob thr (nI (t + 4)) sz om rd)) := by
  unfold fX7_four
  have key := upto (fun q j => fX7_four_w3 q 20 x (sf4 j) ((h.set 21 (aC 1 100 (putM tf t x j))).set 20 (mob thr (nI (t + j)) sz om rd))) 4 (some ((h.set 21 (aC 1 100 (putM tf t x 4))).set 20 (mob thr (nI (t + 4)) sz om rd))) (fun q j hj => by
    have f0 : ((h.set 21 (aC 1 100 (putM tf t x j))).set 20 (mob thr (nI (t + j)) sz om rd))[20]? = some (mob thr (nI (t + j)) sz om rd) := st_s (st_n' (by decide) e0)
    have f1 : ((h.set 21 (aC 1 100 (putM tf t x j))).set 20 (mob thr (nI (t + j)) sz om rd))[21]? = some (aC 1 100 (putM tf t x j)) := st_n' (by decide) (st_s e1)
    rw [fX7_four_w3]
    simp only []
    rw [if_neg (sf4_nn hj), o_1 f0]
    simp only [Option.bind_some]
    rw [o_2 f0]
    simp only [Option.bind_some]
    rw [sI_of (by decide) f1 (by omega) (by decide), nar_by x hj, putM_s]
    simp only [Option.bind_some]
    have f0' : (((h.set 21 (aC 1 100 (putM tf t x j))).set 20 (mob thr (nI (t + j)) sz om rd)).set 21 (aC 1 100 (putM tf t x (j + 1))))[20]? = some (mob thr (nI (t + j)) sz om rd) := st_n' (by decide) f0
    rw [o_2 f0']
    simp only [Option.bind_some]
    rw [q_2 f0']
    simp only [Option.bind_some]
    rw [nI_p1, sf4_next hj, List.set_comm _ _ (show 20 ≠ 21 by decide), List.set_set, List.set_set, Nat.add_assoc]) (fun q => by
    rw [fX7_four_w3]
    simp only []
    rw [if_pos (by decide)]) 0 FUEL (by omega) (fuel_big (by omega))
  rw [putM_0, Nat.add_zero, st_id e1, st_id e0] at key
  exact key

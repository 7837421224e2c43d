/-! octet's case, and the law's loop. kB, nB: what the trail and the survey still cost. -/
section LD
variable {g : XG} {p : Program} {l : Launch} {e : Env} {s : State} {m : MethodId} {args : Array Value} {below : List Frame} {meth : Method} {c : Code} {Q : State → Prop} {k n : Nat} {h : Hp} {lv : List (Option XV)} {tr su i sa : Nat}
set_option maxHeartbeats 4000000 in
set_option maxRecDepth 100000 in
theorem x_callO (C : x_C g p s m args c cL_law RL 7 lw_tbl) (E : x_E g sa s) {i1 r : Int32} {h' : Hp} (hM : vx_Met l yL_octet wsL_oct { frames := 7, cells := 1, slots := 6, locals := 103 } (va_Pc ([vR 4, vI i1, vR 43].map (x_v g)) (fun U => x_U g h U ∧ x_E g sa U)) (x_Q g (some (vI r)) h') (fun _ _ _ => False) 1 6 (x_A g)) (K : XW g p l e room_1 s m args below meth c Q 7 k n h' 808 lv [vI r]) : XW g p l e room_1 s m args below meth c Q 7 (k + 1) (n + 6) h 805 lv [vR 43, vI i1, vR 4] := by
  intro H locs ls cells slots hS hl hc hn
  have hr := vx_runSX (R := room_1) (hh := [(0, 9, 12, 13)]) (e := e) (meth := meth) (below := below) (As := [vR 4, vI i1, vR 43].map (x_v g)) (rest := []) (g := F0 m 805 ls ([vR 43, vI i1, vR 4].map (x_v g))) (H := H) (locs := locs) (cells := cells) (slots := slots) C.1 hM (vx_cwSW 3 C.1.2.2.2.2 gl_L_oct rfl rfl rfl (by decide +kernel) ⟨Nat.le_of_ble_eq_true rfl, Nat.le_of_ble_eq_true rfl⟩) ⟨x_blindE _ _, fun U hU hW => ⟨rfl, x_mkU C hS hU hW, x_mkE E hS hU hW⟩⟩ rfl rfl hl.1 rfl (lv_room (Nat.zero_le _)) dL_law_805 ⟨by omega, by omega⟩
  intro T hT X
  rcases hr T hT X with ⟨v, st₀, t, T', L, h0, X', hL, e1, e2, ⟨hv, hh, hz, hk⟩, st⟩ | ⟨q, st₀, t, T', L, E9, ce, h0, X', hL, e1, e2, hfalse, -⟩
  · cases hv
    rw [h0] at hz hk
    obtain ⟨t2, a1, b1⟩ := K T'.heap (locs ++ L) ls (cells + 1) (slots + 6) ⟨by rw [e1]; exact hh, Nat.le_trans hS.2.1 (by rw [e1]; exact hz), fun q h1 h2 => by rw [e1, hk q (Nat.lt_of_lt_of_le h1 hS.2.1) h2]; exact hS.2.2.1 q h1 h2, fun q hq => by
      rcases List.mem_append.mp hq with h | h
      · exact hS.2.2.2 q h
      · exact hL q h⟩ hl (by omega) (by omega) T' rfl X'
    exact ⟨t2, st t2 a1, b1⟩
  · exact hfalse.elim
set_option maxHeartbeats 4000000 in
set_option maxRecDepth 100000 in
theorem lc_octet (C : x_C g p s m args c cL_law RL 7 lw_tbl) (hlt : l.stackTraces = false) (E : x_E g sa s) (hi : i + 5 < g.2.2.1) (hL : g.2.2.1 ≤ 3072) (L : LI h tr su) (K : ∀ h', LI h' tr su → XW g p l e room_1 s m args below meth c Q 7 k n h' 878 (LV i) []) : XW g p l e room_1 s m args below meth c Q 7 (k + 1) (n + 6) h 797 (LV i) [] := by
  rcases s_octet L (g.2.2.2 (i + 1)) with ⟨v, h1, h2, q0, q1, q2, q3, q4, o1, o2, L2⟩ | ⟨v1, v2, h2, g1, g2, hb, q2, q3, o1, o2, L2⟩
  · refine x_aload_n C dL_law_797 (pc' := 798) rfl rfl rfl ?_
    refine x_arg C (t := 1) (by decide) (by omega) hL dL_law_798 dL_law_799 dL_law_801 dL_law_802 dL_law_803 (pc' := 804) rfl rfl rfl ?_
    refine x_aload_n C dL_law_804 (pc' := 805) rfl rfl rfl ?_
    refine x_callO C E (mL_oct q0 q1) ?_
    refine x_istore C dL_law_808 (pc' := 810) rfl (by decide) rfl (lv' := [some (vR 1), some (vR 4), some (vR 20), some (vR 43), some (vI (nI i)), some (vI 0), none]) rfl ?_
    refine x_aload_n C dL_law_810 (pc' := 811) rfl rfl rfl ?_
    refine x_arg C (t := 1) (by decide) (by omega) hL dL_law_811 dL_law_812 dL_law_814 dL_law_815 dL_law_816 (pc' := 817) rfl rfl rfl ?_
    refine x_callV C (As := [vI (g.2.2.2 (i + 1))]) (st := []) (r := (some (vI v))) (h' := h2) (mc := 0) (ms := 0) (k := k) (n := n) (mX7_octet q2) o1 (ci := 7) rfl (cwV 1 C.1.2.2.2.2 gl_X7_octet rfl rfl rfl (by decide +kernel) ⟨Nat.le_of_ble_eq_true rfl, Nat.le_of_ble_eq_true rfl⟩) rfl rfl (Nat.le_of_ble_eq_true rfl) dL_law_817 (pc' := 820) rfl ?_
    refine x_istore C dL_law_820 (pc' := 822) rfl (by decide) rfl (lv' := [some (vR 1), some (vR 4), some (vR 20), some (vR 43), some (vI (nI i)), some (vI 0), some (vI v)]) rfl ?_
    refine x_aload_n C dL_law_822 (pc' := 823) rfl rfl rfl ?_
    refine x_callV C (As := []) (st := []) (r := (some (vI 0))) (h' := h2) (mc := 0) (ms := 0) (k := k) (n := n) (mX7_thrown q3) o2 (ci := 7) rfl (cwV 0 C.1.2.2.2.2 gl_X7_thrown rfl rfl rfl (by decide +kernel) ⟨Nat.le_of_ble_eq_true rfl, Nat.le_of_ble_eq_true rfl⟩) rfl rfl (Nat.le_of_ble_eq_true rfl) dL_law_823 (pc' := 826) rfl ?_
    refine x_iload C dL_law_826 (pc' := 828) rfl rfl ?_
    refine x_icmp_eq C (A := some ()) (B := none) (res := ()) (if_pos rfl) dL_law_828 (pc' := 831) rfl (tgt := 833) (by decide) (fun _ _ => ?_) (fun q _ => absurd rfl q)
    refine x_iload C dL_law_833 (pc' := 835) rfl rfl ?_
    refine x_if_ne C (A := some ()) (B := none) (res := ()) (if_pos rfl) dL_law_835 (pc' := 838) rfl (tgt := 850) (by decide) (fun _ _ => ?_) (fun q _ => absurd rfl q)
    refine x_aload_n C dL_law_838 (pc' := 839) rfl rfl rfl ?_
    refine x_iconst C (v := 0) (by decide) dL_law_839 (pc' := 840) rfl ?_
    refine x_laload C (F := some) (res := v.toInt64) (by rw [q4]; rfl) dL_law_840 (pc' := 841) rfl (fun y _ hy => ?_)
    cases hy
    refine x_iload C dL_law_841 (pc' := 843) rfl rfl ?_
    refine x_i2l C dL_law_843 (pc' := 844) rfl ?_
    refine x_lcmp C dL_law_844 (pc' := 845) rfl ?_
    refine x_if_eq C (A := some ()) (B := none) (res := ()) (if_pos (lg_self _)) dL_law_845 (pc' := 848) rfl (tgt := 850) (by decide) (fun _ _ => ?_) (fun q _ => absurd (lg_self _) q)
    refine x_goto C dL_law_850 (tgt := 878) (by decide) ?_
    exact x_keep [true, true, true, true, true, false, false] rfl (K h2 L2)
  · refine x_aload_n C dL_law_797 (pc' := 798) rfl rfl rfl ?_
    refine x_arg C (t := 1) (by decide) (by omega) hL dL_law_798 dL_law_799 dL_law_801 dL_law_802 dL_law_803 (pc' := 804) rfl rfl rfl ?_
    refine x_aload_n C dL_law_804 (pc' := 805) rfl rfl rfl ?_
    refine x_callO C E (mL_octX hlt g1 g2 hb) ?_
    refine x_istore C dL_law_808 (pc' := 810) rfl (by decide) rfl (lv' := [some (vR 1), some (vR 4), some (vR 20), some (vR 43), some (vI (nI i)), some (vI 1), none]) rfl ?_
    refine x_aload_n C dL_law_810 (pc' := 811) rfl rfl rfl ?_
    refine x_arg C (t := 1) (by decide) (by omega) hL dL_law_811 dL_law_812 dL_law_814 dL_law_815 dL_law_816 (pc' := 817) rfl rfl rfl ?_
    refine x_callV C (As := [vI (g.2.2.2 (i + 1))]) (st := []) (r := (some (vI 0))) (h' := h2) (mc := 0) (ms := 0) (k := k) (n := n) (mX7_octet q2) o1 (ci := 7) rfl (cwV 1 C.1.2.2.2.2 gl_X7_octet rfl rfl rfl (by decide +kernel) ⟨Nat.le_of_ble_eq_true rfl, Nat.le_of_ble_eq_true rfl⟩) rfl rfl (Nat.le_of_ble_eq_true rfl) dL_law_817 (pc' := 820) rfl ?_
    refine x_istore C dL_law_820 (pc' := 822) rfl (by decide) rfl (lv' := [some (vR 1), some (vR 4), some (vR 20), some (vR 43), some (vI (nI i)), some (vI 1), some (vI 0)]) rfl ?_
    refine x_aload_n C dL_law_822 (pc' := 823) rfl rfl rfl ?_
    refine x_callV C (As := []) (st := []) (r := (some (vI 1))) (h' := h2) (mc := 0) (ms := 0) (k := k) (n := n) (mX7_thrown q3) o2 (ci := 7) rfl (cwV 0 C.1.2.2.2.2 gl_X7_thrown rfl rfl rfl (by decide +kernel) ⟨Nat.le_of_ble_eq_true rfl, Nat.le_of_ble_eq_true rfl⟩) rfl rfl (Nat.le_of_ble_eq_true rfl) dL_law_823 (pc' := 826) rfl ?_
    refine x_iload C dL_law_826 (pc' := 828) rfl rfl ?_
    refine x_icmp_eq C (A := some ()) (B := none) (res := ()) (if_pos rfl) dL_law_828 (pc' := 831) rfl (tgt := 833) (by decide) (fun _ _ => ?_) (fun q _ => absurd rfl q)
    refine x_iload C dL_law_833 (pc' := 835) rfl rfl ?_
    refine x_if_ne C (A := none) (B := some ()) (res := ()) (if_neg (by decide)) dL_law_835 (pc' := 838) rfl (tgt := 850) (by decide) (fun q _ => absurd q (by decide)) (fun _ _ => ?_)
    refine x_goto C dL_law_850 (tgt := 878) (by decide) ?_
    exact x_keep [true, true, true, true, true, false, false] rfl (K h2 L2)
def kB (tr su : Nat) : Nat := (if tr = 0 then 4 else 0) + (if su = 0 then 7 else 0)
def nB (tr su : Nat) : Nat := (if tr = 0 then 20045 else 0) + (if su = 0 then 16437 else 0)
theorem law_cmp {L i : Nat} (hL : L ≤ 3072) (hi : i ≤ L) : (nI L - 6 < nI i) ↔ L < i + 6 := by
  have e2 : (nI i).toInt = i := Int32.toInt_ofNat_of_lt (by omega)
  rw [Int32.lt_iff_toInt_lt, show (6 : Int32) = nI 6 from rfl, pk_sub_toInt (by omega) (by omega), e2]
  omega
set_option maxHeartbeats 4000000 in
set_option maxRecDepth 100000 in
theorem law_head (C : x_C g p s m args c cL_law RL 7 lw_tbl) (hL : g.2.2.1 ≤ 3072) (hi : i ≤ g.2.2.1) (K1 : XW g p l e room_1 s m args below meth c Q 7 k n h 884 (LV i) []) (K2 : i + 6 ≤ g.2.2.1 → XW g p l e room_1 s m args below meth c Q 7 k n h 33 (LV i) []) : XW g p l e room_1 s m args below meth c Q 7 k n h 23 (LV i) [] := by
  refine x_iload C dL_law_23 (pc' := 25) rfl rfl ?_
  refine x_aload_n C dL_law_25 (pc' := 26) rfl rfl rfl ?_
  intro H locs ls cells slots hS hl hc hn
  have e0 : h[1]? = some (aC 0 g.2.2.1 g.2.2.2) := (x_old (by decide) hS.1.1).trans rfl
  refine x_alen C (F := some) (res := nI g.2.2.1) (by rw [aN_of e0 (by decide)]; rfl) dL_law_26 (pc' := 27) rfl (fun x _ hx => ?_) H locs ls cells slots hS hl hc hn
  cases hx
  refine x_bipush C (v := 6) (by decide) dL_law_27 (pc' := 29) rfl ?_
  refine x_isub C dL_law_29 (pc' := 30) rfl ?_
  by_cases q : nI g.2.2.1 - 6 < nI i
  · exact x_icmp_gt C (A := some ()) (B := none) (res := ()) (if_pos q) dL_law_30 (pc' := 33) rfl (tgt := 884) (by decide) (fun _ _ => K1) (fun q' _ => absurd q q')
  · exact x_icmp_gt C (A := none) (B := some ()) (res := ()) (if_neg q) dL_law_30 (pc' := 33) rfl (tgt := 884) (by decide) (fun q' _ => absurd q' q) (fun _ _ => K2 (Nat.not_lt.mp (fun z => q ((law_cmp hL hi).mpr z))))
set_option maxHeartbeats 4000000 in
set_option maxRecDepth 100000 in
theorem law_round (C : x_C g p s m args c cL_law RL 7 lw_tbl) (hlt : l.stackTraces = false) (E : x_E g sa s) (hi : i + 6 ≤ g.2.2.1) (hL : g.2.2.1 ≤ 3072) (L : LI h tr su) (K : ∀ h' tr' su', LI h' tr' su' → XW g p l e room_1 s m args below meth c Q 7 (k + kB tr' su') (n + nB tr' su') h' 878 (LV i) []) : XW g p l e room_1 s m args below meth c Q 7 (k + 20 + kB tr su) (n + 364 + nB tr su) h 33 (LV i) [] := by
  refine x_aload_n C dL_law_33 (pc' := 34) rfl rfl rfl ?_
  refine x_iload C dL_law_34 (pc' := 36) rfl rfl ?_
  refine x_scr C (by omega) hL dL_law_36 (pc' := 37) rfl ?_
  refine x_bipush C (v := 31) (by decide) dL_law_37 (pc' := 39) rfl ?_
  refine x_iand C dL_law_39 (pc' := 40) rfl ?_
  generalize g.2.2.2 i &&& 31 = x
  have hi5 : i + 5 < g.2.2.1 := by omega
  by_cases hc0 : x = 0
  · refine x_tswIn C (i := 0) hc0 (by decide) (by decide) dL_law_40 (off := 100) rfl (tgt := 140) (by decide) ?_
    exact x_more (k' := k + kB tr su + 0) (n' := n + nB tr su + 0) (by omega) (by omega) (lc_feed C hi5 hL L (fun h' L' => K h' tr su L'))
  ·
    by_cases hc1 : x = 1
    · refine x_tswIn C (i := 1) hc1 (by decide) (by decide) dL_law_40 (off := 173) rfl (tgt := 213) (by decide) ?_
      exact x_more (k' := k + kB tr su + 0) (n' := n + nB tr su + 0) (by omega) (by omega) (lc_end C hi5 hL L (fun h' L' => K h' tr su L'))
    ·
      by_cases hc2 : x = 2
      · refine x_tswIn C (i := 2) hc2 (by decide) (by decide) dL_law_40 (off := 198) rfl (tgt := 238) (by decide) ?_
        exact x_more (k' := k + kB tr su + 2) (n' := n + nB tr su + 32) (by omega) (by omega) (lc_rule C hi5 hL L (fun h' L' => K h' tr su L'))
      ·
        by_cases hc3 : x = 3
        · refine x_tswIn C (i := 3) hc3 (by decide) (by decide) dL_law_40 (off := 247) rfl (tgt := 287) (by decide) ?_
          exact x_more (k' := k + kB tr su + 0) (n' := n + nB tr su + 0) (by omega) (by omega) (lc_about C hi5 hL L (fun h' L' => K h' tr su L'))
        ·
          by_cases hc4 : x = 4
          · refine x_tswIn C (i := 4) hc4 (by decide) (by decide) dL_law_40 (off := 284) rfl (tgt := 324) (by decide) ?_
            exact x_more (k' := k + kB tr su + 0) (n' := n + nB tr su + 0) (by omega) (by omega) (lc_table C hi5 hL L (fun h' L' => K h' tr su L'))
          ·
            by_cases hc5 : x = 5
            · refine x_tswIn C (i := 5) hc5 (by decide) (by decide) dL_law_40 (off := 309) rfl (tgt := 349) (by decide) ?_
              exact x_more (k' := k + kB tr su + 0) (n' := n + nB tr su + 0) (by omega) (by omega) (lc_row C hi5 hL L (fun h' L' => K h' tr su L'))
            ·
              by_cases hc6 : x = 6
              · refine x_tswIn C (i := 6) hc6 (by decide) (by decide) dL_law_40 (off := 334) rfl (tgt := 374) (by decide) ?_
                exact x_more (k' := k + kB tr su + 0) (n' := n + nB tr su + 0) (by omega) (by omega) (lc_ring C hi5 hL L (fun h' L' => K h' tr su L'))
              ·
                by_cases hc7 : x = 7
                · refine x_tswIn C (i := 7) hc7 (by decide) (by decide) dL_law_40 (off := 371) rfl (tgt := 411) (by decide) ?_
                  exact x_more (k' := k + kB tr su + 0) (n' := n + nB tr su + 0) (by omega) (by omega) (lc_behind C hi5 hL L (fun h' L' => K h' tr su L'))
                ·
                  by_cases hc8 : x = 8
                  · refine x_tswIn C (i := 8) hc8 (by decide) (by decide) dL_law_40 (off := 397) rfl (tgt := 437) (by decide) ?_
                    exact x_more (k' := k + kB tr su + 0) (n' := n + nB tr su + 0) (by omega) (by omega) (lc_ringsBehind C hi5 hL L (fun h' L' => K h' tr su L'))
                  ·
                    by_cases hc9 : x = 9
                    · refine x_tswIn C (i := 9) hc9 (by decide) (by decide) dL_law_40 (off := 423) rfl (tgt := 463) (by decide) ?_
                      exact x_more (k' := k + kB tr su + 0) (n' := n + nB tr su + 0) (by omega) (by omega) (lc_missed C hi5 hL L (fun h' L' => K h' tr su L'))
                    ·
                      by_cases hc10 : x = 10
                      · refine x_tswIn C (i := 10) hc10 (by decide) (by decide) dL_law_40 (off := 448) rfl (tgt := 488) (by decide) ?_
                        exact x_more (k' := k + kB tr su + 2) (n' := n + nB tr su + 32) (by omega) (by omega) (lc_back C hi5 hL L (fun h' L' => K h' tr su L'))
                      ·
                        by_cases hc11 : x = 11
                        · refine x_tswIn C (i := 11) hc11 (by decide) (by decide) dL_law_40 (off := 485) rfl (tgt := 525) (by decide) ?_
                          rcases s_height L (g.2.2.2 (i + 1)) with ⟨v, h1, h2, q1, q2, o20, L2⟩ | ⟨rfl, v, h1, h2, tr', hne, q1, q2, o20, L2⟩
                          · exact x_more (k' := k + kB tr su + 0) (n' := n + nB tr su + 0) (by omega) (by omega) (lc_height_v2 C hi5 hL L q1 q2 o20 L2 (fun h' L' => K h' tr su L'))
                          · have e1 : kB tr' su + 4 = kB 0 su := by simp only [kB, if_neg hne]; simp <;> omega
                            have e2 : nB tr' su + 20045 = nB 0 su := by simp only [nB, if_neg hne]; simp <;> omega
                            exact x_more (k' := k + kB tr' su + 4) (n' := n + nB tr' su + 20045) (by omega) (by omega) (lc_height_new C hi5 hL L q1 q2 o20 L2 (fun h' L' => K h' tr' su L'))
                        ·
                          by_cases hc12 : x = 12
                          · refine x_tswIn C (i := 12) hc12 (by decide) (by decide) dL_law_40 (off := 510) rfl (tgt := 550) (by decide) ?_
                            exact x_more (k' := k + kB tr su + 0) (n' := n + nB tr su + 0) (by omega) (by omega) (lc_round C hi5 hL L (fun h' L' => K h' tr su L'))
                          ·
                            by_cases hc13 : x = 13
                            · refine x_tswIn C (i := 13) hc13 (by decide) (by decide) dL_law_40 (off := 523) rfl (tgt := 563) (by decide) ?_
                              rcases s_all L (g.2.2.2 (i + 1)) (g.2.2.2 (i + 2)) (g.2.2.2 (i + 3)) with ⟨v, h1, h2, q1, q2, o20, L2⟩ | ⟨rfl, v, h1, h2, su', hne, q1, q2, o20, L2⟩
                              · exact x_more (k' := k + kB tr su + 0) (n' := n + nB tr su + 0) (by omega) (by omega) (lc_all_v2 C hi5 hL L q1 q2 o20 L2 (fun h' L' => K h' tr su L'))
                              · have e1 : kB tr su' + 7 = kB tr 0 := by simp only [kB, if_neg hne]; simp <;> omega
                                have e2 : nB tr su' + 16437 = nB tr 0 := by simp only [nB, if_neg hne]; simp <;> omega
                                exact x_more (k' := k + kB tr su' + 7) (n' := n + nB tr su' + 16437) (by omega) (by omega) (lc_all_new C hi5 hL L q1 q2 o20 L2 (fun h' L' => K h' tr su' L'))
                            ·
                              by_cases hc14 : x = 14
                              · refine x_tswIn C (i := 14) hc14 (by decide) (by decide) dL_law_40 (off := 572) rfl (tgt := 612) (by decide) ?_
                                exact x_more (k' := k + kB tr su + 0) (n' := n + nB tr su + 0) (by omega) (by omega) (lc_keeps C hi5 hL L (fun h' L' => K h' tr su L'))
                              ·
                                by_cases hc15 : x = 15
                                · refine x_tswIn C (i := 15) hc15 (by decide) (by decide) dL_law_40 (off := 597) rfl (tgt := 637) (by decide) ?_
                                  exact x_more (k' := k + kB tr su + 2) (n' := n + nB tr su + 32) (by omega) (by omega) (lc_join C hi5 hL L (fun h' L' => K h' tr su L'))
                                ·
                                  by_cases hc16 : x = 16
                                  · refine x_tswIn C (i := 16) hc16 (by decide) (by decide) dL_law_40 (off := 646) rfl (tgt := 686) (by decide) ?_
                                    exact x_more (k' := k + kB tr su + 2) (n' := n + nB tr su + 32) (by omega) (by omega) (lc_mirror C hi5 hL L (fun h' L' => K h' tr su L'))
                                  ·
                                    by_cases hc17 : x = 17
                                    · refine x_tswIn C (i := 17) hc17 (by decide) (by decide) dL_law_40 (off := 683) rfl (tgt := 723) (by decide) ?_
                                      exact x_more (k' := k + kB tr su + 2) (n' := n + nB tr su + 32) (by omega) (by omega) (lc_rename C hi5 hL L (fun h' L' => K h' tr su L'))
                                    ·
                                      by_cases hc18 : x = 18
                                      · refine x_tswIn C (i := 18) hc18 (by decide) (by decide) dL_law_40 (off := 720) rfl (tgt := 760) (by decide) ?_
                                        exact x_more (k' := k + kB tr su + 20) (n' := n + nB tr su + 364) (by omega) (by omega) (lc_trim C hi5 hL L (fun h' L' => K h' tr su L'))
                                      ·
                                        by_cases hc19 : x = 19
                                        · refine x_tswIn C (i := 19) hc19 (by decide) (by decide) dL_law_40 (off := 757) rfl (tgt := 797) (by decide) ?_
                                          exact x_more (k' := k + kB tr su + 1) (n' := n + nB tr su + 6) (by omega) (by omega) (lc_octet C hlt E hi5 hL L (fun h' L' => K h' tr su L'))
                                        ·
                                          by_cases hc20 : x = 20
                                          · refine x_tswIn C (i := 20) hc20 (by decide) (by decide) dL_law_40 (off := 813) rfl (tgt := 853) (by decide) ?_
                                            exact x_more (k' := k + kB tr su + 0) (n' := n + nB tr su + 0) (by omega) (by omega) (lc_count C hi5 hL L (fun h' L' => K h' tr su L'))
                                          ·
                                            refine x_tswOut C 21 (by decide) (fun i hi => by match i, hi with | 0, _ => exact hc0 | 1, _ => exact hc1 | 2, _ => exact hc2 | 3, _ => exact hc3 | 4, _ => exact hc4 | 5, _ => exact hc5 | 6, _ => exact hc6 | 7, _ => exact hc7 | 8, _ => exact hc8 | 9, _ => exact hc9 | 10, _ => exact hc10 | 11, _ => exact hc11 | 12, _ => exact hc12 | 13, _ => exact hc13 | 14, _ => exact hc14 | 15, _ => exact hc15 | 16, _ => exact hc16 | 17, _ => exact hc17 | 18, _ => exact hc18 | 19, _ => exact hc19 | 20, _ => exact hc20 | j + 21, hi => omega) dL_law_40 (tgt := 878) (by decide) ?_
                                            exact x_more (k' := k + kB tr su) (n' := n + nB tr su) (by omega) (by omega) (K h tr su L)
set_option maxHeartbeats 4000000 in
set_option maxRecDepth 100000 in
theorem law_loop (C : x_C g p s m args c cL_law RL 7 lw_tbl) (hlt : l.stackTraces = false) (E : x_E g sa s) (hL : g.2.2.1 ≤ 3072) (Kend : ∀ (h : Hp) (i k n : Nat), XW g p l e room_1 s m args below meth c Q 7 k n h 884 (LV i) []) : ∀ (N j : Nat) (h : Hp) (tr su : Nat), g.2.2.1 < 6 * (j + N) + 6 → 6 * j ≤ g.2.2.1 → LI h tr su → XW g p l e room_1 s m args below meth c Q 7 (20 * N + kB tr su) (364 * N + nB tr su) h 23 (LV (6 * j)) [] := by
  intro N
  induction N with
  | zero =>
    intro j h tr su h1 h2 L
    exact law_head C hL h2 (Kend _ _ _ _) (fun q => absurd q (by omega))
  | succ N ih =>
    intro j h tr su h1 h2 L
    refine law_head C hL h2 (Kend _ _ _ _) (fun q => ?_)
    refine x_more (k' := 20 * N + 20 + kB tr su) (n' := 364 * N + 364 + nB tr su) (by omega) (by omega) ?_
    refine law_round C hlt E q hL L (fun h' tr' su' L' => ?_)
    have hz : nI (6 * j) + Int32.ofInt 6 = nI (6 * (j + 1)) := by
      rw [show Int32.ofInt 6 = nI 6 from by decide, show nI (6 * j) + nI 6 = nI (6 * j + 6) from (Int32.ofNat_add _ _).symm]
      rfl
    refine x_iinc C dL_law_878 (pc' := 881) rfl rfl (v := nI (6 * (j + 1))) hz (by decide) rfl (lv' := LV (6 * (j + 1))) rfl ?_
    refine x_goto C dL_law_881 (tgt := 23) (by decide) ?_
    exact ih (j + 1) h' tr' su' (by omega) (by omega) L'
end LD

/-! The heap when the law's loop begins. -/
section IN
variable {g : XG} {B T : List HC} {ci f a n tg ci2 : Nat} {fs fs2 : List XV} {K : Hp → Option Hp} {I : Hp → Nat → Option Hp} {R : Nat → List HC}
theorem pf_B {v : XV} (hB : B.length = a) (ha : 4 ≤ a) (hf : f < fs.length) : pF (B ++ oC ci fs :: T) a ci f v = some (B ++ oC ci (fs.set f v) :: T) := by
  subst hB
  rw [pF_of ha (by rw [List.getElem?_append_right (Nat.le_refl _), Nat.sub_self]; rfl) hf]
  congr 1
  rw [List.set_append_right _ _ (Nat.le_refl _), Nat.sub_self]
  rfl
theorem ln_B {c : HC} (hB : B.length = a) : (B ++ c :: T).length = a + 1 + T.length := by
  rw [List.length_append, List.length_cons, hB]
  omega
theorem mkR_ok {h : Hp} {β : Type} {K : Nat → Hp → Option β} (hn : n < 2 ^ 31) : mkR h n (nI n) K = K h.length (h ++ [rC n (fun _ => 0)]) := by
  unfold mkR
  rw [cl_nI hn, if_neg (fun z => z.elim (fun w => nI_nn hn w) (fun w => absurd w (Nat.lt_irrefl _)))]
theorem st_A (hB : B.length = a) (ha : 4 ≤ a) (hn : n < 2 ^ 31) (hf : f < fs.length) : (mkA (B ++ oC ci fs :: T) tg n (nI n) fun q h2 => (pF h2 a ci f (vR q)).bind K) = K (B ++ oC ci (fs.set f (vR (a + 1 + T.length))) :: (T ++ [aC tg n (fun _ => 0)])) := by
  rw [mkA_ok hn]
  show Option.bind (pF ((B ++ oC ci fs :: T) ++ [aC tg n (fun _ => 0)]) a ci f (vR (B ++ oC ci fs :: T).length)) K = _
  rw [ln_B hB, List.append_assoc, List.cons_append, pf_B hB ha hf]
  rfl
theorem st_L (hB : B.length = a) (ha : 4 ≤ a) (hn : n < 2 ^ 31) (hf : f < fs.length) : (mkL (B ++ oC ci fs :: T) n (nI n) fun q h2 => (pF h2 a ci f (vR q)).bind K) = K (B ++ oC ci (fs.set f (vR (a + 1 + T.length))) :: (T ++ [lC n (fun _ => 0)])) := by
  rw [mkL_ok hn]
  show Option.bind (pF ((B ++ oC ci fs :: T) ++ [lC n (fun _ => 0)]) a ci f (vR (B ++ oC ci fs :: T).length)) K = _
  rw [ln_B hB, List.append_assoc, List.cons_append, pf_B hB ha hf]
  rfl
theorem st_R (hB : B.length = a) (ha : 4 ≤ a) (hn : n < 2 ^ 31) (hf : f < fs.length) : (mkR (B ++ oC ci fs :: T) n (nI n) fun q h2 => (pF h2 a ci f (vR q)).bind K) = K (B ++ oC ci (fs.set f (vR (a + 1 + T.length))) :: (T ++ [rC n (fun _ => 0)])) := by
  rw [mkR_ok hn]
  show Option.bind (pF ((B ++ oC ci fs :: T) ++ [rC n (fun _ => 0)]) a ci f (vR (B ++ oC ci fs :: T).length)) K = _
  rw [ln_B hB, List.append_assoc, List.cons_append, pf_B hB ha hf]
  rfl
theorem st_O (hB : B.length = a) (ha : 4 ≤ a) (hf : f < fs.length) (hI : ∀ (H : List HC) (b : Nat), H.length = b → 4 ≤ b → I (H ++ [oC ci2 fs2]) b = some (H ++ R b)) : (mkO (B ++ oC ci fs :: T) ci2 fs2 fun q h2 => (I h2 q).bind fun h3 => (pF h3 a ci f (vR q)).bind K) = K (B ++ oC ci (fs.set f (vR (a + 1 + T.length))) :: (T ++ R (a + 1 + T.length))) := by
  unfold mkO
  show Option.bind (I ((B ++ oC ci fs :: T) ++ [oC ci2 fs2]) (B ++ oC ci fs :: T).length) _ = _
  rw [ln_B hB, hI _ _ (ln_B hB) (by omega)]
  show Option.bind (pF ((B ++ oC ci fs :: T) ++ R (a + 1 + T.length)) a ci f (vR (a + 1 + T.length))) K = _
  rw [List.append_assoc, List.cons_append, pf_B hB ha hf]
  rfl
abbrev z32 : Nat → Int32 := fun _ => 0
abbrev z64 : Nat → Int64 := fun _ => 0
abbrev zNo : Nat → Nat := fun _ => 0
def R5 (a : Nat) : List HC := [oC 5 [vR (a + 1), vR 0, vI 0], lC 189 z64]
def R2 (a : Nat) : List HC := [oC 2 [vR (a + 1), vR (a + 2), vR (a + 3), vR (a + 4), vI 0], aC 0 512 z32, aC 0 512 z32, aC 0 512 z32, aC 0 27 z32]
def R0 (a : Nat) : List HC := [oC 0 [vR (a + 1)], aC 2 729 z32]
theorem ini5 (H : List HC) (b : Nat) (hH : H.length = b) (hb : 4 ≤ b) : fX5_init (H ++ [oC 5 [vR 0, vR 0, vI 0]]) b = some (H ++ R5 b) := by
  unfold fX5_init
  rw [if_neg (by omega), show (189 : Int32) = nI 189 from rfl, st_L (T := []) hH hb (by decide) (by decide)]
  rfl
theorem ini2 (H : List HC) (b : Nat) (hH : H.length = b) (hb : 4 ≤ b) : fX2_init (H ++ [oC 2 [vR 0, vR 0, vR 0, vR 0, vI 0]]) b = some (H ++ R2 b) := by
  unfold fX2_init
  rw [if_neg (by omega), show (512 : Int32) = nI 512 from rfl, show (27 : Int32) = nI 27 from rfl, st_A (T := []) hH hb (by decide) (by decide), st_A hH hb (by decide) (Nat.le_of_ble_eq_true rfl), st_A hH hb (by decide) (Nat.le_of_ble_eq_true rfl), st_A hH hb (by decide) (Nat.le_of_ble_eq_true rfl)]
  rfl
theorem ini0 (H : List HC) (b : Nat) (hH : H.length = b) (hb : 4 ≤ b) : fX0_init (H ++ [oC 0 [vR 0]]) b = some (H ++ R0 b) := by
  unfold fX0_init
  rw [if_neg (by omega), show (729 : Int32) = nI 729 from rfl, st_A (T := []) hH hb (by decide) (by decide)]
  rfl
def hp6 : List HC := [mo 0 0 0 8 9 0 0, rC 6 zNo, aC 0 100 z32, aC 0 512 z32, aC 0 100 z32, aC 0 100 z32, aC 0 27 z32, oC 5 [vR 12, vR 0, vI 0], lC 189 z64, oC 2 [vR 14, vR 15, vR 16, vR 17, vI 0], aC 0 512 z32, aC 0 512 z32, aC 0 512 z32, aC 0 27 z32, oC 0 [vR 19], aC 2 729 z32]
def hp7 : List HC := [mob 0 0 0 0 0, aC 1 100 z32, aC 0 6 z32, aC 0 6 z32, aC 0 189 z32, aC 1 600 z32, aC 0 100 z32, aC 0 100 z32, lC 189 z64, aC 2 81 z32, aC 2 81 z32, aC 0 512 z32, aC 0 512 z32, aC 0 512 z32, aC 2 512 z32, aC 0 27 z32, lC 20002 z64, aC 0 65536 z32, aC 0 4096 z32, aC 0 4096 z32, aC 0 4096 z32, aC 0 4096 z32, aC 0 9 z32]
theorem init6 : fX6_init (x_st g ++ [oC 6 [vR 0, vR 0, vI 0, vR 0, vI 0, vI 0, vR 0, vR 0, vR 0, vR 0, vR 0, vR 0, vR 0, vR 0]]) 4 = some (x_st g ++ hp6) := by
  have hB : (x_st g).length = 4 := rfl
  unfold fX6_init
  rw [if_neg (by decide), show (6 : Int32) = nI 6 from rfl, show (100 : Int32) = nI 100 from rfl, show (512 : Int32) = nI 512 from rfl, show (27 : Int32) = nI 27 from rfl]
  rw [st_R (T := []) hB (by decide) (by decide) (by decide), st_A hB (by decide) (by decide) (by decide), st_A hB (by decide) (by decide) (by decide), st_A hB (by decide) (by decide) (by decide), st_A hB (by decide) (by decide) (by decide), st_A hB (by decide) (by decide) (by decide)]
  rw [st_O (I := fX5_init) hB (by decide) (by decide) ini5, st_O (I := fX2_init) hB (by decide) (by decide) ini2, st_O (I := fX0_init) hB (by decide) (by decide) ini0]
  rfl
theorem init7 : fX7_init ((x_st g ++ hp6) ++ [oC 7 [vI 0, vR 0, vI 0, vI 0, vR 0, vR 0, vR 0, vR 0, vI 0, vR 0, vR 0, vR 0, vR 0, vR 0, vR 0, vR 0, vR 0, vR 0, vR 0, vR 0, vR 0, vI 0, vR 0, vR 0, vR 0, vR 0, vR 0]]) 20 = some ((x_st g ++ hp6) ++ hp7) := by
  have hB : (x_st g ++ hp6).length = 20 := rfl
  unfold fX7_init
  rw [if_neg (by decide), show (6 : Int32) = nI 6 from rfl, show (100 : Int32) = nI 100 from rfl, show (512 : Int32) = nI 512 from rfl, show (27 : Int32) = nI 27 from rfl, show (189 : Int32) = nI 189 from rfl, show (600 : Int32) = nI 600 from rfl, show (81 : Int32) = nI 81 from rfl, show (20002 : Int32) = nI 20002 from rfl, show (65536 : Int32) = nI 65536 from rfl, show (4096 : Int32) = nI 4096 from rfl, show (9 : Int32) = nI 9 from rfl]
  generalize x_st g ++ hp6 = B0 at hB ⊢
  rw [st_A (T := []) hB (by decide) (by decide) (by decide), st_A hB (by decide) (by decide) (by decide), st_A hB (by decide) (by decide) (by decide), st_A hB (by decide) (by decide) (by decide), st_A hB (by decide) (by decide) (by decide), st_A hB (by decide) (by decide) (by decide), st_A hB (by decide) (by decide) (by decide), st_L hB (by decide) (by decide) (by decide), st_A hB (by decide) (by decide) (by decide), st_A hB (by decide) (by decide) (by decide), st_A hB (by decide) (by decide) (by decide), st_A hB (by decide) (by decide) (by decide), st_A hB (by decide) (by decide) (by decide), st_A hB (by decide) (by decide) (by decide), st_A hB (by decide) (by decide) (by decide), st_L hB (by decide) (by decide) (by decide), st_A hB (by decide) (by decide) (by decide), st_A hB (by decide) (by decide) (by decide), st_A hB (by decide) (by decide) (by decide), st_A hB (by decide) (by decide) (by decide), st_A hB (by decide) (by decide) (by decide), st_A hB (by decide) (by decide) (by decide)]
  rfl
def hp0 (g : XG) : Hp := ((x_st g ++ hp6) ++ hp7) ++ [lC 1 z64]
theorem LI0 : LI (hp0 g) 0 0 := by
  refine ⟨⟨⟨z64, rfl⟩, _, rfl⟩, 0, 0, 0, fun _ => 0, fun _ => none, 0, fun _ => 0, 0, ?_, ?_⟩
  · exact ⟨8, 9, zNo, z32, z32, rfl, rfl, rfl, by omega, by omega, by omega, Or.inl ⟨rfl, rfl⟩, rfl, fun _ _ => rfl, rfl, fun i hi => absurd hi (Nat.not_lt_zero i), rfl, fun i hi => absurd hi (Nat.not_lt_zero i), ⟨⟨_, rfl⟩, ⟨_, rfl⟩, ⟨_, rfl⟩, ⟨_, _, rfl⟩, ⟨_, rfl⟩, ⟨_, rfl⟩, ⟨_, rfl⟩, ⟨_, rfl⟩, ⟨_, rfl⟩, ⟨_, rfl⟩, rfl, ⟨_, rfl⟩⟩, Or.inl rfl, Or.inl rfl, Nat.le_of_ble_eq_true rfl⟩
  · exact ⟨z32, z32, z32, z32, z32, rfl, by omega, by omega, by omega, rfl, fun i hi => absurd hi (Nat.not_lt_zero i), rfl, rfl, rfl, fun _ _ => rfl, rfl, fun i hi => absurd hi (Nat.not_lt_zero i), ⟨_, rfl⟩, ⟨_, rfl⟩, ⟨_, rfl⟩, ⟨_, rfl⟩, ⟨_, rfl⟩, ⟨_, rfl⟩, ⟨_, rfl⟩, ⟨_, rfl⟩, ⟨_, rfl⟩, ⟨_, rfl⟩, ⟨_, rfl⟩, ⟨_, rfl⟩, ⟨_, rfl⟩, ⟨_, rfl⟩, ⟨_, rfl⟩, ⟨_, rfl⟩, ⟨_, rfl⟩⟩
end IN

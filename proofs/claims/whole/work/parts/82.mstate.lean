/-! The model's state. mob: the Model object. -/
def mob (thr tl sz om rd : Int32) : HC := oC 7 [vI thr, vR 21, vI tl, vI sz, vR 22, vR 23, vR 24, vR 25, vI om, vR 26, vR 27, vR 28, vR 29, vR 30, vR 31, vR 32, vR 33, vR 34, vR 35, vR 36, vR 37, vI rd, vR 38, vR 39, vR 40, vR 41, vR 42]
section MO
variable {h : Hp} {thr tl sz om rd : Int32}
theorem o_0 (e : h[20]? = some (mob thr tl sz om rd)) : gI h 20 7 0 = some thr := gI_of (by decide) e rfl
theorem o_1 (e : h[20]? = some (mob thr tl sz om rd)) : gR h 20 7 1 = some 21 := gR_of (by decide) e rfl
theorem o_2 (e : h[20]? = some (mob thr tl sz om rd)) : gI h 20 7 2 = some tl := gI_of (by decide) e rfl
theorem o_3 (e : h[20]? = some (mob thr tl sz om rd)) : gI h 20 7 3 = some sz := gI_of (by decide) e rfl
theorem o_4 (e : h[20]? = some (mob thr tl sz om rd)) : gR h 20 7 4 = some 22 := gR_of (by decide) e rfl
theorem o_5 (e : h[20]? = some (mob thr tl sz om rd)) : gR h 20 7 5 = some 23 := gR_of (by decide) e rfl
theorem o_6 (e : h[20]? = some (mob thr tl sz om rd)) : gR h 20 7 6 = some 24 := gR_of (by decide) e rfl
theorem o_7 (e : h[20]? = some (mob thr tl sz om rd)) : gR h 20 7 7 = some 25 := gR_of (by decide) e rfl
theorem o_8 (e : h[20]? = some (mob thr tl sz om rd)) : gI h 20 7 8 = some om := gI_of (by decide) e rfl
theorem o_9 (e : h[20]? = some (mob thr tl sz om rd)) : gR h 20 7 9 = some 26 := gR_of (by decide) e rfl
theorem o_10 (e : h[20]? = some (mob thr tl sz om rd)) : gR h 20 7 10 = some 27 := gR_of (by decide) e rfl
theorem o_11 (e : h[20]? = some (mob thr tl sz om rd)) : gR h 20 7 11 = some 28 := gR_of (by decide) e rfl
theorem o_12 (e : h[20]? = some (mob thr tl sz om rd)) : gR h 20 7 12 = some 29 := gR_of (by decide) e rfl
theorem o_13 (e : h[20]? = some (mob thr tl sz om rd)) : gR h 20 7 13 = some 30 := gR_of (by decide) e rfl
theorem o_14 (e : h[20]? = some (mob thr tl sz om rd)) : gR h 20 7 14 = some 31 := gR_of (by decide) e rfl
theorem o_15 (e : h[20]? = some (mob thr tl sz om rd)) : gR h 20 7 15 = some 32 := gR_of (by decide) e rfl
theorem o_16 (e : h[20]? = some (mob thr tl sz om rd)) : gR h 20 7 16 = some 33 := gR_of (by decide) e rfl
theorem o_17 (e : h[20]? = some (mob thr tl sz om rd)) : gR h 20 7 17 = some 34 := gR_of (by decide) e rfl
theorem o_18 (e : h[20]? = some (mob thr tl sz om rd)) : gR h 20 7 18 = some 35 := gR_of (by decide) e rfl
theorem o_19 (e : h[20]? = some (mob thr tl sz om rd)) : gR h 20 7 19 = some 36 := gR_of (by decide) e rfl
theorem o_20 (e : h[20]? = some (mob thr tl sz om rd)) : gR h 20 7 20 = some 37 := gR_of (by decide) e rfl
theorem o_21 (e : h[20]? = some (mob thr tl sz om rd)) : gI h 20 7 21 = some rd := gI_of (by decide) e rfl
theorem o_22 (e : h[20]? = some (mob thr tl sz om rd)) : gR h 20 7 22 = some 38 := gR_of (by decide) e rfl
theorem o_23 (e : h[20]? = some (mob thr tl sz om rd)) : gR h 20 7 23 = some 39 := gR_of (by decide) e rfl
theorem o_24 (e : h[20]? = some (mob thr tl sz om rd)) : gR h 20 7 24 = some 40 := gR_of (by decide) e rfl
theorem o_25 (e : h[20]? = some (mob thr tl sz om rd)) : gR h 20 7 25 = some 41 := gR_of (by decide) e rfl
theorem o_26 (e : h[20]? = some (mob thr tl sz om rd)) : gR h 20 7 26 = some 42 := gR_of (by decide) e rfl
theorem oo (e : h[20]? = some (mob thr tl sz om rd)) {β : Type} {x : Option β} : oK h 20 7 x = x := oK_of (by decide) e
theorem q_0 (e : h[20]? = some (mob thr tl sz om rd)) {x : Int32} : pF h 20 7 0 (vI x) = some (h.set 20 (mob x tl sz om rd)) := pF_of (by decide) e (by simp)
theorem q_2 (e : h[20]? = some (mob thr tl sz om rd)) {x : Int32} : pF h 20 7 2 (vI x) = some (h.set 20 (mob thr x sz om rd)) := pF_of (by decide) e (by simp)
theorem q_3 (e : h[20]? = some (mob thr tl sz om rd)) {x : Int32} : pF h 20 7 3 (vI x) = some (h.set 20 (mob thr tl x om rd)) := pF_of (by decide) e (by simp)
theorem q_8 (e : h[20]? = some (mob thr tl sz om rd)) {x : Int32} : pF h 20 7 8 (vI x) = some (h.set 20 (mob thr tl sz x rd)) := pF_of (by decide) e (by simp)
theorem q_21 (e : h[20]? = some (mob thr tl sz om rd)) {x : Int32} : pF h 20 7 21 (vI x) = some (h.set 20 (mob thr tl sz om x)) := pF_of (by decide) e (by simp)
end MO
/-- the model's rows that hold nothing from call to call -/
def MFix (h : Hp) : Prop := (∃ f, h[26]? = some (aC 0 100 f)) ∧ (∃ f, h[27]? = some (aC 0 100 f)) ∧ (∃ f, h[28]? = some (lC 189 f)) ∧ (∃ f, h[29]? = some (aC 2 81 f)) ∧ (∃ f, h[30]? = some (aC 2 81 f)) ∧ (∃ f, h[31]? = some (aC 0 512 f)) ∧ (∃ f, h[32]? = some (aC 0 512 f)) ∧ (∃ f, h[33]? = some (aC 0 512 f)) ∧ (∃ f, h[34]? = some (aC 2 512 f)) ∧ (∃ f, h[35]? = some (aC 0 27 f)) ∧ (∃ f, h[36]? = some (lC 20002 f)) ∧ (∃ f, h[37]? = some (aC 0 65536 f)) ∧ (∃ f, h[38]? = some (aC 0 4096 f)) ∧ (∃ f, h[39]? = some (aC 0 4096 f)) ∧ (∃ f, h[40]? = some (aC 0 4096 f)) ∧ (∃ f, h[41]? = some (aC 0 4096 f)) ∧ (∃ f, h[42]? = some (aC 0 9 f))
section MX
variable {h : Hp}
theorem MFix.r26 (F : MFix h) : ∃ f, h[26]? = some (aC 0 100 f) := by
  obtain ⟨f26, f27, f28, f29, f30, f31, f32, f33, f34, f35, f36, f37, f38, f39, f40, f41, f42⟩ := F
  exact f26
theorem MFix.r27 (F : MFix h) : ∃ f, h[27]? = some (aC 0 100 f) := by
  obtain ⟨f26, f27, f28, f29, f30, f31, f32, f33, f34, f35, f36, f37, f38, f39, f40, f41, f42⟩ := F
  exact f27
theorem MFix.r28 (F : MFix h) : ∃ f, h[28]? = some (lC 189 f) := by
  obtain ⟨f26, f27, f28, f29, f30, f31, f32, f33, f34, f35, f36, f37, f38, f39, f40, f41, f42⟩ := F
  exact f28
theorem MFix.r29 (F : MFix h) : ∃ f, h[29]? = some (aC 2 81 f) := by
  obtain ⟨f26, f27, f28, f29, f30, f31, f32, f33, f34, f35, f36, f37, f38, f39, f40, f41, f42⟩ := F
  exact f29
theorem MFix.r30 (F : MFix h) : ∃ f, h[30]? = some (aC 2 81 f) := by
  obtain ⟨f26, f27, f28, f29, f30, f31, f32, f33, f34, f35, f36, f37, f38, f39, f40, f41, f42⟩ := F
  exact f30
theorem MFix.r31 (F : MFix h) : ∃ f, h[31]? = some (aC 0 512 f) := by
  obtain ⟨f26, f27, f28, f29, f30, f31, f32, f33, f34, f35, f36, f37, f38, f39, f40, f41, f42⟩ := F
  exact f31
theorem MFix.r32 (F : MFix h) : ∃ f, h[32]? = some (aC 0 512 f) := by
  obtain ⟨f26, f27, f28, f29, f30, f31, f32, f33, f34, f35, f36, f37, f38, f39, f40, f41, f42⟩ := F
  exact f32
theorem MFix.r33 (F : MFix h) : ∃ f, h[33]? = some (aC 0 512 f) := by
  obtain ⟨f26, f27, f28, f29, f30, f31, f32, f33, f34, f35, f36, f37, f38, f39, f40, f41, f42⟩ := F
  exact f33
theorem MFix.r34 (F : MFix h) : ∃ f, h[34]? = some (aC 2 512 f) := by
  obtain ⟨f26, f27, f28, f29, f30, f31, f32, f33, f34, f35, f36, f37, f38, f39, f40, f41, f42⟩ := F
  exact f34
theorem MFix.r35 (F : MFix h) : ∃ f, h[35]? = some (aC 0 27 f) := by
  obtain ⟨f26, f27, f28, f29, f30, f31, f32, f33, f34, f35, f36, f37, f38, f39, f40, f41, f42⟩ := F
  exact f35
theorem MFix.r36 (F : MFix h) : ∃ f, h[36]? = some (lC 20002 f) := by
  obtain ⟨f26, f27, f28, f29, f30, f31, f32, f33, f34, f35, f36, f37, f38, f39, f40, f41, f42⟩ := F
  exact f36
theorem MFix.r37 (F : MFix h) : ∃ f, h[37]? = some (aC 0 65536 f) := by
  obtain ⟨f26, f27, f28, f29, f30, f31, f32, f33, f34, f35, f36, f37, f38, f39, f40, f41, f42⟩ := F
  exact f37
theorem MFix.r38 (F : MFix h) : ∃ f, h[38]? = some (aC 0 4096 f) := by
  obtain ⟨f26, f27, f28, f29, f30, f31, f32, f33, f34, f35, f36, f37, f38, f39, f40, f41, f42⟩ := F
  exact f38
theorem MFix.r39 (F : MFix h) : ∃ f, h[39]? = some (aC 0 4096 f) := by
  obtain ⟨f26, f27, f28, f29, f30, f31, f32, f33, f34, f35, f36, f37, f38, f39, f40, f41, f42⟩ := F
  exact f39
theorem MFix.r40 (F : MFix h) : ∃ f, h[40]? = some (aC 0 4096 f) := by
  obtain ⟨f26, f27, f28, f29, f30, f31, f32, f33, f34, f35, f36, f37, f38, f39, f40, f41, f42⟩ := F
  exact f40
theorem MFix.r41 (F : MFix h) : ∃ f, h[41]? = some (aC 0 4096 f) := by
  obtain ⟨f26, f27, f28, f29, f30, f31, f32, f33, f34, f35, f36, f37, f38, f39, f40, f41, f42⟩ := F
  exact f41
theorem MFix.r42 (F : MFix h) : ∃ f, h[42]? = some (aC 0 9 f) := by
  obtain ⟨f26, f27, f28, f29, f30, f31, f32, f33, f34, f35, f36, f37, f38, f39, f40, f41, f42⟩ := F
  exact f42
theorem MFix.of {h' : Hp} (F : MFix h) (hk : ∀ i, 26 ≤ i → i < 43 → h'[i]? = h[i]?) : MFix h' := by
  obtain ⟨f26, f27, f28, f29, f30, f31, f32, f33, f34, f35, f36, f37, f38, f39, f40, f41, f42⟩ := F
  exact ⟨f26.imp fun _ q => (hk 26 (by decide) (by decide)).trans q, f27.imp fun _ q => (hk 27 (by decide) (by decide)).trans q, f28.imp fun _ q => (hk 28 (by decide) (by decide)).trans q, f29.imp fun _ q => (hk 29 (by decide) (by decide)).trans q, f30.imp fun _ q => (hk 30 (by decide) (by decide)).trans q, f31.imp fun _ q => (hk 31 (by decide) (by decide)).trans q, f32.imp fun _ q => (hk 32 (by decide) (by decide)).trans q, f33.imp fun _ q => (hk 33 (by decide) (by decide)).trans q, f34.imp fun _ q => (hk 34 (by decide) (by decide)).trans q, f35.imp fun _ q => (hk 35 (by decide) (by decide)).trans q, f36.imp fun _ q => (hk 36 (by decide) (by decide)).trans q, f37.imp fun _ q => (hk 37 (by decide) (by decide)).trans q, f38.imp fun _ q => (hk 38 (by decide) (by decide)).trans q, f39.imp fun _ q => (hk 39 (by decide) (by decide)).trans q, f40.imp fun _ q => (hk 40 (by decide) (by decide)).trans q, f41.imp fun _ q => (hk 41 (by decide) (by decide)).trans q, f42.imp fun _ q => (hk 42 (by decide) (by decide)).trans q⟩
theorem MFix.o {i : Nat} {c : HC} (F : MFix h) (hi : i < 26 ∨ 42 < i) : MFix (h.set i c) := F.of fun j h1 h2 => st_n (by omega)
theorem MFix.s26 {f : Nat → Int32} (F : MFix h) : MFix (h.set 26 (aC 0 100 f)) := by
  obtain ⟨f26, f27, f28, f29, f30, f31, f32, f33, f34, f35, f36, f37, f38, f39, f40, f41, f42⟩ := F
  exact ⟨(f26.elim fun _ q => ⟨f, st_s q⟩), f27.imp fun _ q => st_n' (by decide) q, f28.imp fun _ q => st_n' (by decide) q, f29.imp fun _ q => st_n' (by decide) q, f30.imp fun _ q => st_n' (by decide) q, f31.imp fun _ q => st_n' (by decide) q, f32.imp fun _ q => st_n' (by decide) q, f33.imp fun _ q => st_n' (by decide) q, f34.imp fun _ q => st_n' (by decide) q, f35.imp fun _ q => st_n' (by decide) q, f36.imp fun _ q => st_n' (by decide) q, f37.imp fun _ q => st_n' (by decide) q, f38.imp fun _ q => st_n' (by decide) q, f39.imp fun _ q => st_n' (by decide) q, f40.imp fun _ q => st_n' (by decide) q, f41.imp fun _ q => st_n' (by decide) q, f42.imp fun _ q => st_n' (by decide) q⟩
theorem MFix.s27 {f : Nat → Int32} (F : MFix h) : MFix (h.set 27 (aC 0 100 f)) := by
  obtain ⟨f26, f27, f28, f29, f30, f31, f32, f33, f34, f35, f36, f37, f38, f39, f40, f41, f42⟩ := F
  exact ⟨f26.imp fun _ q => st_n' (by decide) q, (f27.elim fun _ q => ⟨f, st_s q⟩), f28.imp fun _ q => st_n' (by decide) q, f29.imp fun _ q => st_n' (by decide) q, f30.imp fun _ q => st_n' (by decide) q, f31.imp fun _ q => st_n' (by decide) q, f32.imp fun _ q => st_n' (by decide) q, f33.imp fun _ q => st_n' (by decide) q, f34.imp fun _ q => st_n' (by decide) q, f35.imp fun _ q => st_n' (by decide) q, f36.imp fun _ q => st_n' (by decide) q, f37.imp fun _ q => st_n' (by decide) q, f38.imp fun _ q => st_n' (by decide) q, f39.imp fun _ q => st_n' (by decide) q, f40.imp fun _ q => st_n' (by decide) q, f41.imp fun _ q => st_n' (by decide) q, f42.imp fun _ q => st_n' (by decide) q⟩
theorem MFix.s28 {f : Nat → Int64} (F : MFix h) : MFix (h.set 28 (lC 189 f)) := by
  obtain ⟨f26, f27, f28, f29, f30, f31, f32, f33, f34, f35, f36, f37, f38, f39, f40, f41, f42⟩ := F
  exact ⟨f26.imp fun _ q => st_n' (by decide) q, f27.imp fun _ q => st_n' (by decide) q, (f28.elim fun _ q => ⟨f, st_s q⟩), f29.imp fun _ q => st_n' (by decide) q, f30.imp fun _ q => st_n' (by decide) q, f31.imp fun _ q => st_n' (by decide) q, f32.imp fun _ q => st_n' (by decide) q, f33.imp fun _ q => st_n' (by decide) q, f34.imp fun _ q => st_n' (by decide) q, f35.imp fun _ q => st_n' (by decide) q, f36.imp fun _ q => st_n' (by decide) q, f37.imp fun _ q => st_n' (by decide) q, f38.imp fun _ q => st_n' (by decide) q, f39.imp fun _ q => st_n' (by decide) q, f40.imp fun _ q => st_n' (by decide) q, f41.imp fun _ q => st_n' (by decide) q, f42.imp fun _ q => st_n' (by decide) q⟩
theorem MFix.s29 {f : Nat → Int32} (F : MFix h) : MFix (h.set 29 (aC 2 81 f)) := by
  obtain ⟨f26, f27, f28, f29, f30, f31, f32, f33, f34, f35, f36, f37, f38, f39, f40, f41, f42⟩ := F
  exact ⟨f26.imp fun _ q => st_n' (by decide) q, f27.imp fun _ q => st_n' (by decide) q, f28.imp fun _ q => st_n' (by decide) q, (f29.elim fun _ q => ⟨f, st_s q⟩), f30.imp fun _ q => st_n' (by decide) q, f31.imp fun _ q => st_n' (by decide) q, f32.imp fun _ q => st_n' (by decide) q, f33.imp fun _ q => st_n' (by decide) q, f34.imp fun _ q => st_n' (by decide) q, f35.imp fun _ q => st_n' (by decide) q, f36.imp fun _ q => st_n' (by decide) q, f37.imp fun _ q => st_n' (by decide) q, f38.imp fun _ q => st_n' (by decide) q, f39.imp fun _ q => st_n' (by decide) q, f40.imp fun _ q => st_n' (by decide) q, f41.imp fun _ q => st_n' (by decide) q, f42.imp fun _ q => st_n' (by decide) q⟩
theorem MFix.s30 {f : Nat → Int32} (F : MFix h) : MFix (h.set 30 (aC 2 81 f)) := by
  obtain ⟨f26, f27, f28, f29, f30, f31, f32, f33, f34, f35, f36, f37, f38, f39, f40, f41, f42⟩ := F
  exact ⟨f26.imp fun _ q => st_n' (by decide) q, f27.imp fun _ q => st_n' (by decide) q, f28.imp fun _ q => st_n' (by decide) q, f29.imp fun _ q => st_n' (by decide) q, (f30.elim fun _ q => ⟨f, st_s q⟩), f31.imp fun _ q => st_n' (by decide) q, f32.imp fun _ q => st_n' (by decide) q, f33.imp fun _ q => st_n' (by decide) q, f34.imp fun _ q => st_n' (by decide) q, f35.imp fun _ q => st_n' (by decide) q, f36.imp fun _ q => st_n' (by decide) q, f37.imp fun _ q => st_n' (by decide) q, f38.imp fun _ q => st_n' (by decide) q, f39.imp fun _ q => st_n' (by decide) q, f40.imp fun _ q => st_n' (by decide) q, f41.imp fun _ q => st_n' (by decide) q, f42.imp fun _ q => st_n' (by decide) q⟩
theorem MFix.s31 {f : Nat → Int32} (F : MFix h) : MFix (h.set 31 (aC 0 512 f)) := by
  obtain ⟨f26, f27, f28, f29, f30, f31, f32, f33, f34, f35, f36, f37, f38, f39, f40, f41, f42⟩ := F
  exact ⟨f26.imp fun _ q => st_n' (by decide) q, f27.imp fun _ q => st_n' (by decide) q, f28.imp fun _ q => st_n' (by decide) q, f29.imp fun _ q => st_n' (by decide) q, f30.imp fun _ q => st_n' (by decide) q, (f31.elim fun _ q => ⟨f, st_s q⟩), f32.imp fun _ q => st_n' (by decide) q, f33.imp fun _ q => st_n' (by decide) q, f34.imp fun _ q => st_n' (by decide) q, f35.imp fun _ q => st_n' (by decide) q, f36.imp fun _ q => st_n' (by decide) q, f37.imp fun _ q => st_n' (by decide) q, f38.imp fun _ q => st_n' (by decide) q, f39.imp fun _ q => st_n' (by decide) q, f40.imp fun _ q => st_n' (by decide) q, f41.imp fun _ q => st_n' (by decide) q, f42.imp fun _ q => st_n' (by decide) q⟩
theorem MFix.s32 {f : Nat → Int32} (F : MFix h) : MFix (h.set 32 (aC 0 512 f)) := by
  obtain ⟨f26, f27, f28, f29, f30, f31, f32, f33, f34, f35, f36, f37, f38, f39, f40, f41, f42⟩ := F
  exact ⟨f26.imp fun _ q => st_n' (by decide) q, f27.imp fun _ q => st_n' (by decide) q, f28.imp fun _ q => st_n' (by decide) q, f29.imp fun _ q => st_n' (by decide) q, f30.imp fun _ q => st_n' (by decide) q, f31.imp fun _ q => st_n' (by decide) q, (f32.elim fun _ q => ⟨f, st_s q⟩), f33.imp fun _ q => st_n' (by decide) q, f34.imp fun _ q => st_n' (by decide) q, f35.imp fun _ q => st_n' (by decide) q, f36.imp fun _ q => st_n' (by decide) q, f37.imp fun _ q => st_n' (by decide) q, f38.imp fun _ q => st_n' (by decide) q, f39.imp fun _ q => st_n' (by decide) q, f40.imp fun _ q => st_n' (by decide) q, f41.imp fun _ q => st_n' (by decide) q, f42.imp fun _ q => st_n' (by decide) q⟩
theorem MFix.s33 {f : Nat → Int32} (F : MFix h) : MFix (h.set 33 (aC 0 512 f)) := by
  obtain ⟨f26, f27, f28, f29, f30, f31, f32, f33, f34, f35, f36, f37, f38, f39, f40, f41, f42⟩ := F
  exact ⟨f26.imp fun _ q => st_n' (by decide) q, f27.imp fun _ q => st_n' (by decide) q, f28.imp fun _ q => st_n' (by decide) q, f29.imp fun _ q => st_n' (by decide) q, f30.imp fun _ q => st_n' (by decide) q, f31.imp fun _ q => st_n' (by decide) q, f32.imp fun _ q => st_n' (by decide) q, (f33.elim fun _ q => ⟨f, st_s q⟩), f34.imp fun _ q => st_n' (by decide) q, f35.imp fun _ q => st_n' (by decide) q, f36.imp fun _ q => st_n' (by decide) q, f37.imp fun _ q => st_n' (by decide) q, f38.imp fun _ q => st_n' (by decide) q, f39.imp fun _ q => st_n' (by decide) q, f40.imp fun _ q => st_n' (by decide) q, f41.imp fun _ q => st_n' (by decide) q, f42.imp fun _ q => st_n' (by decide) q⟩
theorem MFix.s34 {f : Nat → Int32} (F : MFix h) : MFix (h.set 34 (aC 2 512 f)) := by
  obtain ⟨f26, f27, f28, f29, f30, f31, f32, f33, f34, f35, f36, f37, f38, f39, f40, f41, f42⟩ := F
  exact ⟨f26.imp fun _ q => st_n' (by decide) q, f27.imp fun _ q => st_n' (by decide) q, f28.imp fun _ q => st_n' (by decide) q, f29.imp fun _ q => st_n' (by decide) q, f30.imp fun _ q => st_n' (by decide) q, f31.imp fun _ q => st_n' (by decide) q, f32.imp fun _ q => st_n' (by decide) q, f33.imp fun _ q => st_n' (by decide) q, (f34.elim fun _ q => ⟨f, st_s q⟩), f35.imp fun _ q => st_n' (by decide) q, f36.imp fun _ q => st_n' (by decide) q, f37.imp fun _ q => st_n' (by decide) q, f38.imp fun _ q => st_n' (by decide) q, f39.imp fun _ q => st_n' (by decide) q, f40.imp fun _ q => st_n' (by decide) q, f41.imp fun _ q => st_n' (by decide) q, f42.imp fun _ q => st_n' (by decide) q⟩
theorem MFix.s35 {f : Nat → Int32} (F : MFix h) : MFix (h.set 35 (aC 0 27 f)) := by
  obtain ⟨f26, f27, f28, f29, f30, f31, f32, f33, f34, f35, f36, f37, f38, f39, f40, f41, f42⟩ := F
  exact ⟨f26.imp fun _ q => st_n' (by decide) q, f27.imp fun _ q => st_n' (by decide) q, f28.imp fun _ q => st_n' (by decide) q, f29.imp fun _ q => st_n' (by decide) q, f30.imp fun _ q => st_n' (by decide) q, f31.imp fun _ q => st_n' (by decide) q, f32.imp fun _ q => st_n' (by decide) q, f33.imp fun _ q => st_n' (by decide) q, f34.imp fun _ q => st_n' (by decide) q, (f35.elim fun _ q => ⟨f, st_s q⟩), f36.imp fun _ q => st_n' (by decide) q, f37.imp fun _ q => st_n' (by decide) q, f38.imp fun _ q => st_n' (by decide) q, f39.imp fun _ q => st_n' (by decide) q, f40.imp fun _ q => st_n' (by decide) q, f41.imp fun _ q => st_n' (by decide) q, f42.imp fun _ q => st_n' (by decide) q⟩
theorem MFix.s36 {f : Nat → Int64} (F : MFix h) : MFix (h.set 36 (lC 20002 f)) := by
  obtain ⟨f26, f27, f28, f29, f30, f31, f32, f33, f34, f35, f36, f37, f38, f39, f40, f41, f42⟩ := F
  exact ⟨f26.imp fun _ q => st_n' (by decide) q, f27.imp fun _ q => st_n' (by decide) q, f28.imp fun _ q => st_n' (by decide) q, f29.imp fun _ q => st_n' (by decide) q, f30.imp fun _ q => st_n' (by decide) q, f31.imp fun _ q => st_n' (by decide) q, f32.imp fun _ q => st_n' (by decide) q, f33.imp fun _ q => st_n' (by decide) q, f34.imp fun _ q => st_n' (by decide) q, f35.imp fun _ q => st_n' (by decide) q, (f36.elim fun _ q => ⟨f, st_s q⟩), f37.imp fun _ q => st_n' (by decide) q, f38.imp fun _ q => st_n' (by decide) q, f39.imp fun _ q => st_n' (by decide) q, f40.imp fun _ q => st_n' (by decide) q, f41.imp fun _ q => st_n' (by decide) q, f42.imp fun _ q => st_n' (by decide) q⟩
theorem MFix.s37 {f : Nat → Int32} (F : MFix h) : MFix (h.set 37 (aC 0 65536 f)) := by
  obtain ⟨f26, f27, f28, f29, f30, f31, f32, f33, f34, f35, f36, f37, f38, f39, f40, f41, f42⟩ := F
  exact ⟨f26.imp fun _ q => st_n' (by decide) q, f27.imp fun _ q => st_n' (by decide) q, f28.imp fun _ q => st_n' (by decide) q, f29.imp fun _ q => st_n' (by decide) q, f30.imp fun _ q => st_n' (by decide) q, f31.imp fun _ q => st_n' (by decide) q, f32.imp fun _ q => st_n' (by decide) q, f33.imp fun _ q => st_n' (by decide) q, f34.imp fun _ q => st_n' (by decide) q, f35.imp fun _ q => st_n' (by decide) q, f36.imp fun _ q => st_n' (by decide) q, (f37.elim fun _ q => ⟨f, st_s q⟩), f38.imp fun _ q => st_n' (by decide) q, f39.imp fun _ q => st_n' (by decide) q, f40.imp fun _ q => st_n' (by decide) q, f41.imp fun _ q => st_n' (by decide) q, f42.imp fun _ q => st_n' (by decide) q⟩
theorem MFix.s38 {f : Nat → Int32} (F : MFix h) : MFix (h.set 38 (aC 0 4096 f)) := by
  obtain ⟨f26, f27, f28, f29, f30, f31, f32, f33, f34, f35, f36, f37, f38, f39, f40, f41, f42⟩ := F
  exact ⟨f26.imp fun _ q => st_n' (by decide) q, f27.imp fun _ q => st_n' (by decide) q, f28.imp fun _ q => st_n' (by decide) q, f29.imp fun _ q => st_n' (by decide) q, f30.imp fun _ q => st_n' (by decide) q, f31.imp fun _ q => st_n' (by decide) q, f32.imp fun _ q => st_n' (by decide) q, f33.imp fun _ q => st_n' (by decide) q, f34.imp fun _ q => st_n' (by decide) q, f35.imp fun _ q => st_n' (by decide) q, f36.imp fun _ q => st_n' (by decide) q, f37.imp fun _ q => st_n' (by decide) q, (f38.elim fun _ q => ⟨f, st_s q⟩), f39.imp fun _ q => st_n' (by decide) q, f40.imp fun _ q => st_n' (by decide) q, f41.imp fun _ q => st_n' (by decide) q, f42.imp fun _ q => st_n' (by decide) q⟩
theorem MFix.s39 {f : Nat → Int32} (F : MFix h) : MFix (h.set 39 (aC 0 4096 f)) := by
  obtain ⟨f26, f27, f28, f29, f30, f31, f32, f33, f34, f35, f36, f37, f38, f39, f40, f41, f42⟩ := F
  exact ⟨f26.imp fun _ q => st_n' (by decide) q, f27.imp fun _ q => st_n' (by decide) q, f28.imp fun _ q => st_n' (by decide) q, f29.imp fun _ q => st_n' (by decide) q, f30.imp fun _ q => st_n' (by decide) q, f31.imp fun _ q => st_n' (by decide) q, f32.imp fun _ q => st_n' (by decide) q, f33.imp fun _ q => st_n' (by decide) q, f34.imp fun _ q => st_n' (by decide) q, f35.imp fun _ q => st_n' (by decide) q, f36.imp fun _ q => st_n' (by decide) q, f37.imp fun _ q => st_n' (by decide) q, f38.imp fun _ q => st_n' (by decide) q, (f39.elim fun _ q => ⟨f, st_s q⟩), f40.imp fun _ q => st_n' (by decide) q, f41.imp fun _ q => st_n' (by decide) q, f42.imp fun _ q => st_n' (by decide) q⟩
theorem MFix.s40 {f : Nat → Int32} (F : MFix h) : MFix (h.set 40 (aC 0 4096 f)) := by
  obtain ⟨f26, f27, f28, f29, f30, f31, f32, f33, f34, f35, f36, f37, f38, f39, f40, f41, f42⟩ := F
  exact ⟨f26.imp fun _ q => st_n' (by decide) q, f27.imp fun _ q => st_n' (by decide) q, f28.imp fun _ q => st_n' (by decide) q, f29.imp fun _ q => st_n' (by decide) q, f30.imp fun _ q => st_n' (by decide) q, f31.imp fun _ q => st_n' (by decide) q, f32.imp fun _ q => st_n' (by decide) q, f33.imp fun _ q => st_n' (by decide) q, f34.imp fun _ q => st_n' (by decide) q, f35.imp fun _ q => st_n' (by decide) q, f36.imp fun _ q => st_n' (by decide) q, f37.imp fun _ q => st_n' (by decide) q, f38.imp fun _ q => st_n' (by decide) q, f39.imp fun _ q => st_n' (by decide) q, (f40.elim fun _ q => ⟨f, st_s q⟩), f41.imp fun _ q => st_n' (by decide) q, f42.imp fun _ q => st_n' (by decide) q⟩
theorem MFix.s41 {f : Nat → Int32} (F : MFix h) : MFix (h.set 41 (aC 0 4096 f)) := by
  obtain ⟨f26, f27, f28, f29, f30, f31, f32, f33, f34, f35, f36, f37, f38, f39, f40, f41, f42⟩ := F
  exact ⟨f26.imp fun _ q => st_n' (by decide) q, f27.imp fun _ q => st_n' (by decide) q, f28.imp fun _ q => st_n' (by decide) q, f29.imp fun _ q => st_n' (by decide) q, f30.imp fun _ q => st_n' (by decide) q, f31.imp fun _ q => st_n' (by decide) q, f32.imp fun _ q => st_n' (by decide) q, f33.imp fun _ q => st_n' (by decide) q, f34.imp fun _ q => st_n' (by decide) q, f35.imp fun _ q => st_n' (by decide) q, f36.imp fun _ q => st_n' (by decide) q, f37.imp fun _ q => st_n' (by decide) q, f38.imp fun _ q => st_n' (by decide) q, f39.imp fun _ q => st_n' (by decide) q, f40.imp fun _ q => st_n' (by decide) q, (f41.elim fun _ q => ⟨f, st_s q⟩), f42.imp fun _ q => st_n' (by decide) q⟩
theorem MFix.s42 {f : Nat → Int32} (F : MFix h) : MFix (h.set 42 (aC 0 9 f)) := by
  obtain ⟨f26, f27, f28, f29, f30, f31, f32, f33, f34, f35, f36, f37, f38, f39, f40, f41, f42⟩ := F
  exact ⟨f26.imp fun _ q => st_n' (by decide) q, f27.imp fun _ q => st_n' (by decide) q, f28.imp fun _ q => st_n' (by decide) q, f29.imp fun _ q => st_n' (by decide) q, f30.imp fun _ q => st_n' (by decide) q, f31.imp fun _ q => st_n' (by decide) q, f32.imp fun _ q => st_n' (by decide) q, f33.imp fun _ q => st_n' (by decide) q, f34.imp fun _ q => st_n' (by decide) q, f35.imp fun _ q => st_n' (by decide) q, f36.imp fun _ q => st_n' (by decide) q, f37.imp fun _ q => st_n' (by decide) q, f38.imp fun _ q => st_n' (by decide) q, f39.imp fun _ q => st_n' (by decide) q, f40.imp fun _ q => st_n' (by decide) q, f41.imp fun _ q => st_n' (by decide) q, (f42.elim fun _ q => ⟨f, st_s q⟩)⟩
end MX
/-- the class's cells stay -/
def Dn (h h' : Hp) : Prop := h'.length = h.length ∧ ∀ i, i < 20 ∨ 43 ≤ i → h'[i]? = h[i]?
theorem Dn.rf {h : Hp} : Dn h h := ⟨rfl, fun _ _ => rfl⟩
theorem Dn.tn {h h1 h2 : Hp} (a : Dn h h1) (b : Dn h1 h2) : Dn h h2 := ⟨b.1.trans a.1, fun i hi => (b.2 i hi).trans (a.2 i hi)⟩
theorem Dn.st {h h1 : Hp} {i : Nat} {c : HC} (a : Dn h h1) (hi : 20 ≤ i ∧ i < 43) : Dn h (h1.set i c) := ⟨by rw [List.length_set]; exact a.1, fun j hj => by rw [st_n (by omega)]; exact a.2 j hj⟩
theorem CInv.dn {SV : SVP} {h h' : Hp} {tl : Nat} {tp : Nat → Nat} {sl : SL} {ol : Nat} {of : Nat → Nat} {rd tr su : Nat} (I : CInv SV h tl tp sl ol of rd tr su) (d : Dn h h') : CInv SV h' tl tp sl ol of rd tr su := by
  obtain ⟨he, th, sf, tf, uf, e2, e3, e4, a1, a2, a3, a4, e5, a5, e6, a6, e7, a7, cf, aT, aS, aL⟩ := I
  have lo : ∀ {i : Nat} {c : HC}, i < 20 → h[i]? = some c → h'[i]? = some c := fun hi e => (d.2 _ (Or.inl hi)).trans e
  have hi : ∀ {i : Nat} {c : HC}, 43 ≤ i → h[i]? = some c → h'[i]? = some c := fun hi e => (d.2 _ (Or.inr hi)).trans e
  have ru : ∀ {a k r : Nat} {F : Nat → Nat}, 44 ≤ a → RuleAt h a (a + 1) k r F → RuleAt h' a (a + 1) k r F := fun ha R => by
    obtain ⟨h1, h2, h3, h4, f, h5, h6⟩ := R
    exact ⟨h1, h2, h3, hi (by omega) h4, f, hi (by omega) h5, h6⟩
  refine ⟨he, th, sf, tf, uf, lo (by decide) e2, lo (by decide) e3, lo (by decide) e4, a1, a2, a3, a4, lo (by decide) e5, fun s hs => ?_, lo (by decide) e6, a6, lo (by decide) e7, a7, ?_, ?_, ?_, by rw [d.1]; exact aL⟩
  · have := a5 s hs
    generalize sl s = z at this ⊢
    match z, this with
    | none, s => exact s
    | some q, ⟨h1, h2, h3⟩ => exact ⟨h1, h2, ru h1 h3⟩
  · obtain ⟨f8, f9, f10, f11, f12, f13, f14, f15, f16, f17, f18, f19⟩ := cf
    exact ⟨f8.imp fun _ q => lo (by decide) q, f9.imp fun _ q => lo (by decide) q, f10.imp fun _ q => lo (by decide) q, f11.imp fun _ q => q.imp fun _ q => lo (by decide) q, f12.imp fun _ q => lo (by decide) q, f13.imp fun _ q => lo (by decide) q, f14.imp fun _ q => lo (by decide) q, f15.imp fun _ q => lo (by decide) q, f16.imp fun _ q => lo (by decide) q, f17.imp fun _ q => lo (by decide) q, lo (by decide) f18, f19.imp fun _ q => lo (by decide) q⟩
  · rcases aT with z | ⟨t4, x, y, rl, fc, g1, g2, b0, b1, b2, b3, b5⟩
    · exact Or.inl z
    · exact Or.inr ⟨t4, x, y, rl, fc, g1, g2, hi (by omega) b0, hi (by omega) b1, hi (by omega) b2, hi (by omega) b3, b5⟩
  · rcases aS with z | ⟨h0, ru0, n, x0, x1, x2, x3, x4, f1, f2, f3, f4, f5, f6, h1, h2, h3, h4, h5, h6, h7, h8⟩
    · exact Or.inl z
    · refine Or.inr ⟨h0, ru0, n, x0, x1, x2, x3, x4, f1, f2, f3, f4, f5, f6, hi (by omega) h1, hi (by omega) h2, hi (by omega) h3, hi (by omega) h4, hi (by omega) h5, hi (by omega) h6, hi (by omega) h7, ?_⟩
      rcases h8 with h8 | ⟨h9, q, N, g, R, rest⟩
      · exact Or.inl h8
      · exact Or.inr ⟨h9, q, N, g, ru h9 R, rest⟩
/-- a byte of the tape as the model holds it -/
def byM (b : Nat) : Int32 := (nI b).toInt8.toInt32
/-- a slot as the model holds it -/
def MSlot (stf wdf tbf : Nat → Int32) (s : Nat) (x : Option (Nat × Nat × (Nat → Nat))) : Prop := match x with
  | none => stf s = nI 0
  | some q => GR q.1 q.2.1 q.2.2 ∧ stf s = nI q.1 ∧ wdf s = nI q.2.1 ∧ ∀ w, w < q.1 ^ q.2.1 → tbf (27 * s + w) = nI (q.2.2 w)
/-- the model at a state: the same words as the class's; thr: whether the last call threw -/
def MInv (h : Hp) (thr sz : Int32) (tl : Nat) (tp : Nat → Nat) (sl : SL) (ol : Nat) (of : Nat → Nat) (rd : Nat) : Prop :=
  ∃ (tpf stf wdf tbf otf : Nat → Int32), h[20]? = some (mob thr (nI tl) sz (nI ol) (nI rd)) ∧ tl ≤ 100 ∧ ol ≤ 512 ∧ rd < 100000 ∧ h[21]? = some (aC 1 100 tpf) ∧ (∀ i, i < tl → tpf i = byM (tp i) ∧ tp i < 256) ∧ h[22]? = some (aC 0 6 stf) ∧ h[23]? = some (aC 0 6 wdf) ∧ h[24]? = some (aC 0 189 tbf) ∧ (∀ s, s < 6 → MSlot stf wdf tbf s (sl s)) ∧ h[25]? = some (aC 1 600 otf) ∧ (∀ i, i < ol → otf i = nI (of i) ∧ of i < 4) ∧ MFix h
theorem MInv.mid {h h' : Hp} {thr sz : Int32} {tl : Nat} {tp : Nat → Nat} {sl : SL} {ol : Nat} {of : Nat → Nat} {rd : Nat} (I : MInv h thr sz tl tp sl ol of rd) (d : Mid h h') : MInv h' thr sz tl tp sl ol of rd := by
  obtain ⟨tpf, stf, wdf, tbf, otf, e0, a1, a2, a3, e1, b1, e2, e3, e4, b2, e5, b3, F⟩ := I
  have lo : ∀ {i : Nat} {c : HC}, 20 ≤ i → i < 44 → h[i]? = some c → h'[i]? = some c := fun h1 h2 e => d _ _ h1 h2 e
  refine ⟨tpf, stf, wdf, tbf, otf, lo (by decide) (by decide) e0, a1, a2, a3, lo (by decide) (by decide) e1, b1, lo (by decide) (by decide) e2, lo (by decide) (by decide) e3, lo (by decide) (by decide) e4, b2, lo (by decide) (by decide) e5, b3, ?_⟩
  obtain ⟨f26, f27, f28, f29, f30, f31, f32, f33, f34, f35, f36, f37, f38, f39, f40, f41, f42⟩ := F
  exact ⟨f26.imp fun _ q => lo (by decide) (by decide) q, f27.imp fun _ q => lo (by decide) (by decide) q, f28.imp fun _ q => lo (by decide) (by decide) q, f29.imp fun _ q => lo (by decide) (by decide) q, f30.imp fun _ q => lo (by decide) (by decide) q, f31.imp fun _ q => lo (by decide) (by decide) q, f32.imp fun _ q => lo (by decide) (by decide) q, f33.imp fun _ q => lo (by decide) (by decide) q, f34.imp fun _ q => lo (by decide) (by decide) q, f35.imp fun _ q => lo (by decide) (by decide) q, f36.imp fun _ q => lo (by decide) (by decide) q, f37.imp fun _ q => lo (by decide) (by decide) q, f38.imp fun _ q => lo (by decide) (by decide) q, f39.imp fun _ q => lo (by decide) (by decide) q, f40.imp fun _ q => lo (by decide) (by decide) q, f41.imp fun _ q => lo (by decide) (by decide) q, f42.imp fun _ q => lo (by decide) (by decide) q⟩

section XR
variable {g : XG} {p : Program} {l : Launch} {e : Env} {R : Room} {s : State} {m : MethodId} {args : Array Value} {below : List Frame} {meth : Method} {c : Code} {Q : State → Prop} {cc : ByteArray} {own : String} {nL k n : Nat} {Ts : List Cond} {h : Hp} {pc pc' : Nat} {lv : List (Option XV)} {st : List XV}
theorem x_iadd (C : x_C g p s m args c cc own nL Ts) {x y : Int32} (d : decode cc pc = .ok (.iadd, 1)) (e1 : pc + 1 = pc') (K : XW g p l e R s m args below meth c Q nL k n h pc' lv (vI (x + y) :: st)) : XW g p l e R s m args below meth c Q nL k n h pc lv (vI y :: vI x :: st) := by
  subst e1
  intro H locs ls cells slots hS hl hc hn
  exact lv_iadd C.1.1 C.1.2.1 d (K H locs ls cells slots hS hl hc hn)
theorem x_isub (C : x_C g p s m args c cc own nL Ts) {x y : Int32} (d : decode cc pc = .ok (.isub, 1)) (e1 : pc + 1 = pc') (K : XW g p l e R s m args below meth c Q nL k n h pc' lv (vI (x - y) :: st)) : XW g p l e R s m args below meth c Q nL k n h pc lv (vI y :: vI x :: st) := by
  subst e1
  intro H locs ls cells slots hS hl hc hn
  exact lv_isub C.1.1 C.1.2.1 d (K H locs ls cells slots hS hl hc hn)
theorem x_imul (C : x_C g p s m args c cc own nL Ts) {x y : Int32} (d : decode cc pc = .ok (.imul, 1)) (e1 : pc + 1 = pc') (K : XW g p l e R s m args below meth c Q nL k n h pc' lv (vI (x * y) :: st)) : XW g p l e R s m args below meth c Q nL k n h pc lv (vI y :: vI x :: st) := by
  subst e1
  intro H locs ls cells slots hS hl hc hn
  exact lv_imul C.1.1 C.1.2.1 d (K H locs ls cells slots hS hl hc hn)
theorem x_iand (C : x_C g p s m args c cc own nL Ts) {x y : Int32} (d : decode cc pc = .ok (.iand, 1)) (e1 : pc + 1 = pc') (K : XW g p l e R s m args below meth c Q nL k n h pc' lv (vI (x &&& y) :: st)) : XW g p l e R s m args below meth c Q nL k n h pc lv (vI y :: vI x :: st) := by
  subst e1
  intro H locs ls cells slots hS hl hc hn
  exact lv_iand C.1.1 C.1.2.1 d (K H locs ls cells slots hS hl hc hn)
theorem x_ior (C : x_C g p s m args c cc own nL Ts) {x y : Int32} (d : decode cc pc = .ok (.ior, 1)) (e1 : pc + 1 = pc') (K : XW g p l e R s m args below meth c Q nL k n h pc' lv (vI (x ||| y) :: st)) : XW g p l e R s m args below meth c Q nL k n h pc lv (vI y :: vI x :: st) := by
  subst e1
  intro H locs ls cells slots hS hl hc hn
  exact lv_ior C.1.1 C.1.2.1 d (K H locs ls cells slots hS hl hc hn)
theorem x_ishl (C : x_C g p s m args c cc own nL Ts) {x y : Int32} (d : decode cc pc = .ok (.ishl, 1)) (e1 : pc + 1 = pc') (K : XW g p l e R s m args below meth c Q nL k n h pc' lv (vI (x <<< (y &&& 31)) :: st)) : XW g p l e R s m args below meth c Q nL k n h pc lv (vI y :: vI x :: st) := by
  subst e1
  intro H locs ls cells slots hS hl hc hn
  exact lv_ishl C.1.1 C.1.2.1 d (K H locs ls cells slots hS hl hc hn)
theorem x_ishr (C : x_C g p s m args c cc own nL Ts) {x y : Int32} (d : decode cc pc = .ok (.ishr, 1)) (e1 : pc + 1 = pc') (K : XW g p l e R s m args below meth c Q nL k n h pc' lv (vI (x >>> (y &&& 31)) :: st)) : XW g p l e R s m args below meth c Q nL k n h pc lv (vI y :: vI x :: st) := by
  subst e1
  intro H locs ls cells slots hS hl hc hn
  exact lv_ishr C.1.1 C.1.2.1 d (K H locs ls cells slots hS hl hc hn)
theorem x_iushr (C : x_C g p s m args c cc own nL Ts) {x y : Int32} (d : decode cc pc = .ok (.iushr, 1)) (e1 : pc + 1 = pc') (K : XW g p l e R s m args below meth c Q nL k n h pc' lv (vI ((x.toUInt32 >>> (y.toUInt32 &&& Int32.toUInt32 31)).toInt32) :: st)) : XW g p l e R s m args below meth c Q nL k n h pc lv (vI y :: vI x :: st) := by
  subst e1
  intro H locs ls cells slots hS hl hc hn
  exact lv_iushr C.1.1 C.1.2.1 d rfl (K H locs ls cells slots hS hl hc hn)
theorem x_ladd (C : x_C g p s m args c cc own nL Ts) {x y : Int64} (d : decode cc pc = .ok (.ladd, 1)) (e1 : pc + 1 = pc') (K : XW g p l e R s m args below meth c Q nL k n h pc' lv (vL (x + y) :: st)) : XW g p l e R s m args below meth c Q nL k n h pc lv (vL y :: vL x :: st) := by
  subst e1
  intro H locs ls cells slots hS hl hc hn
  exact lv_ladd C.1.1 C.1.2.1 d (K H locs ls cells slots hS hl hc hn)
theorem x_lmul (C : x_C g p s m args c cc own nL Ts) {x y : Int64} (d : decode cc pc = .ok (.lmul, 1)) (e1 : pc + 1 = pc') (K : XW g p l e R s m args below meth c Q nL k n h pc' lv (vL (x * y) :: st)) : XW g p l e R s m args below meth c Q nL k n h pc lv (vL y :: vL x :: st) := by
  subst e1
  intro H locs ls cells slots hS hl hc hn
  exact lv_lmul C.1.1 C.1.2.1 d (K H locs ls cells slots hS hl hc hn)
theorem x_land (C : x_C g p s m args c cc own nL Ts) {x y : Int64} (d : decode cc pc = .ok (.land, 1)) (e1 : pc + 1 = pc') (K : XW g p l e R s m args below meth c Q nL k n h pc' lv (vL (x &&& y) :: st)) : XW g p l e R s m args below meth c Q nL k n h pc lv (vL y :: vL x :: st) := by
  subst e1
  intro H locs ls cells slots hS hl hc hn
  exact lv_land C.1.1 C.1.2.1 d (K H locs ls cells slots hS hl hc hn)
theorem x_lshr (C : x_C g p s m args c cc own nL Ts) {x : Int64} {y : Int32} (d : decode cc pc = .ok (.lshr, 1)) (e1 : pc + 1 = pc') (K : XW g p l e R s m args below meth c Q nL k n h pc' lv (vL (x >>> (y.toInt64 &&& 63)) :: st)) : XW g p l e R s m args below meth c Q nL k n h pc lv (vI y :: vL x :: st) := by
  subst e1
  intro H locs ls cells slots hS hl hc hn
  exact lv_lshr C.1.1 C.1.2.1 d rfl (K H locs ls cells slots hS hl hc hn)
theorem x_lcmp (C : x_C g p s m args c cc own nL Ts) {x y : Int64} (d : decode cc pc = .ok (.lcmp, 1)) (e1 : pc + 1 = pc') (K : XW g p l e R s m args below meth c Q nL k n h pc' lv (vI (lg_cmp x y) :: st)) : XW g p l e R s m args below meth c Q nL k n h pc lv (vL y :: vL x :: st) := by
  subst e1
  intro H locs ls cells slots hS hl hc hn
  exact W.lcmp C.1.1 C.1.2.1 d (K H locs ls cells slots hS hl hc hn)
theorem x_i2l (C : x_C g p s m args c cc own nL Ts) {x : Int32} (d : decode cc pc = .ok (.i2l, 1)) (e1 : pc + 1 = pc') (K : XW g p l e R s m args below meth c Q nL k n h pc' lv (vL x.toInt64 :: st)) : XW g p l e R s m args below meth c Q nL k n h pc lv (vI x :: st) := by
  subst e1
  intro H locs ls cells slots hS hl hc hn
  exact lv_i2l C.1.1 C.1.2.1 d rfl (K H locs ls cells slots hS hl hc hn)
theorem x_l2i (C : x_C g p s m args c cc own nL Ts) {x : Int64} (d : decode cc pc = .ok (.l2i, 1)) (e1 : pc + 1 = pc') (K : XW g p l e R s m args below meth c Q nL k n h pc' lv (vI x.toInt32 :: st)) : XW g p l e R s m args below meth c Q nL k n h pc lv (vL x :: st) := by
  subst e1
  intro H locs ls cells slots hS hl hc hn
  exact lv_l2i C.1.1 C.1.2.1 d rfl (K H locs ls cells slots hS hl hc hn)
theorem x_i2b (C : x_C g p s m args c cc own nL Ts) {x : Int32} (d : decode cc pc = .ok (.i2b, 1)) (e1 : pc + 1 = pc') (K : XW g p l e R s m args below meth c Q nL k n h pc' lv (vI x.toInt8.toInt32 :: st)) : XW g p l e R s m args below meth c Q nL k n h pc lv (vI x :: st) := by
  subst e1
  intro H locs ls cells slots hS hl hc hn
  exact lv_i2b C.1.1 C.1.2.1 d rfl (K H locs ls cells slots hS hl hc hn)
theorem x_iconst (C : x_C g p s m args c cc own nL Ts) {z : Int} {v : Int32} (hv : Int32.ofInt z = v) (d : decode cc pc = .ok (.iconst z, 1)) (e1 : pc + 1 = pc') (K : XW g p l e R s m args below meth c Q nL k n h pc' lv (vI v :: st)) : XW g p l e R s m args below meth c Q nL k n h pc lv (st) := by
  subst e1
  intro H locs ls cells slots hS hl hc hn
  exact lv_iconst C.1.1 C.1.2.1 d hv (K H locs ls cells slots hS hl hc hn)
theorem x_bipush (C : x_C g p s m args c cc own nL Ts) {z : Int} {v : Int32} (hv : (Int8.ofInt z).toInt32 = v) (d : decode cc pc = .ok (.bipush z, 2)) (e1 : pc + 2 = pc') (K : XW g p l e R s m args below meth c Q nL k n h pc' lv (vI v :: st)) : XW g p l e R s m args below meth c Q nL k n h pc lv (st) := by
  subst e1
  intro H locs ls cells slots hS hl hc hn
  exact lv_bipush C.1.1 C.1.2.1 d hv (K H locs ls cells slots hS hl hc hn)
theorem x_sipush (C : x_C g p s m args c cc own nL Ts) {z : Int} {v : Int32} (hv : (Int16.ofInt z).toInt32 = v) (d : decode cc pc = .ok (.sipush z, 3)) (e1 : pc + 3 = pc') (K : XW g p l e R s m args below meth c Q nL k n h pc' lv (vI v :: st)) : XW g p l e R s m args below meth c Q nL k n h pc lv (st) := by
  subst e1
  intro H locs ls cells slots hS hl hc hn
  exact lv_sipush C.1.1 C.1.2.1 d hv (K H locs ls cells slots hS hl hc hn)
theorem x_lconst (C : x_C g p s m args c cc own nL Ts) {z : Fin 2} {v : Int64} (hv : Int64.ofNat (z : Nat) = v) (d : decode cc pc = .ok (.lconst z, 1)) (e1 : pc + 1 = pc') (K : XW g p l e R s m args below meth c Q nL k n h pc' lv (vL v :: st)) : XW g p l e R s m args below meth c Q nL k n h pc lv (st) := by
  subst e1
  intro H locs ls cells slots hS hl hc hn
  exact lv_lconst C.1.1 C.1.2.1 d hv (K H locs ls cells slots hS hl hc hn)
theorem x_ldc (C : x_C g p s m args c cc own nL Ts) {ix : Nat} {v : Int32} (hw : Cond.constant own ix v ∈ Ts) (d : decode cc pc = .ok (.ldc ix, 2)) (e1 : pc + 2 = pc') (K : XW g p l e R s m args below meth c Q nL k n h pc' lv (vI v :: st)) : XW g p l e R s m args below meth c Q nL k n h pc lv st := by
  subst e1
  intro H locs ls cells slots hS hl hc hn
  exact lv_ldc C.1.1 C.1.2.1 C.1.2.2.2.1 (C.1.2.2.2.2 _ hw) d (K H locs ls cells slots hS hl hc hn)
theorem x_ldc2 (C : x_C g p s m args c cc own nL Ts) {ix : Nat} {v : Int64} (hw : Cond.constantLong own ix v ∈ Ts) (d : decode cc pc = .ok (.ldc2_w ix, 3)) (e1 : pc + 3 = pc') (K : XW g p l e R s m args below meth c Q nL k n h pc' lv (vL v :: st)) : XW g p l e R s m args below meth c Q nL k n h pc lv st := by
  subst e1
  intro H locs ls cells slots hS hl hc hn
  exact lv_ldc2 C.1.1 C.1.2.1 C.1.2.2.2.1 (C.1.2.2.2.2 _ hw) d (K H locs ls cells slots hS hl hc hn)
theorem x_cat_R (g : XG) (a : Nat) : (x_v g (vR a)).category = 1 := by
  show (x_rv g a).category = 1
  unfold x_rv
  split <;> rfl
def x_one (v : XV) : Bool := match v with
  | Sum.inr (Sum.inl _) => false
  | _ => true
theorem x_cat1 (g : XG) {v : XV} (h : x_one v = true) : (x_v g v).category = 1 := by
  match v, h with
  | Sum.inl x, _ => rfl
  | Sum.inr (Sum.inr a), _ => exact x_cat_R g a
theorem x_dup (C : x_C g p s m args c cc own nL Ts) {u : XV} (hu : x_one u = true) (d : decode cc pc = .ok (.dup, 1)) (e1 : pc + 1 = pc') (K : XW g p l e R s m args below meth c Q nL k n h pc' lv (u :: u :: st)) : XW g p l e R s m args below meth c Q nL k n h pc lv (u :: st) := by
  subst e1
  intro H locs ls cells slots hS hl hc hn
  exact lv_dup C.1.1 C.1.2.1 d (x_cat1 g hu) (K H locs ls cells slots hS hl hc hn)
theorem x_pop (C : x_C g p s m args c cc own nL Ts) {u : XV} (hu : x_one u = true) (d : decode cc pc = .ok (.pop, 1)) (e1 : pc + 1 = pc') (K : XW g p l e R s m args below meth c Q nL k n h pc' lv (st)) : XW g p l e R s m args below meth c Q nL k n h pc lv (u :: st) := by
  subst e1
  intro H locs ls cells slots hS hl hc hn
  exact lv_pop C.1.1 C.1.2.1 d (x_cat1 g hu) (K H locs ls cells slots hS hl hc hn)
theorem x_dup2 (C : x_C g p s m args c cc own nL Ts) {u v : XV} (hu : x_one u = true) (hv : x_one v = true) (d : decode cc pc = .ok (.dup2, 1)) (e1 : pc + 1 = pc') (K : XW g p l e R s m args below meth c Q nL k n h pc' lv (u :: v :: u :: v :: st)) : XW g p l e R s m args below meth c Q nL k n h pc lv (u :: v :: st) := by
  subst e1
  intro H locs ls cells slots hS hl hc hn
  exact lv_dup2_11 C.1.1 C.1.2.1 d (x_cat1 g hu) (x_cat1 g hv) (K H locs ls cells slots hS hl hc hn)
theorem x_dup2L (C : x_C g p s m args c cc own nL Ts) {x : Int64} (d : decode cc pc = .ok (.dup2, 1)) (e1 : pc + 1 = pc') (K : XW g p l e R s m args below meth c Q nL k n h pc' lv (vL x :: vL x :: st)) : XW g p l e R s m args below meth c Q nL k n h pc lv (vL x :: st) := by
  subst e1
  intro H locs ls cells slots hS hl hc hn
  exact lv_dup2_2 C.1.1 C.1.2.1 d rfl (K H locs ls cells slots hS hl hc hn)
theorem x_pop2L (C : x_C g p s m args c cc own nL Ts) {x : Int64} (d : decode cc pc = .ok (.pop2, 1)) (e1 : pc + 1 = pc') (K : XW g p l e R s m args below meth c Q nL k n h pc' lv (st)) : XW g p l e R s m args below meth c Q nL k n h pc lv (vL x :: st) := by
  subst e1
  intro H locs ls cells slots hS hl hc hn
  exact lv_pop2_2 C.1.1 C.1.2.1 d rfl (K H locs ls cells slots hS hl hc hn)
theorem x_null (C : x_C g p s m args c cc own nL Ts) (d : decode cc pc = .ok (.aconst_null, 1)) (e1 : pc + 1 = pc') (K : XW g p l e R s m args below meth c Q nL k n h pc' lv (vR 0 :: st)) : XW g p l e R s m args below meth c Q nL k n h pc lv st := by
  subst e1
  intro H locs ls cells slots hS hl hc hn
  exact lv_null C.1.1 C.1.2.1 d (K H locs ls cells slots hS hl hc hn)
theorem x_idiv (C : x_C g p s m args c cc own nL Ts) {x y : Int32} {β : Type} {F : Int32 → Option β} {res : β} (hf : iDiv x y F = some res) (d : decode cc pc = .ok (.idiv, 1)) (e1 : pc + 1 = pc') (K : ¬ y = 0 → ∀ z, z = x / y → F z = some res → XW g p l e R s m args below meth c Q nL k n h pc' lv (vI z :: st)) : XW g p l e R s m args below meth c Q nL k n h pc lv (vI y :: vI x :: st) := by
  subst e1
  unfold iDiv at hf
  split at hf
  · cases hf
  · rename_i h0
    intro H locs ls cells slots hS hl hc hn
    exact lv_idiv C.1.1 C.1.2.1 d h0 (K h0 _ rfl hf H locs ls cells slots hS hl hc hn)
theorem x_irem (C : x_C g p s m args c cc own nL Ts) {x y : Int32} {β : Type} {F : Int32 → Option β} {res : β} (hf : iRem x y F = some res) (d : decode cc pc = .ok (.irem, 1)) (e1 : pc + 1 = pc') (K : ¬ y = 0 → ∀ z, z = x - x / y * y → F z = some res → XW g p l e R s m args below meth c Q nL k n h pc' lv (vI z :: st)) : XW g p l e R s m args below meth c Q nL k n h pc lv (vI y :: vI x :: st) := by
  subst e1
  unfold iRem at hf
  split at hf
  · cases hf
  · rename_i h0
    intro H locs ls cells slots hS hl hc hn
    exact lv_irem C.1.1 C.1.2.1 d h0 (K h0 _ rfl hf H locs ls cells slots hS hl hc hn)
theorem x_iload (C : x_C g p s m args c cc own nL Ts) {i : Nat} {x : Int32} (d : decode cc pc = .ok (.iload i, 2)) (e1 : pc + 2 = pc') (hv : lv[i]? = some (some (vI x))) (K : XW g p l e R s m args below meth c Q nL k n h pc' lv (vI x :: st)) : XW g p l e R s m args below meth c Q nL k n h pc lv st := by
  subst e1
  intro H locs ls cells slots hS hl hc hn
  exact lv_iload C.1.1 C.1.2.1 d (hl.2.2 i _ hv) (K H locs ls cells slots hS hl hc hn)
theorem x_iload_n (C : x_C g p s m args c cc own nL Ts) {f : Fin 4} {i : Nat} {x : Int32} (d : decode cc pc = .ok (.iload_n f, 1)) (e1 : pc + 1 = pc') (hi : (f : Nat) = i) (hv : lv[i]? = some (some (vI x))) (K : XW g p l e R s m args below meth c Q nL k n h pc' lv (vI x :: st)) : XW g p l e R s m args below meth c Q nL k n h pc lv st := by
  subst e1
  intro H locs ls cells slots hS hl hc hn
  exact lv_iload_n C.1.1 C.1.2.1 d hi (hl.2.2 i _ hv) (K H locs ls cells slots hS hl hc hn)
theorem x_lload (C : x_C g p s m args c cc own nL Ts) {i : Nat} {x : Int64} (d : decode cc pc = .ok (.lload i, 2)) (e1 : pc + 2 = pc') (hv : lv[i]? = some (some (vL x))) (K : XW g p l e R s m args below meth c Q nL k n h pc' lv (vL x :: st)) : XW g p l e R s m args below meth c Q nL k n h pc lv st := by
  subst e1
  intro H locs ls cells slots hS hl hc hn
  exact lv_lload C.1.1 C.1.2.1 d (hl.2.2 i _ hv) (K H locs ls cells slots hS hl hc hn)
theorem x_lload_n (C : x_C g p s m args c cc own nL Ts) {f : Fin 4} {i : Nat} {x : Int64} (d : decode cc pc = .ok (.lload_n f, 1)) (e1 : pc + 1 = pc') (hi : (f : Nat) = i) (hv : lv[i]? = some (some (vL x))) (K : XW g p l e R s m args below meth c Q nL k n h pc' lv (vL x :: st)) : XW g p l e R s m args below meth c Q nL k n h pc lv st := by
  subst e1
  intro H locs ls cells slots hS hl hc hn
  exact lv_lload_n C.1.1 C.1.2.1 d hi (hl.2.2 i _ hv) (K H locs ls cells slots hS hl hc hn)
theorem x_aload (C : x_C g p s m args c cc own nL Ts) {i : Nat} {a : Nat} (d : decode cc pc = .ok (.aload i, 2)) (e1 : pc + 2 = pc') (hv : lv[i]? = some (some (vR a))) (K : XW g p l e R s m args below meth c Q nL k n h pc' lv (vR a :: st)) : XW g p l e R s m args below meth c Q nL k n h pc lv st := by
  subst e1
  intro H locs ls cells slots hS hl hc hn
  have hz : ls[i]? = some (.val (x_rv g a)) := hl.2.2 i _ hv
  have K1 : W p l e R s m args below meth c H locs cells slots Q (F0 m (pc + 2) ls (x_rv g a :: st.map (x_v g))) := K H locs ls cells slots hS hl hc hn
  unfold x_rv at hz K1
  by_cases ha : a = 0
  · rw [if_pos ha] at hz K1
    exact lv_aloadN C.1.1 C.1.2.1 d hz K1
  · rw [if_neg ha] at hz K1
    exact lv_aload C.1.1 C.1.2.1 d hz K1
theorem x_aload_n (C : x_C g p s m args c cc own nL Ts) {f : Fin 4} {i : Nat} {a : Nat} (d : decode cc pc = .ok (.aload_n f, 1)) (e1 : pc + 1 = pc') (hi : (f : Nat) = i) (hv : lv[i]? = some (some (vR a))) (K : XW g p l e R s m args below meth c Q nL k n h pc' lv (vR a :: st)) : XW g p l e R s m args below meth c Q nL k n h pc lv st := by
  subst e1
  intro H locs ls cells slots hS hl hc hn
  have hz : ls[i]? = some (.val (x_rv g a)) := hl.2.2 i _ hv
  have K1 : W p l e R s m args below meth c H locs cells slots Q (F0 m (pc + 1) ls (x_rv g a :: st.map (x_v g))) := K H locs ls cells slots hS hl hc hn
  unfold x_rv at hz K1
  by_cases ha : a = 0
  · rw [if_pos ha] at hz K1
    exact lv_aload_nN C.1.1 C.1.2.1 d hi hz K1
  · rw [if_neg ha] at hz K1
    exact lv_aload_n C.1.1 C.1.2.1 d hi hz K1
def x_prs (g : XG) (lv : List (Option XV)) : List (Nat × Value) := (lv.mapIdx (fun i o => (i, o))).filterMap (fun q => q.2.map (fun v => (q.1, x_v g v)))
theorem x_prs_mem {g : XG} {lv : List (Option XV)} {q : Nat × Value} : q ∈ x_prs g lv ↔ ∃ v, lv[q.1]? = some (some v) ∧ q.2 = x_v g v := by
  unfold x_prs
  rw [List.mem_filterMap]
  constructor
  · rintro ⟨⟨i, o⟩, hm, hq⟩
    obtain ⟨j, hj⟩ := List.getElem?_of_mem hm
    rw [List.getElem?_mapIdx] at hj
    cases hlj : lv[j]? with
    | none => rw [hlj] at hj; cases hj
    | some o' =>
      rw [hlj] at hj
      cases hj
      cases o with
      | none => cases hq
      | some v =>
        cases hq
        exact ⟨v, hlj, rfl⟩
  · rintro ⟨v, h1, h2⟩
    refine ⟨(q.1, some v), ?_, ?_⟩
    · refine List.mem_of_getElem? (i := q.1) ?_
      rw [List.getElem?_mapIdx, h1]
      rfl
    · obtain ⟨a, b⟩ := q
      simp only at h2
      subst h2
      rfl
theorem x_L_has {g : XG} {ls : Array Slot} {nL : Nat} {lv : List (Option XV)} (h : x_L g ls nL lv) : lv_has ls nL (x_prs g lv) := by
  refine ⟨h.1, h.2.1, fun q hq => ?_⟩
  obtain ⟨v, h1, h2⟩ := x_prs_mem.mp hq
  rw [h2]
  exact h.2.2 _ _ h1
/-- no long lies just below place i -/
def x_ok (lv : List (Option XV)) (i : Nat) : Bool := match i with
  | 0 => true
  | j + 1 => match lv[j]? with
    | some (some (Sum.inr (Sum.inl _))) => false
    | _ => true
theorem x_ok_cat {g : XG} {lv : List (Option XV)} {i j : Nat} {v : XV} (h : x_ok lv i = true) (hj : j + 1 = i) (hv : lv[j]? = some (some v)) : ¬ (x_v g v).category = 2 := by
  subst hj
  simp only [x_ok, hv] at h
  match v, h with
  | Sum.inl x, _ => exact fun q => by cases q
  | Sum.inr (Sum.inr a), _ => rw [x_cat_R]; decide
theorem x_L_set {g : XG} {ls' : Array Slot} {nL : Nat} {lv : List (Option XV)} {i : Nat} {v : XV} (hok : x_ok lv i = true) (h : lv_has ls' nL ((i, x_v g v) :: (x_prs g lv).filter (fun q => !(q.1 == i) && !(q.1 + 1 == i && q.2.category == 2)))) : x_L g ls' nL (lv.set i (some v)) := by
  refine ⟨h.1, h.2.1, fun j w hj => ?_⟩
  by_cases e : j = i
  · subst e
    rw [List.getElem?_set] at hj
    simp only [ite_true] at hj
    split at hj
    · cases hj
      exact h.2.2 (j, x_v g v) List.mem_cons_self
    · cases hj
  · rw [List.getElem?_set_ne (Ne.symm e)] at hj
    refine h.2.2 (j, x_v g w) (List.mem_cons_of_mem _ (List.mem_filter.mpr ⟨x_prs_mem.mpr ⟨w, hj, rfl⟩, ?_⟩))
    simp only [Bool.and_eq_true, Bool.not_eq_true', beq_eq_false_iff_ne, ne_eq, Bool.and_eq_false_iff]
    refine ⟨e, ?_⟩
    by_cases e2 : j + 1 = i
    · exact Or.inr (x_ok_cat hok e2 hj)
    · exact Or.inl e2
theorem x_L_setL {g : XG} {ls' : Array Slot} {nL : Nat} {lv : List (Option XV)} {i : Nat} {v : XV} (hok : x_ok lv i = true) (h : lv_has ls' nL ((i, x_v g v) :: (x_prs g lv).filter (fun q => !(q.1 == i) && (!(q.1 == i + 1) && !(q.1 + 1 == i && q.2.category == 2))))) : x_L g ls' nL ((lv.set i (some v)).set (i + 1) none) := by
  refine ⟨h.1, h.2.1, fun j w hj => ?_⟩
  by_cases e0 : j = i + 1
  · subst e0
    rw [List.getElem?_set] at hj
    simp only [ite_true] at hj
    split at hj <;> cases hj
  · rw [List.getElem?_set_ne (Ne.symm e0)] at hj
    by_cases e : j = i
    · subst e
      rw [List.getElem?_set] at hj
      simp only [ite_true] at hj
      split at hj
      · cases hj
        exact h.2.2 (j, x_v g v) List.mem_cons_self
      · cases hj
    · rw [List.getElem?_set_ne (Ne.symm e)] at hj
      refine h.2.2 (j, x_v g w) (List.mem_cons_of_mem _ (List.mem_filter.mpr ⟨x_prs_mem.mpr ⟨w, hj, rfl⟩, ?_⟩))
      simp only [Bool.and_eq_true, Bool.not_eq_true', beq_eq_false_iff_ne, ne_eq, Bool.and_eq_false_iff]
      refine ⟨e, e0, ?_⟩
      by_cases e2 : j + 1 = i
      · exact Or.inr (x_ok_cat hok e2 hj)
      · exact Or.inl e2
theorem x_istore (C : x_C g p s m args c cc own nL Ts) {i : Nat} {x : Int32} {lv' : List (Option XV)} (d : decode cc pc = .ok (.istore i, 2)) (e1 : pc + 2 = pc') (hn : i < nL) (hok : x_ok lv i = true) (hl' : lv.set i (some (vI x)) = lv') (K : XW g p l e R s m args below meth c Q nL k n h pc' lv' st) : XW g p l e R s m args below meth c Q nL k n h pc lv (vI x :: st) := by
  subst e1; subst hl'
  intro H locs ls cells slots hS hl hc hn2
  exact lv_istore C.1.1 C.1.2.1 d (x_L_has hl) hn rfl (fun ls2 h2 => K H locs ls2 cells slots hS (x_L_set (v := vI x) hok h2) hc hn2)
theorem x_lstore (C : x_C g p s m args c cc own nL Ts) {i : Nat} {x : Int64} {lv' : List (Option XV)} (d : decode cc pc = .ok (.lstore i, 2)) (e1 : pc + 2 = pc') (hn : i + 1 < nL) (hok : x_ok lv i = true) (hl' : (lv.set i (some (vL x))).set (i + 1) none = lv') (K : XW g p l e R s m args below meth c Q nL k n h pc' lv' st) : XW g p l e R s m args below meth c Q nL k n h pc lv (vL x :: st) := by
  subst e1; subst hl'
  intro H locs ls cells slots hS hl hc hn2
  exact lv_lstore C.1.1 C.1.2.1 d (x_L_has hl) hn rfl (fun ls2 h2 => K H locs ls2 cells slots hS (x_L_setL (v := vL x) hok h2) hc hn2)
theorem x_astore (C : x_C g p s m args c cc own nL Ts) {i : Nat} {a : Nat} {lv' : List (Option XV)} (d : decode cc pc = .ok (.astore i, 2)) (e1 : pc + 2 = pc') (hn : i < nL) (hok : x_ok lv i = true) (hl' : lv.set i (some (vR a)) = lv') (K : XW g p l e R s m args below meth c Q nL k n h pc' lv' st) : XW g p l e R s m args below meth c Q nL k n h pc lv (vR a :: st) := by
  subst e1; subst hl'
  intro H locs ls cells slots hS hl hc hn2
  have K1 : ∀ ls2 : Array Slot, lv_has ls2 nL ((i, x_rv g a) :: (x_prs g lv).filter (fun q => !(q.1 == i) && !(q.1 + 1 == i && q.2.category == 2))) → W p l e R s m args below meth c H locs cells slots Q (F0 m (pc + 2) ls2 (st.map (x_v g))) := fun ls2 h2 => K H locs ls2 cells slots hS (x_L_set (v := vR a) hok h2) hc hn2
  show W p l e R s m args below meth c H locs cells slots Q (F0 m pc ls (x_rv g a :: st.map (x_v g)))
  unfold x_rv at K1 ⊢
  by_cases ha : a = 0
  · rw [if_pos ha] at K1 ⊢
    exact lv_astoreN C.1.1 C.1.2.1 d (x_L_has hl) hn rfl K1
  · rw [if_neg ha] at K1 ⊢
    exact lv_astore C.1.1 C.1.2.1 d (x_L_has hl) hn rfl K1
theorem x_istore_n (C : x_C g p s m args c cc own nL Ts) {f : Fin 4} {i : Nat} {x : Int32} {lv' : List (Option XV)} (d : decode cc pc = .ok (.istore_n f, 1)) (e1 : pc + 1 = pc') (hi : (f : Nat) = i) (hn : i < nL) (hok : x_ok lv i = true) (hl' : lv.set i (some (vI x)) = lv') (K : XW g p l e R s m args below meth c Q nL k n h pc' lv' st) : XW g p l e R s m args below meth c Q nL k n h pc lv (vI x :: st) := by
  subst e1; subst hl'
  intro H locs ls cells slots hS hl hc hn2
  exact lv_istore_n C.1.1 C.1.2.1 d hi (x_L_has hl) hn rfl (fun ls2 h2 => K H locs ls2 cells slots hS (x_L_set (v := vI x) hok h2) hc hn2)
theorem x_lstore_n (C : x_C g p s m args c cc own nL Ts) {f : Fin 4} {i : Nat} {x : Int64} {lv' : List (Option XV)} (d : decode cc pc = .ok (.lstore_n f, 1)) (e1 : pc + 1 = pc') (hi : (f : Nat) = i) (hn : i + 1 < nL) (hok : x_ok lv i = true) (hl' : (lv.set i (some (vL x))).set (i + 1) none = lv') (K : XW g p l e R s m args below meth c Q nL k n h pc' lv' st) : XW g p l e R s m args below meth c Q nL k n h pc lv (vL x :: st) := by
  subst e1; subst hl'
  intro H locs ls cells slots hS hl hc hn2
  exact lv_lstore_n C.1.1 C.1.2.1 d hi (x_L_has hl) hn rfl (fun ls2 h2 => K H locs ls2 cells slots hS (x_L_setL (v := vL x) hok h2) hc hn2)
theorem x_astore_n (C : x_C g p s m args c cc own nL Ts) {f : Fin 4} {i : Nat} {a : Nat} {lv' : List (Option XV)} (d : decode cc pc = .ok (.astore_n f, 1)) (e1 : pc + 1 = pc') (hi : (f : Nat) = i) (hn : i < nL) (hok : x_ok lv i = true) (hl' : lv.set i (some (vR a)) = lv') (K : XW g p l e R s m args below meth c Q nL k n h pc' lv' st) : XW g p l e R s m args below meth c Q nL k n h pc lv (vR a :: st) := by
  subst e1; subst hl'
  intro H locs ls cells slots hS hl hc hn2
  have K1 : ∀ ls2 : Array Slot, lv_has ls2 nL ((i, x_rv g a) :: (x_prs g lv).filter (fun q => !(q.1 == i) && !(q.1 + 1 == i && q.2.category == 2))) → W p l e R s m args below meth c H locs cells slots Q (F0 m (pc + 1) ls2 (st.map (x_v g))) := fun ls2 h2 => K H locs ls2 cells slots hS (x_L_set (v := vR a) hok h2) hc hn2
  show W p l e R s m args below meth c H locs cells slots Q (F0 m pc ls (x_rv g a :: st.map (x_v g)))
  unfold x_rv at K1 ⊢
  by_cases ha : a = 0
  · rw [if_pos ha] at K1 ⊢
    exact lv_astore_nN C.1.1 C.1.2.1 d hi (x_L_has hl) hn rfl K1
  · rw [if_neg ha] at K1 ⊢
    exact lv_astore_n C.1.1 C.1.2.1 d hi (x_L_has hl) hn rfl K1
theorem x_iinc (C : x_C g p s m args c cc own nL Ts) {i : Nat} {z : Int} {x v : Int32} {lv' : List (Option XV)} (d : decode cc pc = .ok (.iinc i z, 3)) (e1 : pc + 3 = pc') (hv : lv[i]? = some (some (vI x))) (hz : x + Int32.ofInt z = v) (hn : i < nL) (hok : x_ok lv i = true) (hl' : lv.set i (some (vI v)) = lv') (K : XW g p l e R s m args below meth c Q nL k n h pc' lv' st) : XW g p l e R s m args below meth c Q nL k n h pc lv st := by
  subst e1; subst hl'
  intro H locs ls cells slots hS hl hc hn2
  obtain ⟨k0, hk0⟩ := List.getElem?_of_mem (x_prs_mem (g := g) (q := (i, .int x)).mpr ⟨vI x, hv, rfl⟩)
  exact lv_iinc C.1.1 C.1.2.1 d (x_L_has hl) hk0 hz hn rfl (fun ls2 h2 => K H locs ls2 cells slots hS (x_L_set (v := vI v) hok h2) hc hn2)
def x_msk (bs : List Bool) (lv : List (Option XV)) : List (Option XV) := match bs, lv with
  | b :: bs, v :: lv => (if b then v else none) :: x_msk bs lv
  | _, _ => []
theorem x_msk_at : ∀ (bs : List Bool) (lv : List (Option XV)) (i : Nat) (v : XV), (x_msk bs lv)[i]? = some (some v) → lv[i]? = some (some v)
  | [], lv, i, v, hi => by simp [x_msk] at hi
  | b :: bs, [], i, v, hi => by simp [x_msk] at hi
  | b :: bs, w :: lv, 0, v, hi => by
    simp only [x_msk, List.getElem?_cons_zero] at hi ⊢
    cases b with
    | true => exact hi
    | false => cases hi
  | b :: bs, w :: lv, i + 1, v, hi => by
    simp only [x_msk, List.getElem?_cons_succ] at hi ⊢
    exact x_msk_at bs lv i v hi
theorem x_keep (bs : List Bool) {lv' : List (Option XV)} (hl' : x_msk bs lv = lv') (K : XW g p l e R s m args below meth c Q nL k n h pc lv' st) : XW g p l e R s m args below meth c Q nL k n h pc lv st := by
  subst hl'
  intro H locs ls cells slots hS hl hc hn
  exact K H locs ls cells slots hS ⟨hl.1, hl.2.1, fun i v hi => hl.2.2 i v (x_msk_at bs lv i v hi)⟩ hc hn
theorem x_more {k' n' : Nat} (h1 : k' ≤ k) (h2 : n' ≤ n) (K : XW g p l e R s m args below meth c Q nL k' n' h pc lv st) : XW g p l e R s m args below meth c Q nL k n h pc lv st :=
  fun H locs ls cells slots hS hl hc hn => K H locs ls cells slots hS hl (by omega) (by omega)
theorem x_goto (C : x_C g p s m args c cc own nL Ts) {off : Int} {tgt : Nat} (d : decode cc pc = .ok (.goto off, 3)) (ht : (pc : Int) + off = (tgt : Int)) (K : XW g p l e R s m args below meth c Q nL k n h tgt lv st) : XW g p l e R s m args below meth c Q nL k n h pc lv st := by
  intro H locs ls cells slots hS hl hc hn
  exact lv_goto C.1.1 C.1.2.1 d ht (K H locs ls cells slots hS hl hc hn)
theorem x_icmp_eq (C : x_C g p s m args c cc own nL Ts) {x y : Int32} {off : Int} {tgt : Nat} {β : Type} {A B : Option β} {res : β} (hf : (if x = y then A else B) = some res) (d : decode cc pc = .ok (.if_icmp .eq off, 3)) (e1 : pc + 3 = pc') (ht : (pc : Int) + off = (tgt : Int)) (K1 : x = y → A = some res → XW g p l e R s m args below meth c Q nL k n h tgt lv st) (K2 : ¬ x = y → B = some res → XW g p l e R s m args below meth c Q nL k n h pc' lv st) : XW g p l e R s m args below meth c Q nL k n h pc lv (vI y :: vI x :: st) := by
  subst e1
  intro H locs ls cells slots hS hl hc hn
  exact lv_icmp_eq C.1.1 C.1.2.1 d ht (fun q => K1 q (by rw [if_pos q] at hf; exact hf) H locs ls cells slots hS hl hc hn) (fun q => K2 q (by rw [if_neg q] at hf; exact hf) H locs ls cells slots hS hl hc hn)
theorem x_if_eq (C : x_C g p s m args c cc own nL Ts) {x : Int32} {off : Int} {tgt : Nat} {β : Type} {A B : Option β} {res : β} (hf : (if x = 0 then A else B) = some res) (d : decode cc pc = .ok (.ifCond .eq off, 3)) (e1 : pc + 3 = pc') (ht : (pc : Int) + off = (tgt : Int)) (K1 : x = 0 → A = some res → XW g p l e R s m args below meth c Q nL k n h tgt lv st) (K2 : ¬ x = 0 → B = some res → XW g p l e R s m args below meth c Q nL k n h pc' lv st) : XW g p l e R s m args below meth c Q nL k n h pc lv (vI x :: st) := by
  subst e1
  intro H locs ls cells slots hS hl hc hn
  exact lv_if_eq C.1.1 C.1.2.1 d ht (fun q => K1 q (by rw [if_pos q] at hf; exact hf) H locs ls cells slots hS hl hc hn) (fun q => K2 q (by rw [if_neg q] at hf; exact hf) H locs ls cells slots hS hl hc hn)
theorem x_icmp_ne (C : x_C g p s m args c cc own nL Ts) {x y : Int32} {off : Int} {tgt : Nat} {β : Type} {A B : Option β} {res : β} (hf : (if x = y then A else B) = some res) (d : decode cc pc = .ok (.if_icmp .ne off, 3)) (e1 : pc + 3 = pc') (ht : (pc : Int) + off = (tgt : Int)) (K1 : x = y → A = some res → XW g p l e R s m args below meth c Q nL k n h pc' lv st) (K2 : ¬ x = y → B = some res → XW g p l e R s m args below meth c Q nL k n h tgt lv st) : XW g p l e R s m args below meth c Q nL k n h pc lv (vI y :: vI x :: st) := by
  subst e1
  intro H locs ls cells slots hS hl hc hn
  exact lv_icmp_ne C.1.1 C.1.2.1 d ht (fun q => K2 q (by rw [if_neg q] at hf; exact hf) H locs ls cells slots hS hl hc hn) (fun q => K1 q (by rw [if_pos q] at hf; exact hf) H locs ls cells slots hS hl hc hn)
theorem x_if_ne (C : x_C g p s m args c cc own nL Ts) {x : Int32} {off : Int} {tgt : Nat} {β : Type} {A B : Option β} {res : β} (hf : (if x = 0 then A else B) = some res) (d : decode cc pc = .ok (.ifCond .ne off, 3)) (e1 : pc + 3 = pc') (ht : (pc : Int) + off = (tgt : Int)) (K1 : x = 0 → A = some res → XW g p l e R s m args below meth c Q nL k n h pc' lv st) (K2 : ¬ x = 0 → B = some res → XW g p l e R s m args below meth c Q nL k n h tgt lv st) : XW g p l e R s m args below meth c Q nL k n h pc lv (vI x :: st) := by
  subst e1
  intro H locs ls cells slots hS hl hc hn
  exact lv_if_ne C.1.1 C.1.2.1 d ht (fun q => K2 q (by rw [if_neg q] at hf; exact hf) H locs ls cells slots hS hl hc hn) (fun q => K1 q (by rw [if_pos q] at hf; exact hf) H locs ls cells slots hS hl hc hn)
theorem x_icmp_lt (C : x_C g p s m args c cc own nL Ts) {x y : Int32} {off : Int} {tgt : Nat} {β : Type} {A B : Option β} {res : β} (hf : (if x < y then A else B) = some res) (d : decode cc pc = .ok (.if_icmp .lt off, 3)) (e1 : pc + 3 = pc') (ht : (pc : Int) + off = (tgt : Int)) (K1 : x < y → A = some res → XW g p l e R s m args below meth c Q nL k n h tgt lv st) (K2 : ¬ x < y → B = some res → XW g p l e R s m args below meth c Q nL k n h pc' lv st) : XW g p l e R s m args below meth c Q nL k n h pc lv (vI y :: vI x :: st) := by
  subst e1
  intro H locs ls cells slots hS hl hc hn
  exact lv_icmp_lt C.1.1 C.1.2.1 d ht (fun q => K1 q (by rw [if_pos q] at hf; exact hf) H locs ls cells slots hS hl hc hn) (fun q => K2 q (by rw [if_neg q] at hf; exact hf) H locs ls cells slots hS hl hc hn)
theorem x_if_lt (C : x_C g p s m args c cc own nL Ts) {x : Int32} {off : Int} {tgt : Nat} {β : Type} {A B : Option β} {res : β} (hf : (if x < 0 then A else B) = some res) (d : decode cc pc = .ok (.ifCond .lt off, 3)) (e1 : pc + 3 = pc') (ht : (pc : Int) + off = (tgt : Int)) (K1 : x < 0 → A = some res → XW g p l e R s m args below meth c Q nL k n h tgt lv st) (K2 : ¬ x < 0 → B = some res → XW g p l e R s m args below meth c Q nL k n h pc' lv st) : XW g p l e R s m args below meth c Q nL k n h pc lv (vI x :: st) := by
  subst e1
  intro H locs ls cells slots hS hl hc hn
  exact lv_if_lt C.1.1 C.1.2.1 d ht (fun q => K1 q (by rw [if_pos q] at hf; exact hf) H locs ls cells slots hS hl hc hn) (fun q => K2 q (by rw [if_neg q] at hf; exact hf) H locs ls cells slots hS hl hc hn)
theorem x_icmp_ge (C : x_C g p s m args c cc own nL Ts) {x y : Int32} {off : Int} {tgt : Nat} {β : Type} {A B : Option β} {res : β} (hf : (if y ≤ x then A else B) = some res) (d : decode cc pc = .ok (.if_icmp .ge off, 3)) (e1 : pc + 3 = pc') (ht : (pc : Int) + off = (tgt : Int)) (K1 : y ≤ x → A = some res → XW g p l e R s m args below meth c Q nL k n h tgt lv st) (K2 : ¬ y ≤ x → B = some res → XW g p l e R s m args below meth c Q nL k n h pc' lv st) : XW g p l e R s m args below meth c Q nL k n h pc lv (vI y :: vI x :: st) := by
  subst e1
  intro H locs ls cells slots hS hl hc hn
  exact lv_icmp_ge C.1.1 C.1.2.1 d ht (fun q => K1 q (by rw [if_pos q] at hf; exact hf) H locs ls cells slots hS hl hc hn) (fun q => K2 q (by rw [if_neg q] at hf; exact hf) H locs ls cells slots hS hl hc hn)
theorem x_if_ge (C : x_C g p s m args c cc own nL Ts) {x : Int32} {off : Int} {tgt : Nat} {β : Type} {A B : Option β} {res : β} (hf : (if 0 ≤ x then A else B) = some res) (d : decode cc pc = .ok (.ifCond .ge off, 3)) (e1 : pc + 3 = pc') (ht : (pc : Int) + off = (tgt : Int)) (K1 : 0 ≤ x → A = some res → XW g p l e R s m args below meth c Q nL k n h tgt lv st) (K2 : ¬ 0 ≤ x → B = some res → XW g p l e R s m args below meth c Q nL k n h pc' lv st) : XW g p l e R s m args below meth c Q nL k n h pc lv (vI x :: st) := by
  subst e1
  intro H locs ls cells slots hS hl hc hn
  exact lv_if_ge C.1.1 C.1.2.1 d ht (fun q => K1 q (by rw [if_pos q] at hf; exact hf) H locs ls cells slots hS hl hc hn) (fun q => K2 q (by rw [if_neg q] at hf; exact hf) H locs ls cells slots hS hl hc hn)
theorem x_icmp_gt (C : x_C g p s m args c cc own nL Ts) {x y : Int32} {off : Int} {tgt : Nat} {β : Type} {A B : Option β} {res : β} (hf : (if y < x then A else B) = some res) (d : decode cc pc = .ok (.if_icmp .gt off, 3)) (e1 : pc + 3 = pc') (ht : (pc : Int) + off = (tgt : Int)) (K1 : y < x → A = some res → XW g p l e R s m args below meth c Q nL k n h tgt lv st) (K2 : ¬ y < x → B = some res → XW g p l e R s m args below meth c Q nL k n h pc' lv st) : XW g p l e R s m args below meth c Q nL k n h pc lv (vI y :: vI x :: st) := by
  subst e1
  intro H locs ls cells slots hS hl hc hn
  exact lv_icmp_gt C.1.1 C.1.2.1 d ht (fun q => K1 q (by rw [if_pos q] at hf; exact hf) H locs ls cells slots hS hl hc hn) (fun q => K2 q (by rw [if_neg q] at hf; exact hf) H locs ls cells slots hS hl hc hn)
theorem x_if_gt (C : x_C g p s m args c cc own nL Ts) {x : Int32} {off : Int} {tgt : Nat} {β : Type} {A B : Option β} {res : β} (hf : (if 0 < x then A else B) = some res) (d : decode cc pc = .ok (.ifCond .gt off, 3)) (e1 : pc + 3 = pc') (ht : (pc : Int) + off = (tgt : Int)) (K1 : 0 < x → A = some res → XW g p l e R s m args below meth c Q nL k n h tgt lv st) (K2 : ¬ 0 < x → B = some res → XW g p l e R s m args below meth c Q nL k n h pc' lv st) : XW g p l e R s m args below meth c Q nL k n h pc lv (vI x :: st) := by
  subst e1
  intro H locs ls cells slots hS hl hc hn
  exact lv_if_gt C.1.1 C.1.2.1 d ht (fun q => K1 q (by rw [if_pos q] at hf; exact hf) H locs ls cells slots hS hl hc hn) (fun q => K2 q (by rw [if_neg q] at hf; exact hf) H locs ls cells slots hS hl hc hn)
theorem x_icmp_le (C : x_C g p s m args c cc own nL Ts) {x y : Int32} {off : Int} {tgt : Nat} {β : Type} {A B : Option β} {res : β} (hf : (if x ≤ y then A else B) = some res) (d : decode cc pc = .ok (.if_icmp .le off, 3)) (e1 : pc + 3 = pc') (ht : (pc : Int) + off = (tgt : Int)) (K1 : x ≤ y → A = some res → XW g p l e R s m args below meth c Q nL k n h tgt lv st) (K2 : ¬ x ≤ y → B = some res → XW g p l e R s m args below meth c Q nL k n h pc' lv st) : XW g p l e R s m args below meth c Q nL k n h pc lv (vI y :: vI x :: st) := by
  subst e1
  intro H locs ls cells slots hS hl hc hn
  exact lv_icmp_le C.1.1 C.1.2.1 d ht (fun q => K1 q (by rw [if_pos q] at hf; exact hf) H locs ls cells slots hS hl hc hn) (fun q => K2 q (by rw [if_neg q] at hf; exact hf) H locs ls cells slots hS hl hc hn)
theorem x_if_le (C : x_C g p s m args c cc own nL Ts) {x : Int32} {off : Int} {tgt : Nat} {β : Type} {A B : Option β} {res : β} (hf : (if x ≤ 0 then A else B) = some res) (d : decode cc pc = .ok (.ifCond .le off, 3)) (e1 : pc + 3 = pc') (ht : (pc : Int) + off = (tgt : Int)) (K1 : x ≤ 0 → A = some res → XW g p l e R s m args below meth c Q nL k n h tgt lv st) (K2 : ¬ x ≤ 0 → B = some res → XW g p l e R s m args below meth c Q nL k n h pc' lv st) : XW g p l e R s m args below meth c Q nL k n h pc lv (vI x :: st) := by
  subst e1
  intro H locs ls cells slots hS hl hc hn
  exact lv_if_le C.1.1 C.1.2.1 d ht (fun q => K1 q (by rw [if_pos q] at hf; exact hf) H locs ls cells slots hS hl hc hn) (fun q => K2 q (by rw [if_neg q] at hf; exact hf) H locs ls cells slots hS hl hc hn)
theorem x_ifnull (C : x_C g p s m args c cc own nL Ts) {a : Nat} {off : Int} {tgt : Nat} {β : Type} {A B : Option β} {res : β} (hf : (if a = 0 then A else B) = some res) (d : decode cc pc = .ok (.ifnull off, 3)) (e1 : pc + 3 = pc') (ht : (pc : Int) + off = (tgt : Int)) (K1 : a = 0 → A = some res → XW g p l e R s m args below meth c Q nL k n h tgt lv st) (K2 : ¬ a = 0 → B = some res → XW g p l e R s m args below meth c Q nL k n h pc' lv st) : XW g p l e R s m args below meth c Q nL k n h pc lv (vR a :: st) := by
  subst e1
  intro H locs ls cells slots hS hl hc hn
  show W p l e R s m args below meth c H locs cells slots Q (F0 m pc ls (x_rv g a :: st.map (x_v g)))
  unfold x_rv
  by_cases q : a = 0
  · rw [if_pos q] at hf ⊢
    exact lv_ifnullN C.1.1 C.1.2.1 d ht (K1 q hf H locs ls cells slots hS hl hc hn)
  · rw [if_neg q] at hf ⊢
    exact lv_ifnull C.1.1 C.1.2.1 d (K2 q hf H locs ls cells slots hS hl hc hn)
theorem x_ifnonnull (C : x_C g p s m args c cc own nL Ts) {a : Nat} {off : Int} {tgt : Nat} {β : Type} {A B : Option β} {res : β} (hf : (if a = 0 then A else B) = some res) (d : decode cc pc = .ok (.ifnonnull off, 3)) (e1 : pc + 3 = pc') (ht : (pc : Int) + off = (tgt : Int)) (K1 : a = 0 → A = some res → XW g p l e R s m args below meth c Q nL k n h pc' lv st) (K2 : ¬ a = 0 → B = some res → XW g p l e R s m args below meth c Q nL k n h tgt lv st) : XW g p l e R s m args below meth c Q nL k n h pc lv (vR a :: st) := by
  subst e1
  intro H locs ls cells slots hS hl hc hn
  show W p l e R s m args below meth c H locs cells slots Q (F0 m pc ls (x_rv g a :: st.map (x_v g)))
  unfold x_rv
  by_cases q : a = 0
  · rw [if_pos q] at hf ⊢
    exact lv_ifnonnullN C.1.1 C.1.2.1 d (K1 q hf H locs ls cells slots hS hl hc hn)
  · rw [if_neg q] at hf ⊢
    exact lv_ifnonnull C.1.1 C.1.2.1 d ht (K2 q hf H locs ls cells slots hS hl hc hn)
theorem x_o_inj {g : XG} {a b : Nat} (ha : a = 0 ∨ 4 ≤ a) (hb : b = 0 ∨ 4 ≤ b) : x_o g a = x_o g b ↔ a = b := by
  constructor
  · intro q
    unfold x_o x_ad at q
    by_cases a0 : a = 0 <;> by_cases b0 : b = 0
    · omega
    · rw [if_pos a0, if_neg b0] at q; cases q
    · rw [if_neg a0, if_pos b0] at q; cases q
    · rw [if_neg a0, if_neg b0, if_neg (by omega), if_neg (by omega)] at q
      have := Option.some.inj q
      omega
  · intro q; rw [q]
def aEq (a b : Nat) {β : Type} (A B : Option β) : Option β := if (a = 0 ∨ 4 ≤ a) ∧ (b = 0 ∨ 4 ≤ b) then (if a = b then A else B) else none
theorem x_acmp_ne (C : x_C g p s m args c cc own nL Ts) {a b : Nat} {off : Int} {tgt : Nat} {β : Type} {A B : Option β} {res : β} (hf : aEq a b A B = some res) (d : decode cc pc = .ok (.if_acmp .ne off, 3)) (e1 : pc + 3 = pc') (ht : (pc : Int) + off = (tgt : Int)) (K1 : a = b → A = some res → XW g p l e R s m args below meth c Q nL k n h pc' lv st) (K2 : ¬ a = b → B = some res → XW g p l e R s m args below meth c Q nL k n h tgt lv st) : XW g p l e R s m args below meth c Q nL k n h pc lv (vR b :: vR a :: st) := by
  subst e1
  intro H locs ls cells slots hS hl hc hn
  unfold aEq at hf
  split at hf
  · rename_i hab
    show W p l e R s m args below meth c H locs cells slots Q (F0 m pc ls (x_rv g b :: x_rv g a :: st.map (x_v g)))
    rw [← x_rf g a, ← x_rf g b]
    refine lv_acmp_ne C.1.1 C.1.2.1 d ht (fun q => ?_) (fun q => ?_)
    · rw [x_o_inj hab.1 hab.2] at q
      rw [if_neg q] at hf
      exact K2 q hf H locs ls cells slots hS hl hc hn
    · rw [x_o_inj hab.1 hab.2] at q
      rw [if_pos q] at hf
      exact K1 q hf H locs ls cells slots hS hl hc hn
  · cases hf
theorem x_tswIn (C : x_C g p s m args c cc own nL Ts) {dflt hi : Int} {offs : Array Int} {len : Nat} {x : Int32} {i : Nat} {off : Int} {tgt : Nat} (hx : x = Int32.ofNat i) (hi1 : i < 1000) (hi2 : (i : Int) ≤ hi) (d : decode cc pc = .ok (.tableswitch dflt 0 hi offs, len)) (ho : offs[i]? = some off) (ht : (pc : Int) + off = (tgt : Int)) (K : XW g p l e R s m args below meth c Q nL k n h tgt lv st) : XW g p l e R s m args below meth c Q nL k n h pc lv (vI x :: st) := by
  intro H locs ls cells slots hS hl hc hn
  have e : x.toInt = (i : Int) := by rw [hx]; exact nI_toInt (by omega)
  exact lv_tableIn C.1.1 C.1.2.1 d (by rw [e]; omega) (by rw [e]; omega) (by rw [e]; simpa using ho) ht (K H locs ls cells slots hS hl hc hn)
theorem x_tswOut (C : x_C g p s m args c cc own nL Ts) {dflt hi : Int} {offs : Array Int} {len : Nat} {x : Int32} {tgt : Nat} (cnt : Nat) (hcnt : hi + 1 = (cnt : Int)) (hx : ∀ i, i < cnt → ¬ x = Int32.ofNat i) (d : decode cc pc = .ok (.tableswitch dflt 0 hi offs, len)) (ht : (pc : Int) + dflt = (tgt : Int)) (K : XW g p l e R s m args below meth c Q nL k n h tgt lv st) : XW g p l e R s m args below meth c Q nL k n h pc lv (vI x :: st) := by
  intro H locs ls cells slots hS hl hc hn
  refine lv_tableOut C.1.1 C.1.2.1 d ?_ ht (K H locs ls cells slots hS hl hc hn)
  by_cases h0 : x.toInt < 0
  · exact Or.inl h0
  · by_cases h1 : hi < x.toInt
    · exact Or.inr h1
    · exfalso
      have hlt := x.toInt_lt
      refine hx x.toInt.toNat (by omega) ?_
      apply Int32.toInt_inj.mp
      rw [show Int32.ofNat x.toInt.toNat = nI x.toInt.toNat from rfl, nI_toInt (by omega)]
      omega
end XR

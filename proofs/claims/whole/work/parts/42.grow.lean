section PG
variable {a t k r : Nat} {F : Nat → Nat}
theorem x_nar0 (x : Int32) : x_nar 0 x = x := rfl
theorem call_ok {α β : Type} {r : α} {h : Hp} {K : α → Hp → Option β} : call (some (r, h)) K = K r h := rfl
theorem setv_ok {α β : Type} {x : α} {K : α → Option β} : setv x K = K x := rfl
theorem nI_p1 (n : Nat) : nI n + 1 = nI (n + 1) := nI_1 n
theorem if_at {n i : Nat} {β : Type} {A : Int32 → Option β} (hn : 0 < n) (hn2 : n < 1000) (hi : i < 1000) : (if nI n ≤ nI (i % n) + 1 then A 0 else A (nI (i % n) + 1)) = A (nI ((i + 1) % n)) := by
  have h1 := Nat.mod_lt i hn
  rw [nI_p1, if_leI (by omega) (by omega), ← at_next hn]
  by_cases q : i % n + 1 < n
  · rw [if_pos q, if_neg (by omega)]
  · rw [if_neg q, if_pos (by omega)]
    rfl
theorem grow2 (g : GR k r F) {nf nt n cnt : Nat} {f g0 : Nat → Int32} {c : Nat → Nat} (hn : 0 < n) (hnf : n ≤ nf) (hnf2 : nf < 1000) (hcnt : cnt ≤ nt) (hnt : nt < 900) (hc : ∀ i, i < n → c i < k) (hfc : ∀ i, i < n → f i = nI (c i)) {a1 a4 : Nat} (h4 : 4 ≤ a4) (h41 : a4 ≠ a1) (h4a : a4 ≠ a) (h4t : a4 ≠ t) :
    ∀ (d i fuel W : Nat) (h : Hp), d = cnt - i → i ≤ cnt → d < fuel → W < 100 → W % k ^ (r - 1) = wd k c n (r - 1) i → RuleAt h a t k r F → h[a1]? = some (aC 0 nf f) → h[a4]? = some (aC 0 nt (fillN (fun j => nI (F (wd k c n r j))) i g0)) →
      fX1_grow_w82 fuel a a1 (nI n) (nI cnt) a4 (nI W) (nI ((i + (r - 1)) % n)) (lN (cd k (fun j => F (wd k c n r j)) i)) (nI i) h = some (lN (cd k (fun j => F (wd k c n r j)) cnt), h.set a4 (aC 0 nt (fillN (fun j => nI (F (wd k c n r j))) cnt g0))) := by
  obtain ⟨n1, n2, n3, n4, n5⟩ := g.nums
  obtain ⟨g1, g2, g3, g4, gF⟩ := id g
  intro d
  induction d with
  | zero =>
    intro i fuel W h hd hi hfu hW hWm R e1 e4
    obtain ⟨fu, rfl⟩ : ∃ fu, fuel = fu + 1 := ⟨fuel - 1, by omega⟩
    have hic : i = cnt := by omega
    subst hic
    rw [fX1_grow_w82]
    simp only []
    rw [if_leI (by omega) (by omega), if_pos (Nat.le_refl _), st_id e4]
  | succ d ih =>
    intro i fuel W h hd hi hfu hW hWm R e1 e4
    obtain ⟨fu, rfl⟩ : ∃ fu, fuel = fu + 1 := ⟨fuel - 1, by omega⟩
    rw [fX1_grow_w82]
    simp only []
    have hx : (i + (r - 1)) % n < n := Nat.mod_lt _ hn
    have hwd : wd k c n r i = wd k c n (r - 1) i * k + c ((i + (r - 1)) % n) := by
      obtain ⟨q, rfl⟩ : ∃ q, r = q + 1 := ⟨r - 1, by omega⟩
      rfl
    have hwl : wd k c n r i < k ^ r := wd_lt hc hn r i
    rw [if_leI (by omega) (by omega), if_neg (by omega), rn R]
    simp only [Option.bind_some]
    rw [iRem_nI (by omega) (by omega) (by omega), rk R]
    simp only [Option.bind_some]
    rw [aI_of e1 (by omega) (by omega), hfc _ hx]
    simp only [Option.bind_some, setv_ok]
    rw [pk_mul, nI_add, hWm, ← hwd]
    have hat := if_at (n := n) (i := i + (r - 1)) (A := fun z => fX1_grow_b123 (fX1_grow_w82 fu) a a1 (nI n) (nI cnt) a4 (nI (wd k c n r i)) (lN (cd k (fun j => F (wd k c n r j)) i)) (nI i) z h) hn (by omega) (by omega)
    refine Eq.trans hat ?_
    unfold fX1_grow_b123
    rw [rok R, tells_ok g R hwl, call_ok, sI_of h4 e4 (by omega) (by omega), x_nar0]
    simp only [Option.bind_some]
    have R1 : RuleAt (h.set a4 (aC 0 nt (upd (fillN (fun j => nI (F (wd k c n r j))) i g0) i (nI (F (wd k c n r i)))))) a t k r F := R.set h4a h4t
    rw [rk R1]
    simp only [Option.bind_some, setv_ok]
    have hF := gF _ hwl
    rw [nI_l (by omega), nI_l (by omega), lN_mul, lN_add, nI_p1, show i + (r - 1) + 1 = i + 1 + (r - 1) by omega]
    have hcd : cd k (fun j => F (wd k c n r j)) i * k + F (wd k c n r i) = cd k (fun j => F (wd k c n r j)) (i + 1) := rfl
    rw [hcd]
    have e4' : (h.set a4 (aC 0 nt (upd (fillN (fun j => nI (F (wd k c n r j))) i g0) i (nI (F (wd k c n r i))))))[a4]? = some (aC 0 nt (fillN (fun j => nI (F (wd k c n r j))) (i + 1) g0)) := by
      rw [st_s e4, ← fillN_s]
    rw [ih (i + 1) fu (wd k c n r i) _ (by omega) (by omega) (by omega) (by omega) (wd_next hc hn g3 i) R1 (st_n' h41 e1) e4', List.set_set]
theorem grow1 (g : GR k r F) {nf n cnt : Nat} {f : Nat → Int32} {c : Nat → Nat} (hn : 0 < n) (hnf : n ≤ nf) (hnf2 : nf < 1000) (hc : ∀ i, i < n → c i < k) (hfc : ∀ i, i < n → f i = nI (c i)) {a1 a4 : Nat} {h : Hp} (R : RuleAt h a t k r F) (e1 : h[a1]? = some (aC 0 nf f)) :
    ∀ (d i fuel : Nat), d = r - i → 1 ≤ i → i ≤ r → d < fuel →
      fX1_grow_w29 fuel a a1 (nI n) (nI cnt) a4 (nI (wd k c n (i - 1) 0)) (nI ((i - 1) % n)) (nI i) h = fX1_grow_b76 a a1 (nI n) (nI cnt) a4 (nI (wd k c n (r - 1) 0)) (nI ((r - 1) % n)) h := by
  obtain ⟨n1, n2, n3, n4, n5⟩ := g.nums
  obtain ⟨g1, g2, g3, g4, gF⟩ := id g
  intro d
  induction d with
  | zero =>
    intro i fuel hd h1 hi hfu
    obtain ⟨fu, rfl⟩ : ∃ fu, fuel = fu + 1 := ⟨fuel - 1, by omega⟩
    have hic : i = r := by omega
    subst hic
    rw [fX1_grow_w29]
    simp only []
    rw [rr R]
    simp only [Option.bind_some]
    rw [if_leI (by omega) (by omega), if_pos (Nat.le_refl _)]
  | succ d ih =>
    intro i fuel hd h1 hi hfu
    obtain ⟨fu, rfl⟩ : ∃ fu, fuel = fu + 1 := ⟨fuel - 1, by omega⟩
    rw [fX1_grow_w29]
    simp only []
    have hx : (i - 1) % n < n := Nat.mod_lt _ hn
    have hwd : wd k c n i 0 = wd k c n (i - 1) 0 * k + c ((i - 1) % n) := by
      obtain ⟨q, rfl⟩ : ∃ q, i = q + 1 := ⟨i - 1, by omega⟩
      simp [wd]
    rw [rr R]
    simp only [Option.bind_some]
    rw [if_leI (by omega) (by omega), if_neg (by omega), rk R]
    simp only [Option.bind_some]
    rw [aI_of e1 (by omega) (by omega), hfc _ hx]
    simp only [Option.bind_some, setv_ok]
    rw [pk_mul, nI_add, ← hwd]
    have hat := if_at (n := n) (i := i - 1) (A := fun z => fX1_grow_b68 (fX1_grow_w29 fu) a a1 (nI n) (nI cnt) a4 (nI (wd k c n i 0)) (nI i) z h) hn (by omega) (by omega)
    refine Eq.trans hat ?_
    unfold fX1_grow_b68
    rw [nI_p1, show i - 1 + 1 = i + 1 - 1 by omega]
    have := ih (i + 1) fu (by omega) (by omega) (by omega) (by omega)
    rw [Nat.add_sub_cancel] at this ⊢
    exact this
/-- grow: the first cnt cells of what n cells (a ring) lead to -/
theorem grow_ok (g : GR k r F) {nf nt n cnt : Nat} {f g0 : Nat → Int32} {c : Nat → Nat} (hn : 0 < n) (hnf : n ≤ nf) (hnf2 : nf < 1000) (hcnt : cnt ≤ nt) (hnt : nt < 900) (hc : ∀ i, i < n → c i < k) (hfc : ∀ i, i < n → f i = nI (c i)) {a1 a4 : Nat} (h4 : 4 ≤ a4) (h41 : a4 ≠ a1) (h4a : a4 ≠ a) (h4t : a4 ≠ t) {h : Hp} (R : RuleAt h a t k r F) (e1 : h[a1]? = some (aC 0 nf f)) (e4 : h[a4]? = some (aC 0 nt g0)) :
    fX1_grow h a a1 (nI n) (nI cnt) a4 = some (lN (cd k (fun j => F (wd k c n r j)) cnt), h.set a4 (aC 0 nt (fillN (fun j => nI (F (wd k c n r j))) cnt g0))) := by
  obtain ⟨n1, n2, n3, n4, n5⟩ := g.nums
  obtain ⟨g1, g2, g3, g4, gF⟩ := id g
  unfold fX1_grow
  rw [show (1 : Int32) = nI 1 from rfl, if_ltI (by omega) (by omega), if_neg (by omega), aN_of e1 (by decide)]
  simp only [Option.bind_some]
  rw [if_ltI (by omega) (by omega), if_neg (by omega), aN_of e4 (by decide)]
  simp only [Option.bind_some]
  rw [if_leI (by omega) (by omega), if_pos hcnt]
  have hF : FUEL = 100000 := rfl
  have h1 := grow1 g hn hnf hnf2 hc hfc (cnt := cnt) (a4 := a4) R e1 (r - 1) 1 FUEL (by omega) (by omega) g3 (by omega)
  rw [Nat.sub_self, Nat.zero_mod] at h1
  refine Eq.trans h1 ?_
  unfold fX1_grow_b76
  have h2 := grow2 g hn hnf hnf2 hcnt hnt hc hfc h4 h41 h4a h4t (g0 := g0) cnt 0 FUEL (wd k c n (r - 1) 0) h (by omega) (by omega) (by omega) (by have := wd_lt hc hn (r - 1) 0; omega) (Nat.mod_eq_of_lt (wd_lt hc hn (r - 1) 0)) R e1 (by rw [fillN_0]; exact e4)
  rw [Nat.zero_add] at h2
  exact h2
end PG

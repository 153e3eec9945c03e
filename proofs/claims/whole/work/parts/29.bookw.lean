/-! THE BOOK in the class: letterAt, keyOf, placeByKey, write -/
theorem s_Town_letterAt {d a : Nat} {h i : Int} {M : zM} {F : Int → zM → Prop} (hh : 0 ≤ h ∧ h < 8) (hi : 0 ≤ i) (hl : M (a + 3) h ≤ 6) (H : F (if i < M (a + 3) h then M (a + 2) (6 * h + i) else -1) M) : zCi (d + 1) 40 [z_r (9, 0) a, z_i h, z_i i] M F := by
  refine e_Town_letterAt ⟨hh, fun q => ?_, fun q => ?_⟩
  · rw [if_neg (by omega)] at H; exact H
  · rw [zw (x := h * 6) (by omega) (by omega), zw (x := h * 6 + i) (by omega) (by omega)]
    rw [if_pos (by omega)] at H
    refine ⟨by omega, ?_⟩
    rw [show h * 6 + i = 6 * h + i by omega]
    exact H
theorem s_Book_keyOf {d a b : Nat} {h : Int} {M : zM} {F : Int → zM → Prop} {rk : Int → Int} (hh : 0 ≤ h ∧ h < 8) (hl : 0 ≤ M (a + 3) h ∧ M (a + 3) h ≤ 6) (hn : ∀ k, 0 ≤ k → k < 48 → 0 ≤ M (a + 2) k ∧ M (a + 2) k < 8) (hr : ∀ x, 0 ≤ x → x < 8 → M (b + 4) x = rk x) (hr2 : ∀ x, 0 ≤ x → x < 8 → 0 ≤ rk x ∧ rk x < 8) (H : F (zky rk (M (a + 3)) (M (a + 2)) h) M) : zCi (d + 2) 39 [z_r (0, 0) b, z_r (9, 0) a, z_i h] M F := by
  refine e_Book_keyOf (fun P hP => ?_)
  have hd : ∀ j, 0 ≤ j → j < 6 → 0 ≤ zdg rk (M (a + 3)) (M (a + 2)) h j ∧ zdg rk (M (a + 3)) (M (a + 2)) h j ≤ 8 := by
    intro j j0 j1
    unfold zdg
    split
    · have h2 := hn (6 * h + j) (by omega) (by omega)
      have h3 := hr2 _ h2.1 h2.2
      omega
    · omega
  have step : ∀ (i K : Int), 0 ≤ i → i < 6 → 0 ≤ K → K ≤ 100000 → P b a h (K * 9 + zdg rk (M (a + 3)) (M (a + 2)) h i) (i + 1) M → P b a h K i M := by
    intro i K i0 i1 k0 k1 hn1
    refine hP _ _ _ _ _ _ ⟨fun c => absurd c (by omega), fun _ => s_Town_letterAt hh i0 hl.2 ?_⟩
    rw [zw (x := K * 9) (by omega) (by omega), zw (x := i + 1) (by omega) (by omega)]
    have h9 := hd i i0 i1
    by_cases c1 : i < M (a + 3) h
    · rw [if_pos c1]
      have h2 := hn (6 * h + i) (by omega) (by omega)
      have e : zdg rk (M (a + 3)) (M (a + 2)) h i = rk (M (a + 2) (6 * h + i)) + 1 := by unfold zdg; rw [if_pos c1]
      refine ⟨fun _ => ⟨h2, ?_⟩, fun q => absurd (by omega) q⟩
      rw [hr _ h2.1 h2.2, zw (x := rk (M (a + 2) (6 * h + i)) + 1) (by omega) (by omega), ← e, zw (by omega) (by omega)]
      exact hn1
    · rw [if_neg c1]
      have e : zdg rk (M (a + 3)) (M (a + 2)) h i = 0 := by unfold zdg; rw [if_neg c1]
      refine ⟨fun q => absurd rfl q, fun _ => ?_⟩
      rw [zw (by omega) (by omega), ← e]
      exact hn1
  have h0 := hd 0 (by omega) (by omega)
  have h1 := hd 1 (by omega) (by omega)
  have h2 := hd 2 (by omega) (by omega)
  have h3 := hd 3 (by omega) (by omega)
  have h4 := hd 4 (by omega) (by omega)
  have h5 := hd 5 (by omega) (by omega)
  refine step 0 0 (by omega) (by omega) (by omega) (by omega) (step 1 _ (by omega) (by omega) (by omega) (by omega) (step 2 _ (by omega) (by omega) (by omega) (by omega) (step 3 _ (by omega) (by omega) (by omega) (by omega) (step 4 _ (by omega) (by omega) (by omega) (by omega) (step 5 _ (by omega) (by omega) (by omega) (by omega) ?_)))))
  refine hP _ _ _ _ _ _ ⟨fun _ => ?_, fun c => absurd (by decide) c⟩
  rw [zw (x := _ * 8) (by omega) (by omega), zw (by omega) (by omega)]
  have e : zky rk (M (a + 3)) (M (a + 2)) h = (((((((0 * 9 + zdg rk (M (a + 3)) (M (a + 2)) h 0) * 9 + zdg rk (M (a + 3)) (M (a + 2)) h (0 + 1)) * 9 + zdg rk (M (a + 3)) (M (a + 2)) h (0 + 1 + 1)) * 9 + zdg rk (M (a + 3)) (M (a + 2)) h (0 + 1 + 1 + 1)) * 9 + zdg rk (M (a + 3)) (M (a + 2)) h (0 + 1 + 1 + 1 + 1)) * 9 + zdg rk (M (a + 3)) (M (a + 2)) h (0 + 1 + 1 + 1 + 1 + 1)) * 8 + h) := by
    unfold zky zk6
    rw [Int.zero_mul, Int.zero_add]
    rfl
  rw [e] at H
  exact H
theorem s_Book_placeByKey {d b : Nat} {h k : Int} {M : zM} {F : Int → zM → Prop} (hc : 0 ≤ M b 4 ∧ M b 4 ≤ 8) (H : F (zcn (fun o => decide (o ≠ h) && decide (M (b + 3) o < k)) (M b 4).toNat) M) : zCi (d + 1) 41 [z_r (0, 0) b, z_i h, z_i k] M F := by
  refine e_Book_placeByKey (fun P hP => ?_)
  have loop : ∀ (m : Nat) (i : Nat), (i : Int) + m = M b 4 → P b h k (zcn (fun o => decide (o ≠ h) && decide (M (b + 3) o < k)) i) (i : Int) M := by
    intro m
    induction m with
    | zero =>
      intro i hi
      refine hP _ _ _ _ _ _ ⟨fun _ => ?_, fun c => absurd (by omega) c⟩
      rw [show i = (M b 4).toNat by omega]
      exact H
    | succ m ih =>
      intro i hi
      have hb := zcn_le (fun o => decide (o ≠ h) && decide (M (b + 3) o < k)) i
      have hn := ih (i + 1) (by omega)
      have e1 : (((i + 1 : Nat)) : Int) = (i : Int) + 1 := by omega
      rw [e1] at hn
      have e2 : zcn (fun o => decide (o ≠ h) && decide (M (b + 3) o < k)) (i + 1) = zcn (fun o => decide (o ≠ h) && decide (M (b + 3) o < k)) i + (if (decide ((i : Int) ≠ h) && decide (M (b + 3) (i : Int) < k)) = true then 1 else 0) := rfl
      rw [e2] at hn
      refine hP _ _ _ _ _ _ ⟨fun c => absurd c (by omega), fun _ => ⟨fun q => ?_, fun q => ⟨by omega, fun q2 => ?_, fun q2 => ?_⟩⟩⟩
      · rw [zw (by omega) (by omega)]
        rw [if_neg (by simp [q]), Int.add_zero] at hn
        exact hn
      · rw [zw (by omega) (by omega)]
        rw [if_neg (by simp; intro _; omega), Int.add_zero] at hn
        exact hn
      · rw [zw (x := (i : Int) + 1) (by omega) (by omega), zw (by omega) (by omega)]
        rw [if_pos (by simp; exact ⟨q, by omega⟩)] at hn
        exact hn
  have := loop (M b 4).toNat 0 (by omega)
  exact this
/-- what the book b holds of a town by an order of letters: c houses -/
def zBk (M : zM) (b : Nat) (c : Int) (rk len nam : Int → Int) : Prop := M b 4 = c ∧ (∀ h, 0 ≤ h → h < c → M (b + 3) h = zky rk len nam h) ∧ (∀ h, 0 ≤ h → h < c → M (b + 2) h = zpl c rk len nam h) ∧ zbk c (zpl c rk len nam) (M (b + 1))
theorem s_Book_write {d a b o : Nat} {k : Int} {M : zM} {F : zM → Prop} (hab : a + 6 ≤ b ∨ b + 5 ≤ a) (hob : o < b ∨ b + 5 ≤ o) (hk : 8 ≤ k) (hc : 0 ≤ M a 5 ∧ M a 5 ≤ 8) (hp : zperm (M o)) (hl : ∀ h, 0 ≤ h → h < M a 5 → 1 ≤ M (a + 3) h ∧ M (a + 3) h ≤ 6) (hn : ∀ k, 0 ≤ k → k < 48 → 0 ≤ M (a + 2) k ∧ M (a + 2) k < 8)
    (H : ∀ M', zf [b + 1, b + 2, b + 3, b + 4] [(b, 4)] M M' → zBk M' b (M a 5) (zrk (M o)) (M (a + 3)) (M (a + 2)) → F M') : zCv (d + 3) 38 [z_r (0, 0) b, z_r (9, 0) a, z_r (100, k) o] M F := by
  have ne : ∀ (M' : zM), zf [b + 1, b + 2, b + 3, b + 4] [(b, 4)] M M' → ∀ x : Nat, (x < b ∨ b + 5 ≤ x) → M' x = M x := by
    intro M' f x hx
    funext j
    refine f x j (fun q => ?_) (fun q => ?_)
    · simp only [List.mem_cons, List.not_mem_nil, or_false] at q; omega
    · simp only [List.mem_cons, List.not_mem_nil, or_false, Prod.mk.injEq] at q; omega
  have hok : zok (zrk (M o)) (M (a + 3)) (M (a + 2)) (M a 5) := ⟨hc, hl, hn, fun x _ _ => zrk_r _ x, fun x y x0 x1 y0 y1 e => zrk_j hp ⟨x0, x1⟩ ⟨y0, y1⟩ e⟩
  refine e_Book_write (fun P10 P33 P61 h10 h33 h61 => ?_)
  -- third loop: places and turns
  have loop3 : ∀ (m : Nat) (i : Int) (M1 : zM), i + m = M a 5 → 0 ≤ i → zf [b + 1, b + 2, b + 3, b + 4] [(b, 4)] M M1 → M1 b 4 = M a 5 → (∀ h, 0 ≤ h → h < M a 5 → M1 (b + 3) h = zky (zrk (M o)) (M (a + 3)) (M (a + 2)) h) → (∀ h, 0 ≤ h → h < i → M1 (b + 2) h = zpl (M a 5) (zrk (M o)) (M (a + 3)) (M (a + 2)) h) → (∀ h, 0 ≤ h → h < i → M1 (b + 1) (zpl (M a 5) (zrk (M o)) (M (a + 3)) (M (a + 2)) h) = h) → P61 b a k o i M1 := by
    intro m
    induction m with
    | zero =>
      intro i M1 hi i0 f e1 e2 e3 e4
      have : i = M a 5 := by omega
      subst this
      refine h61 _ _ _ _ _ _ ⟨fun _ => H M1 f ⟨e1, e2, e3, zbk_of hok e4⟩, fun c => absurd (by omega) c⟩
    | succ m ih =>
      intro i M1 hi i0 f e1 e2 e3 e4
      refine h61 _ _ _ _ _ _ ⟨fun c => absurd c (by omega), fun _ => ⟨by omega, s_Book_placeByKey (by omega) ?_⟩⟩
      have hii : 0 ≤ i ∧ i < M a 5 := by omega
      have ep : zcn (fun o => decide (o ≠ i) && decide (M1 (b + 3) o < M1 (b + 3) i)) (M1 b 4).toNat = zpl (M a 5) (zrk (M o)) (M (a + 3)) (M (a + 2)) i := by
        rw [e1, zpl_k hok hii]
        refine zcn_c _ (fun x x0 x1 => ?_)
        rw [e2 x x0 (by omega), e2 i i0 (by omega)]
        by_cases hx : x = i
        · subst hx; simp
        · rw [decide_eq_true hx, Bool.true_and]
      have hr := zpl_r hok hii
      rw [ep, zu_s, zw (x := i + 1) (by omega) (by omega)]
      refine ⟨by omega, by omega, by omega, ih (i + 1) _ (by omega) (by omega) (zf_us (zf_us f (by simp)) (by simp)) ?_ ?_ ?_ ?_⟩
      · rw [zu_c (by omega), zu_c (by omega)]; exact e1
      · intro h a1 a2; rw [zu_c (by omega), zu_c (by omega)]; exact e2 h a1 a2
      · intro h a1 a2
        rw [zu_c (by omega)]
        by_cases hx : h = i
        · subst hx; rw [zu_s]
        · rw [zu_i (by omega)]; exact e3 h a1 (by omega)
      · intro h a1 a2
        by_cases hx : h = i
        · subst hx; rw [zu_s]
        · have : zpl (M a 5) (zrk (M o)) (M (a + 3)) (M (a + 2)) h ≠ zpl (M a 5) (zrk (M o)) (M (a + 3)) (M (a + 2)) i := fun e => hx (zpl_j hok ⟨a1, by omega⟩ hii e)
          rw [zu_i this, zu_c (by omega)]
          exact e4 h a1 (by omega)
  -- second loop: keys
  have loop2 : ∀ (m : Nat) (i : Int) (M1 : zM), i + m = M a 5 → 0 ≤ i → zf [b + 1, b + 2, b + 3, b + 4] [(b, 4)] M M1 → M1 b 4 = M a 5 → (∀ x, 0 ≤ x → x < 8 → M1 (b + 4) x = zrk (M o) x) → (∀ h, 0 ≤ h → h < i → M1 (b + 3) h = zky (zrk (M o)) (M (a + 3)) (M (a + 2)) h) → P33 b a k o i M1 := by
    intro m
    induction m with
    | zero =>
      intro i M1 hi i0 f e1 e2 e3
      have : i = M a 5 := by omega
      subst this
      refine h33 _ _ _ _ _ _ ⟨fun _ => loop3 (M a 5).toNat 0 M1 (by omega) (by omega) f e1 e3 (fun h a1 a2 => by omega) (fun h a1 a2 => by omega), fun c => absurd (by omega) c⟩
    | succ m ih =>
      intro i M1 hi i0 f e1 e2 e3
      have q2 : M1 (a + 2) = M (a + 2) := ne M1 f (a + 2) (by omega)
      have q3 : M1 (a + 3) = M (a + 3) := ne M1 f (a + 3) (by omega)
      have hli := hl i i0 (by omega)
      refine h33 _ _ _ _ _ _ ⟨fun c => absurd c (by omega), fun _ => s_Book_keyOf (rk := zrk (M o)) (by omega) (by rw [q3]; omega) (by rw [q2]; exact hn) e2 (fun x _ _ => zrk_r _ x) ⟨by omega, ?_⟩⟩
      rw [q2, q3, zw (x := i + 1) (by omega) (by omega)]
      refine ih (i + 1) _ (by omega) (by omega) (zf_us f (by simp)) ?_ ?_ ?_
      · rw [zu_c (by omega)]; exact e1
      · intro x x0 x1; rw [zu_c (by omega)]; exact e2 x x0 x1
      · intro h a1 a2
        by_cases hx : h = i
        · subst hx; rw [zu_s]
        · rw [zu_i hx]; exact e3 h a1 (by omega)
  -- first loop: ranks
  have loop1 : ∀ (m : Nat) (i : Int) (M1 : zM), i + m = 8 → 0 ≤ i → zf [b + 1, b + 2, b + 3, b + 4] [(b, 4)] M M1 → M1 b 4 = M a 5 → (∀ j, 0 ≤ j → j < i → M1 (b + 4) (M o j) = j) → P10 b a k o i M1 := by
    intro m
    induction m with
    | zero =>
      intro i M1 hi i0 f e1 e2
      have : i = 8 := by omega
      subst this
      exact h10 _ _ _ _ _ _ ⟨fun _ => loop2 (M a 5).toNat 0 M1 (by omega) (by omega) f e1 (fun x x0 x1 => zrk_u hp e2 x x0 x1) (fun h a1 a2 => by omega), fun c => absurd (by decide) c⟩
    | succ m ih =>
      intro i M1 hi i0 f e1 e2
      have qo : M1 o = M o := ne M1 f o hob
      refine h10 _ _ _ _ _ _ ⟨fun c => absurd c (by omega), fun _ => ⟨by omega, ?_⟩⟩
      rw [qo, zw (x := i + 1) (by omega) (by omega)]
      refine ⟨hp.1 i i0 (by omega), ih (i + 1) _ (by omega) (by omega) (zf_us f (by simp)) ?_ ?_⟩
      · rw [zu_c (by omega)]; exact e1
      · intro j j0 j1
        by_cases hx : j = i
        · subst hx; rw [zu_s]
        · have : M o j ≠ M o i := fun e => hx (hp.2 j i j0 (by omega) i0 (by omega) e)
          rw [zu_i this]; exact e2 j j0 (by omega)
  exact loop1 8 0 _ (by omega) (by omega) (zf_uj zf_rf (by simp)) (by rw [zu_s]) (fun j j0 j1 => by omega)

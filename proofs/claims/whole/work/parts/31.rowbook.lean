/-! THE ROW; book() -/
theorem s_Row_add {d : Nat} {x : Int} {M : zM} {F : zM → Prop} (h : 0 ≤ M 3 1 ∧ M 3 1 < 8) (H : F (z_up (z_up M 4 (M 3 1) x) 3 1 (M 3 1 + 1))) : zCv (d + 1) 57 [z_r (5, 0) 3, z_l x] M F := by
  refine e_Row_add ⟨fun q => absurd q (by omega), fun _ => ⟨h, ?_⟩⟩
  rw [zu_c (by decide), zw (by omega) (by omega)]
  exact H
theorem s_Row_tellOne {d : Nat} {x : Int} {M : zM} {F : zM → Prop} (H : ∀ M', zf [4] [(3, 1)] M M' → M' 3 1 = 1 → M' 4 0 = x → F M') : zCv (d + 2) 56 [z_r (5, 0) 3, z_l x] M F := by
  refine e_Row_tellOne (s_Row_add (by rw [zu_s]; decide) ?_)
  rw [zu_s]
  exact H _ (zf_uj (zf_us (zf_uj zf_rf (by decide)) (by decide)) (by decide)) (by rw [zu_s]; rfl) (by rw [zu_c (by decide), zu_s])
theorem s_Row_tellTwo {d : Nat} {x y : Int} {M : zM} {F : zM → Prop} (H : ∀ M', zf [4] [(3, 1)] M M' → M' 3 1 = 2 → M' 4 0 = x → M' 4 1 = y → F M') : zCv (d + 3) 55 [z_r (5, 0) 3, z_l x, z_l y] M F := by
  refine e_Row_tellTwo (s_Row_tellOne (fun M1 f1 a1 a2 => s_Row_add (by rw [a1]; decide) ?_))
  rw [a1]
  exact H _ (zf_uj (zf_us f1 (by decide)) (by decide)) (by rw [zu_s]; rfl) (by rw [zu_c (by decide), zu_i (by decide)]; exact a2) (by rw [zu_c (by decide), zu_s])
theorem s_Row_tellAll {d a : Nat} {k m : Int} {M : zM} {F : zM → Prop} (ha : a ≠ 3 ∧ a ≠ 4) (hm : 0 ≤ m ∧ m ≤ 8) (hk : 8 ≤ k) (H : ∀ M', zf [4] [(3, 1)] M M' → M' 3 1 = m → (∀ i, 0 ≤ i → i < m → M' 4 i = M a i) → F M') : zCv (d + 2) 69 [z_r (5, 0) 3, z_r (100, k) a, z_i m] M F := by
  refine e_Row_tellAll (fun P hP => ?_)
  have loop : ∀ (n : Nat) (i : Int) (M1 : zM), i + n = m → 0 ≤ i → zf [4] [(3, 1)] M M1 → M1 3 1 = i → (∀ j, 0 ≤ j → j < i → M1 4 j = M a j) → P k a m i M1 := by
    intro n
    induction n with
    | zero =>
      intro i M1 hi i0 f e1 e2
      have : i = m := by omega
      subst this
      exact hP _ _ _ _ _ ⟨fun _ => H M1 f e1 e2, fun c => absurd (by omega) c⟩
    | succ n ih =>
      intro i M1 hi i0 f e1 e2
      have ca : M1 a = M a := by
        funext j
        exact f a j (by simp; exact ha.2) (by simp; intro q; exact absurd q ha.1)
      refine hP _ _ _ _ _ ⟨fun c => absurd c (by omega), fun _ => ⟨fun c => absurd c (by omega), fun _ => ⟨by omega, s_Row_add (by omega) ?_⟩⟩⟩
      rw [e1, ca, zw (x := i + 1) (by omega) (by omega)]
      refine ih (i + 1) _ (by omega) (by omega) (zf_uj (zf_us f (by decide)) (by decide)) (by rw [zu_s]) (fun j j0 j1 => ?_)
      rw [zu_c (by decide)]
      by_cases hx : j = i
      · subst hx; rw [zu_s]
      · rw [zu_i hx]; exact e2 j j0 (by omega)
  exact loop m.toNat 0 _ (by omega) (by omega) (zf_uj zf_rf (by decide)) (by rw [zu_s]) (fun j j0 j1 => by omega)
theorem s_M_enters {d : Nat} {x : Int} {M : zM} {F : zM → Prop} (h : 0 ≤ M 179 1 ∧ M 179 1 < 24) (H : F (z_up (z_up M 180 (M 179 1) x) 179 1 (M 179 1 + 1))) : zCv (d + 1) 202 [z_r (11, 0) 179, z_l x] M F := by
  refine e_M_enters ⟨h, ?_⟩
  rw [zu_c (by decide), zw (by omega) (by omega)]
  exact H
/-- a row of the reference beside functions: order, lengths, names -/
def zRw (M : zM) (q : Nat) (c : Int) (ord len nam : Int → Int) : Prop := (∀ i, 0 ≤ i → i < 8 → M q i = ord i) ∧ (∀ h, 0 ≤ h → h < c → M q (8 + h) = len h) ∧ ∀ h i, 0 ≤ h → h < c → 0 ≤ i → i < len h → M q (16 + (6 * h + i)) = nam (6 * h + i)
/-- an order of letters, names: all that a book needs -/
def zTn (c : Int) (ord len nam : Int → Int) : Prop := (0 ≤ c ∧ c ≤ 8) ∧ zperm ord ∧ (∀ h, 0 ≤ h → h < c → 1 ≤ len h ∧ len h ≤ 6) ∧ ∀ k, 0 ≤ k → k < 48 → 0 ≤ nam k ∧ nam k < 8
theorem zTn_ok {c : Int} {ord len nam : Int → Int} (h : zTn c ord len nam) : zok (zrk ord) len nam c := ⟨h.1, h.2.2.1, h.2.2.2, fun x _ _ => zrk_r _ x, fun x y x0 x1 y0 y1 e => zrk_j h.2.1 ⟨x0, x1⟩ ⟨y0, y1⟩ e⟩
theorem tW_Tn {n c day : Int} {ord nam len dry had : Int → Int} (h : tW n c day ord nam len dry had) : zTn c ord len nam := ⟨h.1, ⟨h.2.2.1, h.2.2.2.1⟩, h.2.2.2.2.2.1, h.2.2.2.2.1⟩
theorem tR_Rw {n c : Int} {M : zM} {a q : Nat} (h : tR n c M a q 0) : zTn c (M (a + 1)) (M (a + 3)) (M (a + 2)) ∧ zRw M q c (M (a + 1)) (M (a + 3)) (M (a + 2)) := by
  obtain ⟨h1, h2, e1, e2, e3, -⟩ := h
  simp only [Int.zero_add] at e1 e2 e3
  exact ⟨tW_Tn h2, fun i a b => (e1 i a b).symm, fun h a b => (e2 h a (by have := h2.1; omega)).symm, fun h i a b a' b' => (e3 h i a b a' b').symm⟩
theorem zRw_nm {M : zM} {q : Nat} {c : Int} {ord len nam : Int → Int} (h : zTn c ord len nam) (hr : zRw M q c ord len nam) : znm c (fun h => M q (8 + h)) (fun k => M q (16 + k)) := by
  obtain ⟨h1, h2, h3, h4⟩ := h
  obtain ⟨r1, r2, r3⟩ := hr
  refine ⟨h1, fun h a b => ?_, fun h i a b a' b' => ?_⟩
  · show 1 ≤ M q (8 + h) ∧ M q (8 + h) ≤ 6
    rw [r2 h a b]; exact h3 h a b
  · have b' : i < M q (8 + h) := b'
    rw [r2 h a b] at b'
    show 0 ≤ M q (16 + (6 * h + i)) ∧ M q (16 + (6 * h + i)) < 8
    have := h3 h a b
    rw [r3 h i a b a' b']; exact h4 _ (by omega) (by omega)
theorem zUn_c {M M1 : zM} {q : Nat} {c : Int} {ord len nam : Int → Int} (h : zTn c ord len nam) (hr : zRw M q c ord len nam) (hU : zUn M1 c (fun h => M q (8 + h)) (fun k => M q (16 + k))) : zUn M1 c len nam := by
  obtain ⟨h1, h2, h3, h4⟩ := h
  obtain ⟨r1, r2, r3⟩ := hr
  intro a b a0 a1 b0 b1
  obtain ⟨u1, u2, u3⟩ := hU a b a0 a1 b0 b1
  obtain ⟨m1, m2⟩ := zdf_c (len' := fun h => M q (8 + h)) (nam' := fun k => M q (16 + k)) h3 r2 r3 ⟨a0, a1⟩ ⟨b0, b1⟩
  have la := h3 a a0 a1
  have lb := h3 b b0 b1
  obtain ⟨⟨g1, g2⟩, -⟩ := zdf_s (len := len) (nam := nam) (a := a) (b := b) ⟨by omega, la.2⟩ ⟨by omega, lb.2⟩
  have hmn : zmn len a b ≤ len a ∧ zmn len a b ≤ len b := by unfold zmn; split <;> omega
  rw [u1, u2, u3]
  refine ⟨?_, ?_, ?_⟩
  · unfold zmi
    rw [m1, m2]
    by_cases hc : zdf len nam a b < zmn len a b
    · rw [if_pos hc, if_pos hc]; exact r3 a _ a0 a1 g1 (by omega)
    · rw [if_neg hc, if_neg hc]
  · unfold zth
    rw [m1, m2]
    by_cases hc : zdf len nam a b < zmn len a b
    · rw [if_pos hc, if_pos hc]; exact r3 b _ b0 b1 g1 (by omega)
    · rw [if_neg hc, if_neg hc]
  · unfold zia
    simp only [r2 a a0 a1, r2 b b0 b1]
theorem zperm_c {ord ord' : Int → Int} (h : zperm ord) (e : ∀ i, 0 ≤ i → i < 8 → ord' i = ord i) : zperm ord' := ⟨fun i a b => by rw [e i a b]; exact h.1 i a b, fun i j a b a' b' q => h.2 i j a b a' b' (by rw [← e i a b, ← e j a' b']; exact q)⟩
/-- what the reference's rows hold of a book -/
def zBr (M : zM) (c : Int) (rk len nam : Int → Int) : Prop := (∀ h, 0 ≤ h → h < c → M 198 h = zpl c rk len nam h) ∧ zbk c (zpl c rk len nam) (M 199)
theorem s_M_laysBook {d q : Nat} {k : Int} {M : zM} {F : zM → Prop} {ord len nam : Int → Int} (hk : 64 ≤ k) (hq : q < 194 ∨ 199 < q) (ht : zTn (M 179 3) ord len nam) (hr : zRw M q (M 179 3) ord len nam) (H : ∀ M', zf [194, 195, 196, 197, 198, 199] [] M M' → zUn M' (M 179 3) len nam → (∀ x, 0 ≤ x → x < 8 → M' 197 x = zrk ord x) → zBr M' (M 179 3) (zrk ord) len nam → F M') : zCv (d + 3) 175 [z_r (11, 0) 179, z_r (100, k) q] M F := by
  refine e_M_laysBook (s_M_laysUnlike hk (by omega) (zRw_nm ht hr) (fun M1 f1 u1 => ?_))
  have u2 := zUn_c ht hr u1
  have c1 : M1 q = M q := by funext j; exact f1 q j (by simp; omega) (by simp)
  have e1 : M1 179 3 = M 179 3 := zf_a f1 179 3 rfl
  have hp : zperm (M1 q) := zperm_c ht.2.1 (fun i a b => by rw [c1]; exact hr.1 i a b)
  have hz : zrk (M1 q) = zrk ord := zrk_c (fun i a b => by rw [c1]; exact hr.1 i a b)
  refine s_M_laysRanks (by omega) (by omega) hp (fun M2 f2 r2 => ?_)
  rw [hz] at r2
  have e2 : M2 179 3 = M 179 3 := by rw [zf_a f2 179 3 rfl]; exact e1
  have u3 : zUn M2 (M 179 3) len nam := fun a b a0 a1 b0 b1 => by
    rw [zf_c f2 194 rfl, zf_c f2 195 rfl, zf_c f2 196 rfl]; exact u2 a b a0 a1 b0 b1
  refine s_M_laysPlaces (len := len) (nam := nam) (rk := zrk ord) (by rw [e2]; exact zTn_ok ht) (by rw [e2]; exact u3) r2 (fun M3 f3 p1 p2 => ?_)
  rw [e2] at p1 p2
  refine H M3 (zf_ww (zf_tr (zf_tr f1 f2) f3) rfl rfl) (fun a b a0 a1 b0 b1 => ?_) (fun x x0 x1 => ?_) ⟨p1, p2⟩
  · rw [zf_c f3 194 rfl, zf_c f3 195 rfl, zf_c f3 196 rfl]; exact u3 a b a0 a1 b0 b1
  · rw [zf_c f3 197 rfl]; exact r2 x x0 x1
/-- the class's book of the town as it is -/
theorem s_W_write {d : Nat} {n : Int} {M : zM} {F : zM → Prop} (hJ : tR n (M 179 3) M 23 183 0) (H : ∀ M', zf [36, 37, 38, 39] [(35, 4)] M M' → zBk M' 35 (M 179 3) (zrk (M 24)) (M 26) (M 25) → F M') : zCv (d + 3) 38 [z_r (0, 0) 35, z_r (9, 0) 23, z_r (100, 8) 24] M F := by
  obtain ⟨⟨t1, t2, t3, t4⟩, -⟩ := tR_Rw hJ
  have hc : M 23 5 = M 179 3 := hJ.1
  refine s_Book_write (by omega) (by omega) (by omega) (by rw [hc]; exact t1) t2 (by rw [hc]; exact t3) t4 (fun M' f hb => H M' f ?_)
  rw [hc] at hb
  exact hb
theorem p_book {d : Nat} {n : Int} {M : zM} (hI : zI n M) (hn : n < 512) : zQ (d + 4) 68 208 [z_r (10, 0) 0] [z_r (11, 0) 179] n M := by
  obtain ⟨hb, hT, hR, hJ⟩ := hI
  have hJ1 := hJ.1
  obtain ⟨ht, hr⟩ := tR_Rw hJ1
  have hc : M 23 5 = M 179 3 := hJ1.1
  have hc2 := ht.1
  unfold zQ
  refine e_W_book (s_W_write hJ1 (fun M1 f1 b1 => ?_))
  have c1 : M1 23 5 = M 179 3 := by rw [zf_a f1 23 5 rfl]; exact hc
  rw [c1]
  refine s_Row_tellAll (by decide) hc2 (by decide) (fun M2 f2 r1 r2 => ?_)
  have f12 := zf_tr f1 f2
  have c2 : M2 23 5 = M 179 3 := by rw [zf_a f2 23 5 rfl]; exact c1
  rw [c2]
  have e3 : (z_up M2 179 0 0) 179 3 = M 179 3 := by rw [zu_i (by decide), zf_a f12 179 3 rfl]
  refine e_M_book (fun P hP => ?_)
  refine s_M_laysBook (ord := M 24) (len := M 26) (nam := M 25) (by decide) (by omega) (by rw [e3]; exact ht) ?_ (fun M3 f3 _ _ b3 => ?_)
  · rw [e3]
    refine ⟨fun i x y => ?_, fun h x y => ?_, fun h i x y x' y' => ?_⟩
    · rw [zu_c (by decide), zf_c f12 183 rfl]; exact hr.1 i x y
    · rw [zu_c (by decide), zf_c f12 183 rfl]; exact hr.2.1 h x y
    · rw [zu_c (by decide), zf_c f12 183 rfl]; exact hr.2.2 h i x y x' y'
  rw [e3] at b3
  have f3' : zf [36, 37, 38, 39, 4, 194, 195, 196, 197, 198, 199, 180] [(35, 4), (3, 1), (179, 0), (179, 1)] M M3 := zf_ww (zf_tr (zf_uj (zf_ww (K := [(35, 4), (3, 1), (179, 0)]) f12 (T := [36, 37, 38, 39, 4]) rfl rfl) (by decide)) f3) rfl rfl
  have e4 : M3 179 3 = M 179 3 := by rw [zf_a f3 179 3 rfl]; exact e3
  have loop : ∀ (m : Nat) (i : Int) (M4 : zM), i + m = M 179 3 → 0 ≤ i → zf [36, 37, 38, 39, 4, 194, 195, 196, 197, 198, 199, 180] [(35, 4), (3, 1), (179, 0), (179, 1)] M M4 → M4 3 = M2 3 → M4 4 = M2 4 → M4 199 = M3 199 → M4 179 1 = i → (∀ j, 0 ≤ j → j < i → M4 180 j = M3 199 j) → P i M4 := by
    intro m
    induction m with
    | zero =>
      intro i M4 hi i0 f g1 g2 g3 g4 g5
      have ei : i = M 179 3 := by omega
      subst ei
      refine hP _ _ ⟨fun _ => ?_, fun c => absurd (by rw [zf_a f 179 3 rfl]; omega) c⟩
      rw [zf_a f 179 3 rfl]
      refine ⟨rfl, ⟨by omega, by omega⟩, iT_f hT f rfl, ?_, zJ_n (zJ_f hJ f rfl) (by omega)⟩
      rw [g1, g2, g4, r1]
      refine ⟨rfl, by omega, by omega, fun j j0 j1 => ?_⟩
      rw [r2 j j0 j1, g5 j j0 j1]
      exact zbk_u b1.2.2.2 b3.2 (fun _ _ _ => rfl) j j0 j1
    | succ m ih =>
      intro i M4 hi i0 f g1 g2 g3 g4 g5
      refine hP _ _ ⟨fun c => absurd c (by rw [zf_a f 179 3 rfl]; omega), fun _ => ⟨by omega, s_M_enters (by omega) ?_⟩⟩
      rw [g4, g3, zw (x := i + 1) (by omega) (by omega)]
      refine ih (i + 1) _ (by omega) (by omega) (zf_uj (zf_us f (by decide)) (by decide)) ?_ ?_ ?_ ?_ ?_
      · rw [zu_f (by decide), zu_f (by decide)]; exact g1
      · rw [zu_f (by decide), zu_f (by decide)]; exact g2
      · rw [zu_f (by decide), zu_f (by decide)]; exact g3
      · rw [zu_s]
      · intro j j0 j1
        rw [zu_c (by decide)]
        by_cases hx : j = i
        · subst hx; rw [zu_s]
        · rw [zu_i hx]; exact g5 j j0 (by omega)
  refine loop (M 179 3).toNat 0 _ (by omega) (by omega) (zf_uj f3' (by decide)) ?_ ?_ ?_ ?_ (fun j j0 j1 => by omega)
  · rw [zu_f (by decide), zf_c f3 3 rfl, zu_f (by decide)]
  · rw [zu_f (by decide), zf_c f3 4 rfl, zu_f (by decide)]
  · rw [zu_f (by decide)]
  · rw [zu_s]

/-! marry() -/
def tkL (len : Int → Int) (h o : Int) : Int → Int := fun x => if x = h then len o else len x
def tkN (nam : Int → Int) (h o : Int) : Int → Int := fun k => if 6 * h ≤ k ∧ k < 6 * h + 6 then nam (6 * o + (k - 6 * h)) else nam k
theorem zTn_tk {c : Int} {ord len nam : Int → Int} {h o : Int} (ht : zTn c ord len nam) (ho : 0 ≤ o ∧ o < c) : zTn c ord (tkL len h o) (tkN nam h o) := by
  obtain ⟨h1, h2, h3, h4⟩ := ht
  refine ⟨h1, h2, fun x x0 x1 => ?_, fun k k0 k1 => ?_⟩
  · unfold tkL; split; exact h3 o ho.1 ho.2; exact h3 x x0 x1
  · unfold tkN; split; exact h4 _ (by omega) (by omega); exact h4 k k0 k1
theorem s_W_place {d : Nat} {h c : Int} {M : zM} {F : Int → zM → Prop} (hc : M 23 5 = c) (ht : zTn c (M 24) (M 26) (M 25)) (hh : 0 ≤ h ∧ h < c) (H : ∀ M', zf [36, 37, 38, 39] [(35, 4)] M M' → zBk M' 35 c (zrk (M 24)) (M 26) (M 25) → F (zpl c (zrk (M 24)) (M 26) (M 25) h) M') : zCi (d + 4) 37 [z_r (10, 0) 0, z_i h] M F := by
  have h8 := ht.1
  refine e_W_placeNow (s_Book_write (by omega) (by omega) (by omega) (by rw [hc]; exact ht.1) ht.2.1 (by rw [hc]; exact ht.2.2.1) ht.2.2.2 (fun M' f hb => ⟨by omega, ?_⟩))
  rw [hc] at hb
  have hb3 : M' 37 h = zpl c (zrk (M 24)) (M 26) (M 25) h := hb.2.2.1 h hh.1 hh.2
  rw [hb3]
  exact H M' f hb
theorem s_Town_takeName {d a : Nat} {h o : Int} {M : zM} {F : zM → Prop} (hh : 0 ≤ h ∧ h < 8) (ho : 0 ≤ o ∧ o < 8) (H : ∀ M', zf [a + 2, a + 3] [] M M' → M' (a + 2) = tkN (M (a + 2)) h o → M' (a + 3) = tkL (M (a + 3)) h o → F M') : zCv (d + 1) 44 [z_r (9, 0) a, z_i h, z_i o] M F := by
  refine e_Town_takeName ?_
  rw [zw (x := o * 6) (by omega) (by omega), zw (x := h * 6) (by omega) (by omega)]
  refine ⟨by omega, ho, hh, H _ (zf_us (zf_cp zf_rf (by simp)) (by simp)) ?_ ?_⟩
  · funext k
    rw [zu_c (by omega)]
    unfold tkN z_cp
    by_cases hc : 6 * h ≤ k ∧ k < 6 * h + 6
    · rw [if_pos ⟨rfl, by omega, by omega⟩, if_pos hc]; congr 1; omega
    · rw [if_neg (fun q => hc ⟨by omega, by omega⟩), if_neg hc]
  · funext k
    unfold tkL
    by_cases hc : k = h
    · rw [if_pos hc, hc, zu_s, zc_c (by omega)]
    · rw [if_neg hc, zu_i hc, zc_c (by omega)]
/-- a row in which h has taken o's name -/
def tkR (r : Int → Int) (h o : Int) : Int → Int := fun k => if k = 8 + h then r (8 + o) else if 16 + 6 * h ≤ k ∧ k < 16 + 6 * h + 6 then r (16 + 6 * o + (k - (16 + 6 * h))) else r k
theorem zRw_tk {M M' : zM} {q : Nat} {c : Int} {ord len nam : Int → Int} {h o : Int} (hc : 0 ≤ c ∧ c ≤ 8) (hl : ∀ h, 0 ≤ h → h < c → 1 ≤ len h ∧ len h ≤ 6) (hr : zRw M q c ord len nam) (hh : 0 ≤ h ∧ h < c) (ho : 0 ≤ o ∧ o < c) (e : ∀ k, 0 ≤ k → k < 64 → M' q k = tkR (M q) h o k) : zRw M' q c ord (tkL len h o) (tkN nam h o) := by
  obtain ⟨r1, r2, r3⟩ := hr
  refine ⟨fun i x y => ?_, fun x x0 x1 => ?_, fun x i x0 x1 i0 i1 => ?_⟩
  · rw [e i (by omega) (by omega)]; unfold tkR; rw [if_neg (by omega), if_neg (by omega)]; exact r1 i x y
  · rw [e _ (by omega) (by omega)]; unfold tkR tkL
    by_cases hx : x = h
    · rw [if_pos (by omega), if_pos hx]; exact r2 o ho.1 ho.2
    · rw [if_neg (by omega), if_neg (by omega), if_neg hx]; exact r2 x x0 x1
  · unfold tkL at i1
    by_cases hx : x = h
    · rw [if_pos hx] at i1
      have := hl o ho.1 ho.2
      rw [e _ (by omega) (by omega)]
      unfold tkR tkN
      rw [if_neg (by omega), if_pos (by omega), if_pos (by omega), hx]
      rw [show 16 + 6 * o + (16 + (6 * h + i) - (16 + 6 * h)) = 16 + (6 * o + i) by omega, show 6 * o + (6 * h + i - 6 * h) = 6 * o + i by omega, ← r3 o i ho.1 ho.2 i0 i1]
    · rw [if_neg hx] at i1
      have := hl x x0 x1
      rw [e _ (by omega) (by omega)]
      unfold tkR tkN
      rw [if_neg (by omega), if_neg (by omega), if_neg (by omega)]
      exact r3 x i x0 x1 i0 i1
theorem s_M_placeOf {d q : Nat} {k h : Int} {M : zM} {F : Int → zM → Prop} {ord len nam : Int → Int} (hk : 64 ≤ k) (hq : q < 194 ∨ 199 < q) (ht : zTn (M 179 3) ord len nam) (hr : zRw M q (M 179 3) ord len nam) (hh : 0 ≤ h ∧ h < M 179 3) (H : ∀ M', zf [194, 195, 196, 197, 198, 199] [] M M' → zBr M' (M 179 3) (zrk ord) len nam → F (zpl (M 179 3) (zrk ord) len nam h) M') : zCi (d + 4) 196 [z_r (11, 0) 179, z_r (100, k) q, z_i h] M F := by
  have h8 := ht.1
  refine e_M_placeOf (s_M_laysBook hk hq ht hr (fun M' f _ _ hb => ⟨by omega, ?_⟩))
  rw [hb.1 h hh.1 hh.2]
  exact H M' f hb
theorem s_M_marries {d q : Nat} {k h o : Int} {M : zM} {F : Int → zM → Prop} {ord len nam : Int → Int} (hk : 81 ≤ k) (hq : q = 183 ∨ q = 184) (ht : zTn (M 179 3) ord len nam) (hr : zRw M q (M 179 3) ord len nam)
    (h1 : 0 ≤ h → h < M 179 3 → 0 ≤ o → o < M 179 3 → h ≠ o → ∀ M', zf [q, 194, 195, 196, 197, 198, 199] [] M M' → M' q = tkR (M q) h o → F (zpl (M 179 3) (zrk ord) len nam h - zpl (M 179 3) (zrk ord) (tkL len h o) (tkN nam h o) h) M')
    (h0 : ¬ ((0 ≤ h ∧ h < M 179 3) ∧ (0 ≤ o ∧ o < M 179 3) ∧ h ≠ o) → F (-100) M) : zCi (d + 5) 198 [z_r (11, 0) 179, z_r (100, k) q, z_i h, z_i o] M F := by
  have h8 := ht.1
  refine e_M_marries (fun P hP => s_M_isHouse h8 ?_)
  by_cases c1 : 0 ≤ h ∧ h < M 179 3
  · rw [if_pos c1]
    refine ⟨fun z => absurd z (by decide), fun _ => s_M_isHouse h8 ?_⟩
    by_cases c2 : 0 ≤ o ∧ o < M 179 3
    · rw [if_pos c2]
      refine ⟨fun z => absurd z (by decide), fun _ => ⟨fun c3 => ?_, fun c3 => h0 (fun z => c3 z.2.2)⟩⟩
      refine s_M_placeOf (by omega) (by omega) ht hr c1 (fun M1 f1 b1 => ?_)
      have cq : M1 q = M q := by funext j; exact f1 q j (by simp; omega) (by simp)
      have e3 : M1 179 3 = M 179 3 := zf_a f1 179 3 rfl
      rw [zw (x := 8 + o) (by omega) (by omega), zw (x := 8 + h) (by omega) (by omega), cq]
      refine ⟨by omega, by omega, ?_⟩
      have sub : ∀ b ∈ [194, 195, 196, 197, 198, 199], b ∈ [q, 194, 195, 196, 197, 198, 199] := fun b hb => List.mem_cons_of_mem _ hb
      have f1' : zf [q, 194, 195, 196, 197, 198, 199] [] M M1 := zf_w f1 sub (fun z hz => by cases hz)
      have loop : ∀ (m : Nat) (i : Int) (M2 : zM), i + m = 6 → 0 ≤ i → zf [q, 194, 195, 196, 197, 198, 199] [] M M2 → M2 179 3 = M 179 3 → (∀ x, M2 q x = if x = 8 + h then M q (8 + o) else if 16 + 6 * h ≤ x ∧ x < 16 + 6 * h + i then M q (16 + 6 * o + (x - (16 + 6 * h))) else M q x) → P k q h o (zpl (M 179 3) (zrk ord) len nam h) i M2 := by
        intro m
        induction m with
        | zero =>
          intro i M2 hi i0 f e1 e2
          have : i = 6 := by omega
          subst this
          have eq2 : M2 q = tkR (M q) h o := by funext x; exact e2 x
          have hz := zpl_r (zTn_ok ht) c1
          refine hP _ _ _ _ _ _ _ ⟨fun _ => ?_, fun c => absurd (by decide) c⟩
          refine s_M_placeOf (ord := ord) (len := tkL len h o) (nam := tkN nam h o) (by omega) (by omega) (by rw [e1]; exact zTn_tk ht c2) (by rw [e1]; exact zRw_tk ht.1 ht.2.2.1 hr c1 c2 (fun k _ _ => by rw [eq2])) (by rw [e1]; exact c1) (fun M3 f3 b3 => ?_)
          rw [e1]
          have hz2 := zpl_r (zTn_ok (zTn_tk (h := h) ht c2)) c1
          rw [zw (by omega) (by omega)]
          refine h1 c1.1 c1.2 c2.1 c2.2 c3 M3 ?_ ?_
          · intro b j hb hj
            rw [f3 b j (fun z => hb (List.mem_cons_of_mem _ z)) (by simp)]
            exact f b j hb hj
          · funext j
            rw [f3 q j (by simp; omega) (by simp)]
            exact e2 j
        | succ m ih =>
          intro i M2 hi i0 f e1 e2
          refine hP _ _ _ _ _ _ _ ⟨fun c => absurd c (by omega), fun _ => s_M_letterOf (by omega) (by omega) (by omega) ?_⟩
          rw [zw (x := 6 * h) (by omega) (by omega), zw (x := 16 + 6 * h) (by omega) (by omega), zw (x := 16 + 6 * h + i) (by omega) (by omega), zw (x := i + 1) (by omega) (by omega)]
          refine ⟨by omega, ih (i + 1) _ (by omega) (by omega) (zf_us f (by simp)) ?_ (fun x => ?_)⟩
          · rw [zu_c (by omega)]; exact e1
          · by_cases hx : x = 16 + 6 * h + i
            · rw [hx, zu_s, if_neg (by omega), if_pos (by omega), e2, if_neg (by omega), if_neg (by omega)]
              congr 1; omega
            · rw [zu_i hx, e2 x]
              by_cases hx2 : x = 8 + h
              · rw [if_pos hx2, if_pos hx2]
              · rw [if_neg hx2, if_neg hx2]
                by_cases hx3 : 16 + 6 * h ≤ x ∧ x < 16 + 6 * h + i
                · rw [if_pos hx3, if_pos (by omega)]
                · rw [if_neg hx3, if_neg (by omega)]
      refine loop 6 0 _ (by omega) (by omega) (zf_us f1' (by simp)) (by rw [zu_c (by omega)]; exact e3) (fun x => ?_)
      by_cases hx : x = 8 + h
      · rw [if_pos hx, hx, zu_s]
      · rw [if_neg hx, zu_i hx, if_neg (by omega), cq]
    · rw [if_neg c2]
      exact ⟨fun _ => h0 (fun z => c2 z.2.1), fun z => absurd rfl z⟩
  · rw [if_neg c1]
    exact ⟨fun _ => h0 (fun z => c1 z.1), fun z => absurd rfl z⟩
/-- the town behind a marriage -/
theorem tW_tk {n c day : Int} {ord nam len dry had : Int → Int} {h o : Int} (hw : tW n c day ord nam len dry had) (hh : 0 ≤ h ∧ h < c) (ho : 0 ≤ o ∧ o < c) : tW n c day ord (tkN nam h o) (tkL len h o) dry had := by
  obtain ⟨h1, h2, h3, h4, h5, h6, h7, h8⟩ := hw
  refine ⟨h1, h2, h3, h4, fun k k0 k1 => ?_, fun x x0 x1 => ?_, fun x x0 x1 => ?_, h8⟩
  · unfold tkN; split; exact h5 _ (by omega) (by omega); exact h5 k k0 k1
  · unfold tkL; split; exact h6 o ho.1 ho.2; exact h6 x x0 x1
  · unfold tkL; rw [if_neg (by omega)]; exact h7 x x0 x1
theorem tE_tk {n c day : Int} {ord nam len dry had r r' : Int → Int} {h o : Int} (hw : tW n c day ord nam len dry had) (he : tE c day ord nam len dry had r) (hh : 0 ≤ h ∧ h < c) (ho : 0 ≤ o ∧ o < c) (er : ∀ k, 0 ≤ k → k < 81 → r' k = tkR r h o k) : tE c day ord (tkN nam h o) (tkL len h o) dry had r' := by
  obtain ⟨h1, h2, h3, h4, h5, h6, h7, h8⟩ := hw
  obtain ⟨e1, e2, e3, e4, e5, e6⟩ := he
  refine ⟨fun i x y => ?_, fun x x0 x1 => ?_, fun x i x0 x1 i0 i1 => ?_, fun x x0 x1 => ?_, fun x x0 x1 => ?_, ?_⟩
  · rw [er i (by omega) (by omega)]; unfold tkR; rw [if_neg (by omega), if_neg (by omega)]; exact e1 i x y
  · rw [er _ (by omega) (by omega)]; unfold tkR tkL
    by_cases hx : x = h
    · rw [if_pos hx, if_pos (by omega)]; exact e2 o ho.1 (by omega)
    · rw [if_neg hx, if_neg (by omega), if_neg (by omega)]; exact e2 x x0 x1
  · unfold tkL at i1
    by_cases hx : x = h
    · rw [if_pos hx] at i1
      have := h6 o ho.1 ho.2
      rw [er _ (by omega) (by omega)]
      unfold tkR tkN
      rw [if_pos (by omega), if_neg (by omega), if_pos (by omega), hx, show 16 + 6 * o + (16 + (6 * h + i) - (16 + 6 * h)) = 16 + (6 * o + i) by omega, show 6 * o + (6 * h + i - 6 * h) = 6 * o + i by omega]
      exact e3 o i ho.1 ho.2 i0 i1
    · rw [if_neg hx] at i1
      have := h6 x x0 x1
      rw [er _ (by omega) (by omega)]
      unfold tkR tkN
      rw [if_neg (by omega), if_neg (by omega), if_neg (by omega)]
      exact e3 x i x0 x1 i0 i1
  · rw [er _ (by omega) (by omega)]; unfold tkR; rw [if_neg (by omega), if_neg (by omega)]; exact e4 x x0 x1
  · rw [er _ (by omega) (by omega)]; unfold tkR; rw [if_neg (by omega), if_neg (by omega)]; exact e5 x x0 x1
  · rw [er _ (by omega) (by omega)]; unfold tkR; rw [if_neg (by omega), if_neg (by omega)]; exact e6
/-- what is put by in the reference: behind putsBy, an act, adds -/
theorem zU_row {u k j : Int} {R0 R1 R2 now : Int → Int} (hu : 0 ≤ u ∧ u ≤ 15) (h1 : ∀ k, (k < 81 * u ∨ 81 * u + 81 ≤ k) → R1 k = R0 k) (h2 : ∀ k, 0 ≤ k → k < 81 → R1 (81 * u + k) = now k) (h3 : ∀ k, 0 ≤ k → k < 1215 → R2 k = R1 (if u < 15 then k else k + 81)) (j0 : 0 ≤ j) (j1 : j < (if u < 15 then u + 1 else 15)) (k0 : 0 ≤ k) (k1 : k < 81) : R2 (81 * j + k) = (if j = (if u < 15 then u + 1 else 15) - 1 then now k else R0 (81 * (if u < 15 then j else j + 1) + k)) := by
  by_cases c : u < 15
  · rw [if_pos c] at j1 ⊢
    rw [h3 _ (by omega) (by omega), if_pos c, if_pos c]
    by_cases e : j = u + 1 - 1
    · rw [if_pos e, show 81 * j + k = 81 * u + k by omega]; exact h2 k k0 k1
    · rw [if_neg e]; exact h1 _ (by omega)
  · rw [if_neg c] at j1 ⊢
    rw [h3 _ (by omega) (by omega), if_neg c, if_neg c]
    by_cases e : j = 15 - 1
    · rw [if_pos e, show 81 * j + k + 81 = 81 * u + k by omega]; exact h2 k k0 k1
    · rw [if_neg e, show 81 * (j + 1) + k = 81 * j + k + 81 by omega]; exact h1 _ (by omega)
theorem p_marry {d : Nat} {a b n : Int} {M : zM} (hI : zI n M) (hn : n < 512) : zQ (d + 6) 42 197 [z_r (10, 0) 0, z_i a, z_i b] [z_r (11, 0) 179, z_i a, z_i b] n M := by
  have hI0 := hI
  obtain ⟨hb, hT, hR, hJ⟩ := hI
  obtain ⟨j1, j2, j3, j4, hP, hK, j7, j8⟩ := hJ
  obtain ⟨ht, hr⟩ := tR_Rw j1
  have ht : zTn (M 179 3) (M 24) (M 26) (M 25) := ht
  have hr : zRw M 183 (M 179 3) (M 24) (M 26) (M 25) := hr
  have hc : M 23 5 = M 179 3 := j1.1
  have h8 := ht.1
  have hP0 := hP
  obtain ⟨q1, q2, q3, q4⟩ := hP
  unfold zQ
  refine e_W_marry (s_Town_canMarry ?_)
  rw [hc]
  by_cases cc : (0 ≤ a ∧ a < M 179 3) ∧ (0 ≤ b ∧ b < M 179 3) ∧ a ≠ b
  · rw [if_pos cc]
    obtain ⟨ca, cb, cab⟩ := cc
    refine ⟨fun _ => s_Past_push (by omega) q2 q3 (fun M1 f1 p1 p2 p3 p4 => ?_), fun z => absurd (by decide) z⟩
    have t24 : M1 24 = M 24 := zf_c f1 24 (by decide)
    have t25 : M1 25 = M 25 := zf_c f1 25 (by decide)
    have t26 : M1 26 = M 26 := zf_c f1 26 (by decide)
    refine s_W_place (c := M 179 3) (by rw [zf_a f1 23 5 (by decide)]; exact hc) (by rw [t24, t25, t26]; exact ht) ca (fun M2 f2 _ => ?_)
    refine s_Town_takeName (by omega) (by omega) (fun M3 f3 n1 n2 => ?_)
    have n1 : M3 25 = tkN (M 25) a b := by rw [n1, zf_c f2 25 rfl, t25]
    have n2 : M3 26 = tkL (M 26) a b := by rw [n2, zf_c f2 26 rfl, t26]
    have n0 : M3 24 = M 24 := by rw [zf_c f3 24 rfl, zf_c f2 24 rfl, t24]
    refine s_W_place (c := M 179 3) (by rw [zf_a f3 23 5 rfl, zf_a f2 23 5 rfl, zf_a f1 23 5 (by decide)]; exact hc) (by rw [n0, n1, n2]; exact zTn_tk ht cb) ca (fun M4 f4 _ => ?_)
    rw [t24, t25, t26, n0, n1, n2]
    have hz1 := zpl_r (zTn_ok ht) ca
    have hz2 := zpl_r (zTn_ok (zTn_tk (h := a) ht cb)) ca
    rw [zw (by omega) (by omega)]
    -- class side done: M4
    have fc : zf [36, 37, 38, 39, 25, 26] [(35, 4)] M1 M4 := zf_ww (zf_tr (zf_tr f2 f3) f4) rfl rfl
    have g3 : M4 179 = M 179 := by rw [zf_c fc 179 rfl, zf_c f1 179 (by decide)]
    have g185 : M4 183 = M 183 := by rw [zf_c fc 183 rfl, zf_c f1 183 (by decide)]
    have g203 : M4 201 = M 201 := by rw [zf_c fc 201 rfl, zf_c f1 201 (by decide)]
    have u33 : (z_up M4 179 0 0) 179 33 = M 179 33 := by rw [zu_i (by decide), g3]
    refine e_M_marry (s_M_putsBy (by rw [u33, ← q1]; exact q3) (fun M5 f5 a1 a2 => ?_))
    rw [u33] at a1 a2
    have e53 : M5 179 3 = M 179 3 := by rw [zf_a f5 179 3 rfl, zu_i (by decide), g3]
    have e5 : M5 183 = M 183 := by rw [zf_c f5 183 rfl, zu_f (by decide), g185]
    refine s_M_marries (ord := M 24) (len := M 26) (nam := M 25) (by decide) (Or.inl rfl) (by rw [e53]; exact ht) (by rw [e53]; unfold zRw; rw [e5]; exact hr) (fun _ _ _ _ _ M6 f6 b1 => ?_) (fun z => absurd (by rw [e53]; exact ⟨ca, cb, cab⟩) z)
    rw [e53]
    refine ⟨fun _ => ?_, fun z => absurd (by omega) z⟩
    have u6 : M6 179 33 = M 179 33 := by rw [zf_a f6 179 33 rfl, zf_a f5 179 33 rfl]; exact u33
    refine s_M_adds (by rw [u6, ← q1]; exact q3) (fun M7 f7 c1 c2 => ?_)
    rw [u6] at c1 c2
    -- all together
    have fm : zf [201, 183, 194, 195, 196, 197, 198, 199] [(179, 0), (179, 33)] M4 M7 := zf_ww (zf_tr (zf_tr (zf_tr (zf_uj (zf_rf (S := []) (J := [(179, 0)])) (by decide)) f5) f6) f7) rfl rfl
    have f17 : zf [36, 37, 38, 39, 25, 26, 201, 183, 194, 195, 196, 197, 198, 199] [(35, 4), (179, 0), (179, 33)] M1 M7 := zf_ww (zf_tr fc fm) rfl rfl
    have f : zf (zPast ++ [36, 37, 38, 39, 25, 26, 201, 183, 194, 195, 196, 197, 198, 199]) [(49, 1), (49, 2), (35, 4), (179, 0), (179, 33)] M M7 := zf_ww (zf_tr f1 f17) (by decide) (by decide)
    have m185 : M7 183 = tkR (M 183) a b := by rw [zf_c f7 183 rfl, b1, e5]
    have m25 : M7 25 = tkN (M 25) a b := by rw [zf_c fm 25 rfl, zf_c f4 25 rfl, n1]
    have m26 : M7 26 = tkL (M 26) a b := by rw [zf_c fm 26 rfl, zf_c f4 26 rfl, n2]
    have i3 : M7 179 3 = M 179 3 := zf_a f 179 3 (by decide)
    refine ⟨rfl, ⟨by omega, by omega⟩, iT_f hT f (by decide), iR_f hR f (by decide), zJ_n (n := n) ⟨?_, ?_, ?_, ?_, ?_, ?_, ?_, ?_⟩ (by omega)⟩
    · rw [i3]
      obtain ⟨w1, w2, w3⟩ := j1
      have o5 : M7 23 5 = M 179 3 := by rw [zf_a f 23 5 (by decide)]; exact hc
      have o6 : M7 23 6 = M 23 6 := zf_a f 23 6 (by decide)
      have o24 : M7 24 = M 24 := zf_c f 24 (by decide)
      have o27 : M7 27 = M 27 := zf_c f 27 (by decide)
      have o28 : M7 28 = M 28 := zf_c f 28 (by decide)
      refine ⟨o5, ?_, ?_⟩
      · show tW n (M 179 3) (M7 23 6) (M7 24) (M7 25) (M7 26) (M7 27) (M7 28)
        rw [o6, o24, m25, m26, o27, o28]
        exact tW_tk w2 ca cb
      · show tE (M 179 3) (M7 23 6) (M7 24) (M7 25) (M7 26) (M7 27) (M7 28) (fun k => M7 183 (0 + k))
        rw [o6, o24, m25, m26, o27, o28]
        refine tE_tk w2 w3 ca cb (fun k k0 k1 => ?_)
        show M7 183 (0 + k) = tkR (fun k => M 183 (0 + k)) a b k
        rw [m185, Int.zero_add]
        unfold tkR
        simp only [Int.zero_add]
    · rw [i3, zf_c f 46 (by decide), zf_c f 182 (by decide)]; exact j2
    · rw [zf_a f 45 2 (by decide), zf_c f 47 (by decide), zf_a f 179 5 (by decide), zf_c f 181 (by decide)]; exact j3
    · rw [zf_a f 5 1 (by decide), zf_c f 6 (by decide), zf_a f 179 22 (by decide), zf_c f 190 (by decide)]; exact j4
    · rw [i3]
      have x1 : M7 49 1 = M1 49 1 := zf_a f17 49 1 rfl
      have x2 : M7 49 2 = M1 49 2 := zf_a f17 49 2 rfl
      have hpc : ∀ b, 51 ≤ b → b ≤ 140 → M7 b = M1 b := zf_r f17 51 140 rfl
      refine iP_push hP0 j1 (by rw [x1]; exact p1) (by rw [x2]; exact p2) c1 ?_ ?_ ?_
      · refine tQ_tr p3 (tQ_c ?_ ?_ (fun x y z => hpc x (by omega) (by omega)))
        · rw [hpc _ (by omega) (by omega)]
        · rw [hpc _ (by omega) (by omega)]
      · intro x y z w
        rw [hpc x y z]; exact p4 x y z w
      · intro j k jj0 jj1 k0 k1
        rw [x2, p2, q1] at jj1 ⊢
        refine zU_row (u := M 179 33) (R0 := M 201) (R1 := M5 201) (R2 := M7 201) (now := M 183) (by rw [← q1]; exact q3) (fun k hk => ?_) (fun k k0 k1 => ?_) (fun k k0 k1 => ?_) jj0 jj1 k0 k1
        · rw [a1 k hk, zu_c (by decide), g203]
        · rw [a2 k k0 k1, zu_c (by decide), g185]
        · rw [c2 k k0 k1, zf_c f6 201 rfl]
    · rw [i3]
      exact iK_c hK (zf_a f 0 11 (by decide)) (zf_a f 179 4 (by decide)) (zf_c f 219 (by decide)) (zf_c f 220 (by decide)) (zf_c f 221 (by decide)) (zf_r f 161 178 (by decide))
    · rw [i3, zf_a f 0 14 (by decide), zf_c f 142 (by decide), zf_c f 143 (by decide), zf_a f 179 57 (by decide), zf_c f 216 (by decide), zf_c f 217 (by decide)]; exact j7
    · rw [zf_a f 159 0 (by decide), zf_a f 154 0 (by decide)]; exact j8
  · rw [if_neg cc]
    refine ⟨fun z => absurd rfl z, fun _ => ?_⟩
    have u33 : (z_up M 179 0 0) 179 33 = M 179 33 := by rw [zu_i (by decide)]
    refine e_M_marry (s_M_putsBy (by rw [u33, ← q1]; exact q3) (fun M5 f5 a1 a2 => ?_))
    rw [u33] at a1
    have e53 : M5 179 3 = M 179 3 := by rw [zf_a f5 179 3 rfl, zu_i (by decide)]
    have e5 : M5 183 = M 183 := by rw [zf_c f5 183 rfl, zu_f (by decide)]
    refine s_M_marries (ord := M 24) (len := M 26) (nam := M 25) (by decide) (Or.inl rfl) (by rw [e53]; exact ht) (by rw [e53]; unfold zRw; rw [e5]; exact hr) (fun x y z w v => absurd (by rw [e53] at y w; exact ⟨⟨x, y⟩, ⟨z, w⟩, v⟩) cc) (fun _ => ⟨fun z => absurd rfl z, fun _ => ⟨rfl, ?_⟩⟩)
    have f : zf [201] [(179, 0)] M M5 := zf_ww (zf_tr (zf_uj (zf_rf (S := []) (J := [(179, 0)])) (by decide)) f5) rfl rfl
    refine ⟨⟨by omega, by omega⟩, iT_f hT f rfl, iR_f hR f rfl, zJ_n (n := n) ⟨?_, ?_, ?_, ?_, ?_, ?_, ?_, ?_⟩ (by omega)⟩
    · rw [zf_a f 179 3 rfl]
      exact tR_c j1 (zf_a f 23 5 rfl) (zf_a f 23 6 rfl) (zf_c f 24 rfl) (zf_c f 25 rfl) (zf_c f 26 rfl) (zf_c f 27 rfl) (zf_c f 28 rfl) (zf_c f 183 rfl)
    · rw [zf_a f 179 3 rfl, zf_c f 46 rfl, zf_c f 182 rfl]; exact j2
    · rw [zf_a f 45 2 rfl, zf_c f 47 rfl, zf_a f 179 5 rfl, zf_c f 181 rfl]; exact j3
    · rw [zf_a f 5 1 rfl, zf_c f 6 rfl, zf_a f 179 22 rfl, zf_c f 190 rfl]; exact j4
    · rw [zf_a f 179 3 rfl]
      unfold iP
      rw [zf_a f 49 1 rfl, zf_a f 49 2 rfl, zf_a f 179 33 rfl]
      refine ⟨q1, q2, q3, fun j x y => ?_⟩
      have hb := zrg_r q2 q3 ⟨x, y⟩
      have hC : ∀ b, 51 ≤ b → b ≤ 140 → M5 b = M b := zf_r f 51 140 rfl
      refine tR_Q (q4 j x y) (tQ_c (congrFun (hC _ (by omega) (by omega)) 5) (congrFun (hC _ (by omega) (by omega)) 6) (fun b h2 h3 => hC b (by omega) (by omega))) (fun k k0 k1 => ?_)
      rw [a1 _ (by omega), zu_c (by decide)]
    · rw [zf_a f 179 3 rfl]
      exact iK_c hK (zf_a f 0 11 rfl) (zf_a f 179 4 rfl) (zf_c f 219 rfl) (zf_c f 220 rfl) (zf_c f 221 rfl) (zf_r f 161 178 rfl)
    · rw [zf_a f 179 3 rfl, zf_a f 0 14 rfl, zf_c f 142 rfl, zf_c f 143 rfl, zf_a f 179 57 rfl, zf_c f 216 rfl, zf_c f 217 rfl]; exact j7
    · rw [zf_a f 159 0 rfl, zf_a f 154 0 rfl]; exact j8

/-! votes() -/
def zst (p : Int → Bool) : Nat → Int
  | 0 => 0
  | n + 1 => if p (n : Int) = true then zbs (zst p n) (n : Int) else zst p n
theorem zst_r (p : Int → Bool) : ∀ n : Nat, n ≤ 8 → 0 ≤ zst p n ∧ zst p n < 256
  | 0, _ => by show 0 ≤ (0 : Int) ∧ (0 : Int) < 256; omega
  | n + 1, h => by
    have ih := zst_r p n (by omega)
    show 0 ≤ (if p (n : Int) = true then zbs (zst p n) (n : Int) else zst p n) ∧ (if p (n : Int) = true then zbs (zst p n) (n : Int) else zst p n) < 256
    split
    · exact zbs_lt ih (by omega)
    · exact ih
theorem zst_c {p q : Int → Bool} : ∀ n : Nat, (∀ i : Int, 0 ≤ i → i < n → p i = q i) → zst p n = zst q n
  | 0, _ => rfl
  | n + 1, h => by
    show (if p (n : Int) = true then zbs (zst p n) (n : Int) else zst p n) = (if q (n : Int) = true then zbs (zst q n) (n : Int) else zst q n)
    rw [zst_c n (fun i a b => h i a (by omega)), h n (by omega) (by omega)]
theorem zst_b (p : Int → Bool) : ∀ n : Nat, n ≤ 8 → ∀ j : Int, 0 ≤ j → zb (zst p n) j = (decide (j < n) && p j)
  | 0, _, j, hj => by
    show zb 0 j = _
    rw [zb_0, decide_eq_false (by omega)]; rfl
  | n + 1, h, j, hj => by
    have ih := zst_b p n (by omega) j hj
    have r := zst_r p n (by omega)
    show zb (if p (n : Int) = true then zbs (zst p n) (n : Int) else zst p n) j = _
    by_cases e : j = n
    · subst e
      rw [decide_eq_false (by omega)] at ih
      rw [decide_eq_true (by omega)]
      by_cases c : p (n : Int) = true
      · rw [if_pos c, zb_zbs (by omega) (by omega) hj, ih, c]; simp
      · rw [if_neg c, ih]; simp at c; rw [c]; rfl
    · have e2 : decide (j < ((n + 1 : Nat) : Int)) = decide (j < (n : Int)) := by
        by_cases q : j < n
        · rw [decide_eq_true q, decide_eq_true (by omega)]
        · rw [decide_eq_false q, decide_eq_false (by omega)]
      rw [e2, ← ih]
      by_cases c : p (n : Int) = true
      · rw [if_pos c, zb_zbs (by omega) (by omega) hj, decide_eq_false (by omega)]; simp
      · rw [if_neg c]
theorem z_or0 {x : Int} (h : 0 ≤ x ∧ x < 256) : z_or x 0 = x := by
  rw [z_or_n (by omega) (by omega)]
  simp
  omega
theorem zst_u {p : Int → Bool} {n : Nat} (hn : n ≤ 8) {x : Int} (c : p (n : Int) = false) (hx : x = z_or (zst p n) 0) : x = zst p (n + 1) := by
  rw [hx, z_or0 (zst_r p n hn)]
  show _ = (if p (n : Int) = true then zbs (zst p n) (n : Int) else zst p n)
  rw [if_neg (by rw [c]; decide)]
theorem zst_v {p : Int → Bool} {n : Nat} (c : p (n : Int) = true) : zbs (zst p n) n = zst p (n + 1) := by
  show _ = (if p (n : Int) = true then zbs (zst p n) (n : Int) else zst p n)
  rw [if_pos c]
theorem s_Book_earlierIn {d a b : Nat} {M : zM} {F : Int → zM → Prop} (hc : 0 ≤ M a 4 ∧ M a 4 ≤ 8) (H : F (zst (fun h => decide (M (b + 2) h < M (a + 2) h)) (M a 4).toNat) M) : zCi (d + 1) 99 [z_r (0, 0) a, z_r (0, 0) b] M F := by
  refine e_Book_earlierIn (fun P hP => ?_)
  have loop : ∀ (n : Nat) (i : Nat), (i : Int) + n = M a 4 → P a b (zst (fun h => decide (M (b + 2) h < M (a + 2) h)) i) (i : Int) M := by
    intro n
    induction n with
    | zero =>
      intro i hi
      refine hP _ _ _ _ _ ⟨fun _ => ?_, fun c => absurd (by omega) c⟩
      rw [show i = (M a 4).toNat by omega]; exact H
    | succ n ih =>
      intro i hi
      have hn := ih (i + 1) (by omega)
      rw [show ((i + 1 : Nat) : Int) = (i : Int) + 1 by omega] at hn
      refine hP _ _ _ _ _ ⟨fun c => absurd c (by omega), fun _ => ⟨by omega, by omega, fun q => ?_, fun q => ?_⟩⟩
      · rw [zw (by omega) (by omega)]
        rw [← zst_u (p := fun h => decide (M (b + 2) h < M (a + 2) h)) (n := i) (by omega) (decide_eq_false (by omega)) (z_or0 (zst_r _ i (by omega))).symm] at hn
        exact hn
      · rw [zw (by omega) (by omega)]
        rw [← zst_v (p := fun h => decide (M (b + 2) h < M (a + 2) h)) (n := i) (decide_eq_true (by omega))] at hn
        exact hn
  exact loop (M a 4).toNat 0 (by omega)
theorem s_W_readOtherOrder {d : Nat} {n : Int} {M : zM} {F : Int → zM → Prop} (hn : 0 ≤ M 1 1 ∧ M 1 1 ≤ 80) (hJ : tR n (M 179 3) M 23 183 0)
    (h0 : ¬ (M 1 1 = 8 ∧ zro (M 1 1) (M 2) 8 0 0 = 8) → F (zro (M 1 1) (M 2) 8 0 0) (z_up M 1 1 0))
    (h1 : (M 1 1 = 8 ∧ zro (M 1 1) (M 2) 8 0 0 = 8) → ∀ M', zf [36, 37, 38, 39, 41, 42, 43, 44, 160] [(35, 4), (40, 4), (1, 1)] M M' → M' 1 1 = 0 → zBk M' 35 (M 179 3) (zrk (M 24)) (M 26) (M 25) → zBk M' 40 (M 179 3) (zrk (fun i => zle (M 2 i))) (M 26) (M 25) → F (-1) M') : zCi (d + 4) 98 [z_r (10, 0) 0] M F := by
  refine e_W_readOtherOrder (s_Text_faultInOrder hn ?_)
  by_cases hc : M 1 1 = 8 ∧ zro (M 1 1) (M 2) 8 0 0 = 8
  · rw [if_pos hc]
    refine ⟨fun q => absurd rfl q, fun _ => s_Text_copyOrder (by decide) (by decide) hc.1 (fun M1 f1 o1 => ?_)⟩
    have hperm := zio_p hc
    have hJ1 : tR n (M1 179 3) M1 23 183 0 := by
      unfold tR at hJ ⊢
      rw [zf_c f1 179 rfl, zf_c f1 23 rfl, zf_c f1 (23 + 1) rfl, zf_c f1 (23 + 2) rfl, zf_c f1 (23 + 3) rfl, zf_c f1 (23 + 4) rfl, zf_c f1 (23 + 5) rfl, zf_c f1 183 rfl]
      exact hJ
    refine s_W_write hJ1 (fun M2 f2 b2 => ?_)
    rw [zf_c f1 179 rfl, zf_c f1 24 rfl, zf_c f1 25 rfl, zf_c f1 26 rfl] at b2
    have f12 := zf_tr f1 f2
    obtain ⟨⟨t1, t2, t3, t4⟩, -⟩ := tR_Rw hJ
    have e5 : M2 23 5 = M 179 3 := by rw [zf_a f12 23 5 rfl]; exact hJ.1
    have e26 : M2 (23 + 3) = M 26 := zf_c f12 26 rfl
    have e25 : M2 (23 + 2) = M 25 := zf_c f12 25 rfl
    have e162 : ∀ i, 0 ≤ i → i < 8 → M2 160 i = zle (M 2 i) := fun i a b => by rw [zf_c f2 160 rfl]; exact o1 i a b
    refine s_Book_write (by decide) (by decide) (by decide) (by rw [e5]; exact t1) (zperm_c hperm e162) (by rw [e5, e26]; exact t3) (by rw [e25]; exact t4) (fun M3 f3 b3 => ?_)
    rw [e5, e26, e25, zrk_c e162] at b3
    have f3 : zf [41, 42, 43, 44] [(40, 4)] M2 M3 := f3
    refine h1 hc _ (zf_ww (zf_uj (zf_ww (T := [36, 37, 38, 39, 41, 42, 43, 44, 160]) (K := [(35, 4), (40, 4), (1, 1)]) (zf_tr f12 f3) rfl rfl) (by decide)) rfl rfl) (zu_s _ _ _ _) ?_ ?_
    · unfold zBk at b2 ⊢
      rw [zu_c (by decide), zf_a f3 35 4 rfl, zu_f (by decide), zu_f (by decide), zu_f (by decide), zf_c f3 (35 + 1) rfl, zf_c f3 (35 + 2) rfl, zf_c f3 (35 + 3) rfl]
      exact b2
    · unfold zBk at b3 ⊢
      rw [zu_c (by decide), zu_f (by decide), zu_f (by decide), zu_f (by decide)]
      exact b3
  · rw [if_neg hc]
    have hs := zro_s (M 1 1) (M 2) 8 0 0 (by omega) (by omega) (by omega)
    exact ⟨fun _ => h0 hc, fun q => absurd (by omega) q⟩
theorem s_M_earlier {d : Nat} {ord len nam : Int → Int} {M : zM} {F : Int → zM → Prop} (ht : zTn (M 179 3) ord len nam) (hr : zRw M 183 (M 179 3) ord len nam) (hp : zperm (M 202))
    (H : ∀ M', zf [194, 195, 196, 197, 198, 199, 209] [] M M' → (∀ h, 0 ≤ h → h < M 179 3 → M' 209 h = zpl (M 179 3) (zrk ord) len nam h ∧ M' 198 h = zpl (M 179 3) (zrk (M 202)) len nam h) → F (zst (fun h => decide (zpl (M 179 3) (zrk (M 202)) len nam h < zpl (M 179 3) (zrk ord) len nam h)) (M 179 3).toNat) M') : zCi (d + 4) 224 [z_r (11, 0) 179] M F := by
  refine e_M_earlier (fun P Q hP hQ => s_M_laysBook (by decide) (by decide) ht hr (fun M1 f1 u1 _ b1 => ?_))
  have hc := ht.1
  have loop1 : ∀ (n : Nat) (i : Int) (M2 : zM), i + n = M 179 3 → 0 ≤ i → zf [209] [] M1 M2 → (∀ h, 0 ≤ h → h < i → M2 209 h = zpl (M 179 3) (zrk ord) len nam h) → P i M2 := by
    intro n
    induction n with
    | zero =>
      intro i M2 hi i0 f2 w
      have : i = M 179 3 := by omega
      subst this
      have f12 := zf_tr f1 f2
      have e3 : M2 179 3 = M 179 3 := zf_a f12 179 3 rfl
      have e204 : M2 202 = M 202 := zf_c f12 202 rfl
      refine hP _ _ ⟨fun _ => ?_, fun c => absurd (by omega) c⟩
      refine s_M_laysRanks (by decide) (by decide) (by rw [e204]; exact hp) (fun M3 f3 r3 => ?_)
      rw [e204] at r3
      have e33 : M3 179 3 = M 179 3 := by rw [zf_a f3 179 3 rfl]; exact e3
      refine s_M_laysPlaces (len := len) (nam := nam) (rk := zrk (M 202)) (by rw [e33]; exact zTn_ok ⟨ht.1, hp, ht.2.2⟩) ?_ r3 (fun M4 f4 p4 _ => ?_)
      · rw [e33]
        intro a b a0 a1 b0 b1
        rw [zf_c f3 194 rfl, zf_c f3 195 rfl, zf_c f3 196 rfl, zf_c f2 194 rfl, zf_c f2 195 rfl, zf_c f2 196 rfl]
        exact u1 a b a0 a1 b0 b1
      · rw [e33] at p4
        have f34 := zf_tr f3 f4
        have e43 : M4 179 3 = M 179 3 := by rw [zf_a f4 179 3 rfl]; exact e33
        have e211 : ∀ h, 0 ≤ h → h < M 179 3 → M4 209 h = zpl (M 179 3) (zrk ord) len nam h := fun h a b => by rw [zf_c f34 209 rfl]; exact w h a b
        have fin := H M4 (zf_ww (zf_tr f12 f34) rfl rfl) (fun h a b => ⟨e211 h a b, p4 h a b⟩)
        have loop2 : ∀ (n : Nat) (i : Nat), (i : Int) + n = M 179 3 → Q (zst (fun h => decide (zpl (M 179 3) (zrk (M 202)) len nam h < zpl (M 179 3) (zrk ord) len nam h)) i) (i : Int) M4 := by
          intro n
          induction n with
          | zero =>
            intro i hi
            refine hQ _ _ _ ⟨fun _ => ?_, fun c => absurd (by omega) c⟩
            rw [show i = (M 179 3).toNat by omega]; exact fin
          | succ n ih =>
            intro i hi
            have hn := ih (i + 1) (by omega)
            rw [show ((i + 1 : Nat) : Int) = (i : Int) + 1 by omega] at hn
            have g1 := e211 i (by omega) (by omega)
            have g2 := p4 i (by omega) (by omega)
            refine hQ _ _ _ ⟨fun c => absurd c (by omega), fun _ => ⟨by omega, by omega, fun q => ?_, fun q => ?_⟩⟩
            · rw [zw (by omega) (by omega)]
              rw [g1, g2] at q
              rw [← zst_u (p := fun h => decide (zpl (M 179 3) (zrk (M 202)) len nam h < zpl (M 179 3) (zrk ord) len nam h)) (n := i) (by omega) (decide_eq_false (by omega)) rfl] at hn
              exact hn
            · rw [zw (by omega) (by omega)]
              rw [g1, g2] at q
              rw [← zst_v (p := fun h => decide (zpl (M 179 3) (zrk (M 202)) len nam h < zpl (M 179 3) (zrk ord) len nam h)) (n := i) (decide_eq_true (by omega))] at hn
              exact hn
        exact loop2 (M 179 3).toNat 0 (by omega)
    | succ n ih =>
      intro i M2 hi i0 f2 w
      have e3 : M2 179 3 = M 179 3 := by rw [zf_a f2 179 3 rfl, zf_a f1 179 3 rfl]
      refine hP _ _ ⟨fun c => absurd c (by omega), fun _ => ⟨by omega, by omega, ?_⟩⟩
      rw [zw (by omega) (by omega)]
      refine ih (i + 1) _ (by omega) (by omega) (zf_us f2 (by decide)) (fun h a b => ?_)
      by_cases hx : h = i
      · subst hx; rw [zu_s, zf_c f2 198 rfl]; exact b1.1 h a (by omega)
      · rw [zu_i hx]; exact w h a (by omega)
  exact loop1 (M 179 3).toNat 0 M1 (by omega) (by omega) zf_rf (fun h a b => by omega)
theorem zRw_f {S : List Nat} {J : List (Nat × Int)} {M M' : zM} {q : Nat} {c : Int} {ord len nam : Int → Int} (h : zRw M q c ord len nam) (e : M' q = M q) : zRw M' q c ord len nam := by
  unfold zRw at h ⊢; rw [e]; exact h
theorem p_votes {d : Nat} {n : Int} {M : zM} (hI : zI n M) (hn : n < 512) : zQ (d + 10) 97 223 [z_r (10, 0) 0] [z_r (11, 0) 179] n M := by
  obtain ⟨hb, ⟨t1, t2, t3, t4⟩, hR, hJ⟩ := hI
  have hJ0 := hJ
  have hJ1 := hJ.1
  obtain ⟨ht, hr⟩ := tR_Rw hJ1
  have ht : zTn (M 179 3) (M 24) (M 26) (M 25) := ht
  have hr : zRw M 183 (M 179 3) (M 24) (M 26) (M 25) := hr
  have hc2 := ht.1
  have ez : zro (M 179 11) (M 185) 8 0 0 = zro (M 1 1) (M 2) 8 0 0 := by
    rw [← t1]
    exact zro_c 8 0 0 (fun j x y => (t4 j x y).1.symm)
  unfold zQ
  refine e_W_votes (s_W_readOtherOrder ⟨t2, t3⟩ hJ1 (fun hc => ?_) (fun hc M1 f1 w1 b1 b2 => ?_))
  · have hs := zro_s (M 1 1) (M 2) 8 0 0 (by omega) (by omega) (by omega)
    refine ⟨fun q => absurd q (by omega), fun _ => ?_⟩
    rw [zw (by omega) (by omega)]
    have f1 : zf [] [(1, 1)] M (z_up M 1 1 0) := zf_uj zf_rf (by decide)
    generalize hM1 : z_up M 1 1 0 = M1 at f1
    have u11 : (z_up M1 179 0 0) 179 11 = M 179 11 := by rw [zu_i (by decide), zf_c f1 179 rfl]
    have u187 : (z_up M1 179 0 0) 185 = M 185 := by rw [zu_f (by decide), zf_c f1 185 rfl]
    refine e_M_votes (fun P hP1 => s_M_readsOrder (by rw [u11, ← t1]; exact ⟨t2, t3⟩) (fun M4 f4 b1 b2 => ?_))
    rw [u11, u187, ez, ← t1, if_neg hc]
    have F := zf_tr (zf_tr f1 (zf_uj (zf_rf (S := []) (J := [(179, 0)])) (by decide))) f4
    refine ⟨fun z => absurd z (by omega), fun _ => ⟨?_, ⟨by omega, by omega⟩, ?_, ?_, ?_⟩⟩
    · rw [zw (x := -1 - _ + 1) (by omega) (by omega), zw (by omega) (by omega)]; omega
    · exact iT_0 (by rw [zf_a f4 1 1 rfl, zu_c (by decide), ← hM1, zu_s]) b1
    · exact iR_f hR F rfl
    · exact zJ_n (zJ_f hJ0 F rfl) (by omega)
  · refine ⟨fun _ => ?_, fun q => absurd rfl q⟩
    refine s_Book_earlierIn (by rw [b1.1]; exact hc2) ?_
    refine s_Book_earlierIn (by rw [b2.1]; exact hc2) ?_
    rw [b1.1, b2.1]
    rw [zst_c (q := fun h => decide (zpl (M 179 3) (zrk (fun i => zle (M 2 i))) (M 26) (M 25) h < zpl (M 179 3) (zrk (M 24)) (M 26) (M 25) h)) (M 179 3).toNat (fun i a b => by rw [b1.2.2.1 i a (by omega), b2.2.2.1 i a (by omega)]),
      zst_c (p := fun h => decide (M1 (35 + 2) h < M1 (40 + 2) h)) (q := fun h => decide (zpl (M 179 3) (zrk (M 24)) (M 26) (M 25) h < zpl (M 179 3) (zrk (fun i => zle (M 2 i))) (M 26) (M 25) h)) (M 179 3).toNat (fun i a b => by rw [b1.2.2.1 i a (by omega), b2.2.2.1 i a (by omega)])]
    have r1 := zst_r (fun h => decide (zpl (M 179 3) (zrk (fun i => zle (M 2 i))) (M 26) (M 25) h < zpl (M 179 3) (zrk (M 24)) (M 26) (M 25) h)) (M 179 3).toNat (by omega)
    generalize hA : zst (fun h => decide (zpl (M 179 3) (zrk (fun i => zle (M 2 i))) (M 26) (M 25) h < zpl (M 179 3) (zrk (M 24)) (M 26) (M 25) h)) (M 179 3).toNat = A at r1
    generalize hB : zst (fun h => decide (zpl (M 179 3) (zrk (M 24)) (M 26) (M 25) h < zpl (M 179 3) (zrk (fun i => zle (M 2 i))) (M 26) (M 25) h)) (M 179 3).toNat = B
    refine s_Row_tellTwo (fun M2 f2 r2 r3 r4 => s_bitCount r1 ?_)
    have f12 := zf_tr f1 f2
    have u11 : (z_up M2 179 0 0) 179 11 = M 179 11 := by rw [zu_i (by decide), zf_c f12 179 rfl]
    have u187 : (z_up M2 179 0 0) 185 = M 185 := by rw [zu_f (by decide), zf_c f12 185 rfl]
    refine e_M_votes (fun P hP1 => s_M_readsOrder (by rw [u11, ← t1]; exact ⟨t2, t3⟩) (fun M4 f4 c1 c2 => ?_))
    rw [u11, u187, ez, ← t1] at c2 ⊢
    rw [if_pos hc]
    have c2 := c2 hc
    have F4 : zf [36, 37, 38, 39, 41, 42, 43, 44, 160, 4, 202] [(35, 4), (40, 4), (1, 1), (3, 1), (179, 0), (179, 11), (179, 12), (179, 13), (179, 14)] M M4 := zf_ww (zf_tr (zf_tr f12 (zf_uj (zf_rf (S := []) (J := [(179, 0)])) (by decide))) f4) rfl rfl
    have e204 : ∀ i, 0 ≤ i → i < 8 → M4 202 i = zle (M 2 i) := fun i a b => by rw [c2 i a b, (t4 i a (by omega)).1]
    have e3 : M4 179 3 = M 179 3 := zf_a F4 179 3 rfl
    refine ⟨fun _ => s_M_earlier (ord := M 24) (len := M 26) (nam := M 25) (by rw [e3]; exact ht) (by rw [e3]; exact zRw_f (S := []) (J := []) hr (zf_c F4 183 rfl)) (zperm_c (zio_p hc) e204) (fun M5 f5 p5 => ?_), fun z => absurd (by decide) z⟩
    rw [e3, zrk_c e204] at p5 ⊢
    rw [hA]
    have F5 : zf [36, 37, 38, 39, 41, 42, 43, 44, 160, 4, 202, 194, 195, 196, 197, 198, 199, 209] [(35, 4), (40, 4), (1, 1), (3, 1), (179, 0), (179, 11), (179, 12), (179, 13), (179, 14)] M M5 := zf_ww (zf_tr F4 f5) rfl rfl
    have e5 : M5 179 3 = M 179 3 := zf_a F5 179 3 rfl
    have f45 := zf_tr (zf_tr (zf_uj (zf_rf (M := M2) (S := []) (J := [(179, 0)])) (by decide)) f4) f5
    have fin : P 0 A B (M 179 3) M5 := by
      refine hP1 _ _ _ _ _ ⟨fun _ => ?_, fun z => absurd (by omega) z⟩
      refine s_M_enters (by rw [zu_s]; omega) ?_
      rw [zu_s]
      refine s_M_enters (by rw [zu_s]; omega) ?_
      rw [zu_s]
      refine s_bitCount r1 ?_
      have F6 : zf [36, 37, 38, 39, 41, 42, 43, 44, 160, 4, 202, 194, 195, 196, 197, 198, 199, 209, 180] [(35, 4), (40, 4), (1, 1), (3, 1), (179, 0), (179, 11), (179, 12), (179, 13), (179, 14), (179, 1)] M (z_up (z_up (z_up (z_up (z_up M5 179 1 0) 180 0 A) 179 1 (0 + 1)) 180 (0 + 1) B) 179 1 (0 + 1 + 1)) := zf_uj (zf_us (zf_uj (zf_us (zf_uj (zf_ww F5 rfl rfl) (by decide)) (by decide)) (by decide)) (by decide)) (by decide)
      refine ⟨rfl, ⟨by omega, by omega⟩, ?_, ?_, zJ_n (zJ_f hJ0 F6 rfl) (by omega)⟩
      · refine iT_0 ?_ ?_
        · rw [zu_c (by decide), zu_c (by decide), zu_c (by decide), zu_c (by decide), zu_c (by decide), zf_a f45 1 1 rfl, zf_a f2 1 1 rfl]; exact w1
        · rw [zu_i (by decide), zu_c (by decide), zu_i (by decide), zu_c (by decide), zu_i (by decide), zf_a f5 179 11 rfl]; exact c1
      · have k3 : (z_up (z_up (z_up (z_up (z_up M5 179 1 0) 180 0 A) 179 1 (0 + 1)) 180 (0 + 1) B) 179 1 (0 + 1 + 1)) 3 1 = 2 := by
          rw [zu_c (by decide), zu_c (by decide), zu_c (by decide), zu_c (by decide), zu_c (by decide), zf_a f45 3 1 rfl]; exact r2
        have k4 : ∀ i, (z_up (z_up (z_up (z_up (z_up M5 179 1 0) 180 0 A) 179 1 (0 + 1)) 180 (0 + 1) B) 179 1 (0 + 1 + 1)) 4 i = M2 4 i := fun i => by
          rw [zu_c (by decide), zu_c (by decide), zu_c (by decide), zu_c (by decide), zu_c (by decide), zf_c f45 4 rfl]
        refine ⟨by rw [k3, zu_s]; rfl, by rw [k3]; omega, by rw [k3]; omega, fun i i0 i1 => ?_⟩
        rw [k3] at i1
        rw [k4]
        by_cases z : i = 0
        · subst z
          rw [r3, zu_c (by decide), zu_i (by decide), zu_c (by decide), zu_s]
        · have : i = 1 := by omega
          subst this
          rw [r4, zu_c (by decide), show (0 : Int) + 1 = 1 from rfl, zu_s]
    have loop : ∀ (m : Nat) (i : Nat), (i : Int) + m = M 179 3 → P 0 A (zst (fun h => decide (zpl (M 179 3) (zrk (M 24)) (M 26) (M 25) h < zpl (M 179 3) (zrk (fun i => zle (M 2 i))) (M 26) (M 25) h)) i) (i : Int) M5 := by
      intro m
      induction m with
      | zero =>
        intro i hi
        rw [← hB, show (M 179 3) = (i : Int) by omega] at fin
        rw [show ((i : Int).toNat) = i from rfl] at fin
        rw [show (M 179 3) = (i : Int) by omega]
        exact fin
      | succ m ih =>
        intro i hi
        have hn := ih (i + 1) (by omega)
        rw [show ((i + 1 : Nat) : Int) = (i : Int) + 1 by omega] at hn
        have g := p5 i (by omega) (by omega)
        refine hP1 _ _ _ _ _ ⟨fun z => absurd z (by omega), fun _ => ⟨by omega, by omega, fun q => ?_, fun q => ?_⟩⟩
        · rw [zw (by omega) (by omega)]
          rw [g.1, g.2] at q
          rw [← zst_u (p := fun h => decide (zpl (M 179 3) (zrk (M 24)) (M 26) (M 25) h < zpl (M 179 3) (zrk (fun i => zle (M 2 i))) (M 26) (M 25) h)) (n := i) (by omega) (decide_eq_false (by omega)) rfl] at hn
          exact hn
        · rw [zw (by omega) (by omega)]
          rw [g.1, g.2] at q
          rw [← zst_v (p := fun h => decide (zpl (M 179 3) (zrk (M 24)) (M 26) (M 25) h < zpl (M 179 3) (zrk (fun i => zle (M 2 i))) (M 26) (M 25) h)) (n := i) (decide_eq_true (by omega))] at hn
          exact hn
    exact loop (M 179 3).toNat 0 (by omega)

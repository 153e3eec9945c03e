/-! years() -/
theorem zRt_puts {n : Int} {M B : zM} {S : zS} {c : Int} (s2 : zRt 183 c S M) (s3 : zSo c n S) (eB : ∀ k, 0 ≤ k → k < 81 → B 184 k = M 183 k) : zRt 184 c S B := by
  obtain ⟨b1, b2, b3, b4, b5, b6⟩ := s2
  have hl := s3.1.2.2.1
  have h8 := s3.1.1
  refine ⟨fun i a b => ?_, fun h a b => ?_, fun h i a b a' b' => ?_, fun h a b => ?_, fun h a b => ?_, ?_⟩
  · rw [eB _ (by omega) (by omega)]; exact b1 i a b
  · rw [eB _ (by omega) (by omega)]; exact b2 h a b
  · have := hl h a b
    rw [eB _ (by omega) (by omega)]; exact b3 h i a b a' b'
  · rw [eB _ (by omega) (by omega)]; exact b4 h a b
  · rw [eB _ (by omega) (by omega)]; exact b5 h a b
  · rw [eB _ (by omega) (by omega)]; exact b6
theorem p_years {d : Nat} {x y n : Int} {M : zM} (hI : zI n M) (hn : n < 512) : zQ (d + 6) 137 249 [z_r (10, 0) 0, z_i x, z_i y] [z_r (11, 0) 179, z_i x, z_i y] n M := by
  have hI0 := hI
  obtain ⟨hb, hT, hR, hJ⟩ := hI
  have hJ0 := hJ
  obtain ⟨i1, i2, i3, i4, i5, i6, i7, i8⟩ := zJ_in hJ
  obtain ⟨c1, c2, c3⟩ := zJ_count hJ
  obtain ⟨j1, j2, j3, j4, -⟩ := hJ
  obtain ⟨s1, s2, s3⟩ := zS0_of j1
  generalize hS : zS0 M 23 = S at s1 s2 s3
  have hSo := zYs_o (q := (x, S)) s3 i3 (zW_r M)
  have hdr := fun (i : Nat) h => zYs_dry (c := M 179 3) (th := M 46) (W := zW M) (q := (x, S)) (h := h) i
  have hdr : ∀ (i : Nat) h, 0 ≤ (zYs (M 179 3) (M 46) (zW M) i (x, S)).2.dry h - S.dry h ∧ (zYs (M 179 3) (M 46) (zW M) i (x, S)).2.dry h - S.dry h ≤ i := hdr
  have ref : ¬ (1 ≤ y ∧ y ≤ 60) → zCi (d + 6) 249 [z_r (11, 0) 179, z_i x, z_i y] M (fun v' M2 => -1 = v' ∧ zI (n + 1) M2) := by
    intro hno
    refine e_M_years (fun P Q hP hQ => s_M_in ?_)
    rw [if_neg hno]
    exact ⟨fun z => absurd rfl z, fun _ => ⟨rfl, zI_q hI0 hn⟩⟩
  unfold zQ
  refine e_W_years (fun P hP => ⟨fun q => ref (by omega), fun q => ⟨fun q2 => ?_, fun q2 => ref (by omega)⟩⟩)
  refine s_Town_become (a0 := 29) (a1 := 23) (by omega) (fun M1 f1 t1 => ?_)
  have f1 : zf [30, 31, 32, 33, 34] [(29, 5), (29, 6)] (z_up M 0 19 x) M1 := f1
  have r1 : M1 0 19 = x := by rw [zf_a f1 0 19 rfl, zu_s]
  have f1 : zf [30, 31, 32, 33, 34, 48, 36, 37, 38, 39, 7, 8, 9, 10, 11, 12, 13] [(29, 5), (29, 6), (35, 4), (5, 9), (45, 4), (45, 5), (45, 6), (45, 7), (0, 19)] M M1 := zf_ww (zf_tr (zf_uj (v := x) (zf_rf (S := []) (J := [(0, 19)]) (M := M)) (a := 0) (i := 19) (by decide)) f1) rfl rfl
  have s1' : zAt 23 (M 179 3) S (z_up M 0 19 x) := zAt_f s1 (zu_c (by decide)) (zu_c (by decide)) (zu_f (by decide)) (zu_f (by decide)) (zu_f (by decide)) (zu_f (by decide)) (zu_f (by decide))
  have a1 : zAt 29 (M 179 3) S M1 := zAt_tQ s1' t1
  have loop : ∀ (m i : Nat) (M2 : zM), (i : Int) + m = y → zf [30, 31, 32, 33, 34, 48, 36, 37, 38, 39, 7, 8, 9, 10, 11, 12, 13] [(29, 5), (29, 6), (35, 4), (5, 9), (45, 4), (45, 5), (45, 6), (45, 7), (0, 19)] M M2 → M2 0 19 = (zYs (M 179 3) (M 46) (zW M) i (x, S)).1 → zAt 29 (M 179 3) (zYs (M 179 3) (M 46) (zW M) i (x, S)).2 M2 → P x y (zsm (fun h => (zYs (M 179 3) (M 46) (zW M) i (x, S)).2.dry h - S.dry h) (M 179 3).toNat) (i : Int) M2 := by
    intro m
    induction m with
    | zero =>
      intro i M2 hi f2 rr2 a2
      have hi : i = y.toNat := by omega
      have hSi := hSo i
      have hde := hdr i
      generalize hE : zYs (M 179 3) (M 46) (zW M) i (x, S) = E at a2 hSi hde rr2
      obtain ⟨k1, k2⟩ := zAt_al a2 hSi
      have k1 : zTn (M 179 3) (M2 30) (M2 32) (M2 31) := k1
      have k2 : zAl (M 179 3) E.2.ord E.2.len E.2.nam (M2 30) (M2 32) (M2 31) := k2
      have ec : M2 29 5 = M 179 3 := a2.1
      -- the reference
      have ref2 : ∀ (M4 : zM), zf [36, 37, 38, 39, 4] [(35, 4), (3, 1)] M2 M4 → M4 3 1 = 2 → M4 4 0 = (if M 179 3 ≠ 0 then zTg (M 179 3) E.2.ord E.2.len E.2.nam 0 else -1) → M4 4 1 = zMx 0 E.2.dry (M 179 3).toNat → zCi (d + 6) 249 [z_r (11, 0) 179, z_i x, z_i y] M4 (fun v' M5 => zsm (fun h => E.2.dry h - S.dry h) (M 179 3).toNat = v' ∧ zI (n + 1) M5) := by
        intro M3 f3 r1 r2 r3
        have f23 := zf_tr f2 f3
        refine e_M_years (fun P2 Q2 hP2 hQ2 => s_M_in ?_)
        rw [if_pos (by omega)]
        have f4 : zf ([30, 31, 32, 33, 34, 48, 36, 37, 38, 39, 7, 8, 9, 10, 11, 12, 13] ++ [36, 37, 38, 39, 4]) ([(29, 5), (29, 6), (35, 4), (5, 9), (45, 4), (45, 5), (45, 6), (45, 7), (0, 19)] ++ [(35, 4), (3, 1)] ++ [(179, 0), (179, 61)]) M (z_up (z_up M3 179 0 0) 179 61 x) := zf_uj (zf_uj (zf_ww f23 rfl rfl) (by decide)) (by decide)
        refine ⟨fun _ => s_M_puts (fun B fB eB => ?_), fun z => absurd (by decide) z⟩
        have f5 := zf_tr f4 fB
        have eB2 : ∀ k, 0 ≤ k → k < 81 → B 184 k = M 183 k := fun k a b => by rw [eB k a b, zf_c f4 183 rfl]
        have hc := zRc_of hJ0 (B := B) (zf_a f5 179 3 rfl) (zf_c f5 182 rfl) (zf_a f5 179 5 rfl) (zf_c f5 181 rfl) (zf_a f5 179 22 rfl) (zf_c f5 190 rfl)
        have hB : zRt 184 (M 179 3) S B := zRt_puts s2 s3 eB2
        have rB : B 179 61 = x := by rw [zf_a fB 179 61 rfl, zu_s]
        have B3 : B 3 1 = 2 := by rw [zf_a fB 3 1 rfl, zu_c (by decide), zu_c (by decide)]; exact r1
        have B4 : ∀ j, B 4 j = M3 4 j := fun j => by rw [zf_c fB 4 rfl, zu_c (by decide), zu_c (by decide)]
        -- the end
        have fin : ∀ (m j : Nat) (M6 : zM), (j : Int) + m = M 179 3 → zf [184, 192, 193, 194, 195, 196, 197, 198, 199, 200] [(179, 35), (179, 61)] B M6 → zRt 184 (M 179 3) E.2 M6 → Q2 x y (zsm (fun h => E.2.dry h - S.dry h) (M 179 3).toNat) (zMx 0 E.2.dry j) (j : Int) M6 := by
          intro m
          induction m with
          | zero =>
            intro j M6 hj f6 b6
            have hj : j = (M 179 3).toNat := by omega
            subst hj
            have f56 := zf_tr f5 f6
            have e63 : M6 179 3 = M 179 3 := zf_a f56 179 3 rfl
            refine hQ2 _ _ _ _ _ _ ⟨fun _ => s_M_laysBook (ord := E.2.ord) (len := E.2.len) (nam := E.2.nam) (by decide) (by decide) (by rw [e63]; exact hSi.1) (by rw [e63]; exact zRt_rw b6 hSi) (fun M7 f7 _ _ b7 => ?_), fun z => absurd (by rw [e63]; omega) z⟩
            rw [e63] at b7
            have f57 := zf_tr f56 f7
            have e73 : (z_up M7 179 1 0) 179 3 = M 179 3 := by rw [zu_i (by decide)]; exact zf_a f57 179 3 rfl
            rw [e73]
            have g1 : zf ([30, 31, 32, 33, 34, 48, 36, 37, 38, 39, 7, 8, 9, 10, 11, 12, 13] ++ [36, 37, 38, 39, 4] ++ [184] ++ [184, 192, 193, 194, 195, 196, 197, 198, 199, 200] ++ [194, 195, 196, 197, 198, 199] ++ [180]) ([(29, 5), (29, 6), (35, 4), (5, 9), (45, 4), (45, 5), (45, 6), (45, 7), (0, 19)] ++ [(35, 4), (3, 1)] ++ [(179, 0), (179, 61)] ++ [] ++ [(179, 35), (179, 61)] ++ [] ++ [(179, 1)]) M (z_up M7 179 1 0) := zf_uj (zf_ww f57 rfl rfl) (by decide)
            have k3 : M7 3 1 = 2 := by rw [zf_a f7 3 1 rfl, zf_a f6 3 1 rfl]; exact B3
            have k4 : ∀ j, M7 4 j = M3 4 j := fun j => by rw [zf_c f7 4 rfl, zf_c f6 4 rfl]; exact B4 j
            have ends : ∀ v, v = M3 4 0 → zCv (d + 5) 202 [z_r (11, 0) 179, z_l v] (z_up M7 179 1 0) (fun M36 => zCv (d + 5) 202 [z_r (11, 0) 179, z_l (zMx 0 E.2.dry (M 179 3).toNat)] M36 (fun M38 => zsm (fun h => E.2.dry h - S.dry h) (M 179 3).toNat = zsm (fun h => E.2.dry h - S.dry h) (M 179 3).toNat ∧ zI (n + 1) M38)) := by
              intro v hv
              refine s_M_enters (by rw [zu_s]; omega) ?_
              rw [zu_s]
              refine s_M_enters (by rw [zu_s]; omega) ?_
              rw [zu_s]
              refine ⟨rfl, zI_2 hI0 hn (zf_uj (zf_us (zf_uj (zf_us g1 (by decide)) (by decide)) (by decide)) (by decide)) rfl rfl 2 (by omega) ?_ (zu_s _ _ _ _) (fun i a b => ?_)⟩
              · rw [zu_c (by decide), zu_c (by decide), zu_c (by decide), zu_c (by decide), zu_c (by decide)]; exact k3
              · rw [zu_c (by decide), zu_c (by decide), zu_c (by decide), zu_c (by decide), zu_c (by decide), k4]
                have : i = 0 ∨ i = 1 := by omega
                rcases this with rfl | rfl
                · rw [zu_c (by decide), zu_i (by decide), zu_c (by decide), ← hv]; exact (zu_s _ _ _ _).symm
                · rw [r3, zu_c (by decide)]; exact (zu_s _ _ _ _).symm
            refine ⟨fun z => ⟨by decide, ends _ ?_⟩, fun z => ends _ ?_⟩
            · rw [zu_c (by decide), zbk_gu hSi.1 b7.2 0 (by omega) (by omega), r2, if_pos z]
            · rw [r2, if_neg z]
          | succ m ih =>
            intro j M6 hj f6 b6
            have f56 := zf_tr f5 f6
            have nx := ih (j + 1) M6 (by omega) f6 b6
            refine hQ2 _ _ _ _ _ _ ⟨fun z => absurd z (by rw [zf_a f56 179 3 rfl]; omega), fun _ => ?_⟩
            rw [zw (x := 64 + (j : Int)) (by omega) (by omega), b6.2.2.2.1 j (by omega) (by omega), zw (x := (j : Int) + 1) (by omega) (by omega)]
            rw [show ((j + 1 : Nat) : Int) = (j : Int) + 1 by omega] at nx
            exact ⟨by omega, nx⟩
        have days : ∀ (m k : Nat) (M6 : zM), (k : Int) + m = y → zf [184, 192, 193, 194, 195, 196, 197, 198, 199, 200] [(179, 35), (179, 61)] B M6 → M6 179 61 = (zYs (M 179 3) (M 46) (zW M) k (x, S)).1 → zRt 184 (M 179 3) (zYs (M 179 3) (M 46) (zW M) k (x, S)).2 M6 → P2 x y (k : Int) M6 := by
          intro m
          induction m with
          | zero =>
            intro k M6 hk f6 rr6 b6
            have hk : k = i := by omega
            subst hk
            rw [hE] at b6
            have f56 := zf_tr f5 f6
            have e63 : M6 179 3 = M 179 3 := zf_a f56 179 3 rfl
            refine hP2 _ _ _ _ ⟨fun _ => ?_, fun z => absurd (by omega) z⟩
            rw [e63]
            have hs4 := hSi.2.2.2
            have hsd := hSi.2.1
            refine s_M_sumFrom (by omega) (by omega) ⟨c2, c3⟩ (fun h a b => by rw [b6.2.2.2.1 h a (by omega)]; have := hs4 h a (by omega); omega) ?_
            rw [e63]
            have hs5 := s3.2.2.2
            have hsd0 := s3.2.1
            refine s_M_sumFrom (by omega) (by omega) ⟨c2, c3⟩ (fun h a b => by rw [zf_c f56 183 rfl, s2.2.2.2.1 h a (by omega)]; have := hs5 h a (by omega); omega) ?_
            have e1 : zsm (fun i => M6 184 (64 + i)) (M 179 3).toNat = zsm (fun i => M6 183 (64 + i)) (M 179 3).toNat + zsm (fun h => E.2.dry h - S.dry h) (M 179 3).toNat := by
              rw [← zsm_add]
              refine zsm_c _ (fun h a b => ?_)
              rw [b6.2.2.2.1 h a (by omega), zf_c f56 183 rfl, s2.2.2.2.1 h a (by omega)]; omega
            have b1 := zsm_b (f := fun h => E.2.dry h - S.dry h) (B := 60) (M 179 3).toNat (fun h _ _ => by have := hde h; omega)
            rw [e1, show zsm (fun i => M6 183 (64 + i)) (M 179 3).toNat + zsm (fun h => E.2.dry h - S.dry h) (M 179 3).toNat - zsm (fun i => M6 183 (64 + i)) (M 179 3).toNat = zsm (fun h => E.2.dry h - S.dry h) (M 179 3).toNat by omega, zw (by omega) (by omega)]
            exact fin (M 179 3).toNat 0 M6 (by omega) f6 b6
          | succ m ih =>
            intro k M6 hk f6 rr6 b6
            have hSk := hSo k
            have nx := ih (k + 1)
            have e1 : zYs (M 179 3) (M 46) (zW M) (k + 1) (x, S) = zY1 (M 179 3) (M 46) (zW M) (zYs (M 179 3) (M 46) (zW M) k (x, S)).1 (zYs (M 179 3) (M 46) (zW M) k (x, S)).2 := rfl
            rw [e1] at nx
            generalize (zYs (M 179 3) (M 46) (zW M) k (x, S)).1 = r at rr6 nx
            generalize (zYs (M 179 3) (M 46) (zW M) k (x, S)).2 = V at b6 hSk nx
            rw [show ((k + 1 : Nat) : Int) = (k : Int) + 1 by omega] at nx
            unfold zY1 at nx
            refine hP2 _ _ _ _ ⟨fun z => absurd z (by omega), fun _ => s_M_draws rr6 (by decide) (fun M7 f7 rr7 => ?_)⟩
            have b7 : zRt 184 (M 179 3) V M7 := zRt_f b6 (zf_c f7 184 rfl)
            have f67 := zf_tr f6 f7
            have e73 : M7 179 3 = M 179 3 := by rw [zf_a f67 179 3 rfl]; exact zf_a f5 179 3 rfl
            have hc7 := zRc_f hc (zf_a f67 179 3 rfl) (zf_c f67 182 rfl) (zf_a f67 179 5 rfl) (zf_c f67 181 rfl) (zf_a f67 179 22 rfl) (zf_c f67 190 rfl)
            rw [zw (x := (k : Int) + 1) (by omega) (by omega), e73]
            refine ⟨fun z1 => ⟨fun z2 => ⟨fun z3 => ?_, fun z3 => ?_⟩, fun z2 => ?_⟩, fun z1 => ?_⟩
            · rw [if_pos z1, if_pos z2, if_pos z3] at nx
              exact nx M7 (by omega) (zf_ww f67 rfl rfl) rr7 b7
            · rw [if_pos z1, if_pos z2, if_neg z3] at nx
              refine s_M_draws rr7 (by omega) (fun M8 f8 rr8 => ?_)
              have f68 := zf_tr f67 f8
              have e83 : M8 179 3 = M 179 3 := by rw [zf_a f68 179 3 rfl]; exact zf_a f5 179 3 rfl
              rw [e83]
              refine s_M_draws rr8 (by omega) (fun M9 f9 rr9 => ?_)
              have f69 := zf_tr f68 f9
              have e93 : M9 179 3 = M 179 3 := by rw [zf_a f69 179 3 rfl]; exact zf_a f5 179 3 rfl
              have b9 : zRt 184 (M 179 3) V M9 := zRt_f b7 (by rw [zf_c f9 184 rfl, zf_c f8 184 rfl])
              refine s_marriesS (Or.inr rfl) e93 b9 hSk (fun q4 M10 f10 b10 => ?_) (fun q4 => ?_)
              · rw [if_pos q4] at nx
                exact nx M10 (by omega) (zf_ww (zf_tr f69 f10) rfl rfl) (by rw [zf_a f10 179 61 rfl]; exact rr9) b10
              · rw [if_neg q4] at nx
                exact nx M9 (by omega) (zf_ww f69 rfl rfl) rr9 b9
            · rw [if_pos z1, if_neg z2] at nx
              refine s_M_goesRound c3 b7 (fun M8 f8 b8 => ?_)
              exact nx M8 (by omega) (zf_ww (zf_tr f67 f8) rfl rfl) (by rw [zf_a f8 179 61 rfl]; exact rr7) b8
            · rw [if_neg z1] at nx
              refine s_goesS_186 hc7 b7 hSk (by omega) (fun M8 f8 b8 => ?_)
              exact nx M8 (by omega) (zf_ww (zf_tr f67 f8) rfl rfl) (by rw [zf_a f8 179 61 rfl]; exact rr7) b8
        exact days y.toNat 0 B (by omega) zf_rf rB hB
      refine hP _ _ _ _ _ ⟨fun _ => ?_, fun z => absurd (by omega) z⟩
      refine s_Book_write (a := 29) (b := 35) (o := 30) (by omega) (by omega) (by omega) (by rw [ec]; exact ⟨c2, c3⟩) k1.2.1 (by rw [ec]; exact k1.2.2.1) k1.2.2.2 (fun M3 f3 b3 => ?_)
      have f3 : zf [36, 37, 38, 39] [(35, 4)] M2 M3 := f3
      have b3 : zBk M3 35 (M2 29 5) (zrk (M2 30)) (M2 32) (M2 31) := b3
      rw [ec] at b3
      have a3 : zAt 29 (M 179 3) E.2 M3 := zAt_f a2 (zf_a f3 29 5 rfl) (zf_a f3 29 6 rfl) (zf_c f3 30 rfl) (zf_c f3 31 rfl) (zf_c f3 32 rfl) (zf_c f3 33 rfl) (zf_c f3 34 rfl)
      rw [a3.1]
      refine ⟨fun z => ⟨by decide, s_Town_mostDry ⟨c2, c3⟩ a3 (s_Row_tellTwo (fun M4 f4 r1 r2 r3 => ?_))⟩, fun z => s_Town_mostDry ⟨c2, c3⟩ a3 (s_Row_tellTwo (fun M4 f4 r1 r2 r3 => ?_))⟩
      · refine ref2 M4 (zf_ww (zf_tr f3 f4) rfl rfl) r1 ?_ r3
        rw [if_pos z, r2]
        have := zbk_gu k1 b3.2.2.2 0 (by omega) (by omega)
        rw [show M3 36 0 = M3 (35 + 1) 0 from rfl, this]
        exact zAl_T hSi.1 k1 k2 ⟨by omega, by omega⟩
      · refine ref2 M4 (zf_ww (zf_tr f3 f4) rfl rfl) r1 ?_ r3
        rw [if_neg z, r2]
    | succ m ih =>
      intro i M2 hi f2 rr2 a2
      have hSk := hSo i
      have nx := ih (i + 1)
      have e1 : zYs (M 179 3) (M 46) (zW M) (i + 1) (x, S) = zY1 (M 179 3) (M 46) (zW M) (zYs (M 179 3) (M 46) (zW M) i (x, S)).1 (zYs (M 179 3) (M 46) (zW M) i (x, S)).2 := rfl
      have hdi := hdr i
      rw [e1] at nx
      generalize (zYs (M 179 3) (M 46) (zW M) i (x, S)).1 = r at rr2 nx
      generalize (zYs (M 179 3) (M 46) (zW M) i (x, S)).2 = V at a2 hSk nx hdi
      have e2 : zsm (fun h => (zY1 (M 179 3) (M 46) (zW M) r V).2.dry h - S.dry h) (M 179 3).toNat = zsm (fun h => V.dry h - S.dry h) (M 179 3).toNat + (if 3 ≤ zdv r 5 then 0 else zsm (zDb (M 179 3) V.ord V.len V.nam (M 46) (zW M) V.day (1 : Int).toNat) (M 179 3).toNat) := by
        by_cases q : 3 ≤ zdv r 5
        · rw [if_pos q, Int.add_zero]
          refine zsm_c _ (fun h a b => ?_)
          rw [zY1_dry, if_pos q]; omega
        · rw [if_neg q, ← zsm_add]
          refine zsm_c _ (fun h a b => ?_)
          rw [zY1_dry, if_neg q, if_pos ⟨a, by omega⟩]
          show _ = _ + zDb (M 179 3) V.ord V.len V.nam (M 46) (zW M) V.day 1 h
          omega
      rw [e2, show ((i + 1 : Nat) : Int) = (i : Int) + 1 by omega] at nx
      unfold zY1 at nx
      have k5 : ∀ M3, zf [] [(0, 19)] M2 M3 → M3 5 1 = M 5 1 ∧ M3 6 = M 6 ∧ M3 45 2 = M 45 2 ∧ M3 46 = M 46 ∧ M3 47 = M 47 := fun M3 f3 => by
        have f23 := zf_tr f2 f3
        exact ⟨zf_a f23 5 1 rfl, zf_c f23 6 rfl, zf_a f23 45 2 rfl, zf_c f23 46 rfl, zf_c f23 47 rfl⟩
      refine hP _ _ _ _ _ ⟨fun z => absurd z (by omega), fun _ => s_W_draw rr2 (by decide) (fun M3 f3 rr3 => ?_)⟩
      obtain ⟨k5, k6, k45, k46, k47⟩ := k5 M3 f3
      have a3 : zAt 29 (M 179 3) V M3 := zAt_f a2 (zf_a f3 29 5 rfl) (zf_a f3 29 6 rfl) (zf_c f3 30 rfl) (zf_c f3 31 rfl) (zf_c f3 32 rfl) (zf_c f3 33 rfl) (zf_c f3 34 rfl)
      have f23 := zf_tr f2 f3
      rw [zw (x := (i : Int) + 1) (by omega) (by omega), a3.1]
      refine ⟨fun z1 => ⟨fun z2 => ⟨fun z3 => ?_, fun z3 => ?_⟩, fun z2 => ?_⟩, fun z1 => ?_⟩
      · rw [if_pos z1, if_pos z1, if_pos z2, if_pos z3, Int.add_zero] at nx
        exact nx M3 (by omega) (zf_ww f23 rfl rfl) rr3 a3
      · rw [if_pos z1, if_pos z1, if_pos z2, if_neg z3, Int.add_zero] at nx
        refine s_drawMarriage (D := 0) (by omega) a3 rr3 (fun M4 f4 rr4 a4 => ?_)
        exact nx M4 (by omega) (zf_ww (zf_tr f23 f4) rfl rfl) rr4 a4
      · rw [if_pos z1, if_pos z1, if_neg z2, Int.add_zero] at nx
        refine s_Town_first a3 (fun M4 f4 a4 => ?_)
        have f4 : zf [30] [] M3 M4 := f4
        exact nx M4 (by omega) (zf_ww (zf_tr f23 f4) rfl rfl) (by rw [zf_a f4 0 19 rfl]; exact rr3) a4
      · rw [if_neg z1, if_neg z1] at nx
        refine s_liveS_29_5 (cl := M 179 22) (cd := M 190) (th := M 46) (W := zW M) (by omega) a3 hSk (by omega) (by rw [k45]; exact i1) (by rw [k45, k47]; exact i2) (by rw [k46]; exact i3) (by rw [k5, k6]; exact j4) k46 (by rw [k5, k6, k45, k47, k46]; rfl) (fun M4 f4 a4 => ?_)
        have b1 := zsm_b (f := fun h => V.dry h - S.dry h) (B := 60) (M 179 3).toNat (fun h _ _ => by have := hdi h; omega)
        have b2 := zsm_b (f := zDb (M 179 3) V.ord V.len V.nam (M 46) (zW M) V.day (1 : Int).toNat) (B := 1) (M 179 3).toNat (fun h _ _ => by have := zDb_r (M 179 3) V.ord V.len V.nam (M 46) (zW M) V.day (1 : Int).toNat h; omega)
        rw [zw (x := zsm _ (M 179 3).toNat + _) (by omega) (by omega)]
        exact nx M4 (by omega) (zf_ww (zf_tr f23 f4) rfl rfl) (by rw [zf_a f4 0 19 rfl]; exact rr3) a4
  have z0 : zsm (fun h => (zYs (M 179 3) (M 46) (zW M) 0 (x, S)).2.dry h - S.dry h) (M 179 3).toNat = 0 := by
    have : ∀ k : Nat, zsm (fun h => (zYs (M 179 3) (M 46) (zW M) 0 (x, S)).2.dry h - S.dry h) k = 0 := by
      intro k
      induction k with
      | zero => rfl
      | succ k ih =>
        show zsm (fun h => (zYs (M 179 3) (M 46) (zW M) 0 (x, S)).2.dry h - S.dry h) k + (S.dry k - S.dry k) = 0
        omega
    exact this _
  have := loop y.toNat 0 M1 (by omega) f1 r1 a1
  rw [z0] at this
  exact this

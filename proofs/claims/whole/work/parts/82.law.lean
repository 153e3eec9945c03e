/-! law() -/
theorem s_M_lessIn {d : Nat} {c D : Int} {th W : Int → Int} {S : zS} {M : zM} {F : Int → zM → Prop} (hc : zRc c th W M) (hr : zRt 183 c S M) (ho : zSo c D S) (hD : D ≤ 1000000) (H : ∀ M', zf [184, 192, 193, 194, 195, 196, 197, 198, 199, 200] [(179, 35)] M M' → F (zsm (zDb c S.ord S.len S.nam th W S.day 10) c.toNat) M') : zCi (d + 6) 244 [z_r (11, 0) 179, z_i 10] M F := by
  refine e_M_lessIn (fun P hP => s_M_puts (fun B fB eB => ?_))
  have hB : zRt 184 c S B := zRt_puts hr ho eB
  have hcB := zRc_f hc (zf_a fB 179 3 rfl) (zf_c fB 182 rfl) (zf_a fB 179 5 rfl) (zf_c fB 181 rfl) (zf_a fB 179 22 rfl) (zf_c fB 190 rfl)
  have rw2 := zRt_rw hB ho
  obtain ⟨k1, k2, k3, k4, k5, k6⟩ := hcB
  obtain ⟨b1, b2, b3, b4, b5, b6⟩ := hB
  obtain ⟨t, s2, s3, s4⟩ := ho
  have t8 := t.1
  have hs : zRs 184 c S.ord S.len S.nam th W B := ⟨k1, t, rw2, k2, k3, k4, k5, by rw [b6]; omega, fun h a b => by rw [b4 h a (by omega), b5 h a (by omega)]; have := s4 h a (by omega); omega, k6⟩
  have loop : ∀ (m i : Nat) (M6 : zM), i + m = 10 → zRi 184 c S.ord S.len S.nam th W B i M6 → P 10 (i : Int) M6 := by
    intro m
    induction m with
    | zero =>
      intro i M6 hi hr6
      have hi : i = 10 := by omega
      subst hi
      obtain ⟨y1, y2, y3, y4, y5, y6, y7⟩ := hr6
      rw [b6] at y5
      have e3 : M6 179 3 = c := by rw [zf_a y1 179 3 rfl]; exact k1
      have db := fun h => zDb_r c S.ord S.len S.nam th W S.day 10 h
      refine hP _ _ _ ⟨fun _ => ?_, fun z => absurd (by decide) z⟩
      rw [e3]
      refine s_M_sumFrom (by omega) (by omega) t8 (fun h a b => by rw [y5 h a b, b4 h a (by omega)]; have := s4 h a (by omega); have := db h; omega) ?_
      rw [e3]
      have e185 : ∀ h, 0 ≤ h → h < 8 → M6 183 (64 + h) = S.dry h := fun h a b => by rw [zf_c y1 183 rfl, zf_c fB 183 rfl]; exact hr.2.2.2.1 h a b
      refine s_M_sumFrom (by omega) (by omega) t8 (fun h a b => by rw [e185 h a (by omega)]; have := s4 h a (by omega); omega) ?_
      have e1 : zsm (fun i => M6 184 (64 + i)) c.toNat = zsm (fun i => M6 183 (64 + i)) c.toNat + zsm (zDb c S.ord S.len S.nam th W S.day 10) c.toNat := by
        rw [← zsm_add]
        refine zsm_c _ (fun h a b => ?_)
        rw [y5 h a (by omega), b4 h a (by omega), e185 h a (by omega)]
      have sb := zsm_b (f := zDb c S.ord S.len S.nam th W S.day 10) (B := 10) c.toNat (fun h _ _ => by have := db h; omega)
      rw [e1, show zsm (fun i => M6 183 (64 + i)) c.toNat + zsm (zDb c S.ord S.len S.nam th W S.day 10) c.toNat - zsm (fun i => M6 183 (64 + i)) c.toNat = zsm (zDb c S.ord S.len S.nam th W S.day 10) c.toNat by omega, zw (by omega) (by omega)]
      exact H M6 (zf_ww (zf_tr fB y1) rfl rfl)
    | succ m ih =>
      intro i M6 hi hr6
      refine hP _ _ _ ⟨fun z => absurd z (by omega), fun _ => s_goes_186 hs (by omega) hr6 (fun M7 hr7 => ?_)⟩
      rw [zw (x := (i : Int) + 1) (by omega) (by omega)]
      have := ih (i + 1) M7 (by omega) hr7
      rw [show ((i + 1 : Nat) : Int) = (i : Int) + 1 by omega] at this
      exact this
  exact loop 10 0 B (by omega) zRi_0
theorem iU_c {n : Int} {sg : Int → Int} {cl : Int} {cd cd' : Int → Int} (h : iU n sg cl cd) (e : ∀ j, 0 ≤ j → j < cl → cd' j = cd j) : iU n sg cl cd' := by
  rcases h with h | ⟨h1, h2, cs, h3, h4, h5, h6⟩
  · exact Or.inl h
  · exact Or.inr ⟨h1, h2, cs, h3, h4, h5, fun k hk => by rw [e k (by omega) (by omega)]; exact h6 k hk⟩
theorem p_law {d : Nat} {n : Int} {M : zM} (hI : zI n M) (hn : n < 512) : zQ (d + 814) 132 243 [z_r (10, 0) 0] [z_r (11, 0) 179] n M := by
  have hI0 := hI
  obtain ⟨hb, ⟨t1, t2, t3, t4⟩, hR, hJ⟩ := hI
  have hJ0 := hJ
  obtain ⟨i1, i2, i3, i4, i5, i6, i7, i8⟩ := zJ_in hJ
  obtain ⟨c1, c2, c3⟩ := zJ_count hJ
  obtain ⟨j1, j2, j3, j4, j5, j6, j7, j8⟩ := hJ
  obtain ⟨s1, s2, s3⟩ := zS0_of j1
  generalize hS : zS0 M 23 = S at s1 s2 s3
  have hz := zrr_b (n := M 1 1) (sg := M 2) t2
  have hcl : 0 ≤ M 179 22 ∧ M 179 22 ≤ 40 := by
    rcases j4 with ⟨_, u⟩ | ⟨_, _, cs, _, u, v, _⟩
    · omega
    · omega
  unfold zQ
  refine e_W_law (s_W_takeRule (a := 14) (by decide) ⟨t2, t3⟩ (fun hf M1 f1 m1 m2 m3 => ?_) (fun hf => ?_))
  · have f1 : zf [15] [(14, 1), (1, 1)] M M1 := f1
    refine ⟨fun _ => s_Town_become (a0 := 29) (a1 := 23) (by omega) (fun M2 f2 q2 => ?_), fun z => absurd rfl z⟩
    have f2 : zf [30, 31, 32, 33, 34] [(29, 5), (29, 6)] M1 M2 := f2
    have a1 : zAt 23 (M 179 3) S M1 := zAt_f s1 (zf_a f1 23 5 rfl) (zf_a f1 23 6 rfl) (zf_c f1 24 rfl) (zf_c f1 25 rfl) (zf_c f1 26 rfl) (zf_c f1 27 rfl) (zf_c f1 28 rfl)
    have a2 : zAt 29 (M 179 3) S M2 := zAt_tQ a1 q2
    have f12 := zf_tr f1 f2
    have k45 : M2 45 = M 45 := zf_c f12 45 rfl
    have k46 : M2 46 = M 46 := zf_c f12 46 rfl
    have k47 : M2 47 = M 47 := zf_c f12 47 rfl
    have k14 : M2 14 1 = M 1 1 := by rw [zf_a f2 14 1 rfl]; exact m2
    have k15 : M2 15 = M1 15 := zf_c f2 15 rfl
    -- the other rule's yield
    generalize hW' : zYd (M 1 1) (M1 15) (M 45 2) (M 47) (M 179 3) (M 46) = W'
    have hUo : iU (M 1 1) (M1 15) ((zrr (M 1 1) (M 2)).2.2.2.length : Int) (fun j => (zrr (M 1 1) (M 2)).2.2.2.getD j.toNat 0) := zrf_iU t2 hf m3 rfl (fun j _ => by show _ = _; rw [show ((j : Int)).toNat = j by omega])
    have hWr' : ∀ x, 0 ≤ W' x ∧ W' x ≤ 99 := fun x => by rw [← hW']; exact zYd_r _ _ _ _ _ _ _
    refine s_liveS_29_14 (cl := ((zrr (M 1 1) (M 2)).2.2.2.length : Int)) (cd := fun j => (zrr (M 1 1) (M 2)).2.2.2.getD j.toNat 0) (th := M 46) (W := W') (by decide) a2 s3 (by omega) (by rw [k45]; exact i1) (by rw [k45, k47]; exact i2) (by rw [k46]; exact i3) (by rw [k14, k15]; exact hUo) k46 (by rw [k14, k15, k45, k47, k46]; exact hW') (fun M3 f3 a3 => ?_)
    have f13 := zf_tr f12 f3
    refine s_Town_become (a0 := 29) (a1 := 23) (by omega) (fun M4 f4 q4 => ?_)
    have f4 : zf [30, 31, 32, 33, 34] [(29, 5), (29, 6)] M3 M4 := f4
    have a23 : zAt 23 (M 179 3) S M3 := zAt_f s1 (zf_a f13 23 5 rfl) (zf_a f13 23 6 rfl) (zf_c f13 24 rfl) (zf_c f13 25 rfl) (zf_c f13 26 rfl) (zf_c f13 27 rfl) (zf_c f13 28 rfl)
    have a4 : zAt 29 (M 179 3) S M4 := zAt_tQ a23 q4
    have f14 := zf_tr f13 f4
    have l45 : M4 45 2 = M 45 2 := zf_a f14 45 2 rfl
    have l46 : M4 46 = M 46 := zf_c f14 46 rfl
    have l47 : M4 47 = M 47 := zf_c f14 47 rfl
    have l5 : M4 5 1 = M 5 1 := zf_a f14 5 1 rfl
    have l6 : M4 6 = M 6 := zf_c f14 6 rfl
    refine s_liveS_29_5 (cl := M 179 22) (cd := M 190) (th := M 46) (W := zW M) (by decide) a4 s3 (by omega) (by rw [l45]; exact i1) (by rw [l45, l47]; exact i2) (by rw [l46]; exact i3) (by rw [l5, l6]; exact j4) l46 (by rw [l5, l6, l45, l47, l46]; rfl) (fun M5 f5 a5 => ?_)
    have f15 := zf_tr f14 f5
    have b1 := zsm_b (f := zDb (M 179 3) S.ord S.len S.nam (M 46) W' S.day 10) (B := 10) (M 179 3).toNat (fun h _ _ => by have := zDb_r (M 179 3) S.ord S.len S.nam (M 46) W' S.day 10 h; omega)
    have b2 := zsm_b (f := zDb (M 179 3) S.ord S.len S.nam (M 46) (zW M) S.day 10) (B := 10) (M 179 3).toNat (fun h _ _ => by have := zDb_r (M 179 3) S.ord S.len S.nam (M 46) (zW M) S.day 10 h; omega)
    show zCv (d + 813) 55 [z_r (5, 0) 3, z_l (zsm (zDb (M 179 3) S.ord S.len S.nam (M 46) W' S.day 10) (M 179 3).toNat), z_l (zsm (zDb (M 179 3) S.ord S.len S.nam (M 46) (zW M) S.day 10) (M 179 3).toNat)] M5 (fun M12 => zCi (d + 814) 243 [z_r (11, 0) 179] M12 (fun v' M2 => z_wr (zsm (zDb (M 179 3) S.ord S.len S.nam (M 46) W' S.day 10) (M 179 3).toNat - zsm (zDb (M 179 3) S.ord S.len S.nam (M 46) (zW M) S.day 10) (M 179 3).toNat) = v' ∧ zI (n + 1) M2))
    refine s_Row_tellTwo (fun M6 f6 r1 r2 r3 => ?_)
    have f16 := zf_tr f15 f6
    have f17 : zf ([15] ++ [30, 31, 32, 33, 34] ++ [33, 34, 48, 36, 37, 38, 39, 16, 17, 18, 19, 20, 21, 22] ++ [30, 31, 32, 33, 34] ++ [33, 34, 48, 36, 37, 38, 39, 7, 8, 9, 10, 11, 12, 13] ++ [4]) ([(14, 1), (1, 1)] ++ [(29, 5), (29, 6)] ++ [(29, 6), (35, 4), (14, 9), (45, 4), (45, 5), (45, 6), (45, 7)] ++ [(29, 5), (29, 6)] ++ [(29, 6), (35, 4), (5, 9), (45, 4), (45, 5), (45, 6), (45, 7)] ++ [(3, 1)] ++ [(179, 0)]) M (z_up M6 179 0 0) := zf_uj (zf_ww f16 rfl rfl) (by decide)
    refine e_M_law (fun P hP => s_M_readsRule (sg := M 2) (n := M 1 1) (by rw [zf_a f17 179 11 rfl]; exact t1.symm) ⟨t2, t3⟩ (fun j a b => by rw [zf_c f17 185 rfl]; have := t4 j a b; exact ⟨this.1.symm, this.2.1⟩) (fun M7 f7 u1 u2 u3 => ?_))
    rw [if_pos hf]
    have f18 := zf_tr f17 f7
    have hc7 := zRc_of hJ0 (B := M7) (zf_a f18 179 3 rfl) (zf_c f18 182 rfl) (zf_a f18 179 5 rfl) (zf_c f18 181 rfl) (zf_a f18 179 22 rfl) (zf_c f18 190 rfl)
    have hr7 : zRt 183 (M 179 3) S M7 := zRt_f s2 (zf_c f18 183 rfl)
    refine ⟨fun _ => s_M_lessIn hc7 hr7 s3 (by omega) (fun M8 f8 => ?_), fun z => absurd (by decide) z⟩
    have e22 : M8 179 22 = M 179 22 := by rw [zf_a f8 179 22 rfl]; exact zf_a f18 179 22 rfl
    have e192 : M8 190 = M 190 := by rw [zf_c f8 190 rfl]; exact zf_c f18 190 rfl
    rw [e22]
    -- what the code was
    have was : ∀ (m i : Nat) (M9 : zM), (i : Int) + m = M 179 22 → zf [218] [] M8 M9 → (∀ j : Int, 0 ≤ j → j < i → M9 218 j = M 190 j) → P 0 (zsm (zDb (M 179 3) S.ord S.len S.nam (M 46) (zW M) S.day 10) (M 179 3).toNat) (M 179 22) (i : Int) M9 := by
      intro m
      induction m with
      | zero =>
        intro i M9 hi f9 e9
        have g22 : M9 179 22 = M 179 22 := by rw [zf_a f9 179 22 rfl]; exact e22
        have g23 : M9 179 23 = ((zrr (M 1 1) (M 2)).2.2.2.length : Int) := by rw [zf_a f9 179 23 rfl, zf_a f8 179 23 rfl]; exact u2
        have g193 : ∀ j : Nat, j < (zrr (M 1 1) (M 2)).2.2.2.length → M9 191 (j : Int) = (zrr (M 1 1) (M 2)).2.2.2.getD j 0 := fun j hj => by rw [zf_c f9 191 rfl, zf_c f8 191 rfl]; exact u3 j hj
        refine hP _ _ _ _ _ ⟨fun _ => ?_, fun z => absurd (by omega) z⟩
        rw [g23]
        refine s_M_laysCode (by decide) (by omega) (by omega) (fun M10 f10 v1 v2 => ?_)
        have f79 := zf_tr f8 f9
        have f710 := zf_tr f79 f10
        have h3 : M10 179 3 = M 179 3 := by rw [zf_a f710 179 3 rfl]; exact zf_a f18 179 3 rfl
        have h184 : M10 182 = M 182 := by rw [zf_c f710 182 rfl]; exact zf_c f18 182 rfl
        have h183 : M10 181 = M 181 := by rw [zf_c f710 181 rfl]; exact zf_c f18 181 rfl
        have h5 : M10 179 5 = M 179 5 := by rw [zf_a f710 179 5 rfl]; exact zf_a f18 179 5 rfl
        have hc10 : zRc (M 179 3) (M 46) W' M10 := by
          obtain ⟨s1', s2', s3', s4'⟩ := j3
          refine ⟨h3, fun h a b => by rw [h184]; exact i6 h a b, by rw [h5, ← s1']; exact ⟨s2', s3'⟩, fun i a b => ?_, ⟨M 1 1, M1 15, ?_, fun x hx => ?_⟩, hWr'⟩
          · rw [h183]; rw [h5, ← s1'] at b; have := s4' i a b; omega
          · rw [v1]
            refine zrf_iU t2 hf m3 rfl (fun j hj => ?_)
            rw [v2 j (by omega) (by omega)]; exact g193 j hj
          · rw [← hW', h5, h183, h184, s1']
            exact (zYd_c hx (by omega) (fun i a b => (s4' i a (by omega)).1) (fun h a b => (j2 h a b).1)).symm
        have hr10 : zRt 183 (M 179 3) S M10 := zRt_f hr7 (zf_c f710 183 rfl)
        refine s_M_lessIn hc10 hr10 s3 (by omega) (fun M11 f11 => ?_)
        have w220 : ∀ j : Int, 0 ≤ j → j < M 179 22 → M11 218 j = M 190 j := fun j a b => by rw [zf_c f11 218 rfl, zf_c f10 218 rfl]; exact e9 j a (by omega)
        refine s_M_laysCode (by decide) (by omega) (by omega) (fun M12 f12' x1 x2 => ?_)
        have F7 := zf_tr (zf_tr f710 f11) f12'
        have Fm : zf ([15, 30, 31, 32, 33, 34, 48, 36, 37, 38, 39, 16, 17, 18, 19, 20, 21, 22, 7, 8, 9, 10, 11, 12, 13, 4, 191, 184, 192, 193, 194, 195, 196, 197, 198, 199, 200, 218, 190, 180]) [(14, 1), (1, 1), (29, 5), (29, 6), (35, 4), (14, 9), (45, 4), (45, 5), (45, 6), (45, 7), (5, 9), (3, 1), (179, 0), (179, 11), (179, 12), (179, 13), (179, 14), (179, 23), (179, 35), (179, 22), (179, 1)] M (z_up M12 179 1 0) := zf_uj (zf_ww (zf_tr f18 F7) rfl rfl) (by decide)
        refine s_M_enters (by rw [zu_s]; omega) ?_
        rw [zu_s]
        refine s_M_enters (by rw [zu_s]; omega) ?_
        rw [zu_s]
        refine ⟨rfl, ?_⟩
        have f := zf_uj (v := 0 + 1 + 1) (zf_us (v := zsm (zDb (M 179 3) S.ord S.len S.nam (M 46) (zW M) S.day 10) (M 179 3).toNat) (zf_uj (v := 0 + 1) (zf_us (v := zsm (zDb (M 179 3) S.ord S.len S.nam (M 46) W' S.day 10) (M 179 3).toNat) Fm (a := 180) (i := 0) (by decide)) (a := 179) (i := 1) (by decide)) (a := 180) (i := 0 + 1) (by decide)) (a := 179) (i := 1) (by decide)
        have z3 : ∀ a i, a ≠ 179 → a ≠ 180 → (z_up (z_up (z_up (z_up (z_up M12 179 1 0) 180 0 (zsm (zDb (M 179 3) S.ord S.len S.nam (M 46) W' S.day 10) (M 179 3).toNat)) 179 1 (0 + 1)) 180 (0 + 1) (zsm (zDb (M 179 3) S.ord S.len S.nam (M 46) (zW M) S.day 10) (M 179 3).toNat)) 179 1 (0 + 1 + 1)) a i = M12 a i := fun a i q1 q2 => by rw [zu_c q1, zu_c q2, zu_c q1, zu_c q2, zu_c q1]
        have y3 : M12 3 1 = 2 := by rw [zf_a F7 3 1 rfl, zf_a f7 3 1 rfl, zu_c (by decide)]; exact r1
        have y4 : ∀ i, M12 4 i = M6 4 i := fun i => by rw [zf_c F7 4 rfl, zf_c f7 4 rfl, zu_c (by decide)]
        have i3' := zf_a f 179 3 rfl
        refine ⟨⟨by omega, by omega⟩, iT_0 ?_ ?_, ⟨?_, ?_, ?_, fun i a b => ?_⟩, zJ_n (n := n) ⟨?_, ?_, ?_, ?_, ?_, ?_, ?_, ?_⟩ (by omega)⟩
        · rw [z3 1 1 (by decide) (by decide), zf_a F7 1 1 rfl, zf_a f7 1 1 rfl, zu_c (by decide), zf_a f6 1 1 rfl, zf_a f5 1 1 rfl, zf_a f4 1 1 rfl, zf_a f3 1 1 rfl, zf_a f2 1 1 rfl]; exact m1
        · rw [zu_i (by decide), zu_c (by decide), zu_i (by decide), zu_c (by decide), zu_i (by decide), zf_a F7 179 11 rfl]; exact u1
        · rw [z3 3 1 (by decide) (by decide), y3, zu_s]; rfl
        · rw [z3 3 1 (by decide) (by decide), y3]; omega
        · rw [z3 3 1 (by decide) (by decide), y3]; omega
        · rw [z3 3 1 (by decide) (by decide), y3] at b
          rw [z3 4 i (by decide) (by decide), y4]
          have : i = 0 ∨ i = 1 := by omega
          rcases this with rfl | rfl
          · rw [r2, zu_c (by decide), zu_i (by decide), zu_c (by decide), zu_s]
          · rw [r3, zu_c (by decide)]; exact (zu_s _ _ _ _).symm
        · rw [i3']
          exact tR_c j1 (zf_a f 23 5 rfl) (zf_a f 23 6 rfl) (zf_c f 24 rfl) (zf_c f 25 rfl) (zf_c f 26 rfl) (zf_c f 27 rfl) (zf_c f 28 rfl) (zf_c f 183 rfl)
        · rw [i3', zf_c f 46 rfl, zf_c f 182 rfl]; exact j2
        · rw [zf_a f 45 2 rfl, zf_a f 179 5 rfl, zf_c f 47 rfl, zf_c f 181 rfl]; exact j3
        · rw [zf_a f 5 1 rfl, zf_c f 6 rfl, zu_i (by decide), zu_c (by decide), zu_i (by decide), zu_c (by decide), zu_i (by decide), x1]
          refine iU_c j4 (fun j a b => ?_)
          rw [z3 190 j (by decide) (by decide), x2 j a b]; exact w220 j a b
        · rw [i3']
          exact iP_c j5 (zf_a f 49 1 rfl) (zf_a f 49 2 rfl) (zf_a f 179 33 rfl) (zf_c f 201 rfl) (zf_r f 51 140 rfl)
        · rw [i3']
          exact iK_c j6 (zf_a f 0 11 rfl) (zf_a f 179 4 rfl) (zf_c f 219 rfl) (zf_c f 220 rfl) (zf_c f 221 rfl) (zf_r f 161 178 rfl)
        · rw [i3', zf_a f 0 14 rfl, zf_c f 142 rfl, zf_c f 143 rfl, zf_a f 179 57 rfl, zf_c f 216 rfl, zf_c f 217 rfl]; exact j7
        · rw [zf_a f 159 0 rfl, zf_a f 154 0 rfl]; exact j8
      | succ m ih =>
        intro i M9 hi f9 e9
        have g22 : M9 179 22 = M 179 22 := by rw [zf_a f9 179 22 rfl]; exact e22
        have g192 : M9 190 = M 190 := by rw [zf_c f9 190 rfl]; exact e192
        refine hP _ _ _ _ _ ⟨fun z => absurd z (by omega), fun _ => ⟨by omega, by omega, ?_⟩⟩
        rw [zw (x := (i : Int) + 1) (by omega) (by omega), g192]
        have := ih (i + 1) (z_up M9 218 (i : Int) (M 190 (i : Int))) (by omega) (zf_us f9 (by decide)) (fun j a b => ?_)
        · rw [show ((i + 1 : Nat) : Int) = (i : Int) + 1 by omega] at this
          exact this
        · by_cases e : j = i
          · rw [e, zu_s]
          · rw [zu_i e]; exact e9 j a (by omega)
    exact was (M 179 22).toNat 0 M8 (by omega) zf_rf (fun j a b => by omega)
  · have zr : 0 ≤ zrf (M 1 1) (M 2) ∧ zrf (M 1 1) (M 2) ≤ 40 := by
      unfold zrf at hf ⊢
      split
      · rename_i w; rw [if_pos w] at hf; exact absurd rfl hf
      · omega
    refine ⟨fun z => absurd z hf, fun _ => ?_⟩
    rw [zw (by omega) (by omega)]
    have f2 : zf [] [(1, 1), (179, 0)] M (z_up (z_up M 1 1 0) 179 0 0) := zf_uj (zf_uj zf_rf (by decide)) (by decide)
    refine e_M_law (fun P hP => s_M_readsRule (sg := M 2) (n := M 1 1) (by rw [zf_a f2 179 11 rfl]; exact t1.symm) ⟨t2, t3⟩ (fun j a b => by rw [zf_c f2 185 rfl]; have := t4 j a b; exact ⟨this.1.symm, this.2.1⟩) (fun M2 f3 u1 u2 u3 => ?_))
    rw [if_neg hf]
    have f := zf_tr f2 f3
    refine ⟨fun z => absurd z (by omega), fun _ => ?_⟩
    rw [zw (x := -1 - zrf (M 1 1) (M 2) + 1) (by omega) (by omega), zw (by omega) (by omega)]
    refine ⟨by omega, ⟨by omega, by omega⟩, iT_0 ?_ u1, iR_f hR f rfl, zJ_n (zJ_f hJ0 f rfl) (by omega)⟩
    rw [zf_a f3 1 1 rfl, zu_c (by decide), zu_s]

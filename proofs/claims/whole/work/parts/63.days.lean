/-! days() -/
theorem zsm_sub (f g : Int → Int) (n : Nat) : zsm (fun h => f h + g h) n - zsm f n = zsm g n := by rw [zsm_add]; omega
/-- the town behind so many days -/
theorem tR_days {n c x : Int} {M M' : zM} {W : Int → Int} (hx : 0 ≤ x ∧ x ≤ 270) (hWr : ∀ x, 0 ≤ W x ∧ W x ≤ 99) (j1 : tR n c M 23 183 0) (hth : ∀ h, 0 ≤ h → h < c → 0 ≤ M 46 h ∧ M 46 h ≤ 9) (h5 : M' 23 5 = c) (h6 : M' 23 6 = M 23 6 + x) (h24 : M' 24 = M 24) (h25 : M' 25 = M 25) (h26 : M' 26 = M 26)
    (a1 : ∀ h, 0 ≤ h → h < c → M' 28 h = M 28 h + zDa c (M 24) (M 26) (M 25) (M 46) W (M 23 6) x.toNat h) (a2 : ∀ h, 0 ≤ h → h < c → M' 27 h = M 27 h + zDb c (M 24) (M 26) (M 25) (M 46) W (M 23 6) x.toNat h) (a3 : ∀ j, ¬ (0 ≤ j ∧ j < c) → M' 27 j = M 27 j ∧ M' 28 j = M 28 j)
    (b0 : ∀ j, j < 64 ∨ 80 < j → M' 183 j = M 183 j) (b1 : M' 183 80 = M 23 6 + x) (b2 : ∀ h, 0 ≤ h → h < c → M' 183 (72 + h) = M 183 (72 + h) + zDa c (M 24) (M 26) (M 25) (M 46) W (M 23 6) x.toNat h) (b3 : ∀ h, 0 ≤ h → h < c → M' 183 (64 + h) = M 183 (64 + h) + zDb c (M 24) (M 26) (M 25) (M 46) W (M 23 6) x.toNat h) (b4 : ∀ h, c ≤ h → h < 8 → M' 183 (64 + h) = M 183 (64 + h) ∧ M' 183 (72 + h) = M 183 (72 + h)) : tR (n + 1) c M' 23 183 0 := by
  have hT : zTn c (M 24) (M 26) (M 25) := (tR_Rw j1).1
  obtain ⟨w1, ⟨g1, g2, g3, g4, g5, g6, g7, g8⟩, e1, e2, e3, e4, e5, e6⟩ := j1
  have g6 : ∀ h, 0 ≤ h → h < c → 1 ≤ M 26 h ∧ M 26 h ≤ 6 := g6
  have g7 : ∀ h, c ≤ h → h < 8 → M 26 h = 0 ∧ M 27 h = 0 ∧ M 28 h = 0 := g7
  have g8 : ∀ h, 0 ≤ h → h < 8 → (0 ≤ M 27 h ∧ M 27 h ≤ M 23 6) ∧ 0 ≤ M 28 h ∧ M 28 h ≤ 9 * M 23 6 := g8
  have ra := fun h (a : 0 ≤ h) (b : h < c) => zDa_r (day := M 23 6) x.toNat hT hWr hth (h := h) ⟨a, b⟩
  have rb := fun h => zDb_r c (M 24) (M 26) (M 25) (M 46) W (M 23 6) x.toNat h
  refine ⟨h5, ?_, ?_⟩
  · show tW (n + 1) c (M' 23 6) (M' 24) (M' 25) (M' 26) (M' 27) (M' 28)
    rw [h6, h24, h25, h26]
    refine ⟨g1, ⟨by omega, by omega⟩, g3, g4, g5, g6, fun h a b => ?_, fun h a b => ?_⟩
    · rw [(a3 h (by omega)).1, (a3 h (by omega)).2]; exact g7 h a b
    · have := g8 h a b
      by_cases q : h < c
      · rw [a1 h a q, a2 h a q]
        have := ra h a q
        have := rb h
        omega
      · rw [(a3 h (by omega)).1, (a3 h (by omega)).2]; omega
  · show tE c (M' 23 6) (M' 24) (M' 25) (M' 26) (M' 27) (M' 28) (fun k => M' 183 (0 + k))
    rw [h6, h24, h25, h26]
    simp only [Int.zero_add] at e1 e2 e3 e4 e5 e6 ⊢
    refine ⟨fun i a b => ?_, fun h a b => ?_, fun h i a b a' b' => ?_, fun h a b => ?_, fun h a b => ?_, b1.symm⟩
    · show M 24 i = M' 183 i
      rw [b0 _ (by omega)]; exact e1 i a b
    · show M 26 h = M' 183 (8 + h)
      rw [b0 _ (by omega)]; exact e2 h a b
    · have := g6 h a b
      have b' : i < M 26 h := b'
      show M 25 (6 * h + i) = M' 183 (16 + (6 * h + i))
      rw [b0 _ (by omega)]; exact e3 h i a b a' b'
    · have := e4 h a b
      show M' 27 h = M' 183 (64 + h)
      by_cases q : h < c
      · rw [a2 h a q, b3 h a q, show M 27 h = M 183 (64 + h) from this]
      · rw [(a3 h (by omega)).1, (b4 h (by omega) b).1]; exact this
    · have := e5 h a b
      show M' 28 h = M' 183 (72 + h)
      by_cases q : h < c
      · rw [a1 h a q, b2 h a q, show M 28 h = M 183 (72 + h) from this]
      · rw [(a3 h (by omega)).2, (b4 h (by omega) b).2]; exact this
theorem p_days {d : Nat} {x n : Int} {M : zM} (hI : zI n M) (hn : n < 512) : zQ (d + 6) 45 199 [z_r (10, 0) 0, z_i x] [z_r (11, 0) 179, z_i x] n M := by
  have hI0 := hI
  obtain ⟨hb, hT, hR, hJ⟩ := hI
  have hJ0 := hJ
  obtain ⟨i1, i2, i3, i4, i5, i6, i7, i8⟩ := zJ_in hJ
  obtain ⟨c1, c2, c3⟩ := zJ_count hJ
  obtain ⟨j1, j2, j3, j4, hP, hK, j7, j8⟩ := hJ
  have hP0 := hP
  obtain ⟨q1, q2, q3, q4⟩ := hP
  have g8 : ∀ h, 0 ≤ h → h < 8 → (0 ≤ M 27 h ∧ M 27 h ≤ M 23 6) ∧ 0 ≤ M 28 h ∧ M 28 h ≤ 9 * M 23 6 := j1.2.1.2.2.2.2.2.2.2
  have e4 : ∀ h, 0 ≤ h → h < 8 → M 27 h = M 183 (64 + h) := fun h a b => by have := j1.2.2.2.2.2.1 h a b; simp only [Int.zero_add] at this; exact this
  have ref : ¬ (0 ≤ x ∧ x ≤ 60) → zCi (d + 6) 199 [z_r (11, 0) 179, z_i x] M (fun v' M2 => -1 = v' ∧ zI (n + 1) M2) := by
    intro hno
    refine e_M_days (fun P hP => s_M_in ?_)
    rw [if_neg hno]
    exact ⟨fun z => absurd rfl z, fun _ => ⟨rfl, zI_q hI0 hn⟩⟩
  unfold zQ
  refine e_W_days ⟨fun q => ref (by omega), fun q => ⟨fun q2' => ?_, fun q2' => ref (by omega)⟩⟩
  refine s_Past_push (by omega) q2 q3 (fun M1 f1 p1 p2 p3 p4 => ?_)
  have k23 : M1 23 = M 23 := zf_c f1 23 (by decide)
  have k24 : M1 24 = M 24 := zf_c f1 24 (by decide)
  have k25 : M1 25 = M 25 := zf_c f1 25 (by decide)
  have k26 : M1 26 = M 26 := zf_c f1 26 (by decide)
  have k27 : M1 27 = M 27 := zf_c f1 27 (by decide)
  have k28 : M1 28 = M 28 := zf_c f1 28 (by decide)
  have k45 : M1 45 = M 45 := zf_c f1 45 (by decide)
  have k46 : M1 46 = M 46 := zf_c f1 46 (by decide)
  have k47 : M1 47 = M 47 := zf_c f1 47 (by decide)
  have k5 : M1 5 = M 5 := zf_c f1 5 (by decide)
  have k6 : M1 6 = M 6 := zf_c f1 6 (by decide)
  refine s_live_23_5 (cl := M 179 22) (cd := M 190) (by omega) (by rw [k23, k24, k25, k26, c1]; exact i4) (by rw [k23]; omega) (by rw [k23, k27, k28, c1]; exact fun h a b => by have := g8 h a (by omega); omega) (by rw [k45]; exact i1) (by rw [k45, k47]; exact i2) (by rw [k23, k46, c1]; exact i3) (by rw [k5, k6]; exact j4) (fun W hW M2 f2 b2 d2 u2 v2 o2 l2 m2 => ?_)
  rw [k5, k6, k45, k47, k23, k46, c1] at hW
  have hW : W = zW M := hW
  subst hW
  rw [k23, k24, k25, k26, k28, k46, c1] at u2
  rw [k23, k24, k25, k26, k27, k46, c1] at v2
  rw [k23, k27, k28, c1] at o2
  rw [k23, k24, k25, k26, k46, c1] at l2 m2 ⊢
  rw [k23] at d2
  rw [l2, m2]
  refine s_Row_tellTwo (fun M3 f3 r1 r2 r3 => ?_)
  have f13 : zf ([27, 28, 48, 36, 37, 38, 39, 7, 8, 9, 10, 11, 12, 13] ++ [4]) ([(23, 6), (35, 4), (5, 9), (45, 4), (45, 5), (45, 6), (45, 7)] ++ [(3, 1)]) M1 M3 := zf_tr f2 f3
  have g181 : M3 179 = M 179 := by rw [zf_c f13 179 rfl, zf_c f1 179 (by decide)]
  have g185 : M3 183 = M 183 := by rw [zf_c f13 183 rfl, zf_c f1 183 (by decide)]
  have g184 : M3 182 = M 182 := by rw [zf_c f13 182 rfl, zf_c f1 182 (by decide)]
  have g183 : M3 181 = M 181 := by rw [zf_c f13 181 rfl, zf_c f1 181 (by decide)]
  have g192 : M3 190 = M 190 := by rw [zf_c f13 190 rfl, zf_c f1 190 (by decide)]
  have g203 : M3 201 = M 201 := by rw [zf_c f13 201 rfl, zf_c f1 201 (by decide)]
  refine e_M_days (fun P hP => s_M_in ?_)
  rw [if_pos (by omega)]
  have u33 : (z_up M3 179 0 0) 179 33 = M 179 33 := by rw [zu_i (by decide), g181]
  refine ⟨fun _ => s_M_putsBy (by rw [u33, ← q1]; exact q3) (fun M5 f5 a1 a2 => ?_), fun z => absurd (by decide) z⟩
  rw [u33] at a1 a2
  have fB : zf [201] [(179, 0), (179, 35)] M3 (z_up M5 179 35 0) := zf_uj (zf_ww (zf_tr (zf_uj (zf_rf (S := []) (J := [(179, 0)])) (by decide)) f5) rfl rfl) (by decide)
  have e53 : M5 179 3 = M 179 3 := by rw [zf_a f5 179 3 rfl, zu_i (by decide), g181]
  have e5185 : M5 183 = M 183 := by rw [zf_c f5 183 rfl, zu_f (by decide), g185]
  rw [e53]
  refine s_M_sumFrom (by omega) (by omega) ⟨c2, c3⟩ (fun i a b => by rw [e5185, ← e4 i a (by omega)]; have := g8 i a (by omega); omega) ?_
  rw [e5185]
  have B35 : (z_up M5 179 35 0) 179 35 = 0 := zu_s _ _ _ _
  generalize hB : z_up M5 179 35 0 = B at fB B35
  have B185 : B 183 = M 183 := by rw [zf_c fB 183 rfl, g185]
  have hs : zRs 183 (M 179 3) (M 24) (M 26) (M 25) (M 46) (zW M) B := zRs_of hJ0 (by omega) (by rw [zf_a fB 179 3 rfl, g181]) (fun k _ _ => by rw [B185]) (by rw [zf_c fB 182 rfl, g184]) (by rw [zf_a fB 179 5 rfl, g181]) (by rw [zf_c fB 181 rfl, g183]) (by rw [zf_a fB 179 22 rfl, g181]) (by rw [zf_c fB 190 rfl, g192])
  have B80 : B 183 80 = M 23 6 := by rw [B185]; exact i7
  have loop : ∀ (m i : Nat) (M6 : zM), (i : Int) + m = x → zRi 183 (M 179 3) (M 24) (M 26) (M 25) (M 46) (zW M) B i M6 → P x (zsm (fun i => M 183 (64 + i)) (M 179 3).toNat) (zst (zDp (M 179 3) (M 24) (M 26) (M 25) (M 46) (zW M) (M 23 6) i) (M 179 3).toNat) (i : Int) M6 := by
    intro m
    induction m with
    | zero =>
      intro i M6 hi hr
      have hi : i = x.toNat := by omega
      subst hi
      obtain ⟨y1, y2, y3, y4, y5, y6, y7⟩ := hr
      have y7 := y7 (by rw [B35]; omega)
      rw [B80] at y3 y4 y5 y7
      rw [B35] at y7
      rw [B185] at y2 y4 y5 y6
      refine hP _ _ _ _ _ ⟨fun _ => ?_, fun z => absurd (by omega) z⟩
      refine s_M_enters (by rw [zu_s]; omega) ?_
      rw [zu_s]
      refine s_M_enters (by rw [zu_s]; omega) ?_
      rw [zu_s]
      have e35 : (z_up (z_up (z_up M6 179 1 0) 180 0 (zst (zDp (M 179 3) (M 24) (M 26) (M 25) (M 46) (zW M) (M 23 6) x.toNat) (M 179 3).toNat)) 179 1 (0 + 1)) 179 35 = zDl (M 179 3) (M 24) (M 26) (M 25) (M 46) (zW M) (M 23 6) x.toNat := by
        rw [zu_i (by decide), zu_c (by decide), zu_i (by decide), y7]; omega
      rw [e35]
      have g7 : zf [180] [(179, 1)] M6 (z_up (z_up (z_up (z_up (z_up M6 179 1 0) 180 0 (zst (zDp (M 179 3) (M 24) (M 26) (M 25) (M 46) (zW M) (M 23 6) x.toNat) (M 179 3).toNat)) 179 1 (0 + 1)) 180 (0 + 1) (zDl (M 179 3) (M 24) (M 26) (M 25) (M 46) (zW M) (M 23 6) x.toNat)) 179 1 (0 + 1 + 1)) := zf_uj (zf_us (zf_uj (zf_us (zf_uj zf_rf (by decide)) (by decide)) (by decide)) (by decide)) (by decide)
      have t1 : (z_up (z_up (z_up (z_up (z_up M6 179 1 0) 180 0 (zst (zDp (M 179 3) (M 24) (M 26) (M 25) (M 46) (zW M) (M 23 6) x.toNat) (M 179 3).toNat)) 179 1 (0 + 1)) 180 (0 + 1) (zDl (M 179 3) (M 24) (M 26) (M 25) (M 46) (zW M) (M 23 6) x.toNat)) 179 1 (0 + 1 + 1)) 179 1 = 2 := zu_s _ _ _ _
      have t2 : (z_up (z_up (z_up (z_up (z_up M6 179 1 0) 180 0 (zst (zDp (M 179 3) (M 24) (M 26) (M 25) (M 46) (zW M) (M 23 6) x.toNat) (M 179 3).toNat)) 179 1 (0 + 1)) 180 (0 + 1) (zDl (M 179 3) (M 24) (M 26) (M 25) (M 46) (zW M) (M 23 6) x.toNat)) 179 1 (0 + 1 + 1)) 180 0 = zst (zDp (M 179 3) (M 24) (M 26) (M 25) (M 46) (zW M) (M 23 6) x.toNat) (M 179 3).toNat := by
        rw [zu_c (by decide), zu_i (by decide), zu_c (by decide), zu_s]
      have t3 : (z_up (z_up (z_up (z_up (z_up M6 179 1 0) 180 0 (zst (zDp (M 179 3) (M 24) (M 26) (M 25) (M 46) (zW M) (M 23 6) x.toNat) (M 179 3).toNat)) 179 1 (0 + 1)) 180 (0 + 1) (zDl (M 179 3) (M 24) (M 26) (M 25) (M 46) (zW M) (M 23 6) x.toNat)) 179 1 (0 + 1 + 1)) 180 1 = zDl (M 179 3) (M 24) (M 26) (M 25) (M 46) (zW M) (M 23 6) x.toNat := by
        rw [zu_c (by decide)]; exact zu_s _ _ _ _
      generalize z_up (z_up (z_up (z_up (z_up M6 179 1 0) 180 0 (zst (zDp (M 179 3) (M 24) (M 26) (M 25) (M 46) (zW M) (M 23 6) x.toNat) (M 179 3).toNat)) 179 1 (0 + 1)) 180 (0 + 1) (zDl (M 179 3) (M 24) (M 26) (M 25) (M 46) (zW M) (M 23 6) x.toNat)) 179 1 (0 + 1 + 1) = M7 at g7 t1 t2 t3 ⊢
      have n3 : M7 179 3 = M 179 3 := by rw [zf_a g7 179 3 rfl, zf_a y1 179 3 rfl, zf_a fB 179 3 rfl, g181]
      have n185 : M7 183 = M6 183 := zf_c g7 183 rfl
      have n33 : M7 179 33 = M 179 33 := by rw [zf_a g7 179 33 rfl, zf_a y1 179 33 rfl, zf_a fB 179 33 rfl, g181]
      rw [n3]
      have db := fun h => zDb_r (M 179 3) (M 24) (M 26) (M 25) (M 46) (zW M) (M 23 6) x.toNat h
      refine s_M_sumFrom (by omega) (by omega) ⟨c2, c3⟩ (fun i a b => by rw [n185, y5 i a b, ← e4 i a (by omega)]; have := g8 i a (by omega); have := db i; omega) ?_
      rw [n185]
      have es : zsm (fun i => M6 183 (64 + i)) (M 179 3).toNat = zsm (fun i => M 183 (64 + i)) (M 179 3).toNat + zsm (zDb (M 179 3) (M 24) (M 26) (M 25) (M 46) (zW M) (M 23 6) x.toNat) (M 179 3).toNat := by
        rw [← zsm_add]
        exact zsm_c _ (fun h a b => y5 h a (by omega))
      have sb := zsm_b (f := zDb (M 179 3) (M 24) (M 26) (M 25) (M 46) (zW M) (M 23 6) x.toNat) (B := 60) (M 179 3).toNat (fun h _ _ => by have := db h; omega)
      rw [es, show zsm (fun i => M 183 (64 + i)) (M 179 3).toNat + zsm (zDb (M 179 3) (M 24) (M 26) (M 25) (M 46) (zW M) (M 23 6) x.toNat) (M 179 3).toNat - zsm (fun i => M 183 (64 + i)) (M 179 3).toNat = zsm (zDb (M 179 3) (M 24) (M 26) (M 25) (M 46) (zW M) (M 23 6) x.toNat) (M 179 3).toNat by omega, zw (by omega) (by omega)]
      refine s_M_adds (by rw [n33, ← q1]; exact q3) (fun M8 f8 k1 k2 => ⟨rfl, ?_⟩)
      rw [n33] at k1 k2
      have f68 := zf_tr g7 f8
      have f38 : zf [201, 183, 192, 193, 194, 195, 196, 197, 198, 199, 200, 180] [(179, 0), (179, 35), (179, 1), (179, 33)] M3 M8 := zf_ww (zf_tr (zf_tr fB y1) f68) rfl rfl
      have f18 : zf ([27, 28, 48, 36, 37, 38, 39, 7, 8, 9, 10, 11, 12, 13, 4] ++ [201, 183, 192, 193, 194, 195, 196, 197, 198, 199, 200, 180]) ([(23, 6), (35, 4), (5, 9), (45, 4), (45, 5), (45, 6), (45, 7), (3, 1)] ++ [(179, 0), (179, 35), (179, 1), (179, 33)]) M1 M8 := zf_tr f13 f38
      have f : zf (zPast ++ ([27, 28, 48, 36, 37, 38, 39, 7, 8, 9, 10, 11, 12, 13, 4] ++ [201, 183, 192, 193, 194, 195, 196, 197, 198, 199, 200, 180])) ([(49, 1), (49, 2)] ++ ([(23, 6), (35, 4), (5, 9), (45, 4), (45, 5), (45, 6), (45, 7), (3, 1)] ++ [(179, 0), (179, 35), (179, 1), (179, 33)])) M M8 := zf_tr f1 f18
      have m185 : ∀ k, M8 183 k = M6 183 k := fun k => by rw [zf_c f8 183 rfl, n185]
      refine ⟨⟨by omega, by omega⟩, iT_f hT f (by decide), ?_, zJ_act (n' := n + 1) hJ0 (by omega) f (by decide) ?_ ?_⟩
      · have s1 : M8 3 1 = 2 := by rw [zf_a f38 3 1 rfl]; exact r1
        have s2 : M8 179 1 = 2 := by rw [zf_a f8 179 1 rfl]; exact t1
        refine ⟨by rw [s1, s2], by omega, by omega, fun i a b => ?_⟩
        rw [zf_c f38 4 rfl, zf_c f8 180 rfl]
        have : i = 0 ∨ i = 1 := by omega
        rcases this with rfl | rfl
        · rw [r2, t2]
        · rw [r3, t3]
      · refine tR_days (x := x) (by omega) (zW_r M) j1 i3 ?_ ?_ ?_ ?_ ?_ (fun h a b => ?_) (fun h a b => ?_) (fun j hj => ?_) (fun j hj => ?_) ?_ (fun h a b => ?_) (fun h a b => ?_) (fun h a b => ?_)
        · rw [zf_a f 23 5 (by decide)]; exact c1
        · rw [zf_a f38 23 6 rfl, zf_a f3 23 6 rfl]; exact d2
        · exact zf_c f 24 (by decide)
        · exact zf_c f 25 (by decide)
        · exact zf_c f 26 (by decide)
        · rw [zf_c f38 28 rfl, zf_c f3 28 rfl]; exact u2 h a b
        · rw [zf_c f38 27 rfl, zf_c f3 27 rfl]; exact v2 h a b
        · rw [zf_c f38 27 rfl, zf_c f3 27 rfl, zf_c f38 28 rfl, zf_c f3 28 rfl]; exact o2 j hj
        · rw [m185]; exact y2 j hj
        · rw [m185, y3]; omega
        · rw [m185]; exact y4 h a b
        · rw [m185]; exact y5 h a b
        · rw [m185, m185]; exact y6 h a b
      · refine iP_act (R1 := M5 201) hP0 j1 p1 p2 p3 p4 (zf_a f18 49 1 rfl) (zf_a f18 49 2 rfl) (zf_r f18 51 140 rfl) (fun k hk => ?_) (fun k k0 k1' => ?_) k1 (fun k k0 k1' => ?_)
        · rw [a1 k hk, zu_c (by decide), g203]
        · rw [a2 k k0 k1', zu_c (by decide), g185]
        · rw [k2 k k0 k1', zf_c g7 201 rfl, zf_c y1 201 rfl, ← hB, zu_c (by decide)]
    | succ m ih =>
      intro i M6 hi hr
      refine hP _ _ _ _ _ ⟨fun z => absurd z (by omega), fun _ => s_goes_185 hs (by omega) hr (fun M7 hr7 => ?_)⟩
      rw [B80, zDp_s _ _ _ _ _ _ _ _ (by omega), zw (x := (i : Int) + 1) (by omega) (by omega)]
      exact ih (i + 1) M7 (by omega) hr7
  have z1 : zst (zDp (M 179 3) (M 24) (M 26) (M 25) (M 46) (zW M) (M 23 6) 0) (M 179 3).toNat = 0 := by
    have : ∀ k : Nat, zst (zDp (M 179 3) (M 24) (M 26) (M 25) (M 46) (zW M) (M 23 6) 0) k = 0 := by
      intro k
      induction k with
      | zero => rfl
      | succ k ih =>
        show (if zDp (M 179 3) (M 24) (M 26) (M 25) (M 46) (zW M) (M 23 6) 0 (k : Int) = true then zbs (zst (zDp (M 179 3) (M 24) (M 26) (M 25) (M 46) (zW M) (M 23 6) 0) k) (k : Int) else zst (zDp (M 179 3) (M 24) (M 26) (M 25) (M 46) (zW M) (M 23 6) 0) k) = 0
        rw [if_neg (by unfold zDp; show ¬ decide (0 < (0 : Int)) = true; decide)]; exact ih
    exact this _
  have := loop x.toNat 0 B (by omega) zRi_0
  rw [z1] at this
  exact this

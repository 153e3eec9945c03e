/-! year(): both sides -/
theorem p_year {d : Nat} {n : Int} {M : zM} (hI : zI n M) (hn : n < 512) : zQ (d + 12) 58 203 [z_r (10, 0) 0] [z_r (11, 0) 179] n M := by
  have hI0 := hI
  obtain ⟨hb, ⟨t1, t2, t3, t4⟩, hR, hJ⟩ := hI
  have hJ0 := hJ
  obtain ⟨i1, i2, i3, i4, i5, i6, i7, i8⟩ := zJ_in hJ
  obtain ⟨c1, c2, c3⟩ := zJ_count hJ
  obtain ⟨j1, j2, j3, j4, hP0, hK, j7, j8⟩ := hJ
  obtain ⟨s1, s2, s3⟩ := zS0_of j1
  generalize hS : zS0 M 23 = S at s1 s2 s3
  have hPP := hP0
  obtain ⟨q1, q2, q3, q4⟩ := hP0
  have e60 : 0 ≤ zye (M 1 1) ∧ zye (M 1 1) ≤ 60 ∧ zye (M 1 1) ≤ M 1 1 ∧ (M 1 1 ≤ 60 → zye (M 1 1) = M 1 1) ∧ (60 < M 1 1 → zye (M 1 1) = 60) := by unfold zye; split <;> omega
  generalize hE : zye (M 1 1) = e at e60
  have hys := zyl_s (sg := M 2) (e := e) 61 0 (by omega) (by omega) (by omega)
  have rd : ∀ (F : Int → zM → Prop) (M0 : zM), M0 179 11 = M 1 1 → (∀ j, 0 ≤ j → j < M 1 1 → M0 185 j = M 2 j) → (∀ (P19 : Int → Int → zM → Prop) (P64 : Int → Int → Int → Int → zM → Prop), (∀ (x1 : Int) (x2 : Int) (M : zM), ((x2 = 0 → zCi (d + 11) 160 [z_r (11, 0) 179, z_i x1, z_i 60, z_i x2] M (fun v18 M17 => ((0 ≤ v18 → zCv (d + 11) 193 [z_r (11, 0) 179] M17 (fun M19 => P64 x1 x2 v18 0 M19)) ∧ (¬ (0 ≤ v18) → F v18 M17)))) ∧ (¬ (x2 = 0) → (((M 179 13) ≤ (M 179 12) → zCi (d + 11) 160 [z_r (11, 0) 179, z_i x1, z_i 60, z_i x2] M (fun v23 M22 => ((0 ≤ v23 → zCv (d + 11) 193 [z_r (11, 0) 179] M22 (fun M24 => P64 x1 x2 v23 0 M24)) ∧ (¬ (0 ≤ v23) → F v23 M22)))) ∧ (¬ ((M 179 13) ≤ (M 179 12)) → zCi (d + 11) 204 [z_r (11, 0) 179] M (fun v28 M27 => P19 x1 v28 M27))))) → P19 x1 x2 M) → (zyf (M 1 1) (M 2) = -1 → ∀ M5, zf [203, 204, 205] [(179, 11), (179, 12), (179, 13), (179, 14), (179, 40)] M0 M5 → M5 179 11 = 0 → M5 179 40 = ((zyl (M 2) e 61 0).2.2.length : Int) → zAL (M 2) (zyl (M 2) e 61 0).2.2 M5 → zCv (d + 11) 193 [z_r (11, 0) 179] M5 (fun M24 => P64 (M 1 1) 1 0 0 M24)) → (zyf (M 1 1) (M 2) ≠ -1 → ∀ M5, zf [203, 204, 205] [(179, 11), (179, 12), (179, 13), (179, 14), (179, 40)] M0 M5 → M5 179 11 = 0 → F (-1 - zyf (M 1 1) (M 2)) M5) → zCi (d + 11) 153 [z_r (11, 0) 179, z_i 60] M0 (fun v82 M81 => P19 v82 1 (z_up M81 179 40 0))) := by
    intro F M0 g11 g187 P19 P64 hP19 K1 K0
    generalize hZ : zyl (M 2) e 61 0 = Z at K1 hys
    refine s_M_begins (fun B fB w1 w2 w3 w4 => ?_)
    rw [g11] at w4 ⊢
    have w4 : B 179 13 = e := by
      rw [w4, ← hE]; unfold zye
      by_cases q : M 1 1 < 60
      · rw [if_neg (by omega), if_pos q]
      · rw [if_neg q]
        by_cases q2 : 60 < M 1 1
        · rw [if_pos q2]
        · rw [if_neg q2]; omega
    -- the loop
    have loop : ∀ (f : Nat) (p : Int) (L : List Int) (M3 : zM), 0 ≤ p → p ≤ e → e < p + f → (L.length : Int) ≤ p → zf [203, 204, 205] [(179, 11), (179, 12), (179, 13), (179, 14), (179, 40)] M0 M3 → M3 179 11 = 0 → zYB (M 2) e p M3 → M3 179 40 = (L.length : Int) → zAL (M 2) L M3 → ((zyl (M 2) e f p).1 = true → L ++ (zyl (M 2) e f p).2.2 = Z.2.2) → (zyl (M 2) e f p).1 = Z.1 → (zyl (M 2) e f p).2.1 = Z.2.1 → P19 (M 1 1) 1 M3 := by
      intro f
      induction f with
      | zero => intro p L M3 p0 pe hf; omega
      | succ f ih =>
        intro p L M3 p0 pe hf hL f3 g3 yb g40 al r1 r2 r3
        unfold zyl at r1 r2 r3
        have hy := yb
        obtain ⟨y1, y2, y3, y4⟩ := yb
        refine hP19 _ _ _ ⟨fun z => absurd z (by decide), fun _ => ⟨fun z => ?_, fun z => ?_⟩⟩
        · rw [y1, y2] at z
          rw [if_pos z] at r1 r2 r3
          have r1 := r1 rfl
          have r2 : true = Z.1 := r2
          have r3 : p = Z.2.1 := r3
          rw [List.append_nil] at r1
          have pe2 : p = e := by omega
          refine s_M_faultOf60 y1 y2 (by omega) e60.2.2.2.2 (Or.inr rfl) ?_
          have hzf : zyf (M 1 1) (M 2) = if M 1 1 ≤ 60 then -1 else p := by
            unfold zyf; rw [hE, hZ, ← r2, ← r3]
            by_cases w : M 1 1 ≤ 60
            · rw [if_pos ⟨rfl, w⟩, if_pos w]
            · rw [if_neg (fun x => w x.2), if_neg w]
          by_cases w : M 1 1 ≤ 60
          · rw [if_pos ⟨rfl, pe2, w⟩]
            rw [if_pos w] at hzf
            refine ⟨fun _ => K1 hzf M3 f3 g3 (by rw [g40, r1]) (by rw [← r1]; exact al), fun x => absurd (by decide) x⟩
          · rw [if_neg (fun x => w x.2.2)]
            rw [if_neg w] at hzf
            have K0 := K0 (by rw [hzf]; omega) M3 f3 g3
            rw [hzf] at K0
            exact ⟨fun x => absurd x (by omega), fun _ => K0⟩
        · rw [y1, y2] at z
          rw [if_neg z] at r1 r2 r3
          have s := zac1_s (sg := M 2) (e := e) (p := p) pe
          refine s_M_readsAct hy (by omega) g40 (by omega) (fun M4 f4 yb4 g4 n4 k4 => ?_)
          have f34 : zf [203, 204, 205] [(179, 11), (179, 12), (179, 13), (179, 14), (179, 40)] M0 M4 := zf_ww (zf_tr f3 f4) rfl rfl
          have g411 : M4 179 11 = 0 := by rw [zf_a f4 179 11 rfl]; exact g3
          by_cases q : (zac1 (M 2) e p).1 = true
          · rw [if_pos q] at r1 r2 r3 ⊢
            have s3 := s.2.2 q
            refine ih (zac1 (M 2) e p).2 (L ++ [p]) M4 (by omega) s.2.1 (by omega) (by simp; omega) f34 g411 yb4 (by rw [g4]; simp) (zAL_app al n4 (k4 q)) (fun w => ?_) r2 r3
            rw [← r1 w, List.append_assoc]; rfl
          · rw [if_neg q] at r1 r2 r3 ⊢
            obtain ⟨x1, x2, x3, x4⟩ := yb4
            have r2 : false = Z.1 := r2
            have r3 : (zac1 (M 2) e p).2 = Z.2.1 := r3
            have hzf : zyf (M 1 1) (M 2) = (zac1 (M 2) e p).2 := by
              unfold zyf; rw [hE, hZ, ← r2, ← r3, if_neg (fun x => absurd x.1 Bool.false_ne_true)]
            refine hP19 _ _ _ ⟨fun _ => s_M_faultOf60 x1 x2 (by omega) e60.2.2.2.2 (Or.inl rfl) ?_, fun w => absurd rfl w⟩
            rw [if_neg (fun x => by omega)]
            have K0 := K0 (by rw [hzf]; omega) M4 f34 g411
            rw [hzf] at K0
            exact ⟨fun x => absurd x (by omega), fun _ => K0⟩
    refine loop 61 0 [] (z_up B 179 40 0) (by omega) (by omega) (by omega) (by simp) (zf_uj (zf_ww fB rfl rfl) (by decide)) (by rw [zu_i (by decide)]; exact w1) ⟨by rw [zu_i (by decide)]; exact w2, by rw [zu_i (by decide)]; exact w4, by omega, fun j a b => by rw [zu_c (by decide), zf_c fB 185 rfl]; exact g187 j a (by omega)⟩ (by rw [zu_s]; rfl) (fun i hi => absurd hi (by simp)) (fun _ => by rw [hZ]; simp) (by rw [hZ]) (by rw [hZ])
  unfold zQ
  refine e_W_year (fun P hP => s_Text_faultInYear ⟨t2, t3⟩ ⟨fun hf => ?_, fun hf => ?_⟩)
  · -- a year that can be read
    have hok : (zyl (M 2) e 61 0).1 = true ∧ M 1 1 ≤ 60 := by
      refine Classical.byContradiction (fun w => ?_)
      have hf2 := hf
      unfold zyf at hf2
      rw [hE, if_neg w] at hf2
      omega
    have ne : e = M 1 1 := e60.2.2.2.1 hok.2
    have hlen := zyl_len (sg := M 2) (e := e) 61 0 (by omega) (by omega) (by omega) hok.1
    rw [hf]
    refine s_Town_become (a0 := 29) (a1 := 23) (by omega) (fun M1 f1 t1' => ?_)
    have f1 : zf [30, 31, 32, 33, 34] [(29, 5), (29, 6)] M M1 := f1
    have a1 : zAt 23 (M 179 3) S M1 := zAt_f s1 (zf_a f1 23 5 rfl) (zf_a f1 23 6 rfl) (zf_c f1 24 rfl) (zf_c f1 25 rfl) (zf_c f1 26 rfl) (zf_c f1 27 rfl) (zf_c f1 28 rfl)
    generalize hL : (zyl (M 2) e 61 0).2.2 = L at hlen
    generalize hRR : zyx (M 179 3) (M 46) (zW M) (M 2) L 0 S = R
    have hRn := zyx_n (c := M 179 3) (th := M 46) (W := zW M) (sg := M 2) L 0 S
    rw [hRR] at hRn
    -- the reference behind the class
    have ref : ∀ (M4 : zM), zf (zPast ++ [24, 25, 26, 27, 28, 48, 36, 37, 38, 39, 7, 8, 9, 10, 11, 12, 13, 30, 31, 32, 33, 34, 4]) [(49, 1), (49, 2), (23, 6), (35, 4), (5, 9), (45, 4), (45, 5), (45, 6), (45, 7), (29, 5), (29, 6), (1, 1), (3, 1)] M M4 → zAt 23 (M 179 3) R.2.2 M4 → zSo (M 179 3) (270 * n + 270) R.2.2 → M4 1 1 = 0 → M4 3 1 = 2 → M4 4 0 = (if R.2.1 = true then 1 else 0) → M4 4 1 = zsm R.2.2.dry (M 179 3).toNat → (R.1 = 0 → M4 49 1 = M 49 1 ∧ M4 49 2 = M 49 2 ∧ ∀ b, 51 ≤ b → b ≤ 140 → M4 b = M b) → (R.1 ≠ 0 → M4 49 1 = (if M 49 1 + 1 < 15 then M 49 1 + 1 else 0) ∧ M4 49 2 = (if M 49 2 < 15 then M 49 2 + 1 else 15) ∧ tQ M 23 M4 (51 + 6 * (M 49 1).toNat) ∧ ∀ b, 51 ≤ b → b ≤ 140 → (b < 51 + 6 * (M 49 1).toNat ∨ 51 + 6 * (M 49 1).toNat + 6 ≤ b) → M4 b = M b) → zCi (d + 12) 203 [z_r (11, 0) 179] M4 (fun v' M9 => R.1 = v' ∧ zI (n + 1) M9) := by
      intro M4 f4 A4 O4 m11 r1 r2 r3 pz pn
      have g181 : M4 179 = M 179 := zf_c f4 179 (by decide)
      have g185 : M4 183 = M 183 := zf_c f4 183 (by decide)
      have g187 : M4 185 = M 185 := zf_c f4 185 (by decide)
      have g203 : M4 201 = M 201 := zf_c f4 201 (by decide)
      refine e_M_year (fun P19 P64 h19 h64 => rd _ (z_up M4 179 0 0) (by rw [zu_i (by decide), g181]; exact t1.symm) (fun j a b => by rw [zu_c (by decide), g187]; exact ((t4 j a b).1).symm) P19 P64 h19 (fun _ M5 f5 g11 g40 al => ?_) (fun w => absurd hf w))
      rw [hL] at g40 al
      have f45 : zf [203, 204, 205] [(179, 0), (179, 11), (179, 12), (179, 13), (179, 14), (179, 40)] M4 M5 := zf_ww (zf_tr (zf_uj (zf_rf (S := []) (J := [(179, 0)])) (by decide)) f5) rfl rfl
      have u33 : M5 179 33 = M 179 33 := by rw [zf_a f45 179 33 rfl, g181]
      refine s_M_putsBy (by rw [u33, ← q1]; exact q3) (fun M6 f6 b1 b2 => ?_)
      rw [u33] at b1 b2
      have f46 := zf_tr f45 f6
      have hc6 := zRc_of hJ0 (B := M6) (by rw [zf_a f46 179 3 rfl, g181]) (by rw [zf_c f46 182 rfl]; exact zf_c f4 182 (by decide)) (by rw [zf_a f46 179 5 rfl, g181]) (by rw [zf_c f46 181 rfl]; exact zf_c f4 181 (by decide)) (by rw [zf_a f46 179 22 rfl, g181]) (by rw [zf_c f46 190 rfl]; exact zf_c f4 190 (by decide))
      have hr6 : zRt 183 (M 179 3) S M6 := zRt_f s2 (by rw [zf_c f46 183 rfl, g185])
      have h40 : M6 179 40 = (L.length : Int) := by rw [zf_a f6 179 40 rfl]; exact g40
      have al6 : zAL (M 2) L M6 := fun i hi => by
        obtain ⟨x1, x2, x3⟩ := al i hi
        exact ⟨by rw [zf_c f6 203 rfl]; exact x1, fun z => by rw [zf_c f6 204 rfl]; exact x2 z, fun z => by rw [zf_c f6 205 rfl]; exact x3 z⟩
      -- the end
      have fin : ∀ (M7 : zM), zf [183, 192, 193, 194, 195, 196, 197, 198, 199, 200] [(179, 35)] M6 M7 → zRt 183 (M 179 3) R.2.2 M7 → ∀ x, x = (if R.2.1 = true then 1 else 0) → zCi (d + 11) 158 [z_i x] (z_up M7 179 1 0) (fun v32 M31 => zCv (d + 11) 202 [z_r (11, 0) 179, z_l v32] M31 (fun M33 => zCi (d + 11) 183 [z_r (100, 81) 183, z_i 64, z_i (M33 179 3)] M33 (fun v36 M35 => zCv (d + 11) 202 [z_r (11, 0) 179, z_l v36] M35 (fun M37 => ((R.1 ≤ 0 → R.1 = 0 ∧ zI (n + 1) M37) ∧ (¬ (R.1 ≤ 0) → zCi (d + 11) 194 [z_r (11, 0) 179, z_i R.1] M37 (fun v40 M39 => R.1 = v40 ∧ zI (n + 1) M39))))))) := by
        intro M7 f7 r7 x hx
        refine s_M_flag (b := R.2.1) hx (s_M_enters (by rw [zu_s]; omega) ?_)
        rw [zu_s]
        have f67 := zf_tr f46 f7
        have e3 : M7 179 3 = M 179 3 := by rw [zf_a f67 179 3 rfl, g181]
        rw [zu_i (by decide), zu_c (by decide), zu_i (by decide), e3]
        have es : ∀ h, 0 ≤ h → h < 8 → (z_up (z_up (z_up M7 179 1 0) 180 0 (if R.2.1 = true then 1 else 0)) 179 1 (0 + 1)) 183 (64 + h) = R.2.2.dry h := fun h a b => by rw [zu_c (by decide), zu_c (by decide), zu_c (by decide)]; exact r7.2.2.2.1 h a b
        have o4 := O4.2.2.2
        have od := O4.2.1
        refine s_M_sumFrom (by omega) (by omega) ⟨c2, c3⟩ (fun h a b => by rw [es h a (by omega)]; have := o4 h a (by omega); omega) ?_
        rw [zsm_c (g := R.2.2.dry) (M 179 3).toNat (fun h a b => es h a (by omega))]
        refine s_M_enters (by rw [zu_s]; omega) ?_
        rw [zu_s]
        have w1 : (z_up (z_up (z_up (z_up (z_up M7 179 1 0) 180 0 (if R.2.1 = true then 1 else 0)) 179 1 (0 + 1)) 180 (0 + 1) (zsm R.2.2.dry (M 179 3).toNat)) 179 1 (0 + 1 + 1)) 179 1 = 2 := zu_s _ _ _ _
        have w2 : (z_up (z_up (z_up (z_up (z_up M7 179 1 0) 180 0 (if R.2.1 = true then 1 else 0)) 179 1 (0 + 1)) 180 (0 + 1) (zsm R.2.2.dry (M 179 3).toNat)) 179 1 (0 + 1 + 1)) 180 0 = (if R.2.1 = true then 1 else 0) := by rw [zu_c (by decide), zu_i (by decide), zu_c (by decide), zu_s]
        have w3 : (z_up (z_up (z_up (z_up (z_up M7 179 1 0) 180 0 (if R.2.1 = true then 1 else 0)) 179 1 (0 + 1)) 180 (0 + 1) (zsm R.2.2.dry (M 179 3).toNat)) 179 1 (0 + 1 + 1)) 180 1 = zsm R.2.2.dry (M 179 3).toNat := by rw [zu_c (by decide)]; exact zu_s _ _ _ _
        have g8 : zf [180] [(179, 1)] M7 (z_up (z_up (z_up (z_up (z_up M7 179 1 0) 180 0 (if R.2.1 = true then 1 else 0)) 179 1 (0 + 1)) 180 (0 + 1) (zsm R.2.2.dry (M 179 3).toNat)) 179 1 (0 + 1 + 1)) := zf_uj (zf_us (zf_uj (zf_us (zf_uj zf_rf (by decide)) (by decide)) (by decide)) (by decide)) (by decide)
        generalize z_up (z_up (z_up (z_up (z_up M7 179 1 0) 180 0 (if R.2.1 = true then 1 else 0)) 179 1 (0 + 1)) 180 (0 + 1) (zsm R.2.2.dry (M 179 3).toNat)) 179 1 (0 + 1 + 1) = M8 at w1 w2 w3 g8
        have f48 := zf_tr f67 g8
        have v33 : M8 179 33 = M 179 33 := by rw [zf_a f48 179 33 rfl, g181]
        have A8 : ∀ M9, zf [201] [(179, 33)] M8 M9 → zAt 23 (M 179 3) R.2.2 M9 ∧ zRt 183 (M 179 3) R.2.2 M9 := fun M9 f9 => by
          have f49 := zf_tr f48 f9
          exact ⟨zAt_f A4 (zf_a f49 23 5 rfl) (zf_a f49 23 6 rfl) (zf_c f49 24 rfl) (zf_c f49 25 rfl) (zf_c f49 26 rfl) (zf_c f49 27 rfl) (zf_c f49 28 rfl), zRt_f r7 (by rw [zf_c f9 183 rfl, zf_c g8 183 rfl])⟩
        have zi : ∀ M9, zf [201] [(179, 33)] M8 M9 → iP n (M 179 3) M9 → zI (n + 1) M9 := fun M9 f9 hp9 => by
          have f49 : zf [203, 204, 205, 201, 183, 192, 193, 194, 195, 196, 197, 198, 199, 200, 180] [(179, 0), (179, 11), (179, 12), (179, 13), (179, 14), (179, 40), (179, 35), (179, 1), (179, 33)] M4 M9 := zf_ww (zf_tr f48 f9) rfl rfl
          have f : zf (zPast ++ [24, 25, 26, 27, 28, 48, 36, 37, 38, 39, 7, 8, 9, 10, 11, 12, 13, 30, 31, 32, 33, 34, 4] ++ [203, 204, 205, 201, 183, 192, 193, 194, 195, 196, 197, 198, 199, 200, 180]) ([(49, 1), (49, 2), (23, 6), (35, 4), (5, 9), (45, 4), (45, 5), (45, 6), (45, 7), (29, 5), (29, 6), (1, 1), (3, 1)] ++ [(179, 0), (179, 11), (179, 12), (179, 13), (179, 14), (179, 40), (179, 35), (179, 1), (179, 33)]) M M9 := zf_tr f4 f49
          have y3 : M9 3 1 = 2 := by rw [zf_a f49 3 1 rfl]; exact r1
          have y1 : M9 179 1 = 2 := by rw [zf_a f9 179 1 rfl]; exact w1
          refine ⟨⟨by omega, by omega⟩, iT_0 (by rw [zf_a f49 1 1 rfl]; exact m11) (by rw [zf_a f9 179 11 rfl, zf_a g8 179 11 rfl, zf_a f7 179 11 rfl, zf_a f6 179 11 rfl]; exact g11), ⟨by rw [y3, y1], by omega, by omega, fun i a b => ?_⟩, zJ_act (n' := n + 1) hJ0 (by omega) f (by decide) (tR_of (A8 M9 f9).1 (A8 M9 f9).2 (zSo_m O4 (by omega))) hp9⟩
          rw [zf_c f49 4 rfl, zf_c f9 180 rfl]
          have : i = 0 ∨ i = 1 := by omega
          rcases this with rfl | rfl
          · rw [r2, w2]
          · rw [r3, w3]
        refine ⟨fun z => ⟨by omega, zi M8 zf_rf ?_⟩, fun z => s_M_adds (by rw [v33, ← q1]; exact q3) (fun M9 f9 k1 k2 => ⟨rfl, zi M9 f9 ?_⟩)⟩
        · obtain ⟨z1, z2, z3⟩ := pz (by omega)
          refine iP_203 hPP (by rw [zf_a f48 49 1 rfl]; exact z1) (by rw [zf_a f48 49 2 rfl]; exact z2) v33 (fun k hk => ?_) (fun b x y => ?_)
          · rw [zf_c g8 201 rfl, zf_c f7 201 rfl, b1 k (Or.inl hk), zf_c f45 201 rfl, g203]
          · rw [zf_r f48 51 140 rfl b x y]; exact z3 b x y
        · rw [v33] at k1 k2
          obtain ⟨z1, z2, z3, z4⟩ := pn (by omega)
          have f49 := zf_tr f48 f9
          refine iP_act (R1 := M6 201) (M1 := M4) hPP j1 z1 z2 z3 z4 (zf_a f49 49 1 rfl) (zf_a f49 49 2 rfl) (zf_r f49 51 140 rfl) (fun k hk => ?_) (fun k k0 k1' => ?_) k1 (fun k k0 k1' => ?_)
          · rw [b1 k hk, zf_c f45 201 rfl, g203]
          · rw [b2 k k0 k1', zf_c f45 183 rfl, g185]
          · rw [k2 k k0 k1', zf_c g8 201 rfl, zf_c f7 201 rfl]
      -- what is done
      have run : ∀ (Lt L0 : List Int) (S1 : zS) (b : Int) (M7 : zM), L = L0 ++ Lt → zyx (M 179 3) (M 46) (zW M) (M 2) Lt (L0.length : Int) S1 = R → (∀ p ∈ Lt, 0 ≤ zaa (M 2 p) ∧ (zaa (M 2 p) ≤ 1 → 48 ≤ M 2 (p + 1) ∧ M 2 (p + 1) ≤ 57)) → zf [183, 192, 193, 194, 195, 196, 197, 198, 199, 200] [(179, 35)] M6 M7 → zRt 183 (M 179 3) S1 M7 → zSo (M 179 3) (270 * n + b) S1 → b + 9 * (Lt.length : Int) ≤ 600 → P64 (M 1 1) 1 0 (L0.length : Int) M7 := by
        intro Lt
        induction Lt with
        | nil =>
          intro L0 S1 b M7 hLL hz hp7 f7 r7 o7 hb7
          have eL : (L0.length : Int) = (L.length : Int) := by rw [hLL]; simp
          have hz : (((L0.length : Int), false, S1) : Int × Bool × zS) = R := hz
          have e40 : M7 179 40 = (L.length : Int) := by rw [zf_a f7 179 40 rfl]; exact h40
          subst hz
          have F1 := fin M7 f7 r7 0 rfl
          refine h64 _ _ _ _ _ ⟨fun _ => ?_, fun z => absurd (by omega) z⟩
          rw [zu_i (by decide), e40]
          exact ⟨fun _ => F1, fun z => absurd (by omega) z⟩
        | cons p Lt ih =>
          intro L0 S1 b M7 hLL hz hp7 f7 r7 o7 hb7
          have eL : (L.length : Int) = (L0.length : Int) + ((Lt.length : Int) + 1) := by rw [hLL]; simp
          have e40 : M7 179 40 = (L.length : Int) := by rw [zf_a f7 179 40 rfl]; exact h40
          have lc : (((p :: Lt).length : Nat) : Int) = Lt.length + 1 := by simp
          rw [lc] at hb7
          obtain ⟨pa, px⟩ := hp7 p List.mem_cons_self
          have hk := al6 L0.length (by omega)
          have gd : L.getD L0.length 0 = p := by rw [hLL]; simp
          rw [gd] at hk
          obtain ⟨k1, k2, k3⟩ := hk
          have hc7 := zRc_f hc6 (zf_a f7 179 3 rfl) (zf_c f7 182 rfl) (zf_a f7 179 5 rfl) (zf_c f7 181 rfl) (zf_a f7 179 22 rfl) (zf_c f7 190 rfl)
          have a3 : zaa (M 2 p) ≤ 3 := by unfold zaa; (repeat' split) <;> omega
          have x9 : zaa (M 2 p) ≤ 1 → 0 ≤ zdi (M 2 (p + 1)) ∧ zdi (M 2 (p + 1)) ≤ 9 := fun w => by have := px w; unfold zdi; rw [if_pos this]; omega
          unfold zyx at hz
          refine h64 _ _ _ _ _ ⟨fun z => absurd z (by omega), fun _ => s_M_does (D := 270 * n + b) (x := zdi (M 2 (p + 1))) (y := zdi (M 2 (p + 2))) (by omega) (by rw [zf_c f7 203 rfl]; exact k1) ⟨pa, a3⟩ (fun w => ⟨by rw [zf_c f7 204 rfl]; exact k2 w, x9 w⟩) (fun w => by rw [zf_c f7 205 rfl]; exact k3 w) hc7 r7 o7 (by omega) (fun M8 f8 r8 => ?_)⟩
          have f68 : zf [183, 192, 193, 194, 195, 196, 197, 198, 199, 200] [(179, 35)] M6 M8 := zf_ww (zf_tr f7 f8) rfl rfl
          have e408 : M8 179 40 = (L.length : Int) := by rw [zf_a f8 179 40 rfl]; exact e40
          by_cases q : (zya (M 179 3) (M 46) (zW M) (zaa (M 2 p)) (zdi (M 2 (p + 1))) (zdi (M 2 (p + 2))) S1).1 = true
          · rw [if_pos q] at hz ⊢
            refine ⟨fun w => absurd w (by decide), fun _ => ?_⟩
            rw [zw (x := (L0.length : Int) + 1) (by omega) (by omega)]
            have el : (((L0 ++ [p]).length : Nat) : Int) = (L0.length : Int) + 1 := by simp
            have o8 : zSo (M 179 3) (270 * n + (b + 9)) (zya (M 179 3) (M 46) (zW M) (zaa (M 2 p)) (zdi (M 2 (p + 1))) (zdi (M 2 (p + 2))) S1).2 := by
              by_cases w : zaa (M 2 p) ≤ 1
              · have := x9 w
                refine zSo_m (zya_o (a := zaa (M 2 p)) (x := zdi (M 2 (p + 1))) (y := zdi (M 2 (p + 2))) o7 this.1 i3 (zW_r M)) ?_
                split <;> omega
              · have e0 : zya (M 179 3) (M 46) (zW M) (zaa (M 2 p)) (zdi (M 2 (p + 1))) (zdi (M 2 (p + 2))) S1 = zya (M 179 3) (M 46) (zW M) (zaa (M 2 p)) 0 (zdi (M 2 (p + 2))) S1 := by
                  unfold zya
                  rw [if_neg (show ¬ zaa (M 2 p) = 0 by omega), if_neg (show ¬ zaa (M 2 p) = 1 by omega), if_neg (show ¬ zaa (M 2 p) = 0 by omega), if_neg (show ¬ zaa (M 2 p) = 1 by omega)]
                rw [e0]
                refine zSo_m (zya_o (a := zaa (M 2 p)) (x := 0) (y := zdi (M 2 (p + 2))) o7 (by omega) i3 (zW_r M)) ?_
                split <;> omega
            have := ih (L0 ++ [p]) _ (b + 9) M8 (by rw [hLL]; simp) (by rw [el]; exact hz) (fun p' hp' => hp7 p' (List.mem_cons_of_mem _ hp')) f68 r8 o8 (by omega)
            rw [el] at this
            exact this
          · rw [if_neg q] at hz ⊢
            have eS : (zya (M 179 3) (M 46) (zW M) (zaa (M 2 p)) (zdi (M 2 (p + 1))) (zdi (M 2 (p + 2))) S1).2 = S1 := by
              revert q
              unfold zya
              split
              · intro q; exact absurd rfl q
              · split
                · split
                  · intro q; exact absurd rfl q
                  · intro _; rfl
                · split
                  · intro q; exact absurd rfl q
                  · intro q; exact absurd rfl q
            rw [eS] at r8
            subst hz
            have F1 := fin M8 f68 r8 1 rfl
            refine ⟨fun _ => ?_, fun w => absurd rfl w⟩
            rw [zu_i (by decide), e408]
            exact ⟨fun w => absurd w (by omega), fun _ => F1⟩
      refine run L [] S 0 M6 (by simp) hRR (fun p hp => ?_) zf_rf hr6 (zSo_m s3 (by omega)) (by omega)
      -- each place is an act
      have all : ∀ (f : Nat) (p0 : Int), 0 ≤ p0 → p0 ≤ e → (zyl (M 2) e f p0).1 = true → ∀ p ∈ (zyl (M 2) e f p0).2.2, 0 ≤ zaa (M 2 p) ∧ (zaa (M 2 p) ≤ 1 → 48 ≤ M 2 (p + 1) ∧ M 2 (p + 1) ≤ 57) := by
        intro f
        induction f with
        | zero => intro p0 _ _ _ p hp; exact absurd hp (by unfold zyl; simp)
        | succ f ih =>
          intro p0 h0 he ht p hp
          unfold zyl at ht hp
          by_cases q : e ≤ p0
          · rw [if_pos q] at hp; exact absurd hp (by simp)
          · rw [if_neg q] at ht hp
            have s := zac1_s (sg := M 2) (e := e) (p := p0) he
            by_cases q1 : (zac1 (M 2) e p0).1 = true
            · rw [if_pos q1] at ht hp
              have hp : p ∈ p0 :: (zyl (M 2) e f (zac1 (M 2) e p0).2).2.2 := hp
              rcases List.mem_cons.mp hp with rfl | hp
              · have := zac1_t (by omega) q1
                exact ⟨this.1, fun w => (this.2.1 w).2⟩
              · exact ih _ (by omega) s.2.1 ht p hp
            · rw [if_neg q1] at ht; exact absurd ht Bool.false_ne_true
      rw [← hL] at hp
      exact all 61 0 (by omega) (by omega) hok.1 p hp
    -- the class's end
    have ends : ∀ (p : Int) (M2 : zM), zf [24, 25, 26, 27, 28, 48, 36, 37, 38, 39, 7, 8, 9, 10, 11, 12, 13] [(23, 6), (35, 4), (5, 9), (45, 4), (45, 5), (45, 6), (45, 7)] M1 M2 → zAt 23 (M 179 3) R.2.2 M2 → zSo (M 179 3) (270 * n + 270) R.2.2 → (M 1 1 ≤ p ∨ R.2.1 = true) → P (-1) R.1 (if R.2.1 = true then 1 else 0) p M2 := by
      intro p M2 f2 A2 O2 hp
      have f12 := zf_tr f1 f2
      have n11 : M2 1 1 = M 1 1 := zf_a f12 1 1 rfl
      -- told at last
      have tell : ∀ (M3 : zM) (x : Int), x = (if R.2.1 = true then 1 else 0) → zf (zPast ++ [24, 25, 26, 27, 28, 48, 36, 37, 38, 39, 7, 8, 9, 10, 11, 12, 13, 30, 31, 32, 33, 34]) [(49, 1), (49, 2), (23, 6), (35, 4), (5, 9), (45, 4), (45, 5), (45, 6), (45, 7), (29, 5), (29, 6), (1, 1)] M M3 → zAt 23 (M 179 3) R.2.2 M3 → M3 1 1 = 0 → (R.1 = 0 → M3 49 1 = M 49 1 ∧ M3 49 2 = M 49 2 ∧ ∀ b, 51 ≤ b → b ≤ 140 → M3 b = M b) → (R.1 ≠ 0 → M3 49 1 = (if M 49 1 + 1 < 15 then M 49 1 + 1 else 0) ∧ M3 49 2 = (if M 49 2 < 15 then M 49 2 + 1 else 15) ∧ tQ M 23 M3 (51 + 6 * (M 49 1).toNat) ∧ ∀ b, 51 ≤ b → b ≤ 140 → (b < 51 + 6 * (M 49 1).toNat ∨ 51 + 6 * (M 49 1).toNat + 6 ≤ b) → M3 b = M b) → zCi (d + 11) 65 [z_r (9, 0) 23] M3 (fun v15 M14 => zCv (d + 11) 55 [z_r (5, 0) 3, z_l x, z_l v15] M14 (fun M16 => zCi (d + 12) 203 [z_r (11, 0) 179] M16 (fun v' M9 => R.1 = v' ∧ zI (n + 1) M9))) := by
        intro M3 x hx f3 A3 m11 pz pn
        have o4 := O2.2.2.2
        have od := O2.2.1
        have k27 : ∀ h, 0 ≤ h → h < 8 → M3 27 h = R.2.2.dry h := A3.2.2.2.2.2.1
        refine s_Town_dryOfAll (by rw [A3.1]; exact ⟨c2, c3⟩) (by rw [A3.1]; exact fun h a b => by show 0 ≤ M3 27 h ∧ M3 27 h ≤ 2000000; rw [k27 h a (by omega)]; have := o4 h a (by omega); omega) (s_Row_tellTwo (fun M4 f4 r1 r2 r3 => ?_))
        rw [A3.1, zsm_c (g := R.2.2.dry) (M 179 3).toNat (fun h a b => k27 h a (by omega))] at r3
        refine ref M4 (zf_ww (zf_tr f3 f4) (by decide) (by decide)) (zAt_f A3 (zf_a f4 23 5 rfl) (zf_a f4 23 6 rfl) (zf_c f4 24 rfl) (zf_c f4 25 rfl) (zf_c f4 26 rfl) (zf_c f4 27 rfl) (zf_c f4 28 rfl)) O2 (by rw [zf_a f4 1 1 rfl]; exact m11) r1 (by rw [r2]; exact hx) r3 (fun z => ?_) (fun z => ?_)
        · obtain ⟨z1, z2, z3⟩ := pz z
          exact ⟨by rw [zf_a f4 49 1 rfl]; exact z1, by rw [zf_a f4 49 2 rfl]; exact z2, fun b x y => by rw [zf_r f4 51 140 rfl b x y]; exact z3 b x y⟩
        · obtain ⟨z1, z2, z3, z4⟩ := pn z
          refine ⟨by rw [zf_a f4 49 1 rfl]; exact z1, by rw [zf_a f4 49 2 rfl]; exact z2, tQ_tr z3 (tQ_c ?_ ?_ (fun b x y => zf_r f4 51 140 rfl b (by omega) (by omega))), fun b x y w => by rw [zf_r f4 51 140 rfl b x y]; exact z4 b x y w⟩
          · rw [zf_r f4 51 140 rfl _ (by omega) (by omega)]
          · rw [zf_r f4 51 140 rfl _ (by omega) (by omega)]
      have f13 : zf [30, 31, 32, 33, 34, 24, 25, 26, 27, 28, 48, 36, 37, 38, 39, 7, 8, 9, 10, 11, 12, 13] [(29, 5), (29, 6), (23, 6), (35, 4), (5, 9), (45, 4), (45, 5), (45, 6), (45, 7), (1, 1)] M (z_up M2 1 1 0) := zf_uj (zf_ww f12 rfl rfl) (by decide)
      have A2' : zAt 23 (M 179 3) R.2.2 (z_up M2 1 1 0) := zAt_f A2 (zu_c (by decide)) (zu_c (by decide)) (zu_f (by decide)) (zu_f (by decide)) (zu_f (by decide)) (zu_f (by decide)) (zu_f (by decide))
      have both : ((R.1 ≤ 0 → (((if R.2.1 = true then (1 : Int) else 0) = 0 → zCi (d + 11) 65 [z_r (9, 0) 23] (z_up M2 1 1 0) (fun v15 M14 => zCv (d + 11) 55 [z_r (5, 0) 3, z_l 0, z_l v15] M14 (fun M16 => zCi (d + 12) 203 [z_r (11, 0) 179] M16 (fun v' M9 => R.1 = v' ∧ zI (n + 1) M9)))) ∧ (¬ ((if R.2.1 = true then (1 : Int) else 0) = 0) → zCi (d + 11) 65 [z_r (9, 0) 23] (z_up M2 1 1 0) (fun v19 M18 => zCv (d + 11) 55 [z_r (5, 0) 3, z_l 1, z_l v19] M18 (fun M20 => zCi (d + 12) 203 [z_r (11, 0) 179] M20 (fun v' M9 => R.1 = v' ∧ zI (n + 1) M9)))))) ∧ (¬ (R.1 ≤ 0) → zCv (d + 11) 30 [z_r (3, 0) 49, z_r (9, 0) 29] (z_up M2 1 1 0) (fun M23 => (((if R.2.1 = true then (1 : Int) else 0) = 0 → zCi (d + 11) 65 [z_r (9, 0) 23] M23 (fun v26 M25 => zCv (d + 11) 55 [z_r (5, 0) 3, z_l 0, z_l v26] M25 (fun M27 => zCi (d + 12) 203 [z_r (11, 0) 179] M27 (fun v' M9 => R.1 = v' ∧ zI (n + 1) M9)))) ∧ (¬ ((if R.2.1 = true then (1 : Int) else 0) = 0) → zCi (d + 11) 65 [z_r (9, 0) 23] M23 (fun v30 M29 => zCv (d + 11) 55 [z_r (5, 0) 3, z_l 1, z_l v30] M29 (fun M31 => zCi (d + 12) 203 [z_r (11, 0) 179] M31 (fun v' M9 => R.1 = v' ∧ zI (n + 1) M9)))))))) := by
        have x01 : ∀ x : Int, (if R.2.1 = true then (1 : Int) else 0) = 0 → x = 0 → x = (if R.2.1 = true then 1 else 0) := fun x z1 z2 => by rw [z1, z2]
        have x11 : ∀ x : Int, ¬ (if R.2.1 = true then (1 : Int) else 0) = 0 → x = 1 → x = (if R.2.1 = true then 1 else 0) := fun x z1 z2 => by
          rcases zif01 R.2.1 with w | w
          · exact absurd w z1
          · rw [w, z2]
        refine ⟨fun z => ?_, fun z => ?_⟩
        · have tt := fun x hx => tell (z_up M2 1 1 0) x hx (zf_ww f13 (by decide) (by decide)) A2' (zu_s _ _ _ _) (fun _ => ⟨zf_a f13 49 1 rfl, zf_a f13 49 2 rfl, zf_r f13 51 140 rfl⟩) (fun w => absurd (by omega) w)
          exact ⟨fun w => tt 0 (x01 0 w rfl), fun w => tt 1 (x11 1 w rfl)⟩
        · have e1 : (z_up M2 1 1 0) 49 1 = M 49 1 := zf_a f13 49 1 rfl
          have e2 : (z_up M2 1 1 0) 49 2 = M 49 2 := zf_a f13 49 2 rfl
          refine s_Past_push (by omega) (by rw [e1]; exact q2) (by rw [e2]; exact q3) (fun M3 f3 p1 p2 p3 p4 => ?_)
          rw [e1] at p1 p3 p4
          rw [e2] at p2
          have tq : tQ M 23 M3 (51 + 6 * (M 49 1).toNat) := by
            have t2' : tQ M1 29 (z_up M2 1 1 0) 29 := tQ_c (by rw [zu_c (by decide), zf_a f2 29 5 rfl]) (by rw [zu_c (by decide), zf_a f2 29 6 rfl]) (fun b x y => by rw [zu_f (by omega), zf_r f2 30 34 rfl b (by omega) (by omega)])
            exact tQ_tr t1' (tQ_tr t2' p3)
          have tt := fun x hx => tell M3 x hx (zf_ww (zf_tr f13 f3) (by decide) (by decide)) (zAt_f A2' (zf_a f3 23 5 (by decide)) (zf_a f3 23 6 (by decide)) (zf_c f3 24 (by decide)) (zf_c f3 25 (by decide)) (zf_c f3 26 (by decide)) (zf_c f3 27 (by decide)) (zf_c f3 28 (by decide))) (by rw [zf_a f3 1 1 (by decide)]; exact zu_s _ _ _ _) (fun w => absurd w (by omega)) (fun _ => ⟨p1, p2, tq, fun b x y w => by rw [p4 b x y w, zf_r f13 51 140 rfl b x y]⟩)
          exact ⟨fun w => tt 0 (x01 0 w rfl), fun w => tt 1 (x11 1 w rfl)⟩
      refine hP _ _ _ _ _ ⟨fun _ => both, fun z => ⟨fun _ => both, fun z2 => ?_⟩⟩
      exfalso
      rw [n11] at z
      rcases hp with hp | hp
      · exact z hp
      · rw [hp] at z2; exact z2 (by decide)
    -- the class's acts
    have acts : ∀ (f : Nat) (p dn b : Int) (S1 : zS) (M2 : zM), 0 ≤ p → p ≤ e → e < p + f → (zyl (M 2) e f p).1 = true → zyx (M 179 3) (M 46) (zW M) (M 2) (zyl (M 2) e f p).2.2 dn S1 = R → 0 ≤ dn ∧ dn ≤ p → zf [24, 25, 26, 27, 28, 48, 36, 37, 38, 39, 7, 8, 9, 10, 11, 12, 13] [(23, 6), (35, 4), (5, 9), (45, 4), (45, 5), (45, 6), (45, 7)] M1 M2 → zAt 23 (M 179 3) S1 M2 → zSo (M 179 3) (270 * n + b) S1 → 2 * b ≤ 9 * p → P (-1) dn 0 p M2 := by
      intro f
      induction f with
      | zero => intro p dn b S1 M2 p0 pe hf; omega
      | succ f ih =>
        intro p dn b S1 M2 p0 pe hf ht hz hd f2 A2 O2 hb2
        unfold zyl at ht hz
        have f12 := zf_tr f1 f2
        have n11 : M2 1 1 = M 1 1 := zf_a f12 1 1 rfl
        have n2 : M2 2 = M 2 := zf_c f12 2 rfl
        by_cases q : e ≤ p
        · rw [if_pos q] at hz
          have hz : ((dn, false, S1) : Int × Bool × zS) = R := hz
          subst hz
          exact ends p M2 f2 A2 (zSo_m O2 (by omega)) (Or.inl (by omega))
        · rw [if_neg q] at ht hz
          have s := zac1_s (sg := M 2) (e := e) (p := p) pe
          by_cases q1' : (zac1 (M 2) e p).1 = true
          · rw [if_pos q1'] at ht hz
            obtain ⟨u1, u2, u3, u4⟩ := zac1_t (by omega) q1'
            have s3 := s.2.2 q1'
            have k5 : M2 5 1 = M 5 1 := zf_a f12 5 1 rfl
            have k6 : M2 6 = M 6 := zf_c f12 6 rfl
            have k45 : M2 45 2 = M 45 2 := zf_a f12 45 2 rfl
            have k46 : M2 46 = M 46 := zf_c f12 46 rfl
            have k47 : M2 47 = M 47 := zf_c f12 47 rfl
            have hz : (if (zya (M 179 3) (M 46) (zW M) (zaa (M 2 p)) (zdi (M 2 (p + 1))) (zdi (M 2 (p + 2))) S1).1 = true then zyx (M 179 3) (M 46) (zW M) (M 2) (zyl (M 2) e f (zac1 (M 2) e p).2).2.2 (dn + 1) (zya (M 179 3) (M 46) (zW M) (zaa (M 2 p)) (zdi (M 2 (p + 1))) (zdi (M 2 (p + 2))) S1).2 else (dn, true, S1)) = R := hz
            refine hP _ _ _ _ _ ⟨fun z => absurd z (by omega), fun _ => ⟨fun z => absurd rfl z, fun _ => s_W_act (cl := M 179 22) (cd := M 190) (th := M 46) (W := zW M) (by omega) (by omega) (by rw [n2]; exact u1) (by rw [n2, n11]; exact fun w => ⟨by have := u2 w; omega, (u2 w).2⟩) (by rw [n2, n11]; exact fun w => by have := u3 w; omega) A2 O2 (by omega) (by rw [k45]; exact i1) (by rw [k45, k47]; exact i2) (by rw [k46]; exact i3) (by rw [k5, k6]; exact j4) k46 (by rw [k5, k6, k45, k47, k46]; rfl) (fun M3 f3 A3 => ?_)⟩⟩
            rw [n2] at A3 ⊢
            have f23 : zf [24, 25, 26, 27, 28, 48, 36, 37, 38, 39, 7, 8, 9, 10, 11, 12, 13] [(23, 6), (35, 4), (5, 9), (45, 4), (45, 5), (45, 6), (45, 7)] M1 M3 := zf_ww (zf_tr f2 f3) rfl rfl
            have m11 : M3 1 1 = M 1 1 := by rw [zf_a f3 1 1 rfl]; exact n11
            have m2 : M3 2 = M 2 := by rw [zf_c f3 2 rfl]; exact n2
            have sn : ∀ (G : Int → Prop), G (zac1 (M 2) e p).2 → zCi (d + 11) 9 [z_r (7, 0) 1, z_i p] M3 (fun v59 M58 => zCi (d + 11) 60 [z_i v59] M58 (fun v61 M60 => M60 = M3 ∧ G (z_wr (p + (if 1 < v61 then v61 else 1))))) := by
              intro G hG
              refine s_Text_at (by omega) ?_
              rw [if_pos (by omega), m2]
              refine s_Text_signsOfAct ⟨rfl, ?_⟩
              rw [u4] at hG
              by_cases a0 : zaa (M 2 p) = 0
              · rw [if_pos a0] at hG ⊢; rw [if_pos (by decide), zw (by omega) (by omega)]; exact hG
              · rw [if_neg a0] at hG ⊢
                by_cases a1' : zaa (M 2 p) = 1
                · rw [if_pos a1'] at hG ⊢; rw [if_pos (by decide), zw (by omega) (by omega)]; exact hG
                · rw [if_neg a1'] at hG ⊢; rw [if_neg (by omega), zw (by omega) (by omega)]; exact hG
            by_cases w : (zya (M 179 3) (M 46) (zW M) (zaa (M 2 p)) (zdi (M 2 (p + 1))) (zdi (M 2 (p + 2))) S1).1 = true
            · rw [if_pos w] at hz ⊢
              refine ⟨fun _ => ⟨fun _ => ?_, fun z => absurd rfl z⟩, fun z => absurd (by decide) z⟩
              rw [zw (x := dn + 1) (by omega) (by omega)]
              have x9 : zaa (M 2 p) ≤ 1 → 0 ≤ zdi (M 2 (p + 1)) ∧ zdi (M 2 (p + 1)) ≤ 9 := fun w => by have := (u2 w).2; unfold zdi; rw [if_pos this]; omega
              have o8 : zSo (M 179 3) (270 * n + (b + (if zaa (M 2 p) = 0 then zdi (M 2 (p + 1)) else 0))) (zya (M 179 3) (M 46) (zW M) (zaa (M 2 p)) (zdi (M 2 (p + 1))) (zdi (M 2 (p + 2))) S1).2 := by
                by_cases w : zaa (M 2 p) ≤ 1
                · exact zSo_m (zya_o (a := zaa (M 2 p)) (x := zdi (M 2 (p + 1))) (y := zdi (M 2 (p + 2))) O2 (x9 w).1 i3 (zW_r M)) (by omega)
                · have e0 : zya (M 179 3) (M 46) (zW M) (zaa (M 2 p)) (zdi (M 2 (p + 1))) (zdi (M 2 (p + 2))) S1 = zya (M 179 3) (M 46) (zW M) (zaa (M 2 p)) 0 (zdi (M 2 (p + 2))) S1 := by
                    unfold zya
                    rw [if_neg (show ¬ zaa (M 2 p) = 0 by omega), if_neg (show ¬ zaa (M 2 p) = 1 by omega), if_neg (show ¬ zaa (M 2 p) = 0 by omega), if_neg (show ¬ zaa (M 2 p) = 1 by omega)]
                  rw [e0, if_neg (by omega)]
                  refine zSo_m (zya_o (a := zaa (M 2 p)) (x := 0) (y := zdi (M 2 (p + 2))) O2 (by omega) i3 (zW_r M)) ?_
                  rw [if_neg (by omega)]; omega
              have b9 : 2 * (b + (if zaa (M 2 p) = 0 then zdi (M 2 (p + 1)) else 0)) ≤ 9 * (zac1 (M 2) e p).2 := by
                rw [u4]
                by_cases a0 : zaa (M 2 p) = 0
                · rw [if_pos a0, if_pos a0]; have := x9 (by omega); omega
                · rw [if_neg a0]; split <;> omega
              have nx := ih (zac1 (M 2) e p).2 (dn + 1) _ _ M3 (by omega) s.2.1 (by omega) ht hz (by omega) f23 A3 o8 b9
              refine zCi_mono (sn (fun q => P (-1) (dn + 1) 0 q M3) nx) (fun v M' h => zCi_mono h (fun v2 M'' h2 => ?_))
              rw [h2.1]; exact h2.2
            · rw [if_neg w] at hz ⊢
              have eS : (zya (M 179 3) (M 46) (zW M) (zaa (M 2 p)) (zdi (M 2 (p + 1))) (zdi (M 2 (p + 2))) S1).2 = S1 := by
                revert w
                unfold zya
                split
                · intro q; exact absurd rfl q
                · split
                  · split
                    · intro q; exact absurd rfl q
                    · intro _; rfl
                  · split
                    · intro q; exact absurd rfl q
                    · intro q; exact absurd rfl q
              rw [eS] at A3
              refine ⟨fun z => absurd rfl z, fun _ => ⟨fun z => absurd z (by decide), fun _ => ?_⟩⟩
              rw [zw (x := dn + 0) (by omega) (by omega), Int.add_zero]
              subst hz
              have nx := ends (zac1 (M 2) e p).2 M3 f23 A3 (zSo_m O2 (by omega)) (Or.inr rfl)
              refine zCi_mono (sn (fun q => P (-1) dn 1 q M3) nx) (fun v M' h => zCi_mono h (fun v2 M'' h2 => ?_))
              rw [h2.1]; exact h2.2
          · rw [if_neg q1'] at ht; exact absurd ht Bool.false_ne_true
    have := acts 61 0 0 0 S M1 (by omega) (by omega) (by omega) hok.1 (by rw [hL]; exact hRR) (by omega) zf_rf a1 (zSo_m s3 (by omega)) (by omega)
    exact this
  · -- a fault
    have zr : 0 ≤ zyf (M 1 1) (M 2) ∧ zyf (M 1 1) (M 2) ≤ 60 := by
      have hf2 := hf
      unfold zyf at hf2 ⊢
      rw [hE] at hf2 ⊢
      by_cases w : (zyl (M 2) e 61 0).1 = true ∧ M 1 1 ≤ 60
      · rw [if_pos w] at hf2; exact absurd rfl hf2
      · rw [if_neg w]; omega
    rw [zw (by omega) (by omega)]
    refine e_M_year (fun P19 P64 h19 h64 => rd _ (z_up (z_up M 1 1 0) 179 0 0) (by rw [zu_i (by decide), zu_c (by decide)]; exact t1.symm) (fun j a b => by rw [zu_c (by decide), zu_c (by decide)]; exact ((t4 j a b).1).symm) P19 P64 h19 (fun w => absurd w hf) (fun _ M5 f5 g11 => ⟨rfl, ?_⟩))
    have f : zf [203, 204, 205] [(1, 1), (179, 0), (179, 11), (179, 12), (179, 13), (179, 14), (179, 40)] M M5 := zf_ww (zf_tr (zf_uj (v := 0) (a := 179) (i := 0) (zf_uj (v := 0) (a := 1) (i := 1) (zf_rf (S := []) (J := [(1, 1), (179, 0)])) (by decide)) (by decide)) f5) rfl rfl
    refine ⟨⟨by omega, by omega⟩, iT_0 ?_ g11, iR_f hR f rfl, zJ_n (zJ_f hJ0 f rfl) (by omega)⟩
    rw [zf_a f5 1 1 rfl, zu_c (by decide), zu_s]

/-! house, letter, row and the place where the law keeps their answer: written by gen_out.py -/
theorem q_house {d : Nat} {h x n : Int} {M : zM} (hI : zI n M) (hn : n < 512) (hh : 0 ≤ h ∧ h < M 179 3) (hx : 0 ≤ x ∧ x ≤ 5) : zCi (d + 7) 145 [z_r (10, 0) 0, z_i h, z_i x] M (fun v M1 => zCi (d + 7) 171 [z_r (11, 0) 179, z_i h, z_i x] (z_up M1 222 0 v) (fun v' M2 => zI (n + 1) M2 ∧ M2 179 0 = 0 ∧ M2 222 0 = v')) := by
  have hI0 := hI
  obtain ⟨hb, hT, hR, hJ⟩ := hI
  have hJ0 := hJ
  obtain ⟨i1, i2, i3, i4, i5, i6, i7, i8⟩ := zJ_in hJ
  obtain ⟨c1, c2, c3⟩ := zJ_count hJ
  obtain ⟨j1, -⟩ := hJ
  have e4 : M 27 h = M 183 (64 + h) := by have := j1.2.2.2.2.2.1 h hh.1 (by omega); simp only [Int.zero_add] at this; exact this
  have e5 : M 28 h = M 183 (72 + h) := by have := j1.2.2.2.2.2.2.1 h hh.1 (by omega); simp only [Int.zero_add] at this; exact this
  have h8 : 0 ≤ h ∧ h < 8 := by omega
  -- the reference behind the class
  have ref : ∀ (S : List Nat) (J : List (Nat × Int)) (M1 : zM) (v : Int), zf S J M M1 → zJS S J = true → (S.all (fun c => !(Nat.beq c 2 || Nat.beq c 185 || Nat.beq c 4 || Nat.beq c 180 || Nat.beq c 1 || Nat.beq c 3)) = true) → (∀ M2, zf [192, 193, 194, 195, 196, 197, 198, 199, 200] [(179, 0), (222, 0)] M1 M2 → zI (n + 1) M2) → (x = 0 → v = M 26 h) → (x = 1 → v = M 46 h) → (x = 2 → v = M 27 h) → (x = 3 → v = M 28 h) → (x = 4 → v = zPg (M 179 3) (M 24) (M 26) (M 25) h) → (x = 5 → v = zUh (M 179 3) (M 24) (M 26) (M 25) (M 46) (zW M (M 23 6)) h) → zCi (d + 7) 171 [z_r (11, 0) 179, z_i h, z_i x] (z_up M1 222 0 v) (fun v' M2 => zI (n + 1) M2 ∧ M2 179 0 = 0 ∧ M2 222 0 = v') := by
    intro S J M1 v f1 hd _ hz v0 v1 v2 v3 v4 v5
    have f2 : zf S (J ++ [(179, 0), (222, 0)]) M (z_up (z_up M1 222 0 v) 179 0 0) := zf_uj (zf_uj (zf_w f1 (fun b hb => hb) (fun q hq => Or.inr (List.mem_append_left _ hq))) (List.mem_append_right _ (by decide))) (List.mem_append_right _ (by decide))
    have hd2 : zJS S (J ++ [(179, 0), (222, 0)]) = true := by
      unfold zJS at hd ⊢
      rw [Bool.and_eq_true] at hd ⊢
      refine ⟨hd.1, ?_⟩
      rw [List.all_append, hd.2]; rfl
    have hJ2 := zJ_f hJ0 f2 hd2
    have C := zJS_c f2 hd2
    have PP := zJS_p f2 hd2
    have p1 : (z_up (z_up M1 222 0 v) 179 0 0) 179 3 = M 179 3 := PP (179, 3) (by decide) (by decide)
    have p2 : (z_up (z_up M1 222 0 v) 179 0 0) 23 6 = M 23 6 := PP (23, 6) (by decide) (by decide)
    refine e_M_house (s_M_isHouse (by rw [p1]; exact ⟨c2, c3⟩) ?_)
    rw [p1, if_pos hh]
    refine ⟨fun z => absurd z (by decide), fun _ => s_M_in ?_⟩
    rw [if_pos hx]
    refine ⟨fun _ => s_M_givesNow hJ2 (fun M3 f3 _ t3 u3 => ?_), fun z => absurd (by decide) z⟩
    rw [p1, C 24 rfl, C 25 rfl, C 26 rfl] at t3
    rw [p1, p2, C 24 rfl, C 25 rfl, C 26 rfl, C 46 rfl, zW_f f2 hd2] at u3
    have fin : ∀ v', v = v' → zI (n + 1) M3 ∧ M3 179 0 = 0 ∧ M3 222 0 = v' := by
      intro v' hv
      refine ⟨hz M3 (zf_ww (zf_tr (zf_uj (zf_uj (zf_rf (S := []) (J := [(179, 0), (222, 0)])) (by decide)) (by decide)) f3) rfl rfl), ?_, ?_⟩
      · rw [zf_a f3 179 0 rfl, zu_s]
      · rw [zf_a f3 222 0 rfl, zu_c (by decide), zu_s, hv]
    have m185 : ∀ k, M3 183 k = M 183 k := fun k => by rw [zf_c f3 183 rfl]; exact congrFun (C 183 rfl) k
    rw [zw (x := 8 + h) (by omega) (by omega), zw (x := 64 + h) (by omega) (by omega), zw (x := 72 + h) (by omega) (by omega), m185, m185, m185]
    refine ⟨fun q => ⟨by omega, fin _ ?_⟩, fun q => ⟨h8, fin _ ?_⟩, fun q => ⟨by omega, fin _ ?_⟩, fun q => ⟨by omega, fin _ ?_⟩, fun q => ⟨h8, fin _ ?_⟩, fun q => ⟨h8, fin _ ?_⟩⟩
    · rw [v0 q]; exact (i5.2.1 h hh.1 hh.2).symm
    · rw [v1 q, zf_c f3 182 rfl, C 182 rfl]; exact (i6 h hh.1 hh.2).1.symm
    · rw [v2 q]; exact e4
    · rw [v3 q]; exact e5
    · rw [v4 q]; exact (t3 h hh.1 hh.2).symm
    · rw [v5 (by omega)]; exact (u3 h hh.1 hh.2).symm
  have same : ∀ v, (x = 0 → v = M 26 h) → (x = 1 → v = M 46 h) → (x = 2 → v = M 27 h) → (x = 3 → v = M 28 h) → x ≠ 4 → x ≠ 5 → zCi (d + 7) 171 [z_r (11, 0) 179, z_i h, z_i x] (z_up M 222 0 v) (fun v' M2 => zI (n + 1) M2 ∧ M2 179 0 = 0 ∧ M2 222 0 = v') := fun v v0 v1 v2 v3 n4 n5 =>
    ref [] [] M v zf_rf rfl rfl (fun M2 f2 => zI_f hI0 hn f2 rfl rfl) v0 v1 v2 v3 (fun z => absurd z n4) (fun z => absurd z n5)
  refine e_W_house (s_Town_has ?_)
  rw [c1, if_pos hh]
  refine ⟨fun _ => ⟨fun q => ⟨h8, same _ (fun _ => rfl) (by omega) (by omega) (by omega) (by omega) (by omega)⟩, fun q => ⟨h8, same _ (by omega) (fun _ => rfl) (by omega) (by omega) (by omega) (by omega)⟩, fun q => ⟨h8, same _ (by omega) (by omega) (fun _ => rfl) (by omega) (by omega) (by omega)⟩, fun q => ⟨h8, same _ (by omega) (by omega) (by omega) (fun _ => rfl) (by omega) (by omega)⟩, fun q => ?_, fun q => ?_, fun q => by omega⟩, fun z => absurd (by decide) z⟩
  · refine e_W_placeNow (s_W_write j1 (fun M1 f1 b1 => ⟨h8, ?_⟩))
    refine ref _ _ M1 _ f1 rfl rfl (fun M2 f2 => zI_f hI0 hn (zf_tr f1 f2) rfl rfl) (by omega) (by omega) (by omega) (by omega) (fun _ => b1.2.2.1 h hh.1 hh.2) (by omega)
  · refine s_W_pourToday hJ0 (fun M1 f1 _ _ u1 => ⟨h8, ?_⟩)
    refine ref _ _ M1 _ f1 rfl rfl (fun M2 f2 => zI_f hI0 hn (zf_tr f1 f2) rfl rfl) (by omega) (by omega) (by omega) (by omega) (by omega) (fun _ => u1 h hh.1 hh.2)
theorem zq_I {n v w : Int} {M : zM} (hI : zI n M) (hn : n < 512) : zI (n + 1) (z_up (z_up M 222 0 v) 179 0 w) := zI_f hI hn (S := []) (J := [(222, 0), (179, 0)]) (zf_uj (zf_uj zf_rf (by decide)) (by decide)) rfl rfl
theorem q_letter {d : Nat} {h i n : Int} {M : zM} (hI : zI n M) (hn : n < 512) (hh : 0 ≤ h ∧ h < M 179 3) (hi : 0 ≤ i ∧ i < M 26 h) : zCi (d + 3) 146 [z_r (10, 0) 0, z_i h, z_i i] M (fun v M1 => zCi (d + 3) 187 [z_r (11, 0) 179, z_i h, z_i i] (z_up M1 222 0 v) (fun v' M2 => zI (n + 1) M2 ∧ M2 179 0 = 0 ∧ M2 222 0 = v')) := by
  have hI0 := hI
  obtain ⟨hb, hT, hR, hJ⟩ := hI
  obtain ⟨ht, hr⟩ := tR_Rw hJ.1
  have ht : zTn (M 179 3) (M 24) (M 26) (M 25) := ht
  have hr : zRw M 183 (M 179 3) (M 24) (M 26) (M 25) := hr
  have h8 := ht.1
  have hl := ht.2.2.1 h hh.1 hh.2
  refine e_W_letter (s_Town_has ?_)
  rw [hJ.1.1, if_pos hh]
  refine ⟨fun z => absurd z (by decide), fun _ => ⟨fun z => absurd z (by omega), fun _ => ⟨by omega, fun _ => s_Town_letterAt (by omega) hi.1 (by show M 26 h ≤ 6; omega) ?_, fun z => absurd hi.2 z⟩⟩⟩
  rw [if_pos (show i < M (23 + 3) h from hi.2)]
  refine e_M_letter (s_M_isHouse (by rw [zu_i (by decide), zu_c (by decide)]; exact h8) ?_)
  rw [zu_i (by decide), zu_c (by decide), if_pos hh, zw (x := 8 + h) (by omega) (by omega), zu_c (by decide), zu_c (by decide), hr.2.1 h hh.1 hh.2, zw (by omega) (by omega)]
  refine ⟨fun z => absurd z (by decide), fun _ => ⟨by omega, s_M_in ?_⟩⟩
  rw [if_pos (by omega)]
  refine ⟨fun _ => s_M_letterOf (by omega) (by omega) (by decide) ⟨zq_I hI0 hn, zu_s _ _ _ _, ?_⟩, fun z => absurd (by decide) z⟩
  rw [zu_c (by decide), zu_s, zu_c (by decide), zu_c (by decide)]
  exact (hr.2.2 h i hh.1 hh.2 hi.1 hi.2).symm
theorem q_row {d : Nat} {i n : Int} {M : zM} (hI : zI n M) (hn : n < 512) (hi : 0 ≤ i ∧ i < M 3 1) : zCl (d + 2) 147 [z_r (10, 0) 0, z_i i] M (fun v M1 => zCl (d + 2) 254 [z_r (11, 0) 179, z_i i] (z_up M1 222 0 v) (fun v' M2 => zI (n + 1) M2 ∧ M2 179 0 = 0 ∧ M2 222 0 = v')) := by
  have hI0 := hI
  obtain ⟨hb, hT, ⟨r1, r2, r3, r4⟩, hJ⟩ := hI
  refine e_W_row ⟨fun z => absurd z (by omega), fun _ => ⟨fun _ => ⟨by omega, ?_⟩, fun z => absurd hi.2 z⟩⟩
  refine e_M_row (s_M_in ?_)
  rw [zu_i (by decide), zu_c (by decide), ← r1, zw (by omega) (by omega), if_pos (by omega)]
  refine ⟨fun _ => ⟨by omega, zq_I hI0 hn, zu_s _ _ _ _, ?_⟩, fun z => absurd (by decide) z⟩
  rw [zu_c (by decide), zu_s, zu_c (by decide), zu_c (by decide)]
  exact r4 i hi.1 hi.2
theorem zo_house {l : Launch} {D : va_G} {cA : Nat → ClassId} {ad adK adV : Nat → Nat} {M : zM} {d : Nat} {n : Int} (hinj : ∀ i j, i < z_kt.length → j < z_kt.length → ad i = ad j → i = j) (hC : z_HC l D cA ad adK adV (z_rm (d + 7)) (z_C (d + 7))) (hC5 : z_HC l D cA ad adK adV (z_rm (d + 6)) (z_C (d + 6))) (hl : l.stackTraces = false) (hm : z_mok M) (hI : zI n M) (hn : n < 512) {h x : Int} (hh : z_ri h) (hx : z_ri x) : ∀ sz : Nat, Met l ⟨"WaterByLettersLaw", "house", "(LWaterByLetters;II[J)I"⟩ (Cond.codeWith ⟨"WaterByLettersLaw", "house", "(LWaterByLetters;II[J)I"⟩ method_3_code 5 (some .int) [(0, 10, 13, 13)] :: z_tb) (zt_rm (d + 8)) (va_Pc ([z_r (10, 0) 0, z_i h, z_i x, z_r (101, 1) 222].map (z_val ad adK)) (zt_B D cA ad adK adV M sz)) (z_Qg D cA ad adK (fun r M1 => ∃ k, r = some (z_i k) ∧ (k = 0 ∨ k = 1) ∧ zCi (d + 7) 171 [z_r (11, 0) 179, z_i h, z_i x] M1 (fun v' M2 => zI (n + 1) M2 ∧ M2 179 0 = k ∧ (k = 0 → M2 222 0 = v'))) (va_A (z_w ad cA M) sz)) 1 6 (va_A (z_w ad cA M) sz) := by
  obtain ⟨c1, c2, c3⟩ := zJ_count hI.2.2.2
  by_cases hv : (0 ≤ h ∧ h < M 179 3) ∧ 0 ≤ x ∧ x ≤ 5
  · exact zw_house_a (d := d + 1) hinj hC hm hh hx (zCi_mono (q_house hI hn hv.1 hv.2) (fun v M1 q => ⟨0, rfl, Or.inl rfl, zCi_mono q (fun v' M2 z => ⟨z.1, z.2.1, fun _ => z.2.2⟩)⟩))
  · exact zw_house_t (d := d + 1) hinj hC hm hl hC5 hh hx (by rw [c1]; exact hv) ⟨1, rfl, Or.inr rfl, zCi_mono (r_house hI hn hv) (fun v' M2 z => ⟨z.1, z.2, fun q => absurd q (by decide)⟩)⟩
theorem zo_letter {l : Launch} {D : va_G} {cA : Nat → ClassId} {ad adK adV : Nat → Nat} {M : zM} {d : Nat} {n : Int} (hinj : ∀ i j, i < z_kt.length → j < z_kt.length → ad i = ad j → i = j) (hC : z_HC l D cA ad adK adV (z_rm (d + 7)) (z_C (d + 7))) (hC5 : z_HC l D cA ad adK adV (z_rm (d + 6)) (z_C (d + 6))) (hl : l.stackTraces = false) (hm : z_mok M) (hI : zI n M) (hn : n < 512) {h x : Int} (hh : z_ri h) (hx : z_ri x) : ∀ sz : Nat, Met l ⟨"WaterByLettersLaw", "letter", "(LWaterByLetters;II[J)I"⟩ (Cond.codeWith ⟨"WaterByLettersLaw", "letter", "(LWaterByLetters;II[J)I"⟩ method_4_code 5 (some .int) [(0, 10, 13, 13)] :: z_tb) (zt_rm (d + 8)) (va_Pc ([z_r (10, 0) 0, z_i h, z_i x, z_r (101, 1) 222].map (z_val ad adK)) (zt_B D cA ad adK adV M sz)) (z_Qg D cA ad adK (fun r M1 => ∃ k, r = some (z_i k) ∧ (k = 0 ∨ k = 1) ∧ zCi (d + 7) 187 [z_r (11, 0) 179, z_i h, z_i x] M1 (fun v' M2 => zI (n + 1) M2 ∧ M2 179 0 = k ∧ (k = 0 → M2 222 0 = v'))) (va_A (z_w ad cA M) sz)) 1 6 (va_A (z_w ad cA M) sz) := by
  obtain ⟨c1, c2, c3⟩ := zJ_count hI.2.2.2
  by_cases hv : (0 ≤ h ∧ h < M 179 3) ∧ 0 ≤ x ∧ x < M 26 h
  · exact zw_letter_a (d := d + 1) hinj hC hm hh hx (zCi_mono (q_letter (d := d + 4) hI hn hv.1 hv.2) (fun v M1 q => ⟨0, rfl, Or.inl rfl, zCi_mono q (fun v' M2 z => ⟨z.1, z.2.1, fun _ => z.2.2⟩)⟩))
  · exact zw_letter_t (d := d + 1) hinj hC hm hl hC5 hh hx (by rw [c1]; omega) (by rw [c1]; exact hv) ⟨1, rfl, Or.inr rfl, zCi_mono (r_letter (d := d + 4) hI hn hv) (fun v' M2 z => ⟨z.1, z.2, fun q => absurd q (by decide)⟩)⟩
theorem zo_row {l : Launch} {D : va_G} {cA : Nat → ClassId} {ad adK adV : Nat → Nat} {M : zM} {d : Nat} {n : Int} (hinj : ∀ i j, i < z_kt.length → j < z_kt.length → ad i = ad j → i = j) (hC : z_HC l D cA ad adK adV (z_rm (d + 7)) (z_C (d + 7))) (hC5 : z_HC l D cA ad adK adV (z_rm (d + 6)) (z_C (d + 6))) (hl : l.stackTraces = false) (hm : z_mok M) (hI : zI n M) (hn : n < 512) {x : Int} (hx : z_ri x) : ∀ sz : Nat, Met l ⟨"WaterByLettersLaw", "row", "(LWaterByLetters;I[J)I"⟩ (Cond.codeWith ⟨"WaterByLettersLaw", "row", "(LWaterByLetters;I[J)I"⟩ method_5_code 4 (some .int) [(0, 8, 11, 13)] :: z_tb) (zt_rm (d + 8)) (va_Pc ([z_r (10, 0) 0, z_i x, z_r (101, 1) 222].map (z_val ad adK)) (zt_B D cA ad adK adV M sz)) (z_Qg D cA ad adK (fun r M1 => ∃ k, r = some (z_i k) ∧ (k = 0 ∨ k = 1) ∧ zCl (d + 7) 254 [z_r (11, 0) 179, z_i x] M1 (fun v' M2 => zI (n + 1) M2 ∧ M2 179 0 = k ∧ (k = 0 → M2 222 0 = v'))) (va_A (z_w ad cA M) sz)) 1 6 (va_A (z_w ad cA M) sz) := by
  by_cases hv : 0 ≤ x ∧ x < M 3 1
  · exact zw_row_a (d := d + 1) hinj hC hm hx (zCl_mono (q_row (d := d + 5) hI hn hv) (fun v M1 q => ⟨0, rfl, Or.inl rfl, zCl_mono q (fun v' M2 z => ⟨z.1, z.2.1, fun _ => z.2.2⟩)⟩))
  · exact zw_row_t (d := d + 1) hinj hC hm hl hC5 hx hv ⟨1, rfl, Or.inr rfl, zCl_mono (r_row (d := d + 5) hI hn hv) (fun v' M2 z => ⟨z.1, z.2, fun q => absurd q (by decide)⟩)⟩

/-! house() -/
theorem p_house {d : Nat} {h x n : Int} {M : zM} (hI : zI n M) (hn : n < 512) (hh : 0 ≤ h ∧ h < M 179 3) (hx : 0 ≤ x ∧ x ≤ 5) : zCi (d + 7) 145 [z_r (10, 0) 0, z_i h, z_i x] M (fun v M1 => zCi (d + 7) 171 [z_r (11, 0) 179, z_i h, z_i x] M1 (fun v' M2 => v = v' ∧ zI (n + 1) M2 ∧ M2 179 0 = 0)) := by
  have hI0 := hI
  obtain ⟨hb, hT, hR, hJ⟩ := hI
  have hJ0 := hJ
  obtain ⟨i1, i2, i3, i4, i5, i6, i7, i8⟩ := zJ_in hJ
  obtain ⟨c1, c2, c3⟩ := zJ_count hJ
  obtain ⟨j1, -⟩ := hJ
  have e4 : M 27 h = M 183 (64 + h) := by have := j1.2.2.2.2.2.1 h hh.1 (by omega); simp only [Int.zero_add] at this; exact this
  have e5 : M 28 h = M 183 (72 + h) := by have := j1.2.2.2.2.2.2.1 h hh.1 (by omega); simp only [Int.zero_add] at this; exact this
  have h8 : 0 ≤ h ∧ h < 8 := by omega
  -- the reference behind the class
  have ref : ∀ (S : List Nat) (J : List (Nat × Int)) (M1 : zM) (v : Int), zf S J M M1 → zJS S J = true → (S.all (fun c => !(Nat.beq c 2 || Nat.beq c 185 || Nat.beq c 4 || Nat.beq c 180 || Nat.beq c 1 || Nat.beq c 3)) = true) → (∀ M2, zf [192, 193, 194, 195, 196, 197, 198, 199, 200] [(179, 0)] M1 M2 → zI (n + 1) M2) → (x = 0 → v = M 26 h) → (x = 1 → v = M 46 h) → (x = 2 → v = M 27 h) → (x = 3 → v = M 28 h) → (x = 4 → v = zPg (M 179 3) (M 24) (M 26) (M 25) h) → (x = 5 → v = zUh (M 179 3) (M 24) (M 26) (M 25) (M 46) (zW M (M 23 6)) h) → zCi (d + 7) 171 [z_r (11, 0) 179, z_i h, z_i x] M1 (fun v' M2 => v = v' ∧ zI (n + 1) M2 ∧ M2 179 0 = 0) := by
    intro S J M1 v f1 hd _ hz v0 v1 v2 v3 v4 v5
    have f2 : zf S (J ++ [(179, 0)]) M (z_up M1 179 0 0) := zf_uj (zf_w f1 (fun b hb => hb) (fun q hq => Or.inr (List.mem_append_left _ hq))) (List.mem_append_right _ (by decide))
    have hd2 : zJS S (J ++ [(179, 0)]) = true := by
      unfold zJS at hd ⊢
      rw [Bool.and_eq_true] at hd ⊢
      refine ⟨hd.1, ?_⟩
      rw [List.all_append, hd.2]; rfl
    have hJ2 := zJ_f hJ0 f2 hd2
    have C := zJS_c f2 hd2
    have PP := zJS_p f2 hd2
    have p1 : (z_up M1 179 0 0) 179 3 = M 179 3 := PP (179, 3) (by decide) (by decide)
    have p2 : (z_up M1 179 0 0) 23 6 = M 23 6 := PP (23, 6) (by decide) (by decide)
    refine e_M_house (s_M_isHouse (by rw [p1]; exact ⟨c2, c3⟩) ?_)
    rw [p1, if_pos hh]
    refine ⟨fun z => absurd z (by decide), fun _ => s_M_in ?_⟩
    rw [if_pos hx]
    refine ⟨fun _ => s_M_givesNow hJ2 (fun M3 f3 _ t3 u3 => ?_), fun z => absurd (by decide) z⟩
    rw [p1, C 24 rfl, C 25 rfl, C 26 rfl] at t3
    rw [p1, p2, C 24 rfl, C 25 rfl, C 26 rfl, C 46 rfl, zW_f f2 hd2] at u3
    have fin : zI (n + 1) M3 ∧ M3 179 0 = 0 := by
      refine ⟨hz M3 (zf_ww (zf_tr (zf_uj (zf_rf (S := []) (J := [(179, 0)])) (by decide)) f3) rfl rfl), ?_⟩
      rw [zf_a f3 179 0 rfl, zu_s]
    have m185 : ∀ k, M3 183 k = M 183 k := fun k => by rw [zf_c f3 183 rfl]; exact congrFun (C 183 rfl) k
    rw [zw (x := 8 + h) (by omega) (by omega), zw (x := 64 + h) (by omega) (by omega), zw (x := 72 + h) (by omega) (by omega), m185, m185, m185]
    refine ⟨fun q => ⟨by omega, ?_, fin⟩, fun q => ⟨h8, ?_, fin⟩, fun q => ⟨by omega, ?_, fin⟩, fun q => ⟨by omega, ?_, fin⟩, fun q => ⟨h8, ?_, fin⟩, fun q => ⟨h8, ?_, fin⟩⟩
    · rw [v0 q]; exact (i5.2.1 h hh.1 hh.2).symm
    · rw [v1 q, zf_c f3 182 rfl, C 182 rfl]; exact (i6 h hh.1 hh.2).1.symm
    · rw [v2 q]; exact e4
    · rw [v3 q]; exact e5
    · rw [v4 q]; exact (t3 h hh.1 hh.2).symm
    · rw [v5 (by omega)]; exact (u3 h hh.1 hh.2).symm
  have same : ∀ v, (x = 0 → v = M 26 h) → (x = 1 → v = M 46 h) → (x = 2 → v = M 27 h) → (x = 3 → v = M 28 h) → x ≠ 4 → x ≠ 5 → zCi (d + 7) 171 [z_r (11, 0) 179, z_i h, z_i x] M (fun v' M2 => v = v' ∧ zI (n + 1) M2 ∧ M2 179 0 = 0) := fun v v0 v1 v2 v3 n4 n5 =>
    ref [] [] M v zf_rf rfl rfl (fun M2 f2 => zI_f hI0 hn f2 rfl rfl) v0 v1 v2 v3 (fun z => absurd z n4) (fun z => absurd z n5)
  refine e_W_house (s_Town_has ?_)
  rw [c1, if_pos hh]
  refine ⟨fun _ => ⟨fun q => ⟨h8, same _ (fun _ => rfl) (by omega) (by omega) (by omega) (by omega) (by omega)⟩, fun q => ⟨h8, same _ (by omega) (fun _ => rfl) (by omega) (by omega) (by omega) (by omega)⟩, fun q => ⟨h8, same _ (by omega) (by omega) (fun _ => rfl) (by omega) (by omega) (by omega)⟩, fun q => ⟨h8, same _ (by omega) (by omega) (by omega) (fun _ => rfl) (by omega) (by omega)⟩, fun q => ?_, fun q => ?_, fun q => by omega⟩, fun z => absurd (by decide) z⟩
  · refine e_W_placeNow (s_W_write j1 (fun M1 f1 b1 => ⟨h8, ?_⟩))
    refine ref _ _ M1 _ f1 rfl rfl (fun M2 f2 => zI_f hI0 hn (zf_tr f1 f2) rfl rfl) (by omega) (by omega) (by omega) (by omega) (fun _ => b1.2.2.1 h hh.1 hh.2) (by omega)
  · refine s_W_pourToday hJ0 (fun M1 f1 _ _ u1 => ⟨h8, ?_⟩)
    refine ref _ _ M1 _ f1 rfl rfl (fun M2 f2 => zI_f hI0 hn (zf_tr f1 f2) rfl rfl) (by omega) (by omega) (by omega) (by omega) (by omega) (fun _ => u1 h hh.1 hh.2)
/-- where the class throws, the reference refuses -/
theorem r_house {d : Nat} {h x n : Int} {M : zM} (hI : zI n M) (hn : n < 512) (hno : ¬ ((0 ≤ h ∧ h < M 179 3) ∧ 0 ≤ x ∧ x ≤ 5)) : zCi (d + 7) 171 [z_r (11, 0) 179, z_i h, z_i x] M (fun _ M2 => zI (n + 1) M2 ∧ M2 179 0 = 1) := by
  have hI0 := hI
  obtain ⟨hb, hT, hR, hJ⟩ := hI
  obtain ⟨c1, c2, c3⟩ := zJ_count hJ
  have fin : zI (n + 1) (z_up (z_up M 179 0 0) 179 0 1) ∧ (z_up (z_up M 179 0 0) 179 0 1) 179 0 = 1 := ⟨zI_f hI0 hn (S := []) (J := [(179, 0)]) (zf_uj (zf_uj zf_rf (by decide)) (by decide)) rfl rfl, zu_s _ _ _ _⟩
  refine e_M_house (s_M_isHouse (by rw [zu_i (by decide)]; exact ⟨c2, c3⟩) ?_)
  rw [zu_i (by decide)]
  by_cases hh : 0 ≤ h ∧ h < M 179 3
  · rw [if_pos hh]
    refine ⟨fun z => absurd z (by decide), fun _ => s_M_in ?_⟩
    rw [if_neg (fun z => hno ⟨hh, z⟩)]
    exact ⟨fun z => absurd rfl z, fun _ => e_M_refuse fin⟩
  · rw [if_neg hh]
    exact ⟨fun _ => e_M_refuse fin, fun z => absurd rfl z⟩

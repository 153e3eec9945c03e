/-! today: the yield, count(); the cups; yields(), stops(), house() -/
def zW (M : zM) (x : Int) : Int := zYd (M 5 1) (M 6) (M 45 2) (M 47) (M 179 3) (M 46) x
theorem zW_r (M : zM) (x : Int) : 0 ≤ zW M x ∧ zW M x ≤ 99 := zYd_r _ _ _ _ _ _ _
theorem zW_f {S : List Nat} {J : List (Nat × Int)} {M M' : zM} (h : zf S J M M') (hd : zJS S J = true) : zW M' = zW M := by
  have C := zJS_c h hd
  have P : ∀ p : Nat × Int, p ∈ zJp → zJo.any (fun b => Nat.beq p.1 b) = true → M' p.1 p.2 = M p.1 p.2 := zJS_p h hd
  have p1 : M' 5 1 = M 5 1 := P (5, 1) (by decide) (by decide)
  have p2 : M' 45 2 = M 45 2 := P (45, 2) (by decide) (by decide)
  have p3 : M' 179 3 = M 179 3 := P (179, 3) (by decide) (by decide)
  funext x
  unfold zW
  rw [p1, p2, p3, C 6 rfl, C 47 rfl, C 46 rfl]
theorem zJ_in {n : Int} {M : zM} (hJ : zJ n M) : (1 ≤ M 45 2 ∧ M 45 2 ≤ 20) ∧ (∀ i, 0 ≤ i → i < M 45 2 → 0 ≤ M 47 i ∧ M 47 i ≤ 9) ∧ (∀ h, 0 ≤ h → h < M 179 3 → 0 ≤ M 46 h ∧ M 46 h ≤ 9) ∧ zTn (M 179 3) (M 24) (M 26) (M 25) ∧ zRw M 183 (M 179 3) (M 24) (M 26) (M 25) ∧ (∀ h, 0 ≤ h → h < M 179 3 → M 182 h = M 46 h ∧ 0 ≤ M 46 h ∧ M 46 h ≤ 9) ∧ M 183 80 = M 23 6 ∧ (0 ≤ M 23 6 ∧ M 23 6 ≤ 270 * n) := by
  obtain ⟨ht, hr⟩ := tR_Rw hJ.1
  obtain ⟨j1, j2, ⟨s1, s2, s3, s4⟩, -⟩ := hJ
  refine ⟨⟨s2, s3⟩, fun i a b => (s4 i a b).2, fun h a b => by have := j2 h a b; omega, ht, hr, fun h a b => by have := j2 h a b; exact ⟨this.1.symm, by omega, by omega⟩, ?_, j1.2.1.2.1⟩
  have := j1.2.2.2.2.2.2.2
  simp only [Int.zero_add] at this
  exact this.symm
theorem s_W_yieldAt {d : Nat} {n x : Int} {M : zM} {F : Int → zM → Prop} (hJ : zJ n M) (hx : 0 ≤ x) (H : ∀ M', zf [7, 8, 9, 10, 11, 12, 13] [(5, 9)] M M' → F (zW M x) M') : zCi (d + 4) 47 [z_r (4, 0) 45, z_r (6, 0) 5, z_i (M 23 5), z_i x] M F := by
  obtain ⟨i1, i2, i3, i4, i5, -⟩ := zJ_in hJ
  obtain ⟨c1, c2, c3⟩ := zJ_count hJ
  rw [c1]
  exact s_Pump_yieldOnV hx i1 i2 ⟨c2, c3⟩ i3 hJ.2.2.2.1 H
theorem s_M_yieldAt {d : Nat} {n x : Int} {M : zM} {F : Int → zM → Prop} (hJ : zJ n M) (hx : 0 ≤ x) (H : ∀ M', zf [192, 193] [] M M' → F (zW M x) M') : zCi (d + 4) 181 [z_r (11, 0) 179, z_i x] M F := by
  obtain ⟨c1, c2, c3⟩ := zJ_count hJ
  obtain ⟨j1, j2, ⟨s1, s2, s3, s4⟩, j4, -⟩ := hJ
  refine s_M_yieldOnV hx (by omega) (fun i a b => by have := s4 i a (by omega); omega) ⟨c2, c3⟩ (fun h a b => by have := j2 h a b; omega) j4 (fun M' f => ?_)
  have e : zYd (M 5 1) (M 6) (M 179 5) (M 181) (M 179 3) (M 182) x = zW M x := by
    unfold zW
    rw [s1]
    exact (zYd_c hx (by omega) (fun i a b => (s4 i a (by omega)).1) (fun h a b => (j2 h a b).1)).symm
  rw [e]
  exact H M' f
theorem p_count {d : Nat} {x n : Int} {M : zM} (hI : zI n M) (hn : n < 512) : zQ (d + 6) 143 253 [z_r (10, 0) 0, z_i x] [z_r (11, 0) 179, z_i x] n M := by
  have hJ := hI.2.2.2
  obtain ⟨-, -, -, -, -, -, i7, i8⟩ := zJ_in hJ
  refine p_count_of hI hn (e_W_yieldToday (s_W_yieldAt hJ i8.1 (fun M1 f1 => ?_)))
  have f2 : zf [7, 8, 9, 10, 11, 12, 13] [(5, 9), (179, 0)] M (z_up M1 179 0 0) := zf_uj (zf_ww f1 (by decide) (by decide)) (by decide)
  have hJ2 := zJ_f hJ f2 rfl
  have e80 : (z_up M1 179 0 0) 183 80 = M 23 6 := by rw [zf_c f2 183 rfl]; exact i7
  rw [e80]
  refine s_M_yieldAt hJ2 i8.1 (fun M3 f3 => ⟨by rw [zW_f f2 rfl], zI_f hI hn (zf_tr f2 f3) rfl rfl⟩)
/-- today's cups, in the class -/
theorem s_W_pourToday {d : Nat} {n : Int} {M : zM} {F : zM → Prop} (hJ : zJ n M) (H : ∀ M', zf [36, 37, 38, 39, 48, 7, 8, 9, 10, 11, 12, 13] [(35, 4), (45, 4), (45, 5), (5, 9)] M M' → (∀ k, 0 ≤ k → k < M 179 3 → M' 36 k = zTg (M 179 3) (M 24) (M 26) (M 25) k) → (∀ h, 0 ≤ h → h < M 179 3 → M' 37 h = zPg (M 179 3) (M 24) (M 26) (M 25) h) → (∀ h, 0 ≤ h → h < M 179 3 → M' 48 h = zUh (M 179 3) (M 24) (M 26) (M 25) (M 46) (zW M (M 23 6)) h) → F M') : zCv (d + 6) 72 [z_r (10, 0) 0] M F := by
  obtain ⟨i1, i2, i3, i4, i5, i6, i7, i8⟩ := zJ_in hJ
  refine e_W_pourToday (s_W_write hJ.1 (fun M1 f1 b1 => ?_))
  have hJ1 := zJ_f hJ f1 rfl
  have ed : M1 23 6 = M 23 6 := zf_a f1 23 6 rfl
  refine e_W_yieldToday (s_W_yieldAt hJ1 (by rw [ed]; exact i8.1) (fun M2 f2 => ?_))
  rw [ed, zW_f f1 rfl]
  have b2 : zBk M2 35 (M 179 3) (zrk (M 24)) (M 26) (M 25) := by
    unfold zBk at b1 ⊢
    have q1 : M2 (35 + 1) = M1 (35 + 1) := zf_c f2 36 rfl
    have q2 : M2 (35 + 2) = M1 (35 + 2) := zf_c f2 37 rfl
    have q3 : M2 (35 + 3) = M1 (35 + 3) := zf_c f2 38 rfl
    rw [zf_a f2 35 4 rfl, q1, q2, q3]; exact b1
  have f12 := zf_tr f1 f2
  have e46 : M2 46 = M 46 := zf_c f12 46 rfl
  refine s_Pump_pourG i4 b2 (by rw [e46]; exact i3) (zW_r _ _) (fun M3 f3 _ c3 _ => ?_)
  rw [e46] at c3
  refine H M3 (zf_ww (zf_tr f12 f3) rfl rfl) (fun k a b => ?_) (fun h a b => ?_) c3
  · rw [zf_c f3 36 rfl]; exact zbk_gu i4 b2.2.2.2 k a b
  · rw [zf_c f3 37 rfl]; exact b2.2.2.1 h a b
/-- today's cups, in the reference -/
theorem s_M_givesNow {d : Nat} {n : Int} {M : zM} {F : zM → Prop} (hJ : zJ n M) (H : ∀ M', zf [192, 193, 194, 195, 196, 197, 198, 199, 200] [] M M' → (∀ k, 0 ≤ k → k < M 179 3 → M' 199 k = zTg (M 179 3) (M 24) (M 26) (M 25) k) → (∀ h, 0 ≤ h → h < M 179 3 → M' 198 h = zPg (M 179 3) (M 24) (M 26) (M 25) h) → (∀ h, 0 ≤ h → h < M 179 3 → M' 200 h = zUh (M 179 3) (M 24) (M 26) (M 25) (M 46) (zW M (M 23 6)) h) → F M') : zCv (d + 5) 174 [z_r (11, 0) 179] M F := by
  obtain ⟨i1, i2, i3, i4, i5, i6, i7, i8⟩ := zJ_in hJ
  refine e_M_givesNow (s_M_laysBook (ord := M 24) (len := M 26) (nam := M 25) (by decide) (by decide) i4 i5 (fun M1 f1 _ _ b1 => ⟨by decide, ?_⟩))
  have hJ1 := zJ_f hJ f1 rfl
  have ed : M1 183 80 = M 23 6 := by rw [zf_c f1 183 rfl]; exact i7
  rw [ed]
  refine s_M_yieldAt hJ1 i8.1 (fun M2 f2 => ?_)
  rw [zW_f f1 rfl]
  have f12 := zf_tr f1 f2
  have e3 : M2 179 3 = M 179 3 := zf_a f12 179 3 rfl
  have b2 : zBr M2 (M 179 3) (zrk (M 24)) (M 26) (M 25) := by
    unfold zBr at b1 ⊢
    rw [zf_c f2 198 rfl, zf_c f2 199 rfl]; exact b1
  refine s_M_givesG (ord := M 24) (len := M 26) (nam := M 25) (th := M 46) (by rw [e3]; exact i4) (by rw [e3]; exact b2) (fun h a b => by rw [zf_c f12 182 rfl]; exact i6 h a (by omega)) (zW_r _ _) (fun M3 f3 c3 => ?_)
  rw [e3] at c3
  refine H M3 (zf_ww (zf_tr f12 f3) rfl rfl) (fun k a b => ?_) (fun h a b => ?_) c3
  · rw [zf_c f3 199 rfl]; exact zbk_gu i4 b2.2 k a b
  · rw [zf_c f3 198 rfl]; exact b2.1 h a b

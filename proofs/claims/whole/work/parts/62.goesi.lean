/-! days, one after the other, in the reference; days(), dry() -/
/-- what the reference needs for its days in the row Q -/
def zRs (Q : Nat) (c : Int) (ord len nam th W : Int → Int) (B : zM) : Prop := B 179 3 = c ∧ zTn c ord len nam ∧ zRw B Q c ord len nam ∧ (∀ h, 0 ≤ h → h < c → B 182 h = th h ∧ 0 ≤ th h ∧ th h ≤ 9) ∧ (1 ≤ B 179 5 ∧ B 179 5 ≤ 20) ∧ (∀ i, 0 ≤ i → i < B 179 5 → 0 ≤ B 181 i ∧ B 181 i ≤ 9) ∧ (∃ e sg, iU e sg (B 179 22) (B 190) ∧ ∀ x, 0 ≤ x → zYd e sg (B 179 5) (B 181) c (B 182) x = W x) ∧ (0 ≤ B Q 80 ∧ B Q 80 ≤ 1000000) ∧ (∀ h, 0 ≤ h → h < c → (0 ≤ B Q (64 + h) ∧ B Q (64 + h) ≤ 1000000) ∧ 0 ≤ B Q (72 + h) ∧ B Q (72 + h) ≤ 10000000) ∧ ∀ x, 0 ≤ W x ∧ W x ≤ 99
/-- behind i days -/
def zRi (Q : Nat) (c : Int) (ord len nam th W : Int → Int) (B : zM) (i : Nat) (M : zM) : Prop := zf [Q, 192, 193, 194, 195, 196, 197, 198, 199, 200] [(179, 35)] B M ∧ (∀ j, j < 64 ∨ 80 < j → M Q j = B Q j) ∧ M Q 80 = B Q 80 + i ∧ (∀ h, 0 ≤ h → h < c → M Q (72 + h) = B Q (72 + h) + zDa c ord len nam th W (B Q 80) i h) ∧ (∀ h, 0 ≤ h → h < c → M Q (64 + h) = B Q (64 + h) + zDb c ord len nam th W (B Q 80) i h) ∧ (∀ h, c ≤ h → h < 8 → M Q (64 + h) = B Q (64 + h) ∧ M Q (72 + h) = B Q (72 + h)) ∧ (0 ≤ B 179 35 ∧ B 179 35 ≤ 1000000 → M 179 35 = B 179 35 + zDl c ord len nam th W (B Q 80) i)
theorem zRi_0 {Q : Nat} {c : Int} {ord len nam th W : Int → Int} {B : zM} : zRi Q c ord len nam th W B 0 B :=
  ⟨zf_rf, fun _ _ => rfl, by simp, fun _ _ _ => by show _ = _ + (0 : Int); omega, fun _ _ _ => by show _ = _ + (0 : Int); omega, fun _ _ _ => ⟨rfl, rfl⟩, fun _ => by show _ = _ + (0 : Int); omega⟩
/-- from the invariant, where the class's own cells may have moved -/
theorem zRs_of {n : Int} {Q : Nat} {M B : zM} (hJ : zJ n M) (hn : n ≤ 512) (e3 : B 179 3 = M 179 3) (eQ : ∀ k, 0 ≤ k → k < 81 → B Q k = M 183 k) (e184 : B 182 = M 182) (e5 : B 179 5 = M 179 5) (e183 : B 181 = M 181) (e22 : B 179 22 = M 179 22) (e192 : B 190 = M 190) : zRs Q (M 179 3) (M 24) (M 26) (M 25) (M 46) (zW M) B := by
  obtain ⟨i1, i2, i3, i4, i5, i6, i7, i8⟩ := zJ_in hJ
  obtain ⟨j1, j2, ⟨s1, s2, s3, s4⟩, j4, -⟩ := hJ
  obtain ⟨w1, ⟨g1, g2, g3, g4, g5, g6, g7, g8⟩, q1, q2, q3, q4, q5, q6⟩ := j1
  have g8 : ∀ h, 0 ≤ h → h < 8 → (0 ≤ M 27 h ∧ M 27 h ≤ M 23 6) ∧ 0 ≤ M 28 h ∧ M 28 h ≤ 9 * M 23 6 := g8
  have q4 : ∀ h, 0 ≤ h → h < 8 → M 27 h = M 183 (64 + h) := fun h a b => by have := q4 h a b; simp only [Int.zero_add] at this; exact this
  have q5 : ∀ h, 0 ≤ h → h < 8 → M 28 h = M 183 (72 + h) := fun h a b => by have := q5 h a b; simp only [Int.zero_add] at this; exact this
  refine ⟨e3, i4, ⟨fun i a b => ?_, fun h a b => ?_, fun h i a b a' b' => ?_⟩, fun h a b => by rw [e184]; exact i6 h a b, by rw [e5, ← s1]; exact ⟨s2, s3⟩, fun i a b => ?_, ⟨M 5 1, M 6, by rw [e22, e192]; exact j4, fun x hx => ?_⟩, ?_, fun h a b => ?_, zW_r M⟩
  · rw [eQ i a (by omega)]; exact i5.1 i a b
  · rw [eQ _ (by omega) (by omega)]; exact i5.2.1 h a b
  · have := i4.2.2.1 h a b
    rw [eQ _ (by omega) (by omega)]; exact i5.2.2 h i a b a' b'
  · rw [e183]; rw [e5, ← s1] at b; have := s4 i a b; omega
  · unfold zW
    rw [e5, e183, e184, s1]
    exact (zYd_c hx (by omega) (fun i a b => (s4 i a (by omega)).1) (fun h a b => (j2 h a b).1)).symm
  · rw [eQ 80 (by omega) (by omega), i7]; omega
  · rw [eQ _ (by omega) (by omega), eQ _ (by omega) (by omega), ← q4 h a (by omega), ← q5 h a (by omega)]
    have := g8 h a (by omega)
    omega
theorem s_goes_185 {d i : Nat} {c : Int} {ord len nam th W : Int → Int} {B M : zM} {F : Int → zM → Prop} (hs : zRs 183 c ord len nam th W B) (hi : i ≤ 1000) (hr : zRi 183 c ord len nam th W B i M) (H : ∀ M', zRi 183 c ord len nam th W B (i + 1) M' → F (zst (zUd c ord len nam th (W (B 183 80 + i))) c.toNat) M') : zCi (d + 5) 200 [z_r (11, 0) 179, z_r (100, 81) 183] M F := by
  obtain ⟨s1, s2, s3, s4, s5, s6, ⟨e, sg, s7, s8⟩, s9, s10, s11⟩ := hs
  obtain ⟨r1, r2, r3, r4, r5, r6, r7⟩ := hr
  have e3 : M 179 3 = c := by rw [zf_a r1 179 3 rfl]; exact s1
  have e5 : M 179 5 = B 179 5 := zf_a r1 179 5 rfl
  have e183 : M 181 = B 181 := zf_c r1 181 rfl
  have e184 : M 182 = B 182 := zf_c r1 182 rfl
  have s4' : ∀ h, 0 ≤ h → h < c → 0 ≤ th h ∧ th h ≤ 9 := fun h a b => (s4 h a b).2
  have dl := zDl_r (day := B 183 80) i s2 s11 s4'
  have hl := s2.2.2.1
  have s2' := s2.1
  refine s_M_dayGoes_185 (e := e) (sg := sg) (ord := ord) (len := len) (nam := nam) (th := th) (W := W) (by rw [e3]; exact s2) (by rw [e3]; exact ⟨fun j a b => by rw [r2 _ (by omega)]; exact s3.1 j a b, fun h a b => by rw [r2 _ (by omega)]; exact s3.2.1 h a b, fun h j a b a' b' => by have := hl h a b; rw [r2 _ (by omega)]; exact s3.2.2 h j a b a' b'⟩) (by rw [e3, e184]; exact s4) (by rw [r3]; omega) (fun h a b => ?_) (by rw [e5]; exact s5) (by rw [e5, e183]; exact s6) (by rw [zf_a r1 179 22 rfl, zf_c r1 190 rfl]; exact s7) (by rw [e5, e183, e3, e184]; exact s8 _ (by rw [r3]; omega)) (fun M' f' n' d' a' b' o' l' => ?_)
  · rw [e3] at b
    rw [r4 h a b, r5 h a b]
    have := s10 h a b
    have := zDa_r (day := B 183 80) i s2 s11 s4' (h := h) ⟨a, b⟩
    have := zDb_r c ord len nam th W (B 183 80) i h
    omega
  · rw [e3] at a' b' o' l' ⊢
    rw [r3] at d' a' b' l' ⊢
    refine H M' ⟨zf_ww (zf_tr r1 f') rfl rfl, fun j hj => by rw [n' j hj]; exact r2 j hj, by rw [d']; omega, fun h a b => ?_, fun h a b => ?_, fun h a b => ?_, fun hv => ?_⟩
    · rw [a' h a b, r4 h a b, zDa_s]; omega
    · rw [b' h a b, r5 h a b, zDb_s]; omega
    · rw [(o' h a b).1, (o' h a b).2]; exact r6 h a b
    · have ul := zUl_r s2 (s11 (B 183 80 + i)) s4'
      rw [l', r7 hv, zDl_s, zw (by omega) (by omega)]; omega
theorem s_goes_186 {d i : Nat} {c : Int} {ord len nam th W : Int → Int} {B M : zM} {F : Int → zM → Prop} (hs : zRs 184 c ord len nam th W B) (hi : i ≤ 1000) (hr : zRi 184 c ord len nam th W B i M) (H : ∀ M', zRi 184 c ord len nam th W B (i + 1) M' → F (zst (zUd c ord len nam th (W (B 184 80 + i))) c.toNat) M') : zCi (d + 5) 200 [z_r (11, 0) 179, z_r (100, 81) 184] M F := by
  obtain ⟨s1, s2, s3, s4, s5, s6, ⟨e, sg, s7, s8⟩, s9, s10, s11⟩ := hs
  obtain ⟨r1, r2, r3, r4, r5, r6, r7⟩ := hr
  have e3 : M 179 3 = c := by rw [zf_a r1 179 3 rfl]; exact s1
  have e5 : M 179 5 = B 179 5 := zf_a r1 179 5 rfl
  have e183 : M 181 = B 181 := zf_c r1 181 rfl
  have e184 : M 182 = B 182 := zf_c r1 182 rfl
  have s4' : ∀ h, 0 ≤ h → h < c → 0 ≤ th h ∧ th h ≤ 9 := fun h a b => (s4 h a b).2
  have dl := zDl_r (day := B 184 80) i s2 s11 s4'
  have hl := s2.2.2.1
  have s2' := s2.1
  refine s_M_dayGoes_186 (e := e) (sg := sg) (ord := ord) (len := len) (nam := nam) (th := th) (W := W) (by rw [e3]; exact s2) (by rw [e3]; exact ⟨fun j a b => by rw [r2 _ (by omega)]; exact s3.1 j a b, fun h a b => by rw [r2 _ (by omega)]; exact s3.2.1 h a b, fun h j a b a' b' => by have := hl h a b; rw [r2 _ (by omega)]; exact s3.2.2 h j a b a' b'⟩) (by rw [e3, e184]; exact s4) (by rw [r3]; omega) (fun h a b => ?_) (by rw [e5]; exact s5) (by rw [e5, e183]; exact s6) (by rw [zf_a r1 179 22 rfl, zf_c r1 190 rfl]; exact s7) (by rw [e5, e183, e3, e184]; exact s8 _ (by rw [r3]; omega)) (fun M' f' n' d' a' b' o' l' => ?_)
  · rw [e3] at b
    rw [r4 h a b, r5 h a b]
    have := s10 h a b
    have := zDa_r (day := B 184 80) i s2 s11 s4' (h := h) ⟨a, b⟩
    have := zDb_r c ord len nam th W (B 184 80) i h
    omega
  · rw [e3] at a' b' o' l' ⊢
    rw [r3] at d' a' b' l' ⊢
    refine H M' ⟨zf_ww (zf_tr r1 f') rfl rfl, fun j hj => by rw [n' j hj]; exact r2 j hj, by rw [d']; omega, fun h a b => ?_, fun h a b => ?_, fun h a b => ?_, fun hv => ?_⟩
    · rw [a' h a b, r4 h a b, zDa_s]; omega
    · rw [b' h a b, r5 h a b, zDb_s]; omega
    · rw [(o' h a b).1, (o' h a b).2]; exact r6 h a b
    · have ul := zUl_r s2 (s11 (B 184 80 + i)) s4'
      rw [l', r7 hv, zDl_s, zw (by omega) (by omega)]; omega

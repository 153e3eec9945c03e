/-! year() -/
def zyx (c : Int) (th W sg : Int → Int) : List Int → Int → zS → Int × Bool × zS
  | [], n, S => (n, false, S)
  | p :: L, n, S => if (zya c th W (zaa (sg p)) (zdi (sg (p + 1))) (zdi (sg (p + 2))) S).1 = true then zyx c th W sg L (n + 1) (zya c th W (zaa (sg p)) (zdi (sg (p + 1))) (zdi (sg (p + 2))) S).2 else (n, true, S)
theorem zyx_n {c : Int} {th W sg : Int → Int} : ∀ (L : List Int) (n : Int) (S : zS), n ≤ (zyx c th W sg L n S).1 ∧ (zyx c th W sg L n S).1 ≤ n + L.length ∧ ((zyx c th W sg L n S).1 = n → (zyx c th W sg L n S).2.2 = S) ∧ ((zyx c th W sg L n S).2.1 = false → (zyx c th W sg L n S).1 = n + L.length) ∧ ((zyx c th W sg L n S).2.1 = true → (zyx c th W sg L n S).1 < n + L.length)
  | [], n, S => ⟨Int.le_refl _, by show n ≤ n + ((0 : Nat) : Int); omega, fun _ => rfl, fun _ => by show n = n + ((0 : Nat) : Int); omega, fun z => absurd z Bool.false_ne_true⟩
  | p :: L, n, S => by
    unfold zyx
    have el : (((p :: L).length : Nat) : Int) = L.length + 1 := by simp
    rw [el]
    by_cases q : (zya c th W (zaa (sg p)) (zdi (sg (p + 1))) (zdi (sg (p + 2))) S).1 = true
    · rw [if_pos q]
      have ih := zyx_n (c := c) (th := th) (W := W) (sg := sg) L (n + 1) (zya c th W (zaa (sg p)) (zdi (sg (p + 1))) (zdi (sg (p + 2))) S).2
      exact ⟨by omega, by omega, fun z => by omega, fun z => by have := ih.2.2.2.1 z; omega, fun z => by have := ih.2.2.2.2 z; omega⟩
    · rw [if_neg q]
      exact ⟨Int.le_refl _, by show n ≤ n + ((L.length : Int) + 1); omega, fun _ => rfl, fun z => absurd z.symm Bool.false_ne_true, fun _ => by show n < n + ((L.length : Int) + 1); omega⟩
theorem zac1_t {sg : Int → Int} {e p : Int} (hp : p < e) (h : (zac1 sg e p).1 = true) : 0 ≤ zaa (sg p) ∧ (zaa (sg p) ≤ 1 → p + 1 < e ∧ 48 ≤ sg (p + 1) ∧ sg (p + 1) ≤ 57) ∧ (zaa (sg p) = 1 → p + 2 < e) ∧ (zac1 sg e p).2 = p + (if zaa (sg p) = 0 then 2 else if zaa (sg p) = 1 then 3 else 1) := by
  have ea : zat sg e p = sg p := by unfold zat; rw [if_pos hp]
  unfold zac1 at h ⊢
  rw [ea] at h ⊢
  by_cases q0 : zaa (sg p) < 0
  · rw [if_pos q0] at h; exact absurd h Bool.false_ne_true
  · rw [if_neg q0] at h ⊢
    by_cases q1 : zaa (sg p) = 0
    · rw [if_pos q1] at h ⊢
      by_cases d1 : zdg1 sg e (p + 1) = true
      · rw [if_pos d1, if_pos q1]; have := zdg1_lt d1; exact ⟨by omega, fun _ => this, fun z => by omega, rfl⟩
      · rw [if_neg d1] at h; exact absurd h Bool.false_ne_true
    · rw [if_neg q1] at h ⊢
      by_cases q2 : zaa (sg p) = 1
      · rw [if_pos q2] at h ⊢
        by_cases d1 : zdg1 sg e (p + 1) = true
        · rw [if_pos d1] at h ⊢
          by_cases d2 : zdg1 sg e (p + 2) = true
          · rw [if_pos d2, if_neg q1, if_pos q2]; have := zdg1_lt d1; exact ⟨by omega, fun _ => this, fun _ => (zdg1_lt d2).1, rfl⟩
          · rw [if_neg d2] at h; exact absurd h Bool.false_ne_true
        · rw [if_neg d1] at h; exact absurd h Bool.false_ne_true
      · rw [if_neg q2, if_neg q1, if_neg q2]; exact ⟨by omega, fun z => by omega, fun z => by omega, rfl⟩
theorem zyl_len {sg : Int → Int} {e : Int} : ∀ (f : Nat) (p : Int), 0 ≤ p → p ≤ e → e < p + f → (zyl sg e f p).1 = true → ((zyl sg e f p).2.2.length : Int) ≤ e - p
  | 0, p, p0, pe, hf, _ => by omega
  | f + 1, p, p0, pe, hf, h => by
    unfold zyl at h ⊢
    by_cases q : e ≤ p
    · rw [if_pos q]; show ((0 : Nat) : Int) ≤ e - p; omega
    · rw [if_neg q] at h ⊢
      have s := zac1_s (sg := sg) (e := e) (p := p) pe
      by_cases q1 : (zac1 sg e p).1 = true
      · rw [if_pos q1] at h ⊢
        have s3 := s.2.2 q1
        have ih := zyl_len (sg := sg) (e := e) f (zac1 sg e p).2 (by omega) s.2.1 (by omega) h
        show (((p :: (zyl sg e f (zac1 sg e p).2).2.2).length : Nat) : Int) ≤ e - p
        rw [List.length_cons]; omega
      · rw [if_neg q1] at h; exact absurd h Bool.false_ne_true
theorem s_M_faultOf60 {d : Nat} {n x p t : Int} {M : zM} {F : Int → zM → Prop} (hp : M 179 12 = p) (ht : M 179 13 = t) (h1 : 0 ≤ p ∧ p ≤ t ∧ t ≤ 60) (h2 : 60 < n → t = 60) (hx : x = 0 ∨ x = 1) (H : F (if x = 1 ∧ p = t ∧ n ≤ 60 then 0 else -1 - p) M) : zCi (d + 1) 160 [z_r (11, 0) 179, z_i n, z_i 60, z_i x] M F := by
  refine e_M_faultOf ?_
  rw [hp, ht, zw (x := -1 - p) (by omega) (by omega), zw (x := -1 - 60) (by omega) (by omega)]
  have bad : ¬ (x = 1 ∧ p = t) → ((n ≤ 60 → (((0 : Int) = 0 → F (-1 - p) M) ∧ (¬ ((0 : Int) = 0) → F 0 M))) ∧ (¬ (n ≤ 60) → (((0 : Int) ≠ 0 → F (-1 - 60) M) ∧ (¬ ((0 : Int) ≠ 0) → ((p < 60 → (((0 : Int) = 0 → F (-1 - p) M) ∧ (¬ ((0 : Int) = 0) → F 0 M))) ∧ (¬ (p < 60) → F (-1 - 60) M)))))) := by
    intro hb
    rw [if_neg (fun z => hb ⟨z.1, z.2.1⟩)] at H
    refine ⟨fun _ => ⟨fun _ => H, fun z => absurd rfl z⟩, fun z => ⟨fun w => absurd rfl w, fun _ => ⟨fun _ => ⟨fun _ => H, fun w => absurd rfl w⟩, fun w => ?_⟩⟩⟩
    rw [show -1 - p = -1 - (60 : Int) by omega] at H; exact H
  refine ⟨fun z => bad (by omega), fun z => ⟨fun z2 => bad (fun q => z2 q.2), fun z2 => ⟨fun z3 => ⟨fun w => absurd w (by decide), fun _ => ?_⟩, fun z3 => ⟨fun _ => ?_, fun w => absurd (by decide) w⟩⟩⟩⟩
  · rw [if_pos ⟨by omega, Classical.not_not.mp z2, z3⟩] at H; exact H
  · rw [if_neg (fun w => z3 w.2.2), Classical.not_not.mp z2, h2 (by omega)] at H; exact H
def zAL (sg : Int → Int) (L : List Int) (M : zM) : Prop := ∀ i : Nat, i < L.length → zAk sg (i : Int) (L.getD i 0) M
theorem zAL_app {sg : Int → Int} {L : List Int} {p : Int} {M M' : zM} (h : zAL sg L M) (e : ∀ j, j ≠ (L.length : Int) → M' 203 j = M 203 j ∧ M' 204 j = M 204 j ∧ M' 205 j = M 205 j) (hk : zAk sg (L.length : Int) p M') : zAL sg (L ++ [p]) M' := by
  intro i hi
  simp at hi
  simp only [List.getD_eq_getElem?_getD]
  by_cases q : i = L.length
  · subst q; simpa using hk
  · rw [List.getElem?_append_left (by omega)]
    have := h i (by omega)
    simp only [List.getD_eq_getElem?_getD] at this
    obtain ⟨a1, a2, a3⟩ := e i (by omega)
    exact ⟨by rw [a1]; exact this.1, fun z => by rw [a2]; exact this.2.1 z, fun z => by rw [a3]; exact this.2.2 z⟩
theorem iP_203 {n c : Int} {M M' : zM} (h : iP n c M) (h1 : M' 49 1 = M 49 1) (h2 : M' 49 2 = M 49 2) (h3 : M' 179 33 = M 179 33) (h4 : ∀ k, k < 81 * M 179 33 → M' 201 k = M 201 k) (h5 : ∀ b, 51 ≤ b → b ≤ 140 → M' b = M b) : iP n c M' := by
  obtain ⟨q1, q2, q3, q4⟩ := h
  unfold iP
  rw [h1, h2, h3]
  refine ⟨q1, q2, q3, fun j a0 a1 => ?_⟩
  have hb := zrg_r q2 q3 ⟨a0, a1⟩
  obtain ⟨w1, w2, e1, e2, e3, e4, e5, e6⟩ := q4 j a0 a1
  have g6 := w2.2.2.2.2.2.1
  have t8 := w2.1
  have E : ∀ x, 0 ≤ x → x < 81 → M' 201 (81 * j + x) = M 201 (81 * j + x) := fun x a b => h4 _ (by omega)
  have c5 : M' (51 + 6 * (zrg (M 49 1) (M 49 2) j).toNat) = M (51 + 6 * (zrg (M 49 1) (M 49 2) j).toNat) := h5 _ (by omega) (by omega)
  have hC : ∀ k, 1 ≤ k → k < 6 → M' (51 + 6 * (zrg (M 49 1) (M 49 2) j).toNat + k) = M (51 + 6 * (zrg (M 49 1) (M 49 2) j).toNat + k) := fun k _ hk => h5 _ (by omega) (by omega)
  unfold tR
  rw [c5, hC 1 (by omega) (by omega), hC 2 (by omega) (by omega), hC 3 (by omega) (by omega), hC 4 (by omega) (by omega), hC 5 (by omega) (by omega)]
  refine ⟨w1, w2, fun i a b => ?_, fun h a b => ?_, fun h i a b a' b' => ?_, fun h a b => ?_, fun h a b => ?_, ?_⟩
  · show _ = M' 201 (81 * j + i); rw [E _ (by omega) (by omega)]; exact e1 i a b
  · show _ = M' 201 (81 * j + (8 + h)); rw [E _ (by omega) (by omega)]; exact e2 h a b
  · have := g6 h a b
    show _ = M' 201 (81 * j + (16 + (6 * h + i))); rw [E _ (by omega) (by omega)]; exact e3 h i a b a' b'
  · show _ = M' 201 (81 * j + (64 + h)); rw [E _ (by omega) (by omega)]; exact e4 h a b
  · show _ = M' 201 (81 * j + (72 + h)); rw [E _ (by omega) (by omega)]; exact e5 h a b
  · show _ = M' 201 (81 * j + 80); rw [E _ (by omega) (by omega)]; exact e6

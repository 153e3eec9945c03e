/-! A TOWN AS IT IS, apart from where it lies -/
def zS : Type := (Int → Int) × (Int → Int) × (Int → Int) × (Int → Int) × (Int → Int) × Int
def zmk (ord len nam dry had : Int → Int) (day : Int) : zS := (ord, len, nam, dry, had, day)
def zS.ord (S : zS) : Int → Int := Prod.fst S
def zS.len (S : zS) : Int → Int := Prod.fst (Prod.snd S)
def zS.nam (S : zS) : Int → Int := Prod.fst (Prod.snd (Prod.snd S))
def zS.dry (S : zS) : Int → Int := Prod.fst (Prod.snd (Prod.snd (Prod.snd S)))
def zS.had (S : zS) : Int → Int := Prod.fst (Prod.snd (Prod.snd (Prod.snd (Prod.snd S))))
def zS.day (S : zS) : Int := Prod.snd (Prod.snd (Prod.snd (Prod.snd (Prod.snd S))))
def zAt (A : Nat) (c : Int) (S : zS) (M : zM) : Prop := M A 5 = c ∧ M A 6 = S.day ∧ (∀ i, 0 ≤ i → i < 8 → M (A + 1) i = S.ord i) ∧ (∀ k, 0 ≤ k → k < 48 → M (A + 2) k = S.nam k) ∧ (∀ h, 0 ≤ h → h < 8 → M (A + 3) h = S.len h) ∧ (∀ h, 0 ≤ h → h < 8 → M (A + 4) h = S.dry h) ∧ (∀ h, 0 ≤ h → h < 8 → M (A + 5) h = S.had h)
def zRt (Q : Nat) (c : Int) (S : zS) (M : zM) : Prop := (∀ i, 0 ≤ i → i < 8 → M Q i = S.ord i) ∧ (∀ h, 0 ≤ h → h < 8 → M Q (8 + h) = S.len h) ∧ (∀ h i, 0 ≤ h → h < c → 0 ≤ i → i < S.len h → M Q (16 + (6 * h + i)) = S.nam (6 * h + i)) ∧ (∀ h, 0 ≤ h → h < 8 → M Q (64 + h) = S.dry h) ∧ (∀ h, 0 ≤ h → h < 8 → M Q (72 + h) = S.had h) ∧ M Q 80 = S.day
def zSo (c D : Int) (S : zS) : Prop := zTn c S.ord S.len S.nam ∧ (0 ≤ S.day ∧ S.day ≤ D) ∧ (∀ h, c ≤ h → h < 8 → S.len h = 0 ∧ S.dry h = 0 ∧ S.had h = 0) ∧ ∀ h, 0 ≤ h → h < 8 → (0 ≤ S.dry h ∧ S.dry h ≤ S.day) ∧ 0 ≤ S.had h ∧ S.had h ≤ 9 * S.day
theorem zAt_f {A : Nat} {c : Int} {S : zS} {M M' : zM} (h : zAt A c S M) (e0 : M' A 5 = M A 5) (e6 : M' A 6 = M A 6) (e1 : M' (A + 1) = M (A + 1)) (e2 : M' (A + 2) = M (A + 2)) (e3 : M' (A + 3) = M (A + 3)) (e4 : M' (A + 4) = M (A + 4)) (e5 : M' (A + 5) = M (A + 5)) : zAt A c S M' := by
  unfold zAt at h ⊢
  rw [e0, e6, e1, e2, e3, e4, e5]; exact h
theorem zRt_f {Q : Nat} {c : Int} {S : zS} {M M' : zM} (h : zRt Q c S M) (e : M' Q = M Q) : zRt Q c S M' := by
  unfold zRt at h ⊢
  rw [e]; exact h
/-- the town of the invariant -/
def zS0 (M : zM) (A : Nat) : zS := zmk (M (A + 1)) (M (A + 3)) (M (A + 2)) (M (A + 4)) (M (A + 5)) (M A 6)
theorem zS0_of {n c : Int} {M : zM} {A q : Nat} (h : tR n c M A q 0) : zAt A c (zS0 M A) M ∧ zRt q c (zS0 M A) M ∧ zSo c (270 * n) (zS0 M A) := by
  have hT := (tR_Rw h).1
  obtain ⟨w1, ⟨g1, g2, g3, g4, g5, g6, g7, g8⟩, e1, e2, e3, e4, e5, e6⟩ := h
  simp only [Int.zero_add] at e1 e2 e3 e4 e5 e6
  exact ⟨⟨w1, rfl, fun _ _ _ => rfl, fun _ _ _ => rfl, fun _ _ _ => rfl, fun _ _ _ => rfl, fun _ _ _ => rfl⟩, ⟨fun i a b => (e1 i a b).symm, fun h a b => (e2 h a b).symm, fun h i a b a' b' => (e3 h i a b a' b').symm, fun h a b => (e4 h a b).symm, fun h a b => (e5 h a b).symm, e6.symm⟩, hT, g2, g7, g8⟩
theorem tR_of {n c : Int} {M : zM} {A q : Nat} {S : zS} (h1 : zAt A c S M) (h2 : zRt q c S M) (h3 : zSo c (270 * n) S) : tR n c M A q 0 := by
  obtain ⟨a1, a2, a3, a4, a5, a6, a7⟩ := h1
  obtain ⟨b1, b2, b3, b4, b5, b6⟩ := h2
  obtain ⟨⟨t1, t2, t3, t4⟩, s2, s3, s4⟩ := h3
  have hp : zperm (M (A + 1)) := zperm_c t2 a3
  refine ⟨a1, ⟨t1, by rw [a2]; exact s2, hp.1, hp.2, fun k a b => by rw [a4 k a b]; exact t4 k a b, fun h a b => by rw [a5 h a (by omega)]; exact t3 h a b, fun h a b => by rw [a5 h (by omega) b, a6 h (by omega) b, a7 h (by omega) b]; exact s3 h a b, fun h a b => by rw [a2, a6 h a b, a7 h a b]; exact s4 h a b⟩, fun i a b => ?_, fun h a b => ?_, fun h i a b a' b' => ?_, fun h a b => ?_, fun h a b => ?_, ?_⟩
  · show M (A + 1) i = M q (0 + i); rw [Int.zero_add, a3 i a b, b1 i a b]
  · show M (A + 3) h = M q (0 + (8 + h)); rw [Int.zero_add, a5 h a b, b2 h a b]
  · have := t3 h a b
    rw [a5 h a (by omega)] at b'
    show M (A + 2) (6 * h + i) = M q (0 + (16 + (6 * h + i)))
    rw [Int.zero_add, a4 _ (by omega) (by omega), b3 h i a b a' b']
  · show M (A + 4) h = M q (0 + (64 + h)); rw [Int.zero_add, a6 h a b, b4 h a b]
  · show M (A + 5) h = M q (0 + (72 + h)); rw [Int.zero_add, a7 h a b, b5 h a b]
  · show M A 6 = M q (0 + 80); rw [Int.zero_add, a2, b6]
theorem zAt_al {A : Nat} {c D : Int} {S : zS} {M : zM} (h : zAt A c S M) (ho : zSo c D S) : zTn c (M (A + 1)) (M (A + 3)) (M (A + 2)) ∧ zAl c S.ord S.len S.nam (M (A + 1)) (M (A + 3)) (M (A + 2)) := by
  obtain ⟨a1, a2, a3, a4, a5, a6, a7⟩ := h
  obtain ⟨⟨t1, t2, t3, t4⟩, -⟩ := ho
  refine ⟨⟨t1, zperm_c t2 a3, fun h x y => ?_, fun k x y => ?_⟩, a3, fun h x y => a5 h x (by omega), fun h i x y x' y' => ?_⟩
  · rw [a5 h x (by omega)]; exact t3 h x y
  · rw [a4 k x y]; exact t4 k x y
  · have := t3 h x y
    exact a4 _ (by omega) (by omega)
theorem zRt_rw {Q : Nat} {c D : Int} {S : zS} {M : zM} (h : zRt Q c S M) (ho : zSo c D S) : zRw M Q c S.ord S.len S.nam := by
  have := ho.1.1
  exact ⟨h.1, fun x a b => h.2.1 x a (by omega), h.2.2.1⟩
/-- so many days -/
def zSd (c : Int) (th W : Int → Int) (n : Nat) (S : zS) : zS := zmk S.ord S.len S.nam (fun h => S.dry h + (if 0 ≤ h ∧ h < c then zDb c S.ord S.len S.nam th W S.day n h else 0)) (fun h => S.had h + (if 0 ≤ h ∧ h < c then zDa c S.ord S.len S.nam th W S.day n h else 0)) (S.day + n)
theorem zSd_o {c D : Int} {th W : Int → Int} (n : Nat) {S : zS} (h : zSo c D S) (hth : ∀ h, 0 ≤ h → h < c → 0 ≤ th h ∧ th h ≤ 9) (hW : ∀ x, 0 ≤ W x ∧ W x ≤ 99) : zSo c (D + n) (zSd c th W n S) := by
  obtain ⟨t, s2, s3, s4⟩ := h
  refine ⟨t, ⟨by show 0 ≤ S.day + n; omega, by show S.day + n ≤ D + n; omega⟩, fun h a b => ?_, fun h a b => ?_⟩
  · have := s3 h a b
    show S.len h = 0 ∧ S.dry h + (if 0 ≤ h ∧ h < c then _ else 0) = 0 ∧ S.had h + (if 0 ≤ h ∧ h < c then _ else 0) = 0
    rw [if_neg (by omega), if_neg (by omega)]; omega
  · have := s4 h a b
    show (0 ≤ S.dry h + (if 0 ≤ h ∧ h < c then _ else 0) ∧ S.dry h + (if 0 ≤ h ∧ h < c then _ else 0) ≤ S.day + n) ∧ 0 ≤ S.had h + (if 0 ≤ h ∧ h < c then _ else 0) ∧ S.had h + (if 0 ≤ h ∧ h < c then _ else 0) ≤ 9 * (S.day + n)
    by_cases q : 0 ≤ h ∧ h < c
    · rw [if_pos q, if_pos q]
      have := zDb_r c S.ord S.len S.nam th W S.day n h
      have := zDa_r (day := S.day) n t hW hth q
      omega
    · rw [if_neg q, if_neg q]; omega
theorem zSo_m {c D D' : Int} {S : zS} (h : zSo c D S) (hD : D ≤ D') : zSo c D' S := ⟨h.1, ⟨h.2.1.1, by have := h.2.1.2; omega⟩, h.2.2⟩
/-- the first letter becomes the last -/
def zrt (f : Int → Int) (i : Int) : Int := if i < 7 then f (i + 1) else f 0
def zSr (S : zS) : zS := zmk (zrt S.ord) S.len S.nam S.dry S.had S.day
theorem zrt_p {f : Int → Int} (h : zperm f) : zperm (zrt f) := by
  refine ⟨fun i a b => ?_, fun i j a b a' b' e => ?_⟩
  · unfold zrt
    split
    · exact h.1 _ (by omega) (by omega)
    · exact h.1 _ (by omega) (by omega)
  · unfold zrt at e
    by_cases q : i < 7
    · rw [if_pos q] at e
      by_cases q2 : j < 7
      · rw [if_pos q2] at e
        have := h.2 _ _ (by omega) (by omega) (by omega) (by omega) e
        omega
      · rw [if_neg q2] at e
        have := h.2 _ _ (by omega) (by omega) (by omega) (by omega) e
        omega
    · rw [if_neg q] at e
      by_cases q2 : j < 7
      · rw [if_pos q2] at e
        have := h.2 _ _ (by omega) (by omega) (by omega) (by omega) e
        omega
      · omega
theorem zSr_o {c D : Int} {S : zS} (h : zSo c D S) : zSo c D (zSr S) := ⟨⟨h.1.1, zrt_p h.1.2.1, h.1.2.2.1, h.1.2.2.2⟩, h.2⟩
theorem s_Town_first {d A : Nat} {c : Int} {S : zS} {M : zM} {F : zM → Prop} (h : zAt A c S M) (H : ∀ M', zf [A + 1] [] M M' → zAt A c (zSr S) M' → F M') : zCv (d + 1) 64 [z_r (9, 0) A] M F := by
  obtain ⟨a1, a2, a3, a4, a5, a6, a7⟩ := h
  refine e_Town_firstBecomesLast ⟨by decide, by decide, by decide, H _ (zf_us (zf_cp zf_rf List.mem_cons_self) List.mem_cons_self) ⟨?_, ?_, fun i a b => ?_, fun k a b => ?_, fun h a b => ?_, fun h a b => ?_, fun h a b => ?_⟩⟩
  · rw [zu_c (by omega), zc_c (by omega)]; exact a1
  · rw [zu_c (by omega), zc_c (by omega)]; exact a2
  · show _ = zrt S.ord i
    unfold zrt
    by_cases q : i < 7
    · rw [if_pos q, zu_i (by omega), zc_in (by omega) (by omega), a3 _ (by omega) (by omega)]
      rw [show (1 : Int) + (i - 0) = i + 1 by omega]
    · rw [if_neg q, zu_e (by omega), a3 _ (by omega) (by omega)]
  · rw [zu_c (by omega), zc_c (by omega)]; exact a4 k a b
  · rw [zu_c (by omega), zc_c (by omega)]; exact a5 h a b
  · rw [zu_c (by omega), zc_c (by omega)]; exact a6 h a b
  · rw [zu_c (by omega), zc_c (by omega)]; exact a7 h a b
theorem s_M_goesRound {d Q : Nat} {c : Int} {S : zS} {M : zM} {F : zM → Prop} (hc : c ≤ 8) (h : zRt Q c S M) (H : ∀ M', zf [Q] [] M M' → zRt Q c (zSr S) M' → F M') : zCv (d + 1) 207 [z_r (100, 81) Q] M F := by
  obtain ⟨b1, b2, b3, b4, b5, b6⟩ := h
  refine e_M_goesRound (fun P hP => ⟨by decide, ?_⟩)
  have loop : ∀ (m i : Nat) (M1 : zM), i + m = 7 → zf [Q] [] M M1 → (∀ j : Int, 0 ≤ j → j < i → M1 Q j = M Q (j + 1)) → (∀ j : Int, ¬ (0 ≤ j ∧ j < i) → M1 Q j = M Q j) → P 81 Q (M Q 0) (i : Int) M1 := by
    intro m
    induction m with
    | zero =>
      intro i M1 hi f1 e1 e2
      have hi : i = 7 := by omega
      subst hi
      refine hP _ _ _ _ _ ⟨fun _ => ⟨by decide, H _ (zf_us f1 List.mem_cons_self) ⟨fun i a b => ?_, fun h a b => ?_, fun h i a b a' b' => ?_, fun h a b => ?_, fun h a b => ?_, ?_⟩⟩, fun z => absurd (by decide) z⟩
      · show _ = zrt S.ord i
        unfold zrt
        by_cases q : i < 7
        · rw [if_pos q, zu_i (by omega), e1 i a (by omega)]; exact b1 _ (by omega) (by omega)
        · rw [if_neg q, zu_e (by omega)]; exact b1 0 (by omega) (by omega)
      · rw [zu_i (by omega), e2 _ (by omega)]; exact b2 h a b
      · rw [zu_i (by omega), e2 _ (by omega)]; exact b3 h i a b a' b'
      · rw [zu_i (by omega), e2 _ (by omega)]; exact b4 h a b
      · rw [zu_i (by omega), e2 _ (by omega)]; exact b5 h a b
      · rw [zu_i (by omega), e2 _ (by omega)]; exact b6
    | succ m ih =>
      intro i M1 hi f1 e1 e2
      refine hP _ _ _ _ _ ⟨fun z => absurd z (by omega), fun _ => ?_⟩
      rw [zw (x := (i : Int) + 1) (by omega) (by omega)]
      refine ⟨by omega, by omega, ?_⟩
      have := ih (i + 1) (z_up M1 Q (i : Int) (M1 Q ((i : Int) + 1))) (by omega) (zf_us f1 List.mem_cons_self) (fun j a b => ?_) (fun j q => ?_)
      · rw [show ((i + 1 : Nat) : Int) = (i : Int) + 1 by omega] at this
        exact this
      · by_cases q : j = i
        · rw [zu_e q, e2 _ (by omega), q]
        · rw [zu_i q]; exact e1 j a (by omega)
      · rw [zu_i (by omega)]; exact e2 j (by omega)
  exact loop 7 0 M (by omega) zf_rf (fun j a b => by omega) (fun j _ => rfl)
/-- what the reference needs of heat, thirst and rule -/
def zRc (c : Int) (th W : Int → Int) (M : zM) : Prop := M 179 3 = c ∧ (∀ h, 0 ≤ h → h < c → M 182 h = th h ∧ 0 ≤ th h ∧ th h ≤ 9) ∧ (1 ≤ M 179 5 ∧ M 179 5 ≤ 20) ∧ (∀ i, 0 ≤ i → i < M 179 5 → 0 ≤ M 181 i ∧ M 181 i ≤ 9) ∧ (∃ e sg, iU e sg (M 179 22) (M 190) ∧ ∀ x, 0 ≤ x → zYd e sg (M 179 5) (M 181) c (M 182) x = W x) ∧ ∀ x, 0 ≤ W x ∧ W x ≤ 99
theorem zRc_f {c : Int} {th W : Int → Int} {M M' : zM} (h : zRc c th W M) (e1 : M' 179 3 = M 179 3) (e2 : M' 182 = M 182) (e3 : M' 179 5 = M 179 5) (e4 : M' 181 = M 181) (e5 : M' 179 22 = M 179 22) (e6 : M' 190 = M 190) : zRc c th W M' := by
  unfold zRc at h ⊢
  rw [e1, e2, e3, e4, e5, e6]; exact h
theorem zRc_of {n : Int} {M B : zM} (hJ : zJ n M) (e3 : B 179 3 = M 179 3) (e184 : B 182 = M 182) (e5 : B 179 5 = M 179 5) (e183 : B 181 = M 181) (e22 : B 179 22 = M 179 22) (e192 : B 190 = M 190) : zRc (M 179 3) (M 46) (zW M) B := by
  obtain ⟨i1, i2, i3, i4, i5, i6, i7, i8⟩ := zJ_in hJ
  obtain ⟨j1, j2, ⟨s1, s2, s3, s4⟩, j4, -⟩ := hJ
  refine ⟨e3, fun h a b => by rw [e184]; exact i6 h a b, by rw [e5, ← s1]; exact ⟨s2, s3⟩, fun i a b => ?_, ⟨M 5 1, M 6, by rw [e22, e192]; exact j4, fun x hx => ?_⟩, zW_r M⟩
  · rw [e183]; rw [e5, ← s1] at b; have := s4 i a b; omega
  · unfold zW
    rw [e5, e183, e184, s1]
    exact (zYd_c hx (by omega) (fun i a b => (s4 i a (by omega)).1) (fun h a b => (j2 h a b).1)).symm
theorem s_goesS_185 {d : Nat} {c D : Int} {th W : Int → Int} {S : zS} {M : zM} {F : Int → zM → Prop} (hc : zRc c th W M) (hr : zRt 183 c S M) (ho : zSo c D S) (hD : D ≤ 1000000) (H : ∀ M', zf [183, 192, 193, 194, 195, 196, 197, 198, 199, 200] [(179, 35)] M M' → zRt 183 c (zSd c th W 1 S) M' → F (zst (zUd c S.ord S.len S.nam th (W S.day)) c.toNat) M') : zCi (d + 5) 200 [z_r (11, 0) 179, z_r (100, 81) 183] M F := by
  obtain ⟨k1, k2, k3, k4, ⟨e, sg, k5, k6⟩, k7⟩ := hc
  have hrw := zRt_rw hr ho
  obtain ⟨b1, b2, b3, b4, b5, b6⟩ := hr
  obtain ⟨t, s2, s3, s4⟩ := ho
  have t8 := t.1
  refine s_M_dayGoes_185 (e := e) (sg := sg) (ord := S.ord) (len := S.len) (nam := S.nam) (th := th) (W := W) (by rw [k1]; exact t) (by rw [k1]; exact hrw) (by rw [k1]; exact k2) (by rw [b6]; omega) (fun h a b => ?_) k3 k4 k5 (by rw [k1]; exact k6 _ (by rw [b6]; omega)) (fun M' f' n' d' a' b' o' l' => ?_)
  · rw [k1] at b
    rw [b4 h a (by omega), b5 h a (by omega)]
    have := s4 h a (by omega)
    omega
  · rw [k1, b6] at a' b' ⊢
    rw [k1] at o'
    refine H M' f' ⟨fun i a b => ?_, fun h a b => ?_, fun h i a b a2 b2 => ?_, fun h a b => ?_, fun h a b => ?_, ?_⟩
    · rw [n' i (by omega)]; exact b1 i a b
    · rw [n' _ (by omega)]; exact b2 h a b
    · have := t.2.2.1 h a b
      have b2 : i < S.len h := b2
      rw [n' _ (by omega)]; exact b3 h i a b a2 b2
    · show _ = S.dry h + (if 0 ≤ h ∧ h < c then zDb c S.ord S.len S.nam th W S.day 1 h else 0)
      by_cases q : h < c
      · rw [if_pos ⟨a, q⟩, b' h a q, b4 h a b]
        show _ = S.dry h + (0 + (if zUd c S.ord S.len S.nam th (W (S.day + 0)) h = true then 1 else 0))
        rw [Int.zero_add, Int.add_zero]
      · rw [if_neg (by omega), (o' h (by omega) b).1, b4 h a b]; omega
    · show _ = S.had h + (if 0 ≤ h ∧ h < c then zDa c S.ord S.len S.nam th W S.day 1 h else 0)
      by_cases q : h < c
      · rw [if_pos ⟨a, q⟩, a' h a q, b5 h a b]
        show _ = S.had h + (0 + zUh c S.ord S.len S.nam th (W (S.day + 0)) h)
        rw [Int.zero_add, Int.add_zero]
      · rw [if_neg (by omega), (o' h (by omega) b).2, b5 h a b]; omega
    · rw [d', b6]; rfl
theorem s_goesS_186 {d : Nat} {c D : Int} {th W : Int → Int} {S : zS} {M : zM} {F : Int → zM → Prop} (hc : zRc c th W M) (hr : zRt 184 c S M) (ho : zSo c D S) (hD : D ≤ 1000000) (H : ∀ M', zf [184, 192, 193, 194, 195, 196, 197, 198, 199, 200] [(179, 35)] M M' → zRt 184 c (zSd c th W 1 S) M' → F (zst (zUd c S.ord S.len S.nam th (W S.day)) c.toNat) M') : zCi (d + 5) 200 [z_r (11, 0) 179, z_r (100, 81) 184] M F := by
  obtain ⟨k1, k2, k3, k4, ⟨e, sg, k5, k6⟩, k7⟩ := hc
  have hrw := zRt_rw hr ho
  obtain ⟨b1, b2, b3, b4, b5, b6⟩ := hr
  obtain ⟨t, s2, s3, s4⟩ := ho
  have t8 := t.1
  refine s_M_dayGoes_186 (e := e) (sg := sg) (ord := S.ord) (len := S.len) (nam := S.nam) (th := th) (W := W) (by rw [k1]; exact t) (by rw [k1]; exact hrw) (by rw [k1]; exact k2) (by rw [b6]; omega) (fun h a b => ?_) k3 k4 k5 (by rw [k1]; exact k6 _ (by rw [b6]; omega)) (fun M' f' n' d' a' b' o' l' => ?_)
  · rw [k1] at b
    rw [b4 h a (by omega), b5 h a (by omega)]
    have := s4 h a (by omega)
    omega
  · rw [k1, b6] at a' b' ⊢
    rw [k1] at o'
    refine H M' f' ⟨fun i a b => ?_, fun h a b => ?_, fun h i a b a2 b2 => ?_, fun h a b => ?_, fun h a b => ?_, ?_⟩
    · rw [n' i (by omega)]; exact b1 i a b
    · rw [n' _ (by omega)]; exact b2 h a b
    · have := t.2.2.1 h a b
      have b2 : i < S.len h := b2
      rw [n' _ (by omega)]; exact b3 h i a b a2 b2
    · show _ = S.dry h + (if 0 ≤ h ∧ h < c then zDb c S.ord S.len S.nam th W S.day 1 h else 0)
      by_cases q : h < c
      · rw [if_pos ⟨a, q⟩, b' h a q, b4 h a b]
        show _ = S.dry h + (0 + (if zUd c S.ord S.len S.nam th (W (S.day + 0)) h = true then 1 else 0))
        rw [Int.zero_add, Int.add_zero]
      · rw [if_neg (by omega), (o' h (by omega) b).1, b4 h a b]; omega
    · show _ = S.had h + (if 0 ≤ h ∧ h < c then zDa c S.ord S.len S.nam th W S.day 1 h else 0)
      by_cases q : h < c
      · rw [if_pos ⟨a, q⟩, a' h a q, b5 h a b]
        show _ = S.had h + (0 + zUh c S.ord S.len S.nam th (W (S.day + 0)) h)
        rw [Int.zero_add, Int.add_zero]
      · rw [if_neg (by omega), (o' h (by omega) b).2, b5 h a b]; omega
    · rw [d', b6]; rfl
theorem s_liveS_23_5 {d : Nat} {n c D cl : Int} {cd th W : Int → Int} {S : zS} {M : zM} {F : Int → zM → Prop} (hn : 0 ≤ n ∧ n ≤ 100) (ha : zAt 23 c S M) (ho : zSo c D S) (hD : D ≤ 1000000) (hs : 1 ≤ M 45 2 ∧ M 45 2 ≤ 20) (hht : ∀ i, 0 ≤ i → i < M 45 2 → 0 ≤ M 47 i ∧ M 47 i ≤ 9) (hth : ∀ h, 0 ≤ h → h < c → 0 ≤ M 46 h ∧ M 46 h ≤ 9) (hU : iU (M 5 1) (M 6) cl cd) (e46 : M 46 = th) (hW : zYd (M 5 1) (M 6) (M 45 2) (M 47) c (M 46) = W)
    (H : ∀ M', zf [27, 28, 48, 36, 37, 38, 39, 7, 8, 9, 10, 11, 12, 13] [(23, 6), (35, 4), (5, 9), (45, 4), (45, 5), (45, 6), (45, 7)] M M' → zAt 23 c (zSd c th W n.toNat S) M' → F (zsm (zDb c S.ord S.len S.nam th W S.day n.toNat) c.toNat) M') : zCi (d + 5) 46 [z_r (4, 0) 45, z_r (9, 0) 23, z_r (0, 0) 35, z_r (6, 0) 5, z_i n] M F := by
  obtain ⟨k1, k2⟩ := zAt_al ha ho
  have k1 : zTn c (M 24) (M 26) (M 25) := k1
  have k2 : zAl c S.ord S.len S.nam (M 24) (M 26) (M 25) := k2
  obtain ⟨a1, a2, a3, a4, a5, a6, a7⟩ := ha
  obtain ⟨t, s2, s3, s4⟩ := ho
  have t8 := t.1
  refine s_live_23_5 (cl := cl) (cd := cd) hn (by rw [a1]; exact k1) (by rw [a2]; omega) (by rw [a1]; exact fun h x y => by have := a6 h x (by omega); have := a7 h x (by omega); have := s4 h x (by omega); show (0 ≤ M (23 + 4) h ∧ M (23 + 4) h ≤ 1000000) ∧ 0 ≤ M (23 + 5) h ∧ M (23 + 5) h ≤ 10000000; omega) hs hht (by rw [a1]; exact hth) hU (fun W' hW' M2 f2 b2 d2 u2 v2 o2 l2 m2 => ?_)
  rw [a1, hW] at hW'
  subst hW'
  rw [a1, a2, e46] at u2 v2 ⊢
  rw [a1] at o2
  rw [zsm_c c.toNat (fun h x y => zAl_Db n.toNat t k1 k2 (a := h) (th := th) (W := W') (day := S.day) ⟨x, by omega⟩)]
  refine H M2 f2 ⟨by rw [zf_a f2 23 5 rfl]; exact a1, ?_, fun i a b => ?_, fun k a b => ?_, fun h a b => ?_, fun h a b => ?_, fun h a b => ?_⟩
  · rw [d2, a2]; show S.day + n = S.day + (n.toNat : Int); omega
  · show M2 24 i = _; rw [zf_c f2 24 rfl]; exact a3 i a b
  · show M2 25 k = _; rw [zf_c f2 25 rfl]; exact a4 k a b
  · show M2 26 h = _; rw [zf_c f2 26 rfl]; exact a5 h a b
  · show M2 27 h = S.dry h + (if 0 ≤ h ∧ h < c then zDb c S.ord S.len S.nam th W' S.day n.toNat h else 0)
    by_cases q : h < c
    · rw [if_pos ⟨a, q⟩, v2 h a q, zAl_Db _ t k1 k2 ⟨a, q⟩]; have := a6 h a b; rw [show M 27 h = S.dry h from this]
    · rw [if_neg (by omega), (o2 h (by omega)).1]; have := a6 h a b; rw [show M 27 h = S.dry h from this]; omega
  · show M2 28 h = S.had h + (if 0 ≤ h ∧ h < c then zDa c S.ord S.len S.nam th W' S.day n.toNat h else 0)
    by_cases q : h < c
    · rw [if_pos ⟨a, q⟩, u2 h a q, zAl_Da _ t k1 k2 ⟨a, q⟩]; have := a7 h a b; rw [show M 28 h = S.had h from this]
    · rw [if_neg (by omega), (o2 h (by omega)).2]; have := a7 h a b; rw [show M 28 h = S.had h from this]; omega
theorem s_liveS_29_5 {d : Nat} {n c D cl : Int} {cd th W : Int → Int} {S : zS} {M : zM} {F : Int → zM → Prop} (hn : 0 ≤ n ∧ n ≤ 100) (ha : zAt 29 c S M) (ho : zSo c D S) (hD : D ≤ 1000000) (hs : 1 ≤ M 45 2 ∧ M 45 2 ≤ 20) (hht : ∀ i, 0 ≤ i → i < M 45 2 → 0 ≤ M 47 i ∧ M 47 i ≤ 9) (hth : ∀ h, 0 ≤ h → h < c → 0 ≤ M 46 h ∧ M 46 h ≤ 9) (hU : iU (M 5 1) (M 6) cl cd) (e46 : M 46 = th) (hW : zYd (M 5 1) (M 6) (M 45 2) (M 47) c (M 46) = W)
    (H : ∀ M', zf [33, 34, 48, 36, 37, 38, 39, 7, 8, 9, 10, 11, 12, 13] [(29, 6), (35, 4), (5, 9), (45, 4), (45, 5), (45, 6), (45, 7)] M M' → zAt 29 c (zSd c th W n.toNat S) M' → F (zsm (zDb c S.ord S.len S.nam th W S.day n.toNat) c.toNat) M') : zCi (d + 5) 46 [z_r (4, 0) 45, z_r (9, 0) 29, z_r (0, 0) 35, z_r (6, 0) 5, z_i n] M F := by
  obtain ⟨k1, k2⟩ := zAt_al ha ho
  have k1 : zTn c (M 30) (M 32) (M 31) := k1
  have k2 : zAl c S.ord S.len S.nam (M 30) (M 32) (M 31) := k2
  obtain ⟨a1, a2, a3, a4, a5, a6, a7⟩ := ha
  obtain ⟨t, s2, s3, s4⟩ := ho
  have t8 := t.1
  refine s_live_29_5 (cl := cl) (cd := cd) hn (by rw [a1]; exact k1) (by rw [a2]; omega) (by rw [a1]; exact fun h x y => by have := a6 h x (by omega); have := a7 h x (by omega); have := s4 h x (by omega); show (0 ≤ M (29 + 4) h ∧ M (29 + 4) h ≤ 1000000) ∧ 0 ≤ M (29 + 5) h ∧ M (29 + 5) h ≤ 10000000; omega) hs hht (by rw [a1]; exact hth) hU (fun W' hW' M2 f2 b2 d2 u2 v2 o2 l2 m2 => ?_)
  rw [a1, hW] at hW'
  subst hW'
  rw [a1, a2, e46] at u2 v2 ⊢
  rw [a1] at o2
  rw [zsm_c c.toNat (fun h x y => zAl_Db n.toNat t k1 k2 (a := h) (th := th) (W := W') (day := S.day) ⟨x, by omega⟩)]
  refine H M2 f2 ⟨by rw [zf_a f2 29 5 rfl]; exact a1, ?_, fun i a b => ?_, fun k a b => ?_, fun h a b => ?_, fun h a b => ?_, fun h a b => ?_⟩
  · rw [d2, a2]; show S.day + n = S.day + (n.toNat : Int); omega
  · show M2 30 i = _; rw [zf_c f2 30 rfl]; exact a3 i a b
  · show M2 31 k = _; rw [zf_c f2 31 rfl]; exact a4 k a b
  · show M2 32 h = _; rw [zf_c f2 32 rfl]; exact a5 h a b
  · show M2 33 h = S.dry h + (if 0 ≤ h ∧ h < c then zDb c S.ord S.len S.nam th W' S.day n.toNat h else 0)
    by_cases q : h < c
    · rw [if_pos ⟨a, q⟩, v2 h a q, zAl_Db _ t k1 k2 ⟨a, q⟩]; have := a6 h a b; rw [show M 33 h = S.dry h from this]
    · rw [if_neg (by omega), (o2 h (by omega)).1]; have := a6 h a b; rw [show M 33 h = S.dry h from this]; omega
  · show M2 34 h = S.had h + (if 0 ≤ h ∧ h < c then zDa c S.ord S.len S.nam th W' S.day n.toNat h else 0)
    by_cases q : h < c
    · rw [if_pos ⟨a, q⟩, u2 h a q, zAl_Da _ t k1 k2 ⟨a, q⟩]; have := a7 h a b; rw [show M 34 h = S.had h from this]
    · rw [if_neg (by omega), (o2 h (by omega)).2]; have := a7 h a b; rw [show M 34 h = S.had h from this]; omega
theorem s_liveS_29_14 {d : Nat} {n c D cl : Int} {cd th W : Int → Int} {S : zS} {M : zM} {F : Int → zM → Prop} (hn : 0 ≤ n ∧ n ≤ 100) (ha : zAt 29 c S M) (ho : zSo c D S) (hD : D ≤ 1000000) (hs : 1 ≤ M 45 2 ∧ M 45 2 ≤ 20) (hht : ∀ i, 0 ≤ i → i < M 45 2 → 0 ≤ M 47 i ∧ M 47 i ≤ 9) (hth : ∀ h, 0 ≤ h → h < c → 0 ≤ M 46 h ∧ M 46 h ≤ 9) (hU : iU (M 14 1) (M 15) cl cd) (e46 : M 46 = th) (hW : zYd (M 14 1) (M 15) (M 45 2) (M 47) c (M 46) = W)
    (H : ∀ M', zf [33, 34, 48, 36, 37, 38, 39, 16, 17, 18, 19, 20, 21, 22] [(29, 6), (35, 4), (14, 9), (45, 4), (45, 5), (45, 6), (45, 7)] M M' → zAt 29 c (zSd c th W n.toNat S) M' → F (zsm (zDb c S.ord S.len S.nam th W S.day n.toNat) c.toNat) M') : zCi (d + 5) 46 [z_r (4, 0) 45, z_r (9, 0) 29, z_r (0, 0) 35, z_r (6, 0) 14, z_i n] M F := by
  obtain ⟨k1, k2⟩ := zAt_al ha ho
  have k1 : zTn c (M 30) (M 32) (M 31) := k1
  have k2 : zAl c S.ord S.len S.nam (M 30) (M 32) (M 31) := k2
  obtain ⟨a1, a2, a3, a4, a5, a6, a7⟩ := ha
  obtain ⟨t, s2, s3, s4⟩ := ho
  have t8 := t.1
  refine s_live_29_14 (cl := cl) (cd := cd) hn (by rw [a1]; exact k1) (by rw [a2]; omega) (by rw [a1]; exact fun h x y => by have := a6 h x (by omega); have := a7 h x (by omega); have := s4 h x (by omega); show (0 ≤ M (29 + 4) h ∧ M (29 + 4) h ≤ 1000000) ∧ 0 ≤ M (29 + 5) h ∧ M (29 + 5) h ≤ 10000000; omega) hs hht (by rw [a1]; exact hth) hU (fun W' hW' M2 f2 b2 d2 u2 v2 o2 l2 m2 => ?_)
  rw [a1, hW] at hW'
  subst hW'
  rw [a1, a2, e46] at u2 v2 ⊢
  rw [a1] at o2
  rw [zsm_c c.toNat (fun h x y => zAl_Db n.toNat t k1 k2 (a := h) (th := th) (W := W') (day := S.day) ⟨x, by omega⟩)]
  refine H M2 f2 ⟨by rw [zf_a f2 29 5 rfl]; exact a1, ?_, fun i a b => ?_, fun k a b => ?_, fun h a b => ?_, fun h a b => ?_, fun h a b => ?_⟩
  · rw [d2, a2]; show S.day + n = S.day + (n.toNat : Int); omega
  · show M2 30 i = _; rw [zf_c f2 30 rfl]; exact a3 i a b
  · show M2 31 k = _; rw [zf_c f2 31 rfl]; exact a4 k a b
  · show M2 32 h = _; rw [zf_c f2 32 rfl]; exact a5 h a b
  · show M2 33 h = S.dry h + (if 0 ≤ h ∧ h < c then zDb c S.ord S.len S.nam th W' S.day n.toNat h else 0)
    by_cases q : h < c
    · rw [if_pos ⟨a, q⟩, v2 h a q, zAl_Db _ t k1 k2 ⟨a, q⟩]; have := a6 h a b; rw [show M 33 h = S.dry h from this]
    · rw [if_neg (by omega), (o2 h (by omega)).1]; have := a6 h a b; rw [show M 33 h = S.dry h from this]; omega
  · show M2 34 h = S.had h + (if 0 ≤ h ∧ h < c then zDa c S.ord S.len S.nam th W' S.day n.toNat h else 0)
    by_cases q : h < c
    · rw [if_pos ⟨a, q⟩, u2 h a q, zAl_Da _ t k1 k2 ⟨a, q⟩]; have := a7 h a b; rw [show M 34 h = S.had h from this]
    · rw [if_neg (by omega), (o2 h (by omega)).2]; have := a7 h a b; rw [show M 34 h = S.had h from this]; omega

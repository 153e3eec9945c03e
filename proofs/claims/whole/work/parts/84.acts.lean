/-! the acts of a year -/
def zSu (S : zS) : zS := zmk (fun i => S.ord (7 - i)) S.len S.nam S.dry S.had S.day
theorem zSu_o {c D : Int} {S : zS} (h : zSo c D S) : zSo c D (zSu S) := by
  refine ⟨⟨h.1.1, ⟨fun i a b => h.1.2.1.1 (7 - i) (by omega) (by omega), fun i j a b a' b' e => ?_⟩, h.1.2.2.1, h.1.2.2.2⟩, h.2⟩
  have := h.1.2.1.2 (7 - i) (7 - j) (by omega) (by omega) (by omega) (by omega) e
  omega
theorem zSd_s {c : Int} {th W : Int → Int} {S : zS} (i : Nat) : zSd c th W 1 (zSd c th W i S) = zSd c th W (i + 1) S := by
  have e1 : (fun h => (zSd c th W i S).dry h + (if 0 ≤ h ∧ h < c then zDb c S.ord S.len S.nam th W (S.day + i) 1 h else 0)) = (fun h => S.dry h + (if 0 ≤ h ∧ h < c then zDb c S.ord S.len S.nam th W S.day (i + 1) h else 0)) := by
    funext h
    show S.dry h + (if 0 ≤ h ∧ h < c then zDb c S.ord S.len S.nam th W S.day i h else 0) + _ = _
    by_cases q : 0 ≤ h ∧ h < c
    · rw [if_pos q, if_pos q, if_pos q, zDb_s c S.ord S.len S.nam th W S.day i h]
      show _ + (0 + (if zUd c S.ord S.len S.nam th (W (S.day + i + 0)) h = true then 1 else 0)) = _
      rw [Int.add_zero]; omega
    · rw [if_neg q, if_neg q, if_neg q]; omega
  have e2 : (fun h => (zSd c th W i S).had h + (if 0 ≤ h ∧ h < c then zDa c S.ord S.len S.nam th W (S.day + i) 1 h else 0)) = (fun h => S.had h + (if 0 ≤ h ∧ h < c then zDa c S.ord S.len S.nam th W S.day (i + 1) h else 0)) := by
    funext h
    show S.had h + (if 0 ≤ h ∧ h < c then zDa c S.ord S.len S.nam th W S.day i h else 0) + _ = _
    by_cases q : 0 ≤ h ∧ h < c
    · rw [if_pos q, if_pos q, if_pos q, zDa_s c S.ord S.len S.nam th W S.day i h]
      show _ + (0 + zUh c S.ord S.len S.nam th (W (S.day + i + 0)) h) = _
      rw [Int.add_zero]; omega
    · rw [if_neg q, if_neg q, if_neg q]; omega
  have e3 : S.day + (i : Int) + ((1 : Nat) : Int) = S.day + ((i + 1 : Nat) : Int) := by omega
  show zmk S.ord S.len S.nam (fun h => (zSd c th W i S).dry h + (if 0 ≤ h ∧ h < c then zDb c S.ord S.len S.nam th W (S.day + i) 1 h else 0)) (fun h => (zSd c th W i S).had h + (if 0 ≤ h ∧ h < c then zDa c S.ord S.len S.nam th W (S.day + i) 1 h else 0)) (S.day + (i : Int) + ((1 : Nat) : Int)) = zmk S.ord S.len S.nam (fun h => S.dry h + (if 0 ≤ h ∧ h < c then zDb c S.ord S.len S.nam th W S.day (i + 1) h else 0)) (fun h => S.had h + (if 0 ≤ h ∧ h < c then zDa c S.ord S.len S.nam th W S.day (i + 1) h else 0)) (S.day + ((i + 1 : Nat) : Int))
  rw [e1, e2, e3]
theorem s_Town_turn {d A : Nat} {c : Int} {S : zS} {M : zM} {F : zM → Prop} (h : zAt A c S M) (H : ∀ M', zf [A + 1] [] M M' → zAt A c (zSu S) M' → F M') : zCv (d + 1) 63 [z_r (9, 0) A] M F := by
  obtain ⟨a1, a2, a3, a4, a5, a6, a7⟩ := h
  refine e_Town_turnRound (fun P hP => ?_)
  have loop : ∀ (m i : Nat) (M1 : zM), i + m = 4 → zf [A + 1] [] M M1 → (∀ j : Int, 0 ≤ j → j < 8 → M1 (A + 1) j = if j < i ∨ 7 - (i : Int) < j then M (A + 1) (7 - j) else M (A + 1) j) → P A (i : Int) M1 := by
    intro m
    induction m with
    | zero =>
      intro i M1 hi f1 e1
      have hi : i = 4 := by omega
      subst hi
      have q : ∀ e, e ≠ A + 1 → M1 e = M e := fun e x => funext fun j => f1 e j (by simp; omega) (by simp)
      refine hP _ _ _ ⟨fun _ => H M1 f1 ⟨by rw [q A (by omega)]; exact a1, by rw [q A (by omega)]; exact a2, fun i a b => ?_, fun k a b => by rw [q (A + 2) (by omega)]; exact a4 k a b, fun k a b => by rw [q (A + 3) (by omega)]; exact a5 k a b, fun k a b => by rw [q (A + 4) (by omega)]; exact a6 k a b, fun k a b => by rw [q (A + 5) (by omega)]; exact a7 k a b⟩, fun z => absurd (by decide) z⟩
      rw [e1 i a b, if_pos (by omega)]
      exact a3 _ (by omega) (by omega)
    | succ m ih =>
      intro i M1 hi f1 e1
      refine hP _ _ _ ⟨fun z => absurd z (by omega), fun _ => ?_⟩
      rw [zw (x := 7 - (i : Int)) (by omega) (by omega), zw (x := (i : Int) + 1) (by omega) (by omega)]
      refine ⟨by omega, by omega, by omega, by omega, ?_⟩
      have := ih (i + 1) (z_up (z_up M1 (A + 1) i (M1 (A + 1) (7 - (i : Int)))) (A + 1) (7 - (i : Int)) (M1 (A + 1) i)) (by omega) (zf_us (zf_us f1 List.mem_cons_self) List.mem_cons_self) (fun j a b => ?_)
      · rw [show ((i + 1 : Nat) : Int) = (i : Int) + 1 by omega] at this
        exact this
      · by_cases q1 : j = 7 - (i : Int)
        · rw [q1, zu_s, e1 i (by omega) (by omega), if_neg (by omega), if_pos (by omega)]
          rw [show 7 - (7 - (i : Int)) = i by omega]
        · rw [zu_i q1]
          by_cases q2 : j = i
          · rw [q2, zu_s, e1 _ (by omega) (by omega), if_neg (by omega), if_pos (by omega)]
          · rw [zu_i q2, e1 j a b]
            by_cases q3 : j < i ∨ 7 - (i : Int) < j
            · rw [if_pos q3, if_pos (by omega)]
            · rw [if_neg q3, if_neg (by omega)]
  exact loop 4 0 M (by omega) zf_rf (fun j a b => by rw [if_neg (by omega)])
theorem s_M_turnsRound {d Q : Nat} {c : Int} {S : zS} {M : zM} {F : zM → Prop} (h : zRt Q c S M) (H : ∀ M', zf [Q] [] M M' → zRt Q c (zSu S) M' → F M') : zCv (d + 1) 206 [z_r (100, 81) Q] M F := by
  obtain ⟨b1, b2, b3, b4, b5, b6⟩ := h
  refine e_M_turnsRound (fun P hP => ?_)
  have loop : ∀ (m i : Nat) (M1 : zM), i + m = 4 → zf [Q] [] M M1 → (∀ j : Int, M1 Q j = if 0 ≤ j ∧ j < 8 ∧ (j < i ∨ 7 - (i : Int) < j) then M Q (7 - j) else M Q j) → P 81 Q (i : Int) M1 := by
    intro m
    induction m with
    | zero =>
      intro i M1 hi f1 e1
      have hi : i = 4 := by omega
      subst hi
      refine hP _ _ _ _ ⟨fun _ => H M1 f1 ⟨fun i a b => ?_, fun h a b => ?_, fun h i a b a' b' => ?_, fun h a b => ?_, fun h a b => ?_, ?_⟩, fun z => absurd (by decide) z⟩
      · rw [e1 i, if_pos (by omega)]; exact b1 _ (by omega) (by omega)
      · rw [e1, if_neg (by omega)]; exact b2 h a b
      · rw [e1, if_neg (by omega)]; exact b3 h i a b a' b'
      · rw [e1, if_neg (by omega)]; exact b4 h a b
      · rw [e1, if_neg (by omega)]; exact b5 h a b
      · rw [e1, if_neg (by omega)]; exact b6
    | succ m ih =>
      intro i M1 hi f1 e1
      refine hP _ _ _ _ ⟨fun z => absurd z (by omega), fun _ => ?_⟩
      rw [zw (x := 7 - (i : Int)) (by omega) (by omega), zw (x := (i : Int) + 1) (by omega) (by omega)]
      refine ⟨by omega, by omega, by omega, by omega, ?_⟩
      have := ih (i + 1) (z_up (z_up M1 Q i (M1 Q (7 - (i : Int)))) Q (7 - (i : Int)) (M1 Q i)) (by omega) (zf_us (zf_us f1 List.mem_cons_self) List.mem_cons_self) (fun j => ?_)
      · rw [show ((i + 1 : Nat) : Int) = (i : Int) + 1 by omega] at this
        exact this
      · by_cases q1 : j = 7 - (i : Int)
        · rw [q1, zu_s, e1 i, if_neg (by omega), if_pos (by omega)]
          rw [show 7 - (7 - (i : Int)) = i by omega]
        · rw [zu_i q1]
          by_cases q2 : j = i
          · rw [q2, zu_s, e1 _, if_neg (by omega), if_pos (by omega)]
          · rw [zu_i q2, e1 j]
            by_cases q3 : 0 ≤ j ∧ j < 8 ∧ (j < i ∨ 7 - (i : Int) < j)
            · rw [if_pos q3, if_pos (by omega)]
            · rw [if_neg q3, if_neg (by omega)]
  exact loop 4 0 M (by omega) zf_rf (fun j => by rw [if_neg (by omega)])
/-- an act: a what, x and y its digits -/
def zya (c : Int) (th W : Int → Int) (a x y : Int) (S : zS) : Bool × zS := if a = 0 then (true, zSd c th W x.toNat S) else if a = 1 then (if (0 ≤ x ∧ x < c) ∧ (0 ≤ y ∧ y < c) ∧ x ≠ y then (true, zSw x y S) else (false, S)) else if a = 2 then (true, zSu S) else (true, zSr S)
theorem zya_o {c D : Int} {th W : Int → Int} {a x y : Int} {S : zS} (h : zSo c D S) (hx : 0 ≤ x) (hth : ∀ h, 0 ≤ h → h < c → 0 ≤ th h ∧ th h ≤ 9) (hW : ∀ x, 0 ≤ W x ∧ W x ≤ 99) : zSo c (D + (if a = 0 then x else 0)) (zya c th W a x y S).2 := by
  unfold zya
  by_cases q0 : a = 0
  · rw [if_pos q0, if_pos q0]; exact zSo_m (zSd_o x.toNat h hth hW) (by omega)
  · rw [if_neg q0, if_neg q0]
    by_cases q1 : a = 1
    · rw [if_pos q1]
      by_cases v : (0 ≤ x ∧ x < c) ∧ (0 ≤ y ∧ y < c) ∧ x ≠ y
      · rw [if_pos v]; exact zSo_m (zSw_o h v.1 v.2.1) (by omega)
      · rw [if_neg v]; exact zSo_m h (by omega)
    · rw [if_neg q1]
      by_cases q2 : a = 2
      · rw [if_pos q2]; exact zSo_m (zSu_o h) (by omega)
      · rw [if_neg q2]; exact zSo_m (zSr_o h) (by omega)
/-- the class does an act -/
theorem s_W_act {d : Nat} {p c D cl : Int} {cd th W : Int → Int} {S : zS} {M : zM} {F : Int → zM → Prop} (hn : M 1 1 ≤ 80) (hp : 0 ≤ p ∧ p < M 1 1) (ha : 0 ≤ zaa (M 2 p)) (hx : zaa (M 2 p) ≤ 1 → p + 1 < M 1 1 ∧ 48 ≤ M 2 (p + 1) ∧ M 2 (p + 1) ≤ 57) (hy : zaa (M 2 p) = 1 → p + 2 < M 1 1) (hA : zAt 23 c S M) (ho : zSo c D S) (hD : D ≤ 1000000) (hs : 1 ≤ M 45 2 ∧ M 45 2 ≤ 20) (hht : ∀ i, 0 ≤ i → i < M 45 2 → 0 ≤ M 47 i ∧ M 47 i ≤ 9) (hth : ∀ h, 0 ≤ h → h < c → 0 ≤ M 46 h ∧ M 46 h ≤ 9) (hU : iU (M 5 1) (M 6) cl cd) (e46 : M 46 = th) (hW : zYd (M 5 1) (M 6) (M 45 2) (M 47) c (M 46) = W)
    (H : ∀ M', zf [24, 25, 26, 27, 28, 48, 36, 37, 38, 39, 7, 8, 9, 10, 11, 12, 13] [(23, 6), (35, 4), (5, 9), (45, 4), (45, 5), (45, 6), (45, 7)] M M' → zAt 23 c (zya c th W (zaa (M 2 p)) (zdi (M 2 (p + 1))) (zdi (M 2 (p + 2))) S).2 M' → F (if (zya c th W (zaa (M 2 p)) (zdi (M 2 (p + 1))) (zdi (M 2 (p + 2))) S).1 = true then 1 else 0) M') : zCi (d + 6) 61 [z_r (10, 0) 0, z_i p] M F := by
  have c8 := ho.1.1
  refine e_W_act (s_Text_at hn ?_)
  rw [if_pos hp]
  unfold zya at H
  have ec : ∀ x, zaa x = if x = 100 then 0 else if x = 109 then 1 else if x = 114 then 2 else if x = 115 then 3 else -1 := fun _ => rfl
  refine ⟨fun q => ?_, fun q => ⟨fun q2 => ?_, fun q2 => ⟨fun q3 => ?_, fun q3 => ?_⟩⟩⟩
  · have a0 : zaa (M 2 p) = 0 := by rw [ec, if_pos q]
    obtain ⟨x1, x2⟩ := hx (by omega)
    rw [if_pos a0] at H
    rw [zw (x := p + 1) (by omega) (by omega)]
    refine s_Text_at hn ?_
    rw [if_pos (by omega)]
    refine s_W_digitOf ?_
    have ed : zdi (M 2 (p + 1)) = M 2 (p + 1) - 48 := by unfold zdi; rw [if_pos x2]
    refine s_liveS_23_5 (cl := cl) (cd := cd) (th := th) (W := W) (by omega) hA ho hD hs hht hth hU e46 hW (fun M' f' a' => H M' (zf_ww f' rfl rfl) a')
  · have a1 : zaa (M 2 p) = 1 := by rw [ec, if_neg q, if_pos q2]
    obtain ⟨x1, x2⟩ := hx (by omega)
    have y1 := hy a1
    rw [if_neg (by omega), if_pos a1] at H
    rw [zw (x := p + 1) (by omega) (by omega), zw (x := p + 2) (by omega) (by omega)]
    refine s_Text_at hn ?_
    rw [if_pos (by omega)]
    refine s_W_digitOf (s_Text_at hn ?_)
    rw [if_pos (by omega)]
    refine s_W_digitOf (e_W_wed (s_Town_canMarry ?_))
    rw [hA.1]
    by_cases v : (0 ≤ zdi (M 2 (p + 1)) ∧ zdi (M 2 (p + 1)) < c) ∧ (0 ≤ zdi (M 2 (p + 2)) ∧ zdi (M 2 (p + 2)) < c) ∧ zdi (M 2 (p + 1)) ≠ zdi (M 2 (p + 2))
    · rw [if_pos v]
      rw [if_pos v] at H
      refine ⟨fun _ => s_takeS hA (by omega) (by omega) (fun M' f' a' => ?_), fun z => absurd (by decide) z⟩
      have f' : zf [25, 26] [] M M' := f'
      exact ⟨Or.inr rfl, H M' (zf_ww f' rfl rfl) a'⟩
    · rw [if_neg v]
      rw [if_neg v] at H
      exact ⟨fun z => absurd rfl z, fun _ => ⟨Or.inl rfl, H M zf_rf hA⟩⟩
  · have a2 : zaa (M 2 p) = 2 := by rw [ec, if_neg q, if_neg q2, if_pos q3]
    rw [if_neg (by omega), if_neg (by omega), if_pos a2] at H
    refine s_Town_turn hA (fun M' f' a' => ?_)
    have f' : zf [24] [] M M' := f'
    exact H M' (zf_ww f' rfl rfl) a'
  · have a3 : zaa (M 2 p) = 3 := by
      have := ec (M 2 p)
      rw [if_neg q, if_neg q2, if_neg q3] at this
      by_cases w : M 2 p = 115
      · rw [if_pos w] at this; exact this
      · rw [if_neg w] at this; omega
    rw [if_neg (by omega), if_neg (by omega), if_neg (by omega)] at H
    refine s_Town_first hA (fun M' f' a' => ?_)
    have f' : zf [24] [] M M' := f'
    exact H M' (zf_ww f' rfl rfl) a'
/-- the reference does an act -/
theorem s_M_does {d : Nat} {k a x y c D : Int} {th W : Int → Int} {S : zS} {M : zM} {F : Int → zM → Prop} (hk : 0 ≤ k ∧ k < 60) (h1 : M 203 k = a) (ha : 0 ≤ a ∧ a ≤ 3) (h2 : a ≤ 1 → M 204 k = x ∧ 0 ≤ x ∧ x ≤ 9) (h3 : a = 1 → M 205 k = y) (hc : zRc c th W M) (hr : zRt 183 c S M) (ho : zSo c D S) (hD : D ≤ 900000)
    (H : ∀ M', zf [183, 192, 193, 194, 195, 196, 197, 198, 199, 200] [(179, 35)] M M' → zRt 183 c (zya c th W a x y S).2 M' → F (if (zya c th W a x y S).1 = true then 1 else 0) M') : zCi (d + 6) 205 [z_r (11, 0) 179, z_i k] M F := by
  have c8 := ho.1.1
  have hth : ∀ h, 0 ≤ h → h < c → 0 ≤ th h ∧ th h ≤ 9 := fun h p q => (hc.2.1 h p q).2
  have hWr := hc.2.2.2.2.2
  unfold zya at H
  refine e_M_does (fun P hP => ?_)
  rw [h1]
  refine ⟨hk, fun q => ?_, fun q => ?_, fun q => ?_, fun q => ?_⟩
  · obtain ⟨x1, x2, x3⟩ := h2 (by omega)
    rw [if_pos q] at H
    have loop : ∀ (m i : Nat) (M1 : zM), (i : Int) + m = x → zf [183, 192, 193, 194, 195, 196, 197, 198, 199, 200] [(179, 35)] M M1 → zRt 183 c (zSd c th W i S) M1 → P k (i : Int) M1 := by
      intro m
      induction m with
      | zero =>
        intro i M1 hi f1 r1
        have hi : i = x.toNat := by omega
        subst hi
        refine hP _ _ _ ⟨hk, fun _ => H M1 f1 r1, fun z => absurd (by rw [zf_c f1 204 rfl]; omega) z⟩
      | succ m ih =>
        intro i M1 hi f1 r1
        have hc1 := zRc_f hc (zf_a f1 179 3 rfl) (zf_c f1 182 rfl) (zf_a f1 179 5 rfl) (zf_c f1 181 rfl) (zf_a f1 179 22 rfl) (zf_c f1 190 rfl)
        refine hP _ _ _ ⟨hk, fun z => absurd z (by rw [zf_c f1 204 rfl]; omega), fun _ => s_goesS_185 hc1 r1 (zSd_o i ho hth hWr) (by omega) (fun M2 f2 r2 => ?_)⟩
        rw [zw (x := (i : Int) + 1) (by omega) (by omega)]
        rw [zSd_s] at r2
        have := ih (i + 1) M2 (by omega) (zf_ww (zf_tr f1 f2) rfl rfl) r2
        rw [show ((i + 1 : Nat) : Int) = (i : Int) + 1 by omega] at this
        exact this
    refine loop x.toNat 0 M (by omega) zf_rf ?_
    have e0 : zSd c th W 0 S = S := by
      have d1 : (fun h => S.dry h + (if 0 ≤ h ∧ h < c then zDb c S.ord S.len S.nam th W S.day 0 h else 0)) = S.dry := by
        funext h; show S.dry h + (if 0 ≤ h ∧ h < c then 0 else 0) = S.dry h; split <;> omega
      have d2 : (fun h => S.had h + (if 0 ≤ h ∧ h < c then zDa c S.ord S.len S.nam th W S.day 0 h else 0)) = S.had := by
        funext h; show S.had h + (if 0 ≤ h ∧ h < c then 0 else 0) = S.had h; split <;> omega
      show zmk S.ord S.len S.nam (fun h => S.dry h + (if 0 ≤ h ∧ h < c then zDb c S.ord S.len S.nam th W S.day 0 h else 0)) (fun h => S.had h + (if 0 ≤ h ∧ h < c then zDa c S.ord S.len S.nam th W S.day 0 h else 0)) (S.day + ((0 : Nat) : Int)) = S
      rw [d1, d2, show S.day + ((0 : Nat) : Int) = S.day by omega]
      rfl
    rw [e0]; exact hr
  · obtain ⟨x1, x2, x3⟩ := h2 (by omega)
    rw [if_neg (by omega), if_pos q] at H
    rw [x1, h3 q]
    refine ⟨hk, hk, s_marriesS (Or.inl rfl) hc.1 hr ho (fun v M' f' r' => ?_) (fun v => ?_)⟩
    · rw [if_pos v] at H
      have p1 := zpl_r (zTn_ok ho.1) v.1
      have p2 := zpl_r (zTn_ok (zTn_tk (h := x) ho.1 v.2.1)) v.1
      refine ⟨fun z => ?_, fun _ => H M' (zf_ww f' rfl rfl) r'⟩
      exfalso
      unfold zPg at z
      omega
    · rw [if_neg v] at H
      exact ⟨fun _ => H M zf_rf hr, fun z => absurd rfl z⟩
  · rw [if_neg (by omega), if_neg (by omega), if_pos q] at H
    refine s_M_turnsRound hr (fun M' f' r' => H M' (zf_ww f' rfl rfl) r')
  · rw [if_neg (by omega), if_neg (by omega), if_neg (by omega)] at H
    refine s_M_goesRound c8.2 hr (fun M' f' r' => H M' (zf_ww f' rfl rfl) r')

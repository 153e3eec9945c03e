/-! marriages of a town; years() -/
def zSw (h o : Int) (S : zS) : zS := zmk S.ord (tkL S.len h o) (tkN S.nam h o) S.dry S.had S.day
theorem zSw_o {c D h o : Int} {S : zS} (hs : zSo c D S) (hh : 0 ≤ h ∧ h < c) (ho : 0 ≤ o ∧ o < c) : zSo c D (zSw h o S) := by
  obtain ⟨t, s2, s3, s4⟩ := hs
  refine ⟨zTn_tk t ho, s2, fun x a b => ?_, s4⟩
  have := s3 x a b
  show tkL S.len h o x = 0 ∧ S.dry x = 0 ∧ S.had x = 0
  unfold tkL
  rw [if_neg (by omega)]; exact this
theorem s_takeS {d A : Nat} {c h o : Int} {S : zS} {M : zM} {F : zM → Prop} (hA : zAt A c S M) (hh : 0 ≤ h ∧ h < 8) (ho : 0 ≤ o ∧ o < 8) (H : ∀ M', zf [A + 2, A + 3] [] M M' → zAt A c (zSw h o S) M' → F M') : zCv (d + 1) 44 [z_r (9, 0) A, z_i h, z_i o] M F := by
  obtain ⟨a1, a2, a3, a4, a5, a6, a7⟩ := hA
  refine s_Town_takeName hh ho (fun M' f e1 e2 => H M' f ?_)
  have q : ∀ e, e ≠ A + 2 → e ≠ A + 3 → M' e = M e := fun e x y => funext fun j => f e j (by simp; omega) (by simp)
  refine ⟨by rw [q A (by omega) (by omega)]; exact a1, by rw [q A (by omega) (by omega)]; exact a2, fun i x y => by rw [q (A + 1) (by omega) (by omega)]; exact a3 i x y, fun k x y => ?_, fun k x y => ?_, fun k x y => by rw [q (A + 4) (by omega) (by omega)]; exact a6 k x y, fun k x y => by rw [q (A + 5) (by omega) (by omega)]; exact a7 k x y⟩
  · rw [e1]
    show tkN (M (A + 2)) h o k = tkN S.nam h o k
    unfold tkN
    by_cases z : 6 * h ≤ k ∧ k < 6 * h + 6
    · rw [if_pos z, if_pos z]; exact a4 _ (by omega) (by omega)
    · rw [if_neg z, if_neg z]; exact a4 k x y
  · rw [e2]
    show tkL (M (A + 3)) h o k = tkL S.len h o k
    unfold tkL
    by_cases z : k = h
    · rw [if_pos z, if_pos z]; exact a5 _ ho.1 ho.2
    · rw [if_neg z, if_neg z]; exact a5 k x y
theorem s_marriesS {d Q : Nat} {c D h o : Int} {S : zS} {M : zM} {F : Int → zM → Prop} (hq : Q = 183 ∨ Q = 184) (hc : M 179 3 = c) (hr : zRt Q c S M) (hs : zSo c D S) (h1 : (0 ≤ h ∧ h < c) ∧ (0 ≤ o ∧ o < c) ∧ h ≠ o → ∀ M', zf [Q, 194, 195, 196, 197, 198, 199] [] M M' → zRt Q c (zSw h o S) M' → F (zPg c S.ord S.len S.nam h - zPg c S.ord (tkL S.len h o) (tkN S.nam h o) h) M') (h0 : ¬ ((0 ≤ h ∧ h < c) ∧ (0 ≤ o ∧ o < c) ∧ h ≠ o) → F (-100) M) : zCi (d + 5) 198 [z_r (11, 0) 179, z_r (100, 81) Q, z_i h, z_i o] M F := by
  have hrw := zRt_rw hr hs
  obtain ⟨b1, b2, b3, b4, b5, b6⟩ := hr
  have t := hs.1
  have t8 := t.1
  refine s_M_marries (ord := S.ord) (len := S.len) (nam := S.nam) (by omega) hq (by rw [hc]; exact t) (by rw [hc]; exact hrw) (fun x1 x2 x3 x4 x5 M' f e => ?_) (by rw [hc]; exact h0)
  rw [hc] at x2 x4 ⊢
  refine h1 ⟨⟨x1, x2⟩, ⟨x3, x4⟩, x5⟩ M' f ⟨fun i a b => ?_, fun x a b => ?_, fun x i a b a' b' => ?_, fun x a b => ?_, fun x a b => ?_, ?_⟩
  · rw [e]; unfold tkR; rw [if_neg (by omega), if_neg (by omega)]; exact b1 i a b
  · rw [e]
    show tkR (M Q) h o (8 + x) = tkL S.len h o x
    unfold tkR tkL
    by_cases z : x = h
    · rw [if_pos (by omega), if_pos z]; exact b2 o x3 (by omega)
    · rw [if_neg (by omega), if_neg (by omega), if_neg z]; exact b2 x a b
  · have b' : i < tkL S.len h o x := b'
    have l1 := t.2.2.1 x a b
    have l2 := t.2.2.1 o x3 x4
    rw [e]
    show tkR (M Q) h o (16 + (6 * x + i)) = tkN S.nam h o (6 * x + i)
    unfold tkL at b'
    unfold tkR tkN
    by_cases z : x = h
    · rw [if_pos z] at b'
      rw [if_neg (by omega), if_pos (by omega), if_pos (by omega), show 16 + 6 * o + (16 + (6 * x + i) - (16 + 6 * h)) = 16 + (6 * o + i) by omega, show 6 * o + (6 * x + i - 6 * h) = 6 * o + i by omega]
      exact b3 o i x3 x4 a' b'
    · rw [if_neg z] at b'
      rw [if_neg (by omega), if_neg (by omega), if_neg (by omega)]
      exact b3 x i a b a' b'
  · rw [e]; unfold tkR; rw [if_neg (by omega), if_neg (by omega)]; exact b4 x a b
  · rw [e]; unfold tkR; rw [if_neg (by omega), if_neg (by omega)]; exact b5 x a b
  · rw [e]; unfold tkR; rw [if_neg (by omega), if_neg (by omega)]; exact b6
/-! drawn by a seed -/
def zdw (r : Int) : Int := z_wr ((z_wr (r * 1103515245)) + 12345)
def zdv (r n : Int) : Int := Int.tmod (z_ushr (zdw r) 16) n
theorem s_W_draw {d : Nat} {r x : Int} {M : zM} {F : Int → zM → Prop} (h : M 0 19 = r) (hx : 0 < x) (H : ∀ M', zf [] [(0, 19)] M M' → M' 0 19 = zdw r → F (zdv r x) M') : zCi (d + 1) 138 [z_r (10, 0) 0, z_i x] M F := by
  refine e_W_draw ⟨fun z => absurd z (by omega), fun _ => ⟨by omega, ?_⟩⟩
  rw [zu_s, h]
  exact H _ (zf_uj zf_rf (by decide)) (zu_s _ _ _ _)
theorem s_M_draws {d : Nat} {r x : Int} {M : zM} {F : Int → zM → Prop} (h : M 179 61 = r) (hx : 0 < x) (H : ∀ M', zf [] [(179, 61)] M M' → M' 179 61 = zdw r → F (zdv r x) M') : zCi (d + 1) 250 [z_r (11, 0) 179, z_i x] M F := by
  refine e_M_draws ⟨by omega, ?_⟩
  rw [zu_s, h]
  exact H _ (zf_uj zf_rf (by decide)) (zu_s _ _ _ _)
def zY1 (c : Int) (th W : Int → Int) (r : Int) (S : zS) : Int × zS :=
  if 3 ≤ zdv r 5 then (if zdv r 5 ≠ 4 then (if c ≤ 0 then (zdw r, S) else (zdw (zdw (zdw r)), if (0 ≤ zdv (zdw r) c ∧ zdv (zdw r) c < c) ∧ (0 ≤ zdv (zdw (zdw r)) c ∧ zdv (zdw (zdw r)) c < c) ∧ zdv (zdw r) c ≠ zdv (zdw (zdw r)) c then zSw (zdv (zdw r) c) (zdv (zdw (zdw r)) c) S else S)) else (zdw r, zSr S)) else (zdw r, zSd c th W 1 S)
def zYs (c : Int) (th W : Int → Int) : Nat → Int × zS → Int × zS
  | 0, q => q
  | i + 1, q => zY1 c th W (zYs c th W i q).1 (zYs c th W i q).2
theorem zY1_o {c D : Int} {th W : Int → Int} {r : Int} {S : zS} (h : zSo c D S) (hth : ∀ h, 0 ≤ h → h < c → 0 ≤ th h ∧ th h ≤ 9) (hW : ∀ x, 0 ≤ W x ∧ W x ≤ 99) : zSo c (D + 1) (zY1 c th W r S).2 := by
  unfold zY1
  by_cases q1 : 3 ≤ zdv r 5
  · rw [if_pos q1]
    by_cases q2 : zdv r 5 ≠ 4
    · rw [if_pos q2]
      by_cases q3 : c ≤ 0
      · rw [if_pos q3]; exact zSo_m h (by omega)
      · rw [if_neg q3]
        by_cases q4 : (0 ≤ zdv (zdw r) c ∧ zdv (zdw r) c < c) ∧ (0 ≤ zdv (zdw (zdw r)) c ∧ zdv (zdw (zdw r)) c < c) ∧ zdv (zdw r) c ≠ zdv (zdw (zdw r)) c
        · rw [if_pos q4]; exact zSo_m (zSw_o h q4.1 q4.2.1) (by omega)
        · rw [if_neg q4]; exact zSo_m h (by omega)
    · rw [if_neg q2]; exact zSo_m (zSr_o h) (by omega)
  · rw [if_neg q1]; exact zSd_o 1 h hth hW
theorem zYs_o {c D : Int} {th W : Int → Int} {q : Int × zS} (h : zSo c D q.2) (hth : ∀ h, 0 ≤ h → h < c → 0 ≤ th h ∧ th h ≤ 9) (hW : ∀ x, 0 ≤ W x ∧ W x ≤ 99) : ∀ i : Nat, zSo c (D + i) (zYs c th W i q).2
  | 0 => zSo_m h (by omega)
  | i + 1 => zSo_m (zY1_o (zYs_o h hth hW i) hth hW) (by omega)
theorem zY1_dry {c : Int} {th W : Int → Int} {r : Int} {S : zS} (h : Int) : (zY1 c th W r S).2.dry h = S.dry h + (if 3 ≤ zdv r 5 then 0 else (if 0 ≤ h ∧ h < c then zDb c S.ord S.len S.nam th W S.day 1 h else 0)) := by
  unfold zY1
  by_cases q1 : 3 ≤ zdv r 5
  · rw [if_pos q1, if_pos q1, Int.add_zero]
    by_cases q2 : zdv r 5 ≠ 4
    · rw [if_pos q2]
      by_cases q3 : c ≤ 0
      · rw [if_pos q3]
      · rw [if_neg q3]
        by_cases q4 : (0 ≤ zdv (zdw r) c ∧ zdv (zdw r) c < c) ∧ (0 ≤ zdv (zdw (zdw r)) c ∧ zdv (zdw (zdw r)) c < c) ∧ zdv (zdw r) c ≠ zdv (zdw (zdw r)) c
        · rw [if_pos q4]; rfl
        · rw [if_neg q4]
    · rw [if_neg q2]; rfl
  · rw [if_neg q1, if_neg q1]; rfl
theorem zYs_dry {c : Int} {th W : Int → Int} {q : Int × zS} {h : Int} : ∀ i : Nat, 0 ≤ (zYs c th W i q).2.dry h - q.2.dry h ∧ (zYs c th W i q).2.dry h - q.2.dry h ≤ i
  | 0 => by show 0 ≤ q.2.dry h - q.2.dry h ∧ q.2.dry h - q.2.dry h ≤ 0; omega
  | i + 1 => by
    have ih := zYs_dry (c := c) (th := th) (W := W) (q := q) (h := h) i
    have e : (zYs c th W (i + 1) q).2.dry h = _ := zY1_dry (c := c) (th := th) (W := W) (r := (zYs c th W i q).1) (S := (zYs c th W i q).2) h
    have := zDb_r c (zYs c th W i q).2.ord (zYs c th W i q).2.len (zYs c th W i q).2.nam th W (zYs c th W i q).2.day 1 h
    rw [e]
    split
    · omega
    · split <;> omega
theorem s_Town_mostDry {d A : Nat} {c : Int} {S : zS} {M : zM} {F : Int → zM → Prop} (hc : 0 ≤ c ∧ c ≤ 8) (hA : zAt A c S M) (H : F (zMx 0 S.dry c.toNat) M) : zCi (d + 1) 140 [z_r (9, 0) A] M F := by
  refine e_Town_mostDry (fun P hP => ?_)
  have loop : ∀ (m j : Nat), (j : Int) + m = c → P A (zMx 0 S.dry j) (j : Int) M := by
    intro m
    induction m with
    | zero =>
      intro j hj
      refine hP _ _ _ _ ⟨fun _ => ?_, fun z => absurd (by rw [hA.1]; omega) z⟩
      rw [show j = c.toNat by omega]; exact H
    | succ m ih =>
      intro j hj
      have nx := ih (j + 1) (by omega)
      refine hP _ _ _ _ ⟨fun z => absurd z (by rw [hA.1]; omega), fun _ => ⟨by omega, ?_⟩⟩
      rw [hA.2.2.2.2.2.1 j (by omega) (by omega), zw (x := (j : Int) + 1) (by omega) (by omega)]
      rw [show ((j + 1 : Nat) : Int) = (j : Int) + 1 by omega] at nx
      exact nx
  exact loop c.toNat 0 (by omega)
theorem s_drawMarriage {d : Nat} {c D r : Int} {S : zS} {M : zM} {F : zM → Prop} (hc : 0 < c ∧ c ≤ 8) (hA : zAt 29 c S M) (hr : M 0 19 = r) (H : ∀ M', zf [31, 32] [(0, 19)] M M' → M' 0 19 = zdw (zdw r) → zAt 29 c (if (0 ≤ zdv r c ∧ zdv r c < c) ∧ (0 ≤ zdv (zdw r) c ∧ zdv (zdw r) c < c) ∧ zdv r c ≠ zdv (zdw r) c then zSw (zdv r c) (zdv (zdw r) c) S else S) M' → F M') : zCv (d + 3) 139 [z_r (10, 0) 0] M F := by
  refine e_W_drawMarriage ?_
  rw [hA.1]
  refine s_W_draw hr hc.1 (fun M1 f1 r1 => ?_)
  have a1 : zAt 29 c S M1 := zAt_f hA (zf_a f1 29 5 rfl) (zf_a f1 29 6 rfl) (zf_c f1 30 rfl) (zf_c f1 31 rfl) (zf_c f1 32 rfl) (zf_c f1 33 rfl) (zf_c f1 34 rfl)
  rw [a1.1]
  refine s_W_draw r1 hc.1 (fun M2 f2 r2 => ?_)
  have a2 : zAt 29 c S M2 := zAt_f a1 (zf_a f2 29 5 rfl) (zf_a f2 29 6 rfl) (zf_c f2 30 rfl) (zf_c f2 31 rfl) (zf_c f2 32 rfl) (zf_c f2 33 rfl) (zf_c f2 34 rfl)
  refine s_Town_canMarry ?_
  rw [a2.1]
  by_cases q : (0 ≤ zdv r c ∧ zdv r c < c) ∧ (0 ≤ zdv (zdw r) c ∧ zdv (zdw r) c < c) ∧ zdv r c ≠ zdv (zdw r) c
  · rw [if_pos q]
    rw [if_pos q] at H
    refine ⟨fun z => absurd z (by decide), fun _ => s_takeS a2 (by omega) (by omega) (fun M3 f3 a3 => ?_)⟩
    have f3 : zf [31, 32] [] M2 M3 := f3
    exact H M3 (zf_ww (zf_tr (zf_tr f1 f2) f3) rfl rfl) (by rw [zf_a f3 0 19 rfl]; exact r2) a3
  · rw [if_neg q]
    rw [if_neg q] at H
    exact ⟨fun _ => H M2 (zf_ww (zf_tr f1 f2) rfl rfl) r2 a2, fun z => absurd rfl z⟩

/-! houses(): houses are added -/
def zSn (h l : Int) (lt : Int → Int) (S : zS) : zS := zmk S.ord (naL S.len h l) (naN S.nam lt h l) S.dry S.had S.day
def zHa (sg : Int → Int) (e : Int) : List Int → Int × zS × (Int → Int) → Int × zS × (Int → Int)
  | [], q => q
  | p :: L, q => zHa sg e L (q.1 + 1, zSn q.1 (zhn sg e p) (fun j => zle (sg (p + j))) q.2.1, fun h => if h = q.1 then zdi (sg (p + zhn sg e p)) else q.2.2 h)
theorem zSn_o {c D l : Int} {lt : Int → Int} {S : zS} (h : zSo c D S) (hc : c < 8) (hl : 1 ≤ l ∧ l ≤ 6) (ht : ∀ j, 0 ≤ j → j < l → 0 ≤ lt j ∧ lt j < 8) : zSo (c + 1) D (zSn c l lt S) := by
  obtain ⟨⟨t1, t2, t3, t4⟩, s2, s3, s4⟩ := h
  refine ⟨⟨by omega, t2, fun x a b => ?_, fun k a b => ?_⟩, s2, fun x a b => ?_, s4⟩
  · show 1 ≤ naL S.len c l x ∧ naL S.len c l x ≤ 6
    unfold naL
    by_cases q : x = c
    · rw [if_pos q]; exact hl
    · rw [if_neg q]; exact t3 x a (by omega)
  · show 0 ≤ naN S.nam lt c l k ∧ naN S.nam lt c l k < 8
    unfold naN
    by_cases q : 6 * c ≤ k ∧ k < 6 * c + l
    · rw [if_pos q]; exact ht _ (by omega) (by omega)
    · rw [if_neg q]; exact t4 k a b
  · show naL S.len c l x = 0 ∧ S.dry x = 0 ∧ S.had x = 0
    unfold naL
    rw [if_neg (by omega)]; exact s3 x (by omega) b
theorem zSn_0 {c D : Int} {lt : Int → Int} {S : zS} {M : zM} (ho : zSo c D S) (hc : c < 8) (h : zAt 23 c S M) : zAt 23 c (zSn c 0 lt S) M := by
  obtain ⟨a1, a2, a3, a4, a5, a6, a7⟩ := h
  have c0 := ho.1.1
  refine ⟨a1, a2, a3, fun k a b => ?_, fun x a b => ?_, a6, a7⟩
  · rw [a4 k a b]
    show S.nam k = naN S.nam lt c 0 k
    unfold naN; rw [if_neg (by omega)]
  · rw [a5 x a b]
    show S.len x = naL S.len c 0 x
    unfold naL
    by_cases q : x = c
    · rw [if_pos q, q]; exact (ho.2.2.1 c (by omega) hc).1
    · rw [if_neg q]
/-- the class adds the lines of a text -/
theorem s_W_addHouses {d : Nat} {c D : Int} {S : zS} {M : zM} {F : zM → Prop} (hn : 1 ≤ M 1 1 ∧ M 1 1 ≤ 71) (hA : zAt 23 c S M) (ho : zSo c D S) (hb : (zhl (M 2) (M 1 1) 9 0 c).1 = true) (he : (zhl (M 2) (M 1 1) 9 0 c).2.1 = M 1 1) (H : ∀ M', zf [25, 26, 46] [(23, 5)] M M' → zAt 23 (zHa (M 2) (M 1 1) (zhl (M 2) (M 1 1) 9 0 c).2.2 (c, S, M 46)).1 (zHa (M 2) (M 1 1) (zhl (M 2) (M 1 1) 9 0 c).2.2 (c, S, M 46)).2.1 M' → M' 46 = (zHa (M 2) (M 1 1) (zhl (M 2) (M 1 1) 9 0 c).2.2 (c, S, M 46)).2.2 → zSo (zHa (M 2) (M 1 1) (zhl (M 2) (M 1 1) 9 0 c).2.2 (c, S, M 46)).1 D (zHa (M 2) (M 1 1) (zhl (M 2) (M 1 1) 9 0 c).2.2 (c, S, M 46)).2.1 → F M') : zCv (d + 2) 8 [z_r (10, 0) 0] M F := by
  refine e_W_addHouses (fun P hP => ?_)
  generalize hR : zHa (M 2) (M 1 1) (zhl (M 2) (M 1 1) 9 0 c).2.2 (c, S, M 46) = R at H
  have main : ∀ (f : Nat) (p c : Int) (S : zS) (M1 : zM), 0 ≤ p → p ≤ M 1 1 → (zhl (M 2) (M 1 1) f p c).1 = true → (zhl (M 2) (M 1 1) f p c).2.1 = M 1 1 → zHa (M 2) (M 1 1) (zhl (M 2) (M 1 1) f p c).2.2 (c, S, M1 46) = R → zf [25, 26, 46] [(23, 5)] M M1 → zAt 23 c S M1 → zSo c D S → P p M1 := by
    intro f
    induction f with
    | zero => intro p c S M1 _ _ hb; exact absurd hb Bool.false_ne_true
    | succ f ih =>
      intro p c S M1 p0 pe hb he hR f1 A1 O1
      have c8 := O1.1.1
      obtain ⟨⟨a1, a2, a3⟩, a4, a5⟩ := zhn_s (sg := M 2) pe
      have s := zh1_s (sg := M 2) (e := M 1 1) (p := p) pe
      unfold zhl at hb he hR
      by_cases q : 8 ≤ c
      · rw [if_pos q] at hb; exact absurd hb Bool.false_ne_true
      · rw [if_neg q] at hb he hR
        by_cases q1 : (zh1 (M 2) (M 1 1) p).1 = true
        · rw [if_pos q1] at hb he hR
          obtain ⟨u1, u2, u3⟩ := s.2.2 q1
          have l9 := zd9_lt u2
          generalize hlt : (fun j => zle (M 2 (p + j))) = lt
          have elt : ∀ j, zle (M 2 (p + j)) = lt j := fun j => by rw [← hlt]
          have m11 : ∀ M2, zf [25, 26, 46] [(23, 5)] M M2 → M2 1 1 = M 1 1 ∧ M2 2 = M 2 := fun M2 f2 => ⟨zf_a f2 1 1 rfl, zf_c f2 2 rfl⟩
          -- behind the name
          have tail : ∀ (M2 : zM), zf [25, 26, 46] [(23, 5)] M M2 → M2 46 = M1 46 → zAt 23 c (zSn c (zhn (M 2) (M 1 1) p) lt S) M2 → P (p + zhn (M 2) (M 1 1) p) M2 := by
            intro M2 f2 e46 A2
            obtain ⟨x1, x2⟩ := m11 M2 f2
            refine hP _ _ ⟨fun z => absurd z (by omega), fun _ => ⟨fun z => absurd z (by rw [A2.1]; omega), fun _ => s_Text_at (by omega) ?_⟩⟩
            rw [x1, x2, if_pos (by omega)]
            refine s_W_letterOf (s_Text_at (by omega) ?_)
            rw [x1, x2, if_pos (by omega)]
            refine s_W_digitOf ?_
            have dg : zdi (M 2 (p + zhn (M 2) (M 1 1) p)) = M 2 (p + zhn (M 2) (M 1 1) p) - 48 := by unfold zdi; rw [if_pos (by omega)]
            have nl : zle (M 2 (p + zhn (M 2) (M 1 1) p)) = -1 := by unfold zle; rw [if_neg (by omega)]
            rw [A2.1, nl]
            refine ⟨fun _ => ⟨fun z => absurd z (by omega), fun _ => ⟨by omega, ?_⟩⟩, fun z => absurd rfl z⟩
            rw [zu_c (by decide), A2.1, zw (x := c + 1) (by omega) (by omega), zw (x := p + zhn (M 2) (M 1 1) p + 1) (by omega) (by omega), ← u3]
            generalize hM3 : z_up (z_up M2 46 c (zdi (M 2 (p + zhn (M 2) (M 1 1) p)))) 23 5 (c + 1) = M3
            have f3 : zf [25, 26, 46] [(23, 5)] M M3 := by rw [← hM3]; exact zf_uj (zf_us f2 (by decide)) (by decide)
            have A3 : zAt 23 (c + 1) (zSn c (zhn (M 2) (M 1 1) p) lt S) M3 := by
              obtain ⟨b1, b2, b3, b4, b5, b6, b7⟩ := A2
              rw [← hM3]
              exact ⟨zu_s _ _ _ _, by rw [zu_i (by decide), zu_c (by decide)]; exact b2, fun i a b => by rw [zu_c (by decide), zu_c (by decide)]; exact b3 i a b, fun i a b => by rw [zu_c (by decide), zu_c (by decide)]; exact b4 i a b, fun i a b => by rw [zu_c (by decide), zu_c (by decide)]; exact b5 i a b, fun i a b => by rw [zu_c (by decide), zu_c (by decide)]; exact b6 i a b, fun i a b => by rw [zu_c (by decide), zu_c (by decide)]; exact b7 i a b⟩
            have T3 : M3 46 = (fun h => if h = c then zdi (M 2 (p + zhn (M 2) (M 1 1) p)) else M1 46 h) := by
              funext h
              rw [← hM3, zu_c (by decide)]
              by_cases w : h = c
              · rw [if_pos w, w, zu_s]
              · rw [if_neg w, zu_i w, e46]
            have O3 : zSo (c + 1) D (zSn c (zhn (M 2) (M 1 1) p) lt S) := zSn_o O1 (by omega) ⟨u1, a2⟩ (fun j a b => by rw [← elt]; exact ⟨(a4 j a b).2, zle_r (a4 j a b).2⟩)
            obtain ⟨y1, y2⟩ := m11 M3 f3
            by_cases q3 : zat (M 2) (M 1 1) (zh1 (M 2) (M 1 1) p).2 = 59
            · rw [if_pos q3] at hb he hR
              have l := zat_lt (sg := M 2) (e := M 1 1) (p := (zh1 (M 2) (M 1 1) p).2) (by omega)
              rw [l.2] at q3
              have hR : zHa (M 2) (M 1 1) (zhl (M 2) (M 1 1) f ((zh1 (M 2) (M 1 1) p).2 + 1) (c + 1)).2.2 (c + 1, zSn c (zhn (M 2) (M 1 1) p) (fun j => zle (M 2 (p + j))) S, fun h => if h = c then zdi (M 2 (p + zhn (M 2) (M 1 1) p)) else M1 46 h) = R := hR
              rw [hlt, ← T3] at hR
              have go : P ((zh1 (M 2) (M 1 1) p).2 + 1) M3 := ih ((zh1 (M 2) (M 1 1) p).2 + 1) (c + 1) _ M3 (by omega) (by omega) hb he hR f3 A3 O3
              by_cases q8 : 8 ≤ c + 1
              · exfalso
                have hb : (zhl (M 2) (M 1 1) f ((zh1 (M 2) (M 1 1) p).2 + 1) (c + 1)).1 = true := hb
                cases f with
                | zero => exact absurd hb Bool.false_ne_true
                | succ f => unfold zhl at hb; rw [if_pos q8] at hb; exact absurd hb Bool.false_ne_true
              · refine hP _ _ ⟨fun z => absurd z (by omega), fun _ => ⟨fun z => absurd z (by rw [A3.1]; omega), fun _ => s_Text_at (by omega) ?_⟩⟩
                rw [y1, y2, if_pos (by omega), q3]
                refine s_W_letterOf (s_Text_at (by omega) ?_)
                rw [y1, y2, if_pos (by omega), q3]
                refine s_W_digitOf ⟨fun _ => ⟨fun _ => ?_, fun z => absurd (by decide) z⟩, fun z => absurd (by decide) z⟩
                rw [zw (x := (zh1 (M 2) (M 1 1) p).2 + 1) (by omega) (by omega)]
                exact go
            · rw [if_neg q3] at he hR
              have he : (zh1 (M 2) (M 1 1) p).2 = M 1 1 := he
              have hR : ((c + 1, zSn c (zhn (M 2) (M 1 1) p) (fun j => zle (M 2 (p + j))) S, fun h => if h = c then zdi (M 2 (p + zhn (M 2) (M 1 1) p)) else M1 46 h) : Int × zS × (Int → Int)) = R := hR
              rw [hlt, ← T3] at hR
              refine hP _ _ ⟨fun _ => H M3 f3 (by rw [← hR]; exact A3) (by rw [← hR]) (by rw [← hR]; exact O3), fun z => absurd (by omega) z⟩
          have name : ∀ (m : Nat) (j : Int) (M2 : zM), j + m = zhn (M 2) (M 1 1) p → 0 ≤ j → zf [25, 26, 46] [(23, 5)] M M2 → M2 46 = M1 46 → zAt 23 c (zSn c j lt S) M2 → P (p + j) M2 := by
            intro m
            induction m with
            | zero => intro j M2 hj j0 f2 e46 A2; rw [show j = zhn (M 2) (M 1 1) p by omega] at A2 ⊢; exact tail M2 f2 e46 A2
            | succ m ih2 =>
              intro j M2 hj j0 f2 e46 A2
              obtain ⟨x1, x2⟩ := m11 M2 f2
              obtain ⟨b1, b2⟩ := a4 j j0 (by omega)
              have lj : M2 26 c = j := by
                have := A2.2.2.2.2.1 c c8.1 (by omega)
                have : M2 26 c = naL S.len c j c := this
                unfold naL at this; rw [if_pos rfl] at this; exact this
              refine hP _ _ ⟨fun z => absurd z (by omega), fun _ => ⟨fun z => absurd z (by rw [A2.1]; omega), fun _ => s_Text_at (by omega) ?_⟩⟩
              rw [x1, x2, if_pos (by omega)]
              refine s_W_letterOf (s_Text_at (by omega) ?_)
              rw [x1, x2, if_pos (by omega)]
              refine s_W_digitOf ⟨fun z => absurd z ((zle_1 _).mpr b2), fun _ => ?_⟩
              rw [A2.1]
              refine e_Town_lengthen ?_
              have lj' : M2 (23 + 3) c = j := lj
              rw [lj', zw (x := c * 6) (by omega) (by omega), zw (x := c * 6 + j) (by omega) (by omega), zu_c (by decide), lj', zw (x := j + 1) (by omega) (by omega), zw (x := p + j + 1) (by omega) (by omega), show p + j + 1 = p + (j + 1) by omega]
              refine ⟨by omega, fun z => absurd z (by omega), fun _ => ⟨by omega, by omega, by omega, by omega, ?_⟩⟩
              refine ih2 (j + 1) _ (by omega) (by omega) (zf_us (zf_us f2 (by decide)) (by decide)) (by rw [zu_f (by decide), zu_f (by decide)]; exact e46) ?_
              obtain ⟨d1, d2, d3, d4, d5, d6, d7⟩ := A2
              refine ⟨by rw [zu_c (by decide), zu_c (by decide)]; exact d1, by rw [zu_c (by decide), zu_c (by decide)]; exact d2, fun i a b => by rw [zu_c (by decide), zu_c (by decide)]; exact d3 i a b, fun k a b => ?_, fun x a b => ?_, fun i a b => by rw [zu_c (by decide), zu_c (by decide)]; exact d6 i a b, fun i a b => by rw [zu_c (by decide), zu_c (by decide)]; exact d7 i a b⟩
              · rw [zu_c (by decide)]
                have dk := d4 k a b
                have dk : M2 (23 + 2) k = naN S.nam lt c j k := dk
                show _ = naN S.nam lt c (j + 1) k
                by_cases w : k = c * 6 + j
                · rw [w, zu_s]; unfold naN; rw [if_pos (by omega), show c * 6 + j - 6 * c = j by omega]; exact elt j
                · rw [zu_i w, dk]
                  unfold naN
                  by_cases w2 : 6 * c ≤ k ∧ k < 6 * c + j
                  · rw [if_pos w2, if_pos (by omega)]
                  · rw [if_neg w2, if_neg (by omega)]
              · have dk := d5 x a b
                have dk : M2 (23 + 3) x = naL S.len c j x := dk
                show _ = naL S.len c (j + 1) x
                unfold naL at dk ⊢
                by_cases w : x = c
                · rw [w, zu_s, if_pos rfl]
                · rw [zu_i w, zu_c (by decide), dk, if_neg w, if_neg w]
          have := name (zhn (M 2) (M 1 1) p).toNat 0 M1 (by omega) (by omega) f1 rfl (zSn_0 O1 (by omega) A1)
          rw [Int.add_zero] at this
          exact this
        · rw [if_neg q1] at hb; exact absurd hb Bool.false_ne_true
  exact main 9 0 c S M (by omega) (by omega) hb he hR zf_rf hA ho

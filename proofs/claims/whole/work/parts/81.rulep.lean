/-! rule(): both sides -/
theorem s_M_faultOf {d : Nat} {n x p t : Int} {M : zM} {F : Int → zM → Prop} (hp : M 179 12 = p) (ht : M 179 13 = t) (h1 : 0 ≤ p ∧ p ≤ t ∧ t ≤ 40) (h2 : 40 < n → t = 40) (hx : x = 0 ∨ x = 1) (H : F (if x = 1 ∧ p = t ∧ n ≤ 40 then 0 else -1 - p) M) : zCi (d + 1) 160 [z_r (11, 0) 179, z_i n, z_i 40, z_i x] M F := by
  refine e_M_faultOf ?_
  rw [hp, ht, zw (x := -1 - p) (by omega) (by omega), zw (x := -1 - 40) (by omega) (by omega)]
  have bad : ¬ (x = 1 ∧ p = t) → ((n ≤ 40 → (((0 : Int) = 0 → F (-1 - p) M) ∧ (¬ ((0 : Int) = 0) → F 0 M))) ∧ (¬ (n ≤ 40) → (((0 : Int) ≠ 0 → F (-1 - 40) M) ∧ (¬ ((0 : Int) ≠ 0) → ((p < 40 → (((0 : Int) = 0 → F (-1 - p) M) ∧ (¬ ((0 : Int) = 0) → F 0 M))) ∧ (¬ (p < 40) → F (-1 - 40) M)))))) := by
    intro hb
    rw [if_neg (fun z => hb ⟨z.1, z.2.1⟩)] at H
    refine ⟨fun _ => ⟨fun _ => H, fun z => absurd rfl z⟩, fun z => ⟨fun w => absurd rfl w, fun _ => ⟨fun _ => ⟨fun _ => H, fun w => absurd rfl w⟩, fun w => ?_⟩⟩⟩
    rw [show -1 - p = -1 - (40 : Int) by omega] at H; exact H
  refine ⟨fun z => bad (by omega), fun z => ⟨fun z2 => bad (fun q => z2 q.2), fun z2 => ⟨fun z3 => ⟨fun w => absurd w (by decide), fun _ => ?_⟩, fun z3 => ⟨fun _ => ?_, fun w => absurd (by decide) w⟩⟩⟩⟩
  · rw [if_pos ⟨by omega, Classical.not_not.mp z2, z3⟩] at H; exact H
  · rw [if_neg (fun w => z3 w.2.2), Classical.not_not.mp z2, h2 (by omega)] at H; exact H
theorem s_M_readsRule {d : Nat} {sg : Int → Int} {n : Int} {M : zM} {F : Int → zM → Prop} (hn : M 179 11 = n) (h0 : 0 ≤ n ∧ n ≤ 80) (hs : ∀ j, 0 ≤ j → j < n → M 185 j = sg j ∧ 0 ≤ sg j) (H : ∀ M', zf [191] [(179, 11), (179, 12), (179, 13), (179, 14), (179, 23)] M M' → M' 179 11 = 0 → M' 179 23 = ((zrr n sg).2.2.2.length : Int) → (∀ j : Nat, j < (zrr n sg).2.2.2.length → M' 191 (j : Int) = (zrr n sg).2.2.2.getD j 0) → F (if zrf n sg = -1 then 0 else -1 - zrf n sg) M') : zCi (d + 813) 166 [z_r (11, 0) 179] M F := by
  have e40 : 0 ≤ zre n ∧ zre n ≤ 40 ∧ zre n ≤ n ∧ (40 < n → zre n = 40) := by unfold zre; split <;> omega
  refine e_M_readsRule (s_M_begins (fun M1 f1 w1 w2 w3 w4 => ?_))
  rw [hn] at w4 ⊢
  have w4 : M1 179 13 = zre n := by
    rw [w4]; unfold zre
    by_cases q : n < 40
    · rw [if_neg (by omega), if_pos q]
    · rw [if_neg q]
      by_cases q2 : 40 < n
      · rw [if_pos q2]
      · rw [if_neg q2]; omega
  generalize hB : z_up M1 179 23 0 = B
  have fB : zf [191] [(179, 11), (179, 12), (179, 13), (179, 14), (179, 23)] M B := by rw [← hB]; exact zf_uj (zf_ww f1 rfl rfl) (by decide)
  have b11 : B 179 11 = 0 := by rw [← hB, zu_i (by decide)]; exact w1
  have b12 : B 179 12 = 0 := by rw [← hB, zu_i (by decide)]; exact w2
  have b13 : B 179 13 = zre n := by rw [← hB, zu_i (by decide)]; exact w4
  have b14 : B 179 14 = 0 := by rw [← hB, zu_i (by decide)]; exact w3
  have b23 : B 179 23 = 0 := by rw [← hB, zu_s]
  have hB2 : zRB2 sg (zre n) B := ⟨⟨e40.1, e40.2.1⟩, b13, fun j a b => by rw [zf_c fB 185 rfl]; exact hs j a (by omega)⟩
  refine ⟨fun z => ?_, fun z => ?_⟩
  · subst z
    refine s_M_faultOf b12 b13 (by omega) (by omega) (Or.inr rfl) ?_
    have := H B fB b11 (by rw [b23]; unfold zrr; rw [if_pos rfl]; rfl) (fun j hj => by unfold zrr at hj; rw [if_pos rfl] at hj; exact absurd hj (by simp))
    rw [show zrf 0 sg = -1 by unfold zrf zrr zre; rw [if_pos rfl]; rfl, if_pos rfl] at this
    rw [show zre 0 = 0 from rfl, if_pos ⟨rfl, rfl, by decide⟩]
    exact this
  · have er : zrr n sg = zpr sg (zre n) 400 0 0 0 [] := by unfold zrr; rw [if_neg z]
    have hz := zrr_b (n := n) (sg := sg) h0.1
    unfold zrf at H
    rw [er] at H hz
    have rd := (s_R_all hB2 400 400 (Nat.le_refl _)).2 d 0 0 0 [] B
    rw [show d + 2 * 400 + 12 = d + 812 by omega] at rd
    refine rd _ (by omega) (by omega) (by omega) (by have : zfn 0 (zre n) 0 = 8 * (zre n - 0) + (8 - ((0 : Nat) : Int)) := rfl; omega) (by simp) ⟨zf_rf, b12, b14, by rw [b23]; rfl, fun j hj => absurd hj (by simp)⟩ (fun b p' k' cs' M2 hr h2 => ?_)
    rw [hr] at H hz
    have hz : (0 ≤ p' ∧ p' ≤ zre n) ∧ (cs'.length : Int) ≤ p' ∧ zre n ≤ 40 := hz
    have fin := H M2 (zf_ww (zf_tr fB h2.1) rfl rfl) (by rw [zf_a h2.1 179 11 rfl]; exact b11) h2.2.2.2.1 h2.2.2.2.2
    have m13 : M2 179 13 = zre n := by rw [zf_a h2.1 179 13 rfl]; exact b13
    have fin : F (if (if b = true ∧ p' = zre n ∧ n ≤ 40 then -1 else p') = -1 then 0 else -1 - (if b = true ∧ p' = zre n ∧ n ≤ 40 then -1 else p')) M2 := fin
    cases b with
    | false =>
      refine ⟨fun _ => s_M_faultOf h2.2.1 m13 (by omega) e40.2.2.2 (Or.inl rfl) ?_, fun w => absurd (by decide) w⟩
      rw [if_neg (fun w => absurd w.1 (by decide))]
      have ev : (if false = true ∧ p' = zre n ∧ n ≤ 40 then (-1 : Int) else p') = p' := if_neg (fun w => absurd w.1 (by decide))
      rw [ev, if_neg (by omega)] at fin
      exact fin
    | true =>
      refine ⟨fun w => absurd w (by decide), fun _ => s_M_faultOf h2.2.1 m13 (by omega) e40.2.2.2 (Or.inr rfl) ?_⟩
      by_cases q : p' = zre n ∧ n ≤ 40
      · rw [if_pos ⟨rfl, q⟩]
        have ev : (if true = true ∧ p' = zre n ∧ n ≤ 40 then (-1 : Int) else p') = -1 := if_pos ⟨rfl, q⟩
        rw [ev, if_pos rfl] at fin
        exact fin
      · rw [if_neg (fun w => q w.2)]
        have ev : (if true = true ∧ p' = zre n ∧ n ≤ 40 then (-1 : Int) else p') = p' := if_neg (fun w => q w.2)
        rw [ev, if_neg (by omega)] at fin
        exact fin
theorem s_M_laysCode {d q : Nat} {n k : Int} {M : zM} {F : zM → Prop} (hq : q ≠ 190 ∧ q ≠ 179) (hn : 0 ≤ n ∧ n ≤ 80) (hk : n ≤ k) (H : ∀ M', zf [190] [(179, 22)] M M' → M' 179 22 = n → (∀ j, 0 ≤ j → j < n → M' 190 j = M q j) → F M') : zCv (d + 1) 170 [z_r (11, 0) 179, z_r (100, k) q, z_i n] M F := by
  refine e_M_laysCode (fun P hP => ?_)
  have loop : ∀ (m i : Nat) (M1 : zM), (i : Int) + m = n → zf [190] [(179, 22)] M M1 → M1 179 22 = n → (∀ j, M1 q j = M q j) → (∀ j : Int, 0 ≤ j → j < i → M1 190 j = M q j) → P k q n (i : Int) M1 := by
    intro m
    induction m with
    | zero =>
      intro i M1 hi f1 e1 e2 e3
      exact hP _ _ _ _ _ ⟨fun _ => H M1 f1 e1 (fun j a b => e3 j a (by omega)), fun z => absurd (by omega) z⟩
    | succ m ih =>
      intro i M1 hi f1 e1 e2 e3
      refine hP _ _ _ _ _ ⟨fun z => absurd z (by omega), fun _ => ⟨by omega, by omega, ?_⟩⟩
      rw [zw (x := (i : Int) + 1) (by omega) (by omega), e2]
      have := ih (i + 1) (z_up M1 190 (i : Int) (M q (i : Int))) (by omega) (zf_us f1 (by decide)) (by rw [zu_c (by decide)]; exact e1) (fun j => by rw [zu_c hq.1]; exact e2 j) (fun j a b => ?_)
      · rw [show ((i + 1 : Nat) : Int) = (i : Int) + 1 by omega] at this
        exact this
      · by_cases e : j = i
        · rw [e, zu_s]
        · rw [zu_i e]; exact e3 j a (by omega)
  exact loop n.toNat 0 _ (by omega) (zf_uj zf_rf (by decide)) (zu_s _ _ _ _) (fun j => zu_c hq.2) (fun j a b => by omega)
theorem zrf_iU {n : Int} {sg sg' : Int → Int} {cl : Int} {cd : Int → Int} (h0 : 0 ≤ n) (hf : zrf n sg = -1) (hs : ∀ j, 0 ≤ j → j < n → sg' j = sg j) (h1 : cl = ((zrr n sg).2.2.2.length : Int)) (h2 : ∀ j : Nat, j < (zrr n sg).2.2.2.length → cd (j : Int) = (zrr n sg).2.2.2.getD j 0) : iU n sg' cl cd := by
  by_cases n0 : n = 0
  · left
    refine ⟨n0, ?_⟩
    rw [h1]; unfold zrr; rw [if_pos n0]; rfl
  · right
    have hz := zrr_b (n := n) (sg := sg) h0
    have er : zrr n sg = zpr sg (zre n) 400 0 0 0 [] := by unfold zrr; rw [if_neg n0]
    have hff := hf
    unfold zrf at hf
    by_cases q : (zrr n sg).1 = true ∧ (zrr n sg).2.1 = zre n ∧ n ≤ 40
    · have en : zre n = n := by unfold zre; split <;> omega
      rw [en] at er hz q
      have ec := zpr_c hs 400 0 0 0 [] (by omega) (by omega) (by omega)
      rw [er] at q hz h1 h2
      rcases hr : zpr sg n 400 0 0 0 [] with ⟨b, p', k', cs'⟩
      rw [hr] at q hz h1 h2 ec
      obtain ⟨-, -, -, l4⟩ := zpr_len sg n 400 0 0 0 [] b p' k' cs' (by omega) (by omega) hr
      have q1 : b = true := q.1
      have q2 : p' = n := q.2.1
      have hz2 : (cs'.length : Int) ≤ p' := hz.2.1
      refine ⟨by omega, q.2.2, cs', ?_, h1, by omega, h2⟩
      rw [ec, q1, q2, l4 q1]
    · rw [if_neg q] at hf
      omega
theorem p_rule {d : Nat} {n : Int} {M : zM} (hI : zI n M) (hn : n < 512) : zQ (d + 814) 14 165 [z_r (10, 0) 0] [z_r (11, 0) 179] n M := by
  have hI0 := hI
  obtain ⟨hb, ⟨t1, t2, t3, t4⟩, hR, hJ⟩ := hI
  have hJ0 := hJ
  obtain ⟨j1, j2, j3, j4, j5, j6, j7, j8⟩ := hJ
  have hz := zrr_b (n := M 1 1) (sg := M 2) t2
  have zf1 : zrf (M 1 1) (M 2) ≠ -1 → 0 ≤ zrf (M 1 1) (M 2) ∧ zrf (M 1 1) (M 2) ≤ 40 := fun q => by
    unfold zrf at q ⊢
    split
    · rename_i w; rw [if_pos w] at q; exact absurd rfl q
    · omega
  unfold zQ
  refine e_W_rule (s_W_takeRule (a := 5) (by decide) ⟨t2, t3⟩ (fun hf M1 f1 m1 m2 m3 => ?_) (fun hf => ?_))
  · have f1 : zf [6] [(5, 1), (1, 1)] M M1 := f1
    refine ⟨fun z => absurd rfl z, fun _ => ?_⟩
    have f2 : zf [6] [(5, 1), (1, 1), (179, 0)] M (z_up M1 179 0 0) := zf_uj (zf_ww f1 rfl rfl) (by decide)
    refine e_M_rule (s_M_readsRule (sg := M 2) (n := M 1 1) (by rw [zf_a f2 179 11 rfl]; exact t1.symm) ⟨t2, t3⟩ (fun j a b => by rw [zf_c f2 185 rfl]; have := t4 j a b; exact ⟨this.1.symm, this.2.1⟩) (fun M2 f3 u1 u2 u3 => ?_))
    rw [if_pos hf, u2]
    refine ⟨fun z => absurd rfl z, fun _ => s_M_laysCode (by decide) (by omega) (by omega) (fun M3 f4 v1 v2 => ⟨rfl, ?_⟩)⟩
    have f := zf_tr (zf_tr f2 f3) f4
    have i3 : M3 179 3 = M 179 3 := zf_a f 179 3 rfl
    refine ⟨⟨by omega, by omega⟩, iT_0 ?_ ?_, iR_f hR f rfl, zJ_n (n := n) ⟨?_, ?_, ?_, ?_, ?_, ?_, ?_, ?_⟩ (by omega)⟩
    · rw [zf_a f4 1 1 rfl, zf_a f3 1 1 rfl, zu_c (by decide)]; exact m1
    · rw [zf_a f4 179 11 rfl]; exact u1
    · rw [i3]
      exact tR_c j1 (zf_a f 23 5 rfl) (zf_a f 23 6 rfl) (zf_c f 24 rfl) (zf_c f 25 rfl) (zf_c f 26 rfl) (zf_c f 27 rfl) (zf_c f 28 rfl) (zf_c f 183 rfl)
    · rw [i3, zf_c f 46 rfl, zf_c f 182 rfl]; exact j2
    · rw [zf_a f 45 2 rfl, zf_a f 179 5 rfl, zf_c f 47 rfl, zf_c f 181 rfl]; exact j3
    · have x1 : M3 5 1 = M 1 1 := by rw [zf_a f4 5 1 rfl, zf_a f3 5 1 rfl, zu_c (by decide)]; exact m2
      have x2 : M3 6 = M1 6 := by rw [zf_c f4 6 rfl, zf_c f3 6 rfl, zu_f (by decide)]
      rw [x1, x2, v1]
      refine zrf_iU t2 hf m3 rfl (fun j hj => ?_)
      rw [v2 j (by omega) (by omega)]
      exact u3 j hj
    · rw [i3]
      exact iP_c j5 (zf_a f 49 1 rfl) (zf_a f 49 2 rfl) (zf_a f 179 33 rfl) (zf_c f 201 rfl) (zf_r f 51 140 rfl)
    · rw [i3]
      exact iK_c j6 (zf_a f 0 11 rfl) (zf_a f 179 4 rfl) (zf_c f 219 rfl) (zf_c f 220 rfl) (zf_c f 221 rfl) (zf_r f 161 178 rfl)
    · rw [i3, zf_a f 0 14 rfl, zf_c f 142 rfl, zf_c f 143 rfl, zf_a f 179 57 rfl, zf_c f 216 rfl, zf_c f 217 rfl]; exact j7
    · rw [zf_a f 159 0 rfl, zf_a f 154 0 rfl]; exact j8
  · refine ⟨fun _ => ?_, fun z => absurd hf z⟩
    have zr := zf1 hf
    rw [zw (by omega) (by omega)]
    have f2 : zf [] [(1, 1), (179, 0)] M (z_up (z_up M 1 1 0) 179 0 0) := zf_uj (zf_uj zf_rf (by decide)) (by decide)
    refine e_M_rule (s_M_readsRule (sg := M 2) (n := M 1 1) (by rw [zf_a f2 179 11 rfl]; exact t1.symm) ⟨t2, t3⟩ (fun j a b => by rw [zf_c f2 185 rfl]; have := t4 j a b; exact ⟨this.1.symm, this.2.1⟩) (fun M2 f3 u1 u2 u3 => ?_))
    rw [if_neg hf]
    have f := zf_tr f2 f3
    refine ⟨fun _ => ⟨rfl, ⟨by omega, by omega⟩, iT_0 ?_ u1, iR_f hR f rfl, zJ_n (zJ_f hJ0 f rfl) (by omega)⟩, fun z => absurd (by omega) z⟩
    rw [zf_a f3 1 1 rfl, zu_c (by decide), zu_s]

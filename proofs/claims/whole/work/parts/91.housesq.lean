/-! houses(): both sides -/
theorem s_Z_takes {d : Nat} {sg : Int → Int} {e p c : Int} {M : zM} {F : Int → zM → Prop} (h : zZB sg e p M) (hp : 0 ≤ p ∧ p ≤ e) (hc : 0 ≤ c) (H1 : zat sg e p = c → F 1 (z_up M 179 12 (p + 1))) (H0 : zat sg e p ≠ c → F 0 (z_up M 179 12 p)) : zCi (d + 2) 159 [z_r (11, 0) 179, z_i c] M F := by
  obtain ⟨h1, h2, h3, h4⟩ := h
  refine e_M_takes ?_
  rw [h1, h2]
  refine ⟨fun z => s_M_flag (b := false) rfl ?_, fun z => ⟨by omega, fun z2 => s_M_flag (b := false) rfl ?_, fun z2 => s_M_flag (b := true) rfl ?_⟩⟩
  · show F 0 (z_up M 179 12 (z_wr (p + 0)))
    rw [zw (by omega) (by omega), Int.add_zero]
    refine H0 ?_
    unfold zat; rw [if_neg (by omega)]; omega
  · show F 0 (z_up M 179 12 (z_wr (p + 0)))
    rw [zw (by omega) (by omega), Int.add_zero]
    refine H0 ?_
    rw [h4 p hp.1 (by omega)] at z2
    unfold zat; rw [if_pos (by omega)]; exact z2
  · show F 1 (z_up M 179 12 (z_wr (p + 1)))
    rw [zw (by omega) (by omega)]
    refine H1 ?_
    rw [h4 p hp.1 (by omega)] at z2
    unfold zat; rw [if_pos (by omega)]; exact Classical.not_not.mp z2
def zLL (sg : Int → Int) (e : Int) (L : List Int) (M : zM) : Prop := ∀ i : Nat, i < L.length → zLk sg e (i : Int) (L.getD i 0) M
theorem p_houses {d : Nat} {n : Int} {M : zM} (hI : zI n M) (hn : n < 512) : zQ (d + 13) 3 152 [z_r (10, 0) 0] [z_r (11, 0) 179] n M := by
  have hI0 := hI
  obtain ⟨hb, ⟨t1, t2, t3, t4⟩, hR, hJ⟩ := hI
  have hJ0 := hJ
  obtain ⟨c1, c2, c3⟩ := zJ_count hJ
  obtain ⟨j1, j2, j3, j4, hP0, hK, j7, j8⟩ := hJ
  obtain ⟨s1, s2, s3⟩ := zS0_of j1
  generalize hS : zS0 M 23 = S at s1 s2 s3
  have e71 : 0 ≤ zhe (M 1 1) ∧ zhe (M 1 1) ≤ 71 ∧ zhe (M 1 1) ≤ M 1 1 ∧ (M 1 1 ≤ 71 → zhe (M 1 1) = M 1 1) ∧ (71 < M 1 1 → zhe (M 1 1) = 71) := by unfold zhe; split <;> omega
  -- the reference reads
  have rd : 1 ≤ M 1 1 → ∀ (F : Int → zM → Prop) (M0 : zM), M0 179 11 = M 1 1 → M0 179 3 = M 179 3 → (∀ j, 0 ≤ j → j < M 1 1 → M0 185 j = M 2 j) → ∀ (P29 : Int → Int → Int → zM → Prop) (P81 : Int → Int → Int → Int → Int → zM → Prop), (∀ (x1 : Int) (x2 : Int) (x3 : Int) (M : zM), ((x3 = 0 → zCi (d + 12) 160 [z_r (11, 0) 179, z_i x1, z_i 71, z_i x2] M (fun v15 M14 => ((0 ≤ v15 → P81 x1 x2 x3 v15 0 M14) ∧ (¬ (0 ≤ v15) → F v15 M14)))) ∧ (¬ (x3 = 0) → zCi (d + 12) 154 [z_r (11, 0) 179] M (fun v18 M17 => ((v18 = 0 → P29 x1 v18 0 M17) ∧ (¬ (v18 = 0) → zCi (d + 12) 159 [z_r (11, 0) 179, z_i 59] M17 (fun v20 M19 => ((v20 = 0 → P29 x1 v18 0 M19) ∧ (¬ (v20 = 0) → P29 x1 v18 1 M19)))))))) → P29 x1 x2 x3 M) → (zhf (M 1 1) (M 2) (M 179 3) = -1 → ∀ M5, zf [186, 187, 188] [(179, 11), (179, 12), (179, 13), (179, 14), (179, 18)] M0 M5 → M5 179 11 = 0 → M5 179 18 = ((zhl (M 2) (zhe (M 1 1)) 9 0 (M 179 3)).2.2.length : Int) → zLL (M 2) (zhe (M 1 1)) (zhl (M 2) (zhe (M 1 1)) 9 0 (M 179 3)).2.2 M5 → P81 (M 1 1) 1 0 0 0 M5) → (zhf (M 1 1) (M 2) (M 179 3) ≠ -1 → ∀ M5, zf [186, 187, 188] [(179, 11), (179, 12), (179, 13), (179, 14), (179, 18)] M0 M5 → M5 179 11 = 0 → F (-1 - zhf (M 1 1) (M 2) (M 179 3)) M5) → zCi (d + 12) 153 [z_r (11, 0) 179, z_i 71] M0 (fun v29 M28 => ((v29 ≤ 0 → P29 v29 1 0 (z_up M28 179 18 0)) ∧ (¬ (v29 ≤ 0) → P29 v29 1 1 (z_up M28 179 18 0)))) := by
    intro n1 F M0 g11 g3 g187 P29 P81 h29 K1 K0
    generalize hZ : zhl (M 2) (zhe (M 1 1)) 9 0 (M 179 3) = Z at K1
    generalize hE : zhe (M 1 1) = e at e71 K1 hZ
    have hzf : zhf (M 1 1) (M 2) (M 179 3) = if Z.1 = true ∧ Z.2.1 = e ∧ M 1 1 ≤ 71 then -1 else Z.2.1 := by unfold zhf; rw [hE, hZ]
    refine s_M_begins (fun B fB w1 w2 w3 w4 => ?_)
    rw [g11] at w4 ⊢
    have w4 : B 179 13 = e := by
      rw [w4, ← hE]; unfold zhe
      by_cases q : M 1 1 < 71
      · rw [if_neg (by omega), if_pos q]
      · rw [if_neg q]
        by_cases q2 : 71 < M 1 1
        · rw [if_pos q2]
        · rw [if_neg q2]; omega
    refine ⟨fun z => absurd z (by omega), fun _ => ?_⟩
    -- where it ends
    have stop : ∀ (b : Bool) (x r : Int) (L : List Int) (M4 : zM), x = (if b = true then 1 else 0) → zf [186, 187, 188] [(179, 11), (179, 12), (179, 13), (179, 14), (179, 18)] M0 M4 → M4 179 11 = 0 → zZB (M 2) e r M4 → 0 ≤ r → r ≤ e → (b = true → M4 179 18 = (L.length : Int) ∧ zLL (M 2) e L M4 ∧ L = Z.2.2) → b = Z.1 → r = Z.2.1 → P29 (M 1 1) x 0 M4 := by
      intro b x r L M4 hx f4 g4 zb4 r0 re hL eb er
      rw [← eb, ← er] at hzf
      refine h29 _ _ _ _ ⟨fun _ => s_M_faultOfT zb4.1 zb4.2.1 (by omega) e71.2.2.2.2 (by rw [hx]; exact zif01 b) ?_, fun z => absurd rfl z⟩
      by_cases w : b = true ∧ r = e ∧ M 1 1 ≤ 71
      · rw [if_pos w] at hzf
        have x1 : x = 1 := by rw [hx, if_pos w.1]
        rw [if_pos ⟨x1, w.2⟩]
        obtain ⟨l1, l2, l3⟩ := hL w.1
        rw [l3] at l1 l2
        rw [x1]
        exact ⟨fun _ => K1 hzf M4 f4 g4 l1 l2, fun z => absurd (by decide) z⟩
      · rw [if_neg w] at hzf
        rw [if_neg (fun q => w ⟨by rcases zif01 b with y | y; (rw [y] at hx; omega); (cases b; (simp at y); rfl), q.2⟩)]
        have K0 := K0 (by rw [hzf]; omega) M4 f4 g4
        rw [hzf] at K0
        exact ⟨fun z => absurd z (by omega), fun _ => K0⟩
    have loop : ∀ (f : Nat) (p : Int) (L : List Int) (M3 : zM), 0 ≤ p → p ≤ e → 9 ≤ (f : Int) + (M 179 3 + L.length) → M 179 3 + (L.length : Int) ≤ 8 → zf [186, 187, 188] [(179, 11), (179, 12), (179, 13), (179, 14), (179, 18)] M0 M3 → M3 179 11 = 0 → zZB (M 2) e p M3 → M3 179 18 = (L.length : Int) → zLL (M 2) e L M3 → ((zhl (M 2) e f p (M 179 3 + L.length)).1 = true → L ++ (zhl (M 2) e f p (M 179 3 + L.length)).2.2 = Z.2.2) → (zhl (M 2) e f p (M 179 3 + L.length)).1 = Z.1 → (zhl (M 2) e f p (M 179 3 + L.length)).2.1 = Z.2.1 → P29 (M 1 1) 1 1 M3 := by
      intro f
      induction f with
      | zero => intro p L M3 p0 pe hf hk; omega
      | succ f ih =>
        intro p L M3 p0 pe hf hk f3 g4 zb3 g18 al r1 r2 r3
        have s := zh1_s (sg := M 2) (e := e) (p := p) pe
        have c3' : M3 179 3 = M 179 3 := by rw [zf_a f3 179 3 rfl]; exact g3
        unfold zhl at r1 r2 r3
        refine h29 _ _ _ _ ⟨fun z => absurd z (by decide), fun _ => s_M_readsHouse zb3 ⟨p0, pe⟩ (by rw [c3']; exact ⟨c2, c3⟩) g18 (by rw [c3']; omega) (fun w => ?_) (fun w M4 f4 zb4 l4 n4 n5 => ?_)⟩
        · rw [c3'] at w
          rw [if_pos (by omega)] at r1 r2 r3
          exact ⟨fun _ => stop false 0 p L M3 rfl f3 g4 zb3 p0 pe (fun z => absurd z Bool.false_ne_true) r2 r3, fun z => absurd rfl z⟩
        · rw [c3'] at w
          rw [if_neg (by omega)] at r1 r2 r3
          have f34 : zf [186, 187, 188] [(179, 11), (179, 12), (179, 13), (179, 14), (179, 18)] M0 M4 := zf_ww (zf_tr f3 f4) rfl rfl
          have g44 : M4 179 11 = 0 := by rw [zf_a f4 179 11 rfl]; exact g4
          by_cases q : (zh1 (M 2) e p).1 = true
          · rw [if_pos q] at r1 r2 r3 ⊢
            obtain ⟨u1, u2, u3⟩ := s.2.2 q
            obtain ⟨m18, lk⟩ := l4 q
            have al4 : zLL (M 2) e (L ++ [p]) M4 := by
              intro i hi
              simp at hi
              simp only [List.getD_eq_getElem?_getD]
              by_cases w2 : i = L.length
              · subst w2; simpa using lk
              · rw [List.getElem?_append_left (by omega)]
                have := al i (by omega)
                simp only [List.getD_eq_getElem?_getD] at this
                obtain ⟨x1, x2⟩ := n4 i (by omega)
                have hz6 := (zhn_s (sg := M 2) (e := e) (p := L[i]?.getD 0))
                refine ⟨by rw [x1]; exact this.1, by rw [x2]; exact this.2.1, fun t a b => ?_⟩
                have t6 : t < 6 := by
                  have : zhn (M 2) e (L[i]?.getD 0) ≤ 0 + 6 := (zrun_s (fun j => zpa e (M 2) (L[i]?.getD 0 + j)) 6 0).1.2
                  omega
                rw [n5 _ (by omega)]; exact this.2.2 t a b
            have el : (((L ++ [p]).length : Nat) : Int) = (L.length : Int) + 1 := by simp
            refine ⟨fun z => absurd z (by decide), fun _ => s_Z_takes zb4 (by omega) (by decide) (fun z => ?_) (fun z => ?_)⟩
            · rw [if_pos z] at r1 r2 r3
              have l := (zat_lt (sg := M 2) (e := e) (p := (zh1 (M 2) e p).2) (by omega)).1
              refine ⟨fun y => absurd y (by decide), fun _ => ?_⟩
              have hlt : M 179 3 + ((L ++ [p]).length : Int) ≤ 8 := by rw [el]; omega
              have f5 : zf [186, 187, 188] [(179, 11), (179, 12), (179, 13), (179, 14), (179, 18)] M0 (z_up M4 179 12 ((zh1 (M 2) e p).2 + 1)) := zf_uj f34 (by decide)
              refine ih ((zh1 (M 2) e p).2 + 1) (L ++ [p]) _ (by omega) (by omega) (by rw [el]; omega) hlt f5 (by rw [zu_i (by decide)]; exact g44) ⟨zu_s _ _ _ _, by rw [zu_i (by decide)]; exact zb4.2.1, zb4.2.2.1, fun j a b => by rw [zu_c (by decide)]; exact zb4.2.2.2 j a b⟩ (by rw [zu_i (by decide), el]; exact m18) (fun i hi => ?_) (fun y => ?_) ?_ ?_
              · obtain ⟨x1, x2, x3⟩ := al4 i hi
                exact ⟨by rw [zu_c (by decide)]; exact x1, by rw [zu_c (by decide)]; exact x2, fun t a b => by rw [zu_c (by decide)]; exact x3 t a b⟩
              · rw [el, show M 179 3 + ((L.length : Int) + 1) = M 179 3 + (L.length : Int) + 1 by omega] at y ⊢
                rw [← r1 y, List.append_assoc]; rfl
              · rw [el, show M 179 3 + ((L.length : Int) + 1) = M 179 3 + (L.length : Int) + 1 by omega]; exact r2
              · rw [el, show M 179 3 + ((L.length : Int) + 1) = M 179 3 + (L.length : Int) + 1 by omega]; exact r3
            · rw [if_neg z] at r1 r2 r3
              refine ⟨fun _ => ?_, fun y => absurd rfl y⟩
              have f5 : zf [186, 187, 188] [(179, 11), (179, 12), (179, 13), (179, 14), (179, 18)] M0 (z_up M4 179 12 (zh1 (M 2) e p).2) := zf_uj f34 (by decide)
              refine stop true 1 (zh1 (M 2) e p).2 (L ++ [p]) _ rfl f5 (by rw [zu_i (by decide)]; exact g44) ⟨zu_s _ _ _ _, by rw [zu_i (by decide)]; exact zb4.2.1, zb4.2.2.1, fun j a b => by rw [zu_c (by decide)]; exact zb4.2.2.2 j a b⟩ (by omega) (by omega) (fun _ => ⟨by rw [zu_i (by decide), el]; exact m18, fun i hi => ?_, r1 rfl⟩) r2 r3
              obtain ⟨x1, x2, x3⟩ := al4 i hi
              exact ⟨by rw [zu_c (by decide)]; exact x1, by rw [zu_c (by decide)]; exact x2, fun t a b => by rw [zu_c (by decide)]; exact x3 t a b⟩
          · rw [if_neg q] at r1 r2 r3 ⊢
            exact ⟨fun _ => stop false 0 (zh1 (M 2) e p).2 L M4 rfl f34 g44 zb4 (by omega) (by omega) (fun z => absurd z Bool.false_ne_true) r2 r3, fun z => absurd rfl z⟩
    have e0 : M 179 3 + ((([] : List Int).length : Nat) : Int) = M 179 3 := by simp
    refine loop 9 0 [] (z_up B 179 18 0) (by omega) (by omega) (by rw [e0]; omega) (by rw [e0]; omega) (zf_uj (zf_ww fB rfl rfl) (by decide)) (by rw [zu_i (by decide)]; exact w1) ⟨by rw [zu_i (by decide)]; exact w2, by rw [zu_i (by decide)]; exact w4, by omega, fun j a b => by rw [zu_c (by decide), zf_c fB 185 rfl]; exact g187 j a (by omega)⟩ (by rw [zu_s]; rfl) (fun i hi => absurd hi (by simp)) (fun _ => ?_) ?_ ?_
    · rw [e0, hZ]; simp
    · rw [e0, hZ]
    · rw [e0, hZ]
  unfold zQ
  refine e_W_houses ⟨fun z => ?_, fun z => ?_⟩
  · -- a text
    have rd := rd (by omega)
    rw [c1]
    refine s_Text_faultInHouses ⟨c2, c3⟩ (by omega) ?_
    by_cases hf : zhf (M 1 1) (M 2) (M 179 3) = -1
    · rw [hf]
      have hz2 := zhl_s (sg := M 2) (e := zhe (M 1 1)) 9 0 (M 179 3) (by omega) (by omega)
      have hok : (zhl (M 2) (zhe (M 1 1)) 9 0 (M 179 3)).1 = true ∧ (zhl (M 2) (zhe (M 1 1)) 9 0 (M 179 3)).2.1 = zhe (M 1 1) ∧ M 1 1 ≤ 71 := by
        refine Classical.byContradiction (fun w => ?_)
        have hf2 := hf
        unfold zhf at hf2
        rw [if_neg w] at hf2
        omega
      have ne := e71.2.2.2.1 hok.2.2
      rw [ne] at hok rd
      refine ⟨fun w => absurd rfl w, fun _ => s_W_addHouses (c := M 179 3) (D := 270 * n) (S := S) (by omega) s1 s3 hok.1 hok.2.1 (fun M1 f1 A1 T1 O1 => ⟨fun w => absurd rfl w, fun _ => ?_⟩)⟩
      have hq1 := zHa_1 (sg := M 2) (e := M 1 1) (zhl (M 2) (M 1 1) 9 0 (M 179 3)).2.2 (M 179 3, S, M 46)
      generalize hL : (zhl (M 2) (M 1 1) 9 0 (M 179 3)).2.2 = L at A1 T1 O1 hq1 rd
      have hL1 : 1 ≤ (L.length : Int) := by
        rw [← hL]
        have := hok.1
        unfold zhl at this ⊢
        by_cases q : 8 ≤ M 179 3
        · rw [if_pos q] at this; exact absurd this Bool.false_ne_true
        · rw [if_neg q] at this ⊢
          by_cases q2 : (zh1 (M 2) (M 1 1) 0).1 = true
          · rw [if_pos q2]
            by_cases q3 : zat (M 2) (M 1 1) (zh1 (M 2) (M 1 1) 0).2 = 59
            · rw [if_pos q3]; show 1 ≤ (((_ :: _ : List Int).length : Nat) : Int); rw [List.length_cons]; omega
            · rw [if_neg q3]; show (1 : Int) ≤ (([0] : List Int).length : Int); simp
          · rw [if_neg q2] at this; exact absurd this Bool.false_ne_true
      generalize hRR : zHa (M 2) (M 1 1) L (M 179 3, S, M 46) = R at A1 T1 O1 hq1
      have hq1 : R.1 = M 179 3 + (L.length : Int) := hq1
      have o8 := O1.1.1
      rw [zu_c (by decide), zu_c (by decide), zu_c (by decide), A1.1, c1, hq1, show M 179 3 + (L.length : Int) - M 179 3 = (L.length : Int) by omega, zw (by omega) (by omega)]
      generalize hM2 : z_up (z_up (z_up M1 49 2 0) 0 11 0) 1 1 0 = M2
      have f2 : zf [25, 26, 46] [(23, 5), (49, 2), (0, 11), (1, 1)] M M2 := by rw [← hM2]; exact zf_uj (zf_uj (zf_uj (zf_ww f1 rfl rfl) (by decide)) (by decide)) (by decide)
      have A2 : zAt 23 R.1 R.2.1 M2 := by rw [← hM2]; exact zAt_f A1 (by rw [zu_c (by decide), zu_c (by decide), zu_c (by decide)]) (by rw [zu_c (by decide), zu_c (by decide), zu_c (by decide)]) (by rw [zu_f (by decide), zu_f (by decide), zu_f (by decide)]) (by rw [zu_f (by decide), zu_f (by decide), zu_f (by decide)]) (by rw [zu_f (by decide), zu_f (by decide), zu_f (by decide)]) (by rw [zu_f (by decide), zu_f (by decide), zu_f (by decide)]) (by rw [zu_f (by decide), zu_f (by decide), zu_f (by decide)])
      have T2 : M2 46 = R.2.2 := by rw [← hM2, zu_f (by decide), zu_f (by decide), zu_f (by decide)]; exact T1
      refine e_M_houses (fun P29 P81 h29 h81 => rd _ (z_up M2 179 0 0) (by rw [zu_i (by decide), zf_a f2 179 11 rfl]; exact t1.symm) (by rw [zu_i (by decide), zf_a f2 179 3 rfl]) (fun j a b => by rw [zu_c (by decide), zf_c f2 185 rfl]; exact ((t4 j a b).1).symm) P29 P81 h29 (fun _ M5 f5 g11 g18 al => ?_) (fun w => absurd hf w))
      have f25 : zf [186, 187, 188] [(179, 0), (179, 11), (179, 12), (179, 13), (179, 14), (179, 18)] M2 M5 := zf_ww (zf_tr (zf_uj (zf_rf (S := []) (J := [(179, 0)])) (by decide)) f5) rfl rfl
      have f05 := zf_tr f2 f25
      have h35 : M5 179 3 = M 179 3 := zf_a f05 179 3 rfl
      have h185 : M5 183 = M 183 := zf_c f05 183 rfl
      have h184 : M5 182 = M 182 := zf_c f05 182 rfl
      -- houses are added
      have adds : ∀ (Lt L0 : List Int) (cc : Int) (S1 : zS) (th : Int → Int) (M6 : zM), L = L0 ++ Lt → cc = M 179 3 + (L0.length : Int) → zHa (M 2) (M 1 1) Lt (cc, S1, th) = R → zf [183, 182] [(179, 3)] M5 M6 → M6 179 3 = cc → zRt 183 cc S1 M6 → zSo cc (270 * n) S1 → (∀ h, 0 ≤ h → h < cc → M6 182 h = th h ∧ 1 ≤ th h ∧ th h ≤ 9) → (∀ p ∈ Lt, 0 ≤ p ∧ p ≤ M 1 1 ∧ 1 ≤ zhn (M 2) (M 1 1) p ∧ zd9 (M 2) (M 1 1) (p + zhn (M 2) (M 1 1) p) = true) → P81 (M 1 1) 1 0 0 (L0.length : Int) M6 := by
        intro Lt
        induction Lt with
        | nil =>
          intro L0 cc S1 th M6 hLL hcc hz f6 g6 r6 o6 t6 _
          have eL : (L0.length : Int) = (L.length : Int) := by rw [hLL]; simp
          have hz : ((cc, S1, th) : Int × zS × (Int → Int)) = R := hz
          have g618 : M6 179 18 = (L.length : Int) := by rw [zf_a f6 179 18 rfl]; exact g18
          refine h81 _ _ _ _ _ _ ⟨fun _ => ⟨fun w => absurd w (by omega), fun _ => ?_⟩, fun w => absurd (by omega) w⟩
          rw [zu_i (by decide), zu_i (by decide), g618]
          refine ⟨rfl, ?_⟩
          have k4 := hK.2.1
          have g64 : M6 179 4 = M 179 4 := by rw [zf_a f6 179 4 rfl]; exact zf_a f05 179 4 rfl
          rw [zu_i (by decide), g64, zw (x := M 179 4 + 1) (by omega) (by omega)]
          subst hz
          have f26 : zf [186, 187, 188, 183, 182] [(179, 0), (179, 11), (179, 12), (179, 13), (179, 14), (179, 18), (179, 3), (179, 33), (179, 4)] M2 (z_up (z_up M6 179 33 0) 179 4 (M 179 4 + 1)) := zf_uj (zf_uj (zf_ww (zf_tr f25 f6) rfl rfl) (by decide)) (by decide)
          have f := zf_tr f2 f26
          generalize hM9 : z_up (z_up M6 179 33 0) 179 4 (M 179 4 + 1) = M9 at f f26
          have A9 : zAt 23 cc S1 M9 := zAt_f A2 (zf_a f26 23 5 rfl) (zf_a f26 23 6 rfl) (zf_c f26 24 rfl) (zf_c f26 25 rfl) (zf_c f26 26 rfl) (zf_c f26 27 rfl) (zf_c f26 28 rfl)
          have R9 : zRt 183 cc S1 M9 := zRt_f r6 (by rw [← hM9, zu_f (by decide), zu_f (by decide)])
          have i3' : M9 179 3 = cc := by rw [← hM9, zu_i (by decide), zu_i (by decide)]; exact g6
          have cge : M 179 3 ≤ cc := by omega
          refine ⟨⟨by omega, by omega⟩, iT_0 ?_ ?_, iR_f hR f rfl, ?_, ?_, ?_, ?_, ?_, ?_, ?_, ?_⟩
          · rw [zf_a f26 1 1 rfl, ← hM2, zu_s]
          · rw [← hM9, zu_i (by decide), zu_i (by decide), zf_a f6 179 11 rfl]; exact g11
          · rw [i3']; exact tR_of A9 R9 (zSo_m o6 (by omega))
          · rw [i3', zf_c f26 46 rfl, T2, ← hM9, zu_f (by decide), zu_f (by decide)]
            exact fun h a b => ⟨(t6 h a b).1.symm, (t6 h a b).2⟩
          · rw [zf_a f 45 2 rfl, zf_a f 179 5 rfl, zf_c f 47 rfl, zf_c f 181 rfl]; exact j3
          · rw [zf_a f 5 1 rfl, zf_c f 6 rfl, zf_a f 179 22 rfl, zf_c f 190 rfl]; exact j4
          · have z2 : M9 49 2 = 0 := by rw [zf_a f26 49 2 rfl, ← hM2, zu_c (by decide), zu_c (by decide), zu_s]
            have z33 : M9 179 33 = 0 := by rw [← hM9, zu_i (by decide), zu_s]
            refine ⟨by rw [z2, z33], by rw [zf_a f 49 1 rfl]; exact hP0.2.1, by rw [z2]; omega, fun j a b => ?_⟩
            rw [z2] at b; omega
          · have z11 : M9 0 11 = 0 := by rw [zf_a f26 0 11 rfl, ← hM2, zu_c (by decide), zu_s]
            have z4 : M9 179 4 = M 179 4 + 1 := by rw [← hM9, zu_s]
            obtain ⟨y1, y2, y3, y4⟩ := hK
            refine ⟨by rw [z11]; omega, by rw [z4]; omega, fun i a b => ?_, fun i a b w => ?_⟩
            · obtain ⟨v1, v2, v3⟩ := y3 i a b
              rw [zf_c f 219 rfl, zf_c f 220 rfl, z11, z4, zb_0]
              refine ⟨v1, by omega, ⟨fun w => absurd w (by decide), fun w => by omega⟩⟩
            · rw [z11, zb_0] at w; exact absurd w (by decide)
          · obtain ⟨y1, y2, y3, y4⟩ := j7
            rw [i3', zf_a f 0 14 rfl, zf_c f 142 rfl, zf_c f 143 rfl, zf_a f 179 57 rfl, zf_c f 216 rfl, zf_c f 217 rfl]
            exact ⟨y1, y2, y3, fun i a b => by obtain ⟨v1, v2, v3, v4, v5⟩ := y4 i a b; exact ⟨v1, v2, by omega, by omega, v5⟩⟩
          · rw [zf_a f 159 0 rfl, zf_a f 154 0 rfl]; exact j8
        | cons p Lt ih =>
          intro L0 cc S1 th M6 hLL hcc hz f6 g6 r6 o6 t6 hp
          have eL : (L.length : Int) = (L0.length : Int) + ((Lt.length : Int) + 1) := by rw [hLL]; simp
          have g618 : M6 179 18 = (L.length : Int) := by rw [zf_a f6 179 18 rfl]; exact g18
          obtain ⟨p0, pe, pl, pd⟩ := hp p List.mem_cons_self
          obtain ⟨⟨a1, a2, a3⟩, a4, a5⟩ := zhn_s (sg := M 2) pe
          have l9 := zd9_lt pd
          have lk := al L0.length (by omega)
          have gd : L.getD L0.length 0 = p := by rw [hLL]; simp
          rw [gd] at lk
          obtain ⟨k1, k2, k3⟩ := lk
          have c0 := o6.1.1
          have c8' : cc < 8 := by omega
          have k8 : 0 ≤ (L0.length : Int) ∧ (L0.length : Int) < 8 := by omega
          refine h81 _ _ _ _ _ _ ⟨fun w => absurd w (by omega), fun _ => ⟨k8, ?_⟩⟩
          rw [g6, zw (x := 6 * (L0.length : Int)) (by omega) (by omega), zf_c f6 187 rfl, k1]
          refine s_M_namesSo (by omega) (by omega) (by omega) (fun M7 f7 e7 => ⟨k8, ?_⟩)
          have e73 : M7 179 3 = cc := by rw [zf_a f7 179 3 rfl]; exact g6
          have e7190 : M7 188 (L0.length : Int) = zdi (M 2 (p + zhn (M 2) (M 1 1) p)) := by rw [zf_c f7 188 rfl, zf_c f6 188 rfl]; exact k2
          rw [e73, e7190]
          have q1 : ∀ v, (z_up M7 182 cc v) 179 3 = cc := fun v => by rw [zu_c (by decide)]; exact e73
          have q2 : ∀ v y u, (z_up (z_up M7 182 cc v) 183 y u) 179 3 = cc := fun v y u => by rw [zu_c (by decide)]; exact q1 v
          have q3 : ∀ v y u y' u', (z_up (z_up (z_up M7 182 cc v) 183 y u) 183 y' u') 179 3 = cc := fun v y u y' u' => by rw [zu_c (by decide)]; exact q2 v y u
          rw [q1, q2, q3, zw (x := 64 + cc) (by omega) (by omega), zw (x := 72 + cc) (by omega) (by omega), zw (x := cc + 1) (by omega) (by omega), zw (x := (L0.length : Int) + 1) (by omega) (by omega)]
          refine ⟨by omega, by omega, by omega, ?_⟩
          have el : (((L0 ++ [p]).length : Nat) : Int) = (L0.length : Int) + 1 := by simp
          have e188 : naR (M6 183) (fun j => M6 186 (6 * (L0.length : Int) + j)) cc (zhn (M 2) (M 1 1) p) = naR (M6 183) (fun j => zle (M 2 (p + j))) cc (zhn (M 2) (M 1 1) p) := naR_c (fun j a b => by show M6 186 _ = _; rw [zf_c f6 186 rfl]; exact k3 j a b)
          rw [e188] at e7
          have nx := ih (L0 ++ [p]) (cc + 1) (zSn cc (zhn (M 2) (M 1 1) p) (fun j => zle (M 2 (p + j))) S1) (fun h => if h = cc then zdi (M 2 (p + zhn (M 2) (M 1 1) p)) else th h) (z_up (z_up (z_up (z_up M7 182 cc (zdi (M 2 (p + zhn (M 2) (M 1 1) p)))) 183 (64 + cc) 0) 183 (72 + cc) 0) 179 3 (cc + 1)) (by rw [hLL]; simp) (by rw [el]; omega) hz (zf_uj (zf_us (zf_us (zf_us (zf_ww (zf_tr f6 f7) rfl rfl) (by decide)) (by decide)) (by decide)) (by decide)) (zu_s _ _ _ _) ?_ (zSn_o o6 c8' ⟨pl, a2⟩ (fun j a b => ⟨(a4 j a b).2, zle_r (a4 j a b).2⟩)) (fun h a b => ?_) (fun p' hp' => hp p' (List.mem_cons_of_mem _ hp'))
          · rw [el] at nx; exact nx
          · refine zRt_n (r := M 183) (r' := M 183) o6 c8' (by omega) M6 _ r6 (fun q => ?_)
            rw [zu_c (by decide)]
            by_cases w1 : q = 72 + cc
            · rw [w1, zu_s, if_pos (Or.inr rfl)]
            · rw [zu_i w1]
              by_cases w2 : q = 64 + cc
              · rw [w2, zu_s, if_pos (Or.inl rfl)]
              · rw [zu_i w2, zu_c (by decide), e7, if_neg (by omega)]
          · rw [zu_c (by decide), zu_c (by decide), zu_c (by decide)]
            by_cases w : h = cc
            · rw [w, zu_s, if_pos rfl]
              have : zdi (M 2 (p + zhn (M 2) (M 1 1) p)) = M 2 (p + zhn (M 2) (M 1 1) p) - 48 := by unfold zdi; rw [if_pos (by omega)]
              exact ⟨rfl, by omega, by omega⟩
            · rw [zu_i w, if_neg w, zf_c f7 182 rfl]; exact t6 h a (by omega)
      have all : ∀ (f : Nat) (p0 k : Int), 0 ≤ p0 → p0 ≤ M 1 1 → (zhl (M 2) (M 1 1) f p0 k).1 = true → ∀ p ∈ (zhl (M 2) (M 1 1) f p0 k).2.2, 0 ≤ p ∧ p ≤ M 1 1 ∧ 1 ≤ zhn (M 2) (M 1 1) p ∧ zd9 (M 2) (M 1 1) (p + zhn (M 2) (M 1 1) p) = true := by
        intro f
        induction f with
        | zero => intro p0 k _ _ ht; exact absurd ht Bool.false_ne_true
        | succ f ih =>
          intro p0 k h0 he ht p hp
          have s := zh1_s (sg := M 2) (e := M 1 1) (p := p0) he
          unfold zhl at ht hp
          by_cases q : 8 ≤ k
          · rw [if_pos q] at ht; exact absurd ht Bool.false_ne_true
          · rw [if_neg q] at ht hp
            by_cases q1 : (zh1 (M 2) (M 1 1) p0).1 = true
            · rw [if_pos q1] at ht hp
              obtain ⟨u1, u2, u3⟩ := s.2.2 q1
              by_cases q2 : zat (M 2) (M 1 1) (zh1 (M 2) (M 1 1) p0).2 = 59
              · rw [if_pos q2] at ht hp
                have l := (zat_lt (sg := M 2) (e := M 1 1) (p := (zh1 (M 2) (M 1 1) p0).2) (by omega)).1
                have hp : p ∈ p0 :: (zhl (M 2) (M 1 1) f ((zh1 (M 2) (M 1 1) p0).2 + 1) (k + 1)).2.2 := hp
                rcases List.mem_cons.mp hp with rfl | hp
                · exact ⟨h0, he, u1, u2⟩
                · exact ih _ _ (by omega) (by omega) ht p hp
              · rw [if_neg q2] at hp
                have hp : p ∈ [p0] := hp
                rw [List.mem_singleton.mp hp]
                exact ⟨h0, he, u1, u2⟩
            · rw [if_neg q1] at ht; exact absurd ht Bool.false_ne_true
      refine adds L [] (M 179 3) S (M 46) M5 (by simp) (by simp) hRR zf_rf h35 (zRt_f s2 h185) s3 (fun h a b => by rw [h184]; have := j2 h a b; exact ⟨this.1.symm, this.2⟩) (fun p hp => ?_)
      rw [← hL] at hp
      exact all 9 0 (M 179 3) (by omega) (by omega) hok.1 p hp
    · have zr : 0 ≤ zhf (M 1 1) (M 2) (M 179 3) ∧ zhf (M 1 1) (M 2) (M 179 3) ≤ 71 := by
        have hz2 := zhl_s (sg := M 2) (e := zhe (M 1 1)) 9 0 (M 179 3) (by omega) (by omega)
        have hf2 := hf
        unfold zhf at hf2 ⊢
        by_cases w : (zhl (M 2) (zhe (M 1 1)) 9 0 (M 179 3)).1 = true ∧ (zhl (M 2) (zhe (M 1 1)) 9 0 (M 179 3)).2.1 = zhe (M 1 1) ∧ M 1 1 ≤ 71
        · rw [if_pos w] at hf2; exact absurd rfl hf2
        · rw [if_neg w]; omega
      refine ⟨fun _ => ⟨fun _ => ?_, fun w => absurd hf w⟩, fun w => absurd hf w⟩
      rw [zw (by omega) (by omega)]
      refine e_M_houses (fun P29 P81 h29 h81 => rd _ (z_up (z_up M 1 1 0) 179 0 0) (by rw [zu_i (by decide), zu_c (by decide)]; exact t1.symm) (by rw [zu_i (by decide), zu_c (by decide)]) (fun j a b => by rw [zu_c (by decide), zu_c (by decide)]; exact ((t4 j a b).1).symm) P29 P81 h29 (fun w => absurd w hf) (fun _ M5 f5 g11 => ⟨rfl, ?_⟩))
      have f : zf [186, 187, 188] [(1, 1), (179, 0), (179, 11), (179, 12), (179, 13), (179, 14), (179, 18)] M M5 := zf_ww (zf_tr (zf_uj (v := 0) (a := 179) (i := 0) (zf_uj (v := 0) (a := 1) (i := 1) (zf_rf (S := []) (J := [(1, 1), (179, 0)])) (by decide)) (by decide)) f5) rfl rfl
      refine ⟨⟨by omega, by omega⟩, iT_0 ?_ g11, iR_f hR f rfl, zJ_n (zJ_f hJ0 f rfl) (by omega)⟩
      rw [zf_a f5 1 1 rfl, zu_c (by decide), zu_s]
  · -- nothing told
    have n0 := Classical.not_not.mp z
    refine e_M_houses (fun P29 P81 h29 h81 => s_M_begins (fun B fB w1 w2 w3 w4 => ?_))
    have g11 : (z_up M 179 0 0) 179 11 = 0 := by rw [zu_i (by decide), ← t1]; exact n0
    rw [g11] at w4 ⊢
    refine ⟨fun _ => ?_, fun w => absurd (by decide) w⟩
    have f : zf [] [(179, 0), (179, 11), (179, 12), (179, 13), (179, 14), (179, 18)] M (z_up B 179 18 0) := zf_uj (zf_ww (zf_tr (zf_uj (v := 0) (a := 179) (i := 0) (zf_rf (S := []) (J := [(179, 0)])) (by decide)) fB) rfl rfl) (by decide)
    refine h29 _ _ _ _ ⟨fun _ => s_M_faultOfT (p := 0) (t := 0) (by rw [zu_i (by decide)]; exact w2) (by rw [zu_i (by decide), w4]; rfl) (by decide) (by decide) (Or.inr rfl) ?_, fun w => absurd rfl w⟩
    rw [if_pos (by decide)]
    refine ⟨fun _ => h81 _ _ _ _ _ _ ⟨fun _ => ⟨fun _ => ?_, fun w => absurd (by rw [zu_s]; decide) w⟩, fun w => absurd (by rw [zu_s]; decide) w⟩, fun w => absurd (by decide) w⟩
    rw [zu_s]
    exact ⟨rfl, ⟨by omega, by omega⟩, iT_0 (by rw [zu_c (by decide), zf_a fB 1 1 rfl, zu_c (by decide)]; exact n0) (by rw [zu_i (by decide)]; exact w1), iR_f hR f rfl, zJ_n (zJ_f hJ0 f rfl) (by omega)⟩

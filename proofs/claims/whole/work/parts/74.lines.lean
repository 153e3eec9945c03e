/-! lines() -/
theorem s_Text_faultInBook {d : Nat} {c : Int} {M : zM} {F : Int → zM → Prop} (hc : 0 ≤ c ∧ c ≤ 8) (hn : 0 ≤ M 1 1 ∧ M 1 1 ≤ 80) (H1 : (∀ k : Int, 0 ≤ k → k < M 1 1 → zgk c (fun p => zdi (M 2 p)) k = true) → F (-1) M) (H0 : ∀ k : Int, 0 ≤ k → k < M 1 1 → zgk c (fun p => zdi (M 2 p)) k = false → (∀ j : Int, 0 ≤ j → j < k → zgk c (fun p => zdi (M 2 p)) j = true) → F k M) : zCi (d + 2) 111 [z_r (7, 0) 1, z_i c] M F := by
  refine e_Text_faultInBook (fun P hP => ?_)
  have loop : ∀ (m k : Nat), (k : Int) + m = M 1 1 → (∀ j : Int, 0 ≤ j → j < k → zgk c (fun p => zdi (M 2 p)) j = true) → P c (zbn (fun p => zdi (M 2 p)) k) (k : Int) M := by
    intro m
    induction m with
    | zero =>
      intro k hk hg
      exact hP _ _ _ _ ⟨fun _ => H1 (fun j a b => hg j a (by omega)), fun z => absurd (by omega) z⟩
    | succ m ih =>
      intro k hk hg
      obtain ⟨r, b, -⟩ := zbn_s hc.2 k hg
      have H0 := H0 k (by omega) (by omega)
      have nx := ih (k + 1) (by omega)
      rw [show ((k + 1 : Nat) : Int) = (k : Int) + 1 by omega] at nx
      have eg : zgk c (fun p => zdi (M 2 p)) k = (decide (0 ≤ zdi (M 2 k) ∧ zdi (M 2 k) < c) && !(zb (zbn (fun p => zdi (M 2 p)) k) (zdi (M 2 k)))) := by
        unfold zgk; rw [show ((k : Int)).toNat = k by omega]
      refine hP _ _ _ _ ⟨fun z => absurd z (by omega), fun _ => ⟨by omega, s_W_digitOf ⟨fun z => H0 ?_ hg, fun z => ⟨fun z2 => H0 ?_ hg, fun z2 => ?_⟩⟩⟩⟩
      · rw [eg, decide_eq_false (by omega)]; rfl
      · rw [eg, decide_eq_false (by omega)]; rfl
      · have z3 : 0 ≤ zdi (M 2 k) := by unfold zdi at z ⊢; split at z <;> (split <;> omega)
        refine s_W_isIn (by omega) (by omega) ?_
        by_cases q : zb (zbn (fun p => zdi (M 2 p)) k) (zdi (M 2 k)) = true
        · rw [if_pos q]
          refine ⟨fun w => absurd w (by decide), fun _ => H0 ?_ hg⟩
          rw [eg, q]; simp
        · rw [if_neg q, zw (x := (k : Int) + 1) (by omega) (by omega)]
          refine ⟨fun _ => nx (fun j a b' => ?_), fun w => absurd rfl w⟩
          by_cases e : j = k
          · rw [e, eg, decide_eq_true (by omega)]; simpa using q
          · exact hg j a (by omega)
  exact loop (M 1 1).toNat 0 (by omega) (fun j a b => by omega)
theorem zlq_all {hs pl : Int → Int} {s : Int} : ∀ n : Nat, (∀ k : Int, 0 ≤ k → k < n → zb s (hs k) = true) → (zlq hs pl s n).1 = true
  | 0, _ => rfl
  | n + 1, h => by
    unfold zlq
    rw [if_pos (h n (by omega) (by omega))]
    exact zlq_all n (fun k a b => h k a (by omega))
theorem p_lines {d : Nat} {n : Int} {M : zM} (hI : zI n M) (hn : n < 512) : zQ (d + 4) 110 231 [z_r (10, 0) 0] [z_r (11, 0) 179] n M := by
  have hI0 := hI
  obtain ⟨hb, ⟨t1, t2, t3, t4⟩, hR, hJ⟩ := hI
  have hJ0 := hJ
  obtain ⟨i1, i2, i3, i4, i5, i6, i7, i8⟩ := zJ_in hJ
  obtain ⟨c1, c2, c3⟩ := zJ_count hJ
  have hz : ∀ p, 0 ≤ p → p < M 1 1 → zdi (M 2 p) = zdi (M 185 p) := fun p a b => by rw [(t4 p a b).1]
  generalize hhs : (fun p => zdi (M 2 p)) = hs
  have ehs : ∀ p, hs p = zdi (M 2 p) := fun p => by rw [← hhs]
  unfold zQ
  refine e_W_lines (fun P Q hP hQ => s_Text_faultInBook (by rw [c1]; exact ⟨c2, c3⟩) ⟨t2, t3⟩ (fun hg => ?_) (fun k k0 k1 hbad hg => ?_))
  · -- all lines can be read
    rw [c1, hhs] at hg
    obtain ⟨N, hN⟩ : ∃ N : Nat, M 1 1 = (N : Int) := ⟨(M 1 1).toNat, by omega⟩
    rw [hN] at hg
    obtain ⟨r, bt, cd⟩ := zbn_s c3 N hg
    obtain ⟨d1, d2⟩ := zgk_d c3 hg
    have N8 : N ≤ 8 := by
      have := zcard_r (zbn hs N)
      omega
    refine ⟨fun _ => s_W_write hJ.1 (fun M1 f1 b1 => ?_), fun z => absurd rfl z⟩
    have hok := zTn_ok i4
    have hp : ∀ x, 0 ≤ x → x < M 179 3 → M1 37 x = zPg (M 179 3) (M 24) (M 26) (M 25) x ∧ 0 ≤ zPg (M 179 3) (M 24) (M 26) (M 25) x := fun x a b => ⟨b1.2.2.1 x a b, (zpl_r hok ⟨a, b⟩).1⟩
    have hj : ∀ x y, 0 ≤ x → x < M 179 3 → 0 ≤ y → y < M 179 3 → zPg (M 179 3) (M 24) (M 26) (M 25) x = zPg (M 179 3) (M 24) (M 26) (M 25) y → x = y := fun x y a b a' b' e => zpl_j hok ⟨a, b⟩ ⟨a', b'⟩ e
    generalize hpl : zPg (M 179 3) (M 24) (M 26) (M 25) = pl at hp hj
    have m11 : M1 1 1 = N := by rw [zf_a f1 1 1 rfl]; exact hN
    have m2 : M1 2 = M 2 := zf_c f1 2 rfl
    have m5 : M1 23 5 = M 179 3 := by rw [zf_a f1 23 5 rfl]; exact c1
    generalize hall : zbn hs N = all at r bt cd
    have hsub : ∀ k : Int, 0 ≤ k → k < N → zb all (hs k) = true := fun k a b => (bt (hs k) (d1 k a b).1).mpr ⟨k, ⟨a, b⟩, rfl⟩
    have Vall : (∀ h, 0 ≤ h → zb all h = true → zb all h = true) ∧ (zlq hs pl all N).1 = true := ⟨fun _ _ z => z, zlq_all N hsub⟩
    -- the class's choice
    have pick : ∀ (m t : Nat) (best : Int), t + m = 256 → (0 ≤ best ∧ best < 256) → ((∀ h, 0 ≤ h → zb best h = true → zb all h = true) ∧ (zlq hs pl best N).1 = true) → (best = all ∨ best < t) → (∀ s : Int, 0 ≤ s → s < t → (∀ h, 0 ≤ h → zb s h = true → zb all h = true) → (zlq hs pl s N).1 = true → zkp best ≤ zkp s) → Q (-1) all best (t : Int) M1 := by
      intro m
      induction m with
      | zero =>
        intro t best ht br bv bl bm
        have ht : t = 256 := by omega
        subst ht
        refine hQ _ _ _ _ _ ⟨fun _ => s_Row_tellOne (fun M2 f2 r1 r2 => s_bitCount br ?_), fun z => absurd (by decide) z⟩
        have f12 : zf ([36, 37, 38, 39] ++ [4]) ([(35, 4), (1, 1)] ++ [(3, 1)]) M M2 := zf_tr (zf_uj (zf_ww f1 rfl rfl) (by decide)) f2
        have f13 : zf ([36, 37, 38, 39] ++ [4]) ([(35, 4), (1, 1)] ++ [(3, 1)] ++ [(179, 0)]) M (z_up M2 179 0 0) := zf_uj (zf_ww f12 rfl rfl) (by decide)
        refine e_M_lines (fun P1 P2 P3 h1 h2 h3 => s_M_begins (fun B fB w1 w2 w3 w4 => ?_))
        rw [zf_a f13 179 11 rfl, ← t1, if_neg (by omega)] at w4
        have f14 := zf_tr f13 fB
        have e3 : B 179 3 = M 179 3 := zf_a f14 179 3 rfl
        have e187 : B 185 = M 185 := zf_c f14 185 rfl
        -- the sets, from the greatest down
        have sets : ∀ (M6 : zM), zf [213, 194, 195, 196, 197, 198, 199] [(179, 12)] B M6 → (∀ k : Int, 0 ≤ k → k < N → M6 213 k = hs k) → (∀ x, 0 ≤ x → x < M 179 3 → M6 198 x = pl x) → ∀ (m : Nat) (t b : Int), t + 1 = m → t ≤ all → (0 ≤ b ∧ b < 256) → ((∀ h, 0 ≤ h → zb b h = true → zb all h = true) ∧ (zlq hs pl b N).1 = true) → (∀ s : Int, t < s → s ≤ all → (∀ h, 0 ≤ h → zb s h = true → zb all h = true) → (zlq hs pl s N).1 = true → zkp b ≤ zkp s) → (t < b ∨ b = all) → P2 (N : Int) all b t M6 := by
          intro M6 f6 e215 e200 m
          induction m with
          | zero =>
            intro t b ht ta br' bv' bm' bt'
            refine h2 _ _ _ _ _ ⟨fun _ => s_M_enters (by rw [zu_s]; omega) ?_, fun z => absurd (by omega) z⟩
            rw [zu_s]
            refine s_bitCount br' ?_
            have x1 := bm best br.1 br.2 bv.1 bv.2
            have y1 := bm b br'.1 br'.2 bv'.1 bv'.2
            have y2 := bm' best (by omega) (zsub_le br r bv.1).1 bv.1 bv.2
            have eb : b = best := by unfold zkp at y1 y2; omega
            rw [eb]
            refine ⟨rfl, ?_⟩
            have f16 := zf_tr f14 f6
            have g1 : zf ([36, 37, 38, 39] ++ [4] ++ [213, 194, 195, 196, 197, 198, 199] ++ [180]) ([(35, 4), (1, 1)] ++ [(3, 1)] ++ [(179, 0)] ++ [(179, 11), (179, 12), (179, 13), (179, 14)] ++ [(179, 12)] ++ [(179, 1)]) M (z_up (z_up (z_up M6 179 1 0) 180 0 best) 179 1 (0 + 1)) := zf_uj (zf_us (zf_uj (zf_ww f16 rfl rfl) (by decide)) (by decide)) (by decide)
            refine ⟨⟨by omega, by omega⟩, iT_0 ?_ ?_, ⟨?_, ?_, ?_, fun i a b' => ?_⟩, zJ_n (zJ_f hJ0 g1 rfl) (by omega)⟩
            · rw [zu_c (by decide), zu_c (by decide), zu_c (by decide), zf_a f6 1 1 rfl, zf_a fB 1 1 rfl, zu_c (by decide), zf_a f2 1 1 rfl, zu_s]
            · rw [zu_i (by decide), zu_c (by decide), zu_i (by decide), zf_a f6 179 11 rfl]; exact w1
            · rw [zu_c (by decide), zu_c (by decide), zu_c (by decide), zf_a f6 3 1 rfl, zf_a fB 3 1 rfl, zu_c (by decide), r1, zu_s]; rfl
            · rw [zu_c (by decide), zu_c (by decide), zu_c (by decide), zf_a f6 3 1 rfl, zf_a fB 3 1 rfl, zu_c (by decide), r1]; omega
            · rw [zu_c (by decide), zu_c (by decide), zu_c (by decide), zf_a f6 3 1 rfl, zf_a fB 3 1 rfl, zu_c (by decide), r1]; omega
            · rw [zu_c (by decide), zu_c (by decide), zu_c (by decide), zf_a f6 3 1 rfl, zf_a fB 3 1 rfl, zu_c (by decide), r1] at b'
              have : i = 0 := by omega
              subst this
              rw [zu_c (by decide), zu_c (by decide), zu_c (by decide), zf_c f6 4 rfl, zf_c fB 4 rfl, zu_c (by decide), r2, zu_c (by decide), zu_s]
          | succ m ih =>
            intro t b ht ta br' bv' bm' bt'
            have t0 : 0 ≤ t ∧ t < 256 := by omega
            have zt : z_wr (t + (-1)) = t - 1 := by rw [zw (by omega) (by omega)]; omega
            have ct := zcard_r t
            have skip : ((∀ h, 0 ≤ h → zb t h = true → zb all h = true) → (zlq hs pl t N).1 = true → zkp b ≤ zkp t) → P2 (N : Int) all b (t - 1) M6 := fun hk => by
              refine ih (t - 1) b (by omega) (by omega) br' bv' (fun s a b' sv sq => ?_) (by omega)
              by_cases q : s = t
              · rw [q] at sv sq ⊢; exact hk sv sq
              · exact bm' s (by omega) b' sv sq
            refine h2 _ _ _ _ _ ⟨fun z => absurd z (by omega), fun _ => ⟨fun z => ?_, fun z => s_bitCount t0 (s_bitCount br' ?_)⟩⟩
            · rw [zt]; exact skip (fun sv => absurd ((z_sub t0 r).mpr sv) z)
            · have sv := (z_sub t0 r).mp (Classical.not_not.mp z)
              refine ⟨fun z2 => ?_, fun z2 => ?_⟩
              · rw [zt]; exact skip (fun _ _ => by unfold zkp; omega)
              · have lp : ∀ (m k : Nat), k + m = N → P3 (N : Int) all b t (zlq hs pl t k).2 (if (zlq hs pl t k).1 = true then 1 else 0) (k : Int) M6 := by
                  intro m
                  induction m with
                  | zero =>
                    intro k hk
                    have hk : k = N := by omega
                    subst hk
                    refine h3 _ _ _ _ _ _ _ _ ⟨fun _ => ?_, fun w => absurd (by omega) w⟩
                    rw [zt]
                    by_cases q : (zlq hs pl t k).1 = true
                    · rw [if_pos q]
                      refine ⟨fun w => absurd w (by decide), fun _ => ih (t - 1) t (by omega) (by omega) t0 ⟨sv, q⟩ (fun s a b' sv' sq => ?_) (by omega)⟩
                      by_cases e : s = t
                      · rw [e]; omega
                      · have := bm' s (by omega) b' sv' sq
                        have : zkp t ≤ zkp b := by
                          unfold zkp
                          rcases bt' with q2 | q2
                          · omega
                          · have e2 := zsub_le t0 r sv
                            rw [q2]
                            omega
                        omega
                    · rw [if_neg q]
                      exact ⟨fun _ => skip (fun _ w => absurd w q), fun w => absurd rfl w⟩
                  | succ m ih3 =>
                    intro k hk
                    have rr := d1 k (by omega) (by omega)
                    have nx := ih3 (k + 1) (by omega)
                    rw [show ((k + 1 : Nat) : Int) = (k : Int) + 1 by omega] at nx
                    unfold zlq at nx
                    have k8 : 0 ≤ (k : Int) ∧ (k : Int) < 8 := by omega
                    refine h3 _ _ _ _ _ _ _ _ ⟨fun w => absurd w (by omega), fun _ => ⟨k8, ?_⟩⟩
                    rw [e215 k (by omega) (by omega)]
                    refine s_M_has (by omega) (by omega) ?_
                    rw [zw (x := (k : Int) + 1) (by omega) (by omega), e215 k (by omega) (by omega), e200 _ rr.1 rr.2]
                    by_cases q : zb t (hs k) = true
                    · rw [if_pos q]
                      rw [if_pos q] at nx
                      exact ⟨fun _ => nx, fun w => absurd (by decide) w⟩
                    · rw [if_neg q]
                      rw [if_neg q] at nx
                      have hk8 : 0 ≤ hs k ∧ hs k < 8 := by omega
                      refine ⟨fun w => absurd rfl w, fun _ => ⟨fun w => ⟨k8, hk8, ?_⟩, fun w => ⟨k8, hk8, fun w2 => ⟨k8, hk8, ?_⟩, fun w2 => ⟨k8, hk8, ?_⟩⟩⟩⟩
                      · have e : (zlq hs pl t k).1 = false := by
                          cases e : (zlq hs pl t k).1
                          · rfl
                          · rw [e] at w; simp at w
                        dsimp only at nx
                        rw [e, Bool.false_and] at nx
                        exact nx
                      · dsimp only at nx
                        rw [decide_eq_false (by omega), Bool.and_false] at nx
                        exact nx
                      · have e : (zlq hs pl t k).1 = true := by
                          cases e : (zlq hs pl t k).1
                          · rw [e] at w; simp at w
                          · rfl
                        dsimp only at nx
                        rw [decide_eq_true (by omega), Bool.and_true, e] at nx
                        exact nx
                exact lp N 0 (by omega)
        have rd : ∀ (m k : Nat) (M6 : zM), k + m = N → zf [213] [(179, 12)] B M6 → M6 179 12 = k → (∀ j : Int, 0 ≤ j → j < k → M6 213 j = hs j) → P1 (k : Int) (zbn hs k) M6 := by
          intro m
          induction m with
          | zero =>
            intro k M6 hk f6 p12 e215
            have hk : k = N := by omega
            subst hk
            have p13 : M6 179 13 = k := by rw [zf_a f6 179 13 rfl, w4, hN]
            refine h1 _ _ _ (s_M_isDigit (by omega) ?_)
            rw [if_neg (by unfold zpd; simp; omega)]
            refine ⟨fun _ => ⟨fun _ => ?_, fun z => absurd (by omega) z⟩, fun z => absurd rfl z⟩
            have e63 : M6 179 3 = M 179 3 := by rw [zf_a f6 179 3 rfl]; exact e3
            have f146 := zf_tr f14 f6
            refine s_M_laysBook (ord := M 24) (len := M 26) (nam := M 25) (by decide) (by decide) (by rw [e63]; exact i4) (by rw [e63]; exact zRw_f (S := []) (J := []) i5 (zf_c f146 183 rfl)) (fun M7 f7 _ _ b7 => ?_)
            rw [e63] at b7
            rw [hall]
            refine sets M7 (zf_ww (zf_tr f6 f7) rfl rfl) (fun j a b => by rw [zf_c f7 213 rfl]; exact e215 j a b) (fun x a b => by rw [b7.1 x a b, ← hpl]; rfl) (all + 1).toNat all all (by omega) (by omega) r Vall (fun s a b => by omega) (Or.inr rfl)
          | succ m ih =>
            intro k M6 hk f6 p12 e215
            have rr := d1 k (by omega) (by omega)
            have p13 : M6 179 13 = N := by rw [zf_a f6 179 13 rfl, w4, hN]
            have h187 : M6 185 k = M 2 k := by rw [zf_c f6 185 rfl, e187]; exact ((t4 k (by omega) (by omega)).1).symm
            have dg : 48 ≤ M 2 k ∧ M 2 k ≤ 57 := by
              have := rr.1
              rw [ehs] at this
              unfold zdi at this
              split at this
              · assumption
              · omega
            have hk48 : M 2 k - 48 = hs k := by rw [ehs]; unfold zdi; rw [if_pos dg]
            obtain ⟨rk, bk, -⟩ := zbn_s c3 k (fun j a b => hg j a (by omega))
            have gk := hg k (by omega) (by omega)
            unfold zgk at gk
            rw [Bool.and_eq_true, show ((k : Int)).toNat = k by omega] at gk
            have g2 : zb (zbn hs k) (hs k) = false := by simpa using gk.2
            have e63 : M6 179 3 = M 179 3 := by rw [zf_a f6 179 3 rfl]; exact e3
            refine h1 _ _ _ (s_M_isDigit (by omega) ?_)
            rw [p12, h187, if_pos (by unfold zpd; rw [p13, h187]; simp; omega), zw (x := M 2 k - 48) (by omega) (by omega), hk48]
            refine ⟨fun z => absurd z (by decide), fun _ => ⟨by omega, s_M_isHouse (by rw [e63]; exact ⟨c2, c3⟩) ?_⟩⟩
            rw [e63, if_pos rr, p12, h187, zw (x := M 2 k - 48) (by omega) (by omega), hk48]
            refine ⟨fun z => absurd z (by decide), fun _ => ⟨by omega, s_M_has (by omega) (by omega) ?_⟩⟩
            rw [g2]
            refine ⟨fun z => absurd rfl z, fun _ => ?_⟩
            rw [p12, h187, zw (x := M 2 k - 48) (by omega) (by omega), hk48]
            refine ⟨by omega, by omega, by omega, ?_⟩
            rw [zu_s, zu_c (by decide), p12, zw (x := (k : Int) + 1) (by omega) (by omega)]
            have nx := ih (k + 1) (z_up (z_up M6 213 k (hs k)) 179 12 ((k : Int) + 1)) (by omega) (zf_uj (zf_us f6 (by decide)) (by decide)) (by rw [zu_s]; omega) (fun j a b => ?_)
            · rw [show ((k + 1 : Nat) : Int) = (k : Int) + 1 by omega] at nx
              exact nx
            · rw [zu_c (by decide)]
              by_cases q : j = k
              · rw [q, zu_s]
              · rw [zu_i q]; exact e215 j a (by omega)
        exact rd N 0 B (by omega) zf_rf w2 (fun j a b => by omega)
      | succ m ih =>
        intro t best ht br bv bl bm
        have ct := zcard_r t
        have skip : ((∀ h, 0 ≤ h → zb t h = true → zb all h = true) → (zlq hs pl t N).1 = true → zkp best ≤ zkp t) → Q (-1) all best ((t : Int) + 1) M1 := fun hk => by
          have := ih (t + 1) best (by omega) br bv (by omega) (fun s a b sv sq => ?_)
          · rw [show ((t + 1 : Nat) : Int) = (t : Int) + 1 by omega] at this
            exact this
          · by_cases q : s = t
            · rw [q] at sv sq ⊢; exact hk sv sq
            · exact bm s a (by omega) sv sq
        refine hQ _ _ _ _ _ ⟨fun z => absurd z (by omega), fun _ => ⟨fun z => ?_, fun z => s_bitCount (by omega) (s_bitCount br ?_)⟩⟩
        · rw [zw (x := (t : Int) + 1) (by omega) (by omega)]
          exact skip (fun sv => absurd ((z_sub (by omega) r).mpr sv) z)
        · have sv := (z_sub (by omega) r).mp (Classical.not_not.mp z)
          have es := zsub_le (by omega) r sv
          rw [zw (x := (t : Int) + 1) (by omega) (by omega)]
          refine ⟨fun z2 => skip (fun _ _ => ?_), fun z2 => s_W_isBookWithout (n := N) (c := M 179 3) (hs := hs) (pl := pl) ⟨c2, c3⟩ (by omega) m11 (fun k a b => by rw [m2, ehs]) hg m5 hp hj (by omega) ?_⟩
          · unfold zkp
            rcases bl with q | q
            · rw [q] at z2 ⊢
              rw [es.2.2 z2]; omega
            · omega
          · by_cases q : (zlq hs pl t N).1 = true
            · rw [if_pos q]
              refine ⟨fun w => absurd w (by decide), fun _ => ?_⟩
              have := ih (t + 1) t (by omega) (by omega) ⟨sv, q⟩ (by omega) (fun s a b sv' sq => ?_)
              · rw [show ((t + 1 : Nat) : Int) = (t : Int) + 1 by omega] at this
                exact this
              · by_cases e : s = t
                · rw [e]; omega
                · have := bm s a (by omega) sv' sq
                  unfold zkp at this ⊢
                  omega
            · rw [if_neg q]
              exact ⟨fun _ => skip (fun _ w => absurd w q), fun w => absurd rfl w⟩
    have rd : ∀ (m k : Nat), k + m = N → P (-1) (zbn hs k) (k : Int) M1 := by
      intro m
      induction m with
      | zero =>
        intro k hk
        have hk : k = N := by omega
        subst hk
        rw [hall]
        exact hP _ _ _ _ ⟨fun _ => pick 256 0 all (by omega) r Vall (Or.inl rfl) (fun s a b => by omega), fun z => absurd (by omega) z⟩
      | succ m ih =>
        intro k hk
        refine hP _ _ _ _ ⟨fun z => absurd z (by omega), fun _ => s_Text_at (by omega) (s_W_digitOf ?_)⟩
        rw [if_pos (by omega), m2, ← ehs, zw (x := (k : Int) + 1) (by omega) (by omega)]
        have := ih (k + 1) (by omega)
        rw [show ((k + 1 : Nat) : Int) = (k : Int) + 1 by omega] at this
        exact this
    exact rd N 0 (by omega)
  · -- a line that can't be read
    rw [c1, hhs] at hbad hg
    obtain ⟨K, hK⟩ : ∃ K : Nat, k = (K : Int) := ⟨k.toNat, by omega⟩
    subst hK
    obtain ⟨d1, d2⟩ := zgk_d c3 hg
    refine ⟨fun z => absurd z (by omega), fun _ => ?_⟩
    rw [zw (x := -1 - (K : Int)) (by omega) (by omega)]
    have f1 : zf [] [(1, 1), (179, 0)] M (z_up (z_up M 1 1 0) 179 0 0) := zf_uj (zf_uj zf_rf (by decide)) (by decide)
    refine e_M_lines (fun P1 P2 P3 h1 h2 h3 => s_M_begins (fun B fB w1 w2 w3 w4 => ?_))
    rw [zf_a f1 179 11 rfl, ← t1, if_neg (by omega)] at w4
    have f14 := zf_tr f1 fB
    have e3 : B 179 3 = M 179 3 := zf_a f14 179 3 rfl
    have e187 : B 185 = M 185 := zf_c f14 185 rfl
    have rd : ∀ (m k : Nat) (M6 : zM), k + m = K → zf [213] [(179, 12)] B M6 → M6 179 12 = k → P1 (k : Int) (zbn hs k) M6 := by
      intro m
      induction m with
      | zero =>
        intro k M6 hk f6 p12
        have hk : k = K := by omega
        subst hk
        have p13 : M6 179 13 = M 1 1 := by rw [zf_a f6 179 13 rfl, w4]
        have h187 : M6 185 k = M 2 k := by rw [zf_c f6 185 rfl, e187]; exact ((t4 k (by omega) (by omega)).1).symm
        have e63 : M6 179 3 = M 179 3 := by rw [zf_a f6 179 3 rfl]; exact e3
        obtain ⟨rk, bk, -⟩ := zbn_s c3 k hg
        have fin : -1 - (k : Int) = z_wr (-1 - (k : Int)) ∧ zI (n + 1) M6 := by
          refine ⟨(zw (by omega) (by omega)).symm, ⟨by omega, by omega⟩, iT_0 ?_ ?_, iR_f hR (zf_tr f14 f6) rfl, zJ_n (zJ_f hJ0 (zf_tr f14 f6) rfl) (by omega)⟩
          · rw [zf_a f6 1 1 rfl, zf_a fB 1 1 rfl, zu_c (by decide), zu_s]
          · rw [zf_a f6 179 11 rfl]; exact w1
        refine h1 _ _ _ (s_M_isDigit (by omega) ?_)
        rw [p12, p13, h187]
        by_cases dg : 48 ≤ M 2 k ∧ M 2 k ≤ 57
        · have hk48 : M 2 k - 48 = hs k := by rw [ehs]; unfold zdi; rw [if_pos dg]
          rw [if_pos (by unfold zpd; rw [h187]; simp; omega), zw (x := M 2 k - 48) (by omega) (by omega), hk48]
          refine ⟨fun z => absurd z (by decide), fun _ => ⟨by omega, s_M_isHouse (by rw [e63]; exact ⟨c2, c3⟩) ?_⟩⟩
          rw [e63, p12, p13, h187, zw (x := M 2 k - 48) (by omega) (by omega), hk48]
          by_cases hh : 0 ≤ hs k ∧ hs k < M 179 3
          · rw [if_pos hh]
            refine ⟨fun z => absurd z (by decide), fun _ => ⟨by omega, s_M_has (by omega) (by omega) ?_⟩⟩
            unfold zgk at hbad
            rw [decide_eq_true hh, Bool.true_and, show ((k : Int)).toNat = k by omega] at hbad
            have g2 : zb (zbn hs k) (hs k) = true := by simpa using hbad
            rw [if_pos g2, p12, p13]
            exact ⟨fun _ => ⟨fun z => absurd z (by omega), fun _ => fin⟩, fun z => absurd (by decide) z⟩
          · rw [if_neg hh]
            exact ⟨fun _ => ⟨fun z => absurd z (by omega), fun _ => fin⟩, fun z => absurd rfl z⟩
        · rw [if_neg (by unfold zpd; rw [h187]; simp; omega)]
          exact ⟨fun _ => ⟨fun z => absurd z (by omega), fun _ => fin⟩, fun z => absurd rfl z⟩
      | succ m ih =>
        intro k M6 hk f6 p12
        have rr := d1 k (by omega) (by omega)
        have p13 : M6 179 13 = M 1 1 := by rw [zf_a f6 179 13 rfl, w4]
        have h187 : M6 185 k = M 2 k := by rw [zf_c f6 185 rfl, e187]; exact ((t4 k (by omega) (by omega)).1).symm
        have dg : 48 ≤ M 2 k ∧ M 2 k ≤ 57 := by
          have := rr.1
          rw [ehs] at this
          unfold zdi at this
          split at this
          · assumption
          · omega
        have hk48 : M 2 k - 48 = hs k := by rw [ehs]; unfold zdi; rw [if_pos dg]
        obtain ⟨rk, bk, ck⟩ := zbn_s c3 k (fun j a b => hg j a (by omega))
        obtain ⟨-, bk2, ck2⟩ := zbn_s c3 (k + 1) (fun j a b => hg j a (by omega))
        have k8 : (k : Int) < 8 := by
          have := zcard_r (zbn hs (k + 1))
          omega
        have gk := hg k (by omega) (by omega)
        unfold zgk at gk
        rw [Bool.and_eq_true, show ((k : Int)).toNat = k by omega] at gk
        have g2 : zb (zbn hs k) (hs k) = false := by simpa using gk.2
        have e63 : M6 179 3 = M 179 3 := by rw [zf_a f6 179 3 rfl]; exact e3
        refine h1 _ _ _ (s_M_isDigit (by omega) ?_)
        rw [p12, h187, if_pos (by unfold zpd; rw [p13, h187]; simp; omega), zw (x := M 2 k - 48) (by omega) (by omega), hk48]
        refine ⟨fun z => absurd z (by decide), fun _ => ⟨by omega, s_M_isHouse (by rw [e63]; exact ⟨c2, c3⟩) ?_⟩⟩
        rw [e63, if_pos rr, p12, h187, zw (x := M 2 k - 48) (by omega) (by omega), hk48]
        refine ⟨fun z => absurd z (by decide), fun _ => ⟨by omega, s_M_has (by omega) (by omega) ?_⟩⟩
        rw [g2]
        refine ⟨fun z => absurd rfl z, fun _ => ?_⟩
        rw [p12, h187, zw (x := M 2 k - 48) (by omega) (by omega), hk48]
        refine ⟨by omega, by omega, by omega, ?_⟩
        rw [zu_s, zu_c (by decide), p12, zw (x := (k : Int) + 1) (by omega) (by omega)]
        have nx := ih (k + 1) (z_up (z_up M6 213 k (hs k)) 179 12 ((k : Int) + 1)) (by omega) (zf_uj (zf_us f6 (by decide)) (by decide)) (by rw [zu_s]; omega)
        rw [show ((k + 1 : Nat) : Int) = (k : Int) + 1 by omega] at nx
        exact nx
    exact rd K 0 B (by omega) zf_rf w2

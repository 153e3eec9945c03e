/-! letter(), row(), initial() -/
theorem zI_q {n : Int} {M : zM} (hI : zI n M) (hn : n < 512) {v : Int} : zI (n + 1) (z_up M 179 0 v) := zI_f hI hn (S := []) (J := [(179, 0)]) (zf_uj zf_rf (by decide)) rfl rfl
theorem p_letter {d : Nat} {h i n : Int} {M : zM} (hI : zI n M) (hn : n < 512) (hh : 0 ≤ h ∧ h < M 179 3) (hi : 0 ≤ i ∧ i < M 26 h) : zCi (d + 3) 146 [z_r (10, 0) 0, z_i h, z_i i] M (fun v M1 => M1 = M ∧ zCi (d + 3) 187 [z_r (11, 0) 179, z_i h, z_i i] M1 (fun v' M2 => v = v' ∧ zI (n + 1) M2 ∧ M2 179 0 = 0)) := by
  have hI0 := hI
  obtain ⟨hb, hT, hR, hJ⟩ := hI
  obtain ⟨ht, hr⟩ := tR_Rw hJ.1
  have ht : zTn (M 179 3) (M 24) (M 26) (M 25) := ht
  have hr : zRw M 183 (M 179 3) (M 24) (M 26) (M 25) := hr
  have h8 := ht.1
  have hl := ht.2.2.1 h hh.1 hh.2
  refine e_W_letter (s_Town_has ?_)
  rw [hJ.1.1, if_pos hh]
  refine ⟨fun z => absurd z (by decide), fun _ => ⟨fun z => absurd z (by omega), fun _ => ⟨by omega, fun _ => s_Town_letterAt (by omega) hi.1 (by show M 26 h ≤ 6; omega) ?_, fun z => absurd hi.2 z⟩⟩⟩
  rw [if_pos (show i < M (23 + 3) h from hi.2)]
  refine ⟨rfl, ?_⟩
  refine e_M_letter (s_M_isHouse (by rw [zu_i (by decide)]; exact h8) ?_)
  rw [zu_i (by decide), if_pos hh, zw (x := 8 + h) (by omega) (by omega), zu_c (by decide), hr.2.1 h hh.1 hh.2, zw (by omega) (by omega)]
  refine ⟨fun z => absurd z (by decide), fun _ => ⟨by omega, s_M_in ?_⟩⟩
  rw [if_pos (by omega)]
  refine ⟨fun _ => s_M_letterOf (by omega) (by omega) (by decide) ⟨?_, zI_q hI0 hn, zu_s _ _ _ _⟩, fun z => absurd (by decide) z⟩
  rw [zu_c (by decide)]
  exact (hr.2.2 h i hh.1 hh.2 hi.1 hi.2).symm
/-- where the class throws, the reference refuses -/
theorem r_letter {d : Nat} {h i n : Int} {M : zM} (hI : zI n M) (hn : n < 512) (hno : ¬ ((0 ≤ h ∧ h < M 179 3) ∧ 0 ≤ i ∧ i < M 26 h)) : zCi (d + 3) 187 [z_r (11, 0) 179, z_i h, z_i i] M (fun _ M2 => zI (n + 1) M2 ∧ M2 179 0 = 1) := by
  have hI0 := hI
  obtain ⟨hb, hT, hR, hJ⟩ := hI
  obtain ⟨ht, hr⟩ := tR_Rw hJ.1
  have ht : zTn (M 179 3) (M 24) (M 26) (M 25) := ht
  have hr : zRw M 183 (M 179 3) (M 24) (M 26) (M 25) := hr
  have h8 := ht.1
  have fin : zI (n + 1) (z_up (z_up M 179 0 0) 179 0 1) ∧ (z_up (z_up M 179 0 0) 179 0 1) 179 0 = 1 := ⟨zI_f hI0 hn (S := []) (J := [(179, 0)]) (zf_uj (zf_uj zf_rf (by decide)) (by decide)) rfl rfl, zu_s _ _ _ _⟩
  refine e_M_letter (s_M_isHouse (by rw [zu_i (by decide)]; exact h8) ?_)
  rw [zu_i (by decide)]
  by_cases hh : 0 ≤ h ∧ h < M 179 3
  · have hl := ht.2.2.1 h hh.1 hh.2
    rw [if_pos hh, zw (x := 8 + h) (by omega) (by omega), zu_c (by decide), hr.2.1 h hh.1 hh.2, zw (by omega) (by omega)]
    refine ⟨fun z => absurd z (by decide), fun _ => ⟨by omega, s_M_in ?_⟩⟩
    rw [if_neg (fun q => hno ⟨hh, q.1, by omega⟩)]
    exact ⟨fun z => absurd rfl z, fun _ => e_M_refuse fin⟩
  · rw [if_neg hh]
    exact ⟨fun _ => e_M_refuse fin, fun z => absurd rfl z⟩
theorem p_row {d : Nat} {i n : Int} {M : zM} (hI : zI n M) (hn : n < 512) (hi : 0 ≤ i ∧ i < M 3 1) : zCl (d + 2) 147 [z_r (10, 0) 0, z_i i] M (fun v M1 => M1 = M ∧ zCl (d + 2) 254 [z_r (11, 0) 179, z_i i] M1 (fun v' M2 => v = v' ∧ zI (n + 1) M2 ∧ M2 179 0 = 0)) := by
  have hI0 := hI
  obtain ⟨hb, hT, ⟨r1, r2, r3, r4⟩, hJ⟩ := hI
  refine e_W_row ⟨fun z => absurd z (by omega), fun _ => ⟨fun _ => ⟨by omega, rfl, ?_⟩, fun z => absurd hi.2 z⟩⟩
  refine e_M_row (s_M_in ?_)
  rw [zu_i (by decide), ← r1, zw (by omega) (by omega), if_pos (by omega)]
  refine ⟨fun _ => ⟨by omega, ?_, zI_q hI0 hn, zu_s _ _ _ _⟩, fun z => absurd (by decide) z⟩
  rw [zu_c (by decide)]
  exact r4 i hi.1 hi.2
theorem r_row {d : Nat} {i n : Int} {M : zM} (hI : zI n M) (hn : n < 512) (hno : ¬ (0 ≤ i ∧ i < M 3 1)) : zCl (d + 2) 254 [z_r (11, 0) 179, z_i i] M (fun _ M2 => zI (n + 1) M2 ∧ M2 179 0 = 1) := by
  have hI0 := hI
  obtain ⟨hb, hT, ⟨r1, r2, r3, r4⟩, hJ⟩ := hI
  refine e_M_row (s_M_in ?_)
  rw [zu_i (by decide), ← r1, zw (by omega) (by omega), if_neg (by omega)]
  exact ⟨fun z => absurd rfl z, fun _ => ⟨zI_f hI0 hn (S := []) (J := [(179, 0)]) (zf_uj (zf_uj zf_rf (by decide)) (by decide)) rfl rfl, zu_s _ _ _ _⟩⟩
/-- the town as it is, put aside -/
theorem s_M_puts {d : Nat} {M : zM} {F : zM → Prop} (H : ∀ M', zf [184] [] M M' → (∀ k, 0 ≤ k → k < 81 → M' 184 k = M 183 k) → F M') : zCv (d + 1) 213 [z_r (11, 0) 179] M F := by
  refine e_M_puts (fun P hP => ?_)
  have loop : ∀ (m : Nat) (i : Int) (M1 : zM), i + m = 81 → 0 ≤ i → zf [184] [] M M1 → (∀ k, 0 ≤ k → k < i → M1 184 k = M 183 k) → P i M1 := by
    intro m
    induction m with
    | zero =>
      intro i M1 hi i0 f e
      have : i = 81 := by omega
      subst this
      exact hP _ _ ⟨fun _ => H M1 f e, fun z => absurd (by decide) z⟩
    | succ m ih =>
      intro i M1 hi i0 f e
      refine hP _ _ ⟨fun z => absurd z (by omega), fun _ => ⟨by omega, by omega, ?_⟩⟩
      rw [zw (by omega) (by omega)]
      refine ih (i + 1) _ (by omega) (by omega) (zf_us f (by decide)) (fun k k0 k1 => ?_)
      by_cases hx : k = i
      · subst hx; rw [zu_s, zf_c f 183 rfl]
      · rw [zu_i hx]; exact e k k0 (by omega)
  exact loop 81 0 M (by omega) (by omega) zf_rf (fun k a b => by omega)
theorem zky_r {rk len nam : Int → Int} {c : Int} (hk : zok rk len nam c) {h : Int} (hh : 0 ≤ h ∧ h < c) : 0 ≤ zky rk len nam h ∧ zky rk len nam h < 4251528 := by
  have d0 := zdg_r hk hh 0 (by omega) (by omega)
  have d1 := zdg_r hk hh 1 (by omega) (by omega)
  have d2 := zdg_r hk hh 2 (by omega) (by omega)
  have d3 := zdg_r hk hh 3 (by omega) (by omega)
  have d4 := zdg_r hk hh 4 (by omega) (by omega)
  have d5 := zdg_r hk hh 5 (by omega) (by omega)
  have := hk.1
  unfold zky zk6
  omega
/-- another first letter -/
def inN (nam : Int → Int) (h x : Int) : Int → Int := fun q => if q = 6 * h then x else nam q
theorem zTn_in {c : Int} {ord len nam : Int → Int} {h x : Int} (ht : zTn c ord len nam) (hx : 0 ≤ x ∧ x < 8) : zTn c ord len (inN nam h x) := by
  obtain ⟨h1, h2, h3, h4⟩ := ht
  refine ⟨h1, h2, h3, fun q k0 k1 => ?_⟩
  unfold inN; split; exact hx; exact h4 q k0 k1
theorem zky_in {rk len nam : Int → Int} {h x : Int} (hl : 1 ≤ len h) : zky rk len (inN nam h x) h = zky rk len nam h + (rk x - rk (nam (6 * h))) * 472392 := by
  have e0 : zdg rk len (inN nam h x) h 0 = rk x + 1 := by
    unfold zdg inN; rw [if_pos (by omega), if_pos (by omega)]
  have g0 : zdg rk len nam h 0 = rk (nam (6 * h)) + 1 := by
    unfold zdg; rw [if_pos (by omega), Int.add_zero]
  have e : ∀ j, 1 ≤ j → zdg rk len (inN nam h x) h j = zdg rk len nam h j := by
    intro j hj; unfold zdg inN; rw [if_neg (show ¬ (6 * h + j = 6 * h) by omega)]
  unfold zky zk6
  rw [e0, g0, e 1 (by omega), e 2 (by omega), e 3 (by omega), e 4 (by omega), e 5 (by omega)]
  omega
theorem zky_in2 {rk len nam : Int → Int} {h o x : Int} (ho : o ≠ h) : zky rk len (inN nam h x) o = zky rk len nam o := by
  have e : ∀ j, 0 ≤ j → j < 6 → zdg rk len (inN nam h x) o j = zdg rk len nam o j := by
    intro j hj hj2; unfold zdg inN; rw [if_neg (show ¬ (6 * o + j = 6 * h) by omega)]
  unfold zky zk6
  rw [e 0 (by omega) (by omega), e 1 (by omega) (by omega), e 2 (by omega) (by omega), e 3 (by omega) (by omega), e 4 (by omega) (by omega), e 5 (by omega) (by omega)]
theorem zpl_in {c : Int} {ord len nam : Int → Int} {h x : Int} (ht : zTn c ord len nam) (hx : 0 ≤ x ∧ x < 8) (hh : 0 ≤ h ∧ h < c) : zcn (fun o => decide (o ≠ h) && decide (zky (zrk ord) len nam o < zky (zrk ord) len nam h + (zrk ord x - zrk ord (nam (6 * h))) * 472392)) c.toNat = zpl c (zrk ord) len (inN nam h x) h := by
  rw [zpl_k (zTn_ok (zTn_in ht hx)) hh]
  refine zcn_c _ (fun o a b => ?_)
  rw [← zky_in (x := x) (ht.2.2.1 h hh.1 hh.2).1]
  by_cases e : o = h
  · subst e
    rw [decide_eq_false (show ¬ (o ≠ o) by omega), Bool.false_and, decide_eq_false (Int.lt_irrefl _)]
  · rw [decide_eq_true e, Bool.true_and, zky_in2 e]
/-- the first least of f, and how little it is -/
def zmb (f : Int → Int) : Nat → Int × Int
  | 0 => (0, 8)
  | n + 1 => if f (n : Int) < (zmb f n).2 then ((n : Int), f (n : Int)) else zmb f n
theorem zmb_u (f : Int → Int) (n : Nat) : zmb f (n + 1) = if f (n : Int) < (zmb f n).2 then ((n : Int), f (n : Int)) else zmb f n := rfl
theorem p_initial {d : Nat} {h n : Int} {M : zM} (hI : zI n M) (hn : n < 512) : zQ (d + 5) 102 227 [z_r (10, 0) 0, z_i h] [z_r (11, 0) 179, z_i h] n M := by
  have hI0 := hI
  obtain ⟨hb, hT, hR, hJ⟩ := hI
  have hJ1 := hJ.1
  obtain ⟨ht, hr⟩ := tR_Rw hJ1
  have ht : zTn (M 179 3) (M 24) (M 26) (M 25) := ht
  have hr : zRw M 183 (M 179 3) (M 24) (M 26) (M 25) := hr
  have h8 := ht.1
  unfold zQ
  refine e_W_initial (fun P hP => s_Town_has ?_)
  rw [hJ1.1]
  by_cases ch : 0 ≤ h ∧ h < M 179 3
  · rw [if_pos ch]
    refine ⟨fun _ => s_W_write hJ1 (fun M1 f1 b1 => ?_), fun z => absurd (by decide) z⟩
    have hl := ht.2.2.1 h ch.1 ch.2
    have a24 : M1 24 = M 24 := zf_c f1 24 rfl
    have a25 : M1 (23 + 2) = M 25 := zf_c f1 25 rfl
    have a26 : M1 (23 + 3) = M 26 := zf_c f1 26 rfl
    refine s_Town_letterAt (by omega) (by omega) (by rw [a26]; omega) ?_
    rw [a26, a25, if_pos (by omega), Int.add_zero]
    have hl0 := ht.2.2.2 (6 * h) (by omega) (by omega)
    refine s_Town_placeOfLetter (by show zperm (M1 24); rw [a24]; exact ht.2.1) hl0 ?_
    have a24' : M1 (23 + 1) = M 24 := a24
    rw [a24']
    -- the class's loop
    have hw : ∀ k : Nat, ∀ x : Int × Int, zmb (fun x => zpl (M 179 3) (zrk (M 24)) (M 26) (inN (M 25) h x) h) k = x → (0 ≤ x.2 ∧ x.2 ≤ 8) := by
      intro k
      induction k with
      | zero => intro x e; subst e; show 0 ≤ (8 : Int) ∧ (8 : Int) ≤ 8; omega
      | succ k ih =>
        intro x e
        rw [zmb_u] at e
        by_cases c : (fun x => zpl (M 179 3) (zrk (M 24)) (M 26) (inN (M 25) h x) h) (k : Int) < (zmb (fun x => zpl (M 179 3) (zrk (M 24)) (M 26) (inN (M 25) h x) h) k).2
        · rw [if_pos c] at e
          have h1 := ih _ rfl
          subst e
          have h2 := zcn_le (fun b => decide (b ≠ h) && zah (zrk (M 24)) (M 26) (inN (M 25) h (k : Int)) b h) (M 179 3).toNat
          exact ⟨h2.1, by have := h2.2; show zpl (M 179 3) (zrk (M 24)) (M 26) (inN (M 25) h (k : Int)) h ≤ 8; unfold zpl; omega⟩
        · rw [if_neg c] at e
          exact ih _ e
    have loop : ∀ (m : Nat) (i : Nat), i + m = 8 → P h (zrk (M 24) (M 25 (6 * h))) (zmb (fun x => zpl (M 179 3) (zrk (M 24)) (M 26) (inN (M 25) h x) h) i).1 (zmb (fun x => zpl (M 179 3) (zrk (M 24)) (M 26) (inN (M 25) h x) h) i).2 (i : Int) M1 := by
      intro m
      induction m with
      | zero =>
        intro i hi
        have : i = 8 := by omega
        subst this
        refine hP _ _ _ _ _ _ ⟨fun _ => s_Row_tellOne (fun M2 f2 r2 r3 => ?_), fun z => absurd (by decide) z⟩
        generalize hB : zmb (fun x => zpl (M 179 3) (zrk (M 24)) (M 26) (inN (M 25) h x) h) 8 = B at r3
        have f12 := zf_tr f1 f2
        have g3 : (z_up M2 179 0 0) 179 3 = M 179 3 := by rw [zu_i (by decide), zf_a f12 179 3 rfl]
        refine e_M_initial (fun Q hQ => s_M_isHouse (by rw [g3]; exact h8) ?_)
        rw [g3, if_pos ch]
        refine ⟨fun _ => s_M_puts (fun M3 f3 e3 => ?_), fun z => absurd (by decide) z⟩
        have F3 : zf [36, 37, 38, 39, 4, 184, 194, 195, 196, 197, 198, 199] [(35, 4), (3, 1), (179, 0)] M M3 := zf_ww (zf_tr (zf_tr f12 (zf_uj (zf_rf (S := []) (J := [(179, 0)])) (by decide))) f3) rfl rfl
        have e186 : ∀ k, 0 ≤ k → k < 81 → M3 184 k = M 183 k := fun k a b => by rw [e3 k a b, zu_c (by decide), zf_c f12 183 rfl]
        have loop2 : ∀ (m : Nat) (i : Nat) (x y : Int) (M4 : zM), i + m = 8 → zf [184, 194, 195, 196, 197, 198, 199] [] M3 M4 → (∀ k, 0 ≤ k → k < 81 → k ≠ 16 + 6 * h → M4 184 k = M 183 k) → (i = 0 → x = -1 ∧ y = 1000000) → (1 ≤ i → (x, y) = zmb (fun x => zpl (M 179 3) (zrk (M 24)) (M 26) (inN (M 25) h x) h) i) → Q h x y (i : Int) M4 := by
          intro m
          induction m with
          | zero =>
            intro i x y M4 hi f4 e4 k0 k1
            have : i = 8 := by omega
            subst this
            have k1 := k1 (by omega)
            rw [hB] at k1
            have F4 : zf [36, 37, 38, 39, 4, 184, 194, 195, 196, 197, 198, 199] [(35, 4), (3, 1), (179, 0)] M M4 := zf_ww (zf_tr F3 f4) rfl rfl
            refine hQ _ _ _ _ _ ⟨fun _ => s_M_enters (by rw [zu_s]; omega) ?_, fun z => absurd (by decide) z⟩
            rw [zu_s]
            have F6 : zf [36, 37, 38, 39, 4, 184, 194, 195, 196, 197, 198, 199, 180] [(35, 4), (3, 1), (179, 0), (179, 1)] M (z_up (z_up (z_up M4 179 1 0) 180 0 y) 179 1 (0 + 1)) := zf_uj (zf_us (zf_uj (zf_ww F4 rfl rfl) (by decide)) (by decide)) (by decide)
            have f24 : zf [184, 194, 195, 196, 197, 198, 199] [(179, 0)] M2 M4 := zf_ww (zf_tr (zf_tr (zf_uj (zf_rf (S := []) (J := [(179, 0)])) (by decide)) f3) f4) rfl rfl
            refine ⟨by rw [← k1], ⟨by omega, by omega⟩, iT_f hT F6 rfl, ?_, zJ_n (zJ_f hJ F6 rfl) (by omega)⟩
            have k3 : (z_up (z_up (z_up M4 179 1 0) 180 0 y) 179 1 (0 + 1)) 3 1 = 1 := by
              rw [zu_c (by decide), zu_c (by decide), zu_c (by decide), zf_a f24 3 1 rfl]; exact r2
            have k4 : ∀ i, (z_up (z_up (z_up M4 179 1 0) 180 0 y) 179 1 (0 + 1)) 4 i = M2 4 i := fun i => by
              rw [zu_c (by decide), zu_c (by decide), zu_c (by decide), zf_c f24 4 rfl]
            refine ⟨by rw [k3, zu_s]; rfl, by rw [k3]; omega, by rw [k3]; omega, fun i i0 i1 => ?_⟩
            rw [k3] at i1
            have : i = 0 := by omega
            subst this
            rw [k4, r3, zu_c (by decide), zu_s, ← k1]
          | succ m ih =>
            intro i x y M4 hi f4 e4 k0 k1
            refine hQ _ _ _ _ _ ⟨fun z => absurd z (by omega), fun _ => ?_⟩
            rw [zw (x := 6 * h) (by omega) (by omega), zw (x := 16 + 6 * h) (by omega) (by omega), zw (x := (i : Int) + 1) (by omega) (by omega)]
            have F4 : zf [36, 37, 38, 39, 4, 184, 194, 195, 196, 197, 198, 199] [(35, 4), (3, 1), (179, 0)] M (z_up M4 184 (16 + 6 * h) i) := zf_us (zf_ww (zf_tr F3 f4) rfl rfl) (by decide)
            have g43 : (z_up M4 184 (16 + 6 * h) i) 179 3 = M 179 3 := zf_a F4 179 3 rfl
            refine ⟨by omega, s_M_placeOf (ord := M 24) (len := M 26) (nam := inN (M 25) h (i : Int)) (by decide) (by decide) (by rw [g43]; exact zTn_in ht (by omega)) ?_ (by rw [g43]; exact ch) (fun M5 f5 _ => ?_)⟩
            · rw [g43]
              refine ⟨fun j j0 j1 => ?_, fun o o0 o1 => ?_, fun o j o0 o1 j0 j1 => ?_⟩
              · rw [zu_i (by omega), e4 _ (by omega) (by omega) (by omega)]; exact hr.1 j j0 j1
              · rw [zu_i (by omega), e4 _ (by omega) (by omega) (by omega)]; exact hr.2.1 o o0 o1
              · have := ht.2.2.1 o o0 o1
                unfold inN
                by_cases e : 6 * o + j = 6 * h
                · rw [if_pos e, show 16 + (6 * o + j) = 16 + 6 * h by omega, zu_s]
                · rw [if_neg e, zu_i (by omega), e4 _ (by omega) (by omega) (by omega)]; exact hr.2.2 o j o0 o1 j0 j1
            · rw [g43]
              have f45 : zf [184, 194, 195, 196, 197, 198, 199] [] M3 M5 := zf_ww (zf_tr (zf_us f4 (by decide) : zf [184, 194, 195, 196, 197, 198, 199] [] M3 (z_up M4 184 (16 + 6 * h) i)) f5) rfl rfl
              have e5 : ∀ k, 0 ≤ k → k < 81 → k ≠ 16 + 6 * h → M5 184 k = M 183 k := fun k a b c => by
                rw [zf_c f5 184 rfl, zu_i c]; exact e4 k a b c
              have hv := zpl_r (zTn_ok (zTn_in (h := h) (x := (i : Int)) ht (by omega))) ch
              have nx := fun x y => ih (i + 1) x y M5 (by omega) f45 e5 (fun z => absurd z (by omega))
              have ei : ((i + 1 : Nat) : Int) = (i : Int) + 1 := by omega
              rw [ei] at nx
              refine ⟨fun z => ?_, fun z => ?_⟩
              · rw [if_neg (by omega)]
                refine nx _ _ (fun _ => ?_)
                by_cases i1 : i = 0
                · have := k0 i1; omega
                · have k1 := k1 (by omega)
                  rw [zmb_u, if_neg (by rw [← k1]; show ¬ (zpl (M 179 3) (zrk (M 24)) (M 26) (inN (M 25) h (i : Int)) h < y); omega)]
                  exact k1
              · rw [if_pos (by omega)]
                refine nx _ _ (fun _ => ?_)
                by_cases i1 : i = 0
                · subst i1
                  rw [zmb_u]
                  exact (if_pos (show zpl (M 179 3) (zrk (M 24)) (M 26) (inN (M 25) h ((0 : Nat) : Int)) h < (8 : Int) by omega)).symm
                · have k1 := k1 (by omega)
                  rw [zmb_u, if_pos (by rw [← k1]; show zpl (M 179 3) (zrk (M 24)) (M 26) (inN (M 25) h (i : Int)) h < y; omega)]
        exact loop2 8 0 _ _ M3 (by omega) zf_rf (fun k a b _ => e186 k a b) (fun _ => ⟨rfl, rfl⟩) (fun z => absurd z (by omega))
      | succ m ih =>
        intro i hi
        have hn := ih (i + 1) (by omega)
        rw [show ((i + 1 : Nat) : Int) = (i : Int) + 1 by omega, zmb_u] at hn
        have hx := hw i _ rfl
        refine hP _ _ _ _ _ _ ⟨fun z => absurd z (by omega), fun _ => s_Town_placeOfLetter (by show zperm (M1 24); rw [a24]; exact ht.2.1) (by omega) ⟨by omega, ?_⟩⟩
        have z1 := zrk_r (M 24) (i : Int)
        have z2 := zrk_r (M 24) (M 25 (6 * h))
        have z3 := zky_r (zTn_ok ht) ch
        have k38 : M1 38 h = zky (zrk (M 24)) (M 26) (M 25) h := b1.2.1 h ch.1 ch.2
        rw [a24', k38, zw (x := zrk (M 24) (i : Int) - _) (by omega) (by omega), zw (x := (zrk (M 24) (i : Int) - _) * 472392) (by omega) (by omega), zw (x := zky _ _ _ _ + _) (by omega) (by omega)]
        refine s_Book_placeByKey (by rw [b1.1]; exact h8) ?_
        rw [b1.1, zcn_c (q := fun o => decide (o ≠ h) && decide (zky (zrk (M 24)) (M 26) (M 25) o < zky (zrk (M 24)) (M 26) (M 25) h + (zrk (M 24) (i : Int) - zrk (M 24) (M 25 (6 * h))) * 472392)) (M 179 3).toNat (fun o a b => by rw [b1.2.1 o a (by omega)]), zpl_in ht (by omega) ch, zw (by omega) (by omega)]
        refine ⟨fun z => ?_, fun z => ?_⟩
        · rw [if_neg (fun y => by have : zpl (M 179 3) (zrk (M 24)) (M 26) (inN (M 25) h (i : Int)) h < _ := y; omega)] at hn
          exact hn
        · rw [if_pos (show zpl (M 179 3) (zrk (M 24)) (M 26) (inN (M 25) h (i : Int)) h < _ by omega)] at hn
          exact hn
    exact loop 8 0 (by omega)
  · rw [if_neg ch]
    refine ⟨fun z => absurd rfl z, fun _ => ?_⟩
    refine e_M_initial (fun Q hQ => s_M_isHouse (by rw [zu_i (by decide)]; exact h8) ?_)
    rw [zu_i (by decide), if_neg ch]
    exact ⟨fun z => absurd rfl z, fun _ => ⟨rfl, zI_q hI0 hn⟩⟩

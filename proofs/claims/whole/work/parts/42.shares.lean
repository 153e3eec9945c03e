/-! shares() -/
def zam (g : Int → Int) : Nat → Int
  | 0 => 0
  | n + 1 => if g (zam g n) < g ((n + 1 : Nat) : Int) then ((n + 1 : Nat) : Int) else zam g n
theorem zam_r (g : Int → Int) : ∀ n : Nat, 0 ≤ zam g n ∧ zam g n ≤ n
  | 0 => ⟨Int.le_refl _, Int.le_refl _⟩
  | n + 1 => by
    have ih := zam_r g n
    show 0 ≤ (if g (zam g n) < g ((n + 1 : Nat) : Int) then ((n + 1 : Nat) : Int) else zam g n) ∧ (if g (zam g n) < g ((n + 1 : Nat) : Int) then ((n + 1 : Nat) : Int) else zam g n) ≤ ((n + 1 : Nat) : Int)
    split <;> omega
theorem zam_c {g g' : Int → Int} : ∀ n : Nat, (∀ i : Int, 0 ≤ i → i ≤ n → g i = g' i) → zam g n = zam g' n
  | 0, _ => rfl
  | n + 1, h => by
    have ih := zam_c n (fun i a b => h i a (by omega))
    have r := zam_r g' n
    show (if g (zam g n) < g ((n + 1 : Nat) : Int) then ((n + 1 : Nat) : Int) else zam g n) = (if g' (zam g' n) < g' ((n + 1 : Nat) : Int) then ((n + 1 : Nat) : Int) else zam g' n)
    rw [ih, h _ r.1 (by omega), h ((n + 1 : Nat) : Int) (by omega) (by omega)]
/-- what is left to house i, if it has been given none of it -/
def zgl (rm : Int → Int) (S : Int) : Int → Int := fun i => if zb S i = true then -1 else rm i
theorem zgl_r {rm : Int → Int} {S i : Int} (h : 0 ≤ rm i) : -1 ≤ zgl rm S i := by unfold zgl; split <;> omega
/-- behind k drops: who has one, and how much each has -/
def zdp (c : Nat) (rm fl : Int → Int) : Nat → Int × (Int → Int)
  | 0 => (0, fl)
  | k + 1 => (zbs (zdp c rm fl k).1 (zam (zgl rm (zdp c rm fl k).1) (c - 1)), fun i => if i = zam (zgl rm (zdp c rm fl k).1) (c - 1) then (zdp c rm fl k).2 i + 1 else (zdp c rm fl k).2 i)
theorem zdp_r {c : Nat} {rm fl : Int → Int} (hc : 1 ≤ c ∧ c ≤ 8) : ∀ k : Nat, (0 ≤ (zdp c rm fl k).1 ∧ (zdp c rm fl k).1 < 256) ∧ ∀ i, fl i ≤ (zdp c rm fl k).2 i ∧ (zdp c rm fl k).2 i ≤ fl i + k
  | 0 => ⟨⟨by show (0 : Int) ≤ 0; omega, by show (0 : Int) < 256; omega⟩, fun i => ⟨by show fl i ≤ fl i; omega, by show fl i ≤ fl i + 0; omega⟩⟩
  | k + 1 => by
    obtain ⟨h1, h2⟩ := zdp_r (rm := rm) (fl := fl) hc k
    have r := zam_r (zgl rm (zdp c rm fl k).1) (c - 1)
    refine ⟨zbs_lt h1 (by omega), fun i => ?_⟩
    have := h2 i
    show fl i ≤ (if i = zam (zgl rm (zdp c rm fl k).1) (c - 1) then (zdp c rm fl k).2 i + 1 else (zdp c rm fl k).2 i) ∧ (if i = zam (zgl rm (zdp c rm fl k).1) (c - 1) then (zdp c rm fl k).2 i + 1 else (zdp c rm fl k).2 i) ≤ fl i + ((k + 1 : Nat) : Int)
    split <;> omega
def zfl2 (w T : Int) (th : Int → Int) (i : Int) : Int := z_wr (Int.tdiv (z_wr (w * th i)) T)
def zrm2 (w T : Int) (th : Int → Int) (i : Int) : Int := Int.tmod (z_wr (w * th i)) T
theorem zfr {w T : Int} {th : Int → Int} {i : Int} (hw : 0 ≤ w ∧ w ≤ 99) (hT : 0 < T) (ht : 1 ≤ th i ∧ th i ≤ 9) : (0 ≤ zfl2 w T th i ∧ zfl2 w T th i ≤ 891) ∧ 0 ≤ zrm2 w T th i := by
  have m0 : 0 ≤ w * th i := Int.mul_nonneg hw.1 (by omega)
  have m1 : w * th i ≤ 99 * 9 := Int.mul_le_mul hw.2 ht.2 (by omega) (by omega)
  unfold zfl2 zrm2
  rw [zw (x := w * th i) (by omega) (by omega)]
  have d0 : 0 ≤ Int.tdiv (w * th i) T := Int.tdiv_nonneg m0 (by omega)
  have d1 : Int.tdiv (w * th i) T ≤ w * th i := Int.tdiv_le_self T m0
  rw [zw (by omega) (by omega)]
  exact ⟨⟨d0, by omega⟩, Int.tmod_nonneg T m0⟩
theorem s_W_greatestRest {d : Nat} {w T S : Int} {M : zM} {F : Int → zM → Prop} (hc : 1 ≤ M 23 5 ∧ M 23 5 ≤ 8) (hT : 0 < T) (hS : 0 ≤ S ∧ S < 256) (hr : ∀ i, 0 ≤ i → i < M 23 5 → 0 ≤ zrm2 w T (M 46) i) (H : F (zam (zgl (zrm2 w T (M 46)) S) ((M 23 5).toNat - 1)) M) : zCi (d + 2) 118 [z_r (10, 0) 0, z_i w, z_i T, z_i S] M F := by
  refine e_W_greatestRest (fun P hP => ?_)
  have st : ∀ x4 x5 i : Int, 0 ≤ i → i < M 23 5 → -1 ≤ x5 → P w T S (if x5 < zgl (zrm2 w T (M 46)) S i then i else x4) (if x5 < zgl (zrm2 w T (M 46)) S i then zgl (zrm2 w T (M 46)) S i else x5) (i + 1) M → P w T S x4 x5 i M := by
    intro x4 x5 i i0 i1 h5 hn
    have hri := hr i i0 i1
    refine hP _ _ _ _ _ _ _ ⟨fun z => absurd z (by omega), fun _ => ⟨fun z => absurd z (by omega), fun _ => ⟨by omega, by omega, s_W_isIn ⟨hS.1, by omega⟩ (by omega) ?_⟩⟩⟩
    rw [zw (x := i + 1) (by omega) (by omega)]
    unfold zgl at hn
    by_cases c : zb S i = true
    · rw [if_pos c] at hn ⊢
      rw [if_neg (by omega), if_neg (by omega)] at hn
      exact ⟨fun _ => hn, fun z => absurd (by decide) z⟩
    · rw [if_neg c] at hn ⊢
      refine ⟨fun z => absurd rfl z, fun _ => ⟨fun z => ?_, fun z => ?_⟩⟩
      · have z : zrm2 w T (M 46) i ≤ x5 := z
        rw [if_neg (by omega), if_neg (by omega)] at hn
        exact hn
      · have z : ¬ (zrm2 w T (M 46) i ≤ x5) := z
        rw [if_pos (by omega), if_pos (by omega)] at hn
        exact hn
  have loop : ∀ (m i : Nat), ((i + 1 : Nat) : Int) + m = M 23 5 → P w T S (zam (zgl (zrm2 w T (M 46)) S) i) (zgl (zrm2 w T (M 46)) S (zam (zgl (zrm2 w T (M 46)) S) i)) ((i + 1 : Nat) : Int) M := by
    intro m
    induction m with
    | zero =>
      intro i hi
      refine hP _ _ _ _ _ _ _ ⟨fun _ => ?_, fun z => absurd (by omega) z⟩
      rw [show i = (M 23 5).toNat - 1 by omega]; exact H
    | succ m ih =>
      intro i hi
      have hn := ih (i + 1) (by omega)
      have r := zam_r (zgl (zrm2 w T (M 46)) S) i
      have e : zam (zgl (zrm2 w T (M 46)) S) (i + 1) = if zgl (zrm2 w T (M 46)) S (zam (zgl (zrm2 w T (M 46)) S) i) < zgl (zrm2 w T (M 46)) S ((i + 1 : Nat) : Int) then ((i + 1 : Nat) : Int) else zam (zgl (zrm2 w T (M 46)) S) i := rfl
      refine st _ _ _ (by omega) (by omega) (zgl_r (hr _ r.1 (by omega))) ?_
      rw [e, show ((i + 1 + 1 : Nat) : Int) = ((i + 1 : Nat) : Int) + 1 by omega] at hn
      by_cases c : zgl (zrm2 w T (M 46)) S (zam (zgl (zrm2 w T (M 46)) S) i) < zgl (zrm2 w T (M 46)) S ((i + 1 : Nat) : Int)
      · rw [if_pos c] at hn; rw [if_pos c, if_pos c]; exact hn
      · rw [if_neg c] at hn; rw [if_neg c, if_neg c]; exact hn
  refine st 0 (-1) 0 (by omega) (by omega) (by omega) ?_
  have h0 := loop ((M 23 5).toNat - 1) 0 (by omega)
  have g0 := zgl_r (S := S) (hr 0 (by omega) (by omega))
  by_cases c : -1 < zgl (zrm2 w T (M 46)) S 0
  · rw [if_pos c, if_pos c]; exact h0
  · rw [if_neg c, if_neg c]
    have e : zgl (zrm2 w T (M 46)) S (zam (zgl (zrm2 w T (M 46)) S) 0) = -1 := by show zgl (zrm2 w T (M 46)) S 0 = -1; omega
    rw [e] at h0
    exact h0
theorem zsm_1 {f : Int → Int} : ∀ n : Nat, (∀ i : Int, 0 ≤ i → i < n → 1 ≤ f i) → (n : Int) ≤ zsm f n
  | 0, _ => Int.le_refl _
  | n + 1, h => by
    have h1 := zsm_1 n (fun i a b => h i a (by omega))
    have h2 := h n (by omega) (by omega)
    show ((n + 1 : Nat) : Int) ≤ zsm f n + f n
    omega
theorem s_W_shares {d : Nat} {w : Int} {M : zM} {F : Int → zM → Prop} (hc : 0 ≤ M 23 5 ∧ M 23 5 ≤ 8) (hth : ∀ i, 0 ≤ i → i < M 23 5 → 1 ≤ M 46 i ∧ M 46 i ≤ 9) (h0 : ¬ (0 ≤ w ∧ w ≤ 99) → F (-1) M) (h1 : (0 ≤ w ∧ w ≤ 99) → M 23 5 = 0 → F 0 (z_up M 3 1 0))
    (h2 : (0 ≤ w ∧ w ≤ 99) → 1 ≤ M 23 5 → ∀ T, T = zsm (M 46) (M 23 5).toNat → 0 < T → ∀ D, D = zdp (M 23 5).toNat (zrm2 w T (M 46)) (zfl2 w T (M 46)) (w - zsm (zfl2 w T (M 46)) (M 23 5).toNat).toNat → ∀ M', zf [4, 160] [(3, 1)] M M' → M' 3 1 = M 23 5 → (∀ i, 0 ≤ i → i < M 23 5 → M' 4 i = D.2 i) → F (D.2 0) M') : zCi (d + 4) 117 [z_r (10, 0) 0, z_i w] M F := by
  refine e_W_shares (fun P Q hP hQ => ⟨fun z => h0 (by omega), fun z => ⟨fun z2 => ?_, fun z2 => h0 (by omega)⟩⟩)
  have hw : 0 ≤ w ∧ w ≤ 99 := by omega
  refine s_Pump_thirstOfAll hc (fun h a b => by have := hth h a b; omega) ?_
  have hb := zsm_b (f := M 46) (B := 9) (M 23 5).toNat (fun i a b => by have := hth i a (by omega); omega)
  have hb1 := zsm_1 (f := M 46) (M 23 5).toNat (fun i a b => (hth i a (by omega)).1)
  refine ⟨fun zT => ?_, fun zT => ?_⟩
  · have hc1 : 1 ≤ M 23 5 := by
      refine Classical.byContradiction (fun q => zT ?_)
      rw [show (M 23 5).toNat = 0 by omega]; rfl
    have hT : 0 < zsm (M 46) (M 23 5).toNat := by omega
    have H2 := h2 hw hc1 _ rfl hT
    generalize zsm (M 46) (M 23 5).toNat = T at hT H2
    have fr := fun i a b => zfr (i := i) hw hT (hth i a b)
    generalize hD : zdp (M 23 5).toNat (zrm2 w T (M 46)) (zfl2 w T (M 46)) = D at H2
    have dr : ∀ k : Nat, _ := fun k => zdp_r (c := (M 23 5).toNat) (rm := zrm2 w T (M 46)) (fl := zfl2 w T (M 46)) (by omega) k
    have hs := zsm_b (f := zfl2 w T (M 46)) (B := 891) (M 23 5).toNat (fun i a b => (fr i a (by omega)).1)
    have loop2 : ∀ (m k : Nat) (M1 : zM), (w - zsm (zfl2 w T (M 46)) (M 23 5).toNat).toNat = k + m → zf [160] [] M M1 → (∀ i, 0 ≤ i → i < M 23 5 → M1 160 i = (D k).2 i) → Q w T (w - zsm (zfl2 w T (M 46)) (M 23 5).toNat) (D k).1 (k : Int) M1 := by
      intro m
      induction m with
      | zero =>
        intro k M1 hk f1 e1
        have c5 : M1 23 5 = M 23 5 := zf_a f1 23 5 rfl
        refine hQ _ _ _ _ _ _ ⟨fun _ => ?_, fun z => absurd (by omega) z⟩
        rw [c5]
        refine s_Row_tellAll (by decide) hc (by decide) (fun M2 f2 r1 r2 => ⟨by decide, ?_⟩)
        rw [zf_c f2 160 rfl, e1 0 (by omega) (by omega)]
        rw [Nat.add_zero] at hk
        have := H2 (D k) (by rw [hk]) M2 (zf_ww (zf_tr f1 f2) rfl rfl) r1 (fun i a b => by rw [r2 i a b]; exact e1 i a b)
        exact this
      | succ m ih =>
        intro k M1 hk f1 e1
        have c5 : M1 23 5 = M 23 5 := zf_a f1 23 5 rfl
        have c46 : M1 46 = M 46 := zf_c f1 46 rfl
        have dk := dr k
        have dk1 : D (k + 1) = (zbs (D k).1 (zam (zgl (zrm2 w T (M 46)) (D k).1) ((M 23 5).toNat - 1)), fun i => if i = zam (zgl (zrm2 w T (M 46)) (D k).1) ((M 23 5).toNat - 1) then (D k).2 i + 1 else (D k).2 i) := by rw [← hD]; rfl
        have hr := zam_r (zgl (zrm2 w T (M 46)) (D k).1) ((M 23 5).toNat - 1)
        rw [hD] at dk
        refine hQ _ _ _ _ _ _ ⟨fun z => absurd z (by omega), fun _ => s_W_greatestRest (by omega) hT dk.1 (by rw [c5, c46]; exact fun i a b => (fr i a b).2) ?_⟩
        rw [c5, c46]
        generalize hh : zam (zgl (zrm2 w T (M 46)) (D k).1) ((M 23 5).toNat - 1) = h at hr dk1
        have hi := dk.2 h
        have fh := fr h hr.1 (by omega)
        refine ⟨by omega, by omega, ?_⟩
        rw [e1 h hr.1 (by omega), zw (x := (D k).2 h + 1) (by omega) (by omega), zw (x := (k : Int) + 1) (by omega) (by omega)]
        have hn := ih (k + 1) (z_up M1 160 h ((D k).2 h + 1)) (by omega) (zf_us f1 (by decide)) (fun i a b => by
          rw [dk1]
          show _ = (if i = h then (D k).2 i + 1 else (D k).2 i)
          by_cases e : i = h
          · rw [if_pos e, e, zu_s]
          · rw [if_neg e, zu_i e]; exact e1 i a b)
        rw [dk1, show ((k + 1 : Nat) : Int) = (k : Int) + 1 by omega] at hn
        exact hn
    have loop1 : ∀ (m i : Nat) (M1 : zM), (i : Int) + m = M 23 5 → zf [160] [] M M1 → (∀ j : Int, 0 ≤ j → j < i → M1 160 j = zfl2 w T (M 46) j) → P w T (w - zsm (zfl2 w T (M 46)) i) (i : Int) M1 := by
      intro m
      induction m with
      | zero =>
        intro i M1 hi f1 e1
        have c5 : M1 23 5 = M 23 5 := zf_a f1 23 5 rfl
        refine hP _ _ _ _ _ ⟨fun _ => ?_, fun z => absurd (by omega) z⟩
        have := loop2 _ 0 M1 (Nat.zero_add _).symm f1 (fun j a b => by rw [← hD]; exact e1 j a (by omega))
        rw [show (D 0).1 = 0 by rw [← hD]; rfl, show (M 23 5).toNat = i by omega] at this
        exact this
      | succ m ih =>
        intro i M1 hi f1 e1
        have c5 : M1 23 5 = M 23 5 := zf_a f1 23 5 rfl
        have c46 : M1 46 = M 46 := zf_c f1 46 rfl
        have b1 := zsm_b (f := zfl2 w T (M 46)) (B := 891) i (fun j a b => (fr j a (by omega)).1)
        have b2 := fr i (by omega) (by omega)
        refine hP _ _ _ _ _ ⟨fun z => absurd z (by omega), fun _ => ⟨by omega, by omega, by omega, by omega, ?_⟩⟩
        rw [zu_s, c46]
        show P w T (z_wr (w - zsm (zfl2 w T (M 46)) i - zfl2 w T (M 46) i)) (z_wr ((i : Int) + 1)) (z_up M1 160 i (zfl2 w T (M 46) i))
        rw [zw (x := (i : Int) + 1) (by omega) (by omega), zw (by omega) (by omega)]
        have hn := ih (i + 1) (z_up M1 160 i (zfl2 w T (M 46) i)) (by omega) (zf_us f1 (by decide)) (fun j a b => by
          by_cases e : j = i
          · rw [e, zu_s]
          · rw [zu_i e]; exact e1 j a (by omega))
        rw [show zsm (zfl2 w T (M 46)) (i + 1) = zsm (zfl2 w T (M 46)) i + zfl2 w T (M 46) i from rfl, show ((i + 1 : Nat) : Int) = (i : Int) + 1 by omega, ← Int.sub_sub] at hn
        exact hn
    have := loop1 (M 23 5).toNat 0 M (by omega) zf_rf (fun j a b => by omega)
    rw [show w - zsm (zfl2 w T (M 46)) 0 = w by show w - 0 = w; omega] at this
    exact this
  · have zT := Classical.not_not.mp zT
    exact h1 hw (by omega)
theorem zgl_s {rm : Int → Int} {S h i : Int} (hS : 0 ≤ S ∧ S < 256) (hh : 0 ≤ h ∧ h < 8) (hi : 0 ≤ i) : zgl rm (zbs S h) i = if i = h then -1 else zgl rm S i := by
  unfold zgl
  rw [zb_zbs (by omega) (by omega) hi]
  by_cases e : i = h
  · rw [if_pos e, decide_eq_true e.symm, Bool.or_true, if_pos rfl]
  · rw [if_neg e, decide_eq_false (fun q => e q.symm), Bool.or_false]
theorem s_M_shares {d : Nat} {w : Int} {th : Int → Int} {M : zM} {F : Int → zM → Prop} (hc : 0 ≤ M 179 3 ∧ M 179 3 ≤ 8) (hth : ∀ i, 0 ≤ i → i < M 179 3 → M 182 i = th i ∧ 1 ≤ th i ∧ th i ≤ 9) (h0 : ¬ (0 ≤ w ∧ w ≤ 99) → F (-1) (z_up M 179 0 0)) (h1 : (0 ≤ w ∧ w ≤ 99) → M 179 3 = 0 → ∀ M', zf [180, 214, 215] [(179, 0), (179, 1)] M M' → M' 179 1 = 0 → F 0 M')
    (h2 : (0 ≤ w ∧ w ≤ 99) → 1 ≤ M 179 3 → ∀ T, T = zsm th (M 179 3).toNat → 0 < T → ∀ D, D = zdp (M 179 3).toNat (zrm2 w T th) (zfl2 w T th) (w - zsm (zfl2 w T th) (M 179 3).toNat).toNat → ∀ M', zf [180, 214, 215] [(179, 0), (179, 1)] M M' → M' 179 1 = M 179 3 → (∀ i, 0 ≤ i → i < M 179 3 → M' 180 i = D.2 i) → F (D.2 0) M') : zCi (d + 4) 235 [z_r (11, 0) 179, z_i w] M F := by
  refine e_M_shares (fun P Q R U hP hQ hR hU => s_M_in ?_)
  by_cases hw : 0 ≤ w ∧ w ≤ 99
  · rw [if_pos hw]
    refine ⟨fun _ => ?_, fun z => absurd (by decide) z⟩
    have fz : zf [180, 214, 215] [(179, 0), (179, 1)] M (z_up M 179 0 0) := zf_uj zf_rf (by decide)
    have g3 : (z_up M 179 0 0) 179 3 = M 179 3 := zu_i (by decide)
    have g184 : (z_up M 179 0 0) 182 = M 182 := zu_f (by decide)
    refine s_M_allThirst (by rw [g3]; exact hc) (fun h a b => by rw [g184]; have := hth h a (by omega); omega) ?_
    rw [g3, g184, zsm_c (g := th) _ (fun i a b => (hth i a (by omega)).1)]
    by_cases hc1 : 1 ≤ M 179 3
    · have hb1 := zsm_1 (f := th) (M 179 3).toNat (fun i a b => (hth i a (by omega)).2.1)
      have hT : 0 < zsm th (M 179 3).toNat := by omega
      have H2 := h2 hw hc1 _ rfl hT
      generalize zsm th (M 179 3).toNat = T at hT H2
      have fr := fun i a b => zfr (i := i) hw hT (hth i a b).2
      generalize hD : zdp (M 179 3).toNat (zrm2 w T th) (zfl2 w T th) = D at H2
      have dr : ∀ k : Nat, _ := fun k => zdp_r (c := (M 179 3).toNat) (rm := zrm2 w T th) (fl := zfl2 w T th) (by omega) k
      rw [hD] at dr
      have hs := zsm_b (f := zfl2 w T th) (B := 891) (M 179 3).toNat (fun i a b => (fr i a (by omega)).1)
      -- the telling
      have tell : ∀ (K : Int × (Int → Int)), K = D (w - zsm (zfl2 w T th) (M 179 3).toNat).toNat → ∀ (l : Int) (m i : Nat) (M1 : zM), (i : Int) + m = M 179 3 → zf [180, 214, 215] [(179, 0), (179, 1)] M M1 → (∀ j : Int, 0 ≤ j → j < M 179 3 → M1 214 j = K.2 j) → M1 179 1 = i → (∀ j : Int, 0 ≤ j → j < i → M1 180 j = K.2 j) → U w T l (i : Int) M1 := by
        intro K hK l m
        induction m with
        | zero =>
          intro i M1 hi f1 e1 e2 e3
          have c3 : M1 179 3 = M 179 3 := zf_a f1 179 3 rfl
          refine hU _ _ _ _ _ ⟨fun _ => ⟨fun _ => ⟨by decide, ?_⟩, fun z => absurd (by omega) z⟩, fun z => absurd (by omega) z⟩
          rw [e1 0 (by omega) (by omega)]
          exact H2 K hK M1 f1 (by omega) (fun j a b => e3 j a (by omega))
        | succ m ih =>
          intro i M1 hi f1 e1 e2 e3
          have c3 : M1 179 3 = M 179 3 := zf_a f1 179 3 rfl
          refine hU _ _ _ _ _ ⟨fun z => absurd z (by omega), fun _ => ⟨by omega, s_M_enters (by omega) ?_⟩⟩
          rw [zw (x := (i : Int) + 1) (by omega) (by omega), e2, e1 i (by omega) (by omega)]
          have hn := ih (i + 1) (z_up (z_up M1 180 i (K.2 i)) 179 1 ((i : Int) + 1)) (by omega) (zf_uj (zf_us f1 (by decide)) (by decide)) (fun j a b => by rw [zu_c (by decide), zu_c (by decide)]; exact e1 j a b) (by rw [zu_s]; omega) (fun j a b => by
            rw [zu_c (by decide)]
            by_cases e : j = (i : Int)
            · rw [e, zu_s]
            · rw [zu_i e]; exact e3 j a (by omega))
          rw [show ((i + 1 : Nat) : Int) = (i : Int) + 1 by omega] at hn
          exact hn
      -- the drops
      have drops : ∀ (m k : Nat) (x : Int) (M1 : zM), (w - zsm (zfl2 w T th) (M 179 3).toNat).toNat = k + m → (m = 0 → w - zsm (zfl2 w T th) (M 179 3).toNat - k ≤ 0) → zf [180, 214, 215] [(179, 0), (179, 1)] M M1 → (∀ i : Int, 0 ≤ i → i < M 179 3 → M1 214 i = (D k).2 i ∧ M1 215 i = zgl (zrm2 w T th) (D k).1 i) → Q w T (w - zsm (zfl2 w T th) (M 179 3).toNat - k) x M1 := by
        intro m
        induction m with
        | zero =>
          intro k x M1 hk hz f1 e1
          refine hQ _ _ _ _ _ ⟨fun _ => ?_, fun z => absurd (hz rfl) z⟩
          rw [Nat.add_zero] at hk
          exact tell (D k) (by rw [hk]) _ (M 179 3).toNat 0 _ (by omega) (zf_uj f1 (by decide)) (fun j a b => by rw [zu_c (by decide)]; exact (e1 j a b).1) (zu_s _ _ _ _) (fun j a b => by omega)
        | succ m ih =>
          intro k x M1 hk hz f1 e1
          have c3 : M1 179 3 = M 179 3 := zf_a f1 179 3 rfl
          have dk := dr k
          have dk1 : D (k + 1) = (zbs (D k).1 (zam (zgl (zrm2 w T th) (D k).1) ((M 179 3).toNat - 1)), fun i => if i = zam (zgl (zrm2 w T th) (D k).1) ((M 179 3).toNat - 1) then (D k).2 i + 1 else (D k).2 i) := by rw [← hD]; rfl
          refine hQ _ _ _ _ _ ⟨fun z => absurd z (by omega), fun _ => ⟨fun z => absurd z (by omega), fun _ => ?_⟩⟩
          have find : ∀ (l i : Nat), ((i + 1 : Nat) : Int) + l = M 179 3 → R w T (w - zsm (zfl2 w T th) (M 179 3).toNat - k) (zam (zgl (zrm2 w T th) (D k).1) i) ((i + 1 : Nat) : Int) M1 := by
            intro l
            induction l with
            | zero =>
              intro i hi
              have ei : i = (M 179 3).toNat - 1 := by omega
              have hr := zam_r (zgl (zrm2 w T th) (D k).1) ((M 179 3).toNat - 1)
              rw [ei]
              generalize hh : zam (zgl (zrm2 w T th) (D k).1) ((M 179 3).toNat - 1) = h at hr dk1
              have hi2 := dk.2 h
              have fh := fr h hr.1 (by omega)
              refine hR _ _ _ _ _ _ ⟨fun _ => ⟨by omega, by omega, by omega, ?_⟩, fun z => absurd (by omega) z⟩
              rw [(e1 h hr.1 (by omega)).1, zw (x := (D k).2 h + 1) (by omega) (by omega), zw (by omega) (by omega)]
              have hn := ih (k + 1) h (z_up (z_up M1 214 h ((D k).2 h + 1)) 215 h (-1)) (by omega) (fun _ => by omega) (zf_us (zf_us f1 (by decide)) (by decide)) (fun i a b => by
                rw [dk1]
                refine ⟨?_, ?_⟩
                · show _ = (if i = h then (D k).2 i + 1 else (D k).2 i)
                  rw [zu_c (by decide)]
                  by_cases e : i = h
                  · rw [if_pos e, e, zu_s]
                  · rw [if_neg e, zu_i e]; exact (e1 i a b).1
                · show _ = zgl (zrm2 w T th) (zbs (D k).1 h) i
                  rw [zgl_s dk.1 (by omega) a]
                  by_cases e : i = h
                  · rw [if_pos e, e, zu_s]
                  · rw [if_neg e, zu_i e, zu_c (by decide)]; exact (e1 i a b).2)
              rw [show w - zsm (zfl2 w T th) (M 179 3).toNat - ((k + 1 : Nat) : Int) = w - zsm (zfl2 w T th) (M 179 3).toNat - k + -1 by omega] at hn
              exact hn
            | succ l ihl =>
              intro i hi
              have hn := ihl (i + 1) (by omega)
              have r := zam_r (zgl (zrm2 w T th) (D k).1) i
              have e : zam (zgl (zrm2 w T th) (D k).1) (i + 1) = if zgl (zrm2 w T th) (D k).1 (zam (zgl (zrm2 w T th) (D k).1) i) < zgl (zrm2 w T th) (D k).1 ((i + 1 : Nat) : Int) then ((i + 1 : Nat) : Int) else zam (zgl (zrm2 w T th) (D k).1) i := rfl
              rw [e, show ((i + 1 + 1 : Nat) : Int) = ((i + 1 : Nat) : Int) + 1 by omega] at hn
              refine hR _ _ _ _ _ _ ⟨fun z => absurd z (by omega), fun _ => ⟨by omega, by omega, ?_⟩⟩
              rw [(e1 _ r.1 (by omega)).2, (e1 ((i + 1 : Nat) : Int) (by omega) (by omega)).2, zw (x := ((i + 1 : Nat) : Int) + 1) (by omega) (by omega)]
              refine ⟨fun z => ?_, fun z => ?_⟩
              · rw [if_neg (by omega)] at hn; exact hn
              · rw [if_pos (by omega)] at hn; exact hn
          exact find ((M 179 3).toNat - 1) 0 (by omega)
      have loop1 : ∀ (m i : Nat) (M1 : zM), (i : Int) + m = M 179 3 → zf [180, 214, 215] [(179, 0), (179, 1)] M M1 → (∀ j : Int, 0 ≤ j → j < i → M1 214 j = zfl2 w T th j ∧ M1 215 j = zrm2 w T th j) → P w T (w - zsm (zfl2 w T th) i) (i : Int) M1 := by
        intro m
        induction m with
        | zero =>
          intro i M1 hi f1 e1
          have c3 : M1 179 3 = M 179 3 := zf_a f1 179 3 rfl
          refine hP _ _ _ _ _ ⟨fun _ => ?_, fun z => absurd (by omega) z⟩
          have := drops _ 0 i M1 (Nat.zero_add _).symm (fun z => by omega) f1 (fun j a b => by
            rw [← hD]
            refine ⟨(e1 j a (by omega)).1, ?_⟩
            show _ = zgl (zrm2 w T th) 0 j
            unfold zgl
            rw [zb_0, if_neg (by decide)]
            exact (e1 j a (by omega)).2)
          rw [show (M 179 3).toNat = i by omega, show ((0 : Nat) : Int) = 0 from rfl, Int.sub_zero] at this
          exact this
        | succ m ih =>
          intro i M1 hi f1 e1
          have c3 : M1 179 3 = M 179 3 := zf_a f1 179 3 rfl
          have c184 : M1 182 i = th i := by rw [zf_c f1 182 rfl]; exact (hth i (by omega) (by omega)).1
          have b1 := zsm_b (f := zfl2 w T th) (B := 891) i (fun j a b => (fr j a (by omega)).1)
          have b2 := fr i (by omega) (by omega)
          refine hP _ _ _ _ _ ⟨fun z => absurd z (by omega), fun _ => ⟨by omega, by omega, by omega, by omega, by omega, by omega, by omega, ?_⟩⟩
          rw [zu_c (by decide), zu_s, zu_c (by decide), c184]
          show P w T (z_wr (w - zsm (zfl2 w T th) i - zfl2 w T th i)) (z_wr ((i : Int) + 1)) (z_up (z_up M1 214 i (zfl2 w T th i)) 215 i (zrm2 w T th i))
          rw [zw (x := (i : Int) + 1) (by omega) (by omega), zw (by omega) (by omega)]
          have hn := ih (i + 1) (z_up (z_up M1 214 i (zfl2 w T th i)) 215 i (zrm2 w T th i)) (by omega) (zf_us (zf_us f1 (by decide)) (by decide)) (fun j a b => by
            by_cases e : j = (i : Int)
            · rw [e]
              exact ⟨by rw [zu_c (by decide), zu_s], by rw [zu_s]⟩
            · rw [zu_c (by decide), zu_i e, zu_i e, zu_c (by decide)]; exact e1 j a (by omega))
          rw [show zsm (zfl2 w T th) (i + 1) = zsm (zfl2 w T th) i + zfl2 w T th i from rfl, show ((i + 1 : Nat) : Int) = (i : Int) + 1 by omega, ← Int.sub_sub] at hn
          exact hn
      have := loop1 (M 179 3).toNat 0 _ (by omega) fz (fun j a b => by omega)
      rw [show w - zsm (zfl2 w T th) 0 = w by show w - 0 = w; omega] at this
      exact this
    · have e0 : M 179 3 = 0 := by omega
      rw [show (M 179 3).toNat = 0 by omega]
      have k3 : ∀ M1, zf [180, 214, 215] [(179, 0), (179, 1)] M M1 → M1 179 3 = 0 := fun M1 f => by rw [zf_a f 179 3 rfl]; exact e0
      have fz1 : zf [180, 214, 215] [(179, 0), (179, 1)] M (z_up (z_up M 179 0 0) 179 1 0) := zf_uj fz (by decide)
      have fin : ∀ l, U w (zsm th 0) l 0 (z_up (z_up M 179 0 0) 179 1 0) := fun l => by
        have := k3 _ fz1
        exact hU _ _ _ _ _ ⟨fun _ => ⟨fun z => absurd this z, fun _ => h1 hw e0 _ fz1 (zu_s _ _ _ _)⟩, fun z => absurd (by omega) z⟩
      have := k3 _ fz
      exact hP _ _ _ _ _ ⟨fun _ => hQ _ _ _ _ _ ⟨fun _ => fin _, fun _ => ⟨fun _ => fin _, fun z => absurd (by omega) z⟩⟩, fun z => absurd (by omega) z⟩
  · rw [if_neg hw]
    exact ⟨fun z => absurd rfl z, fun _ => h0 hw⟩
theorem p_shares {d : Nat} {w n : Int} {M : zM} (hI : zI n M) (hn : n < 512) : zQ (d + 4) 117 235 [z_r (10, 0) 0, z_i w] [z_r (11, 0) 179, z_i w] n M := by
  have hI0 := hI
  obtain ⟨hb, hT, hR, hJ⟩ := hI
  have hH := hJ.2.1
  obtain ⟨c1, c2, c3⟩ := zJ_count hJ
  unfold zQ
  have hth : ∀ M1 : zM, M1 182 = M 182 → M1 179 3 = M 179 3 → ∀ i, 0 ≤ i → i < M1 179 3 → M1 182 i = M 46 i ∧ 1 ≤ M 46 i ∧ M 46 i ≤ 9 := fun M1 a b i x y => by
    have := hH i x (by omega)
    rw [a]; exact ⟨this.1.symm, this.2⟩
  refine s_W_shares (by rw [c1]; exact ⟨c2, c3⟩) (fun i a b => (hH i a (by omega)).2) (fun hw => ?_) (fun hw z => ?_) (fun hw h1 T eT T0 D eD M1 f1 r1 r2 => ?_)
  · exact s_M_shares (th := M 46) ⟨c2, c3⟩ (hth M rfl rfl) (fun _ => ⟨rfl, zI_q hI0 hn⟩) (fun z => absurd z hw) (fun z => absurd z hw)
  · have f1 : zf [] [(3, 1)] M (z_up M 3 1 0) := zf_uj zf_rf (by decide)
    have e3 : (z_up M 3 1 0) 179 3 = M 179 3 := zf_a f1 179 3 rfl
    refine s_M_shares (th := M 46) (by rw [e3]; exact ⟨c2, c3⟩) (hth _ (zf_c f1 182 rfl) e3) (fun q => absurd hw q) (fun _ _ M2 f2 r2 => ?_) (fun _ q => by omega)
    have f := zf_tr f1 f2
    refine ⟨rfl, ⟨by omega, by omega⟩, iT_f hT f rfl, ?_, zJ_n (zJ_f hJ f rfl) (by omega)⟩
    rw [zf_a f2 3 1 rfl, zu_s, r2]
    exact ⟨rfl, by omega, by omega, fun i a b => by omega⟩
  · have e3 : M1 179 3 = M 179 3 := zf_a f1 179 3 rfl
    refine s_M_shares (th := M 46) (by rw [e3]; exact ⟨c2, c3⟩) (hth _ (zf_c f1 182 rfl) e3) (fun q => absurd hw q) (fun _ q => by omega) (fun _ _ T' eT' _ D' eD' M2 f2 q1 q2 => ?_)
    rw [e3, ← c1] at eT' eD'
    rw [← eT] at eT'
    subst eT'
    rw [← eD] at eD'
    subst eD'
    have f := zf_tr f1 f2
    refine ⟨rfl, ⟨by omega, by omega⟩, iT_f hT f rfl, ?_, zJ_n (zJ_f hJ f rfl) (by omega)⟩
    rw [zf_a f2 3 1 rfl, zf_c f2 4 rfl, r1, q1, e3, c1]
    refine ⟨rfl, c2, c3, fun i a b => ?_⟩
    rw [r2 i a (by omega), q2 i a (by omega)]

/-! SIGNS; heat() -/
def zdi (c : Int) : Int := if 48 ≤ c ∧ c ≤ 57 then c - 48 else -1
def zle (c : Int) : Int := if 97 ≤ c ∧ c ≤ 104 then c - 97 else -1
theorem s_W_digitOf {d : Nat} {c : Int} {M : zM} {F : Int → zM → Prop} (H : F (zdi c) M) : zCi (d + 1) 5 [z_i c] M F := by
  unfold zdi at H
  refine e_W_digitOf ⟨fun q => ?_, fun q => ⟨fun q2 => ?_, fun q2 => ?_⟩⟩
  · rw [if_neg (by omega)] at H; exact H
  · rw [if_neg (by omega)] at H; exact H
  · rw [if_pos (by omega)] at H; rw [zw (by omega) (by omega)]; exact H
theorem s_W_letterOf {d : Nat} {c : Int} {M : zM} {F : Int → zM → Prop} (H : F (zle c) M) : zCi (d + 1) 6 [z_i c] M F := by
  unfold zle at H
  refine e_W_letterOf ⟨fun q => ?_, fun q => ⟨fun q2 => ?_, fun q2 => ?_⟩⟩
  · rw [if_neg (by omega)] at H; exact H
  · rw [if_neg (by omega)] at H; exact H
  · rw [if_pos (by omega)] at H; rw [zw (by omega) (by omega)]; exact H
theorem s_Text_at {d : Nat} {p : Int} {M : zM} {F : Int → zM → Prop} (hn : M 1 1 ≤ 80) (H : F (if 0 ≤ p ∧ p < M 1 1 then M 2 p else -1) M) : zCi (d + 1) 9 [z_r (7, 0) 1, z_i p] M F := by
  refine e_Text_at ⟨fun q => ?_, fun q => ⟨fun q2 => ?_, fun q2 => ⟨by omega, ?_⟩⟩⟩
  · rw [if_neg (by omega)] at H; exact H
  · rw [if_neg (by omega)] at H; exact H
  · rw [if_pos (by omega)] at H; exact H
theorem s_Text_faultAtEnd {d : Nat} {m : Int} {b : Int} {M : zM} {F : Int → zM → Prop} (H : F (if m < M 1 1 then m else if b = 0 then M 1 1 else -1) M) : zCi (d + 1) 7 [z_r (7, 0) 1, z_i m, z_i b] M F := by
  refine e_Text_faultAtEnd ⟨fun q => ⟨fun q2 => ?_, fun q2 => ?_⟩, fun q => ?_⟩
  · rw [if_neg (by omega), if_pos q2] at H; exact H
  · rw [if_neg (by omega), if_neg q2] at H; exact H
  · rw [if_pos (by omega)] at H; exact H
/-- how far p holds, from i on, at most f -/
def zrun (p : Int → Bool) : Nat → Int → Int
  | 0, i => i
  | f + 1, i => if p i = true then zrun p f (i + 1) else i
theorem zrun_u (p : Int → Bool) (f : Nat) (i : Int) : zrun p (f + 1) i = if p i = true then zrun p f (i + 1) else i := rfl
theorem zrun_s (p : Int → Bool) : ∀ (f : Nat) (i : Int), (i ≤ zrun p f i ∧ zrun p f i ≤ i + f) ∧ (∀ j, i ≤ j → j < zrun p f i → p j = true) ∧ (zrun p f i < i + f → p (zrun p f i) = false)
  | 0, i => ⟨by unfold zrun; omega, fun j a b => by unfold zrun at b; omega, fun h => by unfold zrun at h; omega⟩
  | f + 1, i => by
    unfold zrun
    by_cases h : p i = true
    · rw [if_pos h]
      obtain ⟨⟨a1, a2⟩, a3, a4⟩ := zrun_s p f (i + 1)
      refine ⟨⟨by omega, by omega⟩, fun j x y => ?_, fun x => a4 (by omega)⟩
      by_cases e : j = i
      · rw [e]; exact h
      · exact a3 j (by omega) y
    · rw [if_neg h]
      exact ⟨⟨by omega, by omega⟩, fun j x y => by omega, fun _ => by simpa using h⟩
theorem zrun_c {p q : Int → Bool} : ∀ (f : Nat) (i : Int), (∀ j, i ≤ j → j < i + f → p j = q j) → zrun p f i = zrun q f i
  | 0, _, _ => rfl
  | f + 1, i, h => by
    unfold zrun
    rw [h i (by omega) (by omega), zrun_c f (i + 1) (fun j a b => h j (by omega) (by omega))]
/-- the sign at i is there, and a digit -/
def zpd (n : Int) (sg : Int → Int) (i : Int) : Bool := decide (i < n) && decide (48 ≤ sg i ∧ sg i ≤ 57)
theorem s_Text_faultInHeat {d : Nat} {M : zM} {F : Int → zM → Prop} (hn : 0 ≤ M 1 1 ∧ M 1 1 ≤ 80) (H : F (if 1 ≤ M 1 1 ∧ zrun (zpd (M 1 1) (M 2)) 20 0 = M 1 1 then -1 else zrun (zpd (M 1 1) (M 2)) 20 0) M) : zCi (d + 2) 12 [z_r (7, 0) 1] M F := by
  refine e_Text_faultInHeat (fun P hP => ?_)
  have loop : ∀ (f : Nat) (i : Int), i + f = 20 → 0 ≤ i → i ≤ M 1 1 → zrun (zpd (M 1 1) (M 2)) f i = zrun (zpd (M 1 1) (M 2)) 20 0 → P i M := by
    intro f
    induction f with
    | zero =>
      intro i hi i0 i1 e
      have e : i = zrun (zpd (M 1 1) (M 2)) 20 0 := e
      refine hP _ _ ⟨fun q => ⟨fun q2 => absurd q2 (by omega), fun q2 => s_Text_faultAtEnd ?_⟩, fun q => ⟨fun _ => ⟨fun q2 => absurd q2 (by omega), fun q2 => s_Text_faultAtEnd ?_⟩, fun q2 => absurd (by omega) q2⟩⟩
      · rw [if_pos (by omega)] at H
        rw [if_neg (by omega), if_neg (by decide)]; exact H
      · rw [if_neg (by omega)] at H
        rw [if_pos (by omega)]
        rw [← e] at H
        rw [show (20 : Int) = i by omega]; exact H
    | succ f ih =>
      intro i hi i0 i1 e
      rw [zrun_u _ f i] at e
      refine hP _ _ ⟨fun q => ?_, fun q => ⟨fun q2 => absurd q2 (by omega), fun _ => ⟨by omega, s_W_digitOf ?_⟩⟩⟩
      · rw [if_neg (by unfold zpd; simp; omega)] at e
        refine ⟨fun q2 => s_Text_faultAtEnd ?_, fun q2 => s_Text_faultAtEnd ?_⟩
        · rw [if_neg (by omega)] at H
          rw [if_neg (by omega), if_pos rfl]
          rw [← e] at H
          rw [show M 1 1 = i by omega]; exact H
        · rw [if_pos (by omega)] at H
          rw [if_neg (by omega), if_neg (by decide)]; exact H
      · unfold zdi
        by_cases hc : 48 ≤ M 2 i ∧ M 2 i ≤ 57
        · rw [if_pos hc]
          rw [if_pos (by unfold zpd; simp; omega)] at e
          refine ⟨fun _ => ?_, fun q2 => absurd (by omega) q2⟩
          rw [zw (by omega) (by omega)]
          exact ih (i + 1) (by omega) (by omega) (by omega) e
        · rw [if_neg hc]
          rw [if_neg (by unfold zpd; simp; omega)] at e
          rw [if_neg (by omega), ← e] at H
          exact ⟨fun q2 => absurd rfl q2, fun _ => H⟩
  exact loop 20 0 (by omega) (by omega) (by omega) rfl
theorem s_Pump_takeHeat {d : Nat} {M : zM} {F : zM → Prop} (hn : 1 ≤ M 1 1 ∧ M 1 1 ≤ 20) (H : ∀ M', zf [47] [(45, 2)] M M' → M' 45 2 = M 1 1 → (∀ i, 0 ≤ i → i < M 1 1 → M' 47 i = zdi (M 2 i)) → F M') : zCv (d + 2) 13 [z_r (4, 0) 45, z_r (7, 0) 1] M F := by
  refine e_Pump_takeHeat (fun P hP => ?_)
  rw [if_neg (by omega)]
  have loop : ∀ (m : Nat) (i : Int) (M1 : zM), i + m = M 1 1 → 0 ≤ i → zf [47] [(45, 2)] M M1 → M1 45 2 = M 1 1 → (∀ j, 0 ≤ j → j < i → M1 47 j = zdi (M 2 j)) → P i M1 := by
    intro m
    induction m with
    | zero =>
      intro i M1 hi i0 f e1 e2
      have : i = M 1 1 := by omega
      subst this
      exact hP _ _ ⟨fun _ => H M1 f e1 e2, fun c => absurd (by omega) c⟩
    | succ m ih =>
      intro i M1 hi i0 f e1 e2
      have c1 : M1 1 1 = M 1 1 := zf_a f 1 1 rfl
      have c2 : M1 2 = M 2 := zf_c f 2 rfl
      refine hP _ _ ⟨fun c => absurd c (by omega), fun _ => s_Text_at (by omega) (s_W_digitOf ⟨by omega, ?_⟩)⟩
      rw [c1, c2, if_pos (by omega), zw (x := i + 1) (by omega) (by omega)]
      refine ih (i + 1) _ (by omega) (by omega) (zf_us f (by decide)) (by rw [zu_c (by decide)]; exact e1) (fun j j0 j1 => ?_)
      by_cases hx : j = i
      · subst hx; rw [zu_s]
      · rw [zu_i hx]; exact e2 j j0 (by omega)
  exact loop (M 1 1).toNat 0 _ (by omega) (by omega) (zf_uj zf_rf (by decide)) (by rw [zu_s]) (fun j j0 j1 => by omega)
theorem s_M_begins {d : Nat} {m : Int} {M : zM} {F : Int → zM → Prop} (H : ∀ M', zf [] [(179, 11), (179, 12), (179, 13), (179, 14)] M M' → M' 179 11 = 0 → M' 179 12 = 0 → M' 179 14 = 0 → M' 179 13 = (if m < M 179 11 then m else M 179 11) → F (M 179 11) M') : zCi (d + 1) 153 [z_r (11, 0) 179, z_i m] M F := by
  refine e_M_begins (H _ (zf_uj (zf_uj (zf_uj (zf_uj zf_rf (by decide)) (by decide)) (by decide)) (by decide)) ?_ ?_ ?_ ?_)
  · rw [zu_i (by decide), zu_i (by decide), zu_i (by decide), zu_s]
  · rw [zu_i (by decide), zu_i (by decide), zu_s]
  · rw [zu_i (by decide), zu_s]
  · rw [zu_s]
theorem s_M_isDigit {d : Nat} {M : zM} {F : Int → zM → Prop} (h : 0 ≤ M 179 12 ∧ M 179 13 ≤ 80) (H : F (if zpd (M 179 13) (M 185) (M 179 12) = true then 1 else 0) M) : zCi (d + 2) 163 [z_r (11, 0) 179] M F := by
  unfold zpd at H
  refine e_M_isDigit ⟨fun q => ?_, fun q => ⟨by omega, s_M_in ?_⟩⟩
  · rw [if_neg (by simp; omega)] at H; exact H
  · by_cases hc : 48 ≤ M 185 (M 179 12) ∧ M 185 (M 179 12) ≤ 57
    · rw [if_pos hc]
      rw [if_pos (by simp; omega)] at H
      exact ⟨fun z => absurd z (by decide), fun _ => H⟩
    · rw [if_neg hc]
      rw [if_neg (by simp; omega)] at H
      exact ⟨fun _ => H, fun z => absurd rfl z⟩
/-- one digit -/
theorem s_M_number1 {d : Nat} {M : zM} {F : Int → zM → Prop} (h : 0 ≤ M 179 12 ∧ M 179 13 ≤ 80) (h1 : zpd (M 179 13) (M 185) (M 179 12) = true → F (M 185 (M 179 12) - 48) (z_up M 179 12 (M 179 12 + 1))) (h0 : zpd (M 179 13) (M 185) (M 179 12) = false → F (-1) M) : zCi (d + 3) 164 [z_r (11, 0) 179, z_i 1] M F := by
  refine e_M_number (fun P hP => s_M_isDigit h ?_)
  by_cases hc : zpd (M 179 13) (M 185) (M 179 12) = true
  · have hc2 := hc
    unfold zpd at hc2
    simp at hc2
    rw [if_pos hc]
    refine ⟨fun _ => hP _ _ _ _ ⟨fun q => absurd q (by decide), fun _ => s_M_isDigit h ?_⟩, fun z => absurd (by decide) z⟩
    rw [if_pos hc]
    refine ⟨fun z => absurd z (by decide), fun _ => ⟨by omega, hP _ _ _ _ ⟨fun _ => ?_, fun z => absurd (by decide) z⟩⟩⟩
    rw [show z_wr (10 * 0) = 0 from rfl, zw (x := 0 + M 185 (M 179 12)) (by omega) (by omega), zw (by omega) (by omega), zw (x := M 179 12 + 1) (by omega) (by omega), Int.zero_add]
    exact h1 hc
  · rw [if_neg hc]
    exact ⟨fun z => absurd rfl z, fun _ => h0 (by simpa using hc)⟩
theorem s_M_heat {d : Nat} {M : zM} {F : Int → zM → Prop} (hn : 0 ≤ M 179 11 ∧ M 179 11 ≤ 80)
    (h1 : 1 ≤ M 179 11 → zrun (zpd (M 179 11) (M 185)) 20 0 = M 179 11 → ∀ M', zf [189, 181] [(179, 0), (179, 5), (179, 11), (179, 12), (179, 13), (179, 14)] M M' → M' 179 11 = 0 → M' 179 5 = M 179 11 → (∀ i, 0 ≤ i → i < M 179 11 → M' 181 i = M 185 i - 48) → F (M 179 11) M')
    (h0 : ¬ (1 ≤ M 179 11 ∧ zrun (zpd (M 179 11) (M 185)) 20 0 = M 179 11) → ∀ M', zf [189] [(179, 0), (179, 11), (179, 12), (179, 13), (179, 14)] M M' → M' 179 11 = 0 → F (-1 - zrun (zpd (M 179 11) (M 185)) 20 0) M') : zCi (d + 4) 162 [z_r (11, 0) 179] M F := by
  refine e_M_heat (fun P Q hP hQ => s_M_begins (fun M1 f1 a1 a2 a3 a4 => ?_))
  rw [zu_i (by decide)] at a4
  have f1' : zf [189] [(179, 0), (179, 11), (179, 12), (179, 13), (179, 14)] M M1 := zf_ww (zf_tr (zf_uj (zf_rf (S := []) (J := [(179, 0)])) (by decide)) f1) rfl rfl
  have a4 : M1 179 13 = M 179 11 := by rw [a4]; split <;> omega
  have ex : ∀ (i : Int) (M2 : zM), 0 ≤ i → i ≤ M 179 11 → i ≤ 20 → zrun (zpd (M 179 11) (M 185)) 20 0 = i → zf [189] [(179, 0), (179, 11), (179, 12), (179, 13), (179, 14)] M M2 → M2 179 11 = 0 → M2 179 12 = i → M2 179 13 = M 179 11 → (∀ j, 0 ≤ j → j < i → M2 189 j = M 185 j - 48) → ((i = 0 → F (z_wr ((-1) - (M2 179 12))) M2) ∧ (¬ (i = 0) → (((M2 179 13) ≤ (M2 179 12) → Q i 0 (z_up M2 179 5 i)) ∧ (¬ ((M2 179 13) ≤ (M2 179 12)) → F (z_wr ((-1) - (M2 179 12))) M2)))) := by
    intro i M2 i0 i1 i2 e f b1 b2 b3 b4
    rw [b2, b3, zw (x := -1 - i) (by omega) (by omega)]
    refine ⟨fun q => ?_, fun q => ⟨fun q2 => ?_, fun q2 => ?_⟩⟩
    · have := h0 (by omega) M2 f b1; rw [e] at this; exact this
    · have ei : i = M 179 11 := by omega
      have loop : ∀ (m : Nat) (k : Int) (M3 : zM), k + m = i → 0 ≤ k → zf [189, 181] [(179, 0), (179, 5), (179, 11), (179, 12), (179, 13), (179, 14)] M M3 → M3 189 = M2 189 → M3 179 11 = 0 → M3 179 5 = i → (∀ j, 0 ≤ j → j < k → M3 181 j = M 185 j - 48) → Q i k M3 := by
        intro m
        induction m with
        | zero =>
          intro k M3 hk k0 f3 c1 c2 c3 c4
          have : k = i := by omega
          subst this
          refine hQ _ _ _ ⟨fun _ => ?_, fun z => absurd (by omega) z⟩
          rw [ei]
          exact h1 (by omega) (by omega) M3 f3 c2 (by omega) (fun j j0 j1 => c4 j j0 (by omega))
        | succ m ih =>
          intro k M3 hk k0 f3 c1 c2 c3 c4
          refine hQ _ _ _ ⟨fun z => absurd z (by omega), fun _ => ⟨by omega, by omega, ?_⟩⟩
          rw [zw (x := k + 1) (by omega) (by omega)]
          refine ih (k + 1) _ (by omega) (by omega) (zf_us f3 (by decide)) (by rw [zu_f (by decide)]; exact c1) (by rw [zu_c (by decide)]; exact c2) (by rw [zu_c (by decide)]; exact c3) (fun j j0 j1 => ?_)
          by_cases hx : j = k
          · subst hx; rw [zu_s, c1]; exact b4 j j0 (by omega)
          · rw [zu_i hx]; exact c4 j j0 (by omega)
      exact loop i.toNat 0 _ (by omega) (by omega) (zf_uj (zf_ww f rfl rfl) (by decide)) (by rw [zu_f (by decide)]) (by rw [zu_i (by decide)]; exact b1) (by rw [zu_s]) (fun j j0 j1 => by omega)
    · have := h0 (by omega) M2 f b1; rw [e] at this; exact this
  have loop : ∀ (fu : Nat) (i : Int) (M2 : zM), i + fu = 20 → 0 ≤ i → i ≤ M 179 11 → zrun (zpd (M 179 11) (M 185)) fu i = zrun (zpd (M 179 11) (M 185)) 20 0 → zf [189] [(179, 0), (179, 11), (179, 12), (179, 13), (179, 14)] M M2 → M2 179 11 = 0 → M2 179 12 = i → M2 179 13 = M 179 11 → (∀ j, 0 ≤ j → j < i → M2 189 j = M 185 j - 48) → P i M2 := by
    intro fu
    induction fu with
    | zero =>
      intro i M2 hi i0 i1 e f b1 b2 b3 b4
      exact hP _ _ ⟨fun _ => ex i M2 i0 i1 (by omega) e.symm f b1 b2 b3 b4, fun c => absurd (by omega) c⟩
    | succ fu ih =>
      intro i M2 hi i0 i1 e f b1 b2 b3 b4
      have c187 : M2 185 = M 185 := zf_c f 185 rfl
      rw [zrun_u _ fu i] at e
      refine hP _ _ ⟨fun c => absurd c (by omega), fun _ => s_M_isDigit (by omega) ?_⟩
      rw [b2, b3, c187]
      by_cases hc : zpd (M 179 11) (M 185) i = true
      · rw [if_pos hc]
        rw [if_pos hc] at e
        have hc2 := hc
        unfold zpd at hc2
        simp at hc2
        refine ⟨fun z => absurd z (by decide), fun _ => s_M_number1 (by omega) (fun _ => ⟨by omega, ?_⟩) (fun z => absurd hc (by rw [b2, b3, c187] at z; rw [z]; decide))⟩
        rw [b2, c187, zw (x := i + 1) (by omega) (by omega)]
        refine ih (i + 1) _ (by omega) (by omega) (by omega) e (zf_us (zf_uj f (by decide)) (by decide)) ?_ ?_ ?_ (fun j j0 j1 => ?_)
        · rw [zu_c (by decide), zu_i (by decide)]; exact b1
        · rw [zu_c (by decide), zu_s]
        · rw [zu_c (by decide), zu_i (by decide)]; exact b3
        · by_cases hx : j = i
          · subst hx; rw [zu_s]
          · rw [zu_i hx, zu_c (by decide)]; exact b4 j j0 (by omega)
      · rw [if_neg hc]
        rw [if_neg hc] at e
        have := ex i M2 i0 i1 (by omega) e.symm f b1 b2 b3 b4
        rw [b2, b3] at this
        exact ⟨fun _ => this, fun z => absurd rfl z⟩
  exact loop 20 0 M1 (by omega) (by omega) (by omega) rfl f1' a1 a2 a4 (fun j j0 j1 => by omega)
theorem p_heat {d : Nat} {n : Int} {M : zM} (hI : zI n M) (hn : n < 512) : zQ (d + 4) 11 162 [z_r (10, 0) 0] [z_r (11, 0) 179] n M := by
  obtain ⟨hb, ⟨t1, t2, t3, t4⟩, hR, hJ⟩ := hI
  have hJ0 := hJ
  obtain ⟨j1, j2, j3, j4, j5, j6, j7, j8⟩ := hJ
  have ez : zrun (zpd (M 1 1) (M 2)) 20 0 = zrun (zpd (M 179 11) (M 185)) 20 0 := by
    refine zrun_c 20 0 (fun j a b => ?_)
    unfold zpd
    rw [← t1]
    by_cases c : j < M 1 1
    · rw [(t4 j a c).1]
    · rw [decide_eq_false c]; rfl
  have hz := zrun_s (zpd (M 179 11) (M 185)) 20 0
  unfold zQ
  refine e_W_heat (s_Text_faultInHeat ⟨t2, t3⟩ ?_)
  by_cases hc : 1 ≤ M 1 1 ∧ zrun (zpd (M 1 1) (M 2)) 20 0 = M 1 1
  · rw [if_pos hc]
    refine ⟨fun z => absurd rfl z, fun _ => s_Pump_takeHeat (by omega) (fun M1 f1 a1 a2 => ⟨fun z => absurd rfl z, fun _ => ?_⟩)⟩
    rw [zu_c (by decide), a1]
    have f1' : zf [47] [(45, 2), (1, 1)] M (z_up M1 1 1 0) := zf_uj (zf_ww f1 rfl rfl) (by decide)
    have k11 : (z_up M1 1 1 0) 179 11 = M 1 1 := by rw [zf_a f1' 179 11 rfl, t1]
    have k187 : (z_up M1 1 1 0) 185 = M 185 := zf_c f1' 185 rfl
    refine s_M_heat (by rw [k11]; exact ⟨t2, t3⟩) (fun _ _ M2 f2 b1 b2 b3 => ?_) (fun z => absurd (by rw [k11, k187, t1, ← ez, ← t1]; exact hc) z)
    rw [k11] at b2 b3 ⊢
    have f := zf_tr f1' f2
    have i3 : M2 179 3 = M 179 3 := zf_a f 179 3 rfl
    refine ⟨rfl, ⟨by omega, by omega⟩, ?_, iR_f hR f rfl, zJ_n (n := n) ⟨?_, ?_, ?_, ?_, ?_, ?_, ?_, ?_⟩ (by omega)⟩
    · have : M2 1 1 = 0 := by rw [zf_a f2 1 1 rfl, zu_s]
      rw [this, b1]
      exact ⟨rfl, by omega, by omega, fun p x y => by omega⟩
    · rw [i3]
      exact tR_c j1 (zf_a f 23 5 rfl) (zf_a f 23 6 rfl) (zf_c f 24 rfl) (zf_c f 25 rfl) (zf_c f 26 rfl) (zf_c f 27 rfl) (zf_c f 28 rfl) (zf_c f 183 rfl)
    · rw [i3, zf_c f 46 rfl, zf_c f 182 rfl]; exact j2
    · have x1 : M2 45 2 = M 1 1 := by rw [zf_a f2 45 2 rfl, zu_c (by decide)]; exact a1
      have x2 : M2 47 = M1 47 := by rw [zf_c f2 47 rfl, zu_f (by decide)]
      rw [x1, x2, b2]
      refine ⟨rfl, by omega, by omega, fun i i0 i1 => ?_⟩
      have hd := hz.2.1 i i0 (by rw [← ez, hc.2]; exact i1)
      unfold zpd at hd
      simp at hd
      have h4 := t4 i i0 i1
      rw [a2 i i0 i1, b3 i i0 i1, k187]
      unfold zdi
      rw [if_pos (by omega)]
      omega
    · rw [zf_a f 5 1 rfl, zf_c f 6 rfl, zf_a f 179 22 rfl, zf_c f 190 rfl]; exact j4
    · rw [i3]
      exact iP_c j5 (zf_a f 49 1 rfl) (zf_a f 49 2 rfl) (zf_a f 179 33 rfl) (zf_c f 201 rfl) (zf_r f 51 140 rfl)
    · rw [i3]
      exact iK_c j6 (zf_a f 0 11 rfl) (zf_a f 179 4 rfl) (zf_c f 219 rfl) (zf_c f 220 rfl) (zf_c f 221 rfl) (zf_r f 161 178 rfl)
    · rw [i3, zf_a f 0 14 rfl, zf_c f 142 rfl, zf_c f 143 rfl, zf_a f 179 57 rfl, zf_c f 216 rfl, zf_c f 217 rfl]; exact j7
    · rw [zf_a f 159 0 rfl, zf_a f 154 0 rfl]; exact j8
  · rw [if_neg hc]
    refine ⟨fun q => ⟨fun _ => ?_, fun z => absurd q z⟩, fun q => absurd (by omega) q⟩
    rw [zw (by omega) (by omega)]
    have f1 : zf [] [(1, 1)] M (z_up M 1 1 0) := zf_uj zf_rf (by decide)
    have k11 : (z_up M 1 1 0) 179 11 = M 179 11 := zf_a f1 179 11 rfl
    have k187 : (z_up M 1 1 0) 185 = M 185 := zf_c f1 185 rfl
    refine s_M_heat (by rw [k11, ← t1]; exact ⟨t2, t3⟩) (fun x y => absurd ⟨by rw [t1, ← k11]; exact x, by rw [ez, t1]; rw [k11, k187] at y; exact y⟩ hc) (fun _ M2 f2 b1 => ?_)
    rw [k11, k187]
    have f := zf_tr f1 f2
    refine ⟨by rw [ez], ⟨by omega, by omega⟩, ?_, iR_f hR f rfl, zJ_n (zJ_f hJ0 f rfl) (by omega)⟩
    have : M2 1 1 = 0 := by rw [zf_a f2 1 1 rfl, zu_s]
    rw [this, b1]
    exact ⟨rfl, by omega, by omega, fun p x y => by omega⟩

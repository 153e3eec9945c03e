/-! rests() -/
def zgn (x s : Int) : Int := z_wr ((if s < x then s else x) - (z_wr (Int.tdiv x 3)))
def zlf (x s : Int) : Int := z_wr (s - (if s < x then s else x))
def zmx (f : Int → Int) : Nat → Int
  | 0 => 0
  | n + 1 => if zmx f n < f (n : Int) then f (n : Int) else zmx f n
theorem zmx_s (f : Int → Int) : ∀ n : Nat, 0 ≤ zmx f n ∧ (∀ x : Int, 0 ≤ x → x < n → f x ≤ zmx f n) ∧ (zmx f n = 0 ∨ ∃ x : Int, (0 ≤ x ∧ x < n) ∧ f x = zmx f n)
  | 0 => ⟨Int.le_refl _, fun x a b => by omega, Or.inl rfl⟩
  | n + 1 => by
    obtain ⟨h1, h2, h3⟩ := zmx_s f n
    have e : zmx f (n + 1) = if zmx f n < f (n : Int) then f (n : Int) else zmx f n := rfl
    rw [e]
    by_cases c : zmx f n < f (n : Int)
    · rw [if_pos c]
      refine ⟨by omega, fun x a b => ?_, Or.inr ⟨n, by omega, rfl⟩⟩
      by_cases hx : x = n
      · rw [hx]; exact Int.le_refl _
      · have := h2 x a (by omega); omega
    · rw [if_neg c]
      refine ⟨h1, fun x a b => ?_, ?_⟩
      · by_cases hx : x = n
        · rw [hx]; omega
        · exact h2 x a (by omega)
      · rcases h3 with h3 | ⟨x, hx, ex⟩
        · exact Or.inl h3
        · exact Or.inr ⟨x, by omega, ex⟩
theorem zmx_i {f : Int → Int} {a : Int} (h0 : f 0 = 0) (ha : 0 ≤ a ∧ a < 10) : f a = zmx f 10 ↔ ∀ x : Int, 0 ≤ x → x < 10 → ¬ (f a < f x) := by
  obtain ⟨h1, h2, h3⟩ := zmx_s f 10
  constructor
  · intro e x x0 x1
    have := h2 x x0 (by omega)
    omega
  · intro q
    have g1 := h2 a ha.1 (by omega)
    have g0 := q 0 (by omega) (by omega)
    rcases h3 with h3 | ⟨x, hx, ex⟩
    · omega
    · have := q x hx.1 (by omega)
      omega
theorem zgn_0 {s : Int} (hs : 0 ≤ s) : zgn 0 s = 0 := by
  unfold zgn
  rw [if_neg (by omega)]
  decide
theorem s_W_mostGain {d : Nat} {s : Int} {M : zM} {F : Int → zM → Prop} (H : F (zmx (fun x => zgn x s) 10) M) : zCi (d + 2) 135 [z_i s] M F := by
  refine e_W_mostGain (fun P hP => ?_)
  have loop : ∀ (m i : Nat), i + m = 10 → P s (zmx (fun x => zgn x s) i) (i : Int) M := by
    intro m
    induction m with
    | zero =>
      intro i hi
      have : i = 10 := by omega
      subst this
      exact hP _ _ _ _ ⟨fun _ => H, fun z => absurd (by decide) z⟩
    | succ m ih =>
      intro i hi
      have hn := ih (i + 1) (by omega)
      rw [show ((i + 1 : Nat) : Int) = (i : Int) + 1 by omega] at hn
      refine hP _ _ _ _ ⟨fun z => absurd z (by omega), fun _ => e_W_gain ?_⟩
      rw [zw (x := (i : Int) + 1) (by omega) (by omega)]
      exact hn
  exact loop 10 0 (by omega)
def zal (q : Int → Bool) : Nat → Bool
  | 0 => true
  | n + 1 => zal q n && q (n : Int)
theorem zal_s (q : Int → Bool) : ∀ n : Nat, zal q n = true ↔ ∀ x : Int, 0 ≤ x → x < n → q x = true
  | 0 => ⟨fun _ x a b => by omega, fun _ => rfl⟩
  | n + 1 => by
    have ih := zal_s q n
    have e : zal q (n + 1) = (zal q n && q (n : Int)) := rfl
    rw [e, Bool.and_eq_true, ih]
    constructor
    · intro h x a b
      by_cases hx : x = n
      · rw [hx]; exact h.2
      · exact h.1 x a (by omega)
    · intro h
      exact ⟨fun x a b => h x a (by omega), h n (by omega) (by omega)⟩
/-- both rest with buckets a and b -/
def zrs (s a b : Int) : Bool := decide (zgn a s = zmx (fun x => zgn x s) 10) && decide (zgn b (zlf a s) = zmx (fun x => zgn x (zlf a s)) 10)
def zrq (s a b x : Int) : Bool := decide (¬ (zgn a s < zgn x s)) && decide (¬ (zgn b (zlf a s) < zgn x (zlf a s)))
theorem zrs_q {s a b : Int} (hs : 0 ≤ s ∧ s ≤ 18) (ha : 0 ≤ a ∧ a < 10) (hb : 0 ≤ b ∧ b < 10) : zrs s a b = zal (zrq s a b) 10 := by
  have hl : 0 ≤ zlf a s := by unfold zlf; rw [zw (by split <;> omega) (by split <;> omega)]; split <;> omega
  have e1 := zmx_i (f := fun x => zgn x s) (zgn_0 hs.1) ha
  have e2 := zmx_i (f := fun x => zgn x (zlf a s)) (zgn_0 hl) hb
  have e3 := zal_s (zrq s a b) 10
  have : zrs s a b = true ↔ zal (zrq s a b) 10 = true := by
    rw [e3]
    unfold zrs zrq
    rw [Bool.and_eq_true, decide_eq_true_iff, decide_eq_true_iff]
    constructor
    · intro h x x0 x1
      rw [Bool.and_eq_true, decide_eq_true_iff, decide_eq_true_iff]
      exact ⟨e1.mp h.1 x x0 (by omega), e2.mp h.2 x x0 (by omega)⟩
    · intro h
      refine ⟨e1.mpr (fun x x0 x1 => ?_), e2.mpr (fun x x0 x1 => ?_)⟩
      · have := h x x0 (by omega)
        rw [Bool.and_eq_true, decide_eq_true_iff, decide_eq_true_iff] at this
        exact this.1
      · have := h x x0 (by omega)
        rw [Bool.and_eq_true, decide_eq_true_iff, decide_eq_true_iff] at this
        exact this.2
  cases h1 : zrs s a b <;> cases h2 : zal (zrq s a b) 10
  · rfl
  · rw [h1, h2] at this; simp at this
  · rw [h1, h2] at this; simp at this
  · rfl
theorem s_M_isRest {d : Nat} {s a b : Int} {M : zM} {F : Int → zM → Prop} (H : F (if zal (zrq s a b) 10 = true then 1 else 0) M) : zCi (d + 2) 246 [z_i a, z_i b, z_i s] M F := by
  refine e_M_isRest (fun P hP => ?_)
  have loop : ∀ (m i : Nat), i + m = 10 → P a b s (if zal (zrq s a b) i = true then 1 else 0) (i : Int) M := by
    intro m
    induction m with
    | zero =>
      intro i hi
      have : i = 10 := by omega
      subst this
      exact hP _ _ _ _ _ _ ⟨fun _ => ⟨by split <;> simp, H⟩, fun z => absurd (by decide) z⟩
    | succ m ih =>
      intro i hi
      have hn := ih (i + 1) (by omega)
      rw [show ((i + 1 : Nat) : Int) = (i : Int) + 1 by omega] at hn
      have e : zal (zrq s a b) (i + 1) = (zal (zrq s a b) i && zrq s a b (i : Int)) := rfl
      rw [e] at hn
      refine hP _ _ _ _ _ _ ⟨fun z => absurd z (by omega), fun _ => ?_⟩
      rw [zw (x := (i : Int) + 1) (by omega) (by omega)]
      by_cases c : zal (zrq s a b) i = true
      · rw [if_pos c]
        rw [c, Bool.true_and] at hn
        refine ⟨fun z => absurd z (by decide), fun _ => e_M_firstHas (e_M_firstHas ⟨fun z => ?_, fun z => e_M_otherHas (e_M_otherHas ⟨fun z2 => ?_, fun z2 => ?_⟩)⟩)⟩
        · have z' : zgn a s < zgn (i : Int) s := z
          rw [if_neg (by unfold zrq; rw [decide_eq_false (fun q => q z')]; simp)] at hn
          exact hn
        · have z' : zgn b (zlf a s) < zgn (i : Int) (zlf a s) := z2
          rw [if_neg (by unfold zrq; rw [decide_eq_false (fun q : ¬ (zgn b (zlf a s) < zgn (i : Int) (zlf a s)) => q z')]; simp)] at hn
          exact hn
        · have z1' : ¬ (zgn a s < zgn (i : Int) s) := z
          have z2' : ¬ (zgn b (zlf a s) < zgn (i : Int) (zlf a s)) := z2
          rw [if_pos (by unfold zrq; rw [decide_eq_true z1', decide_eq_true z2']; rfl)] at hn
          exact hn
      · rw [if_neg c]
        rw [if_neg (by simp at c; rw [c]; simp)] at hn
        exact ⟨fun _ => hn, fun z => absurd rfl z⟩
  exact loop 10 0 (by omega)
def zfs (p : Int → Bool) : Nat → Int
  | 0 => -1
  | n + 1 => if zfs p n < 0 ∧ p (n : Int) = true then (n : Int) else zfs p n
theorem zfs_c (p : Int → Bool) : ∀ n : Nat, (zfs p n < 0 ↔ zcn p n = 0) ∧ zfs p n < n ∧ 0 ≤ zcn p n ∧ zcn p n ≤ n
  | 0 => by
    refine ⟨⟨fun _ => rfl, fun _ => ?_⟩, ?_, ?_, ?_⟩
    · show (-1 : Int) < 0; decide
    · show (-1 : Int) < 0; decide
    · show (0 : Int) ≤ 0; decide
    · show (0 : Int) ≤ 0; decide
  | n + 1 => by
    obtain ⟨h1, h2, h3, h4⟩ := zfs_c p n
    have e1 : zfs p (n + 1) = if zfs p n < 0 ∧ p (n : Int) = true then (n : Int) else zfs p n := rfl
    have e2 : zcn p (n + 1) = zcn p n + (if p (n : Int) = true then 1 else 0) := rfl
    rw [e1, e2]
    by_cases c : p (n : Int) = true
    · rw [if_pos c]
      by_cases c2 : zfs p n < 0
      · rw [if_pos ⟨c2, c⟩]; omega
      · rw [if_neg (fun q => c2 q.1)]; omega
    · rw [if_neg c, if_neg (fun q => c q.2)]; omega
def zrp (s t : Int) : Bool := zrs s (t / 10) (t % 10)
/-- the row that tells of the first t pairs -/
def zrw (s : Int) (t : Nat) (n : Int) (r : Int → Int) : Prop := (zfs (zrp s) t < 0 → n = 0) ∧ (0 ≤ zfs (zrp s) t → n = 2 ∧ r 0 = zfs (zrp s) t / 10 ∧ r 1 = zfs (zrp s) t % 10)
theorem s_W_rests {d : Nat} {s : Int} {M : zM} {F : Int → zM → Prop} (h0 : ¬ (0 ≤ s ∧ s ≤ 18) → F (-1) M) (h1 : (0 ≤ s ∧ s ≤ 18) → ∀ M', zf [4] [(3, 1)] M M' → zrw s 100 (M' 3 1) (M' 4) → F (zcn (zrp s) 100) M') : zCi (d + 4) 133 [z_r (10, 0) 0, z_i s] M F := by
  refine e_W_rests (fun P Q hP hQ => ⟨fun z => h0 (by omega), fun z => ⟨fun z2 => ?_, fun z2 => h0 (by omega)⟩⟩)
  have hs : 0 ≤ s ∧ s ≤ 18 := by omega
  have outer : ∀ (m a : Nat), a + m = 10 → ∀ M1, zf [4] [(3, 1)] M M1 → zrw s (10 * a) (M1 3 1) (M1 4) → P s (zcn (zrp s) (10 * a)) (a : Int) M1 := by
    intro m
    induction m with
    | zero =>
      intro a ha M1 f1 w1
      have : a = 10 := by omega
      subst this
      exact hP _ _ _ _ ⟨fun _ => h1 hs M1 f1 w1, fun z => absurd (by decide) z⟩
    | succ m ih =>
      intro a ha M1 f1 w1
      refine hP _ _ _ _ ⟨fun z => absurd z (by omega), fun _ => ?_⟩
      have inner : ∀ (l b : Nat), b + l = 10 → ∀ M2, zf [4] [(3, 1)] M M2 → zrw s (10 * a + b) (M2 3 1) (M2 4) → Q s (zcn (zrp s) (10 * a + b)) (a : Int) (b : Int) M2 := by
        intro l
        induction l with
        | zero =>
          intro b hb M2 f2 w2
          have : b = 10 := by omega
          subst this
          have hn := ih (a + 1) (by omega) M2 f2 w2
          refine hQ _ _ _ _ _ ⟨fun _ => ?_, fun z => absurd (by decide) z⟩
          rw [zw (by omega) (by omega), ← show ((a + 1 : Nat) : Int) = (a : Int) + 1 by omega]
          exact hn
        | succ l ihl =>
          intro b hb M2 f2 w2
          have hc := zfs_c (zrp s) (10 * a + b)
          have e1 : zfs (zrp s) (10 * a + (b + 1)) = if zfs (zrp s) (10 * a + b) < 0 ∧ zrp s ((10 * a + b : Nat) : Int) = true then ((10 * a + b : Nat) : Int) else zfs (zrp s) (10 * a + b) := rfl
          have e2 : zcn (zrp s) (10 * a + (b + 1)) = zcn (zrp s) (10 * a + b) + (if zrp s ((10 * a + b : Nat) : Int) = true then 1 else 0) := rfl
          have e3 : zrp s ((10 * a + b : Nat) : Int) = zrs s a b := by
            unfold zrp
            rw [show ((10 * a + b : Nat) : Int) / 10 = a by omega, show ((10 * a + b : Nat) : Int) % 10 = b by omega]
          have hn := fun M3 f3 w3 => ihl (b + 1) (by omega) M3 f3 w3
          rw [e2, e3, show ((b + 1 : Nat) : Int) = (b : Int) + 1 by omega] at hn
          have no : zrs s a b = false → Q s (zcn (zrp s) (10 * a + b)) (a : Int) (z_wr ((b : Int) + 1)) M2 := by
            intro c
            rw [zw (by omega) (by omega)]
            have := hn M2 f2 (by unfold zrw; rw [e1, e3, c, if_neg (fun q => by cases q.2)]; exact w2)
            rw [c, if_neg (by decide), Int.add_zero] at this
            exact this
          refine hQ _ _ _ _ _ ⟨fun z => absurd z (by omega), fun _ => e_W_gain (s_W_mostGain ⟨fun z => no ?_, fun z => e_W_leftBy (e_W_gain (e_W_leftBy (s_W_mostGain ⟨fun z2 => no ?_, fun z2 => ?_⟩)))⟩)⟩
          · have z : zgn a s ≠ zmx (fun x => zgn x s) 10 := z
            unfold zrs; rw [decide_eq_false z]; rfl
          · have z2 : zgn b (zlf a s) ≠ zmx (fun x => zgn x (zlf a s)) 10 := z2
            unfold zrs; rw [decide_eq_false z2, Bool.and_false]
          · have z : zgn a s = zmx (fun x => zgn x s) 10 := Classical.not_not.mp z
            have z2 : zgn b (zlf a s) = zmx (fun x => zgn x (zlf a s)) 10 := Classical.not_not.mp z2
            have c : zrs s a b = true := by unfold zrs; rw [decide_eq_true z, decide_eq_true z2]; rfl
            rw [c, if_pos rfl] at hn
            rw [zw (x := zcn _ _ + 1) (by omega) (by omega), zw (x := (b : Int) + 1) (by omega) (by omega)]
            refine ⟨fun y => hn M2 f2 ?_, fun y => s_Row_tellTwo (fun M3 f3 r1 r2 r3 => hn M3 (zf_ww (zf_tr f2 f3) rfl rfl) ?_)⟩
            · unfold zrw
              rw [e1, if_neg (fun q => by omega)]
              exact w2
            · unfold zrw
              rw [e1, e3, if_pos ⟨by omega, c⟩]
              refine ⟨fun q => by omega, fun _ => ⟨r1, ?_, ?_⟩⟩
              · rw [r2]; omega
              · rw [r3]; omega
      exact inner 10 0 (by omega) M1 f1 w1
  refine outer 10 0 (by omega) _ (zf_uj zf_rf (by decide)) ⟨fun _ => zu_s _ _ _ _, fun q => absurd (show (0 : Int) ≤ -1 from q) (by decide)⟩
theorem s_M_rests {d : Nat} {s : Int} {M : zM} {F : Int → zM → Prop} (h0 : ¬ (0 ≤ s ∧ s ≤ 18) → F (-1) (z_up M 179 0 0)) (h1 : (0 ≤ s ∧ s ≤ 18) → ∀ M', zf [180] [(179, 0), (179, 1)] M M' → zrw s 100 (M' 179 1) (M' 180) → F (zcn (zrp s) 100) M') : zCi (d + 4) 245 [z_r (11, 0) 179, z_i s] M F := by
  refine e_M_rests (fun P Q hP hQ => s_M_in ?_)
  by_cases hs : 0 ≤ s ∧ s ≤ 18
  · rw [if_pos hs]
    refine ⟨fun _ => ?_, fun z => absurd (by decide) z⟩
    have outer : ∀ (m a : Nat), a + m = 10 → ∀ M1, zf [180] [(179, 0), (179, 1)] M M1 → zrw s (10 * a) (M1 179 1) (M1 180) → P s (zcn (zrp s) (10 * a)) (a : Int) M1 := by
      intro m
      induction m with
      | zero =>
        intro a ha M1 f1 w1
        have : a = 10 := by omega
        subst this
        exact hP _ _ _ _ ⟨fun _ => h1 hs M1 f1 w1, fun z => absurd (by decide) z⟩
      | succ m ih =>
        intro a ha M1 f1 w1
        refine hP _ _ _ _ ⟨fun z => absurd z (by omega), fun _ => ?_⟩
        have inner : ∀ (l b : Nat), b + l = 10 → ∀ M2, zf [180] [(179, 0), (179, 1)] M M2 → zrw s (10 * a + b) (M2 179 1) (M2 180) → Q s (zcn (zrp s) (10 * a + b)) (a : Int) (b : Int) M2 := by
          intro l
          induction l with
          | zero =>
            intro b hb M2 f2 w2
            have : b = 10 := by omega
            subst this
            have hn := ih (a + 1) (by omega) M2 f2 w2
            refine hQ _ _ _ _ _ ⟨fun _ => ?_, fun z => absurd (by decide) z⟩
            rw [zw (by omega) (by omega), ← show ((a + 1 : Nat) : Int) = (a : Int) + 1 by omega]
            exact hn
          | succ l ihl =>
            intro b hb M2 f2 w2
            have hc := zfs_c (zrp s) (10 * a + b)
            have e1 : zfs (zrp s) (10 * a + (b + 1)) = if zfs (zrp s) (10 * a + b) < 0 ∧ zrp s ((10 * a + b : Nat) : Int) = true then ((10 * a + b : Nat) : Int) else zfs (zrp s) (10 * a + b) := rfl
            have e2 : zcn (zrp s) (10 * a + (b + 1)) = zcn (zrp s) (10 * a + b) + (if zrp s ((10 * a + b : Nat) : Int) = true then 1 else 0) := rfl
            have e3 : zrp s ((10 * a + b : Nat) : Int) = zrs s a b := by
              unfold zrp
              rw [show ((10 * a + b : Nat) : Int) / 10 = a by omega, show ((10 * a + b : Nat) : Int) % 10 = b by omega]
            have hn := fun M3 f3 w3 => ihl (b + 1) (by omega) M3 f3 w3
            rw [e2, e3, show ((b + 1 : Nat) : Int) = (b : Int) + 1 by omega] at hn
            have eq := zrs_q (a := (a : Int)) (b := (b : Int)) hs (by omega) (by omega)
            refine hQ _ _ _ _ _ ⟨fun z => absurd z (by omega), fun _ => s_M_isRest ?_⟩
            rw [← eq, zw (x := zcn _ _ + 1) (by omega) (by omega), zw (x := (b : Int) + 1) (by omega) (by omega)]
            by_cases c : zrs s a b = true
            · rw [c, if_pos rfl] at hn
              rw [c, if_pos rfl]
              refine ⟨fun z => absurd z (by decide), fun _ => ⟨fun y => hn M2 f2 ?_, fun y => ?_⟩⟩
              · unfold zrw
                rw [e1, if_neg (fun q => by omega)]
                exact w2
              · have w20 : M2 179 1 = 0 := w2.1 (by omega)
                refine s_M_enters (by omega) ?_
                rw [w20]
                refine s_M_enters (by rw [zu_s]; omega) ?_
                rw [zu_s]
                refine hn _ (zf_uj (zf_us (zf_uj (zf_us f2 (by decide)) (by decide)) (by decide)) (by decide)) ?_
                unfold zrw
                rw [e1, e3, if_pos ⟨by omega, c⟩]
                refine ⟨fun q => by omega, fun _ => ⟨by rw [zu_s]; rfl, ?_, ?_⟩⟩
                · rw [zu_c (by decide), zu_i (by decide), zu_c (by decide), zu_s]; omega
                · rw [zu_c (by decide), show (0 : Int) + 1 = 1 from rfl, zu_s]; omega
            · have c : zrs s a b = false := by simpa using c
              rw [c, if_neg (by decide)] at hn
              rw [c, if_neg (by decide)]
              refine ⟨fun _ => ?_, fun z => absurd rfl z⟩
              have := hn M2 f2 (by unfold zrw; rw [e1, e3, c, if_neg (fun q => by cases q.2)]; exact w2)
              rw [Int.add_zero] at this
              exact this
        exact inner 10 0 (by omega) M1 f1 w1
    refine outer 10 0 (by omega) _ (zf_uj (zf_uj zf_rf (by decide)) (by decide)) ⟨fun _ => zu_s _ _ _ _, fun q => absurd (show (0 : Int) ≤ -1 from q) (by decide)⟩
  · rw [if_neg hs]
    exact ⟨fun z => absurd rfl z, fun _ => h0 hs⟩
theorem p_rests {d : Nat} {s n : Int} {M : zM} (hI : zI n M) (hn : n < 512) : zQ (d + 4) 133 245 [z_r (10, 0) 0, z_i s] [z_r (11, 0) 179, z_i s] n M := by
  have hI0 := hI
  obtain ⟨hb, hT, hR, hJ⟩ := hI
  unfold zQ
  refine s_W_rests (fun hs => s_M_rests (fun _ => ⟨rfl, zI_q hI0 hn⟩) (fun z => absurd z hs)) (fun hs M1 f1 w1 => s_M_rests (fun z => absurd hs z) (fun _ M2 f2 w2 => ?_))
  have f := zf_tr f1 f2
  refine ⟨rfl, ⟨by omega, by omega⟩, iT_f hT f rfl, ?_, zJ_n (zJ_f hJ f rfl) (by omega)⟩
  rw [zf_a f2 3 1 rfl, zf_c f2 4 rfl]
  by_cases c : zfs (zrp s) 100 < 0
  · rw [w1.1 c, w2.1 c]
    exact ⟨rfl, by omega, by omega, fun i a b => by omega⟩
  · obtain ⟨a1, a2, a3⟩ := w1.2 (by omega)
    obtain ⟨b1, b2, b3⟩ := w2.2 (by omega)
    rw [a1, b1]
    refine ⟨rfl, by omega, by omega, fun i x y => ?_⟩
    by_cases e : i = 0
    · subst e; rw [a2, b2]
    · have : i = 1 := by omega
      subst this; rw [a3, b3]

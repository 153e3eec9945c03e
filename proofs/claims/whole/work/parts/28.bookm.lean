/-! THE BOOK, as numbers: keys, places, turns -/
theorem zp_surj : ∀ (n : Nat) (f : Nat → Nat), (∀ i, i < n → f i < n) → (∀ i j, i < n → j < n → f i = f j → i = j) → ∀ y, y < n → ∃ i, i < n ∧ f i = y := by
  intro n
  induction n with
  | zero => intro f _ _ y hy; exact absurd hy (Nat.not_lt_zero y)
  | succ n ih =>
    intro f hf hj y hy
    refine Classical.byContradiction (fun hno => ?_)
    have hne : ∀ i, i < n + 1 → f i ≠ y := fun i hi e => hno ⟨i, hi, e⟩
    have hg : ∀ i, i < n + 1 → (if f i < y then f i else f i - 1) < n := by
      intro i hi
      have := hf i hi
      have := hne i hi
      split <;> omega
    have hgj : ∀ i j, i < n + 1 → j < n + 1 → (if f i < y then f i else f i - 1) = (if f j < y then f j else f j - 1) → i = j := by
      intro i j hi hj' e
      have := hne i hi
      have := hne j hj'
      refine hj i j hi hj' ?_
      split at e <;> split at e <;> omega
    obtain ⟨i, hi, e⟩ := ih (fun i => if f i < y then f i else f i - 1) (fun i hi => hg i (by omega)) (fun i j hi hj' e => hgj i j (by omega) (by omega) e) (if f n < y then f n else f n - 1) (hg n (by omega))
    have := hgj i n (by omega) (by omega) e
    omega
/-- the same over integers -/
theorem zp_surjI {c : Int} (hc : 0 ≤ c) (f : Int → Int) (hf : ∀ i, 0 ≤ i → i < c → 0 ≤ f i ∧ f i < c) (hj : ∀ i j, 0 ≤ i → i < c → 0 ≤ j → j < c → f i = f j → i = j) : ∀ y, 0 ≤ y → y < c → ∃ i, (0 ≤ i ∧ i < c) ∧ f i = y := by
  intro y h0 h1
  obtain ⟨i, hi, e⟩ := zp_surj c.toNat (fun i => (f (i : Int)).toNat) (fun i hi => by have := hf (i : Int) (by omega) (by omega); omega) (fun i j hi hj' e => by
    have a := hf (i : Int) (by omega) (by omega)
    have b := hf (j : Int) (by omega) (by omega)
    have := hj (i : Int) (j : Int) (by omega) (by omega) (by omega) (by omega) (by omega)
    omega) y.toNat (by omega)
  have a := hf (i : Int) (by omega) (by omega)
  exact ⟨(i : Int), by omega, by omega⟩
/-- the place of a letter in an order -/
def zrk (ord : Int → Int) (x : Int) : Int := if ord 0 = x then 0 else if ord 1 = x then 1 else if ord 2 = x then 2 else if ord 3 = x then 3 else if ord 4 = x then 4 else if ord 5 = x then 5 else if ord 6 = x then 6 else 7
def zperm (ord : Int → Int) : Prop := (∀ i, 0 ≤ i → i < 8 → 0 ≤ ord i ∧ ord i < 8) ∧ (∀ i j, 0 ≤ i → i < 8 → 0 ≤ j → j < 8 → ord i = ord j → i = j)
theorem zrk_r (ord : Int → Int) (x : Int) : 0 ≤ zrk ord x ∧ zrk ord x < 8 := by
  unfold zrk
  repeat' split
  all_goals omega
theorem zrk_i {ord : Int → Int} (h : zperm ord) (i : Int) (h0 : 0 ≤ i) (h1 : i < 8) : zrk ord (ord i) = i := by
  have key : ∀ k, 0 ≤ k → k < 8 → (ord k = ord i ↔ k = i) := fun k a b => ⟨fun e => h.2 k i a b h0 h1 e, fun e => by rw [e]⟩
  unfold zrk
  simp only [key 0 (by omega) (by omega), key 1 (by omega) (by omega), key 2 (by omega) (by omega), key 3 (by omega) (by omega), key 4 (by omega) (by omega), key 5 (by omega) (by omega), key 6 (by omega) (by omega)]
  repeat' split
  all_goals omega
theorem zperm_s {ord : Int → Int} (h : zperm ord) (x : Int) (h0 : 0 ≤ x) (h1 : x < 8) : ∃ i, (0 ≤ i ∧ i < 8) ∧ ord i = x := zp_surjI (by omega) ord h.1 h.2 x h0 h1
theorem zrk_o {ord : Int → Int} (h : zperm ord) (x : Int) (h0 : 0 ≤ x) (h1 : x < 8) : ord (zrk ord x) = x := by
  obtain ⟨i, hi, e⟩ := zperm_s h x h0 h1
  rw [← e, zrk_i h i hi.1 hi.2]
theorem zrk_j {ord : Int → Int} (h : zperm ord) {x y : Int} (hx : 0 ≤ x ∧ x < 8) (hy : 0 ≤ y ∧ y < 8) (e : zrk ord x = zrk ord y) : x = y := by
  rw [← zrk_o h x hx.1 hx.2, ← zrk_o h y hy.1 hy.2, e]
/-- any row of ranks is zrk -/
theorem zrk_u {ord R : Int → Int} (h : zperm ord) (hR : ∀ i, 0 ≤ i → i < 8 → R (ord i) = i) (x : Int) (h0 : 0 ≤ x) (h1 : x < 8) : R x = zrk ord x := by
  obtain ⟨i, hi, e⟩ := zperm_s h x h0 h1
  rw [← e, hR i hi.1 hi.2, zrk_i h i hi.1 hi.2]
theorem zrk_c {ord ord' : Int → Int} (h : ∀ i, 0 ≤ i → i < 8 → ord' i = ord i) : zrk ord' = zrk ord := by
  funext x
  unfold zrk
  rw [h 0 (by omega) (by omega), h 1 (by omega) (by omega), h 2 (by omega) (by omega), h 3 (by omega) (by omega), h 4 (by omega) (by omega), h 5 (by omega) (by omega), h 6 (by omega) (by omega)]
/-- where two names first differ, or the shorter one ends -/
def zdiff (nam : Int → Int) (a b n : Int) : Nat → Int → Int
  | 0, i => i
  | f + 1, i => if i < n ∧ nam (6 * a + i) = nam (6 * b + i) then zdiff nam a b n f (i + 1) else i
def zmn (len : Int → Int) (a b : Int) : Int := if len b < len a then len b else len a
def zdf (len nam : Int → Int) (a b : Int) : Int := zdiff nam a b (zmn len a b) 6 0
theorem zdiff_s (nam : Int → Int) (a b n : Int) : ∀ (f : Nat) (i : Int), i ≤ n → n ≤ i + f → (i ≤ zdiff nam a b n f i ∧ zdiff nam a b n f i ≤ n) ∧ (∀ j, i ≤ j → j < zdiff nam a b n f i → nam (6 * a + j) = nam (6 * b + j)) ∧ (zdiff nam a b n f i < n → nam (6 * a + zdiff nam a b n f i) ≠ nam (6 * b + zdiff nam a b n f i)) := by
  intro f
  induction f with
  | zero =>
    intro i h1 h2
    have e : zdiff nam a b n 0 i = i := rfl
    rw [e]
    exact ⟨⟨by omega, by omega⟩, fun j a b => by omega, fun h => by omega⟩
  | succ f ih =>
    intro i h1 h2
    unfold zdiff
    by_cases hc : i < n ∧ nam (6 * a + i) = nam (6 * b + i)
    · rw [if_pos hc]
      obtain ⟨⟨g1, g2⟩, g3, g4⟩ := ih (i + 1) (by omega) (by omega)
      refine ⟨⟨by omega, g2⟩, fun j hj hj2 => ?_, g4⟩
      by_cases e : j = i
      · rw [e]; exact hc.2
      · exact g3 j (by omega) hj2
    · rw [if_neg hc]
      exact ⟨⟨by omega, h1⟩, fun j a b => by omega, fun h e => hc ⟨h, e⟩⟩
theorem zdf_s {len nam : Int → Int} {a b : Int} (ha : 0 ≤ len a ∧ len a ≤ 6) (hb : 0 ≤ len b ∧ len b ≤ 6) : (0 ≤ zdf len nam a b ∧ zdf len nam a b ≤ zmn len a b) ∧ (∀ j, 0 ≤ j → j < zdf len nam a b → nam (6 * a + j) = nam (6 * b + j)) ∧ (zdf len nam a b < zmn len a b → nam (6 * a + zdf len nam a b) ≠ nam (6 * b + zdf len nam a b)) := by
  have hm : 0 ≤ zmn len a b ∧ zmn len a b ≤ 6 := by unfold zmn; split <;> omega
  exact zdiff_s nam a b (zmn len a b) 6 0 (by omega) (by omega)
/-- a is ahead of b -/
def zah (rk len nam : Int → Int) (a b : Int) : Bool := if zdf len nam a b < zmn len a b then decide (rk (nam (6 * a + zdf len nam a b)) < rk (nam (6 * b + zdf len nam a b))) else if len a = len b then decide (a < b) else decide (len a < len b)
def zdg (rk len nam : Int → Int) (h i : Int) : Int := if i < len h then rk (nam (6 * h + i)) + 1 else 0
def zk6 (d : Int → Int) : Int := ((((d 0 * 9 + d 1) * 9 + d 2) * 9 + d 3) * 9 + d 4) * 9 + d 5
def zky (rk len nam : Int → Int) (h : Int) : Int := zk6 (zdg rk len nam h) * 8 + h
theorem zlex (d e : Int → Int) (hd : ∀ j, 0 ≤ j → j < 6 → 0 ≤ d j ∧ d j ≤ 8) (he : ∀ j, 0 ≤ j → j < 6 → 0 ≤ e j ∧ e j ≤ 8) (i : Int) (h0 : 0 ≤ i) (h1 : i < 6) (heq : ∀ j, 0 ≤ j → j < i → d j = e j) (hlt : d i < e i) : zk6 d < zk6 e := by
  have d0 := hd 0 (by omega) (by omega)
  have d1 := hd 1 (by omega) (by omega)
  have d2 := hd 2 (by omega) (by omega)
  have d3 := hd 3 (by omega) (by omega)
  have d4 := hd 4 (by omega) (by omega)
  have d5 := hd 5 (by omega) (by omega)
  have e0 := he 0 (by omega) (by omega)
  have e1 := he 1 (by omega) (by omega)
  have e2 := he 2 (by omega) (by omega)
  have e3 := he 3 (by omega) (by omega)
  have e4 := he 4 (by omega) (by omega)
  have e5 := he 5 (by omega) (by omega)
  unfold zk6
  rcases (show i = 0 ∨ i = 1 ∨ i = 2 ∨ i = 3 ∨ i = 4 ∨ i = 5 by omega) with r | r | r | r | r | r <;> subst r
  · omega
  · have := heq 0 (by omega) (by omega); omega
  · have := heq 0 (by omega) (by omega); have := heq 1 (by omega) (by omega); omega
  · have := heq 0 (by omega) (by omega); have := heq 1 (by omega) (by omega); have := heq 2 (by omega) (by omega); omega
  · have := heq 0 (by omega) (by omega); have := heq 1 (by omega) (by omega); have := heq 2 (by omega) (by omega); have := heq 3 (by omega) (by omega); omega
  · have := heq 0 (by omega) (by omega); have := heq 1 (by omega) (by omega); have := heq 2 (by omega) (by omega); have := heq 3 (by omega) (by omega); have := heq 4 (by omega) (by omega); omega
/-- names whose letters are letters, ranks that tell them apart -/
def zok (rk len nam : Int → Int) (c : Int) : Prop := (0 ≤ c ∧ c ≤ 8) ∧ (∀ h, 0 ≤ h → h < c → 1 ≤ len h ∧ len h ≤ 6) ∧ (∀ k, 0 ≤ k → k < 48 → 0 ≤ nam k ∧ nam k < 8) ∧ (∀ x, 0 ≤ x → x < 8 → 0 ≤ rk x ∧ rk x < 8) ∧ (∀ x y, 0 ≤ x → x < 8 → 0 ≤ y → y < 8 → rk x = rk y → x = y)
theorem zdg_r {rk len nam : Int → Int} {c : Int} (h : zok rk len nam c) {a : Int} (ha : 0 ≤ a ∧ a < c) (j : Int) (h0 : 0 ≤ j) (h1 : j < 6) : 0 ≤ zdg rk len nam a j ∧ zdg rk len nam a j ≤ 8 := by
  obtain ⟨hc, hl, hn, hr, hi⟩ := h
  unfold zdg
  split
  · have h2 := hn (6 * a + j) (by omega) (by omega)
    have h3 := hr _ h2.1 h2.2
    omega
  · omega
theorem zky_lt {rk len nam : Int → Int} {c : Int} (h : zok rk len nam c) {a b : Int} (ha : 0 ≤ a ∧ a < c) (hb : 0 ≤ b ∧ b < c) (hab : a ≠ b) : zky rk len nam a < zky rk len nam b ↔ zah rk len nam a b = true := by
  have hda := zdg_r h ha
  have hdb := zdg_r h hb
  obtain ⟨hc, hl, hn, hr, hi⟩ := h
  have la := hl a ha.1 ha.2
  have lb := hl b hb.1 hb.2
  obtain ⟨⟨g1, g2⟩, g3, g4⟩ := zdf_s (len := len) (nam := nam) (a := a) (b := b) ⟨by omega, la.2⟩ ⟨by omega, lb.2⟩
  have hmn : zmn len a b ≤ len a ∧ zmn len a b ≤ len b ∧ (zmn len a b = len a ∨ zmn len a b = len b) := by unfold zmn; split <;> omega
  unfold zah
  by_cases hc1 : zdf len nam a b < zmn len a b
  · rw [if_pos hc1]
    have n1 := hn (6 * a + zdf len nam a b) (by omega) (by omega)
    have n2 := hn (6 * b + zdf len nam a b) (by omega) (by omega)
    have ne : rk (nam (6 * a + zdf len nam a b)) ≠ rk (nam (6 * b + zdf len nam a b)) := fun e => g4 hc1 (hi _ _ n1.1 n1.2 n2.1 n2.2 e)
    have eqd : ∀ j, 0 ≤ j → j < zdf len nam a b → zdg rk len nam a j = zdg rk len nam b j := by
      intro j j0 j1
      unfold zdg
      rw [if_pos (by omega), if_pos (by omega), g3 j j0 j1]
    have da : zdg rk len nam a (zdf len nam a b) = rk (nam (6 * a + zdf len nam a b)) + 1 := by unfold zdg; rw [if_pos (by omega)]
    have db : zdg rk len nam b (zdf len nam a b) = rk (nam (6 * b + zdf len nam a b)) + 1 := by unfold zdg; rw [if_pos (by omega)]
    rw [decide_eq_true_eq]
    unfold zky
    constructor
    · intro hlt
      rcases Int.lt_or_gt_of_ne ne with z | z
      · exact z
      · have := zlex _ _ hdb hda (zdf len nam a b) g1 (by omega) (fun j j0 j1 => (eqd j j0 j1).symm) (by rw [da, db]; omega)
        omega
    · intro hlt
      have := zlex _ _ hda hdb (zdf len nam a b) g1 (by omega) eqd (by rw [da, db]; omega)
      omega
  · rw [if_neg hc1]
    have he : zdf len nam a b = zmn len a b := by omega
    have eqd : ∀ j, 0 ≤ j → j < zmn len a b → zdg rk len nam a j = zdg rk len nam b j := by
      intro j j0 j1
      unfold zdg
      rw [if_pos (by omega), if_pos (by omega), g3 j j0 (by omega)]
    by_cases hc2 : len a = len b
    · rw [if_pos hc2, decide_eq_true_eq]
      have eqs : ∀ j, 0 ≤ j → j < 6 → zdg rk len nam a j = zdg rk len nam b j := by
        intro j j0 j1
        by_cases hj : j < zmn len a b
        · exact eqd j j0 hj
        · unfold zdg
          rw [if_neg (by omega), if_neg (by omega)]
      unfold zky zk6
      rw [eqs 0 (by omega) (by omega), eqs 1 (by omega) (by omega), eqs 2 (by omega) (by omega), eqs 3 (by omega) (by omega), eqs 4 (by omega) (by omega), eqs 5 (by omega) (by omega)]
      omega
    · rw [if_neg hc2, decide_eq_true_eq]
      unfold zky
      rcases Int.lt_or_gt_of_ne hc2 with z | z
      · have e1 : zmn len a b = len a := by omega
        have n2 := hn (6 * b + len a) (by omega) (by omega)
        have r2 := hr _ n2.1 n2.2
        have := zlex _ _ hda hdb (len a) (by omega) (by omega) (fun j j0 j1 => eqd j j0 (by omega)) (by unfold zdg; rw [if_neg (by omega), if_pos (by omega)]; omega)
        omega
      · have e1 : zmn len a b = len b := by omega
        have n2 := hn (6 * a + len b) (by omega) (by omega)
        have r2 := hr _ n2.1 n2.2
        have := zlex _ _ hdb hda (len b) (by omega) (by omega) (fun j j0 j1 => (eqd j j0 (by omega)).symm) (by unfold zdg; rw [if_neg (by omega), if_pos (by omega)]; omega)
        omega
theorem zky_j {rk len nam : Int → Int} {a b : Int} (ha : 0 ≤ a ∧ a < 8) (hb : 0 ≤ b ∧ b < 8) (e : zky rk len nam a = zky rk len nam b) : a = b := by
  unfold zky at e; omega
/-- how many of 0 .. n - 1 -/
def zcn (p : Int → Bool) : Nat → Int
  | 0 => 0
  | n + 1 => zcn p n + (if p (n : Int) then 1 else 0)
theorem zcn_le (p : Int → Bool) : ∀ n : Nat, 0 ≤ zcn p n ∧ zcn p n ≤ n
  | 0 => by unfold zcn; omega
  | n + 1 => by
    have := zcn_le p n
    unfold zcn
    split <;> omega
theorem zcn_c {p q : Int → Bool} : ∀ n : Nat, (∀ i : Int, 0 ≤ i → i < n → p i = q i) → zcn p n = zcn q n
  | 0, _ => rfl
  | n + 1, h => by
    unfold zcn
    rw [zcn_c n (fun i a b => h i a (by omega)), h (n : Int) (by omega) (by omega)]
theorem zcn_m {p q : Int → Bool} : ∀ n : Nat, (∀ i : Int, 0 ≤ i → i < n → p i = true → q i = true) → zcn p n ≤ zcn q n
  | 0, _ => Int.le_refl _
  | n + 1, h => by
    unfold zcn
    have h1 := zcn_m n (fun i a b => h i a (by omega))
    have h2 := h (n : Int) (by omega) (by omega)
    cases hp : p (n : Int) with
    | true => rw [h2 hp]; simp; omega
    | false => simp; split <;> omega
theorem zcn_s {p q : Int → Bool} : ∀ n : Nat, (∀ i : Int, 0 ≤ i → i < n → p i = true → q i = true) → (∃ i : Int, (0 ≤ i ∧ i < n) ∧ p i = false ∧ q i = true) → zcn p n < zcn q n
  | 0, _, h => by obtain ⟨i, hi, _⟩ := h; omega
  | n + 1, h, hx => by
    obtain ⟨i, hi, p0, q1⟩ := hx
    unfold zcn
    by_cases e : i = (n : Int)
    · have h1 := zcn_m n (fun i a b => h i a (by omega))
      rw [← e, p0, q1]
      simp
      omega
    · have h1 := zcn_s n (fun i a b => h i a (by omega)) ⟨i, by omega, p0, q1⟩
      have h2 := h (n : Int) (by omega) (by omega)
      cases hp : p (n : Int) with
      | true => rw [h2 hp]; simp; omega
      | false => simp; split <;> omega
/-- the place of h in the book -/
def zpl (c : Int) (rk len nam : Int → Int) (h : Int) : Int := zcn (fun b => decide (b ≠ h) && zah rk len nam b h) c.toNat
theorem zpl_k {rk len nam : Int → Int} {c : Int} (hk : zok rk len nam c) {h : Int} (hh : 0 ≤ h ∧ h < c) : zpl c rk len nam h = zcn (fun b => decide (zky rk len nam b < zky rk len nam h)) c.toNat := by
  unfold zpl
  refine zcn_c _ (fun b b0 b1 => ?_)
  have hb : 0 ≤ b ∧ b < c := by have := hk.1; omega
  by_cases e : b = h
  · subst e; simp
  · have := zky_lt hk hb hh e
    rw [decide_eq_true e, Bool.true_and]
    cases hz : zah rk len nam b h with
    | true => exact (decide_eq_true (this.mpr hz)).symm
    | false => exact (decide_eq_false (fun q => by rw [this.mp q] at hz; cases hz)).symm
theorem zpl_r {rk len nam : Int → Int} {c : Int} (hk : zok rk len nam c) {h : Int} (hh : 0 ≤ h ∧ h < c) : 0 ≤ zpl c rk len nam h ∧ zpl c rk len nam h < c := by
  have h1 := zcn_le (fun b => decide (b ≠ h) && zah rk len nam b h) c.toNat
  have h2 : zpl c rk len nam h < zcn (fun _ => true) c.toNat := zcn_s _ (fun _ _ _ _ => rfl) ⟨h, by omega, by simp, rfl⟩
  have h3 := (zcn_le (fun _ => true) c.toNat).2
  refine ⟨h1.1, ?_⟩
  have := hk.1
  omega
theorem zpl_lt {rk len nam : Int → Int} {c : Int} (hk : zok rk len nam c) {a b : Int} (ha : 0 ≤ a ∧ a < c) (hb : 0 ≤ b ∧ b < c) (hlt : zky rk len nam a < zky rk len nam b) : zpl c rk len nam a < zpl c rk len nam b := by
  rw [zpl_k hk ha, zpl_k hk hb]
  refine zcn_s _ (fun i _ _ h => ?_) ⟨a, by omega, by simp, decide_eq_true hlt⟩
  have := of_decide_eq_true h
  exact decide_eq_true (by omega)
theorem zpl_j {rk len nam : Int → Int} {c : Int} (hk : zok rk len nam c) {a b : Int} (ha : 0 ≤ a ∧ a < c) (hb : 0 ≤ b ∧ b < c) (e : zpl c rk len nam a = zpl c rk len nam b) : a = b := by
  have hc := hk.1
  rcases Int.lt_trichotomy (zky rk len nam a) (zky rk len nam b) with z | z | z
  · have := zpl_lt hk ha hb z; omega
  · exact zky_j ⟨ha.1, by omega⟩ ⟨hb.1, by omega⟩ z
  · have := zpl_lt hk hb ha z; omega
theorem zpl_s {rk len nam : Int → Int} {c : Int} (hk : zok rk len nam c) (k : Int) (k0 : 0 ≤ k) (k1 : k < c) : ∃ h, (0 ≤ h ∧ h < c) ∧ zpl c rk len nam h = k :=
  zp_surjI hk.1.1 (zpl c rk len nam) (fun i a b => zpl_r hk ⟨a, b⟩) (fun i j a b a' b' e => zpl_j hk ⟨a, b⟩ ⟨a', b'⟩ e) k k0 k1
/-- a row of turns that fits the places -/
def zbk (c : Int) (pl T : Int → Int) : Prop := (∀ h, 0 ≤ h → h < c → 0 ≤ pl h ∧ pl h < c ∧ T (pl h) = h) ∧ ∀ k, 0 ≤ k → k < c → 0 ≤ T k ∧ T k < c ∧ pl (T k) = k
theorem zbk_of {rk len nam T : Int → Int} {c : Int} (hk : zok rk len nam c) (hT : ∀ h, 0 ≤ h → h < c → T (zpl c rk len nam h) = h) : zbk c (zpl c rk len nam) T := by
  refine ⟨fun h a b => ⟨(zpl_r hk ⟨a, b⟩).1, (zpl_r hk ⟨a, b⟩).2, hT h a b⟩, fun k a b => ?_⟩
  obtain ⟨h, hh, e⟩ := zpl_s hk k a b
  rw [← e, hT h hh.1 hh.2]
  exact ⟨hh.1, hh.2, rfl⟩
theorem zbk_u {pl pl' T T' : Int → Int} {c : Int} (h : zbk c pl T) (h' : zbk c pl' T') (e : ∀ h, 0 ≤ h → h < c → pl h = pl' h) (k : Int) (k0 : 0 ≤ k) (k1 : k < c) : T k = T' k := by
  obtain ⟨a, b, q⟩ := h.2 k k0 k1
  obtain ⟨-, -, r⟩ := h'.1 (T k) a b
  rw [← e _ a b, q] at r
  exact r.symm
/-- only letters within the names count -/
theorem zdf_c {len nam len' nam' : Int → Int} {c : Int} (hl : ∀ h, 0 ≤ h → h < c → 1 ≤ len h ∧ len h ≤ 6) (e1 : ∀ h, 0 ≤ h → h < c → len' h = len h) (e2 : ∀ h i, 0 ≤ h → h < c → 0 ≤ i → i < len h → nam' (6 * h + i) = nam (6 * h + i)) {a b : Int} (ha : 0 ≤ a ∧ a < c) (hb : 0 ≤ b ∧ b < c) : zmn len' a b = zmn len a b ∧ zdf len' nam' a b = zdf len nam a b := by
  have em : zmn len' a b = zmn len a b := by unfold zmn; rw [e1 a ha.1 ha.2, e1 b hb.1 hb.2]
  have hmn : zmn len a b ≤ len a ∧ zmn len a b ≤ len b := by unfold zmn; split <;> omega
  refine ⟨em, ?_⟩
  unfold zdf
  rw [em]
  have aux : ∀ (f : Nat) (i : Int), 0 ≤ i → zdiff nam' a b (zmn len a b) f i = zdiff nam a b (zmn len a b) f i := by
    intro f
    induction f with
    | zero => intro i _; rfl
    | succ f ih =>
      intro i h0
      unfold zdiff
      by_cases hc : i < zmn len a b
      · rw [e2 a i ha.1 ha.2 h0 (by omega), e2 b i hb.1 hb.2 h0 (by omega), ih (i + 1) (by omega)]
      · rw [if_neg (fun z => hc z.1), if_neg (fun z => hc z.1)]
  exact aux 6 0 (by omega)
theorem zah_c {rk len nam rk' len' nam' : Int → Int} {c : Int} (hl : ∀ h, 0 ≤ h → h < c → 1 ≤ len h ∧ len h ≤ 6) (hn : ∀ h i, 0 ≤ h → h < c → 0 ≤ i → i < len h → 0 ≤ nam (6 * h + i) ∧ nam (6 * h + i) < 8) (e0 : ∀ x, 0 ≤ x → x < 8 → rk' x = rk x) (e1 : ∀ h, 0 ≤ h → h < c → len' h = len h) (e2 : ∀ h i, 0 ≤ h → h < c → 0 ≤ i → i < len h → nam' (6 * h + i) = nam (6 * h + i)) {a b : Int} (ha : 0 ≤ a ∧ a < c) (hb : 0 ≤ b ∧ b < c) : zah rk' len' nam' a b = zah rk len nam a b := by
  obtain ⟨m1, m2⟩ := zdf_c hl e1 e2 ha hb
  have la := hl a ha.1 ha.2
  have lb := hl b hb.1 hb.2
  obtain ⟨⟨g1, g2⟩, -⟩ := zdf_s (len := len) (nam := nam) (a := a) (b := b) ⟨by omega, la.2⟩ ⟨by omega, lb.2⟩
  have hmn : zmn len a b ≤ len a ∧ zmn len a b ≤ len b := by unfold zmn; split <;> omega
  unfold zah
  rw [m1, m2, e1 a ha.1 ha.2, e1 b hb.1 hb.2]
  by_cases hc : zdf len nam a b < zmn len a b
  · rw [if_pos hc, if_pos hc, e2 a _ ha.1 ha.2 g1 (by omega), e2 b _ hb.1 hb.2 g1 (by omega)]
    have n1 := hn a _ ha.1 ha.2 g1 (show zdf len nam a b < len a by omega)
    have n2 := hn b _ hb.1 hb.2 g1 (show zdf len nam a b < len b by omega)
    rw [e0 _ n1.1 n1.2, e0 _ n2.1 n2.2]
  · rw [if_neg hc, if_neg hc]
theorem zpl_c {rk len nam rk' len' nam' : Int → Int} {c : Int} (hl : ∀ h, 0 ≤ h → h < c → 1 ≤ len h ∧ len h ≤ 6) (hn : ∀ h i, 0 ≤ h → h < c → 0 ≤ i → i < len h → 0 ≤ nam (6 * h + i) ∧ nam (6 * h + i) < 8) (e0 : ∀ x, 0 ≤ x → x < 8 → rk' x = rk x) (e1 : ∀ h, 0 ≤ h → h < c → len' h = len h) (e2 : ∀ h i, 0 ≤ h → h < c → 0 ≤ i → i < len h → nam' (6 * h + i) = nam (6 * h + i)) {h : Int} (hh : 0 ≤ h ∧ h < c) : zpl c rk' len' nam' h = zpl c rk len nam h := by
  unfold zpl
  refine zcn_c _ (fun b b0 b1 => ?_)
  rw [zah_c hl hn e0 e1 e2 ⟨b0, by omega⟩ hh]

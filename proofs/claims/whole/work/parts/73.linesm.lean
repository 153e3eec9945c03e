/-! lines(): sets of lines to strike -/
def zbn (hs : Int → Int) : Nat → Int
  | 0 => 0
  | k + 1 => zbs (zbn hs k) (hs (k : Int))
def zgk (c : Int) (hs : Int → Int) (k : Int) : Bool := decide (0 ≤ hs k ∧ hs k < c) && !(zb (zbn hs k.toNat) (hs k))
theorem zbn_s {c : Int} {hs : Int → Int} (hc : c ≤ 8) : ∀ n : Nat, (∀ k : Int, 0 ≤ k → k < n → zgk c hs k = true) → (0 ≤ zbn hs n ∧ zbn hs n < 256) ∧ (∀ x, 0 ≤ x → (zb (zbn hs n) x = true ↔ ∃ j : Int, (0 ≤ j ∧ j < n) ∧ hs j = x)) ∧ zcard (zbn hs n) = n
  | 0, _ => by
    refine ⟨by show 0 ≤ (0 : Int) ∧ (0 : Int) < 256; omega, fun x _ => ?_, by show zcard 0 = 0; decide⟩
    show zb 0 x = true ↔ _
    rw [zb_0]
    constructor
    · intro z; cases z
    · rintro ⟨j, hj, _⟩; omega
  | n + 1, h => by
    obtain ⟨r, b, e⟩ := zbn_s hc n (fun k a b => h k a (by omega))
    have g := h n (by omega) (by omega)
    unfold zgk at g
    rw [Bool.and_eq_true, show ((n : Int)).toNat = n by omega] at g
    have g1 := of_decide_eq_true g.1
    have g2 : zb (zbn hs n) (hs n) = false := by simpa using g.2
    refine ⟨zbs_lt r (by omega), fun x x0 => ?_, ?_⟩
    · show zb (zbs (zbn hs n) (hs n)) x = true ↔ _
      rw [zb_zbs (by omega) (by omega) x0, Bool.or_eq_true, b x x0]
      constructor
      · rintro (⟨j, hj, e⟩ | z)
        · exact ⟨j, by omega, e⟩
        · exact ⟨n, by omega, of_decide_eq_true z⟩
      · rintro ⟨j, hj, e⟩
        by_cases q : j = n
        · right; rw [← q]; exact decide_eq_true e
        · left; exact ⟨j, by omega, e⟩
    · show zcard (zbs (zbn hs n) (hs n)) = _
      rw [zcard_zbs r (by omega) g2, e]; omega
theorem zgk_d {c : Int} {hs : Int → Int} {n : Nat} (hc : c ≤ 8) (h : ∀ k : Int, 0 ≤ k → k < n → zgk c hs k = true) : (∀ k : Int, 0 ≤ k → k < n → 0 ≤ hs k ∧ hs k < c) ∧ ∀ j k : Int, 0 ≤ j → j < k → k < n → hs j ≠ hs k := by
  have g1 : ∀ k : Int, 0 ≤ k → k < n → 0 ≤ hs k ∧ hs k < c := fun k a b => by
    have g := h k a b
    unfold zgk at g
    rw [Bool.and_eq_true] at g
    exact of_decide_eq_true g.1
  refine ⟨g1, fun j k a b c' e => ?_⟩
  have g := h k (by omega) c'
  unfold zgk at g
  rw [Bool.and_eq_true] at g
  have g2 : zb (zbn hs k.toNat) (hs k) = false := by simpa using g.2
  have := (zbn_s hc k.toNat (fun i x y => h i x (by omega))).2.1 (hs k) (g1 k (by omega) c').1
  rw [g2] at this
  have z := this.mpr ⟨j, by omega, e⟩
  cases z
/-- the lines that stay, in turn: whether so far; the latest place -/
def zlq (hs pl : Int → Int) (s : Int) : Nat → Bool × Int
  | 0 => (true, -1)
  | k + 1 => if zb s (hs (k : Int)) = true then zlq hs pl s k else ((zlq hs pl s k).1 && decide ((zlq hs pl s k).2 < pl (hs (k : Int))), pl (hs (k : Int)))
theorem zlq_l {hs pl : Int → Int} {s : Int} : ∀ k : Nat, (zlq hs pl s k).2 = -1 ∨ ∃ j : Int, (0 ≤ j ∧ j < k) ∧ (zlq hs pl s k).2 = pl (hs j)
  | 0 => Or.inl rfl
  | k + 1 => by
    unfold zlq
    by_cases q : zb s (hs (k : Int)) = true
    · rw [if_pos q]
      rcases zlq_l (hs := hs) (pl := pl) (s := s) k with h | ⟨j, hj, h⟩
      · exact Or.inl h
      · exact Or.inr ⟨j, by omega, h⟩
    · rw [if_neg q]; exact Or.inr ⟨k, by omega, rfl⟩
theorem zlq_f {hs pl : Int → Int} {s : Int} {k : Nat} (h : (zlq hs pl s k).1 = false) : ∀ m : Nat, (zlq hs pl s (k + m)).1 = false
  | 0 => h
  | m + 1 => by
    have ih := zlq_f h m
    show (zlq hs pl s (k + m + 1)).1 = false
    unfold zlq
    split
    · exact ih
    · show ((zlq hs pl s (k + m)).1 && _) = false
      rw [ih]; rfl
theorem z_sub {x A : Int} (hx : 0 ≤ x ∧ x < 256) (hA : 0 ≤ A ∧ A < 256) : z_and x (z_xor A (-1)) = 0 ↔ ∀ h, 0 ≤ h → zb x h = true → zb A h = true := by
  rw [z_and_not (by omega) (by omega)]
  constructor
  · intro e h h0 hb
    have e1 : x.toNat ^^^ (x.toNat &&& A.toNat) = 0 := by omega
    have e2 := congrArg (fun n => Nat.testBit n h.toNat) e1
    simp only [Nat.testBit_xor, Nat.testBit_and, Nat.zero_testBit] at e2
    unfold zb at hb ⊢
    rw [hb] at e2
    simpa using e2
  · intro h
    have : x.toNat ^^^ (x.toNat &&& A.toNat) = 0 := by
      refine Nat.eq_of_testBit_eq (fun i => ?_)
      simp only [Nat.testBit_xor, Nat.testBit_and, Nat.zero_testBit]
      have := h (i : Int) (by omega)
      unfold zb at this
      rw [show ((i : Int)).toNat = i by omega] at this
      cases q : x.toNat.testBit i
      · simp
      · rw [this q]; rfl
    omega
theorem zsub_le {x A : Int} (hx : 0 ≤ x ∧ x < 256) (hA : 0 ≤ A ∧ A < 256) (h : ∀ h, 0 ≤ h → zb x h = true → zb A h = true) : x ≤ A ∧ zcard x ≤ zcard A ∧ (zcard A ≤ zcard x → x = A) := by
  have t : ∀ y : Int, (∀ h, 0 ≤ h → zb y h = true → zb A h = true) → ∀ f : Int → Int, (∀ i, 0 ≤ f i) → zss f y ≤ zss f A := by
    intro y hy f hf
    unfold zss
    refine zsm_le 8 (fun i a b => ?_)
    have := hf i
    by_cases q : zb y i = true
    · rw [if_pos q, if_pos (hy i a q)]; omega
    · rw [if_neg q]; split <;> omega
  refine ⟨?_, ?_, fun hc => ?_⟩
  · rw [← zss_pw hx, ← zss_pw hA]; exact t x h zpw (fun i => by have := zpw_p i; omega)
  · rw [zcard_ss, zcard_ss]; exact t x h (fun _ => 1) (fun _ => by omega)
  · refine zb_ext hx.1 hA.1 (fun j j0 => ?_)
    cases q : zb A j
    · cases q2 : zb x j
      · rfl
      · have := h j j0 q2; rw [q] at this; cases this
    · cases q2 : zb x j
      · exfalso
        have j8 : j < 8 := Classical.byContradiction (fun z => by rw [zb_ge hA (by omega)] at q; cases q)
        have e := zcard_zbs hx ⟨j0, j8⟩ q2
        have : zcard (zbs x j) ≤ zcard A := by
          rw [zcard_ss, zcard_ss]
          refine t (zbs x j) (fun i i0 hi => ?_) (fun _ => 1) (fun _ => by omega)
          rw [zb_zbs (by omega) (by omega) i0, Bool.or_eq_true] at hi
          rcases hi with hi | hi
          · exact h i i0 hi
          · rw [← of_decide_eq_true hi]; exact q
        omega
      · rfl
def zkp (s : Int) : Int := 256 * zcard s + s
theorem s_W_isBookWithout {d n : Nat} {s c : Int} {hs pl : Int → Int} {M : zM} {F : Int → zM → Prop} (hc : 0 ≤ c ∧ c ≤ 8) (hn : n ≤ 80) (h1 : M 1 1 = n) (h2 : ∀ k : Int, 0 ≤ k → k < n → zdi (M 2 k) = hs k) (hg : ∀ k : Int, 0 ≤ k → k < n → zgk c hs k = true) (h5 : M 23 5 = c) (hp : ∀ x, 0 ≤ x → x < c → M 37 x = pl x ∧ 0 ≤ pl x) (hj : ∀ x y, 0 ≤ x → x < c → 0 ≤ y → y < c → pl x = pl y → x = y) (hs0 : 0 ≤ s ∧ s < 256) (H : F (if (zlq hs pl s n).1 = true then 1 else 0) M) : zCi (d + 2) 112 [z_r (10, 0) 0, z_i s] M F := by
  obtain ⟨d1, d2⟩ := zgk_d hc.2 hg
  refine e_W_isBookWithout (fun P hP => ?_)
  have loop : ∀ (m k : Nat), k + m = n → (zlq hs pl s k).1 = true → P s (zlq hs pl s k).2 (k : Int) M := by
    intro m
    induction m with
    | zero =>
      intro k hk ht
      refine hP _ _ _ _ ⟨fun _ => ?_, fun z => absurd (by omega) z⟩
      rw [show n = k by omega, if_pos ht] at H; exact H
    | succ m ih =>
      intro k hk ht
      have r := d1 k (by omega) (by omega)
      have nx := ih (k + 1) (by omega)
      rw [show ((k + 1 : Nat) : Int) = (k : Int) + 1 by omega] at nx
      unfold zlq at nx
      refine hP _ _ _ _ ⟨fun z => absurd z (by omega), fun _ => s_Text_at (by omega) ?_⟩
      rw [if_pos (by omega)]
      refine s_W_digitOf (s_Town_has ?_)
      rw [h2 k (by omega) (by omega), h5, if_pos r, zw (x := (k : Int) + 1) (by omega) (by omega)]
      refine ⟨fun z => absurd z (by decide), fun _ => s_W_isIn (by omega) (by omega) ?_⟩
      by_cases q : zb s (hs k) = true
      · rw [if_pos q]
        rw [if_pos q] at nx
        exact ⟨fun _ => nx ht, fun z => absurd (by decide) z⟩
      · rw [if_neg q]
        rw [if_neg q] at nx
        obtain ⟨p1, p2⟩ := hp _ r.1 r.2
        rw [p1]
        refine ⟨fun z => absurd rfl z, fun _ => ⟨by omega, fun z => ⟨by omega, ?_⟩, fun z => ?_⟩⟩
        · refine nx ?_
          show ((zlq hs pl s k).1 && decide ((zlq hs pl s k).2 < pl (hs k))) = true
          rw [ht, Bool.true_and]
          refine decide_eq_true ?_
          rcases zlq_l (hs := hs) (pl := pl) (s := s) k with e | ⟨j, hj1, e⟩
          · omega
          · have : pl (hs j) ≠ pl (hs k) := fun q => d2 j k hj1.1 hj1.2 (by omega) (hj _ _ (d1 j (by omega) (by omega)).1 (d1 j (by omega) (by omega)).2 r.1 r.2 q)
            omega
        · have e1 : (zlq hs pl s (k + 1)).1 = false := by
            unfold zlq
            rw [if_neg q]
            show ((zlq hs pl s k).1 && decide ((zlq hs pl s k).2 < pl (hs k))) = false
            rw [decide_eq_false (by omega), Bool.and_false]
          have e2 := zlq_f e1 m
          rw [show k + 1 + m = n by omega] at e2
          rw [e2] at H; exact H
  exact loop n 0 (by omega) rfl

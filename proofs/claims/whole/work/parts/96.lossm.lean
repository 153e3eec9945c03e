/-! what is lost by letters: numbers -/
theorem zcn_add {p q r : Int → Bool} : ∀ n : Nat, (∀ o : Int, 0 ≤ o → o < n → (if p o = true then (1 : Int) else 0) = (if q o = true then 1 else 0) + (if r o = true then 1 else 0)) → zcn p n = zcn q n + zcn r n
  | 0, _ => rfl
  | n + 1, h => by
    have ih := zcn_add (p := p) (q := q) (r := r) n (fun o a b => h o a (by omega))
    have := h n (by omega) (by omega)
    show zcn p n + (if p n = true then 1 else 0) = zcn q n + (if q n = true then 1 else 0) + (zcn r n + (if r n = true then 1 else 0))
    omega
theorem zsm_one {f : Int → Int} {k0 : Int} : ∀ n : Nat, (∀ k : Int, 0 ≤ k → k < n → k ≠ k0 → f k = 0) → zsm f n = if 0 ≤ k0 ∧ k0 < n then f k0 else 0
  | 0, _ => by rw [if_neg (by omega)]; rfl
  | n + 1, h => by
    have ih := zsm_one (f := f) (k0 := k0) n (fun k a b => h k a (by omega))
    show zsm f n + f n = _
    rw [ih]
    by_cases q : (n : Int) = k0
    · rw [if_neg (by omega), if_pos (by omega), q]; omega
    · rw [h n (by omega) (by omega) q]
      by_cases w : 0 ≤ k0 ∧ k0 < n
      · rw [if_pos w, if_pos (by omega)]; omega
      · rw [if_neg w, if_neg (by omega)]; omega
theorem zset_b {t : Int → Int} (ht : ∀ j, 0 ≤ j → j < 8 → 0 ≤ t j ∧ t j < 8) : ∀ k : Nat, k ≤ 8 → (0 ≤ zset t k ∧ zset t k < 256) ∧ ∀ x, 0 ≤ x → (zb (zset t k) x = true ↔ ∃ j : Int, (0 ≤ j ∧ j < k) ∧ t j = x)
  | 0, _ => ⟨by show 0 ≤ (0 : Int) ∧ (0 : Int) < 256; omega, fun x _ => by
      show zb 0 x = true ↔ _
      rw [zb_0]
      constructor
      · intro z; cases z
      · rintro ⟨j, hj, _⟩; omega⟩
  | k + 1, hk => by
    obtain ⟨r, b⟩ := zset_b ht k (by omega)
    have tk := ht k (by omega) (by omega)
    refine ⟨zbs_lt r tk, fun x x0 => ?_⟩
    show zb (zbs (zset t k) (t k)) x = true ↔ _
    rw [zb_zbs (by omega) (by omega) x0, Bool.or_eq_true, b x x0]
    constructor
    · rintro (⟨j, hj, e⟩ | z)
      · exact ⟨j, by omega, e⟩
      · exact ⟨k, by omega, of_decide_eq_true z⟩
    · rintro ⟨j, hj, e⟩
      by_cases q : j = k
      · right; rw [← q]; exact decide_eq_true e
      · left; exact ⟨j, by omega, e⟩
/-- the place of a house by an order, taken apart -/
theorem zpl_sum {c : Int} {len nam t : Int → Int} {h : Int} (hn : znm c len nam) (hh : 0 ≤ h ∧ h < c) (hp : zperm t) : zpl c (zrk t) len nam h = zan c.toNat len nam h + zac2 (zlo c.toNat len nam h) t 8 := by
  have hc := hn.1
  have main : ∀ n : Nat, (n : Int) ≤ c → zcn (fun b => decide (b ≠ h) && zah (zrk t) len nam b h) n = zan n len nam h + zsm (fun m => zlo n len nam h (t m) (zset t m.toNat)) 8 := by
    intro n
    induction n with
    | zero =>
      intro _
      show (0 : Int) = 0 + zsm (fun m => (0 : Int)) 8
      rfl
    | succ n ih =>
      intro hnc
      have ih := ih (by omega)
      have ln := hn.2.1 n (by omega) (by omega)
      have lh := hn.2.1 h hh.1 hh.2
      obtain ⟨d1, d2, d3⟩ := zdf_s (len := len) (nam := nam) (a := n) (b := h) (by omega) (by omega)
      have mb : zmn len n h ≤ len n ∧ zmn len n h ≤ len h := by unfold zmn; split <;> omega
      have e1 : zcn (fun b => decide (b ≠ h) && zah (zrk t) len nam b h) (n + 1) = zcn (fun b => decide (b ≠ h) && zah (zrk t) len nam b h) n + (if (decide ((n : Int) ≠ h) && zah (zrk t) len nam n h) = true then 1 else 0) := rfl
      have e2 : zan (n + 1) len nam h = zan n len nam h + (if (!zDo len nam h n && decide (zia len n h = 1)) = true then 1 else 0) := rfl
      have e3 : zsm (fun m => zlo (n + 1) len nam h (t m) (zset t m.toNat)) 8 = zsm (fun m => zlo n len nam h (t m) (zset t m.toNat)) 8 + zsm (fun m => if (zDo len nam h n && (decide (zAo len nam h n = t m) && zb (zset t m.toNat) (zBo len nam h n))) = true then 1 else 0) 8 := by rw [← zsm_add]; rfl
      rw [e1, e2, e3, ih]
      have key : (if (decide ((n : Int) ≠ h) && zah (zrk t) len nam n h) = true then (1 : Int) else 0) = (if (!zDo len nam h n && decide (zia len n h = 1)) = true then 1 else 0) + zsm (fun m => if (zDo len nam h n && (decide (zAo len nam h n = t m) && zb (zset t m.toNat) (zBo len nam h n))) = true then 1 else 0) 8 := by
        by_cases q : zdf len nam n h < zmn len n h
        · have eD : zDo len nam h n = true := decide_eq_true q
          have nh : (n : Int) ≠ h := fun e => d3 q (by rw [e])
          have ra : 0 ≤ zAo len nam h n ∧ zAo len nam h n < 8 := hn.2.2 h _ hh.1 hh.2 d1.1 (by omega)
          have rb : 0 ≤ zBo len nam h n ∧ zBo len nam h n < 8 := hn.2.2 n _ (by omega) (by omega) d1.1 (by omega)
          have ez : zah (zrk t) len nam n h = decide (zrk t (zBo len nam h n) < zrk t (zAo len nam h n)) := by unfold zah; rw [if_pos q]; rfl
          rw [eD, ez, decide_eq_true nh]
          generalize zAo len nam h n = A at ra
          generalize zBo len nam h n = Bb at rb
          have rk := zrk_r t A
          have ta := zrk_o hp A ra.1 ra.2
          rw [zsm_one (k0 := zrk t A) 8 (fun k a b w => ?_), if_pos (show 0 ≤ zrk t A ∧ zrk t A < ((8 : Nat) : Int) by omega)]
          · have zb8 := (zset_b hp.1 (zrk t A).toNat (by omega)).2 Bb rb.1
            rw [ta, decide_eq_true rfl]
            by_cases w : zrk t Bb < zrk t A
            · have : zb (zset t (zrk t A).toNat) Bb = true := zb8.mpr ⟨zrk t Bb, ⟨(zrk_r t Bb).1, by omega⟩, zrk_o hp Bb rb.1 rb.2⟩
              rw [this, decide_eq_true w]; rfl
            · have : zb (zset t (zrk t A).toNat) Bb = false := by
                cases y : zb (zset t (zrk t A).toNat) Bb
                · rfl
                · obtain ⟨j, hj, e⟩ := zb8.mp y
                  have := zrk_i hp j hj.1 (by omega)
                  rw [e] at this
                  omega
              rw [this, decide_eq_false w]; rfl
          · rw [decide_eq_false (fun e => w (by
              have := zrk_i hp k a b
              rw [← e] at this; exact this.symm))]
            rfl
        · have eD : zDo len nam h n = false := decide_eq_false q
          rw [eD]
          have z8 : zsm (fun m => if (false && (decide (zAo len nam h n = t m) && zb (zset t m.toNat) (zBo len nam h n))) = true then (1 : Int) else 0) 8 = 0 := rfl
          rw [z8, Int.add_zero]
          have ez : zah (zrk t) len nam n h = if len n = len h then decide ((n : Int) < h) else decide (len n < len h) := by unfold zah; rw [if_neg q]
          rw [ez]
          unfold zia
          by_cases w : (n : Int) = h
          · have e0 : (if len n = len h then (if (n : Int) < h then (1 : Int) else 0) else (if len n < len h then 1 else 0)) = 0 := by rw [w, if_pos rfl, if_neg (by omega)]
            rw [decide_eq_false (fun y => y w), e0]; rfl
          · rw [decide_eq_true w, Bool.true_and]
            by_cases w2 : len n = len h
            · rw [if_pos w2, if_pos w2]
              by_cases w3 : (n : Int) < h
              · rw [decide_eq_true w3, if_pos w3]; rfl
              · rw [decide_eq_false w3, if_neg w3]; rfl
            · rw [if_neg w2, if_neg w2]
              by_cases w3 : len n < len h
              · rw [decide_eq_true w3, if_pos w3]; rfl
              · rw [decide_eq_false w3, if_neg w3]; rfl
      omega
  exact main c.toNat (by omega)
theorem zb_t (x a : Int) : zb x a = zb x ((a.toNat : Nat) : Int) := by unfold zb; rw [Int.toNat_natCast]
theorem zb_mo {s i a : Int} (hs : 0 ≤ s ∧ s < 256) (hi : 0 ≤ i ∧ i < 8) (h : zb s a = true) : zb (zbs s i) a = true := by
  rw [zb_t] at h ⊢
  rw [zb_zbs (by omega) (by omega) (by omega), h]; rfl
theorem z_free {s : Int} (h : zcard s < 8) : ∃ i : Int, (0 ≤ i ∧ i < 8) ∧ zb s i = false := by
  refine Classical.byContradiction (fun w => ?_)
  have all : ∀ i : Int, 0 ≤ i → i < 8 → zb s i = true := fun i a b => by
    cases y : zb s i
    · exact absurd ⟨i, ⟨a, b⟩, y⟩ w
    · rfl
  unfold zcard at h
  rw [all 0 (by omega) (by omega), all 1 (by omega) (by omega), all 2 (by omega) (by omega), all 3 (by omega) (by omega), all 4 (by omega) (by omega), all 5 (by omega) (by omega), all 6 (by omega) (by omega), all 7 (by omega) (by omega)] at h
  simp at h
theorem zlo_b {c : Nat} {len nam : Int → Int} {h : Int} (hc8 : c ≤ 8) : ∀ (f : Nat) (s : Int), (0 ≤ s ∧ s < 256) → zcard s + f = 8 → zmL (zlo c len nam h) f s ≤ zcn (fun o => zDo len nam h o && !zb s (zAo len nam h o)) c := by
  intro f
  induction f with
  | zero => intro s _ _; exact (zcn_le _ c).1
  | succ f ih =>
    intro s hs hk
    obtain ⟨i, hi, zi⟩ := z_free (s := s) (by omega)
    have hc := zcard_zbs hs hi zi
    have ih := ih (zbs s i) (zbs_lt hs hi) (by omega)
    have sum : zcn (fun o => zDo len nam h o && !zb s (zAo len nam h o)) c = zcn (fun o => zDo len nam h o && !zb (zbs s i) (zAo len nam h o)) c + zcn (fun o => zDo len nam h o && (!zb s (zAo len nam h o) && zb (zbs s i) (zAo len nam h o))) c := by
      refine zcn_add c (fun o a b => ?_)
      cases zDo len nam h o
      · rfl
      · cases x : zb s (zAo len nam h o) <;> cases y : zb (zbs s i) (zAo len nam h o)
        · rfl
        · rfl
        · have := zb_mo (i := i) hs hi x
          rw [y] at this; cases this
        · rfl
    have le1 : zlo c len nam h i s ≤ zcn (fun o => zDo len nam h o && (!zb s (zAo len nam h o) && zb (zbs s i) (zAo len nam h o))) c := by
      refine zcn_m c (fun o a b w => ?_)
      simp only [Bool.and_eq_true, decide_eq_true_eq] at w
      obtain ⟨w1, w2, w3⟩ := w
      rw [w1, w2, zi, zb_zbs (by omega) (by omega) hi.1]
      simp
    have cl := zcn_le (fun o => zDo len nam h o && !zb s (zAo len nam h o)) c
    have := (zmX_s (g := fun i => zlo c len nam h i s + zmL (zlo c len nam h) f (zbs s i)) (s := s) 8 ⟨i, hi, zi, by show zlo c len nam h i s + zmL (zlo c len nam h) f (zbs s i) < 2000000; omega⟩).2.2.2.1 i hi.1 hi.2 zi
    have this : zmL (zlo c len nam h) (f + 1) s ≤ zlo c len nam h i s + zmL (zlo c len nam h) f (zbs s i) := this
    omega
theorem zb_and {a b j : Int} (ha : 0 ≤ a ∧ a < 2147483648) (hb : 0 ≤ b ∧ b < 2147483648) : zb (z_and a b) j = (zb a j && zb b j) := by
  rw [z_and_n ha hb]
  unfold zb
  rw [Int.toNat_natCast, Nat.testBit_and]
theorem z_and_lt {a b : Int} (ha : 0 ≤ a ∧ a < 256) (hb : 0 ≤ b ∧ b < 256) : 0 ≤ z_and a b ∧ z_and a b < 256 := by
  rw [z_and_n (by omega) (by omega)]
  have : a.toNat &&& b.toNat < 2 ^ 8 := Nat.and_lt_two_pow _ (by omega)
  omega
/-- what is lost by a letter behind a set -/
theorem s_Orders_loss {d c : Nat} {len nam : Int → Int} {h i s : Int} {M : zM} {F : Int → zM → Prop} (hc8 : c ≤ 8) (hL : zLs c len nam h M) (hB : ∀ o : Int, 0 ≤ o → o < c → zDo len nam h o = true → 0 ≤ zBo len nam h o ∧ zBo len nam h o < 8) (hi : 0 ≤ i ∧ i < 8) (hs : 0 ≤ s ∧ s < 256) (H : F (zlo c len nam h i s) M) : zCi (d + 2) 94 [z_r (2, 0) 144, z_i i, z_i s] M F := by
  obtain ⟨l1, l2⟩ := hL
  obtain ⟨r6, b6⟩ := l2 i hi.1 hi.2
  have br := z_and_lt r6 hs
  have bz : ∀ b, zb (z_and (M 146 i) s) b = (zb (M 146 i) b && zb s b) := fun b => zb_and (by omega) (by omega)
  generalize hby : z_and (M 146 i) s = by_ at br bz
  -- the letters below k
  have part : ∀ k : Int, 0 ≤ k → k < 8 → zcn (fun o => zDo len nam h o && (decide (zAo len nam h o = i) && (zb s (zBo len nam h o) && decide (zBo len nam h o < k + 1)))) c = zcn (fun o => zDo len nam h o && (decide (zAo len nam h o = i) && (zb s (zBo len nam h o) && decide (zBo len nam h o < k)))) c + (if zb by_ k = true then M 145 (8 * i + k) else 0) := by
    intro k k0 k8
    have e1 : zcn (fun o => zDo len nam h o && (decide (zAo len nam h o = i) && (zb s (zBo len nam h o) && decide (zBo len nam h o < k + 1)))) c = zcn (fun o => zDo len nam h o && (decide (zAo len nam h o = i) && (zb s (zBo len nam h o) && decide (zBo len nam h o < k)))) c + zcn (fun o => zDo len nam h o && (decide (zAo len nam h o = i) && (zb s (zBo len nam h o) && decide (zBo len nam h o = k)))) c := by
      refine zcn_add c (fun o _ _ => ?_)
      cases zDo len nam h o
      · rfl
      · cases decide (zAo len nam h o = i)
        · rfl
        · cases zb s (zBo len nam h o)
          · rfl
          · rcases Int.lt_trichotomy (zBo len nam h o) k with w | w | w
            · rw [decide_eq_true (show zBo len nam h o < k + 1 by omega), decide_eq_true w, decide_eq_false (show ¬ zBo len nam h o = k by omega)]; rfl
            · rw [decide_eq_true (show zBo len nam h o < k + 1 by omega), decide_eq_false (show ¬ zBo len nam h o < k by omega), decide_eq_true w]; rfl
            · rw [decide_eq_false (show ¬ zBo len nam h o < k + 1 by omega), decide_eq_false (show ¬ zBo len nam h o < k by omega), decide_eq_false (show ¬ zBo len nam h o = k by omega)]; rfl
    rw [e1, bz k, l1 i k hi.1 hi.2 k0 k8]
    have b6k := b6 k k0 k8
    have cb := zcn_le (fun o => zDo len nam h o && (decide (zAo len nam h o = i) && decide (zBo len nam h o = k))) c
    by_cases w : zb s k = true
    · have e2 : zcn (fun o => zDo len nam h o && (decide (zAo len nam h o = i) && (zb s (zBo len nam h o) && decide (zBo len nam h o = k)))) c = zcn (fun o => zDo len nam h o && (decide (zAo len nam h o = i) && decide (zBo len nam h o = k))) c := by
        refine zcn_c c (fun o _ _ => ?_)
        by_cases y : zBo len nam h o = k
        · rw [y, w]; simp
        · rw [decide_eq_false y]; simp
      rw [e2, w, Bool.and_true]
      by_cases y : zb (M 146 i) k = true
      · rw [if_pos y]
      · rw [if_neg y]
        have hz : ¬ (0 < zcn (fun o => zDo len nam h o && (decide (zAo len nam h o = i) && decide (zBo len nam h o = k))) c) := fun z => y (b6k.mpr z)
        omega
    · have w' : zb s k = false := by simpa using w
      have e2 : zcn (fun o => zDo len nam h o && (decide (zAo len nam h o = i) && (zb s (zBo len nam h o) && decide (zBo len nam h o = k)))) c = zcn (fun _ => false) c := by
        refine zcn_c c (fun o _ _ => ?_)
        by_cases y : zBo len nam h o = k
        · rw [y, w']; simp
        · rw [decide_eq_false y]; simp
      have e3 : ∀ n : Nat, zcn (fun _ => false) n = 0 := by
        intro n
        induction n with
        | zero => rfl
        | succ n ihn => show zcn (fun _ => false) n + 0 = 0; omega
      rw [e2, e3, w', Bool.and_false]; rfl
  have e8 : zcn (fun o => zDo len nam h o && (decide (zAo len nam h o = i) && (zb s (zBo len nam h o) && decide (zBo len nam h o < 8)))) c = zlo c len nam h i s := by
    refine zcn_c c (fun o a b => ?_)
    cases y : zDo len nam h o
    · rfl
    · rw [decide_eq_true (hB o a b y).2]; simp
  refine e_Orders_loss (fun P hP => ⟨hi, ?_⟩)
  have loop : ∀ (m k : Nat), k + m = 8 → P i s (zcn (fun o => zDo len nam h o && (decide (zAo len nam h o = i) && (zb s (zBo len nam h o) && decide (zBo len nam h o < (k : Int))))) c) by_ (k : Int) M := by
    intro m
    induction m with
    | zero =>
      intro k hk
      have : k = 8 := by omega
      subst this
      refine hP _ _ _ _ _ _ ⟨fun _ => ?_, fun z => absurd (by decide) z⟩
      show F (zcn (fun o => zDo len nam h o && (decide (zAo len nam h o = i) && (zb s (zBo len nam h o) && decide (zBo len nam h o < 8)))) c) M
      rw [e8]; exact H
    | succ m ih =>
      intro k hk
      have nx := ih (k + 1) (by omega)
      rw [show ((k + 1 : Nat) : Int) = (k : Int) + 1 by omega, part k (by omega) (by omega)] at nx
      have cb := zcn_le (fun o => zDo len nam h o && (decide (zAo len nam h o = i) && (zb s (zBo len nam h o) && decide (zBo len nam h o < (k : Int))))) c
      have cl := zcn_le (fun o => zDo len nam h o && (decide (zAo len nam h o = i) && decide (zBo len nam h o = (k : Int)))) c
      have l1k := l1 i k hi.1 hi.2 (by omega) (by omega)
      refine hP _ _ _ _ _ _ ⟨fun z => absurd z (by omega), fun _ => ⟨fun z => ?_, fun z => s_W_isIn (by omega) (by omega) ?_⟩⟩
      · -- nothing is left
        rw [z_shr_n (by omega) (by omega)] at z
        have hp : 0 < 2 ^ k := Nat.pow_pos (by omega)
        have lt : by_.toNat < 2 ^ k := by
          have : by_.toNat / 2 ^ k = 0 := by
            rw [show ((k : Int)).toNat = k by omega] at z
            omega
          rcases Nat.div_eq_zero_iff.mp this with w | w
          · omega
          · exact w
        have nb : ∀ b : Int, (k : Int) ≤ b → zb by_ b = false := fun b hb => by
          unfold zb
          exact Nat.testBit_lt_two_pow (Nat.lt_of_lt_of_le lt (Nat.pow_le_pow_right (by omega) (by omega)))
        have same : ∀ m : Nat, k + m ≤ 8 → zcn (fun o => zDo len nam h o && (decide (zAo len nam h o = i) && (zb s (zBo len nam h o) && decide (zBo len nam h o < ((k + m : Nat) : Int))))) c = zcn (fun o => zDo len nam h o && (decide (zAo len nam h o = i) && (zb s (zBo len nam h o) && decide (zBo len nam h o < (k : Int))))) c := by
          intro m
          induction m with
          | zero => intro _; rfl
          | succ m ihm =>
            intro hm
            have := part ((k + m : Nat) : Int) (by omega) (by omega)
            rw [if_neg (by rw [nb _ (by omega)]; decide), Int.add_zero, ihm (by omega)] at this
            rw [show ((k + (m + 1) : Nat) : Int) = ((k + m : Nat) : Int) + 1 by omega]
            exact this
        have := same (m + 1) (by omega)
        rw [show ((k + (m + 1) : Nat) : Int) = 8 by omega, e8] at this
        rw [← this]; exact H
      · by_cases y : zb by_ (k : Int) = true
        · rw [if_pos y] at nx ⊢
          refine ⟨fun w => absurd w (by decide), fun _ => ?_⟩
          rw [zw (x := i * 8) (by omega) (by omega), zw (x := i * 8 + (k : Int)) (by omega) (by omega), show i * 8 + (k : Int) = 8 * i + k by omega, zw (x := (k : Int) + 1) (by omega) (by omega), zw (x := zcn _ c + _) (by omega) (by omega)]
          exact ⟨by omega, nx⟩
        · rw [if_neg y] at nx ⊢
          refine ⟨fun _ => ?_, fun w => absurd rfl w⟩
          rw [zw (x := (k : Int) + 1) (by omega) (by omega)]
          rw [Int.add_zero] at nx
          exact nx
  have z0 : zcn (fun o => zDo len nam h o && (decide (zAo len nam h o = i) && (zb s (zBo len nam h o) && decide (zBo len nam h o < ((0 : Nat) : Int))))) c = 0 := by
    have e3 : ∀ n : Nat, n ≤ c → zcn (fun o => zDo len nam h o && (decide (zAo len nam h o = i) && (zb s (zBo len nam h o) && decide (zBo len nam h o < ((0 : Nat) : Int))))) n = 0 := by
      intro n
      induction n with
      | zero => intro _; rfl
      | succ n ihn =>
        intro hn
        show zcn (fun o => zDo len nam h o && (decide (zAo len nam h o = i) && (zb s (zBo len nam h o) && decide (zBo len nam h o < ((0 : Nat) : Int))))) n + (if (zDo len nam h n && (decide (zAo len nam h n = i) && (zb s (zBo len nam h n) && decide (zBo len nam h n < ((0 : Nat) : Int))))) = true then 1 else 0) = 0
        rw [ihn (by omega)]
        cases y : zDo len nam h n
        · rfl
        · rw [decide_eq_false (show ¬ zBo len nam h n < ((0 : Nat) : Int) by have := hB n (by omega) (by omega) y; omega)]; simp
    exact e3 c (by omega)
  have := loop 8 0 (by omega)
  rw [z0] at this
  rw [hby]
  exact this

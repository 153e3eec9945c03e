/-! what is lost by letters: the class -/
theorem s_fill {d a : Nat} {k x : Int} {M : zM} {F : zM → Prop} (hk : 0 ≤ k ∧ k ≤ 1000) (H : ∀ M', zf [a] [] M M' → (∀ j, 0 ≤ j → j < k → M' a j = x) → F M') : zCv (d + 1) 256 [z_r (100, k) a, z_i x] M F := by
  refine e_Arrays_fill (fun P hP => ?_)
  have loop : ∀ (m i : Nat) (M1 : zM), (i : Int) + m = k → zf [a] [] M M1 → (∀ j : Int, 0 ≤ j → j < i → M1 a j = x) → P k a x (i : Int) k M1 := by
    intro m
    induction m with
    | zero =>
      intro i M1 hi f1 e1
      exact hP _ _ _ _ _ _ ⟨fun _ => H M1 f1 (fun j p q => e1 j p (by omega)), fun z => absurd (by omega) z⟩
    | succ m ih =>
      intro i M1 hi f1 e1
      refine hP _ _ _ _ _ _ ⟨fun z => absurd z (by omega), fun _ => ⟨by omega, ?_⟩⟩
      rw [zw (x := (i : Int) + 1) (by omega) (by omega)]
      have := ih (i + 1) (z_up M1 a (i : Int) x) (by omega) (zf_us f1 List.mem_cons_self) (fun j p q => ?_)
      · rw [show ((i + 1 : Nat) : Int) = (i : Int) + 1 by omega] at this
        exact this
      · by_cases e : j = i
        · rw [e, zu_s]
        · rw [zu_i e]; exact e1 j p (by omega)
  exact loop k.toNat 0 M (by omega) zf_rf (fun j p q => by omega)
theorem zmn_sym (len : Int → Int) (a b : Int) : zmn len a b = zmn len b a := by unfold zmn; split <;> split <;> omega
theorem zdf_sym {len nam : Int → Int} {a b : Int} (ha : 0 ≤ len a ∧ len a ≤ 6) (hb : 0 ≤ len b ∧ len b ≤ 6) : zdf len nam a b = zdf len nam b a := by
  obtain ⟨x1, x2, x3⟩ := zdf_s (nam := nam) ha hb
  obtain ⟨y1, y2, y3⟩ := zdf_s (nam := nam) hb ha
  have m := zmn_sym len a b
  rcases Int.lt_trichotomy (zdf len nam a b) (zdf len nam b a) with q | q | q
  · exact absurd (y2 _ x1.1 q).symm (x3 (by omega))
  · exact q
  · exact absurd (x2 _ y1.1 q).symm (y3 (by omega))
theorem s_Town_tellingLetter {d a : Nat} {x y : Int} {M : zM} {F : Int → zM → Prop} (hx : 0 ≤ x ∧ x < 8) (hy : 0 ≤ y ∧ y < 8) (lx : 0 ≤ M (a + 3) x ∧ M (a + 3) x ≤ 6) (ly : 0 ≤ M (a + 3) y ∧ M (a + 3) y ≤ 6) (H : F (zmi (M (a + 3)) (M (a + 2)) x y) M) : zCi (d + 2) 81 [z_r (9, 0) a, z_i x, z_i y] M F := by
  obtain ⟨d1, d2, d3⟩ := zdf_s (nam := M (a + 2)) lx ly
  have em : (if M (a + 3) y < M (a + 3) x then M (a + 3) y else M (a + 3) x) = zmn (M (a + 3)) x y := rfl
  have mb : zmn (M (a + 3)) x y ≤ M (a + 3) x ∧ zmn (M (a + 3)) x y ≤ M (a + 3) y := by unfold zmn; split <;> omega
  refine e_Town_tellingLetter (fun P hP => ⟨hx, hy, ?_⟩)
  rw [em]
  unfold zmi at H
  have loop : ∀ (m : Nat) (i : Int), i + m = zdf (M (a + 3)) (M (a + 2)) x y → 0 ≤ i → P a x y (zmn (M (a + 3)) x y) i M := by
    intro m
    induction m with
    | zero =>
      intro i hi i0
      have hi : i = zdf (M (a + 3)) (M (a + 2)) x y := by omega
      refine hP _ _ _ _ _ _ ⟨fun z => ?_, fun z => s_Town_letterAt hx i0 lx.2 ?_⟩
      · rw [if_neg (by omega)] at H; exact H
      · rw [if_pos (by omega)]
        refine s_Town_letterAt hy i0 ly.2 ?_
        rw [if_pos (by omega)]
        refine ⟨fun w => ?_, fun w => s_Town_letterAt hx i0 lx.2 ?_⟩
        · rw [hi] at w; exact absurd w (d3 (by omega))
        · rw [if_pos (by omega), hi]
          rw [if_pos (by omega)] at H; exact H
    | succ m ih =>
      intro i hi i0
      refine hP _ _ _ _ _ _ ⟨fun z => absurd z (by omega), fun z => s_Town_letterAt hx i0 lx.2 ?_⟩
      rw [if_pos (by omega)]
      refine s_Town_letterAt hy i0 ly.2 ?_
      rw [if_pos (by omega)]
      refine ⟨fun _ => ?_, fun w => absurd (d2 i i0 (by omega)) w⟩
      rw [zw (x := i + 1) (by omega) (by omega)]
      exact ih (i + 1) (by omega) (by omega)
  exact loop (zdf (M (a + 3)) (M (a + 2)) x y).toNat 0 (by omega) (by omega)
theorem s_Town_isAheadAnyway {d a : Nat} {x y : Int} {M : zM} {F : Int → zM → Prop} (hx : 0 ≤ x ∧ x < 8) (hy : 0 ≤ y ∧ y < 8) (H : F (zia (M (a + 3)) x y) M) : zCi (d + 1) 82 [z_r (9, 0) a, z_i x, z_i y] M F := by
  unfold zia at H
  refine e_Town_isAheadAnyway ⟨hx, hy, fun z => ⟨fun w => ?_, fun w => ?_⟩, fun z => ⟨hx, hy, fun w => ?_, fun w => ?_⟩⟩
  · rw [if_pos z, if_neg (by omega)] at H; exact H
  · rw [if_pos z, if_pos (by omega)] at H; exact H
  · rw [if_neg z, if_neg (by omega)] at H; exact H
  · rw [if_neg z, if_pos (by omega)] at H; exact H
/-- whether a house differs from h by letters; h's letter, its own one -/
def zDo (len nam : Int → Int) (h o : Int) : Bool := decide (zdf len nam o h < zmn len o h)
def zAo (len nam : Int → Int) (h o : Int) : Int := nam (6 * h + zdf len nam o h)
def zBo (len nam : Int → Int) (h o : Int) : Int := nam (6 * o + zdf len nam o h)
def zlo (c : Nat) (len nam : Int → Int) (h i s : Int) : Int := zcn (fun o => zDo len nam h o && (decide (zAo len nam h o = i) && zb s (zBo len nam h o))) c
def zan (c : Nat) (len nam : Int → Int) (h : Int) : Int := zcn (fun o => !zDo len nam h o && decide (zia len o h = 1)) c
/-- the arrays of what is lost -/
def zLs (c : Nat) (len nam : Int → Int) (h : Int) (M : zM) : Prop := (∀ a b, 0 ≤ a → a < 8 → 0 ≤ b → b < 8 → M 145 (8 * a + b) = zcn (fun o => zDo len nam h o && (decide (zAo len nam h o = a) && decide (zBo len nam h o = b))) c) ∧ ∀ a, 0 ≤ a → a < 8 → (0 ≤ M 146 a ∧ M 146 a < 256) ∧ ∀ b, 0 ≤ b → b < 8 → (zb (M 146 a) b = true ↔ 0 < zcn (fun o => zDo len nam h o && (decide (zAo len nam h o = a) && decide (zBo len nam h o = b))) c)
theorem s_Orders_lossesOf {d : Nat} {h c : Int} {M : zM} {F : Int → zM → Prop} (ht : zTn c (M 24) (M 26) (M 25)) (hc : M 23 5 = c) (hh : 0 ≤ h ∧ h < c) (H : ∀ M', zf [145, 146] [] M M' → zLs c.toNat (M 26) (M 25) h M' → F (zan c.toNat (M 26) (M 25) h) M') : zCi (d + 3) 93 [z_r (2, 0) 144, z_r (9, 0) 23, z_i h] M F := by
  have c8 := ht.1
  refine e_Orders_lossesOf (fun P hP => s_fill (by decide) (fun M1 f1 z1 => s_fill (by decide) (fun M2 f2 z2 => ?_)))
  have f12 := zf_tr f1 f2
  have k26 : ∀ M3, zf [145, 146] [] M M3 → M3 26 = M 26 ∧ M3 25 = M 25 ∧ M3 23 5 = c := fun M3 f3 => ⟨zf_c f3 26 rfl, zf_c f3 25 rfl, by rw [zf_a f3 23 5 rfl]; exact hc⟩
  have loop : ∀ (m i : Nat) (M3 : zM), (i : Int) + m = c → zf [145, 146] [] M M3 → zLs i (M 26) (M 25) h M3 → P 23 h (zan i (M 26) (M 25) h) (i : Int) M3 := by
    intro m
    induction m with
    | zero =>
      intro i M3 hi f3 l3
      obtain ⟨a1, a2, a3⟩ := k26 M3 f3
      have hi : i = c.toNat := by omega
      subst hi
      exact hP _ _ _ _ _ ⟨fun _ => H M3 f3 l3, fun z => absurd (by omega) z⟩
    | succ m ih =>
      intro i M3 hi f3 l3
      obtain ⟨a1, a2, a3⟩ := k26 M3 f3
      have nx := ih (i + 1)
      rw [show ((i + 1 : Nat) : Int) = (i : Int) + 1 by omega] at nx
      have li := ht.2.2.1 i (by omega) (by omega)
      have lh := ht.2.2.1 h hh.1 hh.2
      have sy := zdf_sym (nam := M 25) (len := M 26) (a := h) (b := i) (by omega) (by omega)
      have ms := zmn_sym (M 26) h i
      have an := zcn_le (fun o => !zDo (M 26) (M 25) h o && decide (zia (M 26) o h = 1)) i
      have ea : zan (i + 1) (M 26) (M 25) h = zan i (M 26) (M 25) h + (if (!zDo (M 26) (M 25) h i && decide (zia (M 26) i h = 1)) = true then 1 else 0) := rfl
      rw [ea] at nx
      have an : 0 ≤ zan i (M 26) (M 25) h ∧ zan i (M 26) (M 25) h ≤ i := an
      refine hP _ _ _ _ _ ⟨fun z => absurd z (by omega), fun _ => ?_⟩
      have b1 : M3 (23 + 3) = M 26 := a1
      have b2 : M3 (23 + 2) = M 25 := a2
      refine s_Town_tellingLetter (by omega) (by omega) (by rw [b1]; omega) (by rw [b1]; omega) (s_Town_tellingLetter (by omega) (by omega) (by rw [b1]; omega) (by rw [b1]; omega) ?_)
      rw [b1, b2, zw (x := (i : Int) + 1) (by omega) (by omega)]
      by_cases q : zdf (M 26) (M 25) i h < zmn (M 26) i h
      · have eD : zDo (M 26) (M 25) h i = true := decide_eq_true q
        have e1 : zmi (M 26) (M 25) h i = zAo (M 26) (M 25) h i := by unfold zmi zAo; rw [sy, ms, if_pos q]
        have e2 : zmi (M 26) (M 25) i h = zBo (M 26) (M 25) h i := by unfold zmi zBo; rw [if_pos q]
        rw [e1, e2]
        obtain ⟨dd, -, -⟩ := zdf_s (len := M 26) (nam := M 25) (a := i) (b := h) (by omega) (by omega)
        have mb : zmn (M 26) i h ≤ M 26 i ∧ zmn (M 26) i h ≤ M 26 h := by unfold zmn; split <;> omega
        have ra : 0 ≤ zAo (M 26) (M 25) h i ∧ zAo (M 26) (M 25) h i < 8 := ht.2.2.2 _ (by omega) (by omega)
        have rb : 0 ≤ zBo (M 26) (M 25) h i ∧ zBo (M 26) (M 25) h i < 8 := ht.2.2.2 _ (by omega) (by omega)
        generalize hA : zAo (M 26) (M 25) h i = A at ra
        generalize hBb : zBo (M 26) (M 25) h i = Bb at rb
        rw [eD] at nx
        rw [show (!true && decide (zia (M 26) i h = 1)) = false from rfl, if_neg (by decide), Int.add_zero] at nx
        obtain ⟨l1, l2⟩ := l3
        have cb := zcn_le (fun o => zDo (M 26) (M 25) h o && (decide (zAo (M 26) (M 25) h o = A) && decide (zBo (M 26) (M 25) h o = Bb))) i
        rw [zw (x := A * 8) (by omega) (by omega), zw (x := A * 8 + Bb) (by omega) (by omega), show A * 8 + Bb = 8 * A + Bb by omega, l1 A Bb ra.1 ra.2 rb.1 rb.2, zw (x := zcn _ i + 1) (by omega) (by omega)]
        refine ⟨fun w => absurd w (by omega), fun _ => ⟨fun w => absurd w (by omega), fun _ => ⟨by omega, by omega, by omega, by omega, ?_⟩⟩⟩
        rw [zu_c (by decide)]
        refine nx _ (by omega) (zf_us (zf_us f3 (by decide)) (by decide)) ⟨fun a b a0 a1' b0 b1' => ?_, fun a a0 a1' => ?_⟩
        · have es : zcn (fun o => zDo (M 26) (M 25) h o && (decide (zAo (M 26) (M 25) h o = a) && decide (zBo (M 26) (M 25) h o = b))) (i + 1) = zcn (fun o => zDo (M 26) (M 25) h o && (decide (zAo (M 26) (M 25) h o = a) && decide (zBo (M 26) (M 25) h o = b))) i + (if (zDo (M 26) (M 25) h i && (decide (zAo (M 26) (M 25) h i = a) && decide (zBo (M 26) (M 25) h i = b))) = true then 1 else 0) := rfl
          rw [es, eD, hA, hBb, zu_c (by decide)]
          by_cases w : A = a ∧ Bb = b
          · rw [w.1, w.2, zu_s, decide_eq_true rfl, decide_eq_true rfl]; rfl
          · rw [zu_i (by omega), l1 a b a0 a1' b0 b1']
            by_cases w1 : A = a
            · rw [decide_eq_true w1, decide_eq_false (fun e => w ⟨w1, e⟩)]; simp
            · rw [decide_eq_false w1]; simp
        · have r6 := (l2 A ra.1 ra.2).1
          by_cases wa : a = A
          · subst wa
            rw [zu_s]
            show (0 ≤ zbs (M3 146 a) Bb ∧ zbs (M3 146 a) Bb < 256) ∧ _
            refine ⟨zbs_lt r6 rb, fun b b0 b1' => ?_⟩
            have es : zcn (fun o => zDo (M 26) (M 25) h o && (decide (zAo (M 26) (M 25) h o = a) && decide (zBo (M 26) (M 25) h o = b))) (i + 1) = zcn (fun o => zDo (M 26) (M 25) h o && (decide (zAo (M 26) (M 25) h o = a) && decide (zBo (M 26) (M 25) h o = b))) i + (if (zDo (M 26) (M 25) h i && (decide (zAo (M 26) (M 25) h i = a) && decide (zBo (M 26) (M 25) h i = b))) = true then 1 else 0) := rfl
            have cb2 := zcn_le (fun o => zDo (M 26) (M 25) h o && (decide (zAo (M 26) (M 25) h o = a) && decide (zBo (M 26) (M 25) h o = b))) i
            have lb := (l2 a a0 a1').2 b b0 b1'
            rw [es, eD, hA, hBb]
            show zb (zbs (M3 146 a) Bb) b = true ↔ _
            rw [zb_zbs (by omega) (by omega) b0, Bool.or_eq_true, lb, decide_eq_true rfl]
            by_cases w : Bb = b
            · rw [decide_eq_true w]; simp; omega
            · rw [decide_eq_false w]; simp
          · rw [zu_i wa, zu_c (by decide)]
            refine ⟨(l2 a a0 a1').1, fun b b0 b1' => ?_⟩
            have es : zcn (fun o => zDo (M 26) (M 25) h o && (decide (zAo (M 26) (M 25) h o = a) && decide (zBo (M 26) (M 25) h o = b))) (i + 1) = zcn (fun o => zDo (M 26) (M 25) h o && (decide (zAo (M 26) (M 25) h o = a) && decide (zBo (M 26) (M 25) h o = b))) i + (if (zDo (M 26) (M 25) h i && (decide (zAo (M 26) (M 25) h i = a) && decide (zBo (M 26) (M 25) h i = b))) = true then 1 else 0) := rfl
            rw [es, eD, hA, decide_eq_false (fun e => wa e.symm)]
            rw [(l2 a a0 a1').2 b b0 b1']
            simp
      · have eD : zDo (M 26) (M 25) h i = false := decide_eq_false q
        have e1 : zmi (M 26) (M 25) h i = -1 := by unfold zmi; rw [sy, ms, if_neg q]
        rw [e1]
        rw [eD] at nx
        rw [show (!false && decide (zia (M 26) i h = 1)) = decide (zia (M 26) i h = 1) from rfl] at nx
        have l4 : zLs (i + 1) (M 26) (M 25) h M3 := by
          obtain ⟨l1, l2⟩ := l3
          have es : ∀ a b, zcn (fun o => zDo (M 26) (M 25) h o && (decide (zAo (M 26) (M 25) h o = a) && decide (zBo (M 26) (M 25) h o = b))) (i + 1) = zcn (fun o => zDo (M 26) (M 25) h o && (decide (zAo (M 26) (M 25) h o = a) && decide (zBo (M 26) (M 25) h o = b))) i := fun a b => by
            show zcn (fun o => zDo (M 26) (M 25) h o && (decide (zAo (M 26) (M 25) h o = a) && decide (zBo (M 26) (M 25) h o = b))) i + (if (zDo (M 26) (M 25) h i && (decide (zAo (M 26) (M 25) h i = a) && decide (zBo (M 26) (M 25) h i = b))) = true then 1 else 0) = _
            rw [eD]; simp
          exact ⟨fun a b a0 a1 b0 b1 => by rw [es]; exact l1 a b a0 a1 b0 b1, fun a a0 a1 => ⟨(l2 a a0 a1).1, fun b b0 b1 => by rw [es]; exact (l2 a a0 a1).2 b b0 b1⟩⟩
        refine ⟨fun _ => s_Town_isAheadAnyway (by omega) (by omega) ?_, fun w => absurd rfl w⟩
        rw [b1]
        have zi : zia (M 26) i h = 0 ∨ zia (M 26) i h = 1 := by unfold zia; (repeat' split) <;> omega
        refine ⟨fun w => ?_, fun w => ?_⟩
        · rw [decide_eq_false (by omega), if_neg (by decide), Int.add_zero] at nx
          exact nx M3 (by omega) f3 l4
        · rw [decide_eq_true (show zia (M 26) i h = 1 by omega), if_pos rfl] at nx
          rw [zw (x := zan i (M 26) (M 25) h + 1) (by omega) (by omega)]
          exact nx M3 (by omega) f3 l4
  refine loop c.toNat 0 M2 (by omega) (zf_ww f12 rfl rfl) ⟨fun a b a0 a1 b0 b1 => ?_, fun a a0 a1 => ?_⟩
  · show M2 145 (8 * a + b) = 0
    rw [zf_c f2 145 rfl]; exact z1 _ (by omega) (by omega)
  · rw [z2 a a0 a1]
    refine ⟨by omega, fun b b0 b1 => ?_⟩
    show zb 0 b = true ↔ (0 : Int) < 0
    rw [zb_0]; simp

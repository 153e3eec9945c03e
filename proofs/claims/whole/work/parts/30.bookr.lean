/-! THE BOOK in the reference -/
def zmi (len nam : Int → Int) (a b : Int) : Int := if zdf len nam a b < zmn len a b then nam (6 * a + zdf len nam a b) else -1
def zth (len nam : Int → Int) (a b : Int) : Int := if zdf len nam a b < zmn len a b then nam (6 * b + zdf len nam a b) else -1
def zia (len : Int → Int) (a b : Int) : Int := if len a = len b then (if a < b then 1 else 0) else (if len a < len b then 1 else 0)
def zUn (M : zM) (c : Int) (len nam : Int → Int) : Prop := ∀ a b, 0 ≤ a → a < c → 0 ≤ b → b < c → M 194 (8 * a + b) = zmi len nam a b ∧ M 195 (8 * a + b) = zth len nam a b ∧ M 196 (8 * a + b) = zia len a b
/-- names within c houses -/
def znm (c : Int) (len nam : Int → Int) : Prop := (0 ≤ c ∧ c ≤ 8) ∧ (∀ h, 0 ≤ h → h < c → 1 ≤ len h ∧ len h ≤ 6) ∧ ∀ h i, 0 ≤ h → h < c → 0 ≤ i → i < len h → 0 ≤ nam (6 * h + i) ∧ nam (6 * h + i) < 8
theorem s_M_letterOf {d q : Nat} {k h i : Int} {M : zM} {F : Int → zM → Prop} (hh : 0 ≤ h ∧ h < 8) (hi : 0 ≤ i ∧ i < 6) (hk : 64 ≤ k) (H : F (M q (16 + (6 * h + i))) M) : zCi (d + 1) 177 [z_r (100, k) q, z_i h, z_i i] M F := by
  refine e_M_letterOf ?_
  rw [zw (x := 6 * h) (by omega) (by omega), zw (x := 16 + 6 * h) (by omega) (by omega), zw (x := 16 + 6 * h + i) (by omega) (by omega)]
  refine ⟨by omega, ?_⟩
  rw [show 16 + 6 * h + i = 16 + (6 * h + i) by omega]
  exact H
theorem s_M_laysUnlike {d q : Nat} {k : Int} {M : zM} {F : zM → Prop} (hk : 64 ≤ k) (hq : q ≠ 194 ∧ q ≠ 195 ∧ q ≠ 196) (hn : znm (M 179 3) (fun h => M q (8 + h)) (fun k => M q (16 + k))) (H : ∀ M', zf [194, 195, 196] [] M M' → zUn M' (M 179 3) (fun h => M q (8 + h)) (fun k => M q (16 + k)) → F M') : zCv (d + 2) 176 [z_r (11, 0) 179, z_r (100, k) q] M F := by
  obtain ⟨hc, hl, hnm⟩ := hn
  refine e_M_laysUnlike (fun P2 P12 P48 P78 P103 P128 h2 h12 h48 h78 h103 h128 => ?_)
  have cq : ∀ M1, zf [194, 195, 196] [] M M1 → M1 q = M q := fun M1 f => by
    funext j
    exact f q j (by simp; omega) (by simp)
  have c3 : ∀ M1, zf [194, 195, 196] [] M M1 → M1 179 3 = M 179 3 := fun M1 f => zf_a f 179 3 rfl
  -- one pair
  have pair : ∀ (a b : Int) (M1 : zM), 0 ≤ a → a < M 179 3 → 0 ≤ b → b < M 179 3 → zf [194, 195, 196] [] M M1 →
      (∀ M', zf [194, 195, 196] [] M M' → M' 194 (8 * a + b) = zmi (fun h => M q (8 + h)) (fun k => M q (16 + k)) a b → M' 195 (8 * a + b) = zth (fun h => M q (8 + h)) (fun k => M q (16 + k)) a b → M' 196 (8 * a + b) = zia (fun h => M q (8 + h)) a b → (∀ x, x ≠ 8 * a + b → M' 194 x = M1 194 x ∧ M' 195 x = M1 195 x ∧ M' 196 x = M1 196 x) → P12 k q a (b + 1) M') → P12 k q a b M1 := by
    intro a b M1 a0 a1 b0 b1 f hnext
    have la := hl a a0 a1
    have lb := hl b b0 b1
    have la : 1 ≤ M q (8 + a) ∧ M q (8 + a) ≤ 6 := la
    have lb : 1 ≤ M q (8 + b) ∧ M q (8 + b) ≤ 6 := lb
    have hmn : zmn (fun h => M q (8 + h)) a b = (if M q (8 + b) < M q (8 + a) then M q (8 + b) else M q (8 + a)) := rfl
    have hm2 : 0 ≤ zmn (fun h => M q (8 + h)) a b ∧ zmn (fun h => M q (8 + h)) a b ≤ 6 ∧ zmn (fun h => M q (8 + h)) a b ≤ M q (8 + a) ∧ zmn (fun h => M q (8 + h)) a b ≤ M q (8 + b) := by rw [hmn]; split <;> omega
    obtain ⟨⟨g1, g2⟩, -⟩ := zdf_s (len := fun h => M q (8 + h)) (nam := fun k => M q (16 + k)) (a := a) (b := b) ⟨by omega, la.2⟩ ⟨by omega, lb.2⟩
    refine h12 _ _ _ _ _ ⟨fun c => absurd c (by rw [c3 M1 f]; omega), fun _ => ?_⟩
    rw [zw (x := 8 + a) (by omega) (by omega), zw (x := 8 + b) (by omega) (by omega), zw (x := 8 * a) (by omega) (by omega), zw (x := 8 * a + b) (by omega) (by omega), cq M1 f, ← hmn]
    refine ⟨by omega, by omega, ?_⟩
    -- the rest behind the while
    have tail : P78 k q a b (8 * a + b) (zmn (fun h => M q (8 + h)) a b) (zdf (fun h => M q (8 + h)) (fun k => M q (16 + k)) a b) M1 := by
      have last : ∀ M3, zf [194, 195, 196] [] M M3 → M3 194 (8 * a + b) = zmi (fun h => M q (8 + h)) (fun k => M q (16 + k)) a b → M3 195 (8 * a + b) = zth (fun h => M q (8 + h)) (fun k => M q (16 + k)) a b → (∀ x, x ≠ 8 * a + b → M3 194 x = M1 194 x ∧ M3 195 x = M1 195 x ∧ M3 196 x = M1 196 x) → P128 k q a b (8 * a + b) (zmn (fun h => M q (8 + h)) a b) (zdf (fun h => M q (8 + h)) (fun k => M q (16 + k)) a b) M3 := by
        intro M3 f3 v1 v2 v3
        have fin : ∀ z : Int, z = zia (fun h => M q (8 + h)) a b → P12 k q a (b + 1) (z_up M3 196 (8 * a + b) z) := by
          intro z hz
          refine hnext _ (zf_us f3 (by decide)) ?_ ?_ ?_ (fun x hx => ?_)
          · rw [zu_c (by decide)]; exact v1
          · rw [zu_c (by decide)]; exact v2
          · rw [zu_s]; exact hz
          · rw [zu_c (by decide), zu_c (by decide), zu_i hx]; exact v3 x hx
        refine h128 _ _ _ _ _ _ _ _ ?_
        rw [zw (x := 8 + a) (by omega) (by omega), zw (x := 8 + b) (by omega) (by omega), cq M3 f3, zw (x := b + 1) (by omega) (by omega)]
        refine ⟨by omega, by omega, fun e => ⟨fun _ => ⟨by omega, by omega, fun e2 => ⟨by omega, fin 0 ?_⟩, fun e2 => ⟨by omega, fin 1 ?_⟩⟩, fun c => absurd rfl c⟩, fun e => ⟨fun c => absurd c (by decide), fun _ => ⟨fun e2 => ⟨by omega, fin 0 ?_⟩, fun e2 => ⟨by omega, fin 1 ?_⟩⟩⟩⟩
        · unfold zia; rw [if_neg e, if_neg (show ¬ M q (8 + a) < M q (8 + b) by omega)]
        · unfold zia; rw [if_neg e, if_pos (show M q (8 + a) < M q (8 + b) by omega)]
        · unfold zia; rw [if_pos (Classical.not_not.mp e), if_neg (by omega)]
        · unfold zia; rw [if_pos (Classical.not_not.mp e), if_pos (by omega)]
      have mid : ∀ M2, zf [194, 195, 196] [] M M2 → M2 194 (8 * a + b) = zmi (fun h => M q (8 + h)) (fun k => M q (16 + k)) a b → (∀ x, x ≠ 8 * a + b → M2 194 x = M1 194 x ∧ M2 195 x = M1 195 x ∧ M2 196 x = M1 196 x) → P103 k q a b (8 * a + b) (zmn (fun h => M q (8 + h)) a b) (zdf (fun h => M q (8 + h)) (fun k => M q (16 + k)) a b) M2 := by
        intro M2 f2 v1 v3
        have fin : ∀ z : Int, z = zth (fun h => M q (8 + h)) (fun k => M q (16 + k)) a b → P128 k q a b (8 * a + b) (zmn (fun h => M q (8 + h)) a b) (zdf (fun h => M q (8 + h)) (fun k => M q (16 + k)) a b) (z_up M2 195 (8 * a + b) z) := by
          intro z hz
          refine last _ (zf_us f2 (by decide)) ?_ ?_ (fun x hx => ?_)
          · rw [zu_c (by decide)]; exact v1
          · rw [zu_s]; exact hz
          · rw [zu_c (by decide), zu_i hx, zu_c (by decide)]; exact v3 x hx
        refine h103 _ _ _ _ _ _ _ _ ⟨fun c => ⟨by omega, fin _ ?_⟩, fun c => s_M_letterOf (by omega) (by omega) hk ⟨by omega, fin _ ?_⟩⟩
        · unfold zth; rw [if_neg (by omega)]
        · unfold zth; rw [if_pos (by omega), cq M2 f2]
      have fin : ∀ z : Int, z = zmi (fun h => M q (8 + h)) (fun k => M q (16 + k)) a b → P103 k q a b (8 * a + b) (zmn (fun h => M q (8 + h)) a b) (zdf (fun h => M q (8 + h)) (fun k => M q (16 + k)) a b) (z_up M1 194 (8 * a + b) z) := by
        intro z hz
        refine mid _ (zf_us f (by decide)) ?_ (fun x hx => ?_)
        · rw [zu_s]; exact hz
        · rw [zu_i hx, zu_c (by decide), zu_c (by decide)]; exact ⟨rfl, rfl, rfl⟩
      refine h78 _ _ _ _ _ _ _ _ ⟨fun c => ⟨by omega, fin _ ?_⟩, fun c => s_M_letterOf (by omega) (by omega) hk ⟨by omega, fin _ ?_⟩⟩
      · unfold zmi; rw [if_neg (by omega)]
      · unfold zmi; rw [if_pos (by omega), cq M1 f]
    -- the while
    have wh : ∀ (fu : Nat) (i : Int), 0 ≤ i → i ≤ zmn (fun h => M q (8 + h)) a b → zmn (fun h => M q (8 + h)) a b ≤ i + fu → P78 k q a b (8 * a + b) (zmn (fun h => M q (8 + h)) a b) (zdiff (fun k => M q (16 + k)) a b (zmn (fun h => M q (8 + h)) a b) fu i) M1 → P48 k q a b (8 * a + b) (zmn (fun h => M q (8 + h)) a b) i M1 := by
      intro fu
      induction fu with
      | zero =>
        intro i i0 i1 i2 hp
        exact h48 _ _ _ _ _ _ _ _ ⟨fun _ => hp, fun c => absurd (by omega) c⟩
      | succ fu ih =>
        intro i i0 i1 i2 hp
        unfold zdiff at hp
        refine h48 _ _ _ _ _ _ _ _ ⟨fun c => ?_, fun c => s_M_letterOf (by omega) (by omega) hk (s_M_letterOf (by omega) (by omega) hk ?_)⟩
        · rw [if_neg (fun z => absurd z.1 (by omega))] at hp
          exact hp
        · rw [cq M1 f]
          refine ⟨fun e => ?_, fun e => ?_⟩
          · rw [if_neg (fun z => e z.2)] at hp
            exact hp
          · rw [if_pos ⟨by omega, Classical.not_not.mp e⟩] at hp
            rw [zw (x := i + 1) (by omega) (by omega)]
            exact ih (i + 1) (by omega) (by omega) (by omega) hp
    exact wh 6 0 (by omega) (by omega) (by omega) tail
  -- the loops
  have inner : ∀ (m : Nat) (a b : Int) (M1 : zM), b + m = M 179 3 → 0 ≤ b → 0 ≤ a → a < M 179 3 → zf [194, 195, 196] [] M M1 → (∀ x y, 0 ≤ x → x < M 179 3 → 0 ≤ y → y < M 179 3 → (x < a ∨ (x = a ∧ y < b)) → M1 194 (8 * x + y) = zmi (fun h => M q (8 + h)) (fun k => M q (16 + k)) x y ∧ M1 195 (8 * x + y) = zth (fun h => M q (8 + h)) (fun k => M q (16 + k)) x y ∧ M1 196 (8 * x + y) = zia (fun h => M q (8 + h)) x y) →
      (∀ M', zf [194, 195, 196] [] M M' → (∀ x y, 0 ≤ x → x < M 179 3 → 0 ≤ y → y < M 179 3 → x < a + 1 → M' 194 (8 * x + y) = zmi (fun h => M q (8 + h)) (fun k => M q (16 + k)) x y ∧ M' 195 (8 * x + y) = zth (fun h => M q (8 + h)) (fun k => M q (16 + k)) x y ∧ M' 196 (8 * x + y) = zia (fun h => M q (8 + h)) x y) → P2 k q (a + 1) M') → P12 k q a b M1 := by
    intro m
    induction m with
    | zero =>
      intro a b M1 hb b0 a0 a1 f g hnext
      refine h12 _ _ _ _ _ ⟨fun _ => ?_, fun c => absurd (by rw [c3 M1 f]; omega) c⟩
      rw [zw (x := a + 1) (by omega) (by omega)]
      exact hnext M1 f (fun x y x0 x1 y0 y1 hx => g x y x0 x1 y0 y1 (by omega))
    | succ m ih =>
      intro a b M1 hb b0 a0 a1 f g hnext
      refine pair a b M1 a0 a1 b0 (by omega) f (fun M' f' v1 v2 v3 v4 => ?_)
      refine ih a (b + 1) M' (by omega) (by omega) a0 a1 f' (fun x y x0 x1 y0 y1 hx => ?_) hnext
      by_cases e : x = a ∧ y = b
      · obtain ⟨rfl, rfl⟩ := e
        exact ⟨v1, v2, v3⟩
      · obtain ⟨w1, w2, w3⟩ := v4 (8 * x + y) (by omega)
        rw [w1, w2, w3]
        exact g x y x0 x1 y0 y1 (by omega)
  have outer : ∀ (m : Nat) (a : Int) (M1 : zM), a + m = M 179 3 → 0 ≤ a → zf [194, 195, 196] [] M M1 → (∀ x y, 0 ≤ x → x < M 179 3 → 0 ≤ y → y < M 179 3 → x < a → M1 194 (8 * x + y) = zmi (fun h => M q (8 + h)) (fun k => M q (16 + k)) x y ∧ M1 195 (8 * x + y) = zth (fun h => M q (8 + h)) (fun k => M q (16 + k)) x y ∧ M1 196 (8 * x + y) = zia (fun h => M q (8 + h)) x y) → P2 k q a M1 := by
    intro m
    induction m with
    | zero =>
      intro a M1 ha a0 f g
      refine h2 _ _ _ _ ⟨fun _ => H M1 f (fun x y x0 x1 y0 y1 => g x y x0 x1 y0 y1 (by omega)), fun c => absurd (by rw [c3 M1 f]; omega) c⟩
    | succ m ih =>
      intro a M1 ha a0 f g
      refine h2 _ _ _ _ ⟨fun c => absurd c (by rw [c3 M1 f]; omega), fun _ => ?_⟩
      exact inner (M 179 3).toNat a 0 M1 (by omega) (by omega) a0 (by omega) f (fun x y x0 x1 y0 y1 hx => g x y x0 x1 y0 y1 (by omega)) (fun M' f' g' => ih (a + 1) M' (by omega) (by omega) f' g')
  exact outer (M 179 3).toNat 0 M (by omega) (by omega) zf_rf (fun x y x0 x1 y0 y1 hx => by omega)
theorem s_M_goesAhead {d : Nat} {a b c : Int} {len nam rk : Int → Int} {M : zM} {F : Int → zM → Prop} (hn : znm c len nam) (hU : zUn M c len nam) (hr : ∀ x, 0 ≤ x → x < 8 → M 197 x = rk x) (ha : 0 ≤ a ∧ a < c) (hb : 0 ≤ b ∧ b < c) (H : F (if zah rk len nam a b = true then 1 else 0) M) : zCi (d + 1) 180 [z_r (11, 0) 179, z_i a, z_i b] M F := by
  obtain ⟨hc, hl, hnm⟩ := hn
  obtain ⟨u1, u2, u3⟩ := hU a b ha.1 ha.2 hb.1 hb.2
  have la := hl a ha.1 ha.2
  have lb := hl b hb.1 hb.2
  obtain ⟨⟨g1, g2⟩, -⟩ := zdf_s (len := len) (nam := nam) (a := a) (b := b) ⟨by omega, la.2⟩ ⟨by omega, lb.2⟩
  have hmn : zmn len a b ≤ len a ∧ zmn len a b ≤ len b := by unfold zmn; split <;> omega
  refine e_M_goesAhead ?_
  rw [zw (x := 8 * a) (by omega) (by omega), zw (x := 8 * a + b) (by omega) (by omega), u1, u2, u3]
  refine ⟨by omega, ?_⟩
  by_cases hc1 : zdf len nam a b < zmn len a b
  · have n1 := hnm a _ ha.1 ha.2 g1 (show zdf len nam a b < len a by omega)
    have n2 := hnm b _ hb.1 hb.2 g1 (show zdf len nam a b < len b by omega)
    have e1 : zmi len nam a b = nam (6 * a + zdf len nam a b) := by unfold zmi; rw [if_pos hc1]
    have e2 : zth len nam a b = nam (6 * b + zdf len nam a b) := by unfold zth; rw [if_pos hc1]
    rw [e1, e2, hr _ n1.1 n1.2, hr _ n2.1 n2.2]
    unfold zah at H
    rw [if_pos hc1] at H
    refine ⟨fun _ => ⟨by omega, n1, by omega, n2, fun q => ?_, fun q => ?_⟩, fun q => absurd n1.1 q⟩
    · rw [if_neg (by simp; omega)] at H; exact H
    · rw [if_pos (by simp; omega)] at H; exact H
  · have e1 : zmi len nam a b = -1 := by unfold zmi; rw [if_neg hc1]
    rw [e1]
    refine ⟨fun q => absurd q (by decide), fun _ => ⟨by omega, ?_⟩⟩
    have ez : (if zah rk len nam a b = true then 1 else 0) = zia len a b := by
      unfold zah zia
      rw [if_neg hc1]
      by_cases h2 : len a = len b
      · simp only [if_pos h2, decide_eq_true_eq]
      · simp only [if_neg h2, decide_eq_true_eq]
    rw [← ez]
    exact ⟨by split; exact Or.inr rfl; exact Or.inl rfl, H⟩
theorem s_M_flag {d : Nat} {b : Bool} {x : Int} {M : zM} {F : Int → zM → Prop} (hx : x = if b = true then 1 else 0) (H : F (if b = true then 1 else 0) M) : zCi (d + 1) 158 [z_i x] M F := by
  subst hx
  cases b
  · exact e_M_flag ⟨fun _ => H, fun q => absurd rfl q⟩
  · exact e_M_flag ⟨fun q => absurd q (by decide), fun _ => H⟩
theorem s_M_laysRanks {d q : Nat} {k : Int} {M : zM} {F : zM → Prop} (hk : 8 ≤ k) (hq : q ≠ 197) (hp : zperm (M q)) (H : ∀ M', zf [197] [] M M' → (∀ x, 0 ≤ x → x < 8 → M' 197 x = zrk (M q) x) → F M') : zCv (d + 1) 178 [z_r (11, 0) 179, z_r (100, k) q] M F := by
  refine e_M_laysRanks (fun P hP => ?_)
  have loop : ∀ (m : Nat) (i : Int) (M1 : zM), i + m = 8 → 0 ≤ i → zf [197] [] M M1 → (∀ j, 0 ≤ j → j < i → M1 197 (M q j) = j) → P k q i M1 := by
    intro m
    induction m with
    | zero =>
      intro i M1 hi i0 f e
      have : i = 8 := by omega
      subst this
      exact hP _ _ _ _ ⟨fun _ => H M1 f (fun x x0 x1 => zrk_u hp e x x0 x1), fun c => absurd (by decide) c⟩
    | succ m ih =>
      intro i M1 hi i0 f e
      have cq : M1 q = M q := by funext j; exact f q j (by simp; exact hq) (by simp)
      refine hP _ _ _ _ ⟨fun c => absurd c (by omega), fun _ => ⟨by omega, ?_⟩⟩
      rw [cq, zw (x := i + 1) (by omega) (by omega)]
      refine ⟨hp.1 i i0 (by omega), ih (i + 1) _ (by omega) (by omega) (zf_us f (by decide)) (fun j j0 j1 => ?_)⟩
      by_cases hx : j = i
      · subst hx; rw [zu_s]
      · have : M q j ≠ M q i := fun e => hx (hp.2 j i j0 (by omega) i0 (by omega) e)
        rw [zu_i this]; exact e j j0 (by omega)
  exact loop 8 0 M (by omega) (by omega) zf_rf (fun j j0 j1 => by omega)
theorem s_M_laysPlaces {d : Nat} {len nam rk : Int → Int} {M : zM} {F : zM → Prop} (hok : zok rk len nam (M 179 3)) (hU : zUn M (M 179 3) len nam) (hr : ∀ x, 0 ≤ x → x < 8 → M 197 x = rk x) (H : ∀ M', zf [198, 199] [] M M' → (∀ h, 0 ≤ h → h < M 179 3 → M' 198 h = zpl (M 179 3) rk len nam h) → zbk (M 179 3) (zpl (M 179 3) rk len nam) (M' 199) → F M') : zCv (d + 2) 179 [z_r (11, 0) 179] M F := by
  have hn : znm (M 179 3) len nam := ⟨hok.1, hok.2.1, fun h i h0 h1 i0 i1 => by have := hok.1; have := hok.2.1 h h0 h1; exact hok.2.2.1 _ (by omega) (by omega)⟩
  have hc := hok.1
  refine e_M_laysPlaces (fun P2 P19 h2 h19 => ?_)
  have c3 : ∀ M1, zf [198, 199] [] M M1 → M1 179 3 = M 179 3 := fun M1 f => zf_a f 179 3 rfl
  have hUf : ∀ M1, zf [198, 199] [] M M1 → zUn M1 (M 179 3) len nam := fun M1 f a b a0 a1 b0 b1 => by
    rw [zf_c f 194 rfl, zf_c f 195 rfl, zf_c f 196 rfl]; exact hU a b a0 a1 b0 b1
  have hrf : ∀ M1, zf [198, 199] [] M M1 → ∀ x, 0 ≤ x → x < 8 → M1 197 x = rk x := fun M1 f x x0 x1 => by rw [zf_c f 197 rfl]; exact hr x x0 x1
  have inner : ∀ (m : Nat) (a : Int) (b : Nat) (M1 : zM), (b : Int) + m = M 179 3 → 0 ≤ a → a < M 179 3 → zf [198, 199] [] M M1 → M1 198 a = zcn (fun b => decide (b ≠ a) && zah rk len nam b a) b → (∀ M', zf [198, 199] [] M M' → M' 198 a = zpl (M 179 3) rk len nam a → (∀ x, x ≠ a → M' 198 x = M1 198 x) → M' 199 = M1 199 → P2 (a + 1) (z_up M' 199 (zpl (M 179 3) rk len nam a) a)) → P19 a (b : Int) M1 := by
    intro m
    induction m with
    | zero =>
      intro a b M1 hb a0 a1 f e hnext
      have ep : M1 198 a = zpl (M 179 3) rk len nam a := by
        rw [e]; unfold zpl; rw [show b = (M 179 3).toNat by omega]
      have hrr := zpl_r hok ⟨a0, a1⟩
      refine h19 _ _ _ ⟨fun _ => ⟨by omega, ?_⟩, fun c => absurd (by rw [c3 M1 f]; omega) c⟩
      rw [ep, zw (x := a + 1) (by omega) (by omega)]
      exact ⟨by omega, hnext M1 f ep (fun x _ => rfl) rfl⟩
    | succ m ih =>
      intro a b M1 hb a0 a1 f e hnext
      have hle := zcn_le (fun b => decide (b ≠ a) && zah rk len nam b a) b
      have go : ∀ z : Int, z = (if (decide ((b : Int) ≠ a) && zah rk len nam (b : Int) a) = true then 1 else 0) → ((0 ≤ a ∧ a < 8) ∧ P19 a (z_wr ((b : Int) + 1)) (z_up M1 198 a (z_wr (M1 198 a + z)))) := by
        intro z hz
        have hz2 : 0 ≤ z ∧ z ≤ 1 := by rw [hz]; split <;> omega
        rw [e, zw (x := (b : Int) + 1) (by omega) (by omega), zw (x := _ + z) (by omega) (by omega)]
        refine ⟨by omega, ?_⟩
        have e1 : (b : Int) + 1 = ((b + 1 : Nat) : Int) := by omega
        rw [e1]
        refine ih a (b + 1) _ (by omega) a0 a1 (zf_us f (by decide)) ?_ (fun M' f' v1 v2 v3 => hnext M' f' v1 (fun x hx => by rw [v2 x hx, zu_i hx]) (by rw [v3, zu_f (by decide)]))
        rw [zu_s, hz]; rfl
      refine h19 _ _ _ ⟨fun c => absurd c (by rw [c3 M1 f]; omega), fun _ => ⟨by omega, fun q => ?_, fun q => ?_⟩⟩
      · exact s_M_flag (b := false) rfl (go 0 (by rw [if_neg (by simp [q])]))
      · refine s_M_goesAhead hn (hUf M1 f) (hrf M1 f) ⟨by omega, by omega⟩ ⟨a0, a1⟩ ?_
        cases hz : zah rk len nam (b : Int) a with
        | true => exact ⟨fun c => absurd c (by decide), fun _ => s_M_flag (b := true) rfl (go 1 (by rw [hz, decide_eq_true q]; rfl))⟩
        | false => exact ⟨fun _ => s_M_flag (b := false) rfl (go 0 (by rw [hz, Bool.and_false]; rfl)), fun c => absurd rfl c⟩
  have outer : ∀ (m : Nat) (a : Int) (M1 : zM), a + m = M 179 3 → 0 ≤ a → zf [198, 199] [] M M1 → (∀ h, 0 ≤ h → h < a → M1 198 h = zpl (M 179 3) rk len nam h) → (∀ h, 0 ≤ h → h < a → M1 199 (zpl (M 179 3) rk len nam h) = h) → P2 a M1 := by
    intro m
    induction m with
    | zero =>
      intro a M1 ha a0 f e1 e2
      have : a = M 179 3 := by omega
      subst this
      exact h2 _ _ ⟨fun _ => H M1 f e1 (zbk_of hok e2), fun c => absurd (by rw [c3 M1 f]; omega) c⟩
    | succ m ih =>
      intro a M1 ha a0 f e1 e2
      refine h2 _ _ ⟨fun c => absurd c (by rw [c3 M1 f]; omega), fun _ => ⟨by omega, ?_⟩⟩
      refine inner (M 179 3).toNat a 0 _ (by omega) a0 (by omega) (zf_us f (by decide)) (by rw [zu_s]; rfl) (fun M' f' v1 v2 v3 => ?_)
      refine ih (a + 1) _ (by omega) (by omega) (zf_us f' (by decide)) (fun h x0 x1 => ?_) (fun h x0 x1 => ?_)
      · rw [zu_c (by decide)]
        by_cases hx : h = a
        · subst hx; exact v1
        · rw [v2 h hx, zu_i hx]; exact e1 h x0 (by omega)
      · by_cases hx : h = a
        · subst hx; rw [zu_s]
        · have : zpl (M 179 3) rk len nam h ≠ zpl (M 179 3) rk len nam a := fun e => hx (zpl_j hok ⟨x0, by omega⟩ ⟨a0, by omega⟩ e)
          rw [zu_i this, v3, zu_f (by decide)]
          exact e2 h x0 (by omega)
  exact outer (M 179 3).toNat 0 M (by omega) (by omega) zf_rf (fun h x0 x1 => by omega) (fun h x0 x1 => by omega)

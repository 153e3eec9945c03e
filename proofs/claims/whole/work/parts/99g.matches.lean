/-! pairs: the reference; matches() -/
theorem s_M_laysClimbs {d : Nat} {c : Int} {ord len nam : Int → Int} {M : zM} {F : zM → Prop} (h3 : M 179 3 = c) (ht : zTn c ord len nam) (hr : zRw M 183 c ord len nam) (H : ∀ M', zf [184, 194, 195, 196, 197, 198, 199, 210] [] M M' → (∀ a b, 0 ≤ a → a < b → b < c → M' 210 (8 * a + b) = zcwb c (zrk ord) len nam a b) → F M') : zCv (d + 6) 229 [z_r (11, 0) 179] M F := by
  have c8 := ht.1
  refine e_M_laysClimbs (fun P2 P14 h2 h14 => ?_)
  have rows : ∀ (m a : Nat) (M1 : zM), (a : Int) + m = c → zf [184, 194, 195, 196, 197, 198, 199, 210] [] M M1 → (∀ x y, 0 ≤ x → x < (a : Int) → x < y → y < c → M1 210 (8 * x + y) = zcwb c (zrk ord) len nam x y) → P2 (a : Int) M1 := by
    intro m
    induction m with
    | zero =>
      intro a M1 ha f1 w1
      have e3 : M1 179 3 = c := by rw [zf_a f1 179 3 rfl]; exact h3
      exact h2 _ _ ⟨fun _ => H M1 f1 (fun x y x0 xy y1 => w1 x y x0 (by omega) xy y1), fun z => absurd (by omega) z⟩
    | succ m ih =>
      intro a M1 ha f1 w1
      have e3 : M1 179 3 = c := by rw [zf_a f1 179 3 rfl]; exact h3
      have nx := ih (a + 1)
      rw [show ((a + 1 : Nat) : Int) = (a : Int) + 1 by omega] at nx
      refine h2 _ _ ⟨fun z => absurd z (by omega), fun _ => ?_⟩
      rw [zw (x := (a : Int) + 1) (by omega) (by omega)]
      have cols : ∀ (k b : Nat) (M2 : zM), (b : Int) + k = c → (a : Int) < b → zf [184, 194, 195, 196, 197, 198, 199, 210] [] M M2 → (∀ x y, 0 ≤ x → x < (a : Int) → x < y → y < c → M2 210 (8 * x + y) = zcwb c (zrk ord) len nam x y) → (∀ y, (a : Int) < y → y < (b : Int) → M2 210 (8 * a + y) = zcwb c (zrk ord) len nam a y) → P14 (a : Int) (b : Int) M2 := by
        intro k
        induction k with
        | zero =>
          intro b M2 hb hab f2 w2 y2
          have e3 : M2 179 3 = c := by rw [zf_a f2 179 3 rfl]; exact h3
          refine h14 _ _ _ ⟨fun _ => ?_, fun z => absurd (by omega) z⟩
          rw [zw (x := (a : Int) + 1) (by omega) (by omega)]
          refine nx M2 (by omega) f2 (fun x y x0 x1 xy y1 => ?_)
          by_cases q : x = a
          · rw [q] at xy ⊢; exact y2 y xy (by omega)
          · exact w2 x y x0 (by omega) xy y1
        | succ k ih2 =>
          intro b M2 hb hab f2 w2 y2
          have e3 : M2 179 3 = c := by rw [zf_a f2 179 3 rfl]; exact h3
          have nx2 := ih2 (b + 1)
          rw [show ((b + 1 : Nat) : Int) = (b : Int) + 1 by omega] at nx2
          refine h14 _ _ _ ⟨fun z => absurd z (by omega), fun _ => s_M_puts (fun M3 f3 p3 => ?_)⟩
          have e33 : M3 179 3 = c := by rw [zf_a f3 179 3 rfl]; exact e3
          have r185 : zRw M3 183 c ord len nam := zRw_f (S := []) (J := []) hr (by rw [zf_c f3 183 rfl, zf_c f2 183 rfl])
          refine s_M_laysBook (ord := ord) (len := len) (nam := nam) (by decide) (by decide) (by rw [e33]; exact ht) (by rw [e33]; exact r185) (fun M4 f4 u4 k4 b4 => ?_)
          rw [e33] at b4
          have e34 : M4 179 3 = c := by rw [zf_a f4 179 3 rfl]; exact e33
          have r186 : zRw M4 184 c ord len nam := by
            obtain ⟨q1, q2, q3⟩ := r185
            have e : ∀ k, 0 ≤ k → k < 81 → M4 184 k = M3 183 k := fun k a b => by rw [zf_c f4 184 rfl, p3 k a b, zf_c f3 183 rfl]
            refine ⟨fun i a b => by rw [e i (by omega) (by omega)]; exact q1 i a b, fun h a b => by rw [e _ (by omega) (by omega)]; exact q2 h a b, fun h i a b x y => ?_⟩
            have := ht.2.2.1 h a b
            rw [e _ (by omega) (by omega)]; exact q3 h i a b x y
          have fAll : zf [184, 194, 195, 196, 197, 198, 199, 210] [] M M4 := zf_ww (zf_tr (zf_tr f2 f3) f4) rfl rfl
          have e212 : M4 210 = M2 210 := by rw [zf_c f4 210 rfl, zf_c f3 210 rfl]
          have go : ∀ M5 v, zf [184, 194, 195, 196, 197, 198, 199] [] M4 M5 → v = zcwb c (zrk ord) len nam a b → P14 (a : Int) ((b : Int) + 1) (z_up M5 210 (8 * a + b) v) := fun M5 v f5 hv => by
            have e5 : M5 210 = M2 210 := by rw [zf_c f5 210 rfl, e212]
            refine nx2 _ (by omega) (by omega) (zf_us (zf_ww (zf_tr fAll f5) rfl rfl) (by decide)) (fun x y x0 x1 xy y1 => ?_) (fun y y0 y1 => ?_)
            · rw [zu_i (by omega), e5]; exact w2 x y x0 x1 xy y1
            · by_cases q : y = b
              · rw [q, zu_s, hv]
              · rw [zu_i (by omega), e5]; exact y2 y y0 (by omega)
          rw [b4.1 a (by omega) (by omega), b4.1 b (by omega) (by omega), zw (x := 8 * (a : Int)) (by omega) (by omega), zw (x := 8 * (a : Int) + b) (by omega) (by omega), zw (x := (b : Int) + 1) (by omega) (by omega)]
          refine ⟨by omega, by omega, fun z => ⟨fun _ => ?_, fun y => absurd rfl y⟩, fun z => ⟨fun y => absurd y (by decide), fun _ => ?_⟩⟩
          · refine s_M_marries (ord := ord) (len := len) (nam := nam) (by decide) (Or.inr rfl) (by rw [e34]; exact ht) (by rw [e34]; exact r186) (fun _ _ _ _ _ M5 f5 _ => ⟨by omega, go M5 _ f5 ?_⟩) (fun y => absurd (show (0 ≤ (b : Int) ∧ (b : Int) < M4 179 3) ∧ (0 ≤ (a : Int) ∧ (a : Int) < M4 179 3) ∧ (b : Int) ≠ a by omega) y)
            rw [e34]; unfold zcwb zcmb; rw [if_pos z]
          · refine s_M_marries (ord := ord) (len := len) (nam := nam) (by decide) (Or.inr rfl) (by rw [e34]; exact ht) (by rw [e34]; exact r186) (fun _ _ _ _ _ M5 f5 _ => ⟨by omega, go M5 _ f5 ?_⟩) (fun y => absurd (show (0 ≤ (a : Int) ∧ (a : Int) < M4 179 3) ∧ (0 ≤ (b : Int) ∧ (b : Int) < M4 179 3) ∧ (a : Int) ≠ b by omega) y)
            rw [e34]; unfold zcwb zcmb; rw [if_neg z]
      have := cols (c - 1 - a).toNat (a + 1) M1 (by omega) (by omega) f1 w1 (fun y y0 y1 => by omega)
      rw [show ((a + 1 : Nat) : Int) = (a : Int) + 1 by omega] at this
      exact this
  exact rows c.toNat 0 M (by omega) zf_rf (fun x y a b => by omega)
/-- the pairs found are the best; nothing better was found -/
def zHd (M M' : zM) (s k : Int) (r : Int × Int × List Int) : Prop := M' 179 52 = s + r.1 ∧ M' 179 53 = k + r.2.1 ∧ (∀ j, 0 ≤ j → j < 2 * k → M' 212 j = M 211 j) ∧ ∀ i : Nat, i < r.2.2.length → M' 212 (2 * k + (i : Int)) = r.2.2.getD i 0
def zSm (M M' : zM) : Prop := M' 179 52 = M 179 52 ∧ M' 179 53 = M 179 53 ∧ M' 212 = M 212
theorem s_M_pairsFrom {w : Int → Int → Int} {c : Int} (hw : ∀ a b, -8 ≤ w a b ∧ w a b ≤ 8) (hc : 0 ≤ c ∧ c ≤ 8) : ∀ (f d : Nat) (a been many sum : Int) (M : zM) (F : zM → Prop), a + (f : Int) = c → 0 ≤ a → (0 ≤ been ∧ been < 256) → zcard been = 2 * many → (-8 * many ≤ sum ∧ sum ≤ 8 * many) → M 179 3 = c → (∀ a b, 0 ≤ a → a < b → b < c → M 210 (8 * a + b) = w a b) → (0 ≤ M 179 53 ∧ M 179 53 ≤ 15) → (-200 ≤ M 179 52 ∧ M 179 52 ≤ 200) → (∀ M', zf [211, 212] [(179, 52), (179, 53)] M M' → (∀ j, 0 ≤ j → j < 2 * many → M' 211 j = M 211 j) → (16 * M 179 52 - M 179 53 < 16 * sum - many + zpv (zpf w c f (fun h => !zb been h)) → zHd M M' sum many (zpf w c f (fun h => !zb been h))) → (¬ 16 * M 179 52 - M 179 53 < 16 * sum - many + zpv (zpf w c f (fun h => !zb been h)) → zSm M M') → F M') → zCv (d + f + 2) 230 [z_r (11, 0) 179, z_i a, z_i been, z_i many, z_i sum] M F := by
  intro f
  induction f with
  | zero =>
    intro d a been many sum M F ha a0 hb hcd hs h3 hcl b53 b52 H
    have cr := zcard_r been
    have v0 : zpv (zpf w c 0 (fun h => !zb been h)) = 0 := rfl
    rw [v0] at H
    refine e_M_pairsFrom (fun P48 P82 h48 h82 => ⟨fun z => absurd z (by omega), fun _ => ?_⟩)
    have copy : 16 * M 179 52 - M 179 53 < 16 * sum - many + 0 → P48 a been many sum 0 (z_up (z_up M 179 52 sum) 179 53 many) := fun z => by
      have loop : ∀ (m j : Nat) (M1 : zM), (j : Int) + m = 2 * many → zf [211, 212] [(179, 52), (179, 53)] M M1 → M1 211 = M 211 → M1 179 52 = sum → M1 179 53 = many → (∀ x, 0 ≤ x → x < (j : Int) → M1 212 x = M 211 x) → P48 a been many sum (j : Int) M1 := by
        intro m
        induction m with
        | zero =>
          intro j M1 hj f1 e1 e2 e3 e4
          refine h48 _ _ _ _ _ _ ⟨fun _ => H M1 f1 (fun j _ _ => by rw [e1]) (fun _ => ⟨?_, ?_, fun x a b => e4 x a (by omega), fun i hi => by cases hi⟩) (fun y => absurd z y), fun y => absurd (by rw [zw (x := 2 * many) (by omega) (by omega)]; omega) y⟩
          · rw [e2]; show sum = sum + 0; omega
          · rw [e3]; show many = many + 0; omega
        | succ m ih =>
          intro j M1 hj f1 e1 e2 e3 e4
          refine h48 _ _ _ _ _ _ ⟨fun y => absurd y (by rw [zw (x := 2 * many) (by omega) (by omega)]; omega), fun _ => ⟨by omega, by omega, ?_⟩⟩
          rw [zw (x := (j : Int) + 1) (by omega) (by omega), e1]
          have := ih (j + 1) (z_up M1 212 j (M 211 j)) (by omega) (zf_us f1 (by decide)) (by rw [← e1]; funext y; rw [zu_c (by decide)]) (by rw [zu_c (by decide)]; exact e2) (by rw [zu_c (by decide)]; exact e3) (fun x a b => ?_)
          · rw [show ((j + 1 : Nat) : Int) = (j : Int) + 1 by omega] at this
            exact this
          · by_cases q : x = j
            · rw [q, zu_s]
            · rw [zu_i q]; exact e4 x a (by omega)
      exact loop (2 * many).toNat 0 _ (by omega) (zf_uj (zf_uj zf_rf (by decide)) (by decide)) (by funext y; rw [zu_c (by decide), zu_c (by decide)]) (by rw [zu_i (by decide), zu_s]) (zu_s _ _ _ _) (fun x a b => by omega)
    have same : ¬ 16 * M 179 52 - M 179 53 < 16 * sum - many + 0 → F M := fun z => H M zf_rf (fun _ _ _ => rfl) (fun y => absurd y z) (fun _ => ⟨rfl, rfl, rfl⟩)
    exact ⟨fun z => copy (by omega), fun z => ⟨fun y => same (by omega), fun y => ⟨fun x => same (by omega), fun x => copy (by omega)⟩⟩⟩
  | succ f ih =>
    intro d a been many sum M F ha a0 hb hcd hs h3 hcl b53 b52 H
    have cr := zcard_r been
    rw [show d + (f + 1) + 2 = (d + f + 2) + 1 by omega]
    have es := zpf_s (w := w) (c := c) (a := a) (f := f) (av := fun h => !zb been h) (by omega)
    have rb := zpf_b (w := w) (c := c) hw f (fun h => !zb been h)
    refine e_M_pairsFrom (fun P48 P82 h48 h82 => ⟨fun _ => ?_, fun z => absurd (by omega) z⟩)
    rw [zw (x := a + 1) (by omega) (by omega)]
    -- without the house
    have skip : ∀ (M1 : zM), zf [211, 212] [(179, 52), (179, 53)] M M1 → (∀ j, 0 ≤ j → j < 2 * many → M1 211 j = M 211 j) → (0 ≤ M1 179 53 ∧ M1 179 53 ≤ 15) → (-200 ≤ M1 179 52 ∧ M1 179 52 ≤ 200) → (∀ M', zf [211, 212] [(179, 52), (179, 53)] M M' → (∀ j, 0 ≤ j → j < 2 * many → M' 211 j = M 211 j) → (16 * M1 179 52 - M1 179 53 < 16 * sum - many + zpv (zpf w c f (fun h => !zb been h)) → zHd M M' sum many (zpf w c f (fun h => !zb been h))) → (¬ 16 * M1 179 52 - M1 179 53 < 16 * sum - many + zpv (zpf w c f (fun h => !zb been h)) → zSm M1 M') → F M') → zCv (d + f + 2) 230 [z_r (11, 0) 179, z_i (z_wr (a + 1)), z_i been, z_i many, z_i sum] M1 (fun M14 => F M14) := by
      intro M1 f1 p1 c1 c2 K
      rw [zw (x := a + 1) (by omega) (by omega)]
      refine ih d (a + 1) been many sum M1 _ (by omega) (by omega) hb hcd hs (by rw [zf_a f1 179 3 rfl]; exact h3) (fun x y x0 xy y1 => by rw [zf_c f1 210 rfl]; exact hcl x y x0 xy y1) c1 c2 (fun M' f' p' k1 k2 => K M' (zf_ww (zf_tr f1 f') rfl rfl) (fun j x y => by rw [p' j x y, p1 j x y]) (fun z => ?_) k2)
      obtain ⟨q1, q2, q3, q4⟩ := k1 z
      exact ⟨q1, q2, fun j x y => by rw [q3 j x y, p1 j x y], q4⟩
    by_cases av : zb been a = true
    · -- the house has been
      have ea : (fun h => !zb been h) a = false := by show (!zb been a) = false; rw [av]; rfl
      rw [es, if_neg (by rw [av]; decide)] at H
      have go : zCv (d + f + 2) 230 [z_r (11, 0) 179, z_i (z_wr (a + 1)), z_i been, z_i many, z_i sum] M (fun M14 => F M14) := skip M zf_rf (fun _ _ _ => rfl) b53 b52 H
      refine h82 _ _ _ _ _ _ ⟨fun _ => go, fun _ => s_M_has (by omega) (by omega) ?_⟩
      rw [if_pos av]
      exact ⟨fun _ => go, fun y => absurd (by decide) y⟩
    · have av' : zb been a = false := by simpa using av
      have ea : (fun h => !zb been h) a = true := by show (!zb been a) = true; rw [av']; rfl
      rw [es, if_pos ea] at H
      have pb := zpv_b (w := w) (c := c) hw (f := f) (by omega) (fun h => !zb been h)
      have loop : ∀ (m n : Nat) (M1 : zM), (n : Int) + m = c → a < n → zf [211, 212] [(179, 52), (179, 53)] M M1 → (∀ j, 0 ≤ j → j < 2 * many → M1 211 j = M 211 j) → (16 * M 179 52 - M 179 53 < 16 * sum - many + zxV (zpp a (fun h => !zb been h)) (zpg w a (fun x => zpv (zpf w c f x)) (fun h => !zb been h)) n → zHd M M1 sum many (zpwr w a (zxX (zpp a (fun h => !zb been h)) (zpg w a (fun x => zpv (zpf w c f x)) (fun h => !zb been h)) n) (zpf w c f (zdl (fun h => !zb been h) (zxX (zpp a (fun h => !zb been h)) (zpg w a (fun x => zpv (zpf w c f x)) (fun h => !zb been h)) n))))) → (¬ 16 * M 179 52 - M 179 53 < 16 * sum - many + zxV (zpp a (fun h => !zb been h)) (zpg w a (fun x => zpv (zpf w c f x)) (fun h => !zb been h)) n → zSm M M1) → P82 a been many sum (n : Int) M1 := by
        intro m
        induction m with
        | zero =>
          intro n M1 hn han f1 p1 k1 k2
          have e3 : M1 179 3 = c := by rw [zf_a f1 179 3 rfl]; exact h3
          have hn : n = c.toNat := by omega
          subst hn
          have vx := zxV_X (p := zpp a (fun h => !zb been h)) (g := zpg w a (fun x => zpv (zpf w c f x)) (fun h => !zb been h)) c.toNat
          refine h82 _ _ _ _ _ _ ⟨fun _ => ?_, fun z => absurd (by omega) z⟩
          generalize zxV (zpp a (fun h => !zb been h)) (zpg w a (fun x => zpv (zpf w c f x)) (fun h => !zb been h)) c.toNat = V at vx H k1 k2
          generalize zxX (zpp a (fun h => !zb been h)) (zpg w a (fun x => zpv (zpf w c f x)) (fun h => !zb been h)) c.toNat = X at vx H k1
          have xb := zpf_b (w := w) (c := c) hw f (zdl (fun h => !zb been h) X)
          have wX := hw a X
          have eX := zpv_w (w := w) (c := c) (a := a) (b := X) (f := f) (av := fun h => !zb been h)
          generalize hr : zpwr w a X (zpf w c f (zdl (fun h => !zb been h) X)) = r at H k1 eX
          have r1 : r.1 = w a X + (zpf w c f (zdl (fun h => !zb been h) X)).1 := by rw [← hr]; rfl
          have r2 : r.2.1 = 1 + (zpf w c f (zdl (fun h => !zb been h) X)).2.1 := by rw [← hr]; rfl
          have er : zpv r = 16 * r.1 - r.2.1 := rfl
          generalize hq : zpf w c f (fun h => !zb been h) = q at H rb pb
          by_cases A : 16 * M 179 52 - M 179 53 < 16 * sum - many + V
          · obtain ⟨g1, g2, g3, g4⟩ := k1 A
            have vV : zpv r = V := by
              rcases vx with e | ⟨_, _, e, _⟩
              · omega
              · rw [eX, e]
            have bnd : -200 ≤ M1 179 52 ∧ M1 179 52 ≤ 200 := by omega
            refine skip M1 f1 p1 (by omega) bnd (fun M' f' p' s1 s2 => ?_)
            rw [hq] at s1 s2
            by_cases B : V < zpv q
            · rw [if_pos B] at H
              exact H M' f' p' (fun _ => s1 (by omega)) (fun y => absurd (by omega) y)
            · rw [if_neg B] at H
              obtain ⟨t1, t2, t3⟩ := s2 (by omega)
              refine H M' f' p' (fun _ => ⟨by rw [t1]; exact g1, by rw [t2]; exact g2, fun j x y => by rw [t3]; exact g3 j x y, fun i hi => by rw [t3]; exact g4 i hi⟩) (fun y => absurd (by omega) y)
          · obtain ⟨g1, g2, g3⟩ := k2 A
            refine skip M1 f1 p1 (by omega) (by omega) (fun M' f' p' s1 s2 => ?_)
            rw [hq] at s1 s2
            rw [g1, g2] at s1 s2
            have sm : ¬ 16 * M 179 52 - M 179 53 < 16 * sum - many + zpv q → zSm M M' := fun y => by
              obtain ⟨t1, t2, t3⟩ := s2 y
              exact ⟨by rw [t1]; exact g1, by rw [t2]; exact g2, by rw [t3]; exact g3⟩
            by_cases B : V < zpv q
            · rw [if_pos B] at H
              exact H M' f' p' s1 sm
            · rw [if_neg B] at H
              have vV : zpv r = V := by
                rcases vx with e | ⟨_, _, e, _⟩
                · omega
                · rw [eX, e]
              exact H M' f' p' (fun y => absurd y (by omega)) (fun _ => sm (by omega))
        | succ m ihm =>
          intro n M1 hn han f1 p1 k1 k2
          have e3 : M1 179 3 = c := by rw [zf_a f1 179 3 rfl]; exact h3
          have nx := ihm (n + 1)
          have ev : zxV (zpp a (fun h => !zb been h)) (zpg w a (fun x => zpv (zpf w c f x)) (fun h => !zb been h)) (n + 1) = if zpp a (fun h => !zb been h) n = true ∧ zxV (zpp a (fun h => !zb been h)) (zpg w a (fun x => zpv (zpf w c f x)) (fun h => !zb been h)) n < zpg w a (fun x => zpv (zpf w c f x)) (fun h => !zb been h) n then zpg w a (fun x => zpv (zpf w c f x)) (fun h => !zb been h) n else zxV (zpp a (fun h => !zb been h)) (zpg w a (fun x => zpv (zpf w c f x)) (fun h => !zb been h)) n := rfl
          have eX : zxX (zpp a (fun h => !zb been h)) (zpg w a (fun x => zpv (zpf w c f x)) (fun h => !zb been h)) (n + 1) = if zpp a (fun h => !zb been h) n = true ∧ zxV (zpp a (fun h => !zb been h)) (zpg w a (fun x => zpv (zpf w c f x)) (fun h => !zb been h)) n < zpg w a (fun x => zpv (zpf w c f x)) (fun h => !zb been h) n then (n : Int) else zxX (zpp a (fun h => !zb been h)) (zpg w a (fun x => zpv (zpf w c f x)) (fun h => !zb been h)) n := rfl
          have epn : zpp a (fun h => !zb been h) n = !zb been n := by unfold zpp; rw [decide_eq_true han, Bool.and_true]
          rw [show ((n + 1 : Nat) : Int) = (n : Int) + 1 by omega, ev, eX, epn] at nx
          refine h82 _ _ _ _ _ _ ⟨fun z => absurd z (by omega), fun _ => s_M_has (by omega) (by omega) ?_⟩
          rw [if_neg av]
          refine ⟨fun y => absurd rfl y, fun _ => s_M_has (by omega) (by omega) ?_⟩
          rw [zw (x := (n : Int) + 1) (by omega) (by omega)]
          by_cases z : zb been (n : Int) = true
          · rw [if_pos z]
            have no : ∀ (x y G V : Int), (if (!zb been (n : Int)) = true ∧ V < G then x else y) = y := fun x y G V => if_neg (fun u => by rw [z] at u; cases u.1)
            rw [no, no] at nx
            exact ⟨fun _ => nx M1 (by omega) (by omega) f1 p1 k1 k2, fun y => absurd (by decide) y⟩
          · rw [if_neg z]
            have z' : zb been (n : Int) = false := by simpa using z
            have hn8 : 0 ≤ (n : Int) ∧ (n : Int) < 8 := by omega
            have ha8 : 0 ≤ a ∧ a < 8 := by omega
            have l1 := zbs_lt hb ha8
            have b1 : zb (zbs been a) n = false := by rw [zb_zbs (by omega) (by omega) (by omega), z', decide_eq_false (show ¬ a = (n : Int) by omega)]; rfl
            have l2 := zbs_lt l1 hn8
            have cc1 := zcard_zbs hb ha8 av'
            have cc2 := zcard_zbs l1 hn8 b1
            have cr2 := zcard_r (zbs (zbs been a) n)
            have vx := zxV_X (p := zpp a (fun h => !zb been h)) (g := zpg w a (fun x => zpv (zpf w c f x)) (fun h => !zb been h)) n
            have rB := zpf_b (w := w) (c := c) hw f (zdl (fun h => !zb been h) (zxX (zpp a (fun h => !zb been h)) (zpg w a (fun x => zpv (zpf w c f x)) (fun h => !zb been h)) n))
            have wX := hw a (zxX (zpp a (fun h => !zb been h)) (zpg w a (fun x => zpv (zpf w c f x)) (fun h => !zb been h)) n)
            have wn := hw a n
            have eV := zpv_w (w := w) (c := c) (a := a) (b := zxX (zpp a (fun h => !zb been h)) (zpg w a (fun x => zpv (zpf w c f x)) (fun h => !zb been h)) n) (f := f) (av := fun h => !zb been h)
            have eN := zpv_w (w := w) (c := c) (a := a) (b := (n : Int)) (f := f) (av := fun h => !zb been h)
            have gN : zpg w a (fun x => zpv (zpf w c f x)) (fun h => !zb been h) n = 16 * w a n - 1 + zpv (zpf w c f (zdl (fun h => !zb been h) n)) := rfl
            have ec : zpf w c f (fun h => !zb (zbs (zbs been a) n) h) = zpf w c f (zdl (fun h => !zb been h) n) := zpf_c f _ _ (fun h x y => by
              show (!zb (zbs (zbs been a) n) h) = _
              rw [zb_zbs (by omega) (by omega) (by omega), zb_zbs (by omega) (by omega) (by omega), decide_eq_false (show ¬ a = h by omega), Bool.or_false]
              unfold zdl
              by_cases q : h = n
              · rw [if_pos q, decide_eq_true q.symm, Bool.or_true]; rfl
              · rw [if_neg q, decide_eq_false (fun e => q e.symm), Bool.or_false])
            generalize zxV (zpp a (fun h => !zb been h)) (zpg w a (fun x => zpv (zpf w c f x)) (fun h => !zb been h)) n = V at vx k1 k2 nx
            generalize zxX (zpp a (fun h => !zb been h)) (zpg w a (fun x => zpv (zpf w c f x)) (fun h => !zb been h)) n = X at vx k1 nx rB wX eV
            generalize hr : zpwr w a X (zpf w c f (zdl (fun h => !zb been h) X)) = r at k1 eV
            have r1 : r.1 = w a X + (zpf w c f (zdl (fun h => !zb been h) X)).1 := by rw [← hr]; rfl
            have r2 : r.2.1 = 1 + (zpf w c f (zdl (fun h => !zb been h) X)).2.1 := by rw [← hr]; rfl
            have er : zpv r = 16 * r.1 - r.2.1 := rfl
            have vA : 16 * M 179 52 - M 179 53 < 16 * sum - many + V → zpv r = V := fun A => by
              rcases vx with e | ⟨_, _, e, _⟩
              · omega
              · rw [eV, e]
            generalize hG : zpg w a (fun x => zpv (zpf w c f x)) (fun h => !zb been h) n = G at nx eN gN
            have m1 : (-200 ≤ M1 179 52 ∧ M1 179 52 ≤ 200) ∧ (0 ≤ M1 179 53 ∧ M1 179 53 ≤ 15) ∧ (16 * M 179 52 - M 179 53 < 16 * sum - many + V → 16 * M1 179 52 - M1 179 53 = 16 * sum - many + V) ∧ (¬ 16 * M 179 52 - M 179 53 < 16 * sum - many + V → 16 * M1 179 52 - M1 179 53 = 16 * M 179 52 - M 179 53) := by
              by_cases A : 16 * M 179 52 - M 179 53 < 16 * sum - many + V
              · obtain ⟨g1, g2, _, _⟩ := k1 A
                have := vA A
                refine ⟨by omega, by omega, fun _ => by omega, fun y => absurd A y⟩
              · obtain ⟨g1, g2, _⟩ := k2 A
                refine ⟨by omega, by omega, fun y => absurd y A, fun _ => by omega⟩
            refine ⟨fun y => absurd rfl y, fun _ => ?_⟩
            rw [zw (x := 2 * many) (by omega) (by omega), zw (x := 2 * many + 1) (by omega) (by omega), zw (x := 8 * a) (by omega) (by omega), zw (x := 8 * a + (n : Int)) (by omega) (by omega), zw (x := a + 1) (by omega) (by omega), zw (x := many + 1) (by omega) (by omega), zu_c (by decide), zu_c (by decide), zf_c f1 210 rfl, hcl a n a0 han (by omega), zw (x := sum + w a n) (by omega) (by omega)]
            refine ⟨by omega, by omega, by omega, ?_⟩
            have f2 : zf [211, 212] [(179, 52), (179, 53)] M (z_up (z_up M1 211 (2 * many) a) 211 (2 * many + 1) n) := zf_us (zf_us f1 (by decide)) (by decide)
            have n52 : (z_up (z_up M1 211 (2 * many) a) 211 (2 * many + 1) n) 179 52 = M1 179 52 := by rw [zu_c (by decide), zu_c (by decide)]
            have n53 : (z_up (z_up M1 211 (2 * many) a) 211 (2 * many + 1) n) 179 53 = M1 179 53 := by rw [zu_c (by decide), zu_c (by decide)]
            have n214 : (z_up (z_up M1 211 (2 * many) a) 211 (2 * many + 1) n) 212 = M1 212 := by funext y; rw [zu_c (by decide), zu_c (by decide)]
            have n213 : ∀ j, 0 ≤ j → j < 2 * many → (z_up (z_up M1 211 (2 * many) a) 211 (2 * many + 1) n) 211 j = M 211 j := fun j x y => by rw [zu_i (by omega), zu_i (by omega)]; exact p1 j x y
            have na : (z_up (z_up M1 211 (2 * many) a) 211 (2 * many + 1) n) 211 (2 * many) = a := by rw [zu_i (by omega), zu_s]
            have nb : (z_up (z_up M1 211 (2 * many) a) 211 (2 * many + 1) n) 211 (2 * many + 1) = n := zu_s _ _ _ _
            generalize z_up (z_up M1 211 (2 * many) a) 211 (2 * many + 1) n = M2 at f2 n52 n53 n214 n213 na nb
            show zCv (d + f + 2) 230 [z_r (11, 0) 179, z_i (a + 1), z_i (zbs (zbs been a) n), z_i (many + 1), z_i (sum + w a n)] M2 (fun M22 => P82 a been many sum ((n : Int) + 1) M22)
            refine ih d (a + 1) (zbs (zbs been a) n) (many + 1) (sum + w a n) M2 _ (by omega) (by omega) l2 (by omega) (by omega) (by rw [zf_a f2 179 3 rfl]; exact h3) (fun x y x0 xy y1 => by rw [zf_c f2 210 rfl]; exact hcl x y x0 xy y1) (by omega) (by omega) (fun M3 f3 p3 s1 s2 => ?_)
            rw [ec, n52, n53] at s1 s2
            have s1' : 16 * M1 179 52 - M1 179 53 < 16 * sum - many + G → zHd M M3 sum many (zpwr w a n (zpf w c f (zdl (fun h => !zb been h) n))) := fun y => by
              obtain ⟨q1, q2, q3, q4⟩ := s1 (by omega)
              refine ⟨?_, ?_, fun j x y => ?_, fun i hi => ?_⟩
              · rw [q1]; show sum + w a n + _ = sum + (w a n + _); omega
              · rw [q2]; show many + 1 + _ = many + (1 + _); omega
              · rw [q3 j x (by omega), n213 j x y]
              · cases i with
                | zero =>
                  rw [show 2 * many + ((0 : Nat) : Int) = 2 * many by omega, q3 _ (by omega) (by omega), na]; rfl
                | succ i =>
                  cases i with
                  | zero =>
                    rw [show 2 * many + ((0 + 1 : Nat) : Int) = 2 * many + 1 by omega, q3 _ (by omega) (by omega), nb]; rfl
                  | succ i =>
                    have := q4 i (by
                      have hi : i + 1 + 1 < (a :: (n : Int) :: (zpf w c f (zdl (fun h => !zb been h) n)).2.2).length := hi
                      rw [List.length_cons, List.length_cons] at hi
                      omega)
                    rw [show 2 * (many + 1) + (i : Int) = 2 * many + ((i + 1 + 1 : Nat) : Int) by omega] at this
                    rw [this]; rfl
            have s2' : ¬ 16 * M1 179 52 - M1 179 53 < 16 * sum - many + G → zSm M1 M3 := fun y => by
              obtain ⟨q1, q2, q3⟩ := s2 (by omega)
              exact ⟨by rw [q1]; exact n52, by rw [q2]; exact n53, by rw [q3]; exact n214⟩
            have f13 : zf [211, 212] [(179, 52), (179, 53)] M M3 := zf_ww (zf_tr f2 f3) rfl rfl
            have p13 : ∀ j, 0 ≤ j → j < 2 * many → M3 211 j = M 211 j := fun j x y => by rw [p3 j x (by omega), n213 j x y]
            obtain ⟨_, _, mA, mB⟩ := m1
            by_cases B : V < G
            · have yes : (!zb been (n : Int)) = true ∧ V < G := ⟨by rw [z']; rfl, B⟩
              rw [if_pos yes, if_pos yes] at nx
              refine nx M3 (by omega) (by omega) f13 p13 (fun y => s1' ?_) (fun y => ?_)
              · by_cases A : 16 * M 179 52 - M 179 53 < 16 * sum - many + V
                · have := mA A; omega
                · have := mB A; omega
              · have A : ¬ 16 * M 179 52 - M 179 53 < 16 * sum - many + V := by omega
                have := mB A
                obtain ⟨q1, q2, q3⟩ := s2' (by omega)
                obtain ⟨t1, t2, t3⟩ := k2 A
                exact ⟨by rw [q1, t1], by rw [q2, t2], by rw [q3, t3]⟩
            · have noo : ¬ ((!zb been (n : Int)) = true ∧ V < G) := fun u => B u.2
              rw [if_neg noo, if_neg noo, hr] at nx
              refine nx M3 (by omega) (by omega) f13 p13 (fun A => ?_) (fun A => ?_)
              · have := mA A
                obtain ⟨q1, q2, q3⟩ := s2' (by omega)
                obtain ⟨t1, t2, t3, t4⟩ := k1 A
                exact ⟨by rw [q1]; exact t1, by rw [q2]; exact t2, fun j x y => by rw [q3]; exact t3 j x y, fun i hi => by rw [q3]; exact t4 i hi⟩
              · have := mB A
                obtain ⟨q1, q2, q3⟩ := s2' (by omega)
                obtain ⟨t1, t2, t3⟩ := k2 A
                exact ⟨by rw [q1, t1], by rw [q2, t2], by rw [q3, t3]⟩
      have start := loop (c - 1 - a).toNat (a.toNat + 1) M (by omega) (by omega) zf_rf (fun _ _ _ => rfl) (fun y => by
        rw [zxV_n (a.toNat + 1) (fun j u v => by unfold zpp; rw [decide_eq_false (show ¬ a < j by omega), Bool.and_false])] at y
        omega) (fun _ => ⟨rfl, rfl, rfl⟩)
      rw [show ((a.toNat + 1 : Nat) : Int) = a + 1 by omega] at start
      exact start
theorem zJ_161 {n : Int} {S : List Nat} {J : List (Nat × Int)} {M M' : zM} (hj : zJ n M) (f : zf S J M M') (hd : zJS (S.filter (fun c => !(Nat.beq c 159))) J = true) (h0 : M' 159 0 = 0) : zJ n M' := by
  have fN : zf (S.filter (fun c => !(Nat.beq c 159))) J M (fun c j => if c = 159 then M 159 j else M' c j) := fun c j hc hq => by
    show (if c = 159 then M 159 j else M' c j) = M c j
    by_cases q : c = 159
    · rw [if_pos q, q]
    · rw [if_neg q]
      refine f c j (fun y => hc (List.mem_filter.mpr ⟨y, ?_⟩)) hq
      cases e : Nat.beq c 159
      · rfl
      · exact absurd (Nat.eq_of_beq_eq_true e) q
  have k := zJ_f hj fN hd
  have e : ∀ c, c ≠ 159 → (fun j => if c = 159 then M 159 j else M' c j) = M' c := fun c hc => by funext j; rw [if_neg hc]
  have eN : ∀ c, c ≠ 159 → (fun (c : Nat) (j : Int) => if c = 159 then M 159 j else M' c j) c = M' c := e
  generalize (fun (c : Nat) (j : Int) => if c = 159 then M 159 j else M' c j) = N at k eN
  obtain ⟨k1, k2, k3, k4, k5, k6, k7, k8⟩ := k
  rw [eN 179 (by decide)] at k1 k2 k5 k6
  refine ⟨?_, ?_, ?_, ?_, ?_, ?_, ?_, h0, by have := k8.2; rw [eN 154 (by decide)] at this; exact this⟩
  · exact tR_c k1 (by rw [eN 23 (by decide)]) (by rw [eN 23 (by decide)]) (eN _ (by decide)).symm (eN _ (by decide)).symm (eN _ (by decide)).symm (eN _ (by decide)).symm (eN _ (by decide)).symm (eN _ (by decide)).symm
  · rw [eN 46 (by decide), eN 182 (by decide)] at k2; exact k2
  · rw [eN 45 (by decide), eN 47 (by decide), eN 179 (by decide), eN 181 (by decide)] at k3; exact k3
  · rw [eN 5 (by decide), eN 6 (by decide), eN 179 (by decide), eN 190 (by decide)] at k4; exact k4
  · unfold iP at k5 ⊢
    rw [eN 49 (by decide), eN 179 (by decide)] at k5
    refine ⟨k5.1, k5.2.1, k5.2.2.1, fun j h0 h1 => ?_⟩
    have hb : (zrg (M' 49 1) (M' 49 2) j).toNat < 15 := by
      have := k5.2.1; have := k5.2.2.1
      unfold zrg; split <;> omega
    have hC : ∀ k, k < 6 → M' (51 + 6 * (zrg (M' 49 1) (M' 49 2) j).toNat + k) = N (51 + 6 * (zrg (M' 49 1) (M' 49 2) j).toNat + k) := fun k hk => (eN _ (by omega)).symm
    exact tR_c (k5.2.2.2 j h0 h1) (congrFun (hC 0 (by omega)) 5) (congrFun (hC 0 (by omega)) 6) (hC 1 (by omega)) (hC 2 (by omega)) (hC 3 (by omega)) (hC 4 (by omega)) (hC 5 (by omega)) (eN 201 (by decide)).symm
  · unfold iK at k6 ⊢
    rw [eN 0 (by decide), eN 179 (by decide), eN 219 (by decide), eN 220 (by decide)] at k6
    refine ⟨k6.1, k6.2.1, k6.2.2.1, fun j h0 h1 hz => ?_⟩
    have hC : ∀ k, k < 6 → M' (161 + 6 * j.toNat + k) = N (161 + 6 * j.toNat + k) := fun k hk => (eN _ (by omega)).symm
    exact tR_c (k6.2.2.2 j h0 h1 hz) (congrFun (hC 0 (by omega)) 5) (congrFun (hC 0 (by omega)) 6) (hC 1 (by omega)) (hC 2 (by omega)) (hC 3 (by omega)) (hC 4 (by omega)) (hC 5 (by omega)) (eN 221 (by decide)).symm
  · rw [eN 179 (by decide), eN 0 (by decide), eN 142 (by decide), eN 143 (by decide), eN 216 (by decide), eN 217 (by decide)] at k7; exact k7
theorem p_matches {d : Nat} {n : Int} {M : zM} (hI : zI n M) (hn : n < 512) : zQ (d + 12) 103 228 [z_r (10, 0) 0] [z_r (11, 0) 179] n M := by
  have hI0 := hI
  obtain ⟨hb, hT, hR, hJ⟩ := hI
  obtain ⟨i1, i2, i3, i4, i5, i6, i7, i8⟩ := zJ_in hJ
  obtain ⟨c1, c2, c3⟩ := zJ_count hJ
  have w0 : M 159 0 = 0 := hJ.2.2.2.2.2.2.2.1
  have hw := zcwb_b (rk := zrk (M 24)) (len := M 26) (nam := M 25) (c := M 179 3) ⟨c2, c3⟩
  unfold zQ
  refine e_W_matches (s_Book_write (by decide) (by decide) (by decide) (by rw [c1]; exact i4.1) i4.2.1 (by rw [c1]; exact i4.2.2.1) i4.2.2.2 (fun M1 f1 B1 => ?_))
  have B1 : zBk M1 35 (M 23 5) (zrk (M 24)) (M 26) (M 25) := B1
  rw [c1] at B1
  refine s_Matching_weigh i4 B1 (by rw [zf_c f1 159 rfl]; exact w0) (fun M2 f2 W2 T2 => ?_)
  have f12 := zf_tr f1 f2
  have e5 : M2 23 5 = M 179 3 := by rw [zf_a f12 23 5 rfl]; exact c1
  rw [e5]
  have v0 : M2 159 0 = 0 := by
    have pos : 1 ≤ (2 ^ (M 179 3).toNat : Nat) := Nat.one_le_two_pow
    rw [T2 0 (by omega) (by omega)]
    unfold zVs
    have := zpf_sk (w := zcwb (M 179 3) (zrk (M 24)) (M 26) (M 25)) (c := M 179 3) (M 179 3).toNat 0 (zb 0) (fun h _ _ => zb_0 h)
    rw [Nat.zero_add] at this
    rw [this]; rfl
  refine s_Matching_tellPairs hw ⟨c2, c3⟩ W2 T2 (fun M3 f3 r1 r8 r2 => ?_)
  have f13 := zf_tr f12 f3
  have f14 : zf ([35 + 1, 35 + 2, 35 + 3, 35 + 4] ++ [158, 159] ++ [4]) ([(35, 4)] ++ [] ++ [(3, 1)] ++ [(179, 0)]) M (z_up M3 179 0 0) := zf_uj (zf_ww f13 rfl rfl) (by decide)
  have e0 : zpf (zcwb (M 179 3) (zrk (M 24)) (M 26) (M 25)) (M 179 3) (M 179 3).toNat (fun _ => true) = zpf (zcwb (M 179 3) (zrk (M 24)) (M 26) (M 25)) (M 179 3) (M 179 3).toNat (fun h => !zb 0 h) := zpf_c _ _ _ (fun h _ _ => by rw [zb_0]; rfl)
  rw [e0] at r1 r2 ⊢
  have rb := zpf_b (c := M 179 3) hw (M 179 3).toNat (fun h => !zb 0 h)
  generalize hL : zpf (zcwb (M 179 3) (zrk (M 24)) (M 26) (M 25)) (M 179 3) (M 179 3).toNat (fun h => !zb 0 h) = L at r1 r2 rb
  refine e_M_matches (fun P34 h34 => s_M_laysClimbs (c := M 179 3) (zf_a f14 179 3 rfl) i4 (zRw_f (S := []) (J := []) i5 (zf_c f14 183 rfl)) (fun M4 f4 k4 => ?_))
  have f5 : zf [] [(179, 52), (179, 53)] M4 (z_up (z_up M4 179 52 (-1)) 179 53 0) := zf_uj (zf_uj zf_rf (by decide)) (by decide)
  have x52 : (z_up (z_up M4 179 52 (-1)) 179 53 0) 179 52 = -1 := by rw [zu_i (by decide), zu_s]
  have x53 : (z_up (z_up M4 179 52 (-1)) 179 53 0) 179 53 = 0 := zu_s _ _ _ _
  generalize z_up (z_up M4 179 52 (-1)) 179 53 0 = M5 at f5 x52 x53
  have pf := s_M_pairsFrom hw ⟨c2, c3⟩ (M 179 3).toNat (d + 9 - (M 179 3).toNat) 0 0 0 0 M5
  rw [show d + 9 - (M 179 3).toNat + (M 179 3).toNat + 2 = d + 11 by omega, hL] at pf
  refine pf _ (by omega) (by omega) (by omega) (by decide) (by omega) (by rw [zf_a f5 179 3 rfl, zf_a f4 179 3 rfl, zf_a f14 179 3 rfl]) (fun a b a0 ab b1 => by rw [zf_c f5 210 rfl]; exact k4 a b a0 ab b1) (by omega) (by omega) (fun M6 f6 p6 s1 s2 => ?_)
  have sk : ∀ f : Nat, f ≤ 8 → ∀ av : Int → Bool, 0 ≤ zpv (zpf (zcwb (M 179 3) (zrk (M 24)) (M 26) (M 25)) (M 179 3) f av) := by
    intro f
    induction f with
    | zero => intro _ av; exact Int.le_refl _
    | succ f ih =>
      intro hf av
      have := ih (by omega) av
      by_cases q : av (M 179 3 - 1 - (f : Int)) = true
      · rw [zpf_v hw (by omega) rfl q]
        split <;> omega
      · rw [zpf_s rfl, if_neg q]; exact this
  have vL : 0 ≤ zpv L := by rw [← hL]; exact sk _ (by omega) _
  obtain ⟨q1, q2, q3, q4⟩ := s1 (by rw [x52, x53]; omega)
  rw [Int.zero_add] at q1 q2
  have fAll := zf_tr (zf_tr (zf_tr f14 f4) f5) f6
  have loop : ∀ (m k : Nat) (M7 : zM), k + m = L.2.2.length → zf [180] [(179, 1)] M6 M7 → M7 179 1 = k → (∀ j : Nat, j < k → M7 180 (j : Int) = L.2.2.getD j 0) → P34 (k : Int) M7 := by
    intro m
    induction m with
    | zero =>
      intro k M7 hk f7 e1 e2
      have g53 : M7 179 53 = L.2.1 := by rw [zf_a f7 179 53 rfl]; exact q2
      have g52 : M7 179 52 = L.1 := by rw [zf_a f7 179 52 rfl]; exact q1
      refine h34 _ _ ⟨fun _ => ?_, fun z => absurd (by rw [g53, zw (x := 2 * L.2.1) (by omega) (by omega)]; omega) z⟩
      rw [g52]
      refine ⟨rfl, ?_⟩
      have r3 : M3 3 1 = ((L.2.2.length : Nat) : Int) := r1
      have f17 := zf_tr fAll f7
      have g31 : M7 3 1 = L.2.2.length := by
        rw [zf_a f7 3 1 rfl, zf_a f6 3 1 rfl, zf_a f5 3 1 rfl, zf_a f4 3 1 rfl, zu_c (by decide)]; exact r1
      have g161 : M7 159 0 = 0 := by
        rw [zf_c f7 159 rfl, zf_c f6 159 rfl, zf_c f5 159 rfl, zf_c f4 159 rfl, zu_c (by decide), zf_c f3 159 rfl]; exact v0
      refine ⟨by have := hI0.1; omega, iT_f hT f17 rfl, ⟨by rw [g31, e1]; omega, by omega, by omega, fun i a b => ?_⟩, zJ_n (zJ_161 hJ f17 rfl g161) (by omega)⟩
      have := r2 i.toNat (by omega)
      rw [show ((i.toNat : Nat) : Int) = i by omega] at this
      have g182 := e2 i.toNat (by omega)
      rw [show ((i.toNat : Nat) : Int) = i by omega] at g182
      rw [g182, ← this, zf_c f7 4 rfl, zf_c f6 4 rfl, zf_c f5 4 rfl, zf_c f4 4 rfl, zu_c (by decide)]
    | succ m ih =>
      intro k M7 hk f7 e1 e2
      have g53 : M7 179 53 = L.2.1 := by rw [zf_a f7 179 53 rfl]; exact q2
      refine h34 _ _ ⟨fun z => absurd z (by rw [g53, zw (x := 2 * L.2.1) (by omega) (by omega)]; omega), fun _ => ⟨by omega, s_M_enters (by omega) ?_⟩⟩
      rw [zw (x := (k : Int) + 1) (by omega) (by omega), e1]
      have g214 : M7 212 (k : Int) = L.2.2.getD k 0 := by
        rw [zf_c f7 212 rfl]
        have := q4 k (by omega)
        rw [show 2 * (0 : Int) + (k : Int) = k by omega] at this
        exact this
      have := ih (k + 1) (z_up (z_up M7 180 k (M7 212 k)) 179 1 ((k : Int) + 1)) (by omega) (zf_uj (zf_us f7 (by decide)) (by decide)) (by rw [zu_s]; omega) (fun j hj => ?_)
      · rw [show ((k + 1 : Nat) : Int) = (k : Int) + 1 by omega] at this
        exact this
      · rw [zu_c (by decide)]
        by_cases q : j = k
        · rw [q, zu_s, g214]
        · rw [zu_i (by omega)]; exact e2 j (by omega)
  exact loop L.2.2.length 0 _ (by omega) (zf_uj zf_rf (by decide)) (zu_s _ _ _ _) (fun j hj => by omega)

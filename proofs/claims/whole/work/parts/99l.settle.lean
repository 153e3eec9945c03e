/-! the order that leaves the fewest dry: a letter set; the least order that begins so -/
theorem zLw_c {c h A : Int} {R R' : Int → Int → Prop} (H : zLw c R A h) (e : ∀ o, 0 ≤ o → o < c → (R o h ↔ R' o h)) : zLw c R' A h := ⟨H.1, fun o o0 => by
  rw [H.2 o o0]
  constructor
  · rintro ⟨a, b⟩; exact ⟨a, (e o o0 a).mp b⟩
  · rintro ⟨a, b⟩; exact ⟨a, (e o o0 a).mpr b⟩⟩
theorem zLw_s {c h A x : Int} {R R' : Int → Int → Prop} (hc : c ≤ 8) (H : zLw c R A h) (hx : 0 ≤ x ∧ x < c) (e : ∀ o, 0 ≤ o → o < c → (R' o h ↔ (R o h ∨ o = x))) : zLw c R' (zbs A x) h := ⟨zbs_lt H.1 (by omega), fun o o0 => by
  rw [zb_zbs (by have := H.1; omega) (by omega) o0, Bool.or_eq_true, decide_eq_true_iff, H.2 o o0]
  constructor
  · rintro (⟨a, b⟩ | a)
    · exact ⟨a, (e o o0 a).mpr (Or.inl b)⟩
    · exact ⟨by omega, (e o o0 (by omega)).mpr (Or.inr a.symm)⟩
  · rintro ⟨a, b⟩
    rcases (e o o0 a).mp b with z | z
    · exact Or.inl ⟨a, z⟩
    · exact Or.inr z.symm⟩
theorem s_Thrift_settle {d : Nat} {c w tb n s l : Int} {th len nam bt p : Int → Int} {M : zM} {F : zM → Prop} (hnm : znm c len nam) (hT : zTf c w tb th len nam bt M) (hn : 0 ≤ n ∧ n < 8) (hl : 0 ≤ l ∧ l < 8) (hp : zPx n p s) (hL : zLv c len nam p n M)
    (H : ∀ M', zf [156, 157] [] M M' → (∀ i, i < n * 8 + 8 → M' 156 i = M 156 i ∧ M' 157 i = M 157 i) → zLv c len nam (zPn p n l) (n + 1) M' → F M') : zCv (d + 2) 90 [z_r (8, 0) 151, z_i n, z_i s, z_i l] M F := by
  have hc := hnm.1
  obtain ⟨t1, t2, t3, t4, t5, t6⟩ := hT
  have x1 : z_wr (n * 8) = n * 8 := zw (by omega) (by omega)
  have x2 : z_wr (z_wr (n * 8) + 8) = n * 8 + 8 := by rw [x1, zw (by omega) (by omega)]
  refine e_Thrift_settle (fun P Q hP hQ => ?_)
  rw [x2, x1]
  refine ⟨by omega, by omega, ?_⟩
  generalize hM1 : z_cp (z_cp M 156 (n * 8) 156 (n * 8 + 8) 8) 157 (n * 8) 157 (n * 8 + 8) 8 = M1
  have f1 : zf [156, 157] [] M M1 := by rw [← hM1]; exact zf_cp (zf_cp zf_rf (by decide)) (by decide)
  have l1 : ∀ i, i < n * 8 + 8 → M1 156 i = M 156 i ∧ M1 157 i = M 157 i := fun i hi => by
    rw [← hM1, zc_c (by decide), zc_out (Or.inl hi), zc_out (Or.inl hi), zc_c (by decide)]; exact ⟨rfl, rfl⟩
  have u1 : ∀ h, 0 ≤ h → h < 8 → M1 156 (n * 8 + 8 + h) = M 156 (n * 8 + h) ∧ M1 157 (n * 8 + 8 + h) = M 157 (n * 8 + h) := fun h a b => by
    rw [← hM1, zc_c (by decide), zc_in (by omega) (by omega), zc_in (by omega) (by omega), zc_c (by decide), show n * 8 + (n * 8 + 8 + h - (n * 8 + 8)) = n * 8 + h by omega]; exact ⟨rfl, rfl⟩
  have cond : ∀ a b, 0 ≤ a → a < c → 0 ≤ b → b < c → ((a ≠ b ∧ zmi len nam a b ≠ -1 ∧ l = zmi len nam a b ∧ ∀ j, 0 ≤ j → j < n → p j ≠ zmi len nam b a) ↔ (zmi len nam a b = l ∧ zmi len nam b a ≠ -1 ∧ zb s (zmi len nam b a) = false)) := fun a b a0 a1 b0 b1 => by
    constructor
    · rintro ⟨z1, z2, z3, z4⟩
      rcases zmi_f hnm ⟨a0, a1⟩ ⟨b0, b1⟩ (fun x => x) with ⟨e1, e2, e3⟩ | ⟨e1, e2, e3, e4⟩
      · exact absurd e1 z2
      · refine ⟨z3.symm, by omega, ?_⟩
        cases y : zb s (zmi len nam b a)
        · rfl
        · obtain ⟨j, hj, ej⟩ := (hp.2.2.2 _ e2.1).mp y
          exact absurd ej (z4 j hj.1 hj.2)
    · rintro ⟨z1, z2, z3⟩
      rcases zmi_f hnm ⟨a0, a1⟩ ⟨b0, b1⟩ (fun x => x) with ⟨e1, e2, e3⟩ | ⟨e1, e2, e3, e4⟩
      · exact absurd e2 z2
      · refine ⟨fun e => e3 (by rw [e]), by omega, z1.symm, fun j a' b' ej => ?_⟩
        have := (hp.2.2.2 _ e2.1).mpr ⟨j, ⟨a', b'⟩, ej⟩
        rw [z3] at this; cases this
  generalize hK : (fun a b => zmi len nam a b = l ∧ zmi len nam b a ≠ -1 ∧ zb s (zmi len nam b a) = false) = K
  have eK : ∀ a b, K a b ↔ (zmi len nam a b = l ∧ zmi len nam b a ≠ -1 ∧ zb s (zmi len nam b a) = false) := fun a b => by rw [← hK]
  generalize hR : (fun (a b x y : Int) => zEA len nam p n x y ∨ ((x < a ∨ (x = a ∧ y < b)) ∧ K x y)) = R
  have eR : ∀ a b x y, R a b x y ↔ (zEA len nam p n x y ∨ ((x < a ∨ (x = a ∧ y < b)) ∧ K x y)) := fun a b x y => by rw [← hR]
  have fr : ∀ M2 M3, (zf [156, 157] [] M M2 ∧ ∀ i, i < n * 8 + 8 → M2 156 i = M 156 i ∧ M2 157 i = M 157 i) → M3 = M2 → (zf [156, 157] [] M M3 ∧ ∀ i, i < n * 8 + 8 → M3 156 i = M 156 i ∧ M3 157 i = M 157 i) := fun M2 M3 h e => by rw [e]; exact h
  have outer : ∀ (m a : Nat) (M2 : zM), (a : Int) + m = c → (zf [156, 157] [] M M2 ∧ ∀ i, i < n * 8 + 8 → M2 156 i = M 156 i ∧ M2 157 i = M 157 i) → (∀ h, 0 ≤ h → h < c → zLw c (fun o h => R a 0 o h) (M2 156 (n * 8 + 8 + h)) h ∧ zLw c (fun o h => R a 0 h o) (M2 157 (n * 8 + 8 + h)) h) → P n s l (n * 8) (n * 8 + 8) (a : Int) M2 := by
    intro m
    induction m with
    | zero =>
      intro a M2 ha f2 g2
      refine hP _ _ _ _ _ _ _ ⟨fun _ => H M2 f2.1 f2.2 (fun h h0 h1 => ?_), fun z => absurd (by rw [zf_a f2.1 151 8 rfl]; omega) z⟩
      obtain ⟨y1, y2⟩ := g2 h h0 h1
      rw [show (n + 1) * 8 + h = n * 8 + 8 + h by omega]
      refine ⟨zLw_c y1 (fun o o0 o1 => ?_), zLw_c y2 (fun o o0 o1 => ?_)⟩
      · rw [eR, zEA_s hn.1, cond o h o0 o1 h0 h1, ← eK]
        constructor
        · rintro (z | z)
          · exact Or.inl z
          · exact Or.inr z.2
        · rintro (z | z)
          · exact Or.inl z
          · exact Or.inr ⟨Or.inl (by omega), z⟩
      · rw [eR, zEA_s hn.1, cond h o h0 h1 o0 o1, ← eK]
        constructor
        · rintro (z | z)
          · exact Or.inl z
          · exact Or.inr z.2
        · rintro (z | z)
          · exact Or.inl z
          · exact Or.inr ⟨Or.inl (by omega), z⟩
    | succ m ih =>
      intro a M2 ha f2 g2
      refine hP _ _ _ _ _ _ _ ⟨fun z => absurd z (by rw [zf_a f2.1 151 8 rfl]; omega), fun _ => ?_⟩
      have inner : ∀ (m' b : Nat) (M3 : zM), (b : Int) + m' = c → (zf [156, 157] [] M M3 ∧ ∀ i, i < n * 8 + 8 → M3 156 i = M 156 i ∧ M3 157 i = M 157 i) → (∀ h, 0 ≤ h → h < c → zLw c (fun o h => R a b o h) (M3 156 (n * 8 + 8 + h)) h ∧ zLw c (fun o h => R a b h o) (M3 157 (n * 8 + 8 + h)) h) → Q n s l (n * 8) (n * 8 + 8) (a : Int) (b : Int) M3 := by
        intro m'
        induction m' with
        | zero =>
          intro b M3 hb f3 g3
          refine hQ _ _ _ _ _ _ _ _ ⟨fun _ => ?_, fun z => absurd (by rw [zf_a f3.1 151 8 rfl]; omega) z⟩
          rw [zw (x := (a : Int) + 1) (by omega) (by omega)]
          have nx := ih (a + 1) M3 (by omega) f3 (fun h h0 h1 => ?_)
          · rw [show ((a + 1 : Nat) : Int) = (a : Int) + 1 by omega] at nx; exact nx
          · obtain ⟨y1, y2⟩ := g3 h h0 h1
            rw [show ((a + 1 : Nat) : Int) = (a : Int) + 1 by omega]
            refine ⟨zLw_c y1 (fun o o0 o1 => ?_), zLw_c y2 (fun o o0 o1 => ?_)⟩
            · rw [eR, eR]
              constructor
              · rintro (z | ⟨z, k⟩)
                · exact Or.inl z
                · exact Or.inr ⟨by omega, k⟩
              · rintro (z | ⟨z, k⟩)
                · exact Or.inl z
                · exact Or.inr ⟨by omega, k⟩
            · rw [eR, eR]
              constructor
              · rintro (z | ⟨z, k⟩)
                · exact Or.inl z
                · exact Or.inr ⟨by omega, k⟩
              · rintro (z | ⟨z, k⟩)
                · exact Or.inl z
                · exact Or.inr ⟨by omega, k⟩
        | succ m' ih2 =>
          intro b M3 hb f3 g3
          have nx := ih2 (b + 1)
          rw [show ((b + 1 : Nat) : Int) = (b : Int) + 1 by omega] at nx
          have e1 : M3 155 ((a : Int) * 8 + b) = zmi len nam a b := by rw [zf_c f3.1 155 rfl]; exact t6 a b (by omega) (by omega) (by omega) (by omega)
          have e2 : M3 155 ((b : Int) * 8 + a) = zmi len nam b a := by rw [zf_c f3.1 155 rfl]; exact t6 b a (by omega) (by omega) (by omega) (by omega)
          refine hQ _ _ _ _ _ _ _ _ ⟨fun z => absurd z (by rw [zf_a f3.1 151 8 rfl]; omega), fun _ => ?_⟩
          rw [zw (x := (a : Int) * 8) (by omega) (by omega), zw (x := (b : Int) * 8) (by omega) (by omega), zw (x := (a : Int) * 8 + b) (by omega) (by omega), zw (x := (b : Int) * 8 + a) (by omega) (by omega), zw (x := (b : Int) + 1) (by omega) (by omega), zw (x := n * 8 + 8 + (a : Int)) (by omega) (by omega), zw (x := n * 8 + 8 + (b : Int)) (by omega) (by omega), e1, e2]
          have no : ¬ K a b → ∀ x y, R a ((b : Int) + 1) x y ↔ R a b x y := fun nk x y => by
            rw [eR, eR]
            constructor
            · rintro (z | ⟨z, k⟩)
              · exact Or.inl z
              · refine Or.inr ⟨?_, k⟩
                have : ¬ (x = a ∧ y = b) := fun u => nk (by rw [← u.1, ← u.2]; exact k)
                omega
            · rintro (z | ⟨z, k⟩)
              · exact Or.inl z
              · exact Or.inr ⟨by omega, k⟩
          have skip : ¬ K a b → Q n s l (n * 8) (n * 8 + 8) (a : Int) ((b : Int) + 1) M3 := fun nk => nx M3 (by omega) f3 (fun h h0 h1 => ⟨zLw_c (g3 h h0 h1).1 (fun o _ _ => (no nk o h).symm), zLw_c (g3 h h0 h1).2 (fun o _ _ => (no nk h o).symm)⟩)
          refine ⟨by omega, fun z => skip (fun k => z ((eK a b).mp k).1), fun z => ⟨by omega, fun z2 => skip (fun k => ((eK a b).mp k).2.1 z2), fun z2 => ?_⟩⟩
          have rb : 0 ≤ zmi len nam b a ∧ zmi len nam b a < 8 := by
            rcases zmi_f hnm (a := (b : Int)) (b := (a : Int)) ⟨by omega, by omega⟩ ⟨by omega, by omega⟩ (fun x => x) with ⟨q1, _⟩ | ⟨q1, _⟩
            · exact absurd q1 z2
            · exact q1
          have s8 := hp.1
          refine s_W_isIn (by omega) (by omega) ?_
          by_cases z3 : zb s (zmi len nam b a) = true
          · rw [if_pos z3]
            exact ⟨fun _ => skip (fun k => by have := ((eK a b).mp k).2.2; rw [z3] at this; cases this), fun y => absurd (by decide) y⟩
          · rw [if_neg z3]
            have z3' : zb s (zmi len nam b a) = false := by simpa using z3
            have kk : K a b := (eK a b).mpr ⟨by omega, z2, z3'⟩
            refine ⟨fun y => absurd rfl y, fun _ => ⟨by omega, by omega, by omega, by omega, ?_⟩⟩
            have yes : ∀ x y, R a ((b : Int) + 1) x y ↔ (R a b x y ∨ (x = a ∧ y = b)) := fun x y => by
              rw [eR, eR]
              constructor
              · rintro (z | ⟨z, k⟩)
                · exact Or.inl (Or.inl z)
                · by_cases u : x = a ∧ y = b
                  · exact Or.inr u
                  · exact Or.inl (Or.inr ⟨by omega, k⟩)
              · rintro ((z | ⟨z, k⟩) | u)
                · exact Or.inl z
                · exact Or.inr ⟨by omega, k⟩
                · exact Or.inr ⟨by omega, by rw [u.1, u.2]; exact kk⟩
            rw [zu_c (a := 157) (b := 156) (by decide)]
            refine nx _ (by omega) ⟨zf_us (zf_us f3.1 (by decide)) (by decide), fun i hi => ?_⟩ (fun h h0 h1 => ?_)
            · rw [zu_i (by omega), zu_c (by decide), zu_c (by decide), zu_i (by omega)]; exact f3.2 i hi
            · obtain ⟨y1, y2⟩ := g3 h h0 h1
              constructor
              · by_cases u : h = b
                · rw [u, zu_s]
                  rw [u] at y1
                  refine zLw_s hc.2 y1 (x := a) (by omega) (fun o o0 o1 => ?_)
                  rw [yes]
                  constructor
                  · rintro (v | v)
                    · exact Or.inl v
                    · exact Or.inr v.1
                  · rintro (v | v)
                    · exact Or.inl v
                    · exact Or.inr ⟨v, rfl⟩
                · rw [zu_i (by omega), zu_c (by decide)]
                  refine zLw_c y1 (fun o o0 o1 => ?_)
                  rw [yes]
                  constructor
                  · exact Or.inl
                  · rintro (v | v)
                    · exact v
                    · exact absurd v.2 u
              · rw [zu_c (by decide)]
                by_cases u : h = a
                · rw [u, zu_s]
                  rw [u] at y2
                  refine zLw_s hc.2 y2 (x := b) (by omega) (fun o o0 o1 => ?_)
                  rw [yes]
                  constructor
                  · rintro (v | v)
                    · exact Or.inl v
                    · exact Or.inr v.2
                  · rintro (v | v)
                    · exact Or.inl v
                    · exact Or.inr ⟨rfl, v⟩
                · rw [zu_i (by omega)]
                  refine zLw_c y2 (fun o o0 o1 => ?_)
                  rw [yes]
                  constructor
                  · exact Or.inl
                  · rintro (v | v)
                    · exact v
                    · exact absurd v.1 u
      exact inner c.toNat 0 M2 (by omega) f2 g2
  refine outer c.toNat 0 M1 (by omega) ⟨f1, l1⟩ (fun h h0 h1 => ?_)
  obtain ⟨e1, e2⟩ := u1 h h0 (by omega)
  obtain ⟨y1, y2⟩ := hL h h0 h1
  rw [e1, e2]
  refine ⟨zLw_c y1 (fun o o0 o1 => ?_), zLw_c y2 (fun o o0 o1 => ?_)⟩
  · rw [eR]
    constructor
    · exact Or.inl
    · rintro (z | ⟨z, _⟩)
      · exact z
      · omega
  · rw [eR]
    constructor
    · exact Or.inl
    · rintro (z | ⟨z, _⟩)
      · exact z
      · omega
theorem s_Thrift_nextIdle {d : Nat} {tb a : Int} {M : zM} {F : Int → zM → Prop} (h4 : M 151 4 = tb) (htb : 0 ≤ tb ∧ tb < 256) (ha : 0 ≤ a ∧ a ≤ 8) (H : ∀ r, a ≤ r → r ≤ 8 → (r < 8 → zb tb r = false) → (∀ y, a ≤ y → y < r → zb tb y = true) → F r M) : zCi (d + 2) 88 [z_r (8, 0) 151, z_i a] M F := by
  refine e_Thrift_nextIdle (fun P hP => ?_)
  have loop : ∀ (m : Nat) (i : Int), i + m = 8 → a ≤ i → (∀ y, a ≤ y → y < i → zb tb y = true) → P a i M := by
    intro m
    induction m with
    | zero =>
      intro i hi ai e
      have : i = 8 := by omega
      subst this
      exact hP _ _ _ ⟨fun _ => H 8 ai (by omega) (fun z => absurd z (by omega)) e, fun z => absurd (by decide) z⟩
    | succ m ih =>
      intro i hi ai e
      refine hP _ _ _ ⟨fun z => absurd z (by omega), fun _ => ?_⟩
      rw [h4]
      refine s_W_isIn (by omega) (by omega) ?_
      by_cases z : zb tb i = true
      · rw [if_pos z]
        refine ⟨fun _ => ?_, fun y => absurd (by decide) y⟩
        rw [zw (x := i + 1) (by omega) (by omega)]
        refine ih (i + 1) (by omega) (by omega) (fun y y0 y1 => ?_)
        by_cases u : y = i
        · rw [u]; exact z
        · exact e y y0 (by omega)
      · rw [if_neg z]
        exact ⟨fun y => absurd rfl y, fun _ => H i ai (by omega) (fun _ => by simpa using z) e⟩
  exact loop (8 - a).toNat a (by omega) (by omega) (fun y y0 y1 => by omega)
theorem zPx_c {k s : Int} {t t' : Int → Int} (e : ∀ j, 0 ≤ j → j < k → t' j = t j) (h : zPx k t s) : zPx k t' s := by
  obtain ⟨h1, h2, h3, h4⟩ := h
  refine ⟨h1, fun j a b => by rw [e j a b]; exact h2 j a b, fun i j a b x y z => h3 i j a b x y (by rw [← e i a b, ← e j x y]; exact z), fun i i0 => ?_⟩
  rw [h4 i i0]
  constructor
  · rintro ⟨j, hj, ej⟩; exact ⟨j, hj, by rw [e j hj.1 hj.2]; exact ej⟩
  · rintro ⟨j, hj, ej⟩; exact ⟨j, hj, by rw [← e j hj.1 hj.2]; exact ej⟩
/-- the merge, behind i letters -/
def zMi (tb : Int) (q : Int → Int) (n i : Int) (ts nx : Int → Int) (s k id : Int) : Prop := zPx i ts s ∧ zcard s = i ∧ (0 ≤ k ∧ k ≤ n) ∧ (∀ y, 0 ≤ y → y < 8 → zb tb y = true → (zb s y = true ↔ ∃ j, (0 ≤ j ∧ j < k) ∧ q j = y)) ∧ ((0 ≤ id ∧ id ≤ 8) ∧ (id < 8 → zb tb id = false) ∧ ∀ y, 0 ≤ y → y < 8 → zb tb y = false → (zb s y = true ↔ y < id)) ∧ ∀ i', 0 ≤ i' → i' < i → (0 ≤ nx i' ∧ nx i' ≤ n) ∧ (∀ y, 0 ≤ y → y < 8 → zb tb y = true → ((∃ j, (0 ≤ j ∧ j < i') ∧ ts j = y) ↔ (∃ j, (0 ≤ j ∧ j < nx i') ∧ q j = y))) ∧ (0 ≤ ts i' ∧ ts i' < 8) ∧ (∀ j, 0 ≤ j → j < i' → ts j ≠ ts i') ∧ (zb tb (ts i') = true → nx i' < n ∧ ts i' = q (nx i')) ∧ (∀ y, 0 ≤ y → y < ts i' → (∀ j, 0 ≤ j → j < i' → ts j ≠ y) → zb tb y = true ∧ nx i' < n ∧ y < q (nx i'))
theorem zMi_s {tb n i s k id x k' id' : Int} {q ts nx : Int → Int} (h : zMi tb q n i ts nx s k id) (hi : 0 ≤ i ∧ i < 8) (hx : 0 ≤ x ∧ x < 8) (un : zb s x = false) (h5 : zb tb x = true → k < n ∧ x = q k) (h6 : ∀ y, 0 ≤ y → y < x → zb s y = false → zb tb y = true ∧ k < n ∧ y < q k)
    (hk' : 0 ≤ k' ∧ k' ≤ n) (g4 : ∀ y, 0 ≤ y → y < 8 → zb tb y = true → ((zb s y = true ∨ x = y) ↔ ∃ j, (0 ≤ j ∧ j < k') ∧ q j = y)) (g5 : (0 ≤ id' ∧ id' ≤ 8) ∧ (id' < 8 → zb tb id' = false) ∧ ∀ y, 0 ≤ y → y < 8 → zb tb y = false → ((zb s y = true ∨ x = y) ↔ y < id')) : zMi tb q n (i + 1) (zPn ts i x) (zPn nx i k) (zbs s x) k' id' := by
  obtain ⟨h1, h2, h3, h4, hid, hA⟩ := h
  have bz : ∀ y, 0 ≤ y → (zb (zbs s x) y = true ↔ zb s y = true ∨ x = y) := fun y y0 => by
    rw [zb_zbs (by have := h1.1; omega) (by omega) y0, Bool.or_eq_true, decide_eq_true_iff]
  have us : ∀ y, 0 ≤ y → (zb s y = false ↔ ∀ j, 0 ≤ j → j < i → ts j ≠ y) := fun y y0 => by
    constructor
    · intro z j a b e
      have := (h1.2.2.2 y y0).mpr ⟨j, ⟨a, b⟩, e⟩
      rw [z] at this; cases this
    · intro z
      cases w : zb s y
      · rfl
      · obtain ⟨j, hj, e⟩ := (h1.2.2.2 y y0).mp w
        exact absurd e (z j hj.1 hj.2)
  refine ⟨zPx_s h1 hi.1 hx un, by rw [zcard_zbs h1.1 hx un]; omega, hk', fun y y0 y1 w => by rw [bz y y0]; exact g4 y y0 y1 w, ⟨g5.1, g5.2.1, fun y y0 y1 w => by rw [bz y y0]; exact g5.2.2 y y0 y1 w⟩, fun i' a b => ?_⟩
  by_cases e : i' = i
  · rw [e, zPn_n, zPn_n]
    refine ⟨h3, fun y y0 y1 w => ?_, hx, fun j a' b' => ?_, h5, fun y y0 y1 w => h6 y y0 y1 ((us y y0).mpr (fun j a' b' => ?_))⟩
    · rw [← h4 y y0 y1 w, h1.2.2.2 y y0]
      constructor
      · rintro ⟨j, hj, ej⟩
        rw [zPn_l (by omega)] at ej
        exact ⟨j, hj, ej⟩
      · rintro ⟨j, hj, ej⟩
        exact ⟨j, hj, by rw [zPn_l (by omega)]; exact ej⟩
    · rw [zPn_l (by omega)]; exact (us x hx.1).mp un j a' b'
    · have := w j a' b'
      rw [zPn_l (by omega)] at this; exact this
  · obtain ⟨a1, a2, a3, a4, a5, a6⟩ := hA i' a (by omega)
    rw [zPn_l e, zPn_l e]
    refine ⟨a1, fun y y0 y1 w => ?_, a3, fun j a' b' => by rw [zPn_l (by omega)]; exact a4 j a' b', a5, fun y y0 y1 w => a6 y y0 y1 (fun j a' b' => ?_)⟩
    · rw [← a2 y y0 y1 w]
      constructor
      · rintro ⟨j, hj, ej⟩
        rw [zPn_l (by omega)] at ej
        exact ⟨j, hj, ej⟩
      · rintro ⟨j, hj, ej⟩
        exact ⟨j, hj, by rw [zPn_l (by omega)]; exact ej⟩
    · have := w j a' b'
      rw [zPn_l (by omega)] at this; exact this

/-! the least order that begins so: the class writes it down -/
theorem s_Thrift_keepBest {d : Nat} {tb n s v : Int} {p : Int → Int} {M : zM} {F : zM → Prop} (h4 : M 151 4 = tb) (htb : 0 ≤ tb ∧ tb < 256) (hn : 0 ≤ n ∧ n ≤ 8) (hp : zPx n p s) (hpt : ∀ j, 0 ≤ j → j < n → zb tb (p j) = true) (hch : ∀ j, 0 ≤ j → j < n → M 158 j = p j)
    (H : ∀ (M' : zM) (q : Int → Int) (N : Int), zf [152, 158] [(151, 10)] M M' → M' 151 10 = v → (∀ j, j < n → M' 158 j = M 158 j) → (∀ j, 0 ≤ j → j < n → q j = p j) → (n ≤ N ∧ N ≤ 8) → (∀ j, 0 ≤ j → j < N → (0 ≤ q j ∧ q j < 8) ∧ zb tb (q j) = true) → (∀ y, 0 ≤ y → y < 8 → zb tb y = true → ∃ j, (0 ≤ j ∧ j < N) ∧ q j = y) → (∀ i, n ≤ i → i < N → ∀ x, 0 ≤ x → x < q i → zb tb x = true → ∃ j, (0 ≤ j ∧ j < i) ∧ q j = x) → zMg tb q N (M' 152) → F M') : zCv (d + 3) 87 [z_r (8, 0) 151, z_i n, z_i s, z_i v] M F := by
  refine e_Thrift_keepBest (fun P Q hP hQ => ?_)
  -- the merge
  have merge : ∀ (M1 : zM) (q : Int → Int) (N s1 : Int), zf [152, 158] [(151, 10)] M M1 → M1 151 10 = v → (∀ j, j < n → M1 158 j = M 158 j) → (∀ j, 0 ≤ j → j < N → M1 158 j = q j) → (∀ j, 0 ≤ j → j < n → q j = p j) → (n ≤ N ∧ N ≤ 8) → zPx N q s1 → (∀ j, 0 ≤ j → j < N → zb tb (q j) = true) → (∀ y, 0 ≤ y → y < 8 → zb tb y = true → ∃ j, (0 ≤ j ∧ j < N) ∧ q j = y) → (∀ i, n ≤ i → i < N → ∀ x, 0 ≤ x → x < q i → zb tb x = true → ∃ j, (0 ≤ j ∧ j < i) ∧ q j = x) → zCi (d + 2) 88 [z_r (8, 0) 151, z_i 0] M1 (fun v13 M12 => Q n s v N 0 v13 0 M12) := by
    intro M1 q N s1 f1 e1 k1 c1 q1 hN hq qt cov asc
    have loop : ∀ (m : Nat) (i k id : Int) (ts nx : Int → Int) (s2 : Int) (M2 : zM), i + m = 8 → 0 ≤ i → zf [152, 158] [(151, 10)] M M2 → M2 151 10 = v → (∀ j, j < n → M2 158 j = M 158 j) → (∀ j, 0 ≤ j → j < N → M2 158 j = q j) → (∀ j, 0 ≤ j → j < i → M2 152 j = ts j) → zMi tb q N i ts nx s2 k id → Q n s v N k id i M2 := by
      intro m
      induction m with
      | zero =>
        intro i k id ts nx s2 M2 hi i0 f2 e2 k2 c2 b2 g
        have : i = 8 := by omega
        subst this
        refine hQ _ _ _ _ _ _ _ _ ⟨fun _ => H M2 q N f2 e2 k2 q1 hN (fun j a b => ⟨hq.2.1 j a b, qt j a b⟩) cov asc (zMg_c b2 ⟨nx, g.2.2.2.2.2⟩), fun z => absurd (by decide) z⟩
      | succ m ih =>
        intro i k id ts nx s2 M2 hi i0 f2 e2 k2 c2 b2 g
        have g0 := g
        obtain ⟨g1, g2, g3, g4, ⟨g5, g6, g7⟩, -⟩ := g
        have h42 : M2 151 4 = tb := by rw [zf_a f2 151 4 rfl]; exact h4
        have wr : ∀ x, (∀ j, j < n → (z_up M2 152 i x) 158 j = M 158 j) ∧ (∀ j, 0 ≤ j → j < N → (z_up M2 152 i x) 158 j = q j) ∧ (∀ j, 0 ≤ j → j < i + 1 → (z_up M2 152 i x) 152 j = zPn ts i x j) := fun x => by
          refine ⟨fun j a => by rw [zu_c (by decide)]; exact k2 j a, fun j a b => by rw [zu_c (by decide)]; exact c2 j a b, fun j a b => ?_⟩
          by_cases u : j = i
          · rw [u, zu_s, zPn_n]
          · rw [zu_i u, zPn_l u]; exact b2 j a (by omega)
        -- a letter that tells nobody apart
        have idle : (k < N → id ≤ q k) → (0 ≤ i ∧ i < 8) ∧ zCi (d + 2) 88 [z_r (8, 0) 151, z_i (z_wr (id + 1))] (z_up M2 152 i id) (fun v25 M24 => Q n s v N k v25 (z_wr (i + 1)) M24) := fun hk => by
          have tel : ∀ y, 0 ≤ y → y < 8 → zb tb y = true → zb s2 y = false → k < N := fun y y0 y1 w z => by
            refine Classical.byContradiction (fun u => ?_)
            obtain ⟨j, hj, ej⟩ := cov y y0 y1 w
            have := (g4 y y0 y1 w).mpr ⟨j, by omega, ej⟩
            rw [z] at this; cases this
          have i8 : id < 8 := by
            by_cases u : k < N
            · have := hk u
              have := hq.2.1 k g3.1 u
              omega
            · obtain ⟨y, hy, zy⟩ := z_free (s := s2) (by omega)
              cases w : zb tb y
              · refine Classical.byContradiction (fun z => ?_)
                have := (g7 y hy.1 hy.2 w).mpr (by omega)
                rw [zy] at this; cases this
              · exact absurd (tel y hy.1 hy.2 w zy) u
          have ni := g6 i8
          rw [zw (x := id + 1) (by omega) (by omega), zw (x := i + 1) (by omega) (by omega)]
          refine ⟨by omega, s_Thrift_nextIdle (by rw [zu_c (by decide)]; exact h42) htb (by omega) (fun r r1 r2 r3 r4 => ?_)⟩
          obtain ⟨w1, w2, w3⟩ := wr id
          refine ih (i + 1) k r (zPn ts i id) (zPn nx i k) (zbs s2 id) _ (by omega) (by omega) (zf_us f2 (by decide)) (by rw [zu_c (by decide)]; exact e2) w1 w2 w3 (zMi_s g0 (by omega) (by omega) ?_ (fun w => by rw [ni] at w; cases w) (fun y y0 y1 z => ?_) g3 (fun y y0 y1 w => ?_) ⟨by omega, r3, fun y y0 y1 w => ?_⟩)
          · cases z : zb s2 id
            · rfl
            · have := (g7 id g5.1 i8 ni).mp z; omega
          · cases w : zb tb y
            · have := (g7 y y0 (by omega) w).mpr y1
              rw [z] at this; cases this
            · have kN := tel y y0 (by omega) w z
              have := hk kN
              exact ⟨rfl, kN, by omega⟩
          · rw [← g4 y y0 y1 w]
            constructor
            · rintro (z | z)
              · exact z
              · rw [← z, ni] at w; cases w
            · exact Or.inl
          · rw [g7 y y0 y1 w]
            constructor
            · rintro (z | z) <;> omega
            · intro z
              by_cases u : y ≤ id
              · by_cases u2 : y = id
                · exact Or.inr u2.symm
                · exact Or.inl (by omega)
              · have := r4 y (by omega) z
                rw [w] at this; cases this
        refine hQ _ _ _ _ _ _ _ _ ⟨fun z => absurd z (by omega), fun _ => ⟨fun z => idle (fun u => absurd u (by omega)), fun z => ?_⟩⟩
        have kN : k < N := by omega
        have k8 : 0 ≤ k ∧ k < 8 := by omega
        rw [c2 k g3.1 kN]
        refine ⟨k8, fun z2 => idle (fun _ => z2), fun z2 => ⟨k8, by omega, ?_⟩⟩
        have qk := hq.2.1 k g3.1 kN
        have tk := qt k g3.1 kN
        rw [zw (x := k + 1) (by omega) (by omega), zw (x := i + 1) (by omega) (by omega)]
        obtain ⟨w1, w2, w3⟩ := wr (q k)
        refine ih (i + 1) (k + 1) id (zPn ts i (q k)) (zPn nx i k) (zbs s2 (q k)) _ (by omega) (by omega) (zf_us f2 (by decide)) (by rw [zu_c (by decide)]; exact e2) w1 w2 w3 (zMi_s g0 (by omega) qk ?_ (fun _ => ⟨kN, rfl⟩) (fun y y0 y1 z => ?_) (by omega) (fun y y0 y1 w => ?_) ⟨g5, g6, fun y y0 y1 w => ?_⟩)
        · cases z : zb s2 (q k)
          · rfl
          · obtain ⟨j, hj, ej⟩ := (g4 _ qk.1 qk.2 tk).mp z
            have := hq.2.2.1 j k hj.1 (by omega) g3.1 kN ej
            omega
        · cases w : zb tb y
          · have := (g7 y y0 (by omega) w).mpr (by omega)
            rw [z] at this; cases this
          · exact ⟨rfl, kN, y1⟩
        · rw [g4 y y0 y1 w]
          constructor
          · rintro (⟨j, hj, ej⟩ | z)
            · exact ⟨j, by omega, ej⟩
            · exact ⟨k, by omega, z⟩
          · rintro ⟨j, hj, ej⟩
            by_cases u : j = k
            · rw [u] at ej; exact Or.inr ej
            · exact Or.inl ⟨j, by omega, ej⟩
        · rw [← g7 y y0 y1 w]
          constructor
          · rintro (z | z)
            · exact z
            · rw [← z, tk] at w; cases w
          · exact Or.inl
    refine s_Thrift_nextIdle (by rw [zf_a f1 151 4 rfl]; exact h4) htb (by omega) (fun r r1 r2 r3 r4 => ?_)
    refine loop 8 0 0 r (fun _ => 0) (fun _ => 0) 0 M1 (by omega) (by omega) f1 e1 k1 c1 (fun j a b => by omega) ⟨zPx_0 _, by decide, by omega, fun y y0 y1 w => ?_, ⟨by omega, r3, fun y y0 y1 w => ?_⟩, fun i' a b => by omega⟩
    · rw [zb_0]
      constructor
      · intro z; cases z
      · rintro ⟨j, hj, _⟩; omega
    · rw [zb_0]
      constructor
      · intro z; cases z
      · intro z
        have := r4 y y0 z
        rw [w] at this; cases this
  -- the letters that are left
  have fill : ∀ (m : Nat) (l N s1 : Int) (q : Int → Int) (M1 : zM), l + m = 8 → 0 ≤ l → zf [152, 158] [(151, 10)] M M1 → M1 151 10 = v → (∀ j, j < n → M1 158 j = M 158 j) → (∀ j, 0 ≤ j → j < N → M1 158 j = q j) → (∀ j, 0 ≤ j → j < n → q j = p j) → (n ≤ N ∧ N ≤ 8) → zPx N q s1 → (∀ j, 0 ≤ j → j < N → zb tb (q j) = true) → (∀ y, 0 ≤ y → y < 8 → zb tb y = true → (zb s1 y = true ↔ zb s y = true ∨ y < l)) → (∀ i, n ≤ i → i < N → ∀ x, 0 ≤ x → x < q i → zb tb x = true → ∃ j, (0 ≤ j ∧ j < i) ∧ q j = x) → P n s v N l M1 := by
    intro m
    induction m with
    | zero =>
      intro l N s1 q M1 hl l0 f1 e1 k1 c1 q1 hN hq qt cv asc
      have : l = 8 := by omega
      subst this
      refine hP _ _ _ _ _ _ ⟨fun _ => merge M1 q N s1 f1 e1 k1 c1 q1 hN hq qt (fun y y0 y1 w => (hq.2.2.2 y y0).mp ((cv y y0 y1 w).mpr (Or.inr y1))) asc, fun z => absurd (by decide) z⟩
    | succ m ih =>
      intro l N s1 q M1 hl l0 f1 e1 k1 c1 q1 hN hq qt cv asc
      refine hP _ _ _ _ _ _ ⟨fun z => absurd z (by omega), fun _ => ⟨fun z => ?_, fun z => ?_⟩⟩
      · have : N = 8 := by omega
        subst this
        exact merge M1 q 8 s1 f1 e1 k1 c1 q1 hN hq qt (fun y y0 y1 w => zperm_s (zPx_p hq) y y0 y1) asc
      · rw [zf_a f1 151 4 rfl, h4, zw (x := l + 1) (by omega) (by omega)]
        refine s_W_isIn (by omega) (by omega) ?_
        have skip : (zb tb l = true → zb s l = true) → P n s v N (l + 1) M1 := fun hs => ih (l + 1) N s1 q M1 (by omega) (by omega) f1 e1 k1 c1 q1 hN hq qt (fun y y0 y1 w => by
          rw [cv y y0 y1 w]
          constructor
          · rintro (u | u)
            · exact Or.inl u
            · exact Or.inr (by omega)
          · rintro (u | u)
            · exact Or.inl u
            · by_cases e : y = l
              · rw [e] at w ⊢; exact Or.inl (hs w)
              · exact Or.inr (by omega)) asc
        by_cases t : zb tb l = true
        · rw [if_pos t]
          refine ⟨fun y => absurd y (by decide), fun _ => s_W_isIn (by have := hp.1; omega) (by omega) ?_⟩
          by_cases u : zb s l = true
          · rw [if_pos u]
            exact ⟨fun _ => skip (fun _ => u), fun y => absurd (by decide) y⟩
          · rw [if_neg u]
            have z1 : zb s1 l = false := by
              cases w : zb s1 l
              · rfl
              · rcases (cv l l0 (by omega) t).mp w with y | y
                · exact absurd y u
                · omega
            rw [zw (x := N + 1) (by omega) (by omega)]
            refine ⟨fun y => absurd rfl y, fun _ => ⟨by omega, ih (l + 1) (N + 1) (zbs s1 l) (zPn q N l) _ (by omega) (by omega) (zf_us f1 (by decide)) (by rw [zu_c (by decide)]; exact e1) (fun j a => by rw [zu_i (by omega)]; exact k1 j a) (fun j a b => ?_) (fun j a b => by rw [zPn_l (by omega)]; exact q1 j a b) (by omega) (zPx_s hq (by omega) (by omega) z1) (fun j a b => ?_) (fun y y0 y1 w => ?_) (fun i a b x x0 x1 w => ?_)⟩⟩
            · by_cases e : j = N
              · rw [e, zu_s, zPn_n]
              · rw [zu_i e, zPn_l e]; exact c1 j a (by omega)
            · by_cases e : j = N
              · rw [e, zPn_n]; exact t
              · rw [zPn_l e]; exact qt j a (by omega)
            · rw [zb_zbs (by have := hq.1; omega) (by omega) y0, Bool.or_eq_true, decide_eq_true_iff, cv y y0 y1 w]
              constructor
              · rintro ((h | h) | h)
                · exact Or.inl h
                · exact Or.inr (by omega)
                · exact Or.inr (by omega)
              · rintro (h | h)
                · exact Or.inl (Or.inl h)
                · by_cases e : y = l
                  · exact Or.inr e.symm
                  · exact Or.inl (Or.inr (by omega))
            · by_cases e : i = N
              · rw [e, zPn_n] at x1
                obtain ⟨j, hj, ej⟩ := (hq.2.2.2 x x0).mp ((cv x x0 (by omega) w).mpr (Or.inr x1))
                exact ⟨j, by omega, by rw [zPn_l (by omega)]; exact ej⟩
              · rw [zPn_l e] at x1
                obtain ⟨j, hj, ej⟩ := asc i a (by omega) x x0 x1 w
                exact ⟨j, hj, by rw [zPn_l (by omega)]; exact ej⟩
        · rw [if_neg t]
          exact ⟨fun _ => skip (fun y => absurd y t), fun y => absurd rfl y⟩
  exact fill 8 0 n s p _ (by omega) (by omega) (zf_uj zf_rf (by decide)) (zu_s _ _ _ _) (fun j a => zu_c (by decide)) (fun j a b => by rw [zu_c (by decide)]; exact hch j a b) (fun j a b => rfl) (by omega) hp hpt (fun y y0 y1 w => by
    constructor
    · exact Or.inl
    · rintro (z | z)
      · exact z
      · omega) (fun i a b => by omega)

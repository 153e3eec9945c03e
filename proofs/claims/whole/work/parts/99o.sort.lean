/-! the class's search: the houses by thirst, the letters that tell, the whole -/
theorem s_Thrift_sortByThirst {d : Nat} {c : Int} {th : Int → Int} {M : zM} {F : zM → Prop} (hc : 0 ≤ c ∧ c ≤ 8) (h8 : M 151 8 = c) (hth : ∀ h, 0 ≤ h → h < c → 1 ≤ th h ∧ th h ≤ 9) (hs : ∀ h, 0 ≤ h → h < c → M 153 (z_shl 1 h) = th h) (H : ∀ M' bt, zf [154] [] M M' → zByt c th bt → (∀ i, 0 ≤ i → i < c → M' 154 i = bt i) → F M') : zCv (d + 1) 79 [z_r (8, 0) 151] M F := by
  refine e_Thrift_sortByThirst (fun P Q hP hQ => ?_)
  -- what is sorted: k houses bt, the set s of them; v and h: how far
  generalize hI : (fun (k v h : Int) (bt : Int → Int) (s : Int) (M1 : zM) => zf [154] [] M M1 ∧ (0 ≤ k ∧ k ≤ 8) ∧ zPx k bt s ∧ zcard s = k ∧ (∀ i, 0 ≤ i → i < k → M1 154 i = bt i) ∧ (∀ i, 0 ≤ i → i < k → bt i < c ∧ th (bt i) ≤ v) ∧ (∀ i j, 0 ≤ i → i ≤ j → j < k → th (bt i) ≤ th (bt j)) ∧ ∀ o, 0 ≤ o → o < c → (zb s o = true ↔ th o < v ∨ (th o = v ∧ o < h))) = I
  have eI : ∀ k v h bt s M1, I k v h bt s M1 ↔ (zf [154] [] M M1 ∧ (0 ≤ k ∧ k ≤ 8) ∧ zPx k bt s ∧ zcard s = k ∧ (∀ i, 0 ≤ i → i < k → M1 154 i = bt i) ∧ (∀ i, 0 ≤ i → i < k → bt i < c ∧ th (bt i) ≤ v) ∧ (∀ i j, 0 ≤ i → i ≤ j → j < k → th (bt i) ≤ th (bt j)) ∧ ∀ o, 0 ≤ o → o < c → (zb s o = true ↔ th o < v ∨ (th o = v ∧ o < h))) := fun k v h bt s M1 => by rw [← hI]
  have outer : ∀ (m : Nat) (v k : Int) (bt : Int → Int) (s : Int) (M1 : zM), v + m = 10 → 1 ≤ v → I k v 0 bt s M1 → P k v M1 := by
    intro m
    induction m with
    | zero =>
      intro v k bt s M1 hv v1 hi
      obtain ⟨f1, hk, hp, hcd, e1, r1, so, mem⟩ := (eI _ _ _ _ _ _).mp hi
      have : v = 10 := by omega
      subst this
      have all : ∀ o, 0 ≤ o → o < c → zb s o = true := fun o a b => (mem o a b).mpr (Or.inl (by have := hth o a b; omega))
      have inn : ∀ o, 0 ≤ o → zb s o = true → o < c := fun o a z => by
        obtain ⟨j, hj, ej⟩ := (hp.2.2.2 o a).mp z
        rw [← ej]; exact (r1 j hj.1 hj.2).1
      have kc : k = c := by
        have := zcard_all (c := c) (A := 0) (S := s) hc (fun h _ z => by rw [zb_0] at z; cases z) (fun h a z => ⟨inn h a z, zb_0 h⟩) (fun h a b _ => all h a b)
        rw [show zcard 0 = 0 by decide] at this
        omega
      subst kc
      exact hP _ _ _ ⟨fun _ => H M1 bt f1 ⟨fun i a b => ⟨(hp.2.1 i a b).1, (r1 i a b).1⟩, hp.2.2.1, so⟩ e1, fun z => absurd (by decide) z⟩
    | succ m ih =>
      intro v k bt s M1 hv v1 hi
      refine hP _ _ _ ⟨fun z => absurd z (by omega), fun _ => ?_⟩
      have inner : ∀ (m' : Nat) (h k : Int) (bt : Int → Int) (s : Int) (M2 : zM), h + m' = c → 0 ≤ h → I k v h bt s M2 → Q k v h M2 := by
        intro m'
        induction m' with
        | zero =>
          intro h k bt s M2 hh h0 hi
          have hi0 := (eI _ _ _ _ _ _).mp hi
          obtain ⟨f1, hk, hp, hcd, e1, r1, so, mem⟩ := hi0
          refine hQ _ _ _ _ ⟨fun _ => ?_, fun z => absurd (by rw [zf_a f1 151 8 rfl]; omega) z⟩
          rw [zw (x := v + 1) (by omega) (by omega)]
          refine ih (v + 1) k bt s M2 (by omega) (by omega) ((eI _ _ _ _ _ _).mpr ⟨f1, hk, hp, hcd, e1, fun i a b => ⟨(r1 i a b).1, by have := (r1 i a b).2; omega⟩, so, fun o a b => ?_⟩)
          rw [mem o a b]; omega
        | succ m' ih2 =>
          intro h k bt s M2 hh h0 hi
          have hi0 := (eI _ _ _ _ _ _).mp hi
          obtain ⟨f1, hk, hp, hcd, e1, r1, so, mem⟩ := hi0
          have e8 : M2 151 8 = c := by rw [zf_a f1 151 8 rfl]; exact h8
          have es : M2 153 (z_shl 1 h) = th h := by rw [zf_c f1 153 rfl]; exact hs h h0 (by omega)
          refine hQ _ _ _ _ ⟨fun z => absurd z (by omega), fun _ => ⟨fun z => ?_, fun z => ⟨z_sh1_lt (by omega), ?_⟩⟩⟩
          · -- all are in
            rw [zw (x := v + 1) (by omega) (by omega)]
            have all : ∀ o, 0 ≤ o → o < 8 → zb s o = true := fun o a b => by
              cases y : zb s o
              · have := zcard_zbs hp.1 ⟨a, b⟩ y
                have := zcard_r (zbs s o)
                omega
              · rfl
            refine ih (v + 1) k bt s M2 (by omega) (by omega) ((eI _ _ _ _ _ _).mpr ⟨f1, hk, hp, hcd, e1, fun i a b => ⟨(r1 i a b).1, by have := (r1 i a b).2; omega⟩, so, fun o a b => ?_⟩)
            have := (mem o a b).mp (all o a (by omega))
            rw [mem o a b]; omega
          · rw [es, zw (x := h + 1) (by omega) (by omega), zw (x := k + 1) (by omega) (by omega)]
            refine ⟨fun z2 => ih2 (h + 1) k bt s M2 (by omega) (by omega) ((eI _ _ _ _ _ _).mpr ⟨f1, hk, hp, hcd, e1, r1, so, fun o a b => ?_⟩), fun z2 => ⟨by omega, ?_⟩⟩
            · rw [mem o a b]
              by_cases u : o = h
              · rw [u]; omega
              · omega
            · have un : zb s h = false := by
                cases y : zb s h
                · rfl
                · have := (mem h h0 (by omega)).mp y; omega
              refine ih2 (h + 1) (k + 1) (zPn bt k h) (zbs s h) _ (by omega) (by omega) ((eI _ _ _ _ _ _).mpr ⟨zf_us f1 (by decide), by omega, zPx_s hp hk.1 (by omega) un, by rw [zcard_zbs hp.1 (by omega) un]; omega, fun i a b => ?_, fun i a b => ?_, fun i j a b x => ?_, fun o a b => ?_⟩)
              · by_cases u : i = k
                · rw [u, zu_s, zPn_n]
                · rw [zu_i u, zPn_l u]; exact e1 i a (by omega)
              · by_cases u : i = k
                · rw [u, zPn_n]; omega
                · rw [zPn_l u]; exact r1 i a (by omega)
              · by_cases u : j = k
                · rw [u, zPn_n]
                  by_cases u2 : i = k
                  · rw [u2, zPn_n]; exact Int.le_refl _
                  · rw [zPn_l u2]
                    have := (r1 i a (by omega)).2
                    omega
                · rw [zPn_l u, zPn_l (by omega)]; exact so i j a b (by omega)
              · rw [zb_zbs (by have := hp.1; omega) (by omega) a, Bool.or_eq_true, decide_eq_true_iff, mem o a b]
                by_cases u : o = h
                · rw [u]; omega
                · omega
      exact inner c.toNat 0 k bt s M1 (by omega) (by omega) hi
  refine outer 9 1 0 (fun _ => 0) 0 M (by omega) (by omega) ((eI _ _ _ _ _ _).mpr ⟨zf_rf, by omega, zPx_0 _, by decide, fun i a b => by omega, fun i a b => by omega, fun i j a b x => by omega, fun o a b => ?_⟩)
  rw [zb_0]
  have := hth o a b
  constructor
  · intro z; cases z
  · intro z; omega
theorem s_Thrift_compareNames {d : Nat} {c : Int} {M : zM} {F : zM → Prop} (hnm : znm c (M 26) (M 25)) (h8 : M 151 8 = c) (H : ∀ M' tb, zf [155, 156, 157] [(151, 4)] M M' → M' 151 4 = tb → zTl c tb (M 26) (M 25) → (∀ a b, 0 ≤ a → a < c → 0 ≤ b → b < c → M' 155 (a * 8 + b) = zmi (M 26) (M 25) a b) → (∀ p, zLv c (M 26) (M 25) p 0 M') → F M') : zCv (d + 3) 80 [z_r (8, 0) 151, z_r (9, 0) 23] M F := by
  have hc := hnm.1
  generalize hlen : M 26 = len at *
  generalize hnam : M 25 = nam at *
  refine e_Thrift_compareNames (fun P Q hP hQ => ?_)
  -- who is ahead anyway
  generalize hR : (fun (o h : Int) => o ≠ h ∧ zmi len nam o h = -1 ∧ zia len o h = 1) = R
  have eR : ∀ o h, R o h ↔ (o ≠ h ∧ zmi len nam o h = -1 ∧ zia len o h = 1) := fun o h => by rw [← hR]
  generalize hI : (fun (a b : Int) (M1 : zM) => zf [155, 156, 157] [(151, 4)] M M1 ∧ (0 ≤ M1 151 4 ∧ M1 151 4 < 256) ∧ (∀ x y, 0 ≤ x → x < c → 0 ≤ y → y < c → (x < a ∨ (x = a ∧ y < b)) → M1 155 (x * 8 + y) = zmi len nam x y ∧ (zmi len nam x y ≠ -1 → zb (M1 151 4) (zmi len nam x y) = true)) ∧ ∀ h, 0 ≤ h → h < c → (h < a ∨ (h = a ∧ 0 ≤ b)) → zLw c (fun o h => (h < a ∨ o < b) ∧ R o h) (M1 156 h) h ∧ zLw c (fun o h => (h < a ∨ o < b) ∧ R h o) (M1 157 h) h) = I
  have eI : ∀ a b M1, I a b M1 ↔ (zf [155, 156, 157] [(151, 4)] M M1 ∧ (0 ≤ M1 151 4 ∧ M1 151 4 < 256) ∧ (∀ x y, 0 ≤ x → x < c → 0 ≤ y → y < c → (x < a ∨ (x = a ∧ y < b)) → M1 155 (x * 8 + y) = zmi len nam x y ∧ (zmi len nam x y ≠ -1 → zb (M1 151 4) (zmi len nam x y) = true)) ∧ ∀ h, 0 ≤ h → h < c → (h < a ∨ (h = a ∧ 0 ≤ b)) → zLw c (fun o h => (h < a ∨ o < b) ∧ R o h) (M1 156 h) h ∧ zLw c (fun o h => (h < a ∨ o < b) ∧ R h o) (M1 157 h) h) := fun a b M1 => by rw [← hI]
  have outer : ∀ (m : Nat) (a : Int) (M1 : zM), a + m = c → 0 ≤ a → I a (-1) M1 → P 23 a M1 := by
    intro m
    induction m with
    | zero =>
      intro a M1 ha a0 hi
      obtain ⟨f1, tr, g1, g2⟩ := (eI _ _ _).mp hi
      refine hP _ _ _ ⟨fun _ => H M1 (M1 151 4) f1 rfl ⟨tr, fun x y x0 x1 y0 y1 => (g1 x y x0 x1 y0 y1 (Or.inl (by omega))).2⟩ (fun x y x0 x1 y0 y1 => (g1 x y x0 x1 y0 y1 (Or.inl (by omega))).1) (fun p h h0 h1 => ?_), fun z => absurd (by rw [zf_a f1 151 8 rfl]; omega) z⟩
      obtain ⟨y1, y2⟩ := g2 h h0 h1 (Or.inl (by omega))
      have e0 : ∀ o h, zEA len nam p 0 o h ↔ R o h := fun o h => by
        rw [eR]
        constructor
        · rintro ⟨ne, z | ⟨z, i, hi, _⟩⟩
          · exact ⟨ne, z⟩
          · omega
        · rintro ⟨ne, z⟩
          exact ⟨ne, Or.inl z⟩
      rw [show 0 * 8 + h = h by omega]
      refine ⟨zLw_c y1 (fun o o0 o1 => ?_), zLw_c y2 (fun o o0 o1 => ?_)⟩
      · rw [e0]
        exact ⟨fun z => z.2, fun z => ⟨Or.inl (by omega), z⟩⟩
      · rw [e0]
        exact ⟨fun z => z.2, fun z => ⟨Or.inl (by omega), z⟩⟩
    | succ m ih =>
      intro a M1 ha a0 hi
      obtain ⟨f1, tr, g1, g2⟩ := (eI _ _ _).mp hi
      refine hP _ _ _ ⟨fun z => absurd z (by rw [zf_a f1 151 8 rfl]; omega), fun _ => ⟨by omega, by omega, ?_⟩⟩
      have inner : ∀ (m' : Nat) (b : Int) (M2 : zM), b + m' = c → 0 ≤ b → I a b M2 → Q 23 a b M2 := by
        intro m'
        induction m' with
        | zero =>
          intro b M2 hb b0 hi
          obtain ⟨f2, tr, g1, g2⟩ := (eI _ _ _).mp hi
          refine hQ _ _ _ _ ⟨fun _ => ?_, fun z => absurd (by rw [zf_a f2 151 8 rfl]; omega) z⟩
          rw [zw (x := a + 1) (by omega) (by omega)]
          refine ih (a + 1) M2 (by omega) (by omega) ((eI _ _ _).mpr ⟨f2, tr, fun x y x0 x1 y0 y1 z => g1 x y x0 x1 y0 y1 (by omega), fun h h0 h1 z => ?_⟩)
          obtain ⟨y1, y2⟩ := g2 h h0 h1 (by omega)
          refine ⟨zLw_c y1 (fun o o0 o1 => ?_), zLw_c y2 (fun o o0 o1 => ?_)⟩
          · exact ⟨fun u => ⟨by omega, u.2⟩, fun u => ⟨by omega, u.2⟩⟩
          · exact ⟨fun u => ⟨by omega, u.2⟩, fun u => ⟨by omega, u.2⟩⟩
        | succ m' ih2 =>
          intro b M2 hb b0 hi
          obtain ⟨f2, tr, g1, g2⟩ := (eI _ _ _).mp hi
          have l26 : M2 26 = len := by rw [zf_c f2 26 rfl]; exact hlen
          have l25 : M2 25 = nam := by rw [zf_c f2 25 rfl]; exact hnam
          have la := hnm.2.1 a a0 (by omega)
          have lb := hnm.2.1 b b0 (by omega)
          refine hQ _ _ _ _ ⟨fun z => absurd z (by rw [zf_a f2 151 8 rfl]; omega), fun _ => s_Town_tellingLetter (by omega) (by omega) (by show 0 ≤ M2 26 a ∧ M2 26 a ≤ 6; rw [l26]; omega) (by show 0 ≤ M2 26 b ∧ M2 26 b ≤ 6; rw [l26]; omega) ?_⟩
          show (0 ≤ z_wr (z_wr (a * 8) + b) ∧ z_wr (z_wr (a * 8) + b) < 64) ∧ _
          rw [show M2 (23 + 3) = len from l26, show M2 (23 + 2) = nam from l25, zw (x := a * 8) (by omega) (by omega), zw (x := a * 8 + b) (by omega) (by omega), zw (x := b + 1) (by omega) (by omega)]
          have sy := zmi_f hnm (a := a) (b := b) (by omega) (by omega) (fun x => x)
          have ga := g2 a a0 (by omega) (Or.inr ⟨rfl, b0⟩)
          -- the next pair
          have go : ∀ M3 : zM, zf [155, 156, 157] [(151, 4)] M M3 → (0 ≤ M3 151 4 ∧ M3 151 4 < 256) → (∀ x, 0 ≤ x → zb (M2 151 4) x = true → zb (M3 151 4) x = true) → (∀ i, i ≠ a * 8 + b → M3 155 i = M2 155 i) → M3 155 (a * 8 + b) = zmi len nam a b → (zmi len nam a b ≠ -1 → zb (M3 151 4) (zmi len nam a b) = true) → (∀ h, h ≠ a → M3 156 h = M2 156 h ∧ M3 157 h = M2 157 h) → zLw c (fun o h => (h < a ∨ o < b + 1) ∧ R o h) (M3 156 a) a → zLw c (fun o h => (h < a ∨ o < b + 1) ∧ R h o) (M3 157 a) a → Q 23 a (b + 1) M3 := fun M3 f3 t3 k1 k2 k3 k4 k5 k6 k7 => by
            refine ih2 (b + 1) M3 (by omega) (by omega) ((eI _ _ _).mpr ⟨f3, t3, fun x y x0 x1 y0 y1 z => ?_, fun h h0 h1 z => ?_⟩)
            · by_cases u : x = a ∧ y = b
              · rw [u.1, u.2]; exact ⟨k3, k4⟩
              · have := g1 x y x0 x1 y0 y1 (by omega)
                rw [k2 _ (by omega)]
                refine ⟨this.1, fun w => k1 _ ?_ (this.2 w)⟩
                rcases zmi_f hnm (a := x) (b := y) ⟨x0, x1⟩ ⟨y0, y1⟩ (fun x => x) with ⟨q1, _⟩ | ⟨q1, _⟩
                · exact absurd q1 w
                · exact q1.1
            · by_cases u : h = a
              · rw [u]; exact ⟨k6, k7⟩
              · rw [(k5 h u).1, (k5 h u).2]
                obtain ⟨y1, y2⟩ := g2 h h0 h1 (by omega)
                exact ⟨zLw_c y1 (fun o _ _ => ⟨fun v => ⟨by omega, v.2⟩, fun v => ⟨by omega, v.2⟩⟩), zLw_c y2 (fun o _ _ => ⟨fun v => ⟨by omega, v.2⟩, fun v => ⟨by omega, v.2⟩⟩)⟩
          -- nothing new of the houses a and b
          have same : ¬ R b a → ¬ R a b → zLw c (fun o h => (h < a ∨ o < b + 1) ∧ R o h) (M2 156 a) a ∧ zLw c (fun o h => (h < a ∨ o < b + 1) ∧ R h o) (M2 157 a) a := fun n1 n2 => by
            refine ⟨zLw_c ga.1 (fun o _ _ => ⟨fun v => ⟨by omega, v.2⟩, fun v => ⟨?_, v.2⟩⟩), zLw_c ga.2 (fun o _ _ => ⟨fun v => ⟨by omega, v.2⟩, fun v => ⟨?_, v.2⟩⟩)⟩
            · have : o ≠ b := fun e => n1 (by rw [← e]; exact v.2)
              have := v.1
              omega
            · have : o ≠ b := fun e => n2 (by rw [← e]; exact v.2)
              have := v.1
              omega
          have fu : ∀ v, zf [155, 156, 157] [(151, 4)] M (z_up M2 155 (a * 8 + b) v) := fun v => zf_us f2 (by decide)
          refine ⟨by omega, fun z => ?_, fun z => ?_⟩
          · -- no letter tells them apart
            have zz : zmi len nam a b = -1 ∧ zmi len nam b a = -1 := by
              rcases sy with ⟨q1, q2, _⟩ | ⟨q1, _⟩
              · exact ⟨q1, q2⟩
              · omega
            refine ⟨fun e => ⟨fun _ => ?_, fun y => absurd e y⟩, fun e => ?_⟩
            · have n1 : ¬ R b a := fun r => ((eR _ _).mp r).1 e.symm
              have n2 : ¬ R a b := fun r => ((eR _ _).mp r).1 e
              obtain ⟨s1, s2⟩ := same n1 n2
              exact go _ (fu _) (by rw [zu_c (by decide)]; exact tr) (fun x _ w => by rw [zu_c (by decide)]; exact w) (fun i hi => zu_i hi) (zu_s _ _ _ _) (fun w => absurd z w) (fun h _ => ⟨zu_c (by decide), zu_c (by decide)⟩) (by rw [zu_c (by decide)]; exact s1) (by rw [zu_c (by decide)]; exact s2)
            · refine s_Town_isAheadAnyway (by omega) (by omega) ?_
              show (zia ((z_up M2 155 (a * 8 + b) (zmi len nam a b)) 26) a b = 0 → _) ∧ (¬ zia ((z_up M2 155 (a * 8 + b) (zmi len nam a b)) 26) a b = 0 → _)
              rw [show (z_up M2 155 (a * 8 + b) (zmi len nam a b)) 26 = len by rw [zu_f (by decide)]; exact l26]
              have i01 : zia len a b = 0 ∨ zia len a b = 1 := by unfold zia; (repeat' split) <;> omega
              refine ⟨fun y => ⟨fun y2 => absurd y2 e, fun _ => ⟨by omega, by omega, ?_⟩⟩, fun y => ⟨by omega, by omega, ?_⟩⟩
              · have rb : R b a := (eR _ _).mpr ⟨fun u => e u.symm, zz.2, (zia_n (fun u => e u.symm)).mpr (by omega)⟩
                have na : ¬ R a b := fun r => by have := ((eR _ _).mp r).2.2; omega
                rw [zu_c (a := 155) (b := 156) (by decide)]
                refine go _ (zf_us (fu _) (by decide)) (by rw [zu_c (by decide), zu_c (by decide)]; exact tr) (fun x _ w => by rw [zu_c (by decide), zu_c (by decide)]; exact w) (fun i hi => by rw [zu_c (by decide), zu_i hi]) (by rw [zu_c (by decide), zu_s]) (fun w => absurd z w) (fun h hh => ⟨by rw [zu_i hh, zu_c (by decide)], by rw [zu_c (by decide), zu_c (by decide)]⟩) ?_ ?_
                · rw [zu_s]
                  refine zLw_s hc.2 ga.1 (x := b) (by omega) (fun o o0 o1 => ?_)
                  constructor
                  · rintro ⟨v1, v2⟩
                    by_cases u : o = b
                    · exact Or.inr u
                    · exact Or.inl ⟨by omega, v2⟩
                  · rintro (⟨v1, v2⟩ | v)
                    · exact ⟨by omega, v2⟩
                    · rw [v]; exact ⟨by omega, rb⟩
                · rw [zu_c (by decide), zu_c (by decide)]
                  refine zLw_c ga.2 (fun o _ _ => ⟨fun v => ⟨by omega, v.2⟩, fun v => ⟨?_, v.2⟩⟩)
                  have : o ≠ b := fun u => na (by rw [← u]; exact v.2)
                  have := v.1
                  omega
              · have ra : R a b := (eR _ _).mpr ⟨e, zz.1, by omega⟩
                have nb : ¬ R b a := fun r => by have := (zia_n (len := len) (fun u => e u.symm)).mp ((eR _ _).mp r).2.2; omega
                rw [zu_c (a := 155) (b := 157) (by decide)]
                refine go _ (zf_us (fu _) (by decide)) (by rw [zu_c (by decide), zu_c (by decide)]; exact tr) (fun x _ w => by rw [zu_c (by decide), zu_c (by decide)]; exact w) (fun i hi => by rw [zu_c (by decide), zu_i hi]) (by rw [zu_c (by decide), zu_s]) (fun w => absurd z w) (fun h hh => ⟨by rw [zu_c (by decide), zu_c (by decide)], by rw [zu_i hh, zu_c (by decide)]⟩) ?_ ?_
                · rw [zu_c (by decide), zu_c (by decide)]
                  refine zLw_c ga.1 (fun o _ _ => ⟨fun v => ⟨by omega, v.2⟩, fun v => ⟨?_, v.2⟩⟩)
                  have : o ≠ b := fun u => nb (by rw [← u]; exact v.2)
                  have := v.1
                  omega
                · rw [zu_s]
                  refine zLw_s hc.2 ga.2 (x := b) (by omega) (fun o o0 o1 => ?_)
                  constructor
                  · rintro ⟨v1, v2⟩
                    by_cases u : o = b
                    · exact Or.inr u
                    · exact Or.inl ⟨by omega, v2⟩
                  · rintro (⟨v1, v2⟩ | v)
                    · exact ⟨by omega, v2⟩
                    · rw [v]; exact ⟨by omega, ra⟩
          · have zz : (0 ≤ zmi len nam a b ∧ zmi len nam a b < 8) ∧ (0 ≤ zmi len nam b a ∧ zmi len nam b a < 8) := by
              rcases sy with ⟨q1, q2, _⟩ | ⟨q1, q2, _⟩
              · omega
              · exact ⟨q1, q2⟩
            obtain ⟨s1, s2⟩ := same (fun r => by have := ((eR _ _).mp r).2.1; omega) (fun r => by have := ((eR _ _).mp r).2.1; omega)
            have e4 : (z_up M2 155 (a * 8 + b) (zmi len nam a b)) 151 4 = M2 151 4 := zu_c (by decide)
            rw [e4]
            refine go _ (zf_uj (fu _) (by decide)) (by rw [zu_s]; exact zbs_lt tr zz.1) (fun x x0 w => ?_) (fun i hi => by rw [zu_c (by decide), zu_i hi]) (by rw [zu_c (by decide), zu_s]) (fun _ => ?_) (fun h _ => ⟨by rw [zu_c (by decide), zu_c (by decide)], by rw [zu_c (by decide), zu_c (by decide)]⟩) (by rw [zu_c (by decide), zu_c (by decide)]; exact s1) (by rw [zu_c (by decide), zu_c (by decide)]; exact s2)
            · rw [zu_s]; exact zb_mo tr zz.1 w
            · rw [zu_s]
              show zb (zbs (M2 151 4) (zmi len nam a b)) (zmi len nam a b) = true
              rw [zb_zbs (by omega) (by omega) zz.1.1, decide_eq_true rfl]
              simp
      refine inner c.toNat 0 _ (by omega) (by omega) ((eI _ _ _).mpr ⟨zf_us (zf_us f1 (by decide)) (by decide), by rw [zu_c (by decide), zu_c (by decide)]; exact tr, fun x y x0 x1 y0 y1 z => ?_, fun h h0 h1 z => ?_⟩)
      · rw [zu_c (by decide), zu_c (by decide), zu_c (by decide), zu_c (by decide)]
        exact g1 x y x0 x1 y0 y1 (by omega)
      · by_cases u : h = a
        · rw [u, zu_c (by decide), zu_s, zu_s]
          refine ⟨⟨by omega, fun o o0 => ?_⟩, ⟨by omega, fun o o0 => ?_⟩⟩
          · rw [zb_0]
            constructor
            · intro v; cases v
            · rintro ⟨_, v, _⟩; omega
          · rw [zb_0]
            constructor
            · intro v; cases v
            · rintro ⟨_, v, _⟩; omega
        · rw [zu_c (by decide), zu_i u, zu_i u, zu_c (by decide)]
          obtain ⟨y1, y2⟩ := g2 h h0 h1 (by omega)
          exact ⟨zLw_c y1 (fun o _ _ => ⟨fun v => ⟨by omega, v.2⟩, fun v => ⟨by omega, v.2⟩⟩), zLw_c y2 (fun o _ _ => ⟨fun v => ⟨by omega, v.2⟩, fun v => ⟨by omega, v.2⟩⟩)⟩
  refine outer c.toNat 0 _ (by omega) (by omega) ((eI _ _ _).mpr ⟨zf_uj zf_rf (by decide), by rw [zu_s]; omega, fun x y x0 x1 y0 y1 z => by omega, fun h h0 h1 z => by omega⟩)

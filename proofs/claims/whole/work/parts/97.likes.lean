/-! likes() -/
def zTb (c : Nat) (len nam : Int → Int) (h : Int) (lo : Int) (M : zM) : Prop := ∀ s, lo ≤ s → s < 256 → M 147 s = zmL (zlo c len nam h) (8 - zcard s).toNat s
theorem zbs_gt {s i : Int} (hs : 0 ≤ s ∧ s < 256) (hi : 0 ≤ i ∧ i < 8) (h : zb s i = false) : s < zbs s i := by
  have l := zsub_le hs (zbs_lt hs hi) (fun x _ w => zb_mo hs hi w)
  have : s ≠ zbs s i := fun e => by
    have := zb_zbs (s := s) (i := i) (j := i) (by omega) (by omega) hi.1
    rw [← e, h] at this
    simp at this
  omega
theorem zmV_lo {c : Nat} {len nam : Int → Int} {h s : Int} (hc8 : c ≤ 8) (hs : 0 ≤ s ∧ s < 256) (hk : zcard s < 8) : zmL (zlo c len nam h) (8 - zcard s).toNat s = zmV (fun i => zlo c len nam h i s + zmL (zlo c len nam h) (7 - zcard s).toNat (zbs s i)) s 8 ∧ (0 ≤ zmL (zlo c len nam h) (8 - zcard s).toNat s ∧ zmL (zlo c len nam h) (8 - zcard s).toNat s ≤ 8) := by
  have cr := zcard_r s
  have e : (8 - zcard s).toNat = (7 - zcard s).toNat + 1 := by omega
  have b := zlo_b (c := c) (len := len) (nam := nam) (h := h) hc8 (8 - zcard s).toNat s hs (by omega)
  have cl := zcn_le (fun o => zDo len nam h o && !zb s (zAo len nam h o)) c
  have nn : ∀ f s, 0 ≤ zmL (zlo c len nam h) f s := by
    intro f
    induction f with
    | zero => intro s; show (0 : Int) ≤ 0; omega
    | succ f ih =>
      intro s
      have : ∀ n : Nat, 0 ≤ zmV (fun i => zlo c len nam h i s + zmL (zlo c len nam h) f (zbs s i)) s n := by
        intro n
        induction n with
        | zero => show (0 : Int) ≤ 2000000; omega
        | succ n ihn =>
          have l0 := (zcn_le (fun o => zDo len nam h o && (decide (zAo len nam h o = (n : Int)) && zb s (zBo len nam h o))) c).1
          have l0 : 0 ≤ zlo c len nam h n s := l0
          have := ih (zbs s n)
          unfold zmV
          split
          · exact ihn
          · split
            · show 0 ≤ zlo c len nam h n s + zmL (zlo c len nam h) f (zbs s n); omega
            · exact ihn
      exact this 8
  refine ⟨by rw [e]; rfl, nn _ _, by omega⟩
theorem s_Orders_leastNext {d c : Nat} {len nam : Int → Int} {h s : Int} {M : zM} {F : Int → zM → Prop} (hc8 : c ≤ 8) (hL : zLs c len nam h M) (hB : ∀ o : Int, 0 ≤ o → o < c → zDo len nam h o = true → 0 ≤ zBo len nam h o ∧ zBo len nam h o < 8) (hT : zTb c len nam h 0 M) (hs : 0 ≤ s ∧ s < 256) (hk : zcard s < 8) (H : F (zmX (fun i => zlo c len nam h i s + zmL (zlo c len nam h) (7 - zcard s).toNat (zbs s i)) s 8) M) : zCi (d + 3) 95 [z_r (2, 0) 144, z_i s] M F := by
  obtain ⟨e1, e2, e3⟩ := zmV_lo (c := c) (len := len) (nam := nam) (h := h) hc8 hs hk
  have cr := zcard_r s
  have tb : ∀ i, 0 ≤ i → i < 8 → zb s i = false → M 147 (zbs s i) = zmL (zlo c len nam h) (7 - zcard s).toNat (zbs s i) ∧ (0 ≤ M 147 (zbs s i) ∧ M 147 (zbs s i) ≤ 8) := fun i a b z => by
    have hc := zcard_zbs hs ⟨a, b⟩ z
    have r := zbs_lt hs (i := i) ⟨a, b⟩
    have : M 147 (zbs s i) = zmL (zlo c len nam h) (7 - zcard s).toNat (zbs s i) := by
      rw [hT _ r.1 r.2, show (8 - zcard (zbs s i)).toNat = (7 - zcard s).toNat by omega]
    refine ⟨this, ?_⟩
    by_cases w : zcard (zbs s i) < 8
    · have := (zmV_lo (c := c) (len := len) (nam := nam) (h := h) hc8 r w).2
      rw [hT _ r.1 r.2]; exact this
    · have c9 := zcard_r (zbs s i)
      rw [hT _ r.1 r.2, show (8 - zcard (zbs s i)).toNat = 0 by omega]
      show (0 : Int) ≤ 0 ∧ (0 : Int) ≤ 8
      omega
  have lr : ∀ i, 0 ≤ zlo c len nam h i s ∧ zlo c len nam h i s ≤ c := fun i => zcn_le _ c
  obtain ⟨i0, hi0, zi0⟩ := z_free hk
  have xs := zmX_s (g := fun i => zlo c len nam h i s + zmL (zlo c len nam h) (7 - zcard s).toNat (zbs s i)) (s := s) 8 ⟨i0, hi0, zi0, by
    have t := tb i0 hi0.1 hi0.2 zi0
    have := lr i0
    show zlo c len nam h i0 s + zmL (zlo c len nam h) (7 - zcard s).toNat (zbs s i0) < 2000000
    omega⟩
  obtain ⟨x1, x2, x3, x4, x5⟩ := xs
  rw [← e1] at x3 x4 x5
  have Ts : M 147 s = zmL (zlo c len nam h) (8 - zcard s).toNat s := hT s hs.1 hs.2
  generalize hX : zmX (fun i => zlo c len nam h i s + zmL (zlo c len nam h) (7 - zcard s).toNat (zbs s i)) s 8 = X at x1 x2 x3 x5 H
  refine e_Orders_leastNext (fun P hP => ?_)
  have loop : ∀ (m : Nat) (i : Int), i + m = X → 0 ≤ i → P s i M := by
    intro m
    induction m with
    | zero =>
      intro i hi i0
      have hi : i = X := by omega
      subst hi
      obtain ⟨t1, t2⟩ := tb i x1.1 (by omega) x2
      have l := lr i
      refine hP _ _ _ ⟨fun z => absurd z (by omega), fun _ => s_W_isIn (by omega) (by omega) ?_⟩
      rw [if_neg (by rw [x2]; decide)]
      refine ⟨fun z => absurd rfl z, fun _ => s_Orders_loss hc8 hL hB (by omega) hs ⟨zbs_lt hs (by omega), hs, fun z => ?_, fun _ => H⟩⟩
      exfalso
      apply z
      show z_wr (zlo c len nam h i s + M 147 (zbs s i)) = M 147 s
      rw [zw (by omega) (by omega), t1, Ts]; exact x3
    | succ m ih =>
      intro i hi i0
      have nx := ih (i + 1) (by omega) (by omega)
      refine hP _ _ _ ⟨fun z => absurd z (by omega), fun _ => s_W_isIn (by omega) (by omega) ?_⟩
      rw [zw (x := i + 1) (by omega) (by omega)]
      by_cases z : zb s i = true
      · rw [if_pos z]
        exact ⟨fun _ => nx, fun y => absurd (by decide) y⟩
      · rw [if_neg z]
        have z' : zb s i = false := by simpa using z
        obtain ⟨t1, t2⟩ := tb i i0 (by omega) z'
        have l := lr i
        refine ⟨fun y => absurd rfl y, fun _ => s_Orders_loss hc8 hL hB (by omega) hs ⟨zbs_lt hs (by omega), hs, fun _ => nx, fun y => ?_⟩⟩
        exfalso
        have y := Classical.not_not.mp y
        have y : z_wr (zlo c len nam h i s + M 147 (zbs s i)) = M 147 s := y
        rw [zw (by omega) (by omega), t1, Ts] at y
        exact x5 i i0 (by omega) z' y
  exact loop X.toNat 0 (by omega) (by omega)
theorem zmV_m {g : Int → Int} {s : Int} (n : Nat) : zmV g s (n + 1) = if zb s (n : Int) = true then zmV g s n else if g n < zmV g s n then g n else zmV g s n := rfl
theorem s_Orders_leastPlace {d : Nat} {c h : Int} {t0 : Int → Int} {M : zM} {F : Int → zM → Prop} (ht : zTn c (M 24) (M 26) (M 25)) (hc : M 23 5 = c) (hh : 0 ≤ h ∧ h < c) (H : ∀ M', zf [145, 146, 147, 160] [] M M' → (∀ j, 0 ≤ j → j < 8 → M' 160 j = zmA (zlo c.toNat (M 26) (M 25) h) 8 t0 0 j) → F (zan c.toNat (M 26) (M 25) h + zmL (zlo c.toNat (M 26) (M 25) h) 8 0) M') : zCi (d + 4) 92 [z_r (2, 0) 144, z_r (9, 0) 23, z_i h, z_r (100, 8) 160] M F := by
  have c8 := ht.1
  have hc8 : c.toNat ≤ 8 := by omega
  have hB : ∀ o : Int, 0 ≤ o → o < ((c.toNat : Nat) : Int) → zDo (M 26) (M 25) h o = true → 0 ≤ zBo (M 26) (M 25) h o ∧ zBo (M 26) (M 25) h o < 8 := fun o a b z => by
    have q := of_decide_eq_true z
    have lo := ht.2.2.1 o a (by omega)
    have lh := ht.2.2.1 h hh.1 hh.2
    obtain ⟨dd, -, -⟩ := zdf_s (len := M 26) (nam := M 25) (a := o) (b := h) (by omega) (by omega)
    have mb : zmn (M 26) o h ≤ M 26 o := by unfold zmn; split <;> omega
    exact ht.2.2.2 _ (by omega) (by omega)
  generalize hlen : M 26 = len at *
  generalize hnam : M 25 = nam at *
  refine e_Orders_leastPlace (fun P Q R hP hQ hR => s_Orders_lossesOf (c := c) (by rw [hlen, hnam]; exact ht) hc hh (fun M1 f1 L1 => ?_))
  rw [hlen, hnam] at L1 ⊢
  have anb : 0 ≤ zan c.toNat len nam h ∧ zan c.toNat len nam h ≤ ((c.toNat : Nat) : Int) := zcn_le _ _
  have lr : ∀ i s, 0 ≤ zlo c.toNat len nam h i s ∧ zlo c.toNat len nam h i s ≤ ((c.toNat : Nat) : Int) := fun i s => zcn_le _ _
  have Ls : ∀ M2, zf [147, 160] [] M1 M2 → zLs c.toNat len nam h M2 := fun M2 f2 => by
    obtain ⟨l1, l2⟩ := L1
    exact ⟨fun a b a0 a1 b0 b1 => by rw [zf_c f2 145 rfl]; exact l1 a b a0 a1 b0 b1, fun a a0 a1 => by rw [zf_c f2 146 rfl]; exact l2 a a0 a1⟩
  -- the order
  have order : ∀ (f k : Nat) (t : Int → Int) (s : Int) (M2 : zM), k + f = 8 → (0 ≤ s ∧ s < 256) → zcard s = k → zf [147, 160] [] M1 M2 → zTb c.toNat len nam h 0 M2 → (∀ j : Int, 0 ≤ j → j < k → M2 160 j = t j) → zmA (zlo c.toNat len nam h) f t s = zmA (zlo c.toNat len nam h) 8 t0 0 → R 23 h 8 160 (zan c.toNat len nam h) s (k : Int) M2 := by
    intro f
    induction f with
    | zero =>
      intro k t s M2 hk hs hcs f2 T2 o2 e2
      have : k = 8 := by omega
      subst this
      have T0 := T2 0 (by omega) (by omega)
      have zr := (zmV_lo (c := c.toNat) (len := len) (nam := nam) (h := h) hc8 (s := 0) (by omega) (by decide)).2
      refine hR _ _ _ _ _ _ _ _ ⟨fun _ => ⟨by decide, ?_⟩, fun z => absurd (by decide) z⟩
      rw [T0, zw (by omega) (by omega), show (8 - zcard 0).toNat = 8 by decide]
      refine H M2 (zf_ww (zf_tr f1 f2) rfl rfl) (fun j a b => ?_)
      rw [o2 j a b, ← e2]; rfl
    | succ f ih =>
      intro k t s M2 hk hs hcs f2 T2 o2 e2
      refine hR _ _ _ _ _ _ _ _ ⟨fun z => absurd z (by omega), fun _ => s_Orders_leastNext hc8 (Ls M2 f2) hB T2 hs (by omega) ⟨by omega, ?_⟩⟩
      obtain ⟨i0, hi0, zi0⟩ := z_free (s := s) (by omega)
      have ef : (7 - zcard s).toNat = f := by omega
      rw [ef]
      have bb := zlo_b (c := c.toNat) (len := len) (nam := nam) (h := h) hc8 f (zbs s i0) (zbs_lt hs hi0) (by have := zcard_zbs hs hi0 zi0; omega)
      have cl := zcn_le (fun o => zDo len nam h o && !zb (zbs s i0) (zAo len nam h o)) c.toNat
      have xs := zmX_s (g := fun i => zlo c.toNat len nam h i s + zmL (zlo c.toNat len nam h) f (zbs s i)) (s := s) 8 ⟨i0, hi0, zi0, by
        have := lr i0 s
        show zlo c.toNat len nam h i0 s + zmL (zlo c.toNat len nam h) f (zbs s i0) < 2000000
        omega⟩
      have e2 : zmA (zlo c.toNat len nam h) f (fun j => if j = 7 - (f : Int) then zmX (fun i => zlo c.toNat len nam h i s + zmL (zlo c.toNat len nam h) f (zbs s i)) s 8 else t j) (zbs s (zmX (fun i => zlo c.toNat len nam h i s + zmL (zlo c.toNat len nam h) f (zbs s i)) s 8)) = zmA (zlo c.toNat len nam h) 8 t0 0 := e2
      generalize zmX (fun i => zlo c.toNat len nam h i s + zmL (zlo c.toNat len nam h) f (zbs s i)) s 8 = X at xs e2
      rw [zw (x := (k : Int) + 1) (by omega) (by omega)]
      have hX : 0 ≤ X ∧ X < 8 := by have := xs.1; omega
      have nx := ih (k + 1) (fun j => if j = 7 - (f : Int) then X else t j) (zbs s X) (z_up M2 160 k X) (by omega) (zbs_lt hs hX) (by rw [zcard_zbs hs hX xs.2.1]; omega) (zf_us f2 (by decide)) (fun s a b => by rw [zu_c (by decide)]; exact T2 s a b) (fun j a b => ?_) e2
      · rw [show ((k + 1 : Nat) : Int) = (k : Int) + 1 by omega] at nx
        exact nx
      · show _ = if j = 7 - (f : Int) then X else t j
        by_cases q : j = k
        · rw [q, zu_s, if_pos (by omega)]
        · rw [zu_i q, if_neg (by omega)]; exact o2 j a (by omega)
  -- the table
  have table : ∀ (m : Nat) (s : Int) (M2 : zM), s + 1 = m → s < 256 → zf [147, 160] [] M1 M2 → zTb c.toNat len nam h (s + 1) M2 → P 23 h 8 160 (zan c.toNat len nam h) s M2 := by
    intro m
    induction m with
    | zero =>
      intro s M2 hs s8 f2 T2
      refine hP _ _ _ _ _ _ _ ⟨fun _ => order 8 0 t0 0 M2 (by omega) (by omega) (by decide) f2 (fun x a b => T2 x (by omega) b) (fun j a b => by omega) rfl, fun z => absurd (by omega) z⟩
    | succ m ih =>
      intro s M2 hs s8 f2 T2
      have s0 : 0 ≤ s ∧ s < 256 := by omega
      have cr := zcard_r s
      have go : ∀ v M3, zf [147, 160] [] M1 M3 → zTb c.toNat len nam h (s + 1) M3 → v = zmL (zlo c.toNat len nam h) (8 - zcard s).toNat s → M3 147 s = v → P 23 h 8 160 (zan c.toNat len nam h) (s - 1) M3 := fun v M3 f3 T3 hv e3 => by
        refine ih (s - 1) M3 (by omega) (by omega) f3 (fun x a b => ?_)
        by_cases q : x = s
        · rw [q, e3, hv]
        · exact T3 x (by omega) b
      have zt : z_wr (s + (-1)) = s - 1 := by rw [zw (by omega) (by omega)]; omega
      by_cases full : zcard s = 8
      · have all : ∀ i, 0 ≤ i → i < 8 → zb s i = true := fun i a b => by
          cases y : zb s i
          · have := zcard_zbs s0 ⟨a, b⟩ y
            have := zcard_r (zbs s i)
            omega
          · rfl
        have s255 : s = 255 := by
          refine zb_ext s0.1 (by omega) (fun j j0 => ?_)
          by_cases w : j < 8
          · rw [all j j0 w]
            have : j = 0 ∨ j = 1 ∨ j = 2 ∨ j = 3 ∨ j = 4 ∨ j = 5 ∨ j = 6 ∨ j = 7 := by omega
            rcases this with rfl | rfl | rfl | rfl | rfl | rfl | rfl | rfl <;> decide
          · rw [zb_ge s0 (by omega), zb_ge (by omega) (by omega)]
        refine hP _ _ _ _ _ _ _ ⟨fun z => absurd z (by omega), fun _ => ⟨fun z => absurd s255 z, fun _ => ⟨s0, ?_⟩⟩⟩
        have inner : ∀ (m i : Nat) (M3 : zM), i + m = 8 → zf [147, 160] [] M1 M3 → zTb c.toNat len nam h (s + 1) M3 → M3 147 s = 0 → Q 23 h 8 160 (zan c.toNat len nam h) s (i : Int) M3 := by
          intro m
          induction m with
          | zero =>
            intro i M3 hi f3 T3 e3
            refine hQ _ _ _ _ _ _ _ _ ⟨fun _ => ?_, fun z => absurd (by omega) z⟩
            rw [zt]
            exact go 0 M3 f3 T3 (by rw [full]; rfl) e3
          | succ m ih2 =>
            intro i M3 hi f3 T3 e3
            refine hQ _ _ _ _ _ _ _ _ ⟨fun z => absurd z (by omega), fun _ => s_W_isIn (by omega) (by omega) ?_⟩
            rw [if_pos (all i (by omega) (by omega)), zw (x := (i : Int) + 1) (by omega) (by omega)]
            refine ⟨fun _ => ?_, fun z => absurd (by decide) z⟩
            have := ih2 (i + 1) M3 (by omega) f3 T3 e3
            rw [show ((i + 1 : Nat) : Int) = (i : Int) + 1 by omega] at this
            exact this
        exact inner 8 0 _ (by omega) (zf_us f2 (by decide)) (fun x a b => by rw [zu_i (by omega)]; exact T2 x a b) (zu_s _ _ _ _)
      · have hk : zcard s < 8 := by omega
        have n255 : s ≠ 255 := fun e => full (by rw [e]; decide)
        obtain ⟨e1, e2, e3⟩ := zmV_lo (c := c.toNat) (len := len) (nam := nam) (h := h) hc8 s0 hk
        refine hP _ _ _ _ _ _ _ ⟨fun z => absurd z (by omega), fun _ => ⟨fun _ => ⟨s0, ?_⟩, fun z => absurd n255 z⟩⟩
        have inner : ∀ (m i : Nat) (M3 : zM), i + m = 8 → zf [147, 160] [] M1 M3 → zTb c.toNat len nam h (s + 1) M3 → M3 147 s = (if zmV (fun i => zlo c.toNat len nam h i s + zmL (zlo c.toNat len nam h) (7 - zcard s).toNat (zbs s i)) s i < 8 then zmV (fun i => zlo c.toNat len nam h i s + zmL (zlo c.toNat len nam h) (7 - zcard s).toNat (zbs s i)) s i else 8) → Q 23 h 8 160 (zan c.toNat len nam h) s (i : Int) M3 := by
          intro m
          induction m with
          | zero =>
            intro i M3 hi f3 T3 x3
            have : i = 8 := by omega
            subst this
            refine hQ _ _ _ _ _ _ _ _ ⟨fun _ => ?_, fun z => absurd (by decide) z⟩
            rw [zt]
            refine go _ M3 f3 T3 ?_ x3
            rw [← e1]
            split <;> omega
          | succ m ih2 =>
            intro i M3 hi f3 T3 x3
            have nx := ih2 (i + 1)
            rw [show ((i + 1 : Nat) : Int) = (i : Int) + 1 by omega, zmV_m] at nx
            refine hQ _ _ _ _ _ _ _ _ ⟨fun z => absurd z (by omega), fun _ => s_W_isIn (by omega) (by omega) ?_⟩
            rw [zw (x := (i : Int) + 1) (by omega) (by omega)]
            by_cases z : zb s (i : Int) = true
            · rw [if_pos z] at nx ⊢
              exact ⟨fun _ => nx M3 (by omega) f3 T3 x3, fun y => absurd (by decide) y⟩
            · rw [if_neg z] at nx ⊢
              have z' : zb s (i : Int) = false := by simpa using z
              have hi8 : 0 ≤ (i : Int) ∧ (i : Int) < 8 := by omega
              have hcb := zcard_zbs s0 hi8 z'
              have rb := zbs_lt s0 hi8
              have gt := zbs_gt s0 hi8 z'
              have tb : M3 147 (zbs s i) = zmL (zlo c.toNat len nam h) (7 - zcard s).toNat (zbs s i) := by
                rw [T3 _ (by omega) rb.2, show (8 - zcard (zbs s i)).toNat = (7 - zcard s).toNat by omega]
              have tr : 0 ≤ zmL (zlo c.toNat len nam h) (7 - zcard s).toNat (zbs s i) ∧ zmL (zlo c.toNat len nam h) (7 - zcard s).toNat (zbs s i) ≤ 8 := by
                by_cases w : zcard (zbs s i) < 8
                · have := (zmV_lo (c := c.toNat) (len := len) (nam := nam) (h := h) hc8 rb w).2
                  rw [show (8 - zcard (zbs s i)).toNat = (7 - zcard s).toNat by omega] at this; exact this
                · have c9 := zcard_r (zbs s i)
                  rw [show (7 - zcard s).toNat = 0 by omega]
                  show (0 : Int) ≤ 0 ∧ (0 : Int) ≤ 8
                  omega
              have l := lr i s
              refine ⟨fun y => absurd rfl y, fun _ => ⟨s0, s_Orders_loss hc8 (Ls M3 f3) hB hi8 s0 ⟨rb, s0, ?_⟩⟩⟩
              show Q 23 h 8 160 _ s _ (z_up M3 147 s (if z_wr (zlo c.toNat len nam h i s + M3 147 (zbs s i)) < M3 147 s then z_wr (zlo c.toNat len nam h i s + M3 147 (zbs s i)) else M3 147 s))
              rw [tb, zw (x := zlo c.toNat len nam h i s + _) (by omega) (by omega), x3]
              refine nx _ (by omega) (zf_us f3 (by decide)) (fun x a b => by rw [zu_i (by omega)]; exact T3 x a b) ?_
              rw [zu_s]
              generalize zmV (fun i => zlo c.toNat len nam h i s + zmL (zlo c.toNat len nam h) (7 - zcard s).toNat (zbs s i)) s i = V
              generalize zlo c.toNat len nam h i s + zmL (zlo c.toNat len nam h) (7 - zcard s).toNat (zbs s i) = G
              by_cases w1 : V < 8
              · rw [if_pos w1]
                by_cases w2 : G < V
                · rw [if_pos w2, if_pos (by omega)]
                · rw [if_neg w2, if_pos w1]
              · rw [if_neg w1]
                by_cases w2 : G < 8
                · rw [if_pos w2, if_pos (show G < V by omega), if_pos w2]
                · rw [if_neg w2]
                  by_cases w3 : G < V
                  · rw [if_pos w3, if_neg w2]
                  · rw [if_neg w3, if_neg w1]
        exact inner 8 0 _ (by omega) (zf_us f2 (by decide)) (fun x a b => by rw [zu_i (by omega)]; exact T2 x a b) (by rw [zu_s]; rfl)
  exact table 256 255 M1 (by omega) (by omega) zf_rf (fun s a b => by omega)
theorem p_likes {d : Nat} {h n : Int} {M : zM} (hI : zI n M) (hn : n < 512) : zQ (d + 14) 91 221 [z_r (10, 0) 0, z_i h] [z_r (11, 0) 179, z_i h] n M := by
  have hI0 := hI
  obtain ⟨hb, hT, hR, hJ⟩ := hI
  have hJ0 := hJ
  obtain ⟨i1, i2, i3, i4, i5, i6, i7, i8⟩ := zJ_in hJ
  obtain ⟨c1, c2, c3⟩ := zJ_count hJ
  have ref : ¬ (0 ≤ h ∧ h < M 179 3) → zCi (d + 14) 221 [z_r (11, 0) 179, z_i h] M (fun v' M2 => -1 = v' ∧ zI (n + 1) M2) := by
    intro hno
    refine e_M_likes (s_M_isHouse (by rw [zu_i (by decide)]; exact ⟨c2, c3⟩) ?_)
    rw [zu_i (by decide), if_neg hno]
    exact ⟨fun z => absurd rfl z, fun _ => ⟨rfl, zI_q hI0 hn⟩⟩
  unfold zQ
  refine e_W_likes (s_Town_has ?_)
  rw [c1]
  by_cases hh : 0 ≤ h ∧ h < M 179 3
  · rw [if_pos hh]
    refine ⟨fun _ => s_Orders_leastPlace (t0 := fun _ => 0) i4 c1 hh (fun M1 f1 o1 => s_Row_tellAll (by decide) (by decide) (by decide) (fun M2 f2 r1 r2 => ?_)), fun z => absurd (by decide) z⟩
    have f12 := zf_tr f1 f2
    have f13 : zf ([145, 146, 147, 160] ++ [4]) ([] ++ [(3, 1)] ++ [(179, 0)]) M (z_up M2 179 0 0) := zf_uj (zf_ww f12 rfl rfl) (by decide)
    have e3 : (z_up M2 179 0 0) 179 3 = M 179 3 := zf_a f13 179 3 rfl
    have nm : znm (M 179 3) (M 26) (M 25) := ⟨i4.1, i4.2.2.1, fun x i a b a' b' => by have := i4.2.2.1 x a b; have := i4.1; exact i4.2.2.2 _ (by omega) (by omega)⟩
    refine e_M_likes (s_M_isHouse (by rw [e3]; exact ⟨c2, c3⟩) ?_)
    rw [e3, if_pos hh]
    have rw3 : zRw (z_up M2 179 0 0) 183 (M 179 3) (M 24) (M 26) (M 25) := zRw_f (S := []) (J := []) i5 (zf_c f13 183 rfl)
    refine ⟨fun _ => s_M_laysUnlike (by decide) (by decide) (by rw [e3]; exact zRw_nm i4 rw3) (fun M3 f3 U3 => ?_), fun z => absurd (by decide) z⟩
    rw [e3] at U3
    have U4 : zUn M3 (M 179 3) (M 26) (M 25) := zUn_c i4 rw3 U3
    generalize hB : z_up (z_up M3 179 44 h) 179 43 1000000 = B
    have fB : zf [194, 195, 196] [(179, 44), (179, 43)] (z_up M2 179 0 0) B := by rw [← hB]; exact zf_uj (zf_uj (zf_ww f3 rfl rfl) (by decide)) (by decide)
    have B3 : B 179 3 = M 179 3 := by rw [zf_a fB 179 3 rfl]; exact e3
    have B44 : B 179 44 = h := by rw [← hB, zu_i (by decide), zu_s]
    have B43 : B 179 43 = 1000000 := by rw [← hB, zu_s]
    have BU : zUn B (M 179 3) (M 26) (M 25) := fun a b a0 a1 b0 b1 => by
      rw [← hB, zu_c (by decide), zu_c (by decide), zu_c (by decide), zu_c (by decide), zu_c (by decide), zu_c (by decide)]; exact U4 a b a0 a1 b0 b1
    have gt := s_M_goesThrough (Inv := zLi B) (up := zup (fun t => zpl (M 179 3) (zrk t) (M 26) (M 25) h)) (w := 1) (d := d + 4) (fun Ma Mb q hq f => ⟨zf_ww (zf_tr hq.1 f) rfl rfl, by rw [zf_a f 179 43 rfl]; exact hq.2.1, fun j a b => by rw [zf_c f 207 rfl]; exact hq.2.2 j a b⟩) (fun Ma q t F' hq hp ht' H' => s_looks1 B3 nm BU B44 hh Ma q t F' hq hp ht' H') 8 0 0 (fun _ => 0) (1000000, B 207) B
    rw [show d + 4 + 8 + 1 = d + 13 by omega] at gt
    refine gt _ (by omega) (by omega) (zPx_0 _) ⟨zf_rf, B43, fun j _ _ => rfl⟩ (fun j a b => by omega) (fun M6 h6 _ => ?_)
    have zm := zgo_min (lo := zlo (M 179 3).toNat (M 26) (M 25) h) (a := zan (M 179 3).toNat (M 26) (M 25) h) (C := fun t => zpl (M 179 3) (zrk t) (M 26) (M 25) h) (zcn_le _ _).1 (fun i s => (zcn_le _ _).1) (fun t s hp => zpl_sum nm hh (zPx_p hp)) 8 0 (fun _ => 0) 0 1000000 (B 207) (by omega) (zPx_0 _) rfl (by omega)
    have an : 0 ≤ zan (M 179 3).toNat (M 26) (M 25) h ∧ zan (M 179 3).toNat (M 26) (M 25) h ≤ (((M 179 3).toNat : Nat) : Int) := zcn_le _ _
    have ml := (zmV_lo (c := (M 179 3).toNat) (len := M 26) (nam := M 25) (h := h) (by omega) (s := 0) (by omega) (by decide)).2
    rw [show (8 - zcard 0).toNat = 8 by decide] at ml
    have a0 : zac2 (zlo (M 179 3).toNat (M 26) (M 25) h) (fun _ => 0) 0 = 0 := rfl
    rw [a0, Int.add_zero, if_pos (by omega)] at zm
    rw [zm] at h6
    obtain ⟨y1, y2, y3⟩ := h6
    rw [y2]
    refine s_M_tellsTurn (fun M7 f7 q1 q2 => ⟨rfl, ?_⟩)
    have f16 := zf_tr (zf_tr f13 fB) y1
    refine zI_2 hI0 hn (zf_tr f16 f7) rfl rfl 8 (by omega) ?_ q1 (fun j a b => ?_)
    · rw [zf_a f7 3 1 rfl, zf_a y1 3 1 rfl, zf_a fB 3 1 rfl, zu_c (by decide)]; exact r1
    · rw [zf_c f7 4 rfl, zf_c y1 4 rfl, zf_c fB 4 rfl, zu_c (by decide), r2 j a b, o1 j a b, q2 j a b, y3 j a b]
  · rw [if_neg hh]
    exact ⟨fun z => absurd rfl z, fun _ => ref hh⟩

/-! lot() -/
def zfac : Nat → Int
  | 0 => 1
  | n + 1 => zfac n * ((n : Int) + 1)
theorem zfac_r (n : Nat) (h : n ≤ 8) : 1 ≤ zfac n ∧ zfac n ≤ 40320 := by
  have t : ∀ k : Fin 9, 1 ≤ zfac k.val ∧ zfac k.val ≤ 40320 := by decide
  exact t ⟨n, by omega⟩
theorem zfac_m {a b : Nat} (ha : a ≤ 8) (hb : b ≤ 8) : 0 ≤ zfac a * zfac b ∧ zfac a * zfac b ≤ 1625702400 := by
  have h1 := zfac_r a ha
  have h2 := zfac_r b hb
  refine ⟨Int.mul_nonneg (by omega) (by omega), ?_⟩
  have := Int.mul_le_mul h1.2 h2.2 (by omega) (by omega)
  omega
theorem s_W_factorial {d : Nat} {n : Int} {M : zM} {F : Int → zM → Prop} (hn : n ≤ 8) (H : F (zfac n.toNat) M) : zCl (d + 1) 114 [z_i n] M F := by
  refine e_W_factorial (fun P hP => ?_)
  have loop : ∀ (m i : Nat), i + m = 8 → 1 ≤ i → (1 ≤ n → (i : Int) ≤ n) → (n < 1 → i = 1) → P n (zfac i) ((i : Int) + 1) M := by
    intro m
    induction m with
    | zero =>
      intro i hi i1 h1 h0
      refine hP _ _ _ _ ⟨fun _ => ?_, fun z => absurd (by omega) z⟩
      rw [show n.toNat = i by omega] at H; exact H
    | succ m ih =>
      intro i hi i1 h1 h0
      refine hP _ _ _ _ ⟨fun z => ?_, fun z => ?_⟩
      · by_cases q : 1 ≤ n
        · rw [show n.toNat = i by omega] at H; exact H
        · rw [show n.toNat = 0 by omega] at H
          rw [h0 (by omega)]; exact H
      · have nx := ih (i + 1) (by omega) (by omega) (by omega) (by omega)
        have r := zfac_r (i + 1) (by omega)
        have e : zfac (i + 1) = zfac i * ((i : Int) + 1) := rfl
        rw [← e, zwl (by omega) (by omega), zw (x := (i : Int) + 1 + 1) (by omega) (by omega)]
        rw [show ((i + 1 : Nat) : Int) = (i : Int) + 1 by omega] at nx
        exact nx
  exact loop 7 1 (by omega) (by omega) (by omega) (by omega)
def zlg (c h w : Int) (th : Int → Int) (s : Int) : Int := if zb s h = true then 0 else if w < zss th s + th h then 0 else zfac (zcard s).toNat * zfac (c - 1 - zcard s).toNat
theorem zlg_r {c h w : Int} {th : Int → Int} {s : Int} (hc : c ≤ 8) : 0 ≤ zlg c h w th s ∧ zlg c h w th s ≤ 1625702400 := by
  have := zcard_r s
  unfold zlg
  split
  · omega
  · split
    · omega
    · exact zfac_m (by omega) (by omega)
theorem p_lot {d : Nat} {h n : Int} {M : zM} (hI : zI n M) (hn : n < 512) : zQ (d + 35) 113 232 [z_r (10, 0) 0, z_i h] [z_r (11, 0) 179, z_i h] n M := by
  have hI0 := hI
  obtain ⟨hb, hT, hR, hJ⟩ := hI
  have hJ0 := hJ
  obtain ⟨i1, i2, i3, i4, i5, i6, i7, i8⟩ := zJ_in hJ
  obtain ⟨c1, c2, c3⟩ := zJ_count hJ
  have hH := hJ.2.1
  have ref : ¬ (0 ≤ h ∧ h < M 179 3) → zCi (d + 35) 232 [z_r (11, 0) 179, z_i h] M (fun v' M2 => -1 = v' ∧ zI (n + 1) M2) := by
    intro hno
    refine e_M_lot (fun P1 P2 P3 P4 h1 h2 h3 h4 => s_M_isHouse (by rw [zu_i (by decide)]; exact ⟨c2, c3⟩) ?_)
    rw [zu_i (by decide), if_neg hno]
    exact ⟨fun z => absurd rfl z, fun _ => ⟨rfl, zI_q hI0 hn⟩⟩
  unfold zQ
  refine e_W_lot (fun P hP => s_Town_has ?_)
  rw [c1]
  by_cases hh : 0 ≤ h ∧ h < M 179 3
  · rw [if_pos hh]
    have h8 : 0 ≤ h ∧ h < 8 := by omega
    refine ⟨fun _ => e_W_yieldToday (s_W_yieldAt hJ i8.1 (fun M1 f1 => ⟨h8, ?_⟩)), fun z => absurd (by decide) z⟩
    have k46 : M1 46 = M 46 := zf_c f1 46 rfl
    have k5 : M1 23 5 = M 179 3 := by rw [zf_a f1 23 5 rfl]; exact c1
    have t9 := hH h hh.1 hh.2
    have wr := zW_r M (M 23 6)
    rw [k46, k5, zw (x := zW M (M 23 6) - M 46 h) (by omega) (by omega), zw (x := M 179 3 - 1) (by omega) (by omega)]
    have hN1 : z_shl 1 (M 179 3) = ((2 ^ (M 179 3).toNat : Nat) : Int) := z_shl1 (by omega)
    have hN2 : ((2 ^ (M 179 3).toNat : Nat) : Int) ≤ 256 := by
      have : 2 ^ (M 179 3).toNat ≤ 2 ^ 8 := Nat.pow_le_pow_right (by omega) (by omega)
      omega
    have bits : ∀ x : Int, 0 ≤ x → x < ((2 ^ (M 179 3).toNat : Nat) : Int) → ∀ h, 0 ≤ h → zb x h = true → h < M 179 3 := fun x a b => (zb_lt2 ⟨c2, c3⟩ a).mp b
    generalize hNN : (2 ^ (M 179 3).toNat : Nat) = N at hN1 hN2 bits
    generalize hw : zW M (M 23 6) = w at wr
    have gr := fun s => zlg_r (c := M 179 3) (h := h) (w := w) (th := M 46) (s := s) c3
    have loop : ∀ (m s : Nat), s + m = N → P h (w - M 46 h) (M 179 3 - 1) (zsm (zlg (M 179 3) h w (M 46)) s) (s : Int) M1 := by
      intro m
      induction m with
      | zero =>
        intro s hs
        have hs : s = N := by omega
        subst hs
        refine hP _ _ _ _ _ _ ⟨fun _ => ?_, fun z => absurd (by rw [k5, hN1]; omega) z⟩
        rw [k5]
        have sb := zsm_b (f := zlg (M 179 3) h w (M 46)) (B := 1625702400) s (fun x _ _ => gr x)
        have fr := zfac_r (M 179 3).toNat (by omega)
        refine s_W_factorial (by omega) (s_Row_tellFraction sb.1 (by omega) (fun _ => by omega) (fun M2 f2 r1 r2 r3 => ?_))
        rw [if_pos fr.1] at r2 r3
        have f12 := zf_tr f1 f2
        have f13 : zf ([7, 8, 9, 10, 11, 12, 13] ++ [4]) ([(5, 9)] ++ [(3, 1)] ++ [(179, 0)]) M (z_up M2 179 0 0) := zf_uj (zf_ww f12 rfl rfl) (by decide)
        have hJ3 := zJ_f hJ0 f13 rfl
        refine e_M_lot (fun P1 P2 P3 P4 h1 h2 h3 h4 => s_M_isHouse (by rw [zf_a f13 179 3 rfl]; exact ⟨c2, c3⟩) ?_)
        rw [zf_a f13 179 3 rfl, if_pos hh]
        have e80 : (z_up M2 179 0 0) 183 80 = M 23 6 := by rw [zf_c f13 183 rfl]; exact i7
        rw [e80]
        refine ⟨fun _ => ⟨by decide, s_M_yieldAt hJ3 i8.1 (fun M4 f4 => ?_)⟩, fun z => absurd (by decide) z⟩
        rw [zW_f f13 rfl, hw]
        have f14 := zf_tr f13 f4
        have e43 : M4 179 3 = M 179 3 := zf_a f14 179 3 rfl
        have e184 : M4 182 = M 182 := zf_c f14 182 rfl
        -- the sets
        have sets : ∀ (m t : Nat), t + m = s → P2 h w (zsm (zlg (M 179 3) h w (M 46)) t) (zfac (M 179 3).toNat) (t : Int) M4 := by
          intro m
          induction m with
          | zero =>
            intro t ht
            have ht : t = s := by omega
            subst ht
            refine h2 _ _ _ _ _ _ ⟨fun _ => ?_, fun z => absurd (by rw [e43, hN1]; omega) z⟩
            refine s_M_tellsFraction sb.1 (by omega) (fun M5 f5 q1 q2 q3 => ⟨rfl, ?_⟩)
            refine zI_2 hI0 hn (zf_tr f14 f5) rfl rfl 2 (by omega) ?_ q1 (fun i a b => ?_)
            · rw [zf_a f5 3 1 rfl, zf_a f4 3 1 rfl, zu_c (by decide)]; exact r1
            · rw [zf_c f5 4 rfl, zf_c f4 4 rfl, zu_c (by decide)]
              have : i = 0 ∨ i = 1 := by omega
              rcases this with rfl | rfl
              · rw [r2, q2]
              · rw [r3, q3]
          | succ m ih =>
            intro t ht
            have nx := ih (t + 1) (by omega)
            have st := zsm_b (f := zlg (M 179 3) h w (M 46)) (B := 1625702400) t (fun x _ _ => gr x)
            have gt := gr t
            have e : zsm (zlg (M 179 3) h w (M 46)) (t + 1) = zsm (zlg (M 179 3) h w (M 46)) t + zlg (M 179 3) h w (M 46) t := rfl
            rw [e, show ((t + 1 : Nat) : Int) = (t : Int) + 1 by omega] at nx
            have cr := zcard_r t
            have btt := bits t (by omega) (by omega)
            refine h2 _ _ _ _ _ _ ⟨fun z => absurd z (by rw [e43, hN1]; omega), fun _ => s_M_has (by omega) (by omega) ?_⟩
            rw [zw (x := (t : Int) + 1) (by omega) (by omega)]
            by_cases q1 : zb t h = true
            · rw [if_pos q1]
              refine ⟨fun _ => ?_, fun z => absurd (by decide) z⟩
              unfold zlg at nx
              rw [if_pos q1, Int.add_zero] at nx
              exact nx
            · rw [if_neg q1]
              refine ⟨fun z => absurd rfl z, fun _ => s_M_thirstOf (th := M 46) (by rw [e43]; exact ⟨c2, c3⟩) (by omega) (by rw [e43]; exact btt) (by rw [e43, e184]; exact fun x a b => ⟨(i6 x a b).1, by have := hH x a b; omega, by have := hH x a b; omega⟩) ⟨h8, ?_⟩⟩
              have ssb : 0 ≤ zss (M 46) t ∧ zss (M 46) t ≤ 8 * 9 := zsm_b (f := fun x => if zb t x = true then M 46 x else 0) (B := 9) 8 (fun x a b => by
                split
                · rename_i q; have := hH x a (btt x a q); omega
                · omega)
              rw [e184, (i6 h hh.1 hh.2).1, zw (x := zss (M 46) t + M 46 h) (by omega) (by omega)]
              refine ⟨fun q2 => ?_, fun q2 => s_bitCount (by omega) ?_⟩
              · unfold zlg at nx
                rw [if_neg q1, if_pos q2, Int.add_zero] at nx
                exact nx
              · have eg : zlg (M 179 3) h w (M 46) t = zfac (zcard t).toNat * zfac (M 179 3 - 1 - zcard t).toNat := by unfold zlg; rw [if_neg q1, if_neg q2]
                have p4 : ∀ (m i : Nat), i + m = 9 → 1 ≤ i → (1 ≤ M 179 3 - 1 - zcard t → (i : Int) ≤ M 179 3 - 1 - zcard t) → (M 179 3 - 1 - zcard t < 1 → i = 1) → P4 h w (zsm (zlg (M 179 3) h w (M 46)) t) (zfac (M 179 3).toNat) (t : Int) (zcard t) (zfac (zcard t).toNat * zfac i) ((i : Int) + 1) M4 := by
                  intro m
                  induction m with
                  | zero => intro i hi i1 x1 x0; omega
                  | succ m ih4 =>
                    intro i hi i1 x1 x0
                    refine h4 _ _ _ _ _ _ _ _ _ ⟨fun z => ?_, fun z => ?_⟩
                    · rw [e43, zw (x := M 179 3 - zcard t) (by omega) (by omega)] at z
                      have : zfac i = zfac (M 179 3 - 1 - zcard t).toNat := by
                        by_cases q : 1 ≤ M 179 3 - 1 - zcard t
                        · rw [show (M 179 3 - 1 - zcard t).toNat = i by omega]
                        · rw [show (M 179 3 - 1 - zcard t).toNat = 0 by omega, x0 (by omega)]; rfl
                      rw [this, ← eg, zw (x := (t : Int) + 1) (by omega) (by omega), zwl (by omega) (by omega)]
                      exact nx
                    · rw [e43, zw (x := M 179 3 - zcard t) (by omega) (by omega)] at z
                      have e2 : zfac (zcard t).toNat * zfac i * ((i : Int) + 1) = zfac (zcard t).toNat * zfac (i + 1) := by rw [Int.mul_assoc]; rfl
                      have zm := zfac_m (a := (zcard t).toNat) (b := i + 1) (by omega) (by omega)
                      rw [e2, zwl (by omega) (by omega), zw (x := (i : Int) + 1 + 1) (by omega) (by omega)]
                      have := ih4 (i + 1) (by omega) (by omega) (by omega) (by omega)
                      rw [show ((i + 1 : Nat) : Int) = (i : Int) + 1 by omega] at this
                      exact this
                have p3 : ∀ (m i : Nat), i + m = 9 → 1 ≤ i → (1 ≤ zcard t → (i : Int) ≤ zcard t) → (zcard t < 1 → i = 1) → P3 h w (zsm (zlg (M 179 3) h w (M 46)) t) (zfac (M 179 3).toNat) (t : Int) (zcard t) (zfac i) ((i : Int) + 1) M4 := by
                  intro m
                  induction m with
                  | zero => intro i hi i1 x1 x0; omega
                  | succ m ih3 =>
                    intro i hi i1 x1 x0
                    refine h3 _ _ _ _ _ _ _ _ _ ⟨fun z => ?_, fun z => ?_⟩
                    · have : zfac i = zfac (zcard t).toNat := by
                        by_cases q : 1 ≤ zcard t
                        · rw [show (zcard t).toNat = i by omega]
                        · rw [show (zcard t).toNat = 0 by omega, x0 (by omega)]; rfl
                      rw [this]
                      have := p4 8 1 (by omega) (by omega) (by omega) (by omega)
                      rw [show zfac 1 = 1 from rfl, Int.mul_one] at this
                      exact this
                    · have r := zfac_r (i + 1) (by omega)
                      have e2 : zfac (i + 1) = zfac i * ((i : Int) + 1) := rfl
                      rw [← e2, zwl (by omega) (by omega), zw (x := (i : Int) + 1 + 1) (by omega) (by omega)]
                      have := ih3 (i + 1) (by omega) (by omega) (by omega) (by omega)
                      rw [show ((i + 1 : Nat) : Int) = (i : Int) + 1 by omega] at this
                      exact this
                exact p3 8 1 (by omega) (by omega) (by omega) (by omega)
        have p1 : ∀ (m i : Nat), i + m = 9 → 1 ≤ i → (i : Int) ≤ M 179 3 → P1 h w 0 (zfac i) ((i : Int) + 1) M4 := by
          intro m
          induction m with
          | zero => intro i hi i1 x1; omega
          | succ m ih1 =>
            intro i hi i1 x1
            refine h1 _ _ _ _ _ _ ⟨fun z => ?_, fun z => ?_⟩
            · rw [e43] at z
              rw [show i = (M 179 3).toNat by omega]
              exact sets s 0 (by omega)
            · rw [e43] at z
              have r := zfac_r (i + 1) (by omega)
              have e2 : zfac (i + 1) = zfac i * ((i : Int) + 1) := rfl
              rw [← e2, zwl (by omega) (by omega), zw (x := (i : Int) + 1 + 1) (by omega) (by omega)]
              have := ih1 (i + 1) (by omega) (by omega) (by omega)
              rw [show ((i + 1 : Nat) : Int) = (i : Int) + 1 by omega] at this
              exact this
        exact p1 8 1 (by omega) (by omega) (by omega)
      | succ m ih =>
        intro s hs
        have nx := ih (s + 1) (by omega)
        have st := zsm_b (f := zlg (M 179 3) h w (M 46)) (B := 1625702400) s (fun x _ _ => gr x)
        have gt := gr s
        have e : zsm (zlg (M 179 3) h w (M 46)) (s + 1) = zsm (zlg (M 179 3) h w (M 46)) s + zlg (M 179 3) h w (M 46) s := rfl
        rw [e, show ((s + 1 : Nat) : Int) = (s : Int) + 1 by omega] at nx
        have cr := zcard_r s
        have btt := bits s (by omega) (by omega)
        refine hP _ _ _ _ _ _ ⟨fun z => absurd z (by rw [k5, hN1]; omega), fun _ => s_W_isIn (by omega) (by omega) ?_⟩
        rw [zw (x := (s : Int) + 1) (by omega) (by omega)]
        by_cases q1 : zb s h = true
        · rw [if_pos q1]
          refine ⟨fun _ => ?_, fun z => absurd (by decide) z⟩
          unfold zlg at nx
          rw [if_pos q1, Int.add_zero] at nx
          exact nx
        · rw [if_neg q1]
          refine ⟨fun z => absurd rfl z, fun _ => s_Pump_thirstOfSet (by omega) (fun x a b z => by rw [k46]; exact i3 x a (btt x a z)) ?_⟩
          rw [k46]
          show (w - M 46 h < zss (M 46) s → _) ∧ (¬ (w - M 46 h < zss (M 46) s) → _)
          refine ⟨fun q2 => ?_, fun q2 => s_bitCount (by omega) (s_W_factorial (by omega) ?_)⟩
          · unfold zlg at nx
            rw [if_neg q1, if_pos (by omega), Int.add_zero] at nx
            exact nx
          · rw [zw (x := M 179 3 - 1 - zcard s) (by omega) (by omega)]
            refine s_W_factorial (by omega) ?_
            have eg : zlg (M 179 3) h w (M 46) s = zfac (zcard s).toNat * zfac (M 179 3 - 1 - zcard s).toNat := by unfold zlg; rw [if_neg q1, if_neg (by omega)]
            rw [← eg, zwl (x := zlg (M 179 3) h w (M 46) s) (by omega) (by omega), zwl (by omega) (by omega)]
            exact nx
    exact loop N 0 (by omega)
  · rw [if_neg hh]
    exact ⟨fun z => absurd rfl z, fun _ => ref hh⟩

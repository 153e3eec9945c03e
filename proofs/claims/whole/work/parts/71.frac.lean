/-! fractions in lowest terms -/
def zgf : Nat → Int → Int → Int
  | 0, a, _ => a
  | n + 1, a, b => if b = 0 then a else zgf n b (Int.tmod a b)
def zgt : Nat → Int → Int → Prop
  | 0, _, b => b = 0
  | n + 1, a, b => b = 0 ∨ zgt n b (Int.tmod a b)
theorem zgt_2 : ∀ (k : Nat) (a b : Int), 0 ≤ a → 0 ≤ b → b < ((2 ^ k : Nat) : Int) → zgt (2 * k) a b
  | 0, a, b, ha, hb, h => by show b = 0; simp at h; omega
  | k + 1, a, b, ha, hb, h => by
    rw [show 2 * (k + 1) = 2 * k + 1 + 1 by omega]
    by_cases b0 : b = 0
    · exact Or.inl b0
    · refine Or.inr ?_
      have r0 : 0 ≤ Int.tmod a b := Int.tmod_nonneg _ ha
      have rl : Int.tmod a b < b := Int.tmod_lt_of_pos _ (by omega)
      by_cases rz : Int.tmod a b = 0
      · exact Or.inl rz
      · refine Or.inr ?_
        generalize Int.tmod a b = r at r0 rz rl
        refine zgt_2 k r (Int.tmod b r) r0 (Int.tmod_nonneg _ hb) ?_
        have e := Int.mul_tdiv_add_tmod b r
        have lt := Int.tmod_lt_of_pos b (show 0 < r by omega)
        have q1 : 1 ≤ Int.tdiv b r := by
          rw [Int.tdiv_eq_ediv_of_nonneg hb]
          exact (Int.le_ediv_iff_mul_le (by omega)).mpr (by omega)
        have q2 : r * 1 ≤ r * Int.tdiv b r := Int.mul_le_mul_of_nonneg_left q1 r0
        rw [Nat.pow_succ] at h
        omega
theorem zgf_0 (n : Nat) (a : Int) : zgf n a 0 = a := by
  cases n with
  | zero => rfl
  | succ n => show (if (0 : Int) = 0 then a else _) = a; rw [if_pos rfl]
theorem zgf_p : ∀ (n m : Nat) (a b : Int), n ≤ m → zgt n a b → 0 ≤ a → 0 ≤ b → (0 < a ∨ 0 < b) → 0 < zgf m a b
  | 0, m, a, b, _, h, ha, hb, hp => by
    have h : b = 0 := h
    rw [h, zgf_0]; omega
  | n + 1, m, a, b, hm, h, ha, hb, hp => by
    by_cases b0 : b = 0
    · rw [b0, zgf_0]; omega
    · rcases h with h | h
      · exact absurd h b0
      · obtain ⟨k, rfl⟩ : ∃ k, m = k + 1 := ⟨m - 1, by omega⟩
        show 0 < (if b = 0 then a else zgf k b (Int.tmod a b))
        rw [if_neg b0]
        exact zgf_p n k b _ (by omega) h hb (Int.tmod_nonneg _ ha) (Or.inl (by omega))
theorem z_cmp0 {x : Int} : z_cmp x 0 = 0 ↔ x = 0 := by
  unfold z_cmp
  by_cases a : 0 < x
  · rw [if_pos a]; omega
  · rw [if_neg a]
    by_cases b : x = 0
    · rw [if_pos b]; omega
    · rw [if_neg b]; omega
theorem s_Row_divisorOf {d : Nat} {a b : Int} {M : zM} {F : Int → zM → Prop} (H : F (zgf 100 a b) M) : zCl (d + 1) 116 [z_l a, z_l b] M F := by
  refine e_Row_divisorOf (fun P hP => ?_)
  have loop : ∀ (m i : Nat) (x y : Int), i + m = 100 → F (zgf m x y) M → P x y (i : Int) M := by
    intro m
    induction m with
    | zero =>
      intro i x y hi hF
      exact hP _ _ _ _ ⟨fun _ => hF, fun z => absurd (by omega) z⟩
    | succ m ih =>
      intro i x y hi hF
      have hF : F (if y = 0 then x else zgf m y (Int.tmod x y)) M := hF
      refine hP _ _ _ _ ⟨fun z => absurd z (by omega), fun _ => ⟨fun z => ?_, fun z => ?_⟩⟩
      · rw [if_pos (z_cmp0.mp z)] at hF; exact hF
      · have y0 : y ≠ 0 := fun q => z (z_cmp0.mpr q)
        rw [if_neg y0] at hF
        refine ⟨y0, ?_⟩
        rw [zw (x := (i : Int) + 1) (by omega) (by omega)]
        exact ih (i + 1) y _ (by omega) hF
  exact loop 100 0 a b (by omega) H
theorem s_M_common : ∀ (n m : Nat) {d : Nat} {a b : Int} {M : zM} {F : Int → zM → Prop}, n ≤ m → zgt n a b → F (zgf m a b) M → zCl (d + n + 1) 234 [z_l a, z_l b] M F
  | 0, m, d, a, b, M, F, _, h, H => by
    have h : b = 0 := h
    rw [h, zgf_0] at H
    exact e_M_common ⟨fun z => absurd (z_cmp0.mpr h) z, fun _ => H⟩
  | n + 1, m, d, a, b, M, F, hm, h, H => by
    by_cases b0 : b = 0
    · rw [b0, zgf_0] at H
      exact e_M_common ⟨fun z => absurd (z_cmp0.mpr b0) z, fun _ => H⟩
    · rcases h with h | h
      · exact absurd h b0
      · obtain ⟨k, rfl⟩ : ∃ k, m = k + 1 := ⟨m - 1, by omega⟩
        have H : F (if b = 0 then a else zgf k b (Int.tmod a b)) M := H
        rw [if_neg b0] at H
        exact e_M_common ⟨fun _ => ⟨b0, s_M_common n k (by omega) h H⟩, fun z => absurd (fun q => b0 (z_cmp0.mp q)) z⟩
def zfu (u l : Int) : Int := z_wl (Int.tdiv u (zgf 100 u l))
def zfv (u l : Int) : Int := z_wl (Int.tdiv l (zgf 100 u l))
theorem zfu_0 {l : Int} (hl : 1 ≤ l) : zfu 0 l = 0 ∧ zfv 0 l = 1 := by
  have e : zgf 100 0 l = l := by
    show (if l = 0 then 0 else zgf 99 l (Int.tmod 0 l)) = l
    rw [if_neg (by omega), Int.zero_tmod, zgf_0]
  unfold zfu zfv
  rw [e, Int.zero_tdiv, Int.tdiv_self (by omega)]
  exact ⟨rfl, rfl⟩
theorem s_Row_tellFraction {d : Nat} {u l : Int} {M : zM} {F : zM → Prop} (hu : 0 ≤ u) (hl : 0 ≤ l ∧ l < 65536) (hul : u ≠ 0 → 1 ≤ l) (H : ∀ M', zf [4] [(3, 1)] M M' → M' 3 1 = 2 → M' 4 0 = zfu u (if 1 ≤ l then l else 1) → M' 4 1 = zfv u (if 1 ≤ l then l else 1) → F M') : zCv (d + 4) 115 [z_r (5, 0) 3, z_l u, z_l l] M F := by
  refine e_Row_tellFraction (s_Row_divisorOf ⟨fun z => ?_, fun z => ?_⟩)
  · have u0 : u = 0 := z_cmp0.mp z
    have e := zfu_0 (l := if 1 ≤ l then l else 1) (by split <;> omega)
    rw [u0, e.1, e.2] at H
    exact s_Row_tellTwo (fun M' f r1 r2 r3 => H M' f r1 r2 r3)
  · have u0 : u ≠ 0 := fun q => z (z_cmp0.mpr q)
    have l1 := hul u0
    rw [if_pos l1] at H
    have gp := zgf_p 32 100 u l (by omega) (zgt_2 16 u l hu hl.1 (by have : ((2 ^ 16 : Nat) : Int) = 65536 := rfl; omega)) hu hl.1 (Or.inr (by omega))
    refine ⟨fun _ => ⟨by omega, by omega, s_Row_tellTwo (fun M' f r1 r2 r3 => H M' f r1 r2 r3)⟩, fun q => absurd (fun w => by have := z_cmp0.mp w; omega) q⟩
theorem s_M_tellsFraction {d : Nat} {u l : Int} {M : zM} {F : zM → Prop} (hu : 0 ≤ u) (hl : 1 ≤ l ∧ l < 65536) (H : ∀ M', zf [180] [(179, 1)] M M' → M' 179 1 = 2 → M' 180 0 = zfu u l → M' 180 1 = zfv u l → F M') : zCv (d + 34) 233 [z_r (11, 0) 179, z_l u, z_l l] M F := by
  have ht := zgt_2 16 u l hu (by omega) (by have : ((2 ^ 16 : Nat) : Int) = 65536 := rfl; omega)
  have gp := zgf_p 32 100 u l (by omega) ht hu (by omega) (Or.inr (by omega))
  refine e_M_tellsFraction (s_M_common 32 100 (by omega) ht ⟨by omega, s_M_enters (by rw [zu_s]; omega) ⟨by omega, ?_⟩⟩)
  rw [zu_s]
  refine s_M_enters (by rw [zu_s]; omega) ?_
  rw [zu_s]
  refine H _ (zf_uj (zf_us (zf_uj (zf_us (zf_uj zf_rf (by decide)) (by decide)) (by decide)) (by decide)) (by decide)) (zu_s _ _ _ _) ?_ ?_
  · rw [zu_c (by decide), zu_i (by decide), zu_c (by decide)]; exact zu_s _ _ _ _
  · rw [zu_c (by decide)]; exact zu_s _ _ _ _

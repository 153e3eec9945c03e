/-! the reference reads a rule: it is the reader of the invariant -/
def zSA (sg : Int → Int) (e : Int) (B : zM) (f : Nat) : Prop := ∀ (D : Nat) (p k : Int) (cs : List Int) (M : zM) (F : Int → zM → Prop), 0 ≤ p ∧ p ≤ e → 0 ≤ k ∧ k ≤ 4 → zfn 3 e p ≤ f → (cs.length : Int) ≤ p → zRS B p k cs M → (∀ b p' k' cs' M', zpr sg e f 3 p k cs = (b, p', k', cs') → zRS B p' k' cs' M' → F (if b = true then 1 else 0) M') → zCi (D + 2 * f + 11) 168 [z_r (11, 0) 179] M F
def zSR (sg : Int → Int) (e : Int) (B : zM) (f : Nat) : Prop := ∀ (D m : Nat) (p k : Int) (cs : List Int) (M : zM) (F : Int → zM → Prop), m ≤ 3 → 0 ≤ p ∧ p ≤ e → 0 ≤ k ∧ k ≤ 4 → zfn m e p ≤ f → (cs.length : Int) ≤ p → zRS B p k cs M → (∀ b p' k' cs' M', zpr sg e f m p k cs = (b, p', k', cs') → zRS B p' k' cs' M' → F (if b = true then 1 else 0) M') → zCi (D + 2 * f + 12) 167 [z_r (11, 0) 179, z_i m] M F
theorem zif01 (b : Bool) : (if b = true then (1 : Int) else 0) = 0 ∨ (if b = true then (1 : Int) else 0) = 1 := by cases b <;> simp
theorem s_R_thing {sg : Int → Int} {e : Int} {B : zM} (hB : zRB2 sg e B) {f : Nat} (hA : zSA sg e B f) (hR : zSR sg e B f) : zSA sg e B (f + 1) := by
  intro D p k cs M F hp hk hf hl hs H
  have e0 := hB.1
  have ef : zfn 3 e p = 8 * (e - p) + 5 := rfl
  rw [show D + 2 * (f + 1) + 11 = (D + 2 * f + 12) + 1 by omega]
  refine e_M_readsThing (s_R_takes hB hs hp (by decide) (fun c1 M1 h1 => ?_) (fun c1 M1 h1 => ?_))
  · have l := zat_lt (sg := sg) (e := e) (p := p) (by omega)
    refine ⟨fun z => absurd z (by decide), fun _ => ?_⟩
    have := hA (D + 1) (p + 1) k cs M1 (fun v33 M32 => zCv (D + 2 * f + 12) 169 [z_r (11, 0) 179, z_i 3000] M32 (fun M34 => ((v33 = 0 ∨ v33 = 1) ∧ F v33 M34))) (by omega) hk (by have : zfn 3 e (p + 1) = 8 * (e - (p + 1)) + 5 := rfl; omega) (by omega) h1 (fun b p' k' cs' M' hz h2 => ?_)
    · rw [show D + 1 + 2 * f + 11 = D + 2 * f + 12 by omega] at this; exact this
    · obtain ⟨b1, ⟨ds, rfl, b2⟩, -⟩ := zpr_len sg e f 3 (p + 1) k cs b p' k' cs' (by omega) (by omega) hz
      have b3 : ((cs ++ ds).length : Int) = cs.length + ds.length := by simp
      refine s_R_codes h2 (by omega) (fun M3 h3 => ⟨zif01 b, H b p' k' (cs ++ ds ++ [3000]) M3 ?_ h3⟩)
      unfold zpr
      rw [if_pos rfl, if_pos c1, hz]
  · refine ⟨fun _ => s_R_isDigit hB h1 hp ?_, fun z => absurd rfl z⟩
    by_cases c2 : 48 ≤ zat sg e p ∧ zat sg e p ≤ 57
    · rw [if_pos c2]
      have l := zat_lt (sg := sg) (e := e) (p := p) (by omega)
      refine ⟨fun z => absurd z (by decide), fun _ => s_R_num hB h1 hp c2 (fun M2 h2 => s_R_codes h2 (by omega) (fun M3 h3 => H true _ k _ M3 ?_ h3))⟩
      unfold zpr
      rw [if_pos rfl, if_neg c1, if_pos c2]
    · rw [if_neg c2]
      refine ⟨fun _ => s_R_takesOf (by rw [zsl_2]; rfl) (by decide) hB h1 hp (by rw [zsl_2]; decide) (fun M2 h2 => ?_), fun z => absurd rfl z⟩
      rw [zfl_2] at h2 ⊢
      by_cases c3 : 0 ≤ zvar (zat sg e p)
      · rw [if_neg (by omega)] at h2
        have l := zat_lt (sg := sg) (e := e) (p := p) (fun z => by rw [z] at c3; revert c3; decide)
        have r := zvar_r (zat sg e p)
        refine ⟨fun z => absurd z (by omega), fun _ => ?_⟩
        rw [zw (x := 1000 + _) (by omega) (by omega)]
        refine s_R_codes h2 (by omega) (fun M3 h3 => H true (p + 1) k _ M3 ?_ h3)
        unfold zpr
        rw [if_pos rfl, if_neg c1, if_neg c2, if_pos c3]
      · rw [if_pos (by omega)] at h2
        rw [h2.2.2.1]
        have no : ∀ M3, zRS B p k cs M3 → (k = 4 ∨ zat sg e p ≠ 40) → F 0 M3 := fun M3 h3 c4 => by
          have := H false p k cs M3 (by unfold zpr; rw [if_pos rfl, if_neg c1, if_neg c2, if_neg c3, if_pos c4]) h3
          exact this
        refine ⟨fun _ => ⟨fun z => no M2 h2 (Or.inl z), fun z => s_R_takes hB h2 hp (by decide) (fun c4 M3 h3 => ?_) (fun c4 M3 h3 => ?_)⟩, fun z => absurd (by omega) z⟩
        · have l := zat_lt (sg := sg) (e := e) (p := p) (by omega)
          refine ⟨fun _ => ?_, fun w => absurd (by decide) w⟩
          rw [h3.2.2.1, zw (x := k + 1) (by omega) (by omega)]
          refine hR D 0 (p + 1) (k + 1) cs _ _ (by omega) (by omega) (by omega) (by have : zfn 0 e (p + 1) = 8 * (e - (p + 1)) + (8 - ((0 : Nat) : Int)) := rfl; omega) (by omega) (zRS_k h3) (fun b p1 k1 cs1 M4 hz h4 => ?_)
          obtain ⟨b1, ⟨ds, rfl, b2⟩, b3, b4⟩ := zpr_len sg e f 0 (p + 1) (k + 1) cs b p1 k1 cs1 (by omega) (by omega) hz
          have unf : ∀ r, (match (b, p1, k1, cs ++ ds) with | (true, p', k', cs') => if zat sg e p' = 41 then (true, p' + 1, k' - 1, cs') else (false, p', k', cs') | (false, p', k', cs') => (false, p', k', cs')) = r → zpr sg e (f + 1) 3 p k cs = r := fun r hr => by
            unfold zpr
            rw [if_pos rfl, if_neg c1, if_neg c2, if_neg c3, if_neg (by omega), hz]
            exact hr
          cases b with
          | false =>
            refine ⟨fun _ => ?_, fun w => absurd (by decide) w⟩
            exact H false p1 k1 (cs ++ ds) M4 (unf _ rfl) h4
          | true =>
            have k1e := b4 rfl
            refine ⟨fun w => absurd w (by decide), fun _ => s_R_takes hB h4 (by omega) (by decide) (fun c5 M5 h5 => ?_) (fun c5 M5 h5 => ?_)⟩
            · refine ⟨fun _ => ?_, fun w => absurd (by decide) w⟩
              rw [h5.2.2.1, zw (x := k1 - 1) (by omega) (by omega)]
              exact H true (p1 + 1) (k1 - 1) (cs ++ ds) _ (unf _ (by show (if zat sg e p1 = 41 then _ else _) = _; rw [if_pos c5])) (zRS_k h5)
            · refine ⟨fun w => absurd rfl w, fun _ => ?_⟩
              exact H false p1 k1 (cs ++ ds) M5 (unf _ (by show (if zat sg e p1 = 41 then _ else _) = _; rw [if_neg c5])) h5
        · exact ⟨fun w => absurd rfl w, fun _ => no M3 h3 (Or.inr c4)⟩
theorem s_R_rank {sg : Int → Int} {e : Int} {B : zM} (hB : zRB2 sg e B) {f : Nat} (hA : zSA sg e B (f + 1)) (ihR : ∀ g, g ≤ f → zSR sg e B g) : zSR sg e B (f + 1) := by
  intro D m p k cs M F hm hp hk hf hl hs H
  have e0 := hB.1
  by_cases m3 : m = 3
  · subst m3
    refine e_M_readsRank (fun P hP => ⟨fun z => absurd rfl z, fun _ => ?_⟩)
    exact hA D p k cs M _ hp hk hf hl hs (fun b p' k' cs' M' hz h2 => ⟨zif01 b, H b p' k' cs' M' hz h2⟩)
  · rw [show D + 2 * (f + 1) + 12 = (D + 2 * f + 13) + 1 by omega]
    have em : zfn m e p = 8 * (e - p) + (8 - (m : Int)) := by unfold zfn; rw [if_pos hm]
    have em1 : zfn (m + 1) e p = 8 * (e - p) + (8 - ((m + 1 : Nat) : Int)) := by unfold zfn; rw [if_pos (by omega)]
    refine e_M_readsRank (fun P hP => ⟨fun _ => ?_, fun z => absurd (by omega) z⟩)
    rw [zw (x := (m : Int) + 1) (by omega) (by omega)]
    have loop : ∀ g, g ≤ f → ∀ (p k : Int) (cs : List Int) (M : zM), 0 ≤ p ∧ p ≤ e → 0 ≤ k ∧ k ≤ 4 → zfn (m + 10) e p ≤ g → (cs.length : Int) ≤ p → zRS B p k cs M → (∀ b p' k' cs' M', zpr sg e g (m + 10) p k cs = (b, p', k', cs') → zRS B p' k' cs' M' → F (if b = true then 1 else 0) M') → P (m : Int) 1 M := by
      intro g
      induction g with
      | zero =>
        intro _ p k cs M hp _ hf
        have : zfn (m + 10) e p = 8 * (e - p) + 1 := by unfold zfn; rw [if_neg (by omega)]
        omega
      | succ g ihg =>
        intro hg p k cs M hp hk hf hl hs H
        have h012 : m = 0 ∨ m = 1 ∨ m = 2 := by omega
        rcases h012 with rfl | rfl | rfl
        · -- rank 0
          have unf : ∀ r, zpr sg e (g + 1) (0 + 10) p k cs = r ↔ (if zop 0 (zat sg e p) < 0 then (true, p, k, cs) else match zpr sg e g (0 + 1) (p + 1) k cs with | (true, p', k', cs') => if 0 + 10 = 10 then (true, p', k', cs' ++ [2000 + zop 0 (zat sg e p)]) else zpr sg e g (0 + 10) p' k' (cs' ++ [2000 + zop 0 (zat sg e p)]) | (false, p', k', cs') => (false, p', k', cs')) = r := fun r => Iff.rfl
          have ro := zop_r 0 (zat sg e p)
          refine hP _ _ _ ⟨fun z => absurd z (by decide), fun _ => ⟨fun z => absurd rfl z, fun _ => s_R_takesOf (by rw [zsl_3]; rfl) (by decide) hB hs hp (by rw [zsl_3]; decide) (fun M1 h1 => ?_)⟩⟩
          rw [zfl_3] at h1 ⊢
          by_cases c1 : zop 0 (zat sg e p) < 0
          · rw [if_pos c1] at h1
            refine ⟨fun z => absurd z (by omega), fun _ => ?_⟩
            exact H true p k cs M1 ((unf _).mpr (by rw [if_pos c1])) h1
          · rw [if_neg c1] at h1
            have l : p < e := (zat_lt (sg := sg) (e := e) (p := p) (fun z => by apply c1; rw [z]; decide)).1
            refine ⟨fun _ => ?_, fun z => absurd (by omega) z⟩
            have hc := ihR g (by omega) (D + 2 * (f - g) + 1) (0 + 1) (p + 1) k cs M1
            rw [show D + 2 * (f - g) + 1 + 2 * g + 12 = D + 2 * f + 13 by omega] at hc
            refine hc _ (by omega) (by omega) hk (by have : zfn (0 + 1) e (p + 1) = 8 * (e - (p + 1)) + (8 - ((0 + 1 : Nat) : Int)) := rfl; have : zfn (0 + 10) e p = 8 * (e - p) + 1 := rfl; omega) (by omega) h1 (fun b p1 k1 cs1 M2 hz h2 => ?_)
            obtain ⟨b1, ⟨ds, rfl, b2⟩, b3, b4⟩ := zpr_len sg e g (0 + 1) (p + 1) k cs b p1 k1 cs1 (by omega) (by omega) hz
            cases b with
            | false =>
              refine ⟨fun w => absurd rfl w, fun _ => ?_⟩
              exact H false p1 k1 (cs ++ ds) M2 ((unf _).mpr (by rw [if_neg c1, hz])) h2
            | true =>
              have hp1 := b3 rfl (by omega)
              have k1e := b4 rfl
              have b5 : ((cs ++ ds).length : Int) = cs.length + ds.length := by simp
              refine ⟨fun _ => ⟨fun z => absurd rfl z, fun _ => ?_⟩, fun w => absurd (by decide) w⟩
              rw [zw (x := 2000 + _) (by omega) (by omega), zw (x := 2000 + _ + 0) (by omega) (by omega), Int.add_zero]
              refine s_R_codes h2 (by omega) (fun M3 h3 => ?_)
              refine ⟨fun _ => ?_, fun w => absurd (by decide) w⟩
              exact hP _ _ _ ⟨fun _ => H true p1 k1 _ M3 ((unf _).mpr (by rw [if_neg c1, hz]; rfl)) h3, fun w => absurd rfl w⟩
        · -- rank 1
          have unf : ∀ r, zpr sg e (g + 1) (1 + 10) p k cs = r ↔ (if zop 1 (zat sg e p) < 0 then (true, p, k, cs) else match zpr sg e g (1 + 1) (p + 1) k cs with | (true, p', k', cs') => if 1 + 10 = 10 then (true, p', k', cs' ++ [2000 + zop 0 (zat sg e p)]) else zpr sg e g (1 + 10) p' k' (cs' ++ [2000 + zop 1 (zat sg e p)]) | (false, p', k', cs') => (false, p', k', cs')) = r := fun r => Iff.rfl
          have ro := zop_r 1 (zat sg e p)
          refine hP _ _ _ ⟨fun z => absurd z (by decide), fun _ => ⟨fun _ => ⟨fun z => absurd rfl z, fun _ => s_R_takesOf (by rw [zsl_4]; rfl) (by decide) hB hs hp (by rw [zsl_4]; decide) (fun M1 h1 => ?_)⟩, fun z => absurd (by decide) z⟩⟩
          rw [zfl_4] at h1 ⊢
          by_cases c1 : zop 1 (zat sg e p) < 0
          · rw [if_pos c1, if_pos (by decide)] at h1
            rw [if_pos c1]
            refine ⟨fun z => absurd z (by omega), fun _ => ?_⟩
            exact H true p k cs M1 ((unf _).mpr (by rw [if_pos c1])) h1
          · have lo : 3 ≤ zop 1 (zat sg e p) := by revert c1; rw [zop1]; (repeat' split) <;> omega
            rw [if_neg c1, if_neg (by omega)] at h1
            rw [if_neg c1]
            have l : p < e := (zat_lt (sg := sg) (e := e) (p := p) (fun z => by apply c1; rw [z]; decide)).1
            refine ⟨fun _ => ?_, fun z => absurd (by omega) z⟩
            have hc := ihR g (by omega) (D + 2 * (f - g) + 1) (1 + 1) (p + 1) k cs M1
            rw [show D + 2 * (f - g) + 1 + 2 * g + 12 = D + 2 * f + 13 by omega] at hc
            refine hc _ (by omega) (by omega) hk (by have : zfn (1 + 1) e (p + 1) = 8 * (e - (p + 1)) + (8 - ((1 + 1 : Nat) : Int)) := rfl; have : zfn (1 + 10) e p = 8 * (e - p) + 1 := rfl; omega) (by omega) h1 (fun b p1 k1 cs1 M2 hz h2 => ?_)
            obtain ⟨b1, ⟨ds, rfl, b2⟩, b3, b4⟩ := zpr_len sg e g (1 + 1) (p + 1) k cs b p1 k1 cs1 (by omega) (by omega) hz
            cases b with
            | false =>
              refine ⟨fun w => absurd rfl w, fun _ => ?_⟩
              exact H false p1 k1 (cs ++ ds) M2 ((unf _).mpr (by rw [if_neg c1, hz])) h2
            | true =>
              have hp1 := b3 rfl (by omega)
              have k1e := b4 rfl
              have b5 : ((cs ++ ds).length : Int) = cs.length + ds.length := by simp
              refine ⟨fun _ => ⟨fun _ => ⟨fun z => absurd rfl z, fun _ => ?_⟩, fun z => absurd (by decide) z⟩, fun w => absurd (by decide) w⟩
              rw [zw (x := 2000 + (zop 1 (zat sg e p) - 3)) (by omega) (by omega), zw (x := 2000 + (zop 1 (zat sg e p) - 3) + 3) (by omega) (by omega), show 2000 + (zop 1 (zat sg e p) - 3) + 3 = 2000 + zop 1 (zat sg e p) by omega]
              refine s_R_codes h2 (by omega) (fun M3 h3 => ?_)
              refine ⟨fun w => absurd w (by decide), fun _ => ?_⟩
              have b6 : ((cs ++ ds ++ [2000 + zop 1 (zat sg e p)]).length : Int) = cs.length + ds.length + 1 := by simp only [List.length_append, List.length_cons, List.length_nil]; omega
              exact ihg (by omega) p1 k1 (cs ++ ds ++ [2000 + zop 1 (zat sg e p)]) M3 (by omega) (by omega) (by have : zfn (1 + 10) e p = 8 * (e - p) + 1 := rfl; have : zfn (1 + 10) e p1 = 8 * (e - p1) + 1 := rfl; omega) (by omega) h3 (fun b p2 k2 cs2 M4 hz2 h4 => H b p2 k2 cs2 M4 ((unf _).mpr (by rw [if_neg c1, hz]; exact hz2)) h4)
        · -- rank 2
          have unf : ∀ r, zpr sg e (g + 1) (2 + 10) p k cs = r ↔ (if zop 2 (zat sg e p) < 0 then (true, p, k, cs) else match zpr sg e g (2 + 1) (p + 1) k cs with | (true, p', k', cs') => if 2 + 10 = 10 then (true, p', k', cs' ++ [2000 + zop 0 (zat sg e p)]) else zpr sg e g (2 + 10) p' k' (cs' ++ [2000 + zop 2 (zat sg e p)]) | (false, p', k', cs') => (false, p', k', cs')) = r := fun r => Iff.rfl
          have ro := zop_r 2 (zat sg e p)
          refine hP _ _ _ ⟨fun z => absurd z (by decide), fun _ => ⟨fun _ => ⟨fun _ => s_R_takesOf (by rw [zsl_5]; rfl) (by decide) hB hs hp (by rw [zsl_5]; decide) (fun M1 h1 => ?_), fun z => absurd (by decide) z⟩, fun z => absurd (by decide) z⟩⟩
          rw [zfl_5] at h1 ⊢
          by_cases c1 : zop 2 (zat sg e p) < 0
          · rw [if_pos c1, if_pos (by decide)] at h1
            rw [if_pos c1]
            refine ⟨fun z => absurd z (by omega), fun _ => ?_⟩
            exact H true p k cs M1 ((unf _).mpr (by rw [if_pos c1])) h1
          · have lo : 5 ≤ zop 2 (zat sg e p) := by revert c1; rw [zop2]; (repeat' split) <;> omega
            rw [if_neg c1, if_neg (by omega)] at h1
            rw [if_neg c1]
            have l : p < e := (zat_lt (sg := sg) (e := e) (p := p) (fun z => by apply c1; rw [z]; decide)).1
            refine ⟨fun _ => ?_, fun z => absurd (by omega) z⟩
            have hc := ihR g (by omega) (D + 2 * (f - g) + 1) (2 + 1) (p + 1) k cs M1
            rw [show D + 2 * (f - g) + 1 + 2 * g + 12 = D + 2 * f + 13 by omega] at hc
            refine hc _ (by omega) (by omega) hk (by have : zfn (2 + 1) e (p + 1) = 8 * (e - (p + 1)) + (8 - ((2 + 1 : Nat) : Int)) := rfl; have : zfn (2 + 10) e p = 8 * (e - p) + 1 := rfl; omega) (by omega) h1 (fun b p1 k1 cs1 M2 hz h2 => ?_)
            obtain ⟨b1, ⟨ds, rfl, b2⟩, b3, b4⟩ := zpr_len sg e g (2 + 1) (p + 1) k cs b p1 k1 cs1 (by omega) (by omega) hz
            cases b with
            | false =>
              refine ⟨fun w => absurd rfl w, fun _ => ?_⟩
              exact H false p1 k1 (cs ++ ds) M2 ((unf _).mpr (by rw [if_neg c1, hz])) h2
            | true =>
              have hp1 := b3 rfl (by omega)
              have k1e := b4 rfl
              have b5 : ((cs ++ ds).length : Int) = cs.length + ds.length := by simp
              refine ⟨fun _ => ⟨fun _ => ⟨fun _ => ?_, fun z => absurd (by decide) z⟩, fun z => absurd (by decide) z⟩, fun w => absurd (by decide) w⟩
              rw [zw (x := 2000 + (zop 2 (zat sg e p) - 5)) (by omega) (by omega), zw (x := 2000 + (zop 2 (zat sg e p) - 5) + 5) (by omega) (by omega), show 2000 + (zop 2 (zat sg e p) - 5) + 5 = 2000 + zop 2 (zat sg e p) by omega]
              refine s_R_codes h2 (by omega) (fun M3 h3 => ?_)
              refine ⟨fun w => absurd w (by decide), fun _ => ?_⟩
              have b6 : ((cs ++ ds ++ [2000 + zop 2 (zat sg e p)]).length : Int) = cs.length + ds.length + 1 := by simp only [List.length_append, List.length_cons, List.length_nil]; omega
              exact ihg (by omega) p1 k1 (cs ++ ds ++ [2000 + zop 2 (zat sg e p)]) M3 (by omega) (by omega) (by have : zfn (2 + 10) e p = 8 * (e - p) + 1 := rfl; have : zfn (2 + 10) e p1 = 8 * (e - p1) + 1 := rfl; omega) (by omega) h3 (fun b p2 k2 cs2 M4 hz2 h4 => H b p2 k2 cs2 M4 ((unf _).mpr (by rw [if_neg c1, hz]; exact hz2)) h4)
    have hc := ihR f (by omega) (D + 1) (m + 1) p k cs M
    rw [show D + 1 + 2 * f + 12 = D + 2 * f + 13 by omega, show ((m + 1 : Nat) : Int) = (m : Int) + 1 by omega] at hc
    refine hc _ (by omega) hp hk (by omega) hl hs (fun b p1 k1 cs1 M1 hz h1 => ?_)
    obtain ⟨b1, ⟨ds, rfl, b2⟩, b3, b4⟩ := zpr_len sg e f (m + 1) p k cs b p1 k1 cs1 (by omega) (by omega) hz
    have b5 : ((cs ++ ds).length : Int) = cs.length + ds.length := by simp
    have unf : ∀ r, (match (b, p1, k1, cs ++ ds) with | (true, p', k', cs') => zpr sg e f (m + 10) p' k' cs' | (false, p', k', cs') => (false, p', k', cs')) = r → zpr sg e (f + 1) m p k cs = r := fun r hr => by
      unfold zpr
      rw [if_neg m3, if_pos (by omega), hz]
      exact hr
    cases b with
    | false =>
      refine ⟨fun w => absurd rfl w, fun _ => ?_⟩
      exact H false p1 k1 (cs ++ ds) M1 (unf _ rfl) h1
    | true =>
      have hp1 := b3 rfl (by omega)
      have k1e := b4 rfl
      refine ⟨fun _ => ?_, fun w => absurd (by decide) w⟩
      have em10 : zfn (m + 10) e p1 = 8 * (e - p1) + 1 := by unfold zfn; rw [if_neg (by omega)]
      exact loop f (by omega) p1 k1 (cs ++ ds) M1 (by omega) (by omega) (by omega) (by omega) h1 (fun b p2 k2 cs2 M4 hz2 h4 => H b p2 k2 cs2 M4 (unf _ hz2) h4)
theorem s_R_all {sg : Int → Int} {e : Int} {B : zM} (hB : zRB2 sg e B) : ∀ n : Nat, ∀ f, f ≤ n → zSA sg e B f ∧ zSR sg e B f := by
  have z : ∀ f, f = 0 → zSA sg e B f ∧ zSR sg e B f := by
    intro f hf
    subst hf
    have e0 := hB.1
    constructor
    · intro D p k cs M F hp _ hf
      have : zfn 3 e p = 8 * (e - p) + 5 := rfl
      omega
    · intro D m p k cs M F hm hp _ hf
      have : zfn m e p = 8 * (e - p) + (8 - (m : Int)) := by unfold zfn; rw [if_pos hm]
      omega
  intro n
  induction n with
  | zero => intro f hf; exact z f (by omega)
  | succ n ih =>
    intro f hf
    cases f with
    | zero => exact z 0 rfl
    | succ f =>
      have h1 := ih f (by omega)
      have hA := s_R_thing hB h1.1 h1.2
      exact ⟨hA, s_R_rank hB hA (fun g hg => (ih g (by omega)).2)⟩

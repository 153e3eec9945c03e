/-! the class's scan finds the fault where the reader does -/
def zCg (sg : Int → Int) (e g p : Int) : Prop := (0 ≤ g ∧ g ≤ 3) ∧ (g = 1 ∨ g = 2 → ¬ (48 ≤ zat sg e p ∧ zat sg e p ≤ 57))
def zNn (sg : Int → Int) (e : Int) (m : Nat) (k bits p : Int) : Prop := (m ≤ 2 → zop 2 (zat sg e p) < 0) ∧ (m ≤ 1 → zop 1 (zat sg e p) < 0) ∧ (m = 0 → 0 ≤ zop 0 (zat sg e p) → zb bits k = true)
def zBt (m : Nat) (k bits bits' : Int) : Prop := (0 ≤ bits' ∧ bits' < 256) ∧ ∀ j, 0 ≤ j → (j < k ∨ (j = k ∧ 1 ≤ m)) → zb bits' j = zb bits j
def zFv (sg : Int → Int) (e : Int) (F : Int → Prop) (E : Int → Int → Int → Int → Int → Prop) (m : Nat) (k bits p p' : Int) (b : Bool) : Prop := (m = 0 → zb bits k = false) → (b = true → (∀ g bits', zCg sg e g p' → zNn sg e m k bits' p' → zBt m k bits bits' → E k bits' g 1 p') → E k bits 0 0 p) ∧ (b = false → F p' → E k bits 0 0 p)
def zFg (sg : Int → Int) (e : Int) (F : Int → Prop) (E : Int → Int → Int → Int → Int → Prop) (m : Nat) (k bits p p' : Int) (b : Bool) : Prop := ∀ g, zCg sg e g p → (m ≤ 1 → zop 2 (zat sg e p) < 0) → (m = 0 → zop 1 (zat sg e p) < 0 ∧ zb bits k = false) → (b = true → (∀ g' bits', zCg sg e g' p' → zNn sg e m k bits' p' → zBt m k bits bits' → E k bits' g' 1 p') → E k bits g 1 p) ∧ (b = false → F p' → E k bits g 1 p)
theorem zBt_rf {m : Nat} {k bits : Int} (h : 0 ≤ bits ∧ bits < 256) : zBt m k bits bits := ⟨h, fun _ _ _ => rfl⟩
theorem zBt_tr {m m' : Nat} {k a b c : Int} (hm : m ≤ m') (h1 : zBt m' k a b) (h2 : zBt m k b c) : zBt m k a c := ⟨h2.1, fun j j0 hj => by rw [h2.2 j j0 hj, h1.2 j j0 (by omega)]⟩
theorem zsc_num {sg : Int → Int} {n e : Int} {F : Int → Prop} {E : Int → Int → Int → Int → Int → Prop} (hS : zFS sg n e F E) {k bits : Int} (hk : 0 ≤ k ∧ k ≤ 4) (hb : 0 ≤ bits ∧ bits < 256) : ∀ (kk : Nat) (p v g : Int), (kk : Int) + g = 3 → 1 ≤ g → 0 ≤ p → (∀ g', zCg sg e g' (znum sg e kk p v).2 → E k bits g' 1 (znum sg e kk p v).2) → E k bits g 1 p
  | 0, p, v, g, hg, g1, p0, H => H g ⟨by omega, fun z => by omega⟩
  | kk + 1, p, v, g, hg, g1, p0, H => by
    unfold znum at H
    by_cases q : 48 ≤ zat sg e p ∧ zat sg e p ≤ 57
    · rw [if_pos q] at H
      have l := zat_lt (sg := sg) (e := e) (p := p) (by omega)
      rw [l.2] at q H
      exact (hS k bits g 1 p hk hb (by omega) (Or.inr rfl) p0).2.1 l.1 q (Or.inr (by omega)) (zsc_num hS hk hb kk (p + 1) _ (g + 1) (by omega) (by omega) (by omega) H)
    · rw [if_neg q] at H
      exact H g ⟨by omega, fun _ => q⟩
theorem zsc_all {sg : Int → Int} {n e : Int} {F : Int → Prop} {E : Int → Int → Int → Int → Int → Prop} (hS : zFS sg n e F E) : ∀ (f m : Nat) (p k : Int) (cs : List Int) (b : Bool) (p' k' : Int) (cs' : List Int), (m ≤ 3 ∨ (10 ≤ m ∧ m ≤ 12)) → 0 ≤ p → p ≤ e → 0 ≤ k ∧ k ≤ 4 → zfn m e p ≤ f → zpr sg e f m p k cs = (b, p', k', cs') → ∀ bits, 0 ≤ bits ∧ bits < 256 → (m ≤ 3 → zFv sg e F E m k bits p p' b) ∧ (10 ≤ m → zFg sg e F E (m - 10) k bits p p' b) := by
  intro f
  induction f with
  | zero =>
    intro m p k cs b p' k' cs' hm p0 pe hk hf
    exfalso
    unfold zfn at hf
    split at hf <;> omega
  | succ f ih =>
    intro m p k cs b p' k' cs' hm p0 pe hk hf h bits hb
    have hlen := zpr_len sg e (f + 1) m p k cs b p' k' cs' hm pe h
    unfold zpr at h
    by_cases m3 : m = 3
    · rw [if_pos m3] at h
      subst m3
      have ef : zfn 3 e p = 8 * (e - p) + 5 := rfl
      refine ⟨fun _ _ => ?_, fun z => by omega⟩
      by_cases c1 : zat sg e p = 45
      · rw [if_pos c1] at h
        have l := zat_lt (sg := sg) (e := e) (p := p) (by omega)
        rcases hr : zpr sg e f 3 (p + 1) k cs with ⟨b1, p1, k1, c1'⟩
        rw [hr] at h
        obtain ⟨rfl, rfl, -⟩ : b1 = b ∧ p1 = p' ∧ k1 = k' ∧ c1' ++ [3000] = cs' := by simpa using h
        have i1 := (ih 3 (p + 1) k cs _ _ _ _ (by omega) (by omega) (by omega) hk (by have : zfn 3 e (p + 1) = 8 * (e - (p + 1)) + 5 := rfl; omega) hr bits hb).1 (by omega) (fun z => by omega)
        have st := (hS k bits 0 0 p hk hb (by omega) (Or.inl rfl) p0).2.2.2.2 l.1
        rw [← l.2, c1] at st
        have st := st (by omega) rfl
        refine ⟨fun hb1 H => st (i1.1 hb1 H), fun hb1 HF => st (i1.2 hb1 HF)⟩
      · rw [if_neg c1] at h
        by_cases c2 : 48 ≤ zat sg e p ∧ zat sg e p ≤ 57
        · rw [if_pos c2] at h
          obtain ⟨rfl, rfl, -⟩ : true = b ∧ (znum sg e 3 p 0).2 = p' ∧ k = k' ∧ cs ++ [(znum sg e 3 p 0).1] = cs' := by simpa using h
          have l := zat_lt (sg := sg) (e := e) (p := p) (by omega)
          refine ⟨fun _ H => ?_, fun z => absurd z (by decide)⟩
          refine (hS k bits 0 0 p hk hb (by omega) (Or.inl rfl) p0).2.1 l.1 (by rw [← l.2]; exact c2) (Or.inl rfl) ?_
          have e3 : znum sg e 3 p 0 = znum sg e 2 (p + 1) (10 * 0 + zat sg e p - 48) := by
            show (if 48 ≤ zat sg e p ∧ zat sg e p ≤ 57 then znum sg e 2 (p + 1) (10 * 0 + zat sg e p - 48) else (0, p)) = _
            rw [if_pos c2]
          rw [e3] at H
          exact zsc_num hS hk hb 2 (p + 1) _ (0 + 1) (by omega) (by omega) (by omega) (fun g' hg' => H g' bits hg' ⟨fun z => by omega, fun z => by omega, fun z => by omega⟩ (zBt_rf hb))
        · rw [if_neg c2] at h
          by_cases c3 : 0 ≤ zvar (zat sg e p)
          · rw [if_pos c3] at h
            obtain ⟨rfl, rfl, -⟩ : true = b ∧ p + 1 = p' ∧ k = k' ∧ cs ++ [1000 + zvar (zat sg e p)] = cs' := by simpa using h
            have l := zat_lt (sg := sg) (e := e) (p := p) (fun z => by rw [z] at c3; revert c3; decide)
            refine ⟨fun _ H => ?_, fun z => absurd z (by decide)⟩
            have st := (hS k bits 0 0 p hk hb (by omega) (Or.inl rfl) p0).2.2.2.2 l.1
            rw [← l.2] at st
            have cv : zat sg e p = 104 ∨ zat sg e p = 100 ∨ zat sg e p = 110 ∨ zat sg e p = 116 := by
              revert c3; unfold zvar; (repeat' split) <;> omega
            have st := st c2 (by unfold zcs; rw [if_neg (by decide), decide_eq_true c3]; simp)
            rw [if_neg (by omega), if_neg (by omega), if_neg (by omega), if_neg (by omega), if_neg (by rw [zop0]; (repeat' split) <;> omega), if_pos (Or.inr c3)] at st
            exact st (H 0 bits ⟨by omega, fun z => by omega⟩ ⟨fun z => by omega, fun z => by omega, fun z => by omega⟩ (zBt_rf hb))
          · rw [if_neg c3] at h
            by_cases c4 : k = 4 ∨ zat sg e p ≠ 40
            · rw [if_pos c4] at h
              obtain ⟨rfl, rfl, -⟩ : false = b ∧ p = p' ∧ k = k' ∧ cs = cs' := by simpa using h
              refine ⟨fun z => absurd z (by decide), fun _ HF => ?_⟩
              have st := hS k bits 0 0 p hk hb (by omega) (Or.inl rfl) p0
              by_cases q : p < e
              · have ea : zat sg e p = sg p := by unfold zat; rw [if_pos q]
                refine st.2.2.2.1 q (by rw [← ea]; exact c2) ?_ HF
                rw [← ea]
                unfold zcs
                rw [if_neg (by decide), decide_eq_false c1, decide_eq_false c3]
                rcases c4 with c4 | c4
                · rw [decide_eq_false (show ¬ k < 4 by omega)]; simp
                · rw [decide_eq_false c4]; rfl
              · refine st.1 (by omega) ?_
                rw [if_neg (fun z => z.1 rfl), show e = p by omega]; exact HF
            · rw [if_neg c4] at h
              have c40 : zat sg e p = 40 := by omega
              have l := zat_lt (sg := sg) (e := e) (p := p) (by omega)
              have st := (hS k bits 0 0 p hk hb (by omega) (Or.inl rfl) p0).2.2.2.2 l.1
              rw [← l.2, c40] at st
              have st := st (by omega) (by unfold zcs; rw [if_neg (by decide), decide_eq_true (show k < 4 by omega)]; simp)
              rw [if_pos rfl, if_pos rfl, if_neg (by decide)] at st
              have hb1 : 0 ≤ zbr bits (k + 1) ∧ zbr bits (k + 1) < 256 := zbr_lt hb (by omega)
              have bz : ∀ j, 0 ≤ j → zb (zbr bits (k + 1)) j = (zb bits j && !decide (k + 1 = j)) := fun j j0 => zb_zbr (by omega) (by omega) j0
              rcases hr : zpr sg e f 0 (p + 1) (k + 1) cs with ⟨b1, p1, k1, c1'⟩
              rw [hr] at h
              have len := zpr_len sg e f 0 (p + 1) (k + 1) cs _ _ _ _ (by omega) (by omega) hr
              obtain ⟨len1, ⟨ds, -, len2⟩, -⟩ := len
              have i1 := (ih 0 (p + 1) (k + 1) cs _ _ _ _ (by omega) (by omega) (by omega) (by omega) (by have : zfn 0 e (p + 1) = 8 * (e - (p + 1)) + (8 - ((0 : Nat) : Int)) := rfl; omega) hr (zbr bits (k + 1)) hb1).1 (by omega) (fun _ => by rw [bz _ (by omega)]; simp)
              cases b1 with
              | false =>
                obtain ⟨rfl, rfl, -⟩ : false = b ∧ p1 = p' ∧ k1 = k' ∧ c1' = cs' := by simpa using h
                exact ⟨fun z => absurd z (by decide), fun _ HF => st (i1.2 rfl HF)⟩
              | true =>
                by_cases c5 : zat sg e p1 = 41
                · have h : (true, p1 + 1, k1 - 1, c1') = (b, p', k', cs') := by simpa [c5] using h
                  obtain ⟨rfl, rfl, -⟩ : true = b ∧ p1 + 1 = p' ∧ k1 - 1 = k' ∧ c1' = cs' := by simpa using h
                  have l2 := zat_lt (sg := sg) (e := e) (p := p1) (by omega)
                  refine ⟨fun _ H => st (i1.1 rfl (fun g bits2 cg nn bt => ?_)), fun z => absurd z (by decide)⟩
                  have st2 := (hS (k + 1) bits2 g 1 p1 (by omega) bt.1 cg.1 (Or.inr rfl) (by omega)).2.2.2.2 l2.1
                  rw [← l2.2, c5] at st2
                  have st2 := st2 (by omega) (by unfold zcs; rw [if_pos (by decide), if_pos rfl]; exact decide_eq_true (by omega))
                  rw [if_neg (by decide), if_pos rfl, if_neg (by decide), if_pos rfl, if_pos (Or.inl rfl), show k + 1 - 1 = k by omega] at st2
                  refine st2 (H 0 bits2 ⟨by omega, fun z => by omega⟩ ⟨fun z => by omega, fun z => by omega, fun z => by omega⟩ ⟨bt.1, fun j j0 hj => ?_⟩)
                  rw [bt.2 j j0 (by omega), bz j j0, decide_eq_false (by omega)]; simp
                · have h : (false, p1, k1, c1') = (b, p', k', cs') := by simpa [c5] using h
                  obtain ⟨rfl, rfl, -⟩ : false = b ∧ p1 = p' ∧ k1 = k' ∧ c1' = cs' := by simpa using h
                  refine ⟨fun z => absurd z (by decide), fun _ HF => st (i1.1 rfl (fun g bits2 cg nn bt => ?_))⟩
                  have st2 := hS (k + 1) bits2 g 1 p1 (by omega) bt.1 cg.1 (Or.inr rfl) (by omega)
                  by_cases q : p1 < e
                  · have ea : zat sg e p1 = sg p1 := by unfold zat; rw [if_pos q]
                    by_cases dg : 48 ≤ sg p1 ∧ sg p1 ≤ 57
                    · refine st2.2.2.1 q dg rfl ?_ HF
                      have cg2 := cg.2
                      rw [ea] at cg2
                      have cg1 := cg.1
                      by_cases g1 : g = 1 ∨ g = 2
                      · exact absurd dg (cg2 g1)
                      · omega
                    · refine st2.2.2.2.1 q dg ?_ HF
                      rw [← ea]
                      unfold zcs
                      rw [if_pos (by decide), if_neg c5, decide_eq_false (by have := nn.2.1 (by omega); omega), decide_eq_false (by have := nn.1 (by omega); omega), Bool.false_or, Bool.false_or]
                      by_cases q0 : 0 ≤ zop 0 (zat sg e p1)
                      · rw [nn.2.2 rfl q0]; simp
                      · rw [decide_eq_false q0]; rfl
                  · refine st2.1 (by omega) ?_
                    rw [if_neg (fun z => by omega), show e = p1 by omega]; exact HF
    · rw [if_neg m3] at h
      by_cases m2 : m < 3
      · rw [if_pos m2] at h
        have em : zfn m e p = 8 * (e - p) + (8 - (m : Int)) := by unfold zfn; rw [if_pos (by omega)]
        have em1 : zfn (m + 1) e p = 8 * (e - p) + (8 - ((m + 1 : Nat) : Int)) := by unfold zfn; rw [if_pos (by omega)]
        refine ⟨fun _ pre => ?_, fun z => by omega⟩
        rcases hr : zpr sg e f (m + 1) p k cs with ⟨b1, p1, k1, c1'⟩
        rw [hr] at h
        obtain ⟨len1, ⟨ds, -, len2⟩, len3, len4⟩ := zpr_len sg e f (m + 1) p k cs _ _ _ _ (by omega) (by omega) hr
        have i1 := (ih (m + 1) p k cs _ _ _ _ (by omega) p0 pe hk (by omega) hr bits hb).1 (by omega) (fun z => by omega)
        cases b1 with
        | false =>
          obtain ⟨rfl, rfl, -⟩ : false = b ∧ p1 = p' ∧ k1 = k' ∧ c1' = cs' := by simpa using h
          exact ⟨fun z => absurd z (by decide), fun _ HF => i1.2 rfl HF⟩
        | true =>
          have h : zpr sg e f (m + 10) p1 k1 c1' = (b, p', k', cs') := h
          have hk1 := len4 rfl
          have hp1 := len3 rfl (by omega)
          have em10 : zfn (m + 10) e p1 = 8 * (e - p1) + 1 := by unfold zfn; rw [if_neg (by omega)]
          have go : ∀ g bits1, zCg sg e g p1 → zNn sg e (m + 1) k bits1 p1 → zBt (m + 1) k bits bits1 → (b = true → (∀ g' bits', zCg sg e g' p' → zNn sg e m k bits' p' → zBt m k bits1 bits' → E k bits' g' 1 p') → E k bits1 g 1 p1) ∧ (b = false → F p' → E k bits1 g 1 p1) := by
            intro g bits1 cg nn bt
            rw [hk1] at h
            have i2 := (ih (m + 10) p1 k c1' b p' k' cs' (by omega) (by omega) len1 hk (by omega) h bits1 bt.1).2 (by omega)
            rw [show m + 10 - 10 = m by omega] at i2
            exact i2 g cg (fun z => nn.1 (by omega)) (fun z => ⟨nn.2.1 (by omega), by rw [bt.2 k hk.1 (Or.inr ⟨rfl, by omega⟩)]; exact pre z⟩)
          refine ⟨fun hb' H => i1.1 rfl (fun g bits1 cg nn bt => (go g bits1 cg nn bt).1 hb' (fun g' bits' cg' nn' bt' => H g' bits' cg' nn' (zBt_tr (by omega) bt bt'))), fun hb' HF => i1.1 rfl (fun g bits1 cg nn bt => (go g bits1 cg nn bt).2 hb' HF)⟩
      · rw [if_neg m2] at h
        refine ⟨fun z => by omega, fun hm10 g cg pre2 pre0 => ?_⟩
        have em : zfn m e p = 8 * (e - p) + 1 := by unfold zfn; rw [if_neg (by omega)]
        by_cases c1 : zop (m - 10) (zat sg e p) < 0
        · rw [if_pos c1] at h
          obtain ⟨rfl, rfl, -⟩ : true = b ∧ p = p' ∧ k = k' ∧ cs = cs' := by simpa using h
          refine ⟨fun _ H => H g bits cg ⟨fun z => ?_, fun z => ?_, fun z z2 => ?_⟩ (zBt_rf hb), fun z => absurd z (by decide)⟩
          · by_cases q : m - 10 = 2
            · rw [q] at c1; exact c1
            · exact pre2 (by omega)
          · by_cases q : m - 10 = 1
            · rw [q] at c1; exact c1
            · exact (pre0 (by omega)).1
          · rw [z] at c1; omega
        · rw [if_neg c1] at h
          have l : p < e ∧ zat sg e p = sg p := zat_lt (fun z => by
            apply c1; rw [z]; unfold zop; split <;> decide)
          have em1 : zfn (m - 10 + 1) e (p + 1) = 8 * (e - (p + 1)) + (8 - ((m - 10 + 1 : Nat) : Int)) := by unfold zfn; rw [if_pos (by omega)]
          have st := (hS k bits g 1 p hk hb cg.1 (Or.inr rfl) p0).2.2.2.2 l.1
          rw [← l.2] at st
          -- which sign it is
          have h012 : m = 10 ∨ m = 11 ∨ m = 12 := by omega
          have sgn : ∃ bits1, (0 ≤ bits1 ∧ bits1 < 256) ∧ (∀ j, 0 ≤ j → j ≠ k → zb bits1 j = zb bits j) ∧ (m = 10 → zb bits1 k = true) ∧ (m ≠ 10 → bits1 = bits) ∧ (E k bits1 0 0 (p + 1) → E k bits g 1 p) := by
            rcases h012 with rfl | rfl | rfl
            · have c1 : ¬ zop 0 (zat sg e p) < 0 := c1
              have cc : zat sg e p = 60 ∨ zat sg e p = 62 ∨ zat sg e p = 61 := by revert c1; rw [zop0]; (repeat' split) <;> omega
              have nv : ¬ 0 ≤ zvar (zat sg e p) := by unfold zvar; (repeat' split) <;> omega
              have st := st (by omega) (by unfold zcs; rw [if_pos (by decide), if_neg (by omega), decide_eq_true (show 0 ≤ zop 0 (zat sg e p) by omega), (pre0 rfl).2]; simp)
              rw [if_neg (by omega), if_neg (by omega), if_neg (by omega), if_neg (by omega), if_pos (by omega), if_neg (fun z => by rcases z with z | z; omega; exact nv z)] at st
              refine ⟨zbs bits k, zbs_lt hb (by omega), fun j j0 hj => ?_, fun _ => ?_, fun z => absurd rfl z, st⟩
              · rw [zb_zbs (by omega) (by omega) j0, decide_eq_false (fun z => hj z.symm)]; simp
              · rw [zb_zbs (by omega) (by omega) hk.1]; simp
            · have c1 : ¬ zop 1 (zat sg e p) < 0 := c1
              have cc : zat sg e p = 43 ∨ zat sg e p = 45 := by revert c1; rw [zop1]; (repeat' split) <;> omega
              have nv : ¬ 0 ≤ zvar (zat sg e p) := by unfold zvar; (repeat' split) <;> omega
              have st := st (by omega) (by unfold zcs; rw [if_pos (by decide), if_neg (by omega), decide_eq_true (show 0 ≤ zop 1 (zat sg e p) by omega)]; simp)
              rw [if_neg (by omega), if_neg (by omega), if_neg (by omega), if_neg (by omega), if_neg (by rw [zop0]; (repeat' split) <;> omega), if_neg (fun z => by rcases z with z | z; omega; exact nv z)] at st
              exact ⟨bits, hb, fun j _ _ => rfl, fun z => by omega, fun _ => rfl, st⟩
            · have c1 : ¬ zop 2 (zat sg e p) < 0 := c1
              have cc : zat sg e p = 42 ∨ zat sg e p = 47 := by revert c1; rw [zop2]; (repeat' split) <;> omega
              have nv : ¬ 0 ≤ zvar (zat sg e p) := by unfold zvar; (repeat' split) <;> omega
              have st := st (by omega) (by unfold zcs; rw [if_pos (by decide), if_neg (by omega), decide_eq_true (show 0 ≤ zop 2 (zat sg e p) by omega)]; simp)
              rw [if_neg (by omega), if_neg (by omega), if_neg (by omega), if_neg (by omega), if_neg (by rw [zop0]; (repeat' split) <;> omega), if_neg (fun z => by rcases z with z | z; omega; exact nv z)] at st
              exact ⟨bits, hb, fun j _ _ => rfl, fun z => by omega, fun _ => rfl, st⟩
          obtain ⟨bits1, hb1, bj, bk, bn, st⟩ := sgn
          rcases hr : zpr sg e f (m - 10 + 1) (p + 1) k cs with ⟨b1, p1, k1, c1'⟩
          rw [hr] at h
          obtain ⟨len1, ⟨ds, -, len2⟩, len3, len4⟩ := zpr_len sg e f (m - 10 + 1) (p + 1) k cs _ _ _ _ (by omega) (by omega) hr
          have i1 := (ih (m - 10 + 1) (p + 1) k cs _ _ _ _ (by omega) (by omega) (by omega) hk (by omega) hr bits1 hb1).1 (by omega) (fun z => by omega)
          cases b1 with
          | false =>
            obtain ⟨rfl, rfl, -⟩ : false = b ∧ p1 = p' ∧ k1 = k' ∧ c1' = cs' := by simpa using h
            exact ⟨fun z => absurd z (by decide), fun _ HF => st (i1.2 rfl HF)⟩
          | true =>
            have hk1 := len4 rfl
            have hp1 := len3 rfl (by omega)
            by_cases c5 : m = 10
            · subst c5
              have h : (true, p1, k1, c1' ++ [2000 + zop 0 (zat sg e p)]) = (b, p', k', cs') := h
              obtain ⟨rfl, rfl, -⟩ : true = b ∧ p1 = p' ∧ k1 = k' ∧ c1' ++ [2000 + zop 0 (zat sg e p)] = cs' := by simpa using h
              refine ⟨fun _ H => st (i1.1 rfl (fun g1 bits2 cg1 nn1 bt1 => H g1 bits2 cg1 ⟨fun _ => nn1.1 (by omega), fun _ => nn1.2.1 (by omega), fun _ _ => ?_⟩ ⟨bt1.1, fun j j0 hj => ?_⟩)), fun z => absurd z (by decide)⟩
              · rw [bt1.2 k hk.1 (Or.inr ⟨rfl, by omega⟩)]; exact bk rfl
              · rw [bt1.2 j j0 (Or.inl (by omega))]; exact bj j j0 (by omega)
            · have h : zpr sg e f m p1 k1 (c1' ++ [2000 + zop (m - 10) (zat sg e p)]) = (b, p', k', cs') := by simpa [c5] using h
              rw [hk1] at h
              have ebits := bn c5
              subst ebits
              have emp : zfn m e p1 = 8 * (e - p1) + 1 := by unfold zfn; rw [if_neg (by omega)]
              have go : ∀ g1 bits2, zCg sg e g1 p1 → zNn sg e (m - 10 + 1) k bits2 p1 → zBt (m - 10 + 1) k bits1 bits2 → (b = true → (∀ g' bits', zCg sg e g' p' → zNn sg e (m - 10) k bits' p' → zBt (m - 10) k bits2 bits' → E k bits' g' 1 p') → E k bits2 g1 1 p1) ∧ (b = false → F p' → E k bits2 g1 1 p1) := by
                intro g1 bits2 cg1 nn1 bt1
                have i2 := (ih m p1 k _ b p' k' cs' hm (by omega) len1 hk (by omega) h bits2 bt1.1).2 (by omega)
                exact i2 g1 cg1 (fun z => nn1.1 (by omega)) (fun z => by omega)
              exact ⟨fun hb' H => st (i1.1 rfl (fun g1 bits2 cg1 nn1 bt1 => (go g1 bits2 cg1 nn1 bt1).1 hb' (fun g' bits' cg' nn' bt' => H g' bits' cg' nn' (zBt_tr (by omega) bt1 bt')))), fun hb' HF => st (i1.1 rfl (fun g1 bits2 cg1 nn1 bt1 => (go g1 bits2 cg1 nn1 bt1).2 hb' HF))⟩

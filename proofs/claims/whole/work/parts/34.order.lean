/-! among; orders told by a text; order() -/
def zfl (c : Int) : List Int → Int → Int
  | [], _ => -1
  | x :: l, k => if x = c then k else zfl c l (k + 1)
def zsl (j : Nat) : List Int := (z_sb.getD j []).map (fun x => x.toInt)
theorem z_chr_l (j k : Nat) (h : k < (zsl j).length) : z_chr j (k : Int) = (zsl j)[k] := by
  unfold z_chr zsl at *
  rw [List.getElem_map]
  rw [List.length_map] at h
  show ((z_sb.getD j []).getD k 0).toInt = _
  rw [List.getD_eq_getElem?_getD, List.getElem?_eq_getElem h]
  rfl
theorem s_M_among {d j : Nat} {k : Int} {M : zM} {F : Int → zM → Prop} (hk : k = ((zsl j).length : Int)) (hk2 : k ≤ 100) (h : 0 ≤ M 179 12 ∧ M 179 13 ≤ 80) (H : F (if M 179 12 < M 179 13 then zfl (M 185 (M 179 12)) (zsl j) 0 else -1) M) : zCi (d + 8) 156 [z_r (11, 0) 179, z_r (104, k) j] M F := by
  refine e_M_among (fun P hP => ?_)
  have loop : ∀ (l : List Int) (i : Nat), (zsl j).drop i = l → i ≤ (zsl j).length → F (if M 179 12 < M 179 13 then zfl (M 185 (M 179 12)) l (i : Int) else -1) M → P k j (i : Int) M := by
    intro l
    induction l with
    | nil =>
      intro i hl hi hF
      have hlen : (zsl j).length ≤ i := by
        have := congrArg List.length hl
        simp at this
        omega
      refine hP _ _ _ _ (s_String_length ⟨fun _ => ?_, fun c => absurd (by omega) c⟩)
      by_cases c : M 179 12 < M 179 13
      · rw [if_pos c] at hF; exact hF
      · rw [if_neg c] at hF; exact hF
    | cons x l ih =>
      intro i hl hi hF
      have hlt : i < (zsl j).length := by
        have := congrArg List.length hl
        simp at this
        omega
      have hx : (zsl j)[i] = x := by
        have h1 := List.drop_eq_getElem_cons hlt
        rw [hl] at h1
        exact (List.cons.inj h1).1.symm
      have hl2 : (zsl j).drop (i + 1) = l := by
        have h1 := List.drop_eq_getElem_cons hlt
        rw [hl] at h1
        exact (List.cons.inj h1).2.symm
      refine hP _ _ _ _ (s_String_length ⟨fun c => absurd c (by omega), fun _ => ⟨fun c => ?_, fun c => s_String_charAt (by omega) ?_⟩⟩)
      · rw [if_neg (by omega)] at hF; exact hF
      · rw [if_pos (by omega)] at hF
        rw [z_chr_l j i hlt, hx]
        have hF2 : F (if x = M 185 (M 179 12) then (i : Int) else zfl (M 185 (M 179 12)) l ((i : Int) + 1)) M := hF
        refine ⟨by omega, fun q => ?_, fun q => ?_⟩
        · rw [if_neg q] at hF2
          rw [zw (by omega) (by omega)]
          have e : (i : Int) + 1 = ((i + 1 : Nat) : Int) := by omega
          rw [e] at hF2 ⊢
          exact ih (i + 1) hl2 (by omega) (by rw [if_pos (by omega)]; exact hF2)
        · rw [if_pos (Classical.not_not.mp q)] at hF2; exact hF2
  exact loop (zsl j) 0 rfl (Nat.zero_le _) H
theorem zsl_0 : zsl 0 = [97, 98, 99, 100, 101, 102, 103, 104] := by decide
theorem zfl_0 (c : Int) : zfl c (zsl 0) 0 = zle c := by
  rw [zsl_0]
  simp only [zfl, zle]
  repeat' split
  all_goals omega
theorem s_M_amongL {d : Nat} {M : zM} {F : Int → zM → Prop} (h : 0 ≤ M 179 12 ∧ M 179 13 ≤ 80) (H : F (if M 179 12 < M 179 13 then zle (M 185 (M 179 12)) else -1) M) : zCi (d + 8) 156 [z_r (11, 0) 179, z_r (104, 8) 0] M F := by
  refine s_M_among (by rw [zsl_0]; rfl) (by decide) h ?_
  rw [zfl_0]; exact H
/-- letters from i on, each once: how many of them, at most f; b are those that were there -/
def zro (n : Int) (sg : Int → Int) : Nat → Int → Int → Int
  | 0, i, _ => i
  | f + 1, i, b => if i < n ∧ 0 ≤ zle (sg i) ∧ zb b (zle (sg i)) = false then zro n sg f (i + 1) (zbs b (zle (sg i))) else i
theorem zro_u (n : Int) (sg : Int → Int) (f : Nat) (i b : Int) : zro n sg (f + 1) i b = if i < n ∧ 0 ≤ zle (sg i) ∧ zb b (zle (sg i)) = false then zro n sg f (i + 1) (zbs b (zle (sg i))) else i := rfl
theorem zle_r {c : Int} (h : 0 ≤ zle c) : zle c < 8 := by unfold zle at *; split at h <;> omega
theorem zro_c {n : Int} {sg sg' : Int → Int} : ∀ (f : Nat) (i b : Int), (∀ j, i ≤ j → j < n → sg j = sg' j) → zro n sg f i b = zro n sg' f i b
  | 0, _, _, _ => rfl
  | f + 1, i, b, h => by
    rw [zro_u, zro_u]
    by_cases c : i < n
    · rw [h i (by omega) c, zro_c f (i + 1) _ (fun j x y => h j (by omega) y)]
    · rw [if_neg (fun z => c z.1), if_neg (fun z => c z.1)]
theorem zro_s (n : Int) (sg : Int → Int) : ∀ (f : Nat) (i b : Int), 0 ≤ i → 0 ≤ b → b < 256 → (i ≤ zro n sg f i b ∧ zro n sg f i b ≤ i + f) ∧ (i ≤ n → zro n sg f i b ≤ n) ∧ (∀ j, i ≤ j → j < zro n sg f i b → 0 ≤ zle (sg j) ∧ zb b (zle (sg j)) = false) ∧ (∀ j k, i ≤ j → j < k → k < zro n sg f i b → zle (sg j) ≠ zle (sg k))
  | 0, i, b, _, _, _ => ⟨by unfold zro; omega, fun h => h, fun j x y => by unfold zro at y; omega, fun j k x y z => by unfold zro at z; omega⟩
  | f + 1, i, b, i0, b0, b1 => by
    rw [zro_u]
    by_cases c : i < n ∧ 0 ≤ zle (sg i) ∧ zb b (zle (sg i)) = false
    · rw [if_pos c]
      have hl := zle_r c.2.1
      have hb := zbs_lt ⟨b0, b1⟩ ⟨c.2.1, hl⟩
      obtain ⟨⟨a1, a2⟩, a3, a4, a5⟩ := zro_s n sg f (i + 1) (zbs b (zle (sg i))) (by omega) hb.1 hb.2
      have zz : ∀ x, 0 ≤ x → zb (zbs b (zle (sg i))) x = (zb b x || decide (zle (sg i) = x)) := fun x hx => zb_zbs ⟨b0, by omega⟩ ⟨c.2.1, by omega⟩ hx
      refine ⟨⟨by omega, by omega⟩, fun _ => a3 (by omega), fun j x y => ?_, fun j k x y z => ?_⟩
      · by_cases e : j = i
        · rw [e]; exact ⟨c.2.1, c.2.2⟩
        · have h4 := a4 j (by omega) y
          refine ⟨h4.1, ?_⟩
          have h5 := h4.2
          rw [zz _ h4.1, Bool.or_eq_false_iff] at h5
          exact h5.1
      · by_cases e : j = i
        · have h4 := a4 k (by omega) z
          have h5 := h4.2
          rw [zz _ h4.1, Bool.or_eq_false_iff, decide_eq_false_iff_not] at h5
          rw [e]; exact h5.2
        · exact a5 j k (by omega) y z
    · rw [if_neg c]
      exact ⟨⟨by omega, by omega⟩, fun h => h, fun j x y => by omega, fun j k x y z => by omega⟩
/-- the text is an order: 8 signs, all letters, each once -/
def zio (n : Int) (sg : Int → Int) : Prop := n = 8 ∧ zro n sg 8 0 0 = 8
theorem zio_p {n : Int} {sg : Int → Int} (h : zio n sg) : zperm (fun i => zle (sg i)) := by
  obtain ⟨h1, h2⟩ := h
  have hs := zro_s n sg 8 0 0 (by omega) (by omega) (by omega)
  rw [h2] at hs
  obtain ⟨-, -, a, b⟩ := hs
  refine ⟨fun i x y => ⟨(a i x y).1, zle_r (a i x y).1⟩, fun i j x y x' y' e => ?_⟩
  rcases Int.lt_trichotomy i j with z | z | z
  · exact absurd e (b i j x z y')
  · exact z
  · exact absurd e.symm (b j i x' z y)
theorem s_Text_faultInOrder {d : Nat} {M : zM} {F : Int → zM → Prop} (hn : 0 ≤ M 1 1 ∧ M 1 1 ≤ 80) (H : F (if M 1 1 = 8 ∧ zro (M 1 1) (M 2) 8 0 0 = 8 then -1 else zro (M 1 1) (M 2) 8 0 0) M) : zCi (d + 2) 29 [z_r (7, 0) 1] M F := by
  refine e_Text_faultInOrder (fun P hP => ?_)
  have loop : ∀ (f : Nat) (i b : Int), i + f = 8 → 0 ≤ i → i ≤ M 1 1 → 0 ≤ b → b < 256 → zro (M 1 1) (M 2) f i b = zro (M 1 1) (M 2) 8 0 0 → P b i M := by
    intro f
    induction f with
    | zero =>
      intro i b hi i0 i1 b0 b1 e
      have e : i = zro (M 1 1) (M 2) 8 0 0 := e
      refine hP _ _ _ ⟨fun q => ⟨fun q2 => absurd q2 (by omega), fun q2 => s_Text_faultAtEnd ?_⟩, fun q => ⟨fun _ => ⟨fun q2 => s_Text_faultAtEnd ?_, fun q2 => s_Text_faultAtEnd ?_⟩, fun q2 => absurd (by omega) q2⟩⟩
      · rw [if_pos (by omega)] at H
        rw [if_neg (by omega), if_neg (by decide)]; exact H
      · rw [if_neg (by omega), ← e] at H
        rw [if_pos (by omega), show (8 : Int) = i by omega]; exact H
      · omega
    | succ f ih =>
      intro i b hi i0 i1 b0 b1 e
      rw [zro_u _ _ f i b] at e
      refine hP _ _ _ ⟨fun q => ?_, fun q => ⟨fun q2 => absurd q2 (by omega), fun _ => ⟨by omega, s_W_letterOf ⟨fun q3 => ?_, fun q3 => ?_⟩⟩⟩⟩
      · rw [if_neg (by omega)] at e
        refine ⟨fun q2 => s_Text_faultAtEnd ?_, fun q2 => absurd (by omega) q2⟩
        rw [if_neg (by omega), ← e] at H
        rw [if_neg (by omega), if_pos rfl, show M 1 1 = i by omega]; exact H
      · rw [if_neg (by omega)] at e
        rw [if_neg (by omega), ← e] at H
        exact H
      · have h0 : 0 ≤ zle (M 2 i) := by unfold zle at *; split <;> omega
        have h1 := zle_r h0
        refine s_W_isIn ⟨b0, by omega⟩ ⟨h0, by omega⟩ ?_
        cases hz : zb b (zle (M 2 i)) with
        | true =>
          rw [hz, if_neg (by simp)] at e
          rw [if_neg (by omega), ← e] at H
          exact ⟨fun z => absurd z (by decide), fun _ => H⟩
        | false =>
          rw [if_pos ⟨by omega, h0, hz⟩] at e
          have hb := zbs_lt ⟨b0, b1⟩ ⟨h0, h1⟩
          refine ⟨fun _ => ?_, fun z => absurd rfl z⟩
          rw [zw (by omega) (by omega)]
          exact ih (i + 1) _ (by omega) (by omega) (by omega) hb.1 hb.2 e
  exact loop 8 0 0 (by omega) (by omega) (by omega) (by omega) (by omega) rfl
theorem s_Text_copyOrder {d a : Nat} {k : Int} {M : zM} {F : zM → Prop} (ha : a ≠ 1 ∧ a ≠ 2) (hk : 8 ≤ k) (hn : M 1 1 = 8) (H : ∀ M', zf [a] [] M M' → (∀ i, 0 ≤ i → i < 8 → M' a i = zle (M 2 i)) → F M') : zCv (d + 2) 32 [z_r (7, 0) 1, z_r (100, k) a] M F := by
  refine e_Text_copyOrder (fun P hP => ?_)
  have loop : ∀ (m : Nat) (i : Int) (M1 : zM), i + m = 8 → 0 ≤ i → zf [a] [] M M1 → (∀ j, 0 ≤ j → j < i → M1 a j = zle (M 2 j)) → P k a i M1 := by
    intro m
    induction m with
    | zero =>
      intro i M1 hi i0 f e
      have : i = 8 := by omega
      subst this
      have c1 : M1 1 = M 1 := by funext j; exact f 1 j (by simp; exact fun q => ha.1 q.symm) (by simp)
      exact hP _ _ _ _ ⟨fun _ => H M1 f e, fun c => absurd (by rw [c1, hn]; decide) c⟩
    | succ m ih =>
      intro i M1 hi i0 f e
      have c1 : M1 1 = M 1 := by funext j; exact f 1 j (by simp; exact fun q => ha.1 q.symm) (by simp)
      have c2 : M1 2 = M 2 := by funext j; exact f 2 j (by simp; exact fun q => ha.2 q.symm) (by simp)
      refine hP _ _ _ _ ⟨fun c => absurd c (by rw [c1, hn]; omega), fun _ => ⟨fun c => absurd c (by omega), fun _ => ⟨by omega, s_W_letterOf ⟨by omega, ?_⟩⟩⟩⟩
      rw [c2, zw (by omega) (by omega)]
      refine ih (i + 1) _ (by omega) (by omega) (zf_us f (by simp)) (fun j j0 j1 => ?_)
      by_cases hx : j = i
      · subst hx; rw [zu_s]
      · rw [zu_i hx]; exact e j j0 (by omega)
  exact loop 8 0 M (by omega) (by omega) zf_rf (fun j j0 j1 => by omega)
theorem s_Town_placeOfLetter {d a : Nat} {x : Int} {M : zM} {F : Int → zM → Prop} (hp : zperm (M (a + 1))) (hx : 0 ≤ x ∧ x < 8) (H : F (zrk (M (a + 1)) x) M) : zCi (d + 1) 33 [z_r (9, 0) a, z_i x] M F := by
  refine e_Town_placeOfLetter (fun P hP => ?_)
  have hz := zrk_r (M (a + 1)) x
  have ho := zrk_o hp x hx.1 hx.2
  have loop : ∀ (m : Nat) (i : Int), i + m = zrk (M (a + 1)) x → 0 ≤ i → P a x i M := by
    intro m
    induction m with
    | zero =>
      intro i hi i0
      have : i = zrk (M (a + 1)) x := by omega
      subst this
      exact hP _ _ _ _ ⟨fun c => absurd c (by omega), fun _ => ⟨hz, fun q => absurd ho q, fun _ => H⟩⟩
    | succ m ih =>
      intro i hi i0
      refine hP _ _ _ _ ⟨fun c => absurd c (by omega), fun _ => ⟨by omega, fun _ => ?_, fun q => ?_⟩⟩
      · rw [zw (by omega) (by omega)]; exact ih (i + 1) (by omega) (by omega)
      · have := hp.2 i _ i0 (by omega) hz.1 hz.2 ((Classical.not_not.mp q).trans ho.symm)
        omega
  exact loop (zrk (M (a + 1)) x).toNat 0 (by omega) (by omega)
theorem s_M_readsOrder {d : Nat} {M : zM} {F : Int → zM → Prop} (hn : 0 ≤ M 179 11 ∧ M 179 11 ≤ 80)
    (H : ∀ M', zf [202] [(179, 11), (179, 12), (179, 13), (179, 14)] M M' → M' 179 11 = 0 → (M 179 11 = 8 ∧ zro (M 179 11) (M 185) 8 0 0 = 8 → ∀ i, 0 ≤ i → i < 8 → M' 202 i = zle (M 185 i)) → F (if M 179 11 = 8 ∧ zro (M 179 11) (M 185) 8 0 0 = 8 then 0 else -1 - zro (M 179 11) (M 185) 8 0 0) M') : zCi (d + 9) 191 [z_r (11, 0) 179] M F := by
  refine e_M_readsOrder (fun P hP => s_M_begins (fun M1 f1 a1 a2 a3 a4 => ?_))
  have a4 : M1 179 13 = M 179 11 := by rw [a4]; split <;> omega
  have loop : ∀ (f : Nat) (i b : Int) (M2 : zM), i + f = 8 → 0 ≤ i → i ≤ M 179 11 → 0 ≤ b → b < 256 → zro (M 179 11) (M 185) f i b = zro (M 179 11) (M 185) 8 0 0 → zf [202] [(179, 11), (179, 12), (179, 13), (179, 14)] M M2 → M2 179 11 = 0 → M2 179 12 = i → M2 179 13 = M 179 11 → (∀ j, 0 ≤ j → j < i → M2 202 j = zle (M 185 j)) → P b i M2 := by
    intro f
    induction f with
    | zero =>
      intro i b M2 hi i0 i1 b0 b1 e g k1 k2 k3 k4
      have e : i = zro (M 179 11) (M 185) 8 0 0 := e
      have HM := H M2 g k1 (fun _ j x y => k4 j x (by omega))
      refine hP _ _ _ ⟨fun _ => ⟨fun q => ?_, fun q => ?_⟩, fun c => absurd (by omega) c⟩
      · rw [if_pos (by omega)] at HM; exact HM
      · rw [if_neg (by omega), ← e] at HM
        rw [k2, zw (by omega) (by omega)]; exact HM
    | succ f ih =>
      intro i b M2 hi i0 i1 b0 b1 e g k1 k2 k3 k4
      have c187 : M2 185 = M 185 := zf_c g 185 rfl
      rw [zro_u _ _ f i b] at e
      have bad : zro (M 179 11) (M 185) 8 0 0 = i → F (z_wr (-1 - M2 179 12)) M2 := by
        intro e2
        have HM := H M2 g k1 (fun q => by omega)
        rw [if_neg (by omega), e2] at HM
        rw [k2, zw (by omega) (by omega)]; exact HM
      refine hP _ _ _ ⟨fun c => absurd c (by omega), fun _ => s_M_amongL (by omega) ?_⟩
      rw [k2, k3, c187]
      by_cases hc : i < M 179 11
      · rw [if_pos hc]
        refine ⟨fun q => ?_, fun q => ?_⟩
        · rw [if_neg (by omega)] at e
          have := bad e.symm
          rw [k2] at this; exact this
        · have h0 : 0 ≤ zle (M 185 i) := by omega
          have h1 := zle_r h0
          refine s_M_has ⟨b0, by omega⟩ ⟨h0, by omega⟩ ?_
          cases hz : zb b (zle (M 185 i)) with
          | true =>
            rw [hz, if_neg (by simp)] at e
            exact ⟨fun z => absurd z (by decide), fun _ => bad e.symm⟩
          | false =>
            rw [if_pos ⟨hc, h0, hz⟩] at e
            have hb := zbs_lt ⟨b0, b1⟩ ⟨h0, h1⟩
            refine ⟨fun _ => ⟨by omega, ?_⟩, fun z => absurd rfl z⟩
            rw [k2, zw (x := i + 1) (by omega) (by omega)]
            refine ih (i + 1) _ _ (by omega) (by omega) (by omega) hb.1 hb.2 e (zf_us (zf_uj g (by decide)) (by decide)) ?_ ?_ ?_ (fun j j0 j1 => ?_)
            · rw [zu_c (by decide), zu_i (by decide)]; exact k1
            · rw [zu_c (by decide), zu_s]
            · rw [zu_c (by decide), zu_i (by decide)]; exact k3
            · by_cases hx : j = i
              · subst hx; rw [zu_s]
              · rw [zu_i hx, zu_c (by decide)]; exact k4 j j0 (by omega)
      · rw [if_neg hc]
        rw [if_neg (by omega)] at e
        have := bad e.symm
        rw [k2] at this
        exact ⟨fun _ => this, fun q => absurd (by decide) q⟩
  exact loop 8 0 0 M1 (by omega) (by omega) (by omega) (by omega) (by omega) rfl (zf_ww f1 rfl rfl) a1 a2 a4 (fun j j0 j1 => by omega)

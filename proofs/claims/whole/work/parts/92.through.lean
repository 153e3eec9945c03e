/-! all orders, in the reference -/
def zglp {σ : Type} (g : Int → σ → σ) : Nat → σ → σ
  | 0, q => q
  | i + 1, q => g (i : Int) (zglp g i q)
def zgo {σ : Type} (up : (Int → Int) → σ → σ) : Nat → (Int → Int) → Int → σ → σ
  | 0, t, _, q => up t q
  | f + 1, t, s, q => zglp (fun i q => if zb s i = true then q else zgo up f (fun j => if j = 7 - (f : Int) then i else t j) (zbs s i) q) 8 q
/-- the beginning of an order: k letters, the set of them -/
def zPx (k : Int) (t : Int → Int) (s : Int) : Prop := (0 ≤ s ∧ s < 256) ∧ (∀ j, 0 ≤ j → j < k → 0 ≤ t j ∧ t j < 8) ∧ (∀ i j, 0 ≤ i → i < k → 0 ≤ j → j < k → t i = t j → i = j) ∧ ∀ i, 0 ≤ i → (zb s i = true ↔ ∃ j, (0 ≤ j ∧ j < k) ∧ t j = i)
theorem zPx_0 (t : Int → Int) : zPx 0 t 0 := ⟨by omega, fun j a b => by omega, fun i j a b => by omega, fun i _ => by
  rw [zb_0]
  constructor
  · intro z; cases z
  · rintro ⟨j, hj, _⟩; omega⟩
theorem zPx_s {k i s : Int} {t : Int → Int} (h : zPx k t s) (hk : 0 ≤ k) (hi : 0 ≤ i ∧ i < 8) (hs : zb s i = false) : zPx (k + 1) (fun j => if j = k then i else t j) (zbs s i) := by
  obtain ⟨h1, h2, h3, h4⟩ := h
  have ni : ∀ j, 0 ≤ j → j < k → t j ≠ i := fun j a b e => by
    have := (h4 i hi.1).mpr ⟨j, ⟨a, b⟩, e⟩
    rw [hs] at this; cases this
  refine ⟨zbs_lt h1 hi, fun j a b => ?_, fun a b a0 a1 b0 b1 e => ?_, fun x x0 => ?_⟩
  · show 0 ≤ (if j = k then i else t j) ∧ (if j = k then i else t j) < 8
    by_cases q : j = k
    · rw [if_pos q]; exact hi
    · rw [if_neg q]; exact h2 j a (by omega)
  · have e : (if a = k then i else t a) = (if b = k then i else t b) := e
    by_cases q1 : a = k
    · by_cases q2 : b = k
      · omega
      · rw [if_pos q1, if_neg q2] at e; exact absurd e.symm (ni b b0 (by omega))
    · by_cases q2 : b = k
      · rw [if_neg q1, if_pos q2] at e; exact absurd e (ni a a0 (by omega))
      · rw [if_neg q1, if_neg q2] at e; exact h3 a b a0 (by omega) b0 (by omega) e
  · rw [zb_zbs (by omega) (by omega) x0, Bool.or_eq_true, h4 x x0]
    constructor
    · rintro (⟨j, hj, e⟩ | z)
      · exact ⟨j, by omega, by show (if j = k then i else t j) = x; rw [if_neg (by omega)]; exact e⟩
      · exact ⟨k, by omega, by show (if k = k then i else t k) = x; rw [if_pos rfl]; exact of_decide_eq_true z⟩
    · rintro ⟨j, hj, e⟩
      have e : (if j = k then i else t j) = x := e
      by_cases q : j = k
      · rw [if_pos q] at e; right; exact decide_eq_true e
      · rw [if_neg q] at e; left; exact ⟨j, by omega, e⟩
theorem zPx_p {t : Int → Int} {s : Int} (h : zPx 8 t s) : zperm t := ⟨h.2.1, h.2.2.1⟩
/-- what lies of the beginning -/
def zTu (k : Int) (t : Int → Int) (M : zM) : Prop := ∀ j, 0 ≤ j → j < k → M 206 j = t j ∧ M 197 (t j) = j
theorem s_M_goesThrough {σ : Type} {Inv : zM → σ → Prop} {up : (Int → Int) → σ → σ} {w : Int} {d : Nat} (hf : ∀ M M' q, Inv M q → zf [206, 197] [] M M' → Inv M' q)
    (look : ∀ (M : zM) (q : σ) (t : Int → Int) (F : zM → Prop), Inv M q → zperm t → zTu 8 t M → (∀ M', Inv M' (up t q) → M' 206 = M 206 → M' 197 = M 197 → F M') → zCv d 217 [z_r (11, 0) 179, z_i w] M F) :
    ∀ (f : Nat) (k s : Int) (t : Int → Int) (q : σ) (M : zM) (F : zM → Prop), k + f = 8 → 0 ≤ k → zPx k t s → Inv M q → zTu k t M → (∀ M', Inv M' (zgo up f t s q) → zTu k t M' → F M') → zCv (d + f + 1) 216 [z_r (11, 0) 179, z_i k, z_i s, z_i w] M F := by
  intro f
  induction f with
  | zero =>
    intro k s t q M F hk k0 hp hI hT H
    have : k = 8 := by omega
    subst this
    refine e_M_goesThrough (fun P hP => ⟨fun z => absurd rfl z, fun _ => look M q t _ hI (zPx_p hp) hT (fun M' h1 h2 h3 => H M' h1 (fun j a b => ?_))⟩)
    rw [h2, h3]; exact hT j a b
  | succ f ih =>
    intro k s t q M F hk k0 hp hI hT H
    rw [show d + (f + 1) + 1 = (d + f + 1) + 1 by omega]
    refine e_M_goesThrough (fun P hP => ⟨fun _ => ?_, fun z => absurd (by omega) z⟩)
    have ek : 7 - (f : Int) = k := by omega
    have loop : ∀ (m i : Nat) (M1 : zM), i + m = 8 → Inv M1 (zglp (fun i q => if zb s i = true then q else zgo up f (fun j => if j = 7 - (f : Int) then i else t j) (zbs s i) q) i q) → zTu k t M1 → P k s w (i : Int) M1 := by
      intro m
      induction m with
      | zero =>
        intro i M1 hi h1 h2
        have : i = 8 := by omega
        subst this
        exact hP _ _ _ _ _ ⟨fun _ => H M1 h1 h2, fun z => absurd (by decide) z⟩
      | succ m ih2 =>
        intro i M1 hi h1 h2
        have nx := ih2 (i + 1)
        rw [show ((i + 1 : Nat) : Int) = (i : Int) + 1 by omega] at nx
        have e1 : zglp (fun i q => if zb s i = true then q else zgo up f (fun j => if j = 7 - (f : Int) then i else t j) (zbs s i) q) (i + 1) q = (if zb s (i : Int) = true then zglp (fun i q => if zb s i = true then q else zgo up f (fun j => if j = 7 - (f : Int) then i else t j) (zbs s i) q) i q else zgo up f (fun j => if j = 7 - (f : Int) then (i : Int) else t j) (zbs s i) (zglp (fun i q => if zb s i = true then q else zgo up f (fun j => if j = 7 - (f : Int) then i else t j) (zbs s i) q) i q)) := rfl
        rw [e1] at nx
        generalize zglp (fun i q => if zb s i = true then q else zgo up f (fun j => if j = 7 - (f : Int) then i else t j) (zbs s i) q) i q = q1 at h1 nx
        have hs := hp.1
        refine hP _ _ _ _ _ ⟨fun z => absurd z (by omega), fun _ => s_M_has (by omega) (by omega) ?_⟩
        rw [zw (x := (i : Int) + 1) (by omega) (by omega), zw (x := k + 1) (by omega) (by omega)]
        by_cases z : zb s (i : Int) = true
        · rw [if_pos z] at nx ⊢
          exact ⟨fun _ => nx M1 (by omega) h1 h2, fun y => absurd (by decide) y⟩
        · rw [if_neg z] at nx ⊢
          have z' : zb s (i : Int) = false := by simpa using z
          refine ⟨fun y => absurd rfl y, fun _ => ⟨by omega, by omega, ?_⟩⟩
          rw [ek] at nx
          refine ih (k + 1) (zbs s i) (fun j => if j = k then (i : Int) else t j) q1 _ _ (by omega) (by omega) (zPx_s hp k0 (by omega) z') (hf _ _ _ h1 (zf_us (zf_us zf_rf (by decide)) (by decide))) (fun j a b => ?_) (fun M3 h3 t3 => nx M3 (by omega) h3 (fun j a b => ?_))
          · show (z_up (z_up M1 206 k i) 197 i k) 206 j = (if j = k then (i : Int) else t j) ∧ (z_up (z_up M1 206 k i) 197 i k) 197 (if j = k then (i : Int) else t j) = j
            by_cases y : j = k
            · rw [if_pos y, y, zu_c (by decide), zu_s, zu_s]; exact ⟨rfl, rfl⟩
            · rw [if_neg y, zu_c (by decide), zu_i y]
              have hj := h2 j a (by omega)
              have ne : t j ≠ i := fun e => by
                have := (hp.2.2.2 i (by omega)).mpr ⟨j, ⟨a, by omega⟩, e⟩
                rw [z'] at this; cases this
              rw [zu_i ne, zu_c (by decide)]
              exact hj
          · have := t3 j a (by omega)
            have this : M3 206 j = (if j = k then (i : Int) else t j) ∧ M3 197 (if j = k then (i : Int) else t j) = j := this
            rw [if_neg (by omega)] at this
            exact this
    exact loop 8 0 M (by omega) hI hT
/-- the least cost and the first order that has it -/
def zup (C : (Int → Int) → Int) (t : Int → Int) (q : Int × (Int → Int)) : Int × (Int → Int) := if C t < q.1 then (C t, t) else q
theorem s_M_keepsTurn {d : Nat} {x : Int} {M : zM} {F : zM → Prop} (H : ∀ M', zf [207] [(179, 43)] M M' → M' 179 43 = x → (∀ j, 0 ≤ j → j < 8 → M' 207 j = M 206 j) → F M') : zCv (d + 1) 218 [z_r (11, 0) 179, z_i x] M F := by
  refine e_M_keepsTurn (fun P hP => ?_)
  have loop : ∀ (m i : Nat) (M1 : zM), i + m = 8 → zf [207] [(179, 43)] M M1 → M1 179 43 = x → (∀ j : Int, 0 ≤ j → j < i → M1 207 j = M 206 j) → P x (i : Int) M1 := by
    intro m
    induction m with
    | zero =>
      intro i M1 hi f1 e1 e2
      exact hP _ _ _ ⟨fun _ => H M1 f1 e1 (fun j a b => e2 j a (by omega)), fun z => absurd (by omega) z⟩
    | succ m ih =>
      intro i M1 hi f1 e1 e2
      refine hP _ _ _ ⟨fun z => absurd z (by omega), fun _ => ⟨by omega, by omega, ?_⟩⟩
      rw [zw (x := (i : Int) + 1) (by omega) (by omega), zf_c f1 206 rfl]
      have := ih (i + 1) (z_up M1 207 (i : Int) (M 206 (i : Int))) (by omega) (zf_us f1 (by decide)) (by rw [zu_c (by decide)]; exact e1) (fun j a b => ?_)
      · rw [show ((i + 1 : Nat) : Int) = (i : Int) + 1 by omega] at this
        exact this
      · by_cases e : j = i
        · rw [e, zu_s]
        · rw [zu_i e]; exact e2 j a (by omega)
  exact loop 8 0 _ (by omega) (zf_uj zf_rf (by decide)) (zu_s _ _ _ _) (fun j a b => by omega)
theorem s_M_tellsTurn {d : Nat} {x : Int} {M : zM} {F : Int → zM → Prop} (H : ∀ M', zf [180] [(179, 1)] M M' → M' 179 1 = 8 → (∀ j, 0 ≤ j → j < 8 → M' 180 j = M 207 j) → F x M') : zCi (d + 2) 220 [z_r (11, 0) 179, z_i x] M F := by
  refine e_M_tellsTurn (fun P hP => ?_)
  have loop : ∀ (m i : Nat) (M1 : zM), i + m = 8 → zf [180] [(179, 1)] M M1 → M1 179 1 = i → (∀ j : Int, 0 ≤ j → j < i → M1 180 j = M 207 j) → P x (i : Int) M1 := by
    intro m
    induction m with
    | zero =>
      intro i M1 hi f1 e1 e2
      have : i = 8 := by omega
      subst this
      exact hP _ _ _ ⟨fun _ => H M1 f1 e1 e2, fun z => absurd (by omega) z⟩
    | succ m ih =>
      intro i M1 hi f1 e1 e2
      refine hP _ _ _ ⟨fun z => absurd z (by omega), fun _ => ⟨by omega, s_M_enters (by omega) ?_⟩⟩
      rw [zw (x := (i : Int) + 1) (by omega) (by omega), e1, zf_c f1 207 rfl]
      have := ih (i + 1) (z_up (z_up M1 180 (i : Int) (M 207 (i : Int))) 179 1 ((i : Int) + 1)) (by omega) (zf_uj (zf_us f1 (by decide)) (by decide)) (by rw [zu_s]; omega) (fun j a b => ?_)
      · rw [show ((i + 1 : Nat) : Int) = (i : Int) + 1 by omega] at this
        exact this
      · rw [zu_c (by decide)]
        by_cases e : j = i
        · rw [e, zu_s]
        · rw [zu_i e]; exact e2 j a (by omega)
  exact loop 8 0 _ (by omega) (zf_uj zf_rf (by decide)) (by rw [zu_s]; rfl) (fun j a b => by omega)
/-- likes: all orders looked at -/
def zLi (B : zM) (M : zM) (q : Int × (Int → Int)) : Prop := zf [206, 197, 207] [(179, 43)] B M ∧ M 179 43 = q.1 ∧ ∀ j, 0 ≤ j → j < 8 → M 207 j = q.2 j
theorem s_looks1 {d : Nat} {c h : Int} {len nam : Int → Int} {B : zM} (hB : B 179 3 = c) (hn : znm c len nam) (hU : zUn B c len nam) (h44 : B 179 44 = h) (hh : 0 ≤ h ∧ h < c) (M : zM) (q : Int × (Int → Int)) (t : Int → Int) (F : zM → Prop) (hI : zLi B M q) (hp : zperm t) (hT : zTu 8 t M) (H : ∀ M', zLi B M' (zup (fun t => zpl c (zrk t) len nam h) t q) → M' 206 = M 206 → M' 197 = M 197 → F M') : zCv (d + 2) 217 [z_r (11, 0) 179, z_i 1] M F := by
  obtain ⟨f1, v1, b1⟩ := hI
  have e3 : M 179 3 = c := by rw [zf_a f1 179 3 rfl]; exact hB
  have e44 : M 179 44 = h := by rw [zf_a f1 179 44 rfl]; exact h44
  have hU2 : zUn M c len nam := fun a b a0 a1 b0 b1 => by
    rw [zf_c f1 194 rfl, zf_c f1 195 rfl, zf_c f1 196 rfl]; exact hU a b a0 a1 b0 b1
  have hr : ∀ x, 0 ≤ x → x < 8 → M 197 x = zrk t x := fun x a b => zrk_u hp (fun i a b => (hT i a b).2) x a b
  have hc := hn.1
  refine e_M_looksAt (fun P Q hP hQ => ⟨fun _ => ⟨fun z => absurd rfl z, fun _ => ?_⟩, fun z => absurd (by decide) z⟩)
  have loop : ∀ (m i : Nat), (i : Int) + m = c → P 1 (zcn (fun b => decide (b ≠ h) && zah (zrk t) len nam b h) i) (i : Int) M := by
    intro m
    induction m with
    | zero =>
      intro i hi
      have hi : i = c.toNat := by omega
      subst hi
      refine hP _ _ _ _ ⟨fun _ => ?_, fun z => absurd (by omega) z⟩
      rw [v1]
      have eC : zpl c (zrk t) len nam h = zcn (fun b => decide (b ≠ h) && zah (zrk t) len nam b h) c.toNat := rfl
      unfold zup at H
      dsimp only at H
      rw [← eC]
      refine ⟨fun z => ?_, fun z => s_M_keepsTurn (fun M' f' x1 x2 => ?_)⟩
      · rw [if_neg (by omega)] at H
        exact H M ⟨f1, v1, b1⟩ rfl rfl
      · rw [if_pos (by omega)] at H
        exact H M' ⟨zf_ww (zf_tr f1 f') rfl rfl, x1, fun j a b => by rw [x2 j a b]; exact (hT j a b).1⟩ (zf_c f' 206 rfl) (zf_c f' 197 rfl)
    | succ m ih =>
      intro i hi
      have nx := ih (i + 1) (by omega)
      have cl := zcn_le (fun b => decide (b ≠ h) && zah (zrk t) len nam b h) i
      rw [show ((i + 1 : Nat) : Int) = (i : Int) + 1 by omega] at nx
      have eS : zcn (fun b => decide (b ≠ h) && zah (zrk t) len nam b h) (i + 1) = zcn (fun b => decide (b ≠ h) && zah (zrk t) len nam b h) i + (if (decide ((i : Int) ≠ h) && zah (zrk t) len nam i h) = true then 1 else 0) := rfl
      rw [eS] at nx
      have z0 : (decide ((i : Int) ≠ h) && zah (zrk t) len nam i h) = false → P 1 (z_wr (zcn (fun b => decide (b ≠ h) && zah (zrk t) len nam b h) i + 0)) (z_wr ((i : Int) + 1)) M := fun w => by
        rw [w, if_neg (by decide)] at nx
        rw [zw (x := _ + 0) (by omega) (by omega), zw (x := (i : Int) + 1) (by omega) (by omega)]; exact nx
      refine hP _ _ _ _ ⟨fun z => absurd z (by omega), fun _ => ⟨fun z => s_M_flag (b := false) rfl (z0 (by rw [decide_eq_false (by omega)]; rfl)), fun z => ?_⟩⟩
      rw [e44] at z ⊢
      refine s_M_goesAhead hn hU2 hr (by omega) hh ⟨fun w => s_M_flag (b := false) rfl (z0 ?_), fun w => s_M_flag (b := true) rfl ?_⟩
      · rw [decide_eq_true (show (i : Int) ≠ h from z), Bool.true_and]
        cases y : zah (zrk t) len nam i h
        · rfl
        · rw [y] at w; simp at w
      · have y : zah (zrk t) len nam i h = true := by
          cases y : zah (zrk t) len nam i h
          · rw [y] at w; simp at w
          · rfl
        rw [decide_eq_true (show (i : Int) ≠ h from z), y, if_pos (by decide)] at nx
        show P 1 (z_wr (_ + 1)) _ M
        rw [zw (x := zcn (fun b => decide (b ≠ h) && zah (zrk t) len nam b h) i + 1) (by omega) (by omega), zw (x := (i : Int) + 1) (by omega) (by omega)]; exact nx
  exact loop c.toNat 0 (by omega)

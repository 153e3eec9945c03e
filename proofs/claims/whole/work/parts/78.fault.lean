/-! the class's scan of a rule: its steps -/
theorem s_Rule_isComparison {d : Nat} {c : Int} {M : zM} {F : Int → zM → Prop} (H : F (if 0 ≤ zop 0 c then 1 else 0) M) : zCi (d + 1) 22 [z_i c] M F := by
  rw [zop0] at H
  refine e_Rule_isComparison ⟨fun q => ?_, fun q => ⟨fun q2 => ?_, fun q2 => ⟨fun q3 => ?_, fun q3 => ?_⟩⟩⟩
  · rw [if_pos q, if_pos (by decide)] at H; exact H
  · rw [if_neg q, if_pos q2, if_pos (by decide)] at H; exact H
  · rw [if_neg q, if_neg q2, if_neg q3, if_neg (by decide)] at H; exact H
  · rw [if_neg q, if_neg q2, if_pos (Classical.not_not.mp q3), if_pos (by decide)] at H; exact H
theorem s_Rule_isAdding {d : Nat} {c : Int} {M : zM} {F : Int → zM → Prop} (H : F (if 0 ≤ zop 1 c then 1 else 0) M) : zCi (d + 1) 20 [z_i c] M F := by
  rw [zop1] at H
  refine e_Rule_isAdding ⟨fun q => ?_, fun q => ⟨fun q3 => ?_, fun q3 => ?_⟩⟩
  · rw [if_pos q, if_pos (by decide)] at H; exact H
  · rw [if_neg q, if_neg q3, if_neg (by decide)] at H; exact H
  · rw [if_neg q, if_pos (Classical.not_not.mp q3), if_pos (by decide)] at H; exact H
theorem s_Rule_isFactoring {d : Nat} {c : Int} {M : zM} {F : Int → zM → Prop} (H : F (if 0 ≤ zop 2 c then 1 else 0) M) : zCi (d + 1) 21 [z_i c] M F := by
  rw [zop2] at H
  refine e_Rule_isFactoring ⟨fun q => ?_, fun q => ⟨fun q3 => ?_, fun q3 => ?_⟩⟩
  · rw [if_pos q, if_pos (by decide)] at H; exact H
  · rw [if_neg q, if_neg q3, if_neg (by decide)] at H; exact H
  · rw [if_neg q, if_pos (Classical.not_not.mp q3), if_pos (by decide)] at H; exact H
/-- whether a sign can stand -/
def zcs (c b k : Int) (q : Bool) : Bool := if b ≠ 0 then (if c = 41 then decide (0 < k) else decide (0 ≤ zop 1 c) || (decide (0 ≤ zop 2 c) || (decide (0 ≤ zop 0 c) && !q))) else decide (c = 45) || (decide (0 ≤ zvar c) || (decide (c = 40) && decide (k < 4)))
theorem s_Rule_canStand {d : Nat} {c b k : Int} {q : Bool} {M : zM} {F : Int → zM → Prop} (H : F (if zcs c b k q = true then 1 else 0) M) : zCi (d + 2) 18 [z_i c, z_i b, z_i k, z_i (if q = true then 1 else 0)] M F := by
  unfold zcs at H
  refine e_Rule_canStand ⟨fun hb => ⟨fun h1 => s_Rule_isAdding ?_, fun h1 => ⟨fun h2 => ?_, fun h2 => ?_⟩⟩, fun hb => ⟨fun h1 => ?_, fun h1 => s_Rule_isVariable ?_⟩⟩
  · rw [if_pos hb, if_neg h1] at H
    by_cases a1 : 0 ≤ zop 1 c
    · rw [if_pos a1]
      rw [decide_eq_true a1] at H
      exact ⟨fun _ => H, fun z => absurd (by decide) z⟩
    · rw [if_neg a1]
      rw [decide_eq_false a1, Bool.false_or] at H
      refine ⟨fun z => absurd rfl z, fun _ => s_Rule_isFactoring ?_⟩
      by_cases a2 : 0 ≤ zop 2 c
      · rw [if_pos a2]
        rw [decide_eq_true a2] at H
        exact ⟨fun _ => H, fun z => absurd (by decide) z⟩
      · rw [if_neg a2]
        rw [decide_eq_false a2, Bool.false_or] at H
        refine ⟨fun z => absurd rfl z, fun _ => s_Rule_isComparison ?_⟩
        by_cases a3 : 0 ≤ zop 0 c
        · rw [if_pos a3]
          rw [decide_eq_true a3, Bool.true_and] at H
          refine ⟨fun z => absurd z (by decide), fun _ => ⟨fun z => ?_, fun z => ?_⟩⟩
          · cases q
            · exact absurd rfl z
            · exact H
          · cases q
            · exact H
            · exact absurd (by decide) z
        · rw [if_neg a3]
          rw [decide_eq_false a3, Bool.false_and] at H
          exact ⟨fun _ => H, fun z => absurd rfl z⟩
  · rw [if_pos hb, if_pos (Classical.not_not.mp h1), decide_eq_false (by omega)] at H; exact H
  · rw [if_pos hb, if_pos (Classical.not_not.mp h1), decide_eq_true (by omega)] at H; exact H
  · rw [if_neg hb, decide_eq_true h1] at H; exact H
  · rw [if_neg hb, decide_eq_false h1, Bool.false_or] at H
    by_cases a1 : 0 ≤ zvar c
    · rw [if_pos a1]
      rw [decide_eq_true a1] at H
      exact ⟨fun _ => H, fun z => absurd (by decide) z⟩
    · rw [if_neg a1]
      rw [decide_eq_false a1, Bool.false_or] at H
      refine ⟨fun z => absurd rfl z, fun _ => ⟨fun h2 => ?_, fun h2 => ⟨fun h3 => ?_, fun h3 => ?_⟩⟩⟩
      · rw [decide_eq_false h2] at H; exact H
      · rw [decide_eq_true (Classical.not_not.mp h2), decide_eq_false (by omega)] at H; exact H
      · rw [decide_eq_true (Classical.not_not.mp h2), decide_eq_true (by omega)] at H; exact H
/-- what the scan does: at a sign, at the end -/
def zFS (sg : Int → Int) (n e : Int) (F : Int → Prop) (E : Int → Int → Int → Int → Int → Prop) : Prop := ∀ k bits g b p : Int, 0 ≤ k ∧ k ≤ 4 → 0 ≤ bits ∧ bits < 256 → 0 ≤ g ∧ g ≤ 3 → b = 0 ∨ b = 1 → 0 ≤ p →
  (p = e → F (if b ≠ 0 ∧ k = 0 ∧ n ≤ 40 then -1 else e) → E k bits g b p) ∧
  (p < e → 48 ≤ sg p ∧ sg p ≤ 57 → b = 0 ∨ (g ≠ 0 ∧ g ≠ 3) → E k bits (g + 1) 1 (p + 1) → E k bits g b p) ∧
  (p < e → 48 ≤ sg p ∧ sg p ≤ 57 → b = 1 → (g = 0 ∨ g = 3) → F p → E k bits g b p) ∧
  (p < e → ¬ (48 ≤ sg p ∧ sg p ≤ 57) → zcs (sg p) b k (zb bits k) = false → F p → E k bits g b p) ∧
  (p < e → ¬ (48 ≤ sg p ∧ sg p ≤ 57) → zcs (sg p) b k (zb bits k) = true → E (if sg p = 40 then k + 1 else if sg p = 41 then k - 1 else k) (if sg p = 40 then zbr bits (k + 1) else if sg p = 41 then bits else if 0 ≤ zop 0 (sg p) then zbs bits k else bits) 0 (if sg p = 41 ∨ 0 ≤ zvar (sg p) then 1 else 0) (p + 1) → E k bits g b p)
theorem s_Rule_faultIn {d : Nat} {n : Int} {M : zM} {F : Int → zM → Prop} (hn : M 1 1 = n) (h0 : 0 ≤ n ∧ n ≤ 80) (K : ∀ E, zFS (M 2) n (if n < 40 then n else 40) (fun v => F v M) E → E 0 0 0 0 0) : zCi (d + 3) 16 [z_r (7, 0) 1] M F := by
  refine e_Rule_faultIn (fun P1 P2 P3 P4 P5 h1 h2 h3 h4 h5 => K (fun k bits g b p => P1 k bits g b p M) ?_)
  have e40 : (if n < 40 then n else 40) ≤ n ∧ (if n < 40 then n else 40) ≤ 40 ∧ ((if n < 40 then n else 40) = n ∨ (if n < 40 then n else 40) = 40) := by split <;> omega
  generalize hE : (if n < 40 then n else 40) = e at e40
  have hE2 : (n ≤ 40 → e = n) ∧ (40 < n → e = 40) := by rw [← hE]; constructor <;> (intro q; split <;> omega)
  intro k bits g b p hk hb hg hbb hp
  have zp : p < e → z_wr (p + 1) = p + 1 := fun _ => zw (by omega) (by omega)
  -- behind the sign
  have tail : ∀ (k' bits' s0 : Int), p < e → (s0 = 0 ∨ s0 = 1) → P1 k' bits' (if s0 = 0 then 0 else g + 1) (if s0 ≠ 0 ∨ M 2 p = 41 ∨ 0 ≤ zvar (M 2 p) then 1 else 0) (p + 1) M → P4 k' bits' g b p (M 2 p) s0 M := by
    intro k' bits' s0 pe hs HH
    have fin : ∀ x3, x3 = (if s0 = 0 then 0 else g + 1) → P5 k' bits' x3 b p (M 2 p) s0 M := by
      intro x3 hx
      rw [← hx] at HH
      refine h5 _ _ _ _ _ _ _ _ ⟨fun z => ?_, fun z => ⟨fun z2 => ?_, fun z2 => s_Rule_isVariable ⟨fun z3 => ?_, fun z3 => ?_⟩⟩⟩
      · rw [if_pos (Or.inl z)] at HH; rw [zp pe]; exact HH
      · rw [if_pos (Or.inr (Or.inl z2))] at HH; rw [zp pe]; exact HH
      · have nv : ¬ 0 ≤ zvar (M 2 p) := fun q => by rw [if_pos q] at z3; omega
        rw [if_neg (fun q => by rcases q with q | q | q; exact z q; exact z2 q; exact nv q)] at HH; rw [zp pe]; exact HH
      · have nv : 0 ≤ zvar (M 2 p) := Classical.byContradiction (fun q => by rw [if_neg q] at z3; omega)
        rw [if_pos (Or.inr (Or.inr nv))] at HH; rw [zp pe]; exact HH
    refine h4 _ _ _ _ _ _ _ _ ⟨fun z => fin 0 (by rw [if_pos z]), fun z => ?_⟩
    rw [zw (x := g + 1) (by omega) (by omega)]
    exact fin (g + 1) (by rw [if_neg z])
  have at0 : p < e → (∀ s0, s0 = (if 48 ≤ M 2 p ∧ M 2 p ≤ 57 then 1 else 0) → P2 k bits g b p (M 2 p) s0 M) → P1 k bits g b p M := by
    intro pe HH
    refine h1 _ _ _ _ _ _ ⟨fun z => absurd z (by omega), fun _ => ⟨fun z => absurd z (by omega), fun _ => s_Text_at (by omega) ?_⟩⟩
    rw [if_pos (by omega)]
    refine s_W_digitOf ⟨fun z => HH 0 ?_, fun z => HH 1 ?_⟩
    · rw [if_neg (fun q => by unfold zdi at z; rw [if_pos q] at z; omega)]
    · rw [if_pos (Classical.byContradiction (fun q => by unfold zdi at z; rw [if_neg q] at z; omega))]
  refine ⟨fun pe HF => ?_, fun pe dg hx HE => ?_, fun pe dg b1 g03 HF => ?_, fun pe dg cs HF => ?_, fun pe dg cs HE => ?_⟩
  · -- the end
    have fe : ∀ v x, v = (if b ≠ 0 ∧ k = 0 ∧ n ≤ 40 then -1 else e) → (x = 0 ∨ x = 1) → (x = 1 ↔ b ≠ 0 ∧ k = 0) → zCi (d + 2) 7 [z_r (7, 0) 1, z_i 40, z_i x] M (fun v M' => F v M') := by
      intro v x hv hx hxx
      refine e_Text_faultAtEnd ?_
      rw [hn]
      refine ⟨fun z => ⟨fun z2 => ?_, fun z2 => ?_⟩, fun z => ?_⟩
      · rw [if_neg (fun q => by have := hxx.mpr ⟨q.1, q.2.1⟩; omega), hE2.1 z] at HF; exact HF
      · have := hxx.mp (by omega)
        rw [if_pos ⟨this.1, this.2, z⟩] at HF; exact HF
      · rw [if_neg (fun q => z q.2.2), hE2.2 (by omega)] at HF; exact HF
    have both : ((b = 0 → zCi (d + 2) 7 [z_r (7, 0) 1, z_i 40, z_i 0] M (fun v M' => F v M')) ∧ (¬ (b = 0) → ((k ≠ 0 → zCi (d + 2) 7 [z_r (7, 0) 1, z_i 40, z_i 0] M (fun v M' => F v M')) ∧ (¬ (k ≠ 0) → zCi (d + 2) 7 [z_r (7, 0) 1, z_i 40, z_i 1] M (fun v M' => F v M'))))) :=
      ⟨fun z => fe _ 0 rfl (Or.inl rfl) (by omega), fun z => ⟨fun z2 => fe _ 0 rfl (Or.inl rfl) (by omega), fun z2 => fe _ 1 rfl (Or.inr rfl) (by omega)⟩⟩
    exact h1 _ _ _ _ _ _ ⟨fun _ => both, fun z => ⟨fun _ => both, fun z2 => absurd (by omega) z2⟩⟩
  · -- a digit that can stand
    refine at0 pe (fun s0 hs => ?_)
    rw [if_pos dg] at hs
    subst hs
    have go : P3 k bits g b p (M 2 p) 1 M := by
      refine h3 _ _ _ _ _ _ _ _ ⟨fun _ => ⟨fun _ => s_Rule_isComparison ?_, fun z => absurd (by omega) z⟩, fun z => absurd (by omega) z⟩
      rw [if_neg (by rw [zop0]; (repeat' split) <;> omega)]
      refine ⟨fun _ => tail k bits 1 pe (Or.inr rfl) ?_, fun z => absurd rfl z⟩
      rw [if_neg (by decide), if_pos (Or.inl (by decide))]; exact HE
    refine h2 _ _ _ _ _ _ _ _ ⟨fun z => absurd z (by decide), fun _ => ⟨fun _ => go, fun z => ⟨fun z2 => ?_, fun z2 => ⟨fun _ => go, fun z3 => ?_⟩⟩⟩⟩
    · omega
    · omega
  · refine at0 pe (fun s0 hs => ?_)
    rw [if_pos dg] at hs
    subst hs
    refine h2 _ _ _ _ _ _ _ _ ⟨fun z => absurd z (by decide), fun _ => ⟨fun z => absurd z (by omega), fun _ => ⟨fun _ => HF, fun z => ⟨fun z2 => absurd z2 (by omega), fun _ => HF⟩⟩⟩⟩
  · refine at0 pe (fun s0 hs => ?_)
    rw [if_neg dg] at hs
    subst hs
    refine h2 _ _ _ _ _ _ _ _ ⟨fun _ => s_W_isIn (by omega) (by omega) (s_Rule_canStand ?_), fun z => absurd rfl z⟩
    rw [cs]
    exact ⟨fun z => absurd rfl z, fun _ => HF⟩
  · refine at0 pe (fun s0 hs => ?_)
    rw [if_neg dg] at hs
    subst hs
    refine h2 _ _ _ _ _ _ _ _ ⟨fun _ => s_W_isIn (by omega) (by omega) (s_Rule_canStand ?_), fun z => absurd rfl z⟩
    rw [if_pos cs]
    have e4 : (if (0 : Int) ≠ 0 ∨ M 2 p = 41 ∨ 0 ≤ zvar (M 2 p) then (1 : Int) else 0) = (if M 2 p = 41 ∨ 0 ≤ zvar (M 2 p) then 1 else 0) := by
      by_cases q : M 2 p = 41 ∨ 0 ≤ zvar (M 2 p)
      · rw [if_pos q, if_pos (Or.inr q)]
      · rw [if_neg q, if_neg (fun z => by rcases z with z | z; exact z rfl; exact q z)]
    have tl : ∀ k' bits', P1 k' bits' 0 (if M 2 p = 41 ∨ 0 ≤ zvar (M 2 p) then 1 else 0) (p + 1) M → P4 k' bits' g b p (M 2 p) 0 M := fun k' bits' HH => tail k' bits' 0 pe (Or.inl rfl) (by rw [if_pos rfl, e4]; exact HH)
    refine ⟨fun _ => h3 _ _ _ _ _ _ _ _ ⟨fun z => ⟨fun z2 => s_Rule_isComparison ?_, fun z2 => ?_⟩, fun z => ?_⟩, fun z => absurd (by decide) z⟩
    · rw [if_neg z, if_neg z2, if_neg z, if_neg z2] at HE
      by_cases q : 0 ≤ zop 0 (M 2 p)
      · rw [if_pos q]
        rw [if_pos q] at HE
        exact ⟨fun w => absurd w (by decide), fun _ => tl _ _ HE⟩
      · rw [if_neg q]
        rw [if_neg q] at HE
        exact ⟨fun _ => tl _ _ HE, fun w => absurd rfl w⟩
    · have c41 := Classical.not_not.mp z2
      rw [if_neg z, if_pos c41, if_neg z, if_pos c41] at HE
      rw [zw (x := k + (-1)) (by omega) (by omega), show k + (-1) = k - 1 by omega]
      exact tl _ _ HE
    · have c40 := Classical.not_not.mp z
      rw [if_pos c40, if_pos c40] at HE
      rw [zw (x := k + 1) (by omega) (by omega)]
      exact tl _ _ HE

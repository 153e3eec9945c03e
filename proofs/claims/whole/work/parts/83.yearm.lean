/-! year(): the acts told by a text -/
def zaa (c : Int) : Int := if c = 100 then 0 else if c = 109 then 1 else if c = 114 then 2 else if c = 115 then 3 else -1
def zdg1 (sg : Int → Int) (e p : Int) : Bool := decide (48 ≤ zat sg e p ∧ zat sg e p ≤ 57)
/-- the act at p: whether, where it ends or fails -/
def zac1 (sg : Int → Int) (e p : Int) : Bool × Int :=
  if zaa (zat sg e p) < 0 then (false, p)
  else if zaa (zat sg e p) = 0 then (if zdg1 sg e (p + 1) = true then (true, p + 2) else (false, p + 1))
  else if zaa (zat sg e p) = 1 then (if zdg1 sg e (p + 1) = true then (if zdg1 sg e (p + 2) = true then (true, p + 3) else (false, p + 2)) else (false, p + 1))
  else (true, p + 1)
def zyl (sg : Int → Int) (e : Int) : Nat → Int → Bool × Int × List Int
  | 0, p => (true, p, [])
  | f + 1, p => if e ≤ p then (true, p, []) else if (zac1 sg e p).1 = true then ((zyl sg e f (zac1 sg e p).2).1, (zyl sg e f (zac1 sg e p).2).2.1, p :: (zyl sg e f (zac1 sg e p).2).2.2) else (false, (zac1 sg e p).2, [])
theorem zdg1_lt {sg : Int → Int} {e p : Int} (h : zdg1 sg e p = true) : p < e ∧ 48 ≤ sg p ∧ sg p ≤ 57 := by
  unfold zdg1 at h
  have h := of_decide_eq_true h
  have l := zat_lt (sg := sg) (e := e) (p := p) (by omega)
  rw [l.2] at h
  exact ⟨l.1, h⟩
theorem zaa_lt {sg : Int → Int} {e p : Int} (h : 0 ≤ zaa (zat sg e p)) : p < e ∧ zat sg e p = sg p := zat_lt (fun z => by rw [z] at h; revert h; decide)
theorem zac1_s {sg : Int → Int} {e p : Int} (hp : p ≤ e) : p ≤ (zac1 sg e p).2 ∧ (zac1 sg e p).2 ≤ e ∧ ((zac1 sg e p).1 = true → p < (zac1 sg e p).2) := by
  unfold zac1
  by_cases q0 : zaa (zat sg e p) < 0
  · rw [if_pos q0]; exact ⟨Int.le_refl _, hp, fun z => absurd z Bool.false_ne_true⟩
  · rw [if_neg q0]
    have l := (zaa_lt (sg := sg) (e := e) (p := p) (by omega)).1
    by_cases q1 : zaa (zat sg e p) = 0
    · rw [if_pos q1]
      by_cases d1 : zdg1 sg e (p + 1) = true
      · rw [if_pos d1]; have := (zdg1_lt d1).1; exact ⟨by show p ≤ p + 2; omega, by show p + 2 ≤ e; omega, fun _ => by show p < p + 2; omega⟩
      · rw [if_neg d1]; exact ⟨by show p ≤ p + 1; omega, by show p + 1 ≤ e; omega, fun z => absurd z Bool.false_ne_true⟩
    · rw [if_neg q1]
      by_cases q2 : zaa (zat sg e p) = 1
      · rw [if_pos q2]
        by_cases d1 : zdg1 sg e (p + 1) = true
        · rw [if_pos d1]
          have l1 := (zdg1_lt d1).1
          by_cases d2 : zdg1 sg e (p + 2) = true
          · rw [if_pos d2]; have := (zdg1_lt d2).1; exact ⟨by show p ≤ p + 3; omega, by show p + 3 ≤ e; omega, fun _ => by show p < p + 3; omega⟩
          · rw [if_neg d2]; exact ⟨by show p ≤ p + 2; omega, by show p + 2 ≤ e; omega, fun z => absurd z Bool.false_ne_true⟩
        · rw [if_neg d1]; exact ⟨by show p ≤ p + 1; omega, by show p + 1 ≤ e; omega, fun z => absurd z Bool.false_ne_true⟩
      · rw [if_neg q2]; exact ⟨by show p ≤ p + 1; omega, by show p + 1 ≤ e; omega, fun _ => by show p < p + 1; omega⟩
theorem s_Text_signsOfAct {d : Nat} {c : Int} {M : zM} {F : Int → zM → Prop} (H : F (if zaa c = 0 then 2 else if zaa c = 1 then 3 else if zaa c < 0 then 0 else 1) M) : zCi (d + 1) 60 [z_i c] M F := by
  unfold zaa at H
  refine e_Text_signsOfAct ⟨fun q => ?_, fun q => ⟨fun q2 => ?_, fun q2 => ⟨fun q3 => ?_, fun q3 => ⟨fun q4 => ?_, fun q4 => ?_⟩⟩⟩⟩
  · rw [if_pos q, if_pos rfl] at H; exact H
  · rw [if_neg q, if_pos q2, if_neg (by decide), if_pos rfl] at H; exact H
  · rw [if_neg q, if_neg q2, if_pos q3] at H; exact H
  · rw [if_neg q, if_neg q2, if_neg q3, if_pos q4] at H; exact H
  · rw [if_neg q, if_neg q2, if_neg q3, if_neg q4] at H; exact H
def zye (n : Int) : Int := if n < 60 then n else 60
/-- the fault in a year's text (-1: none) -/
def zyf (n : Int) (sg : Int → Int) : Int := if (zyl sg (zye n) 61 0).1 = true ∧ n ≤ 60 then -1 else (zyl sg (zye n) 61 0).2.1
theorem zyl_s {sg : Int → Int} {e : Int} : ∀ (f : Nat) (p : Int), 0 ≤ p → p ≤ e → e < p + f → p ≤ (zyl sg e f p).2.1 ∧ (zyl sg e f p).2.1 ≤ e ∧ ((zyl sg e f p).1 = true → (zyl sg e f p).2.1 = e)
  | 0, p, p0, pe, hf => by omega
  | f + 1, p, p0, pe, hf => by
    unfold zyl
    by_cases q : e ≤ p
    · rw [if_pos q]; exact ⟨Int.le_refl _, pe, fun _ => by show p = e; omega⟩
    · rw [if_neg q]
      have s := zac1_s (sg := sg) (e := e) (p := p) pe
      by_cases q1 : (zac1 sg e p).1 = true
      · rw [if_pos q1]
        have s3 := s.2.2 q1
        have ih := zyl_s (sg := sg) (e := e) f (zac1 sg e p).2 (by omega) s.2.1 (by omega)
        exact ⟨by show p ≤ (zyl sg e f (zac1 sg e p).2).2.1; omega, ih.2.1, ih.2.2⟩
      · rw [if_neg q1]; exact ⟨s.1, s.2.1, fun z => absurd z Bool.false_ne_true⟩
theorem s_Text_faultInYear {d : Nat} {M : zM} {F : Int → zM → Prop} (hn : 0 ≤ M 1 1 ∧ M 1 1 ≤ 80) (H : F (zyf (M 1 1) (M 2)) M) : zCi (d + 2) 59 [z_r (7, 0) 1] M F := by
  refine e_Text_faultInYear (fun P hP => ?_)
  have e60 : 0 ≤ zye (M 1 1) ∧ zye (M 1 1) ≤ 60 ∧ zye (M 1 1) ≤ M 1 1 ∧ (M 1 1 ≤ 60 → zye (M 1 1) = M 1 1) ∧ (60 < M 1 1 → zye (M 1 1) = 60) := by unfold zye; split <;> omega
  generalize hE : zye (M 1 1) = e at e60
  -- the end
  have fin : ∀ o, F (if o = 0 ∧ M 1 1 ≤ 60 then -1 else e) M → P o e M := by
    intro o HF
    have fe : ∀ x, (x = 1 ↔ o = 0) → (x = 0 ∨ x = 1) → zCi (d + 1) 7 [z_r (7, 0) 1, z_i 60, z_i x] M (fun v M' => F v M') := by
      intro x hx hx2
      refine e_Text_faultAtEnd ⟨fun z => ⟨fun z2 => ?_, fun z2 => ?_⟩, fun z => ?_⟩
      · rw [if_neg (fun q => by have := hx.mpr q.1; omega), e60.2.2.2.1 z] at HF; exact HF
      · rw [if_pos ⟨hx.mp (by omega), z⟩] at HF; exact HF
      · rw [if_neg (fun q => z q.2), e60.2.2.2.2 (by omega)] at HF; exact HF
    have both : ((o ≠ 0 → zCi (d + 1) 7 [z_r (7, 0) 1, z_i 60, z_i 0] M (fun v M' => F v M')) ∧ (¬ (o ≠ 0) → zCi (d + 1) 7 [z_r (7, 0) 1, z_i 60, z_i 1] M (fun v M' => F v M'))) := ⟨fun z => fe 0 (by omega) (Or.inl rfl), fun z => fe 1 (by omega) (Or.inr rfl)⟩
    exact hP _ _ _ ⟨fun _ => both, fun z => ⟨fun _ => both, fun z2 => absurd (by omega) z2⟩⟩
  -- digits that are due
  have dig : ∀ o p, 0 < o → o ≤ 2 → 0 ≤ p → p ≤ e → (zdg1 (M 2) e p = true → P (o - 1) (p + 1) M) → (zdg1 (M 2) e p = false → F p M) → P o p M := by
    intro o p o0 o2 p0 pe h1 h0
    by_cases q : p < e
    · have ea : zat (M 2) e p = M 2 p := by unfold zat; rw [if_pos q]
      refine hP _ _ _ ⟨fun z => absurd z (by omega), fun _ => ⟨fun z => absurd z (by omega), fun _ => ⟨fun z => absurd z (by omega), fun _ => ⟨by omega, s_W_digitOf ⟨fun z => ?_, fun z => ?_⟩⟩⟩⟩⟩
      · rw [zw (x := o + (-1)) (by omega) (by omega), zw (x := p + 1) (by omega) (by omega), show o + (-1) = o - 1 by omega]
        refine h1 ?_
        unfold zdg1; rw [ea]
        exact decide_eq_true (Classical.byContradiction (fun w => z (by unfold zdi; rw [if_neg w])))
      · refine h0 ?_
        unfold zdg1; rw [ea]
        exact decide_eq_false (fun w => z (by unfold zdi; rw [if_pos w]; omega))
    · have pe2 : p = e := by omega
      subst pe2
      refine fin o ?_
      rw [if_neg (by omega)]
      refine h0 ?_
      unfold zdg1 zat; rw [if_neg q]; rfl
  have main : ∀ (f : Nat) (p : Int), 0 ≤ p → p ≤ e → e < p + f → F (if (zyl (M 2) e f p).1 = true ∧ M 1 1 ≤ 60 then -1 else (zyl (M 2) e f p).2.1) M → P 0 p M := by
    intro f
    induction f with
    | zero => intro p p0 pe hf; omega
    | succ f ih =>
      intro p p0 pe hf HF
      unfold zyl at HF
      by_cases q : e ≤ p
      · rw [if_pos q] at HF
        have : p = e := by omega
        subst this
        refine fin 0 ?_
        by_cases w : M 1 1 ≤ 60
        · rw [if_pos ⟨rfl, w⟩] at HF ⊢; exact HF
        · rw [if_neg (fun x => w x.2)] at HF ⊢; exact HF
      · rw [if_neg q] at HF
        have ea : zat (M 2) e p = M 2 p := by unfold zat; rw [if_pos (by omega)]
        have s := zac1_s (sg := M 2) (e := e) (p := p) pe
        refine hP _ _ _ ⟨fun z => absurd z (by omega), fun _ => ⟨fun z => absurd z (by omega), fun _ => ⟨fun _ => ⟨by omega, s_Text_signsOfAct ?_⟩, fun z => absurd (by decide) z⟩⟩⟩
        -- where the act goes
        have good : ∀ r, zac1 (M 2) e p = (true, r) → P 0 r M := fun r hr => by
          rw [hr, if_pos rfl] at HF
          rw [hr] at s
          have s3 : p < r := s.2.2 rfl
          have s2 : r ≤ e := s.2.1
          exact ih r (by omega) s2 (by omega) HF
        have bad : ∀ r, zac1 (M 2) e p = (false, r) → F r M := fun r hr => by
          rw [hr, if_neg (show ¬ ((false, r) : Bool × Int).1 = true from Bool.false_ne_true), if_neg (show ¬ (((false, ((false, r) : Bool × Int).2, ([] : List Int)) : Bool × Int × List Int).1 = true ∧ M 1 1 ≤ 60) from fun w => absurd w.1 Bool.false_ne_true)] at HF
          exact HF
        unfold zac1 at good bad
        rw [ea] at good bad
        have z3 := zw (x := p + 1) (by omega) (by omega)
        by_cases a0 : zaa (M 2 p) < 0
        · rw [if_neg (by omega), if_neg (by omega), if_pos a0]
          rw [if_pos a0] at bad
          exact ⟨fun z => absurd rfl z, fun _ => bad p rfl⟩
        · rw [if_neg a0] at good bad
          by_cases a1 : zaa (M 2 p) = 0
          · rw [if_pos a1]
            rw [if_pos a1] at good bad
            refine ⟨fun _ => ⟨by omega, s_Text_signsOfAct ?_⟩, fun z => absurd (by decide) z⟩
            rw [if_pos a1, z3, zw (x := 2 - 1) (by decide) (by decide)]
            refine dig _ _ (by decide) (by decide) (by omega) (by omega) (fun g => ?_) (fun g => ?_)
            · rw [if_pos g] at good
              rw [show (2 - 1 - 1 : Int) = 0 from rfl, show p + 1 + 1 = p + 2 by omega]
              exact good (p + 2) rfl
            · rw [if_neg (by rw [g]; decide)] at bad
              exact bad (p + 1) rfl
          · rw [if_neg a1] at good bad ⊢
            by_cases a2 : zaa (M 2 p) = 1
            · rw [if_pos a2]
              rw [if_pos a2] at good bad
              refine ⟨fun _ => ⟨by omega, s_Text_signsOfAct ?_⟩, fun z => absurd (by decide) z⟩
              rw [if_neg a1, if_pos a2, z3, zw (x := 3 - 1) (by decide) (by decide)]
              refine dig _ _ (by decide) (by decide) (by omega) (by omega) (fun g => ?_) (fun g => ?_)
              · rw [if_pos g] at good bad
                have l1 := (zdg1_lt g).1
                refine dig _ _ (by decide) (by decide) (by omega) (by omega) (fun g2 => ?_) (fun g2 => ?_)
                · rw [show p + 1 + 1 = p + 2 by omega] at g2
                  rw [if_pos g2] at good
                  rw [show (3 - 1 - 1 - 1 : Int) = 0 from rfl, show p + 1 + 1 + 1 = p + 3 by omega]
                  exact good (p + 3) rfl
                · rw [show p + 1 + 1 = p + 2 by omega] at g2 ⊢
                  rw [if_neg (by rw [g2]; decide)] at bad
                  exact bad (p + 2) rfl
              · rw [if_neg (by rw [g]; decide)] at bad
                exact bad (p + 1) rfl
            · rw [if_neg a2, if_neg a0]
              rw [if_neg a2] at good
              refine ⟨fun _ => ⟨by omega, s_Text_signsOfAct ?_⟩, fun z => absurd (by decide) z⟩
              rw [if_neg a1, if_neg a2, if_neg a0, z3, zw (x := 1 - 1) (by decide) (by decide)]
              exact good (p + 1) rfl
  unfold zyf at H
  rw [hE] at H
  exact main 61 0 (by omega) (by omega) (by omega) H

/-! houses(): the text -/
def zhn (sg : Int → Int) (e p : Int) : Int := zrun (fun i => zpa e sg (p + i)) 6 0
def zd9 (sg : Int → Int) (e p : Int) : Bool := decide (49 ≤ zat sg e p ∧ zat sg e p ≤ 57)
/-- a line at p: whether, where it ends or fails -/
def zh1 (sg : Int → Int) (e p : Int) : Bool × Int := if zhn sg e p = 0 then (false, p) else if zd9 sg e (p + zhn sg e p) = true then (true, p + zhn sg e p + 1) else (false, p + zhn sg e p)
def zhl (sg : Int → Int) (e : Int) : Nat → Int → Int → Bool × Int × List Int
  | 0, p, _ => (false, p, [])
  | f + 1, p, k => if 8 ≤ k then (false, p, []) else if (zh1 sg e p).1 = true then (if zat sg e (zh1 sg e p).2 = 59 then ((zhl sg e f ((zh1 sg e p).2 + 1) (k + 1)).1, (zhl sg e f ((zh1 sg e p).2 + 1) (k + 1)).2.1, p :: (zhl sg e f ((zh1 sg e p).2 + 1) (k + 1)).2.2) else (true, (zh1 sg e p).2, [p])) else (false, (zh1 sg e p).2, [])
def zhe (n : Int) : Int := if n < 71 then n else 71
def zhf (n : Int) (sg : Int → Int) (c : Int) : Int := if (zhl sg (zhe n) 9 0 c).1 = true ∧ (zhl sg (zhe n) 9 0 c).2.1 = zhe n ∧ n ≤ 71 then -1 else (zhl sg (zhe n) 9 0 c).2.1
theorem zhn_s {sg : Int → Int} {e p : Int} (hp : p ≤ e) : (0 ≤ zhn sg e p ∧ zhn sg e p ≤ 6 ∧ p + zhn sg e p ≤ e) ∧ (∀ j, 0 ≤ j → j < zhn sg e p → p + j < e ∧ 0 ≤ zle (sg (p + j))) ∧ (zhn sg e p < 6 → p + zhn sg e p < e → zle (sg (p + zhn sg e p)) < 0) := by
  obtain ⟨h1, h2, h3⟩ := zrun_s (fun i => zpa e sg (p + i)) 6 0
  have g : ∀ j, 0 ≤ j → j < zhn sg e p → p + j < e ∧ 0 ≤ zle (sg (p + j)) := fun j a b => by
    have := h2 j a b
    unfold zpa at this
    rw [Bool.and_eq_true] at this
    exact ⟨of_decide_eq_true this.1, of_decide_eq_true this.2⟩
  have h1 : 0 ≤ zhn sg e p ∧ zhn sg e p ≤ 0 + 6 := h1
  refine ⟨⟨by omega, by omega, ?_⟩, g, fun a b => ?_⟩
  · by_cases q : zhn sg e p = 0
    · omega
    · have := (g (zhn sg e p - 1) (by omega) (by omega)).1; omega
  · have := h3 (by show zhn sg e p < 0 + 6; omega)
    have : zpa e sg (p + zhn sg e p) = false := this
    unfold zpa at this
    rw [decide_eq_true b, Bool.true_and] at this
    have := of_decide_eq_false this
    omega
theorem zd9_lt {sg : Int → Int} {e p : Int} (h : zd9 sg e p = true) : p < e ∧ 49 ≤ sg p ∧ sg p ≤ 57 := by
  unfold zd9 at h
  have h := of_decide_eq_true h
  have l := zat_lt (sg := sg) (e := e) (p := p) (by omega)
  rw [l.2] at h
  exact ⟨l.1, h⟩
theorem zh1_s {sg : Int → Int} {e p : Int} (hp : p ≤ e) : p ≤ (zh1 sg e p).2 ∧ (zh1 sg e p).2 ≤ e ∧ ((zh1 sg e p).1 = true → 1 ≤ zhn sg e p ∧ zd9 sg e (p + zhn sg e p) = true ∧ (zh1 sg e p).2 = p + zhn sg e p + 1) := by
  obtain ⟨⟨a1, a2, a3⟩, -, -⟩ := zhn_s (sg := sg) hp
  unfold zh1
  by_cases q : zhn sg e p = 0
  · rw [if_pos q]; exact ⟨Int.le_refl _, hp, fun z => absurd z Bool.false_ne_true⟩
  · rw [if_neg q]
    by_cases q2 : zd9 sg e (p + zhn sg e p) = true
    · rw [if_pos q2]; have := (zd9_lt q2).1; exact ⟨by show p ≤ p + zhn sg e p + 1; omega, by show p + zhn sg e p + 1 ≤ e; omega, fun _ => ⟨by omega, q2, rfl⟩⟩
    · rw [if_neg q2]; exact ⟨by show p ≤ p + zhn sg e p; omega, a3, fun z => absurd z Bool.false_ne_true⟩
theorem zhl_s {sg : Int → Int} {e : Int} : ∀ (f : Nat) (p k : Int), 0 ≤ p → p ≤ e → p ≤ (zhl sg e f p k).2.1 ∧ (zhl sg e f p k).2.1 ≤ e
  | 0, p, k, _, pe => ⟨Int.le_refl _, pe⟩
  | f + 1, p, k, p0, pe => by
    have s := zh1_s (sg := sg) (e := e) (p := p) pe
    unfold zhl
    by_cases q : 8 ≤ k
    · rw [if_pos q]; exact ⟨Int.le_refl _, pe⟩
    · rw [if_neg q]
      by_cases q1 : (zh1 sg e p).1 = true
      · rw [if_pos q1]
        by_cases q2 : zat sg e (zh1 sg e p).2 = 59
        · rw [if_pos q2]
          have l := (zat_lt (sg := sg) (e := e) (p := (zh1 sg e p).2) (by omega)).1
          have ih := zhl_s (sg := sg) (e := e) f ((zh1 sg e p).2 + 1) (k + 1) (by omega) (by omega)
          exact ⟨by show p ≤ (zhl sg e f ((zh1 sg e p).2 + 1) (k + 1)).2.1; omega, ih.2⟩
        · rw [if_neg q2]; exact ⟨s.1, s.2.1⟩
      · rw [if_neg q1]; exact ⟨s.1, s.2.1⟩
theorem s_Text_faultInHouses {d : Nat} {c : Int} {M : zM} {F : Int → zM → Prop} (hc : 0 ≤ c ∧ c ≤ 8) (hn : 1 ≤ M 1 1 ∧ M 1 1 ≤ 80) (H : F (zhf (M 1 1) (M 2) c) M) : zCi (d + 2) 4 [z_r (7, 0) 1, z_i c] M F := by
  refine e_Text_faultInHouses (fun P hP => ?_)
  have e71 : 0 ≤ zhe (M 1 1) ∧ zhe (M 1 1) ≤ 71 ∧ zhe (M 1 1) ≤ M 1 1 ∧ (M 1 1 ≤ 71 → zhe (M 1 1) = M 1 1) ∧ (71 < M 1 1 → zhe (M 1 1) = 71) := by unfold zhe; split <;> omega
  unfold zhf at H
  generalize hE : zhe (M 1 1) = e at e71 H
  have fin : ∀ k g x, (x = 0 ∨ x = 1) → F (if x = 1 ∧ M 1 1 ≤ 71 then -1 else e) M → P c k g x e M := by
    intro k g x hx HF
    have fe : zCi (d + 1) 7 [z_r (7, 0) 1, z_i 71, z_i x] M (fun v M' => F v M') := by
      refine e_Text_faultAtEnd ⟨fun z => ⟨fun z2 => ?_, fun z2 => ?_⟩, fun z => ?_⟩
      · rw [if_neg (by omega), e71.2.2.2.1 z] at HF; exact HF
      · rw [if_pos ⟨by omega, z⟩] at HF; exact HF
      · rw [if_neg (fun q => z q.2), e71.2.2.2.2 (by omega)] at HF; exact HF
    exact hP _ _ _ _ _ _ ⟨fun _ => fe, fun z => ⟨fun _ => fe, fun z2 => absurd (by omega) z2⟩⟩
  -- a sign where no line is closed
  have open_ : ∀ k g p, 0 ≤ g ∧ g ≤ 6 → 0 ≤ p → p ≤ e → (g = 0 ∨ zd9 (M 2) e p = false) → (p < e → (zle (M 2 p) < 0 ∨ g = 6 ∨ 8 ≤ k)) → F p M → P c k g 0 p M := by
    intro k g p hg p0 pe hd hb HF
    by_cases q : p < e
    · have ea : zat (M 2) e p = M 2 p := by unfold zat; rw [if_pos q]
      have bad : zCi (d + 1) 6 [z_i (M 2 p)] M (fun v18 M17 => ((v18 = (-1) → F p M17) ∧ (¬ (v18 = (-1)) → ((g = 6 → F p M17) ∧ (¬ (g = 6) → ((k < 8 → P c k (z_wr (g + 1)) 0 (z_wr (p + 1)) M17) ∧ (¬ (k < 8) → F p M17))))))) := by
        refine s_W_letterOf ⟨fun _ => HF, fun z => ⟨fun _ => HF, fun z2 => ⟨fun z3 => ?_, fun _ => HF⟩⟩⟩
        have := (zle_1 (M 2 p)).mp z
        have := hb q
        omega
      refine hP _ _ _ _ _ _ ⟨fun z => absurd z (by omega), fun _ => ⟨fun z => absurd z (by omega), fun _ => ⟨by omega, fun _ => ⟨fun _ => bad, fun z => s_W_digitOf ⟨fun _ => bad, fun z2 => ?_⟩⟩, fun z => absurd rfl z⟩⟩⟩
      exfalso
      rcases hd with hd | hd
      · omega
      · unfold zd9 at hd; rw [ea] at hd
        have := of_decide_eq_false hd
        unfold zdi at z2
        split at z2 <;> omega
    · have : p = e := by omega
      subst this
      exact fin k g 0 (Or.inl rfl) (by rw [if_neg (by omega)]; exact HF)
  have main : ∀ (f : Nat) (p k : Int), 0 ≤ p → p ≤ e → 0 ≤ k → 9 ≤ (f : Int) + k → F (if (zhl (M 2) e f p k).1 = true ∧ (zhl (M 2) e f p k).2.1 = e ∧ M 1 1 ≤ 71 then -1 else (zhl (M 2) e f p k).2.1) M → P c k 0 0 p M := by
    intro f
    induction f with
    | zero =>
      intro p k p0 pe k0 hf HF
      have HF : F (if false = true ∧ p = e ∧ M 1 1 ≤ 71 then -1 else p) M := HF
      rw [if_neg (fun w => absurd w.1 Bool.false_ne_true)] at HF
      exact open_ k 0 p (by omega) p0 pe (Or.inl rfl) (fun _ => Or.inr (Or.inr (by omega))) HF
    | succ f ih =>
      intro p k p0 pe k0 hf HF
      obtain ⟨⟨a1, a2, a3⟩, a4, a5⟩ := zhn_s (sg := M 2) pe
      have s := zh1_s (sg := M 2) (e := e) (p := p) pe
      unfold zhl at HF
      by_cases q : 8 ≤ k
      · rw [if_pos q] at HF
        have HF : F (if false = true ∧ p = e ∧ M 1 1 ≤ 71 then -1 else p) M := HF
        rw [if_neg (fun w => absurd w.1 Bool.false_ne_true)] at HF
        exact open_ k 0 p (by omega) p0 pe (Or.inl rfl) (fun _ => Or.inr (Or.inr q)) HF
      · rw [if_neg q] at HF
        -- the name
        have name : ∀ (m : Nat) (j : Int), j + m = zhn (M 2) e p → 0 ≤ j → P c k (zhn (M 2) e p) 0 (p + zhn (M 2) e p) M → P c k j 0 (p + j) M := by
          intro m
          induction m with
          | zero => intro j hj j0 HH; rw [show j = zhn (M 2) e p by omega]; exact HH
          | succ m ih2 =>
            intro j hj j0 HH
            obtain ⟨b1, b2⟩ := a4 j j0 (by omega)
            have good : zCi (d + 1) 6 [z_i (M 2 (p + j))] M (fun v18 M17 => ((v18 = (-1) → F (p + j) M17) ∧ (¬ (v18 = (-1)) → ((j = 6 → F (p + j) M17) ∧ (¬ (j = 6) → ((k < 8 → P c k (z_wr (j + 1)) 0 (z_wr (p + j + 1)) M17) ∧ (¬ (k < 8) → F (p + j) M17))))))) := by
              refine s_W_letterOf ⟨fun z => absurd z ((zle_1 _).mpr b2), fun _ => ⟨fun z => by omega, fun _ => ⟨fun _ => ?_, fun z => absurd (by omega) z⟩⟩⟩
              rw [zw (x := j + 1) (by omega) (by omega), zw (x := p + j + 1) (by omega) (by omega), show p + j + 1 = p + (j + 1) by omega]
              exact ih2 (j + 1) (by omega) (by omega) HH
            refine hP _ _ _ _ _ _ ⟨fun z => absurd z (by omega), fun _ => ⟨fun z => absurd z (by omega), fun _ => ⟨by omega, fun _ => ⟨fun _ => good, fun z => s_W_digitOf ⟨fun _ => good, fun z2 => ?_⟩⟩, fun z => absurd rfl z⟩⟩⟩
            exfalso
            unfold zle at b2
            unfold zdi at z2
            split at b2 <;> split at z2 <;> omega
        have start : P c k (zhn (M 2) e p) 0 (p + zhn (M 2) e p) M → P c k 0 0 p M := fun HH => by
          have := name (zhn (M 2) e p).toNat 0 (by omega) (by omega) HH
          rw [Int.add_zero] at this; exact this
        by_cases q1 : (zh1 (M 2) e p).1 = true
        · rw [if_pos q1] at HF
          obtain ⟨u1, u2, u3⟩ := s.2.2 q1
          have l9 := zd9_lt u2
          refine start ?_
          have dg : zdi (M 2 (p + zhn (M 2) e p)) = M 2 (p + zhn (M 2) e p) - 48 := by unfold zdi; rw [if_pos (by omega)]
          refine hP _ _ _ _ _ _ ⟨fun z => absurd z (by omega), fun _ => ⟨fun z => absurd z (by omega), fun _ => ⟨by omega, fun _ => ⟨fun z => absurd z (by omega), fun _ => s_W_digitOf ⟨fun z => absurd z (by omega), fun _ => ?_⟩⟩, fun z => absurd rfl z⟩⟩⟩
          rw [zw (x := k + 1) (by omega) (by omega), zw (x := p + zhn (M 2) e p + 1) (by omega) (by omega), ← u3]
          by_cases q3 : (zh1 (M 2) e p).2 < e
          · have ea : zat (M 2) e (zh1 (M 2) e p).2 = M 2 (zh1 (M 2) e p).2 := by unfold zat; rw [if_pos q3]
            refine hP _ _ _ _ _ _ ⟨fun z => absurd z (by omega), fun _ => ⟨fun z => absurd z (by omega), fun _ => ⟨by omega, fun z => absurd z (by decide), fun _ => ⟨fun z => ?_, fun z => ?_⟩⟩⟩⟩
            · rw [← ea] at z
              rw [if_pos z] at HF
              rw [zw (x := (zh1 (M 2) e p).2 + 1) (by omega) (by omega)]
              exact ih ((zh1 (M 2) e p).2 + 1) (k + 1) (by omega) (by omega) (by omega) (by omega) HF
            · rw [← ea] at z
              rw [if_neg z] at HF
              have HF : F (if true = true ∧ (zh1 (M 2) e p).2 = e ∧ M 1 1 ≤ 71 then -1 else (zh1 (M 2) e p).2) M := HF
              rw [if_neg (fun w => by omega)] at HF
              exact HF
          · have qe : (zh1 (M 2) e p).2 = e := by omega
            have ea : zat (M 2) e (zh1 (M 2) e p).2 ≠ 59 := by unfold zat; rw [if_neg q3]; decide
            rw [if_neg ea] at HF
            have HF : F (if true = true ∧ (zh1 (M 2) e p).2 = e ∧ M 1 1 ≤ 71 then -1 else (zh1 (M 2) e p).2) M := HF
            rw [qe] at HF ⊢
            refine fin (k + 1) 0 1 (Or.inr rfl) ?_
            by_cases w : M 1 1 ≤ 71
            · rw [if_pos ⟨rfl, rfl, w⟩] at HF; rw [if_pos ⟨rfl, w⟩]; exact HF
            · rw [if_neg (fun x => w x.2.2)] at HF; rw [if_neg (fun x => w x.2)]; exact HF
        · rw [if_neg q1] at HF
          have HF : F (if false = true ∧ (zh1 (M 2) e p).2 = e ∧ M 1 1 ≤ 71 then -1 else (zh1 (M 2) e p).2) M := HF
          rw [if_neg (fun w => absurd w.1 Bool.false_ne_true)] at HF
          refine start ?_
          unfold zh1 at HF q1
          by_cases q4 : zhn (M 2) e p = 0
          · rw [if_pos q4] at HF
            rw [q4, Int.add_zero]
            refine open_ k 0 p (by omega) p0 pe (Or.inl rfl) (fun w => Or.inl ?_) HF
            have := a5 (by omega) (by omega)
            rw [q4, Int.add_zero] at this; exact this
          · rw [if_neg q4] at HF q1
            by_cases q5 : zd9 (M 2) e (p + zhn (M 2) e p) = true
            · rw [if_pos q5] at q1; exact absurd rfl q1
            · rw [if_neg q5] at HF
              refine open_ k _ _ (by omega) (by omega) a3 (Or.inr (by simpa using q5)) (fun w => ?_) HF
              by_cases q6 : zhn (M 2) e p < 6
              · exact Or.inl (a5 q6 w)
              · exact Or.inr (Or.inl (by omega))
  exact main 9 0 c (by omega) (by omega) hc.1 (by omega) H

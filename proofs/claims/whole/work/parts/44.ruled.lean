/-! the reference works out the code of a rule -/
def zwk (o x y : Int) : Int := if o = 0 then (if y ≤ x then 0 else 1) else if o = 1 then (if x ≤ y then 0 else 1) else if o = 2 then (if x ≠ y then 0 else 1) else if o = 3 then z_wr (x + y) else if o = 4 then z_wr (x - y) else if o = 5 then z_wr (x * y) else if y ≠ 0 then z_wr (Int.tdiv x y) else 0
theorem s_M_worked {d : Nat} {o x y : Int} {M : zM} {F : Int → zM → Prop} (H : F (zwk o x y) M) : zCi (d + 2) 185 [z_i o, z_i x, z_i y] M F := by
  unfold zwk at H
  refine e_M_worked ⟨fun z => ⟨fun q => s_M_flag (b := false) rfl ?_, fun q => s_M_flag (b := true) rfl ?_⟩, fun z => ⟨fun q => s_M_flag (b := false) rfl ?_, fun q => s_M_flag (b := true) rfl ?_⟩, fun z => ⟨fun q => s_M_flag (b := false) rfl ?_, fun q => s_M_flag (b := true) rfl ?_⟩, fun z => ?_, fun z => ?_, fun z => ?_, fun z => ⟨fun q => ⟨q, ?_⟩, fun q => ?_⟩⟩
  · rw [if_pos z, if_pos q] at H; exact H
  · rw [if_pos z, if_neg q] at H; exact H
  · rw [if_neg (by omega), if_pos z, if_pos q] at H; exact H
  · rw [if_neg (by omega), if_pos z, if_neg q] at H; exact H
  · rw [if_neg (by omega), if_neg (by omega), if_pos z, if_pos q] at H; exact H
  · rw [if_neg (by omega), if_neg (by omega), if_pos z, if_neg q] at H; exact H
  · rw [if_neg (by omega), if_neg (by omega), if_neg (by omega), if_pos z] at H; exact H
  · rw [if_neg (by omega), if_neg (by omega), if_neg (by omega), if_neg (by omega), if_pos z] at H; exact H
  · rw [if_neg (by omega), if_neg (by omega), if_neg (by omega), if_neg (by omega), if_neg (by omega), if_pos z] at H; exact H
  · rw [if_neg (by omega), if_neg (by omega), if_neg (by omega), if_neg (by omega), if_neg (by omega), if_neg (by omega), if_pos q] at H; exact H
  · rw [if_neg (by omega), if_neg (by omega), if_neg (by omega), if_neg (by omega), if_neg (by omega), if_neg (by omega), if_neg q] at H; exact H
/-- the code c worked out over the stack s (the place of its n-th is s n, n of them): one act -/
def zac (vr : Int → Int) (c : Int) (q : Nat × (Int → Int)) : Nat × (Int → Int) :=
  if c = 3000 then (q.1, fun j => if j = (q.1 : Int) - 1 then z_wr (-(q.2 j)) else q.2 j)
  else if c < 1000 then (q.1 + 1, fun j => if j = (q.1 : Int) then c else q.2 j)
  else if c < 2000 then (q.1 + 1, fun j => if j = (q.1 : Int) then vr (c - 1000) else q.2 j)
  else (q.1 - 1, fun j => if j = (q.1 : Int) - 2 then zwk (c - 2000) (q.2 ((q.1 : Int) - 2)) (q.2 ((q.1 : Int) - 1)) else q.2 j)
def zex (vr : Int → Int) : List Int → Nat × (Int → Int) → Nat × (Int → Int)
  | [], q => q
  | c :: cs, q => zex vr cs (zac vr c q)
/-- code that can be worked out over n -/
def zwf : List Int → Nat → Prop
  | [], n => 1 ≤ n
  | c :: cs, n => (c = 3000 ∧ 1 ≤ n ∧ n ≤ 80 ∧ zwf cs n) ∨ (0 ≤ c ∧ c < 1000 ∧ n < 80 ∧ zwf cs (n + 1)) ∨ (1000 ≤ c ∧ c < 1004 ∧ n < 80 ∧ zwf cs (n + 1)) ∨ (2000 ≤ c ∧ c < 2007 ∧ 2 ≤ n ∧ n ≤ 80 ∧ zwf cs (n - 1))
theorem s_M_ruled {d : Nat} {M : zM} {F : Int → zM → Prop} (cs : List Int) (hl : M 179 22 = (cs.length : Int)) (hl2 : cs.length ≤ 80) (hcd : ∀ k : Nat, k < cs.length → M 190 (k : Int) = cs.getD k 0) (h0 : cs = [] → F (z_wr (20 - z_wr (2 * M 193 0))) M) (h1 : cs ≠ [] → zwf cs 0 ∧ ∀ M', zf [192] [] M M' → F ((zex (M 193) cs (0, M 192)).2 0) M') : zCi (d + 3) 184 [z_r (11, 0) 179] M F := by
  refine e_M_ruled (fun P hP => ?_)
  have loop : ∀ (rest pre : List Int) (q : Nat × (Int → Int)) (M1 : zM), cs = pre ++ rest → cs ≠ [] → zwf rest q.1 → zf [192] [] M M1 → (∀ j : Int, M1 192 j = q.2 j) → zex (M 193) rest q = zex (M 193) cs (0, M 192) → P (q.1 : Int) (pre.length : Int) M1 := by
    intro rest
    induction rest with
    | nil =>
      intro pre q M1 e ne hw f1 e1 ex
      have el : cs.length = pre.length := by rw [e]; simp
      have c22 : M1 179 22 = (cs.length : Int) := by rw [zf_a f1 179 22 rfl]; exact hl
      have nz : cs.length ≠ 0 := fun z => ne (List.length_eq_zero_iff.mp z)
      refine hP _ _ _ ⟨fun _ => ⟨fun _ => ⟨by decide, ?_⟩, fun z => absurd (by omega) z⟩, fun z => absurd (by omega) z⟩
      rw [e1 0]
      have ex : q = zex (M 193) cs (0, M 192) := ex
      rw [ex]
      exact (h1 ne).2 M1 f1
    | cons c rest ih =>
      intro pre q M1 e ne hw f1 e1 ex
      have el : cs.length = pre.length + (rest.length + 1) := by rw [e]; simp
      have c22 : M1 179 22 = (cs.length : Int) := by rw [zf_a f1 179 22 rfl]; exact hl
      have cc : M1 190 (pre.length : Int) = c := by
        rw [zf_c f1 190 rfl, hcd pre.length (by omega), e]
        simp
      have c195 : M1 193 = M 193 := zf_c f1 193 rfl
      have nx : ∀ (n' : Nat) (s' : Int → Int) (M2 : zM), zac (M 193) c q = (n', s') → zwf rest n' → zf [192] [] M M2 → (∀ j : Int, M2 192 j = s' j) → P (n' : Int) ((pre.length : Int) + 1) M2 := by
        intro n' s' M2 ea hw2 f2 e2
        have := ih (pre ++ [c]) (n', s') M2 (by rw [e]; simp) ne hw2 f2 e2 (by rw [← ea]; exact ex)
        rw [show (((pre ++ [c]).length : Nat) : Int) = (pre.length : Int) + 1 by simp] at this
        exact this
      refine hP _ _ _ ⟨fun z => absurd z (by omega), fun _ => ⟨by omega, ?_⟩⟩
      rw [cc, zw (x := (pre.length : Int) + 1) (by omega) (by omega)]
      rcases hw with ⟨w1, w2, w3, w4⟩ | ⟨w1, w2, w3, w4⟩ | ⟨w1, w2, w3, w4⟩ | ⟨w1, w2, w3, w5, w4⟩
      · refine ⟨fun z => absurd w1 z, fun _ => ?_⟩
        rw [zw (x := (q.1 : Int) - 1) (by omega) (by omega)]
        refine ⟨by omega, by omega, nx q.1 _ _ (by unfold zac; rw [if_pos w1]) w4 (zf_us f1 (by decide)) (fun j => ?_)⟩
        by_cases hj : j = (q.1 : Int) - 1
        · rw [if_pos hj, hj, zu_s, e1]
        · rw [if_neg hj, zu_i hj]; exact e1 j
      · refine ⟨fun _ => ⟨fun _ => ⟨fun _ => ⟨by omega, ?_⟩, fun z => absurd w2 z⟩, fun z => absurd (by omega) z⟩, fun z => absurd (by omega) z⟩
        rw [zw (x := (q.1 : Int) + 1) (by omega) (by omega)]
        refine nx (q.1 + 1) _ _ (by unfold zac; rw [if_neg (by omega), if_pos w2]) w4 (zf_us f1 (by decide)) (fun j => ?_)
        by_cases hj : j = (q.1 : Int)
        · rw [if_pos hj, hj, zu_s]
        · rw [if_neg hj, zu_i hj]; exact e1 j
      · refine ⟨fun _ => ⟨fun _ => ⟨fun z => absurd z (by omega), fun _ => ?_⟩, fun z => absurd (by omega) z⟩, fun z => absurd (by omega) z⟩
        rw [zw (x := c - 1000) (by omega) (by omega), zw (x := (q.1 : Int) + 1) (by omega) (by omega), c195]
        refine ⟨by omega, by omega, nx (q.1 + 1) _ _ (by unfold zac; rw [if_neg (by omega), if_neg (by omega), if_pos (by omega)]) w4 (zf_us f1 (by decide)) (fun j => ?_)⟩
        by_cases hj : j = (q.1 : Int)
        · rw [if_pos hj, hj, zu_s]
        · rw [if_neg hj, zu_i hj]; exact e1 j
      · refine ⟨fun _ => ⟨fun z => absurd z (by omega), fun _ => ?_⟩, fun z => absurd (by omega) z⟩
        rw [zw (x := (q.1 : Int) + -1) (by omega) (by omega), zw (x := (q.1 : Int) + -1 - 1) (by omega) (by omega), zw (x := c - 2000) (by omega) (by omega)]
        refine ⟨by omega, by omega, s_M_worked ⟨by omega, ?_⟩⟩
        rw [show (q.1 : Int) + -1 - 1 = (q.1 : Int) - 2 by omega, show (q.1 : Int) + -1 = ((q.1 - 1 : Nat) : Int) by omega]
        refine nx (q.1 - 1) _ _ (by unfold zac; rw [if_neg (by omega), if_neg (by omega), if_neg (by omega)]) w4 (zf_us f1 (by decide)) (fun j => ?_)
        by_cases hj : j = (q.1 : Int) - 2
        · rw [if_pos hj, hj, zu_s, e1, e1, show ((q.1 - 1 : Nat) : Int) = (q.1 : Int) - 1 by omega]
        · rw [if_neg hj, zu_i hj]; exact e1 j
  by_cases ne : cs = []
  · refine hP _ _ _ ⟨fun _ => ⟨fun z => absurd (by rw [hl, ne]; rfl) z, fun _ => ⟨by decide, h0 ne⟩⟩, fun z => absurd (by rw [hl, ne]; decide) z⟩
  · exact loop cs [] (0, M 192) M rfl ne (h1 ne).1 zf_rf (fun j => rfl) rfl

/-! the reference reads a rule -/
def zRS (B : zM) (p k : Int) (cs : List Int) (M : zM) : Prop := zf [191] [(179, 12), (179, 14), (179, 23)] B M ∧ M 179 12 = p ∧ M 179 14 = k ∧ M 179 23 = (cs.length : Int) ∧ ∀ j : Nat, j < cs.length → M 191 (j : Int) = cs.getD j 0
def zRB2 (sg : Int → Int) (e : Int) (B : zM) : Prop := (0 ≤ e ∧ e ≤ 40) ∧ B 179 13 = e ∧ ∀ j, 0 ≤ j → j < e → B 185 j = sg j ∧ 0 ≤ sg j
theorem zRS_p {B M : zM} {p k p' : Int} {cs : List Int} (h : zRS B p k cs M) : zRS B p' k cs (z_up M 179 12 p') := by
  obtain ⟨h1, h2, h3, h4, h5⟩ := h
  exact ⟨zf_uj h1 (by decide), zu_s _ _ _ _, by rw [zu_i (by decide)]; exact h3, by rw [zu_i (by decide)]; exact h4, fun j hj => by rw [zu_c (by decide)]; exact h5 j hj⟩
theorem zRS_k {B M : zM} {p k k' : Int} {cs : List Int} (h : zRS B p k cs M) : zRS B p k' cs (z_up M 179 14 k') := by
  obtain ⟨h1, h2, h3, h4, h5⟩ := h
  exact ⟨zf_uj h1 (by decide), by rw [zu_i (by decide)]; exact h2, zu_s _ _ _ _, by rw [zu_i (by decide)]; exact h4, fun j hj => by rw [zu_c (by decide)]; exact h5 j hj⟩
theorem zRS_e {sg : Int → Int} {e : Int} {B M : zM} {p k : Int} {cs : List Int} (hB : zRB2 sg e B) (h : zRS B p k cs M) : M 179 13 = e ∧ (0 ≤ p → p < e → M 185 p = sg p ∧ 0 ≤ sg p) := by
  obtain ⟨h1, -⟩ := h
  exact ⟨by rw [zf_a h1 179 13 rfl]; exact hB.2.1, fun a b => by rw [zf_c h1 185 rfl]; exact hB.2.2 p a b⟩
theorem s_R_codes {d : Nat} {B M : zM} {p k x : Int} {cs : List Int} {F : zM → Prop} (h : zRS B p k cs M) (hl : cs.length < 80) (H : ∀ M', zRS B p k (cs ++ [x]) M' → F M') : zCv (d + 1) 169 [z_r (11, 0) 179, z_i x] M F := by
  obtain ⟨h1, h2, h3, h4, h5⟩ := h
  refine e_M_codes ?_
  rw [h4, zu_c (by decide), h4, zw (x := (cs.length : Int) + 1) (by omega) (by omega)]
  refine ⟨by omega, H _ ⟨zf_uj (zf_us h1 (by decide)) (by decide), ?_, ?_, ?_, fun j hj => ?_⟩⟩
  · rw [zu_i (by decide), zu_c (by decide)]; exact h2
  · rw [zu_i (by decide), zu_c (by decide)]; exact h3
  · rw [zu_s]; simp
  · rw [zu_c (by decide)]
    simp at hj
    by_cases q : j = cs.length
    · subst q
      rw [zu_s]; simp
    · rw [zu_i (by omega), h5 j (by omega)]
      simp only [List.getD_eq_getElem?_getD]
      rw [List.getElem?_append_left (by omega)]
theorem s_R_takes {d : Nat} {sg : Int → Int} {e : Int} {B M : zM} {p k c : Int} {cs : List Int} {F : Int → zM → Prop} (hB : zRB2 sg e B) (h : zRS B p k cs M) (hp : 0 ≤ p ∧ p ≤ e) (hc : 0 ≤ c) (H1 : zat sg e p = c → ∀ M', zRS B (p + 1) k cs M' → F 1 M') (H0 : zat sg e p ≠ c → ∀ M', zRS B p k cs M' → F 0 M') : zCi (d + 2) 159 [z_r (11, 0) 179, z_i c] M F := by
  obtain ⟨e1, e2⟩ := zRS_e hB h
  have e0 := hB.1
  refine e_M_takes ?_
  rw [e1, h.2.1]
  refine ⟨fun z => s_M_flag (b := false) rfl ?_, fun z => ⟨by omega, fun z2 => s_M_flag (b := false) rfl ?_, fun z2 => s_M_flag (b := true) rfl ?_⟩⟩
  · show F 0 (z_up M 179 12 (z_wr (p + 0)))
    rw [zw (by omega) (by omega), Int.add_zero]
    refine H0 ?_ _ (zRS_p h)
    unfold zat; rw [if_neg (by omega)]; omega
  · show F 0 (z_up M 179 12 (z_wr (p + 0)))
    rw [zw (by omega) (by omega), Int.add_zero]
    refine H0 ?_ _ (zRS_p h)
    rw [(e2 hp.1 (by omega)).1] at z2
    unfold zat; rw [if_pos (by omega)]; exact z2
  · show F 1 (z_up M 179 12 (z_wr (p + 1)))
    rw [zw (by omega) (by omega)]
    refine H1 ?_ _ (zRS_p h)
    rw [(e2 hp.1 (by omega)).1] at z2
    unfold zat; rw [if_pos (by omega)]; exact Classical.not_not.mp z2
theorem s_R_isDigit {d : Nat} {sg : Int → Int} {e : Int} {B M : zM} {p k : Int} {cs : List Int} {F : Int → zM → Prop} (hB : zRB2 sg e B) (h : zRS B p k cs M) (hp : 0 ≤ p ∧ p ≤ e) (H : F (if 48 ≤ zat sg e p ∧ zat sg e p ≤ 57 then 1 else 0) M) : zCi (d + 2) 163 [z_r (11, 0) 179] M F := by
  obtain ⟨e1, e2⟩ := zRS_e hB h
  have e0 := hB.1
  refine s_M_isDigit (by rw [e1, h.2.1]; omega) ?_
  rw [e1, h.2.1]
  unfold zpd zat at *
  by_cases q : p < e
  · rw [if_pos q] at H
    rw [(e2 hp.1 q).1]
    by_cases q2 : 48 ≤ sg p ∧ sg p ≤ 57
    · rw [if_pos q2] at H
      rw [if_pos (by simp; omega)]; exact H
    · rw [if_neg q2] at H
      rw [if_neg (by simp; omega)]; exact H
  · rw [if_neg q, if_neg (by omega)] at H
    rw [if_neg (by simp; omega)]; exact H
theorem s_R_takesOf {d j : Nat} {sg : Int → Int} {e n : Int} {B M : zM} {p k : Int} {cs : List Int} {F : Int → zM → Prop} (hn : n = ((zsl j).length : Int)) (hn2 : n ≤ 100) (hB : zRB2 sg e B) (h : zRS B p k cs M) (hp : 0 ≤ p ∧ p ≤ e) (hz : zfl (-1) (zsl j) 0 = -1) (H : ∀ M', zRS B (if zfl (zat sg e p) (zsl j) 0 < 0 then p else p + 1) k cs M' → F (zfl (zat sg e p) (zsl j) 0) M') : zCi (d + 9) 157 [z_r (11, 0) 179, z_r (104, n) j] M F := by
  obtain ⟨e1, e2⟩ := zRS_e hB h
  have e0 := hB.1
  have ev : (if M 179 12 < M 179 13 then zfl (M 185 (M 179 12)) (zsl j) 0 else -1) = zfl (zat sg e p) (zsl j) 0 := by
    rw [e1, h.2.1]
    unfold zat
    by_cases q : p < e
    · rw [if_pos q, if_pos q, (e2 hp.1 q).1]
    · rw [if_neg q, if_neg q, hz]
  refine e_M_takesOf (s_M_among hn hn2 (by rw [e1, h.2.1]; omega) ?_)
  rw [ev, h.2.1]
  refine ⟨fun z => s_M_flag (b := false) rfl ?_, fun z => s_M_flag (b := true) rfl ?_⟩
  · show F _ (z_up M 179 12 (z_wr (p + 0)))
    rw [zw (by omega) (by omega), Int.add_zero]
    rw [if_pos z] at H
    exact H _ (zRS_p h)
  · show F _ (z_up M 179 12 (z_wr (p + 1)))
    rw [zw (by omega) (by omega)]
    rw [if_neg z] at H
    exact H _ (zRS_p h)
theorem zfl_2 (c : Int) : zfl c (zsl 2) 0 = zvar c := by
  rw [zsl_2]
  simp only [zfl, zvar]
  repeat' split
  all_goals omega
theorem zfl_3 (c : Int) : zfl c (zsl 3) 0 = zop 0 c := by
  rw [zsl_3, zop0]
  simp only [zfl]
  repeat' split
  all_goals omega
theorem zfl_4 (c : Int) : zfl c (zsl 4) 0 = (if zop 1 c < 0 then -1 else zop 1 c - 3) := by
  rw [zsl_4, zop1]
  simp only [zfl]
  repeat' split
  all_goals omega
theorem zfl_5 (c : Int) : zfl c (zsl 5) 0 = (if zop 2 c < 0 then -1 else zop 2 c - 5) := by
  rw [zsl_5, zop2]
  simp only [zfl]
  repeat' split
  all_goals omega
theorem s_R_num {d : Nat} {sg : Int → Int} {e : Int} {B M : zM} {p k : Int} {cs : List Int} {F : Int → zM → Prop} (hB : zRB2 sg e B) (h : zRS B p k cs M) (hp : 0 ≤ p ∧ p ≤ e) (hd : 48 ≤ zat sg e p ∧ zat sg e p ≤ 57) (H : ∀ M', zRS B (znum sg e 3 p 0).2 k cs M' → F (znum sg e 3 p 0).1 M') : zCi (d + 3) 164 [z_r (11, 0) 179, z_i 3] M F := by
  have e0 := hB.1
  refine e_M_number (fun P hP => s_R_isDigit hB h hp ?_)
  rw [if_pos hd]
  refine ⟨fun _ => ?_, fun z => absurd (by decide) z⟩
  have loop : ∀ (kk : Nat) (p v : Int) (M : zM), kk ≤ 3 → 0 ≤ p ∧ p ≤ e → 0 ≤ v → (kk = 3 → v = 0) → (kk = 2 → v ≤ 9) → (kk = 1 → v ≤ 99) → zRS B p k cs M → (∀ M', zRS B (znum sg e kk p v).2 k cs M' → F (znum sg e kk p v).1 M') → P 3 v (3 - kk) M := by
    intro kk
    induction kk with
    | zero =>
      intro p v M hk hp hv u3 u2 u1 h H
      exact hP _ _ _ _ ⟨fun _ => H M h, fun z => absurd (by omega) z⟩
    | succ kk ih =>
      intro p v M hk hp hv u3 u2 u1 h H
      refine hP _ _ _ _ ⟨fun z => absurd z (by omega), fun _ => s_R_isDigit hB h hp ?_⟩
      unfold znum at H
      by_cases q : 48 ≤ zat sg e p ∧ zat sg e p ≤ 57
      · rw [if_pos q]
        rw [if_pos q] at H
        have l := zat_lt (sg := sg) (e := e) (p := p) (by omega)
        obtain ⟨e1, e2⟩ := zRS_e hB h
        refine ⟨fun z => absurd z (by decide), fun _ => ?_⟩
        rw [h.2.1, (e2 hp.1 l.1).1, ← l.2, zw (x := 10 * v) (by omega) (by omega), zw (x := 10 * v + zat sg e p) (by omega) (by omega), zw (x := 10 * v + zat sg e p - 48) (by omega) (by omega), zw (x := p + 1) (by omega) (by omega), zw (x := 3 - ((kk + 1 : Nat) : Int) + 1) (by omega) (by omega), show 3 - ((kk + 1 : Nat) : Int) + 1 = 3 - (kk : Int) by omega]
        exact ⟨by omega, ih (p + 1) _ _ (by omega) (by omega) (by omega) (by omega) (by omega) (by omega) (zRS_p h) H⟩
      · rw [if_neg q]
        rw [if_neg q] at H
        exact ⟨fun _ => H M h, fun z => absurd rfl z⟩
  exact loop 3 p 0 M (by omega) hp (by omega) (fun _ => rfl) (by omega) (by omega) h H

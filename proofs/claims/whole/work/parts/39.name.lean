/-! name() -/
def zpa (n : Int) (sg : Int → Int) (i : Int) : Bool := decide (i < n) && decide (0 ≤ zle (sg i))
theorem zle_1 (c : Int) : zle c ≠ -1 ↔ 0 ≤ zle c := by unfold zle; split <;> omega
theorem s_Text_faultInName {d : Nat} {M : zM} {F : Int → zM → Prop} (hn : 0 ≤ M 1 1 ∧ M 1 1 ≤ 80) (H : F (if 1 ≤ M 1 1 ∧ zrun (zpa (M 1 1) (M 2)) 6 0 = M 1 1 then -1 else zrun (zpa (M 1 1) (M 2)) 6 0) M) : zCi (d + 2) 36 [z_r (7, 0) 1] M F := by
  refine e_Text_faultInName (fun P hP => ?_)
  have loop : ∀ (f : Nat) (i : Int), i + f = 6 → 0 ≤ i → i ≤ M 1 1 → zrun (zpa (M 1 1) (M 2)) f i = zrun (zpa (M 1 1) (M 2)) 6 0 → P i M := by
    intro f
    induction f with
    | zero =>
      intro i hi i0 i1 e
      have e : i = zrun (zpa (M 1 1) (M 2)) 6 0 := e
      refine hP _ _ ⟨fun q => ⟨fun q2 => absurd q2 (by omega), fun q2 => s_Text_faultAtEnd ?_⟩, fun q => ⟨fun _ => ⟨fun q2 => absurd q2 (by omega), fun q2 => s_Text_faultAtEnd ?_⟩, fun q2 => absurd (by omega) q2⟩⟩
      · rw [if_pos (by omega)] at H
        rw [if_neg (by omega), if_neg (by decide)]; exact H
      · rw [if_neg (by omega)] at H
        rw [if_pos (by omega)]
        rw [← e] at H
        rw [show (6 : Int) = i by omega]; exact H
    | succ f ih =>
      intro i hi i0 i1 e
      rw [zrun_u _ f i] at e
      refine hP _ _ ⟨fun q => ?_, fun q => ⟨fun q2 => absurd q2 (by omega), fun _ => ⟨by omega, s_W_letterOf ?_⟩⟩⟩
      · rw [if_neg (by unfold zpa; simp; omega)] at e
        refine ⟨fun q2 => s_Text_faultAtEnd ?_, fun q2 => s_Text_faultAtEnd ?_⟩
        · rw [if_neg (by omega)] at H
          rw [if_neg (by omega), if_pos rfl]
          rw [← e] at H
          rw [show M 1 1 = i by omega]; exact H
        · rw [if_pos (by omega)] at H
          rw [if_neg (by omega), if_neg (by decide)]; exact H
      · refine ⟨fun hc => ?_, fun hc => ?_⟩
        · rw [zle_1] at hc
          rw [if_pos (by unfold zpa; simp; omega)] at e
          rw [zw (by omega) (by omega)]
          exact ih (i + 1) (by omega) (by omega) (by omega) e
        · rw [zle_1] at hc
          rw [if_neg (by unfold zpa; simp; omega)] at e
          rw [if_neg (by omega), ← e] at H
          exact H
  exact loop 6 0 (by omega) (by omega) (by omega) rfl
theorem s_M_takesL {d : Nat} {M : zM} {F : Int → zM → Prop} (h : 0 ≤ M 179 12 ∧ M 179 13 ≤ 80) (h2 : M 179 12 < M 179 13) (h3 : 0 ≤ zle (M 185 (M 179 12))) (H : F (zle (M 185 (M 179 12))) (z_up M 179 12 (M 179 12 + 1))) : zCi (d + 9) 157 [z_r (11, 0) 179, z_r (104, 8) 0] M F := by
  refine e_M_takesOf (s_M_amongL h ?_)
  rw [if_pos h2]
  refine ⟨fun z => absurd z (by omega), fun _ => s_M_flag (b := true) rfl ?_⟩
  rw [if_pos rfl, zw (by omega) (by omega)]
  exact H
/-- a name read from the text -/
theorem s_M_readsName {d : Nat} {o p n : Int} {M : zM} {F : Int → zM → Prop} (ho : 0 ≤ o ∧ o + 6 ≤ 48) (hp : M 179 12 = p) (hn : M 179 13 = n) (h : 0 ≤ p ∧ n ≤ 80) (H : ∀ k M', k = zrun (fun i => zpa n (M 185) (p + i)) 6 0 → (0 ≤ k ∧ k ≤ 6) → zf [186] [(179, 12)] M M' → M' 179 12 = p + k → (∀ j, 0 ≤ j → j < k → M' 186 (o + j) = zle (M 185 (p + j))) → (∀ q, (q < o ∨ o + k ≤ q) → M' 186 q = M 186 q) → F k M') : zCi (d + 10) 155 [z_r (11, 0) 179, z_i o] M F := by
  refine e_M_readsName (fun P hP => ?_)
  have loop : ∀ (f : Nat) (i : Int) (M1 : zM), i + f = 6 → 0 ≤ i → zrun (fun i => zpa n (M 185) (p + i)) f i = zrun (fun i => zpa n (M 185) (p + i)) 6 0 → zf [186] [(179, 12)] M M1 → M1 179 12 = p + i → (∀ j, 0 ≤ j → j < i → M1 186 (o + j) = zle (M 185 (p + j))) → (∀ q, (q < o ∨ o + i ≤ q) → M1 186 q = M 186 q) → P o i M1 := by
    intro f
    induction f with
    | zero =>
      intro i M1 hi i0 e f1 e1 e2 e3
      exact hP _ _ _ ⟨fun _ => H i M1 e ⟨i0, by omega⟩ f1 e1 e2 e3, fun z => absurd (by omega) z⟩
    | succ f ih =>
      intro i M1 hi i0 e f1 e1 e2 e3
      rw [zrun_u _ f i] at e
      have c13 : M1 179 13 = n := by rw [zf_a f1 179 13 rfl]; exact hn
      have c187 : M1 185 = M 185 := zf_c f1 185 rfl
      refine hP _ _ _ ⟨fun z => absurd z (by omega), fun _ => s_M_amongL (by omega) ?_⟩
      by_cases c : zpa n (M 185) (p + i) = true
      · rw [if_pos c] at e
        unfold zpa at c
        rw [Bool.and_eq_true] at c
        have k1 := of_decide_eq_true c.1
        have k2 := of_decide_eq_true c.2
        rw [e1, c13, c187, if_pos k1]
        refine ⟨fun z => absurd z (by omega), fun _ => s_M_takesL (by omega) (by omega) (by rw [e1, c187]; exact k2) ?_⟩
        rw [zw (x := o + i) (by omega) (by omega), zw (x := i + 1) (by omega) (by omega), e1, c187]
        refine ⟨by omega, ih (i + 1) _ (by omega) (by omega) e (zf_us (zf_uj f1 (by decide)) (by decide)) ?_ (fun j j0 j1 => ?_) (fun q hq => ?_)⟩
        · rw [zu_c (by decide), zu_s]; omega
        · by_cases hx : j = i
          · subst hx; rw [zu_s]
          · rw [zu_i (by omega), zu_c (by decide)]; exact e2 j j0 (by omega)
        · rw [zu_i (by omega), zu_c (by decide)]; exact e3 q (by omega)
      · rw [if_neg c] at e
        have : (if M1 179 12 < M1 179 13 then zle (M1 185 (M1 179 12)) else -1) < 0 := by
          rw [e1, c13, c187]
          unfold zpa at c
          by_cases k1 : p + i < n
          · rw [if_pos k1]
            rw [decide_eq_true k1, Bool.true_and] at c
            have := of_decide_eq_false (by simpa using c : decide (0 ≤ zle (M 185 (p + i))) = false)
            omega
          · rw [if_neg k1]; omega
        exact ⟨fun _ => H i M1 e ⟨i0, by omega⟩ f1 e1 e2 e3, fun z => absurd this z⟩
  exact loop 6 0 M (by omega) (by omega) rfl zf_rf (by omega) (fun j a b => by omega) (fun q _ => rfl)
/-- a house h named by k letters -/
def naL (len : Int → Int) (h k : Int) : Int → Int := fun x => if x = h then k else len x
def naN (nam lt : Int → Int) (h k : Int) : Int → Int := fun q => if 6 * h ≤ q ∧ q < 6 * h + k then lt (q - 6 * h) else nam q
def naR (r lt : Int → Int) (h k : Int) : Int → Int := fun q => if q = 8 + h then k else if 16 + 6 * h ≤ q ∧ q < 16 + 6 * h + 6 then (if q - (16 + 6 * h) < k then lt (q - (16 + 6 * h)) else 0) else r q
theorem s_M_namesSo {d : Nat} {h o k : Int} {M : zM} {F : zM → Prop} (hh : 0 ≤ h ∧ h < 8) (ho : 0 ≤ o ∧ o + 6 ≤ 48) (hk : 0 ≤ k ∧ k ≤ 6) (H : ∀ M', zf [183] [] M M' → M' 183 = naR (M 183) (fun j => M 186 (o + j)) h k → F M') : zCv (d + 1) 161 [z_r (11, 0) 179, z_i h, z_i o, z_i k] M F := by
  refine e_M_namesSo (fun P hP => ?_)
  rw [zw (x := 8 + h) (by omega) (by omega)]
  have loop : ∀ (m : Nat) (i : Int) (M1 : zM), i + m = 6 → 0 ≤ i → zf [183] [] M M1 → (∀ q, M1 183 q = if q = 8 + h then k else if 16 + 6 * h ≤ q ∧ q < 16 + 6 * h + i then (if q - (16 + 6 * h) < k then M 186 (o + (q - (16 + 6 * h))) else 0) else M 183 q) → P h o k i M1 := by
    intro m
    induction m with
    | zero =>
      intro i M1 hi i0 f1 e1
      have : i = 6 := by omega
      subst this
      exact hP _ _ _ _ _ ⟨fun _ => H M1 f1 (by funext q; exact e1 q), fun z => absurd (by decide) z⟩
    | succ m ih =>
      intro i M1 hi i0 f1 e1
      have nx : ∀ v, v = (if i < k then M 186 (o + i) else 0) → P h o k (i + 1) (z_up M1 183 (16 + 6 * h + i) v) := by
        intro v hv
        refine ih (i + 1) _ (by omega) (by omega) (zf_us f1 (by decide)) (fun q => ?_)
        by_cases hx : q = 16 + 6 * h + i
        · subst hx
          rw [zu_s, if_neg (by omega), if_pos (by omega), show 16 + 6 * h + i - (16 + 6 * h) = i by omega]
          exact hv
        · rw [zu_i hx, e1 q]
          by_cases hx2 : q = 8 + h
          · rw [if_pos hx2, if_pos hx2]
          · rw [if_neg hx2, if_neg hx2]
            by_cases hx3 : 16 + 6 * h ≤ q ∧ q < 16 + 6 * h + i
            · rw [if_pos hx3, if_pos (show 16 + 6 * h ≤ q ∧ q < 16 + 6 * h + (i + 1) by omega)]
            · rw [if_neg hx3, if_neg (by omega)]
      refine hP _ _ _ _ _ ⟨fun z => absurd z (by omega), fun _ => ?_⟩
      rw [zw (x := 6 * h) (by omega) (by omega), zw (x := 16 + 6 * h) (by omega) (by omega), zw (x := 16 + 6 * h + i) (by omega) (by omega), zw (x := i + 1) (by omega) (by omega), zw (x := o + i) (by omega) (by omega)]
      refine ⟨fun z => ⟨by omega, nx 0 (by rw [if_neg (by omega)])⟩, fun z => ⟨by omega, by omega, nx _ ?_⟩⟩
      rw [if_pos (by omega), zf_c f1 186 rfl]
  refine ⟨by omega, loop 6 0 _ (by omega) (by omega) (zf_us zf_rf (by decide)) (fun q => ?_)⟩
  by_cases hx : q = 8 + h
  · subst hx; rw [zu_s, if_pos rfl]
  · rw [zu_i hx, if_neg hx, if_neg (by omega)]
theorem zTn_na {c : Int} {ord len nam lt : Int → Int} {h k : Int} (ht : zTn c ord len nam) (hk : 1 ≤ k ∧ k ≤ 6) (hl : ∀ j, 0 ≤ j → j < k → 0 ≤ lt j ∧ lt j < 8) : zTn c ord (naL len h k) (naN nam lt h k) := by
  obtain ⟨h1, h2, h3, h4⟩ := ht
  refine ⟨h1, h2, fun x x0 x1 => ?_, fun q k0 k1 => ?_⟩
  · unfold naL; split; exact hk; exact h3 x x0 x1
  · unfold naN; split; exact hl _ (by omega) (by omega); exact h4 q k0 k1
theorem tW_na {n c day : Int} {ord nam len dry had lt : Int → Int} {h k : Int} (hw : tW n c day ord nam len dry had) (hh : 0 ≤ h ∧ h < c) (hk : 1 ≤ k ∧ k ≤ 6) (hl : ∀ j, 0 ≤ j → j < k → 0 ≤ lt j ∧ lt j < 8) : tW n c day ord (naN nam lt h k) (naL len h k) dry had := by
  obtain ⟨h1, h2, h3, h4, h5, h6, h7, h8⟩ := hw
  refine ⟨h1, h2, h3, h4, fun q k0 k1 => ?_, fun x x0 x1 => ?_, fun x x0 x1 => ?_, h8⟩
  · unfold naN; split; exact hl _ (by omega) (by omega); exact h5 q k0 k1
  · unfold naL; split; exact hk; exact h6 x x0 x1
  · unfold naL; rw [if_neg (by omega)]; exact h7 x x0 x1
theorem naE {c : Int} {nam len lt r : Int → Int} {h k : Int} (hc : 0 ≤ c ∧ c ≤ 8) (hl : ∀ h, 0 ≤ h → h < c → 1 ≤ len h ∧ len h ≤ 6) (hh : 0 ≤ h ∧ h < c) (hk : 1 ≤ k ∧ k ≤ 6) (e : ∀ h i, 0 ≤ h → h < c → 0 ≤ i → i < len h → nam (6 * h + i) = r (16 + (6 * h + i))) : ∀ x i, 0 ≤ x → x < c → 0 ≤ i → i < naL len h k x → naN nam lt h k (6 * x + i) = naR r lt h k (16 + (6 * x + i)) := by
  intro x i x0 x1 i0 i1
  unfold naL at i1
  unfold naN naR
  by_cases hx : x = h
  · rw [if_pos hx] at i1
    rw [if_pos (by omega), if_neg (by omega), if_pos (by omega), if_pos (by omega)]
    congr 1; omega
  · rw [if_neg hx] at i1
    have := hl x x0 x1
    rw [if_neg (by omega), if_neg (by omega), if_neg (by omega)]
    exact e x i x0 x1 i0 i1
theorem zRw_na {M M' : zM} {q : Nat} {c : Int} {ord len nam lt : Int → Int} {h k : Int} (ht : zTn c ord len nam) (hr : zRw M q c ord len nam) (hh : 0 ≤ h ∧ h < c) (hk : 1 ≤ k ∧ k ≤ 6) (e : M' q = naR (M q) lt h k) : zRw M' q c ord (naL len h k) (naN nam lt h k) := by
  have hc := ht.1
  obtain ⟨r1, r2, r3⟩ := hr
  refine ⟨fun i x y => ?_, fun x x0 x1 => ?_, fun x i x0 x1 i0 i1 => ?_⟩
  · rw [e]; unfold naR; rw [if_neg (by omega), if_neg (by omega)]; exact r1 i x y
  · rw [e]; unfold naR naL
    by_cases hx : x = h
    · rw [if_pos (by omega), if_pos hx]
    · rw [if_neg (by omega), if_neg (by omega), if_neg hx]; exact r2 x x0 x1
  · rw [e]
    exact (naE hc ht.2.2.1 hh hk (fun h i a b a' b' => (r3 h i a b a' b').symm) x i x0 x1 i0 i1).symm
theorem tE_na {n c day : Int} {ord nam len dry had r r' lt : Int → Int} {h k : Int} (hw : tW n c day ord nam len dry had) (he : tE c day ord nam len dry had r) (hh : 0 ≤ h ∧ h < c) (hk : 1 ≤ k ∧ k ≤ 6) (er : ∀ q, 0 ≤ q → q < 81 → r' q = naR r lt h k q) : tE c day ord (naN nam lt h k) (naL len h k) dry had r' := by
  obtain ⟨h1, h2, h3, h4, h5, h6, h7, h8⟩ := hw
  obtain ⟨e1, e2, e3, e4, e5, e6⟩ := he
  refine ⟨fun i x y => ?_, fun x x0 x1 => ?_, fun x i x0 x1 i0 i1 => ?_, fun x x0 x1 => ?_, fun x x0 x1 => ?_, ?_⟩
  · rw [er i (by omega) (by omega)]; unfold naR; rw [if_neg (by omega), if_neg (by omega)]; exact e1 i x y
  · rw [er _ (by omega) (by omega)]; unfold naR naL
    by_cases hx : x = h
    · rw [if_pos hx, if_pos (by omega)]
    · rw [if_neg hx, if_neg (by omega), if_neg (by omega)]; exact e2 x x0 x1
  · have hb : i < 6 := by
      unfold naL at i1
      by_cases hx : x = h
      · rw [if_pos hx] at i1; omega
      · rw [if_neg hx] at i1; have := h6 x x0 x1; omega
    rw [er _ (by omega) (by omega)]
    exact naE h1 h6 hh hk e3 x i x0 x1 i0 i1
  · rw [er _ (by omega) (by omega)]; unfold naR; rw [if_neg (by omega), if_neg (by omega)]; exact e4 x x0 x1
  · rw [er _ (by omega) (by omega)]; unfold naR; rw [if_neg (by omega), if_neg (by omega)]; exact e5 x x0 x1
  · rw [er _ (by omega) (by omega)]; unfold naR; rw [if_neg (by omega), if_neg (by omega)]; exact e6
theorem p_name {d : Nat} {h n : Int} {M : zM} (hI : zI n M) (hn : n < 512) : zQ (d + 11) 34 195 [z_r (10, 0) 0, z_i h] [z_r (11, 0) 179, z_i h] n M := by
  obtain ⟨hb, ⟨t1, t2, t3, t4⟩, hR, hJ⟩ := hI
  have hJ0 := hJ
  obtain ⟨j1, j2, j3, j4, hP, hK, j7, j8⟩ := hJ
  obtain ⟨ht, hr⟩ := tR_Rw j1
  have ht : zTn (M 179 3) (M 24) (M 26) (M 25) := ht
  have hr : zRw M 183 (M 179 3) (M 24) (M 26) (M 25) := hr
  have hc5 : M 23 5 = M 179 3 := j1.1
  have h8 := ht.1
  have hP0 := hP
  obtain ⟨q1, q2, q3, q4⟩ := hP
  have ez : zrun (zpa (M 1 1) (M 2)) 6 0 = zrun (fun i => zpa (M 1 1) (M 185) (0 + i)) 6 0 := by
    refine zrun_c 6 0 (fun j a b => ?_)
    show zpa (M 1 1) (M 2) j = zpa (M 1 1) (M 185) (0 + j)
    rw [Int.zero_add]
    unfold zpa
    by_cases q : j < M 1 1
    · rw [(t4 j a q).1]
    · rw [decide_eq_false q]; rfl
  have hrs := zrun_s (zpa (M 1 1) (M 2)) 6 0
  have hrn : zrun (zpa (M 1 1) (M 2)) 6 0 ≤ M 1 1 := by
    refine Classical.byContradiction (fun q => ?_)
    have := hrs.2.1 (M 1 1) t2 (by omega)
    unfold zpa at this
    rw [Bool.and_eq_true] at this
    have := of_decide_eq_true this.1
    omega
  have hlet : ∀ j, 0 ≤ j → j < zrun (zpa (M 1 1) (M 2)) 6 0 → 0 ≤ zle (M 2 j) ∧ zle (M 2 j) < 8 := by
    intro j a b
    have := hrs.2.1 j a b
    unfold zpa at this
    rw [Bool.and_eq_true] at this
    have := of_decide_eq_true this.2
    exact ⟨this, zle_r this⟩
  -- the reference's beginning
  have begin : ∀ (v : Int) (M1 : zM), M1 179 = M 179 → M1 185 = M 185 → (∀ M4, zf [] [(179, 0), (179, 11), (179, 12), (179, 13), (179, 14)] M1 M4 → M4 179 11 = 0 → ¬ (0 ≤ h ∧ h < M 179 3) → v = -100 ∧ zI (n + 1) M4) → ((0 ≤ h ∧ h < M 179 3) → ∀ M4, zf [186] [(179, 0), (179, 11), (179, 12), (179, 13), (179, 14)] M1 M4 → M4 179 11 = 0 → (∀ j, 0 ≤ j → j < zrun (zpa (M 1 1) (M 2)) 6 0 → M4 186 j = zle (M 2 j)) → ¬ (1 ≤ M 1 1 ∧ zrun (zpa (M 1 1) (M 2)) 6 0 = M 1 1) → v = -1 - zrun (zpa (M 1 1) (M 2)) 6 0 ∧ zI (n + 1) M4) → ((0 ≤ h ∧ h < M 179 3) → ∀ M4, zf [186] [(179, 0), (179, 11), (179, 12), (179, 13), (179, 14)] M1 M4 → M4 179 11 = 0 → (∀ j, 0 ≤ j → j < zrun (zpa (M 1 1) (M 2)) 6 0 → M4 186 j = zle (M 2 j)) → (1 ≤ M 1 1 ∧ zrun (zpa (M 1 1) (M 2)) 6 0 = M 1 1) → zCv (d + 10) 193 [z_r (11, 0) 179] M4 (fun M10 => zCv (d + 10) 161 [z_r (11, 0) 179, z_i h, z_i 0, z_i (M 1 1)] M10 (fun M12 => zCi (d + 10) 196 [z_r (11, 0) 179, z_r (100, 81) 183, z_i h] M12 (fun v15 M14 => zCi (d + 10) 194 [z_r (11, 0) 179, z_i v15] M14 (fun v17 M16 => v = v17 ∧ zI (n + 1) M16))))) → zCi (d + 11) 195 [z_r (11, 0) 179, z_i h] M1 (fun v' M2 => v = v' ∧ zI (n + 1) M2) := by
    intro v M1 g1 g2 k0 k1 k2
    have u11 : (z_up M1 179 0 0) 179 11 = M 179 11 := by rw [zu_i (by decide), g1]
    refine e_M_name (s_M_begins (fun M3 f3 b1 b2 b3 b4 => ?_))
    have f13 : zf [] [(179, 0), (179, 11), (179, 12), (179, 13), (179, 14)] M1 M3 := zf_ww (zf_tr (zf_uj (zf_rf (S := []) (J := [(179, 0)])) (by decide)) f3) rfl rfl
    have e3 : M3 179 3 = M 179 3 := by rw [zf_a f13 179 3 rfl, g1]
    rw [u11, ← t1, if_neg (by omega)] at b4
    have e187 : M3 185 = M 185 := by rw [zf_c f13 185 rfl, g2]
    refine s_M_isHouse (by rw [e3]; exact h8) ?_
    rw [e3]
    by_cases ch : 0 ≤ h ∧ h < M 179 3
    · rw [if_pos ch]
      refine ⟨fun _ => s_M_readsName (p := 0) (n := M 1 1) (by decide) b2 b4 (by omega) (fun k M4 ek hk f4 c1 c2 c3 => ?_), fun z => absurd (by decide) z⟩
      rw [e187] at ek c2
      rw [← ez] at ek
      have f14 : zf [186] [(179, 0), (179, 11), (179, 12), (179, 13), (179, 14)] M1 M4 := zf_ww (zf_tr f13 f4) rfl rfl
      have c11 : M4 179 11 = 0 := by rw [zf_a f4 179 11 rfl]; exact b1
      have c13 : M4 179 13 = M 1 1 := by rw [zf_a f4 179 13 rfl]; exact b4
      have c188 : ∀ j, 0 ≤ j → j < zrun (zpa (M 1 1) (M 2)) 6 0 → M4 186 j = zle (M 2 j) := by
        intro j a b
        have := c2 j a (by omega)
        rw [Int.zero_add] at this
        rw [this, (t4 j a (by omega)).1]
      rw [c1, c13, Int.zero_add]
      refine ⟨fun z => ?_, fun z => ⟨fun z2 => ?_, fun z2 => ?_⟩⟩
      · rw [zw (by omega) (by omega), ek]
        exact k1 ch M4 f14 c11 c188 (by omega)
      · have e1 : k = M 1 1 := by omega
        rw [e1]
        exact k2 ch M4 f14 c11 c188 (by omega)
      · rw [zw (by omega) (by omega), ek]
        exact k1 ch M4 f14 c11 c188 (by omega)
    · rw [if_neg ch]
      exact ⟨fun z => absurd rfl z, fun _ => k0 M3 f13 b1 ch⟩
  -- nothing done
  have idle : ∀ (S : List Nat) (J : List (Nat × Int)) (M1 M4 : zM), M1 = z_up M 1 1 0 → zf S J M1 M4 → zJS S J = true → (S.all (fun c => !(Nat.beq 3 c)) && J.all (fun q => !(Nat.beq 3 q.1))) = true → (S.all (fun c => !(Nat.beq 4 c)) && J.all (fun q => !(Nat.beq 4 q.1))) = true → (S.all (fun c => !(Nat.beq 180 c)) && J.all (fun q => !(Nat.beq 180 q.1))) = true → (S.all (fun c => !(Nat.beq 1 c)) && J.all (fun q => !(Nat.beq 1 q.1))) = true → M4 179 1 = M 179 1 → M4 179 11 = 0 → zI (n + 1) M4 := by
    intro S J M1 M4 eM f hd y3 y4 y182 y1 yr c11
    have f0 : zf [] [(1, 1)] M M1 := by rw [eM]; exact zf_uj zf_rf (by decide)
    refine ⟨⟨by omega, by omega⟩, iT_0 ?_ c11, ?_, zJ_n (zJ_f (zJ_f hJ0 f0 rfl) f hd) (by omega)⟩
    · rw [zf_c f 1 y1, eM, zu_s]
    · rw [zf_c f 3 y3, zf_c f 4 y4, zf_c f 180 y182, yr, eM, zu_c (by decide), zu_f (by decide), zu_f (by decide)]
      exact hR
  unfold zQ
  refine e_W_name (fun P hP1 => s_Town_has ?_)
  rw [hc5]
  by_cases ch : 0 ≤ h ∧ h < M 179 3
  · rw [if_pos ch]
    refine ⟨fun _ => s_Text_faultInName ⟨t2, t3⟩ ?_, fun z => absurd (by decide) z⟩
    by_cases hc : 1 ≤ M 1 1 ∧ zrun (zpa (M 1 1) (M 2)) 6 0 = M 1 1
    · rw [if_pos hc]
      refine ⟨fun z => absurd rfl z, fun _ => s_Past_push (by omega) q2 q3 (fun M1 f1 p1 p2 p3 p4 => ⟨by omega, ?_⟩)⟩
      rw [hc.2] at hlet
      have h6 : M 1 1 ≤ 6 := by have := hrs.1.2; omega
      have a11 : M1 1 = M 1 := zf_c f1 1 (by decide)
      have a2 : M1 2 = M 2 := zf_c f1 2 (by decide)
      have a25 : M1 25 = M 25 := zf_c f1 25 (by decide)
      have a26 : M1 26 = M 26 := zf_c f1 26 (by decide)
      have loop : ∀ (m : Nat) (i : Int) (M3 : zM), i + m = M 1 1 → 0 ≤ i → zf [25, 26] [] M1 M3 → M3 26 = naL (M 26) h i → M3 25 = naN (M 25) (fun j => zle (M 2 j)) h i → P h (-1) i M3 := by
        intro m
        induction m with
        | zero =>
          intro i M3 hi i0 f3 e1 e2
          have : i = M 1 1 := by omega
          subst this
          have b11 : M3 1 1 = M 1 1 := by rw [zf_c f3 1 rfl, a11]
          refine hP1 _ _ _ _ ⟨fun _ => ⟨fun z => absurd rfl z, fun _ => ?_⟩, fun z => absurd (by omega) z⟩
          have c24 : (z_up M3 1 1 0) 24 = M 24 := by rw [zu_f (by decide), zf_c f3 24 rfl, zf_c f1 24 (by decide)]
          have c25 : (z_up M3 1 1 0) 25 = naN (M 25) (fun j => zle (M 2 j)) h (M 1 1) := by rw [zu_f (by decide)]; exact e2
          have c26 : (z_up M3 1 1 0) 26 = naL (M 26) h (M 1 1) := by rw [zu_f (by decide)]; exact e1
          have htn := zTn_na (h := h) (lt := fun j => zle (M 2 j)) ht ⟨hc.1, h6⟩ hlet
          refine s_W_place (c := M 179 3) (by rw [zu_c (by decide), zf_a f3 23 5 rfl, zf_a f1 23 5 (by decide)]; exact hc5) (by rw [c24, c25, c26]; exact htn) ch (fun M4 f4 _ => ?_)
          rw [c24, c25, c26]
          have fc : zf [25, 26, 36, 37, 38, 39] [(1, 1), (35, 4)] M1 M4 := zf_ww (zf_tr (zf_tr f3 (zf_uj (zf_rf (S := []) (J := [(1, 1)])) (by decide))) f4) rfl rfl
          have g3 : M4 179 = M 179 := by rw [zf_c fc 179 rfl, zf_c f1 179 (by decide)]
          have g185 : M4 183 = M 183 := by rw [zf_c fc 183 rfl, zf_c f1 183 (by decide)]
          have g203 : M4 201 = M 201 := by rw [zf_c fc 201 rfl, zf_c f1 201 (by decide)]
          have g187 : M4 185 = M 185 := by rw [zf_c fc 185 rfl, zf_c f1 185 (by decide)]
          refine begin _ M4 g3 g187 (fun M5 _ _ z => absurd ch z) (fun _ M5 _ _ _ z => absurd hc z) (fun _ M5 f5 w11 w188 _ => ?_)
          have u33 : M5 179 33 = M 179 33 := by rw [zf_a f5 179 33 rfl, g3]
          refine s_M_putsBy (by rw [u33, ← q1]; exact q3) (fun M6 f6 x1 x2 => ?_)
          rw [u33] at x1 x2
          refine s_M_namesSo (by omega) (by decide) ⟨t2, h6⟩ (fun M7 f7 y1 => ?_)
          have f47 : zf [186, 201, 183] [(179, 0), (179, 11), (179, 12), (179, 13), (179, 14)] M4 M7 := zf_ww (zf_tr (zf_tr f5 f6) f7) rfl rfl
          have e73 : M7 179 3 = M 179 3 := by rw [zf_a f47 179 3 rfl, g3]
          have m6 : M6 183 = M 183 := by rw [zf_c f6 183 rfl, zf_c f5 183 rfl, g185]
          have m7 : M7 183 = naR (M 183) (fun j => zle (M 2 j)) h (M 1 1) := by
            rw [y1, m6]
            funext q
            unfold naR
            by_cases z1 : q = 8 + h
            · rw [if_pos z1, if_pos z1]
            · rw [if_neg z1, if_neg z1]
              by_cases z2 : 16 + 6 * h ≤ q ∧ q < 16 + 6 * h + 6
              · rw [if_pos z2, if_pos z2]
                by_cases z3 : q - (16 + 6 * h) < M 1 1
                · rw [if_pos z3, if_pos z3]
                  show M6 186 (0 + (q - (16 + 6 * h))) = zle (M 2 (q - (16 + 6 * h)))
                  rw [Int.zero_add, zf_c f6 186 rfl]
                  exact w188 _ (by omega) (by omega)
                · rw [if_neg z3, if_neg z3]
              · rw [if_neg z2, if_neg z2]
          refine s_M_placeOf (ord := M 24) (len := naL (M 26) h (M 1 1)) (nam := naN (M 25) (fun j => zle (M 2 j)) h (M 1 1)) (by decide) (by decide) (by rw [e73]; exact htn) (by rw [e73]; exact zRw_na ht hr ch ⟨hc.1, h6⟩ m7) (by rw [e73]; exact ch) (fun M8 f8 _ => ?_)
          rw [e73]
          have u8 : M8 179 33 = M 179 33 := by rw [zf_a f8 179 33 rfl, zf_a f7 179 33 rfl, zf_a f6 179 33 rfl]; exact u33
          refine s_M_adds (by rw [u8, ← q1]; exact q3) (fun M9 f9 c1 c2 => ?_)
          rw [u8] at c1 c2
          have fm : zf [186, 201, 183, 194, 195, 196, 197, 198, 199] [(179, 0), (179, 11), (179, 12), (179, 13), (179, 14), (179, 33)] M4 M9 := zf_ww (zf_tr (zf_tr f47 f8) f9) rfl rfl
          have f17 : zf [25, 26, 36, 37, 38, 39, 186, 201, 183, 194, 195, 196, 197, 198, 199] [(1, 1), (35, 4), (179, 0), (179, 11), (179, 12), (179, 13), (179, 14), (179, 33)] M1 M9 := zf_ww (zf_tr fc fm) rfl rfl
          have f : zf (zPast ++ [25, 26, 36, 37, 38, 39, 186, 201, 183, 194, 195, 196, 197, 198, 199]) [(49, 1), (49, 2), (1, 1), (35, 4), (179, 0), (179, 11), (179, 12), (179, 13), (179, 14), (179, 33)] M M9 := zf_ww (zf_tr f1 f17) (by decide) (by decide)
          have m185 : M9 183 = naR (M 183) (fun j => zle (M 2 j)) h (M 1 1) := by rw [zf_c f9 183 rfl, zf_c f8 183 rfl]; exact m7
          have m25 : M9 25 = naN (M 25) (fun j => zle (M 2 j)) h (M 1 1) := by rw [zf_c fm 25 rfl, zf_c f4 25 rfl]; exact c25
          have m26 : M9 26 = naL (M 26) h (M 1 1) := by rw [zf_c fm 26 rfl, zf_c f4 26 rfl]; exact c26
          refine ⟨rfl, ⟨by omega, by omega⟩, iT_0 ?_ ?_, iR_f hR f (by decide), zJ_act (n' := n + 1) hJ0 (by omega) f (by decide) ?_ ?_⟩
          · rw [zf_a fm 1 1 rfl, zf_a f4 1 1 rfl, zu_s]
          · rw [zf_a f9 179 11 rfl, zf_a f8 179 11 rfl, zf_a f7 179 11 rfl, zf_a f6 179 11 rfl]; exact w11
          · obtain ⟨w1, w2, w3⟩ := tR_n j1 (show n ≤ n + 1 by omega)
            have o5 : M9 23 5 = M 179 3 := by rw [zf_a f 23 5 (by decide)]; exact hc5
            have o6 : M9 23 6 = M 23 6 := zf_a f 23 6 (by decide)
            have o24 : M9 24 = M 24 := zf_c f 24 (by decide)
            have o27 : M9 27 = M 27 := zf_c f 27 (by decide)
            have o28 : M9 28 = M 28 := zf_c f 28 (by decide)
            refine ⟨o5, ?_, ?_⟩
            · show tW (n + 1) (M 179 3) (M9 23 6) (M9 24) (M9 25) (M9 26) (M9 27) (M9 28)
              rw [o6, o24, m25, m26, o27, o28]
              exact tW_na w2 ch ⟨hc.1, h6⟩ hlet
            · show tE (M 179 3) (M9 23 6) (M9 24) (M9 25) (M9 26) (M9 27) (M9 28) (fun k => M9 183 (0 + k))
              rw [o6, o24, m25, m26, o27, o28]
              refine tE_na w2 w3 ch ⟨hc.1, h6⟩ (fun k k0 k1 => ?_)
              show M9 183 (0 + k) = naR (fun k => M 183 (0 + k)) (fun j => zle (M 2 j)) h (M 1 1) k
              rw [m185, Int.zero_add]
              unfold naR
              simp only [Int.zero_add]
          · refine iP_act (R1 := M6 201) hP0 j1 p1 p2 p3 p4 (zf_a f17 49 1 rfl) (zf_a f17 49 2 rfl) (zf_r f17 51 140 rfl) (fun k hk => ?_) (fun k k0 k1 => ?_) c1 (fun k k0 k1 => ?_)
            · rw [x1 k hk, zf_c f5 201 rfl, g203]
            · rw [x2 k k0 k1, zf_c f5 183 rfl, g185]
            · rw [c2 k k0 k1, zf_c f8 201 rfl, zf_c f7 201 rfl]
        | succ m ih =>
          intro i M3 hi i0 f3 e1 e2
          have b11 : M3 1 1 = M 1 1 := by rw [zf_c f3 1 rfl, a11]
          have b2 : M3 2 = M 2 := by rw [zf_c f3 2 rfl, a2]
          have bi : M3 (23 + 3) h = i := by show M3 26 h = i; rw [e1]; unfold naL; rw [if_pos rfl]
          refine hP1 _ _ _ _ ⟨fun z => absurd z (by omega), fun _ => s_Text_at (by omega) (s_W_letterOf (e_Town_lengthen ⟨by omega, fun z => absurd z (by omega), fun _ => ?_⟩))⟩
          rw [bi, zw (x := h * 6) (by omega) (by omega), zw (x := h * 6 + i) (by omega) (by omega), zu_c (by decide), bi, zw (x := i + 1) (by omega) (by omega), b11, b2, if_pos (by omega)]
          refine ⟨by omega, by omega, by omega, by omega, ih (i + 1) _ (by omega) (by omega) (zf_us (zf_us f3 (by decide)) (by decide)) ?_ ?_⟩
          · funext x
            show (z_up (z_up M3 25 (h * 6 + i) (zle (M 2 i))) 26 h (i + 1)) 26 x = _
            unfold naL
            by_cases hx : x = h
            · rw [if_pos hx, hx, zu_s]
            · rw [if_neg hx, zu_i hx, zu_c (by decide), e1]; unfold naL; rw [if_neg hx]
          · funext x
            show (z_up (z_up M3 25 (h * 6 + i) (zle (M 2 i))) 26 h (i + 1)) 25 x = _
            rw [zu_c (by decide)]
            unfold naN
            by_cases hx : x = h * 6 + i
            · subst hx
              rw [zu_s, if_pos (by omega), show h * 6 + i - 6 * h = i by omega]
            · rw [zu_i hx, e2]
              unfold naN
              by_cases hx2 : 6 * h ≤ x ∧ x < 6 * h + i
              · rw [if_pos hx2, if_pos (by omega)]
              · rw [if_neg hx2, if_neg (by omega)]
      refine loop (M 1 1).toNat 0 _ (by omega) (by omega) (zf_us zf_rf (by decide)) ?_ ?_
      · funext x
        unfold naL
        by_cases hx : x = h
        · rw [if_pos hx, hx, zu_s]
        · rw [if_neg hx, zu_i hx, a26]
      · funext x
        unfold naN
        rw [if_neg (by omega), zu_c (by decide), a25]
    · rw [if_neg hc]
      refine ⟨fun z => ⟨fun _ => ?_, fun z2 => absurd z z2⟩, fun z => absurd (by omega) z⟩
      rw [zw (by omega) (by omega)]
      refine begin _ _ (by rw [zu_f (by decide)]) (by rw [zu_f (by decide)]) (fun M5 _ _ z => absurd ch z) (fun _ M5 f5 w11 _ _ => ⟨rfl, idle _ _ _ M5 rfl f5 rfl rfl rfl rfl rfl ?_ w11⟩) (fun _ M5 _ _ _ z => absurd z hc)
      rw [zf_a f5 179 1 rfl, zu_c (by decide)]
  · rw [if_neg ch]
    refine ⟨fun z => absurd rfl z, fun _ => ?_⟩
    refine begin _ _ (by rw [zu_f (by decide)]) (by rw [zu_f (by decide)]) (fun M5 f5 w11 _ => ⟨rfl, idle _ _ _ M5 rfl f5 rfl rfl rfl rfl rfl ?_ w11⟩) (fun z => absurd z ch) (fun z => absurd z ch)
    rw [zf_a f5 179 1 rfl, zu_c (by decide)]

/-! houses(): the reference; both sides -/
theorem s_M_faultOfT {d : Nat} {n x p t T : Int} {M : zM} {F : Int → zM → Prop} (hp : M 179 12 = p) (ht : M 179 13 = t) (h1 : 0 ≤ p ∧ p ≤ t ∧ t ≤ T ∧ T ≤ 80) (h2 : T < n → t = T) (hx : x = 0 ∨ x = 1) (H : F (if x = 1 ∧ p = t ∧ n ≤ T then 0 else -1 - p) M) : zCi (d + 1) 160 [z_r (11, 0) 179, z_i n, z_i T, z_i x] M F := by
  refine e_M_faultOf ?_
  rw [hp, ht, zw (x := -1 - p) (by omega) (by omega), zw (x := -1 - T) (by omega) (by omega)]
  have bad : ¬ (x = 1 ∧ p = t) → ((n ≤ T → (((0 : Int) = 0 → F (-1 - p) M) ∧ (¬ ((0 : Int) = 0) → F 0 M))) ∧ (¬ (n ≤ T) → (((0 : Int) ≠ 0 → F (-1 - T) M) ∧ (¬ ((0 : Int) ≠ 0) → ((p < T → (((0 : Int) = 0 → F (-1 - p) M) ∧ (¬ ((0 : Int) = 0) → F 0 M))) ∧ (¬ (p < T) → F (-1 - T) M)))))) := by
    intro hb
    rw [if_neg (fun z => hb ⟨z.1, z.2.1⟩)] at H
    refine ⟨fun _ => ⟨fun _ => H, fun z => absurd rfl z⟩, fun z => ⟨fun w => absurd rfl w, fun _ => ⟨fun _ => ⟨fun _ => H, fun w => absurd rfl w⟩, fun w => ?_⟩⟩⟩
    rw [show -1 - p = -1 - T by omega] at H; exact H
  refine ⟨fun z => bad (by omega), fun z => ⟨fun z2 => bad (fun q => z2 q.2), fun z2 => ⟨fun z3 => ⟨fun w => absurd w (by decide), fun _ => ?_⟩, fun z3 => ⟨fun _ => ?_, fun w => absurd (by decide) w⟩⟩⟩⟩
  · rw [if_pos ⟨by omega, Classical.not_not.mp z2, z3⟩] at H; exact H
  · rw [if_neg (fun w => z3 w.2.2), Classical.not_not.mp z2, h2 (by omega)] at H; exact H
theorem zsl_1 : zsl 1 = [49, 50, 51, 52, 53, 54, 55, 56, 57] := by decide
theorem zfl_1 (c : Int) : zfl c (zsl 1) 0 = if 49 ≤ c ∧ c ≤ 57 then c - 49 else -1 := by
  rw [zsl_1]
  simp only [zfl]
  repeat' split
  all_goals omega
def zZB (sg : Int → Int) (e p : Int) (M : zM) : Prop := M 179 12 = p ∧ M 179 13 = e ∧ (0 ≤ e ∧ e ≤ 71) ∧ ∀ j, 0 ≤ j → j < e → M 185 j = sg j
/-- a line in the arrays -/
def zLk (sg : Int → Int) (e k p : Int) (M : zM) : Prop := M 187 k = zhn sg e p ∧ M 188 k = zdi (sg (p + zhn sg e p)) ∧ ∀ t, 0 ≤ t → t < zhn sg e p → M 186 (6 * k + t) = zle (sg (p + t))
theorem s_M_readsHouse {d : Nat} {sg : Int → Int} {e p k : Int} {M : zM} {F : Int → zM → Prop} (h : zZB sg e p M) (hp : 0 ≤ p ∧ p ≤ e) (hc : 0 ≤ M 179 3 ∧ M 179 3 ≤ 8) (hk : M 179 18 = k) (hk2 : 0 ≤ k ∧ M 179 3 + k ≤ 8) (H0 : M 179 3 + k = 8 → F 0 M) (H1 : M 179 3 + k ≠ 8 → ∀ M', zf [186, 187, 188] [(179, 12), (179, 18)] M M' → zZB sg e (zh1 sg e p).2 M' → ((zh1 sg e p).1 = true → M' 179 18 = k + 1 ∧ zLk sg e k p M') → (∀ j, j < k → M' 187 j = M 187 j ∧ M' 188 j = M 188 j) → (∀ j, j < 6 * k → M' 186 j = M 186 j) → F (if (zh1 sg e p).1 = true then 1 else 0) M') : zCi (d + 11) 154 [z_r (11, 0) 179] M F := by
  obtain ⟨h1, h2, h3, h4⟩ := h
  obtain ⟨⟨a1, a2, a3⟩, a4, a5⟩ := zhn_s (sg := sg) hp.2
  refine e_M_readsHouse ?_
  rw [hk, zw (x := M 179 3 + k) (by omega) (by omega)]
  refine ⟨fun z => ?_, fun z => H0 (Classical.not_not.mp z)⟩
  have H1 := H1 z
  rw [zw (x := 6 * k) (by omega) (by omega)]
  refine s_M_readsName (p := p) (n := e) (by omega) h1 h2 (by omega) (fun l M1 el hl f1 g1 g2 g3 => ?_)
  have el : l = zhn sg e p := by
    rw [el]
    unfold zhn
    refine zrun_c 6 0 (fun j a b => ?_)
    show zpa e (M 185) (p + j) = zpa e sg (p + j)
    unfold zpa
    by_cases q : p + j < e
    · rw [h4 _ (by omega) q]
    · rw [decide_eq_false q]; rfl
  subst el
  have k8 : 0 ≤ k ∧ k < 8 := by omega
  rw [zu_s]
  generalize hM2 : z_up M1 187 k (zhn sg e p) = M2
  have f2 : zf [186, 187, 188] [(179, 12), (179, 18)] M M2 := by rw [← hM2]; exact zf_us (zf_ww f1 rfl rfl) (by decide)
  have m12 : M2 179 12 = p + zhn sg e p := by rw [← hM2, zu_c (by decide)]; exact g1
  have m18 : M2 179 18 = k := by rw [← hM2, zu_c (by decide), zf_a f1 179 18 rfl]; exact hk
  have m188 : M2 186 = M1 186 := by rw [← hM2]; exact zu_f (by decide)
  have m189 : ∀ j, M2 187 j = if j = k then zhn sg e p else M 187 j := fun j => by
    rw [← hM2]
    by_cases w : j = k
    · rw [if_pos w, w, zu_s]
    · rw [if_neg w, zu_i w, zf_c f1 187 rfl]
  have m190 : ∀ j, M2 188 j = M 188 j := fun j => by rw [← hM2, zu_c (by decide), zf_c f1 188 rfl]
  have zb : ∀ M3, zf [186, 187, 188] [(179, 12), (179, 18)] M M3 → ∀ r, M3 179 12 = r → zZB sg e r M3 := fun M3 f3 r hr => ⟨hr, by rw [zf_a f3 179 13 rfl]; exact h2, h3, fun j x y => by rw [zf_c f3 185 rfl]; exact h4 j x y⟩
  unfold zh1 at H1
  refine ⟨k8, k8, fun z1 => ?_, fun z1 => ?_⟩
  · rw [if_neg z1] at H1
    have ev : (if M2 179 12 < M2 179 13 then zfl (M2 185 (M2 179 12)) (zsl 1) 0 else -1) = (if zd9 sg e (p + zhn sg e p) = true then zat sg e (p + zhn sg e p) - 49 else -1) := by
      have b := zb M2 f2 _ m12
      rw [m12, b.2.1, zfl_1]
      unfold zd9 zat
      by_cases q : p + zhn sg e p < e
      · rw [if_pos q, if_pos q, b.2.2.2 _ (by omega) q]
        by_cases w : 49 ≤ sg (p + zhn sg e p) ∧ sg (p + zhn sg e p) ≤ 57
        · rw [if_pos w, if_pos (decide_eq_true w)]
        · rw [if_neg w, if_neg (by rw [decide_eq_false w]; decide)]
      · rw [if_neg q, if_neg q]; rfl
    have b13 : M2 179 13 = e := (zb M2 f2 _ m12).2.1
    refine e_M_takesOf (s_M_among (by rw [zsl_1]; rfl) (by decide) (by rw [m12, b13]; omega) ?_)
    rw [ev, m12]
    by_cases q : zd9 sg e (p + zhn sg e p) = true
    · rw [if_pos q] at H1 ⊢
      have l9 := zd9_lt q
      have ea : zat sg e (p + zhn sg e p) = sg (p + zhn sg e p) := by unfold zat; rw [if_pos l9.1]
      rw [ea]
      refine ⟨fun w => absurd w (by omega), fun _ => s_M_flag (b := true) rfl ⟨k8, k8, ?_⟩⟩
      have dg : zdi (sg (p + zhn sg e p)) = sg (p + zhn sg e p) - 48 := by unfold zdi; rw [if_pos (by omega)]
      show (_ → F 0 _) ∧ (_ → F 1 _)
      rw [zu_c (by decide), zu_s, zu_c (by decide), zu_i (by decide), m18, zw (x := 1 + (sg (p + zhn sg e p) - 49)) (by omega) (by omega), zw (x := k + 1) (by omega) (by omega)]
      refine ⟨fun w => absurd w (by omega), fun _ => ?_⟩
      have F3 : zf [186, 187, 188] [(179, 12), (179, 18)] M (z_up (z_up (z_up M2 179 12 (z_wr (p + zhn sg e p + if true = true then 1 else 0))) 188 k (1 + (sg (p + zhn sg e p) - 49))) 179 18 (k + 1)) := zf_uj (zf_us (zf_uj f2 (by decide)) (by decide)) (by decide)
      refine H1 _ F3 (zb _ F3 _ ?_) (fun _ => ⟨zu_s _ _ _ _, ?_, ?_, fun t a b => ?_⟩) (fun j w => ⟨?_, ?_⟩) (fun j w => ?_)
      · rw [zu_i (by decide), zu_c (by decide), zu_s]
        show z_wr (p + zhn sg e p + 1) = p + zhn sg e p + 1
        exact zw (by omega) (by omega)
      · rw [zu_c (by decide), zu_c (by decide), zu_c (by decide), m189, if_pos rfl]
      · rw [zu_c (by decide), zu_s, dg]; omega
      · rw [zu_c (by decide), zu_c (by decide), zu_c (by decide), m188, g2 t a b, h4 _ (by omega) (a4 t a b).1]
      · rw [zu_c (by decide), zu_c (by decide), zu_c (by decide), m189, if_neg (by omega)]
      · rw [zu_c (by decide), zu_i (by omega), zu_c (by decide)]; exact m190 j
      · rw [zu_c (by decide), zu_c (by decide), zu_c (by decide), m188]; exact g3 j (by omega)
    · rw [if_neg q] at H1 ⊢
      refine ⟨fun _ => s_M_flag (b := false) rfl ⟨k8, k8, ?_⟩, fun w => absurd (by decide) w⟩
      show (_ → F 0 _) ∧ (_ → F 1 _)
      rw [zu_c (by decide), zu_s, zu_c (by decide), zu_i (by decide), m18, zw (x := 1 + -1) (by omega) (by omega), zw (x := k + 1) (by omega) (by omega)]
      refine ⟨fun _ => ?_, fun w => absurd (by decide) w⟩
      have F3 : zf [186, 187, 188] [(179, 12), (179, 18)] M (z_up (z_up (z_up M2 179 12 (z_wr (p + zhn sg e p + if false = true then 1 else 0))) 188 k (1 + -1)) 179 18 (k + 1)) := zf_uj (zf_us (zf_uj f2 (by decide)) (by decide)) (by decide)
      refine H1 _ F3 (zb _ F3 _ ?_) (fun w => absurd w Bool.false_ne_true) (fun j w => ⟨?_, ?_⟩) (fun j w => ?_)
      · rw [zu_i (by decide), zu_c (by decide), zu_s]
        show z_wr (p + zhn sg e p + 0) = p + zhn sg e p
        rw [zw (by omega) (by omega)]; omega
      · rw [zu_c (by decide), zu_c (by decide), zu_c (by decide), m189, if_neg (by omega)]
      · rw [zu_c (by decide), zu_i (by omega), zu_c (by decide)]; exact m190 j
      · rw [zu_c (by decide), zu_c (by decide), zu_c (by decide), m188]; exact g3 j (by omega)
  · have l0 := Classical.not_not.mp z1
    rw [if_pos l0] at H1
    refine H1 M2 f2 (zb M2 f2 _ (by rw [m12, l0]; show p + 0 = p; omega)) (fun w => absurd w Bool.false_ne_true) (fun j w => ⟨by rw [m189, if_neg (by omega)], m190 j⟩) (fun j w => by rw [m188]; exact g3 j (by omega))
theorem zRt_n {c D l : Int} {lt : Int → Int} {S : zS} {r r' : Int → Int} (ho : zSo c D S) (hc : c < 8) (hl : 0 ≤ l ∧ l ≤ 6) (M M' : zM) (hr : zRt 183 c S M) (e1 : ∀ q, M' 183 q = if q = 64 + c ∨ q = 72 + c then 0 else naR (M 183) lt c l q) : zRt 183 (c + 1) (zSn c l lt S) M' := by
  obtain ⟨b1, b2, b3, b4, b5, b6⟩ := hr
  obtain ⟨⟨t1, t2, t3, t4⟩, s2, s3, s4⟩ := ho
  refine ⟨fun i a b => ?_, fun x a b => ?_, fun x i a b a' b' => ?_, fun x a b => ?_, fun x a b => ?_, ?_⟩
  · rw [e1, if_neg (by omega)]; unfold naR; rw [if_neg (by omega), if_neg (by omega)]; exact b1 i a b
  · rw [e1, if_neg (by omega)]
    show naR (M 183) lt c l (8 + x) = naL S.len c l x
    unfold naR naL
    by_cases q : x = c
    · rw [if_pos (by omega), if_pos q]
    · rw [if_neg (by omega), if_neg (by omega), if_neg q]; exact b2 x a b
  · have b' : i < naL S.len c l x := b'
    rw [e1]
    show _ = naN S.nam lt c l (6 * x + i)
    unfold naL at b'
    by_cases q : x = c
    · rw [if_pos q] at b'
      rw [if_neg (by omega)]
      unfold naR naN
      rw [if_neg (by omega), if_pos (by omega), if_pos (by omega), if_pos (by omega), show 16 + (6 * x + i) - (16 + 6 * c) = i by omega, show 6 * x + i - 6 * c = i by omega]
    · rw [if_neg q] at b'
      have := t3 x a (by omega)
      rw [if_neg (by omega)]
      unfold naR naN
      rw [if_neg (by omega), if_neg (by omega), if_neg (by omega)]
      exact b3 x i a (by omega) a' b'
  · rw [e1]
    by_cases q : x = c
    · rw [if_pos (by omega)]; show 0 = S.dry x; rw [q]; exact ((s3 c (by omega) hc).2.1).symm
    · rw [if_neg (by omega)]; unfold naR; rw [if_neg (by omega), if_neg (by omega)]; exact b4 x a b
  · rw [e1]
    by_cases q : x = c
    · rw [if_pos (by omega)]; show 0 = S.had x; rw [q]; exact ((s3 c (by omega) hc).2.2).symm
    · rw [if_neg (by omega)]; unfold naR; rw [if_neg (by omega), if_neg (by omega)]; exact b5 x a b
  · rw [e1, if_neg (by omega)]; unfold naR; rw [if_neg (by omega), if_neg (by omega)]; exact b6
theorem naR_c {r lt lt' : Int → Int} {h k : Int} (e : ∀ j, 0 ≤ j → j < k → lt j = lt' j) : naR r lt h k = naR r lt' h k := by
  funext q
  unfold naR
  by_cases a : q = 8 + h
  · rw [if_pos a, if_pos a]
  · rw [if_neg a, if_neg a]
    by_cases b : 16 + 6 * h ≤ q ∧ q < 16 + 6 * h + 6
    · rw [if_pos b, if_pos b]
      by_cases c : q - (16 + 6 * h) < k
      · rw [if_pos c, if_pos c]; exact e _ (by omega) c
      · rw [if_neg c, if_neg c]
    · rw [if_neg b, if_neg b]
theorem zHa_1 {sg : Int → Int} {e : Int} : ∀ (L : List Int) (q : Int × zS × (Int → Int)), (zHa sg e L q).1 = q.1 + L.length
  | [], q => by show q.1 = q.1 + ((0 : Nat) : Int); omega
  | p :: L, q => by
    have := zHa_1 (sg := sg) (e := e) L (q.1 + 1, zSn q.1 (zhn sg e p) (fun j => zle (sg (p + j))) q.2.1, fun h => if h = q.1 then zdi (sg (p + zhn sg e p)) else q.2.2 h)
    show (zHa sg e L _).1 = q.1 + (((p :: L).length : Nat) : Int)
    rw [this, List.length_cons]
    show q.1 + 1 + (L.length : Int) = _
    omega

/-! what was seen: the class's demands, the reference's orders -/
/-- all that was seen is so by an order -/
def zsn (one oth len nam t : Int → Int) (m : Int) : Prop := ∀ q, 0 ≤ q → q < m → zah (zrk t) len nam (one q) (oth q) = true
def zDm (one oth len nam D : Int → Int) (P m : Int) : Prop := (∀ l, 0 ≤ l → l < 8 → 0 ≤ D l ∧ D l < 256) ∧ (P = 0 ∨ P = 1) ∧ ∀ t, zperm t → (zfw D P t = true ↔ zsn one oth len nam t m)
theorem zDm_0 {one oth len nam D : Int → Int} (h : ∀ l, 0 ≤ l → l < 8 → D l = 0) : zDm one oth len nam D 1 0 := ⟨fun l a b => by rw [h l a b]; omega, Or.inr rfl, fun t hp => by
  rw [zfw_b (fun l a b => by rw [h l a b]; omega) hp]
  refine ⟨fun _ q a b => by omega, fun _ => ⟨rfl, fun l x l0 l8 x0 x8 b => ?_⟩⟩
  rw [h l l0 l8, zb_0] at b; cases b⟩
theorem zsn_s {one oth len nam t : Int → Int} {i : Int} (hi : 0 ≤ i) : zsn one oth len nam t (i + 1) ↔ zsn one oth len nam t i ∧ zah (zrk t) len nam (one i) (oth i) = true := by
  constructor
  · intro h; exact ⟨fun q a b => h q a (by omega), h i hi (by omega)⟩
  · rintro ⟨h1, h2⟩ q a b
    by_cases e : q = i
    · rw [e]; exact h2
    · exact h1 q a (by omega)
theorem s_Orders_demandAhead {d : Nat} {A B : Int} {M : zM} {F : zM → Prop} (hB : 0 ≤ B ∧ B < 8) (H : F (z_up M 148 B (zbs (M 148 B) A))) : zCv (d + 1) 85 [z_r (2, 0) 144, z_i A, z_i B] M F :=
  e_Orders_demandAhead ⟨fun z => absurd z (by omega), fun _ => ⟨fun z => absurd z (by omega), fun _ => ⟨hB, hB, H⟩⟩⟩
theorem s_Orders_demand {d : Nat} {x y c : Int} {M : zM} {F : zM → Prop} (ht : zTn c (M 24) (M 26) (M 25)) (hx : 0 ≤ x ∧ x < c) (hy : 0 ≤ y ∧ y < c)
    (H1 : ∀ A B, (0 ≤ A ∧ A < 8) → (0 ≤ B ∧ B < 8) → (∀ t, zah (zrk t) (M 26) (M 25) x y = decide (zrk t A < zrk t B)) → F (z_up M 148 B (zbs (M 148 B) A))) (H2 : (∀ t, zah (zrk t) (M 26) (M 25) x y = true) → F M) (H3 : (∀ t, zah (zrk t) (M 26) (M 25) x y = false) → F (z_up M 144 4 0)) : zCv (d + 3) 124 [z_r (2, 0) 144, z_r (9, 0) 23, z_i x, z_i y] M F := by
  have c8 := ht.1
  have lx := ht.2.2.1 x hx.1 hx.2
  have ly := ht.2.2.1 y hy.1 hy.2
  have b1 : M (23 + 3) = M 26 := rfl
  have b2 : M (23 + 2) = M 25 := rfl
  have sy := zdf_sym (nam := M 25) (len := M 26) (a := y) (b := x) (by omega) (by omega)
  have ms := zmn_sym (M 26) y x
  refine e_Orders_demand (s_Town_tellingLetter (by omega) (by omega) (by rw [b1]; omega) (by rw [b1]; omega) ?_)
  rw [b1, b2]
  by_cases q : zdf (M 26) (M 25) x y < zmn (M 26) x y
  · have e1 : zmi (M 26) (M 25) x y = M 25 (6 * x + zdf (M 26) (M 25) x y) := by unfold zmi; rw [if_pos q]
    have e2 : zmi (M 26) (M 25) y x = M 25 (6 * y + zdf (M 26) (M 25) x y) := by unfold zmi; rw [sy, ms, if_pos q]
    rw [e1]
    obtain ⟨dd, -, -⟩ := zdf_s (len := M 26) (nam := M 25) (a := x) (b := y) (by omega) (by omega)
    have mb : zmn (M 26) x y ≤ M 26 x ∧ zmn (M 26) x y ≤ M 26 y := by unfold zmn; split <;> omega
    have ra : 0 ≤ M 25 (6 * x + zdf (M 26) (M 25) x y) ∧ M 25 (6 * x + zdf (M 26) (M 25) x y) < 8 := ht.2.2.2 _ (by omega) (by omega)
    have rb : 0 ≤ M 25 (6 * y + zdf (M 26) (M 25) x y) ∧ M 25 (6 * y + zdf (M 26) (M 25) x y) < 8 := ht.2.2.2 _ (by omega) (by omega)
    have hz := H1 _ _ ra rb (fun t => by unfold zah; rw [if_pos q])
    refine ⟨fun w => absurd w (by omega), fun _ => s_Town_tellingLetter (by omega) (by omega) (by rw [b1]; omega) (by rw [b1]; omega) ?_⟩
    rw [b1, b2, e2]
    exact s_Orders_demandAhead rb hz
  · have e1 : zmi (M 26) (M 25) x y = -1 := by unfold zmi; rw [if_neg q]
    rw [e1]
    refine ⟨fun _ => s_Town_isAheadAnyway (by omega) (by omega) ?_, fun w => absurd rfl w⟩
    rw [b1]
    have ez : ∀ t, zah (zrk t) (M 26) (M 25) x y = decide (zia (M 26) x y = 1) := fun t => by
      unfold zah zia
      rw [if_neg q]
      by_cases w : M 26 x = M 26 y
      · rw [if_pos w, if_pos w]
        by_cases v : x < y
        · rw [if_pos v, decide_eq_true v]; rfl
        · rw [if_neg v, decide_eq_false v]; rfl
      · rw [if_neg w, if_neg w]
        by_cases v : M 26 x < M 26 y
        · rw [if_pos v, decide_eq_true v]; rfl
        · rw [if_neg v, decide_eq_false v]; rfl
    have zi : zia (M 26) x y = 0 ∨ zia (M 26) x y = 1 := by unfold zia; (repeat' split) <;> omega
    refine ⟨fun w => H2 (fun t => by rw [ez]; exact decide_eq_true (by omega)), fun w => H3 (fun t => by rw [ez]; exact decide_eq_false (by omega))⟩
theorem s_W_fitAll {d : Nat} {c m : Int} {M : zM} {F : Int → zM → Prop} (ht : zTn c (M 24) (M 26) (M 25)) (hm : M 0 14 = m) (m8 : 0 ≤ m ∧ m ≤ 8) (hs : ∀ q, 0 ≤ q → q < m → (0 ≤ M 142 q ∧ M 142 q < c) ∧ (0 ≤ M 143 q ∧ M 143 q < c))
    (H : ∀ M' D P, zf [148, 149, 150] [(144, 4)] M M' → M' 148 = D → M' 144 4 = P → zDm (M 142) (M 143) (M 26) (M 25) D P m → zPsi D P 256 0 (M' 149) → (∀ s, 0 ≤ s → s < 256 → M' 150 s = zVn D P s) → F (zEn D P 8 0) M') : zCi (d + 4) 122 [z_r (10, 0) 0] M F := by
  refine e_W_fitAll (fun Pa hA => e_Orders_demandNothing (s_fill (by decide) (fun M1 f1 z1 => ?_)))
  have loop : ∀ (r i : Nat) (M2 : zM), (i : Int) + r = m → zf [148] [(144, 4)] M M2 → zDm (M 142) (M 143) (M 26) (M 25) (M2 148) (M2 144 4) i → Pa (i : Int) M2 := by
    intro r
    induction r with
    | zero =>
      intro i M2 hi f2 d2
      have e14 : M2 0 14 = m := by rw [zf_a f2 0 14 rfl]; exact hm
      refine hA _ _ ⟨fun _ => s_Orders_fitDemands rfl d2.2.1 rfl (fun M3 f3 p3 v3 => H M3 _ _ (zf_ww (zf_tr f2 f3) rfl rfl) (zf_c f3 148 rfl) (zf_a f3 144 4 rfl) ?_ p3 v3), fun z => absurd (by omega) z⟩
      rw [show m = (i : Int) by omega]; exact d2
    | succ r ih =>
      intro i M2 hi f2 d2
      have e14 : M2 0 14 = m := by rw [zf_a f2 0 14 rfl]; exact hm
      have si := hs i (by omega) (by omega)
      have e1 : M2 142 = M 142 := zf_c f2 142 rfl
      have e2 : M2 143 = M 143 := zf_c f2 143 rfl
      have e3 : M2 26 = M 26 := zf_c f2 26 rfl
      have e4 : M2 25 = M 25 := zf_c f2 25 rfl
      have e5 : M2 24 = M 24 := zf_c f2 24 rfl
      have nx := ih (i + 1)
      rw [show ((i + 1 : Nat) : Int) = (i : Int) + 1 by omega] at nx
      refine hA _ _ ⟨fun z => absurd z (by omega), fun _ => ⟨by omega, by omega, ?_⟩⟩
      rw [zw (x := (i : Int) + 1) (by omega) (by omega), e1, e2]
      obtain ⟨r1, r2, r3⟩ := d2
      refine s_Orders_demand (c := c) (by rw [e3, e4, e5]; exact ht) si.1 si.2 (fun A B hA' hB' ez => ?_) (fun ez => ?_) (fun ez => ?_)
      · rw [e3, e4] at ez
        have rD : ∀ l, 0 ≤ l → l < 8 → 0 ≤ (z_up M2 148 B (zbs (M2 148 B) A)) 148 l ∧ (z_up M2 148 B (zbs (M2 148 B) A)) 148 l < 256 := fun l a b => by
          by_cases q : l = B
          · rw [q, zu_s]; exact zbs_lt (r1 B hB'.1 hB'.2) hA'
          · rw [zu_i q]; exact r1 l a b
        refine nx _ (by omega) (zf_us f2 (by decide)) ⟨rD, by rw [zu_c (by decide)]; exact r2, fun t hp => ?_⟩
        rw [zsn_s (by omega), ← r3 t hp, zfw_b rD hp, zfw_b r1 hp, zu_c (by decide), ez t, decide_eq_true_iff]
        constructor
        · rintro ⟨p1, h⟩
          refine ⟨⟨p1, fun l x l0 l8 x0 x8 b => h l x l0 l8 x0 x8 ?_⟩, h B A hB'.1 hB'.2 hA'.1 hA'.2 ?_⟩
          · by_cases q : l = B
            · rw [q] at b ⊢; rw [zu_s, zb_zbs (by have := r1 B hB'.1 hB'.2; omega) (by omega) x0, b]; rfl
            · rw [zu_i q]; exact b
          · rw [zu_s, zb_zbs (by have := r1 B hB'.1 hB'.2; omega) (by omega) hA'.1, decide_eq_true rfl, Bool.or_true]
        · rintro ⟨⟨p1, h⟩, ab⟩
          refine ⟨p1, fun l x l0 l8 x0 x8 b => ?_⟩
          by_cases q : l = B
          · rw [q, zu_s, zb_zbs (by have := r1 B hB'.1 hB'.2; omega) (by omega) x0, Bool.or_eq_true] at b
            rcases b with b | b
            · rw [q]; exact h B x hB'.1 hB'.2 x0 x8 b
            · rw [q, ← of_decide_eq_true b]; exact ab
          · rw [zu_i q] at b; exact h l x l0 l8 x0 x8 b
      · rw [e3, e4] at ez
        refine nx _ (by omega) f2 ⟨r1, r2, fun t hp => ?_⟩
        rw [zsn_s (by omega), r3 t hp, ez t]
        exact ⟨fun h => ⟨h, rfl⟩, fun h => h.1⟩
      · rw [e3, e4] at ez
        have r1' : ∀ l, 0 ≤ l → l < 8 → 0 ≤ (z_up M2 144 4 0) 148 l ∧ (z_up M2 144 4 0) 148 l < 256 := fun l a b => by rw [zu_c (by decide)]; exact r1 l a b
        refine nx _ (by omega) (zf_uj f2 (by decide)) ⟨r1', by rw [zu_s]; exact Or.inl rfl, fun t hp => ?_⟩
        rw [zsn_s (by omega), ez t, zfw_b r1' hp, zu_s]
        exact ⟨fun h => absurd h.1 (by decide), fun h => by cases h.2⟩
  refine loop m.toNat 0 M1 (by omega) ?_ ?_
  · exact zf_ww (zf_tr (zf_uj (S := [148]) (J := [(144, 4)]) zf_rf (by decide)) f1) rfl rfl
  · have : M1 144 4 = 1 := by rw [zf_a f1 144 4 rfl, zu_s]
    rw [this]
    exact zDm_0 z1
theorem s_M_isAsSeen {d : Nat} {c m : Int} {one oth len nam t : Int → Int} {M : zM} {F : Int → zM → Prop} (hn : znm c len nam) (hU : zUn M c len nam) (hr : ∀ x, 0 ≤ x → x < 8 → M 197 x = zrk t x) (hm : M 179 57 = m) (m8 : 0 ≤ m ∧ m ≤ 8) (hs : ∀ q, 0 ≤ q → q < m → M 216 q = one q ∧ M 217 q = oth q ∧ (0 ≤ one q ∧ one q < c) ∧ (0 ≤ oth q ∧ oth q < c)) (H1 : zsn one oth len nam t m → F 1 M) (H0 : ¬ zsn one oth len nam t m → F 0 M) : zCi (d + 2) 219 [z_r (11, 0) 179] M F := by
  refine e_M_isAsSeen (fun Pa hA => ?_)
  have loop : ∀ (r i : Nat), (i : Int) + r = m → zsn one oth len nam t i → Pa 1 (i : Int) M := by
    intro r
    induction r with
    | zero =>
      intro i hi h
      exact hA _ _ _ ⟨fun _ => ⟨Or.inr rfl, H1 (by rw [show m = (i : Int) by omega]; exact h)⟩, fun z => absurd (by omega) z⟩
    | succ r ih =>
      intro i hi h
      obtain ⟨s1, s2, s3, s4⟩ := hs i (by omega) (by omega)
      refine hA _ _ _ ⟨fun z => absurd z (by omega), fun _ => ⟨fun z => absurd z (by decide), fun _ => ⟨by omega, by omega, ?_⟩⟩⟩
      rw [s1, s2, zw (x := (i : Int) + 1) (by omega) (by omega)]
      refine s_M_goesAhead hn hU hr s3 s4 ?_
      by_cases z : zah (zrk t) len nam (one i) (oth i) = true
      · rw [if_pos z]
        have := ih (i + 1) (by omega) (by rw [show ((i + 1 : Nat) : Int) = (i : Int) + 1 by omega]; exact (zsn_s (by omega)).mpr ⟨h, z⟩)
        rw [show ((i + 1 : Nat) : Int) = (i : Int) + 1 by omega] at this
        exact this
      · rw [if_neg z]
        have no : ¬ zsn one oth len nam t m := fun y => z (y i (by omega) (by omega))
        exact hA _ _ _ ⟨fun _ => ⟨Or.inl rfl, H0 no⟩, fun _ => ⟨fun _ => ⟨Or.inl rfl, H0 no⟩, fun y => absurd rfl y⟩⟩
  exact loop m.toNat 0 (by omega) (fun q a b => by omega)
def zFi (B : zM) (M : zM) (q : Int × (Int → Int) × (Int → Int)) : Prop := zf [206, 197, 207, 208] [(179, 43), (179, 46)] B M ∧ M 179 46 = q.1 ∧ (∀ x, 0 ≤ x → x < 64 → M 208 x = q.2.1 x) ∧ (q.1 ≠ 0 → ∀ j, 0 ≤ j → j < 8 → M 207 j = q.2.2 j)
theorem s_looks2 {d : Nat} {c m P : Int} {one oth len nam D : Int → Int} {B : zM} (hn : znm c len nam) (hU : zUn B c len nam) (hm : B 179 57 = m) (m8 : 0 ≤ m ∧ m ≤ 8) (hs : ∀ q, 0 ≤ q → q < m → B 216 q = one q ∧ B 217 q = oth q ∧ (0 ≤ one q ∧ one q < c) ∧ (0 ≤ oth q ∧ oth q < c)) (hW : zDm one oth len nam D P m) (M : zM) (q : Int × (Int → Int) × (Int → Int)) (t : Int → Int) (F : zM → Prop) (hI : zFi B M q) (hp : zperm t) (hT : zTu 8 t M) (H : ∀ M', zFi B M' (zuf (zfw D P) t q) → M' 206 = M 206 → M' 197 = M 197 → F M') : zCv (d + 3) 217 [z_r (11, 0) 179, z_i 2] M F := by
  obtain ⟨f1, v1, a1, b1⟩ := hI
  have e57 : M 179 57 = m := by rw [zf_a f1 179 57 rfl]; exact hm
  have hU2 : zUn M c len nam := fun a b a0 a1 b0 b1 => by
    rw [zf_c f1 194 rfl, zf_c f1 195 rfl, zf_c f1 196 rfl]; exact hU a b a0 a1 b0 b1
  have hr : ∀ x, 0 ≤ x → x < 8 → M 197 x = zrk t x := fun x a b => zrk_u hp (fun i a b => (hT i a b).2) x a b
  have hs2 : ∀ q, 0 ≤ q → q < m → M 216 q = one q ∧ M 217 q = oth q ∧ (0 ≤ one q ∧ one q < c) ∧ (0 ≤ oth q ∧ oth q < c) := fun q a b => by
    rw [zf_c f1 216 rfl, zf_c f1 217 rfl]; exact hs q a b
  refine e_M_looksAt (fun Pa Pb hA hB => ⟨fun _ => ⟨fun _ => s_M_isAsSeen hn hU2 hr e57 m8 hs2 (fun w => ⟨fun z => absurd z (by decide), fun _ => ?_⟩) (fun w => ⟨fun _ => ?_, fun z => absurd rfl z⟩), fun z => absurd (by decide) z⟩, fun z => absurd (by decide) z⟩)
  · have wt : zfw D P t = true := (hW.2.2 t hp).mpr w
    unfold zuf at H
    rw [if_pos wt] at H
    have loop : ∀ (r x : Nat) (M1 : zM), x + r = 64 → zf [206, 197, 207, 208] [(179, 43), (179, 46)] B M1 → M1 179 46 = z_wr (q.1 + 1) → M1 206 = M 206 → M1 197 = M 197 → ((if q.1 = 0 then True else q.1 ≠ 0) → ∀ j, 0 ≤ j → j < 8 → M1 207 j = (if q.1 = 0 then t else q.2.2) j) → (∀ y : Int, 0 ≤ y → y < x → M1 208 y = z_wr (q.2.1 y + zrb t y)) → (∀ y : Int, x ≤ y → y < 64 → M1 208 y = q.2.1 y) → Pb 2 (x : Int) M1 := by
      intro r
      induction r with
      | zero =>
        intro x M1 hx f2 e2 e3 e4 e5 e6 e7
        have : x = 64 := by omega
        subst this
        refine hB _ _ _ ⟨fun _ => H M1 ⟨f2, e2, e6, fun _ => e5 ?_⟩ e3 e4, fun z => absurd (by omega) z⟩
        by_cases z : q.1 = 0
        · rw [if_pos z]; trivial
        · rw [if_neg z]; exact z
      | succ r ih =>
        intro x M1 hx f2 e2 e3 e4 e5 e6 e7
        have nx := ih (x + 1)
        rw [show ((x + 1 : Nat) : Int) = (x : Int) + 1 by omega] at nx
        have td : Int.tdiv (x : Int) 8 = (x : Int) / 8 := Int.tdiv_eq_ediv_of_nonneg (by omega)
        have tm : Int.tmod (x : Int) 8 = (x : Int) % 8 := Int.tmod_eq_emod_of_nonneg (by omega)
        have go : ∀ v, v = zrb t x → (0 ≤ (x : Int) ∧ (x : Int) < 64) ∧ Pb 2 ((x : Int) + 1) (z_up M1 208 x (z_wr (M1 208 x + v))) := fun v hv => by
          refine ⟨by omega, nx _ (by omega) (zf_us f2 (by decide)) (by rw [zu_c (by decide)]; exact e2) (by rw [← e3]; funext y; rw [zu_c (by decide)]) (by rw [← e4]; funext y; rw [zu_c (by decide)]) (fun w j a b => by rw [zu_c (by decide)]; exact e5 w j a b) (fun y a b => ?_) (fun y a b => by rw [zu_i (by omega)]; exact e7 y (by omega) b)⟩
          by_cases z : y = x
          · rw [z, zu_s, e7 x (by omega) (by omega), hv]
          · rw [zu_i z]; exact e6 y a (by omega)
        refine hB _ _ _ ⟨fun z => absurd z (by omega), fun _ => ⟨by omega, ?_⟩⟩
        rw [td, tm, zw (x := (x : Int) / 8) (by omega) (by omega), zw (x := (x : Int) + 1) (by omega) (by omega), e4, hr _ (by omega) (by omega), hr _ (by omega) (by omega)]
        refine ⟨by omega, by omega, fun z => s_M_flag (b := false) rfl (go 0 ?_), fun z => s_M_flag (b := true) rfl (go 1 ?_)⟩
        · unfold zrb; rw [if_pos z]
        · unfold zrb; rw [if_neg z]
    refine ⟨fun z => ?_, fun z => s_M_keepsTurn (fun M1 f2 x1 x2 => ?_)⟩
    · rw [v1] at z ⊢
      refine loop 64 0 _ (by omega) (zf_uj f1 (by decide)) (zu_s _ _ _ _) (by funext y; rw [zu_c (by decide)]) (by funext y; rw [zu_c (by decide)]) (fun _ j a b => ?_) (fun y a b => by omega) (fun y a b => by rw [zu_c (by decide)]; exact a1 y (by omega) b)
      rw [zu_c (by decide), if_neg z]; exact b1 z j a b
    · have z : q.1 = 0 := by rw [v1] at z; exact Classical.byContradiction z
      have e46 : M1 179 46 = q.1 := by rw [zf_a f2 179 46 rfl]; exact v1
      rw [e46]
      refine loop 64 0 _ (by omega) (zf_uj (zf_ww (zf_tr f1 f2) rfl rfl) (by decide)) (zu_s _ _ _ _) (by rw [← zf_c f2 206 rfl]; funext y; rw [zu_c (by decide)]) (by rw [← zf_c f2 197 rfl]; funext y; rw [zu_c (by decide)]) (fun _ j a b => ?_) (fun y a b => by omega) (fun y a b => by rw [zu_c (by decide), zf_c f2 208 rfl]; exact a1 y (by omega) b)
      rw [zu_c (by decide), if_pos z, x2 j a b]; exact (hT j a b).1
  · have wf : ¬ zfw D P t = true := fun y => w ((hW.2.2 t hp).mp y)
    unfold zuf at H
    rw [if_neg wf] at H
    exact H M ⟨f1, v1, a1, b1⟩ rfl rfl
theorem s_M_laysFits {d : Nat} {c m P : Int} {one oth ord len nam D : Int → Int} {M : zM} {F : zM → Prop} (h3 : M 179 3 = c) (ht : zTn c ord len nam) (hr : zRw M 183 c ord len nam) (hm : M 179 57 = m) (m8 : 0 ≤ m ∧ m ≤ 8) (hs : ∀ q, 0 ≤ q → q < m → M 216 q = one q ∧ M 217 q = oth q ∧ (0 ≤ one q ∧ one q < c) ∧ (0 ≤ oth q ∧ oth q < c)) (hW : zDm one oth len nam D P m)
    (H : ∀ M', zf [194, 195, 196, 206, 197, 207, 208] [(179, 43), (179, 46)] M M' → M' 179 46 = zEn D P 8 0 → (∀ i j, (0 ≤ i ∧ i < 8) → (0 ≤ j ∧ j < 8) → i ≠ j → M' 208 (8 * i + j) = zG D P i j 8 0) → (zEn D P 8 0 ≠ 0 → ∀ j, 0 ≤ j → j < 8 → M' 207 j = zfA D P 8 (fun _ => 0) 0 j) → F M') : zCv (d + 13) 239 [z_r (11, 0) 179] M F := by
  have nm : znm c len nam := ⟨ht.1, ht.2.2.1, fun x i a b a' b' => by have := ht.2.2.1 x a b; have := ht.1; exact ht.2.2.2 _ (by omega) (by omega)⟩
  have hP := hW.2.1
  refine e_M_laysFits (fun Pa hA => s_M_laysUnlike (by decide) (by decide) (by rw [h3]; exact zRw_nm ht hr) (fun M1 f1 U1 => ?_))
  rw [h3] at U1
  have U2 : zUn M1 c len nam := zUn_c ht hr U1
  have loop : ∀ (r x : Nat) (B : zM), x + r = 64 → zf [194, 195, 196, 208] [(179, 46)] M B → zUn B c len nam → B 179 46 = 0 → (∀ y : Int, 0 ≤ y → y < x → B 208 y = 0) → Pa (x : Int) B := by
    intro r
    induction r with
    | zero =>
      intro x B hx fB BU B46 B210
      have : x = 64 := by omega
      subst this
      refine hA _ _ ⟨fun _ => ?_, fun z => absurd (by omega) z⟩
      have gt := s_M_goesThrough (Inv := zFi B) (up := zuf (zfw D P)) (w := 2) (d := d + 3) (fun Ma Mb q hq f => ⟨zf_ww (zf_tr hq.1 f) rfl rfl, by rw [zf_a f 179 46 rfl]; exact hq.2.1, fun x a b => by rw [zf_c f 208 rfl]; exact hq.2.2.1 x a b, fun z j a b => by rw [zf_c f 207 rfl]; exact hq.2.2.2 z j a b⟩) (fun Ma q t F' hq hp ht' H' => s_looks2 nm BU (by rw [zf_a fB 179 57 rfl]; exact hm) m8 (fun q a b => by rw [zf_c fB 216 rfl, zf_c fB 217 rfl]; exact hs q a b) hW Ma q t F' hq hp ht' H') 8 0 0 (fun _ => 0) (0, (fun _ => 0), B 207) B
      rw [show d + 3 + 8 + 1 = d + 12 by omega] at gt
      refine gt _ (by omega) (by omega) (zPx_0 _) ⟨zf_rf, B46, fun x a b => B210 x a b, fun z => absurd rfl z⟩ (fun j a b => by omega) (fun M6 h6 _ => ?_)
      have eb := zEn_8 (D := D) hP
      have zg := zgo_fit (D := D) hP 8 0 (fun _ => 0) 0 0 (fun _ => 0) (B 207) (by omega) rfl rfl (by omega) (fun x => by omega) (by omega)
      rw [zg] at h6
      obtain ⟨y1, y2, y3, y4⟩ := h6
      have y2 : M6 179 46 = 0 + zEn D P 8 0 := y2
      rw [Int.zero_add] at y2
      refine H M6 (zf_ww (zf_tr fB y1) rfl rfl) y2 (fun i j hi hj hij => ?_) (fun z j a b => ?_)
      · have := y3 (8 * i + j) (by omega) (by omega)
        have this : M6 208 (8 * i + j) = 0 + zfz D (fun t => P * zrb t (8 * i + j)) 8 (fun _ => 0) 0 := this
        rw [this, Int.zero_add, zfz_G hi hj hij 8 0 (fun _ => 0) 0 (by omega) (zPx_0 _) (zb_0 _) (zb_0 _)]
      · have := y4 (show 0 + zEn D P 8 0 ≠ 0 by omega) j a b
        have this : M6 207 j = (if (0 : Int) = 0 ∧ 0 < zEn D P 8 0 then zfA D P 8 (fun _ => 0) 0 else B 207) j := this
        rw [if_pos (by omega)] at this
        exact this
    | succ r ih =>
      intro x B hx fB BU B46 B210
      refine hA _ _ ⟨fun z => absurd z (by omega), fun _ => ⟨by omega, ?_⟩⟩
      rw [zw (x := (x : Int) + 1) (by omega) (by omega)]
      have := ih (x + 1) (z_up B 208 x 0) (by omega) (zf_us fB (by decide)) (fun a b a0 a1 b0 b1 => by rw [zu_c (by decide), zu_c (by decide), zu_c (by decide)]; exact BU a b a0 a1 b0 b1) (by rw [zu_c (by decide)]; exact B46) (fun y a b => ?_)
      · rw [show ((x + 1 : Nat) : Int) = (x : Int) + 1 by omega] at this
        exact this
      · by_cases z : y = x
        · rw [z, zu_s]
        · rw [zu_i z]; exact B210 y a (by omega)
  exact loop 64 0 _ (by omega) (zf_uj (zf_ww f1 rfl rfl) (by decide)) (fun a b a0 a1 b0 b1 => by rw [zu_c (by decide), zu_c (by decide), zu_c (by decide)]; exact U2 a b a0 a1 b0 b1) (zu_s _ _ _ _) (fun y a b => by omega)

/-! waits() -/
/-- in turn: minutes waited by all, drunk so far, waited by the last -/
def zwt (u : Int → Int) : Nat → Int × Int × Int
  | 0 => (0, 0, 0)
  | k + 1 => if u (k : Int) ≤ 0 then zwt u k else ((zwt u k).1 + (zwt u k).2.1, (zwt u k).2.1 + u (k : Int), (zwt u k).2.1)
theorem zwt_r {u : Int → Int} : ∀ n : Nat, (∀ k : Int, 0 ≤ k → k < n → 0 ≤ u k ∧ u k ≤ 9) → (0 ≤ (zwt u n).2.1 ∧ (zwt u n).2.1 ≤ 9 * n) ∧ (n ≤ 8 → 0 ≤ (zwt u n).1 ∧ (zwt u n).1 ≤ 72 * n)
  | 0, _ => by show (0 ≤ (0 : Int) ∧ (0 : Int) ≤ 9 * 0) ∧ (_ → 0 ≤ (0 : Int) ∧ (0 : Int) ≤ 72 * 0); omega
  | n + 1, h => by
    have ih := zwt_r n (fun k a b => h k a (by omega))
    have := h n (by omega) (by omega)
    unfold zwt
    split
    · omega
    · dsimp only; omega
def zfi (u : Int → Int) (v : Int) (s : Int × Int) : Nat → Int × Int
  | 0 => s
  | j + 1 => if u (j : Int) ≠ v then zfi u v s j else ((zfi u v s j).1 + (zfi u v s j).2, (zfi u v s j).2 + v)
def zfo (u : Int → Int) (c : Nat) : Nat → Int × Int
  | 0 => (0, 0)
  | v + 1 => zfi u ((v : Int) + 1) (zfo u c v) c
theorem zfi_r {u : Int → Int} {v : Int} {s : Int × Int} {t : Int} (hv : 0 ≤ v ∧ v ≤ 9) (ht : 0 ≤ t ∧ t ≤ 72) (hs : (0 ≤ s.2 ∧ s.2 ≤ 9 * t) ∧ 0 ≤ s.1 ∧ s.1 ≤ 1000 * t) : ∀ n : Nat, n ≤ 8 → (0 ≤ (zfi u v s n).2 ∧ (zfi u v s n).2 ≤ 9 * (t + n)) ∧ 0 ≤ (zfi u v s n).1 ∧ (zfi u v s n).1 ≤ 1000 * (t + n)
  | 0, _ => by show (0 ≤ s.2 ∧ s.2 ≤ 9 * (t + 0)) ∧ 0 ≤ s.1 ∧ s.1 ≤ 1000 * (t + 0); omega
  | n + 1, h => by
    have ih := zfi_r (u := u) hv ht hs n (by omega)
    unfold zfi
    split
    · omega
    · dsimp only; omega
theorem zfo_r {u : Int → Int} {c : Nat} (hc : c ≤ 8) : ∀ n : Nat, n ≤ 9 → (0 ≤ (zfo u c n).2 ∧ (zfo u c n).2 ≤ 9 * (8 * n)) ∧ 0 ≤ (zfo u c n).1 ∧ (zfo u c n).1 ≤ 1000 * (8 * n)
  | 0, _ => by show (0 ≤ (0 : Int) ∧ (0 : Int) ≤ 9 * (8 * 0)) ∧ 0 ≤ (0 : Int) ∧ (0 : Int) ≤ 1000 * (8 * 0); omega
  | n + 1, h => by
    have ih := zfo_r (u := u) hc n (by omega)
    have := zfi_r (u := u) (v := (n : Int) + 1) (s := zfo u c n) (t := 8 * n) (by omega) (by omega) ih c hc
    show (0 ≤ (zfi u ((n : Int) + 1) (zfo u c n) c).2 ∧ (zfi u ((n : Int) + 1) (zfo u c n) c).2 ≤ _) ∧ 0 ≤ (zfi u ((n : Int) + 1) (zfo u c n) c).1 ∧ (zfi u ((n : Int) + 1) (zfo u c n) c).1 ≤ _
    omega
theorem s_W_fewestMinutes {d : Nat} {U : Int → Int} {M : zM} {F : Int → zM → Prop} (hc : 0 ≤ M 23 5 ∧ M 23 5 ≤ 8) (hU : ∀ h, 0 ≤ h → h < M 23 5 → M 48 h = U h) (H : F (zfo U (M 23 5).toNat 9).1 M) : zCi (d + 1) 76 [z_r (10, 0) 0] M F := by
  refine e_W_fewestMinutes (fun P Q hP hQ => ?_)
  have loop : ∀ (m v : Nat), v + m = 9 → P (zfo U (M 23 5).toNat v).1 (zfo U (M 23 5).toNat v).2 ((v : Int) + 1) M := by
    intro m
    induction m with
    | zero =>
      intro v hv
      refine hP _ _ _ _ ⟨fun _ => ?_, fun z => absurd (by omega) z⟩
      rw [show v = 9 by omega]; exact H
    | succ m ih =>
      intro v hv
      refine hP _ _ _ _ ⟨fun z => absurd z (by omega), fun _ => ?_⟩
      have r0 := zfo_r (u := U) (c := (M 23 5).toNat) (by omega) v (by omega)
      have loop2 : ∀ (m j : Nat), (j : Int) + m = M 23 5 → Q (zfi U ((v : Int) + 1) (zfo U (M 23 5).toNat v) j).1 (zfi U ((v : Int) + 1) (zfo U (M 23 5).toNat v) j).2 ((v : Int) + 1) (j : Int) M := by
        intro m
        induction m with
        | zero =>
          intro j hj
          refine hQ _ _ _ _ _ ⟨fun _ => ?_, fun z => absurd (by omega) z⟩
          have := ih (v + 1) (by omega)
          rw [zw (x := (v : Int) + 1 + 1) (by omega) (by omega), show j = (M 23 5).toNat by omega]
          rw [show ((v + 1 : Nat) : Int) = (v : Int) + 1 by omega] at this
          exact this
        | succ m ih2 =>
          intro j hj
          have r1 := zfi_r (u := U) (v := (v : Int) + 1) (s := zfo U (M 23 5).toNat v) (t := 8 * v) (by omega) (by omega) r0 j (by omega)
          have nx := ih2 (j + 1) (by omega)
          rw [show ((j + 1 : Nat) : Int) = (j : Int) + 1 by omega] at nx
          refine hQ _ _ _ _ _ ⟨fun z => absurd z (by omega), fun _ => ⟨by omega, fun z => ?_, fun z => ?_⟩⟩
          · rw [hU j (by omega) (by omega)] at z
            unfold zfi at nx
            rw [if_pos z] at nx
            rw [zw (x := (j : Int) + 1) (by omega) (by omega)]
            exact nx
          · rw [hU j (by omega) (by omega)] at z
            unfold zfi at nx
            rw [if_neg z] at nx
            rw [zw (x := (j : Int) + 1) (by omega) (by omega), zw (x := (zfi U ((v : Int) + 1) (zfo U (M 23 5).toNat v) j).1 + _) (by omega) (by omega), zw (x := (zfi U ((v : Int) + 1) (zfo U (M 23 5).toNat v) j).2 + _) (by omega) (by omega)]
            exact nx
      exact loop2 (M 23 5).toNat 0 (by omega)
  exact loop 9 0 (by omega)
theorem p_waits {d : Nat} {n : Int} {M : zM} (hI : zI n M) (hn : n < 512) : zQ (d + 7) 75 214 [z_r (10, 0) 0] [z_r (11, 0) 179] n M := by
  have hI0 := hI
  obtain ⟨hb, hT, hR, hJ⟩ := hI
  have hJ0 := hJ
  obtain ⟨i1, i2, i3, i4, i5, i6, i7, i8⟩ := zJ_in hJ
  obtain ⟨c1, c2, c3⟩ := zJ_count hJ
  have hbk := zbk_g i4
  unfold zQ
  refine e_W_waits (fun P hP => s_W_pourToday hJ (fun M1 f1 t1 _ u1 => ?_))
  have ec : M1 23 5 = M 179 3 := by rw [zf_a f1 23 5 rfl]; exact c1
  have hUr := fun h (hh : 0 ≤ h ∧ h < M 179 3) => zUh_r i4 (zW_r M (M 23 6)) i3 hh
  generalize hT' : zTg (M 179 3) (M 24) (M 26) (M 25) = T at t1 hbk
  generalize hU : zUh (M 179 3) (M 24) (M 26) (M 25) (M 46) (zW M (M 23 6)) = U at u1 hUr
  have hu9 : ∀ k, 0 ≤ k → k < M 179 3 → 0 ≤ U (T k) ∧ U (T k) ≤ 9 := fun k a b => by
    obtain ⟨q1, q2, q3⟩ := hbk.2 k a b
    have := hUr (T k) ⟨q1, q2⟩
    have := i3 (T k) q1 q2
    omega
  have loop : ∀ (m i : Nat), (i : Int) + m = M 179 3 → P (zwt (fun k => U (T k)) i).1 (zwt (fun k => U (T k)) i).2.2 (zwt (fun k => U (T k)) i).2.1 (i : Int) M1 := by
    intro m
    induction m with
    | zero =>
      intro i hi
      have hi : i = (M 179 3).toNat := by omega
      refine hP _ _ _ _ _ ⟨fun _ => s_W_fewestMinutes (U := U) (by rw [ec]; exact ⟨c2, c3⟩) (by rw [ec]; exact u1) (s_Row_tellTwo (fun M2 f2 r1 r2 r3 => ?_)), fun z => absurd (by omega) z⟩
      rw [ec] at r2
      rw [hi] at r3 ⊢
      have f12 := zf_tr f1 f2
      have f13 : zf ([36, 37, 38, 39, 48, 7, 8, 9, 10, 11, 12, 13] ++ [4]) ([(35, 4), (45, 4), (45, 5), (5, 9)] ++ [(3, 1)] ++ [(179, 0)]) M (z_up M2 179 0 0) := zf_uj (zf_ww f12 rfl rfl) (by decide)
      have hJ3 := zJ_f hJ0 f13 rfl
      refine e_M_waits (fun P2 Q2 R2 hP2 hQ2 hR2 => s_M_givesNow hJ3 (fun M4 f4 t4 _ u4 => ?_))
      rw [zf_a f13 179 3 rfl, zf_c f13 24 rfl, zf_c f13 25 rfl, zf_c f13 26 rfl, hT'] at t4
      rw [zf_a f13 179 3 rfl, zf_a f13 23 6 rfl, zf_c f13 24 rfl, zf_c f13 25 rfl, zf_c f13 26 rfl, zf_c f13 46 rfl, zW_f f13 rfl, hU] at u4
      have f14 := zf_tr f13 f4
      have e3 : M4 179 3 = M 179 3 := zf_a f14 179 3 rfl
      -- the end
      have fin : ∀ a l, a = (zfo U (M 179 3).toNat 9).1 → l = (zwt (fun k => U (T k)) (M 179 3).toNat).2.2 → ∀ v, v = (zwt (fun k => U (T k)) (M 179 3).toNat).1 → ∀ b x, 9 < x → Q2 v b l a (zfo U (M 179 3).toNat 9).2 x M4 := by
        intro a l ha hl v hv b x hx
        refine hQ2 _ _ _ _ _ _ _ ⟨fun _ => s_M_enters (by rw [zu_s]; omega) ?_, fun z => absurd hx z⟩
        rw [zu_s]
        refine s_M_enters (by rw [zu_s]; omega) ?_
        rw [zu_s]
        refine ⟨hv.symm, ?_⟩
        have g1 : zf ([36, 37, 38, 39, 48, 7, 8, 9, 10, 11, 12, 13] ++ [4] ++ [192, 193, 194, 195, 196, 197, 198, 199, 200] ++ [180]) ([(35, 4), (45, 4), (45, 5), (5, 9)] ++ [(3, 1)] ++ [(179, 0)] ++ [] ++ [(179, 1)]) M (z_up M4 179 1 0) := zf_uj (zf_ww f14 rfl rfl) (by decide)
        refine zI_2 hI0 hn (zf_uj (zf_us (zf_uj (zf_us g1 (by decide)) (by decide)) (by decide)) (by decide)) rfl rfl 2 (by omega) ?_ (zu_s _ _ _ _) (fun y p q => ?_)
        · rw [zu_c (by decide), zu_c (by decide), zu_c (by decide), zu_c (by decide), zu_c (by decide), zf_a f4 3 1 rfl, zu_c (by decide)]; exact r1
        · have e4 : ∀ y, M4 4 y = M2 4 y := fun y => by rw [zf_c f4 4 rfl, zu_c (by decide)]
          rw [zu_c (by decide), zu_c (by decide), zu_c (by decide), zu_c (by decide), zu_c (by decide), e4]
          have : y = 0 ∨ y = 1 := by omega
          rcases this with rfl | rfl
          · rw [r2, zu_c (by decide), zu_i (by decide), zu_c (by decide), ha]; exact (zu_s _ _ _ _).symm
          · rw [r3, zu_c (by decide), hl]; exact (zu_s _ _ _ _).symm
      -- the fewest
      have few : ∀ (m v : Nat), v + m = 9 → ∀ b, Q2 (zwt (fun k => U (T k)) (M 179 3).toNat).1 b (zwt (fun k => U (T k)) (M 179 3).toNat).2.2 (zfo U (M 179 3).toNat v).1 (zfo U (M 179 3).toNat v).2 ((v : Int) + 1) M4 := by
        intro m
        induction m with
        | zero =>
          intro v hv b
          have hv : v = 9 := by omega
          subst hv
          exact fin _ _ rfl rfl _ rfl b _ (by decide)
        | succ m ih =>
          intro v hv b
          have r0 := zfo_r (u := U) (c := (M 179 3).toNat) (by omega) v (by omega)
          refine hQ2 _ _ _ _ _ _ _ ⟨fun z => absurd z (by omega), fun _ => ?_⟩
          have loop2 : ∀ (m j : Nat), (j : Int) + m = M 179 3 → R2 (zwt (fun k => U (T k)) (M 179 3).toNat).1 b (zwt (fun k => U (T k)) (M 179 3).toNat).2.2 (zfi U ((v : Int) + 1) (zfo U (M 179 3).toNat v) j).1 (zfi U ((v : Int) + 1) (zfo U (M 179 3).toNat v) j).2 ((v : Int) + 1) (j : Int) M4 := by
            intro m
            induction m with
            | zero =>
              intro j hj
              refine hR2 _ _ _ _ _ _ _ _ ⟨fun _ => ?_, fun z => absurd (by omega) z⟩
              have := ih (v + 1) (by omega) b
              rw [zw (x := (v : Int) + 1 + 1) (by omega) (by omega), show j = (M 179 3).toNat by omega]
              rw [show ((v + 1 : Nat) : Int) = (v : Int) + 1 by omega] at this
              exact this
            | succ m ih2 =>
              intro j hj
              have r1 := zfi_r (u := U) (v := (v : Int) + 1) (s := zfo U (M 179 3).toNat v) (t := 8 * v) (by omega) (by omega) r0 j (by omega)
              have nx := ih2 (j + 1) (by omega)
              rw [show ((j + 1 : Nat) : Int) = (j : Int) + 1 by omega] at nx
              unfold zfi at nx
              refine hR2 _ _ _ _ _ _ _ _ ⟨fun z => absurd z (by omega), fun _ => ⟨by omega, fun z => ⟨by omega, fun _ => ?_, fun z2 => absurd z z2⟩, fun z => ⟨by omega, fun z2 => absurd z2 z, fun _ => ?_⟩⟩⟩
              · rw [u4 j (by omega) (by omega)] at z
                rw [if_pos z] at nx
                rw [zw (x := (j : Int) + 1) (by omega) (by omega), zw (x := (zfi U ((v : Int) + 1) (zfo U (M 179 3).toNat v) j).1 + _) (by omega) (by omega), zw (x := (zfi U ((v : Int) + 1) (zfo U (M 179 3).toNat v) j).2 + _) (by omega) (by omega), Int.add_zero, Int.add_zero]
                exact nx
              · rw [u4 j (by omega) (by omega)] at z
                rw [if_neg z] at nx
                rw [zw (x := (j : Int) + 1) (by omega) (by omega), zw (x := (zfi U ((v : Int) + 1) (zfo U (M 179 3).toNat v) j).1 + _) (by omega) (by omega), zw (x := (zfi U ((v : Int) + 1) (zfo U (M 179 3).toNat v) j).2 + _) (by omega) (by omega)]
                exact nx
          exact loop2 (M 179 3).toNat 0 (by omega)
      have loop3 : ∀ (m i : Nat), (i : Int) + m = M 179 3 → P2 (zwt (fun k => U (T k)) i).1 (zwt (fun k => U (T k)) i).2.1 (zwt (fun k => U (T k)) i).2.2 (i : Int) M4 := by
        intro m
        induction m with
        | zero =>
          intro i hi
          have hi : i = (M 179 3).toNat := by omega
          subst hi
          refine hP2 _ _ _ _ _ ⟨fun _ => few 9 0 (by omega) _, fun z => absurd (by omega) z⟩
        | succ m ih =>
          intro i hi
          have nx := ih (i + 1) (by omega)
          have r := zwt_r (u := fun k => U (T k)) i (fun k a b => hu9 k a (by omega))
          have r9 := hu9 i (by omega) (by omega)
          obtain ⟨q1, q2, q3⟩ := hbk.2 i (by omega) (by omega)
          rw [show ((i + 1 : Nat) : Int) = (i : Int) + 1 by omega] at nx
          unfold zwt at nx
          refine hP2 _ _ _ _ _ ⟨fun z => absurd z (by omega), fun _ => ?_⟩
          rw [t4 i (by omega) (by omega), u4 _ q1 q2]
          refine ⟨by omega, by omega, fun z => ⟨fun _ => ?_, fun z2 => absurd z z2⟩, fun z => ⟨fun z2 => absurd z2 z, fun _ => ?_⟩⟩
          · rw [if_pos z] at nx
            rw [show U (T i) = 0 by omega, zw (x := (i : Int) + 1) (by omega) (by omega), zw (x := (zwt (fun k => U (T k)) i).1 + 0) (by omega) (by omega), zw (x := (zwt (fun k => U (T k)) i).2.1 + 0) (by omega) (by omega), Int.add_zero, Int.add_zero]
            exact nx
          · rw [if_neg z] at nx
            rw [zw (x := (i : Int) + 1) (by omega) (by omega), zw (x := (zwt (fun k => U (T k)) i).1 + _) (by omega) (by omega), zw (x := (zwt (fun k => U (T k)) i).2.1 + _) (by omega) (by omega)]
            exact nx
      exact loop3 (M 179 3).toNat 0 (by omega)
    | succ m ih =>
      intro i hi
      have nx := ih (i + 1) (by omega)
      have r := zwt_r (u := fun k => U (T k)) i (fun k a b => hu9 k a (by omega))
      have r9 := hu9 i (by omega) (by omega)
      obtain ⟨q1, q2, q3⟩ := hbk.2 i (by omega) (by omega)
      rw [show ((i + 1 : Nat) : Int) = (i : Int) + 1 by omega] at nx
      unfold zwt at nx
      refine hP _ _ _ _ _ ⟨fun z => absurd z (by omega), fun _ => ?_⟩
      rw [t1 i (by omega) (by omega), u1 _ q1 q2]
      refine ⟨by omega, by omega, fun z => ?_, fun z => ?_⟩
      · rw [if_pos z] at nx
        rw [zw (x := (i : Int) + 1) (by omega) (by omega)]
        exact nx
      · rw [if_neg z] at nx
        rw [zw (x := (i : Int) + 1) (by omega) (by omega), zw (x := (zwt (fun k => U (T k)) i).1 + _) (by omega) (by omega), zw (x := (zwt (fun k => U (T k)) i).2.1 + _) (by omega) (by omega)]
        exact nx
  exact loop (M 179 3).toNat 0 (by omega)

/-! pairs: told by the class; sought by the reference -/
theorem s_Matching_spouseOf {d : Nat} {w : Int → Int → Int} {c S i : Int} {f : Nat} {M : zM} {F : Int → zM → Prop} (hw : ∀ a b, -8 ≤ w a b ∧ w a b ≤ 8) (hc : 0 ≤ c ∧ c ≤ 8) (hf : i + 1 + (f : Int) = c) (hS : 0 ≤ S ∧ S < ((2 ^ c.toNat : Nat) : Int)) (hS8 : S < 256) (h0 : ∀ h, 0 ≤ h → h < i → zb S h = false) (hi : 0 ≤ i) (hb : zb S i = true) (hW : zWg w c M) (hT : ∀ S, 0 ≤ S → S < ((2 ^ c.toNat : Nat) : Int) → M 159 S = zVs w c S) (H : F (if zxV (zpp i (zb S)) (zpg w i (fun x => zpv (zpf w c f x)) (zb S)) c.toNat < zpv (zpf w c f (zb S)) then -1 else zxX (zpp i (zb S)) (zpg w i (fun x => zpv (zpf w c f x)) (zb S)) c.toNat) M) : zCi (d + 2) 109 [z_r (1, 0) 157, z_i i, z_i (zbr S i), z_i (zVs w c S), z_i c] M F := by
  have f8 : f ≤ 8 := by omega
  have due : zVs w c S = if zxV (zpp i (zb S)) (zpg w i (fun x => zpv (zpf w c f x)) (zb S)) c.toNat < zpv (zpf w c f (zb S)) then zpv (zpf w c f (zb S)) else zxV (zpp i (zb S)) (zpg w i (fun x => zpv (zpf w c f x)) (zb S)) c.toNat := by
    unfold zVs
    rw [zpf_f hi hf h0]
    exact zpf_v hw f8 (by omega) hb
  have pb := zpv_b (w := w) (c := c) hw f8 (zb S)
  have le := zxV_le (p := zpp i (zb S)) (g := zpg w i (fun x => zpv (zpf w c f x)) (zb S)) c.toNat
  have vx := zxV_X (p := zpp i (zb S)) (g := zpg w i (fun x => zpv (zpf w c f x)) (zb S)) c.toNat
  have l1 := zbr_lt (i := i) ⟨hS.1, hS8⟩ (by omega)
  have g1 := zbr_gt ⟨hS.1, hS8⟩ (show 0 ≤ i ∧ i < 8 by omega) hb
  generalize hV : zxV (zpp i (zb S)) (zpg w i (fun x => zpv (zpf w c f x)) (zb S)) c.toNat = V at due le vx H
  generalize hX : zxX (zpp i (zb S)) (zpg w i (fun x => zpv (zpf w c f x)) (zb S)) c.toNat = X at vx H
  refine e_Matching_spouseOf (fun P hP => ?_)
  rw [zw (x := i + 1) (by omega) (by omega)]
  have loop : ∀ (m n : Nat), (n : Int) + m = c → i < n → (∀ j : Int, 0 ≤ j → j < n → zpp i (zb S) j = true → zpg w i (fun x => zpv (zpf w c f x)) (zb S) j ≠ zVs w c S) → P i (zbr S i) (zVs w c S) c (n : Int) M := by
    intro m
    induction m with
    | zero =>
      intro n hn hin no
      refine hP _ _ _ _ _ _ ⟨fun _ => ?_, fun z => absurd (by omega) z⟩
      by_cases q : V < zpv (zpf w c f (zb S))
      · rw [if_pos q] at H; exact H
      · exfalso
        rw [if_neg q] at due
        rcases vx with e | ⟨x1, x2, x3, _⟩
        · omega
        · exact no X x1.1 (by omega) x2 (by rw [x3, due])
    | succ m ih =>
      intro n hn hin no
      have nx := ih (n + 1) (by omega) (by omega)
      rw [show ((n + 1 : Nat) : Int) = (n : Int) + 1 by omega] at nx
      have ebn : zb (zbr S i) n = zb S n := by rw [zb_zbr (by omega) (by omega) (by omega), decide_eq_false (show ¬ i = (n : Int) by omega)]; simp
      have epn : zpp i (zb S) n = zb S n := by unfold zpp; rw [decide_eq_true hin, Bool.and_true]
      refine hP _ _ _ _ _ _ ⟨fun z => absurd z (by omega), fun _ => s_W_isIn (by omega) (by omega) ?_⟩
      rw [ebn, zw (x := (n : Int) + 1) (by omega) (by omega)]
      by_cases z : zb S n = true
      · rw [if_pos z]
        have l2 := zbr_lt (i := n) l1 (by omega)
        have g2 := zbr_gt l1 (show 0 ≤ (n : Int) ∧ (n : Int) < 8 by omega) (by rw [ebn]; exact z)
        refine ⟨fun y => absurd y (by decide), fun _ => s_Matching_worthWith hw hc hf ⟨hS.1, hS8⟩ h0 hi ⟨hin, by omega⟩ z hW (hT _ l2.1 (by omega)) ⟨fun y => nx (fun j a b h => ?_), fun y => ?_⟩⟩
        · by_cases q : j = n
          · rw [q]; exact y
          · exact no j a (by omega) h
        · have y : zpg w i (fun x => zpv (zpf w c f x)) (zb S) n = zVs w c S := Classical.byContradiction y
          have l3 := le n (by omega) (by omega) (by rw [epn]; exact z)
          have q : ¬ V < zpv (zpf w c f (zb S)) := fun q => by rw [if_pos q] at due; omega
          rw [if_neg q] at due H
          have : X = n := by
            rcases vx with e | ⟨x1, x2, x3, x4⟩
            · omega
            · rcases Int.lt_trichotomy X n with q | q | q
              · exact absurd (by rw [x3, due]) (no X x1.1 q x2)
              · exact q
              · have := x4 n (by omega) q (by rw [epn]; exact z)
                omega
          rw [← this]; exact H
      · rw [if_neg z]
        refine ⟨fun _ => nx (fun j a b h => ?_), fun y => absurd rfl y⟩
        by_cases q : j = n
        · rw [q, epn] at h; exact absurd h z
        · exact no j a (by omega) h
  have := loop (c - 1 - i).toNat (i.toNat + 1) (by omega) (by omega) (fun j a b h => by
    unfold zpp at h
    rw [decide_eq_false (show ¬ i < j by omega), Bool.and_false] at h
    cases h)
  rw [show ((i.toNat + 1 : Nat) : Int) = i + 1 by omega] at this
  exact this
theorem s_Matching_tellPairs {d : Nat} {w : Int → Int → Int} {c : Int} {M : zM} {F : Int → zM → Prop} (hw : ∀ a b, -8 ≤ w a b ∧ w a b ≤ 8) (hc : 0 ≤ c ∧ c ≤ 8) (hW : zWg w c M) (hT : ∀ S, 0 ≤ S → S < ((2 ^ c.toNat : Nat) : Int) → M 159 S = zVs w c S) (H : ∀ M', zf [4] [(3, 1)] M M' → M' 3 1 = ((zpf w c c.toNat (fun _ => true)).2.2.length : Int) → M' 3 1 ≤ 8 → (∀ k : Nat, k < (zpf w c c.toNat (fun _ => true)).2.2.length → M' 4 (k : Int) = (zpf w c c.toNat (fun _ => true)).2.2.getD k 0) → F (zpf w c c.toNat (fun _ => true)).1 M') : zCi (d + 3) 108 [z_r (1, 0) 157, z_r (5, 0) 3, z_i c] M F := by
  have p2 : ((2 ^ c.toNat : Nat) : Int) ≤ 256 := by
    have : (2 ^ c.toNat : Nat) ≤ 2 ^ 8 := Nat.pow_le_pow_right (by omega) (by omega)
    omega
  obtain ⟨fr, fb⟩ := zb_full hc
  refine e_Matching_tellPairs (fun P hP => ?_)
  generalize z_wr (z_shl 1 c - 1) = S0 at fr fb
  have e0 : zpf w c c.toNat (zb S0) = zpf w c c.toNat (fun _ => true) := zpf_c _ _ _ (fun h a b => by rw [fb h (by omega)]; exact decide_eq_true b)
  rw [← e0] at H
  generalize hL : zpf w c c.toNat (zb S0) = L at H
  have loop : ∀ (f i : Nat) (S x : Int) (acc : List Int) (M1 : zM), (i : Int) + f = c → (0 ≤ S ∧ S < ((2 ^ c.toNat : Nat) : Int)) → (∀ h, 0 ≤ h → h < (i : Int) → zb S h = false) → x + (zpf w c f (zb S)).1 = L.1 → acc ++ (zpf w c f (zb S)).2.2 = L.2.2 → (acc.length : Int) + zcard S ≤ 8 → (-100 ≤ x ∧ x ≤ 100) → (-8 * (acc.length : Int) ≤ x ∧ x ≤ 8 * acc.length) → zf [4] [(3, 1)] M M1 → M1 3 1 = acc.length → (∀ k : Nat, k < acc.length → M1 4 (k : Int) = acc.getD k 0) → P c x S (i : Int) M1 := by
    intro f
    induction f with
    | zero =>
      intro i S x acc M1 hi hS hz ex el hl hx hx2 f1 r1 r2
      have cr := zcard_r S
      refine hP _ _ _ _ _ ⟨fun _ => ?_, fun z => absurd (by omega) z⟩
      have ex : x + 0 = L.1 := ex
      have el : acc ++ [] = L.2.2 := el
      rw [List.append_nil] at el
      rw [show x = L.1 by omega]
      exact H M1 f1 (by rw [r1, el]) (by omega) (fun k hk => by rw [← el] at hk ⊢; exact r2 k hk)
    | succ f ih =>
      intro i S x acc M1 hi hS hz ex el hl hx hx2 f1 r1 r2
      have S8 : 0 ≤ S ∧ S < 256 := by omega
      have cr := zcard_r S
      have sub := (zb_lt2 (x := S) hc hS.1).mp hS.2
      have nx := ih (i + 1)
      rw [show ((i + 1 : Nat) : Int) = (i : Int) + 1 by omega] at nx
      have es := zpf_s (w := w) (c := c) (a := (i : Int)) (f := f) (av := zb S) (by omega)
      rw [es] at ex el
      refine hP _ _ _ _ _ ⟨fun z => absurd z (by omega), fun _ => s_W_isIn (by omega) (by omega) ?_⟩
      rw [zw (x := (i : Int) + 1) (by omega) (by omega)]
      by_cases z : zb S (i : Int) = true
      · rw [if_pos z] at ex el ⊢
        have l1 := zbr_lt (i := i) S8 (by omega)
        have g1 := zbr_gt S8 (show 0 ≤ (i : Int) ∧ (i : Int) < 8 by omega) z
        have hi1 : (i : Int) + 1 + (f : Int) = c := by omega
        refine ⟨fun y => absurd y (by decide), fun _ => ⟨S8, ?_⟩⟩
        show zCi (d + 2) 109 [z_r (1, 0) 157, z_i (i : Int), z_i (zbr S i), z_i (M1 159 S), z_i c] M1 _
        have T1 : ∀ S, 0 ≤ S → S < ((2 ^ c.toNat : Nat) : Int) → M1 159 S = zVs w c S := fun S a b => by rw [zf_c f1 159 rfl]; exact hT S a b
        have W1 : zWg w c M1 := fun a b a0 a1 b0 b1 => by rw [zf_c f1 158 rfl]; exact hW a b a0 a1 b0 b1
        rw [T1 S hS.1 hS.2]
        refine s_Matching_spouseOf hw hc hi1 hS S8.2 hz (by omega) z W1 T1 ?_
        have vx := zxV_X (p := zpp (i : Int) (zb S)) (g := zpg w i (fun x => zpv (zpf w c f x)) (zb S)) c.toNat
        have pb := zpv_b (w := w) (c := c) hw (f := f) (by omega) (zb S)
        generalize zxV (zpp (i : Int) (zb S)) (zpg w i (fun x => zpv (zpf w c f x)) (zb S)) c.toNat = V at vx ex el
        generalize zxX (zpp (i : Int) (zb S)) (zpg w i (fun x => zpv (zpf w c f x)) (zb S)) c.toNat = X at vx ex el
        have zr : ∀ h, 0 ≤ h → h < (i : Int) + 1 → zb (zbr S i) h = false := fun h a b => by
          rw [zb_zbr (by omega) (by omega) a]
          by_cases q : h = i
          · rw [q, decide_eq_true (show (i : Int) = i from rfl)]; simp
          · rw [hz h a (by omega)]; rfl
        by_cases q : V < zpv (zpf w c f (zb S))
        · rw [if_pos q] at ex el ⊢
          refine ⟨fun _ => ?_, fun y => absurd rfl y⟩
          have ec : zpf w c f (zb (zbr S i)) = zpf w c f (zb S) := zpf_c f _ _ (fun h a b => by rw [zb_zbr (by omega) (by omega) (by omega), decide_eq_false (show ¬ (i : Int) = h by omega)]; simp)
          exact nx (zbr S i) x acc M1 (by omega) (by omega) zr (by rw [ec]; exact ex) (by rw [ec]; exact el) (by omega) hx hx2 f1 r1 r2
        · rw [if_neg q] at ex el ⊢
          rcases vx with e | ⟨x1, x2, x3, x4⟩
          · omega
          · have bX : zb S X = true ∧ (i : Int) < X := by
              unfold zpp at x2
              rw [Bool.and_eq_true] at x2
              exact ⟨x2.1, of_decide_eq_true x2.2⟩
            have Xc : X < c := by omega
            have ebX : zb (zbr S i) X = true := by rw [zb_zbr (by omega) (by omega) (by omega), decide_eq_false (show ¬ (i : Int) = X by omega), bX.1]; rfl
            have l2 := zbr_lt (i := X) l1 (by omega)
            have g2 := zbr_gt l1 (show 0 ≤ X ∧ X < 8 by omega) ebX
            have cr2 := zcard_r (zbr (zbr S i) X)
            have ec : zpf w c f (zb (zbr (zbr S i) X)) = zpf w c f (zdl (zb S) X) := zpf_c f _ _ (fun h a b => by
              rw [zb_zbr (by omega) (by omega) (by omega), zb_zbr (by omega) (by omega) (by omega), decide_eq_false (show ¬ (i : Int) = h by omega)]
              unfold zdl
              by_cases q : h = X
              · rw [if_pos q, decide_eq_true q.symm]; simp
              · rw [if_neg q, decide_eq_false (fun e => q e.symm)]; simp)
            have wb := hw i X
            refine ⟨fun y => absurd y (by omega), fun _ => s_Row_add (by omega) (s_Row_add ?_ ⟨?_, ?_⟩)⟩
            · rw [zu_s]; omega
            · rw [zw (x := (i : Int) * 8) (by omega) (by omega), zw (x := (i : Int) * 8 + X) (by omega) (by omega)]; omega
            · rw [zw (x := (i : Int) * 8) (by omega) (by omega), zw (x := (i : Int) * 8 + X) (by omega) (by omega), show (i : Int) * 8 + X = 8 * i + X by omega]
              rw [zu_s, zu_c (by decide), zu_c (by decide), zu_c (by decide), zu_c (by decide), W1 i X (by omega) (by omega) (by omega) Xc, zw (x := x + w i X) (by omega) (by omega), r1]
              show P c (x + w i X) (zbr (zbr S i) X) ((i : Int) + 1) _
              have ll : ((acc ++ [(i : Int), X]).length : Int) = acc.length + 2 := by rw [List.length_append]; simp
              refine nx (zbr (zbr S i) X) (x + w i X) (acc ++ [(i : Int), X]) _ (by omega) (by omega) (fun h a b => ?_) ?_ ?_ (by omega) (by omega) (by omega) (zf_uj (zf_us (zf_uj (zf_us f1 (by decide)) (by decide)) (by decide)) (by decide)) (by rw [zu_s]; omega) (fun k hk => ?_)
              · rw [zb_zbr (by omega) (by omega) a, zr h a b]; rfl
              · rw [ec]
                have ex : x + (w i X + (zpf w c f (zdl (zb S) X)).1) = L.1 := ex
                omega
              · rw [ec, List.append_assoc]; exact el
              · rw [zu_c (by decide)]
                by_cases k1 : (k : Int) = acc.length + 1
                · rw [k1, zu_s, show k = acc.length + 1 by omega]
                  simp [List.getD_eq_getElem?_getD, List.getElem?_append_right]
                · rw [zu_i k1, zu_c (by decide)]
                  by_cases k2 : (k : Int) = acc.length
                  · rw [k2, zu_s, show k = acc.length by omega]
                    simp [List.getD_eq_getElem?_getD, List.getElem?_append_right]
                  · rw [zu_i k2, r2 k (by omega), List.getD_eq_getElem?_getD, List.getD_eq_getElem?_getD, List.getElem?_append_left (by omega)]
      · rw [if_neg z] at ex el ⊢
        refine ⟨fun _ => nx S x acc M1 (by omega) hS (fun h a b => ?_) ex el hl hx hx2 f1 r1 r2, fun y => absurd rfl y⟩
        by_cases q : h = i
        · rw [q]; simpa using z
        · exact hz h a (by omega)
  have c0 : zcard S0 ≤ 8 := (zcard_r S0).2
  have hS0 : S0 < ((2 ^ c.toNat : Nat) : Int) := (zb_lt2 hc fr.1).mpr (fun h a b => by rw [fb h a] at b; exact of_decide_eq_true b)
  refine loop c.toNat 0 S0 0 [] (z_up M 3 1 0) (by omega) ⟨fr.1, hS0⟩ (fun h a b => by omega) (by rw [hL, Int.zero_add]) (by rw [hL]; rfl) (by show ((0 : Nat) : Int) + _ ≤ 8; omega) (by omega) (by show -8 * ((0 : Nat) : Int) ≤ 0 ∧ (0 : Int) ≤ 8 * ((0 : Nat) : Int); omega) (zf_uj zf_rf (by decide)) (zu_s _ _ _ _) (fun k hk => by cases hk)

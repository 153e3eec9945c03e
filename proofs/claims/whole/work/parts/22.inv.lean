/-! THE INVARIANT between the class's cells and the reference's -/
/-- the sign at p of a text that ends at e -/
def zat (sg : Int → Int) (e p : Int) : Int := if p < e then sg p else -1
/-- up to k digits from p on: their number, where they end -/
def znum (sg : Int → Int) (e : Int) : Nat → Int → Int → Int × Int
  | 0, p, v => (v, p)
  | k + 1, p, v => if 48 ≤ zat sg e p ∧ zat sg e p ≤ 57 then znum sg e k (p + 1) (10 * v + zat sg e p - 48) else (v, p)
/-- the acts of a rank, by their numbers -/
def zop (m : Nat) (c : Int) : Int := match m with
  | 0 => if c = 60 then 0 else if c = 62 then 1 else if c = 61 then 2 else -1
  | 1 => if c = 43 then 3 else if c = 45 then 4 else -1
  | _ => if c = 42 then 5 else if c = 47 then 6 else -1
def zvar (c : Int) : Int := if c = 104 then 0 else if c = 100 then 1 else if c = 110 then 2 else if c = 116 then 3 else -1
/-- the reader of rules: 0, 1, 2 a rank, 3 a thing, 10 .. 12 what goes on behind a rank's first; answers: whether, where, how deep, the code -/
def zpr (sg : Int → Int) (e : Int) : Nat → Nat → Int → Int → List Int → Bool × Int × Int × List Int
  | 0, _, p, k, cs => (false, p, k, cs)
  | f + 1, m, p, k, cs =>
    if m = 3 then
      if zat sg e p = 45 then
        match zpr sg e f 3 (p + 1) k cs with
        | (b, p', k', cs') => (b, p', k', cs' ++ [3000])
      else if 48 ≤ zat sg e p ∧ zat sg e p ≤ 57 then (true, (znum sg e 3 p 0).2, k, cs ++ [(znum sg e 3 p 0).1])
      else if 0 ≤ zvar (zat sg e p) then (true, p + 1, k, cs ++ [1000 + zvar (zat sg e p)])
      else if k = 4 ∨ zat sg e p ≠ 40 then (false, p, k, cs)
      else
        match zpr sg e f 0 (p + 1) (k + 1) cs with
        | (true, p', k', cs') => if zat sg e p' = 41 then (true, p' + 1, k' - 1, cs') else (false, p', k', cs')
        | (false, p', k', cs') => (false, p', k', cs')
    else if m < 3 then
      match zpr sg e f (m + 1) p k cs with
      | (true, p', k', cs') => zpr sg e f (m + 10) p' k' cs'
      | (false, p', k', cs') => (false, p', k', cs')
    else
      if zop (m - 10) (zat sg e p) < 0 then (true, p, k, cs)
      else
        match zpr sg e f (m - 10 + 1) (p + 1) k cs with
        | (true, p', k', cs') => if m = 10 then (true, p', k', cs' ++ [2000 + zop 0 (zat sg e p)]) else zpr sg e f m p' k' (cs' ++ [2000 + zop (m - 10) (zat sg e p)])
        | (false, p', k', cs') => (false, p', k', cs')
def iT (n : Int) (sg : Int → Int) (n' : Int) (tp : Int → Int) : Prop := n = n' ∧ 0 ≤ n ∧ n ≤ 80 ∧ ∀ p, 0 ≤ p → p < n → sg p = tp p ∧ 0 ≤ sg p ∧ sg p ≤ 255
def iR (n : Int) (nb : Int → Int) (n' : Int) (rw' : Int → Int) : Prop := n = n' ∧ 0 ≤ n ∧ n ≤ 8 ∧ ∀ i, 0 ≤ i → i < n → nb i = rw' i
/-- a town: n bounds its days, c is how many houses there are -/
def tW (n c day : Int) (ord nam len dry had : Int → Int) : Prop :=
  (0 ≤ c ∧ c ≤ 8) ∧ (0 ≤ day ∧ day ≤ 270 * n) ∧ (∀ i, 0 ≤ i → i < 8 → 0 ≤ ord i ∧ ord i < 8) ∧ (∀ i j, 0 ≤ i → i < 8 → 0 ≤ j → j < 8 → ord i = ord j → i = j) ∧ (∀ k, 0 ≤ k → k < 48 → 0 ≤ nam k ∧ nam k < 8) ∧ (∀ h, 0 ≤ h → h < c → 1 ≤ len h ∧ len h ≤ 6) ∧ (∀ h, c ≤ h → h < 8 → len h = 0 ∧ dry h = 0 ∧ had h = 0) ∧ (∀ h, 0 ≤ h → h < 8 → (0 ≤ dry h ∧ dry h ≤ day) ∧ 0 ≤ had h ∧ had h ≤ 9 * day)
/-- a town and a row of the reference -/
def tE (c day : Int) (ord nam len dry had : Int → Int) (r : Int → Int) : Prop :=
  (∀ i, 0 ≤ i → i < 8 → ord i = r i) ∧ (∀ h, 0 ≤ h → h < 8 → len h = r (8 + h)) ∧ (∀ h i, 0 ≤ h → h < c → 0 ≤ i → i < len h → nam (6 * h + i) = r (16 + (6 * h + i))) ∧ (∀ h, 0 ≤ h → h < 8 → dry h = r (64 + h)) ∧ (∀ h, 0 ≤ h → h < 8 → had h = r (72 + h)) ∧ day = r 80
def tR (n c : Int) (M : zM) (a q : Nat) (o : Int) : Prop := M a 5 = c ∧ tW n c (M a 6) (M (a + 1)) (M (a + 2)) (M (a + 3)) (M (a + 4)) (M (a + 5)) ∧ tE c (M a 6) (M (a + 1)) (M (a + 2)) (M (a + 3)) (M (a + 4)) (M (a + 5)) (fun k => M q (o + k))
def iH (c : Int) (th th' : Int → Int) : Prop := ∀ h, 0 ≤ h → h < c → th h = th' h ∧ 1 ≤ th h ∧ th h ≤ 9
def iS (n : Int) (ht : Int → Int) (n' : Int) (sk : Int → Int) : Prop := n = n' ∧ 1 ≤ n ∧ n ≤ 20 ∧ ∀ i, 0 ≤ i → i < n → ht i = sk i ∧ 0 ≤ ht i ∧ ht i ≤ 9
def iU (n : Int) (sg : Int → Int) (cl : Int) (cd : Int → Int) : Prop := (n = 0 ∧ cl = 0) ∨ (0 < n ∧ n ≤ 40 ∧ ∃ cs : List Int, zpr sg n 400 0 0 0 [] = (true, n, 0, cs) ∧ cl = (cs.length : Int) ∧ cs.length ≤ 40 ∧ ∀ k : Nat, k < cs.length → cd (k : Int) = cs.getD k 0)
/-- the place in the ring of the j-th of what can be undone -/
def zrg (nx sz j : Int) : Int := if nx - sz + j < 0 then nx - sz + j + 15 else nx - sz + j
def iP (n c : Int) (M : zM) : Prop := M 49 2 = M 179 33 ∧ (0 ≤ M 49 1 ∧ M 49 1 < 15) ∧ (0 ≤ M 49 2 ∧ M 49 2 ≤ 15) ∧ ∀ j, 0 ≤ j → j < M 49 2 → tR n c M (51 + 6 * (zrg (M 49 1) (M 49 2) j).toNat) 201 (81 * j)
def iK (n c : Int) (M : zM) : Prop := (0 ≤ M 0 11 ∧ M 0 11 < 8) ∧ (0 ≤ M 179 4 ∧ M 179 4 ≤ n) ∧ (∀ i, 0 ≤ i → i < 3 → (M 219 i = 0 ∨ M 219 i = 1) ∧ (0 ≤ M 220 i ∧ M 220 i ≤ M 179 4) ∧ (zb (M 0 11) i = true ↔ (M 219 i = 1 ∧ M 220 i = M 179 4))) ∧ ∀ i, 0 ≤ i → i < 3 → zb (M 0 11) i = true → tR n c M (161 + 6 * i.toNat) 221 (81 * i)
def iN (c n : Int) (a b : Int → Int) (n' : Int) (a' b' : Int → Int) : Prop := n = n' ∧ 0 ≤ n ∧ n ≤ 8 ∧ ∀ i, 0 ≤ i → i < n → a i = a' i ∧ b i = b' i ∧ (0 ≤ a i ∧ a i < c) ∧ (0 ≤ b i ∧ b i < c) ∧ a i ≠ b i
/-- all but THE TEXT and the ROW -/
def zJ (n : Int) (M : zM) : Prop := tR n (M 179 3) M 23 183 0 ∧ iH (M 179 3) (M 46) (M 182) ∧ iS (M 45 2) (M 47) (M 179 5) (M 181) ∧ iU (M 5 1) (M 6) (M 179 22) (M 190) ∧ iP n (M 179 3) M ∧ iK n (M 179 3) M ∧ iN (M 179 3) (M 0 14) (M 142) (M 143) (M 179 57) (M 216) (M 217) ∧ M 159 0 = 0 ∧ M 154 0 = 0
def zI (n : Int) (M : zM) : Prop := (0 ≤ n ∧ n ≤ 512) ∧ iT (M 1 1) (M 2) (M 179 11) (M 185) ∧ iR (M 3 1) (M 4) (M 179 1) (M 180) ∧ zJ n M
/-- the cells that zJ speaks of -/
def zJa (c : Nat) : Bool := ([24, 25, 26, 27, 28, 183, 46, 182, 47, 181, 6, 190, 201, 219, 220, 221, 142, 143, 216, 217].any (fun b => Nat.beq c b)) || ((Nat.ble 51 c && Nat.ble c 140) || (Nat.ble 161 c && Nat.ble c 178))
def zJo : List Nat := [23, 179, 45, 5, 49, 0, 159, 154]
def zJp : List (Nat × Int) := [(23, 5), (23, 6), (179, 3), (45, 2), (179, 5), (5, 1), (179, 22), (49, 1), (49, 2), (179, 33), (0, 11), (179, 4), (0, 14), (179, 57), (159, 0), (154, 0)]
/-- what may change without a word of zJ changing -/
def zJS (S : List Nat) (J : List (Nat × Int)) : Bool := S.all (fun c => !(zJa c) && !(zJo.any (fun b => Nat.beq c b))) && J.all (fun q => !(zJa q.1) && !(zJp.any (fun p => Nat.beq q.1 p.1 && decide (q.2 = p.2))))
theorem zJS_c {S : List Nat} {J : List (Nat × Int)} {M M' : zM} (h : zf S J M M') (hd : zJS S J = true) (b : Nat) (hb : zJa b = true) : M' b = M b := by
  unfold zJS at hd
  rw [Bool.and_eq_true] at hd
  funext j
  refine h b j (fun q => ?_) (fun q => ?_)
  · have := List.all_eq_true.mp hd.1 b q
    rw [hb] at this; cases this
  · have := List.all_eq_true.mp hd.2 _ q
    simp only [hb, Bool.not_true, Bool.false_and] at this
    cases this
theorem zJS_p {S : List Nat} {J : List (Nat × Int)} {M M' : zM} (h : zf S J M M') (hd : zJS S J = true) (p : Nat × Int) (hp : p ∈ zJp) (ho : zJo.any (fun b => Nat.beq p.1 b) = true) : M' p.1 p.2 = M p.1 p.2 := by
  unfold zJS at hd
  rw [Bool.and_eq_true] at hd
  refine h p.1 p.2 (fun q => ?_) (fun q => ?_)
  · have := List.all_eq_true.mp hd.1 p.1 q
    rw [ho] at this; simp at this
  · have h1 := List.all_eq_true.mp hd.2 _ q
    have h2 : zJp.any (fun p' => Nat.beq p.1 p'.1 && decide (p.2 = p'.2)) = true := List.any_eq_true.mpr ⟨p, hp, by simp⟩
    simp only [h2, Bool.not_true, Bool.and_false] at h1
    cases h1
theorem tR_c {n c : Int} {M M' : zM} {a q : Nat} {o : Int} (h : tR n c M a q o) (h0 : M' a 5 = M a 5) (h6 : M' a 6 = M a 6) (h1 : M' (a + 1) = M (a + 1)) (h2 : M' (a + 2) = M (a + 2)) (h3 : M' (a + 3) = M (a + 3)) (h4 : M' (a + 4) = M (a + 4)) (h5 : M' (a + 5) = M (a + 5)) (hq : M' q = M q) : tR n c M' a q o := by
  unfold tR at *
  rw [h0, h6, h1, h2, h3, h4, h5, hq]
  exact h
theorem zJ_f {n : Int} {S : List Nat} {J : List (Nat × Int)} {M M' : zM} (hj : zJ n M) (h : zf S J M M') (hd : zJS S J = true) : zJ n M' := by
  have C := zJS_c h hd
  have P : ∀ p : Nat × Int, p ∈ zJp → zJo.any (fun b => Nat.beq p.1 b) = true → M' p.1 p.2 = M p.1 p.2 := zJS_p h hd
  have p1 : M' 23 5 = M 23 5 := P (23, 5) (by decide) (by decide)
  have p2 : M' 23 6 = M 23 6 := P (23, 6) (by decide) (by decide)
  have p3 : M' 179 3 = M 179 3 := P (179, 3) (by decide) (by decide)
  have p4 : M' 45 2 = M 45 2 := P (45, 2) (by decide) (by decide)
  have p5 : M' 179 5 = M 179 5 := P (179, 5) (by decide) (by decide)
  have p6 : M' 5 1 = M 5 1 := P (5, 1) (by decide) (by decide)
  have p7 : M' 179 22 = M 179 22 := P (179, 22) (by decide) (by decide)
  have p8 : M' 49 1 = M 49 1 := P (49, 1) (by decide) (by decide)
  have p9 : M' 49 2 = M 49 2 := P (49, 2) (by decide) (by decide)
  have p10 : M' 179 33 = M 179 33 := P (179, 33) (by decide) (by decide)
  have p11 : M' 0 11 = M 0 11 := P (0, 11) (by decide) (by decide)
  have p12 : M' 179 4 = M 179 4 := P (179, 4) (by decide) (by decide)
  have p13 : M' 0 14 = M 0 14 := P (0, 14) (by decide) (by decide)
  have p14 : M' 179 57 = M 179 57 := P (179, 57) (by decide) (by decide)
  have p15 : M' 159 0 = M 159 0 := P (159, 0) (by decide) (by decide)
  have p16 : M' 154 0 = M 154 0 := P (154, 0) (by decide) (by decide)
  have rng : ∀ b, 51 ≤ b → b ≤ 140 → zJa b = true := by
    intro b h1 h2
    unfold zJa
    rw [show Nat.ble 51 b = true from Nat.ble_eq_true_of_le h1, show Nat.ble b 140 = true from Nat.ble_eq_true_of_le h2]
    simp
  have rng2 : ∀ b, 161 ≤ b → b ≤ 178 → zJa b = true := by
    intro b h1 h2
    unfold zJa
    rw [show Nat.ble 161 b = true from Nat.ble_eq_true_of_le h1, show Nat.ble b 178 = true from Nat.ble_eq_true_of_le h2]
    simp
  obtain ⟨j1, j2, j3, j4, j5, j6, j7, j8⟩ := hj
  refine ⟨?_, ?_, ?_, ?_, ?_, ?_, ?_, ?_⟩
  · rw [p3]
    exact tR_c j1 p1 p2 (C 24 rfl) (C 25 rfl) (C 26 rfl) (C 27 rfl) (C 28 rfl) (C 183 rfl)
  · rw [p3, C 46 rfl, C 182 rfl]; exact j2
  · rw [p4, p5, C 47 rfl, C 181 rfl]; exact j3
  · rw [p6, p7, C 6 rfl, C 190 rfl]; exact j4
  · rw [p3]
    obtain ⟨q1, q2, q3, q4⟩ := j5
    unfold iP
    rw [p8, p9, p10]
    refine ⟨q1, q2, q3, fun j h0 h1 => ?_⟩
    have hb : (zrg (M 49 1) (M 49 2) j).toNat < 15 := by unfold zrg; split <;> omega
    have hC : ∀ k, k < 6 → M' (51 + 6 * (zrg (M 49 1) (M 49 2) j).toNat + k) = M (51 + 6 * (zrg (M 49 1) (M 49 2) j).toNat + k) := fun k hk => C _ (rng _ (by omega) (by omega))
    exact tR_c (q4 j h0 h1) (congrFun (hC 0 (by omega)) 5) (congrFun (hC 0 (by omega)) 6) (hC 1 (by omega)) (hC 2 (by omega)) (hC 3 (by omega)) (hC 4 (by omega)) (hC 5 (by omega)) (C 201 rfl)
  · rw [p3]
    obtain ⟨q1, q2, q3, q4⟩ := j6
    unfold iK
    rw [p11, p12, C 219 rfl, C 220 rfl]
    refine ⟨q1, q2, q3, fun j h0 h1 hz => ?_⟩
    have hC : ∀ k, k < 6 → M' (161 + 6 * j.toNat + k) = M (161 + 6 * j.toNat + k) := fun k hk => C _ (rng2 _ (by omega) (by omega))
    exact tR_c (q4 j h0 h1 hz) (congrFun (hC 0 (by omega)) 5) (congrFun (hC 0 (by omega)) 6) (hC 1 (by omega)) (hC 2 (by omega)) (hC 3 (by omega)) (hC 4 (by omega)) (hC 5 (by omega)) (C 221 rfl)
  · rw [p3, p13, p14, C 142 rfl, C 143 rfl, C 216 rfl, C 217 rfl]; exact j7
  · rw [p15, p16]; exact j8
theorem tW_n {n n' c day : Int} {ord nam len dry had : Int → Int} (h : tW n c day ord nam len dry had) (hn : n ≤ n') : tW n' c day ord nam len dry had := by
  obtain ⟨h1, h2, h3⟩ := h
  exact ⟨h1, ⟨h2.1, by omega⟩, h3⟩
theorem tR_n {n n' c : Int} {M : zM} {a q : Nat} {o : Int} (h : tR n c M a q o) (hn : n ≤ n') : tR n' c M a q o := ⟨h.1, tW_n h.2.1 hn, h.2.2⟩
theorem zJ_n {n n' : Int} {M : zM} (h : zJ n M) (hn : n ≤ n') : zJ n' M := by
  obtain ⟨j1, j2, j3, j4, ⟨q1, q2, q3, q4⟩, ⟨r1, r2, r3, r4⟩, j7, j8⟩ := h
  exact ⟨tR_n j1 hn, j2, j3, j4, ⟨q1, q2, q3, fun j h0 h1 => tR_n (q4 j h0 h1) hn⟩, ⟨r1, ⟨r2.1, by omega⟩, r3, fun i h0 h1 hz => tR_n (r4 i h0 h1 hz) hn⟩, j7, j8⟩

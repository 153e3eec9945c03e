/-! the least cost over all orders, by sets -/
def zmV (g : Int → Int) (s : Int) : Nat → Int
  | 0 => 2000000
  | n + 1 => if zb s (n : Int) = true then zmV g s n else if g (n : Int) < zmV g s n then g (n : Int) else zmV g s n
def zmX (g : Int → Int) (s : Int) : Nat → Int
  | 0 => 0
  | n + 1 => if zb s (n : Int) = true then zmX g s n else if g (n : Int) < zmV g s n then (n : Int) else zmX g s n
def zmL (lo : Int → Int → Int) : Nat → Int → Int
  | 0, _ => 0
  | f + 1, s => zmV (fun i => lo i s + zmL lo f (zbs s i)) s 8
def zmA (lo : Int → Int → Int) : Nat → (Int → Int) → Int → (Int → Int)
  | 0, t, _ => t
  | f + 1, t, s => zmA lo f (fun j => if j = 7 - (f : Int) then zmX (fun i => lo i s + zmL lo f (zbs s i)) s 8 else t j) (zbs s (zmX (fun i => lo i s + zmL lo f (zbs s i)) s 8))
/-- the letters ahead of the k-th -/
def zset (t : Int → Int) : Nat → Int
  | 0 => 0
  | k + 1 => zbs (zset t k) (t (k : Int))
def zac2 (lo : Int → Int → Int) (t : Int → Int) (k : Nat) : Int := zsm (fun m => lo (t m) (zset t m.toNat)) k
theorem zset_c {t t' : Int → Int} : ∀ k : Nat, (∀ j : Int, 0 ≤ j → j < k → t j = t' j) → zset t k = zset t' k
  | 0, _ => rfl
  | k + 1, h => by
    show zbs (zset t k) (t k) = zbs (zset t' k) (t' k)
    rw [zset_c k (fun j a b => h j a (by omega)), h k (by omega) (by omega)]
theorem zac2_c {lo : Int → Int → Int} {t t' : Int → Int} (k : Nat) (h : ∀ j : Int, 0 ≤ j → j < k → t j = t' j) : zac2 lo t k = zac2 lo t' k :=
  zsm_c k (fun m a b => by rw [h m a b, zset_c m.toNat (fun j x y => h j x (by omega))])
theorem zgo_min {lo : Int → Int → Int} {a : Int} {C : (Int → Int) → Int} (h0 : 0 ≤ a) (hlo : ∀ i s, 0 ≤ lo i s) (hC : ∀ t s, zPx 8 t s → C t = a + zac2 lo t 8) : ∀ (f k : Nat) (t : Int → Int) (s v : Int) (b : Int → Int), k + f = 8 → zPx (k : Int) t s → zset t k = s → v ≤ 1000000 → zgo (zup C) f t s (v, b) = if a + zac2 lo t k + zmL lo f s < v then (a + zac2 lo t k + zmL lo f s, zmA lo f t s) else (v, b) := by
  intro f
  induction f with
  | zero =>
    intro k t s v b hk hp hs hv
    have : k = 8 := by omega
    subst this
    show (if C t < v then (C t, t) else (v, b)) = (if a + zac2 lo t 8 + 0 < v then (a + zac2 lo t 8 + 0, t) else (v, b))
    rw [hC t s hp, Int.add_zero]
  | succ f ih =>
    intro k t s v b hk hp hs hv
    have ek : 7 - (f : Int) = (k : Int) := by omega
    have acn : 0 ≤ zac2 lo t k := by
      have : ∀ n : Nat, 0 ≤ zsm (fun m => lo (t m) (zset t m.toNat)) n := by
        intro n
        induction n with
        | zero => show (0 : Int) ≤ 0; omega
        | succ n ihn =>
          have := hlo (t n) (zset t ((n : Int)).toNat)
          show 0 ≤ zsm (fun m => lo (t m) (zset t m.toNat)) n + lo (t n) (zset t ((n : Int)).toNat)
          omega
      exact this k
    have main : ∀ n : Nat, n ≤ 8 → zglp (fun i q => if zb s i = true then q else zgo (zup C) f (fun j => if j = 7 - (f : Int) then i else t j) (zbs s i) q) n (v, b) = if a + zac2 lo t k + zmV (fun i => lo i s + zmL lo f (zbs s i)) s n < v then (a + zac2 lo t k + zmV (fun i => lo i s + zmL lo f (zbs s i)) s n, zmA lo f (fun j => if j = 7 - (f : Int) then zmX (fun i => lo i s + zmL lo f (zbs s i)) s n else t j) (zbs s (zmX (fun i => lo i s + zmL lo f (zbs s i)) s n))) else (v, b) := by
      intro n
      induction n with
      | zero =>
        intro _
        exact (if_neg (show ¬ a + zac2 lo t k + 2000000 < v by omega)).symm
      | succ n ihn =>
        intro hn8
        have ihn := ihn (by omega)
        have e1 : zglp (fun i q => if zb s i = true then q else zgo (zup C) f (fun j => if j = 7 - (f : Int) then i else t j) (zbs s i) q) (n + 1) (v, b) = (if zb s (n : Int) = true then zglp (fun i q => if zb s i = true then q else zgo (zup C) f (fun j => if j = 7 - (f : Int) then i else t j) (zbs s i) q) n (v, b) else zgo (zup C) f (fun j => if j = 7 - (f : Int) then (n : Int) else t j) (zbs s n) (zglp (fun i q => if zb s i = true then q else zgo (zup C) f (fun j => if j = 7 - (f : Int) then i else t j) (zbs s i) q) n (v, b))) := rfl
        rw [e1, ihn]
        generalize hG : (fun i => lo i s + zmL lo f (zbs s i)) = G
        have eG : ∀ i, G i = lo i s + zmL lo f (zbs s i) := fun i => by rw [← hG]
        have e2 : zmV G s (n + 1) = if zb s (n : Int) = true then zmV G s n else if G n < zmV G s n then G n else zmV G s n := rfl
        have e3 : zmX G s (n + 1) = if zb s (n : Int) = true then zmX G s n else if G n < zmV G s n then (n : Int) else zmX G s n := rfl
        rw [e2, e3]
        by_cases z : zb s (n : Int) = true
        · rw [if_pos z, if_pos z, if_pos z]
        · rw [if_neg z, if_neg z, if_neg z]
          have z' : zb s (n : Int) = false := by simpa using z
          have hp' := zPx_s hp (by omega) (show 0 ≤ (n : Int) ∧ (n : Int) < 8 by omega) z'
          rw [ek]
          have hs' : zset (fun j => if j = (k : Int) then (n : Int) else t j) (k + 1) = zbs s n := by
            show zbs (zset _ k) (if (k : Int) = (k : Int) then (n : Int) else t k) = _
            rw [if_pos rfl, zset_c (t' := t) k (fun j x y => by show (if j = (k : Int) then (n : Int) else t j) = t j; rw [if_neg (by omega)]), hs]
          have ac' : zac2 lo (fun j => if j = (k : Int) then (n : Int) else t j) (k + 1) = zac2 lo t k + lo n s := by
            show zac2 lo _ k + lo (if (k : Int) = (k : Int) then (n : Int) else t k) (zset _ ((k : Int)).toNat) = _
            rw [if_pos rfl, show ((k : Int)).toNat = k by omega, zset_c (t' := t) k (fun j x y => by show (if j = (k : Int) then (n : Int) else t j) = t j; rw [if_neg (by omega)]), hs, zac2_c (t' := t) k (fun j x y => by show (if j = (k : Int) then (n : Int) else t j) = t j; rw [if_neg (by omega)])]
          have key : ∀ v' b', v' ≤ 1000000 → zgo (zup C) f (fun j => if j = (k : Int) then (n : Int) else t j) (zbs s n) (v', b') = if a + zac2 lo t k + G n < v' then (a + zac2 lo t k + G n, zmA lo f (fun j => if j = (k : Int) then (n : Int) else t j) (zbs s n)) else (v', b') := by
            intro v' b' hv'
            have := ih (k + 1) (fun j => if j = (k : Int) then (n : Int) else t j) (zbs s n) v' b' (by omega) (by rw [show ((k + 1 : Nat) : Int) = (k : Int) + 1 by omega]; exact hp') hs' hv'
            rw [this, ac', eG, show a + (zac2 lo t k + lo n s) + zmL lo f (zbs s n) = a + zac2 lo t k + (lo n s + zmL lo f (zbs s n)) by omega]
          by_cases w : a + zac2 lo t k + zmV G s n < v
          · rw [if_pos w, key _ _ (by omega)]
            by_cases y : G n < zmV G s n
            · rw [if_pos (by omega), if_pos y, if_pos (by omega), if_pos y]
            · rw [if_neg (by omega), if_neg y, if_pos w, if_neg y]
          · rw [if_neg w, key v b hv]
            by_cases y : a + zac2 lo t k + G n < v
            · rw [if_pos y, if_pos (show G n < zmV G s n by omega), if_pos y, if_pos (show G n < zmV G s n by omega)]
            · rw [if_neg y, if_neg]
              split <;> omega
    exact main 8 (by omega)
theorem zmX_s {g : Int → Int} {s : Int} : ∀ n : Nat, (∃ i : Int, (0 ≤ i ∧ i < n) ∧ zb s i = false ∧ g i < 2000000) → (0 ≤ zmX g s n ∧ zmX g s n < n) ∧ zb s (zmX g s n) = false ∧ g (zmX g s n) = zmV g s n ∧ (∀ j : Int, 0 ≤ j → j < n → zb s j = false → zmV g s n ≤ g j) ∧ ∀ j : Int, 0 ≤ j → j < zmX g s n → zb s j = false → g j ≠ zmV g s n
  | 0, h => by obtain ⟨i, hi, _⟩ := h; omega
  | n + 1, h => by
    have e2 : zmV g s (n + 1) = if zb s (n : Int) = true then zmV g s n else if g n < zmV g s n then g n else zmV g s n := rfl
    have e3 : zmX g s (n + 1) = if zb s (n : Int) = true then zmX g s n else if g n < zmV g s n then (n : Int) else zmX g s n := rfl
    have low : ∀ m : Nat, ∀ j : Int, 0 ≤ j → j < m → zb s j = false → zmV g s m ≤ g j := by
      intro m
      induction m with
      | zero => intro j a b; omega
      | succ m ihm =>
        intro j a b z
        have e : zmV g s (m + 1) = if zb s (m : Int) = true then zmV g s m else if g m < zmV g s m then g m else zmV g s m := rfl
        rw [e]
        by_cases q : j = m
        · subst q
          rw [if_neg (by rw [z]; decide)]
          split <;> omega
        · have := ihm j a (by omega) z
          split
          · exact this
          · split <;> omega
    by_cases z : zb s (n : Int) = true
    · rw [e2, e3, if_pos z, if_pos z]
      obtain ⟨i, hi, h1, h2⟩ := h
      have ih := zmX_s (g := g) (s := s) n ⟨i, ⟨hi.1, by
        have : i ≠ n := fun e => by rw [e, z] at h1; cases h1
        omega⟩, h1, h2⟩
      refine ⟨by omega, ih.2.1, ih.2.2.1, fun j a b w => ?_, ih.2.2.2.2⟩
      by_cases q : j = n
      · rw [q, z] at w; cases w
      · exact ih.2.2.2.1 j a (by omega) w
    · have z' : zb s (n : Int) = false := by simpa using z
      rw [e2, e3, if_neg z, if_neg z]
      by_cases y : g n < zmV g s n
      · rw [if_pos y, if_pos y]
        refine ⟨by omega, z', rfl, fun j a b w => ?_, fun j a b w => ?_⟩
        · by_cases q : j = n
          · rw [q]; omega
          · have := low n j a (by omega) w; omega
        · have := low n j a b w; omega
      · rw [if_neg y, if_neg y]
        obtain ⟨i, hi, h1, h2⟩ := h
        by_cases ex : ∃ i : Int, (0 ≤ i ∧ i < n) ∧ zb s i = false ∧ g i < 2000000
        · have ih := zmX_s (g := g) (s := s) n ex
          refine ⟨by omega, ih.2.1, ih.2.2.1, fun j a b w => ?_, ih.2.2.2.2⟩
          by_cases q : j = n
          · rw [q]; omega
          · exact ih.2.2.2.1 j a (by omega) w
        · exfalso
          have ein : i = n := Classical.byContradiction (fun q => ex ⟨i, ⟨hi.1, by omega⟩, h1, h2⟩)
          have big : ∀ m : Nat, m ≤ n → 2000000 ≤ zmV g s m := by
            intro m
            induction m with
            | zero => intro _; show (2000000 : Int) ≤ 2000000; omega
            | succ m ihm =>
              intro hm
              have e : zmV g s (m + 1) = if zb s (m : Int) = true then zmV g s m else if g m < zmV g s m then g m else zmV g s m := rfl
              have ihm := ihm (by omega)
              rw [e]
              split
              · exact ihm
              · rename_i q
                have q' : zb s (m : Int) = false := by simpa using q
                have : ¬ g m < 2000000 := fun w => ex ⟨m, by omega, q', w⟩
                split <;> omega
          have := big n (by omega)
          rw [ein] at h2
          omega

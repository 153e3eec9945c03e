/-! what the reader of rules reads can be worked out -/
theorem znum_r (sg : Int → Int) (e : Int) : ∀ (k : Nat) (p v : Int), 0 ≤ v → 0 ≤ (znum sg e k p v).1 ∧ (znum sg e k p v).1 < (v + 1) * (10 ^ k : Nat)
  | 0, p, v, hv => by show 0 ≤ v ∧ v < (v + 1) * ((1 : Nat) : Int); omega
  | k + 1, p, v, hv => by
    have hp : 0 < 10 ^ k := Nat.pow_pos (by omega)
    have e1 : ((10 ^ (k + 1) : Nat) : Int) = 10 * ((10 ^ k : Nat) : Int) := by rw [Nat.pow_succ]; omega
    unfold znum
    by_cases c : 48 ≤ zat sg e p ∧ zat sg e p ≤ 57
    · rw [if_pos c]
      have ih := znum_r sg e k (p + 1) (10 * v + zat sg e p - 48) (by omega)
      refine ⟨ih.1, Int.lt_of_lt_of_le ih.2 ?_⟩
      rw [e1, ← Int.mul_assoc]
      exact Int.mul_le_mul_of_nonneg_right (by omega) (by omega)
    · rw [if_neg c]
      refine ⟨hv, ?_⟩
      show v < (v + 1) * ((10 ^ (k + 1) : Nat) : Int)
      rw [e1]
      have : (v + 1) * 1 ≤ (v + 1) * (10 * ((10 ^ k : Nat) : Int)) := Int.mul_le_mul_of_nonneg_left (by omega) (by omega)
      omega
theorem zvar_r (c : Int) : zvar c < 4 := by unfold zvar; split <;> (try split) <;> (try split) <;> (try split) <;> omega
theorem zop_r (m : Nat) (c : Int) : zop m c < 7 := by
  unfold zop
  split <;> split <;> (try split) <;> (try split) <;> omega
def zwA (m : Nat) (ds : List Int) : Prop := (m ≤ 3 → 1 ≤ ds.length ∧ ∀ n rest, n + ds.length ≤ 80 → zwf rest (n + 1) → zwf (ds ++ rest) n) ∧ (10 ≤ m → ∀ n rest, 1 ≤ n → n + ds.length ≤ 80 → zwf rest n → zwf (ds ++ rest) n)
theorem zpr_w (sg : Int → Int) (e : Int) : ∀ (f m : Nat) (p k : Int) (cs : List Int) (p' k' : Int) (cs' : List Int), (m ≤ 3 ∨ (10 ≤ m ∧ m ≤ 12)) → zpr sg e f m p k cs = (true, p', k', cs') → ∃ ds, cs' = cs ++ ds ∧ zwA m ds := by
  intro f
  induction f with
  | zero => intro m p k cs p' k' cs' _ h; unfold zpr at h; cases h
  | succ f ih =>
    intro m p k cs p' k' cs' hm h
    unfold zpr at h
    by_cases m3 : m = 3
    · rw [if_pos m3] at h
      subst m3
      by_cases c1 : zat sg e p = 45
      · rw [if_pos c1] at h
        rcases hr : zpr sg e f 3 (p + 1) k cs with ⟨b, p1, k1, c1'⟩
        rw [hr] at h
        obtain ⟨rfl, rfl, rfl, rfl⟩ : b = true ∧ p1 = p' ∧ k1 = k' ∧ c1' ++ [3000] = cs' := by simpa using h
        obtain ⟨ds, rfl, hA, -⟩ := ih 3 (p + 1) k cs _ _ _ (by omega) hr
        obtain ⟨a1, a2⟩ := hA (by omega)
        refine ⟨ds ++ [3000], by simp, fun _ => ⟨by simp, fun n rest hn hw => ?_⟩, fun z => by omega⟩
        rw [List.length_append] at hn
        rw [List.append_assoc]
        exact a2 n _ (by omega) (Or.inl ⟨rfl, by omega, by simp at hn; omega, hw⟩)
      · rw [if_neg c1] at h
        by_cases c2 : 48 ≤ zat sg e p ∧ zat sg e p ≤ 57
        · rw [if_pos c2] at h
          obtain ⟨-, -, rfl⟩ : (znum sg e 3 p 0).2 = p' ∧ k = k' ∧ cs ++ [(znum sg e 3 p 0).1] = cs' := by simpa using h
          have r := znum_r sg e 3 p 0 (by omega)
          refine ⟨[(znum sg e 3 p 0).1], rfl, fun _ => ⟨by simp, fun n rest hn hw => Or.inr (Or.inl ⟨r.1, by have := r.2; simp at this; omega, by simp at hn; omega, hw⟩)⟩, fun z => by omega⟩
        · rw [if_neg c2] at h
          by_cases c3 : 0 ≤ zvar (zat sg e p)
          · rw [if_pos c3] at h
            obtain ⟨-, -, rfl⟩ : p + 1 = p' ∧ k = k' ∧ cs ++ [1000 + zvar (zat sg e p)] = cs' := by simpa using h
            have r := zvar_r (zat sg e p)
            refine ⟨[1000 + zvar (zat sg e p)], rfl, fun _ => ⟨by simp, fun n rest hn hw => Or.inr (Or.inr (Or.inl ⟨by omega, by omega, by simp at hn; omega, hw⟩))⟩, fun z => by omega⟩
          · rw [if_neg c3] at h
            by_cases c4 : k = 4 ∨ zat sg e p ≠ 40
            · rw [if_pos c4] at h; cases h
            · rw [if_neg c4] at h
              rcases hr : zpr sg e f 0 (p + 1) (k + 1) cs with ⟨b, p1, k1, c1'⟩
              rw [hr] at h
              cases b with
              | false => cases h
              | true =>
                by_cases c5 : zat sg e p1 = 41
                · have h : (true, p1 + 1, k1 - 1, c1') = (true, p', k', cs') := by simpa [c5] using h
                  obtain ⟨-, -, rfl⟩ : p1 + 1 = p' ∧ k1 - 1 = k' ∧ c1' = cs' := by simpa using h
                  obtain ⟨ds, rfl, hA, -⟩ := ih 0 (p + 1) (k + 1) cs _ _ _ (by omega) hr
                  exact ⟨ds, rfl, fun _ => hA (by omega), fun z => by omega⟩
                · simp [c5] at h
    · rw [if_neg m3] at h
      by_cases m2 : m < 3
      · rw [if_pos m2] at h
        rcases hr : zpr sg e f (m + 1) p k cs with ⟨b, p1, k1, c1'⟩
        rw [hr] at h
        cases b with
        | false => cases h
        | true =>
          have h : zpr sg e f (m + 10) p1 k1 c1' = (true, p', k', cs') := h
          obtain ⟨ds, rfl, hA, -⟩ := ih (m + 1) p k cs _ _ _ (by omega) hr
          obtain ⟨dt, rfl, -, hB⟩ := ih (m + 10) p1 k1 _ _ _ _ (by omega) h
          obtain ⟨a1, a2⟩ := hA (by omega)
          refine ⟨ds ++ dt, by simp, fun _ => ⟨by simp; omega, fun n rest hn hw => ?_⟩, fun z => by omega⟩
          rw [List.length_append] at hn
          rw [List.append_assoc]
          exact a2 n _ (by omega) (hB (by omega) (n + 1) rest (by omega) (by omega) hw)
      · rw [if_neg m2] at h
        by_cases c1 : zop (m - 10) (zat sg e p) < 0
        · rw [if_pos c1] at h
          obtain ⟨-, -, rfl⟩ : p = p' ∧ k = k' ∧ cs = cs' := by simpa using h
          exact ⟨[], by simp, fun z => by omega, fun _ n rest _ _ hw => hw⟩
        · rw [if_neg c1] at h
          have ro := zop_r (m - 10) (zat sg e p)
          rcases hr : zpr sg e f (m - 10 + 1) (p + 1) k cs with ⟨b, p1, k1, c1'⟩
          rw [hr] at h
          cases b with
          | false => cases h
          | true =>
            obtain ⟨ds, rfl, hA, -⟩ := ih (m - 10 + 1) (p + 1) k cs _ _ _ (by omega) hr
            obtain ⟨a1, a2⟩ := hA (by omega)
            by_cases c5 : m = 10
            · subst c5
              have h : (true, p1, k1, cs ++ ds ++ [2000 + zop 0 (zat sg e p)]) = (true, p', k', cs') := h
              obtain ⟨-, -, rfl⟩ : p1 = p' ∧ k1 = k' ∧ cs ++ ds ++ [2000 + zop 0 (zat sg e p)] = cs' := by simpa using h
              refine ⟨ds ++ [2000 + zop 0 (zat sg e p)], by simp, fun z => by omega, fun _ n rest n1 hn hw => ?_⟩
              rw [List.length_append] at hn
              simp only [List.length_cons, List.length_nil] at hn
              rw [List.append_assoc]
              have ro : zop 0 (zat sg e p) < 7 := ro
              have c1 : ¬ zop 0 (zat sg e p) < 0 := c1
              exact a2 n _ (by omega) (Or.inr (Or.inr (Or.inr ⟨by omega, by omega, by omega, by omega, hw⟩)))
            · have h : zpr sg e f m p1 k1 (cs ++ ds ++ [2000 + zop (m - 10) (zat sg e p)]) = (true, p', k', cs') := by simpa [c5] using h
              obtain ⟨dt, rfl, -, hB⟩ := ih m p1 k1 _ _ _ _ hm h
              refine ⟨ds ++ ([2000 + zop (m - 10) (zat sg e p)] ++ dt), by simp, fun z => by omega, fun z n rest n1 hn hw => ?_⟩
              rw [List.length_append, List.length_append] at hn
              simp only [List.length_cons, List.length_nil] at hn
              rw [List.append_assoc]
              exact a2 n _ (by omega) (Or.inr (Or.inr (Or.inr ⟨by omega, by omega, by omega, by omega, hB z n rest n1 (by omega) hw⟩)))
/-- a whole rule's code -/
theorem zpr_wf {sg : Int → Int} {e : Int} {f : Nat} {p' k' : Int} {cs : List Int} (h : zpr sg e f 0 0 0 [] = (true, p', k', cs)) (hl : cs.length ≤ 40) : cs ≠ [] ∧ zwf cs 0 := by
  obtain ⟨ds, e1, hA, -⟩ := zpr_w sg e f 0 0 0 [] _ _ _ (by omega) h
  rw [List.nil_append] at e1
  subst e1
  obtain ⟨a1, a2⟩ := hA (by omega)
  refine ⟨fun z => by rw [z] at a1; simp at a1, ?_⟩
  have := a2 0 [] (by omega) (show 1 ≤ 0 + 1 by omega)
  rw [List.append_nil] at this
  exact this

/-! the reader of rules: how far, how much code; how much fuel -/
theorem zpr_len (sg : Int → Int) (e : Int) : ∀ (f m : Nat) (p k : Int) (cs : List Int) (b : Bool) (p' k' : Int) (cs' : List Int), (m ≤ 3 ∨ (10 ≤ m ∧ m ≤ 12)) → p ≤ e → zpr sg e f m p k cs = (b, p', k', cs') → p' ≤ e ∧ (∃ ds : List Int, cs' = cs ++ ds ∧ (ds.length : Int) + p ≤ p') ∧ (b = true → m ≤ 3 → p < p') ∧ (b = true → k' = k) := by
  intro f
  induction f with
  | zero =>
    intro m p k cs b p' k' cs' _ hp h
    unfold zpr at h
    obtain ⟨rfl, rfl, rfl, rfl⟩ : false = b ∧ p = p' ∧ k = k' ∧ cs = cs' := by simpa using h
    exact ⟨hp, ⟨[], by simp, by simp⟩, fun z => absurd z (by decide), fun z => absurd z (by decide)⟩
  | succ f ih =>
    intro m p k cs b p' k' cs' hm hp h
    unfold zpr at h
    by_cases m3 : m = 3
    · rw [if_pos m3] at h
      subst m3
      by_cases c1 : zat sg e p = 45
      · rw [if_pos c1] at h
        rcases hr : zpr sg e f 3 (p + 1) k cs with ⟨b1, p1, k1, c1'⟩
        rw [hr] at h
        obtain ⟨rfl, rfl, rfl, rfl⟩ : b1 = b ∧ p1 = p' ∧ k1 = k' ∧ c1' ++ [3000] = cs' := by simpa using h
        have l1 := (zat_lt (sg := sg) (e := e) (p := p) (by omega)).1
        obtain ⟨i1, ⟨ds, rfl, i2⟩, i3, i4⟩ := ih 3 (p + 1) k cs _ _ _ _ (by omega) (by omega) hr
        exact ⟨i1, ⟨ds ++ [3000], by simp, by simp; omega⟩, fun z _ => by have := i3 z (by omega); omega, i4⟩
      · rw [if_neg c1] at h
        by_cases c2 : 48 ≤ zat sg e p ∧ zat sg e p ≤ 57
        · rw [if_pos c2] at h
          obtain ⟨rfl, rfl, rfl, rfl⟩ : true = b ∧ (znum sg e 3 p 0).2 = p' ∧ k = k' ∧ cs ++ [(znum sg e 3 p 0).1] = cs' := by simpa using h
          have l1 := (zat_lt (sg := sg) (e := e) (p := p) (by omega)).1
          have e3 : (znum sg e 3 p 0).2 = (znum sg e 2 (p + 1) (10 * 0 + zat sg e p - 48)).2 := by
            show (if 48 ≤ zat sg e p ∧ zat sg e p ≤ 57 then znum sg e 2 (p + 1) (10 * 0 + zat sg e p - 48) else (0, p)).2 = _
            rw [if_pos c2]
          have i := znum_p sg e 2 (p + 1) (10 * 0 + zat sg e p - 48) (by omega)
          rw [e3]
          exact ⟨i.2, ⟨[(znum sg e 3 p 0).1], rfl, by simp only [List.length_cons, List.length_nil]; omega⟩, fun _ _ => by omega, fun _ => rfl⟩
        · rw [if_neg c2] at h
          by_cases c3 : 0 ≤ zvar (zat sg e p)
          · rw [if_pos c3] at h
            obtain ⟨rfl, rfl, rfl, rfl⟩ : true = b ∧ p + 1 = p' ∧ k = k' ∧ cs ++ [1000 + zvar (zat sg e p)] = cs' := by simpa using h
            have l1 := (zat_lt (sg := sg) (e := e) (p := p) (fun z => by rw [z] at c3; revert c3; decide)).1
            exact ⟨by omega, ⟨[1000 + zvar (zat sg e p)], rfl, by simp; omega⟩, fun _ _ => by omega, fun _ => rfl⟩
          · rw [if_neg c3] at h
            by_cases c4 : k = 4 ∨ zat sg e p ≠ 40
            · rw [if_pos c4] at h
              obtain ⟨rfl, rfl, rfl, rfl⟩ : false = b ∧ p = p' ∧ k = k' ∧ cs = cs' := by simpa using h
              exact ⟨hp, ⟨[], by simp, by simp⟩, fun z => absurd z (by decide), fun z => absurd z (by decide)⟩
            · rw [if_neg c4] at h
              have l1 := (zat_lt (sg := sg) (e := e) (p := p) (by omega)).1
              rcases hr : zpr sg e f 0 (p + 1) (k + 1) cs with ⟨b1, p1, k1, c1'⟩
              rw [hr] at h
              obtain ⟨i1, ⟨ds, rfl, i2⟩, i3, i4⟩ := ih 0 (p + 1) (k + 1) cs _ _ _ _ (by omega) (by omega) hr
              cases b1 with
              | false =>
                obtain ⟨rfl, rfl, rfl, rfl⟩ : false = b ∧ p1 = p' ∧ k1 = k' ∧ cs ++ ds = cs' := by simpa using h
                exact ⟨i1, ⟨ds, rfl, by omega⟩, fun z => absurd z (by decide), fun z => absurd z (by decide)⟩
              | true =>
                by_cases c5 : zat sg e p1 = 41
                · have h : (true, p1 + 1, k1 - 1, cs ++ ds) = (b, p', k', cs') := by simpa [c5] using h
                  obtain ⟨rfl, rfl, rfl, rfl⟩ : true = b ∧ p1 + 1 = p' ∧ k1 - 1 = k' ∧ cs ++ ds = cs' := by simpa using h
                  have l2 := (zat_lt (sg := sg) (e := e) (p := p1) (by omega)).1
                  exact ⟨by omega, ⟨ds, rfl, by omega⟩, fun _ _ => by omega, fun _ => by have := i4 rfl; omega⟩
                · have h : (false, p1, k1, cs ++ ds) = (b, p', k', cs') := by simpa [c5] using h
                  obtain ⟨rfl, rfl, rfl, rfl⟩ : false = b ∧ p1 = p' ∧ k1 = k' ∧ cs ++ ds = cs' := by simpa using h
                  exact ⟨i1, ⟨ds, rfl, by omega⟩, fun z => absurd z (by decide), fun z => absurd z (by decide)⟩
    · rw [if_neg m3] at h
      by_cases m2 : m < 3
      · rw [if_pos m2] at h
        rcases hr : zpr sg e f (m + 1) p k cs with ⟨b1, p1, k1, c1'⟩
        rw [hr] at h
        obtain ⟨i1, ⟨ds, rfl, i2⟩, i3, i4⟩ := ih (m + 1) p k cs _ _ _ _ (by omega) hp hr
        cases b1 with
        | false =>
          obtain ⟨rfl, rfl, rfl, rfl⟩ : false = b ∧ p1 = p' ∧ k1 = k' ∧ cs ++ ds = cs' := by simpa using h
          exact ⟨i1, ⟨ds, rfl, by omega⟩, fun z => absurd z (by decide), fun z => absurd z (by decide)⟩
        | true =>
          have h : zpr sg e f (m + 10) p1 k1 (cs ++ ds) = (b, p', k', cs') := h
          obtain ⟨j1, ⟨dt, rfl, j2⟩, j3, j4⟩ := ih (m + 10) p1 k1 _ _ _ _ _ (by omega) i1 h
          have := i3 rfl (by omega)
          exact ⟨j1, ⟨ds ++ dt, by simp, by simp; omega⟩, fun _ _ => by omega, fun z => by rw [j4 z, i4 rfl]⟩
      · rw [if_neg m2] at h
        by_cases c1 : zop (m - 10) (zat sg e p) < 0
        · rw [if_pos c1] at h
          obtain ⟨rfl, rfl, rfl, rfl⟩ : true = b ∧ p = p' ∧ k = k' ∧ cs = cs' := by simpa using h
          exact ⟨hp, ⟨[], by simp, by simp⟩, fun _ z => by omega, fun _ => rfl⟩
        · rw [if_neg c1] at h
          have l : p < e := (zat_lt (fun z => by
            apply c1; rw [z]; unfold zop; split <;> decide)).1
          rcases hr : zpr sg e f (m - 10 + 1) (p + 1) k cs with ⟨b1, p1, k1, c1'⟩
          rw [hr] at h
          obtain ⟨i1, ⟨ds, rfl, i2⟩, i3, i4⟩ := ih (m - 10 + 1) (p + 1) k cs _ _ _ _ (by omega) (by omega) hr
          cases b1 with
          | false =>
            obtain ⟨rfl, rfl, rfl, rfl⟩ : false = b ∧ p1 = p' ∧ k1 = k' ∧ cs ++ ds = cs' := by simpa using h
            exact ⟨i1, ⟨ds, rfl, by omega⟩, fun z => absurd z (by decide), fun z => absurd z (by decide)⟩
          | true =>
            by_cases c5 : m = 10
            · subst c5
              have h : (true, p1, k1, cs ++ ds ++ [2000 + zop 0 (zat sg e p)]) = (b, p', k', cs') := h
              obtain ⟨rfl, rfl, rfl, rfl⟩ : true = b ∧ p1 = p' ∧ k1 = k' ∧ cs ++ ds ++ [2000 + zop 0 (zat sg e p)] = cs' := by simpa using h
              exact ⟨i1, ⟨ds ++ [2000 + zop 0 (zat sg e p)], by simp, by simp; omega⟩, fun _ z => by omega, fun _ => i4 rfl⟩
            · have h : zpr sg e f m p1 k1 (cs ++ ds ++ [2000 + zop (m - 10) (zat sg e p)]) = (b, p', k', cs') := by simpa [c5] using h
              obtain ⟨j1, ⟨dt, rfl, j2⟩, j3, j4⟩ := ih m p1 k1 _ _ _ _ _ hm i1 h
              exact ⟨j1, ⟨ds ++ ([2000 + zop (m - 10) (zat sg e p)] ++ dt), by simp, by simp; omega⟩, fun _ z => by omega, fun z => by rw [j4 z, i4 rfl]⟩
/-- fuel that is enough -/
def zfn (m : Nat) (e p : Int) : Int := 8 * (e - p) + (if m ≤ 3 then 8 - (m : Int) else 1)
theorem zsl_2 : zsl 2 = [104, 100, 110, 116] := by decide
theorem zsl_3 : zsl 3 = [60, 62, 61] := by decide
theorem zsl_4 : zsl 4 = [43, 45] := by decide
theorem zsl_5 : zsl 5 = [42, 47] := by decide

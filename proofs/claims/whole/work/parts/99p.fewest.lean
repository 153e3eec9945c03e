/-! fewest() -/
theorem zJ_154 {n : Int} {S : List Nat} {J : List (Nat × Int)} {M M' : zM} (hj : zJ n M) (f : zf S J M M') (hd : zJS (S.filter (fun c => !(Nat.beq c 154))) J = true) (h0 : M' 154 0 = 0) : zJ n M' := by
  have fN : zf (S.filter (fun c => !(Nat.beq c 154))) J M (fun c j => if c = 154 then M 154 j else M' c j) := fun c j hc hq => by
    show (if c = 154 then M 154 j else M' c j) = M c j
    by_cases q : c = 154
    · rw [if_pos q, q]
    · rw [if_neg q]
      refine f c j (fun y => hc (List.mem_filter.mpr ⟨y, ?_⟩)) hq
      cases e : Nat.beq c 154
      · rfl
      · exact absurd (Nat.eq_of_beq_eq_true e) q
  have k := zJ_f hj fN hd
  have e : ∀ c, c ≠ 154 → (fun j => if c = 154 then M 154 j else M' c j) = M' c := fun c hc => by funext j; rw [if_neg hc]
  have eN : ∀ c, c ≠ 154 → (fun (c : Nat) (j : Int) => if c = 154 then M 154 j else M' c j) c = M' c := e
  generalize (fun (c : Nat) (j : Int) => if c = 154 then M 154 j else M' c j) = N at k eN
  obtain ⟨k1, k2, k3, k4, k5, k6, k7, k8⟩ := k
  rw [eN 179 (by decide)] at k1 k2 k5 k6
  refine ⟨?_, ?_, ?_, ?_, ?_, ?_, ?_, by have := k8.1; rw [eN 159 (by decide)] at this; exact this, h0⟩
  · exact tR_c k1 (by rw [eN 23 (by decide)]) (by rw [eN 23 (by decide)]) (eN _ (by decide)).symm (eN _ (by decide)).symm (eN _ (by decide)).symm (eN _ (by decide)).symm (eN _ (by decide)).symm (eN _ (by decide)).symm
  · rw [eN 46 (by decide), eN 182 (by decide)] at k2; exact k2
  · rw [eN 45 (by decide), eN 47 (by decide), eN 179 (by decide), eN 181 (by decide)] at k3; exact k3
  · rw [eN 5 (by decide), eN 6 (by decide), eN 179 (by decide), eN 190 (by decide)] at k4; exact k4
  · unfold iP at k5 ⊢
    rw [eN 49 (by decide), eN 179 (by decide)] at k5
    refine ⟨k5.1, k5.2.1, k5.2.2.1, fun j h0 h1 => ?_⟩
    have hb : (zrg (M' 49 1) (M' 49 2) j).toNat < 15 := by
      have := k5.2.1; have := k5.2.2.1
      unfold zrg; split <;> omega
    have hC : ∀ k, k < 6 → M' (51 + 6 * (zrg (M' 49 1) (M' 49 2) j).toNat + k) = N (51 + 6 * (zrg (M' 49 1) (M' 49 2) j).toNat + k) := fun k hk => (eN _ (by omega)).symm
    exact tR_c (k5.2.2.2 j h0 h1) (congrFun (hC 0 (by omega)) 5) (congrFun (hC 0 (by omega)) 6) (hC 1 (by omega)) (hC 2 (by omega)) (hC 3 (by omega)) (hC 4 (by omega)) (hC 5 (by omega)) (eN 201 (by decide)).symm
  · unfold iK at k6 ⊢
    rw [eN 0 (by decide), eN 179 (by decide), eN 219 (by decide), eN 220 (by decide)] at k6
    refine ⟨k6.1, k6.2.1, k6.2.2.1, fun j h0 h1 hz => ?_⟩
    have hC : ∀ k, k < 6 → M' (161 + 6 * j.toNat + k) = N (161 + 6 * j.toNat + k) := fun k hk => (eN _ (by omega)).symm
    exact tR_c (k6.2.2.2 j h0 h1 hz) (congrFun (hC 0 (by omega)) 5) (congrFun (hC 0 (by omega)) 6) (hC 1 (by omega)) (hC 2 (by omega)) (hC 3 (by omega)) (hC 4 (by omega)) (hC 5 (by omega)) (eN 221 (by decide)).symm
  · rw [eN 179 (by decide), eN 0 (by decide), eN 142 (by decide), eN 143 (by decide), eN 216 (by decide), eN 217 (by decide)] at k7; exact k7
theorem zgo_fst {C : (Int → Int) → Int} (hC : ∀ e e' : Int → Int, (∀ j, 0 ≤ j → j < 8 → e j = e' j) → C e = C e') : ∀ (f k : Nat) (t : Int → Int) (s v : Int) (b : Int → Int), k + f = 8 → zPx (k : Int) t s →
    (zgo (zup C) f t s (v, b) = (v, b) ∧ ∀ e, zperm e → (∀ j : Int, 0 ≤ j → j < k → e j = t j) → v ≤ C e) ∨
    ((zgo (zup C) f t s (v, b)).1 < v ∧ C (zgo (zup C) f t s (v, b)).2 = (zgo (zup C) f t s (v, b)).1 ∧ zperm (zgo (zup C) f t s (v, b)).2 ∧ (∀ j : Int, 0 ≤ j → j < k → (zgo (zup C) f t s (v, b)).2 j = t j) ∧ ∀ e, zperm e → (∀ j : Int, 0 ≤ j → j < k → e j = t j) → (zgo (zup C) f t s (v, b)).1 ≤ C e ∧ ∀ j : Int, (k : Int) ≤ j → j < 8 → (∀ i, 0 ≤ i → i < j → e i = (zgo (zup C) f t s (v, b)).2 i) → e j < (zgo (zup C) f t s (v, b)).2 j → (zgo (zup C) f t s (v, b)).1 < C e) := by
  intro f
  induction f with
  | zero =>
    intro k t s v b hk hp
    have : k = 8 := by omega
    subst this
    have e0 : zgo (zup C) 0 t s (v, b) = if C t < v then (C t, t) else (v, b) := rfl
    rw [e0]
    by_cases q : C t < v
    · rw [if_pos q]
      refine Or.inr ⟨q, rfl, zPx_p hp, fun _ _ _ => rfl, fun e he ee => ⟨?_, fun j a b => by omega⟩⟩
      rw [hC e t ee]; exact Int.le_refl _
    · rw [if_neg q]
      refine Or.inl ⟨rfl, fun e he ee => ?_⟩
      rw [hC e t ee]; omega
  | succ f ih =>
    intro k t s v b hk hp
    have ek : 7 - (f : Int) = (k : Int) := by omega
    have e0 : zgo (zup C) (f + 1) t s (v, b) = zglp (fun i q => if zb s i = true then q else zgo (zup C) f (fun j => if j = 7 - (f : Int) then i else t j) (zbs s i) q) 8 (v, b) := rfl
    rw [e0, ek]
    have main : ∀ n : Nat, n ≤ 8 → ∀ r, r = zglp (fun i q => if zb s i = true then q else zgo (zup C) f (fun j => if j = (k : Int) then i else t j) (zbs s i) q) n (v, b) →
        (r = (v, b) ∧ ∀ e, zperm e → (∀ j : Int, 0 ≤ j → j < k → e j = t j) → e (k : Int) < n → v ≤ C e) ∨
        (r.1 < v ∧ C r.2 = r.1 ∧ zperm r.2 ∧ (∀ j : Int, 0 ≤ j → j < k → r.2 j = t j) ∧ r.2 (k : Int) < n ∧ ∀ e, zperm e → (∀ j : Int, 0 ≤ j → j < k → e j = t j) → e (k : Int) < n → r.1 ≤ C e ∧ ∀ j : Int, (k : Int) ≤ j → j < 8 → (∀ i, 0 ≤ i → i < j → e i = r.2 i) → e j < r.2 j → r.1 < C e) := by
      intro n
      induction n with
      | zero =>
        intro _ r hr
        refine Or.inl ⟨hr, fun e he ee l => ?_⟩
        have := he.1 k (by omega) (by omega)
        omega
      | succ n ihn =>
        intro hn r hr
        have ihn := ihn (by omega) _ rfl
        have e1 : zglp (fun i q => if zb s i = true then q else zgo (zup C) f (fun j => if j = (k : Int) then i else t j) (zbs s i) q) (n + 1) (v, b) = (if zb s (n : Int) = true then zglp (fun i q => if zb s i = true then q else zgo (zup C) f (fun j => if j = (k : Int) then i else t j) (zbs s i) q) n (v, b) else zgo (zup C) f (fun j => if j = (k : Int) then (n : Int) else t j) (zbs s n) (zglp (fun i q => if zb s i = true then q else zgo (zup C) f (fun j => if j = (k : Int) then i else t j) (zbs s i) q) n (v, b))) := rfl
        rw [e1] at hr
        generalize zglp (fun i q => if zb s i = true then q else zgo (zup C) f (fun j => if j = (k : Int) then i else t j) (zbs s i) q) n (v, b) = r0 at hr ihn
        by_cases z : zb s (n : Int) = true
        · rw [if_pos z] at hr
          subst hr
          have no : ∀ e, zperm e → (∀ j : Int, 0 ≤ j → j < k → e j = t j) → e (k : Int) < ((n + 1 : Nat) : Int) → e (k : Int) < n := fun e he ee l => by
            refine Classical.byContradiction (fun y => ?_)
            obtain ⟨j, hj, ej⟩ := (hp.2.2.2 n (by omega)).mp z
            have := he.2 j k hj.1 (by omega) (by omega) (by omega) (by rw [ee j hj.1 hj.2, ej]; omega)
            omega
          rcases ihn with ⟨g1, g2⟩ | ⟨g1, g2, g3, g4, g5, g6⟩
          · exact Or.inl ⟨g1, fun e he ee l => g2 e he ee (no e he ee l)⟩
          · exact Or.inr ⟨g1, g2, g3, g4, by omega, fun e he ee l => g6 e he ee (no e he ee l)⟩
        · rw [if_neg z] at hr
          have z' : zb s (n : Int) = false := by simpa using z
          have hp' := zPx_s hp (by omega) (show 0 ≤ (n : Int) ∧ (n : Int) < 8 by omega) z'
          obtain ⟨v1, b1⟩ := r0
          have nx := ih (k + 1) (fun j => if j = (k : Int) then (n : Int) else t j) (zbs s n) v1 b1 (by omega) (by rw [show ((k + 1 : Nat) : Int) = (k : Int) + 1 by omega]; exact hp')
          rw [← hr] at nx
          have ext : ∀ e : Int → Int, (∀ j : Int, 0 ≤ j → j < k → e j = t j) → e (k : Int) = n → ∀ j : Int, 0 ≤ j → j < ((k + 1 : Nat) : Int) → e j = (if j = (k : Int) then (n : Int) else t j) := fun e ee en j a c => by
            by_cases q : j = k
            · rw [if_pos q, q]; exact en
            · rw [if_neg q]; exact ee j a (by omega)
          have low : (v1 ≤ v) ∧ ∀ e, zperm e → (∀ j : Int, 0 ≤ j → j < k → e j = t j) → e (k : Int) < n → v1 ≤ C e := by
            rcases ihn with ⟨g1, g2⟩ | ⟨g1, g2, g3, g4, g5, g6⟩
            · have : v1 = v := congrArg Prod.fst g1
              rw [this]; exact ⟨Int.le_refl _, g2⟩
            · exact ⟨Int.le_of_lt g1, fun e he ee l => (g6 e he ee l).1⟩
          rcases nx with ⟨x1, x2⟩ | ⟨x1, x2, x3, x4, x5⟩
          · rw [x1]
            rcases ihn with ⟨g1, g2⟩ | ⟨g1, g2, g3, g4, g5, g6⟩
            · refine Or.inl ⟨g1, fun e he ee l => ?_⟩
              by_cases q : e (k : Int) < n
              · exact g2 e he ee q
              · have : v1 = v := congrArg Prod.fst g1
                rw [← this]; exact x2 e he (ext e ee (by omega))
            · have g5 : b1 (k : Int) < n := g5
              refine Or.inr ⟨g1, g2, g3, g4, by show b1 (k : Int) < ((n + 1 : Nat) : Int); omega, fun e he ee l => ?_⟩
              by_cases q : e (k : Int) < n
              · exact g6 e he ee q
              · refine ⟨x2 e he (ext e ee (by omega)), fun j a c ei l2 => ?_⟩
                exfalso
                by_cases q2 : j = k
                · have l2 : e j < b1 j := l2
                  rw [q2] at l2; omega
                · have := ei k (by omega) (by omega)
                  have this : e (k : Int) = b1 k := this
                  omega
          · have xk := x4 k (by omega) (by omega)
            rw [if_pos rfl] at xk
            refine Or.inr ⟨by omega, x2, x3, fun j a c => ?_, by omega, fun e he ee l => ?_⟩
            · have := x4 j a (by omega)
              rw [if_neg (by omega)] at this; exact this
            · by_cases q : e (k : Int) < n
              · have := low.2 e he ee q
                exact ⟨by omega, fun _ _ _ _ _ => by omega⟩
              · obtain ⟨y1, y2⟩ := x5 e he (ext e ee (by omega))
                refine ⟨y1, fun j a c ei l2 => ?_⟩
                by_cases q2 : j = k
                · rw [q2, xk] at l2; omega
                · exact y2 j (by omega) c ei l2
    have fin := main 8 (by omega) _ rfl
    rcases fin with ⟨g1, g2⟩ | ⟨g1, g2, g3, g4, g5, g6⟩
    · exact Or.inl ⟨g1, fun e he ee => g2 e he ee (he.1 k (by omega) (by omega)).2⟩
    · exact Or.inr ⟨g1, g2, g3, g4, fun e he ee => g6 e he ee (he.1 k (by omega) (by omega)).2⟩
/-- all orders looked at: how many are dry -/
def zLi0 (B : zM) (M : zM) (q : Int × (Int → Int)) : Prop := zf [206, 197, 207, 198, 199, 200] [(179, 43)] B M ∧ M 179 43 = q.1 ∧ ∀ j, 0 ≤ j → j < 8 → M 207 j = q.2 j
theorem s_looks0 {d : Nat} {c w : Int} {len nam th : Int → Int} {B : zM} (hB : B 179 3 = c) (hN : ∀ t, zperm t → zTn c t len nam) (hU : zUn B c len nam) (h45 : B 179 45 = w) (hw : 0 ≤ w ∧ w ≤ 99) (hth : ∀ h, 0 ≤ h → h < c → B 182 h = th h ∧ 1 ≤ th h ∧ th h ≤ 9) (M : zM) (q : Int × (Int → Int)) (t : Int → Int) (F : zM → Prop) (hI : zLi0 B M q) (hp : zperm t) (hT : zTu 8 t M) (H : ∀ M', zLi0 B M' (zup (fun t => c - zSv c w th len nam t) t q) → M' 206 = M 206 → M' 197 = M 197 → F M') : zCv (d + 3) 217 [z_r (11, 0) 179, z_i 0] M F := by
  obtain ⟨f1, v1, b1⟩ := hI
  have ht := hN t hp
  have e3 : M 179 3 = c := by rw [zf_a f1 179 3 rfl]; exact hB
  have hU2 : zUn M c len nam := fun a b a0 a1 b0 b1 => by
    rw [zf_c f1 194 rfl, zf_c f1 195 rfl, zf_c f1 196 rfl]; exact hU a b a0 a1 b0 b1
  have hr : ∀ x, 0 ≤ x → x < 8 → M 197 x = zrk t x := fun x a b => zrk_u hp (fun i a b => (hT i a b).2) x a b
  refine e_M_looksAt (fun P Q hP hQ => ⟨fun z => absurd rfl z, fun _ => ?_⟩)
  refine s_M_laysPlaces (len := len) (nam := nam) (rk := zrk t) (by rw [e3]; exact zTn_ok ht) (by rw [e3]; exact hU2) hr (fun M2 f2 p2 k2 => ?_)
  rw [e3] at p2 k2
  have e32 : M2 179 3 = c := by rw [zf_a f2 179 3 rfl]; exact e3
  have ew : M2 179 45 = w := by rw [zf_a f2 179 45 rfl, zf_a f1 179 45 rfl]; exact h45
  have h184 : ∀ h, 0 ≤ h → h < c → M2 182 h = th h ∧ 0 ≤ th h ∧ th h ≤ 9 := fun h a b => by
    have := hth h a b
    rw [zf_c f2 182 rfl, zf_c f1 182 rfl]
    exact ⟨this.1, by omega, by omega⟩
  rw [ew]
  refine s_M_givesG (ord := t) (len := len) (nam := nam) (th := th) (by rw [e32]; exact ht) (by rw [e32]; exact ⟨p2, k2⟩) (fun h a b => h184 h a (by omega)) hw (fun M3 f3 c3 => ?_)
  rw [e32] at c3
  have e33 : M3 179 3 = c := by rw [zf_a f3 179 3 rfl]; exact e32
  have hc := ht.1
  have lm : ∀ h, 0 ≤ h → h < M3 179 3 → zUd c t len nam th w h = decide (M3 200 h < M3 182 h) := fun h a b => by
    rw [e33] at b
    rw [c3 h a b, zf_c f3 182 rfl, (h184 h a b).1]
    rfl
  have cost := zUd_n ht hw.1 (fun h a b => (hth h a b).2.1)
  have f13 : zf [206, 197, 207, 198, 199, 200] [(179, 43)] B M3 := zf_ww (zf_tr (zf_tr f1 f2) f3) rfl rfl
  have v3 : M3 179 43 = q.1 := by rw [zf_a f3 179 43 rfl, zf_a f2 179 43 rfl]; exact v1
  have b3 : ∀ j, 0 ≤ j → j < 8 → M3 207 j = q.2 j := fun j a b => by rw [zf_c f3 207 rfl, zf_c f2 207 rfl]; exact b1 j a b
  have k208 : M3 206 = M 206 := by rw [zf_c f3 206 rfl, zf_c f2 206 rfl]
  have k199 : M3 197 = M 197 := by rw [zf_c f3 197 rfl, zf_c f2 197 rfl]
  unfold zup at H
  dsimp only at H
  refine s_M_lessMany (p := zUd c t len nam th w) (by rw [e33]; exact hc) lm ?_
  rw [e33, cost, v3]
  have eS : c - zFn c w th (zPg c t len nam) = c - zSv c w th len nam t := rfl
  rw [eS]
  refine ⟨fun z => ?_, fun z => s_M_lessMany (p := zUd c t len nam th w) (by rw [e33]; exact hc) lm ?_⟩
  · rw [if_neg (by omega)] at H
    exact H M3 ⟨f13, v3, b3⟩ k208 k199
  · rw [e33, cost, eS]
    rw [if_pos (by omega)] at H
    refine s_M_keepsTurn (fun M4 f4 x1 x2 => H M4 ⟨zf_ww (zf_tr f13 f4) rfl rfl, x1, fun j a b => ?_⟩ (by rw [zf_c f4 206 rfl]; exact k208) (by rw [zf_c f4 197 rfl]; exact k199))
    rw [x2 j a b, k208]; exact (hT j a b).1
/-- the reference's first of the best is the class's -/
theorem zle8_ref {c w m v : Int} {th len nam ts b : Int → Int} (pb : zperm ts) (eb : zSv c w th len nam ts = m) (hm : ∀ t, zperm t → zSv c w th len nam t ≤ m) (fi : ∀ t, zperm t → zSv c w th len nam t = m → zle8 ts t) (hb : zperm b) (hv : c - zSv c w th len nam b = v) (h1 : ∀ t, zperm t → v ≤ c - zSv c w th len nam t) (h2 : ∀ t, zperm t → ∀ j, 0 ≤ j → j < 8 → (∀ i, 0 ≤ i → i < j → t i = b i) → t j < b j → v < c - zSv c w th len nam t) : v = c - m ∧ ∀ j, 0 ≤ j → j < 8 → b j = ts j := by
  have a1 := h1 ts pb
  have a2 := hm b hb
  have le := fi b hb (by omega)
  refine ⟨by omega, ?_⟩
  have main : ∀ k : Nat, k ≤ 8 → ∀ j : Int, 0 ≤ j → j < k → b j = ts j := by
    intro k
    induction k with
    | zero => intro _ j a b; omega
    | succ k ih =>
      intro hk j x z
      have ih := ih (by omega)
      by_cases e : j = k
      · rw [e]
        have u := le k (by omega) (by omega) (fun i p q => (ih i p q).symm)
        by_cases l : ts (k : Int) < b (k : Int)
        · have := h2 ts pb k (by omega) (by omega) (fun i p q => (ih i p q).symm) l
          omega
        · omega
      · exact ih j x (by omega)
  exact fun j a b => main 8 (by omega) j a b
theorem p_fewest {d : Nat} {n : Int} {M : zM} (hI : zI n M) (hn : n < 512) : zQ (d + 14) 77 215 [z_r (10, 0) 0] [z_r (11, 0) 179] n M := by
  have hI0 := hI
  obtain ⟨hb, hT, hR, hJ⟩ := hI
  obtain ⟨i1, i2, i3, i4, i5, i6, i7, i8⟩ := zJ_in hJ
  obtain ⟨c1, c2, c3⟩ := zJ_count hJ
  have hth : ∀ h, 0 ≤ h → h < M 179 3 → 1 ≤ M 46 h ∧ M 46 h ≤ 9 := fun h a b => (hJ.2.1 h a b).2
  have hN : ∀ t, zperm t → zTn (M 179 3) t (M 26) (M 25) := fun t hp => ⟨i4.1, hp, i4.2.2⟩
  unfold zQ
  refine e_W_fewest (e_W_yieldToday (s_W_yieldAt hJ i8.1 (fun M1 f1 => ?_)))
  have hw := zW_r M (M 23 6)
  generalize hW : zW M (M 23 6) = w at hw
  have q46 : M1 46 = M 46 := zf_c f1 46 rfl
  have q26 : M1 26 = M 26 := zf_c f1 26 rfl
  have q25 : M1 25 = M 25 := zf_c f1 25 rfl
  refine s_Thrift_seek (d := d + 7) (c := M 179 3) (by rw [zf_c f1 24 rfl, q26, q25]; exact i4) (by rw [zf_a f1 23 5 rfl]; exact c1) hw (by rw [zf_a f1 154 0 rfl]; exact hJ.2.2.2.2.2.2.2.2) (by rw [q46]; exact hth) (fun M2 m f2 z2 pb eb le fi => ?_)
  rw [q46, q26, q25] at eb le fi
  refine s_Row_tellAll (by decide) (by decide) (by decide) (fun M3 f3 r1 r2 => ?_)
  have f13 := zf_tr (zf_tr f1 f2) f3
  have f14 : zf ([7, 8, 9, 10, 11, 12, 13] ++ [148, 152, 153, 154, 155, 156] ++ [4]) ([(5, 9)] ++ [(144, 4), (151, 5)] ++ [(3, 1)] ++ [(179, 0)]) M (z_up M3 179 0 0) := zf_uj (zf_ww f13 rfl rfl) (by decide)
  have e5 : M3 23 5 = M 179 3 := by rw [zf_a f13 23 5 rfl]; exact c1
  have e3 : (z_up M3 179 0 0) 179 3 = M 179 3 := zf_a f14 179 3 rfl
  have nm := zTn_nm i4
  have rw3 : zRw (z_up M3 179 0 0) 183 (M 179 3) (M 24) (M 26) (M 25) := zRw_f (S := []) (J := []) i5 (zf_c f14 183 rfl)
  refine e_M_fewest (s_M_laysUnlike (by decide) (by decide) (by rw [e3]; exact zRw_nm i4 rw3) (fun M4 f4 U4 => ⟨by decide, ?_⟩))
  rw [e3] at U4
  have U5 : zUn M4 (M 179 3) (M 26) (M 25) := zUn_c i4 rw3 U4
  have f15 := zf_tr f14 f4
  have hJ4 := zJ_154 hJ f15 rfl (by rw [zf_a f4 154 0 rfl, zu_c (by decide), zf_a f3 154 0 rfl]; exact z2)
  have e80 : M4 183 80 = M 23 6 := by rw [zf_c f15 183 rfl]; exact i7
  rw [e80]
  refine s_M_yieldAt hJ4 i8.1 (fun M5 f5 => ?_)
  have eW : zW M4 (M 23 6) = zW M (M 23 6) := by
    unfold zW
    rw [zf_a f15 5 1 rfl, zf_a f15 45 2 rfl, zf_a f15 179 3 rfl, zf_c f15 6 rfl, zf_c f15 47 rfl, zf_c f15 46 rfl]
  rw [eW, hW]
  generalize hB : z_up (z_up M5 179 45 w) 179 43 1000000 = B
  have fB : zf [192, 193] [(179, 45), (179, 43)] M4 B := by rw [← hB]; exact zf_uj (zf_uj (zf_ww f5 rfl rfl) (by decide)) (by decide)
  have f1B := zf_tr f15 fB
  have B3 : B 179 3 = M 179 3 := zf_a f1B 179 3 rfl
  have B45 : B 179 45 = w := by rw [← hB, zu_i (by decide), zu_s]
  have B43 : B 179 43 = 1000000 := by rw [← hB, zu_s]
  have BU : zUn B (M 179 3) (M 26) (M 25) := fun a b a0 a1 b0 b1 => by
    rw [zf_c fB 194 rfl, zf_c fB 195 rfl, zf_c fB 196 rfl]; exact U5 a b a0 a1 b0 b1
  have Bth : ∀ h, 0 ≤ h → h < M 179 3 → B 182 h = M 46 h ∧ 1 ≤ M 46 h ∧ M 46 h ≤ 9 := fun h a b => by
    rw [zf_c f1B 182 rfl]; exact ⟨(i6 h a b).1, hth h a b⟩
  have gt := s_M_goesThrough (Inv := zLi0 B) (up := zup (fun t => M 179 3 - zSv (M 179 3) w (M 46) (M 26) (M 25) t)) (w := 0) (d := d + 4) (fun Ma Mb q hq f => ⟨zf_ww (zf_tr hq.1 f) rfl rfl, by rw [zf_a f 179 43 rfl]; exact hq.2.1, fun j a b => by rw [zf_c f 207 rfl]; exact hq.2.2 j a b⟩) (fun Ma q t F' hq hp ht' H' => s_looks0 B3 hN BU B45 hw Bth Ma q t F' hq hp ht' H') 8 0 0 (fun _ => 0) (1000000, B 207) B
  rw [show d + 4 + 8 + 1 = d + 13 by omega] at gt
  refine gt _ (by omega) (by omega) (zPx_0 _) ⟨zf_rf, B43, fun j _ _ => rfl⟩ (fun j a b => by omega) (fun M6 h6 _ => ?_)
  have sv : ∀ t, 0 ≤ zSv (M 179 3) w (M 46) (M 26) (M 25) t := fun t => (zcn_le _ _).1
  have fst := zgo_fst (C := fun t => M 179 3 - zSv (M 179 3) w (M 46) (M 26) (M 25) t) (fun e e' he => by
    show M 179 3 - zFn _ _ _ (zpl _ (zrk e) _ _) = M 179 3 - zFn _ _ _ (zpl _ (zrk e') _ _)
    rw [zrk_c he]) 8 0 (fun _ => 0) 0 1000000 (B 207) (by omega) (zPx_0 _)
  generalize zgo (zup (fun t => M 179 3 - zSv (M 179 3) w (M 46) (M 26) (M 25) t)) 8 (fun _ => 0) 0 (1000000, B 207) = r at h6 fst
  have ref : r.1 = M 179 3 - m ∧ ∀ j, 0 ≤ j → j < 8 → r.2 j = M2 152 j := by
    rcases fst with ⟨_, y⟩ | ⟨y1, y2, y3, _, y5⟩
    · exfalso
      have y : (1000000 : Int) ≤ M 179 3 - zSv (M 179 3) w (M 46) (M 26) (M 25) (fun x => x) := y (fun x => x) ⟨fun i a b => ⟨a, b⟩, fun i j _ _ _ _ e => e⟩ (fun j a b => by omega)
      have := sv (fun x => x)
      omega
    · exact zle8_ref pb eb le fi y3 y2 (fun t hp => (y5 t hp (fun j a b => by omega)).1) (fun t hp j a b e l => (y5 t hp (fun j a b => by omega)).2 j a b e l)
  obtain ⟨y1, y2, y3⟩ := h6
  rw [y2]
  refine s_M_tellsTurn (fun M7 f7 q1 q2 => ⟨?_, ?_⟩)
  · have lm := le (fun x => x) ⟨fun i a b => ⟨a, b⟩, fun i j _ _ _ _ e => e⟩
    have s0 := sv (fun x => x)
    have mx : m ≤ M 179 3 := by
      have := (zcn_le (zFs (M 179 3) w (M 46) (zPg (M 179 3) (M2 152) (M 26) (M 25))) (M 179 3).toNat).2
      have : zSv (M 179 3) w (M 46) (M 26) (M 25) (M2 152) ≤ (((M 179 3).toNat : Nat) : Int) := this
      omega
    rw [e5, zw (by omega) (by omega), ref.1]
  · have f16 := zf_tr f1B y1
    have g154 : M7 154 0 = 0 := by
      rw [zf_a f7 154 0 rfl, zf_a y1 154 0 rfl, zf_a fB 154 0 rfl, zf_a f4 154 0 rfl, zu_c (by decide), zf_a f3 154 0 rfl]; exact z2
    have g31 : M7 3 1 = 8 := by
      rw [zf_a f7 3 1 rfl, zf_a y1 3 1 rfl, zf_a fB 3 1 rfl, zf_a f4 3 1 rfl, zu_c (by decide)]; exact r1
    refine ⟨by have := hI0.1; omega, iT_f hT (zf_tr f16 f7) rfl, ⟨by rw [g31, q1], by omega, by omega, fun j a b => ?_⟩, zJ_n (zJ_154 hJ (zf_tr f16 f7) rfl g154) (by omega)⟩
    rw [g31] at b
    rw [zf_c f7 4 rfl, zf_c y1 4 rfl, zf_c fB 4 rfl, zf_c f4 4 rfl, zu_c (by decide), r2 j a b, q2 j a b, y3 j a b, ref.2 j a b]

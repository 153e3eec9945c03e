/-! the first of the best orders in the reference; how many can be served at most -/
theorem zgo_fst {C : (Int → Int) → Int} (hC : ∀ e e' : Int → Int, (∀ j, 0 ≤ j → j < 8 → e j = e' j) → C e = C e') : ∀ (f k : Nat) (t : Int → Int) (s v : Int) (b : Int → Int), k + f = 8 → zPx (k : Int) t s →
    (zgo (zup C) f t s (v, b) = (v, b) ∧ ∀ e, zperm e → (∀ j : Int, 0 ≤ j → j < k → e j = t j) → v ≤ C e) ∨
    ((zgo (zup C) f t s (v, b)).1 < v ∧ C (zgo (zup C) f t s (v, b)).2 = (zgo (zup C) f t s (v, b)).1 ∧ zperm (zgo (zup C) f t s (v, b)).2 ∧ (∀ j : Int, 0 ≤ j → j < k → (zgo (zup C) f t s (v, b)).2 j = t j) ∧ ∀ e, zperm e → (∀ j : Int, 0 ≤ j → j < k → e j = t j) → (zgo (zup C) f t s (v, b)).1 ≤ C e ∧ ∀ j : Int, (k : Int) ≤ j → j < 8 → (∀ i, 0 ≤ i → i < j → e i = (zgo (zup C) f t s (v, b)).2 i) → e j < (zgo (zup C) f t s (v, b)).2 j → (zgo (zup C) f t s (v, b)).1 < C e) := by
  intro f
  induction f with
  | zero =>
    intro k t s v b hk hp
    have : k = 8 := by omega
    subst this
    have e0 : zgo (zup C) 0 t s (v, b) = if C t < v then (C t, t) else (v, b) := rfl
    rw [e0]
    by_cases q : C t < v
    · rw [if_pos q]
      refine Or.inr ⟨q, rfl, zPx_p hp, fun _ _ _ => rfl, fun e he ee => ⟨?_, fun j a b => by omega⟩⟩
      rw [hC e t ee]; exact Int.le_refl _
    · rw [if_neg q]
      refine Or.inl ⟨rfl, fun e he ee => ?_⟩
      rw [hC e t ee]; omega
  | succ f ih =>
    intro k t s v b hk hp
    have ek : 7 - (f : Int) = (k : Int) := by omega
    have e0 : zgo (zup C) (f + 1) t s (v, b) = zglp (fun i q => if zb s i = true then q else zgo (zup C) f (fun j => if j = 7 - (f : Int) then i else t j) (zbs s i) q) 8 (v, b) := rfl
    rw [e0, ek]
    have main : ∀ n : Nat, n ≤ 8 → ∀ r, r = zglp (fun i q => if zb s i = true then q else zgo (zup C) f (fun j => if j = (k : Int) then i else t j) (zbs s i) q) n (v, b) →
        (r = (v, b) ∧ ∀ e, zperm e → (∀ j : Int, 0 ≤ j → j < k → e j = t j) → e (k : Int) < n → v ≤ C e) ∨
        (r.1 < v ∧ C r.2 = r.1 ∧ zperm r.2 ∧ (∀ j : Int, 0 ≤ j → j < k → r.2 j = t j) ∧ r.2 (k : Int) < n ∧ ∀ e, zperm e → (∀ j : Int, 0 ≤ j → j < k → e j = t j) → e (k : Int) < n → r.1 ≤ C e ∧ ∀ j : Int, (k : Int) ≤ j → j < 8 → (∀ i, 0 ≤ i → i < j → e i = r.2 i) → e j < r.2 j → r.1 < C e) := by
      intro n
      induction n with
      | zero =>
        intro _ r hr
        refine Or.inl ⟨hr, fun e he ee l => ?_⟩
        have := he.1 k (by omega) (by omega)
        omega
      | succ n ihn =>
        intro hn r hr
        have ihn := ihn (by omega) _ rfl
        have e1 : zglp (fun i q => if zb s i = true then q else zgo (zup C) f (fun j => if j = (k : Int) then i else t j) (zbs s i) q) (n + 1) (v, b) = (if zb s (n : Int) = true then zglp (fun i q => if zb s i = true then q else zgo (zup C) f (fun j => if j = (k : Int) then i else t j) (zbs s i) q) n (v, b) else zgo (zup C) f (fun j => if j = (k : Int) then (n : Int) else t j) (zbs s n) (zglp (fun i q => if zb s i = true then q else zgo (zup C) f (fun j => if j = (k : Int) then i else t j) (zbs s i) q) n (v, b))) := rfl
        rw [e1] at hr
        generalize zglp (fun i q => if zb s i = true then q else zgo (zup C) f (fun j => if j = (k : Int) then i else t j) (zbs s i) q) n (v, b) = r0 at hr ihn
        by_cases z : zb s (n : Int) = true
        · rw [if_pos z] at hr
          subst hr
          have no : ∀ e, zperm e → (∀ j : Int, 0 ≤ j → j < k → e j = t j) → e (k : Int) < ((n + 1 : Nat) : Int) → e (k : Int) < n := fun e he ee l => by
            refine Classical.byContradiction (fun y => ?_)
            obtain ⟨j, hj, ej⟩ := (hp.2.2.2 n (by omega)).mp z
            have := he.2 j k hj.1 (by omega) (by omega) (by omega) (by rw [ee j hj.1 hj.2, ej]; omega)
            omega
          rcases ihn with ⟨g1, g2⟩ | ⟨g1, g2, g3, g4, g5, g6⟩
          · exact Or.inl ⟨g1, fun e he ee l => g2 e he ee (no e he ee l)⟩
          · exact Or.inr ⟨g1, g2, g3, g4, by omega, fun e he ee l => g6 e he ee (no e he ee l)⟩
        · rw [if_neg z] at hr
          have z' : zb s (n : Int) = false := by simpa using z
          have hp' := zPx_s hp (by omega) (show 0 ≤ (n : Int) ∧ (n : Int) < 8 by omega) z'
          obtain ⟨v1, b1⟩ := r0
          have nx := ih (k + 1) (fun j => if j = (k : Int) then (n : Int) else t j) (zbs s n) v1 b1 (by omega) (by rw [show ((k + 1 : Nat) : Int) = (k : Int) + 1 by omega]; exact hp')
          rw [← hr] at nx
          have ext : ∀ e : Int → Int, (∀ j : Int, 0 ≤ j → j < k → e j = t j) → e (k : Int) = n → ∀ j : Int, 0 ≤ j → j < ((k + 1 : Nat) : Int) → e j = (if j = (k : Int) then (n : Int) else t j) := fun e ee en j a c => by
            by_cases q : j = k
            · rw [if_pos q, q]; exact en
            · rw [if_neg q]; exact ee j a (by omega)
          have low : (v1 ≤ v) ∧ ∀ e, zperm e → (∀ j : Int, 0 ≤ j → j < k → e j = t j) → e (k : Int) < n → v1 ≤ C e := by
            rcases ihn with ⟨g1, g2⟩ | ⟨g1, g2, g3, g4, g5, g6⟩
            · have : v1 = v := congrArg Prod.fst g1
              rw [this]; exact ⟨Int.le_refl _, g2⟩
            · exact ⟨Int.le_of_lt g1, fun e he ee l => (g6 e he ee l).1⟩
          rcases nx with ⟨x1, x2⟩ | ⟨x1, x2, x3, x4, x5⟩
          · rw [x1]
            rcases ihn with ⟨g1, g2⟩ | ⟨g1, g2, g3, g4, g5, g6⟩
            · refine Or.inl ⟨g1, fun e he ee l => ?_⟩
              by_cases q : e (k : Int) < n
              · exact g2 e he ee q
              · have : v1 = v := congrArg Prod.fst g1
                rw [← this]; exact x2 e he (ext e ee (by omega))
            · have g5 : b1 (k : Int) < n := g5
              refine Or.inr ⟨g1, g2, g3, g4, by show b1 (k : Int) < ((n + 1 : Nat) : Int); omega, fun e he ee l => ?_⟩
              by_cases q : e (k : Int) < n
              · exact g6 e he ee q
              · refine ⟨x2 e he (ext e ee (by omega)), fun j a c ei l2 => ?_⟩
                exfalso
                by_cases q2 : j = k
                · have l2 : e j < b1 j := l2
                  rw [q2] at l2; omega
                · have := ei k (by omega) (by omega)
                  have this : e (k : Int) = b1 k := this
                  omega
          · have xk := x4 k (by omega) (by omega)
            rw [if_pos rfl] at xk
            refine Or.inr ⟨by omega, x2, x3, fun j a c => ?_, by omega, fun e he ee l => ?_⟩
            · have := x4 j a (by omega)
              rw [if_neg (by omega)] at this; exact this
            · by_cases q : e (k : Int) < n
              · have := low.2 e he ee q
                exact ⟨by omega, fun _ _ _ _ _ => by omega⟩
              · obtain ⟨y1, y2⟩ := x5 e he (ext e ee (by omega))
                refine ⟨y1, fun j a c ei l2 => ?_⟩
                by_cases q2 : j = k
                · rw [q2, xk] at l2; omega
                · exact y2 j (by omega) c ei l2
    have fin := main 8 (by omega) _ rfl
    rcases fin with ⟨g1, g2⟩ | ⟨g1, g2, g3, g4, g5, g6⟩
    · exact Or.inl ⟨g1, fun e he ee => g2 e he ee (he.1 k (by omega) (by omega)).2⟩
    · exact Or.inr ⟨g1, g2, g3, g4, fun e he ee => g6 e he ee (he.1 k (by omega) (by omega)).2⟩
theorem zcn_sm (p : Int → Bool) : ∀ n : Nat, zcn p n = zsm (fun h => if p h = true then 1 else 0) n
  | 0 => rfl
  | n + 1 => by
    show zcn p n + (if p n = true then 1 else 0) = zsm (fun h => if p h = true then 1 else 0) n + (if p n = true then 1 else 0)
    rw [zcn_sm p n]
/-- the row by thirst -/
def zByt (c : Int) (th bt : Int → Int) : Prop := (∀ i, 0 ≤ i → i < c → 0 ≤ bt i ∧ bt i < c) ∧ (∀ i j, 0 ≤ i → i < c → 0 ≤ j → j < c → bt i = bt j → i = j) ∧ ∀ i j, 0 ≤ i → i ≤ j → j < c → th (bt i) ≤ th (bt j)
def zHw (c w : Int) (th bt A : Int → Int) (op h : Int) : Int := if w - zts th (zbs (A h) h) < 0 then 0 else zcard (zbs (A h) h) + zgd (fun i => zb op (bt i) && decide (zts th (zbs (z_or (zbs (A h) h) (A (bt i))) (bt i)) ≤ w)) (fun i => th (bt i)) c.toNat 0 (w - zts th (zbs (A h) h))
theorem zss_sp {c S R : Int} {f bt th : Int → Int} (hc : 0 ≤ c ∧ c ≤ 8) (hb : zByt c th bt) (hS : ∀ o, 0 ≤ o → zb S o = true → o < c) (hR : ∀ o, 0 ≤ o → zb R o = true → zb S o = true) : zss f S = zss f R + zsf (fun i => if (zb S (bt i) && !zb R (bt i)) = true then f (bt i) else 0) 0 c.toNat := by
  have e1 : zss f S = zsm (fun o => (if zb R o = true then f o else 0) + (if decide (o < ((c.toNat : Nat) : Int)) = true then (if (zb S o && !zb R o) = true then f o else 0) else 0)) 8 := by
    unfold zss
    refine zsm_c 8 (fun o a b => ?_)
    show (if zb S o = true then f o else 0) = _
    by_cases q : zb S o = true
    · have := hS o a q
      rw [if_pos q, if_pos (decide_eq_true (by omega)), q]
      cases w : zb R o
      · rw [if_neg (by decide), if_pos (by decide)]; omega
      · rw [if_pos rfl, if_neg (by decide)]; omega
    · have w : zb R o = false := by
        cases w : zb R o
        · rfl
        · exact absurd (hR o a w) q
      have q' : zb S o = false := by simpa using q
      rw [if_neg q, w, q', if_neg (by decide), if_neg (show ¬ (false && !false) = true by decide)]
      split <;> rfl
  rw [e1, zsm_add, zsm_cut _ c.toNat 8 (by omega), zsf_sm, zsm_pm (f := fun o => if (zb S o && !zb R o) = true then f o else 0) (n := c.toNat) (T := bt) (fun k a b => by have := hb.1 k a (by omega); omega) (fun i j a b x y e => hb.2.1 i j a (by omega) x (by omega) e)]
  unfold zss
  congr 1
  refine zsm_c _ (fun k a b => ?_)
  show _ = (if (zb S (bt (0 + k)) && !zb R (bt (0 + k))) = true then f (bt (0 + k)) else 0)
  rw [Int.zero_add]
theorem zgd_0 {q : Int → Bool} {t : Int → Int} : ∀ (n : Nat) (i r : Int), (∀ j, i ≤ j → j < i + n → q j = false) → zgd q t n i r = 0
  | 0, _, _, _ => rfl
  | n + 1, i, r, h => by
    show (if q i = true ∧ t i ≤ r then 1 + zgd q t n (i + 1) (r - t i) else zgd q t n (i + 1) r) = 0
    rw [if_neg (fun y => by have := h i (by omega) (by omega); rw [this] at y; exact absurd y.1 (by decide))]
    exact zgd_0 n (i + 1) r (fun j a b => h j (by omega) (by omega))
/-- a beginning, by houses: A who is surely ahead, O who may be -/
def zSty (c : Int) (pl A O : Int → Int) : Prop := (∀ h, 0 ≤ h → h < c → (0 ≤ A h ∧ A h < 256) ∧ ∀ o, 0 ≤ o → zb (A h) o = true → o < c ∧ pl o < pl h) ∧ ∀ h, 0 ≤ h → h < c → ∀ o, 0 ≤ o → o < c → pl o < pl h → zb (A h) o = false → zb (O h) o = true
theorem zHw_up {c w h : Int} {th bt A O pl T : Int → Int} (hc : 0 ≤ c ∧ c ≤ 8) (hb : zbk c pl T) (hth : ∀ h, 0 ≤ h → h < c → 1 ≤ th h) (hbt : zByt c th bt) (hA : zSty c pl A O) (hh : 0 ≤ h ∧ h < c) (hs : zFs c w th pl h = true) : zcard (zFr c pl h) ≤ zHw c w th bt A (O h) h := by
  have hs : zts th (zFr c pl h) ≤ w := of_decide_eq_true hs
  obtain ⟨r1, r2⟩ := zFr_b (pl := pl) (h := h) hc
  obtain ⟨a1, a2⟩ := hA.1 h hh.1 hh.2
  have sb : ∀ o, 0 ≤ o → (zb (zbs (A h) h) o = true ↔ zb (A h) o = true ∨ h = o) := fun o o0 => by
    rw [zb_zbs (by omega) (by omega) o0, Bool.or_eq_true, decide_eq_true_iff]
  have sS : ∀ o, 0 ≤ o → zb (zbs (A h) h) o = true → zb (zFr c pl h) o = true := fun o o0 z => by
    rcases (sb o o0).mp z with y | y
    · have := a2 o o0 y
      exact (r2 o o0).mpr ⟨this.1, by omega⟩
    · rw [← y]; exact (r2 h hh.1).mpr ⟨hh.2, Int.le_refl _⟩
  have nn : ∀ o, 0 ≤ o → o < 8 → zb (zFr c pl h) o = true → 0 ≤ th o := fun o a _ z => by
    have := hth o a ((r2 o a).mp z).1
    omega
  have le1 := zts_le (th := th) (x := zbs (A h) h) (A := zFr c pl h) nn (fun o a _ z => sS o a z)
  have e1 : zts th (zFr c pl h) = zts th (zbs (A h) h) + _ := zss_sp (f := th) hc hbt (fun o a z => ((r2 o a).mp z).1) sS
  have e2 := zss_sp (f := fun _ => 1) hc hbt (fun o a z => ((r2 o a).mp z).1) sS
  rw [← zcard_ss, ← zcard_ss] at e2
  unfold zHw
  rw [if_neg (by omega), e2]
  have op := zgd_opt (q := fun i => zb (O h) (bt i) && decide (zts th (zbs (z_or (zbs (A h) h) (A (bt i))) (bt i)) ≤ w)) (t := fun i => th (bt i)) c.toNat 0 (w - zts th (zbs (A h) h)) (fun i => zb (zFr c pl h) (bt i) && !zb (zbs (A h) h) (bt i)) (fun j a b => by
      have := hbt.1 j a (by omega)
      have := hth _ this.1 this.2
      show 0 ≤ th (bt j)
      omega) (fun j k a b z => hbt.2.2 j k a b (by omega)) (fun j a b z => ?_) (by
      show zsf (fun i => if (zb (zFr c pl h) (bt i) && !zb (zbs (A h) h) (bt i)) = true then th (bt i) else 0) 0 c.toNat ≤ w - zts th (zbs (A h) h)
      omega)
  · have op : zsf (fun i => if (zb (zFr c pl h) (bt i) && !zb (zbs (A h) h) (bt i)) = true then (1 : Int) else 0) 0 c.toNat ≤ _ := op
    omega
  · have bj := hbt.1 j a (by omega)
    have z : (zb (zFr c pl h) (bt j) && !zb (zbs (A h) h) (bt j)) = true := z
    show (zb (O h) (bt j) && decide (zts th (zbs (z_or (zbs (A h) h) (A (bt j))) (bt j)) ≤ w)) = true
    generalize bt j = o at bj z
    rw [Bool.and_eq_true, Bool.not_eq_true'] at z
    have z1 := ((r2 o bj.1).mp z.1).2
    have ne : h ≠ o := fun e => by
      have := (sb o bj.1).mpr (Or.inr e)
      rw [z.2] at this; cases this
    have na : zb (A h) o = false := by
      cases y : zb (A h) o
      · rfl
      · have := (sb o bj.1).mpr (Or.inl y)
        rw [z.2] at this; cases this
    have lt : pl o < pl h := by
      have x1 := (hb.1 o bj.1 bj.2).2.2
      have x2 := (hb.1 h hh.1 hh.2).2.2
      have : pl o ≠ pl h := fun e => ne (by rw [← x1, ← x2, e])
      omega
    obtain ⟨b1, b2⟩ := hA.1 o bj.1 bj.2
    have sr := zbs_lt a1 (i := h) (by omega)
    have orr : 0 ≤ z_or (zbs (A h) h) (A o) ∧ z_or (zbs (A h) h) (A o) < 256 := by
      rw [z_or_n ⟨sr.1, by omega⟩ ⟨b1.1, by omega⟩]
      have h2 : (zbs (A h) h).toNat ||| (A o).toNat < 2 ^ 8 := Nat.or_lt_two_pow (by omega) (by omega)
      exact ⟨Int.natCast_nonneg _, by omega⟩
    rw [Bool.and_eq_true]
    refine ⟨hA.2 h hh.1 hh.2 o bj.1 bj.2 lt na, decide_eq_true ?_⟩
    refine Int.le_trans (zts_le (A := zFr c pl h) nn (fun x x0 _ y => ?_)) hs
    rw [zb_zbs (by omega) (by omega) x0, zb_or (by omega) (by omega), Bool.or_eq_true, Bool.or_eq_true, decide_eq_true_iff] at y
    rcases y with (y | y) | y
    · exact sS x x0 y
    · have := b2 x x0 y
      exact (r2 x x0).mpr ⟨this.1, by omega⟩
    · rw [← y]; exact z.1
theorem zHp_up {c w : Int} {th bt A O pl T : Int → Int} (hc : 0 ≤ c ∧ c ≤ 8) (hb : zbk c pl T) (hth : ∀ h, 0 ≤ h → h < c → 1 ≤ th h) (hbt : zByt c th bt) (hA : zSty c pl A O) : zFn c w th pl ≤ zmx (fun h => zHw c w th bt A (O h) h) c.toNat := by
  obtain ⟨m1, m2, -⟩ := zmx_s (fun h => zHw c w th bt A (O h) h) c.toNat
  by_cases ex : ∃ h : Int, (0 ≤ h ∧ h < (c.toNat : Nat)) ∧ zFs c w th pl h = true
  · obtain ⟨h, hh, ph, mh⟩ := z_min (p := zFs c w th pl) (fun h => -pl h) c.toNat ex
    have hh' : 0 ≤ h ∧ h < c := by omega
    have up := zHw_up hc hb hth hbt hA hh' ph
    have e : zFn c w th pl = zcard (zFr c pl h) := by
      unfold zFn zFr
      rw [zcard_st _ (by omega), ← zcn_sm]
      refine zcn_c _ (fun o a b => ?_)
      show zFs c w th pl o = decide (pl o ≤ pl h)
      by_cases q : pl o ≤ pl h
      · rw [decide_eq_true q]
        have ph : zts th (zFr c pl h) ≤ w := of_decide_eq_true ph
        refine decide_eq_true (Int.le_trans (zts_le (A := zFr c pl h) (fun x x0 _ z => ?_) (fun x x0 _ z => ?_)) ph)
        · have := hth x x0 (((zFr_b hc).2 x x0).mp z).1; omega
        · have := ((zFr_b hc).2 x x0).mp z
          exact ((zFr_b hc).2 x x0).mpr ⟨this.1, by omega⟩
      · rw [decide_eq_false q]
        cases y : zFs c w th pl o
        · rfl
        · have y2 : -pl h ≤ -pl o := mh o a b y
          omega
    have := m2 h hh'.1 (by omega)
    have this : zHw c w th bt A (O h) h ≤ _ := this
    omega
  · have : zFn c w th pl = 0 := by
      unfold zFn
      rw [zcn_c (q := fun _ => false) c.toNat (fun o a b => by
        cases y : zFs c w th pl o
        · rfl
        · exact absurd ⟨o, ⟨a, b⟩, y⟩ ex), zcn_sm]
      exact zsm_0 _
    omega
/-- settled: exact -/
theorem zHp_eq {c w : Int} {th bt A O pl T : Int → Int} (hc : 0 ≤ c ∧ c ≤ 8) (hb : zbk c pl T) (hth : ∀ h, 0 ≤ h → h < c → 1 ≤ th h) (hbt : zByt c th bt) (hA : zSty c pl A O) (hO : ∀ h, 0 ≤ h → h < c → O h = 0) : zmx (fun h => zHw c w th bt A (O h) h) c.toNat = zFn c w th pl := by
  have up := zHp_up (w := w) hc hb hth hbt hA
  obtain ⟨m1, m2, m3⟩ := zmx_s (fun h => zHw c w th bt A (O h) h) c.toNat
  have nn := (zcn_le (zFs c w th pl) c.toNat).1
  have nn : 0 ≤ zFn c w th pl := nn
  have le : zmx (fun h => zHw c w th bt A (O h) h) c.toNat ≤ zFn c w th pl := by
    rcases m3 with z | ⟨h, hh, e⟩
    · omega
    · rw [← e]
      show zHw c w th bt A (O h) h ≤ _
      have hh' : 0 ≤ h ∧ h < c := by omega
      obtain ⟨a1, a2⟩ := hA.1 h hh'.1 hh'.2
      have eS : zbs (A h) h = zFr c pl h := by
        refine zb_ext (zbs_lt a1 (i := h) (by omega)).1 (zFr_b (pl := pl) (h := h) hc).1.1 (fun o o0 => ?_)
        have r := (zFr_b (pl := pl) (h := h) hc).2 o o0
        have l : zb (zbs (A h) h) o = true ↔ zb (A h) o = true ∨ h = o := by
          rw [zb_zbs (by omega) (by omega) o0, Bool.or_eq_true, decide_eq_true_iff]
        have iff : zb (zbs (A h) h) o = true ↔ zb (zFr c pl h) o = true := by
          rw [l, r]
          constructor
          · rintro (y | y)
            · have := a2 o o0 y
              exact ⟨this.1, by omega⟩
            · rw [← y]; exact ⟨hh'.2, Int.le_refl _⟩
          · rintro ⟨y1, y2⟩
            by_cases q : h = o
            · exact Or.inr q
            · left
              have x1 := (hb.1 o o0 y1).2.2
              have x2 := (hb.1 h hh'.1 hh'.2).2.2
              have ne : pl o ≠ pl h := fun e => q (by rw [← x1, ← x2, e])
              cases y : zb (A h) o
              · have := hA.2 h hh'.1 hh'.2 o o0 y1 (by omega) y
                rw [hO h hh'.1 hh'.2, zb_0] at this; cases this
              · rfl
        cases u : zb (zbs (A h) h) o
        · cases v : zb (zFr c pl h) o
          · rfl
          · have := iff.mpr v; rw [u] at this; cases this
        · exact (iff.mp u).symm
      unfold zHw
      rw [eS, hO h hh'.1 hh'.2]
      split
      · exact nn
      · rename_i q
        rw [zgd_0 _ _ _ (fun j _ _ => by (try dsimp only); rw [zb_0]; rfl), Int.add_zero]
        unfold zFn zFr
        rw [zcard_st _ (by omega), ← zcn_sm]
        refine zcn_m _ (fun o a b z => ?_)
        have z : pl o ≤ pl h := of_decide_eq_true z
        refine decide_eq_true (Int.le_trans (zts_le (A := zFr c pl h) (fun x x0 _ z => ?_) (fun x x0 _ z => ?_)) (show zts th (zFr c pl h) ≤ w by omega))
        · have := hth x x0 (((zFr_b hc).2 x x0).mp z).1; omega
        · have := ((zFr_b hc).2 x x0).mp z
          exact ((zFr_b hc).2 x x0).mpr ⟨this.1, by omega⟩
  omega

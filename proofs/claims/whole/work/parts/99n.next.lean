/-! the class's search, letter by letter -/
def zPo (c w tb : Int) (th len nam p : Int → Int) (U : (Int → Int) → Prop) (k m : Int) (M M' : zM) : Prop :=
  (M' 151 10 = m ∧ (∀ j, 0 ≤ j → j < 8 → M' 152 j = M 152 j) ∧ ∀ t, zperm t → U t → zSv c w th len nam t ≤ m) ∨
  (m < M' 151 10 ∧ (∀ t, zperm t → U t → zSv c w th len nam t ≤ M' 151 10) ∧ ∃ q n, (∀ j, 0 ≤ j → j < k → q j = p j) ∧ zFd c w tb k (M' 151 10) th len nam q n (M' 152))
theorem zPo_le {c w tb k m : Int} {th len nam p : Int → Int} {U : (Int → Int) → Prop} {M M' : zM} (h : zPo c w tb th len nam p U k m M M') : m ≤ M' 151 10 ∧ ∀ t, zperm t → U t → zSv c w th len nam t ≤ M' 151 10 := by
  rcases h with ⟨a, b, e⟩ | ⟨a, b, e⟩
  · rw [a]; exact ⟨Int.le_refl _, e⟩
  · exact ⟨Int.le_of_lt a, b⟩
/-- nothing better among V -/
theorem zPo_a {c w tb k m : Int} {th len nam p : Int → Int} {U V : (Int → Int) → Prop} {M M1 M2 : zM} (h : zPo c w tb th len nam p U k m M M1) (e1 : M2 151 10 = M1 151 10) (e2 : ∀ j, 0 ≤ j → j < 8 → M2 152 j = M1 152 j) (hV : ∀ t, zperm t → V t → U t ∨ zSv c w th len nam t ≤ M1 151 10) : zPo c w tb th len nam p V k m M M2 := by
  have le := zPo_le h
  have hV' : ∀ t, zperm t → V t → zSv c w th len nam t ≤ M1 151 10 := fun t ht v => by
    rcases hV t ht v with u | u
    · exact le.2 t ht u
    · exact u
  rcases h with ⟨a, b, e⟩ | ⟨a, b, q, n, g1, g2⟩
  · left
    rw [a] at hV' e1
    exact ⟨e1, fun j x y => by rw [e2 j x y]; exact b j x y, hV'⟩
  · right
    rw [e1]
    refine ⟨a, hV', q, n, g1, ?_⟩
    obtain ⟨f1, f2, f3, f4, f5⟩ := g2
    exact ⟨f1, f2, zMg_c e2 f3, f4, f5⟩
/-- a better one found -/
theorem zPo_b {c w tb k m l : Int} {th len nam p q : Int → Int} {n : Int} {U V : (Int → Int) → Prop} {M M1 M2 : zM} (h : zPo c w tb th len nam p U k m M M1) (hk : 0 ≤ k) (lt : M1 151 10 < M2 151 10) (hV : ∀ t, zperm t → V t → U t ∨ zSv c w th len nam t ≤ M2 151 10) (eq : ∀ j, 0 ≤ j → j < k → q j = p j) (ek : k < n → q k = l) (hU : ∀ x, 0 ≤ x → x < l → zb tb x = true → (∀ j, 0 ≤ j → j < k → p j ≠ x) → ∀ t, zXt tb (zPn p k x) (k + 1) t → U t) (hF : zFd c w tb (k + 1) (M2 151 10) th len nam q n (M2 152)) : zPo c w tb th len nam p V k m M M2 := by
  have le := zPo_le h
  right
  refine ⟨by omega, fun t ht v => ?_, q, n, eq, ?_⟩
  · rcases hV t ht v with u | u
    · have := le.2 t ht u; omega
    · exact u
  · obtain ⟨f1, f2, f3, f4, f5⟩ := hF
    refine ⟨f1, f2, f3, f4, fun i x a b x0 x1 w un t ht hX => ?_⟩
    by_cases e : i = k
    · subst e
      have := le.2 t ht (hU x x0 (by rw [← ek b]; exact x1) w (fun j y z => by rw [← eq j y z]; exact un j y z) t (zXt_c (fun j y z => by
        by_cases u : j = i
        · rw [u, zPn_n, zPn_n]
        · rw [zPn_l u, zPn_l u, eq j y (by omega)]) (Int.le_refl _) hX))
      omega
    · exact f5 i x (by omega) b x0 x1 w un t ht hX
theorem zLv_c {c n : Int} {len nam p : Int → Int} {M M' : zM} (h : zLv c len nam p n M) (hc : c ≤ 8) (e : ∀ i, i < n * 8 + 8 → M' 156 i = M 156 i ∧ M' 157 i = M 157 i) : zLv c len nam p n M' := fun x a b => by
  rw [(e (n * 8 + x) (by omega)).1, (e (n * 8 + x) (by omega)).2]
  exact h x a b
theorem s_Thrift_setNext {d : Nat} {c w tb bd : Int} {th len nam bt : Int → Int} (hw : 0 ≤ w ∧ w ≤ 99) (hth : ∀ h, 0 ≤ h → h < c → 1 ≤ th h ∧ th h ≤ 9) (hN : ∀ t, zperm t → zTn c t len nam) (hnm : znm c len nam) (hTl : zTl c tb len nam) (hbt : zByt c th bt) (hbd : ∀ t, zperm t → zSv c w th len nam t ≤ bd) :
    ∀ (f : Nat) (n s m : Int) (p : Int → Int) (M : zM) (F : zM → Prop), n + f = 8 → 0 ≤ n → n < 8 → zPx n p s → (∀ j, 0 ≤ j → j < n → zb tb (p j) = true) → zTf c w tb th len nam bt M → M 151 10 = m → M 151 11 = bd → (∀ j, 0 ≤ j → j < n → M 158 j = p j) → zLv c len nam p n M → (∃ y : Int, (0 ≤ y ∧ y < 8) ∧ zb tb y = true ∧ zb s y = false) →
      (∀ M', zf [152, 156, 157, 158] [(151, 10)] M M' → (∀ i, i < n * 8 + 8 → M' 156 i = M 156 i ∧ M' 157 i = M 157 i) → (∀ j, j < n → M' 158 j = M 158 j) → zPo c w tb th len nam p (zXt tb p n) n m M M' → F M') → zCv (d + f + 4) 89 [z_r (8, 0) 151, z_i n, z_i s] M F := by
  have hc := hnm.1
  have hth1 : ∀ h, 0 ≤ h → h < c → 1 ≤ th h := fun h a b => (hth h a b).1
  intro f
  induction f with
  | zero =>
    intro n s m p M F hn n0 n8
    omega
  | succ f ih =>
    intro n s m p M F hn n0 n8 hp hpt hT hm hb hch hL ex H
    have s8 := hp.1
    rw [show d + (f + 1) + 4 = (d + f + 4) + 1 by omega]
    refine e_Thrift_setNext (fun P hP => ?_)
    -- the orders that begin with a letter below l
    generalize hU : (fun (l : Int) (t : Int → Int) => ∃ x, (0 ≤ x ∧ x < l) ∧ zb tb x = true ∧ zb s x = false ∧ zXt tb (zPn p n x) (n + 1) t) = U
    have eU : ∀ l t, U l t ↔ ∃ x, (0 ≤ x ∧ x < l) ∧ zb tb x = true ∧ zb s x = false ∧ zXt tb (zPn p n x) (n + 1) t := fun l t => by rw [← hU]
    have loop : ∀ (k : Nat) (l : Int) (M1 : zM), l + k = 8 → 0 ≤ l → zf [152, 156, 157, 158] [(151, 10)] M M1 → (∀ i, i < n * 8 + 8 → M1 156 i = M 156 i ∧ M1 157 i = M 157 i) → (∀ j, j < n → M1 158 j = M 158 j) → zPo c w tb th len nam p (U l) n m M M1 → P n s l M1 := by
      intro k
      induction k with
      | zero =>
        intro l M1 hl l0 f1 v1 c1 g1
        have : l = 8 := by omega
        subst this
        refine hP _ _ _ _ ⟨fun _ => H M1 f1 v1 c1 (zPo_a g1 rfl (fun _ _ _ => rfl) (fun t ht hX => Or.inl ?_)), fun z => absurd (by decide) z⟩
        obtain ⟨x, hx, x1, x2, x3⟩ := zXt_x ht n0 hp hX ex
        exact (eU 8 t).mpr ⟨x, hx, x1, x2, x3⟩
      | succ k ihk =>
        intro l M1 hl l0 f1 v1 c1 g1
        have b1 : M1 151 11 = bd := by rw [zf_a f1 151 11 rfl]; exact hb
        have t1 : M1 151 4 = tb := by rw [zf_a f1 151 4 rfl]; exact hT.2.2.1
        have hT1 : zTf c w tb th len nam bt M1 := zTf_f hT (zf_ww f1 rfl rfl)
        refine hP _ _ _ _ ⟨fun z => absurd z (by omega), fun _ => ⟨fun z => ?_, fun z => ?_⟩⟩
        · rw [b1] at z
          exact H M1 f1 v1 c1 (zPo_a g1 rfl (fun _ _ _ => rfl) (fun t ht _ => Or.inr (by have := hbd t ht; omega)))
        · rw [t1, zw (x := l + 1) (by omega) (by omega), zw (x := n + 1) (by omega) (by omega)]
          have nx := ihk (l + 1)
          have skip : (zb tb l = true → zb s l = true) → P n s (l + 1) M1 := fun hs => nx M1 (by omega) (by omega) f1 v1 c1 (zPo_a g1 rfl (fun _ _ _ => rfl) (fun t ht hX => Or.inl (by
            obtain ⟨x, hx, x1, x2, x3⟩ := (eU _ t).mp hX
            refine (eU _ t).mpr ⟨x, ⟨hx.1, ?_⟩, x1, x2, x3⟩
            have : x ≠ l := fun e => by
              rw [e] at x1 x2
              have := hs x1
              rw [x2] at this; cases this
            omega)))
          refine s_W_isIn (by have := hTl.1; omega) (by omega) ?_
          by_cases w1 : zb tb l = true
          · rw [if_pos w1]
            refine ⟨fun y => absurd y (by decide), fun _ => s_W_isIn (by omega) (by omega) ?_⟩
            by_cases w2 : zb s l = true
            · rw [if_pos w2]
              exact ⟨fun y => absurd y (by decide), fun _ => skip (fun _ => w2)⟩
            · rw [if_neg w2]
              have w2' : zb s l = false := by simpa using w2
              refine ⟨fun _ => ⟨by omega, ?_⟩, fun y => absurd rfl y⟩
              -- the letter is set
              have fa : zf [152, 156, 157, 158] [(151, 10)] M (z_up M1 158 n l) := zf_us f1 (by decide)
              refine s_Thrift_settle (p := p) hnm (zTf_f hT (zf_ww fa rfl rfl)) ⟨n0, n8⟩ ⟨l0, by omega⟩ hp (zLv_c hL hc.2 (fun i hi => by rw [zu_c (by decide), zu_c (by decide)]; exact v1 i hi)) (fun M2 f2 v2 L2 => ?_)
              have f02 : zf [152, 156, 157, 158] [(151, 10)] M M2 := zf_ww (zf_tr fa f2) rfl rfl
              have hT2 := zTf_f hT (zf_ww f02 rfl rfl : zf [152, 156, 157, 158] [(151, 10), (151, 11)] M M2)
              have m2 : M2 151 10 = M1 151 10 := by rw [zf_a f2 151 10 rfl, zu_c (by decide)]
              have be2 : ∀ j, 0 ≤ j → j < 8 → M2 152 j = M1 152 j := fun j _ _ => by rw [zf_c f2 152 rfl, zu_c (by decide)]
              have vv : ∀ i, i < n * 8 + 8 → M2 156 i = M 156 i ∧ M2 157 i = M 157 i := fun i hi => by
                rw [(v2 i hi).1, (v2 i hi).2, zu_c (by decide), zu_c (by decide)]; exact v1 i hi
              have ch2 : ∀ j, 0 ≤ j → j < n + 1 → M2 158 j = zPn p n l j := fun j a b => by
                rw [zf_c f2 158 rfl]
                by_cases e : j = n
                · rw [e, zu_s, zPn_n]
                · rw [zu_i e, zPn_l e, c1 j (by omega)]; exact hch j a (by omega)
              have c2 : ∀ j, j < n → M2 158 j = M 158 j := fun j a => by
                rw [zf_c f2 158 rfl, zu_i (by omega)]; exact c1 j a
              have hp2 := zPx_s hp n0 (show 0 ≤ l ∧ l < 8 by omega) w2'
              have hpt2 : ∀ j, 0 ≤ j → j < n + 1 → zb tb (zPn p n l j) = true := fun j a b => by
                by_cases e : j = n
                · rw [e, zPn_n]; exact w1
                · rw [zPn_l e]; exact hpt j a (by omega)
              have up : ∀ t, zperm t → zXt tb (zPn p n l) (n + 1) t → zSv c w th len nam t ≤ zmx (zHv c w th bt (n + 1) M2) c.toNat := fun t ht hX => zHp_up hc (zbk_g (hN t ht)) hth1 hbt (zLv_St (hN t ht) hTl L2 hX)
              have eqS : (∀ h, 0 ≤ h → h < c → zOq c (M2 156 ((n + 1) * 8 + h)) (M2 157 ((n + 1) * 8 + h)) h = 0) → ∀ t, zperm t → zXt tb (zPn p n l) (n + 1) t → zSv c w th len nam t = zmx (zHv c w th bt (n + 1) M2) c.toNat := fun h0 t ht hX => (zHp_eq hc (zbk_g (hN t ht)) hth1 hbt (zLv_St (hN t ht) hTl L2 hX) h0).symm
              have split : ∀ t, U (l + 1) t → U l t ∨ zXt tb (zPn p n l) (n + 1) t := fun t hX => by
                obtain ⟨x, hx, x1, x2, x3⟩ := (eU _ t).mp hX
                by_cases e : x = l
                · rw [e] at x3; exact Or.inr x3
                · exact Or.inl ((eU _ t).mpr ⟨x, by omega, x1, x2, x3⟩)
              have below : ∀ x, 0 ≤ x → x < l → zb tb x = true → (∀ j, 0 ≤ j → j < n → p j ≠ x) → ∀ t, zXt tb (zPn p n x) (n + 1) t → U l t := fun x x0 x1 t1 un t hX => (eU l t).mpr ⟨x, ⟨x0, x1⟩, t1, by
                cases y : zb s x
                · rfl
                · obtain ⟨j, hj, ej⟩ := (hp.2.2.2 x x0).mp y
                  exact absurd ej (un j hj.1 hj.2), hX⟩
              refine s_Thrift_hope hc hw hth hT2 hbt (by omega) L2 ⟨fun z3 => ?_, fun z3 => ?_⟩
              · -- no better one behind it
                rw [m2] at z3
                exact nx M2 (by omega) (by omega) f02 vv c2 (zPo_a g1 m2 be2 (fun t ht hX => by
                  rcases split t hX with u | u
                  · exact Or.inl u
                  · have := up t ht u
                    exact Or.inr (by omega)))
              · rw [m2] at z3
                generalize hV : zmx (zHv c w th bt (n + 1) M2) c.toNat = V at z3 up eqS
                -- kept
                have keep : (∀ h, 0 ≤ h → h < c → zOq c (M2 156 ((n + 1) * 8 + h)) (M2 157 ((n + 1) * 8 + h)) h = 0) → zCv (d + f + 4) 87 [z_r (8, 0) 151, z_i (n + 1), z_i (z_or s (z_shl 1 l)), z_i V] M2 (fun M16 => P n s (l + 1) M16) := fun h0 => by
                  refine s_Thrift_keepBest (p := zPn p n l) (by rw [zf_a f02 151 4 rfl]; exact hT.2.2.1) hTl.1 (by omega) hp2 hpt2 ch2 (fun M3 q N f3 e3 c3 q3 hN3 qt cov asc mg => ?_)
                  have f03 : zf [152, 156, 157, 158] [(151, 10)] M M3 := zf_ww (zf_tr f02 f3) rfl rfl
                  refine nx M3 (by omega) (by omega) f03 (fun i hi => by rw [zf_c f3 156 rfl, zf_c f3 157 rfl]; exact vv i hi) (fun j a => by rw [c3 j (by omega)]; exact c2 j a) (zPo_b (l := l) (q := q) (n := N) g1 n0 (by omega) (fun t ht hX => ?_) (fun j a b => by rw [q3 j a (by omega), zPn_l (by omega)]) (fun _ => by rw [q3 n n0 (by omega), zPn_n]) below ⟨by omega, qt, mg, fun t ht hX => ?_, fun i x a b x0 x1 w un => ?_⟩)
                  · rcases split t hX with u | u
                    · exact Or.inl u
                    · have := up t ht u
                      exact Or.inr (by omega)
                  · rw [e3]
                    exact eqS h0 t ht (zXt_c (fun j a b => (q3 j a b).symm) (by omega) hX)
                  · obtain ⟨j, hj, ej⟩ := asc i a b x x0 x1 w
                    exact absurd ej (un j hj.1 hj.2)
                refine ⟨fun z4 => keep ?_, fun z4 => ?_⟩
                · have n7 : n + 1 = 8 := by omega
                  refine zLv_all hnm hTl L2 (fun y y0 y1 _ => ?_)
                  rw [n7] at hp2 ⊢
                  exact zperm_s (zPx_p hp2) y y0 y1
                · refine s_Thrift_isSettled hT2.1 hc (by omega) (fun h0 => ⟨fun _ => keep h0, fun y => absurd (by decide) y⟩) (fun h0 => ⟨fun y => absurd rfl y, fun _ => ?_⟩)
                  -- deeper
                  have exx : ∃ y : Int, (0 ≤ y ∧ y < 8) ∧ zb tb y = true ∧ zb (zbs s l) y = false := by
                    refine Classical.byContradiction (fun no => ?_)
                    obtain ⟨h, hh, ne⟩ := h0
                    refine ne (zLv_all hnm hTl L2 (fun y y0 y1 w => ?_) h hh.1 hh.2)
                    cases u : zb (zbs s l) y
                    · exact absurd ⟨y, ⟨y0, y1⟩, w, u⟩ no
                    · exact (hp2.2.2.2 y y0).mp u
                  refine ih (n + 1) (zbs s l) (M1 151 10) (zPn p n l) M2 _ (by omega) (by omega) (by omega) hp2 hpt2 hT2 m2 (by rw [zf_a f02 151 11 rfl]; exact hb) ch2 L2 exx (fun M3 f3 v3 c3 g3 => ?_)
                  have f03 : zf [152, 156, 157, 158] [(151, 10)] M M3 := zf_ww (zf_tr f02 f3) rfl rfl
                  refine nx M3 (by omega) (by omega) f03 (fun i hi => by rw [(v3 i (by omega)).1, (v3 i (by omega)).2]; exact vv i hi) (fun j a => by rw [c3 j (by omega)]; exact c2 j a) ?_
                  rcases g3 with ⟨y1, y2, y3⟩ | ⟨y1, y2, q, N, y3, y4⟩
                  · refine zPo_a g1 y1 (fun j a b => by rw [y2 j a b]; exact be2 j a b) (fun t ht hX => ?_)
                    rcases split t hX with u | u
                    · exact Or.inl u
                    · exact Or.inr (y3 t ht u)
                  · refine zPo_b (l := l) (q := q) (n := N) g1 n0 y1 (fun t ht hX => ?_) (fun j a b => by rw [y3 j a (by omega), zPn_l (by omega)]) (fun _ => by rw [y3 n n0 (by omega), zPn_n]) below y4
                    rcases split t hX with u | u
                    · exact Or.inl u
                    · exact Or.inr (y2 t ht u)
          · rw [if_neg w1]
            exact ⟨fun _ => skip (fun y => absurd y w1), fun y => absurd rfl y⟩
    refine loop 8 0 M (by omega) (by omega) zf_rf (fun i _ => ⟨rfl, rfl⟩) (fun j _ => rfl) (Or.inl ⟨hm, fun _ _ _ => rfl, fun t ht hX => ?_⟩)
    obtain ⟨x, hx, _⟩ := (eU 0 t).mp hX
    omega

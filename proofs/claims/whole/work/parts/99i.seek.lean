/-! the order that leaves the fewest dry: what a beginning says -/
def zXt (tb : Int) (p : Int → Int) (n : Int) (t : Int → Int) : Prop := ∀ i, 0 ≤ i → i < n → ∀ y, 0 ≤ y → y < 8 → zb tb y = true → (∀ j, 0 ≤ j → j < i → p j ≠ y) → y ≠ p i → zrk t (p i) < zrk t y
def zEA (len nam p : Int → Int) (n o h : Int) : Prop := o ≠ h ∧ ((zmi len nam o h = -1 ∧ zia len o h = 1) ∨ (zmi len nam o h ≠ -1 ∧ ∃ i, (0 ≤ i ∧ i < n) ∧ p i = zmi len nam o h ∧ ∀ j, 0 ≤ j → j < i → p j ≠ zmi len nam h o))
/-- all letters that tell houses apart are in tb -/
def zTl (c tb : Int) (len nam : Int → Int) : Prop := (0 ≤ tb ∧ tb < 256) ∧ ∀ a b, 0 ≤ a → a < c → 0 ≤ b → b < c → zmi len nam a b ≠ -1 → zb tb (zmi len nam a b) = true
theorem zTn_nm {c : Int} {ord len nam : Int → Int} (h : zTn c ord len nam) : znm c len nam := ⟨h.1, h.2.2.1, fun x i a b a' b' => by have := h.2.2.1 x a b; have := h.1; exact h.2.2.2 _ (by omega) (by omega)⟩
theorem zmi_f {c : Int} {len nam : Int → Int} (hn : znm c len nam) {a b : Int} (ha : 0 ≤ a ∧ a < c) (hb : 0 ≤ b ∧ b < c) (rk : Int → Int) : (zmi len nam a b = -1 ∧ zmi len nam b a = -1 ∧ zah rk len nam a b = decide (zia len a b = 1)) ∨ ((0 ≤ zmi len nam a b ∧ zmi len nam a b < 8) ∧ (0 ≤ zmi len nam b a ∧ zmi len nam b a < 8) ∧ zmi len nam a b ≠ zmi len nam b a ∧ zah rk len nam a b = decide (rk (zmi len nam a b) < rk (zmi len nam b a))) := by
  have la := hn.2.1 a ha.1 ha.2
  have lb := hn.2.1 b hb.1 hb.2
  have s := zdf_s (len := len) (nam := nam) (a := a) (b := b) (by omega) (by omega)
  have y1 : zmn len b a = zmn len a b := zmn_sym len b a
  have y2 : zdf len nam b a = zdf len nam a b := zdf_sym (by omega) (by omega)
  have m1 : zmn len a b ≤ len a ∧ zmn len a b ≤ len b := by unfold zmn; split <;> omega
  unfold zmi zah
  rw [y1, y2]
  by_cases q : zdf len nam a b < zmn len a b
  · right
    rw [if_pos q, if_pos q, if_pos q]
    exact ⟨hn.2.2 a _ ha.1 ha.2 s.1.1 (by omega), hn.2.2 b _ hb.1 hb.2 s.1.1 (by omega), s.2.2 q, rfl⟩
  · left
    rw [if_neg q, if_neg q, if_neg q]
    refine ⟨rfl, rfl, ?_⟩
    unfold zia
    by_cases e : len a = len b
    · rw [if_pos e, if_pos e]
      by_cases w : a < b
      · rw [if_pos w, decide_eq_true w]; rfl
      · rw [if_neg w, decide_eq_false w]; rfl
    · rw [if_neg e, if_neg e]
      by_cases w : len a < len b
      · rw [if_pos w, decide_eq_true w]; rfl
      · rw [if_neg w, decide_eq_false w]; rfl
theorem zia_n {len : Int → Int} {a b : Int} (h : a ≠ b) : zia len a b = 1 ↔ ¬ zia len b a = 1 := by
  unfold zia
  by_cases e : len a = len b
  · rw [if_pos e, if_pos e.symm]
    split <;> split <;> omega
  · rw [if_neg e, if_neg (show ¬ len b = len a from fun y => e y.symm)]
    split <;> split <;> omega
theorem zEA_lt {c tb n o h : Int} {len nam t p : Int → Int} (ht : zTn c t len nam) (hb : zTl c tb len nam) (hX : zXt tb p n t) (ho : 0 ≤ o ∧ o < c) (hh : 0 ≤ h ∧ h < c) (hE : zEA len nam p n o h) : zPg c t len nam o < zPg c t len nam h := by
  have ok := zTn_ok ht
  refine zpl_lt ok ho hh ((zky_lt ok ho hh hE.1).mpr ?_)
  rcases zmi_f (zTn_nm ht) ho hh (zrk t) with ⟨e1, e2, e3⟩ | ⟨e1, e2, e3, e4⟩
  · rw [e3]
    rcases hE.2 with w | w
    · exact decide_eq_true w.2
    · exact absurd e1 w.1
  · rw [e4]
    rcases hE.2 with w | w
    · have := w.1; omega
    · obtain ⟨_, i, hi, pi, pj⟩ := w
      refine decide_eq_true ?_
      have := hX i hi.1 hi.2 (zmi len nam h o) e2.1 e2.2 (hb.2 h o hh.1 hh.2 ho.1 ho.2 (by omega)) pj (by rw [pi]; exact fun e => e3 e.symm)
      rw [pi] at this; exact this
/-- if all letters stand, all is settled -/
theorem zEA_all {c tb n o h : Int} {len nam p : Int → Int} (hn : znm c len nam) (hb : zTl c tb len nam) (ho : 0 ≤ o ∧ o < c) (hh : 0 ≤ h ∧ h < c) (ne : o ≠ h) (all : ∀ y, 0 ≤ y → y < 8 → zb tb y = true → ∃ j, (0 ≤ j ∧ j < n) ∧ p j = y) : zEA len nam p n o h ∨ zEA len nam p n h o := by
  rcases zmi_f hn ho hh (fun x => x) with ⟨e1, e2, e3⟩ | ⟨e1, e2, e3, e4⟩
  · by_cases z : zia len o h = 1
    · exact Or.inl ⟨ne, Or.inl ⟨e1, z⟩⟩
    · refine Or.inr ⟨fun e => ne e.symm, Or.inl ⟨e2, ?_⟩⟩
      exact (zia_n (fun e => ne e.symm)).mpr z
  · obtain ⟨i, hi, pi⟩ := all _ e1.1 e1.2 (hb.2 o h ho.1 ho.2 hh.1 hh.2 (by omega))
    obtain ⟨k, hk, pk, mk⟩ := z_min (p := fun k => decide (p k = zmi len nam o h) || decide (p k = zmi len nam h o)) (fun k => k) n.toNat ⟨i, by omega, by (try dsimp only); rw [pi]; simp⟩
    have low : ∀ j, 0 ≤ j → j < k → p j ≠ zmi len nam o h ∧ p j ≠ zmi len nam h o := fun j a b => by
      constructor
      · intro e
        have := mk j a (by omega) (by (try dsimp only); rw [e]; simp)
        omega
      · intro e
        have := mk j a (by omega) (by (try dsimp only); rw [e]; simp)
        omega
    have pk : (decide (p k = zmi len nam o h) || decide (p k = zmi len nam h o)) = true := pk
    rw [Bool.or_eq_true, decide_eq_true_iff, decide_eq_true_iff] at pk
    rcases pk with pk | pk
    · exact Or.inl ⟨ne, Or.inr ⟨by omega, k, by omega, pk, fun j a b => (low j a b).2⟩⟩
    · exact Or.inr ⟨fun e => ne e.symm, Or.inr ⟨by omega, k, by omega, pk, fun j a b => (low j a b).1⟩⟩
/-- one letter more -/
def zPn (p : Int → Int) (n x : Int) : Int → Int := fun j => if j = n then x else p j
theorem zPn_n (p : Int → Int) (n x : Int) : zPn p n x n = x := if_pos rfl
theorem zPn_l {p : Int → Int} {n x j : Int} (h : j ≠ n) : zPn p n x j = p j := if_neg h
theorem zEA_s {len nam p : Int → Int} {n o h x : Int} (hn : 0 ≤ n) : zEA len nam (zPn p n x) (n + 1) o h ↔ zEA len nam p n o h ∨ (o ≠ h ∧ zmi len nam o h ≠ -1 ∧ x = zmi len nam o h ∧ ∀ j, 0 ≤ j → j < n → p j ≠ zmi len nam h o) := by
  constructor
  · rintro ⟨ne, w | ⟨w, i, hi, pi, pj⟩⟩
    · exact Or.inl ⟨ne, Or.inl w⟩
    · by_cases e : i = n
      · rw [e, zPn_n] at pi
        refine Or.inr ⟨ne, w, pi, fun j a b => ?_⟩
        have := pj j a (by omega)
        rw [zPn_l (by omega)] at this; exact this
      · rw [zPn_l e] at pi
        refine Or.inl ⟨ne, Or.inr ⟨w, i, by omega, pi, fun j a b => ?_⟩⟩
        have := pj j a (by omega)
        rw [zPn_l (by omega)] at this; exact this
  · rintro (⟨ne, w | ⟨w, i, hi, pi, pj⟩⟩ | ⟨ne, w, e, pj⟩)
    · exact ⟨ne, Or.inl w⟩
    · refine ⟨ne, Or.inr ⟨w, i, by omega, by rw [zPn_l (by omega)]; exact pi, fun j a b => ?_⟩⟩
      rw [zPn_l (by omega)]; exact pj j a b
    · refine ⟨ne, Or.inr ⟨w, n, by omega, by rw [zPn_n]; exact e, fun j a b => ?_⟩⟩
      rw [zPn_l (by omega)]; exact pj j a b
theorem zEA_c {len nam p q : Int → Int} {n o h : Int} (e : ∀ j, 0 ≤ j → j < n → p j = q j) (hE : zEA len nam p n o h) : zEA len nam q n o h := by
  obtain ⟨ne, w | ⟨w, i, hi, pi, pj⟩⟩ := hE
  · exact ⟨ne, Or.inl w⟩
  · exact ⟨ne, Or.inr ⟨w, i, hi, by rw [← e i hi.1 hi.2]; exact pi, fun j a b => by rw [← e j a (by omega)]; exact pj j a b⟩⟩
theorem zXt_c {tb n n' : Int} {p q t : Int → Int} (e : ∀ j, 0 ≤ j → j < n → p j = q j) (hn : n ≤ n') (h : zXt tb q n' t) : zXt tb p n t := fun i a b y y0 y1 w pj ne => by
  rw [e i a b] at ne ⊢
  exact h i a (by omega) y y0 y1 w (fun j x z => by rw [← e j x (by omega)]; exact pj j x z) ne
theorem zXt_x {tb n s : Int} {p t : Int → Int} (ht : zperm t) (hn : 0 ≤ n) (hp : zPx n p s) (hX : zXt tb p n t) (ex : ∃ y : Int, (0 ≤ y ∧ y < 8) ∧ zb tb y = true ∧ zb s y = false) : ∃ x, (0 ≤ x ∧ x < 8) ∧ zb tb x = true ∧ zb s x = false ∧ zXt tb (zPn p n x) (n + 1) t := by
  obtain ⟨y, hy, y1, y2⟩ := ex
  obtain ⟨x, hx, px, mx⟩ := z_min (p := fun y => zb tb y && !zb s y) (zrk t) 8 ⟨y, hy, by (try dsimp only); rw [y1, y2]; rfl⟩
  have px : (zb tb x && !zb s x) = true := px
  rw [Bool.and_eq_true, Bool.not_eq_true'] at px
  refine ⟨x, hx, px.1, px.2, fun i a b y y0 y1 w pj ne => ?_⟩
  by_cases e : i = n
  · rw [e, zPn_n] at ne ⊢
    have us : zb s y = false := by
      cases z : zb s y
      · rfl
      · obtain ⟨j, hj, ej⟩ := (hp.2.2.2 y y0).mp z
        have := pj j hj.1 (by omega)
        rw [zPn_l (by omega)] at this
        exact absurd ej this
    have le := mx y y0 (by omega) (by (try dsimp only); rw [w, us]; rfl)
    have nn : zrk t x ≠ zrk t y := fun z => ne (zrk_j ht ⟨by omega, by omega⟩ ⟨y0, y1⟩ z).symm
    omega
  · rw [zPn_l e] at ne ⊢
    exact hX i a (by omega) y y0 y1 w (fun j x z => by have := pj j x z; rw [zPn_l (by omega)] at this; exact this) ne
/-- how many are served by an order -/
def zSv (c w : Int) (th len nam t : Int → Int) : Int := zFn c w th (zPg c t len nam)
/-- the letters that tell nobody apart are put in where the row is the least -/
def zMg (tb : Int) (q : Int → Int) (n : Int) (ts : Int → Int) : Prop := ∃ nx : Int → Int, ∀ i, 0 ≤ i → i < 8 → (0 ≤ nx i ∧ nx i ≤ n) ∧ (∀ y, 0 ≤ y → y < 8 → zb tb y = true → ((∃ j, (0 ≤ j ∧ j < i) ∧ ts j = y) ↔ (∃ j, (0 ≤ j ∧ j < nx i) ∧ q j = y))) ∧ (0 ≤ ts i ∧ ts i < 8) ∧ (∀ j, 0 ≤ j → j < i → ts j ≠ ts i) ∧ (zb tb (ts i) = true → nx i < n ∧ ts i = q (nx i)) ∧ (∀ y, 0 ≤ y → y < ts i → (∀ j, 0 ≤ j → j < i → ts j ≠ y) → zb tb y = true ∧ nx i < n ∧ y < q (nx i))
theorem zMg_c {tb n : Int} {q ts ts' : Int → Int} (e : ∀ j, 0 ≤ j → j < 8 → ts' j = ts j) (h : zMg tb q n ts) : zMg tb q n ts' := by
  obtain ⟨nx, h⟩ := h
  refine ⟨nx, fun i a b => ?_⟩
  obtain ⟨h1, h2, h3, h4, h5, h6⟩ := h i a b
  rw [e i a b]
  refine ⟨h1, fun y y0 y1 w => ?_, h3, fun j x z => by rw [e j x (by omega)]; exact h4 j x z, h5, fun y y0 y1 u => h6 y y0 y1 (fun j x z => by rw [← e j x (by omega)]; exact u j x z)⟩
  rw [← h2 y y0 y1 w]
  constructor
  · rintro ⟨j, hj, ej⟩; exact ⟨j, hj, by rw [← e j hj.1 (by omega)]; exact ej⟩
  · rintro ⟨j, hj, ej⟩; exact ⟨j, hj, by rw [e j hj.1 (by omega)]; exact ej⟩
theorem zMg_p {tb n : Int} {q ts : Int → Int} (h : zMg tb q n ts) : zperm ts := by
  obtain ⟨nx, h⟩ := h
  refine ⟨fun i a b => (h i a b).2.2.1, fun i j a b x z e => ?_⟩
  by_cases l : i < j
  · exact absurd e ((h j x z).2.2.2.1 i a l)
  · by_cases r : j < i
    · exact absurd e.symm ((h i a b).2.2.2.1 j x r)
    · omega
/-- what stands first of the letters that tell is the row's -/
theorem zMg_o {tb n : Int} {q ts : Int → Int} (hq : ∀ j, 0 ≤ j → j < n → (0 ≤ q j ∧ q j < 8) ∧ zb tb (q j) = true) (h : zMg tb q n ts) {i a b y : Int} (hi : 0 ≤ i ∧ i < n) (hab : 0 ≤ b ∧ b < a ∧ a < 8) (ea : ts a = q i) (eb : ts b = y) (hy : 0 ≤ y ∧ y < 8) (w : zb tb y = true) (un : ∀ j, 0 ≤ j → j < i → q j ≠ y) : y = q i := by
  have hp := zMg_p h
  obtain ⟨nx, h⟩ := h
  obtain ⟨h1, h2, h3, h4, h5, h6⟩ := h b hab.1 (by omega)
  rw [eb] at h5
  obtain ⟨g1, g2⟩ := h5 w
  have z1 : nx b ≤ i := Classical.byContradiction (fun z => by
    obtain ⟨j, hj, ej⟩ := (h2 (q i) (hq i hi.1 hi.2).1.1 (hq i hi.1 hi.2).1.2 (hq i hi.1 hi.2).2).mpr ⟨i, by omega, rfl⟩
    have := hp.2 j a hj.1 (by omega) (by omega) hab.2.2 (by rw [ej, ea])
    omega)
  have z2 : i ≤ nx b := Classical.byContradiction (fun z => un (nx b) (by omega) (by omega) g2.symm)
  rw [g2, show nx b = i by omega]
theorem zMg_X {tb n : Int} {q ts : Int → Int} (hq : ∀ j, 0 ≤ j → j < n → (0 ≤ q j ∧ q j < 8) ∧ zb tb (q j) = true) (h : zMg tb q n ts) : zXt tb q n ts := fun i a b y y0 y1 w un ne => by
  have hp := zMg_p h
  have hqi := hq i a b
  have r1 := zrk_r ts (q i)
  have r2 := zrk_r ts y
  refine Classical.byContradiction (fun z => ne ?_)
  have nn : zrk ts y ≠ zrk ts (q i) := fun e => ne (zrk_j hp ⟨y0, y1⟩ hqi.1 e)
  exact zMg_o hq h (i := i) (a := zrk ts (q i)) (b := zrk ts y) ⟨a, b⟩ ⟨r2.1, by omega, r1.2⟩ (zrk_o hp _ hqi.1.1 hqi.1.2) (zrk_o hp y y0 y1) ⟨y0, y1⟩ w un
/-- an order that is less begins with a less row -/
theorem zMg_l {tb n : Int} {q ts b : Int → Int} (hq : ∀ j, 0 ≤ j → j < n → (0 ≤ q j ∧ q j < 8) ∧ zb tb (q j) = true) (h : zMg tb q n ts) (hb : zperm b) {j : Int} (hj : 0 ≤ j ∧ j < 8) (e : ∀ i, 0 ≤ i → i < j → b i = ts i) (lt : b j < ts j) : ∃ k, (0 ≤ k ∧ k < n) ∧ b j < q k ∧ zb tb (b j) = true ∧ (∀ i, 0 ≤ i → i < k → q i ≠ b j) ∧ zXt tb (zPn q k (b j)) (k + 1) b := by
  have hp := zMg_p h
  have h0 := h
  obtain ⟨nx, h⟩ := h
  obtain ⟨h1, h2, h3, h4, h5, h6⟩ := h j hj.1 hj.2
  have bj := hb.1 j hj.1 hj.2
  obtain ⟨g1, g2, g3⟩ := h6 (b j) bj.1 lt (fun i x z w => by
    rw [← e i x z] at w
    have := hb.2 i j x (by omega) hj.1 hj.2 w
    omega)
  have un : ∀ i, 0 ≤ i → i < nx j → q i ≠ b j := fun i x z w => by
    obtain ⟨i', hi', ei⟩ := (h2 (b j) bj.1 bj.2 g1).mpr ⟨i, ⟨x, z⟩, w⟩
    rw [← e i' hi'.1 hi'.2] at ei
    have := hb.2 i' j hi'.1 (by omega) hj.1 hj.2 ei
    omega
  refine ⟨nx j, ⟨h1.1, g2⟩, g3, g1, un, fun i a0 a1 y y0 y1 w pj ne => ?_⟩
  have r2 := zrk_r b y
  have oy := zrk_o hb y y0 y1
  by_cases q1 : i = nx j
  · rw [q1, zPn_n] at ne ⊢
    have ej : zrk b (b j) = j := zrk_i hb j hj.1 hj.2
    rw [ej]
    refine Classical.byContradiction (fun z => ?_)
    have nn : zrk b y ≠ j := fun e' => ne (by rw [← oy, e'])
    have := (h2 y y0 y1 w).mp ⟨zrk b y, by omega, by rw [← e _ r2.1 (by omega)]; exact oy⟩
    obtain ⟨i', hi', ei⟩ := this
    have := pj i' hi'.1 (by omega)
    rw [zPn_l (by omega)] at this
    exact this ei
  · rw [zPn_l q1] at ne ⊢
    have hi : 0 ≤ i ∧ i < n := by omega
    have hqi := hq i hi.1 hi.2
    obtain ⟨a, ha, ea⟩ := (h2 (q i) hqi.1.1 hqi.1.2 hqi.2).mpr ⟨i, by omega, rfl⟩
    have eb : b a = q i := by rw [e a ha.1 ha.2]; exact ea
    have ra : zrk b (q i) = a := by rw [← eb]; exact zrk_i hb a ha.1 (by omega)
    rw [ra]
    refine Classical.byContradiction (fun z => ne ?_)
    have nn : zrk b y ≠ a := fun e' => ne (by rw [← oy, e', eb])
    exact zMg_o hq h0 (i := i) (a := a) (b := zrk b y) hi ⟨r2.1, by omega, by omega⟩ ea (by rw [← e _ r2.1 (by omega)]; exact oy) ⟨y0, y1⟩ w (fun j' x z' => by have := pj j' x z'; rw [zPn_l (by omega)] at this; exact this)
/-- the first of the best orders: behind the first k letters of the row q -/
def zFd (c w tb k m : Int) (th len nam q : Int → Int) (n : Int) (ts : Int → Int) : Prop := (0 ≤ n ∧ n ≤ 8) ∧ (∀ j, 0 ≤ j → j < n → (0 ≤ q j ∧ q j < 8) ∧ zb tb (q j) = true) ∧ zMg tb q n ts ∧ (∀ t, zperm t → zXt tb q n t → zSv c w th len nam t = m) ∧ ∀ i x, k ≤ i → i < n → 0 ≤ x → x < q i → zb tb x = true → (∀ j, 0 ≤ j → j < i → q j ≠ x) → ∀ t, zperm t → zXt tb (zPn q i x) (i + 1) t → zSv c w th len nam t < m
theorem zFd_ref {c w tb m n v : Int} {th len nam q ts b : Int → Int} (h : zFd c w tb 0 m th len nam q n ts) (hm : ∀ t, zperm t → zSv c w th len nam t ≤ m) (hb : zperm b) (hv : c - zSv c w th len nam b = v) (h1 : ∀ t, zperm t → v ≤ c - zSv c w th len nam t) (h2 : ∀ t, zperm t → ∀ j, 0 ≤ j → j < 8 → (∀ i, 0 ≤ i → i < j → t i = b i) → t j < b j → v < c - zSv c w th len nam t) : v = c - m ∧ ∀ j, 0 ≤ j → j < 8 → b j = ts j := by
  obtain ⟨f1, f2, f3, f4, f5⟩ := h
  have hp := zMg_p f3
  have sv := f4 ts hp (zMg_X f2 f3)
  have a1 := h1 ts hp
  have a2 := hm b hb
  refine ⟨by omega, ?_⟩
  have main : ∀ k : Nat, k ≤ 8 → ∀ j : Int, 0 ≤ j → j < k → b j = ts j := by
    intro k
    induction k with
    | zero => intro _ j a b; omega
    | succ k ih =>
      intro hk j x z
      have ih := ih (by omega)
      by_cases e : j = k
      · subst e
        refine Classical.byContradiction (fun ne => ?_)
        by_cases l : ts (k : Int) < b (k : Int)
        · have := h2 ts hp k x (by omega) (fun i a0 a1 => (ih i a0 a1).symm) l
          omega
        · obtain ⟨k', hk', g1, g2, g3, g4⟩ := zMg_l f2 f3 hb (j := (k : Int)) ⟨x, by omega⟩ (fun i a0 a1 => ih i a0 a1) (by omega)
          have := f5 k' (b k) hk'.1 hk'.2 (hb.1 k x (by omega)).1 g1 g2 g3 b hb g4
          omega
      · exact ih j x (by omega)
  exact fun j a b => main 8 (by omega) j a b

/-! CALLS BY THE KIND OF THEIR ANSWER -/
def zCi (d y : Nat) (as : List zU) (M : zM) (F : Int → zM → Prop) : Prop := z_C d y as M (fun r M' => ∃ v, r = some (z_i v) ∧ F v M')
def zCl (d y : Nat) (as : List zU) (M : zM) (F : Int → zM → Prop) : Prop := z_C d y as M (fun r M' => ∃ v, r = some (z_l v) ∧ F v M')
def zCv (d y : Nat) (as : List zU) (M : zM) (F : zM → Prop) : Prop := z_C d y as M (fun r M' => r = none ∧ F M')
theorem z_Ci {d y : Nat} {as : List zU} {M : zM} {G : Int → zM → Prop} {R : Option zU → zM → Prop} (h : zCi d y as M G) (k : ∀ v M', G v M' → R (some (z_i v)) M') : z_C d y as M R :=
  z_C_mono d y as M _ R (fun r M' hh => by obtain ⟨v, rfl, hv⟩ := hh; exact k v M' hv) h
theorem z_Cl {d y : Nat} {as : List zU} {M : zM} {G : Int → zM → Prop} {R : Option zU → zM → Prop} (h : zCl d y as M G) (k : ∀ v M', G v M' → R (some (z_l v)) M') : z_C d y as M R :=
  z_C_mono d y as M _ R (fun r M' hh => by obtain ⟨v, rfl, hv⟩ := hh; exact k v M' hv) h
theorem z_Cv {d y : Nat} {as : List zU} {M : zM} {G : zM → Prop} {R : Option zU → zM → Prop} (h : zCv d y as M G) (k : ∀ M', G M' → R none M') : z_C d y as M R :=
  z_C_mono d y as M _ R (fun r M' hh => by obtain ⟨rfl, hv⟩ := hh; exact k M' hv) h
theorem zCi_mono {d y : Nat} {as : List zU} {M : zM} {G G' : Int → zM → Prop} (h : zCi d y as M G) (k : ∀ v M', G v M' → G' v M') : zCi d y as M G' := z_Ci h (fun v M' hv => ⟨v, rfl, k v M' hv⟩)
theorem zCl_mono {d y : Nat} {as : List zU} {M : zM} {G G' : Int → zM → Prop} (h : zCl d y as M G) (k : ∀ v M', G v M' → G' v M') : zCl d y as M G' := z_Cl h (fun v M' hv => ⟨v, rfl, k v M' hv⟩)
theorem zCv_mono {d y : Nat} {as : List zU} {M : zM} {G G' : zM → Prop} (h : zCv d y as M G) (k : ∀ M', G M' → G' M') : zCv d y as M G' := z_Cv h (fun M' hv => ⟨rfl, k M' hv⟩)
theorem s_String_length {d : Nat} {k : Int} {a : Nat} {M : zM} {F : Int → zM → Prop} (h : F k M) : zCi (d + 7) 257 [z_r (104, k) a] M F :=
  show z_C (d + 7) 257 _ _ _ from ⟨rfl, rfl, by show 6 ≤ d + 6; omega, k, rfl, h⟩
theorem s_String_charAt {d : Nat} {k j : Int} {a : Nat} {M : zM} {F : Int → zM → Prop} (hj : 0 ≤ j ∧ j < k) (h : F (z_chr a j) M) : zCi (d + 7) 258 [z_r (104, k) a, z_i j] M F :=
  show z_C (d + 7) 258 _ _ _ from ⟨rfl, rfl, by show 6 ≤ d + 6; omega, hj, z_chr a j, rfl, h⟩

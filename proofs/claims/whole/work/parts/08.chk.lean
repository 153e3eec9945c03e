/-! THE CHECK of an instruction against the tables, and what it says -/
/-- the pairs of a lookupswitch, as places -/
def z_lk (pc : Nat) : List (Int × Int) → List Nat → Bool
  | [], [] => true
  | (k, o) :: r, k' :: t :: ts => decide (k = (k' : Int)) && (decide ((pc : Int) + o = (t : Int)) && z_lk pc r ts)
  | _, _ => false
def z_tb : List Cond := lw_tbl.filter goodWord
def z_ck (t : Nat) : List Cond := match t with
  | 0 => k2_sels lw_privs | 1 => tables_1_1 | 2 => tables_1_2 | 3 => tables_1_3 | 4 => tables_1_4 | 5 => tables_1_5 | 6 => tables_1_6 | 7 => tables_1_7 | 8 => tables_1_8 | _ => []
def z_wd (w : Nat × Nat) : Option Cond := (z_ck w.1)[w.2]?
def z_has (w : Option (Nat × Nat)) (c : Cond) : Bool := match w with
  | some q => decide (z_wd q = some c)
  | none => false
theorem z_wd_mem {q : Nat × Nat} {c : Cond} (h : z_wd q = some c) : c ∈ lw_tbl := by
  have h1 : c ∈ z_ck q.1 := List.mem_of_getElem? h
  have h2 : ∀ t, c ∈ z_ck t → c ∈ lw_tbl := by
    intro t ht
    match t, ht with
    | 0, ht => exact List.mem_append_left _ ht
    | 1, ht => exact List.mem_append_right _ (List.mem_append_left _ ht)
    | 2, ht => exact List.mem_append_right _ (List.mem_append_right _ (List.mem_append_left _ ht))
    | 3, ht => exact List.mem_append_right _ (List.mem_append_right _ (List.mem_append_right _ (List.mem_append_left _ ht)))
    | 4, ht => exact List.mem_append_right _ (List.mem_append_right _ (List.mem_append_right _ (List.mem_append_right _ (List.mem_append_left _ ht))))
    | 5, ht => exact List.mem_append_right _ (List.mem_append_right _ (List.mem_append_right _ (List.mem_append_right _ (List.mem_append_right _ (List.mem_append_left _ ht)))))
    | 6, ht => exact List.mem_append_right _ (List.mem_append_right _ (List.mem_append_right _ (List.mem_append_right _ (List.mem_append_right _ (List.mem_append_right _ (List.mem_append_left _ ht))))))
    | 7, ht => exact List.mem_append_right _ (List.mem_append_right _ (List.mem_append_right _ (List.mem_append_right _ (List.mem_append_right _ (List.mem_append_right _ (List.mem_append_right _ (List.mem_append_left _ ht)))))))
    | 8, ht => exact List.mem_append_right _ (List.mem_append_right _ (List.mem_append_right _ (List.mem_append_right _ (List.mem_append_right _ (List.mem_append_right _ (List.mem_append_right _ (List.mem_append_right _ ht)))))))
    | t + 9, ht => cases ht
  exact h2 q.1 h1
theorem z_has_tb {w : Option (Nat × Nat)} {c : Cond} (h : z_has w c = true) (hg : goodWord c = true) : c ∈ z_tb := by
  cases w with
  | none => cases h
  | some q => exact List.mem_filter.mpr ⟨z_wd_mem (of_decide_eq_true h), hg⟩
theorem z_has_tbl {w : Option (Nat × Nat)} {c : Cond} (h : z_has w c = true) : c ∈ lw_tbl := by
  cases w with
  | none => cases h
  | some q => exact z_wd_mem (of_decide_eq_true h)
def z_tg (pc : Nat) (off : Int) (x : List Nat) : Bool := match x with
  | [t] => decide ((pc : Int) + off = (t : Int))
  | _ => false
def z_fd (own : String) (idx ci j : Nat) (w : Option (Nat × Nat)) : Bool := match z_cl[ci]? with
  | some q => decide (ci < 12) && (decide (j < q.2.2) && z_has w (.fieldLink own idx (q.2.1 j).1 (q.2.1 j).2.1 (q.2.1 j).2.2.1))
  | none => false
def z_pf (ci j : Nat) (d : String) : Bool := match z_cl[ci]? with
  | some q => !(q.2.1 j).2.2.2 && decide ((q.2.1 j).2.2.1 = d)
  | none => false
def z_nr (ci j : Nat) : Bool := match (z_ft.getD ci [])[j]? with
  | some q => !(Nat.beq q.1 1)
  | none => false
def z_cm (y na : Nat) (f : zY → Bool) : Bool := match z_mt[y]? with
  | some Y => decide (Y.2.2.1 ≤ 41) && (decide ((parseMethodDescriptor Y.1.desc).map (fun d => d.parameters.length) = some na) && f Y)
  | none => false
def z_rc (r : Nat) (C : String) : Bool := (decide (r < 12) && decide (z_cl[r]?.map (fun q => q.1) = some C)) || (decide (r = 104) && decide (C = "java/lang/String"))
def z_ce (own : String) (nL : Nat) (rt : Option FieldType) (pc : Nat) (i : Instr) (n : Nat) (x : List Nat) (v : Int) (w : List (Nat × Nat)) : Bool :=
  match i with
  | .iconst k => decide (n = 1) && (decide (k = v) && decide (z_ri v))
  | .bipush k => decide (n = 2) && (decide (k = v) && decide (-128 ≤ k ∧ k < 128))
  | .sipush k => decide (n = 3) && (decide (k = v) && decide (-32768 ≤ k ∧ k < 32768))
  | .lconst k => decide (n = 1) && decide ((k.val : Int) = v)
  | .ldc2_w k => decide (n = 3) && (decide (z_rl v) && z_has w[0]? (.constantLong own k (Int64.ofInt v)))
  | .ldc k => decide (n = 2) && (match x with
    | [j, len] => decide (z_st[j]?.map (fun q => (q.1, q.2.1)) = some (own, k)) && (decide (j < 7) && decide (z_sl.getD j 0 = len))
    | [] => decide (z_ri v) && z_has w[0]? (.constant own k (Int32.ofInt v))
    | _ => false)
  | .ldc_w k => decide (n = 3) && (match x with
    | [j, len] => decide (z_st[j]?.map (fun q => (q.1, q.2.1)) = some (own, k)) && (decide (j < 7) && decide (z_sl.getD j 0 = len))
    | [] => decide (z_ri v) && z_has w[0]? (.constant own k (Int32.ofInt v))
    | _ => false)
  | .iload _ => decide (n = 2)
  | .lload _ => decide (n = 2)
  | .aload _ => decide (n = 2)
  | .iload_n _ => decide (n = 1)
  | .lload_n _ => decide (n = 1)
  | .aload_n _ => decide (n = 1)
  | .istore k => decide (n = 2) && decide (k < nL)
  | .istore_n k => decide (n = 1) && decide (k.val < nL)
  | .lstore k => decide (n = 2) && decide (k + 1 < nL)
  | .lstore_n k => decide (n = 1) && decide (k.val + 1 < nL)
  | .iinc k d => decide (n = 3) && (decide (d = v) && decide (k < nL))
  | .iadd | .isub | .imul | .idiv | .irem | .ineg | .iand | .ior | .ixor | .ishl | .ishr | .iushr | .i2l | .i2b | .i2s | .ladd | .lmul | .ldiv | .lrem | .lcmp | .dup | .dup2 | .pop | .iaload | .laload | .baload | .aaload | .iastore | .lastore | .bastore | .arraylength => decide (n = 1)
  | .ifCond _ off => decide (n = 3) && z_tg pc off x
  | .if_icmp _ off => decide (n = 3) && z_tg pc off x
  | .goto off => decide (n = 3) && z_tg pc off x
  | .tableswitch d lo hi offs => match x with
    | dt :: ts => decide ((pc : Int) + d = (dt : Int)) && (decide (offs.toList.map (fun o => (pc : Int) + o) = ts.map (fun t : Nat => (t : Int))) && (decide (hi = lo + ts.length - 1) && decide (lo = v)))
    | [] => false
  | .lookupswitch d ps => match x with
    | dt :: ts => decide ((pc : Int) + d = (dt : Int)) && ((ps.toList.zip (ps.toList.drop 1)).all (fun (a, next) => a.1 < next.1) && z_lk pc ps.toList ts)
    | [] => false
  | .getfield idx => decide (n = 3) && (match x with
    | [ci, j] => z_fd own idx ci j w[0]? && z_nr ci j
    | [ci, j, off, kc, kl] => z_fd own idx ci j w[0]? && (decide ((z_ft.getD ci [])[j]? = some (1, off)) && (decide ((z_fk.getD ci [])[j]? = some (off, kc, kl)) && decide (kc ≠ 104)))
    | _ => false)
  | .putfield idx => decide (n = 3) && (match x with
    | [ci, j] => z_fd own idx ci j w[0]? && (z_nr ci j && z_pf ci j "I")
    | [ci, j, _] => z_fd own idx ci j w[0]? && (z_nr ci j && z_pf ci j "Z")
    | _ => false)
  | .invokestatic idx => decide (n = 3) && (match x with
    | [3] => z_has w[0]? (.methodLink own idx Lib.Math.min.name)
    | [4] => z_has w[0]? (.methodLink own idx Lib.Math.max.name)
    | [5] => z_has w[0]? (.methodLink own idx arraycopyName)
    | [1, y, na] => z_cm y na (fun Y => z_has w[0]? (.methodLink own idx Y.1) && (z_has w[1]? (.static Y.1) && (z_has w[2]? (.initialized Y.1.cls) && z_has w[3]? (.code Y.1 Y.2.1 Y.2.2.1 Y.2.2.2.1))))
    | [2, y, na] => z_cm y na (fun Y => z_has w[3]? (.methodLinkNest own idx Y.1 "WaterByLetters") && (z_has w[0]? (.static Y.1) && (z_has w[1]? (.initialized Y.1.cls) && z_has w[2]? (.code Y.1 Y.2.1 Y.2.2.1 Y.2.2.2.1))))
    | _ => false)
  | .invokevirtual idx => decide (n = 3) && (match x with
    | [y, na] => decide (z_rv.getD y 99 ≠ 99) && z_cm y na (fun Y => z_rc (z_rv.getD y 99) Y.1.cls && (z_has w[0]? (.methodLink own idx Y.1) && (z_has w[1]? (.instanceMethod Y.1) && (z_has w[2]? (.selects Y.1.cls Y.1 Y.1) && (z_has w[3]? (.initialized Y.1.cls) && z_has w[4]? (.code Y.1 Y.2.1 Y.2.2.1 Y.2.2.2.1))))))
    | _ => false)
  | .ireturn => decide (n = 1) && cond (Nat.beq v.toNat 1) (decide (rt = some .boolean)) (decide (rt = some .int))
  | .lreturn => decide (n = 1) && decide (rt = some .long)
  | .return_ => decide (n = 1) && decide (rt = none)
  | _ => false
/-- a method's whole check -/
def z_cY (Y : zY) : Bool := decide (Y.2.2.2.2.1.length = Y.2.2.2.2.2.length) && (Y.2.2.2.2.1.zip Y.2.2.2.2.2).all (fun q => decide (decode Y.2.1 q.1.1 = .ok (q.1.2.1, q.1.2.2.1)) && z_ce Y.1.cls Y.2.2.1 Y.2.2.2.1 q.1.1 q.1.2.1 q.1.2.2.1 q.1.2.2.2.1 q.1.2.2.2.2 q.2)

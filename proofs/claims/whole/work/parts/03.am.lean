/-! AN ABSTRACT MACHINE OVER INTEGERS: values are ints, longs (as Int) and references (kind, number of the cell); the memory is a function.
z_step is the meaning of one instruction as a formula over continuations; 04 shows that the JVM model follows it. -/
abbrev zD : Type := Nat × Int
abbrev zU : Type := Int ⊕ Int ⊕ (zD × Nat)
abbrev zV : Type := Option zU
abbrev zM : Type := Nat → Int → Int
abbrev zE : Type := Nat × Instr × Nat × List Nat × Int
abbrev z_i (x : Int) : zU := .inl x
abbrev z_l (x : Int) : zU := .inr (.inl x)
abbrev z_r (k : zD) (a : Nat) : zU := .inr (.inr (k, a))
def z_wr (x : Int) : Int := (x + 2147483648) % 4294967296 - 2147483648
def z_wl (x : Int) : Int := (x + 9223372036854775808) % 18446744073709551616 - 9223372036854775808
def z_and (a b : Int) : Int := (Int32.ofInt a &&& Int32.ofInt b).toInt
def z_or (a b : Int) : Int := (Int32.ofInt a ||| Int32.ofInt b).toInt
def z_xor (a b : Int) : Int := (Int32.ofInt a ^^^ Int32.ofInt b).toInt
def z_shl (a b : Int) : Int := (Int32.ofInt a <<< (Int32.ofInt b &&& 31)).toInt
def z_shr (a b : Int) : Int := (Int32.ofInt a >>> (Int32.ofInt b &&& 31)).toInt
def z_ushr (a b : Int) : Int := ((Int32.ofInt a).toUInt32 >>> ((Int32.ofInt b).toUInt32 &&& Int32.toUInt32 31)).toInt32.toInt
def z_i2b (a : Int) : Int := (Int32.ofInt a).toInt8.toInt32.toInt
def z_i2s (a : Int) : Int := (Int32.ofInt a).toInt16.toInt32.toInt
def z_cmp (a b : Int) : Int := if b < a then 1 else if a = b then 0 else -1
def z_up (M : zM) (a : Nat) (i v : Int) : zM := fun b j => if b = a ∧ j = i then v else M b j
def z_cp (M : zM) (a : Nat) (sp : Int) (b : Nat) (dp n : Int) : zM := fun c j => if c = b ∧ dp ≤ j ∧ j < dp + n then M a (sp + (j - dp)) else M c j
def z_get : List zV → Nat → zV
  | [], _ => none
  | v :: _, 0 => v
  | _ :: l, k + 1 => z_get l k
def z_isl : zV → Bool
  | some (.inr (.inl _)) => true
  | _ => false
def z_hd : List zV → List zV
  | [] => []
  | _ :: l => none :: l
def z_put : List zV → Nat → zU → List zV
  | [], _, _ => []
  | _ :: l, 0, v => some v :: cond (z_isl (some v)) (z_hd l) l
  | w :: l, k + 1, v => cond (Nat.beq k 0) (cond (z_isl w) none w) w :: z_put l k v
def z_cat : zU → Nat
  | .inr (.inl _) => 2
  | _ => 1
def z_cats : List zU → Nat
  | [] => 0
  | u :: l => z_cat u + z_cats l
/-- the towns that two arrays of references hold -/
def z_el (a : Nat) (i : Int) : Nat := cond (Nat.beq a 50) 51 161 + 6 * i.toNat
def z_fetch : List zE → Nat → Option (Instr × Nat × List Nat × Int)
  | [], _ => none
  | e :: l, pc => cond (Nat.beq e.1 pc) (some e.2) (z_fetch l pc)
def z_take : Nat → List zU → Option (List zU × List zU)
  | 0, st => some ([], st)
  | _ + 1, [] => none
  | n + 1, u :: st => match z_take n st with
    | some (a, r) => some (u :: a, r)
    | none => none
def z_rev : List zU → List zU → List zU
  | [], b => b
  | u :: l, b => z_rev l (u :: b)
def z_c (c : Jvm.ClassFile.Cond) (a b : Int) : Prop := match c with
  | .eq => a = b
  | .ne => a ≠ b
  | .lt => a < b
  | .ge => b ≤ a
  | .gt => b < a
  | .le => a ≤ b
def z_ts (a : Int) (K : Nat → Prop) (dflt : Nat) (lo : Int) : List Nat → Int → Prop
  | [], k => (a < lo ∨ k ≤ a) → K dflt
  | t :: ts, k => (a = k → K t) ∧ z_ts a K dflt lo ts (k + 1)
def z_ls (a : Int) (K : Nat → Prop) (dflt : Nat) : List Nat → Prop
  | k :: t :: r => (a = (k : Int) → K t) ∧ (a ≠ (k : Int) → z_ls a K dflt r)
  | _ => K dflt
section
variable (K : Nat → List zV → List zU → zM → Prop) (Q : Option zU → zM → Prop) (C : Nat → List zU → zM → (Option zU → zM → Prop) → Prop)
/-- one instruction: at pc, of length n, with its places x and its number v -/
def z_step (pc : Nat) (i : Instr) (n : Nat) (x : List Nat) (v : Int) (ls : List zV) (st : List zU) (M : zM) : Prop :=
  match i with
  | .iconst _ => K (pc + n) ls (z_i v :: st) M
  | .bipush _ => K (pc + n) ls (z_i v :: st) M
  | .sipush _ => K (pc + n) ls (z_i v :: st) M
  | .lconst _ => K (pc + n) ls (z_l v :: st) M
  | .ldc2_w _ => K (pc + n) ls (z_l v :: st) M
  | .ldc _ => match x with
    | [j, len] => K (pc + n) ls (z_r (104, (len : Int)) j :: st) M
    | _ => K (pc + n) ls (z_i v :: st) M
  | .ldc_w _ => match x with
    | [j, len] => K (pc + n) ls (z_r (104, (len : Int)) j :: st) M
    | _ => K (pc + n) ls (z_i v :: st) M
  | .iload k => match z_get ls k with
    | some (.inl a) => K (pc + n) ls (z_i a :: st) M
    | _ => False
  | .iload_n k => match z_get ls k.val with
    | some (.inl a) => K (pc + n) ls (z_i a :: st) M
    | _ => False
  | .lload k => match z_get ls k with
    | some (.inr (.inl a)) => K (pc + n) ls (z_l a :: st) M
    | _ => False
  | .lload_n k => match z_get ls k.val with
    | some (.inr (.inl a)) => K (pc + n) ls (z_l a :: st) M
    | _ => False
  | .aload k => match z_get ls k with
    | some (.inr (.inr a)) => K (pc + n) ls (.inr (.inr a) :: st) M
    | _ => False
  | .aload_n k => match z_get ls k.val with
    | some (.inr (.inr a)) => K (pc + n) ls (.inr (.inr a) :: st) M
    | _ => False
  | .istore k => match st with
    | .inl a :: st => K (pc + n) (z_put ls k (z_i a)) st M
    | _ => False
  | .istore_n k => match st with
    | .inl a :: st => K (pc + n) (z_put ls k.val (z_i a)) st M
    | _ => False
  | .lstore k => match st with
    | .inr (.inl a) :: st => K (pc + n) (z_put ls k (z_l a)) st M
    | _ => False
  | .lstore_n k => match st with
    | .inr (.inl a) :: st => K (pc + n) (z_put ls k.val (z_l a)) st M
    | _ => False
  | .iinc k _ => match z_get ls k with
    | some (.inl a) => K (pc + n) (z_put ls k (z_i (z_wr (a + v)))) st M
    | _ => False
  | .iadd => match st with
    | .inl b :: .inl a :: st => K (pc + n) ls (z_i (z_wr (a + b)) :: st) M
    | _ => False
  | .isub => match st with
    | .inl b :: .inl a :: st => K (pc + n) ls (z_i (z_wr (a - b)) :: st) M
    | _ => False
  | .imul => match st with
    | .inl b :: .inl a :: st => K (pc + n) ls (z_i (z_wr (a * b)) :: st) M
    | _ => False
  | .idiv => match st with
    | .inl b :: .inl a :: st => b ≠ 0 ∧ K (pc + n) ls (z_i (z_wr (a.tdiv b)) :: st) M
    | _ => False
  | .irem => match st with
    | .inl b :: .inl a :: st => b ≠ 0 ∧ K (pc + n) ls (z_i (a.tmod b) :: st) M
    | _ => False
  | .ineg => match st with
    | .inl a :: st => K (pc + n) ls (z_i (z_wr (-a)) :: st) M
    | _ => False
  | .iand => match st with
    | .inl b :: .inl a :: st => K (pc + n) ls (z_i (z_and a b) :: st) M
    | _ => False
  | .ior => match st with
    | .inl b :: .inl a :: st => K (pc + n) ls (z_i (z_or a b) :: st) M
    | _ => False
  | .ixor => match st with
    | .inl b :: .inl a :: st => K (pc + n) ls (z_i (z_xor a b) :: st) M
    | _ => False
  | .ishl => match st with
    | .inl b :: .inl a :: st => K (pc + n) ls (z_i (z_shl a b) :: st) M
    | _ => False
  | .ishr => match st with
    | .inl b :: .inl a :: st => K (pc + n) ls (z_i (z_shr a b) :: st) M
    | _ => False
  | .iushr => match st with
    | .inl b :: .inl a :: st => K (pc + n) ls (z_i (z_ushr a b) :: st) M
    | _ => False
  | .i2l => match st with
    | .inl a :: st => K (pc + n) ls (z_l a :: st) M
    | _ => False
  | .i2b => match st with
    | .inl a :: st => K (pc + n) ls (z_i (z_i2b a) :: st) M
    | _ => False
  | .i2s => match st with
    | .inl a :: st => K (pc + n) ls (z_i (z_i2s a) :: st) M
    | _ => False
  | .ladd => match st with
    | .inr (.inl b) :: .inr (.inl a) :: st => K (pc + n) ls (z_l (z_wl (a + b)) :: st) M
    | _ => False
  | .lmul => match st with
    | .inr (.inl b) :: .inr (.inl a) :: st => K (pc + n) ls (z_l (z_wl (a * b)) :: st) M
    | _ => False
  | .ldiv => match st with
    | .inr (.inl b) :: .inr (.inl a) :: st => b ≠ 0 ∧ K (pc + n) ls (z_l (z_wl (a.tdiv b)) :: st) M
    | _ => False
  | .lrem => match st with
    | .inr (.inl b) :: .inr (.inl a) :: st => b ≠ 0 ∧ K (pc + n) ls (z_l (a.tmod b) :: st) M
    | _ => False
  | .lcmp => match st with
    | .inr (.inl b) :: .inr (.inl a) :: st => K (pc + n) ls (z_i (z_cmp a b) :: st) M
    | _ => False
  | .ifCond c _ => match st, x with
    | .inl a :: st, [t] => (z_c c a 0 → K t ls st M) ∧ (¬ z_c c a 0 → K (pc + n) ls st M)
    | _, _ => False
  | .if_icmp c _ => match st, x with
    | .inl b :: .inl a :: st, [t] => (z_c c a b → K t ls st M) ∧ (¬ z_c c a b → K (pc + n) ls st M)
    | _, _ => False
  | .goto _ => match x with
    | [t] => K t ls st M
    | _ => False
  | .tableswitch _ _ _ _ => match st, x with
    | .inl a :: st, dflt :: ts => z_ts a (fun t => K t ls st M) dflt v ts v
    | _, _ => False
  | .lookupswitch _ _ => match st, x with
    | .inl a :: st, dflt :: ts => z_ls a (fun t => K t ls st M) dflt ts
    | _, _ => False
  | .getfield _ => match st, x with
    | .inr (.inr (k, a)) :: st, [ci, j] => cond (Nat.beq k.1 ci) (K (pc + n) ls (z_i (M a (j : Int)) :: st) M) False
    | .inr (.inr (k, a)) :: st, [ci, _, off, kc, kl] => cond (Nat.beq k.1 ci) (K (pc + n) ls (z_r (kc, (kl : Int)) (a + off) :: st) M) False
    | _, _ => False
  | .putfield _ => match st, x with
    | .inl w :: .inr (.inr (k, a)) :: st, [ci, j] => cond (Nat.beq k.1 ci) (K (pc + n) ls st (z_up M a (j : Int) w)) False
    | .inl w :: .inr (.inr (k, a)) :: st, [ci, j, _] => cond (Nat.beq k.1 ci) ((w = 0 ∨ w = 1) ∧ K (pc + n) ls st (z_up M a (j : Int) w)) False
    | _, _ => False
  | .iaload => match st with
    | .inl j :: .inr (.inr (k, a)) :: st => cond (Nat.beq k.1 100) ((0 ≤ j ∧ j < k.2) ∧ K (pc + n) ls (z_i (M a j) :: st) M) (cond (Nat.beq k.1 105) ((0 ≤ j ∧ j < k.2) ∧ K (pc + n) ls (z_i (M 999 j) :: st) M) False)
    | _ => False
  | .laload => match st with
    | .inl j :: .inr (.inr (k, a)) :: st => cond (Nat.beq k.1 101) ((0 ≤ j ∧ j < k.2) ∧ K (pc + n) ls (z_l (M a j) :: st) M) False
    | _ => False
  | .baload => match st with
    | .inl j :: .inr (.inr (k, a)) :: st => cond (Nat.beq k.1 102) ((0 ≤ j ∧ j < k.2) ∧ K (pc + n) ls (z_i (M a j) :: st) M) False
    | _ => False
  | .aaload => match st with
    | .inl j :: .inr (.inr (k, a)) :: st => cond (Nat.beq k.1 103) ((0 ≤ j ∧ j < k.2) ∧ K (pc + n) ls (z_r (9, 0) (z_el a j) :: st) M) False
    | _ => False
  | .iastore => match st with
    | .inl w :: .inl j :: .inr (.inr (k, a)) :: st => cond (Nat.beq k.1 100) ((0 ≤ j ∧ j < k.2) ∧ K (pc + n) ls st (z_up M a j w)) False
    | _ => False
  | .lastore => match st with
    | .inr (.inl w) :: .inl j :: .inr (.inr (k, a)) :: st => cond (Nat.beq k.1 101) ((0 ≤ j ∧ j < k.2) ∧ K (pc + n) ls st (z_up M a j w)) False
    | _ => False
  | .bastore => match st with
    | .inl w :: .inl j :: .inr (.inr (k, a)) :: st => cond (Nat.beq k.1 102) ((0 ≤ j ∧ j < k.2) ∧ (w = 0 ∨ w = 1) ∧ K (pc + n) ls st (z_up M a j w)) False
    | _ => False
  | .arraylength => match st with
    | .inr (.inr (k, a)) :: st => cond (Nat.beq k.1 100 || Nat.beq k.1 105) (K (pc + n) ls (z_i k.2 :: st) M) False
    | _ => False
  | .dup => match st with
    | .inl a :: st => K (pc + n) ls (z_i a :: z_i a :: st) M
    | .inr (.inr a) :: st => K (pc + n) ls (.inr (.inr a) :: .inr (.inr a) :: st) M
    | _ => False
  | .dup2 => match st with
    | .inl b :: .inr (.inr a) :: st => K (pc + n) ls (z_i b :: .inr (.inr a) :: z_i b :: .inr (.inr a) :: st) M
    | _ => False
  | .pop => match st with
    | .inl _ :: st => K (pc + n) ls st M
    | _ => False
  | .invokestatic _ => match x with
    | [3] => match st with
      | .inl b :: .inl a :: st => cond (Nat.ble (z_cats st) 8) (K (pc + n) ls (z_i (if b < a then b else a) :: st) M) False
      | _ => False
    | [4] => match st with
      | .inl b :: .inl a :: st => cond (Nat.ble (z_cats st) 8) (K (pc + n) ls (z_i (if a < b then b else a) :: st) M) False
      | _ => False
    | [5] => match st with
      | .inl w :: .inl dp :: .inr (.inr (kb, b)) :: .inl sp :: .inr (.inr (ka, a)) :: st => cond (Nat.beq ka.1 100 && (Nat.beq kb.1 100 && Nat.ble (z_cats st) 8)) ((0 ≤ sp ∧ 0 ≤ dp ∧ 0 ≤ w ∧ sp + w ≤ ka.2 ∧ dp + w ≤ kb.2) ∧ K (pc + n) ls st (z_cp M a sp b dp w)) False
      | _ => False
    | [_, y, na] => match z_take na st with
      | some (a, st) => cond (Nat.ble (z_cats st) 8) (C y (z_rev a []) M (fun r M => K (pc + n) ls (r.toList ++ st) M)) False
      | none => False
    | _ => False
  | .invokevirtual _ => match x with
    | [y, na] => match z_take (na + 1) st with
      | some (a, st) => cond (Nat.ble (z_cats st) 8) (C y (z_rev a []) M (fun r M => K (pc + n) ls (r.toList ++ st) M)) False
      | none => False
    | _ => False
  | .ireturn => match st with
    | [.inl a] => cond (Nat.beq v.toNat 1) ((a = 0 ∨ a = 1) ∧ Q (some (z_i a)) M) (Q (some (z_i a)) M)
    | _ => False
  | .lreturn => match st with
    | [.inr (.inl a)] => Q (some (z_l a)) M
    | _ => False
  | .return_ => match st with
    | [] => Q none M
    | _ => False
  | _ => False
end
/-- a stretch of instructions, up to the places in cuts, where R takes over -/
def z_go (L : List zE) (cuts : List Nat) (R : Nat → List zV → List zU → zM → Prop) (Q : Option zU → zM → Prop) (C : Nat → List zU → zM → (Option zU → zM → Prop) → Prop) : Nat → Nat → List zV → List zU → zM → Prop
  | 0, _, _, _, _ => False
  | k + 1, pc, ls, st, M => cond (cuts.any (fun c => Nat.beq c pc)) (R pc ls st M) (match z_fetch L pc with
    | some (i, n, x, v) => z_step (fun pc ls st M => z_go L cuts R Q C k pc ls st M) Q C pc i n x v ls st M
    | none => False)
/-- the same, its first place no cut -/
def z_wp (L : List zE) (cuts : List Nat) (R : Nat → List zV → List zU → zM → Prop) (Q : Option zU → zM → Prop) (C : Nat → List zU → zM → (Option zU → zM → Prop) → Prop) (k pc : Nat) (ls : List zV) (st : List zU) (M : zM) : Prop :=
  match z_fetch L pc with
  | some (i, n, x, v) => z_step (fun pc ls st M => z_go L cuts R Q C k pc ls st M) Q C pc i n x v ls st M
  | none => False

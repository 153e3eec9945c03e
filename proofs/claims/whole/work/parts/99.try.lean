def z_ck (t : Nat) : List Cond := match t with
  | 0 => k2_sels lw_privs | 1 => tables_1_1 | 2 => tables_1_2 | 3 => tables_1_3 | 4 => tables_1_4 | 5 => tables_1_5 | 6 => tables_1_6 | 7 => tables_1_7 | _ => tables_1_8
theorem t_len : z_mt.length = 259 := by decide +kernel
theorem t_dec : c_Book_write.all (fun e => decide (decode prog_2_method_2_code e.1 = .ok (e.2.1, e.2.2.1))) = true := by decide +kernel

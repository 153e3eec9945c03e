/-! EVERY METHOD PASSES THE CHECK -/
def z_cR (a n : Nat) : Bool := ((z_mt.drop a).take n).all z_cY
theorem z_c0 : z_cR 0 10 = true := by decide +kernel
theorem z_c10 : z_cR 10 10 = true := by decide +kernel
theorem z_c20 : z_cR 20 10 = true := by decide +kernel
theorem z_c30 : z_cR 30 10 = true := by decide +kernel
theorem z_c40 : z_cR 40 10 = true := by decide +kernel
theorem z_c50 : z_cR 50 10 = true := by decide +kernel
theorem z_c60 : z_cR 60 10 = true := by decide +kernel
theorem z_c70 : z_cR 70 10 = true := by decide +kernel
theorem z_c80 : z_cR 80 10 = true := by decide +kernel
theorem z_c90 : z_cR 90 10 = true := by decide +kernel
theorem z_c100 : z_cR 100 10 = true := by decide +kernel
theorem z_c110 : z_cR 110 10 = true := by decide +kernel
theorem z_c120 : z_cR 120 10 = true := by decide +kernel
theorem z_c130 : z_cR 130 10 = true := by decide +kernel
theorem z_c140 : z_cR 140 10 = true := by decide +kernel
theorem z_c150 : z_cR 150 10 = true := by decide +kernel
theorem z_c160 : z_cR 160 10 = true := by decide +kernel
theorem z_c170 : z_cR 170 10 = true := by decide +kernel
theorem z_c180 : z_cR 180 10 = true := by decide +kernel
theorem z_c190 : z_cR 190 10 = true := by decide +kernel
theorem z_c200 : z_cR 200 10 = true := by decide +kernel
theorem z_c210 : z_cR 210 10 = true := by decide +kernel
theorem z_c220 : z_cR 220 10 = true := by decide +kernel
theorem z_c230 : z_cR 230 10 = true := by decide +kernel
theorem z_c240 : z_cR 240 10 = true := by decide +kernel
theorem z_c250 : z_cR 250 10 = true := by decide +kernel

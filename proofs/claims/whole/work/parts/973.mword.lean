/-! PURE: the reference's words -/
theorem lT {n : Nat} (h : n < 2 ^ 62) : (lN n).toInt = (n : Int) := Int64.toInt_ofNat_of_lt (by omega)
theorem lgE {v c : Nat} (hv : v < 2 ^ 62) (hc : c < 2 ^ 62) : lg_cmp (lN v) (lN c) = 0 ↔ v = c := by
  have h1 := p_lg_lt (lN v) (lN c)
  have h2 := p_lg_gt (lN v) (lN c)
  rw [lT hv, lT hc] at h1 h2
  constructor
  · intro h
    rw [h] at h1 h2
    have a1 : ¬ (v : Int) < c := fun z => absurd (h1.mpr z) (by decide)
    have a2 : ¬ (c : Int) < v := fun z => absurd (h2.mpr z) (by decide)
    omega
  · intro h
    rw [h]
    unfold lg_cmp
    rw [if_neg (fun z => lg_lt_not z z), if_pos rfl]
theorem lgL {v c : Nat} (hv : v < 2 ^ 62) (hc : c < 2 ^ 62) : lg_cmp (lN v) (lN c) ≤ 0 ↔ v ≤ c := by
  have h2 := p_lg_gt (lN v) (lN c)
  rw [lT hv, lT hc] at h2
  have h3 : lg_cmp (lN v) (lN c) ≤ 0 ↔ ¬ 0 < lg_cmp (lN v) (lN c) := by
    rw [Int32.le_iff_toInt_le, Int32.lt_iff_toInt_lt]
    omega
  rw [h3, h2]
  omega
theorem kd {α : Type} {v c : Nat} {e : Int64} {A B : α} (hv : v < 2 ^ 62) (hc : c < 2 ^ 62) (he : e = lN c) : (if lg_cmp (lN v) e = 0 then A else B) = if v = c then A else B := by
  rw [he]
  by_cases h : v = c
  · rw [if_pos h, if_pos ((lgE hv hc).mpr h)]
  · rw [if_neg h, if_neg (fun z => h ((lgE hv hc).mp z))]
section
variable {ν : z_M} {v : Nat}
theorem p_fundOf (h : ν.2.1 98 16 = lN v) (hv : v < 2 ^ 62) : f_X5_fundOf ν = some (ki (wcs 2) 0 v, ν) := by
  have K : ki (wcs 2) 0 v = if v = 380068 then nI 0 else if v = 2585642951 then nI 1 else if v = 1627332 then nI 2 else -1 := rfl
  rw [K]
  unfold f_X5_fundOf
  simp only [f_X5_code, f_X5_longer, z_b2_s, h]
  have E : ∀ (e : Int64) (c : Nat), c < 2 ^ 62 → e = lN c → ((lg_cmp (lN v) e = 0) = (v = c)) := fun e c hc he => propext (by rw [he]; exact lgE hv hc)
  simp only [E _ 380068 (by decide) (show (27 : Int64) * ((27 : Int64) * ((27 : Int64) * (Int32.toInt64 115 - 96) + Int32.toInt64 104 - 96) + Int32.toInt64 105 - 96) + Int32.toInt64 112 - 96 = lN 380068 by decide), E _ 2585642951 (by decide) (show (27 : Int64) * ((27 : Int64) * ((27 : Int64) * ((27 : Int64) * ((27 : Int64) * ((27 : Int64) * (Int32.toInt64 102 - 96) + Int32.toInt64 114 - 96) + Int32.toInt64 101 - 96) + Int32.toInt64 105 - 96) + Int32.toInt64 103 - 96) + Int32.toInt64 104 - 96) + Int32.toInt64 116 - 96 = lN 2585642951 by decide), E _ 1627332 (by decide) (show (27 : Int64) * ((27 : Int64) * ((27 : Int64) * ((27 : Int64) * (Int32.toInt64 99 - 96) + Int32.toInt64 97 - 96) + Int32.toInt64 114 - 96) + Int32.toInt64 103 - 96) + Int32.toInt64 111 - 96 = lN 1627332 by decide)]
  by_cases h0 : v = 380068
  · rw [h0]
    rfl
  by_cases h1 : v = 2585642951
  · rw [h1]
    rfl
  by_cases h2 : v = 1627332
  · rw [h2]
    rfl
  simp only [if_neg h0, if_neg h1, if_neg h2]
theorem p_withinOf (h : ν.2.1 98 16 = lN v) (hv : v < 2 ^ 62) : f_X5_withinOf ν = some (ki (wcs 3) 0 v, ν) := by
  have K : ki (wcs 3) 0 v = if v = 8536420 then nI 0 else if v = 6411708 then nI 1 else if v = 280906452 then nI 2 else -1 := rfl
  rw [K]
  unfold f_X5_withinOf
  simp only [f_X5_code, f_X5_longer, z_b2_s, h]
  have E : ∀ (e : Int64) (c : Nat), c < 2 ^ 62 → e = lN c → ((lg_cmp (lN v) e = 0) = (v = c)) := fun e c hc he => propext (by rw [he]; exact lgE hv hc)
  simp only [E _ 8536420 (by decide) (show (27 : Int64) * ((27 : Int64) * ((27 : Int64) * ((27 : Int64) * (Int32.toInt64 112 - 96) + Int32.toInt64 97 - 96) + Int32.toInt64 114 - 96) + Int32.toInt64 116 - 96) + Int32.toInt64 115 - 96 = lN 8536420 by decide), E _ 6411708 (by decide) (show (27 : Int64) * ((27 : Int64) * ((27 : Int64) * ((27 : Int64) * (Int32.toInt64 108 - 96) + Int32.toInt64 97 - 96) + Int32.toInt64 116 - 96) + Int32.toInt64 101 - 96) + Int32.toInt64 114 - 96 = lN 6411708 by decide), E _ 280906452 (by decide) (show (27 : Int64) * ((27 : Int64) * ((27 : Int64) * ((27 : Int64) * ((27 : Int64) * (Int32.toInt64 115 - 96) + Int32.toInt64 111 - 96) + Int32.toInt64 111 - 96) + Int32.toInt64 110 - 96) + Int32.toInt64 101 - 96) + Int32.toInt64 114 - 96 = lN 280906452 by decide)]
  by_cases h0 : v = 8536420
  · rw [h0]
    rfl
  by_cases h1 : v = 6411708
  · rw [h1]
    rfl
  by_cases h2 : v = 280906452
  · rw [h2]
    rfl
  simp only [if_neg h0, if_neg h1, if_neg h2]
theorem p_kindOf (h : ν.2.1 98 16 = lN v) (hv : v < 2 ^ 62) : f_X5_kindOf ν = some (ki (wcs 1) 0 v, ν) := by
  have K : ki (wcs 1) 0 v = if v = 453632 then nI 0 else if v = 365666 then nI 1 else if v = 8689376 then nI 2 else if v = 10133239 then nI 3 else if v = 279346 then nI 4 else if v = 236061329 then nI 5 else if v = 158692 then nI 6 else if v = 94195 then nI 7 else -1 := rfl
  rw [K]
  unfold f_X5_kindOf
  simp only [f_X5_code, f_X5_longer, z_b2_s, g_X5_kindOf_125, g_X5_kindOf_211, h]
  have E : ∀ (e : Int64) (c : Nat), c < 2 ^ 62 → e = lN c → ((lg_cmp (lN v) e = 0) = (v = c)) := fun e c hc he => propext (by rw [he]; exact lgE hv hc)
  simp only [E _ 453632 (by decide) (show (27 : Int64) * ((27 : Int64) * ((27 : Int64) * (Int32.toInt64 119 - 96) + Int32.toInt64 97 - 96) + Int32.toInt64 103 - 96) + Int32.toInt64 101 - 96 = lN 453632 by decide), E _ 365666 (by decide) (show (27 : Int64) * ((27 : Int64) * ((27 : Int64) * (Int32.toInt64 114 - 96) + Int32.toInt64 111 - 96) + Int32.toInt64 112 - 96) + Int32.toInt64 101 - 96 = lN 365666 by decide), E _ 8689376 (by decide) (show (27 : Int64) * ((27 : Int64) * ((27 : Int64) * ((27 : Int64) * (Int32.toInt64 112 - 96) + Int32.toInt64 105 - 96) + Int32.toInt64 108 - 96) + Int32.toInt64 111 - 96) + Int32.toInt64 116 - 96 = lN 8689376 by decide), E _ 10133239 (by decide) (show (27 : Int64) * ((27 : Int64) * ((27 : Int64) * ((27 : Int64) * (Int32.toInt64 115 - 96) + Int32.toInt64 97 - 96) + Int32.toInt64 118 - 96) + Int32.toInt64 101 - 96) + Int32.toInt64 100 - 96 = lN 10133239 by decide), E _ 279346 (by decide) (show (27 : Int64) * ((27 : Int64) * ((27 : Int64) * (Int32.toInt64 110 - 96) + Int32.toInt64 101 - 96) + Int32.toInt64 101 - 96) + Int32.toInt64 100 - 96 = lN 279346 by decide), E _ 236061329 (by decide) (show (27 : Int64) * ((27 : Int64) * ((27 : Int64) * ((27 : Int64) * ((27 : Int64) * (Int32.toInt64 112 - 96) + Int32.toInt64 108 - 96) + Int32.toInt64 101 - 96) + Int32.toInt64 100 - 96) + Int32.toInt64 103 - 96) + Int32.toInt64 101 - 96 = lN 236061329 by decide), E _ 158692 (by decide) (show (27 : Int64) * ((27 : Int64) * ((27 : Int64) * (Int32.toInt64 104 - 96) + Int32.toInt64 97 - 96) + Int32.toInt64 114 - 96) + Int32.toInt64 109 - 96 = lN 158692 by decide), E _ 94195 (by decide) (show (27 : Int64) * ((27 : Int64) * ((27 : Int64) * (Int32.toInt64 100 - 96) + Int32.toInt64 117 - 96) + Int32.toInt64 101 - 96) + Int32.toInt64 115 - 96 = lN 94195 by decide)]
  by_cases h0 : v = 453632
  · rw [h0]
    rfl
  by_cases h1 : v = 365666
  · rw [h1]
    rfl
  by_cases h2 : v = 8689376
  · rw [h2]
    rfl
  by_cases h3 : v = 10133239
  · rw [h3]
    rfl
  by_cases h4 : v = 279346
  · rw [h4]
    rfl
  by_cases h5 : v = 236061329
  · rw [h5]
    rfl
  by_cases h6 : v = 158692
  · rw [h6]
    rfl
  by_cases h7 : v = 94195
  · rw [h7]
    rfl
  simp only [if_neg h0, if_neg h1, if_neg h2, if_neg h3, if_neg h4, if_neg h5, if_neg h6, if_neg h7]
  rfl
theorem p_clauseOf (h : ν.2.1 98 16 = lN v) (hv : v < 2 ^ 62) : f_X5_clauseOf ν = some (ki (wcs 0) 0 v, ν) := by
  have K : ki (wcs 0) 0 v = if v = 9746155 then nI 0 else if v = 692581 then nI 1 else if v = 3379448 then nI 2 else if v = 31519426 then nI 3 else if v = 6411708 then nI 4 else if v = 335207579 then nI 5 else if v = 85447 then nI 6 else if v = 6477035 then nI 7 else if v = 375035 then nI 8 else if v = 1903978 then nI 9 else -1 := rfl
  rw [K]
  unfold f_X5_clauseOf
  simp only [f_X5_code, f_X5_longer, z_b2_s, g_X5_clauseOf_170, g_X5_clauseOf_292, h]
  have E : ∀ (e : Int64) (c : Nat), c < 2 ^ 62 → e = lN c → ((lg_cmp (lN v) e = 0) = (v = c)) := fun e c hc he => propext (by rw [he]; exact lgE hv hc)
  simp only [E _ 9746155 (by decide) (show (27 : Int64) * ((27 : Int64) * ((27 : Int64) * ((27 : Int64) * (Int32.toInt64 114 - 96) + Int32.toInt64 105 - 96) + Int32.toInt64 100 - 96) + Int32.toInt64 101 - 96) + Int32.toInt64 115 - 96 = lN 9746155 by decide), E _ 692581 (by decide) (show (27 : Int64) * ((27 : Int64) * ((27 : Int64) * ((27 : Int64) * (Int32.toInt64 97 - 96) + Int32.toInt64 104 - 96) + Int32.toInt64 101 - 96) + Int32.toInt64 97 - 96) + Int32.toInt64 100 - 96 = lN 692581 by decide), E _ 3379448 (by decide) (show (27 : Int64) * ((27 : Int64) * ((27 : Int64) * ((27 : Int64) * (Int32.toInt64 102 - 96) + Int32.toInt64 105 - 96) + Int32.toInt64 114 - 96) + Int32.toInt64 115 - 96) + Int32.toInt64 116 - 96 = lN 3379448 by decide), E _ 31519426 (by decide) (show (27 : Int64) * ((27 : Int64) * ((27 : Int64) * ((27 : Int64) * ((27 : Int64) * (Int32.toInt64 98 - 96) + Int32.toInt64 101 - 96) + Int32.toInt64 104 - 96) + Int32.toInt64 105 - 96) + Int32.toInt64 110 - 96) + Int32.toInt64 100 - 96 = lN 31519426 by decide), E _ 6411708 (by decide) (show (27 : Int64) * ((27 : Int64) * ((27 : Int64) * ((27 : Int64) * (Int32.toInt64 108 - 96) + Int32.toInt64 97 - 96) + Int32.toInt64 116 - 96) + Int32.toInt64 101 - 96) + Int32.toInt64 114 - 96 = lN 6411708 by decide), E _ 335207579 (by decide) (show (27 : Int64) * ((27 : Int64) * ((27 : Int64) * ((27 : Int64) * ((27 : Int64) * (Int32.toInt64 119 - 96) + Int32.toInt64 105 - 96) + Int32.toInt64 116 - 96) + Int32.toInt64 104 - 96) + Int32.toInt64 105 - 96) + Int32.toInt64 110 - 96 = lN 335207579 by decide), E _ 85447 (by decide) (show (27 : Int64) * ((27 : Int64) * ((27 : Int64) * (Int32.toInt64 100 - 96) + Int32.toInt64 105 - 96) + Int32.toInt64 101 - 96) + Int32.toInt64 115 - 96 = lN 85447 by decide), E _ 6477035 (by decide) (show (27 : Int64) * ((27 : Int64) * ((27 : Int64) * ((27 : Int64) * (Int32.toInt64 108 - 96) + Int32.toInt64 101 - 96) + Int32.toInt64 97 - 96) + Int32.toInt64 118 - 96) + Int32.toInt64 101 - 96 = lN 6477035 by decide), E _ 375035 (by decide) (show (27 : Int64) * ((27 : Int64) * ((27 : Int64) * (Int32.toInt64 115 - 96) + Int32.toInt64 97 - 96) + Int32.toInt64 108 - 96) + Int32.toInt64 101 - 96 = lN 375035 by decide), E _ 1903978 (by decide) (show (27 : Int64) * ((27 : Int64) * ((27 : Int64) * ((27 : Int64) * (Int32.toInt64 99 - 96) + Int32.toInt64 111 - 96) + Int32.toInt64 115 - 96) + Int32.toInt64 116 - 96) + Int32.toInt64 115 - 96 = lN 1903978 by decide)]
  by_cases h0 : v = 9746155
  · rw [h0]
    rfl
  by_cases h1 : v = 692581
  · rw [h1]
    rfl
  by_cases h2 : v = 3379448
  · rw [h2]
    rfl
  by_cases h3 : v = 31519426
  · rw [h3]
    rfl
  by_cases h4 : v = 6411708
  · rw [h4]
    rfl
  by_cases h5 : v = 335207579
  · rw [h5]
    rfl
  by_cases h6 : v = 85447
  · rw [h6]
    rfl
  by_cases h7 : v = 6477035
  · rw [h7]
    rfl
  by_cases h8 : v = 375035
  · rw [h8]
    rfl
  by_cases h9 : v = 1903978
  · rw [h9]
    rfl
  simp only [if_neg h0, if_neg h1, if_neg h2, if_neg h3, if_neg h4, if_neg h5, if_neg h6, if_neg h7, if_neg h8, if_neg h9]
  rfl
end

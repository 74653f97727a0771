theorem tv_7 (t u : Nat) : (7 : Int32) * nI t + nI u = nI (7 * t + u) := by
  show nI 7 * nI t + nI u = _
  rw [pk_mul, nI_add]
theorem tv_4 (t u : Nat) : (4 : Int32) * nI t + nI u = nI (4 * t + u) := by
  show nI 4 * nI t + nI u = _
  rw [pk_mul, nI_add]
theorem tv_40 (t : Nat) : (4 : Int32) * nI t = nI (4 * t) := by
  show nI 4 * nI t = _
  rw [pk_mul]
theorem tv_8 (t : Nat) : (8 : Int32) * nI t = nI (8 * t) := by
  show nI 8 * nI t = _
  rw [pk_mul]
theorem tv_2 (t : Nat) : (2 : Int32) * nI t = nI (2 * t) := by
  show nI 2 * nI t = _
  rw [pk_mul]
theorem tv_64 (t : Nat) : (64 : Int32) + nI t = nI (64 + t) := by
  show nI 64 + nI t = _
  rw [nI_add]
theorem tv_d2 {j : Nat} (h : j < 2 ^ 31) : nI j / 2 = nI (j / 2) := pk_div (d := 2) h (by decide) (by decide)
theorem tv_d3 {j : Nat} (h : j < 2 ^ 31) : nI j / 3 = nI (j / 3) := pk_div (d := 3) h (by decide) (by decide)
theorem tv_d9 {j : Nat} (h : j < 2 ^ 31) : nI j / 9 = nI (j / 9) := pk_div (d := 9) h (by decide) (by decide)
theorem tv_r2 {j : Nat} (h : j < 2 ^ 31) : nI j - nI j / 2 * 2 = nI (j % 2) := pk_rem (d := 2) h (by decide) (by decide)
theorem tv_r3 {j : Nat} (h : j < 2 ^ 31) : nI j - nI j / 3 * 3 = nI (j % 3) := pk_rem (d := 3) h (by decide) (by decide)
theorem tv_r7 {j : Nat} (h : j < 2 ^ 31) : nI j - nI j / 7 * 7 = nI (j % 7) := pk_rem (d := 7) h (by decide) (by decide)
theorem tv_r8 {j : Nat} (h : j < 2 ^ 31) : nI j - nI j / 8 * 8 = nI (j % 8) := pk_rem (d := 8) h (by decide) (by decide)
theorem tv_a1 {j : Nat} (h : j < 2 ^ 31) : nI j &&& 1 = nI (j % 2) := pk_andN (by omega) 1 (by decide)
theorem tv_s1 {j : Nat} (h : j < 2 ^ 31) : nI j >>> ((1 : Int32) &&& 31) = nI (j / 2) := pk_shrN h _ 1 (by decide)
theorem tv_p8 {n : Nat} (h : n ≤ 8) : 2 ^ n ≤ 256 := (by decide +kernel : ∀ n, n < 9 → 2 ^ n ≤ 256) n (by omega)
theorem tv_iot : ∀ r, r < 27 → (((nI (2 ^ tv_rk r 0) ||| nI (2 ^ tv_rk r 1)) ||| nI (2 ^ tv_rk r 2) = 1 ∨ (nI (2 ^ tv_rk r 0) ||| nI (2 ^ tv_rk r 1)) ||| nI (2 ^ tv_rk r 2) = 3 ∨ (nI (2 ^ tv_rk r 0) ||| nI (2 ^ tv_rk r 1)) ||| nI (2 ^ tv_rk r 2) = 7) ↔ tv_io r = true) := by decide +kernel
theorem tv_rk3 : ∀ r, r < 27 → ∀ x, x < 3 → tv_rk r x < 3 := by decide +kernel

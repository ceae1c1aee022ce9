/-! Comparisons of ints, as numbers -/
theorem zeq {x y : Int32} : x = y ↔ x.toInt = y.toInt := Int32.toInt_inj.symm
theorem zt {k : Nat} (h : Nat.blt k 2147483648 = true) : (nI k).toInt = (k : Int) := nI_toInt (by have : k < 2147483648 := Nat.le_of_ble_eq_true h; omega)
theorem ztn {k : Nat} (h : Nat.blt k 2147483648 = true) : (- nI k).toInt = - (k : Int) := by
  have h1 : k < 2147483648 := Nat.le_of_ble_eq_true h
  have h2 := nI_toInt (n := k) (by omega)
  rw [Int32.toInt_neg, h2]
  exact Int.bmod_eq_of_le (by omega) (by omega)
theorem zcp {x : Int32} : x.toNatClampNeg = x.toInt.toNat := rfl
theorem zvp {x : Int32} {n : Nat} : vp_in x n ↔ 0 ≤ x.toInt ∧ x.toInt < (n : Int) := by
  unfold vp_in
  have e0 : (0 : Int32).toInt = 0 := rfl
  rw [zlt, e0, zcp]
  omega
theorem znr {x : Int32} : -2147483648 ≤ x.toInt ∧ x.toInt < 2147483648 := ⟨Int32.le_toInt x, Int32.toInt_lt x⟩
theorem zadd {x y : Int32} (h1 : -2147483648 ≤ x.toInt + y.toInt) (h2 : x.toInt + y.toInt < 2147483648) : (x + y).toInt = x.toInt + y.toInt := by
  rw [Int32.toInt_add]
  exact Int.bmod_eq_of_le (by omega) (by omega)
theorem zsub {x y : Int32} (h1 : -2147483648 ≤ x.toInt - y.toInt) (h2 : x.toInt - y.toInt < 2147483648) : (x - y).toInt = x.toInt - y.toInt := by
  rw [Int32.toInt_sub]
  exact Int.bmod_eq_of_le (by omega) (by omega)
theorem zmul {x y : Int32} (h1 : -2147483648 ≤ x.toInt * y.toInt) (h2 : x.toInt * y.toInt < 2147483648) : (x * y).toInt = x.toInt * y.toInt := by
  rw [Int32.toInt_mul]
  exact Int.bmod_eq_of_le (by omega) (by omega)
theorem zofN {x : Int32} {n : Nat} (h : x.toInt = (n : Int)) : x = nI n := by
  have h1 := znr (x := x)
  rw [zeq, nI_toInt (by omega), h]
theorem jRg_i {x : Int32} {lo hi : Nat} (h : jRg x lo hi) (hh : hi < 2 ^ 31) : (lo : Int) ≤ x.toInt ∧ x.toInt ≤ (hi : Int) := by
  obtain ⟨n, h1, h2, rfl⟩ := h
  rw [nI_toInt (by omega)]
  omega
theorem jRg_of {x : Int32} {lo hi : Nat} (h1 : (lo : Int) ≤ x.toInt) (h2 : x.toInt ≤ (hi : Int)) : jRg x lo hi := ⟨x.toInt.toNat, by omega, by omega, zofN (by omega)⟩

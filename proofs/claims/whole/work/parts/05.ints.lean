/-! arithmetic on naturals -/
theorem rs_or (a b : Nat) : nI a ||| nI b = nI (a ||| b) := by
  apply Int32.toBitVec_inj.1
  show BitVec.ofNat 32 a ||| BitVec.ofNat 32 b = BitVec.ofNat 32 (a ||| b)
  apply BitVec.eq_of_getLsbD_eq
  intro i hi
  simp [hi]
theorem rs_m8 {n : Nat} (h : n < 2 ^ 32) : nI n &&& 255 = nI (n % 256) := pk_andN h 8 (by decide)
theorem rs_m1 {n : Nat} (h : n < 2 ^ 32) : nI n &&& 1 = nI (n % 2) := pk_andN h 1 (by decide)
theorem rs_by (x : Int32) : ∃ j, j < 256 ∧ x &&& 255 = nI j := pk_andE x 8 (by decide)
theorem rs_sb {a b : Nat} (ha : a < 256) (hb : b < 256) : (nI a - nI b) &&& 255 = nI ((a + 256 - b) % 256) := by
  rw [pk_and _ 8 (by decide)]
  have e : (nI a - nI b).toBitVec.toNat = (2 ^ 32 - b + a) % 2 ^ 32 := by
    rw [Int32.toBitVec_sub, BitVec.toNat_sub, pk_tn (by omega), pk_tn (by omega)]
  rw [e]
  exact congrArg nI (by omega)
theorem rs_neg : ∀ a, a < 256 → -(nI a) &&& 255 = nI ((256 - a) % 256) := by decide +kernel
theorem rs_shrI {v j : Nat} (hv : v < 2 ^ 31) (hj : j < 32) : nI v >>> (nI j &&& 31) = nI (v / 2 ^ j) := pk_shrN hv _ j (s_l j hj)
theorem rs_shI {v j : Nat} (hv : v < 2 ^ 31) (hj : j < 32) : (nI v >>> (nI j &&& 31)) &&& 1 = nI (v / 2 ^ j % 2) := by
  rw [rs_shrI hv hj]
  exact rs_m1 (Nat.lt_of_le_of_lt (Nat.div_le_self _ _) (by omega))
theorem rs_shlI {v j : Nat} (hv : v < 256) (hj : j < 8) : nI v <<< (nI j &&& 31) = nI (v * 2 ^ j) := by
  have h : 2 ^ j ≤ 2 ^ 7 := Nat.pow_le_pow_right (by decide) (by omega)
  have h2 : v * 2 ^ j ≤ 255 * 2 ^ 7 := Nat.mul_le_mul (by omega) h
  exact pk_shlN _ j (s_l j (by omega)) (Nat.lt_of_le_of_lt h2 (by decide))
theorem rs_shl8 {v j : Nat} (hv : v < 256) (hj : j < 8) : (nI v <<< (nI j &&& 31)) &&& 255 = nI (v * 2 ^ j % 256) := by
  have h : 2 ^ j ≤ 2 ^ 7 := Nat.pow_le_pow_right (by decide) (by omega)
  have h2 : v * 2 ^ j ≤ 255 * 2 ^ 7 := Nat.mul_le_mul (by omega) h
  rw [rs_shlI hv hj]
  exact rs_m8 (Nat.lt_of_le_of_lt h2 (by decide))
theorem rs_n2 (b c : Bool) {x : Nat} (h : x % 2 = 1 ↔ b = true) : x % 2 = b.toNat := by
  cases b
  · have : ¬ x % 2 = 1 := fun z => Bool.noConfusion (h.mp z)
    show x % 2 = 0
    omega
  · exact h.mpr rfl
theorem rs_xm (L : Nat → Bool) (l : Nat) : ((L (l / 2)).toNat ^^^ l) % 2 = 1 ↔ rs_lv L l = true := by
  rw [Nat.xor_mod_two_eq_one]
  unfold rs_lv
  cases L (l / 2) <;> by_cases g : l % 2 = 1 <;> simp [g]
theorem rs_lvI (L : Nat → Bool) (l : Nat) : (nI (L (l / 2)).toNat ^^^ nI l) &&& 1 = nI (rs_lv L l).toNat := by
  rw [nx_xor]
  show _ &&& nI 1 = _
  rw [nx_and, Nat.and_one_is_mod]
  exact congrArg nI (rs_n2 _ true (rs_xm L l))
theorem rs_gtI (L : Nat → Bool) (l r : Nat) : ((nI (L (l / 2)).toNat ^^^ nI l) &&& (nI (L (r / 2)).toNat ^^^ nI r)) &&& 1 = nI (rs_lv L l && rs_lv L r).toNat := by
  rw [nx_xor, nx_xor]
  show _ &&& nI 1 = _
  rw [nx_and, nx_and, Nat.and_one_is_mod]
  refine congrArg nI (rs_n2 _ true ?_)
  rw [Nat.and_mod_two_eq_one, rs_xm, rs_xm, Bool.and_eq_true]
theorem rs_ga : ∀ a, a < 256 → ∀ j, j < 8 → (a % 2 ^ j) ||| ((a.testBit j).toNat * 2 ^ j) = a % 2 ^ (j + 1) := by decide +kernel
theorem rs_x1I (l : Nat) : nI l ^^^ 1 = nI (l ^^^ 1) := nx_xor l 1
theorem rs_Ax {x : Int32} {f : Nat → Nat} (n : Nat) (hx : x = nI n) (h : n < 2 ^ 31) : rs_A f x.toNatClampNeg = nI (f n) := by
  rw [hx, nI_clamp h]
  rfl

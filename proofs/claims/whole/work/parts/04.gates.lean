/-! literals and their levels; circuits; the bits of a byte -/
def rs_lv (L : Nat → Bool) (l : Nat) : Bool := L (l / 2) ^^ decide (l % 2 = 1)
theorem rs_x1d (l : Nat) : (l ^^^ 1) / 2 = l / 2 := by
  rw [Nat.xor_div_two]
  exact Nat.xor_zero _
theorem rs_x1m (l : Nat) : decide ((l ^^^ 1) % 2 = 1) = !decide (l % 2 = 1) := by
  have h := @Nat.xor_mod_two_eq_one l 1
  by_cases g : l % 2 = 1
  · have h2 : ¬ (l ^^^ 1) % 2 = 1 := fun z => (h.mp z) ⟨fun _ => rfl, fun _ => g⟩
    rw [decide_eq_false h2, decide_eq_true g]; rfl
  · have h2 : (l ^^^ 1) % 2 = 1 := h.mpr (fun z => g (z.mpr rfl))
    rw [decide_eq_true h2, decide_eq_false g]; rfl
theorem rs_lv_n (L : Nat → Bool) (l : Nat) : rs_lv L (l ^^^ 1) = !rs_lv L l := by
  unfold rs_lv
  rw [rs_x1d, rs_x1m]
  cases L (l / 2) <;> cases decide (l % 2 = 1) <;> rfl
theorem rs_x1l {l n : Nat} (h : l < 2 * n) : l ^^^ 1 < 2 * n := by
  have e := rs_x1d l
  generalize l ^^^ 1 = m at *
  omega
theorem rs_lv_2 (L : Nat → Bool) (n : Nat) : rs_lv L (2 * n) = L n := by
  unfold rs_lv
  rw [show 2 * n / 2 = n by omega, show 2 * n % 2 = 0 by omega]
  exact Bool.xor_false _
theorem rs_lv_b {L : Nat → Bool} (h : L 0 = false) (b : Bool) : rs_lv L b.toNat = b := by
  unfold rs_lv
  cases b
  · show (L 0 ^^ false) = false
    rw [h]; rfl
  · show (L 0 ^^ true) = true
    rw [h]; rfl
/-- L keeps the gates' equations -/
def rs_Md (nc : Nat) (gl gr : Nat → Nat) (L : Nat → Bool) : Prop := L 0 = false ∧ ∀ n, 97 ≤ n → n < nc → L n = (rs_lv L (gl n) && rs_lv L (gr n))
def rs_WF (nc : Nat) (gl gr : Nat → Nat) : Prop := 97 ≤ nc ∧ ∀ n, 97 ≤ n → n < nc → gl n < 2 * n ∧ gr n < 2 * n
/-- a circuit and a later one -/
def rs_Ex (nc : Nat) (gl gr : Nat → Nat) (nc' : Nat) (gl' gr' : Nat → Nat) : Prop := nc ≤ nc' ∧ rs_WF nc' gl' gr' ∧ ∀ L, rs_Md nc' gl' gr' L → rs_Md nc gl gr L
theorem rs_ex_r {nc : Nat} {gl gr : Nat → Nat} (h : rs_WF nc gl gr) : rs_Ex nc gl gr nc gl gr := ⟨Nat.le_refl _, h, fun _ z => z⟩
theorem rs_ex_t {nc nc' nc'' : Nat} {gl gr gl' gr' gl'' gr'' : Nat → Nat} (h : rs_Ex nc gl gr nc' gl' gr') (h' : rs_Ex nc' gl' gr' nc'' gl'' gr'') : rs_Ex nc gl gr nc'' gl'' gr'' := ⟨Nat.le_trans h.1 h'.1, h'.2.1, fun L z => h.2.2 L (h'.2.2 L z)⟩
theorem rs_ex_and {nc : Nat} {gl gr : Nat → Nat} (h : rs_WF nc gl gr) {a b : Nat} (ha : a < 2 * nc) (hb : b < 2 * nc) : rs_Ex nc gl gr (nc + 1) (rs_u gl nc a) (rs_u gr nc b) ∧ ∀ L, rs_Md (nc + 1) (rs_u gl nc a) (rs_u gr nc b) L → rs_lv L (2 * nc) = (rs_lv L a && rs_lv L b) := by
  refine ⟨⟨by omega, ⟨by have := h.1; omega, fun n h1 h2 => ?_⟩, fun L z => ⟨z.1, fun n h1 h2 => ?_⟩⟩, fun L z => ?_⟩
  · rcases Nat.lt_or_ge n nc with g | g
    · rw [rs_un (by omega), rs_un (by omega)]; exact h.2 n h1 g
    · have e : n = nc := by omega
      rw [e, rs_us, rs_us]; exact ⟨ha, hb⟩
  · have := z.2 n h1 (by omega)
    rw [rs_un (by omega), rs_un (by omega)] at this
    exact this
  · have := z.2 nc h.1 (by omega)
    rw [rs_us, rs_us] at this
    rw [rs_lv_2]
    exact this
/-- the byte a on the eight literals of f from i * 8 -/
def rs_bt (L : Nat → Bool) (f : Nat → Nat) (i a : Nat) : Prop := ∀ j, j < 8 → rs_lv L (f (i * 8 + j)) = a.testBit j
theorem rs_nb : ∀ b, b < 256 → ∀ j, j < 8 → (255 - b).testBit j = !b.testBit j := by decide +kernel
theorem rs_bv (a : Nat) {j : Nat} (hj : j < 8) : (BitVec.ofNat 8 a).getLsbD j = a.testBit j := by
  rw [BitVec.getLsbD_ofNat, decide_eq_true hj, Bool.true_and]
def rs_cy (a b : Nat) (c : Bool) (j : Nat) : Bool := BitVec.carry j (BitVec.ofNat 8 a) (BitVec.ofNat 8 b) c
theorem rs_cy_0 (a b : Nat) (c : Bool) : rs_cy a b c 0 = c := BitVec.carry_zero
theorem rs_cy_s (a b : Nat) (c : Bool) {j : Nat} (hj : j < 8) : rs_cy a b c (j + 1) = Bool.atLeastTwo (a.testBit j) (b.testBit j) (rs_cy a b c j) := by
  unfold rs_cy
  rw [BitVec.carry_succ, rs_bv a hj, rs_bv b hj]
theorem rs_cy_8 {a b : Nat} (ha : a < 256) (hb : b < 256) (c : Bool) : rs_cy a b c 8 = decide (256 ≤ a + b + c.toNat) := by
  unfold rs_cy
  rw [BitVec.carry_width, BitVec.toNat_ofNat, BitVec.toNat_ofNat, Nat.mod_eq_of_lt ha, Nat.mod_eq_of_lt hb]
theorem rs_add (a b : Nat) (c : Bool) {j : Nat} (hj : j < 8) : ((a + b + c.toNat) % 256).testBit j = (a.testBit j ^^ (b.testBit j ^^ rs_cy a b c j)) := by
  have h := BitVec.getLsbD_add_add_bool hj (BitVec.ofNat 8 a) (BitVec.ofNat 8 b) c
  rw [rs_bv a hj, rs_bv b hj] at h
  unfold rs_cy
  rw [← h]
  have e : (BitVec.ofNat 8 a + BitVec.ofNat 8 b + BitVec.setWidth 8 (BitVec.ofBool c)).toNat = (a + b + c.toNat) % 256 := by
    rw [BitVec.toNat_add, BitVec.toNat_add, BitVec.toNat_ofNat, BitVec.toNat_ofNat, BitVec.toNat_setWidth, BitVec.toNat_ofBool]
    cases c
    · show ((a % 256 + b % 256) % 256 + 0 % 256) % 256 = (a + b + 0) % 256
      omega
    · show ((a % 256 + b % 256) % 256 + 1 % 256) % 256 = (a + b + 1) % 256
      omega
  show _ = (BitVec.ofNat 8 a + BitVec.ofNat 8 b + BitVec.setWidth 8 (BitVec.ofBool c)).toNat.testBit j
  rw [e]
theorem rs_hb {a j : Nat} (ha : a < 256) (hj : 8 ≤ j) : a.testBit j = false := Nat.testBit_lt_two_pow (Nat.lt_of_lt_of_le ha (Nat.pow_le_pow_right (n := 2) (by decide) hj))
theorem rs_eqb {a b : Nat} (ha : a < 256) (hb : b < 256) (h : ∀ j, j < 8 → a.testBit j = b.testBit j) : a = b := by
  refine Nat.eq_of_testBit_eq fun j => ?_
  rcases Nat.lt_or_ge j 8 with g | g
  · exact h j g
  · rw [rs_hb ha g, rs_hb hb g]
theorem rs_shl (a v : Nat) {j : Nat} (hj : j < 8) : (a * 2 ^ v % 256).testBit j = (decide (v ≤ j) && a.testBit (j - v)) := by
  show (a * 2 ^ v % 2 ^ 8).testBit j = _
  rw [Nat.testBit_mod_two_pow, decide_eq_true hj, Bool.true_and, Nat.testBit_mul_two_pow]
theorem rs_shr (a v j : Nat) : (a / 2 ^ v).testBit j = a.testBit (j + v) := Nat.testBit_div_two_pow a j
theorem rs_b1 (b : Bool) (j : Nat) : (b.toNat).testBit j = (decide (j = 0) && b) := by
  cases b
  · rw [Bool.and_false]; exact Nat.zero_testBit j
  · rw [Bool.and_true]
    cases j with
    | zero => rfl
    | succ j =>
      rw [decide_eq_false (by omega)]
      show Nat.testBit 1 (j + 1) = false
      rw [Nat.testBit_add_one]
      exact Nat.zero_testBit j
theorem rs_bit (a v j : Nat) : (a / 2 ^ v % 2).testBit j = (decide (j = 0) && a.testBit v) := by
  rw [← Nat.toNat_testBit]
  exact rs_b1 _ j
theorem rs_x128 (a : Nat) {j : Nat} (hj : j < 8) : (a ^^^ 128).testBit j = (a.testBit j ^^ decide (j = 7)) := by
  rw [Nat.testBit_xor]
  rw [(by decide : ∀ j, j < 8 → Nat.testBit 128 j = decide (j = 7)) j hj]
/-- a truth value in a byte -/
theorem rs_tr (c : Prop) [Decidable c] (j : Nat) : (if c then 1 else 0 : Nat).testBit j = (decide (j = 0) && decide c) := by
  have e : (if c then 1 else 0 : Nat) = (decide c).toNat := by
    by_cases g : c
    · rw [if_pos g, decide_eq_true g]; rfl
    · rw [if_neg g, decide_eq_false g]; rfl
  rw [e]
  exact rs_b1 _ j

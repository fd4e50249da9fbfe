section
/-! rows taken from kit/rows, as given for pasting -/
theorem pk_us {f : Nat → Int32} {k : Nat} {x : Int32} : upd f k x k = x := if_pos rfl
theorem pk_un {f : Nat → Int32} {k j : Nat} {x : Int32} (h : j ≠ k) : upd f k x j = f j := if_neg h
theorem pk_sub {a b : Nat} (h : b ≤ a) : nI a - nI b = nI (a - b) := by
  obtain ⟨c, rfl⟩ : ∃ c, a = c + b := ⟨a - b, by omega⟩
  rw [← nI_add, Int32.add_sub_cancel, Nat.add_sub_cancel]
theorem pk_m1 (n : Nat) : nI (n + 1) + (-1) = nI n := by
  rw [← nI_1, Int32.add_assoc, show (1 : Int32) + (-1) = 0 from rfl, Int32.add_zero]
theorem pk_mul (a b : Nat) : nI a * nI b = nI (a * b) := (Int32.ofNat_mul a b).symm
theorem pk_sub_toInt {a b : Nat} (ha : a < 2 ^ 30) (hb : b < 2 ^ 30) : (nI a - nI b).toInt = (a : Int) - b := by
  rw [Int32.toInt_sub, nI_toInt (by omega), nI_toInt (by omega)]
  exact Int.bmod_eq_of_le (by omega) (by omega)
theorem pk_sneg {a b : Nat} (hb : b < 2 ^ 30) (h : a < b) : nI a - nI b < 0 := by
  rw [Int32.lt_iff_toInt_lt, pk_sub_toInt (by omega) hb, show (0 : Int32).toInt = 0 from by decide]
  omega
theorem pk_ix (x : Int32) {n : Nat} (hn : n < 2 ^ 31) : x < 0 ∨ nI n ≤ x ∨ ∃ j : Nat, j < n ∧ x = nI j := by
  by_cases h : x < 0
  · exact Or.inl h
  · obtain ⟨j, hj, rfl⟩ := nI_of h
    by_cases h2 : j < n
    · exact Or.inr (Or.inr ⟨j, h2, rfl⟩)
    · exact Or.inr (Or.inl (nI_le (by omega) hj))
theorem pk_le {x y : Int32} {A B : Prop} (a b : Nat) (f : a ≤ b → A) (g : b < a → B) (hx : x = nI a := by rfl) (hy : y = nI b := by rfl) (ha : a < 2 ^ 31 := by omega) (hb : b < 2 ^ 31 := by omega) : (x ≤ y → A) ∧ (¬ x ≤ y → B) := by
  subst hx hy
  rw [nI_leI ha hb]
  exact ⟨f, fun z => g (by omega)⟩
theorem pk_lt {x y : Int32} {A B : Prop} (a b : Nat) (f : a < b → A) (g : b ≤ a → B) (hx : x = nI a := by rfl) (hy : y = nI b := by rfl) (ha : a < 2 ^ 31 := by omega) (hb : b < 2 ^ 31 := by omega) : (x < y → A) ∧ (¬ x < y → B) := by
  subst hx hy
  rw [nI_ltI ha hb]
  exact ⟨f, fun z => g (by omega)⟩
theorem pk_eq {x y : Int32} {A B : Prop} (a b : Nat) (f : a = b → A) (g : a ≠ b → B) (hx : x = nI a := by rfl) (hy : y = nI b := by rfl) (ha : a < 2 ^ 31 := by omega) (hb : b < 2 ^ 31 := by omega) : (x = y → A) ∧ (¬ x = y → B) := by
  subst hx hy
  rw [nI_eq ha hb]
  exact ⟨f, g⟩
theorem pk_in {x : Int32} (n N : Nat) (h : n < N) (hx : x = nI n := by rfl) (hN : N < 2 ^ 31 := by omega) : vp_in x N := by
  subst hx
  exact vp_in_nI h hN
theorem pk_cl {x : Int32} (n : Nat) (hx : x = nI n := by rfl) (h : n < 2 ^ 31 := by omega) : x.toNatClampNeg = n := by
  subst hx
  exact nI_clamp h
theorem pk_tn {n : Nat} (h : n < 2 ^ 32) : (nI n).toBitVec.toNat = n := Nat.mod_eq_of_lt h
theorem pk_and (x : Int32) {m : Int32} (k : Nat) (hm : m.toBitVec.toNat = 2 ^ k - 1) : x &&& m = nI (x.toBitVec.toNat % 2 ^ k) := by
  apply Int32.toBitVec_inj.mp
  apply BitVec.eq_of_toNat_eq
  rw [Int32.toBitVec_and, BitVec.toNat_and, hm, Nat.and_two_pow_sub_one_eq_mod]
  show _ = (BitVec.ofNat 32 _).toNat
  rw [BitVec.toNat_ofNat]
  exact (Nat.mod_eq_of_lt (Nat.lt_of_le_of_lt (Nat.mod_le _ _) x.toBitVec.isLt)).symm
theorem pk_andN {n : Nat} (h : n < 2 ^ 32) {m : Int32} (k : Nat) (hm : m.toBitVec.toNat = 2 ^ k - 1) : nI n &&& m = nI (n % 2 ^ k) := by
  rw [pk_and _ k hm, pk_tn h]
theorem pk_andE (x : Int32) {m : Int32} (k : Nat) (hm : m.toBitVec.toNat = 2 ^ k - 1) : ∃ j : Nat, j < 2 ^ k ∧ x &&& m = nI j := ⟨_, Nat.mod_lt _ (Nat.two_pow_pos k), pk_and x k hm⟩
theorem pk_andIn (x : Int32) {m : Int32} (k : Nat) (hm : m.toBitVec.toNat = 2 ^ k - 1) (hk : k ≤ 30) : vp_in (x &&& m) (2 ^ k) := by
  obtain ⟨j, hj, e⟩ := pk_andE x k hm
  rw [e]
  exact vp_in_nI hj (Nat.lt_of_le_of_lt (Nat.pow_le_pow_right (by decide) hk) (by decide))
theorem pk_shl (a s : Int32) (k : Nat) (hs : (s.toBitVec.smod 32).toNat = k) : (a <<< s).toBitVec.toNat = a.toBitVec.toNat * 2 ^ k % 2 ^ 32 := by
  show (a.toBitVec <<< (s.toBitVec.smod 32).toNat).toNat = _
  rw [hs, BitVec.toNat_shiftLeft, Nat.shiftLeft_eq]
theorem pk_shlN {n : Nat} (s : Int32) (k : Nat) (hs : (s.toBitVec.smod 32).toNat = k) (h : n * 2 ^ k < 2 ^ 32) : nI n <<< s = nI (n * 2 ^ k) := by
  apply Int32.toBitVec_inj.mp
  apply BitVec.eq_of_toNat_eq
  have hn : n < 2 ^ 32 := Nat.lt_of_le_of_lt (Nat.le_mul_of_pos_right n (Nat.two_pow_pos k)) h
  rw [pk_shl _ _ k hs, pk_tn hn, pk_tn h, Nat.mod_eq_of_lt h]
theorem pk_shr (a s : Int32) (k : Nat) (hs : (s.toBitVec.smod 32).toNat = k) : (a >>> s).toInt = a.toInt >>> k := by
  show (a.toBitVec.sshiftRight (s.toBitVec.smod 32).toNat).toInt = _
  rw [hs, BitVec.toInt_sshiftRight]
  rfl
theorem pk_shrN {n : Nat} (h : n < 2 ^ 31) (s : Int32) (k : Nat) (hs : (s.toBitVec.smod 32).toNat = k) : nI n >>> s = nI (n / 2 ^ k) := by
  apply Int32.toInt_inj.mp
  have h2 : n / 2 ^ k ≤ n := Nat.div_le_self _ _
  rw [pk_shr _ _ k hs, nI_toInt h, nI_toInt (by omega), Int.shiftRight_eq_div_pow]
  rfl
theorem pk_loop {σ : Type} (W : Nat → Nat → σ → Prop) (I : Nat → σ → Prop) (e i0 : Nat) (s : σ) (hi : i0 ≤ e) (h0 : I i0 s) (hx : ∀ n s, I e s → W (n + 1) e s)
    (hs : ∀ n i s, i < e → I i s → (∀ s', I (i + 1) s' → W n (i + 1) s') → W (n + 1) i s) : ∃ n, W n i0 s :=
  ⟨e + 1, loop_i W I e hx hs (e + 1) i0 s hi (by omega) h0⟩
theorem pk_loopD {σ : Type} (W : Nat → Nat → σ → Prop) (I : Nat → σ → Prop) (hx : ∀ n s, I 0 s → W (n + 1) 0 s)
    (hs : ∀ n i s, I (i + 1) s → (∀ s', I i s' → W n i s') → W (n + 1) (i + 1) s) : ∀ (e : Nat) (s : σ), I e s → W (e + 1) e s := by
  intro e
  induction e with
  | zero => exact fun s h => hx 0 s h
  | succ e ih => exact fun s h => hs (e + 1) e s h (fun s' h' => ih s' h')
theorem pk_least (P : Nat → Prop) (h : ∃ k, P k) : ∃ k, P k ∧ ∀ j, j < k → ¬ P j := by
  obtain ⟨k, hk⟩ := h
  induction k using Nat.strongRecOn with
  | ind k ih =>
    by_cases e : ∃ j, j < k ∧ P j
    · obtain ⟨j, hj, pj⟩ := e
      exact ih j hj pj
    · exact ⟨k, hk, fun j hj pj => e ⟨j, hj, pj⟩⟩
theorem s_l : ∀ n, n < 32 → ((nI n &&& 31).toBitVec.smod 32).toNat = n := by decide +kernel
theorem nx_and (a b : Nat) : nI a &&& nI b = nI (a &&& b) := by
  apply Int32.toBitVec_inj.1
  show BitVec.ofNat 32 a &&& BitVec.ofNat 32 b = BitVec.ofNat 32 (a &&& b)
  apply BitVec.eq_of_getLsbD_eq
  intro i hi
  simp [hi]
theorem nx_xor (a b : Nat) : nI a ^^^ nI b = nI (a ^^^ b) := by
  apply Int32.toBitVec_inj.1
  show BitVec.ofNat 32 a ^^^ BitVec.ofNat 32 b = BitVec.ofNat 32 (a ^^^ b)
  apply BitVec.eq_of_getLsbD_eq
  intro i hi
  simp [hi]
end
section
/-! arrays of naturals; the need after i tokens; the ends of the texts under the tokens; the order of the tokens -/
def rs_A (f : Nat → Nat) : Nat → Int32 := fun i => nI (f i)
def rs_u (f : Nat → Nat) (k x : Nat) : Nat → Nat := fun j => if j = k then x else f j
theorem rs_us {f : Nat → Nat} {k x : Nat} : rs_u f k x k = x := if_pos rfl
theorem rs_un {f : Nat → Nat} {k j x : Nat} (h : j ≠ k) : rs_u f k x j = f j := if_neg h
theorem rs_upd (f : Nat → Nat) (k x : Nat) : upd (rs_A f) k (nI x) = rs_A (rs_u f k x) := by
  funext j
  show (if j = k then nI x else nI (f j)) = nI (if j = k then x else f j)
  split <;> rfl
theorem rs_A0 : (fun _ => 0 : Nat → Int32) = rs_A (fun _ => 0) := funext fun _ => nI_0.symm
def rs_ar (k v : Nat) : Nat := if k ≤ 4 then 0 else if k = 5 then (if v ≤ 2 then 1 else if v = 11 then 3 else 2) else if k = 11 then 2 else 1
theorem rs_ar3 (k v : Nat) : rs_ar k v ≤ 3 := by
  unfold rs_ar
  repeat' split
  all_goals omega
def rs_hi (k : Nat) : Nat := if k = 1 then 255 else if k = 2 then 3 else if k = 5 then 11 else if k = 10 then 3 else 7
def rs_ok (k v : Nat) : Prop := 1 ≤ k ∧ k ≤ 11 ∧ v ≤ rs_hi k ∧ (k = 5 → 1 ≤ v)
def rs_nd (kd vl : Nat → Nat) : Nat → Nat
  | 0 => 0
  | i + 1 => (rs_nd kd vl i - 1) + rs_ar (kd i) (vl i)
def rs_e1 (en : Nat → Nat) (a i : Nat) : Nat := if a = 0 then i + 1 else if a = 1 then en (i + 1) else if a = 2 then en (en (i + 1)) else en (en (en (i + 1)))
def rs_Q (kd vl en : Nat → Nat) (t p : Nat) : Prop := p < en p ∧ en p ≤ t ∧ rs_nd kd vl (en p) = rs_nd kd vl p - 1 ∧ ∀ j, p < j → j < en p → rs_nd kd vl p - 1 < rs_nd kd vl j
theorem rs_parse' {kd vl en : Nat → Nat} {lo t : Nat} (h0 : rs_nd kd vl t = 0) (he : ∀ i, lo ≤ i → i < t → en i = rs_e1 en (rs_ar (kd i) (vl i)) i) : ∀ m i, lo ≤ i → t - i ≤ m → i < t → rs_Q kd vl en t i := by
  intro m
  induction m with
  | zero => intro i hl h1 h2; omega
  | succ m ih =>
    intro i hl h1 h2
    have hs : rs_nd kd vl (i + 1) = (rs_nd kd vl i - 1) + rs_ar (kd i) (vl i) := rfl
    have st : ∀ p, i < p → p ≤ t → 1 ≤ rs_nd kd vl p → rs_Q kd vl en t p := by
      intro p hp hpt h
      have hne : p ≠ t := fun e => by rw [e, h0] at h; omega
      exact ih p (by omega) (by omega) (by omega)
    have hei := he i hl h2
    have h3 := rs_ar3 (kd i) (vl i)
    obtain ⟨a, ha⟩ : ∃ a, a = rs_ar (kd i) (vl i) := ⟨_, rfl⟩
    rw [← ha] at hs hei h3
    unfold rs_e1 at hei
    unfold rs_Q
    rcases (by omega : a = 0 ∨ a = 1 ∨ a = 2 ∨ a = 3) with h | h | h | h
    · rw [if_pos h] at hei
      rw [hei]
      exact ⟨by omega, by omega, by omega, fun j h h' => by omega⟩
    · rw [if_neg (by omega), if_pos h] at hei
      obtain ⟨q1, q2, q3, q4⟩ := st (i + 1) (by omega) (by omega) (by omega)
      rw [hei]
      refine ⟨by omega, q2, by omega, fun j g g' => ?_⟩
      rcases Nat.lt_or_ge (i + 1) j with e | e
      · have := q4 j e g'; omega
      · have e2 : j = i + 1 := by omega
        rw [e2]; omega
    · rw [if_neg (by omega), if_neg (by omega), if_pos h] at hei
      obtain ⟨q1, q2, q3, q4⟩ := st (i + 1) (by omega) (by omega) (by omega)
      obtain ⟨r1, r2, r3, r4⟩ := st (en (i + 1)) (by omega) (by omega) (by omega)
      rw [hei]
      refine ⟨by omega, r2, by omega, fun j g g' => ?_⟩
      rcases Nat.lt_or_ge (en (i + 1)) j with f | f
      · have := r4 j f g'; omega
      · rcases Nat.lt_or_ge j (en (i + 1)) with f2 | f2
        · rcases Nat.lt_or_ge (i + 1) j with e | e
          · have := q4 j e f2; omega
          · have e2 : j = i + 1 := by omega
            rw [e2]; omega
        · have e2 : j = en (i + 1) := by omega
          rw [e2]; omega
    · rw [if_neg (by omega), if_neg (by omega), if_neg (by omega)] at hei
      obtain ⟨q1, q2, q3, q4⟩ := st (i + 1) (by omega) (by omega) (by omega)
      obtain ⟨r1, r2, r3, r4⟩ := st (en (i + 1)) (by omega) (by omega) (by omega)
      obtain ⟨s1, s2, s3, s4⟩ := st (en (en (i + 1))) (by omega) (by omega) (by omega)
      rw [hei]
      refine ⟨by omega, s2, by omega, fun j g g' => ?_⟩
      rcases Nat.lt_or_ge (en (en (i + 1))) j with f | f
      · have := s4 j f g'; omega
      · rcases Nat.lt_or_ge j (en (en (i + 1))) with f2 | f2
        · rcases Nat.lt_or_ge (en (i + 1)) j with f3 | f3
          · have := r4 j f3 f2; omega
          · rcases Nat.lt_or_ge j (en (i + 1)) with f4 | f4
            · rcases Nat.lt_or_ge (i + 1) j with e | e
              · have := q4 j e f4; omega
              · have e2 : j = i + 1 := by omega
                rw [e2]; omega
            · have e2 : j = en (i + 1) := by omega
              rw [e2]; omega
        · have e2 : j = en (en (i + 1)) := by omega
          rw [e2]; omega
theorem rs_parse {kd vl en : Nat → Nat} {t : Nat} (h0 : rs_nd kd vl t = 0) (he : ∀ i, i < t → en i = rs_e1 en (rs_ar (kd i) (vl i)) i) (m i : Nat) (hm : t - i ≤ m) (hi : i < t) : rs_Q kd vl en t i := rs_parse' (lo := 0) h0 (fun i _ => he i) m i (Nat.zero_le _) hm hi
/-- what a token reads: the statement of its wire, and its operands -/
def rs_op (kd vl en : Nat → Nat) (i p : Nat) : Prop := (1 ≤ rs_ar (kd i) (vl i) ∧ p = i + 1) ∨ (2 ≤ rs_ar (kd i) (vl i) ∧ p = en (i + 1)) ∨ (3 ≤ rs_ar (kd i) (vl i) ∧ p = en (en (i + 1)))
def rs_dp (kd vl en ws : Nat → Nat) (i p : Nat) : Prop := (kd i = 4 ∧ p = ws (vl i)) ∨ rs_op kd vl en i p
theorem rs_opnd {kd vl en : Nat → Nat} {t : Nat} (h0 : rs_nd kd vl t = 0) (he : ∀ i, i < t → en i = rs_e1 en (rs_ar (kd i) (vl i)) i) {i p : Nat} (hi : i < t) (hp : rs_op kd vl en i p) : i < p ∧ p < en i ∧ p < t ∧ ∀ j, i < j → j ≤ p → 1 ≤ rs_nd kd vl j := by
  have Q : ∀ p, p < t → rs_Q kd vl en t p := fun p hp => rs_parse h0 he _ p (Nat.le_refl _) hp
  have hs : rs_nd kd vl (i + 1) = (rs_nd kd vl i - 1) + rs_ar (kd i) (vl i) := rfl
  have st : ∀ p, p ≤ t → 1 ≤ rs_nd kd vl p → rs_Q kd vl en t p := by
    intro p hpt h
    have hne : p ≠ t := fun e => by rw [e, h0] at h; omega
    exact Q p (by omega)
  have hei := he i hi
  have h3 := rs_ar3 (kd i) (vl i)
  obtain ⟨z1, z2, z3, z4⟩ := Q i hi
  have key : i < p ∧ p < en i := by
    unfold rs_op at hp
    obtain ⟨a, ha⟩ : ∃ a, a = rs_ar (kd i) (vl i) := ⟨_, rfl⟩
    rw [← ha] at hs hei h3 hp
    unfold rs_e1 at hei
    obtain ⟨q1, q2, q3, q4⟩ := st (i + 1) (by omega) (by omega)
    rcases (by omega : a = 1 ∨ a = 2 ∨ a = 3) with h | h | h
    · rw [if_neg (by omega), if_pos h] at hei
      rcases hp with ⟨g, rfl⟩ | ⟨g, rfl⟩ | ⟨g, rfl⟩ <;> omega
    · rw [if_neg (by omega), if_neg (by omega), if_pos h] at hei
      obtain ⟨r1, r2, r3, r4⟩ := st (en (i + 1)) (by omega) (by omega)
      rcases hp with ⟨g, rfl⟩ | ⟨g, rfl⟩ | ⟨g, rfl⟩ <;> omega
    · rw [if_neg (by omega), if_neg (by omega), if_neg (by omega)] at hei
      obtain ⟨r1, r2, r3, r4⟩ := st (en (i + 1)) (by omega) (by omega)
      obtain ⟨s1, s2, s3, s4⟩ := st (en (en (i + 1))) (by omega) (by omega)
      rcases hp with ⟨g, rfl⟩ | ⟨g, rfl⟩ | ⟨g, rfl⟩ <;> omega
  refine ⟨key.1, key.2, by omega, fun j a b => ?_⟩
  have := z4 j a (by omega)
  omega
/-- the last boundary up to i -/
def rs_ss (kd vl : Nat → Nat) : Nat → Nat
  | 0 => 0
  | i + 1 => if rs_nd kd vl (i + 1) = 0 then i + 1 else rs_ss kd vl i
theorem rs_ss_p (kd vl : Nat → Nat) : ∀ i, rs_ss kd vl i ≤ i ∧ rs_nd kd vl (rs_ss kd vl i) = 0 ∧ ∀ j, rs_ss kd vl i < j → j ≤ i → 1 ≤ rs_nd kd vl j := by
  intro i
  induction i with
  | zero => exact ⟨Nat.le_refl _, rfl, fun j a b => by omega⟩
  | succ i ih =>
    by_cases h : rs_nd kd vl (i + 1) = 0
    · have e : rs_ss kd vl (i + 1) = i + 1 := if_pos h
      rw [e]
      exact ⟨Nat.le_refl _, h, fun j a b => by omega⟩
    · have e : rs_ss kd vl (i + 1) = rs_ss kd vl i := if_neg h
      rw [e]
      obtain ⟨a, b, c⟩ := ih
      refine ⟨by omega, b, fun j d f => ?_⟩
      rcases Nat.lt_or_ge i j with g | g
      · have e2 : j = i + 1 := by omega
        rw [e2]; omega
      · exact c j d g
theorem rs_ss_u {kd vl : Nat → Nat} {i s : Nat} (h1 : s ≤ i) (h2 : rs_nd kd vl s = 0) (h3 : ∀ j, s < j → j ≤ i → 1 ≤ rs_nd kd vl j) : rs_ss kd vl i = s := by
  obtain ⟨a, b, c⟩ := rs_ss_p kd vl i
  rcases Nat.lt_trichotomy (rs_ss kd vl i) s with g | g | g
  · have := c s g h1; omega
  · exact g
  · have := h3 _ g a; omega
def rs_po (kd vl en : Nat → Nat) (k : Nat) : Nat := rs_ss kd vl k + en (rs_ss kd vl k) - 1 - k
theorem rs_seg {kd vl en : Nat → Nat} {t : Nat} (h0 : rs_nd kd vl t = 0) (he : ∀ i, i < t → en i = rs_e1 en (rs_ar (kd i) (vl i)) i) {i : Nat} (hi : i < t) : rs_ss kd vl i ≤ i ∧ i < en (rs_ss kd vl i) ∧ en (rs_ss kd vl i) ≤ t ∧ rs_nd kd vl (en (rs_ss kd vl i)) = 0 ∧ ∀ j, rs_ss kd vl i < j → j < en (rs_ss kd vl i) → 1 ≤ rs_nd kd vl j := by
  obtain ⟨a, b, c⟩ := rs_ss_p kd vl i
  obtain ⟨z1, z2, z3, z4⟩ := rs_parse h0 he _ (rs_ss kd vl i) (Nat.le_refl _) (by omega)
  refine ⟨a, ?_, z2, by omega, fun j d f => ?_⟩
  · rcases Nat.lt_or_ge i (en (rs_ss kd vl i)) with g | g
    · exact g
    · have := c _ z1 g; omega
  · have := z4 j d f; omega
theorem rs_seg_eq {kd vl en : Nat → Nat} {t : Nat} (h0 : rs_nd kd vl t = 0) (he : ∀ i, i < t → en i = rs_e1 en (rs_ar (kd i) (vl i)) i) {i j : Nat} (hi : i < t) (h1 : rs_ss kd vl i ≤ j) (h2 : j < en (rs_ss kd vl i)) : rs_ss kd vl j = rs_ss kd vl i := by
  obtain ⟨a, b, c, d, f⟩ := rs_seg h0 he hi
  exact rs_ss_u h1 (rs_ss_p kd vl i).2.1 (fun x g g' => f x g (by omega))
theorem rs_po_p {kd vl en : Nat → Nat} {t : Nat} (h0 : rs_nd kd vl t = 0) (he : ∀ i, i < t → en i = rs_e1 en (rs_ar (kd i) (vl i)) i) {k : Nat} (hk : k < t) : rs_ss kd vl k ≤ rs_po kd vl en k ∧ rs_po kd vl en k < en (rs_ss kd vl k) ∧ rs_ss kd vl (rs_po kd vl en k) = rs_ss kd vl k ∧ rs_po kd vl en (rs_po kd vl en k) = k ∧ rs_po kd vl en k < t := by
  obtain ⟨a, b, c, d, f⟩ := rs_seg h0 he hk
  have e : rs_po kd vl en k = rs_ss kd vl k + en (rs_ss kd vl k) - 1 - k := rfl
  have g1 : rs_ss kd vl k ≤ rs_po kd vl en k := by omega
  have g2 : rs_po kd vl en k < en (rs_ss kd vl k) := by omega
  have g3 := rs_seg_eq h0 he hk g1 g2
  have e2 : rs_po kd vl en (rs_po kd vl en k) = rs_ss kd vl (rs_po kd vl en k) + en (rs_ss kd vl (rs_po kd vl en k)) - 1 - rs_po kd vl en k := rfl
  rw [g3] at e2
  exact ⟨g1, g2, g3, by omega, by omega⟩
/-- a complete program -/
def rs_Pg (kd vl en ws : Nat → Nat) (t : Nat) : Prop := rs_nd kd vl t = 0 ∧ (∀ i, i < t → en i = rs_e1 en (rs_ar (kd i) (vl i)) i) ∧ (∀ i, i < t → kd i = 4 → ∃ j, ws (vl i) < j ∧ j ≤ i ∧ rs_nd kd vl j = 0) ∧ (∀ i, i < t → rs_ok (kd i) (vl i)) ∧ ∀ i, i < t → (9 ≤ kd i ↔ rs_nd kd vl i = 0)
theorem rs_dp_lt {kd vl en ws : Nat → Nat} {t : Nat} (P : rs_Pg kd vl en ws t) {i p : Nat} (hi : i < t) (h : rs_dp kd vl en ws i p) : p < t ∧ rs_po kd vl en p < rs_po kd vl en i := by
  obtain ⟨h0, he, hw, ho⟩ := P
  obtain ⟨a, b, c, d, f⟩ := rs_seg h0 he hi
  have ei : rs_po kd vl en i = rs_ss kd vl i + en (rs_ss kd vl i) - 1 - i := rfl
  rcases h with ⟨h4, rfl⟩ | h
  · obtain ⟨j, j1, j2, j3⟩ := hw i hi h4
    have hp : ws (vl i) < t := by omega
    refine ⟨hp, ?_⟩
    obtain ⟨a', b', c', d', f'⟩ := rs_seg h0 he hp
    obtain ⟨s1, s2, s3⟩ := rs_ss_p kd vl i
    obtain ⟨p1, p2, p3, p4, p5⟩ := rs_po_p h0 he hp
    have g : en (rs_ss kd vl (ws (vl i))) ≤ j := by
      rcases Nat.lt_or_ge j (en (rs_ss kd vl (ws (vl i)))) with g | g
      · have := f' j (by omega) g; omega
      · exact g
    have g2 : j ≤ rs_ss kd vl i := by
      rcases Nat.lt_or_ge (rs_ss kd vl i) j with g | g
      · have := s3 j g j2; omega
      · exact g
    omega
  · obtain ⟨o1, o2, o3, o4⟩ := rs_opnd h0 he hi h
    obtain ⟨s1, s2, s3⟩ := rs_ss_p kd vl i
    have e : rs_ss kd vl p = rs_ss kd vl i := by
      refine rs_ss_u (by omega) s2 (fun j g g' => ?_)
      rcases Nat.lt_or_ge i j with x | x
      · exact o4 j x g'
      · exact s3 j g x
    have ep : rs_po kd vl en p = rs_ss kd vl p + en (rs_ss kd vl p) - 1 - p := rfl
    rw [e] at ep
    obtain ⟨a', b', c', d', f'⟩ := rs_seg h0 he o3
    rw [e] at b'
    exact ⟨o3, by omega⟩
theorem rs_ind {kd vl en ws : Nat → Nat} {t : Nat} (P : rs_Pg kd vl en ws t) (C : Nat → Prop) (hs : ∀ i, i < t → (∀ p, rs_dp kd vl en ws i p → C p) → C i) : ∀ i, i < t → C i := by
  have H : ∀ m i, rs_po kd vl en i ≤ m → i < t → C i := by
    intro m
    induction m with
    | zero =>
      intro i hm hi
      exact hs i hi (fun p hp => absurd (rs_dp_lt P hi hp).2 (by omega))
    | succ m ih =>
      intro i hm hi
      refine hs i hi (fun p hp => ?_)
      obtain ⟨a, b⟩ := rs_dp_lt P hi hp
      exact ih p (by omega) a
  exact fun i hi => H _ i (Nat.le_refl _) hi
end
section
/-! the value of an operation, of a token; a solution of all the tokens' equations; the next value of a register -/
def rs_f (v a b c : Nat) : Nat := if v = 1 then 255 - a else if v = 2 then (256 - a) % 256 else if v = 3 then (a + b) % 256 else if v = 4 then (a + 256 - b) % 256 else if v = 5 then a &&& b else if v = 6 then a ||| b else if v = 7 then a ^^^ b else if v = 8 then (if a = b then 1 else 0) else if v = 9 then (if a < b then 1 else 0) else if v = 10 then (if a ^^^ 128 < b ^^^ 128 then 1 else 0) else if a = 0 then c else b
def rs_me (kd vl en ws ip rg R : Nat → Nat) (i : Nat) : Nat := if kd i = 1 then vl i else if kd i = 2 then ip (vl i) else if kd i = 3 then rg (vl i) else if kd i = 4 then R (ws (vl i)) else if kd i = 5 then rs_f (vl i) (R (i + 1)) (R (en (i + 1))) (R (en (en (i + 1)))) else if kd i = 6 then R (i + 1) * 2 ^ vl i % 256 else if kd i = 7 then R (i + 1) / 2 ^ vl i else if kd i = 8 then R (i + 1) / 2 ^ vl i % 2 else R (i + 1)
def rs_So (kd vl en ws ip rg : Nat → Nat) (t : Nat) (R : Nat → Nat) : Prop := ∀ i, i < t → R i = rs_me kd vl en ws ip rg R i
theorem rs_ic {c : Prop} [Decidable c] {x y x' y' : Nat} (h : c → x = x') (h' : ¬ c → y = y') : (if c then x else y) = (if c then x' else y') := by
  by_cases g : c
  · rw [if_pos g, if_pos g]; exact h g
  · rw [if_neg g, if_neg g]; exact h' g
theorem rs_ar_6 {k v : Nat} (h : 5 ≤ k) : 1 ≤ rs_ar k v := by
  unfold rs_ar
  repeat' split
  all_goals omega
theorem rs_ar_2 {k v : Nat} (h : k = 5) (hv : ¬ v = 1) (hv2 : ¬ v = 2) (hv0 : 1 ≤ v) : 2 ≤ rs_ar k v := by
  unfold rs_ar
  repeat' split
  all_goals omega
theorem rs_ar_3 {k v : Nat} (h : k = 5) (hv : v = 11) : 3 ≤ rs_ar k v := by
  unfold rs_ar
  repeat' split
  all_goals omega
theorem rs_me_c {kd vl en ws ip rg R R' : Nat → Nat} {i : Nat} (hk : rs_ok (kd i) (vl i)) (h : ∀ p, rs_dp kd vl en ws i p → R p = R' p) : rs_me kd vl en ws ip rg R i = rs_me kd vl en ws ip rg R' i := by
  have w : kd i = 4 → R (ws (vl i)) = R' (ws (vl i)) := fun e => h _ (Or.inl ⟨e, rfl⟩)
  have o1 : 1 ≤ rs_ar (kd i) (vl i) → R (i + 1) = R' (i + 1) := fun e => h _ (Or.inr (Or.inl ⟨e, rfl⟩))
  have o2 : 2 ≤ rs_ar (kd i) (vl i) → R (en (i + 1)) = R' (en (i + 1)) := fun e => h _ (Or.inr (Or.inr (Or.inl ⟨e, rfl⟩)))
  have o3 : 3 ≤ rs_ar (kd i) (vl i) → R (en (en (i + 1))) = R' (en (en (i + 1))) := fun e => h _ (Or.inr (Or.inr (Or.inr ⟨e, rfl⟩)))
  obtain ⟨k1, k2, k3, k4⟩ := hk
  unfold rs_me
  refine rs_ic (fun _ => rfl) fun n1 => rs_ic (fun _ => rfl) fun n2 => rs_ic (fun _ => rfl) fun n3 => rs_ic (fun e => w e) fun n4 => rs_ic (fun k5 => ?_) fun n5 => rs_ic (fun k6 => ?_) fun n6 => rs_ic (fun k7 => ?_) fun n7 => rs_ic (fun k8 => ?_) fun n8 => ?_
  · rw [o1 (rs_ar_6 (by omega))]
    unfold rs_f
    refine rs_ic (fun _ => rfl) fun n1 => rs_ic (fun _ => rfl) fun n2 => ?_
    rw [o2 (rs_ar_2 k5 n1 n2 (k4 k5))]
    refine rs_ic (fun _ => rfl) fun n3 => rs_ic (fun _ => rfl) fun n4 => rs_ic (fun _ => rfl) fun n5 => rs_ic (fun _ => rfl) fun n6 => rs_ic (fun _ => rfl) fun n7 => rs_ic (fun _ => rfl) fun n8 => rs_ic (fun _ => rfl) fun n9 => rs_ic (fun _ => rfl) fun n10 => ?_
    have e : rs_hi (kd i) = 11 := by rw [k5]; rfl
    rw [o3 (rs_ar_3 k5 (by have := k4 k5; omega))]
  · rw [o1 (rs_ar_6 (by omega))]
  · rw [o1 (rs_ar_6 (by omega))]
  · rw [o1 (rs_ar_6 (by omega))]
  · rw [o1 (rs_ar_6 (by omega))]
theorem rs_it {P : Nat → Prop} {c : Prop} [Decidable c] {x y : Nat} (h : c → P x) (h' : ¬ c → P y) : P (if c then x else y) := by
  by_cases g : c
  · rw [if_pos g]; exact h g
  · rw [if_neg g]; exact h' g
theorem rs_f_lt {v a b c : Nat} (ha : a < 256) (hb : b < 256) (hc : c < 256) : rs_f v a b c < 256 := by
  unfold rs_f
  refine rs_it (P := fun x => x < 256) (fun _ => by omega) fun _ => rs_it (P := fun x => x < 256) (fun _ => by omega) fun _ => rs_it (P := fun x => x < 256) (fun _ => by omega) fun _ => rs_it (P := fun x => x < 256) (fun _ => by omega) fun _ => rs_it (P := fun x => x < 256) (fun _ => Nat.and_lt_two_pow (n := 8) a hb) fun _ => rs_it (P := fun x => x < 256) (fun _ => Nat.or_lt_two_pow (n := 8) ha hb) fun _ => rs_it (P := fun x => x < 256) (fun _ => Nat.xor_lt_two_pow (n := 8) ha hb) fun _ => rs_it (P := fun x => x < 256) (fun _ => rs_it (P := fun x => x < 256) (fun _ => by decide) fun _ => by decide) fun _ => rs_it (P := fun x => x < 256) (fun _ => rs_it (P := fun x => x < 256) (fun _ => by decide) fun _ => by decide) fun _ => rs_it (P := fun x => x < 256) (fun _ => rs_it (P := fun x => x < 256) (fun _ => by decide) fun _ => by decide) fun _ => rs_it (P := fun x => x < 256) (fun _ => hc) fun _ => hb
theorem rs_So_u {kd vl en ws ip rg R R' : Nat → Nat} {t : Nat} (P : rs_Pg kd vl en ws t) (h : rs_So kd vl en ws ip rg t R) (h' : rs_So kd vl en ws ip rg t R') : ∀ i, i < t → R i = R' i :=
  rs_ind P (fun i => R i = R' i) fun i hi g => (h i hi).trans ((rs_me_c (P.2.2.2.1 i hi) g).trans (h' i hi).symm)
def rs_B (ip rg : Nat → Nat) : Prop := (∀ p, ip p < 256) ∧ ∀ r, rg r < 256
theorem rs_So_lt {kd vl en ws ip rg R : Nat → Nat} {t : Nat} (P : rs_Pg kd vl en ws t) (hB : rs_B ip rg) (h : rs_So kd vl en ws ip rg t R) : ∀ i, i < t → R i < 256 := by
  refine rs_ind P (fun i => R i < 256) fun i hi g => ?_
  obtain ⟨k1, k2, k3, k4⟩ := P.2.2.2.1 i hi
  -- agree with a bounded row where it is read
  have e : R i = rs_me kd vl en ws ip rg (fun p => R p % 256) i := (h i hi).trans (rs_me_c (P.2.2.2.1 i hi) fun p hp => (Nat.mod_eq_of_lt (g p hp)).symm)
  have m : ∀ p, R p % 256 < 256 := fun p => Nat.mod_lt _ (by decide)
  rw [e]
  unfold rs_me
  refine rs_it (P := fun x => x < 256) (fun e => ?_) fun _ => rs_it (P := fun x => x < 256) (fun _ => hB.1 _) fun _ => rs_it (P := fun x => x < 256) (fun _ => hB.2 _) fun _ => rs_it (P := fun x => x < 256) (fun _ => m _) fun _ => rs_it (P := fun x => x < 256) (fun _ => rs_f_lt (m _) (m _) (m _)) fun _ => rs_it (P := fun x => x < 256) (fun _ => Nat.mod_lt _ (by decide)) fun _ => rs_it (P := fun x => x < 256) (fun _ => Nat.lt_of_le_of_lt (Nat.div_le_self _ _) (m _)) fun _ => rs_it (P := fun x => x < 256) (fun _ => Nat.lt_of_lt_of_le (Nat.mod_lt _ (by decide)) (by decide)) fun _ => m _
  have e2 : rs_hi (kd i) = 255 := by rw [e]; rfl
  omega
def rs_RS (kd vl en ws ip rg R0 : Nat → Nat) : Nat → (Nat → Nat)
  | 0 => R0
  | k + 1 => rs_u (rs_RS kd vl en ws ip rg R0 k) (rs_po kd vl en k) (rs_me kd vl en ws ip rg (rs_RS kd vl en ws ip rg R0 k) (rs_po kd vl en k))
theorem rs_RS_so {kd vl en ws : Nat → Nat} {t : Nat} (P : rs_Pg kd vl en ws t) (ip rg R0 : Nat → Nat) : rs_So kd vl en ws ip rg t (rs_RS kd vl en ws ip rg R0 t) := by
  have pp : ∀ k, k < t → rs_po kd vl en k < t ∧ rs_po kd vl en (rs_po kd vl en k) = k := fun k hk => ⟨(rs_po_p P.1 P.2.1 hk).2.2.2.2, (rs_po_p P.1 P.2.1 hk).2.2.2.1⟩
  have H : ∀ k, k ≤ t → ∀ k', k' < k → rs_RS kd vl en ws ip rg R0 k (rs_po kd vl en k') = rs_me kd vl en ws ip rg (rs_RS kd vl en ws ip rg R0 k) (rs_po kd vl en k') := by
    intro k
    induction k with
    | zero => intro _ k' h; omega
    | succ k ih =>
      intro hk k' hk'
      have same : ∀ p, rs_po kd vl en p < k → rs_RS kd vl en ws ip rg R0 (k + 1) p = rs_RS kd vl en ws ip rg R0 k p := by
        intro p hp
        refine rs_un (fun e => ?_)
        rw [e, (pp k (by omega)).2] at hp
        omega
      have cong : ∀ q, q < k + 1 → rs_me kd vl en ws ip rg (rs_RS kd vl en ws ip rg R0 k) (rs_po kd vl en q) = rs_me kd vl en ws ip rg (rs_RS kd vl en ws ip rg R0 (k + 1)) (rs_po kd vl en q) := by
        intro q hq
        have hqt := (pp q (by omega)).1
        refine rs_me_c (P.2.2.2.1 _ hqt) fun p hp => (same p ?_).symm
        have := (rs_dp_lt P hqt hp).2
        rw [(pp q (by omega)).2] at this
        omega
      rcases Nat.lt_or_ge k' k with g | g
      · rw [same _ (by rw [(pp k' (by omega)).2]; exact g), ih (by omega) k' g]
        exact cong k' (by omega)
      · have e : k' = k := by omega
        rw [e]
        exact (rs_us).trans (cong k (by omega))
  intro i hi
  have := H t (Nat.le_refl _) (rs_po kd vl en i) (pp i hi).1
  rw [(pp i hi).2] at this
  exact this
def rs_nz (kd vl en R rg : Nat → Nat) (r : Nat) : Nat → Nat
  | 0 => rg r
  | i + 1 => if kd i = 11 ∧ vl i = r ∧ R (i + 1) ≠ 0 then R (en (i + 1)) else rs_nz kd vl en R rg r i
theorem rs_nz_k {kd vl en R rg : Nat → Nat} {r i : Nat} : ∀ d, (∀ x, i ≤ x → x < i + d → kd x ≠ 11) → rs_nz kd vl en R rg r (i + d) = rs_nz kd vl en R rg r i := by
  intro d
  induction d with
  | zero => intro _; rfl
  | succ d ih =>
    intro h
    have e : rs_nz kd vl en R rg r (i + (d + 1)) = rs_nz kd vl en R rg r (i + d) := if_neg (fun z => h (i + d) (by omega) (by omega) z.1)
    rw [e]
    exact ih (fun x a b => h x a (by omega))
end
section
/-! literals and their levels; circuits; the bits of a byte -/
def rs_lv (L : Nat → Bool) (l : Nat) : Bool := L (l / 2) ^^ decide (l % 2 = 1)
theorem rs_x1d (l : Nat) : (l ^^^ 1) / 2 = l / 2 := by
  rw [Nat.xor_div_two]
  exact Nat.xor_zero _
theorem rs_x1m (l : Nat) : decide ((l ^^^ 1) % 2 = 1) = !decide (l % 2 = 1) := by
  have h := @Nat.xor_mod_two_eq_one l 1
  by_cases g : l % 2 = 1
  · have h2 : ¬ (l ^^^ 1) % 2 = 1 := fun z => (h.mp z) ⟨fun _ => rfl, fun _ => g⟩
    rw [decide_eq_false h2, decide_eq_true g]; rfl
  · have h2 : (l ^^^ 1) % 2 = 1 := h.mpr (fun z => g (z.mpr rfl))
    rw [decide_eq_true h2, decide_eq_false g]; rfl
theorem rs_lv_n (L : Nat → Bool) (l : Nat) : rs_lv L (l ^^^ 1) = !rs_lv L l := by
  unfold rs_lv
  rw [rs_x1d, rs_x1m]
  cases L (l / 2) <;> cases decide (l % 2 = 1) <;> rfl
theorem rs_x1l {l n : Nat} (h : l < 2 * n) : l ^^^ 1 < 2 * n := by
  have e := rs_x1d l
  generalize l ^^^ 1 = m at *
  omega
theorem rs_lv_2 (L : Nat → Bool) (n : Nat) : rs_lv L (2 * n) = L n := by
  unfold rs_lv
  rw [show 2 * n / 2 = n by omega, show 2 * n % 2 = 0 by omega]
  exact Bool.xor_false _
theorem rs_lv_b {L : Nat → Bool} (h : L 0 = false) (b : Bool) : rs_lv L b.toNat = b := by
  unfold rs_lv
  cases b
  · show (L 0 ^^ false) = false
    rw [h]; rfl
  · show (L 0 ^^ true) = true
    rw [h]; rfl
/-- L keeps the gates' equations -/
def rs_Md (nc : Nat) (gl gr : Nat → Nat) (L : Nat → Bool) : Prop := L 0 = false ∧ ∀ n, 97 ≤ n → n < nc → L n = (rs_lv L (gl n) && rs_lv L (gr n))
def rs_WF (nc : Nat) (gl gr : Nat → Nat) : Prop := 97 ≤ nc ∧ ∀ n, 97 ≤ n → n < nc → gl n < 2 * n ∧ gr n < 2 * n
/-- a circuit and a later one -/
def rs_Ex (nc : Nat) (gl gr : Nat → Nat) (nc' : Nat) (gl' gr' : Nat → Nat) : Prop := nc ≤ nc' ∧ rs_WF nc' gl' gr' ∧ ∀ L, rs_Md nc' gl' gr' L → rs_Md nc gl gr L
theorem rs_ex_r {nc : Nat} {gl gr : Nat → Nat} (h : rs_WF nc gl gr) : rs_Ex nc gl gr nc gl gr := ⟨Nat.le_refl _, h, fun _ z => z⟩
theorem rs_ex_t {nc nc' nc'' : Nat} {gl gr gl' gr' gl'' gr'' : Nat → Nat} (h : rs_Ex nc gl gr nc' gl' gr') (h' : rs_Ex nc' gl' gr' nc'' gl'' gr'') : rs_Ex nc gl gr nc'' gl'' gr'' := ⟨Nat.le_trans h.1 h'.1, h'.2.1, fun L z => h.2.2 L (h'.2.2 L z)⟩
theorem rs_ex_and {nc : Nat} {gl gr : Nat → Nat} (h : rs_WF nc gl gr) {a b : Nat} (ha : a < 2 * nc) (hb : b < 2 * nc) : rs_Ex nc gl gr (nc + 1) (rs_u gl nc a) (rs_u gr nc b) ∧ ∀ L, rs_Md (nc + 1) (rs_u gl nc a) (rs_u gr nc b) L → rs_lv L (2 * nc) = (rs_lv L a && rs_lv L b) := by
  refine ⟨⟨by omega, ⟨by have := h.1; omega, fun n h1 h2 => ?_⟩, fun L z => ⟨z.1, fun n h1 h2 => ?_⟩⟩, fun L z => ?_⟩
  · rcases Nat.lt_or_ge n nc with g | g
    · rw [rs_un (by omega), rs_un (by omega)]; exact h.2 n h1 g
    · have e : n = nc := by omega
      rw [e, rs_us, rs_us]; exact ⟨ha, hb⟩
  · have := z.2 n h1 (by omega)
    rw [rs_un (by omega), rs_un (by omega)] at this
    exact this
  · have := z.2 nc h.1 (by omega)
    rw [rs_us, rs_us] at this
    rw [rs_lv_2]
    exact this
/-- the byte a on the eight literals of f from i * 8 -/
def rs_bt (L : Nat → Bool) (f : Nat → Nat) (i a : Nat) : Prop := ∀ j, j < 8 → rs_lv L (f (i * 8 + j)) = a.testBit j
theorem rs_nb : ∀ b, b < 256 → ∀ j, j < 8 → (255 - b).testBit j = !b.testBit j := by decide +kernel
theorem rs_bv (a : Nat) {j : Nat} (hj : j < 8) : (BitVec.ofNat 8 a).getLsbD j = a.testBit j := by
  rw [BitVec.getLsbD_ofNat, decide_eq_true hj, Bool.true_and]
def rs_cy (a b : Nat) (c : Bool) (j : Nat) : Bool := BitVec.carry j (BitVec.ofNat 8 a) (BitVec.ofNat 8 b) c
theorem rs_cy_0 (a b : Nat) (c : Bool) : rs_cy a b c 0 = c := BitVec.carry_zero
theorem rs_cy_s (a b : Nat) (c : Bool) {j : Nat} (hj : j < 8) : rs_cy a b c (j + 1) = Bool.atLeastTwo (a.testBit j) (b.testBit j) (rs_cy a b c j) := by
  unfold rs_cy
  rw [BitVec.carry_succ, rs_bv a hj, rs_bv b hj]
theorem rs_cy_8 {a b : Nat} (ha : a < 256) (hb : b < 256) (c : Bool) : rs_cy a b c 8 = decide (256 ≤ a + b + c.toNat) := by
  unfold rs_cy
  rw [BitVec.carry_width, BitVec.toNat_ofNat, BitVec.toNat_ofNat, Nat.mod_eq_of_lt ha, Nat.mod_eq_of_lt hb]
theorem rs_add (a b : Nat) (c : Bool) {j : Nat} (hj : j < 8) : ((a + b + c.toNat) % 256).testBit j = (a.testBit j ^^ (b.testBit j ^^ rs_cy a b c j)) := by
  have h := BitVec.getLsbD_add_add_bool hj (BitVec.ofNat 8 a) (BitVec.ofNat 8 b) c
  rw [rs_bv a hj, rs_bv b hj] at h
  unfold rs_cy
  rw [← h]
  have e : (BitVec.ofNat 8 a + BitVec.ofNat 8 b + BitVec.setWidth 8 (BitVec.ofBool c)).toNat = (a + b + c.toNat) % 256 := by
    rw [BitVec.toNat_add, BitVec.toNat_add, BitVec.toNat_ofNat, BitVec.toNat_ofNat, BitVec.toNat_setWidth, BitVec.toNat_ofBool]
    cases c
    · show ((a % 256 + b % 256) % 256 + 0 % 256) % 256 = (a + b + 0) % 256
      omega
    · show ((a % 256 + b % 256) % 256 + 1 % 256) % 256 = (a + b + 1) % 256
      omega
  show _ = (BitVec.ofNat 8 a + BitVec.ofNat 8 b + BitVec.setWidth 8 (BitVec.ofBool c)).toNat.testBit j
  rw [e]
theorem rs_hb {a j : Nat} (ha : a < 256) (hj : 8 ≤ j) : a.testBit j = false := Nat.testBit_lt_two_pow (Nat.lt_of_lt_of_le ha (Nat.pow_le_pow_right (n := 2) (by decide) hj))
theorem rs_eqb {a b : Nat} (ha : a < 256) (hb : b < 256) (h : ∀ j, j < 8 → a.testBit j = b.testBit j) : a = b := by
  refine Nat.eq_of_testBit_eq fun j => ?_
  rcases Nat.lt_or_ge j 8 with g | g
  · exact h j g
  · rw [rs_hb ha g, rs_hb hb g]
theorem rs_shl (a v : Nat) {j : Nat} (hj : j < 8) : (a * 2 ^ v % 256).testBit j = (decide (v ≤ j) && a.testBit (j - v)) := by
  show (a * 2 ^ v % 2 ^ 8).testBit j = _
  rw [Nat.testBit_mod_two_pow, decide_eq_true hj, Bool.true_and, Nat.testBit_mul_two_pow]
theorem rs_shr (a v j : Nat) : (a / 2 ^ v).testBit j = a.testBit (j + v) := Nat.testBit_div_two_pow a j
theorem rs_b1 (b : Bool) (j : Nat) : (b.toNat).testBit j = (decide (j = 0) && b) := by
  cases b
  · rw [Bool.and_false]; exact Nat.zero_testBit j
  · rw [Bool.and_true]
    cases j with
    | zero => rfl
    | succ j =>
      rw [decide_eq_false (by omega)]
      show Nat.testBit 1 (j + 1) = false
      rw [Nat.testBit_add_one]
      exact Nat.zero_testBit j
theorem rs_bit (a v j : Nat) : (a / 2 ^ v % 2).testBit j = (decide (j = 0) && a.testBit v) := by
  rw [← Nat.toNat_testBit]
  exact rs_b1 _ j
theorem rs_x128 (a : Nat) {j : Nat} (hj : j < 8) : (a ^^^ 128).testBit j = (a.testBit j ^^ decide (j = 7)) := by
  rw [Nat.testBit_xor]
  rw [(by decide : ∀ j, j < 8 → Nat.testBit 128 j = decide (j = 7)) j hj]
/-- a truth value in a byte -/
theorem rs_tr (c : Prop) [Decidable c] (j : Nat) : (if c then 1 else 0 : Nat).testBit j = (decide (j = 0) && decide c) := by
  have e : (if c then 1 else 0 : Nat) = (decide c).toNat := by
    by_cases g : c
    · rw [if_pos g, decide_eq_true g]; rfl
    · rw [if_neg g, decide_eq_false g]; rfl
  rw [e]
  exact rs_b1 _ j
end
section
/-! arithmetic on naturals -/
theorem rs_or (a b : Nat) : nI a ||| nI b = nI (a ||| b) := by
  apply Int32.toBitVec_inj.1
  show BitVec.ofNat 32 a ||| BitVec.ofNat 32 b = BitVec.ofNat 32 (a ||| b)
  apply BitVec.eq_of_getLsbD_eq
  intro i hi
  simp [hi]
theorem rs_m8 {n : Nat} (h : n < 2 ^ 32) : nI n &&& 255 = nI (n % 256) := pk_andN h 8 (by decide)
theorem rs_m1 {n : Nat} (h : n < 2 ^ 32) : nI n &&& 1 = nI (n % 2) := pk_andN h 1 (by decide)
theorem rs_by (x : Int32) : ∃ j, j < 256 ∧ x &&& 255 = nI j := pk_andE x 8 (by decide)
theorem rs_sb {a b : Nat} (ha : a < 256) (hb : b < 256) : (nI a - nI b) &&& 255 = nI ((a + 256 - b) % 256) := by
  rw [pk_and _ 8 (by decide)]
  have e : (nI a - nI b).toBitVec.toNat = (2 ^ 32 - b + a) % 2 ^ 32 := by
    rw [Int32.toBitVec_sub, BitVec.toNat_sub, pk_tn (by omega), pk_tn (by omega)]
  rw [e]
  exact congrArg nI (by omega)
theorem rs_neg : ∀ a, a < 256 → -(nI a) &&& 255 = nI ((256 - a) % 256) := by decide +kernel
theorem rs_shrI {v j : Nat} (hv : v < 2 ^ 31) (hj : j < 32) : nI v >>> (nI j &&& 31) = nI (v / 2 ^ j) := pk_shrN hv _ j (s_l j hj)
theorem rs_shI {v j : Nat} (hv : v < 2 ^ 31) (hj : j < 32) : (nI v >>> (nI j &&& 31)) &&& 1 = nI (v / 2 ^ j % 2) := by
  rw [rs_shrI hv hj]
  exact rs_m1 (Nat.lt_of_le_of_lt (Nat.div_le_self _ _) (by omega))
theorem rs_shlI {v j : Nat} (hv : v < 256) (hj : j < 8) : nI v <<< (nI j &&& 31) = nI (v * 2 ^ j) := by
  have h : 2 ^ j ≤ 2 ^ 7 := Nat.pow_le_pow_right (by decide) (by omega)
  have h2 : v * 2 ^ j ≤ 255 * 2 ^ 7 := Nat.mul_le_mul (by omega) h
  exact pk_shlN _ j (s_l j (by omega)) (Nat.lt_of_le_of_lt h2 (by decide))
theorem rs_shl8 {v j : Nat} (hv : v < 256) (hj : j < 8) : (nI v <<< (nI j &&& 31)) &&& 255 = nI (v * 2 ^ j % 256) := by
  have h : 2 ^ j ≤ 2 ^ 7 := Nat.pow_le_pow_right (by decide) (by omega)
  have h2 : v * 2 ^ j ≤ 255 * 2 ^ 7 := Nat.mul_le_mul (by omega) h
  rw [rs_shlI hv hj]
  exact rs_m8 (Nat.lt_of_le_of_lt h2 (by decide))
theorem rs_n2 (b c : Bool) {x : Nat} (h : x % 2 = 1 ↔ b = true) : x % 2 = b.toNat := by
  cases b
  · have : ¬ x % 2 = 1 := fun z => Bool.noConfusion (h.mp z)
    show x % 2 = 0
    omega
  · exact h.mpr rfl
theorem rs_xm (L : Nat → Bool) (l : Nat) : ((L (l / 2)).toNat ^^^ l) % 2 = 1 ↔ rs_lv L l = true := by
  rw [Nat.xor_mod_two_eq_one]
  unfold rs_lv
  cases L (l / 2) <;> by_cases g : l % 2 = 1 <;> simp [g]
theorem rs_lvI (L : Nat → Bool) (l : Nat) : (nI (L (l / 2)).toNat ^^^ nI l) &&& 1 = nI (rs_lv L l).toNat := by
  rw [nx_xor]
  show _ &&& nI 1 = _
  rw [nx_and, Nat.and_one_is_mod]
  exact congrArg nI (rs_n2 _ true (rs_xm L l))
theorem rs_gtI (L : Nat → Bool) (l r : Nat) : ((nI (L (l / 2)).toNat ^^^ nI l) &&& (nI (L (r / 2)).toNat ^^^ nI r)) &&& 1 = nI (rs_lv L l && rs_lv L r).toNat := by
  rw [nx_xor, nx_xor]
  show _ &&& nI 1 = _
  rw [nx_and, nx_and, Nat.and_one_is_mod]
  refine congrArg nI (rs_n2 _ true ?_)
  rw [Nat.and_mod_two_eq_one, rs_xm, rs_xm, Bool.and_eq_true]
theorem rs_ga : ∀ a, a < 256 → ∀ j, j < 8 → (a % 2 ^ j) ||| ((a.testBit j).toNat * 2 ^ j) = a % 2 ^ (j + 1) := by decide +kernel
theorem rs_x1I (l : Nat) : nI l ^^^ 1 = nI (l ^^^ 1) := nx_xor l 1
theorem rs_Ax {x : Int32} {f : Nat → Nat} (n : Nat) (hx : x = nI n) (h : n < 2 ^ 31) : rs_A f x.toNatClampNeg = nI (f n) := by
  rw [hx, nI_clamp h]
  rfl
end
section
/-! one gate; eight literals written one by one; the chains of carries -/
/-- l is a literal of the later circuit, at most g gates later, and worth F -/
def rs_G (nc : Nat) (gl gr : Nat → Nat) (nc' : Nat) (gl' gr' : Nat → Nat) (l g : Nat) (F : (Nat → Bool) → Bool) : Prop := nc' ≤ nc + g ∧ rs_Ex nc gl gr nc' gl' gr' ∧ l < 2 * nc' ∧ ∀ L, rs_Md nc' gl' gr' L → rs_lv L l = F L
theorem rs_g_and {nc : Nat} {gl gr : Nat → Nat} (h : rs_WF nc gl gr) {a b : Nat} (ha : a < 2 * nc) (hb : b < 2 * nc) : rs_G nc gl gr (nc + 1) (rs_u gl nc a) (rs_u gr nc b) (2 * nc) 1 (fun L => rs_lv L a && rs_lv L b) :=
  ⟨Nat.le_refl _, (rs_ex_and h ha hb).1, by omega, (rs_ex_and h ha hb).2⟩
theorem rs_g_t {nc nc1 nc2 : Nat} {gl gr gl1 gr1 gl2 gr2 : Nat → Nat} {l l' g g' : Nat} {F F' : (Nat → Bool) → Bool} (h : rs_G nc gl gr nc1 gl1 gr1 l g F) (h' : rs_G nc1 gl1 gr1 nc2 gl2 gr2 l' g' F') : rs_G nc gl gr nc2 gl2 gr2 l' (g + g') F' := ⟨by have := h.1; have := h'.1; omega, rs_ex_t h.2.1 h'.2.1, h'.2.2⟩
theorem rs_g_F {nc nc1 : Nat} {gl gr gl1 gr1 : Nat → Nat} {l g : Nat} {F F' : (Nat → Bool) → Bool} (h : rs_G nc gl gr nc1 gl1 gr1 l g F) (e : ∀ L, rs_Md nc1 gl1 gr1 L → F L = F' L) : rs_G nc gl gr nc1 gl1 gr1 l g F' := ⟨h.1, h.2.1, h.2.2.1, fun L z => (h.2.2.2 L z).trans (e L z)⟩
theorem rs_g_n {nc nc1 : Nat} {gl gr gl1 gr1 : Nat → Nat} {l g : Nat} {F : (Nat → Bool) → Bool} (h : rs_G nc gl gr nc1 gl1 gr1 l g F) : rs_G nc gl gr nc1 gl1 gr1 (l ^^^ 1) g (fun L => !F L) := ⟨h.1, h.2.1, rs_x1l h.2.2.1, fun L z => by rw [rs_lv_n, h.2.2.2 L z]⟩
theorem rs_g_up {nc nc1 nc2 : Nat} {gl gr gl1 gr1 gl2 gr2 : Nat → Nat} {l g : Nat} {F : (Nat → Bool) → Bool} (h : rs_G nc gl gr nc1 gl1 gr1 l g F) (h' : rs_Ex nc1 gl1 gr1 nc2 gl2 gr2) : l < 2 * nc2 ∧ ∀ L, rs_Md nc2 gl2 gr2 L → rs_lv L l = F L := ⟨by have := h.2.2.1; have := h'.1; omega, fun L z => h.2.2.2 L (h'.2.2 L z)⟩
/-- j literals of row i are written, each worth W -/
def rs_St (W : (Nat → Bool) → Nat → Bool) (i j g nc : Nat) (gl gr tb : Nat → Nat) (nc' : Nat) (gl' gr' tb' : Nat → Nat) : Prop := nc' ≤ nc + g ∧ rs_Ex nc gl gr nc' gl' gr' ∧ (∀ x, (x < i * 8 ∨ i * 8 + j ≤ x) → tb' x = tb x) ∧ (∀ x, x < j → tb' (i * 8 + x) < 2 * nc') ∧ ∀ L, rs_Md nc' gl' gr' L → ∀ x, x < j → rs_lv L (tb' (i * 8 + x)) = W L x
theorem rs_st_0 {W : (Nat → Bool) → Nat → Bool} {i nc : Nat} {gl gr tb : Nat → Nat} {nc' : Nat} {gl' gr' : Nat → Nat} {g : Nat} (hg : nc' ≤ nc + g) (h : rs_Ex nc gl gr nc' gl' gr') : rs_St W i 0 g nc gl gr tb nc' gl' gr' tb := ⟨hg, h, fun _ _ => rfl, fun x hx => by omega, fun _ _ x hx => by omega⟩
theorem rs_st_s {W : (Nat → Bool) → Nat → Bool} {i j g nc : Nat} {gl gr tb : Nat → Nat} {nc' : Nat} {gl' gr' tb' : Nat → Nat} {nc'' : Nat} {gl'' gr'' : Nat → Nat} {g' o : Nat} (h : rs_St W i j g nc gl gr tb nc' gl' gr' tb') (hx : rs_Ex nc' gl' gr' nc'' gl'' gr'') (hg : nc'' ≤ nc + g') (ho : o < 2 * nc'') (hL : ∀ L, rs_Md nc'' gl'' gr'' L → rs_lv L o = W L j) : rs_St W i (j + 1) g' nc gl gr tb nc'' gl'' gr'' (rs_u tb' (i * 8 + j) o) := by
  obtain ⟨a, b, c, d, e⟩ := h
  refine ⟨hg, rs_ex_t b hx, fun x z => ?_, fun x z => ?_, fun L m x z => ?_⟩
  · rw [rs_un (by omega)]; exact c x (by omega)
  · rcases Nat.lt_or_ge x j with q | q
    · rw [rs_un (by omega)]; have := d x q; have := hx.1; omega
    · have q2 : x = j := by omega
      rw [q2, rs_us]; exact ho
  · rcases Nat.lt_or_ge x j with q | q
    · rw [rs_un (by omega)]; exact e L (hx.2.2 L m) x q
    · have q2 : x = j := by omega
      rw [q2, rs_us]; exact hL L m
theorem rs_st_rd {W : (Nat → Bool) → Nat → Bool} {i j g nc : Nat} {gl gr tb : Nat → Nat} {nc' : Nat} {gl' gr' tb' : Nat → Nat} (h : rs_St W i j g nc gl gr tb nc' gl' gr' tb') (hj : j ≤ 8) {p x : Nat} (hp : p ≠ i) (hx : x < 8) : tb' (p * 8 + x) = tb (p * 8 + x) := h.2.2.1 _ (by omega)
theorem rs_st_g {W : (Nat → Bool) → Nat → Bool} {i j g g' nc : Nat} {gl gr tb : Nat → Nat} {nc' : Nat} {gl' gr' tb' : Nat → Nat} (h : rs_St W i j g nc gl gr tb nc' gl' gr' tb') (hg : g ≤ g') : rs_St W i j g' nc gl gr tb nc' gl' gr' tb' := ⟨by have := h.1; omega, h.2⟩
theorem rs_lv_x (L : Nat → Bool) (l : Nat) (s : Bool) : rs_lv L (l ^^^ s.toNat) = (rs_lv L l ^^ s) := by
  cases s
  · rw [Bool.xor_false]; exact congrArg _ (Nat.xor_zero l)
  · rw [Bool.xor_true]; exact rs_lv_n L l
theorem rs_xsl {l n : Nat} (s : Bool) (h : l < 2 * n) : l ^^^ s.toNat < 2 * n := by
  cases s
  · have e : l ^^^ false.toNat = l := Nat.xor_zero l
    rw [e]; exact h
  · exact rs_x1l h
/-- the chain of carries, of equal bits, of clear bits -/
def rs_ch (A B : Nat → Bool) (c : Bool) : Nat → Bool
  | 0 => c
  | j + 1 => Bool.atLeastTwo (A j) (B j) (rs_ch A B c j)
theorem rs_ch_cy {A B : Nat → Bool} {a b : Nat} (hA : ∀ x, x < 8 → A x = a.testBit x) (hB : ∀ x, x < 8 → B x = b.testBit x) (c : Bool) : ∀ j, j ≤ 8 → rs_ch A B c j = rs_cy a b c j := by
  intro j
  induction j with
  | zero => intro _; exact (rs_cy_0 a b c).symm
  | succ j ih =>
    intro hj
    rw [rs_cy_s a b c (by omega), ← ih (by omega), ← hA j (by omega), ← hB j (by omega)]
    rfl
def rs_qc (A B : Nat → Bool) : Nat → Bool
  | 0 => true
  | j + 1 => rs_qc A B j && !(A j ^^ B j)
theorem rs_qc_p (A B : Nat → Bool) : ∀ j, rs_qc A B j = true ↔ ∀ x, x < j → A x = B x := by
  intro j
  induction j with
  | zero => exact ⟨fun _ x h => by omega, fun _ => rfl⟩
  | succ j ih =>
    have e : rs_qc A B (j + 1) = (rs_qc A B j && !(A j ^^ B j)) := rfl
    rw [e, Bool.and_eq_true, ih]
    have e2 : (!(A j ^^ B j)) = true ↔ A j = B j := by cases A j <;> cases B j <;> simp
    rw [e2]
    constructor
    · intro h x hx
      rcases Nat.lt_or_ge x j with q | q
      · exact h.1 x q
      · have q2 : x = j := by omega
        rw [q2]; exact h.2
    · exact fun h => ⟨fun x hx => h x (by omega), h j (by omega)⟩
theorem rs_qc_8 {A B : Nat → Bool} {a b : Nat} (ha : a < 256) (hb : b < 256) (hA : ∀ x, x < 8 → A x = a.testBit x) (hB : ∀ x, x < 8 → B x = b.testBit x) : rs_qc A B 8 = decide (a = b) := by
  have h := rs_qc_p A B 8
  by_cases g : a = b
  · rw [decide_eq_true g]
    exact h.mpr fun x hx => by rw [hA x hx, hB x hx, g]
  · rw [decide_eq_false g]
    cases e : rs_qc A B 8
    · rfl
    · exact absurd (rs_eqb ha hb fun x hx => by rw [← hA x hx, ← hB x hx]; exact h.mp e x hx) g
def rs_nn (A : Nat → Bool) : Nat → Bool
  | 0 => true
  | j + 1 => rs_nn A j && !A j
theorem rs_nn_p (A : Nat → Bool) : ∀ j, rs_nn A j = true ↔ ∀ x, x < j → A x = false := by
  intro j
  induction j with
  | zero => exact ⟨fun _ x h => by omega, fun _ => rfl⟩
  | succ j ih =>
    have e : rs_nn A (j + 1) = (rs_nn A j && !A j) := rfl
    rw [e, Bool.and_eq_true, ih]
    have e2 : (!A j) = true ↔ A j = false := by cases A j <;> simp
    rw [e2]
    constructor
    · intro h x hx
      rcases Nat.lt_or_ge x j with q | q
      · exact h.1 x q
      · have q2 : x = j := by omega
        rw [q2]; exact h.2
    · exact fun h => ⟨fun x hx => h x (by omega), h j (by omega)⟩
theorem rs_nn_8 {A : Nat → Bool} {a : Nat} (ha : a < 256) (hA : ∀ x, x < 8 → A x = a.testBit x) : rs_nn A 8 = decide (a = 0) := by
  have h := rs_nn_p A 8
  by_cases g : a = 0
  · rw [decide_eq_true g]
    exact h.mpr fun x hx => by rw [hA x hx, g]; exact Nat.zero_testBit x
  · rw [decide_eq_false g]
    cases e : rs_nn A 8
    · rfl
    · exact absurd (rs_eqb ha (by decide : 0 < 256) fun x hx => by rw [← hA x hx, h.mp e x hx]; exact (Nat.zero_testBit x).symm) g
/-! what each builder's bits are worth, where its operands are worth a, b, c -/
def rs_rd (L : Nat → Bool) (tb : Nat → Nat) (p x : Nat) : Bool := rs_lv L (tb (p * 8 + x))
def rs_Wsum (tb : Nat → Nat) (p q : Nat) (s : Bool) (L : Nat → Bool) (x : Nat) : Bool := (rs_rd L tb p x ^^ (rs_rd L tb q x ^^ s)) ^^ rs_ch (rs_rd L tb p) (fun y => rs_rd L tb q y ^^ s) s x
theorem rs_add_p {L : Nat → Bool} {tb : Nat → Nat} {p q a b : Nat} (ha : a < 256) (hb : b < 256) (hA : rs_bt L tb p a) (hB : rs_bt L tb q b) (c : Nat) : ∀ x, x < 8 → rs_Wsum tb p q false L x = (rs_f 3 a b c).testBit x := by
  intro x hx
  have e : rs_f 3 a b c = (a + b + false.toNat) % 256 := rfl
  rw [e, rs_add a b false hx]
  unfold rs_Wsum
  rw [rs_ch_cy (A := rs_rd L tb p) (B := fun y => rs_rd L tb q y ^^ false) (a := a) (b := b) hA (fun y hy => by show (rs_rd L tb q y ^^ false) = _; rw [Bool.xor_false]; exact hB y hy) false x (by omega)]
  rw [show rs_rd L tb p x = a.testBit x from hA x hx, show rs_rd L tb q x = b.testBit x from hB x hx, Bool.xor_false, Bool.xor_assoc]
theorem rs_sub_p {L : Nat → Bool} {tb : Nat → Nat} {p q a b : Nat} (ha : a < 256) (hb : b < 256) (hA : rs_bt L tb p a) (hB : rs_bt L tb q b) (c : Nat) : ∀ x, x < 8 → rs_Wsum tb p q true L x = (rs_f 4 a b c).testBit x := by
  intro x hx
  have e : rs_f 4 a b c = (a + (255 - b) + true.toNat) % 256 := by
    show (a + 256 - b) % 256 = (a + (255 - b) + 1) % 256
    congr 1; omega
  rw [e, rs_add a (255 - b) true hx]
  unfold rs_Wsum
  have hB' : ∀ y, y < 8 → (rs_rd L tb q y ^^ true) = (255 - b).testBit y := fun y hy => by
    rw [rs_nb b hb y hy, Bool.xor_true]; exact congrArg _ (hB y hy)
  rw [rs_ch_cy (A := rs_rd L tb p) (B := fun y => rs_rd L tb q y ^^ true) (a := a) (b := 255 - b) hA hB' true x (by omega), hB' x hx, Bool.xor_assoc, show rs_rd L tb p x = a.testBit x from hA x hx]
def rs_Wneg (tb : Nat → Nat) (p : Nat) (L : Nat → Bool) (x : Nat) : Bool := (!rs_rd L tb p x) ^^ rs_ch (fun y => !rs_rd L tb p y) (fun _ => false) true x
theorem rs_neg_p {L : Nat → Bool} {tb : Nat → Nat} {p a : Nat} (ha : a < 256) (hA : rs_bt L tb p a) (b c : Nat) : ∀ x, x < 8 → rs_Wneg tb p L x = (rs_f 2 a b c).testBit x := by
  intro x hx
  have e : rs_f 2 a b c = ((255 - a) + 0 + true.toNat) % 256 := by
    show (256 - a) % 256 = (255 - a + 0 + 1) % 256
    congr 1; omega
  have hA' : ∀ y, y < 8 → (!rs_rd L tb p y) = (255 - a).testBit y := fun y hy => by
    rw [rs_nb a ha y hy]; exact congrArg _ (hA y hy)
  rw [e, rs_add (255 - a) 0 true hx]
  unfold rs_Wneg
  rw [rs_ch_cy (a := 255 - a) (b := 0) hA' (fun y _ => (Nat.zero_testBit y).symm) true x (by omega), hA' x hx, Nat.zero_testBit, Bool.false_xor]
def rs_Wtr (T : (Nat → Bool) → Bool) (L : Nat → Bool) (x : Nat) : Bool := decide (x = 0) && T L
theorem rs_st_tr {T : (Nat → Bool) → Bool} {i l g nc : Nat} {gl gr tb : Nat → Nat} {nc' : Nat} {gl' gr' tb' : Nat → Nat} (hx : rs_Ex nc gl gr nc' gl' gr') (hg : nc' ≤ nc + g) (hl : l < 2 * nc') (hT : ∀ L, rs_Md nc' gl' gr' L → rs_lv L l = T L) (h1 : ∀ x, (x < i * 8 ∨ i * 8 + 8 ≤ x) → tb' x = tb x) (h2 : tb' (i * 8) = l) (h3 : ∀ x, 0 < x → x < 8 → tb' (i * 8 + x) = 0) : rs_St (rs_Wtr T) i 8 g nc gl gr tb nc' gl' gr' tb' := by
  have w := hx.2.1.1
  refine ⟨hg, hx, h1, fun x z => ?_, fun L m x z => ?_⟩
  · rcases Nat.eq_zero_or_pos x with q | q
    · rw [q, Nat.add_zero, h2]; exact hl
    · rw [h3 x q z]; omega
  · unfold rs_Wtr
    rcases Nat.eq_zero_or_pos x with q | q
    · rw [q, Nat.add_zero, h2, hT L m]; rfl
    · rw [h3 x q z, decide_eq_false (by omega), Bool.false_and]
      exact rs_lv_b m.1 false
def rs_Tlt (tb : Nat → Nat) (p q : Nat) (s : Bool) (L : Nat → Bool) : Bool := rs_ch (fun y => !(rs_rd L tb p y ^^ (decide (y = 7) && s))) (fun y => rs_rd L tb q y ^^ (decide (y = 7) && s)) false 8
theorem rs_lt_8 {A B : Nat → Bool} {a b : Nat} (ha : a < 256) (hb : b < 256) (hA : ∀ x, x < 8 → A x = a.testBit x) (hB : ∀ x, x < 8 → B x = b.testBit x) : rs_ch (fun y => !A y) B false 8 = decide (a < b) := by
  rw [rs_ch_cy (a := 255 - a) (b := b) (fun y hy => by show (!A y) = _; rw [rs_nb a ha y hy, hA y hy]) hB false 8 (by omega), rs_cy_8 (by omega) hb]
  show decide (256 ≤ 255 - a + b + 0) = _
  exact decide_eq_decide.mpr (by omega)
theorem rs_ltu_p {L : Nat → Bool} {tb : Nat → Nat} {p q a b : Nat} (ha : a < 256) (hb : b < 256) (hA : rs_bt L tb p a) (hB : rs_bt L tb q b) (c : Nat) : ∀ x, x < 8 → rs_Wtr (rs_Tlt tb p q false) L x = (rs_f 9 a b c).testBit x := by
  intro x hx
  show _ = (if a < b then 1 else 0 : Nat).testBit x
  rw [rs_tr]
  unfold rs_Wtr rs_Tlt
  rw [rs_lt_8 (A := fun y => rs_rd L tb p y ^^ (decide (y = 7) && false)) (a := a) (b := b) ha hb (fun y hy => by show (rs_rd L tb p y ^^ (decide (y = 7) && false)) = _; rw [Bool.and_false, Bool.xor_false]; exact hA y hy) (fun y hy => by show (rs_rd L tb q y ^^ (decide (y = 7) && false)) = _; rw [Bool.and_false, Bool.xor_false]; exact hB y hy)]
theorem rs_lts_p {L : Nat → Bool} {tb : Nat → Nat} {p q a b : Nat} (ha : a < 256) (hb : b < 256) (hA : rs_bt L tb p a) (hB : rs_bt L tb q b) (c : Nat) : ∀ x, x < 8 → rs_Wtr (rs_Tlt tb p q true) L x = (rs_f 10 a b c).testBit x := by
  intro x hx
  show _ = (if a ^^^ 128 < b ^^^ 128 then 1 else 0 : Nat).testBit x
  rw [rs_tr]
  unfold rs_Wtr rs_Tlt
  rw [rs_lt_8 (A := fun y => rs_rd L tb p y ^^ (decide (y = 7) && true)) (a := a ^^^ 128) (b := b ^^^ 128) (Nat.xor_lt_two_pow (n := 8) ha (by decide)) (Nat.xor_lt_two_pow (n := 8) hb (by decide)) (fun y hy => by show (rs_rd L tb p y ^^ (decide (y = 7) && true)) = _; rw [Bool.and_true, rs_x128 a hy, show rs_rd L tb p y = a.testBit y from hA y hy]) (fun y hy => by show (rs_rd L tb q y ^^ (decide (y = 7) && true)) = _; rw [Bool.and_true, rs_x128 b hy, show rs_rd L tb q y = b.testBit y from hB y hy])]
def rs_Teq (tb : Nat → Nat) (p q : Nat) (L : Nat → Bool) : Bool := rs_qc (rs_rd L tb p) (rs_rd L tb q) 8
theorem rs_eq_p {L : Nat → Bool} {tb : Nat → Nat} {p q a b : Nat} (ha : a < 256) (hb : b < 256) (hA : rs_bt L tb p a) (hB : rs_bt L tb q b) (c : Nat) : ∀ x, x < 8 → rs_Wtr (rs_Teq tb p q) L x = (rs_f 8 a b c).testBit x := by
  intro x hx
  show _ = (if a = b then 1 else 0 : Nat).testBit x
  rw [rs_tr]
  unfold rs_Wtr rs_Teq
  rw [rs_qc_8 (A := rs_rd L tb p) (B := rs_rd L tb q) ha hb hA hB]
def rs_Tan (tb : Nat → Nat) (p : Nat) (L : Nat → Bool) : Bool := !rs_nn (rs_rd L tb p) 8
theorem rs_an_p {L : Nat → Bool} {tb : Nat → Nat} {p a : Nat} (ha : a < 256) (hA : rs_bt L tb p a) : rs_Tan tb p L = !decide (a = 0) := by
  unfold rs_Tan
  rw [rs_nn_8 (A := rs_rd L tb p) ha hA]
def rs_Wmx (T : (Nat → Bool) → Bool) (tb : Nat → Nat) (p : Nat) (fs : Nat → Nat) (q : Nat) (L : Nat → Bool) (x : Nat) : Bool := bif T L then rs_rd L tb p x else rs_rd L fs q x
theorem rs_mux_p {L : Nat → Bool} {tb : Nat → Nat} {p q r a b c : Nat} (ha : a < 256) (hA : rs_bt L tb p a) (hB : rs_bt L tb q b) (hC : rs_bt L tb r c) : ∀ x, x < 8 → rs_Wmx (rs_Tan tb p) tb q tb r L x = (rs_f 11 a b c).testBit x := by
  intro x hx
  show _ = (if a = 0 then c else b : Nat).testBit x
  unfold rs_Wmx
  rw [rs_an_p ha hA]
  by_cases g : a = 0
  · rw [if_pos g, decide_eq_true g]; exact hC x hx
  · rw [if_neg g, decide_eq_false g]; exact hB x hx
end
section
/-! the gates keep the tokens' equations: the invariant of the building, token by token -/
def rs_Bs (L : Nat → Bool) (ip rg : Nat → Nat) : Prop := (∀ p, p < 4 → ∀ x, x < 8 → L (1 + (p * 8 + x)) = (ip p).testBit x) ∧ ∀ r, r < 8 → ∀ x, x < 8 → L (33 + (r * 8 + x)) = (rg r).testBit x
def rs_sx (kd vl : Nat → Nat) (t k : Nat) : Nat := if k < t then rs_ss kd vl k else t
def rs_J (kd vl en ws : Nat → Nat) (t k nc : Nat) (gl gr tb fs : Nat → Nat) : Prop := nc ≤ 97 + 80 * k ∧ rs_WF nc gl gr ∧ (∀ q, q < t → rs_po kd vl en q < k → kd q ≠ 11 → ∀ x, x < 8 → tb (q * 8 + x) < 2 * nc) ∧ (∀ r, r < 8 → ∀ x, x < 8 → fs (r * 8 + x) < 2 * nc) ∧ ∀ ip rg R L, rs_B ip rg → rs_So kd vl en ws ip rg t R → rs_Bs L ip rg → rs_Md nc gl gr L → (∀ q, q < t → rs_po kd vl en q < k → kd q ≠ 11 → rs_bt L tb q (R q)) ∧ ∀ r, r < 8 → rs_bt L fs r (rs_nz kd vl en R rg r (rs_sx kd vl t k))
theorem rs_nz_st {kd vl en ws : Nat → Nat} {t : Nat} (P : rs_Pg kd vl en ws t) {k : Nat} (hk : k < t) (R rg : Nat → Nat) (r : Nat) : rs_nz kd vl en R rg r (rs_sx kd vl t (k + 1)) = if kd (rs_po kd vl en k) = 11 ∧ vl (rs_po kd vl en k) = r ∧ R (rs_po kd vl en k + 1) ≠ 0 then R (en (rs_po kd vl en k + 1)) else rs_nz kd vl en R rg r (rs_sx kd vl t k) := by
  obtain ⟨h0, he, hw, ho, hs⟩ := P
  obtain ⟨a, b, c, d, f⟩ := rs_seg h0 he hk
  have ep : rs_po kd vl en k = rs_ss kd vl k + en (rs_ss kd vl k) - 1 - k := rfl
  have ek : rs_sx kd vl t k = rs_ss kd vl k := if_pos hk
  rcases Nat.lt_or_ge (k + 1) (en (rs_ss kd vl k)) with g | g
  · have e1 : rs_sx kd vl t (k + 1) = rs_ss kd vl k := (if_pos (by omega)).trans (rs_seg_eq h0 he hk (by omega) g)
    have h1 := f (rs_po kd vl en k) (by omega) (by omega)
    have h2 := hs (rs_po kd vl en k) (by omega)
    rw [e1, ek, if_neg (fun z => by have := z.1; omega)]
  · have e1 : rs_sx kd vl t (k + 1) = rs_ss kd vl k + 1 + (k - rs_ss kd vl k) := by
      have e2 : k + 1 = en (rs_ss kd vl k) := by omega
      rcases Nat.lt_or_ge (k + 1) t with q | q
      · have e3 : rs_sx kd vl t (k + 1) = rs_ss kd vl (k + 1) := if_pos q
        have e4 : rs_ss kd vl (k + 1) = k + 1 := if_pos (by rw [e2]; exact d)
        omega
      · have e3 : rs_sx kd vl t (k + 1) = t := if_neg (by omega)
        omega
    have e5 : rs_po kd vl en k = rs_ss kd vl k := by omega
    rw [e1, ek, e5, rs_nz_k]
    · rfl
    · intro x hx hx'
      have h1 := f x (by omega) (by omega)
      have h2 := hs x (by omega)
      omega
theorem rs_J_0 {kd vl en ws : Nat → Nat} {t : Nat} (P : rs_Pg kd vl en ws t) {gl gr tb fs : Nat → Nat} (hf : ∀ f, f < 64 → fs f = 2 * (33 + f)) : rs_J kd vl en ws t 0 97 gl gr tb fs := by
  refine ⟨by omega, ⟨Nat.le_refl _, fun n h1 h2 => by omega⟩, fun q _ h => by omega, fun r hr x hx => ?_, fun ip rg R L hB hS hb hM => ⟨fun q _ h => by omega, fun r hr x hx => ?_⟩⟩
  · rw [hf _ (by omega)]; omega
  · have e : rs_sx kd vl t 0 = 0 := by
      unfold rs_sx
      split
      · rfl
      · omega
    rw [hf _ (by omega), rs_lv_2, e]
    exact hb.2 r hr x hx
/-- a token that isn't REGSET -/
theorem rs_J_s {kd vl en ws : Nat → Nat} {t : Nat} (P : rs_Pg kd vl en ws t) {k nc : Nat} {gl gr tb fs : Nat → Nat} (hk : k < t) (J : rs_J kd vl en ws t k nc gl gr tb fs) (h11 : kd (rs_po kd vl en k) ≠ 11) {W : (Nat → Bool) → Nat → Bool} {nc' : Nat} {gl' gr' tb' : Nat → Nat} (S : rs_St W (rs_po kd vl en k) 8 80 nc gl gr tb nc' gl' gr' tb') (hW : ∀ ip rg R L, rs_B ip rg → rs_So kd vl en ws ip rg t R → rs_Bs L ip rg → L 0 = false → (∀ p, rs_dp kd vl en ws (rs_po kd vl en k) p → R p < 256 ∧ rs_bt L tb p (R p)) → ∀ x, x < 8 → W L x = (R (rs_po kd vl en k)).testBit x) (hD : ∀ p, rs_dp kd vl en ws (rs_po kd vl en k) p → kd p ≠ 11) : rs_J kd vl en ws t (k + 1) nc' gl' gr' tb' fs := by
  obtain ⟨j1, j2, j3, j4, j5⟩ := J
  obtain ⟨s1, s2, s3, s4, s5⟩ := S
  obtain ⟨p1, p2, p3, p4, p5⟩ := rs_po_p P.1 P.2.1 hk
  have old : ∀ q, q < t → rs_po kd vl en q < k → q ≠ rs_po kd vl en k := fun q hq h e => by
    rw [e, p4] at h; omega
  have new : ∀ q, q < t → rs_po kd vl en q < k + 1 → ¬ rs_po kd vl en q < k → q = rs_po kd vl en k := fun q hq h h' => by
    have e : rs_po kd vl en q = k := by omega
    rw [← e]; exact (rs_po_p P.1 P.2.1 hq).2.2.2.1.symm
  refine ⟨by omega, s2.2.1, fun q hq h h' x hx => ?_, fun r hr x hx => ?_, fun ip rg R L hB hS hb hM => ?_⟩
  · by_cases g : rs_po kd vl en q < k
    · have := old q hq g
      rw [s3 _ (by omega)]
      have := j3 q hq g h' x hx
      have := s2.1
      omega
    · rw [new q hq h g]; exact s4 x hx
  · have := j4 r hr x hx
    have := s2.1
    omega
  · obtain ⟨u1, u2⟩ := j5 ip rg R L hB hS hb (s2.2.2 L hM)
    refine ⟨fun q hq h h' => ?_, fun r hr => ?_⟩
    · by_cases g : rs_po kd vl en q < k
      · have := old q hq g
        intro x hx
        rw [s3 _ (by omega)]
        exact u1 q hq g h' x hx
      · have e := new q hq h g
        rw [e]
        intro x hx
        rw [s5 L hM x hx]
        refine hW ip rg R L hB hS hb hM.1 (fun p hp => ?_) x hx
        obtain ⟨d1, d2⟩ := rs_dp_lt P p5 hp
        rw [p4] at d2
        exact ⟨rs_So_lt P hB hS p d1, u1 p d1 d2 (hD p hp)⟩
    · rw [rs_nz_st P hk, if_neg (fun z => h11 z.1)]
      exact u2 r hr
/-- REGSET -/
theorem rs_J_r {kd vl en ws : Nat → Nat} {t : Nat} (P : rs_Pg kd vl en ws t) {k nc : Nat} {gl gr tb fs : Nat → Nat} (hk : k < t) (J : rs_J kd vl en ws t k nc gl gr tb fs) (h11 : kd (rs_po kd vl en k) = 11) {nc' : Nat} {gl' gr' fs' : Nat → Nat} (S : rs_St (rs_Wmx (rs_Tan tb (rs_po kd vl en k + 1)) tb (en (rs_po kd vl en k + 1)) fs (vl (rs_po kd vl en k))) (vl (rs_po kd vl en k)) 8 80 nc gl gr fs nc' gl' gr' fs') (hD : ∀ p, rs_dp kd vl en ws (rs_po kd vl en k) p → kd p ≠ 11) : rs_J kd vl en ws t (k + 1) nc' gl' gr' tb fs' := by
  obtain ⟨j1, j2, j3, j4, j5⟩ := J
  obtain ⟨s1, s2, s3, s4, s5⟩ := S
  obtain ⟨p1, p2, p3, p4, p5⟩ := rs_po_p P.1 P.2.1 hk
  have ok := P.2.2.2.1 _ p5
  have hv : vl (rs_po kd vl en k) < 8 := by
    have e : rs_hi (kd (rs_po kd vl en k)) = 7 := by rw [h11]; rfl
    have := ok.2.2.1
    omega
  have lt : ∀ q, q < t → rs_po kd vl en q < k + 1 → kd q ≠ 11 → rs_po kd vl en q < k := fun q hq h h' => by
    rcases Nat.lt_or_ge (rs_po kd vl en q) k with g | g
    · exact g
    · have e : rs_po kd vl en q = k := by omega
      have e2 := (rs_po_p P.1 P.2.1 hq).2.2.2.1
      rw [e] at e2
      rw [e2] at h11
      exact absurd h11 h'
  have ar : rs_ar (kd (rs_po kd vl en k)) (vl (rs_po kd vl en k)) = 2 := by rw [h11]; rfl
  refine ⟨by omega, s2.2.1, fun q hq h h' x hx => ?_, fun r hr x hx => ?_, fun ip rg R L hB hS hb hM => ?_⟩
  · have := j3 q hq (lt q hq h h') h' x hx
    have := s2.1
    omega
  · by_cases g : r = vl (rs_po kd vl en k)
    · rw [g]; exact s4 x hx
    · rw [s3 _ (by omega)]
      have := j4 r hr x hx
      have := s2.1
      omega
  · obtain ⟨u1, u2⟩ := j5 ip rg R L hB hS hb (s2.2.2 L hM)
    refine ⟨fun q hq h h' => u1 q hq (lt q hq h h') h', fun r hr => ?_⟩
    have rd : ∀ p, rs_dp kd vl en ws (rs_po kd vl en k) p → R p < 256 ∧ rs_bt L tb p (R p) := fun p hp => by
      obtain ⟨d1, d2⟩ := rs_dp_lt P p5 hp
      rw [p4] at d2
      exact ⟨rs_So_lt P hB hS p d1, u1 p d1 d2 (hD p hp)⟩
    obtain ⟨r1, r2⟩ := rd _ (Or.inr (Or.inl ⟨by rw [ar]; decide, rfl⟩))
    obtain ⟨r3, r4⟩ := rd _ (Or.inr (Or.inr (Or.inl ⟨by rw [ar]; decide, rfl⟩)))
    rw [rs_nz_st P hk]
    by_cases g : r = vl (rs_po kd vl en k)
    · rw [g]
      intro x hx
      rw [s5 L hM x hx]
      unfold rs_Wmx
      rw [rs_an_p r1 r2]
      by_cases z : R (rs_po kd vl en k + 1) = 0
      · rw [if_neg (fun y => y.2.2 z), decide_eq_true z]
        exact u2 _ hv x hx
      · rw [if_pos ⟨h11, rfl, z⟩, decide_eq_false z]
        exact r4 x hx
    · rw [if_neg (fun y => g y.2.1.symm)]
      intro x hx
      rw [s3 _ (by omega)]
      exact u2 r hr x hx
/-- no operand, no wire's statement is a REGSET -/
theorem rs_D {kd vl en ws : Nat → Nat} {t : Nat} (P : rs_Pg kd vl en ws t) (hw : ∀ i, i < t → kd i = 4 → kd (ws (vl i)) = 9) {i p : Nat} (hi : i < t) (h : rs_dp kd vl en ws i p) : kd p ≠ 11 := by
  rcases h with ⟨h4, rfl⟩ | h
  · rw [hw i hi h4]; decide
  · obtain ⟨o1, o2, o3, o4⟩ := rs_opnd P.1 P.2.1 hi h
    have h1 := o4 p o1 (Nat.le_refl _)
    have h2 := P.2.2.2.2 p o3
    omega
end
section
/-! pure steps of compile and of the gates' clock -/
theorem rs_chain {kd vl en : Nat → Nat} {lo t : Nat} (h0 : rs_nd kd vl t = 0) (he : ∀ i, lo ≤ i → i < t → en i = rs_e1 en (rs_ar (kd i) (vl i)) i) {y : Nat} (hl : lo ≤ y + 1) (hy : y < t) : (1 ≤ rs_ar (kd y) (vl y) → y + 1 < t ∧ y + 1 < en (y + 1) ∧ en (y + 1) ≤ t) ∧ (2 ≤ rs_ar (kd y) (vl y) → en (y + 1) < t ∧ en (y + 1) < en (en (y + 1)) ∧ en (en (y + 1)) ≤ t) ∧ (3 ≤ rs_ar (kd y) (vl y) → en (en (y + 1)) < t ∧ en (en (y + 1)) < en (en (en (y + 1))) ∧ en (en (en (y + 1))) ≤ t) := by
  have hs : rs_nd kd vl (y + 1) = (rs_nd kd vl y - 1) + rs_ar (kd y) (vl y) := rfl
  have st : ∀ p, lo ≤ p → p ≤ t → 1 ≤ rs_nd kd vl p → p < t ∧ rs_Q kd vl en t p := by
    intro p hp hpt h
    have hne : p ≠ t := fun e => by rw [e, h0] at h; omega
    exact ⟨by omega, rs_parse' h0 he _ p hp (Nat.le_refl _) (by omega)⟩
  have A : 1 ≤ rs_ar (kd y) (vl y) → y + 1 < t ∧ rs_Q kd vl en t (y + 1) := fun h => st _ hl (by omega) (by omega)
  have B : 2 ≤ rs_ar (kd y) (vl y) → en (y + 1) < t ∧ rs_Q kd vl en t (en (y + 1)) := fun h => by
    obtain ⟨a, q1, q2, q3, q4⟩ := A (by omega)
    exact st _ (by omega) q2 (by omega)
  have C : 3 ≤ rs_ar (kd y) (vl y) → en (en (y + 1)) < t ∧ rs_Q kd vl en t (en (en (y + 1))) := fun h => by
    obtain ⟨a, q1, q2, q3, q4⟩ := A (by omega)
    obtain ⟨b, r1, r2, r3, r4⟩ := B (by omega)
    exact st _ (by omega) r2 (by omega)
  exact ⟨fun h => ⟨(A h).1, (A h).2.1, (A h).2.2.1⟩, fun h => ⟨(B h).1, (B h).2.1, (B h).2.2.1⟩, fun h => ⟨(C h).1, (C h).2.1, (C h).2.2.1⟩⟩
def rs_LF (kd vl en fo so to : Nat → Nat) (x : Nat) : Prop := (1 ≤ rs_ar (kd x) (vl x) → fo x = x + 1) ∧ (2 ≤ rs_ar (kd x) (vl x) → so x = en (x + 1)) ∧ (3 ≤ rs_ar (kd x) (vl x) → to x = en (en (x + 1)))
def rs_LI (kd vl : Nat → Nat) (t lo : Nat) (en fo so to : Nat → Nat) : Prop := (∀ x, lo ≤ x → x < t → en x = rs_e1 en (rs_ar (kd x) (vl x)) x) ∧ (∀ x, lo ≤ x → x < t → rs_LF kd vl en fo so to x) ∧ ∀ x, fo x ≤ 48 ∧ so x ≤ 48 ∧ to x ≤ 48
theorem rs_e1_c {en en' : Nat → Nat} {a x : Nat} (h1 : 1 ≤ a → en' (x + 1) = en (x + 1)) (h2 : 2 ≤ a → en' (en (x + 1)) = en (en (x + 1))) (h3 : 3 ≤ a → en' (en (en (x + 1))) = en (en (en (x + 1)))) : rs_e1 en' a x = rs_e1 en a x := by
  unfold rs_e1
  by_cases g0 : a = 0
  · rw [if_pos g0, if_pos g0]
  · rw [if_neg g0, if_neg g0, h1 (by omega)]
    by_cases g1 : a = 1
    · rw [if_pos g1, if_pos g1]
    · rw [if_neg g1, if_neg g1, h2 (by omega)]
      by_cases g2 : a = 2
      · rw [if_pos g2, if_pos g2]
      · rw [if_neg g2, if_neg g2, h3 (by omega)]
theorem rs_lk {kd vl en fo so to : Nat → Nat} {t y : Nat} (h0 : rs_nd kd vl t = 0) (hy : y < t) (I : rs_LI kd vl t (y + 1) en fo so to) {v : Nat} (hv : v = rs_e1 en (rs_ar (kd y) (vl y)) y) {fo' so' to' : Nat → Nat} (hf : ∀ x, x ≠ y → fo' x = fo x) (hs : ∀ x, x ≠ y → so' x = so x) (ht : ∀ x, x ≠ y → to' x = to x) (hF : rs_LF kd vl en fo' so' to' y) (hB : fo' y ≤ 48 ∧ so' y ≤ 48 ∧ to' y ≤ 48) : rs_LI kd vl t y (rs_u en y v) fo' so' to' := by
  obtain ⟨i1, i2, i3⟩ := I
  have ch : ∀ x, y ≤ x → x < t → _ := fun x h1 h2 => rs_chain h0 i1 (y := x) (by omega) h2
  have k1 : ∀ x, y ≤ x → rs_u en y v (x + 1) = en (x + 1) := fun x h => rs_un (by omega)
  have k2 : ∀ x, y ≤ x → x < t → 2 ≤ rs_ar (kd x) (vl x) → rs_u en y v (en (x + 1)) = en (en (x + 1)) := fun x h h' g => by
    have := ((ch x h h').1 (by omega)).2.1
    exact rs_un (by omega)
  have k3 : ∀ x, y ≤ x → x < t → 3 ≤ rs_ar (kd x) (vl x) → rs_u en y v (en (en (x + 1))) = en (en (en (x + 1))) := fun x h h' g => by
    have := ((ch x h h').1 (by omega)).2.1
    have := ((ch x h h').2.1 (by omega)).2.1
    exact rs_un (by omega)
  have ke : ∀ x, y ≤ x → x < t → rs_e1 (rs_u en y v) (rs_ar (kd x) (vl x)) x = rs_e1 en (rs_ar (kd x) (vl x)) x := fun x h h' => rs_e1_c (fun _ => k1 x h) (k2 x h h') (k3 x h h')
  have kF : ∀ x, y ≤ x → x < t → rs_LF kd vl en fo' so' to' x → rs_LF kd vl (rs_u en y v) fo' so' to' x := fun x h h' F => by
    refine ⟨F.1, fun g => ?_, fun g => ?_⟩
    · rw [k1 x h]; exact F.2.1 g
    · rw [k1 x h, k2 x h h' (by omega)]; exact F.2.2 g
  refine ⟨fun x h h' => ?_, fun x h h' => ?_, fun x => ?_⟩
  · rw [ke x h h']
    rcases Nat.lt_or_ge y x with g | g
    · rw [rs_un (by omega)]; exact i1 x (by omega) h'
    · have e : x = y := by omega
      rw [e, rs_us]; exact hv
  · refine kF x h h' ?_
    rcases Nat.lt_or_ge y x with g | g
    · have := i2 x (by omega) h'
      unfold rs_LF
      rw [hf x (by omega), hs x (by omega), ht x (by omega)]
      exact this
    · have e : x = y := by omega
      rw [e]; exact hF
  · by_cases e : x = y
    · rw [e]; exact hB
    · rw [hf x e, hs x e, ht x e]; exact i3 x
/-- the loop that orders the tokens -/
def rs_OS (kd vl en : Nat → Nat) (k s e : Nat) : Prop := (k = 0 ∧ s = 0 ∧ e = en 0) ∨ (0 < k ∧ s = rs_ss kd vl (k - 1) ∧ e = en (rs_ss kd vl (k - 1)))
theorem rs_os {kd vl en : Nat → Nat} {t : Nat} (h0 : rs_nd kd vl t = 0) (he : ∀ i, i < t → en i = rs_e1 en (rs_ar (kd i) (vl i)) i) {k s e : Nat} (hk : k < t) (O : rs_OS kd vl en k s e) : (k = e → rs_ss kd vl k = k) ∧ (k ≠ e → rs_ss kd vl k = s ∧ en (rs_ss kd vl k) = e) := by
  rcases O with ⟨rfl, rfl, rfl⟩ | ⟨g, rfl, rfl⟩
  · exact ⟨fun _ => rfl, fun _ => ⟨rfl, rfl⟩⟩
  · obtain ⟨a, b, c, d, f⟩ := rs_seg h0 he (i := k - 1) (by omega)
    refine ⟨fun h => ?_, fun h => ?_⟩
    · refine rs_ss_u (Nat.le_refl _) ?_ (fun j h1 h2 => by omega)
      rw [← h] at d
      exact d
    · have e2 := rs_seg_eq h0 he (i := k - 1) (j := k) (by omega) (by omega) (by omega)
      rw [e2]
      exact ⟨rfl, rfl⟩
/-! levels as truth values -/
def rs_AB (L : Nat → Bool) : Nat → Int32 := fun n => nI (L n).toNat
def rs_ub (L : Nat → Bool) (k : Nat) (b : Bool) : Nat → Bool := fun j => if j = k then b else L j
theorem rs_ubs {L : Nat → Bool} {k : Nat} {b : Bool} : rs_ub L k b k = b := if_pos rfl
theorem rs_ubn {L : Nat → Bool} {k j : Nat} {b : Bool} (h : j ≠ k) : rs_ub L k b j = L j := if_neg h
theorem rs_updB (L : Nat → Bool) (k : Nat) (b : Bool) : upd (rs_AB L) k (nI b.toNat) = rs_AB (rs_ub L k b) := by
  funext j
  show (if j = k then nI b.toNat else nI (L j).toNat) = nI (if j = k then b else L j).toNat
  split <;> rfl
theorem rs_AB0 : (fun _ => 0 : Nat → Int32) = rs_AB (fun _ => false) := funext fun _ => nI_0.symm
def rs_sp (L : Nat → Bool) (v f j : Nat) : Nat → Bool := fun n => if f ≤ n ∧ n < f + j then v.testBit (n - f) else L n
theorem rs_sp_0 (L : Nat → Bool) (v f : Nat) : rs_sp L v f 0 = L := funext fun n => if_neg (by omega)
theorem rs_sp_s (L : Nat → Bool) (v f j : Nat) : rs_ub (rs_sp L v f j) (f + j) (v.testBit j) = rs_sp L v f (j + 1) := by
  funext n
  unfold rs_ub rs_sp
  by_cases h : n = f + j
  · rw [if_pos h, if_pos (by omega), h, Nat.add_sub_cancel_left]
  · rw [if_neg h]
    by_cases g : f ≤ n ∧ n < f + j
    · rw [if_pos g, if_pos (by omega)]
    · rw [if_neg g, if_neg (by omega)]
theorem rs_lv_u {L : Nat → Bool} {k : Nat} {b : Bool} {l : Nat} (h : l < 2 * k) : rs_lv (rs_ub L k b) l = rs_lv L l := by
  unfold rs_lv
  rw [rs_ubn (by omega)]
/-- one gate settles -/
theorem rs_se {nc n : Nat} {gl gr : Nat → Nat} {L : Nat → Bool} (h : rs_WF nc gl gr) (h1 : 97 ≤ n) (h2 : n < nc) (M : rs_Md n gl gr L) : rs_Md (n + 1) gl gr (rs_ub L n (rs_lv L (gl n) && rs_lv L (gr n))) := by
  refine ⟨?_, fun m m1 m2 => ?_⟩
  · rw [rs_ubn (by omega)]; exact M.1
  · obtain ⟨w1, w2⟩ := h.2 m m1 (by omega)
    rw [rs_lv_u (by omega), rs_lv_u (by omega)]
    rcases Nat.lt_or_ge m n with g | g
    · rw [rs_ubn (by omega)]; exact M.2 m m1 g
    · have e : m = n := by omega
      rw [e, rs_ubs]
theorem rs_Bs_u {n : Nat} {L : Nat → Bool} {ip rg : Nat → Nat} {b : Bool} (h : 97 ≤ n) (B : rs_Bs L ip rg) : rs_Bs (rs_ub L n b) ip rg := by
  refine ⟨fun p hp x hx => ?_, fun r hr x hx => ?_⟩
  · rw [rs_ubn (by omega)]; exact B.1 p hp x hx
  · rw [rs_ubn (by omega)]; exact B.2 r hr x hx
/-- the next registers -/
def rs_nx (kd vl en R rg : Nat → Nat) (t : Nat) : Nat → Nat := fun r => if r < 8 then rs_nz kd vl en R rg r t else rg r
theorem rs_nz_c {kd vl en R R' rg : Nat → Nat} {r t : Nat} (h : ∀ i, i < t → kd i = 11 → R (i + 1) = R' (i + 1) ∧ R (en (i + 1)) = R' (en (i + 1))) : ∀ k, k ≤ t → rs_nz kd vl en R rg r k = rs_nz kd vl en R' rg r k := by
  intro k
  induction k with
  | zero => intro _; rfl
  | succ k ih =>
    intro hk
    by_cases g : kd k = 11
    · obtain ⟨a, b⟩ := h k (by omega) g
      show (if kd k = 11 ∧ vl k = r ∧ R (k + 1) ≠ 0 then R (en (k + 1)) else rs_nz kd vl en R rg r k) = if kd k = 11 ∧ vl k = r ∧ R' (k + 1) ≠ 0 then R' (en (k + 1)) else rs_nz kd vl en R' rg r k
      rw [a, b, ih (by omega)]
    · have e : rs_nz kd vl en R rg r (k + 1) = rs_nz kd vl en R rg r k := if_neg (fun z => g z.1)
      have e' : rs_nz kd vl en R' rg r (k + 1) = rs_nz kd vl en R' rg r k := if_neg (fun z => g z.1)
      rw [e, e']; exact ih (by omega)
theorem rs_nx_u {kd vl en ws ip rg R R' : Nat → Nat} {t : Nat} (P : rs_Pg kd vl en ws t) (h : rs_So kd vl en ws ip rg t R) (h' : rs_So kd vl en ws ip rg t R') : rs_nx kd vl en R rg t = rs_nx kd vl en R' rg t := by
  funext r
  unfold rs_nx
  refine rs_ic (fun _ => rs_nz_c (t := t) (fun i hi h11 => ?_) t (Nat.le_refl _)) fun _ => rfl
  have ar : rs_ar (kd i) (vl i) = 2 := by rw [h11]; rfl
  have o1 := rs_dp_lt P hi (p := i + 1) (Or.inr (Or.inl ⟨by rw [ar]; decide, rfl⟩))
  have o2 := rs_dp_lt P hi (p := en (i + 1)) (Or.inr (Or.inr (Or.inl ⟨by rw [ar]; decide, rfl⟩)))
  exact ⟨rs_So_u P h h' _ o1.1, rs_So_u P h h' _ o2.1⟩
theorem rs_nz_lt {kd vl en ws ip rg R : Nat → Nat} {t : Nat} (P : rs_Pg kd vl en ws t) (hB : rs_B ip rg) (h : rs_So kd vl en ws ip rg t R) (r : Nat) : ∀ k, k ≤ t → rs_nz kd vl en R rg r k < 256 := by
  intro k
  induction k with
  | zero => intro _; exact hB.2 r
  | succ k ih =>
    intro hk
    refine rs_it (P := fun x => x < 256) (fun z => ?_) fun _ => ih (by omega)
    have ar : rs_ar (kd k) (vl k) = 2 := by rw [z.1]; rfl
    have o2 := rs_dp_lt P (i := k) (by omega) (p := en (k + 1)) (Or.inr (Or.inr (Or.inl ⟨by rw [ar]; decide, rfl⟩)))
    exact rs_So_lt P hB h _ o2.1
end
section
/-! what holds of the tokens taken so far -/
theorem rs_nd_c {kd vl kd' vl' : Nat → Nat} : ∀ j, (∀ i, i < j → kd' i = kd i ∧ vl' i = vl i) → rs_nd kd' vl' j = rs_nd kd vl j := by
  intro j
  induction j with
  | zero => intro _; rfl
  | succ j ih =>
    intro h
    obtain ⟨a, b⟩ := h j (by omega)
    show rs_nd kd' vl' j - 1 + rs_ar (kd' j) (vl' j) = rs_nd kd vl j - 1 + rs_ar (kd j) (vl j)
    rw [a, b, ih (fun i hi => h i (by omega))]
theorem rs_nd_le (kd vl : Nat → Nat) : ∀ j, rs_nd kd vl j ≤ 3 * j := by
  intro j
  induction j with
  | zero => exact Nat.le_refl _
  | succ j ih =>
    have := rs_ar3 (kd j) (vl j)
    show rs_nd kd vl j - 1 + rs_ar (kd j) (vl j) ≤ _
    omega
def rs_T1 (cnt : Nat) (kd vl wdf ws : Nat → Nat) : Prop := (∀ i, i < cnt → rs_ok (kd i) (vl i) ∧ (9 ≤ kd i ↔ rs_nd kd vl i = 0)) ∧ ∀ i, i < cnt → kd i = 4 → wdf (vl i) = 1 ∧ ∃ j, ws (vl i) < j ∧ j ≤ i ∧ rs_nd kd vl j = 0
def rs_T2 (cnt : Nat) (kd vl wdf odf ws ost : Nat → Nat) : Prop := (∀ w, wdf w = 0 ∨ wdf w = 1) ∧ (∀ o, odf o = 0 ∨ odf o = 1) ∧ (∀ w, wdf w = 1 → ws w < cnt ∧ kd (ws w) = 9 ∧ vl (ws w) = w ∧ ∃ j, ws w < j ∧ j ≤ cnt ∧ rs_nd kd vl j = 0) ∧ ∀ o, odf o = 1 → ost o < cnt ∧ kd (ost o) = 10 ∧ vl (ost o) = o
def rs_T3 (cnt op : Nat) (kd vl wdf odf : Nat → Nat) : Prop := op < cnt ∧ 9 ≤ kd op ∧ kd op ≤ 11 ∧ vl op < 8 ∧ (kd op = 9 → wdf (vl op) = 0) ∧ (kd op = 10 → vl op < 4 ∧ odf (vl op) = 0)
def rs_T (cnt op : Nat) (kd vl wdf odf ws ost : Nat → Nat) : Prop := rs_T1 cnt kd vl wdf ws ∧ rs_T2 cnt kd vl wdf odf ws ost ∧ (1 ≤ rs_nd kd vl cnt → rs_T3 cnt op kd vl wdf odf)
/-- a token is appended -/
theorem rs_T_a {cnt op : Nat} {kd vl wdf odf ws ost : Nat → Nat} (T : rs_T cnt op kd vl wdf odf ws ost) {k v : Nat} (hk : rs_ok k v) (hn : 9 ≤ k ↔ rs_nd kd vl cnt = 0) (hw : k = 4 → wdf v = 1) (h9 : k = 9 → wdf v = 0) (h10 : k = 10 → odf v = 0) : rs_T1 (cnt + 1) (rs_u kd cnt k) (rs_u vl cnt v) wdf ws ∧ rs_T2 (cnt + 1) (rs_u kd cnt k) (rs_u vl cnt v) wdf odf ws ost ∧ rs_T3 (cnt + 1) (if 9 ≤ k then cnt else op) (rs_u kd cnt k) (rs_u vl cnt v) wdf odf ∧ rs_nd (rs_u kd cnt k) (rs_u vl cnt v) (cnt + 1) = rs_nd kd vl cnt - 1 + rs_ar k v := by
  obtain ⟨⟨t1, t2⟩, ⟨b1, b2, b3, b4⟩, t3⟩ := T
  have nd : ∀ j, j ≤ cnt → rs_nd (rs_u kd cnt k) (rs_u vl cnt v) j = rs_nd kd vl j := fun j hj => rs_nd_c j (fun i hi => ⟨rs_un (by omega), rs_un (by omega)⟩)
  refine ⟨⟨fun i hi => ?_, fun i hi h => ?_⟩, ⟨b1, b2, fun w h => ?_, fun o h => ?_⟩, ?_, ?_⟩
  · rw [nd i (by omega)]
    rcases Nat.lt_or_ge i cnt with g | g
    · rw [rs_un (by omega), rs_un (by omega)]; exact t1 i g
    · have e : i = cnt := by omega
      rw [e, rs_us, rs_us]; exact ⟨hk, hn⟩
  · rcases Nat.lt_or_ge i cnt with g | g
    · rw [rs_un (by omega)] at h ⊢
      obtain ⟨a, j, j1, j2, j3⟩ := t2 i g h
      exact ⟨a, j, j1, j2, by rw [nd j (by omega)]; exact j3⟩
    · have e : i = cnt := by omega
      rw [e, rs_us] at h
      rw [e, rs_us]
      obtain ⟨a, b, c, j, j1, j2, j3⟩ := b3 v (hw h)
      exact ⟨hw h, j, j1, j2, by rw [nd j (by omega)]; exact j3⟩
  · obtain ⟨a, b, c, j, j1, j2, j3⟩ := b3 w h
    exact ⟨by omega, by rw [rs_un (by omega)]; exact b, by rw [rs_un (by omega)]; exact c, j, j1, by omega, by rw [nd j (by omega)]; exact j3⟩
  · obtain ⟨a, b, c⟩ := b4 o h
    exact ⟨by omega, by rw [rs_un (by omega)]; exact b, by rw [rs_un (by omega)]; exact c⟩
  · by_cases g : 9 ≤ k
    · rw [if_pos g]
      unfold rs_T3
      rw [rs_us, rs_us]
      obtain ⟨k1, k2, k3, k4⟩ := hk
      have hh : rs_hi k ≤ 7 ∧ (k = 10 → rs_hi k = 3) := by
        unfold rs_hi
        repeat' split
        all_goals omega
      exact ⟨by omega, g, k2, by omega, h9, fun e => ⟨by have := hh.2 e; omega, h10 e⟩⟩
    · rw [if_neg g]
      obtain ⟨a, b, c, d, e, f⟩ := t3 (by
        have := hn.mpr
        rcases Nat.eq_zero_or_pos (rs_nd kd vl cnt) with z | z
        · exact absurd (this z) g
        · exact z)
      unfold rs_T3
      rw [rs_un (by omega), rs_un (by omega)]
      exact ⟨by omega, b, c, d, e, f⟩
  · show rs_nd (rs_u kd cnt k) (rs_u vl cnt v) cnt - 1 + rs_ar (rs_u kd cnt k cnt) (rs_u vl cnt v cnt) = _
    rw [nd cnt (Nat.le_refl _), rs_us, rs_us]
/-- the statement goes on -/
theorem rs_T_o {cnt op : Nat} {kd vl wdf odf ws ost : Nat → Nat} (h1 : rs_T1 cnt kd vl wdf ws) (h2 : rs_T2 cnt kd vl wdf odf ws ost) (h3 : rs_T3 cnt op kd vl wdf odf) : rs_T cnt op kd vl wdf odf ws ost := ⟨h1, h2, fun _ => h3⟩
/-- a wire's statement is closed -/
theorem rs_T_w {cnt op : Nat} {kd vl wdf odf ws ost : Nat → Nat} (h1 : rs_T1 cnt kd vl wdf ws) (h2 : rs_T2 cnt kd vl wdf odf ws ost) (h3 : rs_T3 cnt op kd vl wdf odf) (h9 : kd op = 9) (h0 : rs_nd kd vl cnt = 0) : rs_T cnt op kd vl (rs_u wdf (vl op) 1) odf (rs_u ws (vl op) op) ost := by
  obtain ⟨t1, t2⟩ := h1
  obtain ⟨b1, b2, b3, b4⟩ := h2
  obtain ⟨a, b, c, d, e, f⟩ := h3
  have z := e h9
  refine ⟨⟨t1, fun i hi h => ?_⟩, ⟨fun w => ?_, b2, fun w h => ?_, b4⟩, fun h => by omega⟩
  · obtain ⟨p, q⟩ := t2 i hi h
    have ne : vl i ≠ vl op := fun x => by rw [x, z] at p; omega
    rw [rs_un ne, rs_un ne]; exact ⟨p, q⟩
  · by_cases g : w = vl op
    · rw [g, rs_us]; exact Or.inr rfl
    · rw [rs_un g]; exact b1 w
  · by_cases g : w = vl op
    · rw [g, rs_us]; exact ⟨a, h9, rfl, cnt, a, Nat.le_refl _, h0⟩
    · rw [rs_un g] at h ⊢; exact b3 w h
theorem rs_T_q {cnt op : Nat} {kd vl wdf odf ws ost : Nat → Nat} (h1 : rs_T1 cnt kd vl wdf ws) (h2 : rs_T2 cnt kd vl wdf odf ws ost) (h3 : rs_T3 cnt op kd vl wdf odf) (h10 : kd op = 10) (h0 : rs_nd kd vl cnt = 0) : rs_T cnt op kd vl wdf (rs_u odf (vl op) 1) ws (rs_u ost (vl op) op) := by
  obtain ⟨b1, b2, b3, b4⟩ := h2
  obtain ⟨a, b, c, d, e, f⟩ := h3
  refine ⟨h1, ⟨b1, fun w => ?_, b3, fun w h => ?_⟩, fun h => by omega⟩
  · by_cases g : w = vl op
    · rw [g, rs_us]; exact Or.inr rfl
    · rw [rs_un g]; exact b2 w
  · by_cases g : w = vl op
    · rw [g, rs_us]; exact ⟨a, h10, rfl⟩
    · rw [rs_un g] at h ⊢; exact b4 w h
theorem rs_T_0 (op : Nat) : rs_T 0 op (fun _ => 0) (fun _ => 0) (fun _ => 0) (fun _ => 0) (fun _ => 0) (fun _ => 0) :=
  ⟨⟨fun i h => by omega, fun i h => by omega⟩, ⟨fun _ => Or.inl rfl, fun _ => Or.inl rfl, fun w h => absurd h (show ¬ (0 : Nat) = 1 by decide), fun w h => absurd h (show ¬ (0 : Nat) = 1 by decide)⟩, fun h => absurd h (show ¬ 1 ≤ 0 by decide)⟩
theorem rs_T_Pg {cnt op : Nat} {kd vl wdf odf ws ost en : Nat → Nat} (T : rs_T cnt op kd vl wdf odf ws ost) (h0 : rs_nd kd vl cnt = 0) (he : ∀ i, i < cnt → en i = rs_e1 en (rs_ar (kd i) (vl i)) i) : rs_Pg kd vl en ws cnt :=
  ⟨h0, he, fun i hi h => (T.1.2 i hi h).2, fun i hi => (T.1.1 i hi).1, fun i hi => (T.1.1 i hi).2⟩
theorem rs_T_D {cnt op : Nat} {kd vl wdf odf ws ost : Nat → Nat} (T : rs_T cnt op kd vl wdf odf ws ost) : ∀ i, i < cnt → kd i = 4 → kd (ws (vl i)) = 9 := fun i hi h => (T.2.1.2.2.1 _ (T.1.2 i hi h).1).2.1
end
section
/-! what the literals of a token are worth, kind by kind -/
def rs_Wbw (tb : Nat → Nat) (p q v : Nat) (L : Nat → Bool) (x : Nat) : Bool := if v = 5 then (rs_rd L tb p x && rs_rd L tb q x) else if v = 6 then (rs_rd L tb p x || rs_rd L tb q x) else if v = 7 then (rs_rd L tb p x ^^ rs_rd L tb q x) else !rs_rd L tb p x
def rs_Wop (tb : Nat → Nat) (p q r v : Nat) : (Nat → Bool) → Nat → Bool := if v = 2 then rs_Wneg tb p else if v = 3 then rs_Wsum tb p q false else if v = 4 then rs_Wsum tb p q true else if v = 8 then rs_Wtr (rs_Teq tb p q) else if v = 9 then rs_Wtr (rs_Tlt tb p q false) else if v = 10 then rs_Wtr (rs_Tlt tb p q true) else if v = 11 then rs_Wmx (rs_Tan tb p) tb q tb r else rs_Wbw tb p q v
theorem rs_op_p {L : Nat → Bool} {tb : Nat → Nat} {p q r v a b c : Nat} (hv1 : 1 ≤ v) (hv : v ≤ 11) (hA : a < 256 ∧ rs_bt L tb p a) (hB : ¬ v = 1 → ¬ v = 2 → b < 256 ∧ rs_bt L tb q b) (hC : v = 11 → rs_bt L tb r c) : ∀ x, x < 8 → rs_Wop tb p q r v L x = (rs_f v a b c).testBit x := by
  intro x hx
  have rA : rs_rd L tb p x = a.testBit x := hA.2 x hx
  rcases (by omega : v = 1 ∨ v = 2 ∨ v = 3 ∨ v = 4 ∨ v = 5 ∨ v = 6 ∨ v = 7 ∨ v = 8 ∨ v = 9 ∨ v = 10 ∨ v = 11) with h | h | h | h | h | h | h | h | h | h | h <;> subst h
  · show (!rs_rd L tb p x) = (255 - a).testBit x
    rw [rs_nb a hA.1 x hx, rA]
  · exact rs_neg_p hA.1 hA.2 b c x hx
  · have B := hB (by decide) (by decide)
    exact rs_add_p hA.1 B.1 hA.2 B.2 c x hx
  · have B := hB (by decide) (by decide)
    exact rs_sub_p hA.1 B.1 hA.2 B.2 c x hx
  · have B := hB (by decide) (by decide)
    show (rs_rd L tb p x && rs_rd L tb q x) = (a &&& b).testBit x
    rw [Nat.testBit_and, rA, show rs_rd L tb q x = b.testBit x from B.2 x hx]
  · have B := hB (by decide) (by decide)
    show (rs_rd L tb p x || rs_rd L tb q x) = (a ||| b).testBit x
    rw [Nat.testBit_or, rA, show rs_rd L tb q x = b.testBit x from B.2 x hx]
  · have B := hB (by decide) (by decide)
    show (rs_rd L tb p x ^^ rs_rd L tb q x) = (a ^^^ b).testBit x
    rw [Nat.testBit_xor, rA, show rs_rd L tb q x = b.testBit x from B.2 x hx]
  · have B := hB (by decide) (by decide)
    exact rs_eq_p hA.1 B.1 hA.2 B.2 c x hx
  · have B := hB (by decide) (by decide)
    exact rs_ltu_p hA.1 B.1 hA.2 B.2 c x hx
  · have B := hB (by decide) (by decide)
    exact rs_lts_p hA.1 B.1 hA.2 B.2 c x hx
  · have B := hB (by decide) (by decide)
    exact rs_mux_p hA.1 hA.2 B.2 (hC rfl) x hx
def rs_Wrt (tb : Nat → Nat) (p w k v : Nat) (L : Nat → Bool) (x : Nat) : Bool := if k = 1 then v.testBit x else if k = 2 then L (1 + (v * 8 + x)) else if k = 3 then L (33 + (v * 8 + x)) else if k = 4 then rs_rd L tb w x else if k = 6 then (decide (v ≤ x) && rs_rd L tb p (x - v)) else if k = 7 then (decide (x + v < 8) && rs_rd L tb p (x + v)) else if k = 8 then (decide (x = 0) && rs_rd L tb p v) else rs_rd L tb p x
theorem rs_ib {P : Bool → Prop} {c : Prop} [Decidable c] {x y : Bool} (h : c → P x) (h' : ¬ c → P y) : P (if c then x else y) := by
  by_cases g : c
  · rw [if_pos g]; exact h g
  · rw [if_neg g]; exact h' g
/-- an operator's literals -/
theorem rs_W_op {kd vl en ws tb : Nat → Nat} {t i : Nat} (P : rs_Pg kd vl en ws t) (hi : i < t) (h5 : kd i = 5) {q r : Nat} (hq : ¬ vl i = 1 → ¬ vl i = 2 → q = en (i + 1)) (hr : vl i = 11 → r = en (en (i + 1))) {ip rg R : Nat → Nat} {L : Nat → Bool} (hS : rs_So kd vl en ws ip rg t R) (hd : ∀ p, rs_dp kd vl en ws i p → R p < 256 ∧ rs_bt L tb p (R p)) : ∀ x, x < 8 → rs_Wop tb (i + 1) q r (vl i) L x = (R i).testBit x := by
  obtain ⟨k1, k2, k3, k4⟩ := P.2.2.2.1 i hi
  have e1 : rs_hi (kd i) = 11 := by rw [h5]; rfl
  have hv1 := k4 h5
  have eR : R i = rs_f (vl i) (R (i + 1)) (R (en (i + 1))) (R (en (en (i + 1)))) := by
    rw [hS i hi]
    unfold rs_me
    rw [if_neg (by omega), if_neg (by omega), if_neg (by omega), if_neg (by omega), if_pos h5]
  rw [eR]
  refine rs_op_p hv1 (by omega) ?_ (fun n1 n2 => ?_) fun n11 => ?_
  · exact hd _ (Or.inr (Or.inl ⟨rs_ar_6 (by omega), rfl⟩))
  · rw [hq n1 n2]; exact hd _ (Or.inr (Or.inr (Or.inl ⟨rs_ar_2 h5 n1 n2 hv1, rfl⟩)))
  · rw [hr n11]; exact (hd _ (Or.inr (Or.inr (Or.inr ⟨rs_ar_3 h5 n11, rfl⟩)))).2
/-- the literals of the others -/
theorem rs_W_rt {kd vl en ws tb : Nat → Nat} {t i : Nat} (P : rs_Pg kd vl en ws t) (hi : i < t) (h5 : ¬ kd i = 5) {p : Nat} (hp : 6 ≤ kd i → p = i + 1) {ip rg R : Nat → Nat} {L : Nat → Bool} (hS : rs_So kd vl en ws ip rg t R) (hb : rs_Bs L ip rg) (hd : ∀ p, rs_dp kd vl en ws i p → R p < 256 ∧ rs_bt L tb p (R p)) : ∀ x, x < 8 → rs_Wrt tb p (ws (vl i)) (kd i) (vl i) L x = (R i).testBit x := by
  intro x hx
  obtain ⟨k1, k2, k3, k4⟩ := P.2.2.2.1 i hi
  have a : 5 ≤ kd i → R (i + 1) < 256 ∧ rs_bt L tb (i + 1) (R (i + 1)) := fun h => hd _ (Or.inr (Or.inl ⟨rs_ar_6 h, rfl⟩))
  have hv : (kd i = 2 → vl i < 4) ∧ (kd i = 3 → vl i < 8) ∧ (6 ≤ kd i → vl i < 8) := by
    unfold rs_hi at k3
    refine ⟨fun h => ?_, fun h => ?_, fun h => ?_⟩ <;> (repeat' split at k3) <;> omega
  rw [hS i hi]
  unfold rs_Wrt rs_me
  by_cases h1 : kd i = 1
  · rw [if_pos h1, if_pos h1]
  · rw [if_neg h1, if_neg h1]
    by_cases h2 : kd i = 2
    · rw [if_pos h2, if_pos h2]; exact hb.1 _ (hv.1 h2) x hx
    · rw [if_neg h2, if_neg h2]
      by_cases h3 : kd i = 3
      · rw [if_pos h3, if_pos h3]; exact hb.2 _ (hv.2.1 h3) x hx
      · rw [if_neg h3, if_neg h3]
        by_cases h4 : kd i = 4
        · rw [if_pos h4, if_pos h4]; exact (hd _ (Or.inl ⟨h4, rfl⟩)).2 x hx
        · rw [if_neg h4, if_neg h4, if_neg h5]
          obtain ⟨a1, a2⟩ := a (by omega)
          rw [hp (by omega)]
          have v8 := hv.2.2
          by_cases h6 : kd i = 6
          · rw [if_pos h6, if_pos h6, rs_shl _ _ hx]
            by_cases g : vl i ≤ x
            · rw [show rs_rd L tb (i + 1) (x - vl i) = (R (i + 1)).testBit (x - vl i) from a2 _ (by omega)]
            · rw [decide_eq_false g]; rfl
          · rw [if_neg h6, if_neg h6]
            by_cases h7 : kd i = 7
            · rw [if_pos h7, if_pos h7, rs_shr]
              by_cases g : x + vl i < 8
              · rw [decide_eq_true g, show rs_rd L tb (i + 1) (x + vl i) = (R (i + 1)).testBit (x + vl i) from a2 _ g]; rfl
              · rw [decide_eq_false g, rs_hb a1 (by omega)]; rfl
            · rw [if_neg h7, if_neg h7]
              by_cases h8 : kd i = 8
              · rw [if_pos h8, if_pos h8, rs_bit, show rs_rd L tb (i + 1) (vl i) = (R (i + 1)).testBit (vl i) from a2 _ (by omega)]
              · rw [if_neg h8, if_neg h8]; exact a2 x hx
theorem rs_icb {c : Prop} [Decidable c] {x y x' y' : Bool} (h : c → x = x') (h' : ¬ c → y = y') : (if c then x else y) = (if c then x' else y') := by
  by_cases g : c
  · rw [if_pos g, if_pos g]; exact h g
  · rw [if_neg g, if_neg g]; exact h' g
theorem rs_Wrt_c {tb tb' : Nat → Nat} {p w k v x : Nat} {L : Nat → Bool} (hx : x < 8) (h5 : 1 ≤ k ∧ k ≠ 5) (hv : 6 ≤ k → v < 8) (h4 : k = 4 → tb' (w * 8 + x) = tb (w * 8 + x)) (h6 : 6 ≤ k → ∀ y, y < 8 → tb' (p * 8 + y) = tb (p * 8 + y)) : rs_Wrt tb' p w k v L x = rs_Wrt tb p w k v L x := by
  have rd : 6 ≤ k → ∀ y, y < 8 → rs_rd L tb' p y = rs_rd L tb p y := fun h y hy => congrArg _ (h6 h y hy)
  unfold rs_Wrt
  refine rs_icb (fun _ => rfl) fun n1 => rs_icb (fun _ => rfl) fun n2 => rs_icb (fun _ => rfl) fun n3 => rs_icb (fun e => congrArg _ (h4 e)) fun n4 => rs_icb (fun e => ?_) fun n6 => rs_icb (fun e => ?_) fun n7 => rs_icb (fun e => ?_) fun n8 => rd (by omega) x hx
  · rw [rd (by omega) (x - v) (by omega)]
  · by_cases g : x + v < 8
    · rw [rd (by omega) (x + v) g]
    · rw [decide_eq_false g]; rfl
  · rw [rd (by omega) v (hv (by omega))]
theorem rs_f_c {v a b c b' c' : Nat} (hv1 : 1 ≤ v) (hv : v ≤ 11) (hb : ¬ v = 1 → ¬ v = 2 → b = b') (hc : v = 11 → c = c') : rs_f v a b c = rs_f v a b' c' := by
  unfold rs_f
  refine rs_ic (fun _ => rfl) fun n1 => rs_ic (fun _ => rfl) fun n2 => ?_
  rw [hb n1 n2]
  refine rs_ic (fun _ => rfl) fun n3 => rs_ic (fun _ => rfl) fun n4 => rs_ic (fun _ => rfl) fun n5 => rs_ic (fun _ => rfl) fun n6 => rs_ic (fun _ => rfl) fun n7 => rs_ic (fun _ => rfl) fun n8 => rs_ic (fun _ => rfl) fun n9 => rs_ic (fun _ => rfl) fun n10 => ?_
  rw [hc (by omega)]
theorem rs_me_lt {kd vl en ws ip rg R : Nat → Nat} {i : Nat} (hk : rs_ok (kd i) (vl i)) (hB : rs_B ip rg) (m : ∀ p, R p < 256) : rs_me kd vl en ws ip rg R i < 256 := by
  obtain ⟨k1, k2, k3, k4⟩ := hk
  unfold rs_me
  refine rs_it (P := fun x => x < 256) (fun e => ?_) fun _ => rs_it (P := fun x => x < 256) (fun _ => hB.1 _) fun _ => rs_it (P := fun x => x < 256) (fun _ => hB.2 _) fun _ => rs_it (P := fun x => x < 256) (fun _ => m _) fun _ => rs_it (P := fun x => x < 256) (fun _ => rs_f_lt (m _) (m _) (m _)) fun _ => rs_it (P := fun x => x < 256) (fun _ => Nat.mod_lt _ (by decide)) fun _ => rs_it (P := fun x => x < 256) (fun _ => Nat.lt_of_le_of_lt (Nat.div_le_self _ _) (m _)) fun _ => rs_it (P := fun x => x < 256) (fun _ => Nat.lt_of_lt_of_le (Nat.mod_lt _ (by decide)) (by decide)) fun _ => m _
  have e2 : rs_hi (kd i) = 255 := by rw [e]; rfl
  omega
/-- the ranges of the values, kind by kind -/
theorem rs_rng {k v : Nat} (h : rs_ok k v) : v < 256 ∧ (k = 2 → v < 4) ∧ (k = 5 → 1 ≤ v ∧ v ≤ 11) ∧ (k = 10 → v < 4) ∧ (k ≠ 1 → k ≠ 5 → v < 8) := by
  obtain ⟨k1, k2, k3, k4⟩ := h
  unfold rs_hi at k3
  refine ⟨?_, fun h => ?_, fun h => ⟨k4 h, ?_⟩, fun h => ?_, fun h h' => ?_⟩ <;> (repeat' split at k3) <;> omega
theorem rs_ite_i {c d : Prop} [Decidable c] [Decidable d] {x y : Nat} (h : c ↔ d) : (if c then x else y) = (if d then x else y) := by
  by_cases g : c
  · rw [if_pos g, if_pos (h.mp g)]
  · rw [if_neg g, if_neg (fun z => g (h.mpr z))]
end
section
/-! the gate builders -/
section
variable {lim cnt ned op cp nc : Nat} {cy : Int32} {kd vl rg ip wdf odf ws ost fo so to en ord res gl gr fs tb : Nat → Nat} {L : Nat → Bool}
theorem xa_cv {P : Int32 → Prop} {x y : Int32} (e : x = y) (h : P y) : P x := e ▸ h
theorem xa_and {post : Int32 → SX → Prop} {x y : Int32} (a b : Nat) (hx : x = nI a) (hy : y = nI b) (hW : rs_WF nc gl gr) (hn : nc + 1 ≤ 3937) (ha : a < 2 * nc) (hb : b < 2 * nc) (H : ∀ l nc' gl' gr', rs_G nc gl gr nc' gl' gr' l 1 (fun L => rs_lv L a && rs_lv L b) → post (nI l) ((nI lim), (nI cnt), (nI ned), (nI op), (nI cp), cy, (nI nc'), (rs_A kd), (rs_A vl), (rs_A rg), (rs_A ip), (rs_A wdf), (rs_A odf), (rs_A ws), (rs_A ost), (rs_A fo), (rs_A so), (rs_A to), (rs_A en), (rs_A ord), (rs_A res), (rs_A gl'), (rs_A gr'), (rs_A fs), (rs_A tb), (rs_AB L))) : wpX_andGate post ((nI lim), (nI cnt), (nI ned), (nI op), (nI cp), cy, (nI nc), (rs_A kd), (rs_A vl), (rs_A rg), (rs_A ip), (rs_A wdf), (rs_A odf), (rs_A ws), (rs_A ost), (rs_A fo), (rs_A so), (rs_A to), (rs_A en), (rs_A ord), (rs_A res), (rs_A gl), (rs_A gr), (rs_A fs), (rs_A tb), (rs_AB L)) x y := by
  subst hx hy
  have h1 : upd (rs_A gl) (nI nc).toNatClampNeg (nI a) = rs_A (rs_u gl nc a) := by
    rw [nI_clamp (by omega)]; exact rs_upd _ _ _
  have h2 : upd (rs_A gr) (nI nc).toNatClampNeg (nI b) = rs_A (rs_u gr nc b) := by
    rw [nI_clamp (by omega)]; exact rs_upd _ _ _
  have K := H _ _ _ _ (rs_g_and hW ha hb)
  exact br_t (nI_lt (b := 3937) (by omega) (by decide)) ⟨pk_in nc 3937 (by omega), nm_r h1 ⟨pk_in nc 3937 (by omega), nm_r h2 (nm_r (nI_1 nc) (xa_cv (P := fun r => post r _) (pk_mul 2 nc) K))⟩⟩
theorem xa_or {post : Int32 → SX → Prop} {x y : Int32} (a b : Nat) (hx : x = nI a) (hy : y = nI b) (hW : rs_WF nc gl gr) (hn : nc + 1 ≤ 3937) (ha : a < 2 * nc) (hb : b < 2 * nc) (H : ∀ l nc' gl' gr', rs_G nc gl gr nc' gl' gr' l 1 (fun L => rs_lv L a || rs_lv L b) → post (nI l) ((nI lim), (nI cnt), (nI ned), (nI op), (nI cp), cy, (nI nc'), (rs_A kd), (rs_A vl), (rs_A rg), (rs_A ip), (rs_A wdf), (rs_A odf), (rs_A ws), (rs_A ost), (rs_A fo), (rs_A so), (rs_A to), (rs_A en), (rs_A ord), (rs_A res), (rs_A gl'), (rs_A gr'), (rs_A fs), (rs_A tb), (rs_AB L))) : wpX_orGate post ((nI lim), (nI cnt), (nI ned), (nI op), (nI cp), cy, (nI nc), (rs_A kd), (rs_A vl), (rs_A rg), (rs_A ip), (rs_A wdf), (rs_A odf), (rs_A ws), (rs_A ost), (rs_A fo), (rs_A so), (rs_A to), (rs_A en), (rs_A ord), (rs_A res), (rs_A gl), (rs_A gr), (rs_A fs), (rs_A tb), (rs_AB L)) x y := by
  subst hx hy
  unfold wpX_orGate
  refine xa_and (a ^^^ 1) (b ^^^ 1) (rs_x1I a) (rs_x1I b) hW hn (rs_x1l ha) (rs_x1l hb) fun l nc' gl' gr' G => ?_
  exact xa_cv (P := fun r => post r _) (rs_x1I l) (H _ _ _ _ (rs_g_F (rs_g_n G) fun L z => by
    simp only [rs_lv_n]
    cases rs_lv L a <;> cases rs_lv L b <;> rfl))
theorem xa_xor {post : Int32 → SX → Prop} {x y : Int32} (a b : Nat) (hx : x = nI a) (hy : y = nI b) (hW : rs_WF nc gl gr) (hn : nc + 3 ≤ 3937) (ha : a < 2 * nc) (hb : b < 2 * nc) (H : ∀ l nc' gl' gr', rs_G nc gl gr nc' gl' gr' l 3 (fun L => rs_lv L a ^^ rs_lv L b) → post (nI l) ((nI lim), (nI cnt), (nI ned), (nI op), (nI cp), cy, (nI nc'), (rs_A kd), (rs_A vl), (rs_A rg), (rs_A ip), (rs_A wdf), (rs_A odf), (rs_A ws), (rs_A ost), (rs_A fo), (rs_A so), (rs_A to), (rs_A en), (rs_A ord), (rs_A res), (rs_A gl'), (rs_A gr'), (rs_A fs), (rs_A tb), (rs_AB L))) : wpX_xorGate post ((nI lim), (nI cnt), (nI ned), (nI op), (nI cp), cy, (nI nc), (rs_A kd), (rs_A vl), (rs_A rg), (rs_A ip), (rs_A wdf), (rs_A odf), (rs_A ws), (rs_A ost), (rs_A fo), (rs_A so), (rs_A to), (rs_A en), (rs_A ord), (rs_A res), (rs_A gl), (rs_A gr), (rs_A fs), (rs_A tb), (rs_AB L)) x y := by
  subst hx hy
  unfold wpX_xorGate
  refine xa_and a b rfl rfl hW (by omega) ha hb fun l1 nc1 gl1 gr1 G1 => ?_
  have w1 := G1.1
  have v1 := G1.2.1.1
  refine xa_and (a ^^^ 1) (b ^^^ 1) (rs_x1I a) (rs_x1I b) G1.2.1.2.1 (by omega) (rs_x1l (by omega)) (rs_x1l (by omega)) fun l2 nc2 gl2 gr2 G2 => ?_
  have w2 := G2.1
  have u1 := rs_g_up G1 G2.2.1
  refine xa_and (l1 ^^^ 1) (l2 ^^^ 1) (rs_x1I l1) (rs_x1I l2) G2.2.1.2.1 (by omega) (rs_x1l u1.1) (rs_x1l G2.2.2.1) fun l3 nc3 gl3 gr3 G3 => ?_
  refine H _ _ _ _ (rs_g_F (rs_g_t G1 (rs_g_t G2 G3)) fun L z => ?_)
  have e1 := (rs_g_up G1 (rs_ex_t G2.2.1 G3.2.1)).2 L z
  have e2 := (rs_g_up G2 G3.2.1).2 L z
  simp only [rs_lv_n, e1, e2]
  cases rs_lv L a <;> cases rs_lv L b <;> rfl
theorem xa_mux {post : Int32 → SX → Prop} {x y w : Int32} (a b c : Nat) (hx : x = nI a) (hy : y = nI b) (hw : w = nI c) (hW : rs_WF nc gl gr) (hn : nc + 3 ≤ 3937) (ha : a < 2 * nc) (hb : b < 2 * nc) (hc : c < 2 * nc) (H : ∀ l nc' gl' gr', rs_G nc gl gr nc' gl' gr' l 3 (fun L => bif rs_lv L a then rs_lv L b else rs_lv L c) → post (nI l) ((nI lim), (nI cnt), (nI ned), (nI op), (nI cp), cy, (nI nc'), (rs_A kd), (rs_A vl), (rs_A rg), (rs_A ip), (rs_A wdf), (rs_A odf), (rs_A ws), (rs_A ost), (rs_A fo), (rs_A so), (rs_A to), (rs_A en), (rs_A ord), (rs_A res), (rs_A gl'), (rs_A gr'), (rs_A fs), (rs_A tb), (rs_AB L))) : wpX_muxGate post ((nI lim), (nI cnt), (nI ned), (nI op), (nI cp), cy, (nI nc), (rs_A kd), (rs_A vl), (rs_A rg), (rs_A ip), (rs_A wdf), (rs_A odf), (rs_A ws), (rs_A ost), (rs_A fo), (rs_A so), (rs_A to), (rs_A en), (rs_A ord), (rs_A res), (rs_A gl), (rs_A gr), (rs_A fs), (rs_A tb), (rs_AB L)) x y w := by
  subst hx hy hw
  unfold wpX_muxGate
  refine xa_and a b rfl rfl hW (by omega) ha hb fun l1 nc1 gl1 gr1 G1 => ?_
  have w1 := G1.1
  have v1 := G1.2.1.1
  refine xa_and (a ^^^ 1) c (rs_x1I a) rfl G1.2.1.2.1 (by omega) (rs_x1l (by omega)) (by omega) fun l2 nc2 gl2 gr2 G2 => ?_
  have w2 := G2.1
  have u1 := rs_g_up G1 G2.2.1
  refine xa_and (l1 ^^^ 1) (l2 ^^^ 1) (rs_x1I l1) (rs_x1I l2) G2.2.1.2.1 (by omega) (rs_x1l u1.1) (rs_x1l G2.2.2.1) fun l3 nc3 gl3 gr3 G3 => ?_
  refine xa_cv (P := fun r => post r _) (rs_x1I l3) (H _ _ _ _ (rs_g_F (rs_g_n (rs_g_t G1 (rs_g_t G2 G3))) fun L z => ?_))
  have e1 := (rs_g_up G1 (rs_ex_t G2.2.1 G3.2.1)).2 L z
  have e2 := (rs_g_up G2 G3.2.1).2 L z
  simp only [rs_lv_n, e1, e2]
  cases rs_lv L a <;> cases rs_lv L b <;> cases rs_lv L c <;> rfl
theorem xa_maj {post : Int32 → SX → Prop} {x y w : Int32} (a b c : Nat) (hx : x = nI a) (hy : y = nI b) (hw : w = nI c) (hW : rs_WF nc gl gr) (hn : nc + 4 ≤ 3937) (ha : a < 2 * nc) (hb : b < 2 * nc) (hc : c < 2 * nc) (H : ∀ l nc' gl' gr', rs_G nc gl gr nc' gl' gr' l 4 (fun L => Bool.atLeastTwo (rs_lv L a) (rs_lv L b) (rs_lv L c)) → post (nI l) ((nI lim), (nI cnt), (nI ned), (nI op), (nI cp), cy, (nI nc'), (rs_A kd), (rs_A vl), (rs_A rg), (rs_A ip), (rs_A wdf), (rs_A odf), (rs_A ws), (rs_A ost), (rs_A fo), (rs_A so), (rs_A to), (rs_A en), (rs_A ord), (rs_A res), (rs_A gl'), (rs_A gr'), (rs_A fs), (rs_A tb), (rs_AB L))) : wpX_majorityGate post ((nI lim), (nI cnt), (nI ned), (nI op), (nI cp), cy, (nI nc), (rs_A kd), (rs_A vl), (rs_A rg), (rs_A ip), (rs_A wdf), (rs_A odf), (rs_A ws), (rs_A ost), (rs_A fo), (rs_A so), (rs_A to), (rs_A en), (rs_A ord), (rs_A res), (rs_A gl), (rs_A gr), (rs_A fs), (rs_A tb), (rs_AB L)) x y w := by
  subst hx hy hw
  unfold wpX_majorityGate
  refine xa_and a b rfl rfl hW (by omega) ha hb fun l1 nc1 gl1 gr1 G1 => ?_
  have w1 := G1.1
  have v1 := G1.2.1.1
  refine xa_and (a ^^^ 1) (b ^^^ 1) (rs_x1I a) (rs_x1I b) G1.2.1.2.1 (by omega) (rs_x1l (by omega)) (rs_x1l (by omega)) fun l2 nc2 gl2 gr2 G2 => ?_
  have w2 := G2.1
  have v2 := G2.2.1.1
  have u1 := rs_g_up G1 G2.2.1
  refine xa_and (l2 ^^^ 1) c (rs_x1I l2) rfl G2.2.1.2.1 (by omega) (rs_x1l G2.2.2.1) (by omega) fun l3 nc3 gl3 gr3 G3 => ?_
  have w3 := G3.1
  have u2 := rs_g_up G1 (rs_ex_t G2.2.1 G3.2.1)
  refine xa_and (l1 ^^^ 1) (l3 ^^^ 1) (rs_x1I l1) (rs_x1I l3) G3.2.1.2.1 (by omega) (rs_x1l u2.1) (rs_x1l G3.2.2.1) fun l4 nc4 gl4 gr4 G4 => ?_
  refine xa_cv (P := fun r => post r _) (rs_x1I l4) (H _ _ _ _ (rs_g_F (rs_g_n (rs_g_t G1 (rs_g_t G2 (rs_g_t G3 G4)))) fun L z => ?_))
  have e1 := (rs_g_up G1 (rs_ex_t G2.2.1 (rs_ex_t G3.2.1 G4.2.1))).2 L z
  have e2 := (rs_g_up G2 (rs_ex_t G3.2.1 G4.2.1)).2 L z
  have e3 := (rs_g_up G3 G4.2.1).2 L z
  simp only [rs_lv_n, e1, e2, e3]
  cases rs_lv L a <;> cases rs_lv L b <;> cases rs_lv L c <;> rfl
end
end
section
/-! the builders of a token's literals -/
section
variable {lim cnt ned op cp nc : Nat} {cy : Int32} {kd vl rg ip wdf odf ws ost fo so to en ord res gl gr fs tb : Nat → Nat} {L : Nat → Bool}
theorem xa_8f {j : Nat} (h : j < 8) : ¬ (8 : Int32) ≤ nI j := nI_ge (b := 8) h (by decide)
theorem xa_8t : (8 : Int32) ≤ nI 8 := nI_le (b := 8) (Nat.le_refl 8) (by decide)
theorem xa_ix {p j : Nat} (hp : p ≤ 48) (hj : j < 8) : vp_in (nI (p * 8) + nI j) 392 := by
  rw [nI_add]; exact vp_in_nI (by omega) (by decide)
theorem xa_iy {p j : Nat} (hp : p ≤ 48) (hj : j < 8) : vp_in (nI p * 8 + nI j) 392 := by
  rw [show nI p * 8 = nI (p * 8) from pk_mul p 8]; exact xa_ix hp hj
theorem xa_rx {f : Nat → Nat} {p j : Nat} (hp : p ≤ 48) (hj : j < 8) : rs_A f (nI (p * 8) + nI j).toNatClampNeg = nI (f (p * 8 + j)) := by
  rw [nI_add]; exact rs_Ax _ rfl (by omega)
theorem xa_ry {f : Nat → Nat} {p j : Nat} (hp : p ≤ 48) (hj : j < 8) : rs_A f (nI p * 8 + nI j).toNatClampNeg = nI (f (p * 8 + j)) := by
  rw [show nI p * 8 = nI (p * 8) from pk_mul p 8]; exact xa_rx hp hj
theorem xa_ux {f : Nat → Nat} {p j x : Nat} (hp : p ≤ 48) (hj : j < 8) : upd (rs_A f) (nI (p * 8) + nI j).toNatClampNeg (nI x) = rs_A (rs_u f (p * 8 + j) x) := by
  rw [nI_add, nI_clamp (by omega)]; exact rs_upd _ _ _
theorem xa_uy {f : Nat → Nat} {p j x : Nat} (hp : p ≤ 48) (hj : j < 8) : upd (rs_A f) (nI p * 8 + nI j).toNatClampNeg (nI x) = rs_A (rs_u f (p * 8 + j) x) := by
  rw [show nI p * 8 = nI (p * 8) from pk_mul p 8]; exact xa_ux hp hj
theorem xa_f8 {f : Nat → Nat} {i p : Nat} (hi : i ≤ 48) (hf : f i = p) : rs_A f (nI i).toNatClampNeg * 8 = nI (p * 8) := by
  rw [rs_Ax i rfl (by omega), hf]; exact pk_mul p 8
theorem xb_neg_l {post : SX → Prop} {i p : Nat} (hi : i ≤ 48) (hp : p ≤ 48) (hpi : p ≠ i) (hn : nc + 80 ≤ 3937) (hb : ∀ x, x < 8 → tb (p * 8 + x) < 2 * nc) (H : ∀ nc' gl' gr' tb', rs_St (rs_Wneg tb p) i 8 80 nc gl gr tb nc' gl' gr' tb' → post ((nI lim), (nI cnt), (nI ned), (nI op), (nI cp), cy, (nI nc'), (rs_A kd), (rs_A vl), (rs_A rg), (rs_A ip), (rs_A wdf), (rs_A odf), (rs_A ws), (rs_A ost), (rs_A fo), (rs_A so), (rs_A to), (rs_A en), (rs_A ord), (rs_A res), (rs_A gl'), (rs_A gr'), (rs_A fs), (rs_A tb'), (rs_AB L))) : ∀ d j c nc' gl' gr' tb', j + d = 8 → rs_St (rs_Wneg tb p) i j (4 * j) nc gl gr tb nc' gl' gr' tb' → c < 2 * nc' → (∀ L, rs_Md nc' gl' gr' L → rs_lv L c = rs_ch (fun y => !rs_rd L tb p y) (fun _ => false) true j) → wX_buildNegation_15 post (nI i) (nI (p * 8)) (d + 1) (nI c) (nI j) (nI lim) (nI cnt) (nI ned) (nI op) (nI cp) cy (nI nc') (rs_A kd) (rs_A vl) (rs_A rg) (rs_A ip) (rs_A wdf) (rs_A odf) (rs_A ws) (rs_A ost) (rs_A fo) (rs_A so) (rs_A to) (rs_A en) (rs_A ord) (rs_A res) (rs_A gl') (rs_A gr') (rs_A fs) (rs_A tb') (rs_AB L) := by
  intro d
  induction d with
  | zero =>
    intro j c nc' gl' gr' tb' hj S hc hC
    have e : j = 8 := by omega
    subst e
    exact br_t xa_8t (H _ _ _ _ (rs_st_g S (by omega)))
  | succ d ih =>
    intro j c nc' gl' gr' tb' hj S hc hC
    have e1 : rs_A tb' (nI (p * 8) + nI j).toNatClampNeg ^^^ 1 = nI (tb (p * 8 + j) ^^^ 1) := by
      rw [xa_rx hp (by omega), rs_st_rd S (by omega) hpi (by omega), rs_x1I]
    have g1 := S.1
    have v1 := S.2.1.1
    have b1 := hb j (by omega)
    refine br_f (xa_8f (by omega)) ⟨xa_ix hp (by omega), nm_r e1 ?_⟩
    refine xa_xor (tb (p * 8 + j) ^^^ 1) c rfl rfl S.2.1.2.1 (by omega) (rs_x1l (by omega)) hc fun l1 nc1 gl1 gr1 G1 => ?_
    have g2 := G1.1
    have v2 := G1.2.1.1
    have u2 := G1.2.2.1
    refine ⟨xa_iy hi (by omega), nm_r (xa_uy hi (by omega)) ?_⟩
    refine xa_and (tb (p * 8 + j) ^^^ 1) c rfl rfl G1.2.1.2.1 (by omega) (rs_x1l (by omega)) (by omega) fun l2 nc2 gl2 gr2 G2 => ?_
    have g3 := G2.1
    have v3 := G2.2.1.1
    refine nm_r (nI_1 j) ?_
    refine ih (j + 1) l2 nc2 gl2 gr2 _ (by omega) (rs_st_s S (rs_ex_t G1.2.1 G2.2.1) (by omega) (by omega) fun L z => ?_) G2.2.2.1 fun L z => ?_
    · have m1 := G2.2.1.2.2 L z
      have m0 := G1.2.1.2.2 L m1
      rw [G1.2.2.2 L m1]
      dsimp only
      rw [rs_lv_n, hC L m0]
      rfl
    · have m1 := G2.2.1.2.2 L z
      have m0 := G1.2.1.2.2 L m1
      rw [G2.2.2.2 L z]
      dsimp only
      rw [rs_lv_n, hC L m0]
      show (!rs_rd L tb p j && rs_ch (fun y => !rs_rd L tb p y) (fun _ => false) true j) = Bool.atLeastTwo (!rs_rd L tb p j) false (rs_ch (fun y => !rs_rd L tb p y) (fun _ => false) true j)
      cases rs_rd L tb p j <;> cases rs_ch (fun y => !rs_rd L tb p y) (fun _ => false) true j <;> rfl
theorem xb_neg {post : SX → Prop} {i p : Nat} (hW : rs_WF nc gl gr) (hi : i ≤ 48) (hp : p ≤ 48) (hpi : p ≠ i) (hf : fo i = p) (hn : nc + 80 ≤ 3937) (hb : ∀ x, x < 8 → tb (p * 8 + x) < 2 * nc) (H : ∀ nc' gl' gr' tb', rs_St (rs_Wneg tb p) i 8 80 nc gl gr tb nc' gl' gr' tb' → post ((nI lim), (nI cnt), (nI ned), (nI op), (nI cp), cy, (nI nc'), (rs_A kd), (rs_A vl), (rs_A rg), (rs_A ip), (rs_A wdf), (rs_A odf), (rs_A ws), (rs_A ost), (rs_A fo), (rs_A so), (rs_A to), (rs_A en), (rs_A ord), (rs_A res), (rs_A gl'), (rs_A gr'), (rs_A fs), (rs_A tb'), (rs_AB L))) : wpX_buildNegation post ((nI lim), (nI cnt), (nI ned), (nI op), (nI cp), cy, (nI nc), (rs_A kd), (rs_A vl), (rs_A rg), (rs_A ip), (rs_A wdf), (rs_A odf), (rs_A ws), (rs_A ost), (rs_A fo), (rs_A so), (rs_A to), (rs_A en), (rs_A ord), (rs_A res), (rs_A gl), (rs_A gr), (rs_A fs), (rs_A tb), (rs_AB L)) (nI i) :=
  ⟨pk_in i 49 (by omega), nm_r (xa_f8 hi hf) ⟨9, xb_neg_l hi hp hpi hn hb H 8 0 1 nc gl gr tb rfl (rs_st_0 (by omega) (rs_ex_r hW)) (by have := hW.1; omega) fun L z => rs_lv_b z.1 true⟩⟩
theorem xb_sum_l {post : SX → Prop} {i p q : Nat} {s : Bool} (hi : i ≤ 48) (hp : p ≤ 48) (hq : q ≤ 48) (hpi : p ≠ i) (hqi : q ≠ i) (hn : nc + 80 ≤ 3937) (hb : ∀ x, x < 8 → tb (p * 8 + x) < 2 * nc) (hb' : ∀ x, x < 8 → tb (q * 8 + x) < 2 * nc) (H : ∀ nc' gl' gr' tb', rs_St (rs_Wsum tb p q s) i 8 80 nc gl gr tb nc' gl' gr' tb' → post ((nI lim), (nI cnt), (nI ned), (nI op), (nI cp), cy, (nI nc'), (rs_A kd), (rs_A vl), (rs_A rg), (rs_A ip), (rs_A wdf), (rs_A odf), (rs_A ws), (rs_A ost), (rs_A fo), (rs_A so), (rs_A to), (rs_A en), (rs_A ord), (rs_A res), (rs_A gl'), (rs_A gr'), (rs_A fs), (rs_A tb'), (rs_AB L))) : ∀ d j c nc' gl' gr' tb', j + d = 8 → rs_St (rs_Wsum tb p q s) i j (10 * j) nc gl gr tb nc' gl' gr' tb' → c < 2 * nc' → (∀ L, rs_Md nc' gl' gr' L → rs_lv L c = rs_ch (rs_rd L tb p) (fun y => rs_rd L tb q y ^^ s) s j) → wX_buildSum_27 post (nI i) (nI s.toNat) (nI (p * 8)) (nI (q * 8)) (d + 1) (nI c) (nI j) (nI lim) (nI cnt) (nI ned) (nI op) (nI cp) cy (nI nc') (rs_A kd) (rs_A vl) (rs_A rg) (rs_A ip) (rs_A wdf) (rs_A odf) (rs_A ws) (rs_A ost) (rs_A fo) (rs_A so) (rs_A to) (rs_A en) (rs_A ord) (rs_A res) (rs_A gl') (rs_A gr') (rs_A fs) (rs_A tb') (rs_AB L) := by
  intro d
  induction d with
  | zero =>
    intro j c nc' gl' gr' tb' hj S hc hC
    have e : j = 8 := by omega
    subst e
    exact br_t xa_8t (H _ _ _ _ (rs_st_g S (by omega)))
  | succ d ih =>
    intro j c nc' gl' gr' tb' hj S hc hC
    have e1 : rs_A tb' (nI (p * 8) + nI j).toNatClampNeg = nI (tb (p * 8 + j)) := by
      rw [xa_rx hp (by omega), rs_st_rd S (by omega) hpi (by omega)]
    have e2 : rs_A tb' (nI (q * 8) + nI j).toNatClampNeg ^^^ nI s.toNat = nI (tb (q * 8 + j) ^^^ s.toNat) := by
      rw [xa_rx hq (by omega), rs_st_rd S (by omega) hqi (by omega), nx_xor]
    have g1 := S.1
    have v1 := S.2.1.1
    have b1 := hb j (by omega)
    have b2 := hb' j (by omega)
    refine br_f (xa_8f (by omega)) ⟨xa_ix hp (by omega), nm_r e1 ⟨xa_ix hq (by omega), nm_r e2 ?_⟩⟩
    refine xa_xor (tb (p * 8 + j)) (tb (q * 8 + j) ^^^ s.toNat) rfl rfl S.2.1.2.1 (by omega) (by omega) (rs_xsl s (by omega)) fun l1 nc1 gl1 gr1 G1 => ?_
    have g2 := G1.1
    have v2 := G1.2.1.1
    refine xa_xor l1 c rfl rfl G1.2.1.2.1 (by omega) G1.2.2.1 (by omega) fun l2 nc2 gl2 gr2 G2 => ?_
    have g3 := G2.1
    have v3 := G2.2.1.1
    have u3 := G2.2.2.1
    refine ⟨xa_iy hi (by omega), nm_r (xa_uy hi (by omega)) ?_⟩
    refine xa_maj (tb (p * 8 + j)) (tb (q * 8 + j) ^^^ s.toNat) c rfl rfl rfl G2.2.1.2.1 (by omega) (by omega) (rs_xsl s (by omega)) (by omega) fun l3 nc3 gl3 gr3 G3 => ?_
    have g4 := G3.1
    have v4 := G3.2.1.1
    refine nm_r (nI_1 j) ?_
    refine ih (j + 1) l3 nc3 gl3 gr3 _ (by omega) (rs_st_s S (rs_ex_t G1.2.1 (rs_ex_t G2.2.1 G3.2.1)) (by omega) (by omega) fun L z => ?_) G3.2.2.1 fun L z => ?_
    · have m2 := G3.2.1.2.2 L z
      have m1 := G2.2.1.2.2 L m2
      have m0 := G1.2.1.2.2 L m1
      rw [G2.2.2.2 L m2]
      dsimp only
      rw [G1.2.2.2 L m1]
      dsimp only
      rw [rs_lv_x, hC L m0]
      rfl
    · have m2 := G3.2.1.2.2 L z
      have m1 := G2.2.1.2.2 L m2
      have m0 := G1.2.1.2.2 L m1
      rw [G3.2.2.2 L z]
      dsimp only
      rw [rs_lv_x, hC L m0]
      rfl
theorem xb_sum {post : SX → Prop} {i p q : Nat} {s : Bool} {y : Int32} (hy : y = nI s.toNat) (hW : rs_WF nc gl gr) (hi : i ≤ 48) (hp : p ≤ 48) (hq : q ≤ 48) (hpi : p ≠ i) (hqi : q ≠ i) (hf : fo i = p) (hs : so i = q) (hn : nc + 80 ≤ 3937) (hb : ∀ x, x < 8 → tb (p * 8 + x) < 2 * nc) (hb' : ∀ x, x < 8 → tb (q * 8 + x) < 2 * nc) (H : ∀ nc' gl' gr' tb', rs_St (rs_Wsum tb p q s) i 8 80 nc gl gr tb nc' gl' gr' tb' → post ((nI lim), (nI cnt), (nI ned), (nI op), (nI cp), cy, (nI nc'), (rs_A kd), (rs_A vl), (rs_A rg), (rs_A ip), (rs_A wdf), (rs_A odf), (rs_A ws), (rs_A ost), (rs_A fo), (rs_A so), (rs_A to), (rs_A en), (rs_A ord), (rs_A res), (rs_A gl'), (rs_A gr'), (rs_A fs), (rs_A tb'), (rs_AB L))) : wpX_buildSum post ((nI lim), (nI cnt), (nI ned), (nI op), (nI cp), cy, (nI nc), (rs_A kd), (rs_A vl), (rs_A rg), (rs_A ip), (rs_A wdf), (rs_A odf), (rs_A ws), (rs_A ost), (rs_A fo), (rs_A so), (rs_A to), (rs_A en), (rs_A ord), (rs_A res), (rs_A gl), (rs_A gr), (rs_A fs), (rs_A tb), (rs_AB L)) (nI i) y := by
  subst hy
  exact ⟨pk_in i 49 (by omega), nm_r (xa_f8 hi hf) ⟨pk_in i 49 (by omega), nm_r (xa_f8 hi hs) ⟨9, xb_sum_l hi hp hq hpi hqi hn hb hb' H 8 0 s.toNat nc gl gr tb rfl (rs_st_0 (by omega) (rs_ex_r hW)) (by have := hW.1; have := Bool.toNat_le s; omega) fun L z => rs_lv_b z.1 s⟩⟩⟩
theorem xb_tr_l {post : SX → Prop} {i : Nat} (hi : i ≤ 48) : ∀ d j tb, j + d = 8 → (∀ tb', (∀ x, (x < i * 8 + j ∨ i * 8 + 8 ≤ x) → tb' x = tb x) → (∀ x, j ≤ x → x < 8 → tb' (i * 8 + x) = 0) → post ((nI lim), (nI cnt), (nI ned), (nI op), (nI cp), cy, (nI nc), (rs_A kd), (rs_A vl), (rs_A rg), (rs_A ip), (rs_A wdf), (rs_A odf), (rs_A ws), (rs_A ost), (rs_A fo), (rs_A so), (rs_A to), (rs_A en), (rs_A ord), (rs_A res), (rs_A gl), (rs_A gr), (rs_A fs), (rs_A tb'), (rs_AB L))) → wX_setTruth_12 post (nI i) (nI lim) (nI cnt) (nI ned) (nI op) (nI cp) cy (nI nc) (d + 1) (nI j) (rs_A kd) (rs_A vl) (rs_A rg) (rs_A ip) (rs_A wdf) (rs_A odf) (rs_A ws) (rs_A ost) (rs_A fo) (rs_A so) (rs_A to) (rs_A en) (rs_A ord) (rs_A res) (rs_A gl) (rs_A gr) (rs_A fs) (rs_A tb) (rs_AB L) := by
  intro d
  induction d with
  | zero =>
    intro j tb hj H
    have e : j = 8 := by omega
    subst e
    exact br_t xa_8t (H tb (fun _ _ => rfl) fun x h h' => by omega)
  | succ d ih =>
    intro j tb hj H
    refine br_f (xa_8f (by omega)) ⟨xa_iy hi (by omega), nm_r (xa_uy (x := 0) hi (by omega)) (nm_r (nI_1 j) ?_)⟩
    refine ih (j + 1) _ (by omega) fun tb' h1 h2 => H tb' (fun x hx => ?_) fun x hx hx' => ?_
    · rw [h1 x (by omega), rs_un (by omega)]
    · rcases Nat.lt_or_ge j x with q | q
      · exact h2 x (by omega) hx'
      · have e : x = j := by omega
        rw [e, h1 _ (by omega), rs_us]
theorem xb_tr {post : SX → Prop} {i l : Nat} (hi : i ≤ 48) (H : ∀ tb', (∀ x, (x < i * 8 ∨ i * 8 + 8 ≤ x) → tb' x = tb x) → tb' (i * 8) = l → (∀ x, 0 < x → x < 8 → tb' (i * 8 + x) = 0) → post ((nI lim), (nI cnt), (nI ned), (nI op), (nI cp), cy, (nI nc), (rs_A kd), (rs_A vl), (rs_A rg), (rs_A ip), (rs_A wdf), (rs_A odf), (rs_A ws), (rs_A ost), (rs_A fo), (rs_A so), (rs_A to), (rs_A en), (rs_A ord), (rs_A res), (rs_A gl), (rs_A gr), (rs_A fs), (rs_A tb'), (rs_AB L))) : wpX_setTruth post ((nI lim), (nI cnt), (nI ned), (nI op), (nI cp), cy, (nI nc), (rs_A kd), (rs_A vl), (rs_A rg), (rs_A ip), (rs_A wdf), (rs_A odf), (rs_A ws), (rs_A ost), (rs_A fo), (rs_A so), (rs_A to), (rs_A en), (rs_A ord), (rs_A res), (rs_A gl), (rs_A gr), (rs_A fs), (rs_A tb), (rs_AB L)) (nI i) (nI l) := by
  have e8 : nI i * 8 = nI (i * 8) := pk_mul i 8
  have e : upd (rs_A tb) (nI i * 8).toNatClampNeg (nI l) = rs_A (rs_u tb (i * 8) l) := by
    rw [e8, nI_clamp (by omega)]; exact rs_upd _ _ _
  refine ⟨by rw [e8]; exact vp_in_nI (by omega) (by decide), nm_r e ⟨8, ?_⟩⟩
  refine xb_tr_l hi 7 1 _ rfl fun tb' h1 h2 => H tb' (fun x hx => ?_) ?_ fun x hx hx' => h2 x hx hx'
  · rw [h1 x (by omega), rs_un (by omega)]
  · rw [h1 _ (by omega), rs_us]
theorem xb_eq_l {post : SX → Prop} {i p q : Nat} (hi : i ≤ 48) (hp : p ≤ 48) (hq : q ≤ 48) (hn : nc + 80 ≤ 3937) (hb : ∀ x, x < 8 → tb (p * 8 + x) < 2 * nc) (hb' : ∀ x, x < 8 → tb (q * 8 + x) < 2 * nc) (H : ∀ nc' gl' gr' tb', rs_St (rs_Wtr (rs_Teq tb p q)) i 8 80 nc gl gr tb nc' gl' gr' tb' → post ((nI lim), (nI cnt), (nI ned), (nI op), (nI cp), cy, (nI nc'), (rs_A kd), (rs_A vl), (rs_A rg), (rs_A ip), (rs_A wdf), (rs_A odf), (rs_A ws), (rs_A ost), (rs_A fo), (rs_A so), (rs_A to), (rs_A en), (rs_A ord), (rs_A res), (rs_A gl'), (rs_A gr'), (rs_A fs), (rs_A tb'), (rs_AB L))) : ∀ d j c nc' gl' gr', j + d = 8 → nc' ≤ nc + 4 * j → rs_Ex nc gl gr nc' gl' gr' → c < 2 * nc' → (∀ L, rs_Md nc' gl' gr' L → rs_lv L c = rs_qc (rs_rd L tb p) (rs_rd L tb q) j) → wX_buildEqual_26 post (nI i) (nI (p * 8)) (nI (q * 8)) (d + 1) (nI c) (nI j) (nI lim) (nI cnt) (nI ned) (nI op) (nI cp) cy (nI nc') (rs_A kd) (rs_A vl) (rs_A rg) (rs_A ip) (rs_A wdf) (rs_A odf) (rs_A ws) (rs_A ost) (rs_A fo) (rs_A so) (rs_A to) (rs_A en) (rs_A ord) (rs_A res) (rs_A gl') (rs_A gr') (rs_A fs) (rs_A tb) (rs_AB L) := by
  intro d
  induction d with
  | zero =>
    intro j c nc' gl' gr' hj hg hx hc hC
    have e : j = 8 := by omega
    subst e
    exact br_t xa_8t (xb_tr hi fun tb' h1 h2 h3 => H _ _ _ _ (rs_st_tr hx (by omega) hc hC h1 h2 h3))
  | succ d ih =>
    intro j c nc' gl' gr' hj hg hx hc hC
    have v1 := hx.1
    have b1 := hb j (by omega)
    have b2 := hb' j (by omega)
    refine br_f (xa_8f (by omega)) ⟨xa_ix hp (by omega), xa_ix hq (by omega), ?_⟩
    refine xa_xor (tb (p * 8 + j)) (tb (q * 8 + j)) (xa_rx hp (by omega)) (xa_rx hq (by omega)) hx.2.1 (by omega) (by omega) (by omega) fun l1 nc1 gl1 gr1 G1 => ?_
    have g2 := G1.1
    have v2 := G1.2.1.1
    refine xa_and c (l1 ^^^ 1) rfl (rs_x1I l1) G1.2.1.2.1 (by omega) (by omega) (rs_x1l G1.2.2.1) fun l2 nc2 gl2 gr2 G2 => ?_
    have g3 := G2.1
    refine nm_r (nI_1 j) (ih (j + 1) l2 nc2 gl2 gr2 (by omega) (by omega) (rs_ex_t hx (rs_ex_t G1.2.1 G2.2.1)) G2.2.2.1 fun L z => ?_)
    have m1 := G2.2.1.2.2 L z
    have m0 := G1.2.1.2.2 L m1
    rw [G2.2.2.2 L z]
    dsimp only
    rw [rs_lv_n, G1.2.2.2 L m1]
    dsimp only
    rw [hC L m0]
    rfl
theorem xb_eq {post : SX → Prop} {i p q : Nat} (hW : rs_WF nc gl gr) (hi : i ≤ 48) (hp : p ≤ 48) (hq : q ≤ 48) (hf : fo i = p) (hs : so i = q) (hn : nc + 80 ≤ 3937) (hb : ∀ x, x < 8 → tb (p * 8 + x) < 2 * nc) (hb' : ∀ x, x < 8 → tb (q * 8 + x) < 2 * nc) (H : ∀ nc' gl' gr' tb', rs_St (rs_Wtr (rs_Teq tb p q)) i 8 80 nc gl gr tb nc' gl' gr' tb' → post ((nI lim), (nI cnt), (nI ned), (nI op), (nI cp), cy, (nI nc'), (rs_A kd), (rs_A vl), (rs_A rg), (rs_A ip), (rs_A wdf), (rs_A odf), (rs_A ws), (rs_A ost), (rs_A fo), (rs_A so), (rs_A to), (rs_A en), (rs_A ord), (rs_A res), (rs_A gl'), (rs_A gr'), (rs_A fs), (rs_A tb'), (rs_AB L))) : wpX_buildEqual post ((nI lim), (nI cnt), (nI ned), (nI op), (nI cp), cy, (nI nc), (rs_A kd), (rs_A vl), (rs_A rg), (rs_A ip), (rs_A wdf), (rs_A odf), (rs_A ws), (rs_A ost), (rs_A fo), (rs_A so), (rs_A to), (rs_A en), (rs_A ord), (rs_A res), (rs_A gl), (rs_A gr), (rs_A fs), (rs_A tb), (rs_AB L)) (nI i) :=
  ⟨pk_in i 49 (by omega), nm_r (xa_f8 hi hf) ⟨pk_in i 49 (by omega), nm_r (xa_f8 hi hs) ⟨9, xb_eq_l hi hp hq hn hb hb' H 8 0 1 nc gl gr rfl (by omega) (rs_ex_r hW) (by have := hW.1; omega) fun L z => rs_lv_b z.1 true⟩⟩⟩
end
end
section
/-! the other builders -/
section
variable {lim cnt ned op cp nc : Nat} {cy : Int32} {kd vl rg ip wdf odf ws ost fo so to en ord res gl gr fs tb : Nat → Nat} {L : Nat → Bool}
theorem xb_lt_s {post : SX → Prop} {J : Int32 → Int32 → Int32 → Int32 → Int32 → Int32 → Int32 → Int32 → Int32 → (Nat → Int32) → (Nat → Int32) → (Nat → Int32) → (Nat → Int32) → (Nat → Int32) → (Nat → Int32) → (Nat → Int32) → (Nat → Int32) → (Nat → Int32) → (Nat → Int32) → (Nat → Int32) → (Nat → Int32) → (Nat → Int32) → (Nat → Int32) → (Nat → Int32) → (Nat → Int32) → (Nat → Int32) → (Nat → Int32) → (Nat → Int32) → Prop} {x1 x2 z : Int32} {p q c j : Nat} {f : Bool} (hz : z = nI f.toNat) (hW : rs_WF nc gl gr) (hp : p ≤ 48) (hq : q ≤ 48) (hj : j < 8) (hn : nc + 4 ≤ 3937) (b1 : tb (p * 8 + j) < 2 * nc) (b2 : tb (q * 8 + j) < 2 * nc) (hc : c < 2 * nc) (K : ∀ l nc' gl' gr', rs_G nc gl gr nc' gl' gr' l 4 (fun L => Bool.atLeastTwo (!(rs_rd L tb p j ^^ f)) (rs_rd L tb q j ^^ f) (rs_lv L c)) → J (nI l) (nI (j + 1)) (nI lim) (nI cnt) (nI ned) (nI op) (nI cp) cy (nI nc') (rs_A kd) (rs_A vl) (rs_A rg) (rs_A ip) (rs_A wdf) (rs_A odf) (rs_A ws) (rs_A ost) (rs_A fo) (rs_A so) (rs_A to) (rs_A en) (rs_A ord) (rs_A res) (rs_A gl') (rs_A gr') (rs_A fs) (rs_A tb) (rs_AB L)) : wX_buildLess_46 post J x1 x2 (nI (p * 8)) (nI (q * 8)) (nI c) (nI j) z (nI lim) (nI cnt) (nI ned) (nI op) (nI cp) cy (nI nc) (rs_A kd) (rs_A vl) (rs_A rg) (rs_A ip) (rs_A wdf) (rs_A odf) (rs_A ws) (rs_A ost) (rs_A fo) (rs_A so) (rs_A to) (rs_A en) (rs_A ord) (rs_A res) (rs_A gl) (rs_A gr) (rs_A fs) (rs_A tb) (rs_AB L) := by
  subst hz
  have e1 : rs_A tb (nI (p * 8) + nI j).toNatClampNeg ^^^ nI f.toNat = nI (tb (p * 8 + j) ^^^ f.toNat) := by
    rw [xa_rx hp (by omega), nx_xor]
  have e2 : rs_A tb (nI (q * 8) + nI j).toNatClampNeg ^^^ nI f.toNat = nI (tb (q * 8 + j) ^^^ f.toNat) := by
    rw [xa_rx hq (by omega), nx_xor]
  refine ⟨xa_ix hp (by omega), nm_r e1 ⟨xa_ix hq (by omega), nm_r e2 ?_⟩⟩
  refine xa_maj ((tb (p * 8 + j) ^^^ f.toNat) ^^^ 1) (tb (q * 8 + j) ^^^ f.toNat) c (rs_x1I _) rfl rfl hW (by omega) (rs_x1l (rs_xsl f b1)) (rs_xsl f b2) hc fun l nc' gl' gr' G => ?_
  refine nm_r (nI_1 j) (K l nc' gl' gr' (rs_g_F G fun L z => ?_))
  simp only [rs_lv_n, rs_lv_x]
  rfl
theorem xb_lt_l {post : SX → Prop} {i p q : Nat} {s : Bool} (hi : i ≤ 48) (hp : p ≤ 48) (hq : q ≤ 48) (hn : nc + 80 ≤ 3937) (hb : ∀ x, x < 8 → tb (p * 8 + x) < 2 * nc) (hb' : ∀ x, x < 8 → tb (q * 8 + x) < 2 * nc) (H : ∀ nc' gl' gr' tb', rs_St (rs_Wtr (rs_Tlt tb p q s)) i 8 80 nc gl gr tb nc' gl' gr' tb' → post ((nI lim), (nI cnt), (nI ned), (nI op), (nI cp), cy, (nI nc'), (rs_A kd), (rs_A vl), (rs_A rg), (rs_A ip), (rs_A wdf), (rs_A odf), (rs_A ws), (rs_A ost), (rs_A fo), (rs_A so), (rs_A to), (rs_A en), (rs_A ord), (rs_A res), (rs_A gl'), (rs_A gr'), (rs_A fs), (rs_A tb'), (rs_AB L))) : ∀ d j c nc' gl' gr', j + d = 8 → nc' ≤ nc + 4 * j → rs_Ex nc gl gr nc' gl' gr' → c < 2 * nc' → (∀ L, rs_Md nc' gl' gr' L → rs_lv L c = rs_ch (fun y => !(rs_rd L tb p y ^^ (decide (y = 7) && s))) (fun y => rs_rd L tb q y ^^ (decide (y = 7) && s)) false j) → wX_buildLess_27 post (nI i) (nI s.toNat) (nI (p * 8)) (nI (q * 8)) (d + 1) (nI c) (nI j) (nI lim) (nI cnt) (nI ned) (nI op) (nI cp) cy (nI nc') (rs_A kd) (rs_A vl) (rs_A rg) (rs_A ip) (rs_A wdf) (rs_A odf) (rs_A ws) (rs_A ost) (rs_A fo) (rs_A so) (rs_A to) (rs_A en) (rs_A ord) (rs_A res) (rs_A gl') (rs_A gr') (rs_A fs) (rs_A tb) (rs_AB L) := by
  intro d
  induction d with
  | zero =>
    intro j c nc' gl' gr' hj hg hx hc hC
    have e : j = 8 := by omega
    subst e
    exact br_t xa_8t (xb_tr hi fun tb' h1 h2 h3 => H _ _ _ _ (rs_st_tr hx (by omega) hc hC h1 h2 h3))
  | succ d ih =>
    intro j c nc' gl' gr' hj hg hx hc hC
    have v1 := hx.1
    have b1 := hb j (by omega)
    have b2 := hb' j (by omega)
    refine br_f (xa_8f (by omega)) ?_
    have K : ∀ l nc1 gl1 gr1, rs_G nc' gl' gr' nc1 gl1 gr1 l 4 (fun L => Bool.atLeastTwo (!(rs_rd L tb p j ^^ (decide (j = 7) && s))) (rs_rd L tb q j ^^ (decide (j = 7) && s)) (rs_lv L c)) → wX_buildLess_27 post (nI i) (nI s.toNat) (nI (p * 8)) (nI (q * 8)) (d + 1) (nI l) (nI (j + 1)) (nI lim) (nI cnt) (nI ned) (nI op) (nI cp) cy (nI nc1) (rs_A kd) (rs_A vl) (rs_A rg) (rs_A ip) (rs_A wdf) (rs_A odf) (rs_A ws) (rs_A ost) (rs_A fo) (rs_A so) (rs_A to) (rs_A en) (rs_A ord) (rs_A res) (rs_A gl1) (rs_A gr1) (rs_A fs) (rs_A tb) (rs_AB L) := by
      intro l nc1 gl1 gr1 G1
      have g2 := G1.1
      refine ih (j + 1) l nc1 gl1 gr1 (by omega) (by omega) (rs_ex_t hx G1.2.1) G1.2.2.1 fun L z => ?_
      rw [G1.2.2.2 L z]
      dsimp only
      rw [hC L (G1.2.1.2.2 L z)]
      rfl
    refine pk_eq j 7 (fun h => ?_) fun h => ?_
    · refine xb_lt_s (f := decide (j = 7) && s) ?_ hx.2.1 hp hq (by omega) (by omega) (by omega) (by omega) hc K
      rw [decide_eq_true h, Bool.true_and]
    · refine xb_lt_s (f := decide (j = 7) && s) ?_ hx.2.1 hp hq (by omega) (by omega) (by omega) (by omega) hc K
      rw [decide_eq_false h, Bool.false_and]
      rfl
theorem xb_lt {post : SX → Prop} {i p q : Nat} {s : Bool} {y : Int32} (hy : y = nI s.toNat) (hW : rs_WF nc gl gr) (hi : i ≤ 48) (hp : p ≤ 48) (hq : q ≤ 48) (hf : fo i = p) (hs : so i = q) (hn : nc + 80 ≤ 3937) (hb : ∀ x, x < 8 → tb (p * 8 + x) < 2 * nc) (hb' : ∀ x, x < 8 → tb (q * 8 + x) < 2 * nc) (H : ∀ nc' gl' gr' tb', rs_St (rs_Wtr (rs_Tlt tb p q s)) i 8 80 nc gl gr tb nc' gl' gr' tb' → post ((nI lim), (nI cnt), (nI ned), (nI op), (nI cp), cy, (nI nc'), (rs_A kd), (rs_A vl), (rs_A rg), (rs_A ip), (rs_A wdf), (rs_A odf), (rs_A ws), (rs_A ost), (rs_A fo), (rs_A so), (rs_A to), (rs_A en), (rs_A ord), (rs_A res), (rs_A gl'), (rs_A gr'), (rs_A fs), (rs_A tb'), (rs_AB L))) : wpX_buildLess post ((nI lim), (nI cnt), (nI ned), (nI op), (nI cp), cy, (nI nc), (rs_A kd), (rs_A vl), (rs_A rg), (rs_A ip), (rs_A wdf), (rs_A odf), (rs_A ws), (rs_A ost), (rs_A fo), (rs_A so), (rs_A to), (rs_A en), (rs_A ord), (rs_A res), (rs_A gl), (rs_A gr), (rs_A fs), (rs_A tb), (rs_AB L)) (nI i) y := by
  subst hy
  exact ⟨pk_in i 49 (by omega), nm_r (xa_f8 hi hf) ⟨pk_in i 49 (by omega), nm_r (xa_f8 hi hs) ⟨9, xb_lt_l hi hp hq hn hb hb' H 8 0 0 nc gl gr rfl (by omega) (rs_ex_r hW) (by have := hW.1; omega) fun L z => rs_lv_b z.1 false⟩⟩⟩
theorem xb_any_l {post : Int32 → SX → Prop} {p : Nat} (hp : p ≤ 48) (hn : nc + 8 ≤ 3937) (hb : ∀ x, x < 8 → tb (p * 8 + x) < 2 * nc) (H : ∀ l nc' gl' gr', rs_G nc gl gr nc' gl' gr' l 8 (fun L => rs_Tan tb p L) → post (nI l) ((nI lim), (nI cnt), (nI ned), (nI op), (nI cp), cy, (nI nc'), (rs_A kd), (rs_A vl), (rs_A rg), (rs_A ip), (rs_A wdf), (rs_A odf), (rs_A ws), (rs_A ost), (rs_A fo), (rs_A so), (rs_A to), (rs_A en), (rs_A ord), (rs_A res), (rs_A gl'), (rs_A gr'), (rs_A fs), (rs_A tb), (rs_AB L))) : ∀ d j c nc' gl' gr', j + d = 8 → rs_G nc gl gr nc' gl' gr' c j (fun L => rs_nn (rs_rd L tb p) j) → wX_anyBit_4 post (nI p) (d + 1) (nI c) (nI j) (nI lim) (nI cnt) (nI ned) (nI op) (nI cp) cy (nI nc') (rs_A kd) (rs_A vl) (rs_A rg) (rs_A ip) (rs_A wdf) (rs_A odf) (rs_A ws) (rs_A ost) (rs_A fo) (rs_A so) (rs_A to) (rs_A en) (rs_A ord) (rs_A res) (rs_A gl') (rs_A gr') (rs_A fs) (rs_A tb) (rs_AB L) := by
  intro d
  induction d with
  | zero =>
    intro j c nc' gl' gr' hj G
    have e : j = 8 := by omega
    subst e
    exact br_t xa_8t (xa_cv (P := fun r => post r _) (rs_x1I c) (H _ _ _ _ (rs_g_n G)))
  | succ d ih =>
    intro j c nc' gl' gr' hj G
    have v1 := G.2.1.1
    have g1 := G.1
    have b1 := hb j (by omega)
    have e1 : rs_A tb (nI p * 8 + nI j).toNatClampNeg ^^^ 1 = nI (tb (p * 8 + j) ^^^ 1) := by
      rw [xa_ry hp (by omega), rs_x1I]
    refine br_f (xa_8f (by omega)) ⟨xa_iy hp (by omega), ?_⟩
    refine xa_and c (tb (p * 8 + j) ^^^ 1) rfl e1 G.2.1.2.1 (by omega) G.2.2.1 (rs_x1l (by omega)) fun l1 nc1 gl1 gr1 G1 => ?_
    refine nm_r (nI_1 j) (ih (j + 1) l1 nc1 gl1 gr1 (by omega) (rs_g_F (rs_g_t G G1) fun L z => ?_))
    show (rs_lv L c && rs_lv L (tb (p * 8 + j) ^^^ 1)) = _
    rw [rs_lv_n, G.2.2.2 L (G1.2.1.2.2 L z)]
    dsimp only
    rfl
theorem xb_any {post : Int32 → SX → Prop} {p : Nat} {y : Int32} (hy : y = nI p) (hW : rs_WF nc gl gr) (hp : p ≤ 48) (hn : nc + 8 ≤ 3937) (hb : ∀ x, x < 8 → tb (p * 8 + x) < 2 * nc) (H : ∀ l nc' gl' gr', rs_G nc gl gr nc' gl' gr' l 8 (fun L => rs_Tan tb p L) → post (nI l) ((nI lim), (nI cnt), (nI ned), (nI op), (nI cp), cy, (nI nc'), (rs_A kd), (rs_A vl), (rs_A rg), (rs_A ip), (rs_A wdf), (rs_A odf), (rs_A ws), (rs_A ost), (rs_A fo), (rs_A so), (rs_A to), (rs_A en), (rs_A ord), (rs_A res), (rs_A gl'), (rs_A gr'), (rs_A fs), (rs_A tb), (rs_AB L))) : wpX_anyBit post ((nI lim), (nI cnt), (nI ned), (nI op), (nI cp), cy, (nI nc), (rs_A kd), (rs_A vl), (rs_A rg), (rs_A ip), (rs_A wdf), (rs_A odf), (rs_A ws), (rs_A ost), (rs_A fo), (rs_A so), (rs_A to), (rs_A en), (rs_A ord), (rs_A res), (rs_A gl), (rs_A gr), (rs_A fs), (rs_A tb), (rs_AB L)) y := by
  subst hy
  exact ⟨9, xb_any_l hp hn hb H 8 0 1 nc gl gr rfl ⟨by omega, rs_ex_r hW, by have := hW.1; omega, fun L z => rs_lv_b z.1 true⟩⟩
theorem xb_cho_l {post : SX → Prop} {i p q r sel : Nat} (hi : i ≤ 48) (hq : q ≤ 48) (hr : r ≤ 48) (hqi : q ≠ i) (hri : r ≠ i) (hn : nc + 80 ≤ 3937) (hb : ∀ x, x < 8 → tb (q * 8 + x) < 2 * nc) (hb' : ∀ x, x < 8 → tb (r * 8 + x) < 2 * nc) (H : ∀ nc' gl' gr' tb', rs_St (rs_Wmx (rs_Tan tb p) tb q tb r) i 8 80 nc gl gr tb nc' gl' gr' tb' → post ((nI lim), (nI cnt), (nI ned), (nI op), (nI cp), cy, (nI nc'), (rs_A kd), (rs_A vl), (rs_A rg), (rs_A ip), (rs_A wdf), (rs_A odf), (rs_A ws), (rs_A ost), (rs_A fo), (rs_A so), (rs_A to), (rs_A en), (rs_A ord), (rs_A res), (rs_A gl'), (rs_A gr'), (rs_A fs), (rs_A tb'), (rs_AB L))) : ∀ d j nc' gl' gr' tb', j + d = 8 → rs_St (rs_Wmx (rs_Tan tb p) tb q tb r) i j (8 + 3 * j) nc gl gr tb nc' gl' gr' tb' → sel < 2 * nc' → (∀ L, rs_Md nc' gl' gr' L → rs_lv L sel = rs_Tan tb p L) → wX_buildChoice_35 post (nI i) (nI sel) (nI (q * 8)) (nI (r * 8)) (d + 1) (nI j) (nI lim) (nI cnt) (nI ned) (nI op) (nI cp) cy (nI nc') (rs_A kd) (rs_A vl) (rs_A rg) (rs_A ip) (rs_A wdf) (rs_A odf) (rs_A ws) (rs_A ost) (rs_A fo) (rs_A so) (rs_A to) (rs_A en) (rs_A ord) (rs_A res) (rs_A gl') (rs_A gr') (rs_A fs) (rs_A tb') (rs_AB L) := by
  intro d
  induction d with
  | zero =>
    intro j nc' gl' gr' tb' hj S hc hC
    have e : j = 8 := by omega
    subst e
    exact br_t xa_8t (H _ _ _ _ (rs_st_g S (by omega)))
  | succ d ih =>
    intro j nc' gl' gr' tb' hj S hc hC
    have e1 : rs_A tb' (nI (q * 8) + nI j).toNatClampNeg = nI (tb (q * 8 + j)) := by
      rw [xa_rx hq (by omega), rs_st_rd S (by omega) hqi (by omega)]
    have e2 : rs_A tb' (nI (r * 8) + nI j).toNatClampNeg = nI (tb (r * 8 + j)) := by
      rw [xa_rx hr (by omega), rs_st_rd S (by omega) hri (by omega)]
    have g1 := S.1
    have v1 := S.2.1.1
    have b1 := hb j (by omega)
    have b2 := hb' j (by omega)
    refine br_f (xa_8f (by omega)) ⟨xa_ix hq (by omega), xa_ix hr (by omega), ?_⟩
    refine xa_mux sel (tb (q * 8 + j)) (tb (r * 8 + j)) rfl e1 e2 S.2.1.2.1 (by omega) hc (by omega) (by omega) fun l1 nc1 gl1 gr1 G1 => ?_
    have g2 := G1.1
    have v2 := G1.2.1.1
    refine ⟨xa_iy hi (by omega), nm_r (xa_uy hi (by omega)) (nm_r (nI_1 j) ?_)⟩
    refine ih (j + 1) nc1 gl1 gr1 _ (by omega) (rs_st_s S G1.2.1 (by omega) G1.2.2.1 fun L z => ?_) (by omega) fun L z => hC L (G1.2.1.2.2 L z)
    rw [G1.2.2.2 L z]
    dsimp only
    rw [hC L (G1.2.1.2.2 L z)]
    rfl
theorem xb_cho {post : SX → Prop} {i p q r : Nat} (hW : rs_WF nc gl gr) (hi : i ≤ 48) (hp : p ≤ 48) (hq : q ≤ 48) (hr : r ≤ 48) (hqi : q ≠ i) (hri : r ≠ i) (hf : fo i = p) (hs : so i = q) (ht : to i = r) (hn : nc + 80 ≤ 3937) (ha : ∀ x, x < 8 → tb (p * 8 + x) < 2 * nc) (hb : ∀ x, x < 8 → tb (q * 8 + x) < 2 * nc) (hb' : ∀ x, x < 8 → tb (r * 8 + x) < 2 * nc) (H : ∀ nc' gl' gr' tb', rs_St (rs_Wmx (rs_Tan tb p) tb q tb r) i 8 80 nc gl gr tb nc' gl' gr' tb' → post ((nI lim), (nI cnt), (nI ned), (nI op), (nI cp), cy, (nI nc'), (rs_A kd), (rs_A vl), (rs_A rg), (rs_A ip), (rs_A wdf), (rs_A odf), (rs_A ws), (rs_A ost), (rs_A fo), (rs_A so), (rs_A to), (rs_A en), (rs_A ord), (rs_A res), (rs_A gl'), (rs_A gr'), (rs_A fs), (rs_A tb'), (rs_AB L))) : wpX_buildChoice post ((nI lim), (nI cnt), (nI ned), (nI op), (nI cp), cy, (nI nc), (rs_A kd), (rs_A vl), (rs_A rg), (rs_A ip), (rs_A wdf), (rs_A odf), (rs_A ws), (rs_A ost), (rs_A fo), (rs_A so), (rs_A to), (rs_A en), (rs_A ord), (rs_A res), (rs_A gl), (rs_A gr), (rs_A fs), (rs_A tb), (rs_AB L)) (nI i) := by
  have e : rs_A fo (nI i).toNatClampNeg = nI p := by rw [rs_Ax i rfl (by omega), hf]
  refine ⟨pk_in i 49 (by omega), xb_any e hW hp (by omega) ha fun l nc1 gl1 gr1 G => ?_⟩
  exact ⟨pk_in i 49 (by omega), nm_r (xa_f8 hi hs) ⟨pk_in i 49 (by omega), nm_r (xa_f8 hi ht) ⟨9, xb_cho_l hi hq hr hqi hri hn hb hb' H 8 0 nc1 gl1 gr1 tb rfl (rs_st_0 (by have := G.1; omega) G.2.1) G.2.2.1 G.2.2.2⟩⟩⟩
theorem xb_reg_l {post : SX → Prop} {p q v sel : Nat} (hq : q ≤ 48) (hv : v < 8) (hn : nc + 80 ≤ 3937) (hb : ∀ x, x < 8 → tb (q * 8 + x) < 2 * nc) (hb' : ∀ x, x < 8 → fs (v * 8 + x) < 2 * nc) (H : ∀ nc' gl' gr' fs', rs_St (rs_Wmx (rs_Tan tb p) tb q fs v) v 8 80 nc gl gr fs nc' gl' gr' fs' → post ((nI lim), (nI cnt), (nI ned), (nI op), (nI cp), cy, (nI nc'), (rs_A kd), (rs_A vl), (rs_A rg), (rs_A ip), (rs_A wdf), (rs_A odf), (rs_A ws), (rs_A ost), (rs_A fo), (rs_A so), (rs_A to), (rs_A en), (rs_A ord), (rs_A res), (rs_A gl'), (rs_A gr'), (rs_A fs'), (rs_A tb), (rs_AB L))) : ∀ d j nc' gl' gr' fs', j + d = 8 → rs_St (rs_Wmx (rs_Tan tb p) tb q fs v) v j (8 + 3 * j) nc gl gr fs nc' gl' gr' fs' → sel < 2 * nc' → (∀ L, rs_Md nc' gl' gr' L → rs_lv L sel = rs_Tan tb p L) → wX_buildRegset_35 post (nI sel) (nI (q * 8)) (nI (v * 8)) (d + 1) (nI j) (nI lim) (nI cnt) (nI ned) (nI op) (nI cp) cy (nI nc') (rs_A kd) (rs_A vl) (rs_A rg) (rs_A ip) (rs_A wdf) (rs_A odf) (rs_A ws) (rs_A ost) (rs_A fo) (rs_A so) (rs_A to) (rs_A en) (rs_A ord) (rs_A res) (rs_A gl') (rs_A gr') (rs_A fs') (rs_A tb) (rs_AB L) := by
  intro d
  induction d with
  | zero =>
    intro j nc' gl' gr' fs' hj S hc hC
    have e : j = 8 := by omega
    subst e
    exact br_t xa_8t (H _ _ _ _ (rs_st_g S (by omega)))
  | succ d ih =>
    intro j nc' gl' gr' fs' hj S hc hC
    have e2 : rs_A fs' (nI (v * 8) + nI j).toNatClampNeg = nI (fs (v * 8 + j)) := by
      rw [xa_rx (by omega) (by omega), S.2.2.1 _ (Or.inr (Nat.le_refl _))]
    have iv : vp_in (nI (v * 8) + nI j) 64 := by rw [nI_add]; exact vp_in_nI (by omega) (by decide)
    have g1 := S.1
    have v1 := S.2.1.1
    have b1 := hb j (by omega)
    have b2 := hb' j (by omega)
    refine br_f (xa_8f (by omega)) ⟨xa_ix hq (by omega), iv, ?_⟩
    refine xa_mux sel (tb (q * 8 + j)) (fs (v * 8 + j)) rfl (xa_rx hq (by omega)) e2 S.2.1.2.1 (by omega) hc (by omega) (by omega) fun l1 nc1 gl1 gr1 G1 => ?_
    have g2 := G1.1
    have v2 := G1.2.1.1
    refine ⟨iv, nm_r (xa_ux (by omega) (by omega)) (nm_r (nI_1 j) ?_)⟩
    refine ih (j + 1) nc1 gl1 gr1 _ (by omega) (rs_st_s S G1.2.1 (by omega) G1.2.2.1 fun L z => ?_) (by omega) fun L z => hC L (G1.2.1.2.2 L z)
    rw [G1.2.2.2 L z]
    dsimp only
    rw [hC L (G1.2.1.2.2 L z)]
    rfl
theorem xb_reg {post : SX → Prop} {i p q v : Nat} (hW : rs_WF nc gl gr) (hi : i < 48) (hp : p ≤ 48) (hq : q ≤ 48) (hv : v < 8) (hf : fo i = p) (hs : so i = q) (hvi : vl i = v) (hn : nc + 80 ≤ 3937) (ha : ∀ x, x < 8 → tb (p * 8 + x) < 2 * nc) (hb : ∀ x, x < 8 → tb (q * 8 + x) < 2 * nc) (hb' : ∀ x, x < 8 → fs (v * 8 + x) < 2 * nc) (H : ∀ nc' gl' gr' fs', rs_St (rs_Wmx (rs_Tan tb p) tb q fs v) v 8 80 nc gl gr fs nc' gl' gr' fs' → post ((nI lim), (nI cnt), (nI ned), (nI op), (nI cp), cy, (nI nc'), (rs_A kd), (rs_A vl), (rs_A rg), (rs_A ip), (rs_A wdf), (rs_A odf), (rs_A ws), (rs_A ost), (rs_A fo), (rs_A so), (rs_A to), (rs_A en), (rs_A ord), (rs_A res), (rs_A gl'), (rs_A gr'), (rs_A fs'), (rs_A tb), (rs_AB L))) : wpX_buildRegset post ((nI lim), (nI cnt), (nI ned), (nI op), (nI cp), cy, (nI nc), (rs_A kd), (rs_A vl), (rs_A rg), (rs_A ip), (rs_A wdf), (rs_A odf), (rs_A ws), (rs_A ost), (rs_A fo), (rs_A so), (rs_A to), (rs_A en), (rs_A ord), (rs_A res), (rs_A gl), (rs_A gr), (rs_A fs), (rs_A tb), (rs_AB L)) (nI i) := by
  have e : rs_A fo (nI i).toNatClampNeg = nI p := by rw [rs_Ax i rfl (by omega), hf]
  refine ⟨pk_in i 49 (by omega), xb_any e hW hp (by omega) ha fun l nc1 gl1 gr1 G => ?_⟩
  exact ⟨pk_in i 49 (by omega), nm_r (xa_f8 (by omega) hs) ⟨pk_in i 48 (by omega), nm_r (xa_f8 (by omega) hvi) ⟨9, xb_reg_l hq hv hn hb hb' H 8 0 nc1 gl1 gr1 fs rfl (rs_st_0 (by have := G.1; omega) G.2.1) G.2.2.1 G.2.2.2⟩⟩⟩
end
end
section
/-! bitwise operators, routed literals, the choice of the builder, the loop over the tokens -/
section
variable {lim cnt ned op cp nc : Nat} {cy : Int32} {kd vl rg ip wdf odf ws ost fo so to en ord res gl gr fs tb : Nat → Nat} {L : Nat → Bool}
theorem xb_bw_w {post : SX → Prop} {J : Int32 → Int32 → Int32 → Int32 → Int32 → Int32 → Int32 → Int32 → (Nat → Int32) → (Nat → Int32) → (Nat → Int32) → (Nat → Int32) → (Nat → Int32) → (Nat → Int32) → (Nat → Int32) → (Nat → Int32) → (Nat → Int32) → (Nat → Int32) → (Nat → Int32) → (Nat → Int32) → (Nat → Int32) → (Nat → Int32) → (Nat → Int32) → (Nat → Int32) → (Nat → Int32) → (Nat → Int32) → (Nat → Int32) → Prop} {x2 x3 : Int32} {i j o : Nat} (hi : i ≤ 48) (hj : j < 8) (K : J (nI (j + 1)) (nI lim) (nI cnt) (nI ned) (nI op) (nI cp) cy (nI nc) (rs_A kd) (rs_A vl) (rs_A rg) (rs_A ip) (rs_A wdf) (rs_A odf) (rs_A ws) (rs_A ost) (rs_A fo) (rs_A so) (rs_A to) (rs_A en) (rs_A ord) (rs_A res) (rs_A gl) (rs_A gr) (rs_A fs) (rs_A (rs_u tb (i * 8 + j) o)) (rs_AB L)) : wX_buildBitwise_129 post J (nI i) x2 x3 (nI j) (nI o) (nI lim) (nI cnt) (nI ned) (nI op) (nI cp) cy (nI nc) (rs_A kd) (rs_A vl) (rs_A rg) (rs_A ip) (rs_A wdf) (rs_A odf) (rs_A ws) (rs_A ost) (rs_A fo) (rs_A so) (rs_A to) (rs_A en) (rs_A ord) (rs_A res) (rs_A gl) (rs_A gr) (rs_A fs) (rs_A tb) (rs_AB L) :=
  ⟨xa_iy hi hj, nm_r (xa_uy hi hj) (nm_r (nI_1 j) K)⟩
theorem xb_bw_l {post : SX → Prop} {i p q v : Nat} (hi : i < 48) (hp : p ≤ 48) (hq : q ≤ 48) (hpi : p ≠ i) (hv : vl i = v) (hv1 : v = 1 ∨ v = 5 ∨ v = 6 ∨ v = 7) (hqi : v ≠ 1 → q ≠ i) (hn : nc + 80 ≤ 3937) (hb : ∀ x, x < 8 → tb (p * 8 + x) < 2 * nc) (hb' : v ≠ 1 → ∀ x, x < 8 → tb (q * 8 + x) < 2 * nc) (H : ∀ nc' gl' gr' tb', rs_St (rs_Wbw tb p q v) i 8 80 nc gl gr tb nc' gl' gr' tb' → post ((nI lim), (nI cnt), (nI ned), (nI op), (nI cp), cy, (nI nc'), (rs_A kd), (rs_A vl), (rs_A rg), (rs_A ip), (rs_A wdf), (rs_A odf), (rs_A ws), (rs_A ost), (rs_A fo), (rs_A so), (rs_A to), (rs_A en), (rs_A ord), (rs_A res), (rs_A gl'), (rs_A gr'), (rs_A fs), (rs_A tb'), (rs_AB L))) : ∀ d j nc' gl' gr' tb', j + d = 8 → rs_St (rs_Wbw tb p q v) i j (3 * j) nc gl gr tb nc' gl' gr' tb' → wX_buildBitwise_23 post (nI i) (nI (p * 8)) (nI (q * 8)) (d + 1) (nI j) (nI lim) (nI cnt) (nI ned) (nI op) (nI cp) cy (nI nc') (rs_A kd) (rs_A vl) (rs_A rg) (rs_A ip) (rs_A wdf) (rs_A odf) (rs_A ws) (rs_A ost) (rs_A fo) (rs_A so) (rs_A to) (rs_A en) (rs_A ord) (rs_A res) (rs_A gl') (rs_A gr') (rs_A fs) (rs_A tb') (rs_AB L) := by
  intro d
  induction d with
  | zero =>
    intro j nc' gl' gr' tb' hj S
    have e : j = 8 := by omega
    subst e
    exact br_t xa_8t (H _ _ _ _ (rs_st_g S (by omega)))
  | succ d ih =>
    intro j nc' gl' gr' tb' hj S
    have e1 : rs_A tb' (nI (p * 8) + nI j).toNatClampNeg = nI (tb (p * 8 + j)) := by
      rw [xa_rx hp (by omega), rs_st_rd S (by omega) hpi (by omega)]
    have ev : rs_A vl (nI i).toNatClampNeg = nI v := by rw [rs_Ax i rfl (by omega), hv]
    have g1 := S.1
    have v1 := S.2.1.1
    have b1 := hb j (by omega)
    refine br_f (xa_8f (by omega)) ⟨xa_ix hp (by omega), nm_r e1 ⟨xa_ix hq (by omega), nm_r (xa_rx hq (by omega)) ⟨pk_in i 48 (by omega), nm_r ev ?_⟩⟩⟩
    rcases hv1 with h | h | h | h
    · subst h
      refine br_t (by decide) (nm_r (rs_x1I _) (xb_bw_w (by omega) (by omega) (ih (j + 1) nc' gl' gr' _ (by omega) (rs_st_s S (rs_ex_r S.2.1.2.1) (by omega) (rs_x1l (by omega)) fun L z => ?_))))
      rw [rs_lv_n]
      rfl
    all_goals
      have b2 := hb' (by omega) j (by omega)
      have e2 : tb' (q * 8 + j) = tb (q * 8 + j) := rs_st_rd S (by omega) (hqi (by omega)) (by omega)
      subst h
      rw [e2]
    · refine br_f (by decide) (br_f (by decide) (br_t rfl ?_))
      refine xa_and (tb (p * 8 + j)) (tb (q * 8 + j)) rfl rfl S.2.1.2.1 (by omega) (by omega) (by omega) fun l1 nc1 gl1 gr1 G1 => ?_
      have g2 := G1.1
      refine xb_bw_w (by omega) (by omega) (ih (j + 1) nc1 gl1 gr1 _ (by omega) (rs_st_s S G1.2.1 (by omega) G1.2.2.1 fun L z => ?_))
      rw [G1.2.2.2 L z]
      dsimp only
      rfl
    · refine br_f (by decide) (br_f (by decide) (br_f (by decide) (br_t rfl ?_)))
      refine xa_or (tb (p * 8 + j)) (tb (q * 8 + j)) rfl rfl S.2.1.2.1 (by omega) (by omega) (by omega) fun l1 nc1 gl1 gr1 G1 => ?_
      have g2 := G1.1
      refine xb_bw_w (by omega) (by omega) (ih (j + 1) nc1 gl1 gr1 _ (by omega) (rs_st_s S G1.2.1 (by omega) G1.2.2.1 fun L z => ?_))
      rw [G1.2.2.2 L z]
      dsimp only
      rfl
    · refine br_f (by decide) (br_f (by decide) (br_f (by decide) (br_f (by decide) (br_t rfl ?_))))
      refine xa_xor (tb (p * 8 + j)) (tb (q * 8 + j)) rfl rfl S.2.1.2.1 (by omega) (by omega) (by omega) fun l1 nc1 gl1 gr1 G1 => ?_
      have g2 := G1.1
      refine xb_bw_w (by omega) (by omega) (ih (j + 1) nc1 gl1 gr1 _ (by omega) (rs_st_s S G1.2.1 (by omega) G1.2.2.1 fun L z => ?_))
      rw [G1.2.2.2 L z]
      dsimp only
      rfl
theorem xb_bw {post : SX → Prop} {i p q v : Nat} (hW : rs_WF nc gl gr) (hi : i < 48) (hp : p ≤ 48) (hq : q ≤ 48) (hpi : p ≠ i) (hf : fo i = p) (hs : so i = q) (hv : vl i = v) (hv1 : v = 1 ∨ v = 5 ∨ v = 6 ∨ v = 7) (hqi : v ≠ 1 → q ≠ i) (hn : nc + 80 ≤ 3937) (hb : ∀ x, x < 8 → tb (p * 8 + x) < 2 * nc) (hb' : v ≠ 1 → ∀ x, x < 8 → tb (q * 8 + x) < 2 * nc) (H : ∀ nc' gl' gr' tb', rs_St (rs_Wbw tb p q v) i 8 80 nc gl gr tb nc' gl' gr' tb' → post ((nI lim), (nI cnt), (nI ned), (nI op), (nI cp), cy, (nI nc'), (rs_A kd), (rs_A vl), (rs_A rg), (rs_A ip), (rs_A wdf), (rs_A odf), (rs_A ws), (rs_A ost), (rs_A fo), (rs_A so), (rs_A to), (rs_A en), (rs_A ord), (rs_A res), (rs_A gl'), (rs_A gr'), (rs_A fs), (rs_A tb'), (rs_AB L))) : wpX_buildBitwise post ((nI lim), (nI cnt), (nI ned), (nI op), (nI cp), cy, (nI nc), (rs_A kd), (rs_A vl), (rs_A rg), (rs_A ip), (rs_A wdf), (rs_A odf), (rs_A ws), (rs_A ost), (rs_A fo), (rs_A so), (rs_A to), (rs_A en), (rs_A ord), (rs_A res), (rs_A gl), (rs_A gr), (rs_A fs), (rs_A tb), (rs_AB L)) (nI i) :=
  ⟨pk_in i 49 (by omega), nm_r (xa_f8 (by omega) hf) ⟨pk_in i 49 (by omega), nm_r (xa_f8 (by omega) hs) ⟨9, xb_bw_l hi hp hq hpi hv hv1 hqi hn hb hb' H 8 0 nc gl gr tb rfl (rs_st_0 (by omega) (rs_ex_r hW))⟩⟩⟩
/-- an operator -/
theorem xb_op {post : SX → Prop} {i p q r v : Nat} (hW : rs_WF nc gl gr) (hi : i < 48) (hp : p ≤ 48) (hq : q ≤ 48) (hr : r ≤ 48) (hpi : p ≠ i) (hv : vl i = v) (hv1 : 1 ≤ v) (hv2 : v ≤ 11) (hqi : v ≠ 1 → v ≠ 2 → q ≠ i) (hri : v = 11 → r ≠ i) (hf : fo i = p) (hs : so i = q) (ht : to i = r) (hn : nc + 80 ≤ 3937) (ha : ∀ x, x < 8 → tb (p * 8 + x) < 2 * nc) (hb : v ≠ 1 → v ≠ 2 → ∀ x, x < 8 → tb (q * 8 + x) < 2 * nc) (hc : v = 11 → ∀ x, x < 8 → tb (r * 8 + x) < 2 * nc) (H : ∀ nc' gl' gr' tb', rs_St (rs_Wop tb p q r v) i 8 80 nc gl gr tb nc' gl' gr' tb' → post ((nI lim), (nI cnt), (nI ned), (nI op), (nI cp), cy, (nI nc'), (rs_A kd), (rs_A vl), (rs_A rg), (rs_A ip), (rs_A wdf), (rs_A odf), (rs_A ws), (rs_A ost), (rs_A fo), (rs_A so), (rs_A to), (rs_A en), (rs_A ord), (rs_A res), (rs_A gl'), (rs_A gr'), (rs_A fs), (rs_A tb'), (rs_AB L))) : wpX_buildOperator post ((nI lim), (nI cnt), (nI ned), (nI op), (nI cp), cy, (nI nc), (rs_A kd), (rs_A vl), (rs_A rg), (rs_A ip), (rs_A wdf), (rs_A odf), (rs_A ws), (rs_A ost), (rs_A fo), (rs_A so), (rs_A to), (rs_A en), (rs_A ord), (rs_A res), (rs_A gl), (rs_A gr), (rs_A fs), (rs_A tb), (rs_AB L)) (nI i) := by
  have ev : rs_A vl (nI i).toNatClampNeg = nI v := by rw [rs_Ax i rfl (by omega), hv]
  refine ⟨pk_in i 48 (by omega), nm_r ev ?_⟩
  rcases (by omega : v = 1 ∨ v = 2 ∨ v = 3 ∨ v = 4 ∨ v = 5 ∨ v = 6 ∨ v = 7 ∨ v = 8 ∨ v = 9 ∨ v = 10 ∨ v = 11) with h | h | h | h | h | h | h | h | h | h | h <;> subst h
  · exact br_t (by decide) (xb_bw (v := 1) hW hi hp hq hpi hf hs hv (by decide) (fun z => absurd rfl z) hn ha (fun z => absurd rfl z) H)
  · exact br_f (by decide) (br_f (by decide) (br_t rfl (xb_neg hW (by omega) hp hpi hf hn ha H)))
  · exact br_f (by decide) (br_f (by decide) (br_f (by decide) (br_t rfl (xb_sum (s := false) rfl hW (by omega) hp hq hpi (hqi (by decide) (by decide)) hf hs hn ha (hb (by decide) (by decide)) H))))
  · exact br_f (by decide) (br_f (by decide) (br_f (by decide) (br_f (by decide) (br_t rfl (xb_sum (s := true) rfl hW (by omega) hp hq hpi (hqi (by decide) (by decide)) hf hs hn ha (hb (by decide) (by decide)) H)))))
  · exact br_f (by decide) (br_f (by decide) (br_f (by decide) (br_f (by decide) (br_f (by decide) (br_t rfl (xb_bw (v := 5) hW hi hp hq hpi hf hs hv (by decide) (fun z => hqi z (by decide)) hn ha (fun z => hb z (by decide)) H))))))
  · exact br_f (by decide) (br_f (by decide) (br_f (by decide) (br_f (by decide) (br_f (by decide) (br_f (by decide) (br_t rfl (xb_bw (v := 6) hW hi hp hq hpi hf hs hv (by decide) (fun z => hqi z (by decide)) hn ha (fun z => hb z (by decide)) H)))))))
  · exact br_f (by decide) (br_f (by decide) (br_f (by decide) (br_f (by decide) (br_f (by decide) (br_f (by decide) (br_f (by decide) (br_t rfl (xb_bw (v := 7) hW hi hp hq hpi hf hs hv (by decide) (fun z => hqi z (by decide)) hn ha (fun z => hb z (by decide)) H))))))))
  · exact br_f (by decide) (br_f (by decide) (br_f (by decide) (br_f (by decide) (br_f (by decide) (br_f (by decide) (br_f (by decide) (br_f (by decide) (br_t rfl (xb_eq hW (by omega) hp hq hf hs hn ha (hb (by decide) (by decide)) H)))))))))
  · exact br_f (by decide) (br_f (by decide) (br_f (by decide) (br_f (by decide) (br_f (by decide) (br_f (by decide) (br_f (by decide) (br_f (by decide) (br_f (by decide) (br_t rfl (xb_lt (s := false) rfl hW (by omega) hp hq hf hs hn ha (hb (by decide) (by decide)) H))))))))))
  · exact br_f (by decide) (br_f (by decide) (br_f (by decide) (br_f (by decide) (br_f (by decide) (br_f (by decide) (br_f (by decide) (br_f (by decide) (br_f (by decide) (br_f (by decide) (br_t rfl (xb_lt (s := true) rfl hW (by omega) hp hq hf hs hn ha (hb (by decide) (by decide)) H)))))))))))
  · exact br_f (by decide) (br_f (by decide) (br_f (by decide) (br_f (by decide) (br_f (by decide) (br_f (by decide) (br_f (by decide) (br_f (by decide) (br_f (by decide) (br_f (by decide) (br_f (by decide) (br_t rfl (xb_cho hW (by omega) hp hq hr (hqi (by decide) (by decide)) (hri rfl) hf hs ht hn ha (hb (by decide) (by decide)) (hc rfl) H))))))))))))
/-- a routed literal -/
theorem xb_rb {post : Int32 → Prop} {i j k v : Nat} (hW : rs_WF nc gl gr) (hi : i < 48) (hj : j < 8) (hk : kd i = k) (hv : vl i = v) (hk1 : k = 1 ∨ k = 2 ∨ k = 3 ∨ k = 4 ∨ k = 6 ∨ k = 7 ∨ k = 8 ∨ k = 9 ∨ k = 10) (hv2 : k = 2 → v < 4) (hv8 : k ≠ 1 → v < 8) (hvb : v < 256) (hfo : fo i ≤ 48) (hws : k = 4 → ws v ≤ 48 ∧ tb (ws v * 8 + j) < 2 * nc) (ha : 6 ≤ k → ∀ x, x < 8 → tb (fo i * 8 + x) < 2 * nc) (H : ∀ o, o < 2 * nc → (∀ L, L 0 = false → rs_lv L o = rs_Wrt tb (fo i) (ws v) k v L j) → post (nI o)) : wpX_routedBit post ((nI lim), (nI cnt), (nI ned), (nI op), (nI cp), cy, (nI nc), (rs_A kd), (rs_A vl), (rs_A rg), (rs_A ip), (rs_A wdf), (rs_A odf), (rs_A ws), (rs_A ost), (rs_A fo), (rs_A so), (rs_A to), (rs_A en), (rs_A ord), (rs_A res), (rs_A gl), (rs_A gr), (rs_A fs), (rs_A tb), (rs_AB L)) (nI i) (nI j) := by
  have w := hW.1
  have ev : rs_A vl (nI i).toNatClampNeg = nI v := by rw [rs_Ax i rfl (by omega), hv]
  have ek : rs_A kd (nI i).toNatClampNeg = nI k := by rw [rs_Ax i rfl (by omega), hk]
  refine ⟨pk_in i 48 (by omega), nm_r ev ⟨pk_in i 49 (by omega), nm_r (xa_f8 (by omega) rfl) ⟨pk_in i 48 (by omega), nm_r ek ?_⟩⟩⟩
  have D : 6 ≤ k → (∀ L, rs_rd L tb (fo i) j = rs_Wrt tb (fo i) (ws v) k v L j) → vp_in (nI (fo i * 8) + nI j) 392 ∧ post (rs_A tb (nI (fo i * 8) + nI j).toNatClampNeg) := fun h6 e =>
    ⟨xa_ix hfo hj, xa_cv (xa_rx hfo hj) (H _ (ha h6 j hj) fun L _ => e L)⟩
  rcases hk1 with h | h | h | h | h | h | h | h | h <;> subst h
  · refine br_f (by decide) (br_f (by decide) (br_t rfl ?_))
    have e : (nI v >>> (nI j &&& 31)) &&& 1 = nI (v / 2 ^ j % 2) := rs_shI (by omega) (by omega)
    refine xa_cv e (H _ (by omega) fun L h0 => ?_)
    rw [← Nat.toNat_testBit]
    exact rs_lv_b h0 _
  · refine br_f (by decide) (br_f (by decide) (br_f (by decide) (br_t rfl ?_)))
    have hv := hv2 rfl
    have e : 2 * (1 + nI v * 8 + nI j) = nI (2 * (1 + (v * 8 + j))) := by
      rw [show nI v * 8 = nI (v * 8) from pk_mul v 8, show 1 + nI (v * 8) = nI (1 + v * 8) from nI_add 1 _, nI_add, Nat.add_assoc]
      exact pk_mul 2 _
    refine xa_cv e (H _ (by omega) fun L h0 => ?_)
    exact rs_lv_2 L _
  · refine br_f (by decide) (br_f (by decide) (br_f (by decide) (br_f (by decide) (br_t rfl ?_))))
    have hv := hv8 (by decide)
    have e : 2 * (33 + nI v * 8 + nI j) = nI (2 * (33 + (v * 8 + j))) := by
      rw [show nI v * 8 = nI (v * 8) from pk_mul v 8, show 33 + nI (v * 8) = nI (33 + v * 8) from nI_add 33 _, nI_add, Nat.add_assoc]
      exact pk_mul 2 _
    refine xa_cv e (H _ (by omega) fun L h0 => ?_)
    exact rs_lv_2 L _
  · refine br_f (by decide) (br_f (by decide) (br_f (by decide) (br_f (by decide) (br_f (by decide) (br_t rfl ?_)))))
    obtain ⟨w1, w2⟩ := hws rfl
    have ew : rs_A ws (nI v).toNatClampNeg = nI (ws v) := rs_Ax v rfl (by omega)
    have hv := hv8 (by decide)
    refine ⟨pk_in v 8 hv, ?_⟩
    rw [ew]
    exact ⟨xa_iy w1 hj, xa_cv (xa_ry w1 hj) (H _ w2 fun L _ => rfl)⟩
  · refine br_f (by decide) (br_f (by decide) (br_f (by decide) (br_f (by decide) (br_f (by decide) (br_f (by decide) (br_f (by decide) (br_t rfl ?_)))))))
    have hv := hv8 (by decide)
    refine pk_lt j v (fun h => ?_) fun h => ?_
    · refine H 0 (by omega) fun L h0 => ?_
      show _ = (decide (v ≤ j) && _)
      rw [decide_eq_false (by omega), Bool.false_and]
      exact rs_lv_b h0 false
    · have e : nI (fo i * 8) + nI j - nI v = nI (fo i * 8) + nI (j - v) := by
        rw [nI_add, nI_add, pk_sub (by omega), Nat.add_sub_assoc h]
      rw [e]
      refine ⟨xa_ix hfo (by omega), xa_cv (xa_rx hfo (by omega)) (H _ (ha (by decide) _ (by omega)) fun L _ => ?_)⟩
      show _ = (decide (v ≤ j) && _)
      rw [decide_eq_true h, Bool.true_and]
      rfl
  · refine br_f (by decide) (br_f (by decide) (br_f (by decide) (br_f (by decide) (br_f (by decide) (br_f (by decide) (br_f (by decide) (br_f (by decide) (br_t rfl ?_))))))))
    have hv := hv8 (by decide)
    refine pk_le 8 (j + v) (fun h => ?_) (fun h => ?_) rfl (nI_add j v)
    · refine H 0 (by omega) fun L h0 => ?_
      show _ = (decide (j + v < 8) && _)
      rw [decide_eq_false (by omega), Bool.false_and]
      exact rs_lv_b h0 false
    · have e : nI (fo i * 8) + nI j + nI v = nI (fo i * 8) + nI (j + v) := by
        rw [nI_add, nI_add, nI_add, Nat.add_assoc]
      rw [e]
      refine ⟨xa_ix hfo (by omega), xa_cv (xa_rx hfo (by omega)) (H _ (ha (by decide) _ (by omega)) fun L _ => ?_)⟩
      show _ = (decide (j + v < 8) && _)
      rw [decide_eq_true h, Bool.true_and]
      rfl
  · refine br_f (by decide) (br_f (by decide) (br_f (by decide) (br_f (by decide) (br_f (by decide) (br_f (by decide) (br_f (by decide) (br_f (by decide) (br_f (by decide) (br_t rfl ?_)))))))))
    have hv := hv8 (by decide)
    refine pk_eq j 0 (fun h => ?_) fun h => ?_
    · refine ⟨xa_ix hfo (by omega), xa_cv (xa_rx hfo (by omega)) (H _ (ha (by decide) _ (by omega)) fun L _ => ?_)⟩
      show _ = (decide (j = 0) && _)
      rw [decide_eq_true h, Bool.true_and]
      rfl
    · refine H 0 (by omega) fun L h0 => ?_
      show _ = (decide (j = 0) && _)
      rw [decide_eq_false h, Bool.false_and]
      exact rs_lv_b h0 false
  · exact br_f (by decide) (br_t (by decide) (D (by decide) fun L => rfl))
  · exact br_f (by decide) (br_t (by decide) (D (by decide) fun L => rfl))
end
end
section
/-! the loop that builds the gates -/
section
variable {lim cnt ned op cp nc : Nat} {cy : Int32} {kd vl rg ip wdf odf ws ost fo so to en ord res gl gr fs tb : Nat → Nat} {L : Nat → Bool}
theorem xb_rt_l {post : SX → Prop} {i k v : Nat} (hW : rs_WF nc gl gr) (hi : i < 48) (hk : kd i = k) (hv : vl i = v) (hk1 : k = 1 ∨ k = 2 ∨ k = 3 ∨ k = 4 ∨ k = 6 ∨ k = 7 ∨ k = 8 ∨ k = 9 ∨ k = 10) (hv2 : k = 2 → v < 4) (hv8 : k ≠ 1 → v < 8) (hvb : v < 256) (hfo : fo i ≤ 48) (hfi : 6 ≤ k → fo i ≠ i) (hws : k = 4 → ws v ≤ 48 ∧ ws v ≠ i ∧ ∀ x, x < 8 → tb (ws v * 8 + x) < 2 * nc) (ha : 6 ≤ k → ∀ x, x < 8 → tb (fo i * 8 + x) < 2 * nc) (H : ∀ tb', rs_St (rs_Wrt tb (fo i) (ws v) k v) i 8 80 nc gl gr tb nc gl gr tb' → post ((nI lim), (nI cnt), (nI ned), (nI op), (nI cp), cy, (nI nc), (rs_A kd), (rs_A vl), (rs_A rg), (rs_A ip), (rs_A wdf), (rs_A odf), (rs_A ws), (rs_A ost), (rs_A fo), (rs_A so), (rs_A to), (rs_A en), (rs_A ord), (rs_A res), (rs_A gl), (rs_A gr), (rs_A fs), (rs_A tb'), (rs_AB L))) : ∀ d j tb', j + d = 8 → rs_St (rs_Wrt tb (fo i) (ws v) k v) i j 0 nc gl gr tb nc gl gr tb' → wX_routeBits_2 post (nI i) (nI lim) (nI cnt) (nI ned) (nI op) (nI cp) cy (nI nc) (d + 1) (nI j) (rs_A kd) (rs_A vl) (rs_A rg) (rs_A ip) (rs_A wdf) (rs_A odf) (rs_A ws) (rs_A ost) (rs_A fo) (rs_A so) (rs_A to) (rs_A en) (rs_A ord) (rs_A res) (rs_A gl) (rs_A gr) (rs_A fs) (rs_A tb') (rs_AB L) := by
  intro d
  induction d with
  | zero =>
    intro j tb' hj S
    have e : j = 8 := by omega
    subst e
    exact br_t xa_8t (H _ (rs_st_g S (by omega)))
  | succ d ih =>
    intro j tb' hj S
    have r4 : k = 4 → tb' (ws v * 8 + j) = tb (ws v * 8 + j) := fun h => rs_st_rd S (by omega) (hws h).2.1 (by omega)
    have r6 : 6 ≤ k → ∀ y, y < 8 → tb' (fo i * 8 + y) = tb (fo i * 8 + y) := fun h y hy => rs_st_rd S (by omega) (hfi h) hy
    refine br_f (xa_8f (by omega)) (xb_rb hW hi (by omega) hk hv hk1 hv2 hv8 hvb hfo (fun h => ⟨(hws h).1, by rw [r4 h]; exact (hws h).2.2 j (by omega)⟩) (fun h x hx => by rw [r6 h x hx]; exact ha h x hx) fun o ho hL => ?_)
    refine ⟨xa_iy (by omega) (by omega), nm_r (xa_uy (by omega) (by omega)) (nm_r (nI_1 j) (ih (j + 1) _ (by omega) (rs_st_s S (rs_ex_r hW) (by omega) ho fun L z => ?_)))⟩
    rw [hL L z.1]
    exact rs_Wrt_c (by omega) (by omega) (fun h => hv8 (by omega)) r4 r6
theorem xb_rt {post : SX → Prop} {i k v : Nat} (hW : rs_WF nc gl gr) (hi : i < 48) (hk : kd i = k) (hv : vl i = v) (hk1 : k = 1 ∨ k = 2 ∨ k = 3 ∨ k = 4 ∨ k = 6 ∨ k = 7 ∨ k = 8 ∨ k = 9 ∨ k = 10) (hv2 : k = 2 → v < 4) (hv8 : k ≠ 1 → v < 8) (hvb : v < 256) (hfo : fo i ≤ 48) (hfi : 6 ≤ k → fo i ≠ i) (hws : k = 4 → ws v ≤ 48 ∧ ws v ≠ i ∧ ∀ x, x < 8 → tb (ws v * 8 + x) < 2 * nc) (ha : 6 ≤ k → ∀ x, x < 8 → tb (fo i * 8 + x) < 2 * nc) (H : ∀ tb', rs_St (rs_Wrt tb (fo i) (ws v) k v) i 8 80 nc gl gr tb nc gl gr tb' → post ((nI lim), (nI cnt), (nI ned), (nI op), (nI cp), cy, (nI nc), (rs_A kd), (rs_A vl), (rs_A rg), (rs_A ip), (rs_A wdf), (rs_A odf), (rs_A ws), (rs_A ost), (rs_A fo), (rs_A so), (rs_A to), (rs_A en), (rs_A ord), (rs_A res), (rs_A gl), (rs_A gr), (rs_A fs), (rs_A tb'), (rs_AB L))) : wpX_routeBits post ((nI lim), (nI cnt), (nI ned), (nI op), (nI cp), cy, (nI nc), (rs_A kd), (rs_A vl), (rs_A rg), (rs_A ip), (rs_A wdf), (rs_A odf), (rs_A ws), (rs_A ost), (rs_A fo), (rs_A so), (rs_A to), (rs_A en), (rs_A ord), (rs_A res), (rs_A gl), (rs_A gr), (rs_A fs), (rs_A tb), (rs_AB L)) (nI i) :=
  ⟨9, xb_rt_l hW hi hk hv hk1 hv2 hv8 hvb hfo hfi hws ha H 8 0 tb rfl (rs_st_0 (by omega) (rs_ex_r hW))⟩
theorem xc_gates_l {post : SX → Prop} (P : rs_Pg kd vl en ws cnt) (hc : cnt ≤ 48) (hF : ∀ i, i < cnt → rs_LF kd vl en fo so to i) (hb : ∀ x, fo x ≤ 48 ∧ so x ≤ 48 ∧ to x ≤ 48) (ho : ∀ k, k < cnt → ord k = rs_po kd vl en k) (hw : ∀ i, i < cnt → kd i = 4 → kd (ws (vl i)) = 9) (H : ∀ nc' gl' gr' tb' fs', rs_J kd vl en ws cnt cnt nc' gl' gr' tb' fs' → post ((nI lim), (nI cnt), (nI ned), (nI op), (nI cp), cy, (nI nc'), (rs_A kd), (rs_A vl), (rs_A rg), (rs_A ip), (rs_A wdf), (rs_A odf), (rs_A ws), (rs_A ost), (rs_A fo), (rs_A so), (rs_A to), (rs_A en), (rs_A ord), (rs_A res), (rs_A gl'), (rs_A gr'), (rs_A fs'), (rs_A tb'), (rs_AB L))) : ∀ d k nc gl gr tb fs, k + d = cnt → rs_J kd vl en ws cnt k nc gl gr tb fs → wX_buildGates_34 post (d + 1) (nI k) (nI lim) (nI cnt) (nI ned) (nI op) (nI cp) cy (nI nc) (rs_A kd) (rs_A vl) (rs_A rg) (rs_A ip) (rs_A wdf) (rs_A odf) (rs_A ws) (rs_A ost) (rs_A fo) (rs_A so) (rs_A to) (rs_A en) (rs_A ord) (rs_A res) (rs_A gl) (rs_A gr) (rs_A fs) (rs_A tb) (rs_AB L) := by
  intro d
  induction d with
  | zero =>
    intro k nc gl gr tb fs hk J
    have e : k = cnt := by omega
    subst e
    exact br_t (nI_le (Nat.le_refl _) (by omega)) (H _ _ _ _ _ J)
  | succ d ih =>
    intro k nc gl gr tb fs hk J
    have hkt : k < cnt := by omega
    obtain ⟨p1, p2, p3, p4, p5⟩ := rs_po_p P.1 P.2.1 hkt
    have eo : rs_A ord (nI k).toNatClampNeg = nI (rs_po kd vl en k) := by rw [rs_Ax k rfl (by omega), ho k hkt]
    have ok := P.2.2.2.1 _ p5
    obtain ⟨g1, g2, g5, g10, g8⟩ := rs_rng ok
    obtain ⟨f1, f2, f3⟩ := hF _ p5
    have D : ∀ p, rs_dp kd vl en ws (rs_po kd vl en k) p → kd p ≠ 11 := fun p hp => rs_D P hw p5 hp
    have hlt : ∀ p, rs_dp kd vl en ws (rs_po kd vl en k) p → p ≤ 48 ∧ p ≠ rs_po kd vl en k ∧ ∀ x, x < 8 → tb (p * 8 + x) < 2 * nc := fun p hp => by
      obtain ⟨d1, d2⟩ := rs_dp_lt P p5 hp
      refine ⟨by omega, fun e => by rw [e] at d2; omega, ?_⟩
      rw [p4] at d2
      exact J.2.2.1 p d1 d2 (D p hp)
    have hn : nc + 80 ≤ 3937 := by have := J.1; omega
    obtain ⟨b1, b2, b3⟩ := hb (rs_po kd vl en k)
    have ek : rs_A kd (nI (rs_po kd vl en k)).toNatClampNeg = nI (kd (rs_po kd vl en k)) := rs_Ax _ rfl (by omega)
    obtain ⟨k1, k2, k3, k4⟩ := ok
    refine br_f (nI_ge hkt (by omega)) ⟨pk_in k 49 (by omega), nm_r eo ⟨pk_in (rs_po kd vl en k) 48 (by omega), ?_⟩⟩
    rw [ek]
    refine pk_eq (kd (rs_po kd vl en k)) 5 (fun h5 => ?_) fun h5 => ⟨pk_in (rs_po kd vl en k) 48 (by omega), pk_eq (kd (rs_po kd vl en k)) 11 (fun h11 => ?_) fun h11 => ?_⟩
    · obtain ⟨v1, v2⟩ := g5 h5
      have a1 : rs_dp kd vl en ws (rs_po kd vl en k) (rs_po kd vl en k + 1) := Or.inr (Or.inl ⟨rs_ar_6 (by omega), rfl⟩)
      have a2 : ¬ vl (rs_po kd vl en k) = 1 → ¬ vl (rs_po kd vl en k) = 2 → rs_dp kd vl en ws (rs_po kd vl en k) (en (rs_po kd vl en k + 1)) := fun n1 n2 => Or.inr (Or.inr (Or.inl ⟨rs_ar_2 h5 n1 n2 v1, rfl⟩))
      have a3 : vl (rs_po kd vl en k) = 11 → rs_dp kd vl en ws (rs_po kd vl en k) (en (en (rs_po kd vl en k + 1))) := fun n => Or.inr (Or.inr (Or.inr ⟨rs_ar_3 h5 n, rfl⟩))
      have s2 : ¬ vl (rs_po kd vl en k) = 1 → ¬ vl (rs_po kd vl en k) = 2 → so (rs_po kd vl en k) = en (rs_po kd vl en k + 1) := fun n1 n2 => f2 (rs_ar_2 h5 n1 n2 v1)
      have s3 : vl (rs_po kd vl en k) = 11 → to (rs_po kd vl en k) = en (en (rs_po kd vl en k + 1)) := fun n => f3 (rs_ar_3 h5 n)
      refine xb_op (p := rs_po kd vl en k + 1) (q := so (rs_po kd vl en k)) (r := to (rs_po kd vl en k)) J.2.1 (by omega) (hlt _ a1).1 b2 b3 (hlt _ a1).2.1 rfl v1 v2 (fun n1 n2 => by rw [s2 n1 n2]; exact (hlt _ (a2 n1 n2)).2.1) (fun n => by rw [s3 n]; exact (hlt _ (a3 n)).2.1) (f1 (rs_ar_6 (by omega))) rfl rfl hn (hlt _ a1).2.2 (fun n1 n2 => by rw [s2 n1 n2]; exact (hlt _ (a2 n1 n2)).2.2) (fun n => by rw [s3 n]; exact (hlt _ (a3 n)).2.2) fun nc' gl' gr' tb' S => ?_
      exact nm_r (nI_1 k) (ih (k + 1) nc' gl' gr' tb' fs (by omega) (rs_J_s P hkt J (by omega) S (fun ip rg R L hB hS hb hL hd => rs_W_op P p5 h5 s2 s3 hS hd) D))
    · have ar : rs_ar (kd (rs_po kd vl en k)) (vl (rs_po kd vl en k)) = 2 := by rw [h11]; rfl
      have a1 : rs_dp kd vl en ws (rs_po kd vl en k) (rs_po kd vl en k + 1) := Or.inr (Or.inl ⟨by rw [ar]; decide, rfl⟩)
      have a2 : rs_dp kd vl en ws (rs_po kd vl en k) (en (rs_po kd vl en k + 1)) := Or.inr (Or.inr (Or.inl ⟨by rw [ar]; decide, rfl⟩))
      have v8 := g8 (by omega) (by omega)
      refine xb_reg J.2.1 (by omega) (hlt _ a1).1 (hlt _ a2).1 v8 (f1 (by rw [ar]; decide)) (f2 (by rw [ar]; decide)) rfl hn (hlt _ a1).2.2 (hlt _ a2).2.2 (J.2.2.2.1 _ v8) fun nc' gl' gr' fs' S => ?_
      exact nm_r (nI_1 k) (ih (k + 1) nc' gl' gr' tb fs' (by omega) (rs_J_r P hkt J h11 S D))
    · have e6 : 6 ≤ kd (rs_po kd vl en k) → fo (rs_po kd vl en k) = rs_po kd vl en k + 1 := fun h => f1 (rs_ar_6 (by omega))
      have a1 : 6 ≤ kd (rs_po kd vl en k) → rs_dp kd vl en ws (rs_po kd vl en k) (rs_po kd vl en k + 1) := fun h => Or.inr (Or.inl ⟨rs_ar_6 (by omega), rfl⟩)
      refine xb_rt J.2.1 (by omega) rfl rfl (by omega) g2 (fun h => g8 h (by omega)) g1 b1 (fun h => by rw [e6 h]; omega) (fun h => hlt _ (Or.inl ⟨h, rfl⟩)) (fun h => by rw [e6 h]; exact (hlt _ (a1 h)).2.2) fun tb' S => ?_
      exact nm_r (nI_1 k) (ih (k + 1) nc gl gr tb' fs (by omega) (rs_J_s P hkt J (by omega) S (fun ip rg R L hB hS hb hL hd => rs_W_rt P p5 h5 e6 hS hb hd) D))
theorem xc_flops {post : SX → Prop} (H : ∀ fs', (∀ f, f < 64 → fs' f = 2 * (33 + f)) → ∃ n, wX_buildGates_34 post n 0 (nI lim) (nI cnt) (nI ned) (nI op) (nI cp) cy (nI nc) (rs_A kd) (rs_A vl) (rs_A rg) (rs_A ip) (rs_A wdf) (rs_A odf) (rs_A ws) (rs_A ost) (rs_A fo) (rs_A so) (rs_A to) (rs_A en) (rs_A ord) (rs_A res) (rs_A gl) (rs_A gr) (rs_A fs') (rs_A tb) (rs_AB L)) : ∀ d j fs, j + d = 64 → (∀ f, f < j → fs f = 2 * (33 + f)) → wX_buildGates_8 post (nI lim) (nI cnt) (nI ned) (nI op) (nI cp) cy (nI nc) (d + 1) (nI j) (rs_A kd) (rs_A vl) (rs_A rg) (rs_A ip) (rs_A wdf) (rs_A odf) (rs_A ws) (rs_A ost) (rs_A fo) (rs_A so) (rs_A to) (rs_A en) (rs_A ord) (rs_A res) (rs_A gl) (rs_A gr) (rs_A fs) (rs_A tb) (rs_AB L) := by
  intro d
  induction d with
  | zero =>
    intro j fs hj h
    have e : j = 64 := by omega
    subst e
    exact br_t (nI_le (b := 64) (Nat.le_refl 64) (by decide)) (H fs h)
  | succ d ih =>
    intro j fs hj h
    have e : upd (rs_A fs) (nI j).toNatClampNeg (2 * (33 + nI j)) = rs_A (rs_u fs j (2 * (33 + j))) := by
      rw [show 33 + nI j = nI (33 + j) from nI_add 33 j, show 2 * nI (33 + j) = nI (2 * (33 + j)) from pk_mul 2 _, nI_clamp (by omega)]
      exact rs_upd _ _ _
    refine br_f (nI_ge (b := 64) (by omega) (by decide)) ⟨pk_in j 64 (by omega), nm_r e (nm_r (nI_1 j) (ih (j + 1) _ (by omega) fun f hf => ?_))⟩
    rcases Nat.lt_or_ge f j with q | q
    · rw [rs_un (by omega)]; exact h f q
    · have e2 : f = j := by omega
      rw [e2, rs_us]
theorem xc_gates {post : SX → Prop} (P : rs_Pg kd vl en ws cnt) (hc : cnt ≤ 48) (hF : ∀ i, i < cnt → rs_LF kd vl en fo so to i) (hb : ∀ x, fo x ≤ 48 ∧ so x ≤ 48 ∧ to x ≤ 48) (ho : ∀ k, k < cnt → ord k = rs_po kd vl en k) (hw : ∀ i, i < cnt → kd i = 4 → kd (ws (vl i)) = 9) (H : ∀ nc' gl' gr' tb' fs', rs_J kd vl en ws cnt cnt nc' gl' gr' tb' fs' → post ((nI lim), (nI cnt), (nI ned), (nI op), (nI cp), cy, (nI nc'), (rs_A kd), (rs_A vl), (rs_A rg), (rs_A ip), (rs_A wdf), (rs_A odf), (rs_A ws), (rs_A ost), (rs_A fo), (rs_A so), (rs_A to), (rs_A en), (rs_A ord), (rs_A res), (rs_A gl'), (rs_A gr'), (rs_A fs'), (rs_A tb'), (rs_AB L))) : wpX_buildGates post ((nI lim), (nI cnt), (nI ned), (nI op), (nI cp), cy, (nI nc), (rs_A kd), (rs_A vl), (rs_A rg), (rs_A ip), (rs_A wdf), (rs_A odf), (rs_A ws), (rs_A ost), (rs_A fo), (rs_A so), (rs_A to), (rs_A en), (rs_A ord), (rs_A res), (rs_A gl), (rs_A gr), (rs_A fs), (rs_A tb), (rs_AB L)) :=
  ⟨65, xc_flops (nc := 97) (fun fs' hf => ⟨cnt + 1, xc_gates_l P hc hF hb ho hw H cnt 0 97 gl gr tb fs' (by omega) (rs_J_0 P hf)⟩) 64 0 fs rfl fun f hf => by omega⟩
end
end
section
/-! interpreting; the next values; the clock by interpretation -/
section
variable {lim cnt ned op cp nc : Nat} {cy : Int32} {kd vl rg ip wdf odf ws ost fo so to en ord res gl gr fs tb : Nat → Nat} {L : Nat → Bool}
theorem xo_op {post : Int32 → Prop} {v a b c : Nat} (hv1 : 1 ≤ v) (hv : v ≤ 11) (ha : a < 256) (hb : b < 256) (hc : c < 256) (H : post (nI (rs_f v a b c))) : wpX_operate post (nI v) (nI a) (nI b) (nI c) := by
  rcases (by omega : v = 1 ∨ v = 2 ∨ v = 3 ∨ v = 4 ∨ v = 5 ∨ v = 6 ∨ v = 7 ∨ v = 8 ∨ v = 9 ∨ v = 10 ∨ v = 11) with h | h | h | h | h | h | h | h | h | h | h <;> subst h
  · exact br_f (by decide) (br_f (by decide) (br_t rfl (xa_cv (show 255 - nI a = nI (255 - a) from pk_sub (a := 255) (by omega)) H)))
  · exact br_f (by decide) (br_f (by decide) (br_f (by decide) (br_t rfl (xa_cv (rs_neg a ha) H))))
  · exact br_f (by decide) (br_f (by decide) (br_f (by decide) (br_f (by decide) (br_t rfl (xa_cv (by rw [nI_add]; exact rs_m8 (by omega)) H)))))
  · exact br_f (by decide) (br_f (by decide) (br_f (by decide) (br_f (by decide) (br_f (by decide) (br_t rfl (xa_cv (rs_sb ha hb) H))))))
  · exact br_f (by decide) (br_f (by decide) (br_f (by decide) (br_f (by decide) (br_f (by decide) (br_f (by decide) (br_t rfl (xa_cv (nx_and a b) H)))))))
  · exact br_f (by decide) (br_f (by decide) (br_f (by decide) (br_f (by decide) (br_f (by decide) (br_f (by decide) (br_f (by decide) (br_t rfl (xa_cv (rs_or a b) H))))))))
  · exact br_f (by decide) (br_f (by decide) (br_f (by decide) (br_f (by decide) (br_f (by decide) (br_f (by decide) (br_f (by decide) (br_f (by decide) (br_t rfl (xa_cv (nx_xor a b) H)))))))))
  · refine br_f (by decide) (br_f (by decide) (br_f (by decide) (br_f (by decide) (br_f (by decide) (br_f (by decide) (br_f (by decide) (br_f (by decide) (br_f (by decide) (br_t rfl ?_)))))))))
    have e : rs_f 8 a b c = if a = b then 1 else 0 := rfl
    rw [e] at H
    refine pk_eq a b (fun h => ?_) fun h => ?_
    · rw [if_pos h] at H; exact H
    · rw [if_neg h] at H; exact H
  · refine br_f (by decide) (br_f (by decide) (br_f (by decide) (br_f (by decide) (br_f (by decide) (br_f (by decide) (br_f (by decide) (br_f (by decide) (br_f (by decide) (br_f (by decide) (br_t rfl ?_))))))))))
    have e : rs_f 9 a b c = if a < b then 1 else 0 := rfl
    rw [e] at H
    refine pk_le b a (fun h => ?_) fun h => ?_
    · rw [if_neg (by omega)] at H; exact H
    · rw [if_pos h] at H; exact H
  · refine br_f (by decide) (br_f (by decide) (br_f (by decide) (br_f (by decide) (br_f (by decide) (br_f (by decide) (br_f (by decide) (br_f (by decide) (br_f (by decide) (br_f (by decide) (br_f (by decide) (br_t rfl ?_)))))))))))
    have e : rs_f 10 a b c = if a ^^^ 128 < b ^^^ 128 then 1 else 0 := rfl
    rw [e] at H
    have x1 : a ^^^ 128 < 2 ^ 8 := Nat.xor_lt_two_pow (n := 8) ha (by decide)
    have x2 : b ^^^ 128 < 2 ^ 8 := Nat.xor_lt_two_pow (n := 8) hb (by decide)
    refine pk_le (b ^^^ 128) (a ^^^ 128) (fun h => ?_) (fun h => ?_) (nx_xor b 128) (nx_xor a 128) (Nat.lt_of_lt_of_le x2 (by decide)) (Nat.lt_of_lt_of_le x1 (by decide))
    · rw [if_neg (Nat.not_lt.mpr h)] at H; exact H
    · rw [if_pos h] at H; exact H
  · refine br_f (by decide) (br_t (by decide) ?_)
    have e : rs_f 11 a b c = if a = 0 then c else b := rfl
    rw [e] at H
    refine pk_eq a 0 (fun h => ?_) fun h => ?_
    · rw [if_pos h] at H; exact H
    · rw [if_neg h] at H; exact H
theorem xo_me {post : Int32 → Prop} {i : Nat} (hi : i < 48) (ok : rs_ok (kd i) (vl i)) (hF : rs_LF kd vl en fo so to i) (hb : fo i ≤ 48 ∧ so i ≤ 48 ∧ to i ≤ 48) (hw : kd i = 4 → ws (vl i) ≤ 48) (hr : ∀ p, res p < 256) (H : post (nI (rs_me kd vl en ws ip rg res i))) : wpX_meaningOf post ((nI lim), (nI cnt), (nI ned), (nI op), (nI cp), cy, (nI nc), (rs_A kd), (rs_A vl), (rs_A rg), (rs_A ip), (rs_A wdf), (rs_A odf), (rs_A ws), (rs_A ost), (rs_A fo), (rs_A so), (rs_A to), (rs_A en), (rs_A ord), (rs_A res), (rs_A gl), (rs_A gr), (rs_A fs), (rs_A tb), (rs_AB L)) (nI i) := by
  obtain ⟨g1, g2, g5, g10, g8⟩ := rs_rng ok
  obtain ⟨f1, f2, f3⟩ := hF
  obtain ⟨k1, k2, k3, k4⟩ := ok
  obtain ⟨b1, b2, b3⟩ := hb
  have ev : rs_A vl (nI i).toNatClampNeg = nI (vl i) := rs_Ax i rfl (by omega)
  have ek : rs_A kd (nI i).toNatClampNeg = nI (kd i) := rs_Ax i rfl (by omega)
  have ef : rs_A fo (nI i).toNatClampNeg = nI (fo i) := rs_Ax i rfl (by omega)
  have es : rs_A so (nI i).toNatClampNeg = nI (so i) := rs_Ax i rfl (by omega)
  have et : rs_A to (nI i).toNatClampNeg = nI (to i) := rs_Ax i rfl (by omega)
  have i1 : vp_in (rs_A fo (nI i).toNatClampNeg) 49 := by rw [ef]; exact vp_in_nI (by omega) (by decide)
  have i2 : vp_in (rs_A so (nI i).toNatClampNeg) 49 := by rw [es]; exact vp_in_nI (by omega) (by decide)
  have i3 : vp_in (rs_A to (nI i).toNatClampNeg) 49 := by rw [et]; exact vp_in_nI (by omega) (by decide)
  have e1 : rs_A res (rs_A fo (nI i).toNatClampNeg).toNatClampNeg = nI (res (fo i)) := rs_Ax _ ef (by omega)
  have e2 : rs_A res (rs_A so (nI i).toNatClampNeg).toNatClampNeg = nI (res (so i)) := rs_Ax _ es (by omega)
  have e3 : rs_A res (rs_A to (nI i).toNatClampNeg).toNatClampNeg = nI (res (to i)) := rs_Ax _ et (by omega)
  have a1 := hr (fo i)
  unfold rs_me at H
  refine ⟨pk_in i 48 hi, nm_r ev ⟨pk_in i 49 (by omega), i1, nm_r e1 ⟨pk_in i 48 hi, nm_r ek ?_⟩⟩⟩
  rcases (by omega : kd i = 1 ∨ kd i = 2 ∨ kd i = 3 ∨ kd i = 4 ∨ kd i = 5 ∨ kd i = 6 ∨ kd i = 7 ∨ kd i = 8 ∨ 9 ≤ kd i) with h | h | h | h | h | h | h | h | h
  · rw [h] at H ⊢
    exact br_f (by decide) (br_f (by decide) (br_t rfl H))
  · have := g2 h
    rw [h] at H ⊢
    exact br_f (by decide) (br_f (by decide) (br_f (by decide) (br_t rfl ⟨pk_in (vl i) 4 (by omega), xa_cv (rs_Ax _ rfl (by omega)) H⟩)))
  · have := g8 (by omega) (by omega)
    rw [h] at H ⊢
    exact br_f (by decide) (br_f (by decide) (br_f (by decide) (br_f (by decide) (br_t rfl ⟨pk_in (vl i) 8 (by omega), xa_cv (rs_Ax _ rfl (by omega)) H⟩))))
  · have := g8 (by omega) (by omega)
    have w := hw h
    have ew : rs_A ws (nI (vl i)).toNatClampNeg = nI (ws (vl i)) := rs_Ax _ rfl (by omega)
    rw [h] at H ⊢
    exact br_f (by decide) (br_f (by decide) (br_f (by decide) (br_f (by decide) (br_f (by decide) (br_t rfl ⟨pk_in (vl i) 8 (by omega), by rw [ew]; exact vp_in_nI (by omega) (by decide), xa_cv (rs_Ax _ ew (by omega)) H⟩)))))
  · obtain ⟨v1, v2⟩ := g5 h
    have s1 := f1 (rs_ar_6 (by omega))
    have eq : rs_f (vl i) (res (i + 1)) (res (en (i + 1))) (res (en (en (i + 1)))) = rs_f (vl i) (res (fo i)) (res (so i)) (res (to i)) := by
      rw [s1]
      exact rs_f_c v1 v2 (fun n1 n2 => by rw [f2 (rs_ar_2 h n1 n2 v1)]) fun n => by rw [f3 (rs_ar_3 h n)]
    rw [h] at H ⊢
    refine br_f (by decide) (br_f (by decide) (br_f (by decide) (br_f (by decide) (br_f (by decide) (br_f (by decide) (br_t rfl ⟨pk_in i 49 (by omega), i2, pk_in i 49 (by omega), i3, ?_⟩))))))
    rw [e2, e3]
    refine xo_op v1 v2 a1 (hr _) (hr _) ?_
    rw [← eq]
    exact H
  all_goals have s1 := f1 (rs_ar_6 (by omega))
  · have := g8 (by omega) (by omega)
    rw [h, ← s1] at H
    rw [h]
    exact br_f (by decide) (br_f (by decide) (br_f (by decide) (br_f (by decide) (br_f (by decide) (br_f (by decide) (br_f (by decide) (br_t rfl (xa_cv (rs_shl8 a1 (by omega)) H))))))))
  · have := g8 (by omega) (by omega)
    rw [h, ← s1] at H
    rw [h]
    exact br_f (by decide) (br_f (by decide) (br_f (by decide) (br_f (by decide) (br_f (by decide) (br_f (by decide) (br_f (by decide) (br_f (by decide) (br_t rfl (xa_cv (rs_shrI (by omega) (by omega)) H)))))))))
  · have := g8 (by omega) (by omega)
    rw [h, ← s1] at H
    rw [h]
    exact br_f (by decide) (br_f (by decide) (br_f (by decide) (br_f (by decide) (br_f (by decide) (br_f (by decide) (br_f (by decide) (br_f (by decide) (br_f (by decide) (br_t rfl (xa_cv (rs_shI (by omega) (by omega)) H))))))))))
  · rw [if_neg (by omega), if_neg (by omega), if_neg (by omega), if_neg (by omega), if_neg (by omega), if_neg (by omega), if_neg (by omega), if_neg (by omega), ← s1] at H
    exact br_f (nI_nlt (b := 1) (by omega) (by omega)) (br_t (nI_lt (a := 8) (by omega) (by omega)) H)
theorem xo_int_l {post : SX → Prop} (hc : cnt ≤ 48) (hO : ∀ i, i < cnt → rs_ok (kd i) (vl i)) (hF : ∀ i, i < cnt → rs_LF kd vl en fo so to i) (hb : ∀ x, fo x ≤ 48 ∧ so x ≤ 48 ∧ to x ≤ 48) (ho : ∀ k, k < cnt → ord k = rs_po kd vl en k ∧ rs_po kd vl en k < cnt) (hw : ∀ i, i < cnt → kd i = 4 → ws (vl i) ≤ 48) (hB : rs_B ip rg) (H : (∀ p, rs_RS kd vl en ws ip rg res cnt p < 256) → post ((nI lim), (nI cnt), (nI ned), (nI op), (nI cp), cy, (nI nc), (rs_A kd), (rs_A vl), (rs_A rg), (rs_A ip), (rs_A wdf), (rs_A odf), (rs_A ws), (rs_A ost), (rs_A fo), (rs_A so), (rs_A to), (rs_A en), (rs_A ord), (rs_A (rs_RS kd vl en ws ip rg res cnt)), (rs_A gl), (rs_A gr), (rs_A fs), (rs_A tb), (rs_AB L))) : ∀ d k, k + d = cnt → (∀ p, rs_RS kd vl en ws ip rg res k p < 256) → wX_interpret_2 post (nI lim) (nI cnt) (nI ned) (nI op) (nI cp) cy (nI nc) (d + 1) (nI k) (rs_A kd) (rs_A vl) (rs_A rg) (rs_A ip) (rs_A wdf) (rs_A odf) (rs_A ws) (rs_A ost) (rs_A fo) (rs_A so) (rs_A to) (rs_A en) (rs_A ord) (rs_A (rs_RS kd vl en ws ip rg res k)) (rs_A gl) (rs_A gr) (rs_A fs) (rs_A tb) (rs_AB L) := by
  intro d
  induction d with
  | zero =>
    intro k hk hr
    have e : k = cnt := by omega
    subst e
    exact br_t (nI_le (Nat.le_refl _) (by omega)) (H hr)
  | succ d ih =>
    intro k hk hr
    obtain ⟨o1, o2⟩ := ho k (by omega)
    have eo : rs_A ord (nI k).toNatClampNeg = nI (rs_po kd vl en k) := by rw [rs_Ax k rfl (by omega), o1]
    have eu : upd (rs_A (rs_RS kd vl en ws ip rg res k)) (nI (rs_po kd vl en k)).toNatClampNeg (nI (rs_me kd vl en ws ip rg (rs_RS kd vl en ws ip rg res k) (rs_po kd vl en k))) = rs_A (rs_RS kd vl en ws ip rg res (k + 1)) := by
      rw [nI_clamp (by omega)]; exact rs_upd _ _ _
    refine br_f (nI_ge (by omega) (by omega)) ⟨pk_in k 49 (by omega), nm_r eo (xo_me (by omega) (hO _ o2) (hF _ o2) (hb _) (hw _ o2) hr ?_)⟩
    refine ⟨pk_in (rs_po kd vl en k) 49 (by omega), nm_r eu (nm_r (nI_1 k) (ih (k + 1) (by omega) fun p => ?_))⟩
    by_cases e : p = rs_po kd vl en k
    · rw [e]; exact Nat.lt_of_le_of_lt (Nat.le_of_eq rs_us) (rs_me_lt (hO _ o2) hB hr)
    · exact Nat.lt_of_le_of_lt (Nat.le_of_eq (rs_un e)) (hr p)
/-- what holds once compiled -/
def rs_C (cnt : Nat) (kd vl ws fo so to en ord : Nat → Nat) (nc : Nat) (gl gr fs tb : Nat → Nat) : Prop := rs_Pg kd vl en ws cnt ∧ (∀ i, i < cnt → rs_LF kd vl en fo so to i) ∧ (∀ x, fo x ≤ 48 ∧ so x ≤ 48 ∧ to x ≤ 48) ∧ (∀ k, k < cnt → ord k = rs_po kd vl en k) ∧ rs_J kd vl en ws cnt cnt nc gl gr tb fs
theorem xo_int {post : SX → Prop} (hc : cnt ≤ 48) (C : rs_C cnt kd vl ws fo so to en ord nc gl gr fs tb) (hB : rs_B ip rg) (hr : ∀ p, res p < 256) (H : ∀ R, rs_So kd vl en ws ip rg cnt R → (∀ p, R p < 256) → post ((nI lim), (nI cnt), (nI ned), (nI op), (nI cp), cy, (nI nc), (rs_A kd), (rs_A vl), (rs_A rg), (rs_A ip), (rs_A wdf), (rs_A odf), (rs_A ws), (rs_A ost), (rs_A fo), (rs_A so), (rs_A to), (rs_A en), (rs_A ord), (rs_A R), (rs_A gl), (rs_A gr), (rs_A fs), (rs_A tb), (rs_AB L))) : wpX_interpret post ((nI lim), (nI cnt), (nI ned), (nI op), (nI cp), cy, (nI nc), (rs_A kd), (rs_A vl), (rs_A rg), (rs_A ip), (rs_A wdf), (rs_A odf), (rs_A ws), (rs_A ost), (rs_A fo), (rs_A so), (rs_A to), (rs_A en), (rs_A ord), (rs_A res), (rs_A gl), (rs_A gr), (rs_A fs), (rs_A tb), (rs_AB L)) := by
  obtain ⟨P, hF, hb, ho, J⟩ := C
  exact ⟨cnt + 1, xo_int_l hc P.2.2.2.1 hF hb (fun k hk => ⟨ho k hk, (rs_po_p P.1 P.2.1 hk).2.2.2.2⟩) (fun i hi h => by
    obtain ⟨j, j1, j2, j3⟩ := P.2.2.1 i hi h
    omega) hB (fun h => H _ (rs_RS_so P ip rg res) h) cnt 0 (by omega) hr⟩
theorem xo_nx_l {post : Int32 → Prop} {r : Nat} {rg0 : Nat → Nat} (hr8 : r < 8) (hc : cnt ≤ 48) (hO : ∀ i, i < cnt → rs_ok (kd i) (vl i)) (hF : ∀ i, i < cnt → rs_LF kd vl en fo so to i) (hb : ∀ x, fo x ≤ 48 ∧ so x ≤ 48 ∧ to x ≤ 48) (hr : ∀ p, res p < 256) (H : post (nI (rs_nz kd vl en res rg0 r cnt))) : ∀ d k, k + d = cnt → wX_nextOf_9 post (nI r) (nI lim) (nI cnt) (nI ned) (nI op) (nI cp) cy (nI nc) (rs_A kd) (rs_A vl) (rs_A rg) (rs_A ip) (rs_A wdf) (rs_A odf) (rs_A ws) (rs_A ost) (rs_A fo) (rs_A so) (rs_A to) (rs_A en) (rs_A ord) (rs_A res) (rs_A gl) (rs_A gr) (rs_A fs) (rs_A tb) (rs_AB L) (d + 1) (nI (rs_nz kd vl en res rg0 r k)) (nI k) := by
  intro d
  induction d with
  | zero =>
    intro k hk
    have e : k = cnt := by omega
    subst e
    exact br_t (nI_le (Nat.le_refl _) (by omega)) H
  | succ d ih =>
    intro k hk
    obtain ⟨g1, g2, g5, g10, g8⟩ := rs_rng (hO k (by omega))
    obtain ⟨f1, f2, f3⟩ := hF k (by omega)
    obtain ⟨b1, b2, b3⟩ := hb k
    obtain ⟨k1, k2, k3, k4⟩ := hO k (by omega)
    have ev : rs_A vl (nI k).toNatClampNeg = nI (vl k) := rs_Ax k rfl (by omega)
    have ek : rs_A kd (nI k).toNatClampNeg = nI (kd k) := rs_Ax k rfl (by omega)
    have ef : rs_A fo (nI k).toNatClampNeg = nI (fo k) := rs_Ax k rfl (by omega)
    have es : rs_A so (nI k).toNatClampNeg = nI (so k) := rs_Ax k rfl (by omega)
    have i1 : vp_in (rs_A fo (nI k).toNatClampNeg) 49 := by rw [ef]; exact vp_in_nI (by omega) (by decide)
    have i2 : vp_in (rs_A so (nI k).toNatClampNeg) 49 := by rw [es]; exact vp_in_nI (by omega) (by decide)
    have e1 : rs_A res (rs_A fo (nI k).toNatClampNeg).toNatClampNeg = nI (res (fo k)) := rs_Ax _ ef (by omega)
    have e2 : rs_A res (rs_A so (nI k).toNatClampNeg).toNatClampNeg = nI (res (so k)) := rs_Ax _ es (by omega)
    have a1 := hr (fo k)
    have N := ih (k + 1) (by omega)
    have K : ¬ (kd k = 11 ∧ vl k = r ∧ res (k + 1) ≠ 0) → wX_nextOf_9 post (nI r) (nI lim) (nI cnt) (nI ned) (nI op) (nI cp) cy (nI nc) (rs_A kd) (rs_A vl) (rs_A rg) (rs_A ip) (rs_A wdf) (rs_A odf) (rs_A ws) (rs_A ost) (rs_A fo) (rs_A so) (rs_A to) (rs_A en) (rs_A ord) (rs_A res) (rs_A gl) (rs_A gr) (rs_A fs) (rs_A tb) (rs_AB L) (d + 1) (nI (rs_nz kd vl en res rg0 r k)) (nI (k + 1)) := fun z => by
      have e : rs_nz kd vl en res rg0 r (k + 1) = rs_nz kd vl en res rg0 r k := if_neg z
      rw [e] at N
      exact N
    refine br_f (nI_ge (by omega) (by omega)) ⟨pk_in k 48 (by omega), ?_⟩
    refine pk_eq (kd k) 11 (fun h => ⟨pk_in k 48 (by omega), pk_eq (vl k) r (fun h' => ⟨pk_in k 49 (by omega), i1, ?_⟩) (fun h' => nm_r (nI_1 k) (K fun z => h' z.2.1)) ev rfl⟩) (fun h => nm_r (nI_1 k) (K fun z => h z.1)) ek rfl
    have ar : rs_ar (kd k) (vl k) = 2 := by rw [h]; rfl
    have s1 := f1 (by rw [ar]; decide)
    have s2 := f2 (by rw [ar]; decide)
    refine pk_eq (res (fo k)) 0 (fun z => nm_r (nI_1 k) (K fun y => y.2.2 (by rw [← s1]; exact z))) (fun z => ⟨pk_in k 49 (by omega), i2, nm_r e2 (nm_r (nI_1 k) ?_)⟩) e1 rfl
    have e : rs_nz kd vl en res rg0 r (k + 1) = res (so k) := by
      rw [s2]
      exact if_pos ⟨h, h', by rw [← s1]; exact z⟩
    rw [e] at N
    exact N
end
end
section
/-! the clock, by interpretation and by gates -/
def rs_nj (kd vl en R rg : Nat → Nat) (t j : Nat) : Nat → Nat := fun r => if r < j then rs_nz kd vl en R rg r t else rg r
theorem rs_nj_0 (kd vl en R rg : Nat → Nat) (t : Nat) : rs_nj kd vl en R rg t 0 = rg := funext fun r => if_neg (by omega)
theorem rs_nj_s (kd vl en R rg : Nat → Nat) (t j : Nat) : rs_u (rs_nj kd vl en R rg t j) j (rs_nz kd vl en R rg j t) = rs_nj kd vl en R rg t (j + 1) := by
  funext r
  unfold rs_u rs_nj
  by_cases h : r = j
  · rw [if_pos h, if_pos (by omega), h]
  · rw [if_neg h]
    exact rs_ite_i (by omega)
def rs_N (kd vl en ws ip : Nat → Nat) (t : Nat) (rg : Nat → Nat) : Nat → Nat := rs_nx kd vl en (rs_RS kd vl en ws ip rg (fun _ => 0) t) rg t
theorem rs_N_e {kd vl en ws ip rg R : Nat → Nat} {t : Nat} (P : rs_Pg kd vl en ws t) (h : rs_So kd vl en ws ip rg t R) : rs_nj kd vl en R rg t 8 = rs_N kd vl en ws ip t rg := rs_nx_u P h (rs_RS_so P ip rg _)
theorem rs_N_B {kd vl en ws ip rg : Nat → Nat} {t : Nat} (P : rs_Pg kd vl en ws t) (hB : rs_B ip rg) : rs_B ip (rs_N kd vl en ws ip t rg) :=
  ⟨hB.1, fun r => rs_it (P := fun x => x < 256) (fun _ => rs_nz_lt P hB (rs_RS_so P ip rg _) r t (Nat.le_refl _)) fun _ => hB.2 r⟩
def rs_NN (kd vl en ws ip : Nat → Nat) (t : Nat) (rg : Nat → Nat) : Nat → (Nat → Nat)
  | 0 => rg
  | c + 1 => rs_N kd vl en ws ip t (rs_NN kd vl en ws ip t rg c)
section
variable {lim cnt ned op cp nc : Nat} {cy : Int32} {kd vl rg ip wdf odf ws ost fo so to en ord res gl gr fs tb : Nat → Nat} {L : Nat → Bool}
theorem xo_next {post : Int32 → Prop} {r : Nat} {rg0 : Nat → Nat} (hr8 : r < 8) (hg : rg r = rg0 r) (hc : cnt ≤ 48) (C : rs_C cnt kd vl ws fo so to en ord nc gl gr fs tb) (hr : ∀ p, res p < 256) (H : post (nI (rs_nz kd vl en res rg0 r cnt))) : wpX_nextOf post ((nI lim), (nI cnt), (nI ned), (nI op), (nI cp), cy, (nI nc), (rs_A kd), (rs_A vl), (rs_A rg), (rs_A ip), (rs_A wdf), (rs_A odf), (rs_A ws), (rs_A ost), (rs_A fo), (rs_A so), (rs_A to), (rs_A en), (rs_A ord), (rs_A res), (rs_A gl), (rs_A gr), (rs_A fs), (rs_A tb), (rs_AB L)) (nI r) := by
  obtain ⟨P, hF, hb, ho, J⟩ := C
  have e : rs_A rg (nI r).toNatClampNeg = nI (rs_nz kd vl en res rg0 r 0) := by rw [rs_Ax r rfl (by omega), hg]; rfl
  exact ⟨pk_in r 8 hr8, nm_r e ⟨cnt + 1, xo_nx_l hr8 hc P.2.2.2.1 hF hb hr H cnt 0 (by omega)⟩⟩
theorem xo_rtl_l {post : SX → Prop} (hc : cnt ≤ 48) (C : rs_C cnt kd vl ws fo so to en ord nc gl gr fs tb) (hr : ∀ p, res p < 256) (H : post ((nI lim), (nI cnt), (nI ned), (nI op), (nI cp), cy, (nI nc), (rs_A kd), (rs_A vl), (rs_A (rs_nj kd vl en res rg cnt 8)), (rs_A ip), (rs_A wdf), (rs_A odf), (rs_A ws), (rs_A ost), (rs_A fo), (rs_A so), (rs_A to), (rs_A en), (rs_A ord), (rs_A res), (rs_A gl), (rs_A gr), (rs_A fs), (rs_A tb), (rs_AB L))) : ∀ d j, j + d = 8 → wX_clockRtl_6 post (nI lim) (nI cnt) (nI ned) (nI op) (nI cp) cy (nI nc) (d + 1) (nI j) (rs_A kd) (rs_A vl) (rs_A (rs_nj kd vl en res rg cnt j)) (rs_A ip) (rs_A wdf) (rs_A odf) (rs_A ws) (rs_A ost) (rs_A fo) (rs_A so) (rs_A to) (rs_A en) (rs_A ord) (rs_A res) (rs_A gl) (rs_A gr) (rs_A fs) (rs_A tb) (rs_AB L) := by
  intro d
  induction d with
  | zero =>
    intro j hj
    have e : j = 8 := by omega
    subst e
    exact br_t xa_8t H
  | succ d ih =>
    intro j hj
    have eu : upd (rs_A (rs_nj kd vl en res rg cnt j)) (nI j).toNatClampNeg (nI (rs_nz kd vl en res rg j cnt)) = rs_A (rs_nj kd vl en res rg cnt (j + 1)) := by
      rw [nI_clamp (by omega), rs_upd, rs_nj_s]
    refine br_f (xa_8f (by omega)) (xo_next (rg0 := rg) (by omega) (if_neg (by omega)) hc C hr ?_)
    exact ⟨pk_in j 8 (by omega), nm_r eu (nm_r (nI_1 j) (ih (j + 1) (by omega)))⟩
theorem xo_rtl {post : SX → Prop} (hc : cnt ≤ 48) (C : rs_C cnt kd vl ws fo so to en ord nc gl gr fs tb) (hB : rs_B ip rg) (hr : ∀ p, res p < 256) (H : ∀ R, (∀ p, R p < 256) → post ((nI lim), (nI cnt), (nI ned), (nI op), (nI cp), cy, (nI nc), (rs_A kd), (rs_A vl), (rs_A (rs_N kd vl en ws ip cnt rg)), (rs_A ip), (rs_A wdf), (rs_A odf), (rs_A ws), (rs_A ost), (rs_A fo), (rs_A so), (rs_A to), (rs_A en), (rs_A ord), (rs_A R), (rs_A gl), (rs_A gr), (rs_A fs), (rs_A tb), (rs_AB L))) : wpX_clockRtl post ((nI lim), (nI cnt), (nI ned), (nI op), (nI cp), cy, (nI nc), (rs_A kd), (rs_A vl), (rs_A rg), (rs_A ip), (rs_A wdf), (rs_A odf), (rs_A ws), (rs_A ost), (rs_A fo), (rs_A so), (rs_A to), (rs_A en), (rs_A ord), (rs_A res), (rs_A gl), (rs_A gr), (rs_A fs), (rs_A tb), (rs_AB L)) := by
  unfold wpX_clockRtl
  refine xo_int hc C hB hr fun R hS hR => ?_
  have K := H R hR
  rw [← rs_N_e C.1 hS] at K
  have W := xo_rtl_l (res := R) (rg := rg) (op := op) (cp := cp) (cy := cy) (lim := lim) (ned := ned) (wdf := wdf) (odf := odf) (ost := ost) (L := L) (ip := ip) hc C hR K 8 0 rfl
  rw [rs_nj_0] at W
  exact ⟨9, W⟩
theorem xo_spr_l {post : SX → Prop} {v f : Nat} (hv : v < 256) (hf : f + 8 ≤ 3937) (H : post ((nI lim), (nI cnt), (nI ned), (nI op), (nI cp), cy, (nI nc), (rs_A kd), (rs_A vl), (rs_A rg), (rs_A ip), (rs_A wdf), (rs_A odf), (rs_A ws), (rs_A ost), (rs_A fo), (rs_A so), (rs_A to), (rs_A en), (rs_A ord), (rs_A res), (rs_A gl), (rs_A gr), (rs_A fs), (rs_A tb), (rs_AB (rs_sp L v f 8)))) : ∀ d j, j + d = 8 → wX_spreadBits_2 post (nI v) (nI f) (nI lim) (nI cnt) (nI ned) (nI op) (nI cp) cy (nI nc) (d + 1) (nI j) (rs_A kd) (rs_A vl) (rs_A rg) (rs_A ip) (rs_A wdf) (rs_A odf) (rs_A ws) (rs_A ost) (rs_A fo) (rs_A so) (rs_A to) (rs_A en) (rs_A ord) (rs_A res) (rs_A gl) (rs_A gr) (rs_A fs) (rs_A tb) (rs_AB (rs_sp L v f j)) := by
  intro d
  induction d with
  | zero =>
    intro j hj
    have e : j = 8 := by omega
    subst e
    exact br_t xa_8t H
  | succ d ih =>
    intro j hj
    have eu : upd (rs_AB (rs_sp L v f j)) (nI f + nI j).toNatClampNeg ((nI v >>> (nI j &&& 31)) &&& 1) = rs_AB (rs_sp L v f (j + 1)) := by
      rw [rs_shI (by omega) (by omega), ← Nat.toNat_testBit, nI_add, nI_clamp (by omega), rs_updB, rs_sp_s]
    exact br_f (xa_8f (by omega)) ⟨pk_in (f + j) 3937 (by omega) (nI_add f j), nm_r eu (nm_r (nI_1 j) (ih (j + 1) (by omega)))⟩
theorem xo_spr {post : SX → Prop} {v f : Nat} {x y : Int32} (hx : x = nI v) (hy : y = nI f) (hv : v < 256) (hf : f + 8 ≤ 3937) (H : post ((nI lim), (nI cnt), (nI ned), (nI op), (nI cp), cy, (nI nc), (rs_A kd), (rs_A vl), (rs_A rg), (rs_A ip), (rs_A wdf), (rs_A odf), (rs_A ws), (rs_A ost), (rs_A fo), (rs_A so), (rs_A to), (rs_A en), (rs_A ord), (rs_A res), (rs_A gl), (rs_A gr), (rs_A fs), (rs_A tb), (rs_AB (rs_sp L v f 8)))) : wpX_spreadBits post ((nI lim), (nI cnt), (nI ned), (nI op), (nI cp), cy, (nI nc), (rs_A kd), (rs_A vl), (rs_A rg), (rs_A ip), (rs_A wdf), (rs_A odf), (rs_A ws), (rs_A ost), (rs_A fo), (rs_A so), (rs_A to), (rs_A en), (rs_A ord), (rs_A res), (rs_A gl), (rs_A gr), (rs_A fs), (rs_A tb), (rs_AB L)) x y := by
  subst hx hy
  have W := xo_spr_l (v := v) (f := f) hv hf H 8 0 rfl
  rw [rs_sp_0] at W
  exact ⟨9, W⟩
theorem xo_set_l {post : SX → Prop} (hW : rs_WF nc gl gr) (hn : nc ≤ 3937) (H : ∀ L', rs_Md nc gl gr L' → rs_Bs L' ip rg → post ((nI lim), (nI cnt), (nI ned), (nI op), (nI cp), cy, (nI nc), (rs_A kd), (rs_A vl), (rs_A rg), (rs_A ip), (rs_A wdf), (rs_A odf), (rs_A ws), (rs_A ost), (rs_A fo), (rs_A so), (rs_A to), (rs_A en), (rs_A ord), (rs_A res), (rs_A gl), (rs_A gr), (rs_A fs), (rs_A tb), (rs_AB L'))) : ∀ d n L, n + d = nc → 97 ≤ n → rs_Md n gl gr L → rs_Bs L ip rg → wX_settleGates_3 post (nI lim) (nI cnt) (nI ned) (nI op) (nI cp) cy (nI nc) (d + 1) (nI n) (rs_A kd) (rs_A vl) (rs_A rg) (rs_A ip) (rs_A wdf) (rs_A odf) (rs_A ws) (rs_A ost) (rs_A fo) (rs_A so) (rs_A to) (rs_A en) (rs_A ord) (rs_A res) (rs_A gl) (rs_A gr) (rs_A fs) (rs_A tb) (rs_AB L) := by
  intro d
  induction d with
  | zero =>
    intro n L hd h97 M B
    have e : n = nc := by omega
    subst e
    exact br_t (nI_le (Nat.le_refl _) (by omega)) (H L M B)
  | succ d ih =>
    intro n L hd h97 M B
    obtain ⟨w1, w2⟩ := hW.2 n h97 (by omega)
    have el : rs_A gl (nI n).toNatClampNeg = nI (gl n) := rs_Ax n rfl (by omega)
    have er : rs_A gr (nI n).toNatClampNeg = nI (gr n) := rs_Ax n rfl (by omega)
    have h2 : ∀ l, l < 2 * n → nI l >>> ((1 : Int32) &&& 31) = nI (l / 2) := fun l hl => rs_shrI (v := l) (j := 1) (by omega) (by decide)
    have hA : ∀ l, l < 2 * n → rs_AB L (nI l >>> ((1 : Int32) &&& 31)).toNatClampNeg = nI (L (l / 2)).toNat := fun l hl => by
      rw [h2 l hl, nI_clamp (by omega)]; rfl
    have hI : ∀ l, l < 2 * n → vp_in (nI l >>> ((1 : Int32) &&& 31)) 3937 := fun l hl => by
      rw [h2 l hl]; exact vp_in_nI (by omega) (by decide)
    have eu : upd (rs_AB L) (nI n).toNatClampNeg (((rs_AB L (nI (gl n) >>> ((1 : Int32) &&& 31)).toNatClampNeg ^^^ nI (gl n)) &&& (rs_AB L (nI (gr n) >>> ((1 : Int32) &&& 31)).toNatClampNeg ^^^ nI (gr n))) &&& 1) = rs_AB (rs_ub L n (rs_lv L (gl n) && rs_lv L (gr n))) := by
      rw [hA _ w1, hA _ w2, rs_gtI, nI_clamp (by omega), rs_updB]
    exact br_f (nI_ge (by omega) (by omega)) ⟨pk_in n 3937 (by omega), nm_r el ⟨pk_in n 3937 (by omega), nm_r er ⟨hI _ w1, hI _ w2, pk_in n 3937 (by omega), nm_r eu (nm_r (nI_1 n) (ih (n + 1) _ (by omega) (by omega) (rs_se hW h97 (by omega) M) (rs_Bs_u h97 B)))⟩⟩⟩
theorem xo_set {post : SX → Prop} (hW : rs_WF nc gl gr) (hn : nc ≤ 3937) (h0 : L 0 = false) (B : rs_Bs L ip rg) (H : ∀ L', rs_Md nc gl gr L' → rs_Bs L' ip rg → post ((nI lim), (nI cnt), (nI ned), (nI op), (nI cp), cy, (nI nc), (rs_A kd), (rs_A vl), (rs_A rg), (rs_A ip), (rs_A wdf), (rs_A odf), (rs_A ws), (rs_A ost), (rs_A fo), (rs_A so), (rs_A to), (rs_A en), (rs_A ord), (rs_A res), (rs_A gl), (rs_A gr), (rs_A fs), (rs_A tb), (rs_AB L'))) : wpX_settleGates post ((nI lim), (nI cnt), (nI ned), (nI op), (nI cp), cy, (nI nc), (rs_A kd), (rs_A vl), (rs_A rg), (rs_A ip), (rs_A wdf), (rs_A odf), (rs_A ws), (rs_A ost), (rs_A fo), (rs_A so), (rs_A to), (rs_A en), (rs_A ord), (rs_A res), (rs_A gl), (rs_A gr), (rs_A fs), (rs_A tb), (rs_AB L)) := by
  have w := hW.1
  exact ⟨nc - 97 + 1, xo_set_l hW hn H (nc - 97) 97 L (by omega) (Nat.le_refl _) ⟨h0, fun n h1 h2 => by omega⟩ B⟩
theorem xo_gth_l {post : Int32 → Prop} {r a : Nat} (hr : r < 8) (ha : a < 256) (hn : nc ≤ 3937) (hb : ∀ x, x < 8 → fs (r * 8 + x) < 2 * nc) (B : rs_bt L fs r a) (H : post (nI a)) : ∀ d j, j + d = 8 → wX_gatherFlops_4 post (nI (r * 8)) (nI lim) (nI cnt) (nI ned) (nI op) (nI cp) cy (nI nc) (rs_A kd) (rs_A vl) (rs_A rg) (rs_A ip) (rs_A wdf) (rs_A odf) (rs_A ws) (rs_A ost) (rs_A fo) (rs_A so) (rs_A to) (rs_A en) (rs_A ord) (rs_A res) (rs_A gl) (rs_A gr) (rs_A fs) (rs_A tb) (rs_AB L) (d + 1) (nI (a % 2 ^ j)) (nI j) := by
  intro d
  induction d with
  | zero =>
    intro j hj
    have e : j = 8 := by omega
    subst e
    have e2 : a % 2 ^ 8 = a := Nat.mod_eq_of_lt ha
    rw [e2]
    exact br_t xa_8t H
  | succ d ih =>
    intro j hj
    have b1 := hb j (by omega)
    have ef : rs_A fs (nI (r * 8) + nI j).toNatClampNeg = nI (fs (r * 8 + j)) := xa_rx (by omega) (by omega)
    have h2 : nI (fs (r * 8 + j)) >>> ((1 : Int32) &&& 31) = nI (fs (r * 8 + j) / 2) := rs_shrI (j := 1) (by omega) (by decide)
    have el : (rs_AB L (nI (fs (r * 8 + j)) >>> ((1 : Int32) &&& 31)).toNatClampNeg ^^^ nI (fs (r * 8 + j))) &&& 1 = nI (a.testBit j).toNat := by
      rw [h2, nI_clamp (by omega)]
      show (nI (L (fs (r * 8 + j) / 2)).toNat ^^^ nI (fs (r * 8 + j))) &&& 1 = _
      rw [rs_lvI, B j (by omega)]
    have eo : nI (a % 2 ^ j) ||| (nI (a.testBit j).toNat <<< (nI j &&& 31)) = nI (a % 2 ^ (j + 1)) := by
      rw [rs_shlI (by have := Bool.toNat_le (a.testBit j); omega) (by omega), rs_or, rs_ga a ha j (by omega)]
    refine br_f (xa_8f (by omega)) ⟨pk_in (r * 8 + j) 64 (by omega) (nI_add _ _), nm_r ef ⟨?_, nm_r el (nm_r eo (nm_r (nI_1 j) (ih (j + 1) (by omega))))⟩⟩
    rw [h2]
    exact vp_in_nI (by omega) (by decide)
theorem xo_gth {post : Int32 → Prop} {r a : Nat} {y : Int32} (hy : y = nI (r * 8)) (hr : r < 8) (ha : a < 256) (hn : nc ≤ 3937) (hb : ∀ x, x < 8 → fs (r * 8 + x) < 2 * nc) (B : rs_bt L fs r a) (H : post (nI a)) : wpX_gatherFlops post ((nI lim), (nI cnt), (nI ned), (nI op), (nI cp), cy, (nI nc), (rs_A kd), (rs_A vl), (rs_A rg), (rs_A ip), (rs_A wdf), (rs_A odf), (rs_A ws), (rs_A ost), (rs_A fo), (rs_A so), (rs_A to), (rs_A en), (rs_A ord), (rs_A res), (rs_A gl), (rs_A gr), (rs_A fs), (rs_A tb), (rs_AB L)) y := by
  subst hy
  have W := xo_gth_l (lim := lim) (cnt := cnt) (ned := ned) (op := op) (cp := cp) (cy := cy) (kd := kd) (vl := vl) (rg := rg) (ip := ip) (wdf := wdf) (odf := odf) (ws := ws) (ost := ost) (fo := fo) (so := so) (to := to) (en := en) (ord := ord) (res := res) (gl := gl) (gr := gr) (tb := tb) hr ha hn hb B H 8 0 rfl
  have e : a % 2 ^ 0 = 0 := Nat.mod_one a
  rw [e] at W
  exact ⟨9, W⟩
theorem xo_gat_l {post : SX → Prop} {R : Nat → Nat} (hc : cnt ≤ 48) (hn : nc ≤ 3937) (hb : ∀ r, r < 8 → ∀ x, x < 8 → fs (r * 8 + x) < 2 * nc) (B : ∀ r, r < 8 → rs_nz kd vl en R rg r cnt < 256 ∧ rs_bt L fs r (rs_nz kd vl en R rg r cnt)) (H : post ((nI lim), (nI cnt), (nI ned), (nI op), (nI cp), cy, (nI nc), (rs_A kd), (rs_A vl), (rs_A (rs_nj kd vl en R rg cnt 8)), (rs_A ip), (rs_A wdf), (rs_A odf), (rs_A ws), (rs_A ost), (rs_A fo), (rs_A so), (rs_A to), (rs_A en), (rs_A ord), (rs_A res), (rs_A gl), (rs_A gr), (rs_A fs), (rs_A tb), (rs_AB L))) : ∀ d j, j + d = 8 → wX_clockGates_66 post (nI lim) (nI cnt) (nI ned) (nI op) (nI cp) cy (nI nc) (d + 1) (nI j) (rs_A kd) (rs_A vl) (rs_A (rs_nj kd vl en R rg cnt j)) (rs_A ip) (rs_A wdf) (rs_A odf) (rs_A ws) (rs_A ost) (rs_A fo) (rs_A so) (rs_A to) (rs_A en) (rs_A ord) (rs_A res) (rs_A gl) (rs_A gr) (rs_A fs) (rs_A tb) (rs_AB L) := by
  intro d
  induction d with
  | zero =>
    intro j hj
    have e : j = 8 := by omega
    subst e
    exact br_t xa_8t H
  | succ d ih =>
    intro j hj
    have eu : upd (rs_A (rs_nj kd vl en R rg cnt j)) (nI j).toNatClampNeg (nI (rs_nz kd vl en R rg j cnt)) = rs_A (rs_nj kd vl en R rg cnt (j + 1)) := by
      rw [nI_clamp (by omega), rs_upd, rs_nj_s]
    obtain ⟨b1, b2⟩ := B j (by omega)
    refine br_f (xa_8f (by omega)) (xo_gth (pk_mul j 8) (by omega) b1 hn (hb j (by omega)) b2 ?_)
    exact ⟨pk_in j 8 (by omega), nm_r eu (nm_r (nI_1 j) (ih (j + 1) (by omega)))⟩
theorem xo_gat {post : SX → Prop} (hc : cnt ≤ 48) (C : rs_C cnt kd vl ws fo so to en ord nc gl gr fs tb) (hB : rs_B ip rg) (h0 : L 0 = false) (H : ∀ L', L' 0 = false → post ((nI lim), (nI cnt), (nI ned), (nI op), (nI cp), cy, (nI nc), (rs_A kd), (rs_A vl), (rs_A (rs_N kd vl en ws ip cnt rg)), (rs_A ip), (rs_A wdf), (rs_A odf), (rs_A ws), (rs_A ost), (rs_A fo), (rs_A so), (rs_A to), (rs_A en), (rs_A ord), (rs_A res), (rs_A gl), (rs_A gr), (rs_A fs), (rs_A tb), (rs_AB L'))) : wpX_clockGates post ((nI lim), (nI cnt), (nI ned), (nI op), (nI cp), cy, (nI nc), (rs_A kd), (rs_A vl), (rs_A rg), (rs_A ip), (rs_A wdf), (rs_A odf), (rs_A ws), (rs_A ost), (rs_A fo), (rs_A so), (rs_A to), (rs_A en), (rs_A ord), (rs_A res), (rs_A gl), (rs_A gr), (rs_A fs), (rs_A tb), (rs_AB L)) := by
  have hn : nc ≤ 3937 := by have := C.2.2.2.2.1; omega
  have hW := C.2.2.2.2.2.1
  have hS := rs_RS_so C.1 ip rg (fun _ => 0)
  have hx : rs_sx kd vl cnt cnt = cnt := if_neg (by omega)
  -- the last loop
  have S4 : ∀ L', rs_Md nc gl gr L' → rs_Bs L' ip rg → ∃ n, wX_clockGates_66 post (nI lim) (nI cnt) (nI ned) (nI op) (nI cp) cy (nI nc) n 0 (rs_A kd) (rs_A vl) (rs_A rg) (rs_A ip) (rs_A wdf) (rs_A odf) (rs_A ws) (rs_A ost) (rs_A fo) (rs_A so) (rs_A to) (rs_A en) (rs_A ord) (rs_A res) (rs_A gl) (rs_A gr) (rs_A fs) (rs_A tb) (rs_AB L') := by
    intro L' M B
    have K := H L' M.1
    rw [← rs_N_e C.1 hS] at K
    have U := (C.2.2.2.2.2.2.2.2 ip rg _ L' hB hS B M).2
    rw [hx] at U
    have W := xo_gat_l (L := L') (rg := rg) (lim := lim) (ned := ned) (op := op) (cp := cp) (cy := cy) (ip := ip) (wdf := wdf) (odf := odf) (ws := ws) (ost := ost) (fo := fo) (so := so) (to := to) (ord := ord) (res := res) (gl := gl) (gr := gr) (tb := tb) (post := post) hc hn C.2.2.2.2.2.2.2.1 (fun r hr => ⟨rs_nz_lt C.1 hB hS r cnt (Nat.le_refl _), U r hr⟩) K 8 0 rfl
    rw [rs_nj_0] at W
    exact ⟨9, W⟩
  -- the registers
  have S3 : ∀ d r L, r + d = 8 → L 0 = false → (∀ p, p < 4 → ∀ x, x < 8 → L (1 + (p * 8 + x)) = (ip p).testBit x) → (∀ q, q < r → ∀ x, x < 8 → L (33 + (q * 8 + x)) = (rg q).testBit x) → wX_clockGates_31 post (d + 1) (nI r) (nI lim) (nI cnt) (nI ned) (nI op) (nI cp) cy (nI nc) (rs_A kd) (rs_A vl) (rs_A rg) (rs_A ip) (rs_A wdf) (rs_A odf) (rs_A ws) (rs_A ost) (rs_A fo) (rs_A so) (rs_A to) (rs_A en) (rs_A ord) (rs_A res) (rs_A gl) (rs_A gr) (rs_A fs) (rs_A tb) (rs_AB L) := by
    intro d
    induction d with
    | zero =>
      intro r L hr h0 h1 h2
      have e : r = 8 := by omega
      subst e
      exact br_t xa_8t (xo_set hW hn h0 ⟨h1, h2⟩ fun L' M B => S4 L' M B)
    | succ d ih =>
      intro r L hr h0 h1 h2
      have ey : 33 + nI r * 8 = nI (33 + r * 8) := by
        rw [show nI r * 8 = nI (r * 8) from pk_mul r 8]; exact nI_add 33 _
      refine br_f (xa_8f (by omega)) ⟨pk_in r 8 (by omega), xo_spr (rs_Ax r rfl (by omega)) ey (hB.2 r) (by omega) ?_⟩
      refine nm_r (nI_1 r) (ih (r + 1) _ (by omega) ?_ (fun p hp x hx => ?_) fun q hq x hx => ?_)
      · exact (if_neg (by omega)).trans h0
      · exact (if_neg (by omega)).trans (h1 p hp x hx)
      · rcases Nat.lt_or_ge q r with g | g
        · exact (if_neg (by omega)).trans (h2 q g x hx)
        · have e : q = r := by omega
          subst e
          refine (if_pos (by omega)).trans ?_
          rw [show 33 + (q * 8 + x) - (33 + q * 8) = x by omega]
  -- the inputs
  have S2 : ∀ d p L, p + d = 4 → L 0 = false → (∀ q, q < p → ∀ x, x < 8 → L (1 + (q * 8 + x)) = (ip q).testBit x) → wX_clockGates_2 post (d + 1) (nI p) (nI lim) (nI cnt) (nI ned) (nI op) (nI cp) cy (nI nc) (rs_A kd) (rs_A vl) (rs_A rg) (rs_A ip) (rs_A wdf) (rs_A odf) (rs_A ws) (rs_A ost) (rs_A fo) (rs_A so) (rs_A to) (rs_A en) (rs_A ord) (rs_A res) (rs_A gl) (rs_A gr) (rs_A fs) (rs_A tb) (rs_AB L) := by
    intro d
    induction d with
    | zero =>
      intro p L hp h0 h1
      have e : p = 4 := by omega
      subst e
      exact br_t (nI_le (b := 4) (Nat.le_refl 4) (by decide)) ⟨9, S3 8 0 L rfl h0 h1 fun q hq => by omega⟩
    | succ d ih =>
      intro p L hp h0 h1
      have ey : 1 + nI p * 8 = nI (1 + p * 8) := by
        rw [show nI p * 8 = nI (p * 8) from pk_mul p 8]; exact nI_add 1 _
      refine br_f (nI_ge (b := 4) (by omega) (by decide)) ⟨pk_in p 4 (by omega), xo_spr (rs_Ax p rfl (by omega)) ey (hB.1 p) (by omega) ?_⟩
      refine nm_r (nI_1 p) (ih (p + 1) _ (by omega) ?_ fun q hq x hx => ?_)
      · exact (if_neg (by omega)).trans h0
      · rcases Nat.lt_or_ge q p with g | g
        · exact (if_neg (by omega)).trans (h1 q g x hx)
        · have e : q = p := by omega
          subst e
          refine (if_pos (by omega)).trans ?_
          rw [show 1 + (q * 8 + x) - (1 + q * 8) = x by omega]
  exact ⟨5, S2 4 0 L rfl h0 fun q hq => by omega⟩
theorem xo_clk_l {post : Int32 → SX → Prop} {m : Int32} {cyc : Nat} (h8 : cyc ≤ 8) (hc : cnt ≤ 48) (C : rs_C cnt kd vl ws fo so to en ord nc gl gr fs tb) (H : ∀ res' L', (∀ p, res' p < 256) → L' 0 = false → rs_B ip (rs_NN kd vl en ws ip cnt rg cyc) → post 0 ((nI lim), (nI cnt), (nI ned), (nI op), (nI cp), (cy + nI cyc), (nI nc), (rs_A kd), (rs_A vl), (rs_A (rs_NN kd vl en ws ip cnt rg cyc)), (rs_A ip), (rs_A wdf), (rs_A odf), (rs_A ws), (rs_A ost), (rs_A fo), (rs_A so), (rs_A to), (rs_A en), (rs_A ord), (rs_A res'), (rs_A gl), (rs_A gr), (rs_A fs), (rs_A tb), (rs_AB L'))) : ∀ d c res L, c + d = cyc → (∀ p, res p < 256) → L 0 = false → rs_B ip (rs_NN kd vl en ws ip cnt rg c) → wX_clock_38 post m (nI cyc) (d + 1) (nI c) (nI lim) (nI cnt) (nI ned) (nI op) (nI cp) cy (nI nc) (rs_A kd) (rs_A vl) (rs_A (rs_NN kd vl en ws ip cnt rg c)) (rs_A ip) (rs_A wdf) (rs_A odf) (rs_A ws) (rs_A ost) (rs_A fo) (rs_A so) (rs_A to) (rs_A en) (rs_A ord) (rs_A res) (rs_A gl) (rs_A gr) (rs_A fs) (rs_A tb) (rs_AB L) := by
  intro d
  induction d with
  | zero =>
    intro c res L hd hr h0 hB
    have e : c = cyc := by omega
    subst e
    exact br_t (nI_le (Nat.le_refl _) (by omega)) (nm_e (H res L hr h0 hB))
  | succ d ih =>
    intro c res L hd hr h0 hB
    have hB' := rs_N_B C.1 hB
    refine br_f (nI_ge (by omega) (by omega)) (br_c (fun _ => ?_) fun _ => ?_)
    · exact xo_rtl hc C hB hr fun R hR => nm_r (nI_1 c) (ih (c + 1) R L (by omega) hR h0 hB')
    · exact xo_gat hc C hB h0 fun L' h0' => nm_r (nI_1 c) (ih (c + 1) res L' (by omega) hr h0' hB')
end
end
section
/-! compile -/
def rs_Xm : Nat → Int32
  | 0 => -1
  | y + 1 => nI y
theorem rs_Xm_p (y : Nat) : nI y + (-1) = rs_Xm y := by
  cases y with
  | zero => decide
  | succ y => exact pk_m1 y
theorem rs_Xm_s (y : Nat) : nI y - 1 = rs_Xm y := by
  cases y with
  | zero => decide
  | succ y => exact nI_pred y
theorem xt_ar {post : Int32 → Prop} {x y : Int32} (k v : Nat) (hx : x = nI k) (hy : y = nI v) (h1 : 1 ≤ k) (h2 : k ≤ 11) (hv : v < 256) (H : post (nI (rs_ar k v))) : wpX_arityOf post x y := by
  subst hx hy
  rcases (by omega : k = 1 ∨ k = 2 ∨ k = 3 ∨ k = 4 ∨ k = 5 ∨ k = 6 ∨ k = 7 ∨ k = 8 ∨ k = 9 ∨ k = 10 ∨ k = 11) with h | h | h | h | h | h | h | h | h | h | h <;> subst h
  · exact br_f (by decide) (br_f (by decide) (br_t rfl H))
  · exact br_f (by decide) (br_f (by decide) (br_f (by decide) (br_t rfl H)))
  · exact br_f (by decide) (br_f (by decide) (br_f (by decide) (br_f (by decide) (br_t rfl H))))
  · exact br_f (by decide) (br_f (by decide) (br_f (by decide) (br_f (by decide) (br_f (by decide) (br_t rfl H)))))
  · have e : rs_ar 5 v = if v ≤ 2 then 1 else if v = 11 then 3 else 2 := rfl
    rw [e] at H
    refine br_f (by decide) (br_f (by decide) (br_f (by decide) (br_f (by decide) (br_f (by decide) (br_f (by decide) (br_t rfl ?_))))))
    refine pk_lt 2 v (fun h => pk_eq v 11 (fun h' => ?_) fun h' => ?_) fun h => ?_
    · rw [if_neg (by omega), if_pos h'] at H; exact H
    · rw [if_neg (by omega), if_neg h'] at H; exact H
    · rw [if_pos h] at H; exact H
  · exact br_f (by decide) (br_f (by decide) (br_f (by decide) (br_f (by decide) (br_f (by decide) (br_f (by decide) (br_f (by decide) (br_t rfl H)))))))
  · exact br_f (by decide) (br_f (by decide) (br_f (by decide) (br_f (by decide) (br_f (by decide) (br_f (by decide) (br_f (by decide) (br_f (by decide) (br_t rfl H))))))))
  · exact br_f (by decide) (br_f (by decide) (br_f (by decide) (br_f (by decide) (br_f (by decide) (br_f (by decide) (br_f (by decide) (br_f (by decide) (br_f (by decide) (br_t rfl H)))))))))
  · exact br_f (by decide) (br_f (by decide) (br_f (by decide) (br_f (by decide) (br_f (by decide) (br_f (by decide) (br_f (by decide) (br_f (by decide) (br_f (by decide) (br_f (by decide) (br_t rfl H))))))))))
  · exact br_f (by decide) (br_f (by decide) (br_f (by decide) (br_f (by decide) (br_f (by decide) (br_f (by decide) (br_f (by decide) (br_f (by decide) (br_f (by decide) (br_f (by decide) (br_f (by decide) (br_t rfl H)))))))))))
  · exact br_f (by decide) (br_f (by decide) (br_f (by decide) (br_f (by decide) (br_f (by decide) (br_f (by decide) (br_f (by decide) (br_f (by decide) (br_f (by decide) (br_f (by decide) (br_f (by decide) (br_f (by decide) (br_t rfl H))))))))))))
theorem rs_upI {f : Nat → Nat} (y x : Nat) {z : Int32} (hz : z = nI x) (h : y < 2 ^ 31) : upd (rs_A f) (nI y).toNatClampNeg z = rs_A (rs_u f y x) := by
  rw [hz, nI_clamp h]; exact rs_upd _ _ _
section
variable {lim cnt ned op cp nc : Nat} {cy : Int32} {kd vl rg ip wdf odf ws ost fo so to en ord res gl gr fs tb : Nat → Nat} {L : Nat → Bool}
theorem xc_link_l {post : SX → Prop} (hc : cnt ≤ 48) (hO : ∀ i, i < cnt → rs_ok (kd i) (vl i)) (h0 : rs_nd kd vl cnt = 0) (H : ∀ fo' so' to' en', rs_LI kd vl cnt 0 en' fo' so' to' → post ((nI lim), (nI cnt), (nI ned), (nI op), (nI cp), cy, (nI nc), (rs_A kd), (rs_A vl), (rs_A rg), (rs_A ip), (rs_A wdf), (rs_A odf), (rs_A ws), (rs_A ost), (rs_A fo'), (rs_A so'), (rs_A to'), (rs_A en'), (rs_A ord), (rs_A res), (rs_A gl), (rs_A gr), (rs_A fs), (rs_A tb), (rs_AB L))) : ∀ lo fo so to en, lo ≤ cnt → rs_LI kd vl cnt lo en fo so to → wX_linkOperands_7 post (nI lim) (nI cnt) (nI ned) (nI op) (nI cp) cy (nI nc) (lo + 1) (rs_Xm lo) (rs_A kd) (rs_A vl) (rs_A rg) (rs_A ip) (rs_A wdf) (rs_A odf) (rs_A ws) (rs_A ost) (rs_A fo) (rs_A so) (rs_A to) (rs_A en) (rs_A ord) (rs_A res) (rs_A gl) (rs_A gr) (rs_A fs) (rs_A tb) (rs_AB L) := by
  intro lo
  induction lo with
  | zero =>
    intro fo so to en hl I
    exact br_t (by decide) (H _ _ _ _ I)
  | succ y ih =>
    intro fo so to en hl I
    have hy : y < cnt := by omega
    obtain ⟨g1, g2, g5, g10, g8⟩ := rs_rng (hO y hy)
    obtain ⟨k1, k2, k3, k4⟩ := hO y hy
    obtain ⟨c1, c2, c3⟩ := rs_chain h0 I.1 (y := y) (by omega) hy
    obtain ⟨b1, b2, b3⟩ := I.2.2 y
    have h3 := rs_ar3 (kd y) (vl y)
    have ev : rs_A vl (nI y).toNatClampNeg = nI (vl y) := rs_Ax y rfl (by omega)
    have ek : rs_A kd (nI y).toNatClampNeg = nI (kd y) := rs_Ax y rfl (by omega)
    have ee : rs_A en (nI (y + 1)).toNatClampNeg = nI (en (y + 1)) := rs_Ax (y + 1) rfl (by omega)
    refine br_f (nI_pos (by omega)) ⟨pk_in y 48 (by omega), pk_in y 48 (by omega), xt_ar (kd y) (vl y) ek ev k1 k2 g1 (nm_r (nI_1 y) ?_)⟩
    have y9 : vp_in (nI y) 49 := pk_in y 49 (by omega)
    have F0 : ∀ a, rs_ar (kd y) (vl y) = a → rs_ar (kd y) (vl y) = a := fun _ h => h
    rcases (by omega : rs_ar (kd y) (vl y) = 0 ∨ rs_ar (kd y) (vl y) = 1 ∨ rs_ar (kd y) (vl y) = 2 ∨ rs_ar (kd y) (vl y) = 3) with h | h | h | h
    · rw [h]
      refine br_t (by decide) (br_t (by decide) (br_t (by decide) ⟨y9, nm_r (rs_upI y (y + 1) rfl (by omega)) (nm_r (rs_Xm_p y) (ih fo so to _ (by omega) (rs_lk h0 hy I ?_ (fun _ _ => rfl) (fun _ _ => rfl) (fun _ _ => rfl) ?_ ⟨b1, b2, b3⟩)))⟩))
      · rw [h]; rfl
      · exact ⟨fun z => by omega, fun z => by omega, fun z => by omega⟩
    · obtain ⟨d1, d2, d3⟩ := c1 (by omega)
      rw [h]
      refine br_f (by decide) ⟨y9, nm_r (rs_upI y (y + 1) rfl (by omega)) ⟨pk_in (y + 1) 49 (by omega), nm_r ee (br_t (by decide) (br_t (by decide) ⟨y9, nm_r (rs_upI y (en (y + 1)) rfl (by omega)) (nm_r (rs_Xm_p y) (ih (rs_u fo y (y + 1)) so to _ (by omega) (rs_lk h0 hy I ?_ (fun _ z => rs_un z) (fun _ _ => rfl) (fun _ _ => rfl) ?_ ?_)))⟩))⟩⟩
      · rw [h]; rfl
      · exact ⟨fun z => rs_us, fun z => by omega, fun z => by omega⟩
      · rw [rs_us]; exact ⟨by omega, b2, b3⟩
    · obtain ⟨d1, d2, d3⟩ := c1 (by omega)
      obtain ⟨q1, q2, q3⟩ := c2 (by omega)
      have e2 : rs_A en (nI (en (y + 1))).toNatClampNeg = nI (en (en (y + 1))) := rs_Ax _ rfl (by omega)
      rw [h]
      refine br_f (by decide) ⟨y9, nm_r (rs_upI y (y + 1) rfl (by omega)) ⟨pk_in (y + 1) 49 (by omega), nm_r ee (br_f (by decide) ⟨y9, nm_r (rs_upI y (en (y + 1)) rfl (by omega)) ⟨pk_in (en (y + 1)) 49 (by omega), nm_r e2 (br_t (by decide) ⟨y9, nm_r (rs_upI y (en (en (y + 1))) rfl (by omega)) (nm_r (rs_Xm_p y) (ih (rs_u fo y (y + 1)) (rs_u so y (en (y + 1))) to _ (by omega) (rs_lk h0 hy I ?_ (fun _ z => rs_un z) (fun _ z => rs_un z) (fun _ _ => rfl) ?_ ?_)))⟩)⟩⟩)⟩⟩
      · rw [h]; rfl
      · exact ⟨fun z => rs_us, fun z => rs_us, fun z => by omega⟩
      · rw [rs_us, rs_us]; exact ⟨by omega, by omega, b3⟩
    · obtain ⟨d1, d2, d3⟩ := c1 (by omega)
      obtain ⟨q1, q2, q3⟩ := c2 (by omega)
      obtain ⟨r1, r2, r3⟩ := c3 (by omega)
      have e2 : rs_A en (nI (en (y + 1))).toNatClampNeg = nI (en (en (y + 1))) := rs_Ax _ rfl (by omega)
      have e3 : rs_A en (nI (en (en (y + 1)))).toNatClampNeg = nI (en (en (en (y + 1)))) := rs_Ax _ rfl (by omega)
      rw [h]
      refine br_f (by decide) ⟨y9, nm_r (rs_upI y (y + 1) rfl (by omega)) ⟨pk_in (y + 1) 49 (by omega), nm_r ee (br_f (by decide) ⟨y9, nm_r (rs_upI y (en (y + 1)) rfl (by omega)) ⟨pk_in (en (y + 1)) 49 (by omega), nm_r e2 (br_f (by decide) ⟨y9, nm_r (rs_upI y (en (en (y + 1))) rfl (by omega)) ⟨pk_in (en (en (y + 1))) 49 (by omega), nm_r e3 ⟨y9, nm_r (rs_upI y (en (en (en (y + 1)))) rfl (by omega)) (nm_r (rs_Xm_p y) (ih (rs_u fo y (y + 1)) (rs_u so y (en (y + 1))) (rs_u to y (en (en (y + 1)))) _ (by omega) (rs_lk h0 hy I ?_ (fun _ z => rs_un z) (fun _ z => rs_un z) (fun _ z => rs_un z) ?_ ?_)))⟩⟩⟩)⟩⟩)⟩⟩
      · rw [h]; rfl
      · exact ⟨fun z => rs_us, fun z => rs_us, fun z => rs_us⟩
      · rw [rs_us, rs_us, rs_us]; exact ⟨by omega, by omega, by omega⟩
theorem xc_link {post : SX → Prop} (hc : cnt ≤ 48) (hO : ∀ i, i < cnt → rs_ok (kd i) (vl i)) (h0 : rs_nd kd vl cnt = 0) (hb : ∀ x, fo x ≤ 48 ∧ so x ≤ 48 ∧ to x ≤ 48) (H : ∀ fo' so' to' en', rs_LI kd vl cnt 0 en' fo' so' to' → post ((nI lim), (nI cnt), (nI ned), (nI op), (nI cp), cy, (nI nc), (rs_A kd), (rs_A vl), (rs_A rg), (rs_A ip), (rs_A wdf), (rs_A odf), (rs_A ws), (rs_A ost), (rs_A fo'), (rs_A so'), (rs_A to'), (rs_A en'), (rs_A ord), (rs_A res), (rs_A gl), (rs_A gr), (rs_A fs), (rs_A tb), (rs_AB L))) : wpX_linkOperands post ((nI lim), (nI cnt), (nI ned), (nI op), (nI cp), cy, (nI nc), (rs_A kd), (rs_A vl), (rs_A rg), (rs_A ip), (rs_A wdf), (rs_A odf), (rs_A ws), (rs_A ost), (rs_A fo), (rs_A so), (rs_A to), (rs_A en), (rs_A ord), (rs_A res), (rs_A gl), (rs_A gr), (rs_A fs), (rs_A tb), (rs_AB L)) :=
  nm_r (rs_Xm_s cnt) ⟨cnt + 1, xc_link_l hc hO h0 H cnt fo so to en (Nat.le_refl _) ⟨fun x a b => by omega, fun x a b => by omega, hb⟩⟩
theorem xc_ord_w {post : SX → Prop} {J : Int32 → Int32 → Int32 → (Nat → Int32) → (Nat → Int32) → (Nat → Int32) → (Nat → Int32) → (Nat → Int32) → (Nat → Int32) → (Nat → Int32) → (Nat → Int32) → (Nat → Int32) → (Nat → Int32) → (Nat → Int32) → (Nat → Int32) → (Nat → Int32) → (Nat → Int32) → (Nat → Int32) → (Nat → Int32) → (Nat → Int32) → (Nat → Int32) → (Nat → Int32) → Prop} {s e k : Nat} (hk : k < 48) (h1 : k < e) (he : e ≤ 48) (hs : s ≤ 48) (K : J (nI s) (nI e) (nI (k + 1)) (rs_A kd) (rs_A vl) (rs_A rg) (rs_A ip) (rs_A wdf) (rs_A odf) (rs_A ws) (rs_A ost) (rs_A fo) (rs_A so) (rs_A to) (rs_A en) (rs_A (rs_u ord k (s + e - 1 - k))) (rs_A res) (rs_A gl) (rs_A gr) (rs_A fs) (rs_A tb) (rs_AB L)) : wX_orderTokens_33 post J (nI s) (nI e) (nI k) (nI lim) (nI cnt) (nI ned) (nI op) (nI cp) cy (nI nc) (rs_A kd) (rs_A vl) (rs_A rg) (rs_A ip) (rs_A wdf) (rs_A odf) (rs_A ws) (rs_A ost) (rs_A fo) (rs_A so) (rs_A to) (rs_A en) (rs_A ord) (rs_A res) (rs_A gl) (rs_A gr) (rs_A fs) (rs_A tb) (rs_AB L) := by
  have ez : nI s + nI e - 1 - nI k = nI (s + e - 1 - k) := by
    rw [nI_add, show nI (s + e) - 1 = nI (s + e - 1) from pk_sub (b := 1) (by omega), pk_sub (by omega)]
  exact ⟨pk_in k 49 (by omega), nm_r (rs_upI k (s + e - 1 - k) ez (by omega)) (nm_r (nI_1 k) K)⟩
theorem xc_ord_l {post : SX → Prop} (hc : cnt ≤ 48) (h0 : rs_nd kd vl cnt = 0) (he : ∀ i, i < cnt → en i = rs_e1 en (rs_ar (kd i) (vl i)) i) (H : ∀ ord', (∀ k, k < cnt → ord' k = rs_po kd vl en k) → post ((nI lim), (nI cnt), (nI ned), (nI op), (nI cp), cy, (nI nc), (rs_A kd), (rs_A vl), (rs_A rg), (rs_A ip), (rs_A wdf), (rs_A odf), (rs_A ws), (rs_A ost), (rs_A fo), (rs_A so), (rs_A to), (rs_A en), (rs_A ord'), (rs_A res), (rs_A gl), (rs_A gr), (rs_A fs), (rs_A tb), (rs_AB L))) : ∀ d k s e ord, k + d = cnt → rs_OS kd vl en k s e → (∀ x, x < k → ord x = rs_po kd vl en x) → wX_orderTokens_11 post (nI lim) (nI cnt) (nI ned) (nI op) (nI cp) cy (nI nc) (d + 1) (nI s) (nI e) (nI k) (rs_A kd) (rs_A vl) (rs_A rg) (rs_A ip) (rs_A wdf) (rs_A odf) (rs_A ws) (rs_A ost) (rs_A fo) (rs_A so) (rs_A to) (rs_A en) (rs_A ord) (rs_A res) (rs_A gl) (rs_A gr) (rs_A fs) (rs_A tb) (rs_AB L) := by
  intro d
  induction d with
  | zero =>
    intro k s e ord hd O ho
    have ek : k = cnt := by omega
    subst ek
    exact br_t (nI_le (Nat.le_refl _) (by omega)) (H ord ho)
  | succ d ih =>
    intro k s e ord hd O ho
    have hk : k < cnt := by omega
    obtain ⟨o1, o2⟩ := rs_os h0 he hk O
    obtain ⟨a, b, c, d', f⟩ := rs_seg h0 he hk
    have bnd : s ≤ 48 ∧ e ≤ 48 := by
      rcases O with ⟨e1, e2, e3⟩ | ⟨e1, e2, e3⟩
      · obtain ⟨z1, z2, z3, z4⟩ := rs_parse h0 he _ 0 (Nat.le_refl _) (by omega)
        omega
      · obtain ⟨a, b, c, d, f⟩ := rs_seg h0 he (i := k - 1) (by omega)
        omega
    have nx : ∀ s e, s = rs_ss kd vl k → e = en (rs_ss kd vl k) → wX_orderTokens_33 post (wX_orderTokens_11 post (nI lim) (nI cnt) (nI ned) (nI op) (nI cp) cy (nI nc) (d + 1)) (nI s) (nI e) (nI k) (nI lim) (nI cnt) (nI ned) (nI op) (nI cp) cy (nI nc) (rs_A kd) (rs_A vl) (rs_A rg) (rs_A ip) (rs_A wdf) (rs_A odf) (rs_A ws) (rs_A ost) (rs_A fo) (rs_A so) (rs_A to) (rs_A en) (rs_A ord) (rs_A res) (rs_A gl) (rs_A gr) (rs_A fs) (rs_A tb) (rs_AB L) := by
      intro s e hs he'
      refine xc_ord_w (by omega) (by omega) (by omega) (by omega) (ih (k + 1) s e _ (by omega) (Or.inr ⟨by omega, hs, he'⟩) fun x hx => ?_)
      rcases Nat.lt_or_ge x k with q | q
      · rw [rs_un (by omega)]; exact ho x q
      · have ex : x = k := by omega
        rw [ex, rs_us, hs, he']; rfl
    refine br_f (nI_ge hk (by omega)) (pk_eq k e (fun h => ?_) fun h => ?_)
    · have h1 := o1 h
      refine ⟨pk_in e 49 (by omega), nm_r (rs_Ax e rfl (by omega)) (nx e (en e) ?_ ?_)⟩
      · rw [h1, h]
      · rw [h1, h]
    · obtain ⟨h1, h2⟩ := o2 h
      exact nx s e h1.symm h2.symm
theorem xc_ord {post : SX → Prop} (hc : cnt ≤ 48) (h0 : rs_nd kd vl cnt = 0) (he : ∀ i, i < cnt → en i = rs_e1 en (rs_ar (kd i) (vl i)) i) (H : ∀ ord', (∀ k, k < cnt → ord' k = rs_po kd vl en k) → post ((nI lim), (nI cnt), (nI ned), (nI op), (nI cp), cy, (nI nc), (rs_A kd), (rs_A vl), (rs_A rg), (rs_A ip), (rs_A wdf), (rs_A odf), (rs_A ws), (rs_A ost), (rs_A fo), (rs_A so), (rs_A to), (rs_A en), (rs_A ord'), (rs_A res), (rs_A gl), (rs_A gr), (rs_A fs), (rs_A tb), (rs_AB L))) : wpX_orderTokens post ((nI lim), (nI cnt), (nI ned), (nI op), (nI cp), cy, (nI nc), (rs_A kd), (rs_A vl), (rs_A rg), (rs_A ip), (rs_A wdf), (rs_A odf), (rs_A ws), (rs_A ost), (rs_A fo), (rs_A so), (rs_A to), (rs_A en), (rs_A ord), (rs_A res), (rs_A gl), (rs_A gr), (rs_A fs), (rs_A tb), (rs_AB L)) :=
  nm_r (show rs_A en 0 = nI (en 0) from rfl) ⟨cnt + 1, xc_ord_l hc h0 he H cnt 0 0 (en 0) ord (by omega) (Or.inl ⟨rfl, rfl, rfl⟩) fun x hx => by omega⟩
theorem xc_comp {post : Int32 → SX → Prop} (hc : cnt ≤ 48) (T : rs_T cnt op kd vl wdf odf ws ost) (h0 : rs_nd kd vl cnt = 0) (hb : ∀ x, fo x ≤ 48 ∧ so x ≤ 48 ∧ to x ≤ 48) (H : ∀ fo' so' to' en' ord' nc' gl' gr' fs' tb', rs_C cnt kd vl ws fo' so' to' en' ord' nc' gl' gr' fs' tb' → post 0 ((nI lim), (nI cnt), (nI 0), (nI op), (nI 1), cy, (nI nc'), (rs_A kd), (rs_A vl), (rs_A rg), (rs_A ip), (rs_A wdf), (rs_A odf), (rs_A ws), (rs_A ost), (rs_A fo'), (rs_A so'), (rs_A to'), (rs_A en'), (rs_A ord'), (rs_A res), (rs_A gl'), (rs_A gr'), (rs_A fs'), (rs_A tb'), (rs_AB L))) : wpX_compile post ((nI lim), (nI cnt), (nI 0), (nI op), (nI 0), cy, (nI nc), (rs_A kd), (rs_A vl), (rs_A rg), (rs_A ip), (rs_A wdf), (rs_A odf), (rs_A ws), (rs_A ost), (rs_A fo), (rs_A so), (rs_A to), (rs_A en), (rs_A ord), (rs_A res), (rs_A gl), (rs_A gr), (rs_A fs), (rs_A tb), (rs_AB L)) := by
  refine br_t rfl (br_t (by decide) ?_)
  refine xc_link hc (fun i hi => (T.1.1 i hi).1) h0 hb fun fo' so' to' en' I => ?_
  have he : ∀ i, i < cnt → en' i = rs_e1 en' (rs_ar (kd i) (vl i)) i := fun i hi => I.1 i (Nat.zero_le _) hi
  refine xc_ord hc h0 he fun ord' ho => ?_
  have P := rs_T_Pg T h0 he
  refine xc_gates P hc (fun i hi => I.2.1 i (Nat.zero_le _) hi) I.2.2 ho (rs_T_D T) fun nc' gl' gr' tb' fs' J => ?_
  exact H fo' so' to' en' ord' nc' gl' gr' fs' tb' ⟨P, fun i hi => I.2.1 i (Nat.zero_le _) hi, I.2.2, ho, J⟩
end
end
section
/-! each closed statement is the one that its wire or output names; stacks of values; nested ends -/
def rs_T4 (cnt op : Nat) (kd vl wdf odf ws ost : Nat → Nat) (q : Prop) : Prop := (∀ i, i < cnt → kd i = 9 → (wdf (vl i) = 1 ∧ ws (vl i) = i) ∨ (i = op ∧ q)) ∧ ∀ i, i < cnt → kd i = 10 → (odf (vl i) = 1 ∧ ost (vl i) = i) ∨ (i = op ∧ q)
theorem rs_T4_a {cnt op : Nat} {kd vl wdf odf ws ost : Nat → Nat} {k v : Nat} (T : rs_T4 cnt op kd vl wdf odf ws ost (1 ≤ rs_nd kd vl cnt)) (hn : 9 ≤ k ↔ rs_nd kd vl cnt = 0) : rs_T4 (cnt + 1) (if 9 ≤ k then cnt else op) (rs_u kd cnt k) (rs_u vl cnt v) wdf odf ws ost True := by
  have hop : 1 ≤ rs_nd kd vl cnt → (if 9 ≤ k then cnt else op) = op := fun h => if_neg (by omega)
  refine ⟨fun i hi h => ?_, fun i hi h => ?_⟩
  · rcases Nat.lt_or_ge i cnt with g | g
    · rw [rs_un (by omega)] at h ⊢
      rcases T.1 i g h with z | z
      · exact Or.inl z
      · exact Or.inr ⟨by rw [hop z.2]; exact z.1, trivial⟩
    · have e : i = cnt := by omega
      rw [e, rs_us] at h
      exact Or.inr ⟨by rw [if_pos (by omega)]; exact e, trivial⟩
  · rcases Nat.lt_or_ge i cnt with g | g
    · rw [rs_un (by omega)] at h ⊢
      rcases T.2 i g h with z | z
      · exact Or.inl z
      · exact Or.inr ⟨by rw [hop z.2]; exact z.1, trivial⟩
    · have e : i = cnt := by omega
      rw [e, rs_us] at h
      exact Or.inr ⟨by rw [if_pos (by omega)]; exact e, trivial⟩
theorem rs_T4_o {cnt op : Nat} {kd vl wdf odf ws ost : Nat → Nat} (T : rs_T4 cnt op kd vl wdf odf ws ost True) (h : 1 ≤ rs_nd kd vl cnt) : rs_T4 cnt op kd vl wdf odf ws ost (1 ≤ rs_nd kd vl cnt) :=
  ⟨fun i hi g => (T.1 i hi g).imp id fun z => ⟨z.1, h⟩, fun i hi g => (T.2 i hi g).imp id fun z => ⟨z.1, h⟩⟩
theorem rs_T4_w {cnt op : Nat} {kd vl wdf odf ws ost : Nat → Nat} {q : Prop} (T : rs_T4 cnt op kd vl wdf odf ws ost True) (h3 : rs_T3 cnt op kd vl wdf odf) (h9 : kd op = 9) : rs_T4 cnt op kd vl (rs_u wdf (vl op) 1) odf (rs_u ws (vl op) op) ost q := by
  refine ⟨fun i hi h => Or.inl ?_, fun i hi h => ?_⟩
  · rcases T.1 i hi h with z | z
    · have ne : vl i ≠ vl op := fun x => by
        have := h3.2.2.2.2.1 h9
        rw [x, this] at z
        exact absurd z.1 (by decide)
      rw [rs_un ne, rs_un ne]; exact z
    · rw [z.1, rs_us, rs_us]; exact ⟨rfl, rfl⟩
  · rcases T.2 i hi h with z | z
    · exact Or.inl z
    · rw [z.1, h9] at h; exact absurd h (by decide)
theorem rs_T4_q {cnt op : Nat} {kd vl wdf odf ws ost : Nat → Nat} {q : Prop} (T : rs_T4 cnt op kd vl wdf odf ws ost True) (h3 : rs_T3 cnt op kd vl wdf odf) (h10 : kd op = 10) : rs_T4 cnt op kd vl wdf (rs_u odf (vl op) 1) ws (rs_u ost (vl op) op) q := by
  refine ⟨fun i hi h => ?_, fun i hi h => Or.inl ?_⟩
  · rcases T.1 i hi h with z | z
    · exact Or.inl z
    · rw [z.1, h10] at h; exact absurd h (by decide)
  · rcases T.2 i hi h with z | z
    · have ne : vl i ≠ vl op := fun x => by
        have := (h3.2.2.2.2.2 h10).2
        rw [x, this] at z
        exact absurd z.1 (by decide)
      rw [rs_un ne, rs_un ne]; exact z
    · rw [z.1, rs_us, rs_us]; exact ⟨rfl, rfl⟩
theorem rs_T4_n {cnt op : Nat} {kd vl wdf odf ws ost : Nat → Nat} {q : Prop} (T : rs_T4 cnt op kd vl wdf odf ws ost True) (h9 : kd op ≠ 9) (h10 : kd op ≠ 10) : rs_T4 cnt op kd vl wdf odf ws ost q := by
  refine ⟨fun i hi h => Or.inl ?_, fun i hi h => Or.inl ?_⟩
  · rcases T.1 i hi h with z | z
    · exact z
    · rw [z.1] at h; exact absurd h h9
  · rcases T.2 i hi h with z | z
    · exact z
    · rw [z.1] at h; exact absurd h h10
theorem rs_T_n {cnt op : Nat} {kd vl wdf odf ws ost : Nat → Nat} (h1 : rs_T1 cnt kd vl wdf ws) (h2 : rs_T2 cnt kd vl wdf odf ws ost) (h0 : rs_nd kd vl cnt = 0) : rs_T cnt op kd vl wdf odf ws ost := ⟨h1, h2, fun h => by omega⟩
theorem rs_T4_0 (op : Nat) (q : Prop) : rs_T4 0 op (fun _ => 0) (fun _ => 0) (fun _ => 0) (fun _ => 0) (fun _ => 0) (fun _ => 0) q := ⟨fun i h => by omega, fun i h => by omega⟩
/-- the values of the expressions from i on up to e, the nearest one on top -/
def rs_Sk (st R en : Nat → Nat) (e : Nat) : Nat → Nat → Prop
  | 0, i => i = e
  | n + 1, i => i < e ∧ st n = R i ∧ rs_Sk st R en e n (en i)
theorem rs_Sk_u {st st' R en : Nat → Nat} {e : Nat} : ∀ n i, (∀ x, x < n → st' x = st x) → rs_Sk st R en e n i → rs_Sk st' R en e n i := by
  intro n
  induction n with
  | zero => intro i _ h; exact h
  | succ n ih =>
    intro i hx h
    exact ⟨h.1, by rw [hx n (by omega)]; exact h.2.1, ih _ (fun x z => hx x (by omega)) h.2.2⟩
theorem rs_Sk_le {st R en : Nat → Nat} {e lo : Nat} (hen : ∀ i, lo ≤ i → i < e → i < en i) : ∀ n i, lo ≤ i → rs_Sk st R en e n i → i + n ≤ e := by
  intro n
  induction n with
  | zero => intro i _ h; exact Nat.le_of_eq h
  | succ n ih =>
    intro i hl h
    have a := hen i hl h.1
    have b := ih (en i) (by omega) h.2.2
    omega
theorem rs_Sk_p {st R en : Nat → Nat} {e n i : Nat} (h : rs_Sk st R en e n i) (hi : i < e) : ∃ m, n = m + 1 ∧ st m = R i ∧ rs_Sk st R en e m (en i) := by
  cases n with
  | zero => exact absurd h (show ¬ i = e by omega)
  | succ m => exact ⟨m, rfl, h.2.1, h.2.2⟩
/-- ends are nested -/
theorem rs_nest {kd vl en : Nat → Nat} {t : Nat} (h0 : rs_nd kd vl t = 0) (he : ∀ i, i < t → en i = rs_e1 en (rs_ar (kd i) (vl i)) i) {p y : Nat} (hp : p < t) (h1 : 1 ≤ rs_nd kd vl p) (hy : p ≤ y) (hy' : y < en p) : y < t ∧ 1 ≤ rs_nd kd vl y ∧ en y ≤ en p := by
  obtain ⟨a1, a2, a3, a4⟩ := rs_parse h0 he _ p (Nat.le_refl _) hp
  have hyt : y < t := by omega
  obtain ⟨b1, b2, b3, b4⟩ := rs_parse h0 he _ y (Nat.le_refl _) hyt
  have c : rs_nd kd vl p - 1 < rs_nd kd vl y := by
    rcases Nat.lt_or_ge p y with g | g
    · exact a4 y g hy'
    · have e : y = p := by omega
      rw [e]; omega
  refine ⟨hyt, by omega, ?_⟩
  rcases Nat.lt_or_ge (en p) (en y) with g | g
  · have := b4 (en p) hy' g
    omega
  · exact g
/-- the value of a token from the values that it reads -/
def rs_mv (ip rg wv : Nat → Nat) (k v a b c : Nat) : Nat := if k = 1 then v else if k = 2 then ip v else if k = 3 then rg v else if k = 4 then wv v else if k = 5 then rs_f v a b c else if k = 6 then a * 2 ^ v % 256 else if k = 7 then a / 2 ^ v else a / 2 ^ v % 2
theorem rs_mv_me {kd vl en ws ip rg wv R : Nat → Nat} {t y a b c : Nat} (hS : rs_So kd vl en ws ip rg t R) (hy : y < t) (ok : rs_ok (kd y) (vl y)) (h8 : kd y ≤ 8) (hw : kd y = 4 → wv (vl y) = R (ws (vl y))) (ha : 1 ≤ rs_ar (kd y) (vl y) → a = R (y + 1)) (hb : 2 ≤ rs_ar (kd y) (vl y) → b = R (en (y + 1))) (hc : 3 ≤ rs_ar (kd y) (vl y) → c = R (en (en (y + 1)))) : rs_mv ip rg wv (kd y) (vl y) a b c = R y := by
  obtain ⟨g1, g2, g5, g10, g8⟩ := rs_rng ok
  rw [hS y hy]
  unfold rs_mv rs_me
  refine rs_ic (fun _ => rfl) fun n1 => rs_ic (fun _ => rfl) fun n2 => rs_ic (fun _ => rfl) fun n3 => rs_ic (fun e => hw e) fun n4 => rs_ic (fun h5 => ?_) fun n5 => rs_ic (fun h6 => ?_) fun n6 => rs_ic (fun h7 => ?_) fun n7 => ?_
  · obtain ⟨v1, v2⟩ := g5 h5
    rw [ha (rs_ar_6 (by omega))]
    exact rs_f_c v1 v2 (fun x1 x2 => hb (rs_ar_2 h5 x1 x2 v1)) fun x => hc (rs_ar_3 h5 x)
  · rw [ha (rs_ar_6 (by omega))]
  · rw [ha (rs_ar_6 (by omega))]
  · have k8 : kd y = 8 := by have := ok.1; omega
    rw [ha (rs_ar_6 (by omega)), if_pos k8]
end
section
/-! the reference: ends and values of expressions -/
theorem ya_tab : ∀ a, a < 256 → (if a < 128 then nI a else nI a - 256) = nI (a ^^^ 128) - nI 128 := by decide +kernel
theorem ya_sle {x y : Nat} (hx : x < 256) (hy : y < 256) : nI y - nI 128 ≤ nI x - nI 128 ↔ y ≤ x := by
  rw [Int32.le_iff_toInt_le, pk_sub_toInt (by omega) (by omega), pk_sub_toInt (by omega) (by omega)]
  omega
theorem ya_n1 {n a : Nat} (h : 1 ≤ n) : nI n + (nI a - 1) = nI (n + a - 1) := by
  rw [← pk_sub (b := 1) (by omega), ← nI_add]
  rw [Int32.sub_eq_add_neg, Int32.sub_eq_add_neg, Int32.add_assoc]
  rfl
theorem ya_neg : ∀ a, a < 256 → (256 - nI a) &&& 255 = nI ((256 - a) % 256) := by decide +kernel
theorem ya_sb {a b : Nat} (ha : a < 256) (hb : b < 256) : ((nI a - nI b) + 256) &&& 255 = nI ((a + 256 - b) % 256) := by
  have e : nI a - nI b + 256 = nI (a + 256 - b) := by
    rw [← pk_sub (by omega), ← nI_add]
    rw [Int32.sub_eq_add_neg, Int32.sub_eq_add_neg, Int32.add_assoc, Int32.add_assoc, Int32.add_comm (-nI b)]
    rfl
  rw [e]
  exact rs_m8 (by omega)
theorem ya_m7 {v : Nat} (h : v < 8) : nI v &&& 7 = nI v := by
  rw [pk_andN (by omega) 3 (by decide), Nat.mod_eq_of_lt h]
theorem ya_m3 {v : Nat} (h : v < 4) : nI v &&& 3 = nI v := by
  rw [pk_andN (by omega) 2 (by decide), Nat.mod_eq_of_lt h]
section
variable {lim cnt ned okd oix cp : Nat} {cy : Int32} {kd vl rg ip wv wdf odf st nx : Nat → Nat}
theorem ya_ar {post : Int32 → Prop} {x y : Int32} (k v : Nat) (hx : x = nI k) (hy : y = nI v) (h1 : 1 ≤ k) (h2 : k ≤ 8) (hv : v < 256) (hv1 : k = 5 → 1 ≤ v) (H : post (nI (rs_ar k v))) : wpY_arityOf post ((nI lim), (nI cnt), (nI ned), (nI okd), (nI oix), (nI cp), cy, (rs_A kd), (rs_A vl), (rs_A rg), (rs_A ip), (rs_A wv), (rs_A wdf), (rs_A odf), (rs_A st), (rs_A nx)) x y := by
  subst hx hy
  refine pk_lt 4 k (fun h => pk_eq k 5 (fun h5 => ?_) fun h5 => ?_) fun h => ?_
  · have e : rs_ar k v = if v ≤ 2 then 1 else if v = 11 then 3 else 2 := by rw [h5]; rfl
    rw [e] at H
    have v1 := hv1 h5
    refine pk_eq v 1 (fun g => ?_) fun g => pk_eq v 2 (fun g2 => ?_) fun g2 => pk_eq v 11 (fun g3 => ?_) fun g3 => ?_
    · rw [if_pos (by omega)] at H; exact H
    · rw [if_pos (by omega)] at H; exact H
    · rw [if_neg (by omega), if_pos g3] at H; exact H
    · rw [if_neg (by omega), if_neg g3] at H; exact H
  · have e : rs_ar k v = 1 := by
      unfold rs_ar
      rw [if_neg (by omega), if_neg h5, if_neg (by omega)]
    rw [e] at H; exact H
  · have e : rs_ar k v = 0 := by
      unfold rs_ar
      rw [if_pos h]
    rw [e] at H; exact H
theorem ye_end {en ws : Nat → Nat} {post : Int32 → Prop} {y : Int32} (p : Nat) (hy : y = nI p) (P : rs_Pg kd vl en ws cnt) (hc : cnt ≤ 48) (hp : p < cnt) (h1 : 1 ≤ rs_nd kd vl p) (H : post (nI (en p))) : wpY_endOf post ((nI lim), (nI cnt), (nI ned), (nI okd), (nI oix), (nI cp), cy, (rs_A kd), (rs_A vl), (rs_A rg), (rs_A ip), (rs_A wv), (rs_A wdf), (rs_A odf), (rs_A st), (rs_A nx)) y := by
  subst hy
  obtain ⟨a1, a2, a3, a4⟩ := rs_parse P.1 P.2.1 _ p (Nat.le_refl _) hp
  have W : ∀ d i, i + d = en p → p ≤ i → wY_endOf_7 post (nI lim) (nI cnt) (nI ned) (nI okd) (nI oix) (nI cp) cy (rs_A kd) (rs_A vl) (rs_A rg) (rs_A ip) (rs_A wv) (rs_A wdf) (rs_A odf) (rs_A st) (rs_A nx) (d + 1) (nI (rs_nd kd vl i - (rs_nd kd vl p - 1))) (nI i) (nI (i - p)) := by
    intro d
    induction d with
    | zero =>
      intro i hd hi
      have e : i = en p := by omega
      subst e
      have e0 : rs_nd kd vl (en p) - (rs_nd kd vl p - 1) = 0 := by omega
      rw [e0]
      exact br_c (fun _ => H) fun _ => br_c (fun _ => H) fun _ => br_c (fun _ => H) fun _ => br_t (by decide) H
    | succ d ih =>
      intro i hd hi
      obtain ⟨i1, i2, i3⟩ := rs_nest P.1 P.2.1 hp h1 hi (by omega)
      have ok := P.2.2.2.1 i i1
      have k8 := P.2.2.2.2 i i1
      obtain ⟨g1, g2, g5, g10, g8⟩ := rs_rng ok
      have c : rs_nd kd vl p - 1 < rs_nd kd vl i := by
        rcases Nat.lt_or_ge p i with g | g
        · exact a4 i g (by omega)
        · have e : i = p := by omega
          rw [e]; omega
      have nb := rs_nd_le kd vl i
      have hs : rs_nd kd vl (i + 1) = (rs_nd kd vl i - 1) + rs_ar (kd i) (vl i) := rfl
      refine br_f (nI_ge (b := 48) (by omega) (by decide)) (br_f (nI_ge (by omega) (by omega)) (br_f (nI_pos (by omega)) (br_f (nI_nle (by omega) (by omega)) ⟨pk_in i 48 (by omega), pk_in i 48 (by omega), ?_⟩)))
      refine ya_ar (kd i) (vl i) (rs_Ax i rfl (by omega)) (rs_Ax i rfl (by omega)) ok.1 (by omega) g1 ok.2.2.2 ?_
      refine nm_r (ya_n1 (by omega)) (nm_r (nI_1 i) (nm_r (nI_1 (i - p)) ?_))
      have W := ih (i + 1) (by omega) (by omega)
      rw [show rs_nd kd vl (i + 1) - (rs_nd kd vl p - 1) = rs_nd kd vl i - (rs_nd kd vl p - 1) + rs_ar (kd i) (vl i) - 1 by omega, show i + 1 - p = i - p + 1 by omega] at W
      exact W
  have V := W (en p - p) p (by omega) (Nat.le_refl _)
  rw [show rs_nd kd vl p - (rs_nd kd vl p - 1) = 1 by omega, show p - p = 0 by omega] at V
  exact ⟨_, V⟩
theorem ye_s8 {post : Int32 → Prop} {a : Nat} (ha : a < 256) (H : post (nI (a ^^^ 128) - nI 128)) : wpY_s8 post ((nI lim), (nI cnt), (nI ned), (nI okd), (nI oix), (nI cp), cy, (rs_A kd), (rs_A vl), (rs_A rg), (rs_A ip), (rs_A wv), (rs_A wdf), (rs_A odf), (rs_A st), (rs_A nx)) (nI a) := by
  rw [← ya_tab a ha] at H
  refine pk_lt a 128 (fun h => ?_) fun h => ?_
  · rw [if_pos h] at H; exact H
  · rw [if_neg (by omega)] at H; exact H
theorem ye_val {post : Int32 → SY → Prop} {J : Int32 → Int32 → (Nat → Int32) → (Nat → Int32) → (Nat → Int32) → (Nat → Int32) → (Nat → Int32) → (Nat → Int32) → (Nat → Int32) → (Nat → Int32) → (Nat → Int32) → Prop} {x1 x3 x4 : Int32} {k v a b c : Nat} (ok : rs_ok k v) (h8 : k ≤ 8) (ha : a < 256) (hb : b < 256) (hc : c < 256) (K : wY_evalAt_491 post J x1 x3 x4 (nI (rs_mv ip rg wv k v a b c)) (nI lim) (nI cnt) (nI ned) (nI okd) (nI oix) (nI cp) cy (rs_A kd) (rs_A vl) (rs_A rg) (rs_A ip) (rs_A wv) (rs_A wdf) (rs_A odf) (rs_A st) (rs_A nx)) : wY_evalAt_124 post J x1 x3 x4 (nI k) (nI v) (nI a) (nI b) (nI c) (nI lim) (nI cnt) (nI ned) (nI okd) (nI oix) (nI cp) cy (rs_A kd) (rs_A vl) (rs_A rg) (rs_A ip) (rs_A wv) (rs_A wdf) (rs_A odf) (rs_A st) (rs_A nx) := by
  obtain ⟨g1, g2, g5, g10, g8⟩ := rs_rng ok
  have k1 := ok.1
  rcases (by omega : k = 1 ∨ k = 2 ∨ k = 3 ∨ k = 4 ∨ k = 5 ∨ k = 6 ∨ k = 7 ∨ k = 8) with h | h | h | h | h | h | h | h <;> subst h
  · exact br_t rfl K
  · have v4 := g2 rfl
    have e : rs_A ip (nI v &&& 3).toNatClampNeg = nI (ip v) := by rw [ya_m3 v4]; exact rs_Ax v rfl (by omega)
    exact br_f (by decide) (br_t rfl ⟨by rw [ya_m3 v4]; exact vp_in_nI v4 (by decide), nm_r e K⟩)
  · have v8 := g8 (by decide) (by decide)
    have e : rs_A rg (nI v &&& 7).toNatClampNeg = nI (rg v) := by rw [ya_m7 v8]; exact rs_Ax v rfl (by omega)
    exact br_f (by decide) (br_f (by decide) (br_t rfl ⟨by rw [ya_m7 v8]; exact vp_in_nI v8 (by decide), nm_r e K⟩))
  · have v8 := g8 (by decide) (by decide)
    have e : rs_A wv (nI v &&& 7).toNatClampNeg = nI (wv v) := by rw [ya_m7 v8]; exact rs_Ax v rfl (by omega)
    exact br_f (by decide) (br_f (by decide) (br_f (by decide) (br_t rfl ⟨by rw [ya_m7 v8]; exact vp_in_nI v8 (by decide), nm_r e K⟩)))
  · refine br_f (by decide) (br_f (by decide) (br_f (by decide) (br_f (by decide) (br_f (by decide) (br_f (by decide) (br_f (by decide) (br_t rfl ?_)))))))
    obtain ⟨v1, v2⟩ := g5 rfl
    have e : rs_mv ip rg wv 5 v a b c = rs_f v a b c := rfl
    rw [e] at K
    rcases (by omega : v = 1 ∨ v = 2 ∨ v = 3 ∨ v = 4 ∨ v = 5 ∨ v = 6 ∨ v = 7 ∨ v = 8 ∨ v = 9 ∨ v = 10 ∨ v = 11) with h | h | h | h | h | h | h | h | h | h | h <;> subst h
    · exact br_t rfl (nm_r (show 255 - nI a = nI (255 - a) from pk_sub (a := 255) (by omega)) K)
    · exact br_f (by decide) (br_t rfl (nm_r (ya_neg a ha) K))
    · exact br_f (by decide) (br_f (by decide) (br_t rfl (nm_r (by rw [nI_add]; exact rs_m8 (by omega)) K)))
    · exact br_f (by decide) (br_f (by decide) (br_f (by decide) (br_t rfl (nm_r (ya_sb ha hb) K))))
    · exact br_f (by decide) (br_f (by decide) (br_f (by decide) (br_f (by decide) (br_t rfl (nm_r (nx_and a b) K)))))
    · exact br_f (by decide) (br_f (by decide) (br_f (by decide) (br_f (by decide) (br_f (by decide) (br_t rfl (nm_r (rs_or a b) K))))))
    · exact br_f (by decide) (br_f (by decide) (br_f (by decide) (br_f (by decide) (br_f (by decide) (br_f (by decide) (br_t rfl (nm_r (nx_xor a b) K)))))))
    · have e2 : rs_f 8 a b c = if a = b then 1 else 0 := rfl
      rw [e2] at K
      refine br_f (by decide) (br_f (by decide) (br_f (by decide) (br_f (by decide) (br_f (by decide) (br_f (by decide) (br_f (by decide) (br_t rfl ?_)))))))
      refine pk_eq a b (fun h => ?_) fun h => ?_
      · rw [if_pos h] at K; exact K
      · rw [if_neg h] at K; exact K
    · have e2 : rs_f 9 a b c = if a < b then 1 else 0 := rfl
      rw [e2] at K
      refine br_f (by decide) (br_f (by decide) (br_f (by decide) (br_f (by decide) (br_f (by decide) (br_f (by decide) (br_f (by decide) (br_f (by decide) (br_t rfl ?_))))))))
      refine pk_le b a (fun h => ?_) fun h => ?_
      · rw [if_neg (by omega)] at K; exact K
      · rw [if_pos h] at K; exact K
    · have e2 : rs_f 10 a b c = if a ^^^ 128 < b ^^^ 128 then 1 else 0 := rfl
      rw [e2] at K
      have z1 : a ^^^ 128 < 256 := Nat.xor_lt_two_pow (n := 8) ha (by decide)
      have z2 : b ^^^ 128 < 256 := Nat.xor_lt_two_pow (n := 8) hb (by decide)
      refine br_f (by decide) (br_f (by decide) (br_f (by decide) (br_f (by decide) (br_f (by decide) (br_f (by decide) (br_f (by decide) (br_f (by decide) (br_f (by decide) (br_t rfl ?_)))))))))
      refine ye_s8 ha (ye_s8 hb ?_)
      rw [ya_sle z1 z2]
      refine br_c (fun h => ?_) fun h => ?_
      · rw [if_neg (Nat.not_lt.mpr h)] at K; exact K
      · rw [if_pos (Nat.lt_of_not_le h)] at K; exact K
    · have e2 : rs_f 11 a b c = if a = 0 then c else b := rfl
      rw [e2] at K
      refine br_f (by decide) (br_f (by decide) (br_f (by decide) (br_f (by decide) (br_f (by decide) (br_f (by decide) (br_f (by decide) (br_f (by decide) (br_f (by decide) (br_f (by decide) ?_)))))))))
      refine pk_eq a 0 (fun h => ?_) fun h => ?_
      · rw [if_pos h] at K; exact K
      · rw [if_neg h] at K; exact K
  · have v8 := g8 (by decide) (by decide)
    exact br_f (by decide) (br_f (by decide) (br_f (by decide) (br_f (by decide) (br_t rfl (nm_r (rs_shl8 ha v8) K)))))
  · have v8 := g8 (by decide) (by decide)
    exact br_f (by decide) (br_f (by decide) (br_f (by decide) (br_f (by decide) (br_f (by decide) (br_t rfl (nm_r (rs_shrI (by omega) (by omega)) K))))))
  · have v8 := g8 (by decide) (by decide)
    exact br_f (by decide) (br_f (by decide) (br_f (by decide) (br_f (by decide) (br_f (by decide) (br_f (by decide) (br_t rfl (nm_r (rs_shI (by omega) (by omega)) K)))))))
theorem ye_push {post : Int32 → SY → Prop} {J : Int32 → Int32 → (Nat → Int32) → (Nat → Int32) → (Nat → Int32) → (Nat → Int32) → (Nat → Int32) → (Nat → Int32) → (Nat → Int32) → (Nat → Int32) → (Nat → Int32) → Prop} {x1 : Int32} {sp y v : Nat} (hs : sp < 48) (K : J (nI (sp + 1)) (rs_Xm y) (rs_A kd) (rs_A vl) (rs_A rg) (rs_A ip) (rs_A wv) (rs_A wdf) (rs_A odf) (rs_A (rs_u st sp v)) (rs_A nx)) : wY_evalAt_491 post J x1 (nI sp) (nI y) (nI v) (nI lim) (nI cnt) (nI ned) (nI okd) (nI oix) (nI cp) cy (rs_A kd) (rs_A vl) (rs_A rg) (rs_A ip) (rs_A wv) (rs_A wdf) (rs_A odf) (rs_A st) (rs_A nx) :=
  br_f (nI_ge (b := 48) hs (by decide)) ⟨pk_in sp 48 hs, nm_r (rs_upI sp v rfl (by omega)) (nm_r (nI_1 sp) (nm_r (rs_Xm_p y) K))⟩
end
end
section
/-! the reference: the stack machine, the wires, the next values -/
theorem rs_Xm_lt {p : Nat} (h : 1 ≤ p) (hp : p < 2 ^ 31) : rs_Xm p < nI p := by
  cases p with
  | zero => omega
  | succ p => exact nI_lt (by omega) hp
section
variable {lim cnt ned okd oix cp : Nat} {cy : Int32} {kd vl rg ip wv wdf odf st nx : Nat → Nat}
theorem ye_loop {en ws R : Nat → Nat} {post : Int32 → SY → Prop} {p : Nat} (P : rs_Pg kd vl en ws cnt) (hc : cnt ≤ 48) (hp : p < cnt) (h1 : 1 ≤ rs_nd kd vl p) (hS : rs_So kd vl en ws ip rg cnt R) (hR : ∀ i, i < cnt → R i < 256) (HW : ∀ i, p ≤ i → i < en p → kd i = 4 → wv (vl i) = R (ws (vl i))) (H : ∀ st', post (nI (R p)) ((nI lim), (nI cnt), (nI ned), (nI okd), (nI oix), (nI cp), cy, (rs_A kd), (rs_A vl), (rs_A rg), (rs_A ip), (rs_A wv), (rs_A wdf), (rs_A odf), (rs_A st'), (rs_A nx))) : ∀ d lo sp st, p + d = lo → lo ≤ en p → rs_Sk st R en (en p) sp lo → wY_evalAt_13 post (nI p) (nI lim) (nI cnt) (nI ned) (nI okd) (nI oix) (nI cp) cy (d + 1) (nI sp) (rs_Xm lo) (rs_A kd) (rs_A vl) (rs_A rg) (rs_A ip) (rs_A wv) (rs_A wdf) (rs_A odf) (rs_A st) (rs_A nx) := by
  obtain ⟨a1, a2, a3, a4⟩ := rs_parse P.1 P.2.1 _ p (Nat.le_refl _) hp
  have ns : ∀ i, p ≤ i → i < en p → i < cnt ∧ 1 ≤ rs_nd kd vl i ∧ en i ≤ en p := fun i x y => rs_nest P.1 P.2.1 hp h1 x y
  have gt : ∀ i, p ≤ i → i < en p → i < en i := fun i x y => (rs_parse P.1 P.2.1 _ i (Nat.le_refl _) (ns i x y).1).1
  have p1 : 1 ≤ p := by
    rcases Nat.eq_zero_or_pos p with z | z
    · rw [z] at h1; exact absurd h1 (show ¬ 1 ≤ 0 by decide)
    · exact z
  intro d
  induction d with
  | zero =>
    intro lo sp st hl hle K
    have e : lo = p := by omega
    subst e
    have b := rs_Sk_le gt sp lo (Nat.le_refl _) K
    obtain ⟨m, rfl, k2, k3⟩ := rs_Sk_p K a1
    have k2 := k2
    have e2 : rs_A st (nI (m + 1) - 1).toNatClampNeg = nI (R lo) := by
      rw [nI_pred, nI_clamp (by omega)]
      exact congrArg nI k2
    refine br_t (rs_Xm_lt p1 (by omega)) (br_f (nI_nle (by omega) (by omega)) ⟨by rw [nI_pred]; exact vp_in_nI (by omega) (by decide), ?_⟩)
    exact xa_cv (P := fun r => post r _) e2 (H st)
  | succ d ih =>
    intro lo sp st hl hle K
    obtain ⟨y, rfl⟩ : ∃ y, lo = y + 1 := ⟨lo - 1, by omega⟩
    have hpy : p ≤ y := by omega
    obtain ⟨y1, y2, y3⟩ := ns y hpy (by omega)
    have ok := P.2.2.2.1 y y1
    have k8 := P.2.2.2.2 y y1
    obtain ⟨g1, g2, g5, g10, g8⟩ := rs_rng ok
    have b := rs_Sk_le gt sp (y + 1) (by omega) K
    have h3 := rs_ar3 (kd y) (vl y)
    have hen := P.2.1 y y1
    have on : ∀ q, rs_op kd vl en y q → y < q ∧ q < en p := fun q hq => by
      obtain ⟨o1, o2, o3, o4⟩ := rs_opnd P.1 P.2.1 y1 hq
      exact ⟨o1, by omega⟩
    have fin : ∀ n st' a b c, n < 48 → a < 256 → b < 256 → c < 256 → (1 ≤ rs_ar (kd y) (vl y) → a = R (y + 1)) → (2 ≤ rs_ar (kd y) (vl y) → b = R (en (y + 1))) → (3 ≤ rs_ar (kd y) (vl y) → c = R (en (en (y + 1)))) → rs_Sk st' R en (en p) n (en y) → wY_evalAt_124 post (wY_evalAt_13 post (nI p) (nI lim) (nI cnt) (nI ned) (nI okd) (nI oix) (nI cp) cy (d + 1)) (nI p) (nI n) (nI y) (nI (kd y)) (nI (vl y)) (nI a) (nI b) (nI c) (nI lim) (nI cnt) (nI ned) (nI okd) (nI oix) (nI cp) cy (rs_A kd) (rs_A vl) (rs_A rg) (rs_A ip) (rs_A wv) (rs_A wdf) (rs_A odf) (rs_A st') (rs_A nx) := by
      intro n st' a b c hn ha hb hc' qa qb qc K'
      have mv := rs_mv_me (wv := wv) hS y1 ok (by omega) (HW y hpy (by omega)) qa qb qc
      refine ye_val ok (by omega) ha hb hc' (ye_push hn (ih y (n + 1) _ (by omega) (by omega) ⟨by omega, ?_, rs_Sk_u n (en y) (fun x hx => rs_un (by omega)) K'⟩))
      rw [rs_us, mv]
    refine br_f (nI_nlt (by omega) (by omega)) (br_f (nI_pos (by omega)) ⟨pk_in y 48 (by omega), nm_r (rs_Ax y rfl (by omega)) ⟨pk_in y 48 (by omega), nm_r (rs_Ax y rfl (by omega)) ?_⟩⟩)
    refine ya_ar (kd y) (vl y) rfl rfl ok.1 (by omega) g1 ok.2.2.2 ?_
    rcases (by omega : rs_ar (kd y) (vl y) = 0 ∨ rs_ar (kd y) (vl y) = 1 ∨ rs_ar (kd y) (vl y) = 2 ∨ rs_ar (kd y) (vl y) = 3) with h | h | h | h
    · have e : en y = y + 1 := by rw [hen, h]; rfl
      rw [← e] at K
      have F := fin sp st 0 0 0 (by omega) (by decide) (by decide) (by decide) (fun z => by omega) (fun z => by omega) (fun z => by omega) K
      rw [h]
      exact br_t (by decide) (br_t (by decide) (br_t (by decide) F))
    · have e : en y = en (y + 1) := by rw [hen, h]; rfl
      obtain ⟨o1, o2⟩ := on (y + 1) (Or.inl ⟨by omega, rfl⟩)
      obtain ⟨m, rfl, k2, k3⟩ := rs_Sk_p K o2
      have r1 := hR (y + 1) (by omega)
      rw [← e] at k3
      have F := fin m st (R (y + 1)) 0 0 (by omega) r1 (by decide) (by decide) (fun z => rfl) (fun z => by omega) (fun z => by omega) k3
      have s1 : rs_A st (nI m).toNatClampNeg = nI (R (y + 1)) := by rw [rs_Ax m rfl (by omega), k2]
      rw [h]
      exact br_f (by decide) (br_f (nI_nle (by omega) (by omega)) (nm_r (pk_m1 m) ⟨pk_in m 48 (by omega), nm_r s1 (br_t (by decide) (br_t (by decide) F))⟩))
    · have e : en y = en (en (y + 1)) := by rw [hen, h]; rfl
      obtain ⟨o1, o2⟩ := on (y + 1) (Or.inl ⟨by omega, rfl⟩)
      obtain ⟨o3, o4⟩ := on (en (y + 1)) (Or.inr (Or.inl ⟨by omega, rfl⟩))
      obtain ⟨m', rfl, k2, k3⟩ := rs_Sk_p K o2
      obtain ⟨m, rfl, j2, j3⟩ := rs_Sk_p k3 o4
      have r1 := hR (y + 1) (by omega)
      have r2 := hR (en (y + 1)) (by omega)
      rw [← e] at j3
      have F := fin m st (R (y + 1)) (R (en (y + 1))) 0 (by omega) r1 r2 (by decide) (fun z => rfl) (fun z => rfl) (fun z => by omega) j3
      have s1 : rs_A st (nI (m + 1)).toNatClampNeg = nI (R (y + 1)) := by rw [rs_Ax (m + 1) rfl (by omega), k2]
      have s2 : rs_A st (nI m).toNatClampNeg = nI (R (en (y + 1))) := by rw [rs_Ax m rfl (by omega), j2]
      rw [h]
      exact br_f (by decide) (br_f (nI_nle (by omega) (by omega)) (nm_r (pk_m1 (m + 1)) ⟨pk_in (m + 1) 48 (by omega), nm_r s1 (br_f (by decide) (br_f (nI_nle (by omega) (by omega)) (nm_r (pk_m1 m) ⟨pk_in m 48 (by omega), nm_r s2 (br_t (by decide) F)⟩)))⟩))
    · have e : en y = en (en (en (y + 1))) := by rw [hen, h]; rfl
      obtain ⟨o1, o2⟩ := on (y + 1) (Or.inl ⟨by omega, rfl⟩)
      obtain ⟨o3, o4⟩ := on (en (y + 1)) (Or.inr (Or.inl ⟨by omega, rfl⟩))
      obtain ⟨o5, o6⟩ := on (en (en (y + 1))) (Or.inr (Or.inr ⟨by omega, rfl⟩))
      obtain ⟨m'', rfl, k2, k3⟩ := rs_Sk_p K o2
      obtain ⟨m', rfl, j2, j3⟩ := rs_Sk_p k3 o4
      obtain ⟨m, rfl, l2, l3⟩ := rs_Sk_p j3 o6
      have r1 := hR (y + 1) (by omega)
      have r2 := hR (en (y + 1)) (by omega)
      have r3 := hR (en (en (y + 1))) (by omega)
      rw [← e] at l3
      have F := fin m st (R (y + 1)) (R (en (y + 1))) (R (en (en (y + 1)))) (by omega) r1 r2 r3 (fun z => rfl) (fun z => rfl) (fun z => rfl) l3
      have s1 : rs_A st (nI (m + 1 + 1)).toNatClampNeg = nI (R (y + 1)) := by rw [rs_Ax (m + 1 + 1) rfl (by omega), k2]
      have s2 : rs_A st (nI (m + 1)).toNatClampNeg = nI (R (en (y + 1))) := by rw [rs_Ax (m + 1) rfl (by omega), j2]
      have s3 : rs_A st (nI m).toNatClampNeg = nI (R (en (en (y + 1)))) := by rw [rs_Ax m rfl (by omega), l2]
      rw [h]
      exact br_f (by decide) (br_f (nI_nle (by omega) (by omega)) (nm_r (pk_m1 (m + 1 + 1)) ⟨pk_in (m + 1 + 1) 48 (by omega), nm_r s1 (br_f (by decide) (br_f (nI_nle (by omega) (by omega)) (nm_r (pk_m1 (m + 1)) ⟨pk_in (m + 1) 48 (by omega), nm_r s2 (br_f (by decide) (br_f (nI_nle (by omega) (by omega)) (nm_r (pk_m1 m) ⟨pk_in m 48 (by omega), nm_r s3 F⟩)))⟩)))⟩))
theorem ye_eval {en ws R : Nat → Nat} {post : Int32 → SY → Prop} {y : Int32} (p : Nat) (hy : y = nI p) (P : rs_Pg kd vl en ws cnt) (hc : cnt ≤ 48) (hp : p < cnt) (h1 : 1 ≤ rs_nd kd vl p) (hS : rs_So kd vl en ws ip rg cnt R) (hR : ∀ i, i < cnt → R i < 256) (HW : ∀ i, p ≤ i → i < en p → kd i = 4 → wv (vl i) = R (ws (vl i))) (H : ∀ st', post (nI (R p)) ((nI lim), (nI cnt), (nI ned), (nI okd), (nI oix), (nI cp), cy, (rs_A kd), (rs_A vl), (rs_A rg), (rs_A ip), (rs_A wv), (rs_A wdf), (rs_A odf), (rs_A st'), (rs_A nx))) : wpY_evalAt post ((nI lim), (nI cnt), (nI ned), (nI okd), (nI oix), (nI cp), cy, (rs_A kd), (rs_A vl), (rs_A rg), (rs_A ip), (rs_A wv), (rs_A wdf), (rs_A odf), (rs_A st), (rs_A nx)) y := by
  have a := (rs_parse P.1 P.2.1 _ p (Nat.le_refl _) hp).1
  refine ye_end p hy P hc hp h1 (nm_r (rs_Xm_s (en p)) ?_)
  subst hy
  exact ⟨_, ye_loop P hc hp h1 hS hR HW H (en p - p) (en p) 0 st (by omega) (Nat.le_refl _) rfl⟩
/-- what the tokens say of the wires, once the program is complete -/
def rs_Wd (cnt : Nat) (kd vl wdf ws : Nat → Nat) : Prop := (∀ w, wdf w = 1 → ws w < cnt ∧ kd (ws w) = 9 ∧ vl (ws w) = w) ∧ (∀ i, i < cnt → kd i = 9 → ws (vl i) = i) ∧ ∀ i, i < cnt → kd i = 4 → wdf (vl i) = 1
/-- a statement's token -/
theorem rs_stm {kd vl en ws : Nat → Nat} {t : Nat} (P : rs_Pg kd vl en ws t) {i : Nat} (hi : i < t) (h0 : rs_nd kd vl i = 0) : 9 ≤ kd i ∧ i < en i ∧ en i ≤ t ∧ rs_nd kd vl (en i) = 0 ∧ (∀ j, i < j → j < en i → 1 ≤ rs_nd kd vl j) ∧ i + 1 < t ∧ 1 ≤ rs_nd kd vl (i + 1) ∧ en (i + 1) ≤ t ∧ i + 1 < en (i + 1) ∧ (kd i ≠ 11 → en i = en (i + 1)) ∧ (kd i = 11 → en (i + 1) < t ∧ 1 ≤ rs_nd kd vl (en (i + 1)) ∧ en i = en (en (i + 1))) := by
  obtain ⟨a1, a2, a3, a4⟩ := rs_parse P.1 P.2.1 _ i (Nat.le_refl _) hi
  have k := P.2.2.2.2 i hi
  have ok := P.2.2.2.1 i hi
  have k9 : 9 ≤ kd i := by omega
  have k11 := ok.2.1
  have hen := P.2.1 i hi
  obtain ⟨c1, c2, c3⟩ := rs_chain (lo := 0) P.1 (fun i _ => P.2.1 i) (y := i) (by omega) hi
  have ar1 : kd i ≠ 11 → rs_ar (kd i) (vl i) = 1 := fun h => by
    unfold rs_ar
    rw [if_neg (by omega), if_neg (by omega), if_neg h]
  have ar2 : kd i = 11 → rs_ar (kd i) (vl i) = 2 := fun h => by rw [h]; rfl
  have ge : 1 ≤ rs_ar (kd i) (vl i) := rs_ar_6 (by omega)
  obtain ⟨d1, d2, d3⟩ := c1 ge
  have nd1 : rs_nd kd vl (i + 1) = rs_nd kd vl i - 1 + rs_ar (kd i) (vl i) := rfl
  have q := (rs_parse P.1 P.2.1 _ (i + 1) (Nat.le_refl _) d1).2.2.1
  refine ⟨k9, a1, a2, by omega, fun j x y => by have := a4 j x y; omega, d1, by omega, d3, d2, fun h => ?_, fun h => ?_⟩
  · rw [hen, ar1 h]; rfl
  · have e := ar2 h
    exact ⟨(c2 (by omega)).1, by omega, by rw [hen, e]; rfl⟩
theorem ye_w_l {en ws R : Nat → Nat} {post : SY → Prop} (P : rs_Pg kd vl en ws cnt) (hc : cnt ≤ 48) (D : rs_Wd cnt kd vl wdf ws) (hS : rs_So kd vl en ws ip rg cnt R) (hR : ∀ i, i < cnt → R i < 256) (H : ∀ st' wv', (∀ w, wdf w = 1 → wv' w = R (ws w)) → post ((nI lim), (nI cnt), (nI ned), (nI okd), (nI oix), (nI cp), cy, (rs_A kd), (rs_A vl), (rs_A rg), (rs_A ip), (rs_A wv'), (rs_A wdf), (rs_A odf), (rs_A st'), (rs_A nx))) : ∀ d i g wv st, cnt - i ≤ d → i ≤ cnt → rs_nd kd vl i = 0 → g ≤ i → (∀ w, wdf w = 1 → ws w < i → wv w = R (ws w)) → wY_computeWires_25 post (d + 1) (nI i) (nI g) (nI lim) (nI cnt) (nI ned) (nI okd) (nI oix) (nI cp) cy (rs_A kd) (rs_A vl) (rs_A rg) (rs_A ip) (rs_A wv) (rs_A wdf) (rs_A odf) (rs_A st) (rs_A nx) := by
  have done : ∀ n i g wv st, i = cnt → (∀ w, wdf w = 1 → ws w < i → wv w = R (ws w)) → wY_computeWires_25 post (n + 1) (nI i) (nI g) (nI lim) (nI cnt) (nI ned) (nI okd) (nI oix) (nI cp) cy (rs_A kd) (rs_A vl) (rs_A rg) (rs_A ip) (rs_A wv) (rs_A wdf) (rs_A odf) (rs_A st) (rs_A nx) := by
    intro n i g wv st e h
    subst e
    have K := H st wv fun w hw => h w hw (D.1 w hw).1
    exact br_c (fun _ => K) fun _ => br_t (nI_le (Nat.le_refl _) (by omega)) K
  intro d
  induction d with
  | zero => intro i g wv st hd hi h0 hg h; exact done 0 i g wv st (by omega) h
  | succ d ih =>
    intro i g wv st hd hi h0 hg h
    rcases Nat.lt_or_ge i cnt with hlt | hge
    · obtain ⟨s1, s2, s3, s4, s5, s6, s7, s8, s9, s10, s11⟩ := rs_stm P hlt h0
      have ok := P.2.2.2.1 i hlt
      obtain ⟨g1, g2, g5, g10, g8⟩ := rs_rng ok
      have k11 := ok.2.1
      have v8 := g8 (by omega) (by omega)
      have here : ∀ w, wdf w = 1 → ws w < en i → ¬ ws w < i → ws w = i := fun w hw a b => by
        obtain ⟨d1, d2, d3⟩ := D.1 w hw
        rcases Nat.lt_or_ge i (ws w) with z | z
        · have y1 := s5 _ z a
          have y2 := P.2.2.2.2 _ d1
          omega
        · omega
      refine br_f (nI_ge (b := 48) (by omega) (by decide)) (br_f (nI_ge hlt (by omega)) ⟨pk_in i 48 (by omega), nm_r (rs_Ax i rfl (by omega)) ?_⟩)
      refine pk_eq (kd i) 9 (fun k9 => ?_) fun k9 => pk_eq (kd i) 10 (fun k10 => ?_) fun k10 => br_t (show nI (kd i) = nI 11 by rw [show kd i = 11 by omega]) ?_
      · refine ye_eval (i + 1) (nI_1 i) P hc s6 s7 hS hR (fun x x1 x2 x4 => ?_) fun st' => ?_
        · have e9 := s10 (by omega)
          have xl : x < cnt := by omega
          obtain ⟨j, j1, j2, j3⟩ := P.2.2.1 x xl x4
          have ji : j ≤ i := by
            rcases Nat.lt_or_ge i j with z | z
            · have := s5 j z (by omega); omega
            · exact z
          exact h _ (D.2.2 x xl x4) (by omega)
        · have ev : rs_A vl (nI i).toNatClampNeg &&& 7 = nI (vl i) := by rw [rs_Ax i rfl (by omega)]; exact ya_m7 v8
          have eu : upd (rs_A wv) (rs_A vl (nI i).toNatClampNeg &&& 7).toNatClampNeg (nI (R (i + 1))) = rs_A (rs_u wv (vl i) (R (i + 1))) := by
            rw [ev]; exact rs_upI _ _ rfl (by omega)
          refine ⟨pk_in i 48 (by omega), by rw [ev]; exact vp_in_nI v8 (by decide), nm_r eu (ye_end (i + 1) (nI_1 i) P hc s6 s7 (nm_r (nI_1 g) ?_))⟩
          rw [← s10 (by omega)]
          refine ih (en i) (g + 1) _ _ (by omega) s3 s4 (by omega) fun w hw hl => ?_
          have eR : R i = R (i + 1) := by
            rw [hS i hlt]
            unfold rs_me
            rw [if_neg (by omega), if_neg (by omega), if_neg (by omega), if_neg (by omega), if_neg (by omega), if_neg (by omega), if_neg (by omega), if_neg (by omega)]
          obtain ⟨d1, d2, d3⟩ := D.1 w hw
          by_cases z : ws w < i
          · have ne : w ≠ vl i := fun e => by
              have := D.2.1 i hlt k9
              rw [← e] at this
              omega
            rw [rs_un ne]; exact h w hw z
          · have e := here w hw hl z
            have e2 : w = vl i := by rw [e] at d3; exact d3.symm
            rw [e, eR, e2, rs_us]
      · refine ye_end (i + 1) (nI_1 i) P hc s6 s7 (nm_r (nI_1 g) ?_)
        rw [← s10 (by omega)]
        refine ih (en i) (g + 1) _ _ (by omega) s3 s4 (by omega) fun w hw hl => ?_
        by_cases z : ws w < i
        · exact h w hw z
        · have e := here w hw hl z
          have := (D.1 w hw).2.1
          rw [e] at this
          omega
      · have e11 : kd i = 11 := by omega
        obtain ⟨t1, t2, t3⟩ := s11 e11
        refine ye_end (i + 1) (nI_1 i) P hc s6 s7 (ye_end (en (i + 1)) rfl P hc t1 t2 (nm_r (nI_1 g) ?_))
        rw [← t3]
        refine ih (en i) (g + 1) _ _ (by omega) s3 s4 (by omega) fun w hw hl => ?_
        by_cases z : ws w < i
        · exact h w hw z
        · have e := here w hw hl z
          have := (D.1 w hw).2.1
          rw [e] at this
          omega
    · exact done (d + 1) i g wv st (by omega) h
theorem ye_wz {en ws R : Nat → Nat} {post : SY → Prop} (H : ∀ wv', ∃ n, wY_computeWires_25 post n 0 0 (nI lim) (nI cnt) (nI ned) (nI okd) (nI oix) (nI cp) cy (rs_A kd) (rs_A vl) (rs_A rg) (rs_A ip) (rs_A wv') (rs_A wdf) (rs_A odf) (rs_A st) (rs_A nx)) : ∀ d j wv, j + d = 8 → wY_computeWires_2 post (nI lim) (nI cnt) (nI ned) (nI okd) (nI oix) (nI cp) cy (d + 1) (nI j) (rs_A kd) (rs_A vl) (rs_A rg) (rs_A ip) (rs_A wv) (rs_A wdf) (rs_A odf) (rs_A st) (rs_A nx) := by
  intro d
  induction d with
  | zero =>
    intro j wv hj
    have e : j = 8 := by omega
    subst e
    exact br_t xa_8t (H wv)
  | succ d ih =>
    intro j wv hj
    exact br_f (xa_8f (by omega)) ⟨pk_in j 8 (by omega), nm_r (rs_upI j 0 rfl (by omega)) (nm_r (nI_1 j) (ih (j + 1) _ (by omega)))⟩
theorem ye_wires {en ws R : Nat → Nat} {post : SY → Prop} (P : rs_Pg kd vl en ws cnt) (hc : cnt ≤ 48) (D : rs_Wd cnt kd vl wdf ws) (hS : rs_So kd vl en ws ip rg cnt R) (hR : ∀ i, i < cnt → R i < 256) (H : ∀ st' wv', (∀ w, wdf w = 1 → wv' w = R (ws w)) → post ((nI lim), (nI cnt), (nI ned), (nI okd), (nI oix), (nI cp), cy, (rs_A kd), (rs_A vl), (rs_A rg), (rs_A ip), (rs_A wv'), (rs_A wdf), (rs_A odf), (rs_A st'), (rs_A nx))) : wpY_computeWires post ((nI lim), (nI cnt), (nI ned), (nI okd), (nI oix), (nI cp), cy, (rs_A kd), (rs_A vl), (rs_A rg), (rs_A ip), (rs_A wv), (rs_A wdf), (rs_A odf), (rs_A st), (rs_A nx)) :=
  ⟨9, ye_wz (en := en) (ws := ws) (R := R) (fun wv' => ⟨cnt + 1, ye_w_l P hc D hS hR H cnt 0 0 wv' st (by omega) (by omega) rfl (Nat.le_refl _) fun w _ h => by omega⟩) 8 0 wv rfl⟩
end
end
section
/-! the reference: next values, outputs, the clock -/
section
variable {lim cnt ned okd oix cp : Nat} {cy : Int32} {kd vl rg ip wv wdf odf st nx : Nat → Nat}
theorem rs_nz_b {kd vl en ws R rg : Nat → Nat} {t : Nat} (P : rs_Pg kd vl en ws t) {i : Nat} (hi : i < t) (h0 : rs_nd kd vl i = 0) (r : Nat) : rs_nz kd vl en R rg r (en i) = rs_nz kd vl en R rg r (i + 1) := by
  obtain ⟨s1, s2, s3, s4, s5, s6⟩ := rs_stm P hi h0
  have e := rs_nz_k (kd := kd) (vl := vl) (en := en) (R := R) (rg := rg) (r := r) (i := i + 1) (en i - (i + 1)) (fun x x1 x2 => by
    have y1 := s5 x (by omega) (by omega)
    have y2 := P.2.2.2.2 x (by omega)
    omega)
  rw [show i + 1 + (en i - (i + 1)) = en i by omega] at e
  exact e
theorem ye_n_l {en ws R : Nat → Nat} {rg0 : Nat → Nat} {post : Int32 → SY → Prop} {r : Nat} (hr : r < 8) (P : rs_Pg kd vl en ws cnt) (hc : cnt ≤ 48) (hS : rs_So kd vl en ws ip rg cnt R) (hR : ∀ i, i < cnt → R i < 256) (HW : ∀ i, i < cnt → kd i = 4 → wv (vl i) = R (ws (vl i))) (H : ∀ st', post (nI (rs_nz kd vl en R rg0 r cnt)) ((nI lim), (nI cnt), (nI ned), (nI okd), (nI oix), (nI cp), cy, (rs_A kd), (rs_A vl), (rs_A rg), (rs_A ip), (rs_A wv), (rs_A wdf), (rs_A odf), (rs_A st'), (rs_A nx))) : ∀ d i g st, cnt - i ≤ d → i ≤ cnt → rs_nd kd vl i = 0 → g ≤ i → wY_nextOf_19 post (nI r) (d + 1) (nI (rs_nz kd vl en R rg0 r i)) (nI i) (nI g) (nI lim) (nI cnt) (nI ned) (nI okd) (nI oix) (nI cp) cy (rs_A kd) (rs_A vl) (rs_A rg) (rs_A ip) (rs_A wv) (rs_A wdf) (rs_A odf) (rs_A st) (rs_A nx) := by
  have done : ∀ n i g st, i = cnt → wY_nextOf_19 post (nI r) (n + 1) (nI (rs_nz kd vl en R rg0 r i)) (nI i) (nI g) (nI lim) (nI cnt) (nI ned) (nI okd) (nI oix) (nI cp) cy (rs_A kd) (rs_A vl) (rs_A rg) (rs_A ip) (rs_A wv) (rs_A wdf) (rs_A odf) (rs_A st) (rs_A nx) := by
    intro n i g st e
    subst e
    exact br_c (fun _ => H st) fun _ => br_t (nI_le (Nat.le_refl _) (by omega)) (H st)
  intro d
  induction d with
  | zero => intro i g st hd hi h0 hg; exact done 0 i g st (by omega)
  | succ d ih =>
    intro i g st hd hi h0 hg
    rcases Nat.lt_or_ge i cnt with hlt | hge
    · obtain ⟨s1, s2, s3, s4, s5, s6, s7, s8, s9, s10, s11⟩ := rs_stm P hlt h0
      have ok := P.2.2.2.1 i hlt
      obtain ⟨g1, g2, g5, g10, g8⟩ := rs_rng ok
      have k11 := ok.2.1
      have nb := rs_nz_b (R := R) (rg := rg0) P hlt h0 r
      have hWx : ∀ p, p ≤ cnt → en p ≤ cnt → ∀ x, p ≤ x → x < en p → kd x = 4 → wv (vl x) = R (ws (vl x)) := fun p _ a x _ b c => HW x (by omega) c
      have N : ∀ st, wY_nextOf_19 post (nI r) (d + 1) (nI (rs_nz kd vl en R rg0 r (en i))) (nI (en i)) (nI (g + 1)) (nI lim) (nI cnt) (nI ned) (nI okd) (nI oix) (nI cp) cy (rs_A kd) (rs_A vl) (rs_A rg) (rs_A ip) (rs_A wv) (rs_A wdf) (rs_A odf) (rs_A st) (rs_A nx) := fun st => ih (en i) (g + 1) st (by omega) s3 s4 (by omega)
      have K : ¬ (kd i = 11 ∧ vl i = r ∧ R (i + 1) ≠ 0) → ∀ st, wY_nextOf_19 post (nI r) (d + 1) (nI (rs_nz kd vl en R rg0 r i)) (nI (en i)) (nI (g + 1)) (nI lim) (nI cnt) (nI ned) (nI okd) (nI oix) (nI cp) cy (rs_A kd) (rs_A vl) (rs_A rg) (rs_A ip) (rs_A wv) (rs_A wdf) (rs_A odf) (rs_A st) (rs_A nx) := fun z st => by
        have e : rs_nz kd vl en R rg0 r (i + 1) = rs_nz kd vl en R rg0 r i := if_neg z
        have W := N st
        rw [nb, e] at W
        exact W
      refine br_f (nI_ge (b := 48) (by omega) (by decide)) (br_f (nI_ge hlt (by omega)) ⟨pk_in i 48 (by omega), nm_r (rs_Ax i rfl (by omega)) ?_⟩)
      refine pk_eq (kd i) 11 (fun k => ?_) fun k => ?_
      · obtain ⟨t1, t2, t3⟩ := s11 k
        have e2 : en (en (i + 1)) ≤ cnt := by omega
        refine ye_end (i + 1) (nI_1 i) P hc s6 s7 ⟨pk_in i 48 (by omega), ?_⟩
        refine pk_eq (vl i) r (fun hv => ?_) (fun hv => ?_) (rs_Ax i rfl (by omega)) rfl
        · refine ye_eval (i + 1) (nI_1 i) P hc s6 s7 hS hR (hWx _ (by omega) s8) fun st1 => ?_
          have r1 := hR (i + 1) s6
          refine pk_eq (R (i + 1)) 0 (fun z => ?_) fun z => ?_
          · refine ye_end (en (i + 1)) rfl P hc t1 t2 (nm_r (nI_1 g) ?_)
            rw [← t3]
            exact K (fun y => y.2.2 z) st1
          · refine ye_eval (en (i + 1)) rfl P hc t1 t2 hS hR (hWx _ (by omega) e2) fun st2 => ?_
            refine ye_end (en (i + 1)) rfl P hc t1 t2 (nm_r (nI_1 g) ?_)
            rw [← t3]
            have e : rs_nz kd vl en R rg0 r (i + 1) = R (en (i + 1)) := if_pos ⟨k, hv, z⟩
            have W := N st2
            rw [nb, e] at W
            exact W
        · refine ye_end (en (i + 1)) rfl P hc t1 t2 (nm_r (nI_1 g) ?_)
          rw [← t3]
          exact K (fun y => hv y.2.1) st
      · have L : wY_nextOf_113 post (wY_nextOf_19 post (nI r) (d + 1)) (nI r) (nI (rs_nz kd vl en R rg0 r i)) (nI i) (nI g) (nI lim) (nI cnt) (nI ned) (nI okd) (nI oix) (nI cp) cy (rs_A kd) (rs_A vl) (rs_A rg) (rs_A ip) (rs_A wv) (rs_A wdf) (rs_A odf) (rs_A st) (rs_A nx) := by
          refine ye_end (i + 1) (nI_1 i) P hc s6 s7 (nm_r (nI_1 g) ?_)
          rw [← s10 k]
          exact K (fun y => k y.1) st
        exact pk_eq (kd i) 9 (fun _ => L) fun k9 => pk_eq (kd i) 10 (fun _ => L) fun k10 => absurd s1 (by omega)
    · exact done (d + 1) i g st (by omega)
theorem ye_next {en ws R : Nat → Nat} {post : Int32 → SY → Prop} {r : Nat} (hr : r < 8) (P : rs_Pg kd vl en ws cnt) (hc : cnt ≤ 48) (D : rs_Wd cnt kd vl wdf ws) (hS : rs_So kd vl en ws ip rg cnt R) (hR : ∀ i, i < cnt → R i < 256) (H : ∀ st' wv', post (nI (rs_nz kd vl en R rg r cnt)) ((nI lim), (nI cnt), (nI ned), (nI okd), (nI oix), (nI cp), cy, (rs_A kd), (rs_A vl), (rs_A rg), (rs_A ip), (rs_A wv'), (rs_A wdf), (rs_A odf), (rs_A st'), (rs_A nx))) : wpY_nextOf post ((nI lim), (nI cnt), (nI ned), (nI okd), (nI oix), (nI cp), cy, (rs_A kd), (rs_A vl), (rs_A rg), (rs_A ip), (rs_A wv), (rs_A wdf), (rs_A odf), (rs_A st), (rs_A nx)) (nI r) := by
  unfold wpY_nextOf
  refine ye_wires P hc D hS hR fun st' wv' hw => ?_
  have e : rs_A rg (nI r &&& 7).toNatClampNeg = nI (rs_nz kd vl en R rg r 0) := by rw [ya_m7 hr]; exact rs_Ax r rfl (by omega)
  exact ⟨by rw [ya_m7 hr]; exact vp_in_nI hr (by decide), nm_r e ⟨cnt + 1, ye_n_l hr P hc hS hR (fun i hi h4 => hw _ (D.2.2 i hi h4)) (fun st'' => H st'' wv') cnt 0 0 st' (by omega) (by omega) rfl (Nat.le_refl _)⟩⟩
theorem ye_o_l {en ws R ost : Nat → Nat} {post : Int32 → SY → Prop} {o : Nat} (ho : o < 4) (P : rs_Pg kd vl en ws cnt) (hc : cnt ≤ 48) (hS : rs_So kd vl en ws ip rg cnt R) (hR : ∀ i, i < cnt → R i < 256) (HW : ∀ i, i < cnt → kd i = 4 → wv (vl i) = R (ws (vl i))) (h1 : ost o < cnt) (h2 : kd (ost o) = 10) (h3 : vl (ost o) = o) (hU : ∀ i, i < cnt → kd i = 10 → ost (vl i) = i) (H : ∀ st', post (nI (R (ost o))) ((nI lim), (nI cnt), (nI ned), (nI okd), (nI oix), (nI cp), cy, (rs_A kd), (rs_A vl), (rs_A rg), (rs_A ip), (rs_A wv), (rs_A wdf), (rs_A odf), (rs_A st'), (rs_A nx))) : ∀ d i, i + d = cnt → i ≤ ost o → wY_getOutput_35 post (nI o) (nI lim) (nI cnt) (nI ned) (nI okd) (nI oix) (nI cp) cy (rs_A kd) (rs_A vl) (rs_A rg) (rs_A ip) (rs_A wv) (rs_A wdf) (rs_A odf) (rs_A st) (rs_A nx) (d + 1) (nI i) := by
  intro d
  induction d with
  | zero => intro i hd hi; omega
  | succ d ih =>
    intro i hd hi
    have hlt : i < cnt := by omega
    have ok := P.2.2.2.1 i hlt
    obtain ⟨g1, g2, g5, g10, g8⟩ := rs_rng ok
    have k11 := ok.2.1
    have N : i ≠ ost o → wY_getOutput_35 post (nI o) (nI lim) (nI cnt) (nI ned) (nI okd) (nI oix) (nI cp) cy (rs_A kd) (rs_A vl) (rs_A rg) (rs_A ip) (rs_A wv) (rs_A wdf) (rs_A odf) (rs_A st) (rs_A nx) (d + 1) (nI (i + 1)) := fun z => ih (i + 1) (by omega) (by omega)
    refine br_f (nI_ge hlt (by omega)) ⟨pk_in i 48 (by omega), ?_⟩
    refine pk_eq (kd i) 10 (fun k => ⟨pk_in i 48 (by omega), pk_eq (vl i) o (fun hv => ?_) (fun hv => nm_r (nI_1 i) (N fun e => hv (by rw [e]; exact h3))) (rs_Ax i rfl (by omega)) rfl⟩) (fun k => nm_r (nI_1 i) (N fun e => k (by rw [e]; exact h2))) (rs_Ax i rfl (by omega)) rfl
    have e : i = ost o := by
      have := hU i hlt k
      rw [hv] at this
      exact this.symm
    have n0 : rs_nd kd vl i = 0 := (P.2.2.2.2 i hlt).mp (by omega)
    obtain ⟨s1, s2, s3, s4, s5, s6, s7, s8, s9, s10, s11⟩ := rs_stm P hlt n0
    refine ye_eval (i + 1) (nI_1 i) P hc s6 s7 hS hR (fun x _ x2 x4 => HW x (by omega) x4) fun st' => ?_
    have eR : R (ost o) = R (i + 1) := by
      rw [← e, hS i hlt]
      unfold rs_me
      rw [if_neg (by omega), if_neg (by omega), if_neg (by omega), if_neg (by omega), if_neg (by omega), if_neg (by omega), if_neg (by omega), if_neg (by omega)]
    have K := H st'
    rw [eR] at K
    exact K
theorem ye_c1 {en ws R : Nat → Nat} {post : Int32 → SY → Prop} {J : Int32 → Int32 → Int32 → Int32 → Int32 → Int32 → Int32 → Int32 → (Nat → Int32) → (Nat → Int32) → (Nat → Int32) → (Nat → Int32) → (Nat → Int32) → (Nat → Int32) → (Nat → Int32) → (Nat → Int32) → (Nat → Int32) → Prop} {x2 : Int32} {c : Nat} (hN : ∀ r, r < 8 → nx r = rs_nz kd vl en R rg r cnt) (K : J (nI (c + 1)) (nI lim) (nI cnt) (nI ned) (nI okd) (nI oix) (nI cp) (cy + 1) (rs_A kd) (rs_A vl) (rs_A (rs_nj kd vl en R rg cnt 8)) (rs_A ip) (rs_A wv) (rs_A wdf) (rs_A odf) (rs_A st) (rs_A nx)) : ∀ d j, j + d = 8 → wY_clock_75 post J x2 (nI c) (nI lim) (nI cnt) (nI ned) (nI okd) (nI oix) (nI cp) cy (d + 1) (nI j) (rs_A kd) (rs_A vl) (rs_A (rs_nj kd vl en R rg cnt j)) (rs_A ip) (rs_A wv) (rs_A wdf) (rs_A odf) (rs_A st) (rs_A nx) := by
  intro d
  induction d with
  | zero =>
    intro j hj
    have e : j = 8 := by omega
    subst e
    exact br_t xa_8t (nm_e (nm_r (nI_1 c) K))
  | succ d ih =>
    intro j hj
    have eu : upd (rs_A (rs_nj kd vl en R rg cnt j)) (nI j).toNatClampNeg (rs_A nx (nI j).toNatClampNeg) = rs_A (rs_nj kd vl en R rg cnt (j + 1)) := by
      rw [rs_Ax j rfl (by omega), hN j (by omega), nI_clamp (by omega), rs_upd, rs_nj_s]
    exact br_f (xa_8f (by omega)) ⟨pk_in j 8 (by omega), pk_in j 8 (by omega), nm_r eu (nm_r (nI_1 j) (ih (j + 1) (by omega)))⟩
theorem ye_c2 {en ws R : Nat → Nat} {post : Int32 → SY → Prop} {J : Int32 → Int32 → Int32 → Int32 → Int32 → Int32 → Int32 → Int32 → (Nat → Int32) → (Nat → Int32) → (Nat → Int32) → (Nat → Int32) → (Nat → Int32) → (Nat → Int32) → (Nat → Int32) → (Nat → Int32) → (Nat → Int32) → Prop} {x2 : Int32} {c : Nat} (P : rs_Pg kd vl en ws cnt) (hc : cnt ≤ 48) (D : rs_Wd cnt kd vl wdf ws) (hS : rs_So kd vl en ws ip rg cnt R) (hR : ∀ i, i < cnt → R i < 256) (K : ∀ wv' st' nx', J (nI (c + 1)) (nI lim) (nI cnt) (nI ned) (nI okd) (nI oix) (nI cp) (cy + 1) (rs_A kd) (rs_A vl) (rs_A (rs_nj kd vl en R rg cnt 8)) (rs_A ip) (rs_A wv') (rs_A wdf) (rs_A odf) (rs_A st') (rs_A nx')) : ∀ d j wv st nx, j + d = 8 → (∀ r, r < j → nx r = rs_nz kd vl en R rg r cnt) → wY_clock_46 post J x2 (nI c) (d + 1) (nI j) (nI lim) (nI cnt) (nI ned) (nI okd) (nI oix) (nI cp) cy (rs_A kd) (rs_A vl) (rs_A rg) (rs_A ip) (rs_A wv) (rs_A wdf) (rs_A odf) (rs_A st) (rs_A nx) := by
  intro d
  induction d with
  | zero =>
    intro j wv st nx hj hN
    have e : j = 8 := by omega
    subst e
    have W := ye_c1 (en := en) (ws := ws) (R := R) (post := post) (J := J) (x2 := x2) (lim := lim) (cnt := cnt) (ned := ned) (okd := okd) (oix := oix) (cp := cp) (cy := cy) (kd := kd) (vl := vl) (rg := rg) (ip := ip) (wv := wv) (wdf := wdf) (odf := odf) (st := st) (nx := nx) hN (K wv st nx) 8 0 rfl
    rw [rs_nj_0] at W
    exact br_t xa_8t ⟨9, W⟩
  | succ d ih =>
    intro j wv st nx hj hN
    refine br_f (xa_8f (by omega)) (ye_next (by omega) P hc D hS hR fun st' wv' => ?_)
    refine ⟨pk_in j 8 (by omega), nm_r (rs_upI j _ rfl (by omega)) (nm_r (nI_1 j) (ih (j + 1) wv' st' _ (by omega) fun r hr => ?_))⟩
    rcases Nat.lt_or_ge r j with q | q
    · rw [rs_un (by omega)]; exact hN r q
    · have e : r = j := by omega
      rw [e, rs_us]
theorem ye_clk {en ws : Nat → Nat} {post : Int32 → SY → Prop} {cyc : Nat} {cy0 : Int32} (h8 : cyc ≤ 8) (P : rs_Pg kd vl en ws cnt) (hc : cnt ≤ 48) (D : rs_Wd cnt kd vl wdf ws) (H : ∀ wv' st' nx', post 0 ((nI lim), (nI cnt), (nI ned), (nI okd), (nI oix), (nI cp), (cy0 + nI cyc), (rs_A kd), (rs_A vl), (rs_A (rs_NN kd vl en ws ip cnt rg cyc)), (rs_A ip), (rs_A wv'), (rs_A wdf), (rs_A odf), (rs_A st'), (rs_A nx'))) : ∀ d c wv st nx, c + d = cyc → rs_B ip (rs_NN kd vl en ws ip cnt rg c) → wY_clock_38 post (nI cyc) (d + 1) (nI c) (nI lim) (nI cnt) (nI ned) (nI okd) (nI oix) (nI cp) (cy0 + nI c) (rs_A kd) (rs_A vl) (rs_A (rs_NN kd vl en ws ip cnt rg c)) (rs_A ip) (rs_A wv) (rs_A wdf) (rs_A odf) (rs_A st) (rs_A nx) := by
  intro d
  induction d with
  | zero =>
    intro c wv st nx hd hB
    have e : c = cyc := by omega
    subst e
    exact br_t (nI_le (Nat.le_refl _) (by omega)) (H wv st nx)
  | succ d ih =>
    intro c wv st nx hd hB
    have hS := rs_RS_so P ip (rs_NN kd vl en ws ip cnt rg c) (fun _ => 0)
    have hR := rs_So_lt P hB hS
    refine br_f (nI_ge (by omega) (by omega)) ⟨9, ye_c2 (R := rs_RS kd vl en ws ip (rs_NN kd vl en ws ip cnt rg c) (fun _ => 0) cnt) P hc D hS hR (fun wv' st' nx' => ?_) 8 0 wv st nx rfl fun r hr => by omega⟩
    have W := ih (c + 1) wv' st' nx' (by omega) (rs_N_B P hB)
    rw [rs_N_e P hS]
    have e : cy0 + nI c + 1 = cy0 + nI (c + 1) := by rw [Int32.add_assoc, nI_1]
    rw [e]
    exact W
end
end
section
/-! taking a token, on both sides -/
theorem xt_b1 : vp_nar .boolean 1 = nI 1 := by rfl
def rs_lo (k : Nat) : Nat := if k = 5 then 1 else 0
theorem xt_lo {post : Int32 → Prop} (k : Nat) (hk : k ≤ 11) (H : post (nI (rs_lo k))) : wpX_lowestValue post (nI k) := by
  unfold rs_lo at H
  refine pk_eq k 5 (fun h => ?_) fun h => ?_
  · rw [if_pos h] at H; exact H
  · rw [if_neg h] at H; exact H
theorem xt_hi {post : Int32 → Prop} (k : Nat) (h1 : 1 ≤ k) (h2 : k ≤ 11) (H : post (nI (rs_hi k))) : wpX_highestValue post (nI k) := by
  rcases (by omega : k = 1 ∨ k = 2 ∨ k = 3 ∨ k = 4 ∨ k = 5 ∨ k = 6 ∨ k = 7 ∨ k = 8 ∨ k = 9 ∨ k = 10 ∨ k = 11) with h | h | h | h | h | h | h | h | h | h | h <;> subst h
  · exact br_f (by decide) (br_f (by decide) (br_t rfl H))
  · exact br_f (by decide) (br_f (by decide) (br_f (by decide) (br_t rfl H)))
  · exact br_f (by decide) (br_f (by decide) (br_f (by decide) (br_f (by decide) (br_t rfl H))))
  · exact br_f (by decide) (br_f (by decide) (br_f (by decide) (br_f (by decide) (br_f (by decide) (br_t rfl H)))))
  · exact br_f (by decide) (br_f (by decide) (br_f (by decide) (br_f (by decide) (br_f (by decide) (br_f (by decide) (br_t rfl H))))))
  · exact br_f (by decide) (br_f (by decide) (br_f (by decide) (br_f (by decide) (br_f (by decide) (br_f (by decide) (br_f (by decide) (br_t rfl H)))))))
  · exact br_f (by decide) (br_f (by decide) (br_f (by decide) (br_f (by decide) (br_f (by decide) (br_f (by decide) (br_f (by decide) (br_f (by decide) (br_t rfl H))))))))
  · exact br_f (by decide) (br_f (by decide) (br_f (by decide) (br_f (by decide) (br_f (by decide) (br_f (by decide) (br_f (by decide) (br_f (by decide) (br_f (by decide) (br_t rfl H)))))))))
  · exact br_f (by decide) (br_f (by decide) (br_f (by decide) (br_f (by decide) (br_f (by decide) (br_f (by decide) (br_f (by decide) (br_f (by decide) (br_f (by decide) (br_f (by decide) (br_t rfl H))))))))))
  · exact br_f (by decide) (br_f (by decide) (br_f (by decide) (br_f (by decide) (br_f (by decide) (br_f (by decide) (br_f (by decide) (br_f (by decide) (br_f (by decide) (br_f (by decide) (br_f (by decide) (br_t rfl H)))))))))))
  · exact br_f (by decide) (br_f (by decide) (br_f (by decide) (br_f (by decide) (br_f (by decide) (br_f (by decide) (br_f (by decide) (br_f (by decide) (br_f (by decide) (br_f (by decide) (br_f (by decide) (br_f (by decide) (br_t rfl H))))))))))))
theorem xt_is {post : Int32 → Prop} (k : Nat) (hk : k ≤ 11) (H : post (nI (if 9 ≤ k then 1 else 0))) : wpX_isStatement post (nI k) := by
  refine pk_lt k 9 (fun h => ?_) fun h => ?_
  · rw [if_neg (by omega)] at H; exact H
  · rw [if_pos h] at H; exact H
section
variable {lim cnt ned op cp nc : Nat} {cy : Int32} {kd vl rg ip wdf odf ws ost fo so to en ord res gl gr fs tb : Nat → Nat} {L : Nat → Bool}
variable {okd oix : Nat} {wv st nx : Nat → Nat}
theorem yt_hi {post : Int32 → Prop} (k : Nat) (hk : k ≤ 11) (H : post (nI (rs_hi k))) : wpY_maxOf post ((nI lim), (nI cnt), (nI ned), (nI okd), (nI oix), (nI cp), cy, (rs_A kd), (rs_A vl), (rs_A rg), (rs_A ip), (rs_A wv), (rs_A wdf), (rs_A odf), (rs_A st), (rs_A nx)) (nI k) := by
  unfold rs_hi at H
  refine pk_eq k 1 (fun h => ?_) fun h => pk_eq k 2 (fun h2 => ?_) fun h2 => pk_eq k 10 (fun h3 => ?_) fun h3 => pk_eq k 5 (fun h4 => ?_) fun h4 => ?_
  · rw [if_pos h] at H; exact H
  · rw [if_neg h, if_pos h2] at H; exact H
  · rw [if_neg h, if_neg h2, if_neg (by omega), if_pos h3] at H; exact H
  · rw [if_neg h, if_neg h2, if_pos h4] at H; exact H
  · rw [if_neg h, if_neg h2, if_neg h4, if_neg h3] at H; exact H
/-- the same answer on both sides; 0 is the token's acceptance -/
theorem xt_ref (p0 p1 : Int32) (hl : lim ≤ 48) (hct : cnt ≤ lim) (hnd : ned ≤ 200) (hw : ∀ w, wdf w = 0 ∨ wdf w = 1) (ho : ∀ w, odf w = 0 ∨ odf w = 1) (hcp : cp = 0 ∨ cp = 1) : ∃ rr : Int32, (∀ post : Int32 → Prop, post rr → wpX_refusalOf post ((nI lim), (nI cnt), (nI ned), (nI op), (nI cp), cy, (nI nc), (rs_A kd), (rs_A vl), (rs_A rg), (rs_A ip), (rs_A wdf), (rs_A odf), (rs_A ws), (rs_A ost), (rs_A fo), (rs_A so), (rs_A to), (rs_A en), (rs_A ord), (rs_A res), (rs_A gl), (rs_A gr), (rs_A fs), (rs_A tb), (rs_AB L)) p0 p1) ∧ (∀ post : Int32 → SY → Prop, (rr ≠ 0 → post rr ((nI lim), (nI cnt), (nI ned), (nI okd), (nI oix), (nI cp), cy, (rs_A kd), (rs_A vl), (rs_A rg), (rs_A ip), (rs_A wv), (rs_A wdf), (rs_A odf), (rs_A st), (rs_A nx))) → (rr = 0 → wY_token_164 post p0 p1 (nI lim) (nI cnt) (nI ned) (nI okd) (nI oix) (nI cp) cy (rs_A kd) (rs_A vl) (rs_A rg) (rs_A ip) (rs_A wv) (rs_A wdf) (rs_A odf) (rs_A st) (rs_A nx)) → wpY_token post ((nI lim), (nI cnt), (nI ned), (nI okd), (nI oix), (nI cp), cy, (rs_A kd), (rs_A vl), (rs_A rg), (rs_A ip), (rs_A wv), (rs_A wdf), (rs_A odf), (rs_A st), (rs_A nx)) p0 p1) ∧ (rr = 0 → ∃ k v, p0 = nI k ∧ p1 = nI v ∧ rs_ok k v ∧ cp = 0 ∧ cnt < lim ∧ (9 ≤ k ↔ ned = 0) ∧ (k = 4 → wdf v = 1) ∧ (k = 9 → wdf v = 0) ∧ (k = 10 → odf v = 0)) := by
  rcases hcp with hcp | hcp <;> subst hcp
  case inr => exact ⟨-1, fun post h => br_f (by decide) h, fun post h _ => br_f (by decide) (h (by decide)), fun h => absurd h (by decide)⟩
  rcases pk_ix p0 (n := 12) (by decide) with h | h | ⟨k, hk, rfl⟩
  · have h1 : p0 < 1 := Int32.lt_of_lt_of_le h (by decide)
    exact ⟨-2, fun post h => br_t rfl (br_t h1 h), fun post h _ => br_t rfl (br_t h1 (h (by decide))), fun h => absurd h (by decide)⟩
  · have h1 : ¬ p0 < 1 := Int32.not_lt.mpr (Int32.le_trans (by decide) h)
    have h2 : ¬ p0 ≤ 11 := fun z => absurd (Int32.le_trans h z) (by decide)
    exact ⟨-2, fun post h => br_t rfl (br_f h1 (br_f h2 h)), fun post h _ => br_t rfl (br_f h1 (br_f h2 (h (by decide)))), fun h => absurd h (by decide)⟩
  rcases Nat.eq_zero_or_pos k with hz | hk1
  · subst hz
    exact ⟨-2, fun post h => br_t rfl (br_t (by decide) h), fun post h _ => br_t rfl (br_t (by decide) (h (by decide))), fun h => absurd h (by decide)⟩
  have k1 : ¬ nI k < 1 := nI_nlt (b := 1) hk1 (by omega)
  have k11 : nI k ≤ 11 := nI_le (b := 11) (by omega) (by decide)
  have Xlo : ∀ post : Int32 → Prop, ((p1 < nI (rs_lo k) → post (-3)) ∧ (¬ p1 < nI (rs_lo k) → wpX_highestValue (fun r_6 => (((p1 ≤ r_6 → (((nI cnt < nI lim → (wpX_isStatement (fun r_9 => (((nI ned = 0 → (wX_refusalOf_72 post (nI k) p1 1 r_9 (nI lim) (nI cnt) (nI ned) (nI op) (nI 0) cy (nI nc) (rs_A kd) (rs_A vl) (rs_A rg) (rs_A ip) (rs_A wdf) (rs_A odf) (rs_A ws) (rs_A ost) (rs_A fo) (rs_A so) (rs_A to) (rs_A en) (rs_A ord) (rs_A res) (rs_A gl) (rs_A gr) (rs_A fs) (rs_A tb) (rs_AB L))) ∧ (¬ nI ned = 0 → (wX_refusalOf_72 post (nI k) p1 0 r_9 (nI lim) (nI cnt) (nI ned) (nI op) (nI 0) cy (nI nc) (rs_A kd) (rs_A vl) (rs_A rg) (rs_A ip) (rs_A wdf) (rs_A odf) (rs_A ws) (rs_A ost) (rs_A fo) (rs_A so) (rs_A to) (rs_A en) (rs_A ord) (rs_A res) (rs_A gl) (rs_A gr) (rs_A fs) (rs_A tb) (rs_AB L)))))) (nI k))) ∧ (¬ nI cnt < nI lim → (post (-4)))))) ∧ (¬ p1 ≤ r_6 → (post (-3)))))) (nI k))) → wpX_refusalOf post ((nI lim), (nI cnt), (nI ned), (nI op), (nI 0), cy, (nI nc), (rs_A kd), (rs_A vl), (rs_A rg), (rs_A ip), (rs_A wdf), (rs_A odf), (rs_A ws), (rs_A ost), (rs_A fo), (rs_A so), (rs_A to), (rs_A en), (rs_A ord), (rs_A res), (rs_A gl), (rs_A gr), (rs_A fs), (rs_A tb), (rs_AB L)) (nI k) p1 := fun post h => br_t rfl (br_f k1 (br_t k11 (xt_lo k (by omega) h)))
  have Ylo : ∀ post : Int32 → SY → Prop, wY_token_33 post (nI k) p1 (nI (rs_lo k)) (nI lim) (nI cnt) (nI ned) (nI okd) (nI oix) (nI 0) cy (rs_A kd) (rs_A vl) (rs_A rg) (rs_A ip) (rs_A wv) (rs_A wdf) (rs_A odf) (rs_A st) (rs_A nx) → wpY_token post ((nI lim), (nI cnt), (nI ned), (nI okd), (nI oix), (nI 0), cy, (rs_A kd), (rs_A vl), (rs_A rg), (rs_A ip), (rs_A wv), (rs_A wdf), (rs_A odf), (rs_A st), (rs_A nx)) (nI k) p1 := fun post h => by
    unfold rs_lo at h
    refine br_t rfl (br_f k1 (br_t k11 (pk_eq k 5 (fun g => ?_) fun g => ?_)))
    · rw [if_pos g] at h; exact h
    · rw [if_neg g] at h; exact h
  by_cases hlo : p1 < nI (rs_lo k)
  · exact ⟨-3, fun post h => Xlo post (br_t hlo h), fun post h _ => Ylo post (br_t hlo (h (by decide))), fun h => absurd h (by decide)⟩
  have hlb : rs_lo k ≤ 1 := by
    unfold rs_lo
    split <;> omega
  have hn0 : ¬ p1 < 0 := fun z => hlo (Int32.lt_of_lt_of_le z (nI_pos' (by omega)))
  obtain ⟨v, hv, rfl⟩ := nI_of hn0
  have hv1 : rs_lo k ≤ v := by
    rw [nI_ltI hv (by omega)] at hlo
    omega
  have hhb : rs_hi k ≤ 255 := by
    unfold rs_hi
    repeat' split
    all_goals omega
  rcases Nat.lt_or_ge (rs_hi k) v with hhi | hhi
  · have g : ¬ nI v ≤ nI (rs_hi k) := nI_ge hhi hv
    exact ⟨-3, fun post h => Xlo post (br_f hlo (xt_hi k hk1 (by omega) (br_f g h))), fun post h _ => Ylo post (br_f hlo (yt_hi k (by omega) (br_f g (h (by decide))))), fun h => absurd h (by decide)⟩
  have g : nI v ≤ nI (rs_hi k) := nI_le hhi (by omega)
  have ok : rs_ok k v := ⟨hk1, by omega, hhi, fun h5 => by
    have : rs_lo k = 1 := by unfold rs_lo; rw [if_pos h5]
    omega⟩
  obtain ⟨g1, g2, g5, g10, g8⟩ := rs_rng ok
  rcases Nat.lt_or_ge cnt lim with hf | hf
  case inr =>
    have f1 : ¬ nI cnt < nI lim := nI_nlt hf (by omega)
    have f2 : nI lim ≤ nI cnt := nI_le hf (by omega)
    exact ⟨-4, fun post h => Xlo post (br_f hlo (xt_hi k hk1 (by omega) (br_t g (br_f f1 h)))), fun post h _ => Ylo post (br_f hlo (yt_hi k (by omega) (br_t g (br_t f2 (h (by decide)))))), fun h => absurd h (by decide)⟩
  have f1 : nI cnt < nI lim := nI_lt hf (by omega)
  have f2 : ¬ nI lim ≤ nI cnt := nI_ge hf (by omega)
  have f3 : nI cnt < 48 := nI_lt (b := 48) (by omega) (by decide)
  -- the syntax
  by_cases hs : (9 ≤ k ↔ ned = 0)
  case neg =>
    refine ⟨-5, fun post h => Xlo post (br_f hlo (xt_hi k hk1 (by omega) (br_t g (br_t f1 (xt_is k (by omega) ?_))))), fun post h _ => Ylo post (br_f hlo (yt_hi k (by omega) (br_t g (br_f f2 (br_t f3 ?_))))), fun h => absurd h (by decide)⟩
    · refine pk_eq ned 0 (fun z => ?_) fun z => ?_
      · rw [if_neg (by omega)]
        exact br_f (by decide) h
      · rw [if_pos (by omega)]
        exact br_f (by decide) h
    · have h' := h (by decide)
      refine pk_eq ned 0 (fun z => br_t (nI_le (b := 8) (by omega) (by decide)) h') fun z => br_f (nI_nle (by omega) (by omega)) (br_f (nI_nlt (b := 9) (by omega) (by omega)) h')
  have Xs : ∀ post : Int32 → Prop, ((nI k = 9 → (vp_in (nI v) 8 ∧ (((rs_A wdf (nI v).toNatClampNeg = 0 → (wX_refusalOf_96 post (nI k) (nI v) (nI lim) (nI cnt) (nI ned) (nI op) (nI 0) cy (nI nc) (rs_A kd) (rs_A vl) (rs_A rg) (rs_A ip) (rs_A wdf) (rs_A odf) (rs_A ws) (rs_A ost) (rs_A fo) (rs_A so) (rs_A to) (rs_A en) (rs_A ord) (rs_A res) (rs_A gl) (rs_A gr) (rs_A fs) (rs_A tb) (rs_AB L))) ∧ (¬ rs_A wdf (nI v).toNatClampNeg = 0 → (post (-6))))))) ∧ (¬ nI k = 9 → (wX_refusalOf_96 post (nI k) (nI v) (nI lim) (nI cnt) (nI ned) (nI op) (nI 0) cy (nI nc) (rs_A kd) (rs_A vl) (rs_A rg) (rs_A ip) (rs_A wdf) (rs_A odf) (rs_A ws) (rs_A ost) (rs_A fo) (rs_A so) (rs_A to) (rs_A en) (rs_A ord) (rs_A res) (rs_A gl) (rs_A gr) (rs_A fs) (rs_A tb) (rs_AB L)))) → wpX_refusalOf post ((nI lim), (nI cnt), (nI ned), (nI op), (nI 0), cy, (nI nc), (rs_A kd), (rs_A vl), (rs_A rg), (rs_A ip), (rs_A wdf), (rs_A odf), (rs_A ws), (rs_A ost), (rs_A fo), (rs_A so), (rs_A to), (rs_A en), (rs_A ord), (rs_A res), (rs_A gl), (rs_A gr), (rs_A fs), (rs_A tb), (rs_AB L)) (nI k) (nI v) := fun post h => by
    refine Xlo post (br_f hlo (xt_hi k hk1 (by omega) (br_t g (br_t f1 (xt_is k (by omega) ?_)))))
    refine pk_eq ned 0 (fun z => ?_) fun z => ?_
    · rw [if_pos (hs.mpr z)]
      exact br_t rfl h
    · rw [if_neg (fun y => z (hs.mp y))]
      exact br_t rfl h
  have Ys : ∀ post : Int32 → SY → Prop, wY_token_103 post (nI k) (nI v) (nI lim) (nI cnt) (nI ned) (nI okd) (nI oix) (nI 0) cy (rs_A kd) (rs_A vl) (rs_A rg) (rs_A ip) (rs_A wv) (rs_A wdf) (rs_A odf) (rs_A st) (rs_A nx) → wpY_token post ((nI lim), (nI cnt), (nI ned), (nI okd), (nI oix), (nI 0), cy, (rs_A kd), (rs_A vl), (rs_A rg), (rs_A ip), (rs_A wv), (rs_A wdf), (rs_A odf), (rs_A st), (rs_A nx)) (nI k) (nI v) := fun post h => by
    refine Ylo post (br_f hlo (yt_hi k (by omega) (br_t g (br_f f2 (br_t f3 ?_)))))
    refine pk_eq ned 0 (fun z => br_f (nI_ge (a := 8) (by have := hs.mpr z; omega) (by omega)) (br_t (by rw [z]; decide) h)) fun z => br_f (nI_nle (by omega) (by omega)) (br_t (nI_lt (b := 9) (by omega) (by decide)) h)
  have ew : v < 8 → rs_A wdf (nI v).toNatClampNeg = nI (wdf v) := fun h => rs_Ax v rfl (by omega)
  have eo : v < 4 → rs_A odf (nI v).toNatClampNeg = nI (odf v) := fun h => rs_Ax v rfl (by omega)
  have yw : v < 8 → vp_in (nI v &&& 7) 8 ∧ rs_A wdf (nI v &&& 7).toNatClampNeg = nI (wdf v) := fun h => by
    rw [ya_m7 h]; exact ⟨vp_in_nI h (by decide), ew h⟩
  have yo : v < 4 → vp_in (nI v &&& 3) 4 ∧ rs_A odf (nI v &&& 3).toNatClampNeg = nI (odf v) := fun h => by
    rw [ya_m3 h]; exact ⟨vp_in_nI h (by decide), eo h⟩
  rcases (by omega : k = 9 ∨ k = 10 ∨ k = 4 ∨ (k ≠ 9 ∧ k ≠ 10 ∧ k ≠ 4)) with h | h | h | ⟨n9, n10, n4⟩
  · subst h
    have v8 := g8 (by decide) (by decide)
    rcases hw v with z | z
    · have e1 : rs_A wdf (nI v).toNatClampNeg = 0 := by rw [ew v8, z]; rfl
      have e2 : rs_A wdf (nI v &&& 7).toNatClampNeg = 0 := by rw [(yw v8).2, z]; rfl
      exact ⟨0, fun post h => Xs post (br_t rfl ⟨pk_in v 8 v8, br_t e1 (br_f (by decide) (br_f (by decide) h))⟩), fun post _ h => Ys post (br_t rfl ⟨(yw v8).1, br_t e2 (br_f (by decide) (br_f (by decide) (h rfl)))⟩), fun _ => ⟨9, v, rfl, rfl, ok, rfl, hf, hs, fun h => absurd h (by decide), fun _ => z, fun h => absurd h (by decide)⟩⟩
    · have e1 : ¬ rs_A wdf (nI v).toNatClampNeg = 0 := by rw [ew v8, z]; decide
      have e2 : ¬ rs_A wdf (nI v &&& 7).toNatClampNeg = 0 := by rw [(yw v8).2, z]; decide
      exact ⟨-6, fun post h => Xs post (br_t rfl ⟨pk_in v 8 v8, br_f e1 h⟩), fun post h _ => Ys post (br_t rfl ⟨(yw v8).1, br_f e2 (h (by decide))⟩), fun h => absurd h (by decide)⟩
  · subst h
    have v4 := g10 rfl
    rcases ho v with z | z
    · have e1 : rs_A odf (nI v).toNatClampNeg = 0 := by rw [eo v4, z]; rfl
      have e2 : rs_A odf (nI v &&& 3).toNatClampNeg = 0 := by rw [(yo v4).2, z]; rfl
      exact ⟨0, fun post h => Xs post (br_f (by decide) (br_t rfl ⟨pk_in v 4 v4, br_t e1 (br_f (by decide) h)⟩)), fun post _ h => Ys post (br_f (by decide) (br_t rfl ⟨(yo v4).1, br_t e2 (br_f (by decide) (h rfl))⟩)), fun _ => ⟨10, v, rfl, rfl, ok, rfl, hf, hs, fun h => absurd h (by decide), fun h => absurd h (by decide), fun _ => z⟩⟩
    · have e1 : ¬ rs_A odf (nI v).toNatClampNeg = 0 := by rw [eo v4, z]; decide
      have e2 : ¬ rs_A odf (nI v &&& 3).toNatClampNeg = 0 := by rw [(yo v4).2, z]; decide
      exact ⟨-6, fun post h => Xs post (br_f (by decide) (br_t rfl ⟨pk_in v 4 v4, br_f e1 h⟩)), fun post h _ => Ys post (br_f (by decide) (br_t rfl ⟨(yo v4).1, br_f e2 (h (by decide))⟩)), fun h => absurd h (by decide)⟩
  · subst h
    have v8 := g8 (by decide) (by decide)
    rcases hw v with z | z
    · have e1 : rs_A wdf (nI v).toNatClampNeg = 0 := by rw [ew v8, z]; rfl
      have e2 : rs_A wdf (nI v &&& 7).toNatClampNeg = 0 := by rw [(yw v8).2, z]; rfl
      exact ⟨-7, fun post h => Xs post (br_f (by decide) (br_f (by decide) (br_t rfl ⟨pk_in v 8 v8, br_t e1 h⟩))), fun post h _ => Ys post (br_f (by decide) (br_f (by decide) (br_t rfl ⟨(yw v8).1, br_t e2 (h (by decide))⟩))), fun h => absurd h (by decide)⟩
    · have e1 : ¬ rs_A wdf (nI v).toNatClampNeg = 0 := by rw [ew v8, z]; decide
      have e2 : ¬ rs_A wdf (nI v &&& 7).toNatClampNeg = 0 := by rw [(yw v8).2, z]; decide
      exact ⟨0, fun post h => Xs post (br_f (by decide) (br_f (by decide) (br_t rfl ⟨pk_in v 8 v8, br_f e1 h⟩))), fun post _ h => Ys post (br_f (by decide) (br_f (by decide) (br_t rfl ⟨(yw v8).1, br_f e2 (h rfl)⟩))), fun _ => ⟨4, v, rfl, rfl, ok, rfl, hf, hs, fun _ => z, fun h => absurd h (by decide), fun h => absurd h (by decide)⟩⟩
  · have m9 : ¬ nI k = 9 := fun z => n9 ((nI_eq (b := 9) (by omega) (by decide)).mp z)
    have m10 : ¬ nI k = 10 := fun z => n10 ((nI_eq (b := 10) (by omega) (by decide)).mp z)
    have m4 : ¬ nI k = 4 := fun z => n4 ((nI_eq (b := 4) (by omega) (by decide)).mp z)
    exact ⟨0, fun post h => Xs post (br_f m9 (br_f m10 (br_f m4 h))), fun post _ h => Ys post (br_f m9 (br_f m10 (br_f m4 (h rfl)))), fun _ => ⟨k, v, rfl, rfl, ok, rfl, hf, hs, fun h => absurd h n4, fun h => absurd h n9, fun h => absurd h n10⟩⟩
end
end
section
/-! the relation; an accepted token -/
def rs_R (lim cnt ned op cp nc okd oix : Nat) (kd vl rg ip wdf odf ws ost fo so to en ord res gl gr fs tb : Nat → Nat) (L : Nat → Bool) : Prop := (8 ≤ lim ∧ lim ≤ 48) ∧ cnt ≤ lim ∧ ned = rs_nd kd vl cnt ∧ rs_T cnt op kd vl wdf odf ws ost ∧ rs_T4 cnt op kd vl wdf odf ws ost (1 ≤ rs_nd kd vl cnt) ∧ rs_B ip rg ∧ (∀ p, res p < 256) ∧ L 0 = false ∧ (∀ x, fo x ≤ 48 ∧ so x ≤ 48 ∧ to x ≤ 48) ∧ (1 ≤ ned → okd = kd op ∧ oix = vl op) ∧ (cp = 0 ∨ (cp = 1 ∧ rs_nd kd vl cnt = 0 ∧ rs_C cnt kd vl ws fo so to en ord nc gl gr fs tb))
/-- the states of both sides: the same limit, counts, tokens, registers, inputs and defined sets -/
def i_Rel (_ : Nat) (u : SX) (v : SY) : Prop := ∃ (lim cnt ned op cp nc okd oix : Nat) (cy : Int32) (kd vl rg ip wdf odf ws ost fo so to en ord res gl gr fs tb wv st nx : Nat → Nat) (L : Nat → Bool), u = ((nI lim), (nI cnt), (nI ned), (nI op), (nI cp), cy, (nI nc), (rs_A kd), (rs_A vl), (rs_A rg), (rs_A ip), (rs_A wdf), (rs_A odf), (rs_A ws), (rs_A ost), (rs_A fo), (rs_A so), (rs_A to), (rs_A en), (rs_A ord), (rs_A res), (rs_A gl), (rs_A gr), (rs_A fs), (rs_A tb), (rs_AB L)) ∧ v = ((nI lim), (nI cnt), (nI ned), (nI okd), (nI oix), (nI cp), cy, (rs_A kd), (rs_A vl), (rs_A rg), (rs_A ip), (rs_A wv), (rs_A wdf), (rs_A odf), (rs_A st), (rs_A nx)) ∧ rs_R lim cnt ned op cp nc okd oix kd vl rg ip wdf odf ws ost fo so to en ord res gl gr fs tb L
theorem rs_T_Wd {cnt op : Nat} {kd vl wdf odf ws ost : Nat → Nat} (T : rs_T cnt op kd vl wdf odf ws ost) (T4 : rs_T4 cnt op kd vl wdf odf ws ost (1 ≤ rs_nd kd vl cnt)) (h0 : rs_nd kd vl cnt = 0) : rs_Wd cnt kd vl wdf ws :=
  ⟨fun w h => ⟨(T.2.1.2.2.1 w h).1, (T.2.1.2.2.1 w h).2.1, (T.2.1.2.2.1 w h).2.2.1⟩, fun i hi h => (T4.1 i hi h).elim (fun z => z.2) fun z => by have := z.2; omega, fun i hi h => (T.1.2 i hi h).1⟩
section
variable {lim cnt ned op cp nc : Nat} {cy : Int32} {kd vl rg ip wdf odf ws ost fo so to en ord res gl gr fs tb : Nat → Nat} {L : Nat → Bool}
variable {okd oix : Nat} {wv st nx : Nat → Nat}
theorem xt_close {post : SX → Prop} (T3 : rs_T3 cnt op kd vl wdf odf) (hc : cnt ≤ 48) (H9 : kd op = 9 → post ((nI lim), (nI cnt), (nI ned), (nI op), (nI cp), cy, (nI nc), (rs_A kd), (rs_A vl), (rs_A rg), (rs_A ip), (rs_A (rs_u wdf (vl op) 1)), (rs_A odf), (rs_A (rs_u ws (vl op) op)), (rs_A ost), (rs_A fo), (rs_A so), (rs_A to), (rs_A en), (rs_A ord), (rs_A res), (rs_A gl), (rs_A gr), (rs_A fs), (rs_A tb), (rs_AB L))) (H10 : kd op = 10 → post ((nI lim), (nI cnt), (nI ned), (nI op), (nI cp), cy, (nI nc), (rs_A kd), (rs_A vl), (rs_A rg), (rs_A ip), (rs_A wdf), (rs_A (rs_u odf (vl op) 1)), (rs_A ws), (rs_A (rs_u ost (vl op) op)), (rs_A fo), (rs_A so), (rs_A to), (rs_A en), (rs_A ord), (rs_A res), (rs_A gl), (rs_A gr), (rs_A fs), (rs_A tb), (rs_AB L))) (H11 : kd op ≠ 9 → kd op ≠ 10 → post ((nI lim), (nI cnt), (nI ned), (nI op), (nI cp), cy, (nI nc), (rs_A kd), (rs_A vl), (rs_A rg), (rs_A ip), (rs_A wdf), (rs_A odf), (rs_A ws), (rs_A ost), (rs_A fo), (rs_A so), (rs_A to), (rs_A en), (rs_A ord), (rs_A res), (rs_A gl), (rs_A gr), (rs_A fs), (rs_A tb), (rs_AB L))) : wpX_closeStatement post ((nI lim), (nI cnt), (nI ned), (nI op), (nI cp), cy, (nI nc), (rs_A kd), (rs_A vl), (rs_A rg), (rs_A ip), (rs_A wdf), (rs_A odf), (rs_A ws), (rs_A ost), (rs_A fo), (rs_A so), (rs_A to), (rs_A en), (rs_A ord), (rs_A res), (rs_A gl), (rs_A gr), (rs_A fs), (rs_A tb), (rs_AB L)) := by
  obtain ⟨a, b, c, d, e, f⟩ := T3
  have o8 : vp_in (nI op) 48 := pk_in op 48 (by omega)
  refine ⟨o8, nm_r (rs_Ax op rfl (by omega)) ⟨o8, pk_eq (kd op) 9 (fun h => ?_) (fun h => ⟨o8, pk_eq (kd op) 10 (fun h' => ?_) (fun h' => H11 h h') (rs_Ax op rfl (by omega)) rfl⟩) (rs_Ax op rfl (by omega)) rfl⟩⟩
  · exact ⟨pk_in (vl op) 8 d, nm_r (rs_upI (vl op) 1 xt_b1 (by omega)) ⟨pk_in (vl op) 8 d, nm_r (rs_upI (vl op) op rfl (by omega)) (H9 h)⟩⟩
  · have f4 := (f h').1
    exact ⟨pk_in (vl op) 4 f4, nm_r (rs_upI (vl op) 1 xt_b1 (by omega)) ⟨pk_in (vl op) 4 f4, nm_r (rs_upI (vl op) op rfl (by omega)) (H10 h')⟩⟩
theorem xt_57 {post : Int32 → SX → Prop} {k v : Nat} (hc : cnt < 48) (hn : ned < 1000) (H1 : ned ≠ 0 → post 0 ((nI lim), (nI (cnt + 1)), (nI ned), (nI op), (nI cp), cy, (nI nc), (rs_A (rs_u kd cnt k)), (rs_A (rs_u vl cnt v)), (rs_A rg), (rs_A ip), (rs_A wdf), (rs_A odf), (rs_A ws), (rs_A ost), (rs_A fo), (rs_A so), (rs_A to), (rs_A en), (rs_A ord), (rs_A res), (rs_A gl), (rs_A gr), (rs_A fs), (rs_A tb), (rs_AB L))) (H2 : ned = 0 → wpX_closeStatement (fun u => post 0 u) ((nI lim), (nI (cnt + 1)), (nI ned), (nI op), (nI cp), cy, (nI nc), (rs_A (rs_u kd cnt k)), (rs_A (rs_u vl cnt v)), (rs_A rg), (rs_A ip), (rs_A wdf), (rs_A odf), (rs_A ws), (rs_A ost), (rs_A fo), (rs_A so), (rs_A to), (rs_A en), (rs_A ord), (rs_A res), (rs_A gl), (rs_A gr), (rs_A fs), (rs_A tb), (rs_AB L))) : wX_token_57 post (nI k) (nI v) (nI lim) (nI cnt) (nI ned) (nI op) (nI cp) cy (nI nc) (rs_A kd) (rs_A vl) (rs_A rg) (rs_A ip) (rs_A wdf) (rs_A odf) (rs_A ws) (rs_A ost) (rs_A fo) (rs_A so) (rs_A to) (rs_A en) (rs_A ord) (rs_A res) (rs_A gl) (rs_A gr) (rs_A fs) (rs_A tb) (rs_AB L) :=
  ⟨pk_in cnt 48 hc, nm_r (rs_upI cnt k rfl (by omega)) ⟨pk_in cnt 48 hc, nm_r (rs_upI cnt v rfl (by omega)) (nm_r (nI_1 cnt) (pk_eq ned 0 (fun h => H2 h) fun h => H1 h))⟩⟩
theorem yt_s {post : Int32 → SY → Prop} {k v : Nat} (hc : cnt < 48) (h9 : 9 ≤ k) (h11 : k ≤ 11) (H : post 0 ((nI lim), (nI (cnt + 1)), (nI (rs_ar k v)), (nI k), (nI v), (nI cp), cy, (rs_A (rs_u kd cnt k)), (rs_A (rs_u vl cnt v)), (rs_A rg), (rs_A ip), (rs_A wv), (rs_A wdf), (rs_A odf), (rs_A st), (rs_A nx))) : wY_token_164 post (nI k) (nI v) (nI lim) (nI cnt) (nI ned) (nI okd) (nI oix) (nI cp) cy (rs_A kd) (rs_A vl) (rs_A rg) (rs_A ip) (rs_A wv) (rs_A wdf) (rs_A odf) (rs_A st) (rs_A nx) := by
  refine ⟨pk_in cnt 48 hc, nm_r (rs_upI cnt k rfl (by omega)) ⟨pk_in cnt 48 hc, nm_r (rs_upI cnt v rfl (by omega)) (nm_r (nI_1 cnt) (br_f (nI_nlt (b := 9) h9 (by omega)) (pk_eq k 11 (fun h => ?_) fun h => ?_)))⟩⟩
  · have e : rs_ar k v = 2 := by rw [h]; rfl
    rw [e] at H
    exact H
  · have e : rs_ar k v = 1 := by
      unfold rs_ar
      rw [if_neg (by omega), if_neg (by omega), if_neg h]
    rw [e] at H
    exact H
theorem yt_e {post : Int32 → SY → Prop} {k v n : Nat} (hc : cnt < 48) (ok : rs_ok k v) (h8 : k ≤ 8) (hned : 1 ≤ ned) (hnb : ned ≤ 200) (hn : n = ned - 1 + rs_ar k v) (hi : okd ≤ 11) (hi8 : oix < 8) (hi4 : okd = 10 → oix < 4) (H1 : n ≠ 0 → post 0 ((nI lim), (nI (cnt + 1)), (nI n), (nI okd), (nI oix), (nI cp), cy, (rs_A (rs_u kd cnt k)), (rs_A (rs_u vl cnt v)), (rs_A rg), (rs_A ip), (rs_A wv), (rs_A wdf), (rs_A odf), (rs_A st), (rs_A nx))) (H9 : n = 0 → okd = 9 → post 0 ((nI lim), (nI (cnt + 1)), (nI n), (nI okd), (nI oix), (nI cp), cy, (rs_A (rs_u kd cnt k)), (rs_A (rs_u vl cnt v)), (rs_A rg), (rs_A ip), (rs_A wv), (rs_A (rs_u wdf oix 1)), (rs_A odf), (rs_A st), (rs_A nx))) (H10 : n = 0 → okd = 10 → post 0 ((nI lim), (nI (cnt + 1)), (nI n), (nI okd), (nI oix), (nI cp), cy, (rs_A (rs_u kd cnt k)), (rs_A (rs_u vl cnt v)), (rs_A rg), (rs_A ip), (rs_A wv), (rs_A wdf), (rs_A (rs_u odf oix 1)), (rs_A st), (rs_A nx))) (H11 : n = 0 → okd ≠ 9 → okd ≠ 10 → post 0 ((nI lim), (nI (cnt + 1)), (nI n), (nI okd), (nI oix), (nI cp), cy, (rs_A (rs_u kd cnt k)), (rs_A (rs_u vl cnt v)), (rs_A rg), (rs_A ip), (rs_A wv), (rs_A wdf), (rs_A odf), (rs_A st), (rs_A nx))) : wY_token_164 post (nI k) (nI v) (nI lim) (nI cnt) (nI ned) (nI okd) (nI oix) (nI cp) cy (rs_A kd) (rs_A vl) (rs_A rg) (rs_A ip) (rs_A wv) (rs_A wdf) (rs_A odf) (rs_A st) (rs_A nx) := by
  obtain ⟨g1, g2, g5, g10, g8⟩ := rs_rng ok
  have a3 := rs_ar3 k v
  have en : nI ned - 1 + nI (rs_ar k v) = nI n := by
    rw [show nI ned - 1 = nI (ned - 1) from pk_sub (b := 1) (by omega), nI_add, hn]
  refine ⟨pk_in cnt 48 hc, nm_r (rs_upI cnt k rfl (by omega)) ⟨pk_in cnt 48 hc, nm_r (rs_upI cnt v rfl (by omega)) (nm_r (nI_1 cnt) (br_t (nI_lt (b := 9) (by omega) (by decide)) (ya_ar k v rfl rfl ok.1 h8 g1 ok.2.2.2 (nm_r en (pk_eq n 0 (fun z => ?_) fun z => H1 z)))))⟩⟩
  refine pk_eq okd 9 (fun h => ?_) fun h => pk_eq okd 10 (fun h' => ?_) fun h' => H11 z h h'
  · have e : upd (rs_A wdf) (nI oix &&& 7).toNatClampNeg (vp_nar .boolean 1) = rs_A (rs_u wdf oix 1) := by
      rw [ya_m7 hi8]; exact rs_upI oix 1 xt_b1 (by omega)
    exact ⟨by rw [ya_m7 hi8]; exact vp_in_nI hi8 (by decide), nm_r e (br_f (by rw [h]; decide) (H9 z h))⟩
  · have o4 := hi4 h'
    have e : upd (rs_A odf) (nI oix &&& 3).toNatClampNeg (vp_nar .boolean 1) = rs_A (rs_u odf oix 1) := by
      rw [ya_m3 o4]; exact rs_upI oix 1 xt_b1 (by omega)
    exact ⟨by rw [ya_m3 o4]; exact vp_in_nI o4 (by decide), nm_r e (H10 z h')⟩
end
theorem i_up {k : Nat} {u : SX} {v : SY} (h : i_Rel k u v) : i_Rel (k + 3) u v := h
theorem i_vc0 (k0 : Int32) : wpX_init (fun u => wpY_init (fun v => i_Rel 1 u v) k0) k0 := by
  have z1 : rs_B (fun _ => 0) (fun _ => 0) := ⟨fun _ => (by decide : (0 : Nat) < 256), fun _ => (by decide : (0 : Nat) < 256)⟩
  have fr : ∀ n, 8 ≤ n → n ≤ 48 → i_Rel 1 ((nI n), (nI 0), (nI 0), (nI 0), (nI 0), 0, (nI 0), (rs_A (fun _ => 0)), (rs_A (fun _ => 0)), (rs_A (fun _ => 0)), (rs_A (fun _ => 0)), (rs_A (fun _ => 0)), (rs_A (fun _ => 0)), (rs_A (fun _ => 0)), (rs_A (fun _ => 0)), (rs_A (fun _ => 0)), (rs_A (fun _ => 0)), (rs_A (fun _ => 0)), (rs_A (fun _ => 0)), (rs_A (fun _ => 0)), (rs_A (fun _ => 0)), (rs_A (fun _ => 0)), (rs_A (fun _ => 0)), (rs_A (fun _ => 0)), (rs_A (fun _ => 0)), (rs_AB (fun _ => false))) ((nI n), (nI 0), (nI 0), (nI 0), (nI 0), (nI 0), 0, (rs_A (fun _ => 0)), (rs_A (fun _ => 0)), (rs_A (fun _ => 0)), (rs_A (fun _ => 0)), (rs_A (fun _ => 0)), (rs_A (fun _ => 0)), (rs_A (fun _ => 0)), (rs_A (fun _ => 0)), (rs_A (fun _ => 0))) := fun n h1 h2 =>
    ⟨n, 0, 0, 0, 0, 0, 0, 0, 0, fun _ => 0, fun _ => 0, fun _ => 0, fun _ => 0, fun _ => 0, fun _ => 0, fun _ => 0, fun _ => 0, fun _ => 0, fun _ => 0, fun _ => 0, fun _ => 0, fun _ => 0, fun _ => 0, fun _ => 0, fun _ => 0, fun _ => 0, fun _ => 0, fun _ => 0, fun _ => 0, fun _ => 0, fun _ => false, rfl, rfl, ⟨h1, h2⟩, Nat.zero_le _, rfl, rs_T_0 0, rs_T4_0 0 _, z1, fun _ => (by decide : (0 : Nat) < 256), rfl, fun _ => ⟨Nat.zero_le _, Nat.zero_le _, Nat.zero_le _⟩, fun h => absurd h (by decide), Or.inl rfl⟩
  by_cases h8 : 8 ≤ k0
  · by_cases h48 : k0 ≤ 48
    · have hk : ¬ k0 < 0 := Int32.not_lt.mpr (Int32.le_trans (by decide) h8)
      obtain ⟨n, hn, rfl⟩ := nI_of hk
      have a : 8 ≤ n := (nI_leI (a := 8) (by decide) hn).mp h8
      have b : n ≤ 48 := (nI_leI (b := 48) hn (by decide)).mp h48
      exact br_t h8 (br_t h48 (br_t h8 (br_t h48 (fr n a b))))
    · exact br_t h8 (br_f h48 (br_t h8 (br_f h48 (fr 48 (by decide) (by decide)))))
  · exact br_f h8 (br_f h8 (fr 8 (by decide) (by decide)))
end
section
/-! what is owed of token -/
section
variable {lim cnt ned op cp nc : Nat} {cy : Int32} {kd vl rg ip wdf odf ws ost fo so to en ord res gl gr fs tb : Nat → Nat} {L : Nat → Bool}
variable {okd oix : Nat} {wv st nx : Nat → Nat}
theorem rs_mk {k : Nat} (h : rs_R lim cnt ned op cp nc okd oix kd vl rg ip wdf odf ws ost fo so to en ord res gl gr fs tb L) : i_Rel k ((nI lim), (nI cnt), (nI ned), (nI op), (nI cp), cy, (nI nc), (rs_A kd), (rs_A vl), (rs_A rg), (rs_A ip), (rs_A wdf), (rs_A odf), (rs_A ws), (rs_A ost), (rs_A fo), (rs_A so), (rs_A to), (rs_A en), (rs_A ord), (rs_A res), (rs_A gl), (rs_A gr), (rs_A fs), (rs_A tb), (rs_AB L)) ((nI lim), (nI cnt), (nI ned), (nI okd), (nI oix), (nI cp), cy, (rs_A kd), (rs_A vl), (rs_A rg), (rs_A ip), (rs_A wv), (rs_A wdf), (rs_A odf), (rs_A st), (rs_A nx)) := ⟨lim, cnt, ned, op, cp, nc, okd, oix, cy, kd, vl, rg, ip, wdf, odf, ws, ost, fo, so, to, en, ord, res, gl, gr, fs, tb, wv, st, nx, L, rfl, rfl, h⟩
theorem rs_tk {q k v : Nat} (h : rs_R lim cnt ned op cp nc okd oix kd vl rg ip wdf odf ws ost fo so to en ord res gl gr fs tb L) (ok : rs_ok k v) (hcp : cp = 0) (hlt : cnt < lim) (hs : 9 ≤ k ↔ ned = 0) (h4 : k = 4 → wdf v = 1) (h9 : k = 9 → wdf v = 0) (h10 : k = 10 → odf v = 0) {post' : Int32 → SX → Prop} {postY : (Int32 → SY → Prop) → Prop} (HY : ∀ post : Int32 → SY → Prop, wY_token_164 post (nI k) (nI v) (nI lim) (nI cnt) (nI ned) (nI okd) (nI oix) (nI cp) cy (rs_A kd) (rs_A vl) (rs_A rg) (rs_A ip) (rs_A wv) (rs_A wdf) (rs_A odf) (rs_A st) (rs_A nx) → postY post) (HX : ∀ u, postY (fun r' v' => r' = 0 ∧ i_Rel q u v') → post' 0 u) : wpX_isStatement (fun r_30 => (((r_30 = 0 → (∀ f_need : Int32, f_need = (nI ned - 1) + nI (rs_ar k v) → (wX_token_57 post' (nI k) (nI v) (nI lim) (nI cnt) (f_need) (nI op) (nI cp) cy (nI nc) (rs_A kd) (rs_A vl) (rs_A rg) (rs_A ip) (rs_A wdf) (rs_A odf) (rs_A ws) (rs_A ost) (rs_A fo) (rs_A so) (rs_A to) (rs_A en) (rs_A ord) (rs_A res) (rs_A gl) (rs_A gr) (rs_A fs) (rs_A tb) (rs_AB L)))) ∧ (¬ r_30 = 0 → (wX_token_57 post' (nI k) (nI v) (nI lim) (nI cnt) (nI (rs_ar k v)) (nI cnt) (nI cp) cy (nI nc) (rs_A kd) (rs_A vl) (rs_A rg) (rs_A ip) (rs_A wdf) (rs_A odf) (rs_A ws) (rs_A ost) (rs_A fo) (rs_A so) (rs_A to) (rs_A en) (rs_A ord) (rs_A res) (rs_A gl) (rs_A gr) (rs_A fs) (rs_A tb) (rs_AB L)))))) (nI k) := by
  subst hcp
  obtain ⟨hl, hc, hn, T, T4, hB, hres, hL0, hfo, hop, hcp⟩ := h
  subst hn
  obtain ⟨t1, t2, t3, t0⟩ := rs_T_a T ok hs h4 h9 h10
  have t4 := rs_T4_a (v := v) T4 hs
  have nb := rs_nd_le kd vl cnt
  have a3 := rs_ar3 k v
  obtain ⟨g1, g2, g5, g10, g8⟩ := rs_rng ok
  have k11 := ok.2.1
  refine xt_is k k11 ?_
  by_cases hk9 : 9 ≤ k
  · have z0 := hs.mp hk9
    have ar1 : 1 ≤ rs_ar k v := rs_ar_6 (by omega)
    rw [if_pos hk9] at t3 t4 ⊢
    refine br_f (by decide) (xt_57 (by omega) (by omega) (fun _ => ?_) fun z => by omega)
    refine HX _ (HY _ (yt_s (by omega) hk9 k11 ⟨rfl, rs_mk ⟨hl, by omega, by omega, rs_T_o t1 t2 t3, rs_T4_o t4 (by omega), hB, hres, hL0, hfo, fun _ => ?_, Or.inl rfl⟩⟩))
    rw [rs_us, rs_us]
    exact ⟨rfl, rfl⟩
  · have n1 : 1 ≤ rs_nd kd vl cnt := by
      rcases Nat.eq_zero_or_pos (rs_nd kd vl cnt) with z | z
      · exact absurd (hs.mpr z) hk9
      · exact z
    obtain ⟨e1, e2⟩ := hop n1
    have o3 := T.2.2 n1
    have q1 : rs_u kd cnt k op = kd op := rs_un (by have := o3.1; omega)
    have q2 : rs_u vl cnt v op = vl op := rs_un (by have := o3.1; omega)
    rw [if_neg hk9] at t3 t4 ⊢
    have en : nI (rs_nd kd vl cnt) - 1 + nI (rs_ar k v) = nI (rs_nd kd vl cnt - 1 + rs_ar k v) := by
      rw [show nI (rs_nd kd vl cnt) - 1 = nI (rs_nd kd vl cnt - 1) from pk_sub (b := 1) (by omega), nI_add]
    have HY' := fun (post : Int32 → SY → Prop) H1 H9 H10 H11 => HY post (yt_e (n := rs_nd kd vl cnt - 1 + rs_ar k v) (by omega) ok (by omega) n1 (by omega) rfl (by rw [e1]; exact o3.2.2.1) (by rw [e2]; exact o3.2.2.2.1) (fun h => by rw [e2]; exact (o3.2.2.2.2.2 (by rw [← e1]; exact h)).1) H1 H9 H10 H11)
    refine br_t rfl (nm_r en (xt_57 (by omega) (by omega) (fun nz => ?_) fun nz => xt_close t3 (by omega) (fun h => ?_) (fun h => ?_) fun h h' => ?_))
    · refine HX _ (HY' _ (fun _ => ⟨rfl, rs_mk ⟨hl, by omega, by omega, rs_T_o t1 t2 t3, rs_T4_o t4 (by omega), hB, hres, hL0, hfo, fun _ => ?_, Or.inl rfl⟩⟩) (fun z => absurd z nz) (fun z => absurd z nz) fun z => absurd z nz)
      rw [q1, q2]
      exact ⟨e1, e2⟩
    · have hw := rs_T_w t1 t2 t3 h (by omega)
      have hw4 := rs_T4_w (q := 1 ≤ rs_nd (rs_u kd cnt k) (rs_u vl cnt v) (cnt + 1)) t4 t3 h
      refine HX _ (HY' _ (fun z => absurd nz z) (fun _ _ => ?_) (fun _ z => ?_) fun _ z _ => ?_)
      · rw [e2, ← q2]
        exact ⟨rfl, rs_mk ⟨hl, by omega, by omega, hw, hw4, hB, hres, hL0, hfo, fun z => by omega, Or.inl rfl⟩⟩
      · rw [q1, ← e1] at h; omega
      · rw [q1, ← e1] at h; exact absurd h z
    · have hw := rs_T_q t1 t2 t3 h (by omega)
      have hw4 := rs_T4_q (q := 1 ≤ rs_nd (rs_u kd cnt k) (rs_u vl cnt v) (cnt + 1)) t4 t3 h
      refine HX _ (HY' _ (fun z => absurd nz z) (fun _ z => ?_) (fun _ _ => ?_) fun _ _ z => ?_)
      · rw [q1, ← e1] at h; omega
      · rw [e2, ← q2]
        exact ⟨rfl, rs_mk ⟨hl, by omega, by omega, hw, hw4, hB, hres, hL0, hfo, fun z => by omega, Or.inl rfl⟩⟩
      · rw [q1, ← e1] at h; exact absurd h z
    · have hw := rs_T_n (op := op) t1 t2 (by omega)
      have hw4 := rs_T4_n (q := 1 ≤ rs_nd (rs_u kd cnt k) (rs_u vl cnt v) (cnt + 1)) t4 h h'
      refine HX _ (HY' _ (fun z => absurd nz z) (fun _ z => ?_) (fun _ z => ?_) fun _ _ _ => ?_)
      · rw [q1, ← e1] at h; exact absurd z h
      · rw [q1, ← e1] at h'; exact absurd z h'
      · exact ⟨rfl, rs_mk ⟨hl, by omega, by omega, hw, hw4, hB, hres, hL0, hfo, fun z => by omega, Or.inl rfl⟩⟩
end
theorem i_vc_token {k : Nat} {u : SX} {v : SY} (I : i_Rel k u v) (hk : k + 3 ≤ 1537) (v1 : Int32) (v2 : Int32) : wpX_token (fun r u' => wpY_token (fun r' v' => r' = r ∧ i_Rel (k + 3) u' v') v v1 v2) u v1 v2 := by
  obtain ⟨lim, cnt, ned, op, cp, nc, okd, oix, cy, kd, vl, rg, ip, wdf, odf, ws, ost, fo, so, to, en, ord, res, gl, gr, fs, tb, wv, st, nx, L, rfl, rfl, h⟩ := I
  have h' := h
  obtain ⟨hl, hc, hn, T, T4, hB, hres, hL0, hfo, hop, hcp⟩ := h
  have nb := rs_nd_le kd vl cnt
  obtain ⟨rr, hX, hY, hA⟩ := xt_ref (lim := lim) (cnt := cnt) (ned := ned) (op := op) (cp := cp) (cy := cy) (nc := nc) (kd := kd) (vl := vl) (rg := rg) (ip := ip) (wdf := wdf) (odf := odf) (ws := ws) (ost := ost) (fo := fo) (so := so) (to := to) (en := en) (ord := ord) (res := res) (gl := gl) (gr := gr) (fs := fs) (tb := tb) (L := L) (okd := okd) (oix := oix) (wv := wv) (st := st) (nx := nx) v1 v2 hl.2 hc (by omega) T.2.1.1 T.2.1.2.1 (hcp.imp id fun z => z.1)
  unfold wpX_token
  refine hX _ ?_
  by_cases z : rr = 0
  · subst z
    obtain ⟨kk, vv, rfl, rfl, ok, a1, a2, a3, a4, a5, a6⟩ := hA rfl
    have g := rs_rng ok
    refine br_t rfl (xt_ar kk vv rfl rfl ok.1 ok.2.1 g.1 ?_)
    exact rs_tk (q := k + 3) (cy := cy) (okd := okd) (oix := oix) (wv := wv) (st := st) (nx := nx) h' ok a1 a2 a3 a4 a5 a6 (postY := fun post => wpY_token post ((nI lim), (nI cnt), (nI ned), (nI okd), (nI oix), (nI cp), cy, (rs_A kd), (rs_A vl), (rs_A rg), (rs_A ip), (rs_A wv), (rs_A wdf), (rs_A odf), (rs_A st), (rs_A nx)) (nI kk) (nI vv)) (fun post W => hY post (fun y => absurd rfl y) fun _ => W) fun u W => W
  · exact br_f z (hY _ (fun _ => ⟨rfl, rs_mk h'⟩) fun y => absurd y z)
end
section
/-! what is owed of the other calls -/
theorem i_vc_compile {k : Nat} {u : SX} {v : SY} (I : i_Rel k u v) (hk : k + 3 ≤ 1537) : wpX_compile (fun r u' => wpY_compile (fun r' v' => r' = r ∧ i_Rel (k + 3) u' v') v) u := by
  obtain ⟨lim, cnt, ned, op, cp, nc, okd, oix, cy, kd, vl, rg, ip, wdf, odf, ws, ost, fo, so, to, en, ord, res, gl, gr, fs, tb, wv, st, nx, L, rfl, rfl, h⟩ := I
  have h' := h
  obtain ⟨hl, hc, hn, T, T4, hB, hres, hL0, hfo, hop, hcp⟩ := h
  have nb := rs_nd_le kd vl cnt
  rcases hcp with z | ⟨z, z0, C⟩
  · subst z
    rcases Nat.eq_zero_or_pos ned with w | w
    · subst w
      refine xc_comp (by omega) T hn.symm hfo fun fo' so' to' en' ord' nc' gl' gr' fs' tb' C => ?_
      exact br_t rfl (br_t (by decide) ⟨rfl, rs_mk ⟨hl, hc, hn, T, T4, hB, hres, hL0, C.2.2.1, hop, Or.inr ⟨rfl, hn.symm, C⟩⟩⟩)
    · have e : ¬ nI ned ≤ 0 := nI_nle w (by omega)
      exact br_t rfl (br_f e (br_t rfl (br_f e ⟨rfl, rs_mk h'⟩)))
  · subst z
    exact br_f (by decide) (br_f (by decide) ⟨rfl, rs_mk h'⟩)
theorem i_vc_setInput {k : Nat} {u : SX} {v : SY} (I : i_Rel k u v) (hk : k + 3 ≤ 1537) (v1 : Int32) (v2 : Int32) : wpX_setInput (fun r u' => wpY_setInput (fun r' v' => r' = r ∧ i_Rel (k + 3) u' v') v v1 v2) u v1 v2 := by
  obtain ⟨lim, cnt, ned, op, cp, nc, okd, oix, cy, kd, vl, rg, ip, wdf, odf, ws, ost, fo, so, to, en, ord, res, gl, gr, fs, tb, wv, st, nx, L, rfl, rfl, h⟩ := I
  have h' := h
  obtain ⟨hl, hc, hn, T, T4, hB, hres, hL0, hfo, hop, hcp⟩ := h
  rcases pk_ix v1 (n := 4) (by decide) with z | z | ⟨p, hp, rfl⟩
  · exact br_t z (br_t z ⟨rfl, rs_mk h'⟩)
  · have a : ¬ v1 < 0 := Int32.not_lt.mpr (Int32.le_trans (by decide) z)
    have b : ¬ v1 < 4 := Int32.not_lt.mpr z
    have c : ¬ v1 ≤ 3 := fun y => absurd (Int32.le_trans z y) (by decide)
    exact br_f a (br_f b (br_f a (br_f c ⟨rfl, rs_mk h'⟩)))
  · have a : ¬ nI p < 0 := nI_pos (by omega)
    have b : nI p < 4 := nI_lt (b := 4) hp (by decide)
    have c : nI p ≤ 3 := nI_le (b := 3) (by omega) (by decide)
    obtain ⟨j, hj, ej⟩ := rs_by v2
    have eu : upd (rs_A ip) (nI p).toNatClampNeg (v2 &&& 255) = rs_A (rs_u ip p j) := rs_upI p j ej (by omega)
    have hB' : rs_B (rs_u ip p j) rg := ⟨fun q => rs_it (P := fun x => x < 256) (fun _ => hj) fun _ => hB.1 q, hB.2⟩
    exact br_f a (br_t b ⟨pk_in p 4 hp, nm_r eu (br_f a (br_t c ⟨pk_in p 4 hp, nm_r eu ⟨rfl, rs_mk ⟨hl, hc, hn, T, T4, hB', hres, hL0, hfo, hop, hcp⟩⟩⟩))⟩)
theorem i_vc_setRegister {k : Nat} {u : SX} {v : SY} (I : i_Rel k u v) (hk : k + 3 ≤ 1537) (v1 : Int32) (v2 : Int32) : wpX_setRegister (fun r u' => wpY_setRegister (fun r' v' => r' = r ∧ i_Rel (k + 3) u' v') v v1 v2) u v1 v2 := by
  obtain ⟨lim, cnt, ned, op, cp, nc, okd, oix, cy, kd, vl, rg, ip, wdf, odf, ws, ost, fo, so, to, en, ord, res, gl, gr, fs, tb, wv, st, nx, L, rfl, rfl, h⟩ := I
  have h' := h
  obtain ⟨hl, hc, hn, T, T4, hB, hres, hL0, hfo, hop, hcp⟩ := h
  rcases pk_ix v1 (n := 8) (by decide) with z | z | ⟨p, hp, rfl⟩
  · exact br_t z (br_t z ⟨rfl, rs_mk h'⟩)
  · have a : ¬ v1 < 0 := Int32.not_lt.mpr (Int32.le_trans (by decide) z)
    have b : ¬ v1 < 8 := Int32.not_lt.mpr z
    have c : ¬ v1 ≤ 7 := fun y => absurd (Int32.le_trans z y) (by decide)
    exact br_f a (br_f b (br_f a (br_f c ⟨rfl, rs_mk h'⟩)))
  · have a : ¬ nI p < 0 := nI_pos (by omega)
    have b : nI p < 8 := nI_lt (b := 8) hp (by decide)
    have c : nI p ≤ 7 := nI_le (b := 7) (by omega) (by decide)
    obtain ⟨j, hj, ej⟩ := rs_by v2
    have eu : upd (rs_A rg) (nI p).toNatClampNeg (v2 &&& 255) = rs_A (rs_u rg p j) := rs_upI p j ej (by omega)
    have hB' : rs_B ip (rs_u rg p j) := ⟨hB.1, fun q => rs_it (P := fun x => x < 256) (fun _ => hj) fun _ => hB.2 q⟩
    exact br_f a (br_t b ⟨pk_in p 8 hp, nm_r eu (br_f a (br_t c ⟨pk_in p 8 hp, nm_r eu ⟨rfl, rs_mk ⟨hl, hc, hn, T, T4, hB', hres, hL0, hfo, hop, hcp⟩⟩⟩))⟩)
theorem i_vc_clock {k : Nat} {u : SX} {v : SY} (I : i_Rel k u v) (hk : k + 3 ≤ 1537) (v1 : Int32) (v2 : Int32) : wpX_clock (fun r u' => wpY_clock (fun r' v' => r' = r ∧ i_Rel (k + 3) u' v') v v1 v2) u v1 v2 := by
  obtain ⟨lim, cnt, ned, op, cp, nc, okd, oix, cy, kd, vl, rg, ip, wdf, odf, ws, ost, fo, so, to, en, ord, res, gl, gr, fs, tb, wv, st, nx, L, rfl, rfl, h⟩ := I
  have h' := h
  obtain ⟨hl, hc, hn, T, T4, hB, hres, hL0, hfo, hop, hcp⟩ := h
  rcases hcp with z | ⟨z, z0, C⟩
  · subst z
    exact br_t rfl (br_t rfl ⟨rfl, rs_mk h'⟩)
  subst z
  have D := rs_T_Wd T T4 z0
  by_cases hm : v1 = 0 ∨ v1 = 1
  case neg =>
    have m0 : ¬ v1 = 0 := fun y => hm (Or.inl y)
    have m1 : ¬ v1 = 1 := fun y => hm (Or.inr y)
    exact br_f (by decide) (br_f m0 (br_f m1 (br_f (by decide) (br_f m0 (br_f m1 ⟨rfl, rs_mk h'⟩)))))
  have XM : ∀ post : Int32 → SX → Prop, wX_clock_22 post v1 v2 (nI lim) (nI cnt) (nI ned) (nI op) (nI 1) cy (nI nc) (rs_A kd) (rs_A vl) (rs_A rg) (rs_A ip) (rs_A wdf) (rs_A odf) (rs_A ws) (rs_A ost) (rs_A fo) (rs_A so) (rs_A to) (rs_A en) (rs_A ord) (rs_A res) (rs_A gl) (rs_A gr) (rs_A fs) (rs_A tb) (rs_AB L) → wpX_clock post ((nI lim), (nI cnt), (nI ned), (nI op), (nI 1), cy, (nI nc), (rs_A kd), (rs_A vl), (rs_A rg), (rs_A ip), (rs_A wdf), (rs_A odf), (rs_A ws), (rs_A ost), (rs_A fo), (rs_A so), (rs_A to), (rs_A en), (rs_A ord), (rs_A res), (rs_A gl), (rs_A gr), (rs_A fs), (rs_A tb), (rs_AB L)) v1 v2 := fun post W => by
    refine br_f (by decide) (br_c (fun _ => W) fun m0 => br_t ?_ W)
    exact hm.elim (fun y => absurd y m0) id
  have YM : ∀ post : Int32 → SY → Prop, wY_clock_22 post v2 (nI lim) (nI cnt) (nI ned) (nI okd) (nI oix) (nI 1) cy (rs_A kd) (rs_A vl) (rs_A rg) (rs_A ip) (rs_A wv) (rs_A wdf) (rs_A odf) (rs_A st) (rs_A nx) → wpY_clock post ((nI lim), (nI cnt), (nI ned), (nI okd), (nI oix), (nI 1), cy, (rs_A kd), (rs_A vl), (rs_A rg), (rs_A ip), (rs_A wv), (rs_A wdf), (rs_A odf), (rs_A st), (rs_A nx)) v1 v2 := fun post W => by
    refine br_f (by decide) (br_c (fun _ => W) fun m0 => br_t ?_ W)
    exact hm.elim (fun y => absurd y m0) id
  refine XM _ ?_
  by_cases h1 : v2 < 1
  · exact br_t h1 (YM _ (br_t h1 ⟨rfl, rs_mk h'⟩))
  by_cases h8 : v2 ≤ 8
  case neg => exact br_f h1 (br_f h8 (YM _ (br_f h1 (br_f h8 ⟨rfl, rs_mk h'⟩))))
  have hp : ¬ v2 < 0 := fun y => h1 (Int32.lt_of_lt_of_le y (by decide))
  obtain ⟨cyc, hcy, rfl⟩ := nI_of hp
  have c8 : cyc ≤ 8 := (nI_leI (b := 8) hcy (by decide)).mp h8
  refine br_f h1 (br_t h8 ⟨cyc + 1, ?_⟩)
  refine xo_clk_l (rg := rg) (cy := cy) c8 (by omega) C (fun res' L' hr' hL' hB' => ?_) cyc 0 res L (by omega) hres hL0 hB
  refine YM _ (br_f h1 (br_t h8 ⟨cyc + 1, ?_⟩))
  have W := ye_clk (lim := lim) (ned := ned) (okd := okd) (oix := oix) (cp := 1) (odf := odf) (cy0 := cy) (rg := rg) (ip := ip) (post := fun r' v' => r' = 0 ∧ i_Rel (k + 3) ((nI lim), (nI cnt), (nI ned), (nI op), (nI 1), (cy + nI cyc), (nI nc), (rs_A kd), (rs_A vl), (rs_A (rs_NN kd vl en ws ip cnt rg cyc)), (rs_A ip), (rs_A wdf), (rs_A odf), (rs_A ws), (rs_A ost), (rs_A fo), (rs_A so), (rs_A to), (rs_A en), (rs_A ord), (rs_A res'), (rs_A gl), (rs_A gr), (rs_A fs), (rs_A tb), (rs_AB L')) v') c8 C.1 (by omega) D (fun wv' st' nx' => ⟨rfl, rs_mk ⟨hl, hc, hn, T, T4, hB', hr', hL', hfo, hop, Or.inr ⟨rfl, z0, C⟩⟩⟩) cyc 0 wv st nx (by omega) hB
  rw [nI_0, Int32.add_zero] at W
  exact W
def rs_z (rg : Nat → Nat) (j : Nat) : Nat → Nat := fun r => if r < j then 0 else rg r
theorem rs_z_0 (rg : Nat → Nat) : rs_z rg 0 = rg := funext fun r => if_neg (by omega)
theorem rs_z_s (rg : Nat → Nat) (j : Nat) : rs_u (rs_z rg j) j 0 = rs_z rg (j + 1) := by
  funext r
  unfold rs_u rs_z
  by_cases h : r = j
  · rw [if_pos h, if_pos (by omega)]
  · rw [if_neg h]
    exact rs_ite_i (by omega)
section
variable {lim cnt ned op cp nc : Nat} {cy : Int32} {kd vl rg ip wdf odf ws ost fo so to en ord res gl gr fs tb : Nat → Nat} {L : Nat → Bool}
variable {okd oix : Nat} {wv st nx : Nat → Nat}
theorem xr_l {post : SX → Prop} (H : post ((nI lim), (nI cnt), (nI ned), (nI op), (nI cp), 0, (nI nc), (rs_A kd), (rs_A vl), (rs_A (rs_z rg 8)), (rs_A ip), (rs_A wdf), (rs_A odf), (rs_A ws), (rs_A ost), (rs_A fo), (rs_A so), (rs_A to), (rs_A en), (rs_A ord), (rs_A res), (rs_A gl), (rs_A gr), (rs_A fs), (rs_A tb), (rs_AB L))) : ∀ d j, j + d = 8 → wX_reset_2 post (nI lim) (nI cnt) (nI ned) (nI op) (nI cp) cy (nI nc) (d + 1) (nI j) (rs_A kd) (rs_A vl) (rs_A (rs_z rg j)) (rs_A ip) (rs_A wdf) (rs_A odf) (rs_A ws) (rs_A ost) (rs_A fo) (rs_A so) (rs_A to) (rs_A en) (rs_A ord) (rs_A res) (rs_A gl) (rs_A gr) (rs_A fs) (rs_A tb) (rs_AB L) := by
  intro d
  induction d with
  | zero =>
    intro j hj
    have e : j = 8 := by omega
    subst e
    exact br_t xa_8t H
  | succ d ih =>
    intro j hj
    have eu : upd (rs_A (rs_z rg j)) (nI j).toNatClampNeg 0 = rs_A (rs_z rg (j + 1)) := by rw [← rs_z_s]; exact rs_upI j 0 rfl (by omega)
    exact br_f (xa_8f (by omega)) ⟨pk_in j 8 (by omega), nm_r eu (nm_r (nI_1 j) (ih (j + 1) (by omega)))⟩
theorem yr_l {post : SY → Prop} (H : post ((nI lim), (nI cnt), (nI ned), (nI okd), (nI oix), (nI cp), 0, (rs_A kd), (rs_A vl), (rs_A (rs_z rg 8)), (rs_A ip), (rs_A wv), (rs_A wdf), (rs_A odf), (rs_A st), (rs_A nx))) : ∀ d j, j + d = 8 → wY_reset_2 post (nI lim) (nI cnt) (nI ned) (nI okd) (nI oix) (nI cp) cy (d + 1) (nI j) (rs_A kd) (rs_A vl) (rs_A (rs_z rg j)) (rs_A ip) (rs_A wv) (rs_A wdf) (rs_A odf) (rs_A st) (rs_A nx) := by
  intro d
  induction d with
  | zero =>
    intro j hj
    have e : j = 8 := by omega
    subst e
    exact br_t xa_8t H
  | succ d ih =>
    intro j hj
    have eu : upd (rs_A (rs_z rg j)) (nI j).toNatClampNeg 0 = rs_A (rs_z rg (j + 1)) := by rw [← rs_z_s]; exact rs_upI j 0 rfl (by omega)
    exact br_f (xa_8f (by omega)) ⟨pk_in j 8 (by omega), nm_r eu (nm_r (nI_1 j) (ih (j + 1) (by omega)))⟩
theorem xr_a {post : SX → Prop} (H : post ((nI lim), (nI cnt), (nI ned), (nI op), (nI cp), 0, (nI nc), (rs_A kd), (rs_A vl), (rs_A (rs_z rg 8)), (rs_A ip), (rs_A wdf), (rs_A odf), (rs_A ws), (rs_A ost), (rs_A fo), (rs_A so), (rs_A to), (rs_A en), (rs_A ord), (rs_A res), (rs_A gl), (rs_A gr), (rs_A fs), (rs_A tb), (rs_AB L))) : wpX_reset post ((nI lim), (nI cnt), (nI ned), (nI op), (nI cp), cy, (nI nc), (rs_A kd), (rs_A vl), (rs_A rg), (rs_A ip), (rs_A wdf), (rs_A odf), (rs_A ws), (rs_A ost), (rs_A fo), (rs_A so), (rs_A to), (rs_A en), (rs_A ord), (rs_A res), (rs_A gl), (rs_A gr), (rs_A fs), (rs_A tb), (rs_AB L)) := by
  have W := xr_l (cy := cy) H 8 0 rfl
  rw [rs_z_0] at W
  exact ⟨9, W⟩
theorem yr_a {post : SY → Prop} (H : post ((nI lim), (nI cnt), (nI ned), (nI okd), (nI oix), (nI cp), 0, (rs_A kd), (rs_A vl), (rs_A (rs_z rg 8)), (rs_A ip), (rs_A wv), (rs_A wdf), (rs_A odf), (rs_A st), (rs_A nx))) : wpY_reset post ((nI lim), (nI cnt), (nI ned), (nI okd), (nI oix), (nI cp), cy, (rs_A kd), (rs_A vl), (rs_A rg), (rs_A ip), (rs_A wv), (rs_A wdf), (rs_A odf), (rs_A st), (rs_A nx)) := by
  have W := yr_l (cy := cy) H 8 0 rfl
  rw [rs_z_0] at W
  exact ⟨9, W⟩
end
theorem i_vc_reset {k : Nat} {u : SX} {v : SY} (I : i_Rel k u v) (hk : k + 3 ≤ 1537) : wpX_reset (fun u' => wpY_reset (fun v' => i_Rel (k + 3) u' v') v) u := by
  obtain ⟨lim, cnt, ned, op, cp, nc, okd, oix, cy, kd, vl, rg, ip, wdf, odf, ws, ost, fo, so, to, en, ord, res, gl, gr, fs, tb, wv, st, nx, L, rfl, rfl, h⟩ := I
  have h' := h
  obtain ⟨hl, hc, hn, T, T4, hB, hres, hL0, hfo, hop, hcp⟩ := h
  have hB' : rs_B ip (rs_z rg 8) := ⟨hB.1, fun q => rs_it (P := fun x => x < 256) (fun _ => (by decide : (0 : Nat) < 256)) fun _ => hB.2 q⟩
  exact xr_a (yr_a (rs_mk ⟨hl, hc, hn, T, T4, hB', hres, hL0, hfo, hop, hcp⟩))
end
section
/-! what is owed of the calls that answer -/
theorem i_vc_getRegister {k : Nat} {u : SX} {v : SY} (I : i_Rel k u v) (hk : k + 3 ≤ 1537) (v1 : Int32) : wpX_getRegister (fun r => wpY_getRegister (fun r' => r' = r ∧ i_Rel (k + 3) u v) v v1) u v1 := by
  have I' := I
  obtain ⟨lim, cnt, ned, op, cp, nc, okd, oix, cy, kd, vl, rg, ip, wdf, odf, ws, ost, fo, so, to, en, ord, res, gl, gr, fs, tb, wv, st, nx, L, rfl, rfl, h⟩ := I
  rcases pk_ix v1 (n := 8) (by decide) with z | z | ⟨p, hp, rfl⟩
  · exact br_t z (br_t z ⟨rfl, I'⟩)
  · have a : ¬ v1 < 0 := Int32.not_lt.mpr (Int32.le_trans (by decide) z)
    have b : ¬ v1 < 8 := Int32.not_lt.mpr z
    have c : ¬ v1 ≤ 7 := fun y => absurd (Int32.le_trans z y) (by decide)
    exact br_f a (br_f b (br_f a (br_f c ⟨rfl, I'⟩)))
  · have a : ¬ nI p < 0 := nI_pos (by omega)
    have b : nI p < 8 := nI_lt (b := 8) hp (by decide)
    have c : nI p ≤ 7 := nI_le (b := 7) (by omega) (by decide)
    exact br_f a (br_t b ⟨pk_in p 8 hp, br_f a (br_t c ⟨pk_in p 8 hp, rfl, I'⟩)⟩)
theorem i_vc_getInput {k : Nat} {u : SX} {v : SY} (I : i_Rel k u v) (hk : k + 3 ≤ 1537) (v1 : Int32) : wpX_getInput (fun r => wpY_getInput (fun r' => r' = r ∧ i_Rel (k + 3) u v) v v1) u v1 := by
  have I' := I
  obtain ⟨lim, cnt, ned, op, cp, nc, okd, oix, cy, kd, vl, rg, ip, wdf, odf, ws, ost, fo, so, to, en, ord, res, gl, gr, fs, tb, wv, st, nx, L, rfl, rfl, h⟩ := I
  rcases pk_ix v1 (n := 4) (by decide) with z | z | ⟨p, hp, rfl⟩
  · exact br_t z (br_t z ⟨rfl, I'⟩)
  · have a : ¬ v1 < 0 := Int32.not_lt.mpr (Int32.le_trans (by decide) z)
    have b : ¬ v1 < 4 := Int32.not_lt.mpr z
    have c : ¬ v1 ≤ 3 := fun y => absurd (Int32.le_trans z y) (by decide)
    exact br_f a (br_f b (br_f a (br_f c ⟨rfl, I'⟩)))
  · have a : ¬ nI p < 0 := nI_pos (by omega)
    have b : nI p < 4 := nI_lt (b := 4) hp (by decide)
    have c : nI p ≤ 3 := nI_le (b := 3) (by omega) (by decide)
    exact br_f a (br_t b ⟨pk_in p 4 hp, br_f a (br_t c ⟨pk_in p 4 hp, rfl, I'⟩)⟩)
theorem i_vc_getWire {k : Nat} {u : SX} {v : SY} (I : i_Rel k u v) (hk : k + 3 ≤ 1537) (v1 : Int32) : wpX_getWire (fun r u' => wpY_getWire (fun r' v' => r' = r ∧ i_Rel (k + 3) u' v') v v1) u v1 := by
  obtain ⟨lim, cnt, ned, op, cp, nc, okd, oix, cy, kd, vl, rg, ip, wdf, odf, ws, ost, fo, so, to, en, ord, res, gl, gr, fs, tb, wv, st, nx, L, rfl, rfl, h⟩ := I
  have h' := h
  obtain ⟨hl, hc, hn, T, T4, hB, hres, hL0, hfo, hop, hcp⟩ := h
  rcases pk_ix v1 (n := 8) (by decide) with z | z | ⟨w, hw, rfl⟩
  · exact br_t z (br_t z ⟨rfl, rs_mk h'⟩)
  · have a : ¬ v1 < 0 := Int32.not_lt.mpr (Int32.le_trans (by decide) z)
    have c : 7 < v1 := Int32.lt_of_lt_of_le (by decide) z
    exact br_f a (br_t z (br_f a (br_t c ⟨rfl, rs_mk h'⟩)))
  have a : ¬ nI w < 0 := nI_pos (by omega)
  have b : ¬ (8 : Int32) ≤ nI w := xa_8f hw
  have c : ¬ (7 : Int32) < nI w := nI_nlt (a := 7) (by omega) (by decide)
  rcases hcp with z | ⟨z, z0, C⟩
  · subst z
    exact br_f a (br_f b (br_t rfl (br_f a (br_f c (br_t rfl ⟨rfl, rs_mk h'⟩)))))
  subst z
  have i8 : vp_in (nI w) 8 := pk_in w 8 hw
  have ew : rs_A wdf (nI w).toNatClampNeg = nI (wdf w) := rs_Ax w rfl (by omega)
  refine br_f a (br_f b (br_f (by decide) ⟨i8, ?_⟩))
  rcases T.2.1.1 w with y | y
  · have e : rs_A wdf (nI w).toNatClampNeg = 0 := by rw [ew, y]; rfl
    exact br_t e (br_f a (br_f c (br_f (by decide) ⟨i8, br_t e ⟨rfl, rs_mk h'⟩⟩)))
  · have e : ¬ rs_A wdf (nI w).toNatClampNeg = 0 := by rw [ew, y]; decide
    have D := rs_T_Wd T T4 z0
    have wl := (D.1 w y).1
    have es : rs_A ws (nI w).toNatClampNeg = nI (ws w) := rs_Ax w rfl (by omega)
    refine br_f e (xo_int (by omega) C hB hres fun R hS hR => ?_)
    have er : rs_A R (rs_A ws (nI w).toNatClampNeg).toNatClampNeg = nI (R (ws w)) := rs_Ax _ es (by omega)
    refine ⟨i8, by rw [es]; exact vp_in_nI (by omega) (by decide), ?_⟩
    refine br_f a (br_f c (br_f (by decide) ⟨i8, br_f e (ye_wires C.1 (by omega) D hS (fun i _ => hR i) fun st' wv' hW => ⟨i8, ?_, rs_mk ⟨hl, hc, hn, T, T4, hB, hR, hL0, hfo, hop, Or.inr ⟨rfl, z0, C⟩⟩⟩)⟩))
    rw [er, rs_Ax w rfl (by omega), hW w y]
theorem i_vc_getOutput {k : Nat} {u : SX} {v : SY} (I : i_Rel k u v) (hk : k + 3 ≤ 1537) (v1 : Int32) : wpX_getOutput (fun r u' => wpY_getOutput (fun r' v' => r' = r ∧ i_Rel (k + 3) u' v') v v1) u v1 := by
  obtain ⟨lim, cnt, ned, op, cp, nc, okd, oix, cy, kd, vl, rg, ip, wdf, odf, ws, ost, fo, so, to, en, ord, res, gl, gr, fs, tb, wv, st, nx, L, rfl, rfl, h⟩ := I
  have h' := h
  obtain ⟨hl, hc, hn, T, T4, hB, hres, hL0, hfo, hop, hcp⟩ := h
  rcases pk_ix v1 (n := 4) (by decide) with z | z | ⟨w, hw, rfl⟩
  · exact br_t z (br_t z ⟨rfl, rs_mk h'⟩)
  · have a : ¬ v1 < 0 := Int32.not_lt.mpr (Int32.le_trans (by decide) z)
    have c : 3 < v1 := Int32.lt_of_lt_of_le (by decide) z
    exact br_f a (br_t z (br_f a (br_t c ⟨rfl, rs_mk h'⟩)))
  have a : ¬ nI w < 0 := nI_pos (by omega)
  have b : ¬ (4 : Int32) ≤ nI w := nI_ge (b := 4) hw (by decide)
  have c : ¬ (3 : Int32) < nI w := nI_nlt (a := 3) (by omega) (by decide)
  rcases hcp with z | ⟨z, z0, C⟩
  · subst z
    exact br_f a (br_f b (br_t rfl (br_f a (br_f c (br_t rfl ⟨rfl, rs_mk h'⟩)))))
  subst z
  have i8 : vp_in (nI w) 4 := pk_in w 4 hw
  have ew : rs_A odf (nI w).toNatClampNeg = nI (odf w) := rs_Ax w rfl (by omega)
  refine br_f a (br_f b (br_f (by decide) ⟨i8, ?_⟩))
  rcases T.2.1.2.1 w with y | y
  · have e : rs_A odf (nI w).toNatClampNeg = 0 := by rw [ew, y]; rfl
    exact br_t e (br_f a (br_f c (br_f (by decide) ⟨i8, br_t e ⟨rfl, rs_mk h'⟩⟩)))
  · have e : ¬ rs_A odf (nI w).toNatClampNeg = 0 := by rw [ew, y]; decide
    have D := rs_T_Wd T T4 z0
    obtain ⟨o1, o2, o3⟩ := T.2.1.2.2.2 w y
    have hU : ∀ i, i < cnt → kd i = 10 → ost (vl i) = i := fun i hi h10 => (T4.2 i hi h10).elim (fun q => q.2) fun q => by have := q.2; omega
    have es : rs_A ost (nI w).toNatClampNeg = nI (ost w) := rs_Ax w rfl (by omega)
    refine br_f e (xo_int (by omega) C hB hres fun R hS hR => ?_)
    have er : rs_A R (rs_A ost (nI w).toNatClampNeg).toNatClampNeg = nI (R (ost w)) := rs_Ax _ es (by omega)
    refine ⟨i8, by rw [es]; exact vp_in_nI (by omega) (by decide), ?_⟩
    refine br_f a (br_f c (br_f (by decide) ⟨i8, br_f e (ye_wires C.1 (by omega) D hS (fun i _ => hR i) fun st' wv' hW => ⟨cnt + 1, ?_⟩)⟩))
    refine ye_o_l hw C.1 (by omega) hS (fun i _ => hR i) (fun i hi h4 => hW _ (D.2.2 i hi h4)) o1 o2 o3 hU (fun st'' => ⟨er.symm, rs_mk ⟨hl, hc, hn, T, T4, hB, hR, hL0, hfo, hop, Or.inr ⟨rfl, z0, C⟩⟩⟩) cnt 0 (by omega) (Nat.zero_le _)
theorem i_vc_getNext {k : Nat} {u : SX} {v : SY} (I : i_Rel k u v) (hk : k + 3 ≤ 1537) (v1 : Int32) : wpX_getNext (fun r u' => wpY_getNext (fun r' v' => r' = r ∧ i_Rel (k + 3) u' v') v v1) u v1 := by
  obtain ⟨lim, cnt, ned, op, cp, nc, okd, oix, cy, kd, vl, rg, ip, wdf, odf, ws, ost, fo, so, to, en, ord, res, gl, gr, fs, tb, wv, st, nx, L, rfl, rfl, h⟩ := I
  have h' := h
  obtain ⟨hl, hc, hn, T, T4, hB, hres, hL0, hfo, hop, hcp⟩ := h
  rcases pk_ix v1 (n := 8) (by decide) with z | z | ⟨w, hw, rfl⟩
  · exact br_t z (br_t z ⟨rfl, rs_mk h'⟩)
  · have a : ¬ v1 < 0 := Int32.not_lt.mpr (Int32.le_trans (by decide) z)
    have c : 7 < v1 := Int32.lt_of_lt_of_le (by decide) z
    exact br_f a (br_t z (br_f a (br_t c ⟨rfl, rs_mk h'⟩)))
  have a : ¬ nI w < 0 := nI_pos (by omega)
  have b : ¬ (8 : Int32) ≤ nI w := xa_8f hw
  have c : ¬ (7 : Int32) < nI w := nI_nlt (a := 7) (by omega) (by decide)
  rcases hcp with z | ⟨z, z0, C⟩
  · subst z
    exact br_f a (br_f b (br_t rfl (br_f a (br_f c (br_t rfl ⟨rfl, rs_mk h'⟩)))))
  subst z
  have D := rs_T_Wd T T4 z0
  refine br_f a (br_f b (br_f (by decide) (xo_int (by omega) C hB hres fun R hS hR => ?_)))
  refine xo_next (rg0 := rg) hw rfl (by omega) C hR ?_
  exact br_f a (br_f c (br_f (by decide) (ye_next hw C.1 (by omega) D hS (fun i _ => hR i) fun st' wv' => ⟨rfl, rs_mk ⟨hl, hc, hn, T, T4, hB, hR, hL0, hfo, hop, Or.inr ⟨rfl, z0, C⟩⟩⟩)))
theorem i_vc_getTokenCount {k : Nat} {u : SX} {v : SY} (I : i_Rel k u v) (hk : k + 3 ≤ 1537) : wpX_getTokenCount (fun r => wpY_getTokenCount (fun r' => r' = r ∧ i_Rel (k + 3) u v) v) u := by
  have I' := I
  obtain ⟨lim, cnt, ned, op, cp, nc, okd, oix, cy, kd, vl, rg, ip, wdf, odf, ws, ost, fo, so, to, en, ord, res, gl, gr, fs, tb, wv, st, nx, L, rfl, rfl, h⟩ := I
  exact ⟨rfl, I'⟩
theorem i_vc_getNeed {k : Nat} {u : SX} {v : SY} (I : i_Rel k u v) (hk : k + 3 ≤ 1537) : wpX_getNeed (fun r => wpY_getNeed (fun r' => r' = r ∧ i_Rel (k + 3) u v) v) u := by
  have I' := I
  obtain ⟨lim, cnt, ned, op, cp, nc, okd, oix, cy, kd, vl, rg, ip, wdf, odf, ws, ost, fo, so, to, en, ord, res, gl, gr, fs, tb, wv, st, nx, L, rfl, rfl, h⟩ := I
  exact ⟨rfl, I'⟩
theorem i_vc_isCompiled {k : Nat} {u : SX} {v : SY} (I : i_Rel k u v) (hk : k + 3 ≤ 1537) : wpX_isCompiled (fun r => wpY_isCompiled (fun r' => r' = r ∧ i_Rel (k + 3) u v) v) u := by
  have I' := I
  obtain ⟨lim, cnt, ned, op, cp, nc, okd, oix, cy, kd, vl, rg, ip, wdf, odf, ws, ost, fo, so, to, en, ord, res, gl, gr, fs, tb, wv, st, nx, L, rfl, rfl, h⟩ := I
  have h' := h
  obtain ⟨hl, hc, hn, T, T4, hB, hres, hL0, hfo, hop, hcp⟩ := h
  have e : narrow .boolean (.int (nI cp)) = .int (nI cp) := by
    rcases hcp with z | ⟨z, _⟩ <;> subst z <;> rfl
  exact ⟨e, e, rfl, I'⟩
theorem i_vc_getCycles {k : Nat} {u : SX} {v : SY} (I : i_Rel k u v) (hk : k + 3 ≤ 1537) : wpX_getCycles (fun r => wpY_getCycles (fun r' => r' = r ∧ i_Rel (k + 3) u v) v) u := by
  have I' := I
  obtain ⟨lim, cnt, ned, op, cp, nc, okd, oix, cy, kd, vl, rg, ip, wdf, odf, ws, ost, fo, so, to, en, ord, res, gl, gr, fs, tb, wv, st, nx, L, rfl, rfl, h⟩ := I
  exact ⟨rfl, I'⟩
end

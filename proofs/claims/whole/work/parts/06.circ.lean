/-! one gate; eight literals written one by one; the chains of carries -/
/-- l is a literal of the later circuit, at most g gates later, and worth F -/
def rs_G (nc : Nat) (gl gr : Nat → Nat) (nc' : Nat) (gl' gr' : Nat → Nat) (l g : Nat) (F : (Nat → Bool) → Bool) : Prop := nc' ≤ nc + g ∧ rs_Ex nc gl gr nc' gl' gr' ∧ l < 2 * nc' ∧ ∀ L, rs_Md nc' gl' gr' L → rs_lv L l = F L
theorem rs_g_and {nc : Nat} {gl gr : Nat → Nat} (h : rs_WF nc gl gr) {a b : Nat} (ha : a < 2 * nc) (hb : b < 2 * nc) : rs_G nc gl gr (nc + 1) (rs_u gl nc a) (rs_u gr nc b) (2 * nc) 1 (fun L => rs_lv L a && rs_lv L b) :=
  ⟨Nat.le_refl _, (rs_ex_and h ha hb).1, by omega, (rs_ex_and h ha hb).2⟩
theorem rs_g_t {nc nc1 nc2 : Nat} {gl gr gl1 gr1 gl2 gr2 : Nat → Nat} {l l' g g' : Nat} {F F' : (Nat → Bool) → Bool} (h : rs_G nc gl gr nc1 gl1 gr1 l g F) (h' : rs_G nc1 gl1 gr1 nc2 gl2 gr2 l' g' F') : rs_G nc gl gr nc2 gl2 gr2 l' (g + g') F' := ⟨by have := h.1; have := h'.1; omega, rs_ex_t h.2.1 h'.2.1, h'.2.2⟩
theorem rs_g_F {nc nc1 : Nat} {gl gr gl1 gr1 : Nat → Nat} {l g : Nat} {F F' : (Nat → Bool) → Bool} (h : rs_G nc gl gr nc1 gl1 gr1 l g F) (e : ∀ L, rs_Md nc1 gl1 gr1 L → F L = F' L) : rs_G nc gl gr nc1 gl1 gr1 l g F' := ⟨h.1, h.2.1, h.2.2.1, fun L z => (h.2.2.2 L z).trans (e L z)⟩
theorem rs_g_n {nc nc1 : Nat} {gl gr gl1 gr1 : Nat → Nat} {l g : Nat} {F : (Nat → Bool) → Bool} (h : rs_G nc gl gr nc1 gl1 gr1 l g F) : rs_G nc gl gr nc1 gl1 gr1 (l ^^^ 1) g (fun L => !F L) := ⟨h.1, h.2.1, rs_x1l h.2.2.1, fun L z => by rw [rs_lv_n, h.2.2.2 L z]⟩
theorem rs_g_up {nc nc1 nc2 : Nat} {gl gr gl1 gr1 gl2 gr2 : Nat → Nat} {l g : Nat} {F : (Nat → Bool) → Bool} (h : rs_G nc gl gr nc1 gl1 gr1 l g F) (h' : rs_Ex nc1 gl1 gr1 nc2 gl2 gr2) : l < 2 * nc2 ∧ ∀ L, rs_Md nc2 gl2 gr2 L → rs_lv L l = F L := ⟨by have := h.2.2.1; have := h'.1; omega, fun L z => h.2.2.2 L (h'.2.2 L z)⟩
/-- j literals of row i are written, each worth W -/
def rs_St (W : (Nat → Bool) → Nat → Bool) (i j g nc : Nat) (gl gr tb : Nat → Nat) (nc' : Nat) (gl' gr' tb' : Nat → Nat) : Prop := nc' ≤ nc + g ∧ rs_Ex nc gl gr nc' gl' gr' ∧ (∀ x, (x < i * 8 ∨ i * 8 + j ≤ x) → tb' x = tb x) ∧ (∀ x, x < j → tb' (i * 8 + x) < 2 * nc') ∧ ∀ L, rs_Md nc' gl' gr' L → ∀ x, x < j → rs_lv L (tb' (i * 8 + x)) = W L x
theorem rs_st_0 {W : (Nat → Bool) → Nat → Bool} {i nc : Nat} {gl gr tb : Nat → Nat} {nc' : Nat} {gl' gr' : Nat → Nat} {g : Nat} (hg : nc' ≤ nc + g) (h : rs_Ex nc gl gr nc' gl' gr') : rs_St W i 0 g nc gl gr tb nc' gl' gr' tb := ⟨hg, h, fun _ _ => rfl, fun x hx => by omega, fun _ _ x hx => by omega⟩
theorem rs_st_s {W : (Nat → Bool) → Nat → Bool} {i j g nc : Nat} {gl gr tb : Nat → Nat} {nc' : Nat} {gl' gr' tb' : Nat → Nat} {nc'' : Nat} {gl'' gr'' : Nat → Nat} {g' o : Nat} (h : rs_St W i j g nc gl gr tb nc' gl' gr' tb') (hx : rs_Ex nc' gl' gr' nc'' gl'' gr'') (hg : nc'' ≤ nc + g') (ho : o < 2 * nc'') (hL : ∀ L, rs_Md nc'' gl'' gr'' L → rs_lv L o = W L j) : rs_St W i (j + 1) g' nc gl gr tb nc'' gl'' gr'' (rs_u tb' (i * 8 + j) o) := by
  obtain ⟨a, b, c, d, e⟩ := h
  refine ⟨hg, rs_ex_t b hx, fun x z => ?_, fun x z => ?_, fun L m x z => ?_⟩
  · rw [rs_un (by omega)]; exact c x (by omega)
  · rcases Nat.lt_or_ge x j with q | q
    · rw [rs_un (by omega)]; have := d x q; have := hx.1; omega
    · have q2 : x = j := by omega
      rw [q2, rs_us]; exact ho
  · rcases Nat.lt_or_ge x j with q | q
    · rw [rs_un (by omega)]; exact e L (hx.2.2 L m) x q
    · have q2 : x = j := by omega
      rw [q2, rs_us]; exact hL L m
theorem rs_st_rd {W : (Nat → Bool) → Nat → Bool} {i j g nc : Nat} {gl gr tb : Nat → Nat} {nc' : Nat} {gl' gr' tb' : Nat → Nat} (h : rs_St W i j g nc gl gr tb nc' gl' gr' tb') (hj : j ≤ 8) {p x : Nat} (hp : p ≠ i) (hx : x < 8) : tb' (p * 8 + x) = tb (p * 8 + x) := h.2.2.1 _ (by omega)
theorem rs_st_g {W : (Nat → Bool) → Nat → Bool} {i j g g' nc : Nat} {gl gr tb : Nat → Nat} {nc' : Nat} {gl' gr' tb' : Nat → Nat} (h : rs_St W i j g nc gl gr tb nc' gl' gr' tb') (hg : g ≤ g') : rs_St W i j g' nc gl gr tb nc' gl' gr' tb' := ⟨by have := h.1; omega, h.2⟩
theorem rs_lv_x (L : Nat → Bool) (l : Nat) (s : Bool) : rs_lv L (l ^^^ s.toNat) = (rs_lv L l ^^ s) := by
  cases s
  · rw [Bool.xor_false]; exact congrArg _ (Nat.xor_zero l)
  · rw [Bool.xor_true]; exact rs_lv_n L l
theorem rs_xsl {l n : Nat} (s : Bool) (h : l < 2 * n) : l ^^^ s.toNat < 2 * n := by
  cases s
  · have e : l ^^^ false.toNat = l := Nat.xor_zero l
    rw [e]; exact h
  · exact rs_x1l h
/-- the chain of carries, of equal bits, of clear bits -/
def rs_ch (A B : Nat → Bool) (c : Bool) : Nat → Bool
  | 0 => c
  | j + 1 => Bool.atLeastTwo (A j) (B j) (rs_ch A B c j)
theorem rs_ch_cy {A B : Nat → Bool} {a b : Nat} (hA : ∀ x, x < 8 → A x = a.testBit x) (hB : ∀ x, x < 8 → B x = b.testBit x) (c : Bool) : ∀ j, j ≤ 8 → rs_ch A B c j = rs_cy a b c j := by
  intro j
  induction j with
  | zero => intro _; exact (rs_cy_0 a b c).symm
  | succ j ih =>
    intro hj
    rw [rs_cy_s a b c (by omega), ← ih (by omega), ← hA j (by omega), ← hB j (by omega)]
    rfl
def rs_qc (A B : Nat → Bool) : Nat → Bool
  | 0 => true
  | j + 1 => rs_qc A B j && !(A j ^^ B j)
theorem rs_qc_p (A B : Nat → Bool) : ∀ j, rs_qc A B j = true ↔ ∀ x, x < j → A x = B x := by
  intro j
  induction j with
  | zero => exact ⟨fun _ x h => by omega, fun _ => rfl⟩
  | succ j ih =>
    have e : rs_qc A B (j + 1) = (rs_qc A B j && !(A j ^^ B j)) := rfl
    rw [e, Bool.and_eq_true, ih]
    have e2 : (!(A j ^^ B j)) = true ↔ A j = B j := by cases A j <;> cases B j <;> simp
    rw [e2]
    constructor
    · intro h x hx
      rcases Nat.lt_or_ge x j with q | q
      · exact h.1 x q
      · have q2 : x = j := by omega
        rw [q2]; exact h.2
    · exact fun h => ⟨fun x hx => h x (by omega), h j (by omega)⟩
theorem rs_qc_8 {A B : Nat → Bool} {a b : Nat} (ha : a < 256) (hb : b < 256) (hA : ∀ x, x < 8 → A x = a.testBit x) (hB : ∀ x, x < 8 → B x = b.testBit x) : rs_qc A B 8 = decide (a = b) := by
  have h := rs_qc_p A B 8
  by_cases g : a = b
  · rw [decide_eq_true g]
    exact h.mpr fun x hx => by rw [hA x hx, hB x hx, g]
  · rw [decide_eq_false g]
    cases e : rs_qc A B 8
    · rfl
    · exact absurd (rs_eqb ha hb fun x hx => by rw [← hA x hx, ← hB x hx]; exact h.mp e x hx) g
def rs_nn (A : Nat → Bool) : Nat → Bool
  | 0 => true
  | j + 1 => rs_nn A j && !A j
theorem rs_nn_p (A : Nat → Bool) : ∀ j, rs_nn A j = true ↔ ∀ x, x < j → A x = false := by
  intro j
  induction j with
  | zero => exact ⟨fun _ x h => by omega, fun _ => rfl⟩
  | succ j ih =>
    have e : rs_nn A (j + 1) = (rs_nn A j && !A j) := rfl
    rw [e, Bool.and_eq_true, ih]
    have e2 : (!A j) = true ↔ A j = false := by cases A j <;> simp
    rw [e2]
    constructor
    · intro h x hx
      rcases Nat.lt_or_ge x j with q | q
      · exact h.1 x q
      · have q2 : x = j := by omega
        rw [q2]; exact h.2
    · exact fun h => ⟨fun x hx => h x (by omega), h j (by omega)⟩
theorem rs_nn_8 {A : Nat → Bool} {a : Nat} (ha : a < 256) (hA : ∀ x, x < 8 → A x = a.testBit x) : rs_nn A 8 = decide (a = 0) := by
  have h := rs_nn_p A 8
  by_cases g : a = 0
  · rw [decide_eq_true g]
    exact h.mpr fun x hx => by rw [hA x hx, g]; exact Nat.zero_testBit x
  · rw [decide_eq_false g]
    cases e : rs_nn A 8
    · rfl
    · exact absurd (rs_eqb ha (by decide : 0 < 256) fun x hx => by rw [← hA x hx, h.mp e x hx]; exact (Nat.zero_testBit x).symm) g
/-! what each builder's bits are worth, where its operands are worth a, b, c -/
def rs_rd (L : Nat → Bool) (tb : Nat → Nat) (p x : Nat) : Bool := rs_lv L (tb (p * 8 + x))
def rs_Wsum (tb : Nat → Nat) (p q : Nat) (s : Bool) (L : Nat → Bool) (x : Nat) : Bool := (rs_rd L tb p x ^^ (rs_rd L tb q x ^^ s)) ^^ rs_ch (rs_rd L tb p) (fun y => rs_rd L tb q y ^^ s) s x
theorem rs_add_p {L : Nat → Bool} {tb : Nat → Nat} {p q a b : Nat} (ha : a < 256) (hb : b < 256) (hA : rs_bt L tb p a) (hB : rs_bt L tb q b) (c : Nat) : ∀ x, x < 8 → rs_Wsum tb p q false L x = (rs_f 3 a b c).testBit x := by
  intro x hx
  have e : rs_f 3 a b c = (a + b + false.toNat) % 256 := rfl
  rw [e, rs_add a b false hx]
  unfold rs_Wsum
  rw [rs_ch_cy (A := rs_rd L tb p) (B := fun y => rs_rd L tb q y ^^ false) (a := a) (b := b) hA (fun y hy => by show (rs_rd L tb q y ^^ false) = _; rw [Bool.xor_false]; exact hB y hy) false x (by omega)]
  rw [show rs_rd L tb p x = a.testBit x from hA x hx, show rs_rd L tb q x = b.testBit x from hB x hx, Bool.xor_false, Bool.xor_assoc]
theorem rs_sub_p {L : Nat → Bool} {tb : Nat → Nat} {p q a b : Nat} (ha : a < 256) (hb : b < 256) (hA : rs_bt L tb p a) (hB : rs_bt L tb q b) (c : Nat) : ∀ x, x < 8 → rs_Wsum tb p q true L x = (rs_f 4 a b c).testBit x := by
  intro x hx
  have e : rs_f 4 a b c = (a + (255 - b) + true.toNat) % 256 := by
    show (a + 256 - b) % 256 = (a + (255 - b) + 1) % 256
    congr 1; omega
  rw [e, rs_add a (255 - b) true hx]
  unfold rs_Wsum
  have hB' : ∀ y, y < 8 → (rs_rd L tb q y ^^ true) = (255 - b).testBit y := fun y hy => by
    rw [rs_nb b hb y hy, Bool.xor_true]; exact congrArg _ (hB y hy)
  rw [rs_ch_cy (A := rs_rd L tb p) (B := fun y => rs_rd L tb q y ^^ true) (a := a) (b := 255 - b) hA hB' true x (by omega), hB' x hx, Bool.xor_assoc, show rs_rd L tb p x = a.testBit x from hA x hx]
def rs_Wneg (tb : Nat → Nat) (p : Nat) (L : Nat → Bool) (x : Nat) : Bool := (!rs_rd L tb p x) ^^ rs_ch (fun y => !rs_rd L tb p y) (fun _ => false) true x
theorem rs_neg_p {L : Nat → Bool} {tb : Nat → Nat} {p a : Nat} (ha : a < 256) (hA : rs_bt L tb p a) (b c : Nat) : ∀ x, x < 8 → rs_Wneg tb p L x = (rs_f 2 a b c).testBit x := by
  intro x hx
  have e : rs_f 2 a b c = ((255 - a) + 0 + true.toNat) % 256 := by
    show (256 - a) % 256 = (255 - a + 0 + 1) % 256
    congr 1; omega
  have hA' : ∀ y, y < 8 → (!rs_rd L tb p y) = (255 - a).testBit y := fun y hy => by
    rw [rs_nb a ha y hy]; exact congrArg _ (hA y hy)
  rw [e, rs_add (255 - a) 0 true hx]
  unfold rs_Wneg
  rw [rs_ch_cy (a := 255 - a) (b := 0) hA' (fun y _ => (Nat.zero_testBit y).symm) true x (by omega), hA' x hx, Nat.zero_testBit, Bool.false_xor]
def rs_Wtr (T : (Nat → Bool) → Bool) (L : Nat → Bool) (x : Nat) : Bool := decide (x = 0) && T L
theorem rs_st_tr {T : (Nat → Bool) → Bool} {i l g nc : Nat} {gl gr tb : Nat → Nat} {nc' : Nat} {gl' gr' tb' : Nat → Nat} (hx : rs_Ex nc gl gr nc' gl' gr') (hg : nc' ≤ nc + g) (hl : l < 2 * nc') (hT : ∀ L, rs_Md nc' gl' gr' L → rs_lv L l = T L) (h1 : ∀ x, (x < i * 8 ∨ i * 8 + 8 ≤ x) → tb' x = tb x) (h2 : tb' (i * 8) = l) (h3 : ∀ x, 0 < x → x < 8 → tb' (i * 8 + x) = 0) : rs_St (rs_Wtr T) i 8 g nc gl gr tb nc' gl' gr' tb' := by
  have w := hx.2.1.1
  refine ⟨hg, hx, h1, fun x z => ?_, fun L m x z => ?_⟩
  · rcases Nat.eq_zero_or_pos x with q | q
    · rw [q, Nat.add_zero, h2]; exact hl
    · rw [h3 x q z]; omega
  · unfold rs_Wtr
    rcases Nat.eq_zero_or_pos x with q | q
    · rw [q, Nat.add_zero, h2, hT L m]; rfl
    · rw [h3 x q z, decide_eq_false (by omega), Bool.false_and]
      exact rs_lv_b m.1 false
def rs_Tlt (tb : Nat → Nat) (p q : Nat) (s : Bool) (L : Nat → Bool) : Bool := rs_ch (fun y => !(rs_rd L tb p y ^^ (decide (y = 7) && s))) (fun y => rs_rd L tb q y ^^ (decide (y = 7) && s)) false 8
theorem rs_lt_8 {A B : Nat → Bool} {a b : Nat} (ha : a < 256) (hb : b < 256) (hA : ∀ x, x < 8 → A x = a.testBit x) (hB : ∀ x, x < 8 → B x = b.testBit x) : rs_ch (fun y => !A y) B false 8 = decide (a < b) := by
  rw [rs_ch_cy (a := 255 - a) (b := b) (fun y hy => by show (!A y) = _; rw [rs_nb a ha y hy, hA y hy]) hB false 8 (by omega), rs_cy_8 (by omega) hb]
  show decide (256 ≤ 255 - a + b + 0) = _
  exact decide_eq_decide.mpr (by omega)
theorem rs_ltu_p {L : Nat → Bool} {tb : Nat → Nat} {p q a b : Nat} (ha : a < 256) (hb : b < 256) (hA : rs_bt L tb p a) (hB : rs_bt L tb q b) (c : Nat) : ∀ x, x < 8 → rs_Wtr (rs_Tlt tb p q false) L x = (rs_f 9 a b c).testBit x := by
  intro x hx
  show _ = (if a < b then 1 else 0 : Nat).testBit x
  rw [rs_tr]
  unfold rs_Wtr rs_Tlt
  rw [rs_lt_8 (A := fun y => rs_rd L tb p y ^^ (decide (y = 7) && false)) (a := a) (b := b) ha hb (fun y hy => by show (rs_rd L tb p y ^^ (decide (y = 7) && false)) = _; rw [Bool.and_false, Bool.xor_false]; exact hA y hy) (fun y hy => by show (rs_rd L tb q y ^^ (decide (y = 7) && false)) = _; rw [Bool.and_false, Bool.xor_false]; exact hB y hy)]
theorem rs_lts_p {L : Nat → Bool} {tb : Nat → Nat} {p q a b : Nat} (ha : a < 256) (hb : b < 256) (hA : rs_bt L tb p a) (hB : rs_bt L tb q b) (c : Nat) : ∀ x, x < 8 → rs_Wtr (rs_Tlt tb p q true) L x = (rs_f 10 a b c).testBit x := by
  intro x hx
  show _ = (if a ^^^ 128 < b ^^^ 128 then 1 else 0 : Nat).testBit x
  rw [rs_tr]
  unfold rs_Wtr rs_Tlt
  rw [rs_lt_8 (A := fun y => rs_rd L tb p y ^^ (decide (y = 7) && true)) (a := a ^^^ 128) (b := b ^^^ 128) (Nat.xor_lt_two_pow (n := 8) ha (by decide)) (Nat.xor_lt_two_pow (n := 8) hb (by decide)) (fun y hy => by show (rs_rd L tb p y ^^ (decide (y = 7) && true)) = _; rw [Bool.and_true, rs_x128 a hy, show rs_rd L tb p y = a.testBit y from hA y hy]) (fun y hy => by show (rs_rd L tb q y ^^ (decide (y = 7) && true)) = _; rw [Bool.and_true, rs_x128 b hy, show rs_rd L tb q y = b.testBit y from hB y hy])]
def rs_Teq (tb : Nat → Nat) (p q : Nat) (L : Nat → Bool) : Bool := rs_qc (rs_rd L tb p) (rs_rd L tb q) 8
theorem rs_eq_p {L : Nat → Bool} {tb : Nat → Nat} {p q a b : Nat} (ha : a < 256) (hb : b < 256) (hA : rs_bt L tb p a) (hB : rs_bt L tb q b) (c : Nat) : ∀ x, x < 8 → rs_Wtr (rs_Teq tb p q) L x = (rs_f 8 a b c).testBit x := by
  intro x hx
  show _ = (if a = b then 1 else 0 : Nat).testBit x
  rw [rs_tr]
  unfold rs_Wtr rs_Teq
  rw [rs_qc_8 (A := rs_rd L tb p) (B := rs_rd L tb q) ha hb hA hB]
def rs_Tan (tb : Nat → Nat) (p : Nat) (L : Nat → Bool) : Bool := !rs_nn (rs_rd L tb p) 8
theorem rs_an_p {L : Nat → Bool} {tb : Nat → Nat} {p a : Nat} (ha : a < 256) (hA : rs_bt L tb p a) : rs_Tan tb p L = !decide (a = 0) := by
  unfold rs_Tan
  rw [rs_nn_8 (A := rs_rd L tb p) ha hA]
def rs_Wmx (T : (Nat → Bool) → Bool) (tb : Nat → Nat) (p : Nat) (fs : Nat → Nat) (q : Nat) (L : Nat → Bool) (x : Nat) : Bool := bif T L then rs_rd L tb p x else rs_rd L fs q x
theorem rs_mux_p {L : Nat → Bool} {tb : Nat → Nat} {p q r a b c : Nat} (ha : a < 256) (hA : rs_bt L tb p a) (hB : rs_bt L tb q b) (hC : rs_bt L tb r c) : ∀ x, x < 8 → rs_Wmx (rs_Tan tb p) tb q tb r L x = (rs_f 11 a b c).testBit x := by
  intro x hx
  show _ = (if a = 0 then c else b : Nat).testBit x
  unfold rs_Wmx
  rw [rs_an_p ha hA]
  by_cases g : a = 0
  · rw [if_pos g, decide_eq_true g]; exact hC x hx
  · rw [if_neg g, decide_eq_false g]; exact hB x hx

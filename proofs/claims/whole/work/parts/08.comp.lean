/-! pure steps of compile and of the gates' clock -/
theorem rs_chain {kd vl en : Nat → Nat} {lo t : Nat} (h0 : rs_nd kd vl t = 0) (he : ∀ i, lo ≤ i → i < t → en i = rs_e1 en (rs_ar (kd i) (vl i)) i) {y : Nat} (hl : lo ≤ y + 1) (hy : y < t) : (1 ≤ rs_ar (kd y) (vl y) → y + 1 < t ∧ y + 1 < en (y + 1) ∧ en (y + 1) ≤ t) ∧ (2 ≤ rs_ar (kd y) (vl y) → en (y + 1) < t ∧ en (y + 1) < en (en (y + 1)) ∧ en (en (y + 1)) ≤ t) ∧ (3 ≤ rs_ar (kd y) (vl y) → en (en (y + 1)) < t ∧ en (en (y + 1)) < en (en (en (y + 1))) ∧ en (en (en (y + 1))) ≤ t) := by
  have hs : rs_nd kd vl (y + 1) = (rs_nd kd vl y - 1) + rs_ar (kd y) (vl y) := rfl
  have st : ∀ p, lo ≤ p → p ≤ t → 1 ≤ rs_nd kd vl p → p < t ∧ rs_Q kd vl en t p := by
    intro p hp hpt h
    have hne : p ≠ t := fun e => by rw [e, h0] at h; omega
    exact ⟨by omega, rs_parse' h0 he _ p hp (Nat.le_refl _) (by omega)⟩
  have A : 1 ≤ rs_ar (kd y) (vl y) → y + 1 < t ∧ rs_Q kd vl en t (y + 1) := fun h => st _ hl (by omega) (by omega)
  have B : 2 ≤ rs_ar (kd y) (vl y) → en (y + 1) < t ∧ rs_Q kd vl en t (en (y + 1)) := fun h => by
    obtain ⟨a, q1, q2, q3, q4⟩ := A (by omega)
    exact st _ (by omega) q2 (by omega)
  have C : 3 ≤ rs_ar (kd y) (vl y) → en (en (y + 1)) < t ∧ rs_Q kd vl en t (en (en (y + 1))) := fun h => by
    obtain ⟨a, q1, q2, q3, q4⟩ := A (by omega)
    obtain ⟨b, r1, r2, r3, r4⟩ := B (by omega)
    exact st _ (by omega) r2 (by omega)
  exact ⟨fun h => ⟨(A h).1, (A h).2.1, (A h).2.2.1⟩, fun h => ⟨(B h).1, (B h).2.1, (B h).2.2.1⟩, fun h => ⟨(C h).1, (C h).2.1, (C h).2.2.1⟩⟩
def rs_LF (kd vl en fo so to : Nat → Nat) (x : Nat) : Prop := (1 ≤ rs_ar (kd x) (vl x) → fo x = x + 1) ∧ (2 ≤ rs_ar (kd x) (vl x) → so x = en (x + 1)) ∧ (3 ≤ rs_ar (kd x) (vl x) → to x = en (en (x + 1)))
def rs_LI (kd vl : Nat → Nat) (t lo : Nat) (en fo so to : Nat → Nat) : Prop := (∀ x, lo ≤ x → x < t → en x = rs_e1 en (rs_ar (kd x) (vl x)) x) ∧ (∀ x, lo ≤ x → x < t → rs_LF kd vl en fo so to x) ∧ ∀ x, fo x ≤ 48 ∧ so x ≤ 48 ∧ to x ≤ 48
theorem rs_e1_c {en en' : Nat → Nat} {a x : Nat} (h1 : 1 ≤ a → en' (x + 1) = en (x + 1)) (h2 : 2 ≤ a → en' (en (x + 1)) = en (en (x + 1))) (h3 : 3 ≤ a → en' (en (en (x + 1))) = en (en (en (x + 1)))) : rs_e1 en' a x = rs_e1 en a x := by
  unfold rs_e1
  by_cases g0 : a = 0
  · rw [if_pos g0, if_pos g0]
  · rw [if_neg g0, if_neg g0, h1 (by omega)]
    by_cases g1 : a = 1
    · rw [if_pos g1, if_pos g1]
    · rw [if_neg g1, if_neg g1, h2 (by omega)]
      by_cases g2 : a = 2
      · rw [if_pos g2, if_pos g2]
      · rw [if_neg g2, if_neg g2, h3 (by omega)]
theorem rs_lk {kd vl en fo so to : Nat → Nat} {t y : Nat} (h0 : rs_nd kd vl t = 0) (hy : y < t) (I : rs_LI kd vl t (y + 1) en fo so to) {v : Nat} (hv : v = rs_e1 en (rs_ar (kd y) (vl y)) y) {fo' so' to' : Nat → Nat} (hf : ∀ x, x ≠ y → fo' x = fo x) (hs : ∀ x, x ≠ y → so' x = so x) (ht : ∀ x, x ≠ y → to' x = to x) (hF : rs_LF kd vl en fo' so' to' y) (hB : fo' y ≤ 48 ∧ so' y ≤ 48 ∧ to' y ≤ 48) : rs_LI kd vl t y (rs_u en y v) fo' so' to' := by
  obtain ⟨i1, i2, i3⟩ := I
  have ch : ∀ x, y ≤ x → x < t → _ := fun x h1 h2 => rs_chain h0 i1 (y := x) (by omega) h2
  have k1 : ∀ x, y ≤ x → rs_u en y v (x + 1) = en (x + 1) := fun x h => rs_un (by omega)
  have k2 : ∀ x, y ≤ x → x < t → 2 ≤ rs_ar (kd x) (vl x) → rs_u en y v (en (x + 1)) = en (en (x + 1)) := fun x h h' g => by
    have := ((ch x h h').1 (by omega)).2.1
    exact rs_un (by omega)
  have k3 : ∀ x, y ≤ x → x < t → 3 ≤ rs_ar (kd x) (vl x) → rs_u en y v (en (en (x + 1))) = en (en (en (x + 1))) := fun x h h' g => by
    have := ((ch x h h').1 (by omega)).2.1
    have := ((ch x h h').2.1 (by omega)).2.1
    exact rs_un (by omega)
  have ke : ∀ x, y ≤ x → x < t → rs_e1 (rs_u en y v) (rs_ar (kd x) (vl x)) x = rs_e1 en (rs_ar (kd x) (vl x)) x := fun x h h' => rs_e1_c (fun _ => k1 x h) (k2 x h h') (k3 x h h')
  have kF : ∀ x, y ≤ x → x < t → rs_LF kd vl en fo' so' to' x → rs_LF kd vl (rs_u en y v) fo' so' to' x := fun x h h' F => by
    refine ⟨F.1, fun g => ?_, fun g => ?_⟩
    · rw [k1 x h]; exact F.2.1 g
    · rw [k1 x h, k2 x h h' (by omega)]; exact F.2.2 g
  refine ⟨fun x h h' => ?_, fun x h h' => ?_, fun x => ?_⟩
  · rw [ke x h h']
    rcases Nat.lt_or_ge y x with g | g
    · rw [rs_un (by omega)]; exact i1 x (by omega) h'
    · have e : x = y := by omega
      rw [e, rs_us]; exact hv
  · refine kF x h h' ?_
    rcases Nat.lt_or_ge y x with g | g
    · have := i2 x (by omega) h'
      unfold rs_LF
      rw [hf x (by omega), hs x (by omega), ht x (by omega)]
      exact this
    · have e : x = y := by omega
      rw [e]; exact hF
  · by_cases e : x = y
    · rw [e]; exact hB
    · rw [hf x e, hs x e, ht x e]; exact i3 x
/-- the loop that orders the tokens -/
def rs_OS (kd vl en : Nat → Nat) (k s e : Nat) : Prop := (k = 0 ∧ s = 0 ∧ e = en 0) ∨ (0 < k ∧ s = rs_ss kd vl (k - 1) ∧ e = en (rs_ss kd vl (k - 1)))
theorem rs_os {kd vl en : Nat → Nat} {t : Nat} (h0 : rs_nd kd vl t = 0) (he : ∀ i, i < t → en i = rs_e1 en (rs_ar (kd i) (vl i)) i) {k s e : Nat} (hk : k < t) (O : rs_OS kd vl en k s e) : (k = e → rs_ss kd vl k = k) ∧ (k ≠ e → rs_ss kd vl k = s ∧ en (rs_ss kd vl k) = e) := by
  rcases O with ⟨rfl, rfl, rfl⟩ | ⟨g, rfl, rfl⟩
  · exact ⟨fun _ => rfl, fun _ => ⟨rfl, rfl⟩⟩
  · obtain ⟨a, b, c, d, f⟩ := rs_seg h0 he (i := k - 1) (by omega)
    refine ⟨fun h => ?_, fun h => ?_⟩
    · refine rs_ss_u (Nat.le_refl _) ?_ (fun j h1 h2 => by omega)
      rw [← h] at d
      exact d
    · have e2 := rs_seg_eq h0 he (i := k - 1) (j := k) (by omega) (by omega) (by omega)
      rw [e2]
      exact ⟨rfl, rfl⟩
/-! levels as truth values -/
def rs_AB (L : Nat → Bool) : Nat → Int32 := fun n => nI (L n).toNat
def rs_ub (L : Nat → Bool) (k : Nat) (b : Bool) : Nat → Bool := fun j => if j = k then b else L j
theorem rs_ubs {L : Nat → Bool} {k : Nat} {b : Bool} : rs_ub L k b k = b := if_pos rfl
theorem rs_ubn {L : Nat → Bool} {k j : Nat} {b : Bool} (h : j ≠ k) : rs_ub L k b j = L j := if_neg h
theorem rs_updB (L : Nat → Bool) (k : Nat) (b : Bool) : upd (rs_AB L) k (nI b.toNat) = rs_AB (rs_ub L k b) := by
  funext j
  show (if j = k then nI b.toNat else nI (L j).toNat) = nI (if j = k then b else L j).toNat
  split <;> rfl
theorem rs_AB0 : (fun _ => 0 : Nat → Int32) = rs_AB (fun _ => false) := funext fun _ => nI_0.symm
def rs_sp (L : Nat → Bool) (v f j : Nat) : Nat → Bool := fun n => if f ≤ n ∧ n < f + j then v.testBit (n - f) else L n
theorem rs_sp_0 (L : Nat → Bool) (v f : Nat) : rs_sp L v f 0 = L := funext fun n => if_neg (by omega)
theorem rs_sp_s (L : Nat → Bool) (v f j : Nat) : rs_ub (rs_sp L v f j) (f + j) (v.testBit j) = rs_sp L v f (j + 1) := by
  funext n
  unfold rs_ub rs_sp
  by_cases h : n = f + j
  · rw [if_pos h, if_pos (by omega), h, Nat.add_sub_cancel_left]
  · rw [if_neg h]
    by_cases g : f ≤ n ∧ n < f + j
    · rw [if_pos g, if_pos (by omega)]
    · rw [if_neg g, if_neg (by omega)]
theorem rs_lv_u {L : Nat → Bool} {k : Nat} {b : Bool} {l : Nat} (h : l < 2 * k) : rs_lv (rs_ub L k b) l = rs_lv L l := by
  unfold rs_lv
  rw [rs_ubn (by omega)]
/-- one gate settles -/
theorem rs_se {nc n : Nat} {gl gr : Nat → Nat} {L : Nat → Bool} (h : rs_WF nc gl gr) (h1 : 97 ≤ n) (h2 : n < nc) (M : rs_Md n gl gr L) : rs_Md (n + 1) gl gr (rs_ub L n (rs_lv L (gl n) && rs_lv L (gr n))) := by
  refine ⟨?_, fun m m1 m2 => ?_⟩
  · rw [rs_ubn (by omega)]; exact M.1
  · obtain ⟨w1, w2⟩ := h.2 m m1 (by omega)
    rw [rs_lv_u (by omega), rs_lv_u (by omega)]
    rcases Nat.lt_or_ge m n with g | g
    · rw [rs_ubn (by omega)]; exact M.2 m m1 g
    · have e : m = n := by omega
      rw [e, rs_ubs]
theorem rs_Bs_u {n : Nat} {L : Nat → Bool} {ip rg : Nat → Nat} {b : Bool} (h : 97 ≤ n) (B : rs_Bs L ip rg) : rs_Bs (rs_ub L n b) ip rg := by
  refine ⟨fun p hp x hx => ?_, fun r hr x hx => ?_⟩
  · rw [rs_ubn (by omega)]; exact B.1 p hp x hx
  · rw [rs_ubn (by omega)]; exact B.2 r hr x hx
/-- the next registers -/
def rs_nx (kd vl en R rg : Nat → Nat) (t : Nat) : Nat → Nat := fun r => if r < 8 then rs_nz kd vl en R rg r t else rg r
theorem rs_nz_c {kd vl en R R' rg : Nat → Nat} {r t : Nat} (h : ∀ i, i < t → kd i = 11 → R (i + 1) = R' (i + 1) ∧ R (en (i + 1)) = R' (en (i + 1))) : ∀ k, k ≤ t → rs_nz kd vl en R rg r k = rs_nz kd vl en R' rg r k := by
  intro k
  induction k with
  | zero => intro _; rfl
  | succ k ih =>
    intro hk
    by_cases g : kd k = 11
    · obtain ⟨a, b⟩ := h k (by omega) g
      show (if kd k = 11 ∧ vl k = r ∧ R (k + 1) ≠ 0 then R (en (k + 1)) else rs_nz kd vl en R rg r k) = if kd k = 11 ∧ vl k = r ∧ R' (k + 1) ≠ 0 then R' (en (k + 1)) else rs_nz kd vl en R' rg r k
      rw [a, b, ih (by omega)]
    · have e : rs_nz kd vl en R rg r (k + 1) = rs_nz kd vl en R rg r k := if_neg (fun z => g z.1)
      have e' : rs_nz kd vl en R' rg r (k + 1) = rs_nz kd vl en R' rg r k := if_neg (fun z => g z.1)
      rw [e, e']; exact ih (by omega)
theorem rs_nx_u {kd vl en ws ip rg R R' : Nat → Nat} {t : Nat} (P : rs_Pg kd vl en ws t) (h : rs_So kd vl en ws ip rg t R) (h' : rs_So kd vl en ws ip rg t R') : rs_nx kd vl en R rg t = rs_nx kd vl en R' rg t := by
  funext r
  unfold rs_nx
  refine rs_ic (fun _ => rs_nz_c (t := t) (fun i hi h11 => ?_) t (Nat.le_refl _)) fun _ => rfl
  have ar : rs_ar (kd i) (vl i) = 2 := by rw [h11]; rfl
  have o1 := rs_dp_lt P hi (p := i + 1) (Or.inr (Or.inl ⟨by rw [ar]; decide, rfl⟩))
  have o2 := rs_dp_lt P hi (p := en (i + 1)) (Or.inr (Or.inr (Or.inl ⟨by rw [ar]; decide, rfl⟩)))
  exact ⟨rs_So_u P h h' _ o1.1, rs_So_u P h h' _ o2.1⟩
theorem rs_nz_lt {kd vl en ws ip rg R : Nat → Nat} {t : Nat} (P : rs_Pg kd vl en ws t) (hB : rs_B ip rg) (h : rs_So kd vl en ws ip rg t R) (r : Nat) : ∀ k, k ≤ t → rs_nz kd vl en R rg r k < 256 := by
  intro k
  induction k with
  | zero => intro _; exact hB.2 r
  | succ k ih =>
    intro hk
    refine rs_it (P := fun x => x < 256) (fun z => ?_) fun _ => ih (by omega)
    have ar : rs_ar (kd k) (vl k) = 2 := by rw [z.1]; rfl
    have o2 := rs_dp_lt P (i := k) (by omega) (p := en (k + 1)) (Or.inr (Or.inr (Or.inl ⟨by rw [ar]; decide, rfl⟩)))
    exact rs_So_lt P hB h _ o2.1

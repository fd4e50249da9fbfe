/-! what the literals of a token are worth, kind by kind -/
def rs_Wbw (tb : Nat → Nat) (p q v : Nat) (L : Nat → Bool) (x : Nat) : Bool := if v = 5 then (rs_rd L tb p x && rs_rd L tb q x) else if v = 6 then (rs_rd L tb p x || rs_rd L tb q x) else if v = 7 then (rs_rd L tb p x ^^ rs_rd L tb q x) else !rs_rd L tb p x
def rs_Wop (tb : Nat → Nat) (p q r v : Nat) : (Nat → Bool) → Nat → Bool := if v = 2 then rs_Wneg tb p else if v = 3 then rs_Wsum tb p q false else if v = 4 then rs_Wsum tb p q true else if v = 8 then rs_Wtr (rs_Teq tb p q) else if v = 9 then rs_Wtr (rs_Tlt tb p q false) else if v = 10 then rs_Wtr (rs_Tlt tb p q true) else if v = 11 then rs_Wmx (rs_Tan tb p) tb q tb r else rs_Wbw tb p q v
theorem rs_op_p {L : Nat → Bool} {tb : Nat → Nat} {p q r v a b c : Nat} (hv1 : 1 ≤ v) (hv : v ≤ 11) (hA : a < 256 ∧ rs_bt L tb p a) (hB : ¬ v = 1 → ¬ v = 2 → b < 256 ∧ rs_bt L tb q b) (hC : v = 11 → rs_bt L tb r c) : ∀ x, x < 8 → rs_Wop tb p q r v L x = (rs_f v a b c).testBit x := by
  intro x hx
  have rA : rs_rd L tb p x = a.testBit x := hA.2 x hx
  rcases (by omega : v = 1 ∨ v = 2 ∨ v = 3 ∨ v = 4 ∨ v = 5 ∨ v = 6 ∨ v = 7 ∨ v = 8 ∨ v = 9 ∨ v = 10 ∨ v = 11) with h | h | h | h | h | h | h | h | h | h | h <;> subst h
  · show (!rs_rd L tb p x) = (255 - a).testBit x
    rw [rs_nb a hA.1 x hx, rA]
  · exact rs_neg_p hA.1 hA.2 b c x hx
  · have B := hB (by decide) (by decide)
    exact rs_add_p hA.1 B.1 hA.2 B.2 c x hx
  · have B := hB (by decide) (by decide)
    exact rs_sub_p hA.1 B.1 hA.2 B.2 c x hx
  · have B := hB (by decide) (by decide)
    show (rs_rd L tb p x && rs_rd L tb q x) = (a &&& b).testBit x
    rw [Nat.testBit_and, rA, show rs_rd L tb q x = b.testBit x from B.2 x hx]
  · have B := hB (by decide) (by decide)
    show (rs_rd L tb p x || rs_rd L tb q x) = (a ||| b).testBit x
    rw [Nat.testBit_or, rA, show rs_rd L tb q x = b.testBit x from B.2 x hx]
  · have B := hB (by decide) (by decide)
    show (rs_rd L tb p x ^^ rs_rd L tb q x) = (a ^^^ b).testBit x
    rw [Nat.testBit_xor, rA, show rs_rd L tb q x = b.testBit x from B.2 x hx]
  · have B := hB (by decide) (by decide)
    exact rs_eq_p hA.1 B.1 hA.2 B.2 c x hx
  · have B := hB (by decide) (by decide)
    exact rs_ltu_p hA.1 B.1 hA.2 B.2 c x hx
  · have B := hB (by decide) (by decide)
    exact rs_lts_p hA.1 B.1 hA.2 B.2 c x hx
  · have B := hB (by decide) (by decide)
    exact rs_mux_p hA.1 hA.2 B.2 (hC rfl) x hx
def rs_Wrt (tb : Nat → Nat) (p w k v : Nat) (L : Nat → Bool) (x : Nat) : Bool := if k = 1 then v.testBit x else if k = 2 then L (1 + (v * 8 + x)) else if k = 3 then L (33 + (v * 8 + x)) else if k = 4 then rs_rd L tb w x else if k = 6 then (decide (v ≤ x) && rs_rd L tb p (x - v)) else if k = 7 then (decide (x + v < 8) && rs_rd L tb p (x + v)) else if k = 8 then (decide (x = 0) && rs_rd L tb p v) else rs_rd L tb p x
theorem rs_ib {P : Bool → Prop} {c : Prop} [Decidable c] {x y : Bool} (h : c → P x) (h' : ¬ c → P y) : P (if c then x else y) := by
  by_cases g : c
  · rw [if_pos g]; exact h g
  · rw [if_neg g]; exact h' g
/-- an operator's literals -/
theorem rs_W_op {kd vl en ws tb : Nat → Nat} {t i : Nat} (P : rs_Pg kd vl en ws t) (hi : i < t) (h5 : kd i = 5) {q r : Nat} (hq : ¬ vl i = 1 → ¬ vl i = 2 → q = en (i + 1)) (hr : vl i = 11 → r = en (en (i + 1))) {ip rg R : Nat → Nat} {L : Nat → Bool} (hS : rs_So kd vl en ws ip rg t R) (hd : ∀ p, rs_dp kd vl en ws i p → R p < 256 ∧ rs_bt L tb p (R p)) : ∀ x, x < 8 → rs_Wop tb (i + 1) q r (vl i) L x = (R i).testBit x := by
  obtain ⟨k1, k2, k3, k4⟩ := P.2.2.2.1 i hi
  have e1 : rs_hi (kd i) = 11 := by rw [h5]; rfl
  have hv1 := k4 h5
  have eR : R i = rs_f (vl i) (R (i + 1)) (R (en (i + 1))) (R (en (en (i + 1)))) := by
    rw [hS i hi]
    unfold rs_me
    rw [if_neg (by omega), if_neg (by omega), if_neg (by omega), if_neg (by omega), if_pos h5]
  rw [eR]
  refine rs_op_p hv1 (by omega) ?_ (fun n1 n2 => ?_) fun n11 => ?_
  · exact hd _ (Or.inr (Or.inl ⟨rs_ar_6 (by omega), rfl⟩))
  · rw [hq n1 n2]; exact hd _ (Or.inr (Or.inr (Or.inl ⟨rs_ar_2 h5 n1 n2 hv1, rfl⟩)))
  · rw [hr n11]; exact (hd _ (Or.inr (Or.inr (Or.inr ⟨rs_ar_3 h5 n11, rfl⟩)))).2
/-- the literals of the others -/
theorem rs_W_rt {kd vl en ws tb : Nat → Nat} {t i : Nat} (P : rs_Pg kd vl en ws t) (hi : i < t) (h5 : ¬ kd i = 5) {p : Nat} (hp : 6 ≤ kd i → p = i + 1) {ip rg R : Nat → Nat} {L : Nat → Bool} (hS : rs_So kd vl en ws ip rg t R) (hb : rs_Bs L ip rg) (hd : ∀ p, rs_dp kd vl en ws i p → R p < 256 ∧ rs_bt L tb p (R p)) : ∀ x, x < 8 → rs_Wrt tb p (ws (vl i)) (kd i) (vl i) L x = (R i).testBit x := by
  intro x hx
  obtain ⟨k1, k2, k3, k4⟩ := P.2.2.2.1 i hi
  have a : 5 ≤ kd i → R (i + 1) < 256 ∧ rs_bt L tb (i + 1) (R (i + 1)) := fun h => hd _ (Or.inr (Or.inl ⟨rs_ar_6 h, rfl⟩))
  have hv : (kd i = 2 → vl i < 4) ∧ (kd i = 3 → vl i < 8) ∧ (6 ≤ kd i → vl i < 8) := by
    unfold rs_hi at k3
    refine ⟨fun h => ?_, fun h => ?_, fun h => ?_⟩ <;> (repeat' split at k3) <;> omega
  rw [hS i hi]
  unfold rs_Wrt rs_me
  by_cases h1 : kd i = 1
  · rw [if_pos h1, if_pos h1]
  · rw [if_neg h1, if_neg h1]
    by_cases h2 : kd i = 2
    · rw [if_pos h2, if_pos h2]; exact hb.1 _ (hv.1 h2) x hx
    · rw [if_neg h2, if_neg h2]
      by_cases h3 : kd i = 3
      · rw [if_pos h3, if_pos h3]; exact hb.2 _ (hv.2.1 h3) x hx
      · rw [if_neg h3, if_neg h3]
        by_cases h4 : kd i = 4
        · rw [if_pos h4, if_pos h4]; exact (hd _ (Or.inl ⟨h4, rfl⟩)).2 x hx
        · rw [if_neg h4, if_neg h4, if_neg h5]
          obtain ⟨a1, a2⟩ := a (by omega)
          rw [hp (by omega)]
          have v8 := hv.2.2
          by_cases h6 : kd i = 6
          · rw [if_pos h6, if_pos h6, rs_shl _ _ hx]
            by_cases g : vl i ≤ x
            · rw [show rs_rd L tb (i + 1) (x - vl i) = (R (i + 1)).testBit (x - vl i) from a2 _ (by omega)]
            · rw [decide_eq_false g]; rfl
          · rw [if_neg h6, if_neg h6]
            by_cases h7 : kd i = 7
            · rw [if_pos h7, if_pos h7, rs_shr]
              by_cases g : x + vl i < 8
              · rw [decide_eq_true g, show rs_rd L tb (i + 1) (x + vl i) = (R (i + 1)).testBit (x + vl i) from a2 _ g]; rfl
              · rw [decide_eq_false g, rs_hb a1 (by omega)]; rfl
            · rw [if_neg h7, if_neg h7]
              by_cases h8 : kd i = 8
              · rw [if_pos h8, if_pos h8, rs_bit, show rs_rd L tb (i + 1) (vl i) = (R (i + 1)).testBit (vl i) from a2 _ (by omega)]
              · rw [if_neg h8, if_neg h8]; exact a2 x hx
theorem rs_icb {c : Prop} [Decidable c] {x y x' y' : Bool} (h : c → x = x') (h' : ¬ c → y = y') : (if c then x else y) = (if c then x' else y') := by
  by_cases g : c
  · rw [if_pos g, if_pos g]; exact h g
  · rw [if_neg g, if_neg g]; exact h' g
theorem rs_Wrt_c {tb tb' : Nat → Nat} {p w k v x : Nat} {L : Nat → Bool} (hx : x < 8) (h5 : 1 ≤ k ∧ k ≠ 5) (hv : 6 ≤ k → v < 8) (h4 : k = 4 → tb' (w * 8 + x) = tb (w * 8 + x)) (h6 : 6 ≤ k → ∀ y, y < 8 → tb' (p * 8 + y) = tb (p * 8 + y)) : rs_Wrt tb' p w k v L x = rs_Wrt tb p w k v L x := by
  have rd : 6 ≤ k → ∀ y, y < 8 → rs_rd L tb' p y = rs_rd L tb p y := fun h y hy => congrArg _ (h6 h y hy)
  unfold rs_Wrt
  refine rs_icb (fun _ => rfl) fun n1 => rs_icb (fun _ => rfl) fun n2 => rs_icb (fun _ => rfl) fun n3 => rs_icb (fun e => congrArg _ (h4 e)) fun n4 => rs_icb (fun e => ?_) fun n6 => rs_icb (fun e => ?_) fun n7 => rs_icb (fun e => ?_) fun n8 => rd (by omega) x hx
  · rw [rd (by omega) (x - v) (by omega)]
  · by_cases g : x + v < 8
    · rw [rd (by omega) (x + v) g]
    · rw [decide_eq_false g]; rfl
  · rw [rd (by omega) v (hv (by omega))]
theorem rs_f_c {v a b c b' c' : Nat} (hv1 : 1 ≤ v) (hv : v ≤ 11) (hb : ¬ v = 1 → ¬ v = 2 → b = b') (hc : v = 11 → c = c') : rs_f v a b c = rs_f v a b' c' := by
  unfold rs_f
  refine rs_ic (fun _ => rfl) fun n1 => rs_ic (fun _ => rfl) fun n2 => ?_
  rw [hb n1 n2]
  refine rs_ic (fun _ => rfl) fun n3 => rs_ic (fun _ => rfl) fun n4 => rs_ic (fun _ => rfl) fun n5 => rs_ic (fun _ => rfl) fun n6 => rs_ic (fun _ => rfl) fun n7 => rs_ic (fun _ => rfl) fun n8 => rs_ic (fun _ => rfl) fun n9 => rs_ic (fun _ => rfl) fun n10 => ?_
  rw [hc (by omega)]
theorem rs_me_lt {kd vl en ws ip rg R : Nat → Nat} {i : Nat} (hk : rs_ok (kd i) (vl i)) (hB : rs_B ip rg) (m : ∀ p, R p < 256) : rs_me kd vl en ws ip rg R i < 256 := by
  obtain ⟨k1, k2, k3, k4⟩ := hk
  unfold rs_me
  refine rs_it (P := fun x => x < 256) (fun e => ?_) fun _ => rs_it (P := fun x => x < 256) (fun _ => hB.1 _) fun _ => rs_it (P := fun x => x < 256) (fun _ => hB.2 _) fun _ => rs_it (P := fun x => x < 256) (fun _ => m _) fun _ => rs_it (P := fun x => x < 256) (fun _ => rs_f_lt (m _) (m _) (m _)) fun _ => rs_it (P := fun x => x < 256) (fun _ => Nat.mod_lt _ (by decide)) fun _ => rs_it (P := fun x => x < 256) (fun _ => Nat.lt_of_le_of_lt (Nat.div_le_self _ _) (m _)) fun _ => rs_it (P := fun x => x < 256) (fun _ => Nat.lt_of_lt_of_le (Nat.mod_lt _ (by decide)) (by decide)) fun _ => m _
  have e2 : rs_hi (kd i) = 255 := by rw [e]; rfl
  omega
/-- the ranges of the values, kind by kind -/
theorem rs_rng {k v : Nat} (h : rs_ok k v) : v < 256 ∧ (k = 2 → v < 4) ∧ (k = 5 → 1 ≤ v ∧ v ≤ 11) ∧ (k = 10 → v < 4) ∧ (k ≠ 1 → k ≠ 5 → v < 8) := by
  obtain ⟨k1, k2, k3, k4⟩ := h
  unfold rs_hi at k3
  refine ⟨?_, fun h => ?_, fun h => ⟨k4 h, ?_⟩, fun h => ?_, fun h h' => ?_⟩ <;> (repeat' split at k3) <;> omega
theorem rs_ite_i {c d : Prop} [Decidable c] [Decidable d] {x y : Nat} (h : c ↔ d) : (if c then x else y) = (if d then x else y) := by
  by_cases g : c
  · rw [if_pos g, if_pos (h.mp g)]
  · rw [if_neg g, if_neg (fun z => g (h.mpr z))]

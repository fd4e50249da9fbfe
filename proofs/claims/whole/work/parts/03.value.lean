/-! the value of an operation, of a token; a solution of all the tokens' equations; the next value of a register -/
def rs_f (v a b c : Nat) : Nat := if v = 1 then 255 - a else if v = 2 then (256 - a) % 256 else if v = 3 then (a + b) % 256 else if v = 4 then (a + 256 - b) % 256 else if v = 5 then a &&& b else if v = 6 then a ||| b else if v = 7 then a ^^^ b else if v = 8 then (if a = b then 1 else 0) else if v = 9 then (if a < b then 1 else 0) else if v = 10 then (if a ^^^ 128 < b ^^^ 128 then 1 else 0) else if a = 0 then c else b
def rs_me (kd vl en ws ip rg R : Nat → Nat) (i : Nat) : Nat := if kd i = 1 then vl i else if kd i = 2 then ip (vl i) else if kd i = 3 then rg (vl i) else if kd i = 4 then R (ws (vl i)) else if kd i = 5 then rs_f (vl i) (R (i + 1)) (R (en (i + 1))) (R (en (en (i + 1)))) else if kd i = 6 then R (i + 1) * 2 ^ vl i % 256 else if kd i = 7 then R (i + 1) / 2 ^ vl i else if kd i = 8 then R (i + 1) / 2 ^ vl i % 2 else R (i + 1)
def rs_So (kd vl en ws ip rg : Nat → Nat) (t : Nat) (R : Nat → Nat) : Prop := ∀ i, i < t → R i = rs_me kd vl en ws ip rg R i
theorem rs_ic {c : Prop} [Decidable c] {x y x' y' : Nat} (h : c → x = x') (h' : ¬ c → y = y') : (if c then x else y) = (if c then x' else y') := by
  by_cases g : c
  · rw [if_pos g, if_pos g]; exact h g
  · rw [if_neg g, if_neg g]; exact h' g
theorem rs_ar_6 {k v : Nat} (h : 5 ≤ k) : 1 ≤ rs_ar k v := by
  unfold rs_ar
  repeat' split
  all_goals omega
theorem rs_ar_2 {k v : Nat} (h : k = 5) (hv : ¬ v = 1) (hv2 : ¬ v = 2) (hv0 : 1 ≤ v) : 2 ≤ rs_ar k v := by
  unfold rs_ar
  repeat' split
  all_goals omega
theorem rs_ar_3 {k v : Nat} (h : k = 5) (hv : v = 11) : 3 ≤ rs_ar k v := by
  unfold rs_ar
  repeat' split
  all_goals omega
theorem rs_me_c {kd vl en ws ip rg R R' : Nat → Nat} {i : Nat} (hk : rs_ok (kd i) (vl i)) (h : ∀ p, rs_dp kd vl en ws i p → R p = R' p) : rs_me kd vl en ws ip rg R i = rs_me kd vl en ws ip rg R' i := by
  have w : kd i = 4 → R (ws (vl i)) = R' (ws (vl i)) := fun e => h _ (Or.inl ⟨e, rfl⟩)
  have o1 : 1 ≤ rs_ar (kd i) (vl i) → R (i + 1) = R' (i + 1) := fun e => h _ (Or.inr (Or.inl ⟨e, rfl⟩))
  have o2 : 2 ≤ rs_ar (kd i) (vl i) → R (en (i + 1)) = R' (en (i + 1)) := fun e => h _ (Or.inr (Or.inr (Or.inl ⟨e, rfl⟩)))
  have o3 : 3 ≤ rs_ar (kd i) (vl i) → R (en (en (i + 1))) = R' (en (en (i + 1))) := fun e => h _ (Or.inr (Or.inr (Or.inr ⟨e, rfl⟩)))
  obtain ⟨k1, k2, k3, k4⟩ := hk
  unfold rs_me
  refine rs_ic (fun _ => rfl) fun n1 => rs_ic (fun _ => rfl) fun n2 => rs_ic (fun _ => rfl) fun n3 => rs_ic (fun e => w e) fun n4 => rs_ic (fun k5 => ?_) fun n5 => rs_ic (fun k6 => ?_) fun n6 => rs_ic (fun k7 => ?_) fun n7 => rs_ic (fun k8 => ?_) fun n8 => ?_
  · rw [o1 (rs_ar_6 (by omega))]
    unfold rs_f
    refine rs_ic (fun _ => rfl) fun n1 => rs_ic (fun _ => rfl) fun n2 => ?_
    rw [o2 (rs_ar_2 k5 n1 n2 (k4 k5))]
    refine rs_ic (fun _ => rfl) fun n3 => rs_ic (fun _ => rfl) fun n4 => rs_ic (fun _ => rfl) fun n5 => rs_ic (fun _ => rfl) fun n6 => rs_ic (fun _ => rfl) fun n7 => rs_ic (fun _ => rfl) fun n8 => rs_ic (fun _ => rfl) fun n9 => rs_ic (fun _ => rfl) fun n10 => ?_
    have e : rs_hi (kd i) = 11 := by rw [k5]; rfl
    rw [o3 (rs_ar_3 k5 (by have := k4 k5; omega))]
  · rw [o1 (rs_ar_6 (by omega))]
  · rw [o1 (rs_ar_6 (by omega))]
  · rw [o1 (rs_ar_6 (by omega))]
  · rw [o1 (rs_ar_6 (by omega))]
theorem rs_it {P : Nat → Prop} {c : Prop} [Decidable c] {x y : Nat} (h : c → P x) (h' : ¬ c → P y) : P (if c then x else y) := by
  by_cases g : c
  · rw [if_pos g]; exact h g
  · rw [if_neg g]; exact h' g
theorem rs_f_lt {v a b c : Nat} (ha : a < 256) (hb : b < 256) (hc : c < 256) : rs_f v a b c < 256 := by
  unfold rs_f
  refine rs_it (P := fun x => x < 256) (fun _ => by omega) fun _ => rs_it (P := fun x => x < 256) (fun _ => by omega) fun _ => rs_it (P := fun x => x < 256) (fun _ => by omega) fun _ => rs_it (P := fun x => x < 256) (fun _ => by omega) fun _ => rs_it (P := fun x => x < 256) (fun _ => Nat.and_lt_two_pow (n := 8) a hb) fun _ => rs_it (P := fun x => x < 256) (fun _ => Nat.or_lt_two_pow (n := 8) ha hb) fun _ => rs_it (P := fun x => x < 256) (fun _ => Nat.xor_lt_two_pow (n := 8) ha hb) fun _ => rs_it (P := fun x => x < 256) (fun _ => rs_it (P := fun x => x < 256) (fun _ => by decide) fun _ => by decide) fun _ => rs_it (P := fun x => x < 256) (fun _ => rs_it (P := fun x => x < 256) (fun _ => by decide) fun _ => by decide) fun _ => rs_it (P := fun x => x < 256) (fun _ => rs_it (P := fun x => x < 256) (fun _ => by decide) fun _ => by decide) fun _ => rs_it (P := fun x => x < 256) (fun _ => hc) fun _ => hb
theorem rs_So_u {kd vl en ws ip rg R R' : Nat → Nat} {t : Nat} (P : rs_Pg kd vl en ws t) (h : rs_So kd vl en ws ip rg t R) (h' : rs_So kd vl en ws ip rg t R') : ∀ i, i < t → R i = R' i :=
  rs_ind P (fun i => R i = R' i) fun i hi g => (h i hi).trans ((rs_me_c (P.2.2.2.1 i hi) g).trans (h' i hi).symm)
def rs_B (ip rg : Nat → Nat) : Prop := (∀ p, ip p < 256) ∧ ∀ r, rg r < 256
theorem rs_So_lt {kd vl en ws ip rg R : Nat → Nat} {t : Nat} (P : rs_Pg kd vl en ws t) (hB : rs_B ip rg) (h : rs_So kd vl en ws ip rg t R) : ∀ i, i < t → R i < 256 := by
  refine rs_ind P (fun i => R i < 256) fun i hi g => ?_
  obtain ⟨k1, k2, k3, k4⟩ := P.2.2.2.1 i hi
  -- agree with a bounded row where it is read
  have e : R i = rs_me kd vl en ws ip rg (fun p => R p % 256) i := (h i hi).trans (rs_me_c (P.2.2.2.1 i hi) fun p hp => (Nat.mod_eq_of_lt (g p hp)).symm)
  have m : ∀ p, R p % 256 < 256 := fun p => Nat.mod_lt _ (by decide)
  rw [e]
  unfold rs_me
  refine rs_it (P := fun x => x < 256) (fun e => ?_) fun _ => rs_it (P := fun x => x < 256) (fun _ => hB.1 _) fun _ => rs_it (P := fun x => x < 256) (fun _ => hB.2 _) fun _ => rs_it (P := fun x => x < 256) (fun _ => m _) fun _ => rs_it (P := fun x => x < 256) (fun _ => rs_f_lt (m _) (m _) (m _)) fun _ => rs_it (P := fun x => x < 256) (fun _ => Nat.mod_lt _ (by decide)) fun _ => rs_it (P := fun x => x < 256) (fun _ => Nat.lt_of_le_of_lt (Nat.div_le_self _ _) (m _)) fun _ => rs_it (P := fun x => x < 256) (fun _ => Nat.lt_of_lt_of_le (Nat.mod_lt _ (by decide)) (by decide)) fun _ => m _
  have e2 : rs_hi (kd i) = 255 := by rw [e]; rfl
  omega
def rs_RS (kd vl en ws ip rg R0 : Nat → Nat) : Nat → (Nat → Nat)
  | 0 => R0
  | k + 1 => rs_u (rs_RS kd vl en ws ip rg R0 k) (rs_po kd vl en k) (rs_me kd vl en ws ip rg (rs_RS kd vl en ws ip rg R0 k) (rs_po kd vl en k))
theorem rs_RS_so {kd vl en ws : Nat → Nat} {t : Nat} (P : rs_Pg kd vl en ws t) (ip rg R0 : Nat → Nat) : rs_So kd vl en ws ip rg t (rs_RS kd vl en ws ip rg R0 t) := by
  have pp : ∀ k, k < t → rs_po kd vl en k < t ∧ rs_po kd vl en (rs_po kd vl en k) = k := fun k hk => ⟨(rs_po_p P.1 P.2.1 hk).2.2.2.2, (rs_po_p P.1 P.2.1 hk).2.2.2.1⟩
  have H : ∀ k, k ≤ t → ∀ k', k' < k → rs_RS kd vl en ws ip rg R0 k (rs_po kd vl en k') = rs_me kd vl en ws ip rg (rs_RS kd vl en ws ip rg R0 k) (rs_po kd vl en k') := by
    intro k
    induction k with
    | zero => intro _ k' h; omega
    | succ k ih =>
      intro hk k' hk'
      have same : ∀ p, rs_po kd vl en p < k → rs_RS kd vl en ws ip rg R0 (k + 1) p = rs_RS kd vl en ws ip rg R0 k p := by
        intro p hp
        refine rs_un (fun e => ?_)
        rw [e, (pp k (by omega)).2] at hp
        omega
      have cong : ∀ q, q < k + 1 → rs_me kd vl en ws ip rg (rs_RS kd vl en ws ip rg R0 k) (rs_po kd vl en q) = rs_me kd vl en ws ip rg (rs_RS kd vl en ws ip rg R0 (k + 1)) (rs_po kd vl en q) := by
        intro q hq
        have hqt := (pp q (by omega)).1
        refine rs_me_c (P.2.2.2.1 _ hqt) fun p hp => (same p ?_).symm
        have := (rs_dp_lt P hqt hp).2
        rw [(pp q (by omega)).2] at this
        omega
      rcases Nat.lt_or_ge k' k with g | g
      · rw [same _ (by rw [(pp k' (by omega)).2]; exact g), ih (by omega) k' g]
        exact cong k' (by omega)
      · have e : k' = k := by omega
        rw [e]
        exact (rs_us).trans (cong k (by omega))
  intro i hi
  have := H t (Nat.le_refl _) (rs_po kd vl en i) (pp i hi).1
  rw [(pp i hi).2] at this
  exact this
def rs_nz (kd vl en R rg : Nat → Nat) (r : Nat) : Nat → Nat
  | 0 => rg r
  | i + 1 => if kd i = 11 ∧ vl i = r ∧ R (i + 1) ≠ 0 then R (en (i + 1)) else rs_nz kd vl en R rg r i
theorem rs_nz_k {kd vl en R rg : Nat → Nat} {r i : Nat} : ∀ d, (∀ x, i ≤ x → x < i + d → kd x ≠ 11) → rs_nz kd vl en R rg r (i + d) = rs_nz kd vl en R rg r i := by
  intro d
  induction d with
  | zero => intro _; rfl
  | succ d ih =>
    intro h
    have e : rs_nz kd vl en R rg r (i + (d + 1)) = rs_nz kd vl en R rg r (i + d) := if_neg (fun z => h (i + d) (by omega) (by omega) z.1)
    rw [e]
    exact ih (fun x a b => h x a (by omega))

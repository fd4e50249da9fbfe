/-! arrays of naturals; the need after i tokens; the ends of the texts under the tokens; the order of the tokens -/
def rs_A (f : Nat → Nat) : Nat → Int32 := fun i => nI (f i)
def rs_u (f : Nat → Nat) (k x : Nat) : Nat → Nat := fun j => if j = k then x else f j
theorem rs_us {f : Nat → Nat} {k x : Nat} : rs_u f k x k = x := if_pos rfl
theorem rs_un {f : Nat → Nat} {k j x : Nat} (h : j ≠ k) : rs_u f k x j = f j := if_neg h
theorem rs_upd (f : Nat → Nat) (k x : Nat) : upd (rs_A f) k (nI x) = rs_A (rs_u f k x) := by
  funext j
  show (if j = k then nI x else nI (f j)) = nI (if j = k then x else f j)
  split <;> rfl
theorem rs_A0 : (fun _ => 0 : Nat → Int32) = rs_A (fun _ => 0) := funext fun _ => nI_0.symm
def rs_ar (k v : Nat) : Nat := if k ≤ 4 then 0 else if k = 5 then (if v ≤ 2 then 1 else if v = 11 then 3 else 2) else if k = 11 then 2 else 1
theorem rs_ar3 (k v : Nat) : rs_ar k v ≤ 3 := by
  unfold rs_ar
  repeat' split
  all_goals omega
def rs_hi (k : Nat) : Nat := if k = 1 then 255 else if k = 2 then 3 else if k = 5 then 11 else if k = 10 then 3 else 7
def rs_ok (k v : Nat) : Prop := 1 ≤ k ∧ k ≤ 11 ∧ v ≤ rs_hi k ∧ (k = 5 → 1 ≤ v)
def rs_nd (kd vl : Nat → Nat) : Nat → Nat
  | 0 => 0
  | i + 1 => (rs_nd kd vl i - 1) + rs_ar (kd i) (vl i)
def rs_e1 (en : Nat → Nat) (a i : Nat) : Nat := if a = 0 then i + 1 else if a = 1 then en (i + 1) else if a = 2 then en (en (i + 1)) else en (en (en (i + 1)))
def rs_Q (kd vl en : Nat → Nat) (t p : Nat) : Prop := p < en p ∧ en p ≤ t ∧ rs_nd kd vl (en p) = rs_nd kd vl p - 1 ∧ ∀ j, p < j → j < en p → rs_nd kd vl p - 1 < rs_nd kd vl j
theorem rs_parse' {kd vl en : Nat → Nat} {lo t : Nat} (h0 : rs_nd kd vl t = 0) (he : ∀ i, lo ≤ i → i < t → en i = rs_e1 en (rs_ar (kd i) (vl i)) i) : ∀ m i, lo ≤ i → t - i ≤ m → i < t → rs_Q kd vl en t i := by
  intro m
  induction m with
  | zero => intro i hl h1 h2; omega
  | succ m ih =>
    intro i hl h1 h2
    have hs : rs_nd kd vl (i + 1) = (rs_nd kd vl i - 1) + rs_ar (kd i) (vl i) := rfl
    have st : ∀ p, i < p → p ≤ t → 1 ≤ rs_nd kd vl p → rs_Q kd vl en t p := by
      intro p hp hpt h
      have hne : p ≠ t := fun e => by rw [e, h0] at h; omega
      exact ih p (by omega) (by omega) (by omega)
    have hei := he i hl h2
    have h3 := rs_ar3 (kd i) (vl i)
    obtain ⟨a, ha⟩ : ∃ a, a = rs_ar (kd i) (vl i) := ⟨_, rfl⟩
    rw [← ha] at hs hei h3
    unfold rs_e1 at hei
    unfold rs_Q
    rcases (by omega : a = 0 ∨ a = 1 ∨ a = 2 ∨ a = 3) with h | h | h | h
    · rw [if_pos h] at hei
      rw [hei]
      exact ⟨by omega, by omega, by omega, fun j h h' => by omega⟩
    · rw [if_neg (by omega), if_pos h] at hei
      obtain ⟨q1, q2, q3, q4⟩ := st (i + 1) (by omega) (by omega) (by omega)
      rw [hei]
      refine ⟨by omega, q2, by omega, fun j g g' => ?_⟩
      rcases Nat.lt_or_ge (i + 1) j with e | e
      · have := q4 j e g'; omega
      · have e2 : j = i + 1 := by omega
        rw [e2]; omega
    · rw [if_neg (by omega), if_neg (by omega), if_pos h] at hei
      obtain ⟨q1, q2, q3, q4⟩ := st (i + 1) (by omega) (by omega) (by omega)
      obtain ⟨r1, r2, r3, r4⟩ := st (en (i + 1)) (by omega) (by omega) (by omega)
      rw [hei]
      refine ⟨by omega, r2, by omega, fun j g g' => ?_⟩
      rcases Nat.lt_or_ge (en (i + 1)) j with f | f
      · have := r4 j f g'; omega
      · rcases Nat.lt_or_ge j (en (i + 1)) with f2 | f2
        · rcases Nat.lt_or_ge (i + 1) j with e | e
          · have := q4 j e f2; omega
          · have e2 : j = i + 1 := by omega
            rw [e2]; omega
        · have e2 : j = en (i + 1) := by omega
          rw [e2]; omega
    · rw [if_neg (by omega), if_neg (by omega), if_neg (by omega)] at hei
      obtain ⟨q1, q2, q3, q4⟩ := st (i + 1) (by omega) (by omega) (by omega)
      obtain ⟨r1, r2, r3, r4⟩ := st (en (i + 1)) (by omega) (by omega) (by omega)
      obtain ⟨s1, s2, s3, s4⟩ := st (en (en (i + 1))) (by omega) (by omega) (by omega)
      rw [hei]
      refine ⟨by omega, s2, by omega, fun j g g' => ?_⟩
      rcases Nat.lt_or_ge (en (en (i + 1))) j with f | f
      · have := s4 j f g'; omega
      · rcases Nat.lt_or_ge j (en (en (i + 1))) with f2 | f2
        · rcases Nat.lt_or_ge (en (i + 1)) j with f3 | f3
          · have := r4 j f3 f2; omega
          · rcases Nat.lt_or_ge j (en (i + 1)) with f4 | f4
            · rcases Nat.lt_or_ge (i + 1) j with e | e
              · have := q4 j e f4; omega
              · have e2 : j = i + 1 := by omega
                rw [e2]; omega
            · have e2 : j = en (i + 1) := by omega
              rw [e2]; omega
        · have e2 : j = en (en (i + 1)) := by omega
          rw [e2]; omega
theorem rs_parse {kd vl en : Nat → Nat} {t : Nat} (h0 : rs_nd kd vl t = 0) (he : ∀ i, i < t → en i = rs_e1 en (rs_ar (kd i) (vl i)) i) (m i : Nat) (hm : t - i ≤ m) (hi : i < t) : rs_Q kd vl en t i := rs_parse' (lo := 0) h0 (fun i _ => he i) m i (Nat.zero_le _) hm hi
/-- what a token reads: the statement of its wire, and its operands -/
def rs_op (kd vl en : Nat → Nat) (i p : Nat) : Prop := (1 ≤ rs_ar (kd i) (vl i) ∧ p = i + 1) ∨ (2 ≤ rs_ar (kd i) (vl i) ∧ p = en (i + 1)) ∨ (3 ≤ rs_ar (kd i) (vl i) ∧ p = en (en (i + 1)))
def rs_dp (kd vl en ws : Nat → Nat) (i p : Nat) : Prop := (kd i = 4 ∧ p = ws (vl i)) ∨ rs_op kd vl en i p
theorem rs_opnd {kd vl en : Nat → Nat} {t : Nat} (h0 : rs_nd kd vl t = 0) (he : ∀ i, i < t → en i = rs_e1 en (rs_ar (kd i) (vl i)) i) {i p : Nat} (hi : i < t) (hp : rs_op kd vl en i p) : i < p ∧ p < en i ∧ p < t ∧ ∀ j, i < j → j ≤ p → 1 ≤ rs_nd kd vl j := by
  have Q : ∀ p, p < t → rs_Q kd vl en t p := fun p hp => rs_parse h0 he _ p (Nat.le_refl _) hp
  have hs : rs_nd kd vl (i + 1) = (rs_nd kd vl i - 1) + rs_ar (kd i) (vl i) := rfl
  have st : ∀ p, p ≤ t → 1 ≤ rs_nd kd vl p → rs_Q kd vl en t p := by
    intro p hpt h
    have hne : p ≠ t := fun e => by rw [e, h0] at h; omega
    exact Q p (by omega)
  have hei := he i hi
  have h3 := rs_ar3 (kd i) (vl i)
  obtain ⟨z1, z2, z3, z4⟩ := Q i hi
  have key : i < p ∧ p < en i := by
    unfold rs_op at hp
    obtain ⟨a, ha⟩ : ∃ a, a = rs_ar (kd i) (vl i) := ⟨_, rfl⟩
    rw [← ha] at hs hei h3 hp
    unfold rs_e1 at hei
    obtain ⟨q1, q2, q3, q4⟩ := st (i + 1) (by omega) (by omega)
    rcases (by omega : a = 1 ∨ a = 2 ∨ a = 3) with h | h | h
    · rw [if_neg (by omega), if_pos h] at hei
      rcases hp with ⟨g, rfl⟩ | ⟨g, rfl⟩ | ⟨g, rfl⟩ <;> omega
    · rw [if_neg (by omega), if_neg (by omega), if_pos h] at hei
      obtain ⟨r1, r2, r3, r4⟩ := st (en (i + 1)) (by omega) (by omega)
      rcases hp with ⟨g, rfl⟩ | ⟨g, rfl⟩ | ⟨g, rfl⟩ <;> omega
    · rw [if_neg (by omega), if_neg (by omega), if_neg (by omega)] at hei
      obtain ⟨r1, r2, r3, r4⟩ := st (en (i + 1)) (by omega) (by omega)
      obtain ⟨s1, s2, s3, s4⟩ := st (en (en (i + 1))) (by omega) (by omega)
      rcases hp with ⟨g, rfl⟩ | ⟨g, rfl⟩ | ⟨g, rfl⟩ <;> omega
  refine ⟨key.1, key.2, by omega, fun j a b => ?_⟩
  have := z4 j a (by omega)
  omega
/-- the last boundary up to i -/
def rs_ss (kd vl : Nat → Nat) : Nat → Nat
  | 0 => 0
  | i + 1 => if rs_nd kd vl (i + 1) = 0 then i + 1 else rs_ss kd vl i
theorem rs_ss_p (kd vl : Nat → Nat) : ∀ i, rs_ss kd vl i ≤ i ∧ rs_nd kd vl (rs_ss kd vl i) = 0 ∧ ∀ j, rs_ss kd vl i < j → j ≤ i → 1 ≤ rs_nd kd vl j := by
  intro i
  induction i with
  | zero => exact ⟨Nat.le_refl _, rfl, fun j a b => by omega⟩
  | succ i ih =>
    by_cases h : rs_nd kd vl (i + 1) = 0
    · have e : rs_ss kd vl (i + 1) = i + 1 := if_pos h
      rw [e]
      exact ⟨Nat.le_refl _, h, fun j a b => by omega⟩
    · have e : rs_ss kd vl (i + 1) = rs_ss kd vl i := if_neg h
      rw [e]
      obtain ⟨a, b, c⟩ := ih
      refine ⟨by omega, b, fun j d f => ?_⟩
      rcases Nat.lt_or_ge i j with g | g
      · have e2 : j = i + 1 := by omega
        rw [e2]; omega
      · exact c j d g
theorem rs_ss_u {kd vl : Nat → Nat} {i s : Nat} (h1 : s ≤ i) (h2 : rs_nd kd vl s = 0) (h3 : ∀ j, s < j → j ≤ i → 1 ≤ rs_nd kd vl j) : rs_ss kd vl i = s := by
  obtain ⟨a, b, c⟩ := rs_ss_p kd vl i
  rcases Nat.lt_trichotomy (rs_ss kd vl i) s with g | g | g
  · have := c s g h1; omega
  · exact g
  · have := h3 _ g a; omega
def rs_po (kd vl en : Nat → Nat) (k : Nat) : Nat := rs_ss kd vl k + en (rs_ss kd vl k) - 1 - k
theorem rs_seg {kd vl en : Nat → Nat} {t : Nat} (h0 : rs_nd kd vl t = 0) (he : ∀ i, i < t → en i = rs_e1 en (rs_ar (kd i) (vl i)) i) {i : Nat} (hi : i < t) : rs_ss kd vl i ≤ i ∧ i < en (rs_ss kd vl i) ∧ en (rs_ss kd vl i) ≤ t ∧ rs_nd kd vl (en (rs_ss kd vl i)) = 0 ∧ ∀ j, rs_ss kd vl i < j → j < en (rs_ss kd vl i) → 1 ≤ rs_nd kd vl j := by
  obtain ⟨a, b, c⟩ := rs_ss_p kd vl i
  obtain ⟨z1, z2, z3, z4⟩ := rs_parse h0 he _ (rs_ss kd vl i) (Nat.le_refl _) (by omega)
  refine ⟨a, ?_, z2, by omega, fun j d f => ?_⟩
  · rcases Nat.lt_or_ge i (en (rs_ss kd vl i)) with g | g
    · exact g
    · have := c _ z1 g; omega
  · have := z4 j d f; omega
theorem rs_seg_eq {kd vl en : Nat → Nat} {t : Nat} (h0 : rs_nd kd vl t = 0) (he : ∀ i, i < t → en i = rs_e1 en (rs_ar (kd i) (vl i)) i) {i j : Nat} (hi : i < t) (h1 : rs_ss kd vl i ≤ j) (h2 : j < en (rs_ss kd vl i)) : rs_ss kd vl j = rs_ss kd vl i := by
  obtain ⟨a, b, c, d, f⟩ := rs_seg h0 he hi
  exact rs_ss_u h1 (rs_ss_p kd vl i).2.1 (fun x g g' => f x g (by omega))
theorem rs_po_p {kd vl en : Nat → Nat} {t : Nat} (h0 : rs_nd kd vl t = 0) (he : ∀ i, i < t → en i = rs_e1 en (rs_ar (kd i) (vl i)) i) {k : Nat} (hk : k < t) : rs_ss kd vl k ≤ rs_po kd vl en k ∧ rs_po kd vl en k < en (rs_ss kd vl k) ∧ rs_ss kd vl (rs_po kd vl en k) = rs_ss kd vl k ∧ rs_po kd vl en (rs_po kd vl en k) = k ∧ rs_po kd vl en k < t := by
  obtain ⟨a, b, c, d, f⟩ := rs_seg h0 he hk
  have e : rs_po kd vl en k = rs_ss kd vl k + en (rs_ss kd vl k) - 1 - k := rfl
  have g1 : rs_ss kd vl k ≤ rs_po kd vl en k := by omega
  have g2 : rs_po kd vl en k < en (rs_ss kd vl k) := by omega
  have g3 := rs_seg_eq h0 he hk g1 g2
  have e2 : rs_po kd vl en (rs_po kd vl en k) = rs_ss kd vl (rs_po kd vl en k) + en (rs_ss kd vl (rs_po kd vl en k)) - 1 - rs_po kd vl en k := rfl
  rw [g3] at e2
  exact ⟨g1, g2, g3, by omega, by omega⟩
/-- a complete program -/
def rs_Pg (kd vl en ws : Nat → Nat) (t : Nat) : Prop := rs_nd kd vl t = 0 ∧ (∀ i, i < t → en i = rs_e1 en (rs_ar (kd i) (vl i)) i) ∧ (∀ i, i < t → kd i = 4 → ∃ j, ws (vl i) < j ∧ j ≤ i ∧ rs_nd kd vl j = 0) ∧ (∀ i, i < t → rs_ok (kd i) (vl i)) ∧ ∀ i, i < t → (9 ≤ kd i ↔ rs_nd kd vl i = 0)
theorem rs_dp_lt {kd vl en ws : Nat → Nat} {t : Nat} (P : rs_Pg kd vl en ws t) {i p : Nat} (hi : i < t) (h : rs_dp kd vl en ws i p) : p < t ∧ rs_po kd vl en p < rs_po kd vl en i := by
  obtain ⟨h0, he, hw, ho⟩ := P
  obtain ⟨a, b, c, d, f⟩ := rs_seg h0 he hi
  have ei : rs_po kd vl en i = rs_ss kd vl i + en (rs_ss kd vl i) - 1 - i := rfl
  rcases h with ⟨h4, rfl⟩ | h
  · obtain ⟨j, j1, j2, j3⟩ := hw i hi h4
    have hp : ws (vl i) < t := by omega
    refine ⟨hp, ?_⟩
    obtain ⟨a', b', c', d', f'⟩ := rs_seg h0 he hp
    obtain ⟨s1, s2, s3⟩ := rs_ss_p kd vl i
    obtain ⟨p1, p2, p3, p4, p5⟩ := rs_po_p h0 he hp
    have g : en (rs_ss kd vl (ws (vl i))) ≤ j := by
      rcases Nat.lt_or_ge j (en (rs_ss kd vl (ws (vl i)))) with g | g
      · have := f' j (by omega) g; omega
      · exact g
    have g2 : j ≤ rs_ss kd vl i := by
      rcases Nat.lt_or_ge (rs_ss kd vl i) j with g | g
      · have := s3 j g j2; omega
      · exact g
    omega
  · obtain ⟨o1, o2, o3, o4⟩ := rs_opnd h0 he hi h
    obtain ⟨s1, s2, s3⟩ := rs_ss_p kd vl i
    have e : rs_ss kd vl p = rs_ss kd vl i := by
      refine rs_ss_u (by omega) s2 (fun j g g' => ?_)
      rcases Nat.lt_or_ge i j with x | x
      · exact o4 j x g'
      · exact s3 j g x
    have ep : rs_po kd vl en p = rs_ss kd vl p + en (rs_ss kd vl p) - 1 - p := rfl
    rw [e] at ep
    obtain ⟨a', b', c', d', f'⟩ := rs_seg h0 he o3
    rw [e] at b'
    exact ⟨o3, by omega⟩
theorem rs_ind {kd vl en ws : Nat → Nat} {t : Nat} (P : rs_Pg kd vl en ws t) (C : Nat → Prop) (hs : ∀ i, i < t → (∀ p, rs_dp kd vl en ws i p → C p) → C i) : ∀ i, i < t → C i := by
  have H : ∀ m i, rs_po kd vl en i ≤ m → i < t → C i := by
    intro m
    induction m with
    | zero =>
      intro i hm hi
      exact hs i hi (fun p hp => absurd (rs_dp_lt P hi hp).2 (by omega))
    | succ m ih =>
      intro i hm hi
      refine hs i hi (fun p hp => ?_)
      obtain ⟨a, b⟩ := rs_dp_lt P hi hp
      exact ih p (by omega) a
  exact fun i hi => H _ i (Nat.le_refl _) hi

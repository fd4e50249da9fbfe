/-! each closed statement is the one that its wire or output names; stacks of values; nested ends -/
def rs_T4 (cnt op : Nat) (kd vl wdf odf ws ost : Nat → Nat) (q : Prop) : Prop := (∀ i, i < cnt → kd i = 9 → (wdf (vl i) = 1 ∧ ws (vl i) = i) ∨ (i = op ∧ q)) ∧ ∀ i, i < cnt → kd i = 10 → (odf (vl i) = 1 ∧ ost (vl i) = i) ∨ (i = op ∧ q)
theorem rs_T4_a {cnt op : Nat} {kd vl wdf odf ws ost : Nat → Nat} {k v : Nat} (T : rs_T4 cnt op kd vl wdf odf ws ost (1 ≤ rs_nd kd vl cnt)) (hn : 9 ≤ k ↔ rs_nd kd vl cnt = 0) : rs_T4 (cnt + 1) (if 9 ≤ k then cnt else op) (rs_u kd cnt k) (rs_u vl cnt v) wdf odf ws ost True := by
  have hop : 1 ≤ rs_nd kd vl cnt → (if 9 ≤ k then cnt else op) = op := fun h => if_neg (by omega)
  refine ⟨fun i hi h => ?_, fun i hi h => ?_⟩
  · rcases Nat.lt_or_ge i cnt with g | g
    · rw [rs_un (by omega)] at h ⊢
      rcases T.1 i g h with z | z
      · exact Or.inl z
      · exact Or.inr ⟨by rw [hop z.2]; exact z.1, trivial⟩
    · have e : i = cnt := by omega
      rw [e, rs_us] at h
      exact Or.inr ⟨by rw [if_pos (by omega)]; exact e, trivial⟩
  · rcases Nat.lt_or_ge i cnt with g | g
    · rw [rs_un (by omega)] at h ⊢
      rcases T.2 i g h with z | z
      · exact Or.inl z
      · exact Or.inr ⟨by rw [hop z.2]; exact z.1, trivial⟩
    · have e : i = cnt := by omega
      rw [e, rs_us] at h
      exact Or.inr ⟨by rw [if_pos (by omega)]; exact e, trivial⟩
theorem rs_T4_o {cnt op : Nat} {kd vl wdf odf ws ost : Nat → Nat} (T : rs_T4 cnt op kd vl wdf odf ws ost True) (h : 1 ≤ rs_nd kd vl cnt) : rs_T4 cnt op kd vl wdf odf ws ost (1 ≤ rs_nd kd vl cnt) :=
  ⟨fun i hi g => (T.1 i hi g).imp id fun z => ⟨z.1, h⟩, fun i hi g => (T.2 i hi g).imp id fun z => ⟨z.1, h⟩⟩
theorem rs_T4_w {cnt op : Nat} {kd vl wdf odf ws ost : Nat → Nat} {q : Prop} (T : rs_T4 cnt op kd vl wdf odf ws ost True) (h3 : rs_T3 cnt op kd vl wdf odf) (h9 : kd op = 9) : rs_T4 cnt op kd vl (rs_u wdf (vl op) 1) odf (rs_u ws (vl op) op) ost q := by
  refine ⟨fun i hi h => Or.inl ?_, fun i hi h => ?_⟩
  · rcases T.1 i hi h with z | z
    · have ne : vl i ≠ vl op := fun x => by
        have := h3.2.2.2.2.1 h9
        rw [x, this] at z
        exact absurd z.1 (by decide)
      rw [rs_un ne, rs_un ne]; exact z
    · rw [z.1, rs_us, rs_us]; exact ⟨rfl, rfl⟩
  · rcases T.2 i hi h with z | z
    · exact Or.inl z
    · rw [z.1, h9] at h; exact absurd h (by decide)
theorem rs_T4_q {cnt op : Nat} {kd vl wdf odf ws ost : Nat → Nat} {q : Prop} (T : rs_T4 cnt op kd vl wdf odf ws ost True) (h3 : rs_T3 cnt op kd vl wdf odf) (h10 : kd op = 10) : rs_T4 cnt op kd vl wdf (rs_u odf (vl op) 1) ws (rs_u ost (vl op) op) q := by
  refine ⟨fun i hi h => ?_, fun i hi h => Or.inl ?_⟩
  · rcases T.1 i hi h with z | z
    · exact Or.inl z
    · rw [z.1, h10] at h; exact absurd h (by decide)
  · rcases T.2 i hi h with z | z
    · have ne : vl i ≠ vl op := fun x => by
        have := (h3.2.2.2.2.2 h10).2
        rw [x, this] at z
        exact absurd z.1 (by decide)
      rw [rs_un ne, rs_un ne]; exact z
    · rw [z.1, rs_us, rs_us]; exact ⟨rfl, rfl⟩
theorem rs_T4_n {cnt op : Nat} {kd vl wdf odf ws ost : Nat → Nat} {q : Prop} (T : rs_T4 cnt op kd vl wdf odf ws ost True) (h9 : kd op ≠ 9) (h10 : kd op ≠ 10) : rs_T4 cnt op kd vl wdf odf ws ost q := by
  refine ⟨fun i hi h => Or.inl ?_, fun i hi h => Or.inl ?_⟩
  · rcases T.1 i hi h with z | z
    · exact z
    · rw [z.1] at h; exact absurd h h9
  · rcases T.2 i hi h with z | z
    · exact z
    · rw [z.1] at h; exact absurd h h10
theorem rs_T_n {cnt op : Nat} {kd vl wdf odf ws ost : Nat → Nat} (h1 : rs_T1 cnt kd vl wdf ws) (h2 : rs_T2 cnt kd vl wdf odf ws ost) (h0 : rs_nd kd vl cnt = 0) : rs_T cnt op kd vl wdf odf ws ost := ⟨h1, h2, fun h => by omega⟩
theorem rs_T4_0 (op : Nat) (q : Prop) : rs_T4 0 op (fun _ => 0) (fun _ => 0) (fun _ => 0) (fun _ => 0) (fun _ => 0) (fun _ => 0) q := ⟨fun i h => by omega, fun i h => by omega⟩
/-- the values of the expressions from i on up to e, the nearest one on top -/
def rs_Sk (st R en : Nat → Nat) (e : Nat) : Nat → Nat → Prop
  | 0, i => i = e
  | n + 1, i => i < e ∧ st n = R i ∧ rs_Sk st R en e n (en i)
theorem rs_Sk_u {st st' R en : Nat → Nat} {e : Nat} : ∀ n i, (∀ x, x < n → st' x = st x) → rs_Sk st R en e n i → rs_Sk st' R en e n i := by
  intro n
  induction n with
  | zero => intro i _ h; exact h
  | succ n ih =>
    intro i hx h
    exact ⟨h.1, by rw [hx n (by omega)]; exact h.2.1, ih _ (fun x z => hx x (by omega)) h.2.2⟩
theorem rs_Sk_le {st R en : Nat → Nat} {e lo : Nat} (hen : ∀ i, lo ≤ i → i < e → i < en i) : ∀ n i, lo ≤ i → rs_Sk st R en e n i → i + n ≤ e := by
  intro n
  induction n with
  | zero => intro i _ h; exact Nat.le_of_eq h
  | succ n ih =>
    intro i hl h
    have a := hen i hl h.1
    have b := ih (en i) (by omega) h.2.2
    omega
theorem rs_Sk_p {st R en : Nat → Nat} {e n i : Nat} (h : rs_Sk st R en e n i) (hi : i < e) : ∃ m, n = m + 1 ∧ st m = R i ∧ rs_Sk st R en e m (en i) := by
  cases n with
  | zero => exact absurd h (show ¬ i = e by omega)
  | succ m => exact ⟨m, rfl, h.2.1, h.2.2⟩
/-- ends are nested -/
theorem rs_nest {kd vl en : Nat → Nat} {t : Nat} (h0 : rs_nd kd vl t = 0) (he : ∀ i, i < t → en i = rs_e1 en (rs_ar (kd i) (vl i)) i) {p y : Nat} (hp : p < t) (h1 : 1 ≤ rs_nd kd vl p) (hy : p ≤ y) (hy' : y < en p) : y < t ∧ 1 ≤ rs_nd kd vl y ∧ en y ≤ en p := by
  obtain ⟨a1, a2, a3, a4⟩ := rs_parse h0 he _ p (Nat.le_refl _) hp
  have hyt : y < t := by omega
  obtain ⟨b1, b2, b3, b4⟩ := rs_parse h0 he _ y (Nat.le_refl _) hyt
  have c : rs_nd kd vl p - 1 < rs_nd kd vl y := by
    rcases Nat.lt_or_ge p y with g | g
    · exact a4 y g hy'
    · have e : y = p := by omega
      rw [e]; omega
  refine ⟨hyt, by omega, ?_⟩
  rcases Nat.lt_or_ge (en p) (en y) with g | g
  · have := b4 (en p) hy' g
    omega
  · exact g
/-- the value of a token from the values that it reads -/
def rs_mv (ip rg wv : Nat → Nat) (k v a b c : Nat) : Nat := if k = 1 then v else if k = 2 then ip v else if k = 3 then rg v else if k = 4 then wv v else if k = 5 then rs_f v a b c else if k = 6 then a * 2 ^ v % 256 else if k = 7 then a / 2 ^ v else a / 2 ^ v % 2
theorem rs_mv_me {kd vl en ws ip rg wv R : Nat → Nat} {t y a b c : Nat} (hS : rs_So kd vl en ws ip rg t R) (hy : y < t) (ok : rs_ok (kd y) (vl y)) (h8 : kd y ≤ 8) (hw : kd y = 4 → wv (vl y) = R (ws (vl y))) (ha : 1 ≤ rs_ar (kd y) (vl y) → a = R (y + 1)) (hb : 2 ≤ rs_ar (kd y) (vl y) → b = R (en (y + 1))) (hc : 3 ≤ rs_ar (kd y) (vl y) → c = R (en (en (y + 1)))) : rs_mv ip rg wv (kd y) (vl y) a b c = R y := by
  obtain ⟨g1, g2, g5, g10, g8⟩ := rs_rng ok
  rw [hS y hy]
  unfold rs_mv rs_me
  refine rs_ic (fun _ => rfl) fun n1 => rs_ic (fun _ => rfl) fun n2 => rs_ic (fun _ => rfl) fun n3 => rs_ic (fun e => hw e) fun n4 => rs_ic (fun h5 => ?_) fun n5 => rs_ic (fun h6 => ?_) fun n6 => rs_ic (fun h7 => ?_) fun n7 => ?_
  · obtain ⟨v1, v2⟩ := g5 h5
    rw [ha (rs_ar_6 (by omega))]
    exact rs_f_c v1 v2 (fun x1 x2 => hb (rs_ar_2 h5 x1 x2 v1)) fun x => hc (rs_ar_3 h5 x)
  · rw [ha (rs_ar_6 (by omega))]
  · rw [ha (rs_ar_6 (by omega))]
  · have k8 : kd y = 8 := by have := ok.1; omega
    rw [ha (rs_ar_6 (by omega)), if_pos k8]

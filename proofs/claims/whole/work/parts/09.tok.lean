/-! what holds of the tokens taken so far -/
theorem rs_nd_c {kd vl kd' vl' : Nat → Nat} : ∀ j, (∀ i, i < j → kd' i = kd i ∧ vl' i = vl i) → rs_nd kd' vl' j = rs_nd kd vl j := by
  intro j
  induction j with
  | zero => intro _; rfl
  | succ j ih =>
    intro h
    obtain ⟨a, b⟩ := h j (by omega)
    show rs_nd kd' vl' j - 1 + rs_ar (kd' j) (vl' j) = rs_nd kd vl j - 1 + rs_ar (kd j) (vl j)
    rw [a, b, ih (fun i hi => h i (by omega))]
theorem rs_nd_le (kd vl : Nat → Nat) : ∀ j, rs_nd kd vl j ≤ 3 * j := by
  intro j
  induction j with
  | zero => exact Nat.le_refl _
  | succ j ih =>
    have := rs_ar3 (kd j) (vl j)
    show rs_nd kd vl j - 1 + rs_ar (kd j) (vl j) ≤ _
    omega
def rs_T1 (cnt : Nat) (kd vl wdf ws : Nat → Nat) : Prop := (∀ i, i < cnt → rs_ok (kd i) (vl i) ∧ (9 ≤ kd i ↔ rs_nd kd vl i = 0)) ∧ ∀ i, i < cnt → kd i = 4 → wdf (vl i) = 1 ∧ ∃ j, ws (vl i) < j ∧ j ≤ i ∧ rs_nd kd vl j = 0
def rs_T2 (cnt : Nat) (kd vl wdf odf ws ost : Nat → Nat) : Prop := (∀ w, wdf w = 0 ∨ wdf w = 1) ∧ (∀ o, odf o = 0 ∨ odf o = 1) ∧ (∀ w, wdf w = 1 → ws w < cnt ∧ kd (ws w) = 9 ∧ vl (ws w) = w ∧ ∃ j, ws w < j ∧ j ≤ cnt ∧ rs_nd kd vl j = 0) ∧ ∀ o, odf o = 1 → ost o < cnt ∧ kd (ost o) = 10 ∧ vl (ost o) = o
def rs_T3 (cnt op : Nat) (kd vl wdf odf : Nat → Nat) : Prop := op < cnt ∧ 9 ≤ kd op ∧ kd op ≤ 11 ∧ vl op < 8 ∧ (kd op = 9 → wdf (vl op) = 0) ∧ (kd op = 10 → vl op < 4 ∧ odf (vl op) = 0)
def rs_T (cnt op : Nat) (kd vl wdf odf ws ost : Nat → Nat) : Prop := rs_T1 cnt kd vl wdf ws ∧ rs_T2 cnt kd vl wdf odf ws ost ∧ (1 ≤ rs_nd kd vl cnt → rs_T3 cnt op kd vl wdf odf)
/-- a token is appended -/
theorem rs_T_a {cnt op : Nat} {kd vl wdf odf ws ost : Nat → Nat} (T : rs_T cnt op kd vl wdf odf ws ost) {k v : Nat} (hk : rs_ok k v) (hn : 9 ≤ k ↔ rs_nd kd vl cnt = 0) (hw : k = 4 → wdf v = 1) (h9 : k = 9 → wdf v = 0) (h10 : k = 10 → odf v = 0) : rs_T1 (cnt + 1) (rs_u kd cnt k) (rs_u vl cnt v) wdf ws ∧ rs_T2 (cnt + 1) (rs_u kd cnt k) (rs_u vl cnt v) wdf odf ws ost ∧ rs_T3 (cnt + 1) (if 9 ≤ k then cnt else op) (rs_u kd cnt k) (rs_u vl cnt v) wdf odf ∧ rs_nd (rs_u kd cnt k) (rs_u vl cnt v) (cnt + 1) = rs_nd kd vl cnt - 1 + rs_ar k v := by
  obtain ⟨⟨t1, t2⟩, ⟨b1, b2, b3, b4⟩, t3⟩ := T
  have nd : ∀ j, j ≤ cnt → rs_nd (rs_u kd cnt k) (rs_u vl cnt v) j = rs_nd kd vl j := fun j hj => rs_nd_c j (fun i hi => ⟨rs_un (by omega), rs_un (by omega)⟩)
  refine ⟨⟨fun i hi => ?_, fun i hi h => ?_⟩, ⟨b1, b2, fun w h => ?_, fun o h => ?_⟩, ?_, ?_⟩
  · rw [nd i (by omega)]
    rcases Nat.lt_or_ge i cnt with g | g
    · rw [rs_un (by omega), rs_un (by omega)]; exact t1 i g
    · have e : i = cnt := by omega
      rw [e, rs_us, rs_us]; exact ⟨hk, hn⟩
  · rcases Nat.lt_or_ge i cnt with g | g
    · rw [rs_un (by omega)] at h ⊢
      obtain ⟨a, j, j1, j2, j3⟩ := t2 i g h
      exact ⟨a, j, j1, j2, by rw [nd j (by omega)]; exact j3⟩
    · have e : i = cnt := by omega
      rw [e, rs_us] at h
      rw [e, rs_us]
      obtain ⟨a, b, c, j, j1, j2, j3⟩ := b3 v (hw h)
      exact ⟨hw h, j, j1, j2, by rw [nd j (by omega)]; exact j3⟩
  · obtain ⟨a, b, c, j, j1, j2, j3⟩ := b3 w h
    exact ⟨by omega, by rw [rs_un (by omega)]; exact b, by rw [rs_un (by omega)]; exact c, j, j1, by omega, by rw [nd j (by omega)]; exact j3⟩
  · obtain ⟨a, b, c⟩ := b4 o h
    exact ⟨by omega, by rw [rs_un (by omega)]; exact b, by rw [rs_un (by omega)]; exact c⟩
  · by_cases g : 9 ≤ k
    · rw [if_pos g]
      unfold rs_T3
      rw [rs_us, rs_us]
      obtain ⟨k1, k2, k3, k4⟩ := hk
      have hh : rs_hi k ≤ 7 ∧ (k = 10 → rs_hi k = 3) := by
        unfold rs_hi
        repeat' split
        all_goals omega
      exact ⟨by omega, g, k2, by omega, h9, fun e => ⟨by have := hh.2 e; omega, h10 e⟩⟩
    · rw [if_neg g]
      obtain ⟨a, b, c, d, e, f⟩ := t3 (by
        have := hn.mpr
        rcases Nat.eq_zero_or_pos (rs_nd kd vl cnt) with z | z
        · exact absurd (this z) g
        · exact z)
      unfold rs_T3
      rw [rs_un (by omega), rs_un (by omega)]
      exact ⟨by omega, b, c, d, e, f⟩
  · show rs_nd (rs_u kd cnt k) (rs_u vl cnt v) cnt - 1 + rs_ar (rs_u kd cnt k cnt) (rs_u vl cnt v cnt) = _
    rw [nd cnt (Nat.le_refl _), rs_us, rs_us]
/-- the statement goes on -/
theorem rs_T_o {cnt op : Nat} {kd vl wdf odf ws ost : Nat → Nat} (h1 : rs_T1 cnt kd vl wdf ws) (h2 : rs_T2 cnt kd vl wdf odf ws ost) (h3 : rs_T3 cnt op kd vl wdf odf) : rs_T cnt op kd vl wdf odf ws ost := ⟨h1, h2, fun _ => h3⟩
/-- a wire's statement is closed -/
theorem rs_T_w {cnt op : Nat} {kd vl wdf odf ws ost : Nat → Nat} (h1 : rs_T1 cnt kd vl wdf ws) (h2 : rs_T2 cnt kd vl wdf odf ws ost) (h3 : rs_T3 cnt op kd vl wdf odf) (h9 : kd op = 9) (h0 : rs_nd kd vl cnt = 0) : rs_T cnt op kd vl (rs_u wdf (vl op) 1) odf (rs_u ws (vl op) op) ost := by
  obtain ⟨t1, t2⟩ := h1
  obtain ⟨b1, b2, b3, b4⟩ := h2
  obtain ⟨a, b, c, d, e, f⟩ := h3
  have z := e h9
  refine ⟨⟨t1, fun i hi h => ?_⟩, ⟨fun w => ?_, b2, fun w h => ?_, b4⟩, fun h => by omega⟩
  · obtain ⟨p, q⟩ := t2 i hi h
    have ne : vl i ≠ vl op := fun x => by rw [x, z] at p; omega
    rw [rs_un ne, rs_un ne]; exact ⟨p, q⟩
  · by_cases g : w = vl op
    · rw [g, rs_us]; exact Or.inr rfl
    · rw [rs_un g]; exact b1 w
  · by_cases g : w = vl op
    · rw [g, rs_us]; exact ⟨a, h9, rfl, cnt, a, Nat.le_refl _, h0⟩
    · rw [rs_un g] at h ⊢; exact b3 w h
theorem rs_T_q {cnt op : Nat} {kd vl wdf odf ws ost : Nat → Nat} (h1 : rs_T1 cnt kd vl wdf ws) (h2 : rs_T2 cnt kd vl wdf odf ws ost) (h3 : rs_T3 cnt op kd vl wdf odf) (h10 : kd op = 10) (h0 : rs_nd kd vl cnt = 0) : rs_T cnt op kd vl wdf (rs_u odf (vl op) 1) ws (rs_u ost (vl op) op) := by
  obtain ⟨b1, b2, b3, b4⟩ := h2
  obtain ⟨a, b, c, d, e, f⟩ := h3
  refine ⟨h1, ⟨b1, fun w => ?_, b3, fun w h => ?_⟩, fun h => by omega⟩
  · by_cases g : w = vl op
    · rw [g, rs_us]; exact Or.inr rfl
    · rw [rs_un g]; exact b2 w
  · by_cases g : w = vl op
    · rw [g, rs_us]; exact ⟨a, h10, rfl⟩
    · rw [rs_un g] at h ⊢; exact b4 w h
theorem rs_T_0 (op : Nat) : rs_T 0 op (fun _ => 0) (fun _ => 0) (fun _ => 0) (fun _ => 0) (fun _ => 0) (fun _ => 0) :=
  ⟨⟨fun i h => by omega, fun i h => by omega⟩, ⟨fun _ => Or.inl rfl, fun _ => Or.inl rfl, fun w h => absurd h (show ¬ (0 : Nat) = 1 by decide), fun w h => absurd h (show ¬ (0 : Nat) = 1 by decide)⟩, fun h => absurd h (show ¬ 1 ≤ 0 by decide)⟩
theorem rs_T_Pg {cnt op : Nat} {kd vl wdf odf ws ost en : Nat → Nat} (T : rs_T cnt op kd vl wdf odf ws ost) (h0 : rs_nd kd vl cnt = 0) (he : ∀ i, i < cnt → en i = rs_e1 en (rs_ar (kd i) (vl i)) i) : rs_Pg kd vl en ws cnt :=
  ⟨h0, he, fun i hi h => (T.1.2 i hi h).2, fun i hi => (T.1.1 i hi).1, fun i hi => (T.1.1 i hi).2⟩
theorem rs_T_D {cnt op : Nat} {kd vl wdf odf ws ost : Nat → Nat} (T : rs_T cnt op kd vl wdf odf ws ost) : ∀ i, i < cnt → kd i = 4 → kd (ws (vl i)) = 9 := fun i hi h => (T.2.1.2.2.1 _ (T.1.2 i hi h).1).2.1

/-! the loop that builds the gates -/
section
variable {lim cnt ned op cp nc : Nat} {cy : Int32} {kd vl rg ip wdf odf ws ost fo so to en ord res gl gr fs tb : Nat → Nat} {L : Nat → Bool}
theorem xb_rt_l {post : SX → Prop} {i k v : Nat} (hW : rs_WF nc gl gr) (hi : i < 48) (hk : kd i = k) (hv : vl i = v) (hk1 : k = 1 ∨ k = 2 ∨ k = 3 ∨ k = 4 ∨ k = 6 ∨ k = 7 ∨ k = 8 ∨ k = 9 ∨ k = 10) (hv2 : k = 2 → v < 4) (hv8 : k ≠ 1 → v < 8) (hvb : v < 256) (hfo : fo i ≤ 48) (hfi : 6 ≤ k → fo i ≠ i) (hws : k = 4 → ws v ≤ 48 ∧ ws v ≠ i ∧ ∀ x, x < 8 → tb (ws v * 8 + x) < 2 * nc) (ha : 6 ≤ k → ∀ x, x < 8 → tb (fo i * 8 + x) < 2 * nc) (H : ∀ tb', rs_St (rs_Wrt tb (fo i) (ws v) k v) i 8 80 nc gl gr tb nc gl gr tb' → post ((nI lim), (nI cnt), (nI ned), (nI op), (nI cp), cy, (nI nc), (rs_A kd), (rs_A vl), (rs_A rg), (rs_A ip), (rs_A wdf), (rs_A odf), (rs_A ws), (rs_A ost), (rs_A fo), (rs_A so), (rs_A to), (rs_A en), (rs_A ord), (rs_A res), (rs_A gl), (rs_A gr), (rs_A fs), (rs_A tb'), (rs_AB L))) : ∀ d j tb', j + d = 8 → rs_St (rs_Wrt tb (fo i) (ws v) k v) i j 0 nc gl gr tb nc gl gr tb' → wX_routeBits_2 post (nI i) (nI lim) (nI cnt) (nI ned) (nI op) (nI cp) cy (nI nc) (d + 1) (nI j) (rs_A kd) (rs_A vl) (rs_A rg) (rs_A ip) (rs_A wdf) (rs_A odf) (rs_A ws) (rs_A ost) (rs_A fo) (rs_A so) (rs_A to) (rs_A en) (rs_A ord) (rs_A res) (rs_A gl) (rs_A gr) (rs_A fs) (rs_A tb') (rs_AB L) := by
  intro d
  induction d with
  | zero =>
    intro j tb' hj S
    have e : j = 8 := by omega
    subst e
    exact br_t xa_8t (H _ (rs_st_g S (by omega)))
  | succ d ih =>
    intro j tb' hj S
    have r4 : k = 4 → tb' (ws v * 8 + j) = tb (ws v * 8 + j) := fun h => rs_st_rd S (by omega) (hws h).2.1 (by omega)
    have r6 : 6 ≤ k → ∀ y, y < 8 → tb' (fo i * 8 + y) = tb (fo i * 8 + y) := fun h y hy => rs_st_rd S (by omega) (hfi h) hy
    refine br_f (xa_8f (by omega)) (xb_rb hW hi (by omega) hk hv hk1 hv2 hv8 hvb hfo (fun h => ⟨(hws h).1, by rw [r4 h]; exact (hws h).2.2 j (by omega)⟩) (fun h x hx => by rw [r6 h x hx]; exact ha h x hx) fun o ho hL => ?_)
    refine ⟨xa_iy (by omega) (by omega), nm_r (xa_uy (by omega) (by omega)) (nm_r (nI_1 j) (ih (j + 1) _ (by omega) (rs_st_s S (rs_ex_r hW) (by omega) ho fun L z => ?_)))⟩
    rw [hL L z.1]
    exact rs_Wrt_c (by omega) (by omega) (fun h => hv8 (by omega)) r4 r6
theorem xb_rt {post : SX → Prop} {i k v : Nat} (hW : rs_WF nc gl gr) (hi : i < 48) (hk : kd i = k) (hv : vl i = v) (hk1 : k = 1 ∨ k = 2 ∨ k = 3 ∨ k = 4 ∨ k = 6 ∨ k = 7 ∨ k = 8 ∨ k = 9 ∨ k = 10) (hv2 : k = 2 → v < 4) (hv8 : k ≠ 1 → v < 8) (hvb : v < 256) (hfo : fo i ≤ 48) (hfi : 6 ≤ k → fo i ≠ i) (hws : k = 4 → ws v ≤ 48 ∧ ws v ≠ i ∧ ∀ x, x < 8 → tb (ws v * 8 + x) < 2 * nc) (ha : 6 ≤ k → ∀ x, x < 8 → tb (fo i * 8 + x) < 2 * nc) (H : ∀ tb', rs_St (rs_Wrt tb (fo i) (ws v) k v) i 8 80 nc gl gr tb nc gl gr tb' → post ((nI lim), (nI cnt), (nI ned), (nI op), (nI cp), cy, (nI nc), (rs_A kd), (rs_A vl), (rs_A rg), (rs_A ip), (rs_A wdf), (rs_A odf), (rs_A ws), (rs_A ost), (rs_A fo), (rs_A so), (rs_A to), (rs_A en), (rs_A ord), (rs_A res), (rs_A gl), (rs_A gr), (rs_A fs), (rs_A tb'), (rs_AB L))) : wpX_routeBits post ((nI lim), (nI cnt), (nI ned), (nI op), (nI cp), cy, (nI nc), (rs_A kd), (rs_A vl), (rs_A rg), (rs_A ip), (rs_A wdf), (rs_A odf), (rs_A ws), (rs_A ost), (rs_A fo), (rs_A so), (rs_A to), (rs_A en), (rs_A ord), (rs_A res), (rs_A gl), (rs_A gr), (rs_A fs), (rs_A tb), (rs_AB L)) (nI i) :=
  ⟨9, xb_rt_l hW hi hk hv hk1 hv2 hv8 hvb hfo hfi hws ha H 8 0 tb rfl (rs_st_0 (by omega) (rs_ex_r hW))⟩
theorem xc_gates_l {post : SX → Prop} (P : rs_Pg kd vl en ws cnt) (hc : cnt ≤ 48) (hF : ∀ i, i < cnt → rs_LF kd vl en fo so to i) (hb : ∀ x, fo x ≤ 48 ∧ so x ≤ 48 ∧ to x ≤ 48) (ho : ∀ k, k < cnt → ord k = rs_po kd vl en k) (hw : ∀ i, i < cnt → kd i = 4 → kd (ws (vl i)) = 9) (H : ∀ nc' gl' gr' tb' fs', rs_J kd vl en ws cnt cnt nc' gl' gr' tb' fs' → post ((nI lim), (nI cnt), (nI ned), (nI op), (nI cp), cy, (nI nc'), (rs_A kd), (rs_A vl), (rs_A rg), (rs_A ip), (rs_A wdf), (rs_A odf), (rs_A ws), (rs_A ost), (rs_A fo), (rs_A so), (rs_A to), (rs_A en), (rs_A ord), (rs_A res), (rs_A gl'), (rs_A gr'), (rs_A fs'), (rs_A tb'), (rs_AB L))) : ∀ d k nc gl gr tb fs, k + d = cnt → rs_J kd vl en ws cnt k nc gl gr tb fs → wX_buildGates_34 post (d + 1) (nI k) (nI lim) (nI cnt) (nI ned) (nI op) (nI cp) cy (nI nc) (rs_A kd) (rs_A vl) (rs_A rg) (rs_A ip) (rs_A wdf) (rs_A odf) (rs_A ws) (rs_A ost) (rs_A fo) (rs_A so) (rs_A to) (rs_A en) (rs_A ord) (rs_A res) (rs_A gl) (rs_A gr) (rs_A fs) (rs_A tb) (rs_AB L) := by
  intro d
  induction d with
  | zero =>
    intro k nc gl gr tb fs hk J
    have e : k = cnt := by omega
    subst e
    exact br_t (nI_le (Nat.le_refl _) (by omega)) (H _ _ _ _ _ J)
  | succ d ih =>
    intro k nc gl gr tb fs hk J
    have hkt : k < cnt := by omega
    obtain ⟨p1, p2, p3, p4, p5⟩ := rs_po_p P.1 P.2.1 hkt
    have eo : rs_A ord (nI k).toNatClampNeg = nI (rs_po kd vl en k) := by rw [rs_Ax k rfl (by omega), ho k hkt]
    have ok := P.2.2.2.1 _ p5
    obtain ⟨g1, g2, g5, g10, g8⟩ := rs_rng ok
    obtain ⟨f1, f2, f3⟩ := hF _ p5
    have D : ∀ p, rs_dp kd vl en ws (rs_po kd vl en k) p → kd p ≠ 11 := fun p hp => rs_D P hw p5 hp
    have hlt : ∀ p, rs_dp kd vl en ws (rs_po kd vl en k) p → p ≤ 48 ∧ p ≠ rs_po kd vl en k ∧ ∀ x, x < 8 → tb (p * 8 + x) < 2 * nc := fun p hp => by
      obtain ⟨d1, d2⟩ := rs_dp_lt P p5 hp
      refine ⟨by omega, fun e => by rw [e] at d2; omega, ?_⟩
      rw [p4] at d2
      exact J.2.2.1 p d1 d2 (D p hp)
    have hn : nc + 80 ≤ 3937 := by have := J.1; omega
    obtain ⟨b1, b2, b3⟩ := hb (rs_po kd vl en k)
    have ek : rs_A kd (nI (rs_po kd vl en k)).toNatClampNeg = nI (kd (rs_po kd vl en k)) := rs_Ax _ rfl (by omega)
    obtain ⟨k1, k2, k3, k4⟩ := ok
    refine br_f (nI_ge hkt (by omega)) ⟨pk_in k 49 (by omega), nm_r eo ⟨pk_in (rs_po kd vl en k) 48 (by omega), ?_⟩⟩
    rw [ek]
    refine pk_eq (kd (rs_po kd vl en k)) 5 (fun h5 => ?_) fun h5 => ⟨pk_in (rs_po kd vl en k) 48 (by omega), pk_eq (kd (rs_po kd vl en k)) 11 (fun h11 => ?_) fun h11 => ?_⟩
    · obtain ⟨v1, v2⟩ := g5 h5
      have a1 : rs_dp kd vl en ws (rs_po kd vl en k) (rs_po kd vl en k + 1) := Or.inr (Or.inl ⟨rs_ar_6 (by omega), rfl⟩)
      have a2 : ¬ vl (rs_po kd vl en k) = 1 → ¬ vl (rs_po kd vl en k) = 2 → rs_dp kd vl en ws (rs_po kd vl en k) (en (rs_po kd vl en k + 1)) := fun n1 n2 => Or.inr (Or.inr (Or.inl ⟨rs_ar_2 h5 n1 n2 v1, rfl⟩))
      have a3 : vl (rs_po kd vl en k) = 11 → rs_dp kd vl en ws (rs_po kd vl en k) (en (en (rs_po kd vl en k + 1))) := fun n => Or.inr (Or.inr (Or.inr ⟨rs_ar_3 h5 n, rfl⟩))
      have s2 : ¬ vl (rs_po kd vl en k) = 1 → ¬ vl (rs_po kd vl en k) = 2 → so (rs_po kd vl en k) = en (rs_po kd vl en k + 1) := fun n1 n2 => f2 (rs_ar_2 h5 n1 n2 v1)
      have s3 : vl (rs_po kd vl en k) = 11 → to (rs_po kd vl en k) = en (en (rs_po kd vl en k + 1)) := fun n => f3 (rs_ar_3 h5 n)
      refine xb_op (p := rs_po kd vl en k + 1) (q := so (rs_po kd vl en k)) (r := to (rs_po kd vl en k)) J.2.1 (by omega) (hlt _ a1).1 b2 b3 (hlt _ a1).2.1 rfl v1 v2 (fun n1 n2 => by rw [s2 n1 n2]; exact (hlt _ (a2 n1 n2)).2.1) (fun n => by rw [s3 n]; exact (hlt _ (a3 n)).2.1) (f1 (rs_ar_6 (by omega))) rfl rfl hn (hlt _ a1).2.2 (fun n1 n2 => by rw [s2 n1 n2]; exact (hlt _ (a2 n1 n2)).2.2) (fun n => by rw [s3 n]; exact (hlt _ (a3 n)).2.2) fun nc' gl' gr' tb' S => ?_
      exact nm_r (nI_1 k) (ih (k + 1) nc' gl' gr' tb' fs (by omega) (rs_J_s P hkt J (by omega) S (fun ip rg R L hB hS hb hL hd => rs_W_op P p5 h5 s2 s3 hS hd) D))
    · have ar : rs_ar (kd (rs_po kd vl en k)) (vl (rs_po kd vl en k)) = 2 := by rw [h11]; rfl
      have a1 : rs_dp kd vl en ws (rs_po kd vl en k) (rs_po kd vl en k + 1) := Or.inr (Or.inl ⟨by rw [ar]; decide, rfl⟩)
      have a2 : rs_dp kd vl en ws (rs_po kd vl en k) (en (rs_po kd vl en k + 1)) := Or.inr (Or.inr (Or.inl ⟨by rw [ar]; decide, rfl⟩))
      have v8 := g8 (by omega) (by omega)
      refine xb_reg J.2.1 (by omega) (hlt _ a1).1 (hlt _ a2).1 v8 (f1 (by rw [ar]; decide)) (f2 (by rw [ar]; decide)) rfl hn (hlt _ a1).2.2 (hlt _ a2).2.2 (J.2.2.2.1 _ v8) fun nc' gl' gr' fs' S => ?_
      exact nm_r (nI_1 k) (ih (k + 1) nc' gl' gr' tb fs' (by omega) (rs_J_r P hkt J h11 S D))
    · have e6 : 6 ≤ kd (rs_po kd vl en k) → fo (rs_po kd vl en k) = rs_po kd vl en k + 1 := fun h => f1 (rs_ar_6 (by omega))
      have a1 : 6 ≤ kd (rs_po kd vl en k) → rs_dp kd vl en ws (rs_po kd vl en k) (rs_po kd vl en k + 1) := fun h => Or.inr (Or.inl ⟨rs_ar_6 (by omega), rfl⟩)
      refine xb_rt J.2.1 (by omega) rfl rfl (by omega) g2 (fun h => g8 h (by omega)) g1 b1 (fun h => by rw [e6 h]; omega) (fun h => hlt _ (Or.inl ⟨h, rfl⟩)) (fun h => by rw [e6 h]; exact (hlt _ (a1 h)).2.2) fun tb' S => ?_
      exact nm_r (nI_1 k) (ih (k + 1) nc gl gr tb' fs (by omega) (rs_J_s P hkt J (by omega) S (fun ip rg R L hB hS hb hL hd => rs_W_rt P p5 h5 e6 hS hb hd) D))
theorem xc_flops {post : SX → Prop} (H : ∀ fs', (∀ f, f < 64 → fs' f = 2 * (33 + f)) → ∃ n, wX_buildGates_34 post n 0 (nI lim) (nI cnt) (nI ned) (nI op) (nI cp) cy (nI nc) (rs_A kd) (rs_A vl) (rs_A rg) (rs_A ip) (rs_A wdf) (rs_A odf) (rs_A ws) (rs_A ost) (rs_A fo) (rs_A so) (rs_A to) (rs_A en) (rs_A ord) (rs_A res) (rs_A gl) (rs_A gr) (rs_A fs') (rs_A tb) (rs_AB L)) : ∀ d j fs, j + d = 64 → (∀ f, f < j → fs f = 2 * (33 + f)) → wX_buildGates_8 post (nI lim) (nI cnt) (nI ned) (nI op) (nI cp) cy (nI nc) (d + 1) (nI j) (rs_A kd) (rs_A vl) (rs_A rg) (rs_A ip) (rs_A wdf) (rs_A odf) (rs_A ws) (rs_A ost) (rs_A fo) (rs_A so) (rs_A to) (rs_A en) (rs_A ord) (rs_A res) (rs_A gl) (rs_A gr) (rs_A fs) (rs_A tb) (rs_AB L) := by
  intro d
  induction d with
  | zero =>
    intro j fs hj h
    have e : j = 64 := by omega
    subst e
    exact br_t (nI_le (b := 64) (Nat.le_refl 64) (by decide)) (H fs h)
  | succ d ih =>
    intro j fs hj h
    have e : upd (rs_A fs) (nI j).toNatClampNeg (2 * (33 + nI j)) = rs_A (rs_u fs j (2 * (33 + j))) := by
      rw [show 33 + nI j = nI (33 + j) from nI_add 33 j, show 2 * nI (33 + j) = nI (2 * (33 + j)) from pk_mul 2 _, nI_clamp (by omega)]
      exact rs_upd _ _ _
    refine br_f (nI_ge (b := 64) (by omega) (by decide)) ⟨pk_in j 64 (by omega), nm_r e (nm_r (nI_1 j) (ih (j + 1) _ (by omega) fun f hf => ?_))⟩
    rcases Nat.lt_or_ge f j with q | q
    · rw [rs_un (by omega)]; exact h f q
    · have e2 : f = j := by omega
      rw [e2, rs_us]
theorem xc_gates {post : SX → Prop} (P : rs_Pg kd vl en ws cnt) (hc : cnt ≤ 48) (hF : ∀ i, i < cnt → rs_LF kd vl en fo so to i) (hb : ∀ x, fo x ≤ 48 ∧ so x ≤ 48 ∧ to x ≤ 48) (ho : ∀ k, k < cnt → ord k = rs_po kd vl en k) (hw : ∀ i, i < cnt → kd i = 4 → kd (ws (vl i)) = 9) (H : ∀ nc' gl' gr' tb' fs', rs_J kd vl en ws cnt cnt nc' gl' gr' tb' fs' → post ((nI lim), (nI cnt), (nI ned), (nI op), (nI cp), cy, (nI nc'), (rs_A kd), (rs_A vl), (rs_A rg), (rs_A ip), (rs_A wdf), (rs_A odf), (rs_A ws), (rs_A ost), (rs_A fo), (rs_A so), (rs_A to), (rs_A en), (rs_A ord), (rs_A res), (rs_A gl'), (rs_A gr'), (rs_A fs'), (rs_A tb'), (rs_AB L))) : wpX_buildGates post ((nI lim), (nI cnt), (nI ned), (nI op), (nI cp), cy, (nI nc), (rs_A kd), (rs_A vl), (rs_A rg), (rs_A ip), (rs_A wdf), (rs_A odf), (rs_A ws), (rs_A ost), (rs_A fo), (rs_A so), (rs_A to), (rs_A en), (rs_A ord), (rs_A res), (rs_A gl), (rs_A gr), (rs_A fs), (rs_A tb), (rs_AB L)) :=
  ⟨65, xc_flops (nc := 97) (fun fs' hf => ⟨cnt + 1, xc_gates_l P hc hF hb ho hw H cnt 0 97 gl gr tb fs' (by omega) (rs_J_0 P hf)⟩) 64 0 fs rfl fun f hf => by omega⟩
end

/-! what is owed of the calls that answer -/
theorem i_vc_getRegister {k : Nat} {u : SX} {v : SY} (I : i_Rel k u v) (hk : k + 3 ≤ 1537) (v1 : Int32) : wpX_getRegister (fun r => wpY_getRegister (fun r' => r' = r ∧ i_Rel (k + 3) u v) v v1) u v1 := by
  have I' := I
  obtain ⟨lim, cnt, ned, op, cp, nc, okd, oix, cy, kd, vl, rg, ip, wdf, odf, ws, ost, fo, so, to, en, ord, res, gl, gr, fs, tb, wv, st, nx, L, rfl, rfl, h⟩ := I
  rcases pk_ix v1 (n := 8) (by decide) with z | z | ⟨p, hp, rfl⟩
  · exact br_t z (br_t z ⟨rfl, I'⟩)
  · have a : ¬ v1 < 0 := Int32.not_lt.mpr (Int32.le_trans (by decide) z)
    have b : ¬ v1 < 8 := Int32.not_lt.mpr z
    have c : ¬ v1 ≤ 7 := fun y => absurd (Int32.le_trans z y) (by decide)
    exact br_f a (br_f b (br_f a (br_f c ⟨rfl, I'⟩)))
  · have a : ¬ nI p < 0 := nI_pos (by omega)
    have b : nI p < 8 := nI_lt (b := 8) hp (by decide)
    have c : nI p ≤ 7 := nI_le (b := 7) (by omega) (by decide)
    exact br_f a (br_t b ⟨pk_in p 8 hp, br_f a (br_t c ⟨pk_in p 8 hp, rfl, I'⟩)⟩)
theorem i_vc_getInput {k : Nat} {u : SX} {v : SY} (I : i_Rel k u v) (hk : k + 3 ≤ 1537) (v1 : Int32) : wpX_getInput (fun r => wpY_getInput (fun r' => r' = r ∧ i_Rel (k + 3) u v) v v1) u v1 := by
  have I' := I
  obtain ⟨lim, cnt, ned, op, cp, nc, okd, oix, cy, kd, vl, rg, ip, wdf, odf, ws, ost, fo, so, to, en, ord, res, gl, gr, fs, tb, wv, st, nx, L, rfl, rfl, h⟩ := I
  rcases pk_ix v1 (n := 4) (by decide) with z | z | ⟨p, hp, rfl⟩
  · exact br_t z (br_t z ⟨rfl, I'⟩)
  · have a : ¬ v1 < 0 := Int32.not_lt.mpr (Int32.le_trans (by decide) z)
    have b : ¬ v1 < 4 := Int32.not_lt.mpr z
    have c : ¬ v1 ≤ 3 := fun y => absurd (Int32.le_trans z y) (by decide)
    exact br_f a (br_f b (br_f a (br_f c ⟨rfl, I'⟩)))
  · have a : ¬ nI p < 0 := nI_pos (by omega)
    have b : nI p < 4 := nI_lt (b := 4) hp (by decide)
    have c : nI p ≤ 3 := nI_le (b := 3) (by omega) (by decide)
    exact br_f a (br_t b ⟨pk_in p 4 hp, br_f a (br_t c ⟨pk_in p 4 hp, rfl, I'⟩)⟩)
theorem i_vc_getWire {k : Nat} {u : SX} {v : SY} (I : i_Rel k u v) (hk : k + 3 ≤ 1537) (v1 : Int32) : wpX_getWire (fun r u' => wpY_getWire (fun r' v' => r' = r ∧ i_Rel (k + 3) u' v') v v1) u v1 := by
  obtain ⟨lim, cnt, ned, op, cp, nc, okd, oix, cy, kd, vl, rg, ip, wdf, odf, ws, ost, fo, so, to, en, ord, res, gl, gr, fs, tb, wv, st, nx, L, rfl, rfl, h⟩ := I
  have h' := h
  obtain ⟨hl, hc, hn, T, T4, hB, hres, hL0, hfo, hop, hcp⟩ := h
  rcases pk_ix v1 (n := 8) (by decide) with z | z | ⟨w, hw, rfl⟩
  · exact br_t z (br_t z ⟨rfl, rs_mk h'⟩)
  · have a : ¬ v1 < 0 := Int32.not_lt.mpr (Int32.le_trans (by decide) z)
    have c : 7 < v1 := Int32.lt_of_lt_of_le (by decide) z
    exact br_f a (br_t z (br_f a (br_t c ⟨rfl, rs_mk h'⟩)))
  have a : ¬ nI w < 0 := nI_pos (by omega)
  have b : ¬ (8 : Int32) ≤ nI w := xa_8f hw
  have c : ¬ (7 : Int32) < nI w := nI_nlt (a := 7) (by omega) (by decide)
  rcases hcp with z | ⟨z, z0, C⟩
  · subst z
    exact br_f a (br_f b (br_t rfl (br_f a (br_f c (br_t rfl ⟨rfl, rs_mk h'⟩)))))
  subst z
  have i8 : vp_in (nI w) 8 := pk_in w 8 hw
  have ew : rs_A wdf (nI w).toNatClampNeg = nI (wdf w) := rs_Ax w rfl (by omega)
  refine br_f a (br_f b (br_f (by decide) ⟨i8, ?_⟩))
  rcases T.2.1.1 w with y | y
  · have e : rs_A wdf (nI w).toNatClampNeg = 0 := by rw [ew, y]; rfl
    exact br_t e (br_f a (br_f c (br_f (by decide) ⟨i8, br_t e ⟨rfl, rs_mk h'⟩⟩)))
  · have e : ¬ rs_A wdf (nI w).toNatClampNeg = 0 := by rw [ew, y]; decide
    have D := rs_T_Wd T T4 z0
    have wl := (D.1 w y).1
    have es : rs_A ws (nI w).toNatClampNeg = nI (ws w) := rs_Ax w rfl (by omega)
    refine br_f e (xo_int (by omega) C hB hres fun R hS hR => ?_)
    have er : rs_A R (rs_A ws (nI w).toNatClampNeg).toNatClampNeg = nI (R (ws w)) := rs_Ax _ es (by omega)
    refine ⟨i8, by rw [es]; exact vp_in_nI (by omega) (by decide), ?_⟩
    refine br_f a (br_f c (br_f (by decide) ⟨i8, br_f e (ye_wires C.1 (by omega) D hS (fun i _ => hR i) fun st' wv' hW => ⟨i8, ?_, rs_mk ⟨hl, hc, hn, T, T4, hB, hR, hL0, hfo, hop, Or.inr ⟨rfl, z0, C⟩⟩⟩)⟩))
    rw [er, rs_Ax w rfl (by omega), hW w y]
theorem i_vc_getOutput {k : Nat} {u : SX} {v : SY} (I : i_Rel k u v) (hk : k + 3 ≤ 1537) (v1 : Int32) : wpX_getOutput (fun r u' => wpY_getOutput (fun r' v' => r' = r ∧ i_Rel (k + 3) u' v') v v1) u v1 := by
  obtain ⟨lim, cnt, ned, op, cp, nc, okd, oix, cy, kd, vl, rg, ip, wdf, odf, ws, ost, fo, so, to, en, ord, res, gl, gr, fs, tb, wv, st, nx, L, rfl, rfl, h⟩ := I
  have h' := h
  obtain ⟨hl, hc, hn, T, T4, hB, hres, hL0, hfo, hop, hcp⟩ := h
  rcases pk_ix v1 (n := 4) (by decide) with z | z | ⟨w, hw, rfl⟩
  · exact br_t z (br_t z ⟨rfl, rs_mk h'⟩)
  · have a : ¬ v1 < 0 := Int32.not_lt.mpr (Int32.le_trans (by decide) z)
    have c : 3 < v1 := Int32.lt_of_lt_of_le (by decide) z
    exact br_f a (br_t z (br_f a (br_t c ⟨rfl, rs_mk h'⟩)))
  have a : ¬ nI w < 0 := nI_pos (by omega)
  have b : ¬ (4 : Int32) ≤ nI w := nI_ge (b := 4) hw (by decide)
  have c : ¬ (3 : Int32) < nI w := nI_nlt (a := 3) (by omega) (by decide)
  rcases hcp with z | ⟨z, z0, C⟩
  · subst z
    exact br_f a (br_f b (br_t rfl (br_f a (br_f c (br_t rfl ⟨rfl, rs_mk h'⟩)))))
  subst z
  have i8 : vp_in (nI w) 4 := pk_in w 4 hw
  have ew : rs_A odf (nI w).toNatClampNeg = nI (odf w) := rs_Ax w rfl (by omega)
  refine br_f a (br_f b (br_f (by decide) ⟨i8, ?_⟩))
  rcases T.2.1.2.1 w with y | y
  · have e : rs_A odf (nI w).toNatClampNeg = 0 := by rw [ew, y]; rfl
    exact br_t e (br_f a (br_f c (br_f (by decide) ⟨i8, br_t e ⟨rfl, rs_mk h'⟩⟩)))
  · have e : ¬ rs_A odf (nI w).toNatClampNeg = 0 := by rw [ew, y]; decide
    have D := rs_T_Wd T T4 z0
    obtain ⟨o1, o2, o3⟩ := T.2.1.2.2.2 w y
    have hU : ∀ i, i < cnt → kd i = 10 → ost (vl i) = i := fun i hi h10 => (T4.2 i hi h10).elim (fun q => q.2) fun q => by have := q.2; omega
    have es : rs_A ost (nI w).toNatClampNeg = nI (ost w) := rs_Ax w rfl (by omega)
    refine br_f e (xo_int (by omega) C hB hres fun R hS hR => ?_)
    have er : rs_A R (rs_A ost (nI w).toNatClampNeg).toNatClampNeg = nI (R (ost w)) := rs_Ax _ es (by omega)
    refine ⟨i8, by rw [es]; exact vp_in_nI (by omega) (by decide), ?_⟩
    refine br_f a (br_f c (br_f (by decide) ⟨i8, br_f e (ye_wires C.1 (by omega) D hS (fun i _ => hR i) fun st' wv' hW => ⟨cnt + 1, ?_⟩)⟩))
    refine ye_o_l hw C.1 (by omega) hS (fun i _ => hR i) (fun i hi h4 => hW _ (D.2.2 i hi h4)) o1 o2 o3 hU (fun st'' => ⟨er.symm, rs_mk ⟨hl, hc, hn, T, T4, hB, hR, hL0, hfo, hop, Or.inr ⟨rfl, z0, C⟩⟩⟩) cnt 0 (by omega) (Nat.zero_le _)
theorem i_vc_getNext {k : Nat} {u : SX} {v : SY} (I : i_Rel k u v) (hk : k + 3 ≤ 1537) (v1 : Int32) : wpX_getNext (fun r u' => wpY_getNext (fun r' v' => r' = r ∧ i_Rel (k + 3) u' v') v v1) u v1 := by
  obtain ⟨lim, cnt, ned, op, cp, nc, okd, oix, cy, kd, vl, rg, ip, wdf, odf, ws, ost, fo, so, to, en, ord, res, gl, gr, fs, tb, wv, st, nx, L, rfl, rfl, h⟩ := I
  have h' := h
  obtain ⟨hl, hc, hn, T, T4, hB, hres, hL0, hfo, hop, hcp⟩ := h
  rcases pk_ix v1 (n := 8) (by decide) with z | z | ⟨w, hw, rfl⟩
  · exact br_t z (br_t z ⟨rfl, rs_mk h'⟩)
  · have a : ¬ v1 < 0 := Int32.not_lt.mpr (Int32.le_trans (by decide) z)
    have c : 7 < v1 := Int32.lt_of_lt_of_le (by decide) z
    exact br_f a (br_t z (br_f a (br_t c ⟨rfl, rs_mk h'⟩)))
  have a : ¬ nI w < 0 := nI_pos (by omega)
  have b : ¬ (8 : Int32) ≤ nI w := xa_8f hw
  have c : ¬ (7 : Int32) < nI w := nI_nlt (a := 7) (by omega) (by decide)
  rcases hcp with z | ⟨z, z0, C⟩
  · subst z
    exact br_f a (br_f b (br_t rfl (br_f a (br_f c (br_t rfl ⟨rfl, rs_mk h'⟩)))))
  subst z
  have D := rs_T_Wd T T4 z0
  refine br_f a (br_f b (br_f (by decide) (xo_int (by omega) C hB hres fun R hS hR => ?_)))
  refine xo_next (rg0 := rg) hw rfl (by omega) C hR ?_
  exact br_f a (br_f c (br_f (by decide) (ye_next hw C.1 (by omega) D hS (fun i _ => hR i) fun st' wv' => ⟨rfl, rs_mk ⟨hl, hc, hn, T, T4, hB, hR, hL0, hfo, hop, Or.inr ⟨rfl, z0, C⟩⟩⟩)))
theorem i_vc_getTokenCount {k : Nat} {u : SX} {v : SY} (I : i_Rel k u v) (hk : k + 3 ≤ 1537) : wpX_getTokenCount (fun r => wpY_getTokenCount (fun r' => r' = r ∧ i_Rel (k + 3) u v) v) u := by
  have I' := I
  obtain ⟨lim, cnt, ned, op, cp, nc, okd, oix, cy, kd, vl, rg, ip, wdf, odf, ws, ost, fo, so, to, en, ord, res, gl, gr, fs, tb, wv, st, nx, L, rfl, rfl, h⟩ := I
  exact ⟨rfl, I'⟩
theorem i_vc_getNeed {k : Nat} {u : SX} {v : SY} (I : i_Rel k u v) (hk : k + 3 ≤ 1537) : wpX_getNeed (fun r => wpY_getNeed (fun r' => r' = r ∧ i_Rel (k + 3) u v) v) u := by
  have I' := I
  obtain ⟨lim, cnt, ned, op, cp, nc, okd, oix, cy, kd, vl, rg, ip, wdf, odf, ws, ost, fo, so, to, en, ord, res, gl, gr, fs, tb, wv, st, nx, L, rfl, rfl, h⟩ := I
  exact ⟨rfl, I'⟩
theorem i_vc_isCompiled {k : Nat} {u : SX} {v : SY} (I : i_Rel k u v) (hk : k + 3 ≤ 1537) : wpX_isCompiled (fun r => wpY_isCompiled (fun r' => r' = r ∧ i_Rel (k + 3) u v) v) u := by
  have I' := I
  obtain ⟨lim, cnt, ned, op, cp, nc, okd, oix, cy, kd, vl, rg, ip, wdf, odf, ws, ost, fo, so, to, en, ord, res, gl, gr, fs, tb, wv, st, nx, L, rfl, rfl, h⟩ := I
  have h' := h
  obtain ⟨hl, hc, hn, T, T4, hB, hres, hL0, hfo, hop, hcp⟩ := h
  have e : narrow .boolean (.int (nI cp)) = .int (nI cp) := by
    rcases hcp with z | ⟨z, _⟩ <;> subst z <;> rfl
  exact ⟨e, e, rfl, I'⟩
theorem i_vc_getCycles {k : Nat} {u : SX} {v : SY} (I : i_Rel k u v) (hk : k + 3 ≤ 1537) : wpX_getCycles (fun r => wpY_getCycles (fun r' => r' = r ∧ i_Rel (k + 3) u v) v) u := by
  have I' := I
  obtain ⟨lim, cnt, ned, op, cp, nc, okd, oix, cy, kd, vl, rg, ip, wdf, odf, ws, ost, fo, so, to, en, ord, res, gl, gr, fs, tb, wv, st, nx, L, rfl, rfl, h⟩ := I
  exact ⟨rfl, I'⟩

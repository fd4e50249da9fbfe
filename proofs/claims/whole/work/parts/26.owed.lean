/-! what is owed of the other calls -/
theorem i_vc_compile {k : Nat} {u : SX} {v : SY} (I : i_Rel k u v) (hk : k + 3 ≤ 1537) : wpX_compile (fun r u' => wpY_compile (fun r' v' => r' = r ∧ i_Rel (k + 3) u' v') v) u := by
  obtain ⟨lim, cnt, ned, op, cp, nc, okd, oix, cy, kd, vl, rg, ip, wdf, odf, ws, ost, fo, so, to, en, ord, res, gl, gr, fs, tb, wv, st, nx, L, rfl, rfl, h⟩ := I
  have h' := h
  obtain ⟨hl, hc, hn, T, T4, hB, hres, hL0, hfo, hop, hcp⟩ := h
  have nb := rs_nd_le kd vl cnt
  rcases hcp with z | ⟨z, z0, C⟩
  · subst z
    rcases Nat.eq_zero_or_pos ned with w | w
    · subst w
      refine xc_comp (by omega) T hn.symm hfo fun fo' so' to' en' ord' nc' gl' gr' fs' tb' C => ?_
      exact br_t rfl (br_t (by decide) ⟨rfl, rs_mk ⟨hl, hc, hn, T, T4, hB, hres, hL0, C.2.2.1, hop, Or.inr ⟨rfl, hn.symm, C⟩⟩⟩)
    · have e : ¬ nI ned ≤ 0 := nI_nle w (by omega)
      exact br_t rfl (br_f e (br_t rfl (br_f e ⟨rfl, rs_mk h'⟩)))
  · subst z
    exact br_f (by decide) (br_f (by decide) ⟨rfl, rs_mk h'⟩)
theorem i_vc_setInput {k : Nat} {u : SX} {v : SY} (I : i_Rel k u v) (hk : k + 3 ≤ 1537) (v1 : Int32) (v2 : Int32) : wpX_setInput (fun r u' => wpY_setInput (fun r' v' => r' = r ∧ i_Rel (k + 3) u' v') v v1 v2) u v1 v2 := by
  obtain ⟨lim, cnt, ned, op, cp, nc, okd, oix, cy, kd, vl, rg, ip, wdf, odf, ws, ost, fo, so, to, en, ord, res, gl, gr, fs, tb, wv, st, nx, L, rfl, rfl, h⟩ := I
  have h' := h
  obtain ⟨hl, hc, hn, T, T4, hB, hres, hL0, hfo, hop, hcp⟩ := h
  rcases pk_ix v1 (n := 4) (by decide) with z | z | ⟨p, hp, rfl⟩
  · exact br_t z (br_t z ⟨rfl, rs_mk h'⟩)
  · have a : ¬ v1 < 0 := Int32.not_lt.mpr (Int32.le_trans (by decide) z)
    have b : ¬ v1 < 4 := Int32.not_lt.mpr z
    have c : ¬ v1 ≤ 3 := fun y => absurd (Int32.le_trans z y) (by decide)
    exact br_f a (br_f b (br_f a (br_f c ⟨rfl, rs_mk h'⟩)))
  · have a : ¬ nI p < 0 := nI_pos (by omega)
    have b : nI p < 4 := nI_lt (b := 4) hp (by decide)
    have c : nI p ≤ 3 := nI_le (b := 3) (by omega) (by decide)
    obtain ⟨j, hj, ej⟩ := rs_by v2
    have eu : upd (rs_A ip) (nI p).toNatClampNeg (v2 &&& 255) = rs_A (rs_u ip p j) := rs_upI p j ej (by omega)
    have hB' : rs_B (rs_u ip p j) rg := ⟨fun q => rs_it (P := fun x => x < 256) (fun _ => hj) fun _ => hB.1 q, hB.2⟩
    exact br_f a (br_t b ⟨pk_in p 4 hp, nm_r eu (br_f a (br_t c ⟨pk_in p 4 hp, nm_r eu ⟨rfl, rs_mk ⟨hl, hc, hn, T, T4, hB', hres, hL0, hfo, hop, hcp⟩⟩⟩))⟩)
theorem i_vc_setRegister {k : Nat} {u : SX} {v : SY} (I : i_Rel k u v) (hk : k + 3 ≤ 1537) (v1 : Int32) (v2 : Int32) : wpX_setRegister (fun r u' => wpY_setRegister (fun r' v' => r' = r ∧ i_Rel (k + 3) u' v') v v1 v2) u v1 v2 := by
  obtain ⟨lim, cnt, ned, op, cp, nc, okd, oix, cy, kd, vl, rg, ip, wdf, odf, ws, ost, fo, so, to, en, ord, res, gl, gr, fs, tb, wv, st, nx, L, rfl, rfl, h⟩ := I
  have h' := h
  obtain ⟨hl, hc, hn, T, T4, hB, hres, hL0, hfo, hop, hcp⟩ := h
  rcases pk_ix v1 (n := 8) (by decide) with z | z | ⟨p, hp, rfl⟩
  · exact br_t z (br_t z ⟨rfl, rs_mk h'⟩)
  · have a : ¬ v1 < 0 := Int32.not_lt.mpr (Int32.le_trans (by decide) z)
    have b : ¬ v1 < 8 := Int32.not_lt.mpr z
    have c : ¬ v1 ≤ 7 := fun y => absurd (Int32.le_trans z y) (by decide)
    exact br_f a (br_f b (br_f a (br_f c ⟨rfl, rs_mk h'⟩)))
  · have a : ¬ nI p < 0 := nI_pos (by omega)
    have b : nI p < 8 := nI_lt (b := 8) hp (by decide)
    have c : nI p ≤ 7 := nI_le (b := 7) (by omega) (by decide)
    obtain ⟨j, hj, ej⟩ := rs_by v2
    have eu : upd (rs_A rg) (nI p).toNatClampNeg (v2 &&& 255) = rs_A (rs_u rg p j) := rs_upI p j ej (by omega)
    have hB' : rs_B ip (rs_u rg p j) := ⟨hB.1, fun q => rs_it (P := fun x => x < 256) (fun _ => hj) fun _ => hB.2 q⟩
    exact br_f a (br_t b ⟨pk_in p 8 hp, nm_r eu (br_f a (br_t c ⟨pk_in p 8 hp, nm_r eu ⟨rfl, rs_mk ⟨hl, hc, hn, T, T4, hB', hres, hL0, hfo, hop, hcp⟩⟩⟩))⟩)
theorem i_vc_clock {k : Nat} {u : SX} {v : SY} (I : i_Rel k u v) (hk : k + 3 ≤ 1537) (v1 : Int32) (v2 : Int32) : wpX_clock (fun r u' => wpY_clock (fun r' v' => r' = r ∧ i_Rel (k + 3) u' v') v v1 v2) u v1 v2 := by
  obtain ⟨lim, cnt, ned, op, cp, nc, okd, oix, cy, kd, vl, rg, ip, wdf, odf, ws, ost, fo, so, to, en, ord, res, gl, gr, fs, tb, wv, st, nx, L, rfl, rfl, h⟩ := I
  have h' := h
  obtain ⟨hl, hc, hn, T, T4, hB, hres, hL0, hfo, hop, hcp⟩ := h
  rcases hcp with z | ⟨z, z0, C⟩
  · subst z
    exact br_t rfl (br_t rfl ⟨rfl, rs_mk h'⟩)
  subst z
  have D := rs_T_Wd T T4 z0
  by_cases hm : v1 = 0 ∨ v1 = 1
  case neg =>
    have m0 : ¬ v1 = 0 := fun y => hm (Or.inl y)
    have m1 : ¬ v1 = 1 := fun y => hm (Or.inr y)
    exact br_f (by decide) (br_f m0 (br_f m1 (br_f (by decide) (br_f m0 (br_f m1 ⟨rfl, rs_mk h'⟩)))))
  have XM : ∀ post : Int32 → SX → Prop, wX_clock_22 post v1 v2 (nI lim) (nI cnt) (nI ned) (nI op) (nI 1) cy (nI nc) (rs_A kd) (rs_A vl) (rs_A rg) (rs_A ip) (rs_A wdf) (rs_A odf) (rs_A ws) (rs_A ost) (rs_A fo) (rs_A so) (rs_A to) (rs_A en) (rs_A ord) (rs_A res) (rs_A gl) (rs_A gr) (rs_A fs) (rs_A tb) (rs_AB L) → wpX_clock post ((nI lim), (nI cnt), (nI ned), (nI op), (nI 1), cy, (nI nc), (rs_A kd), (rs_A vl), (rs_A rg), (rs_A ip), (rs_A wdf), (rs_A odf), (rs_A ws), (rs_A ost), (rs_A fo), (rs_A so), (rs_A to), (rs_A en), (rs_A ord), (rs_A res), (rs_A gl), (rs_A gr), (rs_A fs), (rs_A tb), (rs_AB L)) v1 v2 := fun post W => by
    refine br_f (by decide) (br_c (fun _ => W) fun m0 => br_t ?_ W)
    exact hm.elim (fun y => absurd y m0) id
  have YM : ∀ post : Int32 → SY → Prop, wY_clock_22 post v2 (nI lim) (nI cnt) (nI ned) (nI okd) (nI oix) (nI 1) cy (rs_A kd) (rs_A vl) (rs_A rg) (rs_A ip) (rs_A wv) (rs_A wdf) (rs_A odf) (rs_A st) (rs_A nx) → wpY_clock post ((nI lim), (nI cnt), (nI ned), (nI okd), (nI oix), (nI 1), cy, (rs_A kd), (rs_A vl), (rs_A rg), (rs_A ip), (rs_A wv), (rs_A wdf), (rs_A odf), (rs_A st), (rs_A nx)) v1 v2 := fun post W => by
    refine br_f (by decide) (br_c (fun _ => W) fun m0 => br_t ?_ W)
    exact hm.elim (fun y => absurd y m0) id
  refine XM _ ?_
  by_cases h1 : v2 < 1
  · exact br_t h1 (YM _ (br_t h1 ⟨rfl, rs_mk h'⟩))
  by_cases h8 : v2 ≤ 8
  case neg => exact br_f h1 (br_f h8 (YM _ (br_f h1 (br_f h8 ⟨rfl, rs_mk h'⟩))))
  have hp : ¬ v2 < 0 := fun y => h1 (Int32.lt_of_lt_of_le y (by decide))
  obtain ⟨cyc, hcy, rfl⟩ := nI_of hp
  have c8 : cyc ≤ 8 := (nI_leI (b := 8) hcy (by decide)).mp h8
  refine br_f h1 (br_t h8 ⟨cyc + 1, ?_⟩)
  refine xo_clk_l (rg := rg) (cy := cy) c8 (by omega) C (fun res' L' hr' hL' hB' => ?_) cyc 0 res L (by omega) hres hL0 hB
  refine YM _ (br_f h1 (br_t h8 ⟨cyc + 1, ?_⟩))
  have W := ye_clk (lim := lim) (ned := ned) (okd := okd) (oix := oix) (cp := 1) (odf := odf) (cy0 := cy) (rg := rg) (ip := ip) (post := fun r' v' => r' = 0 ∧ i_Rel (k + 3) ((nI lim), (nI cnt), (nI ned), (nI op), (nI 1), (cy + nI cyc), (nI nc), (rs_A kd), (rs_A vl), (rs_A (rs_NN kd vl en ws ip cnt rg cyc)), (rs_A ip), (rs_A wdf), (rs_A odf), (rs_A ws), (rs_A ost), (rs_A fo), (rs_A so), (rs_A to), (rs_A en), (rs_A ord), (rs_A res'), (rs_A gl), (rs_A gr), (rs_A fs), (rs_A tb), (rs_AB L')) v') c8 C.1 (by omega) D (fun wv' st' nx' => ⟨rfl, rs_mk ⟨hl, hc, hn, T, T4, hB', hr', hL', hfo, hop, Or.inr ⟨rfl, z0, C⟩⟩⟩) cyc 0 wv st nx (by omega) hB
  rw [nI_0, Int32.add_zero] at W
  exact W
def rs_z (rg : Nat → Nat) (j : Nat) : Nat → Nat := fun r => if r < j then 0 else rg r
theorem rs_z_0 (rg : Nat → Nat) : rs_z rg 0 = rg := funext fun r => if_neg (by omega)
theorem rs_z_s (rg : Nat → Nat) (j : Nat) : rs_u (rs_z rg j) j 0 = rs_z rg (j + 1) := by
  funext r
  unfold rs_u rs_z
  by_cases h : r = j
  · rw [if_pos h, if_pos (by omega)]
  · rw [if_neg h]
    exact rs_ite_i (by omega)
section
variable {lim cnt ned op cp nc : Nat} {cy : Int32} {kd vl rg ip wdf odf ws ost fo so to en ord res gl gr fs tb : Nat → Nat} {L : Nat → Bool}
variable {okd oix : Nat} {wv st nx : Nat → Nat}
theorem xr_l {post : SX → Prop} (H : post ((nI lim), (nI cnt), (nI ned), (nI op), (nI cp), 0, (nI nc), (rs_A kd), (rs_A vl), (rs_A (rs_z rg 8)), (rs_A ip), (rs_A wdf), (rs_A odf), (rs_A ws), (rs_A ost), (rs_A fo), (rs_A so), (rs_A to), (rs_A en), (rs_A ord), (rs_A res), (rs_A gl), (rs_A gr), (rs_A fs), (rs_A tb), (rs_AB L))) : ∀ d j, j + d = 8 → wX_reset_2 post (nI lim) (nI cnt) (nI ned) (nI op) (nI cp) cy (nI nc) (d + 1) (nI j) (rs_A kd) (rs_A vl) (rs_A (rs_z rg j)) (rs_A ip) (rs_A wdf) (rs_A odf) (rs_A ws) (rs_A ost) (rs_A fo) (rs_A so) (rs_A to) (rs_A en) (rs_A ord) (rs_A res) (rs_A gl) (rs_A gr) (rs_A fs) (rs_A tb) (rs_AB L) := by
  intro d
  induction d with
  | zero =>
    intro j hj
    have e : j = 8 := by omega
    subst e
    exact br_t xa_8t H
  | succ d ih =>
    intro j hj
    have eu : upd (rs_A (rs_z rg j)) (nI j).toNatClampNeg 0 = rs_A (rs_z rg (j + 1)) := by rw [← rs_z_s]; exact rs_upI j 0 rfl (by omega)
    exact br_f (xa_8f (by omega)) ⟨pk_in j 8 (by omega), nm_r eu (nm_r (nI_1 j) (ih (j + 1) (by omega)))⟩
theorem yr_l {post : SY → Prop} (H : post ((nI lim), (nI cnt), (nI ned), (nI okd), (nI oix), (nI cp), 0, (rs_A kd), (rs_A vl), (rs_A (rs_z rg 8)), (rs_A ip), (rs_A wv), (rs_A wdf), (rs_A odf), (rs_A st), (rs_A nx))) : ∀ d j, j + d = 8 → wY_reset_2 post (nI lim) (nI cnt) (nI ned) (nI okd) (nI oix) (nI cp) cy (d + 1) (nI j) (rs_A kd) (rs_A vl) (rs_A (rs_z rg j)) (rs_A ip) (rs_A wv) (rs_A wdf) (rs_A odf) (rs_A st) (rs_A nx) := by
  intro d
  induction d with
  | zero =>
    intro j hj
    have e : j = 8 := by omega
    subst e
    exact br_t xa_8t H
  | succ d ih =>
    intro j hj
    have eu : upd (rs_A (rs_z rg j)) (nI j).toNatClampNeg 0 = rs_A (rs_z rg (j + 1)) := by rw [← rs_z_s]; exact rs_upI j 0 rfl (by omega)
    exact br_f (xa_8f (by omega)) ⟨pk_in j 8 (by omega), nm_r eu (nm_r (nI_1 j) (ih (j + 1) (by omega)))⟩
theorem xr_a {post : SX → Prop} (H : post ((nI lim), (nI cnt), (nI ned), (nI op), (nI cp), 0, (nI nc), (rs_A kd), (rs_A vl), (rs_A (rs_z rg 8)), (rs_A ip), (rs_A wdf), (rs_A odf), (rs_A ws), (rs_A ost), (rs_A fo), (rs_A so), (rs_A to), (rs_A en), (rs_A ord), (rs_A res), (rs_A gl), (rs_A gr), (rs_A fs), (rs_A tb), (rs_AB L))) : wpX_reset post ((nI lim), (nI cnt), (nI ned), (nI op), (nI cp), cy, (nI nc), (rs_A kd), (rs_A vl), (rs_A rg), (rs_A ip), (rs_A wdf), (rs_A odf), (rs_A ws), (rs_A ost), (rs_A fo), (rs_A so), (rs_A to), (rs_A en), (rs_A ord), (rs_A res), (rs_A gl), (rs_A gr), (rs_A fs), (rs_A tb), (rs_AB L)) := by
  have W := xr_l (cy := cy) H 8 0 rfl
  rw [rs_z_0] at W
  exact ⟨9, W⟩
theorem yr_a {post : SY → Prop} (H : post ((nI lim), (nI cnt), (nI ned), (nI okd), (nI oix), (nI cp), 0, (rs_A kd), (rs_A vl), (rs_A (rs_z rg 8)), (rs_A ip), (rs_A wv), (rs_A wdf), (rs_A odf), (rs_A st), (rs_A nx))) : wpY_reset post ((nI lim), (nI cnt), (nI ned), (nI okd), (nI oix), (nI cp), cy, (rs_A kd), (rs_A vl), (rs_A rg), (rs_A ip), (rs_A wv), (rs_A wdf), (rs_A odf), (rs_A st), (rs_A nx)) := by
  have W := yr_l (cy := cy) H 8 0 rfl
  rw [rs_z_0] at W
  exact ⟨9, W⟩
end
theorem i_vc_reset {k : Nat} {u : SX} {v : SY} (I : i_Rel k u v) (hk : k + 3 ≤ 1537) : wpX_reset (fun u' => wpY_reset (fun v' => i_Rel (k + 3) u' v') v) u := by
  obtain ⟨lim, cnt, ned, op, cp, nc, okd, oix, cy, kd, vl, rg, ip, wdf, odf, ws, ost, fo, so, to, en, ord, res, gl, gr, fs, tb, wv, st, nx, L, rfl, rfl, h⟩ := I
  have h' := h
  obtain ⟨hl, hc, hn, T, T4, hB, hres, hL0, hfo, hop, hcp⟩ := h
  have hB' : rs_B ip (rs_z rg 8) := ⟨hB.1, fun q => rs_it (P := fun x => x < 256) (fun _ => (by decide : (0 : Nat) < 256)) fun _ => hB.2 q⟩
  exact xr_a (yr_a (rs_mk ⟨hl, hc, hn, T, T4, hB', hres, hL0, hfo, hop, hcp⟩))

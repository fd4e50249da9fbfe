/-! what is owed of token -/
section
variable {lim cnt ned op cp nc : Nat} {cy : Int32} {kd vl rg ip wdf odf ws ost fo so to en ord res gl gr fs tb : Nat → Nat} {L : Nat → Bool}
variable {okd oix : Nat} {wv st nx : Nat → Nat}
theorem rs_mk {k : Nat} (h : rs_R lim cnt ned op cp nc okd oix kd vl rg ip wdf odf ws ost fo so to en ord res gl gr fs tb L) : i_Rel k ((nI lim), (nI cnt), (nI ned), (nI op), (nI cp), cy, (nI nc), (rs_A kd), (rs_A vl), (rs_A rg), (rs_A ip), (rs_A wdf), (rs_A odf), (rs_A ws), (rs_A ost), (rs_A fo), (rs_A so), (rs_A to), (rs_A en), (rs_A ord), (rs_A res), (rs_A gl), (rs_A gr), (rs_A fs), (rs_A tb), (rs_AB L)) ((nI lim), (nI cnt), (nI ned), (nI okd), (nI oix), (nI cp), cy, (rs_A kd), (rs_A vl), (rs_A rg), (rs_A ip), (rs_A wv), (rs_A wdf), (rs_A odf), (rs_A st), (rs_A nx)) := ⟨lim, cnt, ned, op, cp, nc, okd, oix, cy, kd, vl, rg, ip, wdf, odf, ws, ost, fo, so, to, en, ord, res, gl, gr, fs, tb, wv, st, nx, L, rfl, rfl, h⟩
theorem rs_tk {q k v : Nat} (h : rs_R lim cnt ned op cp nc okd oix kd vl rg ip wdf odf ws ost fo so to en ord res gl gr fs tb L) (ok : rs_ok k v) (hcp : cp = 0) (hlt : cnt < lim) (hs : 9 ≤ k ↔ ned = 0) (h4 : k = 4 → wdf v = 1) (h9 : k = 9 → wdf v = 0) (h10 : k = 10 → odf v = 0) {post' : Int32 → SX → Prop} {postY : (Int32 → SY → Prop) → Prop} (HY : ∀ post : Int32 → SY → Prop, wY_token_164 post (nI k) (nI v) (nI lim) (nI cnt) (nI ned) (nI okd) (nI oix) (nI cp) cy (rs_A kd) (rs_A vl) (rs_A rg) (rs_A ip) (rs_A wv) (rs_A wdf) (rs_A odf) (rs_A st) (rs_A nx) → postY post) (HX : ∀ u, postY (fun r' v' => r' = 0 ∧ i_Rel q u v') → post' 0 u) : wpX_isStatement (fun r_30 => (((r_30 = 0 → (∀ f_need : Int32, f_need = (nI ned - 1) + nI (rs_ar k v) → (wX_token_57 post' (nI k) (nI v) (nI lim) (nI cnt) (f_need) (nI op) (nI cp) cy (nI nc) (rs_A kd) (rs_A vl) (rs_A rg) (rs_A ip) (rs_A wdf) (rs_A odf) (rs_A ws) (rs_A ost) (rs_A fo) (rs_A so) (rs_A to) (rs_A en) (rs_A ord) (rs_A res) (rs_A gl) (rs_A gr) (rs_A fs) (rs_A tb) (rs_AB L)))) ∧ (¬ r_30 = 0 → (wX_token_57 post' (nI k) (nI v) (nI lim) (nI cnt) (nI (rs_ar k v)) (nI cnt) (nI cp) cy (nI nc) (rs_A kd) (rs_A vl) (rs_A rg) (rs_A ip) (rs_A wdf) (rs_A odf) (rs_A ws) (rs_A ost) (rs_A fo) (rs_A so) (rs_A to) (rs_A en) (rs_A ord) (rs_A res) (rs_A gl) (rs_A gr) (rs_A fs) (rs_A tb) (rs_AB L)))))) (nI k) := by
  subst hcp
  obtain ⟨hl, hc, hn, T, T4, hB, hres, hL0, hfo, hop, hcp⟩ := h
  subst hn
  obtain ⟨t1, t2, t3, t0⟩ := rs_T_a T ok hs h4 h9 h10
  have t4 := rs_T4_a (v := v) T4 hs
  have nb := rs_nd_le kd vl cnt
  have a3 := rs_ar3 k v
  obtain ⟨g1, g2, g5, g10, g8⟩ := rs_rng ok
  have k11 := ok.2.1
  refine xt_is k k11 ?_
  by_cases hk9 : 9 ≤ k
  · have z0 := hs.mp hk9
    have ar1 : 1 ≤ rs_ar k v := rs_ar_6 (by omega)
    rw [if_pos hk9] at t3 t4 ⊢
    refine br_f (by decide) (xt_57 (by omega) (by omega) (fun _ => ?_) fun z => by omega)
    refine HX _ (HY _ (yt_s (by omega) hk9 k11 ⟨rfl, rs_mk ⟨hl, by omega, by omega, rs_T_o t1 t2 t3, rs_T4_o t4 (by omega), hB, hres, hL0, hfo, fun _ => ?_, Or.inl rfl⟩⟩))
    rw [rs_us, rs_us]
    exact ⟨rfl, rfl⟩
  · have n1 : 1 ≤ rs_nd kd vl cnt := by
      rcases Nat.eq_zero_or_pos (rs_nd kd vl cnt) with z | z
      · exact absurd (hs.mpr z) hk9
      · exact z
    obtain ⟨e1, e2⟩ := hop n1
    have o3 := T.2.2 n1
    have q1 : rs_u kd cnt k op = kd op := rs_un (by have := o3.1; omega)
    have q2 : rs_u vl cnt v op = vl op := rs_un (by have := o3.1; omega)
    rw [if_neg hk9] at t3 t4 ⊢
    have en : nI (rs_nd kd vl cnt) - 1 + nI (rs_ar k v) = nI (rs_nd kd vl cnt - 1 + rs_ar k v) := by
      rw [show nI (rs_nd kd vl cnt) - 1 = nI (rs_nd kd vl cnt - 1) from pk_sub (b := 1) (by omega), nI_add]
    have HY' := fun (post : Int32 → SY → Prop) H1 H9 H10 H11 => HY post (yt_e (n := rs_nd kd vl cnt - 1 + rs_ar k v) (by omega) ok (by omega) n1 (by omega) rfl (by rw [e1]; exact o3.2.2.1) (by rw [e2]; exact o3.2.2.2.1) (fun h => by rw [e2]; exact (o3.2.2.2.2.2 (by rw [← e1]; exact h)).1) H1 H9 H10 H11)
    refine br_t rfl (nm_r en (xt_57 (by omega) (by omega) (fun nz => ?_) fun nz => xt_close t3 (by omega) (fun h => ?_) (fun h => ?_) fun h h' => ?_))
    · refine HX _ (HY' _ (fun _ => ⟨rfl, rs_mk ⟨hl, by omega, by omega, rs_T_o t1 t2 t3, rs_T4_o t4 (by omega), hB, hres, hL0, hfo, fun _ => ?_, Or.inl rfl⟩⟩) (fun z => absurd z nz) (fun z => absurd z nz) fun z => absurd z nz)
      rw [q1, q2]
      exact ⟨e1, e2⟩
    · have hw := rs_T_w t1 t2 t3 h (by omega)
      have hw4 := rs_T4_w (q := 1 ≤ rs_nd (rs_u kd cnt k) (rs_u vl cnt v) (cnt + 1)) t4 t3 h
      refine HX _ (HY' _ (fun z => absurd nz z) (fun _ _ => ?_) (fun _ z => ?_) fun _ z _ => ?_)
      · rw [e2, ← q2]
        exact ⟨rfl, rs_mk ⟨hl, by omega, by omega, hw, hw4, hB, hres, hL0, hfo, fun z => by omega, Or.inl rfl⟩⟩
      · rw [q1, ← e1] at h; omega
      · rw [q1, ← e1] at h; exact absurd h z
    · have hw := rs_T_q t1 t2 t3 h (by omega)
      have hw4 := rs_T4_q (q := 1 ≤ rs_nd (rs_u kd cnt k) (rs_u vl cnt v) (cnt + 1)) t4 t3 h
      refine HX _ (HY' _ (fun z => absurd nz z) (fun _ z => ?_) (fun _ _ => ?_) fun _ _ z => ?_)
      · rw [q1, ← e1] at h; omega
      · rw [e2, ← q2]
        exact ⟨rfl, rs_mk ⟨hl, by omega, by omega, hw, hw4, hB, hres, hL0, hfo, fun z => by omega, Or.inl rfl⟩⟩
      · rw [q1, ← e1] at h; exact absurd h z
    · have hw := rs_T_n (op := op) t1 t2 (by omega)
      have hw4 := rs_T4_n (q := 1 ≤ rs_nd (rs_u kd cnt k) (rs_u vl cnt v) (cnt + 1)) t4 h h'
      refine HX _ (HY' _ (fun z => absurd nz z) (fun _ z => ?_) (fun _ z => ?_) fun _ _ _ => ?_)
      · rw [q1, ← e1] at h; exact absurd z h
      · rw [q1, ← e1] at h'; exact absurd z h'
      · exact ⟨rfl, rs_mk ⟨hl, by omega, by omega, hw, hw4, hB, hres, hL0, hfo, fun z => by omega, Or.inl rfl⟩⟩
end
theorem i_vc_token {k : Nat} {u : SX} {v : SY} (I : i_Rel k u v) (hk : k + 3 ≤ 1537) (v1 : Int32) (v2 : Int32) : wpX_token (fun r u' => wpY_token (fun r' v' => r' = r ∧ i_Rel (k + 3) u' v') v v1 v2) u v1 v2 := by
  obtain ⟨lim, cnt, ned, op, cp, nc, okd, oix, cy, kd, vl, rg, ip, wdf, odf, ws, ost, fo, so, to, en, ord, res, gl, gr, fs, tb, wv, st, nx, L, rfl, rfl, h⟩ := I
  have h' := h
  obtain ⟨hl, hc, hn, T, T4, hB, hres, hL0, hfo, hop, hcp⟩ := h
  have nb := rs_nd_le kd vl cnt
  obtain ⟨rr, hX, hY, hA⟩ := xt_ref (lim := lim) (cnt := cnt) (ned := ned) (op := op) (cp := cp) (cy := cy) (nc := nc) (kd := kd) (vl := vl) (rg := rg) (ip := ip) (wdf := wdf) (odf := odf) (ws := ws) (ost := ost) (fo := fo) (so := so) (to := to) (en := en) (ord := ord) (res := res) (gl := gl) (gr := gr) (fs := fs) (tb := tb) (L := L) (okd := okd) (oix := oix) (wv := wv) (st := st) (nx := nx) v1 v2 hl.2 hc (by omega) T.2.1.1 T.2.1.2.1 (hcp.imp id fun z => z.1)
  unfold wpX_token
  refine hX _ ?_
  by_cases z : rr = 0
  · subst z
    obtain ⟨kk, vv, rfl, rfl, ok, a1, a2, a3, a4, a5, a6⟩ := hA rfl
    have g := rs_rng ok
    refine br_t rfl (xt_ar kk vv rfl rfl ok.1 ok.2.1 g.1 ?_)
    exact rs_tk (q := k + 3) (cy := cy) (okd := okd) (oix := oix) (wv := wv) (st := st) (nx := nx) h' ok a1 a2 a3 a4 a5 a6 (postY := fun post => wpY_token post ((nI lim), (nI cnt), (nI ned), (nI okd), (nI oix), (nI cp), cy, (rs_A kd), (rs_A vl), (rs_A rg), (rs_A ip), (rs_A wv), (rs_A wdf), (rs_A odf), (rs_A st), (rs_A nx)) (nI kk) (nI vv)) (fun post W => hY post (fun y => absurd rfl y) fun _ => W) fun u W => W
  · exact br_f z (hY _ (fun _ => ⟨rfl, rs_mk h'⟩) fun y => absurd y z)

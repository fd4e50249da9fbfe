/-! the relation; an accepted token -/
def rs_R (lim cnt ned op cp nc okd oix : Nat) (kd vl rg ip wdf odf ws ost fo so to en ord res gl gr fs tb : Nat → Nat) (L : Nat → Bool) : Prop := (8 ≤ lim ∧ lim ≤ 48) ∧ cnt ≤ lim ∧ ned = rs_nd kd vl cnt ∧ rs_T cnt op kd vl wdf odf ws ost ∧ rs_T4 cnt op kd vl wdf odf ws ost (1 ≤ rs_nd kd vl cnt) ∧ rs_B ip rg ∧ (∀ p, res p < 256) ∧ L 0 = false ∧ (∀ x, fo x ≤ 48 ∧ so x ≤ 48 ∧ to x ≤ 48) ∧ (1 ≤ ned → okd = kd op ∧ oix = vl op) ∧ (cp = 0 ∨ (cp = 1 ∧ rs_nd kd vl cnt = 0 ∧ rs_C cnt kd vl ws fo so to en ord nc gl gr fs tb))
/-- the states of both sides: the same limit, counts, tokens, registers, inputs and defined sets -/
def i_Rel (_ : Nat) (u : SX) (v : SY) : Prop := ∃ (lim cnt ned op cp nc okd oix : Nat) (cy : Int32) (kd vl rg ip wdf odf ws ost fo so to en ord res gl gr fs tb wv st nx : Nat → Nat) (L : Nat → Bool), u = ((nI lim), (nI cnt), (nI ned), (nI op), (nI cp), cy, (nI nc), (rs_A kd), (rs_A vl), (rs_A rg), (rs_A ip), (rs_A wdf), (rs_A odf), (rs_A ws), (rs_A ost), (rs_A fo), (rs_A so), (rs_A to), (rs_A en), (rs_A ord), (rs_A res), (rs_A gl), (rs_A gr), (rs_A fs), (rs_A tb), (rs_AB L)) ∧ v = ((nI lim), (nI cnt), (nI ned), (nI okd), (nI oix), (nI cp), cy, (rs_A kd), (rs_A vl), (rs_A rg), (rs_A ip), (rs_A wv), (rs_A wdf), (rs_A odf), (rs_A st), (rs_A nx)) ∧ rs_R lim cnt ned op cp nc okd oix kd vl rg ip wdf odf ws ost fo so to en ord res gl gr fs tb L
theorem rs_T_Wd {cnt op : Nat} {kd vl wdf odf ws ost : Nat → Nat} (T : rs_T cnt op kd vl wdf odf ws ost) (T4 : rs_T4 cnt op kd vl wdf odf ws ost (1 ≤ rs_nd kd vl cnt)) (h0 : rs_nd kd vl cnt = 0) : rs_Wd cnt kd vl wdf ws :=
  ⟨fun w h => ⟨(T.2.1.2.2.1 w h).1, (T.2.1.2.2.1 w h).2.1, (T.2.1.2.2.1 w h).2.2.1⟩, fun i hi h => (T4.1 i hi h).elim (fun z => z.2) fun z => by have := z.2; omega, fun i hi h => (T.1.2 i hi h).1⟩
section
variable {lim cnt ned op cp nc : Nat} {cy : Int32} {kd vl rg ip wdf odf ws ost fo so to en ord res gl gr fs tb : Nat → Nat} {L : Nat → Bool}
variable {okd oix : Nat} {wv st nx : Nat → Nat}
theorem xt_close {post : SX → Prop} (T3 : rs_T3 cnt op kd vl wdf odf) (hc : cnt ≤ 48) (H9 : kd op = 9 → post ((nI lim), (nI cnt), (nI ned), (nI op), (nI cp), cy, (nI nc), (rs_A kd), (rs_A vl), (rs_A rg), (rs_A ip), (rs_A (rs_u wdf (vl op) 1)), (rs_A odf), (rs_A (rs_u ws (vl op) op)), (rs_A ost), (rs_A fo), (rs_A so), (rs_A to), (rs_A en), (rs_A ord), (rs_A res), (rs_A gl), (rs_A gr), (rs_A fs), (rs_A tb), (rs_AB L))) (H10 : kd op = 10 → post ((nI lim), (nI cnt), (nI ned), (nI op), (nI cp), cy, (nI nc), (rs_A kd), (rs_A vl), (rs_A rg), (rs_A ip), (rs_A wdf), (rs_A (rs_u odf (vl op) 1)), (rs_A ws), (rs_A (rs_u ost (vl op) op)), (rs_A fo), (rs_A so), (rs_A to), (rs_A en), (rs_A ord), (rs_A res), (rs_A gl), (rs_A gr), (rs_A fs), (rs_A tb), (rs_AB L))) (H11 : kd op ≠ 9 → kd op ≠ 10 → post ((nI lim), (nI cnt), (nI ned), (nI op), (nI cp), cy, (nI nc), (rs_A kd), (rs_A vl), (rs_A rg), (rs_A ip), (rs_A wdf), (rs_A odf), (rs_A ws), (rs_A ost), (rs_A fo), (rs_A so), (rs_A to), (rs_A en), (rs_A ord), (rs_A res), (rs_A gl), (rs_A gr), (rs_A fs), (rs_A tb), (rs_AB L))) : wpX_closeStatement post ((nI lim), (nI cnt), (nI ned), (nI op), (nI cp), cy, (nI nc), (rs_A kd), (rs_A vl), (rs_A rg), (rs_A ip), (rs_A wdf), (rs_A odf), (rs_A ws), (rs_A ost), (rs_A fo), (rs_A so), (rs_A to), (rs_A en), (rs_A ord), (rs_A res), (rs_A gl), (rs_A gr), (rs_A fs), (rs_A tb), (rs_AB L)) := by
  obtain ⟨a, b, c, d, e, f⟩ := T3
  have o8 : vp_in (nI op) 48 := pk_in op 48 (by omega)
  refine ⟨o8, nm_r (rs_Ax op rfl (by omega)) ⟨o8, pk_eq (kd op) 9 (fun h => ?_) (fun h => ⟨o8, pk_eq (kd op) 10 (fun h' => ?_) (fun h' => H11 h h') (rs_Ax op rfl (by omega)) rfl⟩) (rs_Ax op rfl (by omega)) rfl⟩⟩
  · exact ⟨pk_in (vl op) 8 d, nm_r (rs_upI (vl op) 1 xt_b1 (by omega)) ⟨pk_in (vl op) 8 d, nm_r (rs_upI (vl op) op rfl (by omega)) (H9 h)⟩⟩
  · have f4 := (f h').1
    exact ⟨pk_in (vl op) 4 f4, nm_r (rs_upI (vl op) 1 xt_b1 (by omega)) ⟨pk_in (vl op) 4 f4, nm_r (rs_upI (vl op) op rfl (by omega)) (H10 h')⟩⟩
theorem xt_57 {post : Int32 → SX → Prop} {k v : Nat} (hc : cnt < 48) (hn : ned < 1000) (H1 : ned ≠ 0 → post 0 ((nI lim), (nI (cnt + 1)), (nI ned), (nI op), (nI cp), cy, (nI nc), (rs_A (rs_u kd cnt k)), (rs_A (rs_u vl cnt v)), (rs_A rg), (rs_A ip), (rs_A wdf), (rs_A odf), (rs_A ws), (rs_A ost), (rs_A fo), (rs_A so), (rs_A to), (rs_A en), (rs_A ord), (rs_A res), (rs_A gl), (rs_A gr), (rs_A fs), (rs_A tb), (rs_AB L))) (H2 : ned = 0 → wpX_closeStatement (fun u => post 0 u) ((nI lim), (nI (cnt + 1)), (nI ned), (nI op), (nI cp), cy, (nI nc), (rs_A (rs_u kd cnt k)), (rs_A (rs_u vl cnt v)), (rs_A rg), (rs_A ip), (rs_A wdf), (rs_A odf), (rs_A ws), (rs_A ost), (rs_A fo), (rs_A so), (rs_A to), (rs_A en), (rs_A ord), (rs_A res), (rs_A gl), (rs_A gr), (rs_A fs), (rs_A tb), (rs_AB L))) : wX_token_57 post (nI k) (nI v) (nI lim) (nI cnt) (nI ned) (nI op) (nI cp) cy (nI nc) (rs_A kd) (rs_A vl) (rs_A rg) (rs_A ip) (rs_A wdf) (rs_A odf) (rs_A ws) (rs_A ost) (rs_A fo) (rs_A so) (rs_A to) (rs_A en) (rs_A ord) (rs_A res) (rs_A gl) (rs_A gr) (rs_A fs) (rs_A tb) (rs_AB L) :=
  ⟨pk_in cnt 48 hc, nm_r (rs_upI cnt k rfl (by omega)) ⟨pk_in cnt 48 hc, nm_r (rs_upI cnt v rfl (by omega)) (nm_r (nI_1 cnt) (pk_eq ned 0 (fun h => H2 h) fun h => H1 h))⟩⟩
theorem yt_s {post : Int32 → SY → Prop} {k v : Nat} (hc : cnt < 48) (h9 : 9 ≤ k) (h11 : k ≤ 11) (H : post 0 ((nI lim), (nI (cnt + 1)), (nI (rs_ar k v)), (nI k), (nI v), (nI cp), cy, (rs_A (rs_u kd cnt k)), (rs_A (rs_u vl cnt v)), (rs_A rg), (rs_A ip), (rs_A wv), (rs_A wdf), (rs_A odf), (rs_A st), (rs_A nx))) : wY_token_164 post (nI k) (nI v) (nI lim) (nI cnt) (nI ned) (nI okd) (nI oix) (nI cp) cy (rs_A kd) (rs_A vl) (rs_A rg) (rs_A ip) (rs_A wv) (rs_A wdf) (rs_A odf) (rs_A st) (rs_A nx) := by
  refine ⟨pk_in cnt 48 hc, nm_r (rs_upI cnt k rfl (by omega)) ⟨pk_in cnt 48 hc, nm_r (rs_upI cnt v rfl (by omega)) (nm_r (nI_1 cnt) (br_f (nI_nlt (b := 9) h9 (by omega)) (pk_eq k 11 (fun h => ?_) fun h => ?_)))⟩⟩
  · have e : rs_ar k v = 2 := by rw [h]; rfl
    rw [e] at H
    exact H
  · have e : rs_ar k v = 1 := by
      unfold rs_ar
      rw [if_neg (by omega), if_neg (by omega), if_neg h]
    rw [e] at H
    exact H
theorem yt_e {post : Int32 → SY → Prop} {k v n : Nat} (hc : cnt < 48) (ok : rs_ok k v) (h8 : k ≤ 8) (hned : 1 ≤ ned) (hnb : ned ≤ 200) (hn : n = ned - 1 + rs_ar k v) (hi : okd ≤ 11) (hi8 : oix < 8) (hi4 : okd = 10 → oix < 4) (H1 : n ≠ 0 → post 0 ((nI lim), (nI (cnt + 1)), (nI n), (nI okd), (nI oix), (nI cp), cy, (rs_A (rs_u kd cnt k)), (rs_A (rs_u vl cnt v)), (rs_A rg), (rs_A ip), (rs_A wv), (rs_A wdf), (rs_A odf), (rs_A st), (rs_A nx))) (H9 : n = 0 → okd = 9 → post 0 ((nI lim), (nI (cnt + 1)), (nI n), (nI okd), (nI oix), (nI cp), cy, (rs_A (rs_u kd cnt k)), (rs_A (rs_u vl cnt v)), (rs_A rg), (rs_A ip), (rs_A wv), (rs_A (rs_u wdf oix 1)), (rs_A odf), (rs_A st), (rs_A nx))) (H10 : n = 0 → okd = 10 → post 0 ((nI lim), (nI (cnt + 1)), (nI n), (nI okd), (nI oix), (nI cp), cy, (rs_A (rs_u kd cnt k)), (rs_A (rs_u vl cnt v)), (rs_A rg), (rs_A ip), (rs_A wv), (rs_A wdf), (rs_A (rs_u odf oix 1)), (rs_A st), (rs_A nx))) (H11 : n = 0 → okd ≠ 9 → okd ≠ 10 → post 0 ((nI lim), (nI (cnt + 1)), (nI n), (nI okd), (nI oix), (nI cp), cy, (rs_A (rs_u kd cnt k)), (rs_A (rs_u vl cnt v)), (rs_A rg), (rs_A ip), (rs_A wv), (rs_A wdf), (rs_A odf), (rs_A st), (rs_A nx))) : wY_token_164 post (nI k) (nI v) (nI lim) (nI cnt) (nI ned) (nI okd) (nI oix) (nI cp) cy (rs_A kd) (rs_A vl) (rs_A rg) (rs_A ip) (rs_A wv) (rs_A wdf) (rs_A odf) (rs_A st) (rs_A nx) := by
  obtain ⟨g1, g2, g5, g10, g8⟩ := rs_rng ok
  have a3 := rs_ar3 k v
  have en : nI ned - 1 + nI (rs_ar k v) = nI n := by
    rw [show nI ned - 1 = nI (ned - 1) from pk_sub (b := 1) (by omega), nI_add, hn]
  refine ⟨pk_in cnt 48 hc, nm_r (rs_upI cnt k rfl (by omega)) ⟨pk_in cnt 48 hc, nm_r (rs_upI cnt v rfl (by omega)) (nm_r (nI_1 cnt) (br_t (nI_lt (b := 9) (by omega) (by decide)) (ya_ar k v rfl rfl ok.1 h8 g1 ok.2.2.2 (nm_r en (pk_eq n 0 (fun z => ?_) fun z => H1 z)))))⟩⟩
  refine pk_eq okd 9 (fun h => ?_) fun h => pk_eq okd 10 (fun h' => ?_) fun h' => H11 z h h'
  · have e : upd (rs_A wdf) (nI oix &&& 7).toNatClampNeg (vp_nar .boolean 1) = rs_A (rs_u wdf oix 1) := by
      rw [ya_m7 hi8]; exact rs_upI oix 1 xt_b1 (by omega)
    exact ⟨by rw [ya_m7 hi8]; exact vp_in_nI hi8 (by decide), nm_r e (br_f (by rw [h]; decide) (H9 z h))⟩
  · have o4 := hi4 h'
    have e : upd (rs_A odf) (nI oix &&& 3).toNatClampNeg (vp_nar .boolean 1) = rs_A (rs_u odf oix 1) := by
      rw [ya_m3 o4]; exact rs_upI oix 1 xt_b1 (by omega)
    exact ⟨by rw [ya_m3 o4]; exact vp_in_nI o4 (by decide), nm_r e (H10 z h')⟩
end
theorem i_up {k : Nat} {u : SX} {v : SY} (h : i_Rel k u v) : i_Rel (k + 3) u v := h
theorem i_vc0 (k0 : Int32) : wpX_init (fun u => wpY_init (fun v => i_Rel 1 u v) k0) k0 := by
  have z1 : rs_B (fun _ => 0) (fun _ => 0) := ⟨fun _ => (by decide : (0 : Nat) < 256), fun _ => (by decide : (0 : Nat) < 256)⟩
  have fr : ∀ n, 8 ≤ n → n ≤ 48 → i_Rel 1 ((nI n), (nI 0), (nI 0), (nI 0), (nI 0), 0, (nI 0), (rs_A (fun _ => 0)), (rs_A (fun _ => 0)), (rs_A (fun _ => 0)), (rs_A (fun _ => 0)), (rs_A (fun _ => 0)), (rs_A (fun _ => 0)), (rs_A (fun _ => 0)), (rs_A (fun _ => 0)), (rs_A (fun _ => 0)), (rs_A (fun _ => 0)), (rs_A (fun _ => 0)), (rs_A (fun _ => 0)), (rs_A (fun _ => 0)), (rs_A (fun _ => 0)), (rs_A (fun _ => 0)), (rs_A (fun _ => 0)), (rs_A (fun _ => 0)), (rs_A (fun _ => 0)), (rs_AB (fun _ => false))) ((nI n), (nI 0), (nI 0), (nI 0), (nI 0), (nI 0), 0, (rs_A (fun _ => 0)), (rs_A (fun _ => 0)), (rs_A (fun _ => 0)), (rs_A (fun _ => 0)), (rs_A (fun _ => 0)), (rs_A (fun _ => 0)), (rs_A (fun _ => 0)), (rs_A (fun _ => 0)), (rs_A (fun _ => 0))) := fun n h1 h2 =>
    ⟨n, 0, 0, 0, 0, 0, 0, 0, 0, fun _ => 0, fun _ => 0, fun _ => 0, fun _ => 0, fun _ => 0, fun _ => 0, fun _ => 0, fun _ => 0, fun _ => 0, fun _ => 0, fun _ => 0, fun _ => 0, fun _ => 0, fun _ => 0, fun _ => 0, fun _ => 0, fun _ => 0, fun _ => 0, fun _ => 0, fun _ => 0, fun _ => 0, fun _ => false, rfl, rfl, ⟨h1, h2⟩, Nat.zero_le _, rfl, rs_T_0 0, rs_T4_0 0 _, z1, fun _ => (by decide : (0 : Nat) < 256), rfl, fun _ => ⟨Nat.zero_le _, Nat.zero_le _, Nat.zero_le _⟩, fun h => absurd h (by decide), Or.inl rfl⟩
  by_cases h8 : 8 ≤ k0
  · by_cases h48 : k0 ≤ 48
    · have hk : ¬ k0 < 0 := Int32.not_lt.mpr (Int32.le_trans (by decide) h8)
      obtain ⟨n, hn, rfl⟩ := nI_of hk
      have a : 8 ≤ n := (nI_leI (a := 8) (by decide) hn).mp h8
      have b : n ≤ 48 := (nI_leI (b := 48) hn (by decide)).mp h48
      exact br_t h8 (br_t h48 (br_t h8 (br_t h48 (fr n a b))))
    · exact br_t h8 (br_f h48 (br_t h8 (br_f h48 (fr 48 (by decide) (by decide)))))
  · exact br_f h8 (br_f h8 (fr 8 (by decide) (by decide)))

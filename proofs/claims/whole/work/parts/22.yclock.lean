/-! the reference: next values, outputs, the clock -/
section
variable {lim cnt ned okd oix cp : Nat} {cy : Int32} {kd vl rg ip wv wdf odf st nx : Nat → Nat}
theorem rs_nz_b {kd vl en ws R rg : Nat → Nat} {t : Nat} (P : rs_Pg kd vl en ws t) {i : Nat} (hi : i < t) (h0 : rs_nd kd vl i = 0) (r : Nat) : rs_nz kd vl en R rg r (en i) = rs_nz kd vl en R rg r (i + 1) := by
  obtain ⟨s1, s2, s3, s4, s5, s6⟩ := rs_stm P hi h0
  have e := rs_nz_k (kd := kd) (vl := vl) (en := en) (R := R) (rg := rg) (r := r) (i := i + 1) (en i - (i + 1)) (fun x x1 x2 => by
    have y1 := s5 x (by omega) (by omega)
    have y2 := P.2.2.2.2 x (by omega)
    omega)
  rw [show i + 1 + (en i - (i + 1)) = en i by omega] at e
  exact e
theorem ye_n_l {en ws R : Nat → Nat} {rg0 : Nat → Nat} {post : Int32 → SY → Prop} {r : Nat} (hr : r < 8) (P : rs_Pg kd vl en ws cnt) (hc : cnt ≤ 48) (hS : rs_So kd vl en ws ip rg cnt R) (hR : ∀ i, i < cnt → R i < 256) (HW : ∀ i, i < cnt → kd i = 4 → wv (vl i) = R (ws (vl i))) (H : ∀ st', post (nI (rs_nz kd vl en R rg0 r cnt)) ((nI lim), (nI cnt), (nI ned), (nI okd), (nI oix), (nI cp), cy, (rs_A kd), (rs_A vl), (rs_A rg), (rs_A ip), (rs_A wv), (rs_A wdf), (rs_A odf), (rs_A st'), (rs_A nx))) : ∀ d i g st, cnt - i ≤ d → i ≤ cnt → rs_nd kd vl i = 0 → g ≤ i → wY_nextOf_19 post (nI r) (d + 1) (nI (rs_nz kd vl en R rg0 r i)) (nI i) (nI g) (nI lim) (nI cnt) (nI ned) (nI okd) (nI oix) (nI cp) cy (rs_A kd) (rs_A vl) (rs_A rg) (rs_A ip) (rs_A wv) (rs_A wdf) (rs_A odf) (rs_A st) (rs_A nx) := by
  have done : ∀ n i g st, i = cnt → wY_nextOf_19 post (nI r) (n + 1) (nI (rs_nz kd vl en R rg0 r i)) (nI i) (nI g) (nI lim) (nI cnt) (nI ned) (nI okd) (nI oix) (nI cp) cy (rs_A kd) (rs_A vl) (rs_A rg) (rs_A ip) (rs_A wv) (rs_A wdf) (rs_A odf) (rs_A st) (rs_A nx) := by
    intro n i g st e
    subst e
    exact br_c (fun _ => H st) fun _ => br_t (nI_le (Nat.le_refl _) (by omega)) (H st)
  intro d
  induction d with
  | zero => intro i g st hd hi h0 hg; exact done 0 i g st (by omega)
  | succ d ih =>
    intro i g st hd hi h0 hg
    rcases Nat.lt_or_ge i cnt with hlt | hge
    · obtain ⟨s1, s2, s3, s4, s5, s6, s7, s8, s9, s10, s11⟩ := rs_stm P hlt h0
      have ok := P.2.2.2.1 i hlt
      obtain ⟨g1, g2, g5, g10, g8⟩ := rs_rng ok
      have k11 := ok.2.1
      have nb := rs_nz_b (R := R) (rg := rg0) P hlt h0 r
      have hWx : ∀ p, p ≤ cnt → en p ≤ cnt → ∀ x, p ≤ x → x < en p → kd x = 4 → wv (vl x) = R (ws (vl x)) := fun p _ a x _ b c => HW x (by omega) c
      have N : ∀ st, wY_nextOf_19 post (nI r) (d + 1) (nI (rs_nz kd vl en R rg0 r (en i))) (nI (en i)) (nI (g + 1)) (nI lim) (nI cnt) (nI ned) (nI okd) (nI oix) (nI cp) cy (rs_A kd) (rs_A vl) (rs_A rg) (rs_A ip) (rs_A wv) (rs_A wdf) (rs_A odf) (rs_A st) (rs_A nx) := fun st => ih (en i) (g + 1) st (by omega) s3 s4 (by omega)
      have K : ¬ (kd i = 11 ∧ vl i = r ∧ R (i + 1) ≠ 0) → ∀ st, wY_nextOf_19 post (nI r) (d + 1) (nI (rs_nz kd vl en R rg0 r i)) (nI (en i)) (nI (g + 1)) (nI lim) (nI cnt) (nI ned) (nI okd) (nI oix) (nI cp) cy (rs_A kd) (rs_A vl) (rs_A rg) (rs_A ip) (rs_A wv) (rs_A wdf) (rs_A odf) (rs_A st) (rs_A nx) := fun z st => by
        have e : rs_nz kd vl en R rg0 r (i + 1) = rs_nz kd vl en R rg0 r i := if_neg z
        have W := N st
        rw [nb, e] at W
        exact W
      refine br_f (nI_ge (b := 48) (by omega) (by decide)) (br_f (nI_ge hlt (by omega)) ⟨pk_in i 48 (by omega), nm_r (rs_Ax i rfl (by omega)) ?_⟩)
      refine pk_eq (kd i) 11 (fun k => ?_) fun k => ?_
      · obtain ⟨t1, t2, t3⟩ := s11 k
        have e2 : en (en (i + 1)) ≤ cnt := by omega
        refine ye_end (i + 1) (nI_1 i) P hc s6 s7 ⟨pk_in i 48 (by omega), ?_⟩
        refine pk_eq (vl i) r (fun hv => ?_) (fun hv => ?_) (rs_Ax i rfl (by omega)) rfl
        · refine ye_eval (i + 1) (nI_1 i) P hc s6 s7 hS hR (hWx _ (by omega) s8) fun st1 => ?_
          have r1 := hR (i + 1) s6
          refine pk_eq (R (i + 1)) 0 (fun z => ?_) fun z => ?_
          · refine ye_end (en (i + 1)) rfl P hc t1 t2 (nm_r (nI_1 g) ?_)
            rw [← t3]
            exact K (fun y => y.2.2 z) st1
          · refine ye_eval (en (i + 1)) rfl P hc t1 t2 hS hR (hWx _ (by omega) e2) fun st2 => ?_
            refine ye_end (en (i + 1)) rfl P hc t1 t2 (nm_r (nI_1 g) ?_)
            rw [← t3]
            have e : rs_nz kd vl en R rg0 r (i + 1) = R (en (i + 1)) := if_pos ⟨k, hv, z⟩
            have W := N st2
            rw [nb, e] at W
            exact W
        · refine ye_end (en (i + 1)) rfl P hc t1 t2 (nm_r (nI_1 g) ?_)
          rw [← t3]
          exact K (fun y => hv y.2.1) st
      · have L : wY_nextOf_113 post (wY_nextOf_19 post (nI r) (d + 1)) (nI r) (nI (rs_nz kd vl en R rg0 r i)) (nI i) (nI g) (nI lim) (nI cnt) (nI ned) (nI okd) (nI oix) (nI cp) cy (rs_A kd) (rs_A vl) (rs_A rg) (rs_A ip) (rs_A wv) (rs_A wdf) (rs_A odf) (rs_A st) (rs_A nx) := by
          refine ye_end (i + 1) (nI_1 i) P hc s6 s7 (nm_r (nI_1 g) ?_)
          rw [← s10 k]
          exact K (fun y => k y.1) st
        exact pk_eq (kd i) 9 (fun _ => L) fun k9 => pk_eq (kd i) 10 (fun _ => L) fun k10 => absurd s1 (by omega)
    · exact done (d + 1) i g st (by omega)
theorem ye_next {en ws R : Nat → Nat} {post : Int32 → SY → Prop} {r : Nat} (hr : r < 8) (P : rs_Pg kd vl en ws cnt) (hc : cnt ≤ 48) (D : rs_Wd cnt kd vl wdf ws) (hS : rs_So kd vl en ws ip rg cnt R) (hR : ∀ i, i < cnt → R i < 256) (H : ∀ st' wv', post (nI (rs_nz kd vl en R rg r cnt)) ((nI lim), (nI cnt), (nI ned), (nI okd), (nI oix), (nI cp), cy, (rs_A kd), (rs_A vl), (rs_A rg), (rs_A ip), (rs_A wv'), (rs_A wdf), (rs_A odf), (rs_A st'), (rs_A nx))) : wpY_nextOf post ((nI lim), (nI cnt), (nI ned), (nI okd), (nI oix), (nI cp), cy, (rs_A kd), (rs_A vl), (rs_A rg), (rs_A ip), (rs_A wv), (rs_A wdf), (rs_A odf), (rs_A st), (rs_A nx)) (nI r) := by
  unfold wpY_nextOf
  refine ye_wires P hc D hS hR fun st' wv' hw => ?_
  have e : rs_A rg (nI r &&& 7).toNatClampNeg = nI (rs_nz kd vl en R rg r 0) := by rw [ya_m7 hr]; exact rs_Ax r rfl (by omega)
  exact ⟨by rw [ya_m7 hr]; exact vp_in_nI hr (by decide), nm_r e ⟨cnt + 1, ye_n_l hr P hc hS hR (fun i hi h4 => hw _ (D.2.2 i hi h4)) (fun st'' => H st'' wv') cnt 0 0 st' (by omega) (by omega) rfl (Nat.le_refl _)⟩⟩
theorem ye_o_l {en ws R ost : Nat → Nat} {post : Int32 → SY → Prop} {o : Nat} (ho : o < 4) (P : rs_Pg kd vl en ws cnt) (hc : cnt ≤ 48) (hS : rs_So kd vl en ws ip rg cnt R) (hR : ∀ i, i < cnt → R i < 256) (HW : ∀ i, i < cnt → kd i = 4 → wv (vl i) = R (ws (vl i))) (h1 : ost o < cnt) (h2 : kd (ost o) = 10) (h3 : vl (ost o) = o) (hU : ∀ i, i < cnt → kd i = 10 → ost (vl i) = i) (H : ∀ st', post (nI (R (ost o))) ((nI lim), (nI cnt), (nI ned), (nI okd), (nI oix), (nI cp), cy, (rs_A kd), (rs_A vl), (rs_A rg), (rs_A ip), (rs_A wv), (rs_A wdf), (rs_A odf), (rs_A st'), (rs_A nx))) : ∀ d i, i + d = cnt → i ≤ ost o → wY_getOutput_35 post (nI o) (nI lim) (nI cnt) (nI ned) (nI okd) (nI oix) (nI cp) cy (rs_A kd) (rs_A vl) (rs_A rg) (rs_A ip) (rs_A wv) (rs_A wdf) (rs_A odf) (rs_A st) (rs_A nx) (d + 1) (nI i) := by
  intro d
  induction d with
  | zero => intro i hd hi; omega
  | succ d ih =>
    intro i hd hi
    have hlt : i < cnt := by omega
    have ok := P.2.2.2.1 i hlt
    obtain ⟨g1, g2, g5, g10, g8⟩ := rs_rng ok
    have k11 := ok.2.1
    have N : i ≠ ost o → wY_getOutput_35 post (nI o) (nI lim) (nI cnt) (nI ned) (nI okd) (nI oix) (nI cp) cy (rs_A kd) (rs_A vl) (rs_A rg) (rs_A ip) (rs_A wv) (rs_A wdf) (rs_A odf) (rs_A st) (rs_A nx) (d + 1) (nI (i + 1)) := fun z => ih (i + 1) (by omega) (by omega)
    refine br_f (nI_ge hlt (by omega)) ⟨pk_in i 48 (by omega), ?_⟩
    refine pk_eq (kd i) 10 (fun k => ⟨pk_in i 48 (by omega), pk_eq (vl i) o (fun hv => ?_) (fun hv => nm_r (nI_1 i) (N fun e => hv (by rw [e]; exact h3))) (rs_Ax i rfl (by omega)) rfl⟩) (fun k => nm_r (nI_1 i) (N fun e => k (by rw [e]; exact h2))) (rs_Ax i rfl (by omega)) rfl
    have e : i = ost o := by
      have := hU i hlt k
      rw [hv] at this
      exact this.symm
    have n0 : rs_nd kd vl i = 0 := (P.2.2.2.2 i hlt).mp (by omega)
    obtain ⟨s1, s2, s3, s4, s5, s6, s7, s8, s9, s10, s11⟩ := rs_stm P hlt n0
    refine ye_eval (i + 1) (nI_1 i) P hc s6 s7 hS hR (fun x _ x2 x4 => HW x (by omega) x4) fun st' => ?_
    have eR : R (ost o) = R (i + 1) := by
      rw [← e, hS i hlt]
      unfold rs_me
      rw [if_neg (by omega), if_neg (by omega), if_neg (by omega), if_neg (by omega), if_neg (by omega), if_neg (by omega), if_neg (by omega), if_neg (by omega)]
    have K := H st'
    rw [eR] at K
    exact K
theorem ye_c1 {en ws R : Nat → Nat} {post : Int32 → SY → Prop} {J : Int32 → Int32 → Int32 → Int32 → Int32 → Int32 → Int32 → Int32 → (Nat → Int32) → (Nat → Int32) → (Nat → Int32) → (Nat → Int32) → (Nat → Int32) → (Nat → Int32) → (Nat → Int32) → (Nat → Int32) → (Nat → Int32) → Prop} {x2 : Int32} {c : Nat} (hN : ∀ r, r < 8 → nx r = rs_nz kd vl en R rg r cnt) (K : J (nI (c + 1)) (nI lim) (nI cnt) (nI ned) (nI okd) (nI oix) (nI cp) (cy + 1) (rs_A kd) (rs_A vl) (rs_A (rs_nj kd vl en R rg cnt 8)) (rs_A ip) (rs_A wv) (rs_A wdf) (rs_A odf) (rs_A st) (rs_A nx)) : ∀ d j, j + d = 8 → wY_clock_75 post J x2 (nI c) (nI lim) (nI cnt) (nI ned) (nI okd) (nI oix) (nI cp) cy (d + 1) (nI j) (rs_A kd) (rs_A vl) (rs_A (rs_nj kd vl en R rg cnt j)) (rs_A ip) (rs_A wv) (rs_A wdf) (rs_A odf) (rs_A st) (rs_A nx) := by
  intro d
  induction d with
  | zero =>
    intro j hj
    have e : j = 8 := by omega
    subst e
    exact br_t xa_8t (nm_e (nm_r (nI_1 c) K))
  | succ d ih =>
    intro j hj
    have eu : upd (rs_A (rs_nj kd vl en R rg cnt j)) (nI j).toNatClampNeg (rs_A nx (nI j).toNatClampNeg) = rs_A (rs_nj kd vl en R rg cnt (j + 1)) := by
      rw [rs_Ax j rfl (by omega), hN j (by omega), nI_clamp (by omega), rs_upd, rs_nj_s]
    exact br_f (xa_8f (by omega)) ⟨pk_in j 8 (by omega), pk_in j 8 (by omega), nm_r eu (nm_r (nI_1 j) (ih (j + 1) (by omega)))⟩
theorem ye_c2 {en ws R : Nat → Nat} {post : Int32 → SY → Prop} {J : Int32 → Int32 → Int32 → Int32 → Int32 → Int32 → Int32 → Int32 → (Nat → Int32) → (Nat → Int32) → (Nat → Int32) → (Nat → Int32) → (Nat → Int32) → (Nat → Int32) → (Nat → Int32) → (Nat → Int32) → (Nat → Int32) → Prop} {x2 : Int32} {c : Nat} (P : rs_Pg kd vl en ws cnt) (hc : cnt ≤ 48) (D : rs_Wd cnt kd vl wdf ws) (hS : rs_So kd vl en ws ip rg cnt R) (hR : ∀ i, i < cnt → R i < 256) (K : ∀ wv' st' nx', J (nI (c + 1)) (nI lim) (nI cnt) (nI ned) (nI okd) (nI oix) (nI cp) (cy + 1) (rs_A kd) (rs_A vl) (rs_A (rs_nj kd vl en R rg cnt 8)) (rs_A ip) (rs_A wv') (rs_A wdf) (rs_A odf) (rs_A st') (rs_A nx')) : ∀ d j wv st nx, j + d = 8 → (∀ r, r < j → nx r = rs_nz kd vl en R rg r cnt) → wY_clock_46 post J x2 (nI c) (d + 1) (nI j) (nI lim) (nI cnt) (nI ned) (nI okd) (nI oix) (nI cp) cy (rs_A kd) (rs_A vl) (rs_A rg) (rs_A ip) (rs_A wv) (rs_A wdf) (rs_A odf) (rs_A st) (rs_A nx) := by
  intro d
  induction d with
  | zero =>
    intro j wv st nx hj hN
    have e : j = 8 := by omega
    subst e
    have W := ye_c1 (en := en) (ws := ws) (R := R) (post := post) (J := J) (x2 := x2) (lim := lim) (cnt := cnt) (ned := ned) (okd := okd) (oix := oix) (cp := cp) (cy := cy) (kd := kd) (vl := vl) (rg := rg) (ip := ip) (wv := wv) (wdf := wdf) (odf := odf) (st := st) (nx := nx) hN (K wv st nx) 8 0 rfl
    rw [rs_nj_0] at W
    exact br_t xa_8t ⟨9, W⟩
  | succ d ih =>
    intro j wv st nx hj hN
    refine br_f (xa_8f (by omega)) (ye_next (by omega) P hc D hS hR fun st' wv' => ?_)
    refine ⟨pk_in j 8 (by omega), nm_r (rs_upI j _ rfl (by omega)) (nm_r (nI_1 j) (ih (j + 1) wv' st' _ (by omega) fun r hr => ?_))⟩
    rcases Nat.lt_or_ge r j with q | q
    · rw [rs_un (by omega)]; exact hN r q
    · have e : r = j := by omega
      rw [e, rs_us]
theorem ye_clk {en ws : Nat → Nat} {post : Int32 → SY → Prop} {cyc : Nat} {cy0 : Int32} (h8 : cyc ≤ 8) (P : rs_Pg kd vl en ws cnt) (hc : cnt ≤ 48) (D : rs_Wd cnt kd vl wdf ws) (H : ∀ wv' st' nx', post 0 ((nI lim), (nI cnt), (nI ned), (nI okd), (nI oix), (nI cp), (cy0 + nI cyc), (rs_A kd), (rs_A vl), (rs_A (rs_NN kd vl en ws ip cnt rg cyc)), (rs_A ip), (rs_A wv'), (rs_A wdf), (rs_A odf), (rs_A st'), (rs_A nx'))) : ∀ d c wv st nx, c + d = cyc → rs_B ip (rs_NN kd vl en ws ip cnt rg c) → wY_clock_38 post (nI cyc) (d + 1) (nI c) (nI lim) (nI cnt) (nI ned) (nI okd) (nI oix) (nI cp) (cy0 + nI c) (rs_A kd) (rs_A vl) (rs_A (rs_NN kd vl en ws ip cnt rg c)) (rs_A ip) (rs_A wv) (rs_A wdf) (rs_A odf) (rs_A st) (rs_A nx) := by
  intro d
  induction d with
  | zero =>
    intro c wv st nx hd hB
    have e : c = cyc := by omega
    subst e
    exact br_t (nI_le (Nat.le_refl _) (by omega)) (H wv st nx)
  | succ d ih =>
    intro c wv st nx hd hB
    have hS := rs_RS_so P ip (rs_NN kd vl en ws ip cnt rg c) (fun _ => 0)
    have hR := rs_So_lt P hB hS
    refine br_f (nI_ge (by omega) (by omega)) ⟨9, ye_c2 (R := rs_RS kd vl en ws ip (rs_NN kd vl en ws ip cnt rg c) (fun _ => 0) cnt) P hc D hS hR (fun wv' st' nx' => ?_) 8 0 wv st nx rfl fun r hr => by omega⟩
    have W := ih (c + 1) wv' st' nx' (by omega) (rs_N_B P hB)
    rw [rs_N_e P hS]
    have e : cy0 + nI c + 1 = cy0 + nI (c + 1) := by rw [Int32.add_assoc, nI_1]
    rw [e]
    exact W
end

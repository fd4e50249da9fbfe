/-! the clock, by interpretation and by gates -/
def rs_nj (kd vl en R rg : Nat → Nat) (t j : Nat) : Nat → Nat := fun r => if r < j then rs_nz kd vl en R rg r t else rg r
theorem rs_nj_0 (kd vl en R rg : Nat → Nat) (t : Nat) : rs_nj kd vl en R rg t 0 = rg := funext fun r => if_neg (by omega)
theorem rs_nj_s (kd vl en R rg : Nat → Nat) (t j : Nat) : rs_u (rs_nj kd vl en R rg t j) j (rs_nz kd vl en R rg j t) = rs_nj kd vl en R rg t (j + 1) := by
  funext r
  unfold rs_u rs_nj
  by_cases h : r = j
  · rw [if_pos h, if_pos (by omega), h]
  · rw [if_neg h]
    exact rs_ite_i (by omega)
def rs_N (kd vl en ws ip : Nat → Nat) (t : Nat) (rg : Nat → Nat) : Nat → Nat := rs_nx kd vl en (rs_RS kd vl en ws ip rg (fun _ => 0) t) rg t
theorem rs_N_e {kd vl en ws ip rg R : Nat → Nat} {t : Nat} (P : rs_Pg kd vl en ws t) (h : rs_So kd vl en ws ip rg t R) : rs_nj kd vl en R rg t 8 = rs_N kd vl en ws ip t rg := rs_nx_u P h (rs_RS_so P ip rg _)
theorem rs_N_B {kd vl en ws ip rg : Nat → Nat} {t : Nat} (P : rs_Pg kd vl en ws t) (hB : rs_B ip rg) : rs_B ip (rs_N kd vl en ws ip t rg) :=
  ⟨hB.1, fun r => rs_it (P := fun x => x < 256) (fun _ => rs_nz_lt P hB (rs_RS_so P ip rg _) r t (Nat.le_refl _)) fun _ => hB.2 r⟩
def rs_NN (kd vl en ws ip : Nat → Nat) (t : Nat) (rg : Nat → Nat) : Nat → (Nat → Nat)
  | 0 => rg
  | c + 1 => rs_N kd vl en ws ip t (rs_NN kd vl en ws ip t rg c)
section
variable {lim cnt ned op cp nc : Nat} {cy : Int32} {kd vl rg ip wdf odf ws ost fo so to en ord res gl gr fs tb : Nat → Nat} {L : Nat → Bool}
theorem xo_next {post : Int32 → Prop} {r : Nat} {rg0 : Nat → Nat} (hr8 : r < 8) (hg : rg r = rg0 r) (hc : cnt ≤ 48) (C : rs_C cnt kd vl ws fo so to en ord nc gl gr fs tb) (hr : ∀ p, res p < 256) (H : post (nI (rs_nz kd vl en res rg0 r cnt))) : wpX_nextOf post ((nI lim), (nI cnt), (nI ned), (nI op), (nI cp), cy, (nI nc), (rs_A kd), (rs_A vl), (rs_A rg), (rs_A ip), (rs_A wdf), (rs_A odf), (rs_A ws), (rs_A ost), (rs_A fo), (rs_A so), (rs_A to), (rs_A en), (rs_A ord), (rs_A res), (rs_A gl), (rs_A gr), (rs_A fs), (rs_A tb), (rs_AB L)) (nI r) := by
  obtain ⟨P, hF, hb, ho, J⟩ := C
  have e : rs_A rg (nI r).toNatClampNeg = nI (rs_nz kd vl en res rg0 r 0) := by rw [rs_Ax r rfl (by omega), hg]; rfl
  exact ⟨pk_in r 8 hr8, nm_r e ⟨cnt + 1, xo_nx_l hr8 hc P.2.2.2.1 hF hb hr H cnt 0 (by omega)⟩⟩
theorem xo_rtl_l {post : SX → Prop} (hc : cnt ≤ 48) (C : rs_C cnt kd vl ws fo so to en ord nc gl gr fs tb) (hr : ∀ p, res p < 256) (H : post ((nI lim), (nI cnt), (nI ned), (nI op), (nI cp), cy, (nI nc), (rs_A kd), (rs_A vl), (rs_A (rs_nj kd vl en res rg cnt 8)), (rs_A ip), (rs_A wdf), (rs_A odf), (rs_A ws), (rs_A ost), (rs_A fo), (rs_A so), (rs_A to), (rs_A en), (rs_A ord), (rs_A res), (rs_A gl), (rs_A gr), (rs_A fs), (rs_A tb), (rs_AB L))) : ∀ d j, j + d = 8 → wX_clockRtl_6 post (nI lim) (nI cnt) (nI ned) (nI op) (nI cp) cy (nI nc) (d + 1) (nI j) (rs_A kd) (rs_A vl) (rs_A (rs_nj kd vl en res rg cnt j)) (rs_A ip) (rs_A wdf) (rs_A odf) (rs_A ws) (rs_A ost) (rs_A fo) (rs_A so) (rs_A to) (rs_A en) (rs_A ord) (rs_A res) (rs_A gl) (rs_A gr) (rs_A fs) (rs_A tb) (rs_AB L) := by
  intro d
  induction d with
  | zero =>
    intro j hj
    have e : j = 8 := by omega
    subst e
    exact br_t xa_8t H
  | succ d ih =>
    intro j hj
    have eu : upd (rs_A (rs_nj kd vl en res rg cnt j)) (nI j).toNatClampNeg (nI (rs_nz kd vl en res rg j cnt)) = rs_A (rs_nj kd vl en res rg cnt (j + 1)) := by
      rw [nI_clamp (by omega), rs_upd, rs_nj_s]
    refine br_f (xa_8f (by omega)) (xo_next (rg0 := rg) (by omega) (if_neg (by omega)) hc C hr ?_)
    exact ⟨pk_in j 8 (by omega), nm_r eu (nm_r (nI_1 j) (ih (j + 1) (by omega)))⟩
theorem xo_rtl {post : SX → Prop} (hc : cnt ≤ 48) (C : rs_C cnt kd vl ws fo so to en ord nc gl gr fs tb) (hB : rs_B ip rg) (hr : ∀ p, res p < 256) (H : ∀ R, (∀ p, R p < 256) → post ((nI lim), (nI cnt), (nI ned), (nI op), (nI cp), cy, (nI nc), (rs_A kd), (rs_A vl), (rs_A (rs_N kd vl en ws ip cnt rg)), (rs_A ip), (rs_A wdf), (rs_A odf), (rs_A ws), (rs_A ost), (rs_A fo), (rs_A so), (rs_A to), (rs_A en), (rs_A ord), (rs_A R), (rs_A gl), (rs_A gr), (rs_A fs), (rs_A tb), (rs_AB L))) : wpX_clockRtl post ((nI lim), (nI cnt), (nI ned), (nI op), (nI cp), cy, (nI nc), (rs_A kd), (rs_A vl), (rs_A rg), (rs_A ip), (rs_A wdf), (rs_A odf), (rs_A ws), (rs_A ost), (rs_A fo), (rs_A so), (rs_A to), (rs_A en), (rs_A ord), (rs_A res), (rs_A gl), (rs_A gr), (rs_A fs), (rs_A tb), (rs_AB L)) := by
  unfold wpX_clockRtl
  refine xo_int hc C hB hr fun R hS hR => ?_
  have K := H R hR
  rw [← rs_N_e C.1 hS] at K
  have W := xo_rtl_l (res := R) (rg := rg) (op := op) (cp := cp) (cy := cy) (lim := lim) (ned := ned) (wdf := wdf) (odf := odf) (ost := ost) (L := L) (ip := ip) hc C hR K 8 0 rfl
  rw [rs_nj_0] at W
  exact ⟨9, W⟩
theorem xo_spr_l {post : SX → Prop} {v f : Nat} (hv : v < 256) (hf : f + 8 ≤ 3937) (H : post ((nI lim), (nI cnt), (nI ned), (nI op), (nI cp), cy, (nI nc), (rs_A kd), (rs_A vl), (rs_A rg), (rs_A ip), (rs_A wdf), (rs_A odf), (rs_A ws), (rs_A ost), (rs_A fo), (rs_A so), (rs_A to), (rs_A en), (rs_A ord), (rs_A res), (rs_A gl), (rs_A gr), (rs_A fs), (rs_A tb), (rs_AB (rs_sp L v f 8)))) : ∀ d j, j + d = 8 → wX_spreadBits_2 post (nI v) (nI f) (nI lim) (nI cnt) (nI ned) (nI op) (nI cp) cy (nI nc) (d + 1) (nI j) (rs_A kd) (rs_A vl) (rs_A rg) (rs_A ip) (rs_A wdf) (rs_A odf) (rs_A ws) (rs_A ost) (rs_A fo) (rs_A so) (rs_A to) (rs_A en) (rs_A ord) (rs_A res) (rs_A gl) (rs_A gr) (rs_A fs) (rs_A tb) (rs_AB (rs_sp L v f j)) := by
  intro d
  induction d with
  | zero =>
    intro j hj
    have e : j = 8 := by omega
    subst e
    exact br_t xa_8t H
  | succ d ih =>
    intro j hj
    have eu : upd (rs_AB (rs_sp L v f j)) (nI f + nI j).toNatClampNeg ((nI v >>> (nI j &&& 31)) &&& 1) = rs_AB (rs_sp L v f (j + 1)) := by
      rw [rs_shI (by omega) (by omega), ← Nat.toNat_testBit, nI_add, nI_clamp (by omega), rs_updB, rs_sp_s]
    exact br_f (xa_8f (by omega)) ⟨pk_in (f + j) 3937 (by omega) (nI_add f j), nm_r eu (nm_r (nI_1 j) (ih (j + 1) (by omega)))⟩
theorem xo_spr {post : SX → Prop} {v f : Nat} {x y : Int32} (hx : x = nI v) (hy : y = nI f) (hv : v < 256) (hf : f + 8 ≤ 3937) (H : post ((nI lim), (nI cnt), (nI ned), (nI op), (nI cp), cy, (nI nc), (rs_A kd), (rs_A vl), (rs_A rg), (rs_A ip), (rs_A wdf), (rs_A odf), (rs_A ws), (rs_A ost), (rs_A fo), (rs_A so), (rs_A to), (rs_A en), (rs_A ord), (rs_A res), (rs_A gl), (rs_A gr), (rs_A fs), (rs_A tb), (rs_AB (rs_sp L v f 8)))) : wpX_spreadBits post ((nI lim), (nI cnt), (nI ned), (nI op), (nI cp), cy, (nI nc), (rs_A kd), (rs_A vl), (rs_A rg), (rs_A ip), (rs_A wdf), (rs_A odf), (rs_A ws), (rs_A ost), (rs_A fo), (rs_A so), (rs_A to), (rs_A en), (rs_A ord), (rs_A res), (rs_A gl), (rs_A gr), (rs_A fs), (rs_A tb), (rs_AB L)) x y := by
  subst hx hy
  have W := xo_spr_l (v := v) (f := f) hv hf H 8 0 rfl
  rw [rs_sp_0] at W
  exact ⟨9, W⟩
theorem xo_set_l {post : SX → Prop} (hW : rs_WF nc gl gr) (hn : nc ≤ 3937) (H : ∀ L', rs_Md nc gl gr L' → rs_Bs L' ip rg → post ((nI lim), (nI cnt), (nI ned), (nI op), (nI cp), cy, (nI nc), (rs_A kd), (rs_A vl), (rs_A rg), (rs_A ip), (rs_A wdf), (rs_A odf), (rs_A ws), (rs_A ost), (rs_A fo), (rs_A so), (rs_A to), (rs_A en), (rs_A ord), (rs_A res), (rs_A gl), (rs_A gr), (rs_A fs), (rs_A tb), (rs_AB L'))) : ∀ d n L, n + d = nc → 97 ≤ n → rs_Md n gl gr L → rs_Bs L ip rg → wX_settleGates_3 post (nI lim) (nI cnt) (nI ned) (nI op) (nI cp) cy (nI nc) (d + 1) (nI n) (rs_A kd) (rs_A vl) (rs_A rg) (rs_A ip) (rs_A wdf) (rs_A odf) (rs_A ws) (rs_A ost) (rs_A fo) (rs_A so) (rs_A to) (rs_A en) (rs_A ord) (rs_A res) (rs_A gl) (rs_A gr) (rs_A fs) (rs_A tb) (rs_AB L) := by
  intro d
  induction d with
  | zero =>
    intro n L hd h97 M B
    have e : n = nc := by omega
    subst e
    exact br_t (nI_le (Nat.le_refl _) (by omega)) (H L M B)
  | succ d ih =>
    intro n L hd h97 M B
    obtain ⟨w1, w2⟩ := hW.2 n h97 (by omega)
    have el : rs_A gl (nI n).toNatClampNeg = nI (gl n) := rs_Ax n rfl (by omega)
    have er : rs_A gr (nI n).toNatClampNeg = nI (gr n) := rs_Ax n rfl (by omega)
    have h2 : ∀ l, l < 2 * n → nI l >>> ((1 : Int32) &&& 31) = nI (l / 2) := fun l hl => rs_shrI (v := l) (j := 1) (by omega) (by decide)
    have hA : ∀ l, l < 2 * n → rs_AB L (nI l >>> ((1 : Int32) &&& 31)).toNatClampNeg = nI (L (l / 2)).toNat := fun l hl => by
      rw [h2 l hl, nI_clamp (by omega)]; rfl
    have hI : ∀ l, l < 2 * n → vp_in (nI l >>> ((1 : Int32) &&& 31)) 3937 := fun l hl => by
      rw [h2 l hl]; exact vp_in_nI (by omega) (by decide)
    have eu : upd (rs_AB L) (nI n).toNatClampNeg (((rs_AB L (nI (gl n) >>> ((1 : Int32) &&& 31)).toNatClampNeg ^^^ nI (gl n)) &&& (rs_AB L (nI (gr n) >>> ((1 : Int32) &&& 31)).toNatClampNeg ^^^ nI (gr n))) &&& 1) = rs_AB (rs_ub L n (rs_lv L (gl n) && rs_lv L (gr n))) := by
      rw [hA _ w1, hA _ w2, rs_gtI, nI_clamp (by omega), rs_updB]
    exact br_f (nI_ge (by omega) (by omega)) ⟨pk_in n 3937 (by omega), nm_r el ⟨pk_in n 3937 (by omega), nm_r er ⟨hI _ w1, hI _ w2, pk_in n 3937 (by omega), nm_r eu (nm_r (nI_1 n) (ih (n + 1) _ (by omega) (by omega) (rs_se hW h97 (by omega) M) (rs_Bs_u h97 B)))⟩⟩⟩
theorem xo_set {post : SX → Prop} (hW : rs_WF nc gl gr) (hn : nc ≤ 3937) (h0 : L 0 = false) (B : rs_Bs L ip rg) (H : ∀ L', rs_Md nc gl gr L' → rs_Bs L' ip rg → post ((nI lim), (nI cnt), (nI ned), (nI op), (nI cp), cy, (nI nc), (rs_A kd), (rs_A vl), (rs_A rg), (rs_A ip), (rs_A wdf), (rs_A odf), (rs_A ws), (rs_A ost), (rs_A fo), (rs_A so), (rs_A to), (rs_A en), (rs_A ord), (rs_A res), (rs_A gl), (rs_A gr), (rs_A fs), (rs_A tb), (rs_AB L'))) : wpX_settleGates post ((nI lim), (nI cnt), (nI ned), (nI op), (nI cp), cy, (nI nc), (rs_A kd), (rs_A vl), (rs_A rg), (rs_A ip), (rs_A wdf), (rs_A odf), (rs_A ws), (rs_A ost), (rs_A fo), (rs_A so), (rs_A to), (rs_A en), (rs_A ord), (rs_A res), (rs_A gl), (rs_A gr), (rs_A fs), (rs_A tb), (rs_AB L)) := by
  have w := hW.1
  exact ⟨nc - 97 + 1, xo_set_l hW hn H (nc - 97) 97 L (by omega) (Nat.le_refl _) ⟨h0, fun n h1 h2 => by omega⟩ B⟩
theorem xo_gth_l {post : Int32 → Prop} {r a : Nat} (hr : r < 8) (ha : a < 256) (hn : nc ≤ 3937) (hb : ∀ x, x < 8 → fs (r * 8 + x) < 2 * nc) (B : rs_bt L fs r a) (H : post (nI a)) : ∀ d j, j + d = 8 → wX_gatherFlops_4 post (nI (r * 8)) (nI lim) (nI cnt) (nI ned) (nI op) (nI cp) cy (nI nc) (rs_A kd) (rs_A vl) (rs_A rg) (rs_A ip) (rs_A wdf) (rs_A odf) (rs_A ws) (rs_A ost) (rs_A fo) (rs_A so) (rs_A to) (rs_A en) (rs_A ord) (rs_A res) (rs_A gl) (rs_A gr) (rs_A fs) (rs_A tb) (rs_AB L) (d + 1) (nI (a % 2 ^ j)) (nI j) := by
  intro d
  induction d with
  | zero =>
    intro j hj
    have e : j = 8 := by omega
    subst e
    have e2 : a % 2 ^ 8 = a := Nat.mod_eq_of_lt ha
    rw [e2]
    exact br_t xa_8t H
  | succ d ih =>
    intro j hj
    have b1 := hb j (by omega)
    have ef : rs_A fs (nI (r * 8) + nI j).toNatClampNeg = nI (fs (r * 8 + j)) := xa_rx (by omega) (by omega)
    have h2 : nI (fs (r * 8 + j)) >>> ((1 : Int32) &&& 31) = nI (fs (r * 8 + j) / 2) := rs_shrI (j := 1) (by omega) (by decide)
    have el : (rs_AB L (nI (fs (r * 8 + j)) >>> ((1 : Int32) &&& 31)).toNatClampNeg ^^^ nI (fs (r * 8 + j))) &&& 1 = nI (a.testBit j).toNat := by
      rw [h2, nI_clamp (by omega)]
      show (nI (L (fs (r * 8 + j) / 2)).toNat ^^^ nI (fs (r * 8 + j))) &&& 1 = _
      rw [rs_lvI, B j (by omega)]
    have eo : nI (a % 2 ^ j) ||| (nI (a.testBit j).toNat <<< (nI j &&& 31)) = nI (a % 2 ^ (j + 1)) := by
      rw [rs_shlI (by have := Bool.toNat_le (a.testBit j); omega) (by omega), rs_or, rs_ga a ha j (by omega)]
    refine br_f (xa_8f (by omega)) ⟨pk_in (r * 8 + j) 64 (by omega) (nI_add _ _), nm_r ef ⟨?_, nm_r el (nm_r eo (nm_r (nI_1 j) (ih (j + 1) (by omega))))⟩⟩
    rw [h2]
    exact vp_in_nI (by omega) (by decide)
theorem xo_gth {post : Int32 → Prop} {r a : Nat} {y : Int32} (hy : y = nI (r * 8)) (hr : r < 8) (ha : a < 256) (hn : nc ≤ 3937) (hb : ∀ x, x < 8 → fs (r * 8 + x) < 2 * nc) (B : rs_bt L fs r a) (H : post (nI a)) : wpX_gatherFlops post ((nI lim), (nI cnt), (nI ned), (nI op), (nI cp), cy, (nI nc), (rs_A kd), (rs_A vl), (rs_A rg), (rs_A ip), (rs_A wdf), (rs_A odf), (rs_A ws), (rs_A ost), (rs_A fo), (rs_A so), (rs_A to), (rs_A en), (rs_A ord), (rs_A res), (rs_A gl), (rs_A gr), (rs_A fs), (rs_A tb), (rs_AB L)) y := by
  subst hy
  have W := xo_gth_l (lim := lim) (cnt := cnt) (ned := ned) (op := op) (cp := cp) (cy := cy) (kd := kd) (vl := vl) (rg := rg) (ip := ip) (wdf := wdf) (odf := odf) (ws := ws) (ost := ost) (fo := fo) (so := so) (to := to) (en := en) (ord := ord) (res := res) (gl := gl) (gr := gr) (tb := tb) hr ha hn hb B H 8 0 rfl
  have e : a % 2 ^ 0 = 0 := Nat.mod_one a
  rw [e] at W
  exact ⟨9, W⟩
theorem xo_gat_l {post : SX → Prop} {R : Nat → Nat} (hc : cnt ≤ 48) (hn : nc ≤ 3937) (hb : ∀ r, r < 8 → ∀ x, x < 8 → fs (r * 8 + x) < 2 * nc) (B : ∀ r, r < 8 → rs_nz kd vl en R rg r cnt < 256 ∧ rs_bt L fs r (rs_nz kd vl en R rg r cnt)) (H : post ((nI lim), (nI cnt), (nI ned), (nI op), (nI cp), cy, (nI nc), (rs_A kd), (rs_A vl), (rs_A (rs_nj kd vl en R rg cnt 8)), (rs_A ip), (rs_A wdf), (rs_A odf), (rs_A ws), (rs_A ost), (rs_A fo), (rs_A so), (rs_A to), (rs_A en), (rs_A ord), (rs_A res), (rs_A gl), (rs_A gr), (rs_A fs), (rs_A tb), (rs_AB L))) : ∀ d j, j + d = 8 → wX_clockGates_66 post (nI lim) (nI cnt) (nI ned) (nI op) (nI cp) cy (nI nc) (d + 1) (nI j) (rs_A kd) (rs_A vl) (rs_A (rs_nj kd vl en R rg cnt j)) (rs_A ip) (rs_A wdf) (rs_A odf) (rs_A ws) (rs_A ost) (rs_A fo) (rs_A so) (rs_A to) (rs_A en) (rs_A ord) (rs_A res) (rs_A gl) (rs_A gr) (rs_A fs) (rs_A tb) (rs_AB L) := by
  intro d
  induction d with
  | zero =>
    intro j hj
    have e : j = 8 := by omega
    subst e
    exact br_t xa_8t H
  | succ d ih =>
    intro j hj
    have eu : upd (rs_A (rs_nj kd vl en R rg cnt j)) (nI j).toNatClampNeg (nI (rs_nz kd vl en R rg j cnt)) = rs_A (rs_nj kd vl en R rg cnt (j + 1)) := by
      rw [nI_clamp (by omega), rs_upd, rs_nj_s]
    obtain ⟨b1, b2⟩ := B j (by omega)
    refine br_f (xa_8f (by omega)) (xo_gth (pk_mul j 8) (by omega) b1 hn (hb j (by omega)) b2 ?_)
    exact ⟨pk_in j 8 (by omega), nm_r eu (nm_r (nI_1 j) (ih (j + 1) (by omega)))⟩
theorem xo_gat {post : SX → Prop} (hc : cnt ≤ 48) (C : rs_C cnt kd vl ws fo so to en ord nc gl gr fs tb) (hB : rs_B ip rg) (h0 : L 0 = false) (H : ∀ L', L' 0 = false → post ((nI lim), (nI cnt), (nI ned), (nI op), (nI cp), cy, (nI nc), (rs_A kd), (rs_A vl), (rs_A (rs_N kd vl en ws ip cnt rg)), (rs_A ip), (rs_A wdf), (rs_A odf), (rs_A ws), (rs_A ost), (rs_A fo), (rs_A so), (rs_A to), (rs_A en), (rs_A ord), (rs_A res), (rs_A gl), (rs_A gr), (rs_A fs), (rs_A tb), (rs_AB L'))) : wpX_clockGates post ((nI lim), (nI cnt), (nI ned), (nI op), (nI cp), cy, (nI nc), (rs_A kd), (rs_A vl), (rs_A rg), (rs_A ip), (rs_A wdf), (rs_A odf), (rs_A ws), (rs_A ost), (rs_A fo), (rs_A so), (rs_A to), (rs_A en), (rs_A ord), (rs_A res), (rs_A gl), (rs_A gr), (rs_A fs), (rs_A tb), (rs_AB L)) := by
  have hn : nc ≤ 3937 := by have := C.2.2.2.2.1; omega
  have hW := C.2.2.2.2.2.1
  have hS := rs_RS_so C.1 ip rg (fun _ => 0)
  have hx : rs_sx kd vl cnt cnt = cnt := if_neg (by omega)
  -- the last loop
  have S4 : ∀ L', rs_Md nc gl gr L' → rs_Bs L' ip rg → ∃ n, wX_clockGates_66 post (nI lim) (nI cnt) (nI ned) (nI op) (nI cp) cy (nI nc) n 0 (rs_A kd) (rs_A vl) (rs_A rg) (rs_A ip) (rs_A wdf) (rs_A odf) (rs_A ws) (rs_A ost) (rs_A fo) (rs_A so) (rs_A to) (rs_A en) (rs_A ord) (rs_A res) (rs_A gl) (rs_A gr) (rs_A fs) (rs_A tb) (rs_AB L') := by
    intro L' M B
    have K := H L' M.1
    rw [← rs_N_e C.1 hS] at K
    have U := (C.2.2.2.2.2.2.2.2 ip rg _ L' hB hS B M).2
    rw [hx] at U
    have W := xo_gat_l (L := L') (rg := rg) (lim := lim) (ned := ned) (op := op) (cp := cp) (cy := cy) (ip := ip) (wdf := wdf) (odf := odf) (ws := ws) (ost := ost) (fo := fo) (so := so) (to := to) (ord := ord) (res := res) (gl := gl) (gr := gr) (tb := tb) (post := post) hc hn C.2.2.2.2.2.2.2.1 (fun r hr => ⟨rs_nz_lt C.1 hB hS r cnt (Nat.le_refl _), U r hr⟩) K 8 0 rfl
    rw [rs_nj_0] at W
    exact ⟨9, W⟩
  -- the registers
  have S3 : ∀ d r L, r + d = 8 → L 0 = false → (∀ p, p < 4 → ∀ x, x < 8 → L (1 + (p * 8 + x)) = (ip p).testBit x) → (∀ q, q < r → ∀ x, x < 8 → L (33 + (q * 8 + x)) = (rg q).testBit x) → wX_clockGates_31 post (d + 1) (nI r) (nI lim) (nI cnt) (nI ned) (nI op) (nI cp) cy (nI nc) (rs_A kd) (rs_A vl) (rs_A rg) (rs_A ip) (rs_A wdf) (rs_A odf) (rs_A ws) (rs_A ost) (rs_A fo) (rs_A so) (rs_A to) (rs_A en) (rs_A ord) (rs_A res) (rs_A gl) (rs_A gr) (rs_A fs) (rs_A tb) (rs_AB L) := by
    intro d
    induction d with
    | zero =>
      intro r L hr h0 h1 h2
      have e : r = 8 := by omega
      subst e
      exact br_t xa_8t (xo_set hW hn h0 ⟨h1, h2⟩ fun L' M B => S4 L' M B)
    | succ d ih =>
      intro r L hr h0 h1 h2
      have ey : 33 + nI r * 8 = nI (33 + r * 8) := by
        rw [show nI r * 8 = nI (r * 8) from pk_mul r 8]; exact nI_add 33 _
      refine br_f (xa_8f (by omega)) ⟨pk_in r 8 (by omega), xo_spr (rs_Ax r rfl (by omega)) ey (hB.2 r) (by omega) ?_⟩
      refine nm_r (nI_1 r) (ih (r + 1) _ (by omega) ?_ (fun p hp x hx => ?_) fun q hq x hx => ?_)
      · exact (if_neg (by omega)).trans h0
      · exact (if_neg (by omega)).trans (h1 p hp x hx)
      · rcases Nat.lt_or_ge q r with g | g
        · exact (if_neg (by omega)).trans (h2 q g x hx)
        · have e : q = r := by omega
          subst e
          refine (if_pos (by omega)).trans ?_
          rw [show 33 + (q * 8 + x) - (33 + q * 8) = x by omega]
  -- the inputs
  have S2 : ∀ d p L, p + d = 4 → L 0 = false → (∀ q, q < p → ∀ x, x < 8 → L (1 + (q * 8 + x)) = (ip q).testBit x) → wX_clockGates_2 post (d + 1) (nI p) (nI lim) (nI cnt) (nI ned) (nI op) (nI cp) cy (nI nc) (rs_A kd) (rs_A vl) (rs_A rg) (rs_A ip) (rs_A wdf) (rs_A odf) (rs_A ws) (rs_A ost) (rs_A fo) (rs_A so) (rs_A to) (rs_A en) (rs_A ord) (rs_A res) (rs_A gl) (rs_A gr) (rs_A fs) (rs_A tb) (rs_AB L) := by
    intro d
    induction d with
    | zero =>
      intro p L hp h0 h1
      have e : p = 4 := by omega
      subst e
      exact br_t (nI_le (b := 4) (Nat.le_refl 4) (by decide)) ⟨9, S3 8 0 L rfl h0 h1 fun q hq => by omega⟩
    | succ d ih =>
      intro p L hp h0 h1
      have ey : 1 + nI p * 8 = nI (1 + p * 8) := by
        rw [show nI p * 8 = nI (p * 8) from pk_mul p 8]; exact nI_add 1 _
      refine br_f (nI_ge (b := 4) (by omega) (by decide)) ⟨pk_in p 4 (by omega), xo_spr (rs_Ax p rfl (by omega)) ey (hB.1 p) (by omega) ?_⟩
      refine nm_r (nI_1 p) (ih (p + 1) _ (by omega) ?_ fun q hq x hx => ?_)
      · exact (if_neg (by omega)).trans h0
      · rcases Nat.lt_or_ge q p with g | g
        · exact (if_neg (by omega)).trans (h1 q g x hx)
        · have e : q = p := by omega
          subst e
          refine (if_pos (by omega)).trans ?_
          rw [show 1 + (q * 8 + x) - (1 + q * 8) = x by omega]
  exact ⟨5, S2 4 0 L rfl h0 fun q hq => by omega⟩
theorem xo_clk_l {post : Int32 → SX → Prop} {m : Int32} {cyc : Nat} (h8 : cyc ≤ 8) (hc : cnt ≤ 48) (C : rs_C cnt kd vl ws fo so to en ord nc gl gr fs tb) (H : ∀ res' L', (∀ p, res' p < 256) → L' 0 = false → rs_B ip (rs_NN kd vl en ws ip cnt rg cyc) → post 0 ((nI lim), (nI cnt), (nI ned), (nI op), (nI cp), (cy + nI cyc), (nI nc), (rs_A kd), (rs_A vl), (rs_A (rs_NN kd vl en ws ip cnt rg cyc)), (rs_A ip), (rs_A wdf), (rs_A odf), (rs_A ws), (rs_A ost), (rs_A fo), (rs_A so), (rs_A to), (rs_A en), (rs_A ord), (rs_A res'), (rs_A gl), (rs_A gr), (rs_A fs), (rs_A tb), (rs_AB L'))) : ∀ d c res L, c + d = cyc → (∀ p, res p < 256) → L 0 = false → rs_B ip (rs_NN kd vl en ws ip cnt rg c) → wX_clock_38 post m (nI cyc) (d + 1) (nI c) (nI lim) (nI cnt) (nI ned) (nI op) (nI cp) cy (nI nc) (rs_A kd) (rs_A vl) (rs_A (rs_NN kd vl en ws ip cnt rg c)) (rs_A ip) (rs_A wdf) (rs_A odf) (rs_A ws) (rs_A ost) (rs_A fo) (rs_A so) (rs_A to) (rs_A en) (rs_A ord) (rs_A res) (rs_A gl) (rs_A gr) (rs_A fs) (rs_A tb) (rs_AB L) := by
  intro d
  induction d with
  | zero =>
    intro c res L hd hr h0 hB
    have e : c = cyc := by omega
    subst e
    exact br_t (nI_le (Nat.le_refl _) (by omega)) (nm_e (H res L hr h0 hB))
  | succ d ih =>
    intro c res L hd hr h0 hB
    have hB' := rs_N_B C.1 hB
    refine br_f (nI_ge (by omega) (by omega)) (br_c (fun _ => ?_) fun _ => ?_)
    · exact xo_rtl hc C hB hr fun R hR => nm_r (nI_1 c) (ih (c + 1) R L (by omega) hR h0 hB')
    · exact xo_gat hc C hB h0 fun L' h0' => nm_r (nI_1 c) (ih (c + 1) res L' (by omega) hr h0' hB')
end

/-! the builders of a token's literals -/
section
variable {lim cnt ned op cp nc : Nat} {cy : Int32} {kd vl rg ip wdf odf ws ost fo so to en ord res gl gr fs tb : Nat → Nat} {L : Nat → Bool}
theorem xa_8f {j : Nat} (h : j < 8) : ¬ (8 : Int32) ≤ nI j := nI_ge (b := 8) h (by decide)
theorem xa_8t : (8 : Int32) ≤ nI 8 := nI_le (b := 8) (Nat.le_refl 8) (by decide)
theorem xa_ix {p j : Nat} (hp : p ≤ 48) (hj : j < 8) : vp_in (nI (p * 8) + nI j) 392 := by
  rw [nI_add]; exact vp_in_nI (by omega) (by decide)
theorem xa_iy {p j : Nat} (hp : p ≤ 48) (hj : j < 8) : vp_in (nI p * 8 + nI j) 392 := by
  rw [show nI p * 8 = nI (p * 8) from pk_mul p 8]; exact xa_ix hp hj
theorem xa_rx {f : Nat → Nat} {p j : Nat} (hp : p ≤ 48) (hj : j < 8) : rs_A f (nI (p * 8) + nI j).toNatClampNeg = nI (f (p * 8 + j)) := by
  rw [nI_add]; exact rs_Ax _ rfl (by omega)
theorem xa_ry {f : Nat → Nat} {p j : Nat} (hp : p ≤ 48) (hj : j < 8) : rs_A f (nI p * 8 + nI j).toNatClampNeg = nI (f (p * 8 + j)) := by
  rw [show nI p * 8 = nI (p * 8) from pk_mul p 8]; exact xa_rx hp hj
theorem xa_ux {f : Nat → Nat} {p j x : Nat} (hp : p ≤ 48) (hj : j < 8) : upd (rs_A f) (nI (p * 8) + nI j).toNatClampNeg (nI x) = rs_A (rs_u f (p * 8 + j) x) := by
  rw [nI_add, nI_clamp (by omega)]; exact rs_upd _ _ _
theorem xa_uy {f : Nat → Nat} {p j x : Nat} (hp : p ≤ 48) (hj : j < 8) : upd (rs_A f) (nI p * 8 + nI j).toNatClampNeg (nI x) = rs_A (rs_u f (p * 8 + j) x) := by
  rw [show nI p * 8 = nI (p * 8) from pk_mul p 8]; exact xa_ux hp hj
theorem xa_f8 {f : Nat → Nat} {i p : Nat} (hi : i ≤ 48) (hf : f i = p) : rs_A f (nI i).toNatClampNeg * 8 = nI (p * 8) := by
  rw [rs_Ax i rfl (by omega), hf]; exact pk_mul p 8
theorem xb_neg_l {post : SX → Prop} {i p : Nat} (hi : i ≤ 48) (hp : p ≤ 48) (hpi : p ≠ i) (hn : nc + 80 ≤ 3937) (hb : ∀ x, x < 8 → tb (p * 8 + x) < 2 * nc) (H : ∀ nc' gl' gr' tb', rs_St (rs_Wneg tb p) i 8 80 nc gl gr tb nc' gl' gr' tb' → post ((nI lim), (nI cnt), (nI ned), (nI op), (nI cp), cy, (nI nc'), (rs_A kd), (rs_A vl), (rs_A rg), (rs_A ip), (rs_A wdf), (rs_A odf), (rs_A ws), (rs_A ost), (rs_A fo), (rs_A so), (rs_A to), (rs_A en), (rs_A ord), (rs_A res), (rs_A gl'), (rs_A gr'), (rs_A fs), (rs_A tb'), (rs_AB L))) : ∀ d j c nc' gl' gr' tb', j + d = 8 → rs_St (rs_Wneg tb p) i j (4 * j) nc gl gr tb nc' gl' gr' tb' → c < 2 * nc' → (∀ L, rs_Md nc' gl' gr' L → rs_lv L c = rs_ch (fun y => !rs_rd L tb p y) (fun _ => false) true j) → wX_buildNegation_15 post (nI i) (nI (p * 8)) (d + 1) (nI c) (nI j) (nI lim) (nI cnt) (nI ned) (nI op) (nI cp) cy (nI nc') (rs_A kd) (rs_A vl) (rs_A rg) (rs_A ip) (rs_A wdf) (rs_A odf) (rs_A ws) (rs_A ost) (rs_A fo) (rs_A so) (rs_A to) (rs_A en) (rs_A ord) (rs_A res) (rs_A gl') (rs_A gr') (rs_A fs) (rs_A tb') (rs_AB L) := by
  intro d
  induction d with
  | zero =>
    intro j c nc' gl' gr' tb' hj S hc hC
    have e : j = 8 := by omega
    subst e
    exact br_t xa_8t (H _ _ _ _ (rs_st_g S (by omega)))
  | succ d ih =>
    intro j c nc' gl' gr' tb' hj S hc hC
    have e1 : rs_A tb' (nI (p * 8) + nI j).toNatClampNeg ^^^ 1 = nI (tb (p * 8 + j) ^^^ 1) := by
      rw [xa_rx hp (by omega), rs_st_rd S (by omega) hpi (by omega), rs_x1I]
    have g1 := S.1
    have v1 := S.2.1.1
    have b1 := hb j (by omega)
    refine br_f (xa_8f (by omega)) ⟨xa_ix hp (by omega), nm_r e1 ?_⟩
    refine xa_xor (tb (p * 8 + j) ^^^ 1) c rfl rfl S.2.1.2.1 (by omega) (rs_x1l (by omega)) hc fun l1 nc1 gl1 gr1 G1 => ?_
    have g2 := G1.1
    have v2 := G1.2.1.1
    have u2 := G1.2.2.1
    refine ⟨xa_iy hi (by omega), nm_r (xa_uy hi (by omega)) ?_⟩
    refine xa_and (tb (p * 8 + j) ^^^ 1) c rfl rfl G1.2.1.2.1 (by omega) (rs_x1l (by omega)) (by omega) fun l2 nc2 gl2 gr2 G2 => ?_
    have g3 := G2.1
    have v3 := G2.2.1.1
    refine nm_r (nI_1 j) ?_
    refine ih (j + 1) l2 nc2 gl2 gr2 _ (by omega) (rs_st_s S (rs_ex_t G1.2.1 G2.2.1) (by omega) (by omega) fun L z => ?_) G2.2.2.1 fun L z => ?_
    · have m1 := G2.2.1.2.2 L z
      have m0 := G1.2.1.2.2 L m1
      rw [G1.2.2.2 L m1]
      dsimp only
      rw [rs_lv_n, hC L m0]
      rfl
    · have m1 := G2.2.1.2.2 L z
      have m0 := G1.2.1.2.2 L m1
      rw [G2.2.2.2 L z]
      dsimp only
      rw [rs_lv_n, hC L m0]
      show (!rs_rd L tb p j && rs_ch (fun y => !rs_rd L tb p y) (fun _ => false) true j) = Bool.atLeastTwo (!rs_rd L tb p j) false (rs_ch (fun y => !rs_rd L tb p y) (fun _ => false) true j)
      cases rs_rd L tb p j <;> cases rs_ch (fun y => !rs_rd L tb p y) (fun _ => false) true j <;> rfl
theorem xb_neg {post : SX → Prop} {i p : Nat} (hW : rs_WF nc gl gr) (hi : i ≤ 48) (hp : p ≤ 48) (hpi : p ≠ i) (hf : fo i = p) (hn : nc + 80 ≤ 3937) (hb : ∀ x, x < 8 → tb (p * 8 + x) < 2 * nc) (H : ∀ nc' gl' gr' tb', rs_St (rs_Wneg tb p) i 8 80 nc gl gr tb nc' gl' gr' tb' → post ((nI lim), (nI cnt), (nI ned), (nI op), (nI cp), cy, (nI nc'), (rs_A kd), (rs_A vl), (rs_A rg), (rs_A ip), (rs_A wdf), (rs_A odf), (rs_A ws), (rs_A ost), (rs_A fo), (rs_A so), (rs_A to), (rs_A en), (rs_A ord), (rs_A res), (rs_A gl'), (rs_A gr'), (rs_A fs), (rs_A tb'), (rs_AB L))) : wpX_buildNegation post ((nI lim), (nI cnt), (nI ned), (nI op), (nI cp), cy, (nI nc), (rs_A kd), (rs_A vl), (rs_A rg), (rs_A ip), (rs_A wdf), (rs_A odf), (rs_A ws), (rs_A ost), (rs_A fo), (rs_A so), (rs_A to), (rs_A en), (rs_A ord), (rs_A res), (rs_A gl), (rs_A gr), (rs_A fs), (rs_A tb), (rs_AB L)) (nI i) :=
  ⟨pk_in i 49 (by omega), nm_r (xa_f8 hi hf) ⟨9, xb_neg_l hi hp hpi hn hb H 8 0 1 nc gl gr tb rfl (rs_st_0 (by omega) (rs_ex_r hW)) (by have := hW.1; omega) fun L z => rs_lv_b z.1 true⟩⟩
theorem xb_sum_l {post : SX → Prop} {i p q : Nat} {s : Bool} (hi : i ≤ 48) (hp : p ≤ 48) (hq : q ≤ 48) (hpi : p ≠ i) (hqi : q ≠ i) (hn : nc + 80 ≤ 3937) (hb : ∀ x, x < 8 → tb (p * 8 + x) < 2 * nc) (hb' : ∀ x, x < 8 → tb (q * 8 + x) < 2 * nc) (H : ∀ nc' gl' gr' tb', rs_St (rs_Wsum tb p q s) i 8 80 nc gl gr tb nc' gl' gr' tb' → post ((nI lim), (nI cnt), (nI ned), (nI op), (nI cp), cy, (nI nc'), (rs_A kd), (rs_A vl), (rs_A rg), (rs_A ip), (rs_A wdf), (rs_A odf), (rs_A ws), (rs_A ost), (rs_A fo), (rs_A so), (rs_A to), (rs_A en), (rs_A ord), (rs_A res), (rs_A gl'), (rs_A gr'), (rs_A fs), (rs_A tb'), (rs_AB L))) : ∀ d j c nc' gl' gr' tb', j + d = 8 → rs_St (rs_Wsum tb p q s) i j (10 * j) nc gl gr tb nc' gl' gr' tb' → c < 2 * nc' → (∀ L, rs_Md nc' gl' gr' L → rs_lv L c = rs_ch (rs_rd L tb p) (fun y => rs_rd L tb q y ^^ s) s j) → wX_buildSum_27 post (nI i) (nI s.toNat) (nI (p * 8)) (nI (q * 8)) (d + 1) (nI c) (nI j) (nI lim) (nI cnt) (nI ned) (nI op) (nI cp) cy (nI nc') (rs_A kd) (rs_A vl) (rs_A rg) (rs_A ip) (rs_A wdf) (rs_A odf) (rs_A ws) (rs_A ost) (rs_A fo) (rs_A so) (rs_A to) (rs_A en) (rs_A ord) (rs_A res) (rs_A gl') (rs_A gr') (rs_A fs) (rs_A tb') (rs_AB L) := by
  intro d
  induction d with
  | zero =>
    intro j c nc' gl' gr' tb' hj S hc hC
    have e : j = 8 := by omega
    subst e
    exact br_t xa_8t (H _ _ _ _ (rs_st_g S (by omega)))
  | succ d ih =>
    intro j c nc' gl' gr' tb' hj S hc hC
    have e1 : rs_A tb' (nI (p * 8) + nI j).toNatClampNeg = nI (tb (p * 8 + j)) := by
      rw [xa_rx hp (by omega), rs_st_rd S (by omega) hpi (by omega)]
    have e2 : rs_A tb' (nI (q * 8) + nI j).toNatClampNeg ^^^ nI s.toNat = nI (tb (q * 8 + j) ^^^ s.toNat) := by
      rw [xa_rx hq (by omega), rs_st_rd S (by omega) hqi (by omega), nx_xor]
    have g1 := S.1
    have v1 := S.2.1.1
    have b1 := hb j (by omega)
    have b2 := hb' j (by omega)
    refine br_f (xa_8f (by omega)) ⟨xa_ix hp (by omega), nm_r e1 ⟨xa_ix hq (by omega), nm_r e2 ?_⟩⟩
    refine xa_xor (tb (p * 8 + j)) (tb (q * 8 + j) ^^^ s.toNat) rfl rfl S.2.1.2.1 (by omega) (by omega) (rs_xsl s (by omega)) fun l1 nc1 gl1 gr1 G1 => ?_
    have g2 := G1.1
    have v2 := G1.2.1.1
    refine xa_xor l1 c rfl rfl G1.2.1.2.1 (by omega) G1.2.2.1 (by omega) fun l2 nc2 gl2 gr2 G2 => ?_
    have g3 := G2.1
    have v3 := G2.2.1.1
    have u3 := G2.2.2.1
    refine ⟨xa_iy hi (by omega), nm_r (xa_uy hi (by omega)) ?_⟩
    refine xa_maj (tb (p * 8 + j)) (tb (q * 8 + j) ^^^ s.toNat) c rfl rfl rfl G2.2.1.2.1 (by omega) (by omega) (rs_xsl s (by omega)) (by omega) fun l3 nc3 gl3 gr3 G3 => ?_
    have g4 := G3.1
    have v4 := G3.2.1.1
    refine nm_r (nI_1 j) ?_
    refine ih (j + 1) l3 nc3 gl3 gr3 _ (by omega) (rs_st_s S (rs_ex_t G1.2.1 (rs_ex_t G2.2.1 G3.2.1)) (by omega) (by omega) fun L z => ?_) G3.2.2.1 fun L z => ?_
    · have m2 := G3.2.1.2.2 L z
      have m1 := G2.2.1.2.2 L m2
      have m0 := G1.2.1.2.2 L m1
      rw [G2.2.2.2 L m2]
      dsimp only
      rw [G1.2.2.2 L m1]
      dsimp only
      rw [rs_lv_x, hC L m0]
      rfl
    · have m2 := G3.2.1.2.2 L z
      have m1 := G2.2.1.2.2 L m2
      have m0 := G1.2.1.2.2 L m1
      rw [G3.2.2.2 L z]
      dsimp only
      rw [rs_lv_x, hC L m0]
      rfl
theorem xb_sum {post : SX → Prop} {i p q : Nat} {s : Bool} {y : Int32} (hy : y = nI s.toNat) (hW : rs_WF nc gl gr) (hi : i ≤ 48) (hp : p ≤ 48) (hq : q ≤ 48) (hpi : p ≠ i) (hqi : q ≠ i) (hf : fo i = p) (hs : so i = q) (hn : nc + 80 ≤ 3937) (hb : ∀ x, x < 8 → tb (p * 8 + x) < 2 * nc) (hb' : ∀ x, x < 8 → tb (q * 8 + x) < 2 * nc) (H : ∀ nc' gl' gr' tb', rs_St (rs_Wsum tb p q s) i 8 80 nc gl gr tb nc' gl' gr' tb' → post ((nI lim), (nI cnt), (nI ned), (nI op), (nI cp), cy, (nI nc'), (rs_A kd), (rs_A vl), (rs_A rg), (rs_A ip), (rs_A wdf), (rs_A odf), (rs_A ws), (rs_A ost), (rs_A fo), (rs_A so), (rs_A to), (rs_A en), (rs_A ord), (rs_A res), (rs_A gl'), (rs_A gr'), (rs_A fs), (rs_A tb'), (rs_AB L))) : wpX_buildSum post ((nI lim), (nI cnt), (nI ned), (nI op), (nI cp), cy, (nI nc), (rs_A kd), (rs_A vl), (rs_A rg), (rs_A ip), (rs_A wdf), (rs_A odf), (rs_A ws), (rs_A ost), (rs_A fo), (rs_A so), (rs_A to), (rs_A en), (rs_A ord), (rs_A res), (rs_A gl), (rs_A gr), (rs_A fs), (rs_A tb), (rs_AB L)) (nI i) y := by
  subst hy
  exact ⟨pk_in i 49 (by omega), nm_r (xa_f8 hi hf) ⟨pk_in i 49 (by omega), nm_r (xa_f8 hi hs) ⟨9, xb_sum_l hi hp hq hpi hqi hn hb hb' H 8 0 s.toNat nc gl gr tb rfl (rs_st_0 (by omega) (rs_ex_r hW)) (by have := hW.1; have := Bool.toNat_le s; omega) fun L z => rs_lv_b z.1 s⟩⟩⟩
theorem xb_tr_l {post : SX → Prop} {i : Nat} (hi : i ≤ 48) : ∀ d j tb, j + d = 8 → (∀ tb', (∀ x, (x < i * 8 + j ∨ i * 8 + 8 ≤ x) → tb' x = tb x) → (∀ x, j ≤ x → x < 8 → tb' (i * 8 + x) = 0) → post ((nI lim), (nI cnt), (nI ned), (nI op), (nI cp), cy, (nI nc), (rs_A kd), (rs_A vl), (rs_A rg), (rs_A ip), (rs_A wdf), (rs_A odf), (rs_A ws), (rs_A ost), (rs_A fo), (rs_A so), (rs_A to), (rs_A en), (rs_A ord), (rs_A res), (rs_A gl), (rs_A gr), (rs_A fs), (rs_A tb'), (rs_AB L))) → wX_setTruth_12 post (nI i) (nI lim) (nI cnt) (nI ned) (nI op) (nI cp) cy (nI nc) (d + 1) (nI j) (rs_A kd) (rs_A vl) (rs_A rg) (rs_A ip) (rs_A wdf) (rs_A odf) (rs_A ws) (rs_A ost) (rs_A fo) (rs_A so) (rs_A to) (rs_A en) (rs_A ord) (rs_A res) (rs_A gl) (rs_A gr) (rs_A fs) (rs_A tb) (rs_AB L) := by
  intro d
  induction d with
  | zero =>
    intro j tb hj H
    have e : j = 8 := by omega
    subst e
    exact br_t xa_8t (H tb (fun _ _ => rfl) fun x h h' => by omega)
  | succ d ih =>
    intro j tb hj H
    refine br_f (xa_8f (by omega)) ⟨xa_iy hi (by omega), nm_r (xa_uy (x := 0) hi (by omega)) (nm_r (nI_1 j) ?_)⟩
    refine ih (j + 1) _ (by omega) fun tb' h1 h2 => H tb' (fun x hx => ?_) fun x hx hx' => ?_
    · rw [h1 x (by omega), rs_un (by omega)]
    · rcases Nat.lt_or_ge j x with q | q
      · exact h2 x (by omega) hx'
      · have e : x = j := by omega
        rw [e, h1 _ (by omega), rs_us]
theorem xb_tr {post : SX → Prop} {i l : Nat} (hi : i ≤ 48) (H : ∀ tb', (∀ x, (x < i * 8 ∨ i * 8 + 8 ≤ x) → tb' x = tb x) → tb' (i * 8) = l → (∀ x, 0 < x → x < 8 → tb' (i * 8 + x) = 0) → post ((nI lim), (nI cnt), (nI ned), (nI op), (nI cp), cy, (nI nc), (rs_A kd), (rs_A vl), (rs_A rg), (rs_A ip), (rs_A wdf), (rs_A odf), (rs_A ws), (rs_A ost), (rs_A fo), (rs_A so), (rs_A to), (rs_A en), (rs_A ord), (rs_A res), (rs_A gl), (rs_A gr), (rs_A fs), (rs_A tb'), (rs_AB L))) : wpX_setTruth post ((nI lim), (nI cnt), (nI ned), (nI op), (nI cp), cy, (nI nc), (rs_A kd), (rs_A vl), (rs_A rg), (rs_A ip), (rs_A wdf), (rs_A odf), (rs_A ws), (rs_A ost), (rs_A fo), (rs_A so), (rs_A to), (rs_A en), (rs_A ord), (rs_A res), (rs_A gl), (rs_A gr), (rs_A fs), (rs_A tb), (rs_AB L)) (nI i) (nI l) := by
  have e8 : nI i * 8 = nI (i * 8) := pk_mul i 8
  have e : upd (rs_A tb) (nI i * 8).toNatClampNeg (nI l) = rs_A (rs_u tb (i * 8) l) := by
    rw [e8, nI_clamp (by omega)]; exact rs_upd _ _ _
  refine ⟨by rw [e8]; exact vp_in_nI (by omega) (by decide), nm_r e ⟨8, ?_⟩⟩
  refine xb_tr_l hi 7 1 _ rfl fun tb' h1 h2 => H tb' (fun x hx => ?_) ?_ fun x hx hx' => h2 x hx hx'
  · rw [h1 x (by omega), rs_un (by omega)]
  · rw [h1 _ (by omega), rs_us]
theorem xb_eq_l {post : SX → Prop} {i p q : Nat} (hi : i ≤ 48) (hp : p ≤ 48) (hq : q ≤ 48) (hn : nc + 80 ≤ 3937) (hb : ∀ x, x < 8 → tb (p * 8 + x) < 2 * nc) (hb' : ∀ x, x < 8 → tb (q * 8 + x) < 2 * nc) (H : ∀ nc' gl' gr' tb', rs_St (rs_Wtr (rs_Teq tb p q)) i 8 80 nc gl gr tb nc' gl' gr' tb' → post ((nI lim), (nI cnt), (nI ned), (nI op), (nI cp), cy, (nI nc'), (rs_A kd), (rs_A vl), (rs_A rg), (rs_A ip), (rs_A wdf), (rs_A odf), (rs_A ws), (rs_A ost), (rs_A fo), (rs_A so), (rs_A to), (rs_A en), (rs_A ord), (rs_A res), (rs_A gl'), (rs_A gr'), (rs_A fs), (rs_A tb'), (rs_AB L))) : ∀ d j c nc' gl' gr', j + d = 8 → nc' ≤ nc + 4 * j → rs_Ex nc gl gr nc' gl' gr' → c < 2 * nc' → (∀ L, rs_Md nc' gl' gr' L → rs_lv L c = rs_qc (rs_rd L tb p) (rs_rd L tb q) j) → wX_buildEqual_26 post (nI i) (nI (p * 8)) (nI (q * 8)) (d + 1) (nI c) (nI j) (nI lim) (nI cnt) (nI ned) (nI op) (nI cp) cy (nI nc') (rs_A kd) (rs_A vl) (rs_A rg) (rs_A ip) (rs_A wdf) (rs_A odf) (rs_A ws) (rs_A ost) (rs_A fo) (rs_A so) (rs_A to) (rs_A en) (rs_A ord) (rs_A res) (rs_A gl') (rs_A gr') (rs_A fs) (rs_A tb) (rs_AB L) := by
  intro d
  induction d with
  | zero =>
    intro j c nc' gl' gr' hj hg hx hc hC
    have e : j = 8 := by omega
    subst e
    exact br_t xa_8t (xb_tr hi fun tb' h1 h2 h3 => H _ _ _ _ (rs_st_tr hx (by omega) hc hC h1 h2 h3))
  | succ d ih =>
    intro j c nc' gl' gr' hj hg hx hc hC
    have v1 := hx.1
    have b1 := hb j (by omega)
    have b2 := hb' j (by omega)
    refine br_f (xa_8f (by omega)) ⟨xa_ix hp (by omega), xa_ix hq (by omega), ?_⟩
    refine xa_xor (tb (p * 8 + j)) (tb (q * 8 + j)) (xa_rx hp (by omega)) (xa_rx hq (by omega)) hx.2.1 (by omega) (by omega) (by omega) fun l1 nc1 gl1 gr1 G1 => ?_
    have g2 := G1.1
    have v2 := G1.2.1.1
    refine xa_and c (l1 ^^^ 1) rfl (rs_x1I l1) G1.2.1.2.1 (by omega) (by omega) (rs_x1l G1.2.2.1) fun l2 nc2 gl2 gr2 G2 => ?_
    have g3 := G2.1
    refine nm_r (nI_1 j) (ih (j + 1) l2 nc2 gl2 gr2 (by omega) (by omega) (rs_ex_t hx (rs_ex_t G1.2.1 G2.2.1)) G2.2.2.1 fun L z => ?_)
    have m1 := G2.2.1.2.2 L z
    have m0 := G1.2.1.2.2 L m1
    rw [G2.2.2.2 L z]
    dsimp only
    rw [rs_lv_n, G1.2.2.2 L m1]
    dsimp only
    rw [hC L m0]
    rfl
theorem xb_eq {post : SX → Prop} {i p q : Nat} (hW : rs_WF nc gl gr) (hi : i ≤ 48) (hp : p ≤ 48) (hq : q ≤ 48) (hf : fo i = p) (hs : so i = q) (hn : nc + 80 ≤ 3937) (hb : ∀ x, x < 8 → tb (p * 8 + x) < 2 * nc) (hb' : ∀ x, x < 8 → tb (q * 8 + x) < 2 * nc) (H : ∀ nc' gl' gr' tb', rs_St (rs_Wtr (rs_Teq tb p q)) i 8 80 nc gl gr tb nc' gl' gr' tb' → post ((nI lim), (nI cnt), (nI ned), (nI op), (nI cp), cy, (nI nc'), (rs_A kd), (rs_A vl), (rs_A rg), (rs_A ip), (rs_A wdf), (rs_A odf), (rs_A ws), (rs_A ost), (rs_A fo), (rs_A so), (rs_A to), (rs_A en), (rs_A ord), (rs_A res), (rs_A gl'), (rs_A gr'), (rs_A fs), (rs_A tb'), (rs_AB L))) : wpX_buildEqual post ((nI lim), (nI cnt), (nI ned), (nI op), (nI cp), cy, (nI nc), (rs_A kd), (rs_A vl), (rs_A rg), (rs_A ip), (rs_A wdf), (rs_A odf), (rs_A ws), (rs_A ost), (rs_A fo), (rs_A so), (rs_A to), (rs_A en), (rs_A ord), (rs_A res), (rs_A gl), (rs_A gr), (rs_A fs), (rs_A tb), (rs_AB L)) (nI i) :=
  ⟨pk_in i 49 (by omega), nm_r (xa_f8 hi hf) ⟨pk_in i 49 (by omega), nm_r (xa_f8 hi hs) ⟨9, xb_eq_l hi hp hq hn hb hb' H 8 0 1 nc gl gr rfl (by omega) (rs_ex_r hW) (by have := hW.1; omega) fun L z => rs_lv_b z.1 true⟩⟩⟩
end

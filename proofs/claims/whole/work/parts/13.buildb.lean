/-! the other builders -/
section
variable {lim cnt ned op cp nc : Nat} {cy : Int32} {kd vl rg ip wdf odf ws ost fo so to en ord res gl gr fs tb : Nat → Nat} {L : Nat → Bool}
theorem xb_lt_s {post : SX → Prop} {J : Int32 → Int32 → Int32 → Int32 → Int32 → Int32 → Int32 → Int32 → Int32 → (Nat → Int32) → (Nat → Int32) → (Nat → Int32) → (Nat → Int32) → (Nat → Int32) → (Nat → Int32) → (Nat → Int32) → (Nat → Int32) → (Nat → Int32) → (Nat → Int32) → (Nat → Int32) → (Nat → Int32) → (Nat → Int32) → (Nat → Int32) → (Nat → Int32) → (Nat → Int32) → (Nat → Int32) → (Nat → Int32) → (Nat → Int32) → Prop} {x1 x2 z : Int32} {p q c j : Nat} {f : Bool} (hz : z = nI f.toNat) (hW : rs_WF nc gl gr) (hp : p ≤ 48) (hq : q ≤ 48) (hj : j < 8) (hn : nc + 4 ≤ 3937) (b1 : tb (p * 8 + j) < 2 * nc) (b2 : tb (q * 8 + j) < 2 * nc) (hc : c < 2 * nc) (K : ∀ l nc' gl' gr', rs_G nc gl gr nc' gl' gr' l 4 (fun L => Bool.atLeastTwo (!(rs_rd L tb p j ^^ f)) (rs_rd L tb q j ^^ f) (rs_lv L c)) → J (nI l) (nI (j + 1)) (nI lim) (nI cnt) (nI ned) (nI op) (nI cp) cy (nI nc') (rs_A kd) (rs_A vl) (rs_A rg) (rs_A ip) (rs_A wdf) (rs_A odf) (rs_A ws) (rs_A ost) (rs_A fo) (rs_A so) (rs_A to) (rs_A en) (rs_A ord) (rs_A res) (rs_A gl') (rs_A gr') (rs_A fs) (rs_A tb) (rs_AB L)) : wX_buildLess_46 post J x1 x2 (nI (p * 8)) (nI (q * 8)) (nI c) (nI j) z (nI lim) (nI cnt) (nI ned) (nI op) (nI cp) cy (nI nc) (rs_A kd) (rs_A vl) (rs_A rg) (rs_A ip) (rs_A wdf) (rs_A odf) (rs_A ws) (rs_A ost) (rs_A fo) (rs_A so) (rs_A to) (rs_A en) (rs_A ord) (rs_A res) (rs_A gl) (rs_A gr) (rs_A fs) (rs_A tb) (rs_AB L) := by
  subst hz
  have e1 : rs_A tb (nI (p * 8) + nI j).toNatClampNeg ^^^ nI f.toNat = nI (tb (p * 8 + j) ^^^ f.toNat) := by
    rw [xa_rx hp (by omega), nx_xor]
  have e2 : rs_A tb (nI (q * 8) + nI j).toNatClampNeg ^^^ nI f.toNat = nI (tb (q * 8 + j) ^^^ f.toNat) := by
    rw [xa_rx hq (by omega), nx_xor]
  refine ⟨xa_ix hp (by omega), nm_r e1 ⟨xa_ix hq (by omega), nm_r e2 ?_⟩⟩
  refine xa_maj ((tb (p * 8 + j) ^^^ f.toNat) ^^^ 1) (tb (q * 8 + j) ^^^ f.toNat) c (rs_x1I _) rfl rfl hW (by omega) (rs_x1l (rs_xsl f b1)) (rs_xsl f b2) hc fun l nc' gl' gr' G => ?_
  refine nm_r (nI_1 j) (K l nc' gl' gr' (rs_g_F G fun L z => ?_))
  simp only [rs_lv_n, rs_lv_x]
  rfl
theorem xb_lt_l {post : SX → Prop} {i p q : Nat} {s : Bool} (hi : i ≤ 48) (hp : p ≤ 48) (hq : q ≤ 48) (hn : nc + 80 ≤ 3937) (hb : ∀ x, x < 8 → tb (p * 8 + x) < 2 * nc) (hb' : ∀ x, x < 8 → tb (q * 8 + x) < 2 * nc) (H : ∀ nc' gl' gr' tb', rs_St (rs_Wtr (rs_Tlt tb p q s)) i 8 80 nc gl gr tb nc' gl' gr' tb' → post ((nI lim), (nI cnt), (nI ned), (nI op), (nI cp), cy, (nI nc'), (rs_A kd), (rs_A vl), (rs_A rg), (rs_A ip), (rs_A wdf), (rs_A odf), (rs_A ws), (rs_A ost), (rs_A fo), (rs_A so), (rs_A to), (rs_A en), (rs_A ord), (rs_A res), (rs_A gl'), (rs_A gr'), (rs_A fs), (rs_A tb'), (rs_AB L))) : ∀ d j c nc' gl' gr', j + d = 8 → nc' ≤ nc + 4 * j → rs_Ex nc gl gr nc' gl' gr' → c < 2 * nc' → (∀ L, rs_Md nc' gl' gr' L → rs_lv L c = rs_ch (fun y => !(rs_rd L tb p y ^^ (decide (y = 7) && s))) (fun y => rs_rd L tb q y ^^ (decide (y = 7) && s)) false j) → wX_buildLess_27 post (nI i) (nI s.toNat) (nI (p * 8)) (nI (q * 8)) (d + 1) (nI c) (nI j) (nI lim) (nI cnt) (nI ned) (nI op) (nI cp) cy (nI nc') (rs_A kd) (rs_A vl) (rs_A rg) (rs_A ip) (rs_A wdf) (rs_A odf) (rs_A ws) (rs_A ost) (rs_A fo) (rs_A so) (rs_A to) (rs_A en) (rs_A ord) (rs_A res) (rs_A gl') (rs_A gr') (rs_A fs) (rs_A tb) (rs_AB L) := by
  intro d
  induction d with
  | zero =>
    intro j c nc' gl' gr' hj hg hx hc hC
    have e : j = 8 := by omega
    subst e
    exact br_t xa_8t (xb_tr hi fun tb' h1 h2 h3 => H _ _ _ _ (rs_st_tr hx (by omega) hc hC h1 h2 h3))
  | succ d ih =>
    intro j c nc' gl' gr' hj hg hx hc hC
    have v1 := hx.1
    have b1 := hb j (by omega)
    have b2 := hb' j (by omega)
    refine br_f (xa_8f (by omega)) ?_
    have K : ∀ l nc1 gl1 gr1, rs_G nc' gl' gr' nc1 gl1 gr1 l 4 (fun L => Bool.atLeastTwo (!(rs_rd L tb p j ^^ (decide (j = 7) && s))) (rs_rd L tb q j ^^ (decide (j = 7) && s)) (rs_lv L c)) → wX_buildLess_27 post (nI i) (nI s.toNat) (nI (p * 8)) (nI (q * 8)) (d + 1) (nI l) (nI (j + 1)) (nI lim) (nI cnt) (nI ned) (nI op) (nI cp) cy (nI nc1) (rs_A kd) (rs_A vl) (rs_A rg) (rs_A ip) (rs_A wdf) (rs_A odf) (rs_A ws) (rs_A ost) (rs_A fo) (rs_A so) (rs_A to) (rs_A en) (rs_A ord) (rs_A res) (rs_A gl1) (rs_A gr1) (rs_A fs) (rs_A tb) (rs_AB L) := by
      intro l nc1 gl1 gr1 G1
      have g2 := G1.1
      refine ih (j + 1) l nc1 gl1 gr1 (by omega) (by omega) (rs_ex_t hx G1.2.1) G1.2.2.1 fun L z => ?_
      rw [G1.2.2.2 L z]
      dsimp only
      rw [hC L (G1.2.1.2.2 L z)]
      rfl
    refine pk_eq j 7 (fun h => ?_) fun h => ?_
    · refine xb_lt_s (f := decide (j = 7) && s) ?_ hx.2.1 hp hq (by omega) (by omega) (by omega) (by omega) hc K
      rw [decide_eq_true h, Bool.true_and]
    · refine xb_lt_s (f := decide (j = 7) && s) ?_ hx.2.1 hp hq (by omega) (by omega) (by omega) (by omega) hc K
      rw [decide_eq_false h, Bool.false_and]
      rfl
theorem xb_lt {post : SX → Prop} {i p q : Nat} {s : Bool} {y : Int32} (hy : y = nI s.toNat) (hW : rs_WF nc gl gr) (hi : i ≤ 48) (hp : p ≤ 48) (hq : q ≤ 48) (hf : fo i = p) (hs : so i = q) (hn : nc + 80 ≤ 3937) (hb : ∀ x, x < 8 → tb (p * 8 + x) < 2 * nc) (hb' : ∀ x, x < 8 → tb (q * 8 + x) < 2 * nc) (H : ∀ nc' gl' gr' tb', rs_St (rs_Wtr (rs_Tlt tb p q s)) i 8 80 nc gl gr tb nc' gl' gr' tb' → post ((nI lim), (nI cnt), (nI ned), (nI op), (nI cp), cy, (nI nc'), (rs_A kd), (rs_A vl), (rs_A rg), (rs_A ip), (rs_A wdf), (rs_A odf), (rs_A ws), (rs_A ost), (rs_A fo), (rs_A so), (rs_A to), (rs_A en), (rs_A ord), (rs_A res), (rs_A gl'), (rs_A gr'), (rs_A fs), (rs_A tb'), (rs_AB L))) : wpX_buildLess post ((nI lim), (nI cnt), (nI ned), (nI op), (nI cp), cy, (nI nc), (rs_A kd), (rs_A vl), (rs_A rg), (rs_A ip), (rs_A wdf), (rs_A odf), (rs_A ws), (rs_A ost), (rs_A fo), (rs_A so), (rs_A to), (rs_A en), (rs_A ord), (rs_A res), (rs_A gl), (rs_A gr), (rs_A fs), (rs_A tb), (rs_AB L)) (nI i) y := by
  subst hy
  exact ⟨pk_in i 49 (by omega), nm_r (xa_f8 hi hf) ⟨pk_in i 49 (by omega), nm_r (xa_f8 hi hs) ⟨9, xb_lt_l hi hp hq hn hb hb' H 8 0 0 nc gl gr rfl (by omega) (rs_ex_r hW) (by have := hW.1; omega) fun L z => rs_lv_b z.1 false⟩⟩⟩
theorem xb_any_l {post : Int32 → SX → Prop} {p : Nat} (hp : p ≤ 48) (hn : nc + 8 ≤ 3937) (hb : ∀ x, x < 8 → tb (p * 8 + x) < 2 * nc) (H : ∀ l nc' gl' gr', rs_G nc gl gr nc' gl' gr' l 8 (fun L => rs_Tan tb p L) → post (nI l) ((nI lim), (nI cnt), (nI ned), (nI op), (nI cp), cy, (nI nc'), (rs_A kd), (rs_A vl), (rs_A rg), (rs_A ip), (rs_A wdf), (rs_A odf), (rs_A ws), (rs_A ost), (rs_A fo), (rs_A so), (rs_A to), (rs_A en), (rs_A ord), (rs_A res), (rs_A gl'), (rs_A gr'), (rs_A fs), (rs_A tb), (rs_AB L))) : ∀ d j c nc' gl' gr', j + d = 8 → rs_G nc gl gr nc' gl' gr' c j (fun L => rs_nn (rs_rd L tb p) j) → wX_anyBit_4 post (nI p) (d + 1) (nI c) (nI j) (nI lim) (nI cnt) (nI ned) (nI op) (nI cp) cy (nI nc') (rs_A kd) (rs_A vl) (rs_A rg) (rs_A ip) (rs_A wdf) (rs_A odf) (rs_A ws) (rs_A ost) (rs_A fo) (rs_A so) (rs_A to) (rs_A en) (rs_A ord) (rs_A res) (rs_A gl') (rs_A gr') (rs_A fs) (rs_A tb) (rs_AB L) := by
  intro d
  induction d with
  | zero =>
    intro j c nc' gl' gr' hj G
    have e : j = 8 := by omega
    subst e
    exact br_t xa_8t (xa_cv (P := fun r => post r _) (rs_x1I c) (H _ _ _ _ (rs_g_n G)))
  | succ d ih =>
    intro j c nc' gl' gr' hj G
    have v1 := G.2.1.1
    have g1 := G.1
    have b1 := hb j (by omega)
    have e1 : rs_A tb (nI p * 8 + nI j).toNatClampNeg ^^^ 1 = nI (tb (p * 8 + j) ^^^ 1) := by
      rw [xa_ry hp (by omega), rs_x1I]
    refine br_f (xa_8f (by omega)) ⟨xa_iy hp (by omega), ?_⟩
    refine xa_and c (tb (p * 8 + j) ^^^ 1) rfl e1 G.2.1.2.1 (by omega) G.2.2.1 (rs_x1l (by omega)) fun l1 nc1 gl1 gr1 G1 => ?_
    refine nm_r (nI_1 j) (ih (j + 1) l1 nc1 gl1 gr1 (by omega) (rs_g_F (rs_g_t G G1) fun L z => ?_))
    show (rs_lv L c && rs_lv L (tb (p * 8 + j) ^^^ 1)) = _
    rw [rs_lv_n, G.2.2.2 L (G1.2.1.2.2 L z)]
    dsimp only
    rfl
theorem xb_any {post : Int32 → SX → Prop} {p : Nat} {y : Int32} (hy : y = nI p) (hW : rs_WF nc gl gr) (hp : p ≤ 48) (hn : nc + 8 ≤ 3937) (hb : ∀ x, x < 8 → tb (p * 8 + x) < 2 * nc) (H : ∀ l nc' gl' gr', rs_G nc gl gr nc' gl' gr' l 8 (fun L => rs_Tan tb p L) → post (nI l) ((nI lim), (nI cnt), (nI ned), (nI op), (nI cp), cy, (nI nc'), (rs_A kd), (rs_A vl), (rs_A rg), (rs_A ip), (rs_A wdf), (rs_A odf), (rs_A ws), (rs_A ost), (rs_A fo), (rs_A so), (rs_A to), (rs_A en), (rs_A ord), (rs_A res), (rs_A gl'), (rs_A gr'), (rs_A fs), (rs_A tb), (rs_AB L))) : wpX_anyBit post ((nI lim), (nI cnt), (nI ned), (nI op), (nI cp), cy, (nI nc), (rs_A kd), (rs_A vl), (rs_A rg), (rs_A ip), (rs_A wdf), (rs_A odf), (rs_A ws), (rs_A ost), (rs_A fo), (rs_A so), (rs_A to), (rs_A en), (rs_A ord), (rs_A res), (rs_A gl), (rs_A gr), (rs_A fs), (rs_A tb), (rs_AB L)) y := by
  subst hy
  exact ⟨9, xb_any_l hp hn hb H 8 0 1 nc gl gr rfl ⟨by omega, rs_ex_r hW, by have := hW.1; omega, fun L z => rs_lv_b z.1 true⟩⟩
theorem xb_cho_l {post : SX → Prop} {i p q r sel : Nat} (hi : i ≤ 48) (hq : q ≤ 48) (hr : r ≤ 48) (hqi : q ≠ i) (hri : r ≠ i) (hn : nc + 80 ≤ 3937) (hb : ∀ x, x < 8 → tb (q * 8 + x) < 2 * nc) (hb' : ∀ x, x < 8 → tb (r * 8 + x) < 2 * nc) (H : ∀ nc' gl' gr' tb', rs_St (rs_Wmx (rs_Tan tb p) tb q tb r) i 8 80 nc gl gr tb nc' gl' gr' tb' → post ((nI lim), (nI cnt), (nI ned), (nI op), (nI cp), cy, (nI nc'), (rs_A kd), (rs_A vl), (rs_A rg), (rs_A ip), (rs_A wdf), (rs_A odf), (rs_A ws), (rs_A ost), (rs_A fo), (rs_A so), (rs_A to), (rs_A en), (rs_A ord), (rs_A res), (rs_A gl'), (rs_A gr'), (rs_A fs), (rs_A tb'), (rs_AB L))) : ∀ d j nc' gl' gr' tb', j + d = 8 → rs_St (rs_Wmx (rs_Tan tb p) tb q tb r) i j (8 + 3 * j) nc gl gr tb nc' gl' gr' tb' → sel < 2 * nc' → (∀ L, rs_Md nc' gl' gr' L → rs_lv L sel = rs_Tan tb p L) → wX_buildChoice_35 post (nI i) (nI sel) (nI (q * 8)) (nI (r * 8)) (d + 1) (nI j) (nI lim) (nI cnt) (nI ned) (nI op) (nI cp) cy (nI nc') (rs_A kd) (rs_A vl) (rs_A rg) (rs_A ip) (rs_A wdf) (rs_A odf) (rs_A ws) (rs_A ost) (rs_A fo) (rs_A so) (rs_A to) (rs_A en) (rs_A ord) (rs_A res) (rs_A gl') (rs_A gr') (rs_A fs) (rs_A tb') (rs_AB L) := by
  intro d
  induction d with
  | zero =>
    intro j nc' gl' gr' tb' hj S hc hC
    have e : j = 8 := by omega
    subst e
    exact br_t xa_8t (H _ _ _ _ (rs_st_g S (by omega)))
  | succ d ih =>
    intro j nc' gl' gr' tb' hj S hc hC
    have e1 : rs_A tb' (nI (q * 8) + nI j).toNatClampNeg = nI (tb (q * 8 + j)) := by
      rw [xa_rx hq (by omega), rs_st_rd S (by omega) hqi (by omega)]
    have e2 : rs_A tb' (nI (r * 8) + nI j).toNatClampNeg = nI (tb (r * 8 + j)) := by
      rw [xa_rx hr (by omega), rs_st_rd S (by omega) hri (by omega)]
    have g1 := S.1
    have v1 := S.2.1.1
    have b1 := hb j (by omega)
    have b2 := hb' j (by omega)
    refine br_f (xa_8f (by omega)) ⟨xa_ix hq (by omega), xa_ix hr (by omega), ?_⟩
    refine xa_mux sel (tb (q * 8 + j)) (tb (r * 8 + j)) rfl e1 e2 S.2.1.2.1 (by omega) hc (by omega) (by omega) fun l1 nc1 gl1 gr1 G1 => ?_
    have g2 := G1.1
    have v2 := G1.2.1.1
    refine ⟨xa_iy hi (by omega), nm_r (xa_uy hi (by omega)) (nm_r (nI_1 j) ?_)⟩
    refine ih (j + 1) nc1 gl1 gr1 _ (by omega) (rs_st_s S G1.2.1 (by omega) G1.2.2.1 fun L z => ?_) (by omega) fun L z => hC L (G1.2.1.2.2 L z)
    rw [G1.2.2.2 L z]
    dsimp only
    rw [hC L (G1.2.1.2.2 L z)]
    rfl
theorem xb_cho {post : SX → Prop} {i p q r : Nat} (hW : rs_WF nc gl gr) (hi : i ≤ 48) (hp : p ≤ 48) (hq : q ≤ 48) (hr : r ≤ 48) (hqi : q ≠ i) (hri : r ≠ i) (hf : fo i = p) (hs : so i = q) (ht : to i = r) (hn : nc + 80 ≤ 3937) (ha : ∀ x, x < 8 → tb (p * 8 + x) < 2 * nc) (hb : ∀ x, x < 8 → tb (q * 8 + x) < 2 * nc) (hb' : ∀ x, x < 8 → tb (r * 8 + x) < 2 * nc) (H : ∀ nc' gl' gr' tb', rs_St (rs_Wmx (rs_Tan tb p) tb q tb r) i 8 80 nc gl gr tb nc' gl' gr' tb' → post ((nI lim), (nI cnt), (nI ned), (nI op), (nI cp), cy, (nI nc'), (rs_A kd), (rs_A vl), (rs_A rg), (rs_A ip), (rs_A wdf), (rs_A odf), (rs_A ws), (rs_A ost), (rs_A fo), (rs_A so), (rs_A to), (rs_A en), (rs_A ord), (rs_A res), (rs_A gl'), (rs_A gr'), (rs_A fs), (rs_A tb'), (rs_AB L))) : wpX_buildChoice post ((nI lim), (nI cnt), (nI ned), (nI op), (nI cp), cy, (nI nc), (rs_A kd), (rs_A vl), (rs_A rg), (rs_A ip), (rs_A wdf), (rs_A odf), (rs_A ws), (rs_A ost), (rs_A fo), (rs_A so), (rs_A to), (rs_A en), (rs_A ord), (rs_A res), (rs_A gl), (rs_A gr), (rs_A fs), (rs_A tb), (rs_AB L)) (nI i) := by
  have e : rs_A fo (nI i).toNatClampNeg = nI p := by rw [rs_Ax i rfl (by omega), hf]
  refine ⟨pk_in i 49 (by omega), xb_any e hW hp (by omega) ha fun l nc1 gl1 gr1 G => ?_⟩
  exact ⟨pk_in i 49 (by omega), nm_r (xa_f8 hi hs) ⟨pk_in i 49 (by omega), nm_r (xa_f8 hi ht) ⟨9, xb_cho_l hi hq hr hqi hri hn hb hb' H 8 0 nc1 gl1 gr1 tb rfl (rs_st_0 (by have := G.1; omega) G.2.1) G.2.2.1 G.2.2.2⟩⟩⟩
theorem xb_reg_l {post : SX → Prop} {p q v sel : Nat} (hq : q ≤ 48) (hv : v < 8) (hn : nc + 80 ≤ 3937) (hb : ∀ x, x < 8 → tb (q * 8 + x) < 2 * nc) (hb' : ∀ x, x < 8 → fs (v * 8 + x) < 2 * nc) (H : ∀ nc' gl' gr' fs', rs_St (rs_Wmx (rs_Tan tb p) tb q fs v) v 8 80 nc gl gr fs nc' gl' gr' fs' → post ((nI lim), (nI cnt), (nI ned), (nI op), (nI cp), cy, (nI nc'), (rs_A kd), (rs_A vl), (rs_A rg), (rs_A ip), (rs_A wdf), (rs_A odf), (rs_A ws), (rs_A ost), (rs_A fo), (rs_A so), (rs_A to), (rs_A en), (rs_A ord), (rs_A res), (rs_A gl'), (rs_A gr'), (rs_A fs'), (rs_A tb), (rs_AB L))) : ∀ d j nc' gl' gr' fs', j + d = 8 → rs_St (rs_Wmx (rs_Tan tb p) tb q fs v) v j (8 + 3 * j) nc gl gr fs nc' gl' gr' fs' → sel < 2 * nc' → (∀ L, rs_Md nc' gl' gr' L → rs_lv L sel = rs_Tan tb p L) → wX_buildRegset_35 post (nI sel) (nI (q * 8)) (nI (v * 8)) (d + 1) (nI j) (nI lim) (nI cnt) (nI ned) (nI op) (nI cp) cy (nI nc') (rs_A kd) (rs_A vl) (rs_A rg) (rs_A ip) (rs_A wdf) (rs_A odf) (rs_A ws) (rs_A ost) (rs_A fo) (rs_A so) (rs_A to) (rs_A en) (rs_A ord) (rs_A res) (rs_A gl') (rs_A gr') (rs_A fs') (rs_A tb) (rs_AB L) := by
  intro d
  induction d with
  | zero =>
    intro j nc' gl' gr' fs' hj S hc hC
    have e : j = 8 := by omega
    subst e
    exact br_t xa_8t (H _ _ _ _ (rs_st_g S (by omega)))
  | succ d ih =>
    intro j nc' gl' gr' fs' hj S hc hC
    have e2 : rs_A fs' (nI (v * 8) + nI j).toNatClampNeg = nI (fs (v * 8 + j)) := by
      rw [xa_rx (by omega) (by omega), S.2.2.1 _ (Or.inr (Nat.le_refl _))]
    have iv : vp_in (nI (v * 8) + nI j) 64 := by rw [nI_add]; exact vp_in_nI (by omega) (by decide)
    have g1 := S.1
    have v1 := S.2.1.1
    have b1 := hb j (by omega)
    have b2 := hb' j (by omega)
    refine br_f (xa_8f (by omega)) ⟨xa_ix hq (by omega), iv, ?_⟩
    refine xa_mux sel (tb (q * 8 + j)) (fs (v * 8 + j)) rfl (xa_rx hq (by omega)) e2 S.2.1.2.1 (by omega) hc (by omega) (by omega) fun l1 nc1 gl1 gr1 G1 => ?_
    have g2 := G1.1
    have v2 := G1.2.1.1
    refine ⟨iv, nm_r (xa_ux (by omega) (by omega)) (nm_r (nI_1 j) ?_)⟩
    refine ih (j + 1) nc1 gl1 gr1 _ (by omega) (rs_st_s S G1.2.1 (by omega) G1.2.2.1 fun L z => ?_) (by omega) fun L z => hC L (G1.2.1.2.2 L z)
    rw [G1.2.2.2 L z]
    dsimp only
    rw [hC L (G1.2.1.2.2 L z)]
    rfl
theorem xb_reg {post : SX → Prop} {i p q v : Nat} (hW : rs_WF nc gl gr) (hi : i < 48) (hp : p ≤ 48) (hq : q ≤ 48) (hv : v < 8) (hf : fo i = p) (hs : so i = q) (hvi : vl i = v) (hn : nc + 80 ≤ 3937) (ha : ∀ x, x < 8 → tb (p * 8 + x) < 2 * nc) (hb : ∀ x, x < 8 → tb (q * 8 + x) < 2 * nc) (hb' : ∀ x, x < 8 → fs (v * 8 + x) < 2 * nc) (H : ∀ nc' gl' gr' fs', rs_St (rs_Wmx (rs_Tan tb p) tb q fs v) v 8 80 nc gl gr fs nc' gl' gr' fs' → post ((nI lim), (nI cnt), (nI ned), (nI op), (nI cp), cy, (nI nc'), (rs_A kd), (rs_A vl), (rs_A rg), (rs_A ip), (rs_A wdf), (rs_A odf), (rs_A ws), (rs_A ost), (rs_A fo), (rs_A so), (rs_A to), (rs_A en), (rs_A ord), (rs_A res), (rs_A gl'), (rs_A gr'), (rs_A fs'), (rs_A tb), (rs_AB L))) : wpX_buildRegset post ((nI lim), (nI cnt), (nI ned), (nI op), (nI cp), cy, (nI nc), (rs_A kd), (rs_A vl), (rs_A rg), (rs_A ip), (rs_A wdf), (rs_A odf), (rs_A ws), (rs_A ost), (rs_A fo), (rs_A so), (rs_A to), (rs_A en), (rs_A ord), (rs_A res), (rs_A gl), (rs_A gr), (rs_A fs), (rs_A tb), (rs_AB L)) (nI i) := by
  have e : rs_A fo (nI i).toNatClampNeg = nI p := by rw [rs_Ax i rfl (by omega), hf]
  refine ⟨pk_in i 49 (by omega), xb_any e hW hp (by omega) ha fun l nc1 gl1 gr1 G => ?_⟩
  exact ⟨pk_in i 49 (by omega), nm_r (xa_f8 (by omega) hs) ⟨pk_in i 48 (by omega), nm_r (xa_f8 (by omega) hvi) ⟨9, xb_reg_l hq hv hn hb hb' H 8 0 nc1 gl1 gr1 fs rfl (rs_st_0 (by have := G.1; omega) G.2.1) G.2.2.1 G.2.2.2⟩⟩⟩
end

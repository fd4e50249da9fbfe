/-! bitwise operators, routed literals, the choice of the builder, the loop over the tokens -/
section
variable {lim cnt ned op cp nc : Nat} {cy : Int32} {kd vl rg ip wdf odf ws ost fo so to en ord res gl gr fs tb : Nat → Nat} {L : Nat → Bool}
theorem xb_bw_w {post : SX → Prop} {J : Int32 → Int32 → Int32 → Int32 → Int32 → Int32 → Int32 → Int32 → (Nat → Int32) → (Nat → Int32) → (Nat → Int32) → (Nat → Int32) → (Nat → Int32) → (Nat → Int32) → (Nat → Int32) → (Nat → Int32) → (Nat → Int32) → (Nat → Int32) → (Nat → Int32) → (Nat → Int32) → (Nat → Int32) → (Nat → Int32) → (Nat → Int32) → (Nat → Int32) → (Nat → Int32) → (Nat → Int32) → (Nat → Int32) → Prop} {x2 x3 : Int32} {i j o : Nat} (hi : i ≤ 48) (hj : j < 8) (K : J (nI (j + 1)) (nI lim) (nI cnt) (nI ned) (nI op) (nI cp) cy (nI nc) (rs_A kd) (rs_A vl) (rs_A rg) (rs_A ip) (rs_A wdf) (rs_A odf) (rs_A ws) (rs_A ost) (rs_A fo) (rs_A so) (rs_A to) (rs_A en) (rs_A ord) (rs_A res) (rs_A gl) (rs_A gr) (rs_A fs) (rs_A (rs_u tb (i * 8 + j) o)) (rs_AB L)) : wX_buildBitwise_129 post J (nI i) x2 x3 (nI j) (nI o) (nI lim) (nI cnt) (nI ned) (nI op) (nI cp) cy (nI nc) (rs_A kd) (rs_A vl) (rs_A rg) (rs_A ip) (rs_A wdf) (rs_A odf) (rs_A ws) (rs_A ost) (rs_A fo) (rs_A so) (rs_A to) (rs_A en) (rs_A ord) (rs_A res) (rs_A gl) (rs_A gr) (rs_A fs) (rs_A tb) (rs_AB L) :=
  ⟨xa_iy hi hj, nm_r (xa_uy hi hj) (nm_r (nI_1 j) K)⟩
theorem xb_bw_l {post : SX → Prop} {i p q v : Nat} (hi : i < 48) (hp : p ≤ 48) (hq : q ≤ 48) (hpi : p ≠ i) (hv : vl i = v) (hv1 : v = 1 ∨ v = 5 ∨ v = 6 ∨ v = 7) (hqi : v ≠ 1 → q ≠ i) (hn : nc + 80 ≤ 3937) (hb : ∀ x, x < 8 → tb (p * 8 + x) < 2 * nc) (hb' : v ≠ 1 → ∀ x, x < 8 → tb (q * 8 + x) < 2 * nc) (H : ∀ nc' gl' gr' tb', rs_St (rs_Wbw tb p q v) i 8 80 nc gl gr tb nc' gl' gr' tb' → post ((nI lim), (nI cnt), (nI ned), (nI op), (nI cp), cy, (nI nc'), (rs_A kd), (rs_A vl), (rs_A rg), (rs_A ip), (rs_A wdf), (rs_A odf), (rs_A ws), (rs_A ost), (rs_A fo), (rs_A so), (rs_A to), (rs_A en), (rs_A ord), (rs_A res), (rs_A gl'), (rs_A gr'), (rs_A fs), (rs_A tb'), (rs_AB L))) : ∀ d j nc' gl' gr' tb', j + d = 8 → rs_St (rs_Wbw tb p q v) i j (3 * j) nc gl gr tb nc' gl' gr' tb' → wX_buildBitwise_23 post (nI i) (nI (p * 8)) (nI (q * 8)) (d + 1) (nI j) (nI lim) (nI cnt) (nI ned) (nI op) (nI cp) cy (nI nc') (rs_A kd) (rs_A vl) (rs_A rg) (rs_A ip) (rs_A wdf) (rs_A odf) (rs_A ws) (rs_A ost) (rs_A fo) (rs_A so) (rs_A to) (rs_A en) (rs_A ord) (rs_A res) (rs_A gl') (rs_A gr') (rs_A fs) (rs_A tb') (rs_AB L) := by
  intro d
  induction d with
  | zero =>
    intro j nc' gl' gr' tb' hj S
    have e : j = 8 := by omega
    subst e
    exact br_t xa_8t (H _ _ _ _ (rs_st_g S (by omega)))
  | succ d ih =>
    intro j nc' gl' gr' tb' hj S
    have e1 : rs_A tb' (nI (p * 8) + nI j).toNatClampNeg = nI (tb (p * 8 + j)) := by
      rw [xa_rx hp (by omega), rs_st_rd S (by omega) hpi (by omega)]
    have ev : rs_A vl (nI i).toNatClampNeg = nI v := by rw [rs_Ax i rfl (by omega), hv]
    have g1 := S.1
    have v1 := S.2.1.1
    have b1 := hb j (by omega)
    refine br_f (xa_8f (by omega)) ⟨xa_ix hp (by omega), nm_r e1 ⟨xa_ix hq (by omega), nm_r (xa_rx hq (by omega)) ⟨pk_in i 48 (by omega), nm_r ev ?_⟩⟩⟩
    rcases hv1 with h | h | h | h
    · subst h
      refine br_t (by decide) (nm_r (rs_x1I _) (xb_bw_w (by omega) (by omega) (ih (j + 1) nc' gl' gr' _ (by omega) (rs_st_s S (rs_ex_r S.2.1.2.1) (by omega) (rs_x1l (by omega)) fun L z => ?_))))
      rw [rs_lv_n]
      rfl
    all_goals
      have b2 := hb' (by omega) j (by omega)
      have e2 : tb' (q * 8 + j) = tb (q * 8 + j) := rs_st_rd S (by omega) (hqi (by omega)) (by omega)
      subst h
      rw [e2]
    · refine br_f (by decide) (br_f (by decide) (br_t rfl ?_))
      refine xa_and (tb (p * 8 + j)) (tb (q * 8 + j)) rfl rfl S.2.1.2.1 (by omega) (by omega) (by omega) fun l1 nc1 gl1 gr1 G1 => ?_
      have g2 := G1.1
      refine xb_bw_w (by omega) (by omega) (ih (j + 1) nc1 gl1 gr1 _ (by omega) (rs_st_s S G1.2.1 (by omega) G1.2.2.1 fun L z => ?_))
      rw [G1.2.2.2 L z]
      dsimp only
      rfl
    · refine br_f (by decide) (br_f (by decide) (br_f (by decide) (br_t rfl ?_)))
      refine xa_or (tb (p * 8 + j)) (tb (q * 8 + j)) rfl rfl S.2.1.2.1 (by omega) (by omega) (by omega) fun l1 nc1 gl1 gr1 G1 => ?_
      have g2 := G1.1
      refine xb_bw_w (by omega) (by omega) (ih (j + 1) nc1 gl1 gr1 _ (by omega) (rs_st_s S G1.2.1 (by omega) G1.2.2.1 fun L z => ?_))
      rw [G1.2.2.2 L z]
      dsimp only
      rfl
    · refine br_f (by decide) (br_f (by decide) (br_f (by decide) (br_f (by decide) (br_t rfl ?_))))
      refine xa_xor (tb (p * 8 + j)) (tb (q * 8 + j)) rfl rfl S.2.1.2.1 (by omega) (by omega) (by omega) fun l1 nc1 gl1 gr1 G1 => ?_
      have g2 := G1.1
      refine xb_bw_w (by omega) (by omega) (ih (j + 1) nc1 gl1 gr1 _ (by omega) (rs_st_s S G1.2.1 (by omega) G1.2.2.1 fun L z => ?_))
      rw [G1.2.2.2 L z]
      dsimp only
      rfl
theorem xb_bw {post : SX → Prop} {i p q v : Nat} (hW : rs_WF nc gl gr) (hi : i < 48) (hp : p ≤ 48) (hq : q ≤ 48) (hpi : p ≠ i) (hf : fo i = p) (hs : so i = q) (hv : vl i = v) (hv1 : v = 1 ∨ v = 5 ∨ v = 6 ∨ v = 7) (hqi : v ≠ 1 → q ≠ i) (hn : nc + 80 ≤ 3937) (hb : ∀ x, x < 8 → tb (p * 8 + x) < 2 * nc) (hb' : v ≠ 1 → ∀ x, x < 8 → tb (q * 8 + x) < 2 * nc) (H : ∀ nc' gl' gr' tb', rs_St (rs_Wbw tb p q v) i 8 80 nc gl gr tb nc' gl' gr' tb' → post ((nI lim), (nI cnt), (nI ned), (nI op), (nI cp), cy, (nI nc'), (rs_A kd), (rs_A vl), (rs_A rg), (rs_A ip), (rs_A wdf), (rs_A odf), (rs_A ws), (rs_A ost), (rs_A fo), (rs_A so), (rs_A to), (rs_A en), (rs_A ord), (rs_A res), (rs_A gl'), (rs_A gr'), (rs_A fs), (rs_A tb'), (rs_AB L))) : wpX_buildBitwise post ((nI lim), (nI cnt), (nI ned), (nI op), (nI cp), cy, (nI nc), (rs_A kd), (rs_A vl), (rs_A rg), (rs_A ip), (rs_A wdf), (rs_A odf), (rs_A ws), (rs_A ost), (rs_A fo), (rs_A so), (rs_A to), (rs_A en), (rs_A ord), (rs_A res), (rs_A gl), (rs_A gr), (rs_A fs), (rs_A tb), (rs_AB L)) (nI i) :=
  ⟨pk_in i 49 (by omega), nm_r (xa_f8 (by omega) hf) ⟨pk_in i 49 (by omega), nm_r (xa_f8 (by omega) hs) ⟨9, xb_bw_l hi hp hq hpi hv hv1 hqi hn hb hb' H 8 0 nc gl gr tb rfl (rs_st_0 (by omega) (rs_ex_r hW))⟩⟩⟩
/-- an operator -/
theorem xb_op {post : SX → Prop} {i p q r v : Nat} (hW : rs_WF nc gl gr) (hi : i < 48) (hp : p ≤ 48) (hq : q ≤ 48) (hr : r ≤ 48) (hpi : p ≠ i) (hv : vl i = v) (hv1 : 1 ≤ v) (hv2 : v ≤ 11) (hqi : v ≠ 1 → v ≠ 2 → q ≠ i) (hri : v = 11 → r ≠ i) (hf : fo i = p) (hs : so i = q) (ht : to i = r) (hn : nc + 80 ≤ 3937) (ha : ∀ x, x < 8 → tb (p * 8 + x) < 2 * nc) (hb : v ≠ 1 → v ≠ 2 → ∀ x, x < 8 → tb (q * 8 + x) < 2 * nc) (hc : v = 11 → ∀ x, x < 8 → tb (r * 8 + x) < 2 * nc) (H : ∀ nc' gl' gr' tb', rs_St (rs_Wop tb p q r v) i 8 80 nc gl gr tb nc' gl' gr' tb' → post ((nI lim), (nI cnt), (nI ned), (nI op), (nI cp), cy, (nI nc'), (rs_A kd), (rs_A vl), (rs_A rg), (rs_A ip), (rs_A wdf), (rs_A odf), (rs_A ws), (rs_A ost), (rs_A fo), (rs_A so), (rs_A to), (rs_A en), (rs_A ord), (rs_A res), (rs_A gl'), (rs_A gr'), (rs_A fs), (rs_A tb'), (rs_AB L))) : wpX_buildOperator post ((nI lim), (nI cnt), (nI ned), (nI op), (nI cp), cy, (nI nc), (rs_A kd), (rs_A vl), (rs_A rg), (rs_A ip), (rs_A wdf), (rs_A odf), (rs_A ws), (rs_A ost), (rs_A fo), (rs_A so), (rs_A to), (rs_A en), (rs_A ord), (rs_A res), (rs_A gl), (rs_A gr), (rs_A fs), (rs_A tb), (rs_AB L)) (nI i) := by
  have ev : rs_A vl (nI i).toNatClampNeg = nI v := by rw [rs_Ax i rfl (by omega), hv]
  refine ⟨pk_in i 48 (by omega), nm_r ev ?_⟩
  rcases (by omega : v = 1 ∨ v = 2 ∨ v = 3 ∨ v = 4 ∨ v = 5 ∨ v = 6 ∨ v = 7 ∨ v = 8 ∨ v = 9 ∨ v = 10 ∨ v = 11) with h | h | h | h | h | h | h | h | h | h | h <;> subst h
  · exact br_t (by decide) (xb_bw (v := 1) hW hi hp hq hpi hf hs hv (by decide) (fun z => absurd rfl z) hn ha (fun z => absurd rfl z) H)
  · exact br_f (by decide) (br_f (by decide) (br_t rfl (xb_neg hW (by omega) hp hpi hf hn ha H)))
  · exact br_f (by decide) (br_f (by decide) (br_f (by decide) (br_t rfl (xb_sum (s := false) rfl hW (by omega) hp hq hpi (hqi (by decide) (by decide)) hf hs hn ha (hb (by decide) (by decide)) H))))
  · exact br_f (by decide) (br_f (by decide) (br_f (by decide) (br_f (by decide) (br_t rfl (xb_sum (s := true) rfl hW (by omega) hp hq hpi (hqi (by decide) (by decide)) hf hs hn ha (hb (by decide) (by decide)) H)))))
  · exact br_f (by decide) (br_f (by decide) (br_f (by decide) (br_f (by decide) (br_f (by decide) (br_t rfl (xb_bw (v := 5) hW hi hp hq hpi hf hs hv (by decide) (fun z => hqi z (by decide)) hn ha (fun z => hb z (by decide)) H))))))
  · exact br_f (by decide) (br_f (by decide) (br_f (by decide) (br_f (by decide) (br_f (by decide) (br_f (by decide) (br_t rfl (xb_bw (v := 6) hW hi hp hq hpi hf hs hv (by decide) (fun z => hqi z (by decide)) hn ha (fun z => hb z (by decide)) H)))))))
  · exact br_f (by decide) (br_f (by decide) (br_f (by decide) (br_f (by decide) (br_f (by decide) (br_f (by decide) (br_f (by decide) (br_t rfl (xb_bw (v := 7) hW hi hp hq hpi hf hs hv (by decide) (fun z => hqi z (by decide)) hn ha (fun z => hb z (by decide)) H))))))))
  · exact br_f (by decide) (br_f (by decide) (br_f (by decide) (br_f (by decide) (br_f (by decide) (br_f (by decide) (br_f (by decide) (br_f (by decide) (br_t rfl (xb_eq hW (by omega) hp hq hf hs hn ha (hb (by decide) (by decide)) H)))))))))
  · exact br_f (by decide) (br_f (by decide) (br_f (by decide) (br_f (by decide) (br_f (by decide) (br_f (by decide) (br_f (by decide) (br_f (by decide) (br_f (by decide) (br_t rfl (xb_lt (s := false) rfl hW (by omega) hp hq hf hs hn ha (hb (by decide) (by decide)) H))))))))))
  · exact br_f (by decide) (br_f (by decide) (br_f (by decide) (br_f (by decide) (br_f (by decide) (br_f (by decide) (br_f (by decide) (br_f (by decide) (br_f (by decide) (br_f (by decide) (br_t rfl (xb_lt (s := true) rfl hW (by omega) hp hq hf hs hn ha (hb (by decide) (by decide)) H)))))))))))
  · exact br_f (by decide) (br_f (by decide) (br_f (by decide) (br_f (by decide) (br_f (by decide) (br_f (by decide) (br_f (by decide) (br_f (by decide) (br_f (by decide) (br_f (by decide) (br_f (by decide) (br_t rfl (xb_cho hW (by omega) hp hq hr (hqi (by decide) (by decide)) (hri rfl) hf hs ht hn ha (hb (by decide) (by decide)) (hc rfl) H))))))))))))
/-- a routed literal -/
theorem xb_rb {post : Int32 → Prop} {i j k v : Nat} (hW : rs_WF nc gl gr) (hi : i < 48) (hj : j < 8) (hk : kd i = k) (hv : vl i = v) (hk1 : k = 1 ∨ k = 2 ∨ k = 3 ∨ k = 4 ∨ k = 6 ∨ k = 7 ∨ k = 8 ∨ k = 9 ∨ k = 10) (hv2 : k = 2 → v < 4) (hv8 : k ≠ 1 → v < 8) (hvb : v < 256) (hfo : fo i ≤ 48) (hws : k = 4 → ws v ≤ 48 ∧ tb (ws v * 8 + j) < 2 * nc) (ha : 6 ≤ k → ∀ x, x < 8 → tb (fo i * 8 + x) < 2 * nc) (H : ∀ o, o < 2 * nc → (∀ L, L 0 = false → rs_lv L o = rs_Wrt tb (fo i) (ws v) k v L j) → post (nI o)) : wpX_routedBit post ((nI lim), (nI cnt), (nI ned), (nI op), (nI cp), cy, (nI nc), (rs_A kd), (rs_A vl), (rs_A rg), (rs_A ip), (rs_A wdf), (rs_A odf), (rs_A ws), (rs_A ost), (rs_A fo), (rs_A so), (rs_A to), (rs_A en), (rs_A ord), (rs_A res), (rs_A gl), (rs_A gr), (rs_A fs), (rs_A tb), (rs_AB L)) (nI i) (nI j) := by
  have w := hW.1
  have ev : rs_A vl (nI i).toNatClampNeg = nI v := by rw [rs_Ax i rfl (by omega), hv]
  have ek : rs_A kd (nI i).toNatClampNeg = nI k := by rw [rs_Ax i rfl (by omega), hk]
  refine ⟨pk_in i 48 (by omega), nm_r ev ⟨pk_in i 49 (by omega), nm_r (xa_f8 (by omega) rfl) ⟨pk_in i 48 (by omega), nm_r ek ?_⟩⟩⟩
  have D : 6 ≤ k → (∀ L, rs_rd L tb (fo i) j = rs_Wrt tb (fo i) (ws v) k v L j) → vp_in (nI (fo i * 8) + nI j) 392 ∧ post (rs_A tb (nI (fo i * 8) + nI j).toNatClampNeg) := fun h6 e =>
    ⟨xa_ix hfo hj, xa_cv (xa_rx hfo hj) (H _ (ha h6 j hj) fun L _ => e L)⟩
  rcases hk1 with h | h | h | h | h | h | h | h | h <;> subst h
  · refine br_f (by decide) (br_f (by decide) (br_t rfl ?_))
    have e : (nI v >>> (nI j &&& 31)) &&& 1 = nI (v / 2 ^ j % 2) := rs_shI (by omega) (by omega)
    refine xa_cv e (H _ (by omega) fun L h0 => ?_)
    rw [← Nat.toNat_testBit]
    exact rs_lv_b h0 _
  · refine br_f (by decide) (br_f (by decide) (br_f (by decide) (br_t rfl ?_)))
    have hv := hv2 rfl
    have e : 2 * (1 + nI v * 8 + nI j) = nI (2 * (1 + (v * 8 + j))) := by
      rw [show nI v * 8 = nI (v * 8) from pk_mul v 8, show 1 + nI (v * 8) = nI (1 + v * 8) from nI_add 1 _, nI_add, Nat.add_assoc]
      exact pk_mul 2 _
    refine xa_cv e (H _ (by omega) fun L h0 => ?_)
    exact rs_lv_2 L _
  · refine br_f (by decide) (br_f (by decide) (br_f (by decide) (br_f (by decide) (br_t rfl ?_))))
    have hv := hv8 (by decide)
    have e : 2 * (33 + nI v * 8 + nI j) = nI (2 * (33 + (v * 8 + j))) := by
      rw [show nI v * 8 = nI (v * 8) from pk_mul v 8, show 33 + nI (v * 8) = nI (33 + v * 8) from nI_add 33 _, nI_add, Nat.add_assoc]
      exact pk_mul 2 _
    refine xa_cv e (H _ (by omega) fun L h0 => ?_)
    exact rs_lv_2 L _
  · refine br_f (by decide) (br_f (by decide) (br_f (by decide) (br_f (by decide) (br_f (by decide) (br_t rfl ?_)))))
    obtain ⟨w1, w2⟩ := hws rfl
    have ew : rs_A ws (nI v).toNatClampNeg = nI (ws v) := rs_Ax v rfl (by omega)
    have hv := hv8 (by decide)
    refine ⟨pk_in v 8 hv, ?_⟩
    rw [ew]
    exact ⟨xa_iy w1 hj, xa_cv (xa_ry w1 hj) (H _ w2 fun L _ => rfl)⟩
  · refine br_f (by decide) (br_f (by decide) (br_f (by decide) (br_f (by decide) (br_f (by decide) (br_f (by decide) (br_f (by decide) (br_t rfl ?_)))))))
    have hv := hv8 (by decide)
    refine pk_lt j v (fun h => ?_) fun h => ?_
    · refine H 0 (by omega) fun L h0 => ?_
      show _ = (decide (v ≤ j) && _)
      rw [decide_eq_false (by omega), Bool.false_and]
      exact rs_lv_b h0 false
    · have e : nI (fo i * 8) + nI j - nI v = nI (fo i * 8) + nI (j - v) := by
        rw [nI_add, nI_add, pk_sub (by omega), Nat.add_sub_assoc h]
      rw [e]
      refine ⟨xa_ix hfo (by omega), xa_cv (xa_rx hfo (by omega)) (H _ (ha (by decide) _ (by omega)) fun L _ => ?_)⟩
      show _ = (decide (v ≤ j) && _)
      rw [decide_eq_true h, Bool.true_and]
      rfl
  · refine br_f (by decide) (br_f (by decide) (br_f (by decide) (br_f (by decide) (br_f (by decide) (br_f (by decide) (br_f (by decide) (br_f (by decide) (br_t rfl ?_))))))))
    have hv := hv8 (by decide)
    refine pk_le 8 (j + v) (fun h => ?_) (fun h => ?_) rfl (nI_add j v)
    · refine H 0 (by omega) fun L h0 => ?_
      show _ = (decide (j + v < 8) && _)
      rw [decide_eq_false (by omega), Bool.false_and]
      exact rs_lv_b h0 false
    · have e : nI (fo i * 8) + nI j + nI v = nI (fo i * 8) + nI (j + v) := by
        rw [nI_add, nI_add, nI_add, Nat.add_assoc]
      rw [e]
      refine ⟨xa_ix hfo (by omega), xa_cv (xa_rx hfo (by omega)) (H _ (ha (by decide) _ (by omega)) fun L _ => ?_)⟩
      show _ = (decide (j + v < 8) && _)
      rw [decide_eq_true h, Bool.true_and]
      rfl
  · refine br_f (by decide) (br_f (by decide) (br_f (by decide) (br_f (by decide) (br_f (by decide) (br_f (by decide) (br_f (by decide) (br_f (by decide) (br_f (by decide) (br_t rfl ?_)))))))))
    have hv := hv8 (by decide)
    refine pk_eq j 0 (fun h => ?_) fun h => ?_
    · refine ⟨xa_ix hfo (by omega), xa_cv (xa_rx hfo (by omega)) (H _ (ha (by decide) _ (by omega)) fun L _ => ?_)⟩
      show _ = (decide (j = 0) && _)
      rw [decide_eq_true h, Bool.true_and]
      rfl
    · refine H 0 (by omega) fun L h0 => ?_
      show _ = (decide (j = 0) && _)
      rw [decide_eq_false h, Bool.false_and]
      exact rs_lv_b h0 false
  · exact br_f (by decide) (br_t (by decide) (D (by decide) fun L => rfl))
  · exact br_f (by decide) (br_t (by decide) (D (by decide) fun L => rfl))
end

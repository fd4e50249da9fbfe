/-! the gate builders -/
section
variable {lim cnt ned op cp nc : Nat} {cy : Int32} {kd vl rg ip wdf odf ws ost fo so to en ord res gl gr fs tb : Nat → Nat} {L : Nat → Bool}
theorem xa_cv {P : Int32 → Prop} {x y : Int32} (e : x = y) (h : P y) : P x := e ▸ h
theorem xa_and {post : Int32 → SX → Prop} {x y : Int32} (a b : Nat) (hx : x = nI a) (hy : y = nI b) (hW : rs_WF nc gl gr) (hn : nc + 1 ≤ 3937) (ha : a < 2 * nc) (hb : b < 2 * nc) (H : ∀ l nc' gl' gr', rs_G nc gl gr nc' gl' gr' l 1 (fun L => rs_lv L a && rs_lv L b) → post (nI l) ((nI lim), (nI cnt), (nI ned), (nI op), (nI cp), cy, (nI nc'), (rs_A kd), (rs_A vl), (rs_A rg), (rs_A ip), (rs_A wdf), (rs_A odf), (rs_A ws), (rs_A ost), (rs_A fo), (rs_A so), (rs_A to), (rs_A en), (rs_A ord), (rs_A res), (rs_A gl'), (rs_A gr'), (rs_A fs), (rs_A tb), (rs_AB L))) : wpX_andGate post ((nI lim), (nI cnt), (nI ned), (nI op), (nI cp), cy, (nI nc), (rs_A kd), (rs_A vl), (rs_A rg), (rs_A ip), (rs_A wdf), (rs_A odf), (rs_A ws), (rs_A ost), (rs_A fo), (rs_A so), (rs_A to), (rs_A en), (rs_A ord), (rs_A res), (rs_A gl), (rs_A gr), (rs_A fs), (rs_A tb), (rs_AB L)) x y := by
  subst hx hy
  have h1 : upd (rs_A gl) (nI nc).toNatClampNeg (nI a) = rs_A (rs_u gl nc a) := by
    rw [nI_clamp (by omega)]; exact rs_upd _ _ _
  have h2 : upd (rs_A gr) (nI nc).toNatClampNeg (nI b) = rs_A (rs_u gr nc b) := by
    rw [nI_clamp (by omega)]; exact rs_upd _ _ _
  have K := H _ _ _ _ (rs_g_and hW ha hb)
  exact br_t (nI_lt (b := 3937) (by omega) (by decide)) ⟨pk_in nc 3937 (by omega), nm_r h1 ⟨pk_in nc 3937 (by omega), nm_r h2 (nm_r (nI_1 nc) (xa_cv (P := fun r => post r _) (pk_mul 2 nc) K))⟩⟩
theorem xa_or {post : Int32 → SX → Prop} {x y : Int32} (a b : Nat) (hx : x = nI a) (hy : y = nI b) (hW : rs_WF nc gl gr) (hn : nc + 1 ≤ 3937) (ha : a < 2 * nc) (hb : b < 2 * nc) (H : ∀ l nc' gl' gr', rs_G nc gl gr nc' gl' gr' l 1 (fun L => rs_lv L a || rs_lv L b) → post (nI l) ((nI lim), (nI cnt), (nI ned), (nI op), (nI cp), cy, (nI nc'), (rs_A kd), (rs_A vl), (rs_A rg), (rs_A ip), (rs_A wdf), (rs_A odf), (rs_A ws), (rs_A ost), (rs_A fo), (rs_A so), (rs_A to), (rs_A en), (rs_A ord), (rs_A res), (rs_A gl'), (rs_A gr'), (rs_A fs), (rs_A tb), (rs_AB L))) : wpX_orGate post ((nI lim), (nI cnt), (nI ned), (nI op), (nI cp), cy, (nI nc), (rs_A kd), (rs_A vl), (rs_A rg), (rs_A ip), (rs_A wdf), (rs_A odf), (rs_A ws), (rs_A ost), (rs_A fo), (rs_A so), (rs_A to), (rs_A en), (rs_A ord), (rs_A res), (rs_A gl), (rs_A gr), (rs_A fs), (rs_A tb), (rs_AB L)) x y := by
  subst hx hy
  unfold wpX_orGate
  refine xa_and (a ^^^ 1) (b ^^^ 1) (rs_x1I a) (rs_x1I b) hW hn (rs_x1l ha) (rs_x1l hb) fun l nc' gl' gr' G => ?_
  exact xa_cv (P := fun r => post r _) (rs_x1I l) (H _ _ _ _ (rs_g_F (rs_g_n G) fun L z => by
    simp only [rs_lv_n]
    cases rs_lv L a <;> cases rs_lv L b <;> rfl))
theorem xa_xor {post : Int32 → SX → Prop} {x y : Int32} (a b : Nat) (hx : x = nI a) (hy : y = nI b) (hW : rs_WF nc gl gr) (hn : nc + 3 ≤ 3937) (ha : a < 2 * nc) (hb : b < 2 * nc) (H : ∀ l nc' gl' gr', rs_G nc gl gr nc' gl' gr' l 3 (fun L => rs_lv L a ^^ rs_lv L b) → post (nI l) ((nI lim), (nI cnt), (nI ned), (nI op), (nI cp), cy, (nI nc'), (rs_A kd), (rs_A vl), (rs_A rg), (rs_A ip), (rs_A wdf), (rs_A odf), (rs_A ws), (rs_A ost), (rs_A fo), (rs_A so), (rs_A to), (rs_A en), (rs_A ord), (rs_A res), (rs_A gl'), (rs_A gr'), (rs_A fs), (rs_A tb), (rs_AB L))) : wpX_xorGate post ((nI lim), (nI cnt), (nI ned), (nI op), (nI cp), cy, (nI nc), (rs_A kd), (rs_A vl), (rs_A rg), (rs_A ip), (rs_A wdf), (rs_A odf), (rs_A ws), (rs_A ost), (rs_A fo), (rs_A so), (rs_A to), (rs_A en), (rs_A ord), (rs_A res), (rs_A gl), (rs_A gr), (rs_A fs), (rs_A tb), (rs_AB L)) x y := by
  subst hx hy
  unfold wpX_xorGate
  refine xa_and a b rfl rfl hW (by omega) ha hb fun l1 nc1 gl1 gr1 G1 => ?_
  have w1 := G1.1
  have v1 := G1.2.1.1
  refine xa_and (a ^^^ 1) (b ^^^ 1) (rs_x1I a) (rs_x1I b) G1.2.1.2.1 (by omega) (rs_x1l (by omega)) (rs_x1l (by omega)) fun l2 nc2 gl2 gr2 G2 => ?_
  have w2 := G2.1
  have u1 := rs_g_up G1 G2.2.1
  refine xa_and (l1 ^^^ 1) (l2 ^^^ 1) (rs_x1I l1) (rs_x1I l2) G2.2.1.2.1 (by omega) (rs_x1l u1.1) (rs_x1l G2.2.2.1) fun l3 nc3 gl3 gr3 G3 => ?_
  refine H _ _ _ _ (rs_g_F (rs_g_t G1 (rs_g_t G2 G3)) fun L z => ?_)
  have e1 := (rs_g_up G1 (rs_ex_t G2.2.1 G3.2.1)).2 L z
  have e2 := (rs_g_up G2 G3.2.1).2 L z
  simp only [rs_lv_n, e1, e2]
  cases rs_lv L a <;> cases rs_lv L b <;> rfl
theorem xa_mux {post : Int32 → SX → Prop} {x y w : Int32} (a b c : Nat) (hx : x = nI a) (hy : y = nI b) (hw : w = nI c) (hW : rs_WF nc gl gr) (hn : nc + 3 ≤ 3937) (ha : a < 2 * nc) (hb : b < 2 * nc) (hc : c < 2 * nc) (H : ∀ l nc' gl' gr', rs_G nc gl gr nc' gl' gr' l 3 (fun L => bif rs_lv L a then rs_lv L b else rs_lv L c) → post (nI l) ((nI lim), (nI cnt), (nI ned), (nI op), (nI cp), cy, (nI nc'), (rs_A kd), (rs_A vl), (rs_A rg), (rs_A ip), (rs_A wdf), (rs_A odf), (rs_A ws), (rs_A ost), (rs_A fo), (rs_A so), (rs_A to), (rs_A en), (rs_A ord), (rs_A res), (rs_A gl'), (rs_A gr'), (rs_A fs), (rs_A tb), (rs_AB L))) : wpX_muxGate post ((nI lim), (nI cnt), (nI ned), (nI op), (nI cp), cy, (nI nc), (rs_A kd), (rs_A vl), (rs_A rg), (rs_A ip), (rs_A wdf), (rs_A odf), (rs_A ws), (rs_A ost), (rs_A fo), (rs_A so), (rs_A to), (rs_A en), (rs_A ord), (rs_A res), (rs_A gl), (rs_A gr), (rs_A fs), (rs_A tb), (rs_AB L)) x y w := by
  subst hx hy hw
  unfold wpX_muxGate
  refine xa_and a b rfl rfl hW (by omega) ha hb fun l1 nc1 gl1 gr1 G1 => ?_
  have w1 := G1.1
  have v1 := G1.2.1.1
  refine xa_and (a ^^^ 1) c (rs_x1I a) rfl G1.2.1.2.1 (by omega) (rs_x1l (by omega)) (by omega) fun l2 nc2 gl2 gr2 G2 => ?_
  have w2 := G2.1
  have u1 := rs_g_up G1 G2.2.1
  refine xa_and (l1 ^^^ 1) (l2 ^^^ 1) (rs_x1I l1) (rs_x1I l2) G2.2.1.2.1 (by omega) (rs_x1l u1.1) (rs_x1l G2.2.2.1) fun l3 nc3 gl3 gr3 G3 => ?_
  refine xa_cv (P := fun r => post r _) (rs_x1I l3) (H _ _ _ _ (rs_g_F (rs_g_n (rs_g_t G1 (rs_g_t G2 G3))) fun L z => ?_))
  have e1 := (rs_g_up G1 (rs_ex_t G2.2.1 G3.2.1)).2 L z
  have e2 := (rs_g_up G2 G3.2.1).2 L z
  simp only [rs_lv_n, e1, e2]
  cases rs_lv L a <;> cases rs_lv L b <;> cases rs_lv L c <;> rfl
theorem xa_maj {post : Int32 → SX → Prop} {x y w : Int32} (a b c : Nat) (hx : x = nI a) (hy : y = nI b) (hw : w = nI c) (hW : rs_WF nc gl gr) (hn : nc + 4 ≤ 3937) (ha : a < 2 * nc) (hb : b < 2 * nc) (hc : c < 2 * nc) (H : ∀ l nc' gl' gr', rs_G nc gl gr nc' gl' gr' l 4 (fun L => Bool.atLeastTwo (rs_lv L a) (rs_lv L b) (rs_lv L c)) → post (nI l) ((nI lim), (nI cnt), (nI ned), (nI op), (nI cp), cy, (nI nc'), (rs_A kd), (rs_A vl), (rs_A rg), (rs_A ip), (rs_A wdf), (rs_A odf), (rs_A ws), (rs_A ost), (rs_A fo), (rs_A so), (rs_A to), (rs_A en), (rs_A ord), (rs_A res), (rs_A gl'), (rs_A gr'), (rs_A fs), (rs_A tb), (rs_AB L))) : wpX_majorityGate post ((nI lim), (nI cnt), (nI ned), (nI op), (nI cp), cy, (nI nc), (rs_A kd), (rs_A vl), (rs_A rg), (rs_A ip), (rs_A wdf), (rs_A odf), (rs_A ws), (rs_A ost), (rs_A fo), (rs_A so), (rs_A to), (rs_A en), (rs_A ord), (rs_A res), (rs_A gl), (rs_A gr), (rs_A fs), (rs_A tb), (rs_AB L)) x y w := by
  subst hx hy hw
  unfold wpX_majorityGate
  refine xa_and a b rfl rfl hW (by omega) ha hb fun l1 nc1 gl1 gr1 G1 => ?_
  have w1 := G1.1
  have v1 := G1.2.1.1
  refine xa_and (a ^^^ 1) (b ^^^ 1) (rs_x1I a) (rs_x1I b) G1.2.1.2.1 (by omega) (rs_x1l (by omega)) (rs_x1l (by omega)) fun l2 nc2 gl2 gr2 G2 => ?_
  have w2 := G2.1
  have v2 := G2.2.1.1
  have u1 := rs_g_up G1 G2.2.1
  refine xa_and (l2 ^^^ 1) c (rs_x1I l2) rfl G2.2.1.2.1 (by omega) (rs_x1l G2.2.2.1) (by omega) fun l3 nc3 gl3 gr3 G3 => ?_
  have w3 := G3.1
  have u2 := rs_g_up G1 (rs_ex_t G2.2.1 G3.2.1)
  refine xa_and (l1 ^^^ 1) (l3 ^^^ 1) (rs_x1I l1) (rs_x1I l3) G3.2.1.2.1 (by omega) (rs_x1l u2.1) (rs_x1l G3.2.2.1) fun l4 nc4 gl4 gr4 G4 => ?_
  refine xa_cv (P := fun r => post r _) (rs_x1I l4) (H _ _ _ _ (rs_g_F (rs_g_n (rs_g_t G1 (rs_g_t G2 (rs_g_t G3 G4)))) fun L z => ?_))
  have e1 := (rs_g_up G1 (rs_ex_t G2.2.1 (rs_ex_t G3.2.1 G4.2.1))).2 L z
  have e2 := (rs_g_up G2 (rs_ex_t G3.2.1 G4.2.1)).2 L z
  have e3 := (rs_g_up G3 G4.2.1).2 L z
  simp only [rs_lv_n, e1, e2, e3]
  cases rs_lv L a <;> cases rs_lv L b <;> cases rs_lv L c <;> rfl
end

/-! interpreting; the next values; the clock by interpretation -/
section
variable {lim cnt ned op cp nc : Nat} {cy : Int32} {kd vl rg ip wdf odf ws ost fo so to en ord res gl gr fs tb : Nat → Nat} {L : Nat → Bool}
theorem xo_op {post : Int32 → Prop} {v a b c : Nat} (hv1 : 1 ≤ v) (hv : v ≤ 11) (ha : a < 256) (hb : b < 256) (hc : c < 256) (H : post (nI (rs_f v a b c))) : wpX_operate post (nI v) (nI a) (nI b) (nI c) := by
  rcases (by omega : v = 1 ∨ v = 2 ∨ v = 3 ∨ v = 4 ∨ v = 5 ∨ v = 6 ∨ v = 7 ∨ v = 8 ∨ v = 9 ∨ v = 10 ∨ v = 11) with h | h | h | h | h | h | h | h | h | h | h <;> subst h
  · exact br_f (by decide) (br_f (by decide) (br_t rfl (xa_cv (show 255 - nI a = nI (255 - a) from pk_sub (a := 255) (by omega)) H)))
  · exact br_f (by decide) (br_f (by decide) (br_f (by decide) (br_t rfl (xa_cv (rs_neg a ha) H))))
  · exact br_f (by decide) (br_f (by decide) (br_f (by decide) (br_f (by decide) (br_t rfl (xa_cv (by rw [nI_add]; exact rs_m8 (by omega)) H)))))
  · exact br_f (by decide) (br_f (by decide) (br_f (by decide) (br_f (by decide) (br_f (by decide) (br_t rfl (xa_cv (rs_sb ha hb) H))))))
  · exact br_f (by decide) (br_f (by decide) (br_f (by decide) (br_f (by decide) (br_f (by decide) (br_f (by decide) (br_t rfl (xa_cv (nx_and a b) H)))))))
  · exact br_f (by decide) (br_f (by decide) (br_f (by decide) (br_f (by decide) (br_f (by decide) (br_f (by decide) (br_f (by decide) (br_t rfl (xa_cv (rs_or a b) H))))))))
  · exact br_f (by decide) (br_f (by decide) (br_f (by decide) (br_f (by decide) (br_f (by decide) (br_f (by decide) (br_f (by decide) (br_f (by decide) (br_t rfl (xa_cv (nx_xor a b) H)))))))))
  · refine br_f (by decide) (br_f (by decide) (br_f (by decide) (br_f (by decide) (br_f (by decide) (br_f (by decide) (br_f (by decide) (br_f (by decide) (br_f (by decide) (br_t rfl ?_)))))))))
    have e : rs_f 8 a b c = if a = b then 1 else 0 := rfl
    rw [e] at H
    refine pk_eq a b (fun h => ?_) fun h => ?_
    · rw [if_pos h] at H; exact H
    · rw [if_neg h] at H; exact H
  · refine br_f (by decide) (br_f (by decide) (br_f (by decide) (br_f (by decide) (br_f (by decide) (br_f (by decide) (br_f (by decide) (br_f (by decide) (br_f (by decide) (br_f (by decide) (br_t rfl ?_))))))))))
    have e : rs_f 9 a b c = if a < b then 1 else 0 := rfl
    rw [e] at H
    refine pk_le b a (fun h => ?_) fun h => ?_
    · rw [if_neg (by omega)] at H; exact H
    · rw [if_pos h] at H; exact H
  · refine br_f (by decide) (br_f (by decide) (br_f (by decide) (br_f (by decide) (br_f (by decide) (br_f (by decide) (br_f (by decide) (br_f (by decide) (br_f (by decide) (br_f (by decide) (br_f (by decide) (br_t rfl ?_)))))))))))
    have e : rs_f 10 a b c = if a ^^^ 128 < b ^^^ 128 then 1 else 0 := rfl
    rw [e] at H
    have x1 : a ^^^ 128 < 2 ^ 8 := Nat.xor_lt_two_pow (n := 8) ha (by decide)
    have x2 : b ^^^ 128 < 2 ^ 8 := Nat.xor_lt_two_pow (n := 8) hb (by decide)
    refine pk_le (b ^^^ 128) (a ^^^ 128) (fun h => ?_) (fun h => ?_) (nx_xor b 128) (nx_xor a 128) (Nat.lt_of_lt_of_le x2 (by decide)) (Nat.lt_of_lt_of_le x1 (by decide))
    · rw [if_neg (Nat.not_lt.mpr h)] at H; exact H
    · rw [if_pos h] at H; exact H
  · refine br_f (by decide) (br_t (by decide) ?_)
    have e : rs_f 11 a b c = if a = 0 then c else b := rfl
    rw [e] at H
    refine pk_eq a 0 (fun h => ?_) fun h => ?_
    · rw [if_pos h] at H; exact H
    · rw [if_neg h] at H; exact H
theorem xo_me {post : Int32 → Prop} {i : Nat} (hi : i < 48) (ok : rs_ok (kd i) (vl i)) (hF : rs_LF kd vl en fo so to i) (hb : fo i ≤ 48 ∧ so i ≤ 48 ∧ to i ≤ 48) (hw : kd i = 4 → ws (vl i) ≤ 48) (hr : ∀ p, res p < 256) (H : post (nI (rs_me kd vl en ws ip rg res i))) : wpX_meaningOf post ((nI lim), (nI cnt), (nI ned), (nI op), (nI cp), cy, (nI nc), (rs_A kd), (rs_A vl), (rs_A rg), (rs_A ip), (rs_A wdf), (rs_A odf), (rs_A ws), (rs_A ost), (rs_A fo), (rs_A so), (rs_A to), (rs_A en), (rs_A ord), (rs_A res), (rs_A gl), (rs_A gr), (rs_A fs), (rs_A tb), (rs_AB L)) (nI i) := by
  obtain ⟨g1, g2, g5, g10, g8⟩ := rs_rng ok
  obtain ⟨f1, f2, f3⟩ := hF
  obtain ⟨k1, k2, k3, k4⟩ := ok
  obtain ⟨b1, b2, b3⟩ := hb
  have ev : rs_A vl (nI i).toNatClampNeg = nI (vl i) := rs_Ax i rfl (by omega)
  have ek : rs_A kd (nI i).toNatClampNeg = nI (kd i) := rs_Ax i rfl (by omega)
  have ef : rs_A fo (nI i).toNatClampNeg = nI (fo i) := rs_Ax i rfl (by omega)
  have es : rs_A so (nI i).toNatClampNeg = nI (so i) := rs_Ax i rfl (by omega)
  have et : rs_A to (nI i).toNatClampNeg = nI (to i) := rs_Ax i rfl (by omega)
  have i1 : vp_in (rs_A fo (nI i).toNatClampNeg) 49 := by rw [ef]; exact vp_in_nI (by omega) (by decide)
  have i2 : vp_in (rs_A so (nI i).toNatClampNeg) 49 := by rw [es]; exact vp_in_nI (by omega) (by decide)
  have i3 : vp_in (rs_A to (nI i).toNatClampNeg) 49 := by rw [et]; exact vp_in_nI (by omega) (by decide)
  have e1 : rs_A res (rs_A fo (nI i).toNatClampNeg).toNatClampNeg = nI (res (fo i)) := rs_Ax _ ef (by omega)
  have e2 : rs_A res (rs_A so (nI i).toNatClampNeg).toNatClampNeg = nI (res (so i)) := rs_Ax _ es (by omega)
  have e3 : rs_A res (rs_A to (nI i).toNatClampNeg).toNatClampNeg = nI (res (to i)) := rs_Ax _ et (by omega)
  have a1 := hr (fo i)
  unfold rs_me at H
  refine ⟨pk_in i 48 hi, nm_r ev ⟨pk_in i 49 (by omega), i1, nm_r e1 ⟨pk_in i 48 hi, nm_r ek ?_⟩⟩⟩
  rcases (by omega : kd i = 1 ∨ kd i = 2 ∨ kd i = 3 ∨ kd i = 4 ∨ kd i = 5 ∨ kd i = 6 ∨ kd i = 7 ∨ kd i = 8 ∨ 9 ≤ kd i) with h | h | h | h | h | h | h | h | h
  · rw [h] at H ⊢
    exact br_f (by decide) (br_f (by decide) (br_t rfl H))
  · have := g2 h
    rw [h] at H ⊢
    exact br_f (by decide) (br_f (by decide) (br_f (by decide) (br_t rfl ⟨pk_in (vl i) 4 (by omega), xa_cv (rs_Ax _ rfl (by omega)) H⟩)))
  · have := g8 (by omega) (by omega)
    rw [h] at H ⊢
    exact br_f (by decide) (br_f (by decide) (br_f (by decide) (br_f (by decide) (br_t rfl ⟨pk_in (vl i) 8 (by omega), xa_cv (rs_Ax _ rfl (by omega)) H⟩))))
  · have := g8 (by omega) (by omega)
    have w := hw h
    have ew : rs_A ws (nI (vl i)).toNatClampNeg = nI (ws (vl i)) := rs_Ax _ rfl (by omega)
    rw [h] at H ⊢
    exact br_f (by decide) (br_f (by decide) (br_f (by decide) (br_f (by decide) (br_f (by decide) (br_t rfl ⟨pk_in (vl i) 8 (by omega), by rw [ew]; exact vp_in_nI (by omega) (by decide), xa_cv (rs_Ax _ ew (by omega)) H⟩)))))
  · obtain ⟨v1, v2⟩ := g5 h
    have s1 := f1 (rs_ar_6 (by omega))
    have eq : rs_f (vl i) (res (i + 1)) (res (en (i + 1))) (res (en (en (i + 1)))) = rs_f (vl i) (res (fo i)) (res (so i)) (res (to i)) := by
      rw [s1]
      exact rs_f_c v1 v2 (fun n1 n2 => by rw [f2 (rs_ar_2 h n1 n2 v1)]) fun n => by rw [f3 (rs_ar_3 h n)]
    rw [h] at H ⊢
    refine br_f (by decide) (br_f (by decide) (br_f (by decide) (br_f (by decide) (br_f (by decide) (br_f (by decide) (br_t rfl ⟨pk_in i 49 (by omega), i2, pk_in i 49 (by omega), i3, ?_⟩))))))
    rw [e2, e3]
    refine xo_op v1 v2 a1 (hr _) (hr _) ?_
    rw [← eq]
    exact H
  all_goals have s1 := f1 (rs_ar_6 (by omega))
  · have := g8 (by omega) (by omega)
    rw [h, ← s1] at H
    rw [h]
    exact br_f (by decide) (br_f (by decide) (br_f (by decide) (br_f (by decide) (br_f (by decide) (br_f (by decide) (br_f (by decide) (br_t rfl (xa_cv (rs_shl8 a1 (by omega)) H))))))))
  · have := g8 (by omega) (by omega)
    rw [h, ← s1] at H
    rw [h]
    exact br_f (by decide) (br_f (by decide) (br_f (by decide) (br_f (by decide) (br_f (by decide) (br_f (by decide) (br_f (by decide) (br_f (by decide) (br_t rfl (xa_cv (rs_shrI (by omega) (by omega)) H)))))))))
  · have := g8 (by omega) (by omega)
    rw [h, ← s1] at H
    rw [h]
    exact br_f (by decide) (br_f (by decide) (br_f (by decide) (br_f (by decide) (br_f (by decide) (br_f (by decide) (br_f (by decide) (br_f (by decide) (br_f (by decide) (br_t rfl (xa_cv (rs_shI (by omega) (by omega)) H))))))))))
  · rw [if_neg (by omega), if_neg (by omega), if_neg (by omega), if_neg (by omega), if_neg (by omega), if_neg (by omega), if_neg (by omega), if_neg (by omega), ← s1] at H
    exact br_f (nI_nlt (b := 1) (by omega) (by omega)) (br_t (nI_lt (a := 8) (by omega) (by omega)) H)
theorem xo_int_l {post : SX → Prop} (hc : cnt ≤ 48) (hO : ∀ i, i < cnt → rs_ok (kd i) (vl i)) (hF : ∀ i, i < cnt → rs_LF kd vl en fo so to i) (hb : ∀ x, fo x ≤ 48 ∧ so x ≤ 48 ∧ to x ≤ 48) (ho : ∀ k, k < cnt → ord k = rs_po kd vl en k ∧ rs_po kd vl en k < cnt) (hw : ∀ i, i < cnt → kd i = 4 → ws (vl i) ≤ 48) (hB : rs_B ip rg) (H : (∀ p, rs_RS kd vl en ws ip rg res cnt p < 256) → post ((nI lim), (nI cnt), (nI ned), (nI op), (nI cp), cy, (nI nc), (rs_A kd), (rs_A vl), (rs_A rg), (rs_A ip), (rs_A wdf), (rs_A odf), (rs_A ws), (rs_A ost), (rs_A fo), (rs_A so), (rs_A to), (rs_A en), (rs_A ord), (rs_A (rs_RS kd vl en ws ip rg res cnt)), (rs_A gl), (rs_A gr), (rs_A fs), (rs_A tb), (rs_AB L))) : ∀ d k, k + d = cnt → (∀ p, rs_RS kd vl en ws ip rg res k p < 256) → wX_interpret_2 post (nI lim) (nI cnt) (nI ned) (nI op) (nI cp) cy (nI nc) (d + 1) (nI k) (rs_A kd) (rs_A vl) (rs_A rg) (rs_A ip) (rs_A wdf) (rs_A odf) (rs_A ws) (rs_A ost) (rs_A fo) (rs_A so) (rs_A to) (rs_A en) (rs_A ord) (rs_A (rs_RS kd vl en ws ip rg res k)) (rs_A gl) (rs_A gr) (rs_A fs) (rs_A tb) (rs_AB L) := by
  intro d
  induction d with
  | zero =>
    intro k hk hr
    have e : k = cnt := by omega
    subst e
    exact br_t (nI_le (Nat.le_refl _) (by omega)) (H hr)
  | succ d ih =>
    intro k hk hr
    obtain ⟨o1, o2⟩ := ho k (by omega)
    have eo : rs_A ord (nI k).toNatClampNeg = nI (rs_po kd vl en k) := by rw [rs_Ax k rfl (by omega), o1]
    have eu : upd (rs_A (rs_RS kd vl en ws ip rg res k)) (nI (rs_po kd vl en k)).toNatClampNeg (nI (rs_me kd vl en ws ip rg (rs_RS kd vl en ws ip rg res k) (rs_po kd vl en k))) = rs_A (rs_RS kd vl en ws ip rg res (k + 1)) := by
      rw [nI_clamp (by omega)]; exact rs_upd _ _ _
    refine br_f (nI_ge (by omega) (by omega)) ⟨pk_in k 49 (by omega), nm_r eo (xo_me (by omega) (hO _ o2) (hF _ o2) (hb _) (hw _ o2) hr ?_)⟩
    refine ⟨pk_in (rs_po kd vl en k) 49 (by omega), nm_r eu (nm_r (nI_1 k) (ih (k + 1) (by omega) fun p => ?_))⟩
    by_cases e : p = rs_po kd vl en k
    · rw [e]; exact Nat.lt_of_le_of_lt (Nat.le_of_eq rs_us) (rs_me_lt (hO _ o2) hB hr)
    · exact Nat.lt_of_le_of_lt (Nat.le_of_eq (rs_un e)) (hr p)
/-- what holds once compiled -/
def rs_C (cnt : Nat) (kd vl ws fo so to en ord : Nat → Nat) (nc : Nat) (gl gr fs tb : Nat → Nat) : Prop := rs_Pg kd vl en ws cnt ∧ (∀ i, i < cnt → rs_LF kd vl en fo so to i) ∧ (∀ x, fo x ≤ 48 ∧ so x ≤ 48 ∧ to x ≤ 48) ∧ (∀ k, k < cnt → ord k = rs_po kd vl en k) ∧ rs_J kd vl en ws cnt cnt nc gl gr tb fs
theorem xo_int {post : SX → Prop} (hc : cnt ≤ 48) (C : rs_C cnt kd vl ws fo so to en ord nc gl gr fs tb) (hB : rs_B ip rg) (hr : ∀ p, res p < 256) (H : ∀ R, rs_So kd vl en ws ip rg cnt R → (∀ p, R p < 256) → post ((nI lim), (nI cnt), (nI ned), (nI op), (nI cp), cy, (nI nc), (rs_A kd), (rs_A vl), (rs_A rg), (rs_A ip), (rs_A wdf), (rs_A odf), (rs_A ws), (rs_A ost), (rs_A fo), (rs_A so), (rs_A to), (rs_A en), (rs_A ord), (rs_A R), (rs_A gl), (rs_A gr), (rs_A fs), (rs_A tb), (rs_AB L))) : wpX_interpret post ((nI lim), (nI cnt), (nI ned), (nI op), (nI cp), cy, (nI nc), (rs_A kd), (rs_A vl), (rs_A rg), (rs_A ip), (rs_A wdf), (rs_A odf), (rs_A ws), (rs_A ost), (rs_A fo), (rs_A so), (rs_A to), (rs_A en), (rs_A ord), (rs_A res), (rs_A gl), (rs_A gr), (rs_A fs), (rs_A tb), (rs_AB L)) := by
  obtain ⟨P, hF, hb, ho, J⟩ := C
  exact ⟨cnt + 1, xo_int_l hc P.2.2.2.1 hF hb (fun k hk => ⟨ho k hk, (rs_po_p P.1 P.2.1 hk).2.2.2.2⟩) (fun i hi h => by
    obtain ⟨j, j1, j2, j3⟩ := P.2.2.1 i hi h
    omega) hB (fun h => H _ (rs_RS_so P ip rg res) h) cnt 0 (by omega) hr⟩
theorem xo_nx_l {post : Int32 → Prop} {r : Nat} {rg0 : Nat → Nat} (hr8 : r < 8) (hc : cnt ≤ 48) (hO : ∀ i, i < cnt → rs_ok (kd i) (vl i)) (hF : ∀ i, i < cnt → rs_LF kd vl en fo so to i) (hb : ∀ x, fo x ≤ 48 ∧ so x ≤ 48 ∧ to x ≤ 48) (hr : ∀ p, res p < 256) (H : post (nI (rs_nz kd vl en res rg0 r cnt))) : ∀ d k, k + d = cnt → wX_nextOf_9 post (nI r) (nI lim) (nI cnt) (nI ned) (nI op) (nI cp) cy (nI nc) (rs_A kd) (rs_A vl) (rs_A rg) (rs_A ip) (rs_A wdf) (rs_A odf) (rs_A ws) (rs_A ost) (rs_A fo) (rs_A so) (rs_A to) (rs_A en) (rs_A ord) (rs_A res) (rs_A gl) (rs_A gr) (rs_A fs) (rs_A tb) (rs_AB L) (d + 1) (nI (rs_nz kd vl en res rg0 r k)) (nI k) := by
  intro d
  induction d with
  | zero =>
    intro k hk
    have e : k = cnt := by omega
    subst e
    exact br_t (nI_le (Nat.le_refl _) (by omega)) H
  | succ d ih =>
    intro k hk
    obtain ⟨g1, g2, g5, g10, g8⟩ := rs_rng (hO k (by omega))
    obtain ⟨f1, f2, f3⟩ := hF k (by omega)
    obtain ⟨b1, b2, b3⟩ := hb k
    obtain ⟨k1, k2, k3, k4⟩ := hO k (by omega)
    have ev : rs_A vl (nI k).toNatClampNeg = nI (vl k) := rs_Ax k rfl (by omega)
    have ek : rs_A kd (nI k).toNatClampNeg = nI (kd k) := rs_Ax k rfl (by omega)
    have ef : rs_A fo (nI k).toNatClampNeg = nI (fo k) := rs_Ax k rfl (by omega)
    have es : rs_A so (nI k).toNatClampNeg = nI (so k) := rs_Ax k rfl (by omega)
    have i1 : vp_in (rs_A fo (nI k).toNatClampNeg) 49 := by rw [ef]; exact vp_in_nI (by omega) (by decide)
    have i2 : vp_in (rs_A so (nI k).toNatClampNeg) 49 := by rw [es]; exact vp_in_nI (by omega) (by decide)
    have e1 : rs_A res (rs_A fo (nI k).toNatClampNeg).toNatClampNeg = nI (res (fo k)) := rs_Ax _ ef (by omega)
    have e2 : rs_A res (rs_A so (nI k).toNatClampNeg).toNatClampNeg = nI (res (so k)) := rs_Ax _ es (by omega)
    have a1 := hr (fo k)
    have N := ih (k + 1) (by omega)
    have K : ¬ (kd k = 11 ∧ vl k = r ∧ res (k + 1) ≠ 0) → wX_nextOf_9 post (nI r) (nI lim) (nI cnt) (nI ned) (nI op) (nI cp) cy (nI nc) (rs_A kd) (rs_A vl) (rs_A rg) (rs_A ip) (rs_A wdf) (rs_A odf) (rs_A ws) (rs_A ost) (rs_A fo) (rs_A so) (rs_A to) (rs_A en) (rs_A ord) (rs_A res) (rs_A gl) (rs_A gr) (rs_A fs) (rs_A tb) (rs_AB L) (d + 1) (nI (rs_nz kd vl en res rg0 r k)) (nI (k + 1)) := fun z => by
      have e : rs_nz kd vl en res rg0 r (k + 1) = rs_nz kd vl en res rg0 r k := if_neg z
      rw [e] at N
      exact N
    refine br_f (nI_ge (by omega) (by omega)) ⟨pk_in k 48 (by omega), ?_⟩
    refine pk_eq (kd k) 11 (fun h => ⟨pk_in k 48 (by omega), pk_eq (vl k) r (fun h' => ⟨pk_in k 49 (by omega), i1, ?_⟩) (fun h' => nm_r (nI_1 k) (K fun z => h' z.2.1)) ev rfl⟩) (fun h => nm_r (nI_1 k) (K fun z => h z.1)) ek rfl
    have ar : rs_ar (kd k) (vl k) = 2 := by rw [h]; rfl
    have s1 := f1 (by rw [ar]; decide)
    have s2 := f2 (by rw [ar]; decide)
    refine pk_eq (res (fo k)) 0 (fun z => nm_r (nI_1 k) (K fun y => y.2.2 (by rw [← s1]; exact z))) (fun z => ⟨pk_in k 49 (by omega), i2, nm_r e2 (nm_r (nI_1 k) ?_)⟩) e1 rfl
    have e : rs_nz kd vl en res rg0 r (k + 1) = res (so k) := by
      rw [s2]
      exact if_pos ⟨h, h', by rw [← s1]; exact z⟩
    rw [e] at N
    exact N
end

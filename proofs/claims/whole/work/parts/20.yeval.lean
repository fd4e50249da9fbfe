/-! the reference: ends and values of expressions -/
theorem ya_tab : ∀ a, a < 256 → (if a < 128 then nI a else nI a - 256) = nI (a ^^^ 128) - nI 128 := by decide +kernel
theorem ya_sle {x y : Nat} (hx : x < 256) (hy : y < 256) : nI y - nI 128 ≤ nI x - nI 128 ↔ y ≤ x := by
  rw [Int32.le_iff_toInt_le, pk_sub_toInt (by omega) (by omega), pk_sub_toInt (by omega) (by omega)]
  omega
theorem ya_n1 {n a : Nat} (h : 1 ≤ n) : nI n + (nI a - 1) = nI (n + a - 1) := by
  rw [← pk_sub (b := 1) (by omega), ← nI_add]
  rw [Int32.sub_eq_add_neg, Int32.sub_eq_add_neg, Int32.add_assoc]
  rfl
theorem ya_neg : ∀ a, a < 256 → (256 - nI a) &&& 255 = nI ((256 - a) % 256) := by decide +kernel
theorem ya_sb {a b : Nat} (ha : a < 256) (hb : b < 256) : ((nI a - nI b) + 256) &&& 255 = nI ((a + 256 - b) % 256) := by
  have e : nI a - nI b + 256 = nI (a + 256 - b) := by
    rw [← pk_sub (by omega), ← nI_add]
    rw [Int32.sub_eq_add_neg, Int32.sub_eq_add_neg, Int32.add_assoc, Int32.add_assoc, Int32.add_comm (-nI b)]
    rfl
  rw [e]
  exact rs_m8 (by omega)
theorem ya_m7 {v : Nat} (h : v < 8) : nI v &&& 7 = nI v := by
  rw [pk_andN (by omega) 3 (by decide), Nat.mod_eq_of_lt h]
theorem ya_m3 {v : Nat} (h : v < 4) : nI v &&& 3 = nI v := by
  rw [pk_andN (by omega) 2 (by decide), Nat.mod_eq_of_lt h]
section
variable {lim cnt ned okd oix cp : Nat} {cy : Int32} {kd vl rg ip wv wdf odf st nx : Nat → Nat}
theorem ya_ar {post : Int32 → Prop} {x y : Int32} (k v : Nat) (hx : x = nI k) (hy : y = nI v) (h1 : 1 ≤ k) (h2 : k ≤ 8) (hv : v < 256) (hv1 : k = 5 → 1 ≤ v) (H : post (nI (rs_ar k v))) : wpY_arityOf post ((nI lim), (nI cnt), (nI ned), (nI okd), (nI oix), (nI cp), cy, (rs_A kd), (rs_A vl), (rs_A rg), (rs_A ip), (rs_A wv), (rs_A wdf), (rs_A odf), (rs_A st), (rs_A nx)) x y := by
  subst hx hy
  refine pk_lt 4 k (fun h => pk_eq k 5 (fun h5 => ?_) fun h5 => ?_) fun h => ?_
  · have e : rs_ar k v = if v ≤ 2 then 1 else if v = 11 then 3 else 2 := by rw [h5]; rfl
    rw [e] at H
    have v1 := hv1 h5
    refine pk_eq v 1 (fun g => ?_) fun g => pk_eq v 2 (fun g2 => ?_) fun g2 => pk_eq v 11 (fun g3 => ?_) fun g3 => ?_
    · rw [if_pos (by omega)] at H; exact H
    · rw [if_pos (by omega)] at H; exact H
    · rw [if_neg (by omega), if_pos g3] at H; exact H
    · rw [if_neg (by omega), if_neg g3] at H; exact H
  · have e : rs_ar k v = 1 := by
      unfold rs_ar
      rw [if_neg (by omega), if_neg h5, if_neg (by omega)]
    rw [e] at H; exact H
  · have e : rs_ar k v = 0 := by
      unfold rs_ar
      rw [if_pos h]
    rw [e] at H; exact H
theorem ye_end {en ws : Nat → Nat} {post : Int32 → Prop} {y : Int32} (p : Nat) (hy : y = nI p) (P : rs_Pg kd vl en ws cnt) (hc : cnt ≤ 48) (hp : p < cnt) (h1 : 1 ≤ rs_nd kd vl p) (H : post (nI (en p))) : wpY_endOf post ((nI lim), (nI cnt), (nI ned), (nI okd), (nI oix), (nI cp), cy, (rs_A kd), (rs_A vl), (rs_A rg), (rs_A ip), (rs_A wv), (rs_A wdf), (rs_A odf), (rs_A st), (rs_A nx)) y := by
  subst hy
  obtain ⟨a1, a2, a3, a4⟩ := rs_parse P.1 P.2.1 _ p (Nat.le_refl _) hp
  have W : ∀ d i, i + d = en p → p ≤ i → wY_endOf_7 post (nI lim) (nI cnt) (nI ned) (nI okd) (nI oix) (nI cp) cy (rs_A kd) (rs_A vl) (rs_A rg) (rs_A ip) (rs_A wv) (rs_A wdf) (rs_A odf) (rs_A st) (rs_A nx) (d + 1) (nI (rs_nd kd vl i - (rs_nd kd vl p - 1))) (nI i) (nI (i - p)) := by
    intro d
    induction d with
    | zero =>
      intro i hd hi
      have e : i = en p := by omega
      subst e
      have e0 : rs_nd kd vl (en p) - (rs_nd kd vl p - 1) = 0 := by omega
      rw [e0]
      exact br_c (fun _ => H) fun _ => br_c (fun _ => H) fun _ => br_c (fun _ => H) fun _ => br_t (by decide) H
    | succ d ih =>
      intro i hd hi
      obtain ⟨i1, i2, i3⟩ := rs_nest P.1 P.2.1 hp h1 hi (by omega)
      have ok := P.2.2.2.1 i i1
      have k8 := P.2.2.2.2 i i1
      obtain ⟨g1, g2, g5, g10, g8⟩ := rs_rng ok
      have c : rs_nd kd vl p - 1 < rs_nd kd vl i := by
        rcases Nat.lt_or_ge p i with g | g
        · exact a4 i g (by omega)
        · have e : i = p := by omega
          rw [e]; omega
      have nb := rs_nd_le kd vl i
      have hs : rs_nd kd vl (i + 1) = (rs_nd kd vl i - 1) + rs_ar (kd i) (vl i) := rfl
      refine br_f (nI_ge (b := 48) (by omega) (by decide)) (br_f (nI_ge (by omega) (by omega)) (br_f (nI_pos (by omega)) (br_f (nI_nle (by omega) (by omega)) ⟨pk_in i 48 (by omega), pk_in i 48 (by omega), ?_⟩)))
      refine ya_ar (kd i) (vl i) (rs_Ax i rfl (by omega)) (rs_Ax i rfl (by omega)) ok.1 (by omega) g1 ok.2.2.2 ?_
      refine nm_r (ya_n1 (by omega)) (nm_r (nI_1 i) (nm_r (nI_1 (i - p)) ?_))
      have W := ih (i + 1) (by omega) (by omega)
      rw [show rs_nd kd vl (i + 1) - (rs_nd kd vl p - 1) = rs_nd kd vl i - (rs_nd kd vl p - 1) + rs_ar (kd i) (vl i) - 1 by omega, show i + 1 - p = i - p + 1 by omega] at W
      exact W
  have V := W (en p - p) p (by omega) (Nat.le_refl _)
  rw [show rs_nd kd vl p - (rs_nd kd vl p - 1) = 1 by omega, show p - p = 0 by omega] at V
  exact ⟨_, V⟩
theorem ye_s8 {post : Int32 → Prop} {a : Nat} (ha : a < 256) (H : post (nI (a ^^^ 128) - nI 128)) : wpY_s8 post ((nI lim), (nI cnt), (nI ned), (nI okd), (nI oix), (nI cp), cy, (rs_A kd), (rs_A vl), (rs_A rg), (rs_A ip), (rs_A wv), (rs_A wdf), (rs_A odf), (rs_A st), (rs_A nx)) (nI a) := by
  rw [← ya_tab a ha] at H
  refine pk_lt a 128 (fun h => ?_) fun h => ?_
  · rw [if_pos h] at H; exact H
  · rw [if_neg (by omega)] at H; exact H
theorem ye_val {post : Int32 → SY → Prop} {J : Int32 → Int32 → (Nat → Int32) → (Nat → Int32) → (Nat → Int32) → (Nat → Int32) → (Nat → Int32) → (Nat → Int32) → (Nat → Int32) → (Nat → Int32) → (Nat → Int32) → Prop} {x1 x3 x4 : Int32} {k v a b c : Nat} (ok : rs_ok k v) (h8 : k ≤ 8) (ha : a < 256) (hb : b < 256) (hc : c < 256) (K : wY_evalAt_491 post J x1 x3 x4 (nI (rs_mv ip rg wv k v a b c)) (nI lim) (nI cnt) (nI ned) (nI okd) (nI oix) (nI cp) cy (rs_A kd) (rs_A vl) (rs_A rg) (rs_A ip) (rs_A wv) (rs_A wdf) (rs_A odf) (rs_A st) (rs_A nx)) : wY_evalAt_124 post J x1 x3 x4 (nI k) (nI v) (nI a) (nI b) (nI c) (nI lim) (nI cnt) (nI ned) (nI okd) (nI oix) (nI cp) cy (rs_A kd) (rs_A vl) (rs_A rg) (rs_A ip) (rs_A wv) (rs_A wdf) (rs_A odf) (rs_A st) (rs_A nx) := by
  obtain ⟨g1, g2, g5, g10, g8⟩ := rs_rng ok
  have k1 := ok.1
  rcases (by omega : k = 1 ∨ k = 2 ∨ k = 3 ∨ k = 4 ∨ k = 5 ∨ k = 6 ∨ k = 7 ∨ k = 8) with h | h | h | h | h | h | h | h <;> subst h
  · exact br_t rfl K
  · have v4 := g2 rfl
    have e : rs_A ip (nI v &&& 3).toNatClampNeg = nI (ip v) := by rw [ya_m3 v4]; exact rs_Ax v rfl (by omega)
    exact br_f (by decide) (br_t rfl ⟨by rw [ya_m3 v4]; exact vp_in_nI v4 (by decide), nm_r e K⟩)
  · have v8 := g8 (by decide) (by decide)
    have e : rs_A rg (nI v &&& 7).toNatClampNeg = nI (rg v) := by rw [ya_m7 v8]; exact rs_Ax v rfl (by omega)
    exact br_f (by decide) (br_f (by decide) (br_t rfl ⟨by rw [ya_m7 v8]; exact vp_in_nI v8 (by decide), nm_r e K⟩))
  · have v8 := g8 (by decide) (by decide)
    have e : rs_A wv (nI v &&& 7).toNatClampNeg = nI (wv v) := by rw [ya_m7 v8]; exact rs_Ax v rfl (by omega)
    exact br_f (by decide) (br_f (by decide) (br_f (by decide) (br_t rfl ⟨by rw [ya_m7 v8]; exact vp_in_nI v8 (by decide), nm_r e K⟩)))
  · refine br_f (by decide) (br_f (by decide) (br_f (by decide) (br_f (by decide) (br_f (by decide) (br_f (by decide) (br_f (by decide) (br_t rfl ?_)))))))
    obtain ⟨v1, v2⟩ := g5 rfl
    have e : rs_mv ip rg wv 5 v a b c = rs_f v a b c := rfl
    rw [e] at K
    rcases (by omega : v = 1 ∨ v = 2 ∨ v = 3 ∨ v = 4 ∨ v = 5 ∨ v = 6 ∨ v = 7 ∨ v = 8 ∨ v = 9 ∨ v = 10 ∨ v = 11) with h | h | h | h | h | h | h | h | h | h | h <;> subst h
    · exact br_t rfl (nm_r (show 255 - nI a = nI (255 - a) from pk_sub (a := 255) (by omega)) K)
    · exact br_f (by decide) (br_t rfl (nm_r (ya_neg a ha) K))
    · exact br_f (by decide) (br_f (by decide) (br_t rfl (nm_r (by rw [nI_add]; exact rs_m8 (by omega)) K)))
    · exact br_f (by decide) (br_f (by decide) (br_f (by decide) (br_t rfl (nm_r (ya_sb ha hb) K))))
    · exact br_f (by decide) (br_f (by decide) (br_f (by decide) (br_f (by decide) (br_t rfl (nm_r (nx_and a b) K)))))
    · exact br_f (by decide) (br_f (by decide) (br_f (by decide) (br_f (by decide) (br_f (by decide) (br_t rfl (nm_r (rs_or a b) K))))))
    · exact br_f (by decide) (br_f (by decide) (br_f (by decide) (br_f (by decide) (br_f (by decide) (br_f (by decide) (br_t rfl (nm_r (nx_xor a b) K)))))))
    · have e2 : rs_f 8 a b c = if a = b then 1 else 0 := rfl
      rw [e2] at K
      refine br_f (by decide) (br_f (by decide) (br_f (by decide) (br_f (by decide) (br_f (by decide) (br_f (by decide) (br_f (by decide) (br_t rfl ?_)))))))
      refine pk_eq a b (fun h => ?_) fun h => ?_
      · rw [if_pos h] at K; exact K
      · rw [if_neg h] at K; exact K
    · have e2 : rs_f 9 a b c = if a < b then 1 else 0 := rfl
      rw [e2] at K
      refine br_f (by decide) (br_f (by decide) (br_f (by decide) (br_f (by decide) (br_f (by decide) (br_f (by decide) (br_f (by decide) (br_f (by decide) (br_t rfl ?_))))))))
      refine pk_le b a (fun h => ?_) fun h => ?_
      · rw [if_neg (by omega)] at K; exact K
      · rw [if_pos h] at K; exact K
    · have e2 : rs_f 10 a b c = if a ^^^ 128 < b ^^^ 128 then 1 else 0 := rfl
      rw [e2] at K
      have z1 : a ^^^ 128 < 256 := Nat.xor_lt_two_pow (n := 8) ha (by decide)
      have z2 : b ^^^ 128 < 256 := Nat.xor_lt_two_pow (n := 8) hb (by decide)
      refine br_f (by decide) (br_f (by decide) (br_f (by decide) (br_f (by decide) (br_f (by decide) (br_f (by decide) (br_f (by decide) (br_f (by decide) (br_f (by decide) (br_t rfl ?_)))))))))
      refine ye_s8 ha (ye_s8 hb ?_)
      rw [ya_sle z1 z2]
      refine br_c (fun h => ?_) fun h => ?_
      · rw [if_neg (Nat.not_lt.mpr h)] at K; exact K
      · rw [if_pos (Nat.lt_of_not_le h)] at K; exact K
    · have e2 : rs_f 11 a b c = if a = 0 then c else b := rfl
      rw [e2] at K
      refine br_f (by decide) (br_f (by decide) (br_f (by decide) (br_f (by decide) (br_f (by decide) (br_f (by decide) (br_f (by decide) (br_f (by decide) (br_f (by decide) (br_f (by decide) ?_)))))))))
      refine pk_eq a 0 (fun h => ?_) fun h => ?_
      · rw [if_pos h] at K; exact K
      · rw [if_neg h] at K; exact K
  · have v8 := g8 (by decide) (by decide)
    exact br_f (by decide) (br_f (by decide) (br_f (by decide) (br_f (by decide) (br_t rfl (nm_r (rs_shl8 ha v8) K)))))
  · have v8 := g8 (by decide) (by decide)
    exact br_f (by decide) (br_f (by decide) (br_f (by decide) (br_f (by decide) (br_f (by decide) (br_t rfl (nm_r (rs_shrI (by omega) (by omega)) K))))))
  · have v8 := g8 (by decide) (by decide)
    exact br_f (by decide) (br_f (by decide) (br_f (by decide) (br_f (by decide) (br_f (by decide) (br_f (by decide) (br_t rfl (nm_r (rs_shI (by omega) (by omega)) K)))))))
theorem ye_push {post : Int32 → SY → Prop} {J : Int32 → Int32 → (Nat → Int32) → (Nat → Int32) → (Nat → Int32) → (Nat → Int32) → (Nat → Int32) → (Nat → Int32) → (Nat → Int32) → (Nat → Int32) → (Nat → Int32) → Prop} {x1 : Int32} {sp y v : Nat} (hs : sp < 48) (K : J (nI (sp + 1)) (rs_Xm y) (rs_A kd) (rs_A vl) (rs_A rg) (rs_A ip) (rs_A wv) (rs_A wdf) (rs_A odf) (rs_A (rs_u st sp v)) (rs_A nx)) : wY_evalAt_491 post J x1 (nI sp) (nI y) (nI v) (nI lim) (nI cnt) (nI ned) (nI okd) (nI oix) (nI cp) cy (rs_A kd) (rs_A vl) (rs_A rg) (rs_A ip) (rs_A wv) (rs_A wdf) (rs_A odf) (rs_A st) (rs_A nx) :=
  br_f (nI_ge (b := 48) hs (by decide)) ⟨pk_in sp 48 hs, nm_r (rs_upI sp v rfl (by omega)) (nm_r (nI_1 sp) (nm_r (rs_Xm_p y) K))⟩
end

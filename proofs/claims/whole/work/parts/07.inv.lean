/-! the gates keep the tokens' equations: the invariant of the building, token by token -/
def rs_Bs (L : Nat → Bool) (ip rg : Nat → Nat) : Prop := (∀ p, p < 4 → ∀ x, x < 8 → L (1 + (p * 8 + x)) = (ip p).testBit x) ∧ ∀ r, r < 8 → ∀ x, x < 8 → L (33 + (r * 8 + x)) = (rg r).testBit x
def rs_sx (kd vl : Nat → Nat) (t k : Nat) : Nat := if k < t then rs_ss kd vl k else t
def rs_J (kd vl en ws : Nat → Nat) (t k nc : Nat) (gl gr tb fs : Nat → Nat) : Prop := nc ≤ 97 + 80 * k ∧ rs_WF nc gl gr ∧ (∀ q, q < t → rs_po kd vl en q < k → kd q ≠ 11 → ∀ x, x < 8 → tb (q * 8 + x) < 2 * nc) ∧ (∀ r, r < 8 → ∀ x, x < 8 → fs (r * 8 + x) < 2 * nc) ∧ ∀ ip rg R L, rs_B ip rg → rs_So kd vl en ws ip rg t R → rs_Bs L ip rg → rs_Md nc gl gr L → (∀ q, q < t → rs_po kd vl en q < k → kd q ≠ 11 → rs_bt L tb q (R q)) ∧ ∀ r, r < 8 → rs_bt L fs r (rs_nz kd vl en R rg r (rs_sx kd vl t k))
theorem rs_nz_st {kd vl en ws : Nat → Nat} {t : Nat} (P : rs_Pg kd vl en ws t) {k : Nat} (hk : k < t) (R rg : Nat → Nat) (r : Nat) : rs_nz kd vl en R rg r (rs_sx kd vl t (k + 1)) = if kd (rs_po kd vl en k) = 11 ∧ vl (rs_po kd vl en k) = r ∧ R (rs_po kd vl en k + 1) ≠ 0 then R (en (rs_po kd vl en k + 1)) else rs_nz kd vl en R rg r (rs_sx kd vl t k) := by
  obtain ⟨h0, he, hw, ho, hs⟩ := P
  obtain ⟨a, b, c, d, f⟩ := rs_seg h0 he hk
  have ep : rs_po kd vl en k = rs_ss kd vl k + en (rs_ss kd vl k) - 1 - k := rfl
  have ek : rs_sx kd vl t k = rs_ss kd vl k := if_pos hk
  rcases Nat.lt_or_ge (k + 1) (en (rs_ss kd vl k)) with g | g
  · have e1 : rs_sx kd vl t (k + 1) = rs_ss kd vl k := (if_pos (by omega)).trans (rs_seg_eq h0 he hk (by omega) g)
    have h1 := f (rs_po kd vl en k) (by omega) (by omega)
    have h2 := hs (rs_po kd vl en k) (by omega)
    rw [e1, ek, if_neg (fun z => by have := z.1; omega)]
  · have e1 : rs_sx kd vl t (k + 1) = rs_ss kd vl k + 1 + (k - rs_ss kd vl k) := by
      have e2 : k + 1 = en (rs_ss kd vl k) := by omega
      rcases Nat.lt_or_ge (k + 1) t with q | q
      · have e3 : rs_sx kd vl t (k + 1) = rs_ss kd vl (k + 1) := if_pos q
        have e4 : rs_ss kd vl (k + 1) = k + 1 := if_pos (by rw [e2]; exact d)
        omega
      · have e3 : rs_sx kd vl t (k + 1) = t := if_neg (by omega)
        omega
    have e5 : rs_po kd vl en k = rs_ss kd vl k := by omega
    rw [e1, ek, e5, rs_nz_k]
    · rfl
    · intro x hx hx'
      have h1 := f x (by omega) (by omega)
      have h2 := hs x (by omega)
      omega
theorem rs_J_0 {kd vl en ws : Nat → Nat} {t : Nat} (P : rs_Pg kd vl en ws t) {gl gr tb fs : Nat → Nat} (hf : ∀ f, f < 64 → fs f = 2 * (33 + f)) : rs_J kd vl en ws t 0 97 gl gr tb fs := by
  refine ⟨by omega, ⟨Nat.le_refl _, fun n h1 h2 => by omega⟩, fun q _ h => by omega, fun r hr x hx => ?_, fun ip rg R L hB hS hb hM => ⟨fun q _ h => by omega, fun r hr x hx => ?_⟩⟩
  · rw [hf _ (by omega)]; omega
  · have e : rs_sx kd vl t 0 = 0 := by
      unfold rs_sx
      split
      · rfl
      · omega
    rw [hf _ (by omega), rs_lv_2, e]
    exact hb.2 r hr x hx
/-- a token that isn't REGSET -/
theorem rs_J_s {kd vl en ws : Nat → Nat} {t : Nat} (P : rs_Pg kd vl en ws t) {k nc : Nat} {gl gr tb fs : Nat → Nat} (hk : k < t) (J : rs_J kd vl en ws t k nc gl gr tb fs) (h11 : kd (rs_po kd vl en k) ≠ 11) {W : (Nat → Bool) → Nat → Bool} {nc' : Nat} {gl' gr' tb' : Nat → Nat} (S : rs_St W (rs_po kd vl en k) 8 80 nc gl gr tb nc' gl' gr' tb') (hW : ∀ ip rg R L, rs_B ip rg → rs_So kd vl en ws ip rg t R → rs_Bs L ip rg → L 0 = false → (∀ p, rs_dp kd vl en ws (rs_po kd vl en k) p → R p < 256 ∧ rs_bt L tb p (R p)) → ∀ x, x < 8 → W L x = (R (rs_po kd vl en k)).testBit x) (hD : ∀ p, rs_dp kd vl en ws (rs_po kd vl en k) p → kd p ≠ 11) : rs_J kd vl en ws t (k + 1) nc' gl' gr' tb' fs := by
  obtain ⟨j1, j2, j3, j4, j5⟩ := J
  obtain ⟨s1, s2, s3, s4, s5⟩ := S
  obtain ⟨p1, p2, p3, p4, p5⟩ := rs_po_p P.1 P.2.1 hk
  have old : ∀ q, q < t → rs_po kd vl en q < k → q ≠ rs_po kd vl en k := fun q hq h e => by
    rw [e, p4] at h; omega
  have new : ∀ q, q < t → rs_po kd vl en q < k + 1 → ¬ rs_po kd vl en q < k → q = rs_po kd vl en k := fun q hq h h' => by
    have e : rs_po kd vl en q = k := by omega
    rw [← e]; exact (rs_po_p P.1 P.2.1 hq).2.2.2.1.symm
  refine ⟨by omega, s2.2.1, fun q hq h h' x hx => ?_, fun r hr x hx => ?_, fun ip rg R L hB hS hb hM => ?_⟩
  · by_cases g : rs_po kd vl en q < k
    · have := old q hq g
      rw [s3 _ (by omega)]
      have := j3 q hq g h' x hx
      have := s2.1
      omega
    · rw [new q hq h g]; exact s4 x hx
  · have := j4 r hr x hx
    have := s2.1
    omega
  · obtain ⟨u1, u2⟩ := j5 ip rg R L hB hS hb (s2.2.2 L hM)
    refine ⟨fun q hq h h' => ?_, fun r hr => ?_⟩
    · by_cases g : rs_po kd vl en q < k
      · have := old q hq g
        intro x hx
        rw [s3 _ (by omega)]
        exact u1 q hq g h' x hx
      · have e := new q hq h g
        rw [e]
        intro x hx
        rw [s5 L hM x hx]
        refine hW ip rg R L hB hS hb hM.1 (fun p hp => ?_) x hx
        obtain ⟨d1, d2⟩ := rs_dp_lt P p5 hp
        rw [p4] at d2
        exact ⟨rs_So_lt P hB hS p d1, u1 p d1 d2 (hD p hp)⟩
    · rw [rs_nz_st P hk, if_neg (fun z => h11 z.1)]
      exact u2 r hr
/-- REGSET -/
theorem rs_J_r {kd vl en ws : Nat → Nat} {t : Nat} (P : rs_Pg kd vl en ws t) {k nc : Nat} {gl gr tb fs : Nat → Nat} (hk : k < t) (J : rs_J kd vl en ws t k nc gl gr tb fs) (h11 : kd (rs_po kd vl en k) = 11) {nc' : Nat} {gl' gr' fs' : Nat → Nat} (S : rs_St (rs_Wmx (rs_Tan tb (rs_po kd vl en k + 1)) tb (en (rs_po kd vl en k + 1)) fs (vl (rs_po kd vl en k))) (vl (rs_po kd vl en k)) 8 80 nc gl gr fs nc' gl' gr' fs') (hD : ∀ p, rs_dp kd vl en ws (rs_po kd vl en k) p → kd p ≠ 11) : rs_J kd vl en ws t (k + 1) nc' gl' gr' tb fs' := by
  obtain ⟨j1, j2, j3, j4, j5⟩ := J
  obtain ⟨s1, s2, s3, s4, s5⟩ := S
  obtain ⟨p1, p2, p3, p4, p5⟩ := rs_po_p P.1 P.2.1 hk
  have ok := P.2.2.2.1 _ p5
  have hv : vl (rs_po kd vl en k) < 8 := by
    have e : rs_hi (kd (rs_po kd vl en k)) = 7 := by rw [h11]; rfl
    have := ok.2.2.1
    omega
  have lt : ∀ q, q < t → rs_po kd vl en q < k + 1 → kd q ≠ 11 → rs_po kd vl en q < k := fun q hq h h' => by
    rcases Nat.lt_or_ge (rs_po kd vl en q) k with g | g
    · exact g
    · have e : rs_po kd vl en q = k := by omega
      have e2 := (rs_po_p P.1 P.2.1 hq).2.2.2.1
      rw [e] at e2
      rw [e2] at h11
      exact absurd h11 h'
  have ar : rs_ar (kd (rs_po kd vl en k)) (vl (rs_po kd vl en k)) = 2 := by rw [h11]; rfl
  refine ⟨by omega, s2.2.1, fun q hq h h' x hx => ?_, fun r hr x hx => ?_, fun ip rg R L hB hS hb hM => ?_⟩
  · have := j3 q hq (lt q hq h h') h' x hx
    have := s2.1
    omega
  · by_cases g : r = vl (rs_po kd vl en k)
    · rw [g]; exact s4 x hx
    · rw [s3 _ (by omega)]
      have := j4 r hr x hx
      have := s2.1
      omega
  · obtain ⟨u1, u2⟩ := j5 ip rg R L hB hS hb (s2.2.2 L hM)
    refine ⟨fun q hq h h' => u1 q hq (lt q hq h h') h', fun r hr => ?_⟩
    have rd : ∀ p, rs_dp kd vl en ws (rs_po kd vl en k) p → R p < 256 ∧ rs_bt L tb p (R p) := fun p hp => by
      obtain ⟨d1, d2⟩ := rs_dp_lt P p5 hp
      rw [p4] at d2
      exact ⟨rs_So_lt P hB hS p d1, u1 p d1 d2 (hD p hp)⟩
    obtain ⟨r1, r2⟩ := rd _ (Or.inr (Or.inl ⟨by rw [ar]; decide, rfl⟩))
    obtain ⟨r3, r4⟩ := rd _ (Or.inr (Or.inr (Or.inl ⟨by rw [ar]; decide, rfl⟩)))
    rw [rs_nz_st P hk]
    by_cases g : r = vl (rs_po kd vl en k)
    · rw [g]
      intro x hx
      rw [s5 L hM x hx]
      unfold rs_Wmx
      rw [rs_an_p r1 r2]
      by_cases z : R (rs_po kd vl en k + 1) = 0
      · rw [if_neg (fun y => y.2.2 z), decide_eq_true z]
        exact u2 _ hv x hx
      · rw [if_pos ⟨h11, rfl, z⟩, decide_eq_false z]
        exact r4 x hx
    · rw [if_neg (fun y => g y.2.1.symm)]
      intro x hx
      rw [s3 _ (by omega)]
      exact u2 r hr x hx
/-- no operand, no wire's statement is a REGSET -/
theorem rs_D {kd vl en ws : Nat → Nat} {t : Nat} (P : rs_Pg kd vl en ws t) (hw : ∀ i, i < t → kd i = 4 → kd (ws (vl i)) = 9) {i p : Nat} (hi : i < t) (h : rs_dp kd vl en ws i p) : kd p ≠ 11 := by
  rcases h with ⟨h4, rfl⟩ | h
  · rw [hw i hi h4]; decide
  · obtain ⟨o1, o2, o3, o4⟩ := rs_opnd P.1 P.2.1 hi h
    have h1 := o4 p o1 (Nat.le_refl _)
    have h2 := P.2.2.2.2 p o3
    omega

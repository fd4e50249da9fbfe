/-! the reference: the stack machine, the wires, the next values -/
theorem rs_Xm_lt {p : Nat} (h : 1 ≤ p) (hp : p < 2 ^ 31) : rs_Xm p < nI p := by
  cases p with
  | zero => omega
  | succ p => exact nI_lt (by omega) hp
section
variable {lim cnt ned okd oix cp : Nat} {cy : Int32} {kd vl rg ip wv wdf odf st nx : Nat → Nat}
theorem ye_loop {en ws R : Nat → Nat} {post : Int32 → SY → Prop} {p : Nat} (P : rs_Pg kd vl en ws cnt) (hc : cnt ≤ 48) (hp : p < cnt) (h1 : 1 ≤ rs_nd kd vl p) (hS : rs_So kd vl en ws ip rg cnt R) (hR : ∀ i, i < cnt → R i < 256) (HW : ∀ i, p ≤ i → i < en p → kd i = 4 → wv (vl i) = R (ws (vl i))) (H : ∀ st', post (nI (R p)) ((nI lim), (nI cnt), (nI ned), (nI okd), (nI oix), (nI cp), cy, (rs_A kd), (rs_A vl), (rs_A rg), (rs_A ip), (rs_A wv), (rs_A wdf), (rs_A odf), (rs_A st'), (rs_A nx))) : ∀ d lo sp st, p + d = lo → lo ≤ en p → rs_Sk st R en (en p) sp lo → wY_evalAt_13 post (nI p) (nI lim) (nI cnt) (nI ned) (nI okd) (nI oix) (nI cp) cy (d + 1) (nI sp) (rs_Xm lo) (rs_A kd) (rs_A vl) (rs_A rg) (rs_A ip) (rs_A wv) (rs_A wdf) (rs_A odf) (rs_A st) (rs_A nx) := by
  obtain ⟨a1, a2, a3, a4⟩ := rs_parse P.1 P.2.1 _ p (Nat.le_refl _) hp
  have ns : ∀ i, p ≤ i → i < en p → i < cnt ∧ 1 ≤ rs_nd kd vl i ∧ en i ≤ en p := fun i x y => rs_nest P.1 P.2.1 hp h1 x y
  have gt : ∀ i, p ≤ i → i < en p → i < en i := fun i x y => (rs_parse P.1 P.2.1 _ i (Nat.le_refl _) (ns i x y).1).1
  have p1 : 1 ≤ p := by
    rcases Nat.eq_zero_or_pos p with z | z
    · rw [z] at h1; exact absurd h1 (show ¬ 1 ≤ 0 by decide)
    · exact z
  intro d
  induction d with
  | zero =>
    intro lo sp st hl hle K
    have e : lo = p := by omega
    subst e
    have b := rs_Sk_le gt sp lo (Nat.le_refl _) K
    obtain ⟨m, rfl, k2, k3⟩ := rs_Sk_p K a1
    have k2 := k2
    have e2 : rs_A st (nI (m + 1) - 1).toNatClampNeg = nI (R lo) := by
      rw [nI_pred, nI_clamp (by omega)]
      exact congrArg nI k2
    refine br_t (rs_Xm_lt p1 (by omega)) (br_f (nI_nle (by omega) (by omega)) ⟨by rw [nI_pred]; exact vp_in_nI (by omega) (by decide), ?_⟩)
    exact xa_cv (P := fun r => post r _) e2 (H st)
  | succ d ih =>
    intro lo sp st hl hle K
    obtain ⟨y, rfl⟩ : ∃ y, lo = y + 1 := ⟨lo - 1, by omega⟩
    have hpy : p ≤ y := by omega
    obtain ⟨y1, y2, y3⟩ := ns y hpy (by omega)
    have ok := P.2.2.2.1 y y1
    have k8 := P.2.2.2.2 y y1
    obtain ⟨g1, g2, g5, g10, g8⟩ := rs_rng ok
    have b := rs_Sk_le gt sp (y + 1) (by omega) K
    have h3 := rs_ar3 (kd y) (vl y)
    have hen := P.2.1 y y1
    have on : ∀ q, rs_op kd vl en y q → y < q ∧ q < en p := fun q hq => by
      obtain ⟨o1, o2, o3, o4⟩ := rs_opnd P.1 P.2.1 y1 hq
      exact ⟨o1, by omega⟩
    have fin : ∀ n st' a b c, n < 48 → a < 256 → b < 256 → c < 256 → (1 ≤ rs_ar (kd y) (vl y) → a = R (y + 1)) → (2 ≤ rs_ar (kd y) (vl y) → b = R (en (y + 1))) → (3 ≤ rs_ar (kd y) (vl y) → c = R (en (en (y + 1)))) → rs_Sk st' R en (en p) n (en y) → wY_evalAt_124 post (wY_evalAt_13 post (nI p) (nI lim) (nI cnt) (nI ned) (nI okd) (nI oix) (nI cp) cy (d + 1)) (nI p) (nI n) (nI y) (nI (kd y)) (nI (vl y)) (nI a) (nI b) (nI c) (nI lim) (nI cnt) (nI ned) (nI okd) (nI oix) (nI cp) cy (rs_A kd) (rs_A vl) (rs_A rg) (rs_A ip) (rs_A wv) (rs_A wdf) (rs_A odf) (rs_A st') (rs_A nx) := by
      intro n st' a b c hn ha hb hc' qa qb qc K'
      have mv := rs_mv_me (wv := wv) hS y1 ok (by omega) (HW y hpy (by omega)) qa qb qc
      refine ye_val ok (by omega) ha hb hc' (ye_push hn (ih y (n + 1) _ (by omega) (by omega) ⟨by omega, ?_, rs_Sk_u n (en y) (fun x hx => rs_un (by omega)) K'⟩))
      rw [rs_us, mv]
    refine br_f (nI_nlt (by omega) (by omega)) (br_f (nI_pos (by omega)) ⟨pk_in y 48 (by omega), nm_r (rs_Ax y rfl (by omega)) ⟨pk_in y 48 (by omega), nm_r (rs_Ax y rfl (by omega)) ?_⟩⟩)
    refine ya_ar (kd y) (vl y) rfl rfl ok.1 (by omega) g1 ok.2.2.2 ?_
    rcases (by omega : rs_ar (kd y) (vl y) = 0 ∨ rs_ar (kd y) (vl y) = 1 ∨ rs_ar (kd y) (vl y) = 2 ∨ rs_ar (kd y) (vl y) = 3) with h | h | h | h
    · have e : en y = y + 1 := by rw [hen, h]; rfl
      rw [← e] at K
      have F := fin sp st 0 0 0 (by omega) (by decide) (by decide) (by decide) (fun z => by omega) (fun z => by omega) (fun z => by omega) K
      rw [h]
      exact br_t (by decide) (br_t (by decide) (br_t (by decide) F))
    · have e : en y = en (y + 1) := by rw [hen, h]; rfl
      obtain ⟨o1, o2⟩ := on (y + 1) (Or.inl ⟨by omega, rfl⟩)
      obtain ⟨m, rfl, k2, k3⟩ := rs_Sk_p K o2
      have r1 := hR (y + 1) (by omega)
      rw [← e] at k3
      have F := fin m st (R (y + 1)) 0 0 (by omega) r1 (by decide) (by decide) (fun z => rfl) (fun z => by omega) (fun z => by omega) k3
      have s1 : rs_A st (nI m).toNatClampNeg = nI (R (y + 1)) := by rw [rs_Ax m rfl (by omega), k2]
      rw [h]
      exact br_f (by decide) (br_f (nI_nle (by omega) (by omega)) (nm_r (pk_m1 m) ⟨pk_in m 48 (by omega), nm_r s1 (br_t (by decide) (br_t (by decide) F))⟩))
    · have e : en y = en (en (y + 1)) := by rw [hen, h]; rfl
      obtain ⟨o1, o2⟩ := on (y + 1) (Or.inl ⟨by omega, rfl⟩)
      obtain ⟨o3, o4⟩ := on (en (y + 1)) (Or.inr (Or.inl ⟨by omega, rfl⟩))
      obtain ⟨m', rfl, k2, k3⟩ := rs_Sk_p K o2
      obtain ⟨m, rfl, j2, j3⟩ := rs_Sk_p k3 o4
      have r1 := hR (y + 1) (by omega)
      have r2 := hR (en (y + 1)) (by omega)
      rw [← e] at j3
      have F := fin m st (R (y + 1)) (R (en (y + 1))) 0 (by omega) r1 r2 (by decide) (fun z => rfl) (fun z => rfl) (fun z => by omega) j3
      have s1 : rs_A st (nI (m + 1)).toNatClampNeg = nI (R (y + 1)) := by rw [rs_Ax (m + 1) rfl (by omega), k2]
      have s2 : rs_A st (nI m).toNatClampNeg = nI (R (en (y + 1))) := by rw [rs_Ax m rfl (by omega), j2]
      rw [h]
      exact br_f (by decide) (br_f (nI_nle (by omega) (by omega)) (nm_r (pk_m1 (m + 1)) ⟨pk_in (m + 1) 48 (by omega), nm_r s1 (br_f (by decide) (br_f (nI_nle (by omega) (by omega)) (nm_r (pk_m1 m) ⟨pk_in m 48 (by omega), nm_r s2 (br_t (by decide) F)⟩)))⟩))
    · have e : en y = en (en (en (y + 1))) := by rw [hen, h]; rfl
      obtain ⟨o1, o2⟩ := on (y + 1) (Or.inl ⟨by omega, rfl⟩)
      obtain ⟨o3, o4⟩ := on (en (y + 1)) (Or.inr (Or.inl ⟨by omega, rfl⟩))
      obtain ⟨o5, o6⟩ := on (en (en (y + 1))) (Or.inr (Or.inr ⟨by omega, rfl⟩))
      obtain ⟨m'', rfl, k2, k3⟩ := rs_Sk_p K o2
      obtain ⟨m', rfl, j2, j3⟩ := rs_Sk_p k3 o4
      obtain ⟨m, rfl, l2, l3⟩ := rs_Sk_p j3 o6
      have r1 := hR (y + 1) (by omega)
      have r2 := hR (en (y + 1)) (by omega)
      have r3 := hR (en (en (y + 1))) (by omega)
      rw [← e] at l3
      have F := fin m st (R (y + 1)) (R (en (y + 1))) (R (en (en (y + 1)))) (by omega) r1 r2 r3 (fun z => rfl) (fun z => rfl) (fun z => rfl) l3
      have s1 : rs_A st (nI (m + 1 + 1)).toNatClampNeg = nI (R (y + 1)) := by rw [rs_Ax (m + 1 + 1) rfl (by omega), k2]
      have s2 : rs_A st (nI (m + 1)).toNatClampNeg = nI (R (en (y + 1))) := by rw [rs_Ax (m + 1) rfl (by omega), j2]
      have s3 : rs_A st (nI m).toNatClampNeg = nI (R (en (en (y + 1)))) := by rw [rs_Ax m rfl (by omega), l2]
      rw [h]
      exact br_f (by decide) (br_f (nI_nle (by omega) (by omega)) (nm_r (pk_m1 (m + 1 + 1)) ⟨pk_in (m + 1 + 1) 48 (by omega), nm_r s1 (br_f (by decide) (br_f (nI_nle (by omega) (by omega)) (nm_r (pk_m1 (m + 1)) ⟨pk_in (m + 1) 48 (by omega), nm_r s2 (br_f (by decide) (br_f (nI_nle (by omega) (by omega)) (nm_r (pk_m1 m) ⟨pk_in m 48 (by omega), nm_r s3 F⟩)))⟩)))⟩))
theorem ye_eval {en ws R : Nat → Nat} {post : Int32 → SY → Prop} {y : Int32} (p : Nat) (hy : y = nI p) (P : rs_Pg kd vl en ws cnt) (hc : cnt ≤ 48) (hp : p < cnt) (h1 : 1 ≤ rs_nd kd vl p) (hS : rs_So kd vl en ws ip rg cnt R) (hR : ∀ i, i < cnt → R i < 256) (HW : ∀ i, p ≤ i → i < en p → kd i = 4 → wv (vl i) = R (ws (vl i))) (H : ∀ st', post (nI (R p)) ((nI lim), (nI cnt), (nI ned), (nI okd), (nI oix), (nI cp), cy, (rs_A kd), (rs_A vl), (rs_A rg), (rs_A ip), (rs_A wv), (rs_A wdf), (rs_A odf), (rs_A st'), (rs_A nx))) : wpY_evalAt post ((nI lim), (nI cnt), (nI ned), (nI okd), (nI oix), (nI cp), cy, (rs_A kd), (rs_A vl), (rs_A rg), (rs_A ip), (rs_A wv), (rs_A wdf), (rs_A odf), (rs_A st), (rs_A nx)) y := by
  have a := (rs_parse P.1 P.2.1 _ p (Nat.le_refl _) hp).1
  refine ye_end p hy P hc hp h1 (nm_r (rs_Xm_s (en p)) ?_)
  subst hy
  exact ⟨_, ye_loop P hc hp h1 hS hR HW H (en p - p) (en p) 0 st (by omega) (Nat.le_refl _) rfl⟩
/-- what the tokens say of the wires, once the program is complete -/
def rs_Wd (cnt : Nat) (kd vl wdf ws : Nat → Nat) : Prop := (∀ w, wdf w = 1 → ws w < cnt ∧ kd (ws w) = 9 ∧ vl (ws w) = w) ∧ (∀ i, i < cnt → kd i = 9 → ws (vl i) = i) ∧ ∀ i, i < cnt → kd i = 4 → wdf (vl i) = 1
/-- a statement's token -/
theorem rs_stm {kd vl en ws : Nat → Nat} {t : Nat} (P : rs_Pg kd vl en ws t) {i : Nat} (hi : i < t) (h0 : rs_nd kd vl i = 0) : 9 ≤ kd i ∧ i < en i ∧ en i ≤ t ∧ rs_nd kd vl (en i) = 0 ∧ (∀ j, i < j → j < en i → 1 ≤ rs_nd kd vl j) ∧ i + 1 < t ∧ 1 ≤ rs_nd kd vl (i + 1) ∧ en (i + 1) ≤ t ∧ i + 1 < en (i + 1) ∧ (kd i ≠ 11 → en i = en (i + 1)) ∧ (kd i = 11 → en (i + 1) < t ∧ 1 ≤ rs_nd kd vl (en (i + 1)) ∧ en i = en (en (i + 1))) := by
  obtain ⟨a1, a2, a3, a4⟩ := rs_parse P.1 P.2.1 _ i (Nat.le_refl _) hi
  have k := P.2.2.2.2 i hi
  have ok := P.2.2.2.1 i hi
  have k9 : 9 ≤ kd i := by omega
  have k11 := ok.2.1
  have hen := P.2.1 i hi
  obtain ⟨c1, c2, c3⟩ := rs_chain (lo := 0) P.1 (fun i _ => P.2.1 i) (y := i) (by omega) hi
  have ar1 : kd i ≠ 11 → rs_ar (kd i) (vl i) = 1 := fun h => by
    unfold rs_ar
    rw [if_neg (by omega), if_neg (by omega), if_neg h]
  have ar2 : kd i = 11 → rs_ar (kd i) (vl i) = 2 := fun h => by rw [h]; rfl
  have ge : 1 ≤ rs_ar (kd i) (vl i) := rs_ar_6 (by omega)
  obtain ⟨d1, d2, d3⟩ := c1 ge
  have nd1 : rs_nd kd vl (i + 1) = rs_nd kd vl i - 1 + rs_ar (kd i) (vl i) := rfl
  have q := (rs_parse P.1 P.2.1 _ (i + 1) (Nat.le_refl _) d1).2.2.1
  refine ⟨k9, a1, a2, by omega, fun j x y => by have := a4 j x y; omega, d1, by omega, d3, d2, fun h => ?_, fun h => ?_⟩
  · rw [hen, ar1 h]; rfl
  · have e := ar2 h
    exact ⟨(c2 (by omega)).1, by omega, by rw [hen, e]; rfl⟩
theorem ye_w_l {en ws R : Nat → Nat} {post : SY → Prop} (P : rs_Pg kd vl en ws cnt) (hc : cnt ≤ 48) (D : rs_Wd cnt kd vl wdf ws) (hS : rs_So kd vl en ws ip rg cnt R) (hR : ∀ i, i < cnt → R i < 256) (H : ∀ st' wv', (∀ w, wdf w = 1 → wv' w = R (ws w)) → post ((nI lim), (nI cnt), (nI ned), (nI okd), (nI oix), (nI cp), cy, (rs_A kd), (rs_A vl), (rs_A rg), (rs_A ip), (rs_A wv'), (rs_A wdf), (rs_A odf), (rs_A st'), (rs_A nx))) : ∀ d i g wv st, cnt - i ≤ d → i ≤ cnt → rs_nd kd vl i = 0 → g ≤ i → (∀ w, wdf w = 1 → ws w < i → wv w = R (ws w)) → wY_computeWires_25 post (d + 1) (nI i) (nI g) (nI lim) (nI cnt) (nI ned) (nI okd) (nI oix) (nI cp) cy (rs_A kd) (rs_A vl) (rs_A rg) (rs_A ip) (rs_A wv) (rs_A wdf) (rs_A odf) (rs_A st) (rs_A nx) := by
  have done : ∀ n i g wv st, i = cnt → (∀ w, wdf w = 1 → ws w < i → wv w = R (ws w)) → wY_computeWires_25 post (n + 1) (nI i) (nI g) (nI lim) (nI cnt) (nI ned) (nI okd) (nI oix) (nI cp) cy (rs_A kd) (rs_A vl) (rs_A rg) (rs_A ip) (rs_A wv) (rs_A wdf) (rs_A odf) (rs_A st) (rs_A nx) := by
    intro n i g wv st e h
    subst e
    have K := H st wv fun w hw => h w hw (D.1 w hw).1
    exact br_c (fun _ => K) fun _ => br_t (nI_le (Nat.le_refl _) (by omega)) K
  intro d
  induction d with
  | zero => intro i g wv st hd hi h0 hg h; exact done 0 i g wv st (by omega) h
  | succ d ih =>
    intro i g wv st hd hi h0 hg h
    rcases Nat.lt_or_ge i cnt with hlt | hge
    · obtain ⟨s1, s2, s3, s4, s5, s6, s7, s8, s9, s10, s11⟩ := rs_stm P hlt h0
      have ok := P.2.2.2.1 i hlt
      obtain ⟨g1, g2, g5, g10, g8⟩ := rs_rng ok
      have k11 := ok.2.1
      have v8 := g8 (by omega) (by omega)
      have here : ∀ w, wdf w = 1 → ws w < en i → ¬ ws w < i → ws w = i := fun w hw a b => by
        obtain ⟨d1, d2, d3⟩ := D.1 w hw
        rcases Nat.lt_or_ge i (ws w) with z | z
        · have y1 := s5 _ z a
          have y2 := P.2.2.2.2 _ d1
          omega
        · omega
      refine br_f (nI_ge (b := 48) (by omega) (by decide)) (br_f (nI_ge hlt (by omega)) ⟨pk_in i 48 (by omega), nm_r (rs_Ax i rfl (by omega)) ?_⟩)
      refine pk_eq (kd i) 9 (fun k9 => ?_) fun k9 => pk_eq (kd i) 10 (fun k10 => ?_) fun k10 => br_t (show nI (kd i) = nI 11 by rw [show kd i = 11 by omega]) ?_
      · refine ye_eval (i + 1) (nI_1 i) P hc s6 s7 hS hR (fun x x1 x2 x4 => ?_) fun st' => ?_
        · have e9 := s10 (by omega)
          have xl : x < cnt := by omega
          obtain ⟨j, j1, j2, j3⟩ := P.2.2.1 x xl x4
          have ji : j ≤ i := by
            rcases Nat.lt_or_ge i j with z | z
            · have := s5 j z (by omega); omega
            · exact z
          exact h _ (D.2.2 x xl x4) (by omega)
        · have ev : rs_A vl (nI i).toNatClampNeg &&& 7 = nI (vl i) := by rw [rs_Ax i rfl (by omega)]; exact ya_m7 v8
          have eu : upd (rs_A wv) (rs_A vl (nI i).toNatClampNeg &&& 7).toNatClampNeg (nI (R (i + 1))) = rs_A (rs_u wv (vl i) (R (i + 1))) := by
            rw [ev]; exact rs_upI _ _ rfl (by omega)
          refine ⟨pk_in i 48 (by omega), by rw [ev]; exact vp_in_nI v8 (by decide), nm_r eu (ye_end (i + 1) (nI_1 i) P hc s6 s7 (nm_r (nI_1 g) ?_))⟩
          rw [← s10 (by omega)]
          refine ih (en i) (g + 1) _ _ (by omega) s3 s4 (by omega) fun w hw hl => ?_
          have eR : R i = R (i + 1) := by
            rw [hS i hlt]
            unfold rs_me
            rw [if_neg (by omega), if_neg (by omega), if_neg (by omega), if_neg (by omega), if_neg (by omega), if_neg (by omega), if_neg (by omega), if_neg (by omega)]
          obtain ⟨d1, d2, d3⟩ := D.1 w hw
          by_cases z : ws w < i
          · have ne : w ≠ vl i := fun e => by
              have := D.2.1 i hlt k9
              rw [← e] at this
              omega
            rw [rs_un ne]; exact h w hw z
          · have e := here w hw hl z
            have e2 : w = vl i := by rw [e] at d3; exact d3.symm
            rw [e, eR, e2, rs_us]
      · refine ye_end (i + 1) (nI_1 i) P hc s6 s7 (nm_r (nI_1 g) ?_)
        rw [← s10 (by omega)]
        refine ih (en i) (g + 1) _ _ (by omega) s3 s4 (by omega) fun w hw hl => ?_
        by_cases z : ws w < i
        · exact h w hw z
        · have e := here w hw hl z
          have := (D.1 w hw).2.1
          rw [e] at this
          omega
      · have e11 : kd i = 11 := by omega
        obtain ⟨t1, t2, t3⟩ := s11 e11
        refine ye_end (i + 1) (nI_1 i) P hc s6 s7 (ye_end (en (i + 1)) rfl P hc t1 t2 (nm_r (nI_1 g) ?_))
        rw [← t3]
        refine ih (en i) (g + 1) _ _ (by omega) s3 s4 (by omega) fun w hw hl => ?_
        by_cases z : ws w < i
        · exact h w hw z
        · have e := here w hw hl z
          have := (D.1 w hw).2.1
          rw [e] at this
          omega
    · exact done (d + 1) i g wv st (by omega) h
theorem ye_wz {en ws R : Nat → Nat} {post : SY → Prop} (H : ∀ wv', ∃ n, wY_computeWires_25 post n 0 0 (nI lim) (nI cnt) (nI ned) (nI okd) (nI oix) (nI cp) cy (rs_A kd) (rs_A vl) (rs_A rg) (rs_A ip) (rs_A wv') (rs_A wdf) (rs_A odf) (rs_A st) (rs_A nx)) : ∀ d j wv, j + d = 8 → wY_computeWires_2 post (nI lim) (nI cnt) (nI ned) (nI okd) (nI oix) (nI cp) cy (d + 1) (nI j) (rs_A kd) (rs_A vl) (rs_A rg) (rs_A ip) (rs_A wv) (rs_A wdf) (rs_A odf) (rs_A st) (rs_A nx) := by
  intro d
  induction d with
  | zero =>
    intro j wv hj
    have e : j = 8 := by omega
    subst e
    exact br_t xa_8t (H wv)
  | succ d ih =>
    intro j wv hj
    exact br_f (xa_8f (by omega)) ⟨pk_in j 8 (by omega), nm_r (rs_upI j 0 rfl (by omega)) (nm_r (nI_1 j) (ih (j + 1) _ (by omega)))⟩
theorem ye_wires {en ws R : Nat → Nat} {post : SY → Prop} (P : rs_Pg kd vl en ws cnt) (hc : cnt ≤ 48) (D : rs_Wd cnt kd vl wdf ws) (hS : rs_So kd vl en ws ip rg cnt R) (hR : ∀ i, i < cnt → R i < 256) (H : ∀ st' wv', (∀ w, wdf w = 1 → wv' w = R (ws w)) → post ((nI lim), (nI cnt), (nI ned), (nI okd), (nI oix), (nI cp), cy, (rs_A kd), (rs_A vl), (rs_A rg), (rs_A ip), (rs_A wv'), (rs_A wdf), (rs_A odf), (rs_A st'), (rs_A nx))) : wpY_computeWires post ((nI lim), (nI cnt), (nI ned), (nI okd), (nI oix), (nI cp), cy, (rs_A kd), (rs_A vl), (rs_A rg), (rs_A ip), (rs_A wv), (rs_A wdf), (rs_A odf), (rs_A st), (rs_A nx)) :=
  ⟨9, ye_wz (en := en) (ws := ws) (R := R) (fun wv' => ⟨cnt + 1, ye_w_l P hc D hS hR H cnt 0 0 wv' st (by omega) (by omega) rfl (Nat.le_refl _) fun w _ h => by omega⟩) 8 0 wv rfl⟩
end

/-! compile -/
def rs_Xm : Nat → Int32
  | 0 => -1
  | y + 1 => nI y
theorem rs_Xm_p (y : Nat) : nI y + (-1) = rs_Xm y := by
  cases y with
  | zero => decide
  | succ y => exact pk_m1 y
theorem rs_Xm_s (y : Nat) : nI y - 1 = rs_Xm y := by
  cases y with
  | zero => decide
  | succ y => exact nI_pred y
theorem xt_ar {post : Int32 → Prop} {x y : Int32} (k v : Nat) (hx : x = nI k) (hy : y = nI v) (h1 : 1 ≤ k) (h2 : k ≤ 11) (hv : v < 256) (H : post (nI (rs_ar k v))) : wpX_arityOf post x y := by
  subst hx hy
  rcases (by omega : k = 1 ∨ k = 2 ∨ k = 3 ∨ k = 4 ∨ k = 5 ∨ k = 6 ∨ k = 7 ∨ k = 8 ∨ k = 9 ∨ k = 10 ∨ k = 11) with h | h | h | h | h | h | h | h | h | h | h <;> subst h
  · exact br_f (by decide) (br_f (by decide) (br_t rfl H))
  · exact br_f (by decide) (br_f (by decide) (br_f (by decide) (br_t rfl H)))
  · exact br_f (by decide) (br_f (by decide) (br_f (by decide) (br_f (by decide) (br_t rfl H))))
  · exact br_f (by decide) (br_f (by decide) (br_f (by decide) (br_f (by decide) (br_f (by decide) (br_t rfl H)))))
  · have e : rs_ar 5 v = if v ≤ 2 then 1 else if v = 11 then 3 else 2 := rfl
    rw [e] at H
    refine br_f (by decide) (br_f (by decide) (br_f (by decide) (br_f (by decide) (br_f (by decide) (br_f (by decide) (br_t rfl ?_))))))
    refine pk_lt 2 v (fun h => pk_eq v 11 (fun h' => ?_) fun h' => ?_) fun h => ?_
    · rw [if_neg (by omega), if_pos h'] at H; exact H
    · rw [if_neg (by omega), if_neg h'] at H; exact H
    · rw [if_pos h] at H; exact H
  · exact br_f (by decide) (br_f (by decide) (br_f (by decide) (br_f (by decide) (br_f (by decide) (br_f (by decide) (br_f (by decide) (br_t rfl H)))))))
  · exact br_f (by decide) (br_f (by decide) (br_f (by decide) (br_f (by decide) (br_f (by decide) (br_f (by decide) (br_f (by decide) (br_f (by decide) (br_t rfl H))))))))
  · exact br_f (by decide) (br_f (by decide) (br_f (by decide) (br_f (by decide) (br_f (by decide) (br_f (by decide) (br_f (by decide) (br_f (by decide) (br_f (by decide) (br_t rfl H)))))))))
  · exact br_f (by decide) (br_f (by decide) (br_f (by decide) (br_f (by decide) (br_f (by decide) (br_f (by decide) (br_f (by decide) (br_f (by decide) (br_f (by decide) (br_f (by decide) (br_t rfl H))))))))))
  · exact br_f (by decide) (br_f (by decide) (br_f (by decide) (br_f (by decide) (br_f (by decide) (br_f (by decide) (br_f (by decide) (br_f (by decide) (br_f (by decide) (br_f (by decide) (br_f (by decide) (br_t rfl H)))))))))))
  · exact br_f (by decide) (br_f (by decide) (br_f (by decide) (br_f (by decide) (br_f (by decide) (br_f (by decide) (br_f (by decide) (br_f (by decide) (br_f (by decide) (br_f (by decide) (br_f (by decide) (br_f (by decide) (br_t rfl H))))))))))))
theorem rs_upI {f : Nat → Nat} (y x : Nat) {z : Int32} (hz : z = nI x) (h : y < 2 ^ 31) : upd (rs_A f) (nI y).toNatClampNeg z = rs_A (rs_u f y x) := by
  rw [hz, nI_clamp h]; exact rs_upd _ _ _
section
variable {lim cnt ned op cp nc : Nat} {cy : Int32} {kd vl rg ip wdf odf ws ost fo so to en ord res gl gr fs tb : Nat → Nat} {L : Nat → Bool}
theorem xc_link_l {post : SX → Prop} (hc : cnt ≤ 48) (hO : ∀ i, i < cnt → rs_ok (kd i) (vl i)) (h0 : rs_nd kd vl cnt = 0) (H : ∀ fo' so' to' en', rs_LI kd vl cnt 0 en' fo' so' to' → post ((nI lim), (nI cnt), (nI ned), (nI op), (nI cp), cy, (nI nc), (rs_A kd), (rs_A vl), (rs_A rg), (rs_A ip), (rs_A wdf), (rs_A odf), (rs_A ws), (rs_A ost), (rs_A fo'), (rs_A so'), (rs_A to'), (rs_A en'), (rs_A ord), (rs_A res), (rs_A gl), (rs_A gr), (rs_A fs), (rs_A tb), (rs_AB L))) : ∀ lo fo so to en, lo ≤ cnt → rs_LI kd vl cnt lo en fo so to → wX_linkOperands_7 post (nI lim) (nI cnt) (nI ned) (nI op) (nI cp) cy (nI nc) (lo + 1) (rs_Xm lo) (rs_A kd) (rs_A vl) (rs_A rg) (rs_A ip) (rs_A wdf) (rs_A odf) (rs_A ws) (rs_A ost) (rs_A fo) (rs_A so) (rs_A to) (rs_A en) (rs_A ord) (rs_A res) (rs_A gl) (rs_A gr) (rs_A fs) (rs_A tb) (rs_AB L) := by
  intro lo
  induction lo with
  | zero =>
    intro fo so to en hl I
    exact br_t (by decide) (H _ _ _ _ I)
  | succ y ih =>
    intro fo so to en hl I
    have hy : y < cnt := by omega
    obtain ⟨g1, g2, g5, g10, g8⟩ := rs_rng (hO y hy)
    obtain ⟨k1, k2, k3, k4⟩ := hO y hy
    obtain ⟨c1, c2, c3⟩ := rs_chain h0 I.1 (y := y) (by omega) hy
    obtain ⟨b1, b2, b3⟩ := I.2.2 y
    have h3 := rs_ar3 (kd y) (vl y)
    have ev : rs_A vl (nI y).toNatClampNeg = nI (vl y) := rs_Ax y rfl (by omega)
    have ek : rs_A kd (nI y).toNatClampNeg = nI (kd y) := rs_Ax y rfl (by omega)
    have ee : rs_A en (nI (y + 1)).toNatClampNeg = nI (en (y + 1)) := rs_Ax (y + 1) rfl (by omega)
    refine br_f (nI_pos (by omega)) ⟨pk_in y 48 (by omega), pk_in y 48 (by omega), xt_ar (kd y) (vl y) ek ev k1 k2 g1 (nm_r (nI_1 y) ?_)⟩
    have y9 : vp_in (nI y) 49 := pk_in y 49 (by omega)
    have F0 : ∀ a, rs_ar (kd y) (vl y) = a → rs_ar (kd y) (vl y) = a := fun _ h => h
    rcases (by omega : rs_ar (kd y) (vl y) = 0 ∨ rs_ar (kd y) (vl y) = 1 ∨ rs_ar (kd y) (vl y) = 2 ∨ rs_ar (kd y) (vl y) = 3) with h | h | h | h
    · rw [h]
      refine br_t (by decide) (br_t (by decide) (br_t (by decide) ⟨y9, nm_r (rs_upI y (y + 1) rfl (by omega)) (nm_r (rs_Xm_p y) (ih fo so to _ (by omega) (rs_lk h0 hy I ?_ (fun _ _ => rfl) (fun _ _ => rfl) (fun _ _ => rfl) ?_ ⟨b1, b2, b3⟩)))⟩))
      · rw [h]; rfl
      · exact ⟨fun z => by omega, fun z => by omega, fun z => by omega⟩
    · obtain ⟨d1, d2, d3⟩ := c1 (by omega)
      rw [h]
      refine br_f (by decide) ⟨y9, nm_r (rs_upI y (y + 1) rfl (by omega)) ⟨pk_in (y + 1) 49 (by omega), nm_r ee (br_t (by decide) (br_t (by decide) ⟨y9, nm_r (rs_upI y (en (y + 1)) rfl (by omega)) (nm_r (rs_Xm_p y) (ih (rs_u fo y (y + 1)) so to _ (by omega) (rs_lk h0 hy I ?_ (fun _ z => rs_un z) (fun _ _ => rfl) (fun _ _ => rfl) ?_ ?_)))⟩))⟩⟩
      · rw [h]; rfl
      · exact ⟨fun z => rs_us, fun z => by omega, fun z => by omega⟩
      · rw [rs_us]; exact ⟨by omega, b2, b3⟩
    · obtain ⟨d1, d2, d3⟩ := c1 (by omega)
      obtain ⟨q1, q2, q3⟩ := c2 (by omega)
      have e2 : rs_A en (nI (en (y + 1))).toNatClampNeg = nI (en (en (y + 1))) := rs_Ax _ rfl (by omega)
      rw [h]
      refine br_f (by decide) ⟨y9, nm_r (rs_upI y (y + 1) rfl (by omega)) ⟨pk_in (y + 1) 49 (by omega), nm_r ee (br_f (by decide) ⟨y9, nm_r (rs_upI y (en (y + 1)) rfl (by omega)) ⟨pk_in (en (y + 1)) 49 (by omega), nm_r e2 (br_t (by decide) ⟨y9, nm_r (rs_upI y (en (en (y + 1))) rfl (by omega)) (nm_r (rs_Xm_p y) (ih (rs_u fo y (y + 1)) (rs_u so y (en (y + 1))) to _ (by omega) (rs_lk h0 hy I ?_ (fun _ z => rs_un z) (fun _ z => rs_un z) (fun _ _ => rfl) ?_ ?_)))⟩)⟩⟩)⟩⟩
      · rw [h]; rfl
      · exact ⟨fun z => rs_us, fun z => rs_us, fun z => by omega⟩
      · rw [rs_us, rs_us]; exact ⟨by omega, by omega, b3⟩
    · obtain ⟨d1, d2, d3⟩ := c1 (by omega)
      obtain ⟨q1, q2, q3⟩ := c2 (by omega)
      obtain ⟨r1, r2, r3⟩ := c3 (by omega)
      have e2 : rs_A en (nI (en (y + 1))).toNatClampNeg = nI (en (en (y + 1))) := rs_Ax _ rfl (by omega)
      have e3 : rs_A en (nI (en (en (y + 1)))).toNatClampNeg = nI (en (en (en (y + 1)))) := rs_Ax _ rfl (by omega)
      rw [h]
      refine br_f (by decide) ⟨y9, nm_r (rs_upI y (y + 1) rfl (by omega)) ⟨pk_in (y + 1) 49 (by omega), nm_r ee (br_f (by decide) ⟨y9, nm_r (rs_upI y (en (y + 1)) rfl (by omega)) ⟨pk_in (en (y + 1)) 49 (by omega), nm_r e2 (br_f (by decide) ⟨y9, nm_r (rs_upI y (en (en (y + 1))) rfl (by omega)) ⟨pk_in (en (en (y + 1))) 49 (by omega), nm_r e3 ⟨y9, nm_r (rs_upI y (en (en (en (y + 1)))) rfl (by omega)) (nm_r (rs_Xm_p y) (ih (rs_u fo y (y + 1)) (rs_u so y (en (y + 1))) (rs_u to y (en (en (y + 1)))) _ (by omega) (rs_lk h0 hy I ?_ (fun _ z => rs_un z) (fun _ z => rs_un z) (fun _ z => rs_un z) ?_ ?_)))⟩⟩⟩)⟩⟩)⟩⟩
      · rw [h]; rfl
      · exact ⟨fun z => rs_us, fun z => rs_us, fun z => rs_us⟩
      · rw [rs_us, rs_us, rs_us]; exact ⟨by omega, by omega, by omega⟩
theorem xc_link {post : SX → Prop} (hc : cnt ≤ 48) (hO : ∀ i, i < cnt → rs_ok (kd i) (vl i)) (h0 : rs_nd kd vl cnt = 0) (hb : ∀ x, fo x ≤ 48 ∧ so x ≤ 48 ∧ to x ≤ 48) (H : ∀ fo' so' to' en', rs_LI kd vl cnt 0 en' fo' so' to' → post ((nI lim), (nI cnt), (nI ned), (nI op), (nI cp), cy, (nI nc), (rs_A kd), (rs_A vl), (rs_A rg), (rs_A ip), (rs_A wdf), (rs_A odf), (rs_A ws), (rs_A ost), (rs_A fo'), (rs_A so'), (rs_A to'), (rs_A en'), (rs_A ord), (rs_A res), (rs_A gl), (rs_A gr), (rs_A fs), (rs_A tb), (rs_AB L))) : wpX_linkOperands post ((nI lim), (nI cnt), (nI ned), (nI op), (nI cp), cy, (nI nc), (rs_A kd), (rs_A vl), (rs_A rg), (rs_A ip), (rs_A wdf), (rs_A odf), (rs_A ws), (rs_A ost), (rs_A fo), (rs_A so), (rs_A to), (rs_A en), (rs_A ord), (rs_A res), (rs_A gl), (rs_A gr), (rs_A fs), (rs_A tb), (rs_AB L)) :=
  nm_r (rs_Xm_s cnt) ⟨cnt + 1, xc_link_l hc hO h0 H cnt fo so to en (Nat.le_refl _) ⟨fun x a b => by omega, fun x a b => by omega, hb⟩⟩
theorem xc_ord_w {post : SX → Prop} {J : Int32 → Int32 → Int32 → (Nat → Int32) → (Nat → Int32) → (Nat → Int32) → (Nat → Int32) → (Nat → Int32) → (Nat → Int32) → (Nat → Int32) → (Nat → Int32) → (Nat → Int32) → (Nat → Int32) → (Nat → Int32) → (Nat → Int32) → (Nat → Int32) → (Nat → Int32) → (Nat → Int32) → (Nat → Int32) → (Nat → Int32) → (Nat → Int32) → (Nat → Int32) → Prop} {s e k : Nat} (hk : k < 48) (h1 : k < e) (he : e ≤ 48) (hs : s ≤ 48) (K : J (nI s) (nI e) (nI (k + 1)) (rs_A kd) (rs_A vl) (rs_A rg) (rs_A ip) (rs_A wdf) (rs_A odf) (rs_A ws) (rs_A ost) (rs_A fo) (rs_A so) (rs_A to) (rs_A en) (rs_A (rs_u ord k (s + e - 1 - k))) (rs_A res) (rs_A gl) (rs_A gr) (rs_A fs) (rs_A tb) (rs_AB L)) : wX_orderTokens_33 post J (nI s) (nI e) (nI k) (nI lim) (nI cnt) (nI ned) (nI op) (nI cp) cy (nI nc) (rs_A kd) (rs_A vl) (rs_A rg) (rs_A ip) (rs_A wdf) (rs_A odf) (rs_A ws) (rs_A ost) (rs_A fo) (rs_A so) (rs_A to) (rs_A en) (rs_A ord) (rs_A res) (rs_A gl) (rs_A gr) (rs_A fs) (rs_A tb) (rs_AB L) := by
  have ez : nI s + nI e - 1 - nI k = nI (s + e - 1 - k) := by
    rw [nI_add, show nI (s + e) - 1 = nI (s + e - 1) from pk_sub (b := 1) (by omega), pk_sub (by omega)]
  exact ⟨pk_in k 49 (by omega), nm_r (rs_upI k (s + e - 1 - k) ez (by omega)) (nm_r (nI_1 k) K)⟩
theorem xc_ord_l {post : SX → Prop} (hc : cnt ≤ 48) (h0 : rs_nd kd vl cnt = 0) (he : ∀ i, i < cnt → en i = rs_e1 en (rs_ar (kd i) (vl i)) i) (H : ∀ ord', (∀ k, k < cnt → ord' k = rs_po kd vl en k) → post ((nI lim), (nI cnt), (nI ned), (nI op), (nI cp), cy, (nI nc), (rs_A kd), (rs_A vl), (rs_A rg), (rs_A ip), (rs_A wdf), (rs_A odf), (rs_A ws), (rs_A ost), (rs_A fo), (rs_A so), (rs_A to), (rs_A en), (rs_A ord'), (rs_A res), (rs_A gl), (rs_A gr), (rs_A fs), (rs_A tb), (rs_AB L))) : ∀ d k s e ord, k + d = cnt → rs_OS kd vl en k s e → (∀ x, x < k → ord x = rs_po kd vl en x) → wX_orderTokens_11 post (nI lim) (nI cnt) (nI ned) (nI op) (nI cp) cy (nI nc) (d + 1) (nI s) (nI e) (nI k) (rs_A kd) (rs_A vl) (rs_A rg) (rs_A ip) (rs_A wdf) (rs_A odf) (rs_A ws) (rs_A ost) (rs_A fo) (rs_A so) (rs_A to) (rs_A en) (rs_A ord) (rs_A res) (rs_A gl) (rs_A gr) (rs_A fs) (rs_A tb) (rs_AB L) := by
  intro d
  induction d with
  | zero =>
    intro k s e ord hd O ho
    have ek : k = cnt := by omega
    subst ek
    exact br_t (nI_le (Nat.le_refl _) (by omega)) (H ord ho)
  | succ d ih =>
    intro k s e ord hd O ho
    have hk : k < cnt := by omega
    obtain ⟨o1, o2⟩ := rs_os h0 he hk O
    obtain ⟨a, b, c, d', f⟩ := rs_seg h0 he hk
    have bnd : s ≤ 48 ∧ e ≤ 48 := by
      rcases O with ⟨e1, e2, e3⟩ | ⟨e1, e2, e3⟩
      · obtain ⟨z1, z2, z3, z4⟩ := rs_parse h0 he _ 0 (Nat.le_refl _) (by omega)
        omega
      · obtain ⟨a, b, c, d, f⟩ := rs_seg h0 he (i := k - 1) (by omega)
        omega
    have nx : ∀ s e, s = rs_ss kd vl k → e = en (rs_ss kd vl k) → wX_orderTokens_33 post (wX_orderTokens_11 post (nI lim) (nI cnt) (nI ned) (nI op) (nI cp) cy (nI nc) (d + 1)) (nI s) (nI e) (nI k) (nI lim) (nI cnt) (nI ned) (nI op) (nI cp) cy (nI nc) (rs_A kd) (rs_A vl) (rs_A rg) (rs_A ip) (rs_A wdf) (rs_A odf) (rs_A ws) (rs_A ost) (rs_A fo) (rs_A so) (rs_A to) (rs_A en) (rs_A ord) (rs_A res) (rs_A gl) (rs_A gr) (rs_A fs) (rs_A tb) (rs_AB L) := by
      intro s e hs he'
      refine xc_ord_w (by omega) (by omega) (by omega) (by omega) (ih (k + 1) s e _ (by omega) (Or.inr ⟨by omega, hs, he'⟩) fun x hx => ?_)
      rcases Nat.lt_or_ge x k with q | q
      · rw [rs_un (by omega)]; exact ho x q
      · have ex : x = k := by omega
        rw [ex, rs_us, hs, he']; rfl
    refine br_f (nI_ge hk (by omega)) (pk_eq k e (fun h => ?_) fun h => ?_)
    · have h1 := o1 h
      refine ⟨pk_in e 49 (by omega), nm_r (rs_Ax e rfl (by omega)) (nx e (en e) ?_ ?_)⟩
      · rw [h1, h]
      · rw [h1, h]
    · obtain ⟨h1, h2⟩ := o2 h
      exact nx s e h1.symm h2.symm
theorem xc_ord {post : SX → Prop} (hc : cnt ≤ 48) (h0 : rs_nd kd vl cnt = 0) (he : ∀ i, i < cnt → en i = rs_e1 en (rs_ar (kd i) (vl i)) i) (H : ∀ ord', (∀ k, k < cnt → ord' k = rs_po kd vl en k) → post ((nI lim), (nI cnt), (nI ned), (nI op), (nI cp), cy, (nI nc), (rs_A kd), (rs_A vl), (rs_A rg), (rs_A ip), (rs_A wdf), (rs_A odf), (rs_A ws), (rs_A ost), (rs_A fo), (rs_A so), (rs_A to), (rs_A en), (rs_A ord'), (rs_A res), (rs_A gl), (rs_A gr), (rs_A fs), (rs_A tb), (rs_AB L))) : wpX_orderTokens post ((nI lim), (nI cnt), (nI ned), (nI op), (nI cp), cy, (nI nc), (rs_A kd), (rs_A vl), (rs_A rg), (rs_A ip), (rs_A wdf), (rs_A odf), (rs_A ws), (rs_A ost), (rs_A fo), (rs_A so), (rs_A to), (rs_A en), (rs_A ord), (rs_A res), (rs_A gl), (rs_A gr), (rs_A fs), (rs_A tb), (rs_AB L)) :=
  nm_r (show rs_A en 0 = nI (en 0) from rfl) ⟨cnt + 1, xc_ord_l hc h0 he H cnt 0 0 (en 0) ord (by omega) (Or.inl ⟨rfl, rfl, rfl⟩) fun x hx => by omega⟩
theorem xc_comp {post : Int32 → SX → Prop} (hc : cnt ≤ 48) (T : rs_T cnt op kd vl wdf odf ws ost) (h0 : rs_nd kd vl cnt = 0) (hb : ∀ x, fo x ≤ 48 ∧ so x ≤ 48 ∧ to x ≤ 48) (H : ∀ fo' so' to' en' ord' nc' gl' gr' fs' tb', rs_C cnt kd vl ws fo' so' to' en' ord' nc' gl' gr' fs' tb' → post 0 ((nI lim), (nI cnt), (nI 0), (nI op), (nI 1), cy, (nI nc'), (rs_A kd), (rs_A vl), (rs_A rg), (rs_A ip), (rs_A wdf), (rs_A odf), (rs_A ws), (rs_A ost), (rs_A fo'), (rs_A so'), (rs_A to'), (rs_A en'), (rs_A ord'), (rs_A res), (rs_A gl'), (rs_A gr'), (rs_A fs'), (rs_A tb'), (rs_AB L))) : wpX_compile post ((nI lim), (nI cnt), (nI 0), (nI op), (nI 0), cy, (nI nc), (rs_A kd), (rs_A vl), (rs_A rg), (rs_A ip), (rs_A wdf), (rs_A odf), (rs_A ws), (rs_A ost), (rs_A fo), (rs_A so), (rs_A to), (rs_A en), (rs_A ord), (rs_A res), (rs_A gl), (rs_A gr), (rs_A fs), (rs_A tb), (rs_AB L)) := by
  refine br_t rfl (br_t (by decide) ?_)
  refine xc_link hc (fun i hi => (T.1.1 i hi).1) h0 hb fun fo' so' to' en' I => ?_
  have he : ∀ i, i < cnt → en' i = rs_e1 en' (rs_ar (kd i) (vl i)) i := fun i hi => I.1 i (Nat.zero_le _) hi
  refine xc_ord hc h0 he fun ord' ho => ?_
  have P := rs_T_Pg T h0 he
  refine xc_gates P hc (fun i hi => I.2.1 i (Nat.zero_le _) hi) I.2.2 ho (rs_T_D T) fun nc' gl' gr' tb' fs' J => ?_
  exact H fo' so' to' en' ord' nc' gl' gr' fs' tb' ⟨P, fun i hi => I.2.1 i (Nat.zero_le _) hi, I.2.2, ho, J⟩
end

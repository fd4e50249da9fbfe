/-! taking a token, on both sides -/
theorem xt_b1 : vp_nar .boolean 1 = nI 1 := by rfl
def rs_lo (k : Nat) : Nat := if k = 5 then 1 else 0
theorem xt_lo {post : Int32 → Prop} (k : Nat) (hk : k ≤ 11) (H : post (nI (rs_lo k))) : wpX_lowestValue post (nI k) := by
  unfold rs_lo at H
  refine pk_eq k 5 (fun h => ?_) fun h => ?_
  · rw [if_pos h] at H; exact H
  · rw [if_neg h] at H; exact H
theorem xt_hi {post : Int32 → Prop} (k : Nat) (h1 : 1 ≤ k) (h2 : k ≤ 11) (H : post (nI (rs_hi k))) : wpX_highestValue post (nI k) := by
  rcases (by omega : k = 1 ∨ k = 2 ∨ k = 3 ∨ k = 4 ∨ k = 5 ∨ k = 6 ∨ k = 7 ∨ k = 8 ∨ k = 9 ∨ k = 10 ∨ k = 11) with h | h | h | h | h | h | h | h | h | h | h <;> subst h
  · exact br_f (by decide) (br_f (by decide) (br_t rfl H))
  · exact br_f (by decide) (br_f (by decide) (br_f (by decide) (br_t rfl H)))
  · exact br_f (by decide) (br_f (by decide) (br_f (by decide) (br_f (by decide) (br_t rfl H))))
  · exact br_f (by decide) (br_f (by decide) (br_f (by decide) (br_f (by decide) (br_f (by decide) (br_t rfl H)))))
  · exact br_f (by decide) (br_f (by decide) (br_f (by decide) (br_f (by decide) (br_f (by decide) (br_f (by decide) (br_t rfl H))))))
  · exact br_f (by decide) (br_f (by decide) (br_f (by decide) (br_f (by decide) (br_f (by decide) (br_f (by decide) (br_f (by decide) (br_t rfl H)))))))
  · exact br_f (by decide) (br_f (by decide) (br_f (by decide) (br_f (by decide) (br_f (by decide) (br_f (by decide) (br_f (by decide) (br_f (by decide) (br_t rfl H))))))))
  · exact br_f (by decide) (br_f (by decide) (br_f (by decide) (br_f (by decide) (br_f (by decide) (br_f (by decide) (br_f (by decide) (br_f (by decide) (br_f (by decide) (br_t rfl H)))))))))
  · exact br_f (by decide) (br_f (by decide) (br_f (by decide) (br_f (by decide) (br_f (by decide) (br_f (by decide) (br_f (by decide) (br_f (by decide) (br_f (by decide) (br_f (by decide) (br_t rfl H))))))))))
  · exact br_f (by decide) (br_f (by decide) (br_f (by decide) (br_f (by decide) (br_f (by decide) (br_f (by decide) (br_f (by decide) (br_f (by decide) (br_f (by decide) (br_f (by decide) (br_f (by decide) (br_t rfl H)))))))))))
  · exact br_f (by decide) (br_f (by decide) (br_f (by decide) (br_f (by decide) (br_f (by decide) (br_f (by decide) (br_f (by decide) (br_f (by decide) (br_f (by decide) (br_f (by decide) (br_f (by decide) (br_f (by decide) (br_t rfl H))))))))))))
theorem xt_is {post : Int32 → Prop} (k : Nat) (hk : k ≤ 11) (H : post (nI (if 9 ≤ k then 1 else 0))) : wpX_isStatement post (nI k) := by
  refine pk_lt k 9 (fun h => ?_) fun h => ?_
  · rw [if_neg (by omega)] at H; exact H
  · rw [if_pos h] at H; exact H
section
variable {lim cnt ned op cp nc : Nat} {cy : Int32} {kd vl rg ip wdf odf ws ost fo so to en ord res gl gr fs tb : Nat → Nat} {L : Nat → Bool}
variable {okd oix : Nat} {wv st nx : Nat → Nat}
theorem yt_hi {post : Int32 → Prop} (k : Nat) (hk : k ≤ 11) (H : post (nI (rs_hi k))) : wpY_maxOf post ((nI lim), (nI cnt), (nI ned), (nI okd), (nI oix), (nI cp), cy, (rs_A kd), (rs_A vl), (rs_A rg), (rs_A ip), (rs_A wv), (rs_A wdf), (rs_A odf), (rs_A st), (rs_A nx)) (nI k) := by
  unfold rs_hi at H
  refine pk_eq k 1 (fun h => ?_) fun h => pk_eq k 2 (fun h2 => ?_) fun h2 => pk_eq k 10 (fun h3 => ?_) fun h3 => pk_eq k 5 (fun h4 => ?_) fun h4 => ?_
  · rw [if_pos h] at H; exact H
  · rw [if_neg h, if_pos h2] at H; exact H
  · rw [if_neg h, if_neg h2, if_neg (by omega), if_pos h3] at H; exact H
  · rw [if_neg h, if_neg h2, if_pos h4] at H; exact H
  · rw [if_neg h, if_neg h2, if_neg h4, if_neg h3] at H; exact H
/-- the same answer on both sides; 0 is the token's acceptance -/
theorem xt_ref (p0 p1 : Int32) (hl : lim ≤ 48) (hct : cnt ≤ lim) (hnd : ned ≤ 200) (hw : ∀ w, wdf w = 0 ∨ wdf w = 1) (ho : ∀ w, odf w = 0 ∨ odf w = 1) (hcp : cp = 0 ∨ cp = 1) : ∃ rr : Int32, (∀ post : Int32 → Prop, post rr → wpX_refusalOf post ((nI lim), (nI cnt), (nI ned), (nI op), (nI cp), cy, (nI nc), (rs_A kd), (rs_A vl), (rs_A rg), (rs_A ip), (rs_A wdf), (rs_A odf), (rs_A ws), (rs_A ost), (rs_A fo), (rs_A so), (rs_A to), (rs_A en), (rs_A ord), (rs_A res), (rs_A gl), (rs_A gr), (rs_A fs), (rs_A tb), (rs_AB L)) p0 p1) ∧ (∀ post : Int32 → SY → Prop, (rr ≠ 0 → post rr ((nI lim), (nI cnt), (nI ned), (nI okd), (nI oix), (nI cp), cy, (rs_A kd), (rs_A vl), (rs_A rg), (rs_A ip), (rs_A wv), (rs_A wdf), (rs_A odf), (rs_A st), (rs_A nx))) → (rr = 0 → wY_token_164 post p0 p1 (nI lim) (nI cnt) (nI ned) (nI okd) (nI oix) (nI cp) cy (rs_A kd) (rs_A vl) (rs_A rg) (rs_A ip) (rs_A wv) (rs_A wdf) (rs_A odf) (rs_A st) (rs_A nx)) → wpY_token post ((nI lim), (nI cnt), (nI ned), (nI okd), (nI oix), (nI cp), cy, (rs_A kd), (rs_A vl), (rs_A rg), (rs_A ip), (rs_A wv), (rs_A wdf), (rs_A odf), (rs_A st), (rs_A nx)) p0 p1) ∧ (rr = 0 → ∃ k v, p0 = nI k ∧ p1 = nI v ∧ rs_ok k v ∧ cp = 0 ∧ cnt < lim ∧ (9 ≤ k ↔ ned = 0) ∧ (k = 4 → wdf v = 1) ∧ (k = 9 → wdf v = 0) ∧ (k = 10 → odf v = 0)) := by
  rcases hcp with hcp | hcp <;> subst hcp
  case inr => exact ⟨-1, fun post h => br_f (by decide) h, fun post h _ => br_f (by decide) (h (by decide)), fun h => absurd h (by decide)⟩
  rcases pk_ix p0 (n := 12) (by decide) with h | h | ⟨k, hk, rfl⟩
  · have h1 : p0 < 1 := Int32.lt_of_lt_of_le h (by decide)
    exact ⟨-2, fun post h => br_t rfl (br_t h1 h), fun post h _ => br_t rfl (br_t h1 (h (by decide))), fun h => absurd h (by decide)⟩
  · have h1 : ¬ p0 < 1 := Int32.not_lt.mpr (Int32.le_trans (by decide) h)
    have h2 : ¬ p0 ≤ 11 := fun z => absurd (Int32.le_trans h z) (by decide)
    exact ⟨-2, fun post h => br_t rfl (br_f h1 (br_f h2 h)), fun post h _ => br_t rfl (br_f h1 (br_f h2 (h (by decide)))), fun h => absurd h (by decide)⟩
  rcases Nat.eq_zero_or_pos k with hz | hk1
  · subst hz
    exact ⟨-2, fun post h => br_t rfl (br_t (by decide) h), fun post h _ => br_t rfl (br_t (by decide) (h (by decide))), fun h => absurd h (by decide)⟩
  have k1 : ¬ nI k < 1 := nI_nlt (b := 1) hk1 (by omega)
  have k11 : nI k ≤ 11 := nI_le (b := 11) (by omega) (by decide)
  have Xlo : ∀ post : Int32 → Prop, ((p1 < nI (rs_lo k) → post (-3)) ∧ (¬ p1 < nI (rs_lo k) → wpX_highestValue (fun r_6 => (((p1 ≤ r_6 → (((nI cnt < nI lim → (wpX_isStatement (fun r_9 => (((nI ned = 0 → (wX_refusalOf_72 post (nI k) p1 1 r_9 (nI lim) (nI cnt) (nI ned) (nI op) (nI 0) cy (nI nc) (rs_A kd) (rs_A vl) (rs_A rg) (rs_A ip) (rs_A wdf) (rs_A odf) (rs_A ws) (rs_A ost) (rs_A fo) (rs_A so) (rs_A to) (rs_A en) (rs_A ord) (rs_A res) (rs_A gl) (rs_A gr) (rs_A fs) (rs_A tb) (rs_AB L))) ∧ (¬ nI ned = 0 → (wX_refusalOf_72 post (nI k) p1 0 r_9 (nI lim) (nI cnt) (nI ned) (nI op) (nI 0) cy (nI nc) (rs_A kd) (rs_A vl) (rs_A rg) (rs_A ip) (rs_A wdf) (rs_A odf) (rs_A ws) (rs_A ost) (rs_A fo) (rs_A so) (rs_A to) (rs_A en) (rs_A ord) (rs_A res) (rs_A gl) (rs_A gr) (rs_A fs) (rs_A tb) (rs_AB L)))))) (nI k))) ∧ (¬ nI cnt < nI lim → (post (-4)))))) ∧ (¬ p1 ≤ r_6 → (post (-3)))))) (nI k))) → wpX_refusalOf post ((nI lim), (nI cnt), (nI ned), (nI op), (nI 0), cy, (nI nc), (rs_A kd), (rs_A vl), (rs_A rg), (rs_A ip), (rs_A wdf), (rs_A odf), (rs_A ws), (rs_A ost), (rs_A fo), (rs_A so), (rs_A to), (rs_A en), (rs_A ord), (rs_A res), (rs_A gl), (rs_A gr), (rs_A fs), (rs_A tb), (rs_AB L)) (nI k) p1 := fun post h => br_t rfl (br_f k1 (br_t k11 (xt_lo k (by omega) h)))
  have Ylo : ∀ post : Int32 → SY → Prop, wY_token_33 post (nI k) p1 (nI (rs_lo k)) (nI lim) (nI cnt) (nI ned) (nI okd) (nI oix) (nI 0) cy (rs_A kd) (rs_A vl) (rs_A rg) (rs_A ip) (rs_A wv) (rs_A wdf) (rs_A odf) (rs_A st) (rs_A nx) → wpY_token post ((nI lim), (nI cnt), (nI ned), (nI okd), (nI oix), (nI 0), cy, (rs_A kd), (rs_A vl), (rs_A rg), (rs_A ip), (rs_A wv), (rs_A wdf), (rs_A odf), (rs_A st), (rs_A nx)) (nI k) p1 := fun post h => by
    unfold rs_lo at h
    refine br_t rfl (br_f k1 (br_t k11 (pk_eq k 5 (fun g => ?_) fun g => ?_)))
    · rw [if_pos g] at h; exact h
    · rw [if_neg g] at h; exact h
  by_cases hlo : p1 < nI (rs_lo k)
  · exact ⟨-3, fun post h => Xlo post (br_t hlo h), fun post h _ => Ylo post (br_t hlo (h (by decide))), fun h => absurd h (by decide)⟩
  have hlb : rs_lo k ≤ 1 := by
    unfold rs_lo
    split <;> omega
  have hn0 : ¬ p1 < 0 := fun z => hlo (Int32.lt_of_lt_of_le z (nI_pos' (by omega)))
  obtain ⟨v, hv, rfl⟩ := nI_of hn0
  have hv1 : rs_lo k ≤ v := by
    rw [nI_ltI hv (by omega)] at hlo
    omega
  have hhb : rs_hi k ≤ 255 := by
    unfold rs_hi
    repeat' split
    all_goals omega
  rcases Nat.lt_or_ge (rs_hi k) v with hhi | hhi
  · have g : ¬ nI v ≤ nI (rs_hi k) := nI_ge hhi hv
    exact ⟨-3, fun post h => Xlo post (br_f hlo (xt_hi k hk1 (by omega) (br_f g h))), fun post h _ => Ylo post (br_f hlo (yt_hi k (by omega) (br_f g (h (by decide))))), fun h => absurd h (by decide)⟩
  have g : nI v ≤ nI (rs_hi k) := nI_le hhi (by omega)
  have ok : rs_ok k v := ⟨hk1, by omega, hhi, fun h5 => by
    have : rs_lo k = 1 := by unfold rs_lo; rw [if_pos h5]
    omega⟩
  obtain ⟨g1, g2, g5, g10, g8⟩ := rs_rng ok
  rcases Nat.lt_or_ge cnt lim with hf | hf
  case inr =>
    have f1 : ¬ nI cnt < nI lim := nI_nlt hf (by omega)
    have f2 : nI lim ≤ nI cnt := nI_le hf (by omega)
    exact ⟨-4, fun post h => Xlo post (br_f hlo (xt_hi k hk1 (by omega) (br_t g (br_f f1 h)))), fun post h _ => Ylo post (br_f hlo (yt_hi k (by omega) (br_t g (br_t f2 (h (by decide)))))), fun h => absurd h (by decide)⟩
  have f1 : nI cnt < nI lim := nI_lt hf (by omega)
  have f2 : ¬ nI lim ≤ nI cnt := nI_ge hf (by omega)
  have f3 : nI cnt < 48 := nI_lt (b := 48) (by omega) (by decide)
  -- the syntax
  by_cases hs : (9 ≤ k ↔ ned = 0)
  case neg =>
    refine ⟨-5, fun post h => Xlo post (br_f hlo (xt_hi k hk1 (by omega) (br_t g (br_t f1 (xt_is k (by omega) ?_))))), fun post h _ => Ylo post (br_f hlo (yt_hi k (by omega) (br_t g (br_f f2 (br_t f3 ?_))))), fun h => absurd h (by decide)⟩
    · refine pk_eq ned 0 (fun z => ?_) fun z => ?_
      · rw [if_neg (by omega)]
        exact br_f (by decide) h
      · rw [if_pos (by omega)]
        exact br_f (by decide) h
    · have h' := h (by decide)
      refine pk_eq ned 0 (fun z => br_t (nI_le (b := 8) (by omega) (by decide)) h') fun z => br_f (nI_nle (by omega) (by omega)) (br_f (nI_nlt (b := 9) (by omega) (by omega)) h')
  have Xs : ∀ post : Int32 → Prop, ((nI k = 9 → (vp_in (nI v) 8 ∧ (((rs_A wdf (nI v).toNatClampNeg = 0 → (wX_refusalOf_96 post (nI k) (nI v) (nI lim) (nI cnt) (nI ned) (nI op) (nI 0) cy (nI nc) (rs_A kd) (rs_A vl) (rs_A rg) (rs_A ip) (rs_A wdf) (rs_A odf) (rs_A ws) (rs_A ost) (rs_A fo) (rs_A so) (rs_A to) (rs_A en) (rs_A ord) (rs_A res) (rs_A gl) (rs_A gr) (rs_A fs) (rs_A tb) (rs_AB L))) ∧ (¬ rs_A wdf (nI v).toNatClampNeg = 0 → (post (-6))))))) ∧ (¬ nI k = 9 → (wX_refusalOf_96 post (nI k) (nI v) (nI lim) (nI cnt) (nI ned) (nI op) (nI 0) cy (nI nc) (rs_A kd) (rs_A vl) (rs_A rg) (rs_A ip) (rs_A wdf) (rs_A odf) (rs_A ws) (rs_A ost) (rs_A fo) (rs_A so) (rs_A to) (rs_A en) (rs_A ord) (rs_A res) (rs_A gl) (rs_A gr) (rs_A fs) (rs_A tb) (rs_AB L)))) → wpX_refusalOf post ((nI lim), (nI cnt), (nI ned), (nI op), (nI 0), cy, (nI nc), (rs_A kd), (rs_A vl), (rs_A rg), (rs_A ip), (rs_A wdf), (rs_A odf), (rs_A ws), (rs_A ost), (rs_A fo), (rs_A so), (rs_A to), (rs_A en), (rs_A ord), (rs_A res), (rs_A gl), (rs_A gr), (rs_A fs), (rs_A tb), (rs_AB L)) (nI k) (nI v) := fun post h => by
    refine Xlo post (br_f hlo (xt_hi k hk1 (by omega) (br_t g (br_t f1 (xt_is k (by omega) ?_)))))
    refine pk_eq ned 0 (fun z => ?_) fun z => ?_
    · rw [if_pos (hs.mpr z)]
      exact br_t rfl h
    · rw [if_neg (fun y => z (hs.mp y))]
      exact br_t rfl h
  have Ys : ∀ post : Int32 → SY → Prop, wY_token_103 post (nI k) (nI v) (nI lim) (nI cnt) (nI ned) (nI okd) (nI oix) (nI 0) cy (rs_A kd) (rs_A vl) (rs_A rg) (rs_A ip) (rs_A wv) (rs_A wdf) (rs_A odf) (rs_A st) (rs_A nx) → wpY_token post ((nI lim), (nI cnt), (nI ned), (nI okd), (nI oix), (nI 0), cy, (rs_A kd), (rs_A vl), (rs_A rg), (rs_A ip), (rs_A wv), (rs_A wdf), (rs_A odf), (rs_A st), (rs_A nx)) (nI k) (nI v) := fun post h => by
    refine Ylo post (br_f hlo (yt_hi k (by omega) (br_t g (br_f f2 (br_t f3 ?_)))))
    refine pk_eq ned 0 (fun z => br_f (nI_ge (a := 8) (by have := hs.mpr z; omega) (by omega)) (br_t (by rw [z]; decide) h)) fun z => br_f (nI_nle (by omega) (by omega)) (br_t (nI_lt (b := 9) (by omega) (by decide)) h)
  have ew : v < 8 → rs_A wdf (nI v).toNatClampNeg = nI (wdf v) := fun h => rs_Ax v rfl (by omega)
  have eo : v < 4 → rs_A odf (nI v).toNatClampNeg = nI (odf v) := fun h => rs_Ax v rfl (by omega)
  have yw : v < 8 → vp_in (nI v &&& 7) 8 ∧ rs_A wdf (nI v &&& 7).toNatClampNeg = nI (wdf v) := fun h => by
    rw [ya_m7 h]; exact ⟨vp_in_nI h (by decide), ew h⟩
  have yo : v < 4 → vp_in (nI v &&& 3) 4 ∧ rs_A odf (nI v &&& 3).toNatClampNeg = nI (odf v) := fun h => by
    rw [ya_m3 h]; exact ⟨vp_in_nI h (by decide), eo h⟩
  rcases (by omega : k = 9 ∨ k = 10 ∨ k = 4 ∨ (k ≠ 9 ∧ k ≠ 10 ∧ k ≠ 4)) with h | h | h | ⟨n9, n10, n4⟩
  · subst h
    have v8 := g8 (by decide) (by decide)
    rcases hw v with z | z
    · have e1 : rs_A wdf (nI v).toNatClampNeg = 0 := by rw [ew v8, z]; rfl
      have e2 : rs_A wdf (nI v &&& 7).toNatClampNeg = 0 := by rw [(yw v8).2, z]; rfl
      exact ⟨0, fun post h => Xs post (br_t rfl ⟨pk_in v 8 v8, br_t e1 (br_f (by decide) (br_f (by decide) h))⟩), fun post _ h => Ys post (br_t rfl ⟨(yw v8).1, br_t e2 (br_f (by decide) (br_f (by decide) (h rfl)))⟩), fun _ => ⟨9, v, rfl, rfl, ok, rfl, hf, hs, fun h => absurd h (by decide), fun _ => z, fun h => absurd h (by decide)⟩⟩
    · have e1 : ¬ rs_A wdf (nI v).toNatClampNeg = 0 := by rw [ew v8, z]; decide
      have e2 : ¬ rs_A wdf (nI v &&& 7).toNatClampNeg = 0 := by rw [(yw v8).2, z]; decide
      exact ⟨-6, fun post h => Xs post (br_t rfl ⟨pk_in v 8 v8, br_f e1 h⟩), fun post h _ => Ys post (br_t rfl ⟨(yw v8).1, br_f e2 (h (by decide))⟩), fun h => absurd h (by decide)⟩
  · subst h
    have v4 := g10 rfl
    rcases ho v with z | z
    · have e1 : rs_A odf (nI v).toNatClampNeg = 0 := by rw [eo v4, z]; rfl
      have e2 : rs_A odf (nI v &&& 3).toNatClampNeg = 0 := by rw [(yo v4).2, z]; rfl
      exact ⟨0, fun post h => Xs post (br_f (by decide) (br_t rfl ⟨pk_in v 4 v4, br_t e1 (br_f (by decide) h)⟩)), fun post _ h => Ys post (br_f (by decide) (br_t rfl ⟨(yo v4).1, br_t e2 (br_f (by decide) (h rfl))⟩)), fun _ => ⟨10, v, rfl, rfl, ok, rfl, hf, hs, fun h => absurd h (by decide), fun h => absurd h (by decide), fun _ => z⟩⟩
    · have e1 : ¬ rs_A odf (nI v).toNatClampNeg = 0 := by rw [eo v4, z]; decide
      have e2 : ¬ rs_A odf (nI v &&& 3).toNatClampNeg = 0 := by rw [(yo v4).2, z]; decide
      exact ⟨-6, fun post h => Xs post (br_f (by decide) (br_t rfl ⟨pk_in v 4 v4, br_f e1 h⟩)), fun post h _ => Ys post (br_f (by decide) (br_t rfl ⟨(yo v4).1, br_f e2 (h (by decide))⟩)), fun h => absurd h (by decide)⟩
  · subst h
    have v8 := g8 (by decide) (by decide)
    rcases hw v with z | z
    · have e1 : rs_A wdf (nI v).toNatClampNeg = 0 := by rw [ew v8, z]; rfl
      have e2 : rs_A wdf (nI v &&& 7).toNatClampNeg = 0 := by rw [(yw v8).2, z]; rfl
      exact ⟨-7, fun post h => Xs post (br_f (by decide) (br_f (by decide) (br_t rfl ⟨pk_in v 8 v8, br_t e1 h⟩))), fun post h _ => Ys post (br_f (by decide) (br_f (by decide) (br_t rfl ⟨(yw v8).1, br_t e2 (h (by decide))⟩))), fun h => absurd h (by decide)⟩
    · have e1 : ¬ rs_A wdf (nI v).toNatClampNeg = 0 := by rw [ew v8, z]; decide
      have e2 : ¬ rs_A wdf (nI v &&& 7).toNatClampNeg = 0 := by rw [(yw v8).2, z]; decide
      exact ⟨0, fun post h => Xs post (br_f (by decide) (br_f (by decide) (br_t rfl ⟨pk_in v 8 v8, br_f e1 h⟩))), fun post _ h => Ys post (br_f (by decide) (br_f (by decide) (br_t rfl ⟨(yw v8).1, br_f e2 (h rfl)⟩))), fun _ => ⟨4, v, rfl, rfl, ok, rfl, hf, hs, fun _ => z, fun h => absurd h (by decide), fun h => absurd h (by decide)⟩⟩
  · have m9 : ¬ nI k = 9 := fun z => n9 ((nI_eq (b := 9) (by omega) (by decide)).mp z)
    have m10 : ¬ nI k = 10 := fun z => n10 ((nI_eq (b := 10) (by omega) (by decide)).mp z)
    have m4 : ¬ nI k = 4 := fun z => n4 ((nI_eq (b := 4) (by omega) (by decide)).mp z)
    exact ⟨0, fun post h => Xs post (br_f m9 (br_f m10 (br_f m4 h))), fun post _ h => Ys post (br_f m9 (br_f m10 (br_f m4 (h rfl)))), fun _ => ⟨k, v, rfl, rfl, ok, rfl, hf, hs, fun h => absurd h n4, fun h => absurd h n9, fun h => absurd h n10⟩⟩
end

/-! resolve -/
def or_L (K : Nat → Int32) (m : Nat) : Bool := decide (K (m + 1) = 5)
def or_n (V : Nat → Int32) (m : Nat) : Nat := (V (6 * (m + 1))).toNatClampNeg - 1
def or_v (K V : Nat → Int32) : Nat → Nat → Int32
  | 0, _ => -2
  | d + 1, m => if K (m + 1) = 0 then -2 else if K (m + 1) = 5 then or_v K V d (or_n V m) else nI (m + 1)
theorem or_v_s (K V : Nat → Int32) (d m : Nat) : or_v K V (d + 1) m = if K (m + 1) = 0 then -2 else if K (m + 1) = 5 then or_v K V d (or_n V m) else nI (m + 1) := rfl
def or_f (K : Nat → Int32) (m : Nat) : Int32 := if K (m + 1) = 0 then -2 else if K (m + 1) = 5 then -2 else nI (m + 1)
theorem or_50 : ¬ (5 : Int32) = 0 := by decide
theorem or_Lt {K : Nat → Int32} {m : Nat} (h : K (m + 1) = 5) : or_L K m = true := decide_eq_true h
theorem or_Lf {K : Nat → Int32} {m : Nat} (h : ¬ K (m + 1) = 5) : ¬ or_L K m = true := fun z => h (of_decide_eq_true z)
theorem or_vf {K V : Nat → Int32} : ∀ d m, or_v K V (d + 1) m = or_f K (oc_it (or_L K) (or_n V) d m) := by
  intro d
  induction d with
  | zero => intro m; rfl
  | succ d ih =>
    intro m
    rw [or_v_s, oc_it_s]
    by_cases h5 : K (m + 1) = 5
    · rw [if_neg (by rw [h5]; exact or_50), if_pos h5, if_pos (or_Lt h5)]
      exact ih _
    · rw [if_neg h5, if_neg (or_Lf h5)]
      unfold or_f
      rw [if_neg h5]
theorem or_fL {K : Nat → Int32} {m : Nat} (h : or_L K m = true) : or_f K m = -2 := by
  have e : K (m + 1) = 5 := of_decide_eq_true h
  unfold or_f
  rw [if_neg (by rw [e]; exact or_50), if_pos e]
theorem or_link {sv rv : Int32} {x f K S V Q E : Nat → Int32} {m : Nat} (I : ob_R sv x f rv K S V Q E) (hm : m < 8) (h5 : K (m + 1) = 5) : or_n V m < 8 ∧ V (6 * (m + 1)) = nI (or_n V m + 1) ∧ x (m * 20 + 2 + 0) = nI (or_n V m + 1) := by
  obtain ⟨c, n, ⟨h1, h2, h3, hs, h6, _⟩, hz, hq⟩ := ob_at I hm
  have z1 := hz.1
  have c5 : c = 5 := (nI_eq (b := 5) (by omega) (by omega)).mp (h3.symm.trans h5)
  have n1 := hz.2.2.2.2.1 c5
  obtain ⟨e1, e2, _, e4⟩ := h6 0 (by omega) (by omega)
  obtain ⟨t, ht, et⟩ := e4 (hq c5)
  have en : or_n V m = t := by
    unfold or_n
    rw [show V (6 * (m + 1)) = nI (t + 1) from et, nI_clamp (by omega)]
    omega
  rw [en]
  exact ⟨ht, et, e1.trans et⟩
theorem or_hf {sv rv : Int32} {x f K S V Q E : Nat → Int32} (I : ob_R sv x f rv K S V Q E) : ∀ m, m < 8 → or_L K m = true → or_n V m < 8 := fun _ hm h => (or_link I hm (of_decide_eq_true h)).1
theorem or_X {sv rv : Int32} {x f K S V Q E : Nat → Int32} {post : Int32 → Prop} (I : ob_R sv x f rv K S V Q E) : ∀ d j m, j + d = 8 → m < 8 → post (or_v K V d m) → wX_resolve_13 post sv x f (d + 1) (nI (m + 1)) (nI j) := by
  intro d
  induction d with
  | zero =>
    intro j m hj hm h
    exact br_t (nI_le (a := 8) (by omega) (by omega)) h
  | succ d ih =>
    intro j m hj hm h
    refine br_f (nI_ge (b := 8) (by omega) (by omega)) (od_kindE hm (og_kind I hm).symm ?_)
    rw [or_v_s] at h
    by_cases h0 : K (m + 1) = 0
    · rw [if_pos h0] at h
      exact br_t h0 h
    rw [if_neg h0] at h
    by_cases h5 : K (m + 1) = 5
    · rw [if_pos h5] at h
      obtain ⟨a, b, c⟩ := or_link I hm h5
      exact br_f h0 (br_t h5 (od_valE (i := 0) hm (by omega) c (nm_r (nI_1 j) (ih (j + 1) _ (by omega) a h))))
    · rw [if_neg h5] at h
      exact br_f h0 (br_f h5 h)
theorem or_Y {sv rv : Int32} {x f K S V Q E : Nat → Int32} {post : Int32 → Prop} (I : ob_R sv x f rv K S V Q E) : ∀ d j m, j + d = 9 → m < 8 → post (or_f K (oc_it (or_L K) (or_n V) d m)) → wY_resolve_14 post rv K S V Q E (d + 1) (nI (m + 1)) (nI j) := by
  intro d
  induction d with
  | zero =>
    intro j m hj hm h
    have i : vp_in (nI (m + 1)) 54 := vp_in_nI (by omega) (by omega)
    refine br_t (nI_le (a := 9) (by omega) (by omega)) ?_
    rw [nI_clamp (by omega)]
    have h : post (or_f K m) := h
    unfold or_f at h
    by_cases h5 : K (m + 1) = 5
    · rw [if_neg (by rw [h5]; exact or_50), if_pos h5] at h
      exact ⟨i, br_t h5 h⟩
    rw [if_neg h5] at h
    by_cases h0 : K (m + 1) = 0
    · rw [if_pos h0] at h
      exact ⟨i, br_f h5 ⟨i, br_t h0 h⟩⟩
    · rw [if_neg h0] at h
      exact ⟨i, br_f h5 ⟨i, br_f h0 h⟩⟩
  | succ d ih =>
    intro j m hj hm h
    have i : vp_in (nI (m + 1)) 54 := vp_in_nI (by omega) (by omega)
    refine br_f (nI_ge (b := 9) (by omega) (by omega)) ?_
    rw [oa_6, nI_clamp (by omega), nI_clamp (by omega)]
    rw [oc_it_s] at h
    by_cases h5 : K (m + 1) = 5
    · rw [if_pos (or_Lt h5)] at h
      obtain ⟨a, b, c⟩ := or_link I hm h5
      exact ⟨i, br_t h5 ⟨vp_in_nI (by omega) (by omega), nm_r b (nm_r (nI_1 j) (ih (j + 1) _ (by omega) a h))⟩⟩
    · rw [if_neg (or_Lf h5)] at h
      refine ⟨i, br_f h5 (nm_r (nI_1 j) (ih (j + 1) m (by omega) hm ?_))⟩
      cases d with
      | zero => exact h
      | succ d => rw [oc_it_s, if_neg (or_Lf h5)]; exact h
theorem i_vc_resolve {k : Nat} {u : SX} {v : SY} (I : i_Rel k u v) (hk : k + 4 ≤ 2048) (v1 : Int32) : wpX_resolve (fun r => wpY_resolve (fun r' => r' = r ∧ i_Rel (k + 4) u v) v v1) u v1 := by
  obtain ⟨sv, x, f⟩ := u
  obtain ⟨rv, K, S, V, Q, E⟩ := v
  have I : ob_R sv x f rv K S V Q E := I
  unfold wpX_resolve wpY_resolve
  dsimp only
  rcases oa_obj v1 with hb | ⟨m, hm, rfl⟩
  · exact od_bad hb (br_t rfl (oe_bad hb (br_f oa_10 ⟨rfl, I⟩)))
  · refine od_good hm (br_f oa_10 ⟨8 + 1, or_X I 8 0 m (by omega) hm (oe_good hm (br_t rfl ⟨9 + 1, or_Y I 9 0 m (by omega) hm ⟨?_, I⟩⟩))⟩)
    rw [or_vf]
    rcases oc_res (or_hf I) hm with e | ⟨a, b⟩
    · rw [e]
    · rw [or_fL a, or_fL b]
/-! links -/
theorem ol_btw {sv rv : Int32} {x f K S V Q E : Nat → Int32} {post : Int32 → Prop} {m : Nat} {t : Int32} (I : ob_R sv x f rv K S V Q E) (hm : m < 8) (h : post (ob_lk V Q (6 * (m + 1)) t (S (m + 1)).toNatClampNeg)) : wpX_linksBetween post (sv, x, f) (nI (m + 1)) t := by
  obtain ⟨c, n, ⟨h1, h2, h3, hs, h6, _⟩, hz, _⟩ := ob_at I hm
  have z2 := hz.2.1
  rw [hs, nI_clamp (by omega)] at h
  have l : ∀ d i, i + d = n → wX_linksBetween_12 post (nI (m + 1)) t (nI n) sv x f (d + 1) (ob_lk V Q (6 * (m + 1)) t i) (nI i) := by
    intro d
    induction d with
    | zero =>
      intro i hi
      have e : i = n := by omega
      subst e
      exact br_t (nI_le (by omega) (by omega)) h
    | succ d ih =>
      intro i hi
      obtain ⟨e1, e2, _, _⟩ := h6 i (by omega) (by omega)
      refine br_f (nI_ge (by omega) (by omega)) (od_vkE hm (by omega) e2 ?_)
      by_cases hq : Q (6 * (m + 1) + i) = 2
      · refine br_t hq (od_valE hm (by omega) e1 ?_)
        by_cases hv : V (6 * (m + 1) + i) = t
        · exact br_t hv (nm_r (ob_lk_t hq hv).symm (nm_r (nI_1 i) (ih (i + 1) (by omega))))
        · refine br_f hv (nm_r (nI_1 i) ?_)
          have := ih (i + 1) (by omega)
          rw [ob_lk_f (fun z => hv z.2)] at this
          exact this
      · refine br_f hq (nm_r (nI_1 i) ?_)
        have := ih (i + 1) (by omega)
        rw [ob_lk_f (fun z => hq z.1)] at this
        exact this
  unfold wpX_linksBetween
  dsimp only
  exact od_sizeE hm h2 ⟨n + 1, l n 0 (by omega)⟩
theorem ol_X {sv rv : Int32} {x f K S V Q E : Nat → Int32} {post : Int32 → Prop} {t : Int32} (I : ob_R sv x f rv K S V Q E) (h : post (ob_ls S V Q t 8)) : ∀ d j, j + d = 8 → wX_links_13 post t sv x f (d + 1) (ob_ls S V Q t j) (nI (j + 1)) := by
  intro d
  induction d with
  | zero =>
    intro j hj
    have e : j = 8 := by omega
    subst e
    exact br_t (nI_lt (a := 8) (by omega) (by omega)) h
  | succ d ih =>
    intro j hj
    exact br_f (oa_ngt8 (by omega)) (ol_btw I (by omega) (nm_e (nm_r (nI_1 (j + 1)) (ih (j + 1) (by omega)))))
theorem ol_Yi {sv rv : Int32} {x f K S V Q E : Nat → Int32} {post : Int32 → Prop} {J : Int32 → Int32 → Prop} {m : Nat} {t a : Int32} (I : ob_R sv x f rv K S V Q E) (hm : m < 8) (h : J (a + ob_lk V Q (6 * (m + 1)) t (S (m + 1)).toNatClampNeg) (nI (m + 1 + 1))) :
    ∃ n23 : Nat, wY_links_23 post J t (nI (m + 1)) rv K S V Q E n23 a 0 := by
  obtain ⟨c, n, ⟨h1, h2, h3, hs, h6, _⟩, hz, _⟩ := ob_at I hm
  have z2 := hz.2.1
  have i0 : vp_in (nI (m + 1)) 54 := vp_in_nI (by omega) (by omega)
  rw [hs, nI_clamp (by omega)] at h
  have l : ∀ d i, i + d = n → wY_links_23 post J t (nI (m + 1)) rv K S V Q E (d + 1) (a + ob_lk V Q (6 * (m + 1)) t i) (nI i) := by
    intro d
    induction d with
    | zero =>
      intro i hi
      have e : i = n := by omega
      subst e
      refine And.intro i0 ?_
      rw [nI_clamp (by omega), hs]
      exact br_t (nI_le (by omega) (by omega)) (nm_r (nI_1 (m + 1)) h)
    | succ d ih =>
      intro i hi
      have i1 : vp_in (nI (6 * (m + 1) + i)) 324 := vp_in_nI (by omega) (by omega)
      refine And.intro i0 ?_
      rw [nI_clamp (by omega), hs, oa_6, nI_add, nI_clamp (by omega)]
      refine br_f (nI_ge (by omega) (by omega)) ⟨i1, ?_⟩
      have ih := ih (i + 1) (by omega)
      by_cases hq : Q (6 * (m + 1) + i) = 2
      · refine br_t hq ⟨i1, ?_⟩
        by_cases hv : V (6 * (m + 1) + i) = t
        · rw [ob_lk_t hq hv, ← Int32.add_assoc] at ih
          exact br_t hv (nm_e (nm_r (nI_1 i) ih))
        · rw [ob_lk_f (fun z => hv z.2)] at ih
          exact br_f hv (nm_r (nI_1 i) ih)
      · rw [ob_lk_f (fun z => hq z.1)] at ih
        exact br_f hq (nm_r (nI_1 i) ih)
  have l0 := l n 0 (by omega)
  rw [show ob_lk V Q (6 * (m + 1)) t 0 = 0 from rfl, Int32.add_zero, nI_0] at l0
  exact ⟨n + 1, l0⟩
theorem ol_Y {sv rv : Int32} {x f K S V Q E : Nat → Int32} {post : Int32 → Prop} {t : Int32} (I : ob_R sv x f rv K S V Q E) (h : post (ob_ls S V Q t 8)) : ∀ d j, j + d = 8 → wY_links_14 post t rv K S V Q E (d + 1) (ob_ls S V Q t j) (nI (j + 1)) := by
  intro d
  induction d with
  | zero =>
    intro j hj
    have e : j = 8 := by omega
    subst e
    exact br_t (nI_le (a := 9) (by omega) (by omega)) h
  | succ d ih =>
    intro j hj
    exact br_f (nI_ge (b := 9) (by omega) (by omega)) (ol_Yi I (by omega) (ih (j + 1) (by omega)))
theorem i_vc_links {k : Nat} {u : SX} {v : SY} (I : i_Rel k u v) (hk : k + 4 ≤ 2048) (v1 : Int32) : wpX_links (fun r => wpY_links (fun r' => r' = r ∧ i_Rel (k + 4) u v) v v1) u v1 := by
  obtain ⟨sv, x, f⟩ := u
  obtain ⟨rv, K, S, V, Q, E⟩ := v
  have I : ob_R sv x f rv K S V Q E := I
  unfold wpX_links wpY_links
  dsimp only
  rcases oa_obj v1 with hb | ⟨m, hm, rfl⟩
  · exact od_bad hb (br_t rfl (oe_bad hb (br_f oa_10 ⟨rfl, I⟩)))
  · exact od_good hm (br_f oa_10 ⟨8 + 1, ol_X I (oe_good hm (br_t rfl ⟨8 + 1, ol_Y I ⟨rfl, I⟩ 8 0 (by omega)⟩)) 8 0 (by omega)⟩)
/-! digest -/
theorem og_Xi {sv rv : Int32} {x f K S V Q E : Nat → Int32} {post : Int32 → Prop} {J : Int32 → Int32 → Prop} {m : Nat} {a : Int32} (I : ob_R sv x f rv K S V Q E) (hm : m < 8) (h : J (ob_dv V m a (S (m + 1)).toNatClampNeg) (nI (m + 1 + 1))) :
    wpX_sizeOf (fun r_7 => (∃ n33 : Nat, wX_digest_33 post J (nI (m + 1)) r_7 sv x f n33 a 0)) (sv, x, f) (nI (m + 1)) := by
  obtain ⟨c, n, ⟨h1, h2, h3, hs, h6, _⟩, hz, _⟩ := ob_at I hm
  have z2 := hz.2.1
  rw [hs, nI_clamp (by omega)] at h
  have l : ∀ d i, i + d = n → wX_digest_33 post J (nI (m + 1)) (nI n) sv x f (d + 1) (ob_dv V m a i) (nI i) := by
    intro d
    induction d with
    | zero =>
      intro i hi
      have e : i = n := by omega
      subst e
      exact br_t (nI_le (by omega) (by omega)) (nm_r (nI_1 (m + 1)) h)
    | succ d ih =>
      intro i hi
      obtain ⟨e1, e2, _, _⟩ := h6 i (by omega) (by omega)
      exact br_f (nI_ge (by omega) (by omega)) (od_valE hm (by omega) e1 (nm_e (nm_r (nI_1 i) (ih (i + 1) (by omega)))))
  exact od_sizeE hm h2 ⟨n + 1, l n 0 (by omega)⟩
theorem og_X {sv rv : Int32} {x f K S V Q E : Nat → Int32} {post : Int32 → Prop} (I : ob_R sv x f rv K S V Q E) (h : post (ob_ds K S V 8)) : ∀ d j, j + d = 8 → wX_digest_4 post sv x f (d + 1) (ob_ds K S V j) (nI (j + 1)) := by
  intro d
  induction d with
  | zero =>
    intro j hj
    have e : j = 8 := by omega
    subst e
    exact br_t (nI_lt (a := 8) (by omega) (by omega)) h
  | succ d ih =>
    intro j hj
    exact br_f (oa_ngt8 (by omega)) (od_kindE (by omega) (og_kind I (by omega)).symm (nm_e (og_Xi I (by omega) (ih (j + 1) (by omega)))))
theorem og_Yi {sv rv : Int32} {x f K S V Q E : Nat → Int32} {post : Int32 → Prop} {J : Int32 → Int32 → Prop} {m : Nat} {a : Int32} (I : ob_R sv x f rv K S V Q E) (hm : m < 8) (h : J (ob_dv V m a (S (m + 1)).toNatClampNeg) (nI (m + 1 + 1))) :
    ∃ n27 : Nat, wY_digest_27 post J (nI (m + 1)) rv K S V Q E n27 a 0 := by
  obtain ⟨c, n, ⟨h1, h2, h3, hs, h6, _⟩, hz, _⟩ := ob_at I hm
  have z2 := hz.2.1
  have i0 : vp_in (nI (m + 1)) 54 := vp_in_nI (by omega) (by omega)
  rw [hs, nI_clamp (by omega)] at h
  have l : ∀ d i, i + d = n → wY_digest_27 post J (nI (m + 1)) rv K S V Q E (d + 1) (ob_dv V m a i) (nI i) := by
    intro d
    induction d with
    | zero =>
      intro i hi
      have e : i = n := by omega
      subst e
      refine And.intro i0 ?_
      rw [nI_clamp (by omega), hs]
      exact br_t (nI_le (by omega) (by omega)) (nm_r (nI_1 (m + 1)) h)
    | succ d ih =>
      intro i hi
      have i1 : vp_in (nI (6 * (m + 1) + i)) 324 := vp_in_nI (by omega) (by omega)
      refine And.intro i0 ?_
      rw [nI_clamp (by omega), hs, oa_6, nI_add, nI_clamp (by omega)]
      exact br_f (nI_ge (by omega) (by omega)) ⟨i1, nm_e (nm_r (nI_1 i) (ih (i + 1) (by omega)))⟩
  exact ⟨n + 1, l n 0 (by omega)⟩
theorem og_Y {sv rv : Int32} {x f K S V Q E : Nat → Int32} {post : Int32 → Prop} (I : ob_R sv x f rv K S V Q E) (h : post (ob_ds K S V 8)) : ∀ d j, j + d = 8 → wY_digest_4 post rv K S V Q E (d + 1) (ob_ds K S V j) (nI (j + 1)) := by
  intro d
  induction d with
  | zero =>
    intro j hj
    have e : j = 8 := by omega
    subst e
    exact br_t (nI_le (a := 9) (by omega) (by omega)) h
  | succ d ih =>
    intro j hj
    refine br_f (nI_ge (b := 9) (by omega) (by omega)) ?_
    rw [nI_clamp (by omega)]
    exact ⟨vp_in_nI (by omega) (by omega), nm_e (og_Yi I (by omega) (ih (j + 1) (by omega)))⟩
theorem i_vc_digest {k : Nat} {u : SX} {v : SY} (I : i_Rel k u v) (hk : k + 4 ≤ 2048) : wpX_digest (fun r => wpY_digest (fun r' => r' = r ∧ i_Rel (k + 4) u v) v) u := by
  obtain ⟨sv, x, f⟩ := u
  obtain ⟨rv, K, S, V, Q, E⟩ := v
  have I : ob_R sv x f rv K S V Q E := I
  unfold wpX_digest wpY_digest
  dsimp only
  exact ⟨8 + 1, og_X I ⟨8 + 1, og_Y I ⟨rfl, I⟩ 8 0 (by omega)⟩ 8 0 (by omega)⟩

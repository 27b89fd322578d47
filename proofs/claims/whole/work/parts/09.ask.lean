theorem i_vc_kind {k : Nat} {u : SX} {v : SY} (I : i_Rel k u v) (hk : k + 4 ≤ 2048) (v1 : Int32) : wpX_kind (fun r => wpY_kind (fun r' => r' = r ∧ i_Rel (k + 4) u v) v v1) u v1 := by
  obtain ⟨sv, x, f⟩ := u
  obtain ⟨rv, K, S, V, Q, E⟩ := v
  have I : ob_R sv x f rv K S V Q E := I
  unfold wpX_kind wpY_kind
  dsimp only
  rcases oa_obj v1 with hb | ⟨m, hm, rfl⟩
  · exact od_bad hb (br_t rfl (oe_bad hb (br_f oa_10 ⟨rfl, I⟩)))
  · refine od_good hm (br_f oa_10 (od_kind hm (oe_good hm (br_t rfl ⟨vp_in_nI (by omega) (by omega), ?_⟩))))
    rw [nI_clamp (by omega)]
    exact ⟨og_kind I hm, I⟩
theorem i_vc_size {k : Nat} {u : SX} {v : SY} (I : i_Rel k u v) (hk : k + 4 ≤ 2048) (v1 : Int32) : wpX_size (fun r => wpY_size (fun r' => r' = r ∧ i_Rel (k + 4) u v) v v1) u v1 := by
  obtain ⟨sv, x, f⟩ := u
  obtain ⟨rv, K, S, V, Q, E⟩ := v
  have I : ob_R sv x f rv K S V Q E := I
  unfold wpX_size wpY_size
  dsimp only
  rcases oa_obj v1 with hb | ⟨m, hm, rfl⟩
  · exact od_bad hb (br_t rfl (oe_bad hb (br_f oa_10 ⟨rfl, I⟩)))
  · refine od_good hm (br_f oa_10 (od_size hm (oe_good hm (br_t rfl ⟨vp_in_nI (by omega) (by omega), ?_⟩))))
    rw [nI_clamp (by omega)]
    exact ⟨og_size I hm, I⟩
theorem i_vc_value {k : Nat} {u : SX} {v : SY} (I : i_Rel k u v) (hk : k + 4 ≤ 2048) (v1 : Int32) (v2 : Int32) : wpX_value (fun r => wpY_value (fun r' => r' = r ∧ i_Rel (k + 4) u v) v v1 v2) u v1 v2 := by
  obtain ⟨sv, x, f⟩ := u
  obtain ⟨rv, K, S, V, Q, E⟩ := v
  have I : ob_R sv x f rv K S V Q E := I
  unfold wpX_value wpY_value
  dsimp only
  rcases oa_obj v1 with hb | ⟨m, hm, rfl⟩
  · exact od_bad hb (br_t rfl (oe_bad hb (br_f oa_10 ⟨rfl, I⟩)))
  obtain ⟨c, n, ⟨h1, h2, h3, hs, h6, _⟩, hz, _⟩ := ob_at I hm
  have z2 := hz.2.1
  rcases pk_ix v2 (n := n) (by omega) with z | z | ⟨j, hj, rfl⟩
  · exact od_good hm (br_f oa_10 (od_hv0 hm h2 (Or.inl z) (br_t rfl (oe_good hm (br_t rfl (oe_hv0 hm hs (Or.inl z) (br_t rfl ⟨rfl, I⟩)))))))
  · exact od_good hm (br_f oa_10 (od_hv0 hm h2 (Or.inr z) (br_t rfl (oe_good hm (br_t rfl (oe_hv0 hm hs (Or.inr z) (br_t rfl ⟨rfl, I⟩)))))))
  · refine od_good hm (br_f oa_10 (od_hv1 hm h2 z2 hj (br_f oa_10 (od_val hm (by omega) (oe_good hm (br_t rfl (oe_hv1 hm hs z2 hj (br_f oa_10 ?_))))))))
    rw [oa_6, nI_add, nI_clamp (by omega)]
    exact ⟨vp_in_nI (by omega) (by omega), (h6 j hj (by omega)).1.symm, I⟩
theorem i_vc_valueKind {k : Nat} {u : SX} {v : SY} (I : i_Rel k u v) (hk : k + 4 ≤ 2048) (v1 : Int32) (v2 : Int32) : wpX_valueKind (fun r => wpY_valueKind (fun r' => r' = r ∧ i_Rel (k + 4) u v) v v1 v2) u v1 v2 := by
  obtain ⟨sv, x, f⟩ := u
  obtain ⟨rv, K, S, V, Q, E⟩ := v
  have I : ob_R sv x f rv K S V Q E := I
  unfold wpX_valueKind wpY_valueKind
  dsimp only
  rcases oa_obj v1 with hb | ⟨m, hm, rfl⟩
  · exact od_bad hb (br_t rfl (oe_bad hb (br_f oa_10 ⟨rfl, I⟩)))
  obtain ⟨c, n, ⟨h1, h2, h3, hs, h6, _⟩, hz, _⟩ := ob_at I hm
  have z2 := hz.2.1
  rcases pk_ix v2 (n := n) (by omega) with z | z | ⟨j, hj, rfl⟩
  · exact od_good hm (br_f oa_10 (od_hv0 hm h2 (Or.inl z) (br_t rfl (oe_good hm (br_t rfl (oe_hv0 hm hs (Or.inl z) (br_t rfl ⟨rfl, I⟩)))))))
  · exact od_good hm (br_f oa_10 (od_hv0 hm h2 (Or.inr z) (br_t rfl (oe_good hm (br_t rfl (oe_hv0 hm hs (Or.inr z) (br_t rfl ⟨rfl, I⟩)))))))
  · refine od_good hm (br_f oa_10 (od_hv1 hm h2 z2 hj (br_f oa_10 (od_vk hm (by omega) (oe_good hm (br_t rfl (oe_hv1 hm hs z2 hj (br_f oa_10 ?_))))))))
    rw [oa_6, nI_add, nI_clamp (by omega)]
    exact ⟨vp_in_nI (by omega) (by omega), (h6 j hj (by omega)).2.1.symm, I⟩
theorem i_vc_key {k : Nat} {u : SX} {v : SY} (I : i_Rel k u v) (hk : k + 4 ≤ 2048) (v1 : Int32) (v2 : Int32) : wpX_key (fun r => wpY_key (fun r' => r' = r ∧ i_Rel (k + 4) u v) v v1 v2) u v1 v2 := by
  obtain ⟨sv, x, f⟩ := u
  obtain ⟨rv, K, S, V, Q, E⟩ := v
  have I : ob_R sv x f rv K S V Q E := I
  unfold wpX_key wpY_key
  dsimp only
  rcases oa_obj v1 with hb | ⟨m, hm, rfl⟩
  · exact od_bad hb (br_t rfl (oe_bad hb (br_f oa_10 ⟨rfl, I⟩)))
  obtain ⟨c, n, ⟨h1, h2, h3, hs, h6, _⟩, hz, _⟩ := ob_at I hm
  have z1 := hz.1
  have z2 := hz.2.1
  have i : vp_in (nI (m + 1)) 54 := vp_in_nI (by omega) (by omega)
  refine od_good hm (br_f oa_10 (od_kindE hm h1 ?_))
  rw [nI_clamp (show m + 1 < 2 ^ 31 by omega), h3]
  by_cases c4 : nI c = 4
  · have cc : c = 4 := (nI_eq (b := 4) (by omega) (by omega)).mp c4
    rcases pk_ix v2 (n := n) (by omega) with z | z | ⟨j, hj, rfl⟩
    · exact br_t c4 (od_hv0 hm h2 (Or.inl z) (br_t rfl (oe_good hm (br_t rfl ⟨i, br_t c4 (oe_hv0 hm hs (Or.inl z) (br_t rfl ⟨rfl, I⟩))⟩))))
    · exact br_t c4 (od_hv0 hm h2 (Or.inr z) (br_t rfl (oe_good hm (br_t rfl ⟨i, br_t c4 (oe_hv0 hm hs (Or.inr z) (br_t rfl ⟨rfl, I⟩))⟩))))
    · refine br_t c4 (od_hv1 hm h2 z2 hj (br_f oa_10 (od_key hm (by omega) (oe_good hm (br_t rfl ⟨i, br_t c4 (oe_hv1 hm hs z2 hj (br_f oa_10 ?_))⟩)))))
      rw [oa_6, nI_add, nI_clamp (by omega)]
      exact ⟨vp_in_nI (by omega) (by omega), ((h6 j hj (by omega)).2.2.1 cc).symm, I⟩
  · exact br_f c4 (oe_good hm (br_t rfl ⟨i, br_f c4 ⟨rfl, I⟩⟩))
theorem i_vc_revisions {k : Nat} {u : SX} {v : SY} (I : i_Rel k u v) (hk : k + 4 ≤ 2048) : wpX_revisions (fun r => wpY_revisions (fun r' => r' = r ∧ i_Rel (k + 4) u v) v) u := by
  obtain ⟨sv, x, f⟩ := u
  obtain ⟨rv, K, S, V, Q, E⟩ := v
  obtain ⟨r, _, e1, e2, _⟩ := id I
  exact ⟨e2.trans e1.symm, I⟩

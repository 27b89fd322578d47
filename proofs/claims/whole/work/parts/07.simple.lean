def i_Rel (k : Nat) (u : SX) (v : SY) : Prop := ob_R u.1 u.2.1 u.2.2 v.1 v.2.1 v.2.2.1 v.2.2.2.1 v.2.2.2.2.1 v.2.2.2.2.2
theorem i_up {k : Nat} {u : SX} {v : SY} (h : i_Rel k u v) : i_Rel (k + 4) u v := h
theorem i_vc0 : wpX_init (fun u => wpY_init (fun v => i_Rel 0 u v)) := ob_init
theorem og_kind {sv rv : Int32} {x f K S V Q E : Nat → Int32} {m : Nat} (I : ob_R sv x f rv K S V Q E) (hm : m < 8) : K (m + 1) = x (m * 20) := by
  obtain ⟨c, n, ⟨h1, h2, h3, _⟩, _⟩ := ob_at I hm
  rw [h1, h3]
theorem og_size {sv rv : Int32} {x f K S V Q E : Nat → Int32} {m : Nat} (I : ob_R sv x f rv K S V Q E) (hm : m < 8) : S (m + 1) = x (m * 20 + 1) := by
  obtain ⟨c, n, ⟨h1, h2, h3, h4, _⟩, _⟩ := ob_at I hm
  rw [h2, h4]
theorem og_sz1 : ob_Sz 1 1 := ⟨by omega, by omega, by omega, by omega, by omega, by omega, by omega⟩
theorem og_sz5 : ob_Sz 5 1 := ⟨by omega, by omega, by omega, by omega, by omega, by omega, by omega⟩
theorem og_one {sv rv : Int32} {x f K S V Q E : Nat → Int32} {m c : Nat} {q v : Int32} (I : ob_R sv x f rv K S V Q E) (hm : m < 8) (hc : c = 1 ∨ c = 5) (h5 : c = 5 → q = 2) (hl : ob_Lk q v) :
    ob_R sv (upd (ob_se (ob_rn x (m * 20) (nI c)) (m * 20) 0 0 q v) (m * 20 + 1) (nI (0 + 1))) f rv (upd K (m + 1) (nI c)) (upd S (m + 1) 1) (upd V (6 * (m + 1) + 0) v) (upd Q (6 * (m + 1) + 0) q) E := by
  refine ob_step I hm ⟨c, 1, ob_add (K := upd K (m + 1) (nI c)) (S := upd S (m + 1) 0) (V := V) (Q := Q) (E := E) (n := 0) (ob_renew pk_us pk_us) (by omega) (by omega) pk_us pk_us (fun i hi => absurd hi (by omega)) pk_us pk_us hl, ?_, ?_⟩ ?_ ?_ ?_
  · rcases hc with e | e
    · rw [e]; exact og_sz1
    · rw [e]; exact og_sz5
  · intro e; rw [← h5 e]; exact pk_us
  · intro j hj
    rw [pk_un (by omega), ob_seo (by omega) hj, ob_rno hj]
  · intro s hs; exact ⟨pk_un hs, pk_un hs⟩
  · intro j hj; exact ⟨pk_un (by omega), pk_un (by omega), rfl⟩
theorem og_rn1 {x : Nat → Int32} {b : Nat} {c : Int32} : ob_rn x b c (b + 1) = nI 0 := (ob_rni (by omega) (by omega)).trans nI_0.symm
theorem i_vc_setNumber {k : Nat} {u : SX} {v : SY} (I : i_Rel k u v) (hk : k + 4 ≤ 2048) (v1 : Int32) (v2 : Int32) : wpX_setNumber (fun r u' => wpY_setNumber (fun r' v' => r' = r ∧ i_Rel (k + 4) u' v') v v1 v2) u v1 v2 := by
  obtain ⟨sv, x, f⟩ := u
  obtain ⟨rv, K, S, V, Q, E⟩ := v
  have I : ob_R sv x f rv K S V Q E := I
  unfold wpX_setNumber wpY_setNumber
  dsimp only
  rcases oa_obj v1 with hb | ⟨m, hm, rfl⟩
  · exact od_bad hb (br_t rfl (oe_bad hb (br_f oa_10 ⟨rfl, I⟩)))
  · refine od_good hm (br_f oa_10 (od_kind hm (od_renew hm (od_add (n := 0) hm (by omega) og_rn1 ?_))))
    refine oe_good hm (br_t rfl (oe_set (i := 0) hm (by omega) (oe_become1 hm (Or.inl rfl) ?_)))
    exact ⟨og_kind I hm, og_one (c := 1) I hm (Or.inl rfl) (fun z => absurd z (by omega)) (fun z => absurd z (by decide))⟩
theorem i_vc_setLink {k : Nat} {u : SX} {v : SY} (I : i_Rel k u v) (hk : k + 4 ≤ 2048) (v1 : Int32) (v2 : Int32) : wpX_setLink (fun r u' => wpY_setLink (fun r' v' => r' = r ∧ i_Rel (k + 4) u' v') v v1 v2) u v1 v2 := by
  obtain ⟨sv, x, f⟩ := u
  obtain ⟨rv, K, S, V, Q, E⟩ := v
  have I : ob_R sv x f rv K S V Q E := I
  unfold wpX_setLink wpY_setLink
  dsimp only
  rcases oa_obj v1 with hb | ⟨m, hm, rfl⟩
  · exact od_bad hb (br_t rfl (oe_bad hb (br_f oa_10 ⟨rfl, I⟩)))
  · rcases oa_obj v2 with hb | ⟨t, ht, rfl⟩
    · exact od_good hm (br_f oa_10 (od_bad hb (br_t rfl (oe_good hm (br_t rfl (oe_bad hb (br_f oa_10 ⟨rfl, I⟩)))))))
    · refine od_good hm (br_f oa_10 (od_good ht (br_f oa_10 (od_kind hm (od_renew hm (od_add (n := 0) hm (by omega) og_rn1 ?_))))))
      refine oe_good hm (br_t rfl (oe_good ht (br_t rfl (oe_set (i := 0) hm (by omega) (oe_become1 hm (Or.inr rfl) ?_)))))
      exact ⟨og_kind I hm, og_one (c := 5) I hm (Or.inr rfl) (fun _ => rfl) (fun _ => ⟨t, ht, rfl⟩)⟩

section OF1
variable {sv : Int32} {x f : Nat → Int32} {m : Nat}
theorem od_sizeE {post : Int32 → Prop} {r : Int32} (hm : m < 8) (e : x (m * 20 + 1) = r) (h : post r) : wpX_sizeOf post (sv, x, f) (nI (m + 1)) := od_size hm (by rw [e]; exact h)
theorem od_kindE {post : Int32 → Prop} {r : Int32} (hm : m < 8) (e : x (m * 20) = r) (h : post r) : wpX_kindOf post (sv, x, f) (nI (m + 1)) := od_kind hm (by rw [e]; exact h)
theorem od_valE {post : Int32 → Prop} {i : Nat} {r : Int32} (hm : m < 8) (hi : i < 6) (e : x (m * 20 + 2 + i) = r) (h : post r) : wpX_valueAt post (sv, x, f) (nI (m + 1)) (nI i) := od_val hm hi (by rw [e]; exact h)
theorem od_vkE {post : Int32 → Prop} {i : Nat} {r : Int32} (hm : m < 8) (hi : i < 6) (e : x (m * 20 + 8 + i) = r) (h : post r) : wpX_valueKindAt post (sv, x, f) (nI (m + 1)) (nI i) := od_vk hm hi (by rw [e]; exact h)
theorem od_keyE {post : Int32 → Prop} {i : Nat} {r : Int32} (hm : m < 8) (hi : i < 6) (e : x (m * 20 + 14 + i) = r) (h : post r) : wpX_keyAt post (sv, x, f) (nI (m + 1)) (nI i) := od_key hm hi (by rw [e]; exact h)
theorem od_hv1 {post : Int32 → Prop} {n j : Nat} (hm : m < 8) (hs : x (m * 20 + 1) = nI n) (hn : n ≤ 6) (hj : j < n) (h : post 1) : wpX_hasValue post (sv, x, f) (nI (m + 1)) (nI j) :=
  br_f (nI_pos (by omega)) (od_sizeE hm hs (br_f (nI_ge hj (by omega)) h))
theorem od_hv0 {post : Int32 → Prop} {n : Nat} {o : Int32} (hm : m < 8) (hs : x (m * 20 + 1) = nI n) (ho : o < 0 ∨ nI n ≤ o) (h : post 0) : wpX_hasValue post (sv, x, f) (nI (m + 1)) o := by
  by_cases h0 : o < 0
  · exact br_t h0 h
  · rcases ho with z | z
    · exact absurd z h0
    · exact br_f h0 (od_sizeE hm hs (br_t z h))
end OF1
section OF2
variable {rv : Int32} {K S V Q E : Nat → Int32} {m : Nat}
theorem oe_hv1 {post : Int32 → Prop} {n j : Nat} (hm : m < 8) (hs : S (m + 1) = nI n) (hn : n ≤ 6) (hj : j < n) (h : post 1) : wpY_isValue post (rv, K, S, V, Q, E) (nI (m + 1)) (nI j) := by
  refine br_f (nI_pos (by omega)) ?_
  rw [nI_clamp (by omega), hs]
  exact ⟨vp_in_nI (by omega) (by omega), br_f (nI_ge hj (by omega)) h⟩
theorem oe_hv0 {post : Int32 → Prop} {n : Nat} {o : Int32} (hm : m < 8) (hs : S (m + 1) = nI n) (ho : o < 0 ∨ nI n ≤ o) (h : post 0) : wpY_isValue post (rv, K, S, V, Q, E) (nI (m + 1)) o := by
  by_cases h0 : o < 0
  · exact br_t h0 h
  · rcases ho with z | z
    · exact absurd z h0
    · refine br_f h0 ?_
      rw [nI_clamp (by omega), hs]
      exact ⟨vp_in_nI (by omega) (by omega), br_t z h⟩
theorem oh_item (p0 p1 : Int32) : ((∀ post : Int32 → Prop, post 1 → wpX_isItem post p0 p1) ∧ (∀ (post : Int32 → Prop) (v : SY), post 0 → wpY_badItem post v p0 p1) ∧ ob_Lk p0 p1) ∨
    ((∀ post : Int32 → Prop, post 0 → wpX_isItem post p0 p1) ∧ (∀ (post : Int32 → Prop) (v : SY), post 1 → wpY_badItem post v p0 p1)) := by
  by_cases h0 : p0 < 0
  · exact Or.inr ⟨fun _ hp => br_t h0 hp, fun _ _ hp => br_t h0 hp⟩
  by_cases h2 : 2 < p0
  · exact Or.inr ⟨fun _ hp => br_f h0 (br_t h2 hp), fun _ _ hp => br_f h0 (br_f (Int32.not_le.mpr h2) hp)⟩
  have g2 : p0 ≤ 2 := Int32.not_lt.mp h2
  by_cases e0 : p0 = 0
  · exact Or.inl ⟨fun _ hp => br_f h0 (br_f h2 (br_t e0 hp)), fun _ _ hp => br_f h0 (br_t g2 (br_t e0 hp)), fun z => by rw [e0] at z; exact absurd z (by decide)⟩
  by_cases e1 : p0 = 1
  · by_cases a : p1 < 0
    · exact Or.inr ⟨fun _ hp => br_f h0 (br_f h2 (br_f e0 (br_t e1 (br_t a hp)))), fun _ _ hp => br_f h0 (br_t g2 (br_f e0 (br_t e1 (br_t a hp))))⟩
    by_cases b : 63 < p1
    · exact Or.inr ⟨fun _ hp => br_f h0 (br_f h2 (br_f e0 (br_t e1 (br_f a (br_t b hp))))), fun _ _ hp => br_f h0 (br_t g2 (br_f e0 (br_t e1 (br_f a (br_f (Int32.not_le.mpr b) hp)))))⟩
    · exact Or.inl ⟨fun _ hp => br_f h0 (br_f h2 (br_f e0 (br_t e1 (br_f a (br_f b hp))))), fun _ _ hp => br_f h0 (br_t g2 (br_f e0 (br_t e1 (br_f a (br_t (Int32.not_lt.mp b) hp))))), fun z => by rw [e1] at z; exact absurd z (by decide)⟩
  have e2 : p0 = 2 := by
    obtain ⟨j, hj, rfl⟩ := nI_of2 (M := 2) (n := 2) (by decide) h0 g2
    have j0 : j ≠ 0 := fun z => e0 (by rw [z]; exact nI_0)
    have j1 : j ≠ 1 := fun z => e1 (by rw [z]; rfl)
    have : j = 2 := by omega
    rw [this]; rfl
  rcases oa_obj p1 with hb | ⟨t, ht, rfl⟩
  · exact Or.inr ⟨fun _ hp => br_f h0 (br_f h2 (br_f e0 (br_f e1 (br_t e2 (od_bad hb ⟨oa_nb0, hp⟩))))), fun _ ⟨_, _, _, _, _, _⟩ hp => br_f h0 (br_t g2 (br_f e0 (br_f e1 (oe_bad hb ⟨oa_nb1, hp⟩))))⟩
  · exact Or.inl ⟨fun _ hp => br_f h0 (br_f h2 (br_f e0 (br_f e1 (br_t e2 (od_good ht ⟨oa_nb1, hp⟩))))), fun _ ⟨_, _, _, _, _, _⟩ hp => br_f h0 (br_t g2 (br_f e0 (br_f e1 (oe_good ht ⟨oa_nb0, hp⟩)))), fun _ => ⟨t, ht, rfl⟩⟩
end OF2
theorem og_new {sv rv : Int32} {x f K S V Q E : Nat → Int32} {m c : Nat} (I : ob_R sv x f rv K S V Q E) (hm : m < 8) (hc : ob_Sz c 0) (h5 : c ≠ 5) : ob_R sv (ob_rn x (m * 20) (nI c)) f rv (upd K (m + 1) (nI c)) (upd S (m + 1) 0) V Q E :=
  ob_step I hm ⟨c, 0, ob_renew pk_us pk_us, hc, fun z => absurd z h5⟩ (fun j hj => ob_rno hj) (fun s hs => ⟨pk_un hs, pk_un hs⟩) (fun _ _ => ⟨rfl, rfl, rfl⟩)
theorem i_vc_begin {k : Nat} {u : SX} {v : SY} (I : i_Rel k u v) (hk : k + 4 ≤ 2048) (v1 : Int32) (v2 : Int32) : wpX_begin (fun r u' => wpY_begin (fun r' v' => r' = r ∧ i_Rel (k + 4) u' v') v v1 v2) u v1 v2 := by
  obtain ⟨sv, x, f⟩ := u
  obtain ⟨rv, K, S, V, Q, E⟩ := v
  have I : ob_R sv x f rv K S V Q E := I
  unfold wpX_begin wpY_begin
  dsimp only
  rcases oa_obj v1 with hb | ⟨m, hm, rfl⟩
  · exact od_bad hb (br_t rfl (oe_bad hb (br_f oa_10 ⟨rfl, I⟩)))
  · by_cases h2 : v2 < 2
    · exact od_good hm (br_f oa_10 (br_t h2 (oe_good hm (br_t rfl (br_t h2 ⟨rfl, I⟩)))))
    by_cases h4 : v2 ≤ 4
    · have h0 : ¬ v2 < 0 := fun z => h2 (Int32.lt_trans z (by decide))
      obtain ⟨c, hc, rfl⟩ := nI_of2 (M := 4) (n := 4) (by decide) h0 h4
      have c2 : 2 ≤ c := by
        have := Int32.not_lt.mp h2
        exact (nI_leI (a := 2) (by omega) (by omega)).mp this
      refine od_good hm (br_f oa_10 (br_f h2 (br_t h4 (od_kind hm (od_renew hm ?_)))))
      refine oe_good hm (br_t rfl (br_f h2 (br_t h4 (oe_become0 hm ?_ ?_ ?_))))
      · exact fun z => absurd ((nI_eq (b := 1) (by omega) (by omega)).mp z) (by omega)
      · exact fun z => absurd ((nI_eq (b := 5) (by omega) (by omega)).mp z) (by omega)
      · exact ⟨og_kind I hm, og_new I hm ⟨by omega, by omega, by omega, by omega, by omega, by omega, by omega⟩ (by omega)⟩
    · exact od_good hm (br_f oa_10 (br_f h2 (br_f h4 (oe_good hm (br_t rfl (br_f h2 (br_f h4 ⟨rfl, I⟩)))))))
theorem i_vc_remove {k : Nat} {u : SX} {v : SY} (I : i_Rel k u v) (hk : k + 4 ≤ 2048) (v1 : Int32) : wpX_remove (fun r u' => wpY_remove (fun r' v' => r' = r ∧ i_Rel (k + 4) u' v') v v1) u v1 := by
  obtain ⟨sv, x, f⟩ := u
  obtain ⟨rv, K, S, V, Q, E⟩ := v
  have I : ob_R sv x f rv K S V Q E := I
  unfold wpX_remove wpY_remove
  dsimp only
  rcases oa_obj v1 with hb | ⟨m, hm, rfl⟩
  · exact od_bad hb (br_t rfl (oe_bad hb (br_f oa_10 ⟨rfl, I⟩)))
  · exact od_good hm (br_f oa_10 (od_kind hm (od_renew hm (oe_good hm (br_t rfl (oe_become0 hm oa_01 oa_05 ⟨og_kind I hm, ob_away I hm⟩))))))
theorem og_add {sv rv : Int32} {x f K S V Q E : Nat → Int32} {m c n : Nat} {q v : Int32} (I : ob_R sv x f rv K S V Q E) (hm : m < 8) (h : ob_Rec x (m * 20) K S V Q E (m + 1) c n) (hn : n < 6) (hc : c = 2 ∨ c = 3) (hz : ob_Sz c (n + 1)) (hl : ob_Lk q v) :
    ob_R sv (upd (ob_se x (m * 20) n 0 q v) (m * 20 + 1) (nI (n + 1))) f rv K (upd S (m + 1) (nI (n + 1))) (upd V (6 * (m + 1) + n) v) (upd Q (6 * (m + 1) + n) q) E := by
  refine ob_step I hm ⟨c, n + 1, ob_add h.1 hn (by omega) h.1.2.2.1 pk_us (fun i hi => ⟨pk_un (by omega), pk_un (by omega)⟩) pk_us pk_us hl, hz, fun z => absurd z (by omega)⟩ ?_ ?_ ?_
  · intro j hj
    rw [pk_un (by omega), ob_seo hn hj]
  · intro s hs; exact ⟨rfl, pk_un hs⟩
  · intro j hj; exact ⟨pk_un (by omega), pk_un (by omega), rfl⟩
theorem i_vc_append {k : Nat} {u : SX} {v : SY} (I : i_Rel k u v) (hk : k + 4 ≤ 2048) (v1 : Int32) (v2 : Int32) : wpX_append (fun r u' => wpY_append (fun r' v' => r' = r ∧ i_Rel (k + 4) u' v') v v1 v2) u v1 v2 := by
  obtain ⟨sv, x, f⟩ := u
  obtain ⟨rv, K, S, V, Q, E⟩ := v
  have I : ob_R sv x f rv K S V Q E := I
  unfold wpX_append wpY_append
  dsimp only
  rcases oa_obj v1 with hb | ⟨m, hm, rfl⟩
  · exact od_bad hb (br_t rfl (oe_bad hb (br_f oa_10 ⟨rfl, I⟩)))
  by_cases h0 : v2 < 0
  · exact od_good hm (br_f oa_10 (br_t h0 (oe_good hm (br_t rfl (br_t h0 ⟨rfl, I⟩)))))
  by_cases h4 : v2 ≤ 255
  · obtain ⟨c, n, hr⟩ := ob_at I hm
    obtain ⟨⟨h1, h2, h3, hs, _⟩, hz, _⟩ := id hr
    have i : vp_in (nI (m + 1)) 54 := vp_in_nI (by omega) (by omega)
    have z1 := hz.1
    have z2 := hz.2.1
    refine od_good hm (br_f oa_10 (br_f h0 (br_t h4 (od_kindE hm h1 ?_))))
    rw [nI_clamp (show m + 1 < 2 ^ 31 by omega), h3, hs]
    by_cases c2 : nI c = 2
    · refine br_t c2 (od_sizeE hm h2 ?_)
      have cc : c = 2 := (nI_eq (b := 2) (by omega) (by omega)).mp c2
      by_cases n6 : n < 6
      · refine br_t (nI_lt (b := 6) n6 (by omega)) (od_add hm n6 h2 (od_sizeE hm pk_us ?_))
        refine oe_good hm (br_t rfl (br_f h0 (br_t h4 ⟨i, br_t c2 ⟨i, br_f ?_ (oe_add hm n6 hs ?_)⟩⟩)))
        · exact fun z => absurd ((nI_eq (b := 6) (by omega) (by omega)).mp z) (by omega)
        · exact ⟨rfl, og_add I hm hr n6 (Or.inl cc) (by rw [cc]; exact ⟨by omega, by omega, by omega, by omega, by omega, by omega, by omega⟩) (fun z => absurd z (by decide))⟩
      · have e6 : n = 6 := by omega
        subst e6
        exact br_f (nI_nlt (b := 6) (by omega) (by omega)) (oe_good hm (br_t rfl (br_f h0 (br_t h4 ⟨i, br_t c2 ⟨i, br_t rfl ⟨rfl, I⟩⟩⟩))))
    · exact br_f c2 (oe_good hm (br_t rfl (br_f h0 (br_t h4 ⟨i, br_f c2 ⟨rfl, I⟩⟩))))
  · exact od_good hm (br_f oa_10 (br_f h0 (br_f h4 (oe_good hm (br_t rfl (br_f h0 (br_f h4 ⟨rfl, I⟩)))))))
theorem i_vc_push {k : Nat} {u : SX} {v : SY} (I : i_Rel k u v) (hk : k + 4 ≤ 2048) (v1 : Int32) (v2 : Int32) (v3 : Int32) : wpX_push (fun r u' => wpY_push (fun r' v' => r' = r ∧ i_Rel (k + 4) u' v') v v1 v2 v3) u v1 v2 v3 := by
  obtain ⟨sv, x, f⟩ := u
  obtain ⟨rv, K, S, V, Q, E⟩ := v
  have I : ob_R sv x f rv K S V Q E := I
  unfold wpX_push wpY_push
  dsimp only
  rcases oa_obj v1 with hb | ⟨m, hm, rfl⟩
  · exact od_bad hb (br_t rfl (oe_bad hb (br_f oa_10 ⟨rfl, I⟩)))
  rcases oh_item v2 v3 with ⟨ix, iy, hl⟩ | ⟨ix, iy⟩
  · obtain ⟨c, n, hr⟩ := ob_at I hm
    obtain ⟨⟨h1, h2, h3, hs, _⟩, hz, _⟩ := id hr
    have i : vp_in (nI (m + 1)) 54 := vp_in_nI (by omega) (by omega)
    have z1 := hz.1
    have z2 := hz.2.1
    refine od_good hm (br_f oa_10 (ix _ (br_f oa_10 (od_kindE hm h1 ?_))))
    rw [nI_clamp (show m + 1 < 2 ^ 31 by omega), h3, hs]
    by_cases c3 : nI c = 3
    · refine br_t c3 (od_sizeE hm h2 ?_)
      have cc : c = 3 := (nI_eq (b := 3) (by omega) (by omega)).mp c3
      have z4 := hz.2.2.2.2.2.1 cc
      by_cases n4 : n < 4
      · refine br_t (nI_lt (b := 4) n4 (by omega)) (od_add hm (by omega) h2 (od_sizeE hm pk_us ?_))
        refine oe_good hm (br_t rfl (iy _ _ (br_t rfl ⟨i, br_t c3 ⟨i, br_f ?_ (oe_add hm (by omega) hs ?_)⟩⟩)))
        · exact fun z => absurd ((nI_eq (b := 4) (by omega) (by omega)).mp z) (by omega)
        · exact ⟨rfl, og_add I hm hr (by omega) (Or.inr cc) (by rw [cc]; exact ⟨by omega, by omega, by omega, by omega, by omega, by omega, by omega⟩) hl⟩
      · have e4 : n = 4 := by omega
        subst e4
        exact br_f (nI_nlt (b := 4) (by omega) (by omega)) (oe_good hm (br_t rfl (iy _ _ (br_t rfl ⟨i, br_t c3 ⟨i, br_t rfl ⟨rfl, I⟩⟩⟩))))
    · exact br_f c3 (oe_good hm (br_t rfl (iy _ _ (br_t rfl ⟨i, br_f c3 ⟨rfl, I⟩⟩))))
  · exact od_good hm (br_f oa_10 (ix _ (br_t rfl (oe_good hm (br_t rfl (iy _ _ (br_f oa_10 ⟨rfl, I⟩)))))))
theorem og_pop {sv rv : Int32} {x f K S V Q E : Nat → Int32} {m c n : Nat} (I : ob_R sv x f rv K S V Q E) (hm : m < 8) (h : ob_Rec x (m * 20) K S V Q E (m + 1) c (n + 1)) (hn : n < 6) (c2 : 2 ≤ c) (c4 : c ≤ 4) :
    ob_R sv (upd (ob_se x (m * 20) n 0 0 0) (m * 20 + 1) (nI n)) f rv K (upd S (m + 1) (nI n)) V Q E := by
  obtain ⟨_, _, z0, z1, z5, z3, z4⟩ := h.2.1
  refine ob_step I hm ⟨c, n, ob_drop h.1 hn pk_us, ⟨by omega, by omega, by omega, by omega, by omega, fun e => by have := z3 e; omega, fun e => by have := z4 e; omega⟩, fun z => absurd z (by omega)⟩ ?_ ?_ ?_
  · intro j hj
    rw [pk_un (by omega), ob_seo hn hj]
  · intro s hs; exact ⟨rfl, pk_un hs⟩
  · intro j hj; exact ⟨rfl, rfl, rfl⟩
theorem i_vc_pop {k : Nat} {u : SX} {v : SY} (I : i_Rel k u v) (hk : k + 4 ≤ 2048) (v1 : Int32) : wpX_pop (fun r u' => wpY_pop (fun r' v' => r' = r ∧ i_Rel (k + 4) u' v') v v1) u v1 := by
  obtain ⟨sv, x, f⟩ := u
  obtain ⟨rv, K, S, V, Q, E⟩ := v
  have I : ob_R sv x f rv K S V Q E := I
  unfold wpX_pop wpY_pop
  dsimp only
  rcases oa_obj v1 with hb | ⟨m, hm, rfl⟩
  · exact od_bad hb (br_t rfl (oe_bad hb (br_f oa_10 ⟨rfl, I⟩)))
  obtain ⟨c, n, hr⟩ := ob_at I hm
  obtain ⟨⟨h1, h2, h3, hs, _⟩, hz, _⟩ := id hr
  have i : vp_in (nI (m + 1)) 54 := vp_in_nI (by omega) (by omega)
  have z1 := hz.1
  have z2 := hz.2.1
  refine od_good hm (br_f oa_10 (od_kindE hm h1 ?_))
  rw [nI_clamp (show m + 1 < 2 ^ 31 by omega), h3, hs]
  by_cases c2 : nI c < 2
  · exact br_t c2 (oe_good hm (br_t rfl ⟨i, br_t c2 ⟨rfl, I⟩⟩))
  by_cases c4 : 4 < nI c
  · exact br_f c2 (br_t c4 (oe_good hm (br_t rfl ⟨i, br_f c2 ⟨i, br_t c4 ⟨rfl, I⟩⟩⟩)))
  refine br_f c2 (br_f c4 (od_sizeE hm h2 ?_))
  by_cases n0 : nI n = 0
  · exact br_t n0 (oe_good hm (br_t rfl ⟨i, br_f c2 ⟨i, br_f c4 ⟨i, br_t n0 ⟨rfl, I⟩⟩⟩⟩))
  have c2' : 2 ≤ c := (nI_leI (a := 2) (by omega) (by omega)).mp (Int32.not_lt.mp c2)
  have c4' : c ≤ 4 := (nI_leI (b := 4) (by omega) (by omega)).mp (Int32.not_lt.mp c4)
  obtain ⟨n', rfl⟩ : ∃ n', n = n' + 1 := ⟨n - 1, by
    have : n ≠ 0 := fun z => n0 (by rw [z]; exact nI_0)
    omega⟩
  refine br_f n0 (od_drop hm (by omega) h2 (od_sizeE hm pk_us ?_))
  refine oe_good hm (br_t rfl ⟨i, br_f c2 ⟨i, br_f c4 ⟨i, br_f n0 ⟨i, i, nm_r (by rw [nI_pred]) ⟨i, ?_⟩⟩⟩⟩⟩)
  exact ⟨pk_us, og_pop I hm hr (by omega) c2' c4'⟩

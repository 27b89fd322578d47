/-! put -/
section OP
variable {sv rv : Int32} {x f K S V Q E : Nat → Int32} {m : Nat}
theorem op_place {n : Nat} {v z key : Int32} (hm : m < 8) (hr : ob_Rec x (m * 20) K S V Q E (m + 1) 4 n) : ∀ d j, j + d = n → ∃ p, p ≤ n ∧
    (∀ post : Int32 → Prop, post (nI p) → wX_placeOfKey_9 post (nI (m + 1)) key (nI n) sv x f (d + 1) (nI j)) ∧
    (∀ post : Int32 → SY → Prop, wY_put_101 post v (nI (m + 1)) z key (nI p) rv K S V Q E → wY_put_67 post v (nI (m + 1)) z key rv K S V Q E (d + 1) (nI j)) := by
  obtain ⟨⟨h1, h2, h3, hs, h6, _⟩, hz, _⟩ := hr
  have z2 := hz.2.1
  have i : vp_in (nI (m + 1)) 54 := vp_in_nI (by omega) (by omega)
  intro d
  induction d with
  | zero =>
    intro j hj
    have e : j = n := by omega
    subst e
    refine ⟨j, by omega, fun post hp => br_t (nI_le (by omega) (by omega)) hp, fun post hp => ?_⟩
    refine And.intro i ?_
    rw [nI_clamp (by omega), hs]
    exact br_t (nI_le (by omega) (by omega)) hp
  | succ d ih =>
    intro j hj
    obtain ⟨_, _, e3, _⟩ := h6 j (by omega) (by omega)
    have e3 := e3 rfl
    have g : ¬ nI n ≤ nI j := nI_ge (by omega) (by omega)
    have i2 : vp_in (nI (6 * (m + 1) + j)) 324 := vp_in_nI (by omega) (by omega)
    by_cases hw : key ≤ E (6 * (m + 1) + j)
    · refine ⟨j, by omega, fun post hp => br_f g (od_keyE hm (by omega) e3 (br_t hw hp)), fun post hp => ?_⟩
      refine And.intro i ?_
      rw [nI_clamp (by omega), hs, oa_6, nI_add, nI_clamp (by omega)]
      exact br_f g ⟨i2, br_t hw hp⟩
    · obtain ⟨p, hp, hX, hY⟩ := ih (j + 1) (by omega)
      refine ⟨p, hp, fun post hp => br_f g (od_keyE hm (by omega) e3 (br_f hw (nm_r (nI_1 j) (hX post hp)))), fun post hp => ?_⟩
      refine And.intro i ?_
      rw [nI_clamp (by omega), hs, oa_6, nI_add, nI_clamp (by omega)]
      exact br_f g ⟨i2, br_f hw (nm_r (nI_1 j) (hY post hp))⟩
theorem op_room_l {post : SX → Prop} {p N : Nat} (hm : m < 8) : ∀ d (x : Nat → Int32), p + d < 6 → post (sv, upd (ob_mxs (m * 20) p d x) (m * 20 + 1) (nI (N + 1)), f) → wX_makeRoom_9 post (nI (m + 1)) (nI p) (nI N) (d + 1) (nI (p + d)) sv x f := by
  intro d
  induction d with
  | zero =>
    intro x hd h
    refine br_t (nI_le (by omega) (by omega)) (od_rec ?_)
    rw [oa_p1 (m * 20), nI_clamp (by omega), oa_p1 N]
    exact ⟨vp_in_nI (by omega) (by omega), nm_e h⟩
  | succ d ih =>
    intro x hd h
    refine br_f (nI_ge (by omega) (by omega)) ?_
    rw [show p + (d + 1) = (p + d) + 1 from rfl, nI_pred]
    refine od_key hm (by omega) (od_vk hm (by omega) (od_val hm (by omega) (od_set hm (by omega) ?_)))
    exact nm_r (pk_m1 (p + d)) (ih _ (by omega) h)
theorem op_room {post : SX → Prop} {p d : Nat} (hm : m < 8) (hs : x (m * 20 + 1) = nI (p + d)) (hd : p + d < 6) (h : post (sv, upd (ob_mxs (m * 20) p d x) (m * 20 + 1) (nI (p + d + 1)), f)) : wpX_makeRoom post (sv, x, f) (nI (m + 1)) (nI p) := by
  unfold wpX_makeRoom
  dsimp only
  exact od_sizeE hm hs ⟨d + 1, op_room_l hm d x hd h⟩
theorem op_251 {post : Int32 → SY → Prop} {p : Nat} {v q key : Int32} (hm : m < 8) (hp : p < 6) (h : post (S (m + 1)) (rv, K, S, upd V (6 * (m + 1) + p) v, upd Q (6 * (m + 1) + p) q, upd E (6 * (m + 1) + p) key)) : wY_put_251 post v (nI (m + 1)) q key (nI p) rv K S V Q E := by
  unfold wY_put_251
  refine oe_set hm hp ?_
  dsimp only
  rw [oa_6, nI_add, nI_clamp (by omega), nI_clamp (by omega)]
  exact ⟨vp_in_nI (by omega) (by omega), nm_e ⟨vp_in_nI (by omega) (by omega), h⟩⟩
theorem op_167 {post : Int32 → SY → Prop} {p : Nat} {v q key : Int32} (hm : m < 8) : ∀ d (V Q E : Nat → Int32), p + d < 6 →
    wY_put_251 post v (nI (m + 1)) q key (nI p) rv K (upd S (m + 1) (S (m + 1) + 1)) (ob_mvs (6 * (m + 1)) p d V) (ob_mvs (6 * (m + 1)) p d Q) (ob_mvs (6 * (m + 1)) p d E) →
    wY_put_167 post v (nI (m + 1)) q key (nI p) (d + 1) (nI (p + d)) rv K S V Q E := by
  intro d
  have i : vp_in (nI (m + 1)) 54 := vp_in_nI (by omega) (by omega)
  induction d with
  | zero =>
    intro V Q E hd h
    refine br_t (nI_le (by omega) (by omega)) ?_
    rw [nI_clamp (by omega)]
    exact ⟨i, i, nm_e h⟩
  | succ d ih =>
    intro V Q E hd h
    refine br_f (nI_ge (by omega) (by omega)) ?_
    have e : 6 * nI (m + 1) + nI (p + (d + 1)) - 1 = nI (6 * (m + 1) + (p + d)) := by
      rw [oa_6, nI_add]; exact nI_pred _
    rw [e, nI_clamp (by omega)]
    have i1 : vp_in (nI (6 * (m + 1) + (p + d))) 324 := vp_in_nI (by omega) (by omega)
    refine ⟨i1, i1, oe_set hm (by omega) ?_⟩
    dsimp only
    rw [oa_6, nI_add, nI_clamp (by omega)]
    exact ⟨i1, vp_in_nI (by omega) (by omega), nm_e (nm_r (pk_m1 (p + d)) (ih _ _ _ (by omega) h))⟩
theorem og_put1 {n p : Nat} {e q v : Int32} (I : ob_R sv x f rv K S V Q E) (hm : m < 8) (h : ob_Rec x (m * 20) K S V Q E (m + 1) 4 n) (hp : p < n) (hl : ob_Lk q v) :
    ob_R sv (ob_se x (m * 20) p e q v) f rv K S (upd V (6 * (m + 1) + p) v) (upd Q (6 * (m + 1) + p) q) (upd E (6 * (m + 1) + p) e) := by
  have n3 := h.2.1.2.2.2.2.2.2 rfl
  refine ob_step I hm ⟨4, n, ob_put1 h.1 hp n3 hl, h.2.1, fun z => absurd z (by omega)⟩ ?_ ?_ ?_
  · intro j hj; exact ob_seo (by omega) hj
  · intro s hs; exact ⟨rfl, rfl⟩
  · intro j hj; exact ⟨pk_un (by omega), pk_un (by omega), pk_un (by omega)⟩
theorem og_put2 {p d : Nat} {e q v : Int32} (I : ob_R sv x f rv K S V Q E) (hm : m < 8) (h : ob_Rec x (m * 20) K S V Q E (m + 1) 4 (p + d)) (hn : p + d < 3) (hl : ob_Lk q v) :
    ob_R sv (ob_se (upd (ob_mxs (m * 20) p d x) (m * 20 + 1) (nI (p + d + 1))) (m * 20) p e q v) f rv K (upd S (m + 1) (nI (p + d + 1))) (upd (ob_mvs (6 * (m + 1)) p d V) (6 * (m + 1) + p) v) (upd (ob_mvs (6 * (m + 1)) p d Q) (6 * (m + 1) + p) q) (upd (ob_mvs (6 * (m + 1)) p d E) (6 * (m + 1) + p) e) := by
  refine ob_step I hm ⟨4, p + d + 1, ob_put2 h.1 hn pk_us hl, ⟨by omega, by omega, by omega, by omega, by omega, by omega, by omega⟩, fun z => absurd z (by omega)⟩ ?_ ?_ ?_
  · intro j hj
    rw [ob_seo (by omega) hj, pk_un (by omega)]
    exact (ob_mxso d x (by omega)).1 j (by omega)
  · intro s hs; exact ⟨rfl, pk_un hs⟩
  · intro j hj
    rw [pk_un (by omega), pk_un (by omega), pk_un (by omega)]
    exact ⟨ob_mvso d V (by omega) j hj, ob_mvso d Q (by omega) j hj, ob_mvso d E (by omega) j hj⟩
/-- from the found code on: both sides -/
theorem op_main {k : Nat} {v z key : Int32} (I : ob_R sv x f rv K S V Q E) (hm : m < 8) (hl : ob_Lk z v) (ix : ∀ post : Int32 → Prop, post 1 → wpX_isItem post z v) (PY : (Int32 → SY → Prop) → Prop)
    (hb : ∀ post : Int32 → SY → Prop, vp_in (nI (m + 1)) 54 ∧ (((K (nI (m + 1)).toNatClampNeg) = 4 → (∃ n67 : Nat, wY_put_67 post v (nI (m + 1)) z key rv K S V Q E n67 0)) ∧ (¬ (K (nI (m + 1)).toNatClampNeg) = 4 → (post (-2) (rv, K, S, V, Q, E)))) → PY post) :
    wX_put_40 (fun r u' => PY (fun r' v' => r' = r ∧ i_Rel k u' v')) v (nI (m + 1)) key z sv x f := by
  unfold wX_put_40
  refine ix _ (br_f oa_10 ?_)
  obtain ⟨c, n, hr⟩ := ob_at I hm
  obtain ⟨⟨h1, h2, h3, hs, h6, _⟩, hz, _⟩ := id hr
  have z1 := hz.1
  have z2 := hz.2.1
  have i : vp_in (nI (m + 1)) 54 := vp_in_nI (by omega) (by omega)
  refine od_kindE hm h1 ?_
  rw [nI_clamp (show m + 1 < 2 ^ 31 by omega), h3] at hb
  by_cases c4 : nI c = 4
  · have cc : c = 4 := (nI_eq (b := 4) (by omega) (by omega)).mp c4
    subst cc
    have n3 := hz.2.2.2.2.2.2 rfl
    obtain ⟨p, hp, hX, hY⟩ := op_place (sv := sv) (f := f) (rv := rv) (v := v) (z := z) (key := key) hm hr n 0 (by omega)
    rw [nI_0] at hX hY
    refine br_t c4 ?_
    unfold wpX_placeOfKey
    dsimp only
    refine od_sizeE hm h2 ⟨n + 1, hX _ ?_⟩
    unfold wpX_hasKeyAt
    dsimp only
    by_cases pn : p < n
    · obtain ⟨_, _, e3, _⟩ := h6 p pn (by omega)
      have e3 := e3 rfl
      have g : ¬ nI n ≤ nI p := nI_ge (by omega) (by omega)
      have i2 : vp_in (nI (6 * (m + 1) + p)) 324 := vp_in_nI (by omega) (by omega)
      by_cases hw : E (6 * (m + 1) + p) = key
      · refine od_hv1 hm h2 z2 pn (br_f oa_10 (od_keyE hm (by omega) e3 (br_t hw (br_f oa_10 ?_))))
        unfold wX_put_105
        refine od_set hm (by omega) (od_sizeE hm (ob_se1.trans h2) ?_)
        refine hb _ ⟨i, br_t c4 ⟨n + 1, hY _ ?_⟩⟩
        unfold wY_put_101 wY_put_134 wY_put_154
        rw [nI_clamp (by omega), hs, oa_6, nI_add, nI_clamp (by omega)]
        refine ⟨i, br_f g ⟨i2, br_t hw (br_f oa_10 (br_f oa_10 (op_251 hm (by omega) ?_)))⟩⟩
        exact ⟨hs, og_put1 I hm hr pn hl⟩
      · refine od_hv1 hm h2 z2 pn (br_f oa_10 (od_keyE hm (by omega) e3 (br_f hw (br_t rfl (od_sizeE hm h2 ?_)))))
        obtain ⟨d, rfl⟩ : ∃ d, n = p + d := ⟨n - p, by omega⟩
        by_cases n3 : p + d < 3
        · refine br_t (nI_lt (b := 3) n3 (by omega)) (op_room hm h2 (by omega) ?_)
          dsimp only
          unfold wX_put_105
          refine od_set hm (by omega) (od_sizeE hm (ob_se1.trans pk_us) ?_)
          refine hb _ ⟨i, br_t c4 ⟨_, hY _ ?_⟩⟩
          unfold wY_put_101 wY_put_133 wY_put_134 wY_put_154
          rw [nI_clamp (by omega), hs, oa_6, nI_add, nI_clamp (by omega)]
          refine ⟨i, br_f g ⟨i2, br_f hw (br_t rfl ⟨i, br_f ?_ (br_t rfl ⟨i, nm_e ⟨d + 1, op_167 hm d V Q E (by omega) ?_⟩⟩)⟩)⟩⟩
          · exact fun z => absurd ((nI_eq (b := 3) (by omega) (by omega)).mp z) (by omega)
          · rw [hs, nI_1]
            exact op_251 hm (by omega) ⟨pk_us, og_put2 I hm hr n3 hl⟩
        · have e3' : p + d = 3 := by omega
          refine br_f (nI_nlt (b := 3) (by omega) (by omega)) ?_
          refine hb _ ⟨i, br_t c4 ⟨_, hY _ ?_⟩⟩
          unfold wY_put_101 wY_put_133 wY_put_134
          rw [nI_clamp (by omega), hs, oa_6, nI_add, nI_clamp (by omega)]
          exact ⟨i, br_f g ⟨i2, br_f hw (br_t rfl ⟨i, br_t (by rw [e3']; rfl) ⟨rfl, I⟩⟩)⟩⟩
    · have pe : p = n := by omega
      subst pe
      have g : nI p ≤ nI p := nI_le (by omega) (by omega)
      refine od_hv0 hm h2 (Or.inr g) (br_t rfl (br_t rfl (od_sizeE hm h2 ?_)))
      by_cases n3 : p < 3
      · refine br_t (nI_lt (b := 3) n3 (by omega)) (op_room (d := 0) hm h2 (by omega) ?_)
        dsimp only
        unfold wX_put_105
        refine od_set hm (by omega) (od_sizeE hm (ob_se1.trans pk_us) ?_)
        refine hb _ ⟨i, br_t c4 ⟨_, hY _ ?_⟩⟩
        unfold wY_put_101 wY_put_133 wY_put_134 wY_put_154
        rw [nI_clamp (by omega), hs]
        refine ⟨i, br_t g (br_t rfl ⟨i, br_f ?_ (br_t rfl ⟨i, nm_e ⟨0 + 1, op_167 (p := p) hm 0 V Q E (by omega) ?_⟩⟩)⟩)⟩
        · exact fun z => absurd ((nI_eq (b := 3) (by omega) (by omega)).mp z) (by omega)
        · rw [hs, nI_1]
          exact op_251 hm (by omega) ⟨pk_us, og_put2 (d := 0) I hm hr n3 hl⟩
      · have e3' : p = 3 := by omega
        refine br_f (nI_nlt (b := 3) (by omega) (by omega)) ?_
        refine hb _ ⟨i, br_t c4 ⟨_, hY _ ?_⟩⟩
        unfold wY_put_101 wY_put_133 wY_put_134
        rw [nI_clamp (by omega), hs]
        exact ⟨i, br_t g (br_t rfl ⟨i, br_t (by rw [e3']; rfl) ⟨rfl, I⟩⟩)⟩
  · exact br_f c4 (hb _ ⟨i, br_f c4 ⟨rfl, I⟩⟩)
theorem op_640 : ¬ (64 : Int32) = 0 := by decide
theorem op_20 : ¬ (2 : Int32) = 0 := by decide
theorem op_Ybad {post : Int32 → SY → Prop} {v1 v2 : Int32} (h : v1 < 0 ∨ (v1 / 64 < 1 ∨ 8 < v1 / 64)) (hp : post (-1) (rv, K, S, V, Q, E)) : wpY_put post (rv, K, S, V, Q, E) v1 v2 := by
  unfold wpY_put wY_put_17
  dsimp only
  refine ⟨op_640, nm_e ⟨op_20, ?_⟩⟩
  by_cases h0 : v1 < 0
  · exact br_c (fun _ => ⟨op_640, op_20, nm_e (br_t h0 hp)⟩) (fun _ => ⟨op_640, op_20, nm_e (br_t h0 hp)⟩)
  · rcases h with z | z
    · exact absurd z h0
    · exact br_c (fun _ => ⟨op_640, op_20, nm_e (br_f h0 (oe_bad z (br_f oa_10 hp)))⟩) (fun _ => ⟨op_640, op_20, nm_e (br_f h0 (oe_bad z (br_f oa_10 hp)))⟩)
theorem op_Yhead {post : Int32 → SY → Prop} {v1 v2 z key : Int32} (e64 : v1 / 64 = nI (m + 1)) (hz : (v1 - v1 / 2 * 2 = 1 ∧ z = 2) ∨ (¬ v1 - v1 / 2 * 2 = 1 ∧ z = 0)) (e6 : (v1 - v1 / 64 * 64) / 2 = key) (h0 : ¬ v1 < 0) (hm : m < 8)
    (h : wpY_badItem (fun r_17 => (((r_17 = 0 → (vp_in (nI (m + 1)) 54 ∧ ((((K (nI (m + 1)).toNatClampNeg) = 4 → (∃ n67 : Nat, wY_put_67 post v2 (nI (m + 1)) z key rv K S V Q E n67 0)) ∧ (¬ (K (nI (m + 1)).toNatClampNeg) = 4 → (post (-2) (rv, K, S, V, Q, E))))))) ∧ (¬ r_17 = 0 → (post (-1) (rv, K, S, V, Q, E)))))) (rv, K, S, V, Q, E) z v2) : wpY_put post (rv, K, S, V, Q, E) v1 v2 := by
  unfold wpY_put wY_put_17
  dsimp only
  rw [e6, e64]
  refine ⟨op_640, nm_e ⟨op_20, ?_⟩⟩
  rcases hz with ⟨hb, rfl⟩ | ⟨hb, rfl⟩
  · exact br_t hb ⟨op_640, op_20, nm_e (br_f h0 (oe_good hm (br_t rfl h)))⟩
  · exact br_f hb ⟨op_640, op_20, nm_e (br_f h0 (oe_good hm (br_t rfl h)))⟩
end OP
theorem i_vc_put {k : Nat} {u : SX} {v : SY} (I : i_Rel k u v) (hk : k + 4 ≤ 2048) (v1 : Int32) (v2 : Int32) : wpX_put (fun r u' => wpY_put (fun r' v' => r' = r ∧ i_Rel (k + 4) u' v') v v1 v2) u v1 v2 := by
  obtain ⟨sv, x, f⟩ := u
  obtain ⟨rv, K, S, V, Q, E⟩ := v
  have I : ob_R sv x f rv K S V Q E := I
  by_cases h64 : v1 < 64
  · refine br_t h64 (op_Ybad ?_ ⟨rfl, I⟩)
    by_cases h0 : v1 < 0
    · exact Or.inl h0
    · obtain ⟨a, ha, rfl⟩ := nI_of h0
      have a64 : a < 64 := (nI_ltI (b := 64) ha (by omega)).mp h64
      refine Or.inr (Or.inl ?_)
      have e : nI a / 64 = nI (a / 64) := pk_div (d := 64) ha (by omega) (by omega)
      rw [e]
      exact nI_lt (b := 1) (by omega) (by omega)
  have h0 : ¬ v1 < 0 := fun z => h64 (Int32.lt_trans z (by decide))
  obtain ⟨a, ha, rfl⟩ := nI_of h0
  have a64 : 64 ≤ a := (nI_leI (a := 64) (by omega) ha).mp (Int32.not_lt.mp h64)
  have e64 : nI a / 64 = nI (a / 64) := pk_div (d := 64) ha (by omega) (by omega)
  by_cases h576 : nI a < 576
  · have a576 : a < 576 := (nI_ltI (b := 576) ha (by omega)).mp h576
    obtain ⟨m, hm, em⟩ : ∃ m, m < 8 ∧ a / 64 = m + 1 := ⟨a / 64 - 1, by omega, by omega⟩
    have e2 : nI a / 2 = nI (a / 2) := pk_div (d := 2) ha (by omega) (by omega)
    have ek : (nI a / 2) &&& 31 = nI (a % 64 / 2) := by
      rw [e2, pk_andN (by omega) (m := 31) 5 (by decide)]
      exact congrArg nI (by omega)
    have eb : nI a &&& 1 = nI (a % 2) := pk_andN (by omega) (m := 1) 1 (by decide)
    have er : nI a - nI a / 2 * 2 = nI (a % 2) := pk_rem (d := 2) ha (by omega) (by omega)
    have e6 : (nI a - nI a / 64 * 64) / 2 = nI (a % 64 / 2) := by
      rw [show nI a - nI a / 64 * 64 = nI (a % 64) from pk_rem (d := 64) ha (by omega) (by omega)]
      exact pk_div (d := 2) (by omega) (by omega) (by omega)
    unfold wpX_put
    dsimp only
    refine br_f h64 (br_t h576 ⟨op_640, nm_r (e64.trans (congrArg nI em)) ⟨op_20, nm_r ek ?_⟩⟩)
    rw [eb]
    have ez : ∃ z : Int32, (nI (a % 2) = 1 ∧ z = 2) ∨ (¬ nI (a % 2) = 1 ∧ z = 0) := by
      by_cases q : nI (a % 2) = 1
      · exact ⟨2, Or.inl ⟨q, rfl⟩⟩
      · exact ⟨0, Or.inr ⟨q, rfl⟩⟩
    obtain ⟨z, hz⟩ := ez
    have hY : ∀ post : Int32 → SY → Prop, wpY_badItem (fun r_17 => (((r_17 = 0 → (vp_in (nI (m + 1)) 54 ∧ ((((K (nI (m + 1)).toNatClampNeg) = 4 → (∃ n67 : Nat, wY_put_67 post v2 (nI (m + 1)) z (nI (a % 64 / 2)) rv K S V Q E n67 0)) ∧ (¬ (K (nI (m + 1)).toNatClampNeg) = 4 → (post (-2) (rv, K, S, V, Q, E))))))) ∧ (¬ r_17 = 0 → (post (-1) (rv, K, S, V, Q, E)))))) (rv, K, S, V, Q, E) z v2 → wpY_put post (rv, K, S, V, Q, E) (nI a) v2 :=
      fun post h => op_Yhead (e64.trans (congrArg nI em)) (by rw [er]; exact hz) e6 h0 hm h
    have hX : wX_put_40 (fun r u' => wpY_put (fun r' v' => r' = r ∧ i_Rel (k + 4) u' v') (rv, K, S, V, Q, E) (nI a) v2) v2 (nI (m + 1)) (nI (a % 64 / 2)) z sv x f := by
      rcases oh_item z v2 with ⟨ix, iy, hl⟩ | ⟨ix, iy⟩
      · exact op_main I hm hl ix (fun post => wpY_put post (rv, K, S, V, Q, E) (nI a) v2) (fun post h => hY post (iy _ _ (br_t rfl h)))
      · unfold wX_put_40
        exact ix _ (br_t rfl (hY _ (iy _ _ (br_f oa_10 ⟨rfl, I⟩))))
    rcases hz with ⟨q, rfl⟩ | ⟨q, rfl⟩
    · exact br_t q hX
    · exact br_f q hX
  · have a576 : 576 ≤ a := (nI_leI (a := 576) (by omega) ha).mp (Int32.not_lt.mp h576)
    refine br_f h64 (br_f h576 (op_Ybad (Or.inr (Or.inr ?_)) ⟨rfl, I⟩))
    rw [e64]
    exact nI_lt (a := 8) (by omega) (by omega)

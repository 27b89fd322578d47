/-! the component's own small methods -/
section OD
variable {sv : Int32} {x f : Nat → Int32} {m : Nat}
theorem od_good {post : Int32 → Prop} (hm : m < 8) (h : post 1) : wpX_isGood post (nI (m + 1)) := br_f (oa_nlt1 hm) (br_f (oa_ngt8 hm) h)
theorem od_bad {post : Int32 → Prop} {o : Int32} (ho : o < 1 ∨ 8 < o) (h : post 0) : wpX_isGood post o := by
  by_cases h1 : o < 1
  · exact br_t h1 h
  · rcases ho with h8 | h8
    · exact absurd h8 h1
    · exact br_f h1 (br_t h8 h)
theorem od_rec {post : Int32 → Prop} (h : post (nI (m * 20))) : wpX_recordOf post (nI (m + 1)) := by
  unfold wpX_recordOf
  rw [oa_rec]; exact h
theorem od_kind {post : Int32 → Prop} (hm : m < 8) (h : post (x (m * 20))) : wpX_kindOf post (sv, x, f) (nI (m + 1)) := by
  unfold wpX_kindOf
  dsimp only
  refine od_rec ?_
  rw [Int32.add_zero, nI_clamp (by omega)]
  exact ⟨vp_in_nI (by omega) (by omega), h⟩
theorem od_size {post : Int32 → Prop} (hm : m < 8) (h : post (x (m * 20 + 1))) : wpX_sizeOf post (sv, x, f) (nI (m + 1)) := by
  unfold wpX_sizeOf
  dsimp only
  refine od_rec ?_
  rw [oa_p1, nI_clamp (by omega)]
  exact ⟨vp_in_nI (by omega) (by omega), h⟩
theorem od_val {post : Int32 → Prop} {i : Nat} (hm : m < 8) (hi : i < 6) (h : post (x (m * 20 + 2 + i))) : wpX_valueAt post (sv, x, f) (nI (m + 1)) (nI i) := by
  unfold wpX_valueAt
  dsimp only
  refine od_rec ?_
  rw [oa_p2, nI_add, nI_clamp (by omega)]
  exact ⟨vp_in_nI (by omega) (by omega), h⟩
theorem od_vk {post : Int32 → Prop} {i : Nat} (hm : m < 8) (hi : i < 6) (h : post (x (m * 20 + 8 + i))) : wpX_valueKindAt post (sv, x, f) (nI (m + 1)) (nI i) := by
  unfold wpX_valueKindAt
  dsimp only
  refine od_rec ?_
  rw [oa_p8, nI_add, nI_clamp (by omega)]
  exact ⟨vp_in_nI (by omega) (by omega), h⟩
theorem od_key {post : Int32 → Prop} {i : Nat} (hm : m < 8) (hi : i < 6) (h : post (x (m * 20 + 14 + i))) : wpX_keyAt post (sv, x, f) (nI (m + 1)) (nI i) := by
  unfold wpX_keyAt
  dsimp only
  refine od_rec ?_
  rw [oa_p14, nI_add, nI_clamp (by omega)]
  exact ⟨vp_in_nI (by omega) (by omega), h⟩
theorem od_set {post : SX → Prop} {i : Nat} {e q v : Int32} (hm : m < 8) (hi : i < 6) (h : post (sv, ob_se x (m * 20) i e q v, f)) : wpX_setEntry post (sv, x, f) (nI (m + 1)) (nI i) e q v := by
  unfold wpX_setEntry
  dsimp only
  refine od_rec ?_
  rw [oa_p2, oa_p8, oa_p14, nI_add, nI_add, nI_add, nI_clamp (by omega), nI_clamp (by omega), nI_clamp (by omega)]
  exact ⟨vp_in_nI (by omega) (by omega), nm_e ⟨vp_in_nI (by omega) (by omega), nm_e ⟨vp_in_nI (by omega) (by omega), nm_e h⟩⟩⟩
theorem od_add {post : SX → Prop} {n : Nat} {q v : Int32} (hm : m < 8) (hn : n < 6) (hs : x (m * 20 + 1) = nI n) (h : post (sv, upd (ob_se x (m * 20) n 0 q v) (m * 20 + 1) (nI (n + 1)), f)) : wpX_addValue post (sv, x, f) (nI (m + 1)) q v := by
  unfold wpX_addValue
  dsimp only
  refine od_size hm ?_
  rw [hs]
  refine od_set hm hn ?_
  dsimp only
  refine od_rec ?_
  rw [oa_p1 (m * 20), nI_clamp (by omega), oa_p1 n]
  exact ⟨vp_in_nI (by omega) (by omega), nm_e h⟩
theorem od_drop {post : SX → Prop} {n : Nat} (hm : m < 8) (hn : n < 6) (hs : x (m * 20 + 1) = nI (n + 1)) (h : post (sv, upd (ob_se x (m * 20) n 0 0 0) (m * 20 + 1) (nI n), f)) : wpX_dropLast post (sv, x, f) (nI (m + 1)) := by
  unfold wpX_dropLast
  dsimp only
  refine od_size hm ?_
  rw [hs]
  refine nm_r (nI_pred n) ?_
  refine od_set hm hn ?_
  dsimp only
  refine od_rec ?_
  rw [oa_p1 (m * 20), nI_clamp (by omega)]
  exact ⟨vp_in_nI (by omega) (by omega), nm_e h⟩
def od_z (x : Nat → Int32) (b i : Nat) : Nat → Int32 := fun j => if b ≤ j ∧ j < b + i then 0 else x j
theorem od_z_0 {b : Nat} : od_z x b 0 = x := by
  funext j; unfold od_z; rw [if_neg (by omega)]
theorem od_z_s {b i : Nat} : upd (od_z x b i) (b + i) 0 = od_z x b (i + 1) := by
  funext j
  unfold upd od_z
  by_cases h : j = b + i
  · rw [if_pos h, if_pos (by omega)]
  · rw [if_neg h]
    by_cases h2 : b ≤ j ∧ j < b + i
    · rw [if_pos h2, if_pos (by omega)]
    · rw [if_neg h2, if_neg (by omega)]
theorem od_z_e {b : Nat} {c : Int32} : upd (od_z x b 20) b c = ob_rn x b c := by
  funext j
  unfold upd od_z ob_rn
  rfl
theorem od_renew_l {post : SX → Prop} {c : Int32} {b : Nat} (hb : b + 20 ≤ 160) (h : post (sv, ob_rn x b c, f)) : ∀ d i, i + d = 20 → wX_renew_8 post c (nI b) sv (d + 1) (nI i) (od_z x b i) f := by
  intro d
  induction d with
  | zero =>
    intro i hi
    have e : i = 20 := by omega
    subst e
    refine br_t (nI_le (a := 20) (b := 20) (by omega) (by omega)) ?_
    rw [Int32.add_zero, nI_clamp (by omega)]
    refine ⟨vp_in_nI (by omega) (by omega), nm_e ?_⟩
    rw [od_z_e]; exact h
  | succ d ih =>
    intro i hi
    refine br_f (nI_ge (a := i) (b := 20) (by omega) (by omega)) ?_
    rw [nI_add, nI_clamp (by omega)]
    refine ⟨vp_in_nI (by omega) (by omega), nm_e (nm_r (nI_1 i) ?_)⟩
    rw [od_z_s]; exact ih (i + 1) (by omega)
theorem od_renew {post : SX → Prop} {c : Int32} (hm : m < 8) (h : post (sv, ob_rn x (m * 20) c, f)) : wpX_renew post (sv, x, f) (nI (m + 1)) c := by
  unfold wpX_renew
  dsimp only
  refine od_rec ?_
  have l := od_renew_l (sv := sv) (x := x) (f := f) (post := post) (c := c) (b := m * 20) (by omega) h 20 0 rfl
  rw [od_z_0, nI_0] at l
  exact ⟨_, l⟩
end OD
/-! the reference's own small methods -/
section OE
variable {rv : Int32} {K S V Q E : Nat → Int32} {m : Nat}
theorem oe_good {post : Int32 → Prop} (hm : m < 8) (h : post 0) : wpY_badObject post (rv, K, S, V, Q, E) (nI (m + 1)) := br_f (oa_nlt1 hm) (br_t (oa_le8 hm) h)
theorem oe_bad {post : Int32 → Prop} {o : Int32} (ho : o < 1 ∨ 8 < o) (h : post 1) : wpY_badObject post (rv, K, S, V, Q, E) o := by
  by_cases h1 : o < 1
  · exact br_t h1 h
  · rcases ho with h8 | h8
    · exact absurd h8 h1
    · exact br_f h1 (br_f (Int32.not_le.mpr h8) h)
theorem oe_set {post : SY → Prop} {i : Nat} {q v : Int32} (hm : m < 8) (hi : i < 6) (h : post (rv, K, S, upd V (6 * (m + 1) + i) v, upd Q (6 * (m + 1) + i) q, E)) : wpY_set post (rv, K, S, V, Q, E) (nI (m + 1)) (nI i) q v := by
  unfold wpY_set
  dsimp only
  rw [oa_6, nI_add, nI_clamp (by omega)]
  exact ⟨vp_in_nI (by omega) (by omega), nm_e ⟨vp_in_nI (by omega) (by omega), nm_e h⟩⟩
theorem oe_become1 {post : Int32 → SY → Prop} {c : Int32} (hm : m < 8) (hc : c = 1 ∨ c = 5) (h : post (K (m + 1)) (rv, upd K (m + 1) c, upd S (m + 1) 1, V, Q, E)) : wpY_become post (rv, K, S, V, Q, E) (nI (m + 1)) c := by
  unfold wpY_become
  dsimp only
  have i : vp_in (nI (m + 1)) 54 := vp_in_nI (by omega) (by omega)
  rw [nI_clamp (by omega)]
  refine ⟨i, nm_e ⟨i, nm_e ?_⟩⟩
  by_cases h1 : c = 1
  · exact br_t h1 ⟨i, nm_e h⟩
  · rcases hc with h5 | h5
    · exact absurd h5 h1
    · exact br_f h1 (br_t h5 ⟨i, nm_e h⟩)
theorem oe_become0 {post : Int32 → SY → Prop} {c : Int32} (hm : m < 8) (h1 : ¬ c = 1) (h5 : ¬ c = 5) (h : post (K (m + 1)) (rv, upd K (m + 1) c, upd S (m + 1) 0, V, Q, E)) : wpY_become post (rv, K, S, V, Q, E) (nI (m + 1)) c := by
  unfold wpY_become
  dsimp only
  have i : vp_in (nI (m + 1)) 54 := vp_in_nI (by omega) (by omega)
  rw [nI_clamp (by omega)]
  exact ⟨i, nm_e ⟨i, nm_e (br_f h1 (br_f h5 ⟨i, nm_e h⟩))⟩⟩
theorem oe_add {post : Int32 → SY → Prop} {n : Nat} {q v : Int32} (hm : m < 8) (hn : n < 6) (hs : S (m + 1) = nI n) (h : post (nI (n + 1)) (rv, K, upd S (m + 1) (nI (n + 1)), upd V (6 * (m + 1) + n) v, upd Q (6 * (m + 1) + n) q, E)) : wpY_add post (rv, K, S, V, Q, E) (nI (m + 1)) q v := by
  unfold wpY_add
  dsimp only
  have i : vp_in (nI (m + 1)) 54 := vp_in_nI (by omega) (by omega)
  rw [nI_clamp (by omega), hs]
  refine ⟨i, oe_set hm hn ?_⟩
  dsimp only
  rw [hs, nI_1]
  refine ⟨i, i, nm_e ⟨i, ?_⟩⟩
  rw [pk_us]; exact h
end OE

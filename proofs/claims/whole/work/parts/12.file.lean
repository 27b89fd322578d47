/-! copies word by word -/
def ow_c (d s : Nat → Int32) (t a i : Nat) : Nat → Int32 := fun j => if t ≤ j ∧ j < t + i then s (a + (j - t)) else d j
theorem ow_0 {d s : Nat → Int32} {t a : Nat} : ow_c d s t a 0 = d := by
  funext j; unfold ow_c; rw [if_neg (by omega)]
theorem ow_s {d s : Nat → Int32} {t a i : Nat} {v : Int32} (hv : v = s (a + i)) : upd (ow_c d s t a i) (t + i) v = ow_c d s t a (i + 1) := by
  funext j
  unfold upd ow_c
  by_cases h : j = t + i
  · rw [if_pos h, if_pos (by omega), hv, h, show t + i - t = i from by omega]
  · rw [if_neg h]
    by_cases h2 : t ≤ j ∧ j < t + i
    · rw [if_pos h2, if_pos (by omega)]
    · rw [if_neg h2, if_neg (by omega)]
theorem ow_in {d s : Nat → Int32} {t a i j : Nat} (h : j < i) : ow_c d s t a i (t + j) = s (a + j) := by
  unfold ow_c
  rw [if_pos (by omega), show t + j - t = j from by omega]
theorem ow_in0 {d s : Nat → Int32} {t i j : Nat} (h : j < i) : ow_c d s t 0 i (t + j) = s j := by rw [ow_in h, Nat.zero_add]
theorem ow_out {d s : Nat → Int32} {t a i j : Nat} (h : j < t ∨ t + i ≤ j) : ow_c d s t a i j = d j := by
  unfold ow_c
  rw [if_neg (by omega)]
section OW
variable {sv rv : Int32} {x f K S V Q E : Nat → Int32}
theorem ow_write {post : SX → Prop} {r : Nat} (hr : r < 5) (h : post (sv, x, ow_c f x (r * 160) 0 160)) : wpX_writeRevision post (sv, x, f) (nI r) := by
  have l : ∀ d i, i + d = 160 → wX_writeRevision_8 post (nI (r * 160)) sv (d + 1) (nI i) x (ow_c f x (r * 160) 0 i) := by
    intro d
    induction d with
    | zero =>
      intro i hi
      have e : i = 160 := by omega
      subst e
      exact br_t (nI_le (a := 160) (by omega) (by omega)) h
    | succ d ih =>
      intro i hi
      refine br_f (nI_ge (b := 160) (by omega) (by omega)) ?_
      rw [nI_add, nI_clamp (by omega), nI_clamp (by omega)]
      refine ⟨vp_in_nI (by omega) (by omega), vp_in_nI (by omega) (by omega), nm_e (nm_r (nI_1 i) ?_)⟩
      rw [ow_s (by rw [Nat.zero_add])]
      exact ih (i + 1) (by omega)
  unfold wpX_writeRevision
  dsimp only
  refine nm_r (oa_m160 r) ⟨160 + 1, ?_⟩
  have l0 := l 160 0 (by omega)
  rw [ow_0, nI_0] at l0
  exact l0
theorem ow_read {post : SX → Prop} {r : Nat} (hr : r < 5) (h : post (sv, ow_c x f 0 (r * 160) 160, f)) : wpX_readRevision post (sv, x, f) (nI r) := by
  have l : ∀ d i, i + d = 160 → wX_readRevision_8 post (nI (r * 160)) sv (d + 1) (nI i) (ow_c x f 0 (r * 160) i) f := by
    intro d
    induction d with
    | zero =>
      intro i hi
      have e : i = 160 := by omega
      subst e
      exact br_t (nI_le (a := 160) (by omega) (by omega)) h
    | succ d ih =>
      intro i hi
      refine br_f (nI_ge (b := 160) (by omega) (by omega)) ?_
      rw [nI_add, nI_clamp (by omega), nI_clamp (by omega)]
      refine ⟨vp_in_nI (by omega) (by omega), vp_in_nI (by omega) (by omega), nm_e (nm_r (nI_1 i) ?_)⟩
      have e : upd (ow_c x f 0 (r * 160) i) i (f (r * 160 + i)) = ow_c x f 0 (r * 160) (i + 1) := by
        have := ow_s (d := x) (s := f) (t := 0) (a := r * 160) (i := i) (v := f (r * 160 + i)) rfl
        rw [Nat.zero_add] at this
        exact this
      rw [e]
      exact ih (i + 1) (by omega)
  unfold wpX_readRevision
  dsimp only
  refine nm_r (oa_m160 r) ⟨160 + 1, ?_⟩
  have l0 := l 160 0 (by omega)
  rw [ow_0, nI_0] at l0
  exact l0
theorem ow_copy {post : SY → Prop} {g t : Nat} (hg : g ≤ 5) (ht : t ≤ 5) (ne : g ≠ t) (h : ∀ K' S' V' Q' E' : Nat → Int32, ob_Cp K S V Q E K' S' V' Q' E' g t → post (rv, K', S', V', Q', E')) : wpY_copy post (rv, K, S, V, Q, E) (nI g) (nI t) := by
  have h9 := h (ow_c K K (9 * t) (9 * g) 9) (ow_c S S (9 * t) (9 * g) 9) (ow_c V V (54 * t) (54 * g) 54) (ow_c Q Q (54 * t) (54 * g) 54) (ow_c E E (54 * t) (54 * g) 54)
    ⟨fun o ho => ⟨ow_in ho, ow_in ho⟩, fun j hj => ⟨ow_in hj, ow_in hj, ow_in hj⟩, fun s hs => ⟨ow_out hs, ow_out hs⟩, fun j hj => ⟨ow_out hj, ow_out hj, ow_out hj⟩⟩
  have l2 : ∀ d i, i + d = 54 → wY_copy_60 post (nI g) (nI t) rv (d + 1) (nI i) (ow_c K K (9 * t) (9 * g) 9) (ow_c S S (9 * t) (9 * g) 9) (ow_c V V (54 * t) (54 * g) i) (ow_c Q Q (54 * t) (54 * g) i) (ow_c E E (54 * t) (54 * g) i) := by
    intro d
    induction d with
    | zero =>
      intro i hi
      have e : i = 54 := by omega
      subst e
      exact br_t (nI_le (a := 54) (by omega) (by omega)) h9
    | succ d ih =>
      intro i hi
      refine br_f (nI_ge (b := 54) (by omega) (by omega)) ?_
      rw [oa_54, oa_54, nI_add, nI_add, nI_clamp (by omega), nI_clamp (by omega)]
      have i1 : vp_in (nI (54 * g + i)) 324 := vp_in_nI (by omega) (by omega)
      have i2 : vp_in (nI (54 * t + i)) 324 := vp_in_nI (by omega) (by omega)
      refine ⟨i1, i2, nm_r (ow_s (ow_out (by omega))) ⟨i1, i2, nm_r (ow_s (ow_out (by omega))) ⟨i1, i2, nm_r (ow_s (ow_out (by omega))) (nm_r (nI_1 i) (ih (i + 1) (by omega)))⟩⟩⟩
  have l1 : ∀ d i, i + d = 9 → wY_copy_2 post (nI g) (nI t) rv (d + 1) (nI i) (ow_c K K (9 * t) (9 * g) i) (ow_c S S (9 * t) (9 * g) i) V Q E := by
    intro d
    induction d with
    | zero =>
      intro i hi
      have e : i = 9 := by omega
      subst e
      refine br_t (nI_le (a := 9) (by omega) (by omega)) ⟨54 + 1, ?_⟩
      have l0 := l2 54 0 (by omega)
      rw [ow_0, ow_0, ow_0, nI_0] at l0
      exact l0
    | succ d ih =>
      intro i hi
      refine br_f (nI_ge (b := 9) (by omega) (by omega)) ?_
      rw [oa_9, oa_9, nI_add, nI_add, nI_clamp (by omega), nI_clamp (by omega)]
      have i1 : vp_in (nI (9 * g + i)) 54 := vp_in_nI (by omega) (by omega)
      have i2 : vp_in (nI (9 * t + i)) 54 := vp_in_nI (by omega) (by omega)
      refine ⟨i1, i2, nm_r (ow_s (ow_out (by omega))) ⟨i1, i2, nm_r (ow_s (ow_out (by omega))) (nm_r (nI_1 i) (ih (i + 1) (by omega)))⟩⟩
  have l0 := l1 9 0 (by omega)
  rw [ow_0, ow_0, nI_0] at l0
  exact ⟨9 + 1, l0⟩
theorem ow_way1 {post : Int32 → Prop} {w : Int32} (h0 : ¬ w < 0) (h2 : ¬ 2 < w) (h : post 1) : wpX_isWay post w := br_f h0 (br_f h2 h)
theorem ow_way0 {post : Int32 → Prop} {w : Int32} (h0 : w < 0 ∨ 2 < w) (h : post 0) : wpX_isWay post w := by
  by_cases a : w < 0
  · exact br_t a h
  · rcases h0 with z | z
    · exact absurd z a
    · exact br_f a (br_t z h)
theorem ow_countX {post : Int32 → Prop} (hx : ∀ m, m < 8 → x (m * 20) = K (m + 1)) (h : post (ob_ct K 8)) : wpX_countPresent post (sv, x, f) := by
  have l : ∀ d j, j + d = 8 → wX_countPresent_4 post sv x f (d + 1) (ob_ct K j) (nI (j + 1)) := by
    intro d
    induction d with
    | zero =>
      intro j hj
      have e : j = 8 := by omega
      subst e
      exact br_t (nI_lt (a := 8) (by omega) (by omega)) h
    | succ d ih =>
      intro j hj
      refine br_f (oa_ngt8 (by omega)) (od_kindE (by omega) (hx j (by omega)) ?_)
      have ih := ih (j + 1) (by omega)
      by_cases h0 : K (j + 1) = 0
      · rw [ob_ct_t h0] at ih
        exact br_t h0 (nm_r (nI_1 (j + 1)) ih)
      · rw [ob_ct_f h0] at ih
        exact br_f h0 (nm_e (nm_r (nI_1 (j + 1)) ih))
  exact ⟨8 + 1, l 8 0 (by omega)⟩
theorem ow_countY {post : Int32 → SY → Prop} (h : post (ob_ct K 8) (rv, K, S, V, Q, E)) : ∃ n26 : Nat, wY_open_26 post rv K S V Q E n26 0 1 := by
  have l : ∀ d j, j + d = 8 → wY_open_26 post rv K S V Q E (d + 1) (ob_ct K j) (nI (j + 1)) := by
    intro d
    induction d with
    | zero =>
      intro j hj
      have e : j = 8 := by omega
      subst e
      exact br_t (nI_le (a := 9) (by omega) (by omega)) h
    | succ d ih =>
      intro j hj
      refine br_f (nI_ge (b := 9) (by omega) (by omega)) ?_
      rw [nI_clamp (by omega)]
      refine ⟨vp_in_nI (by omega) (by omega), ?_⟩
      have ih := ih (j + 1) (by omega)
      by_cases h0 : K (j + 1) = 0
      · rw [ob_ct_t h0] at ih
        exact br_t h0 (nm_r (nI_1 (j + 1)) ih)
      · rw [ob_ct_f h0] at ih
        exact br_f h0 (nm_e (nm_r (nI_1 (j + 1)) ih))
  exact ⟨8 + 1, l 8 0 (by omega)⟩
end OW
theorem i_vc_save {k : Nat} {u : SX} {v : SY} (I : i_Rel k u v) (hk : k + 4 ≤ 2048) (v1 : Int32) : wpX_save (fun r u' => wpY_save (fun r' v' => r' = r ∧ i_Rel (k + 4) u' v') v v1) u v1 := by
  obtain ⟨sv, x, f⟩ := u
  obtain ⟨rv, K, S, V, Q, E⟩ := v
  have I : ob_R sv x f rv K S V Q E := I
  unfold wpX_save wpY_save
  dsimp only
  by_cases h0 : v1 < 0
  · exact ow_way0 (Or.inl h0) (br_t rfl (br_t h0 ⟨rfl, I⟩))
  by_cases h2 : 2 < v1
  · exact ow_way0 (Or.inr h2) (br_t rfl (br_f h0 (br_f (Int32.not_le.mpr h2) ⟨rfl, I⟩)))
  have g2 : v1 ≤ 2 := Int32.not_lt.mp h2
  refine ow_way1 h0 h2 (br_f oa_10 ?_)
  obtain ⟨r, r5, e1, e2, hl, hf⟩ := id I
  subst e1 e2
  by_cases z : v1 = 0
  · refine br_t z ?_
    by_cases n5 : r < 5
    · refine br_t (nI_lt (b := 5) n5 (by omega)) ?_
      unfold wX_save_24 wX_save_36
      refine br_t z (ow_write n5 (nm_r (nI_1 r) ?_))
      refine br_f h0 (br_t g2 (br_t z (br_f ?_ ?_)))
      · exact fun q => absurd ((nI_eq (b := 5) (by omega) (by omega)).mp q) (by omega)
      · unfold wY_save_26 wY_save_41
        rw [nI_1]
        refine br_t z (ow_copy (g := 0) (by omega) (by omega) (by omega) fun K' S' V' Q' E' hc => ?_)
        exact ⟨rfl, ob_save n5 hl hf (fun w hw => ow_in0 hw) (fun j hj => ow_out (Or.inl hj)) hc⟩
    · have e5 : r = 5 := by omega
      subst e5
      exact br_f (nI_nlt (b := 5) (by omega) (by omega)) (br_f h0 (br_t g2 (br_t z (br_t rfl ⟨rfl, I⟩))))
  · refine br_f z ?_
    unfold wX_save_24 wX_save_36
    refine br_f z (ow_write (r := 0) (by omega) (nm_r (nI_1 0) ?_))
    refine br_f h0 (br_t g2 (br_f z ?_))
    unfold wY_save_26 wY_save_41
    refine br_f z (ow_copy (g := 0) (t := 0 + 1) (by omega) (by omega) (by omega) fun K' S' V' Q' E' hc => ?_)
    exact ⟨rfl, ob_save (r := 0) (f := f) (by omega) hl (fun q hq => absurd hq (by omega)) (fun w hw => ow_in0 hw) (fun j hj => ow_out (Or.inl hj)) hc⟩
theorem ow_kinds {sv rv : Int32} {x f K S V Q E : Nat → Int32} (I : ob_R sv x f rv K S V Q E) : ∀ m, m < 8 → x (m * 20) = K (m + 1) := fun _ hm => (og_kind I hm).symm
theorem i_vc_open {k : Nat} {u : SX} {v : SY} (I : i_Rel k u v) (hk : k + 4 ≤ 2048) (v1 : Int32) : wpX_open (fun r u' => wpY_open (fun r' v' => r' = r ∧ i_Rel (k + 4) u' v') v v1) u v1 := by
  obtain ⟨sv, x, f⟩ := u
  obtain ⟨rv, K, S, V, Q, E⟩ := v
  have I : ob_R sv x f rv K S V Q E := I
  unfold wpX_open wpY_open
  dsimp only
  by_cases h0 : v1 < 0
  · exact br_t h0 (br_t h0 ⟨rfl, I⟩)
  obtain ⟨r, r5, e1, e2, hl, hf⟩ := id I
  subst e1 e2
  by_cases hr : v1 < nI r
  · obtain ⟨q, hq, rfl⟩ := nI_of h0
    have qr : q < r := (nI_ltI hq (by omega)).mp hr
    refine br_f h0 (br_t hr (ow_read (by omega) ?_))
    dsimp only
    have hx : ∀ w, w < 160 → ow_c x f 0 (q * 160) 160 w = f (q * 160 + w) := fun w hw => by
      have := ow_in (d := x) (s := f) (t := 0) (a := q * 160) hw
      rw [Nat.zero_add] at this
      exact this
    have hk : ∀ m, m < 8 → ow_c x f 0 (q * 160) 160 (m * 20) = (fun s => K (9 * (q + 1) + s)) (m + 1) := fun m hm => by
      obtain ⟨c, n, ⟨h1, _, h3, _⟩, _⟩ := hf q qr m hm
      rw [hx _ (by omega), h1]
      exact h3.symm
    refine ow_countX (K := fun s => K (9 * (q + 1) + s)) hk ?_
    refine br_f h0 (br_t hr ?_)
    rw [nI_1]
    refine ow_copy (t := 0) (by omega) (by omega) (by omega) fun K' S' V' Q' E' hc => ow_countY ?_
    have R := ob_open r5 qr hf hx hc
    refine ⟨?_, R⟩
    have ct : ∀ m, m ≤ 8 → ob_ct K' m = ob_ct (fun s => K (9 * (q + 1) + s)) m := by
      intro m
      induction m with
      | zero => exact fun _ => rfl
      | succ m ih =>
        intro hm
        have a := (hc.1 (m + 1) (by omega)).1
        rw [Nat.mul_zero, Nat.zero_add] at a
        show (if K' (m + 1) = 0 then ob_ct K' m else ob_ct K' m + 1) = (if K (9 * (q + 1) + (m + 1)) = 0 then ob_ct (fun s => K (9 * (q + 1) + s)) m else ob_ct (fun s => K (9 * (q + 1) + s)) m + 1)
        rw [a, ih (by omega)]
    exact ct 8 (by omega)
  · exact br_f h0 (br_f hr (br_f h0 (br_f hr ⟨rfl, I⟩)))
theorem ow_clearX {sv : Int32} {x f : Nat → Int32} {post : SX → Prop} (h : post (sv, ob_sx (fun _ => true) x 8, f)) : wpX_clearObjects post (sv, x, f) := by
  have l : ∀ d j, j + d = 8 → wX_clearObjects_2 post (d + 1) (nI (j + 1)) sv (ob_sx (fun _ => true) x j) f := by
    intro d
    induction d with
    | zero =>
      intro j hj
      have e : j = 8 := by omega
      subst e
      exact br_t (nI_lt (a := 8) (by omega) (by omega)) h
    | succ d ih =>
      intro j hj
      exact br_f (oa_ngt8 (by omega)) (od_renew (by omega) (nm_r (nI_1 (j + 1)) (ih (j + 1) (by omega))))
  exact ⟨8 + 1, l 8 0 (by omega)⟩
theorem ow_clearY {K S V Q E : Nat → Int32} {post : Int32 → SY → Prop} (h : post 0 (0, ob_sk (fun _ => true) K 8, ob_sk (fun _ => true) S 8, V, Q, E)) : ∃ n29 : Nat, wY_breakOff_29 post n29 1 0 K S V Q E := by
  have l : ∀ d j, j + d = 8 → wY_breakOff_29 post (d + 1) (nI (j + 1)) 0 (ob_sk (fun _ => true) K j) (ob_sk (fun _ => true) S j) V Q E := by
    intro d
    induction d with
    | zero =>
      intro j hj
      have e : j = 8 := by omega
      subst e
      exact br_t rfl (br_t (nI_le (a := 9) (by omega) (by omega)) h)
    | succ d ih =>
      intro j hj
      exact br_t rfl (br_f (nI_ge (b := 9) (by omega) (by omega)) (oe_become0 (by omega) oa_01 oa_05 (nm_r (nI_1 (j + 1)) (ih (j + 1) (by omega)))))
  exact ⟨8 + 1, l 8 0 (by omega)⟩
theorem i_vc_breakOff {k : Nat} {u : SX} {v : SY} (I : i_Rel k u v) (hk : k + 4 ≤ 2048) (v1 : Int32) (v2 : Int32) : wpX_breakOff (fun r u' => wpY_breakOff (fun r' v' => r' = r ∧ i_Rel (k + 4) u' v') v v1 v2) u v1 v2 := by
  obtain ⟨sv, x, f⟩ := u
  obtain ⟨rv, K, S, V, Q, E⟩ := v
  have I : ob_R sv x f rv K S V Q E := I
  unfold wpX_breakOff wpY_breakOff
  dsimp only
  by_cases h0 : v1 < 0
  · exact ow_way0 (Or.inl h0) (br_t rfl (br_t h0 ⟨rfl, I⟩))
  by_cases h2 : 2 < v1
  · exact ow_way0 (Or.inr h2) (br_t rfl (br_f h0 (br_f (Int32.not_le.mpr h2) ⟨rfl, I⟩)))
  have g2 : v1 ≤ 2 := Int32.not_lt.mp h2
  refine ow_way1 h0 h2 (br_f oa_10 ?_)
  obtain ⟨r, r5, e1, e2, hl, hf⟩ := id I
  subst e1 e2
  by_cases z : r = 0
  · subst z
    have g : nI 0 ≤ 0 := nI_le (b := 0) (by omega) (by omega)
    exact br_t g (ow_clearX (br_f h0 (br_t g2 (br_t g (ow_clearY ⟨rfl, ob_sR (sw := fun _ => true) I 8 (by omega)⟩)))))
  · have g : ¬ nI r ≤ 0 := nI_nle (by omega) (by omega)
    obtain ⟨q, rfl⟩ : ∃ q, r = q + 1 := ⟨r - 1, by omega⟩
    refine br_f g ?_
    rw [nI_pred]
    refine ow_read (by omega) (br_f h0 (br_t g2 (br_f g (ow_copy (t := 0) (by omega) (by omega) (by omega) fun K' S' V' Q' E' hc => ⟨1, br_f (nI_ne0 (by omega) (by omega)) ⟨rfl, ?_⟩⟩))))
    exact ob_open r5 (by omega) hf (fun w hw => by
      have := ow_in (d := x) (s := f) (t := 0) (a := q * 160) hw
      rw [Nat.zero_add] at this
      exact this) hc

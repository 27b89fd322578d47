/-! sweep: the component's set -/
section OS
variable {sv rv : Int32} {x f K S V Q E : Nat → Int32}
theorem os_in1 {post : Int32 → Prop} {s : Int32} {o : Nat} (ho : o < 31) (hb : bt s o = true) (h : post 1) : wpX_isIn post s (nI o) := br_t ((oa_bit ho).mpr hb) h
theorem os_in0 {post : Int32 → Prop} {s : Int32} {o : Nat} (ho : o < 31) (hb : ¬ bt s o = true) (h : post 0) : wpX_isIn post s (nI o) := br_f (fun z => hb ((oa_bit ho).mp z)) h
theorem os_or {s r : Int32} {t : Nat} : bt (s ||| r) t = true ↔ bt s t = true ∨ bt r t = true := by
  rw [b_or, Bool.or_eq_true]
theorem os_or1 {s : Int32} {t b : Nat} (ht : t < 32) (hb : b < 32) : bt (s ||| ((1 : Int32) <<< (nI b &&& 31))) t = true ↔ bt s t = true ∨ t = b := by
  rw [os_or, oa_one hb ht, decide_eq_true_eq]
theorem os_lf {post : Int32 → Prop} {m : Nat} (I : ob_R sv x f rv K S V Q E) (hm : m < 8) (h : ∀ s : Int32, (∀ t, t < 8 → (bt s (t + 1) = true ↔ ob_Ed S V Q m t)) → post s) : wpX_linkedFrom post (sv, x, f) (nI (m + 1)) := by
  obtain ⟨c, n, ⟨h1, h2, h3, hs, h6, _⟩, hz, _⟩ := ob_at I hm
  have z2 := hz.2.1
  have l : ∀ d i (s : Int32), i + d = n → (∀ t, t < 8 → (bt s (t + 1) = true ↔ ∃ j, j < i ∧ Q (6 * (m + 1) + j) = 2 ∧ V (6 * (m + 1) + j) = nI (t + 1))) → wX_linkedFrom_11 post (nI (m + 1)) (nI n) sv x f (d + 1) s (nI i) := by
    intro d
    induction d with
    | zero =>
      intro i s hi hb
      have e : i = n := by omega
      subst e
      refine br_t (nI_le (by omega) (by omega)) (h s fun t ht => (hb t ht).trans ⟨fun ⟨j, a, b, c⟩ => ⟨j, by omega, by rw [hs]; exact nI_lt a (by omega), b, c⟩, fun ⟨j, a, b, c, d⟩ => ⟨j, ?_, c, d⟩⟩)
      rw [hs] at b
      exact (nI_ltI (by omega) (by omega)).mp b
    | succ d ih =>
      intro i s hi hb
      obtain ⟨e1, e2, _, e4⟩ := h6 i (by omega) (by omega)
      refine br_f (nI_ge (by omega) (by omega)) (od_vkE hm (by omega) e2 ?_)
      by_cases hq : Q (6 * (m + 1) + i) = 2
      · obtain ⟨t', ht', et⟩ := e4 hq
        refine br_t hq (od_valE hm (by omega) (e1.trans et) (nm_e (nm_r (nI_1 i) (ih (i + 1) _ (by omega) fun t ht => ?_))))
        rw [os_or1 (by omega) (by omega), hb t ht]
        constructor
        · rintro (⟨j, a, b, c⟩ | e)
          · exact ⟨j, by omega, b, c⟩
          · exact ⟨i, by omega, hq, by rw [et, e]⟩
        · rintro ⟨j, a, b, c⟩
          by_cases q : j = i
          · right
            rw [q, et] at c
            exact ((nI_eq (by omega) (by omega)).mp c).symm
          · exact Or.inl ⟨j, by omega, b, c⟩
      · refine br_f hq (nm_r (nI_1 i) (ih (i + 1) _ (by omega) fun t ht => (hb t ht).trans ⟨fun ⟨j, a, b, c⟩ => ⟨j, by omega, b, c⟩, fun ⟨j, a, b, c⟩ => ⟨j, ?_, b, c⟩⟩))
        have : j ≠ i := fun q => hq (by rw [← q]; exact b)
        omega
  unfold wpX_linkedFrom
  dsimp only
  refine od_sizeE hm h2 ⟨n + 1, l n 0 0 (by omega) fun t ht => ?_⟩
  rw [b_0]
  exact ⟨fun z => absurd z (by decide), fun ⟨j, a, _⟩ => absurd a (by omega)⟩
theorem os_Xi {post : Int32 → Prop} {J : Int32 → Int32 → Prop} {rd : Nat} {s0 : Int32} {G : Nat → Prop} (I : ob_R sv x f rv K S V Q E) (hG : ∀ a b, a < 8 → b < 8 → G a → ob_Ed S V Q a b → G b) (g0 : ∀ t, t < 8 → bt s0 (t + 1) = true → G t)
    (h : ∀ s : Int32, (∀ t, t < 8 → bt s (t + 1) = true → G t) → (∀ t, t < 8 → bt s0 (t + 1) = true → bt s (t + 1) = true) → (∀ a b, a < 8 → b < 8 → bt s0 (a + 1) = true → ob_Ed S V Q a b → bt s (b + 1) = true) → J s (nI (rd + 1))) :
    ∃ n12 : Nat, wX_reachedFromFirst_12 post J (nI rd) sv x f n12 s0 1 := by
  have l : ∀ d j (s : Int32), j + d = 8 → (∀ t, t < 8 → bt s (t + 1) = true → G t) → (∀ t, t < 8 → bt s0 (t + 1) = true → bt s (t + 1) = true) → (∀ a b, a < j → b < 8 → bt s0 (a + 1) = true → ob_Ed S V Q a b → bt s (b + 1) = true) → wX_reachedFromFirst_12 post J (nI rd) sv x f (d + 1) s (nI (j + 1)) := by
    intro d
    induction d with
    | zero =>
      intro j s hj a b c
      have e : j = 8 := by omega
      subst e
      exact br_t (nI_lt (a := 8) (by omega) (by omega)) (nm_r (nI_1 rd) (h s a b c))
    | succ d ih =>
      intro j s hj a b c
      refine br_f (oa_ngt8 (by omega)) ?_
      by_cases hb : bt s (j + 1) = true
      · refine os_in1 (by omega) hb (br_f oa_10 (os_lf I (by omega) fun r hr => nm_e (nm_r (nI_1 (j + 1)) (ih (j + 1) _ (by omega) ?_ ?_ ?_))))
        · intro t ht z
          rcases os_or.mp z with z | z
          · exact a t ht z
          · exact hG j t (by omega) ht (a j (by omega) hb) ((hr t ht).mp z)
        · intro t ht z
          exact os_or.mpr (Or.inl (b t ht z))
        · intro a' b' ha hb' z e
          by_cases q : a' = j
          · subst q
            exact os_or.mpr (Or.inr ((hr b' hb').mpr e))
          · exact os_or.mpr (Or.inl (c a' b' (by omega) hb' z e))
      · refine os_in0 (by omega) hb (br_t rfl (nm_r (nI_1 (j + 1)) (ih (j + 1) s (by omega) a b ?_)))
        intro a' b' ha hb' z e
        by_cases q : a' = j
        · subst q
          exact absurd (b a' (by omega) z) hb
        · exact c a' b' (by omega) hb' z e
  exact ⟨8 + 1, l 8 0 s0 (by omega) g0 (fun t ht z => z) (fun a b ha => absurd ha (by omega))⟩
theorem os_reach {post : Int32 → Prop} (I : ob_R sv x f rv K S V Q E) (h : ∀ s : Int32, (∀ t, t < 8 → (bt s (t + 1) = true ↔ oc_Re (ob_Ed S V Q) t)) → post s) : wpX_reachedFromFirst post (sv, x, f) := by
  have l : ∀ d rd (s : Int32), rd + 1 + d = 8 → (∀ t, t < 8 → bt s (t + 1) = true → oc_Re (ob_Ed S V Q) t) → bt s 1 = true → ((∀ t, t < 8 → oc_Re (ob_Ed S V Q) t → bt s (t + 1) = true) ∨ rd + 1 ≤ oc_cd (fun t => bt s (t + 1)) 8) → wX_reachedFromFirst_4 post sv x f (d + 1) s (nI (rd + 1)) := by
    intro d
    induction d with
    | zero =>
      intro rd s hd a b c
      refine br_t (nI_le (a := 8) (by omega) (by omega)) (h s fun t ht => ⟨a t ht, ?_⟩)
      refine oc_end (E := ob_Ed S V Q) (q := fun t => bt s (t + 1)) ?_ t ht
      rcases c with c | c
      · exact Or.inl c
      · exact Or.inr (by omega)
    | succ d ih =>
      intro rd s hd a b c
      refine br_f (nI_ge (b := 8) (by omega) (by omega)) (os_Xi I (fun a b ha hb => oc_ReS ha hb) a fun s' a' m' c' => ih (rd + 1) s' (by omega) a' (m' 0 (by omega) b) ?_)
      exact oc_round (E := ob_Ed S V Q) (p := fun t => bt s (t + 1)) (q := fun t => bt s' (t + 1)) b m' c' c
  refine ⟨7 + 1, l 7 0 2 (by omega) (fun t ht z => ?_) (by decide) (Or.inr (oc_cd1 8 ⟨0, by omega, by decide⟩))⟩
  rw [oa_two _ (by omega), decide_eq_true_eq] at z
  have : t = 0 := by omega
  subst this
  exact oc_Re0
/-! sweep: the reference's set -/
theorem os_il {post : Int32 → Prop} {m b : Nat} (I : ob_R sv x f rv K S V Q E) (hm : m < 8) (h1 : ob_Ed S V Q m b → post 1) (h0 : ¬ ob_Ed S V Q m b → post 0) : wpY_isLinked post (rv, K, S, V, Q, E) (nI (m + 1)) (nI (b + 1)) := by
  obtain ⟨c, n, ⟨_, h2, h3, hs, h6, _⟩, hz, _⟩ := ob_at I hm
  have z2 := hz.2.1
  have i0 : vp_in (nI (m + 1)) 54 := vp_in_nI (by omega) (by omega)
  have l : ∀ d i, i + d = n → (∀ j, j < i → ¬ (Q (6 * (m + 1) + j) = 2 ∧ V (6 * (m + 1) + j) = nI (b + 1))) → wY_isLinked_2 post (nI (m + 1)) (nI (b + 1)) rv K S V Q E (d + 1) (nI i) := by
    intro d
    induction d with
    | zero =>
      intro i hi ha
      have e : i = n := by omega
      subst e
      refine And.intro i0 ?_
      rw [nI_clamp (by omega), hs]
      refine br_t (nI_le (by omega) (by omega)) (h0 fun ⟨j, a, c, d, e⟩ => ha j ?_ ⟨d, e⟩)
      rw [hs] at c
      exact (nI_ltI (by omega) (by omega)).mp c
    | succ d ih =>
      intro i hi ha
      have i1 : vp_in (nI (6 * (m + 1) + i)) 324 := vp_in_nI (by omega) (by omega)
      refine And.intro i0 ?_
      rw [nI_clamp (by omega), hs, oa_6, nI_add, nI_clamp (by omega)]
      refine br_f (nI_ge (by omega) (by omega)) ⟨i1, ?_⟩
      have go : ¬ (Q (6 * (m + 1) + i) = 2 ∧ V (6 * (m + 1) + i) = nI (b + 1)) → wY_isLinked_2 post (nI (m + 1)) (nI (b + 1)) rv K S V Q E (d + 1) (nI (i + 1)) := fun z => ih (i + 1) (by omega) fun j hj => by
        by_cases q : j = i
        · rw [q]; exact z
        · exact ha j (by omega)
      by_cases hq : Q (6 * (m + 1) + i) = 2
      · refine br_t hq ⟨i1, ?_⟩
        by_cases hv : V (6 * (m + 1) + i) = nI (b + 1)
        · exact br_t hv (h1 ⟨i, by omega, by rw [hs]; exact nI_lt (by omega) (by omega), hq, hv⟩)
        · exact br_f hv (nm_r (nI_1 i) (go fun z => hv z.2))
      · exact br_f hq (nm_r (nI_1 i) (go fun z => hq z.1))
  exact ⟨n + 1, l n 0 (by omega) (fun j hj => absurd hj (by omega))⟩
theorem os_90 : ¬ (9 : Int32) = 0 := by decide
theorem os_Yi {post : Int32 → SY → Prop} {J : Int32 → Int32 → Prop} {rd : Nat} {s0 : Int32} {G : Nat → Prop} (I : ob_R sv x f rv K S V Q E) (hG : ∀ a b, a < 8 → b < 8 → G a → ob_Ed S V Q a b → G b) (g0 : ∀ t, t < 8 → bt s0 (t + 1) = true → G t) (z0 : bt s0 0 = false)
    (h : ∀ s : Int32, bt s 0 = false → (∀ t, t < 8 → bt s (t + 1) = true → G t) → (∀ t, t < 8 → bt s0 (t + 1) = true → bt s (t + 1) = true) → (∀ a b, a < 8 → b < 8 → bt s0 (a + 1) = true → ob_Ed S V Q a b → bt s (b + 1) = true) → J s (nI (rd + 1))) :
    ∃ n25 : Nat, wY_sweep_25 post J (nI rd) rv K S V Q E n25 s0 0 := by
  have l : ∀ d p (s : Int32), p + d = 81 → bt s 0 = false → (∀ t, t < 8 → bt s (t + 1) = true → G t) → (∀ t, t < 8 → bt s0 (t + 1) = true → bt s (t + 1) = true) → (∀ a b, a < 8 → b < 8 → 9 * (a + 1) + (b + 1) < p → bt s0 (a + 1) = true → ob_Ed S V Q a b → bt s (b + 1) = true) → wY_sweep_25 post J (nI rd) rv K S V Q E (d + 1) s (nI p) := by
    intro d
    induction d with
    | zero =>
      intro p s hp z a b c
      have e : p = 81 := by omega
      subst e
      exact br_t (nI_le (a := 81) (by omega) (by omega)) (nm_r (nI_1 rd) (h s z a b fun a' b' ha hb => c a' b' ha hb (by omega)))
    | succ d ih =>
      intro p s hp z a b c
      have ed : nI p / 9 = nI (p / 9) := pk_div (d := 9) (by omega) (by omega) (by omega)
      have er : nI p - nI p / 9 * 9 = nI (p % 9) := pk_rem (d := 9) (by omega) (by omega) (by omega)
      refine br_f (nI_ge (b := 81) (by omega) (by omega)) ⟨os_90, nm_r ed ⟨os_90, nm_r er ?_⟩⟩
      by_cases t0 : p % 9 = 0
      · refine br_t (by rw [t0]; exact nI_le (b := 0) (by omega) (by omega)) (nm_r (nI_1 p) (ih (p + 1) s (by omega) z a b fun a' b' ha hb hlt => c a' b' ha hb (by omega)))
      obtain ⟨b', hb', eb⟩ : ∃ b', b' < 8 ∧ p % 9 = b' + 1 := ⟨p % 9 - 1, by omega, by omega⟩
      refine br_f (nI_nle (by omega) (by omega)) ?_
      rw [eb]
      by_cases o0 : p / 9 = 0
      · rw [o0]
        refine br_f (fun q => ?_) (nm_r (nI_1 p) (ih (p + 1) s (by omega) z a b fun a' b' ha hb hlt => c a' b' ha hb (by omega)))
        have := (oa_bit (by omega)).mp q
        rw [z] at this
        exact absurd this (by decide)
      obtain ⟨a', ha', ea⟩ : ∃ a', a' < 8 ∧ p / 9 = a' + 1 := ⟨p / 9 - 1, by omega, by omega⟩
      rw [ea]
      have hp' : p = 9 * (a' + 1) + (b' + 1) := by omega
      by_cases hb : bt s (a' + 1) = true
      · refine br_t ((oa_bit (by omega)).mpr hb) (os_il I ha' (fun e => br_f oa_10 (nm_e (nm_r (nI_1 p) (ih (p + 1) _ (by omega) ?_ ?_ ?_ ?_)))) (fun e => br_t rfl (nm_r (nI_1 p) (ih (p + 1) s (by omega) z a b ?_))))
        · rw [b_or, z, oa_one (by omega) (by omega), decide_eq_false (by omega)]; rfl
        · intro t ht q
          rcases (os_or1 (by omega) (by omega)).mp q with q | q
          · exact a t ht q
          · have : t = b' := by omega
            subst this
            exact hG a' t ha' ht (a a' ha' hb) e
        · intro t ht q
          exact (os_or1 (by omega) (by omega)).mpr (Or.inl (b t ht q))
        · intro a2 b2 ha2 hb2 hlt q e2
          by_cases same : b2 = b'
          · exact (os_or1 (by omega) (by omega)).mpr (Or.inr (by omega))
          · exact (os_or1 (by omega) (by omega)).mpr (Or.inl (c a2 b2 ha2 hb2 (by omega) q e2))
        · intro a2 b2 ha2 hb2 hlt q e2
          by_cases same : a2 = a' ∧ b2 = b'
          · rw [same.1, same.2] at e2
            exact absurd e2 e
          · exact c a2 b2 ha2 hb2 (by omega) q e2
      · refine br_f (fun q => hb ((oa_bit (by omega)).mp q)) (nm_r (nI_1 p) (ih (p + 1) s (by omega) z a b ?_))
        intro a2 b2 ha2 hb2 hlt q e2
        by_cases same : a2 = a'
        · rw [same] at q
          exact absurd (b a' ha' q) hb
        · exact c a2 b2 ha2 hb2 (by omega) q e2
  have l0 := l 81 0 s0 (by omega) z0 g0 (fun t ht z => z) (fun a b _ _ hlt => absurd hlt (by omega))
  rw [nI_0] at l0
  exact ⟨81 + 1, l0⟩
theorem os_Y {post : Int32 → SY → Prop} (I : ob_R sv x f rv K S V Q E) (h : ∀ s : Int32, (∀ t, t < 8 → (bt s (t + 1) = true ↔ ¬ K 1 = 0 ∧ oc_Re (ob_Ed S V Q) t)) → ∃ n92 : Nat, wY_sweep_92 post s n92 0 1 rv K S V Q E) : wpY_sweep post (rv, K, S, V, Q, E) := by
  have l : ∀ d rd (s : Int32), rd + d = 8 → bt s 0 = false → (∀ t, t < 8 → bt s (t + 1) = true → ¬ K 1 = 0 ∧ oc_Re (ob_Ed S V Q) t) → (¬ K 1 = 0 → bt s 1 = true ∧ ((∀ t, t < 8 → oc_Re (ob_Ed S V Q) t → bt s (t + 1) = true) ∨ rd + 1 ≤ oc_cd (fun t => bt s (t + 1)) 8)) → wY_sweep_17 post rv K S V Q E (d + 1) s (nI rd) := by
    intro d
    induction d with
    | zero =>
      intro rd s hd z a c
      refine br_t (nI_le (a := 8) (by omega) (by omega)) (h s fun t ht => ⟨a t ht, fun ⟨k1, q⟩ => ?_⟩)
      refine oc_end (E := ob_Ed S V Q) (q := fun t => bt s (t + 1)) ?_ t ht q
      rcases (c k1).2 with c | c
      · exact Or.inl c
      · exact Or.inr (by omega)
    | succ d ih =>
      intro rd s hd z a c
      refine br_f (nI_ge (b := 8) (by omega) (by omega)) (os_Yi (G := fun t => ¬ K 1 = 0 ∧ oc_Re (ob_Ed S V Q) t) I (fun a b ha hb g e => ⟨g.1, oc_ReS ha hb g.2 e⟩) a z fun s' z' a' m' c' => ih (rd + 1) s' (by omega) z' a' fun k1 => ⟨m' 0 (by omega) (c k1).1, ?_⟩)
      exact oc_round (E := ob_Ed S V Q) (p := fun t => bt s (t + 1)) (q := fun t => bt s' (t + 1)) (c k1).1 m' c' (c k1).2
  unfold wpY_sweep
  dsimp only
  by_cases k1 : K 1 = 0
  · refine br_t k1 ⟨8 + 1, l 8 0 0 (by omega) (b_0 0) (fun t ht z => ?_) (fun z => absurd k1 z)⟩
    rw [b_0] at z
    exact absurd z (by decide)
  · refine br_f k1 ⟨8 + 1, l 8 0 2 (by omega) (by decide) (fun t ht z => ?_) (fun _ => ⟨by decide, Or.inr (oc_cd1 8 ⟨0, by omega, by decide⟩)⟩)⟩
    rw [oa_two _ (by omega), decide_eq_true_eq] at z
    have : t = 0 := by omega
    subst this
    exact ⟨k1, oc_Re0⟩
/-! sweep: what is not reached goes -/
theorem os_Xs {post : Int32 → SX → Prop} {s : Int32} {sw : Nat → Bool} (hx : ∀ m, m < 8 → x (m * 20) = K (m + 1)) (hw : ∀ m, m < 8 → (sw m = true ↔ ¬ K (m + 1) = 0 ∧ ¬ bt s (m + 1) = true)) (h : post (ob_sn sw 8) (sv, ob_sx sw x 8, f)) : ∃ n9 : Nat, wX_sweep_9 post s n9 0 1 sv x f := by
  have l : ∀ d j, j + d = 8 → wX_sweep_9 post s (d + 1) (ob_sn sw j) (nI (j + 1)) sv (ob_sx sw x j) f := by
    intro d
    induction d with
    | zero =>
      intro j hj
      have e : j = 8 := by omega
      subst e
      exact br_t (nI_lt (a := 8) (by omega) (by omega)) h
    | succ d ih =>
      intro j hj
      have ih := ih (j + 1) (by omega)
      have ek : ob_sx sw x j (j * 20) = K (j + 1) := (ob_sx_o j (j * 20) (by omega)).trans (hx j (by omega))
      refine br_f (oa_ngt8 (by omega)) ?_
      by_cases hb : bt s (j + 1) = true
      · have ns : ¬ sw j = true := fun z => ((hw j (by omega)).mp z).2 hb
        rw [ob_sn_f ns, ob_sx_f ns] at ih
        exact os_in1 (by omega) hb (br_f oa_10 (nm_r (nI_1 (j + 1)) ih))
      · refine os_in0 (by omega) hb (br_t rfl (od_kindE (by omega) ek ?_))
        by_cases k0 : K (j + 1) = 0
        · have ns : ¬ sw j = true := fun z => ((hw j (by omega)).mp z).1 k0
          rw [ob_sn_f ns, ob_sx_f ns] at ih
          exact br_t k0 (nm_r (nI_1 (j + 1)) ih)
        · have ys : sw j = true := (hw j (by omega)).mpr ⟨k0, hb⟩
          rw [ob_sn_t ys, ob_sx_t ys] at ih
          exact br_f k0 (od_renew (by omega) (nm_e (nm_r (nI_1 (j + 1)) ih)))
  exact ⟨8 + 1, l 8 0 (by omega)⟩
theorem os_Ys {post : Int32 → SY → Prop} {s : Int32} {sw : Nat → Bool} (hw : ∀ m, m < 8 → (sw m = true ↔ ¬ K (m + 1) = 0 ∧ ¬ bt s (m + 1) = true)) (h : post (ob_sn sw 8) (rv, ob_sk sw K 8, ob_sk sw S 8, V, Q, E)) : ∃ n92 : Nat, wY_sweep_92 post s n92 0 1 rv K S V Q E := by
  have l : ∀ d j, j + d = 8 → wY_sweep_92 post s (d + 1) (ob_sn sw j) (nI (j + 1)) rv (ob_sk sw K j) (ob_sk sw S j) V Q E := by
    intro d
    induction d with
    | zero =>
      intro j hj
      have e : j = 8 := by omega
      subst e
      exact br_t (nI_le (a := 9) (by omega) (by omega)) h
    | succ d ih =>
      intro j hj
      have ih := ih (j + 1) (by omega)
      have ek : ob_sk sw K j (j + 1) = K (j + 1) := ob_sk_o j (j + 1) (by omega)
      refine br_f (nI_ge (b := 9) (by omega) (by omega)) ?_
      rw [nI_clamp (by omega), ek]
      refine ⟨vp_in_nI (by omega) (by omega), ?_⟩
      by_cases k0 : K (j + 1) = 0
      · have ns : ¬ sw j = true := fun z => ((hw j (by omega)).mp z).1 k0
        rw [ob_sn_f ns, ob_sk_f ns, ob_sk_f ns] at ih
        exact br_t k0 (nm_r (nI_1 (j + 1)) ih)
      refine br_f k0 ?_
      by_cases hb : bt s (j + 1) = true
      · have ns : ¬ sw j = true := fun z => ((hw j (by omega)).mp z).2 hb
        rw [ob_sn_f ns, ob_sk_f ns, ob_sk_f ns] at ih
        refine br_f (fun z => ?_) (nm_r (nI_1 (j + 1)) ih)
        have := (oa_bit0 (by omega)).mp z
        rw [hb] at this
        exact absurd this (by decide)
      · have ys : sw j = true := (hw j (by omega)).mpr ⟨k0, hb⟩
        rw [ob_sn_t ys, ob_sk_t ys, ob_sk_t ys] at ih
        exact br_t ((oa_bit0 (by omega)).mpr (Bool.eq_false_iff.mpr hb)) (oe_become0 (by omega) oa_01 oa_05 (nm_e (nm_r (nI_1 (j + 1)) ih)))
  exact ⟨8 + 1, l 8 0 (by omega)⟩
end OS
theorem os_noedge {sv rv : Int32} {x f K S V Q E : Nat → Int32} (I : ob_R sv x f rv K S V Q E) (k1 : K 1 = 0) {t : Nat} (h : oc_Re (ob_Ed S V Q) t) : t = 0 := by
  refine h (fun t => t = 0) rfl fun a b ha hb za e => ?_
  have za : a = 0 := za
  subst za
  obtain ⟨c, n, ⟨_, _, h3, hs, _⟩, hz, _⟩ := ob_at I (m := 0) (by omega)
  have z1 := hz.1
  have c0 : c = 0 := (nI_eq (b := 0) (by omega) (by omega)).mp (h3.symm.trans (k1.trans nI_0.symm))
  have n0 := hz.2.2.1 c0
  obtain ⟨i, hi, hlt, _⟩ := e
  rw [hs] at hlt
  have := (nI_ltI (by omega) (by omega)).mp hlt
  omega
theorem i_vc_sweep {k : Nat} {u : SX} {v : SY} (I : i_Rel k u v) (hk : k + 4 ≤ 2048) : wpX_sweep (fun r u' => wpY_sweep (fun r' v' => r' = r ∧ i_Rel (k + 4) u' v') v) u := by
  obtain ⟨sv, x, f⟩ := u
  obtain ⟨rv, K, S, V, Q, E⟩ := v
  have I : ob_R sv x f rv K S V Q E := I
  unfold wpX_sweep
  dsimp only
  refine os_reach I fun s hs => ?_
  have hw : ∀ m, m < 8 → (decide (¬ K (m + 1) = 0 ∧ ¬ bt s (m + 1) = true) = true ↔ ¬ K (m + 1) = 0 ∧ ¬ bt s (m + 1) = true) := fun m _ => decide_eq_true_iff
  refine os_Xs (sw := fun m => decide (¬ K (m + 1) = 0 ∧ ¬ bt s (m + 1) = true)) (ow_kinds I) hw (os_Y I fun s' hs' => os_Ys (sw := fun m => decide (¬ K (m + 1) = 0 ∧ ¬ bt s (m + 1) = true)) (fun m hm => (hw m hm).trans ?_) ⟨rfl, ob_sR (sw := fun m => decide (¬ K (m + 1) = 0 ∧ ¬ bt s (m + 1) = true)) I 8 (by omega)⟩)
  refine and_congr_right fun k0 => not_congr ?_
  rw [hs m hm, hs' m hm]
  refine ⟨fun q => ⟨fun k1 => ?_, q⟩, fun q => q.2⟩
  have := os_noedge I k1 q
  subst this
  exact k0 k1

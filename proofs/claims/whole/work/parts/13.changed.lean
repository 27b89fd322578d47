/-! changed -/
theorem oq_isR {sv : Int32} {x f : Nat → Int32} {post : Int32 → Prop} {q : Nat} (hq : q < 5) (h1 : (∀ w, w < 160 → f (q * 160 + w) = x w) → post 1) (h0 : (∃ w, w < 160 ∧ ¬ f (q * 160 + w) = x w) → post 0) : wpX_isRevision post (sv, x, f) (nI q) := by
  have l : ∀ d i, i + d = 160 → (∀ w, w < i → f (q * 160 + w) = x w) → wX_isRevision_8 post (nI (q * 160)) sv x f (d + 1) (nI i) := by
    intro d
    induction d with
    | zero =>
      intro i hi ha
      have e : i = 160 := by omega
      subst e
      exact br_t (nI_le (a := 160) (by omega) (by omega)) (h1 ha)
    | succ d ih =>
      intro i hi ha
      refine br_f (nI_ge (b := 160) (by omega) (by omega)) ?_
      rw [nI_add, nI_clamp (by omega), nI_clamp (by omega)]
      refine ⟨vp_in_nI (by omega) (by omega), vp_in_nI (by omega) (by omega), ?_⟩
      by_cases e : f (q * 160 + i) = x i
      · refine br_t e (nm_r (nI_1 i) (ih (i + 1) (by omega) fun w hw => ?_))
        by_cases z : w = i
        · rw [z]; exact e
        · exact ha w (by omega)
      · exact br_f e (h0 ⟨i, by omega, e⟩)
  unfold wpX_isRevision
  dsimp only
  exact nm_r (oa_m160 q) ⟨160 + 1, l 160 0 (by omega) (fun w hw => absurd hw (by omega))⟩
def oq_P (K V Q E : Nat → Int32) (s s' i : Nat) : Prop := V (6 * s + i) = V (6 * s' + i) ∧ Q (6 * s + i) = Q (6 * s' + i) ∧ (K s = 4 → E (6 * s + i) = E (6 * s' + i))
theorem oq_dif {rv : Int32} {K S V Q E : Nat → Int32} {post : Int32 → Prop} {m r n : Nat} (hm : m < 8) (hr : r ≤ 5) (hs : S (m + 1) = nI n) (hn : n ≤ 6) (h0 : ob_Eq K S V Q E (m + 1) (9 * r + (m + 1)) n → post 0) (h1 : ¬ ob_Eq K S V Q E (m + 1) (9 * r + (m + 1)) n → post 1) :
    wpY_differs post (rv, K, S, V, Q, E) (nI (m + 1)) (nI r) := by
  have i0 : vp_in (nI (m + 1)) 54 := vp_in_nI (by omega) (by omega)
  have i1 : vp_in (nI (9 * r + (m + 1))) 54 := vp_in_nI (by omega) (by omega)
  unfold wpY_differs
  dsimp only
  refine nm_r (by rw [oa_9, nI_add]) ?_
  rw [nI_clamp (show m + 1 < 2 ^ 31 by omega), nI_clamp (show 9 * r + (m + 1) < 2 ^ 31 by omega)]
  refine ⟨i0, i1, ?_⟩
  by_cases eK : K (m + 1) = K (9 * r + (m + 1))
  · refine br_t eK ⟨i0, i1, ?_⟩
    by_cases eS : S (m + 1) = S (9 * r + (m + 1))
    · refine br_t eS ?_
      have l : ∀ d i, i + d = n → (∀ j, j < i → oq_P K V Q E (m + 1) (9 * r + (m + 1)) j) → wY_differs_42 post (nI (m + 1)) (nI (9 * r + (m + 1))) rv K S V Q E (d + 1) (nI i) := by
        intro d
        induction d with
        | zero =>
          intro i hi ha
          have e : i = n := by omega
          subst e
          refine And.intro i0 ?_
          rw [nI_clamp (show m + 1 < 2 ^ 31 by omega), hs]
          exact br_t (nI_le (by omega) (by omega)) (h0 ⟨eK, eS, ha⟩)
        | succ d ih =>
          intro i hi ha
          have a1 : vp_in (nI (6 * (m + 1) + i)) 324 := vp_in_nI (by omega) (by omega)
          have a2 : vp_in (nI (6 * (9 * r + (m + 1)) + i)) 324 := vp_in_nI (by omega) (by omega)
          have no : ¬ oq_P K V Q E (m + 1) (9 * r + (m + 1)) i → post 1 := fun z => h1 fun e => z (e.2.2 i (by omega))
          have yes : oq_P K V Q E (m + 1) (9 * r + (m + 1)) i → wY_differs_42 post (nI (m + 1)) (nI (9 * r + (m + 1))) rv K S V Q E (d + 1) (nI (i + 1)) := fun z => ih (i + 1) (by omega) fun j hj => by
            by_cases q : j = i
            · rw [q]; exact z
            · exact ha j (by omega)
          refine And.intro i0 ?_
          rw [nI_clamp (show m + 1 < 2 ^ 31 by omega), hs]
          refine br_f (nI_ge (by omega) (by omega)) (nm_r (by rw [oa_6, nI_add]) (nm_r (by rw [oa_6, nI_add]) ?_))
          rw [nI_clamp (show 6 * (m + 1) + i < 2 ^ 31 by omega), nI_clamp (show 6 * (9 * r + (m + 1)) + i < 2 ^ 31 by omega)]
          refine ⟨a1, a2, ?_⟩
          by_cases eV : V (6 * (m + 1) + i) = V (6 * (9 * r + (m + 1)) + i)
          · refine br_t eV ⟨a1, a2, ?_⟩
            by_cases eQ : Q (6 * (m + 1) + i) = Q (6 * (9 * r + (m + 1)) + i)
            · refine br_t eQ ⟨i0, ?_⟩
              by_cases k4 : K (m + 1) = 4
              · refine br_t k4 ⟨a1, a2, ?_⟩
                by_cases eE : E (6 * (m + 1) + i) = E (6 * (9 * r + (m + 1)) + i)
                · exact br_t eE (nm_r (nI_1 i) (yes ⟨eV, eQ, fun _ => eE⟩))
                · exact br_f eE (no fun z => eE (z.2.2 k4))
              · exact br_f k4 (nm_r (nI_1 i) (yes ⟨eV, eQ, fun z => absurd z k4⟩))
            · exact br_f eQ (no fun z => eQ z.2.1)
          · exact br_f eV (no fun z => eV z.1)
      exact ⟨n + 1, l n 0 (by omega) (fun j hj => absurd hj (by omega))⟩
    · exact br_f eS (h1 fun z => eS z.2.1)
  · exact br_f eK (h1 fun z => eK z.1)
theorem oq_ct {K : Nat → Int32} : ∀ m, m ≤ 8 → ∃ c, c ≤ m ∧ ob_ct K m = nI c ∧ (c = 0 ↔ ∀ j, j < m → K (j + 1) = 0) := by
  intro m
  induction m with
  | zero => exact fun _ => ⟨0, by omega, nI_0.symm, fun _ j hj => absurd hj (by omega), fun _ => rfl⟩
  | succ m ih =>
    intro hm
    obtain ⟨c, hc, e, iff⟩ := ih (by omega)
    by_cases h : K (m + 1) = 0
    · refine ⟨c, by omega, by rw [ob_ct_t h, e], fun z j hj => ?_, fun z => iff.mpr fun j hj => z j (by omega)⟩
      by_cases q : j = m
      · rw [q]; exact h
      · exact iff.mp z j (by omega)
    · refine ⟨c + 1, by omega, by rw [ob_ct_f h, e, nI_1], fun z => absurd z (by omega), fun z => absurd (z m (by omega)) h⟩
/-- the reference without revisions -/
theorem oq_Y0 {K S V Q E : Nat → Int32} {post : Int32 → Prop} (h0 : (∀ j, j < 8 → K (j + 1) = 0) → post 0) (h1 : (∃ j, j < 8 ∧ ¬ K (j + 1) = 0) → post 1) : ∃ n2 : Nat, wY_changed_2 post 0 K S V Q E n2 1 := by
  have l : ∀ d j, j + d = 8 → (∀ i, i < j → K (i + 1) = 0) → wY_changed_2 post 0 K S V Q E (d + 1) (nI (j + 1)) := by
    intro d
    induction d with
    | zero =>
      intro j hj ha
      have e : j = 8 := by omega
      subst e
      exact br_t (nI_le (a := 9) (by omega) (by omega)) (h0 ha)
    | succ d ih =>
      intro j hj ha
      refine br_f (nI_ge (b := 9) (by omega) (by omega)) (br_t rfl ?_)
      rw [nI_clamp (by omega)]
      refine ⟨vp_in_nI (by omega) (by omega), ?_⟩
      by_cases e : K (j + 1) = 0
      · refine br_t e (nm_r (nI_1 (j + 1)) (ih (j + 1) (by omega) fun i hi => ?_))
        by_cases q : i = j
        · rw [q]; exact e
        · exact ha i (by omega)
      · exact br_f e (h1 ⟨j, by omega, e⟩)
  exact ⟨8 + 1, l 8 0 (by omega) (fun i hi => absurd hi (by omega))⟩
theorem oq_Y1 {K S V Q E : Nat → Int32} {post : Int32 → Prop} {r : Nat} {N : Nat → Nat} (hr : r ≤ 5) (r0 : 0 < r) (hN : ∀ m, m < 8 → S (m + 1) = nI (N m) ∧ N m ≤ 6) (h0 : (∀ m, m < 8 → ob_Eq K S V Q E (m + 1) (9 * r + (m + 1)) (N m)) → post 0) (h1 : (∃ m, m < 8 ∧ ¬ ob_Eq K S V Q E (m + 1) (9 * r + (m + 1)) (N m)) → post 1) :
    ∃ n2 : Nat, wY_changed_2 post (nI r) K S V Q E n2 1 := by
  have l : ∀ d j, j + d = 8 → (∀ i, i < j → ob_Eq K S V Q E (i + 1) (9 * r + (i + 1)) (N i)) → wY_changed_2 post (nI r) K S V Q E (d + 1) (nI (j + 1)) := by
    intro d
    induction d with
    | zero =>
      intro j hj ha
      have e : j = 8 := by omega
      subst e
      exact br_t (nI_le (a := 9) (by omega) (by omega)) (h0 ha)
    | succ d ih =>
      intro j hj ha
      refine br_f (nI_ge (b := 9) (by omega) (by omega)) (br_f (nI_ne0 r0 (by omega)) ?_)
      obtain ⟨e1, e2⟩ := hN j (by omega)
      refine oq_dif (by omega) hr e1 e2 (fun e => br_t rfl (nm_r (nI_1 (j + 1)) (ih (j + 1) (by omega) fun i hi => ?_))) (fun e => br_f oa_10 (h1 ⟨j, by omega, e⟩))
      by_cases q : i = j
      · rw [q]; exact e
      · exact ha i (by omega)
  exact ⟨8 + 1, l 8 0 (by omega) (fun i hi => absurd hi (by omega))⟩
theorem i_vc_changed {k : Nat} {u : SX} {v : SY} (I : i_Rel k u v) (hk : k + 4 ≤ 2048) : wpX_changed (fun r => wpY_changed (fun r' => r' = r ∧ i_Rel (k + 4) u v) v) u := by
  obtain ⟨sv, x, f⟩ := u
  obtain ⟨rv, K, S, V, Q, E⟩ := v
  have I : ob_R sv x f rv K S V Q E := I
  unfold wpX_changed wpY_changed
  dsimp only
  obtain ⟨r, r5, e1, e2, hl, hf⟩ := id I
  subst e1 e2
  by_cases z : r = 0
  · subst z
    refine br_t rfl (ow_countX (K := K) (ow_kinds I) ?_)
    obtain ⟨c, hc, e, iff⟩ := oq_ct (K := K) 8 (by omega)
    rw [e]
    by_cases c0 : c = 0
    · refine br_t (nI_le (b := 0) (by omega) (by omega)) (oq_Y0 (fun _ => ⟨rfl, I⟩) fun ⟨j, hj, ne⟩ => absurd (iff.mp c0 j hj) ne)
    · exact br_f (nI_nle (by omega) (by omega)) (oq_Y0 (fun a => absurd (iff.mpr a) c0) fun _ => ⟨rfl, I⟩)
  · obtain ⟨q, rfl⟩ : ∃ q, r = q + 1 := ⟨r - 1, by omega⟩
    refine br_f (nI_ne0 (by omega) (by omega)) ?_
    rw [nI_pred]
    have hN : ∀ m, m < 8 → S (m + 1) = nI (S (m + 1)).toNatClampNeg ∧ (S (m + 1)).toNatClampNeg ≤ 6 := fun m hm => by
      obtain ⟨c, n, ⟨_, _, _, hs, _⟩, hz, _⟩ := ob_im0 hl hm
      have z2 := hz.2.1
      rw [hs, nI_clamp (by omega)]
      exact ⟨rfl, z2⟩
    have two : ∀ m, m < 8 → (ob_Eq K S V Q E (m + 1) (9 * (q + 1) + (m + 1)) (S (m + 1)).toNatClampNeg ↔ ∀ j, j < 20 → f (q * 160 + m * 20 + j) = x (m * 20 + j)) := fun m hm => by
      obtain ⟨c, n, hr⟩ := ob_im0 hl hm
      obtain ⟨c', n', hr'⟩ := hf q (by omega) m hm
      have z2 := hr.2.1.2.1
      rw [hr.1.2.2.2.1, nI_clamp (by omega)]
      exact ⟨fun e => ob_same2 hr hr' e, fun e => ob_same1 hr hr' e⟩
    refine oq_isR (by omega) (fun a => br_f oa_10 (oq_Y1 (N := fun m => (S (m + 1)).toNatClampNeg) r5 (by omega) hN (fun _ => ⟨rfl, I⟩) fun ⟨m, hm, ne⟩ => ?_)) (fun ⟨w, hw, ne⟩ => br_t rfl (oq_Y1 (N := fun m => (S (m + 1)).toNatClampNeg) r5 (by omega) hN (fun a => ?_) fun _ => ⟨rfl, I⟩))
    · refine absurd ((two m hm).mpr fun j hj => ?_) ne
      rw [Nat.add_assoc]
      exact a _ (by omega)
    · have b := (two (w / 20) (by omega)).mp (a (w / 20) (by omega)) (w % 20) (by omega)
      rw [Nat.add_assoc, show w / 20 * 20 + w % 20 = w from by omega] at b
      exact absurd b ne

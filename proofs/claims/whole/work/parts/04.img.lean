/-! copies of images -/
def ob_Cp (K S V Q E K' S' V' Q' E' : Nat → Int32) (g t : Nat) : Prop :=
  (∀ o, o < 9 → K' (9 * t + o) = K (9 * g + o) ∧ S' (9 * t + o) = S (9 * g + o)) ∧
  (∀ j, j < 54 → V' (54 * t + j) = V (54 * g + j) ∧ Q' (54 * t + j) = Q (54 * g + j) ∧ E' (54 * t + j) = E (54 * g + j)) ∧
  (∀ s, s < 9 * t ∨ 9 * t + 9 ≤ s → K' s = K s ∧ S' s = S s) ∧
  (∀ j, j < 54 * t ∨ 54 * t + 54 ≤ j → V' j = V j ∧ Q' j = Q j ∧ E' j = E j)
theorem ob_cpIm {x x' K S V Q E K' S' V' Q' E' : Nat → Int32} {a a' g t : Nat} (hc : ob_Cp K S V Q E K' S' V' Q' E' g t) (h : ob_Im x a K S V Q E g) (hx : ∀ j, j < 160 → x' (a' + j) = x (a + j)) : ob_Im x' a' K' S' V' Q' E' t := by
  obtain ⟨c1, c2, _, _⟩ := hc
  intro m hm
  obtain ⟨c, n, h⟩ := h m hm
  refine ⟨c, n, ob_tr h (fun j hj => ?_) (c1 (m + 1) (by omega)).1 (c1 (m + 1) (by omega)).2 (fun j hj => ?_)⟩
  · have := hx (m * 20 + j) (by omega)
    rw [← Nat.add_assoc, ← Nat.add_assoc] at this
    exact this
  · have := c2 (6 * (m + 1) + j) (by omega)
    rw [show 6 * (9 * t + (m + 1)) + j = 54 * t + (6 * (m + 1) + j) from by omega, show 6 * (9 * g + (m + 1)) + j = 54 * g + (6 * (m + 1) + j) from by omega]
    exact this
theorem ob_cpKeep {x K S V Q E K' S' V' Q' E' : Nat → Int32} {a g g' t : Nat} (hc : ob_Cp K S V Q E K' S' V' Q' E' g t) (h : ob_Im x a K S V Q E g') (ne : g' ≠ t) : ob_Im x a K' S' V' Q' E' g' := by
  obtain ⟨_, _, c3, c4⟩ := hc
  intro m hm
  obtain ⟨c, n, h⟩ := h m hm
  refine ⟨c, n, ob_tr h (fun j hj => rfl) (c3 _ (by omega)).1 (c3 _ (by omega)).2 (fun j hj => c4 _ (by omega))⟩
theorem ob_save {x f f' K S V Q E K' S' V' Q' E' : Nat → Int32} {r : Nat} (hr : r < 5) (hl : ob_Im x 0 K S V Q E 0) (hf : ∀ q, q < r → ob_Im f (q * 160) K S V Q E (q + 1))
    (h1 : ∀ w, w < 160 → f' (r * 160 + w) = x w) (h2 : ∀ j, j < r * 160 → f' j = f j) (hc : ob_Cp K S V Q E K' S' V' Q' E' 0 (r + 1)) : ob_R (nI (r + 1)) x f' (nI (r + 1)) K' S' V' Q' E' := by
  refine ⟨r + 1, by omega, rfl, rfl, ob_cpKeep hc hl (by omega), fun q hq => ?_⟩
  by_cases e : q = r
  · subst e
    exact ob_cpIm hc hl (fun j hj => by rw [Nat.zero_add]; exact h1 j hj)
  · have h := ob_cpKeep hc (hf q (by omega)) (by omega)
    intro m hm
    obtain ⟨c, n, h⟩ := h m hm
    exact ⟨c, n, ob_tr h (fun j hj => h2 _ (by omega)) rfl rfl (fun _ _ => ⟨rfl, rfl, rfl⟩)⟩
theorem ob_open {x' f K S V Q E K' S' V' Q' E' : Nat → Int32} {r q : Nat} (hr : r ≤ 5) (hq : q < r) (hf : ∀ q, q < r → ob_Im f (q * 160) K S V Q E (q + 1))
    (h1 : ∀ w, w < 160 → x' w = f (q * 160 + w)) (hc : ob_Cp K S V Q E K' S' V' Q' E' (q + 1) 0) : ob_R (nI r) x' f (nI r) K' S' V' Q' E' := by
  refine ⟨r, hr, rfl, rfl, ob_cpIm hc (hf q hq) (fun j hj => by rw [Nat.zero_add]; exact h1 j hj), fun q' hq' => ob_cpKeep hc (hf q' hq') (by omega)⟩
theorem ob_init : ob_R 0 (fun _ => 0) (fun _ => 0) 0 (fun _ => 0) (fun _ => 0) (fun _ => 0) (fun _ => 0) (fun _ => 0) := by
  refine ⟨0, by omega, nI_0.symm, nI_0.symm, fun m hm => ⟨0, 0, ⟨nI_0.symm, nI_0.symm, nI_0.symm, nI_0.symm, fun i hi => absurd hi (by omega), fun i _ _ => ⟨rfl, rfl, rfl⟩, fun _ i _ => rfl⟩, ⟨by omega, by omega, by omega, by omega, by omega, by omega, by omega⟩, fun z => absurd z (by omega)⟩, fun q hq => absurd hq (by omega)⟩
/-! equal records -/
def ob_Eq (K S V Q E : Nat → Int32) (s s' n : Nat) : Prop := K s = K s' ∧ S s = S s' ∧ ∀ i, i < n → V (6 * s + i) = V (6 * s' + i) ∧ Q (6 * s + i) = Q (6 * s' + i) ∧ (K s = 4 → E (6 * s + i) = E (6 * s' + i))
theorem ob_same1 {x y K S V Q E : Nat → Int32} {b b' s s' c n c' n' : Nat} (h : ob_Rec x b K S V Q E s c n) (h' : ob_Rec y b' K S V Q E s' c' n') (e : ∀ j, j < 20 → y (b' + j) = x (b + j)) : ob_Eq K S V Q E s s' n := by
  obtain ⟨⟨h1, h2, h3, h4, h6, h7, h8⟩, hz, _⟩ := h
  obtain ⟨⟨g1, g2, g3, g4, g6, g7, g8⟩, gz, _⟩ := h'
  have z1 := hz.1
  have z2 := hz.2.1
  have y1 := gz.1
  have y2 := gz.2.1
  have ec : c' = c := (nI_eq (by omega) (by omega)).mp (g1.symm.trans ((e 0 (by omega)).trans h1))
  have en : n' = n := (nI_eq (by omega) (by omega)).mp (g2.symm.trans ((e 1 (by omega)).trans h2))
  subst ec en
  refine ⟨h3.trans g3.symm, h4.trans g4.symm, fun i hi => ?_⟩
  obtain ⟨a1, a2, a3, _⟩ := h6 i hi (by omega)
  obtain ⟨b1, b2, b3, _⟩ := g6 i hi (by omega)
  have ex : ∀ a, a + i < 20 → y (b' + a + i) = x (b + a + i) := fun a ha => by
    rw [Nat.add_assoc, Nat.add_assoc]; exact e _ ha
  refine ⟨a1.symm.trans ((ex 2 (by omega)).symm.trans b1), a2.symm.trans ((ex 8 (by omega)).symm.trans b2), fun k4 => ?_⟩
  have c4 : c' = 4 := (nI_eq (b := 4) (by omega) (by omega)).mp (h3.symm.trans k4)
  exact (a3 c4).symm.trans ((ex 14 (by omega)).symm.trans (b3 c4))
theorem ob_same2 {x y K S V Q E : Nat → Int32} {b b' s s' c n c' n' : Nat} (h : ob_Rec x b K S V Q E s c n) (h' : ob_Rec y b' K S V Q E s' c' n') (e : ob_Eq K S V Q E s s' n) : ∀ j, j < 20 → y (b' + j) = x (b + j) := by
  obtain ⟨⟨h1, h2, h3, h4, h6, h7, h8⟩, hz, _⟩ := h
  obtain ⟨⟨g1, g2, g3, g4, g6, g7, g8⟩, gz, _⟩ := h'
  obtain ⟨e1, e2, e3⟩ := e
  have z1 := hz.1
  have z2 := hz.2.1
  have y1 := gz.1
  have y2 := gz.2.1
  have ec : c' = c := (nI_eq (by omega) (by omega)).mp (g3.symm.trans (e1.symm.trans h3))
  have en : n' = n := (nI_eq (by omega) (by omega)).mp (g4.symm.trans (e2.symm.trans h4))
  subst ec en
  intro j hj
  by_cases j0 : j = 0
  · subst j0; exact g1.trans h1.symm
  by_cases j1 : j = 1
  · subst j1; exact g2.trans h2.symm
  by_cases j2 : j < 8
  · obtain ⟨i, rfl⟩ : ∃ i, j = 2 + i := ⟨j - 2, by omega⟩
    rw [← Nat.add_assoc, ← Nat.add_assoc]
    by_cases hi : i < n'
    · exact (g6 i hi (by omega)).1.trans ((e3 i hi).1.symm.trans (h6 i hi (by omega)).1.symm)
    · exact (g7 i (by omega) (by omega)).1.trans (h7 i (by omega) (by omega)).1.symm
  by_cases j3 : j < 14
  · obtain ⟨i, rfl⟩ : ∃ i, j = 8 + i := ⟨j - 8, by omega⟩
    rw [← Nat.add_assoc, ← Nat.add_assoc]
    by_cases hi : i < n'
    · exact (g6 i hi (by omega)).2.1.trans ((e3 i hi).2.1.symm.trans (h6 i hi (by omega)).2.1.symm)
    · exact (g7 i (by omega) (by omega)).2.1.trans (h7 i (by omega) (by omega)).2.1.symm
  obtain ⟨i, rfl⟩ : ∃ i, j = 14 + i := ⟨j - 14, by omega⟩
  rw [← Nat.add_assoc, ← Nat.add_assoc]
  by_cases hi : i < n'
  · by_cases c4 : c' = 4
    · exact ((g6 i hi (by omega)).2.2.1 c4).trans (((e3 i hi).2.2 (by rw [h3, c4]; rfl)).symm.trans ((h6 i hi (by omega)).2.2.1 c4).symm)
    · exact (g8 c4 i (by omega)).trans (h8 c4 i (by omega)).symm
  · exact (g7 i (by omega) (by omega)).2.2.trans (h7 i (by omega) (by omega)).2.2.symm
/-! links -/
def ob_Ed (S V Q : Nat → Int32) (a b : Nat) : Prop := ∃ i : Nat, i < 6 ∧ nI i < S (a + 1) ∧ Q (6 * (a + 1) + i) = 2 ∧ V (6 * (a + 1) + i) = nI (b + 1)

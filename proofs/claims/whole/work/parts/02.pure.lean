/-! sets of objects: counting, the least closed set -/
def oc_Re (E : Nat → Nat → Prop) (t : Nat) : Prop := ∀ P : Nat → Prop, P 0 → (∀ a b, a < 8 → b < 8 → P a → E a b → P b) → P t
theorem oc_Re0 {E : Nat → Nat → Prop} : oc_Re E 0 := fun _ h _ => h
theorem oc_ReS {E : Nat → Nat → Prop} {a b : Nat} (ha : a < 8) (hb : b < 8) (h : oc_Re E a) (e : E a b) : oc_Re E b := fun P h0 hs => hs a b ha hb (h P h0 hs) e
def oc_cd (p : Nat → Bool) : Nat → Nat
  | 0 => 0
  | n + 1 => oc_cd p n + (if p n = true then 1 else 0)
theorem oc_cd_s (p : Nat → Bool) (n : Nat) : oc_cd p (n + 1) = oc_cd p n + (if p n = true then 1 else 0) := rfl
theorem oc_cd_le (p : Nat → Bool) : ∀ n, oc_cd p n ≤ n := by
  intro n
  induction n with
  | zero => exact Nat.le_refl _
  | succ n ih => rw [oc_cd_s]; split <;> omega
theorem oc_cd_mono {p q : Nat → Bool} : ∀ n, (∀ t, t < n → p t = true → q t = true) → oc_cd p n ≤ oc_cd q n := by
  intro n
  induction n with
  | zero => exact fun _ => Nat.le_refl _
  | succ n ih =>
    intro h
    have i := ih (fun t ht => h t (by omega))
    have hn := h n (by omega)
    rw [oc_cd_s, oc_cd_s]
    by_cases hp : p n = true
    · rw [if_pos hp, if_pos (hn hp)]; omega
    · rw [if_neg hp]; omega
theorem oc_cd_lt {p q : Nat → Bool} : ∀ n, (∀ t, t < n → p t = true → q t = true) → (∃ t, t < n ∧ p t = false ∧ q t = true) → oc_cd p n + 1 ≤ oc_cd q n := by
  intro n
  induction n with
  | zero => intro _ ⟨t, ht, _⟩; omega
  | succ n ih =>
    intro h ⟨t, ht, pt, qt⟩
    have hn := h n (by omega)
    rw [oc_cd_s, oc_cd_s]
    by_cases e : t = n
    · subst e
      have i := oc_cd_mono t (fun t' ht' => h t' (by omega))
      rw [if_neg (by rw [pt]; decide), if_pos qt]
      omega
    · have i := ih (fun t' ht' => h t' (by omega)) ⟨t, by omega, pt, qt⟩
      by_cases hp : p n = true
      · rw [if_pos hp, if_pos (hn hp)]; omega
      · rw [if_neg hp]; omega
theorem oc_cd_full {p : Nat → Bool} : ∀ n, n ≤ oc_cd p n → ∀ t, t < n → p t = true := by
  intro n
  induction n with
  | zero => intro _ t ht; omega
  | succ n ih =>
    intro h t ht
    rw [oc_cd_s] at h
    have l := oc_cd_le p n
    by_cases hp : p n = true
    · rw [if_pos hp] at h
      by_cases e : t = n
      · rw [e]; exact hp
      · exact ih (by omega) t (by omega)
    · rw [if_neg hp] at h; omega
theorem oc_round {E : Nat → Nat → Prop} {p q : Nat → Bool} {k : Nat} (h0 : p 0 = true) (mono : ∀ t, t < 8 → p t = true → q t = true) (cl : ∀ a b, a < 8 → b < 8 → p a = true → E a b → q b = true)
    (h : (∀ t, t < 8 → oc_Re E t → p t = true) ∨ k + 1 ≤ oc_cd p 8) : (∀ t, t < 8 → oc_Re E t → q t = true) ∨ k + 1 + 1 ≤ oc_cd q 8 := by
  rcases h with h | h
  · exact Or.inl fun t ht r => mono t ht (h t ht r)
  · by_cases c : ∃ a b, a < 8 ∧ b < 8 ∧ p a = true ∧ E a b ∧ p b = false
    · obtain ⟨a, b, ha, hb, pa, e, pb⟩ := c
      have := oc_cd_lt 8 mono ⟨b, hb, pb, cl a b ha hb pa e⟩
      exact Or.inr (by omega)
    · refine Or.inl fun t ht r => mono t ht (r (fun t => p t = true) h0 (fun a b ha hb pa e => ?_))
      show p b = true
      cases pb : p b with
      | true => rfl
      | false => exact absurd ⟨a, b, ha, hb, pa, e, pb⟩ c
theorem oc_end {E : Nat → Nat → Prop} {q : Nat → Bool} (h : (∀ t, t < 8 → oc_Re E t → q t = true) ∨ 8 ≤ oc_cd q 8) : ∀ t, t < 8 → oc_Re E t → q t = true :=
  h.elim id (fun h t ht _ => oc_cd_full 8 h t ht)
theorem oc_cd1 {p : Nat → Bool} : ∀ n, (∃ t, t < n ∧ p t = true) → 1 ≤ oc_cd p n := by
  intro n
  induction n with
  | zero => intro ⟨t, ht, _⟩; omega
  | succ n ih =>
    intro ⟨t, ht, pt⟩
    rw [oc_cd_s]
    by_cases e : t = n
    · rw [← e, if_pos pt]; omega
    · have := ih ⟨t, by omega, pt⟩; omega
/-! following links -/
def oc_it (L : Nat → Bool) (f : Nat → Nat) : Nat → Nat → Nat
  | 0, x => x
  | n + 1, x => if L x = true then oc_it L f n (f x) else x
theorem oc_it_s (L : Nat → Bool) (f : Nat → Nat) (n x : Nat) : oc_it L f (n + 1) x = if L x = true then oc_it L f n (f x) else x := rfl
theorem oc_it_stop {L : Nat → Bool} {f : Nat → Nat} : ∀ n x, L (oc_it L f n x) = false → oc_it L f (n + 1) x = oc_it L f n x := by
  intro n
  induction n with
  | zero =>
    intro x h
    have h' : L x = false := h
    rw [oc_it_s, if_neg (by rw [h']; decide)]; rfl
  | succ n ih =>
    intro x h
    rw [oc_it_s L f (n + 1) x, oc_it_s L f n x]
    rw [oc_it_s] at h
    by_cases e : L x = true
    · rw [if_pos e] at h
      rw [if_pos e, if_pos e]
      exact ih _ h
    · rw [if_neg e, if_neg e]
theorem oc_it_lt {L : Nat → Bool} {f : Nat → Nat} (hf : ∀ x, x < 8 → L x = true → f x < 8) : ∀ n x, x < 8 → oc_it L f n x < 8 := by
  intro n
  induction n with
  | zero => exact fun x h => h
  | succ n ih =>
    intro x h
    rw [oc_it_s]
    by_cases e : L x = true
    · rw [if_pos e]; exact ih _ (hf x h e)
    · rw [if_neg e]; exact h
def oc_p (L : Nat → Bool) (f : Nat → Nat) (k : Nat) : Nat → Bool := fun t => !(L (oc_it L f k t))
theorem oc_p_mono {L : Nat → Bool} {f : Nat → Nat} {k t : Nat} (h : oc_p L f k t = true) : oc_p L f (k + 1) t = true := by
  unfold oc_p at h ⊢
  rw [Bool.not_eq_true'] at h ⊢
  rw [oc_it_stop k t h]; exact h
theorem oc_p_s {L : Nat → Bool} {f : Nat → Nat} {k t : Nat} : oc_p L f (k + 1) t = if L t = true then oc_p L f k (f t) else true := by
  unfold oc_p
  rw [oc_it_s]
  by_cases e : L t = true
  · rw [if_pos e, if_pos e]
  · rw [if_neg e, if_neg e, Bool.not_eq_true'] ; exact Bool.eq_false_iff.mpr e
theorem oc_p_st {L : Nat → Bool} {f : Nat → Nat} (hf : ∀ x, x < 8 → L x = true → f x < 8) {k : Nat} (h : ∀ t, t < 8 → oc_p L f (k + 1) t = true → oc_p L f k t = true) : ∀ t, t < 8 → oc_p L f (k + 1 + 1) t = true → oc_p L f (k + 1) t = true := by
  intro t ht
  rw [oc_p_s (k := k + 1) (t := t), oc_p_s (k := k) (t := t)]
  by_cases e : L t = true
  · rw [if_pos e, if_pos e]; exact h _ (hf t ht e)
  · rw [if_neg e, if_neg e]; exact fun h => h
theorem oc_p_k {L : Nat → Bool} {f : Nat → Nat} (hf : ∀ x, x < 8 → L x = true → f x < 8) : ∀ k, (∀ t, t < 8 → oc_p L f (k + 1) t = true → oc_p L f k t = true) ∨ k + 1 ≤ oc_cd (oc_p L f k) 8 := by
  intro k
  induction k with
  | zero =>
    by_cases c : ∃ t, t < 8 ∧ oc_p L f 0 t = true
    · exact Or.inr (oc_cd1 8 c)
    · refine Or.inl fun t ht h => ?_
      rw [oc_p_s] at h
      by_cases e : L t = true
      · rw [if_pos e] at h; exact absurd ⟨_, hf t ht e, h⟩ c
      · show (!(L t)) = true
        rw [Bool.not_eq_true']; exact Bool.eq_false_iff.mpr e
  | succ k ih =>
    rcases ih with ih | ih
    · exact Or.inl (oc_p_st hf ih)
    · by_cases c : ∃ t, t < 8 ∧ oc_p L f k t = false ∧ oc_p L f (k + 1) t = true
      · have := oc_cd_lt (p := oc_p L f k) (q := oc_p L f (k + 1)) 8 (fun t _ h => oc_p_mono h) c
        exact Or.inr (by omega)
      · refine Or.inl (oc_p_st hf fun t ht h => ?_)
        cases pb : oc_p L f k t with
        | true => rfl
        | false => exact absurd ⟨t, ht, pb, h⟩ c
theorem oc_res {L : Nat → Bool} {f : Nat → Nat} (hf : ∀ x, x < 8 → L x = true → f x < 8) {x : Nat} (hx : x < 8) : oc_it L f 9 x = oc_it L f 7 x ∨ (L (oc_it L f 7 x) = true ∧ L (oc_it L f 9 x) = true) := by
  have st : ∀ t, t < 8 → oc_p L f 8 t = true → oc_p L f 7 t = true := by
    rcases oc_p_k hf 7 with h | h
    · exact h
    · exact fun t ht _ => oc_cd_full 8 h t ht
  have st2 := oc_p_st hf st
  cases e7 : L (oc_it L f 7 x) with
  | false =>
    left
    have a := oc_it_stop 7 x e7
    have b := oc_it_stop 8 x (by rw [a]; exact e7)
    rw [b, a]
  | true =>
    right
    refine ⟨rfl, ?_⟩
    cases e9 : L (oc_it L f 9 x) with
    | true => rfl
    | false =>
      have p9 : oc_p L f 9 x = true := by unfold oc_p; rw [e9]; rfl
      have p7 := st x hx (st2 x hx p9)
      unfold oc_p at p7
      rw [e7] at p7
      exact absurd p7 (by decide)

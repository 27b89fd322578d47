section
/-! rows pasted: stores, numbers, branches, bits -/
theorem pk_us {f : Nat → Int32} {k : Nat} {x : Int32} : upd f k x k = x := if_pos rfl
theorem pk_un {f : Nat → Int32} {k j : Nat} {x : Int32} (h : j ≠ k) : upd f k x j = f j := if_neg h
theorem pk_sub {a b : Nat} (h : b ≤ a) : nI a - nI b = nI (a - b) := by
  obtain ⟨c, rfl⟩ : ∃ c, a = c + b := ⟨a - b, by omega⟩
  rw [← nI_add, Int32.add_sub_cancel, Nat.add_sub_cancel]
theorem pk_m1 (n : Nat) : nI (n + 1) + (-1) = nI n := by
  rw [← nI_1, Int32.add_assoc, show (1 : Int32) + (-1) = 0 from rfl, Int32.add_zero]
theorem pk_mul (a b : Nat) : nI a * nI b = nI (a * b) := (Int32.ofNat_mul a b).symm
theorem pk_div {a d : Nat} (ha : a < 2 ^ 31) (h0 : 0 < d) (hd : d < 2 ^ 31) : nI a / nI d = nI (a / d) := by
  apply Int32.toInt_inj.mp
  rw [lg_idiv_nonneg (by rw [nI_toInt ha]; omega) (by rw [nI_toInt hd]; omega), nI_toInt ha, nI_toInt hd, nI_toInt (Nat.lt_of_le_of_lt (Nat.div_le_self a d) ha)]
  first | rfl | exact (Int.natCast_ediv _ _).symm
theorem pk_rem {a d : Nat} (ha : a < 2 ^ 31) (h0 : 0 < d) (hd : d < 2 ^ 31) : nI a - nI a / nI d * nI d = nI (a % d) := by
  rw [pk_div ha h0 hd, pk_mul, pk_sub (Nat.div_mul_le_self a d)]
  exact congrArg nI (by have := Nat.div_add_mod' a d; omega)
theorem pk_ix (x : Int32) {n : Nat} (hn : n < 2 ^ 31) : x < 0 ∨ nI n ≤ x ∨ ∃ j : Nat, j < n ∧ x = nI j := by
  by_cases h : x < 0
  · exact Or.inl h
  · obtain ⟨j, hj, rfl⟩ := nI_of h
    by_cases h2 : j < n
    · exact Or.inr (Or.inr ⟨j, h2, rfl⟩)
    · exact Or.inr (Or.inl (nI_le (by omega) hj))
theorem pk_le {x y : Int32} {A B : Prop} (a b : Nat) (f : a ≤ b → A) (g : b < a → B) (hx : x = nI a := by rfl) (hy : y = nI b := by rfl) (ha : a < 2 ^ 31 := by omega) (hb : b < 2 ^ 31 := by omega) : (x ≤ y → A) ∧ (¬ x ≤ y → B) := by
  subst hx hy
  rw [nI_leI ha hb]
  exact ⟨f, fun z => g (by omega)⟩
theorem pk_lt {x y : Int32} {A B : Prop} (a b : Nat) (f : a < b → A) (g : b ≤ a → B) (hx : x = nI a := by rfl) (hy : y = nI b := by rfl) (ha : a < 2 ^ 31 := by omega) (hb : b < 2 ^ 31 := by omega) : (x < y → A) ∧ (¬ x < y → B) := by
  subst hx hy
  rw [nI_ltI ha hb]
  exact ⟨f, fun z => g (by omega)⟩
theorem pk_eq {x y : Int32} {A B : Prop} (a b : Nat) (f : a = b → A) (g : a ≠ b → B) (hx : x = nI a := by rfl) (hy : y = nI b := by rfl) (ha : a < 2 ^ 31 := by omega) (hb : b < 2 ^ 31 := by omega) : (x = y → A) ∧ (¬ x = y → B) := by
  subst hx hy
  rw [nI_eq ha hb]
  exact ⟨f, g⟩
theorem pk_in {x : Int32} (n N : Nat) (h : n < N) (hx : x = nI n := by rfl) (hN : N < 2 ^ 31 := by omega) : vp_in x N := by
  subst hx
  exact vp_in_nI h hN
theorem pk_cl {x : Int32} (n : Nat) (hx : x = nI n := by rfl) (h : n < 2 ^ 31 := by omega) : x.toNatClampNeg = n := by
  subst hx
  exact nI_clamp h
theorem pk_tn {n : Nat} (h : n < 2 ^ 32) : (nI n).toBitVec.toNat = n := Nat.mod_eq_of_lt h
theorem pk_and (x : Int32) {m : Int32} (k : Nat) (hm : m.toBitVec.toNat = 2 ^ k - 1) : x &&& m = nI (x.toBitVec.toNat % 2 ^ k) := by
  apply Int32.toBitVec_inj.mp
  apply BitVec.eq_of_toNat_eq
  rw [Int32.toBitVec_and, BitVec.toNat_and, hm, Nat.and_two_pow_sub_one_eq_mod]
  show _ = (BitVec.ofNat 32 _).toNat
  rw [BitVec.toNat_ofNat]
  exact (Nat.mod_eq_of_lt (Nat.lt_of_le_of_lt (Nat.mod_le _ _) x.toBitVec.isLt)).symm
theorem pk_andN {n : Nat} (h : n < 2 ^ 32) {m : Int32} (k : Nat) (hm : m.toBitVec.toNat = 2 ^ k - 1) : nI n &&& m = nI (n % 2 ^ k) := by
  rw [pk_and _ k hm, pk_tn h]
theorem pk_loop {σ : Type} (W : Nat → Nat → σ → Prop) (I : Nat → σ → Prop) (e i0 : Nat) (s : σ) (hi : i0 ≤ e) (h0 : I i0 s) (hx : ∀ n s, I e s → W (n + 1) e s)
    (hs : ∀ n i s, i < e → I i s → (∀ s', I (i + 1) s' → W n (i + 1) s') → W (n + 1) i s) : ∃ n, W n i0 s :=
  ⟨e + 1, loop_i W I e hx hs (e + 1) i0 s hi (by omega) h0⟩
theorem pk_loopD {σ : Type} (W : Nat → Nat → σ → Prop) (I : Nat → σ → Prop) (hx : ∀ n s, I 0 s → W (n + 1) 0 s)
    (hs : ∀ n i s, I (i + 1) s → (∀ s', I i s' → W n i s') → W (n + 1) (i + 1) s) : ∀ (e : Nat) (s : σ), I e s → W (e + 1) e s := by
  intro e
  induction e with
  | zero => exact fun s h => hx 0 s h
  | succ e ih => exact fun s h => hs (e + 1) e s h (fun s' h' => ih s' h')
def bt (x : Int32) (i : Nat) : Bool := x.toBitVec.getLsbD i
theorem b_or (x y : Int32) (i : Nat) : bt (x ||| y) i = (bt x i || bt y i) := by unfold bt; rw [Int32.toBitVec_or, BitVec.getLsbD_or]
theorem b_and (x y : Int32) (i : Nat) : bt (x &&& y) i = (bt x i && bt y i) := by unfold bt; rw [Int32.toBitVec_and, BitVec.getLsbD_and]
theorem b_big {x : Int32} {i : Nat} (h : 32 ≤ i) : bt x i = false := BitVec.getLsbD_of_ge _ _ h
theorem b_0 (i : Nat) : bt 0 i = false := BitVec.getLsbD_zero
theorem s_l : ∀ n, n < 32 → ((nI n &&& 31).toBitVec.smod 32).toNat = n := by decide +kernel
theorem b_shl (n : Nat) (hn : n < 32) (x : Int32) {i : Nat} (hi : i < 32) : bt (x <<< (nI n &&& 31)) i = (decide (n ≤ i) && bt x (i - n)) := by
  unfold bt
  rw [Int32.toBitVec_shiftLeft]
  show (x.toBitVec <<< ((nI n &&& 31).toBitVec.smod 32).toNat).getLsbD i = _
  rw [s_l n hn, BitVec.getLsbD_shiftLeft]
  rcases Nat.lt_or_ge i n with h | h
  · simp [h, Nat.not_le.mpr h]
  · simp [hi, h, Nat.not_lt.mpr h]
theorem b_sshr (n : Nat) (hn : n < 32) (x : Int32) {i : Nat} (hi : i < 32) : bt (x >>> (nI n &&& 31)) i = if n + i < 32 then bt x (n + i) else bt x 31 := by
  unfold bt
  rw [Int32.toBitVec_shiftRight]
  show (x.toBitVec.sshiftRight ((nI n &&& 31).toBitVec.smod 32).toNat).getLsbD i = _
  rw [s_l n hn, BitVec.getLsbD_sshiftRight, BitVec.msb_eq_getLsbD_last]
  simp [hi]
/-! numbers of this claim -/
theorem oa_8 : nI 8 = 8 := by decide +kernel
theorem oa_rec (m : Nat) : (nI (m + 1) - 1) * 20 = nI (m * 20) := by
  rw [nI_pred]; exact pk_mul m 20
theorem oa_obj (x : Int32) : (x < 1 ∨ 8 < x) ∨ ∃ m : Nat, m < 8 ∧ x = nI (m + 1) := by
  by_cases h1 : 1 ≤ x
  · by_cases h8 : x ≤ 8
    · right
      have h0 : ¬ x < 0 := by
        rw [Int32.lt_iff_toInt_lt]
        rw [Int32.le_iff_toInt_le] at h1
        have e1 : (1 : Int32).toInt = 1 := by decide
        have e0 : (0 : Int32).toInt = 0 := by decide
        omega
      obtain ⟨j, hj, rfl⟩ := nI_of h0
      have a1 : 1 ≤ j := (nI_leI (a := 1) (by decide) hj).mp h1
      have a8 : j ≤ 8 := (nI_leI (b := 8) hj (by decide)).mp h8
      exact ⟨j - 1, by omega, by rw [Nat.sub_add_cancel a1]⟩
    · exact Or.inl (Or.inr (Int32.not_le.mp h8))
  · exact Or.inl (Or.inl (Int32.not_le.mp h1))
theorem oa_ge1 {m : Nat} (h : m < 8) : (1 : Int32) ≤ nI (m + 1) := nI_le (a := 1) (by omega) (by omega)
theorem oa_le8 {m : Nat} (h : m < 8) : nI (m + 1) ≤ (8 : Int32) := nI_le (b := 8) (by omega) (by decide)
theorem oa_nlt1 {m : Nat} (h : m < 8) : ¬ nI (m + 1) < (1 : Int32) := nI_nlt (b := 1) (by omega) (by omega)
theorem oa_ngt8 {m : Nat} (h : m < 8) : ¬ (8 : Int32) < nI (m + 1) := nI_nlt (a := 8) (by omega) (by decide)
theorem oa_bit {s : Int32} {o : Nat} (ho : o < 31) : (s >>> (nI o &&& 31)) &&& 1 = 1 ↔ bt s o = true := by
  have e : (s >>> (nI o &&& 31)) &&& 1 = nI ((s >>> (nI o &&& 31)).toBitVec.toNat % 2 ^ 1) := pk_and _ 1 (by decide)
  have hb := b_sshr o (by omega) s (i := 0) (by omega)
  rw [if_pos (by omega), Nat.add_zero] at hb
  rw [e, ← hb]
  unfold bt
  rw [BitVec.getLsbD, Nat.testBit_zero]
  generalize (s >>> (nI o &&& 31)).toBitVec.toNat = z
  show nI (z % 2 ^ 1) = nI 1 ↔ _
  rw [nI_eq (by omega) (by omega), decide_eq_true_eq]
theorem oa_bit0 {s : Int32} {o : Nat} (ho : o < 31) : (s >>> (nI o &&& 31)) &&& 1 = 0 ↔ bt s o = false := by
  have e : (s >>> (nI o &&& 31)) &&& 1 = nI ((s >>> (nI o &&& 31)).toBitVec.toNat % 2 ^ 1) := pk_and _ 1 (by decide)
  have hb := b_sshr o (by omega) s (i := 0) (by omega)
  rw [if_pos (by omega), Nat.add_zero] at hb
  rw [e, ← hb]
  unfold bt
  rw [BitVec.getLsbD, Nat.testBit_zero]
  generalize (s >>> (nI o &&& 31)).toBitVec.toNat = z
  show nI (z % 2 ^ 1) = nI 0 ↔ _
  rw [nI_eq (by omega) (by omega), decide_eq_false_iff_not]
  omega
theorem oa_one {v t : Nat} (hv : v < 32) (ht : t < 32) : bt ((1 : Int32) <<< (nI v &&& 31)) t = decide (t = v) := by
  rw [b_shl v hv 1 ht]
  by_cases h : t = v
  · subst h
    rw [decide_eq_true (Nat.le_refl _), Nat.sub_self, decide_eq_true rfl]
    decide
  · rw [decide_eq_false h]
    by_cases h2 : v ≤ t
    · rw [decide_eq_true h2, Bool.true_and]
      have g : ∀ i, i < 32 → i ≠ 0 → bt 1 i = false := by decide +kernel
      exact g _ (by omega) (by omega)
    · rw [decide_eq_false h2, Bool.false_and]
theorem oa_two : ∀ t, t < 32 → bt 2 t = decide (t = 1) := by decide +kernel
theorem oa_p1 (a : Nat) : nI a + 1 = nI (a + 1) := nI_add a 1
theorem oa_p2 (a : Nat) : nI a + 2 = nI (a + 2) := nI_add a 2
theorem oa_p8 (a : Nat) : nI a + 8 = nI (a + 8) := nI_add a 8
theorem oa_p14 (a : Nat) : nI a + 14 = nI (a + 14) := nI_add a 14
theorem oa_6 (a : Nat) : 6 * nI a = nI (6 * a) := pk_mul 6 a
theorem oa_9 (a : Nat) : 9 * nI a = nI (9 * a) := pk_mul 9 a
theorem oa_54 (a : Nat) : 54 * nI a = nI (54 * a) := pk_mul 54 a
theorem oa_m160 (a : Nat) : nI a * 160 = nI (a * 160) := pk_mul a 160
theorem oa_10 : ¬ (1 : Int32) = 0 := by decide
theorem oa_51 : ¬ (5 : Int32) = 1 := by decide
theorem oa_01 : ¬ (0 : Int32) = 1 := by decide
theorem oa_05 : ¬ (0 : Int32) = 5 := by decide
theorem oa_nb0 : narrow .boolean (.int 0) = .int 0 := rfl
theorem oa_nb1 : narrow .boolean (.int 1) = .int 1 := rfl
end
section
/-! sets of objects: counting, the least closed set -/
def oc_Re (E : Nat → Nat → Prop) (t : Nat) : Prop := ∀ P : Nat → Prop, P 0 → (∀ a b, a < 8 → b < 8 → P a → E a b → P b) → P t
theorem oc_Re0 {E : Nat → Nat → Prop} : oc_Re E 0 := fun _ h _ => h
theorem oc_ReS {E : Nat → Nat → Prop} {a b : Nat} (ha : a < 8) (hb : b < 8) (h : oc_Re E a) (e : E a b) : oc_Re E b := fun P h0 hs => hs a b ha hb (h P h0 hs) e
def oc_cd (p : Nat → Bool) : Nat → Nat
  | 0 => 0
  | n + 1 => oc_cd p n + (if p n = true then 1 else 0)
theorem oc_cd_s (p : Nat → Bool) (n : Nat) : oc_cd p (n + 1) = oc_cd p n + (if p n = true then 1 else 0) := rfl
theorem oc_cd_le (p : Nat → Bool) : ∀ n, oc_cd p n ≤ n := by
  intro n
  induction n with
  | zero => exact Nat.le_refl _
  | succ n ih => rw [oc_cd_s]; split <;> omega
theorem oc_cd_mono {p q : Nat → Bool} : ∀ n, (∀ t, t < n → p t = true → q t = true) → oc_cd p n ≤ oc_cd q n := by
  intro n
  induction n with
  | zero => exact fun _ => Nat.le_refl _
  | succ n ih =>
    intro h
    have i := ih (fun t ht => h t (by omega))
    have hn := h n (by omega)
    rw [oc_cd_s, oc_cd_s]
    by_cases hp : p n = true
    · rw [if_pos hp, if_pos (hn hp)]; omega
    · rw [if_neg hp]; omega
theorem oc_cd_lt {p q : Nat → Bool} : ∀ n, (∀ t, t < n → p t = true → q t = true) → (∃ t, t < n ∧ p t = false ∧ q t = true) → oc_cd p n + 1 ≤ oc_cd q n := by
  intro n
  induction n with
  | zero => intro _ ⟨t, ht, _⟩; omega
  | succ n ih =>
    intro h ⟨t, ht, pt, qt⟩
    have hn := h n (by omega)
    rw [oc_cd_s, oc_cd_s]
    by_cases e : t = n
    · subst e
      have i := oc_cd_mono t (fun t' ht' => h t' (by omega))
      rw [if_neg (by rw [pt]; decide), if_pos qt]
      omega
    · have i := ih (fun t' ht' => h t' (by omega)) ⟨t, by omega, pt, qt⟩
      by_cases hp : p n = true
      · rw [if_pos hp, if_pos (hn hp)]; omega
      · rw [if_neg hp]; omega
theorem oc_cd_full {p : Nat → Bool} : ∀ n, n ≤ oc_cd p n → ∀ t, t < n → p t = true := by
  intro n
  induction n with
  | zero => intro _ t ht; omega
  | succ n ih =>
    intro h t ht
    rw [oc_cd_s] at h
    have l := oc_cd_le p n
    by_cases hp : p n = true
    · rw [if_pos hp] at h
      by_cases e : t = n
      · rw [e]; exact hp
      · exact ih (by omega) t (by omega)
    · rw [if_neg hp] at h; omega
theorem oc_round {E : Nat → Nat → Prop} {p q : Nat → Bool} {k : Nat} (h0 : p 0 = true) (mono : ∀ t, t < 8 → p t = true → q t = true) (cl : ∀ a b, a < 8 → b < 8 → p a = true → E a b → q b = true)
    (h : (∀ t, t < 8 → oc_Re E t → p t = true) ∨ k + 1 ≤ oc_cd p 8) : (∀ t, t < 8 → oc_Re E t → q t = true) ∨ k + 1 + 1 ≤ oc_cd q 8 := by
  rcases h with h | h
  · exact Or.inl fun t ht r => mono t ht (h t ht r)
  · by_cases c : ∃ a b, a < 8 ∧ b < 8 ∧ p a = true ∧ E a b ∧ p b = false
    · obtain ⟨a, b, ha, hb, pa, e, pb⟩ := c
      have := oc_cd_lt 8 mono ⟨b, hb, pb, cl a b ha hb pa e⟩
      exact Or.inr (by omega)
    · refine Or.inl fun t ht r => mono t ht (r (fun t => p t = true) h0 (fun a b ha hb pa e => ?_))
      show p b = true
      cases pb : p b with
      | true => rfl
      | false => exact absurd ⟨a, b, ha, hb, pa, e, pb⟩ c
theorem oc_end {E : Nat → Nat → Prop} {q : Nat → Bool} (h : (∀ t, t < 8 → oc_Re E t → q t = true) ∨ 8 ≤ oc_cd q 8) : ∀ t, t < 8 → oc_Re E t → q t = true :=
  h.elim id (fun h t ht _ => oc_cd_full 8 h t ht)
theorem oc_cd1 {p : Nat → Bool} : ∀ n, (∃ t, t < n ∧ p t = true) → 1 ≤ oc_cd p n := by
  intro n
  induction n with
  | zero => intro ⟨t, ht, _⟩; omega
  | succ n ih =>
    intro ⟨t, ht, pt⟩
    rw [oc_cd_s]
    by_cases e : t = n
    · rw [← e, if_pos pt]; omega
    · have := ih ⟨t, by omega, pt⟩; omega
/-! following links -/
def oc_it (L : Nat → Bool) (f : Nat → Nat) : Nat → Nat → Nat
  | 0, x => x
  | n + 1, x => if L x = true then oc_it L f n (f x) else x
theorem oc_it_s (L : Nat → Bool) (f : Nat → Nat) (n x : Nat) : oc_it L f (n + 1) x = if L x = true then oc_it L f n (f x) else x := rfl
theorem oc_it_stop {L : Nat → Bool} {f : Nat → Nat} : ∀ n x, L (oc_it L f n x) = false → oc_it L f (n + 1) x = oc_it L f n x := by
  intro n
  induction n with
  | zero =>
    intro x h
    have h' : L x = false := h
    rw [oc_it_s, if_neg (by rw [h']; decide)]; rfl
  | succ n ih =>
    intro x h
    rw [oc_it_s L f (n + 1) x, oc_it_s L f n x]
    rw [oc_it_s] at h
    by_cases e : L x = true
    · rw [if_pos e] at h
      rw [if_pos e, if_pos e]
      exact ih _ h
    · rw [if_neg e, if_neg e]
theorem oc_it_lt {L : Nat → Bool} {f : Nat → Nat} (hf : ∀ x, x < 8 → L x = true → f x < 8) : ∀ n x, x < 8 → oc_it L f n x < 8 := by
  intro n
  induction n with
  | zero => exact fun x h => h
  | succ n ih =>
    intro x h
    rw [oc_it_s]
    by_cases e : L x = true
    · rw [if_pos e]; exact ih _ (hf x h e)
    · rw [if_neg e]; exact h
def oc_p (L : Nat → Bool) (f : Nat → Nat) (k : Nat) : Nat → Bool := fun t => !(L (oc_it L f k t))
theorem oc_p_mono {L : Nat → Bool} {f : Nat → Nat} {k t : Nat} (h : oc_p L f k t = true) : oc_p L f (k + 1) t = true := by
  unfold oc_p at h ⊢
  rw [Bool.not_eq_true'] at h ⊢
  rw [oc_it_stop k t h]; exact h
theorem oc_p_s {L : Nat → Bool} {f : Nat → Nat} {k t : Nat} : oc_p L f (k + 1) t = if L t = true then oc_p L f k (f t) else true := by
  unfold oc_p
  rw [oc_it_s]
  by_cases e : L t = true
  · rw [if_pos e, if_pos e]
  · rw [if_neg e, if_neg e, Bool.not_eq_true'] ; exact Bool.eq_false_iff.mpr e
theorem oc_p_st {L : Nat → Bool} {f : Nat → Nat} (hf : ∀ x, x < 8 → L x = true → f x < 8) {k : Nat} (h : ∀ t, t < 8 → oc_p L f (k + 1) t = true → oc_p L f k t = true) : ∀ t, t < 8 → oc_p L f (k + 1 + 1) t = true → oc_p L f (k + 1) t = true := by
  intro t ht
  rw [oc_p_s (k := k + 1) (t := t), oc_p_s (k := k) (t := t)]
  by_cases e : L t = true
  · rw [if_pos e, if_pos e]; exact h _ (hf t ht e)
  · rw [if_neg e, if_neg e]; exact fun h => h
theorem oc_p_k {L : Nat → Bool} {f : Nat → Nat} (hf : ∀ x, x < 8 → L x = true → f x < 8) : ∀ k, (∀ t, t < 8 → oc_p L f (k + 1) t = true → oc_p L f k t = true) ∨ k + 1 ≤ oc_cd (oc_p L f k) 8 := by
  intro k
  induction k with
  | zero =>
    by_cases c : ∃ t, t < 8 ∧ oc_p L f 0 t = true
    · exact Or.inr (oc_cd1 8 c)
    · refine Or.inl fun t ht h => ?_
      rw [oc_p_s] at h
      by_cases e : L t = true
      · rw [if_pos e] at h; exact absurd ⟨_, hf t ht e, h⟩ c
      · show (!(L t)) = true
        rw [Bool.not_eq_true']; exact Bool.eq_false_iff.mpr e
  | succ k ih =>
    rcases ih with ih | ih
    · exact Or.inl (oc_p_st hf ih)
    · by_cases c : ∃ t, t < 8 ∧ oc_p L f k t = false ∧ oc_p L f (k + 1) t = true
      · have := oc_cd_lt (p := oc_p L f k) (q := oc_p L f (k + 1)) 8 (fun t _ h => oc_p_mono h) c
        exact Or.inr (by omega)
      · refine Or.inl (oc_p_st hf fun t ht h => ?_)
        cases pb : oc_p L f k t with
        | true => rfl
        | false => exact absurd ⟨t, ht, pb, h⟩ c
theorem oc_res {L : Nat → Bool} {f : Nat → Nat} (hf : ∀ x, x < 8 → L x = true → f x < 8) {x : Nat} (hx : x < 8) : oc_it L f 9 x = oc_it L f 7 x ∨ (L (oc_it L f 7 x) = true ∧ L (oc_it L f 9 x) = true) := by
  have st : ∀ t, t < 8 → oc_p L f 8 t = true → oc_p L f 7 t = true := by
    rcases oc_p_k hf 7 with h | h
    · exact h
    · exact fun t ht _ => oc_cd_full 8 h t ht
  have st2 := oc_p_st hf st
  cases e7 : L (oc_it L f 7 x) with
  | false =>
    left
    have a := oc_it_stop 7 x e7
    have b := oc_it_stop 8 x (by rw [a]; exact e7)
    rw [b, a]
  | true =>
    right
    refine ⟨rfl, ?_⟩
    cases e9 : L (oc_it L f 9 x) with
    | true => rfl
    | false =>
      have p9 : oc_p L f 9 x = true := by unfold oc_p; rw [e9]; rfl
      have p7 := st x hx (st2 x hx p9)
      unfold oc_p at p7
      rw [e7] at p7
      exact absurd p7 (by decide)
end
section
/-! one object: the component's record at b against the reference's slot s; c its kind, n its size -/
def ob_Sz (c n : Nat) : Prop := c ≤ 5 ∧ n ≤ 6 ∧ (c = 0 → n = 0) ∧ (c = 1 → n = 1) ∧ (c = 5 → n = 1) ∧ (c = 3 → n ≤ 4) ∧ (c = 4 → n ≤ 3)
def ob_Lk (q v : Int32) : Prop := q = 2 → ∃ t : Nat, t < 8 ∧ v = nI (t + 1)
def ob_En (x : Nat → Int32) (b : Nat) (V Q E : Nat → Int32) (y c i : Nat) : Prop := x (b + 2 + i) = V (y + i) ∧ x (b + 8 + i) = Q (y + i) ∧ (c = 4 → x (b + 14 + i) = E (y + i)) ∧ ob_Lk (Q (y + i)) (V (y + i))
def ob_Ze (x : Nat → Int32) (b i : Nat) : Prop := x (b + 2 + i) = 0 ∧ x (b + 8 + i) = 0 ∧ x (b + 14 + i) = 0
def ob_Rc (x : Nat → Int32) (b : Nat) (K S V Q E : Nat → Int32) (s c n : Nat) : Prop := x b = nI c ∧ x (b + 1) = nI n ∧ K s = nI c ∧ S s = nI n ∧ (∀ i, i < n → i < 6 → ob_En x b V Q E (6 * s) c i) ∧ (∀ i, n ≤ i → i < 6 → ob_Ze x b i) ∧ (c ≠ 4 → ∀ i, i < 6 → x (b + 14 + i) = 0)
def ob_Rec (x : Nat → Int32) (b : Nat) (K S V Q E : Nat → Int32) (s c n : Nat) : Prop := ob_Rc x b K S V Q E s c n ∧ ob_Sz c n ∧ (c = 5 → Q (6 * s) = 2)
theorem ob_trc {x x' K S V Q E K' S' V' Q' E' : Nat → Int32} {b b' s s' c n : Nat} (h : ob_Rc x b K S V Q E s c n) (hx : ∀ j, j < 20 → x' (b' + j) = x (b + j)) (hK : K' s' = K s) (hS : S' s' = S s)
    (hv : ∀ j, j < 6 → V' (6 * s' + j) = V (6 * s + j) ∧ Q' (6 * s' + j) = Q (6 * s + j) ∧ E' (6 * s' + j) = E (6 * s + j)) : ob_Rc x' b' K' S' V' Q' E' s' c n := by
  obtain ⟨h1, h2, h3, h4, h6, h7, h8⟩ := h
  have ex : ∀ a i, a + i < 20 → x' (b' + a + i) = x (b + a + i) := fun a i hi => by
    rw [Nat.add_assoc, Nat.add_assoc]; exact hx _ hi
  refine ⟨(hx 0 (by omega)).trans h1, (hx 1 (by omega)).trans h2, hK.trans h3, hS.trans h4, fun i hi hi6 => ?_, fun i hi hi6 => ?_, fun hc i hi => ?_⟩
  · obtain ⟨e1, e2, e3, e4⟩ := h6 i hi hi6
    obtain ⟨v1, v2, v3⟩ := hv i hi6
    refine ⟨?_, ?_, fun hc => ?_, ?_⟩
    · rw [ex 2 i (by omega), v1]; exact e1
    · rw [ex 8 i (by omega), v2]; exact e2
    · rw [ex 14 i (by omega), v3]; exact e3 hc
    · rw [v1, v2]; exact e4
  · obtain ⟨e1, e2, e3⟩ := h7 i hi hi6
    exact ⟨(ex 2 i (by omega)).trans e1, (ex 8 i (by omega)).trans e2, (ex 14 i (by omega)).trans e3⟩
  · exact (ex 14 i (by omega)).trans (h8 hc i hi)
theorem ob_tr {x x' K S V Q E K' S' V' Q' E' : Nat → Int32} {b b' s s' c n : Nat} (h : ob_Rec x b K S V Q E s c n) (hx : ∀ j, j < 20 → x' (b' + j) = x (b + j)) (hK : K' s' = K s) (hS : S' s' = S s)
    (hv : ∀ j, j < 6 → V' (6 * s' + j) = V (6 * s + j) ∧ Q' (6 * s' + j) = Q (6 * s + j) ∧ E' (6 * s' + j) = E (6 * s + j)) : ob_Rec x' b' K' S' V' Q' E' s' c n :=
  ⟨ob_trc h.1 hx hK hS hv, h.2.1, fun hc => ((hv 0 (by omega)).2.1).trans (h.2.2 hc)⟩
/-! an image of eight objects; the two states -/
def ob_Im (x : Nat → Int32) (a : Nat) (K S V Q E : Nat → Int32) (g : Nat) : Prop := ∀ m, m < 8 → ∃ c n, ob_Rec x (a + m * 20) K S V Q E (9 * g + (m + 1)) c n
def ob_R (sv : Int32) (x f : Nat → Int32) (rv : Int32) (K S V Q E : Nat → Int32) : Prop := ∃ r : Nat, r ≤ 5 ∧ sv = nI r ∧ rv = nI r ∧ ob_Im x 0 K S V Q E 0 ∧ ∀ q, q < r → ob_Im f (q * 160) K S V Q E (q + 1)
theorem ob_im0 {x K S V Q E : Nat → Int32} (h : ob_Im x 0 K S V Q E 0) {m : Nat} (hm : m < 8) : ∃ c n, ob_Rec x (m * 20) K S V Q E (m + 1) c n := by
  obtain ⟨c, n, h⟩ := h m hm
  rw [Nat.zero_add, show 9 * 0 + (m + 1) = m + 1 from by omega] at h
  exact ⟨c, n, h⟩
theorem ob_im0' {x K S V Q E : Nat → Int32} (h : ∀ m, m < 8 → ∃ c n, ob_Rec x (m * 20) K S V Q E (m + 1) c n) : ob_Im x 0 K S V Q E 0 := by
  intro m hm
  rw [Nat.zero_add, show 9 * 0 + (m + 1) = m + 1 from by omega]
  exact h m hm
theorem ob_at {sv rv : Int32} {x f K S V Q E : Nat → Int32} (h : ob_R sv x f rv K S V Q E) {m : Nat} (hm : m < 8) : ∃ c n, ob_Rec x (m * 20) K S V Q E (m + 1) c n := by
  obtain ⟨r, _, _, _, hl, _⟩ := h
  exact ob_im0 hl hm
theorem ob_step {sv rv : Int32} {x x' f K S V Q E K' S' V' Q' E' : Nat → Int32} {m : Nat} (h : ob_R sv x f rv K S V Q E) (hm : m < 8) (hr : ∃ c n, ob_Rec x' (m * 20) K' S' V' Q' E' (m + 1) c n)
    (fx : ∀ j, j < m * 20 ∨ m * 20 + 20 ≤ j → x' j = x j) (fk : ∀ s, s ≠ m + 1 → K' s = K s ∧ S' s = S s) (fv : ∀ j, j < 6 * (m + 1) ∨ 6 * (m + 1) + 6 ≤ j → V' j = V j ∧ Q' j = Q j ∧ E' j = E j) : ob_R sv x' f rv K' S' V' Q' E' := by
  obtain ⟨r, r5, e1, e2, hl, hf⟩ := h
  refine ⟨r, r5, e1, e2, ob_im0' fun m' hm' => ?_, fun q hq m' hm' => ?_⟩
  · by_cases e : m' = m
    · rw [e]; exact hr
    · obtain ⟨c, n, h⟩ := ob_im0 hl hm'
      exact ⟨c, n, ob_tr h (fun j hj => fx _ (by omega)) (fk _ (by omega)).1 (fk _ (by omega)).2 (fun j hj => fv _ (by omega))⟩
  · obtain ⟨c, n, h⟩ := hf q hq m' hm'
    exact ⟨c, n, ob_tr h (fun j hj => rfl) (fk _ (by omega)).1 (fk _ (by omega)).2 (fun j hj => fv _ (by omega))⟩
/-! what the component's stores make of a record -/
def ob_rn (x : Nat → Int32) (b : Nat) (c : Int32) : Nat → Int32 := fun j => if j = b then c else if b ≤ j ∧ j < b + 20 then 0 else x j
theorem ob_rn0 {x : Nat → Int32} {b : Nat} {c : Int32} : ob_rn x b c b = c := if_pos rfl
theorem ob_rni {x : Nat → Int32} {b : Nat} {c : Int32} {j : Nat} (h : b < j) (h2 : j < b + 20) : ob_rn x b c j = 0 := by
  unfold ob_rn; rw [if_neg (by omega), if_pos (by omega)]
theorem ob_rno {x : Nat → Int32} {b : Nat} {c : Int32} {j : Nat} (h : j < b ∨ b + 20 ≤ j) : ob_rn x b c j = x j := by
  unfold ob_rn; rw [if_neg (by omega), if_neg (by omega)]
def ob_se (x : Nat → Int32) (b i : Nat) (e q v : Int32) : Nat → Int32 := upd (upd (upd x (b + 2 + i) v) (b + 8 + i) q) (b + 14 + i) e
theorem ob_se0 {x : Nat → Int32} {b i : Nat} {e q v : Int32} : ob_se x b i e q v b = x b := by
  unfold ob_se; rw [pk_un (by omega), pk_un (by omega), pk_un (by omega)]
theorem ob_se1 {x : Nat → Int32} {b i : Nat} {e q v : Int32} : ob_se x b i e q v (b + 1) = x (b + 1) := by
  unfold ob_se; rw [pk_un (by omega), pk_un (by omega), pk_un (by omega)]
theorem ob_se2 {x : Nat → Int32} {b i j : Nat} {e q v : Int32} (hi : i < 6) (hj : j < 6) : ob_se x b i e q v (b + 2 + j) = if j = i then v else x (b + 2 + j) := by
  unfold ob_se
  rw [pk_un (by omega), pk_un (by omega)]
  by_cases h : j = i
  · rw [if_pos h, h]; exact pk_us
  · rw [if_neg h]; exact pk_un (by omega)
theorem ob_se8 {x : Nat → Int32} {b i j : Nat} {e q v : Int32} (hi : i < 6) (hj : j < 6) : ob_se x b i e q v (b + 8 + j) = if j = i then q else x (b + 8 + j) := by
  unfold ob_se
  rw [pk_un (by omega)]
  by_cases h : j = i
  · rw [if_pos h, h]; exact pk_us
  · rw [if_neg h, pk_un (by omega)]; exact pk_un (by omega)
theorem ob_se14 {x : Nat → Int32} {b i j : Nat} {e q v : Int32} (hi : i < 6) (hj : j < 6) : ob_se x b i e q v (b + 14 + j) = if j = i then e else x (b + 14 + j) := by
  unfold ob_se
  by_cases h : j = i
  · rw [if_pos h, h]; exact pk_us
  · rw [if_neg h, pk_un (by omega), pk_un (by omega)]; exact pk_un (by omega)
theorem ob_seo {x : Nat → Int32} {b i j : Nat} {e q v : Int32} (hi : i < 6) (h : j < b ∨ b + 20 ≤ j) : ob_se x b i e q v j = x j := by
  unfold ob_se
  rw [pk_un (by omega), pk_un (by omega), pk_un (by omega)]
theorem ob_renew {x K S V Q E : Nat → Int32} {b s c : Nat} (hK : K s = nI c) (hS : S s = 0) : ob_Rc (ob_rn x b (nI c)) b K S V Q E s c 0 := by
  refine ⟨ob_rn0, (ob_rni (by omega) (by omega)).trans nI_0.symm, hK, hS.trans nI_0.symm, fun i hi => absurd hi (by omega), fun i _ hi => ⟨ob_rni (by omega) (by omega), ob_rni (by omega) (by omega), ob_rni (by omega) (by omega)⟩, fun _ i hi => ob_rni (by omega) (by omega)⟩
/-- a value behind the last one; no table -/
theorem ob_add {x K S V Q E K' S' V' Q' E' : Nat → Int32} {b s c n : Nat} {q v : Int32} (h : ob_Rc x b K S V Q E s c n) (hn : n < 6) (hc : c ≠ 4) (hK : K' s = nI c) (hS : S' s = nI (n + 1))
    (hv : ∀ i, i < n → V' (6 * s + i) = V (6 * s + i) ∧ Q' (6 * s + i) = Q (6 * s + i)) (hv1 : V' (6 * s + n) = v) (hq1 : Q' (6 * s + n) = q) (hl : ob_Lk q v) :
    ob_Rc (upd (ob_se x b n 0 q v) (b + 1) (nI (n + 1))) b K' S' V' Q' E' s c (n + 1) := by
  obtain ⟨h1, h2, h3, h4, h6, h7, h8⟩ := h
  refine ⟨?_, pk_us, hK, hS, fun i hi hi6 => ?_, fun i hi hi6 => ?_, fun _ i hi => ?_⟩
  · rw [pk_un (by omega), ob_se0]; exact h1
  · by_cases e : i = n
    · subst e
      refine ⟨?_, ?_, fun z => absurd z hc, ?_⟩
      · rw [pk_un (by omega), ob_se2 hi6 hi6, if_pos rfl, hv1]
      · rw [pk_un (by omega), ob_se8 hi6 hi6, if_pos rfl, hq1]
      · rw [hv1, hq1]; exact hl
    · obtain ⟨e1, e2, e3, e4⟩ := h6 i (by omega) hi6
      obtain ⟨v1, v2⟩ := hv i (by omega)
      refine ⟨?_, ?_, fun z => absurd z hc, ?_⟩
      · rw [pk_un (by omega), ob_se2 hn hi6, if_neg e, v1]; exact e1
      · rw [pk_un (by omega), ob_se8 hn hi6, if_neg e, v2]; exact e2
      · rw [v1, v2]; exact e4
  · obtain ⟨e1, e2, e3⟩ := h7 i (by omega) hi6
    refine ⟨?_, ?_, ?_⟩
    · rw [pk_un (by omega), ob_se2 hn hi6, if_neg (by omega)]; exact e1
    · rw [pk_un (by omega), ob_se8 hn hi6, if_neg (by omega)]; exact e2
    · rw [pk_un (by omega), ob_se14 hn hi6, if_neg (by omega)]; exact e3
  · rw [pk_un (by omega), ob_se14 hn hi]
    by_cases e : i = n
    · rw [if_pos e]
    · rw [if_neg e]; exact h8 hc i hi
/-- the last value away -/
theorem ob_drop {x K S V Q E S' : Nat → Int32} {b s c n : Nat} (h : ob_Rc x b K S V Q E s c (n + 1)) (hn : n < 6) (hS : S' s = nI n) :
    ob_Rc (upd (ob_se x b n 0 0 0) (b + 1) (nI n)) b K S' V Q E s c n := by
  obtain ⟨h1, h2, h3, h4, h6, h7, h8⟩ := h
  refine ⟨?_, pk_us, h3, hS, fun i hi hi6 => ?_, fun i hi hi6 => ?_, fun hc i hi => ?_⟩
  · rw [pk_un (by omega), ob_se0]; exact h1
  · obtain ⟨e1, e2, e3, e4⟩ := h6 i (by omega) hi6
    refine ⟨?_, ?_, fun hc => ?_, e4⟩
    · rw [pk_un (by omega), ob_se2 hn hi6, if_neg (by omega)]; exact e1
    · rw [pk_un (by omega), ob_se8 hn hi6, if_neg (by omega)]; exact e2
    · rw [pk_un (by omega), ob_se14 hn hi6, if_neg (by omega)]; exact e3 hc
  · by_cases e : i = n
    · subst e
      refine ⟨?_, ?_, ?_⟩
      · rw [pk_un (by omega), ob_se2 hn hi6, if_pos rfl]
      · rw [pk_un (by omega), ob_se8 hn hi6, if_pos rfl]
      · rw [pk_un (by omega), ob_se14 hn hi6, if_pos rfl]
    · obtain ⟨e1, e2, e3⟩ := h7 i (by omega) hi6
      refine ⟨?_, ?_, ?_⟩
      · rw [pk_un (by omega), ob_se2 hn hi6, if_neg e]; exact e1
      · rw [pk_un (by omega), ob_se8 hn hi6, if_neg e]; exact e2
      · rw [pk_un (by omega), ob_se14 hn hi6, if_neg e]; exact e3
  · rw [pk_un (by omega), ob_se14 hn hi]
    by_cases e : i = n
    · rw [if_pos e]
    · rw [if_neg e]; exact h8 hc i hi
/-! tables: a hole at i among the entries 0 .. n -/
def ob_Ho (x : Nat → Int32) (b : Nat) (V Q E : Nat → Int32) (y n i : Nat) : Prop := ∀ j, j ≤ n → j ≠ i → ob_En x b V Q E y 4 j
theorem ob_Hos {x V Q E : Nat → Int32} {b y n i : Nat} {e q v : Int32} (hn : n < 6) (hi : i ≤ n) (h : ob_Ho x b V Q E y n i) (hl : ob_Lk q v) :
    ∀ j, j ≤ n → ob_En (ob_se x b i e q v) b (upd V (y + i) v) (upd Q (y + i) q) (upd E (y + i) e) y 4 j := by
  intro j hj
  unfold ob_En
  rw [ob_se2 (by omega) (by omega), ob_se8 (by omega) (by omega), ob_se14 (by omega) (by omega)]
  by_cases z : j = i
  · subst z
    rw [if_pos rfl, if_pos rfl, if_pos rfl, pk_us, pk_us, pk_us]
    exact ⟨rfl, rfl, fun _ => rfl, hl⟩
  · rw [if_neg z, if_neg z, if_neg z, pk_un (by omega), pk_un (by omega), pk_un (by omega)]
    exact h j hj z
/-- one step of the shift -/
def ob_mx (x : Nat → Int32) (b i : Nat) : Nat → Int32 := ob_se x b (i + 1) (x (b + 14 + i)) (x (b + 8 + i)) (x (b + 2 + i))
def ob_mv (V : Nat → Int32) (y i : Nat) : Nat → Int32 := upd V (y + (i + 1)) (V (y + i))
theorem ob_Hm {x V Q E : Nat → Int32} {b y n i : Nat} (hn : n < 6) (hi : i + 1 ≤ n) (h : ob_Ho x b V Q E y n (i + 1)) : ob_Ho (ob_mx x b i) b (ob_mv V y i) (ob_mv Q y i) (ob_mv E y i) y n i := by
  obtain ⟨e1, e2, e3, e4⟩ := h i (by omega) (by omega)
  intro j hj _
  unfold ob_mx ob_mv
  rw [e1, e2, e3 rfl]
  exact ob_Hos hn hi h e4 j hj
/-- the shift from p + d down to p -/
def ob_mxs (b p : Nat) : Nat → (Nat → Int32) → Nat → Int32
  | 0, x => x
  | d + 1, x => ob_mxs b p d (ob_mx x b (p + d))
def ob_mvs (y p : Nat) : Nat → (Nat → Int32) → Nat → Int32
  | 0, V => V
  | d + 1, V => ob_mvs y p d (ob_mv V y (p + d))
theorem ob_Hms {b y n p : Nat} (hn : n < 6) : ∀ d (x V Q E : Nat → Int32), p + d ≤ n → ob_Ho x b V Q E y n (p + d) → ob_Ho (ob_mxs b p d x) b (ob_mvs y p d V) (ob_mvs y p d Q) (ob_mvs y p d E) y n p := by
  intro d
  induction d with
  | zero => exact fun _ _ _ _ _ h => h
  | succ d ih => exact fun x V Q E hd h => ih _ _ _ _ (by omega) (ob_Hm hn hd h)
theorem ob_mxso {b p : Nat} : ∀ d (x : Nat → Int32), p + d < 6 → (∀ j, j < b + 2 ∨ b + 20 ≤ j → ob_mxs b p d x j = x j) ∧ (∀ j, p + d < j → j < 6 → ob_mxs b p d x (b + 2 + j) = x (b + 2 + j) ∧ ob_mxs b p d x (b + 8 + j) = x (b + 8 + j) ∧ ob_mxs b p d x (b + 14 + j) = x (b + 14 + j)) := by
  intro d
  induction d with
  | zero => exact fun _ _ => ⟨fun _ _ => rfl, fun _ _ _ => ⟨rfl, rfl, rfl⟩⟩
  | succ d ih =>
    intro x hd
    obtain ⟨a, c⟩ := ih (ob_mx x b (p + d)) (by omega)
    refine ⟨fun j hj => ?_, fun j h1 h6 => ?_⟩
    · show ob_mxs b p d (ob_mx x b (p + d)) j = x j
      rw [a j hj]
      unfold ob_mx ob_se
      rw [pk_un (by omega), pk_un (by omega), pk_un (by omega)]
    · obtain ⟨c1, c2, c3⟩ := c j (by omega) h6
      show ob_mxs b p d (ob_mx x b (p + d)) _ = _ ∧ ob_mxs b p d (ob_mx x b (p + d)) _ = _ ∧ ob_mxs b p d (ob_mx x b (p + d)) _ = _
      rw [c1, c2, c3]
      unfold ob_mx
      rw [ob_se2 (by omega) h6, ob_se8 (by omega) h6, ob_se14 (by omega) h6, if_neg (by omega), if_neg (by omega), if_neg (by omega)]
      exact ⟨rfl, rfl, rfl⟩
theorem ob_mvso {y p : Nat} : ∀ d (V : Nat → Int32), p + d < 6 → ∀ j, j < y ∨ y + 6 ≤ j → ob_mvs y p d V j = V j := by
  intro d
  induction d with
  | zero => exact fun _ _ _ _ => rfl
  | succ d ih =>
    intro V hd j hj
    show ob_mvs y p d (ob_mv V y (p + d)) j = V j
    rw [ih _ (by omega) j hj]
    unfold ob_mv
    rw [pk_un (by omega)]
/-- an entry in place of one that has the key -/
theorem ob_put1 {x K S V Q E : Nat → Int32} {b s n i : Nat} {e q v : Int32} (h : ob_Rc x b K S V Q E s 4 n) (hi : i < n) (hn : n ≤ 3) (hl : ob_Lk q v) :
    ob_Rc (ob_se x b i e q v) b K S (upd V (6 * s + i) v) (upd Q (6 * s + i) q) (upd E (6 * s + i) e) s 4 n := by
  obtain ⟨h1, h2, h3, h4, h6, h7, h8⟩ := h
  refine ⟨ob_se0.trans h1, ob_se1.trans h2, h3, h4, fun j hj hj6 => ?_, fun j hj hj6 => ?_, fun z => absurd rfl z⟩
  · exact ob_Hos (n := n - 1) (by omega) (by omega) (fun j' hj' _ => h6 j' (by omega) (by omega)) hl j (by omega)
  · obtain ⟨e1, e2, e3⟩ := h7 j hj hj6
    unfold ob_Ze
    rw [ob_se2 (by omega) hj6, ob_se8 (by omega) hj6, ob_se14 (by omega) hj6, if_neg (by omega), if_neg (by omega), if_neg (by omega)]
    exact ⟨e1, e2, e3⟩
/-- a new entry at p, those behind it shifted: n = p + d before -/
theorem ob_put2 {x K S V Q E S' : Nat → Int32} {b s p d : Nat} {e q v : Int32} (h : ob_Rc x b K S V Q E s 4 (p + d)) (hn : p + d < 3) (hS : S' s = nI (p + d + 1)) (hl : ob_Lk q v) :
    ob_Rc (ob_se (upd (ob_mxs b p d x) (b + 1) (nI (p + d + 1))) b p e q v) b K S' (upd (ob_mvs (6 * s) p d V) (6 * s + p) v) (upd (ob_mvs (6 * s) p d Q) (6 * s + p) q) (upd (ob_mvs (6 * s) p d E) (6 * s + p) e) s 4 (p + d + 1) := by
  obtain ⟨h1, h2, h3, h4, h6, h7, h8⟩ := h
  obtain ⟨a, c⟩ := ob_mxso (b := b) (p := p) d x (by omega)
  have ho : ob_Ho (ob_mxs b p d x) b (ob_mvs (6 * s) p d V) (ob_mvs (6 * s) p d Q) (ob_mvs (6 * s) p d E) (6 * s) (p + d) p :=
    ob_Hms (by omega) d x V Q E (Nat.le_refl _) (fun j hj hne => h6 j (by omega) (by omega))
  have ho2 : ob_Ho (upd (ob_mxs b p d x) (b + 1) (nI (p + d + 1))) b (ob_mvs (6 * s) p d V) (ob_mvs (6 * s) p d Q) (ob_mvs (6 * s) p d E) (6 * s) (p + d) p := by
    intro j hj hne
    have := ho j hj hne
    unfold ob_En at this ⊢
    rw [pk_un (by omega), pk_un (by omega), pk_un (by omega)]
    exact this
  refine ⟨?_, ?_, h3, hS, fun j hj hj6 => ?_, fun j hj hj6 => ?_, fun z => absurd rfl z⟩
  · rw [ob_se0, pk_un (by omega), a _ (by omega)]; exact h1
  · rw [ob_se1, pk_us]
  · exact ob_Hos (n := p + d) (by omega) (by omega) ho2 hl j (by omega)
  · obtain ⟨e1, e2, e3⟩ := h7 j (by omega) hj6
    obtain ⟨c1, c2, c3⟩ := c j (by omega) hj6
    unfold ob_Ze
    rw [ob_se2 (by omega) hj6, ob_se8 (by omega) hj6, ob_se14 (by omega) hj6, if_neg (by omega), if_neg (by omega), if_neg (by omega), pk_un (by omega), pk_un (by omega), pk_un (by omega), c1, c2, c3]
    exact ⟨e1, e2, e3⟩
end
section
/-! copies of images -/
def ob_Cp (K S V Q E K' S' V' Q' E' : Nat → Int32) (g t : Nat) : Prop :=
  (∀ o, o < 9 → K' (9 * t + o) = K (9 * g + o) ∧ S' (9 * t + o) = S (9 * g + o)) ∧
  (∀ j, j < 54 → V' (54 * t + j) = V (54 * g + j) ∧ Q' (54 * t + j) = Q (54 * g + j) ∧ E' (54 * t + j) = E (54 * g + j)) ∧
  (∀ s, s < 9 * t ∨ 9 * t + 9 ≤ s → K' s = K s ∧ S' s = S s) ∧
  (∀ j, j < 54 * t ∨ 54 * t + 54 ≤ j → V' j = V j ∧ Q' j = Q j ∧ E' j = E j)
theorem ob_cpIm {x x' K S V Q E K' S' V' Q' E' : Nat → Int32} {a a' g t : Nat} (hc : ob_Cp K S V Q E K' S' V' Q' E' g t) (h : ob_Im x a K S V Q E g) (hx : ∀ j, j < 160 → x' (a' + j) = x (a + j)) : ob_Im x' a' K' S' V' Q' E' t := by
  obtain ⟨c1, c2, _, _⟩ := hc
  intro m hm
  obtain ⟨c, n, h⟩ := h m hm
  refine ⟨c, n, ob_tr h (fun j hj => ?_) (c1 (m + 1) (by omega)).1 (c1 (m + 1) (by omega)).2 (fun j hj => ?_)⟩
  · have := hx (m * 20 + j) (by omega)
    rw [← Nat.add_assoc, ← Nat.add_assoc] at this
    exact this
  · have := c2 (6 * (m + 1) + j) (by omega)
    rw [show 6 * (9 * t + (m + 1)) + j = 54 * t + (6 * (m + 1) + j) from by omega, show 6 * (9 * g + (m + 1)) + j = 54 * g + (6 * (m + 1) + j) from by omega]
    exact this
theorem ob_cpKeep {x K S V Q E K' S' V' Q' E' : Nat → Int32} {a g g' t : Nat} (hc : ob_Cp K S V Q E K' S' V' Q' E' g t) (h : ob_Im x a K S V Q E g') (ne : g' ≠ t) : ob_Im x a K' S' V' Q' E' g' := by
  obtain ⟨_, _, c3, c4⟩ := hc
  intro m hm
  obtain ⟨c, n, h⟩ := h m hm
  refine ⟨c, n, ob_tr h (fun j hj => rfl) (c3 _ (by omega)).1 (c3 _ (by omega)).2 (fun j hj => c4 _ (by omega))⟩
theorem ob_save {x f f' K S V Q E K' S' V' Q' E' : Nat → Int32} {r : Nat} (hr : r < 5) (hl : ob_Im x 0 K S V Q E 0) (hf : ∀ q, q < r → ob_Im f (q * 160) K S V Q E (q + 1))
    (h1 : ∀ w, w < 160 → f' (r * 160 + w) = x w) (h2 : ∀ j, j < r * 160 → f' j = f j) (hc : ob_Cp K S V Q E K' S' V' Q' E' 0 (r + 1)) : ob_R (nI (r + 1)) x f' (nI (r + 1)) K' S' V' Q' E' := by
  refine ⟨r + 1, by omega, rfl, rfl, ob_cpKeep hc hl (by omega), fun q hq => ?_⟩
  by_cases e : q = r
  · subst e
    exact ob_cpIm hc hl (fun j hj => by rw [Nat.zero_add]; exact h1 j hj)
  · have h := ob_cpKeep hc (hf q (by omega)) (by omega)
    intro m hm
    obtain ⟨c, n, h⟩ := h m hm
    exact ⟨c, n, ob_tr h (fun j hj => h2 _ (by omega)) rfl rfl (fun _ _ => ⟨rfl, rfl, rfl⟩)⟩
theorem ob_open {x' f K S V Q E K' S' V' Q' E' : Nat → Int32} {r q : Nat} (hr : r ≤ 5) (hq : q < r) (hf : ∀ q, q < r → ob_Im f (q * 160) K S V Q E (q + 1))
    (h1 : ∀ w, w < 160 → x' w = f (q * 160 + w)) (hc : ob_Cp K S V Q E K' S' V' Q' E' (q + 1) 0) : ob_R (nI r) x' f (nI r) K' S' V' Q' E' := by
  refine ⟨r, hr, rfl, rfl, ob_cpIm hc (hf q hq) (fun j hj => by rw [Nat.zero_add]; exact h1 j hj), fun q' hq' => ob_cpKeep hc (hf q' hq') (by omega)⟩
theorem ob_init : ob_R 0 (fun _ => 0) (fun _ => 0) 0 (fun _ => 0) (fun _ => 0) (fun _ => 0) (fun _ => 0) (fun _ => 0) := by
  refine ⟨0, by omega, nI_0.symm, nI_0.symm, fun m hm => ⟨0, 0, ⟨nI_0.symm, nI_0.symm, nI_0.symm, nI_0.symm, fun i hi => absurd hi (by omega), fun i _ _ => ⟨rfl, rfl, rfl⟩, fun _ i _ => rfl⟩, ⟨by omega, by omega, by omega, by omega, by omega, by omega, by omega⟩, fun z => absurd z (by omega)⟩, fun q hq => absurd hq (by omega)⟩
/-! equal records -/
def ob_Eq (K S V Q E : Nat → Int32) (s s' n : Nat) : Prop := K s = K s' ∧ S s = S s' ∧ ∀ i, i < n → V (6 * s + i) = V (6 * s' + i) ∧ Q (6 * s + i) = Q (6 * s' + i) ∧ (K s = 4 → E (6 * s + i) = E (6 * s' + i))
theorem ob_same1 {x y K S V Q E : Nat → Int32} {b b' s s' c n c' n' : Nat} (h : ob_Rec x b K S V Q E s c n) (h' : ob_Rec y b' K S V Q E s' c' n') (e : ∀ j, j < 20 → y (b' + j) = x (b + j)) : ob_Eq K S V Q E s s' n := by
  obtain ⟨⟨h1, h2, h3, h4, h6, h7, h8⟩, hz, _⟩ := h
  obtain ⟨⟨g1, g2, g3, g4, g6, g7, g8⟩, gz, _⟩ := h'
  have z1 := hz.1
  have z2 := hz.2.1
  have y1 := gz.1
  have y2 := gz.2.1
  have ec : c' = c := (nI_eq (by omega) (by omega)).mp (g1.symm.trans ((e 0 (by omega)).trans h1))
  have en : n' = n := (nI_eq (by omega) (by omega)).mp (g2.symm.trans ((e 1 (by omega)).trans h2))
  subst ec en
  refine ⟨h3.trans g3.symm, h4.trans g4.symm, fun i hi => ?_⟩
  obtain ⟨a1, a2, a3, _⟩ := h6 i hi (by omega)
  obtain ⟨b1, b2, b3, _⟩ := g6 i hi (by omega)
  have ex : ∀ a, a + i < 20 → y (b' + a + i) = x (b + a + i) := fun a ha => by
    rw [Nat.add_assoc, Nat.add_assoc]; exact e _ ha
  refine ⟨a1.symm.trans ((ex 2 (by omega)).symm.trans b1), a2.symm.trans ((ex 8 (by omega)).symm.trans b2), fun k4 => ?_⟩
  have c4 : c' = 4 := (nI_eq (b := 4) (by omega) (by omega)).mp (h3.symm.trans k4)
  exact (a3 c4).symm.trans ((ex 14 (by omega)).symm.trans (b3 c4))
theorem ob_same2 {x y K S V Q E : Nat → Int32} {b b' s s' c n c' n' : Nat} (h : ob_Rec x b K S V Q E s c n) (h' : ob_Rec y b' K S V Q E s' c' n') (e : ob_Eq K S V Q E s s' n) : ∀ j, j < 20 → y (b' + j) = x (b + j) := by
  obtain ⟨⟨h1, h2, h3, h4, h6, h7, h8⟩, hz, _⟩ := h
  obtain ⟨⟨g1, g2, g3, g4, g6, g7, g8⟩, gz, _⟩ := h'
  obtain ⟨e1, e2, e3⟩ := e
  have z1 := hz.1
  have z2 := hz.2.1
  have y1 := gz.1
  have y2 := gz.2.1
  have ec : c' = c := (nI_eq (by omega) (by omega)).mp (g3.symm.trans (e1.symm.trans h3))
  have en : n' = n := (nI_eq (by omega) (by omega)).mp (g4.symm.trans (e2.symm.trans h4))
  subst ec en
  intro j hj
  by_cases j0 : j = 0
  · subst j0; exact g1.trans h1.symm
  by_cases j1 : j = 1
  · subst j1; exact g2.trans h2.symm
  by_cases j2 : j < 8
  · obtain ⟨i, rfl⟩ : ∃ i, j = 2 + i := ⟨j - 2, by omega⟩
    rw [← Nat.add_assoc, ← Nat.add_assoc]
    by_cases hi : i < n'
    · exact (g6 i hi (by omega)).1.trans ((e3 i hi).1.symm.trans (h6 i hi (by omega)).1.symm)
    · exact (g7 i (by omega) (by omega)).1.trans (h7 i (by omega) (by omega)).1.symm
  by_cases j3 : j < 14
  · obtain ⟨i, rfl⟩ : ∃ i, j = 8 + i := ⟨j - 8, by omega⟩
    rw [← Nat.add_assoc, ← Nat.add_assoc]
    by_cases hi : i < n'
    · exact (g6 i hi (by omega)).2.1.trans ((e3 i hi).2.1.symm.trans (h6 i hi (by omega)).2.1.symm)
    · exact (g7 i (by omega) (by omega)).2.1.trans (h7 i (by omega) (by omega)).2.1.symm
  obtain ⟨i, rfl⟩ : ∃ i, j = 14 + i := ⟨j - 14, by omega⟩
  rw [← Nat.add_assoc, ← Nat.add_assoc]
  by_cases hi : i < n'
  · by_cases c4 : c' = 4
    · exact ((g6 i hi (by omega)).2.2.1 c4).trans (((e3 i hi).2.2 (by rw [h3, c4]; rfl)).symm.trans ((h6 i hi (by omega)).2.2.1 c4).symm)
    · exact (g8 c4 i (by omega)).trans (h8 c4 i (by omega)).symm
  · exact (g7 i (by omega) (by omega)).2.2.trans (h7 i (by omega) (by omega)).2.2.symm
/-! links -/
def ob_Ed (S V Q : Nat → Int32) (a b : Nat) : Prop := ∃ i : Nat, i < 6 ∧ nI i < S (a + 1) ∧ Q (6 * (a + 1) + i) = 2 ∧ V (6 * (a + 1) + i) = nI (b + 1)
end
section
/-! running sums that both sides reckon -/
def ob_lk (V Q : Nat → Int32) (y : Nat) (t : Int32) : Nat → Int32
  | 0 => 0
  | i + 1 => if Q (y + i) = 2 ∧ V (y + i) = t then ob_lk V Q y t i + 1 else ob_lk V Q y t i
def ob_ls (S V Q : Nat → Int32) (t : Int32) : Nat → Int32
  | 0 => 0
  | m + 1 => ob_ls S V Q t m + ob_lk V Q (6 * (m + 1)) t (S (m + 1)).toNatClampNeg
def ob_dv (V : Nat → Int32) (m : Nat) (a : Int32) : Nat → Int32
  | 0 => a
  | i + 1 => ob_dv V m a i + (8 * nI (m + 1) + nI i + 1) * V (6 * (m + 1) + i)
def ob_ds (K S V : Nat → Int32) : Nat → Int32
  | 0 => 0
  | m + 1 => ob_dv V m (ob_ds K S V m + 1000 * nI (m + 1) * K (m + 1)) (S (m + 1)).toNatClampNeg
def ob_ct (K : Nat → Int32) : Nat → Int32
  | 0 => 0
  | m + 1 => if K (m + 1) = 0 then ob_ct K m else ob_ct K m + 1
theorem ob_lk_t {V Q : Nat → Int32} {y i : Nat} {t : Int32} (h : Q (y + i) = 2) (h2 : V (y + i) = t) : ob_lk V Q y t (i + 1) = ob_lk V Q y t i + 1 := if_pos ⟨h, h2⟩
theorem ob_lk_f {V Q : Nat → Int32} {y i : Nat} {t : Int32} (h : ¬ (Q (y + i) = 2 ∧ V (y + i) = t)) : ob_lk V Q y t (i + 1) = ob_lk V Q y t i := if_neg h
theorem ob_ct_t {K : Nat → Int32} {m : Nat} (h : K (m + 1) = 0) : ob_ct K (m + 1) = ob_ct K m := if_pos h
theorem ob_ct_f {K : Nat → Int32} {m : Nat} (h : ¬ K (m + 1) = 0) : ob_ct K (m + 1) = ob_ct K m + 1 := if_neg h
/-! objects that become absent one behind another -/
def ob_sx (sw : Nat → Bool) (x : Nat → Int32) : Nat → Nat → Int32
  | 0 => x
  | m + 1 => if sw m = true then ob_rn (ob_sx sw x m) (m * 20) 0 else ob_sx sw x m
def ob_sk (sw : Nat → Bool) (K : Nat → Int32) : Nat → Nat → Int32
  | 0 => K
  | m + 1 => if sw m = true then upd (ob_sk sw K m) (m + 1) 0 else ob_sk sw K m
def ob_sn (sw : Nat → Bool) : Nat → Int32
  | 0 => 0
  | m + 1 => if sw m = true then ob_sn sw m + 1 else ob_sn sw m
theorem ob_sx_t {sw : Nat → Bool} {x : Nat → Int32} {m : Nat} (h : sw m = true) : ob_sx sw x (m + 1) = ob_rn (ob_sx sw x m) (m * 20) 0 := if_pos h
theorem ob_sx_f {sw : Nat → Bool} {x : Nat → Int32} {m : Nat} (h : ¬ sw m = true) : ob_sx sw x (m + 1) = ob_sx sw x m := if_neg h
theorem ob_sk_t {sw : Nat → Bool} {x : Nat → Int32} {m : Nat} (h : sw m = true) : ob_sk sw x (m + 1) = upd (ob_sk sw x m) (m + 1) 0 := if_pos h
theorem ob_sk_f {sw : Nat → Bool} {x : Nat → Int32} {m : Nat} (h : ¬ sw m = true) : ob_sk sw x (m + 1) = ob_sk sw x m := if_neg h
theorem ob_sn_t {sw : Nat → Bool} {m : Nat} (h : sw m = true) : ob_sn sw (m + 1) = ob_sn sw m + 1 := if_pos h
theorem ob_sn_f {sw : Nat → Bool} {m : Nat} (h : ¬ sw m = true) : ob_sn sw (m + 1) = ob_sn sw m := if_neg h
theorem ob_sx_o {sw : Nat → Bool} {x : Nat → Int32} : ∀ m j, m * 20 ≤ j → ob_sx sw x m j = x j := by
  intro m
  induction m with
  | zero => exact fun _ _ => rfl
  | succ m ih =>
    intro j hj
    by_cases h : sw m = true
    · rw [ob_sx_t h, ob_rno (by omega)]; exact ih j (by omega)
    · rw [ob_sx_f h]; exact ih j (by omega)
theorem ob_sk_o {sw : Nat → Bool} {K : Nat → Int32} : ∀ m s, m < s → ob_sk sw K m s = K s := by
  intro m
  induction m with
  | zero => exact fun _ _ => rfl
  | succ m ih =>
    intro s hs
    by_cases h : sw m = true
    · rw [ob_sk_t h, pk_un (by omega)]; exact ih s (by omega)
    · rw [ob_sk_f h]; exact ih s (by omega)
theorem ob_sz0 : ob_Sz 0 0 := ⟨by omega, by omega, by omega, by omega, by omega, by omega, by omega⟩
theorem ob_away {sv rv : Int32} {x f K S V Q E : Nat → Int32} {m : Nat} (h : ob_R sv x f rv K S V Q E) (hm : m < 8) : ob_R sv (ob_rn x (m * 20) 0) f rv (upd K (m + 1) 0) (upd S (m + 1) 0) V Q E :=
  ob_step h hm ⟨0, 0, ob_renew (c := 0) pk_us pk_us, ob_sz0, fun z => absurd z (by omega)⟩ (fun j hj => ob_rno hj) (fun s hs => ⟨pk_un hs, pk_un hs⟩) (fun _ _ => ⟨rfl, rfl, rfl⟩)
theorem ob_sR {sv rv : Int32} {x f K S V Q E : Nat → Int32} {sw : Nat → Bool} (h : ob_R sv x f rv K S V Q E) : ∀ m, m ≤ 8 → ob_R sv (ob_sx sw x m) f rv (ob_sk sw K m) (ob_sk sw S m) V Q E := by
  intro m
  induction m with
  | zero => exact fun _ => h
  | succ m ih =>
    intro hm
    by_cases z : sw m = true
    · rw [ob_sx_t z, ob_sk_t z, ob_sk_t z]; exact ob_away (ih (by omega)) (by omega)
    · rw [ob_sx_f z, ob_sk_f z, ob_sk_f z]; exact ih (by omega)
end
section
/-! the component's own small methods -/
section OD
variable {sv : Int32} {x f : Nat → Int32} {m : Nat}
theorem od_good {post : Int32 → Prop} (hm : m < 8) (h : post 1) : wpX_isGood post (nI (m + 1)) := br_f (oa_nlt1 hm) (br_f (oa_ngt8 hm) h)
theorem od_bad {post : Int32 → Prop} {o : Int32} (ho : o < 1 ∨ 8 < o) (h : post 0) : wpX_isGood post o := by
  by_cases h1 : o < 1
  · exact br_t h1 h
  · rcases ho with h8 | h8
    · exact absurd h8 h1
    · exact br_f h1 (br_t h8 h)
theorem od_rec {post : Int32 → Prop} (h : post (nI (m * 20))) : wpX_recordOf post (nI (m + 1)) := by
  unfold wpX_recordOf
  rw [oa_rec]; exact h
theorem od_kind {post : Int32 → Prop} (hm : m < 8) (h : post (x (m * 20))) : wpX_kindOf post (sv, x, f) (nI (m + 1)) := by
  unfold wpX_kindOf
  dsimp only
  refine od_rec ?_
  rw [Int32.add_zero, nI_clamp (by omega)]
  exact ⟨vp_in_nI (by omega) (by omega), h⟩
theorem od_size {post : Int32 → Prop} (hm : m < 8) (h : post (x (m * 20 + 1))) : wpX_sizeOf post (sv, x, f) (nI (m + 1)) := by
  unfold wpX_sizeOf
  dsimp only
  refine od_rec ?_
  rw [oa_p1, nI_clamp (by omega)]
  exact ⟨vp_in_nI (by omega) (by omega), h⟩
theorem od_val {post : Int32 → Prop} {i : Nat} (hm : m < 8) (hi : i < 6) (h : post (x (m * 20 + 2 + i))) : wpX_valueAt post (sv, x, f) (nI (m + 1)) (nI i) := by
  unfold wpX_valueAt
  dsimp only
  refine od_rec ?_
  rw [oa_p2, nI_add, nI_clamp (by omega)]
  exact ⟨vp_in_nI (by omega) (by omega), h⟩
theorem od_vk {post : Int32 → Prop} {i : Nat} (hm : m < 8) (hi : i < 6) (h : post (x (m * 20 + 8 + i))) : wpX_valueKindAt post (sv, x, f) (nI (m + 1)) (nI i) := by
  unfold wpX_valueKindAt
  dsimp only
  refine od_rec ?_
  rw [oa_p8, nI_add, nI_clamp (by omega)]
  exact ⟨vp_in_nI (by omega) (by omega), h⟩
theorem od_key {post : Int32 → Prop} {i : Nat} (hm : m < 8) (hi : i < 6) (h : post (x (m * 20 + 14 + i))) : wpX_keyAt post (sv, x, f) (nI (m + 1)) (nI i) := by
  unfold wpX_keyAt
  dsimp only
  refine od_rec ?_
  rw [oa_p14, nI_add, nI_clamp (by omega)]
  exact ⟨vp_in_nI (by omega) (by omega), h⟩
theorem od_set {post : SX → Prop} {i : Nat} {e q v : Int32} (hm : m < 8) (hi : i < 6) (h : post (sv, ob_se x (m * 20) i e q v, f)) : wpX_setEntry post (sv, x, f) (nI (m + 1)) (nI i) e q v := by
  unfold wpX_setEntry
  dsimp only
  refine od_rec ?_
  rw [oa_p2, oa_p8, oa_p14, nI_add, nI_add, nI_add, nI_clamp (by omega), nI_clamp (by omega), nI_clamp (by omega)]
  exact ⟨vp_in_nI (by omega) (by omega), nm_e ⟨vp_in_nI (by omega) (by omega), nm_e ⟨vp_in_nI (by omega) (by omega), nm_e h⟩⟩⟩
theorem od_add {post : SX → Prop} {n : Nat} {q v : Int32} (hm : m < 8) (hn : n < 6) (hs : x (m * 20 + 1) = nI n) (h : post (sv, upd (ob_se x (m * 20) n 0 q v) (m * 20 + 1) (nI (n + 1)), f)) : wpX_addValue post (sv, x, f) (nI (m + 1)) q v := by
  unfold wpX_addValue
  dsimp only
  refine od_size hm ?_
  rw [hs]
  refine od_set hm hn ?_
  dsimp only
  refine od_rec ?_
  rw [oa_p1 (m * 20), nI_clamp (by omega), oa_p1 n]
  exact ⟨vp_in_nI (by omega) (by omega), nm_e h⟩
theorem od_drop {post : SX → Prop} {n : Nat} (hm : m < 8) (hn : n < 6) (hs : x (m * 20 + 1) = nI (n + 1)) (h : post (sv, upd (ob_se x (m * 20) n 0 0 0) (m * 20 + 1) (nI n), f)) : wpX_dropLast post (sv, x, f) (nI (m + 1)) := by
  unfold wpX_dropLast
  dsimp only
  refine od_size hm ?_
  rw [hs]
  refine nm_r (nI_pred n) ?_
  refine od_set hm hn ?_
  dsimp only
  refine od_rec ?_
  rw [oa_p1 (m * 20), nI_clamp (by omega)]
  exact ⟨vp_in_nI (by omega) (by omega), nm_e h⟩
def od_z (x : Nat → Int32) (b i : Nat) : Nat → Int32 := fun j => if b ≤ j ∧ j < b + i then 0 else x j
theorem od_z_0 {b : Nat} : od_z x b 0 = x := by
  funext j; unfold od_z; rw [if_neg (by omega)]
theorem od_z_s {b i : Nat} : upd (od_z x b i) (b + i) 0 = od_z x b (i + 1) := by
  funext j
  unfold upd od_z
  by_cases h : j = b + i
  · rw [if_pos h, if_pos (by omega)]
  · rw [if_neg h]
    by_cases h2 : b ≤ j ∧ j < b + i
    · rw [if_pos h2, if_pos (by omega)]
    · rw [if_neg h2, if_neg (by omega)]
theorem od_z_e {b : Nat} {c : Int32} : upd (od_z x b 20) b c = ob_rn x b c := by
  funext j
  unfold upd od_z ob_rn
  rfl
theorem od_renew_l {post : SX → Prop} {c : Int32} {b : Nat} (hb : b + 20 ≤ 160) (h : post (sv, ob_rn x b c, f)) : ∀ d i, i + d = 20 → wX_renew_8 post c (nI b) sv (d + 1) (nI i) (od_z x b i) f := by
  intro d
  induction d with
  | zero =>
    intro i hi
    have e : i = 20 := by omega
    subst e
    refine br_t (nI_le (a := 20) (b := 20) (by omega) (by omega)) ?_
    rw [Int32.add_zero, nI_clamp (by omega)]
    refine ⟨vp_in_nI (by omega) (by omega), nm_e ?_⟩
    rw [od_z_e]; exact h
  | succ d ih =>
    intro i hi
    refine br_f (nI_ge (a := i) (b := 20) (by omega) (by omega)) ?_
    rw [nI_add, nI_clamp (by omega)]
    refine ⟨vp_in_nI (by omega) (by omega), nm_e (nm_r (nI_1 i) ?_)⟩
    rw [od_z_s]; exact ih (i + 1) (by omega)
theorem od_renew {post : SX → Prop} {c : Int32} (hm : m < 8) (h : post (sv, ob_rn x (m * 20) c, f)) : wpX_renew post (sv, x, f) (nI (m + 1)) c := by
  unfold wpX_renew
  dsimp only
  refine od_rec ?_
  have l := od_renew_l (sv := sv) (x := x) (f := f) (post := post) (c := c) (b := m * 20) (by omega) h 20 0 rfl
  rw [od_z_0, nI_0] at l
  exact ⟨_, l⟩
end OD
/-! the reference's own small methods -/
section OE
variable {rv : Int32} {K S V Q E : Nat → Int32} {m : Nat}
theorem oe_good {post : Int32 → Prop} (hm : m < 8) (h : post 0) : wpY_badObject post (rv, K, S, V, Q, E) (nI (m + 1)) := br_f (oa_nlt1 hm) (br_t (oa_le8 hm) h)
theorem oe_bad {post : Int32 → Prop} {o : Int32} (ho : o < 1 ∨ 8 < o) (h : post 1) : wpY_badObject post (rv, K, S, V, Q, E) o := by
  by_cases h1 : o < 1
  · exact br_t h1 h
  · rcases ho with h8 | h8
    · exact absurd h8 h1
    · exact br_f h1 (br_f (Int32.not_le.mpr h8) h)
theorem oe_set {post : SY → Prop} {i : Nat} {q v : Int32} (hm : m < 8) (hi : i < 6) (h : post (rv, K, S, upd V (6 * (m + 1) + i) v, upd Q (6 * (m + 1) + i) q, E)) : wpY_set post (rv, K, S, V, Q, E) (nI (m + 1)) (nI i) q v := by
  unfold wpY_set
  dsimp only
  rw [oa_6, nI_add, nI_clamp (by omega)]
  exact ⟨vp_in_nI (by omega) (by omega), nm_e ⟨vp_in_nI (by omega) (by omega), nm_e h⟩⟩
theorem oe_become1 {post : Int32 → SY → Prop} {c : Int32} (hm : m < 8) (hc : c = 1 ∨ c = 5) (h : post (K (m + 1)) (rv, upd K (m + 1) c, upd S (m + 1) 1, V, Q, E)) : wpY_become post (rv, K, S, V, Q, E) (nI (m + 1)) c := by
  unfold wpY_become
  dsimp only
  have i : vp_in (nI (m + 1)) 54 := vp_in_nI (by omega) (by omega)
  rw [nI_clamp (by omega)]
  refine ⟨i, nm_e ⟨i, nm_e ?_⟩⟩
  by_cases h1 : c = 1
  · exact br_t h1 ⟨i, nm_e h⟩
  · rcases hc with h5 | h5
    · exact absurd h5 h1
    · exact br_f h1 (br_t h5 ⟨i, nm_e h⟩)
theorem oe_become0 {post : Int32 → SY → Prop} {c : Int32} (hm : m < 8) (h1 : ¬ c = 1) (h5 : ¬ c = 5) (h : post (K (m + 1)) (rv, upd K (m + 1) c, upd S (m + 1) 0, V, Q, E)) : wpY_become post (rv, K, S, V, Q, E) (nI (m + 1)) c := by
  unfold wpY_become
  dsimp only
  have i : vp_in (nI (m + 1)) 54 := vp_in_nI (by omega) (by omega)
  rw [nI_clamp (by omega)]
  exact ⟨i, nm_e ⟨i, nm_e (br_f h1 (br_f h5 ⟨i, nm_e h⟩))⟩⟩
theorem oe_add {post : Int32 → SY → Prop} {n : Nat} {q v : Int32} (hm : m < 8) (hn : n < 6) (hs : S (m + 1) = nI n) (h : post (nI (n + 1)) (rv, K, upd S (m + 1) (nI (n + 1)), upd V (6 * (m + 1) + n) v, upd Q (6 * (m + 1) + n) q, E)) : wpY_add post (rv, K, S, V, Q, E) (nI (m + 1)) q v := by
  unfold wpY_add
  dsimp only
  have i : vp_in (nI (m + 1)) 54 := vp_in_nI (by omega) (by omega)
  rw [nI_clamp (by omega), hs]
  refine ⟨i, oe_set hm hn ?_⟩
  dsimp only
  rw [hs, nI_1]
  refine ⟨i, i, nm_e ⟨i, ?_⟩⟩
  rw [pk_us]; exact h
end OE
end
section
def i_Rel (k : Nat) (u : SX) (v : SY) : Prop := ob_R u.1 u.2.1 u.2.2 v.1 v.2.1 v.2.2.1 v.2.2.2.1 v.2.2.2.2.1 v.2.2.2.2.2
theorem i_up {k : Nat} {u : SX} {v : SY} (h : i_Rel k u v) : i_Rel (k + 4) u v := h
theorem i_vc0 : wpX_init (fun u => wpY_init (fun v => i_Rel 0 u v)) := ob_init
theorem og_kind {sv rv : Int32} {x f K S V Q E : Nat → Int32} {m : Nat} (I : ob_R sv x f rv K S V Q E) (hm : m < 8) : K (m + 1) = x (m * 20) := by
  obtain ⟨c, n, ⟨h1, h2, h3, _⟩, _⟩ := ob_at I hm
  rw [h1, h3]
theorem og_size {sv rv : Int32} {x f K S V Q E : Nat → Int32} {m : Nat} (I : ob_R sv x f rv K S V Q E) (hm : m < 8) : S (m + 1) = x (m * 20 + 1) := by
  obtain ⟨c, n, ⟨h1, h2, h3, h4, _⟩, _⟩ := ob_at I hm
  rw [h2, h4]
theorem og_sz1 : ob_Sz 1 1 := ⟨by omega, by omega, by omega, by omega, by omega, by omega, by omega⟩
theorem og_sz5 : ob_Sz 5 1 := ⟨by omega, by omega, by omega, by omega, by omega, by omega, by omega⟩
theorem og_one {sv rv : Int32} {x f K S V Q E : Nat → Int32} {m c : Nat} {q v : Int32} (I : ob_R sv x f rv K S V Q E) (hm : m < 8) (hc : c = 1 ∨ c = 5) (h5 : c = 5 → q = 2) (hl : ob_Lk q v) :
    ob_R sv (upd (ob_se (ob_rn x (m * 20) (nI c)) (m * 20) 0 0 q v) (m * 20 + 1) (nI (0 + 1))) f rv (upd K (m + 1) (nI c)) (upd S (m + 1) 1) (upd V (6 * (m + 1) + 0) v) (upd Q (6 * (m + 1) + 0) q) E := by
  refine ob_step I hm ⟨c, 1, ob_add (K := upd K (m + 1) (nI c)) (S := upd S (m + 1) 0) (V := V) (Q := Q) (E := E) (n := 0) (ob_renew pk_us pk_us) (by omega) (by omega) pk_us pk_us (fun i hi => absurd hi (by omega)) pk_us pk_us hl, ?_, ?_⟩ ?_ ?_ ?_
  · rcases hc with e | e
    · rw [e]; exact og_sz1
    · rw [e]; exact og_sz5
  · intro e; rw [← h5 e]; exact pk_us
  · intro j hj
    rw [pk_un (by omega), ob_seo (by omega) hj, ob_rno hj]
  · intro s hs; exact ⟨pk_un hs, pk_un hs⟩
  · intro j hj; exact ⟨pk_un (by omega), pk_un (by omega), rfl⟩
theorem og_rn1 {x : Nat → Int32} {b : Nat} {c : Int32} : ob_rn x b c (b + 1) = nI 0 := (ob_rni (by omega) (by omega)).trans nI_0.symm
theorem i_vc_setNumber {k : Nat} {u : SX} {v : SY} (I : i_Rel k u v) (hk : k + 4 ≤ 2048) (v1 : Int32) (v2 : Int32) : wpX_setNumber (fun r u' => wpY_setNumber (fun r' v' => r' = r ∧ i_Rel (k + 4) u' v') v v1 v2) u v1 v2 := by
  obtain ⟨sv, x, f⟩ := u
  obtain ⟨rv, K, S, V, Q, E⟩ := v
  have I : ob_R sv x f rv K S V Q E := I
  unfold wpX_setNumber wpY_setNumber
  dsimp only
  rcases oa_obj v1 with hb | ⟨m, hm, rfl⟩
  · exact od_bad hb (br_t rfl (oe_bad hb (br_f oa_10 ⟨rfl, I⟩)))
  · refine od_good hm (br_f oa_10 (od_kind hm (od_renew hm (od_add (n := 0) hm (by omega) og_rn1 ?_))))
    refine oe_good hm (br_t rfl (oe_set (i := 0) hm (by omega) (oe_become1 hm (Or.inl rfl) ?_)))
    exact ⟨og_kind I hm, og_one (c := 1) I hm (Or.inl rfl) (fun z => absurd z (by omega)) (fun z => absurd z (by decide))⟩
theorem i_vc_setLink {k : Nat} {u : SX} {v : SY} (I : i_Rel k u v) (hk : k + 4 ≤ 2048) (v1 : Int32) (v2 : Int32) : wpX_setLink (fun r u' => wpY_setLink (fun r' v' => r' = r ∧ i_Rel (k + 4) u' v') v v1 v2) u v1 v2 := by
  obtain ⟨sv, x, f⟩ := u
  obtain ⟨rv, K, S, V, Q, E⟩ := v
  have I : ob_R sv x f rv K S V Q E := I
  unfold wpX_setLink wpY_setLink
  dsimp only
  rcases oa_obj v1 with hb | ⟨m, hm, rfl⟩
  · exact od_bad hb (br_t rfl (oe_bad hb (br_f oa_10 ⟨rfl, I⟩)))
  · rcases oa_obj v2 with hb | ⟨t, ht, rfl⟩
    · exact od_good hm (br_f oa_10 (od_bad hb (br_t rfl (oe_good hm (br_t rfl (oe_bad hb (br_f oa_10 ⟨rfl, I⟩)))))))
    · refine od_good hm (br_f oa_10 (od_good ht (br_f oa_10 (od_kind hm (od_renew hm (od_add (n := 0) hm (by omega) og_rn1 ?_))))))
      refine oe_good hm (br_t rfl (oe_good ht (br_t rfl (oe_set (i := 0) hm (by omega) (oe_become1 hm (Or.inr rfl) ?_)))))
      exact ⟨og_kind I hm, og_one (c := 5) I hm (Or.inr rfl) (fun _ => rfl) (fun _ => ⟨t, ht, rfl⟩)⟩
end
section
section OF1
variable {sv : Int32} {x f : Nat → Int32} {m : Nat}
theorem od_sizeE {post : Int32 → Prop} {r : Int32} (hm : m < 8) (e : x (m * 20 + 1) = r) (h : post r) : wpX_sizeOf post (sv, x, f) (nI (m + 1)) := od_size hm (by rw [e]; exact h)
theorem od_kindE {post : Int32 → Prop} {r : Int32} (hm : m < 8) (e : x (m * 20) = r) (h : post r) : wpX_kindOf post (sv, x, f) (nI (m + 1)) := od_kind hm (by rw [e]; exact h)
theorem od_valE {post : Int32 → Prop} {i : Nat} {r : Int32} (hm : m < 8) (hi : i < 6) (e : x (m * 20 + 2 + i) = r) (h : post r) : wpX_valueAt post (sv, x, f) (nI (m + 1)) (nI i) := od_val hm hi (by rw [e]; exact h)
theorem od_vkE {post : Int32 → Prop} {i : Nat} {r : Int32} (hm : m < 8) (hi : i < 6) (e : x (m * 20 + 8 + i) = r) (h : post r) : wpX_valueKindAt post (sv, x, f) (nI (m + 1)) (nI i) := od_vk hm hi (by rw [e]; exact h)
theorem od_keyE {post : Int32 → Prop} {i : Nat} {r : Int32} (hm : m < 8) (hi : i < 6) (e : x (m * 20 + 14 + i) = r) (h : post r) : wpX_keyAt post (sv, x, f) (nI (m + 1)) (nI i) := od_key hm hi (by rw [e]; exact h)
theorem od_hv1 {post : Int32 → Prop} {n j : Nat} (hm : m < 8) (hs : x (m * 20 + 1) = nI n) (hn : n ≤ 6) (hj : j < n) (h : post 1) : wpX_hasValue post (sv, x, f) (nI (m + 1)) (nI j) :=
  br_f (nI_pos (by omega)) (od_sizeE hm hs (br_f (nI_ge hj (by omega)) h))
theorem od_hv0 {post : Int32 → Prop} {n : Nat} {o : Int32} (hm : m < 8) (hs : x (m * 20 + 1) = nI n) (ho : o < 0 ∨ nI n ≤ o) (h : post 0) : wpX_hasValue post (sv, x, f) (nI (m + 1)) o := by
  by_cases h0 : o < 0
  · exact br_t h0 h
  · rcases ho with z | z
    · exact absurd z h0
    · exact br_f h0 (od_sizeE hm hs (br_t z h))
end OF1
section OF2
variable {rv : Int32} {K S V Q E : Nat → Int32} {m : Nat}
theorem oe_hv1 {post : Int32 → Prop} {n j : Nat} (hm : m < 8) (hs : S (m + 1) = nI n) (hn : n ≤ 6) (hj : j < n) (h : post 1) : wpY_isValue post (rv, K, S, V, Q, E) (nI (m + 1)) (nI j) := by
  refine br_f (nI_pos (by omega)) ?_
  rw [nI_clamp (by omega), hs]
  exact ⟨vp_in_nI (by omega) (by omega), br_f (nI_ge hj (by omega)) h⟩
theorem oe_hv0 {post : Int32 → Prop} {n : Nat} {o : Int32} (hm : m < 8) (hs : S (m + 1) = nI n) (ho : o < 0 ∨ nI n ≤ o) (h : post 0) : wpY_isValue post (rv, K, S, V, Q, E) (nI (m + 1)) o := by
  by_cases h0 : o < 0
  · exact br_t h0 h
  · rcases ho with z | z
    · exact absurd z h0
    · refine br_f h0 ?_
      rw [nI_clamp (by omega), hs]
      exact ⟨vp_in_nI (by omega) (by omega), br_t z h⟩
theorem oh_item (p0 p1 : Int32) : ((∀ post : Int32 → Prop, post 1 → wpX_isItem post p0 p1) ∧ (∀ (post : Int32 → Prop) (v : SY), post 0 → wpY_badItem post v p0 p1) ∧ ob_Lk p0 p1) ∨
    ((∀ post : Int32 → Prop, post 0 → wpX_isItem post p0 p1) ∧ (∀ (post : Int32 → Prop) (v : SY), post 1 → wpY_badItem post v p0 p1)) := by
  by_cases h0 : p0 < 0
  · exact Or.inr ⟨fun _ hp => br_t h0 hp, fun _ _ hp => br_t h0 hp⟩
  by_cases h2 : 2 < p0
  · exact Or.inr ⟨fun _ hp => br_f h0 (br_t h2 hp), fun _ _ hp => br_f h0 (br_f (Int32.not_le.mpr h2) hp)⟩
  have g2 : p0 ≤ 2 := Int32.not_lt.mp h2
  by_cases e0 : p0 = 0
  · exact Or.inl ⟨fun _ hp => br_f h0 (br_f h2 (br_t e0 hp)), fun _ _ hp => br_f h0 (br_t g2 (br_t e0 hp)), fun z => by rw [e0] at z; exact absurd z (by decide)⟩
  by_cases e1 : p0 = 1
  · by_cases a : p1 < 0
    · exact Or.inr ⟨fun _ hp => br_f h0 (br_f h2 (br_f e0 (br_t e1 (br_t a hp)))), fun _ _ hp => br_f h0 (br_t g2 (br_f e0 (br_t e1 (br_t a hp))))⟩
    by_cases b : 63 < p1
    · exact Or.inr ⟨fun _ hp => br_f h0 (br_f h2 (br_f e0 (br_t e1 (br_f a (br_t b hp))))), fun _ _ hp => br_f h0 (br_t g2 (br_f e0 (br_t e1 (br_f a (br_f (Int32.not_le.mpr b) hp)))))⟩
    · exact Or.inl ⟨fun _ hp => br_f h0 (br_f h2 (br_f e0 (br_t e1 (br_f a (br_f b hp))))), fun _ _ hp => br_f h0 (br_t g2 (br_f e0 (br_t e1 (br_f a (br_t (Int32.not_lt.mp b) hp))))), fun z => by rw [e1] at z; exact absurd z (by decide)⟩
  have e2 : p0 = 2 := by
    obtain ⟨j, hj, rfl⟩ := nI_of2 (M := 2) (n := 2) (by decide) h0 g2
    have j0 : j ≠ 0 := fun z => e0 (by rw [z]; exact nI_0)
    have j1 : j ≠ 1 := fun z => e1 (by rw [z]; rfl)
    have : j = 2 := by omega
    rw [this]; rfl
  rcases oa_obj p1 with hb | ⟨t, ht, rfl⟩
  · exact Or.inr ⟨fun _ hp => br_f h0 (br_f h2 (br_f e0 (br_f e1 (br_t e2 (od_bad hb ⟨oa_nb0, hp⟩))))), fun _ ⟨_, _, _, _, _, _⟩ hp => br_f h0 (br_t g2 (br_f e0 (br_f e1 (oe_bad hb ⟨oa_nb1, hp⟩))))⟩
  · exact Or.inl ⟨fun _ hp => br_f h0 (br_f h2 (br_f e0 (br_f e1 (br_t e2 (od_good ht ⟨oa_nb1, hp⟩))))), fun _ ⟨_, _, _, _, _, _⟩ hp => br_f h0 (br_t g2 (br_f e0 (br_f e1 (oe_good ht ⟨oa_nb0, hp⟩)))), fun _ => ⟨t, ht, rfl⟩⟩
end OF2
theorem og_new {sv rv : Int32} {x f K S V Q E : Nat → Int32} {m c : Nat} (I : ob_R sv x f rv K S V Q E) (hm : m < 8) (hc : ob_Sz c 0) (h5 : c ≠ 5) : ob_R sv (ob_rn x (m * 20) (nI c)) f rv (upd K (m + 1) (nI c)) (upd S (m + 1) 0) V Q E :=
  ob_step I hm ⟨c, 0, ob_renew pk_us pk_us, hc, fun z => absurd z h5⟩ (fun j hj => ob_rno hj) (fun s hs => ⟨pk_un hs, pk_un hs⟩) (fun _ _ => ⟨rfl, rfl, rfl⟩)
theorem i_vc_begin {k : Nat} {u : SX} {v : SY} (I : i_Rel k u v) (hk : k + 4 ≤ 2048) (v1 : Int32) (v2 : Int32) : wpX_begin (fun r u' => wpY_begin (fun r' v' => r' = r ∧ i_Rel (k + 4) u' v') v v1 v2) u v1 v2 := by
  obtain ⟨sv, x, f⟩ := u
  obtain ⟨rv, K, S, V, Q, E⟩ := v
  have I : ob_R sv x f rv K S V Q E := I
  unfold wpX_begin wpY_begin
  dsimp only
  rcases oa_obj v1 with hb | ⟨m, hm, rfl⟩
  · exact od_bad hb (br_t rfl (oe_bad hb (br_f oa_10 ⟨rfl, I⟩)))
  · by_cases h2 : v2 < 2
    · exact od_good hm (br_f oa_10 (br_t h2 (oe_good hm (br_t rfl (br_t h2 ⟨rfl, I⟩)))))
    by_cases h4 : v2 ≤ 4
    · have h0 : ¬ v2 < 0 := fun z => h2 (Int32.lt_trans z (by decide))
      obtain ⟨c, hc, rfl⟩ := nI_of2 (M := 4) (n := 4) (by decide) h0 h4
      have c2 : 2 ≤ c := by
        have := Int32.not_lt.mp h2
        exact (nI_leI (a := 2) (by omega) (by omega)).mp this
      refine od_good hm (br_f oa_10 (br_f h2 (br_t h4 (od_kind hm (od_renew hm ?_)))))
      refine oe_good hm (br_t rfl (br_f h2 (br_t h4 (oe_become0 hm ?_ ?_ ?_))))
      · exact fun z => absurd ((nI_eq (b := 1) (by omega) (by omega)).mp z) (by omega)
      · exact fun z => absurd ((nI_eq (b := 5) (by omega) (by omega)).mp z) (by omega)
      · exact ⟨og_kind I hm, og_new I hm ⟨by omega, by omega, by omega, by omega, by omega, by omega, by omega⟩ (by omega)⟩
    · exact od_good hm (br_f oa_10 (br_f h2 (br_f h4 (oe_good hm (br_t rfl (br_f h2 (br_f h4 ⟨rfl, I⟩)))))))
theorem i_vc_remove {k : Nat} {u : SX} {v : SY} (I : i_Rel k u v) (hk : k + 4 ≤ 2048) (v1 : Int32) : wpX_remove (fun r u' => wpY_remove (fun r' v' => r' = r ∧ i_Rel (k + 4) u' v') v v1) u v1 := by
  obtain ⟨sv, x, f⟩ := u
  obtain ⟨rv, K, S, V, Q, E⟩ := v
  have I : ob_R sv x f rv K S V Q E := I
  unfold wpX_remove wpY_remove
  dsimp only
  rcases oa_obj v1 with hb | ⟨m, hm, rfl⟩
  · exact od_bad hb (br_t rfl (oe_bad hb (br_f oa_10 ⟨rfl, I⟩)))
  · exact od_good hm (br_f oa_10 (od_kind hm (od_renew hm (oe_good hm (br_t rfl (oe_become0 hm oa_01 oa_05 ⟨og_kind I hm, ob_away I hm⟩))))))
theorem og_add {sv rv : Int32} {x f K S V Q E : Nat → Int32} {m c n : Nat} {q v : Int32} (I : ob_R sv x f rv K S V Q E) (hm : m < 8) (h : ob_Rec x (m * 20) K S V Q E (m + 1) c n) (hn : n < 6) (hc : c = 2 ∨ c = 3) (hz : ob_Sz c (n + 1)) (hl : ob_Lk q v) :
    ob_R sv (upd (ob_se x (m * 20) n 0 q v) (m * 20 + 1) (nI (n + 1))) f rv K (upd S (m + 1) (nI (n + 1))) (upd V (6 * (m + 1) + n) v) (upd Q (6 * (m + 1) + n) q) E := by
  refine ob_step I hm ⟨c, n + 1, ob_add h.1 hn (by omega) h.1.2.2.1 pk_us (fun i hi => ⟨pk_un (by omega), pk_un (by omega)⟩) pk_us pk_us hl, hz, fun z => absurd z (by omega)⟩ ?_ ?_ ?_
  · intro j hj
    rw [pk_un (by omega), ob_seo hn hj]
  · intro s hs; exact ⟨rfl, pk_un hs⟩
  · intro j hj; exact ⟨pk_un (by omega), pk_un (by omega), rfl⟩
theorem i_vc_append {k : Nat} {u : SX} {v : SY} (I : i_Rel k u v) (hk : k + 4 ≤ 2048) (v1 : Int32) (v2 : Int32) : wpX_append (fun r u' => wpY_append (fun r' v' => r' = r ∧ i_Rel (k + 4) u' v') v v1 v2) u v1 v2 := by
  obtain ⟨sv, x, f⟩ := u
  obtain ⟨rv, K, S, V, Q, E⟩ := v
  have I : ob_R sv x f rv K S V Q E := I
  unfold wpX_append wpY_append
  dsimp only
  rcases oa_obj v1 with hb | ⟨m, hm, rfl⟩
  · exact od_bad hb (br_t rfl (oe_bad hb (br_f oa_10 ⟨rfl, I⟩)))
  by_cases h0 : v2 < 0
  · exact od_good hm (br_f oa_10 (br_t h0 (oe_good hm (br_t rfl (br_t h0 ⟨rfl, I⟩)))))
  by_cases h4 : v2 ≤ 255
  · obtain ⟨c, n, hr⟩ := ob_at I hm
    obtain ⟨⟨h1, h2, h3, hs, _⟩, hz, _⟩ := id hr
    have i : vp_in (nI (m + 1)) 54 := vp_in_nI (by omega) (by omega)
    have z1 := hz.1
    have z2 := hz.2.1
    refine od_good hm (br_f oa_10 (br_f h0 (br_t h4 (od_kindE hm h1 ?_))))
    rw [nI_clamp (show m + 1 < 2 ^ 31 by omega), h3, hs]
    by_cases c2 : nI c = 2
    · refine br_t c2 (od_sizeE hm h2 ?_)
      have cc : c = 2 := (nI_eq (b := 2) (by omega) (by omega)).mp c2
      by_cases n6 : n < 6
      · refine br_t (nI_lt (b := 6) n6 (by omega)) (od_add hm n6 h2 (od_sizeE hm pk_us ?_))
        refine oe_good hm (br_t rfl (br_f h0 (br_t h4 ⟨i, br_t c2 ⟨i, br_f ?_ (oe_add hm n6 hs ?_)⟩⟩)))
        · exact fun z => absurd ((nI_eq (b := 6) (by omega) (by omega)).mp z) (by omega)
        · exact ⟨rfl, og_add I hm hr n6 (Or.inl cc) (by rw [cc]; exact ⟨by omega, by omega, by omega, by omega, by omega, by omega, by omega⟩) (fun z => absurd z (by decide))⟩
      · have e6 : n = 6 := by omega
        subst e6
        exact br_f (nI_nlt (b := 6) (by omega) (by omega)) (oe_good hm (br_t rfl (br_f h0 (br_t h4 ⟨i, br_t c2 ⟨i, br_t rfl ⟨rfl, I⟩⟩⟩))))
    · exact br_f c2 (oe_good hm (br_t rfl (br_f h0 (br_t h4 ⟨i, br_f c2 ⟨rfl, I⟩⟩))))
  · exact od_good hm (br_f oa_10 (br_f h0 (br_f h4 (oe_good hm (br_t rfl (br_f h0 (br_f h4 ⟨rfl, I⟩)))))))
theorem i_vc_push {k : Nat} {u : SX} {v : SY} (I : i_Rel k u v) (hk : k + 4 ≤ 2048) (v1 : Int32) (v2 : Int32) (v3 : Int32) : wpX_push (fun r u' => wpY_push (fun r' v' => r' = r ∧ i_Rel (k + 4) u' v') v v1 v2 v3) u v1 v2 v3 := by
  obtain ⟨sv, x, f⟩ := u
  obtain ⟨rv, K, S, V, Q, E⟩ := v
  have I : ob_R sv x f rv K S V Q E := I
  unfold wpX_push wpY_push
  dsimp only
  rcases oa_obj v1 with hb | ⟨m, hm, rfl⟩
  · exact od_bad hb (br_t rfl (oe_bad hb (br_f oa_10 ⟨rfl, I⟩)))
  rcases oh_item v2 v3 with ⟨ix, iy, hl⟩ | ⟨ix, iy⟩
  · obtain ⟨c, n, hr⟩ := ob_at I hm
    obtain ⟨⟨h1, h2, h3, hs, _⟩, hz, _⟩ := id hr
    have i : vp_in (nI (m + 1)) 54 := vp_in_nI (by omega) (by omega)
    have z1 := hz.1
    have z2 := hz.2.1
    refine od_good hm (br_f oa_10 (ix _ (br_f oa_10 (od_kindE hm h1 ?_))))
    rw [nI_clamp (show m + 1 < 2 ^ 31 by omega), h3, hs]
    by_cases c3 : nI c = 3
    · refine br_t c3 (od_sizeE hm h2 ?_)
      have cc : c = 3 := (nI_eq (b := 3) (by omega) (by omega)).mp c3
      have z4 := hz.2.2.2.2.2.1 cc
      by_cases n4 : n < 4
      · refine br_t (nI_lt (b := 4) n4 (by omega)) (od_add hm (by omega) h2 (od_sizeE hm pk_us ?_))
        refine oe_good hm (br_t rfl (iy _ _ (br_t rfl ⟨i, br_t c3 ⟨i, br_f ?_ (oe_add hm (by omega) hs ?_)⟩⟩)))
        · exact fun z => absurd ((nI_eq (b := 4) (by omega) (by omega)).mp z) (by omega)
        · exact ⟨rfl, og_add I hm hr (by omega) (Or.inr cc) (by rw [cc]; exact ⟨by omega, by omega, by omega, by omega, by omega, by omega, by omega⟩) hl⟩
      · have e4 : n = 4 := by omega
        subst e4
        exact br_f (nI_nlt (b := 4) (by omega) (by omega)) (oe_good hm (br_t rfl (iy _ _ (br_t rfl ⟨i, br_t c3 ⟨i, br_t rfl ⟨rfl, I⟩⟩⟩))))
    · exact br_f c3 (oe_good hm (br_t rfl (iy _ _ (br_t rfl ⟨i, br_f c3 ⟨rfl, I⟩⟩))))
  · exact od_good hm (br_f oa_10 (ix _ (br_t rfl (oe_good hm (br_t rfl (iy _ _ (br_f oa_10 ⟨rfl, I⟩)))))))
theorem og_pop {sv rv : Int32} {x f K S V Q E : Nat → Int32} {m c n : Nat} (I : ob_R sv x f rv K S V Q E) (hm : m < 8) (h : ob_Rec x (m * 20) K S V Q E (m + 1) c (n + 1)) (hn : n < 6) (c2 : 2 ≤ c) (c4 : c ≤ 4) :
    ob_R sv (upd (ob_se x (m * 20) n 0 0 0) (m * 20 + 1) (nI n)) f rv K (upd S (m + 1) (nI n)) V Q E := by
  obtain ⟨_, _, z0, z1, z5, z3, z4⟩ := h.2.1
  refine ob_step I hm ⟨c, n, ob_drop h.1 hn pk_us, ⟨by omega, by omega, by omega, by omega, by omega, fun e => by have := z3 e; omega, fun e => by have := z4 e; omega⟩, fun z => absurd z (by omega)⟩ ?_ ?_ ?_
  · intro j hj
    rw [pk_un (by omega), ob_seo hn hj]
  · intro s hs; exact ⟨rfl, pk_un hs⟩
  · intro j hj; exact ⟨rfl, rfl, rfl⟩
theorem i_vc_pop {k : Nat} {u : SX} {v : SY} (I : i_Rel k u v) (hk : k + 4 ≤ 2048) (v1 : Int32) : wpX_pop (fun r u' => wpY_pop (fun r' v' => r' = r ∧ i_Rel (k + 4) u' v') v v1) u v1 := by
  obtain ⟨sv, x, f⟩ := u
  obtain ⟨rv, K, S, V, Q, E⟩ := v
  have I : ob_R sv x f rv K S V Q E := I
  unfold wpX_pop wpY_pop
  dsimp only
  rcases oa_obj v1 with hb | ⟨m, hm, rfl⟩
  · exact od_bad hb (br_t rfl (oe_bad hb (br_f oa_10 ⟨rfl, I⟩)))
  obtain ⟨c, n, hr⟩ := ob_at I hm
  obtain ⟨⟨h1, h2, h3, hs, _⟩, hz, _⟩ := id hr
  have i : vp_in (nI (m + 1)) 54 := vp_in_nI (by omega) (by omega)
  have z1 := hz.1
  have z2 := hz.2.1
  refine od_good hm (br_f oa_10 (od_kindE hm h1 ?_))
  rw [nI_clamp (show m + 1 < 2 ^ 31 by omega), h3, hs]
  by_cases c2 : nI c < 2
  · exact br_t c2 (oe_good hm (br_t rfl ⟨i, br_t c2 ⟨rfl, I⟩⟩))
  by_cases c4 : 4 < nI c
  · exact br_f c2 (br_t c4 (oe_good hm (br_t rfl ⟨i, br_f c2 ⟨i, br_t c4 ⟨rfl, I⟩⟩⟩)))
  refine br_f c2 (br_f c4 (od_sizeE hm h2 ?_))
  by_cases n0 : nI n = 0
  · exact br_t n0 (oe_good hm (br_t rfl ⟨i, br_f c2 ⟨i, br_f c4 ⟨i, br_t n0 ⟨rfl, I⟩⟩⟩⟩))
  have c2' : 2 ≤ c := (nI_leI (a := 2) (by omega) (by omega)).mp (Int32.not_lt.mp c2)
  have c4' : c ≤ 4 := (nI_leI (b := 4) (by omega) (by omega)).mp (Int32.not_lt.mp c4)
  obtain ⟨n', rfl⟩ : ∃ n', n = n' + 1 := ⟨n - 1, by
    have : n ≠ 0 := fun z => n0 (by rw [z]; exact nI_0)
    omega⟩
  refine br_f n0 (od_drop hm (by omega) h2 (od_sizeE hm pk_us ?_))
  refine oe_good hm (br_t rfl ⟨i, br_f c2 ⟨i, br_f c4 ⟨i, br_f n0 ⟨i, i, nm_r (by rw [nI_pred]) ⟨i, ?_⟩⟩⟩⟩⟩)
  exact ⟨pk_us, og_pop I hm hr (by omega) c2' c4'⟩
end
section
theorem i_vc_kind {k : Nat} {u : SX} {v : SY} (I : i_Rel k u v) (hk : k + 4 ≤ 2048) (v1 : Int32) : wpX_kind (fun r => wpY_kind (fun r' => r' = r ∧ i_Rel (k + 4) u v) v v1) u v1 := by
  obtain ⟨sv, x, f⟩ := u
  obtain ⟨rv, K, S, V, Q, E⟩ := v
  have I : ob_R sv x f rv K S V Q E := I
  unfold wpX_kind wpY_kind
  dsimp only
  rcases oa_obj v1 with hb | ⟨m, hm, rfl⟩
  · exact od_bad hb (br_t rfl (oe_bad hb (br_f oa_10 ⟨rfl, I⟩)))
  · refine od_good hm (br_f oa_10 (od_kind hm (oe_good hm (br_t rfl ⟨vp_in_nI (by omega) (by omega), ?_⟩))))
    rw [nI_clamp (by omega)]
    exact ⟨og_kind I hm, I⟩
theorem i_vc_size {k : Nat} {u : SX} {v : SY} (I : i_Rel k u v) (hk : k + 4 ≤ 2048) (v1 : Int32) : wpX_size (fun r => wpY_size (fun r' => r' = r ∧ i_Rel (k + 4) u v) v v1) u v1 := by
  obtain ⟨sv, x, f⟩ := u
  obtain ⟨rv, K, S, V, Q, E⟩ := v
  have I : ob_R sv x f rv K S V Q E := I
  unfold wpX_size wpY_size
  dsimp only
  rcases oa_obj v1 with hb | ⟨m, hm, rfl⟩
  · exact od_bad hb (br_t rfl (oe_bad hb (br_f oa_10 ⟨rfl, I⟩)))
  · refine od_good hm (br_f oa_10 (od_size hm (oe_good hm (br_t rfl ⟨vp_in_nI (by omega) (by omega), ?_⟩))))
    rw [nI_clamp (by omega)]
    exact ⟨og_size I hm, I⟩
theorem i_vc_value {k : Nat} {u : SX} {v : SY} (I : i_Rel k u v) (hk : k + 4 ≤ 2048) (v1 : Int32) (v2 : Int32) : wpX_value (fun r => wpY_value (fun r' => r' = r ∧ i_Rel (k + 4) u v) v v1 v2) u v1 v2 := by
  obtain ⟨sv, x, f⟩ := u
  obtain ⟨rv, K, S, V, Q, E⟩ := v
  have I : ob_R sv x f rv K S V Q E := I
  unfold wpX_value wpY_value
  dsimp only
  rcases oa_obj v1 with hb | ⟨m, hm, rfl⟩
  · exact od_bad hb (br_t rfl (oe_bad hb (br_f oa_10 ⟨rfl, I⟩)))
  obtain ⟨c, n, ⟨h1, h2, h3, hs, h6, _⟩, hz, _⟩ := ob_at I hm
  have z2 := hz.2.1
  rcases pk_ix v2 (n := n) (by omega) with z | z | ⟨j, hj, rfl⟩
  · exact od_good hm (br_f oa_10 (od_hv0 hm h2 (Or.inl z) (br_t rfl (oe_good hm (br_t rfl (oe_hv0 hm hs (Or.inl z) (br_t rfl ⟨rfl, I⟩)))))))
  · exact od_good hm (br_f oa_10 (od_hv0 hm h2 (Or.inr z) (br_t rfl (oe_good hm (br_t rfl (oe_hv0 hm hs (Or.inr z) (br_t rfl ⟨rfl, I⟩)))))))
  · refine od_good hm (br_f oa_10 (od_hv1 hm h2 z2 hj (br_f oa_10 (od_val hm (by omega) (oe_good hm (br_t rfl (oe_hv1 hm hs z2 hj (br_f oa_10 ?_))))))))
    rw [oa_6, nI_add, nI_clamp (by omega)]
    exact ⟨vp_in_nI (by omega) (by omega), (h6 j hj (by omega)).1.symm, I⟩
theorem i_vc_valueKind {k : Nat} {u : SX} {v : SY} (I : i_Rel k u v) (hk : k + 4 ≤ 2048) (v1 : Int32) (v2 : Int32) : wpX_valueKind (fun r => wpY_valueKind (fun r' => r' = r ∧ i_Rel (k + 4) u v) v v1 v2) u v1 v2 := by
  obtain ⟨sv, x, f⟩ := u
  obtain ⟨rv, K, S, V, Q, E⟩ := v
  have I : ob_R sv x f rv K S V Q E := I
  unfold wpX_valueKind wpY_valueKind
  dsimp only
  rcases oa_obj v1 with hb | ⟨m, hm, rfl⟩
  · exact od_bad hb (br_t rfl (oe_bad hb (br_f oa_10 ⟨rfl, I⟩)))
  obtain ⟨c, n, ⟨h1, h2, h3, hs, h6, _⟩, hz, _⟩ := ob_at I hm
  have z2 := hz.2.1
  rcases pk_ix v2 (n := n) (by omega) with z | z | ⟨j, hj, rfl⟩
  · exact od_good hm (br_f oa_10 (od_hv0 hm h2 (Or.inl z) (br_t rfl (oe_good hm (br_t rfl (oe_hv0 hm hs (Or.inl z) (br_t rfl ⟨rfl, I⟩)))))))
  · exact od_good hm (br_f oa_10 (od_hv0 hm h2 (Or.inr z) (br_t rfl (oe_good hm (br_t rfl (oe_hv0 hm hs (Or.inr z) (br_t rfl ⟨rfl, I⟩)))))))
  · refine od_good hm (br_f oa_10 (od_hv1 hm h2 z2 hj (br_f oa_10 (od_vk hm (by omega) (oe_good hm (br_t rfl (oe_hv1 hm hs z2 hj (br_f oa_10 ?_))))))))
    rw [oa_6, nI_add, nI_clamp (by omega)]
    exact ⟨vp_in_nI (by omega) (by omega), (h6 j hj (by omega)).2.1.symm, I⟩
theorem i_vc_key {k : Nat} {u : SX} {v : SY} (I : i_Rel k u v) (hk : k + 4 ≤ 2048) (v1 : Int32) (v2 : Int32) : wpX_key (fun r => wpY_key (fun r' => r' = r ∧ i_Rel (k + 4) u v) v v1 v2) u v1 v2 := by
  obtain ⟨sv, x, f⟩ := u
  obtain ⟨rv, K, S, V, Q, E⟩ := v
  have I : ob_R sv x f rv K S V Q E := I
  unfold wpX_key wpY_key
  dsimp only
  rcases oa_obj v1 with hb | ⟨m, hm, rfl⟩
  · exact od_bad hb (br_t rfl (oe_bad hb (br_f oa_10 ⟨rfl, I⟩)))
  obtain ⟨c, n, ⟨h1, h2, h3, hs, h6, _⟩, hz, _⟩ := ob_at I hm
  have z1 := hz.1
  have z2 := hz.2.1
  have i : vp_in (nI (m + 1)) 54 := vp_in_nI (by omega) (by omega)
  refine od_good hm (br_f oa_10 (od_kindE hm h1 ?_))
  rw [nI_clamp (show m + 1 < 2 ^ 31 by omega), h3]
  by_cases c4 : nI c = 4
  · have cc : c = 4 := (nI_eq (b := 4) (by omega) (by omega)).mp c4
    rcases pk_ix v2 (n := n) (by omega) with z | z | ⟨j, hj, rfl⟩
    · exact br_t c4 (od_hv0 hm h2 (Or.inl z) (br_t rfl (oe_good hm (br_t rfl ⟨i, br_t c4 (oe_hv0 hm hs (Or.inl z) (br_t rfl ⟨rfl, I⟩))⟩))))
    · exact br_t c4 (od_hv0 hm h2 (Or.inr z) (br_t rfl (oe_good hm (br_t rfl ⟨i, br_t c4 (oe_hv0 hm hs (Or.inr z) (br_t rfl ⟨rfl, I⟩))⟩))))
    · refine br_t c4 (od_hv1 hm h2 z2 hj (br_f oa_10 (od_key hm (by omega) (oe_good hm (br_t rfl ⟨i, br_t c4 (oe_hv1 hm hs z2 hj (br_f oa_10 ?_))⟩)))))
      rw [oa_6, nI_add, nI_clamp (by omega)]
      exact ⟨vp_in_nI (by omega) (by omega), ((h6 j hj (by omega)).2.2.1 cc).symm, I⟩
  · exact br_f c4 (oe_good hm (br_t rfl ⟨i, br_f c4 ⟨rfl, I⟩⟩))
theorem i_vc_revisions {k : Nat} {u : SX} {v : SY} (I : i_Rel k u v) (hk : k + 4 ≤ 2048) : wpX_revisions (fun r => wpY_revisions (fun r' => r' = r ∧ i_Rel (k + 4) u v) v) u := by
  obtain ⟨sv, x, f⟩ := u
  obtain ⟨rv, K, S, V, Q, E⟩ := v
  obtain ⟨r, _, e1, e2, _⟩ := id I
  exact ⟨e2.trans e1.symm, I⟩
end
section
/-! put -/
section OP
variable {sv rv : Int32} {x f K S V Q E : Nat → Int32} {m : Nat}
theorem op_place {n : Nat} {v z key : Int32} (hm : m < 8) (hr : ob_Rec x (m * 20) K S V Q E (m + 1) 4 n) : ∀ d j, j + d = n → ∃ p, p ≤ n ∧
    (∀ post : Int32 → Prop, post (nI p) → wX_placeOfKey_9 post (nI (m + 1)) key (nI n) sv x f (d + 1) (nI j)) ∧
    (∀ post : Int32 → SY → Prop, wY_put_101 post v (nI (m + 1)) z key (nI p) rv K S V Q E → wY_put_67 post v (nI (m + 1)) z key rv K S V Q E (d + 1) (nI j)) := by
  obtain ⟨⟨h1, h2, h3, hs, h6, _⟩, hz, _⟩ := hr
  have z2 := hz.2.1
  have i : vp_in (nI (m + 1)) 54 := vp_in_nI (by omega) (by omega)
  intro d
  induction d with
  | zero =>
    intro j hj
    have e : j = n := by omega
    subst e
    refine ⟨j, by omega, fun post hp => br_t (nI_le (by omega) (by omega)) hp, fun post hp => ?_⟩
    refine And.intro i ?_
    rw [nI_clamp (by omega), hs]
    exact br_t (nI_le (by omega) (by omega)) hp
  | succ d ih =>
    intro j hj
    obtain ⟨_, _, e3, _⟩ := h6 j (by omega) (by omega)
    have e3 := e3 rfl
    have g : ¬ nI n ≤ nI j := nI_ge (by omega) (by omega)
    have i2 : vp_in (nI (6 * (m + 1) + j)) 324 := vp_in_nI (by omega) (by omega)
    by_cases hw : key ≤ E (6 * (m + 1) + j)
    · refine ⟨j, by omega, fun post hp => br_f g (od_keyE hm (by omega) e3 (br_t hw hp)), fun post hp => ?_⟩
      refine And.intro i ?_
      rw [nI_clamp (by omega), hs, oa_6, nI_add, nI_clamp (by omega)]
      exact br_f g ⟨i2, br_t hw hp⟩
    · obtain ⟨p, hp, hX, hY⟩ := ih (j + 1) (by omega)
      refine ⟨p, hp, fun post hp => br_f g (od_keyE hm (by omega) e3 (br_f hw (nm_r (nI_1 j) (hX post hp)))), fun post hp => ?_⟩
      refine And.intro i ?_
      rw [nI_clamp (by omega), hs, oa_6, nI_add, nI_clamp (by omega)]
      exact br_f g ⟨i2, br_f hw (nm_r (nI_1 j) (hY post hp))⟩
theorem op_room_l {post : SX → Prop} {p N : Nat} (hm : m < 8) : ∀ d (x : Nat → Int32), p + d < 6 → post (sv, upd (ob_mxs (m * 20) p d x) (m * 20 + 1) (nI (N + 1)), f) → wX_makeRoom_9 post (nI (m + 1)) (nI p) (nI N) (d + 1) (nI (p + d)) sv x f := by
  intro d
  induction d with
  | zero =>
    intro x hd h
    refine br_t (nI_le (by omega) (by omega)) (od_rec ?_)
    rw [oa_p1 (m * 20), nI_clamp (by omega), oa_p1 N]
    exact ⟨vp_in_nI (by omega) (by omega), nm_e h⟩
  | succ d ih =>
    intro x hd h
    refine br_f (nI_ge (by omega) (by omega)) ?_
    rw [show p + (d + 1) = (p + d) + 1 from rfl, nI_pred]
    refine od_key hm (by omega) (od_vk hm (by omega) (od_val hm (by omega) (od_set hm (by omega) ?_)))
    exact nm_r (pk_m1 (p + d)) (ih _ (by omega) h)
theorem op_room {post : SX → Prop} {p d : Nat} (hm : m < 8) (hs : x (m * 20 + 1) = nI (p + d)) (hd : p + d < 6) (h : post (sv, upd (ob_mxs (m * 20) p d x) (m * 20 + 1) (nI (p + d + 1)), f)) : wpX_makeRoom post (sv, x, f) (nI (m + 1)) (nI p) := by
  unfold wpX_makeRoom
  dsimp only
  exact od_sizeE hm hs ⟨d + 1, op_room_l hm d x hd h⟩
theorem op_251 {post : Int32 → SY → Prop} {p : Nat} {v q key : Int32} (hm : m < 8) (hp : p < 6) (h : post (S (m + 1)) (rv, K, S, upd V (6 * (m + 1) + p) v, upd Q (6 * (m + 1) + p) q, upd E (6 * (m + 1) + p) key)) : wY_put_251 post v (nI (m + 1)) q key (nI p) rv K S V Q E := by
  unfold wY_put_251
  refine oe_set hm hp ?_
  dsimp only
  rw [oa_6, nI_add, nI_clamp (by omega), nI_clamp (by omega)]
  exact ⟨vp_in_nI (by omega) (by omega), nm_e ⟨vp_in_nI (by omega) (by omega), h⟩⟩
theorem op_167 {post : Int32 → SY → Prop} {p : Nat} {v q key : Int32} (hm : m < 8) : ∀ d (V Q E : Nat → Int32), p + d < 6 →
    wY_put_251 post v (nI (m + 1)) q key (nI p) rv K (upd S (m + 1) (S (m + 1) + 1)) (ob_mvs (6 * (m + 1)) p d V) (ob_mvs (6 * (m + 1)) p d Q) (ob_mvs (6 * (m + 1)) p d E) →
    wY_put_167 post v (nI (m + 1)) q key (nI p) (d + 1) (nI (p + d)) rv K S V Q E := by
  intro d
  have i : vp_in (nI (m + 1)) 54 := vp_in_nI (by omega) (by omega)
  induction d with
  | zero =>
    intro V Q E hd h
    refine br_t (nI_le (by omega) (by omega)) ?_
    rw [nI_clamp (by omega)]
    exact ⟨i, i, nm_e h⟩
  | succ d ih =>
    intro V Q E hd h
    refine br_f (nI_ge (by omega) (by omega)) ?_
    have e : 6 * nI (m + 1) + nI (p + (d + 1)) - 1 = nI (6 * (m + 1) + (p + d)) := by
      rw [oa_6, nI_add]; exact nI_pred _
    rw [e, nI_clamp (by omega)]
    have i1 : vp_in (nI (6 * (m + 1) + (p + d))) 324 := vp_in_nI (by omega) (by omega)
    refine ⟨i1, i1, oe_set hm (by omega) ?_⟩
    dsimp only
    rw [oa_6, nI_add, nI_clamp (by omega)]
    exact ⟨i1, vp_in_nI (by omega) (by omega), nm_e (nm_r (pk_m1 (p + d)) (ih _ _ _ (by omega) h))⟩
theorem og_put1 {n p : Nat} {e q v : Int32} (I : ob_R sv x f rv K S V Q E) (hm : m < 8) (h : ob_Rec x (m * 20) K S V Q E (m + 1) 4 n) (hp : p < n) (hl : ob_Lk q v) :
    ob_R sv (ob_se x (m * 20) p e q v) f rv K S (upd V (6 * (m + 1) + p) v) (upd Q (6 * (m + 1) + p) q) (upd E (6 * (m + 1) + p) e) := by
  have n3 := h.2.1.2.2.2.2.2.2 rfl
  refine ob_step I hm ⟨4, n, ob_put1 h.1 hp n3 hl, h.2.1, fun z => absurd z (by omega)⟩ ?_ ?_ ?_
  · intro j hj; exact ob_seo (by omega) hj
  · intro s hs; exact ⟨rfl, rfl⟩
  · intro j hj; exact ⟨pk_un (by omega), pk_un (by omega), pk_un (by omega)⟩
theorem og_put2 {p d : Nat} {e q v : Int32} (I : ob_R sv x f rv K S V Q E) (hm : m < 8) (h : ob_Rec x (m * 20) K S V Q E (m + 1) 4 (p + d)) (hn : p + d < 3) (hl : ob_Lk q v) :
    ob_R sv (ob_se (upd (ob_mxs (m * 20) p d x) (m * 20 + 1) (nI (p + d + 1))) (m * 20) p e q v) f rv K (upd S (m + 1) (nI (p + d + 1))) (upd (ob_mvs (6 * (m + 1)) p d V) (6 * (m + 1) + p) v) (upd (ob_mvs (6 * (m + 1)) p d Q) (6 * (m + 1) + p) q) (upd (ob_mvs (6 * (m + 1)) p d E) (6 * (m + 1) + p) e) := by
  refine ob_step I hm ⟨4, p + d + 1, ob_put2 h.1 hn pk_us hl, ⟨by omega, by omega, by omega, by omega, by omega, by omega, by omega⟩, fun z => absurd z (by omega)⟩ ?_ ?_ ?_
  · intro j hj
    rw [ob_seo (by omega) hj, pk_un (by omega)]
    exact (ob_mxso d x (by omega)).1 j (by omega)
  · intro s hs; exact ⟨rfl, pk_un hs⟩
  · intro j hj
    rw [pk_un (by omega), pk_un (by omega), pk_un (by omega)]
    exact ⟨ob_mvso d V (by omega) j hj, ob_mvso d Q (by omega) j hj, ob_mvso d E (by omega) j hj⟩
/-- from the found code on: both sides -/
theorem op_main {k : Nat} {v z key : Int32} (I : ob_R sv x f rv K S V Q E) (hm : m < 8) (hl : ob_Lk z v) (ix : ∀ post : Int32 → Prop, post 1 → wpX_isItem post z v) (PY : (Int32 → SY → Prop) → Prop)
    (hb : ∀ post : Int32 → SY → Prop, vp_in (nI (m + 1)) 54 ∧ (((K (nI (m + 1)).toNatClampNeg) = 4 → (∃ n67 : Nat, wY_put_67 post v (nI (m + 1)) z key rv K S V Q E n67 0)) ∧ (¬ (K (nI (m + 1)).toNatClampNeg) = 4 → (post (-2) (rv, K, S, V, Q, E)))) → PY post) :
    wX_put_40 (fun r u' => PY (fun r' v' => r' = r ∧ i_Rel k u' v')) v (nI (m + 1)) key z sv x f := by
  unfold wX_put_40
  refine ix _ (br_f oa_10 ?_)
  obtain ⟨c, n, hr⟩ := ob_at I hm
  obtain ⟨⟨h1, h2, h3, hs, h6, _⟩, hz, _⟩ := id hr
  have z1 := hz.1
  have z2 := hz.2.1
  have i : vp_in (nI (m + 1)) 54 := vp_in_nI (by omega) (by omega)
  refine od_kindE hm h1 ?_
  rw [nI_clamp (show m + 1 < 2 ^ 31 by omega), h3] at hb
  by_cases c4 : nI c = 4
  · have cc : c = 4 := (nI_eq (b := 4) (by omega) (by omega)).mp c4
    subst cc
    have n3 := hz.2.2.2.2.2.2 rfl
    obtain ⟨p, hp, hX, hY⟩ := op_place (sv := sv) (f := f) (rv := rv) (v := v) (z := z) (key := key) hm hr n 0 (by omega)
    rw [nI_0] at hX hY
    refine br_t c4 ?_
    unfold wpX_placeOfKey
    dsimp only
    refine od_sizeE hm h2 ⟨n + 1, hX _ ?_⟩
    unfold wpX_hasKeyAt
    dsimp only
    by_cases pn : p < n
    · obtain ⟨_, _, e3, _⟩ := h6 p pn (by omega)
      have e3 := e3 rfl
      have g : ¬ nI n ≤ nI p := nI_ge (by omega) (by omega)
      have i2 : vp_in (nI (6 * (m + 1) + p)) 324 := vp_in_nI (by omega) (by omega)
      by_cases hw : E (6 * (m + 1) + p) = key
      · refine od_hv1 hm h2 z2 pn (br_f oa_10 (od_keyE hm (by omega) e3 (br_t hw (br_f oa_10 ?_))))
        unfold wX_put_105
        refine od_set hm (by omega) (od_sizeE hm (ob_se1.trans h2) ?_)
        refine hb _ ⟨i, br_t c4 ⟨n + 1, hY _ ?_⟩⟩
        unfold wY_put_101 wY_put_134 wY_put_154
        rw [nI_clamp (by omega), hs, oa_6, nI_add, nI_clamp (by omega)]
        refine ⟨i, br_f g ⟨i2, br_t hw (br_f oa_10 (br_f oa_10 (op_251 hm (by omega) ?_)))⟩⟩
        exact ⟨hs, og_put1 I hm hr pn hl⟩
      · refine od_hv1 hm h2 z2 pn (br_f oa_10 (od_keyE hm (by omega) e3 (br_f hw (br_t rfl (od_sizeE hm h2 ?_)))))
        obtain ⟨d, rfl⟩ : ∃ d, n = p + d := ⟨n - p, by omega⟩
        by_cases n3 : p + d < 3
        · refine br_t (nI_lt (b := 3) n3 (by omega)) (op_room hm h2 (by omega) ?_)
          dsimp only
          unfold wX_put_105
          refine od_set hm (by omega) (od_sizeE hm (ob_se1.trans pk_us) ?_)
          refine hb _ ⟨i, br_t c4 ⟨_, hY _ ?_⟩⟩
          unfold wY_put_101 wY_put_133 wY_put_134 wY_put_154
          rw [nI_clamp (by omega), hs, oa_6, nI_add, nI_clamp (by omega)]
          refine ⟨i, br_f g ⟨i2, br_f hw (br_t rfl ⟨i, br_f ?_ (br_t rfl ⟨i, nm_e ⟨d + 1, op_167 hm d V Q E (by omega) ?_⟩⟩)⟩)⟩⟩
          · exact fun z => absurd ((nI_eq (b := 3) (by omega) (by omega)).mp z) (by omega)
          · rw [hs, nI_1]
            exact op_251 hm (by omega) ⟨pk_us, og_put2 I hm hr n3 hl⟩
        · have e3' : p + d = 3 := by omega
          refine br_f (nI_nlt (b := 3) (by omega) (by omega)) ?_
          refine hb _ ⟨i, br_t c4 ⟨_, hY _ ?_⟩⟩
          unfold wY_put_101 wY_put_133 wY_put_134
          rw [nI_clamp (by omega), hs, oa_6, nI_add, nI_clamp (by omega)]
          exact ⟨i, br_f g ⟨i2, br_f hw (br_t rfl ⟨i, br_t (by rw [e3']; rfl) ⟨rfl, I⟩⟩)⟩⟩
    · have pe : p = n := by omega
      subst pe
      have g : nI p ≤ nI p := nI_le (by omega) (by omega)
      refine od_hv0 hm h2 (Or.inr g) (br_t rfl (br_t rfl (od_sizeE hm h2 ?_)))
      by_cases n3 : p < 3
      · refine br_t (nI_lt (b := 3) n3 (by omega)) (op_room (d := 0) hm h2 (by omega) ?_)
        dsimp only
        unfold wX_put_105
        refine od_set hm (by omega) (od_sizeE hm (ob_se1.trans pk_us) ?_)
        refine hb _ ⟨i, br_t c4 ⟨_, hY _ ?_⟩⟩
        unfold wY_put_101 wY_put_133 wY_put_134 wY_put_154
        rw [nI_clamp (by omega), hs]
        refine ⟨i, br_t g (br_t rfl ⟨i, br_f ?_ (br_t rfl ⟨i, nm_e ⟨0 + 1, op_167 (p := p) hm 0 V Q E (by omega) ?_⟩⟩)⟩)⟩
        · exact fun z => absurd ((nI_eq (b := 3) (by omega) (by omega)).mp z) (by omega)
        · rw [hs, nI_1]
          exact op_251 hm (by omega) ⟨pk_us, og_put2 (d := 0) I hm hr n3 hl⟩
      · have e3' : p = 3 := by omega
        refine br_f (nI_nlt (b := 3) (by omega) (by omega)) ?_
        refine hb _ ⟨i, br_t c4 ⟨_, hY _ ?_⟩⟩
        unfold wY_put_101 wY_put_133 wY_put_134
        rw [nI_clamp (by omega), hs]
        exact ⟨i, br_t g (br_t rfl ⟨i, br_t (by rw [e3']; rfl) ⟨rfl, I⟩⟩)⟩
  · exact br_f c4 (hb _ ⟨i, br_f c4 ⟨rfl, I⟩⟩)
theorem op_640 : ¬ (64 : Int32) = 0 := by decide
theorem op_20 : ¬ (2 : Int32) = 0 := by decide
theorem op_Ybad {post : Int32 → SY → Prop} {v1 v2 : Int32} (h : v1 < 0 ∨ (v1 / 64 < 1 ∨ 8 < v1 / 64)) (hp : post (-1) (rv, K, S, V, Q, E)) : wpY_put post (rv, K, S, V, Q, E) v1 v2 := by
  unfold wpY_put wY_put_17
  dsimp only
  refine ⟨op_640, nm_e ⟨op_20, ?_⟩⟩
  by_cases h0 : v1 < 0
  · exact br_c (fun _ => ⟨op_640, op_20, nm_e (br_t h0 hp)⟩) (fun _ => ⟨op_640, op_20, nm_e (br_t h0 hp)⟩)
  · rcases h with z | z
    · exact absurd z h0
    · exact br_c (fun _ => ⟨op_640, op_20, nm_e (br_f h0 (oe_bad z (br_f oa_10 hp)))⟩) (fun _ => ⟨op_640, op_20, nm_e (br_f h0 (oe_bad z (br_f oa_10 hp)))⟩)
theorem op_Yhead {post : Int32 → SY → Prop} {v1 v2 z key : Int32} (e64 : v1 / 64 = nI (m + 1)) (hz : (v1 - v1 / 2 * 2 = 1 ∧ z = 2) ∨ (¬ v1 - v1 / 2 * 2 = 1 ∧ z = 0)) (e6 : (v1 - v1 / 64 * 64) / 2 = key) (h0 : ¬ v1 < 0) (hm : m < 8)
    (h : wpY_badItem (fun r_17 => (((r_17 = 0 → (vp_in (nI (m + 1)) 54 ∧ ((((K (nI (m + 1)).toNatClampNeg) = 4 → (∃ n67 : Nat, wY_put_67 post v2 (nI (m + 1)) z key rv K S V Q E n67 0)) ∧ (¬ (K (nI (m + 1)).toNatClampNeg) = 4 → (post (-2) (rv, K, S, V, Q, E))))))) ∧ (¬ r_17 = 0 → (post (-1) (rv, K, S, V, Q, E)))))) (rv, K, S, V, Q, E) z v2) : wpY_put post (rv, K, S, V, Q, E) v1 v2 := by
  unfold wpY_put wY_put_17
  dsimp only
  rw [e6, e64]
  refine ⟨op_640, nm_e ⟨op_20, ?_⟩⟩
  rcases hz with ⟨hb, rfl⟩ | ⟨hb, rfl⟩
  · exact br_t hb ⟨op_640, op_20, nm_e (br_f h0 (oe_good hm (br_t rfl h)))⟩
  · exact br_f hb ⟨op_640, op_20, nm_e (br_f h0 (oe_good hm (br_t rfl h)))⟩
end OP
theorem i_vc_put {k : Nat} {u : SX} {v : SY} (I : i_Rel k u v) (hk : k + 4 ≤ 2048) (v1 : Int32) (v2 : Int32) : wpX_put (fun r u' => wpY_put (fun r' v' => r' = r ∧ i_Rel (k + 4) u' v') v v1 v2) u v1 v2 := by
  obtain ⟨sv, x, f⟩ := u
  obtain ⟨rv, K, S, V, Q, E⟩ := v
  have I : ob_R sv x f rv K S V Q E := I
  by_cases h64 : v1 < 64
  · refine br_t h64 (op_Ybad ?_ ⟨rfl, I⟩)
    by_cases h0 : v1 < 0
    · exact Or.inl h0
    · obtain ⟨a, ha, rfl⟩ := nI_of h0
      have a64 : a < 64 := (nI_ltI (b := 64) ha (by omega)).mp h64
      refine Or.inr (Or.inl ?_)
      have e : nI a / 64 = nI (a / 64) := pk_div (d := 64) ha (by omega) (by omega)
      rw [e]
      exact nI_lt (b := 1) (by omega) (by omega)
  have h0 : ¬ v1 < 0 := fun z => h64 (Int32.lt_trans z (by decide))
  obtain ⟨a, ha, rfl⟩ := nI_of h0
  have a64 : 64 ≤ a := (nI_leI (a := 64) (by omega) ha).mp (Int32.not_lt.mp h64)
  have e64 : nI a / 64 = nI (a / 64) := pk_div (d := 64) ha (by omega) (by omega)
  by_cases h576 : nI a < 576
  · have a576 : a < 576 := (nI_ltI (b := 576) ha (by omega)).mp h576
    obtain ⟨m, hm, em⟩ : ∃ m, m < 8 ∧ a / 64 = m + 1 := ⟨a / 64 - 1, by omega, by omega⟩
    have e2 : nI a / 2 = nI (a / 2) := pk_div (d := 2) ha (by omega) (by omega)
    have ek : (nI a / 2) &&& 31 = nI (a % 64 / 2) := by
      rw [e2, pk_andN (by omega) (m := 31) 5 (by decide)]
      exact congrArg nI (by omega)
    have eb : nI a &&& 1 = nI (a % 2) := pk_andN (by omega) (m := 1) 1 (by decide)
    have er : nI a - nI a / 2 * 2 = nI (a % 2) := pk_rem (d := 2) ha (by omega) (by omega)
    have e6 : (nI a - nI a / 64 * 64) / 2 = nI (a % 64 / 2) := by
      rw [show nI a - nI a / 64 * 64 = nI (a % 64) from pk_rem (d := 64) ha (by omega) (by omega)]
      exact pk_div (d := 2) (by omega) (by omega) (by omega)
    unfold wpX_put
    dsimp only
    refine br_f h64 (br_t h576 ⟨op_640, nm_r (e64.trans (congrArg nI em)) ⟨op_20, nm_r ek ?_⟩⟩)
    rw [eb]
    have ez : ∃ z : Int32, (nI (a % 2) = 1 ∧ z = 2) ∨ (¬ nI (a % 2) = 1 ∧ z = 0) := by
      by_cases q : nI (a % 2) = 1
      · exact ⟨2, Or.inl ⟨q, rfl⟩⟩
      · exact ⟨0, Or.inr ⟨q, rfl⟩⟩
    obtain ⟨z, hz⟩ := ez
    have hY : ∀ post : Int32 → SY → Prop, wpY_badItem (fun r_17 => (((r_17 = 0 → (vp_in (nI (m + 1)) 54 ∧ ((((K (nI (m + 1)).toNatClampNeg) = 4 → (∃ n67 : Nat, wY_put_67 post v2 (nI (m + 1)) z (nI (a % 64 / 2)) rv K S V Q E n67 0)) ∧ (¬ (K (nI (m + 1)).toNatClampNeg) = 4 → (post (-2) (rv, K, S, V, Q, E))))))) ∧ (¬ r_17 = 0 → (post (-1) (rv, K, S, V, Q, E)))))) (rv, K, S, V, Q, E) z v2 → wpY_put post (rv, K, S, V, Q, E) (nI a) v2 :=
      fun post h => op_Yhead (e64.trans (congrArg nI em)) (by rw [er]; exact hz) e6 h0 hm h
    have hX : wX_put_40 (fun r u' => wpY_put (fun r' v' => r' = r ∧ i_Rel (k + 4) u' v') (rv, K, S, V, Q, E) (nI a) v2) v2 (nI (m + 1)) (nI (a % 64 / 2)) z sv x f := by
      rcases oh_item z v2 with ⟨ix, iy, hl⟩ | ⟨ix, iy⟩
      · exact op_main I hm hl ix (fun post => wpY_put post (rv, K, S, V, Q, E) (nI a) v2) (fun post h => hY post (iy _ _ (br_t rfl h)))
      · unfold wX_put_40
        exact ix _ (br_t rfl (hY _ (iy _ _ (br_f oa_10 ⟨rfl, I⟩))))
    rcases hz with ⟨q, rfl⟩ | ⟨q, rfl⟩
    · exact br_t q hX
    · exact br_f q hX
  · have a576 : 576 ≤ a := (nI_leI (a := 576) (by omega) ha).mp (Int32.not_lt.mp h576)
    refine br_f h64 (br_f h576 (op_Ybad (Or.inr (Or.inr ?_)) ⟨rfl, I⟩))
    rw [e64]
    exact nI_lt (a := 8) (by omega) (by omega)
end
section
/-! resolve -/
def or_L (K : Nat → Int32) (m : Nat) : Bool := decide (K (m + 1) = 5)
def or_n (V : Nat → Int32) (m : Nat) : Nat := (V (6 * (m + 1))).toNatClampNeg - 1
def or_v (K V : Nat → Int32) : Nat → Nat → Int32
  | 0, _ => -2
  | d + 1, m => if K (m + 1) = 0 then -2 else if K (m + 1) = 5 then or_v K V d (or_n V m) else nI (m + 1)
theorem or_v_s (K V : Nat → Int32) (d m : Nat) : or_v K V (d + 1) m = if K (m + 1) = 0 then -2 else if K (m + 1) = 5 then or_v K V d (or_n V m) else nI (m + 1) := rfl
def or_f (K : Nat → Int32) (m : Nat) : Int32 := if K (m + 1) = 0 then -2 else if K (m + 1) = 5 then -2 else nI (m + 1)
theorem or_50 : ¬ (5 : Int32) = 0 := by decide
theorem or_Lt {K : Nat → Int32} {m : Nat} (h : K (m + 1) = 5) : or_L K m = true := decide_eq_true h
theorem or_Lf {K : Nat → Int32} {m : Nat} (h : ¬ K (m + 1) = 5) : ¬ or_L K m = true := fun z => h (of_decide_eq_true z)
theorem or_vf {K V : Nat → Int32} : ∀ d m, or_v K V (d + 1) m = or_f K (oc_it (or_L K) (or_n V) d m) := by
  intro d
  induction d with
  | zero => intro m; rfl
  | succ d ih =>
    intro m
    rw [or_v_s, oc_it_s]
    by_cases h5 : K (m + 1) = 5
    · rw [if_neg (by rw [h5]; exact or_50), if_pos h5, if_pos (or_Lt h5)]
      exact ih _
    · rw [if_neg h5, if_neg (or_Lf h5)]
      unfold or_f
      rw [if_neg h5]
theorem or_fL {K : Nat → Int32} {m : Nat} (h : or_L K m = true) : or_f K m = -2 := by
  have e : K (m + 1) = 5 := of_decide_eq_true h
  unfold or_f
  rw [if_neg (by rw [e]; exact or_50), if_pos e]
theorem or_link {sv rv : Int32} {x f K S V Q E : Nat → Int32} {m : Nat} (I : ob_R sv x f rv K S V Q E) (hm : m < 8) (h5 : K (m + 1) = 5) : or_n V m < 8 ∧ V (6 * (m + 1)) = nI (or_n V m + 1) ∧ x (m * 20 + 2 + 0) = nI (or_n V m + 1) := by
  obtain ⟨c, n, ⟨h1, h2, h3, hs, h6, _⟩, hz, hq⟩ := ob_at I hm
  have z1 := hz.1
  have c5 : c = 5 := (nI_eq (b := 5) (by omega) (by omega)).mp (h3.symm.trans h5)
  have n1 := hz.2.2.2.2.1 c5
  obtain ⟨e1, e2, _, e4⟩ := h6 0 (by omega) (by omega)
  obtain ⟨t, ht, et⟩ := e4 (hq c5)
  have en : or_n V m = t := by
    unfold or_n
    rw [show V (6 * (m + 1)) = nI (t + 1) from et, nI_clamp (by omega)]
    omega
  rw [en]
  exact ⟨ht, et, e1.trans et⟩
theorem or_hf {sv rv : Int32} {x f K S V Q E : Nat → Int32} (I : ob_R sv x f rv K S V Q E) : ∀ m, m < 8 → or_L K m = true → or_n V m < 8 := fun _ hm h => (or_link I hm (of_decide_eq_true h)).1
theorem or_X {sv rv : Int32} {x f K S V Q E : Nat → Int32} {post : Int32 → Prop} (I : ob_R sv x f rv K S V Q E) : ∀ d j m, j + d = 8 → m < 8 → post (or_v K V d m) → wX_resolve_13 post sv x f (d + 1) (nI (m + 1)) (nI j) := by
  intro d
  induction d with
  | zero =>
    intro j m hj hm h
    exact br_t (nI_le (a := 8) (by omega) (by omega)) h
  | succ d ih =>
    intro j m hj hm h
    refine br_f (nI_ge (b := 8) (by omega) (by omega)) (od_kindE hm (og_kind I hm).symm ?_)
    rw [or_v_s] at h
    by_cases h0 : K (m + 1) = 0
    · rw [if_pos h0] at h
      exact br_t h0 h
    rw [if_neg h0] at h
    by_cases h5 : K (m + 1) = 5
    · rw [if_pos h5] at h
      obtain ⟨a, b, c⟩ := or_link I hm h5
      exact br_f h0 (br_t h5 (od_valE (i := 0) hm (by omega) c (nm_r (nI_1 j) (ih (j + 1) _ (by omega) a h))))
    · rw [if_neg h5] at h
      exact br_f h0 (br_f h5 h)
theorem or_Y {sv rv : Int32} {x f K S V Q E : Nat → Int32} {post : Int32 → Prop} (I : ob_R sv x f rv K S V Q E) : ∀ d j m, j + d = 9 → m < 8 → post (or_f K (oc_it (or_L K) (or_n V) d m)) → wY_resolve_14 post rv K S V Q E (d + 1) (nI (m + 1)) (nI j) := by
  intro d
  induction d with
  | zero =>
    intro j m hj hm h
    have i : vp_in (nI (m + 1)) 54 := vp_in_nI (by omega) (by omega)
    refine br_t (nI_le (a := 9) (by omega) (by omega)) ?_
    rw [nI_clamp (by omega)]
    have h : post (or_f K m) := h
    unfold or_f at h
    by_cases h5 : K (m + 1) = 5
    · rw [if_neg (by rw [h5]; exact or_50), if_pos h5] at h
      exact ⟨i, br_t h5 h⟩
    rw [if_neg h5] at h
    by_cases h0 : K (m + 1) = 0
    · rw [if_pos h0] at h
      exact ⟨i, br_f h5 ⟨i, br_t h0 h⟩⟩
    · rw [if_neg h0] at h
      exact ⟨i, br_f h5 ⟨i, br_f h0 h⟩⟩
  | succ d ih =>
    intro j m hj hm h
    have i : vp_in (nI (m + 1)) 54 := vp_in_nI (by omega) (by omega)
    refine br_f (nI_ge (b := 9) (by omega) (by omega)) ?_
    rw [oa_6, nI_clamp (by omega), nI_clamp (by omega)]
    rw [oc_it_s] at h
    by_cases h5 : K (m + 1) = 5
    · rw [if_pos (or_Lt h5)] at h
      obtain ⟨a, b, c⟩ := or_link I hm h5
      exact ⟨i, br_t h5 ⟨vp_in_nI (by omega) (by omega), nm_r b (nm_r (nI_1 j) (ih (j + 1) _ (by omega) a h))⟩⟩
    · rw [if_neg (or_Lf h5)] at h
      refine ⟨i, br_f h5 (nm_r (nI_1 j) (ih (j + 1) m (by omega) hm ?_))⟩
      cases d with
      | zero => exact h
      | succ d => rw [oc_it_s, if_neg (or_Lf h5)]; exact h
theorem i_vc_resolve {k : Nat} {u : SX} {v : SY} (I : i_Rel k u v) (hk : k + 4 ≤ 2048) (v1 : Int32) : wpX_resolve (fun r => wpY_resolve (fun r' => r' = r ∧ i_Rel (k + 4) u v) v v1) u v1 := by
  obtain ⟨sv, x, f⟩ := u
  obtain ⟨rv, K, S, V, Q, E⟩ := v
  have I : ob_R sv x f rv K S V Q E := I
  unfold wpX_resolve wpY_resolve
  dsimp only
  rcases oa_obj v1 with hb | ⟨m, hm, rfl⟩
  · exact od_bad hb (br_t rfl (oe_bad hb (br_f oa_10 ⟨rfl, I⟩)))
  · refine od_good hm (br_f oa_10 ⟨8 + 1, or_X I 8 0 m (by omega) hm (oe_good hm (br_t rfl ⟨9 + 1, or_Y I 9 0 m (by omega) hm ⟨?_, I⟩⟩))⟩)
    rw [or_vf]
    rcases oc_res (or_hf I) hm with e | ⟨a, b⟩
    · rw [e]
    · rw [or_fL a, or_fL b]
/-! links -/
theorem ol_btw {sv rv : Int32} {x f K S V Q E : Nat → Int32} {post : Int32 → Prop} {m : Nat} {t : Int32} (I : ob_R sv x f rv K S V Q E) (hm : m < 8) (h : post (ob_lk V Q (6 * (m + 1)) t (S (m + 1)).toNatClampNeg)) : wpX_linksBetween post (sv, x, f) (nI (m + 1)) t := by
  obtain ⟨c, n, ⟨h1, h2, h3, hs, h6, _⟩, hz, _⟩ := ob_at I hm
  have z2 := hz.2.1
  rw [hs, nI_clamp (by omega)] at h
  have l : ∀ d i, i + d = n → wX_linksBetween_12 post (nI (m + 1)) t (nI n) sv x f (d + 1) (ob_lk V Q (6 * (m + 1)) t i) (nI i) := by
    intro d
    induction d with
    | zero =>
      intro i hi
      have e : i = n := by omega
      subst e
      exact br_t (nI_le (by omega) (by omega)) h
    | succ d ih =>
      intro i hi
      obtain ⟨e1, e2, _, _⟩ := h6 i (by omega) (by omega)
      refine br_f (nI_ge (by omega) (by omega)) (od_vkE hm (by omega) e2 ?_)
      by_cases hq : Q (6 * (m + 1) + i) = 2
      · refine br_t hq (od_valE hm (by omega) e1 ?_)
        by_cases hv : V (6 * (m + 1) + i) = t
        · exact br_t hv (nm_r (ob_lk_t hq hv).symm (nm_r (nI_1 i) (ih (i + 1) (by omega))))
        · refine br_f hv (nm_r (nI_1 i) ?_)
          have := ih (i + 1) (by omega)
          rw [ob_lk_f (fun z => hv z.2)] at this
          exact this
      · refine br_f hq (nm_r (nI_1 i) ?_)
        have := ih (i + 1) (by omega)
        rw [ob_lk_f (fun z => hq z.1)] at this
        exact this
  unfold wpX_linksBetween
  dsimp only
  exact od_sizeE hm h2 ⟨n + 1, l n 0 (by omega)⟩
theorem ol_X {sv rv : Int32} {x f K S V Q E : Nat → Int32} {post : Int32 → Prop} {t : Int32} (I : ob_R sv x f rv K S V Q E) (h : post (ob_ls S V Q t 8)) : ∀ d j, j + d = 8 → wX_links_13 post t sv x f (d + 1) (ob_ls S V Q t j) (nI (j + 1)) := by
  intro d
  induction d with
  | zero =>
    intro j hj
    have e : j = 8 := by omega
    subst e
    exact br_t (nI_lt (a := 8) (by omega) (by omega)) h
  | succ d ih =>
    intro j hj
    exact br_f (oa_ngt8 (by omega)) (ol_btw I (by omega) (nm_e (nm_r (nI_1 (j + 1)) (ih (j + 1) (by omega)))))
theorem ol_Yi {sv rv : Int32} {x f K S V Q E : Nat → Int32} {post : Int32 → Prop} {J : Int32 → Int32 → Prop} {m : Nat} {t a : Int32} (I : ob_R sv x f rv K S V Q E) (hm : m < 8) (h : J (a + ob_lk V Q (6 * (m + 1)) t (S (m + 1)).toNatClampNeg) (nI (m + 1 + 1))) :
    ∃ n23 : Nat, wY_links_23 post J t (nI (m + 1)) rv K S V Q E n23 a 0 := by
  obtain ⟨c, n, ⟨h1, h2, h3, hs, h6, _⟩, hz, _⟩ := ob_at I hm
  have z2 := hz.2.1
  have i0 : vp_in (nI (m + 1)) 54 := vp_in_nI (by omega) (by omega)
  rw [hs, nI_clamp (by omega)] at h
  have l : ∀ d i, i + d = n → wY_links_23 post J t (nI (m + 1)) rv K S V Q E (d + 1) (a + ob_lk V Q (6 * (m + 1)) t i) (nI i) := by
    intro d
    induction d with
    | zero =>
      intro i hi
      have e : i = n := by omega
      subst e
      refine And.intro i0 ?_
      rw [nI_clamp (by omega), hs]
      exact br_t (nI_le (by omega) (by omega)) (nm_r (nI_1 (m + 1)) h)
    | succ d ih =>
      intro i hi
      have i1 : vp_in (nI (6 * (m + 1) + i)) 324 := vp_in_nI (by omega) (by omega)
      refine And.intro i0 ?_
      rw [nI_clamp (by omega), hs, oa_6, nI_add, nI_clamp (by omega)]
      refine br_f (nI_ge (by omega) (by omega)) ⟨i1, ?_⟩
      have ih := ih (i + 1) (by omega)
      by_cases hq : Q (6 * (m + 1) + i) = 2
      · refine br_t hq ⟨i1, ?_⟩
        by_cases hv : V (6 * (m + 1) + i) = t
        · rw [ob_lk_t hq hv, ← Int32.add_assoc] at ih
          exact br_t hv (nm_e (nm_r (nI_1 i) ih))
        · rw [ob_lk_f (fun z => hv z.2)] at ih
          exact br_f hv (nm_r (nI_1 i) ih)
      · rw [ob_lk_f (fun z => hq z.1)] at ih
        exact br_f hq (nm_r (nI_1 i) ih)
  have l0 := l n 0 (by omega)
  rw [show ob_lk V Q (6 * (m + 1)) t 0 = 0 from rfl, Int32.add_zero, nI_0] at l0
  exact ⟨n + 1, l0⟩
theorem ol_Y {sv rv : Int32} {x f K S V Q E : Nat → Int32} {post : Int32 → Prop} {t : Int32} (I : ob_R sv x f rv K S V Q E) (h : post (ob_ls S V Q t 8)) : ∀ d j, j + d = 8 → wY_links_14 post t rv K S V Q E (d + 1) (ob_ls S V Q t j) (nI (j + 1)) := by
  intro d
  induction d with
  | zero =>
    intro j hj
    have e : j = 8 := by omega
    subst e
    exact br_t (nI_le (a := 9) (by omega) (by omega)) h
  | succ d ih =>
    intro j hj
    exact br_f (nI_ge (b := 9) (by omega) (by omega)) (ol_Yi I (by omega) (ih (j + 1) (by omega)))
theorem i_vc_links {k : Nat} {u : SX} {v : SY} (I : i_Rel k u v) (hk : k + 4 ≤ 2048) (v1 : Int32) : wpX_links (fun r => wpY_links (fun r' => r' = r ∧ i_Rel (k + 4) u v) v v1) u v1 := by
  obtain ⟨sv, x, f⟩ := u
  obtain ⟨rv, K, S, V, Q, E⟩ := v
  have I : ob_R sv x f rv K S V Q E := I
  unfold wpX_links wpY_links
  dsimp only
  rcases oa_obj v1 with hb | ⟨m, hm, rfl⟩
  · exact od_bad hb (br_t rfl (oe_bad hb (br_f oa_10 ⟨rfl, I⟩)))
  · exact od_good hm (br_f oa_10 ⟨8 + 1, ol_X I (oe_good hm (br_t rfl ⟨8 + 1, ol_Y I ⟨rfl, I⟩ 8 0 (by omega)⟩)) 8 0 (by omega)⟩)
/-! digest -/
theorem og_Xi {sv rv : Int32} {x f K S V Q E : Nat → Int32} {post : Int32 → Prop} {J : Int32 → Int32 → Prop} {m : Nat} {a : Int32} (I : ob_R sv x f rv K S V Q E) (hm : m < 8) (h : J (ob_dv V m a (S (m + 1)).toNatClampNeg) (nI (m + 1 + 1))) :
    wpX_sizeOf (fun r_7 => (∃ n33 : Nat, wX_digest_33 post J (nI (m + 1)) r_7 sv x f n33 a 0)) (sv, x, f) (nI (m + 1)) := by
  obtain ⟨c, n, ⟨h1, h2, h3, hs, h6, _⟩, hz, _⟩ := ob_at I hm
  have z2 := hz.2.1
  rw [hs, nI_clamp (by omega)] at h
  have l : ∀ d i, i + d = n → wX_digest_33 post J (nI (m + 1)) (nI n) sv x f (d + 1) (ob_dv V m a i) (nI i) := by
    intro d
    induction d with
    | zero =>
      intro i hi
      have e : i = n := by omega
      subst e
      exact br_t (nI_le (by omega) (by omega)) (nm_r (nI_1 (m + 1)) h)
    | succ d ih =>
      intro i hi
      obtain ⟨e1, e2, _, _⟩ := h6 i (by omega) (by omega)
      exact br_f (nI_ge (by omega) (by omega)) (od_valE hm (by omega) e1 (nm_e (nm_r (nI_1 i) (ih (i + 1) (by omega)))))
  exact od_sizeE hm h2 ⟨n + 1, l n 0 (by omega)⟩
theorem og_X {sv rv : Int32} {x f K S V Q E : Nat → Int32} {post : Int32 → Prop} (I : ob_R sv x f rv K S V Q E) (h : post (ob_ds K S V 8)) : ∀ d j, j + d = 8 → wX_digest_4 post sv x f (d + 1) (ob_ds K S V j) (nI (j + 1)) := by
  intro d
  induction d with
  | zero =>
    intro j hj
    have e : j = 8 := by omega
    subst e
    exact br_t (nI_lt (a := 8) (by omega) (by omega)) h
  | succ d ih =>
    intro j hj
    exact br_f (oa_ngt8 (by omega)) (od_kindE (by omega) (og_kind I (by omega)).symm (nm_e (og_Xi I (by omega) (ih (j + 1) (by omega)))))
theorem og_Yi {sv rv : Int32} {x f K S V Q E : Nat → Int32} {post : Int32 → Prop} {J : Int32 → Int32 → Prop} {m : Nat} {a : Int32} (I : ob_R sv x f rv K S V Q E) (hm : m < 8) (h : J (ob_dv V m a (S (m + 1)).toNatClampNeg) (nI (m + 1 + 1))) :
    ∃ n27 : Nat, wY_digest_27 post J (nI (m + 1)) rv K S V Q E n27 a 0 := by
  obtain ⟨c, n, ⟨h1, h2, h3, hs, h6, _⟩, hz, _⟩ := ob_at I hm
  have z2 := hz.2.1
  have i0 : vp_in (nI (m + 1)) 54 := vp_in_nI (by omega) (by omega)
  rw [hs, nI_clamp (by omega)] at h
  have l : ∀ d i, i + d = n → wY_digest_27 post J (nI (m + 1)) rv K S V Q E (d + 1) (ob_dv V m a i) (nI i) := by
    intro d
    induction d with
    | zero =>
      intro i hi
      have e : i = n := by omega
      subst e
      refine And.intro i0 ?_
      rw [nI_clamp (by omega), hs]
      exact br_t (nI_le (by omega) (by omega)) (nm_r (nI_1 (m + 1)) h)
    | succ d ih =>
      intro i hi
      have i1 : vp_in (nI (6 * (m + 1) + i)) 324 := vp_in_nI (by omega) (by omega)
      refine And.intro i0 ?_
      rw [nI_clamp (by omega), hs, oa_6, nI_add, nI_clamp (by omega)]
      exact br_f (nI_ge (by omega) (by omega)) ⟨i1, nm_e (nm_r (nI_1 i) (ih (i + 1) (by omega)))⟩
  exact ⟨n + 1, l n 0 (by omega)⟩
theorem og_Y {sv rv : Int32} {x f K S V Q E : Nat → Int32} {post : Int32 → Prop} (I : ob_R sv x f rv K S V Q E) (h : post (ob_ds K S V 8)) : ∀ d j, j + d = 8 → wY_digest_4 post rv K S V Q E (d + 1) (ob_ds K S V j) (nI (j + 1)) := by
  intro d
  induction d with
  | zero =>
    intro j hj
    have e : j = 8 := by omega
    subst e
    exact br_t (nI_le (a := 9) (by omega) (by omega)) h
  | succ d ih =>
    intro j hj
    refine br_f (nI_ge (b := 9) (by omega) (by omega)) ?_
    rw [nI_clamp (by omega)]
    exact ⟨vp_in_nI (by omega) (by omega), nm_e (og_Yi I (by omega) (ih (j + 1) (by omega)))⟩
theorem i_vc_digest {k : Nat} {u : SX} {v : SY} (I : i_Rel k u v) (hk : k + 4 ≤ 2048) : wpX_digest (fun r => wpY_digest (fun r' => r' = r ∧ i_Rel (k + 4) u v) v) u := by
  obtain ⟨sv, x, f⟩ := u
  obtain ⟨rv, K, S, V, Q, E⟩ := v
  have I : ob_R sv x f rv K S V Q E := I
  unfold wpX_digest wpY_digest
  dsimp only
  exact ⟨8 + 1, og_X I ⟨8 + 1, og_Y I ⟨rfl, I⟩ 8 0 (by omega)⟩ 8 0 (by omega)⟩
end
section
/-! copies word by word -/
def ow_c (d s : Nat → Int32) (t a i : Nat) : Nat → Int32 := fun j => if t ≤ j ∧ j < t + i then s (a + (j - t)) else d j
theorem ow_0 {d s : Nat → Int32} {t a : Nat} : ow_c d s t a 0 = d := by
  funext j; unfold ow_c; rw [if_neg (by omega)]
theorem ow_s {d s : Nat → Int32} {t a i : Nat} {v : Int32} (hv : v = s (a + i)) : upd (ow_c d s t a i) (t + i) v = ow_c d s t a (i + 1) := by
  funext j
  unfold upd ow_c
  by_cases h : j = t + i
  · rw [if_pos h, if_pos (by omega), hv, h, show t + i - t = i from by omega]
  · rw [if_neg h]
    by_cases h2 : t ≤ j ∧ j < t + i
    · rw [if_pos h2, if_pos (by omega)]
    · rw [if_neg h2, if_neg (by omega)]
theorem ow_in {d s : Nat → Int32} {t a i j : Nat} (h : j < i) : ow_c d s t a i (t + j) = s (a + j) := by
  unfold ow_c
  rw [if_pos (by omega), show t + j - t = j from by omega]
theorem ow_in0 {d s : Nat → Int32} {t i j : Nat} (h : j < i) : ow_c d s t 0 i (t + j) = s j := by rw [ow_in h, Nat.zero_add]
theorem ow_out {d s : Nat → Int32} {t a i j : Nat} (h : j < t ∨ t + i ≤ j) : ow_c d s t a i j = d j := by
  unfold ow_c
  rw [if_neg (by omega)]
section OW
variable {sv rv : Int32} {x f K S V Q E : Nat → Int32}
theorem ow_write {post : SX → Prop} {r : Nat} (hr : r < 5) (h : post (sv, x, ow_c f x (r * 160) 0 160)) : wpX_writeRevision post (sv, x, f) (nI r) := by
  have l : ∀ d i, i + d = 160 → wX_writeRevision_8 post (nI (r * 160)) sv (d + 1) (nI i) x (ow_c f x (r * 160) 0 i) := by
    intro d
    induction d with
    | zero =>
      intro i hi
      have e : i = 160 := by omega
      subst e
      exact br_t (nI_le (a := 160) (by omega) (by omega)) h
    | succ d ih =>
      intro i hi
      refine br_f (nI_ge (b := 160) (by omega) (by omega)) ?_
      rw [nI_add, nI_clamp (by omega), nI_clamp (by omega)]
      refine ⟨vp_in_nI (by omega) (by omega), vp_in_nI (by omega) (by omega), nm_e (nm_r (nI_1 i) ?_)⟩
      rw [ow_s (by rw [Nat.zero_add])]
      exact ih (i + 1) (by omega)
  unfold wpX_writeRevision
  dsimp only
  refine nm_r (oa_m160 r) ⟨160 + 1, ?_⟩
  have l0 := l 160 0 (by omega)
  rw [ow_0, nI_0] at l0
  exact l0
theorem ow_read {post : SX → Prop} {r : Nat} (hr : r < 5) (h : post (sv, ow_c x f 0 (r * 160) 160, f)) : wpX_readRevision post (sv, x, f) (nI r) := by
  have l : ∀ d i, i + d = 160 → wX_readRevision_8 post (nI (r * 160)) sv (d + 1) (nI i) (ow_c x f 0 (r * 160) i) f := by
    intro d
    induction d with
    | zero =>
      intro i hi
      have e : i = 160 := by omega
      subst e
      exact br_t (nI_le (a := 160) (by omega) (by omega)) h
    | succ d ih =>
      intro i hi
      refine br_f (nI_ge (b := 160) (by omega) (by omega)) ?_
      rw [nI_add, nI_clamp (by omega), nI_clamp (by omega)]
      refine ⟨vp_in_nI (by omega) (by omega), vp_in_nI (by omega) (by omega), nm_e (nm_r (nI_1 i) ?_)⟩
      have e : upd (ow_c x f 0 (r * 160) i) i (f (r * 160 + i)) = ow_c x f 0 (r * 160) (i + 1) := by
        have := ow_s (d := x) (s := f) (t := 0) (a := r * 160) (i := i) (v := f (r * 160 + i)) rfl
        rw [Nat.zero_add] at this
        exact this
      rw [e]
      exact ih (i + 1) (by omega)
  unfold wpX_readRevision
  dsimp only
  refine nm_r (oa_m160 r) ⟨160 + 1, ?_⟩
  have l0 := l 160 0 (by omega)
  rw [ow_0, nI_0] at l0
  exact l0
theorem ow_copy {post : SY → Prop} {g t : Nat} (hg : g ≤ 5) (ht : t ≤ 5) (ne : g ≠ t) (h : ∀ K' S' V' Q' E' : Nat → Int32, ob_Cp K S V Q E K' S' V' Q' E' g t → post (rv, K', S', V', Q', E')) : wpY_copy post (rv, K, S, V, Q, E) (nI g) (nI t) := by
  have h9 := h (ow_c K K (9 * t) (9 * g) 9) (ow_c S S (9 * t) (9 * g) 9) (ow_c V V (54 * t) (54 * g) 54) (ow_c Q Q (54 * t) (54 * g) 54) (ow_c E E (54 * t) (54 * g) 54)
    ⟨fun o ho => ⟨ow_in ho, ow_in ho⟩, fun j hj => ⟨ow_in hj, ow_in hj, ow_in hj⟩, fun s hs => ⟨ow_out hs, ow_out hs⟩, fun j hj => ⟨ow_out hj, ow_out hj, ow_out hj⟩⟩
  have l2 : ∀ d i, i + d = 54 → wY_copy_60 post (nI g) (nI t) rv (d + 1) (nI i) (ow_c K K (9 * t) (9 * g) 9) (ow_c S S (9 * t) (9 * g) 9) (ow_c V V (54 * t) (54 * g) i) (ow_c Q Q (54 * t) (54 * g) i) (ow_c E E (54 * t) (54 * g) i) := by
    intro d
    induction d with
    | zero =>
      intro i hi
      have e : i = 54 := by omega
      subst e
      exact br_t (nI_le (a := 54) (by omega) (by omega)) h9
    | succ d ih =>
      intro i hi
      refine br_f (nI_ge (b := 54) (by omega) (by omega)) ?_
      rw [oa_54, oa_54, nI_add, nI_add, nI_clamp (by omega), nI_clamp (by omega)]
      have i1 : vp_in (nI (54 * g + i)) 324 := vp_in_nI (by omega) (by omega)
      have i2 : vp_in (nI (54 * t + i)) 324 := vp_in_nI (by omega) (by omega)
      refine ⟨i1, i2, nm_r (ow_s (ow_out (by omega))) ⟨i1, i2, nm_r (ow_s (ow_out (by omega))) ⟨i1, i2, nm_r (ow_s (ow_out (by omega))) (nm_r (nI_1 i) (ih (i + 1) (by omega)))⟩⟩⟩
  have l1 : ∀ d i, i + d = 9 → wY_copy_2 post (nI g) (nI t) rv (d + 1) (nI i) (ow_c K K (9 * t) (9 * g) i) (ow_c S S (9 * t) (9 * g) i) V Q E := by
    intro d
    induction d with
    | zero =>
      intro i hi
      have e : i = 9 := by omega
      subst e
      refine br_t (nI_le (a := 9) (by omega) (by omega)) ⟨54 + 1, ?_⟩
      have l0 := l2 54 0 (by omega)
      rw [ow_0, ow_0, ow_0, nI_0] at l0
      exact l0
    | succ d ih =>
      intro i hi
      refine br_f (nI_ge (b := 9) (by omega) (by omega)) ?_
      rw [oa_9, oa_9, nI_add, nI_add, nI_clamp (by omega), nI_clamp (by omega)]
      have i1 : vp_in (nI (9 * g + i)) 54 := vp_in_nI (by omega) (by omega)
      have i2 : vp_in (nI (9 * t + i)) 54 := vp_in_nI (by omega) (by omega)
      refine ⟨i1, i2, nm_r (ow_s (ow_out (by omega))) ⟨i1, i2, nm_r (ow_s (ow_out (by omega))) (nm_r (nI_1 i) (ih (i + 1) (by omega)))⟩⟩
  have l0 := l1 9 0 (by omega)
  rw [ow_0, ow_0, nI_0] at l0
  exact ⟨9 + 1, l0⟩
theorem ow_way1 {post : Int32 → Prop} {w : Int32} (h0 : ¬ w < 0) (h2 : ¬ 2 < w) (h : post 1) : wpX_isWay post w := br_f h0 (br_f h2 h)
theorem ow_way0 {post : Int32 → Prop} {w : Int32} (h0 : w < 0 ∨ 2 < w) (h : post 0) : wpX_isWay post w := by
  by_cases a : w < 0
  · exact br_t a h
  · rcases h0 with z | z
    · exact absurd z a
    · exact br_f a (br_t z h)
theorem ow_countX {post : Int32 → Prop} (hx : ∀ m, m < 8 → x (m * 20) = K (m + 1)) (h : post (ob_ct K 8)) : wpX_countPresent post (sv, x, f) := by
  have l : ∀ d j, j + d = 8 → wX_countPresent_4 post sv x f (d + 1) (ob_ct K j) (nI (j + 1)) := by
    intro d
    induction d with
    | zero =>
      intro j hj
      have e : j = 8 := by omega
      subst e
      exact br_t (nI_lt (a := 8) (by omega) (by omega)) h
    | succ d ih =>
      intro j hj
      refine br_f (oa_ngt8 (by omega)) (od_kindE (by omega) (hx j (by omega)) ?_)
      have ih := ih (j + 1) (by omega)
      by_cases h0 : K (j + 1) = 0
      · rw [ob_ct_t h0] at ih
        exact br_t h0 (nm_r (nI_1 (j + 1)) ih)
      · rw [ob_ct_f h0] at ih
        exact br_f h0 (nm_e (nm_r (nI_1 (j + 1)) ih))
  exact ⟨8 + 1, l 8 0 (by omega)⟩
theorem ow_countY {post : Int32 → SY → Prop} (h : post (ob_ct K 8) (rv, K, S, V, Q, E)) : ∃ n26 : Nat, wY_open_26 post rv K S V Q E n26 0 1 := by
  have l : ∀ d j, j + d = 8 → wY_open_26 post rv K S V Q E (d + 1) (ob_ct K j) (nI (j + 1)) := by
    intro d
    induction d with
    | zero =>
      intro j hj
      have e : j = 8 := by omega
      subst e
      exact br_t (nI_le (a := 9) (by omega) (by omega)) h
    | succ d ih =>
      intro j hj
      refine br_f (nI_ge (b := 9) (by omega) (by omega)) ?_
      rw [nI_clamp (by omega)]
      refine ⟨vp_in_nI (by omega) (by omega), ?_⟩
      have ih := ih (j + 1) (by omega)
      by_cases h0 : K (j + 1) = 0
      · rw [ob_ct_t h0] at ih
        exact br_t h0 (nm_r (nI_1 (j + 1)) ih)
      · rw [ob_ct_f h0] at ih
        exact br_f h0 (nm_e (nm_r (nI_1 (j + 1)) ih))
  exact ⟨8 + 1, l 8 0 (by omega)⟩
end OW
theorem i_vc_save {k : Nat} {u : SX} {v : SY} (I : i_Rel k u v) (hk : k + 4 ≤ 2048) (v1 : Int32) : wpX_save (fun r u' => wpY_save (fun r' v' => r' = r ∧ i_Rel (k + 4) u' v') v v1) u v1 := by
  obtain ⟨sv, x, f⟩ := u
  obtain ⟨rv, K, S, V, Q, E⟩ := v
  have I : ob_R sv x f rv K S V Q E := I
  unfold wpX_save wpY_save
  dsimp only
  by_cases h0 : v1 < 0
  · exact ow_way0 (Or.inl h0) (br_t rfl (br_t h0 ⟨rfl, I⟩))
  by_cases h2 : 2 < v1
  · exact ow_way0 (Or.inr h2) (br_t rfl (br_f h0 (br_f (Int32.not_le.mpr h2) ⟨rfl, I⟩)))
  have g2 : v1 ≤ 2 := Int32.not_lt.mp h2
  refine ow_way1 h0 h2 (br_f oa_10 ?_)
  obtain ⟨r, r5, e1, e2, hl, hf⟩ := id I
  subst e1 e2
  by_cases z : v1 = 0
  · refine br_t z ?_
    by_cases n5 : r < 5
    · refine br_t (nI_lt (b := 5) n5 (by omega)) ?_
      unfold wX_save_24 wX_save_36
      refine br_t z (ow_write n5 (nm_r (nI_1 r) ?_))
      refine br_f h0 (br_t g2 (br_t z (br_f ?_ ?_)))
      · exact fun q => absurd ((nI_eq (b := 5) (by omega) (by omega)).mp q) (by omega)
      · unfold wY_save_26 wY_save_41
        rw [nI_1]
        refine br_t z (ow_copy (g := 0) (by omega) (by omega) (by omega) fun K' S' V' Q' E' hc => ?_)
        exact ⟨rfl, ob_save n5 hl hf (fun w hw => ow_in0 hw) (fun j hj => ow_out (Or.inl hj)) hc⟩
    · have e5 : r = 5 := by omega
      subst e5
      exact br_f (nI_nlt (b := 5) (by omega) (by omega)) (br_f h0 (br_t g2 (br_t z (br_t rfl ⟨rfl, I⟩))))
  · refine br_f z ?_
    unfold wX_save_24 wX_save_36
    refine br_f z (ow_write (r := 0) (by omega) (nm_r (nI_1 0) ?_))
    refine br_f h0 (br_t g2 (br_f z ?_))
    unfold wY_save_26 wY_save_41
    refine br_f z (ow_copy (g := 0) (t := 0 + 1) (by omega) (by omega) (by omega) fun K' S' V' Q' E' hc => ?_)
    exact ⟨rfl, ob_save (r := 0) (f := f) (by omega) hl (fun q hq => absurd hq (by omega)) (fun w hw => ow_in0 hw) (fun j hj => ow_out (Or.inl hj)) hc⟩
theorem ow_kinds {sv rv : Int32} {x f K S V Q E : Nat → Int32} (I : ob_R sv x f rv K S V Q E) : ∀ m, m < 8 → x (m * 20) = K (m + 1) := fun _ hm => (og_kind I hm).symm
theorem i_vc_open {k : Nat} {u : SX} {v : SY} (I : i_Rel k u v) (hk : k + 4 ≤ 2048) (v1 : Int32) : wpX_open (fun r u' => wpY_open (fun r' v' => r' = r ∧ i_Rel (k + 4) u' v') v v1) u v1 := by
  obtain ⟨sv, x, f⟩ := u
  obtain ⟨rv, K, S, V, Q, E⟩ := v
  have I : ob_R sv x f rv K S V Q E := I
  unfold wpX_open wpY_open
  dsimp only
  by_cases h0 : v1 < 0
  · exact br_t h0 (br_t h0 ⟨rfl, I⟩)
  obtain ⟨r, r5, e1, e2, hl, hf⟩ := id I
  subst e1 e2
  by_cases hr : v1 < nI r
  · obtain ⟨q, hq, rfl⟩ := nI_of h0
    have qr : q < r := (nI_ltI hq (by omega)).mp hr
    refine br_f h0 (br_t hr (ow_read (by omega) ?_))
    dsimp only
    have hx : ∀ w, w < 160 → ow_c x f 0 (q * 160) 160 w = f (q * 160 + w) := fun w hw => by
      have := ow_in (d := x) (s := f) (t := 0) (a := q * 160) hw
      rw [Nat.zero_add] at this
      exact this
    have hk : ∀ m, m < 8 → ow_c x f 0 (q * 160) 160 (m * 20) = (fun s => K (9 * (q + 1) + s)) (m + 1) := fun m hm => by
      obtain ⟨c, n, ⟨h1, _, h3, _⟩, _⟩ := hf q qr m hm
      rw [hx _ (by omega), h1]
      exact h3.symm
    refine ow_countX (K := fun s => K (9 * (q + 1) + s)) hk ?_
    refine br_f h0 (br_t hr ?_)
    rw [nI_1]
    refine ow_copy (t := 0) (by omega) (by omega) (by omega) fun K' S' V' Q' E' hc => ow_countY ?_
    have R := ob_open r5 qr hf hx hc
    refine ⟨?_, R⟩
    have ct : ∀ m, m ≤ 8 → ob_ct K' m = ob_ct (fun s => K (9 * (q + 1) + s)) m := by
      intro m
      induction m with
      | zero => exact fun _ => rfl
      | succ m ih =>
        intro hm
        have a := (hc.1 (m + 1) (by omega)).1
        rw [Nat.mul_zero, Nat.zero_add] at a
        show (if K' (m + 1) = 0 then ob_ct K' m else ob_ct K' m + 1) = (if K (9 * (q + 1) + (m + 1)) = 0 then ob_ct (fun s => K (9 * (q + 1) + s)) m else ob_ct (fun s => K (9 * (q + 1) + s)) m + 1)
        rw [a, ih (by omega)]
    exact ct 8 (by omega)
  · exact br_f h0 (br_f hr (br_f h0 (br_f hr ⟨rfl, I⟩)))
theorem ow_clearX {sv : Int32} {x f : Nat → Int32} {post : SX → Prop} (h : post (sv, ob_sx (fun _ => true) x 8, f)) : wpX_clearObjects post (sv, x, f) := by
  have l : ∀ d j, j + d = 8 → wX_clearObjects_2 post (d + 1) (nI (j + 1)) sv (ob_sx (fun _ => true) x j) f := by
    intro d
    induction d with
    | zero =>
      intro j hj
      have e : j = 8 := by omega
      subst e
      exact br_t (nI_lt (a := 8) (by omega) (by omega)) h
    | succ d ih =>
      intro j hj
      exact br_f (oa_ngt8 (by omega)) (od_renew (by omega) (nm_r (nI_1 (j + 1)) (ih (j + 1) (by omega))))
  exact ⟨8 + 1, l 8 0 (by omega)⟩
theorem ow_clearY {K S V Q E : Nat → Int32} {post : Int32 → SY → Prop} (h : post 0 (0, ob_sk (fun _ => true) K 8, ob_sk (fun _ => true) S 8, V, Q, E)) : ∃ n29 : Nat, wY_breakOff_29 post n29 1 0 K S V Q E := by
  have l : ∀ d j, j + d = 8 → wY_breakOff_29 post (d + 1) (nI (j + 1)) 0 (ob_sk (fun _ => true) K j) (ob_sk (fun _ => true) S j) V Q E := by
    intro d
    induction d with
    | zero =>
      intro j hj
      have e : j = 8 := by omega
      subst e
      exact br_t rfl (br_t (nI_le (a := 9) (by omega) (by omega)) h)
    | succ d ih =>
      intro j hj
      exact br_t rfl (br_f (nI_ge (b := 9) (by omega) (by omega)) (oe_become0 (by omega) oa_01 oa_05 (nm_r (nI_1 (j + 1)) (ih (j + 1) (by omega)))))
  exact ⟨8 + 1, l 8 0 (by omega)⟩
theorem i_vc_breakOff {k : Nat} {u : SX} {v : SY} (I : i_Rel k u v) (hk : k + 4 ≤ 2048) (v1 : Int32) (v2 : Int32) : wpX_breakOff (fun r u' => wpY_breakOff (fun r' v' => r' = r ∧ i_Rel (k + 4) u' v') v v1 v2) u v1 v2 := by
  obtain ⟨sv, x, f⟩ := u
  obtain ⟨rv, K, S, V, Q, E⟩ := v
  have I : ob_R sv x f rv K S V Q E := I
  unfold wpX_breakOff wpY_breakOff
  dsimp only
  by_cases h0 : v1 < 0
  · exact ow_way0 (Or.inl h0) (br_t rfl (br_t h0 ⟨rfl, I⟩))
  by_cases h2 : 2 < v1
  · exact ow_way0 (Or.inr h2) (br_t rfl (br_f h0 (br_f (Int32.not_le.mpr h2) ⟨rfl, I⟩)))
  have g2 : v1 ≤ 2 := Int32.not_lt.mp h2
  refine ow_way1 h0 h2 (br_f oa_10 ?_)
  obtain ⟨r, r5, e1, e2, hl, hf⟩ := id I
  subst e1 e2
  by_cases z : r = 0
  · subst z
    have g : nI 0 ≤ 0 := nI_le (b := 0) (by omega) (by omega)
    exact br_t g (ow_clearX (br_f h0 (br_t g2 (br_t g (ow_clearY ⟨rfl, ob_sR (sw := fun _ => true) I 8 (by omega)⟩)))))
  · have g : ¬ nI r ≤ 0 := nI_nle (by omega) (by omega)
    obtain ⟨q, rfl⟩ : ∃ q, r = q + 1 := ⟨r - 1, by omega⟩
    refine br_f g ?_
    rw [nI_pred]
    refine ow_read (by omega) (br_f h0 (br_t g2 (br_f g (ow_copy (t := 0) (by omega) (by omega) (by omega) fun K' S' V' Q' E' hc => ⟨1, br_f (nI_ne0 (by omega) (by omega)) ⟨rfl, ?_⟩⟩))))
    exact ob_open r5 (by omega) hf (fun w hw => by
      have := ow_in (d := x) (s := f) (t := 0) (a := q * 160) hw
      rw [Nat.zero_add] at this
      exact this) hc
end
section
/-! changed -/
theorem oq_isR {sv : Int32} {x f : Nat → Int32} {post : Int32 → Prop} {q : Nat} (hq : q < 5) (h1 : (∀ w, w < 160 → f (q * 160 + w) = x w) → post 1) (h0 : (∃ w, w < 160 ∧ ¬ f (q * 160 + w) = x w) → post 0) : wpX_isRevision post (sv, x, f) (nI q) := by
  have l : ∀ d i, i + d = 160 → (∀ w, w < i → f (q * 160 + w) = x w) → wX_isRevision_8 post (nI (q * 160)) sv x f (d + 1) (nI i) := by
    intro d
    induction d with
    | zero =>
      intro i hi ha
      have e : i = 160 := by omega
      subst e
      exact br_t (nI_le (a := 160) (by omega) (by omega)) (h1 ha)
    | succ d ih =>
      intro i hi ha
      refine br_f (nI_ge (b := 160) (by omega) (by omega)) ?_
      rw [nI_add, nI_clamp (by omega), nI_clamp (by omega)]
      refine ⟨vp_in_nI (by omega) (by omega), vp_in_nI (by omega) (by omega), ?_⟩
      by_cases e : f (q * 160 + i) = x i
      · refine br_t e (nm_r (nI_1 i) (ih (i + 1) (by omega) fun w hw => ?_))
        by_cases z : w = i
        · rw [z]; exact e
        · exact ha w (by omega)
      · exact br_f e (h0 ⟨i, by omega, e⟩)
  unfold wpX_isRevision
  dsimp only
  exact nm_r (oa_m160 q) ⟨160 + 1, l 160 0 (by omega) (fun w hw => absurd hw (by omega))⟩
def oq_P (K V Q E : Nat → Int32) (s s' i : Nat) : Prop := V (6 * s + i) = V (6 * s' + i) ∧ Q (6 * s + i) = Q (6 * s' + i) ∧ (K s = 4 → E (6 * s + i) = E (6 * s' + i))
theorem oq_dif {rv : Int32} {K S V Q E : Nat → Int32} {post : Int32 → Prop} {m r n : Nat} (hm : m < 8) (hr : r ≤ 5) (hs : S (m + 1) = nI n) (hn : n ≤ 6) (h0 : ob_Eq K S V Q E (m + 1) (9 * r + (m + 1)) n → post 0) (h1 : ¬ ob_Eq K S V Q E (m + 1) (9 * r + (m + 1)) n → post 1) :
    wpY_differs post (rv, K, S, V, Q, E) (nI (m + 1)) (nI r) := by
  have i0 : vp_in (nI (m + 1)) 54 := vp_in_nI (by omega) (by omega)
  have i1 : vp_in (nI (9 * r + (m + 1))) 54 := vp_in_nI (by omega) (by omega)
  unfold wpY_differs
  dsimp only
  refine nm_r (by rw [oa_9, nI_add]) ?_
  rw [nI_clamp (show m + 1 < 2 ^ 31 by omega), nI_clamp (show 9 * r + (m + 1) < 2 ^ 31 by omega)]
  refine ⟨i0, i1, ?_⟩
  by_cases eK : K (m + 1) = K (9 * r + (m + 1))
  · refine br_t eK ⟨i0, i1, ?_⟩
    by_cases eS : S (m + 1) = S (9 * r + (m + 1))
    · refine br_t eS ?_
      have l : ∀ d i, i + d = n → (∀ j, j < i → oq_P K V Q E (m + 1) (9 * r + (m + 1)) j) → wY_differs_42 post (nI (m + 1)) (nI (9 * r + (m + 1))) rv K S V Q E (d + 1) (nI i) := by
        intro d
        induction d with
        | zero =>
          intro i hi ha
          have e : i = n := by omega
          subst e
          refine And.intro i0 ?_
          rw [nI_clamp (show m + 1 < 2 ^ 31 by omega), hs]
          exact br_t (nI_le (by omega) (by omega)) (h0 ⟨eK, eS, ha⟩)
        | succ d ih =>
          intro i hi ha
          have a1 : vp_in (nI (6 * (m + 1) + i)) 324 := vp_in_nI (by omega) (by omega)
          have a2 : vp_in (nI (6 * (9 * r + (m + 1)) + i)) 324 := vp_in_nI (by omega) (by omega)
          have no : ¬ oq_P K V Q E (m + 1) (9 * r + (m + 1)) i → post 1 := fun z => h1 fun e => z (e.2.2 i (by omega))
          have yes : oq_P K V Q E (m + 1) (9 * r + (m + 1)) i → wY_differs_42 post (nI (m + 1)) (nI (9 * r + (m + 1))) rv K S V Q E (d + 1) (nI (i + 1)) := fun z => ih (i + 1) (by omega) fun j hj => by
            by_cases q : j = i
            · rw [q]; exact z
            · exact ha j (by omega)
          refine And.intro i0 ?_
          rw [nI_clamp (show m + 1 < 2 ^ 31 by omega), hs]
          refine br_f (nI_ge (by omega) (by omega)) (nm_r (by rw [oa_6, nI_add]) (nm_r (by rw [oa_6, nI_add]) ?_))
          rw [nI_clamp (show 6 * (m + 1) + i < 2 ^ 31 by omega), nI_clamp (show 6 * (9 * r + (m + 1)) + i < 2 ^ 31 by omega)]
          refine ⟨a1, a2, ?_⟩
          by_cases eV : V (6 * (m + 1) + i) = V (6 * (9 * r + (m + 1)) + i)
          · refine br_t eV ⟨a1, a2, ?_⟩
            by_cases eQ : Q (6 * (m + 1) + i) = Q (6 * (9 * r + (m + 1)) + i)
            · refine br_t eQ ⟨i0, ?_⟩
              by_cases k4 : K (m + 1) = 4
              · refine br_t k4 ⟨a1, a2, ?_⟩
                by_cases eE : E (6 * (m + 1) + i) = E (6 * (9 * r + (m + 1)) + i)
                · exact br_t eE (nm_r (nI_1 i) (yes ⟨eV, eQ, fun _ => eE⟩))
                · exact br_f eE (no fun z => eE (z.2.2 k4))
              · exact br_f k4 (nm_r (nI_1 i) (yes ⟨eV, eQ, fun z => absurd z k4⟩))
            · exact br_f eQ (no fun z => eQ z.2.1)
          · exact br_f eV (no fun z => eV z.1)
      exact ⟨n + 1, l n 0 (by omega) (fun j hj => absurd hj (by omega))⟩
    · exact br_f eS (h1 fun z => eS z.2.1)
  · exact br_f eK (h1 fun z => eK z.1)
theorem oq_ct {K : Nat → Int32} : ∀ m, m ≤ 8 → ∃ c, c ≤ m ∧ ob_ct K m = nI c ∧ (c = 0 ↔ ∀ j, j < m → K (j + 1) = 0) := by
  intro m
  induction m with
  | zero => exact fun _ => ⟨0, by omega, nI_0.symm, fun _ j hj => absurd hj (by omega), fun _ => rfl⟩
  | succ m ih =>
    intro hm
    obtain ⟨c, hc, e, iff⟩ := ih (by omega)
    by_cases h : K (m + 1) = 0
    · refine ⟨c, by omega, by rw [ob_ct_t h, e], fun z j hj => ?_, fun z => iff.mpr fun j hj => z j (by omega)⟩
      by_cases q : j = m
      · rw [q]; exact h
      · exact iff.mp z j (by omega)
    · refine ⟨c + 1, by omega, by rw [ob_ct_f h, e, nI_1], fun z => absurd z (by omega), fun z => absurd (z m (by omega)) h⟩
/-- the reference without revisions -/
theorem oq_Y0 {K S V Q E : Nat → Int32} {post : Int32 → Prop} (h0 : (∀ j, j < 8 → K (j + 1) = 0) → post 0) (h1 : (∃ j, j < 8 ∧ ¬ K (j + 1) = 0) → post 1) : ∃ n2 : Nat, wY_changed_2 post 0 K S V Q E n2 1 := by
  have l : ∀ d j, j + d = 8 → (∀ i, i < j → K (i + 1) = 0) → wY_changed_2 post 0 K S V Q E (d + 1) (nI (j + 1)) := by
    intro d
    induction d with
    | zero =>
      intro j hj ha
      have e : j = 8 := by omega
      subst e
      exact br_t (nI_le (a := 9) (by omega) (by omega)) (h0 ha)
    | succ d ih =>
      intro j hj ha
      refine br_f (nI_ge (b := 9) (by omega) (by omega)) (br_t rfl ?_)
      rw [nI_clamp (by omega)]
      refine ⟨vp_in_nI (by omega) (by omega), ?_⟩
      by_cases e : K (j + 1) = 0
      · refine br_t e (nm_r (nI_1 (j + 1)) (ih (j + 1) (by omega) fun i hi => ?_))
        by_cases q : i = j
        · rw [q]; exact e
        · exact ha i (by omega)
      · exact br_f e (h1 ⟨j, by omega, e⟩)
  exact ⟨8 + 1, l 8 0 (by omega) (fun i hi => absurd hi (by omega))⟩
theorem oq_Y1 {K S V Q E : Nat → Int32} {post : Int32 → Prop} {r : Nat} {N : Nat → Nat} (hr : r ≤ 5) (r0 : 0 < r) (hN : ∀ m, m < 8 → S (m + 1) = nI (N m) ∧ N m ≤ 6) (h0 : (∀ m, m < 8 → ob_Eq K S V Q E (m + 1) (9 * r + (m + 1)) (N m)) → post 0) (h1 : (∃ m, m < 8 ∧ ¬ ob_Eq K S V Q E (m + 1) (9 * r + (m + 1)) (N m)) → post 1) :
    ∃ n2 : Nat, wY_changed_2 post (nI r) K S V Q E n2 1 := by
  have l : ∀ d j, j + d = 8 → (∀ i, i < j → ob_Eq K S V Q E (i + 1) (9 * r + (i + 1)) (N i)) → wY_changed_2 post (nI r) K S V Q E (d + 1) (nI (j + 1)) := by
    intro d
    induction d with
    | zero =>
      intro j hj ha
      have e : j = 8 := by omega
      subst e
      exact br_t (nI_le (a := 9) (by omega) (by omega)) (h0 ha)
    | succ d ih =>
      intro j hj ha
      refine br_f (nI_ge (b := 9) (by omega) (by omega)) (br_f (nI_ne0 r0 (by omega)) ?_)
      obtain ⟨e1, e2⟩ := hN j (by omega)
      refine oq_dif (by omega) hr e1 e2 (fun e => br_t rfl (nm_r (nI_1 (j + 1)) (ih (j + 1) (by omega) fun i hi => ?_))) (fun e => br_f oa_10 (h1 ⟨j, by omega, e⟩))
      by_cases q : i = j
      · rw [q]; exact e
      · exact ha i (by omega)
  exact ⟨8 + 1, l 8 0 (by omega) (fun i hi => absurd hi (by omega))⟩
theorem i_vc_changed {k : Nat} {u : SX} {v : SY} (I : i_Rel k u v) (hk : k + 4 ≤ 2048) : wpX_changed (fun r => wpY_changed (fun r' => r' = r ∧ i_Rel (k + 4) u v) v) u := by
  obtain ⟨sv, x, f⟩ := u
  obtain ⟨rv, K, S, V, Q, E⟩ := v
  have I : ob_R sv x f rv K S V Q E := I
  unfold wpX_changed wpY_changed
  dsimp only
  obtain ⟨r, r5, e1, e2, hl, hf⟩ := id I
  subst e1 e2
  by_cases z : r = 0
  · subst z
    refine br_t rfl (ow_countX (K := K) (ow_kinds I) ?_)
    obtain ⟨c, hc, e, iff⟩ := oq_ct (K := K) 8 (by omega)
    rw [e]
    by_cases c0 : c = 0
    · refine br_t (nI_le (b := 0) (by omega) (by omega)) (oq_Y0 (fun _ => ⟨rfl, I⟩) fun ⟨j, hj, ne⟩ => absurd (iff.mp c0 j hj) ne)
    · exact br_f (nI_nle (by omega) (by omega)) (oq_Y0 (fun a => absurd (iff.mpr a) c0) fun _ => ⟨rfl, I⟩)
  · obtain ⟨q, rfl⟩ : ∃ q, r = q + 1 := ⟨r - 1, by omega⟩
    refine br_f (nI_ne0 (by omega) (by omega)) ?_
    rw [nI_pred]
    have hN : ∀ m, m < 8 → S (m + 1) = nI (S (m + 1)).toNatClampNeg ∧ (S (m + 1)).toNatClampNeg ≤ 6 := fun m hm => by
      obtain ⟨c, n, ⟨_, _, _, hs, _⟩, hz, _⟩ := ob_im0 hl hm
      have z2 := hz.2.1
      rw [hs, nI_clamp (by omega)]
      exact ⟨rfl, z2⟩
    have two : ∀ m, m < 8 → (ob_Eq K S V Q E (m + 1) (9 * (q + 1) + (m + 1)) (S (m + 1)).toNatClampNeg ↔ ∀ j, j < 20 → f (q * 160 + m * 20 + j) = x (m * 20 + j)) := fun m hm => by
      obtain ⟨c, n, hr⟩ := ob_im0 hl hm
      obtain ⟨c', n', hr'⟩ := hf q (by omega) m hm
      have z2 := hr.2.1.2.1
      rw [hr.1.2.2.2.1, nI_clamp (by omega)]
      exact ⟨fun e => ob_same2 hr hr' e, fun e => ob_same1 hr hr' e⟩
    refine oq_isR (by omega) (fun a => br_f oa_10 (oq_Y1 (N := fun m => (S (m + 1)).toNatClampNeg) r5 (by omega) hN (fun _ => ⟨rfl, I⟩) fun ⟨m, hm, ne⟩ => ?_)) (fun ⟨w, hw, ne⟩ => br_t rfl (oq_Y1 (N := fun m => (S (m + 1)).toNatClampNeg) r5 (by omega) hN (fun a => ?_) fun _ => ⟨rfl, I⟩))
    · refine absurd ((two m hm).mpr fun j hj => ?_) ne
      rw [Nat.add_assoc]
      exact a _ (by omega)
    · have b := (two (w / 20) (by omega)).mp (a (w / 20) (by omega)) (w % 20) (by omega)
      rw [Nat.add_assoc, show w / 20 * 20 + w % 20 = w from by omega] at b
      exact absurd b ne
end
section
/-! sweep: the component's set -/
section OS
variable {sv rv : Int32} {x f K S V Q E : Nat → Int32}
theorem os_in1 {post : Int32 → Prop} {s : Int32} {o : Nat} (ho : o < 31) (hb : bt s o = true) (h : post 1) : wpX_isIn post s (nI o) := br_t ((oa_bit ho).mpr hb) h
theorem os_in0 {post : Int32 → Prop} {s : Int32} {o : Nat} (ho : o < 31) (hb : ¬ bt s o = true) (h : post 0) : wpX_isIn post s (nI o) := br_f (fun z => hb ((oa_bit ho).mp z)) h
theorem os_or {s r : Int32} {t : Nat} : bt (s ||| r) t = true ↔ bt s t = true ∨ bt r t = true := by
  rw [b_or, Bool.or_eq_true]
theorem os_or1 {s : Int32} {t b : Nat} (ht : t < 32) (hb : b < 32) : bt (s ||| ((1 : Int32) <<< (nI b &&& 31))) t = true ↔ bt s t = true ∨ t = b := by
  rw [os_or, oa_one hb ht, decide_eq_true_eq]
theorem os_lf {post : Int32 → Prop} {m : Nat} (I : ob_R sv x f rv K S V Q E) (hm : m < 8) (h : ∀ s : Int32, (∀ t, t < 8 → (bt s (t + 1) = true ↔ ob_Ed S V Q m t)) → post s) : wpX_linkedFrom post (sv, x, f) (nI (m + 1)) := by
  obtain ⟨c, n, ⟨h1, h2, h3, hs, h6, _⟩, hz, _⟩ := ob_at I hm
  have z2 := hz.2.1
  have l : ∀ d i (s : Int32), i + d = n → (∀ t, t < 8 → (bt s (t + 1) = true ↔ ∃ j, j < i ∧ Q (6 * (m + 1) + j) = 2 ∧ V (6 * (m + 1) + j) = nI (t + 1))) → wX_linkedFrom_11 post (nI (m + 1)) (nI n) sv x f (d + 1) s (nI i) := by
    intro d
    induction d with
    | zero =>
      intro i s hi hb
      have e : i = n := by omega
      subst e
      refine br_t (nI_le (by omega) (by omega)) (h s fun t ht => (hb t ht).trans ⟨fun ⟨j, a, b, c⟩ => ⟨j, by omega, by rw [hs]; exact nI_lt a (by omega), b, c⟩, fun ⟨j, a, b, c, d⟩ => ⟨j, ?_, c, d⟩⟩)
      rw [hs] at b
      exact (nI_ltI (by omega) (by omega)).mp b
    | succ d ih =>
      intro i s hi hb
      obtain ⟨e1, e2, _, e4⟩ := h6 i (by omega) (by omega)
      refine br_f (nI_ge (by omega) (by omega)) (od_vkE hm (by omega) e2 ?_)
      by_cases hq : Q (6 * (m + 1) + i) = 2
      · obtain ⟨t', ht', et⟩ := e4 hq
        refine br_t hq (od_valE hm (by omega) (e1.trans et) (nm_e (nm_r (nI_1 i) (ih (i + 1) _ (by omega) fun t ht => ?_))))
        rw [os_or1 (by omega) (by omega), hb t ht]
        constructor
        · rintro (⟨j, a, b, c⟩ | e)
          · exact ⟨j, by omega, b, c⟩
          · exact ⟨i, by omega, hq, by rw [et, e]⟩
        · rintro ⟨j, a, b, c⟩
          by_cases q : j = i
          · right
            rw [q, et] at c
            exact ((nI_eq (by omega) (by omega)).mp c).symm
          · exact Or.inl ⟨j, by omega, b, c⟩
      · refine br_f hq (nm_r (nI_1 i) (ih (i + 1) _ (by omega) fun t ht => (hb t ht).trans ⟨fun ⟨j, a, b, c⟩ => ⟨j, by omega, b, c⟩, fun ⟨j, a, b, c⟩ => ⟨j, ?_, b, c⟩⟩))
        have : j ≠ i := fun q => hq (by rw [← q]; exact b)
        omega
  unfold wpX_linkedFrom
  dsimp only
  refine od_sizeE hm h2 ⟨n + 1, l n 0 0 (by omega) fun t ht => ?_⟩
  rw [b_0]
  exact ⟨fun z => absurd z (by decide), fun ⟨j, a, _⟩ => absurd a (by omega)⟩
theorem os_Xi {post : Int32 → Prop} {J : Int32 → Int32 → Prop} {rd : Nat} {s0 : Int32} {G : Nat → Prop} (I : ob_R sv x f rv K S V Q E) (hG : ∀ a b, a < 8 → b < 8 → G a → ob_Ed S V Q a b → G b) (g0 : ∀ t, t < 8 → bt s0 (t + 1) = true → G t)
    (h : ∀ s : Int32, (∀ t, t < 8 → bt s (t + 1) = true → G t) → (∀ t, t < 8 → bt s0 (t + 1) = true → bt s (t + 1) = true) → (∀ a b, a < 8 → b < 8 → bt s0 (a + 1) = true → ob_Ed S V Q a b → bt s (b + 1) = true) → J s (nI (rd + 1))) :
    ∃ n12 : Nat, wX_reachedFromFirst_12 post J (nI rd) sv x f n12 s0 1 := by
  have l : ∀ d j (s : Int32), j + d = 8 → (∀ t, t < 8 → bt s (t + 1) = true → G t) → (∀ t, t < 8 → bt s0 (t + 1) = true → bt s (t + 1) = true) → (∀ a b, a < j → b < 8 → bt s0 (a + 1) = true → ob_Ed S V Q a b → bt s (b + 1) = true) → wX_reachedFromFirst_12 post J (nI rd) sv x f (d + 1) s (nI (j + 1)) := by
    intro d
    induction d with
    | zero =>
      intro j s hj a b c
      have e : j = 8 := by omega
      subst e
      exact br_t (nI_lt (a := 8) (by omega) (by omega)) (nm_r (nI_1 rd) (h s a b c))
    | succ d ih =>
      intro j s hj a b c
      refine br_f (oa_ngt8 (by omega)) ?_
      by_cases hb : bt s (j + 1) = true
      · refine os_in1 (by omega) hb (br_f oa_10 (os_lf I (by omega) fun r hr => nm_e (nm_r (nI_1 (j + 1)) (ih (j + 1) _ (by omega) ?_ ?_ ?_))))
        · intro t ht z
          rcases os_or.mp z with z | z
          · exact a t ht z
          · exact hG j t (by omega) ht (a j (by omega) hb) ((hr t ht).mp z)
        · intro t ht z
          exact os_or.mpr (Or.inl (b t ht z))
        · intro a' b' ha hb' z e
          by_cases q : a' = j
          · subst q
            exact os_or.mpr (Or.inr ((hr b' hb').mpr e))
          · exact os_or.mpr (Or.inl (c a' b' (by omega) hb' z e))
      · refine os_in0 (by omega) hb (br_t rfl (nm_r (nI_1 (j + 1)) (ih (j + 1) s (by omega) a b ?_)))
        intro a' b' ha hb' z e
        by_cases q : a' = j
        · subst q
          exact absurd (b a' (by omega) z) hb
        · exact c a' b' (by omega) hb' z e
  exact ⟨8 + 1, l 8 0 s0 (by omega) g0 (fun t ht z => z) (fun a b ha => absurd ha (by omega))⟩
theorem os_reach {post : Int32 → Prop} (I : ob_R sv x f rv K S V Q E) (h : ∀ s : Int32, (∀ t, t < 8 → (bt s (t + 1) = true ↔ oc_Re (ob_Ed S V Q) t)) → post s) : wpX_reachedFromFirst post (sv, x, f) := by
  have l : ∀ d rd (s : Int32), rd + 1 + d = 8 → (∀ t, t < 8 → bt s (t + 1) = true → oc_Re (ob_Ed S V Q) t) → bt s 1 = true → ((∀ t, t < 8 → oc_Re (ob_Ed S V Q) t → bt s (t + 1) = true) ∨ rd + 1 ≤ oc_cd (fun t => bt s (t + 1)) 8) → wX_reachedFromFirst_4 post sv x f (d + 1) s (nI (rd + 1)) := by
    intro d
    induction d with
    | zero =>
      intro rd s hd a b c
      refine br_t (nI_le (a := 8) (by omega) (by omega)) (h s fun t ht => ⟨a t ht, ?_⟩)
      refine oc_end (E := ob_Ed S V Q) (q := fun t => bt s (t + 1)) ?_ t ht
      rcases c with c | c
      · exact Or.inl c
      · exact Or.inr (by omega)
    | succ d ih =>
      intro rd s hd a b c
      refine br_f (nI_ge (b := 8) (by omega) (by omega)) (os_Xi I (fun a b ha hb => oc_ReS ha hb) a fun s' a' m' c' => ih (rd + 1) s' (by omega) a' (m' 0 (by omega) b) ?_)
      exact oc_round (E := ob_Ed S V Q) (p := fun t => bt s (t + 1)) (q := fun t => bt s' (t + 1)) b m' c' c
  refine ⟨7 + 1, l 7 0 2 (by omega) (fun t ht z => ?_) (by decide) (Or.inr (oc_cd1 8 ⟨0, by omega, by decide⟩))⟩
  rw [oa_two _ (by omega), decide_eq_true_eq] at z
  have : t = 0 := by omega
  subst this
  exact oc_Re0
/-! sweep: the reference's set -/
theorem os_il {post : Int32 → Prop} {m b : Nat} (I : ob_R sv x f rv K S V Q E) (hm : m < 8) (h1 : ob_Ed S V Q m b → post 1) (h0 : ¬ ob_Ed S V Q m b → post 0) : wpY_isLinked post (rv, K, S, V, Q, E) (nI (m + 1)) (nI (b + 1)) := by
  obtain ⟨c, n, ⟨_, h2, h3, hs, h6, _⟩, hz, _⟩ := ob_at I hm
  have z2 := hz.2.1
  have i0 : vp_in (nI (m + 1)) 54 := vp_in_nI (by omega) (by omega)
  have l : ∀ d i, i + d = n → (∀ j, j < i → ¬ (Q (6 * (m + 1) + j) = 2 ∧ V (6 * (m + 1) + j) = nI (b + 1))) → wY_isLinked_2 post (nI (m + 1)) (nI (b + 1)) rv K S V Q E (d + 1) (nI i) := by
    intro d
    induction d with
    | zero =>
      intro i hi ha
      have e : i = n := by omega
      subst e
      refine And.intro i0 ?_
      rw [nI_clamp (by omega), hs]
      refine br_t (nI_le (by omega) (by omega)) (h0 fun ⟨j, a, c, d, e⟩ => ha j ?_ ⟨d, e⟩)
      rw [hs] at c
      exact (nI_ltI (by omega) (by omega)).mp c
    | succ d ih =>
      intro i hi ha
      have i1 : vp_in (nI (6 * (m + 1) + i)) 324 := vp_in_nI (by omega) (by omega)
      refine And.intro i0 ?_
      rw [nI_clamp (by omega), hs, oa_6, nI_add, nI_clamp (by omega)]
      refine br_f (nI_ge (by omega) (by omega)) ⟨i1, ?_⟩
      have go : ¬ (Q (6 * (m + 1) + i) = 2 ∧ V (6 * (m + 1) + i) = nI (b + 1)) → wY_isLinked_2 post (nI (m + 1)) (nI (b + 1)) rv K S V Q E (d + 1) (nI (i + 1)) := fun z => ih (i + 1) (by omega) fun j hj => by
        by_cases q : j = i
        · rw [q]; exact z
        · exact ha j (by omega)
      by_cases hq : Q (6 * (m + 1) + i) = 2
      · refine br_t hq ⟨i1, ?_⟩
        by_cases hv : V (6 * (m + 1) + i) = nI (b + 1)
        · exact br_t hv (h1 ⟨i, by omega, by rw [hs]; exact nI_lt (by omega) (by omega), hq, hv⟩)
        · exact br_f hv (nm_r (nI_1 i) (go fun z => hv z.2))
      · exact br_f hq (nm_r (nI_1 i) (go fun z => hq z.1))
  exact ⟨n + 1, l n 0 (by omega) (fun j hj => absurd hj (by omega))⟩
theorem os_90 : ¬ (9 : Int32) = 0 := by decide
theorem os_Yi {post : Int32 → SY → Prop} {J : Int32 → Int32 → Prop} {rd : Nat} {s0 : Int32} {G : Nat → Prop} (I : ob_R sv x f rv K S V Q E) (hG : ∀ a b, a < 8 → b < 8 → G a → ob_Ed S V Q a b → G b) (g0 : ∀ t, t < 8 → bt s0 (t + 1) = true → G t) (z0 : bt s0 0 = false)
    (h : ∀ s : Int32, bt s 0 = false → (∀ t, t < 8 → bt s (t + 1) = true → G t) → (∀ t, t < 8 → bt s0 (t + 1) = true → bt s (t + 1) = true) → (∀ a b, a < 8 → b < 8 → bt s0 (a + 1) = true → ob_Ed S V Q a b → bt s (b + 1) = true) → J s (nI (rd + 1))) :
    ∃ n25 : Nat, wY_sweep_25 post J (nI rd) rv K S V Q E n25 s0 0 := by
  have l : ∀ d p (s : Int32), p + d = 81 → bt s 0 = false → (∀ t, t < 8 → bt s (t + 1) = true → G t) → (∀ t, t < 8 → bt s0 (t + 1) = true → bt s (t + 1) = true) → (∀ a b, a < 8 → b < 8 → 9 * (a + 1) + (b + 1) < p → bt s0 (a + 1) = true → ob_Ed S V Q a b → bt s (b + 1) = true) → wY_sweep_25 post J (nI rd) rv K S V Q E (d + 1) s (nI p) := by
    intro d
    induction d with
    | zero =>
      intro p s hp z a b c
      have e : p = 81 := by omega
      subst e
      exact br_t (nI_le (a := 81) (by omega) (by omega)) (nm_r (nI_1 rd) (h s z a b fun a' b' ha hb => c a' b' ha hb (by omega)))
    | succ d ih =>
      intro p s hp z a b c
      have ed : nI p / 9 = nI (p / 9) := pk_div (d := 9) (by omega) (by omega) (by omega)
      have er : nI p - nI p / 9 * 9 = nI (p % 9) := pk_rem (d := 9) (by omega) (by omega) (by omega)
      refine br_f (nI_ge (b := 81) (by omega) (by omega)) ⟨os_90, nm_r ed ⟨os_90, nm_r er ?_⟩⟩
      by_cases t0 : p % 9 = 0
      · refine br_t (by rw [t0]; exact nI_le (b := 0) (by omega) (by omega)) (nm_r (nI_1 p) (ih (p + 1) s (by omega) z a b fun a' b' ha hb hlt => c a' b' ha hb (by omega)))
      obtain ⟨b', hb', eb⟩ : ∃ b', b' < 8 ∧ p % 9 = b' + 1 := ⟨p % 9 - 1, by omega, by omega⟩
      refine br_f (nI_nle (by omega) (by omega)) ?_
      rw [eb]
      by_cases o0 : p / 9 = 0
      · rw [o0]
        refine br_f (fun q => ?_) (nm_r (nI_1 p) (ih (p + 1) s (by omega) z a b fun a' b' ha hb hlt => c a' b' ha hb (by omega)))
        have := (oa_bit (by omega)).mp q
        rw [z] at this
        exact absurd this (by decide)
      obtain ⟨a', ha', ea⟩ : ∃ a', a' < 8 ∧ p / 9 = a' + 1 := ⟨p / 9 - 1, by omega, by omega⟩
      rw [ea]
      have hp' : p = 9 * (a' + 1) + (b' + 1) := by omega
      by_cases hb : bt s (a' + 1) = true
      · refine br_t ((oa_bit (by omega)).mpr hb) (os_il I ha' (fun e => br_f oa_10 (nm_e (nm_r (nI_1 p) (ih (p + 1) _ (by omega) ?_ ?_ ?_ ?_)))) (fun e => br_t rfl (nm_r (nI_1 p) (ih (p + 1) s (by omega) z a b ?_))))
        · rw [b_or, z, oa_one (by omega) (by omega), decide_eq_false (by omega)]; rfl
        · intro t ht q
          rcases (os_or1 (by omega) (by omega)).mp q with q | q
          · exact a t ht q
          · have : t = b' := by omega
            subst this
            exact hG a' t ha' ht (a a' ha' hb) e
        · intro t ht q
          exact (os_or1 (by omega) (by omega)).mpr (Or.inl (b t ht q))
        · intro a2 b2 ha2 hb2 hlt q e2
          by_cases same : b2 = b'
          · exact (os_or1 (by omega) (by omega)).mpr (Or.inr (by omega))
          · exact (os_or1 (by omega) (by omega)).mpr (Or.inl (c a2 b2 ha2 hb2 (by omega) q e2))
        · intro a2 b2 ha2 hb2 hlt q e2
          by_cases same : a2 = a' ∧ b2 = b'
          · rw [same.1, same.2] at e2
            exact absurd e2 e
          · exact c a2 b2 ha2 hb2 (by omega) q e2
      · refine br_f (fun q => hb ((oa_bit (by omega)).mp q)) (nm_r (nI_1 p) (ih (p + 1) s (by omega) z a b ?_))
        intro a2 b2 ha2 hb2 hlt q e2
        by_cases same : a2 = a'
        · rw [same] at q
          exact absurd (b a' ha' q) hb
        · exact c a2 b2 ha2 hb2 (by omega) q e2
  have l0 := l 81 0 s0 (by omega) z0 g0 (fun t ht z => z) (fun a b _ _ hlt => absurd hlt (by omega))
  rw [nI_0] at l0
  exact ⟨81 + 1, l0⟩
theorem os_Y {post : Int32 → SY → Prop} (I : ob_R sv x f rv K S V Q E) (h : ∀ s : Int32, (∀ t, t < 8 → (bt s (t + 1) = true ↔ ¬ K 1 = 0 ∧ oc_Re (ob_Ed S V Q) t)) → ∃ n92 : Nat, wY_sweep_92 post s n92 0 1 rv K S V Q E) : wpY_sweep post (rv, K, S, V, Q, E) := by
  have l : ∀ d rd (s : Int32), rd + d = 8 → bt s 0 = false → (∀ t, t < 8 → bt s (t + 1) = true → ¬ K 1 = 0 ∧ oc_Re (ob_Ed S V Q) t) → (¬ K 1 = 0 → bt s 1 = true ∧ ((∀ t, t < 8 → oc_Re (ob_Ed S V Q) t → bt s (t + 1) = true) ∨ rd + 1 ≤ oc_cd (fun t => bt s (t + 1)) 8)) → wY_sweep_17 post rv K S V Q E (d + 1) s (nI rd) := by
    intro d
    induction d with
    | zero =>
      intro rd s hd z a c
      refine br_t (nI_le (a := 8) (by omega) (by omega)) (h s fun t ht => ⟨a t ht, fun ⟨k1, q⟩ => ?_⟩)
      refine oc_end (E := ob_Ed S V Q) (q := fun t => bt s (t + 1)) ?_ t ht q
      rcases (c k1).2 with c | c
      · exact Or.inl c
      · exact Or.inr (by omega)
    | succ d ih =>
      intro rd s hd z a c
      refine br_f (nI_ge (b := 8) (by omega) (by omega)) (os_Yi (G := fun t => ¬ K 1 = 0 ∧ oc_Re (ob_Ed S V Q) t) I (fun a b ha hb g e => ⟨g.1, oc_ReS ha hb g.2 e⟩) a z fun s' z' a' m' c' => ih (rd + 1) s' (by omega) z' a' fun k1 => ⟨m' 0 (by omega) (c k1).1, ?_⟩)
      exact oc_round (E := ob_Ed S V Q) (p := fun t => bt s (t + 1)) (q := fun t => bt s' (t + 1)) (c k1).1 m' c' (c k1).2
  unfold wpY_sweep
  dsimp only
  by_cases k1 : K 1 = 0
  · refine br_t k1 ⟨8 + 1, l 8 0 0 (by omega) (b_0 0) (fun t ht z => ?_) (fun z => absurd k1 z)⟩
    rw [b_0] at z
    exact absurd z (by decide)
  · refine br_f k1 ⟨8 + 1, l 8 0 2 (by omega) (by decide) (fun t ht z => ?_) (fun _ => ⟨by decide, Or.inr (oc_cd1 8 ⟨0, by omega, by decide⟩)⟩)⟩
    rw [oa_two _ (by omega), decide_eq_true_eq] at z
    have : t = 0 := by omega
    subst this
    exact ⟨k1, oc_Re0⟩
/-! sweep: what is not reached goes -/
theorem os_Xs {post : Int32 → SX → Prop} {s : Int32} {sw : Nat → Bool} (hx : ∀ m, m < 8 → x (m * 20) = K (m + 1)) (hw : ∀ m, m < 8 → (sw m = true ↔ ¬ K (m + 1) = 0 ∧ ¬ bt s (m + 1) = true)) (h : post (ob_sn sw 8) (sv, ob_sx sw x 8, f)) : ∃ n9 : Nat, wX_sweep_9 post s n9 0 1 sv x f := by
  have l : ∀ d j, j + d = 8 → wX_sweep_9 post s (d + 1) (ob_sn sw j) (nI (j + 1)) sv (ob_sx sw x j) f := by
    intro d
    induction d with
    | zero =>
      intro j hj
      have e : j = 8 := by omega
      subst e
      exact br_t (nI_lt (a := 8) (by omega) (by omega)) h
    | succ d ih =>
      intro j hj
      have ih := ih (j + 1) (by omega)
      have ek : ob_sx sw x j (j * 20) = K (j + 1) := (ob_sx_o j (j * 20) (by omega)).trans (hx j (by omega))
      refine br_f (oa_ngt8 (by omega)) ?_
      by_cases hb : bt s (j + 1) = true
      · have ns : ¬ sw j = true := fun z => ((hw j (by omega)).mp z).2 hb
        rw [ob_sn_f ns, ob_sx_f ns] at ih
        exact os_in1 (by omega) hb (br_f oa_10 (nm_r (nI_1 (j + 1)) ih))
      · refine os_in0 (by omega) hb (br_t rfl (od_kindE (by omega) ek ?_))
        by_cases k0 : K (j + 1) = 0
        · have ns : ¬ sw j = true := fun z => ((hw j (by omega)).mp z).1 k0
          rw [ob_sn_f ns, ob_sx_f ns] at ih
          exact br_t k0 (nm_r (nI_1 (j + 1)) ih)
        · have ys : sw j = true := (hw j (by omega)).mpr ⟨k0, hb⟩
          rw [ob_sn_t ys, ob_sx_t ys] at ih
          exact br_f k0 (od_renew (by omega) (nm_e (nm_r (nI_1 (j + 1)) ih)))
  exact ⟨8 + 1, l 8 0 (by omega)⟩
theorem os_Ys {post : Int32 → SY → Prop} {s : Int32} {sw : Nat → Bool} (hw : ∀ m, m < 8 → (sw m = true ↔ ¬ K (m + 1) = 0 ∧ ¬ bt s (m + 1) = true)) (h : post (ob_sn sw 8) (rv, ob_sk sw K 8, ob_sk sw S 8, V, Q, E)) : ∃ n92 : Nat, wY_sweep_92 post s n92 0 1 rv K S V Q E := by
  have l : ∀ d j, j + d = 8 → wY_sweep_92 post s (d + 1) (ob_sn sw j) (nI (j + 1)) rv (ob_sk sw K j) (ob_sk sw S j) V Q E := by
    intro d
    induction d with
    | zero =>
      intro j hj
      have e : j = 8 := by omega
      subst e
      exact br_t (nI_le (a := 9) (by omega) (by omega)) h
    | succ d ih =>
      intro j hj
      have ih := ih (j + 1) (by omega)
      have ek : ob_sk sw K j (j + 1) = K (j + 1) := ob_sk_o j (j + 1) (by omega)
      refine br_f (nI_ge (b := 9) (by omega) (by omega)) ?_
      rw [nI_clamp (by omega), ek]
      refine ⟨vp_in_nI (by omega) (by omega), ?_⟩
      by_cases k0 : K (j + 1) = 0
      · have ns : ¬ sw j = true := fun z => ((hw j (by omega)).mp z).1 k0
        rw [ob_sn_f ns, ob_sk_f ns, ob_sk_f ns] at ih
        exact br_t k0 (nm_r (nI_1 (j + 1)) ih)
      refine br_f k0 ?_
      by_cases hb : bt s (j + 1) = true
      · have ns : ¬ sw j = true := fun z => ((hw j (by omega)).mp z).2 hb
        rw [ob_sn_f ns, ob_sk_f ns, ob_sk_f ns] at ih
        refine br_f (fun z => ?_) (nm_r (nI_1 (j + 1)) ih)
        have := (oa_bit0 (by omega)).mp z
        rw [hb] at this
        exact absurd this (by decide)
      · have ys : sw j = true := (hw j (by omega)).mpr ⟨k0, hb⟩
        rw [ob_sn_t ys, ob_sk_t ys, ob_sk_t ys] at ih
        exact br_t ((oa_bit0 (by omega)).mpr (Bool.eq_false_iff.mpr hb)) (oe_become0 (by omega) oa_01 oa_05 (nm_e (nm_r (nI_1 (j + 1)) ih)))
  exact ⟨8 + 1, l 8 0 (by omega)⟩
end OS
theorem os_noedge {sv rv : Int32} {x f K S V Q E : Nat → Int32} (I : ob_R sv x f rv K S V Q E) (k1 : K 1 = 0) {t : Nat} (h : oc_Re (ob_Ed S V Q) t) : t = 0 := by
  refine h (fun t => t = 0) rfl fun a b ha hb za e => ?_
  have za : a = 0 := za
  subst za
  obtain ⟨c, n, ⟨_, _, h3, hs, _⟩, hz, _⟩ := ob_at I (m := 0) (by omega)
  have z1 := hz.1
  have c0 : c = 0 := (nI_eq (b := 0) (by omega) (by omega)).mp (h3.symm.trans (k1.trans nI_0.symm))
  have n0 := hz.2.2.1 c0
  obtain ⟨i, hi, hlt, _⟩ := e
  rw [hs] at hlt
  have := (nI_ltI (by omega) (by omega)).mp hlt
  omega
theorem i_vc_sweep {k : Nat} {u : SX} {v : SY} (I : i_Rel k u v) (hk : k + 4 ≤ 2048) : wpX_sweep (fun r u' => wpY_sweep (fun r' v' => r' = r ∧ i_Rel (k + 4) u' v') v) u := by
  obtain ⟨sv, x, f⟩ := u
  obtain ⟨rv, K, S, V, Q, E⟩ := v
  have I : ob_R sv x f rv K S V Q E := I
  unfold wpX_sweep
  dsimp only
  refine os_reach I fun s hs => ?_
  have hw : ∀ m, m < 8 → (decide (¬ K (m + 1) = 0 ∧ ¬ bt s (m + 1) = true) = true ↔ ¬ K (m + 1) = 0 ∧ ¬ bt s (m + 1) = true) := fun m _ => decide_eq_true_iff
  refine os_Xs (sw := fun m => decide (¬ K (m + 1) = 0 ∧ ¬ bt s (m + 1) = true)) (ow_kinds I) hw (os_Y I fun s' hs' => os_Ys (sw := fun m => decide (¬ K (m + 1) = 0 ∧ ¬ bt s (m + 1) = true)) (fun m hm => (hw m hm).trans ?_) ⟨rfl, ob_sR (sw := fun m => decide (¬ K (m + 1) = 0 ∧ ¬ bt s (m + 1) = true)) I 8 (by omega)⟩)
  refine and_congr_right fun k0 => not_congr ?_
  rw [hs m hm, hs' m hm]
  refine ⟨fun q => ⟨fun k1 => ?_, q⟩, fun q => q.2⟩
  have := os_noedge I k1 q
  subst this
  exact k0 k1
end

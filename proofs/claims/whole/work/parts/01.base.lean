/-! rows pasted: stores, numbers, branches, bits -/
theorem pk_us {f : Nat → Int32} {k : Nat} {x : Int32} : upd f k x k = x := if_pos rfl
theorem pk_un {f : Nat → Int32} {k j : Nat} {x : Int32} (h : j ≠ k) : upd f k x j = f j := if_neg h
theorem pk_sub {a b : Nat} (h : b ≤ a) : nI a - nI b = nI (a - b) := by
  obtain ⟨c, rfl⟩ : ∃ c, a = c + b := ⟨a - b, by omega⟩
  rw [← nI_add, Int32.add_sub_cancel, Nat.add_sub_cancel]
theorem pk_m1 (n : Nat) : nI (n + 1) + (-1) = nI n := by
  rw [← nI_1, Int32.add_assoc, show (1 : Int32) + (-1) = 0 from rfl, Int32.add_zero]
theorem pk_mul (a b : Nat) : nI a * nI b = nI (a * b) := (Int32.ofNat_mul a b).symm
theorem pk_div {a d : Nat} (ha : a < 2 ^ 31) (h0 : 0 < d) (hd : d < 2 ^ 31) : nI a / nI d = nI (a / d) := by
  apply Int32.toInt_inj.mp
  rw [lg_idiv_nonneg (by rw [nI_toInt ha]; omega) (by rw [nI_toInt hd]; omega), nI_toInt ha, nI_toInt hd, nI_toInt (Nat.lt_of_le_of_lt (Nat.div_le_self a d) ha)]
  first | rfl | exact (Int.natCast_ediv _ _).symm
theorem pk_rem {a d : Nat} (ha : a < 2 ^ 31) (h0 : 0 < d) (hd : d < 2 ^ 31) : nI a - nI a / nI d * nI d = nI (a % d) := by
  rw [pk_div ha h0 hd, pk_mul, pk_sub (Nat.div_mul_le_self a d)]
  exact congrArg nI (by have := Nat.div_add_mod' a d; omega)
theorem pk_ix (x : Int32) {n : Nat} (hn : n < 2 ^ 31) : x < 0 ∨ nI n ≤ x ∨ ∃ j : Nat, j < n ∧ x = nI j := by
  by_cases h : x < 0
  · exact Or.inl h
  · obtain ⟨j, hj, rfl⟩ := nI_of h
    by_cases h2 : j < n
    · exact Or.inr (Or.inr ⟨j, h2, rfl⟩)
    · exact Or.inr (Or.inl (nI_le (by omega) hj))
theorem pk_le {x y : Int32} {A B : Prop} (a b : Nat) (f : a ≤ b → A) (g : b < a → B) (hx : x = nI a := by rfl) (hy : y = nI b := by rfl) (ha : a < 2 ^ 31 := by omega) (hb : b < 2 ^ 31 := by omega) : (x ≤ y → A) ∧ (¬ x ≤ y → B) := by
  subst hx hy
  rw [nI_leI ha hb]
  exact ⟨f, fun z => g (by omega)⟩
theorem pk_lt {x y : Int32} {A B : Prop} (a b : Nat) (f : a < b → A) (g : b ≤ a → B) (hx : x = nI a := by rfl) (hy : y = nI b := by rfl) (ha : a < 2 ^ 31 := by omega) (hb : b < 2 ^ 31 := by omega) : (x < y → A) ∧ (¬ x < y → B) := by
  subst hx hy
  rw [nI_ltI ha hb]
  exact ⟨f, fun z => g (by omega)⟩
theorem pk_eq {x y : Int32} {A B : Prop} (a b : Nat) (f : a = b → A) (g : a ≠ b → B) (hx : x = nI a := by rfl) (hy : y = nI b := by rfl) (ha : a < 2 ^ 31 := by omega) (hb : b < 2 ^ 31 := by omega) : (x = y → A) ∧ (¬ x = y → B) := by
  subst hx hy
  rw [nI_eq ha hb]
  exact ⟨f, g⟩
theorem pk_in {x : Int32} (n N : Nat) (h : n < N) (hx : x = nI n := by rfl) (hN : N < 2 ^ 31 := by omega) : vp_in x N := by
  subst hx
  exact vp_in_nI h hN
theorem pk_cl {x : Int32} (n : Nat) (hx : x = nI n := by rfl) (h : n < 2 ^ 31 := by omega) : x.toNatClampNeg = n := by
  subst hx
  exact nI_clamp h
theorem pk_tn {n : Nat} (h : n < 2 ^ 32) : (nI n).toBitVec.toNat = n := Nat.mod_eq_of_lt h
theorem pk_and (x : Int32) {m : Int32} (k : Nat) (hm : m.toBitVec.toNat = 2 ^ k - 1) : x &&& m = nI (x.toBitVec.toNat % 2 ^ k) := by
  apply Int32.toBitVec_inj.mp
  apply BitVec.eq_of_toNat_eq
  rw [Int32.toBitVec_and, BitVec.toNat_and, hm, Nat.and_two_pow_sub_one_eq_mod]
  show _ = (BitVec.ofNat 32 _).toNat
  rw [BitVec.toNat_ofNat]
  exact (Nat.mod_eq_of_lt (Nat.lt_of_le_of_lt (Nat.mod_le _ _) x.toBitVec.isLt)).symm
theorem pk_andN {n : Nat} (h : n < 2 ^ 32) {m : Int32} (k : Nat) (hm : m.toBitVec.toNat = 2 ^ k - 1) : nI n &&& m = nI (n % 2 ^ k) := by
  rw [pk_and _ k hm, pk_tn h]
theorem pk_loop {σ : Type} (W : Nat → Nat → σ → Prop) (I : Nat → σ → Prop) (e i0 : Nat) (s : σ) (hi : i0 ≤ e) (h0 : I i0 s) (hx : ∀ n s, I e s → W (n + 1) e s)
    (hs : ∀ n i s, i < e → I i s → (∀ s', I (i + 1) s' → W n (i + 1) s') → W (n + 1) i s) : ∃ n, W n i0 s :=
  ⟨e + 1, loop_i W I e hx hs (e + 1) i0 s hi (by omega) h0⟩
theorem pk_loopD {σ : Type} (W : Nat → Nat → σ → Prop) (I : Nat → σ → Prop) (hx : ∀ n s, I 0 s → W (n + 1) 0 s)
    (hs : ∀ n i s, I (i + 1) s → (∀ s', I i s' → W n i s') → W (n + 1) (i + 1) s) : ∀ (e : Nat) (s : σ), I e s → W (e + 1) e s := by
  intro e
  induction e with
  | zero => exact fun s h => hx 0 s h
  | succ e ih => exact fun s h => hs (e + 1) e s h (fun s' h' => ih s' h')
def bt (x : Int32) (i : Nat) : Bool := x.toBitVec.getLsbD i
theorem b_or (x y : Int32) (i : Nat) : bt (x ||| y) i = (bt x i || bt y i) := by unfold bt; rw [Int32.toBitVec_or, BitVec.getLsbD_or]
theorem b_and (x y : Int32) (i : Nat) : bt (x &&& y) i = (bt x i && bt y i) := by unfold bt; rw [Int32.toBitVec_and, BitVec.getLsbD_and]
theorem b_big {x : Int32} {i : Nat} (h : 32 ≤ i) : bt x i = false := BitVec.getLsbD_of_ge _ _ h
theorem b_0 (i : Nat) : bt 0 i = false := BitVec.getLsbD_zero
theorem s_l : ∀ n, n < 32 → ((nI n &&& 31).toBitVec.smod 32).toNat = n := by decide +kernel
theorem b_shl (n : Nat) (hn : n < 32) (x : Int32) {i : Nat} (hi : i < 32) : bt (x <<< (nI n &&& 31)) i = (decide (n ≤ i) && bt x (i - n)) := by
  unfold bt
  rw [Int32.toBitVec_shiftLeft]
  show (x.toBitVec <<< ((nI n &&& 31).toBitVec.smod 32).toNat).getLsbD i = _
  rw [s_l n hn, BitVec.getLsbD_shiftLeft]
  rcases Nat.lt_or_ge i n with h | h
  · simp [h, Nat.not_le.mpr h]
  · simp [hi, h, Nat.not_lt.mpr h]
theorem b_sshr (n : Nat) (hn : n < 32) (x : Int32) {i : Nat} (hi : i < 32) : bt (x >>> (nI n &&& 31)) i = if n + i < 32 then bt x (n + i) else bt x 31 := by
  unfold bt
  rw [Int32.toBitVec_shiftRight]
  show (x.toBitVec.sshiftRight ((nI n &&& 31).toBitVec.smod 32).toNat).getLsbD i = _
  rw [s_l n hn, BitVec.getLsbD_sshiftRight, BitVec.msb_eq_getLsbD_last]
  simp [hi]
/-! numbers of this claim -/
theorem oa_8 : nI 8 = 8 := by decide +kernel
theorem oa_rec (m : Nat) : (nI (m + 1) - 1) * 20 = nI (m * 20) := by
  rw [nI_pred]; exact pk_mul m 20
theorem oa_obj (x : Int32) : (x < 1 ∨ 8 < x) ∨ ∃ m : Nat, m < 8 ∧ x = nI (m + 1) := by
  by_cases h1 : 1 ≤ x
  · by_cases h8 : x ≤ 8
    · right
      have h0 : ¬ x < 0 := by
        rw [Int32.lt_iff_toInt_lt]
        rw [Int32.le_iff_toInt_le] at h1
        have e1 : (1 : Int32).toInt = 1 := by decide
        have e0 : (0 : Int32).toInt = 0 := by decide
        omega
      obtain ⟨j, hj, rfl⟩ := nI_of h0
      have a1 : 1 ≤ j := (nI_leI (a := 1) (by decide) hj).mp h1
      have a8 : j ≤ 8 := (nI_leI (b := 8) hj (by decide)).mp h8
      exact ⟨j - 1, by omega, by rw [Nat.sub_add_cancel a1]⟩
    · exact Or.inl (Or.inr (Int32.not_le.mp h8))
  · exact Or.inl (Or.inl (Int32.not_le.mp h1))
theorem oa_ge1 {m : Nat} (h : m < 8) : (1 : Int32) ≤ nI (m + 1) := nI_le (a := 1) (by omega) (by omega)
theorem oa_le8 {m : Nat} (h : m < 8) : nI (m + 1) ≤ (8 : Int32) := nI_le (b := 8) (by omega) (by decide)
theorem oa_nlt1 {m : Nat} (h : m < 8) : ¬ nI (m + 1) < (1 : Int32) := nI_nlt (b := 1) (by omega) (by omega)
theorem oa_ngt8 {m : Nat} (h : m < 8) : ¬ (8 : Int32) < nI (m + 1) := nI_nlt (a := 8) (by omega) (by decide)
theorem oa_bit {s : Int32} {o : Nat} (ho : o < 31) : (s >>> (nI o &&& 31)) &&& 1 = 1 ↔ bt s o = true := by
  have e : (s >>> (nI o &&& 31)) &&& 1 = nI ((s >>> (nI o &&& 31)).toBitVec.toNat % 2 ^ 1) := pk_and _ 1 (by decide)
  have hb := b_sshr o (by omega) s (i := 0) (by omega)
  rw [if_pos (by omega), Nat.add_zero] at hb
  rw [e, ← hb]
  unfold bt
  rw [BitVec.getLsbD, Nat.testBit_zero]
  generalize (s >>> (nI o &&& 31)).toBitVec.toNat = z
  show nI (z % 2 ^ 1) = nI 1 ↔ _
  rw [nI_eq (by omega) (by omega), decide_eq_true_eq]
theorem oa_bit0 {s : Int32} {o : Nat} (ho : o < 31) : (s >>> (nI o &&& 31)) &&& 1 = 0 ↔ bt s o = false := by
  have e : (s >>> (nI o &&& 31)) &&& 1 = nI ((s >>> (nI o &&& 31)).toBitVec.toNat % 2 ^ 1) := pk_and _ 1 (by decide)
  have hb := b_sshr o (by omega) s (i := 0) (by omega)
  rw [if_pos (by omega), Nat.add_zero] at hb
  rw [e, ← hb]
  unfold bt
  rw [BitVec.getLsbD, Nat.testBit_zero]
  generalize (s >>> (nI o &&& 31)).toBitVec.toNat = z
  show nI (z % 2 ^ 1) = nI 0 ↔ _
  rw [nI_eq (by omega) (by omega), decide_eq_false_iff_not]
  omega
theorem oa_one {v t : Nat} (hv : v < 32) (ht : t < 32) : bt ((1 : Int32) <<< (nI v &&& 31)) t = decide (t = v) := by
  rw [b_shl v hv 1 ht]
  by_cases h : t = v
  · subst h
    rw [decide_eq_true (Nat.le_refl _), Nat.sub_self, decide_eq_true rfl]
    decide
  · rw [decide_eq_false h]
    by_cases h2 : v ≤ t
    · rw [decide_eq_true h2, Bool.true_and]
      have g : ∀ i, i < 32 → i ≠ 0 → bt 1 i = false := by decide +kernel
      exact g _ (by omega) (by omega)
    · rw [decide_eq_false h2, Bool.false_and]
theorem oa_two : ∀ t, t < 32 → bt 2 t = decide (t = 1) := by decide +kernel
theorem oa_p1 (a : Nat) : nI a + 1 = nI (a + 1) := nI_add a 1
theorem oa_p2 (a : Nat) : nI a + 2 = nI (a + 2) := nI_add a 2
theorem oa_p8 (a : Nat) : nI a + 8 = nI (a + 8) := nI_add a 8
theorem oa_p14 (a : Nat) : nI a + 14 = nI (a + 14) := nI_add a 14
theorem oa_6 (a : Nat) : 6 * nI a = nI (6 * a) := pk_mul 6 a
theorem oa_9 (a : Nat) : 9 * nI a = nI (9 * a) := pk_mul 9 a
theorem oa_54 (a : Nat) : 54 * nI a = nI (54 * a) := pk_mul 54 a
theorem oa_m160 (a : Nat) : nI a * 160 = nI (a * 160) := pk_mul a 160
theorem oa_10 : ¬ (1 : Int32) = 0 := by decide
theorem oa_51 : ¬ (5 : Int32) = 1 := by decide
theorem oa_01 : ¬ (0 : Int32) = 1 := by decide
theorem oa_05 : ¬ (0 : Int32) = 5 := by decide
theorem oa_nb0 : narrow .boolean (.int 0) = .int 0 := rfl
theorem oa_nb1 : narrow .boolean (.int 1) = .int 1 := rfl

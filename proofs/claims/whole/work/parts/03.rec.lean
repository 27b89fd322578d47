/-! one object: the component's record at b against the reference's slot s; c its kind, n its size -/
def ob_Sz (c n : Nat) : Prop := c ≤ 5 ∧ n ≤ 6 ∧ (c = 0 → n = 0) ∧ (c = 1 → n = 1) ∧ (c = 5 → n = 1) ∧ (c = 3 → n ≤ 4) ∧ (c = 4 → n ≤ 3)
def ob_Lk (q v : Int32) : Prop := q = 2 → ∃ t : Nat, t < 8 ∧ v = nI (t + 1)
def ob_En (x : Nat → Int32) (b : Nat) (V Q E : Nat → Int32) (y c i : Nat) : Prop := x (b + 2 + i) = V (y + i) ∧ x (b + 8 + i) = Q (y + i) ∧ (c = 4 → x (b + 14 + i) = E (y + i)) ∧ ob_Lk (Q (y + i)) (V (y + i))
def ob_Ze (x : Nat → Int32) (b i : Nat) : Prop := x (b + 2 + i) = 0 ∧ x (b + 8 + i) = 0 ∧ x (b + 14 + i) = 0
def ob_Rc (x : Nat → Int32) (b : Nat) (K S V Q E : Nat → Int32) (s c n : Nat) : Prop := x b = nI c ∧ x (b + 1) = nI n ∧ K s = nI c ∧ S s = nI n ∧ (∀ i, i < n → i < 6 → ob_En x b V Q E (6 * s) c i) ∧ (∀ i, n ≤ i → i < 6 → ob_Ze x b i) ∧ (c ≠ 4 → ∀ i, i < 6 → x (b + 14 + i) = 0)
def ob_Rec (x : Nat → Int32) (b : Nat) (K S V Q E : Nat → Int32) (s c n : Nat) : Prop := ob_Rc x b K S V Q E s c n ∧ ob_Sz c n ∧ (c = 5 → Q (6 * s) = 2)
theorem ob_trc {x x' K S V Q E K' S' V' Q' E' : Nat → Int32} {b b' s s' c n : Nat} (h : ob_Rc x b K S V Q E s c n) (hx : ∀ j, j < 20 → x' (b' + j) = x (b + j)) (hK : K' s' = K s) (hS : S' s' = S s)
    (hv : ∀ j, j < 6 → V' (6 * s' + j) = V (6 * s + j) ∧ Q' (6 * s' + j) = Q (6 * s + j) ∧ E' (6 * s' + j) = E (6 * s + j)) : ob_Rc x' b' K' S' V' Q' E' s' c n := by
  obtain ⟨h1, h2, h3, h4, h6, h7, h8⟩ := h
  have ex : ∀ a i, a + i < 20 → x' (b' + a + i) = x (b + a + i) := fun a i hi => by
    rw [Nat.add_assoc, Nat.add_assoc]; exact hx _ hi
  refine ⟨(hx 0 (by omega)).trans h1, (hx 1 (by omega)).trans h2, hK.trans h3, hS.trans h4, fun i hi hi6 => ?_, fun i hi hi6 => ?_, fun hc i hi => ?_⟩
  · obtain ⟨e1, e2, e3, e4⟩ := h6 i hi hi6
    obtain ⟨v1, v2, v3⟩ := hv i hi6
    refine ⟨?_, ?_, fun hc => ?_, ?_⟩
    · rw [ex 2 i (by omega), v1]; exact e1
    · rw [ex 8 i (by omega), v2]; exact e2
    · rw [ex 14 i (by omega), v3]; exact e3 hc
    · rw [v1, v2]; exact e4
  · obtain ⟨e1, e2, e3⟩ := h7 i hi hi6
    exact ⟨(ex 2 i (by omega)).trans e1, (ex 8 i (by omega)).trans e2, (ex 14 i (by omega)).trans e3⟩
  · exact (ex 14 i (by omega)).trans (h8 hc i hi)
theorem ob_tr {x x' K S V Q E K' S' V' Q' E' : Nat → Int32} {b b' s s' c n : Nat} (h : ob_Rec x b K S V Q E s c n) (hx : ∀ j, j < 20 → x' (b' + j) = x (b + j)) (hK : K' s' = K s) (hS : S' s' = S s)
    (hv : ∀ j, j < 6 → V' (6 * s' + j) = V (6 * s + j) ∧ Q' (6 * s' + j) = Q (6 * s + j) ∧ E' (6 * s' + j) = E (6 * s + j)) : ob_Rec x' b' K' S' V' Q' E' s' c n :=
  ⟨ob_trc h.1 hx hK hS hv, h.2.1, fun hc => ((hv 0 (by omega)).2.1).trans (h.2.2 hc)⟩
/-! an image of eight objects; the two states -/
def ob_Im (x : Nat → Int32) (a : Nat) (K S V Q E : Nat → Int32) (g : Nat) : Prop := ∀ m, m < 8 → ∃ c n, ob_Rec x (a + m * 20) K S V Q E (9 * g + (m + 1)) c n
def ob_R (sv : Int32) (x f : Nat → Int32) (rv : Int32) (K S V Q E : Nat → Int32) : Prop := ∃ r : Nat, r ≤ 5 ∧ sv = nI r ∧ rv = nI r ∧ ob_Im x 0 K S V Q E 0 ∧ ∀ q, q < r → ob_Im f (q * 160) K S V Q E (q + 1)
theorem ob_im0 {x K S V Q E : Nat → Int32} (h : ob_Im x 0 K S V Q E 0) {m : Nat} (hm : m < 8) : ∃ c n, ob_Rec x (m * 20) K S V Q E (m + 1) c n := by
  obtain ⟨c, n, h⟩ := h m hm
  rw [Nat.zero_add, show 9 * 0 + (m + 1) = m + 1 from by omega] at h
  exact ⟨c, n, h⟩
theorem ob_im0' {x K S V Q E : Nat → Int32} (h : ∀ m, m < 8 → ∃ c n, ob_Rec x (m * 20) K S V Q E (m + 1) c n) : ob_Im x 0 K S V Q E 0 := by
  intro m hm
  rw [Nat.zero_add, show 9 * 0 + (m + 1) = m + 1 from by omega]
  exact h m hm
theorem ob_at {sv rv : Int32} {x f K S V Q E : Nat → Int32} (h : ob_R sv x f rv K S V Q E) {m : Nat} (hm : m < 8) : ∃ c n, ob_Rec x (m * 20) K S V Q E (m + 1) c n := by
  obtain ⟨r, _, _, _, hl, _⟩ := h
  exact ob_im0 hl hm
theorem ob_step {sv rv : Int32} {x x' f K S V Q E K' S' V' Q' E' : Nat → Int32} {m : Nat} (h : ob_R sv x f rv K S V Q E) (hm : m < 8) (hr : ∃ c n, ob_Rec x' (m * 20) K' S' V' Q' E' (m + 1) c n)
    (fx : ∀ j, j < m * 20 ∨ m * 20 + 20 ≤ j → x' j = x j) (fk : ∀ s, s ≠ m + 1 → K' s = K s ∧ S' s = S s) (fv : ∀ j, j < 6 * (m + 1) ∨ 6 * (m + 1) + 6 ≤ j → V' j = V j ∧ Q' j = Q j ∧ E' j = E j) : ob_R sv x' f rv K' S' V' Q' E' := by
  obtain ⟨r, r5, e1, e2, hl, hf⟩ := h
  refine ⟨r, r5, e1, e2, ob_im0' fun m' hm' => ?_, fun q hq m' hm' => ?_⟩
  · by_cases e : m' = m
    · rw [e]; exact hr
    · obtain ⟨c, n, h⟩ := ob_im0 hl hm'
      exact ⟨c, n, ob_tr h (fun j hj => fx _ (by omega)) (fk _ (by omega)).1 (fk _ (by omega)).2 (fun j hj => fv _ (by omega))⟩
  · obtain ⟨c, n, h⟩ := hf q hq m' hm'
    exact ⟨c, n, ob_tr h (fun j hj => rfl) (fk _ (by omega)).1 (fk _ (by omega)).2 (fun j hj => fv _ (by omega))⟩
/-! what the component's stores make of a record -/
def ob_rn (x : Nat → Int32) (b : Nat) (c : Int32) : Nat → Int32 := fun j => if j = b then c else if b ≤ j ∧ j < b + 20 then 0 else x j
theorem ob_rn0 {x : Nat → Int32} {b : Nat} {c : Int32} : ob_rn x b c b = c := if_pos rfl
theorem ob_rni {x : Nat → Int32} {b : Nat} {c : Int32} {j : Nat} (h : b < j) (h2 : j < b + 20) : ob_rn x b c j = 0 := by
  unfold ob_rn; rw [if_neg (by omega), if_pos (by omega)]
theorem ob_rno {x : Nat → Int32} {b : Nat} {c : Int32} {j : Nat} (h : j < b ∨ b + 20 ≤ j) : ob_rn x b c j = x j := by
  unfold ob_rn; rw [if_neg (by omega), if_neg (by omega)]
def ob_se (x : Nat → Int32) (b i : Nat) (e q v : Int32) : Nat → Int32 := upd (upd (upd x (b + 2 + i) v) (b + 8 + i) q) (b + 14 + i) e
theorem ob_se0 {x : Nat → Int32} {b i : Nat} {e q v : Int32} : ob_se x b i e q v b = x b := by
  unfold ob_se; rw [pk_un (by omega), pk_un (by omega), pk_un (by omega)]
theorem ob_se1 {x : Nat → Int32} {b i : Nat} {e q v : Int32} : ob_se x b i e q v (b + 1) = x (b + 1) := by
  unfold ob_se; rw [pk_un (by omega), pk_un (by omega), pk_un (by omega)]
theorem ob_se2 {x : Nat → Int32} {b i j : Nat} {e q v : Int32} (hi : i < 6) (hj : j < 6) : ob_se x b i e q v (b + 2 + j) = if j = i then v else x (b + 2 + j) := by
  unfold ob_se
  rw [pk_un (by omega), pk_un (by omega)]
  by_cases h : j = i
  · rw [if_pos h, h]; exact pk_us
  · rw [if_neg h]; exact pk_un (by omega)
theorem ob_se8 {x : Nat → Int32} {b i j : Nat} {e q v : Int32} (hi : i < 6) (hj : j < 6) : ob_se x b i e q v (b + 8 + j) = if j = i then q else x (b + 8 + j) := by
  unfold ob_se
  rw [pk_un (by omega)]
  by_cases h : j = i
  · rw [if_pos h, h]; exact pk_us
  · rw [if_neg h, pk_un (by omega)]; exact pk_un (by omega)
theorem ob_se14 {x : Nat → Int32} {b i j : Nat} {e q v : Int32} (hi : i < 6) (hj : j < 6) : ob_se x b i e q v (b + 14 + j) = if j = i then e else x (b + 14 + j) := by
  unfold ob_se
  by_cases h : j = i
  · rw [if_pos h, h]; exact pk_us
  · rw [if_neg h, pk_un (by omega), pk_un (by omega)]; exact pk_un (by omega)
theorem ob_seo {x : Nat → Int32} {b i j : Nat} {e q v : Int32} (hi : i < 6) (h : j < b ∨ b + 20 ≤ j) : ob_se x b i e q v j = x j := by
  unfold ob_se
  rw [pk_un (by omega), pk_un (by omega), pk_un (by omega)]
theorem ob_renew {x K S V Q E : Nat → Int32} {b s c : Nat} (hK : K s = nI c) (hS : S s = 0) : ob_Rc (ob_rn x b (nI c)) b K S V Q E s c 0 := by
  refine ⟨ob_rn0, (ob_rni (by omega) (by omega)).trans nI_0.symm, hK, hS.trans nI_0.symm, fun i hi => absurd hi (by omega), fun i _ hi => ⟨ob_rni (by omega) (by omega), ob_rni (by omega) (by omega), ob_rni (by omega) (by omega)⟩, fun _ i hi => ob_rni (by omega) (by omega)⟩
/-- a value behind the last one; no table -/
theorem ob_add {x K S V Q E K' S' V' Q' E' : Nat → Int32} {b s c n : Nat} {q v : Int32} (h : ob_Rc x b K S V Q E s c n) (hn : n < 6) (hc : c ≠ 4) (hK : K' s = nI c) (hS : S' s = nI (n + 1))
    (hv : ∀ i, i < n → V' (6 * s + i) = V (6 * s + i) ∧ Q' (6 * s + i) = Q (6 * s + i)) (hv1 : V' (6 * s + n) = v) (hq1 : Q' (6 * s + n) = q) (hl : ob_Lk q v) :
    ob_Rc (upd (ob_se x b n 0 q v) (b + 1) (nI (n + 1))) b K' S' V' Q' E' s c (n + 1) := by
  obtain ⟨h1, h2, h3, h4, h6, h7, h8⟩ := h
  refine ⟨?_, pk_us, hK, hS, fun i hi hi6 => ?_, fun i hi hi6 => ?_, fun _ i hi => ?_⟩
  · rw [pk_un (by omega), ob_se0]; exact h1
  · by_cases e : i = n
    · subst e
      refine ⟨?_, ?_, fun z => absurd z hc, ?_⟩
      · rw [pk_un (by omega), ob_se2 hi6 hi6, if_pos rfl, hv1]
      · rw [pk_un (by omega), ob_se8 hi6 hi6, if_pos rfl, hq1]
      · rw [hv1, hq1]; exact hl
    · obtain ⟨e1, e2, e3, e4⟩ := h6 i (by omega) hi6
      obtain ⟨v1, v2⟩ := hv i (by omega)
      refine ⟨?_, ?_, fun z => absurd z hc, ?_⟩
      · rw [pk_un (by omega), ob_se2 hn hi6, if_neg e, v1]; exact e1
      · rw [pk_un (by omega), ob_se8 hn hi6, if_neg e, v2]; exact e2
      · rw [v1, v2]; exact e4
  · obtain ⟨e1, e2, e3⟩ := h7 i (by omega) hi6
    refine ⟨?_, ?_, ?_⟩
    · rw [pk_un (by omega), ob_se2 hn hi6, if_neg (by omega)]; exact e1
    · rw [pk_un (by omega), ob_se8 hn hi6, if_neg (by omega)]; exact e2
    · rw [pk_un (by omega), ob_se14 hn hi6, if_neg (by omega)]; exact e3
  · rw [pk_un (by omega), ob_se14 hn hi]
    by_cases e : i = n
    · rw [if_pos e]
    · rw [if_neg e]; exact h8 hc i hi
/-- the last value away -/
theorem ob_drop {x K S V Q E S' : Nat → Int32} {b s c n : Nat} (h : ob_Rc x b K S V Q E s c (n + 1)) (hn : n < 6) (hS : S' s = nI n) :
    ob_Rc (upd (ob_se x b n 0 0 0) (b + 1) (nI n)) b K S' V Q E s c n := by
  obtain ⟨h1, h2, h3, h4, h6, h7, h8⟩ := h
  refine ⟨?_, pk_us, h3, hS, fun i hi hi6 => ?_, fun i hi hi6 => ?_, fun hc i hi => ?_⟩
  · rw [pk_un (by omega), ob_se0]; exact h1
  · obtain ⟨e1, e2, e3, e4⟩ := h6 i (by omega) hi6
    refine ⟨?_, ?_, fun hc => ?_, e4⟩
    · rw [pk_un (by omega), ob_se2 hn hi6, if_neg (by omega)]; exact e1
    · rw [pk_un (by omega), ob_se8 hn hi6, if_neg (by omega)]; exact e2
    · rw [pk_un (by omega), ob_se14 hn hi6, if_neg (by omega)]; exact e3 hc
  · by_cases e : i = n
    · subst e
      refine ⟨?_, ?_, ?_⟩
      · rw [pk_un (by omega), ob_se2 hn hi6, if_pos rfl]
      · rw [pk_un (by omega), ob_se8 hn hi6, if_pos rfl]
      · rw [pk_un (by omega), ob_se14 hn hi6, if_pos rfl]
    · obtain ⟨e1, e2, e3⟩ := h7 i (by omega) hi6
      refine ⟨?_, ?_, ?_⟩
      · rw [pk_un (by omega), ob_se2 hn hi6, if_neg e]; exact e1
      · rw [pk_un (by omega), ob_se8 hn hi6, if_neg e]; exact e2
      · rw [pk_un (by omega), ob_se14 hn hi6, if_neg e]; exact e3
  · rw [pk_un (by omega), ob_se14 hn hi]
    by_cases e : i = n
    · rw [if_pos e]
    · rw [if_neg e]; exact h8 hc i hi
/-! tables: a hole at i among the entries 0 .. n -/
def ob_Ho (x : Nat → Int32) (b : Nat) (V Q E : Nat → Int32) (y n i : Nat) : Prop := ∀ j, j ≤ n → j ≠ i → ob_En x b V Q E y 4 j
theorem ob_Hos {x V Q E : Nat → Int32} {b y n i : Nat} {e q v : Int32} (hn : n < 6) (hi : i ≤ n) (h : ob_Ho x b V Q E y n i) (hl : ob_Lk q v) :
    ∀ j, j ≤ n → ob_En (ob_se x b i e q v) b (upd V (y + i) v) (upd Q (y + i) q) (upd E (y + i) e) y 4 j := by
  intro j hj
  unfold ob_En
  rw [ob_se2 (by omega) (by omega), ob_se8 (by omega) (by omega), ob_se14 (by omega) (by omega)]
  by_cases z : j = i
  · subst z
    rw [if_pos rfl, if_pos rfl, if_pos rfl, pk_us, pk_us, pk_us]
    exact ⟨rfl, rfl, fun _ => rfl, hl⟩
  · rw [if_neg z, if_neg z, if_neg z, pk_un (by omega), pk_un (by omega), pk_un (by omega)]
    exact h j hj z
/-- one step of the shift -/
def ob_mx (x : Nat → Int32) (b i : Nat) : Nat → Int32 := ob_se x b (i + 1) (x (b + 14 + i)) (x (b + 8 + i)) (x (b + 2 + i))
def ob_mv (V : Nat → Int32) (y i : Nat) : Nat → Int32 := upd V (y + (i + 1)) (V (y + i))
theorem ob_Hm {x V Q E : Nat → Int32} {b y n i : Nat} (hn : n < 6) (hi : i + 1 ≤ n) (h : ob_Ho x b V Q E y n (i + 1)) : ob_Ho (ob_mx x b i) b (ob_mv V y i) (ob_mv Q y i) (ob_mv E y i) y n i := by
  obtain ⟨e1, e2, e3, e4⟩ := h i (by omega) (by omega)
  intro j hj _
  unfold ob_mx ob_mv
  rw [e1, e2, e3 rfl]
  exact ob_Hos hn hi h e4 j hj
/-- the shift from p + d down to p -/
def ob_mxs (b p : Nat) : Nat → (Nat → Int32) → Nat → Int32
  | 0, x => x
  | d + 1, x => ob_mxs b p d (ob_mx x b (p + d))
def ob_mvs (y p : Nat) : Nat → (Nat → Int32) → Nat → Int32
  | 0, V => V
  | d + 1, V => ob_mvs y p d (ob_mv V y (p + d))
theorem ob_Hms {b y n p : Nat} (hn : n < 6) : ∀ d (x V Q E : Nat → Int32), p + d ≤ n → ob_Ho x b V Q E y n (p + d) → ob_Ho (ob_mxs b p d x) b (ob_mvs y p d V) (ob_mvs y p d Q) (ob_mvs y p d E) y n p := by
  intro d
  induction d with
  | zero => exact fun _ _ _ _ _ h => h
  | succ d ih => exact fun x V Q E hd h => ih _ _ _ _ (by omega) (ob_Hm hn hd h)
theorem ob_mxso {b p : Nat} : ∀ d (x : Nat → Int32), p + d < 6 → (∀ j, j < b + 2 ∨ b + 20 ≤ j → ob_mxs b p d x j = x j) ∧ (∀ j, p + d < j → j < 6 → ob_mxs b p d x (b + 2 + j) = x (b + 2 + j) ∧ ob_mxs b p d x (b + 8 + j) = x (b + 8 + j) ∧ ob_mxs b p d x (b + 14 + j) = x (b + 14 + j)) := by
  intro d
  induction d with
  | zero => exact fun _ _ => ⟨fun _ _ => rfl, fun _ _ _ => ⟨rfl, rfl, rfl⟩⟩
  | succ d ih =>
    intro x hd
    obtain ⟨a, c⟩ := ih (ob_mx x b (p + d)) (by omega)
    refine ⟨fun j hj => ?_, fun j h1 h6 => ?_⟩
    · show ob_mxs b p d (ob_mx x b (p + d)) j = x j
      rw [a j hj]
      unfold ob_mx ob_se
      rw [pk_un (by omega), pk_un (by omega), pk_un (by omega)]
    · obtain ⟨c1, c2, c3⟩ := c j (by omega) h6
      show ob_mxs b p d (ob_mx x b (p + d)) _ = _ ∧ ob_mxs b p d (ob_mx x b (p + d)) _ = _ ∧ ob_mxs b p d (ob_mx x b (p + d)) _ = _
      rw [c1, c2, c3]
      unfold ob_mx
      rw [ob_se2 (by omega) h6, ob_se8 (by omega) h6, ob_se14 (by omega) h6, if_neg (by omega), if_neg (by omega), if_neg (by omega)]
      exact ⟨rfl, rfl, rfl⟩
theorem ob_mvso {y p : Nat} : ∀ d (V : Nat → Int32), p + d < 6 → ∀ j, j < y ∨ y + 6 ≤ j → ob_mvs y p d V j = V j := by
  intro d
  induction d with
  | zero => exact fun _ _ _ _ => rfl
  | succ d ih =>
    intro V hd j hj
    show ob_mvs y p d (ob_mv V y (p + d)) j = V j
    rw [ih _ (by omega) j hj]
    unfold ob_mv
    rw [pk_un (by omega)]
/-- an entry in place of one that has the key -/
theorem ob_put1 {x K S V Q E : Nat → Int32} {b s n i : Nat} {e q v : Int32} (h : ob_Rc x b K S V Q E s 4 n) (hi : i < n) (hn : n ≤ 3) (hl : ob_Lk q v) :
    ob_Rc (ob_se x b i e q v) b K S (upd V (6 * s + i) v) (upd Q (6 * s + i) q) (upd E (6 * s + i) e) s 4 n := by
  obtain ⟨h1, h2, h3, h4, h6, h7, h8⟩ := h
  refine ⟨ob_se0.trans h1, ob_se1.trans h2, h3, h4, fun j hj hj6 => ?_, fun j hj hj6 => ?_, fun z => absurd rfl z⟩
  · exact ob_Hos (n := n - 1) (by omega) (by omega) (fun j' hj' _ => h6 j' (by omega) (by omega)) hl j (by omega)
  · obtain ⟨e1, e2, e3⟩ := h7 j hj hj6
    unfold ob_Ze
    rw [ob_se2 (by omega) hj6, ob_se8 (by omega) hj6, ob_se14 (by omega) hj6, if_neg (by omega), if_neg (by omega), if_neg (by omega)]
    exact ⟨e1, e2, e3⟩
/-- a new entry at p, those behind it shifted: n = p + d before -/
theorem ob_put2 {x K S V Q E S' : Nat → Int32} {b s p d : Nat} {e q v : Int32} (h : ob_Rc x b K S V Q E s 4 (p + d)) (hn : p + d < 3) (hS : S' s = nI (p + d + 1)) (hl : ob_Lk q v) :
    ob_Rc (ob_se (upd (ob_mxs b p d x) (b + 1) (nI (p + d + 1))) b p e q v) b K S' (upd (ob_mvs (6 * s) p d V) (6 * s + p) v) (upd (ob_mvs (6 * s) p d Q) (6 * s + p) q) (upd (ob_mvs (6 * s) p d E) (6 * s + p) e) s 4 (p + d + 1) := by
  obtain ⟨h1, h2, h3, h4, h6, h7, h8⟩ := h
  obtain ⟨a, c⟩ := ob_mxso (b := b) (p := p) d x (by omega)
  have ho : ob_Ho (ob_mxs b p d x) b (ob_mvs (6 * s) p d V) (ob_mvs (6 * s) p d Q) (ob_mvs (6 * s) p d E) (6 * s) (p + d) p :=
    ob_Hms (by omega) d x V Q E (Nat.le_refl _) (fun j hj hne => h6 j (by omega) (by omega))
  have ho2 : ob_Ho (upd (ob_mxs b p d x) (b + 1) (nI (p + d + 1))) b (ob_mvs (6 * s) p d V) (ob_mvs (6 * s) p d Q) (ob_mvs (6 * s) p d E) (6 * s) (p + d) p := by
    intro j hj hne
    have := ho j hj hne
    unfold ob_En at this ⊢
    rw [pk_un (by omega), pk_un (by omega), pk_un (by omega)]
    exact this
  refine ⟨?_, ?_, h3, hS, fun j hj hj6 => ?_, fun j hj hj6 => ?_, fun z => absurd rfl z⟩
  · rw [ob_se0, pk_un (by omega), a _ (by omega)]; exact h1
  · rw [ob_se1, pk_us]
  · exact ob_Hos (n := p + d) (by omega) (by omega) ho2 hl j (by omega)
  · obtain ⟨e1, e2, e3⟩ := h7 j (by omega) hj6
    obtain ⟨c1, c2, c3⟩ := c j (by omega) hj6
    unfold ob_Ze
    rw [ob_se2 (by omega) hj6, ob_se8 (by omega) hj6, ob_se14 (by omega) hj6, if_neg (by omega), if_neg (by omega), if_neg (by omega), pk_un (by omega), pk_un (by omega), pk_un (by omega), c1, c2, c3]
    exact ⟨e1, e2, e3⟩

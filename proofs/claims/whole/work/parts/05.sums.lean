/-! running sums that both sides reckon -/
def ob_lk (V Q : Nat → Int32) (y : Nat) (t : Int32) : Nat → Int32
  | 0 => 0
  | i + 1 => if Q (y + i) = 2 ∧ V (y + i) = t then ob_lk V Q y t i + 1 else ob_lk V Q y t i
def ob_ls (S V Q : Nat → Int32) (t : Int32) : Nat → Int32
  | 0 => 0
  | m + 1 => ob_ls S V Q t m + ob_lk V Q (6 * (m + 1)) t (S (m + 1)).toNatClampNeg
def ob_dv (V : Nat → Int32) (m : Nat) (a : Int32) : Nat → Int32
  | 0 => a
  | i + 1 => ob_dv V m a i + (8 * nI (m + 1) + nI i + 1) * V (6 * (m + 1) + i)
def ob_ds (K S V : Nat → Int32) : Nat → Int32
  | 0 => 0
  | m + 1 => ob_dv V m (ob_ds K S V m + 1000 * nI (m + 1) * K (m + 1)) (S (m + 1)).toNatClampNeg
def ob_ct (K : Nat → Int32) : Nat → Int32
  | 0 => 0
  | m + 1 => if K (m + 1) = 0 then ob_ct K m else ob_ct K m + 1
theorem ob_lk_t {V Q : Nat → Int32} {y i : Nat} {t : Int32} (h : Q (y + i) = 2) (h2 : V (y + i) = t) : ob_lk V Q y t (i + 1) = ob_lk V Q y t i + 1 := if_pos ⟨h, h2⟩
theorem ob_lk_f {V Q : Nat → Int32} {y i : Nat} {t : Int32} (h : ¬ (Q (y + i) = 2 ∧ V (y + i) = t)) : ob_lk V Q y t (i + 1) = ob_lk V Q y t i := if_neg h
theorem ob_ct_t {K : Nat → Int32} {m : Nat} (h : K (m + 1) = 0) : ob_ct K (m + 1) = ob_ct K m := if_pos h
theorem ob_ct_f {K : Nat → Int32} {m : Nat} (h : ¬ K (m + 1) = 0) : ob_ct K (m + 1) = ob_ct K m + 1 := if_neg h
/-! objects that become absent one behind another -/
def ob_sx (sw : Nat → Bool) (x : Nat → Int32) : Nat → Nat → Int32
  | 0 => x
  | m + 1 => if sw m = true then ob_rn (ob_sx sw x m) (m * 20) 0 else ob_sx sw x m
def ob_sk (sw : Nat → Bool) (K : Nat → Int32) : Nat → Nat → Int32
  | 0 => K
  | m + 1 => if sw m = true then upd (ob_sk sw K m) (m + 1) 0 else ob_sk sw K m
def ob_sn (sw : Nat → Bool) : Nat → Int32
  | 0 => 0
  | m + 1 => if sw m = true then ob_sn sw m + 1 else ob_sn sw m
theorem ob_sx_t {sw : Nat → Bool} {x : Nat → Int32} {m : Nat} (h : sw m = true) : ob_sx sw x (m + 1) = ob_rn (ob_sx sw x m) (m * 20) 0 := if_pos h
theorem ob_sx_f {sw : Nat → Bool} {x : Nat → Int32} {m : Nat} (h : ¬ sw m = true) : ob_sx sw x (m + 1) = ob_sx sw x m := if_neg h
theorem ob_sk_t {sw : Nat → Bool} {x : Nat → Int32} {m : Nat} (h : sw m = true) : ob_sk sw x (m + 1) = upd (ob_sk sw x m) (m + 1) 0 := if_pos h
theorem ob_sk_f {sw : Nat → Bool} {x : Nat → Int32} {m : Nat} (h : ¬ sw m = true) : ob_sk sw x (m + 1) = ob_sk sw x m := if_neg h
theorem ob_sn_t {sw : Nat → Bool} {m : Nat} (h : sw m = true) : ob_sn sw (m + 1) = ob_sn sw m + 1 := if_pos h
theorem ob_sn_f {sw : Nat → Bool} {m : Nat} (h : ¬ sw m = true) : ob_sn sw (m + 1) = ob_sn sw m := if_neg h
theorem ob_sx_o {sw : Nat → Bool} {x : Nat → Int32} : ∀ m j, m * 20 ≤ j → ob_sx sw x m j = x j := by
  intro m
  induction m with
  | zero => exact fun _ _ => rfl
  | succ m ih =>
    intro j hj
    by_cases h : sw m = true
    · rw [ob_sx_t h, ob_rno (by omega)]; exact ih j (by omega)
    · rw [ob_sx_f h]; exact ih j (by omega)
theorem ob_sk_o {sw : Nat → Bool} {K : Nat → Int32} : ∀ m s, m < s → ob_sk sw K m s = K s := by
  intro m
  induction m with
  | zero => exact fun _ _ => rfl
  | succ m ih =>
    intro s hs
    by_cases h : sw m = true
    · rw [ob_sk_t h, pk_un (by omega)]; exact ih s (by omega)
    · rw [ob_sk_f h]; exact ih s (by omega)
theorem ob_sz0 : ob_Sz 0 0 := ⟨by omega, by omega, by omega, by omega, by omega, by omega, by omega⟩
theorem ob_away {sv rv : Int32} {x f K S V Q E : Nat → Int32} {m : Nat} (h : ob_R sv x f rv K S V Q E) (hm : m < 8) : ob_R sv (ob_rn x (m * 20) 0) f rv (upd K (m + 1) 0) (upd S (m + 1) 0) V Q E :=
  ob_step h hm ⟨0, 0, ob_renew (c := 0) pk_us pk_us, ob_sz0, fun z => absurd z (by omega)⟩ (fun j hj => ob_rno hj) (fun s hs => ⟨pk_un hs, pk_un hs⟩) (fun _ _ => ⟨rfl, rfl, rfl⟩)
theorem ob_sR {sv rv : Int32} {x f K S V Q E : Nat → Int32} {sw : Nat → Bool} (h : ob_R sv x f rv K S V Q E) : ∀ m, m ≤ 8 → ob_R sv (ob_sx sw x m) f rv (ob_sk sw K m) (ob_sk sw S m) V Q E := by
  intro m
  induction m with
  | zero => exact fun _ => h
  | succ m ih =>
    intro hm
    by_cases z : sw m = true
    · rw [ob_sx_t z, ob_sk_t z, ob_sk_t z]; exact ob_away (ih (by omega)) (by omega)
    · rw [ob_sx_f z, ob_sk_f z, ob_sk_f z]; exact ih (by omega)

-- ===== the reference's small functions =====
theorem lg_lt0 (x y : Int64) : lg_cmp x y < 0 ↔ x < y := by
  unfold lg_cmp
  by_cases h : x > y
  · rw [if_pos h]
    have h2 : ¬ x < y := fun q => Int64.lt_irrefl (Int64.lt_trans h q)
    simp [h2]
  · rw [if_neg h]
    by_cases e : x = y
    · rw [if_pos e]; subst e
      simp [Int64.lt_irrefl]
    · rw [if_neg e]
      have h3 : x < y := by
        rw [Int64.lt_iff_toInt_lt] at *
        have : x.toInt ≠ y.toInt := fun q => e (Int64.toInt_inj.mp q)
        have h' : ¬ y.toInt < x.toInt := by
          intro q; exact h (Int64.lt_iff_toInt_lt.mpr q)
        omega
      simp [h3]
theorem lg_gt0 (x y : Int64) : 0 < lg_cmp x y ↔ y < x := by
  unfold lg_cmp
  by_cases h : x > y
  · rw [if_pos h]
    simp [show y < x from h]
  · rw [if_neg h]
    have h2 : ¬ y < x := h
    by_cases e : x = y
    · rw [if_pos e]; simp [h2]
    · rw [if_neg e]; simp [h2]
theorem in_l (a b c : Int64) : e_X8_in a b c = some (if b ≤ a ∧ a ≤ c then 1 else 0) := by
  unfold e_X8_in b_X8_in_0
  simp only [lg_lt0, lg_gt0]
  by_cases h1 : a < b
  · have h : ¬ b ≤ a := Int64.not_le.mpr h1
    rw [if_pos h1, if_neg (fun q => h q.1)]
  · have h : b ≤ a := Int64.not_lt.mp h1
    rw [if_neg h1]
    by_cases h2 : c < a
    · have h' : ¬ a ≤ c := Int64.not_le.mpr h2
      rw [if_pos h2, if_neg (fun q => h' q.2)]
    · rw [if_neg h2, if_pos ⟨h, Int64.not_lt.mp h2⟩]
theorem le_64 (x y : Int32) : x.toInt64 ≤ y.toInt64 ↔ x ≤ y := by
  rw [Int64.le_iff_toInt_le, Int32.le_iff_toInt_le, Int32.toInt_toInt64, Int32.toInt_toInt64]
theorem in_i (x l h : Int32) : e_X8_in x.toInt64 l.toInt64 h.toInt64 = some (if l ≤ x ∧ x ≤ h then 1 else 0) := by
  rw [in_l]; simp only [le_64]
theorem in_l0 (x h : Int32) : e_X8_in x.toInt64 0 h.toInt64 = some (if 0 ≤ x ∧ x ≤ h then 1 else 0) := in_i x 0 h
theorem in_ll (x : Int32) {l h : Int32} {L H : Int64} (hl : L = l.toInt64) (hh : H = h.toInt64) : e_X8_in x.toInt64 L H = some (if l ≤ x ∧ x ≤ h then 1 else 0) := by
  subst hl; subst hh; exact in_i x l h
theorem in_0h (x : Int32) {h : Int32} {H : Int64} (hh : H = h.toInt64) : e_X8_in x.toInt64 0 H = some (if 0 ≤ x ∧ x ≤ h then 1 else 0) := in_ll x (l := 0) rfl hh
/-- with numbers -/
theorem in_n {x l h : Nat} (hx : x < 2 ^ 31) (hl : l < 2 ^ 31) (hh : h < 2 ^ 31) : e_X8_in (nI x).toInt64 (nI l).toInt64 (nI h).toInt64 = some (if l ≤ x ∧ x ≤ h then 1 else 0) := by
  rw [in_i]; simp only [nI_leI hx hh, nI_leI hl hx]
theorem if01 {c : Prop} [Decidable c] : ((if c then (1 : Int32) else 0) = 0) ↔ ¬ c := by
  by_cases h : c
  · simp [h]
  · simp [h]
theorem power_n (v : Nat) : ∀ (m k p : Nat), k + m < 1000 → ∀ n, m < n → b_X8_power_4 n (nI v) (nI (k + m)) (nI p) (nI k) = some (nI (p * v ^ m)) := by
  intro m
  induction m with
  | zero =>
    intro k p hk n hn
    obtain ⟨j, rfl⟩ : ∃ j, n = j + 1 := ⟨n - 1, by omega⟩
    rw [b_X8_power_4, if_pos (nI_le (a := k + 0) (b := k) (by omega) (by omega))]; simp
  | succ m ih =>
    intro k p hk n hn
    obtain ⟨j, rfl⟩ : ∃ j, n = j + 1 := ⟨n - 1, by omega⟩
    rw [b_X8_power_4, if_neg (nI_ge (a := k) (b := k + (m + 1)) (by omega) (by omega)), lt_e, lt_e, pk_mul, il1, nI_add]
    have := ih (k + 1) (p * v) (by omega) j (by omega)
    rw [show k + 1 + m = k + (m + 1) by omega] at this
    rw [this, Nat.pow_succ, Nat.mul_assoc, Nat.mul_comm v]
theorem power_e (v m : Nat) (hm : m < 1000) : e_X8_power (nI v) (nI m) = some (nI (v ^ m)) := by
  unfold e_X8_power b_X8_power_0
  have h := power_n v m 0 1 (by omega) FU (by unfold FU; omega)
  rw [Nat.zero_add, Nat.one_mul] at h
  exact h
/-- a figure, from the right -/
def dig (x j : Nat) : Nat := x / 10 ^ j % 10
theorem dig_le (x j : Nat) : dig x j ≤ 9 := by unfold dig; omega
theorem tens_n : ∀ j, j < 9 → tens j = nI (10 ^ j) := by decide
theorem p10_lt {j : Nat} (h : j < 9) : 10 ^ j < 2 ^ 31 := Nat.lt_of_le_of_lt (Nat.pow_le_pow_right (by decide) (show j ≤ 8 by omega)) (by decide)
theorem p10_pos (j : Nat) : 0 < 10 ^ j := Nat.pow_pos (by decide)
theorem rem10 {x j : Nat} (hx : x < 2 ^ 31) (hj : j < 9) : nI x / nI (10 ^ j) - nI x / nI (10 ^ j) / nI 10 * nI 10 = nI (dig x j) := by
  rw [pk_div hx (p10_pos j) (p10_lt hj)]
  have h : x / 10 ^ j < 2 ^ 31 := Nat.lt_of_le_of_lt (Nat.div_le_self _ _) hx
  rw [pk_rem h (by decide) (by decide)]
  rfl
theorem figure_e {x n i : Nat} (hx : x < 2 ^ 31) (hn : n ≤ 9) (hi : i < n) : e_X7_figure (nI x) (nI n) (nI i) = some (nI (dig x (n - 1 - i))) := by
  unfold e_X7_figure b_X7_figure_0
  simp only [il1, il9, il10, il0, lt_e]
  rw [pk_sub (by omega), pk_sub (by omega)]
  rw [if_neg (nneg (by omega)), if_pos (nI_lt (by omega) (by omega)), rt_nI (by omega) (by omega), tens_n _ (by omega), dv_nI (p10_pos _) (p10_lt (by omega)), rem10 hx (by omega)]
theorem has_e : ∀ x, x < 32 → ∀ k, k < 5 → e_X8_has (nI x) (nI k) = some (if x.testBit k then 1 else 0) := by decide
theorem ones_e : ∀ x, x < 16 → e_X8_ones (nI x) = some (nI (cnt (fun i => x.testBit i) 4)) := by decide
theorem bc_e : ∀ x, x < 32 → e_J6_bitCount (nI x) = some (nI (cnt (fun i => x.testBit i) 5)) := by decide

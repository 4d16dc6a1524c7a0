-- ===== reading: letters and figures =====
def mo (t : Nat) : Option Nat := if t = 45 then some 4 else if 97 ≤ t ∧ t ≤ 100 then some (t - 97) else none
def okf (n : Nat) (T : Nat → Nat) (p lo hi b : Nat) : Bool := decide (p < n ∧ lo + b ≤ T p ∧ T p ≤ hi + b)
def fgr (n : Nat) (T : Nat → Nat) (fs : Option Nat) (p lo hi b : Nat) : Nat × Option Nat × Nat :=
  match fs with
  | some f => (lo, some f, p)
  | none => if okf n T p lo hi b then (T p - b, none, p + 1) else (lo, some p, p)
theorem fgr_r (n : Nat) (T : Nat → Nat) (fs : Option Nat) (p lo hi b : Nat) : lo ≤ (fgr n T fs p lo hi b).1 ∧ ((fgr n T fs p lo hi b).1 ≤ hi ∨ (fgr n T fs p lo hi b).1 = lo) := by
  cases fs with
  | some f => exact ⟨Nat.le_refl _, Or.inr rfl⟩
  | none =>
    unfold fgr
    by_cases h : okf n T p lo hi b = true
    · simp only [h, if_true]
      unfold okf at h
      simp at h
      exact ⟨by omega, Or.inl (by omega)⟩
    · simp only [h]
      exact ⟨Nat.le_refl _, Or.inr rfl⟩
theorem sub_rng {t b lo hi : Nat} (ht : t < 256) (hb : b ≤ 97) (hl : lo < 1000) (hh : hi < 1000) : (nI lo ≤ nI t - nI b ∧ nI t - nI b ≤ nI hi) ↔ lo + b ≤ t ∧ t ≤ hi + b := by
  have e : (nI t - nI b).toInt = (t : Int) - b := pk_sub_toInt (by omega) (by omega)
  rw [Int32.le_iff_toInt_le, Int32.le_iff_toInt_le, e, nI_toInt (by omega), nI_toInt (by omega)]
  omega
theorem n9_nin {lo : Nat} {x : Int32} (hl : lo < 1000) : ¬ (nI lo ≤ -9 ∧ (-9 : Int32) ≤ x) := by
  rintro ⟨h, -⟩
  rw [Int32.le_iff_toInt_le, nI_toInt (by omega)] at h
  have e2 : (-9 : Int32).toInt = -9 := rfl
  omega
theorem n9_lt {a : Nat} (h : a < 1000) : (-9 : Int32) < nI a := by
  rw [Int32.lt_iff_toInt_lt, nI_toInt (by omega)]
  have e2 : (-9 : Int32).toInt = -9 := rfl
  omega
theorem xlet {σ : ES} {n : Nat} {T : Nat → Nat} (hn : n ≤ 64) (h1 : σ.1 1 1 = nI n) (h2 : ∀ j, j < n → σ.1 2 j = nI (T j)) {p : Nat} (hp : p < 100) : e_X6_letterAt_1 (nI p) σ = some (if p < n then nI (T p) else -9) := by
  unfold e_X6_letterAt_1 b_X6_letterAt_1_0
  rw [if_neg (nI_pos (by omega)), h1]
  by_cases h : p < n
  · rw [if_neg (nI_ge h (by omega)), if_pos h, rd_nI (by omega) (by omega), h2 p h]
  · rw [if_pos (nI_le (by omega) (by omega)), if_neg h]
theorem xfig {σ : ES} {n : Nat} {T : Nat → Nat} (hn : n ≤ 64) (h1 : σ.1 1 1 = nI n) (h2 : ∀ j, j < n → σ.1 2 j = nI (T j)) (h3 : ∀ j, j < n → T j < 256) {p lo hi : Nat} (hp : p < 100) (hlo : lo ≤ 9) (hhi : hi < 1000) : e_X6_figureAt_1 (nI p) (nI lo) (nI hi) σ = some (if okf n T p lo (min hi 9) 48 then nI (T p - 48) else -9) := by
  unfold e_X6_figureAt_1 b_X6_figureAt_1_0 okf
  rw [xlet hn h1 h2 hp, cl_so]
  unfold b_X6_figureAt_1_44
  by_cases h : p < n
  · have h3 := h3 p h
    rw [if_pos h, il48, il57]
    by_cases c1 : T p < 48
    · rw [if_pos (nI_lt c1 (by omega)), if_pos (show (0 : Int32) = 0 from rfl), if_neg (show ¬ decide (p < n ∧ lo + 48 ≤ T p ∧ T p ≤ min hi 9 + 48) = true by simp only [decide_eq_true_eq]; omega)]
    · rw [if_neg (nI_nlt (by omega) (by omega))]
      by_cases c2 : 57 < T p
      · rw [if_pos (nI_lt c2 (by omega)), if_pos (show (0 : Int32) = 0 from rfl), if_neg (show ¬ decide (p < n ∧ lo + 48 ≤ T p ∧ T p ≤ min hi 9 + 48) = true by simp only [decide_eq_true_eq]; omega)]
      · rw [if_neg (nI_nlt (by omega) (by omega)), pk_sub (by omega)]
        by_cases c3 : T p - 48 < lo
        · rw [if_pos (nI_lt c3 (by omega)), if_pos (show (0 : Int32) = 0 from rfl), if_neg (show ¬ decide (p < n ∧ lo + 48 ≤ T p ∧ T p ≤ min hi 9 + 48) = true by simp only [decide_eq_true_eq]; omega)]
        · rw [if_neg (nI_nlt (by omega) (by omega))]
          by_cases c4 : hi < T p - 48
          · rw [if_pos (nI_lt c4 (by omega)), if_pos (show (0 : Int32) = 0 from rfl), if_neg (show ¬ decide (p < n ∧ lo + 48 ≤ T p ∧ T p ≤ min hi 9 + 48) = true by simp only [decide_eq_true_eq]; omega)]
          · rw [if_neg (nI_nlt (by omega) (by omega)), if_neg one_ne, if_pos (show decide (p < n ∧ lo + 48 ≤ T p ∧ T p ≤ min hi 9 + 48) = true by simp only [decide_eq_true_eq]; omega)]
  · rw [if_neg h, if_pos (show (-9 : Int32) < 48 by decide), if_pos (show (0 : Int32) = 0 from rfl), if_neg (show ¬ decide (p < n ∧ lo + 48 ≤ T p ∧ T p ≤ min hi 9 + 48) = true by simp [h])]
theorem xmom {σ : ES} {n : Nat} {T : Nat → Nat} (hn : n ≤ 64) (h1 : σ.1 1 1 = nI n) (h2 : ∀ j, j < n → σ.1 2 j = nI (T j)) (h3 : ∀ j, j < n → T j < 256) {p : Nat} (hp : p < 100) : e_X6_momentAt_1 (nI p) σ = some (oI (if p < n then mo (T p) else none)) := by
  unfold e_X6_momentAt_1 b_X6_momentAt_1_0
  rw [xlet hn h1 h2 hp, cl_so]
  by_cases h : p < n
  · have h3 := h3 p h
    rw [if_pos h, if_pos h, il45, il97, il100]
    unfold mo
    by_cases c0 : T p = 45
    · rw [if_pos (by rw [c0]), if_pos c0]; rfl
    · rw [if_neg (fun x => c0 ((nI_eq (by omega) (by omega)).mp x)), if_neg c0]
      by_cases c1 : T p < 97
      · rw [if_pos (nI_lt c1 (by omega)), if_neg (by omega)]; rfl
      · rw [if_neg (nI_nlt (by omega) (by omega))]
        by_cases c2 : 100 < T p
        · rw [if_pos (nI_lt c2 (by omega)), if_neg (by omega)]; rfl
        · rw [if_neg (nI_nlt (by omega) (by omega)), if_pos (by omega), pk_sub (by omega)]; rfl
  · rw [if_neg h, if_neg h, if_neg (by decide), if_pos (show (-9 : Int32) < 97 by decide)]; rfl
theorem mgift {t : Nat} (ht : t < 256) : e_X8_giftOf (nI t) = some (oI (mo t)) := by
  unfold e_X8_giftOf b_X8_giftOf_0 mo
  rw [in_ll (nI t) (l := 97) (h := 100) (by decide) (by decide), cl_in]
  by_cases c0 : t = 45
  · subst c0; rw [if_pos rfl, if_pos (by decide)]; rfl
  · rw [if_neg (show ¬ nI t = 45 from fun x => c0 ((nI_eq (b := 45) (by omega) (by omega)).mp x)), if_neg c0]
    have e : (97 ≤ nI t ∧ nI t ≤ 100) ↔ (97 ≤ t ∧ t ≤ 100) := by
      have a : (97 : Int32) ≤ nI t ↔ 97 ≤ t := nI_leI (a := 97) (by omega) (by omega)
      have b : nI t ≤ (100 : Int32) ↔ t ≤ 100 := nI_leI (b := 100) (by omega) (by omega)
      rw [a, b]
    simp only [e]
    by_cases c1 : 97 ≤ t ∧ t ≤ 100
    · rw [if_pos c1, if_pos c1, il97, pk_sub (by omega)]; rfl
    · rw [if_neg c1, if_neg c1]; rfl
/-- all but place 14 and 15 of the object is as it was -/
def Fz (τ τ' : ES) : Prop := (∀ k, k ≠ 0 → τ'.1 k = τ.1 k) ∧ τ'.2 = τ.2 ∧ ∀ j, j ≠ 14 → j ≠ 15 → τ'.1 0 j = τ.1 0 j
theorem Fz.w {τ : ES} {j : Nat} {v : Int32} (h : j = 14 ∨ j = 15) : Fz τ (wI τ 0 j v) := ⟨fun k hk => by rw [wI_nk hk], rfl, fun i h1 h2 => by rw [wI_nj (by omega)]⟩
theorem mfig {τ : ES} {n : Nat} {T : Nat → Nat} {fs : Option Nat} {p lo hi b : Nat} (hn : n ≤ 64) (h13 : τ.1 0 13 = nI n) (hl : ∀ j, j < n → τ.1 10 j = nI (T j) ∧ T j < 256) (h14 : τ.1 0 14 = nI p) (hp : p < 100) (h15 : τ.1 0 15 = oI fs) (hf : ∀ f, fs = some f → f < 100) (hlo : lo ≤ 9) (hhi : hi ≤ 9) (hb : b ≤ 97) : ∃ τ', e_X8_figure (nI lo) (nI hi) (nI b) τ = some (nI (fgr n T fs p lo hi b).1, τ') ∧ Fz τ τ' ∧ τ'.1 0 14 = nI (fgr n T fs p lo hi b).2.2 ∧ τ'.1 0 15 = oI (fgr n T fs p lo hi b).2.1 := by
  have bad : b_X8_figure_36 (nI lo) (nI hi) (-9) τ = b_X8_figure_72 (nI lo) (if fs = none then nI p else oI fs) τ := by
    unfold b_X8_figure_36
    rw [in_i, if_neg (n9_nin (by omega)), cl_so, if_pos rfl, h15, h14]
    cases fs with
    | none => rw [if_pos (show oI none = -9 from rfl), if_pos rfl]
    | some f => rw [if_neg (show ¬ oI (some f) = -9 from nI_ne9 (by have := hf f rfl; omega)), if_neg (by simp)]
  unfold e_X8_figure b_X8_figure_0
  cases fs with
  | some f =>
    rw [h15, if_neg (show ¬ oI (some f) = -9 from nI_ne9 (by have := hf f rfl; omega)), bad]
    unfold b_X8_figure_72
    rw [lt_e]
    refine ⟨_, rfl, Fz.w (Or.inr rfl), by rw [wI_nj (by decide)]; exact h14, wI_eq⟩
  | none =>
    rw [h15, if_pos (show oI none = -9 from rfl), h13, h14]
    unfold fgr
    by_cases c : p < n
    · obtain ⟨l1, l2⟩ := hl p c
      rw [if_neg (nI_ge c (by omega)), rd_nI (by omega) (by omega), l1]
      have e : okf n T p lo hi b = decide (lo + b ≤ T p ∧ T p ≤ hi + b) := by unfold okf; simp [c]
      rw [e]
      unfold b_X8_figure_36
      rw [in_i, cl_in]
      simp only [sub_rng l2 hb (show lo < 1000 by omega) (show hi < 1000 by omega)]
      by_cases q : lo + b ≤ T p ∧ T p ≤ hi + b
      · rw [if_pos q, h14, lt_e, nI_1, pk_sub (by omega)]
        simp only [q, and_self, decide_true, if_true]
        exact ⟨_, rfl, Fz.w (Or.inl rfl), wI_eq, by rw [wI_nj (by decide)]; exact h15⟩
      · rw [if_neg q, h15, if_pos (show oI none = -9 from rfl), h14]
        rw [decide_eq_false q]
        unfold b_X8_figure_72
        exact ⟨_, rfl, Fz.w (Or.inr rfl), by rw [wI_nj (by decide)]; exact h14, wI_eq⟩
    · rw [if_pos (nI_le (by omega) (by omega)), bad, if_pos rfl]
      have e : okf n T p lo hi b = false := by unfold okf; simp [c]
      rw [e]
      unfold b_X8_figure_72
      exact ⟨_, rfl, Fz.w (Or.inr rfl), by rw [wI_nj (by decide)]; exact h14, wI_eq⟩

-- ===== write, wipe, see, unsee, seed, moment, candle, guest =====
theorem nneg_iff {x : Int32} : ¬ x < 0 ↔ 0 ≤ x := Int32.not_lt
theorem cl_in {c : Prop} [Decidable c] {α : Type} {X Y : Option α} : cl (some (if c then (1 : Int32) else 0)) (fun r => if r = 0 then X else Y) = if c then Y else X := by
  by_cases h : c
  · rw [if_pos h, if_pos h]; rfl
  · rw [if_neg h, if_neg h]; rfl
theorem st_write {σ τ : ES} (hR : Rel σ τ) (a0 : Int32) : ∃ (r : Int32) (σ' : ES) (τ' : ES), e_X7_write_0 a0 σ = some (r, σ') ∧ e_X8_write a0 τ = some (r, τ') ∧ Rel σ' τ' := by
  obtain ⟨⟨n, T, hn, h1, h2, h3⟩, hX, hD, P, β, hM⟩ := id hR
  unfold e_X7_write_0 b_X7_write_0_0 e_X8_write b_X8_write_0 e_X6_append_1 b_X6_append_1_0
  rw [in_0h a0 (h := 255) (by decide), cl_in]
  by_cases c0 : a0 < 0
  · rw [if_pos c0, if_neg (fun q : 0 ≤ a0 ∧ a0 ≤ 255 => nneg_iff.mpr q.1 c0)]
    exact ⟨_, _, _, rfl, rfl, hR⟩
  · rw [if_neg c0]
    by_cases c1 : a0 ≤ 255
    · rw [if_pos c1, if_pos (And.intro (nneg_iff.mp c0) c1), h1, h2]
      obtain ⟨v, hv, rfl⟩ := nI_of2 (M := 255) (n := 255) rfl c0 c1
      by_cases c2 : n = 64
      · subst c2
        rw [if_neg (show ¬ nI 64 < 64 by decide), if_pos (show nI 64 = 64 by decide)]
        exact ⟨_, _, _, rfl, rfl, hR⟩
      · have hlt : n < 64 := by omega
        refine ⟨nI (n + 1), wI (wI σ 2 n (nI v)) 1 1 (nI (n + 1)), wI (wI τ 10 n (nI v)) 0 13 (nI (n + 1)), ?_, ?_, ?_⟩
        · rw [il64, if_pos (nI_lt hlt (by omega)), wr_nI hlt (by omega), lt_e]
          have e1 : (wI σ 2 n (nI v)).1 1 1 = nI n := h1
          rw [e1, il1, nI_add]; rfl
        · rw [il64, if_neg (fun q => c2 ((nI_eq (by omega) (by omega)).mp q)), wr_nI hlt (by omega), lt_e]
          have e1 : (wI τ 10 n (nI v)).1 0 13 = nI n := h2
          rw [e1, il1, nI_add]; rfl
        · refine ⟨⟨n + 1, fun j => if j = n then v else T j, by omega, rfl, rfl, fun j hj => ?_⟩, hX.c rfl rfl rfl rfl, hD, P, β, hM.c ?_ ?_ ?_⟩
          · by_cases e : j = n
            · subst e
              refine ⟨?_, ?_, ?_⟩
              · show (wI σ 2 j (nI v)).1 2 j = _
                rw [wI_eq]; simp
              · show (wI τ 10 j (nI v)).1 10 j = _
                rw [wI_eq]; simp
              · simp; omega
            · obtain ⟨g1, g2, g3⟩ := h3 j (by omega)
              refine ⟨?_, ?_, ?_⟩
              · show (wI σ 2 n (nI v)).1 2 j = _
                rw [wI_nj e, g1]; simp [e]
              · show (wI τ 10 n (nI v)).1 10 j = _
                rw [wI_nj e, g2]; simp [e]
              · simp [e]; exact g3
          · intro k hk
            rw [wI_nk (by omega), wI_nk (by omega)]
          · intro j hj
            rw [wI_nj (by omega), wI_nk (by decide)]
          · intro k hk
            rw [wI_nk (by omega), wI_nk (by omega)]
    · rw [if_neg c1, if_neg (fun q => c1 (And.right q))]
      exact ⟨_, _, _, rfl, rfl, hR⟩
theorem st_wipe {σ τ : ES} (hR : Rel σ τ)  : ∃ (r : Int32) (σ' : ES) (τ' : ES), e_X7_wipe_0  σ = some (r, σ') ∧ e_X8_wipe  τ = some (r, τ') ∧ Rel σ' τ' := by
  obtain ⟨⟨n, T, hn, h1, h2, h3⟩, hX, hD, P, β, hM⟩ := id hR
  unfold e_X7_wipe_0 b_X7_wipe_0_0 e_X8_wipe b_X8_wipe_0 e_X6_clear_1 b_X6_clear_1_0
  rw [h1, h2]
  refine ⟨_, _, _, rfl, rfl, ⟨0, T, by omega, rfl, rfl, fun j hj => by omega⟩, hX.c rfl rfl rfl rfl, hD, P, β, hM.c ?_ ?_ ?_⟩
  · intro k hk; rw [wI_nk (by omega)]
  · intro j hj; rw [wI_nj (by omega)]
  · intro k hk; rw [wI_nk (by omega)]
theorem st_see {σ τ : ES} (hR : Rel σ τ) (a0 : Int32) : ∃ (r : Int32) (σ' : ES) (τ' : ES), e_X7_see_0 a0 σ = some (r, σ') ∧ e_X8_see a0 τ = some (r, τ') ∧ Rel σ' τ' := by
  obtain ⟨hT, ⟨n, B, hn, h1, h2, h3⟩, hD, P, β, hM⟩ := id hR
  unfold e_X7_see_0 b_X7_see_0_0 e_X8_see b_X8_see_0 e_X1_add_24 b_X1_add_24_0
  rw [in_0h a0 (h := 4) (by decide), cl_in]
  by_cases c0 : a0 < 0
  · rw [if_pos c0, if_neg (fun q : 0 ≤ a0 ∧ a0 ≤ 4 => nneg_iff.mpr q.1 c0)]
    exact ⟨_, _, _, rfl, rfl, hR⟩
  · rw [if_neg c0]
    by_cases c1 : a0 ≤ 4
    · rw [if_pos c1, if_pos (And.intro (nneg_iff.mp c0) c1), h1, h2]
      obtain ⟨v, hv, rfl⟩ := nI_of2 (M := 4) (n := 4) rfl c0 c1
      by_cases c2 : n = 6
      · subst c2
        rw [if_neg (show ¬ nI 6 < 6 by decide), if_pos (show nI 6 = 6 by decide)]
        exact ⟨_, _, _, rfl, rfl, hR⟩
      · have hlt : n < 6 := by omega
        refine ⟨nI (n + 1), wI (wI σ 25 n (nI v)) 24 1 (nI (n + 1)), wI (wI τ 18 n (nI v)) 0 28 (nI (n + 1)), ?_, ?_, ?_⟩
        · rw [il6, if_pos (nI_lt hlt (by omega)), wr_nI hlt (by omega), lt_e]
          have e1 : (wI σ 25 n (nI v)).1 24 1 = nI n := h1
          rw [e1, il1, nI_add]; rfl
        · rw [il6, if_neg (fun q => c2 ((nI_eq (by omega) (by omega)).mp q)), wr_nI hlt (by omega), lt_e]
          have e1 : (wI τ 18 n (nI v)).1 0 28 = nI n := h2
          rw [e1, il1, nI_add]; rfl
        · refine ⟨hT.c rfl rfl rfl rfl, ⟨n + 1, fun j => if j = n then v else B j, by omega, rfl, rfl, fun j hj => ?_⟩, hD, P, β, hM.c ?_ ?_ ?_⟩
          · by_cases e : j = n
            · subst e
              refine ⟨?_, ?_, ?_⟩
              · show (wI σ 25 j (nI v)).1 25 j = _
                rw [wI_eq]; simp
              · show (wI τ 18 j (nI v)).1 18 j = _
                rw [wI_eq]; simp
              · simp; omega
            · obtain ⟨g1, g2, g3⟩ := h3 j (by omega)
              refine ⟨?_, ?_, ?_⟩
              · show (wI σ 25 n (nI v)).1 25 j = _
                rw [wI_nj e, g1]; simp [e]
              · show (wI τ 18 n (nI v)).1 18 j = _
                rw [wI_nj e, g2]; simp [e]
              · simp [e]; exact g3
          · intro k hk
            rw [wI_nk (by omega), wI_nk (by omega)]
          · intro j hj
            rw [wI_nj (by omega), wI_nk (by decide)]
          · intro k hk
            rw [wI_nk (by omega), wI_nk (by omega)]
    · rw [if_neg c1, if_neg (fun q => c1 (And.right q))]
      exact ⟨_, _, _, rfl, rfl, hR⟩
theorem st_unsee {σ τ : ES} (hR : Rel σ τ)  : ∃ (r : Int32) (σ' : ES) (τ' : ES), e_X7_unsee_0  σ = some (r, σ') ∧ e_X8_unsee  τ = some (r, τ') ∧ Rel σ' τ' := by
  obtain ⟨hT, ⟨n, B, hn, h1, h2, h3⟩, hD, P, β, hM⟩ := id hR
  unfold e_X7_unsee_0 b_X7_unsee_0_0 e_X8_unsee b_X8_unsee_0 e_X1_clear_24 b_X1_clear_24_0
  rw [h1, h2]
  refine ⟨_, _, _, rfl, rfl, hT.c rfl rfl rfl rfl, ⟨0, B, by omega, rfl, rfl, fun j hj => by omega⟩, hD, P, β, hM.c ?_ ?_ ?_⟩
  · intro k hk; rw [wI_nk (by omega)]
  · intro j hj; rw [wI_nj (by omega)]
  · intro k hk; rw [wI_nk (by omega)]
theorem st_seed {σ τ : ES} (hR : Rel σ τ) (a0 : Int64) : ∃ (r : Int64) (σ' : ES) (τ' : ES), e_X7_seed_0 a0 σ = some (r, σ') ∧ e_X8_seed a0 τ = some (r, τ') ∧ Rel σ' τ' := by
  obtain ⟨hT, hX, hD, P, β, hM⟩ := id hR
  unfold e_X7_seed_0 b_X7_seed_0_0 e_X8_seed b_X8_seed_0
  have e : σ.2 0 11 = τ.2 0 31 := hD
  rw [e]
  refine ⟨_, _, _, rfl, rfl, hT.c rfl rfl rfl rfl, hX.c rfl rfl rfl rfl, rfl, P, β, hM.c (fun _ _ => rfl) (fun _ _ => rfl) (fun _ _ => rfl)⟩
-- of an int and a bound
theorem lt_cases (x : Int32) {n : Nat} (hn : n < 2 ^ 31) : (x < 0 ∨ (¬ x < 0 ∧ nI n ≤ x)) ∨ ∃ j, j < n ∧ x = nI j := by
  rcases pk_ix x hn with h | h | ⟨j, h1, h2⟩
  · exact Or.inl (Or.inl h)
  · by_cases c : x < 0
    · exact Or.inl (Or.inl c)
    · exact Or.inl (Or.inr ⟨c, h⟩)
  · exact Or.inr ⟨j, h1, h2⟩
theorem le_pred {x : Int32} {n : Nat} (hn : n < 2 ^ 30) : x ≤ nI n - 1 ↔ x < nI n := by
  have e : (nI n - (1 : Int32)).toInt = (n : Int) - 1 := pk_sub_toInt (a := n) (b := 1) hn (by omega)
  rw [Int32.le_iff_toInt_le, Int32.lt_iff_toInt_lt, e, nI_toInt (by omega)]
  omega
/-- the reference's isCandle, isGuest and the like -/
theorem in_pred (x : Int32) {n : Nat} (hn : n < 2 ^ 30) : e_X8_in x.toInt64 0 ((nI n - 1).toInt64) = some (if 0 ≤ x ∧ x < nI n then 1 else 0) := by
  rw [in_0h x rfl]; simp only [le_pred hn]
theorem has_out {x : Int32} {n : Nat} (h : x < 0 ∨ (¬ x < 0 ∧ nI n ≤ x)) : ¬ (0 ≤ x ∧ x < nI n) := by
  rintro ⟨h1, h2⟩
  rcases h with h | ⟨-, h⟩
  · exact nneg_iff.mpr h1 h
  · exact Int32.not_lt.mpr h h2
theorem has_in {j n : Nat} (h : j < n) (hn : n < 2 ^ 31) : 0 ≤ nI j ∧ nI j < nI n := ⟨nI_pos' (by omega), nI_lt h hn⟩
theorem if_out {α : Type} {x : Int32} {n : Nat} {a b : α} (h : x < 0 ∨ (¬ x < 0 ∧ nI n ≤ x)) : (if x < 0 then a else if nI n ≤ x then a else b) = a := by
  rcases h with h | ⟨h1, h2⟩
  · rw [if_pos h]
  · rw [if_neg h1, if_pos h2]
theorem if_in {α : Type} {j n : Nat} {a b : α} (h : j < n) (hn : n < 2 ^ 31) : (if nI j < 0 then a else if nI n ≤ nI j then a else b) = b := by
  rw [if_neg (nI_pos (by omega)), if_neg (nI_ge h hn)]
theorem xhasC_out {σ : ES} {x : Int32} {n : Nat} (e : σ.1 30 9 = nI n) (h : x < 0 ∨ (¬ x < 0 ∧ nI n ≤ x)) : e_X3_hasCandle_30 x σ = some 0 := by
  unfold e_X3_hasCandle_30 b_X3_hasCandle_30_0; rw [e, if_out h]
theorem xhasC_in {σ : ES} {j n : Nat} (e : σ.1 30 9 = nI n) (h : j < n) (hn : n ≤ 4) : e_X3_hasCandle_30 (nI j) σ = some 1 := by
  unfold e_X3_hasCandle_30 b_X3_hasCandle_30_0; rw [e, if_in h (by omega)]
theorem xhasG_out {σ : ES} {x : Int32} {n : Nat} (e : σ.1 30 10 = nI n) (h : x < 0 ∨ (¬ x < 0 ∧ nI n ≤ x)) : e_X3_hasGuest_30 x σ = some 0 := by
  unfold e_X3_hasGuest_30 b_X3_hasGuest_30_0; rw [e, if_out h]
theorem xhasG_in {σ : ES} {j n : Nat} (e : σ.1 30 10 = nI n) (h : j < n) (hn : n ≤ 4) : e_X3_hasGuest_30 (nI j) σ = some 1 := by
  unfold e_X3_hasGuest_30 b_X3_hasGuest_30_0; rw [e, if_in h (by omega)]
theorem misC_out {τ : ES} {x : Int32} {n : Nat} (e : τ.1 0 1 = nI n) (hn : n ≤ 4) (h : x < 0 ∨ (¬ x < 0 ∧ nI n ≤ x)) : e_X8_isCandle x τ = some 0 := by
  unfold e_X8_isCandle b_X8_isCandle_0; rw [e, in_pred x (by omega), if_neg (has_out h)]; rfl
theorem misC_in {τ : ES} {j n : Nat} (e : τ.1 0 1 = nI n) (hn : n ≤ 4) (h : j < n) : e_X8_isCandle (nI j) τ = some 1 := by
  unfold e_X8_isCandle b_X8_isCandle_0; rw [e, in_pred _ (by omega), if_pos (has_in h (by omega))]; rfl
theorem misG_out {τ : ES} {x : Int32} {n : Nat} (e : τ.1 0 2 = nI n) (hn : n ≤ 4) (h : x < 0 ∨ (¬ x < 0 ∧ nI n ≤ x)) : e_X8_isGuest x τ = some 0 := by
  unfold e_X8_isGuest b_X8_isGuest_0; rw [e, in_pred x (by omega), if_neg (has_out h)]; rfl
theorem misG_in {τ : ES} {j n : Nat} (e : τ.1 0 2 = nI n) (hn : n ≤ 4) (h : j < n) : e_X8_isGuest (nI j) τ = some 1 := by
  unfold e_X8_isGuest b_X8_isGuest_0; rw [e, in_pred _ (by omega), if_pos (has_in h (by omega))]; rfl
theorem xgift_in {σ : ES} {P : Nat → Nat → Nat} (hW : WP P) (hx : XPt σ 30 P) {j : Nat} (h : j < P 0 0) : e_X3_giftAt_30 (nI j) σ = some (nI (P 1 j)) := by
  obtain ⟨w1, -⟩ := hW
  obtain ⟨⟨e1, -, -⟩, e2, -⟩ := hx
  unfold e_X3_giftAt_30 b_X3_giftAt_30_0
  rw [e1, if_in h (by omega), rd_nI (by omega) (by omega)]
  exact congrArg some (e2 j h)
theorem st_moment {σ τ : ES} (hR : Rel σ τ) (a0 : Int32) : ∃ (r : Int32), e_X7_moment_0 a0 σ = some r ∧ e_X8_moment a0 τ = some r := by
  obtain ⟨hT, hX, hD, P, β, hW, hXP, hMP, -⟩ := hR
  unfold e_X7_moment_0 b_X7_moment_0_0 e_X8_moment b_X8_moment_0
  obtain ⟨⟨m1, -, -⟩, m2, -⟩ := hMP
  have w1 := hW.1
  rw [hXP.1.1, m1, in_pred a0 (by omega), cl_in]
  rcases lt_cases a0 (n := P 0 0) (by omega) with h | ⟨j, hj, rfl⟩
  · rw [if_out h, if_neg (has_out h)]
    exact ⟨_, rfl, rfl⟩
  · rw [if_in hj (by omega), if_pos (has_in hj (by omega)), xgift_in hW hXP hj, cl_so, rd_nI (by omega) (by omega), m2 j hj]
    exact ⟨_, rfl, rfl⟩

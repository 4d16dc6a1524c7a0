-- ===== judge =====
theorem il26 : (26 : Int32) = nI 26 := by decide
theorem il35 : (35 : Int32) = nI 35 := by decide
theorem xlic_out {s : ES} {x : Int32} {n : Nat} (e : s.1 30 9 = nI n) (h : x < 0 ∨ (¬ x < 0 ∧ nI n ≤ x)) : e_X2_lightIfCan_8_30 x s = some (0, s) := by
  unfold e_X2_lightIfCan_8_30 b_X2_lightIfCan_8_30_0
  rw [xhasC_out e h, cl_so, if_pos (show (0 : Int32) = 0 from rfl)]
theorem xlic_yes {s : ES} {j n : Nat} (e : s.1 30 9 = nI n) (hn : n ≤ 4) (h : j < n) (h0 : s.1 11 j = nI 0) : e_X2_lightIfCan_8_30 (nI j) s = some (1, wI s 11 j (nI 1)) := by
  unfold e_X2_lightIfCan_8_30 b_X2_lightIfCan_8_30_0
  rw [xhasC_in e h hn, cl_so, if_neg one_ne, rd_nI (by omega) (by omega), h0, if_pos (show nI 0 = 0 from rfl), wr_nI (by omega) (by omega)]
  rfl
theorem xlic_no {s : ES} {j n v : Nat} (e : s.1 30 9 = nI n) (hn : n ≤ 4) (h : j < n) (h0 : s.1 11 j = nI v) (h1 : 0 < v) (h2 : v ≤ 2) : e_X2_lightIfCan_8_30 (nI j) s = some (0, s) := by
  unfold e_X2_lightIfCan_8_30 b_X2_lightIfCan_8_30_0
  rw [xhasC_in e h hn, cl_so, if_neg one_ne, rd_nI (by omega) (by omega), h0, if_neg (nI_ne0 h1 (by omega))]
theorem judge_loop {σ τ : ES} {P : Nat → Nat → Nat} (hW : WP P) (hXP : XPt σ 30 P) (hMP : MPt τ P) {n row : Nat} (hn : n ≤ 8) (hrow : row < 2 ^ 31) : ∀ m i s t β, i + m = n → Tr σ τ s t P β → s.2 = σ.2 → t.2 = τ.2 → ∀ f1 f2, m < f1 → m < f2 → ∃ r s' t' β', b_X7_judge_0_40 f1 (nI n) (nI row) (nI i) s = some (r, s') ∧ b_X8_judge_41 f2 (nI n) (nI row) (nI i) t = some (r, t') ∧ Tr σ τ s' t' P β' ∧ s'.2 = σ.2 ∧ t'.2 = τ.2 := by
  have w2 := hW.2.1
  intro m
  induction m with
  | zero =>
    intro i s t β hi hT hs ht f1 f2 h1 h2
    obtain ⟨k1, rfl⟩ : ∃ k, f1 = k + 1 := ⟨f1 - 1, by omega⟩
    obtain ⟨k2, rfl⟩ : ∃ k, f2 = k + 1 := ⟨f2 - 1, by omega⟩
    rw [b_X7_judge_0_40, b_X8_judge_41, if_pos (nI_le (by omega) (by omega)), if_pos (nI_le (by omega) (by omega))]
    exact ⟨_, s, t, β, rfl, rfl, hT, hs, ht⟩
  | succ m ih =>
    intro i s t β hi hT hs ht f1 f2 h1 h2
    obtain ⟨k1, rfl⟩ : ∃ k, f1 = k + 1 := ⟨f1 - 1, by omega⟩
    obtain ⟨k2, rfl⟩ : ∃ k, f2 = k + 1 := ⟨f2 - 1, by omega⟩
    have go : ∀ s t β, Tr σ τ s t P β → s.2 = σ.2 → t.2 = τ.2 → ∃ r s' t' β', b_X7_judge_0_40 k1 (nI n) (nI row) (nI (i + 1)) s = some (r, s') ∧ b_X8_judge_41 k2 (nI n) (nI row) (nI (i + 1)) t = some (r, t') ∧ Tr σ τ s' t' P β' ∧ s'.2 = σ.2 ∧ t'.2 = τ.2 := fun s t β q1 q2 q3 => ih (i + 1) s t β (by omega) q1 q2 q3 k1 k2 (by omega) (by omega)
    rw [b_X7_judge_0_40, b_X8_judge_41, if_neg (nI_ge (show i < n by omega) (by omega)), if_neg (nI_ge (show i < n by omega) (by omega)), figure_e hrow (by omega) (by omega), cl_so, il1, pk_sub (by omega), pk_sub (by omega), il10, power_e _ _ (by omega), cl_so, dv_nI (p10_pos _) (p10_lt (by omega)), lt_e, rem10 hrow (by omega)]
    have hf := dig_le row (n - 1 - i)
    generalize dig row (n - 1 - i) = f at hf ⊢
    obtain ⟨T1, T2, T3, T4, T5, T6⟩ := id hT
    obtain ⟨x1, x2, x3, x4, x5, x6⟩ := XB_u.mp T5
    obtain ⟨m1, m2, m3, m4, m5, m6⟩ := MR_u.mp T6
    have b17 : β 17 ≤ 20 := T4.2.2
    unfold e_X7_goesWell_0 b_X7_goesWell_0_0 b_X8_judge_116
    simp only [il1, il26, nI_add, lt_e, if_true]
    by_cases c4 : f = 4
    · subst c4
      rw [if_pos (show nI 4 = 4 from rfl), if_pos (show nI 4 = 4 from rfl), x6, il35, rd_nI (by omega) (by omega), show t.1 9 35 = nI (β 17) from m6]
      by_cases c20 : β 17 = 20
      · rw [c20, if_pos (show (20 : Int32) ≤ nI 20 by decide), if_pos (show (20 : Int32) ≤ nI 20 by decide), cs_so, if_pos (show (0 : Int32) = 0 from rfl)]
        exact ⟨_, s, t, β, rfl, rfl, hT, hs, ht⟩
      · have q20 : ¬ (20 : Int32) ≤ nI (β 17) := nI_ge (b := 20) (by omega) (by omega)
        rw [if_neg q20, if_neg q20]
        obtain ⟨s2, t2, u1, u2, u3, u4, u5⟩ := hT.go hW hXP hMP (by omega)
        rw [u1, cs_so, if_neg n1_ne, if_pos (show (4 : Int32) ≤ nI 4 by decide), show e_X8_pass (nI 1) t = _ from u2, cs_so]
        have hlt : who P β < 16 := Nat.lt_of_lt_of_le (bm_lt _ _) (Nat.pow_le_pow_right (by decide) hW.2.2.1)
        by_cases c0 : who P β = 0
        · rw [c0, if_pos (show nI 0 = 0 from rfl), if_pos (show nI 0 = 0 from rfl), cs_so, if_pos (show (0 : Int32) = 0 from rfl)]
          exact ⟨_, s2, t2, _, rfl, rfl, u3, by rw [u4, hs], by rw [u5, ht]⟩
        · have q0 : ¬ nI (who P β) = 0 := nI_ne0 (by omega) (by omega)
          rw [if_neg q0, if_neg q0, cs_so, if_neg n1_ne]
          exact go s2 t2 _ u3 (by rw [u4, hs]) (by rw [u5, ht])
    · have q4 : ¬ nI f = 4 := fun q => c4 ((nI_eq (b := 4) (by omega) (by omega)).mp q)
      have es9 : s.1 30 9 = nI (P 0 1) := by rw [T1 30 (by omega)]; exact hXP.1.2.1
      have et1 : t.1 0 1 = nI (P 0 1) := by rw [T2 0 (by decide)]; exact hMP.1.2.1
      rw [if_neg q4, if_neg q4]
      by_cases cN : f < P 0 1
      · have y3 : s.1 11 f = nI (β (8 + f)) := x3 f cN
        have z3 : t.1 9 (26 + f) = nI (β (8 + f)) := by rw [show 26 + f = 18 + (8 + f) by omega]; exact m3 f cN
        have b := WBc hW T4 cN
        rw [misC_in et1 w2 cN, cl_so, if_neg one_ne, rd_nI (by omega) (by omega), z3]
        by_cases c0 : β (8 + f) = 0
        · rw [c0] at y3
          rw [xlic_yes es9 w2 cN y3, cs_so, bo_1, cs_so, if_neg one_ne, c0, if_pos (show nI 0 = 0 from rfl), if_neg n1_ne, if_neg (show ¬ (4 : Int32) ≤ nI f from nI_ge (b := 4) (by omega) (by omega)), wr_nI (by omega) (by omega)]
          exact go _ _ _ (hT.lit hW cN c0) hs ht
        · rw [xlic_no es9 w2 cN y3 (by omega) (by omega), cs_so, bo_0, cs_so, if_pos (show (0 : Int32) = 0 from rfl), if_neg (nI_ne0 (show 0 < β (8 + f) by omega) (by omega))]
          exact ⟨_, s, t, β, rfl, rfl, hT, hs, ht⟩
      · have ho : nI f < 0 ∨ (¬ nI f < 0 ∧ nI (P 0 1) ≤ nI f) := Or.inr ⟨nI_pos (by omega), nI_le (by omega) (by omega)⟩
        rw [xlic_out es9 ho, cs_so, bo_0, cs_so, if_pos (show (0 : Int32) = 0 from rfl), misC_out et1 w2 ho, cl_so, if_pos (show (0 : Int32) = 0 from rfl)]
        exact ⟨_, s, t, β, rfl, rfl, hT, hs, ht⟩
theorem st_judge {σ τ : ES} (hR : Rel σ τ) (a0 : Int32) (a1 : Int32) : ∃ (r : Int32) (σ' : ES) (τ' : ES), e_X7_judge_0 a0 a1 σ = some (r, σ') ∧ e_X8_judge a0 a1 τ = some (r, τ') ∧ Rel σ' τ' := by
  obtain ⟨hT, hX, hD, P, β, hW, hXP, hMP, hB, hXB, hMB, hA, hS, hG⟩ := id hR
  unfold e_X7_judge_0 b_X7_judge_0_0 e_X8_judge b_X8_judge_0
  rw [in_ll a0 (l := 1) (h := 8) (by decide) (by decide), cl_in]
  by_cases c0 : a0 < 1
  · rw [if_pos c0, if_neg (show ¬ (1 ≤ a0 ∧ a0 ≤ 8) from fun q => Int32.not_lt.mpr q.1 c0)]
    exact ⟨_, _, _, rfl, rfl, hR⟩
  · rw [if_neg c0]
    by_cases c1 : 8 < a0
    · rw [if_pos c1, if_neg (show ¬ (1 ≤ a0 ∧ a0 ≤ 8) from fun q => Int32.not_lt.mpr q.2 c1)]
      exact ⟨_, _, _, rfl, rfl, hR⟩
    · have c1' : a0 ≤ 8 := Int32.not_lt.mp c1
      rw [if_neg c1, if_pos (show 1 ≤ a0 ∧ a0 ≤ 8 from ⟨Int32.not_lt.mp c0, c1'⟩)]
      obtain ⟨n, n1, n2, rfl⟩ := rng (a := 1) (b := 8) (by omega) (by omega) c0 c1'
      rw [il10, power_e _ _ (by omega), cl_so, in_pred a1 (Nat.lt_of_lt_of_le (Nat.pow_lt_pow_right (by decide) (show n < 9 by omega)) (by decide)), cl_in, rt_nI (by omega) (by omega), tens_n n (by omega)]
      rcases lt_cases a1 (n := 10 ^ n) (p10_lt (by omega)) with h | ⟨j, hj, rfl⟩
      · rw [if_neg (has_out h)]
        have : (if a1 < 0 then some ((-2 : Int32), σ) else if a1 < nI (10 ^ n) then (cl (e_X2_copy_8_3 σ) fun σ8 => b_X7_judge_0_40 FU (nI n) a1 0 σ8) else some (-2, σ)) = some (-2, σ) := by
          rcases h with h | ⟨h1, h2⟩
          · rw [if_pos h]
          · rw [if_neg h1, if_neg (Int32.not_lt.mpr h2)]
        rw [this]
        exact ⟨_, _, _, rfl, rfl, hR⟩
      · have hj31 : j < 2 ^ 31 := Nat.lt_trans hj (p10_lt (by omega))
        rw [if_neg (nI_pos hj31), if_pos (nI_lt hj (p10_lt (by omega))), if_pos (has_in hj (p10_lt (by omega)))]
        obtain ⟨s, s1, s2, s3⟩ := xcopy hW hXB
        obtain ⟨t, t1, t2, t3⟩ := mlay hW hMB
        rw [s1, t1, cl_so, cl_so]
        obtain ⟨r, s', t', β', u1, u2, ⟨T1, T2, T3, -⟩, u4, u5⟩ := judge_loop hW hXP hMP n2 hj31 n 0 s t β (by omega) ⟨s2.1, t2.1.1, fun q hq => t2.2 q (by omega), hB, s3, t3⟩ s2.2 t2.1.2 FU FU (by unfold FU; omega) (by unfold FU; omega)
        refine ⟨r, s', t', u1, u2, Rel_trial hR T1 T2 T3 ?_⟩
        rw [u4, u5]; exact hD

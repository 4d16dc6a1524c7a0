-- ===== keep, again =====
theorem st_keep {σ τ : ES} (hR : Rel σ τ) (a0 : Int32) : ∃ (r : Int32) (σ' : ES) (τ' : ES), e_X7_keep_0 a0 σ = some (r, σ') ∧ e_X8_keep a0 τ = some (r, τ') ∧ Rel σ' τ' := by
  obtain ⟨hT, hX, hD, P, β, hW, hXP, hMP, hB, hXB, hMB, hA, hS, hG⟩ := id hR
  unfold e_X7_keep_0 b_X7_keep_0_0 e_X8_keep b_X8_keep_0
  rw [in_0h a0 (h := 1) (by decide), cl_in]
  by_cases c0 : a0 < 0
  · rw [if_pos c0, if_neg (show ¬ (0 ≤ a0 ∧ a0 ≤ 1) from fun q => nneg_iff.mpr q.1 c0)]
    exact ⟨_, _, _, rfl, rfl, hR⟩
  · by_cases c1 : a0 < 2
    · have c1' : a0 ≤ 1 := (le_lt (a := 1) (by omega)).mp c1
      rw [if_neg c0, if_pos c1, if_pos (show 0 ≤ a0 ∧ a0 ≤ 1 from ⟨nneg_iff.mp c0, c1'⟩)]
      obtain ⟨k, hk, rfl⟩ := nI_of2 (M := 1) (n := 1) rfl c0 c1'
      rw [il18, pk_mul, Nat.mul_comm]
      obtain ⟨s, e1, k1, k2, k3⟩ := save28R (σ := σ) (o := 18 * k) (by omega) hW hXB
      rw [e1, cl_so, wr_nI (by omega) (by omega), wr_nI (by omega) (by omega)]
      obtain ⟨t, n, u1, u2⟩ := loop_FU (fun n c (s : ES) => b_X8_keep_21 n (nI k) (nI c) s) (fun c s => Cpy (wI τ 20 k 1) s 9 0 21 (18 * k) c) 18 (by omega) (fun n c s hc hs => ⟨_, hs.step, by
        show b_X8_keep_21 (n + 1) _ _ _ = b_X8_keep_21 n _ _ _
        rw [b_X8_keep_21, il18, if_neg (nI_ge hc (by omega)), pk_mul, nI_add, rd_nI (by omega) (by omega), wr_nI (by omega) (by omega), lt_e, il1, nI_add, hs.1.1 9 (by decide), Nat.zero_add]
        rfl⟩) (wI τ 20 k 1) Cpy.rf
      rw [show (0 : Int32) = nI 0 from rfl, u2, b_X8_keep_21, il18, if_pos (nI_le (by omega) (by omega)), il17, rd_nI (by omega) (by omega), u1.1.1 9 (by decide), wI_nk (show 9 ≠ 20 by decide), (MR0 hMB).2.2.2]
      have e2 : (wI s 29 k 1).1 3 5 = nI (β 17) := by rw [wI_nk (by decide), k1.1 3 (by decide)]; exact (XB3 hXB).2.2.2
      rw [e2]
      have fx : ∀ q, q ≠ 28 → q ≠ 29 → (wI s 29 k 1).1 q = σ.1 q := fun q q1 q2 => by rw [wI_nk q2, k1.1 q q1]
      have fm : ∀ q, q ≠ 20 → q ≠ 21 → t.1 q = τ.1 q := fun q q1 q2 => by rw [u1.1.1 q q2, wI_nk q1]
      refine ⟨_, _, _, rfl, rfl, hT.c (fx _ (by decide) (by decide)) (fx _ (by decide) (by decide)) (by rw [fm 0 (by decide) (by decide)]) (fm _ (by decide) (by decide)), hX.c (fx _ (by decide) (by decide)) (fx _ (by decide) (by decide)) (by rw [fm 0 (by decide) (by decide)]) (fm _ (by decide) (by decide)), hD.c (by rw [wI_2, k1.2]) (by rw [u1.1.2, wI_2]), P, β, hW, hXP.c (fun q q1 q2 => fx q (by omega) (by omega)), hMP.c (fun q q1 q2 => fm q (by omega) (by omega)) (by rw [fm 0 (by decide) (by decide)]) (by rw [fm 0 (by decide) (by decide)]) (by rw [fm 0 (by decide) (by decide)]), hB, hXB.c (fun q q1 q2 => fx q (by omega) (by omega)), by rw [fm 9 (by decide) (by decide)]; exact hMB, hA.w (fun q hq => fx q (by omega) (by omega)) (fun q hq => fm q (by omega) (by omega)), fun i hi => ?_, hG.c (fx _ (by decide) (by decide)) (fx _ (by decide) (by decide)) (fx _ (by decide) (by decide))⟩
      by_cases e : i = k
      · subst e
        right
        refine ⟨?_, ?_, β, hB, ?_, ?_⟩
        · rw [wI_eq]; rfl
        · rw [u1.1.1 20 (by decide), wI_eq]; rfl
        · rw [wI_nk (by decide)]; exact k3
        · exact u1.MR hW (by rw [wI_nk (by decide)]; exact hMB)
      · have hi2 := hS i hi
        rw [wI_nj e, k1.1 29 (by decide), u1.1.1 20 (by decide), wI_nj e, wI_nk (show 28 ≠ 29 by decide)]
        rcases hi2 with h | ⟨h1, h2, b, h3, h4, h5⟩
        · exact Or.inl h
        · refine Or.inr ⟨h1, h2, b, h3, h4.c hW (fun q q1 q2 => k2 q (by omega)), h5.c hW (fun q q1 q2 => ?_)⟩
          rw [u1.2.1 q (by omega), wI_nk (by decide)]
    · rw [if_neg c0, if_neg c1, if_neg (show ¬ (0 ≤ a0 ∧ a0 ≤ 1) from fun q => c1 ((le_lt (a := 1) (by omega)).mpr q.2))]
      exact ⟨_, _, _, rfl, rfl, hR⟩
theorem st_again {σ τ : ES} (hR : Rel σ τ) (a0 : Int32) : ∃ (r : Int32) (σ' : ES) (τ' : ES), e_X7_again_0 a0 σ = some (r, σ') ∧ e_X8_again a0 τ = some (r, τ') ∧ Rel σ' τ' := by
  obtain ⟨hT, hX, hD, P, β, hW, hXP, hMP, hB, hXB, hMB, hA, hS, hG⟩ := id hR
  unfold e_X7_again_0 b_X7_again_0_0 e_X8_again b_X8_again_0 e_X0_clear_13 b_X0_clear_13_0
  rw [in_0h a0 (h := 1) (by decide), cl_in]
  by_cases c0 : a0 < 0
  · rw [if_pos c0, if_neg (show ¬ (0 ≤ a0 ∧ a0 ≤ 1) from fun q => nneg_iff.mpr q.1 c0)]
    exact ⟨_, _, _, rfl, rfl, hR⟩
  · by_cases c1 : a0 < 2
    · have c1' : a0 ≤ 1 := (le_lt (a := 1) (by omega)).mp c1
      rw [if_neg c0, if_pos c1, if_pos (show 0 ≤ a0 ∧ a0 ≤ 1 from ⟨nneg_iff.mp c0, c1'⟩)]
      obtain ⟨k, hk, rfl⟩ := nI_of2 (M := 1) (n := 1) rfl c0 c1'
      rw [rd_nI (k := 29) (by omega) (by omega), rd_nI (k := 20) (by omega) (by omega)]
      rcases hS k (by omega) with ⟨h1, h2⟩ | ⟨h1, h2, β2, b1, b2, b3⟩
      · rw [h1, h2, if_pos (show nI 0 = 0 from rfl), if_pos (show nI 0 = 0 from rfl)]
        exact ⟨_, _, _, rfl, rfl, hR⟩
      · rw [h1, h2, if_neg n1_ne, if_neg n1_ne, il18, pk_mul, Nat.mul_comm]
        obtain ⟨s, l1, l2, l3, l4⟩ := load28R (σ := σ) (o := 18 * k) (by omega) hW b2
        rw [l1, cl_so]
        simp only [lt_e, cl_so]
        obtain ⟨t, n, u1, u2⟩ := loop_FU (fun n c (s : ES) => b_X8_again_26 n (nI k) (nI c) s) (fun c s => Cpy τ s 21 (18 * k) 9 0 c) 18 (by omega) (fun n c s hc hs => ⟨_, hs.step, by
          show b_X8_again_26 (n + 1) _ _ _ = b_X8_again_26 n _ _ _
          rw [b_X8_again_26, il18, if_neg (nI_ge hc (by omega)), pk_mul, nI_add, rd_nI (by omega) (by omega), wr_nI (by omega) (by omega), lt_e, il1, nI_add, hs.1.1 21 (by decide), Nat.zero_add]⟩) τ Cpy.rf
        have m2 : MR (t.1 9) 0 P β2 := u1.MR hW b3
        rw [show b_X8_again_26 FU (nI k) 0 τ = b_X8_again_26 (n + 1) (nI k) (nI 18) t from u2, b_X8_again_26, il18, if_pos (nI_le (by omega) (by omega)), lt_e, il17, rd_nI (by omega) (by omega), wI_nk (show 9 ≠ 0 by decide), (MR0 m2).2.2.2]
        have e2 : (wI (wI (wI s 13 1 0) 13 2 0) 15 11 0).1 3 5 = nI (β2 17) := by rw [wI_nk (by decide), wI_nk (by decide), wI_nk (by decide)]; exact (XB3 l4).2.2.2
        rw [e2]
        have fx : ∀ q, (q < 3 ∨ 7 < q) → q ≠ 13 → q ≠ 15 → (wI (wI (wI s 13 1 0) 13 2 0) 15 11 0).1 q = σ.1 q := fun q q1 q2 q3 => by rw [wI_nk q3, wI_nk q2, wI_nk q2, l2 q q1]
        refine ⟨_, _, _, rfl, rfl, Rel_act (β' := β2) hT hX hD hW hXP hMP hS (fun q hq => fx q (by omega) (by omega) (by omega)) l3 (fun q q1 q2 q3 => ?_) (fun q q1 q2 => ?_) (by rw [wI_2, u1.1.2]) b1 (l4.c (fun q q1 q2 => by rw [wI_nk (by omega), wI_nk (by omega), wI_nk (by omega)])) (by rw [wI_nk (by decide)]; exact m2) ?_ (by rw [wI_eq]; rfl)⟩
        · rw [wI_nk q1, u1.1.1 q q2]
        · rw [wI_nj q1, u1.1.1 0 (by decide)]
        · obtain ⟨a, f, x, ⟨ha, hf, hx⟩, ⟨h1, h2, h3, h4⟩, h5⟩ := hA
          refine ⟨0, 0, x, ⟨by omega, by omega, hx⟩, ⟨?_, ?_, ?_, ?_⟩, fun i hi => by omega⟩
          · rw [wI_nk (by decide), wI_eq]; rfl
          · rw [wI_nk (by decide), wI_nj (by decide), wI_eq]; rfl
          · rw [wI_eq]; rfl
          · rw [wI_nj (by decide), u1.1.1 0 (by decide), h4]
    · rw [if_neg c0, if_neg c1, if_neg (show ¬ (0 ≤ a0 ∧ a0 ≤ 1) from fun q => c1 ((le_lt (a := 1) (by omega)).mpr q.2))]
      exact ⟨_, _, _, rfl, rfl, hR⟩

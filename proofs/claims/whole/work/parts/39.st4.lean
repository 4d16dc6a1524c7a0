-- ===== trim, undo, keep, again =====
theorem le_lt {x : Int32} {a : Nat} (ha : a < 2 ^ 30) : x < nI (a + 1) ↔ x ≤ nI a := by
  rw [Int32.lt_iff_toInt_lt, Int32.le_iff_toInt_le, nI_toInt (by omega), nI_toInt (by omega)]
  omega
theorem lt1_iff {x : Int32} {a : Nat} (ha : a < 2 ^ 30) : x < nI a ↔ ¬ nI a ≤ x := Int32.not_le.symm
theorem rng {x : Int32} {a b : Nat} (ha : a < 2 ^ 30) (hb : b < 2 ^ 30) (h1 : ¬ x < nI a) (h2 : x ≤ nI b) : ∃ k, a ≤ k ∧ k ≤ b ∧ x = nI k := by
  have h1' : nI a ≤ x := Int32.not_lt.mp h1
  rw [Int32.le_iff_toInt_le, nI_toInt (by omega)] at h1' h2
  have : ¬ x < 0 := by
    rw [Int32.lt_iff_toInt_lt]
    have e : (0 : Int32).toInt = 0 := rfl
    omega
  obtain ⟨k, hk, rfl⟩ := nI_of this
  rw [nI_toInt hk] at h1' h2
  exact ⟨k, by omega, by omega, rfl⟩
theorem st_trim {σ τ : ES} (hR : Rel σ τ) (a0 : Int32) (a1 : Int32) : ∃ (r : Int32) (σ' : ES) (τ' : ES), e_X7_trim_0 a0 a1 σ = some (r, σ') ∧ e_X8_trim a0 a1 τ = some (r, τ') ∧ Rel σ' τ' := by
  obtain ⟨hT, hX, hD, P, β, hW, hXP, hMP, hB, hXB, hMB, hA, hS, hG⟩ := id hR
  have w2 := hW.2.1
  have w3 := hW.2.2.1
  unfold e_X7_trim_0 b_X7_trim_0_0 e_X8_trim b_X8_trim_0
  rcases lt_cases a0 (n := P 0 1) (by omega) with h | ⟨j, hj, rfl⟩
  · rw [xhasC_out hXP.1.2.1 h, misC_out hMP.1.2.1 w2 h]
    exact ⟨_, _, _, rfl, rfl, hR⟩
  · rw [xhasC_in hXP.1.2.1 hj w2, misC_in hMP.1.2.1 w2 hj]
    obtain ⟨x1, x2, x3⟩ := (XB3 hXB).1 j hj
    obtain ⟨m1, m2, m3⟩ := (MR0 hMB).1 j hj
    have b := WBc hW hB hj
    simp only [cl_so, if_neg one_ne]
    rw [in_ll a1 (l := 1) (h := 5) (by decide) (by decide), cl_in]
    by_cases c0 : a1 < 1
    · rw [if_pos c0, if_neg (show ¬ (1 ≤ a1 ∧ a1 ≤ 5) from fun q => Int32.not_lt.mpr q.1 c0)]
      exact ⟨_, _, _, rfl, rfl, hR⟩
    · by_cases c1 : a1 < 6
      · have c1' : a1 ≤ 5 := (le_lt (a := 5) (by omega)).mp c1
        rw [if_neg c0, if_pos c1, if_pos (show 1 ≤ a1 ∧ a1 ≤ 5 from ⟨Int32.not_lt.mp c0, c1'⟩)]
        obtain ⟨k, k1, k2, rfl⟩ := rng (a := 1) (b := 5) (by omega) (by omega) c0 c1'
        simp only [il8, il4, nI_add]
        rw [rd_nI (k := 6) (show j < 4 by omega) (by omega), rd_nI (k := 9) (show 8 + j < 72 by omega) (by omega), x3, m3]
        by_cases cz : β (8 + j) = 0
        · rw [cz, if_pos (show nI 0 = 0 from rfl), if_pos (show nI 0 = 0 from rfl), rd_nI (k := 5) (show j < 4 by omega) (by omega), rd_nI (k := 9) (show 4 + j < 72 by omega) (by omega), x2, m2]
          by_cases c3 : k < β (4 + j)
          · have c4 : nI k < nI (β (4 + j)) := nI_lt c3 (by omega)
            rw [if_pos c4, if_pos c4]
            obtain ⟨s, t, e1, e2, ⟨f1, f2⟩, ⟨g1, g2, g3⟩, hA2, hF⟩ := remember hA hW hB hXB hMB
            rw [e1, e2, cl_so, cl_so]
            rw [rd_nI (show j < 4 by omega) (by omega), rd_nI (show j < 72 by omega) (by omega), f1 4 (by decide) (by decide) (by decide), g1 9 (by decide) (by decide), x1, m1, nI_add]
            rw [wr_nI (show j < 4 by omega) (by omega), wr_nI (show j < 72 by omega) (by omega), rd_nI (show j < 4 by omega) (by omega), rd_nI (show 4 + j < 72 by omega) (by omega)]
            rw [wI_nk (show 5 ≠ 4 by decide), f1 5 (by decide) (by decide) (by decide), wI_nj (show 4 + j ≠ j by omega), g1 9 (by decide) (by decide), x2, m2, pk_sub (by omega)]
            rw [wr_nI (show j < 4 by omega) (by omega), wr_nI (show 4 + j < 72 by omega) (by omega), rd_nI (show j < 4 by omega) (by omega), rd_nI (show 4 + j < 72 by omega) (by omega), wI_eq, wI_eq]
            obtain ⟨b1, b2, b3⟩ := hB
            have hB2 : WB P (un (un β j (β j + k)) (4 + j) (β (4 + j) - k)) := by
              refine ⟨fun c hc => ?_, fun g hg => ?_, ?_⟩
              · obtain ⟨c1, c2, c3, c4⟩ := b1 c hc
                by_cases e : c = j
                · subst e
                  rw [un_ne (show c ≠ 4 + c by omega), un_eq, un_eq, un_ne (show 8 + c ≠ 4 + c by omega), un_ne (show 8 + c ≠ c by omega)]
                  refine ⟨?_, ?_, ?_, ?_⟩ <;> omega
                · rw [un_ne (show c ≠ 4 + j by omega), un_ne e, un_ne (show 4 + c ≠ 4 + j by omega), un_ne (show 4 + c ≠ j by omega), un_ne (show 8 + c ≠ 4 + j by omega), un_ne (show 8 + c ≠ j by omega)]
                  exact ⟨c1, c2, c3, c4⟩
              · rw [un_ne (by omega), un_ne (by omega), un_ne (by omega), un_ne (by omega)]; exact b2 g hg
              · rw [un_ne (by omega), un_ne (by omega)]; exact b3
            have hX2 : XB (wI (wI s 4 j (nI (β j + k))) 5 j (nI (β (4 + j) - k))) 3 P (un (un β j (β j + k)) (4 + j) (β (4 + j) - k)) := by
              obtain ⟨d1, d2, d3, d4⟩ := XB3 hXB
              refine ⟨fun c hc => ?_, fun g hg => ?_, ?_, ?_⟩
              · obtain ⟨c1, c2, c3⟩ := d1 c hc
                refine ⟨?_, ?_, ?_⟩
                · show (wI (wI s 4 j _) 5 j _).1 4 c = _
                  rw [wI_nk (by decide), un_ne (show c ≠ 4 + j by omega)]
                  by_cases e : c = j
                  · subst e; rw [wI_eq, un_eq]
                  · rw [wI_nj e, un_ne e, f1 4 (by decide) (by decide) (by decide)]; exact c1
                · show (wI (wI s 4 j _) 5 j _).1 5 c = _
                  by_cases e : c = j
                  · subst e; rw [wI_eq, un_eq]
                  · rw [wI_nj e, wI_nk (by decide), un_ne (show 4 + c ≠ 4 + j by omega), un_ne (show 4 + c ≠ j by omega), f1 5 (by decide) (by decide) (by decide)]; exact c2
                · show (wI (wI s 4 j _) 5 j _).1 6 c = _
                  rw [wI_nk (by decide), wI_nk (by decide), un_ne (show 8 + c ≠ 4 + j by omega), un_ne (show 8 + c ≠ j by omega), f1 6 (by decide) (by decide) (by decide)]; exact c3
              · show (wI (wI s 4 j _) 5 j _).1 7 g = _
                rw [wI_nk (by decide), wI_nk (by decide), un_ne (by omega), un_ne (by omega), f1 7 (by decide) (by decide) (by decide)]; exact d2 g hg
              · rw [wI_nk (by decide), wI_nk (by decide), un_ne (by omega), un_ne (by omega), f1 3 (by decide) (by decide) (by decide)]; exact d3
              · rw [wI_nk (by decide), wI_nk (by decide), un_ne (by omega), un_ne (by omega), f1 3 (by decide) (by decide) (by decide)]; exact d4
            have hM2 : MR ((wI (wI t 9 j (nI (β j + k))) 9 (4 + j) (nI (β (4 + j) - k))).1 9) 0 P (un (un β j (β j + k)) (4 + j) (β (4 + j) - k)) := by
              obtain ⟨d1, d2, d3, d4⟩ := MR0 hMB
              unfold MR
              simp only [Nat.zero_add]
              refine ⟨fun c hc => ?_, fun g hg => ?_, ?_, ?_⟩
              · obtain ⟨c1, c2, c3⟩ := d1 c hc
                refine ⟨?_, ?_, ?_⟩
                · rw [wI_nj (by omega), un_ne (show c ≠ 4 + j by omega)]
                  by_cases e : c = j
                  · subst e; rw [wI_eq, un_eq]
                  · rw [wI_nj e, un_ne e, g1 9 (by decide) (by decide)]; exact c1
                · by_cases e : c = j
                  · subst e; rw [wI_eq, un_eq]
                  · rw [wI_nj (by omega), wI_nj (by omega), un_ne (show 4 + c ≠ 4 + j by omega), un_ne (show 4 + c ≠ j by omega), g1 9 (by decide) (by decide)]; exact c2
                · rw [wI_nj (by omega), wI_nj (by omega), un_ne (show 8 + c ≠ 4 + j by omega), un_ne (show 8 + c ≠ j by omega), g1 9 (by decide) (by decide)]; exact c3
              · rw [wI_nj (by omega), wI_nj (by omega), un_ne (by omega), un_ne (by omega), g1 9 (by decide) (by decide)]; exact d2 g hg
              · rw [wI_nj (by omega), wI_nj (by omega), un_ne (by omega), un_ne (by omega), g1 9 (by decide) (by decide)]; exact d3
              · rw [wI_nj (by omega), wI_nj (by omega), un_ne (by omega), un_ne (by omega), g1 9 (by decide) (by decide)]; exact d4
            refine ⟨_, _, _, rfl, rfl, Rel_act hT hX hD hW hXP hMP hS (fun k hk => ?_) f2 (fun k q1 q2 q3 => ?_) (fun k q1 q2 => ?_) g2 hB2 hX2 hM2 (hA2.w (fun k hk => by rw [wI_nk (by omega), wI_nk (by omega)]) (fun k hk => by rw [wI_nk (by omega), wI_nk (by omega)])) (by rw [wI_nk (by decide), wI_nk (by decide)]; exact hF)⟩
            · rw [wI_nk (by omega), wI_nk (by omega), f1 k (by omega) (by omega) (by omega)]
            · rw [wI_nk q2, wI_nk q2, g1 k q1 q3]
            · rw [wI_nk (by decide), wI_nk (by decide), g3 k q1 q2]
          · have c4 : ¬ nI k < nI (β (4 + j)) := nI_nlt (by omega) (by omega)
            rw [if_neg c4, if_neg c4]
            exact ⟨_, _, _, rfl, rfl, hR⟩
        · have c2 : ¬ nI (β (8 + j)) = 0 := nI_ne0 (by omega) (by omega)
          rw [if_neg c2, if_neg c2]
          exact ⟨_, _, _, rfl, rfl, hR⟩
      · rw [if_neg c0, if_neg c1, if_neg (show ¬ (1 ≤ a1 ∧ a1 ≤ 5) from fun q => c1 ((le_lt (a := 5) (by omega)).mpr q.2))]
        exact ⟨_, _, _, rfl, rfl, hR⟩
theorem st_undo {σ τ : ES} (hR : Rel σ τ)  : ∃ (r : Int32) (σ' : ES) (τ' : ES), e_X7_undo_0  σ = some (r, σ') ∧ e_X8_undo  τ = some (r, τ') ∧ Rel σ' τ' := by
  obtain ⟨hT, hX, hD, P, β, hW, hXP, hMP, hB, hXB, hMB, hA, hS, hG⟩ := id hR
  obtain ⟨a, f, x, ⟨ha, hf, hx⟩, ⟨h1, h2, h3, h4⟩, h5⟩ := hA
  unfold e_X7_undo_0 b_X7_undo_0_0 e_X8_undo b_X8_undo_0 e_X0_takeBack_13_3 b_X0_takeBack_13_3_0
  rw [h1, h3]
  by_cases c : a = 0
  · subst c
    rw [if_pos (show nI 0 = 0 from rfl), if_pos (show nI 0 = 0 from rfl)]
    exact ⟨_, _, _, rfl, rfl, hR⟩
  · have c2 : ¬ nI a = 0 := nI_ne0 (by omega) (by omega)
    rw [if_neg c2, if_neg c2, if_neg (show ¬ nI a ≤ 0 from nI_nle (by omega) (by omega)), il1, pk_sub (by omega), lt_e, lt_e]
    have e1 : (wI σ 13 2 (nI (a - 1))).1 13 1 = nI f := by rw [wI_nj (by decide), h2]
    have e2 : (wI τ 0 22 (nI (a - 1))).1 0 23 = nI x := by rw [wI_nj (by decide), h4]
    rw [e1, e2, wI_eq, nI_add, il16, pk_rem (by omega) (by omega) (by omega), il18, pk_mul, il15, nI_add, pk_rem (by omega) (by omega) (by omega), lt_e, Nat.mul_comm _ 18]
    obtain ⟨β2, b1, b2, b3⟩ := h5 (a - 1) (by omega)
    obtain ⟨s, l1, l2, l3, l4⟩ := load14R (σ := wI σ 13 2 (nI (a - 1))) (o := 18 * ((f + (a - 1)) % 16)) (by omega) hW (by rw [wI_nk (by decide)]; exact b2)
    rw [l1, cl_so, cl_so, lt_e]
    have ex : (x + 16 - a + (a - 1)) % 16 = (x + 15) % 16 := by omega
    rw [ex] at b3
    generalize hτ1 : wI (wI τ 0 22 (nI (a - 1))) 0 23 (nI ((x + 15) % 16)) = τ1
    have t1 : τ1.1 0 23 = nI ((x + 15) % 16) := by rw [← hτ1, wI_eq]
    have t2 : τ1.1 0 22 = nI (a - 1) := by rw [← hτ1, wI_nj (by decide), wI_eq]
    have t3 : ∀ j, j ≠ 22 → j ≠ 23 → τ1.1 0 j = τ.1 0 j := fun j q1 q2 => by rw [← hτ1, wI_nj q2, wI_nj q1]
    have t4 : ∀ k, k ≠ 0 → τ1.1 k = τ.1 k := fun k q => by rw [← hτ1, wI_nk q, wI_nk q]
    have t5 : τ1.2 = τ.2 := by rw [← hτ1]; rfl
    obtain ⟨t, k, u1, u2⟩ := loop_FU (fun n c (s : ES) => b_X8_undo_36 n (nI c) s) (fun c s => Cpy τ1 s 14 (18 * ((x + 15) % 16)) 9 0 c) 18 (by omega) (fun n c s hc hs => ⟨_, hs.step, by
      show b_X8_undo_36 (n + 1) _ _ = b_X8_undo_36 n _ _
      rw [b_X8_undo_36, il18, if_neg (nI_ge hc (by omega)), hs.1.1 0 (by decide), t1, pk_mul, nI_add, rd_nI (by omega) (by omega), wr_nI (by omega) (by omega), lt_e, il1, nI_add, hs.1.1 14 (by decide), Nat.zero_add]⟩) τ1 Cpy.rf
    rw [show (0 : Int32) = nI 0 from rfl, u2, b_X8_undo_36, il18, if_pos (nI_le (by omega) (by omega)), u1.1.1 0 (by decide), t2]
    have e3 : (wI s 15 11 (nI 0)).1 13 2 = nI (a - 1) := by rw [wI_nk (by decide), l2 13 (by decide), wI_eq]
    rw [e3]
    refine ⟨_, _, _, rfl, rfl, Rel_act (β' := β2) hT hX hD hW hXP hMP hS (fun k hk => ?_) ?_ (fun k q1 q2 q3 => ?_) (fun k q1 q2 => ?_) ?_ b1 ?_ ?_ ?_ (by rw [wI_eq])⟩
    · rw [wI_nk (by omega), l2 k (by omega), wI_nk (by omega)]
    · exact l3
    · rw [u1.1.1 k q2, t4 k q1]
    · rw [u1.1.1 0 (by decide), t3 k q1 q2]
    · rw [u1.1.2, t5]
    · exact l4.c (fun j q1 q2 => by rw [wI_nk (by omega)])
    · exact u1.MR hW (by rw [t4 14 (by decide)]; exact b3)
    · refine ⟨a - 1, f, (x + 15) % 16, ⟨by omega, by omega, by omega⟩, ⟨e3, ?_, ?_, ?_⟩, fun i hi => ?_⟩
      · rw [wI_nk (by decide), l2 13 (by decide), e1]
      · rw [u1.1.1 0 (by decide), t2]
      · rw [u1.1.1 0 (by decide), t1]
      · obtain ⟨bb, q1, q2, q3⟩ := h5 i (by omega)
        refine ⟨bb, q1, ?_, ?_⟩
        · rw [wI_nk (by decide), l2 14 (by decide), wI_nk (by decide)]; exact q2
        · rw [u1.1.1 14 (by decide), t4 14 (by decide), show ((x + 15) % 16 + 16 - (a - 1) + i) % 16 = (x + 16 - a + i) % 16 by omega]; exact q3

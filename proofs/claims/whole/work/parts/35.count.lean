-- ===== count =====
theorem xcontents {σ : ES} {P : Nat → Nat → Nat} {β : Nat → Nat} (hW : WP P) (hXP : XPt σ 30 P) (hB : WB P β) (hXB : XB σ 3 P β) : e_X2_contentGuests_3_30 σ = some (nI (bm (fun g => decide (P 6 g ≤ β (12 + g))) (P 0 2))) := by
  have w3 := hW.2.2.1
  unfold e_X2_contentGuests_3_30 b_X2_contentGuests_3_30_0
  obtain ⟨s, k, h1, h2⟩ := loop_FU (fun n c (s : Nat) => b_X2_contentGuests_3_30_4 σ n (nI s) (nI c)) (fun c s => s = bm (fun g => decide (P 6 g ≤ β (12 + g))) c) (P 0 2) (by omega) (fun n c s hc hs => ⟨bm (fun g => decide (P 6 g ≤ β (12 + g))) (c + 1), rfl, by
    subst hs
    show b_X2_contentGuests_3_30_4 σ (n + 1) _ _ = b_X2_contentGuests_3_30_4 σ n _ _
    rw [b_X2_contentGuests_3_30_4, hXP.1.2.2, if_neg (nI_ge hc (by omega)), xcont hW hXP hB hXB hc, cl_so]
    simp only [lt_e, il1, nI_add, nI_sh c (by omega)]
    rw [← or_if]
    by_cases h : P 6 c ≤ β (12 + c)
    · simp [h, n1_ne]
    · simp [h, nI_or]⟩) 0 rfl
  subst h1
  simp only [il0]
  rw [h2, b_X2_contentGuests_3_30_4, hXP.1.2.2, if_pos (nI_le (by omega) (by omega))]
theorem mcount46 {τ : ES} {P : Nat → Nat → Nat} {β : Nat → Nat} (hW : WP P) (hMP : MPt τ P) (hB : WB P β) (hMB : MR (τ.1 9) 0 P β) (a u : Int32) : ∃ k, b_X8_count_46 τ FU a u 0 0 = b_X8_count_46 τ (k + 1) a u (nI (bm (fun g => decide (P 6 g ≤ β (12 + g))) (P 0 2))) (nI (P 0 2)) := by
  have w3 := hW.2.2.1
  obtain ⟨s, k, h1, h2⟩ := loop_FU (fun n c (s : Nat) => b_X8_count_46 τ n a u (nI s) (nI c)) (fun c s => s = bm (fun g => decide (P 6 g ≤ β (12 + g))) c) (P 0 2) (by omega) (fun n c s hc hs => ⟨bm (fun g => decide (P 6 g ≤ β (12 + g))) (c + 1), rfl, by
    subst hs
    have b := WBg hW hB hc
    have mc := mcont (L := 0) hW hMP (by omega) hMB hc (by omega)
    rw [← il0] at mc
    show b_X8_count_46 τ (n + 1) _ _ _ _ = b_X8_count_46 τ n _ _ _ _
    rw [b_X8_count_46, hMP.1.2.2, if_neg (nI_ge hc (by omega)), mc, cl_so]
    simp only [lt_e, il1, nI_add, nI_sh c (by omega)]
    rw [← or_if]
    by_cases h : P 6 c ≤ β (12 + c)
    · simp [h, n1_ne]
    · simp [h, il0]⟩) 0 rfl
  subst h1
  exact ⟨k, h2⟩
theorem mcount4 {τ : ES} {P : Nat → Nat → Nat} {β : Nat → Nat} (hW : WP P) (hMP : MPt τ P) (hB : WB P β) (hMB : MR (τ.1 9) 0 P β) (a : Int32) : ∃ k, b_X8_count_4 τ FU a 0 0 = b_X8_count_4 τ (k + 1) a (nI (bm (fun c => decide (β (8 + c) = 1)) (P 0 1))) (nI (P 0 1)) := by
  have w2 := hW.2.1
  obtain ⟨s, k, h1, h2⟩ := loop_FU (fun n c (s : Nat) => b_X8_count_4 τ n a (nI s) (nI c)) (fun c s => s = bm (fun c => decide (β (8 + c) = 1)) c) (P 0 1) (by omega) (fun n c s hc hs => ⟨bm (fun c => decide (β (8 + c) = 1)) (c + 1), rfl, by
    subst hs
    have b := WBc hW hB hc
    have m3 := ((MR0 hMB).1 c hc).2.2
    show b_X8_count_4 τ (n + 1) _ _ _ = b_X8_count_4 τ n _ _ _
    rw [b_X8_count_4, hMP.1.2.1, if_neg (nI_ge hc (by omega)), il8, nI_add, rd_nI (by omega) (by omega), m3]
    simp only [lt_e, il1, nI_add, nI_sh c (by omega), nI_eq (show β (8 + c) < 2 ^ 31 by omega) (show 1 < 2 ^ 31 by omega)]
    rw [← or_if]
    by_cases h : β (8 + c) = 1
    · simp [h, n1_ne]
    · simp [h, il0]⟩) 0 rfl
  subst h1
  exact ⟨k, h2⟩
theorem st_count {σ τ : ES} (hR : Rel σ τ) (a0 : Int32) : ∃ (r : Int32), e_X7_count_0 a0 σ = some r ∧ e_X8_count a0 τ = some r := by
  obtain ⟨⟨n, T, hn, t1, t2, -⟩, ⟨x, B, hx, x1, x2, -⟩, hD, P, β, hW, hXP, hMP, hB, hXB, hMB, ⟨a, f, y, -, ⟨r1, -, r3, -⟩, -⟩, -⟩ := hR
  have w2 := hW.2.1
  have w3 := hW.2.2.1
  unfold e_X7_count_0 b_X7_count_0_0 e_X8_count b_X8_count_0
  obtain ⟨k, hk⟩ := mcount4 hW hMP hB hMB a0
  obtain ⟨k2, hk2⟩ := mcount46 hW hMP hB hMB a0 (nI (bm (fun c => decide (β (8 + c) = 1)) (P 0 1)))
  have ef := xflame (σ := σ) (kd := 1) (fl := fun c => β (8 + c)) hXP.1.2.1 w2 (fun c hc => ((XB3 hXB).1 c hc).2.2) (fun c hc => (WBc hW hB hc).2.2.1) (by omega)
  rw [← il1] at ef
  rw [hk, b_X8_count_4, hMP.1.2.1, if_pos (nI_le (by omega) (by omega)), hk2, b_X8_count_46, hMP.1.2.2, if_pos (nI_le (by omega) (by omega)), ef, xcontents hW hXP hB hXB]
  obtain ⟨-, -, m4, m5⟩ := MR0 hMB
  obtain ⟨-, -, x4, x5⟩ := XB3 hXB
  rw [il17, il16, rd_nI (by omega) (by omega), rd_nI (by omega) (by omega), m4, m5, x4, x5, t1, t2, x1, x2, r1, r3, hXP.1.1, hXP.1.2.1, hXP.1.2.2, hMP.1.1, hMP.1.2.1]
  simp only [cl_so]
  exact both (by (repeat' split) <;> rfl)

-- ===== candle, guest =====
theorem MR0 {f : Nat → Int32} {P : Nat → Nat → Nat} {β : Nat → Nat} (h : MR f 0 P β) : (∀ c, c < P 0 1 → f c = nI (β c) ∧ f (4 + c) = nI (β (4 + c)) ∧ f (8 + c) = nI (β (8 + c))) ∧ (∀ g, g < P 0 2 → f (12 + g) = nI (β (12 + g))) ∧ f 16 = nI (β 16) ∧ f 17 = nI (β 17) := by
  unfold MR at h
  simp only [Nat.zero_add] at h
  exact h
theorem XB3 {σ : ES} {P : Nat → Nat → Nat} {β : Nat → Nat} (h : XB σ 3 P β) : (∀ c, c < P 0 1 → σ.1 4 c = nI (β c) ∧ σ.1 5 c = nI (β (4 + c)) ∧ σ.1 6 c = nI (β (8 + c))) ∧ (∀ g, g < P 0 2 → σ.1 7 g = nI (β (12 + g))) ∧ σ.1 3 4 = nI (β 16) ∧ σ.1 3 5 = nI (β 17) := h
theorem XP30 {σ : ES} {P : Nat → Nat → Nat} (h : XPt σ 30 P) : (σ.1 30 8 = nI (P 0 0) ∧ σ.1 30 9 = nI (P 0 1) ∧ σ.1 30 10 = nI (P 0 2)) ∧ (∀ j, j < P 0 0 → σ.1 31 j = nI (P 1 j)) ∧ (∀ c, c < P 0 1 → σ.1 32 c = nI (P 2 c) ∧ σ.1 33 c = nI (P 3 c) ∧ σ.1 34 c = nI (P 4 c)) ∧ ∀ g, g < P 0 2 → σ.1 35 g = nI (P 5 g) ∧ σ.1 36 g = nI (P 6 g) ∧ σ.1 37 g = nI (P 7 g) ∧ σ.1 38 g = nI (P 8 g) := h
/-- all bounds of a candle, of a guest -/
theorem WBc {P : Nat → Nat → Nat} {β : Nat → Nat} (hW : WP P) (hB : WB P β) {c : Nat} (h : c < P 0 1) : β c + β (4 + c) ≤ 12 ∧ β (4 + c) ≤ 6 ∧ β (8 + c) ≤ 2 ∧ β c + β (4 + c) ≤ P 0 0 ∧ (β (8 + c) ≠ 2 → 1 ≤ β (4 + c)) ∧ P 4 c ≤ 9 ∧ 1 ≤ P 4 c := by
  obtain ⟨w1, w2, w3, w4, w5, w6⟩ := hW
  obtain ⟨b1, b2, b3⟩ := hB
  have := w5 c h
  have := b1 c h
  refine ⟨?_, ?_, ?_, ?_, ?_, ?_, ?_⟩ <;> omega
theorem WBg {P : Nat → Nat → Nat} {β : Nat → Nat} (hW : WP P) (hB : WB P β) {g : Nat} (h : g < P 0 2) : β (12 + g) ≤ 20 ∧ P 5 g ≤ 3 ∧ 1 ≤ P 6 g ∧ P 6 g ≤ 6 ∧ P 7 g ≤ P 8 g ∧ P 8 g ≤ 9 := by
  obtain ⟨w1, w2, w3, w4, w5, w6⟩ := hW
  obtain ⟨b1, b2, b3⟩ := hB
  have := w6 g h
  have := b2 g h
  refine ⟨?_, ?_, ?_, ?_, ?_, ?_⟩ <;> omega
theorem both {α : Type} {X : Option α} (h : X.isSome = true) : ∃ r, X = some r ∧ X = some r := by
  obtain ⟨r, hr⟩ := Option.isSome_iff_exists.mp h
  exact ⟨r, hr, hr⟩
theorem n1_ne : ¬ nI 1 = 0 := by decide
theorem one_ne : ¬ (1 : Int32) = 0 := by decide
theorem st_candle {σ τ : ES} (hR : Rel σ τ) (a0 : Int32) (a1 : Int32) : ∃ (r : Int32), e_X7_candle_0 a0 a1 σ = some r ∧ e_X8_candle a0 a1 τ = some r := by
  obtain ⟨hT, hX, hD, P, β, hW, hXP, hMP, hB, hXB, hMB, -⟩ := hR
  have w2 := hW.2.1
  unfold e_X7_candle_0 b_X7_candle_0_0 e_X8_candle b_X8_candle_0
  rcases lt_cases a0 (n := P 0 1) (by omega) with h | ⟨j, hj, rfl⟩
  · rw [xhasC_out hXP.1.2.1 h, misC_out hMP.1.2.1 w2 h]
    exact ⟨_, rfl, rfl⟩
  · rw [xhasC_in hXP.1.2.1 hj w2, misC_in hMP.1.2.1 w2 hj]
    obtain ⟨x1, x2, x3⟩ := (XB3 hXB).1 j hj
    obtain ⟨m1, m2, m3⟩ := (MR0 hMB).1 j hj
    have p1 := ((XP30 hXP).2.2.1 j hj).2.2
    have p2 := (hMP.2.2.1 j hj).2.2
    simp only [cl_so, if_neg one_ne, il4, il8, nI_add]
    simp (disch := omega) only [rd_nI, x1, x2, x3, m1, m2, m3, p1, p2]
    exact both (by (repeat' split) <;> rfl)
theorem xcont {σ : ES} {P : Nat → Nat → Nat} {β : Nat → Nat} (hW : WP P) (hXP : XPt σ 30 P) (hB : WB P β) (hXB : XB σ 3 P β) {g : Nat} (hg : g < P 0 2) : e_X2_isContent_3_30 (nI g) σ = some (if P 6 g ≤ β (12 + g) then 1 else 0) := by
  have w3 := hW.2.2.1
  unfold e_X2_isContent_3_30 b_X2_isContent_3_30_0
  have b := WBg hW hB hg
  have x1 := (XB3 hXB).2.1 g hg
  have p1 := ((XP30 hXP).2.2.2 g hg).2.1
  rw [xhasG_in hXP.1.2.2 hg w3]
  simp only [cl_so, if_neg one_ne]
  simp (disch := omega) only [rd_nI, x1, p1, nI_ltI]
  by_cases h : P 6 g ≤ β (12 + g)
  · rw [if_pos h, if_neg (by omega)]
  · rw [if_neg h, if_pos (by omega)]
theorem mcont {τ : ES} {P : Nat → Nat → Nat} {β : Nat → Nat} (hW : WP P) (hMP : MPt τ P) {L : Nat} (hL : L < 4) (hM : MR (τ.1 9) (18 * L) P β) {g : Nat} (hg : g < P 0 2) (hb : β (12 + g) ≤ 1000) : e_X8_isContent (nI L) (nI g) τ = some (if P 6 g ≤ β (12 + g) then 1 else 0) := by
  have w3 := hW.2.2.1
  have w6 := hW.2.2.2.2.2 g hg
  unfold e_X8_isContent b_X8_isContent_0
  have x1 := hM.2.1 g hg
  have p1 := (hMP.2.2.2 g hg).2.1
  simp only [il18, il12, pk_mul, nI_add]
  simp (disch := omega) only [rd_nI, x1, p1, nI_ltI]
  by_cases h : P 6 g ≤ β (12 + g)
  · rw [if_pos h, if_neg (by omega)]
  · rw [if_neg h, if_pos (by omega)]
theorem st_guest {σ τ : ES} (hR : Rel σ τ) (a0 : Int32) (a1 : Int32) : ∃ (r : Int32), e_X7_guest_0 a0 a1 σ = some r ∧ e_X8_guest a0 a1 τ = some r := by
  obtain ⟨hT, hX, hD, P, β, hW, hXP, hMP, hB, hXB, hMB, -⟩ := hR
  have w3 := hW.2.2.1
  unfold e_X7_guest_0 b_X7_guest_0_0 e_X8_guest b_X8_guest_0
  rcases lt_cases a0 (n := P 0 2) (by omega) with h | ⟨j, hj, rfl⟩
  · rw [xhasG_out hXP.1.2.2 h, misG_out hMP.1.2.2 w3 h]
    exact ⟨_, rfl, rfl⟩
  · rw [xhasG_in hXP.1.2.2 hj w3, misG_in hMP.1.2.2 w3 hj, xcont hW hXP hB hXB hj]
    have b := WBg hW hB hj
    have mc := mcont (L := 0) hW hMP (by omega) hMB hj (by omega)
    have x1 := (XB3 hXB).2.1 j hj
    have m1 := (MR0 hMB).2.1 j hj
    obtain ⟨p1, p2, p3, p4⟩ := (XP30 hXP).2.2.2 j hj
    obtain ⟨q1, q2, q3, q4⟩ := hMP.2.2.2 j hj
    rw [← il0] at mc
    rw [mc]
    simp only [cl_so, if_neg one_ne, il12, nI_add]
    simp (disch := omega) only [rd_nI, x1, m1, p1, p2, p3, p4, q1, q2, q3, q4]
    exact both (by (repeat' split) <;> rfl)
-- ===== count =====
theorem or_if {f : Nat → Bool} {n : Nat} : nI (bm f n) ||| (if f n = true then nI (2 ^ n) else nI 0) = nI (bm f (n + 1)) := by
  rw [bm]
  by_cases h : f n = true
  · rw [if_pos h, if_pos h, nI_or]
  · rw [if_neg h, if_neg h, nI_or]
theorem xflame {σ : ES} {N : Nat} {fl : Nat → Nat} (h9 : σ.1 30 9 = nI N) (hN : N ≤ 4) (hf : ∀ c, c < N → σ.1 6 c = nI (fl c)) (hb : ∀ c, c < N → fl c ≤ 2) {kd : Nat} (hk : kd ≤ 2) : e_X2_withFlame_3_30 (nI kd) σ = some (nI (bm (fun c => decide (fl c = kd)) N)) := by
  unfold e_X2_withFlame_3_30 b_X2_withFlame_3_30_0
  obtain ⟨s, k, h1, h2⟩ := loop_FU (fun n c (s : Nat) => b_X2_withFlame_3_30_5 σ n (nI kd) (nI s) (nI c)) (fun c s => s = bm (fun c => decide (fl c = kd)) c) N (by omega) (fun n c s hc hs => ⟨bm (fun c => decide (fl c = kd)) (c + 1), rfl, by
    subst hs
    have := hb c hc
    show b_X2_withFlame_3_30_5 σ (n + 1) _ _ _ = b_X2_withFlame_3_30_5 σ n _ _ _
    rw [b_X2_withFlame_3_30_5, h9, if_neg (nI_ge hc (by omega)), rd_nI (by omega) (by omega), hf c hc]
    simp only [lt_e, il1, nI_add, nI_sh c (by omega), nI_eq (show fl c < 2 ^ 31 by omega) (show kd < 2 ^ 31 by omega)]
    rw [← or_if]
    by_cases h : fl c = kd
    · simp [h]
    · simp [h, nI_or]⟩) 0 rfl
  subst h1
  simp only [il0]
  rw [h2, b_X2_withFlame_3_30_5, h9, if_pos (nI_le (by omega) (by omega))]

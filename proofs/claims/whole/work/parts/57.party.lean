-- ===== party =====
def b0 (P : Nat → Nat → Nat) : Nat → Nat := fun q => if q < 4 then P 2 q else if q < 8 then P 3 (q - 4) else 0
theorem b0_e {P : Nat → Nat → Nat} : (∀ c, c < 4 → b0 P c = P 2 c ∧ b0 P (4 + c) = P 3 c) ∧ ∀ q, 8 ≤ q → b0 P q = 0 := by
  refine ⟨fun c hc => ⟨?_, ?_⟩, fun q hq => ?_⟩
  · unfold b0; rw [if_pos hc]
  · unfold b0; rw [if_neg (by omega), if_pos (by omega), show 4 + c - 4 = c by omega]
  · unfold b0; rw [if_neg (by omega), if_neg (by omega)]
theorem xbegin (s5 : ES) : ∃ s, e_X2_begin_3_30 s5 = some s ∧ (∀ k, (k < 3 ∨ 7 < k) → s.1 k = s5.1 k) ∧ s.2 = s5.2 ∧ (∀ j, j < 4 → s.1 4 j = s5.1 32 j ∧ s.1 5 j = s5.1 33 j ∧ s.1 6 j = nI 0 ∧ s.1 7 j = nI 0) ∧ s.1 3 4 = nI 0 ∧ s.1 3 5 = nI 0 := by
  unfold e_X2_begin_3_30 b_X2_begin_3_30_0
  obtain ⟨s, j, ⟨a1, a2, a3⟩, e2⟩ := loop_FU (fun n c (s : ES) => b_X2_begin_3_30_2 n (nI c) s) (fun c s => (∀ k, (k < 4 ∨ 6 < k) → s.1 k = s5.1 k) ∧ s.2 = s5.2 ∧ ∀ j, j < c → s.1 4 j = s5.1 32 j ∧ s.1 5 j = s5.1 33 j ∧ s.1 6 j = nI 0) 4 (by omega) (fun n c s hc hs => ⟨wI (wI (wI s 4 c (s5.1 32 c)) 5 c (s5.1 33 c)) 6 c (nI 0), by
    obtain ⟨h1, h2, h3⟩ := hs
    refine ⟨⟨fun k hk => by rw [wI_nk (by omega), wI_nk (by omega), wI_nk (by omega)]; exact h1 k hk, h2, fun j hj => ?_⟩, ?_⟩
    · by_cases e : j = c
      · subst e
        simp (disch := omega) only [wI_eq, wI_nk, and_self]
      · simp (disch := omega) only [wI_nj, wI_nk]
        exact h3 j (by omega)
    · show b_X2_begin_3_30_2 (n + 1) _ _ = b_X2_begin_3_30_2 n _ _
      rw [b_X2_begin_3_30_2, if_neg (show ¬ (4 : Int32) ≤ nI c from nI_ge (b := 4) hc (by omega)), rd_nI (by omega) (by omega), wr_nI (by omega) (by omega), rd_nI (by omega) (by omega), wr_nI (by omega) (by omega), wr_nI (by omega) (by omega), lt_e, nI_1, wI_nk (show 33 ≠ 4 by decide), h1 32 (by omega), h1 33 (by omega), il0]⟩) s5 ⟨fun _ _ => rfl, rfl, fun j hj => by omega⟩
  have e3 : b_X2_begin_3_30_2 FU 0 s5 = _ := e2
  rw [e3, b_X2_begin_3_30_2, if_pos (show (4 : Int32) ≤ nI 4 by decide)]
  obtain ⟨s', j, ⟨b1, b2, b3⟩, e4⟩ := loop_FU (fun n c (s : ES) => b_X2_begin_3_30_46 n (nI c) s) (fun c t => (∀ k, k ≠ 7 → t.1 k = s.1 k) ∧ t.2 = s.2 ∧ ∀ j, j < c → t.1 7 j = nI 0) 4 (by omega) (fun n c t hc hs => ⟨wI t 7 c (nI 0), by
    obtain ⟨h1, h2, h3⟩ := hs
    refine ⟨⟨fun k hk => by rw [wI_nk hk]; exact h1 k hk, h2, fun j hj => ?_⟩, ?_⟩
    · by_cases e : j = c
      · subst e; rw [wI_eq]
      · rw [wI_nj e]; exact h3 j (by omega)
    · show b_X2_begin_3_30_46 (n + 1) _ _ = b_X2_begin_3_30_46 n _ _
      rw [b_X2_begin_3_30_46, if_neg (show ¬ (4 : Int32) ≤ nI c from nI_ge (b := 4) hc (by omega)), wr_nI (by omega) (by omega), lt_e, nI_1, il0]⟩) s ⟨fun _ _ => rfl, rfl, fun j hj => by omega⟩
  have e5 : b_X2_begin_3_30_46 FU 0 s = _ := e4
  rw [e5, b_X2_begin_3_30_46, if_pos (show (4 : Int32) ≤ nI 4 by decide), lt_e, lt_e]
  refine ⟨_, rfl, fun k hk => ?_, by rw [wI_2, wI_2, b2, a2], fun j hj => ?_, ?_, ?_⟩
  · rw [wI_nk (by omega), wI_nk (by omega), b1 k (by omega), a1 k (by omega)]
  · rw [wI_nk (by decide), wI_nk (by decide), wI_nk (by decide), wI_nk (by decide), wI_nk (by decide), wI_nk (by decide), wI_nk (by decide), wI_nk (by decide), b1 4 (by decide), b1 5 (by decide), b1 6 (by decide)]
    exact ⟨(a3 j hj).1, (a3 j hj).2.1, (a3 j hj).2.2, b3 j hj⟩
  · rw [wI_nj (by decide), wI_eq, il0]
  · rw [wI_eq, il0]
theorem xslots (s : ES) : ∃ s', b_X7_party_0_57 FU 0 s = some (10 * s.1 30 9 + s.1 30 10, s', true) ∧ (∀ k, k ≠ 15 → k ≠ 29 → s'.1 k = s.1 k) ∧ s'.2 = s.2 ∧ (∀ j, j < 2 → s'.1 29 j = nI 0) ∧ s'.1 15 11 = nI 0 := by
  obtain ⟨t, j, ⟨b1, b2, b3⟩, e4⟩ := loop_FU (fun n c (s : ES) => b_X7_party_0_57 n (nI c) s) (fun c t => (∀ k, k ≠ 29 → t.1 k = s.1 k) ∧ t.2 = s.2 ∧ ∀ j, j < c → t.1 29 j = nI 0) 2 (by omega) (fun n c t hc hs => ⟨wI t 29 c (nI 0), by
    obtain ⟨h1, h2, h3⟩ := hs
    refine ⟨⟨fun k hk => by rw [wI_nk hk]; exact h1 k hk, h2, fun j hj => ?_⟩, ?_⟩
    · by_cases e : j = c
      · subst e; rw [wI_eq]
      · rw [wI_nj e]; exact h3 j (by omega)
    · show b_X7_party_0_57 (n + 1) _ _ = b_X7_party_0_57 n _ _
      rw [b_X7_party_0_57, if_neg (show ¬ (2 : Int32) ≤ nI c from nI_ge (b := 2) hc (by omega)), wr_nI (by omega) (by omega), lt_e, nI_1, il0]⟩) s ⟨fun _ _ => rfl, rfl, fun j hj => by omega⟩
  have e5 : b_X7_party_0_57 FU 0 s = _ := e4
  rw [e5, b_X7_party_0_57, if_pos (show (2 : Int32) ≤ nI 2 by decide), lt_e, wI_nk (show 30 ≠ 15 by decide), b1 30 (by decide)]
  exact ⟨_, rfl, fun k h1 h2 => by rw [wI_nk h1, b1 k h2], by rw [wI_2, b2], fun j hj => by rw [wI_nk (by decide)]; exact b3 j hj, by rw [wI_eq, il0]⟩
/-- the reference's candle and guest rows, c of them copied -/
def Cp (t s : ES) (c : Nat) : Prop := (∀ k, (k < 2 ∨ 9 < k) → s.1 k = t.1 k) ∧ s.2 = t.2 ∧ (∀ j, j < c → s.1 2 j = t.1 12 (3 * j) ∧ s.1 3 j = t.1 12 (3 * j + 1) ∧ s.1 4 j = t.1 12 (3 * j + 2)) ∧ (∀ j, j < c → s.1 5 j = t.1 13 (4 * j) ∧ s.1 6 j = t.1 13 (4 * j + 1) ∧ s.1 7 j = t.1 13 (4 * j + 2) ∧ s.1 8 j = t.1 13 (4 * j + 3)) ∧ ∀ j, j < c → s.1 9 j = t.1 12 (3 * j) ∧ s.1 9 (4 + j) = t.1 12 (3 * j + 1) ∧ s.1 9 (8 + j) = nI 0 ∧ s.1 9 (12 + j) = nI 0
theorem Cp.step {t s : ES} {c : Nat} (hc : c < 4) (h : Cp t s c) : Cp t (wI (wI (wI (wI (wI (wI (wI (wI (wI (wI (wI s 2 c (t.1 12 (3 * c))) 3 c (t.1 12 (3 * c + 1))) 4 c (t.1 12 (3 * c + 2))) 9 c (t.1 12 (3 * c))) 9 (4 + c) (t.1 12 (3 * c + 1))) 9 (8 + c) (nI 0)) 9 (12 + c) (nI 0)) 5 c (t.1 13 (4 * c))) 6 c (t.1 13 (4 * c + 1))) 7 c (t.1 13 (4 * c + 2))) 8 c (t.1 13 (4 * c + 3))) (c + 1) := by
  obtain ⟨h1, h2, h3, h4, h5⟩ := h
  refine ⟨fun k hk => ?_, h2, fun j hj => ?_, fun j hj => ?_, fun j hj => ?_⟩
  · simp (disch := omega) only [wI_nk]
    exact h1 k hk
  · by_cases e : j = c
    · subst e
      simp (disch := omega) only [wI_nk, wI_eq, and_self]
    · simp (disch := omega) only [wI_nk, wI_nj]
      exact h3 j (by omega)
  · by_cases e : j = c
    · subst e
      simp (disch := omega) only [wI_nk, wI_eq, and_self]
    · simp (disch := omega) only [wI_nk, wI_nj]
      exact h4 j (by omega)
  · by_cases e : j = c
    · subst e
      simp (disch := omega) only [wI_nk, wI_eq, wI_nj, and_self]
    · simp (disch := omega) only [wI_nk, wI_nj]
      exact h5 j (by omega)
theorem mparty64 (t : ES) : ∃ s, b_X8_party_64 FU 0 t = some (10 * t.1 0 1 + t.1 0 2, s) ∧ (∀ k, (k = 1 ∨ (9 < k ∧ k ≠ 20)) → s.1 k = t.1 k) ∧ s.2 = t.2 ∧ (∀ j, j ≠ 22 → s.1 0 j = t.1 0 j) ∧ s.1 0 22 = nI 0 ∧ (∀ j, j < 2 → s.1 20 j = nI 0) ∧ s.1 9 16 = nI 0 ∧ s.1 9 17 = nI 0 ∧ (∀ j, j < 4 → s.1 2 j = t.1 12 (3 * j) ∧ s.1 3 j = t.1 12 (3 * j + 1) ∧ s.1 4 j = t.1 12 (3 * j + 2)) ∧ (∀ j, j < 4 → s.1 5 j = t.1 13 (4 * j) ∧ s.1 6 j = t.1 13 (4 * j + 1) ∧ s.1 7 j = t.1 13 (4 * j + 2) ∧ s.1 8 j = t.1 13 (4 * j + 3)) ∧ ∀ j, j < 4 → s.1 9 j = t.1 12 (3 * j) ∧ s.1 9 (4 + j) = t.1 12 (3 * j + 1) ∧ s.1 9 (8 + j) = nI 0 ∧ s.1 9 (12 + j) = nI 0 := by
  obtain ⟨s, j, ⟨a1, a2, a3, a4, a5⟩, e2⟩ := loop_FU (fun n c (s : ES) => b_X8_party_64 n (nI c) s) (fun c s => Cp t s c) 4 (by omega) (fun n c s hc hs => ⟨_, hs.step hc, by
    have f12 := hs.1 12 (by omega)
    have f13 := hs.1 13 (by omega)
    show b_X8_party_64 (n + 1) _ _ = b_X8_party_64 n _ _
    rw [b_X8_party_64, if_neg (show ¬ (4 : Int32) ≤ nI c from nI_ge (b := 4) hc (by omega))]
    simp only [il3, il1, il2, il4, il8, il12, il0, pk_mul, nI_add]
    simp (disch := omega) only [rd_nI, wr_nI, lt_e, wI_nk, wI_eq, f12, f13]⟩) t ⟨fun _ _ => rfl, rfl, fun j hj => by omega, fun j hj => by omega, fun j hj => by omega⟩
  have e3 : b_X8_party_64 FU 0 t = _ := e2
  rw [e3, b_X8_party_64, if_pos (show (4 : Int32) ≤ nI 4 by decide)]
  simp only [il16, il17, il0, il1]
  simp (disch := omega) only [wr_nI, lt_e, wI_nk, wI_nj]
  rw [a1 0 (by omega)]
  refine ⟨_, rfl, fun k hk => ?_, ?_, fun j hj => ?_, ?_, fun j hj => ?_, ?_, ?_, fun j hj => ?_, fun j hj => ?_, fun j hj => ?_⟩
  · simp (disch := omega) only [wI_nk]
    exact a1 k (by omega)
  · exact a2
  · simp (disch := omega) only [wI_nk, wI_nj]
    rw [a1 0 (by omega)]
  · simp (disch := omega) only [wI_nk, wI_eq]
  · by_cases e : j = 0
    · subst e; simp (disch := omega) only [wI_nk, wI_nj, wI_eq]
    · have : j = 1 := by omega
      subst this; simp (disch := omega) only [wI_nk, wI_nj, wI_eq]
  · simp (disch := omega) only [wI_nk, wI_nj, wI_eq]
  · simp (disch := omega) only [wI_nk, wI_nj, wI_eq]
  · simp (disch := omega) only [wI_nk, wI_nj]
    exact a3 j hj
  · simp (disch := omega) only [wI_nk, wI_nj]
    exact a4 j hj
  · simp (disch := omega) only [wI_nk, wI_nj]
    exact a5 j hj
theorem mparty38 (t : ES) : ∃ s, b_X8_party_38 FU 0 t = b_X8_party_64 FU 0 s ∧ (∀ k, k ≠ 1 → s.1 k = t.1 k) ∧ s.2 = t.2 ∧ ∀ j, j < 12 → s.1 1 j = t.1 11 j := by
  obtain ⟨s, j, ⟨b1, b2, b3⟩, e4⟩ := loop_FU (fun n c (s : ES) => b_X8_party_38 n (nI c) s) (fun c s => (∀ k, k ≠ 1 → s.1 k = t.1 k) ∧ s.2 = t.2 ∧ ∀ j, j < c → s.1 1 j = t.1 11 j) 12 (by omega) (fun n c s hc hs => ⟨wI s 1 c (t.1 11 c), by
    obtain ⟨h1, h2, h3⟩ := hs
    refine ⟨⟨fun k hk => by rw [wI_nk hk]; exact h1 k hk, h2, fun j hj => ?_⟩, ?_⟩
    · by_cases e : j = c
      · subst e; rw [wI_eq]
      · rw [wI_nj e]; exact h3 j (by omega)
    · show b_X8_party_38 (n + 1) _ _ = b_X8_party_38 n _ _
      rw [b_X8_party_38, if_neg (show ¬ (12 : Int32) ≤ nI c from nI_ge (b := 12) hc (by omega)), rd_nI (by omega) (by omega), wr_nI (by omega) (by omega), lt_e, nI_1, h1 11 (by decide)]⟩) t ⟨fun _ _ => rfl, rfl, fun j hj => by omega⟩
  have e5 : b_X8_party_38 FU 0 t = _ := e4
  exact ⟨s, by rw [e5, b_X8_party_38, if_pos (show (12 : Int32) ≤ nI 12 by decide)], b1, b2, b3⟩
theorem st_party {σ τ : ES} (hR : Rel σ τ)  : ∃ (r : Int32) (σ' : ES) (fb : Bool) (τ' : ES), e_X7_party_0 σ = some (r, σ', fb) ∧ e_X8_party  τ = some (r, τ') ∧ Rel σ' τ' := by
  obtain ⟨⟨n, T, hn, h1, h2, h3⟩, hX, hD, P0, β0, -, -, -, -, -, -, ⟨a0, f0, x0, ⟨-, -, hx0⟩, ⟨-, -, -, hx1⟩, -⟩, -⟩ := id hR
  obtain ⟨r, σ', τ', e1, e2, f1, f2, hc⟩ := rread (σ := σ) (τ := τ) (n := n) (T := T) ⟨hn, h1, h2, h3⟩
  unfold e_X7_party_0 b_X7_party_0_0 e_X8_party b_X8_party_0
  rw [e1, e2, cs_so, cs_so]
  rcases hc with ⟨rfl, P, hW, hXP, hP⟩ | ⟨f, hf, rfl⟩
  · rw [if_pos (show (-9 : Int32) = -9 from rfl), if_pos (show (-9 : Int32) = -9 from rfl), lt_e, lt_e, lt_e, lt_e]
    obtain ⟨⟨r1, r2, r3⟩, r4, r5, r6⟩ := hP
    obtain ⟨s, g1, g2, g3, g4, g5, g6⟩ := xbegin (swS σ')
    have hX5 : XPt (swS σ') 30 P := hXP
    have k5 : ∀ k, k < 30 → (swS σ').1 k = σ'.1 k := fun k hk => if_pos hk
    unfold e_X0_clear_13 b_X0_clear_13_0
    rw [g1, cl_so, lt_e, lt_e, cl_so]
    obtain ⟨s2, i1, i2, i3, i4, i5⟩ := xslots (wI (wI s 13 1 0) 13 2 0)
    obtain ⟨t1, j1, j2, j3, j4⟩ := mparty38 (wI (wI (wI τ' 0 0 (τ'.1 0 16)) 0 1 ((wI τ' 0 0 (τ'.1 0 16)).1 0 17)) 0 2 ((wI (wI τ' 0 0 (τ'.1 0 16)) 0 1 ((wI τ' 0 0 (τ'.1 0 16)).1 0 17)).1 0 18))
    obtain ⟨t2, l1, l2, l3, l4, l5, l6, l7, l8, l9, l10, l11⟩ := mparty64 t1
    rw [i1, j1, l1]
    have u0 : t1.1 0 0 = nI (P 0 0) := by
      rw [j2 0 (by decide), wI_nj (by decide), wI_nj (by decide), wI_eq]; exact r1
    have u1 : t1.1 0 1 = nI (P 0 1) := by
      rw [j2 0 (by decide), wI_nj (by decide), wI_eq, wI_nj (by decide)]; exact r2
    have u2 : t1.1 0 2 = nI (P 0 2) := by
      rw [j2 0 (by decide), wI_eq, wI_nj (by decide), wI_nj (by decide)]; exact r3
    have uo : ∀ j, 2 < j → t1.1 0 j = τ'.1 0 j := fun j hj => by
      rw [j2 0 (by decide), wI_nj (by omega), wI_nj (by omega), wI_nj (by omega)]
    have uk : ∀ k, 1 < k → t1.1 k = τ'.1 k := fun k hk => by
      rw [j2 k (by omega), wI_nk (by omega), wI_nk (by omega), wI_nk (by omega)]
    have v0 : ∀ k, 30 ≤ k → s2.1 k = (swS σ').1 k := fun k hk => by
      rw [i2 k (by omega) (by omega), wI_nk (by omega), wI_nk (by omega), g2 k (by omega)]
    have v1 : ∀ k, k < 3 ∨ (7 < k ∧ k < 30 ∧ k ≠ 13 ∧ k ≠ 15 ∧ k ≠ 29) → s2.1 k = σ.1 k := fun k hk => by
      rw [i2 k (by omega) (by omega), wI_nk (by omega), wI_nk (by omega), g2 k (by omega), k5 k (by omega), f1.1 k (by omega)]
    have v2 : ∀ k, 3 ≤ k → k ≤ 7 → s2.1 k = s.1 k := fun k h1 h2 => by
      rw [i2 k (by omega) (by omega), wI_nk (by omega), wI_nk (by omega)]
    have hXP2 : XPt s2 30 P := hX5.c (fun k q1 q2 => v0 k (by omega))
    have w2 := hW.2.1
    have w3 := hW.2.2.1
    obtain ⟨b1, b2⟩ := b0_e (P := P)
    have a9 : (wI (wI s 13 1 0) 13 2 0).1 30 9 = nI (P 0 1) := by rw [wI_nk (by decide), wI_nk (by decide), g2 30 (by omega)]; exact hX5.1.2.1
    have a10 : (wI (wI s 13 1 0) 13 2 0).1 30 10 = nI (P 0 2) := by rw [wI_nk (by decide), wI_nk (by decide), g2 30 (by omega)]; exact hX5.1.2.2
    rw [a9, a10, u1, u2]
    obtain ⟨y1, y2, y3, y4⟩ := XP30 hX5
    refine ⟨_, s2, true, t2, rfl, rfl, ⟨n, T, hn, ?_, ?_, fun j hj => ⟨?_, ?_, ?_⟩⟩, ?_, ?_, P, b0 P, hW, hXP2, ⟨⟨?_, ?_, ?_⟩, fun j hj => ?_, fun c hc => ⟨?_, ?_, ?_⟩, fun g hg => ⟨?_, ?_, ?_, ?_⟩⟩, ⟨fun c hc => ?_, fun g hg => ?_, ?_⟩, XB_u.mpr ⟨fun c hc => ?_, fun c hc => ?_, fun c hc => ?_, fun g hg => ?_, ?_, ?_⟩, MR_u.mpr ⟨fun c hc => ?_, fun c hc => ?_, fun c hc => ?_, fun g hg => ?_, ?_, ?_⟩, ⟨0, 0, x0, ⟨by omega, by omega, hx0⟩, ⟨?_, ?_, l5, ?_⟩, fun i hi => by omega⟩, fun q hq => Or.inl ⟨i4 q hq, l6 q hq⟩, Or.inl i5⟩
    · rw [v1 1 (by omega)]; exact h1
    · rw [l4 13 (by decide), uo 13 (by omega), f2.2.2 13 (by omega)]; exact h2
    · rw [v1 2 (by omega)]; exact (h3 j hj).1
    · rw [l2 10 (by omega), uk 10 (by omega), f2.1 10 (by decide) (by decide) (by decide) (by decide)]; exact (h3 j hj).2.1
    · exact (h3 j hj).2.2
    · exact hX.c (v1 24 (by omega)) (v1 25 (by omega)) (by rw [l4 28 (by decide), uo 28 (by omega), f2.2.2 28 (by omega)]) (by rw [l2 18 (by omega), uk 18 (by omega), f2.1 18 (by decide) (by decide) (by decide) (by decide)])
    · exact hD.c (by rw [i3, wI_2, wI_2, g3]; show σ'.2 0 11 = _; rw [f1.2]) (by rw [l3, j3, wI_2, wI_2, wI_2, f2.2.1])
    · rw [l4 0 (by decide)]; exact u0
    · rw [l4 1 (by decide)]; exact u1
    · rw [l4 2 (by decide)]; exact u2
    · have := hW.1
      rw [l2 1 (by omega), j4 j (by omega), wI_nk (by decide), wI_nk (by decide), wI_nk (by decide)]; exact r4 j hj
    · rw [(l9 c (by omega)).1, uk 12 (by omega)]; exact (r5 c hc).1
    · rw [(l9 c (by omega)).2.1, uk 12 (by omega)]; exact (r5 c hc).2.1
    · rw [(l9 c (by omega)).2.2, uk 12 (by omega)]; exact (r5 c hc).2.2
    · rw [(l10 g (by omega)).1, uk 13 (by omega)]; exact (r6 g hg).1
    · rw [(l10 g (by omega)).2.1, uk 13 (by omega)]; exact (r6 g hg).2.1
    · rw [(l10 g (by omega)).2.2.1, uk 13 (by omega)]; exact (r6 g hg).2.2.1
    · rw [(l10 g (by omega)).2.2.2, uk 13 (by omega)]; exact (r6 g hg).2.2.2
    · rw [(b1 c (by omega)).1, (b1 c (by omega)).2, b2 (8 + c) (by omega)]
      have := hW.2.2.2.2.1 c hc
      exact ⟨Nat.le_refl _, rfl, by omega, fun _ => this.2.1⟩
    · rw [b2 (12 + g) (by omega)]; omega
    · rw [b2 17 (by omega)]; omega
    · show s2.1 4 c = _
      rw [v2 4 (by omega) (by omega), (g4 c (by omega)).1, (b1 c (by omega)).1]; exact (y3 c hc).1
    · show s2.1 5 c = _
      rw [v2 5 (by omega) (by omega), (g4 c (by omega)).2.1, (b1 c (by omega)).2]; exact (y3 c hc).2.1
    · show s2.1 6 c = _
      rw [v2 6 (by omega) (by omega), (g4 c (by omega)).2.2.1, b2 (8 + c) (by omega)]
    · show s2.1 7 g = _
      rw [v2 7 (by omega) (by omega), (g4 g (by omega)).2.2.2, b2 (12 + g) (by omega)]
    · rw [v2 3 (by omega) (by omega), g5, b2 16 (by omega)]
    · rw [v2 3 (by omega) (by omega), g6, b2 17 (by omega)]
    · rw [Nat.zero_add, (l11 c (by omega)).1, (b1 c (by omega)).1, uk 12 (by omega)]; exact (r5 c hc).1
    · rw [Nat.zero_add, (l11 c (by omega)).2.1, (b1 c (by omega)).2, uk 12 (by omega)]; exact (r5 c hc).2.1
    · rw [Nat.zero_add, (l11 c (by omega)).2.2.1, b2 (8 + c) (by omega)]
    · rw [Nat.zero_add, (l11 g (by omega)).2.2.2, b2 (12 + g) (by omega)]
    · rw [l7, b2 16 (by omega)]
    · rw [l8, b2 17 (by omega)]
    · rw [i2 13 (by decide) (by decide), wI_eq, il0]
    · rw [i2 13 (by decide) (by decide), wI_nj (by decide), wI_eq, il0]
    · rw [l4 23 (by decide), uo 23 (by omega), f2.2.2 23 (by omega)]; exact hx1
  · rw [if_neg (nI_ne9 (by omega)), if_neg (nI_ne9 (by omega))]
    exact ⟨_, σ', false, τ', rfl, rfl, Rel_read hR f1 f2⟩

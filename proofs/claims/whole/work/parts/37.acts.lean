-- ===== the row of acts =====
theorem xadd32 {σ : ES} {f a : Nat} (hf : f < 16) (ha : a < 16) (h1 : σ.1 13 1 = nI f) (h2 : σ.1 13 2 = nI a) {P : Nat → Nat → Nat} {β : Nat → Nat} (hW : WP P) (hB : XB σ 3 P β) : ∃ s, b_X0_add_13_3_32 σ = some s ∧ (∀ k, k ≠ 13 → k ≠ 14 → s.1 k = σ.1 k) ∧ s.2 = σ.2 ∧ s.1 13 1 = nI f ∧ s.1 13 2 = nI (a + 1) ∧ (∀ q, (q < 18 * ((f + a) % 16) ∨ 18 * ((f + a) % 16) + 18 ≤ q) → s.1 14 q = σ.1 14 q) ∧ XR (s.1 14) (18 * ((f + a) % 16)) P β := by
  unfold b_X0_add_13_3_32
  rw [h1, h2, nI_add, il16, il18, pk_rem (by omega) (by omega) (by omega), pk_mul, Nat.mul_comm _ 18]
  obtain ⟨s, e1, k1, k2, k3⟩ := save14R (σ := σ) (o := 18 * ((f + a) % 16)) (by omega) hW hB
  rw [e1, cl_so, lt_e, k1.1 13 (by decide), h2, il1, nI_add]
  refine ⟨_, rfl, fun k q1 q2 => ?_, k1.2, ?_, ?_, fun q hq => ?_, ?_⟩
  · rw [wI_nk q1, k1.1 k q2]
  · rw [wI_nj (by decide), k1.1 13 (by decide), h1]
  · rw [wI_eq]
  · rw [wI_nk (by decide)]; exact k2 q hq
  · rw [wI_nk (by decide)]; exact k3
theorem mkeep {τ : ES} {x a : Nat} (hx : x < 16) (ha : a ≤ 16) (h1 : τ.1 0 23 = nI x) (h2 : τ.1 0 22 = nI a) : ∃ s, e_X8_keepAct τ = some s ∧ (∀ k, k ≠ 0 → k ≠ 14 → s.1 k = τ.1 k) ∧ s.2 = τ.2 ∧ (∀ j, j ≠ 22 → j ≠ 23 → s.1 0 j = τ.1 0 j) ∧ s.1 0 23 = nI ((x + 1) % 16) ∧ s.1 0 22 = nI (if a < 16 then a + 1 else 16) ∧ ∃ s0, Cpy τ s0 9 0 14 (18 * x) 18 ∧ s.1 14 = s0.1 14 := by
  unfold e_X8_keepAct b_X8_keepAct_0
  obtain ⟨s, k, c1, c2⟩ := loop_FU (fun n c (s : ES) => b_X8_keepAct_2 n (nI c) s) (fun c s => Cpy τ s 9 0 14 (18 * x) c) 18 (by omega) (fun n c s hc hs => ⟨_, hs.step, by
      show b_X8_keepAct_2 (n + 1) _ _ = b_X8_keepAct_2 n _ _
      rw [b_X8_keepAct_2, il18, if_neg (nI_ge hc (by omega)), hs.1.1 0 (by decide), h1, pk_mul, nI_add, rd_nI (by omega) (by omega), wr_nI (by omega) (by omega), lt_e, il1, nI_add, hs.1.1 9 (by decide), Nat.zero_add]⟩) τ Cpy.rf
  rw [il0, c2, b_X8_keepAct_2, il18, if_pos (nI_le (by omega) (by omega)), lt_e, c1.1.1 0 (by decide), h1]
  have e1 : nI x + 1 - (nI x + 1) / 16 * 16 = nI ((x + 1) % 16) := by
    rw [il1, il16, nI_add, pk_rem (by omega) (by omega) (by omega)]
  rw [e1]
  have e2 : (wI s 0 23 (nI ((x + 1) % 16))).1 0 22 = nI a := by rw [wI_nj (by decide), c1.1.1 0 (by decide), h2]
  rw [e2]
  unfold b_X8_keepAct_68
  by_cases c : a < 16
  · rw [il16, if_neg (nI_ge c (by omega)), lt_e, il1, nI_add, if_pos c]
    refine ⟨_, rfl, fun k q1 q2 => ?_, c1.1.2, fun j q1 q2 => ?_, ?_, ?_, s, c1, ?_⟩
    · rw [wI_nk q1, wI_nk q1, c1.1.1 k q2]
    · rw [wI_nj q1, wI_nj q2, c1.1.1 0 (by decide)]
    · rw [wI_nj (by decide), wI_eq]
    · rw [wI_eq]
    · rw [wI_nk (by decide), wI_nk (by decide)]
  · rw [il16, if_pos (nI_le (by omega) (by omega)), lt_e, if_neg c]
    refine ⟨_, rfl, fun k q1 q2 => ?_, c1.1.2, fun j q1 q2 => ?_, ?_, ?_, s, c1, ?_⟩
    · rw [wI_nk q1, wI_nk q1, c1.1.1 k q2]
    · rw [wI_nj q1, wI_nj q2, c1.1.1 0 (by decide)]
    · rw [wI_nj (by decide), wI_eq]
    · rw [wI_eq]
    · rw [wI_nk (by decide), wI_nk (by decide)]
theorem RA_add {σ τ : ES} {P : Nat → Nat → Nat} {β : Nat → Nat} (hA : RA σ τ P) (hW : WP P) (hB : WB P β) (hX : XB σ 3 P β) (hM : MR (τ.1 9) 0 P β) : ∃ s t, e_X0_add_13_3 σ = some s ∧ e_X8_keepAct τ = some t ∧ ((∀ k, k ≠ 13 → k ≠ 14 → s.1 k = σ.1 k) ∧ s.2 = σ.2) ∧ ((∀ k, k ≠ 0 → k ≠ 14 → t.1 k = τ.1 k) ∧ t.2 = τ.2 ∧ ∀ j, j ≠ 22 → j ≠ 23 → t.1 0 j = τ.1 0 j) ∧ RA s t P := by
  obtain ⟨a, f, x, ⟨ha, hf, hx⟩, ⟨h1, h2, h3, h4⟩, h5⟩ := hA
  obtain ⟨t, t1, t2, t3, t4, t5, t6, t0, t7, t8⟩ := mkeep hx ha h4 h3
  unfold e_X0_add_13_3 b_X0_add_13_3_0
  by_cases c : a = 16
  · subst c
    rw [h1, if_pos (by decide), h2, il1, nI_add, il16, pk_rem (by omega) (by omega) (by omega), lt_e, lt_e]
    have e1 : (wI σ 13 1 (nI ((f + 1) % 16))).1 13 2 = nI 16 := by rw [wI_nj (by decide), h1]
    rw [e1, pk_sub (by omega)]
    obtain ⟨s, s1, s2, s3, s4, s5, s6, s7⟩ := xadd32 (σ := wI (wI σ 13 1 (nI ((f + 1) % 16))) 13 2 (nI (16 - 1))) (f := (f + 1) % 16) (a := 15) (by omega) (by omega) (by rw [wI_nj (by decide), wI_eq]) (by rw [wI_eq]) hW (hX.c (fun j q1 q2 => by rw [wI_nk (by omega), wI_nk (by omega)]))
    refine ⟨s, t, s1, t1, ⟨fun k q1 q2 => by rw [s2 k q1 q2, wI_nk q1, wI_nk q1], s3⟩, ⟨t2, t3, t4⟩, 16, (f + 1) % 16, (x + 1) % 16, ⟨by omega, by omega, by omega⟩, ⟨s5, s4, by rw [t6]; simp, t5⟩, fun i hi => ?_⟩
    have es : ∀ q, (q < 18 * (((f + 1) % 16 + 15) % 16) ∨ 18 * (((f + 1) % 16 + 15) % 16) + 18 ≤ q) → s.1 14 q = σ.1 14 q := fun q hq => by
      rw [s6 q hq, wI_nk (by decide), wI_nk (by decide)]
    by_cases ei : i = 15
    · subst ei
      refine ⟨β, hB, s7, ?_⟩
      rw [t8, show ((x + 1) % 16 + 16 - 16 + 15) % 16 = x by omega]
      exact t7.MR hW hM
    · obtain ⟨b, b1, b2, b3⟩ := h5 (i + 1) (by omega)
      refine ⟨b, b1, ?_, ?_⟩
      · rw [show (f + (i + 1)) % 16 = ((f + 1) % 16 + i) % 16 by omega] at b2
        exact b2.c hW (fun q q1 q2 => es q (by omega))
      · rw [t8]
        rw [show (x + 16 - 16 + (i + 1)) % 16 = ((x + 1) % 16 + 16 - 16 + i) % 16 by omega] at b3
        exact b3.c hW (fun q q1 q2 => t7.2.1 q (by omega))
  · rw [h1, if_neg (show ¬ nI a = 16 from fun q => c ((nI_eq (b := 16) (by omega) (by omega)).mp q))]
    obtain ⟨s, s1, s2, s3, s4, s5, s6, s7⟩ := xadd32 (σ := σ) (f := f) (a := a) (by omega) (by omega) h2 h1 hW hX
    refine ⟨s, t, s1, t1, ⟨s2, s3⟩, ⟨t2, t3, t4⟩, a + 1, f, (x + 1) % 16, ⟨by omega, by omega, by omega⟩, ⟨s5, s4, by rw [t6, if_pos (by omega)], t5⟩, fun i hi => ?_⟩
    by_cases ei : i = a
    · subst ei
      refine ⟨β, hB, s7, ?_⟩
      rw [t8, show ((x + 1) % 16 + 16 - (i + 1) + i) % 16 = x by omega]
      exact t7.MR hW hM
    · obtain ⟨b, b1, b2, b3⟩ := h5 i (by omega)
      refine ⟨b, b1, b2.c hW (fun q q1 q2 => s6 q (by omega)), ?_⟩
      rw [t8]
      rw [show (x + 16 - a + i) % 16 = ((x + 1) % 16 + 16 - (a + 1) + i) % 16 by omega] at b3
      exact b3.c hW (fun q q1 q2 => t7.2.1 q (by omega))

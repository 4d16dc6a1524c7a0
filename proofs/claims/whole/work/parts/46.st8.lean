-- ===== night =====
theorem seed_c (x : Int64) : ∃ j, j < 4 ∧ ((((x.toUInt64 >>> ((33 : Int32).toInt64.toUInt64 &&& Int64.toUInt64 63)).toInt64) - ((x.toUInt64 >>> ((33 : Int32).toInt64.toUInt64 &&& Int64.toUInt64 63)).toInt64) / (4 : Int64) * (4 : Int64)).toInt32) = nI j := by
  obtain ⟨n, hn, rfl⟩ := wb_of x
  refine ⟨n / 2 ^ 33 % 4, by omega, ?_⟩
  have h : ((lN n).toUInt64 >>> ((33 : Int32).toInt64.toUInt64 &&& Int64.toUInt64 63)).toInt64 = lN (n / 2 ^ 33) := wb_shr (k := 33) hn (by omega)
  rw [h, show (4 : Int64) = lN 4 from rfl, pk_lRem (by omega) (by omega) (by omega), lN_i]
theorem xsum {s : ES} {P : Nat → Nat → Nat} {β : Nat → Nat} (hG : P 0 2 ≤ 4) (e : s.1 30 10 = nI (P 0 2)) (hX : ∀ g, g < P 0 2 → s.1 12 g = nI (β (12 + g))) : b_X7_night_0_106 FU 0 0 s = some (nI (sumN (fun g => β (12 + g)) (P 0 2)), s) := by
  obtain ⟨v, k, h1, h2⟩ := loop_FU (fun n c (v : Nat) => b_X7_night_0_106 n (nI v) (nI c) s) (fun c v => v = sumN (fun g => β (12 + g)) c) (P 0 2) (by omega) (fun n c v hc hv => ⟨sumN (fun g => β (12 + g)) (c + 1), rfl, by
    subst hv
    show b_X7_night_0_106 (n + 1) _ _ _ = b_X7_night_0_106 n _ _ _
    rw [b_X7_night_0_106, e, if_neg (nI_ge hc (by omega)), rd_nI (by omega) (by omega), hX c hc, lt_e, lt_e, nI_add, il1, nI_add, sumN]⟩) 0 rfl
  subst h1
  rw [show b_X7_night_0_106 FU 0 0 s = _ from h2, b_X7_night_0_106, e, if_pos (nI_le (by omega) (by omega))]
theorem msum {t : ES} {P : Nat → Nat → Nat} {β : Nat → Nat} (hG : P 0 2 ≤ 4) (e : t.1 0 2 = nI (P 0 2)) (hX : ∀ g, g < P 0 2 → t.1 9 (30 + g) = nI (β (12 + g))) : b_X8_night_115 FU 0 0 t = some (nI (sumN (fun g => β (12 + g)) (P 0 2)), t) := by
  obtain ⟨v, k, h1, h2⟩ := loop_FU (fun n c (v : Nat) => b_X8_night_115 n (nI v) (nI c) t) (fun c v => v = sumN (fun g => β (12 + g)) c) (P 0 2) (by omega) (fun n c v hc hv => ⟨sumN (fun g => β (12 + g)) (c + 1), rfl, by
    subst hv
    show b_X8_night_115 (n + 1) _ _ _ = b_X8_night_115 n _ _ _
    rw [b_X8_night_115, e, if_neg (nI_ge hc (by omega)), il30, nI_add, rd_nI (by omega) (by omega), hX c hc, lt_e, lt_e, nI_add, il1, nI_add, sumN]⟩) 0 rfl
  subst h1
  rw [show b_X8_night_115 FU 0 0 t = _ from h2, b_X8_night_115, e, if_pos (nI_le (by omega) (by omega))]
theorem night_loop {σ τ : ES} {P : Nat → Nat → Nat} (hW : WP P) (hXP : XPt σ 30 P) (hMP : MPt τ P) {n : Nat} (hn : n ≤ 20) : ∀ m i s t β, i + m = n → Tr σ τ s t P β → s.2 0 11 = t.2 0 31 → ∀ f1 f2, m < f1 → m < f2 → ∃ s' t' β', b_X7_night_0_27 f1 (nI n) (nI i) s = b_X7_night_0_106 FU 0 0 s' ∧ b_X8_night_23 f2 (nI n) (nI i) t = b_X8_night_115 FU 0 0 t' ∧ Tr σ τ s' t' P β' ∧ s'.2 0 11 = t'.2 0 31 := by
  have w2 := hW.2.1
  intro m
  induction m with
  | zero =>
    intro i s t β hi hT hs f1 f2 h1 h2
    obtain ⟨k1, rfl⟩ : ∃ k, f1 = k + 1 := ⟨f1 - 1, by omega⟩
    obtain ⟨k2, rfl⟩ : ∃ k, f2 = k + 1 := ⟨f2 - 1, by omega⟩
    rw [b_X7_night_0_27, b_X8_night_23, if_pos (nI_le (by omega) (by omega)), if_pos (nI_le (by omega) (by omega))]
    exact ⟨s, t, β, rfl, rfl, hT, hs⟩
  | succ m ih =>
    intro i s t β hi hT hs f1 f2 h1 h2
    obtain ⟨k1, rfl⟩ : ∃ k, f1 = k + 1 := ⟨f1 - 1, by omega⟩
    obtain ⟨k2, rfl⟩ : ∃ k, f2 = k + 1 := ⟨f2 - 1, by omega⟩
    obtain ⟨T1, T2, T3, T4, T5, T6⟩ := id hT
    obtain ⟨x1, x2, x3, x4, x5, x6⟩ := XB_u.mp T5
    obtain ⟨m1, m2, m3, m4, m5, m6⟩ := MR_u.mp T6
    have b17 : β 17 ≤ 20 := T4.2.2
    rw [b_X7_night_0_27, b_X8_night_23, if_neg (nI_ge (show i < n by omega) (by omega)), if_neg (nI_ge (show i < n by omega) (by omega)), x6, il35, rd_nI (by omega) (by omega), show t.1 9 35 = nI (β 17) from m6]
    by_cases c20 : β 17 = 20
    · rw [c20, if_pos (show (20 : Int32) ≤ nI 20 by decide), if_pos (show (20 : Int32) ≤ nI 20 by decide)]
      exact ⟨s, t, β, rfl, rfl, hT, hs⟩
    · have q20 : ¬ (20 : Int32) ≤ nI (β 17) := nI_ge (b := 20) (by omega) (by omega)
      rw [if_neg q20, if_neg q20, ← hs]
      generalize s.2 0 11 * 6364136223846793005 + 1442695040888963407 = v
      rw [lt_e, lt_e, lt_e, wL_eq, wL_eq]
      obtain ⟨j, hj, ej⟩ := seed_c v
      rw [ej]
      have hT2 : Tr σ τ (wL s 0 11 v) (wL t 0 31 v) P β := hT
      have hs2 : (wL s 0 11 v).2 0 11 = (wL t 0 31 v).2 0 31 := by rw [wL_eq, wL_eq]
      generalize wL s 0 11 v = s1 at hT2 hs2 ⊢
      generalize wL t 0 31 v = t1 at hT2 hs2 ⊢
      obtain ⟨T1, T2, T3, T4, T5, T6⟩ := id hT2
      obtain ⟨x1, x2, x3, x4, x5, x6⟩ := XB_u.mp T5
      obtain ⟨m1, m2, m3, m4, m5, m6⟩ := MR_u.mp T6
      have es9 : s1.1 30 9 = nI (P 0 1) := by rw [T1 30 (by omega)]; exact hXP.1.2.1
      have et1 : t1.1 0 1 = nI (P 0 1) := by rw [T2 0 (by decide)]; exact hMP.1.2.1
      have fin : ∀ s2 t2 β2, Tr σ τ s2 t2 P β2 → β2 17 < 20 → s2.2 0 11 = t2.2 0 31 → ∃ s' t' β', (cs (e_X2_goBy_8_30 s2) fun r9 σ8 => lt (nI i + 1) fun x10 => b_X7_night_0_27 k1 (nI n) x10 σ8) = b_X7_night_0_106 FU 0 0 s' ∧ b_X8_night_99 (fun z0 z1 z2 => b_X8_night_23 k2 z0 z1 z2) (nI n) (nI i) t2 = b_X8_night_115 FU 0 0 t' ∧ Tr σ τ s' t' P β' ∧ s'.2 0 11 = t'.2 0 31 := by
        intro s2 t2 β2 q1 q2 q3
        obtain ⟨s3, t3, u1, u2, u3, u4, u5⟩ := q1.go hW hXP hMP q2
        unfold b_X8_night_99
        rw [u1, u2, cs_so, cs_so, lt_e, lt_e, il1, nI_add]
        exact ih (i + 1) s3 t3 _ (by omega) u3 (by rw [u4, u5]; exact q3) k1 k2 (by omega) (by omega)
      by_cases cN : j < P 0 1
      · have y3 : s1.1 11 j = nI (β (8 + j)) := x3 j cN
        have z3 : t1.1 9 (26 + j) = nI (β (8 + j)) := by rw [show 26 + j = 18 + (8 + j) by omega]; exact m3 j cN
        have b := WBc hW T4 cN
        rw [misC_in et1 w2 cN, cl_so, if_neg one_ne, il26, nI_add, rd_nI (by omega) (by omega), z3]
        by_cases c0 : β (8 + j) = 0
        · rw [c0] at y3
          rw [xlic_yes es9 w2 cN y3, cs_so, c0, if_pos (show nI 0 = 0 from rfl), wr_nI (by omega) (by omega)]
          exact fin _ _ _ (hT2.lit hW cN c0) (by rw [un_ne (by omega)]; omega) hs2
        · rw [xlic_no es9 w2 cN y3 (by omega) (by omega), cs_so, if_neg (nI_ne0 (show 0 < β (8 + j) by omega) (by omega))]
          exact fin _ _ _ hT2 (by omega) hs2
      · have ho : nI j < 0 ∨ (¬ nI j < 0 ∧ nI (P 0 1) ≤ nI j) := Or.inr ⟨nI_pos (by omega), nI_le (by omega) (by omega)⟩
        rw [xlic_out es9 ho, cs_so, misC_out et1 w2 ho, cl_so, if_pos (show (0 : Int32) = 0 from rfl)]
        exact fin _ _ _ hT2 (by omega) hs2
theorem st_night {σ τ : ES} (hR : Rel σ τ) (a0 : Int32) : ∃ (r : Int32) (σ' : ES) (τ' : ES), e_X7_night_0 a0 σ = some (r, σ') ∧ e_X8_night a0 τ = some (r, τ') ∧ Rel σ' τ' := by
  obtain ⟨hT, hX, hD, P, β, hW, hXP, hMP, hB, hXB, hMB, hA, hS, hG⟩ := id hR
  unfold e_X7_night_0 b_X7_night_0_0 e_X8_night b_X8_night_0
  rw [in_ll a0 (l := 1) (h := 20) (by decide) (by decide), cl_in]
  by_cases c0 : a0 < 1
  · rw [if_pos c0, if_neg (show ¬ (1 ≤ a0 ∧ a0 ≤ 20) from fun q => Int32.not_lt.mpr q.1 c0)]
    exact ⟨_, _, _, rfl, rfl, hR⟩
  · rw [if_neg c0]
    by_cases c1 : a0 ≤ 20
    · rw [if_pos c1, if_pos (show 1 ≤ a0 ∧ a0 ≤ 20 from ⟨Int32.not_lt.mp c0, c1⟩)]
      obtain ⟨n, n1, n2, rfl⟩ := rng (a := 1) (b := 20) (by omega) (by omega) c0 c1
      obtain ⟨s, s1, s2, s3⟩ := xcopy hW hXB
      obtain ⟨t, t1, t2, t3⟩ := mlay hW hMB
      rw [s1, t1, cl_so, cl_so]
      obtain ⟨s', t', β', u1, u2, u3, u4⟩ := night_loop hW hXP hMP n2 n 0 s t β (by omega) ⟨s2.1, t2.1.1, fun q hq => t2.2 q (by omega), hB, s3, t3⟩ (by rw [s2.2, t2.1.2]; exact hD) FU FU (by unfold FU; omega) (by unfold FU; omega)
      obtain ⟨T1, T2, T3, T4, T5, T6⟩ := id u3
      have g4 := hW.2.2.1
      rw [show b_X7_night_0_27 FU (nI n) 0 s = _ from u1, show b_X8_night_23 FU (nI n) 0 t = _ from u2, xsum (P := P) (β := β') g4 (by rw [T1 30 (by omega)]; exact hXP.1.2.2) (fun g hg => (XB_u.mp T5).2.2.2.1 g hg), msum (P := P) (β := β') g4 (by rw [T2 0 (by decide)]; exact hMP.1.2.2) (fun g hg => by rw [show 30 + g = 18 + (12 + g) by omega]; exact (MR_u.mp T6).2.2.2.1 g hg)]
      exact ⟨_, s', t', rfl, rfl, Rel_trial hR T1 T2 T3 u4⟩
    · rw [if_neg c1, if_neg (show ¬ (1 ≤ a0 ∧ a0 ≤ 20) from fun q => c1 q.2)]
      exact ⟨_, _, _, rfl, rfl, hR⟩

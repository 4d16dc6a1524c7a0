-- ===== step, judge, night =====
theorem st_step {σ τ : ES} (hR : Rel σ τ)  : ∃ (r : Int32) (σ' : ES) (τ' : ES), e_X7_step_0  σ = some (r, σ') ∧ e_X8_step  τ = some (r, τ') ∧ Rel σ' τ' := by
  obtain ⟨hT, hX, hD, P, β, hW, hXP, hMP, hB, hXB, hMB, hA, hS, hG⟩ := id hR
  have b17 : β 17 ≤ 20 := hB.2.2
  have x6 := (XB3 hXB).2.2.2
  have m6 := (MR0 hMB).2.2.2
  unfold e_X7_step_0 b_X7_step_0_0 e_X8_step b_X8_step_0
  rw [x6, il17, rd_nI (by omega) (by omega), m6]
  by_cases c : β 17 = 20
  · rw [c, if_neg (show ¬ nI 20 < 20 by decide), if_pos (show nI 20 = 20 from rfl)]
    exact ⟨_, _, _, rfl, rfl, hR⟩
  · rw [if_pos (show nI (β 17) < 20 from nI_lt (b := 20) (by omega) (by omega)), if_neg (show ¬ nI (β 17) = 20 from fun q => c ((nI_eq (b := 20) (by omega) (by omega)).mp q))]
    obtain ⟨s, t, e1, e2, ⟨f1, f2⟩, ⟨g1, g2, g3⟩, hA2, hF⟩ := remember hA hW hB hXB hMB
    rw [e1, e2, cl_so, cl_so]
    have hMP2 : MPt t P := hMP.c (fun k q1 q2 => g1 k (by omega) (by omega)) (g3 _ (by decide) (by decide)) (g3 _ (by decide) (by decide)) (g3 _ (by decide) (by decide))
    obtain ⟨s2, u1, u2, u3⟩ := xgo3 hW (hXP.c (fun k q1 q2 => f1 k (by omega) (by omega) (by omega))) hB (hXB.c (fun k q1 q2 => f1 k (by omega) (by omega) (by omega)))
    obtain ⟨t2, v1, v2, v3⟩ := mpass (L := 0) (τ := t) (by omega) hW hMP2 hB (by rw [g1 9 (by decide) (by decide)]; exact hMB)
    rw [u1, show e_X8_pass 0 t = some (nI (who P β), t2) from v1, cs_so, cs_so]
    refine ⟨_, _, _, rfl, rfl, Rel_act hT hX hD hW hXP hMP hS (fun k hk => ?_) (by rw [u2.2, f2]) (fun k q1 q2 q3 => ?_) (fun k q1 q2 => ?_) (by rw [v2.1.2, g2]) (hB.nx hW (by omega)) u3 v3 (hA2.w (fun k hk => u2.1 k (by omega)) (fun k hk => v2.1.1 k (by omega))) (by rw [u2.1 15 (by decide)]; exact hF)⟩
    · rw [u2.1 k (by omega), f1 k (by omega) (by omega) (by omega)]
    · rw [v2.1.1 k q2, g1 k q1 q3]
    · rw [v2.1.1 0 (by decide), g3 k q1 q2]
/-- trial evenings change nothing -/
theorem Rel_trial {σ τ s t : ES} (hR : Rel σ τ) (hx : ∀ k, (k < 8 ∨ 8 + 4 < k) → s.1 k = σ.1 k) (hm : ∀ k, k ≠ 9 → t.1 k = τ.1 k) (h9 : ∀ q, q < 18 → t.1 9 q = τ.1 9 q) (hd : s.2 0 11 = t.2 0 31) : Rel s t := by
  obtain ⟨hT, hX, hD, P, β, hW, hXP, hMP, hB, hXB, hMB, hA, hS, hG⟩ := hR
  refine ⟨hT.c (hx _ (by omega)) (hx _ (by omega)) (by rw [hm 0 (by decide)]) (hm _ (by decide)), hX.c (hx _ (by omega)) (hx _ (by omega)) (by rw [hm 0 (by decide)]) (hm _ (by decide)), hd, P, β, hW, hXP.c (fun k q1 q2 => hx k (by omega)), hMP.c (fun k q1 q2 => hm k (by omega)) (by rw [hm 0 (by decide)]) (by rw [hm 0 (by decide)]) (by rw [hm 0 (by decide)]), hB, hXB.c (fun k q1 q2 => hx k (by omega)), hMB.c hW (fun q q1 q2 => h9 q (by omega)), hA.w (fun k hk => hx k (by omega)) (fun k hk => hm k (by omega)), hS.c (hx _ (by omega)) (hx _ (by omega)) (hm _ (by decide)) (hm _ (by decide)), hG.c (hx _ (by omega)) (hx _ (by omega)) (hx _ (by omega))⟩
theorem xcopy {σ : ES} {P : Nat → Nat → Nat} {β : Nat → Nat} (hW : WP P) (hX : XB σ 3 P β) : ∃ s, e_X2_copy_8_3 σ = some s ∧ Xf σ s 8 ∧ XB s 8 P β := by
  have w2 := hW.2.1
  have w3 := hW.2.2.1
  unfold e_X2_copy_8_3 b_X2_copy_8_3_0
  obtain ⟨s, k, ⟨a1, a2⟩, h2⟩ := loop_FU (fun n c (s : ES) => b_X2_copy_8_3_2 n (nI c) s) (fun c s => Xf σ s 8 ∧ ∀ j, j < c → s.1 9 j = σ.1 4 j ∧ s.1 10 j = σ.1 5 j ∧ s.1 11 j = σ.1 6 j) 4 (by omega) (fun n c s hc hs => ⟨wI (wI (wI s 9 c (σ.1 4 c)) 10 c (σ.1 5 c)) 11 c (σ.1 6 c), by
      obtain ⟨a1, a2⟩ := hs
      refine ⟨((a1.w (by omega) (by omega)).w (by omega) (by omega)).w (by omega) (by omega), fun j hj => ?_⟩
      by_cases e : j = c
      · subst e
        refine ⟨?_, ?_, ?_⟩
        · rw [wI_nk (by decide), wI_nk (by decide), wI_eq]
        · rw [wI_nk (by decide), wI_eq]
        · rw [wI_eq]
      · obtain ⟨b1, b2, b3⟩ := a2 j (by omega)
        refine ⟨?_, ?_, ?_⟩
        · rw [wI_nk (by decide), wI_nk (by decide), wI_nj e]; exact b1
        · rw [wI_nk (by decide), wI_nj e, wI_nk (by decide)]; exact b2
        · rw [wI_nj e, wI_nk (by decide), wI_nk (by decide)]; exact b3, by
      obtain ⟨a1, a2⟩ := hs
      show b_X2_copy_8_3_2 (n + 1) _ _ = b_X2_copy_8_3_2 n _ _
      rw [b_X2_copy_8_3_2, il4, if_neg (nI_ge hc (by omega)), rd_nI (by omega) (by omega), wr_nI (by omega) (by omega), rd_nI (by omega) (by omega), wr_nI (by omega) (by omega), rd_nI (by omega) (by omega), wr_nI (by omega) (by omega), lt_e, il1, nI_add, wI_nk (show 5 ≠ 9 by decide), wI_nk (show 6 ≠ 10 by decide), wI_nk (show 6 ≠ 9 by decide), a1.1 4 (by decide), a1.1 5 (by decide), a1.1 6 (by decide)]⟩) σ ⟨Xf.rf, fun j h => by omega⟩
  obtain ⟨s2, k2, ⟨b1, b2, b3⟩, h4⟩ := loop_FU (fun n c (s : ES) => b_X2_copy_8_3_51 n (nI c) s) (fun c s => Xf σ s 8 ∧ (∀ j, j < 4 → s.1 9 j = σ.1 4 j ∧ s.1 10 j = σ.1 5 j ∧ s.1 11 j = σ.1 6 j) ∧ ∀ j, j < c → s.1 12 j = σ.1 7 j) 4 (by omega) (fun n c s hc hs => ⟨wI s 12 c (σ.1 7 c), by
      obtain ⟨a1, a2, a3⟩ := hs
      refine ⟨a1.w (by omega) (by omega), fun j hj => ?_, fun j hj => ?_⟩
      · rw [wI_nk (by decide), wI_nk (by decide), wI_nk (by decide)]; exact a2 j hj
      · by_cases e : j = c
        · subst e; rw [wI_eq]
        · rw [wI_nj e]; exact a3 j (by omega), by
      obtain ⟨a1, a2, a3⟩ := hs
      show b_X2_copy_8_3_51 (n + 1) _ _ = b_X2_copy_8_3_51 n _ _
      rw [b_X2_copy_8_3_51, il4, if_neg (nI_ge hc (by omega)), rd_nI (by omega) (by omega), wr_nI (by omega) (by omega), lt_e, il1, nI_add, a1.1 7 (by decide)]⟩) s ⟨a1, a2, fun j h => by omega⟩
  rw [show b_X2_copy_8_3_2 FU 0 σ = _ from h2, b_X2_copy_8_3_2, il4, if_pos (nI_le (by omega) (by omega)), show b_X2_copy_8_3_51 FU 0 s = _ from h4, b_X2_copy_8_3_51, il4, if_pos (nI_le (by omega) (by omega)), lt_e, lt_e, wI_nk (show 3 ≠ 8 by decide), b1.1 3 (by decide)]
  obtain ⟨x1, x2, x3, x4⟩ := XB3 hX
  refine ⟨_, rfl, (b1.w (by omega) (by omega)).w (by omega) (by omega), fun c hc => ?_, fun g hg => ?_, ?_, ?_⟩
  · show (wI (wI s2 8 4 _) 8 5 _).1 9 c = _ ∧ (wI (wI s2 8 4 _) 8 5 _).1 10 c = _ ∧ (wI (wI s2 8 4 _) 8 5 _).1 11 c = _
    obtain ⟨c1, c2, c3⟩ := b2 c (by omega)
    rw [wI_nk (by decide), wI_nk (by decide), wI_nk (by decide), wI_nk (by decide), wI_nk (by decide), wI_nk (by decide), c1, c2, c3]; exact x1 c hc
  · show (wI (wI s2 8 4 _) 8 5 _).1 12 g = _
    rw [wI_nk (by decide), wI_nk (by decide), b3 g (by omega)]; exact x2 g hg
  · rw [wI_nj (by decide), wI_eq]; exact x3
  · rw [wI_eq]; exact x4
theorem mlay {τ : ES} {P : Nat → Nat → Nat} {β : Nat → Nat} (hW : WP P) (hM : MR (τ.1 9) 0 P β) : ∃ t, e_X8_lay 0 1 τ = some t ∧ Rw τ t 18 ∧ MR (t.1 9) 18 P β := by
  unfold e_X8_lay b_X8_lay_0
  obtain ⟨t, k, u1, u2⟩ := loop_FU (fun n c (s : ES) => b_X8_lay_2 n 0 1 (nI c) s) (fun c s => Cpy τ s 9 0 9 18 c) 18 (by omega) (fun n c s hc hs => ⟨_, hs.step, by
    show b_X8_lay_2 (n + 1) _ _ _ _ = b_X8_lay_2 n _ _ _ _
    have src := hs.src (by omega)
    rw [Nat.zero_add] at src
    rw [b_X8_lay_2, il18, if_neg (nI_ge hc (by omega)), il0, il1, pk_mul, pk_mul, nI_add, nI_add, Nat.mul_zero, Nat.mul_one, Nat.zero_add, rd_nI (by omega) (by omega), wr_nI (by omega) (by omega), lt_e, nI_add, src]⟩) τ Cpy.rf
  rw [show b_X8_lay_2 FU 0 1 0 τ = _ from u2, b_X8_lay_2, il18, if_pos (nI_le (by omega) (by omega))]
  exact ⟨t, rfl, ⟨u1.1, fun q hq => u1.2.1 q (by omega)⟩, u1.MR hW hM⟩
/-- class and reference in a trial evening -/
def Tr (σ τ s t : ES) (P : Nat → Nat → Nat) (β : Nat → Nat) : Prop := (∀ k, (k < 8 ∨ 8 + 4 < k) → s.1 k = σ.1 k) ∧ (∀ k, k ≠ 9 → t.1 k = τ.1 k) ∧ (∀ q, q < 18 → t.1 9 q = τ.1 9 q) ∧ WB P β ∧ XB s 8 P β ∧ MR (t.1 9) 18 P β
theorem Tr.go {σ τ s t : ES} {P : Nat → Nat → Nat} {β : Nat → Nat} (h : Tr σ τ s t P β) (hW : WP P) (hXP : XPt σ 30 P) (hMP : MPt τ P) (h17 : β 17 < 20) : ∃ s' t', e_X2_goBy_8_30 s = some (nI (who P β), s') ∧ e_X8_pass 1 t = some (nI (who P β), t') ∧ Tr σ τ s' t' P (nx P β) ∧ s'.2 = s.2 ∧ t'.2 = t.2 := by
  obtain ⟨h1, h2, h3, h4, h5, h6⟩ := h
  obtain ⟨s2, u1, u2, u3⟩ := xgo8 hW (hXP.c (fun k q1 q2 => h1 k (by omega))) h4 h5
  obtain ⟨t2, v1, v2, v3⟩ := mpass (L := 1) (τ := t) (by omega) hW (hMP.c (fun k q1 q2 => h2 k (by omega)) (by rw [h2 0 (by decide)]) (by rw [h2 0 (by decide)]) (by rw [h2 0 (by decide)])) h4 h6
  exact ⟨s2, t2, u1, v1, ⟨fun k hk => by rw [u2.1 k hk, h1 k hk], fun k hk => by rw [v2.1.1 k hk, h2 k hk], fun q hq => by rw [v2.2 q (by omega), h3 q hq], h4.nx hW h17, u3, v3⟩, u2.2, v2.1.2⟩
/-- a candle of a trial evening is lit, or it can't be -/
theorem Tr.lit {σ τ s t : ES} {P : Nat → Nat → Nat} {β : Nat → Nat} (h : Tr σ τ s t P β) (hW : WP P) {j : Nat} (hj : j < P 0 1) (h0 : β (8 + j) = 0) : Tr σ τ (wI s 11 j (nI 1)) (wI t 9 (26 + j) (nI 1)) P (un β (8 + j) 1) := by
  obtain ⟨h1, h2, h3, h4, h5, h6⟩ := h
  have w2 := hW.2.1
  have w3 := hW.2.2.1
  have b := WBc hW h4 hj
  refine ⟨fun k hk => by rw [wI_nk (by omega), h1 k hk], fun k hk => by rw [wI_nk hk, h2 k hk], fun q hq => by rw [wI_nj (by omega), h3 q hq], h4.un8 (by omega) w2 (by omega) (by omega), ?_, h6.un8 w2 w3 (by omega) (by rw [show 18 + 8 + j = 26 + j by omega, wI_eq]) (fun q hq => by rw [wI_nj (by omega)])⟩
  obtain ⟨x1, x2, x3, x4, x5, x6⟩ := XB_u.mp h5
  refine XB_u.mpr ⟨fun i hi => ?_, fun i hi => ?_, fun i hi => ?_, fun i hi => ?_, ?_, ?_⟩
  · rw [wI_nk (by decide), un_ne (by omega)]; exact x1 i hi
  · rw [wI_nk (by decide), un_ne (by omega)]; exact x2 i hi
  · show (wI s 11 j (nI 1)).1 11 i = _
    by_cases e : i = j
    · subst e; rw [wI_eq, un_eq]
    · rw [wI_nj e, un_ne (by omega)]; exact x3 i hi
  · rw [wI_nk (by decide), un_ne (by omega)]; exact x4 i hi
  · rw [wI_nk (by decide), un_ne (by omega)]; exact x5
  · rw [wI_nk (by decide), un_ne (by omega)]; exact x6

-- ===== plans: the class's work =====
theorem xwork {P : Nat → Nat → Nat} {β : Nat → Nat} {σ : ES} (hW : WP P) (hB : WB P β) (hXP : XPt σ 30 P) (hX : XB σ 3 P β) (hG : RG σ P β) : ∃ s, e_X4_work_15_30_3 σ = some s ∧ (∀ k, (k < 15 ∨ 23 < k) → s.1 k = σ.1 k) ∧ (∀ k, k < 15 → s.2 k = σ.2 k) ∧ PlanOK s P β ∧ s.1 15 11 = nI 1 := by
  have w3 := hW.2.2.1
  have w2 := hW.2.1
  have h16 : 2 ^ P 0 2 ≤ 16 := Nat.pow_le_pow_right (n := 2) (j := 4) (by decide) w3
  have hpos := Nat.two_pow_pos (P 0 2)
  unfold e_X4_work_15_30_3 b_X4_work_15_30_3_0
  rcases hG with h0 | ⟨h1, h2⟩
  · rw [h0, if_pos (show nI 0 = 0 from rfl), lt_e, hXP.1.2.2]
    have x8 : (wI σ 15 8 (nI (P 0 2))).1 15 8 = nI (P 0 2) := wI_eq
    have esh : (1 : Int32) <<< (nI (P 0 2) &&& 31) - 1 = nI (2 ^ P 0 2 - 1) := by rw [il1, nI_sh _ (by omega), pk_sub (by omega)]
    rw [x8, esh, lt_e, lt_e]
    obtain ⟨s1, j, ⟨a1, a2⟩, e2⟩ := loop_FU (fun n c (s : ES) => b_X4_work_15_30_3_35 n (nI c) s) (fun c s => Kp (wI (wI (wI σ 15 8 (nI (P 0 2))) 15 9 (nI (2 ^ P 0 2 - 1))) 15 10 0) s 23 ∧ ∀ S, S < c → s.1 23 S = nI 1000000) (2 ^ P 0 2) (by omega) (fun n c s hc hs => ⟨wI s 23 c (nI 1000000), ⟨hs.1.w, fun S hS => by
        by_cases e : S = c
        · subst e; rw [wI_eq]
        · rw [wI_nj e]; exact hs.2 S (by omega)⟩, by
      show b_X4_work_15_30_3_35 (n + 1) _ _ = b_X4_work_15_30_3_35 n _ _
      have z9 : s.1 15 9 = nI (2 ^ P 0 2 - 1) := by rw [hs.1.1 15 (by decide), wI_nj (by decide), wI_eq]
      rw [b_X4_work_15_30_3_35, z9, if_neg (nI_nlt (by omega) (by omega)), if_neg (show ¬ (16 : Int32) ≤ nI c from nI_ge (b := 16) (by omega) (by omega)), wr_nI (by omega) (by omega), lt_e, nI_1, il1000000]⟩) (wI (wI (wI σ 15 8 (nI (P 0 2))) 15 9 (nI (2 ^ P 0 2 - 1))) 15 10 0) ⟨Kp.rf, fun S hS => by omega⟩
    have e3 : b_X4_work_15_30_3_35 FU 0 (wI (wI (wI σ 15 8 (nI (P 0 2))) 15 9 (nI (2 ^ P 0 2 - 1))) 15 10 0) = _ := e2
    have y8 : s1.1 15 8 = nI (P 0 2) := by rw [a1.1 15 (by decide), wI_nj (by decide), wI_nj (by decide), wI_eq]
    have y9 : s1.1 15 9 = nI (2 ^ P 0 2 - 1) := by rw [a1.1 15 (by decide), wI_nj (by decide), wI_eq]
    have y10 : s1.1 15 10 = nI 0 := by rw [a1.1 15 (by decide), wI_eq, il0]
    have f1 : ∀ k, k ≠ 15 → k ≠ 23 → s1.1 k = σ.1 k := fun k k1 k2 => by rw [a1.1 k k2, wI_nk k1, wI_nk k1, wI_nk k1]
    have f2 : s1.2 = σ.2 := a1.2
    rw [e3, b_X4_work_15_30_3_35, y9, if_pos (nI_lt (by omega) (by omega))]
    obtain ⟨s2, j, ⟨b1, b2, b3⟩, e4⟩ := loop_FU (fun n c (s : ES) => b_X4_work_15_30_3_68 n (nI c) s) (fun c s => (∀ k, k ≠ 20 → s.1 k = s1.1 k) ∧ (∀ k, k ≠ 19 → s.2 k = s1.2 k) ∧ ∀ g, g < c → s.2 19 g = JL (TF P β g) ∧ s.1 20 g = nI (P 6 g) - nI (β (12 + g))) (P 0 2) (by omega) (fun n c s hc hs => ⟨wI (wL s 19 c (JL (TF P β c))) 20 c (nI (P 6 c) - nI (β (12 + c))), by
      obtain ⟨h1, h2, h3⟩ := hs
      have hXPs : XPt s 30 P := hXP.c (fun k q1 q2 => by rw [h1 k (by omega), f1 k (by omega) (by omega)])
      have hXs : XB s 3 P β := hX.c (fun k q1 q2 => by rw [h1 k (by omega), f1 k (by omega) (by omega)])
      refine ⟨⟨fun k hk => by rw [wI_nk hk, wL_1]; exact h1 k hk, fun k hk => by rw [wI_2, wL_nk hk]; exact h2 k hk, fun g hg => ?_⟩, ?_⟩
      · rw [wI_2]
        by_cases e : g = c
        · subst e; rw [wL_eq, wI_eq]; exact ⟨rfl, rfl⟩
        · rw [wL_nj e, wI_nj e, wL_1]; exact h3 g (by omega)
      · show b_X4_work_15_30_3_68 (n + 1) _ _ = b_X4_work_15_30_3_68 n _ _
        rw [b_X4_work_15_30_3_68, hXPs.1.2.2, if_neg (nI_ge hc (by omega)), xguest hW hB hXPs hXs hc, cl_so, lt_e, nI_1]⟩) s1 ⟨fun _ _ => rfl, fun _ _ => rfl, fun g hg => by omega⟩
    have e5 : b_X4_work_15_30_3_68 FU 0 s1 = _ := e4
    have hXP2 : XPt s2 30 P := hXP.c (fun k q1 q2 => by rw [b1 k (by omega), f1 k (by omega) (by omega)])
    have hX2 : XB s2 3 P β := hX.c (fun k q1 q2 => by rw [b1 k (by omega), f1 k (by omega) (by omega)])
    rw [e5, b_X4_work_15_30_3_68, hXP2.1.2.2, if_pos (nI_le (by omega) (by omega))]
    obtain ⟨s3, j, ⟨c1, c2, c3⟩, e6⟩ := loop_FU (fun n c (s : ES) => b_X4_work_15_30_3_94 n (JL (stB P β c)) (nI c) s) (fun c s => (∀ k, k ≠ 17 → k ≠ 18 → s.1 k = s2.1 k) ∧ (∀ k, k ≠ 16 → s.2 k = s2.2 k) ∧ ∀ i, i < c → s.1 18 i = nI (if i < P 0 1 ∧ β (8 + i) = 0 then 6 else 0) ∧ s.1 17 i = nI (if i < P 0 1 ∧ β (8 + i) = 0 then P 4 i * β (4 + i) else 0) ∧ ∀ f, f < 7 → s.2 16 (7 * i + f) = JL (sf P β i f)) 4 (by omega) (fun n c s hc hs => by
      obtain ⟨h1, h2, h3⟩ := hs
      have hXPs : XPt s 30 P := hXP2.c (fun k q1 q2 => h1 k (by omega) (by omega))
      have hXs : XB s 3 P β := hX2.c (fun k q1 q2 => h1 k (by omega) (by omega))
      obtain ⟨t, g1, g2, g3, g4, g5, g6, g7, g8⟩ := xcandle hW hB hXPs hXs hc
      refine ⟨t, ⟨fun k k1 k2 => by rw [g2 k k1 k2]; exact h1 k k1 k2, fun k hk => by rw [g3 k hk]; exact h2 k hk, fun i hi => ?_⟩, ?_⟩
      · by_cases e : i = c
        · subst e; exact ⟨g6, g7, g8⟩
        · obtain ⟨q1, q2, q3⟩ := h3 i (by omega)
          exact ⟨by rw [(g4 i e).2]; exact q1, by rw [(g4 i e).1]; exact q2, fun f hf => by rw [g5 _ (by omega)]; exact q3 f hf⟩
      · show b_X4_work_15_30_3_94 (n + 1) _ _ _ = b_X4_work_15_30_3_94 n _ _ _
        rw [b_X4_work_15_30_3_94, if_neg (show ¬ (4 : Int32) ≤ nI c from nI_ge (b := 4) hc (by omega)), g1, cs_so, lt_e, lt_e, nI_1, JL_or]
        rfl) s2 ⟨fun _ _ _ => rfl, fun _ _ => rfl, fun i hi => by omega⟩
    have e7 : b_X4_work_15_30_3_94 FU 0 0 s2 = b_X4_work_15_30_3_94 (j + 1) (JL (stB P β 4)) (nI 4) s3 := by
      rw [JL_0, JL_c (F := fun _ => false) (G := stB P β 0) (fun b _ => rfl)]; exact e6
    have LGs : LG P β s3 := fun g hg => by
      rw [c2 19 (by decide), c1 20 (by decide) (by decide)]; exact b3 g hg
    have ps0 : PS P β s3 s3 0 := by
      have k15 : s3.1 15 = s1.1 15 := by rw [c1 15 (by decide) (by decide), b1 15 (by decide)]
      have k23 : s3.1 23 = s1.1 23 := by rw [c1 23 (by decide) (by decide), b1 23 (by decide)]
      exact ⟨fun _ _ _ _ _ => rfl, rfl, by rw [k15]; exact y8, by rw [k15]; exact y9, ⟨0, by omega, by rw [k15]; exact y10, fun g hg => by simp [anyN]⟩, fun S hS => by rw [k23, a2 S hS]; rfl, fun q hq => absurd hq (by simp [ext])⟩
    obtain ⟨s4, d1, d2, -⟩ := xtry hW hB LGs c3 4 (by omega) 0 s3 6 ⟨0, rfl⟩ (by omega) (fun k hk => by omega) ps0 (fun k hk => by omega) (by omega)
    have e8 : e_X4_tryCandle_15 6 0 (JL (stB P β 4)) 0 s3 = some s4 := by
      rw [← d1, JL_c (F := stB P β 4) (G := GP P β (4 - 4) 0) (fun b _ => by unfold GP; rw [show 4 - 4 = 0 from rfl, anyN, Bool.or_false])]
      rfl
    have d2' : PS P β s3 s4 2401 := d2
    obtain ⟨p1, p2, p3, p4, ⟨R, r1, r2, r3⟩, p6, p7⟩ := d2'
    obtain ⟨s5, g1, g2, g3⟩ := xspread hW hB p3 p4 p6
    rw [e7, b_X4_work_15_30_3_94, if_pos (show (4 : Int32) ≤ nI 4 by decide), e8, cl_so, g1, cl_so, lt_e]
    have k15 : s5.1 15 = s4.1 15 := g2.1 15 (by decide)
    have k22 : s5.1 22 = s4.1 22 := g2.1 22 (by decide)
    refine ⟨_, rfl, fun k hk => ?_, fun k hk => ?_, ⟨?_, ?_, ⟨R, r1, ?_, fun g hg => ?_⟩, fun S hS => ?_, fun q hq c hc => ?_⟩, by rw [wI_eq, il1]⟩
    · rw [wI_nk (by omega), g2.1 k (by omega), p1 k (by omega) (by omega) (by omega) (by omega), c1 k (by omega) (by omega), b1 k (by omega), f1 k (by omega) (by omega)]
    · rw [wI_2, g2.2, p2, c2 k (by omega), b2 k (by omega), f2]
    · rw [wI_nj (by decide), k15]; exact p3
    · rw [wI_nj (by decide), k15]; exact p4
    · rw [wI_nj (by decide), k15]; exact r2
    · rw [r3 g hg, Bool.eq_iff_iff, bst_s, anyN_t]
      constructor
      · rintro ⟨pl, q1, q2⟩
        rw [Bool.and_eq_true] at q2
        have hcl : cont P β pl < 2 ^ P 0 2 := bm_lt _ _
        exact ⟨pl, q1, q2.1, (bit_e g (by omega) _ (by omega)).mpr q2.2⟩
      · rintro ⟨pl, q1, q2, q3⟩
        have hcl : cont P β pl < 2 ^ P 0 2 := bm_lt _ _
        exact ⟨pl, q1, by rw [q2, (bit_e g (by omega) _ (by omega)).mp q3]; rfl⟩
    · rw [wI_nk (by decide), g3 S hS, sp_bst hW hB hS]
      cases bst P β S 2401 <;> rfl
    · rw [wI_nk (by decide), k22]
      rw [bst_all hW] at hq
      exact p7 q hq c (by omega)
  · rw [h1, if_neg n1_ne]
    exact ⟨σ, rfl, fun _ _ => rfl, fun _ _ => rfl, h2, h1⟩
theorem Rel_plan {σ τ σ' τ' : ES} {P : Nat → Nat → Nat} {β : Nat → Nat} (hT : RT σ τ) (hX : RX σ τ) (hD : RD σ τ) (hM : RM σ τ P β) (f1 : ∀ k, (k < 15 ∨ 23 < k) → σ'.1 k = σ.1 k) (f2 : ∀ k, k < 15 → σ'.2 k = σ.2 k) (hP : PlanOK σ' P β) (h11 : σ'.1 15 11 = nI 1) (hR : Rp τ τ') : Rel σ' τ' := by
  obtain ⟨hW, hXP, hMP, hB, hXB, hMB, hA, hS, hG⟩ := hM
  have g : ∀ k, k ≠ 9 ∧ k ≠ 15 ∧ k ≠ 16 → τ'.1 k = τ.1 k := fun k h => hR.1 k h.1 h.2.1 h.2.2
  exact ⟨hT.c (f1 1 (by omega)) (f1 2 (by omega)) (by rw [g 0 (by omega)]) (g 10 (by omega)), hX.c (f1 24 (by omega)) (f1 25 (by omega)) (by rw [g 0 (by omega)]) (g 18 (by omega)), hD.c (by rw [f2 0 (by omega)]) (by rw [hR.2.1]), P, β, hW, hXP.c (fun k q1 q2 => f1 k (by omega)), Rp.MP hMP hR, hB, hXB.c (fun k q1 q2 => f1 k (by omega)), Rp.MR hW hMB hR, hA.c (f1 13 (by omega)) (f1 14 (by omega)) (by rw [g 0 (by omega)]) (by rw [g 0 (by omega)]) (g 14 (by omega)), hS.c (f1 28 (by omega)) (f1 29 (by omega)) (g 20 (by omega)) (g 21 (by omega)), Or.inr ⟨h11, hP⟩⟩
theorem xcost {P : Nat → Nat → Nat} {β : Nat → Nat} {s : ES} (hW : WP P) (hB : WB P β) (h : PlanOK s P β) : e_X4_costForAll_15 s = some (oI (oC (bst P β (2 ^ P 0 2 - 1) 2401))) := by
  have w3 := hW.2.2.1
  have h16 : 2 ^ P 0 2 ≤ 16 := Nat.pow_le_pow_right (n := 2) (j := 4) (by decide) w3
  have hpos := Nat.two_pow_pos (P 0 2)
  obtain ⟨p1, p2, p3, p4, p5⟩ := h
  unfold e_X4_costForAll_15 b_X4_costForAll_15_0
  rw [p2, rd_nI (by omega) (by omega), rd_nI (by omega) (by omega), p4 _ (by omega)]
  cases hb : bst P β (2 ^ P 0 2 - 1) 2401 with
  | none => rw [il1000000, if_pos rfl]; rfl
  | some q =>
    have := (bst_b hW hB 2401 q hb).1
    show (if nI q.1 = (1000000 : Int32) then some (-9) else some (nI q.1)) = some (nI q.1)
    rw [il1000000, if_neg (fun x => by have := (nI_eq (by omega) (by omega)).mp x; omega)]
theorem mall {P : Nat → Nat → Nat} {τ t : ES} (hW : WP P) (hMP : MPt τ P) (hR : Rp τ t) : e_X8_all t = some (nI (2 ^ P 0 2 - 1)) := by
  have w3 := hW.2.2.1
  have hpos := Nat.two_pow_pos (P 0 2)
  unfold e_X8_all b_X8_all_0
  have : t.1 0 2 = nI (P 0 2) := by rw [hR.1 0 (by decide) (by decide) (by decide)]; exact hMP.1.2.2
  rw [this, il1, nI_sh _ (by omega), pk_sub (by omega)]
theorem st_plan {σ τ : ES} (hR : Rel σ τ)  : ∃ (r : Int32) (σ' : ES) (τ' : ES), e_X7_plan_0  σ = some (r, σ') ∧ e_X8_plan  τ = some (r, τ') ∧ Rel σ' τ' := by
  obtain ⟨hT, hX, hD, P, β, hM⟩ := hR
  obtain ⟨hW, hXP, hMP, hB, hXB, hMB, hA, hS, hG⟩ := id hM
  have w3 := hW.2.2.1
  have h16 : 2 ^ P 0 2 ≤ 16 := Nat.pow_le_pow_right (n := 2) (j := 4) (by decide) w3
  have hpos := Nat.two_pow_pos (P 0 2)
  obtain ⟨s, a1, a2, a3, a4, a5⟩ := xwork hW hB hXP hXB hG
  obtain ⟨t, b1, b2, b3⟩ := mplans hW hMP hB hMB
  unfold e_X7_plan_0 b_X7_plan_0_0 e_X8_plan b_X8_plan_0
  rw [a1, cl_so, xcost hW hB a4, cl_so, b1, cl_so, mall hW hMP b2, cl_so, rd_nI (by omega) (by omega), (b3 _ (by omega)).2]
  exact ⟨_, s, t, rfl, rfl, Rel_plan hT hX hD hM a2 a3 a4 a5 b2⟩
theorem st_planOf {σ τ : ES} (hR : Rel σ τ) (a0 : Int32) : ∃ (r : Int32) (σ' : ES) (τ' : ES), e_X7_planOf_0 a0 σ = some (r, σ') ∧ e_X8_planOf a0 τ = some (r, τ') ∧ Rel σ' τ' := by
  obtain ⟨hT, hX, hD, P, β, hM⟩ := id hR
  obtain ⟨hW, hXP, hMP, hB, hXB, hMB, hA, hS, hG⟩ := id hM
  have w2 := hW.2.1
  have w3 := hW.2.2.1
  have h16 : 2 ^ P 0 2 ≤ 16 := Nat.pow_le_pow_right (n := 2) (j := 4) (by decide) w3
  have hpos := Nat.two_pow_pos (P 0 2)
  unfold e_X7_planOf_0 b_X7_planOf_0_0 e_X8_planOf b_X8_planOf_0
  rcases lt_cases a0 (n := P 0 1) (by omega) with h | ⟨c, hc, rfl⟩
  · rw [xhasC_out hXP.1.2.1 h, misC_out hMP.1.2.1 w2 h]
    exact ⟨_, _, _, rfl, rfl, hR⟩
  · rw [xhasC_in hXP.1.2.1 hc w2, misC_in hMP.1.2.1 w2 hc]
    simp only [cl_so, if_neg one_ne]
    obtain ⟨s, a1, a2, a3, a4, a5⟩ := xwork hW hB hXP hXB hG
    obtain ⟨t, b1, b2, b3⟩ := mplans hW hMP hB hMB
    rw [a1, cl_so, xcost hW hB a4, cl_so, b1, cl_so, mall hW hMP b2, cl_so, cl_so, rd_nI (by omega) (by omega), rd_nI (by omega) (by omega), rd_nI (by omega) (by omega), (b3 _ (by omega)).1]
    have hrel : Rel s t := Rel_plan hT hX hD hM a2 a3 a4 a5 b2
    cases hb : bst P β (2 ^ P 0 2 - 1) 2401 with
    | none =>
      rw [show oI (oC none) = -9 from rfl, show oI (oP none) = -9 from rfl, if_pos rfl, if_pos rfl]
      exact ⟨_, s, t, rfl, rfl, hrel⟩
    | some q =>
      have hq := bst_b hW hB 2401 q hb
      rw [show oI (oC (some q)) = nI q.1 from rfl, show oI (oP (some q)) = nI q.2 from rfl, if_neg (nI_ne9 (by omega)), if_neg (nI_ne9 (by omega)), mfigOf (by omega) (by omega), cl_so, a4.2.2.2.2 q hb c hc]
      exact ⟨_, s, t, rfl, rfl, hrel⟩
theorem st_bars {σ τ : ES} (hR : Rel σ τ)  : ∃ (r : Int32) (σ' : ES) (τ' : ES), e_X7_bars_0  σ = some (r, σ') ∧ e_X8_bars  τ = some (r, τ') ∧ Rel σ' τ' := by
  obtain ⟨hT, hX, hD, P, β, hM⟩ := hR
  obtain ⟨hW, hXP, hMP, hB, hXB, hMB, hA, hS, hG⟩ := id hM
  have w3 := hW.2.2.1
  have h16 : 2 ^ P 0 2 ≤ 16 := Nat.pow_le_pow_right (n := 2) (j := 4) (by decide) w3
  obtain ⟨s, a1, a2, a3, a4, a5⟩ := xwork hW hB hXP hXB hG
  obtain ⟨t, b1, b2, b3⟩ := mplans hW hMP hB hMB
  have hrel : Rel s t := Rel_plan hT hX hD hM a2 a3 a4 a5 b2
  unfold e_X7_bars_0 b_X7_bars_0_0 e_X8_bars b_X8_bars_0
  rw [a1, cl_so, b1, cl_so]
  obtain ⟨p1, p2, ⟨R, r1, r2, r3⟩, p4, p5⟩ := a4
  have z10 : s.1 30 10 = nI (P 0 2) := by rw [a2 30 (by omega)]; exact hXP.1.2.2
  have z2 : t.1 0 2 = nI (P 0 2) := by rw [b2.1 0 (by decide) (by decide) (by decide)]; exact hMP.1.2.2
  have key : ∀ m g, g + m = P 0 2 → ∀ a b, m < a → m < b → ∃ r, b_X7_bars_0_17 a (nI g) s = some (r, s) ∧ b_X8_bars_6 b (nI g) t = some (r, t) := by
    intro m
    induction m with
    | zero =>
      intro g e a b ha hb
      obtain ⟨a, rfl⟩ : ∃ k, a = k + 1 := ⟨a - 1, by omega⟩
      obtain ⟨b, rfl⟩ : ∃ k, b = k + 1 := ⟨b - 1, by omega⟩
      rw [b_X7_bars_0_17, b_X8_bars_6, z10, z2, if_pos (nI_le (by omega) (by omega)), if_pos (nI_le (by omega) (by omega))]
      exact ⟨_, rfl, rfl⟩
    | succ m ih =>
      intro g e a b ha hb
      obtain ⟨a, rfl⟩ : ∃ k, a = k + 1 := ⟨a - 1, by omega⟩
      obtain ⟨b, rfl⟩ : ∃ k, b = k + 1 := ⟨b - 1, by omega⟩
      have hgl : 2 ^ g < 2 ^ P 0 2 := Nat.pow_lt_pow_right (by decide) (by omega)
      have esh : (1 : Int32) <<< (nI g &&& 31) = nI (2 ^ g) := by rw [il1]; exact nI_sh g (by omega)
      rw [b_X7_bars_0_17, b_X8_bars_6, z10, z2, if_neg (nI_ge (by omega) (by omega)), if_neg (nI_ge (by omega) (by omega)), r2, bit_n (by omega) (by omega), r3 g (by omega), esh, rd_nI (by omega) (by omega), (b3 _ hgl).1, lt_e, lt_e, nI_1]
      cases hb : bst P β (2 ^ g) 2401 with
      | none =>
        simp only [Option.isSome_none, Bool.false_eq_true, if_false]
        rw [if_pos (show nI 0 = 0 from rfl), if_pos (show oI (oP none) = -9 from rfl)]
        exact ⟨_, rfl, rfl⟩
      | some q =>
        have hq := bst_b hW hB 2401 q hb
        simp only [Option.isSome_some, if_true]
        rw [if_neg n1_ne, if_neg (show ¬ oI (oP (some q)) = -9 from nI_ne9 (by omega))]
        exact ih (g + 1) (by omega) a b (by omega) (by omega)
  obtain ⟨r, k1, k2⟩ := key (P 0 2) 0 (by omega) FU FU (by unfold FU; omega) (by unfold FU; omega)
  exact ⟨r, s, t, k1, k2, hrel⟩

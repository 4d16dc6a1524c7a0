-- ===== pairs: the class =====
theorem ntz_e : ∀ x, x < 32 → 0 < x → e_J6_numberOfTrailingZeros (nI x) = some (nI (lo x)) := by decide +kernel
theorem nlz_e : ∀ x, x < 32 → 0 < x → e_J6_numberOfLeadingZeros (nI x) = some (nI (31 - hi x)) := by decide +kernel
theorem hi_e : ∀ x, x < 32 → 0 < x → (31 : Int32) - nI (31 - hi x) = nI (hi x) ∧ lo x ≤ 4 ∧ hi x ≤ 4 := by decide +kernel
theorem tr_e : ∀ F, F < 32 → ∀ a, a < 5 → ∀ v, v < 5 → ((nI F &&& (((1 : Int32) <<< (nI a &&& 31)) ^^^ (-1 : Int32))) &&& (((1 : Int32) <<< (nI v &&& 31)) ^^^ (-1 : Int32))) = nI (tr F a v) ∧ tr F a v < 32 := by decide +kernel
theorem xmv_b {T : Nat → Nat → Nat} (hT : ∀ i j, T i j ≤ 24) (F a : Nat) : ∀ k, xmv T F a k ≤ 48 := by
  intro k
  induction k with
  | zero => rw [xmv]; omega
  | succ k ih =>
    rw [xmv]
    have h1 := hT a (a + 1 + k)
    have h2 : smT T (tr F a (a + 1 + k)) ≤ 24 := by
      unfold smT
      split
      · omega
      · exact hT _ _
    split <;> omega
theorem xmost {σ : ES} {T : Nat → Nat → Nat} {F : Nat} (hF : F < 32) (hT : ∀ i j, T i j ≤ 24) (h1 : ∀ i j, i ≤ 4 → j ≤ 4 → e_X7_giftsTogether_0 (nI i) (nI j) σ = some (nI (T i j))) (h2 : e_X7_giftsTogether_0 (nI 32) (-1) σ = some (nI 0)) : e_X7_mostOfPairs_0 (nI F) σ = some (nI (xm T F)) := by
  unfold e_X7_mostOfPairs_0 b_X7_mostOfPairs_0_0
  by_cases h0 : F = 0
  · subst h0
    obtain ⟨j, hj⟩ := FU_s 0 (by omega)
    rw [Nat.sub_zero] at hj
    rw [show e_J6_numberOfTrailingZeros (nI 0) = some (nI 32) by decide +kernel, cl_so, lt_e, nI_1, hj, b_X7_mostOfPairs_0_12, if_pos (by decide)]
    rfl
  · have hl := (hi_e F hF (by omega)).2.1
    rw [ntz_e F hF (by omega), cl_so, lt_e, nI_1]
    obtain ⟨s, j, e1, e2⟩ := loop_FU (fun n k (s : Nat) => b_X7_mostOfPairs_0_12 σ n (nI F) (nI (lo F)) (nI s) (nI (lo F + 1 + k))) (fun k s => s = xmv T F (lo F) k) (4 - lo F) (by omega) (fun n k s hk hs => ⟨xmv T F (lo F) (k + 1), rfl, by
      subst hs
      show b_X7_mostOfPairs_0_12 σ (n + 1) _ _ _ _ = b_X7_mostOfPairs_0_12 σ n _ _ _ _
      have hb := xmv_b hT F (lo F) k
      have hb2 := hT (lo F) (lo F + 1 + k)
      obtain ⟨t1, t2⟩ := tr_e F hF (lo F) (by omega) (lo F + 1 + k) (by omega)
      rw [b_X7_mostOfPairs_0_12, if_neg (show ¬ (4 : Int32) < nI (lo F + 1 + k) from nI_nlt (b := lo F + 1 + k) (a := 4) (by omega) (by omega)), t1, nI_1]
      simp only [bit_1 (show F < 2 ^ 31 by omega) (show lo F + 1 + k < 31 by omega), lt_e]
      rw [xmv]
      by_cases t : F.testBit (lo F + 1 + k) = true
      · rw [if_pos t, if_pos t, h1 _ _ (by omega) (by omega)]
        have fin : ∀ y, y ≤ 24 → (if nI (xmv T F (lo F) k) < nI (T (lo F) (lo F + 1 + k)) + nI y then nI (T (lo F) (lo F + 1 + k)) + nI y else nI (xmv T F (lo F) k)) = nI (max (xmv T F (lo F) k) (T (lo F) (lo F + 1 + k) + y)) := by
          intro y hy
          rw [nI_add]
          by_cases q : xmv T F (lo F) k < T (lo F) (lo F + 1 + k) + y
          · rw [if_pos (nI_lt q (by omega)), Nat.max_eq_right (by omega)]
          · rw [if_neg (nI_nlt (by omega) (by omega)), Nat.max_eq_left (by omega)]
        by_cases z : tr F (lo F) (lo F + 1 + k) = 0
        · rw [z, show e_J6_numberOfTrailingZeros (nI 0) = some (nI 32) by decide +kernel, show e_J6_numberOfLeadingZeros (nI 0) = some (nI 32) by decide +kernel]
          simp only [cl_so]
          rw [show (31 : Int32) - nI 32 = -1 by decide, h2]
          simp only [cl_so]
          rw [fin 0 (by omega)]
          simp [smT, Nat.add_assoc]
        · have q1 := hi_e _ t2 (by omega)
          rw [ntz_e _ t2 (by omega), nlz_e _ t2 (by omega)]
          simp only [cl_so]
          rw [q1.1, h1 _ _ q1.2.1 q1.2.2]
          simp only [cl_so]
          rw [fin _ (hT _ _)]
          unfold smT
          rw [if_neg z]
          all_goals rfl
      · rw [if_neg t, if_neg t]; rfl⟩) 0 rfl
    subst e1
    have e3 : b_X7_mostOfPairs_0_12 σ FU (nI F) (nI (lo F)) 0 (nI (lo F + 1)) = _ := e2
    rw [e3, b_X7_mostOfPairs_0_12, if_pos (show (4 : Int32) < nI (lo F + 1 + (4 - lo F)) from nI_lt (a := 4) (by omega) (by omega))]
    unfold xm
    rw [if_neg h0]
theorem st_pairs {σ τ : ES} (hR : Rel σ τ)  : ∃ (r : Int32) (τ' : ES), e_X7_pairs_0  σ = some r ∧ e_X8_pairs  τ = some (r, τ') ∧ Rel σ τ' := by
  obtain ⟨hT, hX, hD, P, β, hW, hXP, hMP, hB, hXB, hMB, hA, hS, hG⟩ := id hR
  have w2 := hW.2.1
  have wlt : ∀ i k, i ≤ 4 → (if i < P 0 1 then gb P β i k else 0) < 16 := fun i k hi => by
    by_cases h : i < P 0 1
    · rw [if_pos h]; exact gb_lt hW (WBc hW hB h).2.2.2.1
    · rw [if_neg h]; decide
  have out0 : ∀ (x : Int32) (k : Nat), (x < 0 ∨ (¬ x < 0 ∧ nI (P 0 1) ≤ x)) → e_X2_giftBit_3_30 x (nI k) σ = some (nI 0) := fun x k h => by
    unfold e_X2_giftBit_3_30 b_X2_giftBit_3_30_0
    rw [xhasC_out hXP.1.2.1 h, cl_so, if_pos rfl]; rfl
  have xw : ∀ i k, i ≤ 4 → k < 6 → e_X2_giftBit_3_30 (nI i) (nI k) σ = some (nI (if i < P 0 1 then gb P β i k else 0)) := fun i k hi hk => by
    by_cases h : i < P 0 1
    · rw [if_pos h]; exact xgb3 hW hXP (fun c hc => (WBc hW hB hc).2.2.2.1) hXB h (by omega)
    · rw [if_neg h]; exact out0 _ _ (Or.inr ⟨nI_pos (by omega), nI_le (by omega) (by omega)⟩)
  generalize hw : (fun i k => if i < P 0 1 then gb P β i k else 0) = w
  have hwe : ∀ i k, w i k = if i < P 0 1 then gb P β i k else 0 := fun i k => by rw [← hw]
  generalize hTT : (fun i j => if i ≤ 4 ∧ j ≤ 4 then tb (w i) (w j) else 0) = T
  have hTe : ∀ i j, i ≤ 4 → j ≤ 4 → T i j = tb (w i) (w j) := fun i j h1 h2 => by rw [← hTT]; simp [h1, h2]
  have hT24 : ∀ i j, T i j ≤ 24 := fun i j => by
    rw [← hTT]
    show (if i ≤ 4 ∧ j ≤ 4 then tb (w i) (w j) else 0) ≤ 24
    split
    · exact sumN_le (n := 6) (b := 4) (fun k _ => cnt_le _ _)
    · omega
  have x1 : ∀ i j, i ≤ 4 → j ≤ 4 → e_X7_giftsTogether_0 (nI i) (nI j) σ = some (nI (T i j)) := fun i j h1 h2 => by
    rw [hTe i j h1 h2]
    exact xtog (fun k hk => by rw [hwe]; exact ⟨xw i k h1 hk, wlt i k h1⟩) (fun k hk => by rw [hwe]; exact ⟨xw j k h2 hk, wlt j k h2⟩)
  have x2 : e_X7_giftsTogether_0 (nI 32) (-1) σ = some (nI 0) :=
    xtog (x := fun _ => 0) (y := fun _ => 0) (fun k hk => ⟨out0 _ _ (Or.inr ⟨nI_pos (by omega), nI_le (by omega) (by omega)⟩), by decide⟩) (fun k hk => ⟨out0 _ _ (Or.inl (by decide)), by decide⟩)
  have m1 : ∀ s, Kp τ s 17 → ∀ c o, c < P 0 1 → o < P 0 1 → e_X8_tableOf (nI c) (nI o) s = some (nI (T c o)) ∧ e_X8_tableOf (nI c) (-9) s = some (nI (T c 4)) := fun s hs c o hc ho => by
    have q1 : MPt s P := hMP.c (fun k _ _ => hs.1 k (by omega)) (by rw [hs.1 0 (by decide)]) (by rw [hs.1 0 (by decide)]) (by rw [hs.1 0 (by decide)])
    have q2 : MR (s.1 9) 0 P β := by rw [hs.1 9 (by decide)]; exact hMB
    rw [hTe c o (by omega) (by omega), hTe c 4 (by omega) (by omega)]
    have gg : ∀ c, c < P 0 1 → ∀ k, k < 6 → e_X8_gives (nI c) (nI k) s = some (nI (w c k)) ∧ w c k < 16 := fun c hc k hk => by
      rw [hwe, if_pos hc]
      exact ⟨mgives hW q1 hB q2 hc (by omega), gb_lt hW (WBc hW hB hc).2.2.2.1⟩
    exact ⟨mtab (gg c hc) (gg o ho), mtab (gg c hc) (fun k hk => by
      rw [hwe, if_neg (show ¬ 4 < P 0 1 by omega)]
      refine ⟨?_, by decide⟩
      unfold e_X8_gives b_X8_gives_0
      rw [if_pos rfl]; rfl)⟩
  have ef := xflame (σ := σ) (kd := 0) (fl := fun c => β (8 + c)) hXP.1.2.1 w2 (fun c hc => ((XB3 hXB).1 c hc).2.2) (fun c hc => (WBc hW hB hc).2.2.1) (by omega)
  have hlt : bm (fun c => decide (β (8 + c) = 0)) (P 0 1) < 2 ^ P 0 1 := bm_lt _ _
  have h16 : bm (fun c => decide (β (8 + c) = 0)) (P 0 1) < 16 := Nat.lt_of_lt_of_le hlt (Nat.pow_le_pow_right (n := 2) (by decide) w2)
  have e4 : e_X8_pairs τ = b_X8_pairs_49 FU (nI (bm (fun c => decide (β (8 + c) = 0)) (P 0 1))) 1 (wI τ 17 0 0) := by
    unfold e_X8_pairs b_X8_pairs_0
    obtain ⟨s, j, e1, e2⟩ := loop_FU (fun n c (s : Nat) => b_X8_pairs_4 n (nI s) (nI c) τ) (fun c s => s = bm (fun c => decide (β (8 + c) = 0)) c) (P 0 1) (by omega) (fun n c s hc hs => ⟨bm (fun c => decide (β (8 + c) = 0)) (c + 1), rfl, by
      subst hs
      have b := WBc hW hB hc
      have m3 := ((MR0 hMB).1 c hc).2.2
      show b_X8_pairs_4 (n + 1) _ _ _ = b_X8_pairs_4 n _ _ _
      rw [b_X8_pairs_4, hMP.1.2.1, if_neg (nI_ge hc (by omega)), il8, nI_add, rd_nI (by omega) (by omega), m3]
      simp only [lt_e, il1, nI_add, nI_sh c (by omega)]
      rw [← or_if]
      by_cases h : β (8 + c) = 0
      · rw [h, if_pos (show nI 0 = 0 from rfl)]; simp
      · rw [if_neg (nI_ne0 (by omega) (by omega))]; simp [h, il0]⟩) 0 rfl
    subst e1
    have e3 : b_X8_pairs_4 FU 0 0 τ = _ := e2
    rw [e3, b_X8_pairs_4, hMP.1.2.1, if_pos (nI_le (by omega) (by omega)), show (0 : Int32) = nI 0 from il0, wr_nI (by omega) (by omega)]
  obtain ⟨s', k1, k2⟩ := mp49 hT24 w2 m1 hMP.1.2.1 h16
  refine ⟨oI (Mm T (P 0 1) 15 (bm (fun c => decide (β (8 + c) = 0)) (P 0 1))), s', ?_, by rw [e4, k2], hT.c rfl rfl (by rw [k1.1 0 (by decide)]) (by rw [k1.1 10 (by decide)]), hX.c rfl rfl (by rw [k1.1 0 (by decide)]) (by rw [k1.1 18 (by decide)]), hD.c rfl (by rw [k1.2]), P, β, RM.c ⟨hW, hXP, hMP, hB, hXB, hMB, hA, hS, hG⟩ (fun _ _ => rfl) (fun j _ => by rw [k1.1 0 (by decide)]) (fun k hk => k1.1 k (by omega))⟩
  rw [pr_all T (P 0 1) w2 _ hlt]
  generalize bm (fun c => decide (β (8 + c) = 0)) (P 0 1) = F at *
  unfold e_X7_pairs_0 b_X7_pairs_0_0
  have hl : pcw F ≤ 4 := cnt_le _ _
  rw [il0, ef, cl_so, bc_e _ (by omega), cl_so, cnt54 _ h16, ← il0]
  have e5 : nI (cnt (fun i => F.testBit i) 4) - nI (cnt (fun i => F.testBit i) 4) / 2 * 2 = nI (pcw F % 2) := by
    rw [il2]; exact pk_rem (by show pcw _ < _; omega) (by omega) (by omega)
  rw [e5]
  by_cases t : pcw F % 2 = 0
  · rw [t, if_pos (show nI 0 = 0 from rfl), if_pos rfl, xmost (by omega) hT24 x1 x2]; rfl
  · rw [if_neg (nI_ne0 (by omega) (by omega)), if_neg t, il16, nI_or, xmost (Nat.or_lt_two_pow (n := 5) (by omega) (by decide)) hT24 x1 x2]; rfl

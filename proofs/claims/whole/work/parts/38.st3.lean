-- ===== light, out, trim =====
theorem Rel_act {σ τ σ' τ' : ES} {P : Nat → Nat → Nat} {β' : Nat → Nat} (hT : RT σ τ) (hX : RX σ τ) (hD : RD σ τ) (hW : WP P) (hXP : XPt σ 30 P) (hMP : MPt τ P) (hS : RS σ τ P) (fx : ∀ k, (k < 3 ∨ (7 < k ∧ k ≠ 13 ∧ k ≠ 14 ∧ k ≠ 15)) → σ'.1 k = σ.1 k) (fx2 : σ'.2 = σ.2) (fm : ∀ k, k ≠ 0 → k ≠ 9 → k ≠ 14 → τ'.1 k = τ.1 k) (fm0 : ∀ j, j ≠ 22 → j ≠ 23 → τ'.1 0 j = τ.1 0 j) (fm2 : τ'.2 = τ.2) (hB : WB P β') (hXB : XB σ' 3 P β') (hMB : MR (τ'.1 9) 0 P β') (hA : RA σ' τ' P) (hF : σ'.1 15 11 = nI 0) : Rel σ' τ' :=
  ⟨hT.c (fx 1 (by omega)) (fx 2 (by omega)) (fm0 _ (by omega) (by omega)) (fm _ (by omega) (by omega) (by omega)), hX.c (fx _ (by omega)) (fx _ (by omega)) (fm0 _ (by omega) (by omega)) (fm _ (by omega) (by omega) (by omega)), hD.c (by rw [fx2]) (by rw [fm2]), P, β', hW, hXP.c (fun k q1 q2 => fx k (by omega)), hMP.c (fun k q1 q2 => fm k (by omega) (by omega) (by omega)) (fm0 _ (by omega) (by omega)) (fm0 _ (by omega) (by omega)) (fm0 _ (by omega) (by omega)), hB, hXB, hMB, hA, hS.c (fx _ (by omega)) (fx _ (by omega)) (fm _ (by omega) (by omega) (by omega)) (fm _ (by omega) (by omega) (by omega)), Or.inl hF⟩
def un (β : Nat → Nat) (k v : Nat) : Nat → Nat := fun q => if q = k then v else β q
theorem un_eq {β : Nat → Nat} {k v : Nat} : un β k v k = v := by simp [un]
theorem un_ne {β : Nat → Nat} {k v q : Nat} (h : q ≠ k) : un β k v q = β q := by simp [un, h]
/-- what is remembered of an act, in both -/
theorem remember {σ τ : ES} {P : Nat → Nat → Nat} {β : Nat → Nat} (hA : RA σ τ P) (hW : WP P) (hB : WB P β) (hX : XB σ 3 P β) (hM : MR (τ.1 9) 0 P β) : ∃ s t, e_X7_rememberAct_0 σ = some s ∧ e_X8_keepAct τ = some t ∧ ((∀ k, k ≠ 13 → k ≠ 14 → k ≠ 15 → s.1 k = σ.1 k) ∧ s.2 = σ.2) ∧ ((∀ k, k ≠ 0 → k ≠ 14 → t.1 k = τ.1 k) ∧ t.2 = τ.2 ∧ ∀ j, j ≠ 22 → j ≠ 23 → t.1 0 j = τ.1 0 j) ∧ RA s t P ∧ s.1 15 11 = nI 0 := by
  obtain ⟨s, t, h1, h2, ⟨h3, h4⟩, h5, h6⟩ := RA_add hA hW hB hX hM
  unfold e_X7_rememberAct_0 b_X7_rememberAct_0_0
  rw [h1, cl_so, lt_e]
  refine ⟨_, t, rfl, h2, ⟨fun k q1 q2 q3 => by rw [wI_nk q3]; exact h3 k q1 q2, h4⟩, h5, h6.c (by rw [wI_nk (by decide)]) (by rw [wI_nk (by decide)]) rfl rfl rfl, by rw [wI_eq, il0]⟩
theorem RA.w {σ τ σ' τ' : ES} {P : Nat → Nat → Nat} (h : RA σ τ P) (a : ∀ k, k = 13 ∨ k = 14 → σ'.1 k = σ.1 k) (b : ∀ k, k = 0 ∨ k = 14 → τ'.1 k = τ.1 k) : RA σ' τ' P := h.c (a _ (by omega)) (a _ (by omega)) (by rw [b 0 (by omega)]) (by rw [b 0 (by omega)]) (b _ (by omega))
theorem cnt_bm (f : Nat → Bool) (n : Nat) : ∀ m, n ≤ m → cnt (fun i => (bm f n).testBit i) m = cnt f n := by
  have key : ∀ m, cnt (fun i => (bm f n).testBit i) m = cnt f (min m n) := by
    intro m
    induction m with
    | zero => simp [cnt]
    | succ m ih =>
      rw [cnt, ih, bm_test]
      by_cases h : m < n
      · rw [show min m n = m by omega, show min (m + 1) n = m + 1 by omega, cnt]; simp [h]
      · rw [show min m n = n by omega, show min (m + 1) n = n by omega]; simp [h]
  intro m hm
  rw [key, show min m n = n by omega]
theorem mburn {τ : ES} {P : Nat → Nat → Nat} {β : Nat → Nat} (hW : WP P) (hMP : MPt τ P) {L : Nat} (hL : L < 4) (hM : MR (τ.1 9) (18 * L) P β) (hb : ∀ c, c < P 0 1 → β (8 + c) ≤ 2) : e_X8_burning (nI L) τ = some (nI (cnt (fun c => decide (β (8 + c) = 1)) (P 0 1))) := by
  have w2 := hW.2.1
  unfold e_X8_burning b_X8_burning_0
  obtain ⟨s, k, h1, h2⟩ := loop_FU (fun n c (s : Nat) => b_X8_burning_4 τ n (nI L) (nI s) (nI c)) (fun c s => s = cnt (fun c => decide (β (8 + c) = 1)) c) (P 0 1) (by omega) (fun n c s hc hs => ⟨cnt (fun c => decide (β (8 + c) = 1)) (c + 1), rfl, by
    subst hs
    have := hb c hc
    have m3 := (hM.1 c hc).2.2
    show b_X8_burning_4 τ (n + 1) _ _ _ = b_X8_burning_4 τ n _ _ _
    rw [b_X8_burning_4, hMP.1.2.1, if_neg (nI_ge hc (by omega)), il18, pk_mul, il8, nI_add, nI_add, rd_nI (by omega) (by omega), m3]
    simp only [lt_e, il1, il0, nI_add, nI_eq (show β (8 + c) < 2 ^ 31 by omega) (show 1 < 2 ^ 31 by omega)]
    rw [cnt]
    by_cases h : β (8 + c) = 1
    · simp [h]
    · simp [h]⟩) 0 rfl
  subst h1
  simp only [il0]
  rw [h2, b_X8_burning_4, hMP.1.2.1, if_pos (nI_le (by omega) (by omega))]
theorem WB.un8 {P : Nat → Nat → Nat} {β : Nat → Nat} (hB : WB P β) {j v : Nat} (hj : j < 4) (hN : P 0 1 ≤ 4) (hv : v ≤ 2) (h : v ≠ 2 → 1 ≤ β (4 + j)) : WB P (un β (8 + j) v) := by
  obtain ⟨b1, b2, b3⟩ := hB
  refine ⟨fun c hc => ?_, fun g hg => ?_, ?_⟩
  · obtain ⟨c1, c2, c3, c4⟩ := b1 c hc
    rw [un_ne (show c ≠ 8 + j by omega), un_ne (show 4 + c ≠ 8 + j by omega)]
    by_cases e : c = j
    · subst e
      rw [un_eq]; exact ⟨c1, c2, hv, h⟩
    · rw [un_ne (by omega)]; exact ⟨c1, c2, c3, c4⟩
  · rw [un_ne (by omega), un_ne (by omega)]; exact b2 g hg
  · rw [un_ne (by omega)]; exact b3
theorem XB.un8 {σ s : ES} {P : Nat → Nat → Nat} {β : Nat → Nat} (h : XB σ 3 P β) (hN : P 0 1 ≤ 4) {j v : Nat} (hj : j < 4) (hs : ∀ k, 3 ≤ k → k ≤ 7 → s.1 k = σ.1 k) : XB (wI s 6 j (nI v)) 3 P (un β (8 + j) v) := by
  obtain ⟨b1, b2, b3, b4⟩ := XB3 h
  refine ⟨fun c hc => ?_, fun g hg => ?_, ?_, ?_⟩
  · show (wI s 6 j (nI v)).1 4 c = _ ∧ (wI s 6 j (nI v)).1 5 c = _ ∧ (wI s 6 j (nI v)).1 6 c = _
    obtain ⟨c1, c2, c3⟩ := b1 c hc
    rw [wI_nk (by decide), wI_nk (by decide), hs 4 (by decide) (by decide), hs 5 (by decide) (by decide), un_ne (show c ≠ 8 + j by omega), un_ne (show 4 + c ≠ 8 + j by omega)]
    refine ⟨c1, c2, ?_⟩
    by_cases e : c = j
    · subst e; rw [wI_eq, un_eq]
    · rw [wI_nj e, un_ne (by omega), hs 6 (by decide) (by decide)]; exact c3
  · show (wI s 6 j (nI v)).1 7 g = _
    rw [wI_nk (by decide), hs 7 (by decide) (by decide), un_ne (by omega)]; exact b2 g hg
  · rw [wI_nk (by decide), hs 3 (by decide) (by decide), un_ne (by omega)]; exact b3
  · rw [wI_nk (by decide), hs 3 (by decide) (by decide), un_ne (by omega)]; exact b4
theorem MR.un8 {f g : Nat → Int32} {o : Nat} {P : Nat → Nat → Nat} {β : Nat → Nat} (h : MR f o P β) (hN : P 0 1 ≤ 4) (hG : P 0 2 ≤ 4) {j v : Nat} (hj : j < 4) (h1 : g (o + 8 + j) = nI v) (h2 : ∀ q, q ≠ o + 8 + j → g q = f q) : MR g o P (un β (8 + j) v) := by
  obtain ⟨b1, b2, b3, b4⟩ := h
  refine ⟨fun c hc => ?_, fun k hk => ?_, ?_, ?_⟩
  · obtain ⟨c1, c2, c3⟩ := b1 c hc
    rw [h2 (o + c) (by omega), h2 (o + 4 + c) (by omega), un_ne (show c ≠ 8 + j by omega), un_ne (show 4 + c ≠ 8 + j by omega)]
    refine ⟨c1, c2, ?_⟩
    by_cases e : c = j
    · subst e; rw [h1, un_eq]
    · rw [h2 _ (by omega), un_ne (by omega)]; exact c3
  · rw [h2 _ (by omega), un_ne (by omega)]; exact b2 k hk
  · rw [h2 _ (by omega), un_ne (by omega)]; exact b3
  · rw [h2 _ (by omega), un_ne (by omega)]; exact b4
theorem cnt_un {β : Nat → Nat} : True := trivial
theorem st_light {σ τ : ES} (hR : Rel σ τ) (a0 : Int32) : ∃ (r : Int32) (σ' : ES) (τ' : ES), e_X7_light_0 a0 σ = some (r, σ') ∧ e_X8_light a0 τ = some (r, τ') ∧ Rel σ' τ' := by
  obtain ⟨hT, hX, hD, P, β, hW, hXP, hMP, hB, hXB, hMB, hA, hS, hG⟩ := id hR
  have w2 := hW.2.1
  have w3 := hW.2.2.1
  unfold e_X7_light_0 b_X7_light_0_0 e_X8_light b_X8_light_0
  rcases lt_cases a0 (n := P 0 1) (by omega) with h | ⟨j, hj, rfl⟩
  · rw [xhasC_out hXP.1.2.1 h, misC_out hMP.1.2.1 w2 h]
    exact ⟨_, _, _, rfl, rfl, hR⟩
  · rw [xhasC_in hXP.1.2.1 hj w2, misC_in hMP.1.2.1 w2 hj]
    have x3 := ((XB3 hXB).1 j hj).2.2
    have m3 := ((MR0 hMB).1 j hj).2.2
    have b := WBc hW hB hj
    simp only [cl_so, if_neg one_ne]
    rw [il8, nI_add, rd_nI (by omega) (by omega), rd_nI (by omega) (by omega), x3, m3]
    by_cases c : β (8 + j) = 0
    · rw [c, if_pos (show nI 0 = 0 from rfl), if_pos (show nI 0 = 0 from rfl)]
      obtain ⟨s, t, e1, e2, ⟨f1, f2⟩, ⟨g1, g2, g3⟩, hA2, hF⟩ := remember hA hW hB hXB hMB
      rw [e1, e2, cl_so, cl_so, wr_nI (by omega) (by omega), wr_nI (by omega) (by omega), il1]
      have hB2 : WB P (un β (8 + j) 1) := hB.un8 (by omega) w2 (by omega) (by omega)
      have hX2 : XB (wI s 6 j (nI 1)) 3 P (un β (8 + j) 1) := hXB.un8 w2 (by omega) (fun k q1 q2 => f1 k (by omega) (by omega) (by omega))
      have hM2 : MR ((wI t 9 (8 + j) (nI 1)).1 9) 0 P (un β (8 + j) 1) := hMB.un8 w2 w3 (by omega) (by rw [show 0 + 8 + j = 8 + j by omega, wI_eq]) (fun q hq => by rw [wI_nj (by omega), g1 9 (by decide) (by decide)])
      have hMP2 : MPt (wI t 9 (8 + j) (nI 1)) P := hMP.c (fun k q1 q2 => by rw [wI_nk (by omega), g1 k (by omega) (by omega)]) (by rw [wI_nk (by decide), g3 _ (by decide) (by decide)]) (by rw [wI_nk (by decide), g3 _ (by decide) (by decide)]) (by rw [wI_nk (by decide), g3 _ (by decide) (by decide)])
      have hXP2 : XPt (wI s 6 j (nI 1)) 30 P := hXP.c (fun k q1 q2 => by rw [wI_nk (by omega), f1 k (by omega) (by omega) (by omega)])
      have ef := xflame (σ := wI s 6 j (nI 1)) (kd := 1) (fl := fun c => un β (8 + j) 1 (8 + c)) hXP2.1.2.1 w2 (fun c hc => ((XB3 hX2).1 c hc).2.2) (fun c hc => (WBc hW hB2 hc).2.2.1) (by omega)
      have eb := mburn (L := 0) hW hMP2 (by omega) hM2 (fun c hc => (WBc hW hB2 hc).2.2.1)
      have hlt : bm (fun c => decide (un β (8 + j) 1 (8 + c) = 1)) (P 0 1) < 16 := Nat.lt_of_lt_of_le (bm_lt _ _) (Nat.pow_le_pow_right (by decide) w2)
      rw [ef, il0, eb, cl_so, cl_so, bc_e _ (by omega), cnt_bm _ _ _ (by omega), cl_so]
      refine ⟨_, _, _, rfl, rfl, Rel_act hT hX hD hW hXP hMP hS (fun k hk => ?_) f2 (fun k q1 q2 q3 => ?_) (fun k q1 q2 => ?_) g2 hB2 hX2 hM2 (hA2.w (fun k hk => by rw [wI_nk (by omega)]) (fun k hk => by rw [wI_nk (by omega)])) (by rw [wI_nk (by decide)]; exact hF)⟩
      · rw [wI_nk (by omega), f1 k (by omega) (by omega) (by omega)]
      · rw [wI_nk q2, g1 k q1 q3]
      · rw [wI_nk (by decide), g3 k q1 q2]
    · have c2 : ¬ nI (β (8 + j)) = 0 := nI_ne0 (by omega) (by omega)
      rw [if_neg c2, if_neg c2]
      exact ⟨_, _, _, rfl, rfl, hR⟩
theorem st_out {σ τ : ES} (hR : Rel σ τ) (a0 : Int32) : ∃ (r : Int32) (σ' : ES) (τ' : ES), e_X7_out_0 a0 σ = some (r, σ') ∧ e_X8_out a0 τ = some (r, τ') ∧ Rel σ' τ' := by
  obtain ⟨hT, hX, hD, P, β, hW, hXP, hMP, hB, hXB, hMB, hA, hS, hG⟩ := id hR
  have w2 := hW.2.1
  have w3 := hW.2.2.1
  unfold e_X7_out_0 b_X7_out_0_0 e_X8_out b_X8_out_0
  rcases lt_cases a0 (n := P 0 1) (by omega) with h | ⟨j, hj, rfl⟩
  · rw [xhasC_out hXP.1.2.1 h, misC_out hMP.1.2.1 w2 h]
    exact ⟨_, _, _, rfl, rfl, hR⟩
  · rw [xhasC_in hXP.1.2.1 hj w2, misC_in hMP.1.2.1 w2 hj]
    obtain ⟨x1, x2, x3⟩ := (XB3 hXB).1 j hj
    obtain ⟨m1, m2, m3⟩ := (MR0 hMB).1 j hj
    have b := WBc hW hB hj
    simp only [cl_so, if_neg one_ne]
    rw [il8, nI_add, il4, nI_add, rd_nI (by omega) (by omega), rd_nI (by omega) (by omega), x3, m3]
    by_cases c : β (8 + j) = 1
    · rw [c, if_pos (show nI 1 = 1 from rfl), if_pos (show nI 1 = 1 from rfl)]
      obtain ⟨s, t, e1, e2, ⟨f1, f2⟩, ⟨g1, g2, g3⟩, hA2, hF⟩ := remember hA hW hB hXB hMB
      rw [e1, e2, cl_so, cl_so, wr_nI (by omega) (by omega), wr_nI (by omega) (by omega), il2]
      have hB2 : WB P (un β (8 + j) 2) := hB.un8 (by omega) w2 (by omega) (by omega)
      have hX2 : XB (wI s 6 j (nI 2)) 3 P (un β (8 + j) 2) := hXB.un8 w2 (by omega) (fun k q1 q2 => f1 k (by omega) (by omega) (by omega))
      have hM2 : MR ((wI t 9 (8 + j) (nI 2)).1 9) 0 P (un β (8 + j) 2) := hMB.un8 w2 w3 (by omega) (by rw [show 0 + 8 + j = 8 + j by omega, wI_eq]) (fun q hq => by rw [wI_nj (by omega), g1 9 (by decide) (by decide)])
      rw [rd_nI (by omega) (by omega), rd_nI (by omega) (by omega), wI_nk (show 5 ≠ 6 by decide), f1 5 (by decide) (by decide) (by decide), x2, wI_nj (show 4 + j ≠ 8 + j by omega), g1 9 (by decide) (by decide), m2]
      refine ⟨_, _, _, rfl, rfl, Rel_act hT hX hD hW hXP hMP hS (fun k hk => ?_) f2 (fun k q1 q2 q3 => ?_) (fun k q1 q2 => ?_) g2 hB2 hX2 hM2 (hA2.w (fun k hk => by rw [wI_nk (by omega)]) (fun k hk => by rw [wI_nk (by omega)])) (by rw [wI_nk (by decide)]; exact hF)⟩
      · rw [wI_nk (by omega), f1 k (by omega) (by omega) (by omega)]
      · rw [wI_nk q2, g1 k q1 q3]
      · rw [wI_nk (by decide), g3 k q1 q2]
    · have c2 : ¬ nI (β (8 + j)) = 1 := fun q => c ((nI_eq (b := 1) (by omega) (by omega)).mp q)
      rw [if_neg c2, if_neg c2]
      exact ⟨_, _, _, rfl, rfl, hR⟩

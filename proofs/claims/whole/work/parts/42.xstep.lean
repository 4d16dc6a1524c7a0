-- ===== the class's step =====
def Xf (σ s : ES) (b : Nat) : Prop := (∀ k, (k < b ∨ b + 4 < k) → s.1 k = σ.1 k) ∧ s.2 = σ.2
theorem Xf.rf {σ : ES} {b : Nat} : Xf σ σ b := ⟨fun _ _ => rfl, rfl⟩
theorem Xf.w {σ s : ES} {b k j : Nat} {v : Int32} (h : Xf σ s b) (h1 : b ≤ k) (h2 : k ≤ b + 4) : Xf σ (wI s k j v) b := ⟨fun q hq => by rw [wI_nk (by omega)]; exact h.1 q hq, h.2⟩
theorem XPt.f {σ s : ES} {b : Nat} {P : Nat → Nat → Nat} (h : XPt σ 30 P) (k : Xf σ s b) (hb : b ≤ 20) : XPt s 30 P := h.c (fun q q1 q2 => k.1 q (by omega))
theorem XB_u {σ : ES} {k : Nat} {P : Nat → Nat → Nat} {β : Nat → Nat} : XB σ k P β ↔ (∀ c, c < P 0 1 → σ.1 (k + 1) c = nI (β c)) ∧ (∀ c, c < P 0 1 → σ.1 (k + 2) c = nI (β (4 + c))) ∧ (∀ c, c < P 0 1 → σ.1 (k + 3) c = nI (β (8 + c))) ∧ (∀ g, g < P 0 2 → σ.1 (k + 4) g = nI (β (12 + g))) ∧ σ.1 k 4 = nI (β 16) ∧ σ.1 k 5 = nI (β 17) := by
  unfold XB
  constructor
  · rintro ⟨a, b, c, d⟩
    exact ⟨fun k h => (a k h).1, fun k h => (a k h).2.1, fun k h => (a k h).2.2, b, c, d⟩
  · rintro ⟨a, b, c, d, e, f⟩
    exact ⟨fun k h => ⟨a k h, b k h, c k h⟩, d, e, f⟩
/-- the gift, as a bit, of inch i of candle c -/
def gb (P : Nat → Nat → Nat) (β : Nat → Nat) (c i : Nat) : Nat := if i < β (4 + c) then (if P 1 (β c + i) = 4 then 0 else 2 ^ P 1 (β c + i)) else 0
theorem if4 {a : Nat} (h : a ≤ 4) : (if nI a = 4 then some (0 : Int32) else some (nI 1 <<< (nI a &&& 31))) = some (nI (if a = 4 then 0 else 2 ^ a)) := by
  by_cases e : a = 4
  · subst e; rfl
  · rw [if_neg (show ¬ nI a = 4 from fun q => e ((nI_eq (b := 4) (by omega) (by omega)).mp q)), if_neg e, nI_sh a (by omega)]

theorem xgb3 {σ : ES} {P : Nat → Nat → Nat} {β : Nat → Nat} (hW : WP P) (hXP : XPt σ 30 P) (hB : ∀ c, c < P 0 1 → β c + β (4 + c) ≤ P 0 0) (hX : XB σ 3 P β) {c i : Nat} (hc : c < P 0 1) (hi : i < 100) : e_X2_giftBit_3_30 (nI c) (nI i) σ = some (nI (gb P β c i)) := by
  have w1 := hW.1
  have w2 := hW.2.1
  obtain ⟨x1, x2, x3, x4, x5, x6⟩ := XB_u.mp hX
  have bb := hB c hc
  have y1 : σ.1 4 c = nI (β c) := x1 c hc
  have y2 : σ.1 5 c = nI (β (4 + c)) := x2 c hc
  unfold e_X2_giftBit_3_30 b_X2_giftBit_3_30_0
  rw [xhasC_in hXP.1.2.1 hc w2, cl_so, if_neg one_ne, if_neg (nI_pos (by omega)), rd_nI (by omega) (by omega), y2]
  unfold gb
  by_cases e : i < β (4 + c)
  · rw [if_pos (nI_lt e (by omega)), if_pos e, rd_nI (by omega) (by omega), y1, nI_add, xgift_in hW hXP (by omega), cl_so, il1]
    exact if4 (hW.2.2.2.1 _ (by omega))
  · rw [if_neg (nI_nlt (by omega) (by omega)), if_neg e]; rfl
theorem xburn3 {σ : ES} {P : Nat → Nat → Nat} {β : Nat → Nat} (hW : WP P) (hXP : XPt σ 30 P) (hX : XB σ 3 P β) {c : Nat} (hc : c < P 0 1) (h1 : β (8 + c) = 1) (h2 : 1 ≤ β (4 + c)) (h3 : β (4 + c) ≤ 6) : ∃ s, e_X2_burnInch_3_30 (nI c) σ = some s ∧ Xf σ s 3 ∧ XB s 3 P (ad1 P β c) := by
  have w3 := hW.2.2.1
  have w2 := hW.2.1
  obtain ⟨x1, x2, x3, x4, x5, x6⟩ := XB_u.mp hX
  have y1 : σ.1 4 c = nI (β c) := x1 c hc
  have y2 : σ.1 5 c = nI (β (4 + c)) := x2 c hc
  have y4 : σ.1 34 c = nI (P 4 c) := ((XP30 hXP).2.2.1 c hc).2.2
  unfold e_X2_burnInch_3_30 b_X2_burnInch_3_30_0
  rw [rd_nI (by omega) (by omega), y1, il1, nI_add, wr_nI (by omega) (by omega), rd_nI (by omega) (by omega), wI_nk (by decide), y2, pk_sub (by omega), wr_nI (by omega) (by omega), rd_nI (by omega) (by omega), wI_nk (show 34 ≠ 5 by decide), wI_nk (show 34 ≠ 4 by decide), y4, lt_e]
  have e4 : (wI (wI σ 4 c (nI (β c + 1))) 5 c (nI (β (4 + c) - 1))).1 3 4 = nI (β 16) := by rw [wI_nk (by decide), wI_nk (by decide)]; exact x5
  rw [e4, nI_add, rd_nI (by omega) (by omega), wI_nk (by decide), wI_eq]
  have X0 : Xf σ (wI (wI (wI σ 4 c (nI (β c + 1))) 5 c (nI (β (4 + c) - 1))) 3 4 (nI (β 16 + P 4 c))) 3 := ((Xf.rf.w (by omega) (by omega)).w (by omega) (by omega)).w (by omega) (by omega)
  have main : ∀ s, (∀ q, q ≠ c → s.1 6 q = σ.1 6 q) → s.1 6 c = nI (if β (4 + c) = 1 then 2 else 1) → (∀ k, k ≠ 6 → s.1 k = (wI (wI (wI σ 4 c (nI (β c + 1))) 5 c (nI (β (4 + c) - 1))) 3 4 (nI (β 16 + P 4 c))).1 k) → XB s 3 P (ad1 P β c) := by
    intro s f1 f2 f3
    refine XB_u.mpr ⟨fun i hi => ?_, fun i hi => ?_, fun i hi => ?_, fun i hi => ?_, ?_, ?_⟩
    · show s.1 4 i = _
      rw [f3 _ (by decide), wI_nk (by decide), wI_nk (by decide)]
      by_cases e : i = c
      · subst e; rw [wI_eq, ad1_p (by omega)]
      · rw [wI_nj e, ad1_o (by omega) (by omega) (by omega) (by omega)]; exact x1 i hi
    · show s.1 5 i = _
      rw [f3 _ (by decide), wI_nk (by decide)]
      by_cases e : i = c
      · subst e; rw [wI_eq, ad1_l (by omega)]
      · rw [wI_nj e, wI_nk (by decide), ad1_o (by omega) (by omega) (by omega) (by omega)]; exact x2 i hi
    · show s.1 6 i = _
      by_cases e : i = c
      · subst e; rw [f2, ad1_f]
      · rw [f1 i e, ad1_o (by omega) (by omega) (by omega) (by omega)]; exact x3 i hi
    · show s.1 7 i = _
      rw [f3 _ (by decide), wI_nk (by decide), wI_nk (by decide), wI_nk (by decide), ad1_o (by omega) (by omega) (by omega) (by omega)]; exact x4 i hi
    · rw [f3 _ (by decide), wI_eq, ad1_c (by omega)]
    · rw [f3 _ (by decide), wI_nj (by decide), wI_nk (by decide), wI_nk (by decide), ad1_o (by omega) (by omega) (by omega) (by omega)]; exact x6
  by_cases e : β (4 + c) = 1
  · rw [if_neg (show ¬ (0 : Int32) < nI (β (4 + c) - 1) by rw [e]; decide), wr_nI (by omega) (by omega)]
    refine ⟨_, rfl, X0.w (by omega) (by omega), main _ (fun q hq => ?_) ?_ (fun k hk => ?_)⟩
    · rw [wI_nj hq, wI_nk (by decide), wI_nk (by decide), wI_nk (by decide)]
    · rw [wI_eq, if_pos e]; rfl
    · rw [wI_nk hk]
  · rw [if_pos (show (0 : Int32) < nI (β (4 + c) - 1) from nI_lt (a := 0) (by omega) (by omega))]
    refine ⟨_, rfl, X0, main _ (fun q hq => ?_) ?_ (fun k hk => rfl)⟩
    · rw [wI_nk (by decide), wI_nk (by decide), wI_nk (by decide)]
    · rw [wI_nk (by decide), wI_nk (by decide), wI_nk (by decide), if_neg e, ← h1]; exact x3 c hc
theorem xgo3 {σ : ES} {P : Nat → Nat → Nat} {β : Nat → Nat} (hW : WP P) (hXP : XPt σ 30 P) (hB : WB P β) (hX : XB σ 3 P β) : ∃ s, e_X2_goBy_3_30 σ = some (nI (who P β), s) ∧ Xf σ s 3 ∧ XB s 3 P (nx P β) := by
  have w2 := hW.2.1
  have w3 := hW.2.2.1
  have hev : ∀ c, c < P 0 1 → β (8 + c) = 1 → P 1 (β c) ≤ 4 ∧ β c < P 0 0 ∧ 1 ≤ β (4 + c) := fun c hc e => by
    have := WBc hW hB hc
    have h2 : β c < P 0 0 := by omega
    exact ⟨hW.2.2.2.1 _ h2, h2, by omega⟩
  unfold e_X2_goBy_3_30 b_X2_goBy_3_30_0
  obtain ⟨⟨v, s⟩, k, ⟨c1, c2, c3⟩, h2⟩ := loop_FU (fun n c (q : Nat × ES) => b_X2_goBy_3_30_4 n (nI q.1) (nI c) q.2) (fun c q => q.1 = gset P β 4 c ∧ Xf σ q.2 3 ∧ XB q.2 3 P (nc P β c)) (P 0 1) (by omega) (fun n c q hc hq => by
    obtain ⟨v, s⟩ := q
    obtain ⟨q1, q2, q3⟩ := hq
    dsimp only at q1 q2 q3
    subst q1
    have P1 := hXP.f q2 (by omega)
    obtain ⟨g1, g2, g3⟩ := (nc_ge (P := P) (β := β) (m := c) (by omega)).1 c (by omega) (by omega)
    have m3 : s.1 6 c = nI (β (8 + c)) := by rw [← g3]; exact (XB_u.mp q3).2.2.1 c hc
    have bb := WBc hW hB hc
    by_cases e : β (8 + c) = 1
    · obtain ⟨v1, v2, v3⟩ := hev c hc e
      obtain ⟨s2, b1, b2, b3⟩ := xburn3 hW P1 q3 hc (by rw [g3]; exact e) (by rw [g2]; omega) (by rw [g2]; omega)
      refine ⟨(gset P β 4 (c + 1), s2), ⟨rfl, ⟨fun k hk => by rw [b2.1 k hk, q2.1 k hk], by rw [b2.2, q2.2]⟩, ?_⟩, ?_⟩
      · rw [nc, if_pos e]; exact b3
      · show b_X2_goBy_3_30_4 (n + 1) _ _ _ = b_X2_goBy_3_30_4 n _ _ _
        have hb2 : ∀ i, i < P 0 1 → nc P β c i + nc P β c (4 + i) ≤ P 0 0 := fun i hi => by
          have bi := WBc hW hB hi
          by_cases ei : i < c
          · obtain ⟨r1, r2, -⟩ := nc_lt (P := P) (β := β) (m := c) (by omega) i ei
            rw [r1, r2]
            by_cases e8 : β (8 + i) = 1
            · rw [if_pos e8, if_pos e8]; have := (hev i hi e8).2.2; omega
            · rw [if_neg e8, if_neg e8]; omega
          · obtain ⟨r1, r2, -⟩ := (nc_ge (P := P) (β := β) (m := c) (by omega)).1 i (by omega) (by omega)
            rw [r1, r2]; omega
        have egb : e_X2_giftBit_3_30 (nI c) 0 s = some (nI (gb P (nc P β c) c 0)) := xgb3 hW P1 hb2 q3 hc (i := 0) (by omega)
        rw [b_X2_goBy_3_30_4, P1.1.2.1, if_neg (nI_ge hc (by omega)), rd_nI (by omega) (by omega), m3, e, if_pos (show nI 1 = 1 from rfl), egb, cl_so, lt_e, b1, cl_so, lt_e, il1, nI_add, nI_or]
        have eg : gset P β 4 c ||| gb P (nc P β c) c 0 = gset P β 4 (c + 1) := by
          rw [gset]
          unfold gb
          rw [g1, g2, if_pos (by omega), Nat.add_zero]
          by_cases e4 : P 1 (β c) = 4
          · rw [if_pos e4, if_neg (fun q => q.2 e4)]
          · rw [if_neg e4, if_pos ⟨e, e4⟩]
        rw [eg]
    · refine ⟨(gset P β 4 (c + 1), s), ⟨rfl, q2, ?_⟩, ?_⟩
      · rw [nc, if_neg e]; exact q3
      · show b_X2_goBy_3_30_4 (n + 1) _ _ _ = b_X2_goBy_3_30_4 n _ _ _
        rw [b_X2_goBy_3_30_4, P1.1.2.1, if_neg (nI_ge hc (by omega)), rd_nI (by omega) (by omega), m3, if_neg (show ¬ nI (β (8 + c)) = 1 from fun q => e ((nI_eq (b := 1) (by omega) (by omega)).mp q)), lt_e, il1, nI_add, gset, if_neg (fun q => e q.1), Nat.or_zero]) (0, σ) ⟨rfl, Xf.rf, hX⟩
  dsimp only at c1 c2 c3
  subst c1
  rw [show b_X2_goBy_3_30_4 FU 0 0 σ = _ from h2]
  dsimp only
  have P1 := hXP.f c2 (by omega)
  rw [b_X2_goBy_3_30_4, P1.1.2.1, if_pos (nI_le (by omega) (by omega))]
  have glt : gset P β 4 (P 0 1) < 32 := gset_lt (fun c hc e => (hev c hc e).1)
  obtain ⟨⟨v2, t⟩, k2, ⟨d1, d2, d3⟩, h4⟩ := loop_FU (fun n g (q : Nat × ES) => b_X2_goBy_3_30_49 n (nI (gset P β 4 (P 0 1))) (nI q.1) (nI g) q.2) (fun g q => q.1 = bm (got P β) g ∧ Xf σ q.2 3 ∧ XB q.2 3 P (ng P β g)) (P 0 2) (by omega) (fun n g q hg hq => by
    obtain ⟨v, s⟩ := q
    obtain ⟨q1, q2, q3⟩ := hq
    dsimp only at q1 q2 q3
    subst q1
    have P1 := hXP.f q2 (by omega)
    obtain ⟨x1, x2, x3, x4, x5, x6⟩ := XB_u.mp q3
    have wg := WBg hW hB hg
    obtain ⟨p1, p2, p3, p4⟩ := (XP30 P1).2.2.2 g hg
    have e17 : ng P β g 17 = β 17 := by rw [ng_o (by omega), (nc_ge w2).2 _ (by omega) (by omega)]
    have b17 : β 17 ≤ 20 := hB.2.2
    rw [e17] at x6
    have mh : s.1 7 g = nI (ng P β g (12 + g)) := x4 g hg
    have ht : (gset P β 4 (P 0 1)).testBit (P 5 g) = gvn P β (P 5 g) := gset_test (by omega)
    have no : got P β g = false → b_X2_goBy_3_30_49 (n + 1) (nI (gset P β 4 (P 0 1))) (nI (bm (got P β) g)) (nI g) s = b_X2_goBy_3_30_49 n (nI (gset P β 4 (P 0 1))) (nI (bm (got P β) g)) (nI (g + 1)) s → ∃ s' : Nat × ES, (s'.1 = bm (got P β) (g + 1) ∧ Xf σ s'.2 3 ∧ XB s'.2 3 P (ng P β (g + 1))) ∧ b_X2_goBy_3_30_49 (n + 1) (nI (gset P β 4 (P 0 1))) (nI (bm (got P β) g)) (nI g) s = b_X2_goBy_3_30_49 n (nI (gset P β 4 (P 0 1))) (nI s'.1) (nI (g + 1)) s'.2 := by
      intro hg0 he
      have hne : ¬ got P β g = true := by rw [hg0]; decide
      refine ⟨(bm (got P β) (g + 1), s), ⟨rfl, q2, ?_⟩, ?_⟩
      · rw [ng, if_neg hne]; exact q3
      · rw [he, bm, if_neg hne, Nat.or_zero]
    have hd91 : b_X2_goBy_3_30_49 (n + 1) (nI (gset P β 4 (P 0 1))) (nI (bm (got P β) g)) (nI g) s = if P 7 g ≤ β 17 ∧ β 17 ≤ P 8 g then b_X2_goBy_3_30_91 (fun z0 z1 z2 z3 => b_X2_goBy_3_30_49 n z0 z1 z2 z3) (nI (gset P β 4 (P 0 1))) (nI (bm (got P β) g)) (nI g) 1 s else b_X2_goBy_3_30_91 (fun z0 z1 z2 z3 => b_X2_goBy_3_30_49 n z0 z1 z2 z3) (nI (gset P β 4 (P 0 1))) (nI (bm (got P β) g)) (nI g) 0 s := by
      rw [b_X2_goBy_3_30_49, P1.1.2.2, if_neg (nI_ge hg (by omega)), rd_nI (k := 37) (by omega) (by omega), p3, x6]
      by_cases e1 : P 7 g ≤ β 17
      · rw [if_neg (nI_nlt e1 (by omega)), rd_nI (k := 38) (by omega) (by omega), p4]
        by_cases e2 : β 17 ≤ P 8 g
        · rw [if_neg (nI_nlt e2 (by omega)), if_pos ⟨e1, e2⟩]
        · rw [if_pos (nI_lt (by omega) (by omega)), if_neg (fun q => e2 q.2)]
      · rw [if_pos (nI_lt (by omega) (by omega)), if_neg (fun q => e1 q.1)]
    by_cases ea : P 7 g ≤ β 17 ∧ β 17 ≤ P 8 g
    · rw [if_pos ea] at hd91
      unfold b_X2_goBy_3_30_91 at hd91
      rw [if_neg one_ne, rd_nI (k := 35) (by omega) (by omega), p1] at hd91
      by_cases eb : gvn P β (P 5 g) = true
      · have hy : got P β g = true := by unfold got; rw [eb]; simp [ea]
        rw [if_pos ((shr_bit _ glt _ (by omega)).mpr (by rw [ht]; exact eb)), rd_nI (by omega) (by omega), mh, wr_nI (by omega) (by omega), lt_e, lt_e, il1, nI_add, nI_add, nI_sh g (by omega), nI_or] at hd91
        refine ⟨(bm (got P β) (g + 1), wI s 7 g (nI (ng P β g (12 + g) + 1))), ⟨rfl, q2.w (by omega) (by omega), ?_⟩, ?_⟩
        · rw [ng, if_pos hy]
          refine XB_u.mpr ⟨fun i hi => ?_, fun i hi => ?_, fun i hi => ?_, fun i hi => ?_, ?_, ?_⟩
          · show (wI s 7 g _).1 4 i = _
            rw [wI_nk (by decide), un_ne (by omega)]; exact x1 i hi
          · show (wI s 7 g _).1 5 i = _
            rw [wI_nk (by decide), un_ne (by omega)]; exact x2 i hi
          · show (wI s 7 g _).1 6 i = _
            rw [wI_nk (by decide), un_ne (by omega)]; exact x3 i hi
          · show (wI s 7 g _).1 7 i = _
            by_cases ei : i = g
            · subst ei; rw [wI_eq, un_eq]
            · rw [wI_nj ei, un_ne (by omega)]; exact x4 i hi
          · show (wI s 7 g _).1 3 4 = _
            rw [wI_nk (by decide), un_ne (by omega)]; exact x5
          · show (wI s 7 g _).1 3 5 = _
            rw [wI_nk (by decide), un_ne (by omega), e17]; exact x6
        · show b_X2_goBy_3_30_49 (n + 1) _ _ _ _ = b_X2_goBy_3_30_49 n _ _ _ _
          rw [hd91, bm, if_pos hy]
      · refine no (by unfold got; simp [eb]) ?_
        rw [hd91, if_neg (fun q => eb (by rw [← ht]; exact (shr_bit _ glt _ (by omega)).mp q)), lt_e, il1, nI_add]
    · rw [if_neg ea] at hd91
      unfold b_X2_goBy_3_30_91 at hd91
      rw [if_pos (show (0 : Int32) = 0 from rfl), lt_e, il1, nI_add] at hd91
      exact no (by unfold got; simp [ea]) hd91) (0, s) ⟨rfl, c2, c3⟩
  dsimp only at d1 d2 d3
  subst d1
  rw [show b_X2_goBy_3_30_49 FU (nI (gset P β 4 (P 0 1))) 0 0 s = _ from h4]
  dsimp only
  have P2 := hXP.f d2 (by omega)
  obtain ⟨x1, x2, x3, x4, x5, x6⟩ := XB_u.mp d3
  have e17 : ng P β (P 0 2) 17 = β 17 := by rw [ng_o (by omega), (nc_ge w2).2 _ (by omega) (by omega)]
  rw [e17] at x6
  rw [b_X2_goBy_3_30_49, P2.1.2.2, if_pos (nI_le (by omega) (by omega)), x6, il1, nI_add, lt_e]
  refine ⟨_, rfl, d2.w (by omega) (by omega), ?_⟩
  unfold nx
  refine XB_u.mpr ⟨fun i hi => ?_, fun i hi => ?_, fun i hi => ?_, fun i hi => ?_, ?_, ?_⟩
  · rw [wI_nk (by decide), un_ne (by omega)]; exact x1 i hi
  · rw [wI_nk (by decide), un_ne (by omega)]; exact x2 i hi
  · rw [wI_nk (by decide), un_ne (by omega)]; exact x3 i hi
  · rw [wI_nk (by decide), un_ne (by omega)]; exact x4 i hi
  · rw [wI_nj (by decide), un_ne (by omega)]; exact x5
  · rw [wI_eq, un_eq]

theorem xgb8 {σ : ES} {P : Nat → Nat → Nat} {β : Nat → Nat} (hW : WP P) (hXP : XPt σ 30 P) (hB : ∀ c, c < P 0 1 → β c + β (4 + c) ≤ P 0 0) (hX : XB σ 8 P β) {c i : Nat} (hc : c < P 0 1) (hi : i < 100) : e_X2_giftBit_8_30 (nI c) (nI i) σ = some (nI (gb P β c i)) := by
  have w1 := hW.1
  have w2 := hW.2.1
  obtain ⟨x1, x2, x3, x4, x5, x6⟩ := XB_u.mp hX
  have bb := hB c hc
  have y1 : σ.1 9 c = nI (β c) := x1 c hc
  have y2 : σ.1 10 c = nI (β (4 + c)) := x2 c hc
  unfold e_X2_giftBit_8_30 b_X2_giftBit_8_30_0
  rw [xhasC_in hXP.1.2.1 hc w2, cl_so, if_neg one_ne, if_neg (nI_pos (by omega)), rd_nI (by omega) (by omega), y2]
  unfold gb
  by_cases e : i < β (4 + c)
  · rw [if_pos (nI_lt e (by omega)), if_pos e, rd_nI (by omega) (by omega), y1, nI_add, xgift_in hW hXP (by omega), cl_so, il1]
    exact if4 (hW.2.2.2.1 _ (by omega))
  · rw [if_neg (nI_nlt (by omega) (by omega)), if_neg e]; rfl
theorem xburn8 {σ : ES} {P : Nat → Nat → Nat} {β : Nat → Nat} (hW : WP P) (hXP : XPt σ 30 P) (hX : XB σ 8 P β) {c : Nat} (hc : c < P 0 1) (h1 : β (8 + c) = 1) (h2 : 1 ≤ β (4 + c)) (h3 : β (4 + c) ≤ 6) : ∃ s, e_X2_burnInch_8_30 (nI c) σ = some s ∧ Xf σ s 8 ∧ XB s 8 P (ad1 P β c) := by
  have w3 := hW.2.2.1
  have w2 := hW.2.1
  obtain ⟨x1, x2, x3, x4, x5, x6⟩ := XB_u.mp hX
  have y1 : σ.1 9 c = nI (β c) := x1 c hc
  have y2 : σ.1 10 c = nI (β (4 + c)) := x2 c hc
  have y4 : σ.1 34 c = nI (P 4 c) := ((XP30 hXP).2.2.1 c hc).2.2
  unfold e_X2_burnInch_8_30 b_X2_burnInch_8_30_0
  rw [rd_nI (by omega) (by omega), y1, il1, nI_add, wr_nI (by omega) (by omega), rd_nI (by omega) (by omega), wI_nk (by decide), y2, pk_sub (by omega), wr_nI (by omega) (by omega), rd_nI (by omega) (by omega), wI_nk (show 34 ≠ 10 by decide), wI_nk (show 34 ≠ 9 by decide), y4, lt_e]
  have e4 : (wI (wI σ 9 c (nI (β c + 1))) 10 c (nI (β (4 + c) - 1))).1 8 4 = nI (β 16) := by rw [wI_nk (by decide), wI_nk (by decide)]; exact x5
  rw [e4, nI_add, rd_nI (by omega) (by omega), wI_nk (by decide), wI_eq]
  have X0 : Xf σ (wI (wI (wI σ 9 c (nI (β c + 1))) 10 c (nI (β (4 + c) - 1))) 8 4 (nI (β 16 + P 4 c))) 8 := ((Xf.rf.w (by omega) (by omega)).w (by omega) (by omega)).w (by omega) (by omega)
  have main : ∀ s, (∀ q, q ≠ c → s.1 11 q = σ.1 11 q) → s.1 11 c = nI (if β (4 + c) = 1 then 2 else 1) → (∀ k, k ≠ 11 → s.1 k = (wI (wI (wI σ 9 c (nI (β c + 1))) 10 c (nI (β (4 + c) - 1))) 8 4 (nI (β 16 + P 4 c))).1 k) → XB s 8 P (ad1 P β c) := by
    intro s f1 f2 f3
    refine XB_u.mpr ⟨fun i hi => ?_, fun i hi => ?_, fun i hi => ?_, fun i hi => ?_, ?_, ?_⟩
    · show s.1 9 i = _
      rw [f3 _ (by decide), wI_nk (by decide), wI_nk (by decide)]
      by_cases e : i = c
      · subst e; rw [wI_eq, ad1_p (by omega)]
      · rw [wI_nj e, ad1_o (by omega) (by omega) (by omega) (by omega)]; exact x1 i hi
    · show s.1 10 i = _
      rw [f3 _ (by decide), wI_nk (by decide)]
      by_cases e : i = c
      · subst e; rw [wI_eq, ad1_l (by omega)]
      · rw [wI_nj e, wI_nk (by decide), ad1_o (by omega) (by omega) (by omega) (by omega)]; exact x2 i hi
    · show s.1 11 i = _
      by_cases e : i = c
      · subst e; rw [f2, ad1_f]
      · rw [f1 i e, ad1_o (by omega) (by omega) (by omega) (by omega)]; exact x3 i hi
    · show s.1 12 i = _
      rw [f3 _ (by decide), wI_nk (by decide), wI_nk (by decide), wI_nk (by decide), ad1_o (by omega) (by omega) (by omega) (by omega)]; exact x4 i hi
    · rw [f3 _ (by decide), wI_eq, ad1_c (by omega)]
    · rw [f3 _ (by decide), wI_nj (by decide), wI_nk (by decide), wI_nk (by decide), ad1_o (by omega) (by omega) (by omega) (by omega)]; exact x6
  by_cases e : β (4 + c) = 1
  · rw [if_neg (show ¬ (0 : Int32) < nI (β (4 + c) - 1) by rw [e]; decide), wr_nI (by omega) (by omega)]
    refine ⟨_, rfl, X0.w (by omega) (by omega), main _ (fun q hq => ?_) ?_ (fun k hk => ?_)⟩
    · rw [wI_nj hq, wI_nk (by decide), wI_nk (by decide), wI_nk (by decide)]
    · rw [wI_eq, if_pos e]; rfl
    · rw [wI_nk hk]
  · rw [if_pos (show (0 : Int32) < nI (β (4 + c) - 1) from nI_lt (a := 0) (by omega) (by omega))]
    refine ⟨_, rfl, X0, main _ (fun q hq => ?_) ?_ (fun k hk => rfl)⟩
    · rw [wI_nk (by decide), wI_nk (by decide), wI_nk (by decide)]
    · rw [wI_nk (by decide), wI_nk (by decide), wI_nk (by decide), if_neg e, ← h1]; exact x3 c hc
theorem xgo8 {σ : ES} {P : Nat → Nat → Nat} {β : Nat → Nat} (hW : WP P) (hXP : XPt σ 30 P) (hB : WB P β) (hX : XB σ 8 P β) : ∃ s, e_X2_goBy_8_30 σ = some (nI (who P β), s) ∧ Xf σ s 8 ∧ XB s 8 P (nx P β) := by
  have w2 := hW.2.1
  have w3 := hW.2.2.1
  have hev : ∀ c, c < P 0 1 → β (8 + c) = 1 → P 1 (β c) ≤ 4 ∧ β c < P 0 0 ∧ 1 ≤ β (4 + c) := fun c hc e => by
    have := WBc hW hB hc
    have h2 : β c < P 0 0 := by omega
    exact ⟨hW.2.2.2.1 _ h2, h2, by omega⟩
  unfold e_X2_goBy_8_30 b_X2_goBy_8_30_0
  obtain ⟨⟨v, s⟩, k, ⟨c1, c2, c3⟩, h2⟩ := loop_FU (fun n c (q : Nat × ES) => b_X2_goBy_8_30_4 n (nI q.1) (nI c) q.2) (fun c q => q.1 = gset P β 4 c ∧ Xf σ q.2 8 ∧ XB q.2 8 P (nc P β c)) (P 0 1) (by omega) (fun n c q hc hq => by
    obtain ⟨v, s⟩ := q
    obtain ⟨q1, q2, q3⟩ := hq
    dsimp only at q1 q2 q3
    subst q1
    have P1 := hXP.f q2 (by omega)
    obtain ⟨g1, g2, g3⟩ := (nc_ge (P := P) (β := β) (m := c) (by omega)).1 c (by omega) (by omega)
    have m3 : s.1 11 c = nI (β (8 + c)) := by rw [← g3]; exact (XB_u.mp q3).2.2.1 c hc
    have bb := WBc hW hB hc
    by_cases e : β (8 + c) = 1
    · obtain ⟨v1, v2, v3⟩ := hev c hc e
      obtain ⟨s2, b1, b2, b3⟩ := xburn8 hW P1 q3 hc (by rw [g3]; exact e) (by rw [g2]; omega) (by rw [g2]; omega)
      refine ⟨(gset P β 4 (c + 1), s2), ⟨rfl, ⟨fun k hk => by rw [b2.1 k hk, q2.1 k hk], by rw [b2.2, q2.2]⟩, ?_⟩, ?_⟩
      · rw [nc, if_pos e]; exact b3
      · show b_X2_goBy_8_30_4 (n + 1) _ _ _ = b_X2_goBy_8_30_4 n _ _ _
        have hb2 : ∀ i, i < P 0 1 → nc P β c i + nc P β c (4 + i) ≤ P 0 0 := fun i hi => by
          have bi := WBc hW hB hi
          by_cases ei : i < c
          · obtain ⟨r1, r2, -⟩ := nc_lt (P := P) (β := β) (m := c) (by omega) i ei
            rw [r1, r2]
            by_cases e8 : β (8 + i) = 1
            · rw [if_pos e8, if_pos e8]; have := (hev i hi e8).2.2; omega
            · rw [if_neg e8, if_neg e8]; omega
          · obtain ⟨r1, r2, -⟩ := (nc_ge (P := P) (β := β) (m := c) (by omega)).1 i (by omega) (by omega)
            rw [r1, r2]; omega
        have egb : e_X2_giftBit_8_30 (nI c) 0 s = some (nI (gb P (nc P β c) c 0)) := xgb8 hW P1 hb2 q3 hc (i := 0) (by omega)
        rw [b_X2_goBy_8_30_4, P1.1.2.1, if_neg (nI_ge hc (by omega)), rd_nI (by omega) (by omega), m3, e, if_pos (show nI 1 = 1 from rfl), egb, cl_so, lt_e, b1, cl_so, lt_e, il1, nI_add, nI_or]
        have eg : gset P β 4 c ||| gb P (nc P β c) c 0 = gset P β 4 (c + 1) := by
          rw [gset]
          unfold gb
          rw [g1, g2, if_pos (by omega), Nat.add_zero]
          by_cases e4 : P 1 (β c) = 4
          · rw [if_pos e4, if_neg (fun q => q.2 e4)]
          · rw [if_neg e4, if_pos ⟨e, e4⟩]
        rw [eg]
    · refine ⟨(gset P β 4 (c + 1), s), ⟨rfl, q2, ?_⟩, ?_⟩
      · rw [nc, if_neg e]; exact q3
      · show b_X2_goBy_8_30_4 (n + 1) _ _ _ = b_X2_goBy_8_30_4 n _ _ _
        rw [b_X2_goBy_8_30_4, P1.1.2.1, if_neg (nI_ge hc (by omega)), rd_nI (by omega) (by omega), m3, if_neg (show ¬ nI (β (8 + c)) = 1 from fun q => e ((nI_eq (b := 1) (by omega) (by omega)).mp q)), lt_e, il1, nI_add, gset, if_neg (fun q => e q.1), Nat.or_zero]) (0, σ) ⟨rfl, Xf.rf, hX⟩
  dsimp only at c1 c2 c3
  subst c1
  rw [show b_X2_goBy_8_30_4 FU 0 0 σ = _ from h2]
  dsimp only
  have P1 := hXP.f c2 (by omega)
  rw [b_X2_goBy_8_30_4, P1.1.2.1, if_pos (nI_le (by omega) (by omega))]
  have glt : gset P β 4 (P 0 1) < 32 := gset_lt (fun c hc e => (hev c hc e).1)
  obtain ⟨⟨v2, t⟩, k2, ⟨d1, d2, d3⟩, h4⟩ := loop_FU (fun n g (q : Nat × ES) => b_X2_goBy_8_30_49 n (nI (gset P β 4 (P 0 1))) (nI q.1) (nI g) q.2) (fun g q => q.1 = bm (got P β) g ∧ Xf σ q.2 8 ∧ XB q.2 8 P (ng P β g)) (P 0 2) (by omega) (fun n g q hg hq => by
    obtain ⟨v, s⟩ := q
    obtain ⟨q1, q2, q3⟩ := hq
    dsimp only at q1 q2 q3
    subst q1
    have P1 := hXP.f q2 (by omega)
    obtain ⟨x1, x2, x3, x4, x5, x6⟩ := XB_u.mp q3
    have wg := WBg hW hB hg
    obtain ⟨p1, p2, p3, p4⟩ := (XP30 P1).2.2.2 g hg
    have e17 : ng P β g 17 = β 17 := by rw [ng_o (by omega), (nc_ge w2).2 _ (by omega) (by omega)]
    have b17 : β 17 ≤ 20 := hB.2.2
    rw [e17] at x6
    have mh : s.1 12 g = nI (ng P β g (12 + g)) := x4 g hg
    have ht : (gset P β 4 (P 0 1)).testBit (P 5 g) = gvn P β (P 5 g) := gset_test (by omega)
    have no : got P β g = false → b_X2_goBy_8_30_49 (n + 1) (nI (gset P β 4 (P 0 1))) (nI (bm (got P β) g)) (nI g) s = b_X2_goBy_8_30_49 n (nI (gset P β 4 (P 0 1))) (nI (bm (got P β) g)) (nI (g + 1)) s → ∃ s' : Nat × ES, (s'.1 = bm (got P β) (g + 1) ∧ Xf σ s'.2 8 ∧ XB s'.2 8 P (ng P β (g + 1))) ∧ b_X2_goBy_8_30_49 (n + 1) (nI (gset P β 4 (P 0 1))) (nI (bm (got P β) g)) (nI g) s = b_X2_goBy_8_30_49 n (nI (gset P β 4 (P 0 1))) (nI s'.1) (nI (g + 1)) s'.2 := by
      intro hg0 he
      have hne : ¬ got P β g = true := by rw [hg0]; decide
      refine ⟨(bm (got P β) (g + 1), s), ⟨rfl, q2, ?_⟩, ?_⟩
      · rw [ng, if_neg hne]; exact q3
      · rw [he, bm, if_neg hne, Nat.or_zero]
    have hd91 : b_X2_goBy_8_30_49 (n + 1) (nI (gset P β 4 (P 0 1))) (nI (bm (got P β) g)) (nI g) s = if P 7 g ≤ β 17 ∧ β 17 ≤ P 8 g then b_X2_goBy_8_30_91 (fun z0 z1 z2 z3 => b_X2_goBy_8_30_49 n z0 z1 z2 z3) (nI (gset P β 4 (P 0 1))) (nI (bm (got P β) g)) (nI g) 1 s else b_X2_goBy_8_30_91 (fun z0 z1 z2 z3 => b_X2_goBy_8_30_49 n z0 z1 z2 z3) (nI (gset P β 4 (P 0 1))) (nI (bm (got P β) g)) (nI g) 0 s := by
      rw [b_X2_goBy_8_30_49, P1.1.2.2, if_neg (nI_ge hg (by omega)), rd_nI (k := 37) (by omega) (by omega), p3, x6]
      by_cases e1 : P 7 g ≤ β 17
      · rw [if_neg (nI_nlt e1 (by omega)), rd_nI (k := 38) (by omega) (by omega), p4]
        by_cases e2 : β 17 ≤ P 8 g
        · rw [if_neg (nI_nlt e2 (by omega)), if_pos ⟨e1, e2⟩]
        · rw [if_pos (nI_lt (by omega) (by omega)), if_neg (fun q => e2 q.2)]
      · rw [if_pos (nI_lt (by omega) (by omega)), if_neg (fun q => e1 q.1)]
    by_cases ea : P 7 g ≤ β 17 ∧ β 17 ≤ P 8 g
    · rw [if_pos ea] at hd91
      unfold b_X2_goBy_8_30_91 at hd91
      rw [if_neg one_ne, rd_nI (k := 35) (by omega) (by omega), p1] at hd91
      by_cases eb : gvn P β (P 5 g) = true
      · have hy : got P β g = true := by unfold got; rw [eb]; simp [ea]
        rw [if_pos ((shr_bit _ glt _ (by omega)).mpr (by rw [ht]; exact eb)), rd_nI (by omega) (by omega), mh, wr_nI (by omega) (by omega), lt_e, lt_e, il1, nI_add, nI_add, nI_sh g (by omega), nI_or] at hd91
        refine ⟨(bm (got P β) (g + 1), wI s 12 g (nI (ng P β g (12 + g) + 1))), ⟨rfl, q2.w (by omega) (by omega), ?_⟩, ?_⟩
        · rw [ng, if_pos hy]
          refine XB_u.mpr ⟨fun i hi => ?_, fun i hi => ?_, fun i hi => ?_, fun i hi => ?_, ?_, ?_⟩
          · show (wI s 12 g _).1 9 i = _
            rw [wI_nk (by decide), un_ne (by omega)]; exact x1 i hi
          · show (wI s 12 g _).1 10 i = _
            rw [wI_nk (by decide), un_ne (by omega)]; exact x2 i hi
          · show (wI s 12 g _).1 11 i = _
            rw [wI_nk (by decide), un_ne (by omega)]; exact x3 i hi
          · show (wI s 12 g _).1 12 i = _
            by_cases ei : i = g
            · subst ei; rw [wI_eq, un_eq]
            · rw [wI_nj ei, un_ne (by omega)]; exact x4 i hi
          · show (wI s 12 g _).1 8 4 = _
            rw [wI_nk (by decide), un_ne (by omega)]; exact x5
          · show (wI s 12 g _).1 8 5 = _
            rw [wI_nk (by decide), un_ne (by omega), e17]; exact x6
        · show b_X2_goBy_8_30_49 (n + 1) _ _ _ _ = b_X2_goBy_8_30_49 n _ _ _ _
          rw [hd91, bm, if_pos hy]
      · refine no (by unfold got; simp [eb]) ?_
        rw [hd91, if_neg (fun q => eb (by rw [← ht]; exact (shr_bit _ glt _ (by omega)).mp q)), lt_e, il1, nI_add]
    · rw [if_neg ea] at hd91
      unfold b_X2_goBy_8_30_91 at hd91
      rw [if_pos (show (0 : Int32) = 0 from rfl), lt_e, il1, nI_add] at hd91
      exact no (by unfold got; simp [ea]) hd91) (0, s) ⟨rfl, c2, c3⟩
  dsimp only at d1 d2 d3
  subst d1
  rw [show b_X2_goBy_8_30_49 FU (nI (gset P β 4 (P 0 1))) 0 0 s = _ from h4]
  dsimp only
  have P2 := hXP.f d2 (by omega)
  obtain ⟨x1, x2, x3, x4, x5, x6⟩ := XB_u.mp d3
  have e17 : ng P β (P 0 2) 17 = β 17 := by rw [ng_o (by omega), (nc_ge w2).2 _ (by omega) (by omega)]
  rw [e17] at x6
  rw [b_X2_goBy_8_30_49, P2.1.2.2, if_pos (nI_le (by omega) (by omega)), x6, il1, nI_add, lt_e]
  refine ⟨_, rfl, d2.w (by omega) (by omega), ?_⟩
  unfold nx
  refine XB_u.mpr ⟨fun i hi => ?_, fun i hi => ?_, fun i hi => ?_, fun i hi => ?_, ?_, ?_⟩
  · rw [wI_nk (by decide), un_ne (by omega)]; exact x1 i hi
  · rw [wI_nk (by decide), un_ne (by omega)]; exact x2 i hi
  · rw [wI_nk (by decide), un_ne (by omega)]; exact x3 i hi
  · rw [wI_nk (by decide), un_ne (by omega)]; exact x4 i hi
  · rw [wI_nj (by decide), un_ne (by omega)]; exact x5
  · rw [wI_eq, un_eq]

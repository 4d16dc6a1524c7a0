-- ===== a step =====
/-- candle c burns an inch -/
def ad1 (P : Nat → Nat → Nat) (β : Nat → Nat) (c : Nat) : Nat → Nat := un (un (un (un β c (β c + 1)) (4 + c) (β (4 + c) - 1)) 16 (β 16 + P 4 c)) (8 + c) (if β (4 + c) = 1 then 2 else 1)
/-- the first m candles have burnt an inch, if they burn -/
def nc (P : Nat → Nat → Nat) (β : Nat → Nat) : Nat → Nat → Nat
  | 0 => β
  | m + 1 => if β (8 + m) = 1 then ad1 P (nc P β m) m else nc P β m
def gvn (P : Nat → Nat → Nat) (β : Nat → Nat) (w : Nat) : Bool := anyN (fun c => decide (β (8 + c) = 1 ∧ P 1 (β c) = w)) (P 0 1)
def got (P : Nat → Nat → Nat) (β : Nat → Nat) (g : Nat) : Bool := decide (P 7 g ≤ β 17 ∧ β 17 ≤ P 8 g) && gvn P β (P 5 g)
def ng (P : Nat → Nat → Nat) (β : Nat → Nat) : Nat → Nat → Nat
  | 0 => nc P β (P 0 1)
  | m + 1 => if got P β m then un (ng P β m) (12 + m) (ng P β m (12 + m) + 1) else ng P β m
def nx (P : Nat → Nat → Nat) (β : Nat → Nat) : Nat → Nat := un (ng P β (P 0 2)) 17 (β 17 + 1)
def who (P : Nat → Nat → Nat) (β : Nat → Nat) : Nat := bm (got P β) (P 0 2)
theorem ad1_o {P : Nat → Nat → Nat} {β : Nat → Nat} {c q : Nat} (h1 : q ≠ c) (h2 : q ≠ 4 + c) (h3 : q ≠ 8 + c) (h4 : q ≠ 16) : ad1 P β c q = β q := by
  unfold ad1; rw [un_ne h3, un_ne h4, un_ne h2, un_ne h1]
theorem ad1_p {P : Nat → Nat → Nat} {β : Nat → Nat} {c : Nat} (h : c < 4) : ad1 P β c c = β c + 1 := by
  unfold ad1; rw [un_ne (by omega), un_ne (by omega), un_ne (by omega), un_eq]
theorem ad1_l {P : Nat → Nat → Nat} {β : Nat → Nat} {c : Nat} (h : c < 4) : ad1 P β c (4 + c) = β (4 + c) - 1 := by
  unfold ad1; rw [un_ne (by omega), un_ne (by omega), un_eq]
theorem ad1_f {P : Nat → Nat → Nat} {β : Nat → Nat} {c : Nat} : ad1 P β c (8 + c) = if β (4 + c) = 1 then 2 else 1 := by
  unfold ad1; rw [un_eq]
theorem ad1_c {P : Nat → Nat → Nat} {β : Nat → Nat} {c : Nat} (h : c < 4) : ad1 P β c 16 = β 16 + P 4 c := by
  unfold ad1; rw [un_ne (by omega), un_eq]
theorem nc_ge {P : Nat → Nat → Nat} {β : Nat → Nat} {m : Nat} (hm : m ≤ 4) : (∀ c, m ≤ c → c < 4 → nc P β m c = β c ∧ nc P β m (4 + c) = β (4 + c) ∧ nc P β m (8 + c) = β (8 + c)) ∧ (∀ q, 12 ≤ q → q ≠ 16 → nc P β m q = β q) := by
  induction m with
  | zero => exact ⟨fun _ _ _ => ⟨rfl, rfl, rfl⟩, fun _ _ _ => rfl⟩
  | succ m ih =>
    obtain ⟨i1, i2⟩ := ih (by omega)
    rw [nc]
    by_cases h : β (8 + m) = 1
    · rw [if_pos h]
      refine ⟨fun c h1 h2 => ?_, fun q h1 h2 => ?_⟩
      · rw [ad1_o (by omega) (by omega) (by omega) (by omega), ad1_o (by omega) (by omega) (by omega) (by omega), ad1_o (by omega) (by omega) (by omega) (by omega)]
        exact i1 c (by omega) h2
      · rw [ad1_o (by omega) (by omega) (by omega) (by omega)]; exact i2 q h1 h2
    · rw [if_neg h]
      exact ⟨fun c h1 h2 => i1 c (by omega) h2, i2⟩
/-- what is behind a candle's turn -/
theorem nc_lt {P : Nat → Nat → Nat} {β : Nat → Nat} {m : Nat} (hm : m ≤ 4) : ∀ c, c < m → nc P β m c = (if β (8 + c) = 1 then β c + 1 else β c) ∧ nc P β m (4 + c) = (if β (8 + c) = 1 then β (4 + c) - 1 else β (4 + c)) ∧ nc P β m (8 + c) = (if β (8 + c) = 1 then (if β (4 + c) = 1 then 2 else 1) else β (8 + c)) := by
  induction m with
  | zero => intro c h; omega
  | succ m ih =>
    intro c hc
    have g := (nc_ge (P := P) (β := β) (m := m) (by omega)).1 m (by omega) (by omega)
    rw [nc]
    by_cases h : β (8 + m) = 1
    · rw [if_pos h]
      by_cases e : c = m
      · subst e
        rw [ad1_p (by omega), ad1_l (by omega), ad1_f, g.1, g.2.1, if_pos h, if_pos h, if_pos h]
        exact ⟨rfl, rfl, rfl⟩
      · rw [ad1_o (by omega) (by omega) (by omega) (by omega), ad1_o (by omega) (by omega) (by omega) (by omega), ad1_o (by omega) (by omega) (by omega) (by omega)]
        exact ih (by omega) c (by omega)
    · rw [if_neg h]
      by_cases e : c = m
      · subst e
        rw [if_neg h, if_neg h, if_neg h]; exact g
      · exact ih (by omega) c (by omega)
theorem ng_o {P : Nat → Nat → Nat} {β : Nat → Nat} {m q : Nat} (h : q < 12 ∨ 12 + m ≤ q) : ng P β m q = nc P β (P 0 1) q := by
  induction m with
  | zero => rfl
  | succ m ih =>
    rw [ng]
    by_cases g : got P β m = true
    · rw [if_pos g, un_ne (by omega)]; exact ih (by omega)
    · rw [if_neg g]; exact ih (by omega)
theorem ng_h {P : Nat → Nat → Nat} {β : Nat → Nat} {m : Nat} (hN : P 0 1 ≤ 4) (hm : m ≤ 4) : ∀ g, g < m → ng P β m (12 + g) = β (12 + g) + (if got P β g then 1 else 0) := by
  induction m with
  | zero => intro g h; omega
  | succ m ih =>
    intro g hg
    rw [ng]
    have e0 : ng P β m (12 + m) = β (12 + m) := by rw [ng_o (by omega), (nc_ge hN).2 _ (by omega) (by omega)]
    by_cases h : got P β m = true
    · rw [if_pos h]
      by_cases e : g = m
      · subst e; rw [un_eq, e0, if_pos h]
      · rw [un_ne (by omega)]; exact ih (by omega) g (by omega)
    · rw [if_neg h]
      by_cases e : g = m
      · subst e; rw [e0, if_neg h, Nat.add_zero]
      · exact ih (by omega) g (by omega)
theorem nx_c {P : Nat → Nat → Nat} {β : Nat → Nat} (hN : P 0 1 ≤ 4) {c : Nat} (hc : c < P 0 1) : nx P β c = (if β (8 + c) = 1 then β c + 1 else β c) ∧ nx P β (4 + c) = (if β (8 + c) = 1 then β (4 + c) - 1 else β (4 + c)) ∧ nx P β (8 + c) = (if β (8 + c) = 1 then (if β (4 + c) = 1 then 2 else 1) else β (8 + c)) := by
  unfold nx
  rw [un_ne (by omega), un_ne (by omega), un_ne (by omega), ng_o (by omega), ng_o (by omega), ng_o (by omega)]
  exact nc_lt hN c hc
theorem nx_h {P : Nat → Nat → Nat} {β : Nat → Nat} (hN : P 0 1 ≤ 4) (hG : P 0 2 ≤ 4) {g : Nat} (hg : g < P 0 2) : nx P β (12 + g) = β (12 + g) + (if got P β g then 1 else 0) := by
  unfold nx
  rw [un_ne (by omega)]; exact ng_h hN hG g hg
theorem nx_17 {P : Nat → Nat → Nat} {β : Nat → Nat} : nx P β 17 = β 17 + 1 := un_eq
theorem WB.nx {P : Nat → Nat → Nat} {β : Nat → Nat} (hW : WP P) (hB : WB P β) (h : β 17 < 20) : WB P (nx P β) := by
  have w2 := hW.2.1
  have w3 := hW.2.2.1
  obtain ⟨b1, b2, b3⟩ := hB
  refine ⟨fun c hc => ?_, fun g hg => ?_, ?_⟩
  · obtain ⟨c1, c2, c3, c4⟩ := b1 c hc
    obtain ⟨n1, n2, n3⟩ := nx_c (P := P) (β := β) w2 hc
    rw [n1, n2, n3]
    by_cases e : β (8 + c) = 1
    · rw [if_pos e, if_pos e, if_pos e]
      have := c4 (by omega)
      refine ⟨by omega, by omega, ?_, ?_⟩
      · by_cases e2 : β (4 + c) = 1
        · rw [if_pos e2]; omega
        · rw [if_neg e2]; omega
      · by_cases e2 : β (4 + c) = 1
        · rw [if_pos e2]; omega
        · rw [if_neg e2]; omega
    · rw [if_neg e, if_neg e, if_neg e]; exact ⟨c1, c2, c3, c4⟩
  · rw [nx_h w2 w3 hg, nx_17]
    have := b2 g hg
    by_cases e : got P β g = true
    · rw [if_pos e]; omega
    · rw [if_neg e]; omega
  · rw [nx_17]; omega
-- what is given, as bits
def gset (P : Nat → Nat → Nat) (β : Nat → Nat) (k : Nat) : Nat → Nat
  | 0 => 0
  | m + 1 => gset P β k m ||| (if β (8 + m) = 1 ∧ P 1 (β m) ≠ k then 2 ^ P 1 (β m) else 0)
theorem gset_lt {P : Nat → Nat → Nat} {β : Nat → Nat} {k m : Nat} (h : ∀ c, c < m → β (8 + c) = 1 → P 1 (β c) ≤ 4) : gset P β k m < 32 := by
  induction m with
  | zero => show 0 < 32; omega
  | succ m ih =>
    rw [gset]
    refine Nat.or_lt_two_pow (n := 5) (ih (fun c hc => h c (by omega))) ?_
    by_cases e : β (8 + m) = 1 ∧ P 1 (β m) ≠ k
    · rw [if_pos e]; exact Nat.pow_lt_pow_right (by decide) (by have := h m (by omega) e.1; omega)
    · rw [if_neg e]; decide
theorem gset_test {P : Nat → Nat → Nat} {β : Nat → Nat} {k m w : Nat} (hw : w ≠ k) : (gset P β k m).testBit w = anyN (fun c => decide (β (8 + c) = 1 ∧ P 1 (β c) = w)) m := by
  induction m with
  | zero => simp [gset, anyN]
  | succ m ih =>
    rw [gset, Nat.testBit_or, ih, anyN]
    congr 1
    by_cases e : β (8 + m) = 1 ∧ P 1 (β m) ≠ k
    · rw [if_pos e, Nat.testBit_two_pow]
      by_cases e2 : P 1 (β m) = w
      · simp [e.1, e2]
      · simp [e2]
    · rw [if_neg e, Nat.zero_testBit]
      by_cases e1 : β (8 + m) = 1
      · have : P 1 (β m) = k := Decidable.byContradiction fun q => e ⟨e1, q⟩
        simp [e1, this, Ne.symm hw]
      · simp [e1]
theorem shr_bit : ∀ x, x < 32 → ∀ k, k < 5 → ((((nI x) >>> (nI k &&& 31)) &&& 1) = 1 ↔ x.testBit k = true) := by decide
-- ===== the reference's step =====
/-- a row's places that count -/
theorem MR_u {f : Nat → Int32} {o : Nat} {P : Nat → Nat → Nat} {β : Nat → Nat} : MR f o P β ↔ (∀ c, c < P 0 1 → f (o + c) = nI (β c)) ∧ (∀ c, c < P 0 1 → f (o + (4 + c)) = nI (β (4 + c))) ∧ (∀ c, c < P 0 1 → f (o + (8 + c)) = nI (β (8 + c))) ∧ (∀ g, g < P 0 2 → f (o + (12 + g)) = nI (β (12 + g))) ∧ f (o + 16) = nI (β 16) ∧ f (o + 17) = nI (β 17) := by
  unfold MR
  simp only [← Nat.add_assoc]
  constructor
  · rintro ⟨a, b, c, d⟩
    exact ⟨fun k h => (a k h).1, fun k h => (a k h).2.1, fun k h => (a k h).2.2, b, c, d⟩
  · rintro ⟨a, b, c, d, e, f⟩
    exact ⟨fun k h => ⟨a k h, b k h, c k h⟩, d, e, f⟩
/-- only the row's own places have changed -/
def Rw (τ s : ES) (o : Nat) : Prop := Kp τ s 9 ∧ ∀ q, (q < o ∨ o + 18 ≤ q) → s.1 9 q = τ.1 9 q
theorem Rw.rf {τ : ES} {o : Nat} : Rw τ τ o := ⟨Kp.rf, fun _ _ => rfl⟩
theorem Rw.w {τ s : ES} {o j : Nat} {v : Int32} (h : Rw τ s o) (h1 : o ≤ j) (h2 : j < o + 18) : Rw τ (wI s 9 j v) o := ⟨h.1.w, fun q hq => by rw [wI_nj (by omega)]; exact h.2 q hq⟩
theorem MPt.k {τ s : ES} {P : Nat → Nat → Nat} (h : MPt τ P) (k : Kp τ s 9) : MPt s P := h.c (fun q q1 q2 => by
  by_cases e : q = 9
  · omega
  · exact k.1 q e) (by rw [k.1 0 (by decide)]) (by rw [k.1 0 (by decide)]) (by rw [k.1 0 (by decide)])
theorem mpass {τ : ES} {P : Nat → Nat → Nat} {β : Nat → Nat} {L : Nat} (hL : L < 2) (hW : WP P) (hMP : MPt τ P) (hB : WB P β) (hM : MR (τ.1 9) (18 * L) P β) : ∃ s, e_X8_pass (nI L) τ = some (nI (who P β), s) ∧ Rw τ s (18 * L) ∧ MR (s.1 9) (18 * L) P (nx P β) := by
  have w2 := hW.2.1
  have w3 := hW.2.2.1
  have hev : ∀ c, c < P 0 1 → β (8 + c) = 1 → P 1 (β c) ≤ 4 ∧ β c < P 0 0 ∧ 1 ≤ β (4 + c) := fun c hc e => by
    have := WBc hW hB hc
    have h2 : β c < P 0 0 := by omega
    exact ⟨hW.2.2.2.1 _ h2, h2, by omega⟩
  unfold e_X8_pass b_X8_pass_0
  rw [il18, pk_mul, lt_e]
  obtain ⟨⟨v, s⟩, k, ⟨c1, c2, c3⟩, h2⟩ := loop_FU (fun n c (q : Nat × ES) => b_X8_pass_10 n (nI (18 * L)) (nI q.1) (nI c) q.2) (fun c q => q.1 = gset P β 5 c ∧ Rw τ q.2 (18 * L) ∧ MR (q.2.1 9) (18 * L) P (nc P β c)) (P 0 1) (by omega) (fun n c q hc hq => by
    obtain ⟨v, s⟩ := q
    obtain ⟨q1, q2, q3⟩ := hq
    dsimp only at q1 q2 q3
    subst q1
    have P1 := hMP.k q2.1
    obtain ⟨m1, m2, m3, m4, m5, m6⟩ := MR_u.mp q3
    obtain ⟨g1, g2, g3⟩ := (nc_ge (P := P) (β := β) (m := c) (by omega)).1 c (by omega) (by omega)
    have mc3 := m3 c hc
    rw [g3] at mc3
    have bb := WBc hW hB hc
    by_cases e : β (8 + c) = 1
    · obtain ⟨v1, v2, v3⟩ := hev c hc e
      refine ⟨(gset P β 5 (c + 1), wI (wI (wI (wI s 9 (18 * L + c) (nI (β c + 1))) 9 (18 * L + (4 + c)) (nI (β (4 + c) - 1))) 9 (18 * L + 16) (nI (nc P β c 16 + P 4 c))) 9 (18 * L + (8 + c)) (nI (if β (4 + c) = 1 then 2 else 1))), ⟨rfl, ?_, ?_⟩, ?_⟩
      · exact ((((q2.w (by omega) (by omega)).w (by omega) (by omega)).w (by omega) (by omega)).w (by omega) (by omega))
      · show MR ((wI (wI (wI (wI s 9 (18 * L + c) _) 9 _ _) 9 _ _) 9 _ _).1 9) (18 * L) P (nc P β (c + 1))
        rw [nc, if_pos e]
        refine MR_u.mpr ⟨fun i hi => ?_, fun i hi => ?_, fun i hi => ?_, fun i hi => ?_, ?_, ?_⟩
        · rw [wI_nj (by omega), wI_nj (by omega), wI_nj (by omega)]
          by_cases ei : i = c
          · subst ei; rw [wI_eq, ad1_p (by omega), g1]
          · rw [wI_nj (by omega), ad1_o (by omega) (by omega) (by omega) (by omega)]; exact m1 i hi
        · rw [wI_nj (by omega), wI_nj (by omega)]
          by_cases ei : i = c
          · subst ei; rw [wI_eq, ad1_l (by omega), g2]
          · rw [wI_nj (by omega), wI_nj (by omega), ad1_o (by omega) (by omega) (by omega) (by omega)]; exact m2 i hi
        · by_cases ei : i = c
          · subst ei; rw [wI_eq, ad1_f, g2]
          · rw [wI_nj (by omega), wI_nj (by omega), wI_nj (by omega), wI_nj (by omega), ad1_o (by omega) (by omega) (by omega) (by omega)]; exact m3 i hi
        · rw [wI_nj (by omega), wI_nj (by omega), wI_nj (by omega), wI_nj (by omega), ad1_o (by omega) (by omega) (by omega) (by omega)]; exact m4 i hi
        · rw [wI_nj (by omega), wI_eq, ad1_c (by omega)]
        · rw [wI_nj (by omega), wI_nj (by omega), wI_nj (by omega), wI_nj (by omega), ad1_o (by omega) (by omega) (by omega) (by omega)]; exact m6
      · show b_X8_pass_10 (n + 1) _ _ _ _ = b_X8_pass_10 n _ _ _ _
        have mp := m1 c hc
        have ml := m2 c hc
        rw [g1] at mp
        rw [g2] at ml
        rw [b_X8_pass_10, P1.1.2.1, if_neg (nI_ge hc (by omega))]
        simp only [il8, il4, il16, nI_add, Nat.add_assoc]
        rw [rd_nI (by omega) (by omega), mc3, e, if_pos (show nI 1 = 1 from rfl), rd_nI (by omega) (by omega), mp, rd_nI (k := 1) (by omega) (by omega), P1.2.1 _ v2, lt_e, rd_nI (by omega) (by omega), mp, il1, nI_sh _ (by omega), nI_or, nI_add]
        rw [wr_nI (by omega) (by omega), rd_nI (by omega) (by omega), wI_nj (by omega), ml, pk_sub (by omega), wr_nI (by omega) (by omega), rd_nI (by omega) (by omega), wI_nj (by omega), wI_nj (by omega), m5]
        rw [rd_nI (k := 4) (by omega) (by omega), wI_nk (show 4 ≠ 9 by decide), wI_nk (show 4 ≠ 9 by decide), (P1.2.2.1 c hc).2.2, nI_add, wr_nI (by omega) (by omega), rd_nI (by omega) (by omega), wI_nj (by omega), wI_eq]
        have eg : gset P β 5 c ||| 2 ^ P 1 (β c) = gset P β 5 (c + 1) := by rw [gset, if_pos ⟨e, by omega⟩]
        rw [eg]
        unfold b_X8_pass_131
        by_cases e1 : β (4 + c) = 1
        · rw [e1, if_pos (show nI (1 - 1) = 0 from rfl), wr_nI (by omega) (by omega), lt_e, il1, nI_add]; rfl
        · rw [if_neg (show ¬ nI (β (4 + c) - 1) = 0 from nI_ne0 (by omega) (by omega)), wr_nI (by omega) (by omega), lt_e, il1, nI_add, if_neg e1]
    · refine ⟨(gset P β 5 (c + 1), s), ⟨rfl, q2, ?_⟩, ?_⟩
      · rw [nc, if_neg e]; exact q3
      · show b_X8_pass_10 (n + 1) _ _ _ _ = b_X8_pass_10 n _ _ _ _
        rw [b_X8_pass_10, P1.1.2.1, if_neg (nI_ge hc (by omega))]
        simp only [il8, il4, il16, nI_add, Nat.add_assoc]
        rw [rd_nI (by omega) (by omega), mc3, if_neg (show ¬ nI (β (8 + c)) = 1 from fun q => e ((nI_eq (b := 1) (by omega) (by omega)).mp q)), lt_e, il1, nI_add, gset, if_neg (fun q => e q.1), Nat.or_zero]) (0, τ) ⟨rfl, Rw.rf, hM⟩
  dsimp only at c1 c2 c3
  subst c1
  rw [show b_X8_pass_10 FU (nI (18 * L)) 0 0 τ = _ from h2]
  dsimp only
  have P1 := hMP.k c2.1
  rw [b_X8_pass_10, P1.1.2.1, if_pos (nI_le (by omega) (by omega))]
  have glt : gset P β 5 (P 0 1) < 32 := gset_lt (fun c hc e => (hev c hc e).1)
  obtain ⟨⟨v2, t⟩, k2, ⟨d1, d2, d3⟩, h4⟩ := loop_FU (fun n g (q : Nat × ES) => b_X8_pass_144 n (nI (18 * L)) (nI (gset P β 5 (P 0 1))) (nI q.1) (nI g) q.2) (fun g q => q.1 = bm (got P β) g ∧ Rw τ q.2 (18 * L) ∧ MR (q.2.1 9) (18 * L) P (ng P β g)) (P 0 2) (by omega) (fun n g q hg hq => by
    obtain ⟨v, s⟩ := q
    obtain ⟨q1, q2, q3⟩ := hq
    dsimp only at q1 q2 q3
    subst q1
    have P1 := hMP.k q2.1
    obtain ⟨m1, m2, m3, m4, m5, m6⟩ := MR_u.mp q3
    have wg := WBg hW hB hg
    obtain ⟨p1, p2, p3, p4⟩ := P1.2.2.2 g hg
    have e17 : ng P β g 17 = β 17 := by rw [ng_o (by omega), (nc_ge w2).2 _ (by omega) (by omega)]
    have b17 : β 17 ≤ 20 := hB.2.2
    rw [e17] at m6
    have mh := m4 g hg
    have e12 : ng P β g (12 + g) = β (12 + g) := by rw [ng_o (by omega), (nc_ge w2).2 _ (by omega) (by omega)]
    have ht : (gset P β 5 (P 0 1)).testBit (P 5 g) = gvn P β (P 5 g) := gset_test (by omega)
    refine ⟨(bm (got P β) (g + 1), wI s 9 (18 * L + (12 + g)) (nI (ng P β g (12 + g) + (if got P β g then 1 else 0)))), ⟨rfl, q2.w (by omega) (by omega), ?_⟩, ?_⟩
    · show MR ((wI s 9 _ _).1 9) (18 * L) P (ng P β (g + 1))
      have en : ng P β (g + 1) = un (ng P β g) (12 + g) (ng P β g (12 + g) + (if got P β g then 1 else 0)) := by
        rw [ng]
        by_cases e : got P β g = true
        · rw [if_pos e, if_pos e]
        · rw [if_neg e, if_neg e]
          funext q
          by_cases eq : q = 12 + g
          · subst eq; rw [un_eq]; rfl
          · rw [un_ne eq]
      rw [en]
      refine MR_u.mpr ⟨fun i hi => ?_, fun i hi => ?_, fun i hi => ?_, fun i hi => ?_, ?_, ?_⟩
      · rw [wI_nj (by omega), un_ne (by omega)]; exact m1 i hi
      · rw [wI_nj (by omega), un_ne (by omega)]; exact m2 i hi
      · rw [wI_nj (by omega), un_ne (by omega)]; exact m3 i hi
      · by_cases ei : i = g
        · subst ei; rw [wI_eq, un_eq]
        · rw [wI_nj (by omega), un_ne (by omega)]; exact m4 i hi
      · rw [wI_nj (by omega), un_ne (by omega)]; exact m5
      · rw [wI_nj (by omega), un_ne (by omega), e17]; exact m6
    · show b_X8_pass_144 (n + 1) _ _ _ _ _ = b_X8_pass_144 n _ _ _ _ _
      rw [b_X8_pass_144, P1.1.2.2, if_neg (nI_ge hg (by omega))]
      simp only [il17, nI_add]
      rw [rd_nI (by omega) (by omega), m6, rd_nI (k := 7) (by omega) (by omega), p3, rd_nI (k := 8) (by omega) (by omega), p4, in_n (by omega) (by omega) (by omega), cl_in]
      have key : ∀ (x : Bool), got P β g = x → b_X8_pass_204 (fun z0 z1 z2 z3 z4 => b_X8_pass_144 n z0 z1 z2 z3 z4) (nI (18 * L)) (nI (gset P β 5 (P 0 1))) (nI (bm (got P β) g)) (nI g) (if x then 1 else 0) s = b_X8_pass_144 n (nI (18 * L)) (nI (gset P β 5 (P 0 1))) (nI (bm (got P β) (g + 1))) (nI (g + 1)) (wI s 9 (18 * L + (12 + g)) (nI (ng P β g (12 + g) + (if got P β g then 1 else 0)))) := by
        intro x hx
        unfold b_X8_pass_204 b_X8_pass_229
        simp only [il12, nI_add, Nat.add_assoc]
        rw [rd_nI (by omega) (by omega), mh, hx, ← or_if, hx]
        cases x with
        | true =>
          simp only [if_true]
          rw [if_neg one_ne, wr_nI (by omega) (by omega), if_neg one_ne, lt_e, lt_e, il1, nI_sh g (by omega), nI_add, nI_add]
        | false =>
          simp only [Bool.false_eq_true, if_false, if_true]
          rw [wr_nI (by omega) (by omega), lt_e, lt_e, il1, il0, nI_add, nI_add]
      by_cases ea : P 7 g ≤ β 17 ∧ β 17 ≤ P 8 g
      · rw [if_pos ea, rd_nI (k := 5) (by omega) (by omega), p1, has_e _ glt _ (by omega), cl_in, ht]
        by_cases eb : gvn P β (P 5 g) = true
        · rw [if_pos eb]
          exact key true (by unfold got; rw [eb]; simp [ea])
        · rw [if_neg eb]
          exact key false (by unfold got; simp [eb])
      · rw [if_neg ea]
        exact key false (by unfold got; simp [ea])) (0, s) ⟨rfl, c2, c3⟩
  dsimp only at d1 d2 d3
  subst d1
  rw [show b_X8_pass_144 FU (nI (18 * L)) (nI (gset P β 5 (P 0 1))) 0 0 s = _ from h4]
  dsimp only
  have P2 := hMP.k d2.1
  obtain ⟨m1, m2, m3, m4, m5, m6⟩ := MR_u.mp d3
  have e17 : ng P β (P 0 2) 17 = β 17 := by rw [ng_o (by omega), (nc_ge w2).2 _ (by omega) (by omega)]
  rw [e17] at m6
  rw [b_X8_pass_144, P2.1.2.2, if_pos (nI_le (by omega) (by omega)), il17, nI_add, rd_nI (by omega) (by omega), m6, il1, nI_add, wr_nI (by omega) (by omega)]
  refine ⟨_, rfl, d2.w (by omega) (by omega), ?_⟩
  unfold nx
  refine MR_u.mpr ⟨fun i hi => ?_, fun i hi => ?_, fun i hi => ?_, fun i hi => ?_, ?_, ?_⟩
  · rw [wI_nj (by omega), un_ne (by omega)]; exact m1 i hi
  · rw [wI_nj (by omega), un_ne (by omega)]; exact m2 i hi
  · rw [wI_nj (by omega), un_ne (by omega)]; exact m3 i hi
  · rw [wI_nj (by omega), un_ne (by omega)]; exact m4 i hi
  · rw [wI_nj (by omega), un_ne (by omega)]; exact m5
  · rw [wI_eq, un_eq]

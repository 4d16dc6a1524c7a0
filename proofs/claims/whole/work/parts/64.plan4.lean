-- ===== plans: the class's rows of bits =====
def JL (F : Nat → Bool) : Int64 := lN (bm F 64)
theorem JL_c {F G : Nat → Bool} (h : ∀ b, b < 64 → F b = G b) : JL F = JL G := by unfold JL; rw [bm_congr h]
theorem bm_or (F G : Nat → Bool) : bm F 64 ||| bm G 64 = bm (fun b => F b || G b) 64 := Nat.eq_of_testBit_eq (fun i => by
  rw [Nat.testBit_or, bm_test, bm_test, bm_test]
  cases decide (i < 64) <;> simp)
theorem bm_and (F G : Nat → Bool) : bm F 64 &&& bm G 64 = bm (fun b => F b && G b) 64 := Nat.eq_of_testBit_eq (fun i => by
  rw [Nat.testBit_and, bm_test, bm_test, bm_test]
  cases decide (i < 64) <;> simp)
theorem JL_or (F G : Nat → Bool) : JL F ||| JL G = JL (fun b => F b || G b) := by unfold JL; rw [wb_or (bm_lt _ _) (bm_lt _ _), bm_or]
theorem JL_and (F G : Nat → Bool) : JL F &&& JL G = lN (bm (fun b => F b && G b) 64) := by unfold JL; rw [wb_and (bm_lt _ _) (bm_lt _ _), bm_and]
theorem bm_ext {F : Nat → Bool} {X : Nat} (h : ∀ i, X.testBit i = (decide (i < 64) && F i)) : X = bm F 64 := Nat.eq_of_testBit_eq (fun i => by rw [h, bm_test])
theorem JL_0 : (0 : Int64) = JL (fun _ => false) := by
  have : bm (fun _ => false) 64 = 0 := (bm_ext (F := fun _ => false) (X := 0) (fun i => by simp)).symm
  unfold JL; rw [this]; rfl
theorem JL_bit {k : Nat} (hk : k < 64) : (1 : Int64) <<< ((nI k).toInt64 &&& 63) = JL (fun b => decide (b = k)) := by
  have := wb_shl 1 hk
  unfold JL
  rw [← bm_ext (F := fun b => decide (b = k)) (X := 1 * 2 ^ k) (fun i => by
    rw [Nat.one_mul, Nat.testBit_two_pow]
    by_cases e : i = k
    · subst e; simp [hk]
    · simp [e, show ¬ k = i from fun z => e z.symm])]
  exact this
theorem JL_sh {F G : Nat → Bool} {k : Nat} (hk : k < 64) (h : ∀ b, (decide (k ≤ b) && (decide (b - k < 64) && F (b - k))) = (decide (b < 64) && G b)) : JL F <<< ((nI k).toInt64 &&& 63) = JL G := by
  unfold JL
  rw [wb_shl _ hk, ← bm_ext (F := G) (X := bm F 64 * 2 ^ k) (fun i => by
    rw [← Nat.shiftLeft_eq, Nat.testBit_shiftLeft, bm_test, ← h]
    )]
def win (P : Nat → Nat → Nat) (β : Nat → Nat) (g t : Nat) : Bool := decide (P 7 g ≤ β 17 + t ∧ β 17 + t ≤ P 8 g)
def TF (P : Nat → Nat → Nat) (β : Nat → Nat) (g b : Nat) : Bool := decide (b / 16 = P 5 g) && win P β g (b % 16)
theorem xguest {s : ES} {P : Nat → Nat → Nat} {β : Nat → Nat} {g : Nat} (hW : WP P) (hB : WB P β) (hXP : XPt s 30 P) (hX : XB s 3 P β) (hg : g < P 0 2) : e_X4_layGuest_15_30_3 (nI g) s = some (wI (wL s 19 g (JL (TF P β g))) 20 g (nI (P 6 g) - nI (β (12 + g)))) := by
  have w3 := hW.2.2.1
  have b := WBg hW hB hg
  have b17 := hB.2.2
  obtain ⟨y1, y2, y3, y4⟩ := (XP30 hXP).2.2.2 g hg
  obtain ⟨-, x2, -, x4⟩ := XB3 hX
  unfold e_X4_layGuest_15_30_3 b_X4_layGuest_15_30_3_0
  obtain ⟨u, j, e1, e2⟩ := loop_FU (fun n c (_ : Unit) => b_X4_layGuest_15_30_3_6 n (nI g) (JL (fun b => decide (b < c) && win P β g b)) (nI c) s) (fun _ _ => True) 16 (by omega) (fun n c _ hc _ => ⟨(), trivial, by
    show b_X4_layGuest_15_30_3_6 (n + 1) _ _ _ _ = b_X4_layGuest_15_30_3_6 n _ _ _ _
    rw [b_X4_layGuest_15_30_3_6, if_neg (show ¬ (16 : Int32) ≤ nI c from nI_ge (b := 16) hc (by omega)), x4, nI_add, lt_e, rd_nI (by omega) (by omega), y3, rd_nI (by omega) (by omega), y4, JL_bit (by omega), JL_or]
    simp only [lt_e, nI_1]
    by_cases c1 : β 17 + c < P 7 g
    · rw [if_pos (nI_lt c1 (by omega))]
      rw [JL_c (G := fun b => decide (b < c + 1) && win P β g b) (fun b hb => by
        by_cases e : b = c
        · subst e; unfold win; simp; omega
        · have : decide (b < c) = decide (b < c + 1) := by simp; omega
          rw [this])]
    · rw [if_neg (nI_nlt (by omega) (by omega))]
      by_cases c2 : P 8 g < β 17 + c
      · rw [if_pos (nI_lt c2 (by omega))]
        rw [JL_c (G := fun b => decide (b < c + 1) && win P β g b) (fun b hb => by
          by_cases e : b = c
          · subst e; unfold win; simp; omega
          · have : decide (b < c) = decide (b < c + 1) := by simp; omega
            rw [this])]
      · rw [if_neg (nI_nlt (by omega) (by omega))]
        rw [JL_c (G := fun b => decide (b < c + 1) && win P β g b) (fun b hb => by
          by_cases e : b = c
          · subst e; unfold win; simp; omega
          · have : decide (b < c) = decide (b < c + 1) := by simp; omega
            rw [this]; simp [e])]⟩) () trivial
  have e0 : (0 : Int64) = JL (fun b => decide (b < 0) && win P β g b) := by rw [JL_0]; exact JL_c (fun b _ => by simp)
  have e3 : b_X4_layGuest_15_30_3_6 FU (nI g) 0 0 s = b_X4_layGuest_15_30_3_6 (j + 1) (nI g) (JL (fun b => decide (b < 16) && win P β g b)) (nI 16) s := by rw [e0]; exact e2
  rw [e3, b_X4_layGuest_15_30_3_6, if_pos (show (16 : Int32) ≤ nI 16 by decide), rd_nI (by omega) (by omega), y1, wrL_nI (by omega) (by omega), rd_nI (by omega) (by omega), rd_nI (by omega) (by omega), wr_nI (by omega) (by omega), wL_1, y2, x2 g hg, il16, pk_mul, JL_sh (G := TF P β g) (by omega) (fun b => by
    unfold TF
    by_cases h : 16 * P 5 g ≤ b
    · by_cases h2 : b - 16 * P 5 g < 16
      · have e4 : b / 16 = P 5 g := by omega
        have e5 : b - 16 * P 5 g = b % 16 := by omega
        rw [e5]
        simp [h, e4, show b < 64 by omega, show b % 16 < 64 by omega, show b % 16 < 16 by omega]
      · have e4 : ¬ b / 16 = P 5 g := by omega
        simp [h2, e4]
    · have e4 : ¬ b / 16 = P 5 g := by omega
      simp [h, e4])]
def sf (P : Nat → Nat → Nat) (β : Nat → Nat) (c f b : Nat) : Bool := decide (1 ≤ f ∧ f ≤ b % 16 + 1 ∧ c < P 0 1 ∧ b % 16 + 1 - f < β (4 + c) ∧ P 1 (β c + (b % 16 + 1 - f)) = b / 16)
theorem lo_2 : ∀ w, w < 4 → lo (2 ^ w) = w ∧ 2 ^ w < 32 := by decide
theorem sf_sh {P : Nat → Nat → Nat} {β : Nat → Nat} {c f : Nat} (hW : WP P) (hB : WB P β) (hf : f < 6) : ∀ b, (decide (f ≤ b) && (decide (b - f < 64) && sf P β c 1 (b - f))) = (decide (b < 64) && sf P β c (f + 1) b) := by
  intro b
  rw [Bool.eq_iff_iff]
  unfold sf
  simp only [Bool.and_eq_true, decide_eq_true_eq]
  constructor
  · rintro ⟨h1, h2, h3, h4, k1, i1, i2⟩
    have bb := WBc hW hB k1
    have e : b % 16 + 1 - (f + 1) = (b - f) % 16 + 1 - 1 := by omega
    rw [e]
    exact ⟨by omega, by omega, by omega, k1, i1, by rw [i2]; omega⟩
  · rintro ⟨h1, h2, h3, k1, i1, i2⟩
    have bb := WBc hW hB k1
    have e : (b - f) % 16 + 1 - 1 = b % 16 + 1 - (f + 1) := by omega
    rw [e]
    exact ⟨by omega, by omega, by omega, by omega, k1, i1, by rw [i2]; omega⟩
theorem xcandle {s : ES} {P : Nat → Nat → Nat} {β : Nat → Nat} {c : Nat} (hW : WP P) (hB : WB P β) (hXP : XPt s 30 P) (hX : XB s 3 P β) (hc : c < 4) : ∃ s', e_X4_layCandle_15_30_3 (nI c) s = some (JL (fun b => decide (c < P 0 1 ∧ β (8 + c) = 1) && sf P β c 1 b), s') ∧ (∀ k, k ≠ 17 → k ≠ 18 → s'.1 k = s.1 k) ∧ (∀ k, k ≠ 16 → s'.2 k = s.2 k) ∧ (∀ j, j ≠ c → s'.1 17 j = s.1 17 j ∧ s'.1 18 j = s.1 18 j) ∧ (∀ q, (q < 7 * c ∨ 7 * c + 7 ≤ q) → s'.2 16 q = s.2 16 q) ∧ s'.1 18 c = nI (if c < P 0 1 ∧ β (8 + c) = 0 then 6 else 0) ∧ s'.1 17 c = nI (if c < P 0 1 ∧ β (8 + c) = 0 then P 4 c * β (4 + c) else 0) ∧ ∀ f, f < 7 → s'.2 16 (7 * c + f) = JL (sf P β c f) := by
  have w2 := hW.2.1
  have lay : ∀ (v4 v5 : Bool), (v4 = decide (c < P 0 1 ∧ β (8 + c) = 0)) → (v5 = decide (c < P 0 1 ∧ β (8 + c) = 1)) → ∃ s', b_X4_layCandle_15_30_3_55 FU (nI c) (fI v4) (fI v5) 0 0 s = some (JL (fun b => decide (c < P 0 1 ∧ β (8 + c) = 1) && sf P β c 1 b), s') ∧ (∀ k, k ≠ 17 → k ≠ 18 → s'.1 k = s.1 k) ∧ (∀ k, k ≠ 16 → s'.2 k = s.2 k) ∧ (∀ j, j ≠ c → s'.1 17 j = s.1 17 j ∧ s'.1 18 j = s.1 18 j) ∧ (∀ q, (q < 7 * c ∨ 7 * c + 7 ≤ q) → s'.2 16 q = s.2 16 q) ∧ s'.1 18 c = nI (if c < P 0 1 ∧ β (8 + c) = 0 then 6 else 0) ∧ s'.1 17 c = nI (if c < P 0 1 ∧ β (8 + c) = 0 then P 4 c * β (4 + c) else 0) ∧ ∀ f, f < 7 → s'.2 16 (7 * c + f) = JL (sf P β c f) := by
    intro v4 v5 h4 h5
    have hgb : ∀ i, i < 6 → e_X2_giftBit_3_30 (nI c) (nI i) s = some (nI (if c < P 0 1 then gb P β c i else 0)) := fun i hi => by
      by_cases h : c < P 0 1
      · rw [if_pos h]; exact xgb3 hW hXP (fun c hc => (WBc hW hB hc).2.2.2.1) hX h (by omega)
      · rw [if_neg h]
        unfold e_X2_giftBit_3_30 b_X2_giftBit_3_30_0
        rw [xhasC_out hXP.1.2.1 (Or.inr ⟨nI_pos (by omega), nI_le (by omega) (by omega)⟩), cl_so, if_pos rfl]; rfl
    obtain ⟨u, j, e1, e2⟩ := loop_FU (fun n i (_ : Unit) => b_X4_layCandle_15_30_3_55 n (nI c) (fI v4) (fI v5) (JL (fun b => decide (b % 16 < i) && sf P β c 1 b)) (nI i) s) (fun _ _ => True) 6 (by omega) (fun n i _ hi _ => ⟨(), trivial, by
      show b_X4_layCandle_15_30_3_55 (n + 1) _ _ _ _ _ _ = b_X4_layCandle_15_30_3_55 n _ _ _ _ _ _
      rw [b_X4_layCandle_15_30_3_55, if_neg (show ¬ (6 : Int32) ≤ nI i from nI_ge (b := 6) hi (by omega)), hgb i hi, cl_so]
      simp only [lt_e, nI_1]
      have skip : ¬ (c < P 0 1 ∧ i < β (4 + c) ∧ P 1 (β c + i) ≤ 3) → JL (fun b => decide (b % 16 < i) && sf P β c 1 b) = JL (fun b => decide (b % 16 < i + 1) && sf P β c 1 b) := fun hn => JL_c (fun b hb => by
        by_cases e : b % 16 = i
        · unfold sf
          rw [e]
          have : ¬ (1 ≤ 1 ∧ 1 ≤ i + 1 ∧ c < P 0 1 ∧ i + 1 - 1 < β (4 + c) ∧ P 1 (β c + (i + 1 - 1)) = b / 16) := fun z => hn ⟨z.2.2.1, z.2.2.2.1, by have := z.2.2.2.2; rw [show i + 1 - 1 = i by omega] at this; omega⟩
          rw [decide_eq_false this, Bool.and_false, Bool.and_false]
        · have : decide (b % 16 < i) = decide (b % 16 < i + 1) := by simp; omega
          rw [this])
      by_cases k1 : c < P 0 1
      · rw [if_pos k1]
        have bb := WBc hW hB k1
        unfold gb
        by_cases k2 : i < β (4 + c)
        · rw [if_pos k2]
          have p4 := hW.2.2.2.1 (β c + i) (by omega)
          by_cases k3 : P 1 (β c + i) = 4
          · rw [if_pos k3, if_pos (show nI 0 = 0 from rfl), skip (fun z => by omega)]
          · obtain ⟨l1, l2⟩ := lo_2 (P 1 (β c + i)) (by omega)
            have hpos := Nat.two_pow_pos (P 1 (β c + i))
            rw [if_neg k3, if_neg (nI_ne0 hpos (by omega)), ntz_e _ l2 hpos, cl_so, l1, il16, pk_mul, nI_add, JL_bit (by omega), JL_or]
            rw [JL_c (G := fun b => decide (b % 16 < i + 1) && sf P β c 1 b) (fun b hb => by
              by_cases e : b % 16 = i
              · unfold sf
                rw [e, show i + 1 - 1 = i by omega]
                by_cases e2 : b / 16 = P 1 (β c + i)
                · have : b = 16 * P 1 (β c + i) + i := by omega
                  rw [decide_eq_true this, Bool.or_true]
                  have e3 : (1 ≤ 1 ∧ 1 ≤ i + 1 ∧ c < P 0 1 ∧ i < β (4 + c) ∧ P 1 (β c + i) = b / 16) := ⟨by omega, by omega, k1, k2, e2.symm⟩
                  rw [decide_eq_true e3]; simp
                · have : ¬ b = 16 * P 1 (β c + i) + i := by omega
                  rw [decide_eq_false this, Bool.or_false]
                  have e3 : ¬ (1 ≤ 1 ∧ 1 ≤ i + 1 ∧ c < P 0 1 ∧ i < β (4 + c) ∧ P 1 (β c + i) = b / 16) := fun z => e2 z.2.2.2.2.symm
                  rw [decide_eq_false e3, Bool.and_false, Bool.and_false]
              · have h1 : decide (b % 16 < i) = decide (b % 16 < i + 1) := by simp; omega
                have h2 : ¬ b = 16 * P 1 (β c + i) + i := by omega
                rw [h1, decide_eq_false h2, Bool.or_false])]
        · rw [if_neg k2, if_pos (show nI 0 = 0 from rfl), skip (fun z => k2 z.2.1)]
      · rw [if_neg k1, if_pos (show nI 0 = 0 from rfl), skip (fun z => k1 z.1)]⟩) () trivial
    have e0 : (0 : Int64) = JL (fun b => decide (b % 16 < 0) && sf P β c 1 b) := by rw [JL_0]; exact JL_c (fun b _ => by simp)
    have e6 : JL (fun b => decide (b % 16 < 6) && sf P β c 1 b) = JL (sf P β c 1) := JL_c (fun b hb => by
      by_cases h : b % 16 < 6
      · simp [h]
      · unfold sf
        have : ¬ (1 ≤ 1 ∧ 1 ≤ b % 16 + 1 ∧ c < P 0 1 ∧ b % 16 + 1 - 1 < β (4 + c) ∧ P 1 (β c + (b % 16 + 1 - 1)) = b / 16) := fun z => by
          have := (WBc hW hB z.2.2.1).2.1
          omega
        rw [decide_eq_false this, Bool.and_false])
    have e3 : b_X4_layCandle_15_30_3_55 FU (nI c) (fI v4) (fI v5) 0 0 s = b_X4_layCandle_15_30_3_55 (j + 1) (nI c) (fI v4) (fI v5) (JL (sf P β c 1)) (nI 6) s := by rw [← e6, e0]; exact e2
    rw [e3, b_X4_layCandle_15_30_3_55, if_pos (show (6 : Int32) ≤ nI 6 by decide)]
    have fin : ∀ t : ES, ∃ s', b_X4_layCandle_15_30_3_159 FU (nI c) (fI v5) (JL (sf P β c 1)) 1 t = some (JL (fun b => decide (c < P 0 1 ∧ β (8 + c) = 1) && sf P β c 1 b), s') ∧ s'.1 = t.1 ∧ (∀ k, k ≠ 16 → s'.2 k = t.2 k) ∧ (∀ q, (q < 7 * c + 1 ∨ 7 * c + 7 ≤ q) → s'.2 16 q = t.2 16 q) ∧ ∀ f, f < 6 → s'.2 16 (7 * c + (f + 1)) = JL (sf P β c (f + 1)) := by
      intro t
      obtain ⟨s', j, ⟨a1, a2, a3, a4⟩, e4⟩ := loop_FU (fun n f (s : ES) => b_X4_layCandle_15_30_3_159 n (nI c) (fI v5) (JL (sf P β c 1)) (nI (f + 1)) s) (fun f s => s.1 = t.1 ∧ (∀ k, k ≠ 16 → s.2 k = t.2 k) ∧ (∀ q, (q < 7 * c + 1 ∨ 7 * c + 7 ≤ q) → s.2 16 q = t.2 16 q) ∧ ∀ i, i < f → s.2 16 (7 * c + (i + 1)) = JL (sf P β c (i + 1))) 6 (by omega) (fun n f s hf hs => ⟨wL s 16 (7 * c + (f + 1)) (JL (sf P β c (f + 1))), by
        obtain ⟨h1, h2, h3, h4⟩ := hs
        refine ⟨⟨h1, fun k hk => by rw [wL_nk hk]; exact h2 k hk, fun q hq => by rw [wL_nj (by omega)]; exact h3 q hq, fun i hi => ?_⟩, ?_⟩
        · by_cases e : i = f
          · subst e; rw [wL_eq]
          · rw [wL_nj (by omega)]; exact h4 i (by omega)
        · show b_X4_layCandle_15_30_3_159 (n + 1) _ _ _ _ _ = b_X4_layCandle_15_30_3_159 n _ _ _ _ _
          have x1 : nI c * (7 : Int32) + nI (f + 1) = nI (7 * c + (f + 1)) := by rw [il7, pk_mul, nI_add, Nat.mul_comm]
          have x2 : nI (f + 1) - 1 = nI f := nI_pred f
          rw [b_X4_layCandle_15_30_3_159, if_neg (show ¬ (6 : Int32) < nI (f + 1) from nI_nlt (b := f + 1) (a := 6) (by omega) (by omega)), x1, x2, wrL_nI (by omega) (by omega), lt_e, nI_1, JL_sh (G := sf P β c (f + 1)) (by omega) (sf_sh hW hB hf)]⟩) t ⟨rfl, fun _ _ => rfl, fun _ _ => rfl, fun i hi => by omega⟩
      have e5 : b_X4_layCandle_15_30_3_159 FU (nI c) (fI v5) (JL (sf P β c 1)) 1 t = _ := e4
      refine ⟨s', ?_, a1, a2, a3, a4⟩
      rw [e5, b_X4_layCandle_15_30_3_159, if_pos (show (6 : Int32) < nI (6 + 1) by decide)]
      cases v5 with
      | true =>
        rw [show fI true = 1 from rfl, if_neg one_ne]
        rw [JL_c (F := sf P β c 1) (G := fun b => decide (c < P 0 1 ∧ β (8 + c) = 1) && sf P β c 1 b) (fun b _ => by rw [← h5, Bool.true_and])]
      | false =>
        rw [show fI false = 0 from rfl, if_pos rfl, JL_0]
        rw [JL_c (F := fun _ => false) (G := fun b => decide (c < P 0 1 ∧ β (8 + c) = 1) && sf P β c 1 b) (fun b _ => by rw [← h5, Bool.false_and])]
    have go : ∀ (x y : Nat), x = (if c < P 0 1 ∧ β (8 + c) = 0 then 6 else 0) → y = (if c < P 0 1 ∧ β (8 + c) = 0 then P 4 c * β (4 + c) else 0) → ∃ s', b_X4_layCandle_15_30_3_145 (nI c) (fI v5) (JL (sf P β c 1)) (nI c) (nI y) (wI s 18 c (nI x)) = some (JL (fun b => decide (c < P 0 1 ∧ β (8 + c) = 1) && sf P β c 1 b), s') ∧ (∀ k, k ≠ 17 → k ≠ 18 → s'.1 k = s.1 k) ∧ (∀ k, k ≠ 16 → s'.2 k = s.2 k) ∧ (∀ j, j ≠ c → s'.1 17 j = s.1 17 j ∧ s'.1 18 j = s.1 18 j) ∧ (∀ q, (q < 7 * c ∨ 7 * c + 7 ≤ q) → s'.2 16 q = s.2 16 q) ∧ s'.1 18 c = nI (if c < P 0 1 ∧ β (8 + c) = 0 then 6 else 0) ∧ s'.1 17 c = nI (if c < P 0 1 ∧ β (8 + c) = 0 then P 4 c * β (4 + c) else 0) ∧ ∀ f, f < 7 → s'.2 16 (7 * c + f) = JL (sf P β c f) := by
      intro x y hx hy
      unfold b_X4_layCandle_15_30_3_145
      have x7 : nI c * (7 : Int32) = nI (7 * c) := by rw [il7, pk_mul, Nat.mul_comm]
      rw [wr_nI (by omega) (by omega), x7, wrL_nI (by omega) (by omega)]
      obtain ⟨s', a1, a2, a3, a4, a5⟩ := fin (wL (wI (wI s 18 c (nI x)) 17 c (nI y)) 16 (7 * c) 0)
      refine ⟨s', a1, fun k k1 k2 => by rw [a2, wL_1, wI_nk k1, wI_nk k2], fun k hk => by rw [a3 k hk, wL_nk hk]; rfl, fun j hj => by rw [a2, wL_1, wI_nj hj, wI_nk (by decide), wI_nk (by decide), wI_nj hj]; exact ⟨rfl, rfl⟩, fun q hq => by rw [a4 q (by omega), wL_nj (by omega)]; rfl, by rw [a2, wL_1, wI_nk (by decide), wI_eq, hx], by rw [a2, wL_1, wI_eq, hy], fun f hf => ?_⟩
      by_cases e : f = 0
      · subst e
        rw [Nat.add_zero, a4 (7 * c) (by omega), wL_eq, JL_0]
        exact JL_c (fun b _ => by unfold sf; simp)
      · obtain ⟨f, rfl⟩ : ∃ k, f = k + 1 := ⟨f - 1, by omega⟩
        exact a5 f (by omega)
    unfold b_X4_layCandle_15_30_3_117
    by_cases hz : c < P 0 1 ∧ β (8 + c) = 0
    · have e4 : v4 = true := by rw [h4]; exact decide_eq_true hz
      obtain ⟨-, y2, y3⟩ := (XP30 hXP).2.2.1 c hz.1
      have x2 := ((XB3 hX).1 c hz.1).2.1
      rw [e4, show fI true = 1 from rfl, if_neg one_ne, show (6 : Int32) = nI 6 from il6, wr_nI (by omega) (by omega), if_neg one_ne, rd_nI (by omega) (by omega), rd_nI (by omega) (by omega), wI_nk (by decide), wI_nk (by decide), y3, x2, pk_mul]
      exact go 6 (P 4 c * β (4 + c)) (by rw [if_pos hz]) (by rw [if_pos hz])
    · have e4 : v4 = false := by rw [h4]; exact decide_eq_false hz
      rw [e4, show fI false = 0 from rfl, if_pos rfl, wr_nI (by omega) (by omega), if_pos rfl]
      exact go 0 0 (by rw [if_neg hz]) (by rw [if_neg hz])
  unfold e_X4_layCandle_15_30_3 b_X4_layCandle_15_30_3_0 b_X4_layCandle_15_30_3_22
  by_cases k1 : c < P 0 1
  · have x3 := ((XB3 hX).1 c k1).2.2
    have b := WBc hW hB k1
    rw [xhasC_in hXP.1.2.1 k1 w2, cl_so, if_neg one_ne, rd_nI (by omega) (by omega), x3, cl_so, if_neg one_ne, rd_nI (by omega) (by omega), x3, cl_so, if_neg one_ne]
    by_cases z0 : β (8 + c) = 0
    · rw [z0, if_pos (show nI 0 = 0 from rfl), if_neg (show ¬ nI 0 = 1 by decide)]
      exact z0 ▸ lay true false (decide_eq_true ⟨k1, z0⟩).symm (decide_eq_false (fun z => by omega)).symm
    · rw [if_neg (nI_ne0 (by omega) (by omega)), rd_nI (by omega) (by omega), x3]
      by_cases z1 : β (8 + c) = 1
      · rw [if_pos (show nI (β (8 + c)) = 1 by rw [z1]; rfl)]
        exact lay false true (decide_eq_false (fun z => z0 z.2)).symm (decide_eq_true ⟨k1, z1⟩).symm
      · rw [if_neg (show ¬ nI (β (8 + c)) = 1 from fun x => z1 ((nI_eq (b := 1) (by omega) (by omega)).mp x))]
        exact lay false false (decide_eq_false (fun z => z0 z.2)).symm (decide_eq_false (fun z => z1 z.2)).symm
  · rw [xhasC_out hXP.1.2.1 (Or.inr ⟨nI_pos (by omega), nI_le (by omega) (by omega)⟩), cl_so, if_pos rfl, cl_so, if_pos rfl]
    exact lay false false (decide_eq_false (fun z => k1 z.1)).symm (decide_eq_false (fun z => k1 z.1)).symm

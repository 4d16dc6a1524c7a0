-- ===== reading: a candle, a guest =====
theorem XP39 {σ : ES} {P : Nat → Nat → Nat} (h : XPt σ 39 P) : (σ.1 39 8 = nI (P 0 0) ∧ σ.1 39 9 = nI (P 0 1) ∧ σ.1 39 10 = nI (P 0 2)) ∧ (∀ j, j < P 0 0 → σ.1 40 j = nI (P 1 j)) ∧ (∀ c, c < P 0 1 → σ.1 41 c = nI (P 2 c) ∧ σ.1 42 c = nI (P 3 c) ∧ σ.1 43 c = nI (P 4 c)) ∧ ∀ g, g < P 0 2 → σ.1 44 g = nI (P 5 g) ∧ σ.1 45 g = nI (P 6 g) ∧ σ.1 46 g = nI (P 7 g) ∧ σ.1 47 g = nI (P 8 g) := h
def RP (τ : ES) (P : Nat → Nat → Nat) : Prop := (τ.1 0 16 = nI (P 0 0) ∧ τ.1 0 17 = nI (P 0 1) ∧ τ.1 0 18 = nI (P 0 2)) ∧ (∀ j, j < P 0 0 → τ.1 11 j = nI (P 1 j)) ∧ (∀ c, c < P 0 1 → τ.1 12 (3 * c) = nI (P 2 c) ∧ τ.1 12 (3 * c + 1) = nI (P 3 c) ∧ τ.1 12 (3 * c + 2) = nI (P 4 c)) ∧ ∀ g, g < P 0 2 → τ.1 13 (4 * g) = nI (P 5 g) ∧ τ.1 13 (4 * g + 1) = nI (P 6 g) ∧ τ.1 13 (4 * g + 2) = nI (P 7 g) ∧ τ.1 13 (4 * g + 3) = nI (P 8 g)
def Fx (σ s : ES) : Prop := (∀ k, k < 39 → s.1 k = σ.1 k) ∧ s.2 = σ.2
def Fm (τ t : ES) : Prop := (∀ k, k ≠ 0 → k ≠ 11 → k ≠ 12 → k ≠ 13 → t.1 k = τ.1 k) ∧ t.2 = τ.2 ∧ ∀ j, (j < 14 ∨ 18 < j) → t.1 0 j = τ.1 0 j
theorem Fx.w {σ s : ES} (h : Fx σ s) {k j : Nat} {v : Int32} (hk : 39 ≤ k) : Fx σ (wI s k j v) := ⟨fun q hq => by rw [wI_nk (by omega)]; exact h.1 q hq, h.2⟩
theorem Fm.w {τ t : ES} (h : Fm τ t) {k j : Nat} {v : Int32} (hk : k = 11 ∨ k = 12 ∨ k = 13) : Fm τ (wI t k j v) := ⟨fun q h1 h2 h3 h4 => by rw [wI_nk (by omega)]; exact h.1 q h1 h2 h3 h4, h.2.1, fun q hq => by rw [wI_nk (by omega)]; exact h.2.2 q hq⟩
theorem Fm.o {τ t : ES} (h : Fm τ t) {j : Nat} {v : Int32} (hj : 14 ≤ j ∧ j ≤ 18) : Fm τ (wI t 0 j v) := ⟨fun q h1 h2 h3 h4 => by rw [wI_nk h1]; exact h.1 q h1 h2 h3 h4, h.2.1, fun q hq => by rw [wI_nj (by omega)]; exact h.2.2 q hq⟩
theorem Fm.z {τ t t' : ES} (h : Fm τ t) (z : Fz t t') : Fm τ t' := ⟨fun q h1 h2 h3 h4 => by rw [z.1 q h1]; exact h.1 q h1 h2 h3 h4, by rw [z.2.1]; exact h.2.1, fun q hq => by rw [z.2.2 q (by omega) (by omega)]; exact h.2.2 q hq⟩
def p2 (P : Nat → Nat → Nat) (r j v : Nat) : Nat → Nat → Nat := fun a b => if a = r ∧ b = j then v else P a b
theorem p2_eq {P : Nat → Nat → Nat} {r j v : Nat} : p2 P r j v r j = v := by simp [p2]
theorem p2_nr {P : Nat → Nat → Nat} {r j v a b : Nat} (h : a ≠ r) : p2 P r j v a b = P a b := by simp [p2, h]
theorem p2_nj {P : Nat → Nat → Nat} {r j v a b : Nat} (h : b ≠ j) : p2 P r j v a b = P a b := by simp [p2, h]
def TX (n : Nat) (T : Nat → Nat) (σ τ : ES) : Prop := n ≤ 64 ∧ σ.1 1 1 = nI n ∧ τ.1 0 13 = nI n ∧ ∀ j, j < n → σ.1 2 j = nI (T j) ∧ τ.1 10 j = nI (T j) ∧ T j < 256
theorem TX.m {n : Nat} {T : Nat → Nat} {σ τ t : ES} (h : TX n T σ τ) (f : Fm τ t) : t.1 0 13 = nI n ∧ ∀ j, j < n → t.1 10 j = nI (T j) ∧ T j < 256 := by
  refine ⟨by rw [f.2.2 13 (by omega)]; exact h.2.2.1, fun j hj => ?_⟩
  rw [f.1 10 (by decide) (by decide) (by decide) (by decide)]
  exact (h.2.2.2 j hj).2
theorem TX.x {n : Nat} {T : Nat → Nat} {σ τ s : ES} (h : TX n T σ τ) (f : Fx σ s) : s.1 1 1 = nI n ∧ (∀ j, j < n → s.1 2 j = nI (T j)) ∧ ∀ j, j < n → T j < 256 := by
  refine ⟨by rw [f.1 1 (by omega)]; exact h.2.1, fun j hj => ?_, fun j hj => (h.2.2.2 j hj).2.2⟩
  rw [f.1 2 (by omega)]
  exact (h.2.2.2 j hj).1
/-- both have come to i, without fault -/
def DR (σ0 τ0 σ τ : ES) (P : Nat → Nat → Nat) (i : Nat) : Prop := Fx σ0 σ ∧ Fm τ0 τ ∧ WP P ∧ XPt σ 39 P ∧ RP τ P ∧ τ.1 0 14 = nI i ∧ τ.1 0 15 = -9
def addC (P : Nat → Nat → Nat) (a b c : Nat) : Nat → Nat → Nat := p2 (p2 (p2 (p2 P 0 1 (P 0 1 + 1)) 2 (P 0 1) a) 3 (P 0 1) b) 4 (P 0 1) c
def addG (P : Nat → Nat → Nat) (a b c d : Nat) : Nat → Nat → Nat := p2 (p2 (p2 (p2 (p2 P 0 2 (P 0 2 + 1)) 5 (P 0 2) a) 6 (P 0 2) b) 7 (P 0 2) c) 8 (P 0 2) d
theorem addC_0 {P : Nat → Nat → Nat} {a b c : Nat} : addC P a b c 0 1 = P 0 1 + 1 ∧ (∀ j, j ≠ 1 → addC P a b c 0 j = P 0 j) ∧ (∀ r j, r ≠ 0 → j ≠ P 0 1 → addC P a b c r j = P r j) ∧ (∀ r j, r ≠ 0 → r ≠ 2 → r ≠ 3 → r ≠ 4 → addC P a b c r j = P r j) ∧ addC P a b c 2 (P 0 1) = a ∧ addC P a b c 3 (P 0 1) = b ∧ addC P a b c 4 (P 0 1) = c := by
  unfold addC p2
  refine ⟨by simp, fun j h => by simp [h], fun r j h1 h2 => by simp [h1, h2], fun r j h0 h1 h2 h3 => by simp [h0, h1, h2, h3], by simp, by simp, by simp⟩
theorem addG_0 {P : Nat → Nat → Nat} {a b c d : Nat} : addG P a b c d 0 2 = P 0 2 + 1 ∧ (∀ j, j ≠ 2 → addG P a b c d 0 j = P 0 j) ∧ (∀ r j, r ≠ 0 → j ≠ P 0 2 → addG P a b c d r j = P r j) ∧ (∀ r j, r ≠ 0 → r ≤ 4 → addG P a b c d r j = P r j) ∧ addG P a b c d 5 (P 0 2) = a ∧ addG P a b c d 6 (P 0 2) = b ∧ addG P a b c d 7 (P 0 2) = c ∧ addG P a b c d 8 (P 0 2) = d := by
  unfold addG p2
  refine ⟨by simp, fun j h => by simp [h], fun r j h1 h2 => by simp [h1, h2], fun r j h0 h1 => ?_, by simp, by simp, by simp, by simp⟩
  simp [h0, show r ≠ 5 by omega, show r ≠ 6 by omega, show r ≠ 7 by omega, show r ≠ 8 by omega]
theorem addC_W {P : Nat → Nat → Nat} (hW : WP P) {a b c : Nat} (h1 : P 0 1 < 4) (h2 : a + b ≤ P 0 0) (h3 : 1 ≤ b) (h4 : b ≤ 6) (h5 : 1 ≤ c) (h6 : c ≤ 9) : WP (addC P a b c) := by
  obtain ⟨w1, w2, w3, w4, w5, w6⟩ := hW
  obtain ⟨a1, a2, a3, a4, a5, a6, a7⟩ := addC_0 (P := P) (a := a) (b := b) (c := c)
  unfold WP
  rw [a1, a2 0 (by decide), a2 2 (by decide)]
  refine ⟨w1, by omega, w3, fun j hj => ?_, fun q hq => ?_, fun g hg => ?_⟩
  · rw [a4 1 j (by decide) (by decide) (by decide) (by decide)]; exact w4 j hj
  · by_cases e : q = P 0 1
    · subst e; rw [a5, a6, a7]; exact ⟨h2, h3, h4, h5, h6⟩
    · rw [a3 2 q (by decide) e, a3 3 q (by decide) e, a3 4 q (by decide) e]; exact w5 q (by omega)
  · rw [a4 5 g (by decide) (by decide) (by decide) (by decide), a4 6 g (by decide) (by decide) (by decide) (by decide), a4 7 g (by decide) (by decide) (by decide) (by decide), a4 8 g (by decide) (by decide) (by decide) (by decide)]; exact w6 g hg
theorem addG_W {P : Nat → Nat → Nat} (hW : WP P) {a b c d : Nat} (h1 : P 0 2 < 4) (h2 : a ≤ 3) (h3 : 1 ≤ b) (h4 : b ≤ 6) (h5 : c ≤ d) (h6 : d ≤ 9) : WP (addG P a b c d) := by
  obtain ⟨w1, w2, w3, w4, w5, w6⟩ := hW
  obtain ⟨a1, a2, a3, a4, a5, a6, a7, a8⟩ := addG_0 (P := P) (a := a) (b := b) (c := c) (d := d)
  unfold WP
  rw [a1, a2 0 (by decide), a2 1 (by decide)]
  refine ⟨w1, w2, by omega, fun j hj => ?_, fun q hq => ?_, fun g hg => ?_⟩
  · rw [a4 1 j (by decide) (by decide)]; exact w4 j hj
  · rw [a4 2 q (by decide) (by decide), a4 3 q (by decide) (by decide), a4 4 q (by decide) (by decide)]; exact w5 q hq
  · by_cases e : g = P 0 2
    · subst e; rw [a5, a6, a7, a8]; exact ⟨h2, h3, h4, h5, h6⟩
    · rw [a3 5 g (by decide) e, a3 6 g (by decide) e, a3 7 g (by decide) e, a3 8 g (by decide) e]; exact w6 g (by omega)
theorem mfig2 {τ : ES} {n : Nat} {T : Nat → Nat} {fs : Option Nat} {p lo hi b : Nat} (hn : n ≤ 64) (h13 : τ.1 0 13 = nI n) (hl : ∀ j, j < n → τ.1 10 j = nI (T j) ∧ T j < 256) (h14 : τ.1 0 14 = nI p) (hp : p < 90) (h15 : τ.1 0 15 = oI fs) (hf : ∀ f, fs = some f → f < 100) (hlo : lo ≤ 9) (hhi : hi ≤ 9) (hb : b ≤ 97) : ∃ v fs' p' τ', fgr n T fs p lo hi b = (v, fs', p') ∧ e_X8_figure (nI lo) (nI hi) (nI b) τ = some (nI v, τ') ∧ Fz τ τ' ∧ τ'.1 0 14 = nI p' ∧ τ'.1 0 15 = oI fs' ∧ (lo ≤ v ∧ (v ≤ hi ∨ v = lo)) ∧ p' ≤ p + 1 ∧ ∀ f, fs' = some f → f < 100 := by
  obtain ⟨t1, a1, a2, a3, a4⟩ := mfig hn h13 hl h14 (by omega) h15 hf hlo hhi hb
  refine ⟨(fgr n T fs p lo hi b).1, (fgr n T fs p lo hi b).2.1, (fgr n T fs p lo hi b).2.2, t1, rfl, a1, a2, a3, a4, fgr_r n T fs p lo hi b, ?_⟩
  cases fs with
  | some f => exact ⟨by show p ≤ p + 1; omega, hf⟩
  | none =>
    unfold fgr
    by_cases q : okf n T p lo hi b = true
    · simp only [q, if_true]; exact ⟨Nat.le_refl _, fun f h => absurd h (by simp)⟩
    · simp only [q]; exact ⟨by show p ≤ p + 1; omega, fun f h => by
        have h' : some p = some f := h
        injection h'; omega⟩
/-- the reference reads a candle, with whatever figures -/
theorem mcand {n : Nat} {T : Nat → Nat} {σ0 τ0 σ τ : ES} {P : Nat → Nat → Nat} {i : Nat} (hX : TX n T σ0 τ0) (hD : DR σ0 τ0 σ τ P i) (hi : i < n) (hc : P 0 1 < 4) (hm : 0 < P 0 0) : ∃ v1 f1 p1 v2 f2 p2' v3 f3 p3 v4 f4 p4 τ', fgr n T none (i + 1) 0 ((P 0 0 - 1) / 10) 48 = (v1, f1, p1) ∧ fgr n T f1 p1 0 (min (P 0 0 - 1 - 10 * v1) 9) 48 = (v2, f2, p2') ∧ fgr n T f2 p2' 1 (min (P 0 0 - 10 * v1 - v2) 6) 48 = (v3, f3, p3) ∧ fgr n T f3 p3 1 9 48 = (v4, f4, p4) ∧ e_X8_readPart 67 τ = some τ' ∧ Fm τ0 τ' ∧ RP τ' (addC P (10 * v1 + v2) v3 v4) ∧ τ'.1 0 14 = nI p4 ∧ τ'.1 0 15 = oI f4 := by
  obtain ⟨d1, d2, hW, -, hP, d5, d6⟩ := hD
  obtain ⟨⟨r1, r2, r3⟩, r4, r5, r6⟩ := hP
  have w1 := hW.1
  have w3 := hW.2.2.1
  have hn := hX.1
  unfold e_X8_readPart b_X8_readPart_0
  rw [if_pos rfl, r2, if_neg (show ¬ (4 : Int32) ≤ nI (P 0 1) from nI_ge (b := 4) (by omega) (by omega)), r1, if_neg (nI_nle hm (by omega)), d5, lt_e, nI_1]
  have m1 : Fm τ0 (wI τ 0 14 (nI (i + 1))) := d2.o (by omega)
  obtain ⟨q1, q2⟩ := hX.m m1
  have k16 : (wI τ 0 14 (nI (i + 1))).1 0 16 = nI (P 0 0) := by rw [wI_nj (by decide)]; exact r1
  have x0 : nI (P 0 0) - 1 = nI (P 0 0 - 1) := by rw [il1, pk_sub (by omega)]
  have x1 : nI (P 0 0 - 1) / 10 = nI ((P 0 0 - 1) / 10) := by rw [il10, pk_div (by omega) (by omega) (by omega)]
  obtain ⟨v1, f1, p1, t1, h1, a1, a2, a3, a4, ⟨b1, b2⟩, y1, y2⟩ := mfig2 (lo := 0) (hi := (P 0 0 - 1) / 10) (b := 48) (fs := none) hn q1 q2 wI_eq (by omega) (by rw [wI_nj (by decide)]; exact d6) (fun f h => absurd h (by simp)) (by omega) (by omega) (by omega)
  rw [k16, x0, x1, show (0 : Int32) = nI 0 from il0, show (48 : Int32) = nI 48 from il48, a1, cs_so]
  have m2 : Fm τ0 t1 := m1.z a2
  obtain ⟨q1, q2⟩ := hX.m m2
  have k16 : t1.1 0 16 = nI (P 0 0) := by rw [a2.2.2 16 (by decide) (by decide)]; exact k16
  have k17 : t1.1 0 17 = nI (P 0 1) := by rw [a2.2.2 17 (by decide) (by decide), wI_nj (by decide)]; exact r2
  have x2 : nI (P 0 0 - 1) - 10 * nI v1 = nI (P 0 0 - 1 - 10 * v1) := by rw [il10, pk_mul, pk_sub (by omega)]
  have x3 : (if (9 : Int32) ≤ nI (P 0 0 - 1 - 10 * v1) then b_X8_readPart_82 (nI v1) (nI 0) 9 t1 else b_X8_readPart_82 (nI v1) (nI 0) (nI (P 0 0 - 1 - 10 * v1)) t1) = b_X8_readPart_82 (nI v1) (nI 0) (nI (min (P 0 0 - 1 - 10 * v1) 9)) t1 := by
    by_cases c : 9 ≤ P 0 0 - 1 - 10 * v1
    · rw [if_pos (show (9 : Int32) ≤ _ from nI_le (a := 9) c (by omega)), Nat.min_eq_right c, il9]
    · rw [if_neg (show ¬ (9 : Int32) ≤ _ from nI_ge (b := 9) (by omega) (by omega)), Nat.min_eq_left (by omega)]
  rw [k16, x0, x2, x3]
  unfold b_X8_readPart_82
  obtain ⟨v2, f2, p2', t2, h2, g1, g2, g3, g4, ⟨e1, e2⟩, z1, z2⟩ := mfig2 (lo := 0) (hi := min (P 0 0 - 1 - 10 * v1) 9) (b := 48) (fs := f1) hn q1 q2 a3 (by omega) a4 y2 (by omega) (by omega) (by omega)
  rw [show (48 : Int32) = nI 48 from il48, g1, cs_so, lt_e, lt_e]
  have m3 : Fm τ0 t2 := m2.z g2
  have k16 : t2.1 0 16 = nI (P 0 0) := by rw [g2.2.2 16 (by decide) (by decide)]; exact k16
  have k17 : t2.1 0 17 = nI (P 0 1) := by rw [g2.2.2 17 (by decide) (by decide)]; exact k17
  have x4 : nI (P 0 0) - 10 * nI v1 - nI v2 = nI (P 0 0 - 10 * v1 - v2) := by rw [il10, pk_mul, pk_sub (by omega), pk_sub (by omega)]
  have x5 : (3 : Int32) * nI (P 0 1) = nI (3 * P 0 1) := by rw [il3, pk_mul]
  have x6 : (10 : Int32) * nI v1 + nI v2 = nI (10 * v1 + v2) := by rw [il10, pk_mul, nI_add]
  rw [k16, k17, x4, x5, x6, wr_nI (by omega) (by omega), nI_1]
  have x7 : ∀ s, (if (6 : Int32) ≤ nI (P 0 0 - 10 * v1 - v2) then b_X8_readPart_146 (nI (3 * P 0 1)) (nI (3 * P 0 1 + 1)) 1 6 s else b_X8_readPart_146 (nI (3 * P 0 1)) (nI (3 * P 0 1 + 1)) 1 (nI (P 0 0 - 10 * v1 - v2)) s) = b_X8_readPart_146 (nI (3 * P 0 1)) (nI (3 * P 0 1 + 1)) (nI 1) (nI (min (P 0 0 - 10 * v1 - v2) 6)) s := by
    intro s
    by_cases c : 6 ≤ P 0 0 - 10 * v1 - v2
    · rw [if_pos (show (6 : Int32) ≤ _ from nI_le (a := 6) c (by omega)), Nat.min_eq_right c, il6, il1]
    · rw [if_neg (show ¬ (6 : Int32) ≤ _ from nI_ge (b := 6) (by omega) (by omega)), Nat.min_eq_left (by omega), il1]
  rw [x7]
  unfold b_X8_readPart_146
  have m4 : Fm τ0 (wI t2 12 (3 * P 0 1) (nI (10 * v1 + v2))) := m3.w (by omega)
  obtain ⟨q1, q2⟩ := hX.m m4
  obtain ⟨v3, f3, p3, t3, h3, u1, u2, u3, u4, -, s1, s2⟩ := mfig2 (lo := 1) (hi := min (P 0 0 - 10 * v1 - v2) 6) (b := 48) (fs := f2) hn q1 q2 (by rw [wI_nk (by decide)]; exact g3) (by omega) (by rw [wI_nk (by decide)]; exact g4) z2 (by omega) (by omega) (by omega)
  rw [show (48 : Int32) = nI 48 from il48, u1, cs_so, wr_nI (by omega) (by omega)]
  have m5 : Fm τ0 (wI t3 12 (3 * P 0 1 + 1) (nI v3)) := (m4.z u2).w (by omega)
  obtain ⟨q1, q2⟩ := hX.m m5
  obtain ⟨v4, f4, p4, t4, h4, o1, o2, o3, o4, -, -, -⟩ := mfig2 (lo := 1) (hi := 9) (b := 48) (fs := f3) hn q1 q2 (by rw [wI_nk (by decide)]; exact u3) (by omega) (by rw [wI_nk (by decide)]; exact u4) s2 (by omega) (by omega) (by omega)
  rw [show (1 : Int32) = nI 1 from il1, show (9 : Int32) = nI 9 from il9, o1, cs_so, show (2 : Int32) = nI 2 from il2, nI_add, wr_nI (by omega) (by omega)]
  have k : ∀ j, j ≠ 14 → j ≠ 15 → (wI t4 12 (3 * P 0 1 + 2) (nI v4)).1 0 j = τ.1 0 j := fun j h1 h2 => by
    rw [wI_nk (by decide), o2.2.2 j h1 h2, wI_nk (by decide), u2.2.2 j h1 h2, wI_nk (by decide), g2.2.2 j h1 h2, a2.2.2 j h1 h2, wI_nj h1]
  have kk : ∀ q, q ≠ 0 → q ≠ 12 → (wI t4 12 (3 * P 0 1 + 2) (nI v4)).1 q = τ.1 q := fun q h1 h2 => by
    rw [wI_nk h2, o2.1 q h1, wI_nk h2, u2.1 q h1, wI_nk h2, g2.1 q h1, a2.1 q h1, wI_nk h1]
  rw [lt_e, k 17 (by decide) (by decide), r2, nI_add]
  obtain ⟨c1, c2, c3, c4, c5, c6, c7⟩ := addC_0 (P := P) (a := 10 * v1 + v2) (b := v3) (c := v4)
  refine ⟨v1, f1, p1, v2, f2, p2', v3, f3, p3, v4, f4, p4, _, h1, h2, h3, h4, rfl, ((m5.z o2).w (by omega)).o (by omega), ⟨⟨?_, ?_, ?_⟩, fun j hj => ?_, fun c hc => ?_, fun g hg => ?_⟩, ?_, ?_⟩
  · rw [wI_nj (by decide), k 16 (by decide) (by decide), c2 0 (by decide)]; exact r1
  · rw [wI_eq, c1]
  · rw [wI_nj (by decide), k 18 (by decide) (by decide), c2 2 (by decide)]; exact r3
  · rw [c2 0 (by decide)] at hj
    rw [wI_nk (by decide), kk 11 (by decide) (by decide), c4 1 j (by decide) (by decide) (by decide) (by decide)]; exact r4 j hj
  · rw [c1] at hc
    rw [wI_nk (by decide)]
    by_cases e : c = P 0 1
    · subst e
      rw [c5, c6, c7, wI_nj (by omega), wI_nj (by omega), wI_eq, o2.1 12 (by decide), wI_nj (by omega), wI_eq, u2.1 12 (by decide), wI_eq]
      exact ⟨rfl, rfl, rfl⟩
    · rw [c3 2 c (by decide) e, c3 3 c (by decide) e, c3 4 c (by decide) e, wI_nj (by omega), wI_nj (by omega), wI_nj (by omega), o2.1 12 (by decide), wI_nj (by omega), wI_nj (by omega), wI_nj (by omega), u2.1 12 (by decide), wI_nj (by omega), wI_nj (by omega), wI_nj (by omega), g2.1 12 (by decide), a2.1 12 (by decide), wI_nk (by decide)]
      exact r5 c (by omega)
  · rw [c2 2 (by decide)] at hg
    rw [wI_nk (by decide), kk 13 (by decide) (by decide), c4 5 g (by decide) (by decide) (by decide) (by decide), c4 6 g (by decide) (by decide) (by decide) (by decide), c4 7 g (by decide) (by decide) (by decide) (by decide), c4 8 g (by decide) (by decide) (by decide) (by decide)]; exact r6 g hg
  · rw [wI_nj (by decide), wI_nk (by decide)]; exact o3
  · rw [wI_nj (by decide), wI_nk (by decide)]; exact o4

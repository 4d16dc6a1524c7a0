-- ===== cut =====
theorem dif_e : ∀ S, S < 64 → ∀ Q, Q < 64 → (nI S &&& (nI Q ^^^ (-1 : Int32))) = nI (dif S Q) := by decide +kernel
theorem dif_i : ∀ S, S < 64 → ∀ i, i < 6 → (nI S &&& (((1 : Int32) <<< (nI i &&& 31)) ^^^ (-1 : Int32))) = nI (dif S (2 ^ i)) := by decide +kernel
theorem xwo {L v d : Nat} (hL : L < 1000) (hv : v < 100000) (hd : d < 1000) : e_X5_withOrder (nI v) (nI d) (nI L) = some (nI (wo L v d)) := by
  unfold e_X5_withOrder b_X5_withOrder_0 wo
  rw [il32, pk_rem (by omega) (by omega) (by omega), lt_e, pk_div (by omega) (by omega) (by omega), nI_1, pk_mul, nI_add, nI_add, nI_add]
  by_cases h : L < v % 32 + d
  · rw [if_pos (nI_lt h (by omega)), if_pos h]
  · rw [if_neg (nI_nlt (by omega) (by omega)), if_neg h]
theorem wo_le {L v d : Nat} (hd : d ≤ 9) : wo L v d ≤ v + 41 := by unfold wo; split <;> omega
def Lv (L : Nat) (e v : Nat → Nat) (M : Nat) : Prop := v 0 = L ∧ ∀ q, 0 < q → q < M → (∀ j, j < 6 → q.testBit j = true → v q ≤ wo L (v (dif q (2 ^ j))) (e j)) ∧ ∃ j, j < 6 ∧ q.testBit j = true ∧ v q = wo L (v (dif q (2 ^ j))) (e j)
theorem tb_lt {S k j : Nat} (hS : S < 2 ^ k) (h : S.testBit j = true) : j < k := by
  rcases Nat.lt_or_ge j k with q | q
  · exact q
  · rw [Nat.testBit_lt_two_pow (Nat.lt_of_lt_of_le hS (Nat.pow_le_pow_right (by decide) q))] at h
    exact absurd h (by simp)
theorem xc46 {σ s : ES} {L k x f S : Nat} {v : Nat → Nat} {K : Int32 → Int32 → Int32 → Int32 → Int32 → ES → Option (Int32 × ES)} (hL : L ≤ 30) (hk : k ≤ 6) (hx : x < 2 ^ 31) (hS0 : 0 < S) (hS : S < 2 ^ k) (k1 : Kp σ s 27) (k2 : ∀ q, q < S → s.1 27 q = nI (v q) ∧ v q ≤ 50 * q + 30) (k3 : s.1 27 S = nI 1000000) : ∃ s' a, b_X5_fewest_26_46 K FU (nI L) (nI k) (nI x) (nI f) (nI S) 0 s = K (nI L) (nI k) (nI x) (nI f) (nI (S + 1)) s' ∧ Kp σ s' 27 ∧ (∀ q, q < S → s'.1 27 q = nI (v q)) ∧ s'.1 27 S = nI a ∧ (∀ j, j < 6 → S.testBit j = true → a ≤ wo L (v (dif S (2 ^ j))) (dig x (k - 1 - j))) ∧ ∃ j, j < 6 ∧ S.testBit j = true ∧ a = wo L (v (dif S (2 ^ j))) (dig x (k - 1 - j)) := by
  have h64 : 2 ^ k ≤ 64 := Nat.pow_le_pow_right (n := 2) (by decide) (show k ≤ 6 from hk)
  obtain ⟨⟨s', a⟩, m, ⟨i1, i2, i3, i4, i5, i6⟩, e2⟩ := loop_FU (fun n i (q : ES × Nat) => b_X5_fewest_26_46 K n (nI L) (nI k) (nI x) (nI f) (nI S) (nI i) q.1) (fun i q => Kp σ q.1 27 ∧ (∀ r, r < S → q.1.1 27 r = nI (v r)) ∧ q.1.1 27 S = nI q.2 ∧ q.2 ≤ 1000000 ∧ (∀ j, j < i → S.testBit j = true → q.2 ≤ wo L (v (dif S (2 ^ j))) (dig x (k - 1 - j))) ∧ (q.2 = 1000000 ∨ ∃ j, j < i ∧ S.testBit j = true ∧ q.2 = wo L (v (dif S (2 ^ j))) (dig x (k - 1 - j)))) k (by omega) (fun n i q hi hq => by
    obtain ⟨t, a⟩ := q
    obtain ⟨g1, g2, g3, g4, g5, g6⟩ := hq
    dsimp only at g1 g2 g3 g4 g5 g6
    by_cases tb : S.testBit i = true
    · have c1 := (ct_i S (by omega) i (by omega) tb).1
      have hv := (k2 _ c1).2
      have hd := dig_le x (k - 1 - i)
      have hwo := wo_le (L := L) (v := v (dif S (2 ^ i))) hd
      refine ⟨(wI t 27 S (nI (min (wo L (v (dif S (2 ^ i))) (dig x (k - 1 - i))) a)), min (wo L (v (dif S (2 ^ i))) (dig x (k - 1 - i))) a), ⟨g1.w, fun r hr => by rw [wI_nj (by omega)]; exact g2 r hr, wI_eq, by dsimp only; omega, fun j hj ht => ?_, ?_⟩, ?_⟩
      · dsimp only
        by_cases e : j = i
        · subst e; omega
        · have := g5 j (by omega) ht; omega
      · dsimp only
        by_cases c : wo L (v (dif S (2 ^ i))) (dig x (k - 1 - i)) < a
        · exact Or.inr ⟨i, by omega, tb, by omega⟩
        · rcases g6 with z | ⟨j, j1, j2, j3⟩
          · exact Or.inl (by omega)
          · exact Or.inr ⟨j, by omega, j2, by omega⟩
      · show b_X5_fewest_26_46 K (n + 1) _ _ _ _ _ _ _ = b_X5_fewest_26_46 K n _ _ _ _ _ _ _
        rw [b_X5_fewest_26_46, if_neg (nI_ge hi (by omega)), if_pos ((bit_1 (by omega) (by omega)).mpr tb), dif_i S (by omega) i (by omega), rd_nI (by omega) (by omega), g2 _ c1, figure_e hx (by omega) hi, cl_so, xwo (by omega) (by omega) (by omega), cl_so, rd_nI (by omega) (by omega), g3, wr_nI (by omega) (by omega), lt_e, nI_1]
        have em : (if nI (wo L (v (dif S (2 ^ i))) (dig x (k - 1 - i))) < nI a then nI (wo L (v (dif S (2 ^ i))) (dig x (k - 1 - i))) else nI a) = nI (min (wo L (v (dif S (2 ^ i))) (dig x (k - 1 - i))) a) := by
          by_cases c : wo L (v (dif S (2 ^ i))) (dig x (k - 1 - i)) < a
          · rw [if_pos (nI_lt c (by omega)), Nat.min_eq_left (by omega)]
          · rw [if_neg (nI_nlt (by omega) (by omega)), Nat.min_eq_right (by omega)]
        rw [em]
    · refine ⟨(t, a), ⟨g1, g2, g3, g4, fun j hj ht => ?_, ?_⟩, ?_⟩
      · by_cases e : j = i
        · subst e; exact absurd ht tb
        · exact g5 j (by omega) ht
      · rcases g6 with z | ⟨j, j1, j2, j3⟩
        · exact Or.inl z
        · exact Or.inr ⟨j, by omega, j2, j3⟩
      · show b_X5_fewest_26_46 K (n + 1) _ _ _ _ _ _ _ = b_X5_fewest_26_46 K n _ _ _ _ _ _ _
        rw [b_X5_fewest_26_46, if_neg (nI_ge hi (by omega)), if_neg (fun z => tb ((bit_1 (by omega) (by omega)).mp z)), lt_e, nI_1]) (s, 1000000) ⟨k1, fun q hq => (k2 q hq).1, k3, Nat.le_refl _, fun j hj => by omega, Or.inl rfl⟩
  dsimp only at i1 i2 i3 i4 i5 i6
  have e3 : b_X5_fewest_26_46 K FU (nI L) (nI k) (nI x) (nI f) (nI S) 0 s = _ := e2
  obtain ⟨z, z1, z2⟩ := ct_any S (by omega) hS0
  have hz := i5 z (tb_lt hS z2) z2
  have hv := (k2 _ (ct_i S (by omega) z z1 z2).1).2
  have hwo := wo_le (L := L) (v := v (dif S (2 ^ z))) (dig_le x (k - 1 - z))
  have c1 := (ct_i S (by omega) z z1 z2).1
  refine ⟨s', a, ?_, i1, i2, i3, fun j _ ht => i5 j (tb_lt hS ht) ht, ?_⟩
  · rw [e3]
    dsimp only
    rw [b_X5_fewest_26_46, if_pos (nI_le (by omega) (by omega)), lt_e, nI_1]
  · rcases i6 with q | ⟨j, j1, j2, j3⟩
    · omega
    · exact ⟨j, by omega, j2, j3⟩
theorem Lv.next {L M a : Nat} {e v : Nat → Nat} (h : Lv L e v M) (hM0 : 0 < M) (hM : M < 64) (h1 : ∀ j, j < 6 → M.testBit j = true → a ≤ wo L (v (dif M (2 ^ j))) (e j)) (h2 : ∃ j, j < 6 ∧ M.testBit j = true ∧ a = wo L (v (dif M (2 ^ j))) (e j)) : Lv L e (un v M a) (M + 1) := by
  obtain ⟨p1, p2⟩ := h
  refine ⟨by rw [un_ne (by omega)]; exact p1, fun q q0 q1 => ?_⟩
  by_cases c : q = M
  · subst c
    rw [un_eq]
    refine ⟨fun j hj ht => ?_, ?_⟩
    · rw [un_ne (by have := (ct_i q hM j hj ht).1; omega)]; exact h1 j hj ht
    · obtain ⟨j, hj, ht, he⟩ := h2
      exact ⟨j, hj, ht, by rw [un_ne (by have := (ct_i q hM j hj ht).1; omega)]; exact he⟩
  · obtain ⟨a1, j, hj, ht, he⟩ := p2 q q0 (by omega)
    rw [un_ne c]
    refine ⟨fun j hj ht => ?_, j, hj, ht, ?_⟩
    · rw [un_ne (by have := (ct_i q (by omega) j hj ht).1; omega)]; exact a1 j hj ht
    · rw [un_ne (by have := (ct_i q (by omega) j hj ht).1; omega)]; exact he
theorem xfewest {σ : ES} {L k x : Nat} (hL : L ≤ 30) (hk : k ≤ 6) (hk1 : 1 ≤ k) (hx : x < 2 ^ 31) : ∃ s v, e_X5_fewest_26 (nI L) (nI k) (nI x) σ = some (nI (v (2 ^ k - 1) / 32), s) ∧ Kp σ s 27 ∧ Lv L (fun j => dig x (k - 1 - j)) v (2 ^ k) := by
  have h64 : 2 ^ k ≤ 64 := Nat.pow_le_pow_right (n := 2) (by decide) (show k ≤ 6 from hk)
  have h2 : 2 ^ 1 ≤ 2 ^ k := Nat.pow_le_pow_right (by decide) hk1
  unfold e_X5_fewest_26 b_X5_fewest_26_0
  rw [il1, nI_sh k (by omega), pk_sub (by omega), lt_e, il0, wr_nI (by omega) (by omega), ← il1]
  obtain ⟨s, m, ⟨v, g1, g2, g3⟩, e2⟩ := loop_FU (fun n c (s : ES) => b_X5_fewest_26_17 n (nI L) (nI k) (nI x) (nI (2 ^ k - 1)) (nI (c + 1)) s) (fun c s => ∃ v, Kp σ s 27 ∧ (∀ q, q < c + 1 → s.1 27 q = nI (v q) ∧ v q ≤ 50 * q + 30) ∧ Lv L (fun j => dig x (k - 1 - j)) v (c + 1)) (2 ^ k - 1) (by omega) (fun n c s hc hs => by
    obtain ⟨v, g1, g2, g3⟩ := hs
    obtain ⟨s', a, a1, a2, a3, a4, a5, a6⟩ := xc46 (σ := σ) (s := wI s 27 (c + 1) (nI 1000000)) (f := 2 ^ k - 1) (S := c + 1) (v := v) (K := fun z0 z1 z2 z3 z4 z5 => b_X5_fewest_26_17 n z0 z1 z2 z3 z4 z5) hL hk hx (by omega) (by omega) g1.w (fun q hq => by rw [wI_nj (by omega)]; exact g2 q hq) wI_eq
    refine ⟨s', ⟨un v (c + 1) a, a2, fun q hq => ?_, g3.next (by omega) (by omega) a5 a6⟩, ?_⟩
    · by_cases e : q = c + 1
      · subst e
        rw [un_eq]
        obtain ⟨j, hj, ht, he⟩ := a6
        have c1 := (ct_i (c + 1) (by omega) j hj ht).1
        have := (g2 _ c1).2
        have := wo_le (L := L) (v := v (dif (c + 1) (2 ^ j))) (dig_le x (k - 1 - j))
        exact ⟨a4, by omega⟩
      · rw [un_ne e]
        exact ⟨a3 q (by omega), (g2 q (by omega)).2⟩
    · show b_X5_fewest_26_17 (n + 1) _ _ _ _ _ _ = b_X5_fewest_26_17 n _ _ _ _ _ _
      rw [b_X5_fewest_26_17, if_neg (nI_nlt (by omega) (by omega)), if_neg (show ¬ (64 : Int32) ≤ nI (c + 1) from nI_ge (b := 64) (by omega) (by omega)), wr_nI (by omega) (by omega), il1000000]
      exact a1) (wI σ 27 0 (nI L)) ⟨fun q => if q = 0 then L else 0, Kp.rf.w, fun q hq => by
        have : q = 0 := by omega
        subst this
        exact ⟨by rw [wI_eq]; rfl, by simp; omega⟩, rfl, fun q h0 h1 => by omega⟩
  have e3 : b_X5_fewest_26_17 FU (nI L) (nI k) (nI x) (nI (2 ^ k - 1)) 1 (wI σ 27 0 (nI L)) = _ := e2
  have hb := (g2 (2 ^ k - 1) (by omega)).2
  refine ⟨s, v, ?_, g1, by rw [show 2 ^ k = 2 ^ k - 1 + 1 by omega]; exact g3⟩
  rw [e3, b_X5_fewest_26_17, if_pos (nI_lt (by omega) (by omega))]
  unfold b_X5_fewest_26_121
  rw [rd_nI (by omega) (by omega), (g2 (2 ^ k - 1) (by omega)).1, il32, pk_div (by omega) (by omega) (by omega)]
-- the reference
theorem csum {Q k x : Nat} (hk : k ≤ 6) (hQ : Q < 2 ^ k) (hx : x < 2 ^ 31) : e_X8_sum (nI Q) (nI k) (nI x) = some (nI (smd (fun i => dig x i) Q)) := by
  have h64 : 2 ^ k ≤ 64 := Nat.pow_le_pow_right (n := 2) (by decide) (show k ≤ 6 from hk)
  unfold e_X8_sum b_X8_sum_0
  obtain ⟨s, m, e1, e2⟩ := loop_FU (fun n i (s : Nat) => b_X8_sum_5 n (nI Q) (nI k) (nI x) (nI s) (nI i)) (fun i s => s = sumN (fun i => if Q.testBit i then dig x i else 0) i) k (by omega) (fun n i s hi hs => ⟨sumN (fun i => if Q.testBit i then dig x i else 0) (i + 1), rfl, by
    subst hs
    show b_X8_sum_5 (n + 1) _ _ _ _ _ = b_X8_sum_5 n _ _ _ _ _
    rw [b_X8_sum_5, if_neg (nI_ge hi (by omega)), has_n (by omega) (by omega), cl_so, il10, power_e _ _ (by omega), cl_so, dv_nI (p10_pos _) (p10_lt (by omega)), rem10 hx (by omega), sumN]
    simp only [lt_e, nI_1, nI_add]
    by_cases t : Q.testBit i = true
    · rw [if_pos t, if_neg one_ne, if_pos t]
    · rw [if_neg t, if_pos rfl, if_neg t, il0, nI_add]⟩) 0 rfl
  subst e1
  have e3 : b_X8_sum_5 FU (nI Q) (nI k) (nI x) 0 0 = _ := e2
  rw [e3, b_X8_sum_5, if_pos (nI_le (by omega) (by omega))]
  unfold smd
  rw [sumN_lim (N := k) (m := 6) hk (fun i h1 h2 => ?_)]
  rw [if_neg (fun t => by have := tb_lt hQ t; omega)]
def Gv (L : Nat) (d g : Nat → Nat) (M : Nat) : Prop := g 0 = 0 ∧ ∀ q, 0 < q → q < M → (∀ Q, Q < 64 → 0 < Q → sub Q q = true → smd d Q ≤ L → g q ≤ g (dif q Q) + 1) ∧ ∃ Q, Q < 64 ∧ 0 < Q ∧ sub Q q = true ∧ smd d Q ≤ L ∧ g q = g (dif q Q) + 1
theorem mc149 {τ s : ES} {L k x S : Nat} {g : Nat → Nat} {K : Int32 → Int32 → Int32 → Int32 → ES → Option (Int32 × ES)} (hL : L ≤ 30) (hk : k ≤ 6) (hx : x < 2 ^ 31) (hd : ∀ i, i < k → dig x i ≤ L) (hS0 : 0 < S) (hS : S < 2 ^ k) (k1 : Kp τ s 19) (k2 : ∀ q, q < S → s.1 19 q = nI (g q) ∧ g q ≤ q) (k3 : s.1 19 S = nI 99) : ∃ s' a, b_X8_cut_149 K FU (nI L) (nI k) (nI x) (nI S) 1 s = K (nI L) (nI k) (nI x) (nI (S + 1)) s' ∧ Kp τ s' 19 ∧ (∀ q, q < S → s'.1 19 q = nI (g q)) ∧ s'.1 19 S = nI a ∧ a ≤ S ∧ (∀ Q, Q < 64 → 0 < Q → sub Q S = true → smd (fun i => dig x i) Q ≤ L → a ≤ g (dif S Q) + 1) ∧ ∃ Q, Q < 64 ∧ 0 < Q ∧ sub Q S = true ∧ smd (fun i => dig x i) Q ≤ L ∧ a = g (dif S Q) + 1 := by
  have h64 : 2 ^ k ≤ 64 := Nat.pow_le_pow_right (n := 2) (by decide) (show k ≤ 6 from hk)
  have hsub : ∀ Q, Q < 64 → (nI (dif Q S) = 0 ↔ sub Q S = true) := fun Q hQ => by
    have h1 := (ct_dif Q hQ S (by omega)).1
    unfold sub
    rw [decide_eq_true_eq]
    exact nI_eq (b := 0) (by omega) (by omega)
  obtain ⟨⟨s', a⟩, m, ⟨i1, i2, i3, i4, i5, i6⟩, e2⟩ := loop_FU (fun n i (q : ES × Nat) => b_X8_cut_149 K n (nI L) (nI k) (nI x) (nI S) (nI (i + 1)) q.1) (fun i q => Kp τ q.1 19 ∧ (∀ r, r < S → q.1.1 19 r = nI (g r)) ∧ q.1.1 19 S = nI q.2 ∧ q.2 ≤ 99 ∧ (∀ Q, Q < i + 1 → 0 < Q → sub Q S = true → smd (fun i => dig x i) Q ≤ L → q.2 ≤ g (dif S Q) + 1) ∧ (q.2 = 99 ∨ ∃ Q, Q < i + 1 ∧ 0 < Q ∧ sub Q S = true ∧ smd (fun i => dig x i) Q ≤ L ∧ q.2 = g (dif S Q) + 1)) S (by omega) (fun n i q hi hq => by
    obtain ⟨t, a⟩ := q
    obtain ⟨g1, g2, g3, g4, g5, g6⟩ := hq
    dsimp only at g1 g2 g3 g4 g5 g6
    have skip : ¬ (sub (i + 1) S = true ∧ smd (fun i => dig x i) (i + 1) ≤ L) → (Kp τ t 19 ∧ (∀ r, r < S → t.1 19 r = nI (g r)) ∧ t.1 19 S = nI a ∧ a ≤ 99 ∧ (∀ Q, Q < i + 1 + 1 → 0 < Q → sub Q S = true → smd (fun i => dig x i) Q ≤ L → a ≤ g (dif S Q) + 1) ∧ (a = 99 ∨ ∃ Q, Q < i + 1 + 1 ∧ 0 < Q ∧ sub Q S = true ∧ smd (fun i => dig x i) Q ≤ L ∧ a = g (dif S Q) + 1)) := by
      intro hns
      refine ⟨g1, g2, g3, g4, fun Q q1 q2 q3 q4 => ?_, ?_⟩
      · by_cases e : Q = i + 1
        · subst e; exact absurd ⟨q3, q4⟩ hns
        · exact g5 Q (by omega) q2 q3 q4
      · rcases g6 with z | ⟨Q, j1, j2⟩
        · exact Or.inl z
        · exact Or.inr ⟨Q, by omega, j2⟩
    by_cases c1 : sub (i + 1) S = true
    · by_cases c2 : smd (fun i => dig x i) (i + 1) ≤ L
      · have hl := ((ct_dif S (by omega) (i + 1) (by omega)).2.1 c1).2.2 (by omega)
        have hg := (k2 _ hl).2
        refine ⟨(wI t 19 S (nI (min a (g (dif S (i + 1)) + 1))), min a (g (dif S (i + 1)) + 1)), ⟨g1.w, fun r hr => by rw [wI_nj (by omega)]; exact g2 r hr, wI_eq, by dsimp only; omega, fun Q q1 q2 q3 q4 => ?_, ?_⟩, ?_⟩
        · dsimp only
          by_cases e : Q = i + 1
          · subst e; omega
          · have := g5 Q (by omega) q2 q3 q4; omega
        · dsimp only
          by_cases c : g (dif S (i + 1)) + 1 < a
          · exact Or.inr ⟨i + 1, by omega, by omega, c1, c2, by omega⟩
          · rcases g6 with z | ⟨Q, j1, j2, j3, j4, j5⟩
            · exact Or.inl (by omega)
            · exact Or.inr ⟨Q, by omega, j2, j3, j4, by omega⟩
        · show b_X8_cut_149 K (n + 1) _ _ _ _ _ _ = b_X8_cut_149 K n _ _ _ _ _ _
          rw [b_X8_cut_149, if_neg (nI_nlt (by omega) (by omega)), dif_e (i + 1) (by omega) S (by omega), if_pos ((hsub _ (by omega)).mpr c1), csum hk (by omega) hx, cl_so, if_neg (nI_nlt c2 (by omega)), dif_e S (by omega) (i + 1) (by omega), rd_nI (by omega) (by omega), rd_nI (by omega) (by omega), rd_nI (by omega) (by omega), rd_nI (by omega) (by omega), g2 _ hl, g3, nI_1]
          unfold b_X8_cut_231
          rw [wr_nI (by omega) (by omega), wr_nI (by omega) (by omega), lt_e, lt_e, nI_1]
          by_cases c : a ≤ g (dif S (i + 1)) + 1
          · rw [if_pos (nI_le c (by omega)), Nat.min_eq_left c]
          · rw [if_neg (nI_ge (by omega) (by omega)), Nat.min_eq_right (by omega)]
      · have hb : smd (fun i => dig x i) (i + 1) ≤ 6 * 9 := sumN_le (fun j _ => by
          split
          · exact dig_le _ _
          · omega)
        refine ⟨(t, a), skip (fun h => c2 h.2), ?_⟩
        show b_X8_cut_149 K (n + 1) _ _ _ _ _ _ = b_X8_cut_149 K n _ _ _ _ _ _
        rw [b_X8_cut_149, if_neg (nI_nlt (by omega) (by omega)), dif_e (i + 1) (by omega) S (by omega), if_pos ((hsub _ (by omega)).mpr c1), csum hk (by omega) hx, cl_so, if_pos (nI_lt (by omega) (by omega)), lt_e, nI_1]
    · refine ⟨(t, a), skip (fun h => c1 h.1), ?_⟩
      show b_X8_cut_149 K (n + 1) _ _ _ _ _ _ = b_X8_cut_149 K n _ _ _ _ _ _
      rw [b_X8_cut_149, if_neg (nI_nlt (by omega) (by omega)), dif_e (i + 1) (by omega) S (by omega), if_neg (fun z => c1 ((hsub _ (by omega)).mp z)), lt_e, nI_1]) (s, 99) ⟨k1, fun q hq => (k2 q hq).1, k3, Nat.le_refl _, fun Q q1 q2 => by omega, Or.inl rfl⟩
  dsimp only at i1 i2 i3 i4 i5 i6
  have e3 : b_X8_cut_149 K FU (nI L) (nI k) (nI x) (nI S) 1 s = _ := e2
  obtain ⟨z, z1, z2⟩ := ct_any S (by omega) hS0
  obtain ⟨c1, c2, c3, c4, c5⟩ := ct_i S (by omega) z z1 z2
  have hle := ((ct_dif S (by omega) (2 ^ z) (Nat.pow_lt_pow_right (n := 6) (by decide) z1)).2.1 c2).1
  have s1 := smd_add (d := fun i => dig x i) (Q := 0) z1 (by simp)
  rw [Nat.zero_or, smd_0, Nat.zero_add] at s1
  have hz := i5 (2 ^ z) (by omega) (Nat.two_pow_pos _) c2 (by rw [s1]; exact hd z (tb_lt hS z2))
  have hg := (k2 _ c1).2
  refine ⟨s', a, ?_, i1, i2, i3, by omega, fun Q q1 q2 q3 q4 => i5 Q (by have := ((ct_dif S (by omega) Q q1).2.1 q3).1; omega) q2 q3 q4, ?_⟩
  · rw [e3]
    dsimp only
    rw [b_X8_cut_149, if_pos (nI_lt (by omega) (by omega)), lt_e, nI_1]
  · rcases i6 with q | ⟨Q, j1, j2, j3⟩
    · omega
    · exact ⟨Q, by omega, j2, j3⟩
theorem Gv.next {L M a : Nat} {d g : Nat → Nat} (h : Gv L d g M) (hM0 : 0 < M) (hM : M < 64) (h1 : ∀ Q, Q < 64 → 0 < Q → sub Q M = true → smd d Q ≤ L → a ≤ g (dif M Q) + 1) (h2 : ∃ Q, Q < 64 ∧ 0 < Q ∧ sub Q M = true ∧ smd d Q ≤ L ∧ a = g (dif M Q) + 1) : Gv L d (un g M a) (M + 1) := by
  obtain ⟨p1, p2⟩ := h
  refine ⟨by rw [un_ne (by omega)]; exact p1, fun q q0 q1 => ?_⟩
  by_cases c : q = M
  · subst c
    rw [un_eq]
    refine ⟨fun Q w1 w2 w3 w4 => ?_, ?_⟩
    · rw [un_ne (by have := ((ct_dif q hM Q w1).2.1 w3).2.2 w2; omega)]; exact h1 Q w1 w2 w3 w4
    · obtain ⟨Q, w1, w2, w3, w4, w5⟩ := h2
      exact ⟨Q, w1, w2, w3, w4, by rw [un_ne (by have := ((ct_dif q hM Q w1).2.1 w3).2.2 w2; omega)]; exact w5⟩
  · obtain ⟨a1, Q, w1, w2, w3, w4, w5⟩ := p2 q q0 (by omega)
    rw [un_ne c]
    refine ⟨fun Q w1 w2 w3 w4 => ?_, Q, w1, w2, w3, w4, ?_⟩
    · rw [un_ne (by have := (ct_dif q (by omega) Q w1).1; omega)]; exact a1 Q w1 w2 w3 w4
    · rw [un_ne (by have := (ct_dif q (by omega) Q w1).1; omega)]; exact w5
theorem mcut129 {τ : ES} {L k x : Nat} (hL : L ≤ 30) (hk : k ≤ 6) (hk1 : 1 ≤ k) (hx : x < 2 ^ 31) (hd : ∀ i, i < k → dig x i ≤ L) : ∃ s g, b_X8_cut_129 FU (nI L) (nI k) (nI x) 1 (wI τ 19 0 (nI 0)) = some (nI (g (2 ^ k - 1)), s) ∧ Kp τ s 19 ∧ Gv L (fun i => dig x i) g (2 ^ k) := by
  have h64 : 2 ^ k ≤ 64 := Nat.pow_le_pow_right (n := 2) (by decide) (show k ≤ 6 from hk)
  have h2 : 2 ^ 1 ≤ 2 ^ k := Nat.pow_le_pow_right (by decide) hk1
  obtain ⟨s, m, ⟨g, g1, g2, g3⟩, e2⟩ := loop_FU (fun n c (s : ES) => b_X8_cut_129 n (nI L) (nI k) (nI x) (nI (c + 1)) s) (fun c s => ∃ g, Kp τ s 19 ∧ (∀ q, q < c + 1 → s.1 19 q = nI (g q) ∧ g q ≤ q) ∧ Gv L (fun i => dig x i) g (c + 1)) (2 ^ k - 1) (by omega) (fun n c s hc hs => by
    obtain ⟨g, g1, g2, g3⟩ := hs
    obtain ⟨s', a, a1, a2, a3, a4, a5, a6, a7⟩ := mc149 (τ := τ) (s := wI s 19 (c + 1) (nI 99)) (S := c + 1) (g := g) (K := fun z0 z1 z2 z3 z4 => b_X8_cut_129 n z0 z1 z2 z3 z4) hL hk hx hd (by omega) (by omega) g1.w (fun q hq => by rw [wI_nj (by omega)]; exact g2 q hq) wI_eq
    refine ⟨s', ⟨un g (c + 1) a, a2, fun q hq => ?_, g3.next (by omega) (by omega) a6 a7⟩, ?_⟩
    · by_cases e : q = c + 1
      · subst e; rw [un_eq]; exact ⟨a4, a5⟩
      · rw [un_ne e]; exact ⟨a3 q (by omega), (g2 q (by omega)).2⟩
    · show b_X8_cut_129 (n + 1) _ _ _ _ _ = b_X8_cut_129 n _ _ _ _ _
      have e1 : (1 : Int32) <<< (nI k &&& 31) = nI (2 ^ k) := by rw [il1]; exact nI_sh k (by omega)
      rw [b_X8_cut_129, e1, if_neg (nI_ge (by omega) (by omega)), wr_nI (by omega) (by omega), il99]
      exact a1) (wI τ 19 0 (nI 0)) ⟨fun _ => 0, Kp.rf.w, fun q hq => by
        have : q = 0 := by omega
        subst this
        exact ⟨by rw [wI_eq], Nat.le_refl 0⟩, rfl, fun q h0 h1 => by omega⟩
  have e3 : b_X8_cut_129 FU (nI L) (nI k) (nI x) 1 (wI τ 19 0 (nI 0)) = _ := e2
  have e1 : (1 : Int32) <<< (nI k &&& 31) = nI (2 ^ k) := by rw [il1]; exact nI_sh k (by omega)
  refine ⟨s, g, ?_, g1, by rw [show 2 ^ k = 2 ^ k - 1 + 1 by omega]; exact g3⟩
  rw [e3, b_X8_cut_129, e1, if_pos (nI_le (by omega) (by omega)), show nI (2 ^ k) - 1 = nI (2 ^ k - 1) by rw [il1, pk_sub (by omega)], rd_nI (by omega) (by omega), (g2 (2 ^ k - 1) (by omega)).1]

-- ===== next, stub, draught =====
theorem cnt_le (f : Nat → Bool) (n : Nat) : cnt f n ≤ n := by
  induction n with
  | zero => exact Nat.le_refl _
  | succ n ih =>
    rw [cnt]
    by_cases h : f n = true
    · rw [if_pos h]; omega
    · rw [if_neg h]; omega
theorem bm_0 {f : Nat → Bool} {n : Nat} (h : cnt f n = 0) : bm f n = 0 := by
  induction n with
  | zero => rfl
  | succ n ih =>
    rw [cnt] at h
    have h1 : ¬ f n = true := fun q => by rw [if_pos q] at h; omega
    rw [if_neg h1] at h
    rw [bm, ih (by omega), if_neg h1]; rfl
theorem cnt_lim {f : Nat → Bool} {N m : Nat} (h : N ≤ m) : cnt (fun p => decide (p < N) && f p) m = cnt f N := by
  obtain ⟨d, rfl⟩ : ∃ d, m = N + d := ⟨m - N, by omega⟩
  induction d with
  | zero => exact cnt_congr (fun c hc => by simp only [Nat.add_zero] at hc; simp [hc])
  | succ d ih =>
    rw [← Nat.add_assoc, cnt, ih (by omega)]
    simp [show ¬ N + d < N by omega]
theorem st_next {σ τ : ES} (hR : Rel σ τ) (a0 : Int32) (a1 : Int32) (a2 : Int32) : ∃ (r : Int32), e_X7_next_0 a0 a1 a2 σ = some r ∧ e_X8_next a0 a1 a2 τ = some r := by
  obtain ⟨hT, ⟨k, B, hk, h1, h2, h3⟩, hD, P, β, hW, hXP, hMP, -⟩ := hR
  have w1 := hW.1
  unfold e_X7_next_0 b_X7_next_0_0 e_X8_next b_X8_next_0
  rw [in_ll a0 (l := 1) (h := 6) (by decide) (by decide), cl_in, in_0h a1 (h := 4) (by decide), cl_in]
  by_cases c0 : a0 < 1
  · rw [if_pos c0, if_neg (show ¬ (1 ≤ a0 ∧ a0 ≤ 6) from fun q => Int32.not_lt.mpr q.1 c0)]
    exact ⟨_, rfl, rfl⟩
  · by_cases c1 : a0 ≤ 6
    · rw [if_neg c0, if_neg (show ¬ 6 < a0 from Int32.not_lt.mpr c1), if_pos (show 1 ≤ a0 ∧ a0 ≤ 6 from ⟨Int32.not_lt.mp c0, c1⟩)]
      obtain ⟨l, k1, k2, rfl⟩ := rng (a := 1) (b := 6) (by omega) (by omega) c0 c1
      by_cases c2 : a1 < 0
      · rw [if_pos c2, if_neg (fun q : 0 ≤ a1 ∧ a1 ≤ 4 => nneg_iff.mpr q.1 c2)]
        exact ⟨_, rfl, rfl⟩
      · by_cases c3 : a1 ≤ 4
        · rw [if_neg c2, if_pos c3, if_pos (And.intro (nneg_iff.mp c2) c3)]
          obtain ⟨g, hg, rfl⟩ := nI_of2 (M := 4) (n := 4) rfl c2 c3
          rw [xorig hW hXP hk h1 (fun j hj => ⟨(h3 j hj).1, (h3 j hj).2.2⟩) k2 k1, mfromOf hW hMP hk h2 (fun j hj => (h3 j hj).2) k2 k1, cl_so, cl_so]
          by_cases c4 : l < k
          · rw [show orig P B k l = 0 by unfold orig; rw [if_pos c4]]
            exact ⟨_, rfl, rfl⟩
          · have eo : orig P B k l = bm (fun p => allN (frB P B p) k) (P 0 0 + 1 - l) := by unfold orig; rw [if_neg c4]
            have hlt : orig P B k l < 2 ^ 12 := by rw [eo]; exact Nat.lt_of_lt_of_le (bm_lt _ _) (Nat.pow_le_pow_right (by decide) (by omega))
            have ht12 : cnt (fun i => (orig P B k l).testBit i) 12 = cnt (fun i => (orig P B k l).testBit i) (P 0 0) := by
              rw [eo, cnt_bm _ _ _ (by omega), cnt_bm _ _ _ (by omega)]
            have hpos : orig P B k l ≠ 0 → 0 < cnt (fun i => (orig P B k l).testBit i) (P 0 0) := by
              intro q
              rw [eo, cnt_bm _ _ _ (by omega)]
              rcases Nat.eq_zero_or_pos (cnt (fun p => allN (frB P B p) k) (P 0 0 + 1 - l)) with z | z
              · exact absurd (by rw [eo]; exact bm_0 z) q
              · exact z
            have htb : ∀ c, (orig P B k l).testBit c = true → c + l ≤ P 0 0 := by
              intro c hc
              rw [eo, bm_test] at hc
              simp at hc; omega
            generalize orig P B k l = R at *
            by_cases c5 : R = 0
            · rw [c5, if_pos (show nI 0 = 0 from rfl), if_pos (show nI 0 = 0 from rfl)]
              exact ⟨_, rfl, rfl⟩
            · rw [if_neg (nI_ne0 (by omega) (by omega)), if_neg (nI_ne0 (by omega) (by omega)), h1, h2]
              by_cases c6 : k < l
              · rw [if_pos (nI_lt c6 (by omega)), if_pos (nI_lt c6 (by omega))]
                obtain ⟨s, j, e1, e2⟩ := loop_FU (fun n c (s : Nat) => b_X7_next_0_62 σ n (nI g) a2 (nI R) (nI s) (nI c)) (fun c s => s = cnt (fun p => R.testBit p && decide (P 1 (p + k) = g)) c) (P 0 0) (by omega) (fun n c s hc hs => ⟨cnt (fun p => R.testBit p && decide (P 1 (p + k) = g)) (c + 1), rfl, by
                  subst hs
                  show b_X7_next_0_62 σ (n + 1) _ _ _ _ _ = b_X7_next_0_62 σ n _ _ _ _ _
                  rw [b_X7_next_0_62, hXP.1.1, if_neg (nI_ge hc (by omega)), h1, nI_add, cnt]
                  simp only [bit_1 (show R < 2 ^ 31 by omega) (show c < 31 by omega), lt_e, nI_1]
                  by_cases t : R.testBit c = true
                  · have := htb c t
                    have q := hW.2.2.2.1 (c + k) (by omega)
                    rw [if_pos t, xgift_in hW hXP (by omega), cl_so]
                    by_cases e : P 1 (c + k) = g
                    · rw [if_pos (by rw [e])]; simp [t, e]
                    · rw [if_neg (fun x => e ((nI_eq (by omega) (by omega)).mp x))]; simp [e]
                  · rw [if_neg t]; simp [t]⟩) 0 rfl
                subst e1
                obtain ⟨⟨s1, s2⟩, j2, ⟨f1, f2⟩, f3⟩ := loop_FU (fun n c (s : Nat × Nat) => b_X8_next_59 τ n (nI g) a2 (nI R) (nI s.1) (nI s.2) (nI c)) (fun c s => s.1 = cnt (fun p => R.testBit p && decide (P 1 (p + k) = g)) c ∧ s.2 = cnt (fun i => R.testBit i) c) (P 0 0) (by omega) (fun n c s hc hs => ⟨(cnt (fun p => R.testBit p && decide (P 1 (p + k) = g)) (c + 1), cnt (fun i => R.testBit i) (c + 1)), ⟨rfl, rfl⟩, by
                  obtain ⟨s1, s2⟩ := s
                  obtain ⟨g1, g2⟩ := hs
                  dsimp only at g1 g2
                  subst g1; subst g2
                  show b_X8_next_59 τ (n + 1) _ _ _ _ _ _ = b_X8_next_59 τ n _ _ _ _ _ _
                  rw [b_X8_next_59, hMP.1.1, if_neg (nI_ge hc (by omega)), h2, nI_add, bit_n (by omega) (by omega), nI_add, has_n (by omega) (by omega), lt_e, cl_so]
                  dsimp only
                  rw [cnt, cnt]
                  have z0 : ∀ a, nI a + 0 = nI a := fun a => nI_add a 0
                  by_cases t : R.testBit c = true
                  · have := htb c t
                    have q := hW.2.2.2.1 (c + k) (by omega)
                    simp only [t, if_true, if_neg one_ne]
                    rw [rd_nI (by omega) (by omega), hMP.2.1 _ (by omega), lt_e, lt_e, lt_e, lt_e, nI_1, nI_1]
                    by_cases e : P 1 (c + k) = g
                    · rw [if_pos (by rw [e])]; simp [e]
                    · rw [if_neg (fun x => e ((nI_eq (by omega) (by omega)).mp x)), z0]; simp [e]
                  · simp [t, lt_e, nI_1]⟩) (0, 0) ⟨rfl, rfl⟩
                dsimp only at f1 f2
                subst f1; subst f2
                have l1 := cnt_le (fun p => R.testBit p && decide (P 1 (p + k) = g)) (P 0 0)
                have l2 := cnt_le (fun i => R.testBit i) (P 0 0)
                have l3 := hpos c5
                simp only [il0] at f3 ⊢
                rw [e2, b_X7_next_0_62, hXP.1.1, if_pos (nI_le (by omega) (by omega)), bc12 R (by omega), cl_so, ht12, frac_e (by omega) (by omega) l3, f3]
                rw [b_X8_next_59, hMP.1.1, if_pos (nI_le (by omega) (by omega)), mfrac_e (by omega) (by omega) l3]
                exact ⟨_, rfl, rfl⟩
              · rw [if_neg (nI_nlt (by omega) (by omega)), if_neg (nI_nlt (by omega) (by omega))]
                exact ⟨_, rfl, rfl⟩
        · rw [if_neg c2, if_neg c3, if_neg (show ¬ (0 ≤ a1 ∧ a1 ≤ 4) from fun q => c3 q.2)]
          exact ⟨_, rfl, rfl⟩
    · rw [if_neg c0, if_pos (show 6 < a0 from Int32.not_le.mp c1), if_neg (show ¬ (1 ≤ a0 ∧ a0 ≤ 6) from fun q => c1 q.2)]
      exact ⟨_, rfl, rfl⟩
-- stub
def cd (d : Nat) : Nat := if d = 0 then 4 else d - 1
theorem cd_if {d : Nat} (h : d ≤ 9) (F : Int32 → Option Int32) : (if nI d = 0 then F 4 else F (nI d - 1)) = F (nI (cd d)) := by
  unfold cd
  by_cases e : d = 0
  · subst e; rw [if_pos (show nI 0 = 0 from rfl), if_pos rfl, il4]
  · rw [if_neg (nI_ne0 (by omega) (by omega)), if_neg e, il1, pk_sub (by omega)]
def soB (P : Nat → Nat → Nat) (x l p i : Nat) : Bool := decide (P 1 (p + i) = cd (dig x (l - 1 - i)))
theorem cd_le (d : Nat) (h : d ≤ 9) : cd d ≤ 8 := by unfold cd; split <;> omega
theorem sub1 {l i : Nat} (h : i < l) : nI l - 1 - nI i = nI (l - 1 - i) := by rw [il1, pk_sub (by omega), pk_sub (by omega)]
theorem xends {σ : ES} {P : Nat → Nat → Nat} {x l p : Nat} (hW : WP P) (hXP : XPt σ 30 P) (hl : l ≤ 6) (hx : x < 2 ^ 31) (hp : p + l ≤ P 0 0) : ∀ m i, i + m = l → allN (soB P x l p) i = true → ∀ n, m < n → b_X7_endsSo_0_3 σ n (nI (p + l)) (nI l) (nI x) (nI i) = some (fI (allN (soB P x l p) l)) := by
  have w1 := hW.1
  intro m
  induction m with
  | zero =>
    intro i e a n hn
    obtain ⟨j, rfl⟩ : ∃ j, n = j + 1 := ⟨n - 1, by omega⟩
    have e' : i = l := by omega
    rw [b_X7_endsSo_0_3, if_pos (nI_le (by omega) (by omega)), show allN (soB P x l p) l = true from e' ▸ a]; rfl
  | succ m ih =>
    intro i e a n hn
    obtain ⟨j, rfl⟩ : ∃ j, n = j + 1 := ⟨n - 1, by omega⟩
    have q := hW.2.2.2.1 (p + i) (by omega)
    have q3 := dig_le x (l - 1 - i)
    have q2 := cd_le _ q3
    rw [b_X7_endsSo_0_3, if_neg (nI_ge (by omega) (by omega)), figure_e hx (by omega) (by omega), cl_so, pk_sub (by omega), nI_add, show p + l - l + i = p + i by omega, xgift_in hW hXP (by omega), cl_so]
    refine (cd_if q3 (fun t => b_X7_endsSo_0_44 σ (fun z0 z1 z2 z3 => b_X7_endsSo_0_3 σ j z0 z1 z2 z3) (nI (p + l)) (nI l) (nI x) (nI i) (nI (P 1 (p + i))) t)).trans ?_
    unfold b_X7_endsSo_0_44
    by_cases c : P 1 (p + i) = cd (dig x (l - 1 - i))
    · rw [if_pos (by rw [c]), lt_e, nI_1]
      exact ih (i + 1) (by omega) (by rw [allN, a]; simp [soB, c]) j (by omega)
    · rw [if_neg (fun x => c ((nI_eq (by omega) (by omega)).mp x)), allN_f (i := i) (by omega) (by simp [soB, c])]; rfl
theorem xendsE {σ : ES} {P : Nat → Nat → Nat} {x l p : Nat} (hW : WP P) (hXP : XPt σ 30 P) (hl : l ≤ 6) (hx : x < 2 ^ 31) (hp : p + l ≤ P 0 0) : e_X7_endsSo_0 (nI (p + l)) (nI l) (nI x) σ = some (fI (allN (soB P x l p) l)) := xends hW hXP hl hx hp l 0 (by omega) rfl FU (by unfold FU; omega)
theorem mis18 {τ : ES} {P : Nat → Nat → Nat} {x l p : Nat} (hW : WP P) (hMP : MPt τ P) (hl : l ≤ 6) (hx : x < 2 ^ 31) (hp : p + l ≤ P 0 0) : ∀ m i, i + m = l → allN (soB P x l p) i = true → ∀ n, m + 1 < n → b_X8_isSo_18 τ n (nI p) (nI l) (nI x) 1 (nI i) = some (fI (allN (soB P x l p) l)) := by
  have w1 := hW.1
  intro m
  induction m with
  | zero =>
    intro i e a n hn
    obtain ⟨j, rfl⟩ : ∃ j, n = j + 1 := ⟨n - 1, by omega⟩
    have e' : i = l := by omega
    rw [b_X8_isSo_18, if_pos (nI_le (by omega) (by omega)), show allN (soB P x l p) l = true from e' ▸ a]; rfl
  | succ m ih =>
    intro i e a n hn
    obtain ⟨j, rfl⟩ : ∃ j, n = j + 1 + 1 := ⟨n - 2, by omega⟩
    have q := hW.2.2.2.1 (p + i) (by omega)
    have q3 := dig_le x (l - 1 - i)
    have q2 := cd_le _ q3
    rw [b_X8_isSo_18, if_neg (nI_ge (by omega) (by omega)), if_neg one_ne, sub1 (by omega), il10, power_e _ _ (by omega), cl_so, dv_nI (p10_pos _) (p10_lt (by omega)), lt_e, rem10 hx (by omega), nI_add, rd_nI (by omega) (by omega), hMP.2.1 _ (by omega)]
    refine (cd_if q3 (fun t => b_X8_isSo_69 τ (fun z0 z1 z2 z3 z4 => b_X8_isSo_18 τ (j + 1) z0 z1 z2 z3 z4) (nI p) (nI l) (nI x) (nI i) (nI (P 1 (p + i))) t)).trans ?_
    unfold b_X8_isSo_69
    by_cases c : P 1 (p + i) = cd (dig x (l - 1 - i))
    · rw [if_pos (by rw [c]), lt_e, nI_1]
      exact ih (i + 1) (by omega) (by rw [allN, a]; simp [soB, c]) (j + 1) (by omega)
    · rw [if_neg (fun x => c ((nI_eq (by omega) (by omega)).mp x)), allN_f (i := i) (by omega) (by simp [soB, c]), lt_e]
      show b_X8_isSo_18 τ (j + 1) (nI p) (nI l) (nI x) 0 (nI i + 1) = some 0
      rw [b_X8_isSo_18, if_pos (show (0 : Int32) = 0 from rfl), ite_self]; rfl
theorem mis {τ : ES} {P : Nat → Nat → Nat} {x l p : Nat} (hW : WP P) (hMP : MPt τ P) (hl : l ≤ 6) (hx : x < 2 ^ 31) (hp : p < 100) : e_X8_isSo (nI p) (nI l) (nI x) τ = some (fI (decide (p + l ≤ P 0 0) && allN (soB P x l p) l)) := by
  have w1 := hW.1
  unfold e_X8_isSo b_X8_isSo_0
  have e1 : e_X8_in (nI p).toInt64 0 ((τ.1 0 0 - nI l).toInt64) = some (if p + l ≤ P 0 0 then 1 else 0) := by
    rw [in_0h _ rfl, hMP.1.1]
    have e : (nI (P 0 0) - nI l).toInt = (P 0 0 : Int) - l := pk_sub_toInt (by omega) (by omega)
    have : (0 ≤ nI p ∧ nI p ≤ nI (P 0 0) - nI l) ↔ p + l ≤ P 0 0 := by
      rw [Int32.le_iff_toInt_le (x := nI p), e, nI_toInt (by omega)]
      constructor
      · rintro ⟨-, h⟩; omega
      · intro h; exact ⟨nI_pos' (by omega), by omega⟩
    simp only [this]
  rw [e1, cl_so]
  by_cases h : p + l ≤ P 0 0
  · rw [if_pos h, il0, mis18 hW hMP hl hx h l 0 (by omega) rfl FU (by unfold FU; omega)]
    simp [h]
  · rw [if_neg h]
    obtain ⟨j, hj⟩ := FU_s 0 (by omega)
    rw [Nat.sub_zero] at hj
    rw [hj, b_X8_isSo_18, if_pos (show (0 : Int32) = 0 from rfl), ite_self]
    simp [h]; rfl
theorem fI_0 {b : Bool} : fI b = 0 ↔ ¬ b = true := by cases b <;> simp [fI]
theorem xplaces {σ : ES} {P : Nat → Nat → Nat} {x l : Nat} (hW : WP P) (hXP : XPt σ 30 P) (hl : l ≤ 6) (hl1 : 1 ≤ l) (hx : x < 2 ^ 31) : e_X7_placesEndingSo_0 (nI l) (nI x) σ = some (nI (cnt (fun p => allN (soB P x l p) l) (P 0 0 + 1 - l))) := by
  have w1 := hW.1
  unfold e_X7_placesEndingSo_0 b_X7_placesEndingSo_0_0
  obtain ⟨s, j, e1, e2⟩ := loop_FU (fun n c (s : Nat) => b_X7_placesEndingSo_0_5 σ n (nI l) (nI x) (nI s) (nI (c + l))) (fun c s => s = cnt (fun p => allN (soB P x l p) l) c) (P 0 0 + 1 - l) (by omega) (fun n c s hc hs => ⟨cnt (fun p => allN (soB P x l p) l) (c + 1), rfl, by
      subst hs
      show b_X7_placesEndingSo_0_5 σ (n + 1) _ _ _ _ = b_X7_placesEndingSo_0_5 σ n _ _ _ _
      rw [b_X7_placesEndingSo_0_5, hXP.1.1, if_neg (nI_nlt (by omega) (by omega)), xendsE hW hXP hl hx (by omega), cl_so, lt_e, lt_e, lt_e, nI_1, nI_1, cnt, show c + 1 + l = c + l + 1 by omega]
      by_cases h : allN (soB P x l c) l = true
      · rw [if_neg (fun q => fI_0.mp q h), if_pos h]
      · rw [if_pos (fI_0.mpr h), if_neg h]; rfl⟩) 0 rfl
  subst e1
  rw [Nat.zero_add] at e2
  rw [il0, e2, b_X7_placesEndingSo_0_5, hXP.1.1, if_pos (nI_lt (by omega) (by omega))]
theorem xcands {σ : ES} {P : Nat → Nat → Nat} {x l : Nat} (hW : WP P) (hXP : XPt σ 30 P) (hl : l ≤ 6) (hx : x < 2 ^ 31) : e_X7_candlesEndingSo_0 (nI l) (nI x) σ = some (nI (bm (fun c => decide (l ≤ P 3 c) && allN (soB P x l (P 2 c + P 3 c - l)) l) (P 0 1))) := by
  have w1 := hW.1
  have w2 := hW.2.1
  unfold e_X7_candlesEndingSo_0 b_X7_candlesEndingSo_0_0
  obtain ⟨s, j, e1, e2⟩ := loop_FU (fun n c (s : Nat) => b_X7_candlesEndingSo_0_5 σ n (nI l) (nI x) (nI s) (nI c)) (fun c s => s = bm (fun c => decide (l ≤ P 3 c) && allN (soB P x l (P 2 c + P 3 c - l)) l) c) (P 0 1) (by omega) (fun n c s hc hs => ⟨bm (fun c => decide (l ≤ P 3 c) && allN (soB P x l (P 2 c + P 3 c - l)) l) (c + 1), rfl, by
      subst hs
      obtain ⟨y1, y2, y3⟩ := (XP30 hXP).2.2.1 c hc
      have w5 := hW.2.2.2.2.1 c hc
      show b_X7_candlesEndingSo_0_5 σ (n + 1) _ _ _ _ = b_X7_candlesEndingSo_0_5 σ n _ _ _ _
      rw [b_X7_candlesEndingSo_0_5, hXP.1.2.1, if_neg (nI_ge (by omega) (by omega)), rd_nI (by omega) (by omega), y2, rd_nI (by omega) (by omega), rd_nI (by omega) (by omega), y1, y2, nI_add]
      simp only [lt_e, nI_1]
      rw [← or_if]
      by_cases h0 : P 3 c < l
      · rw [if_pos (nI_lt h0 (by omega))]; simp [show ¬ l ≤ P 3 c by omega, nI_or]
      · have e3 := xendsE (x := x) (l := l) (p := P 2 c + P 3 c - l) hW hXP hl hx (by omega)
        rw [show P 2 c + P 3 c - l + l = P 2 c + P 3 c by omega] at e3
        rw [if_neg (nI_nlt (by omega) (by omega)), e3, cl_so]
        by_cases h : allN (soB P x l (P 2 c + P 3 c - l)) l = true
        · rw [if_neg (fun q => fI_0.mp q h), il1, nI_sh c (by omega)]; simp [h, show l ≤ P 3 c by omega]
        · rw [if_pos (fI_0.mpr h)]; simp [h, nI_or]⟩) 0 rfl
  subst e1
  rw [il0, e2, b_X7_candlesEndingSo_0_5, hXP.1.2.1, if_pos (nI_le (by omega) (by omega))]
theorem mstub73 {τ : ES} {P : Nat → Nat → Nat} {x l : Nat} (hW : WP P) (hMP : MPt τ P) (hl : l ≤ 6) (hl1 : 1 ≤ l) (hx : x < 2 ^ 31) (v : Int32) : b_X8_stub_73 τ FU (nI l) (nI x) v 0 0 = some (if v = 0 then nI (cnt (fun p => allN (soB P x l p) l) (P 0 0 + 1 - l)) else nI (bm (fun c => decide (l ≤ P 3 c) && allN (soB P x l (P 2 c + P 3 c - l)) l) (P 0 1))) := by
  have w1 := hW.1
  have w2 := hW.2.1
  obtain ⟨s, j, e1, e2⟩ := loop_FU (fun n c (s : Nat) => b_X8_stub_73 τ n (nI l) (nI x) v (nI s) (nI c)) (fun c s => s = bm (fun c => decide (l ≤ P 3 c) && allN (soB P x l (P 2 c + P 3 c - l)) l) c) (P 0 1) (by omega) (fun n c s hc hs => ⟨bm (fun c => decide (l ≤ P 3 c) && allN (soB P x l (P 2 c + P 3 c - l)) l) (c + 1), rfl, by
      subst hs
      obtain ⟨y1, y2, y3⟩ := hMP.2.2.1 c hc
      have w5 := hW.2.2.2.2.1 c hc
      show b_X8_stub_73 τ (n + 1) _ _ _ _ _ = b_X8_stub_73 τ n _ _ _ _ _
      rw [b_X8_stub_73, hMP.1.2.1, if_neg (nI_ge (by omega) (by omega)), rd_nI (by omega) (by omega), y2, rd_nI (by omega) (by omega), rd_nI (by omega) (by omega), y1, y2, nI_add]
      simp only [lt_e, nI_1]
      rw [← or_if]
      by_cases h0 : P 3 c < l
      · rw [if_pos (nI_lt h0 (by omega))]; simp [show ¬ l ≤ P 3 c by omega, il0]
      · rw [if_neg (nI_nlt (by omega) (by omega)), pk_sub (by omega), mis hW hMP hl hx (by omega), cl_so]
        by_cases h : allN (soB P x l (P 2 c + P 3 c - l)) l = true
        · rw [if_neg (fun q => fI_0.mp q (by simp [h]; omega)), il1, nI_sh c (by omega)]; simp [h, show l ≤ P 3 c by omega]
        · rw [if_pos (fI_0.mpr (by simp [h]))]; simp [h, il0]⟩) 0 rfl
  subst e1
  have e3 : b_X8_stub_73 τ FU (nI l) (nI x) v 0 0 = _ := e2
  rw [e3, b_X8_stub_73, hMP.1.2.1, if_pos (nI_le (by omega) (by omega))]
  obtain ⟨s, j, e1, e2⟩ := loop_FU (fun n c (s : Nat) => b_X8_stub_144 τ n (nI l) (nI x) v (nI (bm (fun c => decide (l ≤ P 3 c) && allN (soB P x l (P 2 c + P 3 c - l)) l) (P 0 1))) (nI s) (nI c)) (fun c s => s = cnt (fun p => decide (p < P 0 0 + 1 - l) && allN (soB P x l p) l) c) (P 0 0) (by omega) (fun n c s hc hs => ⟨cnt (fun p => decide (p < P 0 0 + 1 - l) && allN (soB P x l p) l) (c + 1), rfl, by
      subst hs
      show b_X8_stub_144 τ (n + 1) _ _ _ _ _ _ = b_X8_stub_144 τ n _ _ _ _ _ _
      have z0 : ∀ a, nI a + 0 = nI a := fun a => nI_add a 0
      rw [b_X8_stub_144, hMP.1.1, if_neg (nI_ge (by omega) (by omega)), mis hW hMP hl hx (by omega), cl_so, lt_e, lt_e, lt_e, lt_e, nI_1, nI_1, z0, cnt]
      have e4 : decide (c + l ≤ P 0 0) = decide (c < P 0 0 + 1 - l) := by
        by_cases h : c + l ≤ P 0 0
        · simp [h]; omega
        · simp [h]; omega
      rw [e4]
      by_cases h : (decide (c < P 0 0 + 1 - l) && allN (soB P x l c) l) = true
      · rw [if_neg (fun q => fI_0.mp q h), if_pos h]
      · rw [if_pos (fI_0.mpr h), if_neg h]; rfl⟩) 0 rfl
  subst e1
  rw [cnt_lim (by omega)] at e2
  have e3 : b_X8_stub_144 τ FU (nI l) (nI x) v (nI (bm (fun c => decide (l ≤ P 3 c) && allN (soB P x l (P 2 c + P 3 c - l)) l) (P 0 1))) 0 0 = _ := e2
  rw [e3, b_X8_stub_144, hMP.1.1, if_pos (nI_le (by omega) (by omega))]
  by_cases h : v = 0
  · rw [if_pos h, if_pos h]
  · rw [if_neg h, if_neg h]

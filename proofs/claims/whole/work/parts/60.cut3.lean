def rv (k S : Nat) : Nat := bm (fun i => S.testBit (k - 1 - i)) k
theorem rv_1 : ∀ k, k < 7 → ∀ S, S < 64 → S < 2 ^ k → (0 < S → 0 < rv k S) := by decide +kernel
theorem rv_2 : ∀ k, k < 7 → ∀ S, S < 64 → ∀ i, i < k → rv k (dif S (2 ^ i)) = dif (rv k S) (2 ^ (k - 1 - i)) := by decide +kernel
theorem rv_3 : ∀ k, k < 7 → rv k 0 = 0 ∧ rv k (2 ^ k - 1) = 2 ^ k - 1 := by decide +kernel
theorem cut_rev {L k x : Nat} {v g : Nat → Nat} (hL : L ≤ 30) (hk : k ≤ 6) (hk1 : 1 ≤ k) (hd : ∀ i, i < k → 1 ≤ dig x i ∧ dig x i ≤ L) (hv : Lv L (fun j => dig x (k - 1 - j)) v (2 ^ k)) (hg : Gv L (fun i => dig x i) g (2 ^ k)) : v (2 ^ k - 1) / 32 = g (2 ^ k - 1) := by
  have h64 : 2 ^ k ≤ 64 := Nat.pow_le_pow_right (n := 2) (by decide) (show k ≤ 6 from hk)
  have h2 : 2 ^ 1 ≤ 2 ^ k := Nat.pow_le_pow_right (by decide) hk1
  have hlt : ∀ S, rv k S < 2 ^ k := fun S => bm_lt _ _
  have htb : ∀ S j, (rv k S).testBit j = (decide (j < k) && S.testBit (k - 1 - j)) := fun S j => bm_test _ _ _
  have := cut_eq (L := L) (k := k) (d := fun i => dig x i) (l := fun S => v (rv k S)) (g := g) hL hk (fun S hS i hi ht => hd i (tb_lt hS ht)) (by show v (rv k 0) = L; rw [(rv_3 k (by omega)).1]; exact hv.1) (fun S s0 s1 i i1 i2 => by
      have ik := tb_lt s1 i2
      have := (hv.2 (rv k S) (rv_1 k (by omega) S (by omega) s1 s0) (hlt S)).1 (k - 1 - i) (by omega) (by rw [htb, show k - 1 - (k - 1 - i) = i by omega, i2]; simp; omega)
      dsimp only at this
      rw [show k - 1 - (k - 1 - i) = i by omega, ← rv_2 k (by omega) S (by omega) i ik] at this
      exact this) (fun S s0 s1 => by
      obtain ⟨j, j1, j2, j3⟩ := (hv.2 (rv k S) (rv_1 k (by omega) S (by omega) s1 s0) (hlt S)).2
      rw [htb] at j2
      simp only [Bool.and_eq_true, decide_eq_true_eq] at j2
      refine ⟨k - 1 - j, by omega, j2.2, ?_⟩
      dsimp only at j3 ⊢
      rw [rv_2 k (by omega) S (by omega) (k - 1 - j) (by omega), show k - 1 - (k - 1 - j) = j by omega]
      exact j3) hg.1 (fun S s0 s1 => (hg.2 S s0 s1).1) (fun S s0 s1 => (hg.2 S s0 s1).2) (2 ^ k - 1) (by omega) (by omega)
  rw [(rv_3 k (by omega)).2] at this
  exact this
theorem xc44 {σ : ES} {L k x : Nat} (hL : L ≤ 30) (hk : k ≤ 6) (hx : x < 2 ^ 31) : ∀ m i mx n, i + m = k → mx ≤ 9 → m < n → ((∀ j, j < m → 1 ≤ dig x j) → ∃ my, my ≤ 9 ∧ b_X7_cut_0_44 n (nI L) (nI k) (nI x) (nI mx) (nI i) σ = (if nI my ≤ nI L then (cs (e_X5_fewest_26 (nI L) (nI k) (nI x) σ) fun r5 σ4 => some (r5, σ4)) else some (-9, σ)) ∧ (my ≤ L ↔ mx ≤ L ∧ ∀ j, j < m → dig x j ≤ L)) ∧ (¬ (∀ j, j < m → 1 ≤ dig x j) → b_X7_cut_0_44 n (nI L) (nI k) (nI x) (nI mx) (nI i) σ = some (-2, σ)) := by
  intro m
  induction m with
  | zero =>
    intro i mx n e hm hn
    obtain ⟨j, rfl⟩ : ∃ j, n = j + 1 := ⟨n - 1, by omega⟩
    refine ⟨fun _ => ⟨mx, hm, ?_, ⟨fun h => ⟨h, fun j hj => by omega⟩, fun h => h.1⟩⟩, fun h => absurd (fun j hj => by omega) h⟩
    rw [b_X7_cut_0_44, if_pos (nI_le (by omega) (by omega))]
  | succ m ih =>
    intro i mx n e hm hn
    obtain ⟨j, rfl⟩ : ∃ j, n = j + 1 := ⟨n - 1, by omega⟩
    have hd := dig_le x m
    have em : (if nI mx < nI (dig x m) then nI (dig x m) else nI mx) = nI (max mx (dig x m)) := by
      by_cases c : mx < dig x m
      · rw [if_pos (nI_lt c (by omega)), Nat.max_eq_right (by omega)]
      · rw [if_neg (nI_nlt (by omega) (by omega)), Nat.max_eq_left (by omega)]
    obtain ⟨i1, i2⟩ := ih (i + 1) (max mx (dig x m)) j (by omega) (by omega) (by omega)
    rw [b_X7_cut_0_44, if_neg (nI_ge (by omega) (by omega)), figure_e hx (by omega) (by omega), cl_so, show k - 1 - i = m by omega, em, lt_e, lt_e, nI_1]
    by_cases c : dig x m = 0
    · rw [c, if_pos (show nI 0 = 0 from rfl)]
      exact ⟨fun h => by have := h m (by omega); omega, fun _ => rfl⟩
    · rw [if_neg (nI_ne0 (by omega) (by omega))]
      refine ⟨fun h => ?_, fun h => i2 (fun g => h (fun q hq => ?_))⟩
      · obtain ⟨my, a1, a2, a3⟩ := i1 (fun q hq => h q (by omega))
        refine ⟨my, a1, a2, a3.trans ⟨fun z => ⟨by omega, fun q hq => ?_⟩, fun z => ⟨?_, fun q hq => z.2 q (by omega)⟩⟩⟩
        · by_cases e : q = m
          · rw [e]; omega
          · exact z.2 q (by omega)
        · have := z.2 m (by omega); omega
      · by_cases e : q = m
        · rw [e]; omega
        · exact g q (by omega)
theorem mc59 {τ : ES} {L k x : Nat} (hL : L ≤ 30) (hk : k ≤ 6) (hx : x < 2 ^ 31) : ∀ m i (b : Bool) n, i + m = k → m < n → ((¬ (∀ j, i ≤ j → j < k → 1 ≤ dig x j)) → b_X8_cut_59 n (nI L) (nI k) (nI x) (fI b) (nI i) τ = some (-2, τ)) ∧ ((∀ j, i ≤ j → j < k → 1 ≤ dig x j) → (b = true ∧ ∀ j, i ≤ j → j < k → dig x j ≤ L) → b_X8_cut_59 n (nI L) (nI k) (nI x) (fI b) (nI i) τ = b_X8_cut_129 FU (nI L) (nI k) (nI x) 1 (wI τ 19 0 (nI 0))) ∧ ((∀ j, i ≤ j → j < k → 1 ≤ dig x j) → ¬ (b = true ∧ ∀ j, i ≤ j → j < k → dig x j ≤ L) → b_X8_cut_59 n (nI L) (nI k) (nI x) (fI b) (nI i) τ = some (-9, τ)) := by
  intro m
  induction m with
  | zero =>
    intro i b n e hn
    obtain ⟨j, rfl⟩ : ∃ j, n = j + 1 := ⟨n - 1, by omega⟩
    rw [b_X8_cut_59, if_pos (nI_le (by omega) (by omega))]
    refine ⟨fun h => absurd (fun j h1 h2 => by omega) h, fun _ h => ?_, fun _ h => ?_⟩
    · rw [h.1, show fI true = 1 from rfl, if_neg one_ne, il0, wr_nI (by omega) (by omega)]
    · have : b = false := by
        cases b with
        | false => rfl
        | true => exact absurd ⟨rfl, fun j h1 h2 => by omega⟩ h
      rw [this, show fI false = 0 from rfl, if_pos rfl]
  | succ m ih =>
    intro i b n e hn
    obtain ⟨j, rfl⟩ : ∃ j, n = j + 1 := ⟨n - 1, by omega⟩
    have hd := dig_le x i
    obtain ⟨i1, i2, i3⟩ := ih (i + 1) (b && decide (dig x i ≤ L)) j (by omega) (by omega)
    rw [b_X8_cut_59, if_neg (nI_ge (by omega) (by omega)), il10, power_e _ _ (by omega), cl_so, dv_nI (p10_pos _) (p10_lt (by omega)), lt_e, rem10 hx (by omega)]
    by_cases c : dig x i = 0
    · rw [c, if_pos (show nI 0 = 0 from rfl)]
      exact ⟨fun _ => rfl, fun h => by have := h i (by omega) (by omega); omega, fun h => by have := h i (by omega) (by omega); omega⟩
    · rw [if_neg (nI_ne0 (by omega) (by omega))]
      have ef : (if fI b = 0 then (lt (nI i + 1) fun x11 => b_X8_cut_59 j (nI L) (nI k) (nI x) 0 x11 τ) else (if nI L < nI (dig x i) then (lt (nI i + 1) fun x13 => b_X8_cut_59 j (nI L) (nI k) (nI x) 0 x13 τ) else (lt (nI i + 1) fun x14 => b_X8_cut_59 j (nI L) (nI k) (nI x) 1 x14 τ))) = b_X8_cut_59 j (nI L) (nI k) (nI x) (fI (b && decide (dig x i ≤ L))) (nI (i + 1)) τ := by
        simp only [lt_e, nI_1]
        cases b with
        | false => rfl
        | true =>
          rw [show fI true = 1 from rfl, if_neg one_ne]
          by_cases q : dig x i ≤ L
          · rw [if_neg (nI_nlt q (by omega)), decide_eq_true q]; rfl
          · rw [if_pos (nI_lt (by omega) (by omega)), decide_eq_false q]; rfl
      rw [ef]
      refine ⟨fun h => i1 (fun g => h (fun q q1 q2 => ?_)), fun h g => i2 (fun q q1 q2 => h q (by omega) q2) ⟨?_, fun q q1 q2 => g.2 q (by omega) q2⟩, fun h g => i3 (fun q q1 q2 => h q (by omega) q2) (fun z => g ?_)⟩
      · by_cases e : q = i
        · rw [e]; omega
        · exact g q (by omega) q2
      · rw [g.1, decide_eq_true (g.2 i (by omega) (by omega))]; rfl
      · simp only [Bool.and_eq_true, decide_eq_true_eq] at z
        refine ⟨z.1.1, fun q q1 q2 => ?_⟩
        by_cases e : q = i
        · rw [e]; exact z.1.2
        · exact z.2 q (by omega) q2
theorem st_cut {σ τ : ES} (hR : Rel σ τ) (a0 : Int32) (a1 : Int32) (a2 : Int32) : ∃ (r : Int32) (σ' : ES) (τ' : ES), e_X7_cut_0 a0 a1 a2 σ = some (r, σ') ∧ e_X8_cut a0 a1 a2 τ = some (r, τ') ∧ Rel σ' τ' := by
  unfold e_X7_cut_0 b_X7_cut_0_0 e_X8_cut b_X8_cut_0 b_X7_cut_0_35
  rw [in_ll a0 (l := 1) (h := 30) (by decide) (by decide), cl_in, in_ll a1 (l := 1) (h := 6) (by decide) (by decide), cl_in]
  by_cases c0 : a0 < 1
  · rw [if_pos c0, if_neg (show ¬ (1 ≤ a0 ∧ a0 ≤ 30) from fun q => Int32.not_lt.mpr q.1 c0)]
    exact ⟨_, _, _, rfl, rfl, hR⟩
  · by_cases c1 : a0 ≤ 30
    · rw [if_neg c0, if_neg (show ¬ 30 < a0 from Int32.not_lt.mpr c1), if_pos (show 1 ≤ a0 ∧ a0 ≤ 30 from ⟨Int32.not_lt.mp c0, c1⟩)]
      obtain ⟨L, L1, L2, rfl⟩ := rng (a := 1) (b := 30) (by omega) (by omega) c0 c1
      by_cases c2 : a1 < 1
      · rw [if_pos c2, if_neg (show ¬ (1 ≤ a1 ∧ a1 ≤ 6) from fun q => Int32.not_lt.mpr q.1 c2)]
        exact ⟨_, _, _, rfl, rfl, hR⟩
      · by_cases c3 : a1 ≤ 6
        · rw [if_neg c2, if_neg (show ¬ 6 < a1 from Int32.not_lt.mpr c3), if_pos (show 1 ≤ a1 ∧ a1 ≤ 6 from ⟨Int32.not_lt.mp c2, c3⟩)]
          obtain ⟨k, k1, k2, rfl⟩ := rng (a := 1) (b := 6) (by omega) (by omega) c2 c3
          have hp : 10 ^ k < 2 ^ 30 := Nat.lt_of_le_of_lt (Nat.pow_le_pow_right (by decide) k2) (by decide)
          have hp1 : 10 ^ (k - 1) < 2 ^ 30 := Nat.lt_of_le_of_lt (Nat.pow_le_pow_right (by decide) (show k - 1 ≤ 5 by omega)) (by decide)
          have x0 : nI k - 1 = nI (k - 1) := by rw [il1, pk_sub (by omega)]
          rw [il10, x0, power_e _ _ (by omega), cl_so, power_e _ _ (by omega), cl_so, in_i, cl_in, rt_nI (by omega) (by omega), tens_n _ (by omega)]
          simp only [le_pred hp]
          by_cases c4 : a2 < 0
          · rw [if_pos c4, if_neg (fun q : nI (10 ^ (k - 1)) ≤ a2 ∧ a2 < nI (10 ^ k) => by
              have q1 := q.1
              rw [Int32.le_iff_toInt_le, nI_toInt (by omega)] at q1
              rw [Int32.lt_iff_toInt_lt] at c4
              have e : (0 : Int32).toInt = 0 := rfl
              generalize 10 ^ (k - 1) = y at q1
              omega)]
            exact ⟨_, _, _, rfl, rfl, hR⟩
          · obtain ⟨x, hx, rfl⟩ := nI_of c4
            rw [if_neg c4]
            by_cases c5 : x < 10 ^ k
            · rw [if_pos (nI_lt c5 (by omega))]
              obtain ⟨u1, u2⟩ := xc44 (σ := σ) (L := L) (k := k) (x := x) L2 k2 hx k 0 0 FU (by omega) (by omega) (by unfold FU; omega)
              rw [← il0] at u1 u2
              by_cases c6 : 10 ^ (k - 1) ≤ x
              · rw [if_pos (show nI (10 ^ (k - 1)) ≤ nI x ∧ nI x < nI (10 ^ k) from ⟨nI_le c6 (by omega), nI_lt c5 (by omega)⟩)]
                obtain ⟨t1, t2, t3⟩ := mc59 (τ := τ) (L := L) (k := k) (x := x) L2 k2 hx k 0 true FU (by omega) (by unfold FU; omega)
                rw [← il0, show fI true = 1 from rfl] at t1 t2 t3
                by_cases z : ∀ j, j < k → 1 ≤ dig x j
                · obtain ⟨my, m1, m2, m3⟩ := u1 z
                  by_cases y : ∀ j, j < k → dig x j ≤ L
                  · obtain ⟨s, v, f1, f2, f3⟩ := xfewest (σ := σ) (L := L) (k := k) (x := x) L2 k2 k1 hx
                    obtain ⟨t, g, g1, g2, g3⟩ := mcut129 (τ := τ) (L := L) (k := k) (x := x) L2 k2 k1 hx y
                    rw [← il0] at g1
                    rw [m2, if_pos (nI_le (m3.mpr ⟨by omega, y⟩) (by omega)), f1, cs_so, t2 (fun j _ h => z j h) ⟨rfl, fun j _ h => y j h⟩, g1, cut_rev L2 k2 k1 (fun i hi => ⟨z i hi, y i hi⟩) f3 g3]
                    obtain ⟨hT, hX, hD, P, β, hM⟩ := hR
                    exact ⟨_, s, t, rfl, rfl, hT.c (f2.1 1 (by decide)) (f2.1 2 (by decide)) (by rw [g2.1 0 (by decide)]) (g2.1 10 (by decide)), hX.c (f2.1 24 (by decide)) (f2.1 25 (by decide)) (by rw [g2.1 0 (by decide)]) (g2.1 18 (by decide)), hD.c (by rw [f2.2]) (by rw [g2.2]), P, β, hM.c (fun q hq => f2.1 q (by omega)) (fun j _ => by rw [g2.1 0 (by decide)]) (fun q hq => g2.1 q (by omega))⟩
                  · rw [m2, if_neg (nI_ge (by
                      rcases Nat.lt_or_ge L my with h | h
                      · exact h
                      · exact absurd (m3.mp h).2 y) (by omega)), t3 (fun j _ h => z j h) (fun h => y (fun j hj => h.2 j (by omega) hj))]
                    exact ⟨_, _, _, rfl, rfl, hR⟩
                · rw [u2 z, t1 (fun h => z (fun j hj => h j (by omega) hj))]
                  exact ⟨_, _, _, rfl, rfl, hR⟩
              · rw [if_neg (fun q : nI (10 ^ (k - 1)) ≤ nI x ∧ nI x < nI (10 ^ k) => c6 ((nI_leI (by omega) hx).mp q.1)), u2 (fun h => by
                  have := h (k - 1) (by omega)
                  unfold dig at this
                  rw [Nat.div_eq_of_lt (by omega)] at this
                  omega)]
                exact ⟨_, _, _, rfl, rfl, hR⟩
            · rw [if_neg (nI_nlt (by omega) hx), if_neg (fun q : nI (10 ^ (k - 1)) ≤ nI x ∧ nI x < nI (10 ^ k) => c5 ((nI_ltI hx (by omega)).mp q.2))]
              exact ⟨_, _, _, rfl, rfl, hR⟩
        · rw [if_neg c2, if_pos (show 6 < a1 from Int32.not_le.mp c3), if_neg (show ¬ (1 ≤ a1 ∧ a1 ≤ 6) from fun q => c3 q.2)]
          exact ⟨_, _, _, rfl, rfl, hR⟩
    · rw [if_neg c0, if_pos (show 30 < a0 from Int32.not_le.mp c1), if_neg (show ¬ (1 ≤ a0 ∧ a0 ≤ 30) from fun q => c1 q.2)]
      exact ⟨_, _, _, rfl, rfl, hR⟩

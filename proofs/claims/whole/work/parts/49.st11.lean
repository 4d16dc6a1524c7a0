-- ===== stub, draught, table =====
theorem xst29 {σ : ES} {x l : Nat} (hl : l ≤ 6) (hx : x < 2 ^ 31) (v : Int32) : ∀ m i, i + m = l → ∀ n, m < n → ((∀ j, j < m → dig x j ≤ 4) → b_X7_stub_0_29 σ n (nI l) (nI x) v (nI i) = (if v = 0 then (cl (e_X7_placesEndingSo_0 (nI l) (nI x) σ) fun r4 => some r4) else (cl (e_X7_candlesEndingSo_0 (nI l) (nI x) σ) fun r6 => some r6))) ∧ (¬ (∀ j, j < m → dig x j ≤ 4) → b_X7_stub_0_29 σ n (nI l) (nI x) v (nI i) = some (-2)) := by
  intro m
  induction m with
  | zero =>
    intro i e n hn
    obtain ⟨j, rfl⟩ : ∃ j, n = j + 1 := ⟨n - 1, by omega⟩
    refine ⟨fun _ => ?_, fun h => absurd (fun j hj => by omega) h⟩
    rw [b_X7_stub_0_29, if_pos (nI_le (by omega) (by omega))]
  | succ m ih =>
    intro i e n hn
    obtain ⟨j, rfl⟩ : ∃ j, n = j + 1 := ⟨n - 1, by omega⟩
    have q3 := dig_le x m
    obtain ⟨i1, i2⟩ := ih (i + 1) (by omega) j (by omega)
    rw [b_X7_stub_0_29, if_neg (nI_ge (by omega) (by omega)), figure_e hx (by omega) (by omega), cl_so, lt_e, nI_1, show l - 1 - i = m by omega]
    by_cases c : dig x m ≤ 4
    · rw [if_pos (show nI (dig x m) ≤ 4 from nI_le (b := 4) c (by omega))]
      refine ⟨fun h => i1 (fun k hk => h k (by omega)), fun h => i2 (fun g => h (fun k hk => ?_))⟩
      by_cases e : k = m
      · rw [e]; exact c
      · exact g k (by omega)
    · rw [if_neg (show ¬ nI (dig x m) ≤ 4 from nI_ge (a := 4) (by omega) (by omega))]
      exact ⟨fun h => absurd (h m (by omega)) c, fun _ => rfl⟩
theorem mst36 {τ : ES} {x l : Nat} (hl : l ≤ 6) (hx : x < 2 ^ 31) (v : Int32) : ∀ m i, i + m = l → ∀ n, m < n → ((∀ j, i ≤ j → j < l → dig x j ≤ 4) → b_X8_stub_36 τ n (nI l) (nI x) v (nI i) = b_X8_stub_73 τ FU (nI l) (nI x) v 0 0) ∧ (¬ (∀ j, i ≤ j → j < l → dig x j ≤ 4) → b_X8_stub_36 τ n (nI l) (nI x) v (nI i) = some (-2)) := by
  intro m
  induction m with
  | zero =>
    intro i e n hn
    obtain ⟨j, rfl⟩ : ∃ j, n = j + 1 := ⟨n - 1, by omega⟩
    refine ⟨fun _ => ?_, fun h => absurd (fun j hj => by omega) h⟩
    rw [b_X8_stub_36, if_pos (nI_le (by omega) (by omega))]
  | succ m ih =>
    intro i e n hn
    obtain ⟨j, rfl⟩ : ∃ j, n = j + 1 := ⟨n - 1, by omega⟩
    have q3 := dig_le x i
    obtain ⟨i1, i2⟩ := ih (i + 1) (by omega) j (by omega)
    rw [b_X8_stub_36, if_neg (nI_ge (by omega) (by omega)), il10, power_e _ _ (by omega), cl_so, dv_nI (p10_pos _) (p10_lt (by omega)), rem10 hx (by omega), lt_e, nI_1]
    by_cases c : dig x i ≤ 4
    · rw [if_pos (show nI (dig x i) ≤ 4 from nI_le (b := 4) c (by omega))]
      refine ⟨fun h => i1 (fun k hk => h k (by omega)), fun h => i2 (fun g => h (fun k hk hk2 => ?_))⟩
      by_cases e : k = i
      · rw [e]; exact c
      · exact g k (by omega) hk2
    · rw [if_neg (show ¬ nI (dig x i) ≤ 4 from nI_ge (a := 4) (by omega) (by omega))]
      exact ⟨fun h => absurd (h i (by omega) (by omega)) c, fun _ => rfl⟩
theorem st_stub {σ τ : ES} (hR : Rel σ τ) (a0 : Int32) (a1 : Int32) (a2 : Int32) : ∃ (r : Int32), e_X7_stub_0 a0 a1 a2 σ = some r ∧ e_X8_stub a0 a1 a2 τ = some r := by
  obtain ⟨hT, hX, hD, P, β, hW, hXP, hMP, -⟩ := hR
  unfold e_X7_stub_0 b_X7_stub_0_0 e_X8_stub b_X8_stub_0
  rw [in_ll a0 (l := 1) (h := 3) (by decide) (by decide), cl_in]
  by_cases c0 : a0 < 1
  · rw [if_pos c0, if_neg (show ¬ (1 ≤ a0 ∧ a0 ≤ 3) from fun q => Int32.not_lt.mpr q.1 c0)]
    exact ⟨_, rfl, rfl⟩
  · by_cases c1 : a0 ≤ 3
    · rw [if_neg c0, if_neg (show ¬ 3 < a0 from Int32.not_lt.mpr c1), if_pos (show 1 ≤ a0 ∧ a0 ≤ 3 from ⟨Int32.not_lt.mp c0, c1⟩)]
      obtain ⟨l, k1, k2, rfl⟩ := rng (a := 1) (b := 3) (by omega) (by omega) c0 c1
      have hp : 10 ^ l < 2 ^ 30 := Nat.lt_of_le_of_lt (Nat.pow_le_pow_right (by decide) k2) (by decide)
      rw [il10, power_e _ _ (by omega), cl_so, in_pred _ hp, cl_in, rt_nI (by omega) (by omega), tens_n _ (by omega)]
      by_cases c2 : a1 < 0
      · rw [if_pos c2, if_neg (fun q : 0 ≤ a1 ∧ a1 < nI (10 ^ l) => nneg_iff.mpr q.1 c2)]
        exact ⟨_, rfl, rfl⟩
      · by_cases c3 : a1 < nI (10 ^ l)
        · rw [if_neg c2, if_pos c3, if_pos (And.intro (nneg_iff.mp c2) c3)]
          obtain ⟨x, hx, rfl⟩ := nI_of c2
          obtain ⟨u1, u2⟩ := xst29 (σ := σ) (x := x) (l := l) (by omega) hx a2 l 0 (by omega) FU (by unfold FU; omega)
          obtain ⟨t1, t2⟩ := mst36 (τ := τ) (x := x) (l := l) (by omega) hx a2 l 0 (by omega) FU (by unfold FU; omega)
          rw [← il0] at u1 u2 t1 t2
          by_cases h : ∀ j, j < l → dig x j ≤ 4
          · rw [u1 h, t1 (fun j _ hj => h j hj), mstub73 hW hMP (by omega) k1 hx, xplaces hW hXP (by omega) k1 hx, xcands hW hXP (by omega) hx, cl_so, cl_so]
            by_cases e : a2 = 0
            · rw [if_pos e, if_pos e]; exact ⟨_, rfl, rfl⟩
            · rw [if_neg e, if_neg e]; exact ⟨_, rfl, rfl⟩
          · rw [u2 h, t2 (fun g => h (fun j hj => g j (by omega) hj))]
            exact ⟨_, rfl, rfl⟩
        · rw [if_neg c2, if_neg c3, if_neg (show ¬ (0 ≤ a1 ∧ a1 < nI (10 ^ l)) from fun q => c3 q.2)]
          exact ⟨_, rfl, rfl⟩
    · rw [if_neg c0, if_pos (show 3 < a0 from Int32.not_le.mp c1), if_neg (show ¬ (1 ≤ a0 ∧ a0 ≤ 3) from fun q => c1 q.2)]
      exact ⟨_, rfl, rfl⟩
-- draught
theorem sumN_ext {f g : Nat → Nat} {n : Nat} (h : ∀ i, i < n → f i = g i) : sumN f n = sumN g n := by
  induction n with
  | zero => rfl
  | succ n ih => rw [sumN, sumN, ih (fun i hi => h i (by omega)), h n (by omega)]
theorem sumN_lim {f : Nat → Nat} {N m : Nat} (h : N ≤ m) (hf : ∀ i, N ≤ i → i < m → f i = 0) : sumN f m = sumN f N := by
  obtain ⟨d, rfl⟩ : ∃ d, m = N + d := ⟨m - N, by omega⟩
  induction d with
  | zero => rfl
  | succ d ih => rw [← Nat.add_assoc, sumN, ih (by omega) (fun i h1 h2 => hf i h1 (by omega)), hf _ (by omega) (by omega), Nat.add_zero]
theorem sumN_mul (f : Nat → Nat) (k n : Nat) : sumN (fun i => f i * k) n = sumN f n * k := by
  induction n with
  | zero => simp [sumN]
  | succ n ih => rw [sumN, sumN, ih, Nat.add_mul]
theorem sumN_le {f : Nat → Nat} {n b : Nat} (h : ∀ i, i < n → f i ≤ b) : sumN f n ≤ n * b := by
  induction n with
  | zero => simp [sumN]
  | succ n ih =>
    have := ih (fun i hi => h i (by omega))
    have := h n (by omega)
    rw [sumN, Nat.succ_mul]; omega
theorem gb_g : ∀ a, a < 5 → ∀ g, g < 4 → ((if a = 4 then 0 else 2 ^ a) = 2 ^ g ↔ a = g) := by decide
theorem qp {q i n : Nat} (hq : q ≤ 10) (h : i ≤ n) : q ^ i * 10 ^ (n - i) ≤ 10 ^ n := by
  have := Nat.mul_le_mul (Nat.pow_le_pow_left hq i) (Nat.le_refl (10 ^ (n - i)))
  rw [← Nat.pow_add, show i + (n - i) = n by omega] at this
  exact this
theorem st_draught {σ τ : ES} (hR : Rel σ τ) (a0 : Int32) (a1 : Int32) (a2 : Int32) (a3 : Int32) : ∃ (r : Int32), e_X7_draught_0 a0 a1 a2 a3 σ = some r ∧ e_X8_draught a0 a1 a2 a3 τ = some r := by
  obtain ⟨hT, hX, hD, P, β, hW, hXP, hMP, hB, hXB, hMB, -⟩ := hR
  have w1 := hW.1
  have w2 := hW.2.1
  unfold e_X7_draught_0 b_X7_draught_0_0 e_X8_draught b_X8_draught_0
  rcases lt_cases a0 (n := P 0 1) (by omega) with h | ⟨c, hc, rfl⟩
  · rw [xhasC_out hXP.1.2.1 h, misC_out hMP.1.2.1 w2 h]
    exact ⟨_, rfl, rfl⟩
  · rw [xhasC_in hXP.1.2.1 hc w2, misC_in hMP.1.2.1 w2 hc]
    obtain ⟨x1, x2, x3⟩ := (XB3 hXB).1 c hc
    obtain ⟨m1, m2, m3⟩ := (MR0 hMB).1 c hc
    have b := WBc hW hB hc
    simp only [cl_so, if_neg one_ne]
    rw [in_0h a1 (h := 10) (by decide), cl_in, in_0h a2 (h := 3) (by decide), cl_in]
    by_cases c0 : a1 < 0
    · rw [if_pos c0, if_neg (fun q : 0 ≤ a1 ∧ a1 ≤ 10 => nneg_iff.mpr q.1 c0)]
      exact ⟨_, rfl, rfl⟩
    · by_cases c1 : a1 ≤ 10
      · rw [if_neg c0, if_neg (show ¬ 10 < a1 from Int32.not_lt.mpr c1), if_pos (And.intro (nneg_iff.mp c0) c1)]
        obtain ⟨d, hd, rfl⟩ := nI_of2 (M := 10) (n := 10) rfl c0 c1
        by_cases c2 : a2 < 0
        · rw [if_pos c2, if_neg (fun q : 0 ≤ a2 ∧ a2 ≤ 3 => nneg_iff.mpr q.1 c2)]
          exact ⟨_, rfl, rfl⟩
        · by_cases c3 : a2 ≤ 3
          · rw [if_neg c2, if_pos (show a2 < 4 from (le_lt (a := 3) (by omega)).mpr c3), if_pos (And.intro (nneg_iff.mp c2) c3)]
            obtain ⟨g, hg, rfl⟩ := nI_of2 (M := 3) (n := 3) rfl c2 c3
            rw [rd_nI (k := 6) (by omega) (by omega), x3, il8, nI_add, rd_nI (k := 9) (j := 8 + c) (by omega) (by omega), m3]
            by_cases cz : β (8 + c) = 0
            · rw [cz, if_pos (show nI 0 = 0 from rfl), if_pos (show nI 0 = 0 from rfl), il4, nI_add, rd_nI (k := 9) (j := 4 + c) (by omega) (by omega), m2]
              rw [show (6 : Int32) = nI 6 from il6, rt_nI (by omega) (by omega), tens_n 6 (by omega)]
              have hL : β (4 + c) ≤ 6 := b.2.1
              have hq : 10 - d ≤ 10 := by omega
              generalize hqd : 10 - d = q at *
              have eq10 : nI 10 - nI d = nI q := by rw [pk_sub hd, hqd]
              have key : ∃ j, b_X7_draught_0_64 σ FU (nI c) (nI d) (nI g) a3 0 (nI (10 ^ 6)) 0 = b_X7_draught_0_64 σ (j + 1) (nI c) (nI d) (nI g) a3 (nI (sumN (fun i => if i < β (4 + c) ∧ P 1 (β c + i) = g then q ^ (i + 1) * 10 ^ (5 - i) else 0) 6)) (nI (q ^ 6 * 10 ^ (6 - 6))) (nI 6) := by
                obtain ⟨s, j, e1, e2⟩ := loop_FU (fun n i (s : Nat) => b_X7_draught_0_64 σ n (nI c) (nI d) (nI g) a3 (nI s) (nI (q ^ i * 10 ^ (6 - i))) (nI i)) (fun i s => s = sumN (fun i => if i < β (4 + c) ∧ P 1 (β c + i) = g then q ^ (i + 1) * 10 ^ (5 - i) else 0) i) 6 (by omega) (fun n i s hi hs => ⟨sumN (fun i => if i < β (4 + c) ∧ P 1 (β c + i) = g then q ^ (i + 1) * 10 ^ (5 - i) else 0) (i + 1), rfl, by
                  subst hs
                  have h0 := qp (i := i) (n := 6) hq (by omega)
                  have ew : q ^ i * 10 ^ (6 - i) / 10 * q = q ^ (i + 1) * 10 ^ (6 - (i + 1)) := by
                    rw [show 6 - i = 5 - i + 1 by omega, Nat.pow_succ, ← Nat.mul_assoc, Nat.mul_div_cancel _ (by decide), Nat.pow_succ, Nat.mul_right_comm, show 6 - (i + 1) = 5 - i by omega]
                  show b_X7_draught_0_64 σ (n + 1) _ _ _ _ _ _ _ = b_X7_draught_0_64 σ n _ _ _ _ _ _ _
                  rw [b_X7_draught_0_64, il6, if_neg (nI_ge hi (by omega)), il10, eq10, pk_div (by omega) (by omega) (by omega), pk_mul, ew, lt_e, xgb3 hW hXP (fun c hc => (WBc hW hB hc).2.2.2.1) hXB hc (by omega), cl_so, lt_e, lt_e, lt_e, nI_1, nI_add, il1, nI_sh g (by omega), sumN]
                  have e5 : gb P β c i = 2 ^ g ↔ i < β (4 + c) ∧ P 1 (β c + i) = g := by
                    unfold gb
                    by_cases t : i < β (4 + c)
                    · rw [if_pos t, gb_g _ (by have := hW.2.2.2.1 (β c + i) (by omega); omega) g (by omega)]
                      simp [t]
                    · rw [if_neg t]
                      have := Nat.two_pow_pos g
                      exact ⟨fun h => by omega, fun h => absurd h.1 t⟩
                  have l1 : 2 ^ g < 2 ^ 31 := Nat.pow_lt_pow_right (by decide) (by omega)
                  have l2 : gb P β c i < 2 ^ 31 := by
                    unfold gb
                    split
                    · split
                      · decide
                      · rename_i t _
                        exact Nat.pow_lt_pow_right (by decide) (by have := hW.2.2.2.1 (β c + i) (by omega); omega)
                    · decide
                  simp only [nI_eq l2 l1, e5]
                  by_cases t : i < β (4 + c) ∧ P 1 (β c + i) = g
                  · rw [if_pos t, if_pos t, show 6 - (i + 1) = 5 - i by omega]
                  · rw [if_neg t, if_neg t]; rfl⟩) 0 rfl
                subst e1
                refine ⟨j, ?_⟩
                rw [← e2]
                simp only [Nat.pow_zero, Nat.one_mul, Nat.sub_zero]
                rfl
              obtain ⟨j, hj⟩ := key
              obtain ⟨s, j2, e1, e2⟩ := loop_FU (fun n i (s : Nat) => b_X8_draught_68 τ n (nI c) (nI d) (nI g) a3 (nI (β (4 + c))) (nI s) (nI i)) (fun i s => s = sumN (fun i => if P 1 (β c + i) = g then q ^ (i + 1) * 10 ^ (β (4 + c) - 1 - i) else 0) i) (β (4 + c)) (by omega) (fun n i s hi hs => ⟨sumN (fun i => if P 1 (β c + i) = g then q ^ (i + 1) * 10 ^ (β (4 + c) - 1 - i) else 0) (i + 1), rfl, by
                  subst hs
                  show b_X8_draught_68 τ (n + 1) _ _ _ _ _ _ _ = b_X8_draught_68 τ n _ _ _ _ _ _ _
                  have q4 := hW.2.2.2.1 (β c + i) (by omega)
                  rw [b_X8_draught_68, if_neg (nI_ge hi (by omega)), rd_nI (by omega) (by omega), m1, nI_add, rd_nI (by omega) (by omega), hMP.2.1 _ (by omega), il10, eq10, sub1 hi, nI_1, power_e _ _ (by omega), cl_so, power_e _ _ (by omega), cl_so, pk_mul, nI_add, sumN]
                  simp only [lt_e]
                  by_cases t : P 1 (β c + i) = g
                  · rw [if_pos (by rw [t]), if_pos t]
                  · rw [if_neg (fun x => t ((nI_eq (by omega) (by omega)).mp x)), if_neg t, il0, nI_add]⟩) 0 rfl
              subst e1
              have hs : sumN (fun i => if i < β (4 + c) ∧ P 1 (β c + i) = g then q ^ (i + 1) * 10 ^ (5 - i) else 0) 6 = sumN (fun i => if P 1 (β c + i) = g then q ^ (i + 1) * 10 ^ (β (4 + c) - 1 - i) else 0) (β (4 + c)) * 10 ^ (6 - β (4 + c)) := by
                rw [sumN_lim hL (fun i h1 h2 => by rw [if_neg (by omega)]), ← sumN_mul]
                refine sumN_ext (fun i hi => ?_)
                by_cases t : P 1 (β c + i) = g
                · rw [if_pos ⟨hi, t⟩, if_pos t, Nat.mul_assoc, ← Nat.pow_add, show β (4 + c) - 1 - i + (6 - β (4 + c)) = 5 - i by omega]
                · rw [if_neg (fun h => t h.2), if_neg t, Nat.zero_mul]
              have h6 : (10 : Nat) ^ 6 = 10 ^ β (4 + c) * 10 ^ (6 - β (4 + c)) := by rw [← Nat.pow_add, show β (4 + c) + (6 - β (4 + c)) = 6 by omega]
              have hb : sumN (fun i => if i < β (4 + c) ∧ P 1 (β c + i) = g then q ^ (i + 1) * 10 ^ (5 - i) else 0) 6 ≤ 6 * 10 ^ 6 := sumN_le (fun i hi => by
                by_cases t : i < β (4 + c) ∧ P 1 (β c + i) = g
                · rw [if_pos t, show 5 - i = 6 - (i + 1) by omega]; exact qp hq (by omega)
                · rw [if_neg t]; exact Nat.zero_le _)
              have hk := p10_pos (6 - β (4 + c))
              have hb2 : sumN (fun i => if P 1 (β c + i) = g then q ^ (i + 1) * 10 ^ (β (4 + c) - 1 - i) else 0) (β (4 + c)) ≤ 6 * 10 ^ 6 := Nat.le_trans (Nat.le_mul_of_pos_right _ hk) (by rw [← hs]; exact hb)
              have hLl := p10_lt (show β (4 + c) < 9 by omega)
              have hLp := p10_pos (β (4 + c))
              rw [hj, b_X7_draught_0_64, if_pos (show (6 : Int32) ≤ nI 6 by decide), show (6 : Int32) = nI 6 from il6, rt_nI (by omega) (by omega), tens_n 6 (by omega), frac_e (by omega) (by decide) (by decide), cl_so]
              have e3 : b_X8_draught_68 τ FU (nI c) (nI d) (nI g) a3 (nI (β (4 + c))) 0 0 = _ := e2
              rw [e3, b_X8_draught_68, if_pos (nI_le (by omega) (by omega)), il10, power_e _ _ (by omega), cl_so]
              simp only [cl_so]
              rw [hs, h6, Nat.gcd_mul_right, Nat.mul_div_mul_right _ _ hk, Nat.mul_div_mul_right _ _ hk]
              have := mfrac_e (a := sumN (fun i => if P 1 (β c + i) = g then q ^ (i + 1) * 10 ^ (β (4 + c) - 1 - i) else 0) (β (4 + c))) (b := 10 ^ β (4 + c)) (by omega) hLl hLp a3
              exact ⟨_, rfl, this⟩
            · rw [if_neg (nI_ne0 (by omega) (by omega)), if_neg (nI_ne0 (by omega) (by omega))]
              exact ⟨_, rfl, rfl⟩
          · rw [if_neg c2, if_neg (show ¬ a2 < 4 from fun q => c3 ((le_lt (a := 3) (by omega)).mp q)), if_neg (show ¬ (0 ≤ a2 ∧ a2 ≤ 3) from fun q => c3 q.2)]
            exact ⟨_, rfl, rfl⟩
      · rw [if_neg c0, if_pos (show 10 < a1 from Int32.not_le.mp c1), if_neg (show ¬ (0 ≤ a1 ∧ a1 ≤ 10) from fun q => c1 q.2)]
        exact ⟨_, rfl, rfl⟩
-- table
theorem gb_lt {P : Nat → Nat → Nat} {β : Nat → Nat} (hW : WP P) {c i : Nat} (h : β c + β (4 + c) ≤ P 0 0) : gb P β c i < 16 := by
  unfold gb
  by_cases t : i < β (4 + c)
  · rw [if_pos t]
    have := hW.2.2.2.1 (β c + i) (by omega)
    by_cases e : P 1 (β c + i) = 4
    · rw [if_pos e]; decide
    · rw [if_neg e]; exact Nat.pow_lt_pow_right (n := 4) (by decide) (by omega)
  · rw [if_neg t]; decide
theorem mgives {τ : ES} {P : Nat → Nat → Nat} {β : Nat → Nat} (hW : WP P) (hMP : MPt τ P) (hB : WB P β) (hMB : MR (τ.1 9) 0 P β) {c i : Nat} (hc : c < P 0 1) (hi : i < 100) : e_X8_gives (nI c) (nI i) τ = some (nI (gb P β c i)) := by
  have w1 := hW.1
  have w2 := hW.2.1
  obtain ⟨m1, m2, m3⟩ := (MR0 hMB).1 c hc
  have b := WBc hW hB hc
  unfold e_X8_gives b_X8_gives_0 gb
  rw [if_neg (nI_ne9 (by omega)), show (4 : Int32) + nI c = nI (4 + c) by rw [il4, nI_add], rd_nI (by omega) (by omega), m2]
  by_cases t : i < β (4 + c)
  · rw [if_neg (nI_ge t (by omega)), if_pos t, rd_nI (by omega) (by omega), m1, nI_add, rd_nI (by omega) (by omega), hMP.2.1 _ (by omega), rd_nI (by omega) (by omega), m1, nI_add, rd_nI (by omega) (by omega), hMP.2.1 _ (by omega), il1]
    exact if4 (hW.2.2.2.1 _ (by omega))
  · rw [if_pos (nI_le (by omega) (by omega)), if_neg t]; rfl
theorem cnt54 : ∀ x, x < 16 → cnt (fun i => x.testBit i) 5 = cnt (fun i => x.testBit i) 4 := by decide
def pcw (x : Nat) : Nat := cnt (fun i => x.testBit i) 4
/-- the gifts on a table for two whose inches are x and y -/
def tb (x y : Nat → Nat) : Nat := sumN (fun k => pcw (x k ||| y k)) 6
theorem xtog {σ : ES} {a1 a2 : Int32} {x y : Nat → Nat} (h1 : ∀ k, k < 6 → e_X2_giftBit_3_30 a1 (nI k) σ = some (nI (x k)) ∧ x k < 16) (h2 : ∀ k, k < 6 → e_X2_giftBit_3_30 a2 (nI k) σ = some (nI (y k)) ∧ y k < 16) : e_X7_giftsTogether_0 a1 a2 σ = some (nI (tb x y)) := by
  unfold e_X7_giftsTogether_0 b_X7_giftsTogether_0_0
  obtain ⟨s, j, e1, e2⟩ := loop_FU (fun n c (s : Nat) => b_X7_giftsTogether_0_5 σ n a1 a2 (nI s) (nI c)) (fun c s => s = sumN (fun k => pcw (x k ||| y k)) c) 6 (by omega) (fun n c s hc hs => ⟨sumN (fun k => pcw (x k ||| y k)) (c + 1), rfl, by
    subst hs
    show b_X7_giftsTogether_0_5 σ (n + 1) _ _ _ _ = b_X7_giftsTogether_0_5 σ n _ _ _ _
    have hl : x c ||| y c < 2 ^ 4 := Nat.or_lt_two_pow (h1 c hc).2 (h2 c hc).2
    rw [b_X7_giftsTogether_0_5, if_neg (show ¬ (6 : Int32) ≤ nI c from nI_ge (b := 6) hc (by omega)), (h1 c hc).1, cl_so, (h2 c hc).1, cl_so, nI_or, bc_e _ (by omega), cl_so, cnt54 _ hl, lt_e, lt_e, nI_add, nI_1]
    rfl⟩) 0 rfl
  subst e1
  have e3 : b_X7_giftsTogether_0_5 σ FU a1 a2 0 0 = _ := e2
  rw [e3, b_X7_giftsTogether_0_5, if_pos (show (6 : Int32) ≤ nI 6 by decide)]; rfl
theorem mtab {τ : ES} {a1 a2 : Int32} {x y : Nat → Nat} (h1 : ∀ k, k < 6 → e_X8_gives a1 (nI k) τ = some (nI (x k)) ∧ x k < 16) (h2 : ∀ k, k < 6 → e_X8_gives a2 (nI k) τ = some (nI (y k)) ∧ y k < 16) : e_X8_tableOf a1 a2 τ = some (nI (tb x y)) := by
  unfold e_X8_tableOf b_X8_tableOf_0
  obtain ⟨s, j, e1, e2⟩ := loop_FU (fun n c (s : Nat) => b_X8_tableOf_5 τ n a1 a2 (nI s) (nI c)) (fun c s => s = sumN (fun k => pcw (x k ||| y k)) c) 6 (by omega) (fun n c s hc hs => ⟨sumN (fun k => pcw (x k ||| y k)) (c + 1), rfl, by
    subst hs
    show b_X8_tableOf_5 τ (n + 1) _ _ _ _ = b_X8_tableOf_5 τ n _ _ _ _
    have hl : x c ||| y c < 2 ^ 4 := Nat.or_lt_two_pow (h1 c hc).2 (h2 c hc).2
    rw [b_X8_tableOf_5, if_neg (show ¬ (6 : Int32) ≤ nI c from nI_ge (b := 6) hc (by omega)), (h1 c hc).1, cl_so, (h2 c hc).1, cl_so, nI_or, ones_e _ hl, cl_so, lt_e, lt_e, nI_add, nI_1]
    rfl⟩) 0 rfl
  subst e1
  have e3 : b_X8_tableOf_5 τ FU a1 a2 0 0 = _ := e2
  rw [e3, b_X8_tableOf_5, if_pos (show (6 : Int32) ≤ nI 6 by decide)]; rfl
theorem st_table {σ τ : ES} (hR : Rel σ τ) (a0 : Int32) (a1 : Int32) : ∃ (r : Int32), e_X7_table_0 a0 a1 σ = some r ∧ e_X8_table a0 a1 τ = some r := by
  obtain ⟨hT, hX, hD, P, β, hW, hXP, hMP, hB, hXB, hMB, -⟩ := hR
  have w2 := hW.2.1
  unfold e_X7_table_0 b_X7_table_0_0 e_X8_table b_X8_table_0
  rcases lt_cases a0 (n := P 0 1) (by omega) with h | ⟨c, hc, rfl⟩
  · rw [xhasC_out hXP.1.2.1 h, misC_out hMP.1.2.1 w2 h]
    exact ⟨_, rfl, rfl⟩
  · rw [xhasC_in hXP.1.2.1 hc w2, misC_in hMP.1.2.1 w2 hc]
    rcases lt_cases a1 (n := P 0 1) (by omega) with h | ⟨o, ho, rfl⟩
    · rw [xhasC_out hXP.1.2.1 h, misC_out hMP.1.2.1 w2 h]
      exact ⟨_, rfl, rfl⟩
    · rw [xhasC_in hXP.1.2.1 ho w2, misC_in hMP.1.2.1 w2 ho]
      simp only [cl_so, if_neg one_ne]
      rw [xtog (x := gb P β c) (y := gb P β o) (fun k hk => ⟨xgb3 hW hXP (fun c hc => (WBc hW hB hc).2.2.2.1) hXB hc (by omega), gb_lt hW (WBc hW hB hc).2.2.2.1⟩) (fun k hk => ⟨xgb3 hW hXP (fun c hc => (WBc hW hB hc).2.2.2.1) hXB ho (by omega), gb_lt hW (WBc hW hB ho).2.2.2.1⟩), mtab (x := gb P β c) (y := gb P β o) (fun k hk => ⟨mgives hW hMP hB hMB hc (by omega), gb_lt hW (WBc hW hB hc).2.2.2.1⟩) (fun k hk => ⟨mgives hW hMP hB hMB ho (by omega), gb_lt hW (WBc hW hB ho).2.2.2.1⟩)]
      simp only [cl_so]
      exact both (by (repeat' split) <;> rfl)

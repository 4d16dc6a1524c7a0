def addM (P : Nat → Nat → Nat) (g : Nat) : Nat → Nat → Nat := p2 (p2 P 0 0 (P 0 0 + 1)) 1 (P 0 0) g
theorem addM_0 {P : Nat → Nat → Nat} {g : Nat} : addM P g 0 0 = P 0 0 + 1 ∧ (∀ j, j ≠ 0 → addM P g 0 j = P 0 j) ∧ (∀ j, j ≠ P 0 0 → addM P g 1 j = P 1 j) ∧ addM P g 1 (P 0 0) = g := by
  unfold addM p2
  exact ⟨by simp, fun j h => by simp [h], fun j h => by simp [h], by simp⟩
theorem rmoms {n : Nat} {T : Nat → Nat} {σ0 τ0 : ES} (hX : TX n T σ0 τ0) : ∀ m i σ τ P, i + m = n → DR σ0 τ0 σ τ P i → P 0 1 = 0 → P 0 2 = 0 → ∀ a b, m < a → m < b → Rd σ0 τ0 (b_X6_readInto_1_39_18 a (nI i) σ) (b_X8_readText_51 b τ) := by
  intro m
  induction m with
  | zero =>
    intro i σ τ P e hD e1 e2 a b ha hb
    obtain ⟨a, rfl⟩ : ∃ k, a = k + 1 := ⟨a - 1, by omega⟩
    obtain ⟨b, rfl⟩ : ∃ k, b = k + 1 := ⟨b - 1, by omega⟩
    have hn := hX.1
    obtain ⟨d1, d2, hW, hXP, hP, d5, d6⟩ := id hD
    obtain ⟨q1, q2, q3⟩ := hX.x d1
    obtain ⟨q4, q5⟩ := hX.m d2
    rw [b_X6_readInto_1_39_18, b_X8_readText_51, q1, q4, d5, if_pos (nI_le (by omega) (by omega)), if_pos (nI_le (by omega) (by omega))]
    exact rparts hX 0 i σ τ P e hD FU FU (by unfold FU; omega) (by unfold FU; omega)
  | succ m ih =>
    intro i σ τ P e hD e1 e2 a b ha hb
    obtain ⟨a, rfl⟩ : ∃ k, a = k + 1 := ⟨a - 1, by omega⟩
    obtain ⟨b, rfl⟩ : ∃ k, b = k + 1 := ⟨b - 1, by omega⟩
    have hn := hX.1
    obtain ⟨d1, d2, hW, hXP, hP, d5, d6⟩ := id hD
    obtain ⟨q1, q2, q3⟩ := hX.x d1
    obtain ⟨q4, q5⟩ := hX.m d2
    obtain ⟨⟨c1, c2, c3⟩, c4, c5, c6⟩ := XP39 hXP
    obtain ⟨⟨r1, r2, r3⟩, r4, r5, r6⟩ := hP
    have w1 := hW.1
    have ht := q3 i (by omega)
    have go := rparts hX (m + 1) i σ τ P e hD FU FU (by unfold FU; omega) (by unfold FU; omega)
    rw [b_X6_readInto_1_39_18, b_X8_readText_51, q1, q4, d5, if_neg (nI_ge (show i < n by omega) (by omega)), if_neg (nI_ge (show i < n by omega) (by omega)), xmom hn q1 q2 q3 (by omega), cl_so, if_pos (show i < n by omega), rd_nI (by omega) (by omega), rd_nI (by omega) (by omega), (q5 i (by omega)).1, mgift ht]
    simp only [cl_so]
    cases hg : mo (T i) with
    | none =>
      rw [show oI none = -9 from rfl, if_pos (show (-9 : Int32) = -9 from rfl), if_pos (show (-9 : Int32) = -9 from rfl), ite_self]
      exact go
    | some g =>
      have hg4 : g ≤ 4 := by
        unfold mo at hg
        by_cases z : T i = 45
        · rw [if_pos z] at hg; injection hg; omega
        · rw [if_neg z] at hg
          by_cases z2 : 97 ≤ T i ∧ T i ≤ 100
          · rw [if_pos z2] at hg; injection hg; omega
          · rw [if_neg z2] at hg; exact absurd hg (by simp)
      rw [show oI (some g) = nI g from rfl, if_neg (nI_ne9 (by omega)), if_neg (nI_ne9 (by omega)), c1, r1]
      by_cases h12 : P 0 0 < 12
      · rw [if_pos (show nI (P 0 0) < 12 from nI_lt (b := 12) h12 (by omega)), if_neg (show ¬ (12 : Int32) ≤ nI (P 0 0) from nI_ge (b := 12) h12 (by omega)), wr_nI (by omega) (by omega), wr_nI (by omega) (by omega)]
        have z1 : ∀ a b, (wI σ 40 a b).1 39 8 = nI (P 0 0) := fun a b => c1
        have z2 : ∀ a b, (wI τ 11 a b).1 0 16 = nI (P 0 0) := fun a b => r1
        have z3 : ∀ a b c, (wI (wI τ 11 a b) 0 16 c).1 0 14 = nI i := fun a b c => d5
        rw [z1, z2, lt_e, lt_e, lt_e, nI_1, z3, nI_1, nI_1, lt_e]
        obtain ⟨g1, g2, g3, g4⟩ := addM_0 (P := P) (g := g)
        refine ih (i + 1) _ _ (addM P g) (by omega) ⟨(d1.w (by omega)).w (by omega), ((d2.w (by omega)).o (by omega)).o (by omega), ?_, ?_, ?_, wI_eq, ?_⟩ (by rw [g2 1 (by decide)]; exact e1) (by rw [g2 2 (by decide)]; exact e2) a b (by omega) (by omega)
        · unfold WP
          rw [g1, g2 1 (by decide), g2 2 (by decide), e1, e2]
          refine ⟨by omega, by omega, by omega, fun j hj => ?_, fun j hj => by omega, fun j hj => by omega⟩
          by_cases z : j = P 0 0
          · subst z; rw [g4]; exact hg4
          · rw [g3 j z]; exact hW.2.2.2.1 j (by omega)
        · unfold XPt
          rw [g1, g2 1 (by decide), g2 2 (by decide), e1, e2]
          refine ⟨⟨wI_eq, by rw [wI_nj (by decide), wI_nk (by decide), c2, e1], by rw [wI_nj (by decide), wI_nk (by decide), c3, e2]⟩, fun j hj => ?_, fun j hj => by omega, fun j hj => by omega⟩
          show (wI (wI σ 40 _ _) 39 8 _).1 40 j = _
          rw [wI_nk (by decide)]
          by_cases z : j = P 0 0
          · subst z; rw [wI_eq, g4]
          · rw [wI_nj z, g3 j z]; exact c4 j (by omega)
        · unfold RP
          rw [g1, g2 1 (by decide), g2 2 (by decide), e1, e2]
          refine ⟨⟨by rw [wI_nj (by decide), wI_eq], by rw [wI_nj (by decide), wI_nj (by decide), wI_nk (by decide), r2, e1], by rw [wI_nj (by decide), wI_nj (by decide), wI_nk (by decide), r3, e2]⟩, fun j hj => ?_, fun j hj => by omega, fun j hj => by omega⟩
          rw [wI_nk (by decide), wI_nk (by decide)]
          by_cases z : j = P 0 0
          · subst z; rw [wI_eq, g4]
          · rw [wI_nj z, g3 j z]; exact r4 j (by omega)
        · rw [wI_nj (by decide), wI_nj (by decide), wI_nk (by decide)]; exact d6
      · rw [if_neg (show ¬ nI (P 0 0) < 12 from nI_nlt (b := 12) (by omega) (by omega)), if_pos (show (12 : Int32) ≤ nI (P 0 0) from nI_le (a := 12) (by omega) (by omega))]
        obtain ⟨k, hk⟩ : ∃ k, FU = k + 1 + 1 := ⟨99998, rfl⟩
        have n67 : ¬ T i = 67 := fun z => by rw [z, show mo 67 = none by decide] at hg; exact absurd hg (by simp)
        have n71 : ¬ T i = 71 := fun z => by rw [z, show mo 71 = none by decide] at hg; exact absurd hg (by simp)
        have er : e_X8_readPart (nI (T i)) τ = some (wI τ 0 15 (nI i)) := by
          unfold e_X8_readPart b_X8_readPart_0 b_X8_readPart_183 b_X8_readPart_299
          rw [if_neg (show ¬ nI (T i) = 67 from fun x => n67 ((nI_eq (b := 67) (by omega) (by omega)).mp x)), if_neg (show ¬ nI (T i) = 71 from fun x => n71 ((nI_eq (b := 71) (by omega) (by omega)).mp x)), d5, lt_e]
        rw [hk, b_X8_readText_132, d6, if_pos (show (-9 : Int32) = -9 from rfl), q4, d5, if_neg (nI_ge (show i < n by omega) (by omega)), rd_nI (by omega) (by omega), (q5 i (by omega)).1, er, cl_so, b_X8_readText_132, wI_eq, if_neg (nI_ne9 (by omega))]
        exact ⟨nI i, σ, _, rfl, rfl, d1, d2.o (by omega), Or.inr ⟨i, by omega, rfl⟩⟩
theorem rread {σ τ : ES} {n : Nat} {T : Nat → Nat} (hX : TX n T σ τ) : Rd σ τ (e_X6_readInto_1_39 σ) (e_X8_readText τ) := by
  unfold e_X6_readInto_1_39 b_X6_readInto_1_39_0 e_X3_clear_39 b_X3_clear_39_0 e_X8_readText b_X8_readText_0
  simp only [lt_e, cl_so]
  have hn := hX.1
  have d1 : Fx σ (wI (wI (wI σ 39 8 0) 39 9 0) 39 10 0) := (((show Fx σ σ from ⟨fun _ _ => rfl, rfl⟩).w (by omega)).w (by omega)).w (by omega)
  have d2 : Fm τ (wI (wI (wI (wI (wI τ 0 14 0) 0 15 (-9)) 0 16 0) 0 17 0) 0 18 0) := (((((show Fm τ τ from ⟨fun _ _ _ _ _ => rfl, rfl, fun _ _ => rfl⟩).o (by omega)).o (by omega)).o (by omega)).o (by omega)).o (by omega)
  obtain ⟨q1, q2, q3⟩ := hX.x d1
  obtain ⟨q4, q5⟩ := hX.m d2
  have s15 : (wI (wI (wI (wI (wI τ 0 14 0) 0 15 (-9)) 0 16 0) 0 17 0) 0 18 0).1 0 15 = -9 := by rw [wI_nj (by decide), wI_nj (by decide), wI_nj (by decide), wI_eq]
  have s16 : (wI (wI (wI (wI (wI τ 0 14 0) 0 15 (-9)) 0 16 0) 0 17 0) 0 18 0).1 0 16 = nI 0 := by rw [wI_nj (by decide), wI_nj (by decide), wI_eq, il0]
  have s17 : (wI (wI (wI (wI (wI τ 0 14 0) 0 15 (-9)) 0 16 0) 0 17 0) 0 18 0).1 0 17 = nI 0 := by rw [wI_nj (by decide), wI_eq, il0]
  have s18 : (wI (wI (wI (wI (wI τ 0 14 0) 0 15 (-9)) 0 16 0) 0 17 0) 0 18 0).1 0 18 = nI 0 := by rw [wI_eq, il0]
  have x8 : (wI (wI (wI σ 39 8 0) 39 9 0) 39 10 0).1 39 8 = nI 0 := by rw [wI_nj (by decide), wI_nj (by decide), wI_eq, il0]
  have x9 : (wI (wI (wI σ 39 8 0) 39 9 0) 39 10 0).1 39 9 = nI 0 := by rw [wI_nj (by decide), wI_eq, il0]
  have x10 : (wI (wI (wI σ 39 8 0) 39 9 0) 39 10 0).1 39 10 = nI 0 := by rw [wI_eq, il0]
  generalize wI (wI (wI (wI (wI τ 0 14 0) 0 15 (-9)) 0 16 0) 0 17 0) 0 18 0 = t at *
  generalize wI (wI (wI σ 39 8 0) 39 9 0) 39 10 0 = s at *
  have el : e_X6_letterAt_1 0 s = some (if 0 < n then nI (T 0) else -9) := xlet (p := 0) hn q1 q2 (by omega)
  rw [el, cl_so, q4]
  by_cases c : n = 0
  · subst c
    rw [if_neg (show ¬ 0 < 0 by omega), if_neg (show ¬ (-9 : Int32) = 69 by decide), if_pos (show nI 0 = 0 from rfl)]
    exact ⟨0, s, t, rfl, rfl, d1, d2, Or.inr ⟨0, by omega, rfl⟩⟩
  · have er : (rd t 10 64 (0 : Int32) fun x8 => if x8 = (69 : Int32) then b_X8_readText_51 FU (wI t 0 14 1) else (some ((0 : Int32), t))) = if nI (T 0) = (69 : Int32) then b_X8_readText_51 FU (wI t 0 14 1) else (some ((0 : Int32), t)) := by
      rw [show (0 : Int32) = nI 0 from il0, rd_nI (by omega) (by omega), (q5 0 (by omega)).1]
    rw [if_pos (show 0 < n by omega), if_neg (nI_ne0 (by omega) (by omega)), er]
    by_cases z : nI (T 0) = (69 : Int32)
    · rw [if_pos z, if_pos z]
      refine rmoms hX (n - 1) 1 s (wI t 0 14 1) (fun _ _ => 0) (by omega) ⟨d1, d2.o (by omega), ⟨Nat.zero_le _, Nat.zero_le _, Nat.zero_le _, fun j hj => absurd hj (Nat.not_lt_zero _), fun j hj => absurd hj (Nat.not_lt_zero _), fun j hj => absurd hj (Nat.not_lt_zero _)⟩, ⟨⟨x8, x9, x10⟩, fun j hj => absurd hj (Nat.not_lt_zero _), fun j hj => absurd hj (Nat.not_lt_zero _), fun j hj => absurd hj (Nat.not_lt_zero _)⟩, ⟨⟨?_, ?_, ?_⟩, fun j hj => absurd hj (Nat.not_lt_zero _), fun j hj => absurd hj (Nat.not_lt_zero _), fun j hj => absurd hj (Nat.not_lt_zero _)⟩, by rw [wI_eq, il1], by rw [wI_nj (by decide)]; exact s15⟩ rfl rfl FU FU (by unfold FU; omega) (by unfold FU; omega)
      · rw [wI_nj (by decide)]; exact s16
      · rw [wI_nj (by decide)]; exact s17
      · rw [wI_nj (by decide)]; exact s18
    · rw [if_neg z, if_neg z]
      exact ⟨0, s, t, rfl, rfl, d1, d2, Or.inr ⟨0, by omega, rfl⟩⟩
theorem Rel_read {σ τ σ' τ' : ES} (hR : Rel σ τ) (f1 : Fx σ σ') (f2 : Fm τ τ') : Rel σ' τ' := by
  obtain ⟨hT, hX, hD, P, β, hM⟩ := hR
  have g : ∀ k, k ≠ 0 ∧ k ≠ 11 ∧ k ≠ 12 ∧ k ≠ 13 → τ'.1 k = τ.1 k := fun k h => f2.1 k h.1 h.2.1 h.2.2.1 h.2.2.2
  exact ⟨hT.c (f1.1 1 (by omega)) (f1.1 2 (by omega)) (f2.2.2 13 (by omega)) (g 10 (by omega)), hX.c (f1.1 24 (by omega)) (f1.1 25 (by omega)) (f2.2.2 28 (by omega)) (g 18 (by omega)), hD.c (by rw [f1.2]) (by rw [f2.2.1]), P, β, hM.c (fun k hk => f1.1 k (by omega)) (fun j hj => f2.2.2 j (by omega)) (fun k hk => g k (by omega))⟩
theorem st_fault {σ τ : ES} (hR : Rel σ τ)  : ∃ (r : Int32) (σ' : ES) (τ' : ES), e_X7_fault_0  σ = some (r, σ') ∧ e_X8_fault  τ = some (r, τ') ∧ Rel σ' τ' := by
  obtain ⟨⟨n, T, hn, h1, h2, h3⟩, -⟩ := id hR
  obtain ⟨r, σ', τ', e1, e2, f1, f2, -⟩ := rread (σ := σ) (τ := τ) (n := n) (T := T) ⟨hn, h1, h2, h3⟩
  unfold e_X7_fault_0 b_X7_fault_0_0 e_X8_fault b_X8_fault_0
  rw [e1, e2]
  exact ⟨r, σ', τ', rfl, rfl, Rel_read hR f1 f2⟩

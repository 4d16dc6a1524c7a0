theorem mo_g {n : Nat} {T : Nat → Nat} {p : Nat} : (okf n T p 0 3 97 = true → (if p < n then mo (T p) else none) = some (T p - 97)) ∧ (¬ okf n T p 0 3 97 = true → (if p < n then mo (T p) else none) = none ∨ (if p < n then mo (T p) else none) = some 4) := by
  unfold okf mo
  simp only [decide_eq_true_eq]
  by_cases h : p < n
  · rw [if_pos h]
    by_cases c : T p = 45
    · rw [if_pos c]
      exact ⟨fun q => by omega, fun _ => Or.inr rfl⟩
    · rw [if_neg c]
      by_cases d : 97 ≤ T p ∧ T p ≤ 100
      · rw [if_pos d]
        exact ⟨fun _ => rfl, fun q => absurd (show p < n ∧ 0 + 97 ≤ T p ∧ T p ≤ 3 + 97 by omega) q⟩
      · rw [if_neg d]
        exact ⟨fun q => absurd (show 97 ≤ T p ∧ T p ≤ 100 by omega) d, fun _ => Or.inl rfl⟩
  · rw [if_neg h]
    exact ⟨fun q => absurd q.1 h, fun _ => Or.inl rfl⟩
theorem rguest {n : Nat} {T : Nat → Nat} {σ0 τ0 σ τ : ES} {P : Nat → Nat → Nat} {i : Nat} (hX : TX n T σ0 τ0) (hD : DR σ0 τ0 σ τ P i) (hi : i < n) (hc : P 0 2 < 4) : Pt n σ0 τ0 i (e_X6_readGuest_1_39 (nI i) σ) (e_X8_readPart 71 τ) := by
  obtain ⟨v1, f1, p1, v2, f2, p2', v3, f3, p3, v4, f4, p4, τ', h1, h2, h3, h4, e0, m1, m2, m3, m4⟩ := mguest hX hD hi hc
  obtain ⟨d1, d2, hW, hXP, hP, d5, d6⟩ := hD
  have hn := hX.1
  have w1 := hW.1
  obtain ⟨q1, q2, q3⟩ := hX.x d1
  obtain ⟨⟨c1, c2, c3⟩, c4, c5, c6⟩ := XP39 hXP
  unfold e_X6_readGuest_1_39 b_X6_readGuest_1_39_0
  have fail : ∀ f, f < 100 → f4 = some f → Pt n σ0 τ0 i (some (nI f, σ)) (e_X8_readPart 71 τ) := fun f hf hf4 => ⟨nI f, σ, τ', rfl, e0, d1, m1, Or.inr ⟨f, hf, rfl, by rw [m4, hf4]; rfl⟩⟩
  have ad : ∀ k, nI i + nI k = nI (i + k) := fun k => nI_add i k
  simp only [il0, il2, il3, il4, il6, il1, ad]
  rw [xmom hn q1 q2 q3 (by omega), cl_so]
  obtain ⟨g1, g2⟩ := mo_g (n := n) (T := T) (p := i + 1)
  by_cases A1 : okf n T (i + 1) 0 3 97 = true
  · rw [g1 A1, show oI (some (T (i + 1) - 97)) = nI (T (i + 1) - 97) from rfl]
    rw [fgr_ok A1] at h1
    obtain ⟨j1, j2, j3⟩ := okf_i A1
    injection h1 with h1a h1b
    injection h1b with h1b h1c
    subst h1b; subst h1c
    rw [h1a] at j2 j3 ⊢
    rw [if_neg (nI_ne9 (by omega)), if_neg (fun x => by have := (nI_eq (by omega) (by omega)).mp x; omega), xfig hn q1 q2 q3 (by omega) (by omega) (by omega), cl_so, show min 6 9 = 6 from rfl]
    by_cases A2 : okf n T (i + 1 + 1) 1 6 48 = true
    · rw [if_pos A2]
      rw [fgr_ok A2] at h2
      obtain ⟨j4, j5, j6⟩ := okf_i A2
      injection h2 with h2a h2b
      injection h2b with h2b h2c
      subst h2b; subst h2c
      have h2a' : T (i + 2) - 48 = v2 := h2a
      rw [h2a] at j5 j6
      rw [h2a', if_neg (nI_ne9 (by omega)), show e_X6_figureAt_1 (nI (i + 3)) (nI 0) 9 σ = some (if okf n T (i + 3) 0 9 48 then nI (T (i + 3) - 48) else -9) from xfig (hi := 9) hn q1 q2 q3 (by omega) (by omega) (by omega), cl_so]
      by_cases A3 : okf n T (i + 1 + 1 + 1) 0 9 48 = true
      · rw [if_pos A3]
        rw [fgr_ok A3] at h3
        obtain ⟨j7, j8, j9⟩ := okf_i A3
        injection h3 with h3a h3b
        injection h3b with h3b h3c
        subst h3b; subst h3c
        have h3a' : T (i + 3) - 48 = v3 := h3a
        rw [h3a] at j8 j9
        rw [h3a', if_neg (nI_ne9 (by omega)), show e_X6_figureAt_1 (nI (i + 4)) (nI v3) 9 σ = some (if okf n T (i + 4) v3 9 48 then nI (T (i + 4) - 48) else -9) from xfig (hi := 9) hn q1 q2 q3 (by omega) (by omega) (by omega), cl_so]
        by_cases A4 : okf n T (i + 1 + 1 + 1 + 1) v3 9 48 = true
        · rw [if_pos A4]
          rw [fgr_ok A4] at h4
          obtain ⟨j10, j11, j12⟩ := okf_i A4
          injection h4 with h4a h4b
          injection h4b with h4b h4c
          subst h4b; subst h4c
          have h4a' : T (i + 4) - 48 = v4 := h4a
          rw [h4a] at j11 j12
          rw [h4a', if_neg (nI_ne9 (by omega)), c3, wr_nI (by omega) (by omega)]
          have z1 : ∀ a b, (wI σ 44 a b).1 39 10 = nI (P 0 2) := fun a b => c3
          have z2 : ∀ a b c d, (wI (wI σ 44 a b) 45 c d).1 39 10 = nI (P 0 2) := fun a b c d => c3
          have z3 : ∀ a b c d e f, (wI (wI (wI σ 44 a b) 45 c d) 46 e f).1 39 10 = nI (P 0 2) := fun a b c d e f => c3
          have z4 : ∀ a b c d e f g h, (wI (wI (wI (wI σ 44 a b) 45 c d) 46 e f) 47 g h).1 39 10 = nI (P 0 2) := fun a b c d e f g h => c3
          rw [z1, wr_nI (by omega) (by omega), z2, wr_nI (by omega) (by omega), z3, wr_nI (by omega) (by omega), z4, lt_e, nI_add]
          obtain ⟨g1, g2, g3, g4, g5, g6, g7, g8⟩ := addG_0 (P := P) (a := v1) (b := v2) (c := v3) (d := v4)
          have f0 : Fx σ0 (wI (wI (wI (wI (wI σ 44 (P 0 2) (nI v1)) 45 (P 0 2) (nI v2)) 46 (P 0 2) (nI v3)) 47 (P 0 2) (nI v4)) 39 10 (nI (P 0 2 + 1))) := ((((d1.w (by omega)).w (by omega)).w (by omega)).w (by omega)).w (by omega)
          have kk : ∀ q, q < 44 → q ≠ 39 → (wI (wI (wI (wI (wI σ 44 (P 0 2) (nI v1)) 45 (P 0 2) (nI v2)) 46 (P 0 2) (nI v3)) 47 (P 0 2) (nI v4)) 39 10 (nI (P 0 2 + 1))).1 q = σ.1 q := fun q hq hq2 => by rw [wI_nk hq2, wI_nk (by omega), wI_nk (by omega), wI_nk (by omega), wI_nk (by omega)]
          refine ⟨-9, _, τ', rfl, e0, f0, m1, Or.inl ⟨rfl, by omega, addG P v1 v2 v3 v4, f0, m1, addG_W hW hc (by omega) (by omega) (by omega) (by omega) (by omega), ⟨⟨?_, ?_, ?_⟩, fun j hj => ?_, fun c hcc => ?_, fun g hg => ?_⟩, m2, m3, m4⟩⟩
          · rw [wI_nj (by decide), wI_nk (by decide), wI_nk (by decide), wI_nk (by decide), wI_nk (by decide), g2 0 (by decide)]; exact c1
          · rw [wI_nj (by decide), wI_nk (by decide), wI_nk (by decide), wI_nk (by decide), wI_nk (by decide), g2 1 (by decide)]; exact c2
          · rw [wI_eq, g1]
          · rw [g2 0 (by decide)] at hj
            rw [kk 40 (by omega) (by omega), g4 1 j (by decide) (by decide)]; exact c4 j hj
          · rw [g2 1 (by decide)] at hcc
            rw [kk 41 (by omega) (by omega), kk 42 (by omega) (by omega), kk 43 (by omega) (by omega), g4 2 c (by decide) (by decide), g4 3 c (by decide) (by decide), g4 4 c (by decide) (by decide)]; exact c5 c hcc
          · rw [g1] at hg
            show (wI (wI (wI (wI (wI σ 44 _ _) 45 _ _) 46 _ _) 47 _ _) 39 10 _).1 44 g = _ ∧ (wI (wI (wI (wI (wI σ 44 _ _) 45 _ _) 46 _ _) 47 _ _) 39 10 _).1 45 g = _ ∧ (wI (wI (wI (wI (wI σ 44 _ _) 45 _ _) 46 _ _) 47 _ _) 39 10 _).1 46 g = _ ∧ (wI (wI (wI (wI (wI σ 44 _ _) 45 _ _) 46 _ _) 47 _ _) 39 10 _).1 47 g = _
            rw [wI_nk (show 44 ≠ 39 by decide), wI_nk (show 45 ≠ 39 by decide), wI_nk (show 46 ≠ 39 by decide), wI_nk (show 47 ≠ 39 by decide), wI_nk (show 44 ≠ 47 by decide), wI_nk (show 45 ≠ 47 by decide), wI_nk (show 46 ≠ 47 by decide), wI_nk (show 44 ≠ 46 by decide), wI_nk (show 45 ≠ 46 by decide), wI_nk (show 44 ≠ 45 by decide)]
            by_cases e : g = P 0 2
            · subst e
              rw [wI_eq, wI_eq, wI_eq, wI_eq, g5, g6, g7, g8]; exact ⟨rfl, rfl, rfl, rfl⟩
            · rw [wI_nj e, wI_nj e, wI_nj e, wI_nj e, wI_nk (show 45 ≠ 44 by decide), wI_nk (show 46 ≠ 45 by decide), wI_nk (show 46 ≠ 44 by decide), wI_nk (show 47 ≠ 46 by decide), wI_nk (show 47 ≠ 45 by decide), wI_nk (show 47 ≠ 44 by decide), g3 5 g (by decide) e, g3 6 g (by decide) e, g3 7 g (by decide) e, g3 8 g (by decide) e]; exact c6 g (by omega)
        · rw [if_neg A4, if_pos rfl]
          rw [fgr_no A4] at h4
          exact fail (i + 4) (by omega) (by injection h4 with _ h; injection h with h _; exact h.symm)
      · rw [if_neg A3, if_pos rfl]
        rw [fgr_no A3] at h3
        injection h3 with _ h3b
        injection h3b with h3b _
        subst h3b
        exact fail (i + 3) (by omega) (fgr_s h4)
    · rw [if_neg A2, if_pos rfl]
      rw [fgr_no A2] at h2
      injection h2 with _ h2b
      injection h2b with h2b _
      subst h2b
      have e3 := fgr_s h3
      dsimp only at e3
      subst e3
      exact fail (i + 2) (by omega) (fgr_s h4)
  · rw [fgr_no A1] at h1
    injection h1 with _ h1b
    injection h1b with h1b _
    subst h1b
    have e2 := fgr_s h2
    dsimp only at e2
    subst e2
    have e3 := fgr_s h3
    dsimp only at e3
    subst e3
    have F := fail (i + 1) (by omega) (fgr_s h4)
    rcases g2 A1 with z | z
    · rw [z, if_pos (show oI none = -9 from rfl)]; exact F
    · rw [z, show oI (some 4) = nI 4 from rfl, if_neg (nI_ne9 (by omega)), if_pos rfl]; exact F
theorem rpart {n : Nat} {T : Nat → Nat} {σ0 τ0 σ τ : ES} {P : Nat → Nat → Nat} {i : Nat} (hX : TX n T σ0 τ0) (hD : DR σ0 τ0 σ τ P i) (hi : i < n) : Pt n σ0 τ0 i (e_X6_readPart_1_39 (nI i) σ) (e_X8_readPart (nI (T i)) τ) := by
  have hD' := hD
  obtain ⟨d1, d2, hW, hXP, hP, d5, d6⟩ := hD'
  have hn := hX.1
  obtain ⟨q1, q2, q3⟩ := hX.x d1
  obtain ⟨⟨c1, c2, c3⟩, -⟩ := XP39 hXP
  obtain ⟨⟨r1, r2, r3⟩, -⟩ := hP
  have w1 := hW.1
  have w2 := hW.2.1
  have w3 := hW.2.2.1
  have ht := q3 i hi
  have fail : Pt n σ0 τ0 i (some (nI i, σ)) (b_X8_readPart_299 τ) := by
    unfold b_X8_readPart_299
    rw [d5]
    exact ⟨nI i, σ, _, rfl, rfl, d1, d2.o (by omega), Or.inr ⟨i, by omega, rfl, wI_eq⟩⟩
  have csI : ∀ x : Option (Int32 × ES), (cs x fun r5 σ4 => some (r5, σ4)) = x := fun x => by
    cases x with
    | none => rfl
    | some p => rfl
  unfold e_X6_readPart_1_39 b_X6_readPart_1_39_0 b_X6_readPart_1_39_34
  rw [xlet hn q1 q2 (by omega), if_pos hi, cl_so, csI, csI]
  by_cases e1 : T i = 67
  · rw [e1, if_pos (show nI 67 = 67 from rfl), if_neg (show ¬ nI 67 = 71 by decide)]
    by_cases k1 : 4 ≤ P 0 1
    · rw [c2, if_pos (show (4 : Int32) ≤ nI (P 0 1) from nI_le (a := 4) k1 (by omega))]
      have : e_X8_readPart (nI 67) τ = b_X8_readPart_299 τ := by
        unfold e_X8_readPart b_X8_readPart_0 b_X8_readPart_183
        rw [if_pos (show nI 67 = 67 from rfl), r2, if_pos (show (4 : Int32) ≤ nI (P 0 1) from nI_le (a := 4) k1 (by omega)), if_neg (show ¬ nI 67 = 71 by decide)]
      rw [this]; exact fail
    · rw [c2, if_neg (show ¬ (4 : Int32) ≤ nI (P 0 1) from nI_ge (b := 4) (by omega) (by omega)), c1]
      by_cases k2 : P 0 0 = 0
      · rw [k2, if_pos (show nI 0 ≤ 0 by decide)]
        have : e_X8_readPart (nI 67) τ = b_X8_readPart_299 τ := by
          unfold e_X8_readPart b_X8_readPart_0 b_X8_readPart_183
          rw [if_pos (show nI 67 = 67 from rfl), r2, if_neg (show ¬ (4 : Int32) ≤ nI (P 0 1) from nI_ge (b := 4) (by omega) (by omega)), r1, k2, if_pos (show nI 0 ≤ 0 by decide), if_neg (show ¬ nI 67 = 71 by decide)]
        rw [this]; exact fail
      · rw [if_neg (nI_nle (by omega) (by omega))]
        exact rcand hX hD hi (by omega) (by omega)
  · rw [if_neg (show ¬ nI (T i) = 67 from fun x => e1 ((nI_eq (b := 67) (by omega) (by omega)).mp x))]
    by_cases e2 : T i = 71
    · rw [e2, if_pos (show nI 71 = 71 from rfl), c3]
      by_cases k1 : 4 ≤ P 0 2
      · rw [if_pos (show (4 : Int32) ≤ nI (P 0 2) from nI_le (a := 4) k1 (by omega))]
        have : e_X8_readPart (nI 71) τ = b_X8_readPart_299 τ := by
          unfold e_X8_readPart b_X8_readPart_0 b_X8_readPart_183
          rw [if_neg (show ¬ nI 71 = 67 by decide), if_pos (show nI 71 = 71 from rfl), r3, if_pos (show (4 : Int32) ≤ nI (P 0 2) from nI_le (a := 4) k1 (by omega))]
        rw [this]; exact fail
      · rw [if_neg (show ¬ (4 : Int32) ≤ nI (P 0 2) from nI_ge (b := 4) (by omega) (by omega))]
        exact rguest hX hD hi (by omega)
    · rw [if_neg (show ¬ nI (T i) = 71 from fun x => e2 ((nI_eq (b := 71) (by omega) (by omega)).mp x))]
      have : e_X8_readPart (nI (T i)) τ = b_X8_readPart_299 τ := by
        unfold e_X8_readPart b_X8_readPart_0 b_X8_readPart_183
        rw [if_neg (show ¬ nI (T i) = 67 from fun x => e1 ((nI_eq (b := 67) (by omega) (by omega)).mp x)), if_neg (show ¬ nI (T i) = 71 from fun x => e2 ((nI_eq (b := 71) (by omega) (by omega)).mp x))]
      rw [this]; exact fail
/-- what reading all comes to -/
def Rd (σ0 τ0 : ES) (x y : Option (Int32 × ES)) : Prop := ∃ r σ' τ', x = some (r, σ') ∧ y = some (r, τ') ∧ Fx σ0 σ' ∧ Fm τ0 τ' ∧ ((r = -9 ∧ ∃ P, WP P ∧ XPt σ' 39 P ∧ RP τ' P) ∨ ∃ f, f < 100 ∧ r = nI f)
theorem rparts {n : Nat} {T : Nat → Nat} {σ0 τ0 : ES} (hX : TX n T σ0 τ0) : ∀ m i σ τ P, i + m = n → DR σ0 τ0 σ τ P i → ∀ a b, m < a → m + 1 < b → Rd σ0 τ0 (b_X6_readInto_1_39_77 a (nI i) σ) (b_X8_readText_132 b τ) := by
  intro m
  induction m using Nat.strongRecOn with
  | _ m ih =>
    intro i σ τ P e hD a b ha hb
    obtain ⟨a, rfl⟩ : ∃ k, a = k + 1 := ⟨a - 1, by omega⟩
    obtain ⟨b, rfl⟩ : ∃ k, b = k + 1 + 1 := ⟨b - 2, by omega⟩
    have hn := hX.1
    obtain ⟨d1, d2, hW, hXP, hP, d5, d6⟩ := id hD
    obtain ⟨q1, q2, q3⟩ := hX.x d1
    obtain ⟨q4, q5⟩ := hX.m d2
    rw [b_X6_readInto_1_39_77, b_X8_readText_132, q1, d6, if_pos (show (-9 : Int32) = -9 from rfl), q4, d5]
    by_cases c : i < n
    · rw [if_neg (nI_ge c (by omega)), if_neg (nI_ge c (by omega)), rd_nI (by omega) (by omega), (q5 i c).1]
      obtain ⟨r, σ', τ', g1, g2, g3, g4, g5⟩ := rpart hX hD c
      rw [g1, g2, cs_so, cl_so]
      rcases g5 with ⟨z1, z2, P', z3⟩ | ⟨f, z1, z2, z3⟩
      · rw [z1, if_pos (show (-9 : Int32) = -9 from rfl), lt_e, il5, nI_add]
        exact ih (m - 5) (by omega) (i + 5) σ' τ' P' (by omega) z3 a (b + 1) (by omega) (by omega)
      · rw [z2, if_neg (nI_ne9 (by omega)), b_X8_readText_132, z3, if_neg (nI_ne9 (by omega))]
        exact ⟨nI f, σ', τ', rfl, rfl, g3, g4, Or.inr ⟨f, z1, rfl⟩⟩
    · rw [if_pos (nI_le (by omega) (by omega)), if_pos (nI_le (by omega) (by omega))]
      exact ⟨-9, σ, τ, rfl, rfl, d1, d2, Or.inl ⟨rfl, P, hW, hXP, hP⟩⟩

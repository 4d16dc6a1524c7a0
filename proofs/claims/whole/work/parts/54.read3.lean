theorem mguest {n : Nat} {T : Nat → Nat} {σ0 τ0 σ τ : ES} {P : Nat → Nat → Nat} {i : Nat} (hX : TX n T σ0 τ0) (hD : DR σ0 τ0 σ τ P i) (hi : i < n) (hc : P 0 2 < 4) : ∃ v1 f1 p1 v2 f2 p2' v3 f3 p3 v4 f4 p4 τ', fgr n T none (i + 1) 0 3 97 = (v1, f1, p1) ∧ fgr n T f1 p1 1 6 48 = (v2, f2, p2') ∧ fgr n T f2 p2' 0 9 48 = (v3, f3, p3) ∧ fgr n T f3 p3 v3 9 48 = (v4, f4, p4) ∧ e_X8_readPart 71 τ = some τ' ∧ Fm τ0 τ' ∧ RP τ' (addG P v1 v2 v3 v4) ∧ τ'.1 0 14 = nI p4 ∧ τ'.1 0 15 = oI f4 := by
  obtain ⟨d1, d2, hW, -, hP, d5, d6⟩ := hD
  obtain ⟨⟨r1, r2, r3⟩, r4, r5, r6⟩ := hP
  have w1 := hW.1
  have w2 := hW.2.1
  have hn := hX.1
  unfold e_X8_readPart b_X8_readPart_0 b_X8_readPart_183
  rw [if_neg (show ¬ (71 : Int32) = 67 by decide), if_pos rfl, r3, if_neg (show ¬ (4 : Int32) ≤ nI (P 0 2) from nI_ge (b := 4) (by omega) (by omega)), d5, lt_e, nI_1, lt_e]
  have m1 : Fm τ0 (wI τ 0 14 (nI (i + 1))) := d2.o (by omega)
  obtain ⟨q1, q2⟩ := hX.m m1
  have k18 : (wI τ 0 14 (nI (i + 1))).1 0 18 = nI (P 0 2) := by rw [wI_nj (by decide)]; exact r3
  obtain ⟨v1, f1, p1, t1, h1, a1, a2, a3, a4, -, y1, y2⟩ := mfig2 (lo := 0) (hi := 3) (b := 97) (fs := none) hn q1 q2 wI_eq (by omega) (by rw [wI_nj (by decide)]; exact d6) (fun f h => absurd h (by simp)) (by omega) (by omega) (by omega)
  have x5 : (4 : Int32) * nI (P 0 2) = nI (4 * P 0 2) := by rw [il4, pk_mul]
  simp only [il0, il3, il97, il48, il6, il9, il1, il2]
  rw [k18, x5, a1, cs_so, wr_nI (by omega) (by omega)]
  have m2 : Fm τ0 (wI t1 13 (4 * P 0 2) (nI v1)) := (m1.z a2).w (by omega)
  obtain ⟨q1, q2⟩ := hX.m m2
  obtain ⟨v2, f2, p2', t2, h2, g1, g2, g3, g4, -, z1, z2⟩ := mfig2 (lo := 1) (hi := 6) (b := 48) (fs := f1) hn q1 q2 (by rw [wI_nk (by decide)]; exact a3) (by omega) (by rw [wI_nk (by decide)]; exact a4) y2 (by omega) (by omega) (by omega)
  rw [g1, cs_so, nI_add, wr_nI (by omega) (by omega)]
  have m3 : Fm τ0 (wI t2 13 (4 * P 0 2 + 1) (nI v2)) := (m2.z g2).w (by omega)
  obtain ⟨q1, q2⟩ := hX.m m3
  obtain ⟨v3, f3, p3, t3, h3, u1, u2, u3, u4, ⟨e1, e2⟩, s1, s2⟩ := mfig2 (lo := 0) (hi := 9) (b := 48) (fs := f2) hn q1 q2 (by rw [wI_nk (by decide)]; exact g3) (by omega) (by rw [wI_nk (by decide)]; exact g4) z2 (by omega) (by omega) (by omega)
  rw [u1, cs_so, nI_add, wr_nI (by omega) (by omega), rd_nI (by omega) (by omega), wI_eq]
  have m4 : Fm τ0 (wI t3 13 (4 * P 0 2 + 2) (nI v3)) := (m3.z u2).w (by omega)
  obtain ⟨q1, q2⟩ := hX.m m4
  obtain ⟨v4, f4, p4, t4, h4, o1, o2, o3, o4, -, -, -⟩ := mfig2 (lo := v3) (hi := 9) (b := 48) (fs := f3) hn q1 q2 (by rw [wI_nk (by decide)]; exact u3) (by omega) (by rw [wI_nk (by decide)]; exact u4) s2 (by omega) (by omega) (by omega)
  rw [o1, cs_so, nI_add, wr_nI (by omega) (by omega)]
  have k : ∀ j, j ≠ 14 → j ≠ 15 → (wI t4 13 (4 * P 0 2 + 3) (nI v4)).1 0 j = τ.1 0 j := fun j h1 h2 => by
    rw [wI_nk (by decide), o2.2.2 j h1 h2, wI_nk (by decide), u2.2.2 j h1 h2, wI_nk (by decide), g2.2.2 j h1 h2, wI_nk (by decide), a2.2.2 j h1 h2, wI_nj h1]
  have kk : ∀ q, q ≠ 0 → q ≠ 13 → (wI t4 13 (4 * P 0 2 + 3) (nI v4)).1 q = τ.1 q := fun q h1 h2 => by
    rw [wI_nk h2, o2.1 q h1, wI_nk h2, u2.1 q h1, wI_nk h2, g2.1 q h1, wI_nk h2, a2.1 q h1, wI_nk h1]
  rw [lt_e, k 18 (by decide) (by decide), r3, nI_add]
  obtain ⟨c1, c2, c3, c4, c5, c6, c7, c8⟩ := addG_0 (P := P) (a := v1) (b := v2) (c := v3) (d := v4)
  refine ⟨v1, f1, p1, v2, f2, p2', v3, f3, p3, v4, f4, p4, _, h1, h2, h3, h4, rfl, ((m4.z o2).w (by omega)).o (by omega), ⟨⟨?_, ?_, ?_⟩, fun j hj => ?_, fun c hc => ?_, fun g hg => ?_⟩, ?_, ?_⟩
  · rw [wI_nj (by decide), k 16 (by decide) (by decide), c2 0 (by decide)]; exact r1
  · rw [wI_nj (by decide), k 17 (by decide) (by decide), c2 1 (by decide)]; exact r2
  · rw [wI_eq, c1]
  · rw [c2 0 (by decide)] at hj
    rw [wI_nk (by decide), kk 11 (by decide) (by decide), c4 1 j (by decide) (by decide)]; exact r4 j hj
  · rw [c2 1 (by decide)] at hc
    rw [wI_nk (by decide), kk 12 (by decide) (by decide), c4 2 c (by decide) (by decide), c4 3 c (by decide) (by decide), c4 4 c (by decide) (by decide)]; exact r5 c hc
  · rw [c1] at hg
    rw [wI_nk (by decide)]
    by_cases e : g = P 0 2
    · subst e
      rw [c5, c6, c7, c8, wI_nj (by omega), wI_nj (by omega), wI_nj (by omega), wI_eq, o2.1 13 (by decide), wI_nj (by omega), wI_nj (by omega), wI_eq, u2.1 13 (by decide), wI_nj (by omega), wI_eq, g2.1 13 (by decide), wI_eq]
      exact ⟨rfl, rfl, rfl, rfl⟩
    · rw [c3 5 g (by decide) e, c3 6 g (by decide) e, c3 7 g (by decide) e, c3 8 g (by decide) e, wI_nj (by omega), wI_nj (by omega), wI_nj (by omega), wI_nj (by omega), o2.1 13 (by decide), wI_nj (by omega), wI_nj (by omega), wI_nj (by omega), wI_nj (by omega), u2.1 13 (by decide), wI_nj (by omega), wI_nj (by omega), wI_nj (by omega), wI_nj (by omega), g2.1 13 (by decide), wI_nj (by omega), wI_nj (by omega), wI_nj (by omega), wI_nj (by omega), a2.1 13 (by decide), wI_nk (by decide)]
      exact r6 g (by omega)
  · rw [wI_nj (by decide), wI_nk (by decide)]; exact o3
  · rw [wI_nj (by decide), wI_nk (by decide)]; exact o4
theorem fgr_s {n : Nat} {T : Nat → Nat} {f p lo hi b : Nat} {r : Nat × Option Nat × Nat} (h : fgr n T (some f) p lo hi b = r) : r.2.1 = some f := by rw [← h]; rfl
theorem fgr_ok {n : Nat} {T : Nat → Nat} {p lo hi b : Nat} (h : okf n T p lo hi b = true) : fgr n T none p lo hi b = (T p - b, none, p + 1) := by unfold fgr; simp [h]
theorem fgr_no {n : Nat} {T : Nat → Nat} {p lo hi b : Nat} (h : ¬ okf n T p lo hi b = true) : fgr n T none p lo hi b = (lo, some p, p) := by unfold fgr; simp [h]
theorem okf_i {n : Nat} {T : Nat → Nat} {p lo hi b : Nat} (h : okf n T p lo hi b = true) : p < n ∧ lo ≤ T p - b ∧ T p - b ≤ hi := by
  unfold okf at h
  simp at h
  omega
/-- what reading a part comes to -/
def Pt (n : Nat) (σ0 τ0 : ES) (i : Nat) (x : Option (Int32 × ES)) (y : Option ES) : Prop := ∃ r σ' τ', x = some (r, σ') ∧ y = some τ' ∧ Fx σ0 σ' ∧ Fm τ0 τ' ∧ ((r = -9 ∧ i + 5 ≤ n ∧ ∃ P', DR σ0 τ0 σ' τ' P' (i + 5)) ∨ ∃ f, f < 100 ∧ r = nI f ∧ τ'.1 0 15 = nI f)
theorem rcand {n : Nat} {T : Nat → Nat} {σ0 τ0 σ τ : ES} {P : Nat → Nat → Nat} {i : Nat} (hX : TX n T σ0 τ0) (hD : DR σ0 τ0 σ τ P i) (hi : i < n) (hc : P 0 1 < 4) (hm : 0 < P 0 0) : Pt n σ0 τ0 i (e_X6_readCandle_1_39 (nI i) σ) (e_X8_readPart 67 τ) := by
  obtain ⟨v1, f1, p1, v2, f2, p2', v3, f3, p3, v4, f4, p4, τ', h1, h2, h3, h4, e0, m1, m2, m3, m4⟩ := mcand hX hD hi hc hm
  obtain ⟨d1, d2, hW, hXP, hP, d5, d6⟩ := hD
  have hn := hX.1
  have w1 := hW.1
  obtain ⟨q1, q2, q3⟩ := hX.x d1
  obtain ⟨⟨c1, c2, c3⟩, c4, c5, c6⟩ := XP39 hXP
  unfold e_X6_readCandle_1_39 b_X6_readCandle_1_39_0
  rw [c1]
  have x0 : nI (P 0 0) - 1 = nI (P 0 0 - 1) := by rw [il1, pk_sub (by omega)]
  rw [x0, lt_e]
  have fail : ∀ f, f < 100 → f4 = some f → Pt n σ0 τ0 i (some (nI f, σ)) (e_X8_readPart 67 τ) := fun f hf hf4 => ⟨nI f, σ, τ', rfl, e0, d1, m1, Or.inr ⟨f, hf, rfl, by rw [m4, hf4]; rfl⟩⟩
  have ad : ∀ k, nI i + nI k = nI (i + k) := fun k => nI_add i k
  simp only [il0, il2, il3, il4, il6, il10, il1, ad]
  rw [pk_div (by omega) (by omega) (by omega), xfig hn q1 q2 q3 (by omega) (by omega) (by omega), cl_so, show min ((P 0 0 - 1) / 10) 9 = (P 0 0 - 1) / 10 by omega]
  by_cases A1 : okf n T (i + 1) 0 ((P 0 0 - 1) / 10) 48 = true
  · rw [if_pos A1]
    rw [fgr_ok A1] at h1
    obtain ⟨j1, j2, j3⟩ := okf_i A1
    injection h1 with h1a h1b
    injection h1b with h1b h1c
    subst h1b; subst h1c
    rw [h1a] at j2 j3 ⊢
    rw [if_neg (nI_ne9 (by omega)), pk_mul, pk_sub (by omega), xfig hn q1 q2 q3 (by omega) (by omega) (by omega), cl_so]
    by_cases A2 : okf n T (i + 1 + 1) 0 (min (P 0 0 - 1 - 10 * v1) 9) 48 = true
    · rw [if_pos A2]
      rw [fgr_ok A2] at h2
      obtain ⟨j4, j5, j6⟩ := okf_i A2
      injection h2 with h2a h2b
      injection h2b with h2b h2c
      subst h2b; subst h2c
      have h2a' : T (i + 2) - 48 = v2 := h2a
      rw [h2a] at j5 j6
      rw [h2a', if_neg (nI_ne9 (by omega)), lt_e, nI_add]
      have x4 : nI (P 0 0) - nI (10 * v1 + v2) = nI (P 0 0 - 10 * v1 - v2) := by rw [pk_sub (by omega), Nat.sub_sub]
      have x7 : (if nI (P 0 0 - 10 * v1 - v2) < nI 6 then nI (P 0 0 - 10 * v1 - v2) else nI 6) = nI (min (P 0 0 - 10 * v1 - v2) 6) := by
        by_cases c : P 0 0 - 10 * v1 - v2 < 6
        · rw [if_pos (nI_lt c (by omega)), Nat.min_eq_left (by omega)]
        · rw [if_neg (nI_nlt (by omega) (by omega)), Nat.min_eq_right (by omega)]
      rw [x4, x7, xfig hn q1 q2 q3 (by omega) (by omega) (by omega), cl_so, show min (min (P 0 0 - 10 * v1 - v2) 6) 9 = min (P 0 0 - 10 * v1 - v2) 6 by omega]
      by_cases A3 : okf n T (i + 1 + 1 + 1) 1 (min (P 0 0 - 10 * v1 - v2) 6) 48 = true
      · rw [if_pos A3]
        rw [fgr_ok A3] at h3
        obtain ⟨j7, j8, j9⟩ := okf_i A3
        injection h3 with h3a h3b
        injection h3b with h3b h3c
        subst h3b; subst h3c
        have h3a' : T (i + 3) - 48 = v3 := h3a
        rw [h3a] at j8 j9
        rw [h3a', if_neg (nI_ne9 (by omega)), show e_X6_figureAt_1 (nI (i + 4)) (nI 1) 9 σ = some (if okf n T (i + 4) 1 9 48 then nI (T (i + 4) - 48) else -9) from xfig (hi := 9) hn q1 q2 q3 (by omega) (by omega) (by omega), cl_so]
        by_cases A4 : okf n T (i + 1 + 1 + 1 + 1) 1 9 48 = true
        · rw [if_pos A4]
          rw [fgr_ok A4] at h4
          obtain ⟨j10, j11, j12⟩ := okf_i A4
          injection h4 with h4a h4b
          injection h4b with h4b h4c
          subst h4b; subst h4c
          have h4a' : T (i + 4) - 48 = v4 := h4a
          rw [h4a] at j11 j12
          rw [h4a', if_neg (nI_ne9 (by omega)), c2, wr_nI (by omega) (by omega)]
          have z1 : ∀ a b, (wI σ 41 a b).1 39 9 = nI (P 0 1) := fun a b => c2
          have z2 : ∀ a b c d, (wI (wI σ 41 a b) 42 c d).1 39 9 = nI (P 0 1) := fun a b c d => c2
          have z3 : ∀ a b c d e f, (wI (wI (wI σ 41 a b) 42 c d) 43 e f).1 39 9 = nI (P 0 1) := fun a b c d e f => c2
          rw [z1, wr_nI (by omega) (by omega), z2, wr_nI (by omega) (by omega), z3, lt_e, nI_add]
          obtain ⟨g1, g2, g3, g4, g5, g6, g7⟩ := addC_0 (P := P) (a := 10 * v1 + v2) (b := v3) (c := v4)
          have f0 : Fx σ0 (wI (wI (wI (wI σ 41 (P 0 1) (nI (10 * v1 + v2))) 42 (P 0 1) (nI v3)) 43 (P 0 1) (nI v4)) 39 9 (nI (P 0 1 + 1))) := (((d1.w (by omega)).w (by omega)).w (by omega)).w (by omega)
          refine ⟨-9, _, τ', rfl, e0, f0, m1, Or.inl ⟨rfl, by omega, addC P (10 * v1 + v2) v3 v4, f0, m1, addC_W hW hc (by omega) (by omega) (by omega) (by omega) (by omega), ⟨⟨?_, ?_, ?_⟩, fun j hj => ?_, fun c hcc => ?_, fun g hg => ?_⟩, m2, m3, m4⟩⟩
          · rw [wI_nj (by decide), wI_nk (by decide), wI_nk (by decide), wI_nk (by decide), g2 0 (by decide)]; exact c1
          · rw [wI_eq, g1]
          · rw [wI_nj (by decide), wI_nk (by decide), wI_nk (by decide), wI_nk (by decide), g2 2 (by decide)]; exact c3
          · rw [g2 0 (by decide)] at hj
            rw [wI_nk (by decide), wI_nk (by decide), wI_nk (by decide), wI_nk (by decide), g4 1 j (by decide) (by decide) (by decide) (by decide)]; exact c4 j hj
          · rw [g1] at hcc
            show (wI (wI (wI (wI σ 41 _ _) 42 _ _) 43 _ _) 39 9 _).1 41 c = _ ∧ (wI (wI (wI (wI σ 41 _ _) 42 _ _) 43 _ _) 39 9 _).1 42 c = _ ∧ (wI (wI (wI (wI σ 41 _ _) 42 _ _) 43 _ _) 39 9 _).1 43 c = _
            rw [wI_nk (show 41 ≠ 39 by decide), wI_nk (show 42 ≠ 39 by decide), wI_nk (show 43 ≠ 39 by decide), wI_nk (show 41 ≠ 43 by decide), wI_nk (show 42 ≠ 43 by decide), wI_nk (show 41 ≠ 42 by decide)]
            by_cases e : c = P 0 1
            · subst e
              rw [wI_eq, wI_eq, wI_eq, g5, g6, g7]; exact ⟨rfl, rfl, rfl⟩
            · rw [wI_nj e, wI_nj e, wI_nj e, wI_nk (show 42 ≠ 41 by decide), wI_nk (show 43 ≠ 42 by decide), wI_nk (show 43 ≠ 41 by decide), g3 2 c (by decide) e, g3 3 c (by decide) e, g3 4 c (by decide) e]; exact c5 c (by omega)
          · rw [g2 2 (by decide)] at hg
            show (wI (wI (wI (wI σ 41 _ _) 42 _ _) 43 _ _) 39 9 _).1 44 g = _ ∧ (wI (wI (wI (wI σ 41 _ _) 42 _ _) 43 _ _) 39 9 _).1 45 g = _ ∧ (wI (wI (wI (wI σ 41 _ _) 42 _ _) 43 _ _) 39 9 _).1 46 g = _ ∧ (wI (wI (wI (wI σ 41 _ _) 42 _ _) 43 _ _) 39 9 _).1 47 g = _
            have kk : ∀ q, 44 ≤ q → (wI (wI (wI (wI σ 41 (P 0 1) (nI (10 * v1 + v2))) 42 (P 0 1) (nI v3)) 43 (P 0 1) (nI v4)) 39 9 (nI (P 0 1 + 1))).1 q = σ.1 q := fun q hq => by rw [wI_nk (by omega), wI_nk (by omega), wI_nk (by omega), wI_nk (by omega)]
            rw [kk 44 (by omega), kk 45 (by omega), kk 46 (by omega), kk 47 (by omega), g4 5 g (by decide) (by decide) (by decide) (by decide), g4 6 g (by decide) (by decide) (by decide) (by decide), g4 7 g (by decide) (by decide) (by decide) (by decide), g4 8 g (by decide) (by decide) (by decide) (by decide)]; exact c6 g hg
        · rw [if_neg A4, if_pos rfl]
          rw [fgr_no A4] at h4
          exact fail (i + 4) (by omega) (by injection h4 with _ h; injection h with h _; exact h.symm)
      · rw [if_neg A3, if_pos rfl]
        rw [fgr_no A3] at h3
        injection h3 with _ h3b
        injection h3b with h3b _
        subst h3b
        exact fail (i + 3) (by omega) (fgr_s h4)
    · rw [if_neg A2, if_pos rfl]
      rw [fgr_no A2] at h2
      injection h2 with _ h2b
      injection h2b with h2b _
      subst h2b
      have e3 := fgr_s h3
      dsimp only at e3
      subst e3
      exact fail (i + 2) (by omega) (fgr_s h4)
  · rw [if_neg A1, if_pos rfl]
    rw [fgr_no A1] at h1
    injection h1 with _ h1b
    injection h1b with h1b _
    subst h1b
    have e2 := fgr_s h2
    dsimp only at e2
    subst e2
    have e3 := fgr_s h3
    dsimp only at e3
    subst e3
    exact fail (i + 1) (by omega) (fgr_s h4)

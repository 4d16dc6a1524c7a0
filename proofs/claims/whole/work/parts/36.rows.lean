-- ===== rows: saved, loaded, copied =====
theorem wI_at {σ : ES} {k j b : Nat} {v : Int32} : (wI σ k j v).1 k b = if b = j then v else σ.1 k b := by simp [wI, u2, upd]
/-- what a row's copying keeps -/
def Kp (σ s : ES) (B : Nat) : Prop := (∀ k, k ≠ B → s.1 k = σ.1 k) ∧ s.2 = σ.2
theorem Kp.rf {σ : ES} {B : Nat} : Kp σ σ B := ⟨fun _ _ => rfl, rfl⟩
theorem Kp.w {σ s : ES} {B j : Nat} {v : Int32} (h : Kp σ s B) : Kp σ (wI s B j v) B := ⟨fun k hk => by rw [wI_nk hk]; exact h.1 k hk, h.2⟩
/-- c places copied, from place S of row A to place T of row B -/
def Cpy (σ s : ES) (A S B T c : Nat) : Prop := Kp σ s B ∧ (∀ q, (q < T ∨ T + c ≤ q) → s.1 B q = σ.1 B q) ∧ ∀ j, j < c → s.1 B (T + j) = σ.1 A (S + j)
theorem Cpy.rf {σ : ES} {A S B T : Nat} : Cpy σ σ A S B T 0 := ⟨Kp.rf, fun _ _ => rfl, fun j h => by omega⟩
theorem Cpy.src {σ s : ES} {A S B T c : Nat} (h : Cpy σ s A S B T c) (hd : A ≠ B ∨ S + c < T ∨ T + c ≤ S) : s.1 A (S + c) = σ.1 A (S + c) := by
  by_cases e : A = B
  · subst e
    exact h.2.1 _ (by omega)
  · rw [h.1.1 A e]
theorem Cpy.step {σ s : ES} {A S B T c : Nat} (h : Cpy σ s A S B T c) : Cpy σ (wI s B (T + c) (σ.1 A (S + c))) A S B T (c + 1) := by
  refine ⟨h.1.w, fun q hq => ?_, fun j hj => ?_⟩
  · rw [wI_nj (by omega)]; exact h.2.1 q (by omega)
  · by_cases e : j = c
    · subst e; rw [wI_eq]
    · rw [wI_nj (by omega)]; exact h.2.2 j (by omega)
/-- a copied row -/
theorem Cpy.MR {σ s : ES} {A S B T : Nat} {P : Nat → Nat → Nat} {β : Nat → Nat} (h : Cpy σ s A S B T 18) (hW : WP P) (hm : MR (σ.1 A) S P β) : MR (s.1 B) T P β := by
  obtain ⟨m1, m2, m3, m4⟩ := hm
  have w2 := hW.2.1
  have w3 := hW.2.2.1
  refine ⟨fun c hc => ?_, fun g hg => ?_, ?_, ?_⟩
  · obtain ⟨a1, a2, a3⟩ := m1 c hc
    refine ⟨?_, ?_, ?_⟩
    · rw [h.2.2 c (by omega)]; exact a1
    · rw [Nat.add_assoc, h.2.2 (4 + c) (by omega), ← Nat.add_assoc]; exact a2
    · rw [Nat.add_assoc, h.2.2 (8 + c) (by omega), ← Nat.add_assoc]; exact a3
  · rw [Nat.add_assoc, h.2.2 (12 + g) (by omega), ← Nat.add_assoc]; exact m2 g hg
  · rw [h.2.2 16 (by omega)]; exact m3
  · rw [h.2.2 17 (by omega)]; exact m4
theorem MR.c {f g : Nat → Int32} {o : Nat} {P : Nat → Nat → Nat} {β : Nat → Nat} (hm : MR f o P β) (hW : WP P) (h : ∀ q, o ≤ q → q < o + 18 → g q = f q) : MR g o P β := by
  obtain ⟨m1, m2, m3, m4⟩ := hm
  have w2 := hW.2.1
  have w3 := hW.2.2.1
  refine ⟨fun c hc => ?_, fun k hk => ?_, ?_, ?_⟩
  · rw [h _ (by omega) (by omega), h _ (by omega) (by omega), h _ (by omega) (by omega)]; exact m1 c hc
  · rw [h _ (by omega) (by omega)]; exact m2 k hk
  · rw [h _ (by omega) (by omega)]; exact m3
  · rw [h _ (by omega) (by omega)]; exact m4
theorem XR.c {f g : Nat → Int32} {o : Nat} {P : Nat → Nat → Nat} {β : Nat → Nat} (hm : XR f o P β) (hW : WP P) (h : ∀ q, o ≤ q → q < o + 18 → g q = f q) : XR g o P β := by
  obtain ⟨m1, m2, m3, m4⟩ := hm
  have w2 := hW.2.1
  have w3 := hW.2.2.1
  refine ⟨fun c hc => ?_, fun k hk => ?_, ?_, ?_⟩
  · rw [h _ (by omega) (by omega), h _ (by omega) (by omega), h _ (by omega) (by omega)]; exact m1 c hc
  · rw [h _ (by omega) (by omega)]; exact m2 k hk
  · rw [h _ (by omega) (by omega)]; exact m3
  · rw [h _ (by omega) (by omega)]; exact m4

/-- the row from o on holds c candles -/
def Sv14 (σ s : ES) (o c g : Nat) : Prop := Kp σ s 14 ∧ (∀ q, (q < o ∨ o + 18 ≤ q) → s.1 14 q = σ.1 14 q) ∧ (∀ j, j < c → s.1 14 (o + 3 * j) = σ.1 4 j ∧ s.1 14 (o + 3 * j + 1) = σ.1 5 j ∧ s.1 14 (o + 3 * j + 2) = σ.1 6 j) ∧ ∀ j, j < g → s.1 14 (o + 12 + j) = σ.1 7 j
theorem save14 {σ : ES} {o : Nat} (ho : o + 18 ≤ 288) : ∃ s, e_X2_saveTo_3_14 (nI o) σ = some s ∧ Sv14 σ s o 4 4 ∧ s.1 14 (o + 16) = σ.1 3 4 ∧ s.1 14 (o + 17) = σ.1 3 5 := by
  unfold e_X2_saveTo_3_14 b_X2_saveTo_3_14_0
  rw [if_neg (nI_pos (by omega)), il18, nI_add, il288, if_pos (nI_le (by omega) (by omega))]
  obtain ⟨s, k, h1, h2⟩ := loop_FU (fun n c (s : ES) => b_X2_saveTo_3_14_16 n (nI o) (nI c) s) (fun c s => Sv14 σ s o c 0) 4 (by omega) (fun n c s hc hs => ⟨wI (wI (wI s 14 (o + 3 * c) (σ.1 4 c)) 14 (o + 3 * c + 1) (σ.1 5 c)) 14 (o + 3 * c + 2) (σ.1 6 c), by
      obtain ⟨a1, a2, a3, a4⟩ := hs
      refine ⟨a1.w.w.w, fun q hq => ?_, fun j hj => ?_, fun j hj => by omega⟩
      · rw [wI_nj (by omega), wI_nj (by omega), wI_nj (by omega)]; exact a2 q hq
      · by_cases e : j = c
        · subst e
          refine ⟨?_, ?_, ?_⟩
          · rw [wI_nj (by omega), wI_nj (by omega), wI_eq]
          · rw [wI_nj (by omega), wI_eq]
          · rw [wI_eq]
        · rw [wI_nj (by omega), wI_nj (by omega), wI_nj (by omega), wI_nj (by omega), wI_nj (by omega), wI_nj (by omega), wI_nj (by omega), wI_nj (by omega), wI_nj (by omega)]; exact a3 j (by omega), by
      obtain ⟨a1, a2, a3, a4⟩ := hs
      show b_X2_saveTo_3_14_16 (n + 1) _ _ _ = b_X2_saveTo_3_14_16 n _ _ _
      rw [b_X2_saveTo_3_14_16, il4, if_neg (nI_ge hc (by omega))]
      simp only [il3, il1, il2, pk_mul, nI_add, lt_e]
      rw [rd_nI (by omega) (by omega), wr_nI (by omega) (by omega), rd_nI (by omega) (by omega), wr_nI (by omega) (by omega), rd_nI (by omega) (by omega), wr_nI (by omega) (by omega)]
      rw [wI_nk (by decide), wI_nk (by decide), wI_nk (by decide), a1.1 4 (by decide), a1.1 5 (by decide), a1.1 6 (by decide)]⟩) σ ⟨Kp.rf, fun _ _ => rfl, fun j h => by omega, fun j h => by omega⟩
  obtain ⟨s2, k2, h3, h4⟩ := loop_FU (fun n c (s : ES) => b_X2_saveTo_3_14_72 n (nI o) (nI c) s) (fun c s => Sv14 σ s o 4 c) 4 (by omega) (fun n c s hc hs => ⟨wI s 14 (o + 12 + c) (σ.1 7 c), by
      obtain ⟨a1, a2, a3, a4⟩ := hs
      refine ⟨a1.w, fun q hq => ?_, fun j hj => ?_, fun j hj => ?_⟩
      · rw [wI_nj (by omega)]; exact a2 q hq
      · rw [wI_nj (by omega), wI_nj (by omega), wI_nj (by omega)]; exact a3 j hj
      · by_cases e : j = c
        · subst e; rw [wI_eq]
        · rw [wI_nj (by omega)]; exact a4 j (by omega), by
      obtain ⟨a1, a2, a3, a4⟩ := hs
      show b_X2_saveTo_3_14_72 (n + 1) _ _ _ = b_X2_saveTo_3_14_72 n _ _ _
      rw [b_X2_saveTo_3_14_72, il4, if_neg (nI_ge hc (by omega))]
      simp only [il12, il1, nI_add, lt_e]
      rw [rd_nI (by omega) (by omega), wr_nI (by omega) (by omega), a1.1 7 (by decide)]⟩) s h1
  obtain ⟨a1, a2, a3, a4⟩ := h3
  refine ⟨wI (wI s2 14 (o + 16) (σ.1 3 4)) 14 (o + 17) (σ.1 3 5), ?_, ⟨a1.w.w, fun q hq => ?_, fun j hj => ?_, fun j hj => ?_⟩, ?_, ?_⟩
  · rw [show (0 : Int32) = nI 0 from rfl, h2, b_X2_saveTo_3_14_16, il4, if_pos (nI_le (by omega) (by omega)), show (0 : Int32) = nI 0 from rfl, h4, b_X2_saveTo_3_14_72, il4, if_pos (nI_le (by omega) (by omega))]
    simp only [il18, il1, il2, nI_add]
    rw [pk_sub (by omega), pk_sub (by omega), show o + 18 - 2 = o + 16 by omega, show o + 18 - 1 = o + 17 by omega, wr_nI (by omega) (by omega), wr_nI (by omega) (by omega), wI_nk (by decide), a1.1 3 (by decide)]
  · rw [wI_nj (by omega), wI_nj (by omega)]; exact a2 q hq
  · rw [wI_nj (by omega), wI_nj (by omega), wI_nj (by omega), wI_nj (by omega), wI_nj (by omega), wI_nj (by omega)]; exact a3 j hj
  · rw [wI_nj (by omega), wI_nj (by omega)]; exact a4 j hj
  · rw [wI_nj (by omega), wI_eq]
  · rw [wI_eq]
theorem save14R {σ : ES} {o : Nat} (ho : o + 18 ≤ 288) {P : Nat → Nat → Nat} {β : Nat → Nat} (hW : WP P) (hB : XB σ 3 P β) : ∃ s, e_X2_saveTo_3_14 (nI o) σ = some s ∧ Kp σ s 14 ∧ (∀ q, (q < o ∨ o + 18 ≤ q) → s.1 14 q = σ.1 14 q) ∧ XR (s.1 14) o P β := by
  obtain ⟨s, h1, ⟨a1, a2, a3, a4⟩, h3, h4⟩ := save14 (σ := σ) ho
  obtain ⟨b1, b2, b3, b4⟩ := XB3 hB
  have w2 := hW.2.1
  have w3 := hW.2.2.1
  refine ⟨s, h1, a1, a2, fun c hc => ?_, fun g hg => ?_, ?_, ?_⟩
  · obtain ⟨c1, c2, c3⟩ := a3 c (by omega)
    rw [c1, c2, c3]; exact b1 c hc
  · rw [a4 g (by omega)]; exact b2 g hg
  · rw [h3]; exact b3
  · rw [h4]; exact b4

/-- c candles and g guests are loaded from the row at o -/
def Ld14 (σ s : ES) (o c g : Nat) : Prop := (∀ k, (k < 3 ∨ 7 < k) → s.1 k = σ.1 k) ∧ s.2 = σ.2 ∧ (∀ j, j < c → s.1 4 j = σ.1 14 (o + 3 * j) ∧ s.1 5 j = σ.1 14 (o + 3 * j + 1) ∧ s.1 6 j = σ.1 14 (o + 3 * j + 2)) ∧ ∀ j, j < g → s.1 7 j = σ.1 14 (o + 12 + j)
theorem load14 {σ : ES} {o : Nat} (ho : o + 18 ≤ 288) : ∃ s, e_X2_loadFrom_3_14 (nI o) σ = some s ∧ Ld14 σ s o 4 4 ∧ s.1 3 4 = σ.1 14 (o + 16) ∧ s.1 3 5 = σ.1 14 (o + 17) := by
  unfold e_X2_loadFrom_3_14 b_X2_loadFrom_3_14_0
  rw [if_neg (nI_pos (by omega)), il18, nI_add, il288, if_pos (nI_le (by omega) (by omega))]
  obtain ⟨s, k, h1, h2⟩ := loop_FU (fun n c (s : ES) => b_X2_loadFrom_3_14_16 n (nI o) (nI c) s) (fun c s => Ld14 σ s o c 0) 4 (by omega) (fun n c s hc hs => ⟨wI (wI (wI s 4 c (σ.1 14 (o + 3 * c))) 5 c (σ.1 14 (o + 3 * c + 1))) 6 c (σ.1 14 (o + 3 * c + 2)), by
      obtain ⟨a1, a2, a3, a4⟩ := hs
      refine ⟨fun q hq => ?_, a2, fun j hj => ?_, fun j hj => by omega⟩
      · rw [wI_nk (by omega), wI_nk (by omega), wI_nk (by omega)]; exact a1 q hq
      · by_cases e : j = c
        · subst e
          refine ⟨?_, ?_, ?_⟩
          · rw [wI_nk (by decide), wI_nk (by decide), wI_eq]
          · rw [wI_nk (by decide), wI_eq]
          · rw [wI_eq]
        · obtain ⟨b1, b2, b3⟩ := a3 j (by omega)
          refine ⟨?_, ?_, ?_⟩
          · rw [wI_nk (by decide), wI_nk (by decide), wI_nj e]; exact b1
          · rw [wI_nk (by decide), wI_nj e, wI_nk (by decide)]; exact b2
          · rw [wI_nj e, wI_nk (by decide), wI_nk (by decide)]; exact b3, by
      obtain ⟨a1, a2, a3, a4⟩ := hs
      show b_X2_loadFrom_3_14_16 (n + 1) _ _ _ = b_X2_loadFrom_3_14_16 n _ _ _
      rw [b_X2_loadFrom_3_14_16, il4, if_neg (nI_ge hc (by omega))]
      simp only [il3, il1, il2, pk_mul, nI_add, lt_e]
      rw [rd_nI (by omega) (by omega), wr_nI (by omega) (by omega), rd_nI (by omega) (by omega), wr_nI (by omega) (by omega), rd_nI (by omega) (by omega), wr_nI (by omega) (by omega)]
      rw [wI_nk (show 14 ≠ 5 by decide), wI_nk (show 14 ≠ 4 by decide), a1 14 (by decide)]⟩) σ ⟨fun _ _ => rfl, rfl, fun j h => by omega, fun j h => by omega⟩
  obtain ⟨s2, k2, h3, h4⟩ := loop_FU (fun n c (s : ES) => b_X2_loadFrom_3_14_72 n (nI o) (nI c) s) (fun c s => Ld14 σ s o 4 c) 4 (by omega) (fun n c s hc hs => ⟨wI s 7 c (σ.1 14 (o + 12 + c)), by
      obtain ⟨a1, a2, a3, a4⟩ := hs
      refine ⟨fun q hq => ?_, a2, fun j hj => ?_, fun j hj => ?_⟩
      · rw [wI_nk (by omega)]; exact a1 q hq
      · rw [wI_nk (by decide), wI_nk (by decide), wI_nk (by decide)]; exact a3 j hj
      · by_cases e : j = c
        · subst e; rw [wI_eq]
        · rw [wI_nj e]; exact a4 j (by omega), by
      obtain ⟨a1, a2, a3, a4⟩ := hs
      show b_X2_loadFrom_3_14_72 (n + 1) _ _ _ = b_X2_loadFrom_3_14_72 n _ _ _
      rw [b_X2_loadFrom_3_14_72, il4, if_neg (nI_ge hc (by omega))]
      simp only [il12, il1, nI_add, lt_e]
      rw [rd_nI (by omega) (by omega), wr_nI (by omega) (by omega), a1 14 (by decide)]⟩) s h1
  obtain ⟨a1, a2, a3, a4⟩ := h3
  refine ⟨wI (wI s2 3 4 (σ.1 14 (o + 16))) 3 5 (σ.1 14 (o + 17)), ?_, ⟨fun q hq => ?_, a2, fun j hj => ?_, fun j hj => ?_⟩, ?_, ?_⟩
  · rw [show (0 : Int32) = nI 0 from rfl, h2, b_X2_loadFrom_3_14_16, il4, if_pos (nI_le (by omega) (by omega)), show (0 : Int32) = nI 0 from rfl, h4, b_X2_loadFrom_3_14_72, il4, if_pos (nI_le (by omega) (by omega))]
    simp only [il18, il1, il2, nI_add, lt_e]
    rw [pk_sub (by omega), pk_sub (by omega), show o + 18 - 2 = o + 16 by omega, show o + 18 - 1 = o + 17 by omega, rd_nI (by omega) (by omega), rd_nI (by omega) (by omega), wI_nk (show 14 ≠ 3 by decide), a1 14 (by decide)]
  · rw [wI_nk (by omega), wI_nk (by omega)]; exact a1 q hq
  · rw [wI_nk (by decide), wI_nk (by decide), wI_nk (by decide), wI_nk (by decide), wI_nk (by decide), wI_nk (by decide)]; exact a3 j hj
  · rw [wI_nk (by decide), wI_nk (by decide)]; exact a4 j hj
  · rw [wI_nj (by decide), wI_eq]
  · rw [wI_eq]
theorem load14R {σ : ES} {o : Nat} (ho : o + 18 ≤ 288) {P : Nat → Nat → Nat} {β : Nat → Nat} (hW : WP P) (hB : XR (σ.1 14) o P β) : ∃ s, e_X2_loadFrom_3_14 (nI o) σ = some s ∧ (∀ k, (k < 3 ∨ 7 < k) → s.1 k = σ.1 k) ∧ s.2 = σ.2 ∧ XB s 3 P β := by
  obtain ⟨s, h1, ⟨a1, a2, a3, a4⟩, h3, h4⟩ := load14 (σ := σ) ho
  obtain ⟨b1, b2, b3, b4⟩ := hB
  have w2 := hW.2.1
  have w3 := hW.2.2.1
  refine ⟨s, h1, a1, a2, fun c hc => ?_, fun g hg => ?_, ?_, ?_⟩
  · obtain ⟨c1, c2, c3⟩ := a3 c (by omega)
    show s.1 4 c = _ ∧ s.1 5 c = _ ∧ s.1 6 c = _
    rw [c1, c2, c3]; exact b1 c hc
  · show s.1 7 g = _
    rw [a4 g (by omega)]; exact b2 g hg
  · rw [h3]; exact b3
  · rw [h4]; exact b4

/-- the row from o on holds c candles -/
def Sv28 (σ s : ES) (o c g : Nat) : Prop := Kp σ s 28 ∧ (∀ q, (q < o ∨ o + 18 ≤ q) → s.1 28 q = σ.1 28 q) ∧ (∀ j, j < c → s.1 28 (o + 3 * j) = σ.1 4 j ∧ s.1 28 (o + 3 * j + 1) = σ.1 5 j ∧ s.1 28 (o + 3 * j + 2) = σ.1 6 j) ∧ ∀ j, j < g → s.1 28 (o + 12 + j) = σ.1 7 j
theorem save28 {σ : ES} {o : Nat} (ho : o + 18 ≤ 36) : ∃ s, e_X2_saveTo_3_28 (nI o) σ = some s ∧ Sv28 σ s o 4 4 ∧ s.1 28 (o + 16) = σ.1 3 4 ∧ s.1 28 (o + 17) = σ.1 3 5 := by
  unfold e_X2_saveTo_3_28 b_X2_saveTo_3_28_0
  rw [if_neg (nI_pos (by omega)), il18, nI_add, il36, if_pos (nI_le (by omega) (by omega))]
  obtain ⟨s, k, h1, h2⟩ := loop_FU (fun n c (s : ES) => b_X2_saveTo_3_28_16 n (nI o) (nI c) s) (fun c s => Sv28 σ s o c 0) 4 (by omega) (fun n c s hc hs => ⟨wI (wI (wI s 28 (o + 3 * c) (σ.1 4 c)) 28 (o + 3 * c + 1) (σ.1 5 c)) 28 (o + 3 * c + 2) (σ.1 6 c), by
      obtain ⟨a1, a2, a3, a4⟩ := hs
      refine ⟨a1.w.w.w, fun q hq => ?_, fun j hj => ?_, fun j hj => by omega⟩
      · rw [wI_nj (by omega), wI_nj (by omega), wI_nj (by omega)]; exact a2 q hq
      · by_cases e : j = c
        · subst e
          refine ⟨?_, ?_, ?_⟩
          · rw [wI_nj (by omega), wI_nj (by omega), wI_eq]
          · rw [wI_nj (by omega), wI_eq]
          · rw [wI_eq]
        · rw [wI_nj (by omega), wI_nj (by omega), wI_nj (by omega), wI_nj (by omega), wI_nj (by omega), wI_nj (by omega), wI_nj (by omega), wI_nj (by omega), wI_nj (by omega)]; exact a3 j (by omega), by
      obtain ⟨a1, a2, a3, a4⟩ := hs
      show b_X2_saveTo_3_28_16 (n + 1) _ _ _ = b_X2_saveTo_3_28_16 n _ _ _
      rw [b_X2_saveTo_3_28_16, il4, if_neg (nI_ge hc (by omega))]
      simp only [il3, il1, il2, pk_mul, nI_add, lt_e]
      rw [rd_nI (by omega) (by omega), wr_nI (by omega) (by omega), rd_nI (by omega) (by omega), wr_nI (by omega) (by omega), rd_nI (by omega) (by omega), wr_nI (by omega) (by omega)]
      rw [wI_nk (by decide), wI_nk (by decide), wI_nk (by decide), a1.1 4 (by decide), a1.1 5 (by decide), a1.1 6 (by decide)]⟩) σ ⟨Kp.rf, fun _ _ => rfl, fun j h => by omega, fun j h => by omega⟩
  obtain ⟨s2, k2, h3, h4⟩ := loop_FU (fun n c (s : ES) => b_X2_saveTo_3_28_72 n (nI o) (nI c) s) (fun c s => Sv28 σ s o 4 c) 4 (by omega) (fun n c s hc hs => ⟨wI s 28 (o + 12 + c) (σ.1 7 c), by
      obtain ⟨a1, a2, a3, a4⟩ := hs
      refine ⟨a1.w, fun q hq => ?_, fun j hj => ?_, fun j hj => ?_⟩
      · rw [wI_nj (by omega)]; exact a2 q hq
      · rw [wI_nj (by omega), wI_nj (by omega), wI_nj (by omega)]; exact a3 j hj
      · by_cases e : j = c
        · subst e; rw [wI_eq]
        · rw [wI_nj (by omega)]; exact a4 j (by omega), by
      obtain ⟨a1, a2, a3, a4⟩ := hs
      show b_X2_saveTo_3_28_72 (n + 1) _ _ _ = b_X2_saveTo_3_28_72 n _ _ _
      rw [b_X2_saveTo_3_28_72, il4, if_neg (nI_ge hc (by omega))]
      simp only [il12, il1, nI_add, lt_e]
      rw [rd_nI (by omega) (by omega), wr_nI (by omega) (by omega), a1.1 7 (by decide)]⟩) s h1
  obtain ⟨a1, a2, a3, a4⟩ := h3
  refine ⟨wI (wI s2 28 (o + 16) (σ.1 3 4)) 28 (o + 17) (σ.1 3 5), ?_, ⟨a1.w.w, fun q hq => ?_, fun j hj => ?_, fun j hj => ?_⟩, ?_, ?_⟩
  · rw [show (0 : Int32) = nI 0 from rfl, h2, b_X2_saveTo_3_28_16, il4, if_pos (nI_le (by omega) (by omega)), show (0 : Int32) = nI 0 from rfl, h4, b_X2_saveTo_3_28_72, il4, if_pos (nI_le (by omega) (by omega))]
    simp only [il18, il1, il2, nI_add]
    rw [pk_sub (by omega), pk_sub (by omega), show o + 18 - 2 = o + 16 by omega, show o + 18 - 1 = o + 17 by omega, wr_nI (by omega) (by omega), wr_nI (by omega) (by omega), wI_nk (by decide), a1.1 3 (by decide)]
  · rw [wI_nj (by omega), wI_nj (by omega)]; exact a2 q hq
  · rw [wI_nj (by omega), wI_nj (by omega), wI_nj (by omega), wI_nj (by omega), wI_nj (by omega), wI_nj (by omega)]; exact a3 j hj
  · rw [wI_nj (by omega), wI_nj (by omega)]; exact a4 j hj
  · rw [wI_nj (by omega), wI_eq]
  · rw [wI_eq]
theorem save28R {σ : ES} {o : Nat} (ho : o + 18 ≤ 36) {P : Nat → Nat → Nat} {β : Nat → Nat} (hW : WP P) (hB : XB σ 3 P β) : ∃ s, e_X2_saveTo_3_28 (nI o) σ = some s ∧ Kp σ s 28 ∧ (∀ q, (q < o ∨ o + 18 ≤ q) → s.1 28 q = σ.1 28 q) ∧ XR (s.1 28) o P β := by
  obtain ⟨s, h1, ⟨a1, a2, a3, a4⟩, h3, h4⟩ := save28 (σ := σ) ho
  obtain ⟨b1, b2, b3, b4⟩ := XB3 hB
  have w2 := hW.2.1
  have w3 := hW.2.2.1
  refine ⟨s, h1, a1, a2, fun c hc => ?_, fun g hg => ?_, ?_, ?_⟩
  · obtain ⟨c1, c2, c3⟩ := a3 c (by omega)
    rw [c1, c2, c3]; exact b1 c hc
  · rw [a4 g (by omega)]; exact b2 g hg
  · rw [h3]; exact b3
  · rw [h4]; exact b4

/-- c candles and g guests are loaded from the row at o -/
def Ld28 (σ s : ES) (o c g : Nat) : Prop := (∀ k, (k < 3 ∨ 7 < k) → s.1 k = σ.1 k) ∧ s.2 = σ.2 ∧ (∀ j, j < c → s.1 4 j = σ.1 28 (o + 3 * j) ∧ s.1 5 j = σ.1 28 (o + 3 * j + 1) ∧ s.1 6 j = σ.1 28 (o + 3 * j + 2)) ∧ ∀ j, j < g → s.1 7 j = σ.1 28 (o + 12 + j)
theorem load28 {σ : ES} {o : Nat} (ho : o + 18 ≤ 36) : ∃ s, e_X2_loadFrom_3_28 (nI o) σ = some s ∧ Ld28 σ s o 4 4 ∧ s.1 3 4 = σ.1 28 (o + 16) ∧ s.1 3 5 = σ.1 28 (o + 17) := by
  unfold e_X2_loadFrom_3_28 b_X2_loadFrom_3_28_0
  rw [if_neg (nI_pos (by omega)), il18, nI_add, il36, if_pos (nI_le (by omega) (by omega))]
  obtain ⟨s, k, h1, h2⟩ := loop_FU (fun n c (s : ES) => b_X2_loadFrom_3_28_16 n (nI o) (nI c) s) (fun c s => Ld28 σ s o c 0) 4 (by omega) (fun n c s hc hs => ⟨wI (wI (wI s 4 c (σ.1 28 (o + 3 * c))) 5 c (σ.1 28 (o + 3 * c + 1))) 6 c (σ.1 28 (o + 3 * c + 2)), by
      obtain ⟨a1, a2, a3, a4⟩ := hs
      refine ⟨fun q hq => ?_, a2, fun j hj => ?_, fun j hj => by omega⟩
      · rw [wI_nk (by omega), wI_nk (by omega), wI_nk (by omega)]; exact a1 q hq
      · by_cases e : j = c
        · subst e
          refine ⟨?_, ?_, ?_⟩
          · rw [wI_nk (by decide), wI_nk (by decide), wI_eq]
          · rw [wI_nk (by decide), wI_eq]
          · rw [wI_eq]
        · obtain ⟨b1, b2, b3⟩ := a3 j (by omega)
          refine ⟨?_, ?_, ?_⟩
          · rw [wI_nk (by decide), wI_nk (by decide), wI_nj e]; exact b1
          · rw [wI_nk (by decide), wI_nj e, wI_nk (by decide)]; exact b2
          · rw [wI_nj e, wI_nk (by decide), wI_nk (by decide)]; exact b3, by
      obtain ⟨a1, a2, a3, a4⟩ := hs
      show b_X2_loadFrom_3_28_16 (n + 1) _ _ _ = b_X2_loadFrom_3_28_16 n _ _ _
      rw [b_X2_loadFrom_3_28_16, il4, if_neg (nI_ge hc (by omega))]
      simp only [il3, il1, il2, pk_mul, nI_add, lt_e]
      rw [rd_nI (by omega) (by omega), wr_nI (by omega) (by omega), rd_nI (by omega) (by omega), wr_nI (by omega) (by omega), rd_nI (by omega) (by omega), wr_nI (by omega) (by omega)]
      rw [wI_nk (show 28 ≠ 5 by decide), wI_nk (show 28 ≠ 4 by decide), a1 28 (by decide)]⟩) σ ⟨fun _ _ => rfl, rfl, fun j h => by omega, fun j h => by omega⟩
  obtain ⟨s2, k2, h3, h4⟩ := loop_FU (fun n c (s : ES) => b_X2_loadFrom_3_28_72 n (nI o) (nI c) s) (fun c s => Ld28 σ s o 4 c) 4 (by omega) (fun n c s hc hs => ⟨wI s 7 c (σ.1 28 (o + 12 + c)), by
      obtain ⟨a1, a2, a3, a4⟩ := hs
      refine ⟨fun q hq => ?_, a2, fun j hj => ?_, fun j hj => ?_⟩
      · rw [wI_nk (by omega)]; exact a1 q hq
      · rw [wI_nk (by decide), wI_nk (by decide), wI_nk (by decide)]; exact a3 j hj
      · by_cases e : j = c
        · subst e; rw [wI_eq]
        · rw [wI_nj e]; exact a4 j (by omega), by
      obtain ⟨a1, a2, a3, a4⟩ := hs
      show b_X2_loadFrom_3_28_72 (n + 1) _ _ _ = b_X2_loadFrom_3_28_72 n _ _ _
      rw [b_X2_loadFrom_3_28_72, il4, if_neg (nI_ge hc (by omega))]
      simp only [il12, il1, nI_add, lt_e]
      rw [rd_nI (by omega) (by omega), wr_nI (by omega) (by omega), a1 28 (by decide)]⟩) s h1
  obtain ⟨a1, a2, a3, a4⟩ := h3
  refine ⟨wI (wI s2 3 4 (σ.1 28 (o + 16))) 3 5 (σ.1 28 (o + 17)), ?_, ⟨fun q hq => ?_, a2, fun j hj => ?_, fun j hj => ?_⟩, ?_, ?_⟩
  · rw [show (0 : Int32) = nI 0 from rfl, h2, b_X2_loadFrom_3_28_16, il4, if_pos (nI_le (by omega) (by omega)), show (0 : Int32) = nI 0 from rfl, h4, b_X2_loadFrom_3_28_72, il4, if_pos (nI_le (by omega) (by omega))]
    simp only [il18, il1, il2, nI_add, lt_e]
    rw [pk_sub (by omega), pk_sub (by omega), show o + 18 - 2 = o + 16 by omega, show o + 18 - 1 = o + 17 by omega, rd_nI (by omega) (by omega), rd_nI (by omega) (by omega), wI_nk (show 28 ≠ 3 by decide), a1 28 (by decide)]
  · rw [wI_nk (by omega), wI_nk (by omega)]; exact a1 q hq
  · rw [wI_nk (by decide), wI_nk (by decide), wI_nk (by decide), wI_nk (by decide), wI_nk (by decide), wI_nk (by decide)]; exact a3 j hj
  · rw [wI_nk (by decide), wI_nk (by decide)]; exact a4 j hj
  · rw [wI_nj (by decide), wI_eq]
  · rw [wI_eq]
theorem load28R {σ : ES} {o : Nat} (ho : o + 18 ≤ 36) {P : Nat → Nat → Nat} {β : Nat → Nat} (hW : WP P) (hB : XR (σ.1 28) o P β) : ∃ s, e_X2_loadFrom_3_28 (nI o) σ = some s ∧ (∀ k, (k < 3 ∨ 7 < k) → s.1 k = σ.1 k) ∧ s.2 = σ.2 ∧ XB s 3 P β := by
  obtain ⟨s, h1, ⟨a1, a2, a3, a4⟩, h3, h4⟩ := load28 (σ := σ) ho
  obtain ⟨b1, b2, b3, b4⟩ := hB
  have w2 := hW.2.1
  have w3 := hW.2.2.1
  refine ⟨s, h1, a1, a2, fun c hc => ?_, fun g hg => ?_, ?_, ?_⟩
  · obtain ⟨c1, c2, c3⟩ := a3 c (by omega)
    show s.1 4 c = _ ∧ s.1 5 c = _ ∧ s.1 6 c = _
    rw [c1, c2, c3]; exact b1 c hc
  · show s.1 7 g = _
    rw [a4 g (by omega)]; exact b2 g hg
  · rw [h3]; exact b3
  · rw [h4]; exact b4

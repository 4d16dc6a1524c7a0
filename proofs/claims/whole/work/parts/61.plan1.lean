-- ===== plans: the reference's evening by a plan =====
theorem p7_lt {j : Nat} (h : j < 4) : 7 ^ j < 2 ^ 31 := Nat.lt_of_le_of_lt (Nat.pow_le_pow_right (by decide) (show j ≤ 3 by omega)) (by decide)
theorem fig_le (pl c : Nat) : fig pl c ≤ 6 := by unfold fig; omega
theorem mfigOf {pl c : Nat} (hp : pl < 2 ^ 31) (hc : c < 4) : e_X8_figureOf (nI pl) (nI c) = some (nI (fig pl c)) := by
  unfold e_X8_figureOf b_X8_figureOf_0
  have hpos : 0 < 7 ^ (3 - c) := Nat.pow_pos (by decide)
  have hlt := p7_lt (j := 3 - c) (by omega)
  rw [il3, il7, pk_sub (by omega), power_e _ _ (by omega), cl_so, dv_nI hpos hlt, pk_div hp hpos hlt, pk_rem (Nat.lt_of_le_of_lt (Nat.div_le_self _ _) hp) (by omega) (by omega)]
  rfl
def lgt (γ : Nat → Nat) (pl v c : Nat) : Nat → Nat := fun q => if 8 ≤ q ∧ q < 8 + c ∧ fig pl (q - 8) = v then 1 else γ q
theorem lgt_o {γ : Nat → Nat} {pl v c q : Nat} (h : q < 8 ∨ 8 + c ≤ q) : lgt γ pl v c q = γ q := by unfold lgt; rw [if_neg (by omega)]
theorem lgt_f {γ : Nat → Nat} {pl v c k : Nat} (h : k < c) : lgt γ pl v c (8 + k) = if fig pl k = v then 1 else γ (8 + k) := by
  unfold lgt
  rw [show 8 + k - 8 = k by omega]
  by_cases e : fig pl k = v
  · rw [if_pos ⟨by omega, by omega, e⟩, if_pos e]
  · rw [if_neg (fun h => e h.2.2), if_neg e]
theorem anyN_t {f : Nat → Bool} {n : Nat} : anyN f n = true ↔ ∃ i, i < n ∧ f i = true := by
  induction n with
  | zero => exact ⟨fun h => absurd h (by simp [anyN]), fun ⟨i, h, _⟩ => by omega⟩
  | succ n ih =>
    rw [anyN, Bool.or_eq_true, ih]
    constructor
    · rintro (⟨i, h1, h2⟩ | h)
      · exact ⟨i, by omega, h2⟩
      · exact ⟨n, by omega, h⟩
    · rintro ⟨i, h1, h2⟩
      by_cases e : i = n
      · subst e; exact Or.inr h2
      · exact Or.inl ⟨i, by omega, h2⟩
theorem cnt_pos {f : Nat → Bool} {n : Nat} : 0 < cnt f n ↔ ∃ i, i < n ∧ f i = true := by
  induction n with
  | zero => exact ⟨fun h => absurd h (by simp [cnt]), fun ⟨i, h, _⟩ => by omega⟩
  | succ n ih =>
    rw [cnt]
    constructor
    · intro h
      by_cases e : f n = true
      · exact ⟨n, by omega, e⟩
      · rw [if_neg e] at h
        obtain ⟨i, h1, h2⟩ := ih.mp (by omega)
        exact ⟨i, by omega, h2⟩
    · rintro ⟨i, h1, h2⟩
      by_cases e : i = n
      · subst e; rw [if_pos h2]; omega
      · have := ih.mpr ⟨i, by omega, h2⟩; omega
theorem mc31 {τ t : ES} {P : Nat → Nat → Nat} {γ : Nat → Nat} {pl v : Nat} {K : Int32 → Int32 → Int32 → ES → Option (Int32 × ES)} (hW : WP P) (hMP : MPt τ P) (hp : pl < 2 ^ 31) (hv : v < 100) (hR : Rw τ t 18) (hM : MR (t.1 9) 18 P γ) (hf : ∀ c, c < P 0 1 → γ (8 + c) ≤ 2) : ∃ t', b_X8_contentBy_31 K FU (nI pl) 0 (nI v) 0 t = b_X8_contentBy_117 K (nI pl) (nI v) (fI (anyN (fun c => decide (v < fig pl c)) (P 0 1) || decide (0 < cnt (fun c => decide (lgt γ pl v (P 0 1) (8 + c) = 1)) (P 0 1)))) t' ∧ Rw τ t' 18 ∧ MR (t'.1 9) 18 P (lgt γ pl v (P 0 1)) := by
  have w2 := hW.2.1
  have w3 := hW.2.2.1
  obtain ⟨t', m, ⟨i1, i2⟩, e2⟩ := loop_FU (fun n c (t : ES) => b_X8_contentBy_31 K n (nI pl) (fI (anyN (fun c => decide (v < fig pl c)) c)) (nI v) (nI c) t) (fun c t => Rw τ t 18 ∧ MR (t.1 9) 18 P (lgt γ pl v c)) (P 0 1) (by omega) (fun n c t hc ht => by
    obtain ⟨h1, h2⟩ := ht
    obtain ⟨u1, u2, u3, u4, u5, u6⟩ := MR_u.mp h2
    have c1 : t.1 0 1 = nI (P 0 1) := by rw [h1.1.1 0 (by decide)]; exact hMP.1.2.1
    have hfl := fig_le pl c
    have o8 : t.1 9 (26 + c) = nI (γ (8 + c)) := by
      have := u3 c hc
      rw [lgt_o (by omega)] at this
      rw [show 26 + c = 18 + (8 + c) by omega]; exact this
    have x26 : (26 : Int32) + nI c = nI (26 + c) := by rw [show (26 : Int32) = nI 26 by decide, nI_add]
    have hv8 : (if nI (fig pl c) = nI v then b_X8_contentBy_77 K (fun z0 z1 z2 z3 z4 => b_X8_contentBy_31 K n z0 z1 z2 z3 z4) (nI pl) (fI (anyN (fun c => decide (v < fig pl c)) c)) (nI v) (nI c) (nI (fig pl c)) (nI (26 + c)) 1 t else b_X8_contentBy_77 K (fun z0 z1 z2 z3 z4 => b_X8_contentBy_31 K n z0 z1 z2 z3 z4) (nI pl) (fI (anyN (fun c => decide (v < fig pl c)) c)) (nI v) (nI c) (nI (fig pl c)) (nI (26 + c)) (nI (γ (8 + c))) t) = b_X8_contentBy_77 K (fun z0 z1 z2 z3 z4 => b_X8_contentBy_31 K n z0 z1 z2 z3 z4) (nI pl) (fI (anyN (fun c => decide (v < fig pl c)) c)) (nI v) (nI c) (nI (fig pl c)) (nI (26 + c)) (nI (if fig pl c = v then 1 else γ (8 + c))) t := by
      by_cases e : fig pl c = v
      · rw [if_pos (by rw [e]), if_pos e, il1]
      · rw [if_neg (fun x => e ((nI_eq (by omega) (by omega)).mp x)), if_neg e]
    refine ⟨wI t 9 (26 + c) (nI (if fig pl c = v then 1 else γ (8 + c))), ⟨⟨h1.1.w, fun q hq => by rw [wI_nj (by omega)]; exact h1.2 q hq⟩, MR_u.mpr ⟨fun k hk => ?_, fun k hk => ?_, fun k hk => ?_, fun g hg => ?_, ?_, ?_⟩⟩, ?_⟩
    · have := u1 k hk
      rw [lgt_o (by omega)] at this
      rw [wI_nj (by omega), lgt_o (by omega)]; exact this
    · have := u2 k hk
      rw [lgt_o (by omega)] at this
      rw [wI_nj (by omega), lgt_o (by omega)]; exact this
    · by_cases e : k = c
      · subst e
        rw [show 18 + (8 + k) = 26 + k by omega, wI_eq, lgt_f (by omega)]
      · rw [wI_nj (by omega)]
        have := u3 k hk
        by_cases e2 : k < c
        · rw [lgt_f e2] at this
          rw [lgt_f (by omega)]; exact this
        · rw [lgt_o (by omega)] at this
          rw [lgt_o (by omega)]; exact this
    · have := u4 g hg
      rw [lgt_o (by omega)] at this
      rw [wI_nj (by omega), lgt_o (by omega)]; exact this
    · have := u5
      rw [lgt_o (by omega)] at this
      rw [wI_nj (by omega), lgt_o (by omega)]; exact this
    · have := u6
      rw [lgt_o (by omega)] at this
      rw [wI_nj (by omega), lgt_o (by omega)]; exact this
    · show b_X8_contentBy_31 K (n + 1) _ _ _ _ _ = b_X8_contentBy_31 K n _ _ _ _ _
      rw [b_X8_contentBy_31, c1, if_neg (nI_ge hc (by omega)), mfigOf hp (by omega), cl_so, x26, rd_nI (by omega) (by omega), o8, hv8]
      unfold b_X8_contentBy_77
      rw [wr_nI (by omega) (by omega)]
      simp only [lt_e, nI_1]
      rw [anyN]
      by_cases e : anyN (fun c => decide (v < fig pl c)) c = true
      · rw [if_neg (fun z => fI_0.mp z e), e]; rfl
      · rw [if_pos (fI_0.mpr e), show anyN (fun c => decide (v < fig pl c)) c = false by simpa using e, Bool.false_or]
        by_cases q : v < fig pl c
        · rw [if_neg (nI_ge q (by omega)), decide_eq_true q]; rfl
        · rw [if_pos (nI_le (by omega) (by omega)), decide_eq_false q]; rfl) t ⟨hR, by
      have : lgt γ pl v 0 = γ := funext (fun q => lgt_o (by omega))
      rw [this]; exact hM⟩
  have e3 : b_X8_contentBy_31 K FU (nI pl) 0 (nI v) 0 t = _ := e2
  have c1 : t'.1 0 1 = nI (P 0 1) := by rw [i1.1.1 0 (by decide)]; exact hMP.1.2.1
  have hMP' : MPt t' P := hMP.k i1.1
  have hfl : ∀ c, c < P 0 1 → lgt γ pl v (P 0 1) (8 + c) ≤ 2 := fun c hc => by
    rw [lgt_f hc]
    split
    · omega
    · exact hf c hc
  have eb := mburn (L := 1) hW hMP' (by omega) i2 hfl
  refine ⟨t', ?_, i1, i2⟩
  rw [e3, b_X8_contentBy_31, c1, if_pos (nI_le (by omega) (by omega))]
  have cl4 := cnt_le (fun c => decide (lgt γ pl v (P 0 1) (8 + c) = 1)) (P 0 1)
  by_cases e : anyN (fun c => decide (v < fig pl c)) (P 0 1) = true
  · rw [if_neg (fun z => fI_0.mp z e), e]; rfl
  · rw [if_pos (fI_0.mpr e), il1, eb, cl_so, show anyN (fun c => decide (v < fig pl c)) (P 0 1) = false by simpa using e, Bool.false_or]
    by_cases q : 0 < cnt (fun c => decide (lgt γ pl v (P 0 1) (8 + c) = 1)) (P 0 1)
    · rw [if_neg (nI_nle q (by omega)), decide_eq_true q]; rfl
    · rw [if_pos (show nI _ ≤ 0 from nI_le (b := 0) (by omega) (by omega)), decide_eq_false q]; rfl
theorem mc139 {τ t : ES} {P : Nat → Nat → Nat} {γ : Nat → Nat} (hW : WP P) (hMP : MPt t P) (hM : MR (t.1 9) 18 P γ) (hb : ∀ g, g < P 0 2 → γ (12 + g) ≤ 1000) : b_X8_contentBy_139 FU 0 0 t = some (nI (bm (fun g => decide (P 6 g ≤ γ (12 + g))) (P 0 2)), t) := by
  have w3 := hW.2.2.1
  obtain ⟨s, m, e1, e2⟩ := loop_FU (fun n c (s : Nat) => b_X8_contentBy_139 n (nI s) (nI c) t) (fun c s => s = bm (fun g => decide (P 6 g ≤ γ (12 + g))) c) (P 0 2) (by omega) (fun n c s hc hs => ⟨bm (fun g => decide (P 6 g ≤ γ (12 + g))) (c + 1), rfl, by
    subst hs
    show b_X8_contentBy_139 (n + 1) _ _ _ = b_X8_contentBy_139 n _ _ _
    have mc := mcont (L := 1) hW hMP (by omega) hM hc (hb c hc)
    rw [← il1] at mc
    rw [b_X8_contentBy_139, hMP.1.2.2, if_neg (nI_ge hc (by omega)), mc, cl_so]
    simp only [lt_e, il1, nI_add, nI_sh c (by omega)]
    rw [← or_if]
    by_cases h : P 6 c ≤ γ (12 + c)
    · simp [h, n1_ne]
    · simp [h, il0]⟩) 0 rfl
  subst e1
  have e3 : b_X8_contentBy_139 FU 0 0 t = _ := e2
  rw [e3, b_X8_contentBy_139, hMP.1.2.2, if_pos (nI_le (by omega) (by omega))]

-- ===== plans: the class tries them all =====
theorem jb32 : ∀ w, w < 4 → ∀ a, a < 32 → ∀ b, b < 32 → e_J13_bitCount (lN ((32 * a + b) * 2 ^ (16 * w))) = some (nI (cnt (fun i => (32 * a + b).testBit i) 10)) := by decide +kernel
theorem jb_e {w n : Nat} (hw : w < 4) (hn : n < 1024) : e_J13_bitCount (lN (n * 2 ^ (16 * w))) = some (nI (cnt (fun i => n.testBit i) 10)) := by
  have := jb32 w hw (n / 32) (by omega) (n % 32) (by omega)
  rw [Nat.div_add_mod] at this
  exact this
def ext (P : Nat → Nat → Nat) (β : Nat → Nat) (S : Nat) : Nat → Option (Nat × Nat)
  | 0 => none
  | n + 1 => if vld P β n = true ∧ cont P β n = S ∧ (∀ q, ext P β S n = some q → cst P β n < q.1) then some (cst P β n, n) else ext P β S n
def cOr (x : Option (Nat × Nat)) : Nat := match x with | some q => q.1 | none => 1000000
theorem ext_b {P : Nat → Nat → Nat} {β : Nat → Nat} (hW : WP P) (hB : WB P β) {S : Nat} : ∀ n q, ext P β S n = some q → q.1 ≤ 216 := by
  intro n
  induction n with
  | zero => intro q h; exact absurd h (by simp [ext])
  | succ n ih =>
    intro q h
    rw [ext] at h
    by_cases c : vld P β n = true ∧ cont P β n = S ∧ (∀ q, ext P β S n = some q → cst P β n < q.1)
    · rw [if_pos c] at h
      injection h with h
      subst h
      exact cst_le hW hB n
    · rw [if_neg c] at h
      exact ih q h
def PS (P : Nat → Nat → Nat) (β : Nat → Nat) (σ s : ES) (n : Nat) : Prop := (∀ k, k ≠ 15 → k ≠ 21 → k ≠ 22 → k ≠ 23 → s.1 k = σ.1 k) ∧ s.2 = σ.2 ∧ s.1 15 8 = nI (P 0 2) ∧ s.1 15 9 = nI (2 ^ P 0 2 - 1) ∧ (∃ R : Nat, R < 16 ∧ s.1 15 10 = nI R ∧ ∀ g, g < P 0 2 → R.testBit g = anyN (fun pl => vld P β pl && (cont P β pl).testBit g) n) ∧ (∀ S, S < 2 ^ P 0 2 → s.1 23 S = nI (cOr (ext P β S n))) ∧ ∀ q, ext P β (2 ^ P 0 2 - 1) n = some q → ∀ c, c < 4 → s.1 22 c = nI (fig q.2 c)
theorem PS.skip {P : Nat → Nat → Nat} {β : Nat → Nat} {σ s : ES} {n : Nat} (h : PS P β σ s n) (hv : ¬ vld P β n = true) : PS P β σ s (n + 1) := by
  obtain ⟨h1, h2, h3, h4, ⟨R, r1, r2, r3⟩, h6, h7⟩ := h
  have e : ∀ S, ext P β S (n + 1) = ext P β S n := fun S => by rw [ext, if_neg (fun z => hv z.1)]
  refine ⟨h1, h2, h3, h4, ⟨R, r1, r2, fun g hg => ?_⟩, fun S hS => by rw [e]; exact h6 S hS, fun q hq => by rw [e] at hq; exact h7 q hq⟩
  rw [anyN, r3 g hg, show vld P β n = false by simpa using hv]; simp
def LG (P : Nat → Nat → Nat) (β : Nat → Nat) (σ : ES) : Prop := ∀ g, g < P 0 2 → σ.2 19 g = JL (TF P β g) ∧ σ.1 20 g = nI (P 6 g) - nI (β (12 + g))
def LC (P : Nat → Nat → Nat) (β : Nat → Nat) (σ : ES) : Prop := ∀ c, c < 4 → σ.1 18 c = nI (if c < P 0 1 ∧ β (8 + c) = 0 then 6 else 0) ∧ σ.1 17 c = nI (if c < P 0 1 ∧ β (8 + c) = 0 then P 4 c * β (4 + c) else 0) ∧ ∀ f, f < 7 → σ.2 16 (7 * c + f) = JL (sf P β c f)
theorem lt_sub {C a b : Nat} (hC : C < 1000) (ha : a < 1000) (hb : b < 1000) : nI C < nI a - nI b ↔ C + b < a := by
  have e : (nI a - nI b).toInt = (a : Int) - b := pk_sub_toInt (by omega) (by omega)
  rw [Int32.lt_iff_toInt_lt, e, nI_toInt (by omega)]
  omega
theorem xbits {P : Nat → Nat → Nat} {β : Nat → Nat} {pl g : Nat} (hW : WP P) (hg : g < P 0 2) : e_J13_bitCount (JL (fun b => gv P β pl (b % 16) (b / 16)) &&& JL (TF P β g)) = some (nI (cnt (wg P β pl g) 16)) := by
  have w := hW.2.2.2.2.2 g hg
  have hn : bm (wg P β pl g) 10 < 1024 := bm_lt _ 10
  have e : bm (fun b => gv P β pl (b % 16) (b / 16) && TF P β g b) 64 = bm (wg P β pl g) 10 * 2 ^ (16 * P 5 g) := by
    refine (bm_ext (fun i => ?_)).symm
    rw [← Nat.shiftLeft_eq, Nat.testBit_shiftLeft, bm_test]
    unfold TF
    by_cases h1 : 16 * P 5 g ≤ i
    · by_cases h2 : i - 16 * P 5 g < 16
      · have e4 : i / 16 = P 5 g := by omega
        have e5 : i - 16 * P 5 g = i % 16 := by omega
        rw [e5, e4]
        have h64 : i < 64 := by omega
        unfold wg win
        by_cases h3 : i % 16 < 10
        · simp [h1, h3, h64, Bool.and_comm]
        · have : ¬ (P 7 g ≤ β 17 + i % 16 ∧ β 17 + i % 16 ≤ P 8 g) := by omega
          rw [decide_eq_false this]; simp [h3]
      · have e4 : ¬ i / 16 = P 5 g := by omega
        have h3 : ¬ i - 16 * P 5 g < 10 := by omega
        simp [e4, h3]
    · have e4 : ¬ i / 16 = P 5 g := by omega
      simp [e4, h1]
  rw [JL_and, e, jb_e (by omega) hn, cnt_bm _ _ _ (by omega), cnt_more (a := 10) (b := 16) (fun t ht => by
    unfold wg
    rw [decide_eq_false (by omega), Bool.false_and])]
theorem xweigh {P : Nat → Nat → Nat} {β : Nat → Nat} {σ s : ES} {pl : Nat} (hW : WP P) (hB : WB P β) (hG : LG P β σ) (hv : vld P β pl = true) (hp : PS P β σ s pl) (hf : ∀ k, k < 4 → s.1 21 k = nI (fig pl k)) : ∃ s', e_X4_weigh_15 (JL (fun b => gv P β pl (b % 16) (b / 16))) (nI (cst P β pl)) s = some s' ∧ PS P β σ s' (pl + 1) ∧ s'.1 21 = s.1 21 := by
  have w3 := hW.2.2.1
  have h16 : 2 ^ P 0 2 ≤ 16 := Nat.pow_le_pow_right (n := 2) (j := 4) (by decide) w3
  have hpos := Nat.two_pow_pos (P 0 2)
  have hcl : cont P β pl < 2 ^ P 0 2 := bm_lt _ _
  have hcst := cst_le hW hB pl
  obtain ⟨h1, h2, h3, h4, ⟨R, r1, r2, r3⟩, h6, h7⟩ := hp
  unfold e_X4_weigh_15 b_X4_weigh_15_0
  obtain ⟨v, j, e1, e2⟩ := loop_FU (fun n c (v : Nat) => b_X4_weigh_15_6 n (JL (fun b => gv P β pl (b % 16) (b / 16))) (nI (cst P β pl)) (nI v) (nI c) s) (fun c v => v = bm (fun g => decide (P 6 g ≤ hadF P β pl g)) c) (P 0 2) (by omega) (fun n c v hc hs => ⟨bm (fun g => decide (P 6 g ≤ hadF P β pl g)) (c + 1), rfl, by
    subst hs
    obtain ⟨g1, g2⟩ := hG c hc
    have b := WBg hW hB hc
    have hcn := cnt_le (wg P β pl c) 16
    show b_X4_weigh_15_6 (n + 1) _ _ _ _ _ = b_X4_weigh_15_6 n _ _ _ _ _
    rw [b_X4_weigh_15_6, h3, if_neg (nI_ge hc (by omega)), rdL_nI (by omega) (by omega), h2, g1, xbits hW hc, cl_so, rd_nI (by omega) (by omega), h1 20 (by decide) (by decide) (by decide) (by decide), g2]
    simp only [lt_sub (show cnt (wg P β pl c) 16 < 1000 by omega) (show P 6 c < 1000 by omega) (show β (12 + c) < 1000 by omega), lt_e, il1, nI_add, nI_sh c (by omega)]
    rw [← or_if]
    have eh : hadF P β pl c = β (12 + c) + cnt (wg P β pl c) 16 := rfl
    by_cases q : cnt (wg P β pl c) 16 + β (12 + c) < P 6 c
    · rw [if_pos q, if_neg (by rw [decide_eq_true_eq, eh]; omega), nI_or, Nat.or_zero]
    · rw [if_neg q, if_pos (by rw [decide_eq_true_eq, eh]; omega)]⟩) 0 rfl
  have ev : v = cont P β pl := e1
  rw [ev] at e2
  have e3 : b_X4_weigh_15_6 FU (JL (fun b => gv P β pl (b % 16) (b / 16))) (nI (cst P β pl)) 0 0 s = _ := e2
  rw [e3, b_X4_weigh_15_6, h3, if_pos (nI_le (by omega) (by omega)), lt_e, r2, nI_or, rd_nI (by omega) (by omega), wI_nk (show 23 ≠ 15 by decide), h6 _ hcl]
  have hR' : (R ||| cont P β pl) < 16 ∧ ∀ g, g < P 0 2 → (R ||| cont P β pl).testBit g = anyN (fun pl => vld P β pl && (cont P β pl).testBit g) (pl + 1) := ⟨Nat.or_lt_two_pow (n := 4) r1 (by omega), fun g hg => by rw [Nat.testBit_or, r3 g hg, anyN, hv, Bool.true_and]⟩
  have eo : ∀ S, S ≠ cont P β pl → ext P β S (pl + 1) = ext P β S pl := fun S hS => by rw [ext, if_neg (fun z => hS z.2.1.symm)]
  by_cases q : cOr (ext P β (cont P β pl) pl) ≤ cst P β pl
  · have en : ext P β (cont P β pl) (pl + 1) = ext P β (cont P β pl) pl := by
      rw [ext]
      cases hx : ext P β (cont P β pl) pl with
      | none => rw [hx] at q; exact absurd q (by show ¬ 1000000 ≤ _; omega)
      | some y => rw [if_neg (fun z => by have := z.2.2 y rfl; rw [hx] at q; have q' : y.1 ≤ cst P β pl := q; omega)]
    have ea : ∀ S, ext P β S (pl + 1) = ext P β S pl := fun S => by
      by_cases e : S = cont P β pl
      · rw [e]; exact en
      · exact eo S e
    rw [if_pos (nI_le q (by omega))]
    refine ⟨_, rfl, ⟨fun k k1 k2 k3 k4 => by rw [wI_nk k1]; exact h1 k k1 k2 k3 k4, h2, by rw [wI_nj (by decide)]; exact h3, by rw [wI_nj (by decide)]; exact h4, ⟨_, hR'.1, wI_eq, hR'.2⟩, fun S hS => by rw [wI_nk (by decide), ea]; exact h6 S hS, fun y hy c hc => by rw [ea] at hy; rw [wI_nk (by decide)]; exact h7 y hy c hc⟩, by rw [wI_nk (by decide)]⟩
  · have en : ext P β (cont P β pl) (pl + 1) = some (cst P β pl, pl) := by
      rw [ext, if_pos ⟨hv, rfl, fun y hy => by rw [hy] at q; have q' : ¬ y.1 ≤ cst P β pl := q; omega⟩]
    have hcx : cOr (ext P β (cont P β pl) pl) ≤ 1000000 := by
      cases hx : ext P β (cont P β pl) pl with
      | none => exact Nat.le_refl _
      | some y => have := ext_b hW hB pl y hx; show y.1 ≤ _; omega
    rw [if_neg (nI_ge (by omega) (by omega)), wr_nI (by omega) (by omega), wI_nk (show 15 ≠ 23 by decide), wI_nj (show 9 ≠ 10 by decide), h4, lt_e]
    have tab : ∀ t : ES, t.1 23 = (wI (wI s 15 10 (nI (R ||| cont P β pl))) 23 (cont P β pl) (nI (cst P β pl))).1 23 → ∀ S, S < 2 ^ P 0 2 → t.1 23 S = nI (cOr (ext P β S (pl + 1))) := by
      intro t ht S hS
      rw [ht]
      by_cases e : S = cont P β pl
      · subst e; rw [wI_eq, en]; rfl
      · rw [wI_nj e, wI_nk (by decide), eo S e]; exact h6 S hS
    by_cases a : cont P β pl = 2 ^ P 0 2 - 1
    · rw [if_pos (by rw [a])]
      have k23 : ∀ (t : ES) (f : Nat → Int32) (k : Nat), k ≠ 22 → (wR t 22 f).1 k = t.1 k := fun t f k hk => if_neg hk
      refine ⟨_, rfl, ⟨fun k k1 k2 k3 k4 => by rw [k23 _ _ k k3, wI_nk k4, wI_nk k1]; exact h1 k k1 k2 k3 k4, h2, ?_, ?_, ⟨_, hR'.1, ?_, hR'.2⟩, tab _ (by rw [k23 _ _ 23 (by decide)]), fun y hy c hc => ?_⟩, ?_⟩
      · rw [k23 _ _ 15 (by decide), wI_nk (by decide), wI_nj (by decide)]; exact h3
      · rw [k23 _ _ 15 (by decide), wI_nk (by decide), wI_nj (by decide)]; exact h4
      · rw [k23 _ _ 15 (by decide), wI_nk (by decide), wI_eq]
      · rw [← a, en] at hy
        injection hy with hy
        subst hy
        have : ∀ (t : ES) (f : Nat → Int32), (wR t 22 f).1 22 = f := fun t f => by simp [wR]
        rw [this, pk_cpy_in (by omega) (by omega), wI_nk (by decide), wI_nk (by decide), show 0 + (c - 0) = c by omega]
        exact hf c hc
      · rw [k23 _ _ 21 (by decide), wI_nk (by decide), wI_nk (by decide)]
    · rw [if_neg (fun x => a ((nI_eq (by omega) (by omega)).mp x))]
      refine ⟨_, rfl, ⟨fun k k1 k2 k3 k4 => by rw [wI_nk k4, wI_nk k1]; exact h1 k k1 k2 k3 k4, h2, ?_, ?_, ⟨_, hR'.1, ?_, hR'.2⟩, tab _ rfl, fun y hy c hc => ?_⟩, ?_⟩
      · rw [wI_nk (by decide), wI_nj (by decide)]; exact h3
      · rw [wI_nk (by decide), wI_nj (by decide)]; exact h4
      · rw [wI_nk (by decide), wI_eq]
      · rw [eo _ (fun z => a z.symm)] at hy
        rw [wI_nk (by decide), wI_nk (by decide)]; exact h7 y hy c hc
      · rw [wI_nk (by decide), wI_nk (by decide)]

-- ===== plans: the reference's table =====
theorem misPlan {τ : ES} {P : Nat → Nat → Nat} {β : Nat → Nat} {pl : Nat} (hW : WP P) (hMP : MPt τ P) (hB : WB P β) (hM : MR (τ.1 9) 0 P β) (hp : pl < 2 ^ 31) : e_X8_isPlan (nI pl) τ = some (fI (vld P β pl)) := by
  have w2 := hW.2.1
  unfold e_X8_isPlan b_X8_isPlan_0
  obtain ⟨u, j, e1, e2⟩ := loop_FU (fun n c (_ : Unit) => b_X8_isPlan_4 τ n (nI pl) (fI (allN (fun c => decide (fig pl c = 0) || (decide (c < P 0 1) && decide (β (8 + c) = 0))) c)) (nI c)) (fun _ _ => True) 4 (by omega) (fun n c _ hc _ => ⟨(), trivial, by
    show b_X8_isPlan_4 τ (n + 1) _ _ _ = b_X8_isPlan_4 τ n _ _ _
    have hf := fig_le pl c
    rw [b_X8_isPlan_4, if_neg (show ¬ (4 : Int32) ≤ nI c from nI_ge (b := 4) hc (by omega)), mfigOf hp hc, cl_so]
    simp only [lt_e, nI_1]
    by_cases a : allN (fun c => decide (fig pl c = 0) || (decide (c < P 0 1) && decide (β (8 + c) = 0))) c = true
    · rw [if_neg (fun z => fI_0.mp z a), allN, a, Bool.true_and]
      by_cases e : fig pl c = 0
      · rw [e, if_pos (show nI 0 = 0 from rfl)]; simp [fI]
      · rw [if_neg (nI_ne0 (by omega) (by omega)), hMP.1.2.1]
        by_cases k : c < P 0 1
        · have m3 := ((MR0 hM).1 c k).2.2
          have b := WBc hW hB k
          rw [if_neg (nI_ge k (by omega)), il8, nI_add, rd_nI (by omega) (by omega), m3]
          by_cases z : β (8 + c) = 0
          · rw [z, if_pos (show nI 0 = 0 from rfl)]; simp [k, z, fI]
          · rw [if_neg (nI_ne0 (by omega) (by omega))]; simp [e, z, fI]
        · rw [if_pos (nI_le (by omega) (by omega))]; simp [e, k, fI]
    · rw [if_pos (fI_0.mpr a), allN, show allN (fun c => decide (fig pl c = 0) || (decide (c < P 0 1) && decide (β (8 + c) = 0))) c = false by simpa using a, Bool.false_and]; rfl⟩) () trivial
  have e3 : b_X8_isPlan_4 τ FU (nI pl) 1 0 = _ := e2
  rw [e3, b_X8_isPlan_4, if_pos (show (4 : Int32) ≤ nI 4 by decide)]
  unfold vld
  cases allN (fun c => decide (fig pl c = 0) || (decide (c < P 0 1) && decide (β (8 + c) = 0))) 4 <;> rfl
theorem cst_le {P : Nat → Nat → Nat} {β : Nat → Nat} (hW : WP P) (hB : WB P β) (pl : Nat) : cst P β pl ≤ 216 := by
  have w2 := hW.2.1
  have : cst P β pl ≤ P 0 1 * 54 := sumN_le (fun c hc => by
    have b := WBc hW hB hc
    split
    · omega
    · exact Nat.mul_le_mul b.2.1 b.2.2.2.2.2.1)
  omega
theorem mcost {τ : ES} {P : Nat → Nat → Nat} {β : Nat → Nat} {pl : Nat} (hW : WP P) (hMP : MPt τ P) (hB : WB P β) (hM : MR (τ.1 9) 0 P β) (hp : pl < 2 ^ 31) : e_X8_costOf (nI pl) τ = some (nI (cst P β pl)) := by
  have w2 := hW.2.1
  unfold e_X8_costOf b_X8_costOf_0
  obtain ⟨s, j, e1, e2⟩ := loop_FU (fun n c (s : Nat) => b_X8_costOf_4 τ n (nI pl) (nI s) (nI c)) (fun c s => s = sumN (fun c => if fig pl c = 0 then 0 else β (4 + c) * P 4 c) c) (P 0 1) (by omega) (fun n c s hc hs => ⟨sumN (fun c => if fig pl c = 0 then 0 else β (4 + c) * P 4 c) (c + 1), rfl, by
    subst hs
    show b_X8_costOf_4 τ (n + 1) _ _ _ = b_X8_costOf_4 τ n _ _ _
    have hf := fig_le pl c
    have m2 := ((MR0 hM).1 c hc).2.1
    have p4 := (hMP.2.2.1 c hc).2.2
    rw [b_X8_costOf_4, hMP.1.2.1, if_neg (nI_ge hc (by omega)), mfigOf hp (by omega), cl_so, il4, nI_add, rd_nI (by omega) (by omega), m2, rd_nI (by omega) (by omega), p4, pk_mul, sumN]
    simp only [lt_e, nI_1, nI_add]
    by_cases e : fig pl c = 0
    · rw [e, if_pos (show nI 0 ≤ 0 by decide), if_pos rfl, il0, nI_add]
    · rw [if_neg (nI_nle (by omega) (by omega)), if_neg e]⟩) 0 rfl
  subst e1
  have e3 : b_X8_costOf_4 τ FU (nI pl) 0 0 = _ := e2
  rw [e3, b_X8_costOf_4, hMP.1.2.1, if_pos (nI_le (by omega) (by omega))]
  rfl
theorem bst_b {P : Nat → Nat → Nat} {β : Nat → Nat} (hW : WP P) (hB : WB P β) {S : Nat} : ∀ n q, bst P β S n = some q → q.1 ≤ 216 ∧ q.2 < n := by
  intro n
  induction n with
  | zero => intro q h; exact absurd h (by simp [bst])
  | succ n ih =>
    intro q h
    rw [bst] at h
    by_cases c : vld P β n = true ∧ S &&& cont P β n = S ∧ (∀ q, bst P β S n = some q → cst P β n < q.1)
    · rw [if_pos c] at h
      injection h with h
      subst h
      exact ⟨cst_le hW hB n, by show n < n + 1; omega⟩
    · rw [if_neg c] at h
      have := ih q h
      exact ⟨this.1, by omega⟩
def oC (x : Option (Nat × Nat)) : Option Nat := match x with | none => none | some q => some q.1
def oP (x : Option (Nat × Nat)) : Option Nat := match x with | none => none | some q => some q.2
theorem and_e : ∀ S, S < 16 → ∀ C, C < 16 → ((nI S &&& (nI C ^^^ (-1 : Int32))) = 0 ↔ S &&& C = S) := by decide +kernel
/-- what laying plans leaves -/
def Rp (τ t : ES) : Prop := (∀ k, k ≠ 9 → k ≠ 15 → k ≠ 16 → t.1 k = τ.1 k) ∧ t.2 = τ.2 ∧ ∀ q, q < 18 → t.1 9 q = τ.1 9 q
def At (t : ES) (S : Nat) (x : Option (Nat × Nat)) : Prop := t.1 15 S = oI (oP x) ∧ t.1 16 S = oI (oC x)
theorem Rp.MP {τ t : ES} {P : Nat → Nat → Nat} (h : MPt τ P) (r : Rp τ t) : MPt t P := h.c (fun k q1 q2 => r.1 k (by omega) (by omega) (by omega)) (by rw [r.1 0 (by decide) (by decide) (by decide)]) (by rw [r.1 0 (by decide) (by decide) (by decide)]) (by rw [r.1 0 (by decide) (by decide) (by decide)])
theorem Rp.MR {τ t : ES} {P : Nat → Nat → Nat} {β : Nat → Nat} (hW : WP P) (h : MR (τ.1 9) 0 P β) (r : Rp τ t) : MR (t.1 9) 0 P β := h.c hW (fun q q1 q2 => r.2.2 q (by omega))
theorem ml62 {τ t : ES} {P : Nat → Nat → Nat} {β : Nat → Nat} {pl : Nat} {K : Int32 → ES → Option ES} (hW : WP P) (hMP : MPt τ P) (hB : WB P β) (hv : vld P β pl = true) (hp : pl < 2401) (hR : Rp τ t) (hA : ∀ S, S < 2 ^ P 0 2 → At t S (bst P β S pl)) : ∃ t', b_X8_layPlans_62 K FU (nI pl) (nI (cont P β pl)) (nI (cst P β pl)) 0 t = K (nI (pl + 1)) t' ∧ Rp τ t' ∧ ∀ S, S < 2 ^ P 0 2 → At t' S (bst P β S (pl + 1)) := by
  have w3 := hW.2.2.1
  have h16 : 2 ^ P 0 2 ≤ 16 := Nat.pow_le_pow_right (n := 2) (j := 4) (by decide) w3
  have hc16 : cont P β pl < 16 := Nat.lt_of_lt_of_le (bm_lt _ _) h16
  have hcst := cst_le hW hB pl
  obtain ⟨t', j, ⟨i1, i2⟩, e2⟩ := loop_FU (fun n c (t : ES) => b_X8_layPlans_62 K n (nI pl) (nI (cont P β pl)) (nI (cst P β pl)) (nI c) t) (fun c t => Rp τ t ∧ ∀ S, S < 2 ^ P 0 2 → At t S (bst P β S (if S < c then pl + 1 else pl))) (2 ^ P 0 2) (by omega) (fun n c t hc ht => by
    obtain ⟨h1, h2⟩ := ht
    have z2 : t.1 0 2 = nI (P 0 2) := by rw [h1.1 0 (by decide) (by decide) (by decide)]; exact hMP.1.2.2
    have esh : (1 : Int32) <<< (nI (P 0 2) &&& 31) = nI (2 ^ P 0 2) := by rw [il1]; exact nI_sh _ (by omega)
    have hc1 := h2 c hc
    rw [if_neg (show ¬ c < c by omega)] at hc1
    obtain ⟨x15, x16⟩ := hc1
    have keep : ∀ (b : Bool), ∃ t', Rp τ t' ∧ (∀ S, S < 2 ^ P 0 2 → At t' S (if S = c then (if b then some (cst P β pl, pl) else bst P β c pl) else bst P β S (if S < c then pl + 1 else pl))) ∧ b_X8_layPlans_110 K (fun z0 z1 z2 z3 z4 => b_X8_layPlans_62 K n z0 z1 z2 z3 z4) (nI pl) (nI (cont P β pl)) (nI (cst P β pl)) (nI c) (fI b) t = b_X8_layPlans_62 K n (nI pl) (nI (cont P β pl)) (nI (cst P β pl)) (nI (c + 1)) t' := by
      intro b
      have go : ∀ (u w : Int32) (y : Option (Nat × Nat)), u = oI (oP y) → w = oI (oC y) → Rp τ (wI (wI t 15 c u) 16 c w) ∧ (∀ S, S < 2 ^ P 0 2 → At (wI (wI t 15 c u) 16 c w) S (if S = c then y else bst P β S (if S < c then pl + 1 else pl))) := by
        intro u w y hu hw
        refine ⟨⟨fun k k1 k2 k3 => by rw [wI_nk k3, wI_nk k2]; exact h1.1 k k1 k2 k3, h1.2.1, fun q hq => by rw [wI_nk (by decide), wI_nk (by decide)]; exact h1.2.2 q hq⟩, fun S hS => ?_⟩
        by_cases e : S = c
        · subst e
          rw [if_pos rfl]
          exact ⟨by rw [wI_nk (by decide), wI_eq, hu], by rw [wI_eq, hw]⟩
        · rw [if_neg e]
          exact ⟨by rw [wI_nk (by decide), wI_nj e]; exact (h2 S hS).1, by rw [wI_nj e, wI_nk (by decide)]; exact (h2 S hS).2⟩
      unfold b_X8_layPlans_110 b_X8_layPlans_134 b_X8_layPlans_157
      cases b with
      | true =>
        rw [show fI true = 1 from rfl, if_neg one_ne, wr_nI (by omega) (by omega), if_neg one_ne, wr_nI (by omega) (by omega), lt_e, nI_1]
        obtain ⟨g1, g2⟩ := go (nI pl) (nI (cst P β pl)) (some (cst P β pl, pl)) rfl rfl
        exact ⟨_, g1, g2, rfl⟩
      | false =>
        rw [show fI false = 0 from rfl, if_pos rfl, rd_nI (by omega) (by omega), wr_nI (by omega) (by omega), if_pos rfl, rd_nI (by omega) (by omega), wI_nk (show 16 ≠ 15 by decide), wr_nI (by omega) (by omega), lt_e, nI_1]
        obtain ⟨g1, g2⟩ := go (t.1 15 c) (t.1 16 c) (bst P β c pl) x15 x16
        exact ⟨_, g1, g2, rfl⟩
    have fin : ∀ b : Bool, (if b then some (cst P β pl, pl) else bst P β c pl) = bst P β c (pl + 1) → ∃ t', (Rp τ t' ∧ ∀ S, S < 2 ^ P 0 2 → At t' S (bst P β S (if S < c + 1 then pl + 1 else pl))) ∧ b_X8_layPlans_110 K (fun z0 z1 z2 z3 z4 => b_X8_layPlans_62 K n z0 z1 z2 z3 z4) (nI pl) (nI (cont P β pl)) (nI (cst P β pl)) (nI c) (fI b) t = b_X8_layPlans_62 K n (nI pl) (nI (cont P β pl)) (nI (cst P β pl)) (nI (c + 1)) t' := by
      intro b hb
      obtain ⟨t', k1, k2, k3⟩ := keep b
      refine ⟨t', ⟨k1, fun S hS => ?_⟩, k3⟩
      have := k2 S hS
      by_cases e : S = c
      · subst e
        rw [if_pos rfl, hb] at this
        rw [if_pos (by omega)]; exact this
      · rw [if_neg e] at this
        by_cases e2 : S < c
        · rw [if_pos e2] at this
          rw [if_pos (by omega)]; exact this
        · rw [if_neg e2] at this
          rw [if_neg (by omega)]; exact this
    show ∃ t', (Rp τ t' ∧ ∀ S, S < 2 ^ P 0 2 → At t' S (bst P β S (if S < c + 1 then pl + 1 else pl))) ∧ b_X8_layPlans_62 K (n + 1) _ _ _ _ _ = b_X8_layPlans_62 K n _ _ _ _ _
    rw [b_X8_layPlans_62, z2, esh, if_neg (nI_ge hc (by omega))]
    by_cases s : c &&& cont P β pl = c
    · rw [if_pos ((and_e c (by omega) _ hc16).mpr s), rd_nI (by omega) (by omega), rd_nI (by omega) (by omega), x16]
      cases hb : bst P β c pl with
      | none =>
        rw [show oI (oC none) = -9 from rfl, if_pos rfl]
        refine fin true (show some (cst P β pl, pl) = bst P β c (pl + 1) from ?_)
        rw [bst, if_pos ⟨hv, s, fun q hq => by rw [hb] at hq; exact absurd hq (by simp)⟩]
      | some q =>
        have hq := (bst_b hW hB pl q hb).1
        rw [show oI (oC (some q)) = nI q.1 from rfl, if_neg (nI_ne9 (by omega))]
        by_cases l : q.1 ≤ cst P β pl
        · rw [if_pos (nI_le l (by omega))]
          refine fin false (show bst P β c pl = bst P β c (pl + 1) from ?_)
          rw [bst, if_neg (fun z => by have := z.2.2 q hb; omega)]
        · rw [if_neg (nI_ge (by omega) (by omega))]
          refine fin true (show some (cst P β pl, pl) = bst P β c (pl + 1) from ?_)
          rw [bst, if_pos ⟨hv, s, fun q' hq' => by rw [hb] at hq'; injection hq' with hq'; subst hq'; omega⟩]
    · rw [if_neg (fun z => s ((and_e c (by omega) _ hc16).mp z))]
      refine fin false (show bst P β c pl = bst P β c (pl + 1) from ?_)
      rw [bst, if_neg (fun z => s z.2.1)]) t ⟨hR, fun S hS => by rw [if_neg (by omega)]; exact hA S hS⟩
  have e3 : b_X8_layPlans_62 K FU (nI pl) (nI (cont P β pl)) (nI (cst P β pl)) 0 t = _ := e2
  have z2 : t'.1 0 2 = nI (P 0 2) := by rw [i1.1 0 (by decide) (by decide) (by decide)]; exact hMP.1.2.2
  have esh : (1 : Int32) <<< (nI (P 0 2) &&& 31) = nI (2 ^ P 0 2) := by rw [il1]; exact nI_sh _ (by omega)
  refine ⟨t', ?_, i1, fun S hS => by have := i2 S hS; rw [if_pos hS] at this; exact this⟩
  rw [e3, b_X8_layPlans_62, z2, esh, if_pos (nI_le (by omega) (by omega)), lt_e, nI_1]
theorem mplans {τ : ES} {P : Nat → Nat → Nat} {β : Nat → Nat} (hW : WP P) (hMP : MPt τ P) (hB : WB P β) (hM : MR (τ.1 9) 0 P β) : ∃ t, e_X8_layPlans τ = some t ∧ Rp τ t ∧ ∀ S, S < 2 ^ P 0 2 → At t S (bst P β S 2401) := by
  have w3 := hW.2.2.1
  have h16 : 2 ^ P 0 2 ≤ 16 := Nat.pow_le_pow_right (n := 2) (j := 4) (by decide) w3
  unfold e_X8_layPlans b_X8_layPlans_0
  obtain ⟨t, j, ⟨i1, i2⟩, e2⟩ := loop_FU (fun n c (t : ES) => b_X8_layPlans_2 n (nI c) t) (fun c t => Rp τ t ∧ ∀ S, S < c → At t S none) 16 (by omega) (fun n c t hc ht => ⟨wI (wI t 15 c (-9)) 16 c (-9), ⟨⟨fun k k1 k2 k3 => by rw [wI_nk k3, wI_nk k2]; exact ht.1.1 k k1 k2 k3, ht.1.2.1, fun q hq => by rw [wI_nk (by decide), wI_nk (by decide)]; exact ht.1.2.2 q hq⟩, fun S hS => by
      by_cases e : S = c
      · subst e
        exact ⟨by rw [wI_nk (by decide), wI_eq]; rfl, by rw [wI_eq]; rfl⟩
      · exact ⟨by rw [wI_nk (by decide), wI_nj e]; exact (ht.2 S (by omega)).1, by rw [wI_nj e, wI_nk (by decide)]; exact (ht.2 S (by omega)).2⟩⟩, by
      show b_X8_layPlans_2 (n + 1) _ _ = b_X8_layPlans_2 n _ _
      rw [b_X8_layPlans_2, if_neg (show ¬ (16 : Int32) ≤ nI c from nI_ge (b := 16) hc (by omega)), wr_nI (by omega) (by omega), wr_nI (by omega) (by omega), lt_e, nI_1]⟩) τ ⟨⟨fun _ _ _ _ => rfl, rfl, fun _ _ => rfl⟩, fun S hS => by omega⟩
  have e3 : b_X8_layPlans_2 FU 0 τ = _ := e2
  rw [e3, b_X8_layPlans_2, if_pos (show (16 : Int32) ≤ nI 16 by decide)]
  obtain ⟨t', j, ⟨k1, k2⟩, e4⟩ := loop_FU (fun n c (t : ES) => b_X8_layPlans_32 n (nI c) t) (fun c t => Rp τ t ∧ ∀ S, S < 2 ^ P 0 2 → At t S (bst P β S c)) 2401 (by omega) (fun n c t hc ht => by
    obtain ⟨h1, h2⟩ := ht
    have hMPt : MPt t P := Rp.MP hMP h1
    have hMt : MR (t.1 9) 0 P β := Rp.MR hW hM h1
    show ∃ t', (Rp τ t' ∧ ∀ S, S < 2 ^ P 0 2 → At t' S (bst P β S (c + 1))) ∧ b_X8_layPlans_32 (n + 1) _ _ = b_X8_layPlans_32 n _ _
    rw [b_X8_layPlans_32, if_neg (show ¬ (2401 : Int32) ≤ nI c from nI_ge (b := 2401) hc (by omega)), misPlan hW hMPt hB hMt (by omega), cl_so]
    by_cases v : vld P β c = true
    · rw [if_neg (fun z => fI_0.mp z v)]
      obtain ⟨s, g1, g2⟩ := mcontent hW hMPt hB hMt v (show c < 2 ^ 31 by omega)
      have hs : Rp τ s := ⟨fun k a1 a2 a3 => by rw [g2.1.1 k a1]; exact h1.1 k a1 a2 a3, by rw [g2.1.2]; exact h1.2.1, fun q hq => by rw [g2.2 q (by omega)]; exact h1.2.2 q hq⟩
      have hMPs : MPt s P := Rp.MP hMP hs
      have hMs : MR (s.1 9) 0 P β := Rp.MR hW hM hs
      rw [g1, cs_so, mcost hW hMPs hB hMs (by omega), cl_so]
      obtain ⟨t', a1, a2, a3⟩ := ml62 (K := fun z0 z1 => b_X8_layPlans_32 n z0 z1) hW hMP hB v hc hs (fun S hS => by
        have := h2 S hS
        exact ⟨by rw [g2.1.1 15 (by decide)]; exact this.1, by rw [g2.1.1 16 (by decide)]; exact this.2⟩)
      exact ⟨t', ⟨a2, a3⟩, a1⟩
    · rw [if_pos (fI_0.mpr v), lt_e, nI_1]
      refine ⟨t, ⟨h1, fun S hS => ?_⟩, rfl⟩
      rw [bst, if_neg (fun z => v z.1)]
      exact h2 S hS) t ⟨i1, fun S hS => i2 S (by omega)⟩
  have e5 : b_X8_layPlans_32 FU 0 t = _ := e4
  exact ⟨t', by rw [e5, b_X8_layPlans_32, if_pos (show (2401 : Int32) ≤ nI 2401 by decide)], k1, k2⟩

-- ===== plans: the reference's evening by a plan, as a whole =====
def bq (β : Nat → Nat) (pl c t : Nat) : Nat := if stp β pl c = 0 then 0 else min (t + 1 - stp β pl c) (β (4 + c))
def wg (P : Nat → Nat → Nat) (β : Nat → Nat) (pl g t : Nat) : Bool := decide (P 7 g ≤ β 17 + t ∧ β 17 + t ≤ P 8 g) && gv P β pl t (P 5 g)
def Sim (P : Nat → Nat → Nat) (β : Nat → Nat) (pl t : Nat) (γ : Nat → Nat) : Prop := (∀ c, c < P 0 1 → γ c = β c + bq β pl c t ∧ γ (4 + c) = β (4 + c) - bq β pl c t ∧ γ (8 + c) = (if β (8 + c) = 1 ∨ (1 ≤ fig pl c ∧ fig pl c ≤ t) then (if bq β pl c t = β (4 + c) then 2 else 1) else β (8 + c))) ∧ (∀ g, g < P 0 2 → γ (12 + g) = β (12 + g) + cnt (wg P β pl g) t) ∧ γ 17 = β 17 + t
theorem vld_c {P : Nat → Nat → Nat} {β : Nat → Nat} {pl : Nat} (h : vld P β pl = true) {c : Nat} (hc : c < 4) : fig pl c = 0 ∨ (c < P 0 1 ∧ β (8 + c) = 0) := by
  unfold vld at h
  have : ∀ n, allN (fun c => decide (fig pl c = 0) || (decide (c < P 0 1) && decide (β (8 + c) = 0))) n = true → ∀ c, c < n → fig pl c = 0 ∨ (c < P 0 1 ∧ β (8 + c) = 0) := by
    intro n
    induction n with
    | zero => intro _ c hc; omega
    | succ n ih =>
      intro h c hc
      rw [allN, Bool.and_eq_true] at h
      by_cases e : c = n
      · subst e
        have := h.2
        simp only [Bool.or_eq_true, Bool.and_eq_true, decide_eq_true_eq] at this
        exact this
      · exact ih h.1 c (by omega)
  exact this 4 h c hc
/-- all that a candle's numbers keep -/
theorem cnd_facts {P : Nat → Nat → Nat} {β : Nat → Nat} {pl c : Nat} (hW : WP P) (hB : WB P β) (hv : vld P β pl = true) (hc : c < P 0 1) : (β (8 + c) = 1 → stp β pl c = 1 ∧ fig pl c = 0) ∧ (β (8 + c) ≠ 1 → stp β pl c = fig pl c) ∧ (β (8 + c) ≠ 2 → 1 ≤ β (4 + c)) ∧ β (8 + c) ≤ 2 ∧ (fig pl c ≠ 0 → β (8 + c) = 0) ∧ β (4 + c) ≤ 6 ∧ fig pl c ≤ 6 := by
  have b := WBc hW hB hc
  have v := vld_c hv (c := c) (by have := hW.2.1; omega)
  have f := fig_le pl c
  unfold stp
  refine ⟨fun h => ⟨if_pos h, by omega⟩, fun h => if_neg h, b.2.2.2.2.1, b.2.2.1, fun h => by omega, b.2.1, f⟩
theorem Sim.z {P : Nat → Nat → Nat} {β : Nat → Nat} {pl : Nat} (hW : WP P) (hB : WB P β) (hv : vld P β pl = true) : Sim P β pl 0 β := by
  refine ⟨fun c hc => ?_, fun g hg => by rw [cnt]; rfl, rfl⟩
  obtain ⟨a1, a2, a3, a4, a5, a6, a7⟩ := cnd_facts hW hB hv hc
  have e : bq β pl c 0 = 0 := by
    unfold bq
    split
    · rfl
    · omega
  rw [e]
  refine ⟨rfl, rfl, ?_⟩
  by_cases h : β (8 + c) = 1
  · rw [if_pos (Or.inl h), if_neg (by have := a3 (by omega); omega), h]
  · rw [if_neg (by omega)]
/-- what the candle is after it may have been lit -/
theorem Sim.lit {P : Nat → Nat → Nat} {β γ : Nat → Nat} {pl t : Nat} (hW : WP P) (hB : WB P β) (hv : vld P β pl = true) (h : Sim P β pl t γ) {c : Nat} (hc : c < P 0 1) : lgt γ pl (t + 1) (P 0 1) (8 + c) = (if β (8 + c) = 1 ∨ (1 ≤ fig pl c ∧ fig pl c ≤ t + 1) then (if bq β pl c t = β (4 + c) then 2 else 1) else β (8 + c)) ∧ (lgt γ pl (t + 1) (P 0 1) (8 + c) = 1 ↔ 1 ≤ stp β pl c ∧ stp β pl c ≤ t + 1 ∧ t + 1 - stp β pl c < β (4 + c)) ∧ bq β pl c (t + 1) = (if lgt γ pl (t + 1) (P 0 1) (8 + c) = 1 then bq β pl c t + 1 else bq β pl c t) ∧ bq β pl c t ≤ β (4 + c) ∧ (lgt γ pl (t + 1) (P 0 1) (8 + c) = 1 → bq β pl c t = t + 1 - stp β pl c) := by
  obtain ⟨a1, a2, a3, a4, a5, a6, a7⟩ := cnd_facts hW hB hv hc
  have s := (h.1 c hc).2.2
  rw [lgt_f hc, s]
  generalize hst : stp β pl c = st at *
  have q0 : bq β pl c t = if st = 0 then 0 else min (t + 1 - st) (β (4 + c)) := by unfold bq; rw [hst]
  have q1 : bq β pl c (t + 1) = if st = 0 then 0 else min (t + 1 + 1 - st) (β (4 + c)) := by unfold bq; rw [hst]
  rw [q0, q1]
  generalize β (4 + c) = L at *
  generalize β (8 + c) = b at *
  generalize fig pl c = f at *
  by_cases e1 : b = 1
  · obtain ⟨x1, x2⟩ := a1 e1
    subst x1; subst x2; subst e1
    have := a3 (by omega)
    rw [if_neg (show ¬ 0 = t + 1 by omega), if_pos (Or.inl rfl), if_pos (Or.inl rfl), if_neg (show ¬ 1 = 0 by omega), if_neg (show ¬ 1 = 0 by omega)]
    by_cases e2 : min (t + 1 - 1) L = L
    · rw [if_pos e2]
      refine ⟨rfl, ⟨fun z => by omega, fun z => by omega⟩, by rw [if_neg (by omega)]; omega, by omega, fun z => by omega⟩
    · rw [if_neg e2]
      refine ⟨rfl, ⟨fun z => by omega, fun z => rfl⟩, by rw [if_pos rfl]; omega, by omega, fun z => by omega⟩
  · have x1 := a2 e1
    subst x1
    by_cases e2 : st = 0
    · subst e2
      rw [if_neg (show ¬ 0 = t + 1 by omega), if_neg (show ¬ (b = 1 ∨ (1 ≤ 0 ∧ 0 ≤ t)) by omega), if_neg (show ¬ (b = 1 ∨ (1 ≤ 0 ∧ 0 ≤ t + 1)) by omega), if_pos rfl, if_pos rfl]
      refine ⟨rfl, ⟨fun z => absurd z e1, fun z => by omega⟩, by rw [if_neg e1], by omega, fun z => absurd z e1⟩
    · have b0 := a5 e2
      have L1 := a3 (by omega)
      rw [if_neg e2, if_neg e2]
      by_cases e3 : st = t + 1
      · rw [if_pos e3, if_pos (show b = 1 ∨ (1 ≤ st ∧ st ≤ t + 1) by omega), if_neg (show ¬ min (t + 1 - st) L = L by omega), if_pos rfl]
        refine ⟨rfl, ⟨fun z => by omega, fun z => rfl⟩, by omega, by omega, fun z => by omega⟩
      · rw [if_neg e3]
        by_cases e4 : st ≤ t
        · rw [if_pos (show b = 1 ∨ (1 ≤ st ∧ st ≤ t) by omega), if_pos (show b = 1 ∨ (1 ≤ st ∧ st ≤ t + 1) by omega)]
          by_cases e5 : min (t + 1 - st) L = L
          · rw [if_pos e5]
            refine ⟨rfl, ⟨fun z => by omega, fun z => by omega⟩, by rw [if_neg (by omega)]; omega, by omega, fun z => by omega⟩
          · rw [if_neg e5]
            refine ⟨rfl, ⟨fun z => by omega, fun z => rfl⟩, by rw [if_pos rfl]; omega, by omega, fun z => by omega⟩
        · rw [if_neg (show ¬ (b = 1 ∨ (1 ≤ st ∧ st ≤ t)) by omega), if_neg (show ¬ (b = 1 ∨ (1 ≤ st ∧ st ≤ t + 1)) by omega)]
          refine ⟨rfl, ⟨fun z => absurd z e1, fun z => by omega⟩, by rw [if_neg e1]; omega, by omega, fun z => absurd z e1⟩
theorem Sim.wb {P : Nat → Nat → Nat} {β γ : Nat → Nat} {pl t : Nat} (hW : WP P) (hB : WB P β) (hv : vld P β pl = true) (h : Sim P β pl t γ) (ht : β 17 + t ≤ 20) : WB P (lgt γ pl (t + 1) (P 0 1)) := by
  have w2 := hW.2.1
  obtain ⟨b1, b2, b3⟩ := hB
  refine ⟨fun c hc => ?_, fun g hg => ?_, ?_⟩
  · obtain ⟨s1, s2, s3, s4, s5⟩ := h.lit hW ⟨b1, b2, b3⟩ hv hc
    obtain ⟨g1, g2, g3⟩ := h.1 c hc
    obtain ⟨c1, c2, c3, c4⟩ := b1 c hc
    obtain ⟨a1, a2, a3, a4, a5, a6, a7⟩ := cnd_facts hW ⟨b1, b2, b3⟩ hv hc
    rw [lgt_o (q := c) (by omega), lgt_o (q := 4 + c) (by omega), g1, g2, s1]
    refine ⟨by omega, by omega, ?_, ?_⟩
    · split
      · split <;> omega
      · omega
    · intro z
      by_cases e : β (8 + c) = 1 ∨ (1 ≤ fig pl c ∧ fig pl c ≤ t + 1)
      · rw [if_pos e] at z
        by_cases e2 : bq β pl c t = β (4 + c)
        · rw [if_pos e2] at z; exact absurd rfl z
        · omega
      · rw [if_neg e] at z
        have := c4 z
        have e3 : bq β pl c t = 0 := by
          unfold bq
          rw [a2 (by omega)]
          split
          · rfl
          · omega
        omega
  · rw [lgt_o (by omega), lgt_o (by omega), h.2.1 g hg, h.2.2]
    have := b2 g hg
    have := cnt_le (wg P β pl g) t
    omega
  · rw [lgt_o (by omega), h.2.2]; exact ht
theorem anyN_congr {f g : Nat → Bool} {n : Nat} (h : ∀ c, c < n → f c = g c) : anyN f n = anyN g n := by
  induction n with
  | zero => rfl
  | succ n ih => rw [anyN, anyN, ih (fun c hc => h c (by omega)), h n (by omega)]
theorem Sim.next {P : Nat → Nat → Nat} {β γ : Nat → Nat} {pl t : Nat} (hW : WP P) (hB : WB P β) (hv : vld P β pl = true) (h : Sim P β pl t γ) : Sim P β pl (t + 1) (nx P (lgt γ pl (t + 1) (P 0 1))) := by
  have w2 := hW.2.1
  have w3 := hW.2.2.1
  refine ⟨fun c hc => ?_, fun g hg => ?_, ?_⟩
  · obtain ⟨s1, s2, s3, s4, s5⟩ := h.lit hW hB hv hc
    obtain ⟨g1, g2, g3⟩ := h.1 c hc
    obtain ⟨n1, n2, n3⟩ := nx_c (P := P) (β := lgt γ pl (t + 1) (P 0 1)) w2 hc
    obtain ⟨a1, a2, a3, a4, a5, a6, a7⟩ := cnd_facts hW hB hv hc
    rw [n1, n2, n3, lgt_o (q := c) (by omega), lgt_o (q := 4 + c) (by omega), g1, g2, s3]
    by_cases e : lgt γ pl (t + 1) (P 0 1) (8 + c) = 1
    · rw [if_pos e, if_pos e, if_pos e, if_pos e]
      have e' := s2.mp e
      have e5 := s5 e
      refine ⟨by omega, by omega, ?_⟩
      rw [if_pos (show β (8 + c) = 1 ∨ (1 ≤ fig pl c ∧ fig pl c ≤ t + 1) by
        by_cases q : β (8 + c) = 1
        · exact Or.inl q
        · rw [a2 q] at e'; exact Or.inr ⟨e'.1, e'.2.1⟩)]
      by_cases q : β (4 + c) - bq β pl c t = 1
      · rw [if_pos q, if_pos (by omega)]
      · rw [if_neg q, if_neg (by omega)]
    · rw [if_neg e, if_neg e, if_neg e, if_neg e]
      exact ⟨rfl, rfl, s1⟩
  · rw [nx_h w2 w3 hg, lgt_o (by omega), h.2.1 g hg, cnt, Nat.add_assoc]
    have e : got P (lgt γ pl (t + 1) (P 0 1)) g = wg P β pl g t := by
      unfold got wg gvn gv
      rw [lgt_o (q := 17) (by omega), h.2.2]
      congr 1
      refine anyN_congr (fun c hc => ?_)
      obtain ⟨s1, s2, s3, s4, s5⟩ := h.lit hW hB hv hc
      obtain ⟨g1, g2, g3⟩ := h.1 c hc
      rw [lgt_o (q := c) (by omega), g1]
      by_cases e : lgt γ pl (t + 1) (P 0 1) (8 + c) = 1
      · have e' := s2.mp e
        rw [s5 e]
        simp [e, e'.1, e'.2.1, e'.2.2]
      · have : ¬ (1 ≤ stp β pl c ∧ stp β pl c ≤ t + 1 ∧ t + 1 - stp β pl c < β (4 + c)) := fun z => e (s2.mpr z)
        rw [decide_eq_false (fun z => e z.1), decide_eq_false (fun z => this ⟨z.1, z.2.1, z.2.2.1⟩)]
    rw [e]
  · rw [nx_17, lgt_o (by omega), h.2.2]; omega
theorem cnt_more {f : Nat → Bool} {a b : Nat} (h : ∀ t, a ≤ t ∨ b ≤ t → f t = false) : cnt f a = cnt f b := by
  have key : ∀ d a, (∀ t, a ≤ t → f t = false) → cnt f (a + d) = cnt f a := by
    intro d
    induction d with
    | zero => intro a _; rfl
    | succ d ih =>
      intro a ha
      rw [← Nat.add_assoc, cnt, ih a ha, ha (a + d) (by omega)]; rfl
  rcases Nat.le_total a b with q | q
  · have := key (b - a) a (fun t ht => h t (Or.inl ht))
    rw [show a + (b - a) = b by omega] at this
    exact this.symm
  · have := key (a - b) b (fun t ht => h t (Or.inr ht))
    rw [show b + (a - b) = a by omega] at this
    exact this
theorem gv_late {P : Nat → Nat → Nat} {β : Nat → Nat} {pl t w : Nat} (hW : WP P) (hB : WB P β) (hv : vld P β pl = true) (ht : 12 ≤ t) : gv P β pl t w = false := by
  rw [← Bool.not_eq_true]
  intro h
  unfold gv at h
  obtain ⟨c, hc, h⟩ := anyN_t.mp h
  rw [decide_eq_true_eq] at h
  obtain ⟨a1, a2, a3, a4, a5, a6, a7⟩ := cnd_facts hW hB hv hc
  by_cases e : β (8 + c) = 1
  · rw [(a1 e).1] at h; omega
  · rw [a2 e] at h; omega
/-- enough turns: what the guests have is what they will have -/
theorem Sim.had {P : Nat → Nat → Nat} {β γ : Nat → Nat} {pl t : Nat} (hW : WP P) (hB : WB P β) (hv : vld P β pl = true) (h : Sim P β pl t γ) {g : Nat} (hg : g < P 0 2) (hend : 20 ≤ β 17 + t ∨ ∀ u, t ≤ u → ∀ w, gv P β pl u w = false) : γ (12 + g) = hadF P β pl g := by
  rw [h.2.1 g hg]
  unfold hadF
  have w := hW.2.2.2.2.2 g hg
  have : cnt (wg P β pl g) t = cnt (wg P β pl g) 16 := cnt_more (fun u hu => by
    unfold wg
    rcases hu with q | q
    · rcases hend with z | z
      · rw [decide_eq_false (by omega), Bool.false_and]
      · rw [z u q, Bool.and_false]
    · rw [gv_late hW hB hv (by omega), Bool.and_false])
  rw [this]
  rfl
theorem Sim_cont {P : Nat → Nat → Nat} {β γ : Nat → Nat} {pl t : Nat} (hW : WP P) (hB : WB P β) (hv : vld P β pl = true) (h : Sim P β pl t γ) (hend : 20 ≤ β 17 + t ∨ ∀ u, t ≤ u → ∀ w, gv P β pl u w = false) : bm (fun g => decide (P 6 g ≤ γ (12 + g))) (P 0 2) = cont P β pl := by
  unfold cont
  exact bm_congr (fun g hg => by rw [h.had hW hB hv hg hend])
theorem mc10 {τ : ES} {P : Nat → Nat → Nat} {β : Nat → Nat} {pl : Nat} (hW : WP P) (hMP : MPt τ P) (hB : WB P β) (hv : vld P β pl = true) (hp : pl < 2 ^ 31) : ∀ m t s γ n, β 17 + t + m = 20 → Rw τ s 18 → MR (s.1 9) 18 P γ → Sim P β pl t γ → m + 1 < n → ∃ s', b_X8_contentBy_10 n (nI pl) 1 (nI (t + 1)) s = some (nI (cont P β pl), s') ∧ Rw τ s' 18 := by
  have w2 := hW.2.1
  have w3 := hW.2.2.1
  intro m
  induction m with
  | zero =>
    intro t s γ n e hR hM hS hn
    obtain ⟨n, rfl⟩ : ∃ k, n = k + 1 := ⟨n - 1, by omega⟩
    have h17 : s.1 9 35 = nI (γ 17) := (MR_u.mp hM).2.2.2.2.2
    have hMP' : MPt s P := hMP.k hR.1
    rw [b_X8_contentBy_10, show (35 : Int32) = nI 35 by decide, rd_nI (by omega) (by omega), h17, hS.2.2, il20, if_pos (nI_le (by omega) (by omega)), mc139 (τ := τ) hW hMP' hM (fun g hg => by
      rw [hS.2.1 g hg]
      have := WBg hW hB hg
      have := cnt_le (wg P β pl g) t
      omega), Sim_cont hW hB hv hS (Or.inl (by omega))]
    exact ⟨s, rfl, hR⟩
  | succ m ih =>
    intro t s γ n e hR hM hS hn
    obtain ⟨n, rfl⟩ : ∃ k, n = k + 1 + 1 := ⟨n - 2, by omega⟩
    have h17 : s.1 9 35 = nI (γ 17) := (MR_u.mp hM).2.2.2.2.2
    have hwb := hS.wb hW hB hv (by omega)
    obtain ⟨s1, g1, g2, g3⟩ := mc31 (τ := τ) (t := s) (γ := γ) (pl := pl) (v := t + 1) (K := fun z0 z1 z2 z3 => b_X8_contentBy_10 (n + 1) z0 z1 z2 z3) hW hMP hp (by omega) hR hM (fun c hc => by
      rw [(hS.1 c hc).2.2]
      have := (cnd_facts hW hB hv hc).2.2.2.1
      split
      · split <;> omega
      · omega)
    have hMP1 : MPt s1 P := hMP.k g2.1
    rw [b_X8_contentBy_10, show (35 : Int32) = nI 35 by decide, rd_nI (by omega) (by omega), h17, hS.2.2, il20, if_neg (nI_ge (by omega) (by omega)), if_neg one_ne, g1]
    unfold b_X8_contentBy_117
    by_cases q : (anyN (fun c => decide (t + 1 < fig pl c)) (P 0 1) || decide (0 < cnt (fun c => decide (lgt γ pl (t + 1) (P 0 1) (8 + c) = 1)) (P 0 1))) = true
    · obtain ⟨s2, p1, p2, p3⟩ := mpass (L := 1) (by omega) hW hMP1 hwb g3
      rw [q, show fI true = 1 from rfl, if_neg one_ne, il1, p1, cs_so, lt_e, nI_add, ← il1]
      exact ih (t + 1) s2 _ (n + 1) (by omega) ⟨⟨fun k hk => by rw [p2.1.1 k hk, g2.1.1 k hk], by rw [p2.1.2, g2.1.2]⟩, fun x hx => by rw [p2.2 x (by omega), g2.2 x hx]⟩ p3 (hS.next hW hB hv) (by omega)
    · have hend : ∀ u, t ≤ u → ∀ w, gv P β pl u w = false := by
        intro u hu w
        rw [← Bool.not_eq_true]
        intro h
        unfold gv at h
        obtain ⟨c, hc, h⟩ := anyN_t.mp h
        rw [decide_eq_true_eq] at h
        obtain ⟨k1, k2, k3, k4, k5⟩ := hS.lit hW hB hv hc
        obtain ⟨a1, a2, a3, a4, a5, a6, a7⟩ := cnd_facts hW hB hv hc
        apply q
        rw [Bool.or_eq_true]
        by_cases z : stp β pl c ≤ t + 1
        · refine Or.inr ?_
          rw [decide_eq_true_eq]
          exact cnt_pos.mpr ⟨c, hc, by rw [decide_eq_true_eq]; exact k2.mpr ⟨h.1, z, by omega⟩⟩
        · refine Or.inl (anyN_t.mpr ⟨c, hc, ?_⟩)
          rw [decide_eq_true_eq]
          by_cases y : β (8 + c) = 1
          · rw [(a1 y).1] at z; omega
          · rw [a2 y] at z; omega
      have h17' : s1.1 9 35 = nI (lgt γ pl (t + 1) (P 0 1) 17) := (MR_u.mp g3).2.2.2.2.2
      have had : ∀ g, g < P 0 2 → lgt γ pl (t + 1) (P 0 1) (12 + g) = γ (12 + g) := fun g hg => lgt_o (by omega)
      have e139 := mc139 (τ := τ) hW hMP1 g3 (fun g hg => by
        rw [had g hg, hS.2.1 g hg]
        have := WBg hW hB hg
        have := cnt_le (wg P β pl g) t
        omega)
      rw [bm_congr (g := fun g => decide (P 6 g ≤ γ (12 + g))) (fun g hg => by rw [had g hg]), Sim_cont hW hB hv hS (Or.inr hend)] at e139
      rw [show (anyN (fun c => decide (t + 1 < fig pl c)) (P 0 1) || decide (0 < cnt (fun c => decide (lgt γ pl (t + 1) (P 0 1) (8 + c) = 1)) (P 0 1))) = false by simpa using q, show fI false = 0 from rfl, if_pos rfl, lt_e]
      show ∃ s', b_X8_contentBy_10 (n + 1) (nI pl) 0 (nI (t + 1) + 1) s1 = some (nI (cont P β pl), s') ∧ Rw τ s' 18
      rw [b_X8_contentBy_10, show (35 : Int32) = nI 35 by decide, rd_nI (by omega) (by omega), if_pos (show (0 : Int32) = 0 from rfl), ite_self, e139]
      exact ⟨s1, rfl, g2⟩
theorem mcontent {τ : ES} {P : Nat → Nat → Nat} {β : Nat → Nat} {pl : Nat} (hW : WP P) (hMP : MPt τ P) (hB : WB P β) (hM : MR (τ.1 9) 0 P β) (hv : vld P β pl = true) (hp : pl < 2 ^ 31) : ∃ s, e_X8_contentBy (nI pl) τ = some (nI (cont P β pl), s) ∧ Rw τ s 18 := by
  unfold e_X8_contentBy b_X8_contentBy_0
  obtain ⟨t, e1, e2, e3⟩ := mlay hW hM
  rw [e1, cl_so]
  have b3 := hB.2.2
  obtain ⟨s, a1, a2⟩ := mc10 hW hMP hB hv hp (20 - β 17) 0 t β FU (by omega) e2 e3 (Sim.z hW hB hv) (by unfold FU; omega)
  exact ⟨s, a1, a2⟩

theorem figL {e m r : Nat} (he : e ≤ 3) (hr : r < 7 ^ (e + 1)) (hp : 7 ^ (e + 1) * m + r < 2401) : (∀ k, k < 3 - e → fig (7 ^ (e + 1) * m + r) k = fig (7 ^ (e + 1) * m) k) ∧ fig (7 ^ (e + 1) * m + r) (3 - e) = r / 7 ^ e := by
  unfold fig
  have : e = 0 ∨ e = 1 ∨ e = 2 ∨ e = 3 := by omega
  rcases this with z | z | z | z <;> subst z
  · simp only [Nat.reduceAdd, Nat.reduceSub, Nat.reducePow, Nat.sub_self, Nat.pow_zero, Nat.zero_add, Nat.pow_one, Nat.sub_zero, Nat.div_one] at *
    refine ⟨fun k hk => ?_, by omega⟩
    have : k = 0 ∨ k = 1 ∨ k = 2 := by omega
    rcases this with z | z | z <;> subst z <;> simp only [Nat.reduceSub, Nat.reducePow, Nat.sub_zero] <;> omega
  · simp only [Nat.reduceAdd, Nat.reduceSub, Nat.reducePow, Nat.pow_one] at *
    refine ⟨fun k hk => ?_, by omega⟩
    have : k = 0 ∨ k = 1 := by omega
    rcases this with z | z <;> subst z <;> simp only [Nat.reduceSub, Nat.reducePow, Nat.sub_zero] <;> omega
  · simp only [Nat.reduceAdd, Nat.reduceSub, Nat.reducePow] at *
    refine ⟨fun k hk => ?_, by omega⟩
    have : k = 0 := by omega
    subst this
    simp only [Nat.reduceSub, Nat.reducePow, Nat.sub_zero]; omega
  · simp only [Nat.reduceAdd, Nat.reduceSub, Nat.reducePow, Nat.sub_self, Nat.sub_zero] at *
    exact ⟨fun k hk => by omega, by omega⟩
def stB (P : Nat → Nat → Nat) (β : Nat → Nat) (c b : Nat) : Bool := anyN (fun k => decide (k < P 0 1 ∧ β (8 + k) = 1) && sf P β k 1 b) c
def GP (P : Nat → Nat → Nat) (β : Nat → Nat) (c p b : Nat) : Bool := stB P β 4 b || anyN (fun k => sf P β k (fig p k) b) c
def cp (P : Nat → Nat → Nat) (β : Nat → Nat) (c p : Nat) : Nat := sumN (fun k => if fig p k = 0 then 0 else P 4 k * β (4 + k)) c
theorem vld_of {P : Nat → Nat → Nat} {β : Nat → Nat} {pl : Nat} (h : ∀ c, c < 4 → fig pl c = 0 ∨ (c < P 0 1 ∧ β (8 + c) = 0)) : vld P β pl = true := by
  unfold vld
  have : ∀ n, n ≤ 4 → allN (fun c => decide (fig pl c = 0) || (decide (c < P 0 1) && decide (β (8 + c) = 0))) n = true := by
    intro n
    induction n with
    | zero => intro _; rfl
    | succ n ih =>
      intro hn
      rw [allN, ih (by omega), Bool.true_and]
      simp only [Bool.or_eq_true, Bool.and_eq_true, decide_eq_true_eq]
      exact h n (by omega)
  exact this 4 (by omega)
theorem GP_gv {P : Nat → Nat → Nat} {β : Nat → Nat} {pl : Nat} (hW : WP P) (hB : WB P β) (hv : vld P β pl = true) {b : Nat} : GP P β 4 pl b = gv P β pl (b % 16) (b / 16) := by
  have w2 := hW.2.1
  rw [Bool.eq_iff_iff]
  unfold GP stB gv sf
  rw [Bool.or_eq_true, anyN_t, anyN_t, anyN_t]
  simp only [Bool.and_eq_true, decide_eq_true_eq]
  constructor
  · rintro (⟨k, hk, ⟨k1, k2⟩, h1, h2, h3, h4, h5⟩ | ⟨k, hk, h1, h2, h3, h4, h5⟩)
    · obtain ⟨a1, -⟩ := cnd_facts hW hB hv k1
      refine ⟨k, k1, ?_⟩
      rw [(a1 k2).1]
      exact ⟨by omega, by omega, h4, h5⟩
    · obtain ⟨a1, a2, a3, a4, a5, -⟩ := cnd_facts hW hB hv h3
      refine ⟨k, h3, ?_⟩
      rw [a2 (by have := a5 (by omega); omega)]
      exact ⟨h1, h2, h4, h5⟩
  · rintro ⟨k, hk, h1, h2, h3, h4⟩
    obtain ⟨a1, a2, -⟩ := cnd_facts hW hB hv hk
    by_cases e : β (8 + k) = 1
    · rw [(a1 e).1] at h1 h2 h3 h4
      exact Or.inl ⟨k, by omega, ⟨hk, e⟩, by omega, by omega, hk, h3, h4⟩
    · rw [a2 e] at h1 h2 h3 h4
      exact Or.inr ⟨k, by omega, h1, h2, hk, h3, h4⟩
theorem cp_cst {P : Nat → Nat → Nat} {β : Nat → Nat} {pl : Nat} (hW : WP P) (hv : vld P β pl = true) : cp P β 4 pl = cst P β pl := by
  unfold cp cst
  rw [sumN_lim (N := P 0 1) (m := 4) hW.2.1 (fun i h1 h2 => by
    rcases vld_c hv (c := i) h2 with z | z
    · rw [if_pos z]
    · omega)]
  exact sumN_ext (fun i _ => by rw [Nat.mul_comm])
theorem xtry {P : Nat → Nat → Nat} {β : Nat → Nat} {σ : ES} (hW : WP P) (hB : WB P β) (hG : LG P β σ) (hC : LC P β σ) : ∀ e, e ≤ 4 → ∀ p s d, (∃ m, p = 7 ^ e * m) → p + 7 ^ e ≤ 2401 → (∀ k, k < 4 - e → fig p k = 0 ∨ (k < P 0 1 ∧ β (8 + k) = 0)) → PS P β σ s p → (∀ k, k < 4 - e → s.1 21 k = nI (fig p k)) → e < d → ∃ s', e_X4_tryCandle_15 d (nI (4 - e)) (JL (GP P β (4 - e) p)) (nI (cp P β (4 - e) p)) s = some s' ∧ PS P β σ s' (p + 7 ^ e) ∧ ∀ k, k < 4 - e → s'.1 21 k = s.1 21 k := by
  intro e
  induction e with
  | zero =>
    intro _ p s d _ hp hv hs hf hd
    obtain ⟨d, rfl⟩ : ∃ k, d = k + 1 := ⟨d - 1, by omega⟩
    have v := vld_of hv
    obtain ⟨s', a1, a2, a3⟩ := xweigh hW hB hG v hs hf
    refine ⟨s', ?_, a2, fun k _ => by rw [a3]⟩
    rw [e_X4_tryCandle_15]
    unfold b_X4_tryCandle_15_0
    rw [if_neg (show ¬ nI (4 - 0) < 4 by decide), Nat.sub_zero, JL_c (G := fun b => gv P β p (b % 16) (b / 16)) (fun b _ => GP_gv hW hB v), cp_cst hW v, a1]; rfl
  | succ e ih =>
    intro he p s d hm hp hv hs hf hd
    obtain ⟨d, rfl⟩ : ∃ k, d = k + 1 := ⟨d - 1, by omega⟩
    obtain ⟨m, hm⟩ := hm
    have hc : 4 - (e + 1) = 3 - e := by omega
    rw [hc] at hv hf ⊢
    have hpow : 7 ^ (e + 1) = 7 * 7 ^ e := by rw [Nat.pow_succ, Nat.mul_comm]
    have hpp : 0 < 7 ^ e := Nat.pow_pos (by decide)
    obtain ⟨l18, l17, l16⟩ := hC (3 - e) (by omega)
    rw [e_X4_tryCandle_15]
    unfold b_X4_tryCandle_15_0
    rw [if_pos (show nI (3 - e) < 4 from nI_lt (b := 4) (by omega) (by omega))]
    generalize hlast : (if 3 - e < P 0 1 ∧ β (8 + (3 - e)) = 0 then 6 else 0) = last at l18
    have hl6 : last ≤ 6 := by rw [← hlast]; split <;> omega
    have hq : ∀ f, f < 7 → (∀ k, k < 3 - e → fig (p + f * 7 ^ e) k = fig p k) ∧ fig (p + f * 7 ^ e) (3 - e) = f ∧ p + f * 7 ^ e + 7 ^ e ≤ p + 7 ^ (e + 1) := fun f hf => by
      have h1 : f * 7 ^ e + 7 ^ e ≤ 7 * 7 ^ e := by rw [← Nat.succ_mul]; exact Nat.mul_le_mul_right _ hf
      have h2 := figL (e := e) (m := m) (r := f * 7 ^ e) (by omega) (by rw [hpow]; omega) (by rw [← hm]; omega)
      rw [← hm, Nat.mul_div_cancel _ hpp] at h2
      exact ⟨h2.1, h2.2, by rw [hpow]; omega⟩
    obtain ⟨s', j, ⟨i1, i2⟩, e2⟩ := loop_FU (fun n f (s : ES) => b_X4_tryCandle_15_16 (fun z0 z1 z2 z3 => e_X4_tryCandle_15 d z0 z1 z2 z3) n (nI (3 - e)) (JL (GP P β (3 - e) p)) (nI (cp P β (3 - e) p)) (nI f) s) (fun f t => PS P β σ t (p + f * 7 ^ e) ∧ ∀ k, k < 3 - e → t.1 21 k = s.1 21 k) (last + 1) (by omega) (fun n f t hfl ht => by
      obtain ⟨g1, g2⟩ := ht
      obtain ⟨q1, q2, q3⟩ := hq f (by omega)
      have hcan : f ≠ 0 → 3 - e < P 0 1 ∧ β (8 + (3 - e)) = 0 := fun hf0 => by
        by_cases z : 3 - e < P 0 1 ∧ β (8 + (3 - e)) = 0
        · exact z
        · rw [if_neg z] at hlast; omega
      have hps : PS P β σ (wI t 21 (3 - e) (nI f)) (p + f * 7 ^ e) := by
        obtain ⟨h1, h2, h3, h4, h5, h6, h7⟩ := g1
        exact ⟨fun k k1 k2 k3 k4 => by rw [wI_nk k2]; exact h1 k k1 k2 k3 k4, h2, by rw [wI_nk (by decide)]; exact h3, by rw [wI_nk (by decide)]; exact h4, by rw [wI_nk (by decide)]; exact h5, by rw [wI_nk (by decide)]; exact h6, by rw [wI_nk (by decide)]; exact h7⟩
      have hc4 : 4 - e = 3 - e + 1 := by omega
      obtain ⟨s2, a1, a2, a3⟩ := ih (by omega) (p + f * 7 ^ e) (wI t 21 (3 - e) (nI f)) d ⟨7 * m + f, by rw [hm, hpow, Nat.mul_add, Nat.mul_comm f, ← Nat.mul_assoc, Nat.mul_comm 7]⟩ (by omega) (fun k hk => by
        by_cases z : k = 3 - e
        · subst z; rw [q2]
          by_cases z0 : f = 0
          · exact Or.inl z0
          · exact Or.inr (hcan z0)
        · rw [q1 k (by omega)]; exact hv k (by omega)) hps (fun k hk => by
        by_cases z : k = 3 - e
        · subst z; rw [wI_eq, q2]
        · rw [wI_nj z, q1 k (by omega), g2 k (by omega)]; exact hf k (by omega)) (by omega)
      refine ⟨s2, ⟨?_, fun k hk => ?_⟩, ?_⟩
      · rw [show p + (f + 1) * 7 ^ e = p + f * 7 ^ e + 7 ^ e by rw [Nat.succ_mul]; omega]; exact a2
      · rw [a3 k (by omega), wI_nj (by omega)]; exact g2 k hk
      · show b_X4_tryCandle_15_16 _ (n + 1) _ _ _ _ _ = b_X4_tryCandle_15_16 _ n _ _ _ _ _
        have t18 : t.1 18 = σ.1 18 := g1.1 18 (by decide) (by decide) (by decide) (by decide)
        have t17 : t.1 17 = σ.1 17 := g1.1 17 (by decide) (by decide) (by decide) (by decide)
        have fin : ∀ t0 : Int32, nI (cp P β (3 - e) p) + t0 = nI (cp P β (3 - e + 1) (p + f * 7 ^ e)) → b_X4_tryCandle_15_50 (fun z0 z1 z2 z3 => e_X4_tryCandle_15 d z0 z1 z2 z3) (fun z0 z1 z2 z3 z4 => b_X4_tryCandle_15_16 (fun z0 z1 z2 z3 => e_X4_tryCandle_15 d z0 z1 z2 z3) n z0 z1 z2 z3 z4) (nI (3 - e)) (JL (GP P β (3 - e) p)) (nI (cp P β (3 - e) p)) (nI f) t0 (wI t 21 (3 - e) (nI f)) = b_X4_tryCandle_15_16 (fun z0 z1 z2 z3 => e_X4_tryCandle_15 d z0 z1 z2 z3) n (nI (3 - e)) (JL (GP P β (3 - e) p)) (nI (cp P β (3 - e) p)) (nI (f + 1)) s2 := by
          intro t0 ht0
          unfold b_X4_tryCandle_15_50
          have x1 : nI (3 - e) * (7 : Int32) + nI f = nI (7 * (3 - e) + f) := by rw [il7, pk_mul, nI_add, Nat.mul_comm]
          have x2 : (wI t 21 (3 - e) (nI f)).2 16 (7 * (3 - e) + f) = JL (sf P β (3 - e) f) := by rw [wI_2, g1.2.1]; exact l16 f (by omega)
          rw [x1, rdL_nI (by omega) (by omega), x2, JL_or, ht0, nI_1, JL_c (G := GP P β (3 - e + 1) (p + f * 7 ^ e)) (fun b _ => by
            unfold GP
            rw [anyN, q2, Bool.or_assoc, anyN_congr (g := fun k => sf P β k (fig (p + f * 7 ^ e) k) b) (fun k hk => by rw [q1 k hk])])]
          rw [hc4] at a1
          show cl (e_X4_tryCandle_15 d (nI (3 - e + 1)) (JL (GP P β (3 - e + 1) (p + f * 7 ^ e))) (nI (cp P β (3 - e + 1) (p + f * 7 ^ e))) (wI t 21 (3 - e) (nI f))) _ = _
          rw [a1, cl_so, lt_e, nI_1]
        have hcp : cp P β (3 - e + 1) (p + f * 7 ^ e) = cp P β (3 - e) p + (if f = 0 then 0 else P 4 (3 - e) * β (4 + (3 - e))) := by
          unfold cp
          rw [sumN, q2, sumN_ext (g := fun k => if fig p k = 0 then 0 else P 4 k * β (4 + k)) (fun k hk => by rw [q1 k hk])]
        rw [b_X4_tryCandle_15_16, rd_nI (by omega) (by omega), t18, l18, if_neg (nI_nlt (by omega) (by omega)), wr_nI (by omega) (by omega)]
        by_cases z : f = 0
        · rw [if_pos (show nI f = 0 by rw [z]; rfl)]
          exact fin 0 (by rw [hcp, if_pos z, il0, nI_add])
        · rw [if_neg (nI_ne0 (by omega) (by omega)), rd_nI (by omega) (by omega), wI_nk (show 17 ≠ 21 by decide), t17, l17, if_pos (hcan z)]
          exact fin _ (by rw [hcp, if_neg z, nI_add])) s ⟨by rw [Nat.zero_mul, Nat.add_zero]; exact hs, fun k _ => rfl⟩
    have e3 : b_X4_tryCandle_15_16 (fun z0 z1 z2 z3 => e_X4_tryCandle_15 d z0 z1 z2 z3) FU (nI (3 - e)) (JL (GP P β (3 - e) p)) (nI (cp P β (3 - e) p)) 0 s = _ := e2
    have t18 : s'.1 18 = σ.1 18 := i1.1 18 (by decide) (by decide) (by decide) (by decide)
    refine ⟨s', ?_, ?_, i2⟩
    · rw [e3, b_X4_tryCandle_15_16, rd_nI (by omega) (by omega), t18, l18, if_pos (nI_lt (by omega) (by omega))]
    · by_cases z : 3 - e < P 0 1 ∧ β (8 + (3 - e)) = 0
      · rw [if_pos z] at hlast
        rw [← hlast] at i1
        rw [hpow]; exact i1
      · rw [if_neg z] at hlast
        rw [← hlast, Nat.zero_add, Nat.one_mul] at i1
        have more : ∀ r, 7 ^ e ≤ r → r ≤ 7 ^ (e + 1) → PS P β σ s' (p + r) := by
          intro r
          induction r with
          | zero => intro h1 h2; omega
          | succ r ir =>
            intro h1 h2
            by_cases y : r + 1 = 7 ^ e
            · rw [y]; exact i1
            · refine (ir (by omega) (by omega)).skip (fun hvv => ?_)
              have hfig := (figL (e := e) (m := m) (r := r) (by omega) (by omega) (by rw [← hm]; omega)).2
              rw [← hm] at hfig
              have h7 : 1 ≤ r / 7 ^ e := (Nat.le_div_iff_mul_le hpp).mpr (by omega)
              rcases vld_c hvv (c := 3 - e) (by omega) with w | w
              · omega
              · exact z w
        exact more (7 ^ (e + 1)) (by rw [hpow]; omega) (Nat.le_refl _)

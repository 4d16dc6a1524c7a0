-- ===== share =====
def fc (k : Nat) : Nat := ([1, 1, 2, 6, 24] : List Nat).getD k 0
theorem fc_e : ∀ k, k < 5 → facs k = nI (fc k) ∧ 1 ≤ fc k ∧ fc k ≤ 24 := by decide +kernel
theorem mfac : ∀ k, k < 5 → e_X8_factorial (nI k) = some (nI (fc k)) := by decide +kernel
theorem sh_0 : ∀ G, G < 5 → ∀ g, g < 4 → ∀ S, S < 16 → (!(decide (g < G) && (decide (S < 2 ^ G) && !(S.testBit g))) || decide (pcw S + 1 ≤ G)) = true := by decide +kernel
theorem sh_1 (G : Nat) (hG : G < 5) (g : Nat) (hg : g < 4) (h : g < G) (S : Nat) (hS : S < 16) (h2 : S < 2 ^ G) (h3 : S.testBit g = false) : pcw S + 1 ≤ G := by
  have := sh_0 G hG g hg S hS
  rw [decide_eq_true h, decide_eq_true h2, h3] at this
  simpa using this
theorem sh_2 : ∀ g, g < 4 → ∀ S, S < 16 → ∀ C, C < 16 → (S ||| 2 ^ g) &&& C = (S ||| 2 ^ g) → S &&& C = S := by decide +kernel
theorem sh_3 : ∀ G, G < 5 → ∀ S, S < 16 → S < 2 ^ G → S &&& (2 ^ G - 1) = S := by decide +kernel
theorem st_share {σ τ : ES} (hR : Rel σ τ) (a0 : Int32) (a1 : Int32) : ∃ (r : Int32) (σ' : ES) (τ' : ES), e_X7_share_0 a0 a1 σ = some (r, σ') ∧ e_X8_share a0 a1 τ = some (r, τ') ∧ Rel σ' τ' := by
  obtain ⟨hT, hX, hD, P, β, hM⟩ := id hR
  obtain ⟨hW, hXP, hMP, hB, hXB, hMB, hA, hS, hG⟩ := id hM
  have w3 := hW.2.2.1
  have h16 : 2 ^ P 0 2 ≤ 16 := Nat.pow_le_pow_right (n := 2) (j := 4) (by decide) w3
  have hpos := Nat.two_pow_pos (P 0 2)
  unfold e_X7_share_0 b_X7_share_0_0 e_X8_share b_X8_share_0
  rcases lt_cases a0 (n := P 0 2) (by omega) with h | ⟨g, hg, rfl⟩
  · rw [xhasG_out hXP.1.2.2 h, misG_out hMP.1.2.2 w3 h]
    exact ⟨_, _, _, rfl, rfl, hR⟩
  · rw [xhasG_in hXP.1.2.2 hg w3, misG_in hMP.1.2.2 w3 hg]
    simp only [cl_so, if_neg one_ne]
    obtain ⟨s, c1, c2, c3, c4, c5⟩ := xwork hW hB hXP hXB hG
    obtain ⟨t, b1, b2, b3⟩ := mplans hW hMP hB hMB
    have hrel : Rel s t := Rel_plan hT hX hD hM c2 c3 c4 c5 b2
    rw [c1, cl_so, xcost hW hB c4, cl_so, b1, cl_so, mall hW hMP b2, cl_so, rd_nI (by omega) (by omega), (b3 _ (by omega)).2]
    cases hb : bst P β (2 ^ P 0 2 - 1) 2401 with
    | none =>
      rw [show oI (oC none) = -9 from rfl, if_pos rfl, if_pos rfl]
      exact ⟨_, s, t, rfl, rfl, hrel⟩
    | some q =>
      have hq := bst_b hW hB 2401 q hb
      rw [show oI (oC (some q)) = nI q.1 from rfl, if_neg (nI_ne9 (by omega)), if_neg (nI_ne9 (by omega))]
      obtain ⟨p1, p2, -, p4, -⟩ := c4
      have hgl : 2 ^ g < 2 ^ P 0 2 := Nat.pow_lt_pow_right (by decide) hg
      have hsome : ∀ S, S < 2 ^ P 0 2 → ∃ y, bst P β S 2401 = some y := fun S hS => by
        obtain ⟨pl, l1, l2, l3⟩ := (bst_s (P := P) (β := β) 2401).mp (show (bst P β (2 ^ P 0 2 - 1) 2401).isSome = true by rw [hb]; rfl)
        have hcl : cont P β pl < 2 ^ P 0 2 := bm_lt _ _
        have e := (all_e (P 0 2) (by omega) _ (by omega) hcl).mp l3
        exact Option.isSome_iff_exists.mp ((bst_s 2401).mpr ⟨pl, l1, l2, by rw [e]; exact sh_3 (P 0 2) (by omega) S (by omega) hS⟩)
      have hK : ∀ S, S < 2 ^ P 0 2 → cOr (bst P β S 2401) ≤ 216 ∧ s.1 23 S = nI (cOr (bst P β S 2401)) ∧ t.1 16 S = nI (cOr (bst P β S 2401)) := fun S hS => by
        obtain ⟨y, hy⟩ := hsome S hS
        have h1 := p4 S hS
        have h2 := (b3 S hS).2
        rw [hy] at h1 h2 ⊢
        exact ⟨(bst_b hW hB 2401 y hy).1, h1, h2⟩
      have hmono : ∀ S, S < 2 ^ P 0 2 → cOr (bst P β S 2401) ≤ cOr (bst P β (S ||| 2 ^ g) 2401) := fun S hS => by
        have hl := Nat.or_lt_two_pow hS hgl
        have hb1 := (hK _ hl).1
        obtain ⟨pl, l1, l2, l3, l4⟩ := (bst_le hW hB (show cOr (bst P β (S ||| 2 ^ g) 2401) < 1000000 by omega) 2401).mp (Nat.le_refl _)
        have hcl : cont P β pl < 2 ^ P 0 2 := bm_lt _ _
        exact (bst_le hW hB (by omega) 2401).mpr ⟨pl, l1, l2, sh_2 g (by omega) S (by omega) _ (by omega) l3, l4⟩
      generalize hKK : (fun S => cOr (bst P β S 2401)) = K at *
      have hKe : ∀ S, cOr (bst P β S 2401) = K S := fun S => by rw [← hKK]
      simp only [hKe] at hK hmono
      have z2 : t.1 0 2 = nI (P 0 2) := by rw [b2.1 0 (by decide) (by decide) (by decide)]; exact hMP.1.2.2
      have z10 : s.1 30 10 = nI (P 0 2) := by rw [c2 30 (by omega)]; exact hXP.1.2.2
      have esg : (1 : Int32) <<< (nI g &&& 31) = nI (2 ^ g) := by rw [il1]; exact nI_sh g (by omega)
      have esG : (1 : Int32) <<< (nI (P 0 2) &&& 31) = nI (2 ^ P 0 2) := by rw [il1]; exact nI_sh _ (by omega)
      have xG : ∀ k, k + 1 ≤ P 0 2 → nI (P 0 2) - 1 - nI k = nI (P 0 2 - 1 - k) := fun k hk => by rw [il1, pk_sub (by omega), pk_sub (by omega)]
      let T : Nat → Nat := fun S => if S.testBit g then 0 else fc (pcw S) * fc (P 0 2 - 1 - pcw S) * (K (S ||| 2 ^ g) - K S)
      have hTe : ∀ S, T S = if S.testBit g then 0 else fc (pcw S) * fc (P 0 2 - 1 - pcw S) * (K (S ||| 2 ^ g) - K S) := fun S => rfl
      clear_value T
      obtain ⟨v, j, e1, e2⟩ := loop_FU (fun n S (v : Nat) => b_X4_sharesOf_15_4 s n (nI g) (nI v) (nI S)) (fun S v => v = sumN T S) (2 ^ P 0 2) (by omega) (fun n S v hS hv => ⟨sumN T (S + 1), rfl, by
        subst hv
        have hl := Nat.or_lt_two_pow hS hgl
        have hpc : pcw S ≤ 4 := cnt_le _ _
        show b_X4_sharesOf_15_4 s (n + 1) _ _ _ = b_X4_sharesOf_15_4 s n _ _ _
        rw [b_X4_sharesOf_15_4, p2, if_neg (nI_nlt (by omega) (by omega)), bit_n (by omega) (by omega), sumN, hTe S]
        by_cases tb : S.testBit g = true
        · rw [if_pos tb, if_pos tb, if_neg n1_ne, lt_e, nI_1]; rfl
        · have hk := sh_1 (P 0 2) (by omega) g (by omega) hg S (by omega) hS (by simpa using tb)
          rw [if_neg tb, if_neg tb, if_pos (show nI 0 = 0 from rfl), bc_e _ (by omega), cl_so, cnt54 _ (by omega), show cnt (fun i => S.testBit i) 4 = pcw S from rfl, rt_nI (by omega) (by omega), (fc_e _ (by omega)).1, p1, xG _ hk, rt_nI (by omega) (by omega), (fc_e _ (by omega)).1, pk_mul, lt_e, esg, nI_or, rd_nI (by omega) (by omega), (hK _ hl).2.1, rd_nI (by omega) (by omega), (hK _ hS).2.1, pk_sub (hmono S hS), pk_mul, lt_e, lt_e, nI_add, nI_1]⟩) 0 rfl
      subst e1
      have e3 : b_X4_sharesOf_15_4 s FU (nI g) 0 0 = _ := e2
      have e4 : e_X4_sharesOf_15 (nI g) s = some (nI (sumN T (2 ^ P 0 2))) := by
        unfold e_X4_sharesOf_15 b_X4_sharesOf_15_0
        rw [e3, b_X4_sharesOf_15_4, p2, if_pos (nI_lt (by omega) (by omega))]
      obtain ⟨v, j, e1, e5⟩ := loop_FU (fun n S (v : Nat) => b_X8_share_36 n (nI g) a1 (nI v) (nI S) t) (fun S v => v = sumN T S) (2 ^ P 0 2) (by omega) (fun n S v hS hv => ⟨sumN T (S + 1), rfl, by
        subst hv
        have hl := Nat.or_lt_two_pow hS hgl
        have hpc : pcw S ≤ 4 := cnt_le _ _
        show b_X8_share_36 (n + 1) _ _ _ _ _ = b_X8_share_36 n _ _ _ _ _
        rw [b_X8_share_36, z2, esG, if_neg (nI_ge hS (by omega)), has_n (by omega) (by omega), cl_so, sumN, hTe S]
        by_cases tb : S.testBit g = true
        · rw [if_pos tb, if_pos tb, if_neg one_ne, lt_e, nI_1]; rfl
        · have hk := sh_1 (P 0 2) (by omega) g (by omega) hg S (by omega) hS (by simpa using tb)
          rw [if_neg tb, if_neg tb, if_pos rfl, ones_e _ (by omega), show cnt (fun i => S.testBit i) 4 = pcw S from rfl]
          simp only [cl_so]
          rw [mfac _ (by omega), xG _ hk, mfac _ (by omega)]
          simp only [cl_so]
          rw [pk_mul, esg, nI_or, rd_nI (by omega) (by omega), (hK _ hl).2.2, rd_nI (by omega) (by omega), (hK _ hS).2.2, pk_sub (hmono S hS), pk_mul, lt_e, lt_e, nI_add, nI_1]⟩) 0 rfl
      subst e1
      have e6 : b_X8_share_36 FU (nI g) a1 0 0 t = _ := e5
      have hnum : sumN T (2 ^ P 0 2) < 2 ^ 31 := by
        have hle : sumN T (2 ^ P 0 2) ≤ 2 ^ P 0 2 * (24 * 24 * 216) := sumN_le (fun S hS => by
          rw [hTe S]
          by_cases tb : S.testBit g = true
          · rw [if_pos tb]; omega
          · have hpc : pcw S ≤ 4 := cnt_le _ _
            have hl := Nat.or_lt_two_pow hS hgl
            rw [if_neg tb]
            exact Nat.mul_le_mul (Nat.mul_le_mul (fc_e _ (by omega)).2.2 (fc_e _ (by omega)).2.2) (by have := (hK _ hl).1; omega))
        omega
      obtain ⟨y1, y2, y3⟩ := fc_e (P 0 2) (by omega)
      have hg0 : 0 < Nat.gcd (sumN T (2 ^ P 0 2)) (fc (P 0 2)) := Nat.gcd_pos_of_pos_right _ (by omega)
      have hgl2 : Nat.gcd (sumN T (2 ^ P 0 2)) (fc (P 0 2)) < 2 ^ 31 := Nat.lt_of_le_of_lt (Nat.gcd_le_right _ (by omega)) (by omega)
      rw [e4, cl_so, z10, rt_nI (by omega) (by omega), y1, frac_e hnum (by omega) (by omega), cl_so, e6, b_X8_share_36, z2, esG, if_pos (nI_le (by omega) (by omega)), mfac _ (by omega)]
      simp only [cl_so]
      rw [common_e hnum (by omega), cl_so, dv_nI hg0 hgl2, dv_nI hg0 hgl2, pk_div (by omega) hg0 hgl2, pk_div hnum hg0 hgl2]
      by_cases z : a1 = 0
      · rw [if_pos z, if_pos z]; exact ⟨_, s, t, rfl, rfl, hrel⟩
      · rw [if_neg z, if_neg z]; exact ⟨_, s, t, rfl, rfl, hrel⟩

-- ===== plans: the class's table =====
def sp (P : Nat → Nat → Nat) (β : Nat → Nat) : Nat → Nat → Nat
  | 0, S => cOr (ext P β S 2401)
  | g + 1, S => min (sp P β g S) (sp P β g (S ||| 2 ^ g))
def up (g S T : Nat) : Bool := decide (S &&& T = S) && decide (T ||| (2 ^ g - 1) = S ||| (2 ^ g - 1))
theorem up_s : ∀ g, g < 4 → ∀ S, S < 16 → ∀ T, T < 16 → up (g + 1) S T = (up g S T || up g (S ||| 2 ^ g) T) := by decide +kernel
theorem up_0 : ∀ S, S < 16 → ∀ T, T < 16 → up 0 S T = decide (S = T) := by decide +kernel
theorem up_G : ∀ G, G < 5 → ∀ S, S < 16 → S < 2 ^ G → ∀ T, T < 16 → T < 2 ^ G → up G S T = decide (S &&& T = S) := by decide +kernel
theorem sp_le {P : Nat → Nat → Nat} {β : Nat → Nat} : ∀ g, g ≤ 4 → ∀ S, S < 2 ^ P 0 2 → 2 ^ P 0 2 ≤ 16 → (∀ j, j < g → 2 ^ j < 2 ^ P 0 2) → ∀ v, (sp P β g S ≤ v ↔ ∃ T, T < 2 ^ P 0 2 ∧ up g S T = true ∧ cOr (ext P β T 2401) ≤ v) := by
  intro g
  induction g with
  | zero =>
    intro _ S hS h16 _ v
    rw [sp]
    constructor
    · intro h; exact ⟨S, hS, by rw [up_0 S (by omega) S (by omega)]; simp, h⟩
    · rintro ⟨T, t1, t2, t3⟩
      rw [up_0 S (by omega) T (by omega), decide_eq_true_eq] at t2
      rw [t2]; exact t3
  | succ g ih =>
    intro hg S hS h16 hj v
    have h1 := ih (by omega) S hS h16 (fun j hj' => hj j (by omega)) v
    have h2 := ih (by omega) (S ||| 2 ^ g) (Nat.or_lt_two_pow hS (hj g (by omega))) h16 (fun j hj' => hj j (by omega)) v
    rw [sp]
    constructor
    · intro h
      have : sp P β g S ≤ v ∨ sp P β g (S ||| 2 ^ g) ≤ v := by omega
      rcases this with q | q
      · obtain ⟨T, t1, t2, t3⟩ := h1.mp q
        exact ⟨T, t1, by rw [up_s g (by omega) S (by omega) T (by omega), t2]; rfl, t3⟩
      · obtain ⟨T, t1, t2, t3⟩ := h2.mp q
        exact ⟨T, t1, by rw [up_s g (by omega) S (by omega) T (by omega), t2, Bool.or_true], t3⟩
    · rintro ⟨T, t1, t2, t3⟩
      rw [up_s g (by omega) S (by omega) T (by omega), Bool.or_eq_true] at t2
      rcases t2 with q | q
      · have := h1.mpr ⟨T, t1, q, t3⟩; omega
      · have := h2.mpr ⟨T, t1, q, t3⟩; omega
theorem bst_le {P : Nat → Nat → Nat} {β : Nat → Nat} (hW : WP P) (hB : WB P β) {S : Nat} {v : Nat} (hv : v < 1000000) : ∀ n, (cOr (bst P β S n) ≤ v ↔ ∃ pl, pl < n ∧ vld P β pl = true ∧ S &&& cont P β pl = S ∧ cst P β pl ≤ v) := by
  intro n
  induction n with
  | zero => exact ⟨fun h => absurd h (by show ¬ 1000000 ≤ v; omega), fun ⟨pl, h, _⟩ => by omega⟩
  | succ n ih =>
    rw [bst]
    by_cases c : vld P β n = true ∧ S &&& cont P β n = S ∧ (∀ q, bst P β S n = some q → cst P β n < q.1)
    · rw [if_pos c]
      constructor
      · intro h; exact ⟨n, by omega, c.1, c.2.1, h⟩
      · rintro ⟨pl, p1, p2, p3, p4⟩
        show cst P β n ≤ v
        by_cases e : pl = n
        · rw [← e]; exact p4
        · have := ih.mpr ⟨pl, by omega, p2, p3, p4⟩
          cases hb : bst P β S n with
          | none => rw [hb] at this; exact absurd this (by show ¬ 1000000 ≤ v; omega)
          | some q =>
            rw [hb] at this
            have h2 := c.2.2 q hb
            have h3 : q.1 ≤ v := this
            omega
    · rw [if_neg c, ih]
      constructor
      · rintro ⟨pl, p1, p2⟩; exact ⟨pl, by omega, p2⟩
      · rintro ⟨pl, p1, p2, p3, p4⟩
        by_cases e : pl = n
        · subst e
          have : ¬ ∀ q, bst P β S pl = some q → cst P β pl < q.1 := fun z => c ⟨p2, p3, z⟩
          apply ih.mp
          cases hb : bst P β S pl with
          | none => exact absurd (fun q hq => by rw [hb] at hq; exact absurd hq (by simp)) this
          | some q =>
            show q.1 ≤ v
            rcases Nat.lt_or_ge (cst P β pl) q.1 with z | z
            · exact absurd (fun q' hq' => by rw [hb] at hq'; injection hq' with hq'; subst hq'; exact z) this
            · omega
        · exact ⟨pl, by omega, p2, p3, p4⟩
theorem ext_le {P : Nat → Nat → Nat} {β : Nat → Nat} {S : Nat} {v : Nat} (hv : v < 1000000) : ∀ n, (cOr (ext P β S n) ≤ v ↔ ∃ pl, pl < n ∧ vld P β pl = true ∧ cont P β pl = S ∧ cst P β pl ≤ v) := by
  intro n
  induction n with
  | zero => exact ⟨fun h => absurd h (by show ¬ 1000000 ≤ v; omega), fun ⟨pl, h, _⟩ => by omega⟩
  | succ n ih =>
    rw [ext]
    by_cases c : vld P β n = true ∧ cont P β n = S ∧ (∀ q, ext P β S n = some q → cst P β n < q.1)
    · rw [if_pos c]
      constructor
      · intro h; exact ⟨n, by omega, c.1, c.2.1, h⟩
      · rintro ⟨pl, p1, p2, p3, p4⟩
        show cst P β n ≤ v
        by_cases e : pl = n
        · rw [← e]; exact p4
        · have := ih.mpr ⟨pl, by omega, p2, p3, p4⟩
          cases hb : ext P β S n with
          | none => rw [hb] at this; exact absurd this (by show ¬ 1000000 ≤ v; omega)
          | some q =>
            rw [hb] at this
            have h2 := c.2.2 q hb
            have h3 : q.1 ≤ v := this
            omega
    · rw [if_neg c, ih]
      constructor
      · rintro ⟨pl, p1, p2⟩; exact ⟨pl, by omega, p2⟩
      · rintro ⟨pl, p1, p2, p3, p4⟩
        by_cases e : pl = n
        · subst e
          have : ¬ ∀ q, ext P β S pl = some q → cst P β pl < q.1 := fun z => c ⟨p2, p3, z⟩
          apply ih.mp
          cases hb : ext P β S pl with
          | none => exact absurd (fun q hq => by rw [hb] at hq; exact absurd hq (by simp)) this
          | some q =>
            show q.1 ≤ v
            rcases Nat.lt_or_ge (cst P β pl) q.1 with z | z
            · exact absurd (fun q' hq' => by rw [hb] at hq'; injection hq' with hq'; subst hq'; exact z) this
            · omega
        · exact ⟨pl, by omega, p2, p3, p4⟩
theorem cOr_le {x : Option (Nat × Nat)} (h : ∀ q, x = some q → q.1 ≤ 216) : cOr x ≤ 1000000 := by
  cases x with
  | none => exact Nat.le_refl _
  | some q => have := h q rfl; show q.1 ≤ _; omega
theorem sp_bst {P : Nat → Nat → Nat} {β : Nat → Nat} (hW : WP P) (hB : WB P β) {S : Nat} (hS : S < 2 ^ P 0 2) : sp P β (P 0 2) S = cOr (bst P β S 2401) := by
  have w3 := hW.2.2.1
  have h16 : 2 ^ P 0 2 ≤ 16 := Nat.pow_le_pow_right (n := 2) (j := 4) (by decide) w3
  have key : ∀ v, v < 1000000 → (sp P β (P 0 2) S ≤ v ↔ cOr (bst P β S 2401) ≤ v) := by
    intro v hv
    rw [sp_le (P 0 2) w3 S hS h16 (fun j hj => Nat.pow_lt_pow_right (by decide) hj) v, bst_le hW hB hv]
    constructor
    · rintro ⟨T, t1, t2, t3⟩
      rw [up_G (P 0 2) (by omega) S (by omega) hS T (by omega) t1, decide_eq_true_eq] at t2
      obtain ⟨pl, p1, p2, p3, p4⟩ := (ext_le hv 2401).mp t3
      exact ⟨pl, p1, p2, by rw [p3]; exact t2, p4⟩
    · rintro ⟨pl, p1, p2, p3, p4⟩
      have hcl : cont P β pl < 2 ^ P 0 2 := bm_lt _ _
      exact ⟨cont P β pl, hcl, by rw [up_G (P 0 2) (by omega) S (by omega) hS _ (by omega) hcl]; exact decide_eq_true p3, (ext_le hv 2401).mpr ⟨pl, p1, p2, rfl, p4⟩⟩
  have hb := cOr_le (fun q hq => (bst_b hW hB (S := S) 2401 q hq).1)
  have hs : sp P β (P 0 2) S ≤ 1000000 := (sp_le (P 0 2) w3 S hS h16 (fun j hj => Nat.pow_lt_pow_right (by decide) hj) 1000000).mpr ⟨S, hS, by rw [up_G (P 0 2) (by omega) S (by omega) hS S (by omega) hS]; simp, cOr_le (fun q hq => ext_b hW hB 2401 q hq)⟩
  rcases Nat.lt_or_ge (sp P β (P 0 2) S) 1000000 with a | a
  · have h1 := (key _ a).mp (Nat.le_refl _)
    have h2 := (key (cOr (bst P β S 2401)) (by omega)).mpr (Nat.le_refl _)
    omega
  · rcases Nat.lt_or_ge (cOr (bst P β S 2401)) 1000000 with b | b
    · have h2 := (key _ b).mpr (Nat.le_refl _)
      omega
    · omega
theorem or_g : ∀ g, g < 4 → ∀ S, S < 16 → ((S ||| 2 ^ g = S) ∨ S < (S ||| 2 ^ g)) ∧ (S ||| 2 ^ g) < 16 := by decide +kernel
theorem sp_16 {P : Nat → Nat → Nat} {β : Nat → Nat} (hW : WP P) (hB : WB P β) : ∀ g S, sp P β g S ≤ 1000000 := by
  intro g
  induction g with
  | zero => intro S; rw [sp]; exact cOr_le (fun q hq => ext_b hW hB 2401 q hq)
  | succ g ih => intro S; rw [sp]; have := ih S; omega
theorem xspread {P : Nat → Nat → Nat} {β : Nat → Nat} {s : ES} (hW : WP P) (hB : WB P β) (h8 : s.1 15 8 = nI (P 0 2)) (h9 : s.1 15 9 = nI (2 ^ P 0 2 - 1)) (h : ∀ S, S < 2 ^ P 0 2 → s.1 23 S = nI (cOr (ext P β S 2401))) : ∃ s', e_X4_spreadToFewerGuests_15 s = some s' ∧ Kp s s' 23 ∧ ∀ S, S < 2 ^ P 0 2 → s'.1 23 S = nI (sp P β (P 0 2) S) := by
  have w3 := hW.2.2.1
  have h16 : 2 ^ P 0 2 ≤ 16 := Nat.pow_le_pow_right (n := 2) (j := 4) (by decide) w3
  have hpos := Nat.two_pow_pos (P 0 2)
  unfold e_X4_spreadToFewerGuests_15 b_X4_spreadToFewerGuests_15_0
  obtain ⟨s', j, ⟨i1, i2⟩, e2⟩ := loop_FU (fun n g (t : ES) => b_X4_spreadToFewerGuests_15_2 n (nI g) t) (fun g t => Kp s t 23 ∧ ∀ S, S < 2 ^ P 0 2 → t.1 23 S = nI (sp P β g S)) (P 0 2) (by omega) (fun n g t hg ht => by
    obtain ⟨k1, k2⟩ := ht
    have hgl : 2 ^ g < 2 ^ P 0 2 := Nat.pow_lt_pow_right (by decide) hg
    have z8 : t.1 15 8 = nI (P 0 2) := by rw [k1.1 15 (by decide)]; exact h8
    obtain ⟨t', j, ⟨a1, a2⟩, e4⟩ := loop_FU (fun m S (t : ES) => b_X4_spreadToFewerGuests_15_12 (fun z0 z1 => b_X4_spreadToFewerGuests_15_2 n z0 z1) m (nI g) (nI S) t) (fun c t => Kp s t 23 ∧ ∀ S, S < 2 ^ P 0 2 → t.1 23 S = nI (if S < c then sp P β (g + 1) S else sp P β g S)) (2 ^ P 0 2) (by omega) (fun m S t hS ht => by
      obtain ⟨b1, b2⟩ := ht
      have z9 : t.1 15 9 = nI (2 ^ P 0 2 - 1) := by rw [b1.1 15 (by decide)]; exact h9
      obtain ⟨o1, o2⟩ := or_g g (by omega) S (by omega)
      have ol : (S ||| 2 ^ g) < 2 ^ P 0 2 := Nat.or_lt_two_pow hS hgl
      have v1 := b2 S hS
      rw [if_neg (by omega)] at v1
      have v2 := b2 (S ||| 2 ^ g) ol
      rw [if_neg (by omega)] at v2
      have m1 := sp_16 hW hB g S
      have m2 := sp_16 hW hB g (S ||| 2 ^ g)
      refine ⟨wI t 23 S (nI (sp P β (g + 1) S)), ⟨b1.w, fun T hT => ?_⟩, ?_⟩
      · by_cases e : T = S
        · subst e; rw [wI_eq, if_pos (by omega)]
        · rw [wI_nj e, b2 T hT]
          by_cases e2 : T < S
          · rw [if_pos e2, if_pos (by omega)]
          · rw [if_neg e2, if_neg (by omega)]
      · show b_X4_spreadToFewerGuests_15_12 _ (m + 1) _ _ _ = b_X4_spreadToFewerGuests_15_12 _ m _ _ _
        rw [b_X4_spreadToFewerGuests_15_12, z9, if_neg (nI_nlt (by omega) (by omega)), rd_nI (by omega) (by omega), v1, il1, nI_sh g (by omega), nI_or, rd_nI (by omega) (by omega), v2, wr_nI (by omega) (by omega), lt_e, nI_add, sp]
        by_cases q : sp P β g (S ||| 2 ^ g) < sp P β g S
        · rw [if_pos (nI_lt q (by omega)), Nat.min_eq_right (by omega)]
        · rw [if_neg (nI_nlt (by omega) (by omega)), Nat.min_eq_left (by omega)]) t ⟨k1, fun S hS => by rw [if_neg (by omega)]; exact k2 S hS⟩
    have e5 : b_X4_spreadToFewerGuests_15_12 (fun z0 z1 => b_X4_spreadToFewerGuests_15_2 n z0 z1) FU (nI g) 0 t = _ := e4
    have z9 : t'.1 15 9 = nI (2 ^ P 0 2 - 1) := by rw [a1.1 15 (by decide)]; exact h9
    refine ⟨t', ⟨a1, fun S hS => by rw [a2 S hS, if_pos hS]⟩, ?_⟩
    show b_X4_spreadToFewerGuests_15_2 (n + 1) _ _ = b_X4_spreadToFewerGuests_15_2 n _ _
    rw [b_X4_spreadToFewerGuests_15_2, z8, if_neg (nI_ge hg (by omega)), e5, b_X4_spreadToFewerGuests_15_12, z9, if_pos (nI_lt (by omega) (by omega)), lt_e, nI_1]) s ⟨Kp.rf, fun S hS => by rw [sp]; exact h S hS⟩
  have e3 : b_X4_spreadToFewerGuests_15_2 FU 0 s = _ := e2
  have z8 : s'.1 15 8 = nI (P 0 2) := by rw [i1.1 15 (by decide)]; exact h8
  exact ⟨s', by rw [e3, b_X4_spreadToFewerGuests_15_2, z8, if_pos (nI_le (by omega) (by omega))], i1, i2⟩
theorem all_e : ∀ G, G < 5 → ∀ C, C < 16 → C < 2 ^ G → ((2 ^ G - 1) &&& C = 2 ^ G - 1 ↔ C = 2 ^ G - 1) := by decide +kernel
theorem bit_e : ∀ g, g < 4 → ∀ C, C < 16 → (2 ^ g &&& C = 2 ^ g ↔ C.testBit g = true) := by decide +kernel
theorem bst_all {P : Nat → Nat → Nat} {β : Nat → Nat} (hW : WP P) : ∀ n, bst P β (2 ^ P 0 2 - 1) n = ext P β (2 ^ P 0 2 - 1) n := by
  have w3 := hW.2.2.1
  have h16 : 2 ^ P 0 2 ≤ 16 := Nat.pow_le_pow_right (n := 2) (j := 4) (by decide) w3
  intro n
  induction n with
  | zero => rfl
  | succ n ih =>
    have hcl : cont P β n < 2 ^ P 0 2 := bm_lt _ _
    rw [bst, ext, ih]
    have e := all_e (P 0 2) (by omega) (cont P β n) (by omega) hcl
    by_cases c : vld P β n = true ∧ cont P β n = 2 ^ P 0 2 - 1 ∧ (∀ q, ext P β (2 ^ P 0 2 - 1) n = some q → cst P β n < q.1)
    · rw [if_pos c, if_pos ⟨c.1, e.mpr c.2.1, c.2.2⟩]
    · rw [if_neg c, if_neg (fun z => c ⟨z.1, e.mp z.2.1, z.2.2⟩)]
theorem bst_s {P : Nat → Nat → Nat} {β : Nat → Nat} {S : Nat} : ∀ n, ((bst P β S n).isSome = true ↔ ∃ pl, pl < n ∧ vld P β pl = true ∧ S &&& cont P β pl = S) := by
  intro n
  induction n with
  | zero => exact ⟨fun h => absurd h (by simp [bst]), fun ⟨pl, h, _⟩ => by omega⟩
  | succ n ih =>
    rw [bst]
    by_cases c : vld P β n = true ∧ S &&& cont P β n = S ∧ (∀ q, bst P β S n = some q → cst P β n < q.1)
    · rw [if_pos c]
      exact ⟨fun _ => ⟨n, by omega, c.1, c.2.1⟩, fun _ => rfl⟩
    · rw [if_neg c, ih]
      constructor
      · rintro ⟨pl, p1, p2⟩; exact ⟨pl, by omega, p2⟩
      · rintro ⟨pl, p1, p2, p3⟩
        by_cases e : pl = n
        · subst e
          apply ih.mp
          cases hb : bst P β S pl with
          | none => exact absurd ⟨p2, p3, fun q hq => by rw [hb] at hq; exact absurd hq (by simp)⟩ c
          | some q => rfl
        · exact ⟨pl, by omega, p2, p3⟩

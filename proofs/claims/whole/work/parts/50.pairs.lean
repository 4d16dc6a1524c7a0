-- ===== pairs =====
def oI : Option Nat → Int32
  | none => -9
  | some v => nI v
def omx : Option Nat → Option Nat → Option Nat
  | a, none => a
  | none, some b => some b
  | some a, some b => some (max a b)
def rst (S c o : Nat) : Nat := (S &&& (15 - 2 ^ c)) &&& (15 - 2 ^ o)
def cndv (T : Nat → Nat → Nat) (m : Nat → Option Nat) (S c o : Nat) : Option Nat :=
  match m (rst S c o) with
  | none => none
  | some v => some (v + T c (if c = o then 4 else o))
def ok (S c o : Nat) : Bool := S.testBit c && (S.testBit o && (!(decide (c = o)) || decide (pcw S % 2 = 1)))
def cnd (T : Nat → Nat → Nat) (m : Nat → Option Nat) (S c o : Nat) : Option Nat := if ok S c o then cndv T m S c o else none
def inn (T : Nat → Nat → Nat) (m : Nat → Option Nat) (S c : Nat) : Nat → Option Nat → Option Nat
  | 0, a => a
  | k + 1, a => omx (inn T m S c k a) (cnd T m S c (c + k))
def ott (T : Nat → Nat → Nat) (m : Nat → Option Nat) (S n : Nat) : Nat → Option Nat
  | 0 => none
  | c + 1 => inn T m S c (n - c) (ott T m S n c)
def Mm (T : Nat → Nat → Nat) (n : Nat) : Nat → Nat → Option Nat
  | 0, S => if S = 0 then some 0 else none
  | s + 1, S => if S = s + 1 then ott T (Mm T n s) (s + 1) n n else Mm T n s S
def lo (x : Nat) : Nat := if x.testBit 0 then 0 else if x.testBit 1 then 1 else if x.testBit 2 then 2 else if x.testBit 3 then 3 else 4
def hi (x : Nat) : Nat := if x.testBit 4 then 4 else if x.testBit 3 then 3 else if x.testBit 2 then 2 else if x.testBit 1 then 1 else 0
def tr (F a v : Nat) : Nat := (F &&& (31 - 2 ^ a)) &&& (31 - 2 ^ v)
def smT (T : Nat → Nat → Nat) (x : Nat) : Nat := if x = 0 then 0 else T (lo x) (hi x)
def xmv (T : Nat → Nat → Nat) (F a : Nat) : Nat → Nat
  | 0 => 0
  | k + 1 => if F.testBit (a + 1 + k) then max (xmv T F a k) (T a (a + 1 + k) + smT T (tr F a (a + 1 + k))) else xmv T F a k
def xm (T : Nat → Nat → Nat) (F : Nat) : Nat := if F = 0 then 0 else xmv T F (lo F) (4 - lo F)
theorem pr_0_0 (T : Nat → Nat → Nat) : Mm T 0 15 0 = some (xm T 0) := by
  show some (0) = some (0)
  exact congrArg some (by omega)
theorem pr_1_0 (T : Nat → Nat → Nat) : Mm T 1 15 0 = some (xm T 0) := by
  show some (0) = some (0)
  exact congrArg some (by omega)
theorem pr_1_1 (T : Nat → Nat → Nat) : Mm T 1 15 1 = some (xm T 17) := by
  show some ((0) + T 0 4) = some (max (0) (T 0 4 + 0))
  exact congrArg some (by omega)
theorem pr_2_0 (T : Nat → Nat → Nat) : Mm T 2 15 0 = some (xm T 0) := by
  show some (0) = some (0)
  exact congrArg some (by omega)
theorem pr_2_1 (T : Nat → Nat → Nat) : Mm T 2 15 1 = some (xm T 17) := by
  show some ((0) + T 0 4) = some (max (0) (T 0 4 + 0))
  exact congrArg some (by omega)
theorem pr_2_2 (T : Nat → Nat → Nat) : Mm T 2 15 2 = some (xm T 18) := by
  show some ((0) + T 1 4) = some (max (0) (T 1 4 + 0))
  exact congrArg some (by omega)
theorem pr_2_3 (T : Nat → Nat → Nat) : Mm T 2 15 3 = some (xm T 3) := by
  show some ((0) + T 0 1) = some (max (0) (T 0 1 + 0))
  exact congrArg some (by omega)
theorem pr_3_0 (T : Nat → Nat → Nat) : Mm T 3 15 0 = some (xm T 0) := by
  show some (0) = some (0)
  exact congrArg some (by omega)
theorem pr_3_1 (T : Nat → Nat → Nat) : Mm T 3 15 1 = some (xm T 17) := by
  show some ((0) + T 0 4) = some (max (0) (T 0 4 + 0))
  exact congrArg some (by omega)
theorem pr_3_2 (T : Nat → Nat → Nat) : Mm T 3 15 2 = some (xm T 18) := by
  show some ((0) + T 1 4) = some (max (0) (T 1 4 + 0))
  exact congrArg some (by omega)
theorem pr_3_3 (T : Nat → Nat → Nat) : Mm T 3 15 3 = some (xm T 3) := by
  show some ((0) + T 0 1) = some (max (0) (T 0 1 + 0))
  exact congrArg some (by omega)
theorem pr_3_4 (T : Nat → Nat → Nat) : Mm T 3 15 4 = some (xm T 20) := by
  show some ((0) + T 2 4) = some (max (0) (T 2 4 + 0))
  exact congrArg some (by omega)
theorem pr_3_5 (T : Nat → Nat → Nat) : Mm T 3 15 5 = some (xm T 5) := by
  show some ((0) + T 0 2) = some (max (0) (T 0 2 + 0))
  exact congrArg some (by omega)
theorem pr_3_6 (T : Nat → Nat → Nat) : Mm T 3 15 6 = some (xm T 6) := by
  show some ((0) + T 1 2) = some (max (0) (T 1 2 + 0))
  exact congrArg some (by omega)
theorem pr_3_7 (T : Nat → Nat → Nat) : Mm T 3 15 7 = some (xm T 23) := by
  show some (max (max (max (max (max (((0) + T 1 2) + T 0 4) (((0) + T 2 4) + T 0 1)) (((0) + T 1 4) + T 0 2)) (((0) + T 0 2) + T 1 4)) (((0) + T 0 4) + T 1 2)) (((0) + T 0 1) + T 2 4)) = some (max (max (max (0) (T 0 1 + T 2 4)) (T 0 2 + T 1 4)) (T 0 4 + T 1 2))
  exact congrArg some (by omega)
theorem pr_4_0 (T : Nat → Nat → Nat) : Mm T 4 15 0 = some (xm T 0) := by
  show some (0) = some (0)
  exact congrArg some (by omega)
theorem pr_4_1 (T : Nat → Nat → Nat) : Mm T 4 15 1 = some (xm T 17) := by
  show some ((0) + T 0 4) = some (max (0) (T 0 4 + 0))
  exact congrArg some (by omega)
theorem pr_4_2 (T : Nat → Nat → Nat) : Mm T 4 15 2 = some (xm T 18) := by
  show some ((0) + T 1 4) = some (max (0) (T 1 4 + 0))
  exact congrArg some (by omega)
theorem pr_4_3 (T : Nat → Nat → Nat) : Mm T 4 15 3 = some (xm T 3) := by
  show some ((0) + T 0 1) = some (max (0) (T 0 1 + 0))
  exact congrArg some (by omega)
theorem pr_4_4 (T : Nat → Nat → Nat) : Mm T 4 15 4 = some (xm T 20) := by
  show some ((0) + T 2 4) = some (max (0) (T 2 4 + 0))
  exact congrArg some (by omega)
theorem pr_4_5 (T : Nat → Nat → Nat) : Mm T 4 15 5 = some (xm T 5) := by
  show some ((0) + T 0 2) = some (max (0) (T 0 2 + 0))
  exact congrArg some (by omega)
theorem pr_4_6 (T : Nat → Nat → Nat) : Mm T 4 15 6 = some (xm T 6) := by
  show some ((0) + T 1 2) = some (max (0) (T 1 2 + 0))
  exact congrArg some (by omega)
theorem pr_4_7 (T : Nat → Nat → Nat) : Mm T 4 15 7 = some (xm T 23) := by
  show some (max (max (max (max (max (((0) + T 1 2) + T 0 4) (((0) + T 2 4) + T 0 1)) (((0) + T 1 4) + T 0 2)) (((0) + T 0 2) + T 1 4)) (((0) + T 0 4) + T 1 2)) (((0) + T 0 1) + T 2 4)) = some (max (max (max (0) (T 0 1 + T 2 4)) (T 0 2 + T 1 4)) (T 0 4 + T 1 2))
  exact congrArg some (by omega)
theorem pr_4_8 (T : Nat → Nat → Nat) : Mm T 4 15 8 = some (xm T 24) := by
  show some ((0) + T 3 4) = some (max (0) (T 3 4 + 0))
  exact congrArg some (by omega)
theorem pr_4_9 (T : Nat → Nat → Nat) : Mm T 4 15 9 = some (xm T 9) := by
  show some ((0) + T 0 3) = some (max (0) (T 0 3 + 0))
  exact congrArg some (by omega)
theorem pr_4_10 (T : Nat → Nat → Nat) : Mm T 4 15 10 = some (xm T 10) := by
  show some ((0) + T 1 3) = some (max (0) (T 1 3 + 0))
  exact congrArg some (by omega)
theorem pr_4_11 (T : Nat → Nat → Nat) : Mm T 4 15 11 = some (xm T 27) := by
  show some (max (max (max (max (max (((0) + T 1 3) + T 0 4) (((0) + T 3 4) + T 0 1)) (((0) + T 1 4) + T 0 3)) (((0) + T 0 3) + T 1 4)) (((0) + T 0 4) + T 1 3)) (((0) + T 0 1) + T 3 4)) = some (max (max (max (0) (T 0 1 + T 3 4)) (T 0 3 + T 1 4)) (T 0 4 + T 1 3))
  exact congrArg some (by omega)
theorem pr_4_12 (T : Nat → Nat → Nat) : Mm T 4 15 12 = some (xm T 12) := by
  show some ((0) + T 2 3) = some (max (0) (T 2 3 + 0))
  exact congrArg some (by omega)
theorem pr_4_13 (T : Nat → Nat → Nat) : Mm T 4 15 13 = some (xm T 29) := by
  show some (max (max (max (max (max (((0) + T 2 3) + T 0 4) (((0) + T 3 4) + T 0 2)) (((0) + T 2 4) + T 0 3)) (((0) + T 0 3) + T 2 4)) (((0) + T 0 4) + T 2 3)) (((0) + T 0 2) + T 3 4)) = some (max (max (max (0) (T 0 2 + T 3 4)) (T 0 3 + T 2 4)) (T 0 4 + T 2 3))
  exact congrArg some (by omega)
theorem pr_4_14 (T : Nat → Nat → Nat) : Mm T 4 15 14 = some (xm T 30) := by
  show some (max (max (max (max (max (((0) + T 2 3) + T 1 4) (((0) + T 3 4) + T 1 2)) (((0) + T 2 4) + T 1 3)) (((0) + T 1 3) + T 2 4)) (((0) + T 1 4) + T 2 3)) (((0) + T 1 2) + T 3 4)) = some (max (max (max (0) (T 1 2 + T 3 4)) (T 1 3 + T 2 4)) (T 1 4 + T 2 3))
  exact congrArg some (by omega)
theorem pr_4_15 (T : Nat → Nat → Nat) : Mm T 4 15 15 = some (xm T 15) := by
  show some (max (max (max (max (max (((0) + T 2 3) + T 0 1) (((0) + T 1 3) + T 0 2)) (((0) + T 1 2) + T 0 3)) (((0) + T 0 3) + T 1 2)) (((0) + T 0 2) + T 1 3)) (((0) + T 0 1) + T 2 3)) = some (max (max (max (0) (T 0 1 + T 2 3)) (T 0 2 + T 1 3)) (T 0 3 + T 1 2))
  exact congrArg some (by omega)
theorem pr_all (T : Nat → Nat → Nat) : ∀ n, n ≤ 4 → ∀ F, F < 2 ^ n → Mm T n 15 F = some (xm T (if pcw F % 2 = 0 then F else F ||| 16)) := by
  intro n hn F hF
  match n, hn, F, hF with
  | 0, _, 0, _ => exact pr_0_0 T
  | 1, _, 0, _ => exact pr_1_0 T
  | 1, _, 1, _ => exact pr_1_1 T
  | 2, _, 0, _ => exact pr_2_0 T
  | 2, _, 1, _ => exact pr_2_1 T
  | 2, _, 2, _ => exact pr_2_2 T
  | 2, _, 3, _ => exact pr_2_3 T
  | 3, _, 0, _ => exact pr_3_0 T
  | 3, _, 1, _ => exact pr_3_1 T
  | 3, _, 2, _ => exact pr_3_2 T
  | 3, _, 3, _ => exact pr_3_3 T
  | 3, _, 4, _ => exact pr_3_4 T
  | 3, _, 5, _ => exact pr_3_5 T
  | 3, _, 6, _ => exact pr_3_6 T
  | 3, _, 7, _ => exact pr_3_7 T
  | 4, _, 0, _ => exact pr_4_0 T
  | 4, _, 1, _ => exact pr_4_1 T
  | 4, _, 2, _ => exact pr_4_2 T
  | 4, _, 3, _ => exact pr_4_3 T
  | 4, _, 4, _ => exact pr_4_4 T
  | 4, _, 5, _ => exact pr_4_5 T
  | 4, _, 6, _ => exact pr_4_6 T
  | 4, _, 7, _ => exact pr_4_7 T
  | 4, _, 8, _ => exact pr_4_8 T
  | 4, _, 9, _ => exact pr_4_9 T
  | 4, _, 10, _ => exact pr_4_10 T
  | 4, _, 11, _ => exact pr_4_11 T
  | 4, _, 12, _ => exact pr_4_12 T
  | 4, _, 13, _ => exact pr_4_13 T
  | 4, _, 14, _ => exact pr_4_14 T
  | 4, _, 15, _ => exact pr_4_15 T
  | 4, _, F + 16, h => exact absurd h (by omega)
theorem oI_le {a b : Option Nat} (ha : ∀ v, a = some v → v < 1000) (hb : ∀ v, b = some v → v < 1000) : (oI b ≤ oI a → omx a b = a) ∧ (¬ oI b ≤ oI a → omx a b = b) := by
  cases b with
  | none =>
    refine ⟨fun _ => by cases a <;> rfl, fun h => ?_⟩
    exfalso
    apply h
    cases a with
    | none => exact Int32.le_refl _
    | some v =>
      show (-9 : Int32) ≤ nI v
      rw [Int32.le_iff_toInt_le, nI_toInt (by have := ha v rfl; omega)]
      have e2 : (-9 : Int32).toInt = -9 := rfl
      omega
  | some w =>
    have hw := hb w rfl
    cases a with
    | none =>
      refine ⟨fun h => ?_, fun _ => rfl⟩
      exfalso
      have h' : nI w ≤ (-9 : Int32) := h
      rw [Int32.le_iff_toInt_le, nI_toInt (by omega)] at h'
      have e2 : (-9 : Int32).toInt = -9 := rfl
      omega
    | some v =>
      have hv := ha v rfl
      have e : (oI (some w) ≤ oI (some v)) ↔ w ≤ v := nI_leI (by omega) (by omega)
      rw [e]
      refine ⟨fun h => ?_, fun h => ?_⟩
      · show some (max v w) = some v
        rw [Nat.max_eq_left h]
      · show some (max v w) = some w
        rw [Nat.max_eq_right (by omega)]
theorem oI_9 {a : Option Nat} (ha : ∀ v, a = some v → v < 1000) : oI a = -9 ↔ a = none := by
  cases a with
  | none => simp [oI]
  | some v =>
    have := nI_ne9 (a := v) (by have := ha v rfl; omega)
    simp [oI, this]
theorem rst_e : ∀ S, S < 16 → ∀ c, c < 4 → ∀ o, o < 4 → ((nI S &&& (((1 : Int32) <<< (nI c &&& 31)) ^^^ (-1 : Int32))) &&& (((1 : Int32) <<< (nI o &&& 31)) ^^^ (-1 : Int32))) = nI (rst S c o) := by decide +kernel
theorem rst_l : ∀ S, S < 16 → ∀ c, c < 4 → ∀ o, o < 4 → rst S c o < 16 ∧ (S.testBit c = true → rst S c o < S) := by decide +kernel
/-- the places below S of row 17 hold m, place S holds a; all else is as in τ -/
def Pr (τ s : ES) (m : Nat → Option Nat) (S : Nat) (a : Option Nat) : Prop := Kp τ s 17 ∧ (∀ q, q < S → s.1 17 q = oI (m q)) ∧ s.1 17 S = oI a
def Bd (m : Nat → Option Nat) : Prop := ∀ S v, m S = some v → v ≤ 24 * S
theorem omx_b {a b : Option Nat} {M : Nat} (ha : ∀ v, a = some v → v ≤ M) (hb : ∀ v, b = some v → v ≤ M) : ∀ v, omx a b = some v → v ≤ M := by
  cases b with
  | none => cases a <;> exact ha
  | some w =>
    cases a with
    | none => exact hb
    | some u =>
      intro v h
      have h1 := ha u rfl
      have h2 := hb w rfl
      have h3 : some (max u w) = some v := h
      injection h3 with h4
      omega
theorem cnd_b {T : Nat → Nat → Nat} {m : Nat → Option Nat} {S c o : Nat} (hT : ∀ i j, T i j ≤ 24) (hm : Bd m) (hS : S < 16) (hc : c < 4) (ho : o < 4) : ∀ v, cnd T m S c o = some v → v ≤ 24 * S := by
  intro v h
  unfold cnd at h
  by_cases t : ok S c o = true
  · rw [if_pos t] at h
    have tb : S.testBit c = true := by
      unfold ok at t
      simp only [Bool.and_eq_true] at t
      exact t.1
    have hl := (rst_l S hS c hc o ho).2 tb
    unfold cndv at h
    cases e : m (rst S c o) with
    | none => rw [e] at h; exact absurd h (by simp)
    | some u =>
      rw [e] at h
      have h1 := hm _ _ e
      have h2 := hT c (if c = o then 4 else o)
      have h3 : some (u + T c (if c = o then 4 else o)) = some v := h
      injection h3 with h4
      omega
  · rw [if_neg t] at h; exact absurd h (by simp)
theorem inn_b {T : Nat → Nat → Nat} {m : Nat → Option Nat} {S c : Nat} {a : Option Nat} (hT : ∀ i j, T i j ≤ 24) (hm : Bd m) (hS : S < 16) (hc : c < 4) (ha : ∀ v, a = some v → v ≤ 24 * S) : ∀ k, c + k ≤ 4 → ∀ v, inn T m S c k a = some v → v ≤ 24 * S := by
  intro k
  induction k with
  | zero => intro _; exact ha
  | succ k ih => intro h; rw [inn]; exact omx_b (ih (by omega)) (cnd_b hT hm hS hc (by omega))
theorem ott_b {T : Nat → Nat → Nat} {m : Nat → Option Nat} {S n : Nat} (hT : ∀ i j, T i j ≤ 24) (hm : Bd m) (hS : S < 16) (hn : n ≤ 4) : ∀ k, k ≤ n → ∀ v, ott T m S n k = some v → v ≤ 24 * S := by
  intro k
  induction k with
  | zero => intro _ v h; exact absurd h (by simp [ott])
  | succ k ih => intro h; rw [ott]; exact inn_b hT hm hS (by omega) (ih (by omega)) _ (by omega)
theorem Mm_b {T : Nat → Nat → Nat} {n : Nat} (hT : ∀ i j, T i j ≤ 24) (hn : n ≤ 4) : ∀ s, s < 16 → Bd (Mm T n s) := by
  intro s
  induction s with
  | zero =>
    intro _ S v h
    unfold Mm at h
    by_cases e : S = 0
    · rw [if_pos e] at h; injection h with h; omega
    · rw [if_neg e] at h; exact absurd h (by simp)
  | succ s ih =>
    intro hs S v h
    unfold Mm at h
    by_cases e : S = s + 1
    · rw [if_pos e] at h; subst e
      exact ott_b hT (ih (by omega)) (by omega) hn n (Nat.le_refl _) v h
    · rw [if_neg e] at h; exact ih (by omega) S v h
theorem mp138 {τ : ES} {T : Nat → Nat → Nat} {n : Nat} {s : ES} {m : Nat → Option Nat} {S c o : Nat} {a : Option Nat} {b : Bool} (hT : ∀ i j, T i j ≤ 24) (hn : n ≤ 4) (htab : ∀ s, Kp τ s 17 → ∀ c o, c < n → o < n → e_X8_tableOf (nI c) (nI o) s = some (nI (T c o)) ∧ e_X8_tableOf (nI c) (-9) s = some (nI (T c 4))) (hm : Bd m) (hS : S < 16) (hc : c < n) (ho : o < n) (ha : ∀ v, a = some v → v ≤ 24 * S) (hs : Pr τ s m S a) (hb : b = true → S.testBit c = true) (K49 : Int32 → Int32 → ES → Option (Int32 × ES)) (K82 : Int32 → Int32 → Int32 → Int32 → ES → Option (Int32 × ES)) (K95 : Int32 → Int32 → Int32 → Int32 → Int32 → ES → Option (Int32 × ES)) (v1 v3 : Int32) : ∃ s', Pr τ s' m S (omx a (if b then cndv T m S c o else none)) ∧ b_X8_pairs_138 K49 K82 K95 v1 (nI S) v3 (nI c) (nI o) (fI b) s = K95 v1 (nI S) v3 (nI c) (nI (o + 1)) s' := by
  have key : ∀ d : Option Nat, (∀ v, d = some v → v < 1000) → ∃ s', Pr τ s' m S (omx a d) ∧ b_X8_pairs_213 K49 K82 K95 v1 (nI S) v3 (nI c) (nI o) (oI d) s = K95 v1 (nI S) v3 (nI c) (nI (o + 1)) s' := by
    intro d hd
    unfold b_X8_pairs_213 b_X8_pairs_242
    obtain ⟨g1, g2⟩ := oI_le (a := a) (b := d) (fun v hv => by have := ha v hv; omega) hd
    refine ⟨wI s 17 S (oI (omx a d)), ⟨hs.1.w, fun q hq => ?_, wI_eq⟩, ?_⟩
    · rw [wI_nj (by omega)]; exact hs.2.1 q hq
    · rw [rd_nI (by omega) (by omega), rd_nI (by omega) (by omega), wr_nI (by omega) (by omega), wr_nI (by omega) (by omega), hs.2.2, lt_e, nI_1, lt_e]
      by_cases h : oI d ≤ oI a
      · rw [if_pos h, g1 h]
      · rw [if_neg h, g2 h]
  unfold b_X8_pairs_138
  rw [rst_e S hS c (by omega) o (by omega), lt_e]
  obtain ⟨r1, r2⟩ := rst_l S hS c (by omega) o (by omega)
  cases b with
  | false =>
    rw [show fI false = 0 from rfl, if_pos rfl]
    exact key none (fun v h => absurd h (by simp))
  | true =>
    rw [show fI true = 1 from rfl, if_neg one_ne, rd_nI (by omega) (by omega), rd_nI (by omega) (by omega), hs.2.1 _ (r2 (hb rfl)), if_pos rfl]
    unfold cndv
    have hmv := hm (rst S c o)
    cases e : m (rst S c o) with
    | none =>
      rw [show oI none = -9 from rfl, if_pos rfl]
      exact key none (fun v h => absurd h (by simp))
    | some u =>
      have hu := hmv u e
      rw [show oI (some u) = nI u from rfl, if_neg (nI_ne9 (by omega))]
      obtain ⟨t1, t2⟩ := htab s hs.1 c o hc ho
      have hk : ∀ j, ∀ v, some (u + T c j) = some v → v < 1000 := fun j v h => by
        injection h with h
        have := hT c j
        omega
      by_cases q : c = o
      · rw [if_pos (by rw [q]), t2, cl_so, nI_add]
        have := key (some (u + T c 4)) (hk 4)
        simp only [q, if_true] at this ⊢
        exact this
      · rw [if_neg (fun x => q ((nI_eq (by omega) (by omega)).mp x)), t1, cl_so, nI_add]
        have := key (some (u + T c o)) (hk o)
        simp only [q, if_false] at this ⊢
        exact this
theorem mp95 {τ : ES} {T : Nat → Nat → Nat} {n : Nat} {m : Nat → Option Nat} {S c : Nat} {a : Option Nat} (hT : ∀ i j, T i j ≤ 24) (hn : n ≤ 4) (htab : ∀ s, Kp τ s 17 → ∀ c o, c < n → o < n → e_X8_tableOf (nI c) (nI o) s = some (nI (T c o)) ∧ e_X8_tableOf (nI c) (-9) s = some (nI (T c 4))) (hτ : τ.1 0 1 = nI n) (hm : Bd m) (hS : S < 16) (hc : c < n) (ha : ∀ v, a = some v → v ≤ 24 * S) {s : ES} (hs : Pr τ s m S a) (K49 : Int32 → Int32 → ES → Option (Int32 × ES)) (K82 : Int32 → Int32 → Int32 → Int32 → ES → Option (Int32 × ES)) (v1 : Int32) : ∃ s', Pr τ s' m S (inn T m S c (n - c) a) ∧ b_X8_pairs_95 K49 K82 FU v1 (nI S) (fI (decide (pcw S % 2 = 1))) (nI c) (nI c) s = K82 v1 (nI S) (fI (decide (pcw S % 2 = 1))) (nI (c + 1)) s' := by
  obtain ⟨s', j, e1, e2⟩ := loop_FU (fun q k (s : ES) => b_X8_pairs_95 K49 K82 q v1 (nI S) (fI (decide (pcw S % 2 = 1))) (nI c) (nI (c + k)) s) (fun k s => Pr τ s m S (inn T m S c k a)) (n - c) (by omega) (fun q k s hk hs => by
    have hacc := inn_b hT hm hS (show c < 4 by omega) ha k (by omega)
    have z1 : s.1 0 1 = nI n := by rw [hs.1.1 0 (by decide)]; exact hτ
    have body : ∀ b : Bool, ok S c (c + k) = b → (b = true → S.testBit c = true) → ∃ s', Pr τ s' m S (inn T m S c (k + 1) a) ∧ b_X8_pairs_138 K49 K82 (fun z0 z1 z2 z3 z4 z5 => b_X8_pairs_95 K49 K82 q z0 z1 z2 z3 z4 z5) v1 (nI S) (fI (decide (pcw S % 2 = 1))) (nI c) (nI (c + k)) (fI b) s = b_X8_pairs_95 K49 K82 q v1 (nI S) (fI (decide (pcw S % 2 = 1))) (nI c) (nI (c + (k + 1))) s' := by
      intro b hb hb2
      obtain ⟨s', p1, p2⟩ := mp138 (b := b) hT hn htab hm hS hc (show c + k < n by omega) hacc hs hb2 K49 K82 (fun z0 z1 z2 z3 z4 z5 => b_X8_pairs_95 K49 K82 q z0 z1 z2 z3 z4 z5) v1 (fI (decide (pcw S % 2 = 1)))
      refine ⟨s', ?_, p2⟩
      rw [inn, cnd, hb]; exact p1
    show ∃ s', Pr τ s' m S (inn T m S c (k + 1) a) ∧ b_X8_pairs_95 K49 K82 (q + 1) _ _ _ _ _ _ = b_X8_pairs_95 K49 K82 q _ _ _ _ _ _
    rw [b_X8_pairs_95, z1, if_neg (nI_ge (by omega) (by omega)), has_n (by omega) (by omega), has_n (by omega) (by omega), cl_so, cl_so]
    by_cases t1 : S.testBit c = true
    · rw [if_pos t1, if_neg one_ne]
      by_cases t2 : S.testBit (c + k) = true
      · rw [if_pos t2, if_neg one_ne]
        by_cases t3 : c = c + k
        · rw [if_pos (congrArg nI t3)]
          by_cases t4 : pcw S % 2 = 1
          · rw [if_neg (show ¬ fI (decide (pcw S % 2 = 1)) = 0 by rw [fI_0]; simp [t4])]
            exact body true (by unfold ok; simp [t1, t2, t4]) (fun _ => t1)
          · rw [if_pos (show fI (decide (pcw S % 2 = 1)) = 0 by rw [fI_0]; simp [t4])]
            exact body false (by unfold ok; simp only [t1, t2, Bool.true_and]; rw [decide_eq_true t3, decide_eq_false t4]; rfl) (fun _ => t1)
        · rw [if_neg (fun x => t3 ((nI_eq (by omega) (by omega)).mp x))]
          exact body true (by unfold ok; simp only [t1, t2, Bool.true_and]; rw [decide_eq_false t3]; rfl) (fun _ => t1)
      · rw [if_neg t2, if_pos rfl]
        exact body false (by unfold ok; simp [t2]) (fun _ => t1)
    · rw [if_neg t1, if_pos rfl]
      exact body false (by unfold ok; simp [t1]) (fun h => absurd h (by simp))) s hs
  have e3 : b_X8_pairs_95 K49 K82 FU v1 (nI S) (fI (decide (pcw S % 2 = 1))) (nI c) (nI c) s = _ := e2
  refine ⟨s', e1, ?_⟩
  have z1 : s'.1 0 1 = nI n := by rw [e1.1.1 0 (by decide)]; exact hτ
  rw [e3, b_X8_pairs_95, z1, if_pos (nI_le (by omega) (by omega)), lt_e, nI_1]
theorem mp82 {τ : ES} {T : Nat → Nat → Nat} {n : Nat} {m : Nat → Option Nat} {S : Nat} (hT : ∀ i j, T i j ≤ 24) (hn : n ≤ 4) (htab : ∀ s, Kp τ s 17 → ∀ c o, c < n → o < n → e_X8_tableOf (nI c) (nI o) s = some (nI (T c o)) ∧ e_X8_tableOf (nI c) (-9) s = some (nI (T c 4))) (hτ : τ.1 0 1 = nI n) (hm : Bd m) (hS : S < 16) {s : ES} (hs : Pr τ s m S none) (K49 : Int32 → Int32 → ES → Option (Int32 × ES)) (v1 : Int32) : ∃ s', Pr τ s' m S (ott T m S n n) ∧ b_X8_pairs_82 K49 FU v1 (nI S) (fI (decide (pcw S % 2 = 1))) 0 s = K49 v1 (nI (S + 1)) s' := by
  obtain ⟨s', j, e1, e2⟩ := loop_FU (fun q k (s : ES) => b_X8_pairs_82 K49 q v1 (nI S) (fI (decide (pcw S % 2 = 1))) (nI k) s) (fun k s => Pr τ s m S (ott T m S n k)) n (by omega) (fun q k s hk hs => by
    have z1 : s.1 0 1 = nI n := by rw [hs.1.1 0 (by decide)]; exact hτ
    obtain ⟨s', p1, p2⟩ := mp95 hT hn htab hτ hm hS hk (ott_b hT hm hS hn k (by omega)) hs K49 (fun z0 z1 z2 z3 z4 => b_X8_pairs_82 K49 q z0 z1 z2 z3 z4) v1
    refine ⟨s', p1, ?_⟩
    show b_X8_pairs_82 K49 (q + 1) _ _ _ _ _ = b_X8_pairs_82 K49 q _ _ _ _ _
    rw [b_X8_pairs_82, z1, if_neg (nI_ge (by omega) (by omega))]
    exact p2) s hs
  have z1 : s'.1 0 1 = nI n := by rw [e1.1.1 0 (by decide)]; exact hτ
  have e3 : b_X8_pairs_82 K49 FU v1 (nI S) (fI (decide (pcw S % 2 = 1))) 0 s = _ := e2
  exact ⟨s', e1, by rw [e3, b_X8_pairs_82, z1, if_pos (nI_le (by omega) (by omega)), lt_e, nI_1]⟩
theorem mp49 {τ : ES} {T : Nat → Nat → Nat} {n : Nat} (hT : ∀ i j, T i j ≤ 24) (hn : n ≤ 4) (htab : ∀ s, Kp τ s 17 → ∀ c o, c < n → o < n → e_X8_tableOf (nI c) (nI o) s = some (nI (T c o)) ∧ e_X8_tableOf (nI c) (-9) s = some (nI (T c 4))) (hτ : τ.1 0 1 = nI n) {F : Nat} (hF : F < 16) : ∃ s', Kp τ s' 17 ∧ b_X8_pairs_49 FU (nI F) 1 (wI τ 17 0 0) = some (oI (Mm T n 15 F), s') := by
  obtain ⟨s', j, ⟨e0, e1⟩, e2⟩ := loop_FU (fun q k (s : ES) => b_X8_pairs_49 q (nI F) (nI (k + 1)) s) (fun k s => Kp τ s 17 ∧ ∀ S, S ≤ k → s.1 17 S = oI (Mm T n k S)) 15 (by omega) (fun q k s hk hs => by
    obtain ⟨h1, h2⟩ := hs
    have hl : pcw (k + 1) ≤ 4 := cnt_le _ _
    obtain ⟨s', p1, p2⟩ := mp82 (S := k + 1) hT hn htab hτ (Mm_b hT hn k (by omega)) (by omega) (s := wI s 17 (k + 1) (-9)) ⟨h1.w, fun q hq => by rw [wI_nj (by omega)]; exact h2 q (by omega), by rw [wI_eq]; rfl⟩ (fun z0 z1 z2 => b_X8_pairs_49 q z0 z1 z2) (nI F)
    refine ⟨s', ⟨p1.1, fun S hS => ?_⟩, ?_⟩
    · rw [Mm]
      by_cases e : S = k + 1
      · rw [if_pos e, e]; exact p1.2.2
      · rw [if_neg e]; exact p1.2.1 S (by omega)
    · show b_X8_pairs_49 (q + 1) _ _ _ = b_X8_pairs_49 q _ _ _
      rw [b_X8_pairs_49, if_neg (show ¬ (16 : Int32) ≤ nI (k + 1) from nI_ge (b := 16) (by omega) (by omega)), wr_nI (by omega) (by omega), ones_e _ (by omega), cl_so]
      have e5 : nI (cnt (fun i => (k + 1).testBit i) 4) - nI (cnt (fun i => (k + 1).testBit i) 4) / 2 * 2 = nI (pcw (k + 1) % 2) := by
        rw [il2]; exact pk_rem (by show pcw _ < _; omega) (by omega) (by omega)
      rw [e5]
      by_cases t : pcw (k + 1) % 2 = 1
      · rw [t, if_pos (show nI 1 = 1 from rfl)]
        rw [show (fI (decide (pcw (k + 1) % 2 = 1))) = 1 by rw [t]; rfl] at p2
        exact p2
      · rw [if_neg (show ¬ nI (pcw (k + 1) % 2) = 1 from fun x => t ((nI_eq (b := 1) (by omega) (by omega)).mp x))]
        rw [show (fI (decide (pcw (k + 1) % 2 = 1))) = 0 by rw [fI_0]; simp [t]] at p2
        exact p2) (wI τ 17 0 0) ⟨Kp.rf.w, fun S hS => by
          have : S = 0 := by omega
          subst this; rw [wI_eq]; rfl⟩
  refine ⟨s', e0, ?_⟩
  have e3 : b_X8_pairs_49 FU (nI F) 1 (wI τ 17 0 0) = _ := e2
  rw [e3, b_X8_pairs_49, if_pos (show (16 : Int32) ≤ nI (15 + 1) by decide), rd_nI (by omega) (by omega), e1 F (by omega)]

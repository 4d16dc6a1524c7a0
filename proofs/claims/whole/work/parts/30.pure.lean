-- ===== PURE PART: numbers, rows, loops =====
theorem rd_nI {α : Type} {σ : ES} {k n j : Nat} {f : Int32 → Option α} (h : j < n) (hn : n ≤ 1000) : rd σ k n (nI j) f = f (σ.1 k j) := by
  unfold rd
  rw [if_neg (nI_in h (by omega)), nI_clamp (by omega)]
theorem rdL_nI {α : Type} {σ : ES} {k n j : Nat} {f : Int64 → Option α} (h : j < n) (hn : n ≤ 1000) : rdL σ k n (nI j) f = f (σ.2 k j) := by
  unfold rdL
  rw [if_neg (nI_in h (by omega)), nI_clamp (by omega)]
theorem wr_nI {α : Type} {σ : ES} {k n j : Nat} {v : Int32} {f : ES → Option α} (h : j < n) (hn : n ≤ 1000) : wr σ k n (nI j) v f = f (wI σ k j v) := by
  unfold wr
  rw [if_neg (nI_in h (by omega)), nI_clamp (by omega)]
theorem wrL_nI {α : Type} {σ : ES} {k n j : Nat} {v : Int64} {f : ES → Option α} (h : j < n) (hn : n ≤ 1000) : wrL σ k n (nI j) v f = f (wL σ k j v) := by
  unfold wrL
  rw [if_neg (nI_in h (by omega)), nI_clamp (by omega)]
theorem rt_nI {α : Type} {t : Nat → Int32} {n j : Nat} {f : Int32 → Option α} (h : j < n) (hn : n ≤ 1000) : rt t n (nI j) f = f (t j) := by
  unfold rt
  rw [if_neg (nI_in h (by omega)), nI_clamp (by omega)]
theorem dv_nI {α : Type} {d : Nat} {x : Option α} (h : 0 < d) (hd : d < 2 ^ 31) : dv (nI d) x = x := by
  unfold dv
  rw [if_neg (nI_ne0 h hd)]
theorem cl_so {α β : Type} {r : β} {f : β → Option α} : cl (some r) f = f r := rfl
theorem cs_so {α β : Type} {r : β} {σ : ES} {f : β → ES → Option α} : cs (some (r, σ)) f = f r σ := rfl
theorem lt_e {α β : Type} {x : β} {f : β → Option α} : lt x f = f x := rfl
theorem bo_0 {α : Type} {x : Option α} : bo 0 x = x := rfl
theorem bo_1 {α : Type} {x : Option α} : bo 1 x = x := rfl
-- writes
theorem wI_eq {σ : ES} {k j : Nat} {v : Int32} : (wI σ k j v).1 k j = v := by simp [wI, u2, upd]
theorem wI_nj {σ : ES} {k j b : Nat} {v : Int32} (h : b ≠ j) : (wI σ k j v).1 k b = σ.1 k b := by simp [wI, u2, upd, h]
theorem wI_nk {σ : ES} {k j a : Nat} {v : Int32} (h : a ≠ k) : (wI σ k j v).1 a = σ.1 a := by simp [wI, u2, h]
theorem wI_2 {σ : ES} {k j : Nat} {v : Int32} : (wI σ k j v).2 = σ.2 := rfl
theorem wL_1 {σ : ES} {k j : Nat} {v : Int64} : (wL σ k j v).1 = σ.1 := rfl
theorem wL_eq {σ : ES} {k j : Nat} {v : Int64} : (wL σ k j v).2 k j = v := by simp [wL, u2L, vp_updL]
theorem wL_nj {σ : ES} {k j b : Nat} {v : Int64} (h : b ≠ j) : (wL σ k j v).2 k b = σ.2 k b := by simp [wL, u2L, vp_updL, h]
theorem wL_nk {σ : ES} {k j a : Nat} {v : Int64} (h : a ≠ k) : (wL σ k j v).2 a = σ.2 a := by simp [wL, u2L, h]
-- literals
theorem il0 : (0 : Int32) = nI 0 := by decide
theorem il1 : (1 : Int32) = nI 1 := by decide
theorem il2 : (2 : Int32) = nI 2 := by decide
theorem il3 : (3 : Int32) = nI 3 := by decide
theorem il4 : (4 : Int32) = nI 4 := by decide
theorem il5 : (5 : Int32) = nI 5 := by decide
theorem il6 : (6 : Int32) = nI 6 := by decide
theorem il7 : (7 : Int32) = nI 7 := by decide
theorem il8 : (8 : Int32) = nI 8 := by decide
theorem il9 : (9 : Int32) = nI 9 := by decide
theorem il10 : (10 : Int32) = nI 10 := by decide
theorem il12 : (12 : Int32) = nI 12 := by decide
theorem il15 : (15 : Int32) = nI 15 := by decide
theorem il16 : (16 : Int32) = nI 16 := by decide
theorem il17 : (17 : Int32) = nI 17 := by decide
theorem il18 : (18 : Int32) = nI 18 := by decide
theorem il20 : (20 : Int32) = nI 20 := by decide
theorem il30 : (30 : Int32) = nI 30 := by decide
theorem il32 : (32 : Int32) = nI 32 := by decide
theorem il36 : (36 : Int32) = nI 36 := by decide
theorem il45 : (45 : Int32) = nI 45 := by decide
theorem il48 : (48 : Int32) = nI 48 := by decide
theorem il57 : (57 : Int32) = nI 57 := by decide
theorem il64 : (64 : Int32) = nI 64 := by decide
theorem il67 : (67 : Int32) = nI 67 := by decide
theorem il69 : (69 : Int32) = nI 69 := by decide
theorem il71 : (71 : Int32) = nI 71 := by decide
theorem il97 : (97 : Int32) = nI 97 := by decide
theorem il99 : (99 : Int32) = nI 99 := by decide
theorem il100 : (100 : Int32) = nI 100 := by decide
theorem il255 : (255 : Int32) = nI 255 := by decide
theorem il288 : (288 : Int32) = nI 288 := by decide
theorem il2401 : (2401 : Int32) = nI 2401 := by decide
theorem il1000000 : (1000000 : Int32) = nI 1000000 := by decide
-- a number that is no nI: the negative constants
theorem nI_ne9 {a : Nat} (h : a < 2 ^ 31) : ¬ nI a = -9 := by
  intro e
  have := congrArg Int32.toInt e
  rw [nI_toInt h] at this
  have e2 : (-9 : Int32).toInt = -9 := rfl
  omega
theorem n9_ne {a : Nat} (h : a < 2 ^ 31) : ¬ (-9 : Int32) = nI a := fun e => nI_ne9 h e.symm
theorem nI_neg1 : (nI 0) - (nI 1) = -1 := rfl
-- an int: below zero, or a natural number
theorem i_cases (x : Int32) : x < 0 ∨ ∃ j : Nat, j < 2 ^ 31 ∧ x = nI j := by
  by_cases h : x < 0
  · exact Or.inl h
  · exact Or.inr (nI_of h)
theorem nneg {j : Nat} (h : j < 2 ^ 31) : ¬ nI j < nI 0 := by rw [nI_ltI h (by omega)]; omega
-- the loop rule
theorem loop_inv {S R : Type} (L : Nat → Nat → S → R) (Inv : Nat → S → Prop) (N : Nat) (hs : ∀ n c s, c < N → Inv c s → ∃ s', Inv (c + 1) s' ∧ L (n + 1) c s = L n (c + 1) s') : ∀ m c s, c + m = N → Inv c s → ∀ n, m ≤ n → ∃ s', Inv N s' ∧ L n c s = L (n - m) N s' := by
  intro m
  induction m with
  | zero =>
    intro c s hc hI n _
    have : c = N := by omega
    subst this
    exact ⟨s, hI, rfl⟩
  | succ m ih =>
    intro c s hc hI n hn
    obtain ⟨k, rfl⟩ : ∃ k, n = k + 1 := ⟨n - 1, by omega⟩
    obtain ⟨s1, h1, e1⟩ := hs k c s (by omega) hI
    obtain ⟨s2, h2, e2⟩ := ih (c + 1) s1 (by omega) h1 k (by omega)
    refine ⟨s2, h2, ?_⟩
    rw [e1, e2]
    congr 1
    omega
theorem FU_s (m : Nat) (h : m < 100000) : ∃ k, FU - m = k + 1 := ⟨FU - m - 1, by unfold FU; omega⟩
theorem FU_le {m : Nat} (h : m ≤ 100000) : m ≤ FU := by unfold FU; omega
/-- from 0 to N, and one turn more -/
theorem loop_FU {S R : Type} (L : Nat → Nat → S → R) (Inv : Nat → S → Prop) (N : Nat) (hN : N < 100000) (hs : ∀ n c s, c < N → Inv c s → ∃ s', Inv (c + 1) s' ∧ L (n + 1) c s = L n (c + 1) s') (s : S) (h0 : Inv 0 s) : ∃ s' k, Inv N s' ∧ L FU 0 s = L (k + 1) N s' := by
  obtain ⟨s', h, e⟩ := loop_inv L Inv N hs N 0 s (by omega) h0 FU (FU_le (by omega))
  obtain ⟨k, hk⟩ := FU_s N hN
  exact ⟨s', k, h, by rw [e, hk]⟩
-- bits
theorem nI_or (a b : Nat) : nI a ||| nI b = nI (a ||| b) := by
  apply Int32.toBitVec_inj.mp
  simp [nI]
theorem nI_and (a b : Nat) : nI a &&& nI b = nI (a &&& b) := by
  apply Int32.toBitVec_inj.mp
  simp [nI]
theorem nI_sh : ∀ c, c < 31 → (nI 1) <<< (nI c &&& 31) = nI (2 ^ c) := by decide
/-- the set of those below n that have it -/
def bm (f : Nat → Bool) : Nat → Nat
  | 0 => 0
  | n + 1 => bm f n ||| (if f n then 2 ^ n else 0)
def cnt (f : Nat → Bool) : Nat → Nat
  | 0 => 0
  | n + 1 => cnt f n + (if f n then 1 else 0)
theorem bm_congr {f g : Nat → Bool} {n : Nat} (h : ∀ c, c < n → f c = g c) : bm f n = bm g n := by
  induction n with
  | zero => rfl
  | succ n ih => rw [bm, bm, ih (fun c hc => h c (by omega)), h n (by omega)]
theorem cnt_congr {f g : Nat → Bool} {n : Nat} (h : ∀ c, c < n → f c = g c) : cnt f n = cnt g n := by
  induction n with
  | zero => rfl
  | succ n ih => rw [cnt, cnt, ih (fun c hc => h c (by omega)), h n (by omega)]
theorem bm_lt (f : Nat → Bool) (n : Nat) : bm f n < 2 ^ n := by
  induction n with
  | zero => exact Nat.one_pos
  | succ n ih =>
    rw [bm]
    refine Nat.or_lt_two_pow (Nat.lt_of_lt_of_le ih (Nat.pow_le_pow_right (by decide) (by omega))) ?_
    by_cases h : f n
    · rw [if_pos h]; exact Nat.pow_lt_pow_right (by decide) (by omega)
    · rw [if_neg h]; exact Nat.two_pow_pos _
theorem bm_test (f : Nat → Bool) (n c : Nat) : (bm f n).testBit c = (decide (c < n) && f c) := by
  induction n with
  | zero => simp [bm]
  | succ n ih =>
    rw [bm, Nat.testBit_or, ih]
    by_cases h : f n
    · rw [if_pos h, Nat.testBit_two_pow]
      by_cases hc : c = n
      · subst hc; simp [h]
      · have : (decide (n = c)) = false := by simp; omega
        rw [this]
        by_cases h2 : c < n
        · simp [h2, show c < n + 1 by omega]
        · simp [h2, show ¬ c < n + 1 by omega]
    · rw [if_neg h]
      by_cases hc : c = n
      · subst hc; simp [h]
      · by_cases h2 : c < n
        · simp [h2, show c < n + 1 by omega]
        · simp [h2, show ¬ c < n + 1 by omega]

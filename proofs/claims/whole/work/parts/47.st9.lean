-- ===== bits of an int; the greatest common divisor; from, next =====
theorem sh31 : ∀ k, k < 31 → ((nI k &&& 31).toBitVec.smod 32).toNat = k := by decide +kernel
theorem shr_n {x k : Nat} (hx : x < 2 ^ 31) (hk : k < 31) : nI x >>> (nI k &&& 31) = nI (x / 2 ^ k) := by
  apply Int32.toInt_inj.mp
  have e : (nI x).toInt = (x : Int) := nI_toInt hx
  have hq : x / 2 ^ k < 2 ^ 31 := Nat.lt_of_le_of_lt (Nat.div_le_self _ _) hx
  rw [nI_toInt hq, Int.natCast_ediv, ← e]
  show ((nI x).toBitVec.sshiftRight' ((nI k &&& 31).toBitVec.smod 32)).toInt = (nI x).toBitVec.toInt / _
  rw [BitVec.toInt_sshiftRight', Int.shiftRight_eq_div_pow, sh31 k hk]
theorem bit_n {x k : Nat} (hx : x < 2 ^ 31) (hk : k < 31) : (nI x >>> (nI k &&& 31)) &&& 1 = nI (if x.testBit k then 1 else 0) := by
  have e : (1 : Int32) = nI (2 ^ 1 - 1) := by decide
  rw [shr_n hx hk, e, nI_and, Nat.and_two_pow_sub_one_eq_mod, Nat.testBit_eq_decide_div_mod_eq]
  by_cases h : x / 2 ^ k % 2 = 1
  · simp [h]
  · simp [h]; congr 1; omega
theorem bit_1 {x k : Nat} (hx : x < 2 ^ 31) (hk : k < 31) : (nI x >>> (nI k &&& 31)) &&& 1 = 1 ↔ x.testBit k = true := by
  rw [bit_n hx hk]
  by_cases h : x.testBit k = true
  · simp [h]; rfl
  · simp [h]; decide
theorem has_n {x k : Nat} (hx : x < 2 ^ 31) (hk : k < 31) : e_X8_has (nI x) (nI k) = some (if x.testBit k then 1 else 0) := by
  unfold e_X8_has b_X8_has_0
  simp only [bit_1 hx hk]
  by_cases h : x.testBit k = true
  · rw [if_pos h, if_pos h]
  · rw [if_neg h, if_neg h]
theorem bc64 : ∀ a, a < 64 → ∀ b, b < 64 → e_J6_bitCount (nI (64 * a + b)) = some (nI (cnt (fun i => (64 * a + b).testBit i) 12)) := by decide +kernel
theorem bc12 (x : Nat) (h : x < 4096) : e_J6_bitCount (nI x) = some (nI (cnt (fun i => x.testBit i) 12)) := by
  have := bc64 (x / 64) (by omega) (x % 64) (by omega)
  rw [Nat.div_add_mod] at this
  exact this
theorem gcd_sm {a b r : Nat} (hb : 0 < b) (hr : r = a % b) (h0 : 0 < r) : b % r + b % r < b := by
  have h1 : r < b := by rw [hr]; exact Nat.mod_lt _ hb
  have h2 : b % r < r := Nat.mod_lt _ h0
  have h3 := Nat.div_add_mod b r
  have h4 : 0 < b / r := Nat.div_pos (by omega) h0
  have h5 : r ≤ r * (b / r) := Nat.le_mul_of_pos_right _ h4
  omega
theorem mgcd : ∀ k a b n, a < 2 ^ 31 → b < 2 ^ 31 → b < 2 ^ k → 2 * k < n → b_X8_common_4 n (nI a) (nI b) = some (nI (Nat.gcd b a)) := by
  intro k
  induction k with
  | zero =>
    intro a b n ha hb hk hn
    obtain ⟨j, rfl⟩ : ∃ j, n = j + 1 := ⟨n - 1, by omega⟩
    have : b = 0 := by omega
    subst this
    rw [b_X8_common_4, if_pos (show nI 0 = 0 from rfl), Nat.gcd_zero_left]
  | succ k ih =>
    intro a b n ha hb hk hn
    obtain ⟨j, rfl⟩ : ∃ j, n = j + 1 + 1 := ⟨n - 2, by omega⟩
    by_cases h : b = 0
    · subst h
      rw [b_X8_common_4, if_pos (show nI 0 = 0 from rfl), Nat.gcd_zero_left]
    · have l1 := Nat.mod_lt a (show 0 < b by omega)
      rw [b_X8_common_4, if_neg (nI_ne0 (by omega) hb), dv_nI (by omega) hb, lt_e, pk_rem ha (by omega) hb, Nat.gcd_rec b a]
      by_cases h2 : a % b = 0
      · rw [h2, b_X8_common_4, if_pos (show nI 0 = 0 from rfl), Nat.gcd_zero_left]
      · have l2 := gcd_sm (a := a) (b := b) (by omega) rfl (by omega)
        rw [b_X8_common_4, if_neg (nI_ne0 (by omega) (by omega)), dv_nI (by omega) (by omega), lt_e, pk_rem hb (by omega) (by omega), Nat.gcd_rec (a % b) b]
        refine ih _ _ j (by omega) (by omega) ?_ (by omega)
        rw [Nat.pow_succ] at hk; omega
theorem common_e {a b : Nat} (ha : a < 2 ^ 31) (hb : b < 2 ^ 31) : e_X8_common (nI a) (nI b) = some (nI (Nat.gcd a b)) := by
  unfold e_X8_common b_X8_common_0
  rw [mgcd 31 a b FU ha hb hb (by unfold FU; omega), Nat.gcd_comm]
theorem xgcd (p q v : Int32) : ∀ k a b n t, a < 2 ^ 31 → b < 2 ^ 31 → b < 2 ^ k → 2 * k < n → t + 2 * k ≤ 64 → b_X7_fraction_8 n p q v (nI a) (nI b) (nI t) = b_X7_fraction_39 p q v (nI (Nat.gcd b a)) := by
  intro k
  induction k with
  | zero =>
    intro a b n t ha hb hk hn ht
    obtain ⟨j, rfl⟩ : ∃ j, n = j + 1 := ⟨n - 1, by omega⟩
    have : b = 0 := by omega
    subst this
    rw [b_X7_fraction_8, if_pos (show nI 0 = 0 from rfl), Nat.gcd_zero_left, ite_self]
  | succ k ih =>
    intro a b n t ha hb hk hn ht
    obtain ⟨j, rfl⟩ : ∃ j, n = j + 1 + 1 := ⟨n - 2, by omega⟩
    by_cases h : b = 0
    · subst h
      rw [b_X7_fraction_8, if_pos (show nI 0 = 0 from rfl), Nat.gcd_zero_left, ite_self]
    · have l1 := Nat.mod_lt a (show 0 < b by omega)
      rw [b_X7_fraction_8, if_neg (show ¬ (64 : Int32) ≤ nI t from nI_ge (b := 64) (by omega) (by omega)), if_neg (nI_ne0 (by omega) hb), dv_nI (by omega) hb, lt_e, lt_e, pk_rem ha (by omega) hb, nI_1, Nat.gcd_rec b a]
      by_cases h2 : a % b = 0
      · rw [h2, b_X7_fraction_8, if_pos (show nI 0 = 0 from rfl), Nat.gcd_zero_left, ite_self]
      · have l2 := gcd_sm (a := a) (b := b) (by omega) rfl (by omega)
        rw [b_X7_fraction_8, if_neg (show ¬ (64 : Int32) ≤ nI (t + 1) from nI_ge (b := 64) (by omega) (by omega)), if_neg (nI_ne0 (by omega) (by omega)), dv_nI (by omega) (by omega), lt_e, lt_e, pk_rem hb (by omega) (by omega), nI_1, Nat.gcd_rec (a % b) b]
        refine ih _ _ j _ (by omega) (by omega) ?_ (by omega) (by omega)
        rw [Nat.pow_succ] at hk; omega
theorem frac_e {a b : Nat} (ha : a < 2 ^ 31) (hb : b < 2 ^ 31) (h0 : 0 < b) (v : Int32) : e_X7_fraction (nI a) (nI b) v = some (if v = 0 then nI (b / Nat.gcd a b) else nI (a / Nat.gcd a b)) := by
  have hg : 0 < Nat.gcd a b := Nat.gcd_pos_of_pos_right _ h0
  have hl : Nat.gcd a b < 2 ^ 31 := Nat.lt_of_le_of_lt (Nat.gcd_le_right _ h0) hb
  unfold e_X7_fraction b_X7_fraction_0
  rw [il0, xgcd _ _ _ 31 b a FU 0 hb ha ha (by unfold FU; omega) (by omega), ← il0]
  unfold b_X7_fraction_39
  rw [if_neg (nI_ne0 hg hl), dv_nI hg hl, dv_nI hg hl, pk_div ha hg hl, pk_div hb hg hl]
  by_cases h : v = 0
  · rw [if_pos h, if_pos h]
  · rw [if_neg h, if_neg h]
theorem mfrac_e {a b : Nat} (ha : a < 2 ^ 31) (hb : b < 2 ^ 31) (h0 : 0 < b) (v : Int32) : (cl (e_X8_common (nI a) (nI b)) fun r3 => if v = (0 : Int32) then (dv r3 <| some (nI b / r3)) else (dv r3 <| some (nI a / r3))) = some (if v = 0 then nI (b / Nat.gcd a b) else nI (a / Nat.gcd a b)) := by
  have hg : 0 < Nat.gcd a b := Nat.gcd_pos_of_pos_right _ h0
  have hl : Nat.gcd a b < 2 ^ 31 := Nat.lt_of_le_of_lt (Nat.gcd_le_right _ h0) hb
  rw [common_e ha hb, cl_so, dv_nI hg hl, dv_nI hg hl, pk_div ha hg hl, pk_div hb hg hl]
  by_cases h : v = 0
  · rw [if_pos h, if_pos h]
  · rw [if_neg h, if_neg h]
-- from
theorem allN_f {f : Nat → Bool} {i k : Nat} (h : i < k) (hf : f i = false) : allN f k = false := by
  induction k with
  | zero => omega
  | succ k ih =>
    rw [allN]
    by_cases e : i = k
    · subst e; rw [hf, Bool.and_false]
    · rw [ih (by omega), Bool.false_and]
def fI (b : Bool) : Int32 := if b then 1 else 0
def frB (P : Nat → Nat → Nat) (B : Nat → Nat) (p : Nat) (i : Nat) : Bool := decide (P 1 (p + i) = B i)
theorem xcan {σ : ES} {P : Nat → Nat → Nat} {B : Nat → Nat} {k : Nat} (hW : WP P) (hXP : XPt σ 30 P) (hk : k ≤ 6) (h1 : σ.1 24 1 = nI k) (h2 : ∀ j, j < k → σ.1 25 j = nI (B j) ∧ B j ≤ 4) {p : Nat} (hp : p + k ≤ P 0 0) : ∀ m i, i + m = k → allN (frB P B p) i = true → ∀ n, m < n → b_X1_canBeFrom_24_30_2 σ n (nI p) (nI i) = some (if allN (frB P B p) k then 1 else 0) := by
  have w1 := hW.1
  intro m
  induction m with
  | zero =>
    intro i e a n hn
    obtain ⟨j, rfl⟩ : ∃ j, n = j + 1 := ⟨n - 1, by omega⟩
    rw [b_X1_canBeFrom_24_30_2, h1, if_pos (nI_le (by omega) (by omega)), ← e, Nat.add_zero, a]; rfl
  | succ m ih =>
    intro i e a n hn
    obtain ⟨j, rfl⟩ : ∃ j, n = j + 1 := ⟨n - 1, by omega⟩
    have q := hW.2.2.2.1 (p + i) (by omega)
    have q2 := (h2 i (by omega)).2
    rw [b_X1_canBeFrom_24_30_2, h1, if_neg (nI_ge (by omega) (by omega)), nI_add, xgift_in hW hXP (by omega), cl_so, rd_nI (by omega) (by omega), (h2 i (by omega)).1]
    by_cases c : P 1 (p + i) = B i
    · rw [if_pos (by rw [c]), lt_e, nI_1]
      exact ih (i + 1) (by omega) (by rw [allN, a]; simp [frB, c]) j (by omega)
    · rw [if_neg (fun x => c ((nI_eq (by omega) (by omega)).mp x)), allN_f (i := i) (by omega) (by simp [frB, c])]; rfl
def orig (P : Nat → Nat → Nat) (B : Nat → Nat) (k l : Nat) : Nat := if l < k then 0 else bm (fun p => allN (frB P B p) k) (P 0 0 + 1 - l)
theorem xorig {σ : ES} {P : Nat → Nat → Nat} {B : Nat → Nat} {k l : Nat} (hW : WP P) (hXP : XPt σ 30 P) (hk : k ≤ 6) (h1 : σ.1 24 1 = nI k) (h2 : ∀ j, j < k → σ.1 25 j = nI (B j) ∧ B j ≤ 4) (hl : l ≤ 6) (hl1 : 1 ≤ l) : e_X1_origins_24_30 (nI l) σ = some (nI (orig P B k l)) := by
  have w1 := hW.1
  unfold e_X1_origins_24_30 b_X1_origins_24_30_0 orig
  by_cases c0 : l < k
  · obtain ⟨j, hj⟩ := FU_s 0 (by omega)
    rw [Nat.sub_zero] at hj
    rw [hj, b_X1_origins_24_30_5, h1, if_pos (nI_lt c0 (by omega)), if_pos c0]; rfl
  · rw [if_neg c0]
    obtain ⟨s, j, e1, e2⟩ := loop_FU (fun n c (s : Nat) => b_X1_origins_24_30_5 σ n (nI l) (nI s) (nI c)) (fun c s => s = bm (fun p => allN (frB P B p) k) c) (P 0 0 + 1 - l) (by omega) (fun n c s hc hs => ⟨bm (fun p => allN (frB P B p) k) (c + 1), rfl, by
      subst hs
      show b_X1_origins_24_30_5 σ (n + 1) _ _ _ = b_X1_origins_24_30_5 σ n _ _ _
      have e3 : e_X1_canBeFrom_24_30 (nI c) σ = some (if allN (frB P B c) k then 1 else 0) := xcan hW hXP hk h1 h2 (by omega) k 0 (by omega) rfl FU (by unfold FU; omega)
      rw [b_X1_origins_24_30_5, h1, if_neg (nI_nlt (by omega) (by omega)), hXP.1.1, nI_add, if_neg (nI_nlt (by omega) (by omega)), e3, cl_so]
      simp only [lt_e, il1, nI_add, nI_sh c (by omega)]
      rw [← or_if]
      by_cases h : allN (frB P B c) k = true
      · simp [h, n1_ne]
      · simp [h, nI_or]⟩) 0 rfl
    subst e1
    simp only [il0]
    rw [e2, b_X1_origins_24_30_5, h1, if_neg (nI_nlt (by omega) (by omega)), hXP.1.1, nI_add, if_pos (nI_lt (by omega) (by omega))]
theorem subl {a b c : Nat} (ha : a < 1000) (hb : b < 1000) (hc : c < 1000) : nI a - nI b < nI c ↔ a < b + c := by
  have e : (nI a - nI b).toInt = (a : Int) - b := pk_sub_toInt (a := a) (b := b) (by omega) (by omega)
  rw [Int32.lt_iff_toInt_lt, e, nI_toInt (by omega)]
  omega
theorem mfrom28 {τ : ES} {P : Nat → Nat → Nat} {B : Nat → Nat} {k : Nat} (hW : WP P) (hMP : MPt τ P) (hk : k ≤ 6) (h1 : τ.1 0 28 = nI k) (h2 : ∀ j, j < k → τ.1 18 j = nI (B j) ∧ B j ≤ 4) {p s : Nat} {v1 : Int32} {K : Int32 → Int32 → Int32 → Option Int32} (hp : p + k ≤ P 0 0) : b_X8_fromOf_28 τ K FU v1 (nI s) (nI p) 1 0 = K v1 (nI (s ||| (if allN (frB P B p) k then 2 ^ p else 0))) (nI (p + 1)) := by
  have w1 := hW.1
  obtain ⟨u, j, e1, e2⟩ := loop_FU (fun n c (_ : Unit) => b_X8_fromOf_28 τ K n v1 (nI s) (nI p) (fI (allN (frB P B p) c)) (nI c)) (fun _ _ => True) k (by omega) (fun n c _ hc _ => ⟨(), trivial, by
    show b_X8_fromOf_28 τ K (n + 1) _ _ _ _ _ = b_X8_fromOf_28 τ K n _ _ _ _ _
    rw [b_X8_fromOf_28, h1, if_neg (nI_ge hc (by omega))]
    by_cases a : allN (frB P B p) c = true
    · have e1 : fI (allN (frB P B p) c) = 1 := by rw [a]; rfl
      have q := hW.2.2.2.1 (p + c) (by omega)
      have q2 := (h2 c (by omega)).2
      rw [e1, if_neg one_ne, nI_add, rd_nI (by omega) (by omega), rd_nI (by omega) (by omega), hMP.2.1 _ (by omega), (h2 c hc).1, lt_e, lt_e, nI_1]
      by_cases e : P 1 (p + c) = B c
      · rw [if_pos (by rw [e]), show fI (allN (frB P B p) (c + 1)) = 1 by simp [allN, a, frB, e, fI]]
      · rw [if_neg (fun x => e ((nI_eq (by omega) (by omega)).mp x)), show fI (allN (frB P B p) (c + 1)) = 0 by simp [allN, frB, e, fI]]
    · have e1 : fI (allN (frB P B p) c) = 0 := by simp [fI, a]
      rw [e1, if_pos rfl, lt_e, nI_1, show fI (allN (frB P B p) (c + 1)) = 0 by simp [allN, a, fI]]⟩) () trivial
  have e3 : b_X8_fromOf_28 τ K FU v1 (nI s) (nI p) 1 0 = b_X8_fromOf_28 τ K (j + 1) v1 (nI s) (nI p) (fI (allN (frB P B p) k)) (nI k) := e2
  rw [e3, b_X8_fromOf_28, h1, if_pos (nI_le (by omega) (by omega))]
  simp only [lt_e, nI_1]
  by_cases a : allN (frB P B p) k = true
  · rw [a, show fI true = 1 from rfl, if_neg one_ne, if_pos rfl, il1, nI_sh p (by omega), nI_or]
  · rw [if_neg a, show fI (allN (frB P B p) k) = 0 by simp [fI, a], if_pos rfl, il0, nI_or]
theorem mfromOf {τ : ES} {P : Nat → Nat → Nat} {B : Nat → Nat} {k l : Nat} (hW : WP P) (hMP : MPt τ P) (hk : k ≤ 6) (h1 : τ.1 0 28 = nI k) (h2 : ∀ j, j < k → τ.1 18 j = nI (B j) ∧ B j ≤ 4) (hl : l ≤ 6) (hl1 : 1 ≤ l) : e_X8_fromOf (nI l) τ = some (nI (orig P B k l)) := by
  have w1 := hW.1
  unfold e_X8_fromOf b_X8_fromOf_0 orig
  by_cases c0 : l < k
  · obtain ⟨j, hj⟩ := FU_s 0 (by omega)
    rw [Nat.sub_zero] at hj
    rw [hj, b_X8_fromOf_4, h1, if_pos (nI_lt c0 (by omega)), if_pos c0, ite_self]; rfl
  · rw [if_neg c0]
    obtain ⟨s, j, e1, e2⟩ := loop_FU (fun n c (s : Nat) => b_X8_fromOf_4 τ n (nI l) (nI s) (nI c)) (fun c s => s = bm (fun p => allN (frB P B p) k) c) (P 0 0 + 1 - l) (by omega) (fun n c s hc hs => ⟨bm (fun p => allN (frB P B p) k) (c + 1), rfl, by
      subst hs
      show b_X8_fromOf_4 τ (n + 1) _ _ _ = b_X8_fromOf_4 τ n _ _ _
      rw [b_X8_fromOf_4, hMP.1.1, if_neg (fun q => by have := (subl (by omega) (by omega) (by omega)).mp q; omega), h1, if_neg (nI_nlt (by omega) (by omega)), mfrom28 hW hMP hk h1 h2 (by omega)]
      rw [bm]⟩) 0 rfl
    subst e1
    simp only [il0]
    rw [e2, b_X8_fromOf_4, hMP.1.1, if_pos ((subl (by omega) (by omega) (by omega)).mpr (by omega))]
theorem st_from {σ τ : ES} (hR : Rel σ τ) (a0 : Int32) : ∃ (r : Int32), e_X7_from_0 a0 σ = some r ∧ e_X8_from a0 τ = some r := by
  obtain ⟨hT, ⟨k, B, hk, h1, h2, h3⟩, hD, P, β, hW, hXP, hMP, -⟩ := hR
  unfold e_X7_from_0 b_X7_from_0_0 e_X8_from b_X8_from_0
  rw [in_ll a0 (l := 1) (h := 6) (by decide) (by decide), cl_in]
  by_cases c0 : a0 < 1
  · rw [if_pos c0, if_neg (show ¬ (1 ≤ a0 ∧ a0 ≤ 6) from fun q => Int32.not_lt.mpr q.1 c0)]
    exact ⟨_, rfl, rfl⟩
  · by_cases c1 : a0 ≤ 6
    · rw [if_neg c0, if_pos c1, if_pos (show 1 ≤ a0 ∧ a0 ≤ 6 from ⟨Int32.not_lt.mp c0, c1⟩)]
      obtain ⟨l, k1, k2, rfl⟩ := rng (a := 1) (b := 6) (by omega) (by omega) c0 c1
      rw [xorig hW hXP hk h1 (fun j hj => ⟨(h3 j hj).1, (h3 j hj).2.2⟩) k2 k1, mfromOf hW hMP hk h2 (fun j hj => (h3 j hj).2) k2 k1]
      exact ⟨_, rfl, rfl⟩
    · rw [if_neg c0, if_neg c1, if_neg (show ¬ (1 ≤ a0 ∧ a0 ≤ 6) from fun q => c1 q.2)]
      exact ⟨_, rfl, rfl⟩

-- ===== cut: the two ways to count =====
def dif (S Q : Nat) : Nat := S &&& (63 - Q)
def sub (Q S : Nat) : Bool := decide (Q &&& (63 - S) = 0)
def wo (L v d : Nat) : Nat := if L < v % 32 + d then (v / 32 + 1) * 32 + d else v + d
def smd (d : Nat → Nat) (Q : Nat) : Nat := sumN (fun i => if Q.testBit i then d i else 0) 6
theorem ct_any : ∀ S, S < 64 → 0 < S → ∃ i, i < 6 ∧ S.testBit i = true := by decide +kernel
theorem ct_dif : ∀ S, S < 64 → ∀ Q, Q < 64 → dif S Q ≤ S ∧ (sub Q S = true → Q ≤ S ∧ dif S Q ||| Q = S ∧ (0 < Q → dif S Q < S)) ∧ dif S S = 0 := by decide +kernel
theorem ct_i : ∀ S, S < 64 → ∀ i, i < 6 → S.testBit i = true → dif S (2 ^ i) < S ∧ sub (2 ^ i) S = true ∧ (dif S (2 ^ i)).testBit i = false ∧ (dif S (2 ^ i)) ||| 2 ^ i = S ∧ (dif S (2 ^ i) = 0 → S = 2 ^ i) := by decide +kernel
theorem ct_3a : ∀ S, S < 64 → ∀ Q, Q < 64 → ∀ i, i < 6 → (Q.testBit i = true → (dif S Q).testBit i = false) := by decide +kernel
theorem ct_3b : ∀ S, S < 64 → ∀ Q, Q < 64 → ∀ i, i < 6 → (sub Q S = true → Q.testBit i = true → S.testBit i = true) := by decide +kernel
theorem ct_3c : ∀ S, S < 64 → ∀ Q, Q < 64 → ∀ i, i < 6 → (Q.testBit i = true → S.testBit i = false → dif (S ||| Q) (2 ^ i) = S ||| dif Q (2 ^ i)) := by decide +kernel
theorem ct_3d : ∀ S, S < 64 → ∀ Q, Q < 64 → ∀ i, i < 6 → (sub Q S = true → sub (dif Q (2 ^ i)) S = true) := by decide +kernel
theorem ct_3e : ∀ S, S < 64 → ∀ Q, Q < 64 → ∀ i, i < 6 → dif S (Q ||| 2 ^ i) = dif (dif S (2 ^ i)) Q := by decide +kernel
theorem ct_3f : ∀ S, S < 64 → ∀ Q, Q < 64 → ∀ i, i < 6 → (S.testBit i && sub Q (dif S (2 ^ i))) = true → Q.testBit i = false := by decide +kernel
theorem ct_3g : ∀ S, S < 64 → ∀ Q, Q < 64 → ∀ i, i < 6 → (S.testBit i && sub Q (dif S (2 ^ i))) = true → sub (Q ||| 2 ^ i) S = true := by decide +kernel
theorem ct_3 (S : Nat) (hS : S < 64) (Q : Nat) (hQ : Q < 64) (i : Nat) (hi : i < 6) : (Q.testBit i = true → (dif S Q).testBit i = false) ∧ (sub Q S = true → Q.testBit i = true → S.testBit i = true) ∧ (Q.testBit i = true → S.testBit i = false → dif (S ||| Q) (2 ^ i) = S ||| dif Q (2 ^ i)) ∧ (sub Q S = true → sub (dif Q (2 ^ i)) S = true) ∧ dif S (Q ||| 2 ^ i) = dif (dif S (2 ^ i)) Q ∧ (S.testBit i = true → sub Q (dif S (2 ^ i)) = true → Q.testBit i = false ∧ sub (Q ||| 2 ^ i) S = true) := ⟨ct_3a S hS Q hQ i hi, ct_3b S hS Q hQ i hi, ct_3c S hS Q hQ i hi, ct_3d S hS Q hQ i hi, ct_3e S hS Q hQ i hi, fun h1 h2 => ⟨ct_3f S hS Q hQ i hi (by rw [h1, h2]; rfl), ct_3g S hS Q hQ i hi (by rw [h1, h2]; rfl)⟩⟩
theorem smd_add {d : Nat → Nat} {Q i : Nat} (hi : i < 6) (h : Q.testBit i = false) : smd d (Q ||| 2 ^ i) = smd d Q + d i := by
  unfold smd
  have t : ∀ j, (Q ||| 2 ^ i).testBit j = (Q.testBit j || decide (i = j)) := fun j => by rw [Nat.testBit_or, Nat.testBit_two_pow]
  simp only [sumN, t]
  have : i = 0 ∨ i = 1 ∨ i = 2 ∨ i = 3 ∨ i = 4 ∨ i = 5 := by omega
  rcases this with e | e | e | e | e | e <;> subst e <;> simp [h] <;> omega
theorem wo_mono {L v w d : Nat} (hL : L < 32) (h : v ≤ w) : wo L v d ≤ wo L w d := by
  unfold wo
  split <;> split <;> omega
theorem smd_0 (d : Nat → Nat) : smd d 0 = 0 := by unfold smd; simp [sumN]
theorem cut_le {L M : Nat} {d l g : Nat → Nat} (hL : L ≤ 30) (hM : ∃ k, k ≤ 6 ∧ M = 2 ^ k) (hd : ∀ S, S < M → ∀ i, i < 6 → S.testBit i = true → 1 ≤ d i) (p1 : l 0 = L) (p2 : ∀ S, 0 < S → S < M → ∀ i, i < 6 → S.testBit i = true → l S ≤ wo L (l (dif S (2 ^ i))) (d i)) (r1 : g 0 = 0) (r3 : ∀ S, 0 < S → S < M → ∃ Q, Q < 64 ∧ 0 < Q ∧ sub Q S = true ∧ smd d Q ≤ L ∧ g S = g (dif S Q) + 1) : ∀ S, S < M → l S ≤ 32 * g S + L := by
  obtain ⟨k, hk, rfl⟩ := hM
  have h64 : 2 ^ k ≤ 64 := Nat.pow_le_pow_right (n := 2) (by decide) (show k ≤ 6 from hk)
  intro S
  induction S using Nat.strongRecOn with
  | _ S ih =>
    intro hS
    by_cases h0 : S = 0
    · subst h0; rw [p1, r1]; omega
    · obtain ⟨Q, q0, q1, q2, q3, q4⟩ := r3 S (by omega) hS
      obtain ⟨x1, x2, -⟩ := ct_dif S (by omega) Q q0
      obtain ⟨x2, x3, x4⟩ := x2 q2
      have hR := ih (dif S Q) (x4 q1) (by omega)
      have key : ∀ W, 0 < W → W < 2 ^ k → sub W Q = true → smd d W ≤ L → l (dif S Q ||| W) ≤ 32 * (g (dif S Q) + 1) + smd d W := by
        intro W
        induction W using Nat.strongRecOn with
        | _ W iw =>
          intro w0 w1 w2 w3
          obtain ⟨i, i1, i2⟩ := ct_any W (by omega) w0
          have b1 := (ct_3 Q q0 W (by omega) i i1).2.1 w2 i2
          have b2 := (ct_3 S (by omega) Q q0 i i1).1 b1
          have b3 := (ct_3 (dif S Q) (by omega) W (by omega) i i1).2.2.1 i2 b2
          have b4 := (ct_3 Q q0 W (by omega) i i1).2.2.2.1 w2
          obtain ⟨c1, c2, c3, c4, c5⟩ := ct_i W (by omega) i i1 i2
          have hW : dif S Q ||| W < 2 ^ k := Nat.or_lt_two_pow (by omega) w1
          have hWp : 0 < dif S Q ||| W := Nat.lt_of_lt_of_le w0 Nat.right_le_or
          have ti : (dif S Q ||| W).testBit i = true := by rw [Nat.testBit_or, i2, Bool.or_true]
          have s1 := smd_add (d := d) i1 c3
          rw [c4] at s1
          have s2 := p2 _ hWp hW i i1 ti
          rw [b3] at s2
          have s3 := hd W w1 i i1 i2
          by_cases e : dif W (2 ^ i) = 0
          · rw [e, Nat.or_zero] at s2
            rw [e, smd_0] at s1
            have s4 := wo_mono (d := d i) (show L < 32 by omega) hR
            have s5 : wo L (32 * g (dif S Q) + L) (d i) = 32 * (g (dif S Q) + 1) + d i := by
              unfold wo
              rw [if_pos (by omega)]; omega
            omega
          · have s6 := iw (dif W (2 ^ i)) c1 (by omega) (by omega) b4 (by omega)
            have s4 := wo_mono (d := d i) (show L < 32 by omega) s6
            have s5 : wo L (32 * (g (dif S Q) + 1) + smd d (dif W (2 ^ i))) (d i) = 32 * (g (dif S Q) + 1) + smd d (dif W (2 ^ i)) + d i := by
              unfold wo
              rw [if_neg (by omega)]
            omega
      have hQQ : sub Q Q = true := by
        have := ct_dif Q q0 Q q0
        unfold sub
        rw [decide_eq_true_eq]
        exact this.2.2
      have := key Q q1 (by omega) hQQ q3
      rw [x3] at this
      omega
theorem cut_ge {L M : Nat} {d l g : Nat → Nat} (hL : L ≤ 30) (hM : M ≤ 64) (hd : ∀ S, S < M → ∀ i, i < 6 → S.testBit i = true → 1 ≤ d i ∧ d i ≤ L) (p1 : l 0 = L) (p3 : ∀ S, 0 < S → S < M → ∃ i, i < 6 ∧ S.testBit i = true ∧ l S = wo L (l (dif S (2 ^ i))) (d i)) (r1 : g 0 = 0) (r2 : ∀ S, 0 < S → S < M → ∀ Q, Q < 64 → 0 < Q → sub Q S = true → smd d Q ≤ L → g S ≤ g (dif S Q) + 1) : ∀ S, 0 < S → S < M → ∃ Q, Q < 64 ∧ 0 < Q ∧ sub Q S = true ∧ smd d Q ≤ L ∧ smd d Q = l S % 32 ∧ g (dif S Q) + 1 ≤ l S / 32 := by
  intro S
  induction S using Nat.strongRecOn with
  | _ S ih =>
    intro h0 hS
    obtain ⟨i, i1, i2, i3⟩ := p3 S h0 hS
    obtain ⟨c1, c2, c3, c4, c5⟩ := ct_i S (by omega) i i1 i2
    have s3 := hd S hS i i1 i2
    have s1 := smd_add (d := d) (Q := 0) i1 (by simp)
    rw [Nat.zero_or, smd_0, Nat.zero_add] at s1
    have h2 : 2 ^ i < 64 := Nat.pow_lt_pow_right (n := 6) (by decide) i1
    have h2p := Nat.two_pow_pos i
    by_cases e : dif S (2 ^ i) = 0
    · rw [e, p1] at i3
      have s5 : wo L L (d i) = 32 + d i := by
        unfold wo
        rw [if_pos (by omega)]; omega
      refine ⟨2 ^ i, h2, h2p, c2, by omega, by omega, ?_⟩
      rw [e, r1]; omega
    · obtain ⟨Q, q0, q1, q2, q3, q4, q5⟩ := ih (dif S (2 ^ i)) c1 (by omega) (by omega)
      unfold wo at i3
      by_cases c : L < l (dif S (2 ^ i)) % 32 + d i
      · rw [if_pos c] at i3
        have s6 := r2 (dif S (2 ^ i)) (by omega) (by omega) Q q0 q1 q2 q3
        exact ⟨2 ^ i, h2, h2p, c2, by omega, by omega, by omega⟩
      · rw [if_neg c] at i3
        obtain ⟨-, -, -, -, t1, t2⟩ := ct_3 S (by omega) Q q0 i i1
        obtain ⟨t2, t3⟩ := t2 i2 q2
        have s7 := smd_add (d := d) i1 t2
        refine ⟨Q ||| 2 ^ i, Nat.or_lt_two_pow (n := 6) q0 h2, Nat.lt_of_lt_of_le q1 Nat.left_le_or, t3, by omega, by omega, ?_⟩
        rw [t1]; omega
theorem cut_eq {L k : Nat} {d l g : Nat → Nat} (hL : L ≤ 30) (hk : k ≤ 6) (hd : ∀ S, S < 2 ^ k → ∀ i, i < 6 → S.testBit i = true → 1 ≤ d i ∧ d i ≤ L) (p1 : l 0 = L) (p2 : ∀ S, 0 < S → S < 2 ^ k → ∀ i, i < 6 → S.testBit i = true → l S ≤ wo L (l (dif S (2 ^ i))) (d i)) (p3 : ∀ S, 0 < S → S < 2 ^ k → ∃ i, i < 6 ∧ S.testBit i = true ∧ l S = wo L (l (dif S (2 ^ i))) (d i)) (r1 : g 0 = 0) (r2 : ∀ S, 0 < S → S < 2 ^ k → ∀ Q, Q < 64 → 0 < Q → sub Q S = true → smd d Q ≤ L → g S ≤ g (dif S Q) + 1) (r3 : ∀ S, 0 < S → S < 2 ^ k → ∃ Q, Q < 64 ∧ 0 < Q ∧ sub Q S = true ∧ smd d Q ≤ L ∧ g S = g (dif S Q) + 1) : ∀ S, 0 < S → S < 2 ^ k → l S / 32 = g S := by
  intro S h0 hS
  have h64 : 2 ^ k ≤ 64 := Nat.pow_le_pow_right (n := 2) (by decide) (show k ≤ 6 from hk)
  have a := cut_le hL ⟨k, hk, rfl⟩ (fun S hS i hi ht => (hd S hS i hi ht).1) p1 p2 r1 r3 S hS
  obtain ⟨Q, q0, q1, q2, q3, q4, q5⟩ := cut_ge hL h64 hd p1 p3 r1 r2 S h0 hS
  have b := r2 S h0 hS Q q0 q1 q2 q3
  omega

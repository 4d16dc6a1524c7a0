-- ===== what class and reference have in common =====
def anyN (f : Nat → Bool) : Nat → Bool
  | 0 => false
  | n + 1 => anyN f n || f n
def allN (f : Nat → Bool) : Nat → Bool
  | 0 => true
  | n + 1 => allN f n && f n
def sumN (f : Nat → Nat) : Nat → Nat
  | 0 => 0
  | n + 1 => sumN f n + f n
/-- figure c of a plan's number -/
def fig (pl c : Nat) : Nat := pl / 7 ^ (3 - c) % 7
/-- a party: P 0 = moments, candles, guests; P 1 .. P 8 its rows -/
def WP (P : Nat → Nat → Nat) : Prop := P 0 0 ≤ 12 ∧ P 0 1 ≤ 4 ∧ P 0 2 ≤ 4 ∧ (∀ j, j < P 0 0 → P 1 j ≤ 4) ∧ (∀ c, c < P 0 1 → P 2 c + P 3 c ≤ P 0 0 ∧ 1 ≤ P 3 c ∧ P 3 c ≤ 6 ∧ 1 ≤ P 4 c ∧ P 4 c ≤ 9) ∧ ∀ g, g < P 0 2 → P 5 g ≤ 3 ∧ 1 ≤ P 6 g ∧ P 6 g ≤ 6 ∧ P 7 g ≤ P 8 g ∧ P 8 g ≤ 9
def XPt (σ : ES) (k : Nat) (P : Nat → Nat → Nat) : Prop := (σ.1 k 8 = nI (P 0 0) ∧ σ.1 k 9 = nI (P 0 1) ∧ σ.1 k 10 = nI (P 0 2)) ∧ (∀ j, j < P 0 0 → σ.1 (k + 1) j = nI (P 1 j)) ∧ (∀ c, c < P 0 1 → σ.1 (k + 2) c = nI (P 2 c) ∧ σ.1 (k + 3) c = nI (P 3 c) ∧ σ.1 (k + 4) c = nI (P 4 c)) ∧ ∀ g, g < P 0 2 → σ.1 (k + 5) g = nI (P 5 g) ∧ σ.1 (k + 6) g = nI (P 6 g) ∧ σ.1 (k + 7) g = nI (P 7 g) ∧ σ.1 (k + 8) g = nI (P 8 g)
def MPt (τ : ES) (P : Nat → Nat → Nat) : Prop := (τ.1 0 0 = nI (P 0 0) ∧ τ.1 0 1 = nI (P 0 1) ∧ τ.1 0 2 = nI (P 0 2)) ∧ (∀ j, j < P 0 0 → τ.1 1 j = nI (P 1 j)) ∧ (∀ c, c < P 0 1 → τ.1 2 c = nI (P 2 c) ∧ τ.1 3 c = nI (P 3 c) ∧ τ.1 4 c = nI (P 4 c)) ∧ ∀ g, g < P 0 2 → τ.1 5 g = nI (P 5 g) ∧ τ.1 6 g = nI (P 6 g) ∧ τ.1 7 g = nI (P 7 g) ∧ τ.1 8 g = nI (P 8 g)
/-- how far an evening has come: place, inches, flame of a candle at c, 4 + c, 8 + c; had at 12 + g; cost 16, step 17 -/
def WB (P : Nat → Nat → Nat) (β : Nat → Nat) : Prop := (∀ c, c < P 0 1 → P 2 c ≤ β c ∧ β c + β (4 + c) = P 2 c + P 3 c ∧ β (8 + c) ≤ 2 ∧ (β (8 + c) ≠ 2 → 1 ≤ β (4 + c))) ∧ (∀ g, g < P 0 2 → β (12 + g) ≤ β 17) ∧ β 17 ≤ 20
def XB (σ : ES) (k : Nat) (P : Nat → Nat → Nat) (β : Nat → Nat) : Prop := (∀ c, c < P 0 1 → σ.1 (k + 1) c = nI (β c) ∧ σ.1 (k + 2) c = nI (β (4 + c)) ∧ σ.1 (k + 3) c = nI (β (8 + c))) ∧ (∀ g, g < P 0 2 → σ.1 (k + 4) g = nI (β (12 + g))) ∧ σ.1 k 4 = nI (β 16) ∧ σ.1 k 5 = nI (β 17)
/-- a row of the reference, from o on -/
def MR (f : Nat → Int32) (o : Nat) (P : Nat → Nat → Nat) (β : Nat → Nat) : Prop := (∀ c, c < P 0 1 → f (o + c) = nI (β c) ∧ f (o + 4 + c) = nI (β (4 + c)) ∧ f (o + 8 + c) = nI (β (8 + c))) ∧ (∀ g, g < P 0 2 → f (o + 12 + g) = nI (β (12 + g))) ∧ f (o + 16) = nI (β 16) ∧ f (o + 17) = nI (β 17)
/-- a row of the class, from o on -/
def XR (f : Nat → Int32) (o : Nat) (P : Nat → Nat → Nat) (β : Nat → Nat) : Prop := (∀ c, c < P 0 1 → f (o + 3 * c) = nI (β c) ∧ f (o + 3 * c + 1) = nI (β (4 + c)) ∧ f (o + 3 * c + 2) = nI (β (8 + c))) ∧ (∀ g, g < P 0 2 → f (o + 12 + g) = nI (β (12 + g))) ∧ f (o + 16) = nI (β 16) ∧ f (o + 17) = nI (β 17)
-- plans
/-- from which step on (1: the first) a candle burns by a plan; 0: it does not -/
def stp (β : Nat → Nat) (pl c : Nat) : Nat := if β (8 + c) = 1 then 1 else fig pl c
/-- is the gift w given at step t from now on? -/
def gv (P : Nat → Nat → Nat) (β : Nat → Nat) (pl t w : Nat) : Bool := anyN (fun c => decide (1 ≤ stp β pl c ∧ stp β pl c ≤ t + 1 ∧ t + 1 - stp β pl c < β (4 + c) ∧ P 1 (β c + (t + 1 - stp β pl c)) = w)) (P 0 1)
def hadF (P : Nat → Nat → Nat) (β : Nat → Nat) (pl g : Nat) : Nat := β (12 + g) + cnt (fun t => decide (P 7 g ≤ β 17 + t ∧ β 17 + t ≤ P 8 g) && gv P β pl t (P 5 g)) 16
def cont (P : Nat → Nat → Nat) (β : Nat → Nat) (pl : Nat) : Nat := bm (fun g => decide (P 6 g ≤ hadF P β pl g)) (P 0 2)
def vld (P : Nat → Nat → Nat) (β : Nat → Nat) (pl : Nat) : Bool := allN (fun c => decide (fig pl c = 0) || (decide (c < P 0 1) && decide (β (8 + c) = 0))) 4
def cst (P : Nat → Nat → Nat) (β : Nat → Nat) (pl : Nat) : Nat := sumN (fun c => if fig pl c = 0 then 0 else β (4 + c) * P 4 c) (P 0 1)
/-- the best plan for a set of guests among the first n: what it costs, its number -/
def bst (P : Nat → Nat → Nat) (β : Nat → Nat) (S : Nat) : Nat → Option (Nat × Nat)
  | 0 => none
  | n + 1 => if vld P β n = true ∧ S &&& cont P β n = S ∧ (∀ q, bst P β S n = some q → cst P β n < q.1) then some (cst P β n, n) else bst P β S n
def PlanOK (σ : ES) (P : Nat → Nat → Nat) (β : Nat → Nat) : Prop := σ.1 15 8 = nI (P 0 2) ∧ σ.1 15 9 = nI (2 ^ P 0 2 - 1) ∧ (∃ R : Nat, R < 16 ∧ σ.1 15 10 = nI R ∧ ∀ g, g < P 0 2 → R.testBit g = (bst P β (2 ^ g) 2401).isSome) ∧ (∀ S, S < 2 ^ P 0 2 → σ.1 23 S = nI (match bst P β S 2401 with | some q => q.1 | none => 1000000)) ∧ ∀ q, bst P β (2 ^ P 0 2 - 1) 2401 = some q → ∀ c, c < P 0 1 → σ.1 22 c = nI (fig q.2 c)
def RT (σ τ : ES) : Prop := ∃ (n : Nat) (T : Nat → Nat), n ≤ 64 ∧ σ.1 1 1 = nI n ∧ τ.1 0 13 = nI n ∧ ∀ j, j < n → σ.1 2 j = nI (T j) ∧ τ.1 10 j = nI (T j) ∧ T j < 256
def RX (σ τ : ES) : Prop := ∃ (k : Nat) (B : Nat → Nat), k ≤ 6 ∧ σ.1 24 1 = nI k ∧ τ.1 0 28 = nI k ∧ ∀ j, j < k → σ.1 25 j = nI (B j) ∧ τ.1 18 j = nI (B j) ∧ B j ≤ 4
def RD (σ τ : ES) : Prop := σ.2 0 11 = τ.2 0 31
def RA (σ τ : ES) (P : Nat → Nat → Nat) : Prop := ∃ a f x : Nat, (a ≤ 16 ∧ f < 16 ∧ x < 16) ∧ (σ.1 13 2 = nI a ∧ σ.1 13 1 = nI f ∧ τ.1 0 22 = nI a ∧ τ.1 0 23 = nI x) ∧ ∀ i, i < a → ∃ β, WB P β ∧ XR (σ.1 14) (18 * ((f + i) % 16)) P β ∧ MR (τ.1 14) (18 * ((x + 16 - a + i) % 16)) P β
def RS (σ τ : ES) (P : Nat → Nat → Nat) : Prop := ∀ s, s < 2 → (σ.1 29 s = nI 0 ∧ τ.1 20 s = nI 0) ∨ (σ.1 29 s = nI 1 ∧ τ.1 20 s = nI 1 ∧ ∃ β, WB P β ∧ XR (σ.1 28) (18 * s) P β ∧ MR (τ.1 21) (18 * s) P β)
def RG (σ : ES) (P : Nat → Nat → Nat) (β : Nat → Nat) : Prop := σ.1 15 11 = nI 0 ∨ (σ.1 15 11 = nI 1 ∧ PlanOK σ P β)
def RM (σ τ : ES) (P : Nat → Nat → Nat) (β : Nat → Nat) : Prop := WP P ∧ XPt σ 30 P ∧ MPt τ P ∧ WB P β ∧ XB σ 3 P β ∧ MR (τ.1 9) 0 P β ∧ RA σ τ P ∧ RS σ τ P ∧ RG σ P β
def Rel (σ τ : ES) : Prop := RT σ τ ∧ RX σ τ ∧ RD σ τ ∧ ∃ P β, RM σ τ P β
theorem Rel_0 : Rel σ0 σ0 := by
  refine ⟨⟨0, fun _ => 0, by omega, rfl, rfl, fun j h => by omega⟩, ⟨0, fun _ => 0, by omega, rfl, rfl, fun j h => by omega⟩, rfl, fun _ _ => 0, fun _ => 0, ?_⟩
  have e0 : ∀ {j : Nat}, ¬ j < 0 := by omega
  refine ⟨⟨Nat.zero_le _, Nat.zero_le _, Nat.zero_le _, fun j h => absurd h e0, fun j h => absurd h e0, fun j h => absurd h e0⟩, ⟨⟨rfl, rfl, rfl⟩, fun j h => absurd h e0, fun j h => absurd h e0, fun j h => absurd h e0⟩, ⟨⟨rfl, rfl, rfl⟩, fun j h => absurd h e0, fun j h => absurd h e0, fun j h => absurd h e0⟩, ⟨fun j h => absurd h e0, fun j h => absurd h e0, Nat.zero_le _⟩, ⟨fun j h => absurd h e0, fun j h => absurd h e0, rfl, rfl⟩, ⟨fun j h => absurd h e0, fun j h => absurd h e0, rfl, rfl⟩, ⟨0, 0, 0, ⟨by omega, by omega, by omega⟩, ⟨rfl, rfl, rfl, rfl⟩, fun j h => absurd h e0⟩, fun s h => Or.inl ⟨rfl, rfl⟩, Or.inl rfl⟩
-- the parts hang on their cells alone
theorem RT.c {σ τ σ' τ' : ES} (h : RT σ τ) (a : σ'.1 1 = σ.1 1) (b : σ'.1 2 = σ.1 2) (c : τ'.1 0 13 = τ.1 0 13) (d : τ'.1 10 = τ.1 10) : RT σ' τ' := by
  unfold RT at *; rw [a, b, c, d]; exact h
theorem RX.c {σ τ σ' τ' : ES} (h : RX σ τ) (a : σ'.1 24 = σ.1 24) (b : σ'.1 25 = σ.1 25) (c : τ'.1 0 28 = τ.1 0 28) (d : τ'.1 18 = τ.1 18) : RX σ' τ' := by
  unfold RX at *; rw [a, b, c, d]; exact h
theorem RD.c {σ τ σ' τ' : ES} (h : RD σ τ) (a : σ'.2 0 11 = σ.2 0 11) (b : τ'.2 0 31 = τ.2 0 31) : RD σ' τ' := by
  unfold RD at *; rw [a, b]; exact h
theorem XPt.c {σ σ' : ES} {P : Nat → Nat → Nat} (h : XPt σ 30 P) (a : ∀ k, 30 ≤ k → k ≤ 38 → σ'.1 k = σ.1 k) : XPt σ' 30 P := by
  unfold XPt at *
  simp only [Nat.reduceAdd] at *
  rw [a 30 (by decide) (by decide), a 31 (by decide) (by decide), a 32 (by decide) (by decide), a 33 (by decide) (by decide), a 34 (by decide) (by decide), a 35 (by decide) (by decide), a 36 (by decide) (by decide), a 37 (by decide) (by decide), a 38 (by decide) (by decide)]; exact h
theorem MPt.c {τ τ' : ES} {P : Nat → Nat → Nat} (h : MPt τ P) (a : ∀ k, 1 ≤ k → k ≤ 8 → τ'.1 k = τ.1 k) (b : τ'.1 0 0 = τ.1 0 0) (c : τ'.1 0 1 = τ.1 0 1) (d : τ'.1 0 2 = τ.1 0 2) : MPt τ' P := by
  unfold MPt at *
  rw [b, c, d, a 1 (by decide) (by decide), a 2 (by decide) (by decide), a 3 (by decide) (by decide), a 4 (by decide) (by decide), a 5 (by decide) (by decide), a 6 (by decide) (by decide), a 7 (by decide) (by decide), a 8 (by decide) (by decide)]; exact h
theorem XB.c {σ σ' : ES} {k : Nat} {P : Nat → Nat → Nat} {β : Nat → Nat} (h : XB σ k P β) (a : ∀ j, k ≤ j → j ≤ k + 4 → σ'.1 j = σ.1 j) : XB σ' k P β := by
  unfold XB at *
  rw [a k (by omega) (by omega), a (k + 1) (by omega) (by omega), a (k + 2) (by omega) (by omega), a (k + 3) (by omega) (by omega), a (k + 4) (by omega) (by omega)]; exact h
theorem RA.c {σ τ σ' τ' : ES} {P : Nat → Nat → Nat} (h : RA σ τ P) (a : σ'.1 13 = σ.1 13) (b : σ'.1 14 = σ.1 14) (c : τ'.1 0 22 = τ.1 0 22) (d : τ'.1 0 23 = τ.1 0 23) (e : τ'.1 14 = τ.1 14) : RA σ' τ' P := by
  unfold RA at *; rw [a, b, c, d, e]; exact h
theorem RS.c {σ τ σ' τ' : ES} {P : Nat → Nat → Nat} (h : RS σ τ P) (a : σ'.1 28 = σ.1 28) (b : σ'.1 29 = σ.1 29) (c : τ'.1 20 = τ.1 20) (d : τ'.1 21 = τ.1 21) : RS σ' τ' P := by
  unfold RS at *; rw [a, b, c, d]; exact h
theorem RG.c {σ σ' : ES} {P : Nat → Nat → Nat} {β : Nat → Nat} (h : RG σ P β) (a : σ'.1 15 = σ.1 15) (b : σ'.1 22 = σ.1 22) (c : σ'.1 23 = σ.1 23) : RG σ' P β := by
  unfold RG PlanOK at *; rw [a, b, c]; exact h
/-- what all the evening's calls leave as it is -/
theorem RM.c {σ τ σ' τ' : ES} {P : Nat → Nat → Nat} {β : Nat → Nat} (h : RM σ τ P β) (a : ∀ k, k = 13 ∨ k = 14 ∨ k = 15 ∨ k = 22 ∨ k = 23 ∨ k = 28 ∨ k = 29 ∨ (3 ≤ k ∧ k ≤ 7) ∨ (30 ≤ k ∧ k ≤ 38) → σ'.1 k = σ.1 k) (b : ∀ j, j < 3 ∨ j = 22 ∨ j = 23 → τ'.1 0 j = τ.1 0 j) (d : ∀ k, (1 ≤ k ∧ k ≤ 9) ∨ k = 14 ∨ k = 20 ∨ k = 21 → τ'.1 k = τ.1 k) : RM σ' τ' P β := by
  obtain ⟨h1, h2, h3, h4, h5, h6, h7, h8, h9⟩ := h
  refine ⟨h1, h2.c (fun k x y => a k (by omega)), h3.c (fun k x y => d k (by omega)) (b 0 (by omega)) (b 1 (by omega)) (b 2 (by omega)), h4, h5.c (fun k x y => a k (by omega)), ?_, h7.c (a _ (by omega)) (a _ (by omega)) (b _ (by omega)) (b _ (by omega)) (d _ (by omega)), h8.c (a _ (by omega)) (a _ (by omega)) (d _ (by omega)) (d _ (by omega)), h9.c (a _ (by omega)) (a _ (by omega)) (a _ (by omega))⟩
  rw [d 9 (by omega)]; exact h6

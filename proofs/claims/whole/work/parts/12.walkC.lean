section WK2
variable {p : Program} {l : Launch} {e : Env} {R : Room} {s : State} {m : MethodId} {args : Array Value} {below : List Frame} {meth : Method} {c : Code} {D : va_G} {cy : Nat → ClassId} {tT tF : Nat} {A : Nat → Prop} {ad : Nat → Nat} {ws : va_W}
set_option maxHeartbeats 4000000 in
set_option maxRecDepth 100000 in
theorem w_X8_lay_2 (C : Cx p s m args meth c D cy tT tF A cX8_lay 4 RX8) (hr : meth.sig.returnType = none) {σ' : ES} : ∀ (n : Nat) (v1 : Int32) (v2 : Int32) (v3 : Int32) (σ : ES), b_X8_lay_2 n v1 v2 v3 σ = some σ' → ∀ (H : Heap) (locs : List Loc) (hP : va_P D vwCl (mw cy ad σ) H) (hD : va_D A (mw cy ad σ)) (hS : va_S A s.heap H locs) (ls : Array Slot) (hl : lv_has ls 4 [(0, .ref (ad 0)), (1, .int v1), (2, .int v2), (3, .int v3)]), W p l e { frames := 0, cells := 0, slots := 0, locals := 0 } s m args below meth c H locs 0 0 (MQ below (Qv D cy A (mw cy ad σ')) args s 0 0 A) (F0 m 2 ls []) := by
  obtain ⟨⟨hx, hb, hml, hown, hts⟩, hK, hT, hA, hlk⟩ := id C
  intro n
  induction n with
  | zero =>
    intro v1 v2 v3 σ h
    exact no_some h
  | succ n ih =>
    intro v1 v2 v3 σ h H locs hP hD hS ls hl
    rw [b_X8_lay_2] at h
    refine lv_iload_n hx hb dX8_lay_2 rfl (lv_at hl 3 rfl) ?_
    refine lv_bipush (v := 18) hx hb dX8_lay_3 (by decide) ?_
    refine lv_icmp_ge (tgt := 36) hx hb dX8_lay_5 (by decide) (fun q1 => ?_) (fun q1 => ?_)
    · have h := ifp q1 h
      have z1 := so_inj h
      subst z1
      exact x_vret C hr hP hD hS dX8_lay_36
    · have h := ifn q1 h
      refine lv_aload_n hx hb dX8_lay_8 rfl (lv_at hl 0 rfl) ?_
      refine x_get C hP inlX8 0 mw_0 rfl 11 (by decide) mw6_6 rfl dX8_lay_9 ?_
      refine lv_bipush (v := 18) hx hb dX8_lay_12 (by decide) ?_
      refine lv_iload_n hx hb dX8_lay_14 rfl (lv_at hl 2 rfl) ?_
      refine lv_imul hx hb dX8_lay_15 ?_
      refine lv_iload_n hx hb dX8_lay_16 rfl (lv_at hl 3 rfl) ?_
      refine lv_iadd hx hb dX8_lay_17 ?_
      refine lv_aload_n hx hb dX8_lay_18 rfl (lv_at hl 0 rfl) ?_
      refine x_get C hP inlX8 0 mw_0 rfl 11 (by decide) mw6_6 rfl dX8_lay_19 ?_
      refine lv_bipush (v := 18) hx hb dX8_lay_22 (by decide) ?_
      refine lv_iload_n hx hb dX8_lay_24 rfl (lv_at hl 1 rfl) ?_
      refine lv_imul hx hb dX8_lay_25 ?_
      refine lv_iload_n hx hb dX8_lay_26 rfl (lv_at hl 3 rfl) ?_
      refine lv_iadd hx hb dX8_lay_27 ?_
      obtain ⟨g2, x3, ex3, h⟩ := rd_some h
      refine x_ild C hP 9 mw_9 g2 ex3 dX8_lay_28 ?_
      obtain ⟨g4, σ5, eσ5, h⟩ := wr_some h
      refine x_ist C hP hD hS 9 mw_9 g4 (ma_9 eσ5) dX8_lay_29 (fun H locs hP hD hS => ?_)
      obtain ⟨x6, ex6, h⟩ := lt_some h
      refine lv_iinc (v := x6) (lv' := [(3, .int x6), (0, .ref (ad 0)), (1, .int v1), (2, .int v2)]) hx hb dX8_lay_30 hl (k := 3) rfl (by rw [ex6]; rfl) (by decide) rfl (fun ls hl => ?_)
      refine lv_goto (tgt := 2) hx hb dX8_lay_33 (by decide) ?_
      exact ih v1 v2 x6 σ5 h H locs hP hD hS ls (lv_sub hl [1, 2, 3, 0] rfl)
set_option maxHeartbeats 4000000 in
set_option maxRecDepth 100000 in
theorem w_X8_lay_0 (C : Cx p s m args meth c D cy tT tF A cX8_lay 4 RX8) (hr : meth.sig.returnType = none) {σ' : ES} (a1 : Int32) (a2 : Int32) (σ : ES) (h : b_X8_lay_0 a1 a2 σ = some σ') (H : Heap) (locs : List Loc) (hP : va_P D vwCl (mw cy ad σ) H) (hD : va_D A (mw cy ad σ)) (hS : va_S A s.heap H locs) (ls : Array Slot) (hl : lv_has ls 4 [(0, .ref (ad 0)), (1, .int a1), (2, .int a2)]) : W p l e { frames := 0, cells := 0, slots := 0, locals := 0 } s m args below meth c H locs 0 0 (MQ below (Qv D cy A (mw cy ad σ')) args s 0 0 A) (F0 m 0 ls []) := by
  obtain ⟨⟨hx, hb, hml, hown, hts⟩, hK, hT, hA, hlk⟩ := id C
  unfold b_X8_lay_0 at h
  refine lv_iconst (v := 0) hx hb dX8_lay_0 (by decide) ?_
  refine lv_istore_n (lv' := [(3, .int (0 : Int32)), (0, .ref (ad 0)), (1, .int a1), (2, .int a2)]) hx hb dX8_lay_1 rfl hl (by decide) rfl (fun ls hl => ?_)
  exact w_X8_lay_2 C hr FU a1 a2 (0 : Int32) σ h H locs hP hD hS ls (lv_sub hl [1, 2, 3, 0] rfl)
theorem c_X8_lay {l : Launch} {D : va_G} {cy : Nat → ClassId} {tT tF : Nat} {ad : Nat → Nat} {σ : ES} {a1 : Int32} {a2 : Int32} {σ' : ES} (h : e_X8_lay a1 a2 σ = some σ') : CMv l yX8_lay (Cond.code yX8_lay cX8_lay 4 none :: wsL_law) { frames := 0, cells := 0, slots := 0, locals := 0 } D cy tT tF [.ref (ad 0), .int a1, .int a2] (mw cy ad σ) (mw cy ad σ') := x_start (Qc := fun A => (Qv D cy A (mw cy ad σ'))) (by decide) (Nat.le_of_ble_eq_true rfl) (fun p e s m below meth c A ls C hr hP hD hS hl => w_X8_lay_0 C hr a1 a2 σ h s.heap [] hP hD hS ls hl)
set_option maxHeartbeats 4000000 in
set_option maxRecDepth 100000 in
theorem w_X8_contentBy_139 (C : Cx p s m args meth c D cy tT tF A cX8_contentBy 6 RX8) (hr : meth.sig.returnType = some .int) {r : Int32} {σ' : ES} : ∀ (n : Nat) (v3 : Int32) (v4 : Int32) (σ : ES), b_X8_contentBy_139 n v3 v4 σ = some (r, σ') → ∀ (H : Heap) (locs : List Loc) (hP : va_P D vwCl (mw cy ad σ) H) (hD : va_D A (mw cy ad σ)) (hS : va_S A s.heap H locs) (ls : Array Slot) (hl : lv_has ls 6 [(0, .ref (ad 0)), (3, .int v3), (4, .int v4)]), W p l e { frames := 2, cells := 0, slots := 0, locals := 51 } s m args below meth c H locs 0 0 (MQ below (Qi D cy A r (mw cy ad σ')) args s 0 0 A) (F0 m 139 ls []) := by
  obtain ⟨⟨hx, hb, hml, hown, hts⟩, hK, hT, hA, hlk⟩ := id C
  intro n
  induction n with
  | zero =>
    intro v3 v4 σ h
    exact no_some h
  | succ n ih =>
    intro v3 v4 σ h H locs hP hD hS ls hl
    rw [b_X8_contentBy_139] at h
    refine lv_iload hx hb dX8_contentBy_139 (lv_at hl 2 rfl) ?_
    refine lv_aload_n hx hb dX8_contentBy_141 rfl (lv_at hl 0 rfl) ?_
    refine x_get C hP inlX8 0 mw_0 rfl 2 (by decide) mw12_4 rfl dX8_contentBy_142 ?_
    refine lv_icmp_ge (tgt := 175) hx hb dX8_contentBy_145 (by decide) (fun q1 => ?_) (fun q1 => ?_)
    · have h := ifp q1 h
      refine lv_iload_n hx hb dX8_contentBy_175 rfl (lv_at hl 1 rfl) ?_
      obtain ⟨z1, z2⟩ := pr_inj h
      subst z1
      subst z2
      exact x_iret C hr hP hD hS dX8_contentBy_176
    · have h := ifn q1 h
      refine lv_iload_n hx hb dX8_contentBy_148 rfl (lv_at hl 1 rfl) ?_
      refine lv_aload_n hx hb dX8_contentBy_149 rfl (lv_at hl 0 rfl) ?_
      refine lv_iconst (v := 1) hx hb dX8_contentBy_150 (by decide) ?_
      refine lv_iload hx hb dX8_contentBy_151 (lv_at hl 2 rfl) ?_
      obtain ⟨r3, g2, h⟩ := cl_some h
      refine x_callVi (rest := [.int v3]) C hP hD hS (c_X8_isContent g2) (cwV 2 hts (gV mw14_18 mw14_19 mw14_20 mw1_5 mw14_21) rfl rfl rfl hdV_X8_isContent ⟨Nat.le_of_ble_eq_true rfl, Nat.le_of_ble_eq_true rfl⟩) mw_0 rfl rfl hl.1 rfl (Nat.le_of_ble_eq_true rfl) dX8_contentBy_153 ⟨Nat.zero_le _, Nat.zero_le _⟩ (fun H locs hP hD hS => ?_)
      refine lv_if_eq (tgt := 166) hx hb dX8_contentBy_156 (by decide) (fun q4 => ?_) (fun q4 => ?_)
      · have h := ifp q4 h
        refine lv_iconst (v := 0) hx hb dX8_contentBy_166 (by decide) ?_
        refine lv_ior hx hb dX8_contentBy_167 ?_
        obtain ⟨x5, ex5, h⟩ := lt_some h
        refine x_ti ex5 ?_
        refine lv_istore_n (lv' := [(3, .int x5), (0, .ref (ad 0)), (4, .int v4)]) hx hb dX8_contentBy_168 rfl hl (by decide) rfl (fun ls hl => ?_)
        obtain ⟨x6, ex6, h⟩ := lt_some h
        refine lv_iinc (v := x6) (lv' := [(4, .int x6), (3, .int x5), (0, .ref (ad 0))]) hx hb dX8_contentBy_169 hl (k := 2) rfl (by rw [ex6]; rfl) (by decide) rfl (fun ls hl => ?_)
        refine lv_goto (tgt := 139) hx hb dX8_contentBy_172 (by decide) ?_
        exact ih x5 x6 σ h H locs hP hD hS ls (lv_sub hl [2, 1, 0] rfl)
      · have h := ifn q4 h
        refine lv_iconst (v := 1) hx hb dX8_contentBy_159 (by decide) ?_
        refine lv_iload hx hb dX8_contentBy_160 (lv_at hl 2 rfl) ?_
        refine lv_ishl hx hb dX8_contentBy_162 ?_
        refine lv_goto (tgt := 167) hx hb dX8_contentBy_163 (by decide) ?_
        refine lv_ior hx hb dX8_contentBy_167 ?_
        obtain ⟨x7, ex7, h⟩ := lt_some h
        refine x_ti ex7 ?_
        refine lv_istore_n (lv' := [(3, .int x7), (0, .ref (ad 0)), (4, .int v4)]) hx hb dX8_contentBy_168 rfl hl (by decide) rfl (fun ls hl => ?_)
        obtain ⟨x8, ex8, h⟩ := lt_some h
        refine lv_iinc (v := x8) (lv' := [(4, .int x8), (3, .int x7), (0, .ref (ad 0))]) hx hb dX8_contentBy_169 hl (k := 2) rfl (by rw [ex8]; rfl) (by decide) rfl (fun ls hl => ?_)
        refine lv_goto (tgt := 139) hx hb dX8_contentBy_172 (by decide) ?_
        exact ih x7 x8 σ h H locs hP hD hS ls (lv_sub hl [2, 1, 0] rfl)
set_option maxHeartbeats 4000000 in
set_option maxRecDepth 100000 in
theorem w_X8_contentBy_117 (C : Cx p s m args meth c D cy tT tF A cX8_contentBy 6 RX8) (hr : meth.sig.returnType = some .int) {r : Int32} {σ' : ES} {K10 : Int32 → Int32 → Int32 → ES → Option (Int32 × ES)} (hK10 : ∀ (v1 : Int32) (v2 : Int32) (v3 : Int32) (σ : ES), K10 v1 v2 v3 σ = some (r, σ') → ∀ (H : Heap) (locs : List Loc), va_P D vwCl (mw cy ad σ) H → va_D A (mw cy ad σ) → va_S A s.heap H locs → ∀ ls : Array Slot, lv_has ls 6 [(0, .ref (ad 0)), (1, .int v1), (2, .int v2), (3, .int v3)] → W p l e { frames := 2, cells := 0, slots := 0, locals := 51 } s m args below meth c H locs 0 0 (MQ below (Qi D cy A r (mw cy ad σ')) args s 0 0 A) (F0 m 10 ls [])) (v1 : Int32) (v3 : Int32) (t0 : Int32) (σ : ES) (h : b_X8_contentBy_117 K10 v1 v3 t0 σ = some (r, σ')) (H : Heap) (locs : List Loc) (hP : va_P D vwCl (mw cy ad σ) H) (hD : va_D A (mw cy ad σ)) (hS : va_S A s.heap H locs) (ls : Array Slot) (hl : lv_has ls 6 [(0, .ref (ad 0)), (1, .int v1), (3, .int v3)]) : W p l e { frames := 2, cells := 0, slots := 0, locals := 51 } s m args below meth c H locs 0 0 (MQ below (Qi D cy A r (mw cy ad σ')) args s 0 0 A) (F0 m 117 ls [.int t0]) := by
  obtain ⟨⟨hx, hb, hml, hown, hts⟩, hK, hT, hA, hlk⟩ := id C
  unfold b_X8_contentBy_117 at h
  refine lv_istore_n (lv' := [(2, .int t0), (0, .ref (ad 0)), (1, .int v1), (3, .int v3)]) hx hb dX8_contentBy_117 rfl hl (by decide) rfl (fun ls hl => ?_)
  refine lv_iload_n hx hb dX8_contentBy_118 rfl (lv_at hl 0 rfl) ?_
  refine lv_if_eq (tgt := 128) hx hb dX8_contentBy_119 (by decide) (fun q1 => ?_) (fun q1 => ?_)
  · have h := ifp q1 h
    obtain ⟨x2, ex2, h⟩ := lt_some h
    refine lv_iinc (v := x2) (lv' := [(3, .int x2), (2, .int t0), (0, .ref (ad 0)), (1, .int v1)]) hx hb dX8_contentBy_128 hl (k := 3) rfl (by rw [ex2]; rfl) (by decide) rfl (fun ls hl => ?_)
    refine lv_goto (tgt := 10) hx hb dX8_contentBy_131 (by decide) ?_
    exact hK10 v1 t0 x2 σ h H locs hP hD hS ls (lv_sub hl [2, 3, 1, 0] rfl)
  · have h := ifn q1 h
    refine lv_aload_n hx hb dX8_contentBy_122 rfl (lv_at hl 1 rfl) ?_
    refine lv_iconst (v := 1) hx hb dX8_contentBy_123 (by decide) ?_
    obtain ⟨r5, σ4, g3, h⟩ := cs_some h
    refine x_callVi (rest := []) C hP hD hS (c_X8_pass g3) (cwV 1 hts (gV mw18_12 mw18_13 mw18_14 mw1_5 mw18_15) rfl rfl rfl hdV_X8_pass ⟨Nat.le_of_ble_eq_true rfl, Nat.le_of_ble_eq_true rfl⟩) mw_0 rfl rfl hl.1 rfl (Nat.le_of_ble_eq_true rfl) dX8_contentBy_124 ⟨Nat.zero_le _, Nat.zero_le _⟩ (fun H locs hP hD hS => ?_)
    refine lv_pop hx hb dX8_contentBy_127 rfl ?_
    obtain ⟨x6, ex6, h⟩ := lt_some h
    refine lv_iinc (v := x6) (lv' := [(3, .int x6), (2, .int t0), (0, .ref (ad 0)), (1, .int v1)]) hx hb dX8_contentBy_128 hl (k := 3) rfl (by rw [ex6]; rfl) (by decide) rfl (fun ls hl => ?_)
    refine lv_goto (tgt := 10) hx hb dX8_contentBy_131 (by decide) ?_
    exact hK10 v1 t0 x6 σ4 h H locs hP hD hS ls (lv_sub hl [2, 3, 1, 0] rfl)
set_option maxHeartbeats 4000000 in
set_option maxRecDepth 100000 in
theorem w_X8_contentBy_77 (C : Cx p s m args meth c D cy tT tF A cX8_contentBy 6 RX8) (hr : meth.sig.returnType = some .int) {r : Int32} {σ' : ES} {K10 : Int32 → Int32 → Int32 → ES → Option (Int32 × ES)} (hK10 : ∀ (v1 : Int32) (v2 : Int32) (v3 : Int32) (σ : ES), K10 v1 v2 v3 σ = some (r, σ') → ∀ (H : Heap) (locs : List Loc), va_P D vwCl (mw cy ad σ) H → va_D A (mw cy ad σ) → va_S A s.heap H locs → ∀ ls : Array Slot, lv_has ls 6 [(0, .ref (ad 0)), (1, .int v1), (2, .int v2), (3, .int v3)] → W p l e { frames := 2, cells := 0, slots := 0, locals := 51 } s m args below meth c H locs 0 0 (MQ below (Qi D cy A r (mw cy ad σ')) args s 0 0 A) (F0 m 10 ls [])) {K31 : Int32 → Int32 → Int32 → Int32 → ES → Option (Int32 × ES)} (hK31 : ∀ (v1 : Int32) (v2 : Int32) (v3 : Int32) (v4 : Int32) (σ : ES), K31 v1 v2 v3 v4 σ = some (r, σ') → ∀ (H : Heap) (locs : List Loc), va_P D vwCl (mw cy ad σ) H → va_D A (mw cy ad σ) → va_S A s.heap H locs → ∀ ls : Array Slot, lv_has ls 6 [(0, .ref (ad 0)), (1, .int v1), (2, .int v2), (3, .int v3), (4, .int v4)] → W p l e { frames := 2, cells := 0, slots := 0, locals := 51 } s m args below meth c H locs 0 0 (MQ below (Qi D cy A r (mw cy ad σ')) args s 0 0 A) (F0 m 31 ls [])) (v1 : Int32) (v2 : Int32) (v3 : Int32) (v4 : Int32) (v5 : Int32) (t1 : Int32) (t2 : Int32) (σ : ES) (h : b_X8_contentBy_77 K10 K31 v1 v2 v3 v4 v5 t1 t2 σ = some (r, σ')) (H : Heap) (locs : List Loc) (hP : va_P D vwCl (mw cy ad σ) H) (hD : va_D A (mw cy ad σ)) (hS : va_S A s.heap H locs) (ls : Array Slot) (hl : lv_has ls 6 [(0, .ref (ad 0)), (1, .int v1), (2, .int v2), (3, .int v3), (4, .int v4), (5, .int v5)]) : W p l e { frames := 2, cells := 0, slots := 0, locals := 51 } s m args below meth c H locs 0 0 (MQ below (Qi D cy A r (mw cy ad σ')) args s 0 0 A) (F0 m 77 ls [.int t2, .int t1, .ref (ad 9)]) := by
  obtain ⟨⟨hx, hb, hml, hown, hts⟩, hK, hT, hA, hlk⟩ := id C
  unfold b_X8_contentBy_77 at h
  obtain ⟨g1, σ2, eσ2, h⟩ := wr_some h
  refine x_ist C hP hD hS 9 mw_9 g1 (ma_9 eσ2) dX8_contentBy_77 (fun H locs hP hD hS => ?_)
  refine lv_iload_n hx hb dX8_contentBy_78 rfl (lv_at hl 2 rfl) ?_
  refine lv_if_ne (tgt := 88) hx hb dX8_contentBy_79 (by decide) (fun q3 => ?_) (fun q3 => ?_)
  · have h := ifn q3 h
    refine lv_iconst (v := 1) hx hb dX8_contentBy_88 (by decide) ?_
    refine lv_goto (tgt := 93) hx hb dX8_contentBy_89 (by decide) ?_
    refine lv_istore_n (lv' := [(2, .int (1 : Int32)), (0, .ref (ad 0)), (1, .int v1), (3, .int v3), (4, .int v4), (5, .int v5)]) hx hb dX8_contentBy_93 rfl hl (by decide) rfl (fun ls hl => ?_)
    obtain ⟨x4, ex4, h⟩ := lt_some h
    refine lv_iinc (v := x4) (lv' := [(4, .int x4), (2, .int (1 : Int32)), (0, .ref (ad 0)), (1, .int v1), (3, .int v3), (5, .int v5)]) hx hb dX8_contentBy_94 hl (k := 4) rfl (by rw [ex4]; rfl) (by decide) rfl (fun ls hl => ?_)
    refine lv_goto (tgt := 31) hx hb dX8_contentBy_97 (by decide) ?_
    exact hK31 v1 (1 : Int32) v3 x4 σ2 h H locs hP hD hS ls (lv_sub hl [2, 3, 1, 4, 0] rfl)
  · have h := ifp q3 h
    refine lv_iload hx hb dX8_contentBy_82 (lv_at hl 5 rfl) ?_
    refine lv_iload_n hx hb dX8_contentBy_84 rfl (lv_at hl 3 rfl) ?_
    refine lv_icmp_le (tgt := 92) hx hb dX8_contentBy_85 (by decide) (fun q5 => ?_) (fun q5 => ?_)
    · have h := ifp q5 h
      refine lv_iconst (v := 0) hx hb dX8_contentBy_92 (by decide) ?_
      refine lv_istore_n (lv' := [(2, .int (0 : Int32)), (0, .ref (ad 0)), (1, .int v1), (3, .int v3), (4, .int v4), (5, .int v5)]) hx hb dX8_contentBy_93 rfl hl (by decide) rfl (fun ls hl => ?_)
      obtain ⟨x6, ex6, h⟩ := lt_some h
      refine lv_iinc (v := x6) (lv' := [(4, .int x6), (2, .int (0 : Int32)), (0, .ref (ad 0)), (1, .int v1), (3, .int v3), (5, .int v5)]) hx hb dX8_contentBy_94 hl (k := 4) rfl (by rw [ex6]; rfl) (by decide) rfl (fun ls hl => ?_)
      refine lv_goto (tgt := 31) hx hb dX8_contentBy_97 (by decide) ?_
      exact hK31 v1 (0 : Int32) v3 x6 σ2 h H locs hP hD hS ls (lv_sub hl [2, 3, 1, 4, 0] rfl)
    · have h := ifn q5 h
      refine lv_iconst (v := 1) hx hb dX8_contentBy_88 (by decide) ?_
      refine lv_goto (tgt := 93) hx hb dX8_contentBy_89 (by decide) ?_
      refine lv_istore_n (lv' := [(2, .int (1 : Int32)), (0, .ref (ad 0)), (1, .int v1), (3, .int v3), (4, .int v4), (5, .int v5)]) hx hb dX8_contentBy_93 rfl hl (by decide) rfl (fun ls hl => ?_)
      obtain ⟨x7, ex7, h⟩ := lt_some h
      refine lv_iinc (v := x7) (lv' := [(4, .int x7), (2, .int (1 : Int32)), (0, .ref (ad 0)), (1, .int v1), (3, .int v3), (5, .int v5)]) hx hb dX8_contentBy_94 hl (k := 4) rfl (by rw [ex7]; rfl) (by decide) rfl (fun ls hl => ?_)
      refine lv_goto (tgt := 31) hx hb dX8_contentBy_97 (by decide) ?_
      exact hK31 v1 (1 : Int32) v3 x7 σ2 h H locs hP hD hS ls (lv_sub hl [2, 3, 1, 4, 0] rfl)
set_option maxHeartbeats 4000000 in
set_option maxRecDepth 100000 in
theorem w_X8_contentBy_31 (C : Cx p s m args meth c D cy tT tF A cX8_contentBy 6 RX8) (hr : meth.sig.returnType = some .int) {r : Int32} {σ' : ES} {K10 : Int32 → Int32 → Int32 → ES → Option (Int32 × ES)} (hK10 : ∀ (v1 : Int32) (v2 : Int32) (v3 : Int32) (σ : ES), K10 v1 v2 v3 σ = some (r, σ') → ∀ (H : Heap) (locs : List Loc), va_P D vwCl (mw cy ad σ) H → va_D A (mw cy ad σ) → va_S A s.heap H locs → ∀ ls : Array Slot, lv_has ls 6 [(0, .ref (ad 0)), (1, .int v1), (2, .int v2), (3, .int v3)] → W p l e { frames := 2, cells := 0, slots := 0, locals := 51 } s m args below meth c H locs 0 0 (MQ below (Qi D cy A r (mw cy ad σ')) args s 0 0 A) (F0 m 10 ls [])) : ∀ (n : Nat) (v1 : Int32) (v2 : Int32) (v3 : Int32) (v4 : Int32) (σ : ES), b_X8_contentBy_31 K10 n v1 v2 v3 v4 σ = some (r, σ') → ∀ (H : Heap) (locs : List Loc) (hP : va_P D vwCl (mw cy ad σ) H) (hD : va_D A (mw cy ad σ)) (hS : va_S A s.heap H locs) (ls : Array Slot) (hl : lv_has ls 6 [(0, .ref (ad 0)), (1, .int v1), (2, .int v2), (3, .int v3), (4, .int v4)]), W p l e { frames := 2, cells := 0, slots := 0, locals := 51 } s m args below meth c H locs 0 0 (MQ below (Qi D cy A r (mw cy ad σ')) args s 0 0 A) (F0 m 31 ls []) := by
  obtain ⟨⟨hx, hb, hml, hown, hts⟩, hK, hT, hA, hlk⟩ := id C
  intro n
  induction n with
  | zero =>
    intro v1 v2 v3 v4 σ h
    exact no_some h
  | succ n ih =>
    intro v1 v2 v3 v4 σ h H locs hP hD hS ls hl
    rw [b_X8_contentBy_31] at h
    refine lv_iload hx hb dX8_contentBy_31 (lv_at hl 4 rfl) ?_
    refine lv_aload_n hx hb dX8_contentBy_33 rfl (lv_at hl 0 rfl) ?_
    refine x_get C hP inlX8 0 mw_0 rfl 1 (by decide) mw12_3 rfl dX8_contentBy_34 ?_
    refine lv_icmp_ge (tgt := 100) hx hb dX8_contentBy_37 (by decide) (fun q1 => ?_) (fun q1 => ?_)
    · have h := ifp q1 h
      refine lv_iload_n hx hb dX8_contentBy_100 rfl (lv_at hl 2 rfl) ?_
      refine lv_if_ne (tgt := 112) hx hb dX8_contentBy_101 (by decide) (fun q2 => ?_) (fun q2 => ?_)
      · have h := ifn q2 h
        refine lv_iconst (v := 1) hx hb dX8_contentBy_112 (by decide) ?_
        refine lv_goto (tgt := 117) hx hb dX8_contentBy_113 (by decide) ?_
        exact w_X8_contentBy_117 C hr hK10 v1 v3 (1 : Int32) σ h H locs hP hD hS ls (lv_sub hl [0, 1, 3] rfl)
      · have h := ifp q2 h
        refine lv_aload_n hx hb dX8_contentBy_104 rfl (lv_at hl 0 rfl) ?_
        refine lv_iconst (v := 1) hx hb dX8_contentBy_105 (by decide) ?_
        obtain ⟨r4, g3, h⟩ := cl_some h
        refine x_callVi (rest := []) C hP hD hS (c_X8_burning g3) (cwV 1 hts (gV mw16_11 mw16_12 mw16_13 mw1_5 mw16_14) rfl rfl rfl hdV_X8_burning ⟨Nat.le_of_ble_eq_true rfl, Nat.le_of_ble_eq_true rfl⟩) mw_0 rfl rfl hl.1 rfl (Nat.le_of_ble_eq_true rfl) dX8_contentBy_106 ⟨Nat.zero_le _, Nat.zero_le _⟩ (fun H locs hP hD hS => ?_)
        refine lv_if_le (tgt := 116) hx hb dX8_contentBy_109 (by decide) (fun q5 => ?_) (fun q5 => ?_)
        · have h := ifp q5 h
          refine lv_iconst (v := 0) hx hb dX8_contentBy_116 (by decide) ?_
          exact w_X8_contentBy_117 C hr hK10 v1 v3 (0 : Int32) σ h H locs hP hD hS ls (lv_sub hl [0, 1, 3] rfl)
        · have h := ifn q5 h
          refine lv_iconst (v := 1) hx hb dX8_contentBy_112 (by decide) ?_
          refine lv_goto (tgt := 117) hx hb dX8_contentBy_113 (by decide) ?_
          exact w_X8_contentBy_117 C hr hK10 v1 v3 (1 : Int32) σ h H locs hP hD hS ls (lv_sub hl [0, 1, 3] rfl)
    · have h := ifn q1 h
      refine lv_iload_n hx hb dX8_contentBy_40 rfl (lv_at hl 1 rfl) ?_
      refine lv_iload hx hb dX8_contentBy_41 (lv_at hl 4 rfl) ?_
      obtain ⟨r7, g6, h⟩ := cl_some h
      refine x_callSi (rest := []) C hP hD hS (c_X8_figureOf g6) (va_cwS 2 hts (gS mw22_12 mw22_13 mw1_5 mw22_14) rfl rfl rfl hdS_X8_figureOf ⟨Nat.le_of_ble_eq_true rfl, Nat.le_of_ble_eq_true rfl⟩) rfl hl.1 rfl (Nat.le_of_ble_eq_true rfl) dX8_contentBy_43 ⟨Nat.zero_le _, Nat.zero_le _⟩ (fun H locs hP hD hS => ?_)
      refine lv_istore (lv' := [(5, .int r7), (0, .ref (ad 0)), (1, .int v1), (2, .int v2), (3, .int v3), (4, .int v4)]) hx hb dX8_contentBy_46 hl (by decide) rfl (fun ls hl => ?_)
      refine lv_aload_n hx hb dX8_contentBy_48 rfl (lv_at hl 1 rfl) ?_
      refine x_get C hP inlX8 0 mw_0 rfl 11 (by decide) mw6_6 rfl dX8_contentBy_49 ?_
      refine lv_bipush (v := 26) hx hb dX8_contentBy_52 (by decide) ?_
      refine lv_iload hx hb dX8_contentBy_54 (lv_at hl 5 rfl) ?_
      refine lv_iadd hx hb dX8_contentBy_56 ?_
      refine lv_iload hx hb dX8_contentBy_57 (lv_at hl 0 rfl) ?_
      refine lv_iload_n hx hb dX8_contentBy_59 rfl (lv_at hl 4 rfl) ?_
      refine lv_icmp_ne (tgt := 67) hx hb dX8_contentBy_60 (by decide) (fun q8 => ?_) (fun q8 => ?_)
      · have h := ifn q8 h
        refine lv_aload_n hx hb dX8_contentBy_67 rfl (lv_at hl 1 rfl) ?_
        refine x_get C hP inlX8 0 mw_0 rfl 11 (by decide) mw6_6 rfl dX8_contentBy_68 ?_
        refine lv_bipush (v := 26) hx hb dX8_contentBy_71 (by decide) ?_
        refine lv_iload hx hb dX8_contentBy_73 (lv_at hl 5 rfl) ?_
        refine lv_iadd hx hb dX8_contentBy_75 ?_
        obtain ⟨g9, x10, ex10, h⟩ := rd_some h
        refine x_ild C hP 9 mw_9 g9 ex10 dX8_contentBy_76 ?_
        exact w_X8_contentBy_77 C hr hK10 ih v1 v2 v3 v4 r7 ((26 : Int32) + v4) x10 σ h H locs hP hD hS ls (lv_sub hl [1, 2, 3, 4, 5, 0] rfl)
      · have h := ifp q8 h
        refine lv_iconst (v := 1) hx hb dX8_contentBy_63 (by decide) ?_
        refine lv_goto (tgt := 77) hx hb dX8_contentBy_64 (by decide) ?_
        exact w_X8_contentBy_77 C hr hK10 ih v1 v2 v3 v4 r7 ((26 : Int32) + v4) (1 : Int32) σ h H locs hP hD hS ls (lv_sub hl [1, 2, 3, 4, 5, 0] rfl)
set_option maxHeartbeats 4000000 in
set_option maxRecDepth 100000 in
theorem w_X8_contentBy_10 (C : Cx p s m args meth c D cy tT tF A cX8_contentBy 6 RX8) (hr : meth.sig.returnType = some .int) {r : Int32} {σ' : ES} : ∀ (n : Nat) (v1 : Int32) (v2 : Int32) (v3 : Int32) (σ : ES), b_X8_contentBy_10 n v1 v2 v3 σ = some (r, σ') → ∀ (H : Heap) (locs : List Loc) (hP : va_P D vwCl (mw cy ad σ) H) (hD : va_D A (mw cy ad σ)) (hS : va_S A s.heap H locs) (ls : Array Slot) (hl : lv_has ls 6 [(0, .ref (ad 0)), (1, .int v1), (2, .int v2), (3, .int v3)]), W p l e { frames := 2, cells := 0, slots := 0, locals := 51 } s m args below meth c H locs 0 0 (MQ below (Qi D cy A r (mw cy ad σ')) args s 0 0 A) (F0 m 10 ls []) := by
  obtain ⟨⟨hx, hb, hml, hown, hts⟩, hK, hT, hA, hlk⟩ := id C
  intro n
  induction n with
  | zero =>
    intro v1 v2 v3 σ h
    exact no_some h
  | succ n ih =>
    intro v1 v2 v3 σ h H locs hP hD hS ls hl
    rw [b_X8_contentBy_10] at h
    refine lv_aload_n hx hb dX8_contentBy_10 rfl (lv_at hl 0 rfl) ?_
    refine x_get C hP inlX8 0 mw_0 rfl 11 (by decide) mw6_6 rfl dX8_contentBy_11 ?_
    refine lv_bipush (v := 35) hx hb dX8_contentBy_14 (by decide) ?_
    obtain ⟨g1, x2, ex2, h⟩ := rd_some h
    refine x_ild C hP 9 mw_9 g1 ex2 dX8_contentBy_16 ?_
    refine lv_bipush (v := 20) hx hb dX8_contentBy_17 (by decide) ?_
    refine lv_icmp_ge (tgt := 134) hx hb dX8_contentBy_19 (by decide) (fun q3 => ?_) (fun q3 => ?_)
    · have h := ifp q3 h
      refine lv_iconst (v := 0) hx hb dX8_contentBy_134 (by decide) ?_
      refine lv_istore_n (lv' := [(3, .int (0 : Int32)), (0, .ref (ad 0)), (1, .int v1), (2, .int v2)]) hx hb dX8_contentBy_135 rfl hl (by decide) rfl (fun ls hl => ?_)
      refine lv_iconst (v := 0) hx hb dX8_contentBy_136 (by decide) ?_
      refine lv_istore (lv' := [(4, .int (0 : Int32)), (3, .int (0 : Int32)), (0, .ref (ad 0)), (1, .int v1), (2, .int v2)]) hx hb dX8_contentBy_137 hl (by decide) rfl (fun ls hl => ?_)
      exact w_X8_contentBy_139 C hr FU (0 : Int32) (0 : Int32) σ h H locs hP hD hS ls (lv_sub hl [2, 1, 0] rfl)
    · have h := ifn q3 h
      refine lv_iload_n hx hb dX8_contentBy_22 rfl (lv_at hl 2 rfl) ?_
      refine lv_if_eq (tgt := 134) hx hb dX8_contentBy_23 (by decide) (fun q4 => ?_) (fun q4 => ?_)
      · have h := ifp q4 h
        refine lv_iconst (v := 0) hx hb dX8_contentBy_134 (by decide) ?_
        refine lv_istore_n (lv' := [(3, .int (0 : Int32)), (0, .ref (ad 0)), (1, .int v1), (2, .int v2)]) hx hb dX8_contentBy_135 rfl hl (by decide) rfl (fun ls hl => ?_)
        refine lv_iconst (v := 0) hx hb dX8_contentBy_136 (by decide) ?_
        refine lv_istore (lv' := [(4, .int (0 : Int32)), (3, .int (0 : Int32)), (0, .ref (ad 0)), (1, .int v1), (2, .int v2)]) hx hb dX8_contentBy_137 hl (by decide) rfl (fun ls hl => ?_)
        exact w_X8_contentBy_139 C hr FU (0 : Int32) (0 : Int32) σ h H locs hP hD hS ls (lv_sub hl [2, 1, 0] rfl)
      · have h := ifn q4 h
        refine lv_iconst (v := 0) hx hb dX8_contentBy_26 (by decide) ?_
        refine lv_istore_n (lv' := [(2, .int (0 : Int32)), (0, .ref (ad 0)), (1, .int v1), (3, .int v3)]) hx hb dX8_contentBy_27 rfl hl (by decide) rfl (fun ls hl => ?_)
        refine lv_iconst (v := 0) hx hb dX8_contentBy_28 (by decide) ?_
        refine lv_istore (lv' := [(4, .int (0 : Int32)), (2, .int (0 : Int32)), (0, .ref (ad 0)), (1, .int v1), (3, .int v3)]) hx hb dX8_contentBy_29 hl (by decide) rfl (fun ls hl => ?_)
        exact w_X8_contentBy_31 C hr ih FU v1 (0 : Int32) v3 (0 : Int32) σ h H locs hP hD hS ls (lv_sub hl [2, 3, 1, 4, 0] rfl)
set_option maxHeartbeats 4000000 in
set_option maxRecDepth 100000 in
theorem w_X8_contentBy_0 (C : Cx p s m args meth c D cy tT tF A cX8_contentBy 6 RX8) (hr : meth.sig.returnType = some .int) {r : Int32} {σ' : ES} (a1 : Int32) (σ : ES) (h : b_X8_contentBy_0 a1 σ = some (r, σ')) (H : Heap) (locs : List Loc) (hP : va_P D vwCl (mw cy ad σ) H) (hD : va_D A (mw cy ad σ)) (hS : va_S A s.heap H locs) (ls : Array Slot) (hl : lv_has ls 6 [(0, .ref (ad 0)), (1, .int a1)]) : W p l e { frames := 2, cells := 0, slots := 0, locals := 51 } s m args below meth c H locs 0 0 (MQ below (Qi D cy A r (mw cy ad σ')) args s 0 0 A) (F0 m 0 ls []) := by
  obtain ⟨⟨hx, hb, hml, hown, hts⟩, hK, hT, hA, hlk⟩ := id C
  unfold b_X8_contentBy_0 at h
  refine lv_aload_n hx hb dX8_contentBy_0 rfl (lv_at hl 0 rfl) ?_
  refine lv_iconst (v := 0) hx hb dX8_contentBy_1 (by decide) ?_
  refine lv_iconst (v := 1) hx hb dX8_contentBy_2 (by decide) ?_
  obtain ⟨σ2, g1, h⟩ := cl_some h
  refine x_callVv (rest := []) C hP hD hS (c_X8_lay g1) (cwV 2 hts (gV mw22_22 mw22_23 mw23_0 mw1_5 mw23_1) rfl rfl rfl hdV_X8_lay ⟨Nat.le_of_ble_eq_true rfl, Nat.le_of_ble_eq_true rfl⟩) mw_0 rfl rfl hl.1 rfl (Nat.le_of_ble_eq_true rfl) dX8_contentBy_3 ⟨Nat.zero_le _, Nat.zero_le _⟩ (fun H locs hP hD hS => ?_)
  refine lv_iconst (v := 1) hx hb dX8_contentBy_6 (by decide) ?_
  refine lv_istore_n (lv' := [(2, .int (1 : Int32)), (0, .ref (ad 0)), (1, .int a1)]) hx hb dX8_contentBy_7 rfl hl (by decide) rfl (fun ls hl => ?_)
  refine lv_iconst (v := 1) hx hb dX8_contentBy_8 (by decide) ?_
  refine lv_istore_n (lv' := [(3, .int (1 : Int32)), (2, .int (1 : Int32)), (0, .ref (ad 0)), (1, .int a1)]) hx hb dX8_contentBy_9 rfl hl (by decide) rfl (fun ls hl => ?_)
  exact w_X8_contentBy_10 C hr FU a1 (1 : Int32) (1 : Int32) σ2 h H locs hP hD hS ls (lv_sub hl [2, 3, 1, 0] rfl)
theorem c_X8_contentBy {l : Launch} {D : va_G} {cy : Nat → ClassId} {tT tF : Nat} {ad : Nat → Nat} {σ : ES} {a1 : Int32} {r : Int32} {σ' : ES} (h : e_X8_contentBy a1 σ = some (r, σ')) : CMi l yX8_contentBy (Cond.code yX8_contentBy cX8_contentBy 6 (some .int) :: wsL_law) { frames := 2, cells := 0, slots := 0, locals := 51 } D cy tT tF [.ref (ad 0), .int a1] (mw cy ad σ) r (mw cy ad σ') := x_start (Qc := fun A => (Qi D cy A r (mw cy ad σ'))) (by decide) (Nat.le_of_ble_eq_true rfl) (fun p e s m below meth c A ls C hr hP hD hS hl => w_X8_contentBy_0 C hr a1 σ h s.heap [] hP hD hS ls hl)
set_option maxHeartbeats 4000000 in
set_option maxRecDepth 100000 in
theorem w_X8_costOf_4 (C : Cx p s m args meth c D cy tT tF A cX8_costOf 4 RX8) (hr : meth.sig.returnType = some .int) {r : Int32} {σ : ES} : ∀ (n : Nat) (v1 : Int32) (v2 : Int32) (v3 : Int32), b_X8_costOf_4 σ n v1 v2 v3 = some r → ∀ (H : Heap) (locs : List Loc) (hP : va_P D vwCl (mw cy ad σ) H) (hD : va_D A (mw cy ad σ)) (hS : va_S A s.heap H locs) (ls : Array Slot) (hl : lv_has ls 4 [(0, .ref (ad 0)), (1, .int v1), (2, .int v2), (3, .int v3)]), W p l e { frames := 2, cells := 0, slots := 0, locals := 44 } s m args below meth c H locs 0 0 (MQ below (Qi D cy A r (mw cy ad σ)) args s 0 0 A) (F0 m 4 ls []) := by
  obtain ⟨⟨hx, hb, hml, hown, hts⟩, hK, hT, hA, hlk⟩ := id C
  intro n
  induction n with
  | zero =>
    intro v1 v2 v3 h
    exact no_some h
  | succ n ih =>
    intro v1 v2 v3 h H locs hP hD hS ls hl
    rw [b_X8_costOf_4] at h
    refine lv_iload_n hx hb dX8_costOf_4 rfl (lv_at hl 3 rfl) ?_
    refine lv_aload_n hx hb dX8_costOf_5 rfl (lv_at hl 0 rfl) ?_
    refine x_get C hP inlX8 0 mw_0 rfl 1 (by decide) mw12_3 rfl dX8_costOf_6 ?_
    refine lv_icmp_ge (tgt := 48) hx hb dX8_costOf_9 (by decide) (fun q1 => ?_) (fun q1 => ?_)
    · have h := ifp q1 h
      refine lv_iload_n hx hb dX8_costOf_48 rfl (lv_at hl 2 rfl) ?_
      have z1 := so_inj h
      subst z1
      exact x_iret C hr hP hD hS dX8_costOf_49
    · have h := ifn q1 h
      refine lv_iload_n hx hb dX8_costOf_12 rfl (lv_at hl 2 rfl) ?_
      refine lv_iload_n hx hb dX8_costOf_13 rfl (lv_at hl 1 rfl) ?_
      refine lv_iload_n hx hb dX8_costOf_14 rfl (lv_at hl 3 rfl) ?_
      obtain ⟨r3, g2, h⟩ := cl_some h
      refine x_callSi (rest := [.int v2]) C hP hD hS (c_X8_figureOf g2) (va_cwS 2 hts (gS mw22_12 mw22_13 mw1_5 mw22_14) rfl rfl rfl hdS_X8_figureOf ⟨Nat.le_of_ble_eq_true rfl, Nat.le_of_ble_eq_true rfl⟩) rfl hl.1 rfl (Nat.le_of_ble_eq_true rfl) dX8_costOf_15 ⟨Nat.zero_le _, Nat.zero_le _⟩ (fun H locs hP hD hS => ?_)
      refine lv_if_le (tgt := 39) hx hb dX8_costOf_18 (by decide) (fun q4 => ?_) (fun q4 => ?_)
      · have h := ifp q4 h
        refine lv_iconst (v := 0) hx hb dX8_costOf_39 (by decide) ?_
        refine lv_iadd hx hb dX8_costOf_40 ?_
        obtain ⟨x5, ex5, h⟩ := lt_some h
        refine x_ti ex5 ?_
        refine lv_istore_n (lv' := [(2, .int x5), (0, .ref (ad 0)), (1, .int v1), (3, .int v3)]) hx hb dX8_costOf_41 rfl hl (by decide) rfl (fun ls hl => ?_)
        obtain ⟨x6, ex6, h⟩ := lt_some h
        refine lv_iinc (v := x6) (lv' := [(3, .int x6), (2, .int x5), (0, .ref (ad 0)), (1, .int v1)]) hx hb dX8_costOf_42 hl (k := 3) rfl (by rw [ex6]; rfl) (by decide) rfl (fun ls hl => ?_)
        refine lv_goto (tgt := 4) hx hb dX8_costOf_45 (by decide) ?_
        exact ih v1 x5 x6 h H locs hP hD hS ls (lv_sub hl [2, 3, 1, 0] rfl)
      · have h := ifn q4 h
        refine lv_aload_n hx hb dX8_costOf_21 rfl (lv_at hl 0 rfl) ?_
        refine x_get C hP inlX8 0 mw_0 rfl 11 (by decide) mw6_6 rfl dX8_costOf_22 ?_
        refine lv_iconst (v := 4) hx hb dX8_costOf_25 (by decide) ?_
        refine lv_iload_n hx hb dX8_costOf_26 rfl (lv_at hl 3 rfl) ?_
        refine lv_iadd hx hb dX8_costOf_27 ?_
        obtain ⟨g7, x8, ex8, h⟩ := rd_some h
        refine x_ild C hP 9 mw_9 g7 ex8 dX8_costOf_28 ?_
        refine lv_aload_n hx hb dX8_costOf_29 rfl (lv_at hl 0 rfl) ?_
        refine x_get C hP inlX8 0 mw_0 rfl 6 (by decide) mw6_1 rfl dX8_costOf_30 ?_
        refine lv_iload_n hx hb dX8_costOf_33 rfl (lv_at hl 3 rfl) ?_
        obtain ⟨g9, x10, ex10, h⟩ := rd_some h
        refine x_ild C hP 4 mw_4 g9 ex10 dX8_costOf_34 ?_
        refine lv_imul hx hb dX8_costOf_35 ?_
        refine lv_goto (tgt := 40) hx hb dX8_costOf_36 (by decide) ?_
        refine lv_iadd hx hb dX8_costOf_40 ?_
        obtain ⟨x11, ex11, h⟩ := lt_some h
        refine x_ti ex11 ?_
        refine lv_istore_n (lv' := [(2, .int x11), (0, .ref (ad 0)), (1, .int v1), (3, .int v3)]) hx hb dX8_costOf_41 rfl hl (by decide) rfl (fun ls hl => ?_)
        obtain ⟨x12, ex12, h⟩ := lt_some h
        refine lv_iinc (v := x12) (lv' := [(3, .int x12), (2, .int x11), (0, .ref (ad 0)), (1, .int v1)]) hx hb dX8_costOf_42 hl (k := 3) rfl (by rw [ex12]; rfl) (by decide) rfl (fun ls hl => ?_)
        refine lv_goto (tgt := 4) hx hb dX8_costOf_45 (by decide) ?_
        exact ih v1 x11 x12 h H locs hP hD hS ls (lv_sub hl [2, 3, 1, 0] rfl)
set_option maxHeartbeats 4000000 in
set_option maxRecDepth 100000 in
theorem w_X8_costOf_0 (C : Cx p s m args meth c D cy tT tF A cX8_costOf 4 RX8) (hr : meth.sig.returnType = some .int) {r : Int32} {σ : ES} (a1 : Int32) (h : b_X8_costOf_0 σ a1 = some r) (H : Heap) (locs : List Loc) (hP : va_P D vwCl (mw cy ad σ) H) (hD : va_D A (mw cy ad σ)) (hS : va_S A s.heap H locs) (ls : Array Slot) (hl : lv_has ls 4 [(0, .ref (ad 0)), (1, .int a1)]) : W p l e { frames := 2, cells := 0, slots := 0, locals := 44 } s m args below meth c H locs 0 0 (MQ below (Qi D cy A r (mw cy ad σ)) args s 0 0 A) (F0 m 0 ls []) := by
  obtain ⟨⟨hx, hb, hml, hown, hts⟩, hK, hT, hA, hlk⟩ := id C
  unfold b_X8_costOf_0 at h
  refine lv_iconst (v := 0) hx hb dX8_costOf_0 (by decide) ?_
  refine lv_istore_n (lv' := [(2, .int (0 : Int32)), (0, .ref (ad 0)), (1, .int a1)]) hx hb dX8_costOf_1 rfl hl (by decide) rfl (fun ls hl => ?_)
  refine lv_iconst (v := 0) hx hb dX8_costOf_2 (by decide) ?_
  refine lv_istore_n (lv' := [(3, .int (0 : Int32)), (2, .int (0 : Int32)), (0, .ref (ad 0)), (1, .int a1)]) hx hb dX8_costOf_3 rfl hl (by decide) rfl (fun ls hl => ?_)
  exact w_X8_costOf_4 C hr FU a1 (0 : Int32) (0 : Int32) h H locs hP hD hS ls (lv_sub hl [2, 3, 1, 0] rfl)
theorem c_X8_costOf {l : Launch} {D : va_G} {cy : Nat → ClassId} {tT tF : Nat} {ad : Nat → Nat} {a1 : Int32} {r : Int32} {σ : ES} (h : e_X8_costOf a1 σ = some r) : CMi l yX8_costOf (Cond.code yX8_costOf cX8_costOf 4 (some .int) :: wsL_law) { frames := 2, cells := 0, slots := 0, locals := 44 } D cy tT tF [.ref (ad 0), .int a1] (mw cy ad σ) r (mw cy ad σ) := x_start (Qc := fun A => (Qi D cy A r (mw cy ad σ))) (by decide) (Nat.le_of_ble_eq_true rfl) (fun p e s m below meth c A ls C hr hP hD hS hl => w_X8_costOf_0 C hr a1 h s.heap [] hP hD hS ls hl)
set_option maxHeartbeats 4000000 in
set_option maxRecDepth 100000 in
theorem w_X8_layPlans_157 (C : Cx p s m args meth c D cy tT tF A cX8_layPlans 6 RX8) (hr : meth.sig.returnType = none) {σ' : ES} {K32 : Int32 → ES → Option (ES)} (hK32 : ∀ (v1 : Int32) (σ : ES), K32 v1 σ = some σ' → ∀ (H : Heap) (locs : List Loc), va_P D vwCl (mw cy ad σ) H → va_D A (mw cy ad σ) → va_S A s.heap H locs → ∀ ls : Array Slot, lv_has ls 6 [(0, .ref (ad 0)), (1, .int v1)] → W p l e { frames := 3, cells := 0, slots := 0, locals := 76 } s m args below meth c H locs 0 0 (MQ below (Qv D cy A (mw cy ad σ')) args s 0 0 A) (F0 m 32 ls [])) {K62 : Int32 → Int32 → Int32 → Int32 → ES → Option (ES)} (hK62 : ∀ (v1 : Int32) (v2 : Int32) (v3 : Int32) (v4 : Int32) (σ : ES), K62 v1 v2 v3 v4 σ = some σ' → ∀ (H : Heap) (locs : List Loc), va_P D vwCl (mw cy ad σ) H → va_D A (mw cy ad σ) → va_S A s.heap H locs → ∀ ls : Array Slot, lv_has ls 6 [(0, .ref (ad 0)), (1, .int v1), (2, .int v2), (3, .int v3), (4, .int v4)] → W p l e { frames := 3, cells := 0, slots := 0, locals := 76 } s m args below meth c H locs 0 0 (MQ below (Qv D cy A (mw cy ad σ')) args s 0 0 A) (F0 m 62 ls [])) (v1 : Int32) (v2 : Int32) (v3 : Int32) (v4 : Int32) (t1 : Int32) (t2 : Int32) (σ : ES) (h : b_X8_layPlans_157 K32 K62 v1 v2 v3 v4 t1 t2 σ = some σ') (H : Heap) (locs : List Loc) (hP : va_P D vwCl (mw cy ad σ) H) (hD : va_D A (mw cy ad σ)) (hS : va_S A s.heap H locs) (ls : Array Slot) (hl : lv_has ls 6 [(0, .ref (ad 0)), (1, .int v1), (2, .int v2), (3, .int v3), (4, .int v4)]) : W p l e { frames := 3, cells := 0, slots := 0, locals := 76 } s m args below meth c H locs 0 0 (MQ below (Qv D cy A (mw cy ad σ')) args s 0 0 A) (F0 m 157 ls [.int t2, .int t1, .ref (ad 16)]) := by
  obtain ⟨⟨hx, hb, hml, hown, hts⟩, hK, hT, hA, hlk⟩ := id C
  unfold b_X8_layPlans_157 at h
  obtain ⟨g1, σ2, eσ2, h⟩ := wr_some h
  refine x_ist C hP hD hS 16 mw_16 g1 (ma_16 eσ2) dX8_layPlans_157 (fun H locs hP hD hS => ?_)
  obtain ⟨x3, ex3, h⟩ := lt_some h
  refine lv_iinc (v := x3) (lv' := [(4, .int x3), (0, .ref (ad 0)), (1, .int v1), (2, .int v2), (3, .int v3)]) hx hb dX8_layPlans_158 hl (k := 4) rfl (by rw [ex3]; rfl) (by decide) rfl (fun ls hl => ?_)
  refine lv_goto (tgt := 62) hx hb dX8_layPlans_161 (by decide) ?_
  exact hK62 v1 v2 v3 x3 σ2 h H locs hP hD hS ls (lv_sub hl [1, 2, 3, 4, 0] rfl)
set_option maxHeartbeats 4000000 in
set_option maxRecDepth 100000 in
theorem w_X8_layPlans_134 (C : Cx p s m args meth c D cy tT tF A cX8_layPlans 6 RX8) (hr : meth.sig.returnType = none) {σ' : ES} {K32 : Int32 → ES → Option (ES)} (hK32 : ∀ (v1 : Int32) (σ : ES), K32 v1 σ = some σ' → ∀ (H : Heap) (locs : List Loc), va_P D vwCl (mw cy ad σ) H → va_D A (mw cy ad σ) → va_S A s.heap H locs → ∀ ls : Array Slot, lv_has ls 6 [(0, .ref (ad 0)), (1, .int v1)] → W p l e { frames := 3, cells := 0, slots := 0, locals := 76 } s m args below meth c H locs 0 0 (MQ below (Qv D cy A (mw cy ad σ')) args s 0 0 A) (F0 m 32 ls [])) {K62 : Int32 → Int32 → Int32 → Int32 → ES → Option (ES)} (hK62 : ∀ (v1 : Int32) (v2 : Int32) (v3 : Int32) (v4 : Int32) (σ : ES), K62 v1 v2 v3 v4 σ = some σ' → ∀ (H : Heap) (locs : List Loc), va_P D vwCl (mw cy ad σ) H → va_D A (mw cy ad σ) → va_S A s.heap H locs → ∀ ls : Array Slot, lv_has ls 6 [(0, .ref (ad 0)), (1, .int v1), (2, .int v2), (3, .int v3), (4, .int v4)] → W p l e { frames := 3, cells := 0, slots := 0, locals := 76 } s m args below meth c H locs 0 0 (MQ below (Qv D cy A (mw cy ad σ')) args s 0 0 A) (F0 m 62 ls [])) (v1 : Int32) (v2 : Int32) (v3 : Int32) (v4 : Int32) (v5 : Int32) (t1 : Int32) (t2 : Int32) (σ : ES) (h : b_X8_layPlans_134 K32 K62 v1 v2 v3 v4 v5 t1 t2 σ = some σ') (H : Heap) (locs : List Loc) (hP : va_P D vwCl (mw cy ad σ) H) (hD : va_D A (mw cy ad σ)) (hS : va_S A s.heap H locs) (ls : Array Slot) (hl : lv_has ls 6 [(0, .ref (ad 0)), (1, .int v1), (2, .int v2), (3, .int v3), (4, .int v4), (5, .int v5)]) : W p l e { frames := 3, cells := 0, slots := 0, locals := 76 } s m args below meth c H locs 0 0 (MQ below (Qv D cy A (mw cy ad σ')) args s 0 0 A) (F0 m 134 ls [.int t2, .int t1, .ref (ad 15)]) := by
  obtain ⟨⟨hx, hb, hml, hown, hts⟩, hK, hT, hA, hlk⟩ := id C
  unfold b_X8_layPlans_134 at h
  obtain ⟨g1, σ2, eσ2, h⟩ := wr_some h
  refine x_ist C hP hD hS 15 mw_15 g1 (ma_15 eσ2) dX8_layPlans_134 (fun H locs hP hD hS => ?_)
  refine lv_aload_n hx hb dX8_layPlans_135 rfl (lv_at hl 0 rfl) ?_
  refine x_get C hP inlX8 0 mw_0 rfl 26 (by decide) mw6_13 rfl dX8_layPlans_136 ?_
  refine lv_iload hx hb dX8_layPlans_139 (lv_at hl 4 rfl) ?_
  refine lv_iload hx hb dX8_layPlans_141 (lv_at hl 5 rfl) ?_
  refine lv_if_eq (tgt := 150) hx hb dX8_layPlans_143 (by decide) (fun q3 => ?_) (fun q3 => ?_)
  · have h := ifp q3 h
    refine lv_aload_n hx hb dX8_layPlans_150 rfl (lv_at hl 0 rfl) ?_
    refine x_get C hP inlX8 0 mw_0 rfl 26 (by decide) mw6_13 rfl dX8_layPlans_151 ?_
    refine lv_iload hx hb dX8_layPlans_154 (lv_at hl 4 rfl) ?_
    obtain ⟨g4, x5, ex5, h⟩ := rd_some h
    refine x_ild C hP 16 mw_16 g4 ex5 dX8_layPlans_156 ?_
    exact w_X8_layPlans_157 C hr hK32 hK62 v1 v2 v3 v4 v4 x5 σ2 h H locs hP hD hS ls (lv_sub hl [0, 1, 2, 3, 4] rfl)
  · have h := ifn q3 h
    refine lv_iload_n hx hb dX8_layPlans_146 rfl (lv_at hl 3 rfl) ?_
    refine lv_goto (tgt := 157) hx hb dX8_layPlans_147 (by decide) ?_
    exact w_X8_layPlans_157 C hr hK32 hK62 v1 v2 v3 v4 v4 v3 σ2 h H locs hP hD hS ls (lv_sub hl [0, 1, 2, 3, 4] rfl)
set_option maxHeartbeats 4000000 in
set_option maxRecDepth 100000 in
theorem w_X8_layPlans_110 (C : Cx p s m args meth c D cy tT tF A cX8_layPlans 6 RX8) (hr : meth.sig.returnType = none) {σ' : ES} {K32 : Int32 → ES → Option (ES)} (hK32 : ∀ (v1 : Int32) (σ : ES), K32 v1 σ = some σ' → ∀ (H : Heap) (locs : List Loc), va_P D vwCl (mw cy ad σ) H → va_D A (mw cy ad σ) → va_S A s.heap H locs → ∀ ls : Array Slot, lv_has ls 6 [(0, .ref (ad 0)), (1, .int v1)] → W p l e { frames := 3, cells := 0, slots := 0, locals := 76 } s m args below meth c H locs 0 0 (MQ below (Qv D cy A (mw cy ad σ')) args s 0 0 A) (F0 m 32 ls [])) {K62 : Int32 → Int32 → Int32 → Int32 → ES → Option (ES)} (hK62 : ∀ (v1 : Int32) (v2 : Int32) (v3 : Int32) (v4 : Int32) (σ : ES), K62 v1 v2 v3 v4 σ = some σ' → ∀ (H : Heap) (locs : List Loc), va_P D vwCl (mw cy ad σ) H → va_D A (mw cy ad σ) → va_S A s.heap H locs → ∀ ls : Array Slot, lv_has ls 6 [(0, .ref (ad 0)), (1, .int v1), (2, .int v2), (3, .int v3), (4, .int v4)] → W p l e { frames := 3, cells := 0, slots := 0, locals := 76 } s m args below meth c H locs 0 0 (MQ below (Qv D cy A (mw cy ad σ')) args s 0 0 A) (F0 m 62 ls [])) (v1 : Int32) (v2 : Int32) (v3 : Int32) (v4 : Int32) (t0 : Int32) (σ : ES) (h : b_X8_layPlans_110 K32 K62 v1 v2 v3 v4 t0 σ = some σ') (H : Heap) (locs : List Loc) (hP : va_P D vwCl (mw cy ad σ) H) (hD : va_D A (mw cy ad σ)) (hS : va_S A s.heap H locs) (ls : Array Slot) (hl : lv_has ls 6 [(0, .ref (ad 0)), (1, .int v1), (2, .int v2), (3, .int v3), (4, .int v4)]) : W p l e { frames := 3, cells := 0, slots := 0, locals := 76 } s m args below meth c H locs 0 0 (MQ below (Qv D cy A (mw cy ad σ')) args s 0 0 A) (F0 m 110 ls [.int t0]) := by
  obtain ⟨⟨hx, hb, hml, hown, hts⟩, hK, hT, hA, hlk⟩ := id C
  unfold b_X8_layPlans_110 at h
  refine lv_istore (lv' := [(5, .int t0), (0, .ref (ad 0)), (1, .int v1), (2, .int v2), (3, .int v3), (4, .int v4)]) hx hb dX8_layPlans_110 hl (by decide) rfl (fun ls hl => ?_)
  refine lv_aload_n hx hb dX8_layPlans_112 rfl (lv_at hl 1 rfl) ?_
  refine x_get C hP inlX8 0 mw_0 rfl 25 (by decide) mw6_12 rfl dX8_layPlans_113 ?_
  refine lv_iload hx hb dX8_layPlans_116 (lv_at hl 5 rfl) ?_
  refine lv_iload hx hb dX8_layPlans_118 (lv_at hl 0 rfl) ?_
  refine lv_if_eq (tgt := 127) hx hb dX8_layPlans_120 (by decide) (fun q1 => ?_) (fun q1 => ?_)
  · have h := ifp q1 h
    refine lv_aload_n hx hb dX8_layPlans_127 rfl (lv_at hl 1 rfl) ?_
    refine x_get C hP inlX8 0 mw_0 rfl 25 (by decide) mw6_12 rfl dX8_layPlans_128 ?_
    refine lv_iload hx hb dX8_layPlans_131 (lv_at hl 5 rfl) ?_
    obtain ⟨g2, x3, ex3, h⟩ := rd_some h
    refine x_ild C hP 15 mw_15 g2 ex3 dX8_layPlans_133 ?_
    exact w_X8_layPlans_134 C hr hK32 hK62 v1 v2 v3 v4 t0 v4 x3 σ h H locs hP hD hS ls (lv_sub hl [1, 2, 3, 4, 5, 0] rfl)
  · have h := ifn q1 h
    refine lv_iload_n hx hb dX8_layPlans_123 rfl (lv_at hl 2 rfl) ?_
    refine lv_goto (tgt := 134) hx hb dX8_layPlans_124 (by decide) ?_
    exact w_X8_layPlans_134 C hr hK32 hK62 v1 v2 v3 v4 t0 v4 v1 σ h H locs hP hD hS ls (lv_sub hl [1, 2, 3, 4, 5, 0] rfl)
set_option maxHeartbeats 4000000 in
set_option maxRecDepth 100000 in
theorem w_X8_layPlans_62 (C : Cx p s m args meth c D cy tT tF A cX8_layPlans 6 RX8) (hr : meth.sig.returnType = none) {σ' : ES} {K32 : Int32 → ES → Option (ES)} (hK32 : ∀ (v1 : Int32) (σ : ES), K32 v1 σ = some σ' → ∀ (H : Heap) (locs : List Loc), va_P D vwCl (mw cy ad σ) H → va_D A (mw cy ad σ) → va_S A s.heap H locs → ∀ ls : Array Slot, lv_has ls 6 [(0, .ref (ad 0)), (1, .int v1)] → W p l e { frames := 3, cells := 0, slots := 0, locals := 76 } s m args below meth c H locs 0 0 (MQ below (Qv D cy A (mw cy ad σ')) args s 0 0 A) (F0 m 32 ls [])) : ∀ (n : Nat) (v1 : Int32) (v2 : Int32) (v3 : Int32) (v4 : Int32) (σ : ES), b_X8_layPlans_62 K32 n v1 v2 v3 v4 σ = some σ' → ∀ (H : Heap) (locs : List Loc) (hP : va_P D vwCl (mw cy ad σ) H) (hD : va_D A (mw cy ad σ)) (hS : va_S A s.heap H locs) (ls : Array Slot) (hl : lv_has ls 6 [(0, .ref (ad 0)), (1, .int v1), (2, .int v2), (3, .int v3), (4, .int v4)]), W p l e { frames := 3, cells := 0, slots := 0, locals := 76 } s m args below meth c H locs 0 0 (MQ below (Qv D cy A (mw cy ad σ')) args s 0 0 A) (F0 m 62 ls []) := by
  obtain ⟨⟨hx, hb, hml, hown, hts⟩, hK, hT, hA, hlk⟩ := id C
  intro n
  induction n with
  | zero =>
    intro v1 v2 v3 v4 σ h
    exact no_some h
  | succ n ih =>
    intro v1 v2 v3 v4 σ h H locs hP hD hS ls hl
    rw [b_X8_layPlans_62] at h
    refine lv_iload hx hb dX8_layPlans_62 (lv_at hl 4 rfl) ?_
    refine lv_iconst (v := 1) hx hb dX8_layPlans_64 (by decide) ?_
    refine lv_aload_n hx hb dX8_layPlans_65 rfl (lv_at hl 0 rfl) ?_
    refine x_get C hP inlX8 0 mw_0 rfl 2 (by decide) mw12_4 rfl dX8_layPlans_66 ?_
    refine lv_ishl hx hb dX8_layPlans_69 ?_
    refine lv_icmp_ge (tgt := 164) hx hb dX8_layPlans_70 (by decide) (fun q1 => ?_) (fun q1 => ?_)
    · have h := ifp q1 h
      obtain ⟨x2, ex2, h⟩ := lt_some h
      refine lv_iinc (v := x2) (lv' := [(1, .int x2), (0, .ref (ad 0)), (2, .int v2), (3, .int v3), (4, .int v4)]) hx hb dX8_layPlans_164 hl (k := 1) rfl (by rw [ex2]; rfl) (by decide) rfl (fun ls hl => ?_)
      refine lv_goto (tgt := 32) hx hb dX8_layPlans_167 (by decide) ?_
      exact hK32 x2 σ h H locs hP hD hS ls (lv_sub hl [1, 0] rfl)
    · have h := ifn q1 h
      refine lv_iload hx hb dX8_layPlans_73 (lv_at hl 4 rfl) ?_
      refine lv_iload_n hx hb dX8_layPlans_75 rfl (lv_at hl 2 rfl) ?_
      refine lv_iconst (v := -1) hx hb dX8_layPlans_76 (by decide) ?_
      refine lv_ixor hx hb dX8_layPlans_77 ?_
      refine lv_iand hx hb dX8_layPlans_78 ?_
      refine lv_if_ne (tgt := 109) hx hb dX8_layPlans_79 (by decide) (fun q3 => ?_) (fun q3 => ?_)
      · have h := ifn q3 h
        refine lv_iconst (v := 0) hx hb dX8_layPlans_109 (by decide) ?_
        exact w_X8_layPlans_110 C hr hK32 ih v1 v2 v3 v4 (0 : Int32) σ h H locs hP hD hS ls (lv_sub hl [0, 1, 2, 3, 4] rfl)
      · have h := ifp q3 h
        refine lv_aload_n hx hb dX8_layPlans_82 rfl (lv_at hl 0 rfl) ?_
        refine x_get C hP inlX8 0 mw_0 rfl 26 (by decide) mw6_13 rfl dX8_layPlans_83 ?_
        refine lv_iload hx hb dX8_layPlans_86 (lv_at hl 4 rfl) ?_
        obtain ⟨g4, x5, ex5, h⟩ := rd_some h
        refine x_ild C hP 16 mw_16 g4 ex5 dX8_layPlans_88 ?_
        refine lv_bipush (v := -9) hx hb dX8_layPlans_89 (by decide) ?_
        refine lv_icmp_eq (tgt := 105) hx hb dX8_layPlans_91 (by decide) (fun q6 => ?_) (fun q6 => ?_)
        · have h := ifp q6 h
          refine lv_iconst (v := 1) hx hb dX8_layPlans_105 (by decide) ?_
          refine lv_goto (tgt := 110) hx hb dX8_layPlans_106 (by decide) ?_
          exact w_X8_layPlans_110 C hr hK32 ih v1 v2 v3 v4 (1 : Int32) σ h H locs hP hD hS ls (lv_sub hl [0, 1, 2, 3, 4] rfl)
        · have h := ifn q6 h
          refine lv_iload_n hx hb dX8_layPlans_94 rfl (lv_at hl 3 rfl) ?_
          refine lv_aload_n hx hb dX8_layPlans_95 rfl (lv_at hl 0 rfl) ?_
          refine x_get C hP inlX8 0 mw_0 rfl 26 (by decide) mw6_13 rfl dX8_layPlans_96 ?_
          refine lv_iload hx hb dX8_layPlans_99 (lv_at hl 4 rfl) ?_
          obtain ⟨g7, x8, ex8, h⟩ := rd_some h
          refine x_ild C hP 16 mw_16 g7 ex8 dX8_layPlans_101 ?_
          refine lv_icmp_ge (tgt := 109) hx hb dX8_layPlans_102 (by decide) (fun q9 => ?_) (fun q9 => ?_)
          · have h := ifp q9 h
            refine lv_iconst (v := 0) hx hb dX8_layPlans_109 (by decide) ?_
            exact w_X8_layPlans_110 C hr hK32 ih v1 v2 v3 v4 (0 : Int32) σ h H locs hP hD hS ls (lv_sub hl [0, 1, 2, 3, 4] rfl)
          · have h := ifn q9 h
            refine lv_iconst (v := 1) hx hb dX8_layPlans_105 (by decide) ?_
            refine lv_goto (tgt := 110) hx hb dX8_layPlans_106 (by decide) ?_
            exact w_X8_layPlans_110 C hr hK32 ih v1 v2 v3 v4 (1 : Int32) σ h H locs hP hD hS ls (lv_sub hl [0, 1, 2, 3, 4] rfl)
set_option maxHeartbeats 4000000 in
set_option maxRecDepth 100000 in
theorem w_X8_layPlans_32 (C : Cx p s m args meth c D cy tT tF A cX8_layPlans 6 RX8) (hr : meth.sig.returnType = none) {σ' : ES} : ∀ (n : Nat) (v1 : Int32) (σ : ES), b_X8_layPlans_32 n v1 σ = some σ' → ∀ (H : Heap) (locs : List Loc) (hP : va_P D vwCl (mw cy ad σ) H) (hD : va_D A (mw cy ad σ)) (hS : va_S A s.heap H locs) (ls : Array Slot) (hl : lv_has ls 6 [(0, .ref (ad 0)), (1, .int v1)]), W p l e { frames := 3, cells := 0, slots := 0, locals := 76 } s m args below meth c H locs 0 0 (MQ below (Qv D cy A (mw cy ad σ')) args s 0 0 A) (F0 m 32 ls []) := by
  obtain ⟨⟨hx, hb, hml, hown, hts⟩, hK, hT, hA, hlk⟩ := id C
  intro n
  induction n with
  | zero =>
    intro v1 σ h
    exact no_some h
  | succ n ih =>
    intro v1 σ h H locs hP hD hS ls hl
    rw [b_X8_layPlans_32] at h
    refine lv_iload_n hx hb dX8_layPlans_32 rfl (lv_at hl 1 rfl) ?_
    refine lv_sipush (v := 2401) hx hb dX8_layPlans_33 (by decide) ?_
    refine lv_icmp_ge (tgt := 170) hx hb dX8_layPlans_36 (by decide) (fun q1 => ?_) (fun q1 => ?_)
    · have h := ifp q1 h
      have z1 := so_inj h
      subst z1
      exact x_vret C hr hP hD hS dX8_layPlans_170
    · have h := ifn q1 h
      refine lv_aload_n hx hb dX8_layPlans_39 rfl (lv_at hl 0 rfl) ?_
      refine lv_iload_n hx hb dX8_layPlans_40 rfl (lv_at hl 1 rfl) ?_
      obtain ⟨r3, g2, h⟩ := cl_some h
      refine x_callVi (rest := []) C hP hD hS (c_X8_isPlan g2) (cwV 1 hts (gV mw22_8 mw22_9 mw22_10 mw1_5 mw22_11) rfl rfl rfl hdV_X8_isPlan ⟨Nat.le_of_ble_eq_true rfl, Nat.le_of_ble_eq_true rfl⟩) mw_0 rfl rfl hl.1 rfl (Nat.le_of_ble_eq_true rfl) dX8_layPlans_41 ⟨Nat.zero_le _, Nat.zero_le _⟩ (fun H locs hP hD hS => ?_)
      refine lv_if_eq (tgt := 164) hx hb dX8_layPlans_44 (by decide) (fun q4 => ?_) (fun q4 => ?_)
      · have h := ifp q4 h
        obtain ⟨x5, ex5, h⟩ := lt_some h
        refine lv_iinc (v := x5) (lv' := [(1, .int x5), (0, .ref (ad 0))]) hx hb dX8_layPlans_164 hl (k := 1) rfl (by rw [ex5]; rfl) (by decide) rfl (fun ls hl => ?_)
        refine lv_goto (tgt := 32) hx hb dX8_layPlans_167 (by decide) ?_
        exact ih x5 σ h H locs hP hD hS ls (lv_sub hl [1, 0] rfl)
      · have h := ifn q4 h
        refine lv_aload_n hx hb dX8_layPlans_47 rfl (lv_at hl 0 rfl) ?_
        refine lv_iload_n hx hb dX8_layPlans_48 rfl (lv_at hl 1 rfl) ?_
        obtain ⟨r8, σ7, g6, h⟩ := cs_some h
        refine x_callVi (rest := []) C hP hD hS (c_X8_contentBy g6) (cwV 1 hts (gV mw22_18 mw22_19 mw22_20 mw1_5 mw22_21) rfl rfl rfl hdV_X8_contentBy ⟨Nat.le_of_ble_eq_true rfl, Nat.le_of_ble_eq_true rfl⟩) mw_0 rfl rfl hl.1 rfl (Nat.le_of_ble_eq_true rfl) dX8_layPlans_49 ⟨Nat.zero_le _, Nat.zero_le _⟩ (fun H locs hP hD hS => ?_)
        refine lv_istore_n (lv' := [(2, .int r8), (0, .ref (ad 0)), (1, .int v1)]) hx hb dX8_layPlans_52 rfl hl (by decide) rfl (fun ls hl => ?_)
        refine lv_aload_n hx hb dX8_layPlans_53 rfl (lv_at hl 1 rfl) ?_
        refine lv_iload_n hx hb dX8_layPlans_54 rfl (lv_at hl 2 rfl) ?_
        obtain ⟨r10, g9, h⟩ := cl_some h
        refine x_callVi (rest := []) C hP hD hS (c_X8_costOf g9) (cwV 1 hts (gV mw23_2 mw23_3 mw23_4 mw1_5 mw23_5) rfl rfl rfl hdV_X8_costOf ⟨Nat.le_of_ble_eq_true rfl, Nat.le_of_ble_eq_true rfl⟩) mw_0 rfl rfl hl.1 rfl (Nat.le_of_ble_eq_true rfl) dX8_layPlans_55 ⟨Nat.zero_le _, Nat.zero_le _⟩ (fun H locs hP hD hS => ?_)
        refine lv_istore_n (lv' := [(3, .int r10), (2, .int r8), (0, .ref (ad 0)), (1, .int v1)]) hx hb dX8_layPlans_58 rfl hl (by decide) rfl (fun ls hl => ?_)
        refine lv_iconst (v := 0) hx hb dX8_layPlans_59 (by decide) ?_
        refine lv_istore (lv' := [(4, .int (0 : Int32)), (3, .int r10), (2, .int r8), (0, .ref (ad 0)), (1, .int v1)]) hx hb dX8_layPlans_60 hl (by decide) rfl (fun ls hl => ?_)
        exact w_X8_layPlans_62 C hr ih FU v1 r8 r10 (0 : Int32) σ7 h H locs hP hD hS ls (lv_sub hl [3, 4, 2, 1, 0] rfl)
set_option maxHeartbeats 4000000 in
set_option maxRecDepth 100000 in
theorem w_X8_layPlans_2 (C : Cx p s m args meth c D cy tT tF A cX8_layPlans 6 RX8) (hr : meth.sig.returnType = none) {σ' : ES} : ∀ (n : Nat) (v1 : Int32) (σ : ES), b_X8_layPlans_2 n v1 σ = some σ' → ∀ (H : Heap) (locs : List Loc) (hP : va_P D vwCl (mw cy ad σ) H) (hD : va_D A (mw cy ad σ)) (hS : va_S A s.heap H locs) (ls : Array Slot) (hl : lv_has ls 6 [(0, .ref (ad 0)), (1, .int v1)]), W p l e { frames := 3, cells := 0, slots := 0, locals := 76 } s m args below meth c H locs 0 0 (MQ below (Qv D cy A (mw cy ad σ')) args s 0 0 A) (F0 m 2 ls []) := by
  obtain ⟨⟨hx, hb, hml, hown, hts⟩, hK, hT, hA, hlk⟩ := id C
  intro n
  induction n with
  | zero =>
    intro v1 σ h
    exact no_some h
  | succ n ih =>
    intro v1 σ h H locs hP hD hS ls hl
    rw [b_X8_layPlans_2] at h
    refine lv_iload_n hx hb dX8_layPlans_2 rfl (lv_at hl 1 rfl) ?_
    refine lv_bipush (v := 16) hx hb dX8_layPlans_3 (by decide) ?_
    refine lv_icmp_ge (tgt := 30) hx hb dX8_layPlans_5 (by decide) (fun q1 => ?_) (fun q1 => ?_)
    · have h := ifp q1 h
      refine lv_iconst (v := 0) hx hb dX8_layPlans_30 (by decide) ?_
      refine lv_istore_n (lv' := [(1, .int (0 : Int32)), (0, .ref (ad 0))]) hx hb dX8_layPlans_31 rfl hl (by decide) rfl (fun ls hl => ?_)
      exact w_X8_layPlans_32 C hr FU (0 : Int32) σ h H locs hP hD hS ls (lv_sub hl [1, 0] rfl)
    · have h := ifn q1 h
      refine lv_aload_n hx hb dX8_layPlans_8 rfl (lv_at hl 0 rfl) ?_
      refine x_get C hP inlX8 0 mw_0 rfl 25 (by decide) mw6_12 rfl dX8_layPlans_9 ?_
      refine lv_iload_n hx hb dX8_layPlans_12 rfl (lv_at hl 1 rfl) ?_
      refine lv_bipush (v := -9) hx hb dX8_layPlans_13 (by decide) ?_
      obtain ⟨g2, σ3, eσ3, h⟩ := wr_some h
      refine x_ist C hP hD hS 15 mw_15 g2 (ma_15 eσ3) dX8_layPlans_15 (fun H locs hP hD hS => ?_)
      refine lv_aload_n hx hb dX8_layPlans_16 rfl (lv_at hl 0 rfl) ?_
      refine x_get C hP inlX8 0 mw_0 rfl 26 (by decide) mw6_13 rfl dX8_layPlans_17 ?_
      refine lv_iload_n hx hb dX8_layPlans_20 rfl (lv_at hl 1 rfl) ?_
      refine lv_bipush (v := -9) hx hb dX8_layPlans_21 (by decide) ?_
      obtain ⟨g4, σ5, eσ5, h⟩ := wr_some h
      refine x_ist C hP hD hS 16 mw_16 g4 (ma_16 eσ5) dX8_layPlans_23 (fun H locs hP hD hS => ?_)
      obtain ⟨x6, ex6, h⟩ := lt_some h
      refine lv_iinc (v := x6) (lv' := [(1, .int x6), (0, .ref (ad 0))]) hx hb dX8_layPlans_24 hl (k := 1) rfl (by rw [ex6]; rfl) (by decide) rfl (fun ls hl => ?_)
      refine lv_goto (tgt := 2) hx hb dX8_layPlans_27 (by decide) ?_
      exact ih x6 σ5 h H locs hP hD hS ls (lv_sub hl [1, 0] rfl)
set_option maxHeartbeats 4000000 in
set_option maxRecDepth 100000 in
theorem w_X8_layPlans_0 (C : Cx p s m args meth c D cy tT tF A cX8_layPlans 6 RX8) (hr : meth.sig.returnType = none) {σ' : ES} (σ : ES) (h : b_X8_layPlans_0 σ = some σ') (H : Heap) (locs : List Loc) (hP : va_P D vwCl (mw cy ad σ) H) (hD : va_D A (mw cy ad σ)) (hS : va_S A s.heap H locs) (ls : Array Slot) (hl : lv_has ls 6 [(0, .ref (ad 0))]) : W p l e { frames := 3, cells := 0, slots := 0, locals := 76 } s m args below meth c H locs 0 0 (MQ below (Qv D cy A (mw cy ad σ')) args s 0 0 A) (F0 m 0 ls []) := by
  obtain ⟨⟨hx, hb, hml, hown, hts⟩, hK, hT, hA, hlk⟩ := id C
  unfold b_X8_layPlans_0 at h
  refine lv_iconst (v := 0) hx hb dX8_layPlans_0 (by decide) ?_
  refine lv_istore_n (lv' := [(1, .int (0 : Int32)), (0, .ref (ad 0))]) hx hb dX8_layPlans_1 rfl hl (by decide) rfl (fun ls hl => ?_)
  exact w_X8_layPlans_2 C hr FU (0 : Int32) σ h H locs hP hD hS ls (lv_sub hl [1, 0] rfl)
theorem c_X8_layPlans {l : Launch} {D : va_G} {cy : Nat → ClassId} {tT tF : Nat} {ad : Nat → Nat} {σ : ES} {σ' : ES} (h : e_X8_layPlans  σ = some σ') : CMv l yX8_layPlans (Cond.code yX8_layPlans cX8_layPlans 6 none :: wsL_law) { frames := 3, cells := 0, slots := 0, locals := 76 } D cy tT tF [.ref (ad 0)] (mw cy ad σ) (mw cy ad σ') := x_start (Qc := fun A => (Qv D cy A (mw cy ad σ'))) (by decide) (Nat.le_of_ble_eq_true rfl) (fun p e s m below meth c A ls C hr hP hD hS hl => w_X8_layPlans_0 C hr  σ h s.heap [] hP hD hS ls hl)
set_option maxHeartbeats 4000000 in
set_option maxRecDepth 100000 in
theorem w_X8_all_0 (C : Cx p s m args meth c D cy tT tF A cX8_all 1 RX8) (hr : meth.sig.returnType = some .int) {r : Int32} {σ : ES} (h : b_X8_all_0 σ  = some r) (H : Heap) (locs : List Loc) (hP : va_P D vwCl (mw cy ad σ) H) (hD : va_D A (mw cy ad σ)) (hS : va_S A s.heap H locs) (ls : Array Slot) (hl : lv_has ls 1 [(0, .ref (ad 0))]) : W p l e { frames := 0, cells := 0, slots := 0, locals := 0 } s m args below meth c H locs 0 0 (MQ below (Qi D cy A r (mw cy ad σ)) args s 0 0 A) (F0 m 0 ls []) := by
  obtain ⟨⟨hx, hb, hml, hown, hts⟩, hK, hT, hA, hlk⟩ := id C
  unfold b_X8_all_0 at h
  refine lv_iconst (v := 1) hx hb dX8_all_0 (by decide) ?_
  refine lv_aload_n hx hb dX8_all_1 rfl (lv_at hl 0 rfl) ?_
  refine x_get C hP inlX8 0 mw_0 rfl 2 (by decide) mw12_4 rfl dX8_all_2 ?_
  refine lv_ishl hx hb dX8_all_5 ?_
  refine lv_iconst (v := 1) hx hb dX8_all_6 (by decide) ?_
  refine lv_isub hx hb dX8_all_7 ?_
  have z1 := so_inj h
  subst z1
  exact x_iret C hr hP hD hS dX8_all_8
theorem c_X8_all {l : Launch} {D : va_G} {cy : Nat → ClassId} {tT tF : Nat} {ad : Nat → Nat} {r : Int32} {σ : ES} (h : e_X8_all  σ = some r) : CMi l yX8_all (Cond.code yX8_all cX8_all 1 (some .int) :: wsL_law) { frames := 0, cells := 0, slots := 0, locals := 0 } D cy tT tF [.ref (ad 0)] (mw cy ad σ) r (mw cy ad σ) := x_start (Qc := fun A => (Qi D cy A r (mw cy ad σ))) (by decide) (Nat.le_of_ble_eq_true rfl) (fun p e s m below meth c A ls C hr hP hD hS hl => w_X8_all_0 C hr  h s.heap [] hP hD hS ls hl)
set_option maxHeartbeats 4000000 in
set_option maxRecDepth 100000 in
theorem w_X8_plan_0 (C : Cx p s m args meth c D cy tT tF A cX8_plan 1 RX8) (hr : meth.sig.returnType = some .int) {r : Int32} {σ' : ES} (σ : ES) (h : b_X8_plan_0 σ = some (r, σ')) (H : Heap) (locs : List Loc) (hP : va_P D vwCl (mw cy ad σ) H) (hD : va_D A (mw cy ad σ)) (hS : va_S A s.heap H locs) (ls : Array Slot) (hl : lv_has ls 1 [(0, .ref (ad 0))]) : W p l e { frames := 4, cells := 0, slots := 0, locals := 101 } s m args below meth c H locs 0 0 (MQ below (Qi D cy A r (mw cy ad σ')) args s 0 0 A) (F0 m 0 ls []) := by
  obtain ⟨⟨hx, hb, hml, hown, hts⟩, hK, hT, hA, hlk⟩ := id C
  unfold b_X8_plan_0 at h
  refine lv_aload_n hx hb dX8_plan_0 rfl (lv_at hl 0 rfl) ?_
  obtain ⟨σ2, g1, h⟩ := cl_some h
  refine x_callVv (rest := []) C hP hD hS (c_X8_layPlans g1) (cwV 0 hts (gV mw22_4 mw22_5 mw22_6 mw1_5 mw22_7) rfl rfl rfl hdV_X8_layPlans ⟨Nat.le_of_ble_eq_true rfl, Nat.le_of_ble_eq_true rfl⟩) mw_0 rfl rfl hl.1 rfl (Nat.le_of_ble_eq_true rfl) dX8_plan_1 ⟨Nat.zero_le _, Nat.zero_le _⟩ (fun H locs hP hD hS => ?_)
  refine lv_aload_n hx hb dX8_plan_4 rfl (lv_at hl 0 rfl) ?_
  refine x_get C hP inlX8 0 mw_0 rfl 26 (by decide) mw6_13 rfl dX8_plan_5 ?_
  refine lv_aload_n hx hb dX8_plan_8 rfl (lv_at hl 0 rfl) ?_
  obtain ⟨r4, g3, h⟩ := cl_some h
  refine x_callVi (rest := [.ref (ad 16)]) C hP hD hS (c_X8_all g3) (cwV 0 hts (gV mw23_6 mw23_7 mw23_8 mw1_5 mw23_9) rfl rfl rfl hdV_X8_all ⟨Nat.le_of_ble_eq_true rfl, Nat.le_of_ble_eq_true rfl⟩) mw_0 rfl rfl hl.1 rfl (Nat.le_of_ble_eq_true rfl) dX8_plan_9 ⟨Nat.zero_le _, Nat.zero_le _⟩ (fun H locs hP hD hS => ?_)
  obtain ⟨g5, x6, ex6, h⟩ := rd_some h
  refine x_ild C hP 16 mw_16 g5 ex6 dX8_plan_12 ?_
  obtain ⟨z1, z2⟩ := pr_inj h
  subst z1
  subst z2
  exact x_iret C hr hP hD hS dX8_plan_13
theorem c_X8_plan {l : Launch} {D : va_G} {cy : Nat → ClassId} {tT tF : Nat} {ad : Nat → Nat} {σ : ES} {r : Int32} {σ' : ES} (h : e_X8_plan  σ = some (r, σ')) : CMi l yX8_plan (Cond.code yX8_plan cX8_plan 1 (some .int) :: wsL_law) { frames := 4, cells := 0, slots := 0, locals := 101 } D cy tT tF [.ref (ad 0)] (mw cy ad σ) r (mw cy ad σ') := x_start (Qc := fun A => (Qi D cy A r (mw cy ad σ'))) (by decide) (Nat.le_of_ble_eq_true rfl) (fun p e s m below meth c A ls C hr hP hD hS hl => w_X8_plan_0 C hr  σ h s.heap [] hP hD hS ls hl)
set_option maxHeartbeats 4000000 in
set_option maxRecDepth 100000 in
theorem w_X8_planOf_0 (C : Cx p s m args meth c D cy tT tF A cX8_planOf 2 RX8) (hr : meth.sig.returnType = some .int) {r : Int32} {σ' : ES} (a1 : Int32) (σ : ES) (h : b_X8_planOf_0 a1 σ = some (r, σ')) (H : Heap) (locs : List Loc) (hP : va_P D vwCl (mw cy ad σ) H) (hD : va_D A (mw cy ad σ)) (hS : va_S A s.heap H locs) (ls : Array Slot) (hl : lv_has ls 2 [(0, .ref (ad 0)), (1, .int a1)]) : W p l e { frames := 4, cells := 0, slots := 0, locals := 101 } s m args below meth c H locs 0 0 (MQ below (Qi D cy A r (mw cy ad σ')) args s 0 0 A) (F0 m 0 ls []) := by
  obtain ⟨⟨hx, hb, hml, hown, hts⟩, hK, hT, hA, hlk⟩ := id C
  unfold b_X8_planOf_0 at h
  refine lv_aload_n hx hb dX8_planOf_0 rfl (lv_at hl 0 rfl) ?_
  refine lv_iload_n hx hb dX8_planOf_1 rfl (lv_at hl 1 rfl) ?_
  obtain ⟨r2, g1, h⟩ := cl_some h
  refine x_callVi (rest := []) C hP hD hS (c_X8_isCandle g1) (cwV 1 hts (gV mw13_11 mw13_12 mw13_13 mw1_5 mw13_14) rfl rfl rfl hdV_X8_isCandle ⟨Nat.le_of_ble_eq_true rfl, Nat.le_of_ble_eq_true rfl⟩) mw_0 rfl rfl hl.1 rfl (Nat.le_of_ble_eq_true rfl) dX8_planOf_2 ⟨Nat.zero_le _, Nat.zero_le _⟩ (fun H locs hP hD hS => ?_)
  refine lv_if_ne (tgt := 10) hx hb dX8_planOf_5 (by decide) (fun q3 => ?_) (fun q3 => ?_)
  · have h := ifn q3 h
    refine lv_aload_n hx hb dX8_planOf_10 rfl (lv_at hl 0 rfl) ?_
    obtain ⟨σ5, g4, h⟩ := cl_some h
    refine x_callVv (rest := []) C hP hD hS (c_X8_layPlans g4) (cwV 0 hts (gV mw22_4 mw22_5 mw22_6 mw1_5 mw22_7) rfl rfl rfl hdV_X8_layPlans ⟨Nat.le_of_ble_eq_true rfl, Nat.le_of_ble_eq_true rfl⟩) mw_0 rfl rfl hl.1 rfl (Nat.le_of_ble_eq_true rfl) dX8_planOf_11 ⟨Nat.zero_le _, Nat.zero_le _⟩ (fun H locs hP hD hS => ?_)
    refine lv_aload_n hx hb dX8_planOf_14 rfl (lv_at hl 0 rfl) ?_
    refine x_get C hP inlX8 0 mw_0 rfl 25 (by decide) mw6_12 rfl dX8_planOf_15 ?_
    refine lv_aload_n hx hb dX8_planOf_18 rfl (lv_at hl 0 rfl) ?_
    obtain ⟨r7, g6, h⟩ := cl_some h
    refine x_callVi (rest := [.ref (ad 15)]) C hP hD hS (c_X8_all g6) (cwV 0 hts (gV mw23_6 mw23_7 mw23_8 mw1_5 mw23_9) rfl rfl rfl hdV_X8_all ⟨Nat.le_of_ble_eq_true rfl, Nat.le_of_ble_eq_true rfl⟩) mw_0 rfl rfl hl.1 rfl (Nat.le_of_ble_eq_true rfl) dX8_planOf_19 ⟨Nat.zero_le _, Nat.zero_le _⟩ (fun H locs hP hD hS => ?_)
    obtain ⟨g8, x9, ex9, h⟩ := rd_some h
    refine x_ild C hP 15 mw_15 g8 ex9 dX8_planOf_22 ?_
    refine lv_bipush (v := -9) hx hb dX8_planOf_23 (by decide) ?_
    refine lv_icmp_ne (tgt := 33) hx hb dX8_planOf_25 (by decide) (fun q10 => ?_) (fun q10 => ?_)
    · have h := ifn q10 h
      refine lv_aload_n hx hb dX8_planOf_33 rfl (lv_at hl 0 rfl) ?_
      refine x_get C hP inlX8 0 mw_0 rfl 25 (by decide) mw6_12 rfl dX8_planOf_34 ?_
      refine lv_aload_n hx hb dX8_planOf_37 rfl (lv_at hl 0 rfl) ?_
      obtain ⟨r12, g11, h⟩ := cl_some h
      refine x_callVi (rest := [.ref (ad 15)]) C hP hD hS (c_X8_all g11) (cwV 0 hts (gV mw23_6 mw23_7 mw23_8 mw1_5 mw23_9) rfl rfl rfl hdV_X8_all ⟨Nat.le_of_ble_eq_true rfl, Nat.le_of_ble_eq_true rfl⟩) mw_0 rfl rfl hl.1 rfl (Nat.le_of_ble_eq_true rfl) dX8_planOf_38 ⟨Nat.zero_le _, Nat.zero_le _⟩ (fun H locs hP hD hS => ?_)
      obtain ⟨g13, x14, ex14, h⟩ := rd_some h
      refine x_ild C hP 15 mw_15 g13 ex14 dX8_planOf_41 ?_
      refine lv_iload_n hx hb dX8_planOf_42 rfl (lv_at hl 1 rfl) ?_
      obtain ⟨r16, g15, h⟩ := cl_some h
      refine x_callSi (rest := []) C hP hD hS (c_X8_figureOf g15) (va_cwS 2 hts (gS mw22_12 mw22_13 mw1_5 mw22_14) rfl rfl rfl hdS_X8_figureOf ⟨Nat.le_of_ble_eq_true rfl, Nat.le_of_ble_eq_true rfl⟩) rfl hl.1 rfl (Nat.le_of_ble_eq_true rfl) dX8_planOf_43 ⟨Nat.zero_le _, Nat.zero_le _⟩ (fun H locs hP hD hS => ?_)
      obtain ⟨z1, z2⟩ := pr_inj h
      subst z1
      subst z2
      exact x_iret C hr hP hD hS dX8_planOf_46
    · have h := ifp q10 h
      refine lv_bipush (v := -9) hx hb dX8_planOf_28 (by decide) ?_
      refine lv_goto (tgt := 46) hx hb dX8_planOf_30 (by decide) ?_
      obtain ⟨z1, z2⟩ := pr_inj h
      subst z1
      subst z2
      exact x_iret C hr hP hD hS dX8_planOf_46
  · have h := ifp q3 h
    refine lv_iconst (v := -1) hx hb dX8_planOf_8 (by decide) ?_
    obtain ⟨z1, z2⟩ := pr_inj h
    subst z1
    subst z2
    exact x_iret C hr hP hD hS dX8_planOf_9
theorem c_X8_planOf {l : Launch} {D : va_G} {cy : Nat → ClassId} {tT tF : Nat} {ad : Nat → Nat} {σ : ES} {a1 : Int32} {r : Int32} {σ' : ES} (h : e_X8_planOf a1 σ = some (r, σ')) : CMi l yX8_planOf (Cond.code yX8_planOf cX8_planOf 2 (some .int) :: wsL_law) { frames := 4, cells := 0, slots := 0, locals := 101 } D cy tT tF [.ref (ad 0), .int a1] (mw cy ad σ) r (mw cy ad σ') := x_start (Qc := fun A => (Qi D cy A r (mw cy ad σ'))) (by decide) (Nat.le_of_ble_eq_true rfl) (fun p e s m below meth c A ls C hr hP hD hS hl => w_X8_planOf_0 C hr a1 σ h s.heap [] hP hD hS ls hl)
set_option maxHeartbeats 4000000 in
set_option maxRecDepth 100000 in
theorem w_X8_bars_6 (C : Cx p s m args meth c D cy tT tF A cX8_bars 2 RX8) (hr : meth.sig.returnType = some .int) {r : Int32} {σ' : ES} : ∀ (n : Nat) (v1 : Int32) (σ : ES), b_X8_bars_6 n v1 σ = some (r, σ') → ∀ (H : Heap) (locs : List Loc) (hP : va_P D vwCl (mw cy ad σ) H) (hD : va_D A (mw cy ad σ)) (hS : va_S A s.heap H locs) (ls : Array Slot) (hl : lv_has ls 2 [(0, .ref (ad 0)), (1, .int v1)]), W p l e { frames := 4, cells := 0, slots := 0, locals := 101 } s m args below meth c H locs 0 0 (MQ below (Qi D cy A r (mw cy ad σ')) args s 0 0 A) (F0 m 6 ls []) := by
  obtain ⟨⟨hx, hb, hml, hown, hts⟩, hK, hT, hA, hlk⟩ := id C
  intro n
  induction n with
  | zero =>
    intro v1 σ h
    exact no_some h
  | succ n ih =>
    intro v1 σ h H locs hP hD hS ls hl
    rw [b_X8_bars_6] at h
    refine lv_iload_n hx hb dX8_bars_6 rfl (lv_at hl 1 rfl) ?_
    refine lv_aload_n hx hb dX8_bars_7 rfl (lv_at hl 0 rfl) ?_
    refine x_get C hP inlX8 0 mw_0 rfl 2 (by decide) mw12_4 rfl dX8_bars_8 ?_
    refine lv_icmp_ge (tgt := 35) hx hb dX8_bars_11 (by decide) (fun q1 => ?_) (fun q1 => ?_)
    · have h := ifp q1 h
      refine lv_bipush (v := -9) hx hb dX8_bars_35 (by decide) ?_
      obtain ⟨z1, z2⟩ := pr_inj h
      subst z1
      subst z2
      exact x_iret C hr hP hD hS dX8_bars_37
    · have h := ifn q1 h
      refine lv_aload_n hx hb dX8_bars_14 rfl (lv_at hl 0 rfl) ?_
      refine x_get C hP inlX8 0 mw_0 rfl 25 (by decide) mw6_12 rfl dX8_bars_15 ?_
      refine lv_iconst (v := 1) hx hb dX8_bars_18 (by decide) ?_
      refine lv_iload_n hx hb dX8_bars_19 rfl (lv_at hl 1 rfl) ?_
      refine lv_ishl hx hb dX8_bars_20 ?_
      obtain ⟨g2, x3, ex3, h⟩ := rd_some h
      refine x_ild C hP 15 mw_15 g2 ex3 dX8_bars_21 ?_
      refine lv_bipush (v := -9) hx hb dX8_bars_22 (by decide) ?_
      refine lv_icmp_ne (tgt := 29) hx hb dX8_bars_24 (by decide) (fun q4 => ?_) (fun q4 => ?_)
      · have h := ifn q4 h
        obtain ⟨x5, ex5, h⟩ := lt_some h
        refine lv_iinc (v := x5) (lv' := [(1, .int x5), (0, .ref (ad 0))]) hx hb dX8_bars_29 hl (k := 1) rfl (by rw [ex5]; rfl) (by decide) rfl (fun ls hl => ?_)
        refine lv_goto (tgt := 6) hx hb dX8_bars_32 (by decide) ?_
        exact ih x5 σ h H locs hP hD hS ls (lv_sub hl [1, 0] rfl)
      · have h := ifp q4 h
        refine lv_iload_n hx hb dX8_bars_27 rfl (lv_at hl 1 rfl) ?_
        obtain ⟨z1, z2⟩ := pr_inj h
        subst z1
        subst z2
        exact x_iret C hr hP hD hS dX8_bars_28
set_option maxHeartbeats 4000000 in
set_option maxRecDepth 100000 in
theorem w_X8_bars_0 (C : Cx p s m args meth c D cy tT tF A cX8_bars 2 RX8) (hr : meth.sig.returnType = some .int) {r : Int32} {σ' : ES} (σ : ES) (h : b_X8_bars_0 σ = some (r, σ')) (H : Heap) (locs : List Loc) (hP : va_P D vwCl (mw cy ad σ) H) (hD : va_D A (mw cy ad σ)) (hS : va_S A s.heap H locs) (ls : Array Slot) (hl : lv_has ls 2 [(0, .ref (ad 0))]) : W p l e { frames := 4, cells := 0, slots := 0, locals := 101 } s m args below meth c H locs 0 0 (MQ below (Qi D cy A r (mw cy ad σ')) args s 0 0 A) (F0 m 0 ls []) := by
  obtain ⟨⟨hx, hb, hml, hown, hts⟩, hK, hT, hA, hlk⟩ := id C
  unfold b_X8_bars_0 at h
  refine lv_aload_n hx hb dX8_bars_0 rfl (lv_at hl 0 rfl) ?_
  obtain ⟨σ2, g1, h⟩ := cl_some h
  refine x_callVv (rest := []) C hP hD hS (c_X8_layPlans g1) (cwV 0 hts (gV mw22_4 mw22_5 mw22_6 mw1_5 mw22_7) rfl rfl rfl hdV_X8_layPlans ⟨Nat.le_of_ble_eq_true rfl, Nat.le_of_ble_eq_true rfl⟩) mw_0 rfl rfl hl.1 rfl (Nat.le_of_ble_eq_true rfl) dX8_bars_1 ⟨Nat.zero_le _, Nat.zero_le _⟩ (fun H locs hP hD hS => ?_)
  refine lv_iconst (v := 0) hx hb dX8_bars_4 (by decide) ?_
  refine lv_istore_n (lv' := [(1, .int (0 : Int32)), (0, .ref (ad 0))]) hx hb dX8_bars_5 rfl hl (by decide) rfl (fun ls hl => ?_)
  exact w_X8_bars_6 C hr FU (0 : Int32) σ2 h H locs hP hD hS ls (lv_sub hl [1, 0] rfl)
theorem c_X8_bars {l : Launch} {D : va_G} {cy : Nat → ClassId} {tT tF : Nat} {ad : Nat → Nat} {σ : ES} {r : Int32} {σ' : ES} (h : e_X8_bars  σ = some (r, σ')) : CMi l yX8_bars (Cond.code yX8_bars cX8_bars 2 (some .int) :: wsL_law) { frames := 4, cells := 0, slots := 0, locals := 101 } D cy tT tF [.ref (ad 0)] (mw cy ad σ) r (mw cy ad σ') := x_start (Qc := fun A => (Qi D cy A r (mw cy ad σ'))) (by decide) (Nat.le_of_ble_eq_true rfl) (fun p e s m below meth c A ls C hr hP hD hS hl => w_X8_bars_0 C hr  σ h s.heap [] hP hD hS ls hl)
set_option maxHeartbeats 4000000 in
set_option maxRecDepth 100000 in
theorem w_X8_factorial_4 (C : Cx p s m args meth c D cy tT tF A cX8_factorial 3 RX8) (hr : meth.sig.returnType = some .int) {r : Int32} : ∀ (n : Nat) (v0 : Int32) (v1 : Int32) (v2 : Int32), b_X8_factorial_4 n v0 v1 v2 = some r → ∀ (H : Heap) (locs : List Loc) (hP : va_P D vwCl ws H) (hD : va_D A ws) (hS : va_S A s.heap H locs) (ls : Array Slot) (hl : lv_has ls 3 [(0, .int v0), (1, .int v1), (2, .int v2)]), W p l e { frames := 0, cells := 0, slots := 0, locals := 0 } s m args below meth c H locs 0 0 (MQ below (Qi D cy A r ws) args s 0 0 A) (F0 m 4 ls []) := by
  obtain ⟨⟨hx, hb, hml, hown, hts⟩, hK, hT, hA, hlk⟩ := id C
  intro n
  induction n with
  | zero =>
    intro v0 v1 v2 h
    exact no_some h
  | succ n ih =>
    intro v0 v1 v2 h H locs hP hD hS ls hl
    rw [b_X8_factorial_4] at h
    refine lv_iload_n hx hb dX8_factorial_4 rfl (lv_at hl 2 rfl) ?_
    refine lv_iload_n hx hb dX8_factorial_5 rfl (lv_at hl 0 rfl) ?_
    refine lv_icmp_gt (tgt := 19) hx hb dX8_factorial_6 (by decide) (fun q1 => ?_) (fun q1 => ?_)
    · have h := ifp q1 h
      refine lv_iload_n hx hb dX8_factorial_19 rfl (lv_at hl 1 rfl) ?_
      have z1 := so_inj h
      subst z1
      exact x_iret C hr hP hD hS dX8_factorial_20
    · have h := ifn q1 h
      refine lv_iload_n hx hb dX8_factorial_9 rfl (lv_at hl 1 rfl) ?_
      refine lv_iload_n hx hb dX8_factorial_10 rfl (lv_at hl 2 rfl) ?_
      refine lv_imul hx hb dX8_factorial_11 ?_
      obtain ⟨x2, ex2, h⟩ := lt_some h
      refine x_ti ex2 ?_
      refine lv_istore_n (lv' := [(1, .int x2), (0, .int v0), (2, .int v2)]) hx hb dX8_factorial_12 rfl hl (by decide) rfl (fun ls hl => ?_)
      obtain ⟨x3, ex3, h⟩ := lt_some h
      refine lv_iinc (v := x3) (lv' := [(2, .int x3), (1, .int x2), (0, .int v0)]) hx hb dX8_factorial_13 hl (k := 2) rfl (by rw [ex3]; rfl) (by decide) rfl (fun ls hl => ?_)
      refine lv_goto (tgt := 4) hx hb dX8_factorial_16 (by decide) ?_
      exact ih v0 x2 x3 h H locs hP hD hS ls (lv_sub hl [2, 1, 0] rfl)
set_option maxHeartbeats 4000000 in
set_option maxRecDepth 100000 in
theorem w_X8_factorial_0 (C : Cx p s m args meth c D cy tT tF A cX8_factorial 3 RX8) (hr : meth.sig.returnType = some .int) {r : Int32} (a0 : Int32) (h : b_X8_factorial_0 a0 = some r) (H : Heap) (locs : List Loc) (hP : va_P D vwCl ws H) (hD : va_D A ws) (hS : va_S A s.heap H locs) (ls : Array Slot) (hl : lv_has ls 3 [(0, .int a0)]) : W p l e { frames := 0, cells := 0, slots := 0, locals := 0 } s m args below meth c H locs 0 0 (MQ below (Qi D cy A r ws) args s 0 0 A) (F0 m 0 ls []) := by
  obtain ⟨⟨hx, hb, hml, hown, hts⟩, hK, hT, hA, hlk⟩ := id C
  unfold b_X8_factorial_0 at h
  refine lv_iconst (v := 1) hx hb dX8_factorial_0 (by decide) ?_
  refine lv_istore_n (lv' := [(1, .int (1 : Int32)), (0, .int a0)]) hx hb dX8_factorial_1 rfl hl (by decide) rfl (fun ls hl => ?_)
  refine lv_iconst (v := 2) hx hb dX8_factorial_2 (by decide) ?_
  refine lv_istore_n (lv' := [(2, .int (2 : Int32)), (1, .int (1 : Int32)), (0, .int a0)]) hx hb dX8_factorial_3 rfl hl (by decide) rfl (fun ls hl => ?_)
  exact w_X8_factorial_4 C hr FU a0 (1 : Int32) (2 : Int32) h H locs hP hD hS ls (lv_sub hl [2, 1, 0] rfl)
theorem c_X8_factorial {l : Launch} {D : va_G} {cy : Nat → ClassId} {tT tF : Nat} {ws : va_W} {a0 : Int32} {r : Int32} (h : e_X8_factorial a0 = some r) : CMi l yX8_factorial (Cond.code yX8_factorial cX8_factorial 3 (some .int) :: wsL_law) { frames := 0, cells := 0, slots := 0, locals := 0 } D cy tT tF [.int a0] ws r ws := x_start (Qc := fun A => (Qi D cy A r ws)) (by decide) (Nat.le_of_ble_eq_true rfl) (fun p e s m below meth c A ls C hr hP hD hS hl => w_X8_factorial_0 C hr a0 h s.heap [] hP hD hS ls hl)
set_option maxHeartbeats 4000000 in
set_option maxRecDepth 100000 in
theorem w_X8_common_4 (C : Cx p s m args meth c D cy tT tF A cX8_common 5 RX8) (hr : meth.sig.returnType = some .int) {r : Int32} : ∀ (n : Nat) (v2 : Int32) (v3 : Int32), b_X8_common_4 n v2 v3 = some r → ∀ (H : Heap) (locs : List Loc) (hP : va_P D vwCl ws H) (hD : va_D A ws) (hS : va_S A s.heap H locs) (ls : Array Slot) (hl : lv_has ls 5 [(2, .int v2), (3, .int v3)]), W p l e { frames := 0, cells := 0, slots := 0, locals := 0 } s m args below meth c H locs 0 0 (MQ below (Qi D cy A r ws) args s 0 0 A) (F0 m 4 ls []) := by
  obtain ⟨⟨hx, hb, hml, hown, hts⟩, hK, hT, hA, hlk⟩ := id C
  intro n
  induction n with
  | zero =>
    intro v2 v3 h
    exact no_some h
  | succ n ih =>
    intro v2 v3 h H locs hP hD hS ls hl
    rw [b_X8_common_4] at h
    refine lv_iload_n hx hb dX8_common_4 rfl (lv_at hl 1 rfl) ?_
    refine lv_if_eq (tgt := 21) hx hb dX8_common_5 (by decide) (fun q1 => ?_) (fun q1 => ?_)
    · have h := ifp q1 h
      refine lv_iload_n hx hb dX8_common_21 rfl (lv_at hl 0 rfl) ?_
      have z1 := so_inj h
      subst z1
      exact x_iret C hr hP hD hS dX8_common_22
    · have h := ifn q1 h
      refine lv_iload_n hx hb dX8_common_8 rfl (lv_at hl 0 rfl) ?_
      refine lv_iload_n hx hb dX8_common_9 rfl (lv_at hl 1 rfl) ?_
      obtain ⟨g2, h⟩ := dv_some h
      refine lv_irem hx hb dX8_common_10 g2 ?_
      obtain ⟨x3, ex3, h⟩ := lt_some h
      refine x_ti ex3 ?_
      refine lv_istore (lv' := [(4, .int x3), (2, .int v2), (3, .int v3)]) hx hb dX8_common_11 hl (by decide) rfl (fun ls hl => ?_)
      refine lv_iload_n hx hb dX8_common_13 rfl (lv_at hl 2 rfl) ?_
      refine lv_istore_n (lv' := [(2, .int v3), (4, .int x3), (3, .int v3)]) hx hb dX8_common_14 rfl hl (by decide) rfl (fun ls hl => ?_)
      refine lv_iload hx hb dX8_common_15 (lv_at hl 1 rfl) ?_
      refine lv_istore_n (lv' := [(3, .int x3), (2, .int v3), (4, .int x3)]) hx hb dX8_common_17 rfl hl (by decide) rfl (fun ls hl => ?_)
      refine lv_goto (tgt := 4) hx hb dX8_common_18 (by decide) ?_
      exact ih v3 x3 h H locs hP hD hS ls (lv_sub hl [1, 0] rfl)
set_option maxHeartbeats 4000000 in
set_option maxRecDepth 100000 in
theorem w_X8_common_0 (C : Cx p s m args meth c D cy tT tF A cX8_common 5 RX8) (hr : meth.sig.returnType = some .int) {r : Int32} (a0 : Int32) (a1 : Int32) (h : b_X8_common_0 a0 a1 = some r) (H : Heap) (locs : List Loc) (hP : va_P D vwCl ws H) (hD : va_D A ws) (hS : va_S A s.heap H locs) (ls : Array Slot) (hl : lv_has ls 5 [(0, .int a0), (1, .int a1)]) : W p l e { frames := 0, cells := 0, slots := 0, locals := 0 } s m args below meth c H locs 0 0 (MQ below (Qi D cy A r ws) args s 0 0 A) (F0 m 0 ls []) := by
  obtain ⟨⟨hx, hb, hml, hown, hts⟩, hK, hT, hA, hlk⟩ := id C
  unfold b_X8_common_0 at h
  refine lv_iload_n hx hb dX8_common_0 rfl (lv_at hl 0 rfl) ?_
  refine lv_istore_n (lv' := [(2, .int a0), (0, .int a0), (1, .int a1)]) hx hb dX8_common_1 rfl hl (by decide) rfl (fun ls hl => ?_)
  refine lv_iload_n hx hb dX8_common_2 rfl (lv_at hl 2 rfl) ?_
  refine lv_istore_n (lv' := [(3, .int a1), (2, .int a0), (0, .int a0), (1, .int a1)]) hx hb dX8_common_3 rfl hl (by decide) rfl (fun ls hl => ?_)
  exact w_X8_common_4 C hr FU a0 a1 h H locs hP hD hS ls (lv_sub hl [1, 0] rfl)
theorem c_X8_common {l : Launch} {D : va_G} {cy : Nat → ClassId} {tT tF : Nat} {ws : va_W} {a0 : Int32} {a1 : Int32} {r : Int32} (h : e_X8_common a0 a1 = some r) : CMi l yX8_common (Cond.code yX8_common cX8_common 5 (some .int) :: wsL_law) { frames := 0, cells := 0, slots := 0, locals := 0 } D cy tT tF [.int a0, .int a1] ws r ws := x_start (Qc := fun A => (Qi D cy A r ws)) (by decide) (Nat.le_of_ble_eq_true rfl) (fun p e s m below meth c A ls C hr hP hD hS hl => w_X8_common_0 C hr a0 a1 h s.heap [] hP hD hS ls hl)
set_option maxHeartbeats 4000000 in
set_option maxRecDepth 100000 in
theorem w_X8_ones_0 (C : Cx p s m args meth c D cy tT tF A cX8_ones 1 RX8) (hr : meth.sig.returnType = some .int) {r : Int32} (a0 : Int32) (h : b_X8_ones_0 a0 = some r) (H : Heap) (locs : List Loc) (hP : va_P D vwCl ws H) (hD : va_D A ws) (hS : va_S A s.heap H locs) (ls : Array Slot) (hl : lv_has ls 1 [(0, .int a0)]) : W p l e { frames := 0, cells := 0, slots := 0, locals := 0 } s m args below meth c H locs 0 0 (MQ below (Qi D cy A r ws) args s 0 0 A) (F0 m 0 ls []) := by
  obtain ⟨⟨hx, hb, hml, hown, hts⟩, hK, hT, hA, hlk⟩ := id C
  unfold b_X8_ones_0 at h
  refine lv_iload_n hx hb dX8_ones_0 rfl (lv_at hl 0 rfl) ?_
  refine lv_iconst (v := 1) hx hb dX8_ones_1 (by decide) ?_
  refine lv_iand hx hb dX8_ones_2 ?_
  refine lv_iload_n hx hb dX8_ones_3 rfl (lv_at hl 0 rfl) ?_
  refine lv_iconst (v := 1) hx hb dX8_ones_4 (by decide) ?_
  refine lv_ishr hx hb dX8_ones_5 ?_
  refine lv_iconst (v := 1) hx hb dX8_ones_6 (by decide) ?_
  refine lv_iand hx hb dX8_ones_7 ?_
  refine lv_iadd hx hb dX8_ones_8 ?_
  refine lv_iload_n hx hb dX8_ones_9 rfl (lv_at hl 0 rfl) ?_
  refine lv_iconst (v := 2) hx hb dX8_ones_10 (by decide) ?_
  refine lv_ishr hx hb dX8_ones_11 ?_
  refine lv_iconst (v := 1) hx hb dX8_ones_12 (by decide) ?_
  refine lv_iand hx hb dX8_ones_13 ?_
  refine lv_iadd hx hb dX8_ones_14 ?_
  refine lv_iload_n hx hb dX8_ones_15 rfl (lv_at hl 0 rfl) ?_
  refine lv_iconst (v := 3) hx hb dX8_ones_16 (by decide) ?_
  refine lv_ishr hx hb dX8_ones_17 ?_
  refine lv_iconst (v := 1) hx hb dX8_ones_18 (by decide) ?_
  refine lv_iand hx hb dX8_ones_19 ?_
  refine lv_iadd hx hb dX8_ones_20 ?_
  have z1 := so_inj h
  subst z1
  exact x_iret C hr hP hD hS dX8_ones_21
theorem c_X8_ones {l : Launch} {D : va_G} {cy : Nat → ClassId} {tT tF : Nat} {ws : va_W} {a0 : Int32} {r : Int32} (h : e_X8_ones a0 = some r) : CMi l yX8_ones (Cond.code yX8_ones cX8_ones 1 (some .int) :: wsL_law) { frames := 0, cells := 0, slots := 0, locals := 0 } D cy tT tF [.int a0] ws r ws := x_start (Qc := fun A => (Qi D cy A r ws)) (by decide) (Nat.le_of_ble_eq_true rfl) (fun p e s m below meth c A ls C hr hP hD hS hl => w_X8_ones_0 C hr a0 h s.heap [] hP hD hS ls hl)
end WK2

section WK10
variable {p : Program} {l : Launch} {e : Env} {R : Room} {s : State} {m : MethodId} {args : Array Value} {below : List Frame} {meth : Method} {c : Code} {D : va_G} {cy : Nat → ClassId} {tT tF : Nat} {A : Nat → Prop} {ad : Nat → Nat} {ws : va_W}
set_option maxHeartbeats 4000000 in
set_option maxRecDepth 100000 in
theorem w_X2_copy_8_3_51 (C : Cx p s m args meth c D cy tT tF A cX2_copy 3 RX2) (hr : meth.sig.returnType = none) {σ' : ES} : ∀ (n : Nat) (v2 : Int32) (σ : ES), b_X2_copy_8_3_51 n v2 σ = some σ' → ∀ (H : Heap) (locs : List Loc) (hP : va_P D vwCl (xw cy ad σ) H) (hD : va_D A (xw cy ad σ)) (hS : va_S A s.heap H locs) (ls : Array Slot) (hl : lv_has ls 3 [(0, .ref (ad 8)), (1, .ref (ad 3)), (2, .int v2)]), W p l e { frames := 0, cells := 0, slots := 0, locals := 0 } s m args below meth c H locs 0 0 (MQ below (Qv D cy A (xw cy ad σ')) args s 0 0 A) (F0 m 51 ls []) := by
  obtain ⟨⟨hx, hb, hml, hown, hts⟩, hK, hT, hA, hlk⟩ := id C
  intro n
  induction n with
  | zero =>
    intro v2 σ h
    exact no_some h
  | succ n ih =>
    intro v2 σ h H locs hP hD hS ls hl
    rw [b_X2_copy_8_3_51] at h
    refine lv_iload_n hx hb dX2_copy_51 rfl (lv_at hl 2 rfl) ?_
    refine lv_iconst (v := 4) hx hb dX2_copy_52 (by decide) ?_
    refine lv_icmp_ge (tgt := 74) hx hb dX2_copy_53 (by decide) (fun q1 => ?_) (fun q1 => ?_)
    · have h := ifp q1 h
      refine lv_aload_n hx hb dX2_copy_74 rfl (lv_at hl 0 rfl) ?_
      refine lv_aload_n hx hb dX2_copy_75 rfl (lv_at hl 1 rfl) ?_
      refine x_get C hP inlX2 3 xw_3 rfl 4 (by decide) mw3_14 rfl dX2_copy_76 ?_
      obtain ⟨σ2, eσ2, h⟩ := lt_some h
      refine x_put C hP hD hS inlX2 tyX2 tyX2_ok nmX2 8 xw_8 rfl 4 (by decide) mw3_14 rfl rfl rfl (Nat.le_of_ble_eq_true rfl) (xs_8_4 eσ2) dX2_copy_79 (fun H locs hP hD hS => ?_)
      refine lv_aload_n hx hb dX2_copy_82 rfl (lv_at hl 0 rfl) ?_
      refine lv_aload_n hx hb dX2_copy_83 rfl (lv_at hl 1 rfl) ?_
      refine x_get C hP inlX2 3 xw_3 rfl 5 (by decide) mw3_15 rfl dX2_copy_84 ?_
      obtain ⟨σ3, eσ3, h⟩ := lt_some h
      refine x_put C hP hD hS inlX2 tyX2 tyX2_ok nmX2 8 xw_8 rfl 5 (by decide) mw3_15 rfl rfl rfl (Nat.le_of_ble_eq_true rfl) (xs_8_5 eσ3) dX2_copy_87 (fun H locs hP hD hS => ?_)
      have z1 := so_inj h
      subst z1
      exact x_vret C hr hP hD hS dX2_copy_90
    · have h := ifn q1 h
      refine lv_aload_n hx hb dX2_copy_56 rfl (lv_at hl 0 rfl) ?_
      refine x_get C hP inlX2 8 xw_8 rfl 3 (by decide) mw3_13 rfl dX2_copy_57 ?_
      refine lv_iload_n hx hb dX2_copy_60 rfl (lv_at hl 2 rfl) ?_
      refine lv_aload_n hx hb dX2_copy_61 rfl (lv_at hl 1 rfl) ?_
      refine x_get C hP inlX2 3 xw_3 rfl 3 (by decide) mw3_13 rfl dX2_copy_62 ?_
      refine lv_iload_n hx hb dX2_copy_65 rfl (lv_at hl 2 rfl) ?_
      obtain ⟨g4, x5, ex5, h⟩ := rd_some h
      refine x_ild C hP 7 xw_7 g4 ex5 dX2_copy_66 ?_
      obtain ⟨g6, σ7, eσ7, h⟩ := wr_some h
      refine x_ist C hP hD hS 12 xw_12 g6 (xa_12 eσ7) dX2_copy_67 (fun H locs hP hD hS => ?_)
      obtain ⟨x8, ex8, h⟩ := lt_some h
      refine lv_iinc (v := x8) (lv' := [(2, .int x8), (0, .ref (ad 8)), (1, .ref (ad 3))]) hx hb dX2_copy_68 hl (k := 2) rfl (by rw [ex8]; rfl) (by decide) rfl (fun ls hl => ?_)
      refine lv_goto (tgt := 51) hx hb dX2_copy_71 (by decide) ?_
      exact ih x8 σ7 h H locs hP hD hS ls (lv_sub hl [1, 2, 0] rfl)
set_option maxHeartbeats 4000000 in
set_option maxRecDepth 100000 in
theorem w_X2_copy_8_3_2 (C : Cx p s m args meth c D cy tT tF A cX2_copy 3 RX2) (hr : meth.sig.returnType = none) {σ' : ES} : ∀ (n : Nat) (v2 : Int32) (σ : ES), b_X2_copy_8_3_2 n v2 σ = some σ' → ∀ (H : Heap) (locs : List Loc) (hP : va_P D vwCl (xw cy ad σ) H) (hD : va_D A (xw cy ad σ)) (hS : va_S A s.heap H locs) (ls : Array Slot) (hl : lv_has ls 3 [(0, .ref (ad 8)), (1, .ref (ad 3)), (2, .int v2)]), W p l e { frames := 0, cells := 0, slots := 0, locals := 0 } s m args below meth c H locs 0 0 (MQ below (Qv D cy A (xw cy ad σ')) args s 0 0 A) (F0 m 2 ls []) := by
  obtain ⟨⟨hx, hb, hml, hown, hts⟩, hK, hT, hA, hlk⟩ := id C
  intro n
  induction n with
  | zero =>
    intro v2 σ h
    exact no_some h
  | succ n ih =>
    intro v2 σ h H locs hP hD hS ls hl
    rw [b_X2_copy_8_3_2] at h
    refine lv_iload_n hx hb dX2_copy_2 rfl (lv_at hl 2 rfl) ?_
    refine lv_iconst (v := 4) hx hb dX2_copy_3 (by decide) ?_
    refine lv_icmp_ge (tgt := 49) hx hb dX2_copy_4 (by decide) (fun q1 => ?_) (fun q1 => ?_)
    · have h := ifp q1 h
      refine lv_iconst (v := 0) hx hb dX2_copy_49 (by decide) ?_
      refine lv_istore_n (lv' := [(2, .int (0 : Int32)), (0, .ref (ad 8)), (1, .ref (ad 3))]) hx hb dX2_copy_50 rfl hl (by decide) rfl (fun ls hl => ?_)
      exact w_X2_copy_8_3_51 C hr FU (0 : Int32) σ h H locs hP hD hS ls (lv_sub hl [1, 2, 0] rfl)
    · have h := ifn q1 h
      refine lv_aload_n hx hb dX2_copy_7 rfl (lv_at hl 0 rfl) ?_
      refine x_get C hP inlX2 8 xw_8 rfl 0 (by decide) mw3_10 rfl dX2_copy_8 ?_
      refine lv_iload_n hx hb dX2_copy_11 rfl (lv_at hl 2 rfl) ?_
      refine lv_aload_n hx hb dX2_copy_12 rfl (lv_at hl 1 rfl) ?_
      refine x_get C hP inlX2 3 xw_3 rfl 0 (by decide) mw3_10 rfl dX2_copy_13 ?_
      refine lv_iload_n hx hb dX2_copy_16 rfl (lv_at hl 2 rfl) ?_
      obtain ⟨g2, x3, ex3, h⟩ := rd_some h
      refine x_ild C hP 4 xw_4 g2 ex3 dX2_copy_17 ?_
      obtain ⟨g4, σ5, eσ5, h⟩ := wr_some h
      refine x_ist C hP hD hS 9 xw_9 g4 (xa_9 eσ5) dX2_copy_18 (fun H locs hP hD hS => ?_)
      refine lv_aload_n hx hb dX2_copy_19 rfl (lv_at hl 0 rfl) ?_
      refine x_get C hP inlX2 8 xw_8 rfl 1 (by decide) mw3_11 rfl dX2_copy_20 ?_
      refine lv_iload_n hx hb dX2_copy_23 rfl (lv_at hl 2 rfl) ?_
      refine lv_aload_n hx hb dX2_copy_24 rfl (lv_at hl 1 rfl) ?_
      refine x_get C hP inlX2 3 xw_3 rfl 1 (by decide) mw3_11 rfl dX2_copy_25 ?_
      refine lv_iload_n hx hb dX2_copy_28 rfl (lv_at hl 2 rfl) ?_
      obtain ⟨g6, x7, ex7, h⟩ := rd_some h
      refine x_ild C hP 5 xw_5 g6 ex7 dX2_copy_29 ?_
      obtain ⟨g8, σ9, eσ9, h⟩ := wr_some h
      refine x_ist C hP hD hS 10 xw_10 g8 (xa_10 eσ9) dX2_copy_30 (fun H locs hP hD hS => ?_)
      refine lv_aload_n hx hb dX2_copy_31 rfl (lv_at hl 0 rfl) ?_
      refine x_get C hP inlX2 8 xw_8 rfl 2 (by decide) mw3_12 rfl dX2_copy_32 ?_
      refine lv_iload_n hx hb dX2_copy_35 rfl (lv_at hl 2 rfl) ?_
      refine lv_aload_n hx hb dX2_copy_36 rfl (lv_at hl 1 rfl) ?_
      refine x_get C hP inlX2 3 xw_3 rfl 2 (by decide) mw3_12 rfl dX2_copy_37 ?_
      refine lv_iload_n hx hb dX2_copy_40 rfl (lv_at hl 2 rfl) ?_
      obtain ⟨g10, x11, ex11, h⟩ := rd_some h
      refine x_ild C hP 6 xw_6 g10 ex11 dX2_copy_41 ?_
      obtain ⟨g12, σ13, eσ13, h⟩ := wr_some h
      refine x_ist C hP hD hS 11 xw_11 g12 (xa_11 eσ13) dX2_copy_42 (fun H locs hP hD hS => ?_)
      obtain ⟨x14, ex14, h⟩ := lt_some h
      refine lv_iinc (v := x14) (lv' := [(2, .int x14), (0, .ref (ad 8)), (1, .ref (ad 3))]) hx hb dX2_copy_43 hl (k := 2) rfl (by rw [ex14]; rfl) (by decide) rfl (fun ls hl => ?_)
      refine lv_goto (tgt := 2) hx hb dX2_copy_46 (by decide) ?_
      exact ih x14 σ13 h H locs hP hD hS ls (lv_sub hl [1, 2, 0] rfl)
set_option maxHeartbeats 4000000 in
set_option maxRecDepth 100000 in
theorem w_X2_copy_8_3_0 (C : Cx p s m args meth c D cy tT tF A cX2_copy 3 RX2) (hr : meth.sig.returnType = none) {σ' : ES} (σ : ES) (h : b_X2_copy_8_3_0 σ = some σ') (H : Heap) (locs : List Loc) (hP : va_P D vwCl (xw cy ad σ) H) (hD : va_D A (xw cy ad σ)) (hS : va_S A s.heap H locs) (ls : Array Slot) (hl : lv_has ls 3 [(0, .ref (ad 8)), (1, .ref (ad 3))]) : W p l e { frames := 0, cells := 0, slots := 0, locals := 0 } s m args below meth c H locs 0 0 (MQ below (Qv D cy A (xw cy ad σ')) args s 0 0 A) (F0 m 0 ls []) := by
  obtain ⟨⟨hx, hb, hml, hown, hts⟩, hK, hT, hA, hlk⟩ := id C
  unfold b_X2_copy_8_3_0 at h
  refine lv_iconst (v := 0) hx hb dX2_copy_0 (by decide) ?_
  refine lv_istore_n (lv' := [(2, .int (0 : Int32)), (0, .ref (ad 8)), (1, .ref (ad 3))]) hx hb dX2_copy_1 rfl hl (by decide) rfl (fun ls hl => ?_)
  exact w_X2_copy_8_3_2 C hr FU (0 : Int32) σ h H locs hP hD hS ls (lv_sub hl [1, 2, 0] rfl)
theorem c_X2_copy_8_3 {l : Launch} {D : va_G} {cy : Nat → ClassId} {tT tF : Nat} {ad : Nat → Nat} {σ : ES} {σ' : ES} (h : e_X2_copy_8_3  σ = some σ') : CMv l yX2_copy (Cond.code yX2_copy cX2_copy 3 none :: wsL_law) { frames := 0, cells := 0, slots := 0, locals := 0 } D cy tT tF [.ref (ad 8), .ref (ad 3)] (xw cy ad σ) (xw cy ad σ') := x_start (Qc := fun A => (Qv D cy A (xw cy ad σ'))) (by decide) (Nat.le_of_ble_eq_true rfl) (fun p e s m below meth c A ls C hr hP hD hS hl => w_X2_copy_8_3_0 C hr  σ h s.heap [] hP hD hS ls hl)
set_option maxHeartbeats 4000000 in
set_option maxRecDepth 100000 in
theorem w_X7_figure_0 (C : Cx p s m args meth c D cy tT tF A cX7_figure 4 RX7) (hr : meth.sig.returnType = some .int) {r : Int32} (a0 : Int32) (a1 : Int32) (a2 : Int32) (h : b_X7_figure_0 a0 a1 a2 = some r) (H : Heap) (locs : List Loc) (hP : va_P D vwCl ws H) (hD : va_D A ws) (hS : va_S A s.heap H locs) (ls : Array Slot) (hl : lv_has ls 4 [(0, .int a0), (1, .int a1), (2, .int a2)]) : W p l e { frames := 0, cells := 0, slots := 0, locals := 0 } s m args below meth c H locs 0 0 (MQ below (Qi D cy A r ws) args s 0 0 A) (F0 m 0 ls []) := by
  obtain ⟨⟨hx, hb, hml, hown, hts⟩, hK, hT, hA, hlk⟩ := id C
  unfold b_X7_figure_0 at h
  refine lv_iload_n hx hb dX7_figure_0 rfl (lv_at hl 1 rfl) ?_
  refine lv_iconst (v := 1) hx hb dX7_figure_1 (by decide) ?_
  refine lv_isub hx hb dX7_figure_2 ?_
  refine lv_iload_n hx hb dX7_figure_3 rfl (lv_at hl 2 rfl) ?_
  refine lv_isub hx hb dX7_figure_4 ?_
  obtain ⟨x1, ex1, h⟩ := lt_some h
  refine x_ti ex1 ?_
  refine lv_istore_n (lv' := [(3, .int x1), (0, .int a0), (1, .int a1), (2, .int a2)]) hx hb dX7_figure_5 rfl hl (by decide) rfl (fun ls hl => ?_)
  refine lv_iload_n hx hb dX7_figure_6 rfl (lv_at hl 0 rfl) ?_
  refine lv_if_lt (tgt := 18) hx hb dX7_figure_7 (by decide) (fun q2 => ?_) (fun q2 => ?_)
  · have h := ifp q2 h
    refine lv_iconst (v := 0) hx hb dX7_figure_18 (by decide) ?_
    refine lv_goto (tgt := 32) hx hb dX7_figure_19 (by decide) ?_
    have z1 := so_inj h
    subst z1
    exact x_iret C hr hP hD hS dX7_figure_32
  · have h := ifn q2 h
    refine lv_iload_n hx hb dX7_figure_10 rfl (lv_at hl 0 rfl) ?_
    refine x_tens C hS mw27_2 dX7_figure_11 ?_
    refine x_tlen C hS dX7_figure_14 ?_
    refine lv_icmp_lt (tgt := 22) hx hb dX7_figure_15 (by decide) (fun q3 => ?_) (fun q3 => ?_)
    · have h := ifp q3 h
      refine lv_iload_n hx hb dX7_figure_22 rfl (lv_at hl 1 rfl) ?_
      refine x_tens C hS mw27_2 dX7_figure_23 ?_
      refine lv_iload_n hx hb dX7_figure_26 rfl (lv_at hl 0 rfl) ?_
      obtain ⟨g4, x5, ex5, h⟩ := rt_some h
      refine x_tld C hS g4 ex5 dX7_figure_27 ?_
      obtain ⟨g6, h⟩ := dv_some h
      refine lv_idiv hx hb dX7_figure_28 g6 ?_
      refine lv_bipush (v := 10) hx hb dX7_figure_29 (by decide) ?_
      refine lv_irem hx hb dX7_figure_31 (by decide) ?_
      have z1 := so_inj h
      subst z1
      exact x_iret C hr hP hD hS dX7_figure_32
    · have h := ifn q3 h
      refine lv_iconst (v := 0) hx hb dX7_figure_18 (by decide) ?_
      refine lv_goto (tgt := 32) hx hb dX7_figure_19 (by decide) ?_
      have z1 := so_inj h
      subst z1
      exact x_iret C hr hP hD hS dX7_figure_32
theorem c_X7_figure {l : Launch} {D : va_G} {cy : Nat → ClassId} {tT tF : Nat} {ws : va_W} {a0 : Int32} {a1 : Int32} {a2 : Int32} {r : Int32} (h : e_X7_figure a0 a1 a2 = some r) : CMi l yX7_figure (Cond.code yX7_figure cX7_figure 4 (some .int) :: wsL_law) { frames := 0, cells := 0, slots := 0, locals := 0 } D cy tT tF [.int a0, .int a1, .int a2] ws r ws := x_start (Qc := fun A => (Qi D cy A r ws)) (by decide) (Nat.le_of_ble_eq_true rfl) (fun p e s m below meth c A ls C hr hP hD hS hl => w_X7_figure_0 C hr a0 a1 a2 h s.heap [] hP hD hS ls hl)
set_option maxHeartbeats 4000000 in
set_option maxRecDepth 100000 in
theorem w_X2_lightIfCan_8_30_0 (C : Cx p s m args meth c D cy tT tF A cX2_lightIfCan 3 RX2) (hr : meth.sig.returnType = some .boolean) {r : Int32} {σ' : ES} (a2 : Int32) (σ : ES) (h : b_X2_lightIfCan_8_30_0 a2 σ = some (r, σ')) (H : Heap) (locs : List Loc) (hP : va_P D vwCl (xw cy ad σ) H) (hD : va_D A (xw cy ad σ)) (hS : va_S A s.heap H locs) (ls : Array Slot) (hl : lv_has ls 3 [(0, .ref (ad 8)), (1, .ref (ad 30)), (2, .int a2)]) : W p l e { frames := 1, cells := 0, slots := 0, locals := 21 } s m args below meth c H locs 0 0 (MQ below (Qi D cy A r (xw cy ad σ')) args s 0 0 A) (F0 m 0 ls []) := by
  obtain ⟨⟨hx, hb, hml, hown, hts⟩, hK, hT, hA, hlk⟩ := id C
  unfold b_X2_lightIfCan_8_30_0 at h
  refine lv_aload_n hx hb dX2_lightIfCan_0 rfl (lv_at hl 1 rfl) ?_
  refine lv_iload_n hx hb dX2_lightIfCan_1 rfl (lv_at hl 2 rfl) ?_
  obtain ⟨r2, g1, h⟩ := cl_some h
  refine x_callVi (rest := []) C hP hD hS (c_X3_hasCandle_30 g1) (cwV 1 hts (gV mw18_1 mw13_4 mw13_5 mw2_20 mw13_6) rfl rfl rfl hdV_X3_hasCandle ⟨Nat.le_of_ble_eq_true rfl, Nat.le_of_ble_eq_true rfl⟩) xw_30 rfl rfl hl.1 rfl (Nat.le_of_ble_eq_true rfl) dX2_lightIfCan_2 ⟨Nat.zero_le _, Nat.zero_le _⟩ (fun H locs hP hD hS => ?_)
  refine lv_if_eq (tgt := 17) hx hb dX2_lightIfCan_5 (by decide) (fun q3 => ?_) (fun q3 => ?_)
  · have h := ifp q3 h
    refine lv_iconst (v := 0) hx hb dX2_lightIfCan_17 (by decide) ?_
    obtain ⟨z1, z2⟩ := pr_inj h
    subst z1
    subst z2
    exact x_zret C hr rfl hP hD hS dX2_lightIfCan_18
  · have h := ifn q3 h
    refine lv_aload_n hx hb dX2_lightIfCan_8 rfl (lv_at hl 0 rfl) ?_
    refine x_get C hP inlX2 8 xw_8 rfl 2 (by decide) mw3_12 rfl dX2_lightIfCan_9 ?_
    refine lv_iload_n hx hb dX2_lightIfCan_12 rfl (lv_at hl 2 rfl) ?_
    obtain ⟨g4, x5, ex5, h⟩ := rd_some h
    refine x_ild C hP 11 xw_11 g4 ex5 dX2_lightIfCan_13 ?_
    refine lv_if_eq (tgt := 19) hx hb dX2_lightIfCan_14 (by decide) (fun q6 => ?_) (fun q6 => ?_)
    · have h := ifp q6 h
      refine lv_aload_n hx hb dX2_lightIfCan_19 rfl (lv_at hl 0 rfl) ?_
      refine x_get C hP inlX2 8 xw_8 rfl 2 (by decide) mw3_12 rfl dX2_lightIfCan_20 ?_
      refine lv_iload_n hx hb dX2_lightIfCan_23 rfl (lv_at hl 2 rfl) ?_
      refine lv_iconst (v := 1) hx hb dX2_lightIfCan_24 (by decide) ?_
      obtain ⟨g7, σ8, eσ8, h⟩ := wr_some h
      refine x_ist C hP hD hS 11 xw_11 g7 (xa_11 eσ8) dX2_lightIfCan_25 (fun H locs hP hD hS => ?_)
      refine lv_iconst (v := 1) hx hb dX2_lightIfCan_26 (by decide) ?_
      obtain ⟨z1, z2⟩ := pr_inj h
      subst z1
      subst z2
      exact x_zret C hr rfl hP hD hS dX2_lightIfCan_27
    · have h := ifn q6 h
      refine lv_iconst (v := 0) hx hb dX2_lightIfCan_17 (by decide) ?_
      obtain ⟨z1, z2⟩ := pr_inj h
      subst z1
      subst z2
      exact x_zret C hr rfl hP hD hS dX2_lightIfCan_18
theorem c_X2_lightIfCan_8_30 {l : Launch} {D : va_G} {cy : Nat → ClassId} {tT tF : Nat} {ad : Nat → Nat} {σ : ES} {a2 : Int32} {r : Int32} {σ' : ES} (h : e_X2_lightIfCan_8_30 a2 σ = some (r, σ')) : CMi l yX2_lightIfCan (Cond.code yX2_lightIfCan cX2_lightIfCan 3 (some .boolean) :: wsL_law) { frames := 1, cells := 0, slots := 0, locals := 21 } D cy tT tF [.ref (ad 8), .ref (ad 30), .int a2] (xw cy ad σ) r (xw cy ad σ') := x_start (Qc := fun A => (Qi D cy A r (xw cy ad σ'))) (by decide) (Nat.le_of_ble_eq_true rfl) (fun p e s m below meth c A ls C hr hP hD hS hl => w_X2_lightIfCan_8_30_0 C hr a2 σ h s.heap [] hP hD hS ls hl)
set_option maxHeartbeats 4000000 in
set_option maxRecDepth 100000 in
theorem w_X2_giftBit_8_30_0 (C : Cx p s m args meth c D cy tT tF A cX2_giftBit 5 RX2) (hr : meth.sig.returnType = some .int) {r : Int32} {σ : ES} (a2 : Int32) (a3 : Int32) (h : b_X2_giftBit_8_30_0 σ a2 a3 = some r) (H : Heap) (locs : List Loc) (hP : va_P D vwCl (xw cy ad σ) H) (hD : va_D A (xw cy ad σ)) (hS : va_S A s.heap H locs) (ls : Array Slot) (hl : lv_has ls 5 [(0, .ref (ad 8)), (1, .ref (ad 30)), (2, .int a2), (3, .int a3)]) : W p l e { frames := 1, cells := 0, slots := 0, locals := 21 } s m args below meth c H locs 0 0 (MQ below (Qi D cy A r (xw cy ad σ)) args s 0 0 A) (F0 m 0 ls []) := by
  obtain ⟨⟨hx, hb, hml, hown, hts⟩, hK, hT, hA, hlk⟩ := id C
  unfold b_X2_giftBit_8_30_0 at h
  refine lv_aload_n hx hb dX2_giftBit_0 rfl (lv_at hl 1 rfl) ?_
  refine lv_iload_n hx hb dX2_giftBit_1 rfl (lv_at hl 2 rfl) ?_
  obtain ⟨r2, g1, h⟩ := cl_some h
  refine x_callVi (rest := []) C hP hD hS (c_X3_hasCandle_30 g1) (cwV 1 hts (gV mw18_1 mw13_4 mw13_5 mw2_20 mw13_6) rfl rfl rfl hdV_X3_hasCandle ⟨Nat.le_of_ble_eq_true rfl, Nat.le_of_ble_eq_true rfl⟩) xw_30 rfl rfl hl.1 rfl (Nat.le_of_ble_eq_true rfl) dX2_giftBit_2 ⟨Nat.zero_le _, Nat.zero_le _⟩ (fun H locs hP hD hS => ?_)
  refine lv_if_eq (tgt := 22) hx hb dX2_giftBit_5 (by decide) (fun q3 => ?_) (fun q3 => ?_)
  · have h := ifp q3 h
    refine lv_iconst (v := 0) hx hb dX2_giftBit_22 (by decide) ?_
    have z1 := so_inj h
    subst z1
    exact x_iret C hr hP hD hS dX2_giftBit_23
  · have h := ifn q3 h
    refine lv_iload_n hx hb dX2_giftBit_8 rfl (lv_at hl 3 rfl) ?_
    refine lv_if_lt (tgt := 22) hx hb dX2_giftBit_9 (by decide) (fun q4 => ?_) (fun q4 => ?_)
    · have h := ifp q4 h
      refine lv_iconst (v := 0) hx hb dX2_giftBit_22 (by decide) ?_
      have z1 := so_inj h
      subst z1
      exact x_iret C hr hP hD hS dX2_giftBit_23
    · have h := ifn q4 h
      refine lv_iload_n hx hb dX2_giftBit_12 rfl (lv_at hl 3 rfl) ?_
      refine lv_aload_n hx hb dX2_giftBit_13 rfl (lv_at hl 0 rfl) ?_
      refine x_get C hP inlX2 8 xw_8 rfl 1 (by decide) mw3_11 rfl dX2_giftBit_14 ?_
      refine lv_iload_n hx hb dX2_giftBit_17 rfl (lv_at hl 2 rfl) ?_
      obtain ⟨g5, x6, ex6, h⟩ := rd_some h
      refine x_ild C hP 10 xw_10 g5 ex6 dX2_giftBit_18 ?_
      refine lv_icmp_lt (tgt := 24) hx hb dX2_giftBit_19 (by decide) (fun q7 => ?_) (fun q7 => ?_)
      · have h := ifp q7 h
        refine lv_aload_n hx hb dX2_giftBit_24 rfl (lv_at hl 1 rfl) ?_
        refine lv_aload_n hx hb dX2_giftBit_25 rfl (lv_at hl 0 rfl) ?_
        refine x_get C hP inlX2 8 xw_8 rfl 0 (by decide) mw3_10 rfl dX2_giftBit_26 ?_
        refine lv_iload_n hx hb dX2_giftBit_29 rfl (lv_at hl 2 rfl) ?_
        obtain ⟨g8, x9, ex9, h⟩ := rd_some h
        refine x_ild C hP 9 xw_9 g8 ex9 dX2_giftBit_30 ?_
        refine lv_iload_n hx hb dX2_giftBit_31 rfl (lv_at hl 3 rfl) ?_
        refine lv_iadd hx hb dX2_giftBit_32 ?_
        obtain ⟨r11, g10, h⟩ := cl_some h
        refine x_callVi (rest := []) C hP hD hS (c_X3_giftAt_30 g10) (cwV 1 hts (gV mw18_2 mw12_12 mw12_13 mw2_20 mw12_14) rfl rfl rfl hdV_X3_giftAt ⟨Nat.le_of_ble_eq_true rfl, Nat.le_of_ble_eq_true rfl⟩) xw_30 rfl rfl hl.1 rfl (Nat.le_of_ble_eq_true rfl) dX2_giftBit_33 ⟨Nat.zero_le _, Nat.zero_le _⟩ (fun H locs hP hD hS => ?_)
        refine lv_istore (lv' := [(4, .int r11), (0, .ref (ad 8)), (1, .ref (ad 30)), (2, .int a2), (3, .int a3)]) hx hb dX2_giftBit_36 hl (by decide) rfl (fun ls hl => ?_)
        refine lv_iload hx hb dX2_giftBit_38 (lv_at hl 0 rfl) ?_
        refine lv_iconst (v := 4) hx hb dX2_giftBit_40 (by decide) ?_
        refine lv_icmp_ne (tgt := 48) hx hb dX2_giftBit_41 (by decide) (fun q12 => ?_) (fun q12 => ?_)
        · have h := ifn q12 h
          refine lv_iconst (v := 1) hx hb dX2_giftBit_48 (by decide) ?_
          refine lv_iload hx hb dX2_giftBit_49 (lv_at hl 0 rfl) ?_
          refine lv_ishl hx hb dX2_giftBit_51 ?_
          have z1 := so_inj h
          subst z1
          exact x_iret C hr hP hD hS dX2_giftBit_52
        · have h := ifp q12 h
          refine lv_iconst (v := 0) hx hb dX2_giftBit_44 (by decide) ?_
          refine lv_goto (tgt := 52) hx hb dX2_giftBit_45 (by decide) ?_
          have z1 := so_inj h
          subst z1
          exact x_iret C hr hP hD hS dX2_giftBit_52
      · have h := ifn q7 h
        refine lv_iconst (v := 0) hx hb dX2_giftBit_22 (by decide) ?_
        have z1 := so_inj h
        subst z1
        exact x_iret C hr hP hD hS dX2_giftBit_23
theorem c_X2_giftBit_8_30 {l : Launch} {D : va_G} {cy : Nat → ClassId} {tT tF : Nat} {ad : Nat → Nat} {a2 : Int32} {a3 : Int32} {r : Int32} {σ : ES} (h : e_X2_giftBit_8_30 a2 a3 σ = some r) : CMi l yX2_giftBit (Cond.code yX2_giftBit cX2_giftBit 5 (some .int) :: wsL_law) { frames := 1, cells := 0, slots := 0, locals := 21 } D cy tT tF [.ref (ad 8), .ref (ad 30), .int a2, .int a3] (xw cy ad σ) r (xw cy ad σ) := x_start (Qc := fun A => (Qi D cy A r (xw cy ad σ))) (by decide) (Nat.le_of_ble_eq_true rfl) (fun p e s m below meth c A ls C hr hP hD hS hl => w_X2_giftBit_8_30_0 C hr a2 a3 h s.heap [] hP hD hS ls hl)
set_option maxHeartbeats 4000000 in
set_option maxRecDepth 100000 in
theorem w_X2_burnInch_8_30_0 (C : Cx p s m args meth c D cy tT tF A cX2_burnInch 3 RX2) (hr : meth.sig.returnType = none) {σ' : ES} (a2 : Int32) (σ : ES) (h : b_X2_burnInch_8_30_0 a2 σ = some σ') (H : Heap) (locs : List Loc) (hP : va_P D vwCl (xw cy ad σ) H) (hD : va_D A (xw cy ad σ)) (hS : va_S A s.heap H locs) (ls : Array Slot) (hl : lv_has ls 3 [(0, .ref (ad 8)), (1, .ref (ad 30)), (2, .int a2)]) : W p l e { frames := 0, cells := 0, slots := 0, locals := 0 } s m args below meth c H locs 0 0 (MQ below (Qv D cy A (xw cy ad σ')) args s 0 0 A) (F0 m 0 ls []) := by
  obtain ⟨⟨hx, hb, hml, hown, hts⟩, hK, hT, hA, hlk⟩ := id C
  unfold b_X2_burnInch_8_30_0 at h
  refine lv_aload_n hx hb dX2_burnInch_0 rfl (lv_at hl 0 rfl) ?_
  refine x_get C hP inlX2 8 xw_8 rfl 0 (by decide) mw3_10 rfl dX2_burnInch_1 ?_
  refine lv_iload_n hx hb dX2_burnInch_4 rfl (lv_at hl 2 rfl) ?_
  refine lv_dup2_11 hx hb dX2_burnInch_5 rfl rfl ?_
  obtain ⟨g1, x2, ex2, h⟩ := rd_some h
  refine x_ild C hP 9 xw_9 g1 ex2 dX2_burnInch_6 ?_
  refine lv_iconst (v := 1) hx hb dX2_burnInch_7 (by decide) ?_
  refine lv_iadd hx hb dX2_burnInch_8 ?_
  obtain ⟨g3, σ4, eσ4, h⟩ := wr_some h
  refine x_ist C hP hD hS 9 xw_9 g3 (xa_9 eσ4) dX2_burnInch_9 (fun H locs hP hD hS => ?_)
  refine lv_aload_n hx hb dX2_burnInch_10 rfl (lv_at hl 0 rfl) ?_
  refine x_get C hP inlX2 8 xw_8 rfl 1 (by decide) mw3_11 rfl dX2_burnInch_11 ?_
  refine lv_iload_n hx hb dX2_burnInch_14 rfl (lv_at hl 2 rfl) ?_
  refine lv_dup2_11 hx hb dX2_burnInch_15 rfl rfl ?_
  obtain ⟨g5, x6, ex6, h⟩ := rd_some h
  refine x_ild C hP 10 xw_10 g5 ex6 dX2_burnInch_16 ?_
  refine lv_iconst (v := 1) hx hb dX2_burnInch_17 (by decide) ?_
  refine lv_isub hx hb dX2_burnInch_18 ?_
  obtain ⟨g7, σ8, eσ8, h⟩ := wr_some h
  refine x_ist C hP hD hS 10 xw_10 g7 (xa_10 eσ8) dX2_burnInch_19 (fun H locs hP hD hS => ?_)
  refine lv_aload_n hx hb dX2_burnInch_20 rfl (lv_at hl 0 rfl) ?_
  refine lv_dup hx hb dX2_burnInch_21 rfl ?_
  refine x_get C hP inlX2 8 xw_8 rfl 4 (by decide) mw3_14 rfl dX2_burnInch_22 ?_
  refine lv_aload_n hx hb dX2_burnInch_25 rfl (lv_at hl 1 rfl) ?_
  refine x_get C hP inlX3 30 xw_30 rfl 3 (by decide) mw18_7 rfl dX2_burnInch_26 ?_
  refine lv_iload_n hx hb dX2_burnInch_29 rfl (lv_at hl 2 rfl) ?_
  obtain ⟨g9, x10, ex10, h⟩ := rd_some h
  refine x_ild C hP 34 xw_34 g9 ex10 dX2_burnInch_30 ?_
  refine lv_iadd hx hb dX2_burnInch_31 ?_
  obtain ⟨σ11, eσ11, h⟩ := lt_some h
  refine x_put C hP hD hS inlX2 tyX2 tyX2_ok nmX2 8 xw_8 rfl 4 (by decide) mw3_14 rfl rfl rfl (Nat.le_of_ble_eq_true rfl) (xs_8_4 eσ11) dX2_burnInch_32 (fun H locs hP hD hS => ?_)
  refine lv_aload_n hx hb dX2_burnInch_35 rfl (lv_at hl 0 rfl) ?_
  refine x_get C hP inlX2 8 xw_8 rfl 1 (by decide) mw3_11 rfl dX2_burnInch_36 ?_
  refine lv_iload_n hx hb dX2_burnInch_39 rfl (lv_at hl 2 rfl) ?_
  obtain ⟨g12, x13, ex13, h⟩ := rd_some h
  refine x_ild C hP 10 xw_10 g12 ex13 dX2_burnInch_40 ?_
  refine lv_if_gt (tgt := 51) hx hb dX2_burnInch_41 (by decide) (fun q14 => ?_) (fun q14 => ?_)
  · have h := ifp q14 h
    have z1 := so_inj h
    subst z1
    exact x_vret C hr hP hD hS dX2_burnInch_51
  · have h := ifn q14 h
    refine lv_aload_n hx hb dX2_burnInch_44 rfl (lv_at hl 0 rfl) ?_
    refine x_get C hP inlX2 8 xw_8 rfl 2 (by decide) mw3_12 rfl dX2_burnInch_45 ?_
    refine lv_iload_n hx hb dX2_burnInch_48 rfl (lv_at hl 2 rfl) ?_
    refine lv_iconst (v := 2) hx hb dX2_burnInch_49 (by decide) ?_
    obtain ⟨g15, σ16, eσ16, h⟩ := wr_some h
    refine x_ist C hP hD hS 11 xw_11 g15 (xa_11 eσ16) dX2_burnInch_50 (fun H locs hP hD hS => ?_)
    have z1 := so_inj h
    subst z1
    exact x_vret C hr hP hD hS dX2_burnInch_51
theorem c_X2_burnInch_8_30 {l : Launch} {D : va_G} {cy : Nat → ClassId} {tT tF : Nat} {ad : Nat → Nat} {σ : ES} {a2 : Int32} {σ' : ES} (h : e_X2_burnInch_8_30 a2 σ = some σ') : CMv l yX2_burnInch (Cond.code yX2_burnInch cX2_burnInch 3 none :: wsL_law) { frames := 0, cells := 0, slots := 0, locals := 0 } D cy tT tF [.ref (ad 8), .ref (ad 30), .int a2] (xw cy ad σ) (xw cy ad σ') := x_start (Qc := fun A => (Qv D cy A (xw cy ad σ'))) (by decide) (Nat.le_of_ble_eq_true rfl) (fun p e s m below meth c A ls C hr hP hD hS hl => w_X2_burnInch_8_30_0 C hr a2 σ h s.heap [] hP hD hS ls hl)
set_option maxHeartbeats 4000000 in
set_option maxRecDepth 100000 in
theorem w_X2_goBy_8_30_91 (C : Cx p s m args meth c D cy tT tF A cX2_goBy 6 RX2) (hr : meth.sig.returnType = some .int) {r : Int32} {σ' : ES} {K49 : Int32 → Int32 → Int32 → ES → Option (Int32 × ES)} (hK49 : ∀ (v2 : Int32) (v3 : Int32) (v4 : Int32) (σ : ES), K49 v2 v3 v4 σ = some (r, σ') → ∀ (H : Heap) (locs : List Loc), va_P D vwCl (xw cy ad σ) H → va_D A (xw cy ad σ) → va_S A s.heap H locs → ∀ ls : Array Slot, lv_has ls 6 [(0, .ref (ad 8)), (1, .ref (ad 30)), (2, .int v2), (3, .int v3), (4, .int v4)] → W p l e { frames := 2, cells := 0, slots := 0, locals := 45 } s m args below meth c H locs 0 0 (MQ below (Qi D cy A r (xw cy ad σ')) args s 0 0 A) (F0 m 49 ls [])) (v2 : Int32) (v3 : Int32) (v4 : Int32) (t0 : Int32) (σ : ES) (h : b_X2_goBy_8_30_91 K49 v2 v3 v4 t0 σ = some (r, σ')) (H : Heap) (locs : List Loc) (hP : va_P D vwCl (xw cy ad σ) H) (hD : va_D A (xw cy ad σ)) (hS : va_S A s.heap H locs) (ls : Array Slot) (hl : lv_has ls 6 [(0, .ref (ad 8)), (1, .ref (ad 30)), (2, .int v2), (3, .int v3), (4, .int v4)]) : W p l e { frames := 2, cells := 0, slots := 0, locals := 45 } s m args below meth c H locs 0 0 (MQ below (Qi D cy A r (xw cy ad σ')) args s 0 0 A) (F0 m 91 ls [.int t0]) := by
  obtain ⟨⟨hx, hb, hml, hown, hts⟩, hK, hT, hA, hlk⟩ := id C
  unfold b_X2_goBy_8_30_91 at h
  refine lv_istore (lv' := [(5, .int t0), (0, .ref (ad 8)), (1, .ref (ad 30)), (2, .int v2), (3, .int v3), (4, .int v4)]) hx hb dX2_goBy_91 hl (by decide) rfl (fun ls hl => ?_)
  refine lv_iload hx hb dX2_goBy_93 (lv_at hl 0 rfl) ?_
  refine lv_if_eq (tgt := 131) hx hb dX2_goBy_95 (by decide) (fun q1 => ?_) (fun q1 => ?_)
  · have h := ifp q1 h
    obtain ⟨x2, ex2, h⟩ := lt_some h
    refine lv_iinc (v := x2) (lv' := [(4, .int x2), (5, .int t0), (0, .ref (ad 8)), (1, .ref (ad 30)), (2, .int v2), (3, .int v3)]) hx hb dX2_goBy_131 hl (k := 5) rfl (by rw [ex2]; rfl) (by decide) rfl (fun ls hl => ?_)
    refine lv_goto (tgt := 49) hx hb dX2_goBy_134 (by decide) ?_
    exact hK49 v2 v3 x2 σ h H locs hP hD hS ls (lv_sub hl [2, 3, 4, 5, 0] rfl)
  · have h := ifn q1 h
    refine lv_iload_n hx hb dX2_goBy_98 rfl (lv_at hl 3 rfl) ?_
    refine lv_aload_n hx hb dX2_goBy_99 rfl (lv_at hl 2 rfl) ?_
    refine x_get C hP inlX3 30 xw_30 rfl 4 (by decide) mw17_20 rfl dX2_goBy_100 ?_
    refine lv_iload hx hb dX2_goBy_103 (lv_at hl 5 rfl) ?_
    obtain ⟨g3, x4, ex4, h⟩ := rd_some h
    refine x_ild C hP 35 xw_35 g3 ex4 dX2_goBy_105 ?_
    refine lv_ishr hx hb dX2_goBy_106 ?_
    refine lv_iconst (v := 1) hx hb dX2_goBy_107 (by decide) ?_
    refine lv_iand hx hb dX2_goBy_108 ?_
    refine lv_iconst (v := 1) hx hb dX2_goBy_109 (by decide) ?_
    refine lv_icmp_ne (tgt := 131) hx hb dX2_goBy_110 (by decide) (fun q5 => ?_) (fun q5 => ?_)
    · have h := ifn q5 h
      obtain ⟨x6, ex6, h⟩ := lt_some h
      refine lv_iinc (v := x6) (lv' := [(4, .int x6), (5, .int t0), (0, .ref (ad 8)), (1, .ref (ad 30)), (2, .int v2), (3, .int v3)]) hx hb dX2_goBy_131 hl (k := 5) rfl (by rw [ex6]; rfl) (by decide) rfl (fun ls hl => ?_)
      refine lv_goto (tgt := 49) hx hb dX2_goBy_134 (by decide) ?_
      exact hK49 v2 v3 x6 σ h H locs hP hD hS ls (lv_sub hl [2, 3, 4, 5, 0] rfl)
    · have h := ifp q5 h
      refine lv_aload_n hx hb dX2_goBy_113 rfl (lv_at hl 1 rfl) ?_
      refine x_get C hP inlX2 8 xw_8 rfl 3 (by decide) mw3_13 rfl dX2_goBy_114 ?_
      refine lv_iload hx hb dX2_goBy_117 (lv_at hl 5 rfl) ?_
      refine lv_dup2_11 hx hb dX2_goBy_119 rfl rfl ?_
      obtain ⟨g7, x8, ex8, h⟩ := rd_some h
      refine x_ild C hP 12 xw_12 g7 ex8 dX2_goBy_120 ?_
      refine lv_iconst (v := 1) hx hb dX2_goBy_121 (by decide) ?_
      refine lv_iadd hx hb dX2_goBy_122 ?_
      obtain ⟨g9, σ10, eσ10, h⟩ := wr_some h
      refine x_ist C hP hD hS 12 xw_12 g9 (xa_12 eσ10) dX2_goBy_123 (fun H locs hP hD hS => ?_)
      refine lv_iload_n hx hb dX2_goBy_124 rfl (lv_at hl 4 rfl) ?_
      refine lv_iconst (v := 1) hx hb dX2_goBy_125 (by decide) ?_
      refine lv_iload hx hb dX2_goBy_126 (lv_at hl 5 rfl) ?_
      refine lv_ishl hx hb dX2_goBy_128 ?_
      refine lv_ior hx hb dX2_goBy_129 ?_
      obtain ⟨x11, ex11, h⟩ := lt_some h
      refine x_ti ex11 ?_
      refine lv_istore_n (lv' := [(3, .int x11), (5, .int t0), (0, .ref (ad 8)), (1, .ref (ad 30)), (2, .int v2), (4, .int v4)]) hx hb dX2_goBy_130 rfl hl (by decide) rfl (fun ls hl => ?_)
      obtain ⟨x12, ex12, h⟩ := lt_some h
      refine lv_iinc (v := x12) (lv' := [(4, .int x12), (3, .int x11), (5, .int t0), (0, .ref (ad 8)), (1, .ref (ad 30)), (2, .int v2)]) hx hb dX2_goBy_131 hl (k := 5) rfl (by rw [ex12]; rfl) (by decide) rfl (fun ls hl => ?_)
      refine lv_goto (tgt := 49) hx hb dX2_goBy_134 (by decide) ?_
      exact hK49 v2 x11 x12 σ10 h H locs hP hD hS ls (lv_sub hl [3, 4, 5, 1, 0] rfl)
set_option maxHeartbeats 4000000 in
set_option maxRecDepth 100000 in
theorem w_X2_goBy_8_30_49 (C : Cx p s m args meth c D cy tT tF A cX2_goBy 6 RX2) (hr : meth.sig.returnType = some .int) {r : Int32} {σ' : ES} : ∀ (n : Nat) (v2 : Int32) (v3 : Int32) (v4 : Int32) (σ : ES), b_X2_goBy_8_30_49 n v2 v3 v4 σ = some (r, σ') → ∀ (H : Heap) (locs : List Loc) (hP : va_P D vwCl (xw cy ad σ) H) (hD : va_D A (xw cy ad σ)) (hS : va_S A s.heap H locs) (ls : Array Slot) (hl : lv_has ls 6 [(0, .ref (ad 8)), (1, .ref (ad 30)), (2, .int v2), (3, .int v3), (4, .int v4)]), W p l e { frames := 2, cells := 0, slots := 0, locals := 45 } s m args below meth c H locs 0 0 (MQ below (Qi D cy A r (xw cy ad σ')) args s 0 0 A) (F0 m 49 ls []) := by
  obtain ⟨⟨hx, hb, hml, hown, hts⟩, hK, hT, hA, hlk⟩ := id C
  intro n
  induction n with
  | zero =>
    intro v2 v3 v4 σ h
    exact no_some h
  | succ n ih =>
    intro v2 v3 v4 σ h H locs hP hD hS ls hl
    rw [b_X2_goBy_8_30_49] at h
    refine lv_iload hx hb dX2_goBy_49 (lv_at hl 4 rfl) ?_
    refine lv_aload_n hx hb dX2_goBy_51 rfl (lv_at hl 1 rfl) ?_
    refine x_get C hP inlX3 30 xw_30 rfl 10 (by decide) mw17_17 rfl dX2_goBy_52 ?_
    refine lv_icmp_ge (tgt := 137) hx hb dX2_goBy_55 (by decide) (fun q1 => ?_) (fun q1 => ?_)
    · have h := ifp q1 h
      refine lv_aload_n hx hb dX2_goBy_137 rfl (lv_at hl 0 rfl) ?_
      refine lv_dup hx hb dX2_goBy_138 rfl ?_
      refine x_get C hP inlX2 8 xw_8 rfl 5 (by decide) mw3_15 rfl dX2_goBy_139 ?_
      refine lv_iconst (v := 1) hx hb dX2_goBy_142 (by decide) ?_
      refine lv_iadd hx hb dX2_goBy_143 ?_
      obtain ⟨σ2, eσ2, h⟩ := lt_some h
      refine x_put C hP hD hS inlX2 tyX2 tyX2_ok nmX2 8 xw_8 rfl 5 (by decide) mw3_15 rfl rfl rfl (Nat.le_of_ble_eq_true rfl) (xs_8_5 eσ2) dX2_goBy_144 (fun H locs hP hD hS => ?_)
      refine lv_iload_n hx hb dX2_goBy_147 rfl (lv_at hl 3 rfl) ?_
      obtain ⟨z1, z2⟩ := pr_inj h
      subst z1
      subst z2
      exact x_iret C hr hP hD hS dX2_goBy_148
    · have h := ifn q1 h
      refine lv_aload_n hx hb dX2_goBy_58 rfl (lv_at hl 0 rfl) ?_
      refine x_get C hP inlX2 8 xw_8 rfl 5 (by decide) mw3_15 rfl dX2_goBy_59 ?_
      refine lv_aload_n hx hb dX2_goBy_62 rfl (lv_at hl 1 rfl) ?_
      refine x_get C hP inlX3 30 xw_30 rfl 6 (by decide) mw17_18 rfl dX2_goBy_63 ?_
      refine lv_iload hx hb dX2_goBy_66 (lv_at hl 4 rfl) ?_
      obtain ⟨g3, x4, ex4, h⟩ := rd_some h
      refine x_ild C hP 37 xw_37 g3 ex4 dX2_goBy_68 ?_
      refine lv_icmp_lt (tgt := 90) hx hb dX2_goBy_69 (by decide) (fun q5 => ?_) (fun q5 => ?_)
      · have h := ifp q5 h
        refine lv_iconst (v := 0) hx hb dX2_goBy_90 (by decide) ?_
        exact w_X2_goBy_8_30_91 C hr ih v2 v3 v4 (0 : Int32) σ h H locs hP hD hS ls (lv_sub hl [0, 1, 2, 3, 4] rfl)
      · have h := ifn q5 h
        refine lv_aload_n hx hb dX2_goBy_72 rfl (lv_at hl 0 rfl) ?_
        refine x_get C hP inlX2 8 xw_8 rfl 5 (by decide) mw3_15 rfl dX2_goBy_73 ?_
        refine lv_aload_n hx hb dX2_goBy_76 rfl (lv_at hl 1 rfl) ?_
        refine x_get C hP inlX3 30 xw_30 rfl 7 (by decide) mw17_19 rfl dX2_goBy_77 ?_
        refine lv_iload hx hb dX2_goBy_80 (lv_at hl 4 rfl) ?_
        obtain ⟨g6, x7, ex7, h⟩ := rd_some h
        refine x_ild C hP 38 xw_38 g6 ex7 dX2_goBy_82 ?_
        refine lv_icmp_gt (tgt := 90) hx hb dX2_goBy_83 (by decide) (fun q8 => ?_) (fun q8 => ?_)
        · have h := ifp q8 h
          refine lv_iconst (v := 0) hx hb dX2_goBy_90 (by decide) ?_
          exact w_X2_goBy_8_30_91 C hr ih v2 v3 v4 (0 : Int32) σ h H locs hP hD hS ls (lv_sub hl [0, 1, 2, 3, 4] rfl)
        · have h := ifn q8 h
          refine lv_iconst (v := 1) hx hb dX2_goBy_86 (by decide) ?_
          refine lv_goto (tgt := 91) hx hb dX2_goBy_87 (by decide) ?_
          exact w_X2_goBy_8_30_91 C hr ih v2 v3 v4 (1 : Int32) σ h H locs hP hD hS ls (lv_sub hl [0, 1, 2, 3, 4] rfl)
set_option maxHeartbeats 4000000 in
set_option maxRecDepth 100000 in
theorem w_X2_goBy_8_30_4 (C : Cx p s m args meth c D cy tT tF A cX2_goBy 6 RX2) (hr : meth.sig.returnType = some .int) {r : Int32} {σ' : ES} : ∀ (n : Nat) (v2 : Int32) (v3 : Int32) (σ : ES), b_X2_goBy_8_30_4 n v2 v3 σ = some (r, σ') → ∀ (H : Heap) (locs : List Loc) (hP : va_P D vwCl (xw cy ad σ) H) (hD : va_D A (xw cy ad σ)) (hS : va_S A s.heap H locs) (ls : Array Slot) (hl : lv_has ls 6 [(0, .ref (ad 8)), (1, .ref (ad 30)), (2, .int v2), (3, .int v3)]), W p l e { frames := 2, cells := 0, slots := 0, locals := 45 } s m args below meth c H locs 0 0 (MQ below (Qi D cy A r (xw cy ad σ')) args s 0 0 A) (F0 m 4 ls []) := by
  obtain ⟨⟨hx, hb, hml, hown, hts⟩, hK, hT, hA, hlk⟩ := id C
  intro n
  induction n with
  | zero =>
    intro v2 v3 σ h
    exact no_some h
  | succ n ih =>
    intro v2 v3 σ h H locs hP hD hS ls hl
    rw [b_X2_goBy_8_30_4] at h
    refine lv_iload_n hx hb dX2_goBy_4 rfl (lv_at hl 3 rfl) ?_
    refine lv_aload_n hx hb dX2_goBy_5 rfl (lv_at hl 1 rfl) ?_
    refine x_get C hP inlX3 30 xw_30 rfl 9 (by decide) mw15_18 rfl dX2_goBy_6 ?_
    refine lv_icmp_ge (tgt := 44) hx hb dX2_goBy_9 (by decide) (fun q1 => ?_) (fun q1 => ?_)
    · have h := ifp q1 h
      refine lv_iconst (v := 0) hx hb dX2_goBy_44 (by decide) ?_
      refine lv_istore_n (lv' := [(3, .int (0 : Int32)), (0, .ref (ad 8)), (1, .ref (ad 30)), (2, .int v2)]) hx hb dX2_goBy_45 rfl hl (by decide) rfl (fun ls hl => ?_)
      refine lv_iconst (v := 0) hx hb dX2_goBy_46 (by decide) ?_
      refine lv_istore (lv' := [(4, .int (0 : Int32)), (3, .int (0 : Int32)), (0, .ref (ad 8)), (1, .ref (ad 30)), (2, .int v2)]) hx hb dX2_goBy_47 hl (by decide) rfl (fun ls hl => ?_)
      exact w_X2_goBy_8_30_49 C hr FU v2 (0 : Int32) (0 : Int32) σ h H locs hP hD hS ls (lv_sub hl [2, 3, 4, 1, 0] rfl)
    · have h := ifn q1 h
      refine lv_aload_n hx hb dX2_goBy_12 rfl (lv_at hl 0 rfl) ?_
      refine x_get C hP inlX2 8 xw_8 rfl 2 (by decide) mw3_12 rfl dX2_goBy_13 ?_
      refine lv_iload_n hx hb dX2_goBy_16 rfl (lv_at hl 3 rfl) ?_
      obtain ⟨g2, x3, ex3, h⟩ := rd_some h
      refine x_ild C hP 11 xw_11 g2 ex3 dX2_goBy_17 ?_
      refine lv_iconst (v := 1) hx hb dX2_goBy_18 (by decide) ?_
      refine lv_icmp_ne (tgt := 38) hx hb dX2_goBy_19 (by decide) (fun q4 => ?_) (fun q4 => ?_)
      · have h := ifn q4 h
        obtain ⟨x5, ex5, h⟩ := lt_some h
        refine lv_iinc (v := x5) (lv' := [(3, .int x5), (0, .ref (ad 8)), (1, .ref (ad 30)), (2, .int v2)]) hx hb dX2_goBy_38 hl (k := 3) rfl (by rw [ex5]; rfl) (by decide) rfl (fun ls hl => ?_)
        refine lv_goto (tgt := 4) hx hb dX2_goBy_41 (by decide) ?_
        exact ih v2 x5 σ h H locs hP hD hS ls (lv_sub hl [1, 2, 3, 0] rfl)
      · have h := ifp q4 h
        refine lv_iload_n hx hb dX2_goBy_22 rfl (lv_at hl 2 rfl) ?_
        refine lv_aload_n hx hb dX2_goBy_23 rfl (lv_at hl 0 rfl) ?_
        refine lv_aload_n hx hb dX2_goBy_24 rfl (lv_at hl 1 rfl) ?_
        refine lv_iload_n hx hb dX2_goBy_25 rfl (lv_at hl 3 rfl) ?_
        refine lv_iconst (v := 0) hx hb dX2_goBy_26 (by decide) ?_
        obtain ⟨r7, g6, h⟩ := cl_some h
        refine x_callVi (rest := [.int v2]) C hP hD hS (c_X2_giftBit_8_30 g6) (cwV 3 hts (gV mw17_21 mw17_22 mw17_23 mw1_19 mw18_0) rfl rfl rfl hdV_X2_giftBit ⟨Nat.le_of_ble_eq_true rfl, Nat.le_of_ble_eq_true rfl⟩) xw_8 rfl rfl hl.1 rfl (Nat.le_of_ble_eq_true rfl) dX2_goBy_27 ⟨Nat.zero_le _, Nat.zero_le _⟩ (fun H locs hP hD hS => ?_)
        refine lv_ior hx hb dX2_goBy_30 ?_
        obtain ⟨x8, ex8, h⟩ := lt_some h
        refine x_ti ex8 ?_
        refine lv_istore_n (lv' := [(2, .int x8), (0, .ref (ad 8)), (1, .ref (ad 30)), (3, .int v3)]) hx hb dX2_goBy_31 rfl hl (by decide) rfl (fun ls hl => ?_)
        refine lv_aload_n hx hb dX2_goBy_32 rfl (lv_at hl 1 rfl) ?_
        refine lv_aload_n hx hb dX2_goBy_33 rfl (lv_at hl 2 rfl) ?_
        refine lv_iload_n hx hb dX2_goBy_34 rfl (lv_at hl 3 rfl) ?_
        obtain ⟨σ10, g9, h⟩ := cl_some h
        refine x_callVv (rest := []) C hP hD hS (c_X2_burnInch_8_30 g9) (cwV 2 hts (gV mw18_3 mw18_4 mw18_5 mw1_19 mw18_6) rfl rfl rfl hdV_X2_burnInch ⟨Nat.le_of_ble_eq_true rfl, Nat.le_of_ble_eq_true rfl⟩) xw_8 rfl rfl hl.1 rfl (Nat.le_of_ble_eq_true rfl) dX2_goBy_35 ⟨Nat.zero_le _, Nat.zero_le _⟩ (fun H locs hP hD hS => ?_)
        obtain ⟨x11, ex11, h⟩ := lt_some h
        refine lv_iinc (v := x11) (lv' := [(3, .int x11), (2, .int x8), (0, .ref (ad 8)), (1, .ref (ad 30))]) hx hb dX2_goBy_38 hl (k := 3) rfl (by rw [ex11]; rfl) (by decide) rfl (fun ls hl => ?_)
        refine lv_goto (tgt := 4) hx hb dX2_goBy_41 (by decide) ?_
        exact ih x8 x11 σ10 h H locs hP hD hS ls (lv_sub hl [2, 3, 1, 0] rfl)
set_option maxHeartbeats 4000000 in
set_option maxRecDepth 100000 in
theorem w_X2_goBy_8_30_0 (C : Cx p s m args meth c D cy tT tF A cX2_goBy 6 RX2) (hr : meth.sig.returnType = some .int) {r : Int32} {σ' : ES} (σ : ES) (h : b_X2_goBy_8_30_0 σ = some (r, σ')) (H : Heap) (locs : List Loc) (hP : va_P D vwCl (xw cy ad σ) H) (hD : va_D A (xw cy ad σ)) (hS : va_S A s.heap H locs) (ls : Array Slot) (hl : lv_has ls 6 [(0, .ref (ad 8)), (1, .ref (ad 30))]) : W p l e { frames := 2, cells := 0, slots := 0, locals := 45 } s m args below meth c H locs 0 0 (MQ below (Qi D cy A r (xw cy ad σ')) args s 0 0 A) (F0 m 0 ls []) := by
  obtain ⟨⟨hx, hb, hml, hown, hts⟩, hK, hT, hA, hlk⟩ := id C
  unfold b_X2_goBy_8_30_0 at h
  refine lv_iconst (v := 0) hx hb dX2_goBy_0 (by decide) ?_
  refine lv_istore_n (lv' := [(2, .int (0 : Int32)), (0, .ref (ad 8)), (1, .ref (ad 30))]) hx hb dX2_goBy_1 rfl hl (by decide) rfl (fun ls hl => ?_)
  refine lv_iconst (v := 0) hx hb dX2_goBy_2 (by decide) ?_
  refine lv_istore_n (lv' := [(3, .int (0 : Int32)), (2, .int (0 : Int32)), (0, .ref (ad 8)), (1, .ref (ad 30))]) hx hb dX2_goBy_3 rfl hl (by decide) rfl (fun ls hl => ?_)
  exact w_X2_goBy_8_30_4 C hr FU (0 : Int32) (0 : Int32) σ h H locs hP hD hS ls (lv_sub hl [2, 3, 1, 0] rfl)
theorem c_X2_goBy_8_30 {l : Launch} {D : va_G} {cy : Nat → ClassId} {tT tF : Nat} {ad : Nat → Nat} {σ : ES} {r : Int32} {σ' : ES} (h : e_X2_goBy_8_30  σ = some (r, σ')) : CMi l yX2_goBy (Cond.code yX2_goBy cX2_goBy 6 (some .int) :: wsL_law) { frames := 2, cells := 0, slots := 0, locals := 45 } D cy tT tF [.ref (ad 8), .ref (ad 30)] (xw cy ad σ) r (xw cy ad σ') := x_start (Qc := fun A => (Qi D cy A r (xw cy ad σ'))) (by decide) (Nat.le_of_ble_eq_true rfl) (fun p e s m below meth c A ls C hr hP hD hS hl => w_X2_goBy_8_30_0 C hr  σ h s.heap [] hP hD hS ls hl)
set_option maxHeartbeats 4000000 in
set_option maxRecDepth 100000 in
theorem w_X7_goesWell_0_0 (C : Cx p s m args meth c D cy tT tF A cX7_goesWell 2 RX7) (hr : meth.sig.returnType = some .boolean) {r : Int32} {σ' : ES} (a1 : Int32) (σ : ES) (h : b_X7_goesWell_0_0 a1 σ = some (r, σ')) (H : Heap) (locs : List Loc) (hP : va_P D vwCl (xw cy ad σ) H) (hD : va_D A (xw cy ad σ)) (hS : va_S A s.heap H locs) (ls : Array Slot) (hl : lv_has ls 2 [(0, .ref (ad 0)), (1, .int a1)]) : W p l e { frames := 3, cells := 0, slots := 0, locals := 70 } s m args below meth c H locs 0 0 (MQ below (Qi D cy A r (xw cy ad σ')) args s 0 0 A) (F0 m 0 ls []) := by
  obtain ⟨⟨hx, hb, hml, hown, hts⟩, hK, hT, hA, hlk⟩ := id C
  unfold b_X7_goesWell_0_0 at h
  refine lv_iload_n hx hb dX7_goesWell_0 rfl (lv_at hl 1 rfl) ?_
  refine lv_iconst (v := 4) hx hb dX7_goesWell_1 (by decide) ?_
  refine lv_icmp_ne (tgt := 37) hx hb dX7_goesWell_2 (by decide) (fun q1 => ?_) (fun q1 => ?_)
  · have h := ifn q1 h
    refine lv_aload_n hx hb dX7_goesWell_37 rfl (lv_at hl 0 rfl) ?_
    refine x_get C hP inlX7 0 xw_0 rfl 2 (by decide) mw1_21 rfl dX7_goesWell_38 ?_
    refine lv_aload_n hx hb dX7_goesWell_41 rfl (lv_at hl 0 rfl) ?_
    refine x_get C hP inlX7 0 xw_0 rfl 9 (by decide) mw2_21 rfl dX7_goesWell_42 ?_
    refine lv_iload_n hx hb dX7_goesWell_45 rfl (lv_at hl 1 rfl) ?_
    obtain ⟨r4, σ3, g2, h⟩ := cs_some h
    refine x_callVi (rest := []) C hP hD hS (c_X2_lightIfCan_8_30 g2) (cwV 2 hts (gV mw27_14 mw27_15 mw27_16 mw1_19 mw27_17) rfl rfl rfl hdV_X2_lightIfCan ⟨Nat.le_of_ble_eq_true rfl, Nat.le_of_ble_eq_true rfl⟩) xw_8 rfl rfl hl.1 rfl (Nat.le_of_ble_eq_true rfl) dX7_goesWell_46 ⟨Nat.zero_le _, Nat.zero_le _⟩ (fun H locs hP hD hS => ?_)
    obtain ⟨g5, h⟩ := bo_some h
    obtain ⟨z1, z2⟩ := pr_inj h
    subst z1
    subst z2
    exact x_zret C hr (bo_nar g5) hP hD hS dX7_goesWell_49
  · have h := ifp q1 h
    refine lv_aload_n hx hb dX7_goesWell_5 rfl (lv_at hl 0 rfl) ?_
    refine x_get C hP inlX7 0 xw_0 rfl 2 (by decide) mw1_21 rfl dX7_goesWell_6 ?_
    refine x_get C hP inlX2 8 xw_8 rfl 5 (by decide) mw17_12 rfl dX7_goesWell_9 ?_
    refine lv_bipush (v := 20) hx hb dX7_goesWell_12 (by decide) ?_
    refine lv_icmp_ge (tgt := 35) hx hb dX7_goesWell_14 (by decide) (fun q6 => ?_) (fun q6 => ?_)
    · have h := ifp q6 h
      refine lv_iconst (v := 0) hx hb dX7_goesWell_35 (by decide) ?_
      obtain ⟨z1, z2⟩ := pr_inj h
      subst z1
      subst z2
      exact x_zret C hr rfl hP hD hS dX7_goesWell_36
    · have h := ifn q6 h
      refine lv_aload_n hx hb dX7_goesWell_17 rfl (lv_at hl 0 rfl) ?_
      refine x_get C hP inlX7 0 xw_0 rfl 2 (by decide) mw1_21 rfl dX7_goesWell_18 ?_
      refine lv_aload_n hx hb dX7_goesWell_21 rfl (lv_at hl 0 rfl) ?_
      refine x_get C hP inlX7 0 xw_0 rfl 9 (by decide) mw2_21 rfl dX7_goesWell_22 ?_
      obtain ⟨r9, σ8, g7, h⟩ := cs_some h
      refine x_callVi (rest := []) C hP hD hS (c_X2_goBy_8_30 g7) (cwV 1 hts (gV mw17_13 mw17_14 mw17_15 mw1_19 mw17_16) rfl rfl rfl hdV_X2_goBy ⟨Nat.le_of_ble_eq_true rfl, Nat.le_of_ble_eq_true rfl⟩) xw_8 rfl rfl hl.1 rfl (Nat.le_of_ble_eq_true rfl) dX7_goesWell_25 ⟨Nat.zero_le _, Nat.zero_le _⟩ (fun H locs hP hD hS => ?_)
      refine lv_if_eq (tgt := 35) hx hb dX7_goesWell_28 (by decide) (fun q10 => ?_) (fun q10 => ?_)
      · have h := ifp q10 h
        refine lv_iconst (v := 0) hx hb dX7_goesWell_35 (by decide) ?_
        obtain ⟨z1, z2⟩ := pr_inj h
        subst z1
        subst z2
        exact x_zret C hr rfl hP hD hS dX7_goesWell_36
      · have h := ifn q10 h
        refine lv_iconst (v := 1) hx hb dX7_goesWell_31 (by decide) ?_
        refine lv_goto (tgt := 36) hx hb dX7_goesWell_32 (by decide) ?_
        obtain ⟨z1, z2⟩ := pr_inj h
        subst z1
        subst z2
        exact x_zret C hr rfl hP hD hS dX7_goesWell_36
theorem c_X7_goesWell_0 {l : Launch} {D : va_G} {cy : Nat → ClassId} {tT tF : Nat} {ad : Nat → Nat} {σ : ES} {a1 : Int32} {r : Int32} {σ' : ES} (h : e_X7_goesWell_0 a1 σ = some (r, σ')) : CMi l yX7_goesWell (Cond.code yX7_goesWell cX7_goesWell 2 (some .boolean) :: wsL_law) { frames := 3, cells := 0, slots := 0, locals := 70 } D cy tT tF [.ref (ad 0), .int a1] (xw cy ad σ) r (xw cy ad σ') := x_start (Qc := fun A => (Qi D cy A r (xw cy ad σ'))) (by decide) (Nat.le_of_ble_eq_true rfl) (fun p e s m below meth c A ls C hr hP hD hS hl => w_X7_goesWell_0_0 C hr a1 σ h s.heap [] hP hD hS ls hl)
set_option maxHeartbeats 4000000 in
set_option maxRecDepth 100000 in
theorem w_X7_judge_0_40 (C : Cx p s m args meth c D cy tT tF A cX7_judge 4 RX7) (hr : meth.sig.returnType = some .int) {r : Int32} {σ' : ES} : ∀ (n : Nat) (v1 : Int32) (v2 : Int32) (v3 : Int32) (σ : ES), b_X7_judge_0_40 n v1 v2 v3 σ = some (r, σ') → ∀ (H : Heap) (locs : List Loc) (hP : va_P D vwCl (xw cy ad σ) H) (hD : va_D A (xw cy ad σ)) (hS : va_S A s.heap H locs) (ls : Array Slot) (hl : lv_has ls 4 [(0, .ref (ad 0)), (1, .int v1), (2, .int v2), (3, .int v3)]), W p l e { frames := 4, cells := 0, slots := 0, locals := 91 } s m args below meth c H locs 0 0 (MQ below (Qi D cy A r (xw cy ad σ')) args s 0 0 A) (F0 m 40 ls []) := by
  obtain ⟨⟨hx, hb, hml, hown, hts⟩, hK, hT, hA, hlk⟩ := id C
  intro n
  induction n with
  | zero =>
    intro v1 v2 v3 σ h
    exact no_some h
  | succ n ih =>
    intro v1 v2 v3 σ h H locs hP hD hS ls hl
    rw [b_X7_judge_0_40] at h
    refine lv_iload_n hx hb dX7_judge_40 rfl (lv_at hl 3 rfl) ?_
    refine lv_iload_n hx hb dX7_judge_41 rfl (lv_at hl 1 rfl) ?_
    refine lv_icmp_ge (tgt := 66) hx hb dX7_judge_42 (by decide) (fun q1 => ?_) (fun q1 => ?_)
    · have h := ifp q1 h
      refine lv_bipush (v := -9) hx hb dX7_judge_66 (by decide) ?_
      obtain ⟨z1, z2⟩ := pr_inj h
      subst z1
      subst z2
      exact x_iret C hr hP hD hS dX7_judge_68
    · have h := ifn q1 h
      refine lv_aload_n hx hb dX7_judge_45 rfl (lv_at hl 0 rfl) ?_
      refine lv_iload_n hx hb dX7_judge_46 rfl (lv_at hl 2 rfl) ?_
      refine lv_iload_n hx hb dX7_judge_47 rfl (lv_at hl 1 rfl) ?_
      refine lv_iload_n hx hb dX7_judge_48 rfl (lv_at hl 3 rfl) ?_
      obtain ⟨r3, g2, h⟩ := cl_some h
      refine x_callSi (rest := [.ref (ad 0)]) C hP hD hS (c_X7_figure g2) (va_cwS 3 hts (gS mw27_7 mw27_8 mw1_2 mw27_9) rfl rfl rfl hdS_X7_figure ⟨Nat.le_of_ble_eq_true rfl, Nat.le_of_ble_eq_true rfl⟩) rfl hl.1 rfl (Nat.le_of_ble_eq_true rfl) dX7_judge_49 ⟨Nat.zero_le _, Nat.zero_le _⟩ (fun H locs hP hD hS => ?_)
      obtain ⟨r6, σ5, g4, h⟩ := cs_some h
      refine x_callVi (rest := []) C hP hD hS (c_X7_goesWell_0 g4) (cwV 1 hts (gV mw27_10 mw27_11 mw27_12 mw1_2 mw27_13) rfl rfl rfl hdV_X7_goesWell ⟨Nat.le_of_ble_eq_true rfl, Nat.le_of_ble_eq_true rfl⟩) xw_0 rfl rfl hl.1 rfl (Nat.le_of_ble_eq_true rfl) dX7_judge_52 ⟨Nat.zero_le _, Nat.zero_le _⟩ (fun H locs hP hD hS => ?_)
      refine lv_if_ne (tgt := 60) hx hb dX7_judge_55 (by decide) (fun q7 => ?_) (fun q7 => ?_)
      · have h := ifn q7 h
        obtain ⟨x8, ex8, h⟩ := lt_some h
        refine lv_iinc (v := x8) (lv' := [(3, .int x8), (0, .ref (ad 0)), (1, .int v1), (2, .int v2)]) hx hb dX7_judge_60 hl (k := 3) rfl (by rw [ex8]; rfl) (by decide) rfl (fun ls hl => ?_)
        refine lv_goto (tgt := 40) hx hb dX7_judge_63 (by decide) ?_
        exact ih v1 v2 x8 σ5 h H locs hP hD hS ls (lv_sub hl [1, 2, 3, 0] rfl)
      · have h := ifp q7 h
        refine lv_iload_n hx hb dX7_judge_58 rfl (lv_at hl 3 rfl) ?_
        obtain ⟨z1, z2⟩ := pr_inj h
        subst z1
        subst z2
        exact x_iret C hr hP hD hS dX7_judge_59
set_option maxHeartbeats 4000000 in
set_option maxRecDepth 100000 in
theorem w_X7_judge_0_0 (C : Cx p s m args meth c D cy tT tF A cX7_judge 4 RX7) (hr : meth.sig.returnType = some .int) {r : Int32} {σ' : ES} (a1 : Int32) (a2 : Int32) (σ : ES) (h : b_X7_judge_0_0 a1 a2 σ = some (r, σ')) (H : Heap) (locs : List Loc) (hP : va_P D vwCl (xw cy ad σ) H) (hD : va_D A (xw cy ad σ)) (hS : va_S A s.heap H locs) (ls : Array Slot) (hl : lv_has ls 4 [(0, .ref (ad 0)), (1, .int a1), (2, .int a2)]) : W p l e { frames := 4, cells := 0, slots := 0, locals := 91 } s m args below meth c H locs 0 0 (MQ below (Qi D cy A r (xw cy ad σ')) args s 0 0 A) (F0 m 0 ls []) := by
  obtain ⟨⟨hx, hb, hml, hown, hts⟩, hK, hT, hA, hlk⟩ := id C
  unfold b_X7_judge_0_0 at h
  refine lv_iload_n hx hb dX7_judge_0 rfl (lv_at hl 1 rfl) ?_
  refine lv_iconst (v := 1) hx hb dX7_judge_1 (by decide) ?_
  refine lv_icmp_lt (tgt := 24) hx hb dX7_judge_2 (by decide) (fun q1 => ?_) (fun q1 => ?_)
  · have h := ifp q1 h
    refine lv_bipush (v := -2) hx hb dX7_judge_24 (by decide) ?_
    obtain ⟨z1, z2⟩ := pr_inj h
    subst z1
    subst z2
    exact x_iret C hr hP hD hS dX7_judge_26
  · have h := ifn q1 h
    refine lv_iload_n hx hb dX7_judge_5 rfl (lv_at hl 1 rfl) ?_
    refine lv_bipush (v := 8) hx hb dX7_judge_6 (by decide) ?_
    refine lv_icmp_gt (tgt := 24) hx hb dX7_judge_8 (by decide) (fun q2 => ?_) (fun q2 => ?_)
    · have h := ifp q2 h
      refine lv_bipush (v := -2) hx hb dX7_judge_24 (by decide) ?_
      obtain ⟨z1, z2⟩ := pr_inj h
      subst z1
      subst z2
      exact x_iret C hr hP hD hS dX7_judge_26
    · have h := ifn q2 h
      refine lv_iload_n hx hb dX7_judge_11 rfl (lv_at hl 2 rfl) ?_
      refine lv_if_lt (tgt := 24) hx hb dX7_judge_12 (by decide) (fun q3 => ?_) (fun q3 => ?_)
      · have h := ifp q3 h
        refine lv_bipush (v := -2) hx hb dX7_judge_24 (by decide) ?_
        obtain ⟨z1, z2⟩ := pr_inj h
        subst z1
        subst z2
        exact x_iret C hr hP hD hS dX7_judge_26
      · have h := ifn q3 h
        refine lv_iload_n hx hb dX7_judge_15 rfl (lv_at hl 2 rfl) ?_
        refine x_tens C hS mw27_2 dX7_judge_16 ?_
        refine lv_iload_n hx hb dX7_judge_19 rfl (lv_at hl 1 rfl) ?_
        obtain ⟨g4, x5, ex5, h⟩ := rt_some h
        refine x_tld C hS g4 ex5 dX7_judge_20 ?_
        refine lv_icmp_lt (tgt := 27) hx hb dX7_judge_21 (by decide) (fun q6 => ?_) (fun q6 => ?_)
        · have h := ifp q6 h
          refine lv_aload_n hx hb dX7_judge_27 rfl (lv_at hl 0 rfl) ?_
          refine x_get C hP inlX7 0 xw_0 rfl 2 (by decide) mw1_21 rfl dX7_judge_28 ?_
          refine lv_aload_n hx hb dX7_judge_31 rfl (lv_at hl 0 rfl) ?_
          refine x_get C hP inlX7 0 xw_0 rfl 1 (by decide) mw1_20 rfl dX7_judge_32 ?_
          obtain ⟨σ8, g7, h⟩ := cl_some h
          refine x_callVv (rest := []) C hP hD hS (c_X2_copy_8_3 g7) (cwV 1 hts (gV mw27_3 mw27_4 mw27_5 mw1_19 mw27_6) rfl rfl rfl hdV_X2_copy ⟨Nat.le_of_ble_eq_true rfl, Nat.le_of_ble_eq_true rfl⟩) xw_8 rfl rfl hl.1 rfl (Nat.le_of_ble_eq_true rfl) dX7_judge_35 ⟨Nat.zero_le _, Nat.zero_le _⟩ (fun H locs hP hD hS => ?_)
          refine lv_iconst (v := 0) hx hb dX7_judge_38 (by decide) ?_
          refine lv_istore_n (lv' := [(3, .int (0 : Int32)), (0, .ref (ad 0)), (1, .int a1), (2, .int a2)]) hx hb dX7_judge_39 rfl hl (by decide) rfl (fun ls hl => ?_)
          exact w_X7_judge_0_40 C hr FU a1 a2 (0 : Int32) σ8 h H locs hP hD hS ls (lv_sub hl [1, 2, 3, 0] rfl)
        · have h := ifn q6 h
          refine lv_bipush (v := -2) hx hb dX7_judge_24 (by decide) ?_
          obtain ⟨z1, z2⟩ := pr_inj h
          subst z1
          subst z2
          exact x_iret C hr hP hD hS dX7_judge_26
theorem c_X7_judge_0 {l : Launch} {D : va_G} {cy : Nat → ClassId} {tT tF : Nat} {ad : Nat → Nat} {σ : ES} {a1 : Int32} {a2 : Int32} {r : Int32} {σ' : ES} (h : e_X7_judge_0 a1 a2 σ = some (r, σ')) : CMi l yX7_judge (Cond.code yX7_judge cX7_judge 4 (some .int) :: wsL_law) { frames := 4, cells := 0, slots := 0, locals := 91 } D cy tT tF [.ref (ad 0), .int a1, .int a2] (xw cy ad σ) r (xw cy ad σ') := x_start (Qc := fun A => (Qi D cy A r (xw cy ad σ'))) (by decide) (Nat.le_of_ble_eq_true rfl) (fun p e s m below meth c A ls C hr hP hD hS hl => w_X7_judge_0_0 C hr a1 a2 σ h s.heap [] hP hD hS ls hl)
set_option maxHeartbeats 4000000 in
set_option maxRecDepth 100000 in
theorem w_X7_endsSo_0_44 (C : Cx p s m args meth c D cy tT tF A cX7_endsSo 6 RX7) (hr : meth.sig.returnType = some .boolean) {r : Int32} {σ : ES} {K3 : Int32 → Int32 → Int32 → Int32 → Option (Int32)} (hK3 : ∀ (v1 : Int32) (v2 : Int32) (v3 : Int32) (v4 : Int32), K3 v1 v2 v3 v4 = some r → ∀ (H : Heap) (locs : List Loc), va_P D vwCl (xw cy ad σ) H → va_D A (xw cy ad σ) → va_S A s.heap H locs → ∀ ls : Array Slot, lv_has ls 6 [(0, .ref (ad 0)), (1, .int v1), (2, .int v2), (3, .int v3), (4, .int v4)] → W p l e { frames := 1, cells := 0, slots := 0, locals := 23 } s m args below meth c H locs 0 0 (MQ below (Qi D cy A r (xw cy ad σ)) args s 0 0 A) (F0 m 3 ls [])) (v1 : Int32) (v2 : Int32) (v3 : Int32) (v4 : Int32) (t0 : Int32) (t1 : Int32) (h : b_X7_endsSo_0_44 σ K3 v1 v2 v3 v4 t0 t1 = some r) (H : Heap) (locs : List Loc) (hP : va_P D vwCl (xw cy ad σ) H) (hD : va_D A (xw cy ad σ)) (hS : va_S A s.heap H locs) (ls : Array Slot) (hl : lv_has ls 6 [(0, .ref (ad 0)), (1, .int v1), (2, .int v2), (3, .int v3), (4, .int v4)]) : W p l e { frames := 1, cells := 0, slots := 0, locals := 23 } s m args below meth c H locs 0 0 (MQ below (Qi D cy A r (xw cy ad σ)) args s 0 0 A) (F0 m 44 ls [.int t1, .int t0]) := by
  obtain ⟨⟨hx, hb, hml, hown, hts⟩, hK, hT, hA, hlk⟩ := id C
  unfold b_X7_endsSo_0_44 at h
  refine lv_icmp_eq (tgt := 49) hx hb dX7_endsSo_44 (by decide) (fun q1 => ?_) (fun q1 => ?_)
  · have h := ifp q1 h
    obtain ⟨x2, ex2, h⟩ := lt_some h
    refine lv_iinc (v := x2) (lv' := [(4, .int x2), (0, .ref (ad 0)), (1, .int v1), (2, .int v2), (3, .int v3)]) hx hb dX7_endsSo_49 hl (k := 4) rfl (by rw [ex2]; rfl) (by decide) rfl (fun ls hl => ?_)
    refine lv_goto (tgt := 3) hx hb dX7_endsSo_52 (by decide) ?_
    exact hK3 v1 v2 v3 x2 h H locs hP hD hS ls (lv_sub hl [1, 2, 3, 4, 0] rfl)
  · have h := ifn q1 h
    refine lv_iconst (v := 0) hx hb dX7_endsSo_47 (by decide) ?_
    have z1 := so_inj h
    subst z1
    exact x_zret C hr rfl hP hD hS dX7_endsSo_48
set_option maxHeartbeats 4000000 in
set_option maxRecDepth 100000 in
theorem w_X7_endsSo_0_3 (C : Cx p s m args meth c D cy tT tF A cX7_endsSo 6 RX7) (hr : meth.sig.returnType = some .boolean) {r : Int32} {σ : ES} : ∀ (n : Nat) (v1 : Int32) (v2 : Int32) (v3 : Int32) (v4 : Int32), b_X7_endsSo_0_3 σ n v1 v2 v3 v4 = some r → ∀ (H : Heap) (locs : List Loc) (hP : va_P D vwCl (xw cy ad σ) H) (hD : va_D A (xw cy ad σ)) (hS : va_S A s.heap H locs) (ls : Array Slot) (hl : lv_has ls 6 [(0, .ref (ad 0)), (1, .int v1), (2, .int v2), (3, .int v3), (4, .int v4)]), W p l e { frames := 1, cells := 0, slots := 0, locals := 23 } s m args below meth c H locs 0 0 (MQ below (Qi D cy A r (xw cy ad σ)) args s 0 0 A) (F0 m 3 ls []) := by
  obtain ⟨⟨hx, hb, hml, hown, hts⟩, hK, hT, hA, hlk⟩ := id C
  intro n
  induction n with
  | zero =>
    intro v1 v2 v3 v4 h
    exact no_some h
  | succ n ih =>
    intro v1 v2 v3 v4 h H locs hP hD hS ls hl
    rw [b_X7_endsSo_0_3] at h
    refine lv_iload hx hb dX7_endsSo_3 (lv_at hl 4 rfl) ?_
    refine lv_iload_n hx hb dX7_endsSo_5 rfl (lv_at hl 2 rfl) ?_
    refine lv_icmp_ge (tgt := 55) hx hb dX7_endsSo_6 (by decide) (fun q1 => ?_) (fun q1 => ?_)
    · have h := ifp q1 h
      refine lv_iconst (v := 1) hx hb dX7_endsSo_55 (by decide) ?_
      have z1 := so_inj h
      subst z1
      exact x_zret C hr rfl hP hD hS dX7_endsSo_56
    · have h := ifn q1 h
      refine lv_iload_n hx hb dX7_endsSo_9 rfl (lv_at hl 3 rfl) ?_
      refine lv_iload_n hx hb dX7_endsSo_10 rfl (lv_at hl 2 rfl) ?_
      refine lv_iload hx hb dX7_endsSo_11 (lv_at hl 4 rfl) ?_
      obtain ⟨r3, g2, h⟩ := cl_some h
      refine x_callSi (rest := []) C hP hD hS (c_X7_figure g2) (va_cwS 3 hts (gS mw27_7 mw27_8 mw1_2 mw27_9) rfl rfl rfl hdS_X7_figure ⟨Nat.le_of_ble_eq_true rfl, Nat.le_of_ble_eq_true rfl⟩) rfl hl.1 rfl (Nat.le_of_ble_eq_true rfl) dX7_endsSo_13 ⟨Nat.zero_le _, Nat.zero_le _⟩ (fun H locs hP hD hS => ?_)
      refine lv_istore (lv' := [(5, .int r3), (0, .ref (ad 0)), (1, .int v1), (2, .int v2), (3, .int v3), (4, .int v4)]) hx hb dX7_endsSo_16 hl (by decide) rfl (fun ls hl => ?_)
      refine lv_aload_n hx hb dX7_endsSo_18 rfl (lv_at hl 1 rfl) ?_
      refine x_get C hP inlX7 0 xw_0 rfl 9 (by decide) mw2_21 rfl dX7_endsSo_19 ?_
      refine lv_iload_n hx hb dX7_endsSo_22 rfl (lv_at hl 2 rfl) ?_
      refine lv_iload_n hx hb dX7_endsSo_23 rfl (lv_at hl 3 rfl) ?_
      refine lv_isub hx hb dX7_endsSo_24 ?_
      refine lv_iload hx hb dX7_endsSo_25 (lv_at hl 5 rfl) ?_
      refine lv_iadd hx hb dX7_endsSo_27 ?_
      obtain ⟨r5, g4, h⟩ := cl_some h
      refine x_callVi (rest := []) C hP hD hS (c_X3_giftAt_30 g4) (cwV 1 hts (gV mw12_11 mw12_12 mw12_13 mw2_20 mw12_14) rfl rfl rfl hdV_X3_giftAt ⟨Nat.le_of_ble_eq_true rfl, Nat.le_of_ble_eq_true rfl⟩) xw_30 rfl rfl hl.1 rfl (Nat.le_of_ble_eq_true rfl) dX7_endsSo_28 ⟨Nat.zero_le _, Nat.zero_le _⟩ (fun H locs hP hD hS => ?_)
      refine lv_iload hx hb dX7_endsSo_31 (lv_at hl 0 rfl) ?_
      refine lv_if_ne (tgt := 40) hx hb dX7_endsSo_33 (by decide) (fun q6 => ?_) (fun q6 => ?_)
      · have h := ifn q6 h
        refine lv_iload hx hb dX7_endsSo_40 (lv_at hl 0 rfl) ?_
        refine lv_iconst (v := 1) hx hb dX7_endsSo_42 (by decide) ?_
        refine lv_isub hx hb dX7_endsSo_43 ?_
        exact w_X7_endsSo_0_44 C hr ih v1 v2 v3 v4 r5 (r3 - (1 : Int32)) h H locs hP hD hS ls (lv_sub hl [1, 2, 3, 4, 5] rfl)
      · have h := ifp q6 h
        refine lv_iconst (v := 4) hx hb dX7_endsSo_36 (by decide) ?_
        refine lv_goto (tgt := 44) hx hb dX7_endsSo_37 (by decide) ?_
        exact w_X7_endsSo_0_44 C hr ih v1 v2 v3 v4 r5 (4 : Int32) h H locs hP hD hS ls (lv_sub hl [1, 2, 3, 4, 5] rfl)
set_option maxHeartbeats 4000000 in
set_option maxRecDepth 100000 in
theorem w_X7_endsSo_0_0 (C : Cx p s m args meth c D cy tT tF A cX7_endsSo 6 RX7) (hr : meth.sig.returnType = some .boolean) {r : Int32} {σ : ES} (a1 : Int32) (a2 : Int32) (a3 : Int32) (h : b_X7_endsSo_0_0 σ a1 a2 a3 = some r) (H : Heap) (locs : List Loc) (hP : va_P D vwCl (xw cy ad σ) H) (hD : va_D A (xw cy ad σ)) (hS : va_S A s.heap H locs) (ls : Array Slot) (hl : lv_has ls 6 [(0, .ref (ad 0)), (1, .int a1), (2, .int a2), (3, .int a3)]) : W p l e { frames := 1, cells := 0, slots := 0, locals := 23 } s m args below meth c H locs 0 0 (MQ below (Qi D cy A r (xw cy ad σ)) args s 0 0 A) (F0 m 0 ls []) := by
  obtain ⟨⟨hx, hb, hml, hown, hts⟩, hK, hT, hA, hlk⟩ := id C
  unfold b_X7_endsSo_0_0 at h
  refine lv_iconst (v := 0) hx hb dX7_endsSo_0 (by decide) ?_
  refine lv_istore (lv' := [(4, .int (0 : Int32)), (0, .ref (ad 0)), (1, .int a1), (2, .int a2), (3, .int a3)]) hx hb dX7_endsSo_1 hl (by decide) rfl (fun ls hl => ?_)
  exact w_X7_endsSo_0_3 C hr FU a1 a2 a3 (0 : Int32) h H locs hP hD hS ls (lv_sub hl [1, 2, 3, 4, 0] rfl)
theorem c_X7_endsSo_0 {l : Launch} {D : va_G} {cy : Nat → ClassId} {tT tF : Nat} {ad : Nat → Nat} {a1 : Int32} {a2 : Int32} {a3 : Int32} {r : Int32} {σ : ES} (h : e_X7_endsSo_0 a1 a2 a3 σ = some r) : CMi l yX7_endsSo (Cond.code yX7_endsSo cX7_endsSo 6 (some .boolean) :: wsL_law) { frames := 1, cells := 0, slots := 0, locals := 23 } D cy tT tF [.ref (ad 0), .int a1, .int a2, .int a3] (xw cy ad σ) r (xw cy ad σ) := x_start (Qc := fun A => (Qi D cy A r (xw cy ad σ))) (by decide) (Nat.le_of_ble_eq_true rfl) (fun p e s m below meth c A ls C hr hP hD hS hl => w_X7_endsSo_0_0 C hr a1 a2 a3 h s.heap [] hP hD hS ls hl)
set_option maxHeartbeats 4000000 in
set_option maxRecDepth 100000 in
theorem w_X7_placesEndingSo_0_5 (C : Cx p s m args meth c D cy tT tF A cX7_placesEndingSo 5 RX7) (hr : meth.sig.returnType = some .int) {r : Int32} {σ : ES} : ∀ (n : Nat) (v1 : Int32) (v2 : Int32) (v3 : Int32) (v4 : Int32), b_X7_placesEndingSo_0_5 σ n v1 v2 v3 v4 = some r → ∀ (H : Heap) (locs : List Loc) (hP : va_P D vwCl (xw cy ad σ) H) (hD : va_D A (xw cy ad σ)) (hS : va_S A s.heap H locs) (ls : Array Slot) (hl : lv_has ls 5 [(0, .ref (ad 0)), (1, .int v1), (2, .int v2), (3, .int v3), (4, .int v4)]), W p l e { frames := 2, cells := 0, slots := 0, locals := 48 } s m args below meth c H locs 0 0 (MQ below (Qi D cy A r (xw cy ad σ)) args s 0 0 A) (F0 m 5 ls []) := by
  obtain ⟨⟨hx, hb, hml, hown, hts⟩, hK, hT, hA, hlk⟩ := id C
  intro n
  induction n with
  | zero =>
    intro v1 v2 v3 v4 h
    exact no_some h
  | succ n ih =>
    intro v1 v2 v3 v4 h H locs hP hD hS ls hl
    rw [b_X7_placesEndingSo_0_5] at h
    refine lv_iload hx hb dX7_placesEndingSo_5 (lv_at hl 4 rfl) ?_
    refine lv_aload_n hx hb dX7_placesEndingSo_7 rfl (lv_at hl 0 rfl) ?_
    refine x_get C hP inlX7 0 xw_0 rfl 9 (by decide) mw2_21 rfl dX7_placesEndingSo_8 ?_
    refine x_get C hP inlX3 30 xw_30 rfl 8 (by decide) mw12_10 rfl dX7_placesEndingSo_11 ?_
    refine lv_icmp_gt (tgt := 37) hx hb dX7_placesEndingSo_14 (by decide) (fun q1 => ?_) (fun q1 => ?_)
    · have h := ifp q1 h
      refine lv_iload_n hx hb dX7_placesEndingSo_37 rfl (lv_at hl 3 rfl) ?_
      have z1 := so_inj h
      subst z1
      exact x_iret C hr hP hD hS dX7_placesEndingSo_38
    · have h := ifn q1 h
      refine lv_aload_n hx hb dX7_placesEndingSo_17 rfl (lv_at hl 0 rfl) ?_
      refine lv_iload hx hb dX7_placesEndingSo_18 (lv_at hl 4 rfl) ?_
      refine lv_iload_n hx hb dX7_placesEndingSo_20 rfl (lv_at hl 1 rfl) ?_
      refine lv_iload_n hx hb dX7_placesEndingSo_21 rfl (lv_at hl 2 rfl) ?_
      obtain ⟨r3, g2, h⟩ := cl_some h
      refine x_callVi (rest := []) C hP hD hS (c_X7_endsSo_0 g2) (cwV 3 hts (gV mw28_9 mw28_10 mw28_11 mw1_2 mw28_12) rfl rfl rfl hdV_X7_endsSo ⟨Nat.le_of_ble_eq_true rfl, Nat.le_of_ble_eq_true rfl⟩) xw_0 rfl rfl hl.1 rfl (Nat.le_of_ble_eq_true rfl) dX7_placesEndingSo_22 ⟨Nat.zero_le _, Nat.zero_le _⟩ (fun H locs hP hD hS => ?_)
      refine lv_if_eq (tgt := 31) hx hb dX7_placesEndingSo_25 (by decide) (fun q4 => ?_) (fun q4 => ?_)
      · have h := ifp q4 h
        obtain ⟨x5, ex5, h⟩ := lt_some h
        refine lv_iinc (v := x5) (lv' := [(4, .int x5), (0, .ref (ad 0)), (1, .int v1), (2, .int v2), (3, .int v3)]) hx hb dX7_placesEndingSo_31 hl (k := 4) rfl (by rw [ex5]; rfl) (by decide) rfl (fun ls hl => ?_)
        refine lv_goto (tgt := 5) hx hb dX7_placesEndingSo_34 (by decide) ?_
        exact ih v1 v2 v3 x5 h H locs hP hD hS ls (lv_sub hl [1, 2, 3, 4, 0] rfl)
      · have h := ifn q4 h
        obtain ⟨x6, ex6, h⟩ := lt_some h
        refine lv_iinc (v := x6) (lv' := [(3, .int x6), (0, .ref (ad 0)), (1, .int v1), (2, .int v2), (4, .int v4)]) hx hb dX7_placesEndingSo_28 hl (k := 3) rfl (by rw [ex6]; rfl) (by decide) rfl (fun ls hl => ?_)
        obtain ⟨x7, ex7, h⟩ := lt_some h
        refine lv_iinc (v := x7) (lv' := [(4, .int x7), (3, .int x6), (0, .ref (ad 0)), (1, .int v1), (2, .int v2)]) hx hb dX7_placesEndingSo_31 hl (k := 4) rfl (by rw [ex7]; rfl) (by decide) rfl (fun ls hl => ?_)
        refine lv_goto (tgt := 5) hx hb dX7_placesEndingSo_34 (by decide) ?_
        exact ih v1 v2 x6 x7 h H locs hP hD hS ls (lv_sub hl [2, 3, 4, 1, 0] rfl)
set_option maxHeartbeats 4000000 in
set_option maxRecDepth 100000 in
theorem w_X7_placesEndingSo_0_0 (C : Cx p s m args meth c D cy tT tF A cX7_placesEndingSo 5 RX7) (hr : meth.sig.returnType = some .int) {r : Int32} {σ : ES} (a1 : Int32) (a2 : Int32) (h : b_X7_placesEndingSo_0_0 σ a1 a2 = some r) (H : Heap) (locs : List Loc) (hP : va_P D vwCl (xw cy ad σ) H) (hD : va_D A (xw cy ad σ)) (hS : va_S A s.heap H locs) (ls : Array Slot) (hl : lv_has ls 5 [(0, .ref (ad 0)), (1, .int a1), (2, .int a2)]) : W p l e { frames := 2, cells := 0, slots := 0, locals := 48 } s m args below meth c H locs 0 0 (MQ below (Qi D cy A r (xw cy ad σ)) args s 0 0 A) (F0 m 0 ls []) := by
  obtain ⟨⟨hx, hb, hml, hown, hts⟩, hK, hT, hA, hlk⟩ := id C
  unfold b_X7_placesEndingSo_0_0 at h
  refine lv_iconst (v := 0) hx hb dX7_placesEndingSo_0 (by decide) ?_
  refine lv_istore_n (lv' := [(3, .int (0 : Int32)), (0, .ref (ad 0)), (1, .int a1), (2, .int a2)]) hx hb dX7_placesEndingSo_1 rfl hl (by decide) rfl (fun ls hl => ?_)
  refine lv_iload_n hx hb dX7_placesEndingSo_2 rfl (lv_at hl 2 rfl) ?_
  refine lv_istore (lv' := [(4, .int a1), (3, .int (0 : Int32)), (0, .ref (ad 0)), (1, .int a1), (2, .int a2)]) hx hb dX7_placesEndingSo_3 hl (by decide) rfl (fun ls hl => ?_)
  exact w_X7_placesEndingSo_0_5 C hr FU a1 a2 (0 : Int32) a1 h H locs hP hD hS ls (lv_sub hl [2, 3, 4, 1, 0] rfl)
theorem c_X7_placesEndingSo_0 {l : Launch} {D : va_G} {cy : Nat → ClassId} {tT tF : Nat} {ad : Nat → Nat} {a1 : Int32} {a2 : Int32} {r : Int32} {σ : ES} (h : e_X7_placesEndingSo_0 a1 a2 σ = some r) : CMi l yX7_placesEndingSo (Cond.code yX7_placesEndingSo cX7_placesEndingSo 5 (some .int) :: wsL_law) { frames := 2, cells := 0, slots := 0, locals := 48 } D cy tT tF [.ref (ad 0), .int a1, .int a2] (xw cy ad σ) r (xw cy ad σ) := x_start (Qc := fun A => (Qi D cy A r (xw cy ad σ))) (by decide) (Nat.le_of_ble_eq_true rfl) (fun p e s m below meth c A ls C hr hP hD hS hl => w_X7_placesEndingSo_0_0 C hr a1 a2 h s.heap [] hP hD hS ls hl)
set_option maxHeartbeats 4000000 in
set_option maxRecDepth 100000 in
theorem w_X7_candlesEndingSo_0_5 (C : Cx p s m args meth c D cy tT tF A cX7_candlesEndingSo 5 RX7) (hr : meth.sig.returnType = some .int) {r : Int32} {σ : ES} : ∀ (n : Nat) (v1 : Int32) (v2 : Int32) (v3 : Int32) (v4 : Int32), b_X7_candlesEndingSo_0_5 σ n v1 v2 v3 v4 = some r → ∀ (H : Heap) (locs : List Loc) (hP : va_P D vwCl (xw cy ad σ) H) (hD : va_D A (xw cy ad σ)) (hS : va_S A s.heap H locs) (ls : Array Slot) (hl : lv_has ls 5 [(0, .ref (ad 0)), (1, .int v1), (2, .int v2), (3, .int v3), (4, .int v4)]), W p l e { frames := 2, cells := 0, slots := 0, locals := 48 } s m args below meth c H locs 0 0 (MQ below (Qi D cy A r (xw cy ad σ)) args s 0 0 A) (F0 m 5 ls []) := by
  obtain ⟨⟨hx, hb, hml, hown, hts⟩, hK, hT, hA, hlk⟩ := id C
  intro n
  induction n with
  | zero =>
    intro v1 v2 v3 v4 h
    exact no_some h
  | succ n ih =>
    intro v1 v2 v3 v4 h H locs hP hD hS ls hl
    rw [b_X7_candlesEndingSo_0_5] at h
    refine lv_iload hx hb dX7_candlesEndingSo_5 (lv_at hl 4 rfl) ?_
    refine lv_aload_n hx hb dX7_candlesEndingSo_7 rfl (lv_at hl 0 rfl) ?_
    refine x_get C hP inlX7 0 xw_0 rfl 9 (by decide) mw2_21 rfl dX7_candlesEndingSo_8 ?_
    refine x_get C hP inlX3 30 xw_30 rfl 9 (by decide) mw11_11 rfl dX7_candlesEndingSo_11 ?_
    refine lv_icmp_ge (tgt := 74) hx hb dX7_candlesEndingSo_14 (by decide) (fun q1 => ?_) (fun q1 => ?_)
    · have h := ifp q1 h
      refine lv_iload_n hx hb dX7_candlesEndingSo_74 rfl (lv_at hl 3 rfl) ?_
      have z1 := so_inj h
      subst z1
      exact x_iret C hr hP hD hS dX7_candlesEndingSo_75
    · have h := ifn q1 h
      refine lv_aload_n hx hb dX7_candlesEndingSo_17 rfl (lv_at hl 0 rfl) ?_
      refine x_get C hP inlX7 0 xw_0 rfl 9 (by decide) mw2_21 rfl dX7_candlesEndingSo_18 ?_
      refine x_get C hP inlX3 30 xw_30 rfl 2 (by decide) mw28_7 rfl dX7_candlesEndingSo_21 ?_
      refine lv_iload hx hb dX7_candlesEndingSo_24 (lv_at hl 4 rfl) ?_
      obtain ⟨g2, x3, ex3, h⟩ := rd_some h
      refine x_ild C hP 33 xw_33 g2 ex3 dX7_candlesEndingSo_26 ?_
      refine lv_iload_n hx hb dX7_candlesEndingSo_27 rfl (lv_at hl 1 rfl) ?_
      refine lv_icmp_lt (tgt := 68) hx hb dX7_candlesEndingSo_28 (by decide) (fun q4 => ?_) (fun q4 => ?_)
      · have h := ifp q4 h
        obtain ⟨x5, ex5, h⟩ := lt_some h
        refine lv_iinc (v := x5) (lv' := [(4, .int x5), (0, .ref (ad 0)), (1, .int v1), (2, .int v2), (3, .int v3)]) hx hb dX7_candlesEndingSo_68 hl (k := 4) rfl (by rw [ex5]; rfl) (by decide) rfl (fun ls hl => ?_)
        refine lv_goto (tgt := 5) hx hb dX7_candlesEndingSo_71 (by decide) ?_
        exact ih v1 v2 v3 x5 h H locs hP hD hS ls (lv_sub hl [1, 2, 3, 4, 0] rfl)
      · have h := ifn q4 h
        refine lv_aload_n hx hb dX7_candlesEndingSo_31 rfl (lv_at hl 0 rfl) ?_
        refine lv_aload_n hx hb dX7_candlesEndingSo_32 rfl (lv_at hl 0 rfl) ?_
        refine x_get C hP inlX7 0 xw_0 rfl 9 (by decide) mw2_21 rfl dX7_candlesEndingSo_33 ?_
        refine x_get C hP inlX3 30 xw_30 rfl 1 (by decide) mw28_8 rfl dX7_candlesEndingSo_36 ?_
        refine lv_iload hx hb dX7_candlesEndingSo_39 (lv_at hl 4 rfl) ?_
        obtain ⟨g6, x7, ex7, h⟩ := rd_some h
        refine x_ild C hP 32 xw_32 g6 ex7 dX7_candlesEndingSo_41 ?_
        refine lv_aload_n hx hb dX7_candlesEndingSo_42 rfl (lv_at hl 0 rfl) ?_
        refine x_get C hP inlX7 0 xw_0 rfl 9 (by decide) mw2_21 rfl dX7_candlesEndingSo_43 ?_
        refine x_get C hP inlX3 30 xw_30 rfl 2 (by decide) mw28_7 rfl dX7_candlesEndingSo_46 ?_
        refine lv_iload hx hb dX7_candlesEndingSo_49 (lv_at hl 4 rfl) ?_
        obtain ⟨g8, x9, ex9, h⟩ := rd_some h
        refine x_ild C hP 33 xw_33 g8 ex9 dX7_candlesEndingSo_51 ?_
        refine lv_iadd hx hb dX7_candlesEndingSo_52 ?_
        refine lv_iload_n hx hb dX7_candlesEndingSo_53 rfl (lv_at hl 1 rfl) ?_
        refine lv_iload_n hx hb dX7_candlesEndingSo_54 rfl (lv_at hl 2 rfl) ?_
        obtain ⟨r11, g10, h⟩ := cl_some h
        refine x_callVi (rest := []) C hP hD hS (c_X7_endsSo_0 g10) (cwV 3 hts (gV mw28_9 mw28_10 mw28_11 mw1_2 mw28_12) rfl rfl rfl hdV_X7_endsSo ⟨Nat.le_of_ble_eq_true rfl, Nat.le_of_ble_eq_true rfl⟩) xw_0 rfl rfl hl.1 rfl (Nat.le_of_ble_eq_true rfl) dX7_candlesEndingSo_55 ⟨Nat.zero_le _, Nat.zero_le _⟩ (fun H locs hP hD hS => ?_)
        refine lv_if_eq (tgt := 68) hx hb dX7_candlesEndingSo_58 (by decide) (fun q12 => ?_) (fun q12 => ?_)
        · have h := ifp q12 h
          obtain ⟨x13, ex13, h⟩ := lt_some h
          refine lv_iinc (v := x13) (lv' := [(4, .int x13), (0, .ref (ad 0)), (1, .int v1), (2, .int v2), (3, .int v3)]) hx hb dX7_candlesEndingSo_68 hl (k := 4) rfl (by rw [ex13]; rfl) (by decide) rfl (fun ls hl => ?_)
          refine lv_goto (tgt := 5) hx hb dX7_candlesEndingSo_71 (by decide) ?_
          exact ih v1 v2 v3 x13 h H locs hP hD hS ls (lv_sub hl [1, 2, 3, 4, 0] rfl)
        · have h := ifn q12 h
          refine lv_iload_n hx hb dX7_candlesEndingSo_61 rfl (lv_at hl 3 rfl) ?_
          refine lv_iconst (v := 1) hx hb dX7_candlesEndingSo_62 (by decide) ?_
          refine lv_iload hx hb dX7_candlesEndingSo_63 (lv_at hl 4 rfl) ?_
          refine lv_ishl hx hb dX7_candlesEndingSo_65 ?_
          refine lv_ior hx hb dX7_candlesEndingSo_66 ?_
          obtain ⟨x14, ex14, h⟩ := lt_some h
          refine x_ti ex14 ?_
          refine lv_istore_n (lv' := [(3, .int x14), (0, .ref (ad 0)), (1, .int v1), (2, .int v2), (4, .int v4)]) hx hb dX7_candlesEndingSo_67 rfl hl (by decide) rfl (fun ls hl => ?_)
          obtain ⟨x15, ex15, h⟩ := lt_some h
          refine lv_iinc (v := x15) (lv' := [(4, .int x15), (3, .int x14), (0, .ref (ad 0)), (1, .int v1), (2, .int v2)]) hx hb dX7_candlesEndingSo_68 hl (k := 4) rfl (by rw [ex15]; rfl) (by decide) rfl (fun ls hl => ?_)
          refine lv_goto (tgt := 5) hx hb dX7_candlesEndingSo_71 (by decide) ?_
          exact ih v1 v2 x14 x15 h H locs hP hD hS ls (lv_sub hl [2, 3, 4, 1, 0] rfl)
set_option maxHeartbeats 4000000 in
set_option maxRecDepth 100000 in
theorem w_X7_candlesEndingSo_0_0 (C : Cx p s m args meth c D cy tT tF A cX7_candlesEndingSo 5 RX7) (hr : meth.sig.returnType = some .int) {r : Int32} {σ : ES} (a1 : Int32) (a2 : Int32) (h : b_X7_candlesEndingSo_0_0 σ a1 a2 = some r) (H : Heap) (locs : List Loc) (hP : va_P D vwCl (xw cy ad σ) H) (hD : va_D A (xw cy ad σ)) (hS : va_S A s.heap H locs) (ls : Array Slot) (hl : lv_has ls 5 [(0, .ref (ad 0)), (1, .int a1), (2, .int a2)]) : W p l e { frames := 2, cells := 0, slots := 0, locals := 48 } s m args below meth c H locs 0 0 (MQ below (Qi D cy A r (xw cy ad σ)) args s 0 0 A) (F0 m 0 ls []) := by
  obtain ⟨⟨hx, hb, hml, hown, hts⟩, hK, hT, hA, hlk⟩ := id C
  unfold b_X7_candlesEndingSo_0_0 at h
  refine lv_iconst (v := 0) hx hb dX7_candlesEndingSo_0 (by decide) ?_
  refine lv_istore_n (lv' := [(3, .int (0 : Int32)), (0, .ref (ad 0)), (1, .int a1), (2, .int a2)]) hx hb dX7_candlesEndingSo_1 rfl hl (by decide) rfl (fun ls hl => ?_)
  refine lv_iconst (v := 0) hx hb dX7_candlesEndingSo_2 (by decide) ?_
  refine lv_istore (lv' := [(4, .int (0 : Int32)), (3, .int (0 : Int32)), (0, .ref (ad 0)), (1, .int a1), (2, .int a2)]) hx hb dX7_candlesEndingSo_3 hl (by decide) rfl (fun ls hl => ?_)
  exact w_X7_candlesEndingSo_0_5 C hr FU a1 a2 (0 : Int32) (0 : Int32) h H locs hP hD hS ls (lv_sub hl [2, 3, 4, 1, 0] rfl)
theorem c_X7_candlesEndingSo_0 {l : Launch} {D : va_G} {cy : Nat → ClassId} {tT tF : Nat} {ad : Nat → Nat} {a1 : Int32} {a2 : Int32} {r : Int32} {σ : ES} (h : e_X7_candlesEndingSo_0 a1 a2 σ = some r) : CMi l yX7_candlesEndingSo (Cond.code yX7_candlesEndingSo cX7_candlesEndingSo 5 (some .int) :: wsL_law) { frames := 2, cells := 0, slots := 0, locals := 48 } D cy tT tF [.ref (ad 0), .int a1, .int a2] (xw cy ad σ) r (xw cy ad σ) := x_start (Qc := fun A => (Qi D cy A r (xw cy ad σ))) (by decide) (Nat.le_of_ble_eq_true rfl) (fun p e s m below meth c A ls C hr hP hD hS hl => w_X7_candlesEndingSo_0_0 C hr a1 a2 h s.heap [] hP hD hS ls hl)
set_option maxHeartbeats 4000000 in
set_option maxRecDepth 100000 in
theorem w_X7_stub_0_29 (C : Cx p s m args meth c D cy tT tF A cX7_stub 5 RX7) (hr : meth.sig.returnType = some .int) {r : Int32} {σ : ES} : ∀ (n : Nat) (v1 : Int32) (v2 : Int32) (v3 : Int32) (v4 : Int32), b_X7_stub_0_29 σ n v1 v2 v3 v4 = some r → ∀ (H : Heap) (locs : List Loc) (hP : va_P D vwCl (xw cy ad σ) H) (hD : va_D A (xw cy ad σ)) (hS : va_S A s.heap H locs) (ls : Array Slot) (hl : lv_has ls 5 [(0, .ref (ad 0)), (1, .int v1), (2, .int v2), (3, .int v3), (4, .int v4)]), W p l e { frames := 3, cells := 0, slots := 0, locals := 72 } s m args below meth c H locs 0 0 (MQ below (Qi D cy A r (xw cy ad σ)) args s 0 0 A) (F0 m 29 ls []) := by
  obtain ⟨⟨hx, hb, hml, hown, hts⟩, hK, hT, hA, hlk⟩ := id C
  intro n
  induction n with
  | zero =>
    intro v1 v2 v3 v4 h
    exact no_some h
  | succ n ih =>
    intro v1 v2 v3 v4 h H locs hP hD hS ls hl
    rw [b_X7_stub_0_29] at h
    refine lv_iload hx hb dX7_stub_29 (lv_at hl 4 rfl) ?_
    refine lv_iload_n hx hb dX7_stub_31 rfl (lv_at hl 1 rfl) ?_
    refine lv_icmp_ge (tgt := 55) hx hb dX7_stub_32 (by decide) (fun q1 => ?_) (fun q1 => ?_)
    · have h := ifp q1 h
      refine lv_iload_n hx hb dX7_stub_55 rfl (lv_at hl 3 rfl) ?_
      refine lv_if_eq (tgt := 68) hx hb dX7_stub_56 (by decide) (fun q2 => ?_) (fun q2 => ?_)
      · have h := ifp q2 h
        refine lv_aload_n hx hb dX7_stub_68 rfl (lv_at hl 0 rfl) ?_
        refine lv_iload_n hx hb dX7_stub_69 rfl (lv_at hl 1 rfl) ?_
        refine lv_iload_n hx hb dX7_stub_70 rfl (lv_at hl 2 rfl) ?_
        obtain ⟨r4, g3, h⟩ := cl_some h
        refine x_callVi (rest := []) C hP hD hS (c_X7_placesEndingSo_0 g3) (cwV 2 hts (gV mw28_13 mw28_14 mw28_15 mw1_2 mw28_16) rfl rfl rfl hdV_X7_placesEndingSo ⟨Nat.le_of_ble_eq_true rfl, Nat.le_of_ble_eq_true rfl⟩) xw_0 rfl rfl hl.1 rfl (Nat.le_of_ble_eq_true rfl) dX7_stub_71 ⟨Nat.zero_le _, Nat.zero_le _⟩ (fun H locs hP hD hS => ?_)
        have z1 := so_inj h
        subst z1
        exact x_iret C hr hP hD hS dX7_stub_74
      · have h := ifn q2 h
        refine lv_aload_n hx hb dX7_stub_59 rfl (lv_at hl 0 rfl) ?_
        refine lv_iload_n hx hb dX7_stub_60 rfl (lv_at hl 1 rfl) ?_
        refine lv_iload_n hx hb dX7_stub_61 rfl (lv_at hl 2 rfl) ?_
        obtain ⟨r6, g5, h⟩ := cl_some h
        refine x_callVi (rest := []) C hP hD hS (c_X7_candlesEndingSo_0 g5) (cwV 2 hts (gV mw28_3 mw28_4 mw28_5 mw1_2 mw28_6) rfl rfl rfl hdV_X7_candlesEndingSo ⟨Nat.le_of_ble_eq_true rfl, Nat.le_of_ble_eq_true rfl⟩) xw_0 rfl rfl hl.1 rfl (Nat.le_of_ble_eq_true rfl) dX7_stub_62 ⟨Nat.zero_le _, Nat.zero_le _⟩ (fun H locs hP hD hS => ?_)
        refine lv_goto (tgt := 74) hx hb dX7_stub_65 (by decide) ?_
        have z1 := so_inj h
        subst z1
        exact x_iret C hr hP hD hS dX7_stub_74
    · have h := ifn q1 h
      refine lv_iload_n hx hb dX7_stub_35 rfl (lv_at hl 2 rfl) ?_
      refine lv_iload_n hx hb dX7_stub_36 rfl (lv_at hl 1 rfl) ?_
      refine lv_iload hx hb dX7_stub_37 (lv_at hl 4 rfl) ?_
      obtain ⟨r8, g7, h⟩ := cl_some h
      refine x_callSi (rest := []) C hP hD hS (c_X7_figure g7) (va_cwS 3 hts (gS mw27_7 mw27_8 mw1_2 mw27_9) rfl rfl rfl hdS_X7_figure ⟨Nat.le_of_ble_eq_true rfl, Nat.le_of_ble_eq_true rfl⟩) rfl hl.1 rfl (Nat.le_of_ble_eq_true rfl) dX7_stub_39 ⟨Nat.zero_le _, Nat.zero_le _⟩ (fun H locs hP hD hS => ?_)
      refine lv_iconst (v := 4) hx hb dX7_stub_42 (by decide) ?_
      refine lv_icmp_le (tgt := 49) hx hb dX7_stub_43 (by decide) (fun q9 => ?_) (fun q9 => ?_)
      · have h := ifp q9 h
        obtain ⟨x10, ex10, h⟩ := lt_some h
        refine lv_iinc (v := x10) (lv' := [(4, .int x10), (0, .ref (ad 0)), (1, .int v1), (2, .int v2), (3, .int v3)]) hx hb dX7_stub_49 hl (k := 4) rfl (by rw [ex10]; rfl) (by decide) rfl (fun ls hl => ?_)
        refine lv_goto (tgt := 29) hx hb dX7_stub_52 (by decide) ?_
        exact ih v1 v2 v3 x10 h H locs hP hD hS ls (lv_sub hl [1, 2, 3, 4, 0] rfl)
      · have h := ifn q9 h
        refine lv_bipush (v := -2) hx hb dX7_stub_46 (by decide) ?_
        have z1 := so_inj h
        subst z1
        exact x_iret C hr hP hD hS dX7_stub_48
set_option maxHeartbeats 4000000 in
set_option maxRecDepth 100000 in
theorem w_X7_stub_0_0 (C : Cx p s m args meth c D cy tT tF A cX7_stub 5 RX7) (hr : meth.sig.returnType = some .int) {r : Int32} {σ : ES} (a1 : Int32) (a2 : Int32) (a3 : Int32) (h : b_X7_stub_0_0 σ a1 a2 a3 = some r) (H : Heap) (locs : List Loc) (hP : va_P D vwCl (xw cy ad σ) H) (hD : va_D A (xw cy ad σ)) (hS : va_S A s.heap H locs) (ls : Array Slot) (hl : lv_has ls 5 [(0, .ref (ad 0)), (1, .int a1), (2, .int a2), (3, .int a3)]) : W p l e { frames := 3, cells := 0, slots := 0, locals := 72 } s m args below meth c H locs 0 0 (MQ below (Qi D cy A r (xw cy ad σ)) args s 0 0 A) (F0 m 0 ls []) := by
  obtain ⟨⟨hx, hb, hml, hown, hts⟩, hK, hT, hA, hlk⟩ := id C
  unfold b_X7_stub_0_0 at h
  refine lv_iload_n hx hb dX7_stub_0 rfl (lv_at hl 1 rfl) ?_
  refine lv_iconst (v := 1) hx hb dX7_stub_1 (by decide) ?_
  refine lv_icmp_lt (tgt := 23) hx hb dX7_stub_2 (by decide) (fun q1 => ?_) (fun q1 => ?_)
  · have h := ifp q1 h
    refine lv_bipush (v := -2) hx hb dX7_stub_23 (by decide) ?_
    have z1 := so_inj h
    subst z1
    exact x_iret C hr hP hD hS dX7_stub_25
  · have h := ifn q1 h
    refine lv_iload_n hx hb dX7_stub_5 rfl (lv_at hl 1 rfl) ?_
    refine lv_iconst (v := 3) hx hb dX7_stub_6 (by decide) ?_
    refine lv_icmp_gt (tgt := 23) hx hb dX7_stub_7 (by decide) (fun q2 => ?_) (fun q2 => ?_)
    · have h := ifp q2 h
      refine lv_bipush (v := -2) hx hb dX7_stub_23 (by decide) ?_
      have z1 := so_inj h
      subst z1
      exact x_iret C hr hP hD hS dX7_stub_25
    · have h := ifn q2 h
      refine lv_iload_n hx hb dX7_stub_10 rfl (lv_at hl 2 rfl) ?_
      refine lv_if_lt (tgt := 23) hx hb dX7_stub_11 (by decide) (fun q3 => ?_) (fun q3 => ?_)
      · have h := ifp q3 h
        refine lv_bipush (v := -2) hx hb dX7_stub_23 (by decide) ?_
        have z1 := so_inj h
        subst z1
        exact x_iret C hr hP hD hS dX7_stub_25
      · have h := ifn q3 h
        refine lv_iload_n hx hb dX7_stub_14 rfl (lv_at hl 2 rfl) ?_
        refine x_tens C hS mw27_2 dX7_stub_15 ?_
        refine lv_iload_n hx hb dX7_stub_18 rfl (lv_at hl 1 rfl) ?_
        obtain ⟨g4, x5, ex5, h⟩ := rt_some h
        refine x_tld C hS g4 ex5 dX7_stub_19 ?_
        refine lv_icmp_lt (tgt := 26) hx hb dX7_stub_20 (by decide) (fun q6 => ?_) (fun q6 => ?_)
        · have h := ifp q6 h
          refine lv_iconst (v := 0) hx hb dX7_stub_26 (by decide) ?_
          refine lv_istore (lv' := [(4, .int (0 : Int32)), (0, .ref (ad 0)), (1, .int a1), (2, .int a2), (3, .int a3)]) hx hb dX7_stub_27 hl (by decide) rfl (fun ls hl => ?_)
          exact w_X7_stub_0_29 C hr FU a1 a2 a3 (0 : Int32) h H locs hP hD hS ls (lv_sub hl [1, 2, 3, 4, 0] rfl)
        · have h := ifn q6 h
          refine lv_bipush (v := -2) hx hb dX7_stub_23 (by decide) ?_
          have z1 := so_inj h
          subst z1
          exact x_iret C hr hP hD hS dX7_stub_25
theorem c_X7_stub_0 {l : Launch} {D : va_G} {cy : Nat → ClassId} {tT tF : Nat} {ad : Nat → Nat} {a1 : Int32} {a2 : Int32} {a3 : Int32} {r : Int32} {σ : ES} (h : e_X7_stub_0 a1 a2 a3 σ = some r) : CMi l yX7_stub (Cond.code yX7_stub cX7_stub 5 (some .int) :: wsL_law) { frames := 3, cells := 0, slots := 0, locals := 72 } D cy tT tF [.ref (ad 0), .int a1, .int a2, .int a3] (xw cy ad σ) r (xw cy ad σ) := x_start (Qc := fun A => (Qi D cy A r (xw cy ad σ))) (by decide) (Nat.le_of_ble_eq_true rfl) (fun p e s m below meth c A ls C hr hP hD hS hl => w_X7_stub_0_0 C hr a1 a2 a3 h s.heap [] hP hD hS ls hl)
set_option maxHeartbeats 4000000 in
set_option maxRecDepth 100000 in
theorem w_X1_add_24_0 (C : Cx p s m args meth c D cy tT tF A cX1_add 2 RX1) (hr : meth.sig.returnType = some .int) {r : Int32} {σ' : ES} (a1 : Int32) (σ : ES) (h : b_X1_add_24_0 a1 σ = some (r, σ')) (H : Heap) (locs : List Loc) (hP : va_P D vwCl (xw cy ad σ) H) (hD : va_D A (xw cy ad σ)) (hS : va_S A s.heap H locs) (ls : Array Slot) (hl : lv_has ls 2 [(0, .ref (ad 24)), (1, .int a1)]) : W p l e { frames := 0, cells := 0, slots := 0, locals := 0 } s m args below meth c H locs 0 0 (MQ below (Qi D cy A r (xw cy ad σ')) args s 0 0 A) (F0 m 0 ls []) := by
  obtain ⟨⟨hx, hb, hml, hown, hts⟩, hK, hT, hA, hlk⟩ := id C
  unfold b_X1_add_24_0 at h
  refine lv_aload_n hx hb dX1_add_0 rfl (lv_at hl 0 rfl) ?_
  refine x_get C hP inlX1 24 xw_24 rfl 1 (by decide) mw4_21 rfl dX1_add_1 ?_
  refine lv_bipush (v := 6) hx hb dX1_add_4 (by decide) ?_
  refine lv_icmp_lt (tgt := 12) hx hb dX1_add_6 (by decide) (fun q1 => ?_) (fun q1 => ?_)
  · have h := ifp q1 h
    refine lv_aload_n hx hb dX1_add_12 rfl (lv_at hl 0 rfl) ?_
    refine x_get C hP inlX1 24 xw_24 rfl 0 (by decide) mw4_20 rfl dX1_add_13 ?_
    refine lv_aload_n hx hb dX1_add_16 rfl (lv_at hl 0 rfl) ?_
    refine x_get C hP inlX1 24 xw_24 rfl 1 (by decide) mw4_21 rfl dX1_add_17 ?_
    refine lv_iload_n hx hb dX1_add_20 rfl (lv_at hl 1 rfl) ?_
    obtain ⟨g2, σ3, eσ3, h⟩ := wr_some h
    refine x_ist C hP hD hS 25 xw_25 g2 (xa_25 eσ3) dX1_add_21 (fun H locs hP hD hS => ?_)
    refine lv_aload_n hx hb dX1_add_22 rfl (lv_at hl 0 rfl) ?_
    refine lv_dup hx hb dX1_add_23 rfl ?_
    refine x_get C hP inlX1 24 xw_24 rfl 1 (by decide) mw4_21 rfl dX1_add_24 ?_
    refine lv_iconst (v := 1) hx hb dX1_add_27 (by decide) ?_
    refine lv_iadd hx hb dX1_add_28 ?_
    obtain ⟨σ4, eσ4, h⟩ := lt_some h
    refine x_put C hP hD hS inlX1 tyX1 tyX1_ok nmX1 24 xw_24 rfl 1 (by decide) mw4_21 rfl rfl rfl (Nat.le_of_ble_eq_true rfl) (xs_24_1 eσ4) dX1_add_29 (fun H locs hP hD hS => ?_)
    refine lv_aload_n hx hb dX1_add_32 rfl (lv_at hl 0 rfl) ?_
    refine x_get C hP inlX1 24 xw_24 rfl 1 (by decide) mw4_21 rfl dX1_add_33 ?_
    obtain ⟨z1, z2⟩ := pr_inj h
    subst z1
    subst z2
    exact x_iret C hr hP hD hS dX1_add_36
  · have h := ifn q1 h
    refine lv_bipush (v := -4) hx hb dX1_add_9 (by decide) ?_
    obtain ⟨z1, z2⟩ := pr_inj h
    subst z1
    subst z2
    exact x_iret C hr hP hD hS dX1_add_11
theorem c_X1_add_24 {l : Launch} {D : va_G} {cy : Nat → ClassId} {tT tF : Nat} {ad : Nat → Nat} {σ : ES} {a1 : Int32} {r : Int32} {σ' : ES} (h : e_X1_add_24 a1 σ = some (r, σ')) : CMi l yX1_add (Cond.code yX1_add cX1_add 2 (some .int) :: wsL_law) { frames := 0, cells := 0, slots := 0, locals := 0 } D cy tT tF [.ref (ad 24), .int a1] (xw cy ad σ) r (xw cy ad σ') := x_start (Qc := fun A => (Qi D cy A r (xw cy ad σ'))) (by decide) (Nat.le_of_ble_eq_true rfl) (fun p e s m below meth c A ls C hr hP hD hS hl => w_X1_add_24_0 C hr a1 σ h s.heap [] hP hD hS ls hl)
set_option maxHeartbeats 4000000 in
set_option maxRecDepth 100000 in
theorem w_X7_see_0_0 (C : Cx p s m args meth c D cy tT tF A cX7_see 2 RX7) (hr : meth.sig.returnType = some .int) {r : Int32} {σ' : ES} (a1 : Int32) (σ : ES) (h : b_X7_see_0_0 a1 σ = some (r, σ')) (H : Heap) (locs : List Loc) (hP : va_P D vwCl (xw cy ad σ) H) (hD : va_D A (xw cy ad σ)) (hS : va_S A s.heap H locs) (ls : Array Slot) (hl : lv_has ls 2 [(0, .ref (ad 0)), (1, .int a1)]) : W p l e { frames := 1, cells := 0, slots := 0, locals := 21 } s m args below meth c H locs 0 0 (MQ below (Qi D cy A r (xw cy ad σ')) args s 0 0 A) (F0 m 0 ls []) := by
  obtain ⟨⟨hx, hb, hml, hown, hts⟩, hK, hT, hA, hlk⟩ := id C
  unfold b_X7_see_0_0 at h
  refine lv_iload_n hx hb dX7_see_0 rfl (lv_at hl 1 rfl) ?_
  refine lv_if_lt (tgt := 9) hx hb dX7_see_1 (by decide) (fun q1 => ?_) (fun q1 => ?_)
  · have h := ifp q1 h
    refine lv_bipush (v := -2) hx hb dX7_see_9 (by decide) ?_
    obtain ⟨z1, z2⟩ := pr_inj h
    subst z1
    subst z2
    exact x_iret C hr hP hD hS dX7_see_11
  · have h := ifn q1 h
    refine lv_iload_n hx hb dX7_see_4 rfl (lv_at hl 1 rfl) ?_
    refine lv_iconst (v := 4) hx hb dX7_see_5 (by decide) ?_
    refine lv_icmp_le (tgt := 12) hx hb dX7_see_6 (by decide) (fun q2 => ?_) (fun q2 => ?_)
    · have h := ifp q2 h
      refine lv_aload_n hx hb dX7_see_12 rfl (lv_at hl 0 rfl) ?_
      refine x_get C hP inlX7 0 xw_0 rfl 5 (by decide) mw2_9 rfl dX7_see_13 ?_
      refine lv_iload_n hx hb dX7_see_16 rfl (lv_at hl 1 rfl) ?_
      obtain ⟨r5, σ4, g3, h⟩ := cs_some h
      refine x_callVi (rest := []) C hP hD hS (c_X1_add_24 g3) (cwV 1 hts (gV mw29_6 mw29_7 mw29_8 mw2_8 mw29_9) rfl rfl rfl hdV_X1_add ⟨Nat.le_of_ble_eq_true rfl, Nat.le_of_ble_eq_true rfl⟩) xw_24 rfl rfl hl.1 rfl (Nat.le_of_ble_eq_true rfl) dX7_see_17 ⟨Nat.zero_le _, Nat.zero_le _⟩ (fun H locs hP hD hS => ?_)
      obtain ⟨z1, z2⟩ := pr_inj h
      subst z1
      subst z2
      exact x_iret C hr hP hD hS dX7_see_20
    · have h := ifn q2 h
      refine lv_bipush (v := -2) hx hb dX7_see_9 (by decide) ?_
      obtain ⟨z1, z2⟩ := pr_inj h
      subst z1
      subst z2
      exact x_iret C hr hP hD hS dX7_see_11
theorem c_X7_see_0 {l : Launch} {D : va_G} {cy : Nat → ClassId} {tT tF : Nat} {ad : Nat → Nat} {σ : ES} {a1 : Int32} {r : Int32} {σ' : ES} (h : e_X7_see_0 a1 σ = some (r, σ')) : CMi l yX7_see (Cond.code yX7_see cX7_see 2 (some .int) :: wsL_law) { frames := 1, cells := 0, slots := 0, locals := 21 } D cy tT tF [.ref (ad 0), .int a1] (xw cy ad σ) r (xw cy ad σ') := x_start (Qc := fun A => (Qi D cy A r (xw cy ad σ'))) (by decide) (Nat.le_of_ble_eq_true rfl) (fun p e s m below meth c A ls C hr hP hD hS hl => w_X7_see_0_0 C hr a1 σ h s.heap [] hP hD hS ls hl)
set_option maxHeartbeats 4000000 in
set_option maxRecDepth 100000 in
theorem w_X1_clear_24_0 (C : Cx p s m args meth c D cy tT tF A cX1_clear 2 RX1) (hr : meth.sig.returnType = some .int) {r : Int32} {σ' : ES} (σ : ES) (h : b_X1_clear_24_0 σ = some (r, σ')) (H : Heap) (locs : List Loc) (hP : va_P D vwCl (xw cy ad σ) H) (hD : va_D A (xw cy ad σ)) (hS : va_S A s.heap H locs) (ls : Array Slot) (hl : lv_has ls 2 [(0, .ref (ad 24))]) : W p l e { frames := 0, cells := 0, slots := 0, locals := 0 } s m args below meth c H locs 0 0 (MQ below (Qi D cy A r (xw cy ad σ')) args s 0 0 A) (F0 m 0 ls []) := by
  obtain ⟨⟨hx, hb, hml, hown, hts⟩, hK, hT, hA, hlk⟩ := id C
  unfold b_X1_clear_24_0 at h
  refine lv_aload_n hx hb dX1_clear_0 rfl (lv_at hl 0 rfl) ?_
  refine x_get C hP inlX1 24 xw_24 rfl 1 (by decide) mw4_21 rfl dX1_clear_1 ?_
  obtain ⟨x1, ex1, h⟩ := lt_some h
  refine x_ti ex1 ?_
  refine lv_istore_n (lv' := [(1, .int x1), (0, .ref (ad 24))]) hx hb dX1_clear_4 rfl hl (by decide) rfl (fun ls hl => ?_)
  refine lv_aload_n hx hb dX1_clear_5 rfl (lv_at hl 1 rfl) ?_
  refine lv_iconst (v := 0) hx hb dX1_clear_6 (by decide) ?_
  obtain ⟨σ2, eσ2, h⟩ := lt_some h
  refine x_put C hP hD hS inlX1 tyX1 tyX1_ok nmX1 24 xw_24 rfl 1 (by decide) mw4_21 rfl rfl rfl (Nat.le_of_ble_eq_true rfl) (xs_24_1 eσ2) dX1_clear_7 (fun H locs hP hD hS => ?_)
  refine lv_iload_n hx hb dX1_clear_10 rfl (lv_at hl 0 rfl) ?_
  obtain ⟨z1, z2⟩ := pr_inj h
  subst z1
  subst z2
  exact x_iret C hr hP hD hS dX1_clear_11
theorem c_X1_clear_24 {l : Launch} {D : va_G} {cy : Nat → ClassId} {tT tF : Nat} {ad : Nat → Nat} {σ : ES} {r : Int32} {σ' : ES} (h : e_X1_clear_24  σ = some (r, σ')) : CMi l yX1_clear (Cond.code yX1_clear cX1_clear 2 (some .int) :: wsL_law) { frames := 0, cells := 0, slots := 0, locals := 0 } D cy tT tF [.ref (ad 24)] (xw cy ad σ) r (xw cy ad σ') := x_start (Qc := fun A => (Qi D cy A r (xw cy ad σ'))) (by decide) (Nat.le_of_ble_eq_true rfl) (fun p e s m below meth c A ls C hr hP hD hS hl => w_X1_clear_24_0 C hr  σ h s.heap [] hP hD hS ls hl)
set_option maxHeartbeats 4000000 in
set_option maxRecDepth 100000 in
theorem w_X7_unsee_0_0 (C : Cx p s m args meth c D cy tT tF A cX7_unsee 1 RX7) (hr : meth.sig.returnType = some .int) {r : Int32} {σ' : ES} (σ : ES) (h : b_X7_unsee_0_0 σ = some (r, σ')) (H : Heap) (locs : List Loc) (hP : va_P D vwCl (xw cy ad σ) H) (hD : va_D A (xw cy ad σ)) (hS : va_S A s.heap H locs) (ls : Array Slot) (hl : lv_has ls 1 [(0, .ref (ad 0))]) : W p l e { frames := 1, cells := 0, slots := 0, locals := 21 } s m args below meth c H locs 0 0 (MQ below (Qi D cy A r (xw cy ad σ')) args s 0 0 A) (F0 m 0 ls []) := by
  obtain ⟨⟨hx, hb, hml, hown, hts⟩, hK, hT, hA, hlk⟩ := id C
  unfold b_X7_unsee_0_0 at h
  refine lv_aload_n hx hb dX7_unsee_0 rfl (lv_at hl 0 rfl) ?_
  refine x_get C hP inlX7 0 xw_0 rfl 5 (by decide) mw2_9 rfl dX7_unsee_1 ?_
  obtain ⟨r3, σ2, g1, h⟩ := cs_some h
  refine x_callVi (rest := []) C hP hD hS (c_X1_clear_24 g1) (cwV 0 hts (gV mw29_20 mw29_21 mw29_22 mw2_8 mw29_23) rfl rfl rfl hdV_X1_clear ⟨Nat.le_of_ble_eq_true rfl, Nat.le_of_ble_eq_true rfl⟩) xw_24 rfl rfl hl.1 rfl (Nat.le_of_ble_eq_true rfl) dX7_unsee_4 ⟨Nat.zero_le _, Nat.zero_le _⟩ (fun H locs hP hD hS => ?_)
  obtain ⟨z1, z2⟩ := pr_inj h
  subst z1
  subst z2
  exact x_iret C hr hP hD hS dX7_unsee_7
theorem c_X7_unsee_0 {l : Launch} {D : va_G} {cy : Nat → ClassId} {tT tF : Nat} {ad : Nat → Nat} {σ : ES} {r : Int32} {σ' : ES} (h : e_X7_unsee_0  σ = some (r, σ')) : CMi l yX7_unsee (Cond.code yX7_unsee cX7_unsee 1 (some .int) :: wsL_law) { frames := 1, cells := 0, slots := 0, locals := 21 } D cy tT tF [.ref (ad 0)] (xw cy ad σ) r (xw cy ad σ') := x_start (Qc := fun A => (Qi D cy A r (xw cy ad σ'))) (by decide) (Nat.le_of_ble_eq_true rfl) (fun p e s m below meth c A ls C hr hP hD hS hl => w_X7_unsee_0_0 C hr  σ h s.heap [] hP hD hS ls hl)
end WK10

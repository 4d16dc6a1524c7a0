section WK7
variable {p : Program} {l : Launch} {e : Env} {R : Room} {s : State} {m : MethodId} {args : Array Value} {below : List Frame} {meth : Method} {c : Code} {D : va_G} {cy : Nat → ClassId} {tT tF : Nat} {A : Nat → Prop} {ad : Nat → Nat} {ws : va_W}
set_option maxHeartbeats 4000000 in
set_option maxRecDepth 100000 in
theorem w_X2_saveTo_3_14_72 (C : Cx p s m args meth c D cy tT tF A cX2_saveTo 4 RX2) (hr : meth.sig.returnType = none) {σ' : ES} : ∀ (n : Nat) (v2 : Int32) (v3 : Int32) (σ : ES), b_X2_saveTo_3_14_72 n v2 v3 σ = some σ' → ∀ (H : Heap) (locs : List Loc) (hP : va_P D vwCl (xw cy ad σ) H) (hD : va_D A (xw cy ad σ)) (hS : va_S A s.heap H locs) (ls : Array Slot) (hl : lv_has ls 4 [(0, .ref (ad 3)), (1, .ref (ad 14)), (2, .int v2), (3, .int v3)]), W p l e { frames := 0, cells := 0, slots := 0, locals := 0 } s m args below meth c H locs 0 0 (MQ below (Qv D cy A (xw cy ad σ')) args s 0 0 A) (F0 m 72 ls []) := by
  obtain ⟨⟨hx, hb, hml, hown, hts⟩, hK, hT, hA, hlk⟩ := id C
  intro n
  induction n with
  | zero =>
    intro v2 v3 σ h
    exact no_some h
  | succ n ih =>
    intro v2 v3 σ h H locs hP hD hS ls hl
    rw [b_X2_saveTo_3_14_72] at h
    refine lv_iload_n hx hb dX2_saveTo_72 rfl (lv_at hl 3 rfl) ?_
    refine lv_iconst (v := 4) hx hb dX2_saveTo_73 (by decide) ?_
    refine lv_icmp_ge (tgt := 97) hx hb dX2_saveTo_74 (by decide) (fun q1 => ?_) (fun q1 => ?_)
    · have h := ifp q1 h
      refine lv_aload_n hx hb dX2_saveTo_97 rfl (lv_at hl 1 rfl) ?_
      refine lv_iload_n hx hb dX2_saveTo_98 rfl (lv_at hl 2 rfl) ?_
      refine lv_bipush (v := 18) hx hb dX2_saveTo_99 (by decide) ?_
      refine lv_iadd hx hb dX2_saveTo_101 ?_
      refine lv_iconst (v := 2) hx hb dX2_saveTo_102 (by decide) ?_
      refine lv_isub hx hb dX2_saveTo_103 ?_
      refine lv_aload_n hx hb dX2_saveTo_104 rfl (lv_at hl 0 rfl) ?_
      refine x_get C hP inlX2 3 xw_3 rfl 4 (by decide) mw3_14 rfl dX2_saveTo_105 ?_
      obtain ⟨g2, σ3, eσ3, h⟩ := wr_some h
      refine x_ist C hP hD hS 14 xw_14 g2 (xa_14 eσ3) dX2_saveTo_108 (fun H locs hP hD hS => ?_)
      refine lv_aload_n hx hb dX2_saveTo_109 rfl (lv_at hl 1 rfl) ?_
      refine lv_iload_n hx hb dX2_saveTo_110 rfl (lv_at hl 2 rfl) ?_
      refine lv_bipush (v := 18) hx hb dX2_saveTo_111 (by decide) ?_
      refine lv_iadd hx hb dX2_saveTo_113 ?_
      refine lv_iconst (v := 1) hx hb dX2_saveTo_114 (by decide) ?_
      refine lv_isub hx hb dX2_saveTo_115 ?_
      refine lv_aload_n hx hb dX2_saveTo_116 rfl (lv_at hl 0 rfl) ?_
      refine x_get C hP inlX2 3 xw_3 rfl 5 (by decide) mw3_15 rfl dX2_saveTo_117 ?_
      obtain ⟨g4, σ5, eσ5, h⟩ := wr_some h
      refine x_ist C hP hD hS 14 xw_14 g4 (xa_14 eσ5) dX2_saveTo_120 (fun H locs hP hD hS => ?_)
      have z1 := so_inj h
      subst z1
      exact x_vret C hr hP hD hS dX2_saveTo_121
    · have h := ifn q1 h
      refine lv_aload_n hx hb dX2_saveTo_77 rfl (lv_at hl 1 rfl) ?_
      refine lv_iload_n hx hb dX2_saveTo_78 rfl (lv_at hl 2 rfl) ?_
      refine lv_bipush (v := 12) hx hb dX2_saveTo_79 (by decide) ?_
      refine lv_iadd hx hb dX2_saveTo_81 ?_
      refine lv_iload_n hx hb dX2_saveTo_82 rfl (lv_at hl 3 rfl) ?_
      refine lv_iadd hx hb dX2_saveTo_83 ?_
      refine lv_aload_n hx hb dX2_saveTo_84 rfl (lv_at hl 0 rfl) ?_
      refine x_get C hP inlX2 3 xw_3 rfl 3 (by decide) mw3_13 rfl dX2_saveTo_85 ?_
      refine lv_iload_n hx hb dX2_saveTo_88 rfl (lv_at hl 3 rfl) ?_
      obtain ⟨g6, x7, ex7, h⟩ := rd_some h
      refine x_ild C hP 7 xw_7 g6 ex7 dX2_saveTo_89 ?_
      obtain ⟨g8, σ9, eσ9, h⟩ := wr_some h
      refine x_ist C hP hD hS 14 xw_14 g8 (xa_14 eσ9) dX2_saveTo_90 (fun H locs hP hD hS => ?_)
      obtain ⟨x10, ex10, h⟩ := lt_some h
      refine lv_iinc (v := x10) (lv' := [(3, .int x10), (0, .ref (ad 3)), (1, .ref (ad 14)), (2, .int v2)]) hx hb dX2_saveTo_91 hl (k := 3) rfl (by rw [ex10]; rfl) (by decide) rfl (fun ls hl => ?_)
      refine lv_goto (tgt := 72) hx hb dX2_saveTo_94 (by decide) ?_
      exact ih v2 x10 σ9 h H locs hP hD hS ls (lv_sub hl [1, 2, 3, 0] rfl)
set_option maxHeartbeats 4000000 in
set_option maxRecDepth 100000 in
theorem w_X2_saveTo_3_14_16 (C : Cx p s m args meth c D cy tT tF A cX2_saveTo 4 RX2) (hr : meth.sig.returnType = none) {σ' : ES} : ∀ (n : Nat) (v2 : Int32) (v3 : Int32) (σ : ES), b_X2_saveTo_3_14_16 n v2 v3 σ = some σ' → ∀ (H : Heap) (locs : List Loc) (hP : va_P D vwCl (xw cy ad σ) H) (hD : va_D A (xw cy ad σ)) (hS : va_S A s.heap H locs) (ls : Array Slot) (hl : lv_has ls 4 [(0, .ref (ad 3)), (1, .ref (ad 14)), (2, .int v2), (3, .int v3)]), W p l e { frames := 0, cells := 0, slots := 0, locals := 0 } s m args below meth c H locs 0 0 (MQ below (Qv D cy A (xw cy ad σ')) args s 0 0 A) (F0 m 16 ls []) := by
  obtain ⟨⟨hx, hb, hml, hown, hts⟩, hK, hT, hA, hlk⟩ := id C
  intro n
  induction n with
  | zero =>
    intro v2 v3 σ h
    exact no_some h
  | succ n ih =>
    intro v2 v3 σ h H locs hP hD hS ls hl
    rw [b_X2_saveTo_3_14_16] at h
    refine lv_iload_n hx hb dX2_saveTo_16 rfl (lv_at hl 3 rfl) ?_
    refine lv_iconst (v := 4) hx hb dX2_saveTo_17 (by decide) ?_
    refine lv_icmp_ge (tgt := 70) hx hb dX2_saveTo_18 (by decide) (fun q1 => ?_) (fun q1 => ?_)
    · have h := ifp q1 h
      refine lv_iconst (v := 0) hx hb dX2_saveTo_70 (by decide) ?_
      refine lv_istore_n (lv' := [(3, .int (0 : Int32)), (0, .ref (ad 3)), (1, .ref (ad 14)), (2, .int v2)]) hx hb dX2_saveTo_71 rfl hl (by decide) rfl (fun ls hl => ?_)
      exact w_X2_saveTo_3_14_72 C hr FU v2 (0 : Int32) σ h H locs hP hD hS ls (lv_sub hl [1, 2, 3, 0] rfl)
    · have h := ifn q1 h
      refine lv_aload_n hx hb dX2_saveTo_21 rfl (lv_at hl 1 rfl) ?_
      refine lv_iload_n hx hb dX2_saveTo_22 rfl (lv_at hl 2 rfl) ?_
      refine lv_iconst (v := 3) hx hb dX2_saveTo_23 (by decide) ?_
      refine lv_iload_n hx hb dX2_saveTo_24 rfl (lv_at hl 3 rfl) ?_
      refine lv_imul hx hb dX2_saveTo_25 ?_
      refine lv_iadd hx hb dX2_saveTo_26 ?_
      refine lv_aload_n hx hb dX2_saveTo_27 rfl (lv_at hl 0 rfl) ?_
      refine x_get C hP inlX2 3 xw_3 rfl 0 (by decide) mw3_10 rfl dX2_saveTo_28 ?_
      refine lv_iload_n hx hb dX2_saveTo_31 rfl (lv_at hl 3 rfl) ?_
      obtain ⟨g2, x3, ex3, h⟩ := rd_some h
      refine x_ild C hP 4 xw_4 g2 ex3 dX2_saveTo_32 ?_
      obtain ⟨g4, σ5, eσ5, h⟩ := wr_some h
      refine x_ist C hP hD hS 14 xw_14 g4 (xa_14 eσ5) dX2_saveTo_33 (fun H locs hP hD hS => ?_)
      refine lv_aload_n hx hb dX2_saveTo_34 rfl (lv_at hl 1 rfl) ?_
      refine lv_iload_n hx hb dX2_saveTo_35 rfl (lv_at hl 2 rfl) ?_
      refine lv_iconst (v := 3) hx hb dX2_saveTo_36 (by decide) ?_
      refine lv_iload_n hx hb dX2_saveTo_37 rfl (lv_at hl 3 rfl) ?_
      refine lv_imul hx hb dX2_saveTo_38 ?_
      refine lv_iadd hx hb dX2_saveTo_39 ?_
      refine lv_iconst (v := 1) hx hb dX2_saveTo_40 (by decide) ?_
      refine lv_iadd hx hb dX2_saveTo_41 ?_
      refine lv_aload_n hx hb dX2_saveTo_42 rfl (lv_at hl 0 rfl) ?_
      refine x_get C hP inlX2 3 xw_3 rfl 1 (by decide) mw3_11 rfl dX2_saveTo_43 ?_
      refine lv_iload_n hx hb dX2_saveTo_46 rfl (lv_at hl 3 rfl) ?_
      obtain ⟨g6, x7, ex7, h⟩ := rd_some h
      refine x_ild C hP 5 xw_5 g6 ex7 dX2_saveTo_47 ?_
      obtain ⟨g8, σ9, eσ9, h⟩ := wr_some h
      refine x_ist C hP hD hS 14 xw_14 g8 (xa_14 eσ9) dX2_saveTo_48 (fun H locs hP hD hS => ?_)
      refine lv_aload_n hx hb dX2_saveTo_49 rfl (lv_at hl 1 rfl) ?_
      refine lv_iload_n hx hb dX2_saveTo_50 rfl (lv_at hl 2 rfl) ?_
      refine lv_iconst (v := 3) hx hb dX2_saveTo_51 (by decide) ?_
      refine lv_iload_n hx hb dX2_saveTo_52 rfl (lv_at hl 3 rfl) ?_
      refine lv_imul hx hb dX2_saveTo_53 ?_
      refine lv_iadd hx hb dX2_saveTo_54 ?_
      refine lv_iconst (v := 2) hx hb dX2_saveTo_55 (by decide) ?_
      refine lv_iadd hx hb dX2_saveTo_56 ?_
      refine lv_aload_n hx hb dX2_saveTo_57 rfl (lv_at hl 0 rfl) ?_
      refine x_get C hP inlX2 3 xw_3 rfl 2 (by decide) mw3_12 rfl dX2_saveTo_58 ?_
      refine lv_iload_n hx hb dX2_saveTo_61 rfl (lv_at hl 3 rfl) ?_
      obtain ⟨g10, x11, ex11, h⟩ := rd_some h
      refine x_ild C hP 6 xw_6 g10 ex11 dX2_saveTo_62 ?_
      obtain ⟨g12, σ13, eσ13, h⟩ := wr_some h
      refine x_ist C hP hD hS 14 xw_14 g12 (xa_14 eσ13) dX2_saveTo_63 (fun H locs hP hD hS => ?_)
      obtain ⟨x14, ex14, h⟩ := lt_some h
      refine lv_iinc (v := x14) (lv' := [(3, .int x14), (0, .ref (ad 3)), (1, .ref (ad 14)), (2, .int v2)]) hx hb dX2_saveTo_64 hl (k := 3) rfl (by rw [ex14]; rfl) (by decide) rfl (fun ls hl => ?_)
      refine lv_goto (tgt := 16) hx hb dX2_saveTo_67 (by decide) ?_
      exact ih v2 x14 σ13 h H locs hP hD hS ls (lv_sub hl [1, 2, 3, 0] rfl)
set_option maxHeartbeats 4000000 in
set_option maxRecDepth 100000 in
theorem w_X2_saveTo_3_14_0 (C : Cx p s m args meth c D cy tT tF A cX2_saveTo 4 RX2) (hr : meth.sig.returnType = none) {σ' : ES} (a2 : Int32) (σ : ES) (h : b_X2_saveTo_3_14_0 a2 σ = some σ') (H : Heap) (locs : List Loc) (hP : va_P D vwCl (xw cy ad σ) H) (hD : va_D A (xw cy ad σ)) (hS : va_S A s.heap H locs) (ls : Array Slot) (hl : lv_has ls 4 [(0, .ref (ad 3)), (1, .ref (ad 14)), (2, .int a2)]) : W p l e { frames := 0, cells := 0, slots := 0, locals := 0 } s m args below meth c H locs 0 0 (MQ below (Qv D cy A (xw cy ad σ')) args s 0 0 A) (F0 m 0 ls []) := by
  obtain ⟨⟨hx, hb, hml, hown, hts⟩, hK, hT, hA, hlk⟩ := id C
  unfold b_X2_saveTo_3_14_0 at h
  refine lv_iload_n hx hb dX2_saveTo_0 rfl (lv_at hl 2 rfl) ?_
  refine lv_if_lt (tgt := 13) hx hb dX2_saveTo_1 (by decide) (fun q1 => ?_) (fun q1 => ?_)
  · have h := ifp q1 h
    have z1 := so_inj h
    subst z1
    exact x_vret C hr hP hD hS dX2_saveTo_13
  · have h := ifn q1 h
    refine lv_iload_n hx hb dX2_saveTo_4 rfl (lv_at hl 2 rfl) ?_
    refine lv_bipush (v := 18) hx hb dX2_saveTo_5 (by decide) ?_
    refine lv_iadd hx hb dX2_saveTo_7 ?_
    refine lv_aload_n hx hb dX2_saveTo_8 rfl (lv_at hl 1 rfl) ?_
    refine x_alen C hP 14 xw_14 (v := 288) rfl dX2_saveTo_9 ?_
    refine lv_icmp_le (tgt := 14) hx hb dX2_saveTo_10 (by decide) (fun q2 => ?_) (fun q2 => ?_)
    · have h := ifp q2 h
      refine lv_iconst (v := 0) hx hb dX2_saveTo_14 (by decide) ?_
      refine lv_istore_n (lv' := [(3, .int (0 : Int32)), (0, .ref (ad 3)), (1, .ref (ad 14)), (2, .int a2)]) hx hb dX2_saveTo_15 rfl hl (by decide) rfl (fun ls hl => ?_)
      exact w_X2_saveTo_3_14_16 C hr FU a2 (0 : Int32) σ h H locs hP hD hS ls (lv_sub hl [1, 2, 3, 0] rfl)
    · have h := ifn q2 h
      have z1 := so_inj h
      subst z1
      exact x_vret C hr hP hD hS dX2_saveTo_13
theorem c_X2_saveTo_3_14 {l : Launch} {D : va_G} {cy : Nat → ClassId} {tT tF : Nat} {ad : Nat → Nat} {σ : ES} {a2 : Int32} {σ' : ES} (h : e_X2_saveTo_3_14 a2 σ = some σ') : CMv l yX2_saveTo (Cond.code yX2_saveTo cX2_saveTo 4 none :: wsL_law) { frames := 0, cells := 0, slots := 0, locals := 0 } D cy tT tF [.ref (ad 3), .ref (ad 14), .int a2] (xw cy ad σ) (xw cy ad σ') := x_start (Qc := fun A => (Qv D cy A (xw cy ad σ'))) (by decide) (Nat.le_of_ble_eq_true rfl) (fun p e s m below meth c A ls C hr hP hD hS hl => w_X2_saveTo_3_14_0 C hr a2 σ h s.heap [] hP hD hS ls hl)
set_option maxHeartbeats 4000000 in
set_option maxRecDepth 100000 in
theorem w_X0_add_13_3_32 (C : Cx p s m args meth c D cy tT tF A cX0_add 2 RX0) (hr : meth.sig.returnType = none) {σ' : ES} (σ : ES) (h : b_X0_add_13_3_32 σ = some σ') (H : Heap) (locs : List Loc) (hP : va_P D vwCl (xw cy ad σ) H) (hD : va_D A (xw cy ad σ)) (hS : va_S A s.heap H locs) (ls : Array Slot) (hl : lv_has ls 2 [(0, .ref (ad 13)), (1, .ref (ad 3))]) : W p l e { frames := 1, cells := 0, slots := 0, locals := 23 } s m args below meth c H locs 0 0 (MQ below (Qv D cy A (xw cy ad σ')) args s 0 0 A) (F0 m 32 ls []) := by
  obtain ⟨⟨hx, hb, hml, hown, hts⟩, hK, hT, hA, hlk⟩ := id C
  unfold b_X0_add_13_3_32 at h
  refine lv_aload_n hx hb dX0_add_32 rfl (lv_at hl 1 rfl) ?_
  refine lv_aload_n hx hb dX0_add_33 rfl (lv_at hl 0 rfl) ?_
  refine x_get C hP inlX0 13 xw_13 rfl 0 (by decide) mw3_20 rfl dX0_add_34 ?_
  refine lv_aload_n hx hb dX0_add_37 rfl (lv_at hl 0 rfl) ?_
  refine x_get C hP inlX0 13 xw_13 rfl 1 (by decide) mw3_21 rfl dX0_add_38 ?_
  refine lv_aload_n hx hb dX0_add_41 rfl (lv_at hl 0 rfl) ?_
  refine x_get C hP inlX0 13 xw_13 rfl 2 (by decide) mw3_22 rfl dX0_add_42 ?_
  refine lv_iadd hx hb dX0_add_45 ?_
  refine lv_bipush (v := 16) hx hb dX0_add_46 (by decide) ?_
  refine lv_irem hx hb dX0_add_48 (by decide) ?_
  refine lv_bipush (v := 18) hx hb dX0_add_49 (by decide) ?_
  refine lv_imul hx hb dX0_add_51 ?_
  obtain ⟨σ2, g1, h⟩ := cl_some h
  refine x_callVv (rest := []) C hP hD hS (c_X2_saveTo_3_14 g1) (cwV 2 hts (gV mw15_10 mw15_11 mw15_12 mw1_19 mw15_13) rfl rfl rfl hdV_X2_saveTo ⟨Nat.le_of_ble_eq_true rfl, Nat.le_of_ble_eq_true rfl⟩) xw_3 rfl rfl hl.1 rfl (Nat.le_of_ble_eq_true rfl) dX0_add_52 ⟨Nat.zero_le _, Nat.zero_le _⟩ (fun H locs hP hD hS => ?_)
  refine lv_aload_n hx hb dX0_add_55 rfl (lv_at hl 0 rfl) ?_
  refine lv_dup hx hb dX0_add_56 rfl ?_
  refine x_get C hP inlX0 13 xw_13 rfl 2 (by decide) mw3_22 rfl dX0_add_57 ?_
  refine lv_iconst (v := 1) hx hb dX0_add_60 (by decide) ?_
  refine lv_iadd hx hb dX0_add_61 ?_
  obtain ⟨σ3, eσ3, h⟩ := lt_some h
  refine x_put C hP hD hS inlX0 tyX0 tyX0_ok nmX0 13 xw_13 rfl 2 (by decide) mw3_22 rfl rfl rfl (Nat.le_of_ble_eq_true rfl) (xs_13_2 eσ3) dX0_add_62 (fun H locs hP hD hS => ?_)
  have z1 := so_inj h
  subst z1
  exact x_vret C hr hP hD hS dX0_add_65
set_option maxHeartbeats 4000000 in
set_option maxRecDepth 100000 in
theorem w_X0_add_13_3_0 (C : Cx p s m args meth c D cy tT tF A cX0_add 2 RX0) (hr : meth.sig.returnType = none) {σ' : ES} (σ : ES) (h : b_X0_add_13_3_0 σ = some σ') (H : Heap) (locs : List Loc) (hP : va_P D vwCl (xw cy ad σ) H) (hD : va_D A (xw cy ad σ)) (hS : va_S A s.heap H locs) (ls : Array Slot) (hl : lv_has ls 2 [(0, .ref (ad 13)), (1, .ref (ad 3))]) : W p l e { frames := 1, cells := 0, slots := 0, locals := 23 } s m args below meth c H locs 0 0 (MQ below (Qv D cy A (xw cy ad σ')) args s 0 0 A) (F0 m 0 ls []) := by
  obtain ⟨⟨hx, hb, hml, hown, hts⟩, hK, hT, hA, hlk⟩ := id C
  unfold b_X0_add_13_3_0 at h
  refine lv_aload_n hx hb dX0_add_0 rfl (lv_at hl 0 rfl) ?_
  refine x_get C hP inlX0 13 xw_13 rfl 2 (by decide) mw3_22 rfl dX0_add_1 ?_
  refine lv_bipush (v := 16) hx hb dX0_add_4 (by decide) ?_
  refine lv_icmp_ne (tgt := 32) hx hb dX0_add_6 (by decide) (fun q1 => ?_) (fun q1 => ?_)
  · have h := ifn q1 h
    exact w_X0_add_13_3_32 C hr σ h H locs hP hD hS ls (lv_sub hl [0, 1] rfl)
  · have h := ifp q1 h
    refine lv_aload_n hx hb dX0_add_9 rfl (lv_at hl 0 rfl) ?_
    refine lv_aload_n hx hb dX0_add_10 rfl (lv_at hl 0 rfl) ?_
    refine x_get C hP inlX0 13 xw_13 rfl 1 (by decide) mw3_21 rfl dX0_add_11 ?_
    refine lv_iconst (v := 1) hx hb dX0_add_14 (by decide) ?_
    refine lv_iadd hx hb dX0_add_15 ?_
    refine lv_bipush (v := 16) hx hb dX0_add_16 (by decide) ?_
    refine lv_irem hx hb dX0_add_18 (by decide) ?_
    obtain ⟨σ2, eσ2, h⟩ := lt_some h
    refine x_put C hP hD hS inlX0 tyX0 tyX0_ok nmX0 13 xw_13 rfl 1 (by decide) mw3_21 rfl rfl rfl (Nat.le_of_ble_eq_true rfl) (xs_13_1 eσ2) dX0_add_19 (fun H locs hP hD hS => ?_)
    refine lv_aload_n hx hb dX0_add_22 rfl (lv_at hl 0 rfl) ?_
    refine lv_dup hx hb dX0_add_23 rfl ?_
    refine x_get C hP inlX0 13 xw_13 rfl 2 (by decide) mw3_22 rfl dX0_add_24 ?_
    refine lv_iconst (v := 1) hx hb dX0_add_27 (by decide) ?_
    refine lv_isub hx hb dX0_add_28 ?_
    obtain ⟨σ3, eσ3, h⟩ := lt_some h
    refine x_put C hP hD hS inlX0 tyX0 tyX0_ok nmX0 13 xw_13 rfl 2 (by decide) mw3_22 rfl rfl rfl (Nat.le_of_ble_eq_true rfl) (xs_13_2 eσ3) dX0_add_29 (fun H locs hP hD hS => ?_)
    exact w_X0_add_13_3_32 C hr σ3 h H locs hP hD hS ls (lv_sub hl [0, 1] rfl)
theorem c_X0_add_13_3 {l : Launch} {D : va_G} {cy : Nat → ClassId} {tT tF : Nat} {ad : Nat → Nat} {σ : ES} {σ' : ES} (h : e_X0_add_13_3  σ = some σ') : CMv l yX0_add (Cond.code yX0_add cX0_add 2 none :: wsL_law) { frames := 1, cells := 0, slots := 0, locals := 23 } D cy tT tF [.ref (ad 13), .ref (ad 3)] (xw cy ad σ) (xw cy ad σ') := x_start (Qc := fun A => (Qv D cy A (xw cy ad σ'))) (by decide) (Nat.le_of_ble_eq_true rfl) (fun p e s m below meth c A ls C hr hP hD hS hl => w_X0_add_13_3_0 C hr  σ h s.heap [] hP hD hS ls hl)
set_option maxHeartbeats 4000000 in
set_option maxRecDepth 100000 in
theorem w_X7_rememberAct_0_0 (C : Cx p s m args meth c D cy tT tF A cX7_rememberAct 1 RX7) (hr : meth.sig.returnType = none) {σ' : ES} (σ : ES) (h : b_X7_rememberAct_0_0 σ = some σ') (H : Heap) (locs : List Loc) (hP : va_P D vwCl (xw cy ad σ) H) (hD : va_D A (xw cy ad σ)) (hS : va_S A s.heap H locs) (ls : Array Slot) (hl : lv_has ls 1 [(0, .ref (ad 0))]) : W p l e { frames := 2, cells := 0, slots := 0, locals := 44 } s m args below meth c H locs 0 0 (MQ below (Qv D cy A (xw cy ad σ')) args s 0 0 A) (F0 m 0 ls []) := by
  obtain ⟨⟨hx, hb, hml, hown, hts⟩, hK, hT, hA, hlk⟩ := id C
  unfold b_X7_rememberAct_0_0 at h
  refine lv_aload_n hx hb dX7_rememberAct_0 rfl (lv_at hl 0 rfl) ?_
  refine x_get C hP inlX7 0 xw_0 rfl 3 (by decide) mw2_1 rfl dX7_rememberAct_1 ?_
  refine lv_aload_n hx hb dX7_rememberAct_4 rfl (lv_at hl 0 rfl) ?_
  refine x_get C hP inlX7 0 xw_0 rfl 1 (by decide) mw1_20 rfl dX7_rememberAct_5 ?_
  obtain ⟨σ2, g1, h⟩ := cl_some h
  refine x_callVv (rest := []) C hP hD hS (c_X0_add_13_3 g1) (cwV 1 hts (gV mw15_6 mw15_7 mw15_8 mw2_0 mw15_9) rfl rfl rfl hdV_X0_add ⟨Nat.le_of_ble_eq_true rfl, Nat.le_of_ble_eq_true rfl⟩) xw_13 rfl rfl hl.1 rfl (Nat.le_of_ble_eq_true rfl) dX7_rememberAct_8 ⟨Nat.zero_le _, Nat.zero_le _⟩ (fun H locs hP hD hS => ?_)
  refine lv_aload_n hx hb dX7_rememberAct_11 rfl (lv_at hl 0 rfl) ?_
  refine x_get C hP inlX7 0 xw_0 rfl 4 (by decide) mw2_5 rfl dX7_rememberAct_12 ?_
  refine lv_iconst (v := 0) hx hb dX7_rememberAct_15 (by decide) ?_
  obtain ⟨σ3, eσ3, h⟩ := lt_some h
  refine x_put C hP hD hS inlX4 tyX4 tyX4_ok nmX4 15 xw_15 rfl 11 (by decide) mw11_10 rfl rfl rfl (Nat.le_of_ble_eq_true rfl) (xs_15_11 eσ3) dX7_rememberAct_16 (fun H locs hP hD hS => ?_)
  have z1 := so_inj h
  subst z1
  exact x_vret C hr hP hD hS dX7_rememberAct_19
theorem c_X7_rememberAct_0 {l : Launch} {D : va_G} {cy : Nat → ClassId} {tT tF : Nat} {ad : Nat → Nat} {σ : ES} {σ' : ES} (h : e_X7_rememberAct_0  σ = some σ') : CMv l yX7_rememberAct (Cond.code yX7_rememberAct cX7_rememberAct 1 none :: wsL_law) { frames := 2, cells := 0, slots := 0, locals := 44 } D cy tT tF [.ref (ad 0)] (xw cy ad σ) (xw cy ad σ') := x_start (Qc := fun A => (Qv D cy A (xw cy ad σ'))) (by decide) (Nat.le_of_ble_eq_true rfl) (fun p e s m below meth c A ls C hr hP hD hS hl => w_X7_rememberAct_0_0 C hr  σ h s.heap [] hP hD hS ls hl)
set_option maxHeartbeats 4000000 in
set_option maxRecDepth 100000 in
theorem w_X2_withFlame_3_30_5 (C : Cx p s m args meth c D cy tT tF A cX2_withFlame 5 RX2) (hr : meth.sig.returnType = some .int) {r : Int32} {σ : ES} : ∀ (n : Nat) (v2 : Int32) (v3 : Int32) (v4 : Int32), b_X2_withFlame_3_30_5 σ n v2 v3 v4 = some r → ∀ (H : Heap) (locs : List Loc) (hP : va_P D vwCl (xw cy ad σ) H) (hD : va_D A (xw cy ad σ)) (hS : va_S A s.heap H locs) (ls : Array Slot) (hl : lv_has ls 5 [(0, .ref (ad 3)), (1, .ref (ad 30)), (2, .int v2), (3, .int v3), (4, .int v4)]), W p l e { frames := 0, cells := 0, slots := 0, locals := 0 } s m args below meth c H locs 0 0 (MQ below (Qi D cy A r (xw cy ad σ)) args s 0 0 A) (F0 m 5 ls []) := by
  obtain ⟨⟨hx, hb, hml, hown, hts⟩, hK, hT, hA, hlk⟩ := id C
  intro n
  induction n with
  | zero =>
    intro v2 v3 v4 h
    exact no_some h
  | succ n ih =>
    intro v2 v3 v4 h H locs hP hD hS ls hl
    rw [b_X2_withFlame_3_30_5] at h
    refine lv_iload hx hb dX2_withFlame_5 (lv_at hl 4 rfl) ?_
    refine lv_aload_n hx hb dX2_withFlame_7 rfl (lv_at hl 1 rfl) ?_
    refine x_get C hP inlX3 30 xw_30 rfl 9 (by decide) mw15_18 rfl dX2_withFlame_8 ?_
    refine lv_icmp_ge (tgt := 38) hx hb dX2_withFlame_11 (by decide) (fun q1 => ?_) (fun q1 => ?_)
    · have h := ifp q1 h
      refine lv_iload_n hx hb dX2_withFlame_38 rfl (lv_at hl 3 rfl) ?_
      have z1 := so_inj h
      subst z1
      exact x_iret C hr hP hD hS dX2_withFlame_39
    · have h := ifn q1 h
      refine lv_aload_n hx hb dX2_withFlame_14 rfl (lv_at hl 0 rfl) ?_
      refine x_get C hP inlX2 3 xw_3 rfl 2 (by decide) mw3_12 rfl dX2_withFlame_15 ?_
      refine lv_iload hx hb dX2_withFlame_18 (lv_at hl 4 rfl) ?_
      obtain ⟨g2, x3, ex3, h⟩ := rd_some h
      refine x_ild C hP 6 xw_6 g2 ex3 dX2_withFlame_20 ?_
      refine lv_iload_n hx hb dX2_withFlame_21 rfl (lv_at hl 2 rfl) ?_
      refine lv_icmp_ne (tgt := 32) hx hb dX2_withFlame_22 (by decide) (fun q4 => ?_) (fun q4 => ?_)
      · have h := ifn q4 h
        obtain ⟨x5, ex5, h⟩ := lt_some h
        refine lv_iinc (v := x5) (lv' := [(4, .int x5), (0, .ref (ad 3)), (1, .ref (ad 30)), (2, .int v2), (3, .int v3)]) hx hb dX2_withFlame_32 hl (k := 4) rfl (by rw [ex5]; rfl) (by decide) rfl (fun ls hl => ?_)
        refine lv_goto (tgt := 5) hx hb dX2_withFlame_35 (by decide) ?_
        exact ih v2 v3 x5 h H locs hP hD hS ls (lv_sub hl [1, 2, 3, 4, 0] rfl)
      · have h := ifp q4 h
        refine lv_iload_n hx hb dX2_withFlame_25 rfl (lv_at hl 3 rfl) ?_
        refine lv_iconst (v := 1) hx hb dX2_withFlame_26 (by decide) ?_
        refine lv_iload hx hb dX2_withFlame_27 (lv_at hl 4 rfl) ?_
        refine lv_ishl hx hb dX2_withFlame_29 ?_
        refine lv_ior hx hb dX2_withFlame_30 ?_
        obtain ⟨x6, ex6, h⟩ := lt_some h
        refine x_ti ex6 ?_
        refine lv_istore_n (lv' := [(3, .int x6), (0, .ref (ad 3)), (1, .ref (ad 30)), (2, .int v2), (4, .int v4)]) hx hb dX2_withFlame_31 rfl hl (by decide) rfl (fun ls hl => ?_)
        obtain ⟨x7, ex7, h⟩ := lt_some h
        refine lv_iinc (v := x7) (lv' := [(4, .int x7), (3, .int x6), (0, .ref (ad 3)), (1, .ref (ad 30)), (2, .int v2)]) hx hb dX2_withFlame_32 hl (k := 4) rfl (by rw [ex7]; rfl) (by decide) rfl (fun ls hl => ?_)
        refine lv_goto (tgt := 5) hx hb dX2_withFlame_35 (by decide) ?_
        exact ih v2 x6 x7 h H locs hP hD hS ls (lv_sub hl [2, 3, 4, 1, 0] rfl)
set_option maxHeartbeats 4000000 in
set_option maxRecDepth 100000 in
theorem w_X2_withFlame_3_30_0 (C : Cx p s m args meth c D cy tT tF A cX2_withFlame 5 RX2) (hr : meth.sig.returnType = some .int) {r : Int32} {σ : ES} (a2 : Int32) (h : b_X2_withFlame_3_30_0 σ a2 = some r) (H : Heap) (locs : List Loc) (hP : va_P D vwCl (xw cy ad σ) H) (hD : va_D A (xw cy ad σ)) (hS : va_S A s.heap H locs) (ls : Array Slot) (hl : lv_has ls 5 [(0, .ref (ad 3)), (1, .ref (ad 30)), (2, .int a2)]) : W p l e { frames := 0, cells := 0, slots := 0, locals := 0 } s m args below meth c H locs 0 0 (MQ below (Qi D cy A r (xw cy ad σ)) args s 0 0 A) (F0 m 0 ls []) := by
  obtain ⟨⟨hx, hb, hml, hown, hts⟩, hK, hT, hA, hlk⟩ := id C
  unfold b_X2_withFlame_3_30_0 at h
  refine lv_iconst (v := 0) hx hb dX2_withFlame_0 (by decide) ?_
  refine lv_istore_n (lv' := [(3, .int (0 : Int32)), (0, .ref (ad 3)), (1, .ref (ad 30)), (2, .int a2)]) hx hb dX2_withFlame_1 rfl hl (by decide) rfl (fun ls hl => ?_)
  refine lv_iconst (v := 0) hx hb dX2_withFlame_2 (by decide) ?_
  refine lv_istore (lv' := [(4, .int (0 : Int32)), (3, .int (0 : Int32)), (0, .ref (ad 3)), (1, .ref (ad 30)), (2, .int a2)]) hx hb dX2_withFlame_3 hl (by decide) rfl (fun ls hl => ?_)
  exact w_X2_withFlame_3_30_5 C hr FU a2 (0 : Int32) (0 : Int32) h H locs hP hD hS ls (lv_sub hl [2, 3, 4, 1, 0] rfl)
theorem c_X2_withFlame_3_30 {l : Launch} {D : va_G} {cy : Nat → ClassId} {tT tF : Nat} {ad : Nat → Nat} {a2 : Int32} {r : Int32} {σ : ES} (h : e_X2_withFlame_3_30 a2 σ = some r) : CMi l yX2_withFlame (Cond.code yX2_withFlame cX2_withFlame 5 (some .int) :: wsL_law) { frames := 0, cells := 0, slots := 0, locals := 0 } D cy tT tF [.ref (ad 3), .ref (ad 30), .int a2] (xw cy ad σ) r (xw cy ad σ) := x_start (Qc := fun A => (Qi D cy A r (xw cy ad σ))) (by decide) (Nat.le_of_ble_eq_true rfl) (fun p e s m below meth c A ls C hr hP hD hS hl => w_X2_withFlame_3_30_0 C hr a2 h s.heap [] hP hD hS ls hl)
set_option maxHeartbeats 4000000 in
set_option maxRecDepth 100000 in
theorem w_J6_bitCount_0 (C : Cx p s m args meth c D cy tT tF A cJ6_bitCount_0f7a4 1 RJ6) (hr : meth.sig.returnType = some .int) {r : Int32} (a0 : Int32) (h : b_J6_bitCount_0 a0 = some r) (H : Heap) (locs : List Loc) (hP : va_P D vwCl ws H) (hD : va_D A ws) (hS : va_S A s.heap H locs) (ls : Array Slot) (hl : lv_has ls 1 [(0, .int a0)]) : W p l e { frames := 0, cells := 0, slots := 0, locals := 0 } s m args below meth c H locs 0 0 (MQ below (Qi D cy A r ws) args s 0 0 A) (F0 m 0 ls []) := by
  obtain ⟨⟨hx, hb, hml, hown, hts⟩, hK, hT, hA, hlk⟩ := id C
  unfold b_J6_bitCount_0 at h
  refine lv_iload_n hx hb dJ6_bitCount_0f7a4_0 rfl (lv_at hl 0 rfl) ?_
  refine lv_iload_n hx hb dJ6_bitCount_0f7a4_1 rfl (lv_at hl 0 rfl) ?_
  refine lv_iconst (v := 1) hx hb dJ6_bitCount_0f7a4_2 (by decide) ?_
  refine lv_iushr hx hb dJ6_bitCount_0f7a4_3 rfl ?_
  refine lv_ldcw (v := 1431655765) hx hb hown (hts _ mw15_23) dJ6_bitCount_0f7a4_4 ?_
  refine lv_iand hx hb dJ6_bitCount_0f7a4_7 ?_
  refine lv_isub hx hb dJ6_bitCount_0f7a4_8 ?_
  obtain ⟨x1, ex1, h⟩ := lt_some h
  refine x_ti ex1 ?_
  refine lv_istore_n (lv' := [(0, .int x1)]) hx hb dJ6_bitCount_0f7a4_9 rfl hl (by decide) rfl (fun ls hl => ?_)
  refine lv_iload_n hx hb dJ6_bitCount_0f7a4_10 rfl (lv_at hl 0 rfl) ?_
  refine lv_ldcw (v := 858993459) hx hb hown (hts _ mw16_0) dJ6_bitCount_0f7a4_11 ?_
  refine lv_iand hx hb dJ6_bitCount_0f7a4_14 ?_
  refine lv_iload_n hx hb dJ6_bitCount_0f7a4_15 rfl (lv_at hl 0 rfl) ?_
  refine lv_iconst (v := 2) hx hb dJ6_bitCount_0f7a4_16 (by decide) ?_
  refine lv_iushr hx hb dJ6_bitCount_0f7a4_17 rfl ?_
  refine lv_ldcw (v := 858993459) hx hb hown (hts _ mw16_0) dJ6_bitCount_0f7a4_18 ?_
  refine lv_iand hx hb dJ6_bitCount_0f7a4_21 ?_
  refine lv_iadd hx hb dJ6_bitCount_0f7a4_22 ?_
  obtain ⟨x2, ex2, h⟩ := lt_some h
  refine x_ti ex2 ?_
  refine lv_istore_n (lv' := [(0, .int x2)]) hx hb dJ6_bitCount_0f7a4_23 rfl hl (by decide) rfl (fun ls hl => ?_)
  refine lv_iload_n hx hb dJ6_bitCount_0f7a4_24 rfl (lv_at hl 0 rfl) ?_
  refine lv_iload_n hx hb dJ6_bitCount_0f7a4_25 rfl (lv_at hl 0 rfl) ?_
  refine lv_iconst (v := 4) hx hb dJ6_bitCount_0f7a4_26 (by decide) ?_
  refine lv_iushr hx hb dJ6_bitCount_0f7a4_27 rfl ?_
  refine lv_iadd hx hb dJ6_bitCount_0f7a4_28 ?_
  refine lv_ldcw (v := 252645135) hx hb hown (hts _ mw16_1) dJ6_bitCount_0f7a4_29 ?_
  refine lv_iand hx hb dJ6_bitCount_0f7a4_32 ?_
  obtain ⟨x3, ex3, h⟩ := lt_some h
  refine x_ti ex3 ?_
  refine lv_istore_n (lv' := [(0, .int x3)]) hx hb dJ6_bitCount_0f7a4_33 rfl hl (by decide) rfl (fun ls hl => ?_)
  refine lv_iload_n hx hb dJ6_bitCount_0f7a4_34 rfl (lv_at hl 0 rfl) ?_
  refine lv_iload_n hx hb dJ6_bitCount_0f7a4_35 rfl (lv_at hl 0 rfl) ?_
  refine lv_bipush (v := 8) hx hb dJ6_bitCount_0f7a4_36 (by decide) ?_
  refine lv_iushr hx hb dJ6_bitCount_0f7a4_38 rfl ?_
  refine lv_iadd hx hb dJ6_bitCount_0f7a4_39 ?_
  obtain ⟨x4, ex4, h⟩ := lt_some h
  refine x_ti ex4 ?_
  refine lv_istore_n (lv' := [(0, .int x4)]) hx hb dJ6_bitCount_0f7a4_40 rfl hl (by decide) rfl (fun ls hl => ?_)
  refine lv_iload_n hx hb dJ6_bitCount_0f7a4_41 rfl (lv_at hl 0 rfl) ?_
  refine lv_iload_n hx hb dJ6_bitCount_0f7a4_42 rfl (lv_at hl 0 rfl) ?_
  refine lv_bipush (v := 16) hx hb dJ6_bitCount_0f7a4_43 (by decide) ?_
  refine lv_iushr hx hb dJ6_bitCount_0f7a4_45 rfl ?_
  refine lv_iadd hx hb dJ6_bitCount_0f7a4_46 ?_
  obtain ⟨x5, ex5, h⟩ := lt_some h
  refine x_ti ex5 ?_
  refine lv_istore_n (lv' := [(0, .int x5)]) hx hb dJ6_bitCount_0f7a4_47 rfl hl (by decide) rfl (fun ls hl => ?_)
  refine lv_iload_n hx hb dJ6_bitCount_0f7a4_48 rfl (lv_at hl 0 rfl) ?_
  refine lv_bipush (v := 63) hx hb dJ6_bitCount_0f7a4_49 (by decide) ?_
  refine lv_iand hx hb dJ6_bitCount_0f7a4_51 ?_
  have z1 := so_inj h
  subst z1
  exact x_iret C hr hP hD hS dJ6_bitCount_0f7a4_52
theorem c_J6_bitCount {l : Launch} {D : va_G} {cy : Nat → ClassId} {tT tF : Nat} {ws : va_W} {a0 : Int32} {r : Int32} (h : e_J6_bitCount a0 = some r) : CMi l yJ6_bitCount_0f7a4 (Cond.code yJ6_bitCount_0f7a4 cJ6_bitCount_0f7a4 1 (some .int) :: wsL_law) { frames := 0, cells := 0, slots := 0, locals := 0 } D cy tT tF [.int a0] ws r ws := x_start (Qc := fun A => (Qi D cy A r ws)) (by decide) (Nat.le_of_ble_eq_true rfl) (fun p e s m below meth c A ls C hr hP hD hS hl => w_J6_bitCount_0 C hr a0 h s.heap [] hP hD hS ls hl)
set_option maxHeartbeats 4000000 in
set_option maxRecDepth 100000 in
theorem w_X7_light_0_0 (C : Cx p s m args meth c D cy tT tF A cX7_light 2 RX7) (hr : meth.sig.returnType = some .int) {r : Int32} {σ' : ES} (a1 : Int32) (σ : ES) (h : b_X7_light_0_0 a1 σ = some (r, σ')) (H : Heap) (locs : List Loc) (hP : va_P D vwCl (xw cy ad σ) H) (hD : va_D A (xw cy ad σ)) (hS : va_S A s.heap H locs) (ls : Array Slot) (hl : lv_has ls 2 [(0, .ref (ad 0)), (1, .int a1)]) : W p l e { frames := 3, cells := 0, slots := 0, locals := 64 } s m args below meth c H locs 0 0 (MQ below (Qi D cy A r (xw cy ad σ')) args s 0 0 A) (F0 m 0 ls []) := by
  obtain ⟨⟨hx, hb, hml, hown, hts⟩, hK, hT, hA, hlk⟩ := id C
  unfold b_X7_light_0_0 at h
  refine lv_aload_n hx hb dX7_light_0 rfl (lv_at hl 0 rfl) ?_
  refine x_get C hP inlX7 0 xw_0 rfl 9 (by decide) mw2_21 rfl dX7_light_1 ?_
  refine lv_iload_n hx hb dX7_light_4 rfl (lv_at hl 1 rfl) ?_
  obtain ⟨r2, g1, h⟩ := cl_some h
  refine x_callVi (rest := []) C hP hD hS (c_X3_hasCandle_30 g1) (cwV 1 hts (gV mw13_3 mw13_4 mw13_5 mw2_20 mw13_6) rfl rfl rfl hdV_X3_hasCandle ⟨Nat.le_of_ble_eq_true rfl, Nat.le_of_ble_eq_true rfl⟩) xw_30 rfl rfl hl.1 rfl (Nat.le_of_ble_eq_true rfl) dX7_light_5 ⟨Nat.zero_le _, Nat.zero_le _⟩ (fun H locs hP hD hS => ?_)
  refine lv_if_ne (tgt := 13) hx hb dX7_light_8 (by decide) (fun q3 => ?_) (fun q3 => ?_)
  · have h := ifn q3 h
    refine lv_aload_n hx hb dX7_light_13 rfl (lv_at hl 0 rfl) ?_
    refine x_get C hP inlX7 0 xw_0 rfl 1 (by decide) mw1_20 rfl dX7_light_14 ?_
    refine x_get C hP inlX2 3 xw_3 rfl 2 (by decide) mw13_2 rfl dX7_light_17 ?_
    refine lv_iload_n hx hb dX7_light_20 rfl (lv_at hl 1 rfl) ?_
    obtain ⟨g4, x5, ex5, h⟩ := rd_some h
    refine x_ild C hP 6 xw_6 g4 ex5 dX7_light_21 ?_
    refine lv_if_eq (tgt := 28) hx hb dX7_light_22 (by decide) (fun q6 => ?_) (fun q6 => ?_)
    · have h := ifp q6 h
      refine lv_aload_n hx hb dX7_light_28 rfl (lv_at hl 0 rfl) ?_
      obtain ⟨σ8, g7, h⟩ := cl_some h
      refine x_callVv (rest := []) C hP hD hS (c_X7_rememberAct_0 g7) (cwV 0 hts (gV mw15_2 mw15_3 mw15_4 mw1_2 mw15_5) rfl rfl rfl hdV_X7_rememberAct ⟨Nat.le_of_ble_eq_true rfl, Nat.le_of_ble_eq_true rfl⟩) xw_0 rfl rfl hl.1 rfl (Nat.le_of_ble_eq_true rfl) dX7_light_29 ⟨Nat.zero_le _, Nat.zero_le _⟩ (fun H locs hP hD hS => ?_)
      refine lv_aload_n hx hb dX7_light_32 rfl (lv_at hl 0 rfl) ?_
      refine x_get C hP inlX7 0 xw_0 rfl 1 (by decide) mw1_20 rfl dX7_light_33 ?_
      refine x_get C hP inlX2 3 xw_3 rfl 2 (by decide) mw13_2 rfl dX7_light_36 ?_
      refine lv_iload_n hx hb dX7_light_39 rfl (lv_at hl 1 rfl) ?_
      refine lv_iconst (v := 1) hx hb dX7_light_40 (by decide) ?_
      obtain ⟨g9, σ10, eσ10, h⟩ := wr_some h
      refine x_ist C hP hD hS 6 xw_6 g9 (xa_6 eσ10) dX7_light_41 (fun H locs hP hD hS => ?_)
      refine lv_aload_n hx hb dX7_light_42 rfl (lv_at hl 0 rfl) ?_
      refine x_get C hP inlX7 0 xw_0 rfl 1 (by decide) mw1_20 rfl dX7_light_43 ?_
      refine lv_aload_n hx hb dX7_light_46 rfl (lv_at hl 0 rfl) ?_
      refine x_get C hP inlX7 0 xw_0 rfl 9 (by decide) mw2_21 rfl dX7_light_47 ?_
      refine lv_iconst (v := 1) hx hb dX7_light_50 (by decide) ?_
      obtain ⟨r12, g11, h⟩ := cl_some h
      refine x_callVi (rest := []) C hP hD hS (c_X2_withFlame_3_30 g11) (cwV 2 hts (gV mw15_14 mw15_15 mw15_16 mw1_19 mw15_17) rfl rfl rfl hdV_X2_withFlame ⟨Nat.le_of_ble_eq_true rfl, Nat.le_of_ble_eq_true rfl⟩) xw_3 rfl rfl hl.1 rfl (Nat.le_of_ble_eq_true rfl) dX7_light_51 ⟨Nat.zero_le _, Nat.zero_le _⟩ (fun H locs hP hD hS => ?_)
      obtain ⟨r14, g13, h⟩ := cl_some h
      refine x_callSi (rest := []) C hP hD hS (c_J6_bitCount g13) (va_cwS 1 hts (gS mw15_19 mw15_20 mw15_21 mw15_22) rfl rfl rfl hdS_J6_bitCount ⟨Nat.le_of_ble_eq_true rfl, Nat.le_of_ble_eq_true rfl⟩) rfl hl.1 rfl (Nat.le_of_ble_eq_true rfl) dX7_light_54 ⟨Nat.zero_le _, Nat.zero_le _⟩ (fun H locs hP hD hS => ?_)
      obtain ⟨z1, z2⟩ := pr_inj h
      subst z1
      subst z2
      exact x_iret C hr hP hD hS dX7_light_57
    · have h := ifn q6 h
      refine lv_bipush (v := -3) hx hb dX7_light_25 (by decide) ?_
      obtain ⟨z1, z2⟩ := pr_inj h
      subst z1
      subst z2
      exact x_iret C hr hP hD hS dX7_light_27
  · have h := ifp q3 h
    refine lv_iconst (v := -1) hx hb dX7_light_11 (by decide) ?_
    obtain ⟨z1, z2⟩ := pr_inj h
    subst z1
    subst z2
    exact x_iret C hr hP hD hS dX7_light_12
theorem c_X7_light_0 {l : Launch} {D : va_G} {cy : Nat → ClassId} {tT tF : Nat} {ad : Nat → Nat} {σ : ES} {a1 : Int32} {r : Int32} {σ' : ES} (h : e_X7_light_0 a1 σ = some (r, σ')) : CMi l yX7_light (Cond.code yX7_light cX7_light 2 (some .int) :: wsL_law) { frames := 3, cells := 0, slots := 0, locals := 64 } D cy tT tF [.ref (ad 0), .int a1] (xw cy ad σ) r (xw cy ad σ') := x_start (Qc := fun A => (Qi D cy A r (xw cy ad σ'))) (by decide) (Nat.le_of_ble_eq_true rfl) (fun p e s m below meth c A ls C hr hP hD hS hl => w_X7_light_0_0 C hr a1 σ h s.heap [] hP hD hS ls hl)
set_option maxHeartbeats 4000000 in
set_option maxRecDepth 100000 in
theorem w_X7_out_0_0 (C : Cx p s m args meth c D cy tT tF A cX7_out 2 RX7) (hr : meth.sig.returnType = some .int) {r : Int32} {σ' : ES} (a1 : Int32) (σ : ES) (h : b_X7_out_0_0 a1 σ = some (r, σ')) (H : Heap) (locs : List Loc) (hP : va_P D vwCl (xw cy ad σ) H) (hD : va_D A (xw cy ad σ)) (hS : va_S A s.heap H locs) (ls : Array Slot) (hl : lv_has ls 2 [(0, .ref (ad 0)), (1, .int a1)]) : W p l e { frames := 3, cells := 0, slots := 0, locals := 64 } s m args below meth c H locs 0 0 (MQ below (Qi D cy A r (xw cy ad σ')) args s 0 0 A) (F0 m 0 ls []) := by
  obtain ⟨⟨hx, hb, hml, hown, hts⟩, hK, hT, hA, hlk⟩ := id C
  unfold b_X7_out_0_0 at h
  refine lv_aload_n hx hb dX7_out_0 rfl (lv_at hl 0 rfl) ?_
  refine x_get C hP inlX7 0 xw_0 rfl 9 (by decide) mw2_21 rfl dX7_out_1 ?_
  refine lv_iload_n hx hb dX7_out_4 rfl (lv_at hl 1 rfl) ?_
  obtain ⟨r2, g1, h⟩ := cl_some h
  refine x_callVi (rest := []) C hP hD hS (c_X3_hasCandle_30 g1) (cwV 1 hts (gV mw13_3 mw13_4 mw13_5 mw2_20 mw13_6) rfl rfl rfl hdV_X3_hasCandle ⟨Nat.le_of_ble_eq_true rfl, Nat.le_of_ble_eq_true rfl⟩) xw_30 rfl rfl hl.1 rfl (Nat.le_of_ble_eq_true rfl) dX7_out_5 ⟨Nat.zero_le _, Nat.zero_le _⟩ (fun H locs hP hD hS => ?_)
  refine lv_if_ne (tgt := 13) hx hb dX7_out_8 (by decide) (fun q3 => ?_) (fun q3 => ?_)
  · have h := ifn q3 h
    refine lv_aload_n hx hb dX7_out_13 rfl (lv_at hl 0 rfl) ?_
    refine x_get C hP inlX7 0 xw_0 rfl 1 (by decide) mw1_20 rfl dX7_out_14 ?_
    refine x_get C hP inlX2 3 xw_3 rfl 2 (by decide) mw13_2 rfl dX7_out_17 ?_
    refine lv_iload_n hx hb dX7_out_20 rfl (lv_at hl 1 rfl) ?_
    obtain ⟨g4, x5, ex5, h⟩ := rd_some h
    refine x_ild C hP 6 xw_6 g4 ex5 dX7_out_21 ?_
    refine lv_iconst (v := 1) hx hb dX7_out_22 (by decide) ?_
    refine lv_icmp_eq (tgt := 29) hx hb dX7_out_23 (by decide) (fun q6 => ?_) (fun q6 => ?_)
    · have h := ifp q6 h
      refine lv_aload_n hx hb dX7_out_29 rfl (lv_at hl 0 rfl) ?_
      obtain ⟨σ8, g7, h⟩ := cl_some h
      refine x_callVv (rest := []) C hP hD hS (c_X7_rememberAct_0 g7) (cwV 0 hts (gV mw15_2 mw15_3 mw15_4 mw1_2 mw15_5) rfl rfl rfl hdV_X7_rememberAct ⟨Nat.le_of_ble_eq_true rfl, Nat.le_of_ble_eq_true rfl⟩) xw_0 rfl rfl hl.1 rfl (Nat.le_of_ble_eq_true rfl) dX7_out_30 ⟨Nat.zero_le _, Nat.zero_le _⟩ (fun H locs hP hD hS => ?_)
      refine lv_aload_n hx hb dX7_out_33 rfl (lv_at hl 0 rfl) ?_
      refine x_get C hP inlX7 0 xw_0 rfl 1 (by decide) mw1_20 rfl dX7_out_34 ?_
      refine x_get C hP inlX2 3 xw_3 rfl 2 (by decide) mw13_2 rfl dX7_out_37 ?_
      refine lv_iload_n hx hb dX7_out_40 rfl (lv_at hl 1 rfl) ?_
      refine lv_iconst (v := 2) hx hb dX7_out_41 (by decide) ?_
      obtain ⟨g9, σ10, eσ10, h⟩ := wr_some h
      refine x_ist C hP hD hS 6 xw_6 g9 (xa_6 eσ10) dX7_out_42 (fun H locs hP hD hS => ?_)
      refine lv_aload_n hx hb dX7_out_43 rfl (lv_at hl 0 rfl) ?_
      refine x_get C hP inlX7 0 xw_0 rfl 1 (by decide) mw1_20 rfl dX7_out_44 ?_
      refine x_get C hP inlX2 3 xw_3 rfl 1 (by decide) mw12_23 rfl dX7_out_47 ?_
      refine lv_iload_n hx hb dX7_out_50 rfl (lv_at hl 1 rfl) ?_
      obtain ⟨g11, x12, ex12, h⟩ := rd_some h
      refine x_ild C hP 5 xw_5 g11 ex12 dX7_out_51 ?_
      obtain ⟨z1, z2⟩ := pr_inj h
      subst z1
      subst z2
      exact x_iret C hr hP hD hS dX7_out_52
    · have h := ifn q6 h
      refine lv_bipush (v := -3) hx hb dX7_out_26 (by decide) ?_
      obtain ⟨z1, z2⟩ := pr_inj h
      subst z1
      subst z2
      exact x_iret C hr hP hD hS dX7_out_28
  · have h := ifp q3 h
    refine lv_iconst (v := -1) hx hb dX7_out_11 (by decide) ?_
    obtain ⟨z1, z2⟩ := pr_inj h
    subst z1
    subst z2
    exact x_iret C hr hP hD hS dX7_out_12
theorem c_X7_out_0 {l : Launch} {D : va_G} {cy : Nat → ClassId} {tT tF : Nat} {ad : Nat → Nat} {σ : ES} {a1 : Int32} {r : Int32} {σ' : ES} (h : e_X7_out_0 a1 σ = some (r, σ')) : CMi l yX7_out (Cond.code yX7_out cX7_out 2 (some .int) :: wsL_law) { frames := 3, cells := 0, slots := 0, locals := 64 } D cy tT tF [.ref (ad 0), .int a1] (xw cy ad σ) r (xw cy ad σ') := x_start (Qc := fun A => (Qi D cy A r (xw cy ad σ'))) (by decide) (Nat.le_of_ble_eq_true rfl) (fun p e s m below meth c A ls C hr hP hD hS hl => w_X7_out_0_0 C hr a1 σ h s.heap [] hP hD hS ls hl)
set_option maxHeartbeats 4000000 in
set_option maxRecDepth 100000 in
theorem w_X7_trim_0_0 (C : Cx p s m args meth c D cy tT tF A cX7_trim 3 RX7) (hr : meth.sig.returnType = some .int) {r : Int32} {σ' : ES} (a1 : Int32) (a2 : Int32) (σ : ES) (h : b_X7_trim_0_0 a1 a2 σ = some (r, σ')) (H : Heap) (locs : List Loc) (hP : va_P D vwCl (xw cy ad σ) H) (hD : va_D A (xw cy ad σ)) (hS : va_S A s.heap H locs) (ls : Array Slot) (hl : lv_has ls 3 [(0, .ref (ad 0)), (1, .int a1), (2, .int a2)]) : W p l e { frames := 3, cells := 0, slots := 0, locals := 64 } s m args below meth c H locs 0 0 (MQ below (Qi D cy A r (xw cy ad σ')) args s 0 0 A) (F0 m 0 ls []) := by
  obtain ⟨⟨hx, hb, hml, hown, hts⟩, hK, hT, hA, hlk⟩ := id C
  unfold b_X7_trim_0_0 at h
  refine lv_aload_n hx hb dX7_trim_0 rfl (lv_at hl 0 rfl) ?_
  refine x_get C hP inlX7 0 xw_0 rfl 9 (by decide) mw2_21 rfl dX7_trim_1 ?_
  refine lv_iload_n hx hb dX7_trim_4 rfl (lv_at hl 1 rfl) ?_
  obtain ⟨r2, g1, h⟩ := cl_some h
  refine x_callVi (rest := []) C hP hD hS (c_X3_hasCandle_30 g1) (cwV 1 hts (gV mw13_3 mw13_4 mw13_5 mw2_20 mw13_6) rfl rfl rfl hdV_X3_hasCandle ⟨Nat.le_of_ble_eq_true rfl, Nat.le_of_ble_eq_true rfl⟩) xw_30 rfl rfl hl.1 rfl (Nat.le_of_ble_eq_true rfl) dX7_trim_5 ⟨Nat.zero_le _, Nat.zero_le _⟩ (fun H locs hP hD hS => ?_)
  refine lv_if_ne (tgt := 13) hx hb dX7_trim_8 (by decide) (fun q3 => ?_) (fun q3 => ?_)
  · have h := ifn q3 h
    refine lv_iload_n hx hb dX7_trim_13 rfl (lv_at hl 2 rfl) ?_
    refine lv_iconst (v := 1) hx hb dX7_trim_14 (by decide) ?_
    refine lv_icmp_lt (tgt := 24) hx hb dX7_trim_15 (by decide) (fun q4 => ?_) (fun q4 => ?_)
    · have h := ifp q4 h
      refine lv_bipush (v := -2) hx hb dX7_trim_24 (by decide) ?_
      obtain ⟨z1, z2⟩ := pr_inj h
      subst z1
      subst z2
      exact x_iret C hr hP hD hS dX7_trim_26
    · have h := ifn q4 h
      refine lv_iload_n hx hb dX7_trim_18 rfl (lv_at hl 2 rfl) ?_
      refine lv_bipush (v := 6) hx hb dX7_trim_19 (by decide) ?_
      refine lv_icmp_lt (tgt := 27) hx hb dX7_trim_21 (by decide) (fun q5 => ?_) (fun q5 => ?_)
      · have h := ifp q5 h
        refine lv_aload_n hx hb dX7_trim_27 rfl (lv_at hl 0 rfl) ?_
        refine x_get C hP inlX7 0 xw_0 rfl 1 (by decide) mw1_20 rfl dX7_trim_28 ?_
        refine x_get C hP inlX2 3 xw_3 rfl 2 (by decide) mw13_2 rfl dX7_trim_31 ?_
        refine lv_iload_n hx hb dX7_trim_34 rfl (lv_at hl 1 rfl) ?_
        obtain ⟨g6, x7, ex7, h⟩ := rd_some h
        refine x_ild C hP 6 xw_6 g6 ex7 dX7_trim_35 ?_
        refine lv_if_ne (tgt := 52) hx hb dX7_trim_36 (by decide) (fun q8 => ?_) (fun q8 => ?_)
        · have h := ifn q8 h
          refine lv_bipush (v := -3) hx hb dX7_trim_52 (by decide) ?_
          obtain ⟨z1, z2⟩ := pr_inj h
          subst z1
          subst z2
          exact x_iret C hr hP hD hS dX7_trim_54
        · have h := ifp q8 h
          refine lv_aload_n hx hb dX7_trim_39 rfl (lv_at hl 0 rfl) ?_
          refine x_get C hP inlX7 0 xw_0 rfl 1 (by decide) mw1_20 rfl dX7_trim_40 ?_
          refine x_get C hP inlX2 3 xw_3 rfl 1 (by decide) mw12_23 rfl dX7_trim_43 ?_
          refine lv_iload_n hx hb dX7_trim_46 rfl (lv_at hl 1 rfl) ?_
          obtain ⟨g9, x10, ex10, h⟩ := rd_some h
          refine x_ild C hP 5 xw_5 g9 ex10 dX7_trim_47 ?_
          refine lv_iload_n hx hb dX7_trim_48 rfl (lv_at hl 2 rfl) ?_
          refine lv_icmp_gt (tgt := 55) hx hb dX7_trim_49 (by decide) (fun q11 => ?_) (fun q11 => ?_)
          · have h := ifp q11 h
            refine lv_aload_n hx hb dX7_trim_55 rfl (lv_at hl 0 rfl) ?_
            obtain ⟨σ13, g12, h⟩ := cl_some h
            refine x_callVv (rest := []) C hP hD hS (c_X7_rememberAct_0 g12) (cwV 0 hts (gV mw15_2 mw15_3 mw15_4 mw1_2 mw15_5) rfl rfl rfl hdV_X7_rememberAct ⟨Nat.le_of_ble_eq_true rfl, Nat.le_of_ble_eq_true rfl⟩) xw_0 rfl rfl hl.1 rfl (Nat.le_of_ble_eq_true rfl) dX7_trim_56 ⟨Nat.zero_le _, Nat.zero_le _⟩ (fun H locs hP hD hS => ?_)
            refine lv_aload_n hx hb dX7_trim_59 rfl (lv_at hl 0 rfl) ?_
            refine x_get C hP inlX7 0 xw_0 rfl 1 (by decide) mw1_20 rfl dX7_trim_60 ?_
            refine x_get C hP inlX2 3 xw_3 rfl 0 (by decide) mw13_0 rfl dX7_trim_63 ?_
            refine lv_iload_n hx hb dX7_trim_66 rfl (lv_at hl 1 rfl) ?_
            refine lv_dup2_11 hx hb dX7_trim_67 rfl rfl ?_
            obtain ⟨g14, x15, ex15, h⟩ := rd_some h
            refine x_ild C hP 4 xw_4 g14 ex15 dX7_trim_68 ?_
            refine lv_iload_n hx hb dX7_trim_69 rfl (lv_at hl 2 rfl) ?_
            refine lv_iadd hx hb dX7_trim_70 ?_
            obtain ⟨g16, σ17, eσ17, h⟩ := wr_some h
            refine x_ist C hP hD hS 4 xw_4 g16 (xa_4 eσ17) dX7_trim_71 (fun H locs hP hD hS => ?_)
            refine lv_aload_n hx hb dX7_trim_72 rfl (lv_at hl 0 rfl) ?_
            refine x_get C hP inlX7 0 xw_0 rfl 1 (by decide) mw1_20 rfl dX7_trim_73 ?_
            refine x_get C hP inlX2 3 xw_3 rfl 1 (by decide) mw12_23 rfl dX7_trim_76 ?_
            refine lv_iload_n hx hb dX7_trim_79 rfl (lv_at hl 1 rfl) ?_
            refine lv_dup2_11 hx hb dX7_trim_80 rfl rfl ?_
            obtain ⟨g18, x19, ex19, h⟩ := rd_some h
            refine x_ild C hP 5 xw_5 g18 ex19 dX7_trim_81 ?_
            refine lv_iload_n hx hb dX7_trim_82 rfl (lv_at hl 2 rfl) ?_
            refine lv_isub hx hb dX7_trim_83 ?_
            obtain ⟨g20, σ21, eσ21, h⟩ := wr_some h
            refine x_ist C hP hD hS 5 xw_5 g20 (xa_5 eσ21) dX7_trim_84 (fun H locs hP hD hS => ?_)
            refine lv_aload_n hx hb dX7_trim_85 rfl (lv_at hl 0 rfl) ?_
            refine x_get C hP inlX7 0 xw_0 rfl 1 (by decide) mw1_20 rfl dX7_trim_86 ?_
            refine x_get C hP inlX2 3 xw_3 rfl 1 (by decide) mw12_23 rfl dX7_trim_89 ?_
            refine lv_iload_n hx hb dX7_trim_92 rfl (lv_at hl 1 rfl) ?_
            obtain ⟨g22, x23, ex23, h⟩ := rd_some h
            refine x_ild C hP 5 xw_5 g22 ex23 dX7_trim_93 ?_
            obtain ⟨z1, z2⟩ := pr_inj h
            subst z1
            subst z2
            exact x_iret C hr hP hD hS dX7_trim_94
          · have h := ifn q11 h
            refine lv_bipush (v := -3) hx hb dX7_trim_52 (by decide) ?_
            obtain ⟨z1, z2⟩ := pr_inj h
            subst z1
            subst z2
            exact x_iret C hr hP hD hS dX7_trim_54
      · have h := ifn q5 h
        refine lv_bipush (v := -2) hx hb dX7_trim_24 (by decide) ?_
        obtain ⟨z1, z2⟩ := pr_inj h
        subst z1
        subst z2
        exact x_iret C hr hP hD hS dX7_trim_26
  · have h := ifp q3 h
    refine lv_iconst (v := -1) hx hb dX7_trim_11 (by decide) ?_
    obtain ⟨z1, z2⟩ := pr_inj h
    subst z1
    subst z2
    exact x_iret C hr hP hD hS dX7_trim_12
theorem c_X7_trim_0 {l : Launch} {D : va_G} {cy : Nat → ClassId} {tT tF : Nat} {ad : Nat → Nat} {σ : ES} {a1 : Int32} {a2 : Int32} {r : Int32} {σ' : ES} (h : e_X7_trim_0 a1 a2 σ = some (r, σ')) : CMi l yX7_trim (Cond.code yX7_trim cX7_trim 3 (some .int) :: wsL_law) { frames := 3, cells := 0, slots := 0, locals := 64 } D cy tT tF [.ref (ad 0), .int a1, .int a2] (xw cy ad σ) r (xw cy ad σ') := x_start (Qc := fun A => (Qi D cy A r (xw cy ad σ'))) (by decide) (Nat.le_of_ble_eq_true rfl) (fun p e s m below meth c A ls C hr hP hD hS hl => w_X7_trim_0_0 C hr a1 a2 σ h s.heap [] hP hD hS ls hl)
set_option maxHeartbeats 4000000 in
set_option maxRecDepth 100000 in
theorem w_X2_giftBit_3_30_0 (C : Cx p s m args meth c D cy tT tF A cX2_giftBit 5 RX2) (hr : meth.sig.returnType = some .int) {r : Int32} {σ : ES} (a2 : Int32) (a3 : Int32) (h : b_X2_giftBit_3_30_0 σ a2 a3 = some r) (H : Heap) (locs : List Loc) (hP : va_P D vwCl (xw cy ad σ) H) (hD : va_D A (xw cy ad σ)) (hS : va_S A s.heap H locs) (ls : Array Slot) (hl : lv_has ls 5 [(0, .ref (ad 3)), (1, .ref (ad 30)), (2, .int a2), (3, .int a3)]) : W p l e { frames := 1, cells := 0, slots := 0, locals := 21 } s m args below meth c H locs 0 0 (MQ below (Qi D cy A r (xw cy ad σ)) args s 0 0 A) (F0 m 0 ls []) := by
  obtain ⟨⟨hx, hb, hml, hown, hts⟩, hK, hT, hA, hlk⟩ := id C
  unfold b_X2_giftBit_3_30_0 at h
  refine lv_aload_n hx hb dX2_giftBit_0 rfl (lv_at hl 1 rfl) ?_
  refine lv_iload_n hx hb dX2_giftBit_1 rfl (lv_at hl 2 rfl) ?_
  obtain ⟨r2, g1, h⟩ := cl_some h
  refine x_callVi (rest := []) C hP hD hS (c_X3_hasCandle_30 g1) (cwV 1 hts (gV mw18_1 mw13_4 mw13_5 mw2_20 mw13_6) rfl rfl rfl hdV_X3_hasCandle ⟨Nat.le_of_ble_eq_true rfl, Nat.le_of_ble_eq_true rfl⟩) xw_30 rfl rfl hl.1 rfl (Nat.le_of_ble_eq_true rfl) dX2_giftBit_2 ⟨Nat.zero_le _, Nat.zero_le _⟩ (fun H locs hP hD hS => ?_)
  refine lv_if_eq (tgt := 22) hx hb dX2_giftBit_5 (by decide) (fun q3 => ?_) (fun q3 => ?_)
  · have h := ifp q3 h
    refine lv_iconst (v := 0) hx hb dX2_giftBit_22 (by decide) ?_
    have z1 := so_inj h
    subst z1
    exact x_iret C hr hP hD hS dX2_giftBit_23
  · have h := ifn q3 h
    refine lv_iload_n hx hb dX2_giftBit_8 rfl (lv_at hl 3 rfl) ?_
    refine lv_if_lt (tgt := 22) hx hb dX2_giftBit_9 (by decide) (fun q4 => ?_) (fun q4 => ?_)
    · have h := ifp q4 h
      refine lv_iconst (v := 0) hx hb dX2_giftBit_22 (by decide) ?_
      have z1 := so_inj h
      subst z1
      exact x_iret C hr hP hD hS dX2_giftBit_23
    · have h := ifn q4 h
      refine lv_iload_n hx hb dX2_giftBit_12 rfl (lv_at hl 3 rfl) ?_
      refine lv_aload_n hx hb dX2_giftBit_13 rfl (lv_at hl 0 rfl) ?_
      refine x_get C hP inlX2 3 xw_3 rfl 1 (by decide) mw3_11 rfl dX2_giftBit_14 ?_
      refine lv_iload_n hx hb dX2_giftBit_17 rfl (lv_at hl 2 rfl) ?_
      obtain ⟨g5, x6, ex6, h⟩ := rd_some h
      refine x_ild C hP 5 xw_5 g5 ex6 dX2_giftBit_18 ?_
      refine lv_icmp_lt (tgt := 24) hx hb dX2_giftBit_19 (by decide) (fun q7 => ?_) (fun q7 => ?_)
      · have h := ifp q7 h
        refine lv_aload_n hx hb dX2_giftBit_24 rfl (lv_at hl 1 rfl) ?_
        refine lv_aload_n hx hb dX2_giftBit_25 rfl (lv_at hl 0 rfl) ?_
        refine x_get C hP inlX2 3 xw_3 rfl 0 (by decide) mw3_10 rfl dX2_giftBit_26 ?_
        refine lv_iload_n hx hb dX2_giftBit_29 rfl (lv_at hl 2 rfl) ?_
        obtain ⟨g8, x9, ex9, h⟩ := rd_some h
        refine x_ild C hP 4 xw_4 g8 ex9 dX2_giftBit_30 ?_
        refine lv_iload_n hx hb dX2_giftBit_31 rfl (lv_at hl 3 rfl) ?_
        refine lv_iadd hx hb dX2_giftBit_32 ?_
        obtain ⟨r11, g10, h⟩ := cl_some h
        refine x_callVi (rest := []) C hP hD hS (c_X3_giftAt_30 g10) (cwV 1 hts (gV mw18_2 mw12_12 mw12_13 mw2_20 mw12_14) rfl rfl rfl hdV_X3_giftAt ⟨Nat.le_of_ble_eq_true rfl, Nat.le_of_ble_eq_true rfl⟩) xw_30 rfl rfl hl.1 rfl (Nat.le_of_ble_eq_true rfl) dX2_giftBit_33 ⟨Nat.zero_le _, Nat.zero_le _⟩ (fun H locs hP hD hS => ?_)
        refine lv_istore (lv' := [(4, .int r11), (0, .ref (ad 3)), (1, .ref (ad 30)), (2, .int a2), (3, .int a3)]) hx hb dX2_giftBit_36 hl (by decide) rfl (fun ls hl => ?_)
        refine lv_iload hx hb dX2_giftBit_38 (lv_at hl 0 rfl) ?_
        refine lv_iconst (v := 4) hx hb dX2_giftBit_40 (by decide) ?_
        refine lv_icmp_ne (tgt := 48) hx hb dX2_giftBit_41 (by decide) (fun q12 => ?_) (fun q12 => ?_)
        · have h := ifn q12 h
          refine lv_iconst (v := 1) hx hb dX2_giftBit_48 (by decide) ?_
          refine lv_iload hx hb dX2_giftBit_49 (lv_at hl 0 rfl) ?_
          refine lv_ishl hx hb dX2_giftBit_51 ?_
          have z1 := so_inj h
          subst z1
          exact x_iret C hr hP hD hS dX2_giftBit_52
        · have h := ifp q12 h
          refine lv_iconst (v := 0) hx hb dX2_giftBit_44 (by decide) ?_
          refine lv_goto (tgt := 52) hx hb dX2_giftBit_45 (by decide) ?_
          have z1 := so_inj h
          subst z1
          exact x_iret C hr hP hD hS dX2_giftBit_52
      · have h := ifn q7 h
        refine lv_iconst (v := 0) hx hb dX2_giftBit_22 (by decide) ?_
        have z1 := so_inj h
        subst z1
        exact x_iret C hr hP hD hS dX2_giftBit_23
theorem c_X2_giftBit_3_30 {l : Launch} {D : va_G} {cy : Nat → ClassId} {tT tF : Nat} {ad : Nat → Nat} {a2 : Int32} {a3 : Int32} {r : Int32} {σ : ES} (h : e_X2_giftBit_3_30 a2 a3 σ = some r) : CMi l yX2_giftBit (Cond.code yX2_giftBit cX2_giftBit 5 (some .int) :: wsL_law) { frames := 1, cells := 0, slots := 0, locals := 21 } D cy tT tF [.ref (ad 3), .ref (ad 30), .int a2, .int a3] (xw cy ad σ) r (xw cy ad σ) := x_start (Qc := fun A => (Qi D cy A r (xw cy ad σ))) (by decide) (Nat.le_of_ble_eq_true rfl) (fun p e s m below meth c A ls C hr hP hD hS hl => w_X2_giftBit_3_30_0 C hr a2 a3 h s.heap [] hP hD hS ls hl)
set_option maxHeartbeats 4000000 in
set_option maxRecDepth 100000 in
theorem w_X2_burnInch_3_30_0 (C : Cx p s m args meth c D cy tT tF A cX2_burnInch 3 RX2) (hr : meth.sig.returnType = none) {σ' : ES} (a2 : Int32) (σ : ES) (h : b_X2_burnInch_3_30_0 a2 σ = some σ') (H : Heap) (locs : List Loc) (hP : va_P D vwCl (xw cy ad σ) H) (hD : va_D A (xw cy ad σ)) (hS : va_S A s.heap H locs) (ls : Array Slot) (hl : lv_has ls 3 [(0, .ref (ad 3)), (1, .ref (ad 30)), (2, .int a2)]) : W p l e { frames := 0, cells := 0, slots := 0, locals := 0 } s m args below meth c H locs 0 0 (MQ below (Qv D cy A (xw cy ad σ')) args s 0 0 A) (F0 m 0 ls []) := by
  obtain ⟨⟨hx, hb, hml, hown, hts⟩, hK, hT, hA, hlk⟩ := id C
  unfold b_X2_burnInch_3_30_0 at h
  refine lv_aload_n hx hb dX2_burnInch_0 rfl (lv_at hl 0 rfl) ?_
  refine x_get C hP inlX2 3 xw_3 rfl 0 (by decide) mw3_10 rfl dX2_burnInch_1 ?_
  refine lv_iload_n hx hb dX2_burnInch_4 rfl (lv_at hl 2 rfl) ?_
  refine lv_dup2_11 hx hb dX2_burnInch_5 rfl rfl ?_
  obtain ⟨g1, x2, ex2, h⟩ := rd_some h
  refine x_ild C hP 4 xw_4 g1 ex2 dX2_burnInch_6 ?_
  refine lv_iconst (v := 1) hx hb dX2_burnInch_7 (by decide) ?_
  refine lv_iadd hx hb dX2_burnInch_8 ?_
  obtain ⟨g3, σ4, eσ4, h⟩ := wr_some h
  refine x_ist C hP hD hS 4 xw_4 g3 (xa_4 eσ4) dX2_burnInch_9 (fun H locs hP hD hS => ?_)
  refine lv_aload_n hx hb dX2_burnInch_10 rfl (lv_at hl 0 rfl) ?_
  refine x_get C hP inlX2 3 xw_3 rfl 1 (by decide) mw3_11 rfl dX2_burnInch_11 ?_
  refine lv_iload_n hx hb dX2_burnInch_14 rfl (lv_at hl 2 rfl) ?_
  refine lv_dup2_11 hx hb dX2_burnInch_15 rfl rfl ?_
  obtain ⟨g5, x6, ex6, h⟩ := rd_some h
  refine x_ild C hP 5 xw_5 g5 ex6 dX2_burnInch_16 ?_
  refine lv_iconst (v := 1) hx hb dX2_burnInch_17 (by decide) ?_
  refine lv_isub hx hb dX2_burnInch_18 ?_
  obtain ⟨g7, σ8, eσ8, h⟩ := wr_some h
  refine x_ist C hP hD hS 5 xw_5 g7 (xa_5 eσ8) dX2_burnInch_19 (fun H locs hP hD hS => ?_)
  refine lv_aload_n hx hb dX2_burnInch_20 rfl (lv_at hl 0 rfl) ?_
  refine lv_dup hx hb dX2_burnInch_21 rfl ?_
  refine x_get C hP inlX2 3 xw_3 rfl 4 (by decide) mw3_14 rfl dX2_burnInch_22 ?_
  refine lv_aload_n hx hb dX2_burnInch_25 rfl (lv_at hl 1 rfl) ?_
  refine x_get C hP inlX3 30 xw_30 rfl 3 (by decide) mw18_7 rfl dX2_burnInch_26 ?_
  refine lv_iload_n hx hb dX2_burnInch_29 rfl (lv_at hl 2 rfl) ?_
  obtain ⟨g9, x10, ex10, h⟩ := rd_some h
  refine x_ild C hP 34 xw_34 g9 ex10 dX2_burnInch_30 ?_
  refine lv_iadd hx hb dX2_burnInch_31 ?_
  obtain ⟨σ11, eσ11, h⟩ := lt_some h
  refine x_put C hP hD hS inlX2 tyX2 tyX2_ok nmX2 3 xw_3 rfl 4 (by decide) mw3_14 rfl rfl rfl (Nat.le_of_ble_eq_true rfl) (xs_3_4 eσ11) dX2_burnInch_32 (fun H locs hP hD hS => ?_)
  refine lv_aload_n hx hb dX2_burnInch_35 rfl (lv_at hl 0 rfl) ?_
  refine x_get C hP inlX2 3 xw_3 rfl 1 (by decide) mw3_11 rfl dX2_burnInch_36 ?_
  refine lv_iload_n hx hb dX2_burnInch_39 rfl (lv_at hl 2 rfl) ?_
  obtain ⟨g12, x13, ex13, h⟩ := rd_some h
  refine x_ild C hP 5 xw_5 g12 ex13 dX2_burnInch_40 ?_
  refine lv_if_gt (tgt := 51) hx hb dX2_burnInch_41 (by decide) (fun q14 => ?_) (fun q14 => ?_)
  · have h := ifp q14 h
    have z1 := so_inj h
    subst z1
    exact x_vret C hr hP hD hS dX2_burnInch_51
  · have h := ifn q14 h
    refine lv_aload_n hx hb dX2_burnInch_44 rfl (lv_at hl 0 rfl) ?_
    refine x_get C hP inlX2 3 xw_3 rfl 2 (by decide) mw3_12 rfl dX2_burnInch_45 ?_
    refine lv_iload_n hx hb dX2_burnInch_48 rfl (lv_at hl 2 rfl) ?_
    refine lv_iconst (v := 2) hx hb dX2_burnInch_49 (by decide) ?_
    obtain ⟨g15, σ16, eσ16, h⟩ := wr_some h
    refine x_ist C hP hD hS 6 xw_6 g15 (xa_6 eσ16) dX2_burnInch_50 (fun H locs hP hD hS => ?_)
    have z1 := so_inj h
    subst z1
    exact x_vret C hr hP hD hS dX2_burnInch_51
theorem c_X2_burnInch_3_30 {l : Launch} {D : va_G} {cy : Nat → ClassId} {tT tF : Nat} {ad : Nat → Nat} {σ : ES} {a2 : Int32} {σ' : ES} (h : e_X2_burnInch_3_30 a2 σ = some σ') : CMv l yX2_burnInch (Cond.code yX2_burnInch cX2_burnInch 3 none :: wsL_law) { frames := 0, cells := 0, slots := 0, locals := 0 } D cy tT tF [.ref (ad 3), .ref (ad 30), .int a2] (xw cy ad σ) (xw cy ad σ') := x_start (Qc := fun A => (Qv D cy A (xw cy ad σ'))) (by decide) (Nat.le_of_ble_eq_true rfl) (fun p e s m below meth c A ls C hr hP hD hS hl => w_X2_burnInch_3_30_0 C hr a2 σ h s.heap [] hP hD hS ls hl)
set_option maxHeartbeats 4000000 in
set_option maxRecDepth 100000 in
theorem w_X2_goBy_3_30_91 (C : Cx p s m args meth c D cy tT tF A cX2_goBy 6 RX2) (hr : meth.sig.returnType = some .int) {r : Int32} {σ' : ES} {K49 : Int32 → Int32 → Int32 → ES → Option (Int32 × ES)} (hK49 : ∀ (v2 : Int32) (v3 : Int32) (v4 : Int32) (σ : ES), K49 v2 v3 v4 σ = some (r, σ') → ∀ (H : Heap) (locs : List Loc), va_P D vwCl (xw cy ad σ) H → va_D A (xw cy ad σ) → va_S A s.heap H locs → ∀ ls : Array Slot, lv_has ls 6 [(0, .ref (ad 3)), (1, .ref (ad 30)), (2, .int v2), (3, .int v3), (4, .int v4)] → W p l e { frames := 2, cells := 0, slots := 0, locals := 45 } s m args below meth c H locs 0 0 (MQ below (Qi D cy A r (xw cy ad σ')) args s 0 0 A) (F0 m 49 ls [])) (v2 : Int32) (v3 : Int32) (v4 : Int32) (t0 : Int32) (σ : ES) (h : b_X2_goBy_3_30_91 K49 v2 v3 v4 t0 σ = some (r, σ')) (H : Heap) (locs : List Loc) (hP : va_P D vwCl (xw cy ad σ) H) (hD : va_D A (xw cy ad σ)) (hS : va_S A s.heap H locs) (ls : Array Slot) (hl : lv_has ls 6 [(0, .ref (ad 3)), (1, .ref (ad 30)), (2, .int v2), (3, .int v3), (4, .int v4)]) : W p l e { frames := 2, cells := 0, slots := 0, locals := 45 } s m args below meth c H locs 0 0 (MQ below (Qi D cy A r (xw cy ad σ')) args s 0 0 A) (F0 m 91 ls [.int t0]) := by
  obtain ⟨⟨hx, hb, hml, hown, hts⟩, hK, hT, hA, hlk⟩ := id C
  unfold b_X2_goBy_3_30_91 at h
  refine lv_istore (lv' := [(5, .int t0), (0, .ref (ad 3)), (1, .ref (ad 30)), (2, .int v2), (3, .int v3), (4, .int v4)]) hx hb dX2_goBy_91 hl (by decide) rfl (fun ls hl => ?_)
  refine lv_iload hx hb dX2_goBy_93 (lv_at hl 0 rfl) ?_
  refine lv_if_eq (tgt := 131) hx hb dX2_goBy_95 (by decide) (fun q1 => ?_) (fun q1 => ?_)
  · have h := ifp q1 h
    obtain ⟨x2, ex2, h⟩ := lt_some h
    refine lv_iinc (v := x2) (lv' := [(4, .int x2), (5, .int t0), (0, .ref (ad 3)), (1, .ref (ad 30)), (2, .int v2), (3, .int v3)]) hx hb dX2_goBy_131 hl (k := 5) rfl (by rw [ex2]; rfl) (by decide) rfl (fun ls hl => ?_)
    refine lv_goto (tgt := 49) hx hb dX2_goBy_134 (by decide) ?_
    exact hK49 v2 v3 x2 σ h H locs hP hD hS ls (lv_sub hl [2, 3, 4, 5, 0] rfl)
  · have h := ifn q1 h
    refine lv_iload_n hx hb dX2_goBy_98 rfl (lv_at hl 3 rfl) ?_
    refine lv_aload_n hx hb dX2_goBy_99 rfl (lv_at hl 2 rfl) ?_
    refine x_get C hP inlX3 30 xw_30 rfl 4 (by decide) mw17_20 rfl dX2_goBy_100 ?_
    refine lv_iload hx hb dX2_goBy_103 (lv_at hl 5 rfl) ?_
    obtain ⟨g3, x4, ex4, h⟩ := rd_some h
    refine x_ild C hP 35 xw_35 g3 ex4 dX2_goBy_105 ?_
    refine lv_ishr hx hb dX2_goBy_106 ?_
    refine lv_iconst (v := 1) hx hb dX2_goBy_107 (by decide) ?_
    refine lv_iand hx hb dX2_goBy_108 ?_
    refine lv_iconst (v := 1) hx hb dX2_goBy_109 (by decide) ?_
    refine lv_icmp_ne (tgt := 131) hx hb dX2_goBy_110 (by decide) (fun q5 => ?_) (fun q5 => ?_)
    · have h := ifn q5 h
      obtain ⟨x6, ex6, h⟩ := lt_some h
      refine lv_iinc (v := x6) (lv' := [(4, .int x6), (5, .int t0), (0, .ref (ad 3)), (1, .ref (ad 30)), (2, .int v2), (3, .int v3)]) hx hb dX2_goBy_131 hl (k := 5) rfl (by rw [ex6]; rfl) (by decide) rfl (fun ls hl => ?_)
      refine lv_goto (tgt := 49) hx hb dX2_goBy_134 (by decide) ?_
      exact hK49 v2 v3 x6 σ h H locs hP hD hS ls (lv_sub hl [2, 3, 4, 5, 0] rfl)
    · have h := ifp q5 h
      refine lv_aload_n hx hb dX2_goBy_113 rfl (lv_at hl 1 rfl) ?_
      refine x_get C hP inlX2 3 xw_3 rfl 3 (by decide) mw3_13 rfl dX2_goBy_114 ?_
      refine lv_iload hx hb dX2_goBy_117 (lv_at hl 5 rfl) ?_
      refine lv_dup2_11 hx hb dX2_goBy_119 rfl rfl ?_
      obtain ⟨g7, x8, ex8, h⟩ := rd_some h
      refine x_ild C hP 7 xw_7 g7 ex8 dX2_goBy_120 ?_
      refine lv_iconst (v := 1) hx hb dX2_goBy_121 (by decide) ?_
      refine lv_iadd hx hb dX2_goBy_122 ?_
      obtain ⟨g9, σ10, eσ10, h⟩ := wr_some h
      refine x_ist C hP hD hS 7 xw_7 g9 (xa_7 eσ10) dX2_goBy_123 (fun H locs hP hD hS => ?_)
      refine lv_iload_n hx hb dX2_goBy_124 rfl (lv_at hl 4 rfl) ?_
      refine lv_iconst (v := 1) hx hb dX2_goBy_125 (by decide) ?_
      refine lv_iload hx hb dX2_goBy_126 (lv_at hl 5 rfl) ?_
      refine lv_ishl hx hb dX2_goBy_128 ?_
      refine lv_ior hx hb dX2_goBy_129 ?_
      obtain ⟨x11, ex11, h⟩ := lt_some h
      refine x_ti ex11 ?_
      refine lv_istore_n (lv' := [(3, .int x11), (5, .int t0), (0, .ref (ad 3)), (1, .ref (ad 30)), (2, .int v2), (4, .int v4)]) hx hb dX2_goBy_130 rfl hl (by decide) rfl (fun ls hl => ?_)
      obtain ⟨x12, ex12, h⟩ := lt_some h
      refine lv_iinc (v := x12) (lv' := [(4, .int x12), (3, .int x11), (5, .int t0), (0, .ref (ad 3)), (1, .ref (ad 30)), (2, .int v2)]) hx hb dX2_goBy_131 hl (k := 5) rfl (by rw [ex12]; rfl) (by decide) rfl (fun ls hl => ?_)
      refine lv_goto (tgt := 49) hx hb dX2_goBy_134 (by decide) ?_
      exact hK49 v2 x11 x12 σ10 h H locs hP hD hS ls (lv_sub hl [3, 4, 5, 1, 0] rfl)
set_option maxHeartbeats 4000000 in
set_option maxRecDepth 100000 in
theorem w_X2_goBy_3_30_49 (C : Cx p s m args meth c D cy tT tF A cX2_goBy 6 RX2) (hr : meth.sig.returnType = some .int) {r : Int32} {σ' : ES} : ∀ (n : Nat) (v2 : Int32) (v3 : Int32) (v4 : Int32) (σ : ES), b_X2_goBy_3_30_49 n v2 v3 v4 σ = some (r, σ') → ∀ (H : Heap) (locs : List Loc) (hP : va_P D vwCl (xw cy ad σ) H) (hD : va_D A (xw cy ad σ)) (hS : va_S A s.heap H locs) (ls : Array Slot) (hl : lv_has ls 6 [(0, .ref (ad 3)), (1, .ref (ad 30)), (2, .int v2), (3, .int v3), (4, .int v4)]), W p l e { frames := 2, cells := 0, slots := 0, locals := 45 } s m args below meth c H locs 0 0 (MQ below (Qi D cy A r (xw cy ad σ')) args s 0 0 A) (F0 m 49 ls []) := by
  obtain ⟨⟨hx, hb, hml, hown, hts⟩, hK, hT, hA, hlk⟩ := id C
  intro n
  induction n with
  | zero =>
    intro v2 v3 v4 σ h
    exact no_some h
  | succ n ih =>
    intro v2 v3 v4 σ h H locs hP hD hS ls hl
    rw [b_X2_goBy_3_30_49] at h
    refine lv_iload hx hb dX2_goBy_49 (lv_at hl 4 rfl) ?_
    refine lv_aload_n hx hb dX2_goBy_51 rfl (lv_at hl 1 rfl) ?_
    refine x_get C hP inlX3 30 xw_30 rfl 10 (by decide) mw17_17 rfl dX2_goBy_52 ?_
    refine lv_icmp_ge (tgt := 137) hx hb dX2_goBy_55 (by decide) (fun q1 => ?_) (fun q1 => ?_)
    · have h := ifp q1 h
      refine lv_aload_n hx hb dX2_goBy_137 rfl (lv_at hl 0 rfl) ?_
      refine lv_dup hx hb dX2_goBy_138 rfl ?_
      refine x_get C hP inlX2 3 xw_3 rfl 5 (by decide) mw3_15 rfl dX2_goBy_139 ?_
      refine lv_iconst (v := 1) hx hb dX2_goBy_142 (by decide) ?_
      refine lv_iadd hx hb dX2_goBy_143 ?_
      obtain ⟨σ2, eσ2, h⟩ := lt_some h
      refine x_put C hP hD hS inlX2 tyX2 tyX2_ok nmX2 3 xw_3 rfl 5 (by decide) mw3_15 rfl rfl rfl (Nat.le_of_ble_eq_true rfl) (xs_3_5 eσ2) dX2_goBy_144 (fun H locs hP hD hS => ?_)
      refine lv_iload_n hx hb dX2_goBy_147 rfl (lv_at hl 3 rfl) ?_
      obtain ⟨z1, z2⟩ := pr_inj h
      subst z1
      subst z2
      exact x_iret C hr hP hD hS dX2_goBy_148
    · have h := ifn q1 h
      refine lv_aload_n hx hb dX2_goBy_58 rfl (lv_at hl 0 rfl) ?_
      refine x_get C hP inlX2 3 xw_3 rfl 5 (by decide) mw3_15 rfl dX2_goBy_59 ?_
      refine lv_aload_n hx hb dX2_goBy_62 rfl (lv_at hl 1 rfl) ?_
      refine x_get C hP inlX3 30 xw_30 rfl 6 (by decide) mw17_18 rfl dX2_goBy_63 ?_
      refine lv_iload hx hb dX2_goBy_66 (lv_at hl 4 rfl) ?_
      obtain ⟨g3, x4, ex4, h⟩ := rd_some h
      refine x_ild C hP 37 xw_37 g3 ex4 dX2_goBy_68 ?_
      refine lv_icmp_lt (tgt := 90) hx hb dX2_goBy_69 (by decide) (fun q5 => ?_) (fun q5 => ?_)
      · have h := ifp q5 h
        refine lv_iconst (v := 0) hx hb dX2_goBy_90 (by decide) ?_
        exact w_X2_goBy_3_30_91 C hr ih v2 v3 v4 (0 : Int32) σ h H locs hP hD hS ls (lv_sub hl [0, 1, 2, 3, 4] rfl)
      · have h := ifn q5 h
        refine lv_aload_n hx hb dX2_goBy_72 rfl (lv_at hl 0 rfl) ?_
        refine x_get C hP inlX2 3 xw_3 rfl 5 (by decide) mw3_15 rfl dX2_goBy_73 ?_
        refine lv_aload_n hx hb dX2_goBy_76 rfl (lv_at hl 1 rfl) ?_
        refine x_get C hP inlX3 30 xw_30 rfl 7 (by decide) mw17_19 rfl dX2_goBy_77 ?_
        refine lv_iload hx hb dX2_goBy_80 (lv_at hl 4 rfl) ?_
        obtain ⟨g6, x7, ex7, h⟩ := rd_some h
        refine x_ild C hP 38 xw_38 g6 ex7 dX2_goBy_82 ?_
        refine lv_icmp_gt (tgt := 90) hx hb dX2_goBy_83 (by decide) (fun q8 => ?_) (fun q8 => ?_)
        · have h := ifp q8 h
          refine lv_iconst (v := 0) hx hb dX2_goBy_90 (by decide) ?_
          exact w_X2_goBy_3_30_91 C hr ih v2 v3 v4 (0 : Int32) σ h H locs hP hD hS ls (lv_sub hl [0, 1, 2, 3, 4] rfl)
        · have h := ifn q8 h
          refine lv_iconst (v := 1) hx hb dX2_goBy_86 (by decide) ?_
          refine lv_goto (tgt := 91) hx hb dX2_goBy_87 (by decide) ?_
          exact w_X2_goBy_3_30_91 C hr ih v2 v3 v4 (1 : Int32) σ h H locs hP hD hS ls (lv_sub hl [0, 1, 2, 3, 4] rfl)
set_option maxHeartbeats 4000000 in
set_option maxRecDepth 100000 in
theorem w_X2_goBy_3_30_4 (C : Cx p s m args meth c D cy tT tF A cX2_goBy 6 RX2) (hr : meth.sig.returnType = some .int) {r : Int32} {σ' : ES} : ∀ (n : Nat) (v2 : Int32) (v3 : Int32) (σ : ES), b_X2_goBy_3_30_4 n v2 v3 σ = some (r, σ') → ∀ (H : Heap) (locs : List Loc) (hP : va_P D vwCl (xw cy ad σ) H) (hD : va_D A (xw cy ad σ)) (hS : va_S A s.heap H locs) (ls : Array Slot) (hl : lv_has ls 6 [(0, .ref (ad 3)), (1, .ref (ad 30)), (2, .int v2), (3, .int v3)]), W p l e { frames := 2, cells := 0, slots := 0, locals := 45 } s m args below meth c H locs 0 0 (MQ below (Qi D cy A r (xw cy ad σ')) args s 0 0 A) (F0 m 4 ls []) := by
  obtain ⟨⟨hx, hb, hml, hown, hts⟩, hK, hT, hA, hlk⟩ := id C
  intro n
  induction n with
  | zero =>
    intro v2 v3 σ h
    exact no_some h
  | succ n ih =>
    intro v2 v3 σ h H locs hP hD hS ls hl
    rw [b_X2_goBy_3_30_4] at h
    refine lv_iload_n hx hb dX2_goBy_4 rfl (lv_at hl 3 rfl) ?_
    refine lv_aload_n hx hb dX2_goBy_5 rfl (lv_at hl 1 rfl) ?_
    refine x_get C hP inlX3 30 xw_30 rfl 9 (by decide) mw15_18 rfl dX2_goBy_6 ?_
    refine lv_icmp_ge (tgt := 44) hx hb dX2_goBy_9 (by decide) (fun q1 => ?_) (fun q1 => ?_)
    · have h := ifp q1 h
      refine lv_iconst (v := 0) hx hb dX2_goBy_44 (by decide) ?_
      refine lv_istore_n (lv' := [(3, .int (0 : Int32)), (0, .ref (ad 3)), (1, .ref (ad 30)), (2, .int v2)]) hx hb dX2_goBy_45 rfl hl (by decide) rfl (fun ls hl => ?_)
      refine lv_iconst (v := 0) hx hb dX2_goBy_46 (by decide) ?_
      refine lv_istore (lv' := [(4, .int (0 : Int32)), (3, .int (0 : Int32)), (0, .ref (ad 3)), (1, .ref (ad 30)), (2, .int v2)]) hx hb dX2_goBy_47 hl (by decide) rfl (fun ls hl => ?_)
      exact w_X2_goBy_3_30_49 C hr FU v2 (0 : Int32) (0 : Int32) σ h H locs hP hD hS ls (lv_sub hl [2, 3, 4, 1, 0] rfl)
    · have h := ifn q1 h
      refine lv_aload_n hx hb dX2_goBy_12 rfl (lv_at hl 0 rfl) ?_
      refine x_get C hP inlX2 3 xw_3 rfl 2 (by decide) mw3_12 rfl dX2_goBy_13 ?_
      refine lv_iload_n hx hb dX2_goBy_16 rfl (lv_at hl 3 rfl) ?_
      obtain ⟨g2, x3, ex3, h⟩ := rd_some h
      refine x_ild C hP 6 xw_6 g2 ex3 dX2_goBy_17 ?_
      refine lv_iconst (v := 1) hx hb dX2_goBy_18 (by decide) ?_
      refine lv_icmp_ne (tgt := 38) hx hb dX2_goBy_19 (by decide) (fun q4 => ?_) (fun q4 => ?_)
      · have h := ifn q4 h
        obtain ⟨x5, ex5, h⟩ := lt_some h
        refine lv_iinc (v := x5) (lv' := [(3, .int x5), (0, .ref (ad 3)), (1, .ref (ad 30)), (2, .int v2)]) hx hb dX2_goBy_38 hl (k := 3) rfl (by rw [ex5]; rfl) (by decide) rfl (fun ls hl => ?_)
        refine lv_goto (tgt := 4) hx hb dX2_goBy_41 (by decide) ?_
        exact ih v2 x5 σ h H locs hP hD hS ls (lv_sub hl [1, 2, 3, 0] rfl)
      · have h := ifp q4 h
        refine lv_iload_n hx hb dX2_goBy_22 rfl (lv_at hl 2 rfl) ?_
        refine lv_aload_n hx hb dX2_goBy_23 rfl (lv_at hl 0 rfl) ?_
        refine lv_aload_n hx hb dX2_goBy_24 rfl (lv_at hl 1 rfl) ?_
        refine lv_iload_n hx hb dX2_goBy_25 rfl (lv_at hl 3 rfl) ?_
        refine lv_iconst (v := 0) hx hb dX2_goBy_26 (by decide) ?_
        obtain ⟨r7, g6, h⟩ := cl_some h
        refine x_callVi (rest := [.int v2]) C hP hD hS (c_X2_giftBit_3_30 g6) (cwV 3 hts (gV mw17_21 mw17_22 mw17_23 mw1_19 mw18_0) rfl rfl rfl hdV_X2_giftBit ⟨Nat.le_of_ble_eq_true rfl, Nat.le_of_ble_eq_true rfl⟩) xw_3 rfl rfl hl.1 rfl (Nat.le_of_ble_eq_true rfl) dX2_goBy_27 ⟨Nat.zero_le _, Nat.zero_le _⟩ (fun H locs hP hD hS => ?_)
        refine lv_ior hx hb dX2_goBy_30 ?_
        obtain ⟨x8, ex8, h⟩ := lt_some h
        refine x_ti ex8 ?_
        refine lv_istore_n (lv' := [(2, .int x8), (0, .ref (ad 3)), (1, .ref (ad 30)), (3, .int v3)]) hx hb dX2_goBy_31 rfl hl (by decide) rfl (fun ls hl => ?_)
        refine lv_aload_n hx hb dX2_goBy_32 rfl (lv_at hl 1 rfl) ?_
        refine lv_aload_n hx hb dX2_goBy_33 rfl (lv_at hl 2 rfl) ?_
        refine lv_iload_n hx hb dX2_goBy_34 rfl (lv_at hl 3 rfl) ?_
        obtain ⟨σ10, g9, h⟩ := cl_some h
        refine x_callVv (rest := []) C hP hD hS (c_X2_burnInch_3_30 g9) (cwV 2 hts (gV mw18_3 mw18_4 mw18_5 mw1_19 mw18_6) rfl rfl rfl hdV_X2_burnInch ⟨Nat.le_of_ble_eq_true rfl, Nat.le_of_ble_eq_true rfl⟩) xw_3 rfl rfl hl.1 rfl (Nat.le_of_ble_eq_true rfl) dX2_goBy_35 ⟨Nat.zero_le _, Nat.zero_le _⟩ (fun H locs hP hD hS => ?_)
        obtain ⟨x11, ex11, h⟩ := lt_some h
        refine lv_iinc (v := x11) (lv' := [(3, .int x11), (2, .int x8), (0, .ref (ad 3)), (1, .ref (ad 30))]) hx hb dX2_goBy_38 hl (k := 3) rfl (by rw [ex11]; rfl) (by decide) rfl (fun ls hl => ?_)
        refine lv_goto (tgt := 4) hx hb dX2_goBy_41 (by decide) ?_
        exact ih x8 x11 σ10 h H locs hP hD hS ls (lv_sub hl [2, 3, 1, 0] rfl)
set_option maxHeartbeats 4000000 in
set_option maxRecDepth 100000 in
theorem w_X2_goBy_3_30_0 (C : Cx p s m args meth c D cy tT tF A cX2_goBy 6 RX2) (hr : meth.sig.returnType = some .int) {r : Int32} {σ' : ES} (σ : ES) (h : b_X2_goBy_3_30_0 σ = some (r, σ')) (H : Heap) (locs : List Loc) (hP : va_P D vwCl (xw cy ad σ) H) (hD : va_D A (xw cy ad σ)) (hS : va_S A s.heap H locs) (ls : Array Slot) (hl : lv_has ls 6 [(0, .ref (ad 3)), (1, .ref (ad 30))]) : W p l e { frames := 2, cells := 0, slots := 0, locals := 45 } s m args below meth c H locs 0 0 (MQ below (Qi D cy A r (xw cy ad σ')) args s 0 0 A) (F0 m 0 ls []) := by
  obtain ⟨⟨hx, hb, hml, hown, hts⟩, hK, hT, hA, hlk⟩ := id C
  unfold b_X2_goBy_3_30_0 at h
  refine lv_iconst (v := 0) hx hb dX2_goBy_0 (by decide) ?_
  refine lv_istore_n (lv' := [(2, .int (0 : Int32)), (0, .ref (ad 3)), (1, .ref (ad 30))]) hx hb dX2_goBy_1 rfl hl (by decide) rfl (fun ls hl => ?_)
  refine lv_iconst (v := 0) hx hb dX2_goBy_2 (by decide) ?_
  refine lv_istore_n (lv' := [(3, .int (0 : Int32)), (2, .int (0 : Int32)), (0, .ref (ad 3)), (1, .ref (ad 30))]) hx hb dX2_goBy_3 rfl hl (by decide) rfl (fun ls hl => ?_)
  exact w_X2_goBy_3_30_4 C hr FU (0 : Int32) (0 : Int32) σ h H locs hP hD hS ls (lv_sub hl [2, 3, 1, 0] rfl)
theorem c_X2_goBy_3_30 {l : Launch} {D : va_G} {cy : Nat → ClassId} {tT tF : Nat} {ad : Nat → Nat} {σ : ES} {r : Int32} {σ' : ES} (h : e_X2_goBy_3_30  σ = some (r, σ')) : CMi l yX2_goBy (Cond.code yX2_goBy cX2_goBy 6 (some .int) :: wsL_law) { frames := 2, cells := 0, slots := 0, locals := 45 } D cy tT tF [.ref (ad 3), .ref (ad 30)] (xw cy ad σ) r (xw cy ad σ') := x_start (Qc := fun A => (Qi D cy A r (xw cy ad σ'))) (by decide) (Nat.le_of_ble_eq_true rfl) (fun p e s m below meth c A ls C hr hP hD hS hl => w_X2_goBy_3_30_0 C hr  σ h s.heap [] hP hD hS ls hl)
set_option maxHeartbeats 4000000 in
set_option maxRecDepth 100000 in
theorem w_X7_step_0_0 (C : Cx p s m args meth c D cy tT tF A cX7_step 1 RX7) (hr : meth.sig.returnType = some .int) {r : Int32} {σ' : ES} (σ : ES) (h : b_X7_step_0_0 σ = some (r, σ')) (H : Heap) (locs : List Loc) (hP : va_P D vwCl (xw cy ad σ) H) (hD : va_D A (xw cy ad σ)) (hS : va_S A s.heap H locs) (ls : Array Slot) (hl : lv_has ls 1 [(0, .ref (ad 0))]) : W p l e { frames := 3, cells := 0, slots := 0, locals := 70 } s m args below meth c H locs 0 0 (MQ below (Qi D cy A r (xw cy ad σ')) args s 0 0 A) (F0 m 0 ls []) := by
  obtain ⟨⟨hx, hb, hml, hown, hts⟩, hK, hT, hA, hlk⟩ := id C
  unfold b_X7_step_0_0 at h
  refine lv_aload_n hx hb dX7_step_0 rfl (lv_at hl 0 rfl) ?_
  refine x_get C hP inlX7 0 xw_0 rfl 1 (by decide) mw1_20 rfl dX7_step_1 ?_
  refine x_get C hP inlX2 3 xw_3 rfl 5 (by decide) mw17_12 rfl dX7_step_4 ?_
  refine lv_bipush (v := 20) hx hb dX7_step_7 (by decide) ?_
  refine lv_icmp_lt (tgt := 15) hx hb dX7_step_9 (by decide) (fun q1 => ?_) (fun q1 => ?_)
  · have h := ifp q1 h
    refine lv_aload_n hx hb dX7_step_15 rfl (lv_at hl 0 rfl) ?_
    obtain ⟨σ3, g2, h⟩ := cl_some h
    refine x_callVv (rest := []) C hP hD hS (c_X7_rememberAct_0 g2) (cwV 0 hts (gV mw15_2 mw15_3 mw15_4 mw1_2 mw15_5) rfl rfl rfl hdV_X7_rememberAct ⟨Nat.le_of_ble_eq_true rfl, Nat.le_of_ble_eq_true rfl⟩) xw_0 rfl rfl hl.1 rfl (Nat.le_of_ble_eq_true rfl) dX7_step_16 ⟨Nat.zero_le _, Nat.zero_le _⟩ (fun H locs hP hD hS => ?_)
    refine lv_aload_n hx hb dX7_step_19 rfl (lv_at hl 0 rfl) ?_
    refine x_get C hP inlX7 0 xw_0 rfl 1 (by decide) mw1_20 rfl dX7_step_20 ?_
    refine lv_aload_n hx hb dX7_step_23 rfl (lv_at hl 0 rfl) ?_
    refine x_get C hP inlX7 0 xw_0 rfl 9 (by decide) mw2_21 rfl dX7_step_24 ?_
    obtain ⟨r6, σ5, g4, h⟩ := cs_some h
    refine x_callVi (rest := []) C hP hD hS (c_X2_goBy_3_30 g4) (cwV 1 hts (gV mw17_13 mw17_14 mw17_15 mw1_19 mw17_16) rfl rfl rfl hdV_X2_goBy ⟨Nat.le_of_ble_eq_true rfl, Nat.le_of_ble_eq_true rfl⟩) xw_3 rfl rfl hl.1 rfl (Nat.le_of_ble_eq_true rfl) dX7_step_27 ⟨Nat.zero_le _, Nat.zero_le _⟩ (fun H locs hP hD hS => ?_)
    obtain ⟨z1, z2⟩ := pr_inj h
    subst z1
    subst z2
    exact x_iret C hr hP hD hS dX7_step_30
  · have h := ifn q1 h
    refine lv_bipush (v := -3) hx hb dX7_step_12 (by decide) ?_
    obtain ⟨z1, z2⟩ := pr_inj h
    subst z1
    subst z2
    exact x_iret C hr hP hD hS dX7_step_14
theorem c_X7_step_0 {l : Launch} {D : va_G} {cy : Nat → ClassId} {tT tF : Nat} {ad : Nat → Nat} {σ : ES} {r : Int32} {σ' : ES} (h : e_X7_step_0  σ = some (r, σ')) : CMi l yX7_step (Cond.code yX7_step cX7_step 1 (some .int) :: wsL_law) { frames := 3, cells := 0, slots := 0, locals := 70 } D cy tT tF [.ref (ad 0)] (xw cy ad σ) r (xw cy ad σ') := x_start (Qc := fun A => (Qi D cy A r (xw cy ad σ'))) (by decide) (Nat.le_of_ble_eq_true rfl) (fun p e s m below meth c A ls C hr hP hD hS hl => w_X7_step_0_0 C hr  σ h s.heap [] hP hD hS ls hl)
set_option maxHeartbeats 4000000 in
set_option maxRecDepth 100000 in
theorem w_X2_loadFrom_3_14_72 (C : Cx p s m args meth c D cy tT tF A cX2_loadFrom 4 RX2) (hr : meth.sig.returnType = none) {σ' : ES} : ∀ (n : Nat) (v2 : Int32) (v3 : Int32) (σ : ES), b_X2_loadFrom_3_14_72 n v2 v3 σ = some σ' → ∀ (H : Heap) (locs : List Loc) (hP : va_P D vwCl (xw cy ad σ) H) (hD : va_D A (xw cy ad σ)) (hS : va_S A s.heap H locs) (ls : Array Slot) (hl : lv_has ls 4 [(0, .ref (ad 3)), (1, .ref (ad 14)), (2, .int v2), (3, .int v3)]), W p l e { frames := 0, cells := 0, slots := 0, locals := 0 } s m args below meth c H locs 0 0 (MQ below (Qv D cy A (xw cy ad σ')) args s 0 0 A) (F0 m 72 ls []) := by
  obtain ⟨⟨hx, hb, hml, hown, hts⟩, hK, hT, hA, hlk⟩ := id C
  intro n
  induction n with
  | zero =>
    intro v2 v3 σ h
    exact no_some h
  | succ n ih =>
    intro v2 v3 σ h H locs hP hD hS ls hl
    rw [b_X2_loadFrom_3_14_72] at h
    refine lv_iload_n hx hb dX2_loadFrom_72 rfl (lv_at hl 3 rfl) ?_
    refine lv_iconst (v := 4) hx hb dX2_loadFrom_73 (by decide) ?_
    refine lv_icmp_ge (tgt := 97) hx hb dX2_loadFrom_74 (by decide) (fun q1 => ?_) (fun q1 => ?_)
    · have h := ifp q1 h
      refine lv_aload_n hx hb dX2_loadFrom_97 rfl (lv_at hl 0 rfl) ?_
      refine lv_aload_n hx hb dX2_loadFrom_98 rfl (lv_at hl 1 rfl) ?_
      refine lv_iload_n hx hb dX2_loadFrom_99 rfl (lv_at hl 2 rfl) ?_
      refine lv_bipush (v := 18) hx hb dX2_loadFrom_100 (by decide) ?_
      refine lv_iadd hx hb dX2_loadFrom_102 ?_
      refine lv_iconst (v := 2) hx hb dX2_loadFrom_103 (by decide) ?_
      refine lv_isub hx hb dX2_loadFrom_104 ?_
      obtain ⟨g2, x3, ex3, h⟩ := rd_some h
      refine x_ild C hP 14 xw_14 g2 ex3 dX2_loadFrom_105 ?_
      obtain ⟨σ4, eσ4, h⟩ := lt_some h
      refine x_put C hP hD hS inlX2 tyX2 tyX2_ok nmX2 3 xw_3 rfl 4 (by decide) mw3_14 rfl rfl rfl (Nat.le_of_ble_eq_true rfl) (xs_3_4 eσ4) dX2_loadFrom_106 (fun H locs hP hD hS => ?_)
      refine lv_aload_n hx hb dX2_loadFrom_109 rfl (lv_at hl 0 rfl) ?_
      refine lv_aload_n hx hb dX2_loadFrom_110 rfl (lv_at hl 1 rfl) ?_
      refine lv_iload_n hx hb dX2_loadFrom_111 rfl (lv_at hl 2 rfl) ?_
      refine lv_bipush (v := 18) hx hb dX2_loadFrom_112 (by decide) ?_
      refine lv_iadd hx hb dX2_loadFrom_114 ?_
      refine lv_iconst (v := 1) hx hb dX2_loadFrom_115 (by decide) ?_
      refine lv_isub hx hb dX2_loadFrom_116 ?_
      obtain ⟨g5, x6, ex6, h⟩ := rd_some h
      refine x_ild C hP 14 xw_14 g5 ex6 dX2_loadFrom_117 ?_
      obtain ⟨σ7, eσ7, h⟩ := lt_some h
      refine x_put C hP hD hS inlX2 tyX2 tyX2_ok nmX2 3 xw_3 rfl 5 (by decide) mw3_15 rfl rfl rfl (Nat.le_of_ble_eq_true rfl) (xs_3_5 eσ7) dX2_loadFrom_118 (fun H locs hP hD hS => ?_)
      have z1 := so_inj h
      subst z1
      exact x_vret C hr hP hD hS dX2_loadFrom_121
    · have h := ifn q1 h
      refine lv_aload_n hx hb dX2_loadFrom_77 rfl (lv_at hl 0 rfl) ?_
      refine x_get C hP inlX2 3 xw_3 rfl 3 (by decide) mw3_13 rfl dX2_loadFrom_78 ?_
      refine lv_iload_n hx hb dX2_loadFrom_81 rfl (lv_at hl 3 rfl) ?_
      refine lv_aload_n hx hb dX2_loadFrom_82 rfl (lv_at hl 1 rfl) ?_
      refine lv_iload_n hx hb dX2_loadFrom_83 rfl (lv_at hl 2 rfl) ?_
      refine lv_bipush (v := 12) hx hb dX2_loadFrom_84 (by decide) ?_
      refine lv_iadd hx hb dX2_loadFrom_86 ?_
      refine lv_iload_n hx hb dX2_loadFrom_87 rfl (lv_at hl 3 rfl) ?_
      refine lv_iadd hx hb dX2_loadFrom_88 ?_
      obtain ⟨g8, x9, ex9, h⟩ := rd_some h
      refine x_ild C hP 14 xw_14 g8 ex9 dX2_loadFrom_89 ?_
      obtain ⟨g10, σ11, eσ11, h⟩ := wr_some h
      refine x_ist C hP hD hS 7 xw_7 g10 (xa_7 eσ11) dX2_loadFrom_90 (fun H locs hP hD hS => ?_)
      obtain ⟨x12, ex12, h⟩ := lt_some h
      refine lv_iinc (v := x12) (lv' := [(3, .int x12), (0, .ref (ad 3)), (1, .ref (ad 14)), (2, .int v2)]) hx hb dX2_loadFrom_91 hl (k := 3) rfl (by rw [ex12]; rfl) (by decide) rfl (fun ls hl => ?_)
      refine lv_goto (tgt := 72) hx hb dX2_loadFrom_94 (by decide) ?_
      exact ih v2 x12 σ11 h H locs hP hD hS ls (lv_sub hl [1, 2, 3, 0] rfl)
set_option maxHeartbeats 4000000 in
set_option maxRecDepth 100000 in
theorem w_X2_loadFrom_3_14_16 (C : Cx p s m args meth c D cy tT tF A cX2_loadFrom 4 RX2) (hr : meth.sig.returnType = none) {σ' : ES} : ∀ (n : Nat) (v2 : Int32) (v3 : Int32) (σ : ES), b_X2_loadFrom_3_14_16 n v2 v3 σ = some σ' → ∀ (H : Heap) (locs : List Loc) (hP : va_P D vwCl (xw cy ad σ) H) (hD : va_D A (xw cy ad σ)) (hS : va_S A s.heap H locs) (ls : Array Slot) (hl : lv_has ls 4 [(0, .ref (ad 3)), (1, .ref (ad 14)), (2, .int v2), (3, .int v3)]), W p l e { frames := 0, cells := 0, slots := 0, locals := 0 } s m args below meth c H locs 0 0 (MQ below (Qv D cy A (xw cy ad σ')) args s 0 0 A) (F0 m 16 ls []) := by
  obtain ⟨⟨hx, hb, hml, hown, hts⟩, hK, hT, hA, hlk⟩ := id C
  intro n
  induction n with
  | zero =>
    intro v2 v3 σ h
    exact no_some h
  | succ n ih =>
    intro v2 v3 σ h H locs hP hD hS ls hl
    rw [b_X2_loadFrom_3_14_16] at h
    refine lv_iload_n hx hb dX2_loadFrom_16 rfl (lv_at hl 3 rfl) ?_
    refine lv_iconst (v := 4) hx hb dX2_loadFrom_17 (by decide) ?_
    refine lv_icmp_ge (tgt := 70) hx hb dX2_loadFrom_18 (by decide) (fun q1 => ?_) (fun q1 => ?_)
    · have h := ifp q1 h
      refine lv_iconst (v := 0) hx hb dX2_loadFrom_70 (by decide) ?_
      refine lv_istore_n (lv' := [(3, .int (0 : Int32)), (0, .ref (ad 3)), (1, .ref (ad 14)), (2, .int v2)]) hx hb dX2_loadFrom_71 rfl hl (by decide) rfl (fun ls hl => ?_)
      exact w_X2_loadFrom_3_14_72 C hr FU v2 (0 : Int32) σ h H locs hP hD hS ls (lv_sub hl [1, 2, 3, 0] rfl)
    · have h := ifn q1 h
      refine lv_aload_n hx hb dX2_loadFrom_21 rfl (lv_at hl 0 rfl) ?_
      refine x_get C hP inlX2 3 xw_3 rfl 0 (by decide) mw3_10 rfl dX2_loadFrom_22 ?_
      refine lv_iload_n hx hb dX2_loadFrom_25 rfl (lv_at hl 3 rfl) ?_
      refine lv_aload_n hx hb dX2_loadFrom_26 rfl (lv_at hl 1 rfl) ?_
      refine lv_iload_n hx hb dX2_loadFrom_27 rfl (lv_at hl 2 rfl) ?_
      refine lv_iconst (v := 3) hx hb dX2_loadFrom_28 (by decide) ?_
      refine lv_iload_n hx hb dX2_loadFrom_29 rfl (lv_at hl 3 rfl) ?_
      refine lv_imul hx hb dX2_loadFrom_30 ?_
      refine lv_iadd hx hb dX2_loadFrom_31 ?_
      obtain ⟨g2, x3, ex3, h⟩ := rd_some h
      refine x_ild C hP 14 xw_14 g2 ex3 dX2_loadFrom_32 ?_
      obtain ⟨g4, σ5, eσ5, h⟩ := wr_some h
      refine x_ist C hP hD hS 4 xw_4 g4 (xa_4 eσ5) dX2_loadFrom_33 (fun H locs hP hD hS => ?_)
      refine lv_aload_n hx hb dX2_loadFrom_34 rfl (lv_at hl 0 rfl) ?_
      refine x_get C hP inlX2 3 xw_3 rfl 1 (by decide) mw3_11 rfl dX2_loadFrom_35 ?_
      refine lv_iload_n hx hb dX2_loadFrom_38 rfl (lv_at hl 3 rfl) ?_
      refine lv_aload_n hx hb dX2_loadFrom_39 rfl (lv_at hl 1 rfl) ?_
      refine lv_iload_n hx hb dX2_loadFrom_40 rfl (lv_at hl 2 rfl) ?_
      refine lv_iconst (v := 3) hx hb dX2_loadFrom_41 (by decide) ?_
      refine lv_iload_n hx hb dX2_loadFrom_42 rfl (lv_at hl 3 rfl) ?_
      refine lv_imul hx hb dX2_loadFrom_43 ?_
      refine lv_iadd hx hb dX2_loadFrom_44 ?_
      refine lv_iconst (v := 1) hx hb dX2_loadFrom_45 (by decide) ?_
      refine lv_iadd hx hb dX2_loadFrom_46 ?_
      obtain ⟨g6, x7, ex7, h⟩ := rd_some h
      refine x_ild C hP 14 xw_14 g6 ex7 dX2_loadFrom_47 ?_
      obtain ⟨g8, σ9, eσ9, h⟩ := wr_some h
      refine x_ist C hP hD hS 5 xw_5 g8 (xa_5 eσ9) dX2_loadFrom_48 (fun H locs hP hD hS => ?_)
      refine lv_aload_n hx hb dX2_loadFrom_49 rfl (lv_at hl 0 rfl) ?_
      refine x_get C hP inlX2 3 xw_3 rfl 2 (by decide) mw3_12 rfl dX2_loadFrom_50 ?_
      refine lv_iload_n hx hb dX2_loadFrom_53 rfl (lv_at hl 3 rfl) ?_
      refine lv_aload_n hx hb dX2_loadFrom_54 rfl (lv_at hl 1 rfl) ?_
      refine lv_iload_n hx hb dX2_loadFrom_55 rfl (lv_at hl 2 rfl) ?_
      refine lv_iconst (v := 3) hx hb dX2_loadFrom_56 (by decide) ?_
      refine lv_iload_n hx hb dX2_loadFrom_57 rfl (lv_at hl 3 rfl) ?_
      refine lv_imul hx hb dX2_loadFrom_58 ?_
      refine lv_iadd hx hb dX2_loadFrom_59 ?_
      refine lv_iconst (v := 2) hx hb dX2_loadFrom_60 (by decide) ?_
      refine lv_iadd hx hb dX2_loadFrom_61 ?_
      obtain ⟨g10, x11, ex11, h⟩ := rd_some h
      refine x_ild C hP 14 xw_14 g10 ex11 dX2_loadFrom_62 ?_
      obtain ⟨g12, σ13, eσ13, h⟩ := wr_some h
      refine x_ist C hP hD hS 6 xw_6 g12 (xa_6 eσ13) dX2_loadFrom_63 (fun H locs hP hD hS => ?_)
      obtain ⟨x14, ex14, h⟩ := lt_some h
      refine lv_iinc (v := x14) (lv' := [(3, .int x14), (0, .ref (ad 3)), (1, .ref (ad 14)), (2, .int v2)]) hx hb dX2_loadFrom_64 hl (k := 3) rfl (by rw [ex14]; rfl) (by decide) rfl (fun ls hl => ?_)
      refine lv_goto (tgt := 16) hx hb dX2_loadFrom_67 (by decide) ?_
      exact ih v2 x14 σ13 h H locs hP hD hS ls (lv_sub hl [1, 2, 3, 0] rfl)
set_option maxHeartbeats 4000000 in
set_option maxRecDepth 100000 in
theorem w_X2_loadFrom_3_14_0 (C : Cx p s m args meth c D cy tT tF A cX2_loadFrom 4 RX2) (hr : meth.sig.returnType = none) {σ' : ES} (a2 : Int32) (σ : ES) (h : b_X2_loadFrom_3_14_0 a2 σ = some σ') (H : Heap) (locs : List Loc) (hP : va_P D vwCl (xw cy ad σ) H) (hD : va_D A (xw cy ad σ)) (hS : va_S A s.heap H locs) (ls : Array Slot) (hl : lv_has ls 4 [(0, .ref (ad 3)), (1, .ref (ad 14)), (2, .int a2)]) : W p l e { frames := 0, cells := 0, slots := 0, locals := 0 } s m args below meth c H locs 0 0 (MQ below (Qv D cy A (xw cy ad σ')) args s 0 0 A) (F0 m 0 ls []) := by
  obtain ⟨⟨hx, hb, hml, hown, hts⟩, hK, hT, hA, hlk⟩ := id C
  unfold b_X2_loadFrom_3_14_0 at h
  refine lv_iload_n hx hb dX2_loadFrom_0 rfl (lv_at hl 2 rfl) ?_
  refine lv_if_lt (tgt := 13) hx hb dX2_loadFrom_1 (by decide) (fun q1 => ?_) (fun q1 => ?_)
  · have h := ifp q1 h
    have z1 := so_inj h
    subst z1
    exact x_vret C hr hP hD hS dX2_loadFrom_13
  · have h := ifn q1 h
    refine lv_iload_n hx hb dX2_loadFrom_4 rfl (lv_at hl 2 rfl) ?_
    refine lv_bipush (v := 18) hx hb dX2_loadFrom_5 (by decide) ?_
    refine lv_iadd hx hb dX2_loadFrom_7 ?_
    refine lv_aload_n hx hb dX2_loadFrom_8 rfl (lv_at hl 1 rfl) ?_
    refine x_alen C hP 14 xw_14 (v := 288) rfl dX2_loadFrom_9 ?_
    refine lv_icmp_le (tgt := 14) hx hb dX2_loadFrom_10 (by decide) (fun q2 => ?_) (fun q2 => ?_)
    · have h := ifp q2 h
      refine lv_iconst (v := 0) hx hb dX2_loadFrom_14 (by decide) ?_
      refine lv_istore_n (lv' := [(3, .int (0 : Int32)), (0, .ref (ad 3)), (1, .ref (ad 14)), (2, .int a2)]) hx hb dX2_loadFrom_15 rfl hl (by decide) rfl (fun ls hl => ?_)
      exact w_X2_loadFrom_3_14_16 C hr FU a2 (0 : Int32) σ h H locs hP hD hS ls (lv_sub hl [1, 2, 3, 0] rfl)
    · have h := ifn q2 h
      have z1 := so_inj h
      subst z1
      exact x_vret C hr hP hD hS dX2_loadFrom_13
theorem c_X2_loadFrom_3_14 {l : Launch} {D : va_G} {cy : Nat → ClassId} {tT tF : Nat} {ad : Nat → Nat} {σ : ES} {a2 : Int32} {σ' : ES} (h : e_X2_loadFrom_3_14 a2 σ = some σ') : CMv l yX2_loadFrom (Cond.code yX2_loadFrom cX2_loadFrom 4 none :: wsL_law) { frames := 0, cells := 0, slots := 0, locals := 0 } D cy tT tF [.ref (ad 3), .ref (ad 14), .int a2] (xw cy ad σ) (xw cy ad σ') := x_start (Qc := fun A => (Qv D cy A (xw cy ad σ'))) (by decide) (Nat.le_of_ble_eq_true rfl) (fun p e s m below meth c A ls C hr hP hD hS hl => w_X2_loadFrom_3_14_0 C hr a2 σ h s.heap [] hP hD hS ls hl)
set_option maxHeartbeats 4000000 in
set_option maxRecDepth 100000 in
theorem w_X0_takeBack_13_3_0 (C : Cx p s m args meth c D cy tT tF A cX0_takeBack 2 RX0) (hr : meth.sig.returnType = none) {σ' : ES} (σ : ES) (h : b_X0_takeBack_13_3_0 σ = some σ') (H : Heap) (locs : List Loc) (hP : va_P D vwCl (xw cy ad σ) H) (hD : va_D A (xw cy ad σ)) (hS : va_S A s.heap H locs) (ls : Array Slot) (hl : lv_has ls 2 [(0, .ref (ad 13)), (1, .ref (ad 3))]) : W p l e { frames := 1, cells := 0, slots := 0, locals := 23 } s m args below meth c H locs 0 0 (MQ below (Qv D cy A (xw cy ad σ')) args s 0 0 A) (F0 m 0 ls []) := by
  obtain ⟨⟨hx, hb, hml, hown, hts⟩, hK, hT, hA, hlk⟩ := id C
  unfold b_X0_takeBack_13_3_0 at h
  refine lv_aload_n hx hb dX0_takeBack_0 rfl (lv_at hl 0 rfl) ?_
  refine x_get C hP inlX0 13 xw_13 rfl 2 (by decide) mw3_22 rfl dX0_takeBack_1 ?_
  refine lv_if_le (tgt := 40) hx hb dX0_takeBack_4 (by decide) (fun q1 => ?_) (fun q1 => ?_)
  · have h := ifp q1 h
    have z1 := so_inj h
    subst z1
    exact x_vret C hr hP hD hS dX0_takeBack_40
  · have h := ifn q1 h
    refine lv_aload_n hx hb dX0_takeBack_7 rfl (lv_at hl 0 rfl) ?_
    refine lv_dup hx hb dX0_takeBack_8 rfl ?_
    refine x_get C hP inlX0 13 xw_13 rfl 2 (by decide) mw3_22 rfl dX0_takeBack_9 ?_
    refine lv_iconst (v := 1) hx hb dX0_takeBack_12 (by decide) ?_
    refine lv_isub hx hb dX0_takeBack_13 ?_
    obtain ⟨σ2, eσ2, h⟩ := lt_some h
    refine x_put C hP hD hS inlX0 tyX0 tyX0_ok nmX0 13 xw_13 rfl 2 (by decide) mw3_22 rfl rfl rfl (Nat.le_of_ble_eq_true rfl) (xs_13_2 eσ2) dX0_takeBack_14 (fun H locs hP hD hS => ?_)
    refine lv_aload_n hx hb dX0_takeBack_17 rfl (lv_at hl 1 rfl) ?_
    refine lv_aload_n hx hb dX0_takeBack_18 rfl (lv_at hl 0 rfl) ?_
    refine x_get C hP inlX0 13 xw_13 rfl 0 (by decide) mw3_20 rfl dX0_takeBack_19 ?_
    refine lv_aload_n hx hb dX0_takeBack_22 rfl (lv_at hl 0 rfl) ?_
    refine x_get C hP inlX0 13 xw_13 rfl 1 (by decide) mw3_21 rfl dX0_takeBack_23 ?_
    refine lv_aload_n hx hb dX0_takeBack_26 rfl (lv_at hl 0 rfl) ?_
    refine x_get C hP inlX0 13 xw_13 rfl 2 (by decide) mw3_22 rfl dX0_takeBack_27 ?_
    refine lv_iadd hx hb dX0_takeBack_30 ?_
    refine lv_bipush (v := 16) hx hb dX0_takeBack_31 (by decide) ?_
    refine lv_irem hx hb dX0_takeBack_33 (by decide) ?_
    refine lv_bipush (v := 18) hx hb dX0_takeBack_34 (by decide) ?_
    refine lv_imul hx hb dX0_takeBack_36 ?_
    obtain ⟨σ4, g3, h⟩ := cl_some h
    refine x_callVv (rest := []) C hP hD hS (c_X2_loadFrom_3_14 g3) (cwV 2 hts (gV mw19_4 mw19_5 mw19_6 mw1_19 mw19_7) rfl rfl rfl hdV_X2_loadFrom ⟨Nat.le_of_ble_eq_true rfl, Nat.le_of_ble_eq_true rfl⟩) xw_3 rfl rfl hl.1 rfl (Nat.le_of_ble_eq_true rfl) dX0_takeBack_37 ⟨Nat.zero_le _, Nat.zero_le _⟩ (fun H locs hP hD hS => ?_)
    have z1 := so_inj h
    subst z1
    exact x_vret C hr hP hD hS dX0_takeBack_40
theorem c_X0_takeBack_13_3 {l : Launch} {D : va_G} {cy : Nat → ClassId} {tT tF : Nat} {ad : Nat → Nat} {σ : ES} {σ' : ES} (h : e_X0_takeBack_13_3  σ = some σ') : CMv l yX0_takeBack (Cond.code yX0_takeBack cX0_takeBack 2 none :: wsL_law) { frames := 1, cells := 0, slots := 0, locals := 23 } D cy tT tF [.ref (ad 13), .ref (ad 3)] (xw cy ad σ) (xw cy ad σ') := x_start (Qc := fun A => (Qv D cy A (xw cy ad σ'))) (by decide) (Nat.le_of_ble_eq_true rfl) (fun p e s m below meth c A ls C hr hP hD hS hl => w_X0_takeBack_13_3_0 C hr  σ h s.heap [] hP hD hS ls hl)
end WK7

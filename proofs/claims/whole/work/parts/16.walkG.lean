section WK6
variable {p : Program} {l : Launch} {e : Env} {R : Room} {s : State} {m : MethodId} {args : Array Value} {below : List Frame} {meth : Method} {c : Code} {D : va_G} {cy : Nat → ClassId} {tT tF : Nat} {A : Nat → Prop} {ad : Nat → Nat} {ws : va_W}
set_option maxHeartbeats 4000000 in
set_option maxRecDepth 100000 in
theorem w_X6_readCandle_1_39_0 (C : Cx p s m args meth c D cy tT tF A cX6_readCandle 9 RX6) (hr : meth.sig.returnType = some .int) {r : Int32} {σ' : ES} (a1 : Int32) (σ : ES) (h : b_X6_readCandle_1_39_0 a1 σ = some (r, σ')) (H : Heap) (locs : List Loc) (hP : va_P D vwCl (xw cy ad σ) H) (hD : va_D A (xw cy ad σ)) (hS : va_S A s.heap H locs) (ls : Array Slot) (hl : lv_has ls 9 [(0, .ref (ad 1)), (1, .int a1), (2, .ref (ad 39))]) : W p l e { frames := 2, cells := 0, slots := 0, locals := 46 } s m args below meth c H locs 0 0 (MQ below (Qi D cy A r (xw cy ad σ')) args s 0 0 A) (F0 m 0 ls []) := by
  obtain ⟨⟨hx, hb, hml, hown, hts⟩, hK, hT, hA, hlk⟩ := id C
  unfold b_X6_readCandle_1_39_0 at h
  refine lv_aload_n hx hb dX6_readCandle_0 rfl (lv_at hl 2 rfl) ?_
  refine x_get C hP inlX3 39 xw_39 rfl 8 (by decide) mw8_9 rfl dX6_readCandle_1 ?_
  refine lv_iconst (v := 1) hx hb dX6_readCandle_4 (by decide) ?_
  refine lv_isub hx hb dX6_readCandle_5 ?_
  obtain ⟨x1, ex1, h⟩ := lt_some h
  refine x_ti ex1 ?_
  refine lv_istore_n (lv' := [(3, .int x1), (0, .ref (ad 1)), (1, .int a1), (2, .ref (ad 39))]) hx hb dX6_readCandle_6 rfl hl (by decide) rfl (fun ls hl => ?_)
  refine lv_aload_n hx hb dX6_readCandle_7 rfl (lv_at hl 1 rfl) ?_
  refine lv_iload_n hx hb dX6_readCandle_8 rfl (lv_at hl 2 rfl) ?_
  refine lv_iconst (v := 1) hx hb dX6_readCandle_9 (by decide) ?_
  refine lv_iadd hx hb dX6_readCandle_10 ?_
  refine lv_iconst (v := 0) hx hb dX6_readCandle_11 (by decide) ?_
  refine lv_iload_n hx hb dX6_readCandle_12 rfl (lv_at hl 0 rfl) ?_
  refine lv_bipush (v := 10) hx hb dX6_readCandle_13 (by decide) ?_
  refine lv_idiv hx hb dX6_readCandle_15 (by decide) ?_
  obtain ⟨r3, g2, h⟩ := cl_some h
  refine x_callVi (rest := []) C hP hD hS (c_X6_figureAt_1 g2) (cwV 3 hts (gV mw9_16 mw9_17 mw9_18 mw1_15 mw9_19) rfl rfl rfl hdV_X6_figureAt ⟨Nat.le_of_ble_eq_true rfl, Nat.le_of_ble_eq_true rfl⟩) xw_1 rfl rfl hl.1 rfl (Nat.le_of_ble_eq_true rfl) dX6_readCandle_16 ⟨Nat.zero_le _, Nat.zero_le _⟩ (fun H locs hP hD hS => ?_)
  refine lv_istore (lv' := [(4, .int r3), (3, .int x1), (0, .ref (ad 1)), (1, .int a1), (2, .ref (ad 39))]) hx hb dX6_readCandle_19 hl (by decide) rfl (fun ls hl => ?_)
  refine lv_iload hx hb dX6_readCandle_21 (lv_at hl 0 rfl) ?_
  refine lv_bipush (v := -9) hx hb dX6_readCandle_23 (by decide) ?_
  refine lv_icmp_ne (tgt := 32) hx hb dX6_readCandle_25 (by decide) (fun q4 => ?_) (fun q4 => ?_)
  · have h := ifn q4 h
    refine lv_aload_n hx hb dX6_readCandle_32 rfl (lv_at hl 2 rfl) ?_
    refine lv_iload_n hx hb dX6_readCandle_33 rfl (lv_at hl 3 rfl) ?_
    refine lv_iconst (v := 2) hx hb dX6_readCandle_34 (by decide) ?_
    refine lv_iadd hx hb dX6_readCandle_35 ?_
    refine lv_iconst (v := 0) hx hb dX6_readCandle_36 (by decide) ?_
    refine lv_iload_n hx hb dX6_readCandle_37 rfl (lv_at hl 1 rfl) ?_
    refine lv_bipush (v := 10) hx hb dX6_readCandle_38 (by decide) ?_
    refine lv_iload hx hb dX6_readCandle_40 (lv_at hl 0 rfl) ?_
    refine lv_imul hx hb dX6_readCandle_42 ?_
    refine lv_isub hx hb dX6_readCandle_43 ?_
    obtain ⟨r6, g5, h⟩ := cl_some h
    refine x_callVi (rest := []) C hP hD hS (c_X6_figureAt_1 g5) (cwV 3 hts (gV mw9_16 mw9_17 mw9_18 mw1_15 mw9_19) rfl rfl rfl hdV_X6_figureAt ⟨Nat.le_of_ble_eq_true rfl, Nat.le_of_ble_eq_true rfl⟩) xw_1 rfl rfl hl.1 rfl (Nat.le_of_ble_eq_true rfl) dX6_readCandle_44 ⟨Nat.zero_le _, Nat.zero_le _⟩ (fun H locs hP hD hS => ?_)
    refine lv_istore (lv' := [(5, .int r6), (4, .int r3), (3, .int x1), (0, .ref (ad 1)), (1, .int a1), (2, .ref (ad 39))]) hx hb dX6_readCandle_47 hl (by decide) rfl (fun ls hl => ?_)
    refine lv_iload hx hb dX6_readCandle_49 (lv_at hl 0 rfl) ?_
    refine lv_bipush (v := -9) hx hb dX6_readCandle_51 (by decide) ?_
    refine lv_icmp_ne (tgt := 60) hx hb dX6_readCandle_53 (by decide) (fun q7 => ?_) (fun q7 => ?_)
    · have h := ifn q7 h
      refine lv_bipush (v := 10) hx hb dX6_readCandle_60 (by decide) ?_
      refine lv_iload hx hb dX6_readCandle_62 (lv_at hl 1 rfl) ?_
      refine lv_imul hx hb dX6_readCandle_64 ?_
      refine lv_iload hx hb dX6_readCandle_65 (lv_at hl 0 rfl) ?_
      refine lv_iadd hx hb dX6_readCandle_67 ?_
      obtain ⟨x8, ex8, h⟩ := lt_some h
      refine x_ti ex8 ?_
      refine lv_istore (lv' := [(6, .int x8), (5, .int r6), (4, .int r3), (3, .int x1), (0, .ref (ad 1)), (1, .int a1), (2, .ref (ad 39))]) hx hb dX6_readCandle_68 hl (by decide) rfl (fun ls hl => ?_)
      refine lv_aload_n hx hb dX6_readCandle_70 rfl (lv_at hl 4 rfl) ?_
      refine lv_iload_n hx hb dX6_readCandle_71 rfl (lv_at hl 5 rfl) ?_
      refine lv_iconst (v := 3) hx hb dX6_readCandle_72 (by decide) ?_
      refine lv_iadd hx hb dX6_readCandle_73 ?_
      refine lv_iconst (v := 1) hx hb dX6_readCandle_74 (by decide) ?_
      refine lv_bipush (v := 6) hx hb dX6_readCandle_75 (by decide) ?_
      refine lv_aload_n hx hb dX6_readCandle_77 rfl (lv_at hl 6 rfl) ?_
      refine x_get C hP inlX3 39 xw_39 rfl 8 (by decide) mw8_9 rfl dX6_readCandle_78 ?_
      refine lv_iload hx hb dX6_readCandle_81 (lv_at hl 0 rfl) ?_
      refine lv_isub hx hb dX6_readCandle_83 ?_
      refine x_min C hl.1 mw9_9 mw9_10 mw9_11 mw9_12 (Nat.le_of_ble_eq_true rfl) (Nat.le_of_ble_eq_true rfl) ⟨Nat.zero_le _, Nat.zero_le _⟩ dX6_readCandle_84 ?_
      obtain ⟨r10, g9, h⟩ := cl_some h
      refine x_callVi (rest := []) C hP hD hS (c_X6_figureAt_1 g9) (cwV 3 hts (gV mw9_16 mw9_17 mw9_18 mw1_15 mw9_19) rfl rfl rfl hdV_X6_figureAt ⟨Nat.le_of_ble_eq_true rfl, Nat.le_of_ble_eq_true rfl⟩) xw_1 rfl rfl hl.1 rfl (Nat.le_of_ble_eq_true rfl) dX6_readCandle_87 ⟨Nat.zero_le _, Nat.zero_le _⟩ (fun H locs hP hD hS => ?_)
      refine lv_istore (lv' := [(7, .int r10), (6, .int x8), (5, .int r6), (4, .int r3), (3, .int x1), (0, .ref (ad 1)), (1, .int a1), (2, .ref (ad 39))]) hx hb dX6_readCandle_90 hl (by decide) rfl (fun ls hl => ?_)
      refine lv_iload hx hb dX6_readCandle_92 (lv_at hl 0 rfl) ?_
      refine lv_bipush (v := -9) hx hb dX6_readCandle_94 (by decide) ?_
      refine lv_icmp_ne (tgt := 103) hx hb dX6_readCandle_96 (by decide) (fun q11 => ?_) (fun q11 => ?_)
      · have h := ifn q11 h
        refine lv_aload_n hx hb dX6_readCandle_103 rfl (lv_at hl 5 rfl) ?_
        refine lv_iload_n hx hb dX6_readCandle_104 rfl (lv_at hl 6 rfl) ?_
        refine lv_iconst (v := 4) hx hb dX6_readCandle_105 (by decide) ?_
        refine lv_iadd hx hb dX6_readCandle_106 ?_
        refine lv_iconst (v := 1) hx hb dX6_readCandle_107 (by decide) ?_
        refine lv_bipush (v := 9) hx hb dX6_readCandle_108 (by decide) ?_
        obtain ⟨r13, g12, h⟩ := cl_some h
        refine x_callVi (rest := []) C hP hD hS (c_X6_figureAt_1 g12) (cwV 3 hts (gV mw9_16 mw9_17 mw9_18 mw1_15 mw9_19) rfl rfl rfl hdV_X6_figureAt ⟨Nat.le_of_ble_eq_true rfl, Nat.le_of_ble_eq_true rfl⟩) xw_1 rfl rfl hl.1 rfl (Nat.le_of_ble_eq_true rfl) dX6_readCandle_110 ⟨Nat.zero_le _, Nat.zero_le _⟩ (fun H locs hP hD hS => ?_)
        refine lv_istore (lv' := [(8, .int r13), (7, .int r10), (6, .int x8), (5, .int r6), (4, .int r3), (3, .int x1), (0, .ref (ad 1)), (1, .int a1), (2, .ref (ad 39))]) hx hb dX6_readCandle_113 hl (by decide) rfl (fun ls hl => ?_)
        refine lv_iload hx hb dX6_readCandle_115 (lv_at hl 0 rfl) ?_
        refine lv_bipush (v := -9) hx hb dX6_readCandle_117 (by decide) ?_
        refine lv_icmp_ne (tgt := 126) hx hb dX6_readCandle_119 (by decide) (fun q14 => ?_) (fun q14 => ?_)
        · have h := ifn q14 h
          refine lv_aload_n hx hb dX6_readCandle_126 rfl (lv_at hl 8 rfl) ?_
          refine x_get C hP inlX3 39 xw_39 rfl 1 (by decide) mw9_13 rfl dX6_readCandle_127 ?_
          refine lv_aload_n hx hb dX6_readCandle_130 rfl (lv_at hl 8 rfl) ?_
          refine x_get C hP inlX3 39 xw_39 rfl 9 (by decide) mw9_3 rfl dX6_readCandle_131 ?_
          refine lv_iload hx hb dX6_readCandle_134 (lv_at hl 2 rfl) ?_
          obtain ⟨g15, σ16, eσ16, h⟩ := wr_some h
          refine x_ist C hP hD hS 41 xw_41 g15 (xa_41 eσ16) dX6_readCandle_136 (fun H locs hP hD hS => ?_)
          refine lv_aload_n hx hb dX6_readCandle_137 rfl (lv_at hl 8 rfl) ?_
          refine x_get C hP inlX3 39 xw_39 rfl 2 (by decide) mw9_14 rfl dX6_readCandle_138 ?_
          refine lv_aload_n hx hb dX6_readCandle_141 rfl (lv_at hl 8 rfl) ?_
          refine x_get C hP inlX3 39 xw_39 rfl 9 (by decide) mw9_3 rfl dX6_readCandle_142 ?_
          refine lv_iload hx hb dX6_readCandle_145 (lv_at hl 1 rfl) ?_
          obtain ⟨g17, σ18, eσ18, h⟩ := wr_some h
          refine x_ist C hP hD hS 42 xw_42 g17 (xa_42 eσ18) dX6_readCandle_147 (fun H locs hP hD hS => ?_)
          refine lv_aload_n hx hb dX6_readCandle_148 rfl (lv_at hl 8 rfl) ?_
          refine x_get C hP inlX3 39 xw_39 rfl 3 (by decide) mw9_15 rfl dX6_readCandle_149 ?_
          refine lv_aload_n hx hb dX6_readCandle_152 rfl (lv_at hl 8 rfl) ?_
          refine x_get C hP inlX3 39 xw_39 rfl 9 (by decide) mw9_3 rfl dX6_readCandle_153 ?_
          refine lv_iload hx hb dX6_readCandle_156 (lv_at hl 0 rfl) ?_
          obtain ⟨g19, σ20, eσ20, h⟩ := wr_some h
          refine x_ist C hP hD hS 43 xw_43 g19 (xa_43 eσ20) dX6_readCandle_158 (fun H locs hP hD hS => ?_)
          refine lv_aload_n hx hb dX6_readCandle_159 rfl (lv_at hl 8 rfl) ?_
          refine lv_dup hx hb dX6_readCandle_160 rfl ?_
          refine x_get C hP inlX3 39 xw_39 rfl 9 (by decide) mw9_3 rfl dX6_readCandle_161 ?_
          refine lv_iconst (v := 1) hx hb dX6_readCandle_164 (by decide) ?_
          refine lv_iadd hx hb dX6_readCandle_165 ?_
          obtain ⟨σ21, eσ21, h⟩ := lt_some h
          refine x_put C hP hD hS inlX3 tyX3 tyX3_ok nmX3 39 xw_39 rfl 9 (by decide) mw9_3 rfl rfl rfl (Nat.le_of_ble_eq_true rfl) (xs_39_9 eσ21) dX6_readCandle_166 (fun H locs hP hD hS => ?_)
          refine lv_bipush (v := -9) hx hb dX6_readCandle_169 (by decide) ?_
          obtain ⟨z1, z2⟩ := pr_inj h
          subst z1
          subst z2
          exact x_iret C hr hP hD hS dX6_readCandle_171
        · have h := ifp q14 h
          refine lv_iload_n hx hb dX6_readCandle_122 rfl (lv_at hl 7 rfl) ?_
          refine lv_iconst (v := 4) hx hb dX6_readCandle_123 (by decide) ?_
          refine lv_iadd hx hb dX6_readCandle_124 ?_
          obtain ⟨z1, z2⟩ := pr_inj h
          subst z1
          subst z2
          exact x_iret C hr hP hD hS dX6_readCandle_125
      · have h := ifp q11 h
        refine lv_iload_n hx hb dX6_readCandle_99 rfl (lv_at hl 6 rfl) ?_
        refine lv_iconst (v := 3) hx hb dX6_readCandle_100 (by decide) ?_
        refine lv_iadd hx hb dX6_readCandle_101 ?_
        obtain ⟨z1, z2⟩ := pr_inj h
        subst z1
        subst z2
        exact x_iret C hr hP hD hS dX6_readCandle_102
    · have h := ifp q7 h
      refine lv_iload_n hx hb dX6_readCandle_56 rfl (lv_at hl 4 rfl) ?_
      refine lv_iconst (v := 2) hx hb dX6_readCandle_57 (by decide) ?_
      refine lv_iadd hx hb dX6_readCandle_58 ?_
      obtain ⟨z1, z2⟩ := pr_inj h
      subst z1
      subst z2
      exact x_iret C hr hP hD hS dX6_readCandle_59
  · have h := ifp q4 h
    refine lv_iload_n hx hb dX6_readCandle_28 rfl (lv_at hl 3 rfl) ?_
    refine lv_iconst (v := 1) hx hb dX6_readCandle_29 (by decide) ?_
    refine lv_iadd hx hb dX6_readCandle_30 ?_
    obtain ⟨z1, z2⟩ := pr_inj h
    subst z1
    subst z2
    exact x_iret C hr hP hD hS dX6_readCandle_31
theorem c_X6_readCandle_1_39 {l : Launch} {D : va_G} {cy : Nat → ClassId} {tT tF : Nat} {ad : Nat → Nat} {σ : ES} {a1 : Int32} {r : Int32} {σ' : ES} (h : e_X6_readCandle_1_39 a1 σ = some (r, σ')) : CMi l yX6_readCandle (Cond.code yX6_readCandle cX6_readCandle 9 (some .int) :: wsL_law) { frames := 2, cells := 0, slots := 0, locals := 46 } D cy tT tF [.ref (ad 1), .int a1, .ref (ad 39)] (xw cy ad σ) r (xw cy ad σ') := x_start (Qc := fun A => (Qi D cy A r (xw cy ad σ'))) (by decide) (Nat.le_of_ble_eq_true rfl) (fun p e s m below meth c A ls C hr hP hD hS hl => w_X6_readCandle_1_39_0 C hr a1 σ h s.heap [] hP hD hS ls hl)
set_option maxHeartbeats 4000000 in
set_option maxRecDepth 100000 in
theorem w_X6_readGuest_1_39_0 (C : Cx p s m args meth c D cy tT tF A cX6_readGuest 7 RX6) (hr : meth.sig.returnType = some .int) {r : Int32} {σ' : ES} (a1 : Int32) (σ : ES) (h : b_X6_readGuest_1_39_0 a1 σ = some (r, σ')) (H : Heap) (locs : List Loc) (hP : va_P D vwCl (xw cy ad σ) H) (hD : va_D A (xw cy ad σ)) (hS : va_S A s.heap H locs) (ls : Array Slot) (hl : lv_has ls 7 [(0, .ref (ad 1)), (1, .int a1), (2, .ref (ad 39))]) : W p l e { frames := 2, cells := 0, slots := 0, locals := 46 } s m args below meth c H locs 0 0 (MQ below (Qi D cy A r (xw cy ad σ')) args s 0 0 A) (F0 m 0 ls []) := by
  obtain ⟨⟨hx, hb, hml, hown, hts⟩, hK, hT, hA, hlk⟩ := id C
  unfold b_X6_readGuest_1_39_0 at h
  refine lv_aload_n hx hb dX6_readGuest_0 rfl (lv_at hl 0 rfl) ?_
  refine lv_iload_n hx hb dX6_readGuest_1 rfl (lv_at hl 1 rfl) ?_
  refine lv_iconst (v := 1) hx hb dX6_readGuest_2 (by decide) ?_
  refine lv_iadd hx hb dX6_readGuest_3 ?_
  obtain ⟨r2, g1, h⟩ := cl_some h
  refine x_callVi (rest := []) C hP hD hS (c_X6_momentAt_1 g1) (cwV 1 hts (gV mw8_19 mw8_20 mw8_21 mw1_15 mw8_22) rfl rfl rfl hdV_X6_momentAt ⟨Nat.le_of_ble_eq_true rfl, Nat.le_of_ble_eq_true rfl⟩) xw_1 rfl rfl hl.1 rfl (Nat.le_of_ble_eq_true rfl) dX6_readGuest_4 ⟨Nat.zero_le _, Nat.zero_le _⟩ (fun H locs hP hD hS => ?_)
  refine lv_istore_n (lv' := [(3, .int r2), (0, .ref (ad 1)), (1, .int a1), (2, .ref (ad 39))]) hx hb dX6_readGuest_7 rfl hl (by decide) rfl (fun ls hl => ?_)
  refine lv_iload_n hx hb dX6_readGuest_8 rfl (lv_at hl 0 rfl) ?_
  refine lv_bipush (v := -9) hx hb dX6_readGuest_9 (by decide) ?_
  refine lv_icmp_eq (tgt := 19) hx hb dX6_readGuest_11 (by decide) (fun q3 => ?_) (fun q3 => ?_)
  · have h := ifp q3 h
    refine lv_iload_n hx hb dX6_readGuest_19 rfl (lv_at hl 2 rfl) ?_
    refine lv_iconst (v := 1) hx hb dX6_readGuest_20 (by decide) ?_
    refine lv_iadd hx hb dX6_readGuest_21 ?_
    obtain ⟨z1, z2⟩ := pr_inj h
    subst z1
    subst z2
    exact x_iret C hr hP hD hS dX6_readGuest_22
  · have h := ifn q3 h
    refine lv_iload_n hx hb dX6_readGuest_14 rfl (lv_at hl 0 rfl) ?_
    refine lv_iconst (v := 4) hx hb dX6_readGuest_15 (by decide) ?_
    refine lv_icmp_ne (tgt := 23) hx hb dX6_readGuest_16 (by decide) (fun q4 => ?_) (fun q4 => ?_)
    · have h := ifn q4 h
      refine lv_aload_n hx hb dX6_readGuest_23 rfl (lv_at hl 1 rfl) ?_
      refine lv_iload_n hx hb dX6_readGuest_24 rfl (lv_at hl 2 rfl) ?_
      refine lv_iconst (v := 2) hx hb dX6_readGuest_25 (by decide) ?_
      refine lv_iadd hx hb dX6_readGuest_26 ?_
      refine lv_iconst (v := 1) hx hb dX6_readGuest_27 (by decide) ?_
      refine lv_bipush (v := 6) hx hb dX6_readGuest_28 (by decide) ?_
      obtain ⟨r6, g5, h⟩ := cl_some h
      refine x_callVi (rest := []) C hP hD hS (c_X6_figureAt_1 g5) (cwV 3 hts (gV mw9_16 mw9_17 mw9_18 mw1_15 mw9_19) rfl rfl rfl hdV_X6_figureAt ⟨Nat.le_of_ble_eq_true rfl, Nat.le_of_ble_eq_true rfl⟩) xw_1 rfl rfl hl.1 rfl (Nat.le_of_ble_eq_true rfl) dX6_readGuest_30 ⟨Nat.zero_le _, Nat.zero_le _⟩ (fun H locs hP hD hS => ?_)
      refine lv_istore (lv' := [(4, .int r6), (3, .int r2), (0, .ref (ad 1)), (1, .int a1), (2, .ref (ad 39))]) hx hb dX6_readGuest_33 hl (by decide) rfl (fun ls hl => ?_)
      refine lv_iload hx hb dX6_readGuest_35 (lv_at hl 0 rfl) ?_
      refine lv_bipush (v := -9) hx hb dX6_readGuest_37 (by decide) ?_
      refine lv_icmp_ne (tgt := 46) hx hb dX6_readGuest_39 (by decide) (fun q7 => ?_) (fun q7 => ?_)
      · have h := ifn q7 h
        refine lv_aload_n hx hb dX6_readGuest_46 rfl (lv_at hl 2 rfl) ?_
        refine lv_iload_n hx hb dX6_readGuest_47 rfl (lv_at hl 3 rfl) ?_
        refine lv_iconst (v := 3) hx hb dX6_readGuest_48 (by decide) ?_
        refine lv_iadd hx hb dX6_readGuest_49 ?_
        refine lv_iconst (v := 0) hx hb dX6_readGuest_50 (by decide) ?_
        refine lv_bipush (v := 9) hx hb dX6_readGuest_51 (by decide) ?_
        obtain ⟨r9, g8, h⟩ := cl_some h
        refine x_callVi (rest := []) C hP hD hS (c_X6_figureAt_1 g8) (cwV 3 hts (gV mw9_16 mw9_17 mw9_18 mw1_15 mw9_19) rfl rfl rfl hdV_X6_figureAt ⟨Nat.le_of_ble_eq_true rfl, Nat.le_of_ble_eq_true rfl⟩) xw_1 rfl rfl hl.1 rfl (Nat.le_of_ble_eq_true rfl) dX6_readGuest_53 ⟨Nat.zero_le _, Nat.zero_le _⟩ (fun H locs hP hD hS => ?_)
        refine lv_istore (lv' := [(5, .int r9), (4, .int r6), (3, .int r2), (0, .ref (ad 1)), (1, .int a1), (2, .ref (ad 39))]) hx hb dX6_readGuest_56 hl (by decide) rfl (fun ls hl => ?_)
        refine lv_iload hx hb dX6_readGuest_58 (lv_at hl 0 rfl) ?_
        refine lv_bipush (v := -9) hx hb dX6_readGuest_60 (by decide) ?_
        refine lv_icmp_ne (tgt := 69) hx hb dX6_readGuest_62 (by decide) (fun q10 => ?_) (fun q10 => ?_)
        · have h := ifn q10 h
          refine lv_aload_n hx hb dX6_readGuest_69 rfl (lv_at hl 3 rfl) ?_
          refine lv_iload_n hx hb dX6_readGuest_70 rfl (lv_at hl 4 rfl) ?_
          refine lv_iconst (v := 4) hx hb dX6_readGuest_71 (by decide) ?_
          refine lv_iadd hx hb dX6_readGuest_72 ?_
          refine lv_iload hx hb dX6_readGuest_73 (lv_at hl 0 rfl) ?_
          refine lv_bipush (v := 9) hx hb dX6_readGuest_75 (by decide) ?_
          obtain ⟨r12, g11, h⟩ := cl_some h
          refine x_callVi (rest := []) C hP hD hS (c_X6_figureAt_1 g11) (cwV 3 hts (gV mw9_16 mw9_17 mw9_18 mw1_15 mw9_19) rfl rfl rfl hdV_X6_figureAt ⟨Nat.le_of_ble_eq_true rfl, Nat.le_of_ble_eq_true rfl⟩) xw_1 rfl rfl hl.1 rfl (Nat.le_of_ble_eq_true rfl) dX6_readGuest_77 ⟨Nat.zero_le _, Nat.zero_le _⟩ (fun H locs hP hD hS => ?_)
          refine lv_istore (lv' := [(6, .int r12), (5, .int r9), (4, .int r6), (3, .int r2), (0, .ref (ad 1)), (1, .int a1), (2, .ref (ad 39))]) hx hb dX6_readGuest_80 hl (by decide) rfl (fun ls hl => ?_)
          refine lv_iload hx hb dX6_readGuest_82 (lv_at hl 0 rfl) ?_
          refine lv_bipush (v := -9) hx hb dX6_readGuest_84 (by decide) ?_
          refine lv_icmp_ne (tgt := 93) hx hb dX6_readGuest_86 (by decide) (fun q13 => ?_) (fun q13 => ?_)
          · have h := ifn q13 h
            refine lv_aload_n hx hb dX6_readGuest_93 rfl (lv_at hl 6 rfl) ?_
            refine x_get C hP inlX3 39 xw_39 rfl 4 (by decide) mw10_0 rfl dX6_readGuest_94 ?_
            refine lv_aload_n hx hb dX6_readGuest_97 rfl (lv_at hl 6 rfl) ?_
            refine x_get C hP inlX3 39 xw_39 rfl 10 (by decide) mw9_4 rfl dX6_readGuest_98 ?_
            refine lv_iload_n hx hb dX6_readGuest_101 rfl (lv_at hl 3 rfl) ?_
            obtain ⟨g14, σ15, eσ15, h⟩ := wr_some h
            refine x_ist C hP hD hS 44 xw_44 g14 (xa_44 eσ15) dX6_readGuest_102 (fun H locs hP hD hS => ?_)
            refine lv_aload_n hx hb dX6_readGuest_103 rfl (lv_at hl 6 rfl) ?_
            refine x_get C hP inlX3 39 xw_39 rfl 5 (by decide) mw10_1 rfl dX6_readGuest_104 ?_
            refine lv_aload_n hx hb dX6_readGuest_107 rfl (lv_at hl 6 rfl) ?_
            refine x_get C hP inlX3 39 xw_39 rfl 10 (by decide) mw9_4 rfl dX6_readGuest_108 ?_
            refine lv_iload hx hb dX6_readGuest_111 (lv_at hl 2 rfl) ?_
            obtain ⟨g16, σ17, eσ17, h⟩ := wr_some h
            refine x_ist C hP hD hS 45 xw_45 g16 (xa_45 eσ17) dX6_readGuest_113 (fun H locs hP hD hS => ?_)
            refine lv_aload_n hx hb dX6_readGuest_114 rfl (lv_at hl 6 rfl) ?_
            refine x_get C hP inlX3 39 xw_39 rfl 6 (by decide) mw10_2 rfl dX6_readGuest_115 ?_
            refine lv_aload_n hx hb dX6_readGuest_118 rfl (lv_at hl 6 rfl) ?_
            refine x_get C hP inlX3 39 xw_39 rfl 10 (by decide) mw9_4 rfl dX6_readGuest_119 ?_
            refine lv_iload hx hb dX6_readGuest_122 (lv_at hl 1 rfl) ?_
            obtain ⟨g18, σ19, eσ19, h⟩ := wr_some h
            refine x_ist C hP hD hS 46 xw_46 g18 (xa_46 eσ19) dX6_readGuest_124 (fun H locs hP hD hS => ?_)
            refine lv_aload_n hx hb dX6_readGuest_125 rfl (lv_at hl 6 rfl) ?_
            refine x_get C hP inlX3 39 xw_39 rfl 7 (by decide) mw10_3 rfl dX6_readGuest_126 ?_
            refine lv_aload_n hx hb dX6_readGuest_129 rfl (lv_at hl 6 rfl) ?_
            refine x_get C hP inlX3 39 xw_39 rfl 10 (by decide) mw9_4 rfl dX6_readGuest_130 ?_
            refine lv_iload hx hb dX6_readGuest_133 (lv_at hl 0 rfl) ?_
            obtain ⟨g20, σ21, eσ21, h⟩ := wr_some h
            refine x_ist C hP hD hS 47 xw_47 g20 (xa_47 eσ21) dX6_readGuest_135 (fun H locs hP hD hS => ?_)
            refine lv_aload_n hx hb dX6_readGuest_136 rfl (lv_at hl 6 rfl) ?_
            refine lv_dup hx hb dX6_readGuest_137 rfl ?_
            refine x_get C hP inlX3 39 xw_39 rfl 10 (by decide) mw9_4 rfl dX6_readGuest_138 ?_
            refine lv_iconst (v := 1) hx hb dX6_readGuest_141 (by decide) ?_
            refine lv_iadd hx hb dX6_readGuest_142 ?_
            obtain ⟨σ22, eσ22, h⟩ := lt_some h
            refine x_put C hP hD hS inlX3 tyX3 tyX3_ok nmX3 39 xw_39 rfl 10 (by decide) mw9_4 rfl rfl rfl (Nat.le_of_ble_eq_true rfl) (xs_39_10 eσ22) dX6_readGuest_143 (fun H locs hP hD hS => ?_)
            refine lv_bipush (v := -9) hx hb dX6_readGuest_146 (by decide) ?_
            obtain ⟨z1, z2⟩ := pr_inj h
            subst z1
            subst z2
            exact x_iret C hr hP hD hS dX6_readGuest_148
          · have h := ifp q13 h
            refine lv_iload_n hx hb dX6_readGuest_89 rfl (lv_at hl 5 rfl) ?_
            refine lv_iconst (v := 4) hx hb dX6_readGuest_90 (by decide) ?_
            refine lv_iadd hx hb dX6_readGuest_91 ?_
            obtain ⟨z1, z2⟩ := pr_inj h
            subst z1
            subst z2
            exact x_iret C hr hP hD hS dX6_readGuest_92
        · have h := ifp q10 h
          refine lv_iload_n hx hb dX6_readGuest_65 rfl (lv_at hl 4 rfl) ?_
          refine lv_iconst (v := 3) hx hb dX6_readGuest_66 (by decide) ?_
          refine lv_iadd hx hb dX6_readGuest_67 ?_
          obtain ⟨z1, z2⟩ := pr_inj h
          subst z1
          subst z2
          exact x_iret C hr hP hD hS dX6_readGuest_68
      · have h := ifp q7 h
        refine lv_iload_n hx hb dX6_readGuest_42 rfl (lv_at hl 3 rfl) ?_
        refine lv_iconst (v := 2) hx hb dX6_readGuest_43 (by decide) ?_
        refine lv_iadd hx hb dX6_readGuest_44 ?_
        obtain ⟨z1, z2⟩ := pr_inj h
        subst z1
        subst z2
        exact x_iret C hr hP hD hS dX6_readGuest_45
    · have h := ifp q4 h
      refine lv_iload_n hx hb dX6_readGuest_19 rfl (lv_at hl 2 rfl) ?_
      refine lv_iconst (v := 1) hx hb dX6_readGuest_20 (by decide) ?_
      refine lv_iadd hx hb dX6_readGuest_21 ?_
      obtain ⟨z1, z2⟩ := pr_inj h
      subst z1
      subst z2
      exact x_iret C hr hP hD hS dX6_readGuest_22
theorem c_X6_readGuest_1_39 {l : Launch} {D : va_G} {cy : Nat → ClassId} {tT tF : Nat} {ad : Nat → Nat} {σ : ES} {a1 : Int32} {r : Int32} {σ' : ES} (h : e_X6_readGuest_1_39 a1 σ = some (r, σ')) : CMi l yX6_readGuest (Cond.code yX6_readGuest cX6_readGuest 7 (some .int) :: wsL_law) { frames := 2, cells := 0, slots := 0, locals := 46 } D cy tT tF [.ref (ad 1), .int a1, .ref (ad 39)] (xw cy ad σ) r (xw cy ad σ') := x_start (Qc := fun A => (Qi D cy A r (xw cy ad σ'))) (by decide) (Nat.le_of_ble_eq_true rfl) (fun p e s m below meth c A ls C hr hP hD hS hl => w_X6_readGuest_1_39_0 C hr a1 σ h s.heap [] hP hD hS ls hl)
set_option maxHeartbeats 4000000 in
set_option maxRecDepth 100000 in
theorem w_X6_readPart_1_39_34 (C : Cx p s m args meth c D cy tT tF A cX6_readPart 4 RX6) (hr : meth.sig.returnType = some .int) {r : Int32} {σ' : ES} (v1 : Int32) (v3 : Int32) (σ : ES) (h : b_X6_readPart_1_39_34 v1 v3 σ = some (r, σ')) (H : Heap) (locs : List Loc) (hP : va_P D vwCl (xw cy ad σ) H) (hD : va_D A (xw cy ad σ)) (hS : va_S A s.heap H locs) (ls : Array Slot) (hl : lv_has ls 4 [(0, .ref (ad 1)), (1, .int v1), (2, .ref (ad 39)), (3, .int v3)]) : W p l e { frames := 3, cells := 0, slots := 0, locals := 74 } s m args below meth c H locs 0 0 (MQ below (Qi D cy A r (xw cy ad σ')) args s 0 0 A) (F0 m 34 ls []) := by
  obtain ⟨⟨hx, hb, hml, hown, hts⟩, hK, hT, hA, hlk⟩ := id C
  unfold b_X6_readPart_1_39_34 at h
  refine lv_iload_n hx hb dX6_readPart_34 rfl (lv_at hl 3 rfl) ?_
  refine lv_bipush (v := 71) hx hb dX6_readPart_35 (by decide) ?_
  refine lv_icmp_ne (tgt := 55) hx hb dX6_readPart_37 (by decide) (fun q1 => ?_) (fun q1 => ?_)
  · have h := ifn q1 h
    refine lv_iload_n hx hb dX6_readPart_55 rfl (lv_at hl 1 rfl) ?_
    obtain ⟨z1, z2⟩ := pr_inj h
    subst z1
    subst z2
    exact x_iret C hr hP hD hS dX6_readPart_56
  · have h := ifp q1 h
    refine lv_aload_n hx hb dX6_readPart_40 rfl (lv_at hl 2 rfl) ?_
    refine x_get C hP inlX3 39 xw_39 rfl 10 (by decide) mw9_4 rfl dX6_readPart_41 ?_
    refine lv_iconst (v := 4) hx hb dX6_readPart_44 (by decide) ?_
    refine lv_icmp_ge (tgt := 55) hx hb dX6_readPart_45 (by decide) (fun q2 => ?_) (fun q2 => ?_)
    · have h := ifp q2 h
      refine lv_iload_n hx hb dX6_readPart_55 rfl (lv_at hl 1 rfl) ?_
      obtain ⟨z1, z2⟩ := pr_inj h
      subst z1
      subst z2
      exact x_iret C hr hP hD hS dX6_readPart_56
    · have h := ifn q2 h
      refine lv_aload_n hx hb dX6_readPart_48 rfl (lv_at hl 0 rfl) ?_
      refine lv_iload_n hx hb dX6_readPart_49 rfl (lv_at hl 1 rfl) ?_
      refine lv_aload_n hx hb dX6_readPart_50 rfl (lv_at hl 2 rfl) ?_
      obtain ⟨r5, σ4, g3, h⟩ := cs_some h
      refine x_callVi (rest := []) C hP hD hS (c_X6_readGuest_1_39 g3) (cwV 2 hts (gV mw9_20 mw9_21 mw9_22 mw1_15 mw9_23) rfl rfl rfl hdV_X6_readGuest ⟨Nat.le_of_ble_eq_true rfl, Nat.le_of_ble_eq_true rfl⟩) xw_1 rfl rfl hl.1 rfl (Nat.le_of_ble_eq_true rfl) dX6_readPart_51 ⟨Nat.zero_le _, Nat.zero_le _⟩ (fun H locs hP hD hS => ?_)
      obtain ⟨z1, z2⟩ := pr_inj h
      subst z1
      subst z2
      exact x_iret C hr hP hD hS dX6_readPart_54
set_option maxHeartbeats 4000000 in
set_option maxRecDepth 100000 in
theorem w_X6_readPart_1_39_0 (C : Cx p s m args meth c D cy tT tF A cX6_readPart 4 RX6) (hr : meth.sig.returnType = some .int) {r : Int32} {σ' : ES} (a1 : Int32) (σ : ES) (h : b_X6_readPart_1_39_0 a1 σ = some (r, σ')) (H : Heap) (locs : List Loc) (hP : va_P D vwCl (xw cy ad σ) H) (hD : va_D A (xw cy ad σ)) (hS : va_S A s.heap H locs) (ls : Array Slot) (hl : lv_has ls 4 [(0, .ref (ad 1)), (1, .int a1), (2, .ref (ad 39))]) : W p l e { frames := 3, cells := 0, slots := 0, locals := 74 } s m args below meth c H locs 0 0 (MQ below (Qi D cy A r (xw cy ad σ')) args s 0 0 A) (F0 m 0 ls []) := by
  obtain ⟨⟨hx, hb, hml, hown, hts⟩, hK, hT, hA, hlk⟩ := id C
  unfold b_X6_readPart_1_39_0 at h
  refine lv_aload_n hx hb dX6_readPart_0 rfl (lv_at hl 0 rfl) ?_
  refine lv_iload_n hx hb dX6_readPart_1 rfl (lv_at hl 1 rfl) ?_
  obtain ⟨r2, g1, h⟩ := cl_some h
  refine x_callVi (rest := []) C hP hD hS (c_X6_letterAt_1 g1) (cwV 1 hts (gV mw8_15 mw8_16 mw8_17 mw1_15 mw8_18) rfl rfl rfl hdV_X6_letterAt ⟨Nat.le_of_ble_eq_true rfl, Nat.le_of_ble_eq_true rfl⟩) xw_1 rfl rfl hl.1 rfl (Nat.le_of_ble_eq_true rfl) dX6_readPart_2 ⟨Nat.zero_le _, Nat.zero_le _⟩ (fun H locs hP hD hS => ?_)
  refine lv_istore_n (lv' := [(3, .int r2), (0, .ref (ad 1)), (1, .int a1), (2, .ref (ad 39))]) hx hb dX6_readPart_5 rfl hl (by decide) rfl (fun ls hl => ?_)
  refine lv_iload_n hx hb dX6_readPart_6 rfl (lv_at hl 0 rfl) ?_
  refine lv_bipush (v := 67) hx hb dX6_readPart_7 (by decide) ?_
  refine lv_icmp_ne (tgt := 34) hx hb dX6_readPart_9 (by decide) (fun q3 => ?_) (fun q3 => ?_)
  · have h := ifn q3 h
    exact w_X6_readPart_1_39_34 C hr a1 r2 σ h H locs hP hD hS ls (lv_sub hl [1, 2, 3, 0] rfl)
  · have h := ifp q3 h
    refine lv_aload_n hx hb dX6_readPart_12 rfl (lv_at hl 3 rfl) ?_
    refine x_get C hP inlX3 39 xw_39 rfl 9 (by decide) mw9_3 rfl dX6_readPart_13 ?_
    refine lv_iconst (v := 4) hx hb dX6_readPart_16 (by decide) ?_
    refine lv_icmp_ge (tgt := 34) hx hb dX6_readPart_17 (by decide) (fun q4 => ?_) (fun q4 => ?_)
    · have h := ifp q4 h
      exact w_X6_readPart_1_39_34 C hr a1 r2 σ h H locs hP hD hS ls (lv_sub hl [1, 2, 3, 0] rfl)
    · have h := ifn q4 h
      refine lv_aload_n hx hb dX6_readPart_20 rfl (lv_at hl 3 rfl) ?_
      refine x_get C hP inlX3 39 xw_39 rfl 8 (by decide) mw8_9 rfl dX6_readPart_21 ?_
      refine lv_if_le (tgt := 34) hx hb dX6_readPart_24 (by decide) (fun q5 => ?_) (fun q5 => ?_)
      · have h := ifp q5 h
        exact w_X6_readPart_1_39_34 C hr a1 r2 σ h H locs hP hD hS ls (lv_sub hl [1, 2, 3, 0] rfl)
      · have h := ifn q5 h
        refine lv_aload_n hx hb dX6_readPart_27 rfl (lv_at hl 1 rfl) ?_
        refine lv_iload_n hx hb dX6_readPart_28 rfl (lv_at hl 2 rfl) ?_
        refine lv_aload_n hx hb dX6_readPart_29 rfl (lv_at hl 3 rfl) ?_
        obtain ⟨r8, σ7, g6, h⟩ := cs_some h
        refine x_callVi (rest := []) C hP hD hS (c_X6_readCandle_1_39 g6) (cwV 2 hts (gV mw9_5 mw9_6 mw9_7 mw1_15 mw9_8) rfl rfl rfl hdV_X6_readCandle ⟨Nat.le_of_ble_eq_true rfl, Nat.le_of_ble_eq_true rfl⟩) xw_1 rfl rfl hl.1 rfl (Nat.le_of_ble_eq_true rfl) dX6_readPart_30 ⟨Nat.zero_le _, Nat.zero_le _⟩ (fun H locs hP hD hS => ?_)
        obtain ⟨z1, z2⟩ := pr_inj h
        subst z1
        subst z2
        exact x_iret C hr hP hD hS dX6_readPart_33
theorem c_X6_readPart_1_39 {l : Launch} {D : va_G} {cy : Nat → ClassId} {tT tF : Nat} {ad : Nat → Nat} {σ : ES} {a1 : Int32} {r : Int32} {σ' : ES} (h : e_X6_readPart_1_39 a1 σ = some (r, σ')) : CMi l yX6_readPart (Cond.code yX6_readPart cX6_readPart 4 (some .int) :: wsL_law) { frames := 3, cells := 0, slots := 0, locals := 74 } D cy tT tF [.ref (ad 1), .int a1, .ref (ad 39)] (xw cy ad σ) r (xw cy ad σ') := x_start (Qc := fun A => (Qi D cy A r (xw cy ad σ'))) (by decide) (Nat.le_of_ble_eq_true rfl) (fun p e s m below meth c A ls C hr hP hD hS hl => w_X6_readPart_1_39_0 C hr a1 σ h s.heap [] hP hD hS ls hl)
set_option maxHeartbeats 4000000 in
set_option maxRecDepth 100000 in
theorem w_X6_readInto_1_39_77 (C : Cx p s m args meth c D cy tT tF A cX6_readInto 4 RX6) (hr : meth.sig.returnType = some .int) {r : Int32} {σ' : ES} : ∀ (n : Nat) (v2 : Int32) (σ : ES), b_X6_readInto_1_39_77 n v2 σ = some (r, σ') → ∀ (H : Heap) (locs : List Loc) (hP : va_P D vwCl (xw cy ad σ) H) (hD : va_D A (xw cy ad σ)) (hS : va_S A s.heap H locs) (ls : Array Slot) (hl : lv_has ls 4 [(0, .ref (ad 1)), (1, .ref (ad 39)), (2, .int v2)]), W p l e { frames := 4, cells := 0, slots := 0, locals := 97 } s m args below meth c H locs 0 0 (MQ below (Qi D cy A r (xw cy ad σ')) args s 0 0 A) (F0 m 77 ls []) := by
  obtain ⟨⟨hx, hb, hml, hown, hts⟩, hK, hT, hA, hlk⟩ := id C
  intro n
  induction n with
  | zero =>
    intro v2 σ h
    exact no_some h
  | succ n ih =>
    intro v2 σ h H locs hP hD hS ls hl
    rw [b_X6_readInto_1_39_77] at h
    refine lv_iload_n hx hb dX6_readInto_77 rfl (lv_at hl 2 rfl) ?_
    refine lv_aload_n hx hb dX6_readInto_78 rfl (lv_at hl 0 rfl) ?_
    refine x_get C hP inlX6 1 xw_1 rfl 1 (by decide) mw3_5 rfl dX6_readInto_79 ?_
    refine lv_icmp_ge (tgt := 106) hx hb dX6_readInto_82 (by decide) (fun q1 => ?_) (fun q1 => ?_)
    · have h := ifp q1 h
      refine lv_bipush (v := -9) hx hb dX6_readInto_106 (by decide) ?_
      obtain ⟨z1, z2⟩ := pr_inj h
      subst z1
      subst z2
      exact x_iret C hr hP hD hS dX6_readInto_108
    · have h := ifn q1 h
      refine lv_aload_n hx hb dX6_readInto_85 rfl (lv_at hl 0 rfl) ?_
      refine lv_iload_n hx hb dX6_readInto_86 rfl (lv_at hl 2 rfl) ?_
      refine lv_aload_n hx hb dX6_readInto_87 rfl (lv_at hl 1 rfl) ?_
      obtain ⟨r4, σ3, g2, h⟩ := cs_some h
      refine x_callVi (rest := []) C hP hD hS (c_X6_readPart_1_39 g2) (cwV 2 hts (gV mw8_23 mw9_0 mw9_1 mw1_15 mw9_2) rfl rfl rfl hdV_X6_readPart ⟨Nat.le_of_ble_eq_true rfl, Nat.le_of_ble_eq_true rfl⟩) xw_1 rfl rfl hl.1 rfl (Nat.le_of_ble_eq_true rfl) dX6_readInto_88 ⟨Nat.zero_le _, Nat.zero_le _⟩ (fun H locs hP hD hS => ?_)
      refine lv_istore_n (lv' := [(3, .int r4), (0, .ref (ad 1)), (1, .ref (ad 39)), (2, .int v2)]) hx hb dX6_readInto_91 rfl hl (by decide) rfl (fun ls hl => ?_)
      refine lv_iload_n hx hb dX6_readInto_92 rfl (lv_at hl 0 rfl) ?_
      refine lv_bipush (v := -9) hx hb dX6_readInto_93 (by decide) ?_
      refine lv_icmp_eq (tgt := 100) hx hb dX6_readInto_95 (by decide) (fun q5 => ?_) (fun q5 => ?_)
      · have h := ifp q5 h
        obtain ⟨x6, ex6, h⟩ := lt_some h
        refine lv_iinc (v := x6) (lv' := [(2, .int x6), (3, .int r4), (0, .ref (ad 1)), (1, .ref (ad 39))]) hx hb dX6_readInto_100 hl (k := 3) rfl (by rw [ex6]; rfl) (by decide) rfl (fun ls hl => ?_)
        refine lv_goto (tgt := 77) hx hb dX6_readInto_103 (by decide) ?_
        exact ih x6 σ3 h H locs hP hD hS ls (lv_sub hl [2, 3, 0] rfl)
      · have h := ifn q5 h
        refine lv_iload_n hx hb dX6_readInto_98 rfl (lv_at hl 0 rfl) ?_
        obtain ⟨z1, z2⟩ := pr_inj h
        subst z1
        subst z2
        exact x_iret C hr hP hD hS dX6_readInto_99
set_option maxHeartbeats 4000000 in
set_option maxRecDepth 100000 in
theorem w_X6_readInto_1_39_18 (C : Cx p s m args meth c D cy tT tF A cX6_readInto 4 RX6) (hr : meth.sig.returnType = some .int) {r : Int32} {σ' : ES} : ∀ (n : Nat) (v2 : Int32) (σ : ES), b_X6_readInto_1_39_18 n v2 σ = some (r, σ') → ∀ (H : Heap) (locs : List Loc) (hP : va_P D vwCl (xw cy ad σ) H) (hD : va_D A (xw cy ad σ)) (hS : va_S A s.heap H locs) (ls : Array Slot) (hl : lv_has ls 4 [(0, .ref (ad 1)), (1, .ref (ad 39)), (2, .int v2)]), W p l e { frames := 4, cells := 0, slots := 0, locals := 97 } s m args below meth c H locs 0 0 (MQ below (Qi D cy A r (xw cy ad σ')) args s 0 0 A) (F0 m 18 ls []) := by
  obtain ⟨⟨hx, hb, hml, hown, hts⟩, hK, hT, hA, hlk⟩ := id C
  intro n
  induction n with
  | zero =>
    intro v2 σ h
    exact no_some h
  | succ n ih =>
    intro v2 σ h H locs hP hD hS ls hl
    rw [b_X6_readInto_1_39_18] at h
    refine lv_iload_n hx hb dX6_readInto_18 rfl (lv_at hl 2 rfl) ?_
    refine lv_aload_n hx hb dX6_readInto_19 rfl (lv_at hl 0 rfl) ?_
    refine x_get C hP inlX6 1 xw_1 rfl 1 (by decide) mw3_5 rfl dX6_readInto_20 ?_
    refine lv_icmp_ge (tgt := 77) hx hb dX6_readInto_23 (by decide) (fun q1 => ?_) (fun q1 => ?_)
    · have h := ifp q1 h
      exact w_X6_readInto_1_39_77 C hr FU v2 σ h H locs hP hD hS ls (lv_sub hl [0, 1, 2] rfl)
    · have h := ifn q1 h
      refine lv_aload_n hx hb dX6_readInto_26 rfl (lv_at hl 0 rfl) ?_
      refine lv_iload_n hx hb dX6_readInto_27 rfl (lv_at hl 2 rfl) ?_
      obtain ⟨r3, g2, h⟩ := cl_some h
      refine x_callVi (rest := []) C hP hD hS (c_X6_momentAt_1 g2) (cwV 1 hts (gV mw8_19 mw8_20 mw8_21 mw1_15 mw8_22) rfl rfl rfl hdV_X6_momentAt ⟨Nat.le_of_ble_eq_true rfl, Nat.le_of_ble_eq_true rfl⟩) xw_1 rfl rfl hl.1 rfl (Nat.le_of_ble_eq_true rfl) dX6_readInto_28 ⟨Nat.zero_le _, Nat.zero_le _⟩ (fun H locs hP hD hS => ?_)
      refine lv_bipush (v := -9) hx hb dX6_readInto_31 (by decide) ?_
      refine lv_icmp_eq (tgt := 77) hx hb dX6_readInto_33 (by decide) (fun q4 => ?_) (fun q4 => ?_)
      · have h := ifp q4 h
        exact w_X6_readInto_1_39_77 C hr FU v2 σ h H locs hP hD hS ls (lv_sub hl [0, 1, 2] rfl)
      · have h := ifn q4 h
        refine lv_aload_n hx hb dX6_readInto_36 rfl (lv_at hl 1 rfl) ?_
        refine x_get C hP inlX3 39 xw_39 rfl 8 (by decide) mw8_9 rfl dX6_readInto_37 ?_
        refine lv_bipush (v := 12) hx hb dX6_readInto_40 (by decide) ?_
        refine lv_icmp_lt (tgt := 47) hx hb dX6_readInto_42 (by decide) (fun q5 => ?_) (fun q5 => ?_)
        · have h := ifp q5 h
          refine lv_aload_n hx hb dX6_readInto_47 rfl (lv_at hl 1 rfl) ?_
          refine x_get C hP inlX3 39 xw_39 rfl 0 (by decide) mw8_10 rfl dX6_readInto_48 ?_
          refine lv_aload_n hx hb dX6_readInto_51 rfl (lv_at hl 1 rfl) ?_
          refine x_get C hP inlX3 39 xw_39 rfl 8 (by decide) mw8_9 rfl dX6_readInto_52 ?_
          refine lv_aload_n hx hb dX6_readInto_55 rfl (lv_at hl 0 rfl) ?_
          refine lv_iload_n hx hb dX6_readInto_56 rfl (lv_at hl 2 rfl) ?_
          obtain ⟨r7, g6, h⟩ := cl_some h
          refine x_callVi (rest := [.int (σ.1 39 8), .ref (ad 40)]) C hP hD hS (c_X6_momentAt_1 g6) (cwV 1 hts (gV mw8_19 mw8_20 mw8_21 mw1_15 mw8_22) rfl rfl rfl hdV_X6_momentAt ⟨Nat.le_of_ble_eq_true rfl, Nat.le_of_ble_eq_true rfl⟩) xw_1 rfl rfl hl.1 rfl (Nat.le_of_ble_eq_true rfl) dX6_readInto_57 ⟨Nat.zero_le _, Nat.zero_le _⟩ (fun H locs hP hD hS => ?_)
          obtain ⟨g8, σ9, eσ9, h⟩ := wr_some h
          refine x_ist C hP hD hS 40 xw_40 g8 (xa_40 eσ9) dX6_readInto_60 (fun H locs hP hD hS => ?_)
          refine lv_aload_n hx hb dX6_readInto_61 rfl (lv_at hl 1 rfl) ?_
          refine lv_dup hx hb dX6_readInto_62 rfl ?_
          refine x_get C hP inlX3 39 xw_39 rfl 8 (by decide) mw8_9 rfl dX6_readInto_63 ?_
          refine lv_iconst (v := 1) hx hb dX6_readInto_66 (by decide) ?_
          refine lv_iadd hx hb dX6_readInto_67 ?_
          obtain ⟨σ10, eσ10, h⟩ := lt_some h
          refine x_put C hP hD hS inlX3 tyX3 tyX3_ok nmX3 39 xw_39 rfl 8 (by decide) mw8_9 rfl rfl rfl (Nat.le_of_ble_eq_true rfl) (xs_39_8 eσ10) dX6_readInto_68 (fun H locs hP hD hS => ?_)
          obtain ⟨x11, ex11, h⟩ := lt_some h
          refine lv_iinc (v := x11) (lv' := [(2, .int x11), (0, .ref (ad 1)), (1, .ref (ad 39))]) hx hb dX6_readInto_71 hl (k := 2) rfl (by rw [ex11]; rfl) (by decide) rfl (fun ls hl => ?_)
          refine lv_goto (tgt := 18) hx hb dX6_readInto_74 (by decide) ?_
          exact ih x11 σ10 h H locs hP hD hS ls (lv_sub hl [1, 2, 0] rfl)
        · have h := ifn q5 h
          refine lv_iload_n hx hb dX6_readInto_45 rfl (lv_at hl 2 rfl) ?_
          obtain ⟨z1, z2⟩ := pr_inj h
          subst z1
          subst z2
          exact x_iret C hr hP hD hS dX6_readInto_46
set_option maxHeartbeats 4000000 in
set_option maxRecDepth 100000 in
theorem w_X6_readInto_1_39_0 (C : Cx p s m args meth c D cy tT tF A cX6_readInto 4 RX6) (hr : meth.sig.returnType = some .int) {r : Int32} {σ' : ES} (σ : ES) (h : b_X6_readInto_1_39_0 σ = some (r, σ')) (H : Heap) (locs : List Loc) (hP : va_P D vwCl (xw cy ad σ) H) (hD : va_D A (xw cy ad σ)) (hS : va_S A s.heap H locs) (ls : Array Slot) (hl : lv_has ls 4 [(0, .ref (ad 1)), (1, .ref (ad 39))]) : W p l e { frames := 4, cells := 0, slots := 0, locals := 97 } s m args below meth c H locs 0 0 (MQ below (Qi D cy A r (xw cy ad σ')) args s 0 0 A) (F0 m 0 ls []) := by
  obtain ⟨⟨hx, hb, hml, hown, hts⟩, hK, hT, hA, hlk⟩ := id C
  unfold b_X6_readInto_1_39_0 at h
  refine lv_aload_n hx hb dX6_readInto_0 rfl (lv_at hl 1 rfl) ?_
  obtain ⟨σ2, g1, h⟩ := cl_some h
  refine x_callVv (rest := []) C hP hD hS (c_X3_clear_39 g1) (cwV 0 hts (gV mw8_11 mw8_12 mw8_13 mw2_20 mw8_14) rfl rfl rfl hdV_X3_clear ⟨Nat.le_of_ble_eq_true rfl, Nat.le_of_ble_eq_true rfl⟩) xw_39 rfl rfl hl.1 rfl (Nat.le_of_ble_eq_true rfl) dX6_readInto_1 ⟨Nat.zero_le _, Nat.zero_le _⟩ (fun H locs hP hD hS => ?_)
  refine lv_aload_n hx hb dX6_readInto_4 rfl (lv_at hl 0 rfl) ?_
  refine lv_iconst (v := 0) hx hb dX6_readInto_5 (by decide) ?_
  obtain ⟨r4, g3, h⟩ := cl_some h
  refine x_callVi (rest := []) C hP hD hS (c_X6_letterAt_1 g3) (cwV 1 hts (gV mw8_15 mw8_16 mw8_17 mw1_15 mw8_18) rfl rfl rfl hdV_X6_letterAt ⟨Nat.le_of_ble_eq_true rfl, Nat.le_of_ble_eq_true rfl⟩) xw_1 rfl rfl hl.1 rfl (Nat.le_of_ble_eq_true rfl) dX6_readInto_6 ⟨Nat.zero_le _, Nat.zero_le _⟩ (fun H locs hP hD hS => ?_)
  refine lv_bipush (v := 69) hx hb dX6_readInto_9 (by decide) ?_
  refine lv_icmp_eq (tgt := 16) hx hb dX6_readInto_11 (by decide) (fun q5 => ?_) (fun q5 => ?_)
  · have h := ifp q5 h
    refine lv_iconst (v := 1) hx hb dX6_readInto_16 (by decide) ?_
    refine lv_istore_n (lv' := [(2, .int (1 : Int32)), (0, .ref (ad 1)), (1, .ref (ad 39))]) hx hb dX6_readInto_17 rfl hl (by decide) rfl (fun ls hl => ?_)
    exact w_X6_readInto_1_39_18 C hr FU (1 : Int32) σ2 h H locs hP hD hS ls (lv_sub hl [1, 2, 0] rfl)
  · have h := ifn q5 h
    refine lv_iconst (v := 0) hx hb dX6_readInto_14 (by decide) ?_
    obtain ⟨z1, z2⟩ := pr_inj h
    subst z1
    subst z2
    exact x_iret C hr hP hD hS dX6_readInto_15
theorem c_X6_readInto_1_39 {l : Launch} {D : va_G} {cy : Nat → ClassId} {tT tF : Nat} {ad : Nat → Nat} {σ : ES} {r : Int32} {σ' : ES} (h : e_X6_readInto_1_39  σ = some (r, σ')) : CMi l yX6_readInto (Cond.code yX6_readInto cX6_readInto 4 (some .int) :: wsL_law) { frames := 4, cells := 0, slots := 0, locals := 97 } D cy tT tF [.ref (ad 1), .ref (ad 39)] (xw cy ad σ) r (xw cy ad σ') := x_start (Qc := fun A => (Qi D cy A r (xw cy ad σ'))) (by decide) (Nat.le_of_ble_eq_true rfl) (fun p e s m below meth c A ls C hr hP hD hS hl => w_X6_readInto_1_39_0 C hr  σ h s.heap [] hP hD hS ls hl)
set_option maxHeartbeats 4000000 in
set_option maxRecDepth 100000 in
theorem w_X7_fault_0_0 (C : Cx p s m args meth c D cy tT tF A cX7_fault 1 RX7) (hr : meth.sig.returnType = some .int) {r : Int32} {σ' : ES} (σ : ES) (h : b_X7_fault_0_0 σ = some (r, σ')) (H : Heap) (locs : List Loc) (hP : va_P D vwCl (xw cy ad σ) H) (hD : va_D A (xw cy ad σ)) (hS : va_S A s.heap H locs) (ls : Array Slot) (hl : lv_has ls 1 [(0, .ref (ad 0))]) : W p l e { frames := 5, cells := 0, slots := 0, locals := 120 } s m args below meth c H locs 0 0 (MQ below (Qi D cy A r (xw cy ad σ')) args s 0 0 A) (F0 m 0 ls []) := by
  obtain ⟨⟨hx, hb, hml, hown, hts⟩, hK, hT, hA, hlk⟩ := id C
  unfold b_X7_fault_0_0 at h
  refine lv_aload_n hx hb dX7_fault_0 rfl (lv_at hl 0 rfl) ?_
  refine x_get C hP inlX7 0 xw_0 rfl 0 (by decide) mw1_16 rfl dX7_fault_1 ?_
  refine lv_aload_n hx hb dX7_fault_4 rfl (lv_at hl 0 rfl) ?_
  refine x_get C hP inlX7 0 xw_0 rfl 10 (by decide) mw2_22 rfl dX7_fault_5 ?_
  obtain ⟨r3, σ2, g1, h⟩ := cs_some h
  refine x_callVi (rest := []) C hP hD hS (c_X6_readInto_1_39 g1) (cwV 1 hts (gV mw8_5 mw8_6 mw8_7 mw1_15 mw8_8) rfl rfl rfl hdV_X6_readInto ⟨Nat.le_of_ble_eq_true rfl, Nat.le_of_ble_eq_true rfl⟩) xw_1 rfl rfl hl.1 rfl (Nat.le_of_ble_eq_true rfl) dX7_fault_8 ⟨Nat.zero_le _, Nat.zero_le _⟩ (fun H locs hP hD hS => ?_)
  obtain ⟨z1, z2⟩ := pr_inj h
  subst z1
  subst z2
  exact x_iret C hr hP hD hS dX7_fault_11
theorem c_X7_fault_0 {l : Launch} {D : va_G} {cy : Nat → ClassId} {tT tF : Nat} {ad : Nat → Nat} {σ : ES} {r : Int32} {σ' : ES} (h : e_X7_fault_0  σ = some (r, σ')) : CMi l yX7_fault (Cond.code yX7_fault cX7_fault 1 (some .int) :: wsL_law) { frames := 5, cells := 0, slots := 0, locals := 120 } D cy tT tF [.ref (ad 0)] (xw cy ad σ) r (xw cy ad σ') := x_start (Qc := fun A => (Qi D cy A r (xw cy ad σ'))) (by decide) (Nat.le_of_ble_eq_true rfl) (fun p e s m below meth c A ls C hr hP hD hS hl => w_X7_fault_0_0 C hr  σ h s.heap [] hP hD hS ls hl)
set_option maxHeartbeats 4000000 in
set_option maxRecDepth 100000 in
theorem w_X2_begin_3_30_46 (C : Cx p s m args meth c D cy tT tF A cX2_begin 3 RX2) (hr : meth.sig.returnType = none) {σ' : ES} : ∀ (n : Nat) (v2 : Int32) (σ : ES), b_X2_begin_3_30_46 n v2 σ = some σ' → ∀ (H : Heap) (locs : List Loc) (hP : va_P D vwCl (xw cy ad σ) H) (hD : va_D A (xw cy ad σ)) (hS : va_S A s.heap H locs) (ls : Array Slot) (hl : lv_has ls 3 [(0, .ref (ad 3)), (2, .int v2)]), W p l e { frames := 0, cells := 0, slots := 0, locals := 0 } s m args below meth c H locs 0 0 (MQ below (Qv D cy A (xw cy ad σ')) args s 0 0 A) (F0 m 46 ls []) := by
  obtain ⟨⟨hx, hb, hml, hown, hts⟩, hK, hT, hA, hlk⟩ := id C
  intro n
  induction n with
  | zero =>
    intro v2 σ h
    exact no_some h
  | succ n ih =>
    intro v2 σ h H locs hP hD hS ls hl
    rw [b_X2_begin_3_30_46] at h
    refine lv_iload_n hx hb dX2_begin_46 rfl (lv_at hl 1 rfl) ?_
    refine lv_iconst (v := 4) hx hb dX2_begin_47 (by decide) ?_
    refine lv_icmp_ge (tgt := 64) hx hb dX2_begin_48 (by decide) (fun q1 => ?_) (fun q1 => ?_)
    · have h := ifp q1 h
      refine lv_aload_n hx hb dX2_begin_64 rfl (lv_at hl 0 rfl) ?_
      refine lv_iconst (v := 0) hx hb dX2_begin_65 (by decide) ?_
      obtain ⟨σ2, eσ2, h⟩ := lt_some h
      refine x_put C hP hD hS inlX2 tyX2 tyX2_ok nmX2 3 xw_3 rfl 4 (by decide) mw3_14 rfl rfl rfl (Nat.le_of_ble_eq_true rfl) (xs_3_4 eσ2) dX2_begin_66 (fun H locs hP hD hS => ?_)
      refine lv_aload_n hx hb dX2_begin_69 rfl (lv_at hl 0 rfl) ?_
      refine lv_iconst (v := 0) hx hb dX2_begin_70 (by decide) ?_
      obtain ⟨σ3, eσ3, h⟩ := lt_some h
      refine x_put C hP hD hS inlX2 tyX2 tyX2_ok nmX2 3 xw_3 rfl 5 (by decide) mw3_15 rfl rfl rfl (Nat.le_of_ble_eq_true rfl) (xs_3_5 eσ3) dX2_begin_71 (fun H locs hP hD hS => ?_)
      have z1 := so_inj h
      subst z1
      exact x_vret C hr hP hD hS dX2_begin_74
    · have h := ifn q1 h
      refine lv_aload_n hx hb dX2_begin_51 rfl (lv_at hl 0 rfl) ?_
      refine x_get C hP inlX2 3 xw_3 rfl 3 (by decide) mw3_13 rfl dX2_begin_52 ?_
      refine lv_iload_n hx hb dX2_begin_55 rfl (lv_at hl 1 rfl) ?_
      refine lv_iconst (v := 0) hx hb dX2_begin_56 (by decide) ?_
      obtain ⟨g4, σ5, eσ5, h⟩ := wr_some h
      refine x_ist C hP hD hS 7 xw_7 g4 (xa_7 eσ5) dX2_begin_57 (fun H locs hP hD hS => ?_)
      obtain ⟨x6, ex6, h⟩ := lt_some h
      refine lv_iinc (v := x6) (lv' := [(2, .int x6), (0, .ref (ad 3))]) hx hb dX2_begin_58 hl (k := 1) rfl (by rw [ex6]; rfl) (by decide) rfl (fun ls hl => ?_)
      refine lv_goto (tgt := 46) hx hb dX2_begin_61 (by decide) ?_
      exact ih x6 σ5 h H locs hP hD hS ls (lv_sub hl [1, 0] rfl)
set_option maxHeartbeats 4000000 in
set_option maxRecDepth 100000 in
theorem w_X2_begin_3_30_2 (C : Cx p s m args meth c D cy tT tF A cX2_begin 3 RX2) (hr : meth.sig.returnType = none) {σ' : ES} : ∀ (n : Nat) (v2 : Int32) (σ : ES), b_X2_begin_3_30_2 n v2 σ = some σ' → ∀ (H : Heap) (locs : List Loc) (hP : va_P D vwCl (xw cy ad σ) H) (hD : va_D A (xw cy ad σ)) (hS : va_S A s.heap H locs) (ls : Array Slot) (hl : lv_has ls 3 [(0, .ref (ad 3)), (1, .ref (ad 30)), (2, .int v2)]), W p l e { frames := 0, cells := 0, slots := 0, locals := 0 } s m args below meth c H locs 0 0 (MQ below (Qv D cy A (xw cy ad σ')) args s 0 0 A) (F0 m 2 ls []) := by
  obtain ⟨⟨hx, hb, hml, hown, hts⟩, hK, hT, hA, hlk⟩ := id C
  intro n
  induction n with
  | zero =>
    intro v2 σ h
    exact no_some h
  | succ n ih =>
    intro v2 σ h H locs hP hD hS ls hl
    rw [b_X2_begin_3_30_2] at h
    refine lv_iload_n hx hb dX2_begin_2 rfl (lv_at hl 2 rfl) ?_
    refine lv_iconst (v := 4) hx hb dX2_begin_3 (by decide) ?_
    refine lv_icmp_ge (tgt := 44) hx hb dX2_begin_4 (by decide) (fun q1 => ?_) (fun q1 => ?_)
    · have h := ifp q1 h
      refine lv_iconst (v := 0) hx hb dX2_begin_44 (by decide) ?_
      refine lv_istore_n (lv' := [(2, .int (0 : Int32)), (0, .ref (ad 3)), (1, .ref (ad 30))]) hx hb dX2_begin_45 rfl hl (by decide) rfl (fun ls hl => ?_)
      exact w_X2_begin_3_30_46 C hr FU (0 : Int32) σ h H locs hP hD hS ls (lv_sub hl [1, 0] rfl)
    · have h := ifn q1 h
      refine lv_aload_n hx hb dX2_begin_7 rfl (lv_at hl 0 rfl) ?_
      refine x_get C hP inlX2 3 xw_3 rfl 0 (by decide) mw3_10 rfl dX2_begin_8 ?_
      refine lv_iload_n hx hb dX2_begin_11 rfl (lv_at hl 2 rfl) ?_
      refine lv_aload_n hx hb dX2_begin_12 rfl (lv_at hl 1 rfl) ?_
      refine x_get C hP inlX3 30 xw_30 rfl 1 (by decide) mw11_17 rfl dX2_begin_13 ?_
      refine lv_iload_n hx hb dX2_begin_16 rfl (lv_at hl 2 rfl) ?_
      obtain ⟨g2, x3, ex3, h⟩ := rd_some h
      refine x_ild C hP 32 xw_32 g2 ex3 dX2_begin_17 ?_
      obtain ⟨g4, σ5, eσ5, h⟩ := wr_some h
      refine x_ist C hP hD hS 4 xw_4 g4 (xa_4 eσ5) dX2_begin_18 (fun H locs hP hD hS => ?_)
      refine lv_aload_n hx hb dX2_begin_19 rfl (lv_at hl 0 rfl) ?_
      refine x_get C hP inlX2 3 xw_3 rfl 1 (by decide) mw3_11 rfl dX2_begin_20 ?_
      refine lv_iload_n hx hb dX2_begin_23 rfl (lv_at hl 2 rfl) ?_
      refine lv_aload_n hx hb dX2_begin_24 rfl (lv_at hl 1 rfl) ?_
      refine x_get C hP inlX3 30 xw_30 rfl 2 (by decide) mw11_18 rfl dX2_begin_25 ?_
      refine lv_iload_n hx hb dX2_begin_28 rfl (lv_at hl 2 rfl) ?_
      obtain ⟨g6, x7, ex7, h⟩ := rd_some h
      refine x_ild C hP 33 xw_33 g6 ex7 dX2_begin_29 ?_
      obtain ⟨g8, σ9, eσ9, h⟩ := wr_some h
      refine x_ist C hP hD hS 5 xw_5 g8 (xa_5 eσ9) dX2_begin_30 (fun H locs hP hD hS => ?_)
      refine lv_aload_n hx hb dX2_begin_31 rfl (lv_at hl 0 rfl) ?_
      refine x_get C hP inlX2 3 xw_3 rfl 2 (by decide) mw3_12 rfl dX2_begin_32 ?_
      refine lv_iload_n hx hb dX2_begin_35 rfl (lv_at hl 2 rfl) ?_
      refine lv_iconst (v := 0) hx hb dX2_begin_36 (by decide) ?_
      obtain ⟨g10, σ11, eσ11, h⟩ := wr_some h
      refine x_ist C hP hD hS 6 xw_6 g10 (xa_6 eσ11) dX2_begin_37 (fun H locs hP hD hS => ?_)
      obtain ⟨x12, ex12, h⟩ := lt_some h
      refine lv_iinc (v := x12) (lv' := [(2, .int x12), (0, .ref (ad 3)), (1, .ref (ad 30))]) hx hb dX2_begin_38 hl (k := 2) rfl (by rw [ex12]; rfl) (by decide) rfl (fun ls hl => ?_)
      refine lv_goto (tgt := 2) hx hb dX2_begin_41 (by decide) ?_
      exact ih x12 σ11 h H locs hP hD hS ls (lv_sub hl [1, 2, 0] rfl)
set_option maxHeartbeats 4000000 in
set_option maxRecDepth 100000 in
theorem w_X2_begin_3_30_0 (C : Cx p s m args meth c D cy tT tF A cX2_begin 3 RX2) (hr : meth.sig.returnType = none) {σ' : ES} (σ : ES) (h : b_X2_begin_3_30_0 σ = some σ') (H : Heap) (locs : List Loc) (hP : va_P D vwCl (xw cy ad σ) H) (hD : va_D A (xw cy ad σ)) (hS : va_S A s.heap H locs) (ls : Array Slot) (hl : lv_has ls 3 [(0, .ref (ad 3)), (1, .ref (ad 30))]) : W p l e { frames := 0, cells := 0, slots := 0, locals := 0 } s m args below meth c H locs 0 0 (MQ below (Qv D cy A (xw cy ad σ')) args s 0 0 A) (F0 m 0 ls []) := by
  obtain ⟨⟨hx, hb, hml, hown, hts⟩, hK, hT, hA, hlk⟩ := id C
  unfold b_X2_begin_3_30_0 at h
  refine lv_iconst (v := 0) hx hb dX2_begin_0 (by decide) ?_
  refine lv_istore_n (lv' := [(2, .int (0 : Int32)), (0, .ref (ad 3)), (1, .ref (ad 30))]) hx hb dX2_begin_1 rfl hl (by decide) rfl (fun ls hl => ?_)
  exact w_X2_begin_3_30_2 C hr FU (0 : Int32) σ h H locs hP hD hS ls (lv_sub hl [1, 2, 0] rfl)
theorem c_X2_begin_3_30 {l : Launch} {D : va_G} {cy : Nat → ClassId} {tT tF : Nat} {ad : Nat → Nat} {σ : ES} {σ' : ES} (h : e_X2_begin_3_30  σ = some σ') : CMv l yX2_begin (Cond.code yX2_begin cX2_begin 3 none :: wsL_law) { frames := 0, cells := 0, slots := 0, locals := 0 } D cy tT tF [.ref (ad 3), .ref (ad 30)] (xw cy ad σ) (xw cy ad σ') := x_start (Qc := fun A => (Qv D cy A (xw cy ad σ'))) (by decide) (Nat.le_of_ble_eq_true rfl) (fun p e s m below meth c A ls C hr hP hD hS hl => w_X2_begin_3_30_0 C hr  σ h s.heap [] hP hD hS ls hl)
set_option maxHeartbeats 4000000 in
set_option maxRecDepth 100000 in
theorem w_X0_clear_13_0 (C : Cx p s m args meth c D cy tT tF A cX0_clear 1 RX0) (hr : meth.sig.returnType = none) {σ' : ES} (σ : ES) (h : b_X0_clear_13_0 σ = some σ') (H : Heap) (locs : List Loc) (hP : va_P D vwCl (xw cy ad σ) H) (hD : va_D A (xw cy ad σ)) (hS : va_S A s.heap H locs) (ls : Array Slot) (hl : lv_has ls 1 [(0, .ref (ad 13))]) : W p l e { frames := 0, cells := 0, slots := 0, locals := 0 } s m args below meth c H locs 0 0 (MQ below (Qv D cy A (xw cy ad σ')) args s 0 0 A) (F0 m 0 ls []) := by
  obtain ⟨⟨hx, hb, hml, hown, hts⟩, hK, hT, hA, hlk⟩ := id C
  unfold b_X0_clear_13_0 at h
  refine lv_aload_n hx hb dX0_clear_0 rfl (lv_at hl 0 rfl) ?_
  refine lv_iconst (v := 0) hx hb dX0_clear_1 (by decide) ?_
  obtain ⟨σ1, eσ1, h⟩ := lt_some h
  refine x_put C hP hD hS inlX0 tyX0 tyX0_ok nmX0 13 xw_13 rfl 1 (by decide) mw3_21 rfl rfl rfl (Nat.le_of_ble_eq_true rfl) (xs_13_1 eσ1) dX0_clear_2 (fun H locs hP hD hS => ?_)
  refine lv_aload_n hx hb dX0_clear_5 rfl (lv_at hl 0 rfl) ?_
  refine lv_iconst (v := 0) hx hb dX0_clear_6 (by decide) ?_
  obtain ⟨σ2, eσ2, h⟩ := lt_some h
  refine x_put C hP hD hS inlX0 tyX0 tyX0_ok nmX0 13 xw_13 rfl 2 (by decide) mw3_22 rfl rfl rfl (Nat.le_of_ble_eq_true rfl) (xs_13_2 eσ2) dX0_clear_7 (fun H locs hP hD hS => ?_)
  have z1 := so_inj h
  subst z1
  exact x_vret C hr hP hD hS dX0_clear_10
theorem c_X0_clear_13 {l : Launch} {D : va_G} {cy : Nat → ClassId} {tT tF : Nat} {ad : Nat → Nat} {σ : ES} {σ' : ES} (h : e_X0_clear_13  σ = some σ') : CMv l yX0_clear (Cond.code yX0_clear cX0_clear 1 none :: wsL_law) { frames := 0, cells := 0, slots := 0, locals := 0 } D cy tT tF [.ref (ad 13)] (xw cy ad σ) (xw cy ad σ') := x_start (Qc := fun A => (Qv D cy A (xw cy ad σ'))) (by decide) (Nat.le_of_ble_eq_true rfl) (fun p e s m below meth c A ls C hr hP hD hS hl => w_X0_clear_13_0 C hr  σ h s.heap [] hP hD hS ls hl)
set_option maxHeartbeats 4000000 in
set_option maxRecDepth 100000 in
theorem w_X7_party_0_57 (C : Cx p s m args meth c D cy tT tF A cX7_party 3 RX7) (hr : meth.sig.returnType = some .int) {r : Int32} {σ' : ES} {fb : Bool} : ∀ (n : Nat) (v2 : Int32) (σ : ES), b_X7_party_0_57 n v2 σ = some (r, σ', fb) → ∀ (H : Heap) (locs : List Loc) (hP : va_P D vwCl (xw cy (swA ad) σ) H) (hD : va_D A (xw cy (swA ad) σ)) (hS : va_S A s.heap H locs) (ls : Array Slot) (hl : lv_has ls 3 [(0, .ref ((swA ad) 0)), (2, .int v2)]), W p l e { frames := 5, cells := 0, slots := 0, locals := 120 } s m args below meth c H locs 0 0 (MQ below (Qi D cy A r (xw cy (swb fb ad) σ')) args s 0 0 A) (F0 m 57 ls []) := by
  obtain ⟨⟨hx, hb, hml, hown, hts⟩, hK, hT, hA, hlk⟩ := id C
  intro n
  induction n with
  | zero =>
    intro v2 σ h
    exact no_some h
  | succ n ih =>
    intro v2 σ h H locs hP hD hS ls hl
    rw [b_X7_party_0_57] at h
    refine lv_iload_n hx hb dX7_party_57 rfl (lv_at hl 1 rfl) ?_
    refine lv_iconst (v := 2) hx hb dX7_party_58 (by decide) ?_
    refine lv_icmp_ge (tgt := 75) hx hb dX7_party_59 (by decide) (fun q1 => ?_) (fun q1 => ?_)
    · have h := ifp q1 h
      refine lv_aload_n hx hb dX7_party_75 rfl (lv_at hl 0 rfl) ?_
      refine x_get C hP inlX7 0 xw_0 rfl 4 (by decide) mw2_5 rfl dX7_party_76 ?_
      refine lv_iconst (v := 0) hx hb dX7_party_79 (by decide) ?_
      obtain ⟨σ2, eσ2, h⟩ := lt_some h
      refine x_put C hP hD hS inlX4 tyX4 tyX4_ok nmX4 15 xw_15 rfl 11 (by decide) mw11_10 rfl rfl rfl (Nat.le_of_ble_eq_true rfl) (xs_15_11 eσ2) dX7_party_80 (fun H locs hP hD hS => ?_)
      refine lv_bipush (v := 10) hx hb dX7_party_83 (by decide) ?_
      refine lv_aload_n hx hb dX7_party_85 rfl (lv_at hl 0 rfl) ?_
      refine x_get C hP inlX7 0 xw_0 rfl 9 (by decide) mw2_21 rfl dX7_party_86 ?_
      refine x_get C hP inlX3 30 xw_30 rfl 9 (by decide) mw11_11 rfl dX7_party_89 ?_
      refine lv_imul hx hb dX7_party_92 ?_
      refine lv_aload_n hx hb dX7_party_93 rfl (lv_at hl 0 rfl) ?_
      refine x_get C hP inlX7 0 xw_0 rfl 9 (by decide) mw2_21 rfl dX7_party_94 ?_
      refine x_get C hP inlX3 30 xw_30 rfl 10 (by decide) mw11_12 rfl dX7_party_97 ?_
      refine lv_iadd hx hb dX7_party_100 ?_
      cases h
      exact x_iret C hr hP hD hS dX7_party_101
    · have h := ifn q1 h
      refine lv_aload_n hx hb dX7_party_62 rfl (lv_at hl 0 rfl) ?_
      refine x_get C hP inlX7 0 xw_0 rfl 8 (by decide) mw2_17 rfl dX7_party_63 ?_
      refine lv_iload_n hx hb dX7_party_66 rfl (lv_at hl 1 rfl) ?_
      refine lv_iconst (v := 0) hx hb dX7_party_67 (by decide) ?_
      obtain ⟨g3, σ4, eσ4, h⟩ := wr_some h
      refine x_zst C hP hD hS 29 xw_29 g3 rfl (xa_29 eσ4) dX7_party_68 (fun H locs hP hD hS => ?_)
      obtain ⟨x5, ex5, h⟩ := lt_some h
      refine lv_iinc (v := x5) (lv' := [(2, .int x5), (0, .ref ((swA ad) 0))]) hx hb dX7_party_69 hl (k := 1) rfl (by rw [ex5]; rfl) (by decide) rfl (fun ls hl => ?_)
      refine lv_goto (tgt := 57) hx hb dX7_party_72 (by decide) ?_
      exact ih x5 σ4 h H locs hP hD hS ls (lv_sub hl [1, 0] rfl)
set_option maxHeartbeats 4000000 in
set_option maxRecDepth 100000 in
theorem w_X7_party_0_0 (C : Cx p s m args meth c D cy tT tF A cX7_party 3 RX7) (hr : meth.sig.returnType = some .int) {r : Int32} {σ' : ES} {fb : Bool} (σ : ES) (h : b_X7_party_0_0 σ = some (r, σ', fb)) (H : Heap) (locs : List Loc) (hP : va_P D vwCl (xw cy ad σ) H) (hD : va_D A (xw cy ad σ)) (hS : va_S A s.heap H locs) (ls : Array Slot) (hl : lv_has ls 3 [(0, .ref (ad 0))]) : W p l e { frames := 5, cells := 0, slots := 0, locals := 120 } s m args below meth c H locs 0 0 (MQ below (Qi D cy A r (xw cy (swb fb ad) σ')) args s 0 0 A) (F0 m 0 ls []) := by
  obtain ⟨⟨hx, hb, hml, hown, hts⟩, hK, hT, hA, hlk⟩ := id C
  unfold b_X7_party_0_0 at h
  refine lv_aload_n hx hb dX7_party_0 rfl (lv_at hl 0 rfl) ?_
  refine x_get C hP inlX7 0 xw_0 rfl 0 (by decide) mw1_16 rfl dX7_party_1 ?_
  refine lv_aload_n hx hb dX7_party_4 rfl (lv_at hl 0 rfl) ?_
  refine x_get C hP inlX7 0 xw_0 rfl 10 (by decide) mw2_22 rfl dX7_party_5 ?_
  obtain ⟨r3, σ2, g1, h⟩ := cs_some h
  refine x_callVi (rest := []) C hP hD hS (c_X6_readInto_1_39 g1) (cwV 1 hts (gV mw8_5 mw8_6 mw8_7 mw1_15 mw8_8) rfl rfl rfl hdV_X6_readInto ⟨Nat.le_of_ble_eq_true rfl, Nat.le_of_ble_eq_true rfl⟩) xw_1 rfl rfl hl.1 rfl (Nat.le_of_ble_eq_true rfl) dX7_party_8 ⟨Nat.zero_le _, Nat.zero_le _⟩ (fun H locs hP hD hS => ?_)
  refine lv_bipush (v := -9) hx hb dX7_party_11 (by decide) ?_
  refine lv_icmp_eq (tgt := 19) hx hb dX7_party_13 (by decide) (fun q4 => ?_) (fun q4 => ?_)
  · have h := ifp q4 h
    refine lv_aload_n hx hb dX7_party_19 rfl (lv_at hl 0 rfl) ?_
    refine x_get C hP inlX7 0 xw_0 rfl 9 (by decide) mw2_21 rfl dX7_party_20 ?_
    refine lv_astore_n (lv' := [(1, .ref (ad 30)), (0, .ref (ad 0))]) hx hb dX7_party_23 rfl hl (by decide) rfl (fun ls hl => ?_)
    refine lv_aload_n hx hb dX7_party_24 rfl (lv_at hl 1 rfl) ?_
    refine lv_aload_n hx hb dX7_party_25 rfl (lv_at hl 1 rfl) ?_
    refine x_get C hP inlX7 0 xw_0 rfl 10 (by decide) mw2_22 rfl dX7_party_26 ?_
    refine x_put C hP hD hS inlX7 tyX7 tyX7_ok nmX7 0 xw_0 rfl 9 (by decide) mw2_21 rfl rfl rfl (Nat.le_of_ble_eq_true rfl) xs_told dX7_party_29 (fun H locs hP hD hS => ?_)
    refine lv_aload_n hx hb dX7_party_32 rfl (lv_at hl 1 rfl) ?_
    refine lv_aload_n hx hb dX7_party_33 rfl (lv_at hl 0 rfl) ?_
    refine x_put C hP hD hS inlX7 tyX7 tyX7_ok nmX7 0 xw_0 rfl 10 (by decide) mw2_22 rfl rfl rfl (Nat.le_of_ble_eq_true rfl) xs_draft dX7_party_34 (fun H locs hP hD hS => ?_)
    obtain ⟨σ5, eσ5, h⟩ := lt_some h
    have hP := xw_swapP eσ5 hP
    have hD := xw_swapD eσ5 hD
    refine lv_aload_n hx hb dX7_party_37 rfl (lv_at hl 1 rfl) ?_
    refine x_get C hP inlX7 0 xw_0 rfl 1 (by decide) mw1_20 rfl dX7_party_38 ?_
    refine lv_aload_n hx hb dX7_party_41 rfl (lv_at hl 1 rfl) ?_
    refine x_get C hP inlX7 0 xw_0 rfl 9 (by decide) mw2_21 rfl dX7_party_42 ?_
    obtain ⟨σ7, g6, h⟩ := cl_some h
    refine x_callVv (rest := []) C hP hD hS (c_X2_begin_3_30 g6) (cwV 1 hts (gV mw11_13 mw11_14 mw11_15 mw1_19 mw11_16) rfl rfl rfl hdV_X2_begin ⟨Nat.le_of_ble_eq_true rfl, Nat.le_of_ble_eq_true rfl⟩) xw_3 rfl rfl hl.1 rfl (Nat.le_of_ble_eq_true rfl) dX7_party_45 ⟨Nat.zero_le _, Nat.zero_le _⟩ (fun H locs hP hD hS => ?_)
    refine lv_aload_n hx hb dX7_party_48 rfl (lv_at hl 1 rfl) ?_
    refine x_get C hP inlX7 0 xw_0 rfl 3 (by decide) mw2_1 rfl dX7_party_49 ?_
    obtain ⟨σ9, g8, h⟩ := cl_some h
    refine x_callVv (rest := []) C hP hD hS (c_X0_clear_13 g8) (cwV 0 hts (gV mw11_19 mw11_20 mw11_21 mw2_0 mw11_22) rfl rfl rfl hdV_X0_clear ⟨Nat.le_of_ble_eq_true rfl, Nat.le_of_ble_eq_true rfl⟩) xw_13 rfl rfl hl.1 rfl (Nat.le_of_ble_eq_true rfl) dX7_party_52 ⟨Nat.zero_le _, Nat.zero_le _⟩ (fun H locs hP hD hS => ?_)
    refine lv_iconst (v := 0) hx hb dX7_party_55 (by decide) ?_
    refine lv_istore_n (lv' := [(2, .int (0 : Int32)), (1, .ref ((swA ad) 39)), (0, .ref ((swA ad) 0))]) hx hb dX7_party_56 rfl hl (by decide) rfl (fun ls hl => ?_)
    exact w_X7_party_0_57 C hr FU (0 : Int32) σ9 h H locs hP hD hS ls (lv_sub hl [2, 0] rfl)
  · have h := ifn q4 h
    refine lv_bipush (v := -3) hx hb dX7_party_16 (by decide) ?_
    cases h
    exact x_iret C hr hP hD hS dX7_party_18
theorem c_X7_party_0 {l : Launch} {D : va_G} {cy : Nat → ClassId} {tT tF : Nat} {ad : Nat → Nat} {σ : ES} {r : Int32} {σ' : ES} {fb : Bool} (h : e_X7_party_0  σ = some (r, σ', fb)) : CMi l yX7_party (Cond.code yX7_party cX7_party 3 (some .int) :: wsL_law) { frames := 5, cells := 0, slots := 0, locals := 120 } D cy tT tF [.ref (ad 0)] (xw cy ad σ) r (xw cy (swb fb ad) σ') := x_start (Qc := fun A => (Qi D cy A r (xw cy (swb fb ad) σ'))) (by decide) (Nat.le_of_ble_eq_true rfl) (fun p e s m below meth c A ls C hr hP hD hS hl => w_X7_party_0_0 C hr  σ h s.heap [] hP hD hS ls hl)
set_option maxHeartbeats 4000000 in
set_option maxRecDepth 100000 in
theorem w_X3_giftAt_30_0 (C : Cx p s m args meth c D cy tT tF A cX3_giftAt 2 RX3) (hr : meth.sig.returnType = some .int) {r : Int32} {σ : ES} (a1 : Int32) (h : b_X3_giftAt_30_0 σ a1 = some r) (H : Heap) (locs : List Loc) (hP : va_P D vwCl (xw cy ad σ) H) (hD : va_D A (xw cy ad σ)) (hS : va_S A s.heap H locs) (ls : Array Slot) (hl : lv_has ls 2 [(0, .ref (ad 30)), (1, .int a1)]) : W p l e { frames := 0, cells := 0, slots := 0, locals := 0 } s m args below meth c H locs 0 0 (MQ below (Qi D cy A r (xw cy ad σ)) args s 0 0 A) (F0 m 0 ls []) := by
  obtain ⟨⟨hx, hb, hml, hown, hts⟩, hK, hT, hA, hlk⟩ := id C
  unfold b_X3_giftAt_30_0 at h
  refine lv_iload_n hx hb dX3_giftAt_0 rfl (lv_at hl 1 rfl) ?_
  refine lv_if_lt (tgt := 21) hx hb dX3_giftAt_1 (by decide) (fun q1 => ?_) (fun q1 => ?_)
  · have h := ifp q1 h
    refine lv_iconst (v := 4) hx hb dX3_giftAt_21 (by decide) ?_
    have z1 := so_inj h
    subst z1
    exact x_iret C hr hP hD hS dX3_giftAt_22
  · have h := ifn q1 h
    refine lv_iload_n hx hb dX3_giftAt_4 rfl (lv_at hl 1 rfl) ?_
    refine lv_aload_n hx hb dX3_giftAt_5 rfl (lv_at hl 0 rfl) ?_
    refine x_get C hP inlX3 30 xw_30 rfl 8 (by decide) mw5_15 rfl dX3_giftAt_6 ?_
    refine lv_icmp_ge (tgt := 21) hx hb dX3_giftAt_9 (by decide) (fun q2 => ?_) (fun q2 => ?_)
    · have h := ifp q2 h
      refine lv_iconst (v := 4) hx hb dX3_giftAt_21 (by decide) ?_
      have z1 := so_inj h
      subst z1
      exact x_iret C hr hP hD hS dX3_giftAt_22
    · have h := ifn q2 h
      refine lv_aload_n hx hb dX3_giftAt_12 rfl (lv_at hl 0 rfl) ?_
      refine x_get C hP inlX3 30 xw_30 rfl 0 (by decide) mw5_7 rfl dX3_giftAt_13 ?_
      refine lv_iload_n hx hb dX3_giftAt_16 rfl (lv_at hl 1 rfl) ?_
      obtain ⟨g3, x4, ex4, h⟩ := rd_some h
      refine x_ild C hP 31 xw_31 g3 ex4 dX3_giftAt_17 ?_
      refine lv_goto (tgt := 22) hx hb dX3_giftAt_18 (by decide) ?_
      have z1 := so_inj h
      subst z1
      exact x_iret C hr hP hD hS dX3_giftAt_22
theorem c_X3_giftAt_30 {l : Launch} {D : va_G} {cy : Nat → ClassId} {tT tF : Nat} {ad : Nat → Nat} {a1 : Int32} {r : Int32} {σ : ES} (h : e_X3_giftAt_30 a1 σ = some r) : CMi l yX3_giftAt (Cond.code yX3_giftAt cX3_giftAt 2 (some .int) :: wsL_law) { frames := 0, cells := 0, slots := 0, locals := 0 } D cy tT tF [.ref (ad 30), .int a1] (xw cy ad σ) r (xw cy ad σ) := x_start (Qc := fun A => (Qi D cy A r (xw cy ad σ))) (by decide) (Nat.le_of_ble_eq_true rfl) (fun p e s m below meth c A ls C hr hP hD hS hl => w_X3_giftAt_30_0 C hr a1 h s.heap [] hP hD hS ls hl)
set_option maxHeartbeats 4000000 in
set_option maxRecDepth 100000 in
theorem w_X7_moment_0_0 (C : Cx p s m args meth c D cy tT tF A cX7_moment 2 RX7) (hr : meth.sig.returnType = some .int) {r : Int32} {σ : ES} (a1 : Int32) (h : b_X7_moment_0_0 σ a1 = some r) (H : Heap) (locs : List Loc) (hP : va_P D vwCl (xw cy ad σ) H) (hD : va_D A (xw cy ad σ)) (hS : va_S A s.heap H locs) (ls : Array Slot) (hl : lv_has ls 2 [(0, .ref (ad 0)), (1, .int a1)]) : W p l e { frames := 1, cells := 0, slots := 0, locals := 21 } s m args below meth c H locs 0 0 (MQ below (Qi D cy A r (xw cy ad σ)) args s 0 0 A) (F0 m 0 ls []) := by
  obtain ⟨⟨hx, hb, hml, hown, hts⟩, hK, hT, hA, hlk⟩ := id C
  unfold b_X7_moment_0_0 at h
  refine lv_iload_n hx hb dX7_moment_0 rfl (lv_at hl 1 rfl) ?_
  refine lv_if_lt (tgt := 26) hx hb dX7_moment_1 (by decide) (fun q1 => ?_) (fun q1 => ?_)
  · have h := ifp q1 h
    refine lv_bipush (v := -9) hx hb dX7_moment_26 (by decide) ?_
    have z1 := so_inj h
    subst z1
    exact x_iret C hr hP hD hS dX7_moment_28
  · have h := ifn q1 h
    refine lv_iload_n hx hb dX7_moment_4 rfl (lv_at hl 1 rfl) ?_
    refine lv_aload_n hx hb dX7_moment_5 rfl (lv_at hl 0 rfl) ?_
    refine x_get C hP inlX7 0 xw_0 rfl 9 (by decide) mw2_21 rfl dX7_moment_6 ?_
    refine x_get C hP inlX3 30 xw_30 rfl 8 (by decide) mw12_10 rfl dX7_moment_9 ?_
    refine lv_icmp_ge (tgt := 26) hx hb dX7_moment_12 (by decide) (fun q2 => ?_) (fun q2 => ?_)
    · have h := ifp q2 h
      refine lv_bipush (v := -9) hx hb dX7_moment_26 (by decide) ?_
      have z1 := so_inj h
      subst z1
      exact x_iret C hr hP hD hS dX7_moment_28
    · have h := ifn q2 h
      refine lv_aload_n hx hb dX7_moment_15 rfl (lv_at hl 0 rfl) ?_
      refine x_get C hP inlX7 0 xw_0 rfl 9 (by decide) mw2_21 rfl dX7_moment_16 ?_
      refine lv_iload_n hx hb dX7_moment_19 rfl (lv_at hl 1 rfl) ?_
      obtain ⟨r4, g3, h⟩ := cl_some h
      refine x_callVi (rest := []) C hP hD hS (c_X3_giftAt_30 g3) (cwV 1 hts (gV mw12_11 mw12_12 mw12_13 mw2_20 mw12_14) rfl rfl rfl hdV_X3_giftAt ⟨Nat.le_of_ble_eq_true rfl, Nat.le_of_ble_eq_true rfl⟩) xw_30 rfl rfl hl.1 rfl (Nat.le_of_ble_eq_true rfl) dX7_moment_20 ⟨Nat.zero_le _, Nat.zero_le _⟩ (fun H locs hP hD hS => ?_)
      refine lv_goto (tgt := 28) hx hb dX7_moment_23 (by decide) ?_
      have z1 := so_inj h
      subst z1
      exact x_iret C hr hP hD hS dX7_moment_28
theorem c_X7_moment_0 {l : Launch} {D : va_G} {cy : Nat → ClassId} {tT tF : Nat} {ad : Nat → Nat} {a1 : Int32} {r : Int32} {σ : ES} (h : e_X7_moment_0 a1 σ = some r) : CMi l yX7_moment (Cond.code yX7_moment cX7_moment 2 (some .int) :: wsL_law) { frames := 1, cells := 0, slots := 0, locals := 21 } D cy tT tF [.ref (ad 0), .int a1] (xw cy ad σ) r (xw cy ad σ) := x_start (Qc := fun A => (Qi D cy A r (xw cy ad σ))) (by decide) (Nat.le_of_ble_eq_true rfl) (fun p e s m below meth c A ls C hr hP hD hS hl => w_X7_moment_0_0 C hr a1 h s.heap [] hP hD hS ls hl)
set_option maxHeartbeats 4000000 in
set_option maxRecDepth 100000 in
theorem w_X3_hasCandle_30_0 (C : Cx p s m args meth c D cy tT tF A cX3_hasCandle 2 RX3) (hr : meth.sig.returnType = some .boolean) {r : Int32} {σ : ES} (a1 : Int32) (h : b_X3_hasCandle_30_0 σ a1 = some r) (H : Heap) (locs : List Loc) (hP : va_P D vwCl (xw cy ad σ) H) (hD : va_D A (xw cy ad σ)) (hS : va_S A s.heap H locs) (ls : Array Slot) (hl : lv_has ls 2 [(0, .ref (ad 30)), (1, .int a1)]) : W p l e { frames := 0, cells := 0, slots := 0, locals := 0 } s m args below meth c H locs 0 0 (MQ below (Qi D cy A r (xw cy ad σ)) args s 0 0 A) (F0 m 0 ls []) := by
  obtain ⟨⟨hx, hb, hml, hown, hts⟩, hK, hT, hA, hlk⟩ := id C
  unfold b_X3_hasCandle_30_0 at h
  refine lv_iload_n hx hb dX3_hasCandle_0 rfl (lv_at hl 1 rfl) ?_
  refine lv_if_lt (tgt := 16) hx hb dX3_hasCandle_1 (by decide) (fun q1 => ?_) (fun q1 => ?_)
  · have h := ifp q1 h
    refine lv_iconst (v := 0) hx hb dX3_hasCandle_16 (by decide) ?_
    have z1 := so_inj h
    subst z1
    exact x_zret C hr rfl hP hD hS dX3_hasCandle_17
  · have h := ifn q1 h
    refine lv_iload_n hx hb dX3_hasCandle_4 rfl (lv_at hl 1 rfl) ?_
    refine lv_aload_n hx hb dX3_hasCandle_5 rfl (lv_at hl 0 rfl) ?_
    refine x_get C hP inlX3 30 xw_30 rfl 9 (by decide) mw5_16 rfl dX3_hasCandle_6 ?_
    refine lv_icmp_ge (tgt := 16) hx hb dX3_hasCandle_9 (by decide) (fun q2 => ?_) (fun q2 => ?_)
    · have h := ifp q2 h
      refine lv_iconst (v := 0) hx hb dX3_hasCandle_16 (by decide) ?_
      have z1 := so_inj h
      subst z1
      exact x_zret C hr rfl hP hD hS dX3_hasCandle_17
    · have h := ifn q2 h
      refine lv_iconst (v := 1) hx hb dX3_hasCandle_12 (by decide) ?_
      refine lv_goto (tgt := 17) hx hb dX3_hasCandle_13 (by decide) ?_
      have z1 := so_inj h
      subst z1
      exact x_zret C hr rfl hP hD hS dX3_hasCandle_17
theorem c_X3_hasCandle_30 {l : Launch} {D : va_G} {cy : Nat → ClassId} {tT tF : Nat} {ad : Nat → Nat} {a1 : Int32} {r : Int32} {σ : ES} (h : e_X3_hasCandle_30 a1 σ = some r) : CMi l yX3_hasCandle (Cond.code yX3_hasCandle cX3_hasCandle 2 (some .boolean) :: wsL_law) { frames := 0, cells := 0, slots := 0, locals := 0 } D cy tT tF [.ref (ad 30), .int a1] (xw cy ad σ) r (xw cy ad σ) := x_start (Qc := fun A => (Qi D cy A r (xw cy ad σ))) (by decide) (Nat.le_of_ble_eq_true rfl) (fun p e s m below meth c A ls C hr hP hD hS hl => w_X3_hasCandle_30_0 C hr a1 h s.heap [] hP hD hS ls hl)
set_option maxHeartbeats 4000000 in
set_option maxRecDepth 100000 in
theorem w_X7_candle_0_0 (C : Cx p s m args meth c D cy tT tF A cX7_candle 3 RX7) (hr : meth.sig.returnType = some .int) {r : Int32} {σ : ES} (a1 : Int32) (a2 : Int32) (h : b_X7_candle_0_0 σ a1 a2 = some r) (H : Heap) (locs : List Loc) (hP : va_P D vwCl (xw cy ad σ) H) (hD : va_D A (xw cy ad σ)) (hS : va_S A s.heap H locs) (ls : Array Slot) (hl : lv_has ls 3 [(0, .ref (ad 0)), (1, .int a1), (2, .int a2)]) : W p l e { frames := 1, cells := 0, slots := 0, locals := 21 } s m args below meth c H locs 0 0 (MQ below (Qi D cy A r (xw cy ad σ)) args s 0 0 A) (F0 m 0 ls []) := by
  obtain ⟨⟨hx, hb, hml, hown, hts⟩, hK, hT, hA, hlk⟩ := id C
  unfold b_X7_candle_0_0 at h
  refine lv_aload_n hx hb dX7_candle_0 rfl (lv_at hl 0 rfl) ?_
  refine x_get C hP inlX7 0 xw_0 rfl 9 (by decide) mw2_21 rfl dX7_candle_1 ?_
  refine lv_iload_n hx hb dX7_candle_4 rfl (lv_at hl 1 rfl) ?_
  obtain ⟨r2, g1, h⟩ := cl_some h
  refine x_callVi (rest := []) C hP hD hS (c_X3_hasCandle_30 g1) (cwV 1 hts (gV mw13_3 mw13_4 mw13_5 mw2_20 mw13_6) rfl rfl rfl hdV_X3_hasCandle ⟨Nat.le_of_ble_eq_true rfl, Nat.le_of_ble_eq_true rfl⟩) xw_30 rfl rfl hl.1 rfl (Nat.le_of_ble_eq_true rfl) dX7_candle_5 ⟨Nat.zero_le _, Nat.zero_le _⟩ (fun H locs hP hD hS => ?_)
  refine lv_if_ne (tgt := 13) hx hb dX7_candle_8 (by decide) (fun q3 => ?_) (fun q3 => ?_)
  · have h := ifn q3 h
    refine lv_iload_n hx hb dX7_candle_13 rfl (lv_at hl 2 rfl) ?_
    by_cases q4 : a2 = (0 : Int32)
    · have h := ifp q4 h
      refine lv_tableIn (off := 30) (tgt := 44) hx hb dX7_candle_14 (by rw [q4]; decide) (by rw [q4]; decide) (by rw [q4]; rfl) (by decide) ?_
      refine lv_aload_n hx hb dX7_candle_44 rfl (lv_at hl 0 rfl) ?_
      refine x_get C hP inlX7 0 xw_0 rfl 1 (by decide) mw1_20 rfl dX7_candle_45 ?_
      refine x_get C hP inlX2 3 xw_3 rfl 1 (by decide) mw12_23 rfl dX7_candle_48 ?_
      refine lv_iload_n hx hb dX7_candle_51 rfl (lv_at hl 1 rfl) ?_
      obtain ⟨g5, x6, ex6, h⟩ := rd_some h
      refine x_ild C hP 5 xw_5 g5 ex6 dX7_candle_52 ?_
      refine lv_if_le (tgt := 68) hx hb dX7_candle_53 (by decide) (fun q7 => ?_) (fun q7 => ?_)
      · have h := ifp q7 h
        refine lv_bipush (v := -9) hx hb dX7_candle_68 (by decide) ?_
        have z1 := so_inj h
        subst z1
        exact x_iret C hr hP hD hS dX7_candle_70
      · have h := ifn q7 h
        refine lv_aload_n hx hb dX7_candle_56 rfl (lv_at hl 0 rfl) ?_
        refine x_get C hP inlX7 0 xw_0 rfl 1 (by decide) mw1_20 rfl dX7_candle_57 ?_
        refine x_get C hP inlX2 3 xw_3 rfl 0 (by decide) mw13_0 rfl dX7_candle_60 ?_
        refine lv_iload_n hx hb dX7_candle_63 rfl (lv_at hl 1 rfl) ?_
        obtain ⟨g8, x9, ex9, h⟩ := rd_some h
        refine x_ild C hP 4 xw_4 g8 ex9 dX7_candle_64 ?_
        refine lv_goto (tgt := 70) hx hb dX7_candle_65 (by decide) ?_
        have z1 := so_inj h
        subst z1
        exact x_iret C hr hP hD hS dX7_candle_70
    have h := ifn q4 h
    by_cases q10 : a2 = (1 : Int32)
    · have h := ifp q10 h
      refine lv_tableIn (off := 57) (tgt := 71) hx hb dX7_candle_14 (by rw [q10]; decide) (by rw [q10]; decide) (by rw [q10]; rfl) (by decide) ?_
      refine lv_aload_n hx hb dX7_candle_71 rfl (lv_at hl 0 rfl) ?_
      refine x_get C hP inlX7 0 xw_0 rfl 1 (by decide) mw1_20 rfl dX7_candle_72 ?_
      refine x_get C hP inlX2 3 xw_3 rfl 1 (by decide) mw12_23 rfl dX7_candle_75 ?_
      refine lv_iload_n hx hb dX7_candle_78 rfl (lv_at hl 1 rfl) ?_
      obtain ⟨g11, x12, ex12, h⟩ := rd_some h
      refine x_ild C hP 5 xw_5 g11 ex12 dX7_candle_79 ?_
      have z1 := so_inj h
      subst z1
      exact x_iret C hr hP hD hS dX7_candle_80
    have h := ifn q10 h
    by_cases q13 : a2 = (2 : Int32)
    · have h := ifp q13 h
      refine lv_tableIn (off := 67) (tgt := 81) hx hb dX7_candle_14 (by rw [q13]; decide) (by rw [q13]; decide) (by rw [q13]; rfl) (by decide) ?_
      refine lv_aload_n hx hb dX7_candle_81 rfl (lv_at hl 0 rfl) ?_
      refine x_get C hP inlX7 0 xw_0 rfl 9 (by decide) mw2_21 rfl dX7_candle_82 ?_
      refine x_get C hP inlX3 30 xw_30 rfl 3 (by decide) mw13_1 rfl dX7_candle_85 ?_
      refine lv_iload_n hx hb dX7_candle_88 rfl (lv_at hl 1 rfl) ?_
      obtain ⟨g14, x15, ex15, h⟩ := rd_some h
      refine x_ild C hP 34 xw_34 g14 ex15 dX7_candle_89 ?_
      have z1 := so_inj h
      subst z1
      exact x_iret C hr hP hD hS dX7_candle_90
    have h := ifn q13 h
    by_cases q16 : a2 = (3 : Int32)
    · have h := ifp q16 h
      refine lv_tableIn (off := 77) (tgt := 91) hx hb dX7_candle_14 (by rw [q16]; decide) (by rw [q16]; decide) (by rw [q16]; rfl) (by decide) ?_
      refine lv_aload_n hx hb dX7_candle_91 rfl (lv_at hl 0 rfl) ?_
      refine x_get C hP inlX7 0 xw_0 rfl 1 (by decide) mw1_20 rfl dX7_candle_92 ?_
      refine x_get C hP inlX2 3 xw_3 rfl 2 (by decide) mw13_2 rfl dX7_candle_95 ?_
      refine lv_iload_n hx hb dX7_candle_98 rfl (lv_at hl 1 rfl) ?_
      obtain ⟨g17, x18, ex18, h⟩ := rd_some h
      refine x_ild C hP 6 xw_6 g17 ex18 dX7_candle_99 ?_
      have z1 := so_inj h
      subst z1
      exact x_iret C hr hP hD hS dX7_candle_100
    have h := ifn q16 h
    refine lv_tableOut (tgt := 101) hx hb dX7_candle_14 (by have z0 := lv_neT q4 (show ((0 : Int32)).toInt = 0 from rfl); have z1 := lv_neT q10 (show ((1 : Int32)).toInt = 1 from rfl); have z2 := lv_neT q13 (show ((2 : Int32)).toInt = 2 from rfl); have z3 := lv_neT q16 (show ((3 : Int32)).toInt = 3 from rfl); omega) (by decide) ?_
    refine lv_bipush (v := -2) hx hb dX7_candle_101 (by decide) ?_
    have z1 := so_inj h
    subst z1
    exact x_iret C hr hP hD hS dX7_candle_103
  · have h := ifp q3 h
    refine lv_iconst (v := -1) hx hb dX7_candle_11 (by decide) ?_
    have z1 := so_inj h
    subst z1
    exact x_iret C hr hP hD hS dX7_candle_12
theorem c_X7_candle_0 {l : Launch} {D : va_G} {cy : Nat → ClassId} {tT tF : Nat} {ad : Nat → Nat} {a1 : Int32} {a2 : Int32} {r : Int32} {σ : ES} (h : e_X7_candle_0 a1 a2 σ = some r) : CMi l yX7_candle (Cond.code yX7_candle cX7_candle 3 (some .int) :: wsL_law) { frames := 1, cells := 0, slots := 0, locals := 21 } D cy tT tF [.ref (ad 0), .int a1, .int a2] (xw cy ad σ) r (xw cy ad σ) := x_start (Qc := fun A => (Qi D cy A r (xw cy ad σ))) (by decide) (Nat.le_of_ble_eq_true rfl) (fun p e s m below meth c A ls C hr hP hD hS hl => w_X7_candle_0_0 C hr a1 a2 h s.heap [] hP hD hS ls hl)
set_option maxHeartbeats 4000000 in
set_option maxRecDepth 100000 in
theorem w_X3_hasGuest_30_0 (C : Cx p s m args meth c D cy tT tF A cX3_hasGuest 2 RX3) (hr : meth.sig.returnType = some .boolean) {r : Int32} {σ : ES} (a1 : Int32) (h : b_X3_hasGuest_30_0 σ a1 = some r) (H : Heap) (locs : List Loc) (hP : va_P D vwCl (xw cy ad σ) H) (hD : va_D A (xw cy ad σ)) (hS : va_S A s.heap H locs) (ls : Array Slot) (hl : lv_has ls 2 [(0, .ref (ad 30)), (1, .int a1)]) : W p l e { frames := 0, cells := 0, slots := 0, locals := 0 } s m args below meth c H locs 0 0 (MQ below (Qi D cy A r (xw cy ad σ)) args s 0 0 A) (F0 m 0 ls []) := by
  obtain ⟨⟨hx, hb, hml, hown, hts⟩, hK, hT, hA, hlk⟩ := id C
  unfold b_X3_hasGuest_30_0 at h
  refine lv_iload_n hx hb dX3_hasGuest_0 rfl (lv_at hl 1 rfl) ?_
  refine lv_if_lt (tgt := 16) hx hb dX3_hasGuest_1 (by decide) (fun q1 => ?_) (fun q1 => ?_)
  · have h := ifp q1 h
    refine lv_iconst (v := 0) hx hb dX3_hasGuest_16 (by decide) ?_
    have z1 := so_inj h
    subst z1
    exact x_zret C hr rfl hP hD hS dX3_hasGuest_17
  · have h := ifn q1 h
    refine lv_iload_n hx hb dX3_hasGuest_4 rfl (lv_at hl 1 rfl) ?_
    refine lv_aload_n hx hb dX3_hasGuest_5 rfl (lv_at hl 0 rfl) ?_
    refine x_get C hP inlX3 30 xw_30 rfl 10 (by decide) mw5_17 rfl dX3_hasGuest_6 ?_
    refine lv_icmp_ge (tgt := 16) hx hb dX3_hasGuest_9 (by decide) (fun q2 => ?_) (fun q2 => ?_)
    · have h := ifp q2 h
      refine lv_iconst (v := 0) hx hb dX3_hasGuest_16 (by decide) ?_
      have z1 := so_inj h
      subst z1
      exact x_zret C hr rfl hP hD hS dX3_hasGuest_17
    · have h := ifn q2 h
      refine lv_iconst (v := 1) hx hb dX3_hasGuest_12 (by decide) ?_
      refine lv_goto (tgt := 17) hx hb dX3_hasGuest_13 (by decide) ?_
      have z1 := so_inj h
      subst z1
      exact x_zret C hr rfl hP hD hS dX3_hasGuest_17
theorem c_X3_hasGuest_30 {l : Launch} {D : va_G} {cy : Nat → ClassId} {tT tF : Nat} {ad : Nat → Nat} {a1 : Int32} {r : Int32} {σ : ES} (h : e_X3_hasGuest_30 a1 σ = some r) : CMi l yX3_hasGuest (Cond.code yX3_hasGuest cX3_hasGuest 2 (some .boolean) :: wsL_law) { frames := 0, cells := 0, slots := 0, locals := 0 } D cy tT tF [.ref (ad 30), .int a1] (xw cy ad σ) r (xw cy ad σ) := x_start (Qc := fun A => (Qi D cy A r (xw cy ad σ))) (by decide) (Nat.le_of_ble_eq_true rfl) (fun p e s m below meth c A ls C hr hP hD hS hl => w_X3_hasGuest_30_0 C hr a1 h s.heap [] hP hD hS ls hl)
set_option maxHeartbeats 4000000 in
set_option maxRecDepth 100000 in
theorem w_X2_isContent_3_30_0 (C : Cx p s m args meth c D cy tT tF A cX2_isContent 3 RX2) (hr : meth.sig.returnType = some .boolean) {r : Int32} {σ : ES} (a2 : Int32) (h : b_X2_isContent_3_30_0 σ a2 = some r) (H : Heap) (locs : List Loc) (hP : va_P D vwCl (xw cy ad σ) H) (hD : va_D A (xw cy ad σ)) (hS : va_S A s.heap H locs) (ls : Array Slot) (hl : lv_has ls 3 [(0, .ref (ad 3)), (1, .ref (ad 30)), (2, .int a2)]) : W p l e { frames := 1, cells := 0, slots := 0, locals := 21 } s m args below meth c H locs 0 0 (MQ below (Qi D cy A r (xw cy ad σ)) args s 0 0 A) (F0 m 0 ls []) := by
  obtain ⟨⟨hx, hb, hml, hown, hts⟩, hK, hT, hA, hlk⟩ := id C
  unfold b_X2_isContent_3_30_0 at h
  refine lv_aload_n hx hb dX2_isContent_0 rfl (lv_at hl 1 rfl) ?_
  refine lv_iload_n hx hb dX2_isContent_1 rfl (lv_at hl 2 rfl) ?_
  obtain ⟨r2, g1, h⟩ := cl_some h
  refine x_callVi (rest := []) C hP hD hS (c_X3_hasGuest_30 g1) (cwV 1 hts (gV mw14_9 mw14_1 mw14_2 mw2_20 mw14_3) rfl rfl rfl hdV_X3_hasGuest ⟨Nat.le_of_ble_eq_true rfl, Nat.le_of_ble_eq_true rfl⟩) xw_30 rfl rfl hl.1 rfl (Nat.le_of_ble_eq_true rfl) dX2_isContent_2 ⟨Nat.zero_le _, Nat.zero_le _⟩ (fun H locs hP hD hS => ?_)
  refine lv_if_eq (tgt := 27) hx hb dX2_isContent_5 (by decide) (fun q3 => ?_) (fun q3 => ?_)
  · have h := ifp q3 h
    refine lv_iconst (v := 0) hx hb dX2_isContent_27 (by decide) ?_
    have z1 := so_inj h
    subst z1
    exact x_zret C hr rfl hP hD hS dX2_isContent_28
  · have h := ifn q3 h
    refine lv_aload_n hx hb dX2_isContent_8 rfl (lv_at hl 0 rfl) ?_
    refine x_get C hP inlX2 3 xw_3 rfl 3 (by decide) mw3_13 rfl dX2_isContent_9 ?_
    refine lv_iload_n hx hb dX2_isContent_12 rfl (lv_at hl 2 rfl) ?_
    obtain ⟨g4, x5, ex5, h⟩ := rd_some h
    refine x_ild C hP 7 xw_7 g4 ex5 dX2_isContent_13 ?_
    refine lv_aload_n hx hb dX2_isContent_14 rfl (lv_at hl 1 rfl) ?_
    refine x_get C hP inlX3 30 xw_30 rfl 5 (by decide) mw14_8 rfl dX2_isContent_15 ?_
    refine lv_iload_n hx hb dX2_isContent_18 rfl (lv_at hl 2 rfl) ?_
    obtain ⟨g6, x7, ex7, h⟩ := rd_some h
    refine x_ild C hP 36 xw_36 g6 ex7 dX2_isContent_19 ?_
    refine lv_icmp_lt (tgt := 27) hx hb dX2_isContent_20 (by decide) (fun q8 => ?_) (fun q8 => ?_)
    · have h := ifp q8 h
      refine lv_iconst (v := 0) hx hb dX2_isContent_27 (by decide) ?_
      have z1 := so_inj h
      subst z1
      exact x_zret C hr rfl hP hD hS dX2_isContent_28
    · have h := ifn q8 h
      refine lv_iconst (v := 1) hx hb dX2_isContent_23 (by decide) ?_
      refine lv_goto (tgt := 28) hx hb dX2_isContent_24 (by decide) ?_
      have z1 := so_inj h
      subst z1
      exact x_zret C hr rfl hP hD hS dX2_isContent_28
theorem c_X2_isContent_3_30 {l : Launch} {D : va_G} {cy : Nat → ClassId} {tT tF : Nat} {ad : Nat → Nat} {a2 : Int32} {r : Int32} {σ : ES} (h : e_X2_isContent_3_30 a2 σ = some r) : CMi l yX2_isContent (Cond.code yX2_isContent cX2_isContent 3 (some .boolean) :: wsL_law) { frames := 1, cells := 0, slots := 0, locals := 21 } D cy tT tF [.ref (ad 3), .ref (ad 30), .int a2] (xw cy ad σ) r (xw cy ad σ) := x_start (Qc := fun A => (Qi D cy A r (xw cy ad σ))) (by decide) (Nat.le_of_ble_eq_true rfl) (fun p e s m below meth c A ls C hr hP hD hS hl => w_X2_isContent_3_30_0 C hr a2 h s.heap [] hP hD hS ls hl)
set_option maxHeartbeats 4000000 in
set_option maxRecDepth 100000 in
theorem w_X7_guest_0_0 (C : Cx p s m args meth c D cy tT tF A cX7_guest 3 RX7) (hr : meth.sig.returnType = some .int) {r : Int32} {σ : ES} (a1 : Int32) (a2 : Int32) (h : b_X7_guest_0_0 σ a1 a2 = some r) (H : Heap) (locs : List Loc) (hP : va_P D vwCl (xw cy ad σ) H) (hD : va_D A (xw cy ad σ)) (hS : va_S A s.heap H locs) (ls : Array Slot) (hl : lv_has ls 3 [(0, .ref (ad 0)), (1, .int a1), (2, .int a2)]) : W p l e { frames := 2, cells := 0, slots := 0, locals := 43 } s m args below meth c H locs 0 0 (MQ below (Qi D cy A r (xw cy ad σ)) args s 0 0 A) (F0 m 0 ls []) := by
  obtain ⟨⟨hx, hb, hml, hown, hts⟩, hK, hT, hA, hlk⟩ := id C
  unfold b_X7_guest_0_0 at h
  refine lv_aload_n hx hb dX7_guest_0 rfl (lv_at hl 0 rfl) ?_
  refine x_get C hP inlX7 0 xw_0 rfl 9 (by decide) mw2_21 rfl dX7_guest_1 ?_
  refine lv_iload_n hx hb dX7_guest_4 rfl (lv_at hl 1 rfl) ?_
  obtain ⟨r2, g1, h⟩ := cl_some h
  refine x_callVi (rest := []) C hP hD hS (c_X3_hasGuest_30 g1) (cwV 1 hts (gV mw14_0 mw14_1 mw14_2 mw2_20 mw14_3) rfl rfl rfl hdV_X3_hasGuest ⟨Nat.le_of_ble_eq_true rfl, Nat.le_of_ble_eq_true rfl⟩) xw_30 rfl rfl hl.1 rfl (Nat.le_of_ble_eq_true rfl) dX7_guest_5 ⟨Nat.zero_le _, Nat.zero_le _⟩ (fun H locs hP hD hS => ?_)
  refine lv_if_ne (tgt := 13) hx hb dX7_guest_8 (by decide) (fun q3 => ?_) (fun q3 => ?_)
  · have h := ifn q3 h
    refine lv_iload_n hx hb dX7_guest_13 rfl (lv_at hl 2 rfl) ?_
    by_cases q4 : a2 = (0 : Int32)
    · have h := ifp q4 h
      refine lv_tableIn (off := 38) (tgt := 52) hx hb dX7_guest_14 (by rw [q4]; decide) (by rw [q4]; decide) (by rw [q4]; rfl) (by decide) ?_
      refine lv_aload_n hx hb dX7_guest_52 rfl (lv_at hl 0 rfl) ?_
      refine x_get C hP inlX7 0 xw_0 rfl 9 (by decide) mw2_21 rfl dX7_guest_53 ?_
      refine x_get C hP inlX3 30 xw_30 rfl 4 (by decide) mw13_19 rfl dX7_guest_56 ?_
      refine lv_iload_n hx hb dX7_guest_59 rfl (lv_at hl 1 rfl) ?_
      obtain ⟨g5, x6, ex6, h⟩ := rd_some h
      refine x_ild C hP 35 xw_35 g5 ex6 dX7_guest_60 ?_
      have z1 := so_inj h
      subst z1
      exact x_iret C hr hP hD hS dX7_guest_61
    have h := ifn q4 h
    by_cases q7 : a2 = (1 : Int32)
    · have h := ifp q7 h
      refine lv_tableIn (off := 48) (tgt := 62) hx hb dX7_guest_14 (by rw [q7]; decide) (by rw [q7]; decide) (by rw [q7]; rfl) (by decide) ?_
      refine lv_aload_n hx hb dX7_guest_62 rfl (lv_at hl 0 rfl) ?_
      refine x_get C hP inlX7 0 xw_0 rfl 9 (by decide) mw2_21 rfl dX7_guest_63 ?_
      refine x_get C hP inlX3 30 xw_30 rfl 5 (by decide) mw13_20 rfl dX7_guest_66 ?_
      refine lv_iload_n hx hb dX7_guest_69 rfl (lv_at hl 1 rfl) ?_
      obtain ⟨g8, x9, ex9, h⟩ := rd_some h
      refine x_ild C hP 36 xw_36 g8 ex9 dX7_guest_70 ?_
      have z1 := so_inj h
      subst z1
      exact x_iret C hr hP hD hS dX7_guest_71
    have h := ifn q7 h
    by_cases q10 : a2 = (2 : Int32)
    · have h := ifp q10 h
      refine lv_tableIn (off := 58) (tgt := 72) hx hb dX7_guest_14 (by rw [q10]; decide) (by rw [q10]; decide) (by rw [q10]; rfl) (by decide) ?_
      refine lv_aload_n hx hb dX7_guest_72 rfl (lv_at hl 0 rfl) ?_
      refine x_get C hP inlX7 0 xw_0 rfl 9 (by decide) mw2_21 rfl dX7_guest_73 ?_
      refine x_get C hP inlX3 30 xw_30 rfl 6 (by decide) mw13_21 rfl dX7_guest_76 ?_
      refine lv_iload_n hx hb dX7_guest_79 rfl (lv_at hl 1 rfl) ?_
      obtain ⟨g11, x12, ex12, h⟩ := rd_some h
      refine x_ild C hP 37 xw_37 g11 ex12 dX7_guest_80 ?_
      have z1 := so_inj h
      subst z1
      exact x_iret C hr hP hD hS dX7_guest_81
    have h := ifn q10 h
    by_cases q13 : a2 = (3 : Int32)
    · have h := ifp q13 h
      refine lv_tableIn (off := 68) (tgt := 82) hx hb dX7_guest_14 (by rw [q13]; decide) (by rw [q13]; decide) (by rw [q13]; rfl) (by decide) ?_
      refine lv_aload_n hx hb dX7_guest_82 rfl (lv_at hl 0 rfl) ?_
      refine x_get C hP inlX7 0 xw_0 rfl 9 (by decide) mw2_21 rfl dX7_guest_83 ?_
      refine x_get C hP inlX3 30 xw_30 rfl 7 (by decide) mw13_22 rfl dX7_guest_86 ?_
      refine lv_iload_n hx hb dX7_guest_89 rfl (lv_at hl 1 rfl) ?_
      obtain ⟨g14, x15, ex15, h⟩ := rd_some h
      refine x_ild C hP 38 xw_38 g14 ex15 dX7_guest_90 ?_
      have z1 := so_inj h
      subst z1
      exact x_iret C hr hP hD hS dX7_guest_91
    have h := ifn q13 h
    by_cases q16 : a2 = (4 : Int32)
    · have h := ifp q16 h
      refine lv_tableIn (off := 78) (tgt := 92) hx hb dX7_guest_14 (by rw [q16]; decide) (by rw [q16]; decide) (by rw [q16]; rfl) (by decide) ?_
      refine lv_aload_n hx hb dX7_guest_92 rfl (lv_at hl 0 rfl) ?_
      refine x_get C hP inlX7 0 xw_0 rfl 1 (by decide) mw1_20 rfl dX7_guest_93 ?_
      refine x_get C hP inlX2 3 xw_3 rfl 3 (by decide) mw13_23 rfl dX7_guest_96 ?_
      refine lv_iload_n hx hb dX7_guest_99 rfl (lv_at hl 1 rfl) ?_
      obtain ⟨g17, x18, ex18, h⟩ := rd_some h
      refine x_ild C hP 7 xw_7 g17 ex18 dX7_guest_100 ?_
      have z1 := so_inj h
      subst z1
      exact x_iret C hr hP hD hS dX7_guest_101
    have h := ifn q16 h
    by_cases q19 : a2 = (5 : Int32)
    · have h := ifp q19 h
      refine lv_tableIn (off := 88) (tgt := 102) hx hb dX7_guest_14 (by rw [q19]; decide) (by rw [q19]; decide) (by rw [q19]; rfl) (by decide) ?_
      refine lv_aload_n hx hb dX7_guest_102 rfl (lv_at hl 0 rfl) ?_
      refine x_get C hP inlX7 0 xw_0 rfl 1 (by decide) mw1_20 rfl dX7_guest_103 ?_
      refine lv_aload_n hx hb dX7_guest_106 rfl (lv_at hl 0 rfl) ?_
      refine x_get C hP inlX7 0 xw_0 rfl 9 (by decide) mw2_21 rfl dX7_guest_107 ?_
      refine lv_iload_n hx hb dX7_guest_110 rfl (lv_at hl 1 rfl) ?_
      obtain ⟨r21, g20, h⟩ := cl_some h
      refine x_callVi (rest := []) C hP hD hS (c_X2_isContent_3_30 g20) (cwV 2 hts (gV mw14_4 mw14_5 mw14_6 mw1_19 mw14_7) rfl rfl rfl hdV_X2_isContent ⟨Nat.le_of_ble_eq_true rfl, Nat.le_of_ble_eq_true rfl⟩) xw_3 rfl rfl hl.1 rfl (Nat.le_of_ble_eq_true rfl) dX7_guest_111 ⟨Nat.zero_le _, Nat.zero_le _⟩ (fun H locs hP hD hS => ?_)
      refine lv_if_eq (tgt := 121) hx hb dX7_guest_114 (by decide) (fun q22 => ?_) (fun q22 => ?_)
      · have h := ifp q22 h
        refine lv_iconst (v := 0) hx hb dX7_guest_121 (by decide) ?_
        have z1 := so_inj h
        subst z1
        exact x_iret C hr hP hD hS dX7_guest_122
      · have h := ifn q22 h
        refine lv_iconst (v := 1) hx hb dX7_guest_117 (by decide) ?_
        refine lv_goto (tgt := 122) hx hb dX7_guest_118 (by decide) ?_
        have z1 := so_inj h
        subst z1
        exact x_iret C hr hP hD hS dX7_guest_122
    have h := ifn q19 h
    refine lv_tableOut (tgt := 123) hx hb dX7_guest_14 (by have z0 := lv_neT q4 (show ((0 : Int32)).toInt = 0 from rfl); have z1 := lv_neT q7 (show ((1 : Int32)).toInt = 1 from rfl); have z2 := lv_neT q10 (show ((2 : Int32)).toInt = 2 from rfl); have z3 := lv_neT q13 (show ((3 : Int32)).toInt = 3 from rfl); have z4 := lv_neT q16 (show ((4 : Int32)).toInt = 4 from rfl); have z5 := lv_neT q19 (show ((5 : Int32)).toInt = 5 from rfl); omega) (by decide) ?_
    refine lv_bipush (v := -2) hx hb dX7_guest_123 (by decide) ?_
    have z1 := so_inj h
    subst z1
    exact x_iret C hr hP hD hS dX7_guest_125
  · have h := ifp q3 h
    refine lv_iconst (v := -1) hx hb dX7_guest_11 (by decide) ?_
    have z1 := so_inj h
    subst z1
    exact x_iret C hr hP hD hS dX7_guest_12
theorem c_X7_guest_0 {l : Launch} {D : va_G} {cy : Nat → ClassId} {tT tF : Nat} {ad : Nat → Nat} {a1 : Int32} {a2 : Int32} {r : Int32} {σ : ES} (h : e_X7_guest_0 a1 a2 σ = some r) : CMi l yX7_guest (Cond.code yX7_guest cX7_guest 3 (some .int) :: wsL_law) { frames := 2, cells := 0, slots := 0, locals := 43 } D cy tT tF [.ref (ad 0), .int a1, .int a2] (xw cy ad σ) r (xw cy ad σ) := x_start (Qc := fun A => (Qi D cy A r (xw cy ad σ))) (by decide) (Nat.le_of_ble_eq_true rfl) (fun p e s m below meth c A ls C hr hP hD hS hl => w_X7_guest_0_0 C hr a1 a2 h s.heap [] hP hD hS ls hl)
end WK6

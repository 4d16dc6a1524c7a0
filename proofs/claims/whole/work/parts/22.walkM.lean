section WK12
variable {p : Program} {l : Launch} {e : Env} {R : Room} {s : State} {m : MethodId} {args : Array Value} {below : List Frame} {meth : Method} {c : Code} {D : va_G} {cy : Nat → ClassId} {tT tF : Nat} {A : Nat → Prop} {ad : Nat → Nat} {ws : va_W}
set_option maxHeartbeats 4000000 in
set_option maxRecDepth 100000 in
theorem w_X7_keep_0_0 (C : Cx p s m args meth c D cy tT tF A cX7_keep 2 RX7) (hr : meth.sig.returnType = some .int) {r : Int32} {σ' : ES} (a1 : Int32) (σ : ES) (h : b_X7_keep_0_0 a1 σ = some (r, σ')) (H : Heap) (locs : List Loc) (hP : va_P D vwCl (xw cy ad σ) H) (hD : va_D A (xw cy ad σ)) (hS : va_S A s.heap H locs) (ls : Array Slot) (hl : lv_has ls 2 [(0, .ref (ad 0)), (1, .int a1)]) : W p l e { frames := 1, cells := 0, slots := 0, locals := 23 } s m args below meth c H locs 0 0 (MQ below (Qi D cy A r (xw cy ad σ')) args s 0 0 A) (F0 m 0 ls []) := by
  obtain ⟨⟨hx, hb, hml, hown, hts⟩, hK, hT, hA, hlk⟩ := id C
  unfold b_X7_keep_0_0 at h
  refine lv_iload_n hx hb dX7_keep_0 rfl (lv_at hl 1 rfl) ?_
  refine lv_if_lt (tgt := 9) hx hb dX7_keep_1 (by decide) (fun q1 => ?_) (fun q1 => ?_)
  · have h := ifp q1 h
    refine lv_iconst (v := -1) hx hb dX7_keep_9 (by decide) ?_
    obtain ⟨z1, z2⟩ := pr_inj h
    subst z1
    subst z2
    exact x_iret C hr hP hD hS dX7_keep_10
  · have h := ifn q1 h
    refine lv_iload_n hx hb dX7_keep_4 rfl (lv_at hl 1 rfl) ?_
    refine lv_iconst (v := 2) hx hb dX7_keep_5 (by decide) ?_
    refine lv_icmp_lt (tgt := 11) hx hb dX7_keep_6 (by decide) (fun q2 => ?_) (fun q2 => ?_)
    · have h := ifp q2 h
      refine lv_aload_n hx hb dX7_keep_11 rfl (lv_at hl 0 rfl) ?_
      refine x_get C hP inlX7 0 xw_0 rfl 1 (by decide) mw1_20 rfl dX7_keep_12 ?_
      refine lv_aload_n hx hb dX7_keep_15 rfl (lv_at hl 0 rfl) ?_
      refine x_get C hP inlX7 0 xw_0 rfl 7 (by decide) mw2_15 rfl dX7_keep_16 ?_
      refine lv_iload_n hx hb dX7_keep_19 rfl (lv_at hl 1 rfl) ?_
      refine lv_bipush (v := 18) hx hb dX7_keep_20 (by decide) ?_
      refine lv_imul hx hb dX7_keep_22 ?_
      obtain ⟨σ4, g3, h⟩ := cl_some h
      refine x_callVv (rest := []) C hP hD hS (c_X2_saveTo_3_28 g3) (cwV 2 hts (gV mw33_21 mw15_11 mw15_12 mw1_19 mw15_13) rfl rfl rfl hdV_X2_saveTo ⟨Nat.le_of_ble_eq_true rfl, Nat.le_of_ble_eq_true rfl⟩) xw_3 rfl rfl hl.1 rfl (Nat.le_of_ble_eq_true rfl) dX7_keep_23 ⟨Nat.zero_le _, Nat.zero_le _⟩ (fun H locs hP hD hS => ?_)
      refine lv_aload_n hx hb dX7_keep_26 rfl (lv_at hl 0 rfl) ?_
      refine x_get C hP inlX7 0 xw_0 rfl 8 (by decide) mw2_17 rfl dX7_keep_27 ?_
      refine lv_iload_n hx hb dX7_keep_30 rfl (lv_at hl 1 rfl) ?_
      refine lv_iconst (v := 1) hx hb dX7_keep_31 (by decide) ?_
      obtain ⟨g5, σ6, eσ6, h⟩ := wr_some h
      refine x_zst C hP hD hS 29 xw_29 g5 rfl (xa_29 eσ6) dX7_keep_32 (fun H locs hP hD hS => ?_)
      refine lv_aload_n hx hb dX7_keep_33 rfl (lv_at hl 0 rfl) ?_
      refine x_get C hP inlX7 0 xw_0 rfl 1 (by decide) mw1_20 rfl dX7_keep_34 ?_
      refine x_get C hP inlX2 3 xw_3 rfl 5 (by decide) mw17_12 rfl dX7_keep_37 ?_
      obtain ⟨z1, z2⟩ := pr_inj h
      subst z1
      subst z2
      exact x_iret C hr hP hD hS dX7_keep_40
    · have h := ifn q2 h
      refine lv_iconst (v := -1) hx hb dX7_keep_9 (by decide) ?_
      obtain ⟨z1, z2⟩ := pr_inj h
      subst z1
      subst z2
      exact x_iret C hr hP hD hS dX7_keep_10
theorem c_X7_keep_0 {l : Launch} {D : va_G} {cy : Nat → ClassId} {tT tF : Nat} {ad : Nat → Nat} {σ : ES} {a1 : Int32} {r : Int32} {σ' : ES} (h : e_X7_keep_0 a1 σ = some (r, σ')) : CMi l yX7_keep (Cond.code yX7_keep cX7_keep 2 (some .int) :: wsL_law) { frames := 1, cells := 0, slots := 0, locals := 23 } D cy tT tF [.ref (ad 0), .int a1] (xw cy ad σ) r (xw cy ad σ') := x_start (Qc := fun A => (Qi D cy A r (xw cy ad σ'))) (by decide) (Nat.le_of_ble_eq_true rfl) (fun p e s m below meth c A ls C hr hP hD hS hl => w_X7_keep_0_0 C hr a1 σ h s.heap [] hP hD hS ls hl)
set_option maxHeartbeats 4000000 in
set_option maxRecDepth 100000 in
theorem w_X2_loadFrom_3_28_72 (C : Cx p s m args meth c D cy tT tF A cX2_loadFrom 4 RX2) (hr : meth.sig.returnType = none) {σ' : ES} : ∀ (n : Nat) (v2 : Int32) (v3 : Int32) (σ : ES), b_X2_loadFrom_3_28_72 n v2 v3 σ = some σ' → ∀ (H : Heap) (locs : List Loc) (hP : va_P D vwCl (xw cy ad σ) H) (hD : va_D A (xw cy ad σ)) (hS : va_S A s.heap H locs) (ls : Array Slot) (hl : lv_has ls 4 [(0, .ref (ad 3)), (1, .ref (ad 28)), (2, .int v2), (3, .int v3)]), W p l e { frames := 0, cells := 0, slots := 0, locals := 0 } s m args below meth c H locs 0 0 (MQ below (Qv D cy A (xw cy ad σ')) args s 0 0 A) (F0 m 72 ls []) := by
  obtain ⟨⟨hx, hb, hml, hown, hts⟩, hK, hT, hA, hlk⟩ := id C
  intro n
  induction n with
  | zero =>
    intro v2 v3 σ h
    exact no_some h
  | succ n ih =>
    intro v2 v3 σ h H locs hP hD hS ls hl
    rw [b_X2_loadFrom_3_28_72] at h
    refine lv_iload_n hx hb dX2_loadFrom_72 rfl (lv_at hl 3 rfl) ?_
    refine lv_iconst (v := 4) hx hb dX2_loadFrom_73 (by decide) ?_
    refine lv_icmp_ge (tgt := 97) hx hb dX2_loadFrom_74 (by decide) (fun q1 => ?_) (fun q1 => ?_)
    · have h := ifp q1 h
      refine lv_aload_n hx hb dX2_loadFrom_97 rfl (lv_at hl 0 rfl) ?_
      refine lv_aload_n hx hb dX2_loadFrom_98 rfl (lv_at hl 1 rfl) ?_
      refine lv_iload_n hx hb dX2_loadFrom_99 rfl (lv_at hl 2 rfl) ?_
      refine lv_bipush (v := 18) hx hb dX2_loadFrom_100 (by decide) ?_
      refine lv_iadd hx hb dX2_loadFrom_102 ?_
      refine lv_iconst (v := 2) hx hb dX2_loadFrom_103 (by decide) ?_
      refine lv_isub hx hb dX2_loadFrom_104 ?_
      obtain ⟨g2, x3, ex3, h⟩ := rd_some h
      refine x_ild C hP 28 xw_28 g2 ex3 dX2_loadFrom_105 ?_
      obtain ⟨σ4, eσ4, h⟩ := lt_some h
      refine x_put C hP hD hS inlX2 tyX2 tyX2_ok nmX2 3 xw_3 rfl 4 (by decide) mw3_14 rfl rfl rfl (Nat.le_of_ble_eq_true rfl) (xs_3_4 eσ4) dX2_loadFrom_106 (fun H locs hP hD hS => ?_)
      refine lv_aload_n hx hb dX2_loadFrom_109 rfl (lv_at hl 0 rfl) ?_
      refine lv_aload_n hx hb dX2_loadFrom_110 rfl (lv_at hl 1 rfl) ?_
      refine lv_iload_n hx hb dX2_loadFrom_111 rfl (lv_at hl 2 rfl) ?_
      refine lv_bipush (v := 18) hx hb dX2_loadFrom_112 (by decide) ?_
      refine lv_iadd hx hb dX2_loadFrom_114 ?_
      refine lv_iconst (v := 1) hx hb dX2_loadFrom_115 (by decide) ?_
      refine lv_isub hx hb dX2_loadFrom_116 ?_
      obtain ⟨g5, x6, ex6, h⟩ := rd_some h
      refine x_ild C hP 28 xw_28 g5 ex6 dX2_loadFrom_117 ?_
      obtain ⟨σ7, eσ7, h⟩ := lt_some h
      refine x_put C hP hD hS inlX2 tyX2 tyX2_ok nmX2 3 xw_3 rfl 5 (by decide) mw3_15 rfl rfl rfl (Nat.le_of_ble_eq_true rfl) (xs_3_5 eσ7) dX2_loadFrom_118 (fun H locs hP hD hS => ?_)
      have z1 := so_inj h
      subst z1
      exact x_vret C hr hP hD hS dX2_loadFrom_121
    · have h := ifn q1 h
      refine lv_aload_n hx hb dX2_loadFrom_77 rfl (lv_at hl 0 rfl) ?_
      refine x_get C hP inlX2 3 xw_3 rfl 3 (by decide) mw3_13 rfl dX2_loadFrom_78 ?_
      refine lv_iload_n hx hb dX2_loadFrom_81 rfl (lv_at hl 3 rfl) ?_
      refine lv_aload_n hx hb dX2_loadFrom_82 rfl (lv_at hl 1 rfl) ?_
      refine lv_iload_n hx hb dX2_loadFrom_83 rfl (lv_at hl 2 rfl) ?_
      refine lv_bipush (v := 12) hx hb dX2_loadFrom_84 (by decide) ?_
      refine lv_iadd hx hb dX2_loadFrom_86 ?_
      refine lv_iload_n hx hb dX2_loadFrom_87 rfl (lv_at hl 3 rfl) ?_
      refine lv_iadd hx hb dX2_loadFrom_88 ?_
      obtain ⟨g8, x9, ex9, h⟩ := rd_some h
      refine x_ild C hP 28 xw_28 g8 ex9 dX2_loadFrom_89 ?_
      obtain ⟨g10, σ11, eσ11, h⟩ := wr_some h
      refine x_ist C hP hD hS 7 xw_7 g10 (xa_7 eσ11) dX2_loadFrom_90 (fun H locs hP hD hS => ?_)
      obtain ⟨x12, ex12, h⟩ := lt_some h
      refine lv_iinc (v := x12) (lv' := [(3, .int x12), (0, .ref (ad 3)), (1, .ref (ad 28)), (2, .int v2)]) hx hb dX2_loadFrom_91 hl (k := 3) rfl (by rw [ex12]; rfl) (by decide) rfl (fun ls hl => ?_)
      refine lv_goto (tgt := 72) hx hb dX2_loadFrom_94 (by decide) ?_
      exact ih v2 x12 σ11 h H locs hP hD hS ls (lv_sub hl [1, 2, 3, 0] rfl)
set_option maxHeartbeats 4000000 in
set_option maxRecDepth 100000 in
theorem w_X2_loadFrom_3_28_16 (C : Cx p s m args meth c D cy tT tF A cX2_loadFrom 4 RX2) (hr : meth.sig.returnType = none) {σ' : ES} : ∀ (n : Nat) (v2 : Int32) (v3 : Int32) (σ : ES), b_X2_loadFrom_3_28_16 n v2 v3 σ = some σ' → ∀ (H : Heap) (locs : List Loc) (hP : va_P D vwCl (xw cy ad σ) H) (hD : va_D A (xw cy ad σ)) (hS : va_S A s.heap H locs) (ls : Array Slot) (hl : lv_has ls 4 [(0, .ref (ad 3)), (1, .ref (ad 28)), (2, .int v2), (3, .int v3)]), W p l e { frames := 0, cells := 0, slots := 0, locals := 0 } s m args below meth c H locs 0 0 (MQ below (Qv D cy A (xw cy ad σ')) args s 0 0 A) (F0 m 16 ls []) := by
  obtain ⟨⟨hx, hb, hml, hown, hts⟩, hK, hT, hA, hlk⟩ := id C
  intro n
  induction n with
  | zero =>
    intro v2 v3 σ h
    exact no_some h
  | succ n ih =>
    intro v2 v3 σ h H locs hP hD hS ls hl
    rw [b_X2_loadFrom_3_28_16] at h
    refine lv_iload_n hx hb dX2_loadFrom_16 rfl (lv_at hl 3 rfl) ?_
    refine lv_iconst (v := 4) hx hb dX2_loadFrom_17 (by decide) ?_
    refine lv_icmp_ge (tgt := 70) hx hb dX2_loadFrom_18 (by decide) (fun q1 => ?_) (fun q1 => ?_)
    · have h := ifp q1 h
      refine lv_iconst (v := 0) hx hb dX2_loadFrom_70 (by decide) ?_
      refine lv_istore_n (lv' := [(3, .int (0 : Int32)), (0, .ref (ad 3)), (1, .ref (ad 28)), (2, .int v2)]) hx hb dX2_loadFrom_71 rfl hl (by decide) rfl (fun ls hl => ?_)
      exact w_X2_loadFrom_3_28_72 C hr FU v2 (0 : Int32) σ h H locs hP hD hS ls (lv_sub hl [1, 2, 3, 0] rfl)
    · have h := ifn q1 h
      refine lv_aload_n hx hb dX2_loadFrom_21 rfl (lv_at hl 0 rfl) ?_
      refine x_get C hP inlX2 3 xw_3 rfl 0 (by decide) mw3_10 rfl dX2_loadFrom_22 ?_
      refine lv_iload_n hx hb dX2_loadFrom_25 rfl (lv_at hl 3 rfl) ?_
      refine lv_aload_n hx hb dX2_loadFrom_26 rfl (lv_at hl 1 rfl) ?_
      refine lv_iload_n hx hb dX2_loadFrom_27 rfl (lv_at hl 2 rfl) ?_
      refine lv_iconst (v := 3) hx hb dX2_loadFrom_28 (by decide) ?_
      refine lv_iload_n hx hb dX2_loadFrom_29 rfl (lv_at hl 3 rfl) ?_
      refine lv_imul hx hb dX2_loadFrom_30 ?_
      refine lv_iadd hx hb dX2_loadFrom_31 ?_
      obtain ⟨g2, x3, ex3, h⟩ := rd_some h
      refine x_ild C hP 28 xw_28 g2 ex3 dX2_loadFrom_32 ?_
      obtain ⟨g4, σ5, eσ5, h⟩ := wr_some h
      refine x_ist C hP hD hS 4 xw_4 g4 (xa_4 eσ5) dX2_loadFrom_33 (fun H locs hP hD hS => ?_)
      refine lv_aload_n hx hb dX2_loadFrom_34 rfl (lv_at hl 0 rfl) ?_
      refine x_get C hP inlX2 3 xw_3 rfl 1 (by decide) mw3_11 rfl dX2_loadFrom_35 ?_
      refine lv_iload_n hx hb dX2_loadFrom_38 rfl (lv_at hl 3 rfl) ?_
      refine lv_aload_n hx hb dX2_loadFrom_39 rfl (lv_at hl 1 rfl) ?_
      refine lv_iload_n hx hb dX2_loadFrom_40 rfl (lv_at hl 2 rfl) ?_
      refine lv_iconst (v := 3) hx hb dX2_loadFrom_41 (by decide) ?_
      refine lv_iload_n hx hb dX2_loadFrom_42 rfl (lv_at hl 3 rfl) ?_
      refine lv_imul hx hb dX2_loadFrom_43 ?_
      refine lv_iadd hx hb dX2_loadFrom_44 ?_
      refine lv_iconst (v := 1) hx hb dX2_loadFrom_45 (by decide) ?_
      refine lv_iadd hx hb dX2_loadFrom_46 ?_
      obtain ⟨g6, x7, ex7, h⟩ := rd_some h
      refine x_ild C hP 28 xw_28 g6 ex7 dX2_loadFrom_47 ?_
      obtain ⟨g8, σ9, eσ9, h⟩ := wr_some h
      refine x_ist C hP hD hS 5 xw_5 g8 (xa_5 eσ9) dX2_loadFrom_48 (fun H locs hP hD hS => ?_)
      refine lv_aload_n hx hb dX2_loadFrom_49 rfl (lv_at hl 0 rfl) ?_
      refine x_get C hP inlX2 3 xw_3 rfl 2 (by decide) mw3_12 rfl dX2_loadFrom_50 ?_
      refine lv_iload_n hx hb dX2_loadFrom_53 rfl (lv_at hl 3 rfl) ?_
      refine lv_aload_n hx hb dX2_loadFrom_54 rfl (lv_at hl 1 rfl) ?_
      refine lv_iload_n hx hb dX2_loadFrom_55 rfl (lv_at hl 2 rfl) ?_
      refine lv_iconst (v := 3) hx hb dX2_loadFrom_56 (by decide) ?_
      refine lv_iload_n hx hb dX2_loadFrom_57 rfl (lv_at hl 3 rfl) ?_
      refine lv_imul hx hb dX2_loadFrom_58 ?_
      refine lv_iadd hx hb dX2_loadFrom_59 ?_
      refine lv_iconst (v := 2) hx hb dX2_loadFrom_60 (by decide) ?_
      refine lv_iadd hx hb dX2_loadFrom_61 ?_
      obtain ⟨g10, x11, ex11, h⟩ := rd_some h
      refine x_ild C hP 28 xw_28 g10 ex11 dX2_loadFrom_62 ?_
      obtain ⟨g12, σ13, eσ13, h⟩ := wr_some h
      refine x_ist C hP hD hS 6 xw_6 g12 (xa_6 eσ13) dX2_loadFrom_63 (fun H locs hP hD hS => ?_)
      obtain ⟨x14, ex14, h⟩ := lt_some h
      refine lv_iinc (v := x14) (lv' := [(3, .int x14), (0, .ref (ad 3)), (1, .ref (ad 28)), (2, .int v2)]) hx hb dX2_loadFrom_64 hl (k := 3) rfl (by rw [ex14]; rfl) (by decide) rfl (fun ls hl => ?_)
      refine lv_goto (tgt := 16) hx hb dX2_loadFrom_67 (by decide) ?_
      exact ih v2 x14 σ13 h H locs hP hD hS ls (lv_sub hl [1, 2, 3, 0] rfl)
set_option maxHeartbeats 4000000 in
set_option maxRecDepth 100000 in
theorem w_X2_loadFrom_3_28_0 (C : Cx p s m args meth c D cy tT tF A cX2_loadFrom 4 RX2) (hr : meth.sig.returnType = none) {σ' : ES} (a2 : Int32) (σ : ES) (h : b_X2_loadFrom_3_28_0 a2 σ = some σ') (H : Heap) (locs : List Loc) (hP : va_P D vwCl (xw cy ad σ) H) (hD : va_D A (xw cy ad σ)) (hS : va_S A s.heap H locs) (ls : Array Slot) (hl : lv_has ls 4 [(0, .ref (ad 3)), (1, .ref (ad 28)), (2, .int a2)]) : W p l e { frames := 0, cells := 0, slots := 0, locals := 0 } s m args below meth c H locs 0 0 (MQ below (Qv D cy A (xw cy ad σ')) args s 0 0 A) (F0 m 0 ls []) := by
  obtain ⟨⟨hx, hb, hml, hown, hts⟩, hK, hT, hA, hlk⟩ := id C
  unfold b_X2_loadFrom_3_28_0 at h
  refine lv_iload_n hx hb dX2_loadFrom_0 rfl (lv_at hl 2 rfl) ?_
  refine lv_if_lt (tgt := 13) hx hb dX2_loadFrom_1 (by decide) (fun q1 => ?_) (fun q1 => ?_)
  · have h := ifp q1 h
    have z1 := so_inj h
    subst z1
    exact x_vret C hr hP hD hS dX2_loadFrom_13
  · have h := ifn q1 h
    refine lv_iload_n hx hb dX2_loadFrom_4 rfl (lv_at hl 2 rfl) ?_
    refine lv_bipush (v := 18) hx hb dX2_loadFrom_5 (by decide) ?_
    refine lv_iadd hx hb dX2_loadFrom_7 ?_
    refine lv_aload_n hx hb dX2_loadFrom_8 rfl (lv_at hl 1 rfl) ?_
    refine x_alen C hP 28 xw_28 (v := 36) rfl dX2_loadFrom_9 ?_
    refine lv_icmp_le (tgt := 14) hx hb dX2_loadFrom_10 (by decide) (fun q2 => ?_) (fun q2 => ?_)
    · have h := ifp q2 h
      refine lv_iconst (v := 0) hx hb dX2_loadFrom_14 (by decide) ?_
      refine lv_istore_n (lv' := [(3, .int (0 : Int32)), (0, .ref (ad 3)), (1, .ref (ad 28)), (2, .int a2)]) hx hb dX2_loadFrom_15 rfl hl (by decide) rfl (fun ls hl => ?_)
      exact w_X2_loadFrom_3_28_16 C hr FU a2 (0 : Int32) σ h H locs hP hD hS ls (lv_sub hl [1, 2, 3, 0] rfl)
    · have h := ifn q2 h
      have z1 := so_inj h
      subst z1
      exact x_vret C hr hP hD hS dX2_loadFrom_13
theorem c_X2_loadFrom_3_28 {l : Launch} {D : va_G} {cy : Nat → ClassId} {tT tF : Nat} {ad : Nat → Nat} {σ : ES} {a2 : Int32} {σ' : ES} (h : e_X2_loadFrom_3_28 a2 σ = some σ') : CMv l yX2_loadFrom (Cond.code yX2_loadFrom cX2_loadFrom 4 none :: wsL_law) { frames := 0, cells := 0, slots := 0, locals := 0 } D cy tT tF [.ref (ad 3), .ref (ad 28), .int a2] (xw cy ad σ) (xw cy ad σ') := x_start (Qc := fun A => (Qv D cy A (xw cy ad σ'))) (by decide) (Nat.le_of_ble_eq_true rfl) (fun p e s m below meth c A ls C hr hP hD hS hl => w_X2_loadFrom_3_28_0 C hr a2 σ h s.heap [] hP hD hS ls hl)
set_option maxHeartbeats 4000000 in
set_option maxRecDepth 100000 in
theorem w_X7_again_0_0 (C : Cx p s m args meth c D cy tT tF A cX7_again 2 RX7) (hr : meth.sig.returnType = some .int) {r : Int32} {σ' : ES} (a1 : Int32) (σ : ES) (h : b_X7_again_0_0 a1 σ = some (r, σ')) (H : Heap) (locs : List Loc) (hP : va_P D vwCl (xw cy ad σ) H) (hD : va_D A (xw cy ad σ)) (hS : va_S A s.heap H locs) (ls : Array Slot) (hl : lv_has ls 2 [(0, .ref (ad 0)), (1, .int a1)]) : W p l e { frames := 1, cells := 0, slots := 0, locals := 23 } s m args below meth c H locs 0 0 (MQ below (Qi D cy A r (xw cy ad σ')) args s 0 0 A) (F0 m 0 ls []) := by
  obtain ⟨⟨hx, hb, hml, hown, hts⟩, hK, hT, hA, hlk⟩ := id C
  unfold b_X7_again_0_0 at h
  refine lv_iload_n hx hb dX7_again_0 rfl (lv_at hl 1 rfl) ?_
  refine lv_if_lt (tgt := 9) hx hb dX7_again_1 (by decide) (fun q1 => ?_) (fun q1 => ?_)
  · have h := ifp q1 h
    refine lv_iconst (v := -1) hx hb dX7_again_9 (by decide) ?_
    obtain ⟨z1, z2⟩ := pr_inj h
    subst z1
    subst z2
    exact x_iret C hr hP hD hS dX7_again_10
  · have h := ifn q1 h
    refine lv_iload_n hx hb dX7_again_4 rfl (lv_at hl 1 rfl) ?_
    refine lv_iconst (v := 2) hx hb dX7_again_5 (by decide) ?_
    refine lv_icmp_lt (tgt := 11) hx hb dX7_again_6 (by decide) (fun q2 => ?_) (fun q2 => ?_)
    · have h := ifp q2 h
      refine lv_aload_n hx hb dX7_again_11 rfl (lv_at hl 0 rfl) ?_
      refine x_get C hP inlX7 0 xw_0 rfl 8 (by decide) mw2_17 rfl dX7_again_12 ?_
      refine lv_iload_n hx hb dX7_again_15 rfl (lv_at hl 1 rfl) ?_
      obtain ⟨g3, x4, ex4, h⟩ := rd_some h
      refine x_zld C hP 29 xw_29 g3 ex4 dX7_again_16 ?_
      refine lv_if_ne (tgt := 23) hx hb dX7_again_17 (by decide) (fun q5 => ?_) (fun q5 => ?_)
      · have h := ifn q5 h
        refine lv_aload_n hx hb dX7_again_23 rfl (lv_at hl 0 rfl) ?_
        refine x_get C hP inlX7 0 xw_0 rfl 1 (by decide) mw1_20 rfl dX7_again_24 ?_
        refine lv_aload_n hx hb dX7_again_27 rfl (lv_at hl 0 rfl) ?_
        refine x_get C hP inlX7 0 xw_0 rfl 7 (by decide) mw2_15 rfl dX7_again_28 ?_
        refine lv_iload_n hx hb dX7_again_31 rfl (lv_at hl 1 rfl) ?_
        refine lv_bipush (v := 18) hx hb dX7_again_32 (by decide) ?_
        refine lv_imul hx hb dX7_again_34 ?_
        obtain ⟨σ7, g6, h⟩ := cl_some h
        refine x_callVv (rest := []) C hP hD hS (c_X2_loadFrom_3_28 g6) (cwV 2 hts (gV mw34_6 mw19_5 mw19_6 mw1_19 mw19_7) rfl rfl rfl hdV_X2_loadFrom ⟨Nat.le_of_ble_eq_true rfl, Nat.le_of_ble_eq_true rfl⟩) xw_3 rfl rfl hl.1 rfl (Nat.le_of_ble_eq_true rfl) dX7_again_35 ⟨Nat.zero_le _, Nat.zero_le _⟩ (fun H locs hP hD hS => ?_)
        refine lv_aload_n hx hb dX7_again_38 rfl (lv_at hl 0 rfl) ?_
        refine x_get C hP inlX7 0 xw_0 rfl 3 (by decide) mw2_1 rfl dX7_again_39 ?_
        obtain ⟨σ9, g8, h⟩ := cl_some h
        refine x_callVv (rest := []) C hP hD hS (c_X0_clear_13 g8) (cwV 0 hts (gV mw11_19 mw11_20 mw11_21 mw2_0 mw11_22) rfl rfl rfl hdV_X0_clear ⟨Nat.le_of_ble_eq_true rfl, Nat.le_of_ble_eq_true rfl⟩) xw_13 rfl rfl hl.1 rfl (Nat.le_of_ble_eq_true rfl) dX7_again_42 ⟨Nat.zero_le _, Nat.zero_le _⟩ (fun H locs hP hD hS => ?_)
        refine lv_aload_n hx hb dX7_again_45 rfl (lv_at hl 0 rfl) ?_
        refine x_get C hP inlX7 0 xw_0 rfl 4 (by decide) mw2_5 rfl dX7_again_46 ?_
        refine lv_iconst (v := 0) hx hb dX7_again_49 (by decide) ?_
        obtain ⟨σ10, eσ10, h⟩ := lt_some h
        refine x_put C hP hD hS inlX4 tyX4 tyX4_ok nmX4 15 xw_15 rfl 11 (by decide) mw11_10 rfl rfl rfl (Nat.le_of_ble_eq_true rfl) (xs_15_11 eσ10) dX7_again_50 (fun H locs hP hD hS => ?_)
        refine lv_aload_n hx hb dX7_again_53 rfl (lv_at hl 0 rfl) ?_
        refine x_get C hP inlX7 0 xw_0 rfl 1 (by decide) mw1_20 rfl dX7_again_54 ?_
        refine x_get C hP inlX2 3 xw_3 rfl 5 (by decide) mw17_12 rfl dX7_again_57 ?_
        obtain ⟨z1, z2⟩ := pr_inj h
        subst z1
        subst z2
        exact x_iret C hr hP hD hS dX7_again_60
      · have h := ifp q5 h
        refine lv_bipush (v := -3) hx hb dX7_again_20 (by decide) ?_
        obtain ⟨z1, z2⟩ := pr_inj h
        subst z1
        subst z2
        exact x_iret C hr hP hD hS dX7_again_22
    · have h := ifn q2 h
      refine lv_iconst (v := -1) hx hb dX7_again_9 (by decide) ?_
      obtain ⟨z1, z2⟩ := pr_inj h
      subst z1
      subst z2
      exact x_iret C hr hP hD hS dX7_again_10
theorem c_X7_again_0 {l : Launch} {D : va_G} {cy : Nat → ClassId} {tT tF : Nat} {ad : Nat → Nat} {σ : ES} {a1 : Int32} {r : Int32} {σ' : ES} (h : e_X7_again_0 a1 σ = some (r, σ')) : CMi l yX7_again (Cond.code yX7_again cX7_again 2 (some .int) :: wsL_law) { frames := 1, cells := 0, slots := 0, locals := 23 } D cy tT tF [.ref (ad 0), .int a1] (xw cy ad σ) r (xw cy ad σ') := x_start (Qc := fun A => (Qi D cy A r (xw cy ad σ'))) (by decide) (Nat.le_of_ble_eq_true rfl) (fun p e s m below meth c A ls C hr hP hD hS hl => w_X7_again_0_0 C hr a1 σ h s.heap [] hP hD hS ls hl)
set_option maxHeartbeats 4000000 in
set_option maxRecDepth 100000 in
theorem w_X2_contentGuests_3_30_4 (C : Cx p s m args meth c D cy tT tF A cX2_contentGuests 4 RX2) (hr : meth.sig.returnType = some .int) {r : Int32} {σ : ES} : ∀ (n : Nat) (v2 : Int32) (v3 : Int32), b_X2_contentGuests_3_30_4 σ n v2 v3 = some r → ∀ (H : Heap) (locs : List Loc) (hP : va_P D vwCl (xw cy ad σ) H) (hD : va_D A (xw cy ad σ)) (hS : va_S A s.heap H locs) (ls : Array Slot) (hl : lv_has ls 4 [(0, .ref (ad 3)), (1, .ref (ad 30)), (2, .int v2), (3, .int v3)]), W p l e { frames := 2, cells := 0, slots := 0, locals := 43 } s m args below meth c H locs 0 0 (MQ below (Qi D cy A r (xw cy ad σ)) args s 0 0 A) (F0 m 4 ls []) := by
  obtain ⟨⟨hx, hb, hml, hown, hts⟩, hK, hT, hA, hlk⟩ := id C
  intro n
  induction n with
  | zero =>
    intro v2 v3 h
    exact no_some h
  | succ n ih =>
    intro v2 v3 h H locs hP hD hS ls hl
    rw [b_X2_contentGuests_3_30_4] at h
    refine lv_iload_n hx hb dX2_contentGuests_4 rfl (lv_at hl 3 rfl) ?_
    refine lv_aload_n hx hb dX2_contentGuests_5 rfl (lv_at hl 1 rfl) ?_
    refine x_get C hP inlX3 30 xw_30 rfl 10 (by decide) mw17_17 rfl dX2_contentGuests_6 ?_
    refine lv_icmp_ge (tgt := 33) hx hb dX2_contentGuests_9 (by decide) (fun q1 => ?_) (fun q1 => ?_)
    · have h := ifp q1 h
      refine lv_iload_n hx hb dX2_contentGuests_33 rfl (lv_at hl 2 rfl) ?_
      have z1 := so_inj h
      subst z1
      exact x_iret C hr hP hD hS dX2_contentGuests_34
    · have h := ifn q1 h
      refine lv_aload_n hx hb dX2_contentGuests_12 rfl (lv_at hl 0 rfl) ?_
      refine lv_aload_n hx hb dX2_contentGuests_13 rfl (lv_at hl 1 rfl) ?_
      refine lv_iload_n hx hb dX2_contentGuests_14 rfl (lv_at hl 3 rfl) ?_
      obtain ⟨r3, g2, h⟩ := cl_some h
      refine x_callVi (rest := []) C hP hD hS (c_X2_isContent_3_30 g2) (cwV 2 hts (gV mw34_21 mw14_5 mw14_6 mw1_19 mw14_7) rfl rfl rfl hdV_X2_isContent ⟨Nat.le_of_ble_eq_true rfl, Nat.le_of_ble_eq_true rfl⟩) xw_3 rfl rfl hl.1 rfl (Nat.le_of_ble_eq_true rfl) dX2_contentGuests_15 ⟨Nat.zero_le _, Nat.zero_le _⟩ (fun H locs hP hD hS => ?_)
      refine lv_if_eq (tgt := 27) hx hb dX2_contentGuests_18 (by decide) (fun q4 => ?_) (fun q4 => ?_)
      · have h := ifp q4 h
        obtain ⟨x5, ex5, h⟩ := lt_some h
        refine lv_iinc (v := x5) (lv' := [(3, .int x5), (0, .ref (ad 3)), (1, .ref (ad 30)), (2, .int v2)]) hx hb dX2_contentGuests_27 hl (k := 3) rfl (by rw [ex5]; rfl) (by decide) rfl (fun ls hl => ?_)
        refine lv_goto (tgt := 4) hx hb dX2_contentGuests_30 (by decide) ?_
        exact ih v2 x5 h H locs hP hD hS ls (lv_sub hl [1, 2, 3, 0] rfl)
      · have h := ifn q4 h
        refine lv_iload_n hx hb dX2_contentGuests_21 rfl (lv_at hl 2 rfl) ?_
        refine lv_iconst (v := 1) hx hb dX2_contentGuests_22 (by decide) ?_
        refine lv_iload_n hx hb dX2_contentGuests_23 rfl (lv_at hl 3 rfl) ?_
        refine lv_ishl hx hb dX2_contentGuests_24 ?_
        refine lv_ior hx hb dX2_contentGuests_25 ?_
        obtain ⟨x6, ex6, h⟩ := lt_some h
        refine x_ti ex6 ?_
        refine lv_istore_n (lv' := [(2, .int x6), (0, .ref (ad 3)), (1, .ref (ad 30)), (3, .int v3)]) hx hb dX2_contentGuests_26 rfl hl (by decide) rfl (fun ls hl => ?_)
        obtain ⟨x7, ex7, h⟩ := lt_some h
        refine lv_iinc (v := x7) (lv' := [(3, .int x7), (2, .int x6), (0, .ref (ad 3)), (1, .ref (ad 30))]) hx hb dX2_contentGuests_27 hl (k := 3) rfl (by rw [ex7]; rfl) (by decide) rfl (fun ls hl => ?_)
        refine lv_goto (tgt := 4) hx hb dX2_contentGuests_30 (by decide) ?_
        exact ih x6 x7 h H locs hP hD hS ls (lv_sub hl [2, 3, 1, 0] rfl)
set_option maxHeartbeats 4000000 in
set_option maxRecDepth 100000 in
theorem w_X2_contentGuests_3_30_0 (C : Cx p s m args meth c D cy tT tF A cX2_contentGuests 4 RX2) (hr : meth.sig.returnType = some .int) {r : Int32} {σ : ES} (h : b_X2_contentGuests_3_30_0 σ  = some r) (H : Heap) (locs : List Loc) (hP : va_P D vwCl (xw cy ad σ) H) (hD : va_D A (xw cy ad σ)) (hS : va_S A s.heap H locs) (ls : Array Slot) (hl : lv_has ls 4 [(0, .ref (ad 3)), (1, .ref (ad 30))]) : W p l e { frames := 2, cells := 0, slots := 0, locals := 43 } s m args below meth c H locs 0 0 (MQ below (Qi D cy A r (xw cy ad σ)) args s 0 0 A) (F0 m 0 ls []) := by
  obtain ⟨⟨hx, hb, hml, hown, hts⟩, hK, hT, hA, hlk⟩ := id C
  unfold b_X2_contentGuests_3_30_0 at h
  refine lv_iconst (v := 0) hx hb dX2_contentGuests_0 (by decide) ?_
  refine lv_istore_n (lv' := [(2, .int (0 : Int32)), (0, .ref (ad 3)), (1, .ref (ad 30))]) hx hb dX2_contentGuests_1 rfl hl (by decide) rfl (fun ls hl => ?_)
  refine lv_iconst (v := 0) hx hb dX2_contentGuests_2 (by decide) ?_
  refine lv_istore_n (lv' := [(3, .int (0 : Int32)), (2, .int (0 : Int32)), (0, .ref (ad 3)), (1, .ref (ad 30))]) hx hb dX2_contentGuests_3 rfl hl (by decide) rfl (fun ls hl => ?_)
  exact w_X2_contentGuests_3_30_4 C hr FU (0 : Int32) (0 : Int32) h H locs hP hD hS ls (lv_sub hl [2, 3, 1, 0] rfl)
theorem c_X2_contentGuests_3_30 {l : Launch} {D : va_G} {cy : Nat → ClassId} {tT tF : Nat} {ad : Nat → Nat} {r : Int32} {σ : ES} (h : e_X2_contentGuests_3_30  σ = some r) : CMi l yX2_contentGuests (Cond.code yX2_contentGuests cX2_contentGuests 4 (some .int) :: wsL_law) { frames := 2, cells := 0, slots := 0, locals := 43 } D cy tT tF [.ref (ad 3), .ref (ad 30)] (xw cy ad σ) r (xw cy ad σ) := x_start (Qc := fun A => (Qi D cy A r (xw cy ad σ))) (by decide) (Nat.le_of_ble_eq_true rfl) (fun p e s m below meth c A ls C hr hP hD hS hl => w_X2_contentGuests_3_30_0 C hr  h s.heap [] hP hD hS ls hl)
set_option maxHeartbeats 4000000 in
set_option maxRecDepth 100000 in
theorem w_X7_count_0_0 (C : Cx p s m args meth c D cy tT tF A cX7_count 2 RX7) (hr : meth.sig.returnType = some .int) {r : Int32} {σ : ES} (a1 : Int32) (h : b_X7_count_0_0 σ a1 = some r) (H : Heap) (locs : List Loc) (hP : va_P D vwCl (xw cy ad σ) H) (hD : va_D A (xw cy ad σ)) (hS : va_S A s.heap H locs) (ls : Array Slot) (hl : lv_has ls 2 [(0, .ref (ad 0)), (1, .int a1)]) : W p l e { frames := 3, cells := 0, slots := 0, locals := 66 } s m args below meth c H locs 0 0 (MQ below (Qi D cy A r (xw cy ad σ)) args s 0 0 A) (F0 m 0 ls []) := by
  obtain ⟨⟨hx, hb, hml, hown, hts⟩, hK, hT, hA, hlk⟩ := id C
  unfold b_X7_count_0_0 at h
  refine lv_iload_n hx hb dX7_count_0 rfl (lv_at hl 1 rfl) ?_
  by_cases q1 : a1 = (0 : Int32)
  · have h := ifp q1 h
    refine lv_tableIn (off := 55) (tgt := 56) hx hb dX7_count_1 (by rw [q1]; decide) (by rw [q1]; decide) (by rw [q1]; rfl) (by decide) ?_
    refine lv_aload_n hx hb dX7_count_56 rfl (lv_at hl 0 rfl) ?_
    refine x_get C hP inlX7 0 xw_0 rfl 0 (by decide) mw1_16 rfl dX7_count_57 ?_
    refine x_get C hP inlX6 1 xw_1 rfl 1 (by decide) mw34_15 rfl dX7_count_60 ?_
    have z1 := so_inj h
    subst z1
    exact x_iret C hr hP hD hS dX7_count_63
  have h := ifn q1 h
  by_cases q2 : a1 = (1 : Int32)
  · have h := ifp q2 h
    refine lv_tableIn (off := 63) (tgt := 64) hx hb dX7_count_1 (by rw [q2]; decide) (by rw [q2]; decide) (by rw [q2]; rfl) (by decide) ?_
    refine lv_aload_n hx hb dX7_count_64 rfl (lv_at hl 0 rfl) ?_
    refine x_get C hP inlX7 0 xw_0 rfl 9 (by decide) mw2_21 rfl dX7_count_65 ?_
    refine x_get C hP inlX3 30 xw_30 rfl 8 (by decide) mw12_10 rfl dX7_count_68 ?_
    have z1 := so_inj h
    subst z1
    exact x_iret C hr hP hD hS dX7_count_71
  have h := ifn q2 h
  by_cases q3 : a1 = (2 : Int32)
  · have h := ifp q3 h
    refine lv_tableIn (off := 71) (tgt := 72) hx hb dX7_count_1 (by rw [q3]; decide) (by rw [q3]; decide) (by rw [q3]; rfl) (by decide) ?_
    refine lv_aload_n hx hb dX7_count_72 rfl (lv_at hl 0 rfl) ?_
    refine x_get C hP inlX7 0 xw_0 rfl 9 (by decide) mw2_21 rfl dX7_count_73 ?_
    refine x_get C hP inlX3 30 xw_30 rfl 9 (by decide) mw11_11 rfl dX7_count_76 ?_
    have z1 := so_inj h
    subst z1
    exact x_iret C hr hP hD hS dX7_count_79
  have h := ifn q3 h
  by_cases q4 : a1 = (3 : Int32)
  · have h := ifp q4 h
    refine lv_tableIn (off := 79) (tgt := 80) hx hb dX7_count_1 (by rw [q4]; decide) (by rw [q4]; decide) (by rw [q4]; rfl) (by decide) ?_
    refine lv_aload_n hx hb dX7_count_80 rfl (lv_at hl 0 rfl) ?_
    refine x_get C hP inlX7 0 xw_0 rfl 9 (by decide) mw2_21 rfl dX7_count_81 ?_
    refine x_get C hP inlX3 30 xw_30 rfl 10 (by decide) mw11_12 rfl dX7_count_84 ?_
    have z1 := so_inj h
    subst z1
    exact x_iret C hr hP hD hS dX7_count_87
  have h := ifn q4 h
  by_cases q5 : a1 = (4 : Int32)
  · have h := ifp q5 h
    refine lv_tableIn (off := 87) (tgt := 88) hx hb dX7_count_1 (by rw [q5]; decide) (by rw [q5]; decide) (by rw [q5]; rfl) (by decide) ?_
    refine lv_aload_n hx hb dX7_count_88 rfl (lv_at hl 0 rfl) ?_
    refine x_get C hP inlX7 0 xw_0 rfl 1 (by decide) mw1_20 rfl dX7_count_89 ?_
    refine x_get C hP inlX2 3 xw_3 rfl 5 (by decide) mw17_12 rfl dX7_count_92 ?_
    have z1 := so_inj h
    subst z1
    exact x_iret C hr hP hD hS dX7_count_95
  have h := ifn q5 h
  by_cases q6 : a1 = (5 : Int32)
  · have h := ifp q6 h
    refine lv_tableIn (off := 95) (tgt := 96) hx hb dX7_count_1 (by rw [q6]; decide) (by rw [q6]; decide) (by rw [q6]; rfl) (by decide) ?_
    refine lv_aload_n hx hb dX7_count_96 rfl (lv_at hl 0 rfl) ?_
    refine x_get C hP inlX7 0 xw_0 rfl 1 (by decide) mw1_20 rfl dX7_count_97 ?_
    refine lv_aload_n hx hb dX7_count_100 rfl (lv_at hl 0 rfl) ?_
    refine x_get C hP inlX7 0 xw_0 rfl 9 (by decide) mw2_21 rfl dX7_count_101 ?_
    refine lv_iconst (v := 1) hx hb dX7_count_104 (by decide) ?_
    obtain ⟨r8, g7, h⟩ := cl_some h
    refine x_callVi (rest := []) C hP hD hS (c_X2_withFlame_3_30 g7) (cwV 2 hts (gV mw15_14 mw15_15 mw15_16 mw1_19 mw15_17) rfl rfl rfl hdV_X2_withFlame ⟨Nat.le_of_ble_eq_true rfl, Nat.le_of_ble_eq_true rfl⟩) xw_3 rfl rfl hl.1 rfl (Nat.le_of_ble_eq_true rfl) dX7_count_105 ⟨Nat.zero_le _, Nat.zero_le _⟩ (fun H locs hP hD hS => ?_)
    have z1 := so_inj h
    subst z1
    exact x_iret C hr hP hD hS dX7_count_108
  have h := ifn q6 h
  by_cases q9 : a1 = (6 : Int32)
  · have h := ifp q9 h
    refine lv_tableIn (off := 108) (tgt := 109) hx hb dX7_count_1 (by rw [q9]; decide) (by rw [q9]; decide) (by rw [q9]; rfl) (by decide) ?_
    refine lv_aload_n hx hb dX7_count_109 rfl (lv_at hl 0 rfl) ?_
    refine x_get C hP inlX7 0 xw_0 rfl 1 (by decide) mw1_20 rfl dX7_count_110 ?_
    refine lv_aload_n hx hb dX7_count_113 rfl (lv_at hl 0 rfl) ?_
    refine x_get C hP inlX7 0 xw_0 rfl 9 (by decide) mw2_21 rfl dX7_count_114 ?_
    obtain ⟨r11, g10, h⟩ := cl_some h
    refine x_callVi (rest := []) C hP hD hS (c_X2_contentGuests_3_30 g10) (cwV 1 hts (gV mw34_17 mw34_18 mw34_19 mw1_19 mw34_20) rfl rfl rfl hdV_X2_contentGuests ⟨Nat.le_of_ble_eq_true rfl, Nat.le_of_ble_eq_true rfl⟩) xw_3 rfl rfl hl.1 rfl (Nat.le_of_ble_eq_true rfl) dX7_count_117 ⟨Nat.zero_le _, Nat.zero_le _⟩ (fun H locs hP hD hS => ?_)
    have z1 := so_inj h
    subst z1
    exact x_iret C hr hP hD hS dX7_count_120
  have h := ifn q9 h
  by_cases q12 : a1 = (7 : Int32)
  · have h := ifp q12 h
    refine lv_tableIn (off := 120) (tgt := 121) hx hb dX7_count_1 (by rw [q12]; decide) (by rw [q12]; decide) (by rw [q12]; rfl) (by decide) ?_
    refine lv_aload_n hx hb dX7_count_121 rfl (lv_at hl 0 rfl) ?_
    refine x_get C hP inlX7 0 xw_0 rfl 1 (by decide) mw1_20 rfl dX7_count_122 ?_
    refine x_get C hP inlX2 3 xw_3 rfl 4 (by decide) mw34_16 rfl dX7_count_125 ?_
    have z1 := so_inj h
    subst z1
    exact x_iret C hr hP hD hS dX7_count_128
  have h := ifn q12 h
  by_cases q13 : a1 = (8 : Int32)
  · have h := ifp q13 h
    refine lv_tableIn (off := 128) (tgt := 129) hx hb dX7_count_1 (by rw [q13]; decide) (by rw [q13]; decide) (by rw [q13]; rfl) (by decide) ?_
    refine lv_aload_n hx hb dX7_count_129 rfl (lv_at hl 0 rfl) ?_
    refine x_get C hP inlX7 0 xw_0 rfl 3 (by decide) mw2_1 rfl dX7_count_130 ?_
    refine x_get C hP inlX0 13 xw_13 rfl 2 (by decide) mw18_23 rfl dX7_count_133 ?_
    have z1 := so_inj h
    subst z1
    exact x_iret C hr hP hD hS dX7_count_136
  have h := ifn q13 h
  by_cases q14 : a1 = (9 : Int32)
  · have h := ifp q14 h
    refine lv_tableIn (off := 136) (tgt := 137) hx hb dX7_count_1 (by rw [q14]; decide) (by rw [q14]; decide) (by rw [q14]; rfl) (by decide) ?_
    refine lv_aload_n hx hb dX7_count_137 rfl (lv_at hl 0 rfl) ?_
    refine x_get C hP inlX7 0 xw_0 rfl 5 (by decide) mw2_9 rfl dX7_count_138 ?_
    refine x_get C hP inlX1 24 xw_24 rfl 1 (by decide) mw31_7 rfl dX7_count_141 ?_
    have z1 := so_inj h
    subst z1
    exact x_iret C hr hP hD hS dX7_count_144
  have h := ifn q14 h
  refine lv_tableOut (tgt := 145) hx hb dX7_count_1 (by have z0 := lv_neT q1 (show ((0 : Int32)).toInt = 0 from rfl); have z1 := lv_neT q2 (show ((1 : Int32)).toInt = 1 from rfl); have z2 := lv_neT q3 (show ((2 : Int32)).toInt = 2 from rfl); have z3 := lv_neT q4 (show ((3 : Int32)).toInt = 3 from rfl); have z4 := lv_neT q5 (show ((4 : Int32)).toInt = 4 from rfl); have z5 := lv_neT q6 (show ((5 : Int32)).toInt = 5 from rfl); have z6 := lv_neT q9 (show ((6 : Int32)).toInt = 6 from rfl); have z7 := lv_neT q12 (show ((7 : Int32)).toInt = 7 from rfl); have z8 := lv_neT q13 (show ((8 : Int32)).toInt = 8 from rfl); have z9 := lv_neT q14 (show ((9 : Int32)).toInt = 9 from rfl); omega) (by decide) ?_
  refine lv_bipush (v := -2) hx hb dX7_count_145 (by decide) ?_
  have z1 := so_inj h
  subst z1
  exact x_iret C hr hP hD hS dX7_count_147
theorem c_X7_count_0 {l : Launch} {D : va_G} {cy : Nat → ClassId} {tT tF : Nat} {ad : Nat → Nat} {a1 : Int32} {r : Int32} {σ : ES} (h : e_X7_count_0 a1 σ = some r) : CMi l yX7_count (Cond.code yX7_count cX7_count 2 (some .int) :: wsL_law) { frames := 3, cells := 0, slots := 0, locals := 66 } D cy tT tF [.ref (ad 0), .int a1] (xw cy ad σ) r (xw cy ad σ) := x_start (Qc := fun A => (Qi D cy A r (xw cy ad σ))) (by decide) (Nat.le_of_ble_eq_true rfl) (fun p e s m below meth c A ls C hr hP hD hS hl => w_X7_count_0_0 C hr a1 h s.heap [] hP hD hS ls hl)
end WK12

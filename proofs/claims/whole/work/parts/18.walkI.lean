section WK8
variable {p : Program} {l : Launch} {e : Env} {R : Room} {s : State} {m : MethodId} {args : Array Value} {below : List Frame} {meth : Method} {c : Code} {D : va_G} {cy : Nat → ClassId} {tT tF : Nat} {A : Nat → Prop} {ad : Nat → Nat} {ws : va_W}
set_option maxHeartbeats 4000000 in
set_option maxRecDepth 100000 in
theorem w_X7_undo_0_0 (C : Cx p s m args meth c D cy tT tF A cX7_undo 1 RX7) (hr : meth.sig.returnType = some .int) {r : Int32} {σ' : ES} (σ : ES) (h : b_X7_undo_0_0 σ = some (r, σ')) (H : Heap) (locs : List Loc) (hP : va_P D vwCl (xw cy ad σ) H) (hD : va_D A (xw cy ad σ)) (hS : va_S A s.heap H locs) (ls : Array Slot) (hl : lv_has ls 1 [(0, .ref (ad 0))]) : W p l e { frames := 2, cells := 0, slots := 0, locals := 44 } s m args below meth c H locs 0 0 (MQ below (Qi D cy A r (xw cy ad σ')) args s 0 0 A) (F0 m 0 ls []) := by
  obtain ⟨⟨hx, hb, hml, hown, hts⟩, hK, hT, hA, hlk⟩ := id C
  unfold b_X7_undo_0_0 at h
  refine lv_aload_n hx hb dX7_undo_0 rfl (lv_at hl 0 rfl) ?_
  refine x_get C hP inlX7 0 xw_0 rfl 3 (by decide) mw2_1 rfl dX7_undo_1 ?_
  refine x_get C hP inlX0 13 xw_13 rfl 2 (by decide) mw18_23 rfl dX7_undo_4 ?_
  refine lv_if_ne (tgt := 13) hx hb dX7_undo_7 (by decide) (fun q1 => ?_) (fun q1 => ?_)
  · have h := ifn q1 h
    refine lv_aload_n hx hb dX7_undo_13 rfl (lv_at hl 0 rfl) ?_
    refine x_get C hP inlX7 0 xw_0 rfl 3 (by decide) mw2_1 rfl dX7_undo_14 ?_
    refine lv_aload_n hx hb dX7_undo_17 rfl (lv_at hl 0 rfl) ?_
    refine x_get C hP inlX7 0 xw_0 rfl 1 (by decide) mw1_20 rfl dX7_undo_18 ?_
    obtain ⟨σ3, g2, h⟩ := cl_some h
    refine x_callVv (rest := []) C hP hD hS (c_X0_takeBack_13_3 g2) (cwV 1 hts (gV mw19_0 mw19_1 mw19_2 mw2_0 mw19_3) rfl rfl rfl hdV_X0_takeBack ⟨Nat.le_of_ble_eq_true rfl, Nat.le_of_ble_eq_true rfl⟩) xw_13 rfl rfl hl.1 rfl (Nat.le_of_ble_eq_true rfl) dX7_undo_21 ⟨Nat.zero_le _, Nat.zero_le _⟩ (fun H locs hP hD hS => ?_)
    refine lv_aload_n hx hb dX7_undo_24 rfl (lv_at hl 0 rfl) ?_
    refine x_get C hP inlX7 0 xw_0 rfl 4 (by decide) mw2_5 rfl dX7_undo_25 ?_
    refine lv_iconst (v := 0) hx hb dX7_undo_28 (by decide) ?_
    obtain ⟨σ4, eσ4, h⟩ := lt_some h
    refine x_put C hP hD hS inlX4 tyX4 tyX4_ok nmX4 15 xw_15 rfl 11 (by decide) mw11_10 rfl rfl rfl (Nat.le_of_ble_eq_true rfl) (xs_15_11 eσ4) dX7_undo_29 (fun H locs hP hD hS => ?_)
    refine lv_aload_n hx hb dX7_undo_32 rfl (lv_at hl 0 rfl) ?_
    refine x_get C hP inlX7 0 xw_0 rfl 3 (by decide) mw2_1 rfl dX7_undo_33 ?_
    refine x_get C hP inlX0 13 xw_13 rfl 2 (by decide) mw18_23 rfl dX7_undo_36 ?_
    obtain ⟨z1, z2⟩ := pr_inj h
    subst z1
    subst z2
    exact x_iret C hr hP hD hS dX7_undo_39
  · have h := ifp q1 h
    refine lv_bipush (v := -3) hx hb dX7_undo_10 (by decide) ?_
    obtain ⟨z1, z2⟩ := pr_inj h
    subst z1
    subst z2
    exact x_iret C hr hP hD hS dX7_undo_12
theorem c_X7_undo_0 {l : Launch} {D : va_G} {cy : Nat → ClassId} {tT tF : Nat} {ad : Nat → Nat} {σ : ES} {r : Int32} {σ' : ES} (h : e_X7_undo_0  σ = some (r, σ')) : CMi l yX7_undo (Cond.code yX7_undo cX7_undo 1 (some .int) :: wsL_law) { frames := 2, cells := 0, slots := 0, locals := 44 } D cy tT tF [.ref (ad 0)] (xw cy ad σ) r (xw cy ad σ') := x_start (Qc := fun A => (Qi D cy A r (xw cy ad σ'))) (by decide) (Nat.le_of_ble_eq_true rfl) (fun p e s m below meth c A ls C hr hP hD hS hl => w_X7_undo_0_0 C hr  σ h s.heap [] hP hD hS ls hl)
set_option maxHeartbeats 4000000 in
set_option maxRecDepth 100000 in
theorem w_X4_layGuest_15_30_3_6 (C : Cx p s m args meth c D cy tT tF A cX4_layGuest 8 RX4) (hr : meth.sig.returnType = none) {σ' : ES} : ∀ (n : Nat) (v3 : Int32) (v4 : Int64) (v6 : Int32) (σ : ES), b_X4_layGuest_15_30_3_6 n v3 v4 v6 σ = some σ' → ∀ (H : Heap) (locs : List Loc) (hP : va_P D vwCl (xw cy ad σ) H) (hD : va_D A (xw cy ad σ)) (hS : va_S A s.heap H locs) (ls : Array Slot) (hl : lv_has ls 8 [(0, .ref (ad 15)), (1, .ref (ad 30)), (2, .ref (ad 3)), (3, .int v3), (4, .long v4), (6, .int v6)]), W p l e { frames := 0, cells := 0, slots := 0, locals := 0 } s m args below meth c H locs 0 0 (MQ below (Qv D cy A (xw cy ad σ')) args s 0 0 A) (F0 m 6 ls []) := by
  obtain ⟨⟨hx, hb, hml, hown, hts⟩, hK, hT, hA, hlk⟩ := id C
  intro n
  induction n with
  | zero =>
    intro v3 v4 v6 σ h
    exact no_some h
  | succ n ih =>
    intro v3 v4 v6 σ h H locs hP hD hS ls hl
    rw [b_X4_layGuest_15_30_3_6] at h
    refine lv_iload hx hb dX4_layGuest_6 (lv_at hl 5 rfl) ?_
    refine lv_bipush (v := 16) hx hb dX4_layGuest_8 (by decide) ?_
    refine lv_icmp_ge (tgt := 59) hx hb dX4_layGuest_10 (by decide) (fun q1 => ?_) (fun q1 => ?_)
    · have h := ifp q1 h
      refine lv_aload_n hx hb dX4_layGuest_59 rfl (lv_at hl 0 rfl) ?_
      refine x_get C hP inlX4 15 xw_15 rfl 3 (by decide) mw4_7 rfl dX4_layGuest_60 ?_
      refine lv_iload_n hx hb dX4_layGuest_63 rfl (lv_at hl 3 rfl) ?_
      refine lv_lload hx hb dX4_layGuest_64 (lv_at hl 4 rfl) ?_
      refine lv_bipush (v := 16) hx hb dX4_layGuest_66 (by decide) ?_
      refine lv_aload_n hx hb dX4_layGuest_68 rfl (lv_at hl 1 rfl) ?_
      refine x_get C hP inlX3 30 xw_30 rfl 4 (by decide) mw20_5 rfl dX4_layGuest_69 ?_
      refine lv_iload_n hx hb dX4_layGuest_72 rfl (lv_at hl 3 rfl) ?_
      obtain ⟨g2, x3, ex3, h⟩ := rd_some h
      refine x_ild C hP 35 xw_35 g2 ex3 dX4_layGuest_73 ?_
      refine lv_imul hx hb dX4_layGuest_74 ?_
      refine lv_lshl hx hb dX4_layGuest_75 rfl ?_
      obtain ⟨g4, σ5, eσ5, h⟩ := wrL_some h
      refine x_lst C hP hD hS 19 xw_19 g4 (xa_19 eσ5) dX4_layGuest_76 (fun H locs hP hD hS => ?_)
      refine lv_aload_n hx hb dX4_layGuest_77 rfl (lv_at hl 0 rfl) ?_
      refine x_get C hP inlX4 15 xw_15 rfl 4 (by decide) mw4_8 rfl dX4_layGuest_78 ?_
      refine lv_iload_n hx hb dX4_layGuest_81 rfl (lv_at hl 3 rfl) ?_
      refine lv_aload_n hx hb dX4_layGuest_82 rfl (lv_at hl 1 rfl) ?_
      refine x_get C hP inlX3 30 xw_30 rfl 5 (by decide) mw20_6 rfl dX4_layGuest_83 ?_
      refine lv_iload_n hx hb dX4_layGuest_86 rfl (lv_at hl 3 rfl) ?_
      obtain ⟨g6, x7, ex7, h⟩ := rd_some h
      refine x_ild C hP 36 xw_36 g6 ex7 dX4_layGuest_87 ?_
      refine lv_aload_n hx hb dX4_layGuest_88 rfl (lv_at hl 2 rfl) ?_
      refine x_get C hP inlX2 3 xw_3 rfl 3 (by decide) mw20_7 rfl dX4_layGuest_89 ?_
      refine lv_iload_n hx hb dX4_layGuest_92 rfl (lv_at hl 3 rfl) ?_
      obtain ⟨g8, x9, ex9, h⟩ := rd_some h
      refine x_ild C hP 7 xw_7 g8 ex9 dX4_layGuest_93 ?_
      refine lv_isub hx hb dX4_layGuest_94 ?_
      obtain ⟨g10, σ11, eσ11, h⟩ := wr_some h
      refine x_ist C hP hD hS 20 xw_20 g10 (xa_20 eσ11) dX4_layGuest_95 (fun H locs hP hD hS => ?_)
      have z1 := so_inj h
      subst z1
      exact x_vret C hr hP hD hS dX4_layGuest_96
    · have h := ifn q1 h
      refine lv_aload_n hx hb dX4_layGuest_13 rfl (lv_at hl 2 rfl) ?_
      refine x_get C hP inlX2 3 xw_3 rfl 5 (by decide) mw20_2 rfl dX4_layGuest_14 ?_
      refine lv_iload hx hb dX4_layGuest_17 (lv_at hl 5 rfl) ?_
      refine lv_iadd hx hb dX4_layGuest_19 ?_
      obtain ⟨x12, ex12, h⟩ := lt_some h
      refine x_ti ex12 ?_
      refine lv_istore (lv' := [(7, .int x12), (0, .ref (ad 15)), (1, .ref (ad 30)), (2, .ref (ad 3)), (3, .int v3), (4, .long v4), (6, .int v6)]) hx hb dX4_layGuest_20 hl (by decide) rfl (fun ls hl => ?_)
      refine lv_iload hx hb dX4_layGuest_22 (lv_at hl 0 rfl) ?_
      refine lv_aload_n hx hb dX4_layGuest_24 rfl (lv_at hl 2 rfl) ?_
      refine x_get C hP inlX3 30 xw_30 rfl 6 (by decide) mw20_3 rfl dX4_layGuest_25 ?_
      refine lv_iload_n hx hb dX4_layGuest_28 rfl (lv_at hl 4 rfl) ?_
      obtain ⟨g13, x14, ex14, h⟩ := rd_some h
      refine x_ild C hP 37 xw_37 g13 ex14 dX4_layGuest_29 ?_
      refine lv_icmp_lt (tgt := 53) hx hb dX4_layGuest_30 (by decide) (fun q15 => ?_) (fun q15 => ?_)
      · have h := ifp q15 h
        obtain ⟨x16, ex16, h⟩ := lt_some h
        refine lv_iinc (v := x16) (lv' := [(6, .int x16), (7, .int x12), (0, .ref (ad 15)), (1, .ref (ad 30)), (2, .ref (ad 3)), (3, .int v3), (4, .long v4)]) hx hb dX4_layGuest_53 hl (k := 6) rfl (by rw [ex16]; rfl) (by decide) rfl (fun ls hl => ?_)
        refine lv_goto (tgt := 6) hx hb dX4_layGuest_56 (by decide) ?_
        exact ih v3 v4 x16 σ h H locs hP hD hS ls (lv_sub hl [2, 3, 4, 5, 6, 0] rfl)
      · have h := ifn q15 h
        refine lv_iload hx hb dX4_layGuest_33 (lv_at hl 0 rfl) ?_
        refine lv_aload_n hx hb dX4_layGuest_35 rfl (lv_at hl 2 rfl) ?_
        refine x_get C hP inlX3 30 xw_30 rfl 7 (by decide) mw20_4 rfl dX4_layGuest_36 ?_
        refine lv_iload_n hx hb dX4_layGuest_39 rfl (lv_at hl 4 rfl) ?_
        obtain ⟨g17, x18, ex18, h⟩ := rd_some h
        refine x_ild C hP 38 xw_38 g17 ex18 dX4_layGuest_40 ?_
        refine lv_icmp_gt (tgt := 53) hx hb dX4_layGuest_41 (by decide) (fun q19 => ?_) (fun q19 => ?_)
        · have h := ifp q19 h
          obtain ⟨x20, ex20, h⟩ := lt_some h
          refine lv_iinc (v := x20) (lv' := [(6, .int x20), (7, .int x12), (0, .ref (ad 15)), (1, .ref (ad 30)), (2, .ref (ad 3)), (3, .int v3), (4, .long v4)]) hx hb dX4_layGuest_53 hl (k := 6) rfl (by rw [ex20]; rfl) (by decide) rfl (fun ls hl => ?_)
          refine lv_goto (tgt := 6) hx hb dX4_layGuest_56 (by decide) ?_
          exact ih v3 v4 x20 σ h H locs hP hD hS ls (lv_sub hl [2, 3, 4, 5, 6, 0] rfl)
        · have h := ifn q19 h
          refine lv_lload hx hb dX4_layGuest_44 (lv_at hl 5 rfl) ?_
          refine lv_lconst (v := 1) hx hb dX4_layGuest_46 (by decide) ?_
          refine lv_iload hx hb dX4_layGuest_47 (lv_at hl 6 rfl) ?_
          refine lv_lshl hx hb dX4_layGuest_49 rfl ?_
          refine lv_lor hx hb dX4_layGuest_50 ?_
          obtain ⟨x21, ex21, h⟩ := lt_some h
          refine x_tl ex21 ?_
          refine lv_lstore (lv' := [(4, .long x21), (7, .int x12), (0, .ref (ad 15)), (1, .ref (ad 30)), (2, .ref (ad 3)), (3, .int v3), (6, .int v6)]) hx hb dX4_layGuest_51 hl (by decide) rfl (fun ls hl => ?_)
          obtain ⟨x22, ex22, h⟩ := lt_some h
          refine lv_iinc (v := x22) (lv' := [(6, .int x22), (4, .long x21), (7, .int x12), (0, .ref (ad 15)), (1, .ref (ad 30)), (2, .ref (ad 3)), (3, .int v3)]) hx hb dX4_layGuest_53 hl (k := 6) rfl (by rw [ex22]; rfl) (by decide) rfl (fun ls hl => ?_)
          refine lv_goto (tgt := 6) hx hb dX4_layGuest_56 (by decide) ?_
          exact ih v3 x21 x22 σ h H locs hP hD hS ls (lv_sub hl [3, 4, 5, 6, 1, 0] rfl)
set_option maxHeartbeats 4000000 in
set_option maxRecDepth 100000 in
theorem w_X4_layGuest_15_30_3_0 (C : Cx p s m args meth c D cy tT tF A cX4_layGuest 8 RX4) (hr : meth.sig.returnType = none) {σ' : ES} (a3 : Int32) (σ : ES) (h : b_X4_layGuest_15_30_3_0 a3 σ = some σ') (H : Heap) (locs : List Loc) (hP : va_P D vwCl (xw cy ad σ) H) (hD : va_D A (xw cy ad σ)) (hS : va_S A s.heap H locs) (ls : Array Slot) (hl : lv_has ls 8 [(0, .ref (ad 15)), (1, .ref (ad 30)), (2, .ref (ad 3)), (3, .int a3)]) : W p l e { frames := 0, cells := 0, slots := 0, locals := 0 } s m args below meth c H locs 0 0 (MQ below (Qv D cy A (xw cy ad σ')) args s 0 0 A) (F0 m 0 ls []) := by
  obtain ⟨⟨hx, hb, hml, hown, hts⟩, hK, hT, hA, hlk⟩ := id C
  unfold b_X4_layGuest_15_30_3_0 at h
  refine lv_lconst (v := 0) hx hb dX4_layGuest_0 (by decide) ?_
  refine lv_lstore (lv' := [(4, .long (0 : Int64)), (0, .ref (ad 15)), (1, .ref (ad 30)), (2, .ref (ad 3)), (3, .int a3)]) hx hb dX4_layGuest_1 hl (by decide) rfl (fun ls hl => ?_)
  refine lv_iconst (v := 0) hx hb dX4_layGuest_3 (by decide) ?_
  refine lv_istore (lv' := [(6, .int (0 : Int32)), (4, .long (0 : Int64)), (0, .ref (ad 15)), (1, .ref (ad 30)), (2, .ref (ad 3)), (3, .int a3)]) hx hb dX4_layGuest_4 hl (by decide) rfl (fun ls hl => ?_)
  exact w_X4_layGuest_15_30_3_6 C hr FU a3 (0 : Int64) (0 : Int32) σ h H locs hP hD hS ls (lv_sub hl [2, 3, 4, 5, 1, 0] rfl)
theorem c_X4_layGuest_15_30_3 {l : Launch} {D : va_G} {cy : Nat → ClassId} {tT tF : Nat} {ad : Nat → Nat} {σ : ES} {a3 : Int32} {σ' : ES} (h : e_X4_layGuest_15_30_3 a3 σ = some σ') : CMv l yX4_layGuest (Cond.code yX4_layGuest cX4_layGuest 8 none :: wsL_law) { frames := 0, cells := 0, slots := 0, locals := 0 } D cy tT tF [.ref (ad 15), .ref (ad 30), .ref (ad 3), .int a3] (xw cy ad σ) (xw cy ad σ') := x_start (Qc := fun A => (Qv D cy A (xw cy ad σ'))) (by decide) (Nat.le_of_ble_eq_true rfl) (fun p e s m below meth c A ls C hr hP hD hS hl => w_X4_layGuest_15_30_3_0 C hr a3 σ h s.heap [] hP hD hS ls hl)
set_option maxHeartbeats 4000000 in
set_option maxRecDepth 100000 in
theorem w_J13_bitCount_0 (C : Cx p s m args meth c D cy tT tF A cJ13_bitCount_95d88 2 RJ13) (hr : meth.sig.returnType = some .int) {r : Int32} (a0 : Int64) (h : b_J13_bitCount_0 a0 = some r) (H : Heap) (locs : List Loc) (hP : va_P D vwCl ws H) (hD : va_D A ws) (hS : va_S A s.heap H locs) (ls : Array Slot) (hl : lv_has ls 2 [(0, .long a0)]) : W p l e { frames := 0, cells := 0, slots := 0, locals := 0 } s m args below meth c H locs 0 0 (MQ below (Qi D cy A r ws) args s 0 0 A) (F0 m 0 ls []) := by
  obtain ⟨⟨hx, hb, hml, hown, hts⟩, hK, hT, hA, hlk⟩ := id C
  unfold b_J13_bitCount_0 at h
  refine lv_lload_n hx hb dJ13_bitCount_95d88_0 rfl (lv_at hl 0 rfl) ?_
  refine lv_lload_n hx hb dJ13_bitCount_95d88_1 rfl (lv_at hl 0 rfl) ?_
  refine lv_iconst (v := 1) hx hb dJ13_bitCount_95d88_2 (by decide) ?_
  refine lv_lushr hx hb dJ13_bitCount_95d88_3 rfl ?_
  refine lv_ldc2 (v := 6148914691236517205) hx hb hown (hts _ mw21_12) dJ13_bitCount_95d88_4 ?_
  refine lv_land hx hb dJ13_bitCount_95d88_7 ?_
  refine lv_lsub hx hb dJ13_bitCount_95d88_8 ?_
  obtain ⟨x1, ex1, h⟩ := lt_some h
  refine x_tl ex1 ?_
  refine lv_lstore_n (lv' := [(0, .long x1)]) hx hb dJ13_bitCount_95d88_9 rfl hl (by decide) rfl (fun ls hl => ?_)
  refine lv_lload_n hx hb dJ13_bitCount_95d88_10 rfl (lv_at hl 0 rfl) ?_
  refine lv_ldc2 (v := 3689348814741910323) hx hb hown (hts _ mw21_13) dJ13_bitCount_95d88_11 ?_
  refine lv_land hx hb dJ13_bitCount_95d88_14 ?_
  refine lv_lload_n hx hb dJ13_bitCount_95d88_15 rfl (lv_at hl 0 rfl) ?_
  refine lv_iconst (v := 2) hx hb dJ13_bitCount_95d88_16 (by decide) ?_
  refine lv_lushr hx hb dJ13_bitCount_95d88_17 rfl ?_
  refine lv_ldc2 (v := 3689348814741910323) hx hb hown (hts _ mw21_13) dJ13_bitCount_95d88_18 ?_
  refine lv_land hx hb dJ13_bitCount_95d88_21 ?_
  refine lv_ladd hx hb dJ13_bitCount_95d88_22 ?_
  obtain ⟨x2, ex2, h⟩ := lt_some h
  refine x_tl ex2 ?_
  refine lv_lstore_n (lv' := [(0, .long x2)]) hx hb dJ13_bitCount_95d88_23 rfl hl (by decide) rfl (fun ls hl => ?_)
  refine lv_lload_n hx hb dJ13_bitCount_95d88_24 rfl (lv_at hl 0 rfl) ?_
  refine lv_lload_n hx hb dJ13_bitCount_95d88_25 rfl (lv_at hl 0 rfl) ?_
  refine lv_iconst (v := 4) hx hb dJ13_bitCount_95d88_26 (by decide) ?_
  refine lv_lushr hx hb dJ13_bitCount_95d88_27 rfl ?_
  refine lv_ladd hx hb dJ13_bitCount_95d88_28 ?_
  refine lv_ldc2 (v := 1085102592571150095) hx hb hown (hts _ mw21_14) dJ13_bitCount_95d88_29 ?_
  refine lv_land hx hb dJ13_bitCount_95d88_32 ?_
  obtain ⟨x3, ex3, h⟩ := lt_some h
  refine x_tl ex3 ?_
  refine lv_lstore_n (lv' := [(0, .long x3)]) hx hb dJ13_bitCount_95d88_33 rfl hl (by decide) rfl (fun ls hl => ?_)
  refine lv_lload_n hx hb dJ13_bitCount_95d88_34 rfl (lv_at hl 0 rfl) ?_
  refine lv_lload_n hx hb dJ13_bitCount_95d88_35 rfl (lv_at hl 0 rfl) ?_
  refine lv_bipush (v := 8) hx hb dJ13_bitCount_95d88_36 (by decide) ?_
  refine lv_lushr hx hb dJ13_bitCount_95d88_38 rfl ?_
  refine lv_ladd hx hb dJ13_bitCount_95d88_39 ?_
  obtain ⟨x4, ex4, h⟩ := lt_some h
  refine x_tl ex4 ?_
  refine lv_lstore_n (lv' := [(0, .long x4)]) hx hb dJ13_bitCount_95d88_40 rfl hl (by decide) rfl (fun ls hl => ?_)
  refine lv_lload_n hx hb dJ13_bitCount_95d88_41 rfl (lv_at hl 0 rfl) ?_
  refine lv_lload_n hx hb dJ13_bitCount_95d88_42 rfl (lv_at hl 0 rfl) ?_
  refine lv_bipush (v := 16) hx hb dJ13_bitCount_95d88_43 (by decide) ?_
  refine lv_lushr hx hb dJ13_bitCount_95d88_45 rfl ?_
  refine lv_ladd hx hb dJ13_bitCount_95d88_46 ?_
  obtain ⟨x5, ex5, h⟩ := lt_some h
  refine x_tl ex5 ?_
  refine lv_lstore_n (lv' := [(0, .long x5)]) hx hb dJ13_bitCount_95d88_47 rfl hl (by decide) rfl (fun ls hl => ?_)
  refine lv_lload_n hx hb dJ13_bitCount_95d88_48 rfl (lv_at hl 0 rfl) ?_
  refine lv_lload_n hx hb dJ13_bitCount_95d88_49 rfl (lv_at hl 0 rfl) ?_
  refine lv_bipush (v := 32) hx hb dJ13_bitCount_95d88_50 (by decide) ?_
  refine lv_lushr hx hb dJ13_bitCount_95d88_52 rfl ?_
  refine lv_ladd hx hb dJ13_bitCount_95d88_53 ?_
  obtain ⟨x6, ex6, h⟩ := lt_some h
  refine x_tl ex6 ?_
  refine lv_lstore_n (lv' := [(0, .long x6)]) hx hb dJ13_bitCount_95d88_54 rfl hl (by decide) rfl (fun ls hl => ?_)
  refine lv_lload_n hx hb dJ13_bitCount_95d88_55 rfl (lv_at hl 0 rfl) ?_
  refine lv_l2i hx hb dJ13_bitCount_95d88_56 rfl ?_
  refine lv_bipush (v := 127) hx hb dJ13_bitCount_95d88_57 (by decide) ?_
  refine lv_iand hx hb dJ13_bitCount_95d88_59 ?_
  have z1 := so_inj h
  subst z1
  exact x_iret C hr hP hD hS dJ13_bitCount_95d88_60
theorem c_J13_bitCount {l : Launch} {D : va_G} {cy : Nat → ClassId} {tT tF : Nat} {ws : va_W} {a0 : Int64} {r : Int32} (h : e_J13_bitCount a0 = some r) : CMi l yJ13_bitCount_95d88 (Cond.code yJ13_bitCount_95d88 cJ13_bitCount_95d88 2 (some .int) :: wsL_law) { frames := 0, cells := 0, slots := 0, locals := 0 } D cy tT tF [.long a0] ws r ws := x_start (Qc := fun A => (Qi D cy A r ws)) (by decide) (Nat.le_of_ble_eq_true rfl) (fun p e s m below meth c A ls C hr hP hD hS hl => w_J13_bitCount_0 C hr a0 h s.heap [] hP hD hS ls hl)
set_option maxHeartbeats 4000000 in
set_option maxRecDepth 100000 in
theorem w_X4_weigh_15_6 (C : Cx p s m args meth c D cy tT tF A cX4_weigh 6 RX4) (hr : meth.sig.returnType = none) {σ' : ES} : ∀ (n : Nat) (v1 : Int64) (v3 : Int32) (v4 : Int32) (v5 : Int32) (σ : ES), b_X4_weigh_15_6 n v1 v3 v4 v5 σ = some σ' → ∀ (H : Heap) (locs : List Loc) (hP : va_P D vwCl (xw cy ad σ) H) (hD : va_D A (xw cy ad σ)) (hS : va_S A s.heap H locs) (ls : Array Slot) (hl : lv_has ls 6 [(0, .ref (ad 15)), (1, .long v1), (3, .int v3), (4, .int v4), (5, .int v5)]), W p l e { frames := 1, cells := 0, slots := 0, locals := 60 } s m args below meth c H locs 0 0 (MQ below (Qv D cy A (xw cy ad σ')) args s 0 0 A) (F0 m 6 ls []) := by
  obtain ⟨⟨hx, hb, hml, hown, hts⟩, hK, hT, hA, hlk⟩ := id C
  intro n
  induction n with
  | zero =>
    intro v1 v3 v4 v5 σ h
    exact no_some h
  | succ n ih =>
    intro v1 v3 v4 v5 σ h H locs hP hD hS ls hl
    rw [b_X4_weigh_15_6] at h
    refine lv_iload hx hb dX4_weigh_6 (lv_at hl 4 rfl) ?_
    refine lv_aload_n hx hb dX4_weigh_8 rfl (lv_at hl 0 rfl) ?_
    refine x_get C hP inlX4 15 xw_15 rfl 8 (by decide) mw4_12 rfl dX4_weigh_9 ?_
    refine lv_icmp_ge (tgt := 52) hx hb dX4_weigh_12 (by decide) (fun q1 => ?_) (fun q1 => ?_)
    · have h := ifp q1 h
      refine lv_aload_n hx hb dX4_weigh_52 rfl (lv_at hl 0 rfl) ?_
      refine lv_dup hx hb dX4_weigh_53 rfl ?_
      refine x_get C hP inlX4 15 xw_15 rfl 10 (by decide) mw4_14 rfl dX4_weigh_54 ?_
      refine lv_iload hx hb dX4_weigh_57 (lv_at hl 3 rfl) ?_
      refine lv_ior hx hb dX4_weigh_59 ?_
      obtain ⟨σ2, eσ2, h⟩ := lt_some h
      refine x_put C hP hD hS inlX4 tyX4 tyX4_ok nmX4 15 xw_15 rfl 10 (by decide) mw4_14 rfl rfl rfl (Nat.le_of_ble_eq_true rfl) (xs_15_10 eσ2) dX4_weigh_60 (fun H locs hP hD hS => ?_)
      refine lv_iload_n hx hb dX4_weigh_63 rfl (lv_at hl 2 rfl) ?_
      refine lv_aload_n hx hb dX4_weigh_64 rfl (lv_at hl 0 rfl) ?_
      refine x_get C hP inlX4 15 xw_15 rfl 7 (by decide) mw4_11 rfl dX4_weigh_65 ?_
      refine lv_iload hx hb dX4_weigh_68 (lv_at hl 3 rfl) ?_
      obtain ⟨g3, x4, ex4, h⟩ := rd_some h
      refine x_ild C hP 23 xw_23 g3 ex4 dX4_weigh_70 ?_
      refine lv_icmp_ge (tgt := 105) hx hb dX4_weigh_71 (by decide) (fun q5 => ?_) (fun q5 => ?_)
      · have h := ifp q5 h
        have z1 := so_inj h
        subst z1
        exact x_vret C hr hP hD hS dX4_weigh_105
      · have h := ifn q5 h
        refine lv_aload_n hx hb dX4_weigh_74 rfl (lv_at hl 0 rfl) ?_
        refine x_get C hP inlX4 15 xw_15 rfl 7 (by decide) mw4_11 rfl dX4_weigh_75 ?_
        refine lv_iload hx hb dX4_weigh_78 (lv_at hl 3 rfl) ?_
        refine lv_iload_n hx hb dX4_weigh_80 rfl (lv_at hl 2 rfl) ?_
        obtain ⟨g6, σ7, eσ7, h⟩ := wr_some h
        refine x_ist C hP hD hS 23 xw_23 g6 (xa_23 eσ7) dX4_weigh_81 (fun H locs hP hD hS => ?_)
        refine lv_iload hx hb dX4_weigh_82 (lv_at hl 3 rfl) ?_
        refine lv_aload_n hx hb dX4_weigh_84 rfl (lv_at hl 0 rfl) ?_
        refine x_get C hP inlX4 15 xw_15 rfl 9 (by decide) mw4_13 rfl dX4_weigh_85 ?_
        refine lv_icmp_ne (tgt := 105) hx hb dX4_weigh_88 (by decide) (fun q8 => ?_) (fun q8 => ?_)
        · have h := ifn q8 h
          have z1 := so_inj h
          subst z1
          exact x_vret C hr hP hD hS dX4_weigh_105
        · have h := ifp q8 h
          refine lv_aload_n hx hb dX4_weigh_91 rfl (lv_at hl 0 rfl) ?_
          refine x_get C hP inlX4 15 xw_15 rfl 5 (by decide) mw4_9 rfl dX4_weigh_92 ?_
          refine lv_iconst (v := 0) hx hb dX4_weigh_95 (by decide) ?_
          refine lv_aload_n hx hb dX4_weigh_96 rfl (lv_at hl 0 rfl) ?_
          refine x_get C hP inlX4 15 xw_15 rfl 6 (by decide) mw4_10 rfl dX4_weigh_97 ?_
          refine lv_iconst (v := 0) hx hb dX4_weigh_100 (by decide) ?_
          refine lv_iconst (v := 4) hx hb dX4_weigh_101 (by decide) ?_
          obtain ⟨σ9, eσ9, h⟩ := lt_some h
          refine x_copy C hl.1 hP hD hS mw21_4 mw21_5 mw21_6 mw21_7 21 22 xw_21 xw_22 (by decide) (by decide) (by decide) (by decide) (by decide) (Nat.le_of_ble_eq_true rfl) (Nat.le_of_ble_eq_true rfl) (xc_22 eσ9) dX4_weigh_102 (fun H locs hP hD hS => ?_)
          have z1 := so_inj h
          subst z1
          exact x_vret C hr hP hD hS dX4_weigh_105
    · have h := ifn q1 h
      refine lv_lload_n hx hb dX4_weigh_15 rfl (lv_at hl 1 rfl) ?_
      refine lv_aload_n hx hb dX4_weigh_16 rfl (lv_at hl 0 rfl) ?_
      refine x_get C hP inlX4 15 xw_15 rfl 3 (by decide) mw4_7 rfl dX4_weigh_17 ?_
      refine lv_iload hx hb dX4_weigh_20 (lv_at hl 4 rfl) ?_
      obtain ⟨g10, x11, ex11, h⟩ := rdL_some h
      refine x_lld C hP 19 xw_19 g10 ex11 dX4_weigh_22 ?_
      refine lv_land hx hb dX4_weigh_23 ?_
      obtain ⟨r13, g12, h⟩ := cl_some h
      refine x_callSi (rest := []) C hP hD hS (c_J13_bitCount g12) (va_cwS 1 hts (gS mw21_8 mw21_9 mw21_10 mw21_11) rfl rfl rfl hdS_J13_bitCount ⟨Nat.le_of_ble_eq_true rfl, Nat.le_of_ble_eq_true rfl⟩) rfl hl.1 rfl (Nat.le_of_ble_eq_true rfl) dX4_weigh_24 ⟨Nat.zero_le _, Nat.zero_le _⟩ (fun H locs hP hD hS => ?_)
      refine lv_aload_n hx hb dX4_weigh_27 rfl (lv_at hl 0 rfl) ?_
      refine x_get C hP inlX4 15 xw_15 rfl 4 (by decide) mw4_8 rfl dX4_weigh_28 ?_
      refine lv_iload hx hb dX4_weigh_31 (lv_at hl 4 rfl) ?_
      obtain ⟨g14, x15, ex15, h⟩ := rd_some h
      refine x_ild C hP 20 xw_20 g14 ex15 dX4_weigh_33 ?_
      refine lv_icmp_lt (tgt := 46) hx hb dX4_weigh_34 (by decide) (fun q16 => ?_) (fun q16 => ?_)
      · have h := ifp q16 h
        obtain ⟨x17, ex17, h⟩ := lt_some h
        refine lv_iinc (v := x17) (lv' := [(5, .int x17), (0, .ref (ad 15)), (1, .long v1), (3, .int v3), (4, .int v4)]) hx hb dX4_weigh_46 hl (k := 4) rfl (by rw [ex17]; rfl) (by decide) rfl (fun ls hl => ?_)
        refine lv_goto (tgt := 6) hx hb dX4_weigh_49 (by decide) ?_
        exact ih v1 v3 v4 x17 σ h H locs hP hD hS ls (lv_sub hl [1, 2, 3, 4, 0] rfl)
      · have h := ifn q16 h
        refine lv_iload hx hb dX4_weigh_37 (lv_at hl 3 rfl) ?_
        refine lv_iconst (v := 1) hx hb dX4_weigh_39 (by decide) ?_
        refine lv_iload hx hb dX4_weigh_40 (lv_at hl 4 rfl) ?_
        refine lv_ishl hx hb dX4_weigh_42 ?_
        refine lv_ior hx hb dX4_weigh_43 ?_
        obtain ⟨x18, ex18, h⟩ := lt_some h
        refine x_ti ex18 ?_
        refine lv_istore (lv' := [(4, .int x18), (0, .ref (ad 15)), (1, .long v1), (3, .int v3), (5, .int v5)]) hx hb dX4_weigh_44 hl (by decide) rfl (fun ls hl => ?_)
        obtain ⟨x19, ex19, h⟩ := lt_some h
        refine lv_iinc (v := x19) (lv' := [(5, .int x19), (4, .int x18), (0, .ref (ad 15)), (1, .long v1), (3, .int v3)]) hx hb dX4_weigh_46 hl (k := 4) rfl (by rw [ex19]; rfl) (by decide) rfl (fun ls hl => ?_)
        refine lv_goto (tgt := 6) hx hb dX4_weigh_49 (by decide) ?_
        exact ih v1 v3 x18 x19 σ h H locs hP hD hS ls (lv_sub hl [2, 3, 4, 1, 0] rfl)
set_option maxHeartbeats 4000000 in
set_option maxRecDepth 100000 in
theorem w_X4_weigh_15_0 (C : Cx p s m args meth c D cy tT tF A cX4_weigh 6 RX4) (hr : meth.sig.returnType = none) {σ' : ES} (a1 : Int64) (a3 : Int32) (σ : ES) (h : b_X4_weigh_15_0 a1 a3 σ = some σ') (H : Heap) (locs : List Loc) (hP : va_P D vwCl (xw cy ad σ) H) (hD : va_D A (xw cy ad σ)) (hS : va_S A s.heap H locs) (ls : Array Slot) (hl : lv_has ls 6 [(0, .ref (ad 15)), (1, .long a1), (3, .int a3)]) : W p l e { frames := 1, cells := 0, slots := 0, locals := 60 } s m args below meth c H locs 0 0 (MQ below (Qv D cy A (xw cy ad σ')) args s 0 0 A) (F0 m 0 ls []) := by
  obtain ⟨⟨hx, hb, hml, hown, hts⟩, hK, hT, hA, hlk⟩ := id C
  unfold b_X4_weigh_15_0 at h
  refine lv_iconst (v := 0) hx hb dX4_weigh_0 (by decide) ?_
  refine lv_istore (lv' := [(4, .int (0 : Int32)), (0, .ref (ad 15)), (1, .long a1), (3, .int a3)]) hx hb dX4_weigh_1 hl (by decide) rfl (fun ls hl => ?_)
  refine lv_iconst (v := 0) hx hb dX4_weigh_3 (by decide) ?_
  refine lv_istore (lv' := [(5, .int (0 : Int32)), (4, .int (0 : Int32)), (0, .ref (ad 15)), (1, .long a1), (3, .int a3)]) hx hb dX4_weigh_4 hl (by decide) rfl (fun ls hl => ?_)
  exact w_X4_weigh_15_6 C hr FU a1 a3 (0 : Int32) (0 : Int32) σ h H locs hP hD hS ls (lv_sub hl [2, 3, 4, 1, 0] rfl)
theorem c_X4_weigh_15 {l : Launch} {D : va_G} {cy : Nat → ClassId} {tT tF : Nat} {ad : Nat → Nat} {σ : ES} {a1 : Int64} {a3 : Int32} {σ' : ES} (h : e_X4_weigh_15 a1 a3 σ = some σ') : CMv l yX4_weigh (Cond.code yX4_weigh cX4_weigh 6 none :: wsL_law) { frames := 1, cells := 0, slots := 0, locals := 60 } D cy tT tF [.ref (ad 15), .long a1, .int a3] (xw cy ad σ) (xw cy ad σ') := x_start (Qc := fun A => (Qv D cy A (xw cy ad σ'))) (by decide) (Nat.le_of_ble_eq_true rfl) (fun p e s m below meth c A ls C hr hP hD hS hl => w_X4_weigh_15_0 C hr a1 a3 σ h s.heap [] hP hD hS ls hl)
set_option maxHeartbeats 4000000 in
set_option maxRecDepth 100000 in
theorem w_X4_tryCandle_15_50 (C : Cx p s m args meth c D cy tT tF A cX4_tryCandle 7 RX4) (hr : meth.sig.returnType = none) {σ' : ES} {F : Int32 → Int64 → Int32 → ES → Option (ES)} {rF : Room} (hF : ∀ (a1 : Int32) (a2 : Int64) (a4 : Int32) (σ τ : ES), F a1 a2 a4 σ = some τ → CMv l yX4_tryCandle (Cond.code yX4_tryCandle cX4_tryCandle 7 none :: wsL_law) rF D cy tT tF [.ref (ad 15), .int a1, .long a2, .int a4] (xw cy ad σ) (xw cy ad τ)) (hR : rF.frames + 1 ≤ R.frames ∧ 8 + (7 + 11) + rF.locals ≤ R.locals) (hR2 : 2 ≤ R.frames ∧ 85 ≤ R.locals) (hrc : rF.cells = 0 ∧ rF.slots = 0) {K16 : Int32 → Int64 → Int32 → Int32 → ES → Option (ES)} (hK16 : ∀ (v1 : Int32) (v2 : Int64) (v4 : Int32) (v5 : Int32) (σ : ES), K16 v1 v2 v4 v5 σ = some σ' → ∀ (H : Heap) (locs : List Loc), va_P D vwCl (xw cy ad σ) H → va_D A (xw cy ad σ) → va_S A s.heap H locs → ∀ ls : Array Slot, lv_has ls 7 [(0, .ref (ad 15)), (1, .int v1), (2, .long v2), (4, .int v4), (5, .int v5)] → W p l e R s m args below meth c H locs 0 0 (MQ below (Qv D cy A (xw cy ad σ')) args s 0 0 A) (F0 m 16 ls [])) (v1 : Int32) (v2 : Int64) (v4 : Int32) (v5 : Int32) (t0 : Int32) (σ : ES) (h : b_X4_tryCandle_15_50 F K16 v1 v2 v4 v5 t0 σ = some σ') (H : Heap) (locs : List Loc) (hP : va_P D vwCl (xw cy ad σ) H) (hD : va_D A (xw cy ad σ)) (hS : va_S A s.heap H locs) (ls : Array Slot) (hl : lv_has ls 7 [(0, .ref (ad 15)), (1, .int v1), (2, .long v2), (4, .int v4), (5, .int v5)]) : W p l e R s m args below meth c H locs 0 0 (MQ below (Qv D cy A (xw cy ad σ')) args s 0 0 A) (F0 m 50 ls [.int t0]) := by
  obtain ⟨⟨hx, hb, hml, hown, hts⟩, hK, hT, hA, hlk⟩ := id C
  unfold b_X4_tryCandle_15_50 at h
  refine lv_istore (lv' := [(6, .int t0), (0, .ref (ad 15)), (1, .int v1), (2, .long v2), (4, .int v4), (5, .int v5)]) hx hb dX4_tryCandle_50 hl (by decide) rfl (fun ls hl => ?_)
  refine lv_aload_n hx hb dX4_tryCandle_52 rfl (lv_at hl 1 rfl) ?_
  refine lv_iload_n hx hb dX4_tryCandle_53 rfl (lv_at hl 2 rfl) ?_
  refine lv_iconst (v := 1) hx hb dX4_tryCandle_54 (by decide) ?_
  refine lv_iadd hx hb dX4_tryCandle_55 ?_
  refine lv_lload_n hx hb dX4_tryCandle_56 rfl (lv_at hl 3 rfl) ?_
  refine lv_aload_n hx hb dX4_tryCandle_57 rfl (lv_at hl 1 rfl) ?_
  refine x_get C hP inlX4 15 xw_15 rfl 0 (by decide) mw4_4 rfl dX4_tryCandle_58 ?_
  refine lv_iload_n hx hb dX4_tryCandle_61 rfl (lv_at hl 2 rfl) ?_
  refine lv_bipush (v := 7) hx hb dX4_tryCandle_62 (by decide) ?_
  refine lv_imul hx hb dX4_tryCandle_64 ?_
  refine lv_iload hx hb dX4_tryCandle_65 (lv_at hl 5 rfl) ?_
  refine lv_iadd hx hb dX4_tryCandle_67 ?_
  obtain ⟨g1, x2, ex2, h⟩ := rdL_some h
  refine x_lld C hP 16 xw_16 g1 ex2 dX4_tryCandle_68 ?_
  refine lv_lor hx hb dX4_tryCandle_69 ?_
  refine lv_iload hx hb dX4_tryCandle_70 (lv_at hl 4 rfl) ?_
  refine lv_iload hx hb dX4_tryCandle_72 (lv_at hl 0 rfl) ?_
  refine lv_iadd hx hb dX4_tryCandle_74 ?_
  obtain ⟨σ4, g3, h⟩ := cl_some h
  refine x_callSv (rest := []) C hP hD hS (hF _ _ _ _ _ g3) (va_cwS 4 hts (gS mw20_21 mw20_22 mw2_4 mw20_23) rfl hrc.1 hrc.2 hdS_X4_tryCandle hR) rfl hl.1 rfl (Nat.le_of_ble_eq_true rfl) dX4_tryCandle_75 ⟨Nat.zero_le _, Nat.zero_le _⟩ (fun H locs hP hD hS => ?_)
  obtain ⟨x5, ex5, h⟩ := lt_some h
  refine lv_iinc (v := x5) (lv' := [(5, .int x5), (6, .int t0), (0, .ref (ad 15)), (1, .int v1), (2, .long v2), (4, .int v4)]) hx hb dX4_tryCandle_78 hl (k := 5) rfl (by rw [ex5]; rfl) (by decide) rfl (fun ls hl => ?_)
  refine lv_goto (tgt := 16) hx hb dX4_tryCandle_81 (by decide) ?_
  exact hK16 v1 v2 v4 x5 σ4 h H locs hP hD hS ls (lv_sub hl [2, 3, 4, 5, 0] rfl)
set_option maxHeartbeats 4000000 in
set_option maxRecDepth 100000 in
theorem w_X4_tryCandle_15_16 (C : Cx p s m args meth c D cy tT tF A cX4_tryCandle 7 RX4) (hr : meth.sig.returnType = none) {σ' : ES} {F : Int32 → Int64 → Int32 → ES → Option (ES)} {rF : Room} (hF : ∀ (a1 : Int32) (a2 : Int64) (a4 : Int32) (σ τ : ES), F a1 a2 a4 σ = some τ → CMv l yX4_tryCandle (Cond.code yX4_tryCandle cX4_tryCandle 7 none :: wsL_law) rF D cy tT tF [.ref (ad 15), .int a1, .long a2, .int a4] (xw cy ad σ) (xw cy ad τ)) (hR : rF.frames + 1 ≤ R.frames ∧ 8 + (7 + 11) + rF.locals ≤ R.locals) (hR2 : 2 ≤ R.frames ∧ 85 ≤ R.locals) (hrc : rF.cells = 0 ∧ rF.slots = 0) : ∀ (n : Nat) (v1 : Int32) (v2 : Int64) (v4 : Int32) (v5 : Int32) (σ : ES), b_X4_tryCandle_15_16 F n v1 v2 v4 v5 σ = some σ' → ∀ (H : Heap) (locs : List Loc) (hP : va_P D vwCl (xw cy ad σ) H) (hD : va_D A (xw cy ad σ)) (hS : va_S A s.heap H locs) (ls : Array Slot) (hl : lv_has ls 7 [(0, .ref (ad 15)), (1, .int v1), (2, .long v2), (4, .int v4), (5, .int v5)]), W p l e R s m args below meth c H locs 0 0 (MQ below (Qv D cy A (xw cy ad σ')) args s 0 0 A) (F0 m 16 ls []) := by
  obtain ⟨⟨hx, hb, hml, hown, hts⟩, hK, hT, hA, hlk⟩ := id C
  intro n
  induction n with
  | zero =>
    intro v1 v2 v4 v5 σ h
    exact no_some h
  | succ n ih =>
    intro v1 v2 v4 v5 σ h H locs hP hD hS ls hl
    rw [b_X4_tryCandle_15_16] at h
    refine lv_iload hx hb dX4_tryCandle_16 (lv_at hl 4 rfl) ?_
    refine lv_aload_n hx hb dX4_tryCandle_18 rfl (lv_at hl 0 rfl) ?_
    refine x_get C hP inlX4 15 xw_15 rfl 2 (by decide) mw4_6 rfl dX4_tryCandle_19 ?_
    refine lv_iload_n hx hb dX4_tryCandle_22 rfl (lv_at hl 1 rfl) ?_
    obtain ⟨g1, x2, ex2, h⟩ := rd_some h
    refine x_ild C hP 18 xw_18 g1 ex2 dX4_tryCandle_23 ?_
    refine lv_icmp_gt (tgt := 84) hx hb dX4_tryCandle_24 (by decide) (fun q3 => ?_) (fun q3 => ?_)
    · have h := ifp q3 h
      have z1 := so_inj h
      subst z1
      exact x_vret C hr hP hD hS dX4_tryCandle_84
    · have h := ifn q3 h
      refine lv_aload_n hx hb dX4_tryCandle_27 rfl (lv_at hl 0 rfl) ?_
      refine x_get C hP inlX4 15 xw_15 rfl 5 (by decide) mw4_9 rfl dX4_tryCandle_28 ?_
      refine lv_iload_n hx hb dX4_tryCandle_31 rfl (lv_at hl 1 rfl) ?_
      refine lv_iload hx hb dX4_tryCandle_32 (lv_at hl 4 rfl) ?_
      obtain ⟨g4, σ5, eσ5, h⟩ := wr_some h
      refine x_ist C hP hD hS 21 xw_21 g4 (xa_21 eσ5) dX4_tryCandle_34 (fun H locs hP hD hS => ?_)
      refine lv_iload hx hb dX4_tryCandle_35 (lv_at hl 4 rfl) ?_
      refine lv_if_ne (tgt := 44) hx hb dX4_tryCandle_37 (by decide) (fun q6 => ?_) (fun q6 => ?_)
      · have h := ifn q6 h
        refine lv_aload_n hx hb dX4_tryCandle_44 rfl (lv_at hl 0 rfl) ?_
        refine x_get C hP inlX4 15 xw_15 rfl 1 (by decide) mw4_5 rfl dX4_tryCandle_45 ?_
        refine lv_iload_n hx hb dX4_tryCandle_48 rfl (lv_at hl 1 rfl) ?_
        obtain ⟨g7, x8, ex8, h⟩ := rd_some h
        refine x_ild C hP 17 xw_17 g7 ex8 dX4_tryCandle_49 ?_
        exact w_X4_tryCandle_15_50 C hr hF hR hR2 hrc ih v1 v2 v4 v5 x8 σ5 h H locs hP hD hS ls (lv_sub hl [0, 1, 2, 3, 4] rfl)
      · have h := ifp q6 h
        refine lv_iconst (v := 0) hx hb dX4_tryCandle_40 (by decide) ?_
        refine lv_goto (tgt := 50) hx hb dX4_tryCandle_41 (by decide) ?_
        exact w_X4_tryCandle_15_50 C hr hF hR hR2 hrc ih v1 v2 v4 v5 (0 : Int32) σ5 h H locs hP hD hS ls (lv_sub hl [0, 1, 2, 3, 4] rfl)
set_option maxHeartbeats 4000000 in
set_option maxRecDepth 100000 in
theorem w_X4_tryCandle_15_0 (C : Cx p s m args meth c D cy tT tF A cX4_tryCandle 7 RX4) (hr : meth.sig.returnType = none) {σ' : ES} {F : Int32 → Int64 → Int32 → ES → Option (ES)} {rF : Room} (hF : ∀ (a1 : Int32) (a2 : Int64) (a4 : Int32) (σ τ : ES), F a1 a2 a4 σ = some τ → CMv l yX4_tryCandle (Cond.code yX4_tryCandle cX4_tryCandle 7 none :: wsL_law) rF D cy tT tF [.ref (ad 15), .int a1, .long a2, .int a4] (xw cy ad σ) (xw cy ad τ)) (hR : rF.frames + 1 ≤ R.frames ∧ 8 + (7 + 11) + rF.locals ≤ R.locals) (hR2 : 2 ≤ R.frames ∧ 85 ≤ R.locals) (hrc : rF.cells = 0 ∧ rF.slots = 0) (a1 : Int32) (a2 : Int64) (a4 : Int32) (σ : ES) (h : b_X4_tryCandle_15_0 F a1 a2 a4 σ = some σ') (H : Heap) (locs : List Loc) (hP : va_P D vwCl (xw cy ad σ) H) (hD : va_D A (xw cy ad σ)) (hS : va_S A s.heap H locs) (ls : Array Slot) (hl : lv_has ls 7 [(0, .ref (ad 15)), (1, .int a1), (2, .long a2), (4, .int a4)]) : W p l e R s m args below meth c H locs 0 0 (MQ below (Qv D cy A (xw cy ad σ')) args s 0 0 A) (F0 m 0 ls []) := by
  obtain ⟨⟨hx, hb, hml, hown, hts⟩, hK, hT, hA, hlk⟩ := id C
  unfold b_X4_tryCandle_15_0 at h
  refine lv_iload_n hx hb dX4_tryCandle_0 rfl (lv_at hl 1 rfl) ?_
  refine lv_iconst (v := 4) hx hb dX4_tryCandle_1 (by decide) ?_
  refine lv_icmp_lt (tgt := 13) hx hb dX4_tryCandle_2 (by decide) (fun q1 => ?_) (fun q1 => ?_)
  · have h := ifp q1 h
    refine lv_iconst (v := 0) hx hb dX4_tryCandle_13 (by decide) ?_
    refine lv_istore (lv' := [(5, .int (0 : Int32)), (0, .ref (ad 15)), (1, .int a1), (2, .long a2), (4, .int a4)]) hx hb dX4_tryCandle_14 hl (by decide) rfl (fun ls hl => ?_)
    exact w_X4_tryCandle_15_16 C hr hF hR hR2 hrc FU a1 a2 a4 (0 : Int32) σ h H locs hP hD hS ls (lv_sub hl [1, 2, 3, 4, 0] rfl)
  · have h := ifn q1 h
    refine lv_aload_n hx hb dX4_tryCandle_5 rfl (lv_at hl 0 rfl) ?_
    refine lv_lload_n hx hb dX4_tryCandle_6 rfl (lv_at hl 2 rfl) ?_
    refine lv_iload hx hb dX4_tryCandle_7 (lv_at hl 3 rfl) ?_
    obtain ⟨σ3, g2, h⟩ := cl_some h
    refine x_callVv (rest := []) C hP hD hS (c_X4_weigh_15 g2) (cwV 2 hts (gV mw21_0 mw21_1 mw21_2 mw2_4 mw21_3) rfl rfl rfl hdV_X4_weigh hR2) xw_15 rfl rfl hl.1 rfl (Nat.le_of_ble_eq_true rfl) dX4_tryCandle_9 ⟨Nat.zero_le _, Nat.zero_le _⟩ (fun H locs hP hD hS => ?_)
    have z1 := so_inj h
    subst z1
    exact x_vret C hr hP hD hS dX4_tryCandle_12
theorem c_X4_tryCandle_15 {l : Launch} {D : va_G} {cy : Nat → ClassId} {tT tF : Nat} {ad : Nat → Nat} : ∀ (d : Nat) {a1 : Int32} {a2 : Int64} {a4 : Int32} {σ σ' : ES}, e_X4_tryCandle_15 d a1 a2 a4 σ = some σ' → CMv l yX4_tryCandle (Cond.code yX4_tryCandle cX4_tryCandle 7 none :: wsL_law) { frames := 2 + d, cells := 0, slots := 0, locals := 85 + d * 26 } D cy tT tF [.ref (ad 15), .int a1, .long a2, .int a4] (xw cy ad σ) (xw cy ad σ') := by
  intro d
  induction d with
  | zero =>
    intro a1 a2 a4 σ σ' h
    exact no_some h
  | succ d ih =>
    intro a1 a2 a4 σ σ' h
    rw [e_X4_tryCandle_15] at h
    exact x_start (Qc := fun A => (Qv D cy A (xw cy ad σ'))) (by decide) (Nat.le_of_ble_eq_true rfl) (fun p e s m below meth c A ls C hr hP hD hS hl => w_X4_tryCandle_15_0 C hr (rF := { frames := 2 + d, cells := 0, slots := 0, locals := 85 + d * 26 }) (fun _ _ _ _ _ g => ih g) ⟨Nat.le_refl _, by show 8 + (7 + 11) + (85 + d * 26) ≤ 85 + (d + 1) * 26; omega⟩ ⟨by show 2 ≤ 2 + (d + 1); omega, by show 85 ≤ 85 + (d + 1) * 26; omega⟩ ⟨rfl, rfl⟩ a1 a2 a4 σ h s.heap [] hP hD hS ls hl)
set_option maxHeartbeats 4000000 in
set_option maxRecDepth 100000 in
theorem w_X4_spreadToFewerGuests_15_12 (C : Cx p s m args meth c D cy tT tF A cX4_spreadToFewerGuests 3 RX4) (hr : meth.sig.returnType = none) {σ' : ES} {K2 : Int32 → ES → Option (ES)} (hK2 : ∀ (v1 : Int32) (σ : ES), K2 v1 σ = some σ' → ∀ (H : Heap) (locs : List Loc), va_P D vwCl (xw cy ad σ) H → va_D A (xw cy ad σ) → va_S A s.heap H locs → ∀ ls : Array Slot, lv_has ls 3 [(0, .ref (ad 15)), (1, .int v1)] → W p l e { frames := 1, cells := 0, slots := 0, locals := 15 } s m args below meth c H locs 0 0 (MQ below (Qv D cy A (xw cy ad σ')) args s 0 0 A) (F0 m 2 ls [])) : ∀ (n : Nat) (v1 : Int32) (v2 : Int32) (σ : ES), b_X4_spreadToFewerGuests_15_12 K2 n v1 v2 σ = some σ' → ∀ (H : Heap) (locs : List Loc) (hP : va_P D vwCl (xw cy ad σ) H) (hD : va_D A (xw cy ad σ)) (hS : va_S A s.heap H locs) (ls : Array Slot) (hl : lv_has ls 3 [(0, .ref (ad 15)), (1, .int v1), (2, .int v2)]), W p l e { frames := 1, cells := 0, slots := 0, locals := 15 } s m args below meth c H locs 0 0 (MQ below (Qv D cy A (xw cy ad σ')) args s 0 0 A) (F0 m 12 ls []) := by
  obtain ⟨⟨hx, hb, hml, hown, hts⟩, hK, hT, hA, hlk⟩ := id C
  intro n
  induction n with
  | zero =>
    intro v1 v2 σ h
    exact no_some h
  | succ n ih =>
    intro v1 v2 σ h H locs hP hD hS ls hl
    rw [b_X4_spreadToFewerGuests_15_12] at h
    refine lv_iload_n hx hb dX4_spreadToFewerGuests_12 rfl (lv_at hl 2 rfl) ?_
    refine lv_aload_n hx hb dX4_spreadToFewerGuests_13 rfl (lv_at hl 0 rfl) ?_
    refine x_get C hP inlX4 15 xw_15 rfl 9 (by decide) mw4_13 rfl dX4_spreadToFewerGuests_14 ?_
    refine lv_icmp_gt (tgt := 51) hx hb dX4_spreadToFewerGuests_17 (by decide) (fun q1 => ?_) (fun q1 => ?_)
    · have h := ifp q1 h
      obtain ⟨x2, ex2, h⟩ := lt_some h
      refine lv_iinc (v := x2) (lv' := [(1, .int x2), (0, .ref (ad 15)), (2, .int v2)]) hx hb dX4_spreadToFewerGuests_51 hl (k := 1) rfl (by rw [ex2]; rfl) (by decide) rfl (fun ls hl => ?_)
      refine lv_goto (tgt := 2) hx hb dX4_spreadToFewerGuests_54 (by decide) ?_
      exact hK2 x2 σ h H locs hP hD hS ls (lv_sub hl [1, 0] rfl)
    · have h := ifn q1 h
      refine lv_aload_n hx hb dX4_spreadToFewerGuests_20 rfl (lv_at hl 0 rfl) ?_
      refine x_get C hP inlX4 15 xw_15 rfl 7 (by decide) mw4_11 rfl dX4_spreadToFewerGuests_21 ?_
      refine lv_iload_n hx hb dX4_spreadToFewerGuests_24 rfl (lv_at hl 2 rfl) ?_
      refine lv_aload_n hx hb dX4_spreadToFewerGuests_25 rfl (lv_at hl 0 rfl) ?_
      refine x_get C hP inlX4 15 xw_15 rfl 7 (by decide) mw4_11 rfl dX4_spreadToFewerGuests_26 ?_
      refine lv_iload_n hx hb dX4_spreadToFewerGuests_29 rfl (lv_at hl 2 rfl) ?_
      obtain ⟨g3, x4, ex4, h⟩ := rd_some h
      refine x_ild C hP 23 xw_23 g3 ex4 dX4_spreadToFewerGuests_30 ?_
      refine lv_aload_n hx hb dX4_spreadToFewerGuests_31 rfl (lv_at hl 0 rfl) ?_
      refine x_get C hP inlX4 15 xw_15 rfl 7 (by decide) mw4_11 rfl dX4_spreadToFewerGuests_32 ?_
      refine lv_iload_n hx hb dX4_spreadToFewerGuests_35 rfl (lv_at hl 2 rfl) ?_
      refine lv_iconst (v := 1) hx hb dX4_spreadToFewerGuests_36 (by decide) ?_
      refine lv_iload_n hx hb dX4_spreadToFewerGuests_37 rfl (lv_at hl 1 rfl) ?_
      refine lv_ishl hx hb dX4_spreadToFewerGuests_38 ?_
      refine lv_ior hx hb dX4_spreadToFewerGuests_39 ?_
      obtain ⟨g5, x6, ex6, h⟩ := rd_some h
      refine x_ild C hP 23 xw_23 g5 ex6 dX4_spreadToFewerGuests_40 ?_
      refine x_min C hl.1 mw21_19 mw9_10 mw9_11 mw9_12 (Nat.le_of_ble_eq_true rfl) (Nat.le_of_ble_eq_true rfl) ⟨Nat.zero_le _, Nat.zero_le _⟩ dX4_spreadToFewerGuests_41 ?_
      obtain ⟨g7, σ8, eσ8, h⟩ := wr_some h
      refine x_ist C hP hD hS 23 xw_23 g7 (xa_23 eσ8) dX4_spreadToFewerGuests_44 (fun H locs hP hD hS => ?_)
      obtain ⟨x9, ex9, h⟩ := lt_some h
      refine lv_iinc (v := x9) (lv' := [(2, .int x9), (0, .ref (ad 15)), (1, .int v1)]) hx hb dX4_spreadToFewerGuests_45 hl (k := 2) rfl (by rw [ex9]; rfl) (by decide) rfl (fun ls hl => ?_)
      refine lv_goto (tgt := 12) hx hb dX4_spreadToFewerGuests_48 (by decide) ?_
      exact ih v1 x9 σ8 h H locs hP hD hS ls (lv_sub hl [1, 2, 0] rfl)
set_option maxHeartbeats 4000000 in
set_option maxRecDepth 100000 in
theorem w_X4_spreadToFewerGuests_15_2 (C : Cx p s m args meth c D cy tT tF A cX4_spreadToFewerGuests 3 RX4) (hr : meth.sig.returnType = none) {σ' : ES} : ∀ (n : Nat) (v1 : Int32) (σ : ES), b_X4_spreadToFewerGuests_15_2 n v1 σ = some σ' → ∀ (H : Heap) (locs : List Loc) (hP : va_P D vwCl (xw cy ad σ) H) (hD : va_D A (xw cy ad σ)) (hS : va_S A s.heap H locs) (ls : Array Slot) (hl : lv_has ls 3 [(0, .ref (ad 15)), (1, .int v1)]), W p l e { frames := 1, cells := 0, slots := 0, locals := 15 } s m args below meth c H locs 0 0 (MQ below (Qv D cy A (xw cy ad σ')) args s 0 0 A) (F0 m 2 ls []) := by
  obtain ⟨⟨hx, hb, hml, hown, hts⟩, hK, hT, hA, hlk⟩ := id C
  intro n
  induction n with
  | zero =>
    intro v1 σ h
    exact no_some h
  | succ n ih =>
    intro v1 σ h H locs hP hD hS ls hl
    rw [b_X4_spreadToFewerGuests_15_2] at h
    refine lv_iload_n hx hb dX4_spreadToFewerGuests_2 rfl (lv_at hl 1 rfl) ?_
    refine lv_aload_n hx hb dX4_spreadToFewerGuests_3 rfl (lv_at hl 0 rfl) ?_
    refine x_get C hP inlX4 15 xw_15 rfl 8 (by decide) mw4_12 rfl dX4_spreadToFewerGuests_4 ?_
    refine lv_icmp_ge (tgt := 57) hx hb dX4_spreadToFewerGuests_7 (by decide) (fun q1 => ?_) (fun q1 => ?_)
    · have h := ifp q1 h
      have z1 := so_inj h
      subst z1
      exact x_vret C hr hP hD hS dX4_spreadToFewerGuests_57
    · have h := ifn q1 h
      refine lv_iconst (v := 0) hx hb dX4_spreadToFewerGuests_10 (by decide) ?_
      refine lv_istore_n (lv' := [(2, .int (0 : Int32)), (0, .ref (ad 15)), (1, .int v1)]) hx hb dX4_spreadToFewerGuests_11 rfl hl (by decide) rfl (fun ls hl => ?_)
      exact w_X4_spreadToFewerGuests_15_12 C hr ih FU v1 (0 : Int32) σ h H locs hP hD hS ls (lv_sub hl [1, 2, 0] rfl)
set_option maxHeartbeats 4000000 in
set_option maxRecDepth 100000 in
theorem w_X4_spreadToFewerGuests_15_0 (C : Cx p s m args meth c D cy tT tF A cX4_spreadToFewerGuests 3 RX4) (hr : meth.sig.returnType = none) {σ' : ES} (σ : ES) (h : b_X4_spreadToFewerGuests_15_0 σ = some σ') (H : Heap) (locs : List Loc) (hP : va_P D vwCl (xw cy ad σ) H) (hD : va_D A (xw cy ad σ)) (hS : va_S A s.heap H locs) (ls : Array Slot) (hl : lv_has ls 3 [(0, .ref (ad 15))]) : W p l e { frames := 1, cells := 0, slots := 0, locals := 15 } s m args below meth c H locs 0 0 (MQ below (Qv D cy A (xw cy ad σ')) args s 0 0 A) (F0 m 0 ls []) := by
  obtain ⟨⟨hx, hb, hml, hown, hts⟩, hK, hT, hA, hlk⟩ := id C
  unfold b_X4_spreadToFewerGuests_15_0 at h
  refine lv_iconst (v := 0) hx hb dX4_spreadToFewerGuests_0 (by decide) ?_
  refine lv_istore_n (lv' := [(1, .int (0 : Int32)), (0, .ref (ad 15))]) hx hb dX4_spreadToFewerGuests_1 rfl hl (by decide) rfl (fun ls hl => ?_)
  exact w_X4_spreadToFewerGuests_15_2 C hr FU (0 : Int32) σ h H locs hP hD hS ls (lv_sub hl [1, 0] rfl)
theorem c_X4_spreadToFewerGuests_15 {l : Launch} {D : va_G} {cy : Nat → ClassId} {tT tF : Nat} {ad : Nat → Nat} {σ : ES} {σ' : ES} (h : e_X4_spreadToFewerGuests_15  σ = some σ') : CMv l yX4_spreadToFewerGuests (Cond.code yX4_spreadToFewerGuests cX4_spreadToFewerGuests 3 none :: wsL_law) { frames := 1, cells := 0, slots := 0, locals := 15 } D cy tT tF [.ref (ad 15)] (xw cy ad σ) (xw cy ad σ') := x_start (Qc := fun A => (Qv D cy A (xw cy ad σ'))) (by decide) (Nat.le_of_ble_eq_true rfl) (fun p e s m below meth c A ls C hr hP hD hS hl => w_X4_spreadToFewerGuests_15_0 C hr  σ h s.heap [] hP hD hS ls hl)
set_option maxHeartbeats 4000000 in
set_option maxRecDepth 100000 in
theorem w_J6_numberOfTrailingZeros_62 (C : Cx p s m args meth c D cy tT tF A cJ6_numberOfTrailingZeros_0f7a4 2 RJ6) (hr : meth.sig.returnType = some .int) {r : Int32} (v0 : Int32) (v1 : Int32) (h : b_J6_numberOfTrailingZeros_62 v0 v1 = some r) (H : Heap) (locs : List Loc) (hP : va_P D vwCl ws H) (hD : va_D A ws) (hS : va_S A s.heap H locs) (ls : Array Slot) (hl : lv_has ls 2 [(0, .int v0), (1, .int v1)]) : W p l e { frames := 0, cells := 0, slots := 0, locals := 0 } s m args below meth c H locs 0 0 (MQ below (Qi D cy A r ws) args s 0 0 A) (F0 m 62 ls []) := by
  obtain ⟨⟨hx, hb, hml, hown, hts⟩, hK, hT, hA, hlk⟩ := id C
  unfold b_J6_numberOfTrailingZeros_62 at h
  refine lv_iload_n hx hb dJ6_numberOfTrailingZeros_0f7a4_62 rfl (lv_at hl 0 rfl) ?_
  refine lv_iconst (v := 4) hx hb dJ6_numberOfTrailingZeros_0f7a4_63 (by decide) ?_
  refine lv_icmp_le (tgt := 74) hx hb dJ6_numberOfTrailingZeros_0f7a4_64 (by decide) (fun q1 => ?_) (fun q1 => ?_)
  · have h := ifp q1 h
    refine lv_iload_n hx hb dJ6_numberOfTrailingZeros_0f7a4_74 rfl (lv_at hl 1 rfl) ?_
    refine lv_iload_n hx hb dJ6_numberOfTrailingZeros_0f7a4_75 rfl (lv_at hl 0 rfl) ?_
    refine lv_iconst (v := 1) hx hb dJ6_numberOfTrailingZeros_0f7a4_76 (by decide) ?_
    refine lv_iushr hx hb dJ6_numberOfTrailingZeros_0f7a4_77 rfl ?_
    refine lv_iadd hx hb dJ6_numberOfTrailingZeros_0f7a4_78 ?_
    have z1 := so_inj h
    subst z1
    exact x_iret C hr hP hD hS dJ6_numberOfTrailingZeros_0f7a4_79
  · have h := ifn q1 h
    obtain ⟨x2, ex2, h⟩ := lt_some h
    refine lv_iinc (v := x2) (lv' := [(1, .int x2), (0, .int v0)]) hx hb dJ6_numberOfTrailingZeros_0f7a4_67 hl (k := 1) rfl (by rw [ex2]; rfl) (by decide) rfl (fun ls hl => ?_)
    refine lv_iload_n hx hb dJ6_numberOfTrailingZeros_0f7a4_70 rfl (lv_at hl 1 rfl) ?_
    refine lv_iconst (v := 2) hx hb dJ6_numberOfTrailingZeros_0f7a4_71 (by decide) ?_
    refine lv_iushr hx hb dJ6_numberOfTrailingZeros_0f7a4_72 rfl ?_
    obtain ⟨x3, ex3, h⟩ := lt_some h
    refine x_ti ex3 ?_
    refine lv_istore_n (lv' := [(0, .int x3), (1, .int x2)]) hx hb dJ6_numberOfTrailingZeros_0f7a4_73 rfl hl (by decide) rfl (fun ls hl => ?_)
    refine lv_iload_n hx hb dJ6_numberOfTrailingZeros_0f7a4_74 rfl (lv_at hl 1 rfl) ?_
    refine lv_iload_n hx hb dJ6_numberOfTrailingZeros_0f7a4_75 rfl (lv_at hl 0 rfl) ?_
    refine lv_iconst (v := 1) hx hb dJ6_numberOfTrailingZeros_0f7a4_76 (by decide) ?_
    refine lv_iushr hx hb dJ6_numberOfTrailingZeros_0f7a4_77 rfl ?_
    refine lv_iadd hx hb dJ6_numberOfTrailingZeros_0f7a4_78 ?_
    have z1 := so_inj h
    subst z1
    exact x_iret C hr hP hD hS dJ6_numberOfTrailingZeros_0f7a4_79
set_option maxHeartbeats 4000000 in
set_option maxRecDepth 100000 in
theorem w_J6_numberOfTrailingZeros_49 (C : Cx p s m args meth c D cy tT tF A cJ6_numberOfTrailingZeros_0f7a4 2 RJ6) (hr : meth.sig.returnType = some .int) {r : Int32} (v0 : Int32) (v1 : Int32) (h : b_J6_numberOfTrailingZeros_49 v0 v1 = some r) (H : Heap) (locs : List Loc) (hP : va_P D vwCl ws H) (hD : va_D A ws) (hS : va_S A s.heap H locs) (ls : Array Slot) (hl : lv_has ls 2 [(0, .int v0), (1, .int v1)]) : W p l e { frames := 0, cells := 0, slots := 0, locals := 0 } s m args below meth c H locs 0 0 (MQ below (Qi D cy A r ws) args s 0 0 A) (F0 m 49 ls []) := by
  obtain ⟨⟨hx, hb, hml, hown, hts⟩, hK, hT, hA, hlk⟩ := id C
  unfold b_J6_numberOfTrailingZeros_49 at h
  refine lv_iload_n hx hb dJ6_numberOfTrailingZeros_0f7a4_49 rfl (lv_at hl 0 rfl) ?_
  refine lv_bipush (v := 16) hx hb dJ6_numberOfTrailingZeros_0f7a4_50 (by decide) ?_
  refine lv_icmp_le (tgt := 62) hx hb dJ6_numberOfTrailingZeros_0f7a4_52 (by decide) (fun q1 => ?_) (fun q1 => ?_)
  · have h := ifp q1 h
    exact w_J6_numberOfTrailingZeros_62 C hr v0 v1 h H locs hP hD hS ls (lv_sub hl [0, 1] rfl)
  · have h := ifn q1 h
    obtain ⟨x2, ex2, h⟩ := lt_some h
    refine lv_iinc (v := x2) (lv' := [(1, .int x2), (0, .int v0)]) hx hb dJ6_numberOfTrailingZeros_0f7a4_55 hl (k := 1) rfl (by rw [ex2]; rfl) (by decide) rfl (fun ls hl => ?_)
    refine lv_iload_n hx hb dJ6_numberOfTrailingZeros_0f7a4_58 rfl (lv_at hl 1 rfl) ?_
    refine lv_iconst (v := 4) hx hb dJ6_numberOfTrailingZeros_0f7a4_59 (by decide) ?_
    refine lv_iushr hx hb dJ6_numberOfTrailingZeros_0f7a4_60 rfl ?_
    obtain ⟨x3, ex3, h⟩ := lt_some h
    refine x_ti ex3 ?_
    refine lv_istore_n (lv' := [(0, .int x3), (1, .int x2)]) hx hb dJ6_numberOfTrailingZeros_0f7a4_61 rfl hl (by decide) rfl (fun ls hl => ?_)
    exact w_J6_numberOfTrailingZeros_62 C hr x3 x2 h H locs hP hD hS ls (lv_sub hl [0, 1] rfl)
set_option maxHeartbeats 4000000 in
set_option maxRecDepth 100000 in
theorem w_J6_numberOfTrailingZeros_34 (C : Cx p s m args meth c D cy tT tF A cJ6_numberOfTrailingZeros_0f7a4 2 RJ6) (hr : meth.sig.returnType = some .int) {r : Int32} (v0 : Int32) (v1 : Int32) (h : b_J6_numberOfTrailingZeros_34 v0 v1 = some r) (H : Heap) (locs : List Loc) (hP : va_P D vwCl ws H) (hD : va_D A ws) (hS : va_S A s.heap H locs) (ls : Array Slot) (hl : lv_has ls 2 [(0, .int v0), (1, .int v1)]) : W p l e { frames := 0, cells := 0, slots := 0, locals := 0 } s m args below meth c H locs 0 0 (MQ below (Qi D cy A r ws) args s 0 0 A) (F0 m 34 ls []) := by
  obtain ⟨⟨hx, hb, hml, hown, hts⟩, hK, hT, hA, hlk⟩ := id C
  unfold b_J6_numberOfTrailingZeros_34 at h
  refine lv_iload_n hx hb dJ6_numberOfTrailingZeros_0f7a4_34 rfl (lv_at hl 0 rfl) ?_
  refine lv_sipush (v := 256) hx hb dJ6_numberOfTrailingZeros_0f7a4_35 (by decide) ?_
  refine lv_icmp_le (tgt := 49) hx hb dJ6_numberOfTrailingZeros_0f7a4_38 (by decide) (fun q1 => ?_) (fun q1 => ?_)
  · have h := ifp q1 h
    exact w_J6_numberOfTrailingZeros_49 C hr v0 v1 h H locs hP hD hS ls (lv_sub hl [0, 1] rfl)
  · have h := ifn q1 h
    obtain ⟨x2, ex2, h⟩ := lt_some h
    refine lv_iinc (v := x2) (lv' := [(1, .int x2), (0, .int v0)]) hx hb dJ6_numberOfTrailingZeros_0f7a4_41 hl (k := 1) rfl (by rw [ex2]; rfl) (by decide) rfl (fun ls hl => ?_)
    refine lv_iload_n hx hb dJ6_numberOfTrailingZeros_0f7a4_44 rfl (lv_at hl 1 rfl) ?_
    refine lv_bipush (v := 8) hx hb dJ6_numberOfTrailingZeros_0f7a4_45 (by decide) ?_
    refine lv_iushr hx hb dJ6_numberOfTrailingZeros_0f7a4_47 rfl ?_
    obtain ⟨x3, ex3, h⟩ := lt_some h
    refine x_ti ex3 ?_
    refine lv_istore_n (lv' := [(0, .int x3), (1, .int x2)]) hx hb dJ6_numberOfTrailingZeros_0f7a4_48 rfl hl (by decide) rfl (fun ls hl => ?_)
    exact w_J6_numberOfTrailingZeros_49 C hr x3 x2 h H locs hP hD hS ls (lv_sub hl [0, 1] rfl)
set_option maxHeartbeats 4000000 in
set_option maxRecDepth 100000 in
theorem w_J6_numberOfTrailingZeros_0 (C : Cx p s m args meth c D cy tT tF A cJ6_numberOfTrailingZeros_0f7a4 2 RJ6) (hr : meth.sig.returnType = some .int) {r : Int32} (a0 : Int32) (h : b_J6_numberOfTrailingZeros_0 a0 = some r) (H : Heap) (locs : List Loc) (hP : va_P D vwCl ws H) (hD : va_D A ws) (hS : va_S A s.heap H locs) (ls : Array Slot) (hl : lv_has ls 2 [(0, .int a0)]) : W p l e { frames := 0, cells := 0, slots := 0, locals := 0 } s m args below meth c H locs 0 0 (MQ below (Qi D cy A r ws) args s 0 0 A) (F0 m 0 ls []) := by
  obtain ⟨⟨hx, hb, hml, hown, hts⟩, hK, hT, hA, hlk⟩ := id C
  unfold b_J6_numberOfTrailingZeros_0 at h
  refine lv_iload_n hx hb dJ6_numberOfTrailingZeros_0f7a4_0 rfl (lv_at hl 0 rfl) ?_
  refine lv_iconst (v := -1) hx hb dJ6_numberOfTrailingZeros_0f7a4_1 (by decide) ?_
  refine lv_ixor hx hb dJ6_numberOfTrailingZeros_0f7a4_2 ?_
  refine lv_iload_n hx hb dJ6_numberOfTrailingZeros_0f7a4_3 rfl (lv_at hl 0 rfl) ?_
  refine lv_iconst (v := 1) hx hb dJ6_numberOfTrailingZeros_0f7a4_4 (by decide) ?_
  refine lv_isub hx hb dJ6_numberOfTrailingZeros_0f7a4_5 ?_
  refine lv_iand hx hb dJ6_numberOfTrailingZeros_0f7a4_6 ?_
  obtain ⟨x1, ex1, h⟩ := lt_some h
  refine x_ti ex1 ?_
  refine lv_istore_n (lv' := [(0, .int x1)]) hx hb dJ6_numberOfTrailingZeros_0f7a4_7 rfl hl (by decide) rfl (fun ls hl => ?_)
  refine lv_iload_n hx hb dJ6_numberOfTrailingZeros_0f7a4_8 rfl (lv_at hl 0 rfl) ?_
  refine lv_if_gt (tgt := 17) hx hb dJ6_numberOfTrailingZeros_0f7a4_9 (by decide) (fun q2 => ?_) (fun q2 => ?_)
  · have h := ifp q2 h
    refine lv_iconst (v := 1) hx hb dJ6_numberOfTrailingZeros_0f7a4_17 (by decide) ?_
    refine lv_istore_n (lv' := [(1, .int (1 : Int32)), (0, .int x1)]) hx hb dJ6_numberOfTrailingZeros_0f7a4_18 rfl hl (by decide) rfl (fun ls hl => ?_)
    refine lv_iload_n hx hb dJ6_numberOfTrailingZeros_0f7a4_19 rfl (lv_at hl 1 rfl) ?_
    refine lv_ldcw (v := 65536) hx hb hown (hts _ mw20_20) dJ6_numberOfTrailingZeros_0f7a4_20 ?_
    refine lv_icmp_le (tgt := 34) hx hb dJ6_numberOfTrailingZeros_0f7a4_23 (by decide) (fun q3 => ?_) (fun q3 => ?_)
    · have h := ifp q3 h
      exact w_J6_numberOfTrailingZeros_34 C hr x1 (1 : Int32) h H locs hP hD hS ls (lv_sub hl [1, 0] rfl)
    · have h := ifn q3 h
      obtain ⟨x4, ex4, h⟩ := lt_some h
      refine lv_iinc (v := x4) (lv' := [(1, .int x4), (0, .int x1)]) hx hb dJ6_numberOfTrailingZeros_0f7a4_26 hl (k := 0) rfl (by rw [ex4]; rfl) (by decide) rfl (fun ls hl => ?_)
      refine lv_iload_n hx hb dJ6_numberOfTrailingZeros_0f7a4_29 rfl (lv_at hl 1 rfl) ?_
      refine lv_bipush (v := 16) hx hb dJ6_numberOfTrailingZeros_0f7a4_30 (by decide) ?_
      refine lv_iushr hx hb dJ6_numberOfTrailingZeros_0f7a4_32 rfl ?_
      obtain ⟨x5, ex5, h⟩ := lt_some h
      refine x_ti ex5 ?_
      refine lv_istore_n (lv' := [(0, .int x5), (1, .int x4)]) hx hb dJ6_numberOfTrailingZeros_0f7a4_33 rfl hl (by decide) rfl (fun ls hl => ?_)
      exact w_J6_numberOfTrailingZeros_34 C hr x5 x4 h H locs hP hD hS ls (lv_sub hl [0, 1] rfl)
  · have h := ifn q2 h
    refine lv_iload_n hx hb dJ6_numberOfTrailingZeros_0f7a4_12 rfl (lv_at hl 0 rfl) ?_
    refine lv_bipush (v := 32) hx hb dJ6_numberOfTrailingZeros_0f7a4_13 (by decide) ?_
    refine lv_iand hx hb dJ6_numberOfTrailingZeros_0f7a4_15 ?_
    have z1 := so_inj h
    subst z1
    exact x_iret C hr hP hD hS dJ6_numberOfTrailingZeros_0f7a4_16
theorem c_J6_numberOfTrailingZeros {l : Launch} {D : va_G} {cy : Nat → ClassId} {tT tF : Nat} {ws : va_W} {a0 : Int32} {r : Int32} (h : e_J6_numberOfTrailingZeros a0 = some r) : CMi l yJ6_numberOfTrailingZeros_0f7a4 (Cond.code yJ6_numberOfTrailingZeros_0f7a4 cJ6_numberOfTrailingZeros_0f7a4 2 (some .int) :: wsL_law) { frames := 0, cells := 0, slots := 0, locals := 0 } D cy tT tF [.int a0] ws r ws := x_start (Qc := fun A => (Qi D cy A r ws)) (by decide) (Nat.le_of_ble_eq_true rfl) (fun p e s m below meth c A ls C hr hP hD hS hl => w_J6_numberOfTrailingZeros_0 C hr a0 h s.heap [] hP hD hS ls hl)
set_option maxHeartbeats 4000000 in
set_option maxRecDepth 100000 in
theorem w_X4_layCandle_15_30_3_159 (C : Cx p s m args meth c D cy tT tF A cX4_layCandle 10 RX4) (hr : meth.sig.returnType = some .long) {r : Int64} {σ' : ES} : ∀ (n : Nat) (v3 : Int32) (v5 : Int32) (v6 : Int64) (v8 : Int32) (σ : ES), b_X4_layCandle_15_30_3_159 n v3 v5 v6 v8 σ = some (r, σ') → ∀ (H : Heap) (locs : List Loc) (hP : va_P D vwCl (xw cy ad σ) H) (hD : va_D A (xw cy ad σ)) (hS : va_S A s.heap H locs) (ls : Array Slot) (hl : lv_has ls 10 [(0, .ref (ad 15)), (3, .int v3), (5, .int v5), (6, .long v6), (8, .int v8)]), W p l e { frames := 2, cells := 0, slots := 0, locals := 45 } s m args below meth c H locs 0 0 (MQ below (Ql D cy A r (xw cy ad σ')) args s 0 0 A) (F0 m 159 ls []) := by
  obtain ⟨⟨hx, hb, hml, hown, hts⟩, hK, hT, hA, hlk⟩ := id C
  intro n
  induction n with
  | zero =>
    intro v3 v5 v6 v8 σ h
    exact no_some h
  | succ n ih =>
    intro v3 v5 v6 v8 σ h H locs hP hD hS ls hl
    rw [b_X4_layCandle_15_30_3_159] at h
    refine lv_iload hx hb dX4_layCandle_159 (lv_at hl 4 rfl) ?_
    refine lv_bipush (v := 6) hx hb dX4_layCandle_161 (by decide) ?_
    refine lv_icmp_gt (tgt := 191) hx hb dX4_layCandle_163 (by decide) (fun q1 => ?_) (fun q1 => ?_)
    · have h := ifp q1 h
      refine lv_iload hx hb dX4_layCandle_191 (lv_at hl 2 rfl) ?_
      refine lv_if_eq (tgt := 201) hx hb dX4_layCandle_193 (by decide) (fun q2 => ?_) (fun q2 => ?_)
      · have h := ifp q2 h
        refine lv_lconst (v := 0) hx hb dX4_layCandle_201 (by decide) ?_
        obtain ⟨z1, z2⟩ := pr_inj h
        subst z1
        subst z2
        exact x_lret C hr hP hD hS dX4_layCandle_202
      · have h := ifn q2 h
        refine lv_lload hx hb dX4_layCandle_196 (lv_at hl 3 rfl) ?_
        refine lv_goto (tgt := 202) hx hb dX4_layCandle_198 (by decide) ?_
        obtain ⟨z1, z2⟩ := pr_inj h
        subst z1
        subst z2
        exact x_lret C hr hP hD hS dX4_layCandle_202
    · have h := ifn q1 h
      refine lv_aload_n hx hb dX4_layCandle_166 rfl (lv_at hl 0 rfl) ?_
      refine x_get C hP inlX4 15 xw_15 rfl 0 (by decide) mw4_4 rfl dX4_layCandle_167 ?_
      refine lv_iload_n hx hb dX4_layCandle_170 rfl (lv_at hl 1 rfl) ?_
      refine lv_bipush (v := 7) hx hb dX4_layCandle_171 (by decide) ?_
      refine lv_imul hx hb dX4_layCandle_173 ?_
      refine lv_iload hx hb dX4_layCandle_174 (lv_at hl 4 rfl) ?_
      refine lv_iadd hx hb dX4_layCandle_176 ?_
      refine lv_lload hx hb dX4_layCandle_177 (lv_at hl 3 rfl) ?_
      refine lv_iload hx hb dX4_layCandle_179 (lv_at hl 4 rfl) ?_
      refine lv_iconst (v := 1) hx hb dX4_layCandle_181 (by decide) ?_
      refine lv_isub hx hb dX4_layCandle_182 ?_
      refine lv_lshl hx hb dX4_layCandle_183 rfl ?_
      obtain ⟨g3, σ4, eσ4, h⟩ := wrL_some h
      refine x_lst C hP hD hS 16 xw_16 g3 (xa_16 eσ4) dX4_layCandle_184 (fun H locs hP hD hS => ?_)
      obtain ⟨x5, ex5, h⟩ := lt_some h
      refine lv_iinc (v := x5) (lv' := [(8, .int x5), (0, .ref (ad 15)), (3, .int v3), (5, .int v5), (6, .long v6)]) hx hb dX4_layCandle_185 hl (k := 4) rfl (by rw [ex5]; rfl) (by decide) rfl (fun ls hl => ?_)
      refine lv_goto (tgt := 159) hx hb dX4_layCandle_188 (by decide) ?_
      exact ih v3 v5 v6 x5 σ4 h H locs hP hD hS ls (lv_sub hl [1, 2, 3, 4, 0] rfl)
set_option maxHeartbeats 4000000 in
set_option maxRecDepth 100000 in
theorem w_X4_layCandle_15_30_3_145 (C : Cx p s m args meth c D cy tT tF A cX4_layCandle 10 RX4) (hr : meth.sig.returnType = some .long) {r : Int64} {σ' : ES} (v3 : Int32) (v5 : Int32) (v6 : Int64) (t1 : Int32) (t2 : Int32) (σ : ES) (h : b_X4_layCandle_15_30_3_145 v3 v5 v6 t1 t2 σ = some (r, σ')) (H : Heap) (locs : List Loc) (hP : va_P D vwCl (xw cy ad σ) H) (hD : va_D A (xw cy ad σ)) (hS : va_S A s.heap H locs) (ls : Array Slot) (hl : lv_has ls 10 [(0, .ref (ad 15)), (3, .int v3), (5, .int v5), (6, .long v6)]) : W p l e { frames := 2, cells := 0, slots := 0, locals := 45 } s m args below meth c H locs 0 0 (MQ below (Ql D cy A r (xw cy ad σ')) args s 0 0 A) (F0 m 145 ls [.int t2, .int t1, .ref (ad 17)]) := by
  obtain ⟨⟨hx, hb, hml, hown, hts⟩, hK, hT, hA, hlk⟩ := id C
  unfold b_X4_layCandle_15_30_3_145 at h
  obtain ⟨g1, σ2, eσ2, h⟩ := wr_some h
  refine x_ist C hP hD hS 17 xw_17 g1 (xa_17 eσ2) dX4_layCandle_145 (fun H locs hP hD hS => ?_)
  refine lv_aload_n hx hb dX4_layCandle_146 rfl (lv_at hl 0 rfl) ?_
  refine x_get C hP inlX4 15 xw_15 rfl 0 (by decide) mw4_4 rfl dX4_layCandle_147 ?_
  refine lv_iload_n hx hb dX4_layCandle_150 rfl (lv_at hl 1 rfl) ?_
  refine lv_bipush (v := 7) hx hb dX4_layCandle_151 (by decide) ?_
  refine lv_imul hx hb dX4_layCandle_153 ?_
  refine lv_lconst (v := 0) hx hb dX4_layCandle_154 (by decide) ?_
  obtain ⟨g3, σ4, eσ4, h⟩ := wrL_some h
  refine x_lst C hP hD hS 16 xw_16 g3 (xa_16 eσ4) dX4_layCandle_155 (fun H locs hP hD hS => ?_)
  refine lv_iconst (v := 1) hx hb dX4_layCandle_156 (by decide) ?_
  refine lv_istore (lv' := [(8, .int (1 : Int32)), (0, .ref (ad 15)), (3, .int v3), (5, .int v5), (6, .long v6)]) hx hb dX4_layCandle_157 hl (by decide) rfl (fun ls hl => ?_)
  exact w_X4_layCandle_15_30_3_159 C hr FU v3 v5 v6 (1 : Int32) σ4 h H locs hP hD hS ls (lv_sub hl [1, 2, 3, 4, 0] rfl)
set_option maxHeartbeats 4000000 in
set_option maxRecDepth 100000 in
theorem w_X4_layCandle_15_30_3_117 (C : Cx p s m args meth c D cy tT tF A cX4_layCandle 10 RX4) (hr : meth.sig.returnType = some .long) {r : Int64} {σ' : ES} (v3 : Int32) (v4 : Int32) (v5 : Int32) (v6 : Int64) (t1 : Int32) (t2 : Int32) (σ : ES) (h : b_X4_layCandle_15_30_3_117 v3 v4 v5 v6 t1 t2 σ = some (r, σ')) (H : Heap) (locs : List Loc) (hP : va_P D vwCl (xw cy ad σ) H) (hD : va_D A (xw cy ad σ)) (hS : va_S A s.heap H locs) (ls : Array Slot) (hl : lv_has ls 10 [(0, .ref (ad 15)), (1, .ref (ad 30)), (2, .ref (ad 3)), (3, .int v3), (4, .int v4), (5, .int v5), (6, .long v6)]) : W p l e { frames := 2, cells := 0, slots := 0, locals := 45 } s m args below meth c H locs 0 0 (MQ below (Ql D cy A r (xw cy ad σ')) args s 0 0 A) (F0 m 117 ls [.int t2, .int t1, .ref (ad 18)]) := by
  obtain ⟨⟨hx, hb, hml, hown, hts⟩, hK, hT, hA, hlk⟩ := id C
  unfold b_X4_layCandle_15_30_3_117 at h
  obtain ⟨g1, σ2, eσ2, h⟩ := wr_some h
  refine x_ist C hP hD hS 18 xw_18 g1 (xa_18 eσ2) dX4_layCandle_117 (fun H locs hP hD hS => ?_)
  refine lv_aload_n hx hb dX4_layCandle_118 rfl (lv_at hl 0 rfl) ?_
  refine x_get C hP inlX4 15 xw_15 rfl 1 (by decide) mw4_5 rfl dX4_layCandle_119 ?_
  refine lv_iload_n hx hb dX4_layCandle_122 rfl (lv_at hl 3 rfl) ?_
  refine lv_iload hx hb dX4_layCandle_123 (lv_at hl 4 rfl) ?_
  refine lv_if_eq (tgt := 144) hx hb dX4_layCandle_125 (by decide) (fun q3 => ?_) (fun q3 => ?_)
  · have h := ifp q3 h
    refine lv_iconst (v := 0) hx hb dX4_layCandle_144 (by decide) ?_
    exact w_X4_layCandle_15_30_3_145 C hr v3 v5 v6 v3 (0 : Int32) σ2 h H locs hP hD hS ls (lv_sub hl [0, 3, 5, 6] rfl)
  · have h := ifn q3 h
    refine lv_aload_n hx hb dX4_layCandle_128 rfl (lv_at hl 1 rfl) ?_
    refine x_get C hP inlX3 30 xw_30 rfl 3 (by decide) mw20_13 rfl dX4_layCandle_129 ?_
    refine lv_iload_n hx hb dX4_layCandle_132 rfl (lv_at hl 3 rfl) ?_
    obtain ⟨g4, x5, ex5, h⟩ := rd_some h
    refine x_ild C hP 34 xw_34 g4 ex5 dX4_layCandle_133 ?_
    refine lv_aload_n hx hb dX4_layCandle_134 rfl (lv_at hl 2 rfl) ?_
    refine x_get C hP inlX2 3 xw_3 rfl 1 (by decide) mw20_14 rfl dX4_layCandle_135 ?_
    refine lv_iload_n hx hb dX4_layCandle_138 rfl (lv_at hl 3 rfl) ?_
    obtain ⟨g6, x7, ex7, h⟩ := rd_some h
    refine x_ild C hP 5 xw_5 g6 ex7 dX4_layCandle_139 ?_
    refine lv_imul hx hb dX4_layCandle_140 ?_
    refine lv_goto (tgt := 145) hx hb dX4_layCandle_141 (by decide) ?_
    exact w_X4_layCandle_15_30_3_145 C hr v3 v5 v6 v3 (x5 * x7) σ2 h H locs hP hD hS ls (lv_sub hl [0, 3, 5, 6] rfl)
set_option maxHeartbeats 4000000 in
set_option maxRecDepth 100000 in
theorem w_X4_layCandle_15_30_3_55 (C : Cx p s m args meth c D cy tT tF A cX4_layCandle 10 RX4) (hr : meth.sig.returnType = some .long) {r : Int64} {σ' : ES} : ∀ (n : Nat) (v3 : Int32) (v4 : Int32) (v5 : Int32) (v6 : Int64) (v8 : Int32) (σ : ES), b_X4_layCandle_15_30_3_55 n v3 v4 v5 v6 v8 σ = some (r, σ') → ∀ (H : Heap) (locs : List Loc) (hP : va_P D vwCl (xw cy ad σ) H) (hD : va_D A (xw cy ad σ)) (hS : va_S A s.heap H locs) (ls : Array Slot) (hl : lv_has ls 10 [(0, .ref (ad 15)), (1, .ref (ad 30)), (2, .ref (ad 3)), (3, .int v3), (4, .int v4), (5, .int v5), (6, .long v6), (8, .int v8)]), W p l e { frames := 2, cells := 0, slots := 0, locals := 45 } s m args below meth c H locs 0 0 (MQ below (Ql D cy A r (xw cy ad σ')) args s 0 0 A) (F0 m 55 ls []) := by
  obtain ⟨⟨hx, hb, hml, hown, hts⟩, hK, hT, hA, hlk⟩ := id C
  intro n
  induction n with
  | zero =>
    intro v3 v4 v5 v6 v8 σ h
    exact no_some h
  | succ n ih =>
    intro v3 v4 v5 v6 v8 σ h H locs hP hD hS ls hl
    rw [b_X4_layCandle_15_30_3_55] at h
    refine lv_iload hx hb dX4_layCandle_55 (lv_at hl 7 rfl) ?_
    refine lv_bipush (v := 6) hx hb dX4_layCandle_57 (by decide) ?_
    refine lv_icmp_ge (tgt := 101) hx hb dX4_layCandle_59 (by decide) (fun q1 => ?_) (fun q1 => ?_)
    · have h := ifp q1 h
      refine lv_aload_n hx hb dX4_layCandle_101 rfl (lv_at hl 0 rfl) ?_
      refine x_get C hP inlX4 15 xw_15 rfl 2 (by decide) mw4_6 rfl dX4_layCandle_102 ?_
      refine lv_iload_n hx hb dX4_layCandle_105 rfl (lv_at hl 3 rfl) ?_
      refine lv_iload hx hb dX4_layCandle_106 (lv_at hl 4 rfl) ?_
      refine lv_if_eq (tgt := 116) hx hb dX4_layCandle_108 (by decide) (fun q2 => ?_) (fun q2 => ?_)
      · have h := ifp q2 h
        refine lv_iconst (v := 0) hx hb dX4_layCandle_116 (by decide) ?_
        exact w_X4_layCandle_15_30_3_117 C hr v3 v4 v5 v6 v3 (0 : Int32) σ h H locs hP hD hS ls (lv_sub hl [0, 1, 2, 3, 4, 5, 6] rfl)
      · have h := ifn q2 h
        refine lv_bipush (v := 6) hx hb dX4_layCandle_111 (by decide) ?_
        refine lv_goto (tgt := 117) hx hb dX4_layCandle_113 (by decide) ?_
        exact w_X4_layCandle_15_30_3_117 C hr v3 v4 v5 v6 v3 (6 : Int32) σ h H locs hP hD hS ls (lv_sub hl [0, 1, 2, 3, 4, 5, 6] rfl)
    · have h := ifn q1 h
      refine lv_aload_n hx hb dX4_layCandle_62 rfl (lv_at hl 2 rfl) ?_
      refine lv_aload_n hx hb dX4_layCandle_63 rfl (lv_at hl 1 rfl) ?_
      refine lv_iload_n hx hb dX4_layCandle_64 rfl (lv_at hl 3 rfl) ?_
      refine lv_iload hx hb dX4_layCandle_65 (lv_at hl 7 rfl) ?_
      obtain ⟨r4, g3, h⟩ := cl_some h
      refine x_callVi (rest := []) C hP hD hS (c_X2_giftBit_3_30 g3) (cwV 3 hts (gV mw20_16 mw17_22 mw17_23 mw1_19 mw18_0) rfl rfl rfl hdV_X2_giftBit ⟨Nat.le_of_ble_eq_true rfl, Nat.le_of_ble_eq_true rfl⟩) xw_3 rfl rfl hl.1 rfl (Nat.le_of_ble_eq_true rfl) dX4_layCandle_67 ⟨Nat.zero_le _, Nat.zero_le _⟩ (fun H locs hP hD hS => ?_)
      refine lv_istore (lv' := [(9, .int r4), (0, .ref (ad 15)), (1, .ref (ad 30)), (2, .ref (ad 3)), (3, .int v3), (4, .int v4), (5, .int v5), (6, .long v6), (8, .int v8)]) hx hb dX4_layCandle_70 hl (by decide) rfl (fun ls hl => ?_)
      refine lv_iload hx hb dX4_layCandle_72 (lv_at hl 0 rfl) ?_
      refine lv_if_eq (tgt := 95) hx hb dX4_layCandle_74 (by decide) (fun q5 => ?_) (fun q5 => ?_)
      · have h := ifp q5 h
        obtain ⟨x6, ex6, h⟩ := lt_some h
        refine lv_iinc (v := x6) (lv' := [(8, .int x6), (9, .int r4), (0, .ref (ad 15)), (1, .ref (ad 30)), (2, .ref (ad 3)), (3, .int v3), (4, .int v4), (5, .int v5), (6, .long v6)]) hx hb dX4_layCandle_95 hl (k := 8) rfl (by rw [ex6]; rfl) (by decide) rfl (fun ls hl => ?_)
        refine lv_goto (tgt := 55) hx hb dX4_layCandle_98 (by decide) ?_
        exact ih v3 v4 v5 v6 x6 σ h H locs hP hD hS ls (lv_sub hl [2, 3, 4, 5, 6, 7, 8, 0] rfl)
      · have h := ifn q5 h
        refine lv_lload hx hb dX4_layCandle_77 (lv_at hl 7 rfl) ?_
        refine lv_lconst (v := 1) hx hb dX4_layCandle_79 (by decide) ?_
        refine lv_bipush (v := 16) hx hb dX4_layCandle_80 (by decide) ?_
        refine lv_iload hx hb dX4_layCandle_82 (lv_at hl 0 rfl) ?_
        obtain ⟨r8, g7, h⟩ := cl_some h
        refine x_callSi (rest := [.int (16 : Int32), .long (1 : Int64), .long v6]) C hP hD hS (c_J6_numberOfTrailingZeros g7) (va_cwS 1 hts (gS mw20_17 mw20_18 mw15_21 mw20_19) rfl rfl rfl hdS_J6_numberOfTrailingZeros ⟨Nat.le_of_ble_eq_true rfl, Nat.le_of_ble_eq_true rfl⟩) rfl hl.1 rfl (Nat.le_of_ble_eq_true rfl) dX4_layCandle_84 ⟨Nat.zero_le _, Nat.zero_le _⟩ (fun H locs hP hD hS => ?_)
        refine lv_imul hx hb dX4_layCandle_87 ?_
        refine lv_iload hx hb dX4_layCandle_88 (lv_at hl 8 rfl) ?_
        refine lv_iadd hx hb dX4_layCandle_90 ?_
        refine lv_lshl hx hb dX4_layCandle_91 rfl ?_
        refine lv_lor hx hb dX4_layCandle_92 ?_
        obtain ⟨x9, ex9, h⟩ := lt_some h
        refine x_tl ex9 ?_
        refine lv_lstore (lv' := [(6, .long x9), (9, .int r4), (0, .ref (ad 15)), (1, .ref (ad 30)), (2, .ref (ad 3)), (3, .int v3), (4, .int v4), (5, .int v5), (8, .int v8)]) hx hb dX4_layCandle_93 hl (by decide) rfl (fun ls hl => ?_)
        obtain ⟨x10, ex10, h⟩ := lt_some h
        refine lv_iinc (v := x10) (lv' := [(8, .int x10), (6, .long x9), (9, .int r4), (0, .ref (ad 15)), (1, .ref (ad 30)), (2, .ref (ad 3)), (3, .int v3), (4, .int v4), (5, .int v5)]) hx hb dX4_layCandle_95 hl (k := 8) rfl (by rw [ex10]; rfl) (by decide) rfl (fun ls hl => ?_)
        refine lv_goto (tgt := 55) hx hb dX4_layCandle_98 (by decide) ?_
        exact ih v3 v4 v5 x9 x10 σ h H locs hP hD hS ls (lv_sub hl [3, 4, 5, 6, 7, 8, 1, 0] rfl)
set_option maxHeartbeats 4000000 in
set_option maxRecDepth 100000 in
theorem w_X4_layCandle_15_30_3_22 (C : Cx p s m args meth c D cy tT tF A cX4_layCandle 10 RX4) (hr : meth.sig.returnType = some .long) {r : Int64} {σ' : ES} (v3 : Int32) (t0 : Int32) (σ : ES) (h : b_X4_layCandle_15_30_3_22 v3 t0 σ = some (r, σ')) (H : Heap) (locs : List Loc) (hP : va_P D vwCl (xw cy ad σ) H) (hD : va_D A (xw cy ad σ)) (hS : va_S A s.heap H locs) (ls : Array Slot) (hl : lv_has ls 10 [(0, .ref (ad 15)), (1, .ref (ad 30)), (2, .ref (ad 3)), (3, .int v3)]) : W p l e { frames := 2, cells := 0, slots := 0, locals := 45 } s m args below meth c H locs 0 0 (MQ below (Ql D cy A r (xw cy ad σ')) args s 0 0 A) (F0 m 22 ls [.int t0]) := by
  obtain ⟨⟨hx, hb, hml, hown, hts⟩, hK, hT, hA, hlk⟩ := id C
  unfold b_X4_layCandle_15_30_3_22 at h
  refine lv_istore (lv' := [(4, .int t0), (0, .ref (ad 15)), (1, .ref (ad 30)), (2, .ref (ad 3)), (3, .int v3)]) hx hb dX4_layCandle_22 hl (by decide) rfl (fun ls hl => ?_)
  refine lv_aload_n hx hb dX4_layCandle_24 rfl (lv_at hl 2 rfl) ?_
  refine lv_iload_n hx hb dX4_layCandle_25 rfl (lv_at hl 4 rfl) ?_
  obtain ⟨r2, g1, h⟩ := cl_some h
  refine x_callVi (rest := []) C hP hD hS (c_X3_hasCandle_30 g1) (cwV 1 hts (gV mw20_15 mw13_4 mw13_5 mw2_20 mw13_6) rfl rfl rfl hdV_X3_hasCandle ⟨Nat.le_of_ble_eq_true rfl, Nat.le_of_ble_eq_true rfl⟩) xw_30 rfl rfl hl.1 rfl (Nat.le_of_ble_eq_true rfl) dX4_layCandle_26 ⟨Nat.zero_le _, Nat.zero_le _⟩ (fun H locs hP hD hS => ?_)
  refine lv_if_eq (tgt := 46) hx hb dX4_layCandle_29 (by decide) (fun q3 => ?_) (fun q3 => ?_)
  · have h := ifp q3 h
    refine lv_iconst (v := 0) hx hb dX4_layCandle_46 (by decide) ?_
    refine lv_istore (lv' := [(5, .int (0 : Int32)), (4, .int t0), (0, .ref (ad 15)), (1, .ref (ad 30)), (2, .ref (ad 3)), (3, .int v3)]) hx hb dX4_layCandle_47 hl (by decide) rfl (fun ls hl => ?_)
    refine lv_lconst (v := 0) hx hb dX4_layCandle_49 (by decide) ?_
    refine lv_lstore (lv' := [(6, .long (0 : Int64)), (5, .int (0 : Int32)), (4, .int t0), (0, .ref (ad 15)), (1, .ref (ad 30)), (2, .ref (ad 3)), (3, .int v3)]) hx hb dX4_layCandle_50 hl (by decide) rfl (fun ls hl => ?_)
    refine lv_iconst (v := 0) hx hb dX4_layCandle_52 (by decide) ?_
    refine lv_istore (lv' := [(8, .int (0 : Int32)), (6, .long (0 : Int64)), (5, .int (0 : Int32)), (4, .int t0), (0, .ref (ad 15)), (1, .ref (ad 30)), (2, .ref (ad 3)), (3, .int v3)]) hx hb dX4_layCandle_53 hl (by decide) rfl (fun ls hl => ?_)
    exact w_X4_layCandle_15_30_3_55 C hr FU v3 t0 (0 : Int32) (0 : Int64) (0 : Int32) σ h H locs hP hD hS ls (lv_sub hl [4, 5, 6, 7, 3, 2, 1, 0] rfl)
  · have h := ifn q3 h
    refine lv_aload_n hx hb dX4_layCandle_32 rfl (lv_at hl 3 rfl) ?_
    refine x_get C hP inlX2 3 xw_3 rfl 2 (by decide) mw20_12 rfl dX4_layCandle_33 ?_
    refine lv_iload_n hx hb dX4_layCandle_36 rfl (lv_at hl 4 rfl) ?_
    obtain ⟨g4, x5, ex5, h⟩ := rd_some h
    refine x_ild C hP 6 xw_6 g4 ex5 dX4_layCandle_37 ?_
    refine lv_iconst (v := 1) hx hb dX4_layCandle_38 (by decide) ?_
    refine lv_icmp_ne (tgt := 46) hx hb dX4_layCandle_39 (by decide) (fun q6 => ?_) (fun q6 => ?_)
    · have h := ifn q6 h
      refine lv_iconst (v := 0) hx hb dX4_layCandle_46 (by decide) ?_
      refine lv_istore (lv' := [(5, .int (0 : Int32)), (4, .int t0), (0, .ref (ad 15)), (1, .ref (ad 30)), (2, .ref (ad 3)), (3, .int v3)]) hx hb dX4_layCandle_47 hl (by decide) rfl (fun ls hl => ?_)
      refine lv_lconst (v := 0) hx hb dX4_layCandle_49 (by decide) ?_
      refine lv_lstore (lv' := [(6, .long (0 : Int64)), (5, .int (0 : Int32)), (4, .int t0), (0, .ref (ad 15)), (1, .ref (ad 30)), (2, .ref (ad 3)), (3, .int v3)]) hx hb dX4_layCandle_50 hl (by decide) rfl (fun ls hl => ?_)
      refine lv_iconst (v := 0) hx hb dX4_layCandle_52 (by decide) ?_
      refine lv_istore (lv' := [(8, .int (0 : Int32)), (6, .long (0 : Int64)), (5, .int (0 : Int32)), (4, .int t0), (0, .ref (ad 15)), (1, .ref (ad 30)), (2, .ref (ad 3)), (3, .int v3)]) hx hb dX4_layCandle_53 hl (by decide) rfl (fun ls hl => ?_)
      exact w_X4_layCandle_15_30_3_55 C hr FU v3 t0 (0 : Int32) (0 : Int64) (0 : Int32) σ h H locs hP hD hS ls (lv_sub hl [4, 5, 6, 7, 3, 2, 1, 0] rfl)
    · have h := ifp q6 h
      refine lv_iconst (v := 1) hx hb dX4_layCandle_42 (by decide) ?_
      refine lv_goto (tgt := 47) hx hb dX4_layCandle_43 (by decide) ?_
      refine lv_istore (lv' := [(5, .int (1 : Int32)), (4, .int t0), (0, .ref (ad 15)), (1, .ref (ad 30)), (2, .ref (ad 3)), (3, .int v3)]) hx hb dX4_layCandle_47 hl (by decide) rfl (fun ls hl => ?_)
      refine lv_lconst (v := 0) hx hb dX4_layCandle_49 (by decide) ?_
      refine lv_lstore (lv' := [(6, .long (0 : Int64)), (5, .int (1 : Int32)), (4, .int t0), (0, .ref (ad 15)), (1, .ref (ad 30)), (2, .ref (ad 3)), (3, .int v3)]) hx hb dX4_layCandle_50 hl (by decide) rfl (fun ls hl => ?_)
      refine lv_iconst (v := 0) hx hb dX4_layCandle_52 (by decide) ?_
      refine lv_istore (lv' := [(8, .int (0 : Int32)), (6, .long (0 : Int64)), (5, .int (1 : Int32)), (4, .int t0), (0, .ref (ad 15)), (1, .ref (ad 30)), (2, .ref (ad 3)), (3, .int v3)]) hx hb dX4_layCandle_53 hl (by decide) rfl (fun ls hl => ?_)
      exact w_X4_layCandle_15_30_3_55 C hr FU v3 t0 (1 : Int32) (0 : Int64) (0 : Int32) σ h H locs hP hD hS ls (lv_sub hl [4, 5, 6, 7, 3, 2, 1, 0] rfl)
set_option maxHeartbeats 4000000 in
set_option maxRecDepth 100000 in
theorem w_X4_layCandle_15_30_3_0 (C : Cx p s m args meth c D cy tT tF A cX4_layCandle 10 RX4) (hr : meth.sig.returnType = some .long) {r : Int64} {σ' : ES} (a3 : Int32) (σ : ES) (h : b_X4_layCandle_15_30_3_0 a3 σ = some (r, σ')) (H : Heap) (locs : List Loc) (hP : va_P D vwCl (xw cy ad σ) H) (hD : va_D A (xw cy ad σ)) (hS : va_S A s.heap H locs) (ls : Array Slot) (hl : lv_has ls 10 [(0, .ref (ad 15)), (1, .ref (ad 30)), (2, .ref (ad 3)), (3, .int a3)]) : W p l e { frames := 2, cells := 0, slots := 0, locals := 45 } s m args below meth c H locs 0 0 (MQ below (Ql D cy A r (xw cy ad σ')) args s 0 0 A) (F0 m 0 ls []) := by
  obtain ⟨⟨hx, hb, hml, hown, hts⟩, hK, hT, hA, hlk⟩ := id C
  unfold b_X4_layCandle_15_30_3_0 at h
  refine lv_aload_n hx hb dX4_layCandle_0 rfl (lv_at hl 1 rfl) ?_
  refine lv_iload_n hx hb dX4_layCandle_1 rfl (lv_at hl 3 rfl) ?_
  obtain ⟨r2, g1, h⟩ := cl_some h
  refine x_callVi (rest := []) C hP hD hS (c_X3_hasCandle_30 g1) (cwV 1 hts (gV mw20_15 mw13_4 mw13_5 mw2_20 mw13_6) rfl rfl rfl hdV_X3_hasCandle ⟨Nat.le_of_ble_eq_true rfl, Nat.le_of_ble_eq_true rfl⟩) xw_30 rfl rfl hl.1 rfl (Nat.le_of_ble_eq_true rfl) dX4_layCandle_2 ⟨Nat.zero_le _, Nat.zero_le _⟩ (fun H locs hP hD hS => ?_)
  refine lv_if_eq (tgt := 21) hx hb dX4_layCandle_5 (by decide) (fun q3 => ?_) (fun q3 => ?_)
  · have h := ifp q3 h
    refine lv_iconst (v := 0) hx hb dX4_layCandle_21 (by decide) ?_
    exact w_X4_layCandle_15_30_3_22 C hr a3 (0 : Int32) σ h H locs hP hD hS ls (lv_sub hl [0, 1, 2, 3] rfl)
  · have h := ifn q3 h
    refine lv_aload_n hx hb dX4_layCandle_8 rfl (lv_at hl 2 rfl) ?_
    refine x_get C hP inlX2 3 xw_3 rfl 2 (by decide) mw20_12 rfl dX4_layCandle_9 ?_
    refine lv_iload_n hx hb dX4_layCandle_12 rfl (lv_at hl 3 rfl) ?_
    obtain ⟨g4, x5, ex5, h⟩ := rd_some h
    refine x_ild C hP 6 xw_6 g4 ex5 dX4_layCandle_13 ?_
    refine lv_if_ne (tgt := 21) hx hb dX4_layCandle_14 (by decide) (fun q6 => ?_) (fun q6 => ?_)
    · have h := ifn q6 h
      refine lv_iconst (v := 0) hx hb dX4_layCandle_21 (by decide) ?_
      exact w_X4_layCandle_15_30_3_22 C hr a3 (0 : Int32) σ h H locs hP hD hS ls (lv_sub hl [0, 1, 2, 3] rfl)
    · have h := ifp q6 h
      refine lv_iconst (v := 1) hx hb dX4_layCandle_17 (by decide) ?_
      refine lv_goto (tgt := 22) hx hb dX4_layCandle_18 (by decide) ?_
      exact w_X4_layCandle_15_30_3_22 C hr a3 (1 : Int32) σ h H locs hP hD hS ls (lv_sub hl [0, 1, 2, 3] rfl)
theorem c_X4_layCandle_15_30_3 {l : Launch} {D : va_G} {cy : Nat → ClassId} {tT tF : Nat} {ad : Nat → Nat} {σ : ES} {a3 : Int32} {r : Int64} {σ' : ES} (h : e_X4_layCandle_15_30_3 a3 σ = some (r, σ')) : CMl l yX4_layCandle (Cond.code yX4_layCandle cX4_layCandle 10 (some .long) :: wsL_law) { frames := 2, cells := 0, slots := 0, locals := 45 } D cy tT tF [.ref (ad 15), .ref (ad 30), .ref (ad 3), .int a3] (xw cy ad σ) r (xw cy ad σ') := x_start (Qc := fun A => (Ql D cy A r (xw cy ad σ'))) (by decide) (Nat.le_of_ble_eq_true rfl) (fun p e s m below meth c A ls C hr hP hD hS hl => w_X4_layCandle_15_30_3_0 C hr a3 σ h s.heap [] hP hD hS ls hl)
end WK8

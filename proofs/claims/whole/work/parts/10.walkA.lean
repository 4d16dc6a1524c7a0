section WK0
variable {p : Program} {l : Launch} {e : Env} {R : Room} {s : State} {m : MethodId} {args : Array Value} {below : List Frame} {meth : Method} {c : Code} {D : va_G} {cy : Nat → ClassId} {tT tF : Nat} {A : Nat → Prop} {ad : Nat → Nat} {ws : va_W}
set_option maxHeartbeats 4000000 in
set_option maxRecDepth 100000 in
theorem w_X8_in_0 (C : Cx p s m args meth c D cy tT tF A cX8_in 6 RX8) (hr : meth.sig.returnType = some .boolean) {r : Int32} (a0 : Int64) (a2 : Int64) (a4 : Int64) (h : b_X8_in_0 a0 a2 a4 = some r) (H : Heap) (locs : List Loc) (hP : va_P D vwCl ws H) (hD : va_D A ws) (hS : va_S A s.heap H locs) (ls : Array Slot) (hl : lv_has ls 6 [(0, .long a0), (2, .long a2), (4, .long a4)]) : W p l e { frames := 0, cells := 0, slots := 0, locals := 0 } s m args below meth c H locs 0 0 (MQ below (Qi D cy A r ws) args s 0 0 A) (F0 m 0 ls []) := by
  obtain ⟨⟨hx, hb, hml, hown, hts⟩, hK, hT, hA, hlk⟩ := id C
  unfold b_X8_in_0 at h
  refine lv_lload_n hx hb dX8_in_0 rfl (lv_at hl 0 rfl) ?_
  refine lv_lload_n hx hb dX8_in_1 rfl (lv_at hl 1 rfl) ?_
  refine W.lcmp hx hb dX8_in_2 ?_
  refine lv_if_lt (tgt := 17) hx hb dX8_in_3 (by decide) (fun q1 => ?_) (fun q1 => ?_)
  · have h := ifp q1 h
    refine lv_iconst (v := 0) hx hb dX8_in_17 (by decide) ?_
    have z1 := so_inj h
    subst z1
    exact x_zret C hr rfl hP hD hS dX8_in_18
  · have h := ifn q1 h
    refine lv_lload_n hx hb dX8_in_6 rfl (lv_at hl 0 rfl) ?_
    refine lv_lload hx hb dX8_in_7 (lv_at hl 2 rfl) ?_
    refine W.lcmp hx hb dX8_in_9 ?_
    refine lv_if_gt (tgt := 17) hx hb dX8_in_10 (by decide) (fun q2 => ?_) (fun q2 => ?_)
    · have h := ifp q2 h
      refine lv_iconst (v := 0) hx hb dX8_in_17 (by decide) ?_
      have z1 := so_inj h
      subst z1
      exact x_zret C hr rfl hP hD hS dX8_in_18
    · have h := ifn q2 h
      refine lv_iconst (v := 1) hx hb dX8_in_13 (by decide) ?_
      refine lv_goto (tgt := 18) hx hb dX8_in_14 (by decide) ?_
      have z1 := so_inj h
      subst z1
      exact x_zret C hr rfl hP hD hS dX8_in_18
theorem c_X8_in {l : Launch} {D : va_G} {cy : Nat → ClassId} {tT tF : Nat} {ws : va_W} {a0 : Int64} {a2 : Int64} {a4 : Int64} {r : Int32} (h : e_X8_in a0 a2 a4 = some r) : CMi l yX8_in (Cond.code yX8_in cX8_in 6 (some .boolean) :: wsL_law) { frames := 0, cells := 0, slots := 0, locals := 0 } D cy tT tF [.long a0, .long a2, .long a4] ws r ws := x_start (Qc := fun A => (Qi D cy A r ws)) (by decide) (Nat.le_of_ble_eq_true rfl) (fun p e s m below meth c A ls C hr hP hD hS hl => w_X8_in_0 C hr a0 a2 a4 h s.heap [] hP hD hS ls hl)
set_option maxHeartbeats 4000000 in
set_option maxRecDepth 100000 in
theorem w_X8_write_0 (C : Cx p s m args meth c D cy tT tF A cX8_write 2 RX8) (hr : meth.sig.returnType = some .int) {r : Int32} {σ' : ES} (a1 : Int32) (σ : ES) (h : b_X8_write_0 a1 σ = some (r, σ')) (H : Heap) (locs : List Loc) (hP : va_P D vwCl (mw cy ad σ) H) (hD : va_D A (mw cy ad σ)) (hS : va_S A s.heap H locs) (ls : Array Slot) (hl : lv_has ls 2 [(0, .ref (ad 0)), (1, .int a1)]) : W p l e { frames := 1, cells := 0, slots := 0, locals := 25 } s m args below meth c H locs 0 0 (MQ below (Qi D cy A r (mw cy ad σ')) args s 0 0 A) (F0 m 0 ls []) := by
  obtain ⟨⟨hx, hb, hml, hown, hts⟩, hK, hT, hA, hlk⟩ := id C
  unfold b_X8_write_0 at h
  refine lv_iload_n hx hb dX8_write_0 rfl (lv_at hl 1 rfl) ?_
  refine lv_i2l hx hb dX8_write_1 rfl ?_
  refine lv_lconst (v := 0) hx hb dX8_write_2 (by decide) ?_
  refine lv_ldc2 (v := 255) hx hb hown (hts _ mw7_8) dX8_write_3 ?_
  obtain ⟨r2, g1, h⟩ := cl_some h
  refine x_callSi (rest := []) C hP hD hS (c_X8_in g1) (va_cwS 3 hts (gS mw7_10 mw7_11 mw1_5 mw7_12) rfl rfl rfl hdS_X8_in ⟨Nat.le_of_ble_eq_true rfl, Nat.le_of_ble_eq_true rfl⟩) rfl hl.1 rfl (Nat.le_of_ble_eq_true rfl) dX8_write_6 ⟨Nat.zero_le _, Nat.zero_le _⟩ (fun H locs hP hD hS => ?_)
  refine lv_if_ne (tgt := 15) hx hb dX8_write_9 (by decide) (fun q3 => ?_) (fun q3 => ?_)
  · have h := ifn q3 h
    refine lv_aload_n hx hb dX8_write_15 rfl (lv_at hl 0 rfl) ?_
    refine x_get C hP inlX8 0 mw_0 rfl 13 (by decide) mw7_9 rfl dX8_write_16 ?_
    refine lv_bipush (v := 64) hx hb dX8_write_19 (by decide) ?_
    refine lv_icmp_ne (tgt := 27) hx hb dX8_write_21 (by decide) (fun q4 => ?_) (fun q4 => ?_)
    · have h := ifn q4 h
      refine lv_aload_n hx hb dX8_write_27 rfl (lv_at hl 0 rfl) ?_
      refine x_get C hP inlX8 0 mw_0 rfl 12 (by decide) mw6_7 rfl dX8_write_28 ?_
      refine lv_aload_n hx hb dX8_write_31 rfl (lv_at hl 0 rfl) ?_
      refine x_get C hP inlX8 0 mw_0 rfl 13 (by decide) mw7_9 rfl dX8_write_32 ?_
      refine lv_iload_n hx hb dX8_write_35 rfl (lv_at hl 1 rfl) ?_
      obtain ⟨g5, σ6, eσ6, h⟩ := wr_some h
      refine x_ist C hP hD hS 10 mw_10 g5 (ma_10 eσ6) dX8_write_36 (fun H locs hP hD hS => ?_)
      refine lv_aload_n hx hb dX8_write_37 rfl (lv_at hl 0 rfl) ?_
      refine lv_dup hx hb dX8_write_38 rfl ?_
      refine x_get C hP inlX8 0 mw_0 rfl 13 (by decide) mw7_9 rfl dX8_write_39 ?_
      refine lv_iconst (v := 1) hx hb dX8_write_42 (by decide) ?_
      refine lv_iadd hx hb dX8_write_43 ?_
      obtain ⟨σ7, eσ7, h⟩ := lt_some h
      refine x_put C hP hD hS inlX8 tyX8 tyX8_ok nmX8 0 mw_0 rfl 13 (by decide) mw7_9 rfl rfl rfl (Nat.le_of_ble_eq_true rfl) (ms_0_13 eσ7) dX8_write_44 (fun H locs hP hD hS => ?_)
      refine lv_aload_n hx hb dX8_write_47 rfl (lv_at hl 0 rfl) ?_
      refine x_get C hP inlX8 0 mw_0 rfl 13 (by decide) mw7_9 rfl dX8_write_48 ?_
      obtain ⟨z1, z2⟩ := pr_inj h
      subst z1
      subst z2
      exact x_iret C hr hP hD hS dX8_write_51
    · have h := ifp q4 h
      refine lv_bipush (v := -4) hx hb dX8_write_24 (by decide) ?_
      obtain ⟨z1, z2⟩ := pr_inj h
      subst z1
      subst z2
      exact x_iret C hr hP hD hS dX8_write_26
  · have h := ifp q3 h
    refine lv_bipush (v := -2) hx hb dX8_write_12 (by decide) ?_
    obtain ⟨z1, z2⟩ := pr_inj h
    subst z1
    subst z2
    exact x_iret C hr hP hD hS dX8_write_14
theorem c_X8_write {l : Launch} {D : va_G} {cy : Nat → ClassId} {tT tF : Nat} {ad : Nat → Nat} {σ : ES} {a1 : Int32} {r : Int32} {σ' : ES} (h : e_X8_write a1 σ = some (r, σ')) : CMi l yX8_write (Cond.code yX8_write cX8_write 2 (some .int) :: wsL_law) { frames := 1, cells := 0, slots := 0, locals := 25 } D cy tT tF [.ref (ad 0), .int a1] (mw cy ad σ) r (mw cy ad σ') := x_start (Qc := fun A => (Qi D cy A r (mw cy ad σ'))) (by decide) (Nat.le_of_ble_eq_true rfl) (fun p e s m below meth c A ls C hr hP hD hS hl => w_X8_write_0 C hr a1 σ h s.heap [] hP hD hS ls hl)
set_option maxHeartbeats 4000000 in
set_option maxRecDepth 100000 in
theorem w_X8_wipe_0 (C : Cx p s m args meth c D cy tT tF A cX8_wipe 2 RX8) (hr : meth.sig.returnType = some .int) {r : Int32} {σ' : ES} (σ : ES) (h : b_X8_wipe_0 σ = some (r, σ')) (H : Heap) (locs : List Loc) (hP : va_P D vwCl (mw cy ad σ) H) (hD : va_D A (mw cy ad σ)) (hS : va_S A s.heap H locs) (ls : Array Slot) (hl : lv_has ls 2 [(0, .ref (ad 0))]) : W p l e { frames := 0, cells := 0, slots := 0, locals := 0 } s m args below meth c H locs 0 0 (MQ below (Qi D cy A r (mw cy ad σ')) args s 0 0 A) (F0 m 0 ls []) := by
  obtain ⟨⟨hx, hb, hml, hown, hts⟩, hK, hT, hA, hlk⟩ := id C
  unfold b_X8_wipe_0 at h
  refine lv_aload_n hx hb dX8_wipe_0 rfl (lv_at hl 0 rfl) ?_
  refine x_get C hP inlX8 0 mw_0 rfl 13 (by decide) mw7_9 rfl dX8_wipe_1 ?_
  obtain ⟨x1, ex1, h⟩ := lt_some h
  refine x_ti ex1 ?_
  refine lv_istore_n (lv' := [(1, .int x1), (0, .ref (ad 0))]) hx hb dX8_wipe_4 rfl hl (by decide) rfl (fun ls hl => ?_)
  refine lv_aload_n hx hb dX8_wipe_5 rfl (lv_at hl 1 rfl) ?_
  refine lv_iconst (v := 0) hx hb dX8_wipe_6 (by decide) ?_
  obtain ⟨σ2, eσ2, h⟩ := lt_some h
  refine x_put C hP hD hS inlX8 tyX8 tyX8_ok nmX8 0 mw_0 rfl 13 (by decide) mw7_9 rfl rfl rfl (Nat.le_of_ble_eq_true rfl) (ms_0_13 eσ2) dX8_wipe_7 (fun H locs hP hD hS => ?_)
  refine lv_iload_n hx hb dX8_wipe_10 rfl (lv_at hl 0 rfl) ?_
  obtain ⟨z1, z2⟩ := pr_inj h
  subst z1
  subst z2
  exact x_iret C hr hP hD hS dX8_wipe_11
theorem c_X8_wipe {l : Launch} {D : va_G} {cy : Nat → ClassId} {tT tF : Nat} {ad : Nat → Nat} {σ : ES} {r : Int32} {σ' : ES} (h : e_X8_wipe  σ = some (r, σ')) : CMi l yX8_wipe (Cond.code yX8_wipe cX8_wipe 2 (some .int) :: wsL_law) { frames := 0, cells := 0, slots := 0, locals := 0 } D cy tT tF [.ref (ad 0)] (mw cy ad σ) r (mw cy ad σ') := x_start (Qc := fun A => (Qi D cy A r (mw cy ad σ'))) (by decide) (Nat.le_of_ble_eq_true rfl) (fun p e s m below meth c A ls C hr hP hD hS hl => w_X8_wipe_0 C hr  σ h s.heap [] hP hD hS ls hl)
set_option maxHeartbeats 4000000 in
set_option maxRecDepth 100000 in
theorem w_X8_giftOf_0 (C : Cx p s m args meth c D cy tT tF A cX8_giftOf 1 RX8) (hr : meth.sig.returnType = some .int) {r : Int32} (a0 : Int32) (h : b_X8_giftOf_0 a0 = some r) (H : Heap) (locs : List Loc) (hP : va_P D vwCl ws H) (hD : va_D A ws) (hS : va_S A s.heap H locs) (ls : Array Slot) (hl : lv_has ls 1 [(0, .int a0)]) : W p l e { frames := 1, cells := 0, slots := 0, locals := 25 } s m args below meth c H locs 0 0 (MQ below (Qi D cy A r ws) args s 0 0 A) (F0 m 0 ls []) := by
  obtain ⟨⟨hx, hb, hml, hown, hts⟩, hK, hT, hA, hlk⟩ := id C
  unfold b_X8_giftOf_0 at h
  refine lv_iload_n hx hb dX8_giftOf_0 rfl (lv_at hl 0 rfl) ?_
  refine lv_bipush (v := 45) hx hb dX8_giftOf_1 (by decide) ?_
  refine lv_icmp_ne (tgt := 10) hx hb dX8_giftOf_3 (by decide) (fun q1 => ?_) (fun q1 => ?_)
  · have h := ifn q1 h
    refine lv_iload_n hx hb dX8_giftOf_10 rfl (lv_at hl 0 rfl) ?_
    refine lv_i2l hx hb dX8_giftOf_11 rfl ?_
    refine lv_ldc2 (v := 97) hx hb hown (hts _ mw10_20) dX8_giftOf_12 ?_
    refine lv_ldc2 (v := 100) hx hb hown (hts _ mw10_21) dX8_giftOf_15 ?_
    obtain ⟨r3, g2, h⟩ := cl_some h
    refine x_callSi (rest := []) C hP hD hS (c_X8_in g2) (va_cwS 3 hts (gS mw7_10 mw7_11 mw1_5 mw7_12) rfl rfl rfl hdS_X8_in ⟨Nat.le_of_ble_eq_true rfl, Nat.le_of_ble_eq_true rfl⟩) rfl hl.1 rfl (Nat.le_of_ble_eq_true rfl) dX8_giftOf_18 ⟨Nat.zero_le _, Nat.zero_le _⟩ (fun H locs hP hD hS => ?_)
    refine lv_if_eq (tgt := 31) hx hb dX8_giftOf_21 (by decide) (fun q4 => ?_) (fun q4 => ?_)
    · have h := ifp q4 h
      refine lv_bipush (v := -9) hx hb dX8_giftOf_31 (by decide) ?_
      have z1 := so_inj h
      subst z1
      exact x_iret C hr hP hD hS dX8_giftOf_33
    · have h := ifn q4 h
      refine lv_iload_n hx hb dX8_giftOf_24 rfl (lv_at hl 0 rfl) ?_
      refine lv_bipush (v := 97) hx hb dX8_giftOf_25 (by decide) ?_
      refine lv_isub hx hb dX8_giftOf_27 ?_
      refine lv_goto (tgt := 33) hx hb dX8_giftOf_28 (by decide) ?_
      have z1 := so_inj h
      subst z1
      exact x_iret C hr hP hD hS dX8_giftOf_33
  · have h := ifp q1 h
    refine lv_iconst (v := 4) hx hb dX8_giftOf_6 (by decide) ?_
    refine lv_goto (tgt := 33) hx hb dX8_giftOf_7 (by decide) ?_
    have z1 := so_inj h
    subst z1
    exact x_iret C hr hP hD hS dX8_giftOf_33
theorem c_X8_giftOf {l : Launch} {D : va_G} {cy : Nat → ClassId} {tT tF : Nat} {ws : va_W} {a0 : Int32} {r : Int32} (h : e_X8_giftOf a0 = some r) : CMi l yX8_giftOf (Cond.code yX8_giftOf cX8_giftOf 1 (some .int) :: wsL_law) { frames := 1, cells := 0, slots := 0, locals := 25 } D cy tT tF [.int a0] ws r ws := x_start (Qc := fun A => (Qi D cy A r ws)) (by decide) (Nat.le_of_ble_eq_true rfl) (fun p e s m below meth c A ls C hr hP hD hS hl => w_X8_giftOf_0 C hr a0 h s.heap [] hP hD hS ls hl)
set_option maxHeartbeats 4000000 in
set_option maxRecDepth 100000 in
theorem w_X8_figure_72 (C : Cx p s m args meth c D cy tT tF A cX8_figure 5 RX8) (hr : meth.sig.returnType = some .int) {r : Int32} {σ' : ES} (v1 : Int32) (t1 : Int32) (σ : ES) (h : b_X8_figure_72 v1 t1 σ = some (r, σ')) (H : Heap) (locs : List Loc) (hP : va_P D vwCl (mw cy ad σ) H) (hD : va_D A (mw cy ad σ)) (hS : va_S A s.heap H locs) (ls : Array Slot) (hl : lv_has ls 5 [(1, .int v1)]) : W p l e { frames := 1, cells := 0, slots := 0, locals := 25 } s m args below meth c H locs 0 0 (MQ below (Qi D cy A r (mw cy ad σ')) args s 0 0 A) (F0 m 72 ls [.int t1, .ref (ad 0)]) := by
  obtain ⟨⟨hx, hb, hml, hown, hts⟩, hK, hT, hA, hlk⟩ := id C
  unfold b_X8_figure_72 at h
  obtain ⟨σ1, eσ1, h⟩ := lt_some h
  refine x_put C hP hD hS inlX8 tyX8 tyX8_ok nmX8 0 mw_0 rfl 15 (by decide) mw10_13 rfl rfl rfl (Nat.le_of_ble_eq_true rfl) (ms_0_15 eσ1) dX8_figure_72 (fun H locs hP hD hS => ?_)
  refine lv_iload_n hx hb dX8_figure_75 rfl (lv_at hl 0 rfl) ?_
  obtain ⟨z1, z2⟩ := pr_inj h
  subst z1
  subst z2
  exact x_iret C hr hP hD hS dX8_figure_76
set_option maxHeartbeats 4000000 in
set_option maxRecDepth 100000 in
theorem w_X8_figure_36 (C : Cx p s m args meth c D cy tT tF A cX8_figure 5 RX8) (hr : meth.sig.returnType = some .int) {r : Int32} {σ' : ES} (v1 : Int32) (v2 : Int32) (t0 : Int32) (σ : ES) (h : b_X8_figure_36 v1 v2 t0 σ = some (r, σ')) (H : Heap) (locs : List Loc) (hP : va_P D vwCl (mw cy ad σ) H) (hD : va_D A (mw cy ad σ)) (hS : va_S A s.heap H locs) (ls : Array Slot) (hl : lv_has ls 5 [(0, .ref (ad 0)), (1, .int v1), (2, .int v2)]) : W p l e { frames := 1, cells := 0, slots := 0, locals := 25 } s m args below meth c H locs 0 0 (MQ below (Qi D cy A r (mw cy ad σ')) args s 0 0 A) (F0 m 36 ls [.int t0]) := by
  obtain ⟨⟨hx, hb, hml, hown, hts⟩, hK, hT, hA, hlk⟩ := id C
  unfold b_X8_figure_36 at h
  refine lv_istore (lv' := [(4, .int t0), (0, .ref (ad 0)), (1, .int v1), (2, .int v2)]) hx hb dX8_figure_36 hl (by decide) rfl (fun ls hl => ?_)
  refine lv_iload hx hb dX8_figure_38 (lv_at hl 0 rfl) ?_
  refine lv_i2l hx hb dX8_figure_40 rfl ?_
  refine lv_iload_n hx hb dX8_figure_41 rfl (lv_at hl 2 rfl) ?_
  refine lv_i2l hx hb dX8_figure_42 rfl ?_
  refine lv_iload_n hx hb dX8_figure_43 rfl (lv_at hl 3 rfl) ?_
  refine lv_i2l hx hb dX8_figure_44 rfl ?_
  obtain ⟨r2, g1, h⟩ := cl_some h
  refine x_callSi (rest := []) C hP hD hS (c_X8_in g1) (va_cwS 3 hts (gS mw7_10 mw7_11 mw1_5 mw7_12) rfl rfl rfl hdS_X8_in ⟨Nat.le_of_ble_eq_true rfl, Nat.le_of_ble_eq_true rfl⟩) rfl hl.1 rfl (Nat.le_of_ble_eq_true rfl) dX8_figure_45 ⟨Nat.zero_le _, Nat.zero_le _⟩ (fun H locs hP hD hS => ?_)
  refine lv_if_ne (tgt := 77) hx hb dX8_figure_48 (by decide) (fun q3 => ?_) (fun q3 => ?_)
  · have h := ifn q3 h
    refine lv_aload_n hx hb dX8_figure_77 rfl (lv_at hl 1 rfl) ?_
    refine lv_dup hx hb dX8_figure_78 rfl ?_
    refine x_get C hP inlX8 0 mw_0 rfl 14 (by decide) mw10_12 rfl dX8_figure_79 ?_
    refine lv_iconst (v := 1) hx hb dX8_figure_82 (by decide) ?_
    refine lv_iadd hx hb dX8_figure_83 ?_
    obtain ⟨σ4, eσ4, h⟩ := lt_some h
    refine x_put C hP hD hS inlX8 tyX8 tyX8_ok nmX8 0 mw_0 rfl 14 (by decide) mw10_12 rfl rfl rfl (Nat.le_of_ble_eq_true rfl) (ms_0_14 eσ4) dX8_figure_84 (fun H locs hP hD hS => ?_)
    refine lv_iload hx hb dX8_figure_87 (lv_at hl 0 rfl) ?_
    obtain ⟨z1, z2⟩ := pr_inj h
    subst z1
    subst z2
    exact x_iret C hr hP hD hS dX8_figure_89
  · have h := ifp q3 h
    refine lv_aload_n hx hb dX8_figure_51 rfl (lv_at hl 1 rfl) ?_
    refine lv_aload_n hx hb dX8_figure_52 rfl (lv_at hl 1 rfl) ?_
    refine x_get C hP inlX8 0 mw_0 rfl 15 (by decide) mw10_13 rfl dX8_figure_53 ?_
    refine lv_bipush (v := -9) hx hb dX8_figure_56 (by decide) ?_
    refine lv_icmp_ne (tgt := 68) hx hb dX8_figure_58 (by decide) (fun q5 => ?_) (fun q5 => ?_)
    · have h := ifn q5 h
      refine lv_aload_n hx hb dX8_figure_68 rfl (lv_at hl 1 rfl) ?_
      refine x_get C hP inlX8 0 mw_0 rfl 15 (by decide) mw10_13 rfl dX8_figure_69 ?_
      exact w_X8_figure_72 C hr v1 (σ.1 0 15) σ h H locs hP hD hS ls (lv_sub hl [2] rfl)
    · have h := ifp q5 h
      refine lv_aload_n hx hb dX8_figure_61 rfl (lv_at hl 1 rfl) ?_
      refine x_get C hP inlX8 0 mw_0 rfl 14 (by decide) mw10_12 rfl dX8_figure_62 ?_
      refine lv_goto (tgt := 72) hx hb dX8_figure_65 (by decide) ?_
      exact w_X8_figure_72 C hr v1 (σ.1 0 14) σ h H locs hP hD hS ls (lv_sub hl [2] rfl)
set_option maxHeartbeats 4000000 in
set_option maxRecDepth 100000 in
theorem w_X8_figure_0 (C : Cx p s m args meth c D cy tT tF A cX8_figure 5 RX8) (hr : meth.sig.returnType = some .int) {r : Int32} {σ' : ES} (a1 : Int32) (a2 : Int32) (a3 : Int32) (σ : ES) (h : b_X8_figure_0 a1 a2 a3 σ = some (r, σ')) (H : Heap) (locs : List Loc) (hP : va_P D vwCl (mw cy ad σ) H) (hD : va_D A (mw cy ad σ)) (hS : va_S A s.heap H locs) (ls : Array Slot) (hl : lv_has ls 5 [(0, .ref (ad 0)), (1, .int a1), (2, .int a2), (3, .int a3)]) : W p l e { frames := 1, cells := 0, slots := 0, locals := 25 } s m args below meth c H locs 0 0 (MQ below (Qi D cy A r (mw cy ad σ')) args s 0 0 A) (F0 m 0 ls []) := by
  obtain ⟨⟨hx, hb, hml, hown, hts⟩, hK, hT, hA, hlk⟩ := id C
  unfold b_X8_figure_0 at h
  refine lv_aload_n hx hb dX8_figure_0 rfl (lv_at hl 0 rfl) ?_
  refine x_get C hP inlX8 0 mw_0 rfl 15 (by decide) mw10_13 rfl dX8_figure_1 ?_
  refine lv_bipush (v := -9) hx hb dX8_figure_4 (by decide) ?_
  refine lv_icmp_ne (tgt := 34) hx hb dX8_figure_6 (by decide) (fun q1 => ?_) (fun q1 => ?_)
  · have h := ifn q1 h
    refine lv_bipush (v := -9) hx hb dX8_figure_34 (by decide) ?_
    exact w_X8_figure_36 C hr a1 a2 (-9 : Int32) σ h H locs hP hD hS ls (lv_sub hl [0, 1, 2] rfl)
  · have h := ifp q1 h
    refine lv_aload_n hx hb dX8_figure_9 rfl (lv_at hl 0 rfl) ?_
    refine x_get C hP inlX8 0 mw_0 rfl 14 (by decide) mw10_12 rfl dX8_figure_10 ?_
    refine lv_aload_n hx hb dX8_figure_13 rfl (lv_at hl 0 rfl) ?_
    refine x_get C hP inlX8 0 mw_0 rfl 13 (by decide) mw7_9 rfl dX8_figure_14 ?_
    refine lv_icmp_ge (tgt := 34) hx hb dX8_figure_17 (by decide) (fun q2 => ?_) (fun q2 => ?_)
    · have h := ifp q2 h
      refine lv_bipush (v := -9) hx hb dX8_figure_34 (by decide) ?_
      exact w_X8_figure_36 C hr a1 a2 (-9 : Int32) σ h H locs hP hD hS ls (lv_sub hl [0, 1, 2] rfl)
    · have h := ifn q2 h
      refine lv_aload_n hx hb dX8_figure_20 rfl (lv_at hl 0 rfl) ?_
      refine x_get C hP inlX8 0 mw_0 rfl 12 (by decide) mw6_7 rfl dX8_figure_21 ?_
      refine lv_aload_n hx hb dX8_figure_24 rfl (lv_at hl 0 rfl) ?_
      refine x_get C hP inlX8 0 mw_0 rfl 14 (by decide) mw10_12 rfl dX8_figure_25 ?_
      obtain ⟨g3, x4, ex4, h⟩ := rd_some h
      refine x_ild C hP 10 mw_10 g3 ex4 dX8_figure_28 ?_
      refine lv_iload_n hx hb dX8_figure_29 rfl (lv_at hl 3 rfl) ?_
      refine lv_isub hx hb dX8_figure_30 ?_
      refine lv_goto (tgt := 36) hx hb dX8_figure_31 (by decide) ?_
      exact w_X8_figure_36 C hr a1 a2 (x4 - a3) σ h H locs hP hD hS ls (lv_sub hl [0, 1, 2] rfl)
theorem c_X8_figure {l : Launch} {D : va_G} {cy : Nat → ClassId} {tT tF : Nat} {ad : Nat → Nat} {σ : ES} {a1 : Int32} {a2 : Int32} {a3 : Int32} {r : Int32} {σ' : ES} (h : e_X8_figure a1 a2 a3 σ = some (r, σ')) : CMi l yX8_figure (Cond.code yX8_figure cX8_figure 5 (some .int) :: wsL_law) { frames := 1, cells := 0, slots := 0, locals := 25 } D cy tT tF [.ref (ad 0), .int a1, .int a2, .int a3] (mw cy ad σ) r (mw cy ad σ') := x_start (Qc := fun A => (Qi D cy A r (mw cy ad σ'))) (by decide) (Nat.le_of_ble_eq_true rfl) (fun p e s m below meth c A ls C hr hP hD hS hl => w_X8_figure_0 C hr a1 a2 a3 σ h s.heap [] hP hD hS ls hl)
set_option maxHeartbeats 4000000 in
set_option maxRecDepth 100000 in
theorem w_X8_readPart_299 (C : Cx p s m args meth c D cy tT tF A cX8_readPart 6 RX8) (hr : meth.sig.returnType = none) {σ' : ES} (σ : ES) (h : b_X8_readPart_299 σ = some σ') (H : Heap) (locs : List Loc) (hP : va_P D vwCl (mw cy ad σ) H) (hD : va_D A (mw cy ad σ)) (hS : va_S A s.heap H locs) (ls : Array Slot) (hl : lv_has ls 6 [(0, .ref (ad 0))]) : W p l e { frames := 2, cells := 0, slots := 0, locals := 49 } s m args below meth c H locs 0 0 (MQ below (Qv D cy A (mw cy ad σ')) args s 0 0 A) (F0 m 299 ls []) := by
  obtain ⟨⟨hx, hb, hml, hown, hts⟩, hK, hT, hA, hlk⟩ := id C
  unfold b_X8_readPart_299 at h
  refine lv_aload_n hx hb dX8_readPart_299 rfl (lv_at hl 0 rfl) ?_
  refine lv_aload_n hx hb dX8_readPart_300 rfl (lv_at hl 0 rfl) ?_
  refine x_get C hP inlX8 0 mw_0 rfl 14 (by decide) mw10_12 rfl dX8_readPart_301 ?_
  obtain ⟨σ1, eσ1, h⟩ := lt_some h
  refine x_put C hP hD hS inlX8 tyX8 tyX8_ok nmX8 0 mw_0 rfl 15 (by decide) mw10_13 rfl rfl rfl (Nat.le_of_ble_eq_true rfl) (ms_0_15 eσ1) dX8_readPart_304 (fun H locs hP hD hS => ?_)
  have z1 := so_inj h
  subst z1
  exact x_vret C hr hP hD hS dX8_readPart_307
set_option maxHeartbeats 4000000 in
set_option maxRecDepth 100000 in
theorem w_X8_readPart_183 (C : Cx p s m args meth c D cy tT tF A cX8_readPart 6 RX8) (hr : meth.sig.returnType = none) {σ' : ES} (v1 : Int32) (σ : ES) (h : b_X8_readPart_183 v1 σ = some σ') (H : Heap) (locs : List Loc) (hP : va_P D vwCl (mw cy ad σ) H) (hD : va_D A (mw cy ad σ)) (hS : va_S A s.heap H locs) (ls : Array Slot) (hl : lv_has ls 6 [(0, .ref (ad 0)), (1, .int v1)]) : W p l e { frames := 2, cells := 0, slots := 0, locals := 49 } s m args below meth c H locs 0 0 (MQ below (Qv D cy A (mw cy ad σ')) args s 0 0 A) (F0 m 183 ls []) := by
  obtain ⟨⟨hx, hb, hml, hown, hts⟩, hK, hT, hA, hlk⟩ := id C
  unfold b_X8_readPart_183 at h
  refine lv_iload_n hx hb dX8_readPart_183 rfl (lv_at hl 1 rfl) ?_
  refine lv_bipush (v := 71) hx hb dX8_readPart_184 (by decide) ?_
  refine lv_icmp_ne (tgt := 299) hx hb dX8_readPart_186 (by decide) (fun q1 => ?_) (fun q1 => ?_)
  · have h := ifn q1 h
    exact w_X8_readPart_299 C hr σ h H locs hP hD hS ls (lv_sub hl [0] rfl)
  · have h := ifp q1 h
    refine lv_aload_n hx hb dX8_readPart_189 rfl (lv_at hl 0 rfl) ?_
    refine x_get C hP inlX8 0 mw_0 rfl 18 (by decide) mw10_16 rfl dX8_readPart_190 ?_
    refine lv_iconst (v := 4) hx hb dX8_readPart_193 (by decide) ?_
    refine lv_icmp_ge (tgt := 299) hx hb dX8_readPart_194 (by decide) (fun q2 => ?_) (fun q2 => ?_)
    · have h := ifp q2 h
      exact w_X8_readPart_299 C hr σ h H locs hP hD hS ls (lv_sub hl [0] rfl)
    · have h := ifn q2 h
      refine lv_aload_n hx hb dX8_readPart_197 rfl (lv_at hl 0 rfl) ?_
      refine lv_dup hx hb dX8_readPart_198 rfl ?_
      refine x_get C hP inlX8 0 mw_0 rfl 14 (by decide) mw10_12 rfl dX8_readPart_199 ?_
      refine lv_iconst (v := 1) hx hb dX8_readPart_202 (by decide) ?_
      refine lv_iadd hx hb dX8_readPart_203 ?_
      obtain ⟨σ3, eσ3, h⟩ := lt_some h
      refine x_put C hP hD hS inlX8 tyX8 tyX8_ok nmX8 0 mw_0 rfl 14 (by decide) mw10_12 rfl rfl rfl (Nat.le_of_ble_eq_true rfl) (ms_0_14 eσ3) dX8_readPart_204 (fun H locs hP hD hS => ?_)
      refine lv_iconst (v := 4) hx hb dX8_readPart_207 (by decide) ?_
      refine lv_aload_n hx hb dX8_readPart_208 rfl (lv_at hl 0 rfl) ?_
      refine x_get C hP inlX8 0 mw_0 rfl 18 (by decide) mw10_16 rfl dX8_readPart_209 ?_
      refine lv_imul hx hb dX8_readPart_212 ?_
      obtain ⟨x4, ex4, h⟩ := lt_some h
      refine x_ti ex4 ?_
      refine lv_istore_n (lv' := [(2, .int x4), (0, .ref (ad 0)), (1, .int v1)]) hx hb dX8_readPart_213 rfl hl (by decide) rfl (fun ls hl => ?_)
      refine lv_aload_n hx hb dX8_readPart_214 rfl (lv_at hl 1 rfl) ?_
      refine x_get C hP inlX8 0 mw_0 rfl 21 (by decide) mw6_10 rfl dX8_readPart_215 ?_
      refine lv_iload_n hx hb dX8_readPart_218 rfl (lv_at hl 0 rfl) ?_
      refine lv_aload_n hx hb dX8_readPart_219 rfl (lv_at hl 1 rfl) ?_
      refine lv_iconst (v := 0) hx hb dX8_readPart_220 (by decide) ?_
      refine lv_iconst (v := 3) hx hb dX8_readPart_221 (by decide) ?_
      refine lv_bipush (v := 97) hx hb dX8_readPart_222 (by decide) ?_
      obtain ⟨r7, σ6, g5, h⟩ := cs_some h
      refine x_callVi (rest := [.int x4, .ref (ad 13)]) C hP hD hS (c_X8_figure g5) (cwV 3 hts (gV mw11_2 mw11_3 mw11_4 mw1_5 mw11_5) rfl rfl rfl hdV_X8_figure ⟨Nat.le_of_ble_eq_true rfl, Nat.le_of_ble_eq_true rfl⟩) mw_0 rfl rfl hl.1 rfl (Nat.le_of_ble_eq_true rfl) dX8_readPart_224 ⟨Nat.zero_le _, Nat.zero_le _⟩ (fun H locs hP hD hS => ?_)
      obtain ⟨g8, σ9, eσ9, h⟩ := wr_some h
      refine x_ist C hP hD hS 13 mw_13 g8 (ma_13 eσ9) dX8_readPart_227 (fun H locs hP hD hS => ?_)
      refine lv_aload_n hx hb dX8_readPart_228 rfl (lv_at hl 1 rfl) ?_
      refine x_get C hP inlX8 0 mw_0 rfl 21 (by decide) mw6_10 rfl dX8_readPart_229 ?_
      refine lv_iload_n hx hb dX8_readPart_232 rfl (lv_at hl 0 rfl) ?_
      refine lv_iconst (v := 1) hx hb dX8_readPart_233 (by decide) ?_
      refine lv_iadd hx hb dX8_readPart_234 ?_
      refine lv_aload_n hx hb dX8_readPart_235 rfl (lv_at hl 1 rfl) ?_
      refine lv_iconst (v := 1) hx hb dX8_readPart_236 (by decide) ?_
      refine lv_bipush (v := 6) hx hb dX8_readPart_237 (by decide) ?_
      refine lv_bipush (v := 48) hx hb dX8_readPart_239 (by decide) ?_
      obtain ⟨r12, σ11, g10, h⟩ := cs_some h
      refine x_callVi (rest := [.int (x4 + (1 : Int32)), .ref (ad 13)]) C hP hD hS (c_X8_figure g10) (cwV 3 hts (gV mw11_2 mw11_3 mw11_4 mw1_5 mw11_5) rfl rfl rfl hdV_X8_figure ⟨Nat.le_of_ble_eq_true rfl, Nat.le_of_ble_eq_true rfl⟩) mw_0 rfl rfl hl.1 rfl (Nat.le_of_ble_eq_true rfl) dX8_readPart_241 ⟨Nat.zero_le _, Nat.zero_le _⟩ (fun H locs hP hD hS => ?_)
      obtain ⟨g13, σ14, eσ14, h⟩ := wr_some h
      refine x_ist C hP hD hS 13 mw_13 g13 (ma_13 eσ14) dX8_readPart_244 (fun H locs hP hD hS => ?_)
      refine lv_aload_n hx hb dX8_readPart_245 rfl (lv_at hl 1 rfl) ?_
      refine x_get C hP inlX8 0 mw_0 rfl 21 (by decide) mw6_10 rfl dX8_readPart_246 ?_
      refine lv_iload_n hx hb dX8_readPart_249 rfl (lv_at hl 0 rfl) ?_
      refine lv_iconst (v := 2) hx hb dX8_readPart_250 (by decide) ?_
      refine lv_iadd hx hb dX8_readPart_251 ?_
      refine lv_aload_n hx hb dX8_readPart_252 rfl (lv_at hl 1 rfl) ?_
      refine lv_iconst (v := 0) hx hb dX8_readPart_253 (by decide) ?_
      refine lv_bipush (v := 9) hx hb dX8_readPart_254 (by decide) ?_
      refine lv_bipush (v := 48) hx hb dX8_readPart_256 (by decide) ?_
      obtain ⟨r17, σ16, g15, h⟩ := cs_some h
      refine x_callVi (rest := [.int (x4 + (2 : Int32)), .ref (ad 13)]) C hP hD hS (c_X8_figure g15) (cwV 3 hts (gV mw11_2 mw11_3 mw11_4 mw1_5 mw11_5) rfl rfl rfl hdV_X8_figure ⟨Nat.le_of_ble_eq_true rfl, Nat.le_of_ble_eq_true rfl⟩) mw_0 rfl rfl hl.1 rfl (Nat.le_of_ble_eq_true rfl) dX8_readPart_258 ⟨Nat.zero_le _, Nat.zero_le _⟩ (fun H locs hP hD hS => ?_)
      obtain ⟨g18, σ19, eσ19, h⟩ := wr_some h
      refine x_ist C hP hD hS 13 mw_13 g18 (ma_13 eσ19) dX8_readPart_261 (fun H locs hP hD hS => ?_)
      refine lv_aload_n hx hb dX8_readPart_262 rfl (lv_at hl 1 rfl) ?_
      refine x_get C hP inlX8 0 mw_0 rfl 21 (by decide) mw6_10 rfl dX8_readPart_263 ?_
      refine lv_iload_n hx hb dX8_readPart_266 rfl (lv_at hl 0 rfl) ?_
      refine lv_iconst (v := 3) hx hb dX8_readPart_267 (by decide) ?_
      refine lv_iadd hx hb dX8_readPart_268 ?_
      refine lv_aload_n hx hb dX8_readPart_269 rfl (lv_at hl 1 rfl) ?_
      refine lv_aload_n hx hb dX8_readPart_270 rfl (lv_at hl 1 rfl) ?_
      refine x_get C hP inlX8 0 mw_0 rfl 21 (by decide) mw6_10 rfl dX8_readPart_271 ?_
      refine lv_iload_n hx hb dX8_readPart_274 rfl (lv_at hl 0 rfl) ?_
      refine lv_iconst (v := 2) hx hb dX8_readPart_275 (by decide) ?_
      refine lv_iadd hx hb dX8_readPart_276 ?_
      obtain ⟨g20, x21, ex21, h⟩ := rd_some h
      refine x_ild C hP 13 mw_13 g20 ex21 dX8_readPart_277 ?_
      refine lv_bipush (v := 9) hx hb dX8_readPart_278 (by decide) ?_
      refine lv_bipush (v := 48) hx hb dX8_readPart_280 (by decide) ?_
      obtain ⟨r24, σ23, g22, h⟩ := cs_some h
      refine x_callVi (rest := [.int (x4 + (3 : Int32)), .ref (ad 13)]) C hP hD hS (c_X8_figure g22) (cwV 3 hts (gV mw11_2 mw11_3 mw11_4 mw1_5 mw11_5) rfl rfl rfl hdV_X8_figure ⟨Nat.le_of_ble_eq_true rfl, Nat.le_of_ble_eq_true rfl⟩) mw_0 rfl rfl hl.1 rfl (Nat.le_of_ble_eq_true rfl) dX8_readPart_282 ⟨Nat.zero_le _, Nat.zero_le _⟩ (fun H locs hP hD hS => ?_)
      obtain ⟨g25, σ26, eσ26, h⟩ := wr_some h
      refine x_ist C hP hD hS 13 mw_13 g25 (ma_13 eσ26) dX8_readPart_285 (fun H locs hP hD hS => ?_)
      refine lv_aload_n hx hb dX8_readPart_286 rfl (lv_at hl 1 rfl) ?_
      refine lv_dup hx hb dX8_readPart_287 rfl ?_
      refine x_get C hP inlX8 0 mw_0 rfl 18 (by decide) mw10_16 rfl dX8_readPart_288 ?_
      refine lv_iconst (v := 1) hx hb dX8_readPart_291 (by decide) ?_
      refine lv_iadd hx hb dX8_readPart_292 ?_
      obtain ⟨σ27, eσ27, h⟩ := lt_some h
      refine x_put C hP hD hS inlX8 tyX8 tyX8_ok nmX8 0 mw_0 rfl 18 (by decide) mw10_16 rfl rfl rfl (Nat.le_of_ble_eq_true rfl) (ms_0_18 eσ27) dX8_readPart_293 (fun H locs hP hD hS => ?_)
      refine lv_goto (tgt := 307) hx hb dX8_readPart_296 (by decide) ?_
      have z1 := so_inj h
      subst z1
      exact x_vret C hr hP hD hS dX8_readPart_307
set_option maxHeartbeats 4000000 in
set_option maxRecDepth 100000 in
theorem w_X8_readPart_146 (C : Cx p s m args meth c D cy tT tF A cX8_readPart 6 RX8) (hr : meth.sig.returnType = none) {σ' : ES} (v5 : Int32) (t1 : Int32) (t3 : Int32) (t4 : Int32) (σ : ES) (h : b_X8_readPart_146 v5 t1 t3 t4 σ = some σ') (H : Heap) (locs : List Loc) (hP : va_P D vwCl (mw cy ad σ) H) (hD : va_D A (mw cy ad σ)) (hS : va_S A s.heap H locs) (ls : Array Slot) (hl : lv_has ls 6 [(0, .ref (ad 0)), (5, .int v5)]) : W p l e { frames := 2, cells := 0, slots := 0, locals := 49 } s m args below meth c H locs 0 0 (MQ below (Qv D cy A (mw cy ad σ')) args s 0 0 A) (F0 m 146 ls [.int t4, .int t3, .ref (ad 0), .int t1, .ref (ad 12)]) := by
  obtain ⟨⟨hx, hb, hml, hown, hts⟩, hK, hT, hA, hlk⟩ := id C
  unfold b_X8_readPart_146 at h
  refine lv_bipush (v := 48) hx hb dX8_readPart_146 (by decide) ?_
  obtain ⟨r3, σ2, g1, h⟩ := cs_some h
  refine x_callVi (rest := [.int t1, .ref (ad 12)]) C hP hD hS (c_X8_figure g1) (cwV 3 hts (gV mw11_2 mw11_3 mw11_4 mw1_5 mw11_5) rfl rfl rfl hdV_X8_figure ⟨Nat.le_of_ble_eq_true rfl, Nat.le_of_ble_eq_true rfl⟩) mw_0 rfl rfl hl.1 rfl (Nat.le_of_ble_eq_true rfl) dX8_readPart_148 ⟨Nat.zero_le _, Nat.zero_le _⟩ (fun H locs hP hD hS => ?_)
  obtain ⟨g4, σ5, eσ5, h⟩ := wr_some h
  refine x_ist C hP hD hS 12 mw_12 g4 (ma_12 eσ5) dX8_readPart_151 (fun H locs hP hD hS => ?_)
  refine lv_aload_n hx hb dX8_readPart_152 rfl (lv_at hl 0 rfl) ?_
  refine x_get C hP inlX8 0 mw_0 rfl 20 (by decide) mw6_9 rfl dX8_readPart_153 ?_
  refine lv_iload hx hb dX8_readPart_156 (lv_at hl 1 rfl) ?_
  refine lv_iconst (v := 2) hx hb dX8_readPart_158 (by decide) ?_
  refine lv_iadd hx hb dX8_readPart_159 ?_
  refine lv_aload_n hx hb dX8_readPart_160 rfl (lv_at hl 0 rfl) ?_
  refine lv_iconst (v := 1) hx hb dX8_readPart_161 (by decide) ?_
  refine lv_bipush (v := 9) hx hb dX8_readPart_162 (by decide) ?_
  refine lv_bipush (v := 48) hx hb dX8_readPart_164 (by decide) ?_
  obtain ⟨r8, σ7, g6, h⟩ := cs_some h
  refine x_callVi (rest := [.int (v5 + (2 : Int32)), .ref (ad 12)]) C hP hD hS (c_X8_figure g6) (cwV 3 hts (gV mw11_2 mw11_3 mw11_4 mw1_5 mw11_5) rfl rfl rfl hdV_X8_figure ⟨Nat.le_of_ble_eq_true rfl, Nat.le_of_ble_eq_true rfl⟩) mw_0 rfl rfl hl.1 rfl (Nat.le_of_ble_eq_true rfl) dX8_readPart_166 ⟨Nat.zero_le _, Nat.zero_le _⟩ (fun H locs hP hD hS => ?_)
  obtain ⟨g9, σ10, eσ10, h⟩ := wr_some h
  refine x_ist C hP hD hS 12 mw_12 g9 (ma_12 eσ10) dX8_readPart_169 (fun H locs hP hD hS => ?_)
  refine lv_aload_n hx hb dX8_readPart_170 rfl (lv_at hl 0 rfl) ?_
  refine lv_dup hx hb dX8_readPart_171 rfl ?_
  refine x_get C hP inlX8 0 mw_0 rfl 17 (by decide) mw10_15 rfl dX8_readPart_172 ?_
  refine lv_iconst (v := 1) hx hb dX8_readPart_175 (by decide) ?_
  refine lv_iadd hx hb dX8_readPart_176 ?_
  obtain ⟨σ11, eσ11, h⟩ := lt_some h
  refine x_put C hP hD hS inlX8 tyX8 tyX8_ok nmX8 0 mw_0 rfl 17 (by decide) mw10_15 rfl rfl rfl (Nat.le_of_ble_eq_true rfl) (ms_0_17 eσ11) dX8_readPart_177 (fun H locs hP hD hS => ?_)
  refine lv_goto (tgt := 307) hx hb dX8_readPart_180 (by decide) ?_
  have z1 := so_inj h
  subst z1
  exact x_vret C hr hP hD hS dX8_readPart_307
set_option maxHeartbeats 4000000 in
set_option maxRecDepth 100000 in
theorem w_X8_readPart_82 (C : Cx p s m args meth c D cy tT tF A cX8_readPart 6 RX8) (hr : meth.sig.returnType = none) {σ' : ES} (v2 : Int32) (t1 : Int32) (t2 : Int32) (σ : ES) (h : b_X8_readPart_82 v2 t1 t2 σ = some σ') (H : Heap) (locs : List Loc) (hP : va_P D vwCl (mw cy ad σ) H) (hD : va_D A (mw cy ad σ)) (hS : va_S A s.heap H locs) (ls : Array Slot) (hl : lv_has ls 6 [(0, .ref (ad 0)), (2, .int v2)]) : W p l e { frames := 2, cells := 0, slots := 0, locals := 49 } s m args below meth c H locs 0 0 (MQ below (Qv D cy A (mw cy ad σ')) args s 0 0 A) (F0 m 82 ls [.int t2, .int t1, .ref (ad 0)]) := by
  obtain ⟨⟨hx, hb, hml, hown, hts⟩, hK, hT, hA, hlk⟩ := id C
  unfold b_X8_readPart_82 at h
  refine lv_bipush (v := 48) hx hb dX8_readPart_82 (by decide) ?_
  obtain ⟨r3, σ2, g1, h⟩ := cs_some h
  refine x_callVi (rest := []) C hP hD hS (c_X8_figure g1) (cwV 3 hts (gV mw11_2 mw11_3 mw11_4 mw1_5 mw11_5) rfl rfl rfl hdV_X8_figure ⟨Nat.le_of_ble_eq_true rfl, Nat.le_of_ble_eq_true rfl⟩) mw_0 rfl rfl hl.1 rfl (Nat.le_of_ble_eq_true rfl) dX8_readPart_84 ⟨Nat.zero_le _, Nat.zero_le _⟩ (fun H locs hP hD hS => ?_)
  refine lv_istore_n (lv' := [(3, .int r3), (0, .ref (ad 0)), (2, .int v2)]) hx hb dX8_readPart_87 rfl hl (by decide) rfl (fun ls hl => ?_)
  refine lv_aload_n hx hb dX8_readPart_88 rfl (lv_at hl 1 rfl) ?_
  refine x_get C hP inlX8 0 mw_0 rfl 16 (by decide) mw10_14 rfl dX8_readPart_89 ?_
  refine lv_bipush (v := 10) hx hb dX8_readPart_92 (by decide) ?_
  refine lv_iload_n hx hb dX8_readPart_94 rfl (lv_at hl 2 rfl) ?_
  refine lv_imul hx hb dX8_readPart_95 ?_
  refine lv_isub hx hb dX8_readPart_96 ?_
  refine lv_iload_n hx hb dX8_readPart_97 rfl (lv_at hl 0 rfl) ?_
  refine lv_isub hx hb dX8_readPart_98 ?_
  obtain ⟨x4, ex4, h⟩ := lt_some h
  refine x_ti ex4 ?_
  refine lv_istore (lv' := [(4, .int x4), (3, .int r3), (0, .ref (ad 0)), (2, .int v2)]) hx hb dX8_readPart_99 hl (by decide) rfl (fun ls hl => ?_)
  refine lv_iconst (v := 3) hx hb dX8_readPart_101 (by decide) ?_
  refine lv_aload_n hx hb dX8_readPart_102 rfl (lv_at hl 2 rfl) ?_
  refine x_get C hP inlX8 0 mw_0 rfl 17 (by decide) mw10_15 rfl dX8_readPart_103 ?_
  refine lv_imul hx hb dX8_readPart_106 ?_
  obtain ⟨x5, ex5, h⟩ := lt_some h
  refine x_ti ex5 ?_
  refine lv_istore (lv' := [(5, .int x5), (4, .int x4), (3, .int r3), (0, .ref (ad 0)), (2, .int v2)]) hx hb dX8_readPart_107 hl (by decide) rfl (fun ls hl => ?_)
  refine lv_aload_n hx hb dX8_readPart_109 rfl (lv_at hl 3 rfl) ?_
  refine x_get C hP inlX8 0 mw_0 rfl 20 (by decide) mw6_9 rfl dX8_readPart_110 ?_
  refine lv_iload hx hb dX8_readPart_113 (lv_at hl 0 rfl) ?_
  refine lv_bipush (v := 10) hx hb dX8_readPart_115 (by decide) ?_
  refine lv_iload_n hx hb dX8_readPart_117 rfl (lv_at hl 4 rfl) ?_
  refine lv_imul hx hb dX8_readPart_118 ?_
  refine lv_iload_n hx hb dX8_readPart_119 rfl (lv_at hl 2 rfl) ?_
  refine lv_iadd hx hb dX8_readPart_120 ?_
  obtain ⟨g6, σ7, eσ7, h⟩ := wr_some h
  refine x_ist C hP hD hS 12 mw_12 g6 (ma_12 eσ7) dX8_readPart_121 (fun H locs hP hD hS => ?_)
  refine lv_aload_n hx hb dX8_readPart_122 rfl (lv_at hl 3 rfl) ?_
  refine x_get C hP inlX8 0 mw_0 rfl 20 (by decide) mw6_9 rfl dX8_readPart_123 ?_
  refine lv_iload hx hb dX8_readPart_126 (lv_at hl 0 rfl) ?_
  refine lv_iconst (v := 1) hx hb dX8_readPart_128 (by decide) ?_
  refine lv_iadd hx hb dX8_readPart_129 ?_
  refine lv_aload_n hx hb dX8_readPart_130 rfl (lv_at hl 3 rfl) ?_
  refine lv_iconst (v := 1) hx hb dX8_readPart_131 (by decide) ?_
  refine lv_iload hx hb dX8_readPart_132 (lv_at hl 1 rfl) ?_
  refine lv_bipush (v := 6) hx hb dX8_readPart_134 (by decide) ?_
  refine lv_icmp_ge (tgt := 144) hx hb dX8_readPart_136 (by decide) (fun q8 => ?_) (fun q8 => ?_)
  · have h := ifp q8 h
    refine lv_bipush (v := 6) hx hb dX8_readPart_144 (by decide) ?_
    exact w_X8_readPart_146 C hr x5 (x5 + (1 : Int32)) (1 : Int32) (6 : Int32) σ7 h H locs hP hD hS ls (lv_sub hl [3, 0] rfl)
  · have h := ifn q8 h
    refine lv_iload hx hb dX8_readPart_139 (lv_at hl 1 rfl) ?_
    refine lv_goto (tgt := 146) hx hb dX8_readPart_141 (by decide) ?_
    exact w_X8_readPart_146 C hr x5 (x5 + (1 : Int32)) (1 : Int32) x4 σ7 h H locs hP hD hS ls (lv_sub hl [3, 0] rfl)
set_option maxHeartbeats 4000000 in
set_option maxRecDepth 100000 in
theorem w_X8_readPart_0 (C : Cx p s m args meth c D cy tT tF A cX8_readPart 6 RX8) (hr : meth.sig.returnType = none) {σ' : ES} (a1 : Int32) (σ : ES) (h : b_X8_readPart_0 a1 σ = some σ') (H : Heap) (locs : List Loc) (hP : va_P D vwCl (mw cy ad σ) H) (hD : va_D A (mw cy ad σ)) (hS : va_S A s.heap H locs) (ls : Array Slot) (hl : lv_has ls 6 [(0, .ref (ad 0)), (1, .int a1)]) : W p l e { frames := 2, cells := 0, slots := 0, locals := 49 } s m args below meth c H locs 0 0 (MQ below (Qv D cy A (mw cy ad σ')) args s 0 0 A) (F0 m 0 ls []) := by
  obtain ⟨⟨hx, hb, hml, hown, hts⟩, hK, hT, hA, hlk⟩ := id C
  unfold b_X8_readPart_0 at h
  refine lv_iload_n hx hb dX8_readPart_0 rfl (lv_at hl 1 rfl) ?_
  refine lv_bipush (v := 67) hx hb dX8_readPart_1 (by decide) ?_
  refine lv_icmp_ne (tgt := 183) hx hb dX8_readPart_3 (by decide) (fun q1 => ?_) (fun q1 => ?_)
  · have h := ifn q1 h
    exact w_X8_readPart_183 C hr a1 σ h H locs hP hD hS ls (lv_sub hl [0, 1] rfl)
  · have h := ifp q1 h
    refine lv_aload_n hx hb dX8_readPart_6 rfl (lv_at hl 0 rfl) ?_
    refine x_get C hP inlX8 0 mw_0 rfl 17 (by decide) mw10_15 rfl dX8_readPart_7 ?_
    refine lv_iconst (v := 4) hx hb dX8_readPart_10 (by decide) ?_
    refine lv_icmp_ge (tgt := 183) hx hb dX8_readPart_11 (by decide) (fun q2 => ?_) (fun q2 => ?_)
    · have h := ifp q2 h
      exact w_X8_readPart_183 C hr a1 σ h H locs hP hD hS ls (lv_sub hl [0, 1] rfl)
    · have h := ifn q2 h
      refine lv_aload_n hx hb dX8_readPart_14 rfl (lv_at hl 0 rfl) ?_
      refine x_get C hP inlX8 0 mw_0 rfl 16 (by decide) mw10_14 rfl dX8_readPart_15 ?_
      refine lv_if_le (tgt := 183) hx hb dX8_readPart_18 (by decide) (fun q3 => ?_) (fun q3 => ?_)
      · have h := ifp q3 h
        exact w_X8_readPart_183 C hr a1 σ h H locs hP hD hS ls (lv_sub hl [0, 1] rfl)
      · have h := ifn q3 h
        refine lv_aload_n hx hb dX8_readPart_21 rfl (lv_at hl 0 rfl) ?_
        refine lv_dup hx hb dX8_readPart_22 rfl ?_
        refine x_get C hP inlX8 0 mw_0 rfl 14 (by decide) mw10_12 rfl dX8_readPart_23 ?_
        refine lv_iconst (v := 1) hx hb dX8_readPart_26 (by decide) ?_
        refine lv_iadd hx hb dX8_readPart_27 ?_
        obtain ⟨σ4, eσ4, h⟩ := lt_some h
        refine x_put C hP hD hS inlX8 tyX8 tyX8_ok nmX8 0 mw_0 rfl 14 (by decide) mw10_12 rfl rfl rfl (Nat.le_of_ble_eq_true rfl) (ms_0_14 eσ4) dX8_readPart_28 (fun H locs hP hD hS => ?_)
        refine lv_aload_n hx hb dX8_readPart_31 rfl (lv_at hl 0 rfl) ?_
        refine lv_iconst (v := 0) hx hb dX8_readPart_32 (by decide) ?_
        refine lv_aload_n hx hb dX8_readPart_33 rfl (lv_at hl 0 rfl) ?_
        refine x_get C hP inlX8 0 mw_0 rfl 16 (by decide) mw10_14 rfl dX8_readPart_34 ?_
        refine lv_iconst (v := 1) hx hb dX8_readPart_37 (by decide) ?_
        refine lv_isub hx hb dX8_readPart_38 ?_
        refine lv_bipush (v := 10) hx hb dX8_readPart_39 (by decide) ?_
        refine lv_idiv hx hb dX8_readPart_41 (by decide) ?_
        refine lv_bipush (v := 48) hx hb dX8_readPart_42 (by decide) ?_
        obtain ⟨r7, σ6, g5, h⟩ := cs_some h
        refine x_callVi (rest := []) C hP hD hS (c_X8_figure g5) (cwV 3 hts (gV mw11_2 mw11_3 mw11_4 mw1_5 mw11_5) rfl rfl rfl hdV_X8_figure ⟨Nat.le_of_ble_eq_true rfl, Nat.le_of_ble_eq_true rfl⟩) mw_0 rfl rfl hl.1 rfl (Nat.le_of_ble_eq_true rfl) dX8_readPart_44 ⟨Nat.zero_le _, Nat.zero_le _⟩ (fun H locs hP hD hS => ?_)
        refine lv_istore_n (lv' := [(2, .int r7), (0, .ref (ad 0)), (1, .int a1)]) hx hb dX8_readPart_47 rfl hl (by decide) rfl (fun ls hl => ?_)
        refine lv_aload_n hx hb dX8_readPart_48 rfl (lv_at hl 1 rfl) ?_
        refine lv_iconst (v := 0) hx hb dX8_readPart_49 (by decide) ?_
        refine lv_aload_n hx hb dX8_readPart_50 rfl (lv_at hl 1 rfl) ?_
        refine x_get C hP inlX8 0 mw_0 rfl 16 (by decide) mw10_14 rfl dX8_readPart_51 ?_
        refine lv_iconst (v := 1) hx hb dX8_readPart_54 (by decide) ?_
        refine lv_isub hx hb dX8_readPart_55 ?_
        refine lv_bipush (v := 10) hx hb dX8_readPart_56 (by decide) ?_
        refine lv_iload_n hx hb dX8_readPart_58 rfl (lv_at hl 0 rfl) ?_
        refine lv_imul hx hb dX8_readPart_59 ?_
        refine lv_isub hx hb dX8_readPart_60 ?_
        refine lv_bipush (v := 9) hx hb dX8_readPart_61 (by decide) ?_
        refine lv_icmp_ge (tgt := 80) hx hb dX8_readPart_63 (by decide) (fun q8 => ?_) (fun q8 => ?_)
        · have h := ifp q8 h
          refine lv_bipush (v := 9) hx hb dX8_readPart_80 (by decide) ?_
          exact w_X8_readPart_82 C hr r7 (0 : Int32) (9 : Int32) σ6 h H locs hP hD hS ls (lv_sub hl [1, 0] rfl)
        · have h := ifn q8 h
          refine lv_aload_n hx hb dX8_readPart_66 rfl (lv_at hl 1 rfl) ?_
          refine x_get C hP inlX8 0 mw_0 rfl 16 (by decide) mw10_14 rfl dX8_readPart_67 ?_
          refine lv_iconst (v := 1) hx hb dX8_readPart_70 (by decide) ?_
          refine lv_isub hx hb dX8_readPart_71 ?_
          refine lv_bipush (v := 10) hx hb dX8_readPart_72 (by decide) ?_
          refine lv_iload_n hx hb dX8_readPart_74 rfl (lv_at hl 0 rfl) ?_
          refine lv_imul hx hb dX8_readPart_75 ?_
          refine lv_isub hx hb dX8_readPart_76 ?_
          refine lv_goto (tgt := 82) hx hb dX8_readPart_77 (by decide) ?_
          exact w_X8_readPart_82 C hr r7 (0 : Int32) (((σ6.1 0 16) - (1 : Int32)) - ((10 : Int32) * r7)) σ6 h H locs hP hD hS ls (lv_sub hl [1, 0] rfl)
theorem c_X8_readPart {l : Launch} {D : va_G} {cy : Nat → ClassId} {tT tF : Nat} {ad : Nat → Nat} {σ : ES} {a1 : Int32} {σ' : ES} (h : e_X8_readPart a1 σ = some σ') : CMv l yX8_readPart (Cond.code yX8_readPart cX8_readPart 6 none :: wsL_law) { frames := 2, cells := 0, slots := 0, locals := 49 } D cy tT tF [.ref (ad 0), .int a1] (mw cy ad σ) (mw cy ad σ') := x_start (Qc := fun A => (Qv D cy A (mw cy ad σ'))) (by decide) (Nat.le_of_ble_eq_true rfl) (fun p e s m below meth c A ls C hr hP hD hS hl => w_X8_readPart_0 C hr a1 σ h s.heap [] hP hD hS ls hl)
set_option maxHeartbeats 4000000 in
set_option maxRecDepth 100000 in
theorem w_X8_readText_132 (C : Cx p s m args meth c D cy tT tF A cX8_readText 1 RX8) (hr : meth.sig.returnType = some .int) {r : Int32} {σ' : ES} : ∀ (n : Nat) (σ : ES), b_X8_readText_132 n σ = some (r, σ') → ∀ (H : Heap) (locs : List Loc) (hP : va_P D vwCl (mw cy ad σ) H) (hD : va_D A (mw cy ad σ)) (hS : va_S A s.heap H locs) (ls : Array Slot) (hl : lv_has ls 1 [(0, .ref (ad 0))]), W p l e { frames := 3, cells := 0, slots := 0, locals := 74 } s m args below meth c H locs 0 0 (MQ below (Qi D cy A r (mw cy ad σ')) args s 0 0 A) (F0 m 132 ls []) := by
  obtain ⟨⟨hx, hb, hml, hown, hts⟩, hK, hT, hA, hlk⟩ := id C
  intro n
  induction n with
  | zero =>
    intro σ h
    exact no_some h
  | succ n ih =>
    intro σ h H locs hP hD hS ls hl
    rw [b_X8_readText_132] at h
    refine lv_aload_n hx hb dX8_readText_132 rfl (lv_at hl 0 rfl) ?_
    refine x_get C hP inlX8 0 mw_0 rfl 15 (by decide) mw10_13 rfl dX8_readText_133 ?_
    refine lv_bipush (v := -9) hx hb dX8_readText_136 (by decide) ?_
    refine lv_icmp_ne (tgt := 168) hx hb dX8_readText_138 (by decide) (fun q1 => ?_) (fun q1 => ?_)
    · have h := ifn q1 h
      refine lv_aload_n hx hb dX8_readText_168 rfl (lv_at hl 0 rfl) ?_
      refine x_get C hP inlX8 0 mw_0 rfl 15 (by decide) mw10_13 rfl dX8_readText_169 ?_
      obtain ⟨z1, z2⟩ := pr_inj h
      subst z1
      subst z2
      exact x_iret C hr hP hD hS dX8_readText_172
    · have h := ifp q1 h
      refine lv_aload_n hx hb dX8_readText_141 rfl (lv_at hl 0 rfl) ?_
      refine x_get C hP inlX8 0 mw_0 rfl 14 (by decide) mw10_12 rfl dX8_readText_142 ?_
      refine lv_aload_n hx hb dX8_readText_145 rfl (lv_at hl 0 rfl) ?_
      refine x_get C hP inlX8 0 mw_0 rfl 13 (by decide) mw7_9 rfl dX8_readText_146 ?_
      refine lv_icmp_ge (tgt := 168) hx hb dX8_readText_149 (by decide) (fun q2 => ?_) (fun q2 => ?_)
      · have h := ifp q2 h
        refine lv_aload_n hx hb dX8_readText_168 rfl (lv_at hl 0 rfl) ?_
        refine x_get C hP inlX8 0 mw_0 rfl 15 (by decide) mw10_13 rfl dX8_readText_169 ?_
        obtain ⟨z1, z2⟩ := pr_inj h
        subst z1
        subst z2
        exact x_iret C hr hP hD hS dX8_readText_172
      · have h := ifn q2 h
        refine lv_aload_n hx hb dX8_readText_152 rfl (lv_at hl 0 rfl) ?_
        refine lv_aload_n hx hb dX8_readText_153 rfl (lv_at hl 0 rfl) ?_
        refine x_get C hP inlX8 0 mw_0 rfl 12 (by decide) mw6_7 rfl dX8_readText_154 ?_
        refine lv_aload_n hx hb dX8_readText_157 rfl (lv_at hl 0 rfl) ?_
        refine x_get C hP inlX8 0 mw_0 rfl 14 (by decide) mw10_12 rfl dX8_readText_158 ?_
        obtain ⟨g3, x4, ex4, h⟩ := rd_some h
        refine x_ild C hP 10 mw_10 g3 ex4 dX8_readText_161 ?_
        obtain ⟨σ6, g5, h⟩ := cl_some h
        refine x_callVv (rest := []) C hP hD hS (c_X8_readPart g5) (cwV 1 hts (gV mw10_22 mw10_23 mw11_0 mw1_5 mw11_1) rfl rfl rfl hdV_X8_readPart ⟨Nat.le_of_ble_eq_true rfl, Nat.le_of_ble_eq_true rfl⟩) mw_0 rfl rfl hl.1 rfl (Nat.le_of_ble_eq_true rfl) dX8_readText_162 ⟨Nat.zero_le _, Nat.zero_le _⟩ (fun H locs hP hD hS => ?_)
        refine lv_goto (tgt := 132) hx hb dX8_readText_165 (by decide) ?_
        exact ih σ6 h H locs hP hD hS ls (lv_sub hl [0] rfl)
set_option maxHeartbeats 4000000 in
set_option maxRecDepth 100000 in
theorem w_X8_readText_51 (C : Cx p s m args meth c D cy tT tF A cX8_readText 1 RX8) (hr : meth.sig.returnType = some .int) {r : Int32} {σ' : ES} : ∀ (n : Nat) (σ : ES), b_X8_readText_51 n σ = some (r, σ') → ∀ (H : Heap) (locs : List Loc) (hP : va_P D vwCl (mw cy ad σ) H) (hD : va_D A (mw cy ad σ)) (hS : va_S A s.heap H locs) (ls : Array Slot) (hl : lv_has ls 1 [(0, .ref (ad 0))]), W p l e { frames := 3, cells := 0, slots := 0, locals := 74 } s m args below meth c H locs 0 0 (MQ below (Qi D cy A r (mw cy ad σ')) args s 0 0 A) (F0 m 51 ls []) := by
  obtain ⟨⟨hx, hb, hml, hown, hts⟩, hK, hT, hA, hlk⟩ := id C
  intro n
  induction n with
  | zero =>
    intro σ h
    exact no_some h
  | succ n ih =>
    intro σ h H locs hP hD hS ls hl
    rw [b_X8_readText_51] at h
    refine lv_aload_n hx hb dX8_readText_51 rfl (lv_at hl 0 rfl) ?_
    refine x_get C hP inlX8 0 mw_0 rfl 14 (by decide) mw10_12 rfl dX8_readText_52 ?_
    refine lv_aload_n hx hb dX8_readText_55 rfl (lv_at hl 0 rfl) ?_
    refine x_get C hP inlX8 0 mw_0 rfl 13 (by decide) mw7_9 rfl dX8_readText_56 ?_
    refine lv_icmp_ge (tgt := 132) hx hb dX8_readText_59 (by decide) (fun q1 => ?_) (fun q1 => ?_)
    · have h := ifp q1 h
      exact w_X8_readText_132 C hr FU σ h H locs hP hD hS ls (lv_sub hl [0] rfl)
    · have h := ifn q1 h
      refine lv_aload_n hx hb dX8_readText_62 rfl (lv_at hl 0 rfl) ?_
      refine x_get C hP inlX8 0 mw_0 rfl 16 (by decide) mw10_14 rfl dX8_readText_63 ?_
      refine lv_bipush (v := 12) hx hb dX8_readText_66 (by decide) ?_
      refine lv_icmp_ge (tgt := 132) hx hb dX8_readText_68 (by decide) (fun q2 => ?_) (fun q2 => ?_)
      · have h := ifp q2 h
        exact w_X8_readText_132 C hr FU σ h H locs hP hD hS ls (lv_sub hl [0] rfl)
      · have h := ifn q2 h
        refine lv_aload_n hx hb dX8_readText_71 rfl (lv_at hl 0 rfl) ?_
        refine x_get C hP inlX8 0 mw_0 rfl 12 (by decide) mw6_7 rfl dX8_readText_72 ?_
        refine lv_aload_n hx hb dX8_readText_75 rfl (lv_at hl 0 rfl) ?_
        refine x_get C hP inlX8 0 mw_0 rfl 14 (by decide) mw10_12 rfl dX8_readText_76 ?_
        obtain ⟨g3, x4, ex4, h⟩ := rd_some h
        refine x_ild C hP 10 mw_10 g3 ex4 dX8_readText_79 ?_
        obtain ⟨r6, g5, h⟩ := cl_some h
        refine x_callSi (rest := []) C hP hD hS (c_X8_giftOf g5) (va_cwS 1 hts (gS mw10_17 mw10_18 mw1_5 mw10_19) rfl rfl rfl hdS_X8_giftOf ⟨Nat.le_of_ble_eq_true rfl, Nat.le_of_ble_eq_true rfl⟩) rfl hl.1 rfl (Nat.le_of_ble_eq_true rfl) dX8_readText_80 ⟨Nat.zero_le _, Nat.zero_le _⟩ (fun H locs hP hD hS => ?_)
        refine lv_bipush (v := -9) hx hb dX8_readText_83 (by decide) ?_
        refine lv_icmp_eq (tgt := 132) hx hb dX8_readText_85 (by decide) (fun q7 => ?_) (fun q7 => ?_)
        · have h := ifp q7 h
          exact w_X8_readText_132 C hr FU σ h H locs hP hD hS ls (lv_sub hl [0] rfl)
        · have h := ifn q7 h
          refine lv_aload_n hx hb dX8_readText_88 rfl (lv_at hl 0 rfl) ?_
          refine x_get C hP inlX8 0 mw_0 rfl 19 (by decide) mw6_8 rfl dX8_readText_89 ?_
          refine lv_aload_n hx hb dX8_readText_92 rfl (lv_at hl 0 rfl) ?_
          refine x_get C hP inlX8 0 mw_0 rfl 16 (by decide) mw10_14 rfl dX8_readText_93 ?_
          refine lv_aload_n hx hb dX8_readText_96 rfl (lv_at hl 0 rfl) ?_
          refine x_get C hP inlX8 0 mw_0 rfl 12 (by decide) mw6_7 rfl dX8_readText_97 ?_
          refine lv_aload_n hx hb dX8_readText_100 rfl (lv_at hl 0 rfl) ?_
          refine x_get C hP inlX8 0 mw_0 rfl 14 (by decide) mw10_12 rfl dX8_readText_101 ?_
          obtain ⟨g8, x9, ex9, h⟩ := rd_some h
          refine x_ild C hP 10 mw_10 g8 ex9 dX8_readText_104 ?_
          obtain ⟨r11, g10, h⟩ := cl_some h
          refine x_callSi (rest := [.int (σ.1 0 16), .ref (ad 11)]) C hP hD hS (c_X8_giftOf g10) (va_cwS 1 hts (gS mw10_17 mw10_18 mw1_5 mw10_19) rfl rfl rfl hdS_X8_giftOf ⟨Nat.le_of_ble_eq_true rfl, Nat.le_of_ble_eq_true rfl⟩) rfl hl.1 rfl (Nat.le_of_ble_eq_true rfl) dX8_readText_105 ⟨Nat.zero_le _, Nat.zero_le _⟩ (fun H locs hP hD hS => ?_)
          obtain ⟨g12, σ13, eσ13, h⟩ := wr_some h
          refine x_ist C hP hD hS 11 mw_11 g12 (ma_11 eσ13) dX8_readText_108 (fun H locs hP hD hS => ?_)
          refine lv_aload_n hx hb dX8_readText_109 rfl (lv_at hl 0 rfl) ?_
          refine lv_dup hx hb dX8_readText_110 rfl ?_
          refine x_get C hP inlX8 0 mw_0 rfl 16 (by decide) mw10_14 rfl dX8_readText_111 ?_
          refine lv_iconst (v := 1) hx hb dX8_readText_114 (by decide) ?_
          refine lv_iadd hx hb dX8_readText_115 ?_
          obtain ⟨σ14, eσ14, h⟩ := lt_some h
          refine x_put C hP hD hS inlX8 tyX8 tyX8_ok nmX8 0 mw_0 rfl 16 (by decide) mw10_14 rfl rfl rfl (Nat.le_of_ble_eq_true rfl) (ms_0_16 eσ14) dX8_readText_116 (fun H locs hP hD hS => ?_)
          refine lv_aload_n hx hb dX8_readText_119 rfl (lv_at hl 0 rfl) ?_
          refine lv_dup hx hb dX8_readText_120 rfl ?_
          refine x_get C hP inlX8 0 mw_0 rfl 14 (by decide) mw10_12 rfl dX8_readText_121 ?_
          refine lv_iconst (v := 1) hx hb dX8_readText_124 (by decide) ?_
          refine lv_iadd hx hb dX8_readText_125 ?_
          obtain ⟨σ15, eσ15, h⟩ := lt_some h
          refine x_put C hP hD hS inlX8 tyX8 tyX8_ok nmX8 0 mw_0 rfl 14 (by decide) mw10_12 rfl rfl rfl (Nat.le_of_ble_eq_true rfl) (ms_0_14 eσ15) dX8_readText_126 (fun H locs hP hD hS => ?_)
          refine lv_goto (tgt := 51) hx hb dX8_readText_129 (by decide) ?_
          exact ih σ15 h H locs hP hD hS ls (lv_sub hl [0] rfl)
set_option maxHeartbeats 4000000 in
set_option maxRecDepth 100000 in
theorem w_X8_readText_0 (C : Cx p s m args meth c D cy tT tF A cX8_readText 1 RX8) (hr : meth.sig.returnType = some .int) {r : Int32} {σ' : ES} (σ : ES) (h : b_X8_readText_0 σ = some (r, σ')) (H : Heap) (locs : List Loc) (hP : va_P D vwCl (mw cy ad σ) H) (hD : va_D A (mw cy ad σ)) (hS : va_S A s.heap H locs) (ls : Array Slot) (hl : lv_has ls 1 [(0, .ref (ad 0))]) : W p l e { frames := 3, cells := 0, slots := 0, locals := 74 } s m args below meth c H locs 0 0 (MQ below (Qi D cy A r (mw cy ad σ')) args s 0 0 A) (F0 m 0 ls []) := by
  obtain ⟨⟨hx, hb, hml, hown, hts⟩, hK, hT, hA, hlk⟩ := id C
  unfold b_X8_readText_0 at h
  refine lv_aload_n hx hb dX8_readText_0 rfl (lv_at hl 0 rfl) ?_
  refine lv_iconst (v := 0) hx hb dX8_readText_1 (by decide) ?_
  obtain ⟨σ1, eσ1, h⟩ := lt_some h
  refine x_put C hP hD hS inlX8 tyX8 tyX8_ok nmX8 0 mw_0 rfl 14 (by decide) mw10_12 rfl rfl rfl (Nat.le_of_ble_eq_true rfl) (ms_0_14 eσ1) dX8_readText_2 (fun H locs hP hD hS => ?_)
  refine lv_aload_n hx hb dX8_readText_5 rfl (lv_at hl 0 rfl) ?_
  refine lv_bipush (v := -9) hx hb dX8_readText_6 (by decide) ?_
  obtain ⟨σ2, eσ2, h⟩ := lt_some h
  refine x_put C hP hD hS inlX8 tyX8 tyX8_ok nmX8 0 mw_0 rfl 15 (by decide) mw10_13 rfl rfl rfl (Nat.le_of_ble_eq_true rfl) (ms_0_15 eσ2) dX8_readText_8 (fun H locs hP hD hS => ?_)
  refine lv_aload_n hx hb dX8_readText_11 rfl (lv_at hl 0 rfl) ?_
  refine lv_iconst (v := 0) hx hb dX8_readText_12 (by decide) ?_
  obtain ⟨σ3, eσ3, h⟩ := lt_some h
  refine x_put C hP hD hS inlX8 tyX8 tyX8_ok nmX8 0 mw_0 rfl 16 (by decide) mw10_14 rfl rfl rfl (Nat.le_of_ble_eq_true rfl) (ms_0_16 eσ3) dX8_readText_13 (fun H locs hP hD hS => ?_)
  refine lv_aload_n hx hb dX8_readText_16 rfl (lv_at hl 0 rfl) ?_
  refine lv_iconst (v := 0) hx hb dX8_readText_17 (by decide) ?_
  obtain ⟨σ4, eσ4, h⟩ := lt_some h
  refine x_put C hP hD hS inlX8 tyX8 tyX8_ok nmX8 0 mw_0 rfl 17 (by decide) mw10_15 rfl rfl rfl (Nat.le_of_ble_eq_true rfl) (ms_0_17 eσ4) dX8_readText_18 (fun H locs hP hD hS => ?_)
  refine lv_aload_n hx hb dX8_readText_21 rfl (lv_at hl 0 rfl) ?_
  refine lv_iconst (v := 0) hx hb dX8_readText_22 (by decide) ?_
  obtain ⟨σ5, eσ5, h⟩ := lt_some h
  refine x_put C hP hD hS inlX8 tyX8 tyX8_ok nmX8 0 mw_0 rfl 18 (by decide) mw10_16 rfl rfl rfl (Nat.le_of_ble_eq_true rfl) (ms_0_18 eσ5) dX8_readText_23 (fun H locs hP hD hS => ?_)
  refine lv_aload_n hx hb dX8_readText_26 rfl (lv_at hl 0 rfl) ?_
  refine x_get C hP inlX8 0 mw_0 rfl 13 (by decide) mw7_9 rfl dX8_readText_27 ?_
  refine lv_if_eq (tgt := 44) hx hb dX8_readText_30 (by decide) (fun q6 => ?_) (fun q6 => ?_)
  · have h := ifp q6 h
    refine lv_iconst (v := 0) hx hb dX8_readText_44 (by decide) ?_
    obtain ⟨z1, z2⟩ := pr_inj h
    subst z1
    subst z2
    exact x_iret C hr hP hD hS dX8_readText_45
  · have h := ifn q6 h
    refine lv_aload_n hx hb dX8_readText_33 rfl (lv_at hl 0 rfl) ?_
    refine x_get C hP inlX8 0 mw_0 rfl 12 (by decide) mw6_7 rfl dX8_readText_34 ?_
    refine lv_iconst (v := 0) hx hb dX8_readText_37 (by decide) ?_
    obtain ⟨g7, x8, ex8, h⟩ := rd_some h
    refine x_ild C hP 10 mw_10 g7 ex8 dX8_readText_38 ?_
    refine lv_bipush (v := 69) hx hb dX8_readText_39 (by decide) ?_
    refine lv_icmp_eq (tgt := 46) hx hb dX8_readText_41 (by decide) (fun q9 => ?_) (fun q9 => ?_)
    · have h := ifp q9 h
      refine lv_aload_n hx hb dX8_readText_46 rfl (lv_at hl 0 rfl) ?_
      refine lv_iconst (v := 1) hx hb dX8_readText_47 (by decide) ?_
      obtain ⟨σ10, eσ10, h⟩ := lt_some h
      refine x_put C hP hD hS inlX8 tyX8 tyX8_ok nmX8 0 mw_0 rfl 14 (by decide) mw10_12 rfl rfl rfl (Nat.le_of_ble_eq_true rfl) (ms_0_14 eσ10) dX8_readText_48 (fun H locs hP hD hS => ?_)
      exact w_X8_readText_51 C hr FU σ10 h H locs hP hD hS ls (lv_sub hl [0] rfl)
    · have h := ifn q9 h
      refine lv_iconst (v := 0) hx hb dX8_readText_44 (by decide) ?_
      obtain ⟨z1, z2⟩ := pr_inj h
      subst z1
      subst z2
      exact x_iret C hr hP hD hS dX8_readText_45
theorem c_X8_readText {l : Launch} {D : va_G} {cy : Nat → ClassId} {tT tF : Nat} {ad : Nat → Nat} {σ : ES} {r : Int32} {σ' : ES} (h : e_X8_readText  σ = some (r, σ')) : CMi l yX8_readText (Cond.code yX8_readText cX8_readText 1 (some .int) :: wsL_law) { frames := 3, cells := 0, slots := 0, locals := 74 } D cy tT tF [.ref (ad 0)] (mw cy ad σ) r (mw cy ad σ') := x_start (Qc := fun A => (Qi D cy A r (mw cy ad σ'))) (by decide) (Nat.le_of_ble_eq_true rfl) (fun p e s m below meth c A ls C hr hP hD hS hl => w_X8_readText_0 C hr  σ h s.heap [] hP hD hS ls hl)
set_option maxHeartbeats 4000000 in
set_option maxRecDepth 100000 in
theorem w_X8_fault_0 (C : Cx p s m args meth c D cy tT tF A cX8_fault 1 RX8) (hr : meth.sig.returnType = some .int) {r : Int32} {σ' : ES} (σ : ES) (h : b_X8_fault_0 σ = some (r, σ')) (H : Heap) (locs : List Loc) (hP : va_P D vwCl (mw cy ad σ) H) (hD : va_D A (mw cy ad σ)) (hS : va_S A s.heap H locs) (ls : Array Slot) (hl : lv_has ls 1 [(0, .ref (ad 0))]) : W p l e { frames := 4, cells := 0, slots := 0, locals := 94 } s m args below meth c H locs 0 0 (MQ below (Qi D cy A r (mw cy ad σ')) args s 0 0 A) (F0 m 0 ls []) := by
  obtain ⟨⟨hx, hb, hml, hown, hts⟩, hK, hT, hA, hlk⟩ := id C
  unfold b_X8_fault_0 at h
  refine lv_aload_n hx hb dX8_fault_0 rfl (lv_at hl 0 rfl) ?_
  obtain ⟨r3, σ2, g1, h⟩ := cs_some h
  refine x_callVi (rest := []) C hP hD hS (c_X8_readText g1) (cwV 0 hts (gV mw10_8 mw10_9 mw10_10 mw1_5 mw10_11) rfl rfl rfl hdV_X8_readText ⟨Nat.le_of_ble_eq_true rfl, Nat.le_of_ble_eq_true rfl⟩) mw_0 rfl rfl hl.1 rfl (Nat.le_of_ble_eq_true rfl) dX8_fault_1 ⟨Nat.zero_le _, Nat.zero_le _⟩ (fun H locs hP hD hS => ?_)
  obtain ⟨z1, z2⟩ := pr_inj h
  subst z1
  subst z2
  exact x_iret C hr hP hD hS dX8_fault_4
theorem c_X8_fault {l : Launch} {D : va_G} {cy : Nat → ClassId} {tT tF : Nat} {ad : Nat → Nat} {σ : ES} {r : Int32} {σ' : ES} (h : e_X8_fault  σ = some (r, σ')) : CMi l yX8_fault (Cond.code yX8_fault cX8_fault 1 (some .int) :: wsL_law) { frames := 4, cells := 0, slots := 0, locals := 94 } D cy tT tF [.ref (ad 0)] (mw cy ad σ) r (mw cy ad σ') := x_start (Qc := fun A => (Qi D cy A r (mw cy ad σ'))) (by decide) (Nat.le_of_ble_eq_true rfl) (fun p e s m below meth c A ls C hr hP hD hS hl => w_X8_fault_0 C hr  σ h s.heap [] hP hD hS ls hl)
set_option maxHeartbeats 4000000 in
set_option maxRecDepth 100000 in
theorem w_X8_party_64 (C : Cx p s m args meth c D cy tT tF A cX8_party 2 RX8) (hr : meth.sig.returnType = some .int) {r : Int32} {σ' : ES} : ∀ (n : Nat) (v1 : Int32) (σ : ES), b_X8_party_64 n v1 σ = some (r, σ') → ∀ (H : Heap) (locs : List Loc) (hP : va_P D vwCl (mw cy ad σ) H) (hD : va_D A (mw cy ad σ)) (hS : va_S A s.heap H locs) (ls : Array Slot) (hl : lv_has ls 2 [(0, .ref (ad 0)), (1, .int v1)]), W p l e { frames := 4, cells := 0, slots := 0, locals := 94 } s m args below meth c H locs 0 0 (MQ below (Qi D cy A r (mw cy ad σ')) args s 0 0 A) (F0 m 64 ls []) := by
  obtain ⟨⟨hx, hb, hml, hown, hts⟩, hK, hT, hA, hlk⟩ := id C
  intro n
  induction n with
  | zero =>
    intro v1 σ h
    exact no_some h
  | succ n ih =>
    intro v1 σ h H locs hP hD hS ls hl
    rw [b_X8_party_64] at h
    refine lv_iload_n hx hb dX8_party_64 rfl (lv_at hl 1 rfl) ?_
    refine lv_iconst (v := 4) hx hb dX8_party_65 (by decide) ?_
    refine lv_icmp_ge (tgt := 229) hx hb dX8_party_66 (by decide) (fun q1 => ?_) (fun q1 => ?_)
    · have h := ifp q1 h
      refine lv_aload_n hx hb dX8_party_229 rfl (lv_at hl 0 rfl) ?_
      refine x_get C hP inlX8 0 mw_0 rfl 11 (by decide) mw6_6 rfl dX8_party_230 ?_
      refine lv_bipush (v := 16) hx hb dX8_party_233 (by decide) ?_
      refine lv_iconst (v := 0) hx hb dX8_party_235 (by decide) ?_
      obtain ⟨g2, σ3, eσ3, h⟩ := wr_some h
      refine x_ist C hP hD hS 9 mw_9 g2 (ma_9 eσ3) dX8_party_236 (fun H locs hP hD hS => ?_)
      refine lv_aload_n hx hb dX8_party_237 rfl (lv_at hl 0 rfl) ?_
      refine x_get C hP inlX8 0 mw_0 rfl 11 (by decide) mw6_6 rfl dX8_party_238 ?_
      refine lv_bipush (v := 17) hx hb dX8_party_241 (by decide) ?_
      refine lv_iconst (v := 0) hx hb dX8_party_243 (by decide) ?_
      obtain ⟨g4, σ5, eσ5, h⟩ := wr_some h
      refine x_ist C hP hD hS 9 mw_9 g4 (ma_9 eσ5) dX8_party_244 (fun H locs hP hD hS => ?_)
      refine lv_aload_n hx hb dX8_party_245 rfl (lv_at hl 0 rfl) ?_
      refine lv_iconst (v := 0) hx hb dX8_party_246 (by decide) ?_
      obtain ⟨σ6, eσ6, h⟩ := lt_some h
      refine x_put C hP hD hS inlX8 tyX8 tyX8_ok nmX8 0 mw_0 rfl 22 (by decide) mw12_5 rfl rfl rfl (Nat.le_of_ble_eq_true rfl) (ms_0_22 eσ6) dX8_party_247 (fun H locs hP hD hS => ?_)
      refine lv_aload_n hx hb dX8_party_250 rfl (lv_at hl 0 rfl) ?_
      refine x_get C hP inlX8 0 mw_0 rfl 32 (by decide) mw6_17 rfl dX8_party_251 ?_
      refine lv_iconst (v := 0) hx hb dX8_party_254 (by decide) ?_
      refine lv_iconst (v := 0) hx hb dX8_party_255 (by decide) ?_
      obtain ⟨g7, σ8, eσ8, h⟩ := wr_some h
      refine x_zst C hP hD hS 20 mw_20 g7 rfl (ma_20 eσ8) dX8_party_256 (fun H locs hP hD hS => ?_)
      refine lv_aload_n hx hb dX8_party_257 rfl (lv_at hl 0 rfl) ?_
      refine x_get C hP inlX8 0 mw_0 rfl 32 (by decide) mw6_17 rfl dX8_party_258 ?_
      refine lv_iconst (v := 1) hx hb dX8_party_261 (by decide) ?_
      refine lv_iconst (v := 0) hx hb dX8_party_262 (by decide) ?_
      obtain ⟨g9, σ10, eσ10, h⟩ := wr_some h
      refine x_zst C hP hD hS 20 mw_20 g9 rfl (ma_20 eσ10) dX8_party_263 (fun H locs hP hD hS => ?_)
      refine lv_bipush (v := 10) hx hb dX8_party_264 (by decide) ?_
      refine lv_aload_n hx hb dX8_party_266 rfl (lv_at hl 0 rfl) ?_
      refine x_get C hP inlX8 0 mw_0 rfl 1 (by decide) mw12_3 rfl dX8_party_267 ?_
      refine lv_imul hx hb dX8_party_270 ?_
      refine lv_aload_n hx hb dX8_party_271 rfl (lv_at hl 0 rfl) ?_
      refine x_get C hP inlX8 0 mw_0 rfl 2 (by decide) mw12_4 rfl dX8_party_272 ?_
      refine lv_iadd hx hb dX8_party_275 ?_
      obtain ⟨z1, z2⟩ := pr_inj h
      subst z1
      subst z2
      exact x_iret C hr hP hD hS dX8_party_276
    · have h := ifn q1 h
      refine lv_aload_n hx hb dX8_party_69 rfl (lv_at hl 0 rfl) ?_
      refine x_get C hP inlX8 0 mw_0 rfl 4 (by decide) mw5_23 rfl dX8_party_70 ?_
      refine lv_iload_n hx hb dX8_party_73 rfl (lv_at hl 1 rfl) ?_
      refine lv_aload_n hx hb dX8_party_74 rfl (lv_at hl 0 rfl) ?_
      refine x_get C hP inlX8 0 mw_0 rfl 20 (by decide) mw6_9 rfl dX8_party_75 ?_
      refine lv_iconst (v := 3) hx hb dX8_party_78 (by decide) ?_
      refine lv_iload_n hx hb dX8_party_79 rfl (lv_at hl 1 rfl) ?_
      refine lv_imul hx hb dX8_party_80 ?_
      obtain ⟨g11, x12, ex12, h⟩ := rd_some h
      refine x_ild C hP 12 mw_12 g11 ex12 dX8_party_81 ?_
      obtain ⟨g13, σ14, eσ14, h⟩ := wr_some h
      refine x_ist C hP hD hS 2 mw_2 g13 (ma_2 eσ14) dX8_party_82 (fun H locs hP hD hS => ?_)
      refine lv_aload_n hx hb dX8_party_83 rfl (lv_at hl 0 rfl) ?_
      refine x_get C hP inlX8 0 mw_0 rfl 5 (by decide) mw6_0 rfl dX8_party_84 ?_
      refine lv_iload_n hx hb dX8_party_87 rfl (lv_at hl 1 rfl) ?_
      refine lv_aload_n hx hb dX8_party_88 rfl (lv_at hl 0 rfl) ?_
      refine x_get C hP inlX8 0 mw_0 rfl 20 (by decide) mw6_9 rfl dX8_party_89 ?_
      refine lv_iconst (v := 3) hx hb dX8_party_92 (by decide) ?_
      refine lv_iload_n hx hb dX8_party_93 rfl (lv_at hl 1 rfl) ?_
      refine lv_imul hx hb dX8_party_94 ?_
      refine lv_iconst (v := 1) hx hb dX8_party_95 (by decide) ?_
      refine lv_iadd hx hb dX8_party_96 ?_
      obtain ⟨g15, x16, ex16, h⟩ := rd_some h
      refine x_ild C hP 12 mw_12 g15 ex16 dX8_party_97 ?_
      obtain ⟨g17, σ18, eσ18, h⟩ := wr_some h
      refine x_ist C hP hD hS 3 mw_3 g17 (ma_3 eσ18) dX8_party_98 (fun H locs hP hD hS => ?_)
      refine lv_aload_n hx hb dX8_party_99 rfl (lv_at hl 0 rfl) ?_
      refine x_get C hP inlX8 0 mw_0 rfl 6 (by decide) mw6_1 rfl dX8_party_100 ?_
      refine lv_iload_n hx hb dX8_party_103 rfl (lv_at hl 1 rfl) ?_
      refine lv_aload_n hx hb dX8_party_104 rfl (lv_at hl 0 rfl) ?_
      refine x_get C hP inlX8 0 mw_0 rfl 20 (by decide) mw6_9 rfl dX8_party_105 ?_
      refine lv_iconst (v := 3) hx hb dX8_party_108 (by decide) ?_
      refine lv_iload_n hx hb dX8_party_109 rfl (lv_at hl 1 rfl) ?_
      refine lv_imul hx hb dX8_party_110 ?_
      refine lv_iconst (v := 2) hx hb dX8_party_111 (by decide) ?_
      refine lv_iadd hx hb dX8_party_112 ?_
      obtain ⟨g19, x20, ex20, h⟩ := rd_some h
      refine x_ild C hP 12 mw_12 g19 ex20 dX8_party_113 ?_
      obtain ⟨g21, σ22, eσ22, h⟩ := wr_some h
      refine x_ist C hP hD hS 4 mw_4 g21 (ma_4 eσ22) dX8_party_114 (fun H locs hP hD hS => ?_)
      refine lv_aload_n hx hb dX8_party_115 rfl (lv_at hl 0 rfl) ?_
      refine x_get C hP inlX8 0 mw_0 rfl 11 (by decide) mw6_6 rfl dX8_party_116 ?_
      refine lv_iload_n hx hb dX8_party_119 rfl (lv_at hl 1 rfl) ?_
      refine lv_aload_n hx hb dX8_party_120 rfl (lv_at hl 0 rfl) ?_
      refine x_get C hP inlX8 0 mw_0 rfl 4 (by decide) mw5_23 rfl dX8_party_121 ?_
      refine lv_iload_n hx hb dX8_party_124 rfl (lv_at hl 1 rfl) ?_
      obtain ⟨g23, x24, ex24, h⟩ := rd_some h
      refine x_ild C hP 2 mw_2 g23 ex24 dX8_party_125 ?_
      obtain ⟨g25, σ26, eσ26, h⟩ := wr_some h
      refine x_ist C hP hD hS 9 mw_9 g25 (ma_9 eσ26) dX8_party_126 (fun H locs hP hD hS => ?_)
      refine lv_aload_n hx hb dX8_party_127 rfl (lv_at hl 0 rfl) ?_
      refine x_get C hP inlX8 0 mw_0 rfl 11 (by decide) mw6_6 rfl dX8_party_128 ?_
      refine lv_iconst (v := 4) hx hb dX8_party_131 (by decide) ?_
      refine lv_iload_n hx hb dX8_party_132 rfl (lv_at hl 1 rfl) ?_
      refine lv_iadd hx hb dX8_party_133 ?_
      refine lv_aload_n hx hb dX8_party_134 rfl (lv_at hl 0 rfl) ?_
      refine x_get C hP inlX8 0 mw_0 rfl 5 (by decide) mw6_0 rfl dX8_party_135 ?_
      refine lv_iload_n hx hb dX8_party_138 rfl (lv_at hl 1 rfl) ?_
      obtain ⟨g27, x28, ex28, h⟩ := rd_some h
      refine x_ild C hP 3 mw_3 g27 ex28 dX8_party_139 ?_
      obtain ⟨g29, σ30, eσ30, h⟩ := wr_some h
      refine x_ist C hP hD hS 9 mw_9 g29 (ma_9 eσ30) dX8_party_140 (fun H locs hP hD hS => ?_)
      refine lv_aload_n hx hb dX8_party_141 rfl (lv_at hl 0 rfl) ?_
      refine x_get C hP inlX8 0 mw_0 rfl 11 (by decide) mw6_6 rfl dX8_party_142 ?_
      refine lv_bipush (v := 8) hx hb dX8_party_145 (by decide) ?_
      refine lv_iload_n hx hb dX8_party_147 rfl (lv_at hl 1 rfl) ?_
      refine lv_iadd hx hb dX8_party_148 ?_
      refine lv_iconst (v := 0) hx hb dX8_party_149 (by decide) ?_
      obtain ⟨g31, σ32, eσ32, h⟩ := wr_some h
      refine x_ist C hP hD hS 9 mw_9 g31 (ma_9 eσ32) dX8_party_150 (fun H locs hP hD hS => ?_)
      refine lv_aload_n hx hb dX8_party_151 rfl (lv_at hl 0 rfl) ?_
      refine x_get C hP inlX8 0 mw_0 rfl 11 (by decide) mw6_6 rfl dX8_party_152 ?_
      refine lv_bipush (v := 12) hx hb dX8_party_155 (by decide) ?_
      refine lv_iload_n hx hb dX8_party_157 rfl (lv_at hl 1 rfl) ?_
      refine lv_iadd hx hb dX8_party_158 ?_
      refine lv_iconst (v := 0) hx hb dX8_party_159 (by decide) ?_
      obtain ⟨g33, σ34, eσ34, h⟩ := wr_some h
      refine x_ist C hP hD hS 9 mw_9 g33 (ma_9 eσ34) dX8_party_160 (fun H locs hP hD hS => ?_)
      refine lv_aload_n hx hb dX8_party_161 rfl (lv_at hl 0 rfl) ?_
      refine x_get C hP inlX8 0 mw_0 rfl 7 (by decide) mw6_2 rfl dX8_party_162 ?_
      refine lv_iload_n hx hb dX8_party_165 rfl (lv_at hl 1 rfl) ?_
      refine lv_aload_n hx hb dX8_party_166 rfl (lv_at hl 0 rfl) ?_
      refine x_get C hP inlX8 0 mw_0 rfl 21 (by decide) mw6_10 rfl dX8_party_167 ?_
      refine lv_iconst (v := 4) hx hb dX8_party_170 (by decide) ?_
      refine lv_iload_n hx hb dX8_party_171 rfl (lv_at hl 1 rfl) ?_
      refine lv_imul hx hb dX8_party_172 ?_
      obtain ⟨g35, x36, ex36, h⟩ := rd_some h
      refine x_ild C hP 13 mw_13 g35 ex36 dX8_party_173 ?_
      obtain ⟨g37, σ38, eσ38, h⟩ := wr_some h
      refine x_ist C hP hD hS 5 mw_5 g37 (ma_5 eσ38) dX8_party_174 (fun H locs hP hD hS => ?_)
      refine lv_aload_n hx hb dX8_party_175 rfl (lv_at hl 0 rfl) ?_
      refine x_get C hP inlX8 0 mw_0 rfl 8 (by decide) mw6_3 rfl dX8_party_176 ?_
      refine lv_iload_n hx hb dX8_party_179 rfl (lv_at hl 1 rfl) ?_
      refine lv_aload_n hx hb dX8_party_180 rfl (lv_at hl 0 rfl) ?_
      refine x_get C hP inlX8 0 mw_0 rfl 21 (by decide) mw6_10 rfl dX8_party_181 ?_
      refine lv_iconst (v := 4) hx hb dX8_party_184 (by decide) ?_
      refine lv_iload_n hx hb dX8_party_185 rfl (lv_at hl 1 rfl) ?_
      refine lv_imul hx hb dX8_party_186 ?_
      refine lv_iconst (v := 1) hx hb dX8_party_187 (by decide) ?_
      refine lv_iadd hx hb dX8_party_188 ?_
      obtain ⟨g39, x40, ex40, h⟩ := rd_some h
      refine x_ild C hP 13 mw_13 g39 ex40 dX8_party_189 ?_
      obtain ⟨g41, σ42, eσ42, h⟩ := wr_some h
      refine x_ist C hP hD hS 6 mw_6 g41 (ma_6 eσ42) dX8_party_190 (fun H locs hP hD hS => ?_)
      refine lv_aload_n hx hb dX8_party_191 rfl (lv_at hl 0 rfl) ?_
      refine x_get C hP inlX8 0 mw_0 rfl 9 (by decide) mw6_4 rfl dX8_party_192 ?_
      refine lv_iload_n hx hb dX8_party_195 rfl (lv_at hl 1 rfl) ?_
      refine lv_aload_n hx hb dX8_party_196 rfl (lv_at hl 0 rfl) ?_
      refine x_get C hP inlX8 0 mw_0 rfl 21 (by decide) mw6_10 rfl dX8_party_197 ?_
      refine lv_iconst (v := 4) hx hb dX8_party_200 (by decide) ?_
      refine lv_iload_n hx hb dX8_party_201 rfl (lv_at hl 1 rfl) ?_
      refine lv_imul hx hb dX8_party_202 ?_
      refine lv_iconst (v := 2) hx hb dX8_party_203 (by decide) ?_
      refine lv_iadd hx hb dX8_party_204 ?_
      obtain ⟨g43, x44, ex44, h⟩ := rd_some h
      refine x_ild C hP 13 mw_13 g43 ex44 dX8_party_205 ?_
      obtain ⟨g45, σ46, eσ46, h⟩ := wr_some h
      refine x_ist C hP hD hS 7 mw_7 g45 (ma_7 eσ46) dX8_party_206 (fun H locs hP hD hS => ?_)
      refine lv_aload_n hx hb dX8_party_207 rfl (lv_at hl 0 rfl) ?_
      refine x_get C hP inlX8 0 mw_0 rfl 10 (by decide) mw6_5 rfl dX8_party_208 ?_
      refine lv_iload_n hx hb dX8_party_211 rfl (lv_at hl 1 rfl) ?_
      refine lv_aload_n hx hb dX8_party_212 rfl (lv_at hl 0 rfl) ?_
      refine x_get C hP inlX8 0 mw_0 rfl 21 (by decide) mw6_10 rfl dX8_party_213 ?_
      refine lv_iconst (v := 4) hx hb dX8_party_216 (by decide) ?_
      refine lv_iload_n hx hb dX8_party_217 rfl (lv_at hl 1 rfl) ?_
      refine lv_imul hx hb dX8_party_218 ?_
      refine lv_iconst (v := 3) hx hb dX8_party_219 (by decide) ?_
      refine lv_iadd hx hb dX8_party_220 ?_
      obtain ⟨g47, x48, ex48, h⟩ := rd_some h
      refine x_ild C hP 13 mw_13 g47 ex48 dX8_party_221 ?_
      obtain ⟨g49, σ50, eσ50, h⟩ := wr_some h
      refine x_ist C hP hD hS 8 mw_8 g49 (ma_8 eσ50) dX8_party_222 (fun H locs hP hD hS => ?_)
      obtain ⟨x51, ex51, h⟩ := lt_some h
      refine lv_iinc (v := x51) (lv' := [(1, .int x51), (0, .ref (ad 0))]) hx hb dX8_party_223 hl (k := 1) rfl (by rw [ex51]; rfl) (by decide) rfl (fun ls hl => ?_)
      refine lv_goto (tgt := 64) hx hb dX8_party_226 (by decide) ?_
      exact ih x51 σ50 h H locs hP hD hS ls (lv_sub hl [1, 0] rfl)
set_option maxHeartbeats 4000000 in
set_option maxRecDepth 100000 in
theorem w_X8_party_38 (C : Cx p s m args meth c D cy tT tF A cX8_party 2 RX8) (hr : meth.sig.returnType = some .int) {r : Int32} {σ' : ES} : ∀ (n : Nat) (v1 : Int32) (σ : ES), b_X8_party_38 n v1 σ = some (r, σ') → ∀ (H : Heap) (locs : List Loc) (hP : va_P D vwCl (mw cy ad σ) H) (hD : va_D A (mw cy ad σ)) (hS : va_S A s.heap H locs) (ls : Array Slot) (hl : lv_has ls 2 [(0, .ref (ad 0)), (1, .int v1)]), W p l e { frames := 4, cells := 0, slots := 0, locals := 94 } s m args below meth c H locs 0 0 (MQ below (Qi D cy A r (mw cy ad σ')) args s 0 0 A) (F0 m 38 ls []) := by
  obtain ⟨⟨hx, hb, hml, hown, hts⟩, hK, hT, hA, hlk⟩ := id C
  intro n
  induction n with
  | zero =>
    intro v1 σ h
    exact no_some h
  | succ n ih =>
    intro v1 σ h H locs hP hD hS ls hl
    rw [b_X8_party_38] at h
    refine lv_iload_n hx hb dX8_party_38 rfl (lv_at hl 1 rfl) ?_
    refine lv_bipush (v := 12) hx hb dX8_party_39 (by decide) ?_
    refine lv_icmp_ge (tgt := 62) hx hb dX8_party_41 (by decide) (fun q1 => ?_) (fun q1 => ?_)
    · have h := ifp q1 h
      refine lv_iconst (v := 0) hx hb dX8_party_62 (by decide) ?_
      refine lv_istore_n (lv' := [(1, .int (0 : Int32)), (0, .ref (ad 0))]) hx hb dX8_party_63 rfl hl (by decide) rfl (fun ls hl => ?_)
      exact w_X8_party_64 C hr FU (0 : Int32) σ h H locs hP hD hS ls (lv_sub hl [1, 0] rfl)
    · have h := ifn q1 h
      refine lv_aload_n hx hb dX8_party_44 rfl (lv_at hl 0 rfl) ?_
      refine x_get C hP inlX8 0 mw_0 rfl 3 (by decide) mw5_22 rfl dX8_party_45 ?_
      refine lv_iload_n hx hb dX8_party_48 rfl (lv_at hl 1 rfl) ?_
      refine lv_aload_n hx hb dX8_party_49 rfl (lv_at hl 0 rfl) ?_
      refine x_get C hP inlX8 0 mw_0 rfl 19 (by decide) mw6_8 rfl dX8_party_50 ?_
      refine lv_iload_n hx hb dX8_party_53 rfl (lv_at hl 1 rfl) ?_
      obtain ⟨g2, x3, ex3, h⟩ := rd_some h
      refine x_ild C hP 11 mw_11 g2 ex3 dX8_party_54 ?_
      obtain ⟨g4, σ5, eσ5, h⟩ := wr_some h
      refine x_ist C hP hD hS 1 mw_1 g4 (ma_1 eσ5) dX8_party_55 (fun H locs hP hD hS => ?_)
      obtain ⟨x6, ex6, h⟩ := lt_some h
      refine lv_iinc (v := x6) (lv' := [(1, .int x6), (0, .ref (ad 0))]) hx hb dX8_party_56 hl (k := 1) rfl (by rw [ex6]; rfl) (by decide) rfl (fun ls hl => ?_)
      refine lv_goto (tgt := 38) hx hb dX8_party_59 (by decide) ?_
      exact ih x6 σ5 h H locs hP hD hS ls (lv_sub hl [1, 0] rfl)
set_option maxHeartbeats 4000000 in
set_option maxRecDepth 100000 in
theorem w_X8_party_0 (C : Cx p s m args meth c D cy tT tF A cX8_party 2 RX8) (hr : meth.sig.returnType = some .int) {r : Int32} {σ' : ES} (σ : ES) (h : b_X8_party_0 σ = some (r, σ')) (H : Heap) (locs : List Loc) (hP : va_P D vwCl (mw cy ad σ) H) (hD : va_D A (mw cy ad σ)) (hS : va_S A s.heap H locs) (ls : Array Slot) (hl : lv_has ls 2 [(0, .ref (ad 0))]) : W p l e { frames := 4, cells := 0, slots := 0, locals := 94 } s m args below meth c H locs 0 0 (MQ below (Qi D cy A r (mw cy ad σ')) args s 0 0 A) (F0 m 0 ls []) := by
  obtain ⟨⟨hx, hb, hml, hown, hts⟩, hK, hT, hA, hlk⟩ := id C
  unfold b_X8_party_0 at h
  refine lv_aload_n hx hb dX8_party_0 rfl (lv_at hl 0 rfl) ?_
  obtain ⟨r3, σ2, g1, h⟩ := cs_some h
  refine x_callVi (rest := []) C hP hD hS (c_X8_readText g1) (cwV 0 hts (gV mw10_8 mw10_9 mw10_10 mw1_5 mw10_11) rfl rfl rfl hdV_X8_readText ⟨Nat.le_of_ble_eq_true rfl, Nat.le_of_ble_eq_true rfl⟩) mw_0 rfl rfl hl.1 rfl (Nat.le_of_ble_eq_true rfl) dX8_party_1 ⟨Nat.zero_le _, Nat.zero_le _⟩ (fun H locs hP hD hS => ?_)
  refine lv_bipush (v := -9) hx hb dX8_party_4 (by decide) ?_
  refine lv_icmp_eq (tgt := 12) hx hb dX8_party_6 (by decide) (fun q4 => ?_) (fun q4 => ?_)
  · have h := ifp q4 h
    refine lv_aload_n hx hb dX8_party_12 rfl (lv_at hl 0 rfl) ?_
    refine lv_aload_n hx hb dX8_party_13 rfl (lv_at hl 0 rfl) ?_
    refine x_get C hP inlX8 0 mw_0 rfl 16 (by decide) mw10_14 rfl dX8_party_14 ?_
    obtain ⟨σ5, eσ5, h⟩ := lt_some h
    refine x_put C hP hD hS inlX8 tyX8 tyX8_ok nmX8 0 mw_0 rfl 0 (by decide) mw6_19 rfl rfl rfl (Nat.le_of_ble_eq_true rfl) (ms_0_0 eσ5) dX8_party_17 (fun H locs hP hD hS => ?_)
    refine lv_aload_n hx hb dX8_party_20 rfl (lv_at hl 0 rfl) ?_
    refine lv_aload_n hx hb dX8_party_21 rfl (lv_at hl 0 rfl) ?_
    refine x_get C hP inlX8 0 mw_0 rfl 17 (by decide) mw10_15 rfl dX8_party_22 ?_
    obtain ⟨σ6, eσ6, h⟩ := lt_some h
    refine x_put C hP hD hS inlX8 tyX8 tyX8_ok nmX8 0 mw_0 rfl 1 (by decide) mw12_3 rfl rfl rfl (Nat.le_of_ble_eq_true rfl) (ms_0_1 eσ6) dX8_party_25 (fun H locs hP hD hS => ?_)
    refine lv_aload_n hx hb dX8_party_28 rfl (lv_at hl 0 rfl) ?_
    refine lv_aload_n hx hb dX8_party_29 rfl (lv_at hl 0 rfl) ?_
    refine x_get C hP inlX8 0 mw_0 rfl 18 (by decide) mw10_16 rfl dX8_party_30 ?_
    obtain ⟨σ7, eσ7, h⟩ := lt_some h
    refine x_put C hP hD hS inlX8 tyX8 tyX8_ok nmX8 0 mw_0 rfl 2 (by decide) mw12_4 rfl rfl rfl (Nat.le_of_ble_eq_true rfl) (ms_0_2 eσ7) dX8_party_33 (fun H locs hP hD hS => ?_)
    refine lv_iconst (v := 0) hx hb dX8_party_36 (by decide) ?_
    refine lv_istore_n (lv' := [(1, .int (0 : Int32)), (0, .ref (ad 0))]) hx hb dX8_party_37 rfl hl (by decide) rfl (fun ls hl => ?_)
    exact w_X8_party_38 C hr FU (0 : Int32) σ7 h H locs hP hD hS ls (lv_sub hl [1, 0] rfl)
  · have h := ifn q4 h
    refine lv_bipush (v := -3) hx hb dX8_party_9 (by decide) ?_
    obtain ⟨z1, z2⟩ := pr_inj h
    subst z1
    subst z2
    exact x_iret C hr hP hD hS dX8_party_11
theorem c_X8_party {l : Launch} {D : va_G} {cy : Nat → ClassId} {tT tF : Nat} {ad : Nat → Nat} {σ : ES} {r : Int32} {σ' : ES} (h : e_X8_party  σ = some (r, σ')) : CMi l yX8_party (Cond.code yX8_party cX8_party 2 (some .int) :: wsL_law) { frames := 4, cells := 0, slots := 0, locals := 94 } D cy tT tF [.ref (ad 0)] (mw cy ad σ) r (mw cy ad σ') := x_start (Qc := fun A => (Qi D cy A r (mw cy ad σ'))) (by decide) (Nat.le_of_ble_eq_true rfl) (fun p e s m below meth c A ls C hr hP hD hS hl => w_X8_party_0 C hr  σ h s.heap [] hP hD hS ls hl)
set_option maxHeartbeats 4000000 in
set_option maxRecDepth 100000 in
theorem w_X8_moment_0 (C : Cx p s m args meth c D cy tT tF A cX8_moment 2 RX8) (hr : meth.sig.returnType = some .int) {r : Int32} {σ : ES} (a1 : Int32) (h : b_X8_moment_0 σ a1 = some r) (H : Heap) (locs : List Loc) (hP : va_P D vwCl (mw cy ad σ) H) (hD : va_D A (mw cy ad σ)) (hS : va_S A s.heap H locs) (ls : Array Slot) (hl : lv_has ls 2 [(0, .ref (ad 0)), (1, .int a1)]) : W p l e { frames := 1, cells := 0, slots := 0, locals := 25 } s m args below meth c H locs 0 0 (MQ below (Qi D cy A r (mw cy ad σ)) args s 0 0 A) (F0 m 0 ls []) := by
  obtain ⟨⟨hx, hb, hml, hown, hts⟩, hK, hT, hA, hlk⟩ := id C
  unfold b_X8_moment_0 at h
  refine lv_iload_n hx hb dX8_moment_0 rfl (lv_at hl 1 rfl) ?_
  refine lv_i2l hx hb dX8_moment_1 rfl ?_
  refine lv_lconst (v := 0) hx hb dX8_moment_2 (by decide) ?_
  refine lv_aload_n hx hb dX8_moment_3 rfl (lv_at hl 0 rfl) ?_
  refine x_get C hP inlX8 0 mw_0 rfl 0 (by decide) mw6_19 rfl dX8_moment_4 ?_
  refine lv_iconst (v := 1) hx hb dX8_moment_7 (by decide) ?_
  refine lv_isub hx hb dX8_moment_8 ?_
  refine lv_i2l hx hb dX8_moment_9 rfl ?_
  obtain ⟨r2, g1, h⟩ := cl_some h
  refine x_callSi (rest := []) C hP hD hS (c_X8_in g1) (va_cwS 3 hts (gS mw7_10 mw7_11 mw1_5 mw7_12) rfl rfl rfl hdS_X8_in ⟨Nat.le_of_ble_eq_true rfl, Nat.le_of_ble_eq_true rfl⟩) rfl hl.1 rfl (Nat.le_of_ble_eq_true rfl) dX8_moment_10 ⟨Nat.zero_le _, Nat.zero_le _⟩ (fun H locs hP hD hS => ?_)
  refine lv_if_eq (tgt := 25) hx hb dX8_moment_13 (by decide) (fun q3 => ?_) (fun q3 => ?_)
  · have h := ifp q3 h
    refine lv_bipush (v := -9) hx hb dX8_moment_25 (by decide) ?_
    have z1 := so_inj h
    subst z1
    exact x_iret C hr hP hD hS dX8_moment_27
  · have h := ifn q3 h
    refine lv_aload_n hx hb dX8_moment_16 rfl (lv_at hl 0 rfl) ?_
    refine x_get C hP inlX8 0 mw_0 rfl 3 (by decide) mw5_22 rfl dX8_moment_17 ?_
    refine lv_iload_n hx hb dX8_moment_20 rfl (lv_at hl 1 rfl) ?_
    obtain ⟨g4, x5, ex5, h⟩ := rd_some h
    refine x_ild C hP 1 mw_1 g4 ex5 dX8_moment_21 ?_
    refine lv_goto (tgt := 27) hx hb dX8_moment_22 (by decide) ?_
    have z1 := so_inj h
    subst z1
    exact x_iret C hr hP hD hS dX8_moment_27
theorem c_X8_moment {l : Launch} {D : va_G} {cy : Nat → ClassId} {tT tF : Nat} {ad : Nat → Nat} {a1 : Int32} {r : Int32} {σ : ES} (h : e_X8_moment a1 σ = some r) : CMi l yX8_moment (Cond.code yX8_moment cX8_moment 2 (some .int) :: wsL_law) { frames := 1, cells := 0, slots := 0, locals := 25 } D cy tT tF [.ref (ad 0), .int a1] (mw cy ad σ) r (mw cy ad σ) := x_start (Qc := fun A => (Qi D cy A r (mw cy ad σ))) (by decide) (Nat.le_of_ble_eq_true rfl) (fun p e s m below meth c A ls C hr hP hD hS hl => w_X8_moment_0 C hr a1 h s.heap [] hP hD hS ls hl)
set_option maxHeartbeats 4000000 in
set_option maxRecDepth 100000 in
theorem w_X8_isCandle_0 (C : Cx p s m args meth c D cy tT tF A cX8_isCandle 2 RX8) (hr : meth.sig.returnType = some .boolean) {r : Int32} {σ : ES} (a1 : Int32) (h : b_X8_isCandle_0 σ a1 = some r) (H : Heap) (locs : List Loc) (hP : va_P D vwCl (mw cy ad σ) H) (hD : va_D A (mw cy ad σ)) (hS : va_S A s.heap H locs) (ls : Array Slot) (hl : lv_has ls 2 [(0, .ref (ad 0)), (1, .int a1)]) : W p l e { frames := 1, cells := 0, slots := 0, locals := 25 } s m args below meth c H locs 0 0 (MQ below (Qi D cy A r (mw cy ad σ)) args s 0 0 A) (F0 m 0 ls []) := by
  obtain ⟨⟨hx, hb, hml, hown, hts⟩, hK, hT, hA, hlk⟩ := id C
  unfold b_X8_isCandle_0 at h
  refine lv_iload_n hx hb dX8_isCandle_0 rfl (lv_at hl 1 rfl) ?_
  refine lv_i2l hx hb dX8_isCandle_1 rfl ?_
  refine lv_lconst (v := 0) hx hb dX8_isCandle_2 (by decide) ?_
  refine lv_aload_n hx hb dX8_isCandle_3 rfl (lv_at hl 0 rfl) ?_
  refine x_get C hP inlX8 0 mw_0 rfl 1 (by decide) mw12_3 rfl dX8_isCandle_4 ?_
  refine lv_iconst (v := 1) hx hb dX8_isCandle_7 (by decide) ?_
  refine lv_isub hx hb dX8_isCandle_8 ?_
  refine lv_i2l hx hb dX8_isCandle_9 rfl ?_
  obtain ⟨r2, g1, h⟩ := cl_some h
  refine x_callSi (rest := []) C hP hD hS (c_X8_in g1) (va_cwS 3 hts (gS mw7_10 mw7_11 mw1_5 mw7_12) rfl rfl rfl hdS_X8_in ⟨Nat.le_of_ble_eq_true rfl, Nat.le_of_ble_eq_true rfl⟩) rfl hl.1 rfl (Nat.le_of_ble_eq_true rfl) dX8_isCandle_10 ⟨Nat.zero_le _, Nat.zero_le _⟩ (fun H locs hP hD hS => ?_)
  obtain ⟨g3, h⟩ := bo_some h
  have z1 := so_inj h
  subst z1
  exact x_zret C hr (bo_nar g3) hP hD hS dX8_isCandle_13
theorem c_X8_isCandle {l : Launch} {D : va_G} {cy : Nat → ClassId} {tT tF : Nat} {ad : Nat → Nat} {a1 : Int32} {r : Int32} {σ : ES} (h : e_X8_isCandle a1 σ = some r) : CMi l yX8_isCandle (Cond.code yX8_isCandle cX8_isCandle 2 (some .boolean) :: wsL_law) { frames := 1, cells := 0, slots := 0, locals := 25 } D cy tT tF [.ref (ad 0), .int a1] (mw cy ad σ) r (mw cy ad σ) := x_start (Qc := fun A => (Qi D cy A r (mw cy ad σ))) (by decide) (Nat.le_of_ble_eq_true rfl) (fun p e s m below meth c A ls C hr hP hD hS hl => w_X8_isCandle_0 C hr a1 h s.heap [] hP hD hS ls hl)
set_option maxHeartbeats 4000000 in
set_option maxRecDepth 100000 in
theorem w_X8_candle_0 (C : Cx p s m args meth c D cy tT tF A cX8_candle 3 RX8) (hr : meth.sig.returnType = some .int) {r : Int32} {σ : ES} (a1 : Int32) (a2 : Int32) (h : b_X8_candle_0 σ a1 a2 = some r) (H : Heap) (locs : List Loc) (hP : va_P D vwCl (mw cy ad σ) H) (hD : va_D A (mw cy ad σ)) (hS : va_S A s.heap H locs) (ls : Array Slot) (hl : lv_has ls 3 [(0, .ref (ad 0)), (1, .int a1), (2, .int a2)]) : W p l e { frames := 2, cells := 0, slots := 0, locals := 46 } s m args below meth c H locs 0 0 (MQ below (Qi D cy A r (mw cy ad σ)) args s 0 0 A) (F0 m 0 ls []) := by
  obtain ⟨⟨hx, hb, hml, hown, hts⟩, hK, hT, hA, hlk⟩ := id C
  unfold b_X8_candle_0 at h
  refine lv_aload_n hx hb dX8_candle_0 rfl (lv_at hl 0 rfl) ?_
  refine lv_iload_n hx hb dX8_candle_1 rfl (lv_at hl 1 rfl) ?_
  obtain ⟨r2, g1, h⟩ := cl_some h
  refine x_callVi (rest := []) C hP hD hS (c_X8_isCandle g1) (cwV 1 hts (gV mw13_11 mw13_12 mw13_13 mw1_5 mw13_14) rfl rfl rfl hdV_X8_isCandle ⟨Nat.le_of_ble_eq_true rfl, Nat.le_of_ble_eq_true rfl⟩) mw_0 rfl rfl hl.1 rfl (Nat.le_of_ble_eq_true rfl) dX8_candle_2 ⟨Nat.zero_le _, Nat.zero_le _⟩ (fun H locs hP hD hS => ?_)
  refine lv_if_ne (tgt := 10) hx hb dX8_candle_5 (by decide) (fun q3 => ?_) (fun q3 => ?_)
  · have h := ifn q3 h
    refine lv_iload_n hx hb dX8_candle_10 rfl (lv_at hl 2 rfl) ?_
    by_cases q4 : a2 = (0 : Int32)
    · have h := ifp q4 h
      refine lv_tableIn (off := 29) (tgt := 40) hx hb dX8_candle_11 (by rw [q4]; decide) (by rw [q4]; decide) (by rw [q4]; rfl) (by decide) ?_
      refine lv_aload_n hx hb dX8_candle_40 rfl (lv_at hl 0 rfl) ?_
      refine x_get C hP inlX8 0 mw_0 rfl 11 (by decide) mw6_6 rfl dX8_candle_41 ?_
      refine lv_iconst (v := 4) hx hb dX8_candle_44 (by decide) ?_
      refine lv_iload_n hx hb dX8_candle_45 rfl (lv_at hl 1 rfl) ?_
      refine lv_iadd hx hb dX8_candle_46 ?_
      obtain ⟨g5, x6, ex6, h⟩ := rd_some h
      refine x_ild C hP 9 mw_9 g5 ex6 dX8_candle_47 ?_
      refine lv_if_le (tgt := 60) hx hb dX8_candle_48 (by decide) (fun q7 => ?_) (fun q7 => ?_)
      · have h := ifp q7 h
        refine lv_bipush (v := -9) hx hb dX8_candle_60 (by decide) ?_
        have z1 := so_inj h
        subst z1
        exact x_iret C hr hP hD hS dX8_candle_62
      · have h := ifn q7 h
        refine lv_aload_n hx hb dX8_candle_51 rfl (lv_at hl 0 rfl) ?_
        refine x_get C hP inlX8 0 mw_0 rfl 11 (by decide) mw6_6 rfl dX8_candle_52 ?_
        refine lv_iload_n hx hb dX8_candle_55 rfl (lv_at hl 1 rfl) ?_
        obtain ⟨g8, x9, ex9, h⟩ := rd_some h
        refine x_ild C hP 9 mw_9 g8 ex9 dX8_candle_56 ?_
        refine lv_goto (tgt := 62) hx hb dX8_candle_57 (by decide) ?_
        have z1 := so_inj h
        subst z1
        exact x_iret C hr hP hD hS dX8_candle_62
    have h := ifn q4 h
    by_cases q10 : a2 = (1 : Int32)
    · have h := ifp q10 h
      refine lv_tableIn (off := 52) (tgt := 63) hx hb dX8_candle_11 (by rw [q10]; decide) (by rw [q10]; decide) (by rw [q10]; rfl) (by decide) ?_
      refine lv_aload_n hx hb dX8_candle_63 rfl (lv_at hl 0 rfl) ?_
      refine x_get C hP inlX8 0 mw_0 rfl 11 (by decide) mw6_6 rfl dX8_candle_64 ?_
      refine lv_iconst (v := 4) hx hb dX8_candle_67 (by decide) ?_
      refine lv_iload_n hx hb dX8_candle_68 rfl (lv_at hl 1 rfl) ?_
      refine lv_iadd hx hb dX8_candle_69 ?_
      obtain ⟨g11, x12, ex12, h⟩ := rd_some h
      refine x_ild C hP 9 mw_9 g11 ex12 dX8_candle_70 ?_
      have z1 := so_inj h
      subst z1
      exact x_iret C hr hP hD hS dX8_candle_71
    have h := ifn q10 h
    by_cases q13 : a2 = (2 : Int32)
    · have h := ifp q13 h
      refine lv_tableIn (off := 61) (tgt := 72) hx hb dX8_candle_11 (by rw [q13]; decide) (by rw [q13]; decide) (by rw [q13]; rfl) (by decide) ?_
      refine lv_aload_n hx hb dX8_candle_72 rfl (lv_at hl 0 rfl) ?_
      refine x_get C hP inlX8 0 mw_0 rfl 6 (by decide) mw6_1 rfl dX8_candle_73 ?_
      refine lv_iload_n hx hb dX8_candle_76 rfl (lv_at hl 1 rfl) ?_
      obtain ⟨g14, x15, ex15, h⟩ := rd_some h
      refine x_ild C hP 4 mw_4 g14 ex15 dX8_candle_77 ?_
      have z1 := so_inj h
      subst z1
      exact x_iret C hr hP hD hS dX8_candle_78
    have h := ifn q13 h
    by_cases q16 : a2 = (3 : Int32)
    · have h := ifp q16 h
      refine lv_tableIn (off := 68) (tgt := 79) hx hb dX8_candle_11 (by rw [q16]; decide) (by rw [q16]; decide) (by rw [q16]; rfl) (by decide) ?_
      refine lv_aload_n hx hb dX8_candle_79 rfl (lv_at hl 0 rfl) ?_
      refine x_get C hP inlX8 0 mw_0 rfl 11 (by decide) mw6_6 rfl dX8_candle_80 ?_
      refine lv_bipush (v := 8) hx hb dX8_candle_83 (by decide) ?_
      refine lv_iload_n hx hb dX8_candle_85 rfl (lv_at hl 1 rfl) ?_
      refine lv_iadd hx hb dX8_candle_86 ?_
      obtain ⟨g17, x18, ex18, h⟩ := rd_some h
      refine x_ild C hP 9 mw_9 g17 ex18 dX8_candle_87 ?_
      have z1 := so_inj h
      subst z1
      exact x_iret C hr hP hD hS dX8_candle_88
    have h := ifn q16 h
    refine lv_tableOut (tgt := 89) hx hb dX8_candle_11 (by have z0 := lv_neT q4 (show ((0 : Int32)).toInt = 0 from rfl); have z1 := lv_neT q10 (show ((1 : Int32)).toInt = 1 from rfl); have z2 := lv_neT q13 (show ((2 : Int32)).toInt = 2 from rfl); have z3 := lv_neT q16 (show ((3 : Int32)).toInt = 3 from rfl); omega) (by decide) ?_
    refine lv_bipush (v := -2) hx hb dX8_candle_89 (by decide) ?_
    have z1 := so_inj h
    subst z1
    exact x_iret C hr hP hD hS dX8_candle_91
  · have h := ifp q3 h
    refine lv_iconst (v := -1) hx hb dX8_candle_8 (by decide) ?_
    have z1 := so_inj h
    subst z1
    exact x_iret C hr hP hD hS dX8_candle_9
theorem c_X8_candle {l : Launch} {D : va_G} {cy : Nat → ClassId} {tT tF : Nat} {ad : Nat → Nat} {a1 : Int32} {a2 : Int32} {r : Int32} {σ : ES} (h : e_X8_candle a1 a2 σ = some r) : CMi l yX8_candle (Cond.code yX8_candle cX8_candle 3 (some .int) :: wsL_law) { frames := 2, cells := 0, slots := 0, locals := 46 } D cy tT tF [.ref (ad 0), .int a1, .int a2] (mw cy ad σ) r (mw cy ad σ) := x_start (Qc := fun A => (Qi D cy A r (mw cy ad σ))) (by decide) (Nat.le_of_ble_eq_true rfl) (fun p e s m below meth c A ls C hr hP hD hS hl => w_X8_candle_0 C hr a1 a2 h s.heap [] hP hD hS ls hl)
set_option maxHeartbeats 4000000 in
set_option maxRecDepth 100000 in
theorem w_X8_isGuest_0 (C : Cx p s m args meth c D cy tT tF A cX8_isGuest 2 RX8) (hr : meth.sig.returnType = some .boolean) {r : Int32} {σ : ES} (a1 : Int32) (h : b_X8_isGuest_0 σ a1 = some r) (H : Heap) (locs : List Loc) (hP : va_P D vwCl (mw cy ad σ) H) (hD : va_D A (mw cy ad σ)) (hS : va_S A s.heap H locs) (ls : Array Slot) (hl : lv_has ls 2 [(0, .ref (ad 0)), (1, .int a1)]) : W p l e { frames := 1, cells := 0, slots := 0, locals := 25 } s m args below meth c H locs 0 0 (MQ below (Qi D cy A r (mw cy ad σ)) args s 0 0 A) (F0 m 0 ls []) := by
  obtain ⟨⟨hx, hb, hml, hown, hts⟩, hK, hT, hA, hlk⟩ := id C
  unfold b_X8_isGuest_0 at h
  refine lv_iload_n hx hb dX8_isGuest_0 rfl (lv_at hl 1 rfl) ?_
  refine lv_i2l hx hb dX8_isGuest_1 rfl ?_
  refine lv_lconst (v := 0) hx hb dX8_isGuest_2 (by decide) ?_
  refine lv_aload_n hx hb dX8_isGuest_3 rfl (lv_at hl 0 rfl) ?_
  refine x_get C hP inlX8 0 mw_0 rfl 2 (by decide) mw12_4 rfl dX8_isGuest_4 ?_
  refine lv_iconst (v := 1) hx hb dX8_isGuest_7 (by decide) ?_
  refine lv_isub hx hb dX8_isGuest_8 ?_
  refine lv_i2l hx hb dX8_isGuest_9 rfl ?_
  obtain ⟨r2, g1, h⟩ := cl_some h
  refine x_callSi (rest := []) C hP hD hS (c_X8_in g1) (va_cwS 3 hts (gS mw7_10 mw7_11 mw1_5 mw7_12) rfl rfl rfl hdS_X8_in ⟨Nat.le_of_ble_eq_true rfl, Nat.le_of_ble_eq_true rfl⟩) rfl hl.1 rfl (Nat.le_of_ble_eq_true rfl) dX8_isGuest_10 ⟨Nat.zero_le _, Nat.zero_le _⟩ (fun H locs hP hD hS => ?_)
  obtain ⟨g3, h⟩ := bo_some h
  have z1 := so_inj h
  subst z1
  exact x_zret C hr (bo_nar g3) hP hD hS dX8_isGuest_13
theorem c_X8_isGuest {l : Launch} {D : va_G} {cy : Nat → ClassId} {tT tF : Nat} {ad : Nat → Nat} {a1 : Int32} {r : Int32} {σ : ES} (h : e_X8_isGuest a1 σ = some r) : CMi l yX8_isGuest (Cond.code yX8_isGuest cX8_isGuest 2 (some .boolean) :: wsL_law) { frames := 1, cells := 0, slots := 0, locals := 25 } D cy tT tF [.ref (ad 0), .int a1] (mw cy ad σ) r (mw cy ad σ) := x_start (Qc := fun A => (Qi D cy A r (mw cy ad σ))) (by decide) (Nat.le_of_ble_eq_true rfl) (fun p e s m below meth c A ls C hr hP hD hS hl => w_X8_isGuest_0 C hr a1 h s.heap [] hP hD hS ls hl)
end WK0

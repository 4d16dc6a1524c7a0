section WK1
variable {p : Program} {l : Launch} {e : Env} {R : Room} {s : State} {m : MethodId} {args : Array Value} {below : List Frame} {meth : Method} {c : Code} {D : va_G} {cy : Nat → ClassId} {tT tF : Nat} {A : Nat → Prop} {ad : Nat → Nat} {ws : va_W}
set_option maxHeartbeats 4000000 in
set_option maxRecDepth 100000 in
theorem w_X8_isContent_0 (C : Cx p s m args meth c D cy tT tF A cX8_isContent 3 RX8) (hr : meth.sig.returnType = some .boolean) {r : Int32} {σ : ES} (a1 : Int32) (a2 : Int32) (h : b_X8_isContent_0 σ a1 a2 = some r) (H : Heap) (locs : List Loc) (hP : va_P D vwCl (mw cy ad σ) H) (hD : va_D A (mw cy ad σ)) (hS : va_S A s.heap H locs) (ls : Array Slot) (hl : lv_has ls 3 [(0, .ref (ad 0)), (1, .int a1), (2, .int a2)]) : W p l e { frames := 0, cells := 0, slots := 0, locals := 0 } s m args below meth c H locs 0 0 (MQ below (Qi D cy A r (mw cy ad σ)) args s 0 0 A) (F0 m 0 ls []) := by
  obtain ⟨⟨hx, hb, hml, hown, hts⟩, hK, hT, hA, hlk⟩ := id C
  unfold b_X8_isContent_0 at h
  refine lv_aload_n hx hb dX8_isContent_0 rfl (lv_at hl 0 rfl) ?_
  refine x_get C hP inlX8 0 mw_0 rfl 11 (by decide) mw6_6 rfl dX8_isContent_1 ?_
  refine lv_bipush (v := 18) hx hb dX8_isContent_4 (by decide) ?_
  refine lv_iload_n hx hb dX8_isContent_6 rfl (lv_at hl 1 rfl) ?_
  refine lv_imul hx hb dX8_isContent_7 ?_
  refine lv_bipush (v := 12) hx hb dX8_isContent_8 (by decide) ?_
  refine lv_iadd hx hb dX8_isContent_10 ?_
  refine lv_iload_n hx hb dX8_isContent_11 rfl (lv_at hl 2 rfl) ?_
  refine lv_iadd hx hb dX8_isContent_12 ?_
  obtain ⟨g1, x2, ex2, h⟩ := rd_some h
  refine x_ild C hP 9 mw_9 g1 ex2 dX8_isContent_13 ?_
  refine lv_aload_n hx hb dX8_isContent_14 rfl (lv_at hl 0 rfl) ?_
  refine x_get C hP inlX8 0 mw_0 rfl 8 (by decide) mw6_3 rfl dX8_isContent_15 ?_
  refine lv_iload_n hx hb dX8_isContent_18 rfl (lv_at hl 2 rfl) ?_
  obtain ⟨g3, x4, ex4, h⟩ := rd_some h
  refine x_ild C hP 6 mw_6 g3 ex4 dX8_isContent_19 ?_
  refine lv_icmp_lt (tgt := 27) hx hb dX8_isContent_20 (by decide) (fun q5 => ?_) (fun q5 => ?_)
  · have h := ifp q5 h
    refine lv_iconst (v := 0) hx hb dX8_isContent_27 (by decide) ?_
    have z1 := so_inj h
    subst z1
    exact x_zret C hr rfl hP hD hS dX8_isContent_28
  · have h := ifn q5 h
    refine lv_iconst (v := 1) hx hb dX8_isContent_23 (by decide) ?_
    refine lv_goto (tgt := 28) hx hb dX8_isContent_24 (by decide) ?_
    have z1 := so_inj h
    subst z1
    exact x_zret C hr rfl hP hD hS dX8_isContent_28
theorem c_X8_isContent {l : Launch} {D : va_G} {cy : Nat → ClassId} {tT tF : Nat} {ad : Nat → Nat} {a1 : Int32} {a2 : Int32} {r : Int32} {σ : ES} (h : e_X8_isContent a1 a2 σ = some r) : CMi l yX8_isContent (Cond.code yX8_isContent cX8_isContent 3 (some .boolean) :: wsL_law) { frames := 0, cells := 0, slots := 0, locals := 0 } D cy tT tF [.ref (ad 0), .int a1, .int a2] (mw cy ad σ) r (mw cy ad σ) := x_start (Qc := fun A => (Qi D cy A r (mw cy ad σ))) (by decide) (Nat.le_of_ble_eq_true rfl) (fun p e s m below meth c A ls C hr hP hD hS hl => w_X8_isContent_0 C hr a1 a2 h s.heap [] hP hD hS ls hl)
set_option maxHeartbeats 4000000 in
set_option maxRecDepth 100000 in
theorem w_X8_guest_0 (C : Cx p s m args meth c D cy tT tF A cX8_guest 3 RX8) (hr : meth.sig.returnType = some .int) {r : Int32} {σ : ES} (a1 : Int32) (a2 : Int32) (h : b_X8_guest_0 σ a1 a2 = some r) (H : Heap) (locs : List Loc) (hP : va_P D vwCl (mw cy ad σ) H) (hD : va_D A (mw cy ad σ)) (hS : va_S A s.heap H locs) (ls : Array Slot) (hl : lv_has ls 3 [(0, .ref (ad 0)), (1, .int a1), (2, .int a2)]) : W p l e { frames := 2, cells := 0, slots := 0, locals := 46 } s m args below meth c H locs 0 0 (MQ below (Qi D cy A r (mw cy ad σ)) args s 0 0 A) (F0 m 0 ls []) := by
  obtain ⟨⟨hx, hb, hml, hown, hts⟩, hK, hT, hA, hlk⟩ := id C
  unfold b_X8_guest_0 at h
  refine lv_aload_n hx hb dX8_guest_0 rfl (lv_at hl 0 rfl) ?_
  refine lv_iload_n hx hb dX8_guest_1 rfl (lv_at hl 1 rfl) ?_
  obtain ⟨r2, g1, h⟩ := cl_some h
  refine x_callVi (rest := []) C hP hD hS (c_X8_isGuest g1) (cwV 1 hts (gV mw14_14 mw14_15 mw14_16 mw1_5 mw14_17) rfl rfl rfl hdV_X8_isGuest ⟨Nat.le_of_ble_eq_true rfl, Nat.le_of_ble_eq_true rfl⟩) mw_0 rfl rfl hl.1 rfl (Nat.le_of_ble_eq_true rfl) dX8_guest_2 ⟨Nat.zero_le _, Nat.zero_le _⟩ (fun H locs hP hD hS => ?_)
  refine lv_if_ne (tgt := 10) hx hb dX8_guest_5 (by decide) (fun q3 => ?_) (fun q3 => ?_)
  · have h := ifn q3 h
    refine lv_iload_n hx hb dX8_guest_10 rfl (lv_at hl 2 rfl) ?_
    by_cases q4 : a2 = (0 : Int32)
    · have h := ifp q4 h
      refine lv_tableIn (off := 37) (tgt := 48) hx hb dX8_guest_11 (by rw [q4]; decide) (by rw [q4]; decide) (by rw [q4]; rfl) (by decide) ?_
      refine lv_aload_n hx hb dX8_guest_48 rfl (lv_at hl 0 rfl) ?_
      refine x_get C hP inlX8 0 mw_0 rfl 7 (by decide) mw6_2 rfl dX8_guest_49 ?_
      refine lv_iload_n hx hb dX8_guest_52 rfl (lv_at hl 1 rfl) ?_
      obtain ⟨g5, x6, ex6, h⟩ := rd_some h
      refine x_ild C hP 5 mw_5 g5 ex6 dX8_guest_53 ?_
      have z1 := so_inj h
      subst z1
      exact x_iret C hr hP hD hS dX8_guest_54
    have h := ifn q4 h
    by_cases q7 : a2 = (1 : Int32)
    · have h := ifp q7 h
      refine lv_tableIn (off := 44) (tgt := 55) hx hb dX8_guest_11 (by rw [q7]; decide) (by rw [q7]; decide) (by rw [q7]; rfl) (by decide) ?_
      refine lv_aload_n hx hb dX8_guest_55 rfl (lv_at hl 0 rfl) ?_
      refine x_get C hP inlX8 0 mw_0 rfl 8 (by decide) mw6_3 rfl dX8_guest_56 ?_
      refine lv_iload_n hx hb dX8_guest_59 rfl (lv_at hl 1 rfl) ?_
      obtain ⟨g8, x9, ex9, h⟩ := rd_some h
      refine x_ild C hP 6 mw_6 g8 ex9 dX8_guest_60 ?_
      have z1 := so_inj h
      subst z1
      exact x_iret C hr hP hD hS dX8_guest_61
    have h := ifn q7 h
    by_cases q10 : a2 = (2 : Int32)
    · have h := ifp q10 h
      refine lv_tableIn (off := 51) (tgt := 62) hx hb dX8_guest_11 (by rw [q10]; decide) (by rw [q10]; decide) (by rw [q10]; rfl) (by decide) ?_
      refine lv_aload_n hx hb dX8_guest_62 rfl (lv_at hl 0 rfl) ?_
      refine x_get C hP inlX8 0 mw_0 rfl 9 (by decide) mw6_4 rfl dX8_guest_63 ?_
      refine lv_iload_n hx hb dX8_guest_66 rfl (lv_at hl 1 rfl) ?_
      obtain ⟨g11, x12, ex12, h⟩ := rd_some h
      refine x_ild C hP 7 mw_7 g11 ex12 dX8_guest_67 ?_
      have z1 := so_inj h
      subst z1
      exact x_iret C hr hP hD hS dX8_guest_68
    have h := ifn q10 h
    by_cases q13 : a2 = (3 : Int32)
    · have h := ifp q13 h
      refine lv_tableIn (off := 58) (tgt := 69) hx hb dX8_guest_11 (by rw [q13]; decide) (by rw [q13]; decide) (by rw [q13]; rfl) (by decide) ?_
      refine lv_aload_n hx hb dX8_guest_69 rfl (lv_at hl 0 rfl) ?_
      refine x_get C hP inlX8 0 mw_0 rfl 10 (by decide) mw6_5 rfl dX8_guest_70 ?_
      refine lv_iload_n hx hb dX8_guest_73 rfl (lv_at hl 1 rfl) ?_
      obtain ⟨g14, x15, ex15, h⟩ := rd_some h
      refine x_ild C hP 8 mw_8 g14 ex15 dX8_guest_74 ?_
      have z1 := so_inj h
      subst z1
      exact x_iret C hr hP hD hS dX8_guest_75
    have h := ifn q13 h
    by_cases q16 : a2 = (4 : Int32)
    · have h := ifp q16 h
      refine lv_tableIn (off := 65) (tgt := 76) hx hb dX8_guest_11 (by rw [q16]; decide) (by rw [q16]; decide) (by rw [q16]; rfl) (by decide) ?_
      refine lv_aload_n hx hb dX8_guest_76 rfl (lv_at hl 0 rfl) ?_
      refine x_get C hP inlX8 0 mw_0 rfl 11 (by decide) mw6_6 rfl dX8_guest_77 ?_
      refine lv_bipush (v := 12) hx hb dX8_guest_80 (by decide) ?_
      refine lv_iload_n hx hb dX8_guest_82 rfl (lv_at hl 1 rfl) ?_
      refine lv_iadd hx hb dX8_guest_83 ?_
      obtain ⟨g17, x18, ex18, h⟩ := rd_some h
      refine x_ild C hP 9 mw_9 g17 ex18 dX8_guest_84 ?_
      have z1 := so_inj h
      subst z1
      exact x_iret C hr hP hD hS dX8_guest_85
    have h := ifn q16 h
    by_cases q19 : a2 = (5 : Int32)
    · have h := ifp q19 h
      refine lv_tableIn (off := 75) (tgt := 86) hx hb dX8_guest_11 (by rw [q19]; decide) (by rw [q19]; decide) (by rw [q19]; rfl) (by decide) ?_
      refine lv_aload_n hx hb dX8_guest_86 rfl (lv_at hl 0 rfl) ?_
      refine lv_iconst (v := 0) hx hb dX8_guest_87 (by decide) ?_
      refine lv_iload_n hx hb dX8_guest_88 rfl (lv_at hl 1 rfl) ?_
      obtain ⟨r21, g20, h⟩ := cl_some h
      refine x_callVi (rest := []) C hP hD hS (c_X8_isContent g20) (cwV 2 hts (gV mw14_18 mw14_19 mw14_20 mw1_5 mw14_21) rfl rfl rfl hdV_X8_isContent ⟨Nat.le_of_ble_eq_true rfl, Nat.le_of_ble_eq_true rfl⟩) mw_0 rfl rfl hl.1 rfl (Nat.le_of_ble_eq_true rfl) dX8_guest_89 ⟨Nat.zero_le _, Nat.zero_le _⟩ (fun H locs hP hD hS => ?_)
      refine lv_if_eq (tgt := 99) hx hb dX8_guest_92 (by decide) (fun q22 => ?_) (fun q22 => ?_)
      · have h := ifp q22 h
        refine lv_iconst (v := 0) hx hb dX8_guest_99 (by decide) ?_
        have z1 := so_inj h
        subst z1
        exact x_iret C hr hP hD hS dX8_guest_100
      · have h := ifn q22 h
        refine lv_iconst (v := 1) hx hb dX8_guest_95 (by decide) ?_
        refine lv_goto (tgt := 100) hx hb dX8_guest_96 (by decide) ?_
        have z1 := so_inj h
        subst z1
        exact x_iret C hr hP hD hS dX8_guest_100
    have h := ifn q19 h
    refine lv_tableOut (tgt := 101) hx hb dX8_guest_11 (by have z0 := lv_neT q4 (show ((0 : Int32)).toInt = 0 from rfl); have z1 := lv_neT q7 (show ((1 : Int32)).toInt = 1 from rfl); have z2 := lv_neT q10 (show ((2 : Int32)).toInt = 2 from rfl); have z3 := lv_neT q13 (show ((3 : Int32)).toInt = 3 from rfl); have z4 := lv_neT q16 (show ((4 : Int32)).toInt = 4 from rfl); have z5 := lv_neT q19 (show ((5 : Int32)).toInt = 5 from rfl); omega) (by decide) ?_
    refine lv_bipush (v := -2) hx hb dX8_guest_101 (by decide) ?_
    have z1 := so_inj h
    subst z1
    exact x_iret C hr hP hD hS dX8_guest_103
  · have h := ifp q3 h
    refine lv_iconst (v := -1) hx hb dX8_guest_8 (by decide) ?_
    have z1 := so_inj h
    subst z1
    exact x_iret C hr hP hD hS dX8_guest_9
theorem c_X8_guest {l : Launch} {D : va_G} {cy : Nat → ClassId} {tT tF : Nat} {ad : Nat → Nat} {a1 : Int32} {a2 : Int32} {r : Int32} {σ : ES} (h : e_X8_guest a1 a2 σ = some r) : CMi l yX8_guest (Cond.code yX8_guest cX8_guest 3 (some .int) :: wsL_law) { frames := 2, cells := 0, slots := 0, locals := 46 } D cy tT tF [.ref (ad 0), .int a1, .int a2] (mw cy ad σ) r (mw cy ad σ) := x_start (Qc := fun A => (Qi D cy A r (mw cy ad σ))) (by decide) (Nat.le_of_ble_eq_true rfl) (fun p e s m below meth c A ls C hr hP hD hS hl => w_X8_guest_0 C hr a1 a2 h s.heap [] hP hD hS ls hl)
set_option maxHeartbeats 4000000 in
set_option maxRecDepth 100000 in
theorem w_X8_keepAct_68 (C : Cx p s m args meth c D cy tT tF A cX8_keepAct 2 RX8) (hr : meth.sig.returnType = none) {σ' : ES} (t1 : Int32) (σ : ES) (h : b_X8_keepAct_68 t1 σ = some σ') (H : Heap) (locs : List Loc) (hP : va_P D vwCl (mw cy ad σ) H) (hD : va_D A (mw cy ad σ)) (hS : va_S A s.heap H locs) (ls : Array Slot) (hl : lv_has ls 2 []) : W p l e { frames := 0, cells := 0, slots := 0, locals := 0 } s m args below meth c H locs 0 0 (MQ below (Qv D cy A (mw cy ad σ')) args s 0 0 A) (F0 m 68 ls [.int t1, .ref (ad 0)]) := by
  obtain ⟨⟨hx, hb, hml, hown, hts⟩, hK, hT, hA, hlk⟩ := id C
  unfold b_X8_keepAct_68 at h
  obtain ⟨σ1, eσ1, h⟩ := lt_some h
  refine x_put C hP hD hS inlX8 tyX8 tyX8_ok nmX8 0 mw_0 rfl 22 (by decide) mw12_5 rfl rfl rfl (Nat.le_of_ble_eq_true rfl) (ms_0_22 eσ1) dX8_keepAct_68 (fun H locs hP hD hS => ?_)
  have z1 := so_inj h
  subst z1
  exact x_vret C hr hP hD hS dX8_keepAct_71
set_option maxHeartbeats 4000000 in
set_option maxRecDepth 100000 in
theorem w_X8_keepAct_2 (C : Cx p s m args meth c D cy tT tF A cX8_keepAct 2 RX8) (hr : meth.sig.returnType = none) {σ' : ES} : ∀ (n : Nat) (v1 : Int32) (σ : ES), b_X8_keepAct_2 n v1 σ = some σ' → ∀ (H : Heap) (locs : List Loc) (hP : va_P D vwCl (mw cy ad σ) H) (hD : va_D A (mw cy ad σ)) (hS : va_S A s.heap H locs) (ls : Array Slot) (hl : lv_has ls 2 [(0, .ref (ad 0)), (1, .int v1)]), W p l e { frames := 0, cells := 0, slots := 0, locals := 0 } s m args below meth c H locs 0 0 (MQ below (Qv D cy A (mw cy ad σ')) args s 0 0 A) (F0 m 2 ls []) := by
  obtain ⟨⟨hx, hb, hml, hown, hts⟩, hK, hT, hA, hlk⟩ := id C
  intro n
  induction n with
  | zero =>
    intro v1 σ h
    exact no_some h
  | succ n ih =>
    intro v1 σ h H locs hP hD hS ls hl
    rw [b_X8_keepAct_2] at h
    refine lv_iload_n hx hb dX8_keepAct_2 rfl (lv_at hl 1 rfl) ?_
    refine lv_bipush (v := 18) hx hb dX8_keepAct_3 (by decide) ?_
    refine lv_icmp_ge (tgt := 34) hx hb dX8_keepAct_5 (by decide) (fun q1 => ?_) (fun q1 => ?_)
    · have h := ifp q1 h
      refine lv_aload_n hx hb dX8_keepAct_34 rfl (lv_at hl 0 rfl) ?_
      refine lv_aload_n hx hb dX8_keepAct_35 rfl (lv_at hl 0 rfl) ?_
      refine x_get C hP inlX8 0 mw_0 rfl 23 (by decide) mw16_10 rfl dX8_keepAct_36 ?_
      refine lv_iconst (v := 1) hx hb dX8_keepAct_39 (by decide) ?_
      refine lv_iadd hx hb dX8_keepAct_40 ?_
      refine lv_bipush (v := 16) hx hb dX8_keepAct_41 (by decide) ?_
      refine lv_irem hx hb dX8_keepAct_43 (by decide) ?_
      obtain ⟨σ2, eσ2, h⟩ := lt_some h
      refine x_put C hP hD hS inlX8 tyX8 tyX8_ok nmX8 0 mw_0 rfl 23 (by decide) mw16_10 rfl rfl rfl (Nat.le_of_ble_eq_true rfl) (ms_0_23 eσ2) dX8_keepAct_44 (fun H locs hP hD hS => ?_)
      refine lv_aload_n hx hb dX8_keepAct_47 rfl (lv_at hl 0 rfl) ?_
      refine lv_aload_n hx hb dX8_keepAct_48 rfl (lv_at hl 0 rfl) ?_
      refine x_get C hP inlX8 0 mw_0 rfl 22 (by decide) mw12_5 rfl dX8_keepAct_49 ?_
      refine lv_bipush (v := 16) hx hb dX8_keepAct_52 (by decide) ?_
      refine lv_icmp_ge (tgt := 66) hx hb dX8_keepAct_54 (by decide) (fun q3 => ?_) (fun q3 => ?_)
      · have h := ifp q3 h
        refine lv_bipush (v := 16) hx hb dX8_keepAct_66 (by decide) ?_
        exact w_X8_keepAct_68 C hr (16 : Int32) σ2 h H locs hP hD hS ls (lv_sub hl [] rfl)
      · have h := ifn q3 h
        refine lv_aload_n hx hb dX8_keepAct_57 rfl (lv_at hl 0 rfl) ?_
        refine x_get C hP inlX8 0 mw_0 rfl 22 (by decide) mw12_5 rfl dX8_keepAct_58 ?_
        refine lv_iconst (v := 1) hx hb dX8_keepAct_61 (by decide) ?_
        refine lv_iadd hx hb dX8_keepAct_62 ?_
        refine lv_goto (tgt := 68) hx hb dX8_keepAct_63 (by decide) ?_
        exact w_X8_keepAct_68 C hr ((σ2.1 0 22) + (1 : Int32)) σ2 h H locs hP hD hS ls (lv_sub hl [] rfl)
    · have h := ifn q1 h
      refine lv_aload_n hx hb dX8_keepAct_8 rfl (lv_at hl 0 rfl) ?_
      refine x_get C hP inlX8 0 mw_0 rfl 24 (by decide) mw6_11 rfl dX8_keepAct_9 ?_
      refine lv_bipush (v := 18) hx hb dX8_keepAct_12 (by decide) ?_
      refine lv_aload_n hx hb dX8_keepAct_14 rfl (lv_at hl 0 rfl) ?_
      refine x_get C hP inlX8 0 mw_0 rfl 23 (by decide) mw16_10 rfl dX8_keepAct_15 ?_
      refine lv_imul hx hb dX8_keepAct_18 ?_
      refine lv_iload_n hx hb dX8_keepAct_19 rfl (lv_at hl 1 rfl) ?_
      refine lv_iadd hx hb dX8_keepAct_20 ?_
      refine lv_aload_n hx hb dX8_keepAct_21 rfl (lv_at hl 0 rfl) ?_
      refine x_get C hP inlX8 0 mw_0 rfl 11 (by decide) mw6_6 rfl dX8_keepAct_22 ?_
      refine lv_iload_n hx hb dX8_keepAct_25 rfl (lv_at hl 1 rfl) ?_
      obtain ⟨g4, x5, ex5, h⟩ := rd_some h
      refine x_ild C hP 9 mw_9 g4 ex5 dX8_keepAct_26 ?_
      obtain ⟨g6, σ7, eσ7, h⟩ := wr_some h
      refine x_ist C hP hD hS 14 mw_14 g6 (ma_14 eσ7) dX8_keepAct_27 (fun H locs hP hD hS => ?_)
      obtain ⟨x8, ex8, h⟩ := lt_some h
      refine lv_iinc (v := x8) (lv' := [(1, .int x8), (0, .ref (ad 0))]) hx hb dX8_keepAct_28 hl (k := 1) rfl (by rw [ex8]; rfl) (by decide) rfl (fun ls hl => ?_)
      refine lv_goto (tgt := 2) hx hb dX8_keepAct_31 (by decide) ?_
      exact ih x8 σ7 h H locs hP hD hS ls (lv_sub hl [1, 0] rfl)
set_option maxHeartbeats 4000000 in
set_option maxRecDepth 100000 in
theorem w_X8_keepAct_0 (C : Cx p s m args meth c D cy tT tF A cX8_keepAct 2 RX8) (hr : meth.sig.returnType = none) {σ' : ES} (σ : ES) (h : b_X8_keepAct_0 σ = some σ') (H : Heap) (locs : List Loc) (hP : va_P D vwCl (mw cy ad σ) H) (hD : va_D A (mw cy ad σ)) (hS : va_S A s.heap H locs) (ls : Array Slot) (hl : lv_has ls 2 [(0, .ref (ad 0))]) : W p l e { frames := 0, cells := 0, slots := 0, locals := 0 } s m args below meth c H locs 0 0 (MQ below (Qv D cy A (mw cy ad σ')) args s 0 0 A) (F0 m 0 ls []) := by
  obtain ⟨⟨hx, hb, hml, hown, hts⟩, hK, hT, hA, hlk⟩ := id C
  unfold b_X8_keepAct_0 at h
  refine lv_iconst (v := 0) hx hb dX8_keepAct_0 (by decide) ?_
  refine lv_istore_n (lv' := [(1, .int (0 : Int32)), (0, .ref (ad 0))]) hx hb dX8_keepAct_1 rfl hl (by decide) rfl (fun ls hl => ?_)
  exact w_X8_keepAct_2 C hr FU (0 : Int32) σ h H locs hP hD hS ls (lv_sub hl [1, 0] rfl)
theorem c_X8_keepAct {l : Launch} {D : va_G} {cy : Nat → ClassId} {tT tF : Nat} {ad : Nat → Nat} {σ : ES} {σ' : ES} (h : e_X8_keepAct  σ = some σ') : CMv l yX8_keepAct (Cond.code yX8_keepAct cX8_keepAct 2 none :: wsL_law) { frames := 0, cells := 0, slots := 0, locals := 0 } D cy tT tF [.ref (ad 0)] (mw cy ad σ) (mw cy ad σ') := x_start (Qc := fun A => (Qv D cy A (mw cy ad σ'))) (by decide) (Nat.le_of_ble_eq_true rfl) (fun p e s m below meth c A ls C hr hP hD hS hl => w_X8_keepAct_0 C hr  σ h s.heap [] hP hD hS ls hl)
set_option maxHeartbeats 4000000 in
set_option maxRecDepth 100000 in
theorem w_X8_burning_4 (C : Cx p s m args meth c D cy tT tF A cX8_burning 4 RX8) (hr : meth.sig.returnType = some .int) {r : Int32} {σ : ES} : ∀ (n : Nat) (v1 : Int32) (v2 : Int32) (v3 : Int32), b_X8_burning_4 σ n v1 v2 v3 = some r → ∀ (H : Heap) (locs : List Loc) (hP : va_P D vwCl (mw cy ad σ) H) (hD : va_D A (mw cy ad σ)) (hS : va_S A s.heap H locs) (ls : Array Slot) (hl : lv_has ls 4 [(0, .ref (ad 0)), (1, .int v1), (2, .int v2), (3, .int v3)]), W p l e { frames := 0, cells := 0, slots := 0, locals := 0 } s m args below meth c H locs 0 0 (MQ below (Qi D cy A r (mw cy ad σ)) args s 0 0 A) (F0 m 4 ls []) := by
  obtain ⟨⟨hx, hb, hml, hown, hts⟩, hK, hT, hA, hlk⟩ := id C
  intro n
  induction n with
  | zero =>
    intro v1 v2 v3 h
    exact no_some h
  | succ n ih =>
    intro v1 v2 v3 h H locs hP hD hS ls hl
    rw [b_X8_burning_4] at h
    refine lv_iload_n hx hb dX8_burning_4 rfl (lv_at hl 3 rfl) ?_
    refine lv_aload_n hx hb dX8_burning_5 rfl (lv_at hl 0 rfl) ?_
    refine x_get C hP inlX8 0 mw_0 rfl 1 (by decide) mw12_3 rfl dX8_burning_6 ?_
    refine lv_icmp_ge (tgt := 44) hx hb dX8_burning_9 (by decide) (fun q1 => ?_) (fun q1 => ?_)
    · have h := ifp q1 h
      refine lv_iload_n hx hb dX8_burning_44 rfl (lv_at hl 2 rfl) ?_
      have z1 := so_inj h
      subst z1
      exact x_iret C hr hP hD hS dX8_burning_45
    · have h := ifn q1 h
      refine lv_iload_n hx hb dX8_burning_12 rfl (lv_at hl 2 rfl) ?_
      refine lv_aload_n hx hb dX8_burning_13 rfl (lv_at hl 0 rfl) ?_
      refine x_get C hP inlX8 0 mw_0 rfl 11 (by decide) mw6_6 rfl dX8_burning_14 ?_
      refine lv_bipush (v := 18) hx hb dX8_burning_17 (by decide) ?_
      refine lv_iload_n hx hb dX8_burning_19 rfl (lv_at hl 1 rfl) ?_
      refine lv_imul hx hb dX8_burning_20 ?_
      refine lv_bipush (v := 8) hx hb dX8_burning_21 (by decide) ?_
      refine lv_iadd hx hb dX8_burning_23 ?_
      refine lv_iload_n hx hb dX8_burning_24 rfl (lv_at hl 3 rfl) ?_
      refine lv_iadd hx hb dX8_burning_25 ?_
      obtain ⟨g2, x3, ex3, h⟩ := rd_some h
      refine x_ild C hP 9 mw_9 g2 ex3 dX8_burning_26 ?_
      refine lv_iconst (v := 1) hx hb dX8_burning_27 (by decide) ?_
      refine lv_icmp_ne (tgt := 35) hx hb dX8_burning_28 (by decide) (fun q4 => ?_) (fun q4 => ?_)
      · have h := ifn q4 h
        refine lv_iconst (v := 0) hx hb dX8_burning_35 (by decide) ?_
        refine lv_iadd hx hb dX8_burning_36 ?_
        obtain ⟨x5, ex5, h⟩ := lt_some h
        refine x_ti ex5 ?_
        refine lv_istore_n (lv' := [(2, .int x5), (0, .ref (ad 0)), (1, .int v1), (3, .int v3)]) hx hb dX8_burning_37 rfl hl (by decide) rfl (fun ls hl => ?_)
        obtain ⟨x6, ex6, h⟩ := lt_some h
        refine lv_iinc (v := x6) (lv' := [(3, .int x6), (2, .int x5), (0, .ref (ad 0)), (1, .int v1)]) hx hb dX8_burning_38 hl (k := 3) rfl (by rw [ex6]; rfl) (by decide) rfl (fun ls hl => ?_)
        refine lv_goto (tgt := 4) hx hb dX8_burning_41 (by decide) ?_
        exact ih v1 x5 x6 h H locs hP hD hS ls (lv_sub hl [2, 3, 1, 0] rfl)
      · have h := ifp q4 h
        refine lv_iconst (v := 1) hx hb dX8_burning_31 (by decide) ?_
        refine lv_goto (tgt := 36) hx hb dX8_burning_32 (by decide) ?_
        refine lv_iadd hx hb dX8_burning_36 ?_
        obtain ⟨x7, ex7, h⟩ := lt_some h
        refine x_ti ex7 ?_
        refine lv_istore_n (lv' := [(2, .int x7), (0, .ref (ad 0)), (1, .int v1), (3, .int v3)]) hx hb dX8_burning_37 rfl hl (by decide) rfl (fun ls hl => ?_)
        obtain ⟨x8, ex8, h⟩ := lt_some h
        refine lv_iinc (v := x8) (lv' := [(3, .int x8), (2, .int x7), (0, .ref (ad 0)), (1, .int v1)]) hx hb dX8_burning_38 hl (k := 3) rfl (by rw [ex8]; rfl) (by decide) rfl (fun ls hl => ?_)
        refine lv_goto (tgt := 4) hx hb dX8_burning_41 (by decide) ?_
        exact ih v1 x7 x8 h H locs hP hD hS ls (lv_sub hl [2, 3, 1, 0] rfl)
set_option maxHeartbeats 4000000 in
set_option maxRecDepth 100000 in
theorem w_X8_burning_0 (C : Cx p s m args meth c D cy tT tF A cX8_burning 4 RX8) (hr : meth.sig.returnType = some .int) {r : Int32} {σ : ES} (a1 : Int32) (h : b_X8_burning_0 σ a1 = some r) (H : Heap) (locs : List Loc) (hP : va_P D vwCl (mw cy ad σ) H) (hD : va_D A (mw cy ad σ)) (hS : va_S A s.heap H locs) (ls : Array Slot) (hl : lv_has ls 4 [(0, .ref (ad 0)), (1, .int a1)]) : W p l e { frames := 0, cells := 0, slots := 0, locals := 0 } s m args below meth c H locs 0 0 (MQ below (Qi D cy A r (mw cy ad σ)) args s 0 0 A) (F0 m 0 ls []) := by
  obtain ⟨⟨hx, hb, hml, hown, hts⟩, hK, hT, hA, hlk⟩ := id C
  unfold b_X8_burning_0 at h
  refine lv_iconst (v := 0) hx hb dX8_burning_0 (by decide) ?_
  refine lv_istore_n (lv' := [(2, .int (0 : Int32)), (0, .ref (ad 0)), (1, .int a1)]) hx hb dX8_burning_1 rfl hl (by decide) rfl (fun ls hl => ?_)
  refine lv_iconst (v := 0) hx hb dX8_burning_2 (by decide) ?_
  refine lv_istore_n (lv' := [(3, .int (0 : Int32)), (2, .int (0 : Int32)), (0, .ref (ad 0)), (1, .int a1)]) hx hb dX8_burning_3 rfl hl (by decide) rfl (fun ls hl => ?_)
  exact w_X8_burning_4 C hr FU a1 (0 : Int32) (0 : Int32) h H locs hP hD hS ls (lv_sub hl [2, 3, 1, 0] rfl)
theorem c_X8_burning {l : Launch} {D : va_G} {cy : Nat → ClassId} {tT tF : Nat} {ad : Nat → Nat} {a1 : Int32} {r : Int32} {σ : ES} (h : e_X8_burning a1 σ = some r) : CMi l yX8_burning (Cond.code yX8_burning cX8_burning 4 (some .int) :: wsL_law) { frames := 0, cells := 0, slots := 0, locals := 0 } D cy tT tF [.ref (ad 0), .int a1] (mw cy ad σ) r (mw cy ad σ) := x_start (Qc := fun A => (Qi D cy A r (mw cy ad σ))) (by decide) (Nat.le_of_ble_eq_true rfl) (fun p e s m below meth c A ls C hr hP hD hS hl => w_X8_burning_0 C hr a1 h s.heap [] hP hD hS ls hl)
set_option maxHeartbeats 4000000 in
set_option maxRecDepth 100000 in
theorem w_X8_light_0 (C : Cx p s m args meth c D cy tT tF A cX8_light 2 RX8) (hr : meth.sig.returnType = some .int) {r : Int32} {σ' : ES} (a1 : Int32) (σ : ES) (h : b_X8_light_0 a1 σ = some (r, σ')) (H : Heap) (locs : List Loc) (hP : va_P D vwCl (mw cy ad σ) H) (hD : va_D A (mw cy ad σ)) (hS : va_S A s.heap H locs) (ls : Array Slot) (hl : lv_has ls 2 [(0, .ref (ad 0)), (1, .int a1)]) : W p l e { frames := 2, cells := 0, slots := 0, locals := 46 } s m args below meth c H locs 0 0 (MQ below (Qi D cy A r (mw cy ad σ')) args s 0 0 A) (F0 m 0 ls []) := by
  obtain ⟨⟨hx, hb, hml, hown, hts⟩, hK, hT, hA, hlk⟩ := id C
  unfold b_X8_light_0 at h
  refine lv_aload_n hx hb dX8_light_0 rfl (lv_at hl 0 rfl) ?_
  refine lv_iload_n hx hb dX8_light_1 rfl (lv_at hl 1 rfl) ?_
  obtain ⟨r2, g1, h⟩ := cl_some h
  refine x_callVi (rest := []) C hP hD hS (c_X8_isCandle g1) (cwV 1 hts (gV mw13_11 mw13_12 mw13_13 mw1_5 mw13_14) rfl rfl rfl hdV_X8_isCandle ⟨Nat.le_of_ble_eq_true rfl, Nat.le_of_ble_eq_true rfl⟩) mw_0 rfl rfl hl.1 rfl (Nat.le_of_ble_eq_true rfl) dX8_light_2 ⟨Nat.zero_le _, Nat.zero_le _⟩ (fun H locs hP hD hS => ?_)
  refine lv_if_ne (tgt := 10) hx hb dX8_light_5 (by decide) (fun q3 => ?_) (fun q3 => ?_)
  · have h := ifn q3 h
    refine lv_aload_n hx hb dX8_light_10 rfl (lv_at hl 0 rfl) ?_
    refine x_get C hP inlX8 0 mw_0 rfl 11 (by decide) mw6_6 rfl dX8_light_11 ?_
    refine lv_bipush (v := 8) hx hb dX8_light_14 (by decide) ?_
    refine lv_iload_n hx hb dX8_light_16 rfl (lv_at hl 1 rfl) ?_
    refine lv_iadd hx hb dX8_light_17 ?_
    obtain ⟨g4, x5, ex5, h⟩ := rd_some h
    refine x_ild C hP 9 mw_9 g4 ex5 dX8_light_18 ?_
    refine lv_if_eq (tgt := 25) hx hb dX8_light_19 (by decide) (fun q6 => ?_) (fun q6 => ?_)
    · have h := ifp q6 h
      refine lv_aload_n hx hb dX8_light_25 rfl (lv_at hl 0 rfl) ?_
      obtain ⟨σ8, g7, h⟩ := cl_some h
      refine x_callVv (rest := []) C hP hD hS (c_X8_keepAct g7) (cwV 0 hts (gV mw16_6 mw16_7 mw16_8 mw1_5 mw16_9) rfl rfl rfl hdV_X8_keepAct ⟨Nat.le_of_ble_eq_true rfl, Nat.le_of_ble_eq_true rfl⟩) mw_0 rfl rfl hl.1 rfl (Nat.le_of_ble_eq_true rfl) dX8_light_26 ⟨Nat.zero_le _, Nat.zero_le _⟩ (fun H locs hP hD hS => ?_)
      refine lv_aload_n hx hb dX8_light_29 rfl (lv_at hl 0 rfl) ?_
      refine x_get C hP inlX8 0 mw_0 rfl 11 (by decide) mw6_6 rfl dX8_light_30 ?_
      refine lv_bipush (v := 8) hx hb dX8_light_33 (by decide) ?_
      refine lv_iload_n hx hb dX8_light_35 rfl (lv_at hl 1 rfl) ?_
      refine lv_iadd hx hb dX8_light_36 ?_
      refine lv_iconst (v := 1) hx hb dX8_light_37 (by decide) ?_
      obtain ⟨g9, σ10, eσ10, h⟩ := wr_some h
      refine x_ist C hP hD hS 9 mw_9 g9 (ma_9 eσ10) dX8_light_38 (fun H locs hP hD hS => ?_)
      refine lv_aload_n hx hb dX8_light_39 rfl (lv_at hl 0 rfl) ?_
      refine lv_iconst (v := 0) hx hb dX8_light_40 (by decide) ?_
      obtain ⟨r12, g11, h⟩ := cl_some h
      refine x_callVi (rest := []) C hP hD hS (c_X8_burning g11) (cwV 1 hts (gV mw16_11 mw16_12 mw16_13 mw1_5 mw16_14) rfl rfl rfl hdV_X8_burning ⟨Nat.le_of_ble_eq_true rfl, Nat.le_of_ble_eq_true rfl⟩) mw_0 rfl rfl hl.1 rfl (Nat.le_of_ble_eq_true rfl) dX8_light_41 ⟨Nat.zero_le _, Nat.zero_le _⟩ (fun H locs hP hD hS => ?_)
      obtain ⟨z1, z2⟩ := pr_inj h
      subst z1
      subst z2
      exact x_iret C hr hP hD hS dX8_light_44
    · have h := ifn q6 h
      refine lv_bipush (v := -3) hx hb dX8_light_22 (by decide) ?_
      obtain ⟨z1, z2⟩ := pr_inj h
      subst z1
      subst z2
      exact x_iret C hr hP hD hS dX8_light_24
  · have h := ifp q3 h
    refine lv_iconst (v := -1) hx hb dX8_light_8 (by decide) ?_
    obtain ⟨z1, z2⟩ := pr_inj h
    subst z1
    subst z2
    exact x_iret C hr hP hD hS dX8_light_9
theorem c_X8_light {l : Launch} {D : va_G} {cy : Nat → ClassId} {tT tF : Nat} {ad : Nat → Nat} {σ : ES} {a1 : Int32} {r : Int32} {σ' : ES} (h : e_X8_light a1 σ = some (r, σ')) : CMi l yX8_light (Cond.code yX8_light cX8_light 2 (some .int) :: wsL_law) { frames := 2, cells := 0, slots := 0, locals := 46 } D cy tT tF [.ref (ad 0), .int a1] (mw cy ad σ) r (mw cy ad σ') := x_start (Qc := fun A => (Qi D cy A r (mw cy ad σ'))) (by decide) (Nat.le_of_ble_eq_true rfl) (fun p e s m below meth c A ls C hr hP hD hS hl => w_X8_light_0 C hr a1 σ h s.heap [] hP hD hS ls hl)
set_option maxHeartbeats 4000000 in
set_option maxRecDepth 100000 in
theorem w_X8_out_0 (C : Cx p s m args meth c D cy tT tF A cX8_out 2 RX8) (hr : meth.sig.returnType = some .int) {r : Int32} {σ' : ES} (a1 : Int32) (σ : ES) (h : b_X8_out_0 a1 σ = some (r, σ')) (H : Heap) (locs : List Loc) (hP : va_P D vwCl (mw cy ad σ) H) (hD : va_D A (mw cy ad σ)) (hS : va_S A s.heap H locs) (ls : Array Slot) (hl : lv_has ls 2 [(0, .ref (ad 0)), (1, .int a1)]) : W p l e { frames := 2, cells := 0, slots := 0, locals := 46 } s m args below meth c H locs 0 0 (MQ below (Qi D cy A r (mw cy ad σ')) args s 0 0 A) (F0 m 0 ls []) := by
  obtain ⟨⟨hx, hb, hml, hown, hts⟩, hK, hT, hA, hlk⟩ := id C
  unfold b_X8_out_0 at h
  refine lv_aload_n hx hb dX8_out_0 rfl (lv_at hl 0 rfl) ?_
  refine lv_iload_n hx hb dX8_out_1 rfl (lv_at hl 1 rfl) ?_
  obtain ⟨r2, g1, h⟩ := cl_some h
  refine x_callVi (rest := []) C hP hD hS (c_X8_isCandle g1) (cwV 1 hts (gV mw13_11 mw13_12 mw13_13 mw1_5 mw13_14) rfl rfl rfl hdV_X8_isCandle ⟨Nat.le_of_ble_eq_true rfl, Nat.le_of_ble_eq_true rfl⟩) mw_0 rfl rfl hl.1 rfl (Nat.le_of_ble_eq_true rfl) dX8_out_2 ⟨Nat.zero_le _, Nat.zero_le _⟩ (fun H locs hP hD hS => ?_)
  refine lv_if_ne (tgt := 10) hx hb dX8_out_5 (by decide) (fun q3 => ?_) (fun q3 => ?_)
  · have h := ifn q3 h
    refine lv_aload_n hx hb dX8_out_10 rfl (lv_at hl 0 rfl) ?_
    refine x_get C hP inlX8 0 mw_0 rfl 11 (by decide) mw6_6 rfl dX8_out_11 ?_
    refine lv_bipush (v := 8) hx hb dX8_out_14 (by decide) ?_
    refine lv_iload_n hx hb dX8_out_16 rfl (lv_at hl 1 rfl) ?_
    refine lv_iadd hx hb dX8_out_17 ?_
    obtain ⟨g4, x5, ex5, h⟩ := rd_some h
    refine x_ild C hP 9 mw_9 g4 ex5 dX8_out_18 ?_
    refine lv_iconst (v := 1) hx hb dX8_out_19 (by decide) ?_
    refine lv_icmp_eq (tgt := 26) hx hb dX8_out_20 (by decide) (fun q6 => ?_) (fun q6 => ?_)
    · have h := ifp q6 h
      refine lv_aload_n hx hb dX8_out_26 rfl (lv_at hl 0 rfl) ?_
      obtain ⟨σ8, g7, h⟩ := cl_some h
      refine x_callVv (rest := []) C hP hD hS (c_X8_keepAct g7) (cwV 0 hts (gV mw16_6 mw16_7 mw16_8 mw1_5 mw16_9) rfl rfl rfl hdV_X8_keepAct ⟨Nat.le_of_ble_eq_true rfl, Nat.le_of_ble_eq_true rfl⟩) mw_0 rfl rfl hl.1 rfl (Nat.le_of_ble_eq_true rfl) dX8_out_27 ⟨Nat.zero_le _, Nat.zero_le _⟩ (fun H locs hP hD hS => ?_)
      refine lv_aload_n hx hb dX8_out_30 rfl (lv_at hl 0 rfl) ?_
      refine x_get C hP inlX8 0 mw_0 rfl 11 (by decide) mw6_6 rfl dX8_out_31 ?_
      refine lv_bipush (v := 8) hx hb dX8_out_34 (by decide) ?_
      refine lv_iload_n hx hb dX8_out_36 rfl (lv_at hl 1 rfl) ?_
      refine lv_iadd hx hb dX8_out_37 ?_
      refine lv_iconst (v := 2) hx hb dX8_out_38 (by decide) ?_
      obtain ⟨g9, σ10, eσ10, h⟩ := wr_some h
      refine x_ist C hP hD hS 9 mw_9 g9 (ma_9 eσ10) dX8_out_39 (fun H locs hP hD hS => ?_)
      refine lv_aload_n hx hb dX8_out_40 rfl (lv_at hl 0 rfl) ?_
      refine x_get C hP inlX8 0 mw_0 rfl 11 (by decide) mw6_6 rfl dX8_out_41 ?_
      refine lv_iconst (v := 4) hx hb dX8_out_44 (by decide) ?_
      refine lv_iload_n hx hb dX8_out_45 rfl (lv_at hl 1 rfl) ?_
      refine lv_iadd hx hb dX8_out_46 ?_
      obtain ⟨g11, x12, ex12, h⟩ := rd_some h
      refine x_ild C hP 9 mw_9 g11 ex12 dX8_out_47 ?_
      obtain ⟨z1, z2⟩ := pr_inj h
      subst z1
      subst z2
      exact x_iret C hr hP hD hS dX8_out_48
    · have h := ifn q6 h
      refine lv_bipush (v := -3) hx hb dX8_out_23 (by decide) ?_
      obtain ⟨z1, z2⟩ := pr_inj h
      subst z1
      subst z2
      exact x_iret C hr hP hD hS dX8_out_25
  · have h := ifp q3 h
    refine lv_iconst (v := -1) hx hb dX8_out_8 (by decide) ?_
    obtain ⟨z1, z2⟩ := pr_inj h
    subst z1
    subst z2
    exact x_iret C hr hP hD hS dX8_out_9
theorem c_X8_out {l : Launch} {D : va_G} {cy : Nat → ClassId} {tT tF : Nat} {ad : Nat → Nat} {σ : ES} {a1 : Int32} {r : Int32} {σ' : ES} (h : e_X8_out a1 σ = some (r, σ')) : CMi l yX8_out (Cond.code yX8_out cX8_out 2 (some .int) :: wsL_law) { frames := 2, cells := 0, slots := 0, locals := 46 } D cy tT tF [.ref (ad 0), .int a1] (mw cy ad σ) r (mw cy ad σ') := x_start (Qc := fun A => (Qi D cy A r (mw cy ad σ'))) (by decide) (Nat.le_of_ble_eq_true rfl) (fun p e s m below meth c A ls C hr hP hD hS hl => w_X8_out_0 C hr a1 σ h s.heap [] hP hD hS ls hl)
set_option maxHeartbeats 4000000 in
set_option maxRecDepth 100000 in
theorem w_X8_trim_0 (C : Cx p s m args meth c D cy tT tF A cX8_trim 3 RX8) (hr : meth.sig.returnType = some .int) {r : Int32} {σ' : ES} (a1 : Int32) (a2 : Int32) (σ : ES) (h : b_X8_trim_0 a1 a2 σ = some (r, σ')) (H : Heap) (locs : List Loc) (hP : va_P D vwCl (mw cy ad σ) H) (hD : va_D A (mw cy ad σ)) (hS : va_S A s.heap H locs) (ls : Array Slot) (hl : lv_has ls 3 [(0, .ref (ad 0)), (1, .int a1), (2, .int a2)]) : W p l e { frames := 2, cells := 0, slots := 0, locals := 46 } s m args below meth c H locs 0 0 (MQ below (Qi D cy A r (mw cy ad σ')) args s 0 0 A) (F0 m 0 ls []) := by
  obtain ⟨⟨hx, hb, hml, hown, hts⟩, hK, hT, hA, hlk⟩ := id C
  unfold b_X8_trim_0 at h
  refine lv_aload_n hx hb dX8_trim_0 rfl (lv_at hl 0 rfl) ?_
  refine lv_iload_n hx hb dX8_trim_1 rfl (lv_at hl 1 rfl) ?_
  obtain ⟨r2, g1, h⟩ := cl_some h
  refine x_callVi (rest := []) C hP hD hS (c_X8_isCandle g1) (cwV 1 hts (gV mw13_11 mw13_12 mw13_13 mw1_5 mw13_14) rfl rfl rfl hdV_X8_isCandle ⟨Nat.le_of_ble_eq_true rfl, Nat.le_of_ble_eq_true rfl⟩) mw_0 rfl rfl hl.1 rfl (Nat.le_of_ble_eq_true rfl) dX8_trim_2 ⟨Nat.zero_le _, Nat.zero_le _⟩ (fun H locs hP hD hS => ?_)
  refine lv_if_ne (tgt := 10) hx hb dX8_trim_5 (by decide) (fun q3 => ?_) (fun q3 => ?_)
  · have h := ifn q3 h
    refine lv_iload_n hx hb dX8_trim_10 rfl (lv_at hl 2 rfl) ?_
    refine lv_i2l hx hb dX8_trim_11 rfl ?_
    refine lv_lconst (v := 1) hx hb dX8_trim_12 (by decide) ?_
    refine lv_ldc2 (v := 5) hx hb hown (hts _ mw17_7) dX8_trim_13 ?_
    obtain ⟨r5, g4, h⟩ := cl_some h
    refine x_callSi (rest := []) C hP hD hS (c_X8_in g4) (va_cwS 3 hts (gS mw7_10 mw7_11 mw1_5 mw7_12) rfl rfl rfl hdS_X8_in ⟨Nat.le_of_ble_eq_true rfl, Nat.le_of_ble_eq_true rfl⟩) rfl hl.1 rfl (Nat.le_of_ble_eq_true rfl) dX8_trim_16 ⟨Nat.zero_le _, Nat.zero_le _⟩ (fun H locs hP hD hS => ?_)
    refine lv_if_ne (tgt := 25) hx hb dX8_trim_19 (by decide) (fun q6 => ?_) (fun q6 => ?_)
    · have h := ifn q6 h
      refine lv_aload_n hx hb dX8_trim_25 rfl (lv_at hl 0 rfl) ?_
      refine x_get C hP inlX8 0 mw_0 rfl 11 (by decide) mw6_6 rfl dX8_trim_26 ?_
      refine lv_bipush (v := 8) hx hb dX8_trim_29 (by decide) ?_
      refine lv_iload_n hx hb dX8_trim_31 rfl (lv_at hl 1 rfl) ?_
      refine lv_iadd hx hb dX8_trim_32 ?_
      obtain ⟨g7, x8, ex8, h⟩ := rd_some h
      refine x_ild C hP 9 mw_9 g7 ex8 dX8_trim_33 ?_
      refine lv_if_ne (tgt := 49) hx hb dX8_trim_34 (by decide) (fun q9 => ?_) (fun q9 => ?_)
      · have h := ifn q9 h
        refine lv_bipush (v := -3) hx hb dX8_trim_49 (by decide) ?_
        obtain ⟨z1, z2⟩ := pr_inj h
        subst z1
        subst z2
        exact x_iret C hr hP hD hS dX8_trim_51
      · have h := ifp q9 h
        refine lv_aload_n hx hb dX8_trim_37 rfl (lv_at hl 0 rfl) ?_
        refine x_get C hP inlX8 0 mw_0 rfl 11 (by decide) mw6_6 rfl dX8_trim_38 ?_
        refine lv_iconst (v := 4) hx hb dX8_trim_41 (by decide) ?_
        refine lv_iload_n hx hb dX8_trim_42 rfl (lv_at hl 1 rfl) ?_
        refine lv_iadd hx hb dX8_trim_43 ?_
        obtain ⟨g10, x11, ex11, h⟩ := rd_some h
        refine x_ild C hP 9 mw_9 g10 ex11 dX8_trim_44 ?_
        refine lv_iload_n hx hb dX8_trim_45 rfl (lv_at hl 2 rfl) ?_
        refine lv_icmp_gt (tgt := 52) hx hb dX8_trim_46 (by decide) (fun q12 => ?_) (fun q12 => ?_)
        · have h := ifp q12 h
          refine lv_aload_n hx hb dX8_trim_52 rfl (lv_at hl 0 rfl) ?_
          obtain ⟨σ14, g13, h⟩ := cl_some h
          refine x_callVv (rest := []) C hP hD hS (c_X8_keepAct g13) (cwV 0 hts (gV mw16_6 mw16_7 mw16_8 mw1_5 mw16_9) rfl rfl rfl hdV_X8_keepAct ⟨Nat.le_of_ble_eq_true rfl, Nat.le_of_ble_eq_true rfl⟩) mw_0 rfl rfl hl.1 rfl (Nat.le_of_ble_eq_true rfl) dX8_trim_53 ⟨Nat.zero_le _, Nat.zero_le _⟩ (fun H locs hP hD hS => ?_)
          refine lv_aload_n hx hb dX8_trim_56 rfl (lv_at hl 0 rfl) ?_
          refine x_get C hP inlX8 0 mw_0 rfl 11 (by decide) mw6_6 rfl dX8_trim_57 ?_
          refine lv_iload_n hx hb dX8_trim_60 rfl (lv_at hl 1 rfl) ?_
          refine lv_dup2_11 hx hb dX8_trim_61 rfl rfl ?_
          obtain ⟨g15, x16, ex16, h⟩ := rd_some h
          refine x_ild C hP 9 mw_9 g15 ex16 dX8_trim_62 ?_
          refine lv_iload_n hx hb dX8_trim_63 rfl (lv_at hl 2 rfl) ?_
          refine lv_iadd hx hb dX8_trim_64 ?_
          obtain ⟨g17, σ18, eσ18, h⟩ := wr_some h
          refine x_ist C hP hD hS 9 mw_9 g17 (ma_9 eσ18) dX8_trim_65 (fun H locs hP hD hS => ?_)
          refine lv_aload_n hx hb dX8_trim_66 rfl (lv_at hl 0 rfl) ?_
          refine x_get C hP inlX8 0 mw_0 rfl 11 (by decide) mw6_6 rfl dX8_trim_67 ?_
          refine lv_iconst (v := 4) hx hb dX8_trim_70 (by decide) ?_
          refine lv_iload_n hx hb dX8_trim_71 rfl (lv_at hl 1 rfl) ?_
          refine lv_iadd hx hb dX8_trim_72 ?_
          refine lv_dup2_11 hx hb dX8_trim_73 rfl rfl ?_
          obtain ⟨g19, x20, ex20, h⟩ := rd_some h
          refine x_ild C hP 9 mw_9 g19 ex20 dX8_trim_74 ?_
          refine lv_iload_n hx hb dX8_trim_75 rfl (lv_at hl 2 rfl) ?_
          refine lv_isub hx hb dX8_trim_76 ?_
          obtain ⟨g21, σ22, eσ22, h⟩ := wr_some h
          refine x_ist C hP hD hS 9 mw_9 g21 (ma_9 eσ22) dX8_trim_77 (fun H locs hP hD hS => ?_)
          refine lv_aload_n hx hb dX8_trim_78 rfl (lv_at hl 0 rfl) ?_
          refine x_get C hP inlX8 0 mw_0 rfl 11 (by decide) mw6_6 rfl dX8_trim_79 ?_
          refine lv_iconst (v := 4) hx hb dX8_trim_82 (by decide) ?_
          refine lv_iload_n hx hb dX8_trim_83 rfl (lv_at hl 1 rfl) ?_
          refine lv_iadd hx hb dX8_trim_84 ?_
          obtain ⟨g23, x24, ex24, h⟩ := rd_some h
          refine x_ild C hP 9 mw_9 g23 ex24 dX8_trim_85 ?_
          obtain ⟨z1, z2⟩ := pr_inj h
          subst z1
          subst z2
          exact x_iret C hr hP hD hS dX8_trim_86
        · have h := ifn q12 h
          refine lv_bipush (v := -3) hx hb dX8_trim_49 (by decide) ?_
          obtain ⟨z1, z2⟩ := pr_inj h
          subst z1
          subst z2
          exact x_iret C hr hP hD hS dX8_trim_51
    · have h := ifp q6 h
      refine lv_bipush (v := -2) hx hb dX8_trim_22 (by decide) ?_
      obtain ⟨z1, z2⟩ := pr_inj h
      subst z1
      subst z2
      exact x_iret C hr hP hD hS dX8_trim_24
  · have h := ifp q3 h
    refine lv_iconst (v := -1) hx hb dX8_trim_8 (by decide) ?_
    obtain ⟨z1, z2⟩ := pr_inj h
    subst z1
    subst z2
    exact x_iret C hr hP hD hS dX8_trim_9
theorem c_X8_trim {l : Launch} {D : va_G} {cy : Nat → ClassId} {tT tF : Nat} {ad : Nat → Nat} {σ : ES} {a1 : Int32} {a2 : Int32} {r : Int32} {σ' : ES} (h : e_X8_trim a1 a2 σ = some (r, σ')) : CMi l yX8_trim (Cond.code yX8_trim cX8_trim 3 (some .int) :: wsL_law) { frames := 2, cells := 0, slots := 0, locals := 46 } D cy tT tF [.ref (ad 0), .int a1, .int a2] (mw cy ad σ) r (mw cy ad σ') := x_start (Qc := fun A => (Qi D cy A r (mw cy ad σ'))) (by decide) (Nat.le_of_ble_eq_true rfl) (fun p e s m below meth c A ls C hr hP hD hS hl => w_X8_trim_0 C hr a1 a2 σ h s.heap [] hP hD hS ls hl)
set_option maxHeartbeats 4000000 in
set_option maxRecDepth 100000 in
theorem w_X8_has_0 (C : Cx p s m args meth c D cy tT tF A cX8_has 2 RX8) (hr : meth.sig.returnType = some .boolean) {r : Int32} (a0 : Int32) (a1 : Int32) (h : b_X8_has_0 a0 a1 = some r) (H : Heap) (locs : List Loc) (hP : va_P D vwCl ws H) (hD : va_D A ws) (hS : va_S A s.heap H locs) (ls : Array Slot) (hl : lv_has ls 2 [(0, .int a0), (1, .int a1)]) : W p l e { frames := 0, cells := 0, slots := 0, locals := 0 } s m args below meth c H locs 0 0 (MQ below (Qi D cy A r ws) args s 0 0 A) (F0 m 0 ls []) := by
  obtain ⟨⟨hx, hb, hml, hown, hts⟩, hK, hT, hA, hlk⟩ := id C
  unfold b_X8_has_0 at h
  refine lv_iload_n hx hb dX8_has_0 rfl (lv_at hl 0 rfl) ?_
  refine lv_iload_n hx hb dX8_has_1 rfl (lv_at hl 1 rfl) ?_
  refine lv_ishr hx hb dX8_has_2 ?_
  refine lv_iconst (v := 1) hx hb dX8_has_3 (by decide) ?_
  refine lv_iand hx hb dX8_has_4 ?_
  refine lv_iconst (v := 1) hx hb dX8_has_5 (by decide) ?_
  refine lv_icmp_ne (tgt := 13) hx hb dX8_has_6 (by decide) (fun q1 => ?_) (fun q1 => ?_)
  · have h := ifn q1 h
    refine lv_iconst (v := 0) hx hb dX8_has_13 (by decide) ?_
    have z1 := so_inj h
    subst z1
    exact x_zret C hr rfl hP hD hS dX8_has_14
  · have h := ifp q1 h
    refine lv_iconst (v := 1) hx hb dX8_has_9 (by decide) ?_
    refine lv_goto (tgt := 14) hx hb dX8_has_10 (by decide) ?_
    have z1 := so_inj h
    subst z1
    exact x_zret C hr rfl hP hD hS dX8_has_14
theorem c_X8_has {l : Launch} {D : va_G} {cy : Nat → ClassId} {tT tF : Nat} {ws : va_W} {a0 : Int32} {a1 : Int32} {r : Int32} (h : e_X8_has a0 a1 = some r) : CMi l yX8_has (Cond.code yX8_has cX8_has 2 (some .boolean) :: wsL_law) { frames := 0, cells := 0, slots := 0, locals := 0 } D cy tT tF [.int a0, .int a1] ws r ws := x_start (Qc := fun A => (Qi D cy A r ws)) (by decide) (Nat.le_of_ble_eq_true rfl) (fun p e s m below meth c A ls C hr hP hD hS hl => w_X8_has_0 C hr a0 a1 h s.heap [] hP hD hS ls hl)
set_option maxHeartbeats 4000000 in
set_option maxRecDepth 100000 in
theorem w_X8_pass_229 (C : Cx p s m args meth c D cy tT tF A cX8_pass 7 RX8) (hr : meth.sig.returnType = some .int) {r : Int32} {σ' : ES} {K144 : Int32 → Int32 → Int32 → Int32 → ES → Option (Int32 × ES)} (hK144 : ∀ (v2 : Int32) (v3 : Int32) (v4 : Int32) (v5 : Int32) (σ : ES), K144 v2 v3 v4 v5 σ = some (r, σ') → ∀ (H : Heap) (locs : List Loc), va_P D vwCl (mw cy ad σ) H → va_D A (mw cy ad σ) → va_S A s.heap H locs → ∀ ls : Array Slot, lv_has ls 7 [(0, .ref (ad 0)), (2, .int v2), (3, .int v3), (4, .int v4), (5, .int v5)] → W p l e { frames := 1, cells := 0, slots := 0, locals := 25 } s m args below meth c H locs 0 0 (MQ below (Qi D cy A r (mw cy ad σ')) args s 0 0 A) (F0 m 144 ls [])) (v2 : Int32) (v3 : Int32) (v4 : Int32) (v5 : Int32) (v6 : Int32) (t1 : Int32) (t2 : Int32) (t3 : Int32) (σ : ES) (h : b_X8_pass_229 K144 v2 v3 v4 v5 v6 t1 t2 t3 σ = some (r, σ')) (H : Heap) (locs : List Loc) (hP : va_P D vwCl (mw cy ad σ) H) (hD : va_D A (mw cy ad σ)) (hS : va_S A s.heap H locs) (ls : Array Slot) (hl : lv_has ls 7 [(0, .ref (ad 0)), (2, .int v2), (3, .int v3), (4, .int v4), (5, .int v5), (6, .int v6)]) : W p l e { frames := 1, cells := 0, slots := 0, locals := 25 } s m args below meth c H locs 0 0 (MQ below (Qi D cy A r (mw cy ad σ')) args s 0 0 A) (F0 m 229 ls [.int t3, .int t2, .int t1, .ref (ad 9)]) := by
  obtain ⟨⟨hx, hb, hml, hown, hts⟩, hK, hT, hA, hlk⟩ := id C
  unfold b_X8_pass_229 at h
  refine lv_iadd hx hb dX8_pass_229 ?_
  obtain ⟨g1, σ2, eσ2, h⟩ := wr_some h
  refine x_ist C hP hD hS 9 mw_9 g1 (ma_9 eσ2) dX8_pass_230 (fun H locs hP hD hS => ?_)
  refine lv_iload hx hb dX8_pass_231 (lv_at hl 3 rfl) ?_
  refine lv_iload hx hb dX8_pass_233 (lv_at hl 5 rfl) ?_
  refine lv_if_eq (tgt := 245) hx hb dX8_pass_235 (by decide) (fun q3 => ?_) (fun q3 => ?_)
  · have h := ifp q3 h
    refine lv_iconst (v := 0) hx hb dX8_pass_245 (by decide) ?_
    refine lv_ior hx hb dX8_pass_246 ?_
    obtain ⟨x4, ex4, h⟩ := lt_some h
    refine x_ti ex4 ?_
    refine lv_istore (lv' := [(4, .int x4), (0, .ref (ad 0)), (2, .int v2), (3, .int v3), (5, .int v5), (6, .int v6)]) hx hb dX8_pass_247 hl (by decide) rfl (fun ls hl => ?_)
    obtain ⟨x5, ex5, h⟩ := lt_some h
    refine lv_iinc (v := x5) (lv' := [(5, .int x5), (4, .int x4), (0, .ref (ad 0)), (2, .int v2), (3, .int v3), (6, .int v6)]) hx hb dX8_pass_249 hl (k := 4) rfl (by rw [ex5]; rfl) (by decide) rfl (fun ls hl => ?_)
    refine lv_goto (tgt := 144) hx hb dX8_pass_252 (by decide) ?_
    exact hK144 v2 v3 x4 x5 σ2 h H locs hP hD hS ls (lv_sub hl [2, 3, 4, 1, 0] rfl)
  · have h := ifn q3 h
    refine lv_iconst (v := 1) hx hb dX8_pass_238 (by decide) ?_
    refine lv_iload hx hb dX8_pass_239 (lv_at hl 4 rfl) ?_
    refine lv_ishl hx hb dX8_pass_241 ?_
    refine lv_goto (tgt := 246) hx hb dX8_pass_242 (by decide) ?_
    refine lv_ior hx hb dX8_pass_246 ?_
    obtain ⟨x6, ex6, h⟩ := lt_some h
    refine x_ti ex6 ?_
    refine lv_istore (lv' := [(4, .int x6), (0, .ref (ad 0)), (2, .int v2), (3, .int v3), (5, .int v5), (6, .int v6)]) hx hb dX8_pass_247 hl (by decide) rfl (fun ls hl => ?_)
    obtain ⟨x7, ex7, h⟩ := lt_some h
    refine lv_iinc (v := x7) (lv' := [(5, .int x7), (4, .int x6), (0, .ref (ad 0)), (2, .int v2), (3, .int v3), (6, .int v6)]) hx hb dX8_pass_249 hl (k := 4) rfl (by rw [ex7]; rfl) (by decide) rfl (fun ls hl => ?_)
    refine lv_goto (tgt := 144) hx hb dX8_pass_252 (by decide) ?_
    exact hK144 v2 v3 x6 x7 σ2 h H locs hP hD hS ls (lv_sub hl [2, 3, 4, 1, 0] rfl)
set_option maxHeartbeats 4000000 in
set_option maxRecDepth 100000 in
theorem w_X8_pass_204 (C : Cx p s m args meth c D cy tT tF A cX8_pass 7 RX8) (hr : meth.sig.returnType = some .int) {r : Int32} {σ' : ES} {K144 : Int32 → Int32 → Int32 → Int32 → ES → Option (Int32 × ES)} (hK144 : ∀ (v2 : Int32) (v3 : Int32) (v4 : Int32) (v5 : Int32) (σ : ES), K144 v2 v3 v4 v5 σ = some (r, σ') → ∀ (H : Heap) (locs : List Loc), va_P D vwCl (mw cy ad σ) H → va_D A (mw cy ad σ) → va_S A s.heap H locs → ∀ ls : Array Slot, lv_has ls 7 [(0, .ref (ad 0)), (2, .int v2), (3, .int v3), (4, .int v4), (5, .int v5)] → W p l e { frames := 1, cells := 0, slots := 0, locals := 25 } s m args below meth c H locs 0 0 (MQ below (Qi D cy A r (mw cy ad σ')) args s 0 0 A) (F0 m 144 ls [])) (v2 : Int32) (v3 : Int32) (v4 : Int32) (v5 : Int32) (t0 : Int32) (σ : ES) (h : b_X8_pass_204 K144 v2 v3 v4 v5 t0 σ = some (r, σ')) (H : Heap) (locs : List Loc) (hP : va_P D vwCl (mw cy ad σ) H) (hD : va_D A (mw cy ad σ)) (hS : va_S A s.heap H locs) (ls : Array Slot) (hl : lv_has ls 7 [(0, .ref (ad 0)), (2, .int v2), (3, .int v3), (4, .int v4), (5, .int v5)]) : W p l e { frames := 1, cells := 0, slots := 0, locals := 25 } s m args below meth c H locs 0 0 (MQ below (Qi D cy A r (mw cy ad σ')) args s 0 0 A) (F0 m 204 ls [.int t0]) := by
  obtain ⟨⟨hx, hb, hml, hown, hts⟩, hK, hT, hA, hlk⟩ := id C
  unfold b_X8_pass_204 at h
  refine lv_istore (lv' := [(6, .int t0), (0, .ref (ad 0)), (2, .int v2), (3, .int v3), (4, .int v4), (5, .int v5)]) hx hb dX8_pass_204 hl (by decide) rfl (fun ls hl => ?_)
  refine lv_aload_n hx hb dX8_pass_206 rfl (lv_at hl 1 rfl) ?_
  refine x_get C hP inlX8 0 mw_0 rfl 11 (by decide) mw6_6 rfl dX8_pass_207 ?_
  refine lv_iload_n hx hb dX8_pass_210 rfl (lv_at hl 2 rfl) ?_
  refine lv_bipush (v := 12) hx hb dX8_pass_211 (by decide) ?_
  refine lv_iadd hx hb dX8_pass_213 ?_
  refine lv_iload hx hb dX8_pass_214 (lv_at hl 5 rfl) ?_
  refine lv_iadd hx hb dX8_pass_216 ?_
  refine lv_dup2_11 hx hb dX8_pass_217 rfl rfl ?_
  obtain ⟨g1, x2, ex2, h⟩ := rd_some h
  refine x_ild C hP 9 mw_9 g1 ex2 dX8_pass_218 ?_
  refine lv_iload hx hb dX8_pass_219 (lv_at hl 0 rfl) ?_
  refine lv_if_eq (tgt := 228) hx hb dX8_pass_221 (by decide) (fun q3 => ?_) (fun q3 => ?_)
  · have h := ifp q3 h
    refine lv_iconst (v := 0) hx hb dX8_pass_228 (by decide) ?_
    exact w_X8_pass_229 C hr hK144 v2 v3 v4 v5 t0 ((v2 + (12 : Int32)) + v5) x2 (0 : Int32) σ h H locs hP hD hS ls (lv_sub hl [1, 2, 3, 4, 5, 0] rfl)
  · have h := ifn q3 h
    refine lv_iconst (v := 1) hx hb dX8_pass_224 (by decide) ?_
    refine lv_goto (tgt := 229) hx hb dX8_pass_225 (by decide) ?_
    exact w_X8_pass_229 C hr hK144 v2 v3 v4 v5 t0 ((v2 + (12 : Int32)) + v5) x2 (1 : Int32) σ h H locs hP hD hS ls (lv_sub hl [1, 2, 3, 4, 5, 0] rfl)
set_option maxHeartbeats 4000000 in
set_option maxRecDepth 100000 in
theorem w_X8_pass_144 (C : Cx p s m args meth c D cy tT tF A cX8_pass 7 RX8) (hr : meth.sig.returnType = some .int) {r : Int32} {σ' : ES} : ∀ (n : Nat) (v2 : Int32) (v3 : Int32) (v4 : Int32) (v5 : Int32) (σ : ES), b_X8_pass_144 n v2 v3 v4 v5 σ = some (r, σ') → ∀ (H : Heap) (locs : List Loc) (hP : va_P D vwCl (mw cy ad σ) H) (hD : va_D A (mw cy ad σ)) (hS : va_S A s.heap H locs) (ls : Array Slot) (hl : lv_has ls 7 [(0, .ref (ad 0)), (2, .int v2), (3, .int v3), (4, .int v4), (5, .int v5)]), W p l e { frames := 1, cells := 0, slots := 0, locals := 25 } s m args below meth c H locs 0 0 (MQ below (Qi D cy A r (mw cy ad σ')) args s 0 0 A) (F0 m 144 ls []) := by
  obtain ⟨⟨hx, hb, hml, hown, hts⟩, hK, hT, hA, hlk⟩ := id C
  intro n
  induction n with
  | zero =>
    intro v2 v3 v4 v5 σ h
    exact no_some h
  | succ n ih =>
    intro v2 v3 v4 v5 σ h H locs hP hD hS ls hl
    rw [b_X8_pass_144] at h
    refine lv_iload hx hb dX8_pass_144 (lv_at hl 4 rfl) ?_
    refine lv_aload_n hx hb dX8_pass_146 rfl (lv_at hl 0 rfl) ?_
    refine x_get C hP inlX8 0 mw_0 rfl 2 (by decide) mw12_4 rfl dX8_pass_147 ?_
    refine lv_icmp_ge (tgt := 255) hx hb dX8_pass_150 (by decide) (fun q1 => ?_) (fun q1 => ?_)
    · have h := ifp q1 h
      refine lv_aload_n hx hb dX8_pass_255 rfl (lv_at hl 0 rfl) ?_
      refine x_get C hP inlX8 0 mw_0 rfl 11 (by decide) mw6_6 rfl dX8_pass_256 ?_
      refine lv_iload_n hx hb dX8_pass_259 rfl (lv_at hl 1 rfl) ?_
      refine lv_bipush (v := 17) hx hb dX8_pass_260 (by decide) ?_
      refine lv_iadd hx hb dX8_pass_262 ?_
      refine lv_dup2_11 hx hb dX8_pass_263 rfl rfl ?_
      obtain ⟨g2, x3, ex3, h⟩ := rd_some h
      refine x_ild C hP 9 mw_9 g2 ex3 dX8_pass_264 ?_
      refine lv_iconst (v := 1) hx hb dX8_pass_265 (by decide) ?_
      refine lv_iadd hx hb dX8_pass_266 ?_
      obtain ⟨g4, σ5, eσ5, h⟩ := wr_some h
      refine x_ist C hP hD hS 9 mw_9 g4 (ma_9 eσ5) dX8_pass_267 (fun H locs hP hD hS => ?_)
      refine lv_iload hx hb dX8_pass_268 (lv_at hl 3 rfl) ?_
      obtain ⟨z1, z2⟩ := pr_inj h
      subst z1
      subst z2
      exact x_iret C hr hP hD hS dX8_pass_270
    · have h := ifn q1 h
      refine lv_aload_n hx hb dX8_pass_153 rfl (lv_at hl 0 rfl) ?_
      refine x_get C hP inlX8 0 mw_0 rfl 11 (by decide) mw6_6 rfl dX8_pass_154 ?_
      refine lv_iload_n hx hb dX8_pass_157 rfl (lv_at hl 1 rfl) ?_
      refine lv_bipush (v := 17) hx hb dX8_pass_158 (by decide) ?_
      refine lv_iadd hx hb dX8_pass_160 ?_
      obtain ⟨g6, x7, ex7, h⟩ := rd_some h
      refine x_ild C hP 9 mw_9 g6 ex7 dX8_pass_161 ?_
      refine lv_i2l hx hb dX8_pass_162 rfl ?_
      refine lv_aload_n hx hb dX8_pass_163 rfl (lv_at hl 0 rfl) ?_
      refine x_get C hP inlX8 0 mw_0 rfl 9 (by decide) mw6_4 rfl dX8_pass_164 ?_
      refine lv_iload hx hb dX8_pass_167 (lv_at hl 4 rfl) ?_
      obtain ⟨g8, x9, ex9, h⟩ := rd_some h
      refine x_ild C hP 7 mw_7 g8 ex9 dX8_pass_169 ?_
      refine lv_i2l hx hb dX8_pass_170 rfl ?_
      refine lv_aload_n hx hb dX8_pass_171 rfl (lv_at hl 0 rfl) ?_
      refine x_get C hP inlX8 0 mw_0 rfl 10 (by decide) mw6_5 rfl dX8_pass_172 ?_
      refine lv_iload hx hb dX8_pass_175 (lv_at hl 4 rfl) ?_
      obtain ⟨g10, x11, ex11, h⟩ := rd_some h
      refine x_ild C hP 8 mw_8 g10 ex11 dX8_pass_177 ?_
      refine lv_i2l hx hb dX8_pass_178 rfl ?_
      obtain ⟨r13, g12, h⟩ := cl_some h
      refine x_callSi (rest := []) C hP hD hS (c_X8_in g12) (va_cwS 3 hts (gS mw7_10 mw7_11 mw1_5 mw7_12) rfl rfl rfl hdS_X8_in ⟨Nat.le_of_ble_eq_true rfl, Nat.le_of_ble_eq_true rfl⟩) rfl hl.1 rfl (Nat.le_of_ble_eq_true rfl) dX8_pass_179 ⟨Nat.zero_le _, Nat.zero_le _⟩ (fun H locs hP hD hS => ?_)
      refine lv_if_eq (tgt := 203) hx hb dX8_pass_182 (by decide) (fun q14 => ?_) (fun q14 => ?_)
      · have h := ifp q14 h
        refine lv_iconst (v := 0) hx hb dX8_pass_203 (by decide) ?_
        exact w_X8_pass_204 C hr ih v2 v3 v4 v5 (0 : Int32) σ h H locs hP hD hS ls (lv_sub hl [0, 1, 2, 3, 4] rfl)
      · have h := ifn q14 h
        refine lv_iload_n hx hb dX8_pass_185 rfl (lv_at hl 2 rfl) ?_
        refine lv_aload_n hx hb dX8_pass_186 rfl (lv_at hl 0 rfl) ?_
        refine x_get C hP inlX8 0 mw_0 rfl 7 (by decide) mw6_2 rfl dX8_pass_187 ?_
        refine lv_iload hx hb dX8_pass_190 (lv_at hl 4 rfl) ?_
        obtain ⟨g15, x16, ex16, h⟩ := rd_some h
        refine x_ild C hP 5 mw_5 g15 ex16 dX8_pass_192 ?_
        obtain ⟨r18, g17, h⟩ := cl_some h
        refine x_callSi (rest := []) C hP hD hS (c_X8_has g17) (va_cwS 2 hts (gS mw18_16 mw18_17 mw1_5 mw18_18) rfl rfl rfl hdS_X8_has ⟨Nat.le_of_ble_eq_true rfl, Nat.le_of_ble_eq_true rfl⟩) rfl hl.1 rfl (Nat.le_of_ble_eq_true rfl) dX8_pass_193 ⟨Nat.zero_le _, Nat.zero_le _⟩ (fun H locs hP hD hS => ?_)
        refine lv_if_eq (tgt := 203) hx hb dX8_pass_196 (by decide) (fun q19 => ?_) (fun q19 => ?_)
        · have h := ifp q19 h
          refine lv_iconst (v := 0) hx hb dX8_pass_203 (by decide) ?_
          exact w_X8_pass_204 C hr ih v2 v3 v4 v5 (0 : Int32) σ h H locs hP hD hS ls (lv_sub hl [0, 1, 2, 3, 4] rfl)
        · have h := ifn q19 h
          refine lv_iconst (v := 1) hx hb dX8_pass_199 (by decide) ?_
          refine lv_goto (tgt := 204) hx hb dX8_pass_200 (by decide) ?_
          exact w_X8_pass_204 C hr ih v2 v3 v4 v5 (1 : Int32) σ h H locs hP hD hS ls (lv_sub hl [0, 1, 2, 3, 4] rfl)
set_option maxHeartbeats 4000000 in
set_option maxRecDepth 100000 in
theorem w_X8_pass_131 (C : Cx p s m args meth c D cy tT tF A cX8_pass 7 RX8) (hr : meth.sig.returnType = some .int) {r : Int32} {σ' : ES} {K10 : Int32 → Int32 → Int32 → ES → Option (Int32 × ES)} (hK10 : ∀ (v2 : Int32) (v3 : Int32) (v4 : Int32) (σ : ES), K10 v2 v3 v4 σ = some (r, σ') → ∀ (H : Heap) (locs : List Loc), va_P D vwCl (mw cy ad σ) H → va_D A (mw cy ad σ) → va_S A s.heap H locs → ∀ ls : Array Slot, lv_has ls 7 [(0, .ref (ad 0)), (2, .int v2), (3, .int v3), (4, .int v4)] → W p l e { frames := 1, cells := 0, slots := 0, locals := 25 } s m args below meth c H locs 0 0 (MQ below (Qi D cy A r (mw cy ad σ')) args s 0 0 A) (F0 m 10 ls [])) (v2 : Int32) (v3 : Int32) (v4 : Int32) (t1 : Int32) (t2 : Int32) (σ : ES) (h : b_X8_pass_131 K10 v2 v3 v4 t1 t2 σ = some (r, σ')) (H : Heap) (locs : List Loc) (hP : va_P D vwCl (mw cy ad σ) H) (hD : va_D A (mw cy ad σ)) (hS : va_S A s.heap H locs) (ls : Array Slot) (hl : lv_has ls 7 [(0, .ref (ad 0)), (2, .int v2), (3, .int v3), (4, .int v4)]) : W p l e { frames := 1, cells := 0, slots := 0, locals := 25 } s m args below meth c H locs 0 0 (MQ below (Qi D cy A r (mw cy ad σ')) args s 0 0 A) (F0 m 131 ls [.int t2, .int t1, .ref (ad 9)]) := by
  obtain ⟨⟨hx, hb, hml, hown, hts⟩, hK, hT, hA, hlk⟩ := id C
  unfold b_X8_pass_131 at h
  obtain ⟨g1, σ2, eσ2, h⟩ := wr_some h
  refine x_ist C hP hD hS 9 mw_9 g1 (ma_9 eσ2) dX8_pass_131 (fun H locs hP hD hS => ?_)
  obtain ⟨x3, ex3, h⟩ := lt_some h
  refine lv_iinc (v := x3) (lv' := [(4, .int x3), (0, .ref (ad 0)), (2, .int v2), (3, .int v3)]) hx hb dX8_pass_132 hl (k := 3) rfl (by rw [ex3]; rfl) (by decide) rfl (fun ls hl => ?_)
  refine lv_goto (tgt := 10) hx hb dX8_pass_135 (by decide) ?_
  exact hK10 v2 v3 x3 σ2 h H locs hP hD hS ls (lv_sub hl [1, 2, 3, 0] rfl)
set_option maxHeartbeats 4000000 in
set_option maxRecDepth 100000 in
theorem w_X8_pass_10 (C : Cx p s m args meth c D cy tT tF A cX8_pass 7 RX8) (hr : meth.sig.returnType = some .int) {r : Int32} {σ' : ES} : ∀ (n : Nat) (v2 : Int32) (v3 : Int32) (v4 : Int32) (σ : ES), b_X8_pass_10 n v2 v3 v4 σ = some (r, σ') → ∀ (H : Heap) (locs : List Loc) (hP : va_P D vwCl (mw cy ad σ) H) (hD : va_D A (mw cy ad σ)) (hS : va_S A s.heap H locs) (ls : Array Slot) (hl : lv_has ls 7 [(0, .ref (ad 0)), (2, .int v2), (3, .int v3), (4, .int v4)]), W p l e { frames := 1, cells := 0, slots := 0, locals := 25 } s m args below meth c H locs 0 0 (MQ below (Qi D cy A r (mw cy ad σ')) args s 0 0 A) (F0 m 10 ls []) := by
  obtain ⟨⟨hx, hb, hml, hown, hts⟩, hK, hT, hA, hlk⟩ := id C
  intro n
  induction n with
  | zero =>
    intro v2 v3 v4 σ h
    exact no_some h
  | succ n ih =>
    intro v2 v3 v4 σ h H locs hP hD hS ls hl
    rw [b_X8_pass_10] at h
    refine lv_iload hx hb dX8_pass_10 (lv_at hl 3 rfl) ?_
    refine lv_aload_n hx hb dX8_pass_12 rfl (lv_at hl 0 rfl) ?_
    refine x_get C hP inlX8 0 mw_0 rfl 1 (by decide) mw12_3 rfl dX8_pass_13 ?_
    refine lv_icmp_ge (tgt := 138) hx hb dX8_pass_16 (by decide) (fun q1 => ?_) (fun q1 => ?_)
    · have h := ifp q1 h
      refine lv_iconst (v := 0) hx hb dX8_pass_138 (by decide) ?_
      refine lv_istore (lv' := [(4, .int (0 : Int32)), (0, .ref (ad 0)), (2, .int v2), (3, .int v3)]) hx hb dX8_pass_139 hl (by decide) rfl (fun ls hl => ?_)
      refine lv_iconst (v := 0) hx hb dX8_pass_141 (by decide) ?_
      refine lv_istore (lv' := [(5, .int (0 : Int32)), (4, .int (0 : Int32)), (0, .ref (ad 0)), (2, .int v2), (3, .int v3)]) hx hb dX8_pass_142 hl (by decide) rfl (fun ls hl => ?_)
      exact w_X8_pass_144 C hr FU v2 v3 (0 : Int32) (0 : Int32) σ h H locs hP hD hS ls (lv_sub hl [2, 3, 4, 1, 0] rfl)
    · have h := ifn q1 h
      refine lv_aload_n hx hb dX8_pass_19 rfl (lv_at hl 0 rfl) ?_
      refine x_get C hP inlX8 0 mw_0 rfl 11 (by decide) mw6_6 rfl dX8_pass_20 ?_
      refine lv_iload_n hx hb dX8_pass_23 rfl (lv_at hl 1 rfl) ?_
      refine lv_bipush (v := 8) hx hb dX8_pass_24 (by decide) ?_
      refine lv_iadd hx hb dX8_pass_26 ?_
      refine lv_iload hx hb dX8_pass_27 (lv_at hl 3 rfl) ?_
      refine lv_iadd hx hb dX8_pass_29 ?_
      obtain ⟨g2, x3, ex3, h⟩ := rd_some h
      refine x_ild C hP 9 mw_9 g2 ex3 dX8_pass_30 ?_
      refine lv_iconst (v := 1) hx hb dX8_pass_31 (by decide) ?_
      refine lv_icmp_ne (tgt := 132) hx hb dX8_pass_32 (by decide) (fun q4 => ?_) (fun q4 => ?_)
      · have h := ifn q4 h
        obtain ⟨x5, ex5, h⟩ := lt_some h
        refine lv_iinc (v := x5) (lv' := [(4, .int x5), (0, .ref (ad 0)), (2, .int v2), (3, .int v3)]) hx hb dX8_pass_132 hl (k := 3) rfl (by rw [ex5]; rfl) (by decide) rfl (fun ls hl => ?_)
        refine lv_goto (tgt := 10) hx hb dX8_pass_135 (by decide) ?_
        exact ih v2 v3 x5 σ h H locs hP hD hS ls (lv_sub hl [1, 2, 3, 0] rfl)
      · have h := ifp q4 h
        refine lv_iload_n hx hb dX8_pass_35 rfl (lv_at hl 2 rfl) ?_
        refine lv_iconst (v := 1) hx hb dX8_pass_36 (by decide) ?_
        refine lv_aload_n hx hb dX8_pass_37 rfl (lv_at hl 0 rfl) ?_
        refine x_get C hP inlX8 0 mw_0 rfl 3 (by decide) mw5_22 rfl dX8_pass_38 ?_
        refine lv_aload_n hx hb dX8_pass_41 rfl (lv_at hl 0 rfl) ?_
        refine x_get C hP inlX8 0 mw_0 rfl 11 (by decide) mw6_6 rfl dX8_pass_42 ?_
        refine lv_iload_n hx hb dX8_pass_45 rfl (lv_at hl 1 rfl) ?_
        refine lv_iload hx hb dX8_pass_46 (lv_at hl 3 rfl) ?_
        refine lv_iadd hx hb dX8_pass_48 ?_
        obtain ⟨g6, x7, ex7, h⟩ := rd_some h
        refine x_ild C hP 9 mw_9 g6 ex7 dX8_pass_49 ?_
        obtain ⟨g8, x9, ex9, h⟩ := rd_some h
        refine x_ild C hP 1 mw_1 g8 ex9 dX8_pass_50 ?_
        refine lv_ishl hx hb dX8_pass_51 ?_
        refine lv_ior hx hb dX8_pass_52 ?_
        obtain ⟨x10, ex10, h⟩ := lt_some h
        refine x_ti ex10 ?_
        refine lv_istore_n (lv' := [(3, .int x10), (0, .ref (ad 0)), (2, .int v2), (4, .int v4)]) hx hb dX8_pass_53 rfl hl (by decide) rfl (fun ls hl => ?_)
        refine lv_aload_n hx hb dX8_pass_54 rfl (lv_at hl 1 rfl) ?_
        refine x_get C hP inlX8 0 mw_0 rfl 11 (by decide) mw6_6 rfl dX8_pass_55 ?_
        refine lv_iload_n hx hb dX8_pass_58 rfl (lv_at hl 2 rfl) ?_
        refine lv_iload hx hb dX8_pass_59 (lv_at hl 3 rfl) ?_
        refine lv_iadd hx hb dX8_pass_61 ?_
        refine lv_dup2_11 hx hb dX8_pass_62 rfl rfl ?_
        obtain ⟨g11, x12, ex12, h⟩ := rd_some h
        refine x_ild C hP 9 mw_9 g11 ex12 dX8_pass_63 ?_
        refine lv_iconst (v := 1) hx hb dX8_pass_64 (by decide) ?_
        refine lv_iadd hx hb dX8_pass_65 ?_
        obtain ⟨g13, σ14, eσ14, h⟩ := wr_some h
        refine x_ist C hP hD hS 9 mw_9 g13 (ma_9 eσ14) dX8_pass_66 (fun H locs hP hD hS => ?_)
        refine lv_aload_n hx hb dX8_pass_67 rfl (lv_at hl 1 rfl) ?_
        refine x_get C hP inlX8 0 mw_0 rfl 11 (by decide) mw6_6 rfl dX8_pass_68 ?_
        refine lv_iload_n hx hb dX8_pass_71 rfl (lv_at hl 2 rfl) ?_
        refine lv_iconst (v := 4) hx hb dX8_pass_72 (by decide) ?_
        refine lv_iadd hx hb dX8_pass_73 ?_
        refine lv_iload hx hb dX8_pass_74 (lv_at hl 3 rfl) ?_
        refine lv_iadd hx hb dX8_pass_76 ?_
        refine lv_dup2_11 hx hb dX8_pass_77 rfl rfl ?_
        obtain ⟨g15, x16, ex16, h⟩ := rd_some h
        refine x_ild C hP 9 mw_9 g15 ex16 dX8_pass_78 ?_
        refine lv_iconst (v := 1) hx hb dX8_pass_79 (by decide) ?_
        refine lv_isub hx hb dX8_pass_80 ?_
        obtain ⟨g17, σ18, eσ18, h⟩ := wr_some h
        refine x_ist C hP hD hS 9 mw_9 g17 (ma_9 eσ18) dX8_pass_81 (fun H locs hP hD hS => ?_)
        refine lv_aload_n hx hb dX8_pass_82 rfl (lv_at hl 1 rfl) ?_
        refine x_get C hP inlX8 0 mw_0 rfl 11 (by decide) mw6_6 rfl dX8_pass_83 ?_
        refine lv_iload_n hx hb dX8_pass_86 rfl (lv_at hl 2 rfl) ?_
        refine lv_bipush (v := 16) hx hb dX8_pass_87 (by decide) ?_
        refine lv_iadd hx hb dX8_pass_89 ?_
        refine lv_dup2_11 hx hb dX8_pass_90 rfl rfl ?_
        obtain ⟨g19, x20, ex20, h⟩ := rd_some h
        refine x_ild C hP 9 mw_9 g19 ex20 dX8_pass_91 ?_
        refine lv_aload_n hx hb dX8_pass_92 rfl (lv_at hl 1 rfl) ?_
        refine x_get C hP inlX8 0 mw_0 rfl 6 (by decide) mw6_1 rfl dX8_pass_93 ?_
        refine lv_iload hx hb dX8_pass_96 (lv_at hl 3 rfl) ?_
        obtain ⟨g21, x22, ex22, h⟩ := rd_some h
        refine x_ild C hP 4 mw_4 g21 ex22 dX8_pass_98 ?_
        refine lv_iadd hx hb dX8_pass_99 ?_
        obtain ⟨g23, σ24, eσ24, h⟩ := wr_some h
        refine x_ist C hP hD hS 9 mw_9 g23 (ma_9 eσ24) dX8_pass_100 (fun H locs hP hD hS => ?_)
        refine lv_aload_n hx hb dX8_pass_101 rfl (lv_at hl 1 rfl) ?_
        refine x_get C hP inlX8 0 mw_0 rfl 11 (by decide) mw6_6 rfl dX8_pass_102 ?_
        refine lv_iload_n hx hb dX8_pass_105 rfl (lv_at hl 2 rfl) ?_
        refine lv_bipush (v := 8) hx hb dX8_pass_106 (by decide) ?_
        refine lv_iadd hx hb dX8_pass_108 ?_
        refine lv_iload hx hb dX8_pass_109 (lv_at hl 3 rfl) ?_
        refine lv_iadd hx hb dX8_pass_111 ?_
        refine lv_aload_n hx hb dX8_pass_112 rfl (lv_at hl 1 rfl) ?_
        refine x_get C hP inlX8 0 mw_0 rfl 11 (by decide) mw6_6 rfl dX8_pass_113 ?_
        refine lv_iload_n hx hb dX8_pass_116 rfl (lv_at hl 2 rfl) ?_
        refine lv_iconst (v := 4) hx hb dX8_pass_117 (by decide) ?_
        refine lv_iadd hx hb dX8_pass_118 ?_
        refine lv_iload hx hb dX8_pass_119 (lv_at hl 3 rfl) ?_
        refine lv_iadd hx hb dX8_pass_121 ?_
        obtain ⟨g25, x26, ex26, h⟩ := rd_some h
        refine x_ild C hP 9 mw_9 g25 ex26 dX8_pass_122 ?_
        refine lv_if_ne (tgt := 130) hx hb dX8_pass_123 (by decide) (fun q27 => ?_) (fun q27 => ?_)
        · have h := ifn q27 h
          refine lv_iconst (v := 1) hx hb dX8_pass_130 (by decide) ?_
          exact w_X8_pass_131 C hr ih v2 x10 v4 ((v2 + (8 : Int32)) + v4) (1 : Int32) σ24 h H locs hP hD hS ls (lv_sub hl [1, 2, 0, 3] rfl)
        · have h := ifp q27 h
          refine lv_iconst (v := 2) hx hb dX8_pass_126 (by decide) ?_
          refine lv_goto (tgt := 131) hx hb dX8_pass_127 (by decide) ?_
          exact w_X8_pass_131 C hr ih v2 x10 v4 ((v2 + (8 : Int32)) + v4) (2 : Int32) σ24 h H locs hP hD hS ls (lv_sub hl [1, 2, 0, 3] rfl)
set_option maxHeartbeats 4000000 in
set_option maxRecDepth 100000 in
theorem w_X8_pass_0 (C : Cx p s m args meth c D cy tT tF A cX8_pass 7 RX8) (hr : meth.sig.returnType = some .int) {r : Int32} {σ' : ES} (a1 : Int32) (σ : ES) (h : b_X8_pass_0 a1 σ = some (r, σ')) (H : Heap) (locs : List Loc) (hP : va_P D vwCl (mw cy ad σ) H) (hD : va_D A (mw cy ad σ)) (hS : va_S A s.heap H locs) (ls : Array Slot) (hl : lv_has ls 7 [(0, .ref (ad 0)), (1, .int a1)]) : W p l e { frames := 1, cells := 0, slots := 0, locals := 25 } s m args below meth c H locs 0 0 (MQ below (Qi D cy A r (mw cy ad σ')) args s 0 0 A) (F0 m 0 ls []) := by
  obtain ⟨⟨hx, hb, hml, hown, hts⟩, hK, hT, hA, hlk⟩ := id C
  unfold b_X8_pass_0 at h
  refine lv_bipush (v := 18) hx hb dX8_pass_0 (by decide) ?_
  refine lv_iload_n hx hb dX8_pass_2 rfl (lv_at hl 1 rfl) ?_
  refine lv_imul hx hb dX8_pass_3 ?_
  obtain ⟨x1, ex1, h⟩ := lt_some h
  refine x_ti ex1 ?_
  refine lv_istore_n (lv' := [(2, .int x1), (0, .ref (ad 0)), (1, .int a1)]) hx hb dX8_pass_4 rfl hl (by decide) rfl (fun ls hl => ?_)
  refine lv_iconst (v := 0) hx hb dX8_pass_5 (by decide) ?_
  refine lv_istore_n (lv' := [(3, .int (0 : Int32)), (2, .int x1), (0, .ref (ad 0)), (1, .int a1)]) hx hb dX8_pass_6 rfl hl (by decide) rfl (fun ls hl => ?_)
  refine lv_iconst (v := 0) hx hb dX8_pass_7 (by decide) ?_
  refine lv_istore (lv' := [(4, .int (0 : Int32)), (3, .int (0 : Int32)), (2, .int x1), (0, .ref (ad 0)), (1, .int a1)]) hx hb dX8_pass_8 hl (by decide) rfl (fun ls hl => ?_)
  exact w_X8_pass_10 C hr FU x1 (0 : Int32) (0 : Int32) σ h H locs hP hD hS ls (lv_sub hl [3, 2, 1, 0] rfl)
theorem c_X8_pass {l : Launch} {D : va_G} {cy : Nat → ClassId} {tT tF : Nat} {ad : Nat → Nat} {σ : ES} {a1 : Int32} {r : Int32} {σ' : ES} (h : e_X8_pass a1 σ = some (r, σ')) : CMi l yX8_pass (Cond.code yX8_pass cX8_pass 7 (some .int) :: wsL_law) { frames := 1, cells := 0, slots := 0, locals := 25 } D cy tT tF [.ref (ad 0), .int a1] (mw cy ad σ) r (mw cy ad σ') := x_start (Qc := fun A => (Qi D cy A r (mw cy ad σ'))) (by decide) (Nat.le_of_ble_eq_true rfl) (fun p e s m below meth c A ls C hr hP hD hS hl => w_X8_pass_0 C hr a1 σ h s.heap [] hP hD hS ls hl)
set_option maxHeartbeats 4000000 in
set_option maxRecDepth 100000 in
theorem w_X8_step_0 (C : Cx p s m args meth c D cy tT tF A cX8_step 1 RX8) (hr : meth.sig.returnType = some .int) {r : Int32} {σ' : ES} (σ : ES) (h : b_X8_step_0 σ = some (r, σ')) (H : Heap) (locs : List Loc) (hP : va_P D vwCl (mw cy ad σ) H) (hD : va_D A (mw cy ad σ)) (hS : va_S A s.heap H locs) (ls : Array Slot) (hl : lv_has ls 1 [(0, .ref (ad 0))]) : W p l e { frames := 2, cells := 0, slots := 0, locals := 51 } s m args below meth c H locs 0 0 (MQ below (Qi D cy A r (mw cy ad σ')) args s 0 0 A) (F0 m 0 ls []) := by
  obtain ⟨⟨hx, hb, hml, hown, hts⟩, hK, hT, hA, hlk⟩ := id C
  unfold b_X8_step_0 at h
  refine lv_aload_n hx hb dX8_step_0 rfl (lv_at hl 0 rfl) ?_
  refine x_get C hP inlX8 0 mw_0 rfl 11 (by decide) mw6_6 rfl dX8_step_1 ?_
  refine lv_bipush (v := 17) hx hb dX8_step_4 (by decide) ?_
  obtain ⟨g1, x2, ex2, h⟩ := rd_some h
  refine x_ild C hP 9 mw_9 g1 ex2 dX8_step_6 ?_
  refine lv_bipush (v := 20) hx hb dX8_step_7 (by decide) ?_
  refine lv_icmp_ne (tgt := 15) hx hb dX8_step_9 (by decide) (fun q3 => ?_) (fun q3 => ?_)
  · have h := ifn q3 h
    refine lv_aload_n hx hb dX8_step_15 rfl (lv_at hl 0 rfl) ?_
    obtain ⟨σ5, g4, h⟩ := cl_some h
    refine x_callVv (rest := []) C hP hD hS (c_X8_keepAct g4) (cwV 0 hts (gV mw16_6 mw16_7 mw16_8 mw1_5 mw16_9) rfl rfl rfl hdV_X8_keepAct ⟨Nat.le_of_ble_eq_true rfl, Nat.le_of_ble_eq_true rfl⟩) mw_0 rfl rfl hl.1 rfl (Nat.le_of_ble_eq_true rfl) dX8_step_16 ⟨Nat.zero_le _, Nat.zero_le _⟩ (fun H locs hP hD hS => ?_)
    refine lv_aload_n hx hb dX8_step_19 rfl (lv_at hl 0 rfl) ?_
    refine lv_iconst (v := 0) hx hb dX8_step_20 (by decide) ?_
    obtain ⟨r8, σ7, g6, h⟩ := cs_some h
    refine x_callVi (rest := []) C hP hD hS (c_X8_pass g6) (cwV 1 hts (gV mw18_12 mw18_13 mw18_14 mw1_5 mw18_15) rfl rfl rfl hdV_X8_pass ⟨Nat.le_of_ble_eq_true rfl, Nat.le_of_ble_eq_true rfl⟩) mw_0 rfl rfl hl.1 rfl (Nat.le_of_ble_eq_true rfl) dX8_step_21 ⟨Nat.zero_le _, Nat.zero_le _⟩ (fun H locs hP hD hS => ?_)
    obtain ⟨z1, z2⟩ := pr_inj h
    subst z1
    subst z2
    exact x_iret C hr hP hD hS dX8_step_24
  · have h := ifp q3 h
    refine lv_bipush (v := -3) hx hb dX8_step_12 (by decide) ?_
    obtain ⟨z1, z2⟩ := pr_inj h
    subst z1
    subst z2
    exact x_iret C hr hP hD hS dX8_step_14
theorem c_X8_step {l : Launch} {D : va_G} {cy : Nat → ClassId} {tT tF : Nat} {ad : Nat → Nat} {σ : ES} {r : Int32} {σ' : ES} (h : e_X8_step  σ = some (r, σ')) : CMi l yX8_step (Cond.code yX8_step cX8_step 1 (some .int) :: wsL_law) { frames := 2, cells := 0, slots := 0, locals := 51 } D cy tT tF [.ref (ad 0)] (mw cy ad σ) r (mw cy ad σ') := x_start (Qc := fun A => (Qi D cy A r (mw cy ad σ'))) (by decide) (Nat.le_of_ble_eq_true rfl) (fun p e s m below meth c A ls C hr hP hD hS hl => w_X8_step_0 C hr  σ h s.heap [] hP hD hS ls hl)
set_option maxHeartbeats 4000000 in
set_option maxRecDepth 100000 in
theorem w_X8_undo_36 (C : Cx p s m args meth c D cy tT tF A cX8_undo 2 RX8) (hr : meth.sig.returnType = some .int) {r : Int32} {σ' : ES} : ∀ (n : Nat) (v1 : Int32) (σ : ES), b_X8_undo_36 n v1 σ = some (r, σ') → ∀ (H : Heap) (locs : List Loc) (hP : va_P D vwCl (mw cy ad σ) H) (hD : va_D A (mw cy ad σ)) (hS : va_S A s.heap H locs) (ls : Array Slot) (hl : lv_has ls 2 [(0, .ref (ad 0)), (1, .int v1)]), W p l e { frames := 0, cells := 0, slots := 0, locals := 0 } s m args below meth c H locs 0 0 (MQ below (Qi D cy A r (mw cy ad σ')) args s 0 0 A) (F0 m 36 ls []) := by
  obtain ⟨⟨hx, hb, hml, hown, hts⟩, hK, hT, hA, hlk⟩ := id C
  intro n
  induction n with
  | zero =>
    intro v1 σ h
    exact no_some h
  | succ n ih =>
    intro v1 σ h H locs hP hD hS ls hl
    rw [b_X8_undo_36] at h
    refine lv_iload_n hx hb dX8_undo_36 rfl (lv_at hl 1 rfl) ?_
    refine lv_bipush (v := 18) hx hb dX8_undo_37 (by decide) ?_
    refine lv_icmp_ge (tgt := 68) hx hb dX8_undo_39 (by decide) (fun q1 => ?_) (fun q1 => ?_)
    · have h := ifp q1 h
      refine lv_aload_n hx hb dX8_undo_68 rfl (lv_at hl 0 rfl) ?_
      refine x_get C hP inlX8 0 mw_0 rfl 22 (by decide) mw12_5 rfl dX8_undo_69 ?_
      obtain ⟨z1, z2⟩ := pr_inj h
      subst z1
      subst z2
      exact x_iret C hr hP hD hS dX8_undo_72
    · have h := ifn q1 h
      refine lv_aload_n hx hb dX8_undo_42 rfl (lv_at hl 0 rfl) ?_
      refine x_get C hP inlX8 0 mw_0 rfl 11 (by decide) mw6_6 rfl dX8_undo_43 ?_
      refine lv_iload_n hx hb dX8_undo_46 rfl (lv_at hl 1 rfl) ?_
      refine lv_aload_n hx hb dX8_undo_47 rfl (lv_at hl 0 rfl) ?_
      refine x_get C hP inlX8 0 mw_0 rfl 24 (by decide) mw6_11 rfl dX8_undo_48 ?_
      refine lv_bipush (v := 18) hx hb dX8_undo_51 (by decide) ?_
      refine lv_aload_n hx hb dX8_undo_53 rfl (lv_at hl 0 rfl) ?_
      refine x_get C hP inlX8 0 mw_0 rfl 23 (by decide) mw16_10 rfl dX8_undo_54 ?_
      refine lv_imul hx hb dX8_undo_57 ?_
      refine lv_iload_n hx hb dX8_undo_58 rfl (lv_at hl 1 rfl) ?_
      refine lv_iadd hx hb dX8_undo_59 ?_
      obtain ⟨g2, x3, ex3, h⟩ := rd_some h
      refine x_ild C hP 14 mw_14 g2 ex3 dX8_undo_60 ?_
      obtain ⟨g4, σ5, eσ5, h⟩ := wr_some h
      refine x_ist C hP hD hS 9 mw_9 g4 (ma_9 eσ5) dX8_undo_61 (fun H locs hP hD hS => ?_)
      obtain ⟨x6, ex6, h⟩ := lt_some h
      refine lv_iinc (v := x6) (lv' := [(1, .int x6), (0, .ref (ad 0))]) hx hb dX8_undo_62 hl (k := 1) rfl (by rw [ex6]; rfl) (by decide) rfl (fun ls hl => ?_)
      refine lv_goto (tgt := 36) hx hb dX8_undo_65 (by decide) ?_
      exact ih x6 σ5 h H locs hP hD hS ls (lv_sub hl [1, 0] rfl)
set_option maxHeartbeats 4000000 in
set_option maxRecDepth 100000 in
theorem w_X8_undo_0 (C : Cx p s m args meth c D cy tT tF A cX8_undo 2 RX8) (hr : meth.sig.returnType = some .int) {r : Int32} {σ' : ES} (σ : ES) (h : b_X8_undo_0 σ = some (r, σ')) (H : Heap) (locs : List Loc) (hP : va_P D vwCl (mw cy ad σ) H) (hD : va_D A (mw cy ad σ)) (hS : va_S A s.heap H locs) (ls : Array Slot) (hl : lv_has ls 2 [(0, .ref (ad 0))]) : W p l e { frames := 0, cells := 0, slots := 0, locals := 0 } s m args below meth c H locs 0 0 (MQ below (Qi D cy A r (mw cy ad σ')) args s 0 0 A) (F0 m 0 ls []) := by
  obtain ⟨⟨hx, hb, hml, hown, hts⟩, hK, hT, hA, hlk⟩ := id C
  unfold b_X8_undo_0 at h
  refine lv_aload_n hx hb dX8_undo_0 rfl (lv_at hl 0 rfl) ?_
  refine x_get C hP inlX8 0 mw_0 rfl 22 (by decide) mw12_5 rfl dX8_undo_1 ?_
  refine lv_if_ne (tgt := 10) hx hb dX8_undo_4 (by decide) (fun q1 => ?_) (fun q1 => ?_)
  · have h := ifn q1 h
    refine lv_aload_n hx hb dX8_undo_10 rfl (lv_at hl 0 rfl) ?_
    refine lv_dup hx hb dX8_undo_11 rfl ?_
    refine x_get C hP inlX8 0 mw_0 rfl 22 (by decide) mw12_5 rfl dX8_undo_12 ?_
    refine lv_iconst (v := 1) hx hb dX8_undo_15 (by decide) ?_
    refine lv_isub hx hb dX8_undo_16 ?_
    obtain ⟨σ2, eσ2, h⟩ := lt_some h
    refine x_put C hP hD hS inlX8 tyX8 tyX8_ok nmX8 0 mw_0 rfl 22 (by decide) mw12_5 rfl rfl rfl (Nat.le_of_ble_eq_true rfl) (ms_0_22 eσ2) dX8_undo_17 (fun H locs hP hD hS => ?_)
    refine lv_aload_n hx hb dX8_undo_20 rfl (lv_at hl 0 rfl) ?_
    refine lv_aload_n hx hb dX8_undo_21 rfl (lv_at hl 0 rfl) ?_
    refine x_get C hP inlX8 0 mw_0 rfl 23 (by decide) mw16_10 rfl dX8_undo_22 ?_
    refine lv_bipush (v := 15) hx hb dX8_undo_25 (by decide) ?_
    refine lv_iadd hx hb dX8_undo_27 ?_
    refine lv_bipush (v := 16) hx hb dX8_undo_28 (by decide) ?_
    refine lv_irem hx hb dX8_undo_30 (by decide) ?_
    obtain ⟨σ3, eσ3, h⟩ := lt_some h
    refine x_put C hP hD hS inlX8 tyX8 tyX8_ok nmX8 0 mw_0 rfl 23 (by decide) mw16_10 rfl rfl rfl (Nat.le_of_ble_eq_true rfl) (ms_0_23 eσ3) dX8_undo_31 (fun H locs hP hD hS => ?_)
    refine lv_iconst (v := 0) hx hb dX8_undo_34 (by decide) ?_
    refine lv_istore_n (lv' := [(1, .int (0 : Int32)), (0, .ref (ad 0))]) hx hb dX8_undo_35 rfl hl (by decide) rfl (fun ls hl => ?_)
    exact w_X8_undo_36 C hr FU (0 : Int32) σ3 h H locs hP hD hS ls (lv_sub hl [1, 0] rfl)
  · have h := ifp q1 h
    refine lv_bipush (v := -3) hx hb dX8_undo_7 (by decide) ?_
    obtain ⟨z1, z2⟩ := pr_inj h
    subst z1
    subst z2
    exact x_iret C hr hP hD hS dX8_undo_9
theorem c_X8_undo {l : Launch} {D : va_G} {cy : Nat → ClassId} {tT tF : Nat} {ad : Nat → Nat} {σ : ES} {r : Int32} {σ' : ES} (h : e_X8_undo  σ = some (r, σ')) : CMi l yX8_undo (Cond.code yX8_undo cX8_undo 2 (some .int) :: wsL_law) { frames := 0, cells := 0, slots := 0, locals := 0 } D cy tT tF [.ref (ad 0)] (mw cy ad σ) r (mw cy ad σ') := x_start (Qc := fun A => (Qi D cy A r (mw cy ad σ'))) (by decide) (Nat.le_of_ble_eq_true rfl) (fun p e s m below meth c A ls C hr hP hD hS hl => w_X8_undo_0 C hr  σ h s.heap [] hP hD hS ls hl)
set_option maxHeartbeats 4000000 in
set_option maxRecDepth 100000 in
theorem w_X8_power_4 (C : Cx p s m args meth c D cy tT tF A cX8_power 4 RX8) (hr : meth.sig.returnType = some .int) {r : Int32} : ∀ (n : Nat) (v0 : Int32) (v1 : Int32) (v2 : Int32) (v3 : Int32), b_X8_power_4 n v0 v1 v2 v3 = some r → ∀ (H : Heap) (locs : List Loc) (hP : va_P D vwCl ws H) (hD : va_D A ws) (hS : va_S A s.heap H locs) (ls : Array Slot) (hl : lv_has ls 4 [(0, .int v0), (1, .int v1), (2, .int v2), (3, .int v3)]), W p l e { frames := 0, cells := 0, slots := 0, locals := 0 } s m args below meth c H locs 0 0 (MQ below (Qi D cy A r ws) args s 0 0 A) (F0 m 4 ls []) := by
  obtain ⟨⟨hx, hb, hml, hown, hts⟩, hK, hT, hA, hlk⟩ := id C
  intro n
  induction n with
  | zero =>
    intro v0 v1 v2 v3 h
    exact no_some h
  | succ n ih =>
    intro v0 v1 v2 v3 h H locs hP hD hS ls hl
    rw [b_X8_power_4] at h
    refine lv_iload_n hx hb dX8_power_4 rfl (lv_at hl 3 rfl) ?_
    refine lv_iload_n hx hb dX8_power_5 rfl (lv_at hl 1 rfl) ?_
    refine lv_icmp_ge (tgt := 19) hx hb dX8_power_6 (by decide) (fun q1 => ?_) (fun q1 => ?_)
    · have h := ifp q1 h
      refine lv_iload_n hx hb dX8_power_19 rfl (lv_at hl 2 rfl) ?_
      have z1 := so_inj h
      subst z1
      exact x_iret C hr hP hD hS dX8_power_20
    · have h := ifn q1 h
      refine lv_iload_n hx hb dX8_power_9 rfl (lv_at hl 2 rfl) ?_
      refine lv_iload_n hx hb dX8_power_10 rfl (lv_at hl 0 rfl) ?_
      refine lv_imul hx hb dX8_power_11 ?_
      obtain ⟨x2, ex2, h⟩ := lt_some h
      refine x_ti ex2 ?_
      refine lv_istore_n (lv' := [(2, .int x2), (0, .int v0), (1, .int v1), (3, .int v3)]) hx hb dX8_power_12 rfl hl (by decide) rfl (fun ls hl => ?_)
      obtain ⟨x3, ex3, h⟩ := lt_some h
      refine lv_iinc (v := x3) (lv' := [(3, .int x3), (2, .int x2), (0, .int v0), (1, .int v1)]) hx hb dX8_power_13 hl (k := 3) rfl (by rw [ex3]; rfl) (by decide) rfl (fun ls hl => ?_)
      refine lv_goto (tgt := 4) hx hb dX8_power_16 (by decide) ?_
      exact ih v0 v1 x2 x3 h H locs hP hD hS ls (lv_sub hl [2, 3, 1, 0] rfl)
set_option maxHeartbeats 4000000 in
set_option maxRecDepth 100000 in
theorem w_X8_power_0 (C : Cx p s m args meth c D cy tT tF A cX8_power 4 RX8) (hr : meth.sig.returnType = some .int) {r : Int32} (a0 : Int32) (a1 : Int32) (h : b_X8_power_0 a0 a1 = some r) (H : Heap) (locs : List Loc) (hP : va_P D vwCl ws H) (hD : va_D A ws) (hS : va_S A s.heap H locs) (ls : Array Slot) (hl : lv_has ls 4 [(0, .int a0), (1, .int a1)]) : W p l e { frames := 0, cells := 0, slots := 0, locals := 0 } s m args below meth c H locs 0 0 (MQ below (Qi D cy A r ws) args s 0 0 A) (F0 m 0 ls []) := by
  obtain ⟨⟨hx, hb, hml, hown, hts⟩, hK, hT, hA, hlk⟩ := id C
  unfold b_X8_power_0 at h
  refine lv_iconst (v := 1) hx hb dX8_power_0 (by decide) ?_
  refine lv_istore_n (lv' := [(2, .int (1 : Int32)), (0, .int a0), (1, .int a1)]) hx hb dX8_power_1 rfl hl (by decide) rfl (fun ls hl => ?_)
  refine lv_iconst (v := 0) hx hb dX8_power_2 (by decide) ?_
  refine lv_istore_n (lv' := [(3, .int (0 : Int32)), (2, .int (1 : Int32)), (0, .int a0), (1, .int a1)]) hx hb dX8_power_3 rfl hl (by decide) rfl (fun ls hl => ?_)
  exact w_X8_power_4 C hr FU a0 a1 (1 : Int32) (0 : Int32) h H locs hP hD hS ls (lv_sub hl [2, 3, 1, 0] rfl)
theorem c_X8_power {l : Launch} {D : va_G} {cy : Nat → ClassId} {tT tF : Nat} {ws : va_W} {a0 : Int32} {a1 : Int32} {r : Int32} (h : e_X8_power a0 a1 = some r) : CMi l yX8_power (Cond.code yX8_power cX8_power 4 (some .int) :: wsL_law) { frames := 0, cells := 0, slots := 0, locals := 0 } D cy tT tF [.int a0, .int a1] ws r ws := x_start (Qc := fun A => (Qi D cy A r ws)) (by decide) (Nat.le_of_ble_eq_true rfl) (fun p e s m below meth c A ls C hr hP hD hS hl => w_X8_power_0 C hr a0 a1 h s.heap [] hP hD hS ls hl)
set_option maxHeartbeats 4000000 in
set_option maxRecDepth 100000 in
theorem w_X8_figureOf_0 (C : Cx p s m args meth c D cy tT tF A cX8_figureOf 2 RX8) (hr : meth.sig.returnType = some .int) {r : Int32} (a0 : Int32) (a1 : Int32) (h : b_X8_figureOf_0 a0 a1 = some r) (H : Heap) (locs : List Loc) (hP : va_P D vwCl ws H) (hD : va_D A ws) (hS : va_S A s.heap H locs) (ls : Array Slot) (hl : lv_has ls 2 [(0, .int a0), (1, .int a1)]) : W p l e { frames := 1, cells := 0, slots := 0, locals := 23 } s m args below meth c H locs 0 0 (MQ below (Qi D cy A r ws) args s 0 0 A) (F0 m 0 ls []) := by
  obtain ⟨⟨hx, hb, hml, hown, hts⟩, hK, hT, hA, hlk⟩ := id C
  unfold b_X8_figureOf_0 at h
  refine lv_iload_n hx hb dX8_figureOf_0 rfl (lv_at hl 0 rfl) ?_
  refine lv_bipush (v := 7) hx hb dX8_figureOf_1 (by decide) ?_
  refine lv_iconst (v := 3) hx hb dX8_figureOf_3 (by decide) ?_
  refine lv_iload_n hx hb dX8_figureOf_4 rfl (lv_at hl 1 rfl) ?_
  refine lv_isub hx hb dX8_figureOf_5 ?_
  obtain ⟨r2, g1, h⟩ := cl_some h
  refine x_callSi (rest := [.int a0]) C hP hD hS (c_X8_power g1) (va_cwS 2 hts (gS mw22_15 mw22_16 mw1_5 mw22_17) rfl rfl rfl hdS_X8_power ⟨Nat.le_of_ble_eq_true rfl, Nat.le_of_ble_eq_true rfl⟩) rfl hl.1 rfl (Nat.le_of_ble_eq_true rfl) dX8_figureOf_6 ⟨Nat.zero_le _, Nat.zero_le _⟩ (fun H locs hP hD hS => ?_)
  obtain ⟨g3, h⟩ := dv_some h
  refine lv_idiv hx hb dX8_figureOf_9 g3 ?_
  refine lv_bipush (v := 7) hx hb dX8_figureOf_10 (by decide) ?_
  refine lv_irem hx hb dX8_figureOf_12 (by decide) ?_
  have z1 := so_inj h
  subst z1
  exact x_iret C hr hP hD hS dX8_figureOf_13
theorem c_X8_figureOf {l : Launch} {D : va_G} {cy : Nat → ClassId} {tT tF : Nat} {ws : va_W} {a0 : Int32} {a1 : Int32} {r : Int32} (h : e_X8_figureOf a0 a1 = some r) : CMi l yX8_figureOf (Cond.code yX8_figureOf cX8_figureOf 2 (some .int) :: wsL_law) { frames := 1, cells := 0, slots := 0, locals := 23 } D cy tT tF [.int a0, .int a1] ws r ws := x_start (Qc := fun A => (Qi D cy A r ws)) (by decide) (Nat.le_of_ble_eq_true rfl) (fun p e s m below meth c A ls C hr hP hD hS hl => w_X8_figureOf_0 C hr a0 a1 h s.heap [] hP hD hS ls hl)
set_option maxHeartbeats 4000000 in
set_option maxRecDepth 100000 in
theorem w_X8_isPlan_4 (C : Cx p s m args meth c D cy tT tF A cX8_isPlan 4 RX8) (hr : meth.sig.returnType = some .boolean) {r : Int32} {σ : ES} : ∀ (n : Nat) (v1 : Int32) (v2 : Int32) (v3 : Int32), b_X8_isPlan_4 σ n v1 v2 v3 = some r → ∀ (H : Heap) (locs : List Loc) (hP : va_P D vwCl (mw cy ad σ) H) (hD : va_D A (mw cy ad σ)) (hS : va_S A s.heap H locs) (ls : Array Slot) (hl : lv_has ls 4 [(0, .ref (ad 0)), (1, .int v1), (2, .int v2), (3, .int v3)]), W p l e { frames := 2, cells := 0, slots := 0, locals := 44 } s m args below meth c H locs 0 0 (MQ below (Qi D cy A r (mw cy ad σ)) args s 0 0 A) (F0 m 4 ls []) := by
  obtain ⟨⟨hx, hb, hml, hown, hts⟩, hK, hT, hA, hlk⟩ := id C
  intro n
  induction n with
  | zero =>
    intro v1 v2 v3 h
    exact no_some h
  | succ n ih =>
    intro v1 v2 v3 h H locs hP hD hS ls hl
    rw [b_X8_isPlan_4] at h
    refine lv_iload_n hx hb dX8_isPlan_4 rfl (lv_at hl 3 rfl) ?_
    refine lv_iconst (v := 4) hx hb dX8_isPlan_5 (by decide) ?_
    refine lv_icmp_ge (tgt := 53) hx hb dX8_isPlan_6 (by decide) (fun q1 => ?_) (fun q1 => ?_)
    · have h := ifp q1 h
      refine lv_iload_n hx hb dX8_isPlan_53 rfl (lv_at hl 2 rfl) ?_
      obtain ⟨g2, h⟩ := bo_some h
      have z1 := so_inj h
      subst z1
      exact x_zret C hr (bo_nar g2) hP hD hS dX8_isPlan_54
    · have h := ifn q1 h
      refine lv_iload_n hx hb dX8_isPlan_9 rfl (lv_at hl 2 rfl) ?_
      refine lv_if_eq (tgt := 45) hx hb dX8_isPlan_10 (by decide) (fun q3 => ?_) (fun q3 => ?_)
      · have h := ifp q3 h
        refine lv_iconst (v := 0) hx hb dX8_isPlan_45 (by decide) ?_
        refine lv_istore_n (lv' := [(2, .int (0 : Int32)), (0, .ref (ad 0)), (1, .int v1), (3, .int v3)]) hx hb dX8_isPlan_46 rfl hl (by decide) rfl (fun ls hl => ?_)
        obtain ⟨x4, ex4, h⟩ := lt_some h
        refine lv_iinc (v := x4) (lv' := [(3, .int x4), (2, .int (0 : Int32)), (0, .ref (ad 0)), (1, .int v1)]) hx hb dX8_isPlan_47 hl (k := 3) rfl (by rw [ex4]; rfl) (by decide) rfl (fun ls hl => ?_)
        refine lv_goto (tgt := 4) hx hb dX8_isPlan_50 (by decide) ?_
        exact ih v1 (0 : Int32) x4 h H locs hP hD hS ls (lv_sub hl [2, 3, 1, 0] rfl)
      · have h := ifn q3 h
        refine lv_iload_n hx hb dX8_isPlan_13 rfl (lv_at hl 1 rfl) ?_
        refine lv_iload_n hx hb dX8_isPlan_14 rfl (lv_at hl 3 rfl) ?_
        obtain ⟨r6, g5, h⟩ := cl_some h
        refine x_callSi (rest := []) C hP hD hS (c_X8_figureOf g5) (va_cwS 2 hts (gS mw22_12 mw22_13 mw1_5 mw22_14) rfl rfl rfl hdS_X8_figureOf ⟨Nat.le_of_ble_eq_true rfl, Nat.le_of_ble_eq_true rfl⟩) rfl hl.1 rfl (Nat.le_of_ble_eq_true rfl) dX8_isPlan_15 ⟨Nat.zero_le _, Nat.zero_le _⟩ (fun H locs hP hD hS => ?_)
        refine lv_if_eq (tgt := 41) hx hb dX8_isPlan_18 (by decide) (fun q7 => ?_) (fun q7 => ?_)
        · have h := ifp q7 h
          refine lv_iconst (v := 1) hx hb dX8_isPlan_41 (by decide) ?_
          refine lv_goto (tgt := 46) hx hb dX8_isPlan_42 (by decide) ?_
          refine lv_istore_n (lv' := [(2, .int (1 : Int32)), (0, .ref (ad 0)), (1, .int v1), (3, .int v3)]) hx hb dX8_isPlan_46 rfl hl (by decide) rfl (fun ls hl => ?_)
          obtain ⟨x8, ex8, h⟩ := lt_some h
          refine lv_iinc (v := x8) (lv' := [(3, .int x8), (2, .int (1 : Int32)), (0, .ref (ad 0)), (1, .int v1)]) hx hb dX8_isPlan_47 hl (k := 3) rfl (by rw [ex8]; rfl) (by decide) rfl (fun ls hl => ?_)
          refine lv_goto (tgt := 4) hx hb dX8_isPlan_50 (by decide) ?_
          exact ih v1 (1 : Int32) x8 h H locs hP hD hS ls (lv_sub hl [2, 3, 1, 0] rfl)
        · have h := ifn q7 h
          refine lv_iload_n hx hb dX8_isPlan_21 rfl (lv_at hl 3 rfl) ?_
          refine lv_aload_n hx hb dX8_isPlan_22 rfl (lv_at hl 0 rfl) ?_
          refine x_get C hP inlX8 0 mw_0 rfl 1 (by decide) mw12_3 rfl dX8_isPlan_23 ?_
          refine lv_icmp_ge (tgt := 45) hx hb dX8_isPlan_26 (by decide) (fun q9 => ?_) (fun q9 => ?_)
          · have h := ifp q9 h
            refine lv_iconst (v := 0) hx hb dX8_isPlan_45 (by decide) ?_
            refine lv_istore_n (lv' := [(2, .int (0 : Int32)), (0, .ref (ad 0)), (1, .int v1), (3, .int v3)]) hx hb dX8_isPlan_46 rfl hl (by decide) rfl (fun ls hl => ?_)
            obtain ⟨x10, ex10, h⟩ := lt_some h
            refine lv_iinc (v := x10) (lv' := [(3, .int x10), (2, .int (0 : Int32)), (0, .ref (ad 0)), (1, .int v1)]) hx hb dX8_isPlan_47 hl (k := 3) rfl (by rw [ex10]; rfl) (by decide) rfl (fun ls hl => ?_)
            refine lv_goto (tgt := 4) hx hb dX8_isPlan_50 (by decide) ?_
            exact ih v1 (0 : Int32) x10 h H locs hP hD hS ls (lv_sub hl [2, 3, 1, 0] rfl)
          · have h := ifn q9 h
            refine lv_aload_n hx hb dX8_isPlan_29 rfl (lv_at hl 0 rfl) ?_
            refine x_get C hP inlX8 0 mw_0 rfl 11 (by decide) mw6_6 rfl dX8_isPlan_30 ?_
            refine lv_bipush (v := 8) hx hb dX8_isPlan_33 (by decide) ?_
            refine lv_iload_n hx hb dX8_isPlan_35 rfl (lv_at hl 3 rfl) ?_
            refine lv_iadd hx hb dX8_isPlan_36 ?_
            obtain ⟨g11, x12, ex12, h⟩ := rd_some h
            refine x_ild C hP 9 mw_9 g11 ex12 dX8_isPlan_37 ?_
            refine lv_if_ne (tgt := 45) hx hb dX8_isPlan_38 (by decide) (fun q13 => ?_) (fun q13 => ?_)
            · have h := ifn q13 h
              refine lv_iconst (v := 0) hx hb dX8_isPlan_45 (by decide) ?_
              refine lv_istore_n (lv' := [(2, .int (0 : Int32)), (0, .ref (ad 0)), (1, .int v1), (3, .int v3)]) hx hb dX8_isPlan_46 rfl hl (by decide) rfl (fun ls hl => ?_)
              obtain ⟨x14, ex14, h⟩ := lt_some h
              refine lv_iinc (v := x14) (lv' := [(3, .int x14), (2, .int (0 : Int32)), (0, .ref (ad 0)), (1, .int v1)]) hx hb dX8_isPlan_47 hl (k := 3) rfl (by rw [ex14]; rfl) (by decide) rfl (fun ls hl => ?_)
              refine lv_goto (tgt := 4) hx hb dX8_isPlan_50 (by decide) ?_
              exact ih v1 (0 : Int32) x14 h H locs hP hD hS ls (lv_sub hl [2, 3, 1, 0] rfl)
            · have h := ifp q13 h
              refine lv_iconst (v := 1) hx hb dX8_isPlan_41 (by decide) ?_
              refine lv_goto (tgt := 46) hx hb dX8_isPlan_42 (by decide) ?_
              refine lv_istore_n (lv' := [(2, .int (1 : Int32)), (0, .ref (ad 0)), (1, .int v1), (3, .int v3)]) hx hb dX8_isPlan_46 rfl hl (by decide) rfl (fun ls hl => ?_)
              obtain ⟨x15, ex15, h⟩ := lt_some h
              refine lv_iinc (v := x15) (lv' := [(3, .int x15), (2, .int (1 : Int32)), (0, .ref (ad 0)), (1, .int v1)]) hx hb dX8_isPlan_47 hl (k := 3) rfl (by rw [ex15]; rfl) (by decide) rfl (fun ls hl => ?_)
              refine lv_goto (tgt := 4) hx hb dX8_isPlan_50 (by decide) ?_
              exact ih v1 (1 : Int32) x15 h H locs hP hD hS ls (lv_sub hl [2, 3, 1, 0] rfl)
set_option maxHeartbeats 4000000 in
set_option maxRecDepth 100000 in
theorem w_X8_isPlan_0 (C : Cx p s m args meth c D cy tT tF A cX8_isPlan 4 RX8) (hr : meth.sig.returnType = some .boolean) {r : Int32} {σ : ES} (a1 : Int32) (h : b_X8_isPlan_0 σ a1 = some r) (H : Heap) (locs : List Loc) (hP : va_P D vwCl (mw cy ad σ) H) (hD : va_D A (mw cy ad σ)) (hS : va_S A s.heap H locs) (ls : Array Slot) (hl : lv_has ls 4 [(0, .ref (ad 0)), (1, .int a1)]) : W p l e { frames := 2, cells := 0, slots := 0, locals := 44 } s m args below meth c H locs 0 0 (MQ below (Qi D cy A r (mw cy ad σ)) args s 0 0 A) (F0 m 0 ls []) := by
  obtain ⟨⟨hx, hb, hml, hown, hts⟩, hK, hT, hA, hlk⟩ := id C
  unfold b_X8_isPlan_0 at h
  refine lv_iconst (v := 1) hx hb dX8_isPlan_0 (by decide) ?_
  refine lv_istore_n (lv' := [(2, .int (1 : Int32)), (0, .ref (ad 0)), (1, .int a1)]) hx hb dX8_isPlan_1 rfl hl (by decide) rfl (fun ls hl => ?_)
  refine lv_iconst (v := 0) hx hb dX8_isPlan_2 (by decide) ?_
  refine lv_istore_n (lv' := [(3, .int (0 : Int32)), (2, .int (1 : Int32)), (0, .ref (ad 0)), (1, .int a1)]) hx hb dX8_isPlan_3 rfl hl (by decide) rfl (fun ls hl => ?_)
  exact w_X8_isPlan_4 C hr FU a1 (1 : Int32) (0 : Int32) h H locs hP hD hS ls (lv_sub hl [2, 3, 1, 0] rfl)
theorem c_X8_isPlan {l : Launch} {D : va_G} {cy : Nat → ClassId} {tT tF : Nat} {ad : Nat → Nat} {a1 : Int32} {r : Int32} {σ : ES} (h : e_X8_isPlan a1 σ = some r) : CMi l yX8_isPlan (Cond.code yX8_isPlan cX8_isPlan 4 (some .boolean) :: wsL_law) { frames := 2, cells := 0, slots := 0, locals := 44 } D cy tT tF [.ref (ad 0), .int a1] (mw cy ad σ) r (mw cy ad σ) := x_start (Qc := fun A => (Qi D cy A r (mw cy ad σ))) (by decide) (Nat.le_of_ble_eq_true rfl) (fun p e s m below meth c A ls C hr hP hD hS hl => w_X8_isPlan_0 C hr a1 h s.heap [] hP hD hS ls hl)
end WK1

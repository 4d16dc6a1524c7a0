section WK9
variable {p : Program} {l : Launch} {e : Env} {R : Room} {s : State} {m : MethodId} {args : Array Value} {below : List Frame} {meth : Method} {c : Code} {D : va_G} {cy : Nat → ClassId} {tT tF : Nat} {A : Nat → Prop} {ad : Nat → Nat} {ws : va_W}
set_option maxHeartbeats 4000000 in
set_option maxRecDepth 100000 in
theorem w_X4_work_15_30_3_94 (C : Cx p s m args meth c D cy tT tF A cX4_work 6 RX4) (hr : meth.sig.returnType = none) {σ' : ES} : ∀ (n : Nat) (v3 : Int64) (v5 : Int32) (σ : ES), b_X4_work_15_30_3_94 n v3 v5 σ = some σ' → ∀ (H : Heap) (locs : List Loc) (hP : va_P D vwCl (xw cy ad σ) H) (hD : va_D A (xw cy ad σ)) (hS : va_S A s.heap H locs) (ls : Array Slot) (hl : lv_has ls 6 [(0, .ref (ad 15)), (1, .ref (ad 30)), (2, .ref (ad 3)), (3, .long v3), (5, .int v5)]), W p l e { frames := 9, cells := 0, slots := 0, locals := 267 } s m args below meth c H locs 0 0 (MQ below (Qv D cy A (xw cy ad σ')) args s 0 0 A) (F0 m 94 ls []) := by
  obtain ⟨⟨hx, hb, hml, hown, hts⟩, hK, hT, hA, hlk⟩ := id C
  intro n
  induction n with
  | zero =>
    intro v3 v5 σ h
    exact no_some h
  | succ n ih =>
    intro v3 v5 σ h H locs hP hD hS ls hl
    rw [b_X4_work_15_30_3_94] at h
    refine lv_iload hx hb dX4_work_94 (lv_at hl 4 rfl) ?_
    refine lv_iconst (v := 4) hx hb dX4_work_96 (by decide) ?_
    refine lv_icmp_ge (tgt := 117) hx hb dX4_work_97 (by decide) (fun q1 => ?_) (fun q1 => ?_)
    · have h := ifp q1 h
      refine lv_aload_n hx hb dX4_work_117 rfl (lv_at hl 0 rfl) ?_
      refine lv_iconst (v := 0) hx hb dX4_work_118 (by decide) ?_
      refine lv_lload_n hx hb dX4_work_119 rfl (lv_at hl 3 rfl) ?_
      refine lv_iconst (v := 0) hx hb dX4_work_120 (by decide) ?_
      obtain ⟨σ3, g2, h⟩ := cl_some h
      refine x_callSv (rest := []) C hP hD hS (c_X4_tryCandle_15 6 g2) (va_cwS 4 hts (gS mw20_21 mw20_22 mw2_4 mw20_23) rfl rfl rfl hdS_X4_tryCandle ⟨Nat.le_of_ble_eq_true rfl, Nat.le_of_ble_eq_true rfl⟩) rfl hl.1 rfl (Nat.le_of_ble_eq_true rfl) dX4_work_121 ⟨Nat.zero_le _, Nat.zero_le _⟩ (fun H locs hP hD hS => ?_)
      refine lv_aload_n hx hb dX4_work_124 rfl (lv_at hl 0 rfl) ?_
      obtain ⟨σ5, g4, h⟩ := cl_some h
      refine x_callVv (rest := []) C hP hD hS (c_X4_spreadToFewerGuests_15 g4) (cwV 0 hts (gV mw21_15 mw21_16 mw21_17 mw2_4 mw21_18) rfl rfl rfl hdV_X4_spreadToFewerGuests ⟨Nat.le_of_ble_eq_true rfl, Nat.le_of_ble_eq_true rfl⟩) xw_15 rfl rfl hl.1 rfl (Nat.le_of_ble_eq_true rfl) dX4_work_125 ⟨Nat.zero_le _, Nat.zero_le _⟩ (fun H locs hP hD hS => ?_)
      refine lv_aload_n hx hb dX4_work_128 rfl (lv_at hl 0 rfl) ?_
      refine lv_iconst (v := 1) hx hb dX4_work_129 (by decide) ?_
      obtain ⟨σ6, eσ6, h⟩ := lt_some h
      refine x_put C hP hD hS inlX4 tyX4 tyX4_ok nmX4 15 xw_15 rfl 11 (by decide) mw4_15 rfl rfl rfl (Nat.le_of_ble_eq_true rfl) (xs_15_11 eσ6) dX4_work_130 (fun H locs hP hD hS => ?_)
      have z1 := so_inj h
      subst z1
      exact x_vret C hr hP hD hS dX4_work_133
    · have h := ifn q1 h
      refine lv_lload_n hx hb dX4_work_100 rfl (lv_at hl 3 rfl) ?_
      refine lv_aload_n hx hb dX4_work_101 rfl (lv_at hl 0 rfl) ?_
      refine lv_aload_n hx hb dX4_work_102 rfl (lv_at hl 1 rfl) ?_
      refine lv_aload_n hx hb dX4_work_103 rfl (lv_at hl 2 rfl) ?_
      refine lv_iload hx hb dX4_work_104 (lv_at hl 4 rfl) ?_
      obtain ⟨r9, σ8, g7, h⟩ := cs_some h
      refine x_callVl (rest := [.long v3]) C hP hD hS (c_X4_layCandle_15_30_3 g7) (cwV 3 hts (gV mw20_8 mw20_9 mw20_10 mw2_4 mw20_11) rfl rfl rfl hdV_X4_layCandle ⟨Nat.le_of_ble_eq_true rfl, Nat.le_of_ble_eq_true rfl⟩) xw_15 rfl rfl hl.1 rfl (Nat.le_of_ble_eq_true rfl) dX4_work_106 ⟨Nat.zero_le _, Nat.zero_le _⟩ (fun H locs hP hD hS => ?_)
      refine lv_lor hx hb dX4_work_109 ?_
      obtain ⟨x10, ex10, h⟩ := lt_some h
      refine x_tl ex10 ?_
      refine lv_lstore_n (lv' := [(3, .long x10), (0, .ref (ad 15)), (1, .ref (ad 30)), (2, .ref (ad 3)), (5, .int v5)]) hx hb dX4_work_110 rfl hl (by decide) rfl (fun ls hl => ?_)
      obtain ⟨x11, ex11, h⟩ := lt_some h
      refine lv_iinc (v := x11) (lv' := [(5, .int x11), (3, .long x10), (0, .ref (ad 15)), (1, .ref (ad 30)), (2, .ref (ad 3))]) hx hb dX4_work_111 hl (k := 4) rfl (by rw [ex11]; rfl) (by decide) rfl (fun ls hl => ?_)
      refine lv_goto (tgt := 94) hx hb dX4_work_114 (by decide) ?_
      exact ih x10 x11 σ8 h H locs hP hD hS ls (lv_sub hl [2, 3, 4, 1, 0] rfl)
set_option maxHeartbeats 4000000 in
set_option maxRecDepth 100000 in
theorem w_X4_work_15_30_3_68 (C : Cx p s m args meth c D cy tT tF A cX4_work 6 RX4) (hr : meth.sig.returnType = none) {σ' : ES} : ∀ (n : Nat) (v3 : Int32) (σ : ES), b_X4_work_15_30_3_68 n v3 σ = some σ' → ∀ (H : Heap) (locs : List Loc) (hP : va_P D vwCl (xw cy ad σ) H) (hD : va_D A (xw cy ad σ)) (hS : va_S A s.heap H locs) (ls : Array Slot) (hl : lv_has ls 6 [(0, .ref (ad 15)), (1, .ref (ad 30)), (2, .ref (ad 3)), (3, .int v3)]), W p l e { frames := 9, cells := 0, slots := 0, locals := 267 } s m args below meth c H locs 0 0 (MQ below (Qv D cy A (xw cy ad σ')) args s 0 0 A) (F0 m 68 ls []) := by
  obtain ⟨⟨hx, hb, hml, hown, hts⟩, hK, hT, hA, hlk⟩ := id C
  intro n
  induction n with
  | zero =>
    intro v3 σ h
    exact no_some h
  | succ n ih =>
    intro v3 σ h H locs hP hD hS ls hl
    rw [b_X4_work_15_30_3_68] at h
    refine lv_iload_n hx hb dX4_work_68 rfl (lv_at hl 3 rfl) ?_
    refine lv_aload_n hx hb dX4_work_69 rfl (lv_at hl 1 rfl) ?_
    refine x_get C hP inlX3 30 xw_30 rfl 10 (by decide) mw19_20 rfl dX4_work_70 ?_
    refine lv_icmp_ge (tgt := 89) hx hb dX4_work_73 (by decide) (fun q1 => ?_) (fun q1 => ?_)
    · have h := ifp q1 h
      refine lv_lconst (v := 0) hx hb dX4_work_89 (by decide) ?_
      refine lv_lstore_n (lv' := [(3, .long (0 : Int64)), (0, .ref (ad 15)), (1, .ref (ad 30)), (2, .ref (ad 3))]) hx hb dX4_work_90 rfl hl (by decide) rfl (fun ls hl => ?_)
      refine lv_iconst (v := 0) hx hb dX4_work_91 (by decide) ?_
      refine lv_istore (lv' := [(5, .int (0 : Int32)), (3, .long (0 : Int64)), (0, .ref (ad 15)), (1, .ref (ad 30)), (2, .ref (ad 3))]) hx hb dX4_work_92 hl (by decide) rfl (fun ls hl => ?_)
      exact w_X4_work_15_30_3_94 C hr FU (0 : Int64) (0 : Int32) σ h H locs hP hD hS ls (lv_sub hl [2, 3, 4, 1, 0] rfl)
    · have h := ifn q1 h
      refine lv_aload_n hx hb dX4_work_76 rfl (lv_at hl 0 rfl) ?_
      refine lv_aload_n hx hb dX4_work_77 rfl (lv_at hl 1 rfl) ?_
      refine lv_aload_n hx hb dX4_work_78 rfl (lv_at hl 2 rfl) ?_
      refine lv_iload_n hx hb dX4_work_79 rfl (lv_at hl 3 rfl) ?_
      obtain ⟨σ3, g2, h⟩ := cl_some h
      refine x_callVv (rest := []) C hP hD hS (c_X4_layGuest_15_30_3 g2) (cwV 3 hts (gV mw19_22 mw19_23 mw20_0 mw2_4 mw20_1) rfl rfl rfl hdV_X4_layGuest ⟨Nat.le_of_ble_eq_true rfl, Nat.le_of_ble_eq_true rfl⟩) xw_15 rfl rfl hl.1 rfl (Nat.le_of_ble_eq_true rfl) dX4_work_80 ⟨Nat.zero_le _, Nat.zero_le _⟩ (fun H locs hP hD hS => ?_)
      obtain ⟨x4, ex4, h⟩ := lt_some h
      refine lv_iinc (v := x4) (lv' := [(3, .int x4), (0, .ref (ad 15)), (1, .ref (ad 30)), (2, .ref (ad 3))]) hx hb dX4_work_83 hl (k := 3) rfl (by rw [ex4]; rfl) (by decide) rfl (fun ls hl => ?_)
      refine lv_goto (tgt := 68) hx hb dX4_work_86 (by decide) ?_
      exact ih x4 σ3 h H locs hP hD hS ls (lv_sub hl [1, 2, 3, 0] rfl)
set_option maxHeartbeats 4000000 in
set_option maxRecDepth 100000 in
theorem w_X4_work_15_30_3_35 (C : Cx p s m args meth c D cy tT tF A cX4_work 6 RX4) (hr : meth.sig.returnType = none) {σ' : ES} : ∀ (n : Nat) (v3 : Int32) (σ : ES), b_X4_work_15_30_3_35 n v3 σ = some σ' → ∀ (H : Heap) (locs : List Loc) (hP : va_P D vwCl (xw cy ad σ) H) (hD : va_D A (xw cy ad σ)) (hS : va_S A s.heap H locs) (ls : Array Slot) (hl : lv_has ls 6 [(0, .ref (ad 15)), (1, .ref (ad 30)), (2, .ref (ad 3)), (3, .int v3)]), W p l e { frames := 9, cells := 0, slots := 0, locals := 267 } s m args below meth c H locs 0 0 (MQ below (Qv D cy A (xw cy ad σ')) args s 0 0 A) (F0 m 35 ls []) := by
  obtain ⟨⟨hx, hb, hml, hown, hts⟩, hK, hT, hA, hlk⟩ := id C
  intro n
  induction n with
  | zero =>
    intro v3 σ h
    exact no_some h
  | succ n ih =>
    intro v3 σ h H locs hP hD hS ls hl
    rw [b_X4_work_15_30_3_35] at h
    refine lv_iload_n hx hb dX4_work_35 rfl (lv_at hl 3 rfl) ?_
    refine lv_aload_n hx hb dX4_work_36 rfl (lv_at hl 0 rfl) ?_
    refine x_get C hP inlX4 15 xw_15 rfl 9 (by decide) mw4_13 rfl dX4_work_37 ?_
    refine lv_icmp_gt (tgt := 66) hx hb dX4_work_40 (by decide) (fun q1 => ?_) (fun q1 => ?_)
    · have h := ifp q1 h
      refine lv_iconst (v := 0) hx hb dX4_work_66 (by decide) ?_
      refine lv_istore_n (lv' := [(3, .int (0 : Int32)), (0, .ref (ad 15)), (1, .ref (ad 30)), (2, .ref (ad 3))]) hx hb dX4_work_67 rfl hl (by decide) rfl (fun ls hl => ?_)
      exact w_X4_work_15_30_3_68 C hr FU (0 : Int32) σ h H locs hP hD hS ls (lv_sub hl [1, 2, 3, 0] rfl)
    · have h := ifn q1 h
      refine lv_iload_n hx hb dX4_work_43 rfl (lv_at hl 3 rfl) ?_
      refine lv_aload_n hx hb dX4_work_44 rfl (lv_at hl 0 rfl) ?_
      refine x_get C hP inlX4 15 xw_15 rfl 7 (by decide) mw4_11 rfl dX4_work_45 ?_
      refine x_alen C hP 23 xw_23 (v := 16) rfl dX4_work_48 ?_
      refine lv_icmp_ge (tgt := 66) hx hb dX4_work_49 (by decide) (fun q2 => ?_) (fun q2 => ?_)
      · have h := ifp q2 h
        refine lv_iconst (v := 0) hx hb dX4_work_66 (by decide) ?_
        refine lv_istore_n (lv' := [(3, .int (0 : Int32)), (0, .ref (ad 15)), (1, .ref (ad 30)), (2, .ref (ad 3))]) hx hb dX4_work_67 rfl hl (by decide) rfl (fun ls hl => ?_)
        exact w_X4_work_15_30_3_68 C hr FU (0 : Int32) σ h H locs hP hD hS ls (lv_sub hl [1, 2, 3, 0] rfl)
      · have h := ifn q2 h
        refine lv_aload_n hx hb dX4_work_52 rfl (lv_at hl 0 rfl) ?_
        refine x_get C hP inlX4 15 xw_15 rfl 7 (by decide) mw4_11 rfl dX4_work_53 ?_
        refine lv_iload_n hx hb dX4_work_56 rfl (lv_at hl 3 rfl) ?_
        refine lv_ldc (v := 1000000) hx hb hown (hts _ mw19_21) dX4_work_57 ?_
        obtain ⟨g3, σ4, eσ4, h⟩ := wr_some h
        refine x_ist C hP hD hS 23 xw_23 g3 (xa_23 eσ4) dX4_work_59 (fun H locs hP hD hS => ?_)
        obtain ⟨x5, ex5, h⟩ := lt_some h
        refine lv_iinc (v := x5) (lv' := [(3, .int x5), (0, .ref (ad 15)), (1, .ref (ad 30)), (2, .ref (ad 3))]) hx hb dX4_work_60 hl (k := 3) rfl (by rw [ex5]; rfl) (by decide) rfl (fun ls hl => ?_)
        refine lv_goto (tgt := 35) hx hb dX4_work_63 (by decide) ?_
        exact ih x5 σ4 h H locs hP hD hS ls (lv_sub hl [1, 2, 3, 0] rfl)
set_option maxHeartbeats 4000000 in
set_option maxRecDepth 100000 in
theorem w_X4_work_15_30_3_0 (C : Cx p s m args meth c D cy tT tF A cX4_work 6 RX4) (hr : meth.sig.returnType = none) {σ' : ES} (σ : ES) (h : b_X4_work_15_30_3_0 σ = some σ') (H : Heap) (locs : List Loc) (hP : va_P D vwCl (xw cy ad σ) H) (hD : va_D A (xw cy ad σ)) (hS : va_S A s.heap H locs) (ls : Array Slot) (hl : lv_has ls 6 [(0, .ref (ad 15)), (1, .ref (ad 30)), (2, .ref (ad 3))]) : W p l e { frames := 9, cells := 0, slots := 0, locals := 267 } s m args below meth c H locs 0 0 (MQ below (Qv D cy A (xw cy ad σ')) args s 0 0 A) (F0 m 0 ls []) := by
  obtain ⟨⟨hx, hb, hml, hown, hts⟩, hK, hT, hA, hlk⟩ := id C
  unfold b_X4_work_15_30_3_0 at h
  refine lv_aload_n hx hb dX4_work_0 rfl (lv_at hl 0 rfl) ?_
  refine x_get C hP inlX4 15 xw_15 rfl 11 (by decide) mw4_15 rfl dX4_work_1 ?_
  refine lv_if_eq (tgt := 8) hx hb dX4_work_4 (by decide) (fun q1 => ?_) (fun q1 => ?_)
  · have h := ifp q1 h
    refine lv_aload_n hx hb dX4_work_8 rfl (lv_at hl 0 rfl) ?_
    refine lv_aload_n hx hb dX4_work_9 rfl (lv_at hl 1 rfl) ?_
    refine x_get C hP inlX3 30 xw_30 rfl 10 (by decide) mw19_20 rfl dX4_work_10 ?_
    obtain ⟨σ2, eσ2, h⟩ := lt_some h
    refine x_put C hP hD hS inlX4 tyX4 tyX4_ok nmX4 15 xw_15 rfl 8 (by decide) mw4_12 rfl rfl rfl (Nat.le_of_ble_eq_true rfl) (xs_15_8 eσ2) dX4_work_13 (fun H locs hP hD hS => ?_)
    refine lv_aload_n hx hb dX4_work_16 rfl (lv_at hl 0 rfl) ?_
    refine lv_iconst (v := 1) hx hb dX4_work_17 (by decide) ?_
    refine lv_aload_n hx hb dX4_work_18 rfl (lv_at hl 0 rfl) ?_
    refine x_get C hP inlX4 15 xw_15 rfl 8 (by decide) mw4_12 rfl dX4_work_19 ?_
    refine lv_ishl hx hb dX4_work_22 ?_
    refine lv_iconst (v := 1) hx hb dX4_work_23 (by decide) ?_
    refine lv_isub hx hb dX4_work_24 ?_
    obtain ⟨σ3, eσ3, h⟩ := lt_some h
    refine x_put C hP hD hS inlX4 tyX4 tyX4_ok nmX4 15 xw_15 rfl 9 (by decide) mw4_13 rfl rfl rfl (Nat.le_of_ble_eq_true rfl) (xs_15_9 eσ3) dX4_work_25 (fun H locs hP hD hS => ?_)
    refine lv_aload_n hx hb dX4_work_28 rfl (lv_at hl 0 rfl) ?_
    refine lv_iconst (v := 0) hx hb dX4_work_29 (by decide) ?_
    obtain ⟨σ4, eσ4, h⟩ := lt_some h
    refine x_put C hP hD hS inlX4 tyX4 tyX4_ok nmX4 15 xw_15 rfl 10 (by decide) mw4_14 rfl rfl rfl (Nat.le_of_ble_eq_true rfl) (xs_15_10 eσ4) dX4_work_30 (fun H locs hP hD hS => ?_)
    refine lv_iconst (v := 0) hx hb dX4_work_33 (by decide) ?_
    refine lv_istore_n (lv' := [(3, .int (0 : Int32)), (0, .ref (ad 15)), (1, .ref (ad 30)), (2, .ref (ad 3))]) hx hb dX4_work_34 rfl hl (by decide) rfl (fun ls hl => ?_)
    exact w_X4_work_15_30_3_35 C hr FU (0 : Int32) σ4 h H locs hP hD hS ls (lv_sub hl [1, 2, 3, 0] rfl)
  · have h := ifn q1 h
    have z1 := so_inj h
    subst z1
    exact x_vret C hr hP hD hS dX4_work_7
theorem c_X4_work_15_30_3 {l : Launch} {D : va_G} {cy : Nat → ClassId} {tT tF : Nat} {ad : Nat → Nat} {σ : ES} {σ' : ES} (h : e_X4_work_15_30_3  σ = some σ') : CMv l yX4_work (Cond.code yX4_work cX4_work 6 none :: wsL_law) { frames := 9, cells := 0, slots := 0, locals := 267 } D cy tT tF [.ref (ad 15), .ref (ad 30), .ref (ad 3)] (xw cy ad σ) (xw cy ad σ') := x_start (Qc := fun A => (Qv D cy A (xw cy ad σ'))) (by decide) (Nat.le_of_ble_eq_true rfl) (fun p e s m below meth c A ls C hr hP hD hS hl => w_X4_work_15_30_3_0 C hr  σ h s.heap [] hP hD hS ls hl)
set_option maxHeartbeats 4000000 in
set_option maxRecDepth 100000 in
theorem w_X4_costForAll_15_0 (C : Cx p s m args meth c D cy tT tF A cX4_costForAll 1 RX4) (hr : meth.sig.returnType = some .int) {r : Int32} {σ : ES} (h : b_X4_costForAll_15_0 σ  = some r) (H : Heap) (locs : List Loc) (hP : va_P D vwCl (xw cy ad σ) H) (hD : va_D A (xw cy ad σ)) (hS : va_S A s.heap H locs) (ls : Array Slot) (hl : lv_has ls 1 [(0, .ref (ad 15))]) : W p l e { frames := 0, cells := 0, slots := 0, locals := 0 } s m args below meth c H locs 0 0 (MQ below (Qi D cy A r (xw cy ad σ)) args s 0 0 A) (F0 m 0 ls []) := by
  obtain ⟨⟨hx, hb, hml, hown, hts⟩, hK, hT, hA, hlk⟩ := id C
  unfold b_X4_costForAll_15_0 at h
  refine lv_aload_n hx hb dX4_costForAll_0 rfl (lv_at hl 0 rfl) ?_
  refine x_get C hP inlX4 15 xw_15 rfl 7 (by decide) mw4_11 rfl dX4_costForAll_1 ?_
  refine lv_aload_n hx hb dX4_costForAll_4 rfl (lv_at hl 0 rfl) ?_
  refine x_get C hP inlX4 15 xw_15 rfl 9 (by decide) mw4_13 rfl dX4_costForAll_5 ?_
  obtain ⟨g1, x2, ex2, h⟩ := rd_some h
  refine x_ild C hP 23 xw_23 g1 ex2 dX4_costForAll_8 ?_
  refine lv_ldc (v := 1000000) hx hb hown (hts _ mw19_21) dX4_costForAll_9 ?_
  refine lv_icmp_ne (tgt := 19) hx hb dX4_costForAll_11 (by decide) (fun q3 => ?_) (fun q3 => ?_)
  · have h := ifn q3 h
    refine lv_aload_n hx hb dX4_costForAll_19 rfl (lv_at hl 0 rfl) ?_
    refine x_get C hP inlX4 15 xw_15 rfl 7 (by decide) mw4_11 rfl dX4_costForAll_20 ?_
    refine lv_aload_n hx hb dX4_costForAll_23 rfl (lv_at hl 0 rfl) ?_
    refine x_get C hP inlX4 15 xw_15 rfl 9 (by decide) mw4_13 rfl dX4_costForAll_24 ?_
    obtain ⟨g4, x5, ex5, h⟩ := rd_some h
    refine x_ild C hP 23 xw_23 g4 ex5 dX4_costForAll_27 ?_
    have z1 := so_inj h
    subst z1
    exact x_iret C hr hP hD hS dX4_costForAll_28
  · have h := ifp q3 h
    refine lv_bipush (v := -9) hx hb dX4_costForAll_14 (by decide) ?_
    refine lv_goto (tgt := 28) hx hb dX4_costForAll_16 (by decide) ?_
    have z1 := so_inj h
    subst z1
    exact x_iret C hr hP hD hS dX4_costForAll_28
theorem c_X4_costForAll_15 {l : Launch} {D : va_G} {cy : Nat → ClassId} {tT tF : Nat} {ad : Nat → Nat} {r : Int32} {σ : ES} (h : e_X4_costForAll_15  σ = some r) : CMi l yX4_costForAll (Cond.code yX4_costForAll cX4_costForAll 1 (some .int) :: wsL_law) { frames := 0, cells := 0, slots := 0, locals := 0 } D cy tT tF [.ref (ad 15)] (xw cy ad σ) r (xw cy ad σ) := x_start (Qc := fun A => (Qi D cy A r (xw cy ad σ))) (by decide) (Nat.le_of_ble_eq_true rfl) (fun p e s m below meth c A ls C hr hP hD hS hl => w_X4_costForAll_15_0 C hr  h s.heap [] hP hD hS ls hl)
set_option maxHeartbeats 4000000 in
set_option maxRecDepth 100000 in
theorem w_X7_plan_0_0 (C : Cx p s m args meth c D cy tT tF A cX7_plan 1 RX7) (hr : meth.sig.returnType = some .int) {r : Int32} {σ' : ES} (σ : ES) (h : b_X7_plan_0_0 σ = some (r, σ')) (H : Heap) (locs : List Loc) (hP : va_P D vwCl (xw cy ad σ) H) (hD : va_D A (xw cy ad σ)) (hS : va_S A s.heap H locs) (ls : Array Slot) (hl : lv_has ls 1 [(0, .ref (ad 0))]) : W p l e { frames := 10, cells := 0, slots := 0, locals := 292 } s m args below meth c H locs 0 0 (MQ below (Qi D cy A r (xw cy ad σ')) args s 0 0 A) (F0 m 0 ls []) := by
  obtain ⟨⟨hx, hb, hml, hown, hts⟩, hK, hT, hA, hlk⟩ := id C
  unfold b_X7_plan_0_0 at h
  refine lv_aload_n hx hb dX7_plan_0 rfl (lv_at hl 0 rfl) ?_
  refine x_get C hP inlX7 0 xw_0 rfl 4 (by decide) mw2_5 rfl dX7_plan_1 ?_
  refine lv_aload_n hx hb dX7_plan_4 rfl (lv_at hl 0 rfl) ?_
  refine x_get C hP inlX7 0 xw_0 rfl 9 (by decide) mw2_21 rfl dX7_plan_5 ?_
  refine lv_aload_n hx hb dX7_plan_8 rfl (lv_at hl 0 rfl) ?_
  refine x_get C hP inlX7 0 xw_0 rfl 1 (by decide) mw1_20 rfl dX7_plan_9 ?_
  obtain ⟨σ2, g1, h⟩ := cl_some h
  refine x_callVv (rest := []) C hP hD hS (c_X4_work_15_30_3 g1) (cwV 2 hts (gV mw19_16 mw19_17 mw19_18 mw2_4 mw19_19) rfl rfl rfl hdV_X4_work ⟨Nat.le_of_ble_eq_true rfl, Nat.le_of_ble_eq_true rfl⟩) xw_15 rfl rfl hl.1 rfl (Nat.le_of_ble_eq_true rfl) dX7_plan_12 ⟨Nat.zero_le _, Nat.zero_le _⟩ (fun H locs hP hD hS => ?_)
  refine lv_aload_n hx hb dX7_plan_15 rfl (lv_at hl 0 rfl) ?_
  refine x_get C hP inlX7 0 xw_0 rfl 4 (by decide) mw2_5 rfl dX7_plan_16 ?_
  obtain ⟨r4, g3, h⟩ := cl_some h
  refine x_callVi (rest := []) C hP hD hS (c_X4_costForAll_15 g3) (cwV 0 hts (gV mw21_20 mw21_21 mw21_22 mw2_4 mw21_23) rfl rfl rfl hdV_X4_costForAll ⟨Nat.le_of_ble_eq_true rfl, Nat.le_of_ble_eq_true rfl⟩) xw_15 rfl rfl hl.1 rfl (Nat.le_of_ble_eq_true rfl) dX7_plan_19 ⟨Nat.zero_le _, Nat.zero_le _⟩ (fun H locs hP hD hS => ?_)
  obtain ⟨z1, z2⟩ := pr_inj h
  subst z1
  subst z2
  exact x_iret C hr hP hD hS dX7_plan_22
theorem c_X7_plan_0 {l : Launch} {D : va_G} {cy : Nat → ClassId} {tT tF : Nat} {ad : Nat → Nat} {σ : ES} {r : Int32} {σ' : ES} (h : e_X7_plan_0  σ = some (r, σ')) : CMi l yX7_plan (Cond.code yX7_plan cX7_plan 1 (some .int) :: wsL_law) { frames := 10, cells := 0, slots := 0, locals := 292 } D cy tT tF [.ref (ad 0)] (xw cy ad σ) r (xw cy ad σ') := x_start (Qc := fun A => (Qi D cy A r (xw cy ad σ'))) (by decide) (Nat.le_of_ble_eq_true rfl) (fun p e s m below meth c A ls C hr hP hD hS hl => w_X7_plan_0_0 C hr  σ h s.heap [] hP hD hS ls hl)
set_option maxHeartbeats 4000000 in
set_option maxRecDepth 100000 in
theorem w_X7_planOf_0_0 (C : Cx p s m args meth c D cy tT tF A cX7_planOf 2 RX7) (hr : meth.sig.returnType = some .int) {r : Int32} {σ' : ES} (a1 : Int32) (σ : ES) (h : b_X7_planOf_0_0 a1 σ = some (r, σ')) (H : Heap) (locs : List Loc) (hP : va_P D vwCl (xw cy ad σ) H) (hD : va_D A (xw cy ad σ)) (hS : va_S A s.heap H locs) (ls : Array Slot) (hl : lv_has ls 2 [(0, .ref (ad 0)), (1, .int a1)]) : W p l e { frames := 10, cells := 0, slots := 0, locals := 292 } s m args below meth c H locs 0 0 (MQ below (Qi D cy A r (xw cy ad σ')) args s 0 0 A) (F0 m 0 ls []) := by
  obtain ⟨⟨hx, hb, hml, hown, hts⟩, hK, hT, hA, hlk⟩ := id C
  unfold b_X7_planOf_0_0 at h
  refine lv_aload_n hx hb dX7_planOf_0 rfl (lv_at hl 0 rfl) ?_
  refine x_get C hP inlX7 0 xw_0 rfl 9 (by decide) mw2_21 rfl dX7_planOf_1 ?_
  refine lv_iload_n hx hb dX7_planOf_4 rfl (lv_at hl 1 rfl) ?_
  obtain ⟨r2, g1, h⟩ := cl_some h
  refine x_callVi (rest := []) C hP hD hS (c_X3_hasCandle_30 g1) (cwV 1 hts (gV mw13_3 mw13_4 mw13_5 mw2_20 mw13_6) rfl rfl rfl hdV_X3_hasCandle ⟨Nat.le_of_ble_eq_true rfl, Nat.le_of_ble_eq_true rfl⟩) xw_30 rfl rfl hl.1 rfl (Nat.le_of_ble_eq_true rfl) dX7_planOf_5 ⟨Nat.zero_le _, Nat.zero_le _⟩ (fun H locs hP hD hS => ?_)
  refine lv_if_ne (tgt := 13) hx hb dX7_planOf_8 (by decide) (fun q3 => ?_) (fun q3 => ?_)
  · have h := ifn q3 h
    refine lv_aload_n hx hb dX7_planOf_13 rfl (lv_at hl 0 rfl) ?_
    refine x_get C hP inlX7 0 xw_0 rfl 4 (by decide) mw2_5 rfl dX7_planOf_14 ?_
    refine lv_aload_n hx hb dX7_planOf_17 rfl (lv_at hl 0 rfl) ?_
    refine x_get C hP inlX7 0 xw_0 rfl 9 (by decide) mw2_21 rfl dX7_planOf_18 ?_
    refine lv_aload_n hx hb dX7_planOf_21 rfl (lv_at hl 0 rfl) ?_
    refine x_get C hP inlX7 0 xw_0 rfl 1 (by decide) mw1_20 rfl dX7_planOf_22 ?_
    obtain ⟨σ5, g4, h⟩ := cl_some h
    refine x_callVv (rest := []) C hP hD hS (c_X4_work_15_30_3 g4) (cwV 2 hts (gV mw19_16 mw19_17 mw19_18 mw2_4 mw19_19) rfl rfl rfl hdV_X4_work ⟨Nat.le_of_ble_eq_true rfl, Nat.le_of_ble_eq_true rfl⟩) xw_15 rfl rfl hl.1 rfl (Nat.le_of_ble_eq_true rfl) dX7_planOf_25 ⟨Nat.zero_le _, Nat.zero_le _⟩ (fun H locs hP hD hS => ?_)
    refine lv_aload_n hx hb dX7_planOf_28 rfl (lv_at hl 0 rfl) ?_
    refine x_get C hP inlX7 0 xw_0 rfl 4 (by decide) mw2_5 rfl dX7_planOf_29 ?_
    obtain ⟨r7, g6, h⟩ := cl_some h
    refine x_callVi (rest := []) C hP hD hS (c_X4_costForAll_15 g6) (cwV 0 hts (gV mw21_20 mw21_21 mw21_22 mw2_4 mw21_23) rfl rfl rfl hdV_X4_costForAll ⟨Nat.le_of_ble_eq_true rfl, Nat.le_of_ble_eq_true rfl⟩) xw_15 rfl rfl hl.1 rfl (Nat.le_of_ble_eq_true rfl) dX7_planOf_32 ⟨Nat.zero_le _, Nat.zero_le _⟩ (fun H locs hP hD hS => ?_)
    refine lv_bipush (v := -9) hx hb dX7_planOf_35 (by decide) ?_
    refine lv_icmp_ne (tgt := 45) hx hb dX7_planOf_37 (by decide) (fun q8 => ?_) (fun q8 => ?_)
    · have h := ifn q8 h
      refine lv_aload_n hx hb dX7_planOf_45 rfl (lv_at hl 0 rfl) ?_
      refine x_get C hP inlX7 0 xw_0 rfl 4 (by decide) mw2_5 rfl dX7_planOf_46 ?_
      refine x_get C hP inlX4 15 xw_15 rfl 6 (by decide) mw23_14 rfl dX7_planOf_49 ?_
      refine lv_iload_n hx hb dX7_planOf_52 rfl (lv_at hl 1 rfl) ?_
      obtain ⟨g9, x10, ex10, h⟩ := rd_some h
      refine x_ild C hP 22 xw_22 g9 ex10 dX7_planOf_53 ?_
      obtain ⟨z1, z2⟩ := pr_inj h
      subst z1
      subst z2
      exact x_iret C hr hP hD hS dX7_planOf_54
    · have h := ifp q8 h
      refine lv_bipush (v := -9) hx hb dX7_planOf_40 (by decide) ?_
      refine lv_goto (tgt := 54) hx hb dX7_planOf_42 (by decide) ?_
      obtain ⟨z1, z2⟩ := pr_inj h
      subst z1
      subst z2
      exact x_iret C hr hP hD hS dX7_planOf_54
  · have h := ifp q3 h
    refine lv_iconst (v := -1) hx hb dX7_planOf_11 (by decide) ?_
    obtain ⟨z1, z2⟩ := pr_inj h
    subst z1
    subst z2
    exact x_iret C hr hP hD hS dX7_planOf_12
theorem c_X7_planOf_0 {l : Launch} {D : va_G} {cy : Nat → ClassId} {tT tF : Nat} {ad : Nat → Nat} {σ : ES} {a1 : Int32} {r : Int32} {σ' : ES} (h : e_X7_planOf_0 a1 σ = some (r, σ')) : CMi l yX7_planOf (Cond.code yX7_planOf cX7_planOf 2 (some .int) :: wsL_law) { frames := 10, cells := 0, slots := 0, locals := 292 } D cy tT tF [.ref (ad 0), .int a1] (xw cy ad σ) r (xw cy ad σ') := x_start (Qc := fun A => (Qi D cy A r (xw cy ad σ'))) (by decide) (Nat.le_of_ble_eq_true rfl) (fun p e s m below meth c A ls C hr hP hD hS hl => w_X7_planOf_0_0 C hr a1 σ h s.heap [] hP hD hS ls hl)
set_option maxHeartbeats 4000000 in
set_option maxRecDepth 100000 in
theorem w_X7_bars_0_17 (C : Cx p s m args meth c D cy tT tF A cX7_bars 2 RX7) (hr : meth.sig.returnType = some .int) {r : Int32} {σ' : ES} : ∀ (n : Nat) (v1 : Int32) (σ : ES), b_X7_bars_0_17 n v1 σ = some (r, σ') → ∀ (H : Heap) (locs : List Loc) (hP : va_P D vwCl (xw cy ad σ) H) (hD : va_D A (xw cy ad σ)) (hS : va_S A s.heap H locs) (ls : Array Slot) (hl : lv_has ls 2 [(0, .ref (ad 0)), (1, .int v1)]), W p l e { frames := 10, cells := 0, slots := 0, locals := 292 } s m args below meth c H locs 0 0 (MQ below (Qi D cy A r (xw cy ad σ')) args s 0 0 A) (F0 m 17 ls []) := by
  obtain ⟨⟨hx, hb, hml, hown, hts⟩, hK, hT, hA, hlk⟩ := id C
  intro n
  induction n with
  | zero =>
    intro v1 σ h
    exact no_some h
  | succ n ih =>
    intro v1 σ h H locs hP hD hS ls hl
    rw [b_X7_bars_0_17] at h
    refine lv_iload_n hx hb dX7_bars_17 rfl (lv_at hl 1 rfl) ?_
    refine lv_aload_n hx hb dX7_bars_18 rfl (lv_at hl 0 rfl) ?_
    refine x_get C hP inlX7 0 xw_0 rfl 9 (by decide) mw2_21 rfl dX7_bars_19 ?_
    refine x_get C hP inlX3 30 xw_30 rfl 10 (by decide) mw11_12 rfl dX7_bars_22 ?_
    refine lv_icmp_ge (tgt := 50) hx hb dX7_bars_25 (by decide) (fun q1 => ?_) (fun q1 => ?_)
    · have h := ifp q1 h
      refine lv_bipush (v := -9) hx hb dX7_bars_50 (by decide) ?_
      obtain ⟨z1, z2⟩ := pr_inj h
      subst z1
      subst z2
      exact x_iret C hr hP hD hS dX7_bars_52
    · have h := ifn q1 h
      refine lv_aload_n hx hb dX7_bars_28 rfl (lv_at hl 0 rfl) ?_
      refine x_get C hP inlX7 0 xw_0 rfl 4 (by decide) mw2_5 rfl dX7_bars_29 ?_
      refine x_get C hP inlX4 15 xw_15 rfl 10 (by decide) mw23_23 rfl dX7_bars_32 ?_
      refine lv_iload_n hx hb dX7_bars_35 rfl (lv_at hl 1 rfl) ?_
      refine lv_ishr hx hb dX7_bars_36 ?_
      refine lv_iconst (v := 1) hx hb dX7_bars_37 (by decide) ?_
      refine lv_iand hx hb dX7_bars_38 ?_
      refine lv_if_ne (tgt := 44) hx hb dX7_bars_39 (by decide) (fun q2 => ?_) (fun q2 => ?_)
      · have h := ifn q2 h
        obtain ⟨x3, ex3, h⟩ := lt_some h
        refine lv_iinc (v := x3) (lv' := [(1, .int x3), (0, .ref (ad 0))]) hx hb dX7_bars_44 hl (k := 1) rfl (by rw [ex3]; rfl) (by decide) rfl (fun ls hl => ?_)
        refine lv_goto (tgt := 17) hx hb dX7_bars_47 (by decide) ?_
        exact ih x3 σ h H locs hP hD hS ls (lv_sub hl [1, 0] rfl)
      · have h := ifp q2 h
        refine lv_iload_n hx hb dX7_bars_42 rfl (lv_at hl 1 rfl) ?_
        obtain ⟨z1, z2⟩ := pr_inj h
        subst z1
        subst z2
        exact x_iret C hr hP hD hS dX7_bars_43
set_option maxHeartbeats 4000000 in
set_option maxRecDepth 100000 in
theorem w_X7_bars_0_0 (C : Cx p s m args meth c D cy tT tF A cX7_bars 2 RX7) (hr : meth.sig.returnType = some .int) {r : Int32} {σ' : ES} (σ : ES) (h : b_X7_bars_0_0 σ = some (r, σ')) (H : Heap) (locs : List Loc) (hP : va_P D vwCl (xw cy ad σ) H) (hD : va_D A (xw cy ad σ)) (hS : va_S A s.heap H locs) (ls : Array Slot) (hl : lv_has ls 2 [(0, .ref (ad 0))]) : W p l e { frames := 10, cells := 0, slots := 0, locals := 292 } s m args below meth c H locs 0 0 (MQ below (Qi D cy A r (xw cy ad σ')) args s 0 0 A) (F0 m 0 ls []) := by
  obtain ⟨⟨hx, hb, hml, hown, hts⟩, hK, hT, hA, hlk⟩ := id C
  unfold b_X7_bars_0_0 at h
  refine lv_aload_n hx hb dX7_bars_0 rfl (lv_at hl 0 rfl) ?_
  refine x_get C hP inlX7 0 xw_0 rfl 4 (by decide) mw2_5 rfl dX7_bars_1 ?_
  refine lv_aload_n hx hb dX7_bars_4 rfl (lv_at hl 0 rfl) ?_
  refine x_get C hP inlX7 0 xw_0 rfl 9 (by decide) mw2_21 rfl dX7_bars_5 ?_
  refine lv_aload_n hx hb dX7_bars_8 rfl (lv_at hl 0 rfl) ?_
  refine x_get C hP inlX7 0 xw_0 rfl 1 (by decide) mw1_20 rfl dX7_bars_9 ?_
  obtain ⟨σ2, g1, h⟩ := cl_some h
  refine x_callVv (rest := []) C hP hD hS (c_X4_work_15_30_3 g1) (cwV 2 hts (gV mw19_16 mw19_17 mw19_18 mw2_4 mw19_19) rfl rfl rfl hdV_X4_work ⟨Nat.le_of_ble_eq_true rfl, Nat.le_of_ble_eq_true rfl⟩) xw_15 rfl rfl hl.1 rfl (Nat.le_of_ble_eq_true rfl) dX7_bars_12 ⟨Nat.zero_le _, Nat.zero_le _⟩ (fun H locs hP hD hS => ?_)
  refine lv_iconst (v := 0) hx hb dX7_bars_15 (by decide) ?_
  refine lv_istore_n (lv' := [(1, .int (0 : Int32)), (0, .ref (ad 0))]) hx hb dX7_bars_16 rfl hl (by decide) rfl (fun ls hl => ?_)
  exact w_X7_bars_0_17 C hr FU (0 : Int32) σ2 h H locs hP hD hS ls (lv_sub hl [1, 0] rfl)
theorem c_X7_bars_0 {l : Launch} {D : va_G} {cy : Nat → ClassId} {tT tF : Nat} {ad : Nat → Nat} {σ : ES} {r : Int32} {σ' : ES} (h : e_X7_bars_0  σ = some (r, σ')) : CMi l yX7_bars (Cond.code yX7_bars cX7_bars 2 (some .int) :: wsL_law) { frames := 10, cells := 0, slots := 0, locals := 292 } D cy tT tF [.ref (ad 0)] (xw cy ad σ) r (xw cy ad σ') := x_start (Qc := fun A => (Qi D cy A r (xw cy ad σ'))) (by decide) (Nat.le_of_ble_eq_true rfl) (fun p e s m below meth c A ls C hr hP hD hS hl => w_X7_bars_0_0 C hr  σ h s.heap [] hP hD hS ls hl)
set_option maxHeartbeats 4000000 in
set_option maxRecDepth 100000 in
theorem w_X4_sharesOf_15_4 (C : Cx p s m args meth c D cy tT tF A cX4_sharesOf 6 RX4) (hr : meth.sig.returnType = some .int) {r : Int32} {σ : ES} : ∀ (n : Nat) (v1 : Int32) (v2 : Int32) (v3 : Int32), b_X4_sharesOf_15_4 σ n v1 v2 v3 = some r → ∀ (H : Heap) (locs : List Loc) (hP : va_P D vwCl (xw cy ad σ) H) (hD : va_D A (xw cy ad σ)) (hS : va_S A s.heap H locs) (ls : Array Slot) (hl : lv_has ls 6 [(0, .ref (ad 15)), (1, .int v1), (2, .int v2), (3, .int v3)]), W p l e { frames := 1, cells := 0, slots := 0, locals := 20 } s m args below meth c H locs 0 0 (MQ below (Qi D cy A r (xw cy ad σ)) args s 0 0 A) (F0 m 4 ls []) := by
  obtain ⟨⟨hx, hb, hml, hown, hts⟩, hK, hT, hA, hlk⟩ := id C
  intro n
  induction n with
  | zero =>
    intro v1 v2 v3 h
    exact no_some h
  | succ n ih =>
    intro v1 v2 v3 h H locs hP hD hS ls hl
    rw [b_X4_sharesOf_15_4] at h
    refine lv_iload_n hx hb dX4_sharesOf_4 rfl (lv_at hl 3 rfl) ?_
    refine lv_aload_n hx hb dX4_sharesOf_5 rfl (lv_at hl 0 rfl) ?_
    refine x_get C hP inlX4 15 xw_15 rfl 9 (by decide) mw4_13 rfl dX4_sharesOf_6 ?_
    refine lv_icmp_gt (tgt := 77) hx hb dX4_sharesOf_9 (by decide) (fun q1 => ?_) (fun q1 => ?_)
    · have h := ifp q1 h
      refine lv_iload_n hx hb dX4_sharesOf_77 rfl (lv_at hl 2 rfl) ?_
      have z1 := so_inj h
      subst z1
      exact x_iret C hr hP hD hS dX4_sharesOf_78
    · have h := ifn q1 h
      refine lv_iload_n hx hb dX4_sharesOf_12 rfl (lv_at hl 3 rfl) ?_
      refine lv_iload_n hx hb dX4_sharesOf_13 rfl (lv_at hl 1 rfl) ?_
      refine lv_ishr hx hb dX4_sharesOf_14 ?_
      refine lv_iconst (v := 1) hx hb dX4_sharesOf_15 (by decide) ?_
      refine lv_iand hx hb dX4_sharesOf_16 ?_
      refine lv_if_ne (tgt := 71) hx hb dX4_sharesOf_17 (by decide) (fun q2 => ?_) (fun q2 => ?_)
      · have h := ifn q2 h
        obtain ⟨x3, ex3, h⟩ := lt_some h
        refine lv_iinc (v := x3) (lv' := [(3, .int x3), (0, .ref (ad 15)), (1, .int v1), (2, .int v2)]) hx hb dX4_sharesOf_71 hl (k := 3) rfl (by rw [ex3]; rfl) (by decide) rfl (fun ls hl => ?_)
        refine lv_goto (tgt := 4) hx hb dX4_sharesOf_74 (by decide) ?_
        exact ih v1 v2 x3 h H locs hP hD hS ls (lv_sub hl [1, 2, 3, 0] rfl)
      · have h := ifp q2 h
        refine lv_iload_n hx hb dX4_sharesOf_20 rfl (lv_at hl 3 rfl) ?_
        obtain ⟨r5, g4, h⟩ := cl_some h
        refine x_callSi (rest := []) C hP hD hS (c_J6_bitCount g4) (va_cwS 1 hts (gS mw24_13 mw15_20 mw15_21 mw15_22) rfl rfl rfl hdS_J6_bitCount ⟨Nat.le_of_ble_eq_true rfl, Nat.le_of_ble_eq_true rfl⟩) rfl hl.1 rfl (Nat.le_of_ble_eq_true rfl) dX4_sharesOf_21 ⟨Nat.zero_le _, Nat.zero_le _⟩ (fun H locs hP hD hS => ?_)
        refine lv_istore (lv' := [(4, .int r5), (0, .ref (ad 15)), (1, .int v1), (2, .int v2), (3, .int v3)]) hx hb dX4_sharesOf_24 hl (by decide) rfl (fun ls hl => ?_)
        refine x_facsN C hS dX4_sharesOf_26 ?_
        refine lv_iload hx hb dX4_sharesOf_29 (lv_at hl 0 rfl) ?_
        obtain ⟨g6, x7, ex7, h⟩ := rt_some h
        refine x_fld C hS g6 ex7 dX4_sharesOf_31 ?_
        refine x_facsN C hS dX4_sharesOf_32 ?_
        refine lv_aload_n hx hb dX4_sharesOf_35 rfl (lv_at hl 1 rfl) ?_
        refine x_get C hP inlX4 15 xw_15 rfl 8 (by decide) mw4_12 rfl dX4_sharesOf_36 ?_
        refine lv_iconst (v := 1) hx hb dX4_sharesOf_39 (by decide) ?_
        refine lv_isub hx hb dX4_sharesOf_40 ?_
        refine lv_iload hx hb dX4_sharesOf_41 (lv_at hl 0 rfl) ?_
        refine lv_isub hx hb dX4_sharesOf_43 ?_
        obtain ⟨g8, x9, ex9, h⟩ := rt_some h
        refine x_fld C hS g8 ex9 dX4_sharesOf_44 ?_
        refine lv_imul hx hb dX4_sharesOf_45 ?_
        obtain ⟨x10, ex10, h⟩ := lt_some h
        refine x_ti ex10 ?_
        refine lv_istore (lv' := [(5, .int x10), (4, .int r5), (0, .ref (ad 15)), (1, .int v1), (2, .int v2), (3, .int v3)]) hx hb dX4_sharesOf_46 hl (by decide) rfl (fun ls hl => ?_)
        refine lv_iload_n hx hb dX4_sharesOf_48 rfl (lv_at hl 4 rfl) ?_
        refine lv_iload hx hb dX4_sharesOf_49 (lv_at hl 0 rfl) ?_
        refine lv_aload_n hx hb dX4_sharesOf_51 rfl (lv_at hl 2 rfl) ?_
        refine x_get C hP inlX4 15 xw_15 rfl 7 (by decide) mw4_11 rfl dX4_sharesOf_52 ?_
        refine lv_iload_n hx hb dX4_sharesOf_55 rfl (lv_at hl 5 rfl) ?_
        refine lv_iconst (v := 1) hx hb dX4_sharesOf_56 (by decide) ?_
        refine lv_iload_n hx hb dX4_sharesOf_57 rfl (lv_at hl 3 rfl) ?_
        refine lv_ishl hx hb dX4_sharesOf_58 ?_
        refine lv_ior hx hb dX4_sharesOf_59 ?_
        obtain ⟨g11, x12, ex12, h⟩ := rd_some h
        refine x_ild C hP 23 xw_23 g11 ex12 dX4_sharesOf_60 ?_
        refine lv_aload_n hx hb dX4_sharesOf_61 rfl (lv_at hl 2 rfl) ?_
        refine x_get C hP inlX4 15 xw_15 rfl 7 (by decide) mw4_11 rfl dX4_sharesOf_62 ?_
        refine lv_iload_n hx hb dX4_sharesOf_65 rfl (lv_at hl 5 rfl) ?_
        obtain ⟨g13, x14, ex14, h⟩ := rd_some h
        refine x_ild C hP 23 xw_23 g13 ex14 dX4_sharesOf_66 ?_
        refine lv_isub hx hb dX4_sharesOf_67 ?_
        refine lv_imul hx hb dX4_sharesOf_68 ?_
        refine lv_iadd hx hb dX4_sharesOf_69 ?_
        obtain ⟨x15, ex15, h⟩ := lt_some h
        refine x_ti ex15 ?_
        refine lv_istore_n (lv' := [(2, .int x15), (5, .int x10), (4, .int r5), (0, .ref (ad 15)), (1, .int v1), (3, .int v3)]) hx hb dX4_sharesOf_70 rfl hl (by decide) rfl (fun ls hl => ?_)
        obtain ⟨x16, ex16, h⟩ := lt_some h
        refine lv_iinc (v := x16) (lv' := [(3, .int x16), (2, .int x15), (5, .int x10), (4, .int r5), (0, .ref (ad 15)), (1, .int v1)]) hx hb dX4_sharesOf_71 hl (k := 5) rfl (by rw [ex16]; rfl) (by decide) rfl (fun ls hl => ?_)
        refine lv_goto (tgt := 4) hx hb dX4_sharesOf_74 (by decide) ?_
        exact ih v1 x15 x16 h H locs hP hD hS ls (lv_sub hl [4, 5, 1, 0] rfl)
set_option maxHeartbeats 4000000 in
set_option maxRecDepth 100000 in
theorem w_X4_sharesOf_15_0 (C : Cx p s m args meth c D cy tT tF A cX4_sharesOf 6 RX4) (hr : meth.sig.returnType = some .int) {r : Int32} {σ : ES} (a1 : Int32) (h : b_X4_sharesOf_15_0 σ a1 = some r) (H : Heap) (locs : List Loc) (hP : va_P D vwCl (xw cy ad σ) H) (hD : va_D A (xw cy ad σ)) (hS : va_S A s.heap H locs) (ls : Array Slot) (hl : lv_has ls 6 [(0, .ref (ad 15)), (1, .int a1)]) : W p l e { frames := 1, cells := 0, slots := 0, locals := 20 } s m args below meth c H locs 0 0 (MQ below (Qi D cy A r (xw cy ad σ)) args s 0 0 A) (F0 m 0 ls []) := by
  obtain ⟨⟨hx, hb, hml, hown, hts⟩, hK, hT, hA, hlk⟩ := id C
  unfold b_X4_sharesOf_15_0 at h
  refine lv_iconst (v := 0) hx hb dX4_sharesOf_0 (by decide) ?_
  refine lv_istore_n (lv' := [(2, .int (0 : Int32)), (0, .ref (ad 15)), (1, .int a1)]) hx hb dX4_sharesOf_1 rfl hl (by decide) rfl (fun ls hl => ?_)
  refine lv_iconst (v := 0) hx hb dX4_sharesOf_2 (by decide) ?_
  refine lv_istore_n (lv' := [(3, .int (0 : Int32)), (2, .int (0 : Int32)), (0, .ref (ad 15)), (1, .int a1)]) hx hb dX4_sharesOf_3 rfl hl (by decide) rfl (fun ls hl => ?_)
  exact w_X4_sharesOf_15_4 C hr FU a1 (0 : Int32) (0 : Int32) h H locs hP hD hS ls (lv_sub hl [2, 3, 1, 0] rfl)
theorem c_X4_sharesOf_15 {l : Launch} {D : va_G} {cy : Nat → ClassId} {tT tF : Nat} {ad : Nat → Nat} {a1 : Int32} {r : Int32} {σ : ES} (h : e_X4_sharesOf_15 a1 σ = some r) : CMi l yX4_sharesOf (Cond.code yX4_sharesOf cX4_sharesOf 6 (some .int) :: wsL_law) { frames := 1, cells := 0, slots := 0, locals := 20 } D cy tT tF [.ref (ad 15), .int a1] (xw cy ad σ) r (xw cy ad σ) := x_start (Qc := fun A => (Qi D cy A r (xw cy ad σ))) (by decide) (Nat.le_of_ble_eq_true rfl) (fun p e s m below meth c A ls C hr hP hD hS hl => w_X4_sharesOf_15_0 C hr a1 h s.heap [] hP hD hS ls hl)
set_option maxHeartbeats 4000000 in
set_option maxRecDepth 100000 in
theorem w_X7_fraction_39 (C : Cx p s m args meth c D cy tT tF A cX7_fraction 7 RX7) (hr : meth.sig.returnType = some .int) {r : Int32} (v0 : Int32) (v1 : Int32) (v2 : Int32) (v3 : Int32) (h : b_X7_fraction_39 v0 v1 v2 v3 = some r) (H : Heap) (locs : List Loc) (hP : va_P D vwCl ws H) (hD : va_D A ws) (hS : va_S A s.heap H locs) (ls : Array Slot) (hl : lv_has ls 7 [(0, .int v0), (1, .int v1), (2, .int v2), (3, .int v3)]) : W p l e { frames := 0, cells := 0, slots := 0, locals := 0 } s m args below meth c H locs 0 0 (MQ below (Qi D cy A r ws) args s 0 0 A) (F0 m 39 ls []) := by
  obtain ⟨⟨hx, hb, hml, hown, hts⟩, hK, hT, hA, hlk⟩ := id C
  unfold b_X7_fraction_39 at h
  refine lv_iload_n hx hb dX7_fraction_39 rfl (lv_at hl 3 rfl) ?_
  refine lv_if_ne (tgt := 45) hx hb dX7_fraction_40 (by decide) (fun q1 => ?_) (fun q1 => ?_)
  · have h := ifn q1 h
    refine lv_iload_n hx hb dX7_fraction_45 rfl (lv_at hl 2 rfl) ?_
    refine lv_if_eq (tgt := 55) hx hb dX7_fraction_46 (by decide) (fun q2 => ?_) (fun q2 => ?_)
    · have h := ifp q2 h
      refine lv_iload_n hx hb dX7_fraction_55 rfl (lv_at hl 1 rfl) ?_
      refine lv_iload_n hx hb dX7_fraction_56 rfl (lv_at hl 3 rfl) ?_
      obtain ⟨g3, h⟩ := dv_some h
      refine lv_idiv hx hb dX7_fraction_57 g3 ?_
      have z1 := so_inj h
      subst z1
      exact x_iret C hr hP hD hS dX7_fraction_58
    · have h := ifn q2 h
      refine lv_iload_n hx hb dX7_fraction_49 rfl (lv_at hl 0 rfl) ?_
      refine lv_iload_n hx hb dX7_fraction_50 rfl (lv_at hl 3 rfl) ?_
      obtain ⟨g4, h⟩ := dv_some h
      refine lv_idiv hx hb dX7_fraction_51 g4 ?_
      refine lv_goto (tgt := 58) hx hb dX7_fraction_52 (by decide) ?_
      have z1 := so_inj h
      subst z1
      exact x_iret C hr hP hD hS dX7_fraction_58
  · have h := ifp q1 h
    refine lv_iconst (v := 0) hx hb dX7_fraction_43 (by decide) ?_
    have z1 := so_inj h
    subst z1
    exact x_iret C hr hP hD hS dX7_fraction_44
set_option maxHeartbeats 4000000 in
set_option maxRecDepth 100000 in
theorem w_X7_fraction_8 (C : Cx p s m args meth c D cy tT tF A cX7_fraction 7 RX7) (hr : meth.sig.returnType = some .int) {r : Int32} : ∀ (n : Nat) (v0 : Int32) (v1 : Int32) (v2 : Int32) (v3 : Int32) (v4 : Int32) (v5 : Int32), b_X7_fraction_8 n v0 v1 v2 v3 v4 v5 = some r → ∀ (H : Heap) (locs : List Loc) (hP : va_P D vwCl ws H) (hD : va_D A ws) (hS : va_S A s.heap H locs) (ls : Array Slot) (hl : lv_has ls 7 [(0, .int v0), (1, .int v1), (2, .int v2), (3, .int v3), (4, .int v4), (5, .int v5)]), W p l e { frames := 0, cells := 0, slots := 0, locals := 0 } s m args below meth c H locs 0 0 (MQ below (Qi D cy A r ws) args s 0 0 A) (F0 m 8 ls []) := by
  obtain ⟨⟨hx, hb, hml, hown, hts⟩, hK, hT, hA, hlk⟩ := id C
  intro n
  induction n with
  | zero =>
    intro v0 v1 v2 v3 v4 v5 h
    exact no_some h
  | succ n ih =>
    intro v0 v1 v2 v3 v4 v5 h H locs hP hD hS ls hl
    rw [b_X7_fraction_8] at h
    refine lv_iload hx hb dX7_fraction_8 (lv_at hl 5 rfl) ?_
    refine lv_bipush (v := 64) hx hb dX7_fraction_10 (by decide) ?_
    refine lv_icmp_ge (tgt := 39) hx hb dX7_fraction_12 (by decide) (fun q1 => ?_) (fun q1 => ?_)
    · have h := ifp q1 h
      exact w_X7_fraction_39 C hr v0 v1 v2 v3 h H locs hP hD hS ls (lv_sub hl [0, 1, 2, 3] rfl)
    · have h := ifn q1 h
      refine lv_iload hx hb dX7_fraction_15 (lv_at hl 4 rfl) ?_
      refine lv_if_eq (tgt := 39) hx hb dX7_fraction_17 (by decide) (fun q2 => ?_) (fun q2 => ?_)
      · have h := ifp q2 h
        exact w_X7_fraction_39 C hr v0 v1 v2 v3 h H locs hP hD hS ls (lv_sub hl [0, 1, 2, 3] rfl)
      · have h := ifn q2 h
        refine lv_iload_n hx hb dX7_fraction_20 rfl (lv_at hl 3 rfl) ?_
        refine lv_iload hx hb dX7_fraction_21 (lv_at hl 4 rfl) ?_
        obtain ⟨g3, h⟩ := dv_some h
        refine lv_irem hx hb dX7_fraction_23 g3 ?_
        obtain ⟨x4, ex4, h⟩ := lt_some h
        refine x_ti ex4 ?_
        refine lv_istore (lv' := [(6, .int x4), (0, .int v0), (1, .int v1), (2, .int v2), (3, .int v3), (4, .int v4), (5, .int v5)]) hx hb dX7_fraction_24 hl (by decide) rfl (fun ls hl => ?_)
        refine lv_iload hx hb dX7_fraction_26 (lv_at hl 5 rfl) ?_
        refine lv_istore_n (lv' := [(3, .int v4), (6, .int x4), (0, .int v0), (1, .int v1), (2, .int v2), (4, .int v4), (5, .int v5)]) hx hb dX7_fraction_28 rfl hl (by decide) rfl (fun ls hl => ?_)
        refine lv_iload hx hb dX7_fraction_29 (lv_at hl 1 rfl) ?_
        refine lv_istore (lv' := [(4, .int x4), (3, .int v4), (6, .int x4), (0, .int v0), (1, .int v1), (2, .int v2), (5, .int v5)]) hx hb dX7_fraction_31 hl (by decide) rfl (fun ls hl => ?_)
        obtain ⟨x5, ex5, h⟩ := lt_some h
        refine lv_iinc (v := x5) (lv' := [(5, .int x5), (4, .int x4), (3, .int v4), (6, .int x4), (0, .int v0), (1, .int v1), (2, .int v2)]) hx hb dX7_fraction_33 hl (k := 6) rfl (by rw [ex5]; rfl) (by decide) rfl (fun ls hl => ?_)
        refine lv_goto (tgt := 8) hx hb dX7_fraction_36 (by decide) ?_
        exact ih v0 v1 v2 v4 x4 x5 h H locs hP hD hS ls (lv_sub hl [4, 5, 6, 2, 1, 0] rfl)
set_option maxHeartbeats 4000000 in
set_option maxRecDepth 100000 in
theorem w_X7_fraction_0 (C : Cx p s m args meth c D cy tT tF A cX7_fraction 7 RX7) (hr : meth.sig.returnType = some .int) {r : Int32} (a0 : Int32) (a1 : Int32) (a2 : Int32) (h : b_X7_fraction_0 a0 a1 a2 = some r) (H : Heap) (locs : List Loc) (hP : va_P D vwCl ws H) (hD : va_D A ws) (hS : va_S A s.heap H locs) (ls : Array Slot) (hl : lv_has ls 7 [(0, .int a0), (1, .int a1), (2, .int a2)]) : W p l e { frames := 0, cells := 0, slots := 0, locals := 0 } s m args below meth c H locs 0 0 (MQ below (Qi D cy A r ws) args s 0 0 A) (F0 m 0 ls []) := by
  obtain ⟨⟨hx, hb, hml, hown, hts⟩, hK, hT, hA, hlk⟩ := id C
  unfold b_X7_fraction_0 at h
  refine lv_iload_n hx hb dX7_fraction_0 rfl (lv_at hl 1 rfl) ?_
  refine lv_istore_n (lv' := [(3, .int a1), (0, .int a0), (1, .int a1), (2, .int a2)]) hx hb dX7_fraction_1 rfl hl (by decide) rfl (fun ls hl => ?_)
  refine lv_iload_n hx hb dX7_fraction_2 rfl (lv_at hl 1 rfl) ?_
  refine lv_istore (lv' := [(4, .int a0), (3, .int a1), (0, .int a0), (1, .int a1), (2, .int a2)]) hx hb dX7_fraction_3 hl (by decide) rfl (fun ls hl => ?_)
  refine lv_iconst (v := 0) hx hb dX7_fraction_5 (by decide) ?_
  refine lv_istore (lv' := [(5, .int (0 : Int32)), (4, .int a0), (3, .int a1), (0, .int a0), (1, .int a1), (2, .int a2)]) hx hb dX7_fraction_6 hl (by decide) rfl (fun ls hl => ?_)
  exact w_X7_fraction_8 C hr FU a0 a1 a2 a1 a0 (0 : Int32) h H locs hP hD hS ls (lv_sub hl [3, 4, 5, 2, 1, 0] rfl)
theorem c_X7_fraction {l : Launch} {D : va_G} {cy : Nat → ClassId} {tT tF : Nat} {ws : va_W} {a0 : Int32} {a1 : Int32} {a2 : Int32} {r : Int32} (h : e_X7_fraction a0 a1 a2 = some r) : CMi l yX7_fraction (Cond.code yX7_fraction cX7_fraction 7 (some .int) :: wsL_law) { frames := 0, cells := 0, slots := 0, locals := 0 } D cy tT tF [.int a0, .int a1, .int a2] ws r ws := x_start (Qc := fun A => (Qi D cy A r ws)) (by decide) (Nat.le_of_ble_eq_true rfl) (fun p e s m below meth c A ls C hr hP hD hS hl => w_X7_fraction_0 C hr a0 a1 a2 h s.heap [] hP hD hS ls hl)
set_option maxHeartbeats 4000000 in
set_option maxRecDepth 100000 in
theorem w_X7_share_0_0 (C : Cx p s m args meth c D cy tT tF A cX7_share 3 RX7) (hr : meth.sig.returnType = some .int) {r : Int32} {σ' : ES} (a1 : Int32) (a2 : Int32) (σ : ES) (h : b_X7_share_0_0 a1 a2 σ = some (r, σ')) (H : Heap) (locs : List Loc) (hP : va_P D vwCl (xw cy ad σ) H) (hD : va_D A (xw cy ad σ)) (hS : va_S A s.heap H locs) (ls : Array Slot) (hl : lv_has ls 3 [(0, .ref (ad 0)), (1, .int a1), (2, .int a2)]) : W p l e { frames := 10, cells := 0, slots := 0, locals := 292 } s m args below meth c H locs 0 0 (MQ below (Qi D cy A r (xw cy ad σ')) args s 0 0 A) (F0 m 0 ls []) := by
  obtain ⟨⟨hx, hb, hml, hown, hts⟩, hK, hT, hA, hlk⟩ := id C
  unfold b_X7_share_0_0 at h
  refine lv_aload_n hx hb dX7_share_0 rfl (lv_at hl 0 rfl) ?_
  refine x_get C hP inlX7 0 xw_0 rfl 9 (by decide) mw2_21 rfl dX7_share_1 ?_
  refine lv_iload_n hx hb dX7_share_4 rfl (lv_at hl 1 rfl) ?_
  obtain ⟨r2, g1, h⟩ := cl_some h
  refine x_callVi (rest := []) C hP hD hS (c_X3_hasGuest_30 g1) (cwV 1 hts (gV mw14_0 mw14_1 mw14_2 mw2_20 mw14_3) rfl rfl rfl hdV_X3_hasGuest ⟨Nat.le_of_ble_eq_true rfl, Nat.le_of_ble_eq_true rfl⟩) xw_30 rfl rfl hl.1 rfl (Nat.le_of_ble_eq_true rfl) dX7_share_5 ⟨Nat.zero_le _, Nat.zero_le _⟩ (fun H locs hP hD hS => ?_)
  refine lv_if_ne (tgt := 13) hx hb dX7_share_8 (by decide) (fun q3 => ?_) (fun q3 => ?_)
  · have h := ifn q3 h
    refine lv_aload_n hx hb dX7_share_13 rfl (lv_at hl 0 rfl) ?_
    refine x_get C hP inlX7 0 xw_0 rfl 4 (by decide) mw2_5 rfl dX7_share_14 ?_
    refine lv_aload_n hx hb dX7_share_17 rfl (lv_at hl 0 rfl) ?_
    refine x_get C hP inlX7 0 xw_0 rfl 9 (by decide) mw2_21 rfl dX7_share_18 ?_
    refine lv_aload_n hx hb dX7_share_21 rfl (lv_at hl 0 rfl) ?_
    refine x_get C hP inlX7 0 xw_0 rfl 1 (by decide) mw1_20 rfl dX7_share_22 ?_
    obtain ⟨σ5, g4, h⟩ := cl_some h
    refine x_callVv (rest := []) C hP hD hS (c_X4_work_15_30_3 g4) (cwV 2 hts (gV mw19_16 mw19_17 mw19_18 mw2_4 mw19_19) rfl rfl rfl hdV_X4_work ⟨Nat.le_of_ble_eq_true rfl, Nat.le_of_ble_eq_true rfl⟩) xw_15 rfl rfl hl.1 rfl (Nat.le_of_ble_eq_true rfl) dX7_share_25 ⟨Nat.zero_le _, Nat.zero_le _⟩ (fun H locs hP hD hS => ?_)
    refine lv_aload_n hx hb dX7_share_28 rfl (lv_at hl 0 rfl) ?_
    refine x_get C hP inlX7 0 xw_0 rfl 4 (by decide) mw2_5 rfl dX7_share_29 ?_
    obtain ⟨r7, g6, h⟩ := cl_some h
    refine x_callVi (rest := []) C hP hD hS (c_X4_costForAll_15 g6) (cwV 0 hts (gV mw21_20 mw21_21 mw21_22 mw2_4 mw21_23) rfl rfl rfl hdV_X4_costForAll ⟨Nat.le_of_ble_eq_true rfl, Nat.le_of_ble_eq_true rfl⟩) xw_15 rfl rfl hl.1 rfl (Nat.le_of_ble_eq_true rfl) dX7_share_32 ⟨Nat.zero_le _, Nat.zero_le _⟩ (fun H locs hP hD hS => ?_)
    refine lv_bipush (v := -9) hx hb dX7_share_35 (by decide) ?_
    refine lv_icmp_ne (tgt := 43) hx hb dX7_share_37 (by decide) (fun q8 => ?_) (fun q8 => ?_)
    · have h := ifn q8 h
      refine lv_aload_n hx hb dX7_share_43 rfl (lv_at hl 0 rfl) ?_
      refine x_get C hP inlX7 0 xw_0 rfl 4 (by decide) mw2_5 rfl dX7_share_44 ?_
      refine lv_iload_n hx hb dX7_share_47 rfl (lv_at hl 1 rfl) ?_
      obtain ⟨r10, g9, h⟩ := cl_some h
      refine x_callVi (rest := []) C hP hD hS (c_X4_sharesOf_15 g9) (cwV 1 hts (gV mw24_9 mw24_10 mw24_11 mw2_4 mw24_12) rfl rfl rfl hdV_X4_sharesOf ⟨Nat.le_of_ble_eq_true rfl, Nat.le_of_ble_eq_true rfl⟩) xw_15 rfl rfl hl.1 rfl (Nat.le_of_ble_eq_true rfl) dX7_share_48 ⟨Nat.zero_le _, Nat.zero_le _⟩ (fun H locs hP hD hS => ?_)
      refine x_facs C hS mw24_8 dX7_share_51 ?_
      refine lv_aload_n hx hb dX7_share_54 rfl (lv_at hl 0 rfl) ?_
      refine x_get C hP inlX7 0 xw_0 rfl 9 (by decide) mw2_21 rfl dX7_share_55 ?_
      refine x_get C hP inlX3 30 xw_30 rfl 10 (by decide) mw11_12 rfl dX7_share_58 ?_
      obtain ⟨g11, x12, ex12, h⟩ := rt_some h
      refine x_fld C hS g11 ex12 dX7_share_61 ?_
      refine lv_iload_n hx hb dX7_share_62 rfl (lv_at hl 2 rfl) ?_
      obtain ⟨r14, g13, h⟩ := cl_some h
      refine x_callSi (rest := []) C hP hD hS (c_X7_fraction g13) (va_cwS 3 hts (gS mw24_14 mw24_15 mw1_2 mw24_16) rfl rfl rfl hdS_X7_fraction ⟨Nat.le_of_ble_eq_true rfl, Nat.le_of_ble_eq_true rfl⟩) rfl hl.1 rfl (Nat.le_of_ble_eq_true rfl) dX7_share_63 ⟨Nat.zero_le _, Nat.zero_le _⟩ (fun H locs hP hD hS => ?_)
      obtain ⟨z1, z2⟩ := pr_inj h
      subst z1
      subst z2
      exact x_iret C hr hP hD hS dX7_share_66
    · have h := ifp q8 h
      refine lv_bipush (v := -3) hx hb dX7_share_40 (by decide) ?_
      obtain ⟨z1, z2⟩ := pr_inj h
      subst z1
      subst z2
      exact x_iret C hr hP hD hS dX7_share_42
  · have h := ifp q3 h
    refine lv_iconst (v := -1) hx hb dX7_share_11 (by decide) ?_
    obtain ⟨z1, z2⟩ := pr_inj h
    subst z1
    subst z2
    exact x_iret C hr hP hD hS dX7_share_12
theorem c_X7_share_0 {l : Launch} {D : va_G} {cy : Nat → ClassId} {tT tF : Nat} {ad : Nat → Nat} {σ : ES} {a1 : Int32} {a2 : Int32} {r : Int32} {σ' : ES} (h : e_X7_share_0 a1 a2 σ = some (r, σ')) : CMi l yX7_share (Cond.code yX7_share cX7_share 3 (some .int) :: wsL_law) { frames := 10, cells := 0, slots := 0, locals := 292 } D cy tT tF [.ref (ad 0), .int a1, .int a2] (xw cy ad σ) r (xw cy ad σ') := x_start (Qc := fun A => (Qi D cy A r (xw cy ad σ'))) (by decide) (Nat.le_of_ble_eq_true rfl) (fun p e s m below meth c A ls C hr hP hD hS hl => w_X7_share_0_0 C hr a1 a2 σ h s.heap [] hP hD hS ls hl)
set_option maxHeartbeats 4000000 in
set_option maxRecDepth 100000 in
theorem w_X7_giftsTogether_0_5 (C : Cx p s m args meth c D cy tT tF A cX7_giftsTogether 5 RX7) (hr : meth.sig.returnType = some .int) {r : Int32} {σ : ES} : ∀ (n : Nat) (v1 : Int32) (v2 : Int32) (v3 : Int32) (v4 : Int32), b_X7_giftsTogether_0_5 σ n v1 v2 v3 v4 = some r → ∀ (H : Heap) (locs : List Loc) (hP : va_P D vwCl (xw cy ad σ) H) (hD : va_D A (xw cy ad σ)) (hS : va_S A s.heap H locs) (ls : Array Slot) (hl : lv_has ls 5 [(0, .ref (ad 0)), (1, .int v1), (2, .int v2), (3, .int v3), (4, .int v4)]), W p l e { frames := 2, cells := 0, slots := 0, locals := 45 } s m args below meth c H locs 0 0 (MQ below (Qi D cy A r (xw cy ad σ)) args s 0 0 A) (F0 m 5 ls []) := by
  obtain ⟨⟨hx, hb, hml, hown, hts⟩, hK, hT, hA, hlk⟩ := id C
  intro n
  induction n with
  | zero =>
    intro v1 v2 v3 v4 h
    exact no_some h
  | succ n ih =>
    intro v1 v2 v3 v4 h H locs hP hD hS ls hl
    rw [b_X7_giftsTogether_0_5] at h
    refine lv_iload hx hb dX7_giftsTogether_5 (lv_at hl 4 rfl) ?_
    refine lv_bipush (v := 6) hx hb dX7_giftsTogether_7 (by decide) ?_
    refine lv_icmp_ge (tgt := 53) hx hb dX7_giftsTogether_9 (by decide) (fun q1 => ?_) (fun q1 => ?_)
    · have h := ifp q1 h
      refine lv_iload_n hx hb dX7_giftsTogether_53 rfl (lv_at hl 3 rfl) ?_
      have z1 := so_inj h
      subst z1
      exact x_iret C hr hP hD hS dX7_giftsTogether_54
    · have h := ifn q1 h
      refine lv_iload_n hx hb dX7_giftsTogether_12 rfl (lv_at hl 3 rfl) ?_
      refine lv_aload_n hx hb dX7_giftsTogether_13 rfl (lv_at hl 0 rfl) ?_
      refine x_get C hP inlX7 0 xw_0 rfl 1 (by decide) mw1_20 rfl dX7_giftsTogether_14 ?_
      refine lv_aload_n hx hb dX7_giftsTogether_17 rfl (lv_at hl 0 rfl) ?_
      refine x_get C hP inlX7 0 xw_0 rfl 9 (by decide) mw2_21 rfl dX7_giftsTogether_18 ?_
      refine lv_iload_n hx hb dX7_giftsTogether_21 rfl (lv_at hl 1 rfl) ?_
      refine lv_iload hx hb dX7_giftsTogether_22 (lv_at hl 4 rfl) ?_
      obtain ⟨r3, g2, h⟩ := cl_some h
      refine x_callVi (rest := [.int v3]) C hP hD hS (c_X2_giftBit_3_30 g2) (cwV 3 hts (gV mw25_14 mw17_22 mw17_23 mw1_19 mw18_0) rfl rfl rfl hdV_X2_giftBit ⟨Nat.le_of_ble_eq_true rfl, Nat.le_of_ble_eq_true rfl⟩) xw_3 rfl rfl hl.1 rfl (Nat.le_of_ble_eq_true rfl) dX7_giftsTogether_24 ⟨Nat.zero_le _, Nat.zero_le _⟩ (fun H locs hP hD hS => ?_)
      refine lv_aload_n hx hb dX7_giftsTogether_27 rfl (lv_at hl 0 rfl) ?_
      refine x_get C hP inlX7 0 xw_0 rfl 1 (by decide) mw1_20 rfl dX7_giftsTogether_28 ?_
      refine lv_aload_n hx hb dX7_giftsTogether_31 rfl (lv_at hl 0 rfl) ?_
      refine x_get C hP inlX7 0 xw_0 rfl 9 (by decide) mw2_21 rfl dX7_giftsTogether_32 ?_
      refine lv_iload_n hx hb dX7_giftsTogether_35 rfl (lv_at hl 2 rfl) ?_
      refine lv_iload hx hb dX7_giftsTogether_36 (lv_at hl 4 rfl) ?_
      obtain ⟨r5, g4, h⟩ := cl_some h
      refine x_callVi (rest := [.int r3, .int v3]) C hP hD hS (c_X2_giftBit_3_30 g4) (cwV 3 hts (gV mw25_14 mw17_22 mw17_23 mw1_19 mw18_0) rfl rfl rfl hdV_X2_giftBit ⟨Nat.le_of_ble_eq_true rfl, Nat.le_of_ble_eq_true rfl⟩) xw_3 rfl rfl hl.1 rfl (Nat.le_of_ble_eq_true rfl) dX7_giftsTogether_38 ⟨Nat.zero_le _, Nat.zero_le _⟩ (fun H locs hP hD hS => ?_)
      refine lv_ior hx hb dX7_giftsTogether_41 ?_
      obtain ⟨r7, g6, h⟩ := cl_some h
      refine x_callSi (rest := [.int v3]) C hP hD hS (c_J6_bitCount g6) (va_cwS 1 hts (gS mw15_19 mw15_20 mw15_21 mw15_22) rfl rfl rfl hdS_J6_bitCount ⟨Nat.le_of_ble_eq_true rfl, Nat.le_of_ble_eq_true rfl⟩) rfl hl.1 rfl (Nat.le_of_ble_eq_true rfl) dX7_giftsTogether_42 ⟨Nat.zero_le _, Nat.zero_le _⟩ (fun H locs hP hD hS => ?_)
      refine lv_iadd hx hb dX7_giftsTogether_45 ?_
      obtain ⟨x8, ex8, h⟩ := lt_some h
      refine x_ti ex8 ?_
      refine lv_istore_n (lv' := [(3, .int x8), (0, .ref (ad 0)), (1, .int v1), (2, .int v2), (4, .int v4)]) hx hb dX7_giftsTogether_46 rfl hl (by decide) rfl (fun ls hl => ?_)
      obtain ⟨x9, ex9, h⟩ := lt_some h
      refine lv_iinc (v := x9) (lv' := [(4, .int x9), (3, .int x8), (0, .ref (ad 0)), (1, .int v1), (2, .int v2)]) hx hb dX7_giftsTogether_47 hl (k := 4) rfl (by rw [ex9]; rfl) (by decide) rfl (fun ls hl => ?_)
      refine lv_goto (tgt := 5) hx hb dX7_giftsTogether_50 (by decide) ?_
      exact ih v1 v2 x8 x9 h H locs hP hD hS ls (lv_sub hl [2, 3, 4, 1, 0] rfl)
set_option maxHeartbeats 4000000 in
set_option maxRecDepth 100000 in
theorem w_X7_giftsTogether_0_0 (C : Cx p s m args meth c D cy tT tF A cX7_giftsTogether 5 RX7) (hr : meth.sig.returnType = some .int) {r : Int32} {σ : ES} (a1 : Int32) (a2 : Int32) (h : b_X7_giftsTogether_0_0 σ a1 a2 = some r) (H : Heap) (locs : List Loc) (hP : va_P D vwCl (xw cy ad σ) H) (hD : va_D A (xw cy ad σ)) (hS : va_S A s.heap H locs) (ls : Array Slot) (hl : lv_has ls 5 [(0, .ref (ad 0)), (1, .int a1), (2, .int a2)]) : W p l e { frames := 2, cells := 0, slots := 0, locals := 45 } s m args below meth c H locs 0 0 (MQ below (Qi D cy A r (xw cy ad σ)) args s 0 0 A) (F0 m 0 ls []) := by
  obtain ⟨⟨hx, hb, hml, hown, hts⟩, hK, hT, hA, hlk⟩ := id C
  unfold b_X7_giftsTogether_0_0 at h
  refine lv_iconst (v := 0) hx hb dX7_giftsTogether_0 (by decide) ?_
  refine lv_istore_n (lv' := [(3, .int (0 : Int32)), (0, .ref (ad 0)), (1, .int a1), (2, .int a2)]) hx hb dX7_giftsTogether_1 rfl hl (by decide) rfl (fun ls hl => ?_)
  refine lv_iconst (v := 0) hx hb dX7_giftsTogether_2 (by decide) ?_
  refine lv_istore (lv' := [(4, .int (0 : Int32)), (3, .int (0 : Int32)), (0, .ref (ad 0)), (1, .int a1), (2, .int a2)]) hx hb dX7_giftsTogether_3 hl (by decide) rfl (fun ls hl => ?_)
  exact w_X7_giftsTogether_0_5 C hr FU a1 a2 (0 : Int32) (0 : Int32) h H locs hP hD hS ls (lv_sub hl [2, 3, 4, 1, 0] rfl)
theorem c_X7_giftsTogether_0 {l : Launch} {D : va_G} {cy : Nat → ClassId} {tT tF : Nat} {ad : Nat → Nat} {a1 : Int32} {a2 : Int32} {r : Int32} {σ : ES} (h : e_X7_giftsTogether_0 a1 a2 σ = some r) : CMi l yX7_giftsTogether (Cond.code yX7_giftsTogether cX7_giftsTogether 5 (some .int) :: wsL_law) { frames := 2, cells := 0, slots := 0, locals := 45 } D cy tT tF [.ref (ad 0), .int a1, .int a2] (xw cy ad σ) r (xw cy ad σ) := x_start (Qc := fun A => (Qi D cy A r (xw cy ad σ))) (by decide) (Nat.le_of_ble_eq_true rfl) (fun p e s m below meth c A ls C hr hP hD hS hl => w_X7_giftsTogether_0_0 C hr a1 a2 h s.heap [] hP hD hS ls hl)
set_option maxHeartbeats 4000000 in
set_option maxRecDepth 100000 in
theorem w_X7_table_0_0 (C : Cx p s m args meth c D cy tT tF A cX7_table 3 RX7) (hr : meth.sig.returnType = some .int) {r : Int32} {σ : ES} (a1 : Int32) (a2 : Int32) (h : b_X7_table_0_0 σ a1 a2 = some r) (H : Heap) (locs : List Loc) (hP : va_P D vwCl (xw cy ad σ) H) (hD : va_D A (xw cy ad σ)) (hS : va_S A s.heap H locs) (ls : Array Slot) (hl : lv_has ls 3 [(0, .ref (ad 0)), (1, .int a1), (2, .int a2)]) : W p l e { frames := 3, cells := 0, slots := 0, locals := 69 } s m args below meth c H locs 0 0 (MQ below (Qi D cy A r (xw cy ad σ)) args s 0 0 A) (F0 m 0 ls []) := by
  obtain ⟨⟨hx, hb, hml, hown, hts⟩, hK, hT, hA, hlk⟩ := id C
  unfold b_X7_table_0_0 at h
  refine lv_aload_n hx hb dX7_table_0 rfl (lv_at hl 0 rfl) ?_
  refine x_get C hP inlX7 0 xw_0 rfl 9 (by decide) mw2_21 rfl dX7_table_1 ?_
  refine lv_iload_n hx hb dX7_table_4 rfl (lv_at hl 1 rfl) ?_
  obtain ⟨r2, g1, h⟩ := cl_some h
  refine x_callVi (rest := []) C hP hD hS (c_X3_hasCandle_30 g1) (cwV 1 hts (gV mw13_3 mw13_4 mw13_5 mw2_20 mw13_6) rfl rfl rfl hdV_X3_hasCandle ⟨Nat.le_of_ble_eq_true rfl, Nat.le_of_ble_eq_true rfl⟩) xw_30 rfl rfl hl.1 rfl (Nat.le_of_ble_eq_true rfl) dX7_table_5 ⟨Nat.zero_le _, Nat.zero_le _⟩ (fun H locs hP hD hS => ?_)
  refine lv_if_eq (tgt := 22) hx hb dX7_table_8 (by decide) (fun q3 => ?_) (fun q3 => ?_)
  · have h := ifp q3 h
    refine lv_iconst (v := -1) hx hb dX7_table_22 (by decide) ?_
    have z1 := so_inj h
    subst z1
    exact x_iret C hr hP hD hS dX7_table_23
  · have h := ifn q3 h
    refine lv_aload_n hx hb dX7_table_11 rfl (lv_at hl 0 rfl) ?_
    refine x_get C hP inlX7 0 xw_0 rfl 9 (by decide) mw2_21 rfl dX7_table_12 ?_
    refine lv_iload_n hx hb dX7_table_15 rfl (lv_at hl 2 rfl) ?_
    obtain ⟨r5, g4, h⟩ := cl_some h
    refine x_callVi (rest := []) C hP hD hS (c_X3_hasCandle_30 g4) (cwV 1 hts (gV mw13_3 mw13_4 mw13_5 mw2_20 mw13_6) rfl rfl rfl hdV_X3_hasCandle ⟨Nat.le_of_ble_eq_true rfl, Nat.le_of_ble_eq_true rfl⟩) xw_30 rfl rfl hl.1 rfl (Nat.le_of_ble_eq_true rfl) dX7_table_16 ⟨Nat.zero_le _, Nat.zero_le _⟩ (fun H locs hP hD hS => ?_)
    refine lv_if_ne (tgt := 24) hx hb dX7_table_19 (by decide) (fun q6 => ?_) (fun q6 => ?_)
    · have h := ifn q6 h
      refine lv_iload_n hx hb dX7_table_24 rfl (lv_at hl 1 rfl) ?_
      refine lv_iload_n hx hb dX7_table_25 rfl (lv_at hl 2 rfl) ?_
      refine lv_icmp_ne (tgt := 34) hx hb dX7_table_26 (by decide) (fun q7 => ?_) (fun q7 => ?_)
      · have h := ifn q7 h
        refine lv_aload_n hx hb dX7_table_34 rfl (lv_at hl 0 rfl) ?_
        refine lv_iload_n hx hb dX7_table_35 rfl (lv_at hl 1 rfl) ?_
        refine lv_iload_n hx hb dX7_table_36 rfl (lv_at hl 2 rfl) ?_
        obtain ⟨r9, g8, h⟩ := cl_some h
        refine x_callVi (rest := []) C hP hD hS (c_X7_giftsTogether_0 g8) (cwV 2 hts (gV mw25_10 mw25_11 mw25_12 mw1_2 mw25_13) rfl rfl rfl hdV_X7_giftsTogether ⟨Nat.le_of_ble_eq_true rfl, Nat.le_of_ble_eq_true rfl⟩) xw_0 rfl rfl hl.1 rfl (Nat.le_of_ble_eq_true rfl) dX7_table_37 ⟨Nat.zero_le _, Nat.zero_le _⟩ (fun H locs hP hD hS => ?_)
        have z1 := so_inj h
        subst z1
        exact x_iret C hr hP hD hS dX7_table_40
      · have h := ifp q7 h
        refine lv_bipush (v := -2) hx hb dX7_table_29 (by decide) ?_
        refine lv_goto (tgt := 40) hx hb dX7_table_31 (by decide) ?_
        have z1 := so_inj h
        subst z1
        exact x_iret C hr hP hD hS dX7_table_40
    · have h := ifp q6 h
      refine lv_iconst (v := -1) hx hb dX7_table_22 (by decide) ?_
      have z1 := so_inj h
      subst z1
      exact x_iret C hr hP hD hS dX7_table_23
theorem c_X7_table_0 {l : Launch} {D : va_G} {cy : Nat → ClassId} {tT tF : Nat} {ad : Nat → Nat} {a1 : Int32} {a2 : Int32} {r : Int32} {σ : ES} (h : e_X7_table_0 a1 a2 σ = some r) : CMi l yX7_table (Cond.code yX7_table cX7_table 3 (some .int) :: wsL_law) { frames := 3, cells := 0, slots := 0, locals := 69 } D cy tT tF [.ref (ad 0), .int a1, .int a2] (xw cy ad σ) r (xw cy ad σ) := x_start (Qc := fun A => (Qi D cy A r (xw cy ad σ))) (by decide) (Nat.le_of_ble_eq_true rfl) (fun p e s m below meth c A ls C hr hP hD hS hl => w_X7_table_0_0 C hr a1 a2 h s.heap [] hP hD hS ls hl)
set_option maxHeartbeats 4000000 in
set_option maxRecDepth 100000 in
theorem w_J6_numberOfLeadingZeros_61 (C : Cx p s m args meth c D cy tT tF A cJ6_numberOfLeadingZeros_0f7a4 2 RJ6) (hr : meth.sig.returnType = some .int) {r : Int32} (v0 : Int32) (v1 : Int32) (h : b_J6_numberOfLeadingZeros_61 v0 v1 = some r) (H : Heap) (locs : List Loc) (hP : va_P D vwCl ws H) (hD : va_D A ws) (hS : va_S A s.heap H locs) (ls : Array Slot) (hl : lv_has ls 2 [(0, .int v0), (1, .int v1)]) : W p l e { frames := 0, cells := 0, slots := 0, locals := 0 } s m args below meth c H locs 0 0 (MQ below (Qi D cy A r ws) args s 0 0 A) (F0 m 61 ls []) := by
  obtain ⟨⟨hx, hb, hml, hown, hts⟩, hK, hT, hA, hlk⟩ := id C
  unfold b_J6_numberOfLeadingZeros_61 at h
  refine lv_iload_n hx hb dJ6_numberOfLeadingZeros_0f7a4_61 rfl (lv_at hl 0 rfl) ?_
  refine lv_iconst (v := 4) hx hb dJ6_numberOfLeadingZeros_0f7a4_62 (by decide) ?_
  refine lv_icmp_lt (tgt := 73) hx hb dJ6_numberOfLeadingZeros_0f7a4_63 (by decide) (fun q1 => ?_) (fun q1 => ?_)
  · have h := ifp q1 h
    refine lv_iload_n hx hb dJ6_numberOfLeadingZeros_0f7a4_73 rfl (lv_at hl 1 rfl) ?_
    refine lv_iload_n hx hb dJ6_numberOfLeadingZeros_0f7a4_74 rfl (lv_at hl 0 rfl) ?_
    refine lv_iconst (v := 1) hx hb dJ6_numberOfLeadingZeros_0f7a4_75 (by decide) ?_
    refine lv_iushr hx hb dJ6_numberOfLeadingZeros_0f7a4_76 rfl ?_
    refine lv_isub hx hb dJ6_numberOfLeadingZeros_0f7a4_77 ?_
    have z1 := so_inj h
    subst z1
    exact x_iret C hr hP hD hS dJ6_numberOfLeadingZeros_0f7a4_78
  · have h := ifn q1 h
    obtain ⟨x2, ex2, h⟩ := lt_some h
    refine lv_iinc (v := x2) (lv' := [(1, .int x2), (0, .int v0)]) hx hb dJ6_numberOfLeadingZeros_0f7a4_66 hl (k := 1) rfl (by rw [ex2]; rfl) (by decide) rfl (fun ls hl => ?_)
    refine lv_iload_n hx hb dJ6_numberOfLeadingZeros_0f7a4_69 rfl (lv_at hl 1 rfl) ?_
    refine lv_iconst (v := 2) hx hb dJ6_numberOfLeadingZeros_0f7a4_70 (by decide) ?_
    refine lv_iushr hx hb dJ6_numberOfLeadingZeros_0f7a4_71 rfl ?_
    obtain ⟨x3, ex3, h⟩ := lt_some h
    refine x_ti ex3 ?_
    refine lv_istore_n (lv' := [(0, .int x3), (1, .int x2)]) hx hb dJ6_numberOfLeadingZeros_0f7a4_72 rfl hl (by decide) rfl (fun ls hl => ?_)
    refine lv_iload_n hx hb dJ6_numberOfLeadingZeros_0f7a4_73 rfl (lv_at hl 1 rfl) ?_
    refine lv_iload_n hx hb dJ6_numberOfLeadingZeros_0f7a4_74 rfl (lv_at hl 0 rfl) ?_
    refine lv_iconst (v := 1) hx hb dJ6_numberOfLeadingZeros_0f7a4_75 (by decide) ?_
    refine lv_iushr hx hb dJ6_numberOfLeadingZeros_0f7a4_76 rfl ?_
    refine lv_isub hx hb dJ6_numberOfLeadingZeros_0f7a4_77 ?_
    have z1 := so_inj h
    subst z1
    exact x_iret C hr hP hD hS dJ6_numberOfLeadingZeros_0f7a4_78
set_option maxHeartbeats 4000000 in
set_option maxRecDepth 100000 in
theorem w_J6_numberOfLeadingZeros_48 (C : Cx p s m args meth c D cy tT tF A cJ6_numberOfLeadingZeros_0f7a4 2 RJ6) (hr : meth.sig.returnType = some .int) {r : Int32} (v0 : Int32) (v1 : Int32) (h : b_J6_numberOfLeadingZeros_48 v0 v1 = some r) (H : Heap) (locs : List Loc) (hP : va_P D vwCl ws H) (hD : va_D A ws) (hS : va_S A s.heap H locs) (ls : Array Slot) (hl : lv_has ls 2 [(0, .int v0), (1, .int v1)]) : W p l e { frames := 0, cells := 0, slots := 0, locals := 0 } s m args below meth c H locs 0 0 (MQ below (Qi D cy A r ws) args s 0 0 A) (F0 m 48 ls []) := by
  obtain ⟨⟨hx, hb, hml, hown, hts⟩, hK, hT, hA, hlk⟩ := id C
  unfold b_J6_numberOfLeadingZeros_48 at h
  refine lv_iload_n hx hb dJ6_numberOfLeadingZeros_0f7a4_48 rfl (lv_at hl 0 rfl) ?_
  refine lv_bipush (v := 16) hx hb dJ6_numberOfLeadingZeros_0f7a4_49 (by decide) ?_
  refine lv_icmp_lt (tgt := 61) hx hb dJ6_numberOfLeadingZeros_0f7a4_51 (by decide) (fun q1 => ?_) (fun q1 => ?_)
  · have h := ifp q1 h
    exact w_J6_numberOfLeadingZeros_61 C hr v0 v1 h H locs hP hD hS ls (lv_sub hl [0, 1] rfl)
  · have h := ifn q1 h
    obtain ⟨x2, ex2, h⟩ := lt_some h
    refine lv_iinc (v := x2) (lv' := [(1, .int x2), (0, .int v0)]) hx hb dJ6_numberOfLeadingZeros_0f7a4_54 hl (k := 1) rfl (by rw [ex2]; rfl) (by decide) rfl (fun ls hl => ?_)
    refine lv_iload_n hx hb dJ6_numberOfLeadingZeros_0f7a4_57 rfl (lv_at hl 1 rfl) ?_
    refine lv_iconst (v := 4) hx hb dJ6_numberOfLeadingZeros_0f7a4_58 (by decide) ?_
    refine lv_iushr hx hb dJ6_numberOfLeadingZeros_0f7a4_59 rfl ?_
    obtain ⟨x3, ex3, h⟩ := lt_some h
    refine x_ti ex3 ?_
    refine lv_istore_n (lv' := [(0, .int x3), (1, .int x2)]) hx hb dJ6_numberOfLeadingZeros_0f7a4_60 rfl hl (by decide) rfl (fun ls hl => ?_)
    exact w_J6_numberOfLeadingZeros_61 C hr x3 x2 h H locs hP hD hS ls (lv_sub hl [0, 1] rfl)
set_option maxHeartbeats 4000000 in
set_option maxRecDepth 100000 in
theorem w_J6_numberOfLeadingZeros_33 (C : Cx p s m args meth c D cy tT tF A cJ6_numberOfLeadingZeros_0f7a4 2 RJ6) (hr : meth.sig.returnType = some .int) {r : Int32} (v0 : Int32) (v1 : Int32) (h : b_J6_numberOfLeadingZeros_33 v0 v1 = some r) (H : Heap) (locs : List Loc) (hP : va_P D vwCl ws H) (hD : va_D A ws) (hS : va_S A s.heap H locs) (ls : Array Slot) (hl : lv_has ls 2 [(0, .int v0), (1, .int v1)]) : W p l e { frames := 0, cells := 0, slots := 0, locals := 0 } s m args below meth c H locs 0 0 (MQ below (Qi D cy A r ws) args s 0 0 A) (F0 m 33 ls []) := by
  obtain ⟨⟨hx, hb, hml, hown, hts⟩, hK, hT, hA, hlk⟩ := id C
  unfold b_J6_numberOfLeadingZeros_33 at h
  refine lv_iload_n hx hb dJ6_numberOfLeadingZeros_0f7a4_33 rfl (lv_at hl 0 rfl) ?_
  refine lv_sipush (v := 256) hx hb dJ6_numberOfLeadingZeros_0f7a4_34 (by decide) ?_
  refine lv_icmp_lt (tgt := 48) hx hb dJ6_numberOfLeadingZeros_0f7a4_37 (by decide) (fun q1 => ?_) (fun q1 => ?_)
  · have h := ifp q1 h
    exact w_J6_numberOfLeadingZeros_48 C hr v0 v1 h H locs hP hD hS ls (lv_sub hl [0, 1] rfl)
  · have h := ifn q1 h
    obtain ⟨x2, ex2, h⟩ := lt_some h
    refine lv_iinc (v := x2) (lv' := [(1, .int x2), (0, .int v0)]) hx hb dJ6_numberOfLeadingZeros_0f7a4_40 hl (k := 1) rfl (by rw [ex2]; rfl) (by decide) rfl (fun ls hl => ?_)
    refine lv_iload_n hx hb dJ6_numberOfLeadingZeros_0f7a4_43 rfl (lv_at hl 1 rfl) ?_
    refine lv_bipush (v := 8) hx hb dJ6_numberOfLeadingZeros_0f7a4_44 (by decide) ?_
    refine lv_iushr hx hb dJ6_numberOfLeadingZeros_0f7a4_46 rfl ?_
    obtain ⟨x3, ex3, h⟩ := lt_some h
    refine x_ti ex3 ?_
    refine lv_istore_n (lv' := [(0, .int x3), (1, .int x2)]) hx hb dJ6_numberOfLeadingZeros_0f7a4_47 rfl hl (by decide) rfl (fun ls hl => ?_)
    exact w_J6_numberOfLeadingZeros_48 C hr x3 x2 h H locs hP hD hS ls (lv_sub hl [0, 1] rfl)
set_option maxHeartbeats 4000000 in
set_option maxRecDepth 100000 in
theorem w_J6_numberOfLeadingZeros_0 (C : Cx p s m args meth c D cy tT tF A cJ6_numberOfLeadingZeros_0f7a4 2 RJ6) (hr : meth.sig.returnType = some .int) {r : Int32} (a0 : Int32) (h : b_J6_numberOfLeadingZeros_0 a0 = some r) (H : Heap) (locs : List Loc) (hP : va_P D vwCl ws H) (hD : va_D A ws) (hS : va_S A s.heap H locs) (ls : Array Slot) (hl : lv_has ls 2 [(0, .int a0)]) : W p l e { frames := 0, cells := 0, slots := 0, locals := 0 } s m args below meth c H locs 0 0 (MQ below (Qi D cy A r ws) args s 0 0 A) (F0 m 0 ls []) := by
  obtain ⟨⟨hx, hb, hml, hown, hts⟩, hK, hT, hA, hlk⟩ := id C
  unfold b_J6_numberOfLeadingZeros_0 at h
  refine lv_iload_n hx hb dJ6_numberOfLeadingZeros_0f7a4_0 rfl (lv_at hl 0 rfl) ?_
  refine lv_if_gt (tgt := 15) hx hb dJ6_numberOfLeadingZeros_0f7a4_1 (by decide) (fun q1 => ?_) (fun q1 => ?_)
  · have h := ifp q1 h
    refine lv_bipush (v := 31) hx hb dJ6_numberOfLeadingZeros_0f7a4_15 (by decide) ?_
    refine lv_istore_n (lv' := [(1, .int (31 : Int32)), (0, .int a0)]) hx hb dJ6_numberOfLeadingZeros_0f7a4_17 rfl hl (by decide) rfl (fun ls hl => ?_)
    refine lv_iload_n hx hb dJ6_numberOfLeadingZeros_0f7a4_18 rfl (lv_at hl 1 rfl) ?_
    refine lv_ldcw (v := 65536) hx hb hown (hts _ mw20_20) dJ6_numberOfLeadingZeros_0f7a4_19 ?_
    refine lv_icmp_lt (tgt := 33) hx hb dJ6_numberOfLeadingZeros_0f7a4_22 (by decide) (fun q2 => ?_) (fun q2 => ?_)
    · have h := ifp q2 h
      exact w_J6_numberOfLeadingZeros_33 C hr a0 (31 : Int32) h H locs hP hD hS ls (lv_sub hl [1, 0] rfl)
    · have h := ifn q2 h
      obtain ⟨x3, ex3, h⟩ := lt_some h
      refine lv_iinc (v := x3) (lv' := [(1, .int x3), (0, .int a0)]) hx hb dJ6_numberOfLeadingZeros_0f7a4_25 hl (k := 0) rfl (by rw [ex3]; rfl) (by decide) rfl (fun ls hl => ?_)
      refine lv_iload_n hx hb dJ6_numberOfLeadingZeros_0f7a4_28 rfl (lv_at hl 1 rfl) ?_
      refine lv_bipush (v := 16) hx hb dJ6_numberOfLeadingZeros_0f7a4_29 (by decide) ?_
      refine lv_iushr hx hb dJ6_numberOfLeadingZeros_0f7a4_31 rfl ?_
      obtain ⟨x4, ex4, h⟩ := lt_some h
      refine x_ti ex4 ?_
      refine lv_istore_n (lv' := [(0, .int x4), (1, .int x3)]) hx hb dJ6_numberOfLeadingZeros_0f7a4_32 rfl hl (by decide) rfl (fun ls hl => ?_)
      exact w_J6_numberOfLeadingZeros_33 C hr x4 x3 h H locs hP hD hS ls (lv_sub hl [0, 1] rfl)
  · have h := ifn q1 h
    refine lv_iload_n hx hb dJ6_numberOfLeadingZeros_0f7a4_4 rfl (lv_at hl 0 rfl) ?_
    refine lv_if_ne (tgt := 13) hx hb dJ6_numberOfLeadingZeros_0f7a4_5 (by decide) (fun q5 => ?_) (fun q5 => ?_)
    · have h := ifn q5 h
      refine lv_iconst (v := 0) hx hb dJ6_numberOfLeadingZeros_0f7a4_13 (by decide) ?_
      have z1 := so_inj h
      subst z1
      exact x_iret C hr hP hD hS dJ6_numberOfLeadingZeros_0f7a4_14
    · have h := ifp q5 h
      refine lv_bipush (v := 32) hx hb dJ6_numberOfLeadingZeros_0f7a4_8 (by decide) ?_
      refine lv_goto (tgt := 14) hx hb dJ6_numberOfLeadingZeros_0f7a4_10 (by decide) ?_
      have z1 := so_inj h
      subst z1
      exact x_iret C hr hP hD hS dJ6_numberOfLeadingZeros_0f7a4_14
theorem c_J6_numberOfLeadingZeros {l : Launch} {D : va_G} {cy : Nat → ClassId} {tT tF : Nat} {ws : va_W} {a0 : Int32} {r : Int32} (h : e_J6_numberOfLeadingZeros a0 = some r) : CMi l yJ6_numberOfLeadingZeros_0f7a4 (Cond.code yJ6_numberOfLeadingZeros_0f7a4 cJ6_numberOfLeadingZeros_0f7a4 2 (some .int) :: wsL_law) { frames := 0, cells := 0, slots := 0, locals := 0 } D cy tT tF [.int a0] ws r ws := x_start (Qc := fun A => (Qi D cy A r ws)) (by decide) (Nat.le_of_ble_eq_true rfl) (fun p e s m below meth c A ls C hr hP hD hS hl => w_J6_numberOfLeadingZeros_0 C hr a0 h s.heap [] hP hD hS ls hl)
set_option maxHeartbeats 4000000 in
set_option maxRecDepth 100000 in
theorem w_X7_mostOfPairs_0_12 (C : Cx p s m args meth c D cy tT tF A cX7_mostOfPairs 8 RX7) (hr : meth.sig.returnType = some .int) {r : Int32} {σ : ES} : ∀ (n : Nat) (v1 : Int32) (v2 : Int32) (v3 : Int32) (v4 : Int32), b_X7_mostOfPairs_0_12 σ n v1 v2 v3 v4 = some r → ∀ (H : Heap) (locs : List Loc) (hP : va_P D vwCl (xw cy ad σ) H) (hD : va_D A (xw cy ad σ)) (hS : va_S A s.heap H locs) (ls : Array Slot) (hl : lv_has ls 8 [(0, .ref (ad 0)), (1, .int v1), (2, .int v2), (3, .int v3), (4, .int v4)]), W p l e { frames := 3, cells := 0, slots := 0, locals := 69 } s m args below meth c H locs 0 0 (MQ below (Qi D cy A r (xw cy ad σ)) args s 0 0 A) (F0 m 12 ls []) := by
  obtain ⟨⟨hx, hb, hml, hown, hts⟩, hK, hT, hA, hlk⟩ := id C
  intro n
  induction n with
  | zero =>
    intro v1 v2 v3 v4 h
    exact no_some h
  | succ n ih =>
    intro v1 v2 v3 v4 h H locs hP hD hS ls hl
    rw [b_X7_mostOfPairs_0_12] at h
    refine lv_iload hx hb dX7_mostOfPairs_12 (lv_at hl 4 rfl) ?_
    refine lv_iconst (v := 4) hx hb dX7_mostOfPairs_14 (by decide) ?_
    refine lv_icmp_gt (tgt := 88) hx hb dX7_mostOfPairs_15 (by decide) (fun q1 => ?_) (fun q1 => ?_)
    · have h := ifp q1 h
      refine lv_iload_n hx hb dX7_mostOfPairs_88 rfl (lv_at hl 3 rfl) ?_
      have z1 := so_inj h
      subst z1
      exact x_iret C hr hP hD hS dX7_mostOfPairs_89
    · have h := ifn q1 h
      refine lv_iload_n hx hb dX7_mostOfPairs_18 rfl (lv_at hl 1 rfl) ?_
      refine lv_iload hx hb dX7_mostOfPairs_19 (lv_at hl 4 rfl) ?_
      refine lv_ishr hx hb dX7_mostOfPairs_21 ?_
      refine lv_iconst (v := 1) hx hb dX7_mostOfPairs_22 (by decide) ?_
      refine lv_iand hx hb dX7_mostOfPairs_23 ?_
      refine lv_iconst (v := 1) hx hb dX7_mostOfPairs_24 (by decide) ?_
      refine lv_icmp_ne (tgt := 82) hx hb dX7_mostOfPairs_25 (by decide) (fun q2 => ?_) (fun q2 => ?_)
      · have h := ifn q2 h
        obtain ⟨x3, ex3, h⟩ := lt_some h
        refine lv_iinc (v := x3) (lv' := [(4, .int x3), (0, .ref (ad 0)), (1, .int v1), (2, .int v2), (3, .int v3)]) hx hb dX7_mostOfPairs_82 hl (k := 4) rfl (by rw [ex3]; rfl) (by decide) rfl (fun ls hl => ?_)
        refine lv_goto (tgt := 12) hx hb dX7_mostOfPairs_85 (by decide) ?_
        exact ih v1 v2 v3 x3 h H locs hP hD hS ls (lv_sub hl [1, 2, 3, 4, 0] rfl)
      · have h := ifp q2 h
        refine lv_iload_n hx hb dX7_mostOfPairs_28 rfl (lv_at hl 1 rfl) ?_
        refine lv_iconst (v := 1) hx hb dX7_mostOfPairs_29 (by decide) ?_
        refine lv_iload_n hx hb dX7_mostOfPairs_30 rfl (lv_at hl 2 rfl) ?_
        refine lv_ishl hx hb dX7_mostOfPairs_31 ?_
        refine lv_iconst (v := -1) hx hb dX7_mostOfPairs_32 (by decide) ?_
        refine lv_ixor hx hb dX7_mostOfPairs_33 ?_
        refine lv_iand hx hb dX7_mostOfPairs_34 ?_
        refine lv_iconst (v := 1) hx hb dX7_mostOfPairs_35 (by decide) ?_
        refine lv_iload hx hb dX7_mostOfPairs_36 (lv_at hl 4 rfl) ?_
        refine lv_ishl hx hb dX7_mostOfPairs_38 ?_
        refine lv_iconst (v := -1) hx hb dX7_mostOfPairs_39 (by decide) ?_
        refine lv_ixor hx hb dX7_mostOfPairs_40 ?_
        refine lv_iand hx hb dX7_mostOfPairs_41 ?_
        obtain ⟨x4, ex4, h⟩ := lt_some h
        refine x_ti ex4 ?_
        refine lv_istore (lv' := [(5, .int x4), (0, .ref (ad 0)), (1, .int v1), (2, .int v2), (3, .int v3), (4, .int v4)]) hx hb dX7_mostOfPairs_42 hl (by decide) rfl (fun ls hl => ?_)
        refine lv_iload hx hb dX7_mostOfPairs_44 (lv_at hl 0 rfl) ?_
        obtain ⟨r6, g5, h⟩ := cl_some h
        refine x_callSi (rest := []) C hP hD hS (c_J6_numberOfTrailingZeros g5) (va_cwS 1 hts (gS mw26_14 mw20_18 mw15_21 mw20_19) rfl rfl rfl hdS_J6_numberOfTrailingZeros ⟨Nat.le_of_ble_eq_true rfl, Nat.le_of_ble_eq_true rfl⟩) rfl hl.1 rfl (Nat.le_of_ble_eq_true rfl) dX7_mostOfPairs_46 ⟨Nat.zero_le _, Nat.zero_le _⟩ (fun H locs hP hD hS => ?_)
        refine lv_istore (lv' := [(6, .int r6), (5, .int x4), (0, .ref (ad 0)), (1, .int v1), (2, .int v2), (3, .int v3), (4, .int v4)]) hx hb dX7_mostOfPairs_49 hl (by decide) rfl (fun ls hl => ?_)
        refine lv_bipush (v := 31) hx hb dX7_mostOfPairs_51 (by decide) ?_
        refine lv_iload hx hb dX7_mostOfPairs_53 (lv_at hl 1 rfl) ?_
        obtain ⟨r8, g7, h⟩ := cl_some h
        refine x_callSi (rest := [.int (31 : Int32)]) C hP hD hS (c_J6_numberOfLeadingZeros g7) (va_cwS 1 hts (gS mw26_15 mw26_16 mw15_21 mw26_17) rfl rfl rfl hdS_J6_numberOfLeadingZeros ⟨Nat.le_of_ble_eq_true rfl, Nat.le_of_ble_eq_true rfl⟩) rfl hl.1 rfl (Nat.le_of_ble_eq_true rfl) dX7_mostOfPairs_55 ⟨Nat.zero_le _, Nat.zero_le _⟩ (fun H locs hP hD hS => ?_)
        refine lv_isub hx hb dX7_mostOfPairs_58 ?_
        obtain ⟨x9, ex9, h⟩ := lt_some h
        refine x_ti ex9 ?_
        refine lv_istore (lv' := [(7, .int x9), (6, .int r6), (5, .int x4), (0, .ref (ad 0)), (1, .int v1), (2, .int v2), (3, .int v3), (4, .int v4)]) hx hb dX7_mostOfPairs_59 hl (by decide) rfl (fun ls hl => ?_)
        refine lv_iload_n hx hb dX7_mostOfPairs_61 rfl (lv_at hl 6 rfl) ?_
        refine lv_aload_n hx hb dX7_mostOfPairs_62 rfl (lv_at hl 3 rfl) ?_
        refine lv_iload_n hx hb dX7_mostOfPairs_63 rfl (lv_at hl 5 rfl) ?_
        refine lv_iload hx hb dX7_mostOfPairs_64 (lv_at hl 7 rfl) ?_
        obtain ⟨r11, g10, h⟩ := cl_some h
        refine x_callVi (rest := [.int v3]) C hP hD hS (c_X7_giftsTogether_0 g10) (cwV 2 hts (gV mw25_10 mw25_11 mw25_12 mw1_2 mw25_13) rfl rfl rfl hdV_X7_giftsTogether ⟨Nat.le_of_ble_eq_true rfl, Nat.le_of_ble_eq_true rfl⟩) xw_0 rfl rfl hl.1 rfl (Nat.le_of_ble_eq_true rfl) dX7_mostOfPairs_66 ⟨Nat.zero_le _, Nat.zero_le _⟩ (fun H locs hP hD hS => ?_)
        refine lv_aload_n hx hb dX7_mostOfPairs_69 rfl (lv_at hl 3 rfl) ?_
        refine lv_iload hx hb dX7_mostOfPairs_70 (lv_at hl 1 rfl) ?_
        refine lv_iload hx hb dX7_mostOfPairs_72 (lv_at hl 0 rfl) ?_
        obtain ⟨r13, g12, h⟩ := cl_some h
        refine x_callVi (rest := [.int r11, .int v3]) C hP hD hS (c_X7_giftsTogether_0 g12) (cwV 2 hts (gV mw25_10 mw25_11 mw25_12 mw1_2 mw25_13) rfl rfl rfl hdV_X7_giftsTogether ⟨Nat.le_of_ble_eq_true rfl, Nat.le_of_ble_eq_true rfl⟩) xw_0 rfl rfl hl.1 rfl (Nat.le_of_ble_eq_true rfl) dX7_mostOfPairs_74 ⟨Nat.zero_le _, Nat.zero_le _⟩ (fun H locs hP hD hS => ?_)
        refine lv_iadd hx hb dX7_mostOfPairs_77 ?_
        refine x_max C hl.1 mw26_11 mw26_12 mw9_11 mw26_13 (Nat.le_of_ble_eq_true rfl) (Nat.le_of_ble_eq_true rfl) ⟨Nat.zero_le _, Nat.zero_le _⟩ dX7_mostOfPairs_78 ?_
        obtain ⟨x14, ex14, h⟩ := lt_some h
        refine x_ti ex14 ?_
        refine lv_istore_n (lv' := [(3, .int x14), (7, .int x9), (6, .int r6), (5, .int x4), (0, .ref (ad 0)), (1, .int v1), (2, .int v2), (4, .int v4)]) hx hb dX7_mostOfPairs_81 rfl hl (by decide) rfl (fun ls hl => ?_)
        obtain ⟨x15, ex15, h⟩ := lt_some h
        refine lv_iinc (v := x15) (lv' := [(4, .int x15), (3, .int x14), (7, .int x9), (6, .int r6), (5, .int x4), (0, .ref (ad 0)), (1, .int v1), (2, .int v2)]) hx hb dX7_mostOfPairs_82 hl (k := 7) rfl (by rw [ex15]; rfl) (by decide) rfl (fun ls hl => ?_)
        refine lv_goto (tgt := 12) hx hb dX7_mostOfPairs_85 (by decide) ?_
        exact ih v1 v2 x14 x15 h H locs hP hD hS ls (lv_sub hl [5, 6, 7, 1, 0] rfl)
set_option maxHeartbeats 4000000 in
set_option maxRecDepth 100000 in
theorem w_X7_mostOfPairs_0_0 (C : Cx p s m args meth c D cy tT tF A cX7_mostOfPairs 8 RX7) (hr : meth.sig.returnType = some .int) {r : Int32} {σ : ES} (a1 : Int32) (h : b_X7_mostOfPairs_0_0 σ a1 = some r) (H : Heap) (locs : List Loc) (hP : va_P D vwCl (xw cy ad σ) H) (hD : va_D A (xw cy ad σ)) (hS : va_S A s.heap H locs) (ls : Array Slot) (hl : lv_has ls 8 [(0, .ref (ad 0)), (1, .int a1)]) : W p l e { frames := 3, cells := 0, slots := 0, locals := 69 } s m args below meth c H locs 0 0 (MQ below (Qi D cy A r (xw cy ad σ)) args s 0 0 A) (F0 m 0 ls []) := by
  obtain ⟨⟨hx, hb, hml, hown, hts⟩, hK, hT, hA, hlk⟩ := id C
  unfold b_X7_mostOfPairs_0_0 at h
  refine lv_iload_n hx hb dX7_mostOfPairs_0 rfl (lv_at hl 1 rfl) ?_
  obtain ⟨r2, g1, h⟩ := cl_some h
  refine x_callSi (rest := []) C hP hD hS (c_J6_numberOfTrailingZeros g1) (va_cwS 1 hts (gS mw26_14 mw20_18 mw15_21 mw20_19) rfl rfl rfl hdS_J6_numberOfTrailingZeros ⟨Nat.le_of_ble_eq_true rfl, Nat.le_of_ble_eq_true rfl⟩) rfl hl.1 rfl (Nat.le_of_ble_eq_true rfl) dX7_mostOfPairs_1 ⟨Nat.zero_le _, Nat.zero_le _⟩ (fun H locs hP hD hS => ?_)
  refine lv_istore_n (lv' := [(2, .int r2), (0, .ref (ad 0)), (1, .int a1)]) hx hb dX7_mostOfPairs_4 rfl hl (by decide) rfl (fun ls hl => ?_)
  refine lv_iconst (v := 0) hx hb dX7_mostOfPairs_5 (by decide) ?_
  refine lv_istore_n (lv' := [(3, .int (0 : Int32)), (2, .int r2), (0, .ref (ad 0)), (1, .int a1)]) hx hb dX7_mostOfPairs_6 rfl hl (by decide) rfl (fun ls hl => ?_)
  refine lv_iload_n hx hb dX7_mostOfPairs_7 rfl (lv_at hl 1 rfl) ?_
  refine lv_iconst (v := 1) hx hb dX7_mostOfPairs_8 (by decide) ?_
  refine lv_iadd hx hb dX7_mostOfPairs_9 ?_
  obtain ⟨x3, ex3, h⟩ := lt_some h
  refine x_ti ex3 ?_
  refine lv_istore (lv' := [(4, .int x3), (3, .int (0 : Int32)), (2, .int r2), (0, .ref (ad 0)), (1, .int a1)]) hx hb dX7_mostOfPairs_10 hl (by decide) rfl (fun ls hl => ?_)
  exact w_X7_mostOfPairs_0_12 C hr FU a1 r2 (0 : Int32) x3 h H locs hP hD hS ls (lv_sub hl [3, 4, 2, 1, 0] rfl)
theorem c_X7_mostOfPairs_0 {l : Launch} {D : va_G} {cy : Nat → ClassId} {tT tF : Nat} {ad : Nat → Nat} {a1 : Int32} {r : Int32} {σ : ES} (h : e_X7_mostOfPairs_0 a1 σ = some r) : CMi l yX7_mostOfPairs (Cond.code yX7_mostOfPairs cX7_mostOfPairs 8 (some .int) :: wsL_law) { frames := 3, cells := 0, slots := 0, locals := 69 } D cy tT tF [.ref (ad 0), .int a1] (xw cy ad σ) r (xw cy ad σ) := x_start (Qc := fun A => (Qi D cy A r (xw cy ad σ))) (by decide) (Nat.le_of_ble_eq_true rfl) (fun p e s m below meth c A ls C hr hP hD hS hl => w_X7_mostOfPairs_0_0 C hr a1 h s.heap [] hP hD hS ls hl)
set_option maxHeartbeats 4000000 in
set_option maxRecDepth 100000 in
theorem w_X7_pairs_0_0 (C : Cx p s m args meth c D cy tT tF A cX7_pairs 2 RX7) (hr : meth.sig.returnType = some .int) {r : Int32} {σ : ES} (h : b_X7_pairs_0_0 σ  = some r) (H : Heap) (locs : List Loc) (hP : va_P D vwCl (xw cy ad σ) H) (hD : va_D A (xw cy ad σ)) (hS : va_S A s.heap H locs) (ls : Array Slot) (hl : lv_has ls 2 [(0, .ref (ad 0))]) : W p l e { frames := 4, cells := 0, slots := 0, locals := 96 } s m args below meth c H locs 0 0 (MQ below (Qi D cy A r (xw cy ad σ)) args s 0 0 A) (F0 m 0 ls []) := by
  obtain ⟨⟨hx, hb, hml, hown, hts⟩, hK, hT, hA, hlk⟩ := id C
  unfold b_X7_pairs_0_0 at h
  refine lv_aload_n hx hb dX7_pairs_0 rfl (lv_at hl 0 rfl) ?_
  refine x_get C hP inlX7 0 xw_0 rfl 1 (by decide) mw1_20 rfl dX7_pairs_1 ?_
  refine lv_aload_n hx hb dX7_pairs_4 rfl (lv_at hl 0 rfl) ?_
  refine x_get C hP inlX7 0 xw_0 rfl 9 (by decide) mw2_21 rfl dX7_pairs_5 ?_
  refine lv_iconst (v := 0) hx hb dX7_pairs_8 (by decide) ?_
  obtain ⟨r2, g1, h⟩ := cl_some h
  refine x_callVi (rest := []) C hP hD hS (c_X2_withFlame_3_30 g1) (cwV 2 hts (gV mw15_14 mw15_15 mw15_16 mw1_19 mw15_17) rfl rfl rfl hdV_X2_withFlame ⟨Nat.le_of_ble_eq_true rfl, Nat.le_of_ble_eq_true rfl⟩) xw_3 rfl rfl hl.1 rfl (Nat.le_of_ble_eq_true rfl) dX7_pairs_9 ⟨Nat.zero_le _, Nat.zero_le _⟩ (fun H locs hP hD hS => ?_)
  refine lv_istore_n (lv' := [(1, .int r2), (0, .ref (ad 0))]) hx hb dX7_pairs_12 rfl hl (by decide) rfl (fun ls hl => ?_)
  refine lv_iload_n hx hb dX7_pairs_13 rfl (lv_at hl 0 rfl) ?_
  obtain ⟨r4, g3, h⟩ := cl_some h
  refine x_callSi (rest := []) C hP hD hS (c_J6_bitCount g3) (va_cwS 1 hts (gS mw15_19 mw15_20 mw15_21 mw15_22) rfl rfl rfl hdS_J6_bitCount ⟨Nat.le_of_ble_eq_true rfl, Nat.le_of_ble_eq_true rfl⟩) rfl hl.1 rfl (Nat.le_of_ble_eq_true rfl) dX7_pairs_14 ⟨Nat.zero_le _, Nat.zero_le _⟩ (fun H locs hP hD hS => ?_)
  refine lv_iconst (v := 2) hx hb dX7_pairs_17 (by decide) ?_
  refine lv_irem hx hb dX7_pairs_18 (by decide) ?_
  refine lv_if_ne (tgt := 30) hx hb dX7_pairs_19 (by decide) (fun q5 => ?_) (fun q5 => ?_)
  · have h := ifn q5 h
    refine lv_aload_n hx hb dX7_pairs_30 rfl (lv_at hl 1 rfl) ?_
    refine lv_iload_n hx hb dX7_pairs_31 rfl (lv_at hl 0 rfl) ?_
    refine lv_bipush (v := 16) hx hb dX7_pairs_32 (by decide) ?_
    refine lv_ior hx hb dX7_pairs_34 ?_
    obtain ⟨r7, g6, h⟩ := cl_some h
    refine x_callVi (rest := []) C hP hD hS (c_X7_mostOfPairs_0 g6) (cwV 1 hts (gV mw26_7 mw26_8 mw26_9 mw1_2 mw26_10) rfl rfl rfl hdV_X7_mostOfPairs ⟨Nat.le_of_ble_eq_true rfl, Nat.le_of_ble_eq_true rfl⟩) xw_0 rfl rfl hl.1 rfl (Nat.le_of_ble_eq_true rfl) dX7_pairs_35 ⟨Nat.zero_le _, Nat.zero_le _⟩ (fun H locs hP hD hS => ?_)
    have z1 := so_inj h
    subst z1
    exact x_iret C hr hP hD hS dX7_pairs_38
  · have h := ifp q5 h
    refine lv_aload_n hx hb dX7_pairs_22 rfl (lv_at hl 1 rfl) ?_
    refine lv_iload_n hx hb dX7_pairs_23 rfl (lv_at hl 0 rfl) ?_
    obtain ⟨r9, g8, h⟩ := cl_some h
    refine x_callVi (rest := []) C hP hD hS (c_X7_mostOfPairs_0 g8) (cwV 1 hts (gV mw26_7 mw26_8 mw26_9 mw1_2 mw26_10) rfl rfl rfl hdV_X7_mostOfPairs ⟨Nat.le_of_ble_eq_true rfl, Nat.le_of_ble_eq_true rfl⟩) xw_0 rfl rfl hl.1 rfl (Nat.le_of_ble_eq_true rfl) dX7_pairs_24 ⟨Nat.zero_le _, Nat.zero_le _⟩ (fun H locs hP hD hS => ?_)
    refine lv_goto (tgt := 38) hx hb dX7_pairs_27 (by decide) ?_
    have z1 := so_inj h
    subst z1
    exact x_iret C hr hP hD hS dX7_pairs_38
theorem c_X7_pairs_0 {l : Launch} {D : va_G} {cy : Nat → ClassId} {tT tF : Nat} {ad : Nat → Nat} {r : Int32} {σ : ES} (h : e_X7_pairs_0  σ = some r) : CMi l yX7_pairs (Cond.code yX7_pairs cX7_pairs 2 (some .int) :: wsL_law) { frames := 4, cells := 0, slots := 0, locals := 96 } D cy tT tF [.ref (ad 0)] (xw cy ad σ) r (xw cy ad σ) := x_start (Qc := fun A => (Qi D cy A r (xw cy ad σ))) (by decide) (Nat.le_of_ble_eq_true rfl) (fun p e s m below meth c A ls C hr hP hD hS hl => w_X7_pairs_0_0 C hr  h s.heap [] hP hD hS ls hl)
end WK9

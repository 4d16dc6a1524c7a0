section WK5
variable {p : Program} {l : Launch} {e : Env} {R : Room} {s : State} {m : MethodId} {args : Array Value} {below : List Frame} {meth : Method} {c : Code} {D : va_G} {cy : Nat → ClassId} {tT tF : Nat} {A : Nat → Prop} {ad : Nat → Nat} {ws : va_W}
set_option maxHeartbeats 4000000 in
set_option maxRecDepth 100000 in
theorem w_X8_draught_68 (C : Cx p s m args meth c D cy tT tF A cX8_draught 8 RX8) (hr : meth.sig.returnType = some .int) {r : Int32} {σ : ES} : ∀ (n : Nat) (v1 : Int32) (v2 : Int32) (v3 : Int32) (v4 : Int32) (v5 : Int32) (v6 : Int32) (v7 : Int32), b_X8_draught_68 σ n v1 v2 v3 v4 v5 v6 v7 = some r → ∀ (H : Heap) (locs : List Loc) (hP : va_P D vwCl (mw cy ad σ) H) (hD : va_D A (mw cy ad σ)) (hS : va_S A s.heap H locs) (ls : Array Slot) (hl : lv_has ls 8 [(0, .ref (ad 0)), (1, .int v1), (2, .int v2), (3, .int v3), (4, .int v4), (5, .int v5), (6, .int v6), (7, .int v7)]), W p l e { frames := 2, cells := 0, slots := 0, locals := 46 } s m args below meth c H locs 0 0 (MQ below (Qi D cy A r (mw cy ad σ)) args s 0 0 A) (F0 m 68 ls []) := by
  obtain ⟨⟨hx, hb, hml, hown, hts⟩, hK, hT, hA, hlk⟩ := id C
  intro n
  induction n with
  | zero =>
    intro v1 v2 v3 v4 v5 v6 v7 h
    exact no_some h
  | succ n ih =>
    intro v1 v2 v3 v4 v5 v6 v7 h H locs hP hD hS ls hl
    rw [b_X8_draught_68] at h
    refine lv_iload hx hb dX8_draught_68 (lv_at hl 7 rfl) ?_
    refine lv_iload hx hb dX8_draught_70 (lv_at hl 5 rfl) ?_
    refine lv_icmp_ge (tgt := 132) hx hb dX8_draught_72 (by decide) (fun q1 => ?_) (fun q1 => ?_)
    · have h := ifp q1 h
      refine lv_iload hx hb dX8_draught_132 (lv_at hl 6 rfl) ?_
      refine lv_bipush (v := 10) hx hb dX8_draught_134 (by decide) ?_
      refine lv_iload hx hb dX8_draught_136 (lv_at hl 5 rfl) ?_
      obtain ⟨r3, g2, h⟩ := cl_some h
      refine x_callSi (rest := [.int v6]) C hP hD hS (c_X8_power g2) (va_cwS 2 hts (gS mw22_15 mw22_16 mw1_5 mw22_17) rfl rfl rfl hdS_X8_power ⟨Nat.le_of_ble_eq_true rfl, Nat.le_of_ble_eq_true rfl⟩) rfl hl.1 rfl (Nat.le_of_ble_eq_true rfl) dX8_draught_138 ⟨Nat.zero_le _, Nat.zero_le _⟩ (fun H locs hP hD hS => ?_)
      obtain ⟨r5, g4, h⟩ := cl_some h
      refine x_callSi (rest := []) C hP hD hS (c_X8_common g4) (va_cwS 2 hts (gS mw25_3 mw25_4 mw1_5 mw25_5) rfl rfl rfl hdS_X8_common ⟨Nat.le_of_ble_eq_true rfl, Nat.le_of_ble_eq_true rfl⟩) rfl hl.1 rfl (Nat.le_of_ble_eq_true rfl) dX8_draught_141 ⟨Nat.zero_le _, Nat.zero_le _⟩ (fun H locs hP hD hS => ?_)
      refine lv_istore (lv' := [(7, .int r5), (0, .ref (ad 0)), (1, .int v1), (2, .int v2), (3, .int v3), (4, .int v4), (5, .int v5), (6, .int v6)]) hx hb dX8_draught_144 hl (by decide) rfl (fun ls hl => ?_)
      refine lv_iload hx hb dX8_draught_146 (lv_at hl 5 rfl) ?_
      refine lv_if_eq (tgt := 159) hx hb dX8_draught_148 (by decide) (fun q6 => ?_) (fun q6 => ?_)
      · have h := ifp q6 h
        refine lv_bipush (v := 10) hx hb dX8_draught_159 (by decide) ?_
        refine lv_iload hx hb dX8_draught_161 (lv_at hl 6 rfl) ?_
        obtain ⟨r8, g7, h⟩ := cl_some h
        refine x_callSi (rest := []) C hP hD hS (c_X8_power g7) (va_cwS 2 hts (gS mw22_15 mw22_16 mw1_5 mw22_17) rfl rfl rfl hdS_X8_power ⟨Nat.le_of_ble_eq_true rfl, Nat.le_of_ble_eq_true rfl⟩) rfl hl.1 rfl (Nat.le_of_ble_eq_true rfl) dX8_draught_163 ⟨Nat.zero_le _, Nat.zero_le _⟩ (fun H locs hP hD hS => ?_)
        refine lv_iload hx hb dX8_draught_166 (lv_at hl 0 rfl) ?_
        obtain ⟨g9, h⟩ := dv_some h
        refine lv_idiv hx hb dX8_draught_168 g9 ?_
        have z1 := so_inj h
        subst z1
        exact x_iret C hr hP hD hS dX8_draught_169
      · have h := ifn q6 h
        refine lv_iload hx hb dX8_draught_151 (lv_at hl 7 rfl) ?_
        refine lv_iload hx hb dX8_draught_153 (lv_at hl 0 rfl) ?_
        obtain ⟨g10, h⟩ := dv_some h
        refine lv_idiv hx hb dX8_draught_155 g10 ?_
        refine lv_goto (tgt := 169) hx hb dX8_draught_156 (by decide) ?_
        have z1 := so_inj h
        subst z1
        exact x_iret C hr hP hD hS dX8_draught_169
    · have h := ifn q1 h
      refine lv_iload hx hb dX8_draught_75 (lv_at hl 6 rfl) ?_
      refine lv_aload_n hx hb dX8_draught_77 rfl (lv_at hl 0 rfl) ?_
      refine x_get C hP inlX8 0 mw_0 rfl 3 (by decide) mw5_22 rfl dX8_draught_78 ?_
      refine lv_aload_n hx hb dX8_draught_81 rfl (lv_at hl 0 rfl) ?_
      refine x_get C hP inlX8 0 mw_0 rfl 11 (by decide) mw6_6 rfl dX8_draught_82 ?_
      refine lv_iload_n hx hb dX8_draught_85 rfl (lv_at hl 1 rfl) ?_
      obtain ⟨g11, x12, ex12, h⟩ := rd_some h
      refine x_ild C hP 9 mw_9 g11 ex12 dX8_draught_86 ?_
      refine lv_iload hx hb dX8_draught_87 (lv_at hl 7 rfl) ?_
      refine lv_iadd hx hb dX8_draught_89 ?_
      obtain ⟨g13, x14, ex14, h⟩ := rd_some h
      refine x_ild C hP 1 mw_1 g13 ex14 dX8_draught_90 ?_
      refine lv_iload_n hx hb dX8_draught_91 rfl (lv_at hl 3 rfl) ?_
      refine lv_icmp_ne (tgt := 122) hx hb dX8_draught_92 (by decide) (fun q15 => ?_) (fun q15 => ?_)
      · have h := ifn q15 h
        refine lv_iconst (v := 0) hx hb dX8_draught_122 (by decide) ?_
        refine lv_iadd hx hb dX8_draught_123 ?_
        obtain ⟨x16, ex16, h⟩ := lt_some h
        refine x_ti ex16 ?_
        refine lv_istore (lv' := [(6, .int x16), (0, .ref (ad 0)), (1, .int v1), (2, .int v2), (3, .int v3), (4, .int v4), (5, .int v5), (7, .int v7)]) hx hb dX8_draught_124 hl (by decide) rfl (fun ls hl => ?_)
        obtain ⟨x17, ex17, h⟩ := lt_some h
        refine lv_iinc (v := x17) (lv' := [(7, .int x17), (6, .int x16), (0, .ref (ad 0)), (1, .int v1), (2, .int v2), (3, .int v3), (4, .int v4), (5, .int v5)]) hx hb dX8_draught_126 hl (k := 7) rfl (by rw [ex17]; rfl) (by decide) rfl (fun ls hl => ?_)
        refine lv_goto (tgt := 68) hx hb dX8_draught_129 (by decide) ?_
        exact ih v1 v2 v3 v4 v5 x16 x17 h H locs hP hD hS ls (lv_sub hl [2, 3, 4, 5, 6, 7, 1, 0] rfl)
      · have h := ifp q15 h
        refine lv_bipush (v := 10) hx hb dX8_draught_95 (by decide) ?_
        refine lv_iload_n hx hb dX8_draught_97 rfl (lv_at hl 2 rfl) ?_
        refine lv_isub hx hb dX8_draught_98 ?_
        refine lv_iload hx hb dX8_draught_99 (lv_at hl 7 rfl) ?_
        refine lv_iconst (v := 1) hx hb dX8_draught_101 (by decide) ?_
        refine lv_iadd hx hb dX8_draught_102 ?_
        obtain ⟨r19, g18, h⟩ := cl_some h
        refine x_callSi (rest := [.int v6]) C hP hD hS (c_X8_power g18) (va_cwS 2 hts (gS mw22_15 mw22_16 mw1_5 mw22_17) rfl rfl rfl hdS_X8_power ⟨Nat.le_of_ble_eq_true rfl, Nat.le_of_ble_eq_true rfl⟩) rfl hl.1 rfl (Nat.le_of_ble_eq_true rfl) dX8_draught_103 ⟨Nat.zero_le _, Nat.zero_le _⟩ (fun H locs hP hD hS => ?_)
        refine lv_bipush (v := 10) hx hb dX8_draught_106 (by decide) ?_
        refine lv_iload hx hb dX8_draught_108 (lv_at hl 5 rfl) ?_
        refine lv_iconst (v := 1) hx hb dX8_draught_110 (by decide) ?_
        refine lv_isub hx hb dX8_draught_111 ?_
        refine lv_iload hx hb dX8_draught_112 (lv_at hl 7 rfl) ?_
        refine lv_isub hx hb dX8_draught_114 ?_
        obtain ⟨r21, g20, h⟩ := cl_some h
        refine x_callSi (rest := [.int r19, .int v6]) C hP hD hS (c_X8_power g20) (va_cwS 2 hts (gS mw22_15 mw22_16 mw1_5 mw22_17) rfl rfl rfl hdS_X8_power ⟨Nat.le_of_ble_eq_true rfl, Nat.le_of_ble_eq_true rfl⟩) rfl hl.1 rfl (Nat.le_of_ble_eq_true rfl) dX8_draught_115 ⟨Nat.zero_le _, Nat.zero_le _⟩ (fun H locs hP hD hS => ?_)
        refine lv_imul hx hb dX8_draught_118 ?_
        refine lv_goto (tgt := 123) hx hb dX8_draught_119 (by decide) ?_
        refine lv_iadd hx hb dX8_draught_123 ?_
        obtain ⟨x22, ex22, h⟩ := lt_some h
        refine x_ti ex22 ?_
        refine lv_istore (lv' := [(6, .int x22), (0, .ref (ad 0)), (1, .int v1), (2, .int v2), (3, .int v3), (4, .int v4), (5, .int v5), (7, .int v7)]) hx hb dX8_draught_124 hl (by decide) rfl (fun ls hl => ?_)
        obtain ⟨x23, ex23, h⟩ := lt_some h
        refine lv_iinc (v := x23) (lv' := [(7, .int x23), (6, .int x22), (0, .ref (ad 0)), (1, .int v1), (2, .int v2), (3, .int v3), (4, .int v4), (5, .int v5)]) hx hb dX8_draught_126 hl (k := 7) rfl (by rw [ex23]; rfl) (by decide) rfl (fun ls hl => ?_)
        refine lv_goto (tgt := 68) hx hb dX8_draught_129 (by decide) ?_
        exact ih v1 v2 v3 v4 v5 x22 x23 h H locs hP hD hS ls (lv_sub hl [2, 3, 4, 5, 6, 7, 1, 0] rfl)
set_option maxHeartbeats 4000000 in
set_option maxRecDepth 100000 in
theorem w_X8_draught_0 (C : Cx p s m args meth c D cy tT tF A cX8_draught 8 RX8) (hr : meth.sig.returnType = some .int) {r : Int32} {σ : ES} (a1 : Int32) (a2 : Int32) (a3 : Int32) (a4 : Int32) (h : b_X8_draught_0 σ a1 a2 a3 a4 = some r) (H : Heap) (locs : List Loc) (hP : va_P D vwCl (mw cy ad σ) H) (hD : va_D A (mw cy ad σ)) (hS : va_S A s.heap H locs) (ls : Array Slot) (hl : lv_has ls 8 [(0, .ref (ad 0)), (1, .int a1), (2, .int a2), (3, .int a3), (4, .int a4)]) : W p l e { frames := 2, cells := 0, slots := 0, locals := 46 } s m args below meth c H locs 0 0 (MQ below (Qi D cy A r (mw cy ad σ)) args s 0 0 A) (F0 m 0 ls []) := by
  obtain ⟨⟨hx, hb, hml, hown, hts⟩, hK, hT, hA, hlk⟩ := id C
  unfold b_X8_draught_0 at h
  refine lv_aload_n hx hb dX8_draught_0 rfl (lv_at hl 0 rfl) ?_
  refine lv_iload_n hx hb dX8_draught_1 rfl (lv_at hl 1 rfl) ?_
  obtain ⟨r2, g1, h⟩ := cl_some h
  refine x_callVi (rest := []) C hP hD hS (c_X8_isCandle g1) (cwV 1 hts (gV mw13_11 mw13_12 mw13_13 mw1_5 mw13_14) rfl rfl rfl hdV_X8_isCandle ⟨Nat.le_of_ble_eq_true rfl, Nat.le_of_ble_eq_true rfl⟩) mw_0 rfl rfl hl.1 rfl (Nat.le_of_ble_eq_true rfl) dX8_draught_2 ⟨Nat.zero_le _, Nat.zero_le _⟩ (fun H locs hP hD hS => ?_)
  refine lv_if_ne (tgt := 10) hx hb dX8_draught_5 (by decide) (fun q3 => ?_) (fun q3 => ?_)
  · have h := ifn q3 h
    refine lv_iload_n hx hb dX8_draught_10 rfl (lv_at hl 2 rfl) ?_
    refine lv_i2l hx hb dX8_draught_11 rfl ?_
    refine lv_lconst (v := 0) hx hb dX8_draught_12 (by decide) ?_
    refine lv_ldc2 (v := 10) hx hb hown (hts _ mw32_17) dX8_draught_13 ?_
    obtain ⟨r5, g4, h⟩ := cl_some h
    refine x_callSi (rest := []) C hP hD hS (c_X8_in g4) (va_cwS 3 hts (gS mw7_10 mw7_11 mw1_5 mw7_12) rfl rfl rfl hdS_X8_in ⟨Nat.le_of_ble_eq_true rfl, Nat.le_of_ble_eq_true rfl⟩) rfl hl.1 rfl (Nat.le_of_ble_eq_true rfl) dX8_draught_16 ⟨Nat.zero_le _, Nat.zero_le _⟩ (fun H locs hP hD hS => ?_)
    refine lv_if_eq (tgt := 34) hx hb dX8_draught_19 (by decide) (fun q6 => ?_) (fun q6 => ?_)
    · have h := ifp q6 h
      refine lv_bipush (v := -2) hx hb dX8_draught_34 (by decide) ?_
      have z1 := so_inj h
      subst z1
      exact x_iret C hr hP hD hS dX8_draught_36
    · have h := ifn q6 h
      refine lv_iload_n hx hb dX8_draught_22 rfl (lv_at hl 3 rfl) ?_
      refine lv_i2l hx hb dX8_draught_23 rfl ?_
      refine lv_lconst (v := 0) hx hb dX8_draught_24 (by decide) ?_
      refine lv_ldc2 (v := 3) hx hb hown (hts _ mw28_21) dX8_draught_25 ?_
      obtain ⟨r8, g7, h⟩ := cl_some h
      refine x_callSi (rest := []) C hP hD hS (c_X8_in g7) (va_cwS 3 hts (gS mw7_10 mw7_11 mw1_5 mw7_12) rfl rfl rfl hdS_X8_in ⟨Nat.le_of_ble_eq_true rfl, Nat.le_of_ble_eq_true rfl⟩) rfl hl.1 rfl (Nat.le_of_ble_eq_true rfl) dX8_draught_28 ⟨Nat.zero_le _, Nat.zero_le _⟩ (fun H locs hP hD hS => ?_)
      refine lv_if_ne (tgt := 37) hx hb dX8_draught_31 (by decide) (fun q9 => ?_) (fun q9 => ?_)
      · have h := ifn q9 h
        refine lv_aload_n hx hb dX8_draught_37 rfl (lv_at hl 0 rfl) ?_
        refine x_get C hP inlX8 0 mw_0 rfl 11 (by decide) mw6_6 rfl dX8_draught_38 ?_
        refine lv_bipush (v := 8) hx hb dX8_draught_41 (by decide) ?_
        refine lv_iload_n hx hb dX8_draught_43 rfl (lv_at hl 1 rfl) ?_
        refine lv_iadd hx hb dX8_draught_44 ?_
        obtain ⟨g10, x11, ex11, h⟩ := rd_some h
        refine x_ild C hP 9 mw_9 g10 ex11 dX8_draught_45 ?_
        refine lv_if_eq (tgt := 52) hx hb dX8_draught_46 (by decide) (fun q12 => ?_) (fun q12 => ?_)
        · have h := ifp q12 h
          refine lv_aload_n hx hb dX8_draught_52 rfl (lv_at hl 0 rfl) ?_
          refine x_get C hP inlX8 0 mw_0 rfl 11 (by decide) mw6_6 rfl dX8_draught_53 ?_
          refine lv_iconst (v := 4) hx hb dX8_draught_56 (by decide) ?_
          refine lv_iload_n hx hb dX8_draught_57 rfl (lv_at hl 1 rfl) ?_
          refine lv_iadd hx hb dX8_draught_58 ?_
          obtain ⟨g13, x14, ex14, h⟩ := rd_some h
          refine x_ild C hP 9 mw_9 g13 ex14 dX8_draught_59 ?_
          refine lv_istore (lv' := [(5, .int x14), (0, .ref (ad 0)), (1, .int a1), (2, .int a2), (3, .int a3), (4, .int a4)]) hx hb dX8_draught_60 hl (by decide) rfl (fun ls hl => ?_)
          refine lv_iconst (v := 0) hx hb dX8_draught_62 (by decide) ?_
          refine lv_istore (lv' := [(6, .int (0 : Int32)), (5, .int x14), (0, .ref (ad 0)), (1, .int a1), (2, .int a2), (3, .int a3), (4, .int a4)]) hx hb dX8_draught_63 hl (by decide) rfl (fun ls hl => ?_)
          refine lv_iconst (v := 0) hx hb dX8_draught_65 (by decide) ?_
          refine lv_istore (lv' := [(7, .int (0 : Int32)), (6, .int (0 : Int32)), (5, .int x14), (0, .ref (ad 0)), (1, .int a1), (2, .int a2), (3, .int a3), (4, .int a4)]) hx hb dX8_draught_66 hl (by decide) rfl (fun ls hl => ?_)
          exact w_X8_draught_68 C hr FU a1 a2 a3 a4 x14 (0 : Int32) (0 : Int32) h H locs hP hD hS ls (lv_sub hl [3, 4, 5, 6, 7, 2, 1, 0] rfl)
        · have h := ifn q12 h
          refine lv_bipush (v := -3) hx hb dX8_draught_49 (by decide) ?_
          have z1 := so_inj h
          subst z1
          exact x_iret C hr hP hD hS dX8_draught_51
      · have h := ifp q9 h
        refine lv_bipush (v := -2) hx hb dX8_draught_34 (by decide) ?_
        have z1 := so_inj h
        subst z1
        exact x_iret C hr hP hD hS dX8_draught_36
  · have h := ifp q3 h
    refine lv_iconst (v := -1) hx hb dX8_draught_8 (by decide) ?_
    have z1 := so_inj h
    subst z1
    exact x_iret C hr hP hD hS dX8_draught_9
theorem c_X8_draught {l : Launch} {D : va_G} {cy : Nat → ClassId} {tT tF : Nat} {ad : Nat → Nat} {a1 : Int32} {a2 : Int32} {a3 : Int32} {a4 : Int32} {r : Int32} {σ : ES} (h : e_X8_draught a1 a2 a3 a4 σ = some r) : CMi l yX8_draught (Cond.code yX8_draught cX8_draught 8 (some .int) :: wsL_law) { frames := 2, cells := 0, slots := 0, locals := 46 } D cy tT tF [.ref (ad 0), .int a1, .int a2, .int a3, .int a4] (mw cy ad σ) r (mw cy ad σ) := x_start (Qc := fun A => (Qi D cy A r (mw cy ad σ))) (by decide) (Nat.le_of_ble_eq_true rfl) (fun p e s m below meth c A ls C hr hP hD hS hl => w_X8_draught_0 C hr a1 a2 a3 a4 h s.heap [] hP hD hS ls hl)
set_option maxHeartbeats 4000000 in
set_option maxRecDepth 100000 in
theorem w_X8_seed_0 (C : Cx p s m args meth c D cy tT tF A cX8_seed 5 RX8) (hr : meth.sig.returnType = some .long) {r : Int64} {σ' : ES} (a1 : Int64) (σ : ES) (h : b_X8_seed_0 a1 σ = some (r, σ')) (H : Heap) (locs : List Loc) (hP : va_P D vwCl (mw cy ad σ) H) (hD : va_D A (mw cy ad σ)) (hS : va_S A s.heap H locs) (ls : Array Slot) (hl : lv_has ls 5 [(0, .ref (ad 0)), (1, .long a1)]) : W p l e { frames := 0, cells := 0, slots := 0, locals := 0 } s m args below meth c H locs 0 0 (MQ below (Ql D cy A r (mw cy ad σ')) args s 0 0 A) (F0 m 0 ls []) := by
  obtain ⟨⟨hx, hb, hml, hown, hts⟩, hK, hT, hA, hlk⟩ := id C
  unfold b_X8_seed_0 at h
  refine lv_aload_n hx hb dX8_seed_0 rfl (lv_at hl 0 rfl) ?_
  refine x_get C hP inlX8 0 mw_0 rfl 31 (by decide) mw33_2 rfl dX8_seed_1 ?_
  obtain ⟨x1, ex1, h⟩ := lt_some h
  refine x_tl ex1 ?_
  refine lv_lstore_n (lv' := [(3, .long x1), (0, .ref (ad 0)), (1, .long a1)]) hx hb dX8_seed_4 rfl hl (by decide) rfl (fun ls hl => ?_)
  refine lv_aload_n hx hb dX8_seed_5 rfl (lv_at hl 1 rfl) ?_
  refine lv_lload_n hx hb dX8_seed_6 rfl (lv_at hl 2 rfl) ?_
  obtain ⟨σ2, eσ2, h⟩ := lt_some h
  refine x_put C hP hD hS inlX8 tyX8 tyX8_ok nmX8 0 mw_0 rfl 31 (by decide) mw33_2 rfl rfl rfl (Nat.le_of_ble_eq_true rfl) (ms_0_31 eσ2) dX8_seed_7 (fun H locs hP hD hS => ?_)
  refine lv_lload_n hx hb dX8_seed_10 rfl (lv_at hl 0 rfl) ?_
  obtain ⟨z1, z2⟩ := pr_inj h
  subst z1
  subst z2
  exact x_lret C hr hP hD hS dX8_seed_11
theorem c_X8_seed {l : Launch} {D : va_G} {cy : Nat → ClassId} {tT tF : Nat} {ad : Nat → Nat} {σ : ES} {a1 : Int64} {r : Int64} {σ' : ES} (h : e_X8_seed a1 σ = some (r, σ')) : CMl l yX8_seed (Cond.code yX8_seed cX8_seed 5 (some .long) :: wsL_law) { frames := 0, cells := 0, slots := 0, locals := 0 } D cy tT tF [.ref (ad 0), .long a1] (mw cy ad σ) r (mw cy ad σ') := x_start (Qc := fun A => (Ql D cy A r (mw cy ad σ'))) (by decide) (Nat.le_of_ble_eq_true rfl) (fun p e s m below meth c A ls C hr hP hD hS hl => w_X8_seed_0 C hr a1 σ h s.heap [] hP hD hS ls hl)
set_option maxHeartbeats 4000000 in
set_option maxRecDepth 100000 in
theorem w_X8_night_115 (C : Cx p s m args meth c D cy tT tF A cX8_night 4 RX8) (hr : meth.sig.returnType = some .int) {r : Int32} {σ' : ES} : ∀ (n : Nat) (v2 : Int32) (v3 : Int32) (σ : ES), b_X8_night_115 n v2 v3 σ = some (r, σ') → ∀ (H : Heap) (locs : List Loc) (hP : va_P D vwCl (mw cy ad σ) H) (hD : va_D A (mw cy ad σ)) (hS : va_S A s.heap H locs) (ls : Array Slot) (hl : lv_has ls 4 [(0, .ref (ad 0)), (2, .int v2), (3, .int v3)]), W p l e { frames := 2, cells := 0, slots := 0, locals := 51 } s m args below meth c H locs 0 0 (MQ below (Qi D cy A r (mw cy ad σ')) args s 0 0 A) (F0 m 115 ls []) := by
  obtain ⟨⟨hx, hb, hml, hown, hts⟩, hK, hT, hA, hlk⟩ := id C
  intro n
  induction n with
  | zero =>
    intro v2 v3 σ h
    exact no_some h
  | succ n ih =>
    intro v2 v3 σ h H locs hP hD hS ls hl
    rw [b_X8_night_115] at h
    refine lv_iload_n hx hb dX8_night_115 rfl (lv_at hl 2 rfl) ?_
    refine lv_aload_n hx hb dX8_night_116 rfl (lv_at hl 0 rfl) ?_
    refine x_get C hP inlX8 0 mw_0 rfl 2 (by decide) mw12_4 rfl dX8_night_117 ?_
    refine lv_icmp_ge (tgt := 141) hx hb dX8_night_120 (by decide) (fun q1 => ?_) (fun q1 => ?_)
    · have h := ifp q1 h
      refine lv_iload_n hx hb dX8_night_141 rfl (lv_at hl 1 rfl) ?_
      obtain ⟨z1, z2⟩ := pr_inj h
      subst z1
      subst z2
      exact x_iret C hr hP hD hS dX8_night_142
    · have h := ifn q1 h
      refine lv_iload_n hx hb dX8_night_123 rfl (lv_at hl 1 rfl) ?_
      refine lv_aload_n hx hb dX8_night_124 rfl (lv_at hl 0 rfl) ?_
      refine x_get C hP inlX8 0 mw_0 rfl 11 (by decide) mw6_6 rfl dX8_night_125 ?_
      refine lv_bipush (v := 30) hx hb dX8_night_128 (by decide) ?_
      refine lv_iload_n hx hb dX8_night_130 rfl (lv_at hl 2 rfl) ?_
      refine lv_iadd hx hb dX8_night_131 ?_
      obtain ⟨g2, x3, ex3, h⟩ := rd_some h
      refine x_ild C hP 9 mw_9 g2 ex3 dX8_night_132 ?_
      refine lv_iadd hx hb dX8_night_133 ?_
      obtain ⟨x4, ex4, h⟩ := lt_some h
      refine x_ti ex4 ?_
      refine lv_istore_n (lv' := [(2, .int x4), (0, .ref (ad 0)), (3, .int v3)]) hx hb dX8_night_134 rfl hl (by decide) rfl (fun ls hl => ?_)
      obtain ⟨x5, ex5, h⟩ := lt_some h
      refine lv_iinc (v := x5) (lv' := [(3, .int x5), (2, .int x4), (0, .ref (ad 0))]) hx hb dX8_night_135 hl (k := 2) rfl (by rw [ex5]; rfl) (by decide) rfl (fun ls hl => ?_)
      refine lv_goto (tgt := 115) hx hb dX8_night_138 (by decide) ?_
      exact ih x4 x5 σ h H locs hP hD hS ls (lv_sub hl [2, 1, 0] rfl)
set_option maxHeartbeats 4000000 in
set_option maxRecDepth 100000 in
theorem w_X8_night_99 (C : Cx p s m args meth c D cy tT tF A cX8_night 4 RX8) (hr : meth.sig.returnType = some .int) {r : Int32} {σ' : ES} {K23 : Int32 → Int32 → ES → Option (Int32 × ES)} (hK23 : ∀ (v1 : Int32) (v2 : Int32) (σ : ES), K23 v1 v2 σ = some (r, σ') → ∀ (H : Heap) (locs : List Loc), va_P D vwCl (mw cy ad σ) H → va_D A (mw cy ad σ) → va_S A s.heap H locs → ∀ ls : Array Slot, lv_has ls 4 [(0, .ref (ad 0)), (1, .int v1), (2, .int v2)] → W p l e { frames := 2, cells := 0, slots := 0, locals := 51 } s m args below meth c H locs 0 0 (MQ below (Qi D cy A r (mw cy ad σ')) args s 0 0 A) (F0 m 23 ls [])) (v1 : Int32) (v2 : Int32) (σ : ES) (h : b_X8_night_99 K23 v1 v2 σ = some (r, σ')) (H : Heap) (locs : List Loc) (hP : va_P D vwCl (mw cy ad σ) H) (hD : va_D A (mw cy ad σ)) (hS : va_S A s.heap H locs) (ls : Array Slot) (hl : lv_has ls 4 [(0, .ref (ad 0)), (1, .int v1), (2, .int v2)]) : W p l e { frames := 2, cells := 0, slots := 0, locals := 51 } s m args below meth c H locs 0 0 (MQ below (Qi D cy A r (mw cy ad σ')) args s 0 0 A) (F0 m 99 ls []) := by
  obtain ⟨⟨hx, hb, hml, hown, hts⟩, hK, hT, hA, hlk⟩ := id C
  unfold b_X8_night_99 at h
  refine lv_aload_n hx hb dX8_night_99 rfl (lv_at hl 0 rfl) ?_
  refine lv_iconst (v := 1) hx hb dX8_night_100 (by decide) ?_
  obtain ⟨r3, σ2, g1, h⟩ := cs_some h
  refine x_callVi (rest := []) C hP hD hS (c_X8_pass g1) (cwV 1 hts (gV mw18_12 mw18_13 mw18_14 mw1_5 mw18_15) rfl rfl rfl hdV_X8_pass ⟨Nat.le_of_ble_eq_true rfl, Nat.le_of_ble_eq_true rfl⟩) mw_0 rfl rfl hl.1 rfl (Nat.le_of_ble_eq_true rfl) dX8_night_101 ⟨Nat.zero_le _, Nat.zero_le _⟩ (fun H locs hP hD hS => ?_)
  refine lv_pop hx hb dX8_night_104 rfl ?_
  obtain ⟨x4, ex4, h⟩ := lt_some h
  refine lv_iinc (v := x4) (lv' := [(2, .int x4), (0, .ref (ad 0)), (1, .int v1)]) hx hb dX8_night_105 hl (k := 2) rfl (by rw [ex4]; rfl) (by decide) rfl (fun ls hl => ?_)
  refine lv_goto (tgt := 23) hx hb dX8_night_108 (by decide) ?_
  exact hK23 v1 x4 σ2 h H locs hP hD hS ls (lv_sub hl [1, 2, 0] rfl)
set_option maxHeartbeats 4000000 in
set_option maxRecDepth 100000 in
theorem w_X8_night_23 (C : Cx p s m args meth c D cy tT tF A cX8_night 4 RX8) (hr : meth.sig.returnType = some .int) {r : Int32} {σ' : ES} : ∀ (n : Nat) (v1 : Int32) (v2 : Int32) (σ : ES), b_X8_night_23 n v1 v2 σ = some (r, σ') → ∀ (H : Heap) (locs : List Loc) (hP : va_P D vwCl (mw cy ad σ) H) (hD : va_D A (mw cy ad σ)) (hS : va_S A s.heap H locs) (ls : Array Slot) (hl : lv_has ls 4 [(0, .ref (ad 0)), (1, .int v1), (2, .int v2)]), W p l e { frames := 2, cells := 0, slots := 0, locals := 51 } s m args below meth c H locs 0 0 (MQ below (Qi D cy A r (mw cy ad σ')) args s 0 0 A) (F0 m 23 ls []) := by
  obtain ⟨⟨hx, hb, hml, hown, hts⟩, hK, hT, hA, hlk⟩ := id C
  intro n
  induction n with
  | zero =>
    intro v1 v2 σ h
    exact no_some h
  | succ n ih =>
    intro v1 v2 σ h H locs hP hD hS ls hl
    rw [b_X8_night_23] at h
    refine lv_iload_n hx hb dX8_night_23 rfl (lv_at hl 2 rfl) ?_
    refine lv_iload_n hx hb dX8_night_24 rfl (lv_at hl 1 rfl) ?_
    refine lv_icmp_ge (tgt := 111) hx hb dX8_night_25 (by decide) (fun q1 => ?_) (fun q1 => ?_)
    · have h := ifp q1 h
      refine lv_iconst (v := 0) hx hb dX8_night_111 (by decide) ?_
      refine lv_istore_n (lv' := [(2, .int (0 : Int32)), (0, .ref (ad 0)), (1, .int v1)]) hx hb dX8_night_112 rfl hl (by decide) rfl (fun ls hl => ?_)
      refine lv_iconst (v := 0) hx hb dX8_night_113 (by decide) ?_
      refine lv_istore_n (lv' := [(3, .int (0 : Int32)), (2, .int (0 : Int32)), (0, .ref (ad 0)), (1, .int v1)]) hx hb dX8_night_114 rfl hl (by decide) rfl (fun ls hl => ?_)
      exact w_X8_night_115 C hr FU (0 : Int32) (0 : Int32) σ h H locs hP hD hS ls (lv_sub hl [2, 1, 0] rfl)
    · have h := ifn q1 h
      refine lv_aload_n hx hb dX8_night_28 rfl (lv_at hl 0 rfl) ?_
      refine x_get C hP inlX8 0 mw_0 rfl 11 (by decide) mw6_6 rfl dX8_night_29 ?_
      refine lv_bipush (v := 35) hx hb dX8_night_32 (by decide) ?_
      obtain ⟨g2, x3, ex3, h⟩ := rd_some h
      refine x_ild C hP 9 mw_9 g2 ex3 dX8_night_34 ?_
      refine lv_bipush (v := 20) hx hb dX8_night_35 (by decide) ?_
      refine lv_icmp_ge (tgt := 111) hx hb dX8_night_37 (by decide) (fun q4 => ?_) (fun q4 => ?_)
      · have h := ifp q4 h
        refine lv_iconst (v := 0) hx hb dX8_night_111 (by decide) ?_
        refine lv_istore_n (lv' := [(2, .int (0 : Int32)), (0, .ref (ad 0)), (1, .int v1)]) hx hb dX8_night_112 rfl hl (by decide) rfl (fun ls hl => ?_)
        refine lv_iconst (v := 0) hx hb dX8_night_113 (by decide) ?_
        refine lv_istore_n (lv' := [(3, .int (0 : Int32)), (2, .int (0 : Int32)), (0, .ref (ad 0)), (1, .int v1)]) hx hb dX8_night_114 rfl hl (by decide) rfl (fun ls hl => ?_)
        exact w_X8_night_115 C hr FU (0 : Int32) (0 : Int32) σ h H locs hP hD hS ls (lv_sub hl [2, 1, 0] rfl)
      · have h := ifn q4 h
        refine lv_aload_n hx hb dX8_night_40 rfl (lv_at hl 0 rfl) ?_
        refine lv_aload_n hx hb dX8_night_41 rfl (lv_at hl 0 rfl) ?_
        refine x_get C hP inlX8 0 mw_0 rfl 31 (by decide) mw33_2 rfl dX8_night_42 ?_
        refine lv_ldc2 (v := 6364136223846793005) hx hb hown (hts _ mw33_15) dX8_night_45 ?_
        refine lv_lmul hx hb dX8_night_48 ?_
        refine lv_ldc2 (v := 1442695040888963407) hx hb hown (hts _ mw33_16) dX8_night_49 ?_
        refine lv_ladd hx hb dX8_night_52 ?_
        obtain ⟨σ5, eσ5, h⟩ := lt_some h
        refine x_put C hP hD hS inlX8 tyX8 tyX8_ok nmX8 0 mw_0 rfl 31 (by decide) mw33_2 rfl rfl rfl (Nat.le_of_ble_eq_true rfl) (ms_0_31 eσ5) dX8_night_53 (fun H locs hP hD hS => ?_)
        refine lv_aload_n hx hb dX8_night_56 rfl (lv_at hl 0 rfl) ?_
        refine x_get C hP inlX8 0 mw_0 rfl 31 (by decide) mw33_2 rfl dX8_night_57 ?_
        refine lv_bipush (v := 33) hx hb dX8_night_60 (by decide) ?_
        refine lv_lushr hx hb dX8_night_62 rfl ?_
        refine lv_ldc2 (v := 4) hx hb hown (hts _ mw29_14) dX8_night_63 ?_
        refine lv_lrem hx hb dX8_night_66 (by decide) ?_
        refine lv_l2i hx hb dX8_night_67 rfl ?_
        obtain ⟨x6, ex6, h⟩ := lt_some h
        refine x_ti ex6 ?_
        refine lv_istore_n (lv' := [(3, .int x6), (0, .ref (ad 0)), (1, .int v1), (2, .int v2)]) hx hb dX8_night_68 rfl hl (by decide) rfl (fun ls hl => ?_)
        refine lv_aload_n hx hb dX8_night_69 rfl (lv_at hl 1 rfl) ?_
        refine lv_iload_n hx hb dX8_night_70 rfl (lv_at hl 0 rfl) ?_
        obtain ⟨r8, g7, h⟩ := cl_some h
        refine x_callVi (rest := []) C hP hD hS (c_X8_isCandle g7) (cwV 1 hts (gV mw13_11 mw13_12 mw13_13 mw1_5 mw13_14) rfl rfl rfl hdV_X8_isCandle ⟨Nat.le_of_ble_eq_true rfl, Nat.le_of_ble_eq_true rfl⟩) mw_0 rfl rfl hl.1 rfl (Nat.le_of_ble_eq_true rfl) dX8_night_71 ⟨Nat.zero_le _, Nat.zero_le _⟩ (fun H locs hP hD hS => ?_)
        refine lv_if_eq (tgt := 99) hx hb dX8_night_74 (by decide) (fun q9 => ?_) (fun q9 => ?_)
        · have h := ifp q9 h
          exact w_X8_night_99 C hr ih v1 v2 σ5 h H locs hP hD hS ls (lv_sub hl [1, 2, 3] rfl)
        · have h := ifn q9 h
          refine lv_aload_n hx hb dX8_night_77 rfl (lv_at hl 1 rfl) ?_
          refine x_get C hP inlX8 0 mw_0 rfl 11 (by decide) mw6_6 rfl dX8_night_78 ?_
          refine lv_bipush (v := 26) hx hb dX8_night_81 (by decide) ?_
          refine lv_iload_n hx hb dX8_night_83 rfl (lv_at hl 0 rfl) ?_
          refine lv_iadd hx hb dX8_night_84 ?_
          obtain ⟨g10, x11, ex11, h⟩ := rd_some h
          refine x_ild C hP 9 mw_9 g10 ex11 dX8_night_85 ?_
          refine lv_if_ne (tgt := 99) hx hb dX8_night_86 (by decide) (fun q12 => ?_) (fun q12 => ?_)
          · have h := ifn q12 h
            exact w_X8_night_99 C hr ih v1 v2 σ5 h H locs hP hD hS ls (lv_sub hl [1, 2, 3] rfl)
          · have h := ifp q12 h
            refine lv_aload_n hx hb dX8_night_89 rfl (lv_at hl 1 rfl) ?_
            refine x_get C hP inlX8 0 mw_0 rfl 11 (by decide) mw6_6 rfl dX8_night_90 ?_
            refine lv_bipush (v := 26) hx hb dX8_night_93 (by decide) ?_
            refine lv_iload_n hx hb dX8_night_95 rfl (lv_at hl 0 rfl) ?_
            refine lv_iadd hx hb dX8_night_96 ?_
            refine lv_iconst (v := 1) hx hb dX8_night_97 (by decide) ?_
            obtain ⟨g13, σ14, eσ14, h⟩ := wr_some h
            refine x_ist C hP hD hS 9 mw_9 g13 (ma_9 eσ14) dX8_night_98 (fun H locs hP hD hS => ?_)
            exact w_X8_night_99 C hr ih v1 v2 σ14 h H locs hP hD hS ls (lv_sub hl [1, 2, 3] rfl)
set_option maxHeartbeats 4000000 in
set_option maxRecDepth 100000 in
theorem w_X8_night_0 (C : Cx p s m args meth c D cy tT tF A cX8_night 4 RX8) (hr : meth.sig.returnType = some .int) {r : Int32} {σ' : ES} (a1 : Int32) (σ : ES) (h : b_X8_night_0 a1 σ = some (r, σ')) (H : Heap) (locs : List Loc) (hP : va_P D vwCl (mw cy ad σ) H) (hD : va_D A (mw cy ad σ)) (hS : va_S A s.heap H locs) (ls : Array Slot) (hl : lv_has ls 4 [(0, .ref (ad 0)), (1, .int a1)]) : W p l e { frames := 2, cells := 0, slots := 0, locals := 51 } s m args below meth c H locs 0 0 (MQ below (Qi D cy A r (mw cy ad σ')) args s 0 0 A) (F0 m 0 ls []) := by
  obtain ⟨⟨hx, hb, hml, hown, hts⟩, hK, hT, hA, hlk⟩ := id C
  unfold b_X8_night_0 at h
  refine lv_iload_n hx hb dX8_night_0 rfl (lv_at hl 1 rfl) ?_
  refine lv_i2l hx hb dX8_night_1 rfl ?_
  refine lv_lconst (v := 1) hx hb dX8_night_2 (by decide) ?_
  refine lv_ldc2 (v := 20) hx hb hown (hts _ mw33_14) dX8_night_3 ?_
  obtain ⟨r2, g1, h⟩ := cl_some h
  refine x_callSi (rest := []) C hP hD hS (c_X8_in g1) (va_cwS 3 hts (gS mw7_10 mw7_11 mw1_5 mw7_12) rfl rfl rfl hdS_X8_in ⟨Nat.le_of_ble_eq_true rfl, Nat.le_of_ble_eq_true rfl⟩) rfl hl.1 rfl (Nat.le_of_ble_eq_true rfl) dX8_night_6 ⟨Nat.zero_le _, Nat.zero_le _⟩ (fun H locs hP hD hS => ?_)
  refine lv_if_ne (tgt := 15) hx hb dX8_night_9 (by decide) (fun q3 => ?_) (fun q3 => ?_)
  · have h := ifn q3 h
    refine lv_aload_n hx hb dX8_night_15 rfl (lv_at hl 0 rfl) ?_
    refine lv_iconst (v := 0) hx hb dX8_night_16 (by decide) ?_
    refine lv_iconst (v := 1) hx hb dX8_night_17 (by decide) ?_
    obtain ⟨σ5, g4, h⟩ := cl_some h
    refine x_callVv (rest := []) C hP hD hS (c_X8_lay g4) (cwV 2 hts (gV mw22_22 mw22_23 mw23_0 mw1_5 mw23_1) rfl rfl rfl hdV_X8_lay ⟨Nat.le_of_ble_eq_true rfl, Nat.le_of_ble_eq_true rfl⟩) mw_0 rfl rfl hl.1 rfl (Nat.le_of_ble_eq_true rfl) dX8_night_18 ⟨Nat.zero_le _, Nat.zero_le _⟩ (fun H locs hP hD hS => ?_)
    refine lv_iconst (v := 0) hx hb dX8_night_21 (by decide) ?_
    refine lv_istore_n (lv' := [(2, .int (0 : Int32)), (0, .ref (ad 0)), (1, .int a1)]) hx hb dX8_night_22 rfl hl (by decide) rfl (fun ls hl => ?_)
    exact w_X8_night_23 C hr FU a1 (0 : Int32) σ5 h H locs hP hD hS ls (lv_sub hl [1, 2, 0] rfl)
  · have h := ifp q3 h
    refine lv_bipush (v := -2) hx hb dX8_night_12 (by decide) ?_
    obtain ⟨z1, z2⟩ := pr_inj h
    subst z1
    subst z2
    exact x_iret C hr hP hD hS dX8_night_14
theorem c_X8_night {l : Launch} {D : va_G} {cy : Nat → ClassId} {tT tF : Nat} {ad : Nat → Nat} {σ : ES} {a1 : Int32} {r : Int32} {σ' : ES} (h : e_X8_night a1 σ = some (r, σ')) : CMi l yX8_night (Cond.code yX8_night cX8_night 4 (some .int) :: wsL_law) { frames := 2, cells := 0, slots := 0, locals := 51 } D cy tT tF [.ref (ad 0), .int a1] (mw cy ad σ) r (mw cy ad σ') := x_start (Qc := fun A => (Qi D cy A r (mw cy ad σ'))) (by decide) (Nat.le_of_ble_eq_true rfl) (fun p e s m below meth c A ls C hr hP hD hS hl => w_X8_night_0 C hr a1 σ h s.heap [] hP hD hS ls hl)
set_option maxHeartbeats 4000000 in
set_option maxRecDepth 100000 in
theorem w_X8_keep_21 (C : Cx p s m args meth c D cy tT tF A cX8_keep 3 RX8) (hr : meth.sig.returnType = some .int) {r : Int32} {σ' : ES} : ∀ (n : Nat) (v1 : Int32) (v2 : Int32) (σ : ES), b_X8_keep_21 n v1 v2 σ = some (r, σ') → ∀ (H : Heap) (locs : List Loc) (hP : va_P D vwCl (mw cy ad σ) H) (hD : va_D A (mw cy ad σ)) (hS : va_S A s.heap H locs) (ls : Array Slot) (hl : lv_has ls 3 [(0, .ref (ad 0)), (1, .int v1), (2, .int v2)]), W p l e { frames := 1, cells := 0, slots := 0, locals := 25 } s m args below meth c H locs 0 0 (MQ below (Qi D cy A r (mw cy ad σ')) args s 0 0 A) (F0 m 21 ls []) := by
  obtain ⟨⟨hx, hb, hml, hown, hts⟩, hK, hT, hA, hlk⟩ := id C
  intro n
  induction n with
  | zero =>
    intro v1 v2 σ h
    exact no_some h
  | succ n ih =>
    intro v1 v2 σ h H locs hP hD hS ls hl
    rw [b_X8_keep_21] at h
    refine lv_iload_n hx hb dX8_keep_21 rfl (lv_at hl 2 rfl) ?_
    refine lv_bipush (v := 18) hx hb dX8_keep_22 (by decide) ?_
    refine lv_icmp_ge (tgt := 50) hx hb dX8_keep_24 (by decide) (fun q1 => ?_) (fun q1 => ?_)
    · have h := ifp q1 h
      refine lv_aload_n hx hb dX8_keep_50 rfl (lv_at hl 0 rfl) ?_
      refine x_get C hP inlX8 0 mw_0 rfl 11 (by decide) mw6_6 rfl dX8_keep_51 ?_
      refine lv_bipush (v := 17) hx hb dX8_keep_54 (by decide) ?_
      obtain ⟨g2, x3, ex3, h⟩ := rd_some h
      refine x_ild C hP 9 mw_9 g2 ex3 dX8_keep_56 ?_
      obtain ⟨z1, z2⟩ := pr_inj h
      subst z1
      subst z2
      exact x_iret C hr hP hD hS dX8_keep_57
    · have h := ifn q1 h
      refine lv_aload_n hx hb dX8_keep_27 rfl (lv_at hl 0 rfl) ?_
      refine x_get C hP inlX8 0 mw_0 rfl 33 (by decide) mw6_18 rfl dX8_keep_28 ?_
      refine lv_bipush (v := 18) hx hb dX8_keep_31 (by decide) ?_
      refine lv_iload_n hx hb dX8_keep_33 rfl (lv_at hl 1 rfl) ?_
      refine lv_imul hx hb dX8_keep_34 ?_
      refine lv_iload_n hx hb dX8_keep_35 rfl (lv_at hl 2 rfl) ?_
      refine lv_iadd hx hb dX8_keep_36 ?_
      refine lv_aload_n hx hb dX8_keep_37 rfl (lv_at hl 0 rfl) ?_
      refine x_get C hP inlX8 0 mw_0 rfl 11 (by decide) mw6_6 rfl dX8_keep_38 ?_
      refine lv_iload_n hx hb dX8_keep_41 rfl (lv_at hl 2 rfl) ?_
      obtain ⟨g4, x5, ex5, h⟩ := rd_some h
      refine x_ild C hP 9 mw_9 g4 ex5 dX8_keep_42 ?_
      obtain ⟨g6, σ7, eσ7, h⟩ := wr_some h
      refine x_ist C hP hD hS 21 mw_21 g6 (ma_21 eσ7) dX8_keep_43 (fun H locs hP hD hS => ?_)
      obtain ⟨x8, ex8, h⟩ := lt_some h
      refine lv_iinc (v := x8) (lv' := [(2, .int x8), (0, .ref (ad 0)), (1, .int v1)]) hx hb dX8_keep_44 hl (k := 2) rfl (by rw [ex8]; rfl) (by decide) rfl (fun ls hl => ?_)
      refine lv_goto (tgt := 21) hx hb dX8_keep_47 (by decide) ?_
      exact ih v1 x8 σ7 h H locs hP hD hS ls (lv_sub hl [1, 2, 0] rfl)
set_option maxHeartbeats 4000000 in
set_option maxRecDepth 100000 in
theorem w_X8_keep_0 (C : Cx p s m args meth c D cy tT tF A cX8_keep 3 RX8) (hr : meth.sig.returnType = some .int) {r : Int32} {σ' : ES} (a1 : Int32) (σ : ES) (h : b_X8_keep_0 a1 σ = some (r, σ')) (H : Heap) (locs : List Loc) (hP : va_P D vwCl (mw cy ad σ) H) (hD : va_D A (mw cy ad σ)) (hS : va_S A s.heap H locs) (ls : Array Slot) (hl : lv_has ls 3 [(0, .ref (ad 0)), (1, .int a1)]) : W p l e { frames := 1, cells := 0, slots := 0, locals := 25 } s m args below meth c H locs 0 0 (MQ below (Qi D cy A r (mw cy ad σ')) args s 0 0 A) (F0 m 0 ls []) := by
  obtain ⟨⟨hx, hb, hml, hown, hts⟩, hK, hT, hA, hlk⟩ := id C
  unfold b_X8_keep_0 at h
  refine lv_iload_n hx hb dX8_keep_0 rfl (lv_at hl 1 rfl) ?_
  refine lv_i2l hx hb dX8_keep_1 rfl ?_
  refine lv_lconst (v := 0) hx hb dX8_keep_2 (by decide) ?_
  refine lv_lconst (v := 1) hx hb dX8_keep_3 (by decide) ?_
  obtain ⟨r2, g1, h⟩ := cl_some h
  refine x_callSi (rest := []) C hP hD hS (c_X8_in g1) (va_cwS 3 hts (gS mw7_10 mw7_11 mw1_5 mw7_12) rfl rfl rfl hdS_X8_in ⟨Nat.le_of_ble_eq_true rfl, Nat.le_of_ble_eq_true rfl⟩) rfl hl.1 rfl (Nat.le_of_ble_eq_true rfl) dX8_keep_4 ⟨Nat.zero_le _, Nat.zero_le _⟩ (fun H locs hP hD hS => ?_)
  refine lv_if_ne (tgt := 12) hx hb dX8_keep_7 (by decide) (fun q3 => ?_) (fun q3 => ?_)
  · have h := ifn q3 h
    refine lv_aload_n hx hb dX8_keep_12 rfl (lv_at hl 0 rfl) ?_
    refine x_get C hP inlX8 0 mw_0 rfl 32 (by decide) mw6_17 rfl dX8_keep_13 ?_
    refine lv_iload_n hx hb dX8_keep_16 rfl (lv_at hl 1 rfl) ?_
    refine lv_iconst (v := 1) hx hb dX8_keep_17 (by decide) ?_
    obtain ⟨g4, σ5, eσ5, h⟩ := wr_some h
    refine x_zst C hP hD hS 20 mw_20 g4 rfl (ma_20 eσ5) dX8_keep_18 (fun H locs hP hD hS => ?_)
    refine lv_iconst (v := 0) hx hb dX8_keep_19 (by decide) ?_
    refine lv_istore_n (lv' := [(2, .int (0 : Int32)), (0, .ref (ad 0)), (1, .int a1)]) hx hb dX8_keep_20 rfl hl (by decide) rfl (fun ls hl => ?_)
    exact w_X8_keep_21 C hr FU a1 (0 : Int32) σ5 h H locs hP hD hS ls (lv_sub hl [1, 2, 0] rfl)
  · have h := ifp q3 h
    refine lv_iconst (v := -1) hx hb dX8_keep_10 (by decide) ?_
    obtain ⟨z1, z2⟩ := pr_inj h
    subst z1
    subst z2
    exact x_iret C hr hP hD hS dX8_keep_11
theorem c_X8_keep {l : Launch} {D : va_G} {cy : Nat → ClassId} {tT tF : Nat} {ad : Nat → Nat} {σ : ES} {a1 : Int32} {r : Int32} {σ' : ES} (h : e_X8_keep a1 σ = some (r, σ')) : CMi l yX8_keep (Cond.code yX8_keep cX8_keep 3 (some .int) :: wsL_law) { frames := 1, cells := 0, slots := 0, locals := 25 } D cy tT tF [.ref (ad 0), .int a1] (mw cy ad σ) r (mw cy ad σ') := x_start (Qc := fun A => (Qi D cy A r (mw cy ad σ'))) (by decide) (Nat.le_of_ble_eq_true rfl) (fun p e s m below meth c A ls C hr hP hD hS hl => w_X8_keep_0 C hr a1 σ h s.heap [] hP hD hS ls hl)
set_option maxHeartbeats 4000000 in
set_option maxRecDepth 100000 in
theorem w_X8_again_26 (C : Cx p s m args meth c D cy tT tF A cX8_again 3 RX8) (hr : meth.sig.returnType = some .int) {r : Int32} {σ' : ES} : ∀ (n : Nat) (v1 : Int32) (v2 : Int32) (σ : ES), b_X8_again_26 n v1 v2 σ = some (r, σ') → ∀ (H : Heap) (locs : List Loc) (hP : va_P D vwCl (mw cy ad σ) H) (hD : va_D A (mw cy ad σ)) (hS : va_S A s.heap H locs) (ls : Array Slot) (hl : lv_has ls 3 [(0, .ref (ad 0)), (1, .int v1), (2, .int v2)]), W p l e { frames := 1, cells := 0, slots := 0, locals := 25 } s m args below meth c H locs 0 0 (MQ below (Qi D cy A r (mw cy ad σ')) args s 0 0 A) (F0 m 26 ls []) := by
  obtain ⟨⟨hx, hb, hml, hown, hts⟩, hK, hT, hA, hlk⟩ := id C
  intro n
  induction n with
  | zero =>
    intro v1 v2 σ h
    exact no_some h
  | succ n ih =>
    intro v1 v2 σ h H locs hP hD hS ls hl
    rw [b_X8_again_26] at h
    refine lv_iload_n hx hb dX8_again_26 rfl (lv_at hl 2 rfl) ?_
    refine lv_bipush (v := 18) hx hb dX8_again_27 (by decide) ?_
    refine lv_icmp_ge (tgt := 55) hx hb dX8_again_29 (by decide) (fun q1 => ?_) (fun q1 => ?_)
    · have h := ifp q1 h
      refine lv_aload_n hx hb dX8_again_55 rfl (lv_at hl 0 rfl) ?_
      refine lv_iconst (v := 0) hx hb dX8_again_56 (by decide) ?_
      obtain ⟨σ2, eσ2, h⟩ := lt_some h
      refine x_put C hP hD hS inlX8 tyX8 tyX8_ok nmX8 0 mw_0 rfl 22 (by decide) mw12_5 rfl rfl rfl (Nat.le_of_ble_eq_true rfl) (ms_0_22 eσ2) dX8_again_57 (fun H locs hP hD hS => ?_)
      refine lv_aload_n hx hb dX8_again_60 rfl (lv_at hl 0 rfl) ?_
      refine x_get C hP inlX8 0 mw_0 rfl 11 (by decide) mw6_6 rfl dX8_again_61 ?_
      refine lv_bipush (v := 17) hx hb dX8_again_64 (by decide) ?_
      obtain ⟨g3, x4, ex4, h⟩ := rd_some h
      refine x_ild C hP 9 mw_9 g3 ex4 dX8_again_66 ?_
      obtain ⟨z1, z2⟩ := pr_inj h
      subst z1
      subst z2
      exact x_iret C hr hP hD hS dX8_again_67
    · have h := ifn q1 h
      refine lv_aload_n hx hb dX8_again_32 rfl (lv_at hl 0 rfl) ?_
      refine x_get C hP inlX8 0 mw_0 rfl 11 (by decide) mw6_6 rfl dX8_again_33 ?_
      refine lv_iload_n hx hb dX8_again_36 rfl (lv_at hl 2 rfl) ?_
      refine lv_aload_n hx hb dX8_again_37 rfl (lv_at hl 0 rfl) ?_
      refine x_get C hP inlX8 0 mw_0 rfl 33 (by decide) mw6_18 rfl dX8_again_38 ?_
      refine lv_bipush (v := 18) hx hb dX8_again_41 (by decide) ?_
      refine lv_iload_n hx hb dX8_again_43 rfl (lv_at hl 1 rfl) ?_
      refine lv_imul hx hb dX8_again_44 ?_
      refine lv_iload_n hx hb dX8_again_45 rfl (lv_at hl 2 rfl) ?_
      refine lv_iadd hx hb dX8_again_46 ?_
      obtain ⟨g5, x6, ex6, h⟩ := rd_some h
      refine x_ild C hP 21 mw_21 g5 ex6 dX8_again_47 ?_
      obtain ⟨g7, σ8, eσ8, h⟩ := wr_some h
      refine x_ist C hP hD hS 9 mw_9 g7 (ma_9 eσ8) dX8_again_48 (fun H locs hP hD hS => ?_)
      obtain ⟨x9, ex9, h⟩ := lt_some h
      refine lv_iinc (v := x9) (lv' := [(2, .int x9), (0, .ref (ad 0)), (1, .int v1)]) hx hb dX8_again_49 hl (k := 2) rfl (by rw [ex9]; rfl) (by decide) rfl (fun ls hl => ?_)
      refine lv_goto (tgt := 26) hx hb dX8_again_52 (by decide) ?_
      exact ih v1 x9 σ8 h H locs hP hD hS ls (lv_sub hl [1, 2, 0] rfl)
set_option maxHeartbeats 4000000 in
set_option maxRecDepth 100000 in
theorem w_X8_again_0 (C : Cx p s m args meth c D cy tT tF A cX8_again 3 RX8) (hr : meth.sig.returnType = some .int) {r : Int32} {σ' : ES} (a1 : Int32) (σ : ES) (h : b_X8_again_0 a1 σ = some (r, σ')) (H : Heap) (locs : List Loc) (hP : va_P D vwCl (mw cy ad σ) H) (hD : va_D A (mw cy ad σ)) (hS : va_S A s.heap H locs) (ls : Array Slot) (hl : lv_has ls 3 [(0, .ref (ad 0)), (1, .int a1)]) : W p l e { frames := 1, cells := 0, slots := 0, locals := 25 } s m args below meth c H locs 0 0 (MQ below (Qi D cy A r (mw cy ad σ')) args s 0 0 A) (F0 m 0 ls []) := by
  obtain ⟨⟨hx, hb, hml, hown, hts⟩, hK, hT, hA, hlk⟩ := id C
  unfold b_X8_again_0 at h
  refine lv_iload_n hx hb dX8_again_0 rfl (lv_at hl 1 rfl) ?_
  refine lv_i2l hx hb dX8_again_1 rfl ?_
  refine lv_lconst (v := 0) hx hb dX8_again_2 (by decide) ?_
  refine lv_lconst (v := 1) hx hb dX8_again_3 (by decide) ?_
  obtain ⟨r2, g1, h⟩ := cl_some h
  refine x_callSi (rest := []) C hP hD hS (c_X8_in g1) (va_cwS 3 hts (gS mw7_10 mw7_11 mw1_5 mw7_12) rfl rfl rfl hdS_X8_in ⟨Nat.le_of_ble_eq_true rfl, Nat.le_of_ble_eq_true rfl⟩) rfl hl.1 rfl (Nat.le_of_ble_eq_true rfl) dX8_again_4 ⟨Nat.zero_le _, Nat.zero_le _⟩ (fun H locs hP hD hS => ?_)
  refine lv_if_ne (tgt := 12) hx hb dX8_again_7 (by decide) (fun q3 => ?_) (fun q3 => ?_)
  · have h := ifn q3 h
    refine lv_aload_n hx hb dX8_again_12 rfl (lv_at hl 0 rfl) ?_
    refine x_get C hP inlX8 0 mw_0 rfl 32 (by decide) mw6_17 rfl dX8_again_13 ?_
    refine lv_iload_n hx hb dX8_again_16 rfl (lv_at hl 1 rfl) ?_
    obtain ⟨g4, x5, ex5, h⟩ := rd_some h
    refine x_zld C hP 20 mw_20 g4 ex5 dX8_again_17 ?_
    refine lv_if_ne (tgt := 24) hx hb dX8_again_18 (by decide) (fun q6 => ?_) (fun q6 => ?_)
    · have h := ifn q6 h
      refine lv_iconst (v := 0) hx hb dX8_again_24 (by decide) ?_
      refine lv_istore_n (lv' := [(2, .int (0 : Int32)), (0, .ref (ad 0)), (1, .int a1)]) hx hb dX8_again_25 rfl hl (by decide) rfl (fun ls hl => ?_)
      exact w_X8_again_26 C hr FU a1 (0 : Int32) σ h H locs hP hD hS ls (lv_sub hl [1, 2, 0] rfl)
    · have h := ifp q6 h
      refine lv_bipush (v := -3) hx hb dX8_again_21 (by decide) ?_
      obtain ⟨z1, z2⟩ := pr_inj h
      subst z1
      subst z2
      exact x_iret C hr hP hD hS dX8_again_23
  · have h := ifp q3 h
    refine lv_iconst (v := -1) hx hb dX8_again_10 (by decide) ?_
    obtain ⟨z1, z2⟩ := pr_inj h
    subst z1
    subst z2
    exact x_iret C hr hP hD hS dX8_again_11
theorem c_X8_again {l : Launch} {D : va_G} {cy : Nat → ClassId} {tT tF : Nat} {ad : Nat → Nat} {σ : ES} {a1 : Int32} {r : Int32} {σ' : ES} (h : e_X8_again a1 σ = some (r, σ')) : CMi l yX8_again (Cond.code yX8_again cX8_again 3 (some .int) :: wsL_law) { frames := 1, cells := 0, slots := 0, locals := 25 } D cy tT tF [.ref (ad 0), .int a1] (mw cy ad σ) r (mw cy ad σ') := x_start (Qc := fun A => (Qi D cy A r (mw cy ad σ'))) (by decide) (Nat.le_of_ble_eq_true rfl) (fun p e s m below meth c A ls C hr hP hD hS hl => w_X8_again_0 C hr a1 σ h s.heap [] hP hD hS ls hl)
set_option maxHeartbeats 4000000 in
set_option maxRecDepth 100000 in
theorem w_X8_count_46 (C : Cx p s m args meth c D cy tT tF A cX8_count 5 RX8) (hr : meth.sig.returnType = some .int) {r : Int32} {σ : ES} : ∀ (n : Nat) (v1 : Int32) (v2 : Int32) (v3 : Int32) (v4 : Int32), b_X8_count_46 σ n v1 v2 v3 v4 = some r → ∀ (H : Heap) (locs : List Loc) (hP : va_P D vwCl (mw cy ad σ) H) (hD : va_D A (mw cy ad σ)) (hS : va_S A s.heap H locs) (ls : Array Slot) (hl : lv_has ls 5 [(0, .ref (ad 0)), (1, .int v1), (2, .int v2), (3, .int v3), (4, .int v4)]), W p l e { frames := 1, cells := 0, slots := 0, locals := 22 } s m args below meth c H locs 0 0 (MQ below (Qi D cy A r (mw cy ad σ)) args s 0 0 A) (F0 m 46 ls []) := by
  obtain ⟨⟨hx, hb, hml, hown, hts⟩, hK, hT, hA, hlk⟩ := id C
  intro n
  induction n with
  | zero =>
    intro v1 v2 v3 v4 h
    exact no_some h
  | succ n ih =>
    intro v1 v2 v3 v4 h H locs hP hD hS ls hl
    rw [b_X8_count_46] at h
    refine lv_iload hx hb dX8_count_46 (lv_at hl 4 rfl) ?_
    refine lv_aload_n hx hb dX8_count_48 rfl (lv_at hl 0 rfl) ?_
    refine x_get C hP inlX8 0 mw_0 rfl 2 (by decide) mw12_4 rfl dX8_count_49 ?_
    refine lv_icmp_ge (tgt := 82) hx hb dX8_count_52 (by decide) (fun q1 => ?_) (fun q1 => ?_)
    · have h := ifp q1 h
      refine lv_iload_n hx hb dX8_count_82 rfl (lv_at hl 1 rfl) ?_
      by_cases q2 : v1 = (0 : Int32)
      · have h := ifp q2 h
        refine lv_tableIn (off := 53) (tgt := 136) hx hb dX8_count_83 (by rw [q2]; decide) (by rw [q2]; decide) (by rw [q2]; rfl) (by decide) ?_
        refine lv_aload_n hx hb dX8_count_136 rfl (lv_at hl 0 rfl) ?_
        refine x_get C hP inlX8 0 mw_0 rfl 13 (by decide) mw7_9 rfl dX8_count_137 ?_
        have z1 := so_inj h
        subst z1
        exact x_iret C hr hP hD hS dX8_count_140
      have h := ifn q2 h
      by_cases q3 : v1 = (1 : Int32)
      · have h := ifp q3 h
        refine lv_tableIn (off := 58) (tgt := 141) hx hb dX8_count_83 (by rw [q3]; decide) (by rw [q3]; decide) (by rw [q3]; rfl) (by decide) ?_
        refine lv_aload_n hx hb dX8_count_141 rfl (lv_at hl 0 rfl) ?_
        refine x_get C hP inlX8 0 mw_0 rfl 0 (by decide) mw6_19 rfl dX8_count_142 ?_
        have z1 := so_inj h
        subst z1
        exact x_iret C hr hP hD hS dX8_count_145
      have h := ifn q3 h
      by_cases q4 : v1 = (2 : Int32)
      · have h := ifp q4 h
        refine lv_tableIn (off := 63) (tgt := 146) hx hb dX8_count_83 (by rw [q4]; decide) (by rw [q4]; decide) (by rw [q4]; rfl) (by decide) ?_
        refine lv_aload_n hx hb dX8_count_146 rfl (lv_at hl 0 rfl) ?_
        refine x_get C hP inlX8 0 mw_0 rfl 1 (by decide) mw12_3 rfl dX8_count_147 ?_
        have z1 := so_inj h
        subst z1
        exact x_iret C hr hP hD hS dX8_count_150
      have h := ifn q4 h
      by_cases q5 : v1 = (3 : Int32)
      · have h := ifp q5 h
        refine lv_tableIn (off := 68) (tgt := 151) hx hb dX8_count_83 (by rw [q5]; decide) (by rw [q5]; decide) (by rw [q5]; rfl) (by decide) ?_
        refine lv_aload_n hx hb dX8_count_151 rfl (lv_at hl 0 rfl) ?_
        refine x_get C hP inlX8 0 mw_0 rfl 2 (by decide) mw12_4 rfl dX8_count_152 ?_
        have z1 := so_inj h
        subst z1
        exact x_iret C hr hP hD hS dX8_count_155
      have h := ifn q5 h
      by_cases q6 : v1 = (4 : Int32)
      · have h := ifp q6 h
        refine lv_tableIn (off := 73) (tgt := 156) hx hb dX8_count_83 (by rw [q6]; decide) (by rw [q6]; decide) (by rw [q6]; rfl) (by decide) ?_
        refine lv_aload_n hx hb dX8_count_156 rfl (lv_at hl 0 rfl) ?_
        refine x_get C hP inlX8 0 mw_0 rfl 11 (by decide) mw6_6 rfl dX8_count_157 ?_
        refine lv_bipush (v := 17) hx hb dX8_count_160 (by decide) ?_
        obtain ⟨g7, x8, ex8, h⟩ := rd_some h
        refine x_ild C hP 9 mw_9 g7 ex8 dX8_count_162 ?_
        have z1 := so_inj h
        subst z1
        exact x_iret C hr hP hD hS dX8_count_163
      have h := ifn q6 h
      by_cases q9 : v1 = (5 : Int32)
      · have h := ifp q9 h
        refine lv_tableIn (off := 81) (tgt := 164) hx hb dX8_count_83 (by rw [q9]; decide) (by rw [q9]; decide) (by rw [q9]; rfl) (by decide) ?_
        refine lv_iload_n hx hb dX8_count_164 rfl (lv_at hl 2 rfl) ?_
        have z1 := so_inj h
        subst z1
        exact x_iret C hr hP hD hS dX8_count_165
      have h := ifn q9 h
      by_cases q10 : v1 = (6 : Int32)
      · have h := ifp q10 h
        refine lv_tableIn (off := 83) (tgt := 166) hx hb dX8_count_83 (by rw [q10]; decide) (by rw [q10]; decide) (by rw [q10]; rfl) (by decide) ?_
        refine lv_iload_n hx hb dX8_count_166 rfl (lv_at hl 3 rfl) ?_
        have z1 := so_inj h
        subst z1
        exact x_iret C hr hP hD hS dX8_count_167
      have h := ifn q10 h
      by_cases q11 : v1 = (7 : Int32)
      · have h := ifp q11 h
        refine lv_tableIn (off := 85) (tgt := 168) hx hb dX8_count_83 (by rw [q11]; decide) (by rw [q11]; decide) (by rw [q11]; rfl) (by decide) ?_
        refine lv_aload_n hx hb dX8_count_168 rfl (lv_at hl 0 rfl) ?_
        refine x_get C hP inlX8 0 mw_0 rfl 11 (by decide) mw6_6 rfl dX8_count_169 ?_
        refine lv_bipush (v := 16) hx hb dX8_count_172 (by decide) ?_
        obtain ⟨g12, x13, ex13, h⟩ := rd_some h
        refine x_ild C hP 9 mw_9 g12 ex13 dX8_count_174 ?_
        have z1 := so_inj h
        subst z1
        exact x_iret C hr hP hD hS dX8_count_175
      have h := ifn q11 h
      by_cases q14 : v1 = (8 : Int32)
      · have h := ifp q14 h
        refine lv_tableIn (off := 93) (tgt := 176) hx hb dX8_count_83 (by rw [q14]; decide) (by rw [q14]; decide) (by rw [q14]; rfl) (by decide) ?_
        refine lv_aload_n hx hb dX8_count_176 rfl (lv_at hl 0 rfl) ?_
        refine x_get C hP inlX8 0 mw_0 rfl 22 (by decide) mw12_5 rfl dX8_count_177 ?_
        have z1 := so_inj h
        subst z1
        exact x_iret C hr hP hD hS dX8_count_180
      have h := ifn q14 h
      by_cases q15 : v1 = (9 : Int32)
      · have h := ifp q15 h
        refine lv_tableIn (off := 98) (tgt := 181) hx hb dX8_count_83 (by rw [q15]; decide) (by rw [q15]; decide) (by rw [q15]; rfl) (by decide) ?_
        refine lv_aload_n hx hb dX8_count_181 rfl (lv_at hl 0 rfl) ?_
        refine x_get C hP inlX8 0 mw_0 rfl 28 (by decide) mw29_15 rfl dX8_count_182 ?_
        have z1 := so_inj h
        subst z1
        exact x_iret C hr hP hD hS dX8_count_185
      have h := ifn q15 h
      refine lv_tableOut (tgt := 186) hx hb dX8_count_83 (by have z0 := lv_neT q2 (show ((0 : Int32)).toInt = 0 from rfl); have z1 := lv_neT q3 (show ((1 : Int32)).toInt = 1 from rfl); have z2 := lv_neT q4 (show ((2 : Int32)).toInt = 2 from rfl); have z3 := lv_neT q5 (show ((3 : Int32)).toInt = 3 from rfl); have z4 := lv_neT q6 (show ((4 : Int32)).toInt = 4 from rfl); have z5 := lv_neT q9 (show ((5 : Int32)).toInt = 5 from rfl); have z6 := lv_neT q10 (show ((6 : Int32)).toInt = 6 from rfl); have z7 := lv_neT q11 (show ((7 : Int32)).toInt = 7 from rfl); have z8 := lv_neT q14 (show ((8 : Int32)).toInt = 8 from rfl); have z9 := lv_neT q15 (show ((9 : Int32)).toInt = 9 from rfl); omega) (by decide) ?_
      refine lv_bipush (v := -2) hx hb dX8_count_186 (by decide) ?_
      have z1 := so_inj h
      subst z1
      exact x_iret C hr hP hD hS dX8_count_188
    · have h := ifn q1 h
      refine lv_iload_n hx hb dX8_count_55 rfl (lv_at hl 3 rfl) ?_
      refine lv_aload_n hx hb dX8_count_56 rfl (lv_at hl 0 rfl) ?_
      refine lv_iconst (v := 0) hx hb dX8_count_57 (by decide) ?_
      refine lv_iload hx hb dX8_count_58 (lv_at hl 4 rfl) ?_
      obtain ⟨r17, g16, h⟩ := cl_some h
      refine x_callVi (rest := [.int v3]) C hP hD hS (c_X8_isContent g16) (cwV 2 hts (gV mw14_18 mw14_19 mw14_20 mw1_5 mw14_21) rfl rfl rfl hdV_X8_isContent ⟨Nat.le_of_ble_eq_true rfl, Nat.le_of_ble_eq_true rfl⟩) mw_0 rfl rfl hl.1 rfl (Nat.le_of_ble_eq_true rfl) dX8_count_60 ⟨Nat.zero_le _, Nat.zero_le _⟩ (fun H locs hP hD hS => ?_)
      refine lv_if_eq (tgt := 73) hx hb dX8_count_63 (by decide) (fun q18 => ?_) (fun q18 => ?_)
      · have h := ifp q18 h
        refine lv_iconst (v := 0) hx hb dX8_count_73 (by decide) ?_
        refine lv_ior hx hb dX8_count_74 ?_
        obtain ⟨x19, ex19, h⟩ := lt_some h
        refine x_ti ex19 ?_
        refine lv_istore_n (lv' := [(3, .int x19), (0, .ref (ad 0)), (1, .int v1), (2, .int v2), (4, .int v4)]) hx hb dX8_count_75 rfl hl (by decide) rfl (fun ls hl => ?_)
        obtain ⟨x20, ex20, h⟩ := lt_some h
        refine lv_iinc (v := x20) (lv' := [(4, .int x20), (3, .int x19), (0, .ref (ad 0)), (1, .int v1), (2, .int v2)]) hx hb dX8_count_76 hl (k := 4) rfl (by rw [ex20]; rfl) (by decide) rfl (fun ls hl => ?_)
        refine lv_goto (tgt := 46) hx hb dX8_count_79 (by decide) ?_
        exact ih v1 v2 x19 x20 h H locs hP hD hS ls (lv_sub hl [2, 3, 4, 1, 0] rfl)
      · have h := ifn q18 h
        refine lv_iconst (v := 1) hx hb dX8_count_66 (by decide) ?_
        refine lv_iload hx hb dX8_count_67 (lv_at hl 4 rfl) ?_
        refine lv_ishl hx hb dX8_count_69 ?_
        refine lv_goto (tgt := 74) hx hb dX8_count_70 (by decide) ?_
        refine lv_ior hx hb dX8_count_74 ?_
        obtain ⟨x21, ex21, h⟩ := lt_some h
        refine x_ti ex21 ?_
        refine lv_istore_n (lv' := [(3, .int x21), (0, .ref (ad 0)), (1, .int v1), (2, .int v2), (4, .int v4)]) hx hb dX8_count_75 rfl hl (by decide) rfl (fun ls hl => ?_)
        obtain ⟨x22, ex22, h⟩ := lt_some h
        refine lv_iinc (v := x22) (lv' := [(4, .int x22), (3, .int x21), (0, .ref (ad 0)), (1, .int v1), (2, .int v2)]) hx hb dX8_count_76 hl (k := 4) rfl (by rw [ex22]; rfl) (by decide) rfl (fun ls hl => ?_)
        refine lv_goto (tgt := 46) hx hb dX8_count_79 (by decide) ?_
        exact ih v1 v2 x21 x22 h H locs hP hD hS ls (lv_sub hl [2, 3, 4, 1, 0] rfl)
set_option maxHeartbeats 4000000 in
set_option maxRecDepth 100000 in
theorem w_X8_count_4 (C : Cx p s m args meth c D cy tT tF A cX8_count 5 RX8) (hr : meth.sig.returnType = some .int) {r : Int32} {σ : ES} : ∀ (n : Nat) (v1 : Int32) (v2 : Int32) (v3 : Int32), b_X8_count_4 σ n v1 v2 v3 = some r → ∀ (H : Heap) (locs : List Loc) (hP : va_P D vwCl (mw cy ad σ) H) (hD : va_D A (mw cy ad σ)) (hS : va_S A s.heap H locs) (ls : Array Slot) (hl : lv_has ls 5 [(0, .ref (ad 0)), (1, .int v1), (2, .int v2), (3, .int v3)]), W p l e { frames := 1, cells := 0, slots := 0, locals := 22 } s m args below meth c H locs 0 0 (MQ below (Qi D cy A r (mw cy ad σ)) args s 0 0 A) (F0 m 4 ls []) := by
  obtain ⟨⟨hx, hb, hml, hown, hts⟩, hK, hT, hA, hlk⟩ := id C
  intro n
  induction n with
  | zero =>
    intro v1 v2 v3 h
    exact no_some h
  | succ n ih =>
    intro v1 v2 v3 h H locs hP hD hS ls hl
    rw [b_X8_count_4] at h
    refine lv_iload_n hx hb dX8_count_4 rfl (lv_at hl 3 rfl) ?_
    refine lv_aload_n hx hb dX8_count_5 rfl (lv_at hl 0 rfl) ?_
    refine x_get C hP inlX8 0 mw_0 rfl 1 (by decide) mw12_3 rfl dX8_count_6 ?_
    refine lv_icmp_ge (tgt := 41) hx hb dX8_count_9 (by decide) (fun q1 => ?_) (fun q1 => ?_)
    · have h := ifp q1 h
      refine lv_iconst (v := 0) hx hb dX8_count_41 (by decide) ?_
      refine lv_istore_n (lv' := [(3, .int (0 : Int32)), (0, .ref (ad 0)), (1, .int v1), (2, .int v2)]) hx hb dX8_count_42 rfl hl (by decide) rfl (fun ls hl => ?_)
      refine lv_iconst (v := 0) hx hb dX8_count_43 (by decide) ?_
      refine lv_istore (lv' := [(4, .int (0 : Int32)), (3, .int (0 : Int32)), (0, .ref (ad 0)), (1, .int v1), (2, .int v2)]) hx hb dX8_count_44 hl (by decide) rfl (fun ls hl => ?_)
      exact w_X8_count_46 C hr FU v1 v2 (0 : Int32) (0 : Int32) h H locs hP hD hS ls (lv_sub hl [2, 3, 4, 1, 0] rfl)
    · have h := ifn q1 h
      refine lv_iload_n hx hb dX8_count_12 rfl (lv_at hl 2 rfl) ?_
      refine lv_aload_n hx hb dX8_count_13 rfl (lv_at hl 0 rfl) ?_
      refine x_get C hP inlX8 0 mw_0 rfl 11 (by decide) mw6_6 rfl dX8_count_14 ?_
      refine lv_bipush (v := 8) hx hb dX8_count_17 (by decide) ?_
      refine lv_iload_n hx hb dX8_count_19 rfl (lv_at hl 3 rfl) ?_
      refine lv_iadd hx hb dX8_count_20 ?_
      obtain ⟨g2, x3, ex3, h⟩ := rd_some h
      refine x_ild C hP 9 mw_9 g2 ex3 dX8_count_21 ?_
      refine lv_iconst (v := 1) hx hb dX8_count_22 (by decide) ?_
      refine lv_icmp_ne (tgt := 32) hx hb dX8_count_23 (by decide) (fun q4 => ?_) (fun q4 => ?_)
      · have h := ifn q4 h
        refine lv_iconst (v := 0) hx hb dX8_count_32 (by decide) ?_
        refine lv_ior hx hb dX8_count_33 ?_
        obtain ⟨x5, ex5, h⟩ := lt_some h
        refine x_ti ex5 ?_
        refine lv_istore_n (lv' := [(2, .int x5), (0, .ref (ad 0)), (1, .int v1), (3, .int v3)]) hx hb dX8_count_34 rfl hl (by decide) rfl (fun ls hl => ?_)
        obtain ⟨x6, ex6, h⟩ := lt_some h
        refine lv_iinc (v := x6) (lv' := [(3, .int x6), (2, .int x5), (0, .ref (ad 0)), (1, .int v1)]) hx hb dX8_count_35 hl (k := 3) rfl (by rw [ex6]; rfl) (by decide) rfl (fun ls hl => ?_)
        refine lv_goto (tgt := 4) hx hb dX8_count_38 (by decide) ?_
        exact ih v1 x5 x6 h H locs hP hD hS ls (lv_sub hl [2, 3, 1, 0] rfl)
      · have h := ifp q4 h
        refine lv_iconst (v := 1) hx hb dX8_count_26 (by decide) ?_
        refine lv_iload_n hx hb dX8_count_27 rfl (lv_at hl 3 rfl) ?_
        refine lv_ishl hx hb dX8_count_28 ?_
        refine lv_goto (tgt := 33) hx hb dX8_count_29 (by decide) ?_
        refine lv_ior hx hb dX8_count_33 ?_
        obtain ⟨x7, ex7, h⟩ := lt_some h
        refine x_ti ex7 ?_
        refine lv_istore_n (lv' := [(2, .int x7), (0, .ref (ad 0)), (1, .int v1), (3, .int v3)]) hx hb dX8_count_34 rfl hl (by decide) rfl (fun ls hl => ?_)
        obtain ⟨x8, ex8, h⟩ := lt_some h
        refine lv_iinc (v := x8) (lv' := [(3, .int x8), (2, .int x7), (0, .ref (ad 0)), (1, .int v1)]) hx hb dX8_count_35 hl (k := 3) rfl (by rw [ex8]; rfl) (by decide) rfl (fun ls hl => ?_)
        refine lv_goto (tgt := 4) hx hb dX8_count_38 (by decide) ?_
        exact ih v1 x7 x8 h H locs hP hD hS ls (lv_sub hl [2, 3, 1, 0] rfl)
set_option maxHeartbeats 4000000 in
set_option maxRecDepth 100000 in
theorem w_X8_count_0 (C : Cx p s m args meth c D cy tT tF A cX8_count 5 RX8) (hr : meth.sig.returnType = some .int) {r : Int32} {σ : ES} (a1 : Int32) (h : b_X8_count_0 σ a1 = some r) (H : Heap) (locs : List Loc) (hP : va_P D vwCl (mw cy ad σ) H) (hD : va_D A (mw cy ad σ)) (hS : va_S A s.heap H locs) (ls : Array Slot) (hl : lv_has ls 5 [(0, .ref (ad 0)), (1, .int a1)]) : W p l e { frames := 1, cells := 0, slots := 0, locals := 22 } s m args below meth c H locs 0 0 (MQ below (Qi D cy A r (mw cy ad σ)) args s 0 0 A) (F0 m 0 ls []) := by
  obtain ⟨⟨hx, hb, hml, hown, hts⟩, hK, hT, hA, hlk⟩ := id C
  unfold b_X8_count_0 at h
  refine lv_iconst (v := 0) hx hb dX8_count_0 (by decide) ?_
  refine lv_istore_n (lv' := [(2, .int (0 : Int32)), (0, .ref (ad 0)), (1, .int a1)]) hx hb dX8_count_1 rfl hl (by decide) rfl (fun ls hl => ?_)
  refine lv_iconst (v := 0) hx hb dX8_count_2 (by decide) ?_
  refine lv_istore_n (lv' := [(3, .int (0 : Int32)), (2, .int (0 : Int32)), (0, .ref (ad 0)), (1, .int a1)]) hx hb dX8_count_3 rfl hl (by decide) rfl (fun ls hl => ?_)
  exact w_X8_count_4 C hr FU a1 (0 : Int32) (0 : Int32) h H locs hP hD hS ls (lv_sub hl [2, 3, 1, 0] rfl)
theorem c_X8_count {l : Launch} {D : va_G} {cy : Nat → ClassId} {tT tF : Nat} {ad : Nat → Nat} {a1 : Int32} {r : Int32} {σ : ES} (h : e_X8_count a1 σ = some r) : CMi l yX8_count (Cond.code yX8_count cX8_count 5 (some .int) :: wsL_law) { frames := 1, cells := 0, slots := 0, locals := 22 } D cy tT tF [.ref (ad 0), .int a1] (mw cy ad σ) r (mw cy ad σ) := x_start (Qc := fun A => (Qi D cy A r (mw cy ad σ))) (by decide) (Nat.le_of_ble_eq_true rfl) (fun p e s m below meth c A ls C hr hP hD hS hl => w_X8_count_0 C hr a1 h s.heap [] hP hD hS ls hl)
set_option maxHeartbeats 4000000 in
set_option maxRecDepth 100000 in
theorem w_X6_append_1_0 (C : Cx p s m args meth c D cy tT tF A cX6_append 2 RX6) (hr : meth.sig.returnType = some .int) {r : Int32} {σ' : ES} (a1 : Int32) (σ : ES) (h : b_X6_append_1_0 a1 σ = some (r, σ')) (H : Heap) (locs : List Loc) (hP : va_P D vwCl (xw cy ad σ) H) (hD : va_D A (xw cy ad σ)) (hS : va_S A s.heap H locs) (ls : Array Slot) (hl : lv_has ls 2 [(0, .ref (ad 1)), (1, .int a1)]) : W p l e { frames := 0, cells := 0, slots := 0, locals := 0 } s m args below meth c H locs 0 0 (MQ below (Qi D cy A r (xw cy ad σ')) args s 0 0 A) (F0 m 0 ls []) := by
  obtain ⟨⟨hx, hb, hml, hown, hts⟩, hK, hT, hA, hlk⟩ := id C
  unfold b_X6_append_1_0 at h
  refine lv_aload_n hx hb dX6_append_0 rfl (lv_at hl 0 rfl) ?_
  refine x_get C hP inlX6 1 xw_1 rfl 1 (by decide) mw3_5 rfl dX6_append_1 ?_
  refine lv_bipush (v := 64) hx hb dX6_append_4 (by decide) ?_
  refine lv_icmp_lt (tgt := 12) hx hb dX6_append_6 (by decide) (fun q1 => ?_) (fun q1 => ?_)
  · have h := ifp q1 h
    refine lv_aload_n hx hb dX6_append_12 rfl (lv_at hl 0 rfl) ?_
    refine x_get C hP inlX6 1 xw_1 rfl 0 (by decide) mw3_4 rfl dX6_append_13 ?_
    refine lv_aload_n hx hb dX6_append_16 rfl (lv_at hl 0 rfl) ?_
    refine x_get C hP inlX6 1 xw_1 rfl 1 (by decide) mw3_5 rfl dX6_append_17 ?_
    refine lv_iload_n hx hb dX6_append_20 rfl (lv_at hl 1 rfl) ?_
    obtain ⟨g2, σ3, eσ3, h⟩ := wr_some h
    refine x_ist C hP hD hS 2 xw_2 g2 (xa_2 eσ3) dX6_append_21 (fun H locs hP hD hS => ?_)
    refine lv_aload_n hx hb dX6_append_22 rfl (lv_at hl 0 rfl) ?_
    refine lv_dup hx hb dX6_append_23 rfl ?_
    refine x_get C hP inlX6 1 xw_1 rfl 1 (by decide) mw3_5 rfl dX6_append_24 ?_
    refine lv_iconst (v := 1) hx hb dX6_append_27 (by decide) ?_
    refine lv_iadd hx hb dX6_append_28 ?_
    obtain ⟨σ4, eσ4, h⟩ := lt_some h
    refine x_put C hP hD hS inlX6 tyX6 tyX6_ok nmX6 1 xw_1 rfl 1 (by decide) mw3_5 rfl rfl rfl (Nat.le_of_ble_eq_true rfl) (xs_1_1 eσ4) dX6_append_29 (fun H locs hP hD hS => ?_)
    refine lv_aload_n hx hb dX6_append_32 rfl (lv_at hl 0 rfl) ?_
    refine x_get C hP inlX6 1 xw_1 rfl 1 (by decide) mw3_5 rfl dX6_append_33 ?_
    obtain ⟨z1, z2⟩ := pr_inj h
    subst z1
    subst z2
    exact x_iret C hr hP hD hS dX6_append_36
  · have h := ifn q1 h
    refine lv_bipush (v := -4) hx hb dX6_append_9 (by decide) ?_
    obtain ⟨z1, z2⟩ := pr_inj h
    subst z1
    subst z2
    exact x_iret C hr hP hD hS dX6_append_11
theorem c_X6_append_1 {l : Launch} {D : va_G} {cy : Nat → ClassId} {tT tF : Nat} {ad : Nat → Nat} {σ : ES} {a1 : Int32} {r : Int32} {σ' : ES} (h : e_X6_append_1 a1 σ = some (r, σ')) : CMi l yX6_append (Cond.code yX6_append cX6_append 2 (some .int) :: wsL_law) { frames := 0, cells := 0, slots := 0, locals := 0 } D cy tT tF [.ref (ad 1), .int a1] (xw cy ad σ) r (xw cy ad σ') := x_start (Qc := fun A => (Qi D cy A r (xw cy ad σ'))) (by decide) (Nat.le_of_ble_eq_true rfl) (fun p e s m below meth c A ls C hr hP hD hS hl => w_X6_append_1_0 C hr a1 σ h s.heap [] hP hD hS ls hl)
set_option maxHeartbeats 4000000 in
set_option maxRecDepth 100000 in
theorem w_X7_write_0_0 (C : Cx p s m args meth c D cy tT tF A cX7_write 2 RX7) (hr : meth.sig.returnType = some .int) {r : Int32} {σ' : ES} (a1 : Int32) (σ : ES) (h : b_X7_write_0_0 a1 σ = some (r, σ')) (H : Heap) (locs : List Loc) (hP : va_P D vwCl (xw cy ad σ) H) (hD : va_D A (xw cy ad σ)) (hS : va_S A s.heap H locs) (ls : Array Slot) (hl : lv_has ls 2 [(0, .ref (ad 0)), (1, .int a1)]) : W p l e { frames := 1, cells := 0, slots := 0, locals := 21 } s m args below meth c H locs 0 0 (MQ below (Qi D cy A r (xw cy ad σ')) args s 0 0 A) (F0 m 0 ls []) := by
  obtain ⟨⟨hx, hb, hml, hown, hts⟩, hK, hT, hA, hlk⟩ := id C
  unfold b_X7_write_0_0 at h
  refine lv_iload_n hx hb dX7_write_0 rfl (lv_at hl 1 rfl) ?_
  refine lv_if_lt (tgt := 11) hx hb dX7_write_1 (by decide) (fun q1 => ?_) (fun q1 => ?_)
  · have h := ifp q1 h
    refine lv_bipush (v := -2) hx hb dX7_write_11 (by decide) ?_
    obtain ⟨z1, z2⟩ := pr_inj h
    subst z1
    subst z2
    exact x_iret C hr hP hD hS dX7_write_13
  · have h := ifn q1 h
    refine lv_iload_n hx hb dX7_write_4 rfl (lv_at hl 1 rfl) ?_
    refine lv_sipush (v := 255) hx hb dX7_write_5 (by decide) ?_
    refine lv_icmp_le (tgt := 14) hx hb dX7_write_8 (by decide) (fun q2 => ?_) (fun q2 => ?_)
    · have h := ifp q2 h
      refine lv_aload_n hx hb dX7_write_14 rfl (lv_at hl 0 rfl) ?_
      refine x_get C hP inlX7 0 xw_0 rfl 0 (by decide) mw1_16 rfl dX7_write_15 ?_
      refine lv_iload_n hx hb dX7_write_18 rfl (lv_at hl 1 rfl) ?_
      obtain ⟨r5, σ4, g3, h⟩ := cs_some h
      refine x_callVi (rest := []) C hP hD hS (c_X6_append_1 g3) (cwV 1 hts (gV mw7_0 mw7_1 mw7_2 mw1_15 mw7_3) rfl rfl rfl hdV_X6_append ⟨Nat.le_of_ble_eq_true rfl, Nat.le_of_ble_eq_true rfl⟩) xw_1 rfl rfl hl.1 rfl (Nat.le_of_ble_eq_true rfl) dX7_write_19 ⟨Nat.zero_le _, Nat.zero_le _⟩ (fun H locs hP hD hS => ?_)
      obtain ⟨z1, z2⟩ := pr_inj h
      subst z1
      subst z2
      exact x_iret C hr hP hD hS dX7_write_22
    · have h := ifn q2 h
      refine lv_bipush (v := -2) hx hb dX7_write_11 (by decide) ?_
      obtain ⟨z1, z2⟩ := pr_inj h
      subst z1
      subst z2
      exact x_iret C hr hP hD hS dX7_write_13
theorem c_X7_write_0 {l : Launch} {D : va_G} {cy : Nat → ClassId} {tT tF : Nat} {ad : Nat → Nat} {σ : ES} {a1 : Int32} {r : Int32} {σ' : ES} (h : e_X7_write_0 a1 σ = some (r, σ')) : CMi l yX7_write (Cond.code yX7_write cX7_write 2 (some .int) :: wsL_law) { frames := 1, cells := 0, slots := 0, locals := 21 } D cy tT tF [.ref (ad 0), .int a1] (xw cy ad σ) r (xw cy ad σ') := x_start (Qc := fun A => (Qi D cy A r (xw cy ad σ'))) (by decide) (Nat.le_of_ble_eq_true rfl) (fun p e s m below meth c A ls C hr hP hD hS hl => w_X7_write_0_0 C hr a1 σ h s.heap [] hP hD hS ls hl)
set_option maxHeartbeats 4000000 in
set_option maxRecDepth 100000 in
theorem w_X6_clear_1_0 (C : Cx p s m args meth c D cy tT tF A cX6_clear 2 RX6) (hr : meth.sig.returnType = some .int) {r : Int32} {σ' : ES} (σ : ES) (h : b_X6_clear_1_0 σ = some (r, σ')) (H : Heap) (locs : List Loc) (hP : va_P D vwCl (xw cy ad σ) H) (hD : va_D A (xw cy ad σ)) (hS : va_S A s.heap H locs) (ls : Array Slot) (hl : lv_has ls 2 [(0, .ref (ad 1))]) : W p l e { frames := 0, cells := 0, slots := 0, locals := 0 } s m args below meth c H locs 0 0 (MQ below (Qi D cy A r (xw cy ad σ')) args s 0 0 A) (F0 m 0 ls []) := by
  obtain ⟨⟨hx, hb, hml, hown, hts⟩, hK, hT, hA, hlk⟩ := id C
  unfold b_X6_clear_1_0 at h
  refine lv_aload_n hx hb dX6_clear_0 rfl (lv_at hl 0 rfl) ?_
  refine x_get C hP inlX6 1 xw_1 rfl 1 (by decide) mw3_5 rfl dX6_clear_1 ?_
  obtain ⟨x1, ex1, h⟩ := lt_some h
  refine x_ti ex1 ?_
  refine lv_istore_n (lv' := [(1, .int x1), (0, .ref (ad 1))]) hx hb dX6_clear_4 rfl hl (by decide) rfl (fun ls hl => ?_)
  refine lv_aload_n hx hb dX6_clear_5 rfl (lv_at hl 1 rfl) ?_
  refine lv_iconst (v := 0) hx hb dX6_clear_6 (by decide) ?_
  obtain ⟨σ2, eσ2, h⟩ := lt_some h
  refine x_put C hP hD hS inlX6 tyX6 tyX6_ok nmX6 1 xw_1 rfl 1 (by decide) mw3_5 rfl rfl rfl (Nat.le_of_ble_eq_true rfl) (xs_1_1 eσ2) dX6_clear_7 (fun H locs hP hD hS => ?_)
  refine lv_iload_n hx hb dX6_clear_10 rfl (lv_at hl 0 rfl) ?_
  obtain ⟨z1, z2⟩ := pr_inj h
  subst z1
  subst z2
  exact x_iret C hr hP hD hS dX6_clear_11
theorem c_X6_clear_1 {l : Launch} {D : va_G} {cy : Nat → ClassId} {tT tF : Nat} {ad : Nat → Nat} {σ : ES} {r : Int32} {σ' : ES} (h : e_X6_clear_1  σ = some (r, σ')) : CMi l yX6_clear (Cond.code yX6_clear cX6_clear 2 (some .int) :: wsL_law) { frames := 0, cells := 0, slots := 0, locals := 0 } D cy tT tF [.ref (ad 1)] (xw cy ad σ) r (xw cy ad σ') := x_start (Qc := fun A => (Qi D cy A r (xw cy ad σ'))) (by decide) (Nat.le_of_ble_eq_true rfl) (fun p e s m below meth c A ls C hr hP hD hS hl => w_X6_clear_1_0 C hr  σ h s.heap [] hP hD hS ls hl)
set_option maxHeartbeats 4000000 in
set_option maxRecDepth 100000 in
theorem w_X7_wipe_0_0 (C : Cx p s m args meth c D cy tT tF A cX7_wipe 1 RX7) (hr : meth.sig.returnType = some .int) {r : Int32} {σ' : ES} (σ : ES) (h : b_X7_wipe_0_0 σ = some (r, σ')) (H : Heap) (locs : List Loc) (hP : va_P D vwCl (xw cy ad σ) H) (hD : va_D A (xw cy ad σ)) (hS : va_S A s.heap H locs) (ls : Array Slot) (hl : lv_has ls 1 [(0, .ref (ad 0))]) : W p l e { frames := 1, cells := 0, slots := 0, locals := 21 } s m args below meth c H locs 0 0 (MQ below (Qi D cy A r (xw cy ad σ')) args s 0 0 A) (F0 m 0 ls []) := by
  obtain ⟨⟨hx, hb, hml, hown, hts⟩, hK, hT, hA, hlk⟩ := id C
  unfold b_X7_wipe_0_0 at h
  refine lv_aload_n hx hb dX7_wipe_0 rfl (lv_at hl 0 rfl) ?_
  refine x_get C hP inlX7 0 xw_0 rfl 0 (by decide) mw1_16 rfl dX7_wipe_1 ?_
  obtain ⟨r3, σ2, g1, h⟩ := cs_some h
  refine x_callVi (rest := []) C hP hD hS (c_X6_clear_1 g1) (cwV 0 hts (gV mw7_17 mw7_18 mw7_19 mw1_15 mw7_20) rfl rfl rfl hdV_X6_clear ⟨Nat.le_of_ble_eq_true rfl, Nat.le_of_ble_eq_true rfl⟩) xw_1 rfl rfl hl.1 rfl (Nat.le_of_ble_eq_true rfl) dX7_wipe_4 ⟨Nat.zero_le _, Nat.zero_le _⟩ (fun H locs hP hD hS => ?_)
  obtain ⟨z1, z2⟩ := pr_inj h
  subst z1
  subst z2
  exact x_iret C hr hP hD hS dX7_wipe_7
theorem c_X7_wipe_0 {l : Launch} {D : va_G} {cy : Nat → ClassId} {tT tF : Nat} {ad : Nat → Nat} {σ : ES} {r : Int32} {σ' : ES} (h : e_X7_wipe_0  σ = some (r, σ')) : CMi l yX7_wipe (Cond.code yX7_wipe cX7_wipe 1 (some .int) :: wsL_law) { frames := 1, cells := 0, slots := 0, locals := 21 } D cy tT tF [.ref (ad 0)] (xw cy ad σ) r (xw cy ad σ') := x_start (Qc := fun A => (Qi D cy A r (xw cy ad σ'))) (by decide) (Nat.le_of_ble_eq_true rfl) (fun p e s m below meth c A ls C hr hP hD hS hl => w_X7_wipe_0_0 C hr  σ h s.heap [] hP hD hS ls hl)
set_option maxHeartbeats 4000000 in
set_option maxRecDepth 100000 in
theorem w_X3_clear_39_0 (C : Cx p s m args meth c D cy tT tF A cX3_clear 1 RX3) (hr : meth.sig.returnType = none) {σ' : ES} (σ : ES) (h : b_X3_clear_39_0 σ = some σ') (H : Heap) (locs : List Loc) (hP : va_P D vwCl (xw cy ad σ) H) (hD : va_D A (xw cy ad σ)) (hS : va_S A s.heap H locs) (ls : Array Slot) (hl : lv_has ls 1 [(0, .ref (ad 39))]) : W p l e { frames := 0, cells := 0, slots := 0, locals := 0 } s m args below meth c H locs 0 0 (MQ below (Qv D cy A (xw cy ad σ')) args s 0 0 A) (F0 m 0 ls []) := by
  obtain ⟨⟨hx, hb, hml, hown, hts⟩, hK, hT, hA, hlk⟩ := id C
  unfold b_X3_clear_39_0 at h
  refine lv_aload_n hx hb dX3_clear_0 rfl (lv_at hl 0 rfl) ?_
  refine lv_iconst (v := 0) hx hb dX3_clear_1 (by decide) ?_
  obtain ⟨σ1, eσ1, h⟩ := lt_some h
  refine x_put C hP hD hS inlX3 tyX3 tyX3_ok nmX3 39 xw_39 rfl 8 (by decide) mw5_15 rfl rfl rfl (Nat.le_of_ble_eq_true rfl) (xs_39_8 eσ1) dX3_clear_2 (fun H locs hP hD hS => ?_)
  refine lv_aload_n hx hb dX3_clear_5 rfl (lv_at hl 0 rfl) ?_
  refine lv_iconst (v := 0) hx hb dX3_clear_6 (by decide) ?_
  obtain ⟨σ2, eσ2, h⟩ := lt_some h
  refine x_put C hP hD hS inlX3 tyX3 tyX3_ok nmX3 39 xw_39 rfl 9 (by decide) mw5_16 rfl rfl rfl (Nat.le_of_ble_eq_true rfl) (xs_39_9 eσ2) dX3_clear_7 (fun H locs hP hD hS => ?_)
  refine lv_aload_n hx hb dX3_clear_10 rfl (lv_at hl 0 rfl) ?_
  refine lv_iconst (v := 0) hx hb dX3_clear_11 (by decide) ?_
  obtain ⟨σ3, eσ3, h⟩ := lt_some h
  refine x_put C hP hD hS inlX3 tyX3 tyX3_ok nmX3 39 xw_39 rfl 10 (by decide) mw5_17 rfl rfl rfl (Nat.le_of_ble_eq_true rfl) (xs_39_10 eσ3) dX3_clear_12 (fun H locs hP hD hS => ?_)
  have z1 := so_inj h
  subst z1
  exact x_vret C hr hP hD hS dX3_clear_15
theorem c_X3_clear_39 {l : Launch} {D : va_G} {cy : Nat → ClassId} {tT tF : Nat} {ad : Nat → Nat} {σ : ES} {σ' : ES} (h : e_X3_clear_39  σ = some σ') : CMv l yX3_clear (Cond.code yX3_clear cX3_clear 1 none :: wsL_law) { frames := 0, cells := 0, slots := 0, locals := 0 } D cy tT tF [.ref (ad 39)] (xw cy ad σ) (xw cy ad σ') := x_start (Qc := fun A => (Qv D cy A (xw cy ad σ'))) (by decide) (Nat.le_of_ble_eq_true rfl) (fun p e s m below meth c A ls C hr hP hD hS hl => w_X3_clear_39_0 C hr  σ h s.heap [] hP hD hS ls hl)
set_option maxHeartbeats 4000000 in
set_option maxRecDepth 100000 in
theorem w_X6_letterAt_1_0 (C : Cx p s m args meth c D cy tT tF A cX6_letterAt 2 RX6) (hr : meth.sig.returnType = some .int) {r : Int32} {σ : ES} (a1 : Int32) (h : b_X6_letterAt_1_0 σ a1 = some r) (H : Heap) (locs : List Loc) (hP : va_P D vwCl (xw cy ad σ) H) (hD : va_D A (xw cy ad σ)) (hS : va_S A s.heap H locs) (ls : Array Slot) (hl : lv_has ls 2 [(0, .ref (ad 1)), (1, .int a1)]) : W p l e { frames := 0, cells := 0, slots := 0, locals := 0 } s m args below meth c H locs 0 0 (MQ below (Qi D cy A r (xw cy ad σ)) args s 0 0 A) (F0 m 0 ls []) := by
  obtain ⟨⟨hx, hb, hml, hown, hts⟩, hK, hT, hA, hlk⟩ := id C
  unfold b_X6_letterAt_1_0 at h
  refine lv_iload_n hx hb dX6_letterAt_0 rfl (lv_at hl 1 rfl) ?_
  refine lv_if_lt (tgt := 21) hx hb dX6_letterAt_1 (by decide) (fun q1 => ?_) (fun q1 => ?_)
  · have h := ifp q1 h
    refine lv_bipush (v := -9) hx hb dX6_letterAt_21 (by decide) ?_
    have z1 := so_inj h
    subst z1
    exact x_iret C hr hP hD hS dX6_letterAt_23
  · have h := ifn q1 h
    refine lv_iload_n hx hb dX6_letterAt_4 rfl (lv_at hl 1 rfl) ?_
    refine lv_aload_n hx hb dX6_letterAt_5 rfl (lv_at hl 0 rfl) ?_
    refine x_get C hP inlX6 1 xw_1 rfl 1 (by decide) mw3_5 rfl dX6_letterAt_6 ?_
    refine lv_icmp_ge (tgt := 21) hx hb dX6_letterAt_9 (by decide) (fun q2 => ?_) (fun q2 => ?_)
    · have h := ifp q2 h
      refine lv_bipush (v := -9) hx hb dX6_letterAt_21 (by decide) ?_
      have z1 := so_inj h
      subst z1
      exact x_iret C hr hP hD hS dX6_letterAt_23
    · have h := ifn q2 h
      refine lv_aload_n hx hb dX6_letterAt_12 rfl (lv_at hl 0 rfl) ?_
      refine x_get C hP inlX6 1 xw_1 rfl 0 (by decide) mw3_4 rfl dX6_letterAt_13 ?_
      refine lv_iload_n hx hb dX6_letterAt_16 rfl (lv_at hl 1 rfl) ?_
      obtain ⟨g3, x4, ex4, h⟩ := rd_some h
      refine x_ild C hP 2 xw_2 g3 ex4 dX6_letterAt_17 ?_
      refine lv_goto (tgt := 23) hx hb dX6_letterAt_18 (by decide) ?_
      have z1 := so_inj h
      subst z1
      exact x_iret C hr hP hD hS dX6_letterAt_23
theorem c_X6_letterAt_1 {l : Launch} {D : va_G} {cy : Nat → ClassId} {tT tF : Nat} {ad : Nat → Nat} {a1 : Int32} {r : Int32} {σ : ES} (h : e_X6_letterAt_1 a1 σ = some r) : CMi l yX6_letterAt (Cond.code yX6_letterAt cX6_letterAt 2 (some .int) :: wsL_law) { frames := 0, cells := 0, slots := 0, locals := 0 } D cy tT tF [.ref (ad 1), .int a1] (xw cy ad σ) r (xw cy ad σ) := x_start (Qc := fun A => (Qi D cy A r (xw cy ad σ))) (by decide) (Nat.le_of_ble_eq_true rfl) (fun p e s m below meth c A ls C hr hP hD hS hl => w_X6_letterAt_1_0 C hr a1 h s.heap [] hP hD hS ls hl)
set_option maxHeartbeats 4000000 in
set_option maxRecDepth 100000 in
theorem w_X6_momentAt_1_0 (C : Cx p s m args meth c D cy tT tF A cX6_momentAt 3 RX6) (hr : meth.sig.returnType = some .int) {r : Int32} {σ : ES} (a1 : Int32) (h : b_X6_momentAt_1_0 σ a1 = some r) (H : Heap) (locs : List Loc) (hP : va_P D vwCl (xw cy ad σ) H) (hD : va_D A (xw cy ad σ)) (hS : va_S A s.heap H locs) (ls : Array Slot) (hl : lv_has ls 3 [(0, .ref (ad 1)), (1, .int a1)]) : W p l e { frames := 1, cells := 0, slots := 0, locals := 21 } s m args below meth c H locs 0 0 (MQ below (Qi D cy A r (xw cy ad σ)) args s 0 0 A) (F0 m 0 ls []) := by
  obtain ⟨⟨hx, hb, hml, hown, hts⟩, hK, hT, hA, hlk⟩ := id C
  unfold b_X6_momentAt_1_0 at h
  refine lv_aload_n hx hb dX6_momentAt_0 rfl (lv_at hl 0 rfl) ?_
  refine lv_iload_n hx hb dX6_momentAt_1 rfl (lv_at hl 1 rfl) ?_
  obtain ⟨r2, g1, h⟩ := cl_some h
  refine x_callVi (rest := []) C hP hD hS (c_X6_letterAt_1 g1) (cwV 1 hts (gV mw8_15 mw8_16 mw8_17 mw1_15 mw8_18) rfl rfl rfl hdV_X6_letterAt ⟨Nat.le_of_ble_eq_true rfl, Nat.le_of_ble_eq_true rfl⟩) xw_1 rfl rfl hl.1 rfl (Nat.le_of_ble_eq_true rfl) dX6_momentAt_2 ⟨Nat.zero_le _, Nat.zero_le _⟩ (fun H locs hP hD hS => ?_)
  refine lv_istore_n (lv' := [(2, .int r2), (0, .ref (ad 1)), (1, .int a1)]) hx hb dX6_momentAt_5 rfl hl (by decide) rfl (fun ls hl => ?_)
  refine lv_iload_n hx hb dX6_momentAt_6 rfl (lv_at hl 0 rfl) ?_
  refine lv_bipush (v := 45) hx hb dX6_momentAt_7 (by decide) ?_
  refine lv_icmp_ne (tgt := 14) hx hb dX6_momentAt_9 (by decide) (fun q3 => ?_) (fun q3 => ?_)
  · have h := ifn q3 h
    refine lv_iload_n hx hb dX6_momentAt_14 rfl (lv_at hl 0 rfl) ?_
    refine lv_bipush (v := 97) hx hb dX6_momentAt_15 (by decide) ?_
    refine lv_icmp_lt (tgt := 33) hx hb dX6_momentAt_17 (by decide) (fun q4 => ?_) (fun q4 => ?_)
    · have h := ifp q4 h
      refine lv_bipush (v := -9) hx hb dX6_momentAt_33 (by decide) ?_
      have z1 := so_inj h
      subst z1
      exact x_iret C hr hP hD hS dX6_momentAt_35
    · have h := ifn q4 h
      refine lv_iload_n hx hb dX6_momentAt_20 rfl (lv_at hl 0 rfl) ?_
      refine lv_bipush (v := 100) hx hb dX6_momentAt_21 (by decide) ?_
      refine lv_icmp_gt (tgt := 33) hx hb dX6_momentAt_23 (by decide) (fun q5 => ?_) (fun q5 => ?_)
      · have h := ifp q5 h
        refine lv_bipush (v := -9) hx hb dX6_momentAt_33 (by decide) ?_
        have z1 := so_inj h
        subst z1
        exact x_iret C hr hP hD hS dX6_momentAt_35
      · have h := ifn q5 h
        refine lv_iload_n hx hb dX6_momentAt_26 rfl (lv_at hl 0 rfl) ?_
        refine lv_bipush (v := 97) hx hb dX6_momentAt_27 (by decide) ?_
        refine lv_isub hx hb dX6_momentAt_29 ?_
        refine lv_goto (tgt := 35) hx hb dX6_momentAt_30 (by decide) ?_
        have z1 := so_inj h
        subst z1
        exact x_iret C hr hP hD hS dX6_momentAt_35
  · have h := ifp q3 h
    refine lv_iconst (v := 4) hx hb dX6_momentAt_12 (by decide) ?_
    have z1 := so_inj h
    subst z1
    exact x_iret C hr hP hD hS dX6_momentAt_13
theorem c_X6_momentAt_1 {l : Launch} {D : va_G} {cy : Nat → ClassId} {tT tF : Nat} {ad : Nat → Nat} {a1 : Int32} {r : Int32} {σ : ES} (h : e_X6_momentAt_1 a1 σ = some r) : CMi l yX6_momentAt (Cond.code yX6_momentAt cX6_momentAt 3 (some .int) :: wsL_law) { frames := 1, cells := 0, slots := 0, locals := 21 } D cy tT tF [.ref (ad 1), .int a1] (xw cy ad σ) r (xw cy ad σ) := x_start (Qc := fun A => (Qi D cy A r (xw cy ad σ))) (by decide) (Nat.le_of_ble_eq_true rfl) (fun p e s m below meth c A ls C hr hP hD hS hl => w_X6_momentAt_1_0 C hr a1 h s.heap [] hP hD hS ls hl)
set_option maxHeartbeats 4000000 in
set_option maxRecDepth 100000 in
theorem w_X6_figureAt_1_44 (C : Cx p s m args meth c D cy tT tF A cX6_figureAt 6 RX6) (hr : meth.sig.returnType = some .int) {r : Int32} {σ : ES} (v4 : Int32) (t0 : Int32) (h : b_X6_figureAt_1_44 σ v4 t0 = some r) (H : Heap) (locs : List Loc) (hP : va_P D vwCl (xw cy ad σ) H) (hD : va_D A (xw cy ad σ)) (hS : va_S A s.heap H locs) (ls : Array Slot) (hl : lv_has ls 6 [(4, .int v4)]) : W p l e { frames := 1, cells := 0, slots := 0, locals := 21 } s m args below meth c H locs 0 0 (MQ below (Qi D cy A r (xw cy ad σ)) args s 0 0 A) (F0 m 44 ls [.int t0]) := by
  obtain ⟨⟨hx, hb, hml, hown, hts⟩, hK, hT, hA, hlk⟩ := id C
  unfold b_X6_figureAt_1_44 at h
  refine lv_istore (lv' := [(5, .int t0), (4, .int v4)]) hx hb dX6_figureAt_44 hl (by decide) rfl (fun ls hl => ?_)
  refine lv_iload hx hb dX6_figureAt_46 (lv_at hl 0 rfl) ?_
  refine lv_if_eq (tgt := 59) hx hb dX6_figureAt_48 (by decide) (fun q1 => ?_) (fun q1 => ?_)
  · have h := ifp q1 h
    refine lv_bipush (v := -9) hx hb dX6_figureAt_59 (by decide) ?_
    have z1 := so_inj h
    subst z1
    exact x_iret C hr hP hD hS dX6_figureAt_61
  · have h := ifn q1 h
    refine lv_iload hx hb dX6_figureAt_51 (lv_at hl 1 rfl) ?_
    refine lv_bipush (v := 48) hx hb dX6_figureAt_53 (by decide) ?_
    refine lv_isub hx hb dX6_figureAt_55 ?_
    refine lv_goto (tgt := 61) hx hb dX6_figureAt_56 (by decide) ?_
    have z1 := so_inj h
    subst z1
    exact x_iret C hr hP hD hS dX6_figureAt_61
set_option maxHeartbeats 4000000 in
set_option maxRecDepth 100000 in
theorem w_X6_figureAt_1_0 (C : Cx p s m args meth c D cy tT tF A cX6_figureAt 6 RX6) (hr : meth.sig.returnType = some .int) {r : Int32} {σ : ES} (a1 : Int32) (a2 : Int32) (a3 : Int32) (h : b_X6_figureAt_1_0 σ a1 a2 a3 = some r) (H : Heap) (locs : List Loc) (hP : va_P D vwCl (xw cy ad σ) H) (hD : va_D A (xw cy ad σ)) (hS : va_S A s.heap H locs) (ls : Array Slot) (hl : lv_has ls 6 [(0, .ref (ad 1)), (1, .int a1), (2, .int a2), (3, .int a3)]) : W p l e { frames := 1, cells := 0, slots := 0, locals := 21 } s m args below meth c H locs 0 0 (MQ below (Qi D cy A r (xw cy ad σ)) args s 0 0 A) (F0 m 0 ls []) := by
  obtain ⟨⟨hx, hb, hml, hown, hts⟩, hK, hT, hA, hlk⟩ := id C
  unfold b_X6_figureAt_1_0 at h
  refine lv_aload_n hx hb dX6_figureAt_0 rfl (lv_at hl 0 rfl) ?_
  refine lv_iload_n hx hb dX6_figureAt_1 rfl (lv_at hl 1 rfl) ?_
  obtain ⟨r2, g1, h⟩ := cl_some h
  refine x_callVi (rest := []) C hP hD hS (c_X6_letterAt_1 g1) (cwV 1 hts (gV mw8_15 mw8_16 mw8_17 mw1_15 mw8_18) rfl rfl rfl hdV_X6_letterAt ⟨Nat.le_of_ble_eq_true rfl, Nat.le_of_ble_eq_true rfl⟩) xw_1 rfl rfl hl.1 rfl (Nat.le_of_ble_eq_true rfl) dX6_figureAt_2 ⟨Nat.zero_le _, Nat.zero_le _⟩ (fun H locs hP hD hS => ?_)
  refine lv_istore (lv' := [(4, .int r2), (0, .ref (ad 1)), (1, .int a1), (2, .int a2), (3, .int a3)]) hx hb dX6_figureAt_5 hl (by decide) rfl (fun ls hl => ?_)
  refine lv_iload hx hb dX6_figureAt_7 (lv_at hl 0 rfl) ?_
  refine lv_bipush (v := 48) hx hb dX6_figureAt_9 (by decide) ?_
  refine lv_icmp_lt (tgt := 43) hx hb dX6_figureAt_11 (by decide) (fun q3 => ?_) (fun q3 => ?_)
  · have h := ifp q3 h
    refine lv_iconst (v := 0) hx hb dX6_figureAt_43 (by decide) ?_
    exact w_X6_figureAt_1_44 C hr r2 (0 : Int32) h H locs hP hD hS ls (lv_sub hl [0] rfl)
  · have h := ifn q3 h
    refine lv_iload hx hb dX6_figureAt_14 (lv_at hl 0 rfl) ?_
    refine lv_bipush (v := 57) hx hb dX6_figureAt_16 (by decide) ?_
    refine lv_icmp_gt (tgt := 43) hx hb dX6_figureAt_18 (by decide) (fun q4 => ?_) (fun q4 => ?_)
    · have h := ifp q4 h
      refine lv_iconst (v := 0) hx hb dX6_figureAt_43 (by decide) ?_
      exact w_X6_figureAt_1_44 C hr r2 (0 : Int32) h H locs hP hD hS ls (lv_sub hl [0] rfl)
    · have h := ifn q4 h
      refine lv_iload hx hb dX6_figureAt_21 (lv_at hl 0 rfl) ?_
      refine lv_bipush (v := 48) hx hb dX6_figureAt_23 (by decide) ?_
      refine lv_isub hx hb dX6_figureAt_25 ?_
      refine lv_iload_n hx hb dX6_figureAt_26 rfl (lv_at hl 3 rfl) ?_
      refine lv_icmp_lt (tgt := 43) hx hb dX6_figureAt_27 (by decide) (fun q5 => ?_) (fun q5 => ?_)
      · have h := ifp q5 h
        refine lv_iconst (v := 0) hx hb dX6_figureAt_43 (by decide) ?_
        exact w_X6_figureAt_1_44 C hr r2 (0 : Int32) h H locs hP hD hS ls (lv_sub hl [0] rfl)
      · have h := ifn q5 h
        refine lv_iload hx hb dX6_figureAt_30 (lv_at hl 0 rfl) ?_
        refine lv_bipush (v := 48) hx hb dX6_figureAt_32 (by decide) ?_
        refine lv_isub hx hb dX6_figureAt_34 ?_
        refine lv_iload_n hx hb dX6_figureAt_35 rfl (lv_at hl 4 rfl) ?_
        refine lv_icmp_gt (tgt := 43) hx hb dX6_figureAt_36 (by decide) (fun q6 => ?_) (fun q6 => ?_)
        · have h := ifp q6 h
          refine lv_iconst (v := 0) hx hb dX6_figureAt_43 (by decide) ?_
          exact w_X6_figureAt_1_44 C hr r2 (0 : Int32) h H locs hP hD hS ls (lv_sub hl [0] rfl)
        · have h := ifn q6 h
          refine lv_iconst (v := 1) hx hb dX6_figureAt_39 (by decide) ?_
          refine lv_goto (tgt := 44) hx hb dX6_figureAt_40 (by decide) ?_
          exact w_X6_figureAt_1_44 C hr r2 (1 : Int32) h H locs hP hD hS ls (lv_sub hl [0] rfl)
theorem c_X6_figureAt_1 {l : Launch} {D : va_G} {cy : Nat → ClassId} {tT tF : Nat} {ad : Nat → Nat} {a1 : Int32} {a2 : Int32} {a3 : Int32} {r : Int32} {σ : ES} (h : e_X6_figureAt_1 a1 a2 a3 σ = some r) : CMi l yX6_figureAt (Cond.code yX6_figureAt cX6_figureAt 6 (some .int) :: wsL_law) { frames := 1, cells := 0, slots := 0, locals := 21 } D cy tT tF [.ref (ad 1), .int a1, .int a2, .int a3] (xw cy ad σ) r (xw cy ad σ) := x_start (Qc := fun A => (Qi D cy A r (xw cy ad σ))) (by decide) (Nat.le_of_ble_eq_true rfl) (fun p e s m below meth c A ls C hr hP hD hS hl => w_X6_figureAt_1_0 C hr a1 a2 a3 h s.heap [] hP hD hS ls hl)
end WK5

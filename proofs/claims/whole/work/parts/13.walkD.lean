section WK3
variable {p : Program} {l : Launch} {e : Env} {R : Room} {s : State} {m : MethodId} {args : Array Value} {below : List Frame} {meth : Method} {c : Code} {D : va_G} {cy : Nat → ClassId} {tT tF : Nat} {A : Nat → Prop} {ad : Nat → Nat} {ws : va_W}
set_option maxHeartbeats 4000000 in
set_option maxRecDepth 100000 in
theorem w_X8_share_36 (C : Cx p s m args meth c D cy tT tF A cX8_share 5 RX8) (hr : meth.sig.returnType = some .int) {r : Int32} {σ' : ES} : ∀ (n : Nat) (v1 : Int32) (v2 : Int32) (v3 : Int32) (v4 : Int32) (σ : ES), b_X8_share_36 n v1 v2 v3 v4 σ = some (r, σ') → ∀ (H : Heap) (locs : List Loc) (hP : va_P D vwCl (mw cy ad σ) H) (hD : va_D A (mw cy ad σ)) (hS : va_S A s.heap H locs) (ls : Array Slot) (hl : lv_has ls 5 [(0, .ref (ad 0)), (1, .int v1), (2, .int v2), (3, .int v3), (4, .int v4)]), W p l e { frames := 4, cells := 0, slots := 0, locals := 101 } s m args below meth c H locs 0 0 (MQ below (Qi D cy A r (mw cy ad σ')) args s 0 0 A) (F0 m 36 ls []) := by
  obtain ⟨⟨hx, hb, hml, hown, hts⟩, hK, hT, hA, hlk⟩ := id C
  intro n
  induction n with
  | zero =>
    intro v1 v2 v3 v4 σ h
    exact no_some h
  | succ n ih =>
    intro v1 v2 v3 v4 σ h H locs hP hD hS ls hl
    rw [b_X8_share_36] at h
    refine lv_iload hx hb dX8_share_36 (lv_at hl 4 rfl) ?_
    refine lv_iconst (v := 1) hx hb dX8_share_38 (by decide) ?_
    refine lv_aload_n hx hb dX8_share_39 rfl (lv_at hl 0 rfl) ?_
    refine x_get C hP inlX8 0 mw_0 rfl 2 (by decide) mw12_4 rfl dX8_share_40 ?_
    refine lv_ishl hx hb dX8_share_43 ?_
    refine lv_icmp_ge (tgt := 109) hx hb dX8_share_44 (by decide) (fun q1 => ?_) (fun q1 => ?_)
    · have h := ifp q1 h
      refine lv_iload_n hx hb dX8_share_109 rfl (lv_at hl 3 rfl) ?_
      refine lv_aload_n hx hb dX8_share_110 rfl (lv_at hl 0 rfl) ?_
      refine x_get C hP inlX8 0 mw_0 rfl 2 (by decide) mw12_4 rfl dX8_share_111 ?_
      obtain ⟨r3, g2, h⟩ := cl_some h
      refine x_callSi (rest := [.int v3]) C hP hD hS (c_X8_factorial g2) (va_cwS 1 hts (gS mw25_0 mw25_1 mw1_5 mw25_2) rfl rfl rfl hdS_X8_factorial ⟨Nat.le_of_ble_eq_true rfl, Nat.le_of_ble_eq_true rfl⟩) rfl hl.1 rfl (Nat.le_of_ble_eq_true rfl) dX8_share_114 ⟨Nat.zero_le _, Nat.zero_le _⟩ (fun H locs hP hD hS => ?_)
      obtain ⟨r5, g4, h⟩ := cl_some h
      refine x_callSi (rest := []) C hP hD hS (c_X8_common g4) (va_cwS 2 hts (gS mw25_3 mw25_4 mw1_5 mw25_5) rfl rfl rfl hdS_X8_common ⟨Nat.le_of_ble_eq_true rfl, Nat.le_of_ble_eq_true rfl⟩) rfl hl.1 rfl (Nat.le_of_ble_eq_true rfl) dX8_share_117 ⟨Nat.zero_le _, Nat.zero_le _⟩ (fun H locs hP hD hS => ?_)
      refine lv_istore (lv' := [(4, .int r5), (0, .ref (ad 0)), (1, .int v1), (2, .int v2), (3, .int v3)]) hx hb dX8_share_120 hl (by decide) rfl (fun ls hl => ?_)
      refine lv_iload_n hx hb dX8_share_122 rfl (lv_at hl 3 rfl) ?_
      refine lv_if_eq (tgt := 133) hx hb dX8_share_123 (by decide) (fun q6 => ?_) (fun q6 => ?_)
      · have h := ifp q6 h
        refine lv_aload_n hx hb dX8_share_133 rfl (lv_at hl 1 rfl) ?_
        refine x_get C hP inlX8 0 mw_0 rfl 2 (by decide) mw12_4 rfl dX8_share_134 ?_
        obtain ⟨r8, g7, h⟩ := cl_some h
        refine x_callSi (rest := []) C hP hD hS (c_X8_factorial g7) (va_cwS 1 hts (gS mw25_0 mw25_1 mw1_5 mw25_2) rfl rfl rfl hdS_X8_factorial ⟨Nat.le_of_ble_eq_true rfl, Nat.le_of_ble_eq_true rfl⟩) rfl hl.1 rfl (Nat.le_of_ble_eq_true rfl) dX8_share_137 ⟨Nat.zero_le _, Nat.zero_le _⟩ (fun H locs hP hD hS => ?_)
        refine lv_iload hx hb dX8_share_140 (lv_at hl 0 rfl) ?_
        obtain ⟨g9, h⟩ := dv_some h
        refine lv_idiv hx hb dX8_share_142 g9 ?_
        obtain ⟨z1, z2⟩ := pr_inj h
        subst z1
        subst z2
        exact x_iret C hr hP hD hS dX8_share_143
      · have h := ifn q6 h
        refine lv_iload_n hx hb dX8_share_126 rfl (lv_at hl 4 rfl) ?_
        refine lv_iload hx hb dX8_share_127 (lv_at hl 0 rfl) ?_
        obtain ⟨g10, h⟩ := dv_some h
        refine lv_idiv hx hb dX8_share_129 g10 ?_
        refine lv_goto (tgt := 143) hx hb dX8_share_130 (by decide) ?_
        obtain ⟨z1, z2⟩ := pr_inj h
        subst z1
        subst z2
        exact x_iret C hr hP hD hS dX8_share_143
    · have h := ifn q1 h
      refine lv_iload hx hb dX8_share_47 (lv_at hl 4 rfl) ?_
      refine lv_iload_n hx hb dX8_share_49 rfl (lv_at hl 1 rfl) ?_
      obtain ⟨r12, g11, h⟩ := cl_some h
      refine x_callSi (rest := []) C hP hD hS (c_X8_has g11) (va_cwS 2 hts (gS mw18_16 mw18_17 mw1_5 mw18_18) rfl rfl rfl hdS_X8_has ⟨Nat.le_of_ble_eq_true rfl, Nat.le_of_ble_eq_true rfl⟩) rfl hl.1 rfl (Nat.le_of_ble_eq_true rfl) dX8_share_50 ⟨Nat.zero_le _, Nat.zero_le _⟩ (fun H locs hP hD hS => ?_)
      refine lv_if_ne (tgt := 103) hx hb dX8_share_53 (by decide) (fun q13 => ?_) (fun q13 => ?_)
      · have h := ifn q13 h
        obtain ⟨x14, ex14, h⟩ := lt_some h
        refine lv_iinc (v := x14) (lv' := [(4, .int x14), (0, .ref (ad 0)), (1, .int v1), (2, .int v2), (3, .int v3)]) hx hb dX8_share_103 hl (k := 4) rfl (by rw [ex14]; rfl) (by decide) rfl (fun ls hl => ?_)
        refine lv_goto (tgt := 36) hx hb dX8_share_106 (by decide) ?_
        exact ih v1 v2 v3 x14 σ h H locs hP hD hS ls (lv_sub hl [1, 2, 3, 4, 0] rfl)
      · have h := ifp q13 h
        refine lv_iload_n hx hb dX8_share_56 rfl (lv_at hl 3 rfl) ?_
        refine lv_iload hx hb dX8_share_57 (lv_at hl 4 rfl) ?_
        obtain ⟨r16, g15, h⟩ := cl_some h
        refine x_callSi (rest := [.int v3]) C hP hD hS (c_X8_ones g15) (va_cwS 1 hts (gS mw24_21 mw24_22 mw1_5 mw24_23) rfl rfl rfl hdS_X8_ones ⟨Nat.le_of_ble_eq_true rfl, Nat.le_of_ble_eq_true rfl⟩) rfl hl.1 rfl (Nat.le_of_ble_eq_true rfl) dX8_share_59 ⟨Nat.zero_le _, Nat.zero_le _⟩ (fun H locs hP hD hS => ?_)
        obtain ⟨r18, g17, h⟩ := cl_some h
        refine x_callSi (rest := [.int v3]) C hP hD hS (c_X8_factorial g17) (va_cwS 1 hts (gS mw25_0 mw25_1 mw1_5 mw25_2) rfl rfl rfl hdS_X8_factorial ⟨Nat.le_of_ble_eq_true rfl, Nat.le_of_ble_eq_true rfl⟩) rfl hl.1 rfl (Nat.le_of_ble_eq_true rfl) dX8_share_62 ⟨Nat.zero_le _, Nat.zero_le _⟩ (fun H locs hP hD hS => ?_)
        refine lv_aload_n hx hb dX8_share_65 rfl (lv_at hl 0 rfl) ?_
        refine x_get C hP inlX8 0 mw_0 rfl 2 (by decide) mw12_4 rfl dX8_share_66 ?_
        refine lv_iconst (v := 1) hx hb dX8_share_69 (by decide) ?_
        refine lv_isub hx hb dX8_share_70 ?_
        refine lv_iload hx hb dX8_share_71 (lv_at hl 4 rfl) ?_
        obtain ⟨r20, g19, h⟩ := cl_some h
        refine x_callSi (rest := [.int ((σ.1 0 2) - (1 : Int32)), .int r18, .int v3]) C hP hD hS (c_X8_ones g19) (va_cwS 1 hts (gS mw24_21 mw24_22 mw1_5 mw24_23) rfl rfl rfl hdS_X8_ones ⟨Nat.le_of_ble_eq_true rfl, Nat.le_of_ble_eq_true rfl⟩) rfl hl.1 rfl (Nat.le_of_ble_eq_true rfl) dX8_share_73 ⟨Nat.zero_le _, Nat.zero_le _⟩ (fun H locs hP hD hS => ?_)
        refine lv_isub hx hb dX8_share_76 ?_
        obtain ⟨r22, g21, h⟩ := cl_some h
        refine x_callSi (rest := [.int r18, .int v3]) C hP hD hS (c_X8_factorial g21) (va_cwS 1 hts (gS mw25_0 mw25_1 mw1_5 mw25_2) rfl rfl rfl hdS_X8_factorial ⟨Nat.le_of_ble_eq_true rfl, Nat.le_of_ble_eq_true rfl⟩) rfl hl.1 rfl (Nat.le_of_ble_eq_true rfl) dX8_share_77 ⟨Nat.zero_le _, Nat.zero_le _⟩ (fun H locs hP hD hS => ?_)
        refine lv_imul hx hb dX8_share_80 ?_
        refine lv_aload_n hx hb dX8_share_81 rfl (lv_at hl 0 rfl) ?_
        refine x_get C hP inlX8 0 mw_0 rfl 26 (by decide) mw6_13 rfl dX8_share_82 ?_
        refine lv_iload hx hb dX8_share_85 (lv_at hl 4 rfl) ?_
        refine lv_iconst (v := 1) hx hb dX8_share_87 (by decide) ?_
        refine lv_iload_n hx hb dX8_share_88 rfl (lv_at hl 1 rfl) ?_
        refine lv_ishl hx hb dX8_share_89 ?_
        refine lv_ior hx hb dX8_share_90 ?_
        obtain ⟨g23, x24, ex24, h⟩ := rd_some h
        refine x_ild C hP 16 mw_16 g23 ex24 dX8_share_91 ?_
        refine lv_aload_n hx hb dX8_share_92 rfl (lv_at hl 0 rfl) ?_
        refine x_get C hP inlX8 0 mw_0 rfl 26 (by decide) mw6_13 rfl dX8_share_93 ?_
        refine lv_iload hx hb dX8_share_96 (lv_at hl 4 rfl) ?_
        obtain ⟨g25, x26, ex26, h⟩ := rd_some h
        refine x_ild C hP 16 mw_16 g25 ex26 dX8_share_98 ?_
        refine lv_isub hx hb dX8_share_99 ?_
        refine lv_imul hx hb dX8_share_100 ?_
        refine lv_iadd hx hb dX8_share_101 ?_
        obtain ⟨x27, ex27, h⟩ := lt_some h
        refine x_ti ex27 ?_
        refine lv_istore_n (lv' := [(3, .int x27), (0, .ref (ad 0)), (1, .int v1), (2, .int v2), (4, .int v4)]) hx hb dX8_share_102 rfl hl (by decide) rfl (fun ls hl => ?_)
        obtain ⟨x28, ex28, h⟩ := lt_some h
        refine lv_iinc (v := x28) (lv' := [(4, .int x28), (3, .int x27), (0, .ref (ad 0)), (1, .int v1), (2, .int v2)]) hx hb dX8_share_103 hl (k := 4) rfl (by rw [ex28]; rfl) (by decide) rfl (fun ls hl => ?_)
        refine lv_goto (tgt := 36) hx hb dX8_share_106 (by decide) ?_
        exact ih v1 v2 x27 x28 σ h H locs hP hD hS ls (lv_sub hl [2, 3, 4, 1, 0] rfl)
set_option maxHeartbeats 4000000 in
set_option maxRecDepth 100000 in
theorem w_X8_share_0 (C : Cx p s m args meth c D cy tT tF A cX8_share 5 RX8) (hr : meth.sig.returnType = some .int) {r : Int32} {σ' : ES} (a1 : Int32) (a2 : Int32) (σ : ES) (h : b_X8_share_0 a1 a2 σ = some (r, σ')) (H : Heap) (locs : List Loc) (hP : va_P D vwCl (mw cy ad σ) H) (hD : va_D A (mw cy ad σ)) (hS : va_S A s.heap H locs) (ls : Array Slot) (hl : lv_has ls 5 [(0, .ref (ad 0)), (1, .int a1), (2, .int a2)]) : W p l e { frames := 4, cells := 0, slots := 0, locals := 101 } s m args below meth c H locs 0 0 (MQ below (Qi D cy A r (mw cy ad σ')) args s 0 0 A) (F0 m 0 ls []) := by
  obtain ⟨⟨hx, hb, hml, hown, hts⟩, hK, hT, hA, hlk⟩ := id C
  unfold b_X8_share_0 at h
  refine lv_aload_n hx hb dX8_share_0 rfl (lv_at hl 0 rfl) ?_
  refine lv_iload_n hx hb dX8_share_1 rfl (lv_at hl 1 rfl) ?_
  obtain ⟨r2, g1, h⟩ := cl_some h
  refine x_callVi (rest := []) C hP hD hS (c_X8_isGuest g1) (cwV 1 hts (gV mw14_14 mw14_15 mw14_16 mw1_5 mw14_17) rfl rfl rfl hdV_X8_isGuest ⟨Nat.le_of_ble_eq_true rfl, Nat.le_of_ble_eq_true rfl⟩) mw_0 rfl rfl hl.1 rfl (Nat.le_of_ble_eq_true rfl) dX8_share_2 ⟨Nat.zero_le _, Nat.zero_le _⟩ (fun H locs hP hD hS => ?_)
  refine lv_if_ne (tgt := 10) hx hb dX8_share_5 (by decide) (fun q3 => ?_) (fun q3 => ?_)
  · have h := ifn q3 h
    refine lv_aload_n hx hb dX8_share_10 rfl (lv_at hl 0 rfl) ?_
    obtain ⟨σ5, g4, h⟩ := cl_some h
    refine x_callVv (rest := []) C hP hD hS (c_X8_layPlans g4) (cwV 0 hts (gV mw22_4 mw22_5 mw22_6 mw1_5 mw22_7) rfl rfl rfl hdV_X8_layPlans ⟨Nat.le_of_ble_eq_true rfl, Nat.le_of_ble_eq_true rfl⟩) mw_0 rfl rfl hl.1 rfl (Nat.le_of_ble_eq_true rfl) dX8_share_11 ⟨Nat.zero_le _, Nat.zero_le _⟩ (fun H locs hP hD hS => ?_)
    refine lv_aload_n hx hb dX8_share_14 rfl (lv_at hl 0 rfl) ?_
    refine x_get C hP inlX8 0 mw_0 rfl 26 (by decide) mw6_13 rfl dX8_share_15 ?_
    refine lv_aload_n hx hb dX8_share_18 rfl (lv_at hl 0 rfl) ?_
    obtain ⟨r7, g6, h⟩ := cl_some h
    refine x_callVi (rest := [.ref (ad 16)]) C hP hD hS (c_X8_all g6) (cwV 0 hts (gV mw23_6 mw23_7 mw23_8 mw1_5 mw23_9) rfl rfl rfl hdV_X8_all ⟨Nat.le_of_ble_eq_true rfl, Nat.le_of_ble_eq_true rfl⟩) mw_0 rfl rfl hl.1 rfl (Nat.le_of_ble_eq_true rfl) dX8_share_19 ⟨Nat.zero_le _, Nat.zero_le _⟩ (fun H locs hP hD hS => ?_)
    obtain ⟨g8, x9, ex9, h⟩ := rd_some h
    refine x_ild C hP 16 mw_16 g8 ex9 dX8_share_22 ?_
    refine lv_bipush (v := -9) hx hb dX8_share_23 (by decide) ?_
    refine lv_icmp_ne (tgt := 31) hx hb dX8_share_25 (by decide) (fun q10 => ?_) (fun q10 => ?_)
    · have h := ifn q10 h
      refine lv_iconst (v := 0) hx hb dX8_share_31 (by decide) ?_
      refine lv_istore_n (lv' := [(3, .int (0 : Int32)), (0, .ref (ad 0)), (1, .int a1), (2, .int a2)]) hx hb dX8_share_32 rfl hl (by decide) rfl (fun ls hl => ?_)
      refine lv_iconst (v := 0) hx hb dX8_share_33 (by decide) ?_
      refine lv_istore (lv' := [(4, .int (0 : Int32)), (3, .int (0 : Int32)), (0, .ref (ad 0)), (1, .int a1), (2, .int a2)]) hx hb dX8_share_34 hl (by decide) rfl (fun ls hl => ?_)
      exact w_X8_share_36 C hr FU a1 a2 (0 : Int32) (0 : Int32) σ5 h H locs hP hD hS ls (lv_sub hl [2, 3, 4, 1, 0] rfl)
    · have h := ifp q10 h
      refine lv_bipush (v := -3) hx hb dX8_share_28 (by decide) ?_
      obtain ⟨z1, z2⟩ := pr_inj h
      subst z1
      subst z2
      exact x_iret C hr hP hD hS dX8_share_30
  · have h := ifp q3 h
    refine lv_iconst (v := -1) hx hb dX8_share_8 (by decide) ?_
    obtain ⟨z1, z2⟩ := pr_inj h
    subst z1
    subst z2
    exact x_iret C hr hP hD hS dX8_share_9
theorem c_X8_share {l : Launch} {D : va_G} {cy : Nat → ClassId} {tT tF : Nat} {ad : Nat → Nat} {σ : ES} {a1 : Int32} {a2 : Int32} {r : Int32} {σ' : ES} (h : e_X8_share a1 a2 σ = some (r, σ')) : CMi l yX8_share (Cond.code yX8_share cX8_share 5 (some .int) :: wsL_law) { frames := 4, cells := 0, slots := 0, locals := 101 } D cy tT tF [.ref (ad 0), .int a1, .int a2] (mw cy ad σ) r (mw cy ad σ') := x_start (Qc := fun A => (Qi D cy A r (mw cy ad σ'))) (by decide) (Nat.le_of_ble_eq_true rfl) (fun p e s m below meth c A ls C hr hP hD hS hl => w_X8_share_0 C hr a1 a2 σ h s.heap [] hP hD hS ls hl)
set_option maxHeartbeats 4000000 in
set_option maxRecDepth 100000 in
theorem w_X8_gives_0 (C : Cx p s m args meth c D cy tT tF A cX8_gives 3 RX8) (hr : meth.sig.returnType = some .int) {r : Int32} {σ : ES} (a1 : Int32) (a2 : Int32) (h : b_X8_gives_0 σ a1 a2 = some r) (H : Heap) (locs : List Loc) (hP : va_P D vwCl (mw cy ad σ) H) (hD : va_D A (mw cy ad σ)) (hS : va_S A s.heap H locs) (ls : Array Slot) (hl : lv_has ls 3 [(0, .ref (ad 0)), (1, .int a1), (2, .int a2)]) : W p l e { frames := 0, cells := 0, slots := 0, locals := 0 } s m args below meth c H locs 0 0 (MQ below (Qi D cy A r (mw cy ad σ)) args s 0 0 A) (F0 m 0 ls []) := by
  obtain ⟨⟨hx, hb, hml, hown, hts⟩, hK, hT, hA, hlk⟩ := id C
  unfold b_X8_gives_0 at h
  refine lv_iload_n hx hb dX8_gives_0 rfl (lv_at hl 1 rfl) ?_
  refine lv_bipush (v := -9) hx hb dX8_gives_1 (by decide) ?_
  refine lv_icmp_eq (tgt := 35) hx hb dX8_gives_3 (by decide) (fun q1 => ?_) (fun q1 => ?_)
  · have h := ifp q1 h
    refine lv_iconst (v := 0) hx hb dX8_gives_35 (by decide) ?_
    refine lv_goto (tgt := 54) hx hb dX8_gives_36 (by decide) ?_
    have z1 := so_inj h
    subst z1
    exact x_iret C hr hP hD hS dX8_gives_54
  · have h := ifn q1 h
    refine lv_iload_n hx hb dX8_gives_6 rfl (lv_at hl 2 rfl) ?_
    refine lv_aload_n hx hb dX8_gives_7 rfl (lv_at hl 0 rfl) ?_
    refine x_get C hP inlX8 0 mw_0 rfl 11 (by decide) mw6_6 rfl dX8_gives_8 ?_
    refine lv_iconst (v := 4) hx hb dX8_gives_11 (by decide) ?_
    refine lv_iload_n hx hb dX8_gives_12 rfl (lv_at hl 1 rfl) ?_
    refine lv_iadd hx hb dX8_gives_13 ?_
    obtain ⟨g2, x3, ex3, h⟩ := rd_some h
    refine x_ild C hP 9 mw_9 g2 ex3 dX8_gives_14 ?_
    refine lv_icmp_ge (tgt := 35) hx hb dX8_gives_15 (by decide) (fun q4 => ?_) (fun q4 => ?_)
    · have h := ifp q4 h
      refine lv_iconst (v := 0) hx hb dX8_gives_35 (by decide) ?_
      refine lv_goto (tgt := 54) hx hb dX8_gives_36 (by decide) ?_
      have z1 := so_inj h
      subst z1
      exact x_iret C hr hP hD hS dX8_gives_54
    · have h := ifn q4 h
      refine lv_aload_n hx hb dX8_gives_18 rfl (lv_at hl 0 rfl) ?_
      refine x_get C hP inlX8 0 mw_0 rfl 3 (by decide) mw5_22 rfl dX8_gives_19 ?_
      refine lv_aload_n hx hb dX8_gives_22 rfl (lv_at hl 0 rfl) ?_
      refine x_get C hP inlX8 0 mw_0 rfl 11 (by decide) mw6_6 rfl dX8_gives_23 ?_
      refine lv_iload_n hx hb dX8_gives_26 rfl (lv_at hl 1 rfl) ?_
      obtain ⟨g5, x6, ex6, h⟩ := rd_some h
      refine x_ild C hP 9 mw_9 g5 ex6 dX8_gives_27 ?_
      refine lv_iload_n hx hb dX8_gives_28 rfl (lv_at hl 2 rfl) ?_
      refine lv_iadd hx hb dX8_gives_29 ?_
      obtain ⟨g7, x8, ex8, h⟩ := rd_some h
      refine x_ild C hP 1 mw_1 g7 ex8 dX8_gives_30 ?_
      refine lv_iconst (v := 4) hx hb dX8_gives_31 (by decide) ?_
      refine lv_icmp_ne (tgt := 39) hx hb dX8_gives_32 (by decide) (fun q9 => ?_) (fun q9 => ?_)
      · have h := ifn q9 h
        refine lv_iconst (v := 1) hx hb dX8_gives_39 (by decide) ?_
        refine lv_aload_n hx hb dX8_gives_40 rfl (lv_at hl 0 rfl) ?_
        refine x_get C hP inlX8 0 mw_0 rfl 3 (by decide) mw5_22 rfl dX8_gives_41 ?_
        refine lv_aload_n hx hb dX8_gives_44 rfl (lv_at hl 0 rfl) ?_
        refine x_get C hP inlX8 0 mw_0 rfl 11 (by decide) mw6_6 rfl dX8_gives_45 ?_
        refine lv_iload_n hx hb dX8_gives_48 rfl (lv_at hl 1 rfl) ?_
        obtain ⟨g10, x11, ex11, h⟩ := rd_some h
        refine x_ild C hP 9 mw_9 g10 ex11 dX8_gives_49 ?_
        refine lv_iload_n hx hb dX8_gives_50 rfl (lv_at hl 2 rfl) ?_
        refine lv_iadd hx hb dX8_gives_51 ?_
        obtain ⟨g12, x13, ex13, h⟩ := rd_some h
        refine x_ild C hP 1 mw_1 g12 ex13 dX8_gives_52 ?_
        refine lv_ishl hx hb dX8_gives_53 ?_
        have z1 := so_inj h
        subst z1
        exact x_iret C hr hP hD hS dX8_gives_54
      · have h := ifp q9 h
        refine lv_iconst (v := 0) hx hb dX8_gives_35 (by decide) ?_
        refine lv_goto (tgt := 54) hx hb dX8_gives_36 (by decide) ?_
        have z1 := so_inj h
        subst z1
        exact x_iret C hr hP hD hS dX8_gives_54
theorem c_X8_gives {l : Launch} {D : va_G} {cy : Nat → ClassId} {tT tF : Nat} {ad : Nat → Nat} {a1 : Int32} {a2 : Int32} {r : Int32} {σ : ES} (h : e_X8_gives a1 a2 σ = some r) : CMi l yX8_gives (Cond.code yX8_gives cX8_gives 3 (some .int) :: wsL_law) { frames := 0, cells := 0, slots := 0, locals := 0 } D cy tT tF [.ref (ad 0), .int a1, .int a2] (mw cy ad σ) r (mw cy ad σ) := x_start (Qc := fun A => (Qi D cy A r (mw cy ad σ))) (by decide) (Nat.le_of_ble_eq_true rfl) (fun p e s m below meth c A ls C hr hP hD hS hl => w_X8_gives_0 C hr a1 a2 h s.heap [] hP hD hS ls hl)
set_option maxHeartbeats 4000000 in
set_option maxRecDepth 100000 in
theorem w_X8_tableOf_5 (C : Cx p s m args meth c D cy tT tF A cX8_tableOf 5 RX8) (hr : meth.sig.returnType = some .int) {r : Int32} {σ : ES} : ∀ (n : Nat) (v1 : Int32) (v2 : Int32) (v3 : Int32) (v4 : Int32), b_X8_tableOf_5 σ n v1 v2 v3 v4 = some r → ∀ (H : Heap) (locs : List Loc) (hP : va_P D vwCl (mw cy ad σ) H) (hD : va_D A (mw cy ad σ)) (hS : va_S A s.heap H locs) (ls : Array Slot) (hl : lv_has ls 5 [(0, .ref (ad 0)), (1, .int v1), (2, .int v2), (3, .int v3), (4, .int v4)]), W p l e { frames := 1, cells := 0, slots := 0, locals := 22 } s m args below meth c H locs 0 0 (MQ below (Qi D cy A r (mw cy ad σ)) args s 0 0 A) (F0 m 5 ls []) := by
  obtain ⟨⟨hx, hb, hml, hown, hts⟩, hK, hT, hA, hlk⟩ := id C
  intro n
  induction n with
  | zero =>
    intro v1 v2 v3 v4 h
    exact no_some h
  | succ n ih =>
    intro v1 v2 v3 v4 h H locs hP hD hS ls hl
    rw [b_X8_tableOf_5] at h
    refine lv_iload hx hb dX8_tableOf_5 (lv_at hl 4 rfl) ?_
    refine lv_bipush (v := 6) hx hb dX8_tableOf_7 (by decide) ?_
    refine lv_icmp_ge (tgt := 39) hx hb dX8_tableOf_9 (by decide) (fun q1 => ?_) (fun q1 => ?_)
    · have h := ifp q1 h
      refine lv_iload_n hx hb dX8_tableOf_39 rfl (lv_at hl 3 rfl) ?_
      have z1 := so_inj h
      subst z1
      exact x_iret C hr hP hD hS dX8_tableOf_40
    · have h := ifn q1 h
      refine lv_iload_n hx hb dX8_tableOf_12 rfl (lv_at hl 3 rfl) ?_
      refine lv_aload_n hx hb dX8_tableOf_13 rfl (lv_at hl 0 rfl) ?_
      refine lv_iload_n hx hb dX8_tableOf_14 rfl (lv_at hl 1 rfl) ?_
      refine lv_iload hx hb dX8_tableOf_15 (lv_at hl 4 rfl) ?_
      obtain ⟨r3, g2, h⟩ := cl_some h
      refine x_callVi (rest := [.int v3]) C hP hD hS (c_X8_gives g2) (cwV 2 hts (gV mw25_23 mw26_0 mw26_1 mw1_5 mw26_2) rfl rfl rfl hdV_X8_gives ⟨Nat.le_of_ble_eq_true rfl, Nat.le_of_ble_eq_true rfl⟩) mw_0 rfl rfl hl.1 rfl (Nat.le_of_ble_eq_true rfl) dX8_tableOf_17 ⟨Nat.zero_le _, Nat.zero_le _⟩ (fun H locs hP hD hS => ?_)
      refine lv_aload_n hx hb dX8_tableOf_20 rfl (lv_at hl 0 rfl) ?_
      refine lv_iload_n hx hb dX8_tableOf_21 rfl (lv_at hl 2 rfl) ?_
      refine lv_iload hx hb dX8_tableOf_22 (lv_at hl 4 rfl) ?_
      obtain ⟨r5, g4, h⟩ := cl_some h
      refine x_callVi (rest := [.int r3, .int v3]) C hP hD hS (c_X8_gives g4) (cwV 2 hts (gV mw25_23 mw26_0 mw26_1 mw1_5 mw26_2) rfl rfl rfl hdV_X8_gives ⟨Nat.le_of_ble_eq_true rfl, Nat.le_of_ble_eq_true rfl⟩) mw_0 rfl rfl hl.1 rfl (Nat.le_of_ble_eq_true rfl) dX8_tableOf_24 ⟨Nat.zero_le _, Nat.zero_le _⟩ (fun H locs hP hD hS => ?_)
      refine lv_ior hx hb dX8_tableOf_27 ?_
      obtain ⟨r7, g6, h⟩ := cl_some h
      refine x_callSi (rest := [.int v3]) C hP hD hS (c_X8_ones g6) (va_cwS 1 hts (gS mw24_21 mw24_22 mw1_5 mw24_23) rfl rfl rfl hdS_X8_ones ⟨Nat.le_of_ble_eq_true rfl, Nat.le_of_ble_eq_true rfl⟩) rfl hl.1 rfl (Nat.le_of_ble_eq_true rfl) dX8_tableOf_28 ⟨Nat.zero_le _, Nat.zero_le _⟩ (fun H locs hP hD hS => ?_)
      refine lv_iadd hx hb dX8_tableOf_31 ?_
      obtain ⟨x8, ex8, h⟩ := lt_some h
      refine x_ti ex8 ?_
      refine lv_istore_n (lv' := [(3, .int x8), (0, .ref (ad 0)), (1, .int v1), (2, .int v2), (4, .int v4)]) hx hb dX8_tableOf_32 rfl hl (by decide) rfl (fun ls hl => ?_)
      obtain ⟨x9, ex9, h⟩ := lt_some h
      refine lv_iinc (v := x9) (lv' := [(4, .int x9), (3, .int x8), (0, .ref (ad 0)), (1, .int v1), (2, .int v2)]) hx hb dX8_tableOf_33 hl (k := 4) rfl (by rw [ex9]; rfl) (by decide) rfl (fun ls hl => ?_)
      refine lv_goto (tgt := 5) hx hb dX8_tableOf_36 (by decide) ?_
      exact ih v1 v2 x8 x9 h H locs hP hD hS ls (lv_sub hl [2, 3, 4, 1, 0] rfl)
set_option maxHeartbeats 4000000 in
set_option maxRecDepth 100000 in
theorem w_X8_tableOf_0 (C : Cx p s m args meth c D cy tT tF A cX8_tableOf 5 RX8) (hr : meth.sig.returnType = some .int) {r : Int32} {σ : ES} (a1 : Int32) (a2 : Int32) (h : b_X8_tableOf_0 σ a1 a2 = some r) (H : Heap) (locs : List Loc) (hP : va_P D vwCl (mw cy ad σ) H) (hD : va_D A (mw cy ad σ)) (hS : va_S A s.heap H locs) (ls : Array Slot) (hl : lv_has ls 5 [(0, .ref (ad 0)), (1, .int a1), (2, .int a2)]) : W p l e { frames := 1, cells := 0, slots := 0, locals := 22 } s m args below meth c H locs 0 0 (MQ below (Qi D cy A r (mw cy ad σ)) args s 0 0 A) (F0 m 0 ls []) := by
  obtain ⟨⟨hx, hb, hml, hown, hts⟩, hK, hT, hA, hlk⟩ := id C
  unfold b_X8_tableOf_0 at h
  refine lv_iconst (v := 0) hx hb dX8_tableOf_0 (by decide) ?_
  refine lv_istore_n (lv' := [(3, .int (0 : Int32)), (0, .ref (ad 0)), (1, .int a1), (2, .int a2)]) hx hb dX8_tableOf_1 rfl hl (by decide) rfl (fun ls hl => ?_)
  refine lv_iconst (v := 0) hx hb dX8_tableOf_2 (by decide) ?_
  refine lv_istore (lv' := [(4, .int (0 : Int32)), (3, .int (0 : Int32)), (0, .ref (ad 0)), (1, .int a1), (2, .int a2)]) hx hb dX8_tableOf_3 hl (by decide) rfl (fun ls hl => ?_)
  exact w_X8_tableOf_5 C hr FU a1 a2 (0 : Int32) (0 : Int32) h H locs hP hD hS ls (lv_sub hl [2, 3, 4, 1, 0] rfl)
theorem c_X8_tableOf {l : Launch} {D : va_G} {cy : Nat → ClassId} {tT tF : Nat} {ad : Nat → Nat} {a1 : Int32} {a2 : Int32} {r : Int32} {σ : ES} (h : e_X8_tableOf a1 a2 σ = some r) : CMi l yX8_tableOf (Cond.code yX8_tableOf cX8_tableOf 5 (some .int) :: wsL_law) { frames := 1, cells := 0, slots := 0, locals := 22 } D cy tT tF [.ref (ad 0), .int a1, .int a2] (mw cy ad σ) r (mw cy ad σ) := x_start (Qc := fun A => (Qi D cy A r (mw cy ad σ))) (by decide) (Nat.le_of_ble_eq_true rfl) (fun p e s m below meth c A ls C hr hP hD hS hl => w_X8_tableOf_0 C hr a1 a2 h s.heap [] hP hD hS ls hl)
set_option maxHeartbeats 4000000 in
set_option maxRecDepth 100000 in
theorem w_X8_table_0 (C : Cx p s m args meth c D cy tT tF A cX8_table 3 RX8) (hr : meth.sig.returnType = some .int) {r : Int32} {σ : ES} (a1 : Int32) (a2 : Int32) (h : b_X8_table_0 σ a1 a2 = some r) (H : Heap) (locs : List Loc) (hP : va_P D vwCl (mw cy ad σ) H) (hD : va_D A (mw cy ad σ)) (hS : va_S A s.heap H locs) (ls : Array Slot) (hl : lv_has ls 3 [(0, .ref (ad 0)), (1, .int a1), (2, .int a2)]) : W p l e { frames := 2, cells := 0, slots := 0, locals := 46 } s m args below meth c H locs 0 0 (MQ below (Qi D cy A r (mw cy ad σ)) args s 0 0 A) (F0 m 0 ls []) := by
  obtain ⟨⟨hx, hb, hml, hown, hts⟩, hK, hT, hA, hlk⟩ := id C
  unfold b_X8_table_0 at h
  refine lv_aload_n hx hb dX8_table_0 rfl (lv_at hl 0 rfl) ?_
  refine lv_iload_n hx hb dX8_table_1 rfl (lv_at hl 1 rfl) ?_
  obtain ⟨r2, g1, h⟩ := cl_some h
  refine x_callVi (rest := []) C hP hD hS (c_X8_isCandle g1) (cwV 1 hts (gV mw13_11 mw13_12 mw13_13 mw1_5 mw13_14) rfl rfl rfl hdV_X8_isCandle ⟨Nat.le_of_ble_eq_true rfl, Nat.le_of_ble_eq_true rfl⟩) mw_0 rfl rfl hl.1 rfl (Nat.le_of_ble_eq_true rfl) dX8_table_2 ⟨Nat.zero_le _, Nat.zero_le _⟩ (fun H locs hP hD hS => ?_)
  refine lv_if_eq (tgt := 16) hx hb dX8_table_5 (by decide) (fun q3 => ?_) (fun q3 => ?_)
  · have h := ifp q3 h
    refine lv_iconst (v := -1) hx hb dX8_table_16 (by decide) ?_
    have z1 := so_inj h
    subst z1
    exact x_iret C hr hP hD hS dX8_table_17
  · have h := ifn q3 h
    refine lv_aload_n hx hb dX8_table_8 rfl (lv_at hl 0 rfl) ?_
    refine lv_iload_n hx hb dX8_table_9 rfl (lv_at hl 2 rfl) ?_
    obtain ⟨r5, g4, h⟩ := cl_some h
    refine x_callVi (rest := []) C hP hD hS (c_X8_isCandle g4) (cwV 1 hts (gV mw13_11 mw13_12 mw13_13 mw1_5 mw13_14) rfl rfl rfl hdV_X8_isCandle ⟨Nat.le_of_ble_eq_true rfl, Nat.le_of_ble_eq_true rfl⟩) mw_0 rfl rfl hl.1 rfl (Nat.le_of_ble_eq_true rfl) dX8_table_10 ⟨Nat.zero_le _, Nat.zero_le _⟩ (fun H locs hP hD hS => ?_)
    refine lv_if_ne (tgt := 18) hx hb dX8_table_13 (by decide) (fun q6 => ?_) (fun q6 => ?_)
    · have h := ifn q6 h
      refine lv_iload_n hx hb dX8_table_18 rfl (lv_at hl 1 rfl) ?_
      refine lv_iload_n hx hb dX8_table_19 rfl (lv_at hl 2 rfl) ?_
      refine lv_icmp_ne (tgt := 28) hx hb dX8_table_20 (by decide) (fun q7 => ?_) (fun q7 => ?_)
      · have h := ifn q7 h
        refine lv_aload_n hx hb dX8_table_28 rfl (lv_at hl 0 rfl) ?_
        refine lv_iload_n hx hb dX8_table_29 rfl (lv_at hl 1 rfl) ?_
        refine lv_iload_n hx hb dX8_table_30 rfl (lv_at hl 2 rfl) ?_
        obtain ⟨r9, g8, h⟩ := cl_some h
        refine x_callVi (rest := []) C hP hD hS (c_X8_tableOf g8) (cwV 2 hts (gV mw25_19 mw25_20 mw25_21 mw1_5 mw25_22) rfl rfl rfl hdV_X8_tableOf ⟨Nat.le_of_ble_eq_true rfl, Nat.le_of_ble_eq_true rfl⟩) mw_0 rfl rfl hl.1 rfl (Nat.le_of_ble_eq_true rfl) dX8_table_31 ⟨Nat.zero_le _, Nat.zero_le _⟩ (fun H locs hP hD hS => ?_)
        have z1 := so_inj h
        subst z1
        exact x_iret C hr hP hD hS dX8_table_34
      · have h := ifp q7 h
        refine lv_bipush (v := -2) hx hb dX8_table_23 (by decide) ?_
        refine lv_goto (tgt := 34) hx hb dX8_table_25 (by decide) ?_
        have z1 := so_inj h
        subst z1
        exact x_iret C hr hP hD hS dX8_table_34
    · have h := ifp q6 h
      refine lv_iconst (v := -1) hx hb dX8_table_16 (by decide) ?_
      have z1 := so_inj h
      subst z1
      exact x_iret C hr hP hD hS dX8_table_17
theorem c_X8_table {l : Launch} {D : va_G} {cy : Nat → ClassId} {tT tF : Nat} {ad : Nat → Nat} {a1 : Int32} {a2 : Int32} {r : Int32} {σ : ES} (h : e_X8_table a1 a2 σ = some r) : CMi l yX8_table (Cond.code yX8_table cX8_table 3 (some .int) :: wsL_law) { frames := 2, cells := 0, slots := 0, locals := 46 } D cy tT tF [.ref (ad 0), .int a1, .int a2] (mw cy ad σ) r (mw cy ad σ) := x_start (Qc := fun A => (Qi D cy A r (mw cy ad σ))) (by decide) (Nat.le_of_ble_eq_true rfl) (fun p e s m below meth c A ls C hr hP hD hS hl => w_X8_table_0 C hr a1 a2 h s.heap [] hP hD hS ls hl)
set_option maxHeartbeats 4000000 in
set_option maxRecDepth 100000 in
theorem w_X8_pairs_242 (C : Cx p s m args meth c D cy tT tF A cX8_pairs 9 RX8) (hr : meth.sig.returnType = some .int) {r : Int32} {σ' : ES} {K49 : Int32 → Int32 → ES → Option (Int32 × ES)} (hK49 : ∀ (v1 : Int32) (v2 : Int32) (σ : ES), K49 v1 v2 σ = some (r, σ') → ∀ (H : Heap) (locs : List Loc), va_P D vwCl (mw cy ad σ) H → va_D A (mw cy ad σ) → va_S A s.heap H locs → ∀ ls : Array Slot, lv_has ls 9 [(0, .ref (ad 0)), (1, .int v1), (2, .int v2)] → W p l e { frames := 2, cells := 0, slots := 0, locals := 46 } s m args below meth c H locs 0 0 (MQ below (Qi D cy A r (mw cy ad σ')) args s 0 0 A) (F0 m 49 ls [])) {K82 : Int32 → Int32 → Int32 → Int32 → ES → Option (Int32 × ES)} (hK82 : ∀ (v1 : Int32) (v2 : Int32) (v3 : Int32) (v4 : Int32) (σ : ES), K82 v1 v2 v3 v4 σ = some (r, σ') → ∀ (H : Heap) (locs : List Loc), va_P D vwCl (mw cy ad σ) H → va_D A (mw cy ad σ) → va_S A s.heap H locs → ∀ ls : Array Slot, lv_has ls 9 [(0, .ref (ad 0)), (1, .int v1), (2, .int v2), (3, .int v3), (4, .int v4)] → W p l e { frames := 2, cells := 0, slots := 0, locals := 46 } s m args below meth c H locs 0 0 (MQ below (Qi D cy A r (mw cy ad σ')) args s 0 0 A) (F0 m 82 ls [])) {K95 : Int32 → Int32 → Int32 → Int32 → Int32 → ES → Option (Int32 × ES)} (hK95 : ∀ (v1 : Int32) (v2 : Int32) (v3 : Int32) (v4 : Int32) (v5 : Int32) (σ : ES), K95 v1 v2 v3 v4 v5 σ = some (r, σ') → ∀ (H : Heap) (locs : List Loc), va_P D vwCl (mw cy ad σ) H → va_D A (mw cy ad σ) → va_S A s.heap H locs → ∀ ls : Array Slot, lv_has ls 9 [(0, .ref (ad 0)), (1, .int v1), (2, .int v2), (3, .int v3), (4, .int v4), (5, .int v5)] → W p l e { frames := 2, cells := 0, slots := 0, locals := 46 } s m args below meth c H locs 0 0 (MQ below (Qi D cy A r (mw cy ad σ')) args s 0 0 A) (F0 m 95 ls [])) (v1 : Int32) (v2 : Int32) (v3 : Int32) (v4 : Int32) (v5 : Int32) (t1 : Int32) (t2 : Int32) (σ : ES) (h : b_X8_pairs_242 K49 K82 K95 v1 v2 v3 v4 v5 t1 t2 σ = some (r, σ')) (H : Heap) (locs : List Loc) (hP : va_P D vwCl (mw cy ad σ) H) (hD : va_D A (mw cy ad σ)) (hS : va_S A s.heap H locs) (ls : Array Slot) (hl : lv_has ls 9 [(0, .ref (ad 0)), (1, .int v1), (2, .int v2), (3, .int v3), (4, .int v4), (5, .int v5)]) : W p l e { frames := 2, cells := 0, slots := 0, locals := 46 } s m args below meth c H locs 0 0 (MQ below (Qi D cy A r (mw cy ad σ')) args s 0 0 A) (F0 m 242 ls [.int t2, .int t1, .ref (ad 17)]) := by
  obtain ⟨⟨hx, hb, hml, hown, hts⟩, hK, hT, hA, hlk⟩ := id C
  unfold b_X8_pairs_242 at h
  obtain ⟨g1, σ2, eσ2, h⟩ := wr_some h
  refine x_ist C hP hD hS 17 mw_17 g1 (ma_17 eσ2) dX8_pairs_242 (fun H locs hP hD hS => ?_)
  obtain ⟨x3, ex3, h⟩ := lt_some h
  refine lv_iinc (v := x3) (lv' := [(5, .int x3), (0, .ref (ad 0)), (1, .int v1), (2, .int v2), (3, .int v3), (4, .int v4)]) hx hb dX8_pairs_243 hl (k := 5) rfl (by rw [ex3]; rfl) (by decide) rfl (fun ls hl => ?_)
  refine lv_goto (tgt := 95) hx hb dX8_pairs_246 (by decide) ?_
  exact hK95 v1 v2 v3 v4 x3 σ2 h H locs hP hD hS ls (lv_sub hl [1, 2, 3, 4, 5, 0] rfl)
set_option maxHeartbeats 4000000 in
set_option maxRecDepth 100000 in
theorem w_X8_pairs_213 (C : Cx p s m args meth c D cy tT tF A cX8_pairs 9 RX8) (hr : meth.sig.returnType = some .int) {r : Int32} {σ' : ES} {K49 : Int32 → Int32 → ES → Option (Int32 × ES)} (hK49 : ∀ (v1 : Int32) (v2 : Int32) (σ : ES), K49 v1 v2 σ = some (r, σ') → ∀ (H : Heap) (locs : List Loc), va_P D vwCl (mw cy ad σ) H → va_D A (mw cy ad σ) → va_S A s.heap H locs → ∀ ls : Array Slot, lv_has ls 9 [(0, .ref (ad 0)), (1, .int v1), (2, .int v2)] → W p l e { frames := 2, cells := 0, slots := 0, locals := 46 } s m args below meth c H locs 0 0 (MQ below (Qi D cy A r (mw cy ad σ')) args s 0 0 A) (F0 m 49 ls [])) {K82 : Int32 → Int32 → Int32 → Int32 → ES → Option (Int32 × ES)} (hK82 : ∀ (v1 : Int32) (v2 : Int32) (v3 : Int32) (v4 : Int32) (σ : ES), K82 v1 v2 v3 v4 σ = some (r, σ') → ∀ (H : Heap) (locs : List Loc), va_P D vwCl (mw cy ad σ) H → va_D A (mw cy ad σ) → va_S A s.heap H locs → ∀ ls : Array Slot, lv_has ls 9 [(0, .ref (ad 0)), (1, .int v1), (2, .int v2), (3, .int v3), (4, .int v4)] → W p l e { frames := 2, cells := 0, slots := 0, locals := 46 } s m args below meth c H locs 0 0 (MQ below (Qi D cy A r (mw cy ad σ')) args s 0 0 A) (F0 m 82 ls [])) {K95 : Int32 → Int32 → Int32 → Int32 → Int32 → ES → Option (Int32 × ES)} (hK95 : ∀ (v1 : Int32) (v2 : Int32) (v3 : Int32) (v4 : Int32) (v5 : Int32) (σ : ES), K95 v1 v2 v3 v4 v5 σ = some (r, σ') → ∀ (H : Heap) (locs : List Loc), va_P D vwCl (mw cy ad σ) H → va_D A (mw cy ad σ) → va_S A s.heap H locs → ∀ ls : Array Slot, lv_has ls 9 [(0, .ref (ad 0)), (1, .int v1), (2, .int v2), (3, .int v3), (4, .int v4), (5, .int v5)] → W p l e { frames := 2, cells := 0, slots := 0, locals := 46 } s m args below meth c H locs 0 0 (MQ below (Qi D cy A r (mw cy ad σ')) args s 0 0 A) (F0 m 95 ls [])) (v1 : Int32) (v2 : Int32) (v3 : Int32) (v4 : Int32) (v5 : Int32) (t0 : Int32) (σ : ES) (h : b_X8_pairs_213 K49 K82 K95 v1 v2 v3 v4 v5 t0 σ = some (r, σ')) (H : Heap) (locs : List Loc) (hP : va_P D vwCl (mw cy ad σ) H) (hD : va_D A (mw cy ad σ)) (hS : va_S A s.heap H locs) (ls : Array Slot) (hl : lv_has ls 9 [(0, .ref (ad 0)), (1, .int v1), (2, .int v2), (3, .int v3), (4, .int v4), (5, .int v5)]) : W p l e { frames := 2, cells := 0, slots := 0, locals := 46 } s m args below meth c H locs 0 0 (MQ below (Qi D cy A r (mw cy ad σ')) args s 0 0 A) (F0 m 213 ls [.int t0]) := by
  obtain ⟨⟨hx, hb, hml, hown, hts⟩, hK, hT, hA, hlk⟩ := id C
  unfold b_X8_pairs_213 at h
  refine lv_istore (lv' := [(8, .int t0), (0, .ref (ad 0)), (1, .int v1), (2, .int v2), (3, .int v3), (4, .int v4), (5, .int v5)]) hx hb dX8_pairs_213 hl (by decide) rfl (fun ls hl => ?_)
  refine lv_aload_n hx hb dX8_pairs_215 rfl (lv_at hl 1 rfl) ?_
  refine x_get C hP inlX8 0 mw_0 rfl 27 (by decide) mw6_14 rfl dX8_pairs_216 ?_
  refine lv_iload_n hx hb dX8_pairs_219 rfl (lv_at hl 3 rfl) ?_
  refine lv_iload hx hb dX8_pairs_220 (lv_at hl 0 rfl) ?_
  refine lv_aload_n hx hb dX8_pairs_222 rfl (lv_at hl 1 rfl) ?_
  refine x_get C hP inlX8 0 mw_0 rfl 27 (by decide) mw6_14 rfl dX8_pairs_223 ?_
  refine lv_iload_n hx hb dX8_pairs_226 rfl (lv_at hl 3 rfl) ?_
  obtain ⟨g1, x2, ex2, h⟩ := rd_some h
  refine x_ild C hP 17 mw_17 g1 ex2 dX8_pairs_227 ?_
  refine lv_icmp_le (tgt := 236) hx hb dX8_pairs_228 (by decide) (fun q3 => ?_) (fun q3 => ?_)
  · have h := ifp q3 h
    refine lv_aload_n hx hb dX8_pairs_236 rfl (lv_at hl 1 rfl) ?_
    refine x_get C hP inlX8 0 mw_0 rfl 27 (by decide) mw6_14 rfl dX8_pairs_237 ?_
    refine lv_iload_n hx hb dX8_pairs_240 rfl (lv_at hl 3 rfl) ?_
    obtain ⟨g4, x5, ex5, h⟩ := rd_some h
    refine x_ild C hP 17 mw_17 g4 ex5 dX8_pairs_241 ?_
    exact w_X8_pairs_242 C hr hK49 hK82 hK95 v1 v2 v3 v4 v5 v2 x5 σ h H locs hP hD hS ls (lv_sub hl [1, 2, 3, 4, 5, 6] rfl)
  · have h := ifn q3 h
    refine lv_iload hx hb dX8_pairs_231 (lv_at hl 0 rfl) ?_
    refine lv_goto (tgt := 242) hx hb dX8_pairs_233 (by decide) ?_
    exact w_X8_pairs_242 C hr hK49 hK82 hK95 v1 v2 v3 v4 v5 v2 t0 σ h H locs hP hD hS ls (lv_sub hl [1, 2, 3, 4, 5, 6] rfl)
set_option maxHeartbeats 4000000 in
set_option maxRecDepth 100000 in
theorem w_X8_pairs_138 (C : Cx p s m args meth c D cy tT tF A cX8_pairs 9 RX8) (hr : meth.sig.returnType = some .int) {r : Int32} {σ' : ES} {K49 : Int32 → Int32 → ES → Option (Int32 × ES)} (hK49 : ∀ (v1 : Int32) (v2 : Int32) (σ : ES), K49 v1 v2 σ = some (r, σ') → ∀ (H : Heap) (locs : List Loc), va_P D vwCl (mw cy ad σ) H → va_D A (mw cy ad σ) → va_S A s.heap H locs → ∀ ls : Array Slot, lv_has ls 9 [(0, .ref (ad 0)), (1, .int v1), (2, .int v2)] → W p l e { frames := 2, cells := 0, slots := 0, locals := 46 } s m args below meth c H locs 0 0 (MQ below (Qi D cy A r (mw cy ad σ')) args s 0 0 A) (F0 m 49 ls [])) {K82 : Int32 → Int32 → Int32 → Int32 → ES → Option (Int32 × ES)} (hK82 : ∀ (v1 : Int32) (v2 : Int32) (v3 : Int32) (v4 : Int32) (σ : ES), K82 v1 v2 v3 v4 σ = some (r, σ') → ∀ (H : Heap) (locs : List Loc), va_P D vwCl (mw cy ad σ) H → va_D A (mw cy ad σ) → va_S A s.heap H locs → ∀ ls : Array Slot, lv_has ls 9 [(0, .ref (ad 0)), (1, .int v1), (2, .int v2), (3, .int v3), (4, .int v4)] → W p l e { frames := 2, cells := 0, slots := 0, locals := 46 } s m args below meth c H locs 0 0 (MQ below (Qi D cy A r (mw cy ad σ')) args s 0 0 A) (F0 m 82 ls [])) {K95 : Int32 → Int32 → Int32 → Int32 → Int32 → ES → Option (Int32 × ES)} (hK95 : ∀ (v1 : Int32) (v2 : Int32) (v3 : Int32) (v4 : Int32) (v5 : Int32) (σ : ES), K95 v1 v2 v3 v4 v5 σ = some (r, σ') → ∀ (H : Heap) (locs : List Loc), va_P D vwCl (mw cy ad σ) H → va_D A (mw cy ad σ) → va_S A s.heap H locs → ∀ ls : Array Slot, lv_has ls 9 [(0, .ref (ad 0)), (1, .int v1), (2, .int v2), (3, .int v3), (4, .int v4), (5, .int v5)] → W p l e { frames := 2, cells := 0, slots := 0, locals := 46 } s m args below meth c H locs 0 0 (MQ below (Qi D cy A r (mw cy ad σ')) args s 0 0 A) (F0 m 95 ls [])) (v1 : Int32) (v2 : Int32) (v3 : Int32) (v4 : Int32) (v5 : Int32) (t0 : Int32) (σ : ES) (h : b_X8_pairs_138 K49 K82 K95 v1 v2 v3 v4 v5 t0 σ = some (r, σ')) (H : Heap) (locs : List Loc) (hP : va_P D vwCl (mw cy ad σ) H) (hD : va_D A (mw cy ad σ)) (hS : va_S A s.heap H locs) (ls : Array Slot) (hl : lv_has ls 9 [(0, .ref (ad 0)), (1, .int v1), (2, .int v2), (3, .int v3), (4, .int v4), (5, .int v5)]) : W p l e { frames := 2, cells := 0, slots := 0, locals := 46 } s m args below meth c H locs 0 0 (MQ below (Qi D cy A r (mw cy ad σ')) args s 0 0 A) (F0 m 138 ls [.int t0]) := by
  obtain ⟨⟨hx, hb, hml, hown, hts⟩, hK, hT, hA, hlk⟩ := id C
  unfold b_X8_pairs_138 at h
  refine lv_istore (lv' := [(6, .int t0), (0, .ref (ad 0)), (1, .int v1), (2, .int v2), (3, .int v3), (4, .int v4), (5, .int v5)]) hx hb dX8_pairs_138 hl (by decide) rfl (fun ls hl => ?_)
  refine lv_iload_n hx hb dX8_pairs_140 rfl (lv_at hl 3 rfl) ?_
  refine lv_iconst (v := 1) hx hb dX8_pairs_141 (by decide) ?_
  refine lv_iload hx hb dX8_pairs_142 (lv_at hl 5 rfl) ?_
  refine lv_ishl hx hb dX8_pairs_144 ?_
  refine lv_iconst (v := -1) hx hb dX8_pairs_145 (by decide) ?_
  refine lv_ixor hx hb dX8_pairs_146 ?_
  refine lv_iand hx hb dX8_pairs_147 ?_
  refine lv_iconst (v := 1) hx hb dX8_pairs_148 (by decide) ?_
  refine lv_iload hx hb dX8_pairs_149 (lv_at hl 6 rfl) ?_
  refine lv_ishl hx hb dX8_pairs_151 ?_
  refine lv_iconst (v := -1) hx hb dX8_pairs_152 (by decide) ?_
  refine lv_ixor hx hb dX8_pairs_153 ?_
  refine lv_iand hx hb dX8_pairs_154 ?_
  obtain ⟨x1, ex1, h⟩ := lt_some h
  refine x_ti ex1 ?_
  refine lv_istore (lv' := [(7, .int x1), (6, .int t0), (0, .ref (ad 0)), (1, .int v1), (2, .int v2), (3, .int v3), (4, .int v4), (5, .int v5)]) hx hb dX8_pairs_155 hl (by decide) rfl (fun ls hl => ?_)
  refine lv_iload hx hb dX8_pairs_157 (lv_at hl 1 rfl) ?_
  refine lv_if_eq (tgt := 211) hx hb dX8_pairs_159 (by decide) (fun q2 => ?_) (fun q2 => ?_)
  · have h := ifp q2 h
    refine lv_bipush (v := -9) hx hb dX8_pairs_211 (by decide) ?_
    exact w_X8_pairs_213 C hr hK49 hK82 hK95 v1 v2 v3 v4 v5 (-9 : Int32) σ h H locs hP hD hS ls (lv_sub hl [2, 3, 4, 5, 6, 7] rfl)
  · have h := ifn q2 h
    refine lv_aload_n hx hb dX8_pairs_162 rfl (lv_at hl 2 rfl) ?_
    refine x_get C hP inlX8 0 mw_0 rfl 27 (by decide) mw6_14 rfl dX8_pairs_163 ?_
    refine lv_iload hx hb dX8_pairs_166 (lv_at hl 0 rfl) ?_
    obtain ⟨g3, x4, ex4, h⟩ := rd_some h
    refine x_ild C hP 17 mw_17 g3 ex4 dX8_pairs_168 ?_
    refine lv_bipush (v := -9) hx hb dX8_pairs_169 (by decide) ?_
    refine lv_icmp_eq (tgt := 211) hx hb dX8_pairs_171 (by decide) (fun q5 => ?_) (fun q5 => ?_)
    · have h := ifp q5 h
      refine lv_bipush (v := -9) hx hb dX8_pairs_211 (by decide) ?_
      exact w_X8_pairs_213 C hr hK49 hK82 hK95 v1 v2 v3 v4 v5 (-9 : Int32) σ h H locs hP hD hS ls (lv_sub hl [2, 3, 4, 5, 6, 7] rfl)
    · have h := ifn q5 h
      refine lv_aload_n hx hb dX8_pairs_174 rfl (lv_at hl 2 rfl) ?_
      refine x_get C hP inlX8 0 mw_0 rfl 27 (by decide) mw6_14 rfl dX8_pairs_175 ?_
      refine lv_iload hx hb dX8_pairs_178 (lv_at hl 0 rfl) ?_
      obtain ⟨g6, x7, ex7, h⟩ := rd_some h
      refine x_ild C hP 17 mw_17 g6 ex7 dX8_pairs_180 ?_
      refine lv_iload hx hb dX8_pairs_181 (lv_at hl 6 rfl) ?_
      refine lv_iload hx hb dX8_pairs_183 (lv_at hl 7 rfl) ?_
      refine lv_icmp_ne (tgt := 199) hx hb dX8_pairs_185 (by decide) (fun q8 => ?_) (fun q8 => ?_)
      · have h := ifn q8 h
        refine lv_aload_n hx hb dX8_pairs_199 rfl (lv_at hl 2 rfl) ?_
        refine lv_iload hx hb dX8_pairs_200 (lv_at hl 6 rfl) ?_
        refine lv_iload hx hb dX8_pairs_202 (lv_at hl 7 rfl) ?_
        obtain ⟨r10, g9, h⟩ := cl_some h
        refine x_callVi (rest := [.int x7]) C hP hD hS (c_X8_tableOf g9) (cwV 2 hts (gV mw25_19 mw25_20 mw25_21 mw1_5 mw25_22) rfl rfl rfl hdV_X8_tableOf ⟨Nat.le_of_ble_eq_true rfl, Nat.le_of_ble_eq_true rfl⟩) mw_0 rfl rfl hl.1 rfl (Nat.le_of_ble_eq_true rfl) dX8_pairs_204 ⟨Nat.zero_le _, Nat.zero_le _⟩ (fun H locs hP hD hS => ?_)
        refine lv_iadd hx hb dX8_pairs_207 ?_
        refine lv_goto (tgt := 213) hx hb dX8_pairs_208 (by decide) ?_
        exact w_X8_pairs_213 C hr hK49 hK82 hK95 v1 v2 v3 v4 v5 (x7 + r10) σ h H locs hP hD hS ls (lv_sub hl [2, 3, 4, 5, 6, 7] rfl)
      · have h := ifp q8 h
        refine lv_aload_n hx hb dX8_pairs_188 rfl (lv_at hl 2 rfl) ?_
        refine lv_iload hx hb dX8_pairs_189 (lv_at hl 6 rfl) ?_
        refine lv_bipush (v := -9) hx hb dX8_pairs_191 (by decide) ?_
        obtain ⟨r12, g11, h⟩ := cl_some h
        refine x_callVi (rest := [.int x7]) C hP hD hS (c_X8_tableOf g11) (cwV 2 hts (gV mw25_19 mw25_20 mw25_21 mw1_5 mw25_22) rfl rfl rfl hdV_X8_tableOf ⟨Nat.le_of_ble_eq_true rfl, Nat.le_of_ble_eq_true rfl⟩) mw_0 rfl rfl hl.1 rfl (Nat.le_of_ble_eq_true rfl) dX8_pairs_193 ⟨Nat.zero_le _, Nat.zero_le _⟩ (fun H locs hP hD hS => ?_)
        refine lv_goto (tgt := 207) hx hb dX8_pairs_196 (by decide) ?_
        refine lv_iadd hx hb dX8_pairs_207 ?_
        refine lv_goto (tgt := 213) hx hb dX8_pairs_208 (by decide) ?_
        exact w_X8_pairs_213 C hr hK49 hK82 hK95 v1 v2 v3 v4 v5 (x7 + r12) σ h H locs hP hD hS ls (lv_sub hl [2, 3, 4, 5, 6, 7] rfl)
set_option maxHeartbeats 4000000 in
set_option maxRecDepth 100000 in
theorem w_X8_pairs_95 (C : Cx p s m args meth c D cy tT tF A cX8_pairs 9 RX8) (hr : meth.sig.returnType = some .int) {r : Int32} {σ' : ES} {K49 : Int32 → Int32 → ES → Option (Int32 × ES)} (hK49 : ∀ (v1 : Int32) (v2 : Int32) (σ : ES), K49 v1 v2 σ = some (r, σ') → ∀ (H : Heap) (locs : List Loc), va_P D vwCl (mw cy ad σ) H → va_D A (mw cy ad σ) → va_S A s.heap H locs → ∀ ls : Array Slot, lv_has ls 9 [(0, .ref (ad 0)), (1, .int v1), (2, .int v2)] → W p l e { frames := 2, cells := 0, slots := 0, locals := 46 } s m args below meth c H locs 0 0 (MQ below (Qi D cy A r (mw cy ad σ')) args s 0 0 A) (F0 m 49 ls [])) {K82 : Int32 → Int32 → Int32 → Int32 → ES → Option (Int32 × ES)} (hK82 : ∀ (v1 : Int32) (v2 : Int32) (v3 : Int32) (v4 : Int32) (σ : ES), K82 v1 v2 v3 v4 σ = some (r, σ') → ∀ (H : Heap) (locs : List Loc), va_P D vwCl (mw cy ad σ) H → va_D A (mw cy ad σ) → va_S A s.heap H locs → ∀ ls : Array Slot, lv_has ls 9 [(0, .ref (ad 0)), (1, .int v1), (2, .int v2), (3, .int v3), (4, .int v4)] → W p l e { frames := 2, cells := 0, slots := 0, locals := 46 } s m args below meth c H locs 0 0 (MQ below (Qi D cy A r (mw cy ad σ')) args s 0 0 A) (F0 m 82 ls [])) : ∀ (n : Nat) (v1 : Int32) (v2 : Int32) (v3 : Int32) (v4 : Int32) (v5 : Int32) (σ : ES), b_X8_pairs_95 K49 K82 n v1 v2 v3 v4 v5 σ = some (r, σ') → ∀ (H : Heap) (locs : List Loc) (hP : va_P D vwCl (mw cy ad σ) H) (hD : va_D A (mw cy ad σ)) (hS : va_S A s.heap H locs) (ls : Array Slot) (hl : lv_has ls 9 [(0, .ref (ad 0)), (1, .int v1), (2, .int v2), (3, .int v3), (4, .int v4), (5, .int v5)]), W p l e { frames := 2, cells := 0, slots := 0, locals := 46 } s m args below meth c H locs 0 0 (MQ below (Qi D cy A r (mw cy ad σ')) args s 0 0 A) (F0 m 95 ls []) := by
  obtain ⟨⟨hx, hb, hml, hown, hts⟩, hK, hT, hA, hlk⟩ := id C
  intro n
  induction n with
  | zero =>
    intro v1 v2 v3 v4 v5 σ h
    exact no_some h
  | succ n ih =>
    intro v1 v2 v3 v4 v5 σ h H locs hP hD hS ls hl
    rw [b_X8_pairs_95] at h
    refine lv_iload hx hb dX8_pairs_95 (lv_at hl 5 rfl) ?_
    refine lv_aload_n hx hb dX8_pairs_97 rfl (lv_at hl 0 rfl) ?_
    refine x_get C hP inlX8 0 mw_0 rfl 1 (by decide) mw12_3 rfl dX8_pairs_98 ?_
    refine lv_icmp_ge (tgt := 249) hx hb dX8_pairs_101 (by decide) (fun q1 => ?_) (fun q1 => ?_)
    · have h := ifp q1 h
      obtain ⟨x2, ex2, h⟩ := lt_some h
      refine lv_iinc (v := x2) (lv' := [(4, .int x2), (0, .ref (ad 0)), (1, .int v1), (2, .int v2), (3, .int v3), (5, .int v5)]) hx hb dX8_pairs_249 hl (k := 4) rfl (by rw [ex2]; rfl) (by decide) rfl (fun ls hl => ?_)
      refine lv_goto (tgt := 82) hx hb dX8_pairs_252 (by decide) ?_
      exact hK82 v1 v2 v3 x2 σ h H locs hP hD hS ls (lv_sub hl [1, 2, 3, 4, 0] rfl)
    · have h := ifn q1 h
      refine lv_iload_n hx hb dX8_pairs_104 rfl (lv_at hl 2 rfl) ?_
      refine lv_iload hx hb dX8_pairs_105 (lv_at hl 4 rfl) ?_
      obtain ⟨r4, g3, h⟩ := cl_some h
      refine x_callSi (rest := []) C hP hD hS (c_X8_has g3) (va_cwS 2 hts (gS mw18_16 mw18_17 mw1_5 mw18_18) rfl rfl rfl hdS_X8_has ⟨Nat.le_of_ble_eq_true rfl, Nat.le_of_ble_eq_true rfl⟩) rfl hl.1 rfl (Nat.le_of_ble_eq_true rfl) dX8_pairs_107 ⟨Nat.zero_le _, Nat.zero_le _⟩ (fun H locs hP hD hS => ?_)
      refine lv_if_eq (tgt := 137) hx hb dX8_pairs_110 (by decide) (fun q5 => ?_) (fun q5 => ?_)
      · have h := ifp q5 h
        refine lv_iconst (v := 0) hx hb dX8_pairs_137 (by decide) ?_
        exact w_X8_pairs_138 C hr hK49 hK82 ih v1 v2 v3 v4 v5 (0 : Int32) σ h H locs hP hD hS ls (lv_sub hl [0, 1, 2, 3, 4, 5] rfl)
      · have h := ifn q5 h
        refine lv_iload_n hx hb dX8_pairs_113 rfl (lv_at hl 2 rfl) ?_
        refine lv_iload hx hb dX8_pairs_114 (lv_at hl 5 rfl) ?_
        obtain ⟨r7, g6, h⟩ := cl_some h
        refine x_callSi (rest := []) C hP hD hS (c_X8_has g6) (va_cwS 2 hts (gS mw18_16 mw18_17 mw1_5 mw18_18) rfl rfl rfl hdS_X8_has ⟨Nat.le_of_ble_eq_true rfl, Nat.le_of_ble_eq_true rfl⟩) rfl hl.1 rfl (Nat.le_of_ble_eq_true rfl) dX8_pairs_116 ⟨Nat.zero_le _, Nat.zero_le _⟩ (fun H locs hP hD hS => ?_)
        refine lv_if_eq (tgt := 137) hx hb dX8_pairs_119 (by decide) (fun q8 => ?_) (fun q8 => ?_)
        · have h := ifp q8 h
          refine lv_iconst (v := 0) hx hb dX8_pairs_137 (by decide) ?_
          exact w_X8_pairs_138 C hr hK49 hK82 ih v1 v2 v3 v4 v5 (0 : Int32) σ h H locs hP hD hS ls (lv_sub hl [0, 1, 2, 3, 4, 5] rfl)
        · have h := ifn q8 h
          refine lv_iload hx hb dX8_pairs_122 (lv_at hl 4 rfl) ?_
          refine lv_iload hx hb dX8_pairs_124 (lv_at hl 5 rfl) ?_
          refine lv_icmp_ne (tgt := 133) hx hb dX8_pairs_126 (by decide) (fun q9 => ?_) (fun q9 => ?_)
          · have h := ifn q9 h
            refine lv_iconst (v := 1) hx hb dX8_pairs_133 (by decide) ?_
            refine lv_goto (tgt := 138) hx hb dX8_pairs_134 (by decide) ?_
            exact w_X8_pairs_138 C hr hK49 hK82 ih v1 v2 v3 v4 v5 (1 : Int32) σ h H locs hP hD hS ls (lv_sub hl [0, 1, 2, 3, 4, 5] rfl)
          · have h := ifp q9 h
            refine lv_iload_n hx hb dX8_pairs_129 rfl (lv_at hl 3 rfl) ?_
            refine lv_if_eq (tgt := 137) hx hb dX8_pairs_130 (by decide) (fun q10 => ?_) (fun q10 => ?_)
            · have h := ifp q10 h
              refine lv_iconst (v := 0) hx hb dX8_pairs_137 (by decide) ?_
              exact w_X8_pairs_138 C hr hK49 hK82 ih v1 v2 v3 v4 v5 (0 : Int32) σ h H locs hP hD hS ls (lv_sub hl [0, 1, 2, 3, 4, 5] rfl)
            · have h := ifn q10 h
              refine lv_iconst (v := 1) hx hb dX8_pairs_133 (by decide) ?_
              refine lv_goto (tgt := 138) hx hb dX8_pairs_134 (by decide) ?_
              exact w_X8_pairs_138 C hr hK49 hK82 ih v1 v2 v3 v4 v5 (1 : Int32) σ h H locs hP hD hS ls (lv_sub hl [0, 1, 2, 3, 4, 5] rfl)
set_option maxHeartbeats 4000000 in
set_option maxRecDepth 100000 in
theorem w_X8_pairs_82 (C : Cx p s m args meth c D cy tT tF A cX8_pairs 9 RX8) (hr : meth.sig.returnType = some .int) {r : Int32} {σ' : ES} {K49 : Int32 → Int32 → ES → Option (Int32 × ES)} (hK49 : ∀ (v1 : Int32) (v2 : Int32) (σ : ES), K49 v1 v2 σ = some (r, σ') → ∀ (H : Heap) (locs : List Loc), va_P D vwCl (mw cy ad σ) H → va_D A (mw cy ad σ) → va_S A s.heap H locs → ∀ ls : Array Slot, lv_has ls 9 [(0, .ref (ad 0)), (1, .int v1), (2, .int v2)] → W p l e { frames := 2, cells := 0, slots := 0, locals := 46 } s m args below meth c H locs 0 0 (MQ below (Qi D cy A r (mw cy ad σ')) args s 0 0 A) (F0 m 49 ls [])) : ∀ (n : Nat) (v1 : Int32) (v2 : Int32) (v3 : Int32) (v4 : Int32) (σ : ES), b_X8_pairs_82 K49 n v1 v2 v3 v4 σ = some (r, σ') → ∀ (H : Heap) (locs : List Loc) (hP : va_P D vwCl (mw cy ad σ) H) (hD : va_D A (mw cy ad σ)) (hS : va_S A s.heap H locs) (ls : Array Slot) (hl : lv_has ls 9 [(0, .ref (ad 0)), (1, .int v1), (2, .int v2), (3, .int v3), (4, .int v4)]), W p l e { frames := 2, cells := 0, slots := 0, locals := 46 } s m args below meth c H locs 0 0 (MQ below (Qi D cy A r (mw cy ad σ')) args s 0 0 A) (F0 m 82 ls []) := by
  obtain ⟨⟨hx, hb, hml, hown, hts⟩, hK, hT, hA, hlk⟩ := id C
  intro n
  induction n with
  | zero =>
    intro v1 v2 v3 v4 σ h
    exact no_some h
  | succ n ih =>
    intro v1 v2 v3 v4 σ h H locs hP hD hS ls hl
    rw [b_X8_pairs_82] at h
    refine lv_iload hx hb dX8_pairs_82 (lv_at hl 4 rfl) ?_
    refine lv_aload_n hx hb dX8_pairs_84 rfl (lv_at hl 0 rfl) ?_
    refine x_get C hP inlX8 0 mw_0 rfl 1 (by decide) mw12_3 rfl dX8_pairs_85 ?_
    refine lv_icmp_ge (tgt := 255) hx hb dX8_pairs_88 (by decide) (fun q1 => ?_) (fun q1 => ?_)
    · have h := ifp q1 h
      obtain ⟨x2, ex2, h⟩ := lt_some h
      refine lv_iinc (v := x2) (lv' := [(2, .int x2), (0, .ref (ad 0)), (1, .int v1), (3, .int v3), (4, .int v4)]) hx hb dX8_pairs_255 hl (k := 2) rfl (by rw [ex2]; rfl) (by decide) rfl (fun ls hl => ?_)
      refine lv_goto (tgt := 49) hx hb dX8_pairs_258 (by decide) ?_
      exact hK49 v1 x2 σ h H locs hP hD hS ls (lv_sub hl [1, 2, 0] rfl)
    · have h := ifn q1 h
      refine lv_iload hx hb dX8_pairs_91 (lv_at hl 4 rfl) ?_
      refine lv_istore (lv' := [(5, .int v4), (0, .ref (ad 0)), (1, .int v1), (2, .int v2), (3, .int v3), (4, .int v4)]) hx hb dX8_pairs_93 hl (by decide) rfl (fun ls hl => ?_)
      exact w_X8_pairs_95 C hr hK49 ih FU v1 v2 v3 v4 v4 σ h H locs hP hD hS ls (lv_sub hl [1, 2, 3, 4, 5, 0] rfl)
set_option maxHeartbeats 4000000 in
set_option maxRecDepth 100000 in
theorem w_X8_pairs_49 (C : Cx p s m args meth c D cy tT tF A cX8_pairs 9 RX8) (hr : meth.sig.returnType = some .int) {r : Int32} {σ' : ES} : ∀ (n : Nat) (v1 : Int32) (v2 : Int32) (σ : ES), b_X8_pairs_49 n v1 v2 σ = some (r, σ') → ∀ (H : Heap) (locs : List Loc) (hP : va_P D vwCl (mw cy ad σ) H) (hD : va_D A (mw cy ad σ)) (hS : va_S A s.heap H locs) (ls : Array Slot) (hl : lv_has ls 9 [(0, .ref (ad 0)), (1, .int v1), (2, .int v2)]), W p l e { frames := 2, cells := 0, slots := 0, locals := 46 } s m args below meth c H locs 0 0 (MQ below (Qi D cy A r (mw cy ad σ')) args s 0 0 A) (F0 m 49 ls []) := by
  obtain ⟨⟨hx, hb, hml, hown, hts⟩, hK, hT, hA, hlk⟩ := id C
  intro n
  induction n with
  | zero =>
    intro v1 v2 σ h
    exact no_some h
  | succ n ih =>
    intro v1 v2 σ h H locs hP hD hS ls hl
    rw [b_X8_pairs_49] at h
    refine lv_iload_n hx hb dX8_pairs_49 rfl (lv_at hl 2 rfl) ?_
    refine lv_bipush (v := 16) hx hb dX8_pairs_50 (by decide) ?_
    refine lv_icmp_ge (tgt := 261) hx hb dX8_pairs_52 (by decide) (fun q1 => ?_) (fun q1 => ?_)
    · have h := ifp q1 h
      refine lv_aload_n hx hb dX8_pairs_261 rfl (lv_at hl 0 rfl) ?_
      refine x_get C hP inlX8 0 mw_0 rfl 27 (by decide) mw6_14 rfl dX8_pairs_262 ?_
      refine lv_iload_n hx hb dX8_pairs_265 rfl (lv_at hl 1 rfl) ?_
      obtain ⟨g2, x3, ex3, h⟩ := rd_some h
      refine x_ild C hP 17 mw_17 g2 ex3 dX8_pairs_266 ?_
      obtain ⟨z1, z2⟩ := pr_inj h
      subst z1
      subst z2
      exact x_iret C hr hP hD hS dX8_pairs_267
    · have h := ifn q1 h
      refine lv_aload_n hx hb dX8_pairs_55 rfl (lv_at hl 0 rfl) ?_
      refine x_get C hP inlX8 0 mw_0 rfl 27 (by decide) mw6_14 rfl dX8_pairs_56 ?_
      refine lv_iload_n hx hb dX8_pairs_59 rfl (lv_at hl 2 rfl) ?_
      refine lv_bipush (v := -9) hx hb dX8_pairs_60 (by decide) ?_
      obtain ⟨g4, σ5, eσ5, h⟩ := wr_some h
      refine x_ist C hP hD hS 17 mw_17 g4 (ma_17 eσ5) dX8_pairs_62 (fun H locs hP hD hS => ?_)
      refine lv_iload_n hx hb dX8_pairs_63 rfl (lv_at hl 2 rfl) ?_
      obtain ⟨r7, g6, h⟩ := cl_some h
      refine x_callSi (rest := []) C hP hD hS (c_X8_ones g6) (va_cwS 1 hts (gS mw24_21 mw24_22 mw1_5 mw24_23) rfl rfl rfl hdS_X8_ones ⟨Nat.le_of_ble_eq_true rfl, Nat.le_of_ble_eq_true rfl⟩) rfl hl.1 rfl (Nat.le_of_ble_eq_true rfl) dX8_pairs_64 ⟨Nat.zero_le _, Nat.zero_le _⟩ (fun H locs hP hD hS => ?_)
      refine lv_iconst (v := 2) hx hb dX8_pairs_67 (by decide) ?_
      refine lv_irem hx hb dX8_pairs_68 (by decide) ?_
      refine lv_iconst (v := 1) hx hb dX8_pairs_69 (by decide) ?_
      refine lv_icmp_ne (tgt := 77) hx hb dX8_pairs_70 (by decide) (fun q8 => ?_) (fun q8 => ?_)
      · have h := ifn q8 h
        refine lv_iconst (v := 0) hx hb dX8_pairs_77 (by decide) ?_
        refine lv_istore_n (lv' := [(3, .int (0 : Int32)), (0, .ref (ad 0)), (1, .int v1), (2, .int v2)]) hx hb dX8_pairs_78 rfl hl (by decide) rfl (fun ls hl => ?_)
        refine lv_iconst (v := 0) hx hb dX8_pairs_79 (by decide) ?_
        refine lv_istore (lv' := [(4, .int (0 : Int32)), (3, .int (0 : Int32)), (0, .ref (ad 0)), (1, .int v1), (2, .int v2)]) hx hb dX8_pairs_80 hl (by decide) rfl (fun ls hl => ?_)
        exact w_X8_pairs_82 C hr ih FU v1 v2 (0 : Int32) (0 : Int32) σ5 h H locs hP hD hS ls (lv_sub hl [2, 3, 4, 1, 0] rfl)
      · have h := ifp q8 h
        refine lv_iconst (v := 1) hx hb dX8_pairs_73 (by decide) ?_
        refine lv_goto (tgt := 78) hx hb dX8_pairs_74 (by decide) ?_
        refine lv_istore_n (lv' := [(3, .int (1 : Int32)), (0, .ref (ad 0)), (1, .int v1), (2, .int v2)]) hx hb dX8_pairs_78 rfl hl (by decide) rfl (fun ls hl => ?_)
        refine lv_iconst (v := 0) hx hb dX8_pairs_79 (by decide) ?_
        refine lv_istore (lv' := [(4, .int (0 : Int32)), (3, .int (1 : Int32)), (0, .ref (ad 0)), (1, .int v1), (2, .int v2)]) hx hb dX8_pairs_80 hl (by decide) rfl (fun ls hl => ?_)
        exact w_X8_pairs_82 C hr ih FU v1 v2 (1 : Int32) (0 : Int32) σ5 h H locs hP hD hS ls (lv_sub hl [2, 3, 4, 1, 0] rfl)
set_option maxHeartbeats 4000000 in
set_option maxRecDepth 100000 in
theorem w_X8_pairs_4 (C : Cx p s m args meth c D cy tT tF A cX8_pairs 9 RX8) (hr : meth.sig.returnType = some .int) {r : Int32} {σ' : ES} : ∀ (n : Nat) (v1 : Int32) (v2 : Int32) (σ : ES), b_X8_pairs_4 n v1 v2 σ = some (r, σ') → ∀ (H : Heap) (locs : List Loc) (hP : va_P D vwCl (mw cy ad σ) H) (hD : va_D A (mw cy ad σ)) (hS : va_S A s.heap H locs) (ls : Array Slot) (hl : lv_has ls 9 [(0, .ref (ad 0)), (1, .int v1), (2, .int v2)]), W p l e { frames := 2, cells := 0, slots := 0, locals := 46 } s m args below meth c H locs 0 0 (MQ below (Qi D cy A r (mw cy ad σ')) args s 0 0 A) (F0 m 4 ls []) := by
  obtain ⟨⟨hx, hb, hml, hown, hts⟩, hK, hT, hA, hlk⟩ := id C
  intro n
  induction n with
  | zero =>
    intro v1 v2 σ h
    exact no_some h
  | succ n ih =>
    intro v1 v2 σ h H locs hP hD hS ls hl
    rw [b_X8_pairs_4] at h
    refine lv_iload_n hx hb dX8_pairs_4 rfl (lv_at hl 2 rfl) ?_
    refine lv_aload_n hx hb dX8_pairs_5 rfl (lv_at hl 0 rfl) ?_
    refine x_get C hP inlX8 0 mw_0 rfl 1 (by decide) mw12_3 rfl dX8_pairs_6 ?_
    refine lv_icmp_ge (tgt := 40) hx hb dX8_pairs_9 (by decide) (fun q1 => ?_) (fun q1 => ?_)
    · have h := ifp q1 h
      refine lv_aload_n hx hb dX8_pairs_40 rfl (lv_at hl 0 rfl) ?_
      refine x_get C hP inlX8 0 mw_0 rfl 27 (by decide) mw6_14 rfl dX8_pairs_41 ?_
      refine lv_iconst (v := 0) hx hb dX8_pairs_44 (by decide) ?_
      refine lv_iconst (v := 0) hx hb dX8_pairs_45 (by decide) ?_
      obtain ⟨g2, σ3, eσ3, h⟩ := wr_some h
      refine x_ist C hP hD hS 17 mw_17 g2 (ma_17 eσ3) dX8_pairs_46 (fun H locs hP hD hS => ?_)
      refine lv_iconst (v := 1) hx hb dX8_pairs_47 (by decide) ?_
      refine lv_istore_n (lv' := [(2, .int (1 : Int32)), (0, .ref (ad 0)), (1, .int v1)]) hx hb dX8_pairs_48 rfl hl (by decide) rfl (fun ls hl => ?_)
      exact w_X8_pairs_49 C hr FU v1 (1 : Int32) σ3 h H locs hP hD hS ls (lv_sub hl [1, 2, 0] rfl)
    · have h := ifn q1 h
      refine lv_iload_n hx hb dX8_pairs_12 rfl (lv_at hl 1 rfl) ?_
      refine lv_aload_n hx hb dX8_pairs_13 rfl (lv_at hl 0 rfl) ?_
      refine x_get C hP inlX8 0 mw_0 rfl 11 (by decide) mw6_6 rfl dX8_pairs_14 ?_
      refine lv_bipush (v := 8) hx hb dX8_pairs_17 (by decide) ?_
      refine lv_iload_n hx hb dX8_pairs_19 rfl (lv_at hl 2 rfl) ?_
      refine lv_iadd hx hb dX8_pairs_20 ?_
      obtain ⟨g4, x5, ex5, h⟩ := rd_some h
      refine x_ild C hP 9 mw_9 g4 ex5 dX8_pairs_21 ?_
      refine lv_if_ne (tgt := 31) hx hb dX8_pairs_22 (by decide) (fun q6 => ?_) (fun q6 => ?_)
      · have h := ifn q6 h
        refine lv_iconst (v := 0) hx hb dX8_pairs_31 (by decide) ?_
        refine lv_ior hx hb dX8_pairs_32 ?_
        obtain ⟨x7, ex7, h⟩ := lt_some h
        refine x_ti ex7 ?_
        refine lv_istore_n (lv' := [(1, .int x7), (0, .ref (ad 0)), (2, .int v2)]) hx hb dX8_pairs_33 rfl hl (by decide) rfl (fun ls hl => ?_)
        obtain ⟨x8, ex8, h⟩ := lt_some h
        refine lv_iinc (v := x8) (lv' := [(2, .int x8), (1, .int x7), (0, .ref (ad 0))]) hx hb dX8_pairs_34 hl (k := 2) rfl (by rw [ex8]; rfl) (by decide) rfl (fun ls hl => ?_)
        refine lv_goto (tgt := 4) hx hb dX8_pairs_37 (by decide) ?_
        exact ih x7 x8 σ h H locs hP hD hS ls (lv_sub hl [2, 1, 0] rfl)
      · have h := ifp q6 h
        refine lv_iconst (v := 1) hx hb dX8_pairs_25 (by decide) ?_
        refine lv_iload_n hx hb dX8_pairs_26 rfl (lv_at hl 2 rfl) ?_
        refine lv_ishl hx hb dX8_pairs_27 ?_
        refine lv_goto (tgt := 32) hx hb dX8_pairs_28 (by decide) ?_
        refine lv_ior hx hb dX8_pairs_32 ?_
        obtain ⟨x9, ex9, h⟩ := lt_some h
        refine x_ti ex9 ?_
        refine lv_istore_n (lv' := [(1, .int x9), (0, .ref (ad 0)), (2, .int v2)]) hx hb dX8_pairs_33 rfl hl (by decide) rfl (fun ls hl => ?_)
        obtain ⟨x10, ex10, h⟩ := lt_some h
        refine lv_iinc (v := x10) (lv' := [(2, .int x10), (1, .int x9), (0, .ref (ad 0))]) hx hb dX8_pairs_34 hl (k := 2) rfl (by rw [ex10]; rfl) (by decide) rfl (fun ls hl => ?_)
        refine lv_goto (tgt := 4) hx hb dX8_pairs_37 (by decide) ?_
        exact ih x9 x10 σ h H locs hP hD hS ls (lv_sub hl [2, 1, 0] rfl)
set_option maxHeartbeats 4000000 in
set_option maxRecDepth 100000 in
theorem w_X8_pairs_0 (C : Cx p s m args meth c D cy tT tF A cX8_pairs 9 RX8) (hr : meth.sig.returnType = some .int) {r : Int32} {σ' : ES} (σ : ES) (h : b_X8_pairs_0 σ = some (r, σ')) (H : Heap) (locs : List Loc) (hP : va_P D vwCl (mw cy ad σ) H) (hD : va_D A (mw cy ad σ)) (hS : va_S A s.heap H locs) (ls : Array Slot) (hl : lv_has ls 9 [(0, .ref (ad 0))]) : W p l e { frames := 2, cells := 0, slots := 0, locals := 46 } s m args below meth c H locs 0 0 (MQ below (Qi D cy A r (mw cy ad σ')) args s 0 0 A) (F0 m 0 ls []) := by
  obtain ⟨⟨hx, hb, hml, hown, hts⟩, hK, hT, hA, hlk⟩ := id C
  unfold b_X8_pairs_0 at h
  refine lv_iconst (v := 0) hx hb dX8_pairs_0 (by decide) ?_
  refine lv_istore_n (lv' := [(1, .int (0 : Int32)), (0, .ref (ad 0))]) hx hb dX8_pairs_1 rfl hl (by decide) rfl (fun ls hl => ?_)
  refine lv_iconst (v := 0) hx hb dX8_pairs_2 (by decide) ?_
  refine lv_istore_n (lv' := [(2, .int (0 : Int32)), (1, .int (0 : Int32)), (0, .ref (ad 0))]) hx hb dX8_pairs_3 rfl hl (by decide) rfl (fun ls hl => ?_)
  exact w_X8_pairs_4 C hr FU (0 : Int32) (0 : Int32) σ h H locs hP hD hS ls (lv_sub hl [2, 1, 0] rfl)
theorem c_X8_pairs {l : Launch} {D : va_G} {cy : Nat → ClassId} {tT tF : Nat} {ad : Nat → Nat} {σ : ES} {r : Int32} {σ' : ES} (h : e_X8_pairs  σ = some (r, σ')) : CMi l yX8_pairs (Cond.code yX8_pairs cX8_pairs 9 (some .int) :: wsL_law) { frames := 2, cells := 0, slots := 0, locals := 46 } D cy tT tF [.ref (ad 0)] (mw cy ad σ) r (mw cy ad σ') := x_start (Qc := fun A => (Qi D cy A r (mw cy ad σ'))) (by decide) (Nat.le_of_ble_eq_true rfl) (fun p e s m below meth c A ls C hr hP hD hS hl => w_X8_pairs_0 C hr  σ h s.heap [] hP hD hS ls hl)
set_option maxHeartbeats 4000000 in
set_option maxRecDepth 100000 in
theorem w_X8_judge_116 (C : Cx p s m args meth c D cy tT tF A cX8_judge 6 RX8) (hr : meth.sig.returnType = some .int) {r : Int32} {σ' : ES} {K41 : Int32 → Int32 → Int32 → ES → Option (Int32 × ES)} (hK41 : ∀ (v1 : Int32) (v2 : Int32) (v3 : Int32) (σ : ES), K41 v1 v2 v3 σ = some (r, σ') → ∀ (H : Heap) (locs : List Loc), va_P D vwCl (mw cy ad σ) H → va_D A (mw cy ad σ) → va_S A s.heap H locs → ∀ ls : Array Slot, lv_has ls 6 [(0, .ref (ad 0)), (1, .int v1), (2, .int v2), (3, .int v3)] → W p l e { frames := 2, cells := 0, slots := 0, locals := 51 } s m args below meth c H locs 0 0 (MQ below (Qi D cy A r (mw cy ad σ')) args s 0 0 A) (F0 m 41 ls [])) (v1 : Int32) (v2 : Int32) (v3 : Int32) (v4 : Int32) (t0 : Int32) (σ : ES) (h : b_X8_judge_116 K41 v1 v2 v3 v4 t0 σ = some (r, σ')) (H : Heap) (locs : List Loc) (hP : va_P D vwCl (mw cy ad σ) H) (hD : va_D A (mw cy ad σ)) (hS : va_S A s.heap H locs) (ls : Array Slot) (hl : lv_has ls 6 [(0, .ref (ad 0)), (1, .int v1), (2, .int v2), (3, .int v3), (4, .int v4)]) : W p l e { frames := 2, cells := 0, slots := 0, locals := 51 } s m args below meth c H locs 0 0 (MQ below (Qi D cy A r (mw cy ad σ')) args s 0 0 A) (F0 m 116 ls [.int t0]) := by
  obtain ⟨⟨hx, hb, hml, hown, hts⟩, hK, hT, hA, hlk⟩ := id C
  unfold b_X8_judge_116 at h
  refine lv_istore (lv' := [(5, .int t0), (0, .ref (ad 0)), (1, .int v1), (2, .int v2), (3, .int v3), (4, .int v4)]) hx hb dX8_judge_116 hl (by decide) rfl (fun ls hl => ?_)
  refine lv_iload hx hb dX8_judge_118 (lv_at hl 0 rfl) ?_
  refine lv_if_ne (tgt := 125) hx hb dX8_judge_120 (by decide) (fun q1 => ?_) (fun q1 => ?_)
  · have h := ifn q1 h
    refine lv_iload hx hb dX8_judge_125 (lv_at hl 5 rfl) ?_
    refine lv_iconst (v := 4) hx hb dX8_judge_127 (by decide) ?_
    refine lv_icmp_ge (tgt := 145) hx hb dX8_judge_128 (by decide) (fun q2 => ?_) (fun q2 => ?_)
    · have h := ifp q2 h
      refine lv_aload_n hx hb dX8_judge_145 rfl (lv_at hl 1 rfl) ?_
      refine lv_iconst (v := 1) hx hb dX8_judge_146 (by decide) ?_
      obtain ⟨r5, σ4, g3, h⟩ := cs_some h
      refine x_callVi (rest := []) C hP hD hS (c_X8_pass g3) (cwV 1 hts (gV mw18_12 mw18_13 mw18_14 mw1_5 mw18_15) rfl rfl rfl hdV_X8_pass ⟨Nat.le_of_ble_eq_true rfl, Nat.le_of_ble_eq_true rfl⟩) mw_0 rfl rfl hl.1 rfl (Nat.le_of_ble_eq_true rfl) dX8_judge_147 ⟨Nat.zero_le _, Nat.zero_le _⟩ (fun H locs hP hD hS => ?_)
      refine lv_if_ne (tgt := 155) hx hb dX8_judge_150 (by decide) (fun q6 => ?_) (fun q6 => ?_)
      · have h := ifn q6 h
        obtain ⟨x7, ex7, h⟩ := lt_some h
        refine lv_iinc (v := x7) (lv' := [(3, .int x7), (5, .int t0), (0, .ref (ad 0)), (1, .int v1), (2, .int v2), (4, .int v4)]) hx hb dX8_judge_155 hl (k := 4) rfl (by rw [ex7]; rfl) (by decide) rfl (fun ls hl => ?_)
        refine lv_goto (tgt := 41) hx hb dX8_judge_158 (by decide) ?_
        exact hK41 v1 v2 x7 σ4 h H locs hP hD hS ls (lv_sub hl [2, 3, 4, 0] rfl)
      · have h := ifp q6 h
        refine lv_iload_n hx hb dX8_judge_153 rfl (lv_at hl 4 rfl) ?_
        obtain ⟨z1, z2⟩ := pr_inj h
        subst z1
        subst z2
        exact x_iret C hr hP hD hS dX8_judge_154
    · have h := ifn q2 h
      refine lv_aload_n hx hb dX8_judge_131 rfl (lv_at hl 1 rfl) ?_
      refine x_get C hP inlX8 0 mw_0 rfl 11 (by decide) mw6_6 rfl dX8_judge_132 ?_
      refine lv_bipush (v := 26) hx hb dX8_judge_135 (by decide) ?_
      refine lv_iload hx hb dX8_judge_137 (lv_at hl 5 rfl) ?_
      refine lv_iadd hx hb dX8_judge_139 ?_
      refine lv_iconst (v := 1) hx hb dX8_judge_140 (by decide) ?_
      obtain ⟨g8, σ9, eσ9, h⟩ := wr_some h
      refine x_ist C hP hD hS 9 mw_9 g8 (ma_9 eσ9) dX8_judge_141 (fun H locs hP hD hS => ?_)
      refine lv_goto (tgt := 155) hx hb dX8_judge_142 (by decide) ?_
      obtain ⟨x10, ex10, h⟩ := lt_some h
      refine lv_iinc (v := x10) (lv' := [(3, .int x10), (5, .int t0), (0, .ref (ad 0)), (1, .int v1), (2, .int v2), (4, .int v4)]) hx hb dX8_judge_155 hl (k := 4) rfl (by rw [ex10]; rfl) (by decide) rfl (fun ls hl => ?_)
      refine lv_goto (tgt := 41) hx hb dX8_judge_158 (by decide) ?_
      exact hK41 v1 v2 x10 σ9 h H locs hP hD hS ls (lv_sub hl [2, 3, 4, 0] rfl)
  · have h := ifp q1 h
    refine lv_iload_n hx hb dX8_judge_123 rfl (lv_at hl 4 rfl) ?_
    obtain ⟨z1, z2⟩ := pr_inj h
    subst z1
    subst z2
    exact x_iret C hr hP hD hS dX8_judge_124
set_option maxHeartbeats 4000000 in
set_option maxRecDepth 100000 in
theorem w_X8_judge_41 (C : Cx p s m args meth c D cy tT tF A cX8_judge 6 RX8) (hr : meth.sig.returnType = some .int) {r : Int32} {σ' : ES} : ∀ (n : Nat) (v1 : Int32) (v2 : Int32) (v3 : Int32) (σ : ES), b_X8_judge_41 n v1 v2 v3 σ = some (r, σ') → ∀ (H : Heap) (locs : List Loc) (hP : va_P D vwCl (mw cy ad σ) H) (hD : va_D A (mw cy ad σ)) (hS : va_S A s.heap H locs) (ls : Array Slot) (hl : lv_has ls 6 [(0, .ref (ad 0)), (1, .int v1), (2, .int v2), (3, .int v3)]), W p l e { frames := 2, cells := 0, slots := 0, locals := 51 } s m args below meth c H locs 0 0 (MQ below (Qi D cy A r (mw cy ad σ')) args s 0 0 A) (F0 m 41 ls []) := by
  obtain ⟨⟨hx, hb, hml, hown, hts⟩, hK, hT, hA, hlk⟩ := id C
  intro n
  induction n with
  | zero =>
    intro v1 v2 v3 σ h
    exact no_some h
  | succ n ih =>
    intro v1 v2 v3 σ h H locs hP hD hS ls hl
    rw [b_X8_judge_41] at h
    refine lv_iload_n hx hb dX8_judge_41 rfl (lv_at hl 3 rfl) ?_
    refine lv_iload_n hx hb dX8_judge_42 rfl (lv_at hl 1 rfl) ?_
    refine lv_icmp_ge (tgt := 161) hx hb dX8_judge_43 (by decide) (fun q1 => ?_) (fun q1 => ?_)
    · have h := ifp q1 h
      refine lv_bipush (v := -9) hx hb dX8_judge_161 (by decide) ?_
      obtain ⟨z1, z2⟩ := pr_inj h
      subst z1
      subst z2
      exact x_iret C hr hP hD hS dX8_judge_163
    · have h := ifn q1 h
      refine lv_iload_n hx hb dX8_judge_46 rfl (lv_at hl 2 rfl) ?_
      refine lv_bipush (v := 10) hx hb dX8_judge_47 (by decide) ?_
      refine lv_iload_n hx hb dX8_judge_49 rfl (lv_at hl 1 rfl) ?_
      refine lv_iconst (v := 1) hx hb dX8_judge_50 (by decide) ?_
      refine lv_isub hx hb dX8_judge_51 ?_
      refine lv_iload_n hx hb dX8_judge_52 rfl (lv_at hl 3 rfl) ?_
      refine lv_isub hx hb dX8_judge_53 ?_
      obtain ⟨r3, g2, h⟩ := cl_some h
      refine x_callSi (rest := [.int v2]) C hP hD hS (c_X8_power g2) (va_cwS 2 hts (gS mw22_15 mw22_16 mw1_5 mw22_17) rfl rfl rfl hdS_X8_power ⟨Nat.le_of_ble_eq_true rfl, Nat.le_of_ble_eq_true rfl⟩) rfl hl.1 rfl (Nat.le_of_ble_eq_true rfl) dX8_judge_54 ⟨Nat.zero_le _, Nat.zero_le _⟩ (fun H locs hP hD hS => ?_)
      obtain ⟨g4, h⟩ := dv_some h
      refine lv_idiv hx hb dX8_judge_57 g4 ?_
      refine lv_bipush (v := 10) hx hb dX8_judge_58 (by decide) ?_
      refine lv_irem hx hb dX8_judge_60 (by decide) ?_
      obtain ⟨x5, ex5, h⟩ := lt_some h
      refine x_ti ex5 ?_
      refine lv_istore (lv' := [(4, .int x5), (0, .ref (ad 0)), (1, .int v1), (2, .int v2), (3, .int v3)]) hx hb dX8_judge_61 hl (by decide) rfl (fun ls hl => ?_)
      refine lv_iload hx hb dX8_judge_63 (lv_at hl 0 rfl) ?_
      refine lv_iconst (v := 4) hx hb dX8_judge_65 (by decide) ?_
      refine lv_icmp_ne (tgt := 89) hx hb dX8_judge_66 (by decide) (fun q6 => ?_) (fun q6 => ?_)
      · have h := ifn q6 h
        refine lv_aload_n hx hb dX8_judge_89 rfl (lv_at hl 1 rfl) ?_
        refine lv_iload hx hb dX8_judge_90 (lv_at hl 0 rfl) ?_
        obtain ⟨r8, g7, h⟩ := cl_some h
        refine x_callVi (rest := []) C hP hD hS (c_X8_isCandle g7) (cwV 1 hts (gV mw13_11 mw13_12 mw13_13 mw1_5 mw13_14) rfl rfl rfl hdV_X8_isCandle ⟨Nat.le_of_ble_eq_true rfl, Nat.le_of_ble_eq_true rfl⟩) mw_0 rfl rfl hl.1 rfl (Nat.le_of_ble_eq_true rfl) dX8_judge_92 ⟨Nat.zero_le _, Nat.zero_le _⟩ (fun H locs hP hD hS => ?_)
        refine lv_if_eq (tgt := 115) hx hb dX8_judge_95 (by decide) (fun q9 => ?_) (fun q9 => ?_)
        · have h := ifp q9 h
          refine lv_iconst (v := 0) hx hb dX8_judge_115 (by decide) ?_
          exact w_X8_judge_116 C hr ih v1 v2 v3 x5 (0 : Int32) σ h H locs hP hD hS ls (lv_sub hl [1, 2, 3, 4, 0] rfl)
        · have h := ifn q9 h
          refine lv_aload_n hx hb dX8_judge_98 rfl (lv_at hl 1 rfl) ?_
          refine x_get C hP inlX8 0 mw_0 rfl 11 (by decide) mw6_6 rfl dX8_judge_99 ?_
          refine lv_bipush (v := 26) hx hb dX8_judge_102 (by decide) ?_
          refine lv_iload hx hb dX8_judge_104 (lv_at hl 0 rfl) ?_
          refine lv_iadd hx hb dX8_judge_106 ?_
          obtain ⟨g10, x11, ex11, h⟩ := rd_some h
          refine x_ild C hP 9 mw_9 g10 ex11 dX8_judge_107 ?_
          refine lv_if_ne (tgt := 115) hx hb dX8_judge_108 (by decide) (fun q12 => ?_) (fun q12 => ?_)
          · have h := ifn q12 h
            refine lv_iconst (v := 0) hx hb dX8_judge_115 (by decide) ?_
            exact w_X8_judge_116 C hr ih v1 v2 v3 x5 (0 : Int32) σ h H locs hP hD hS ls (lv_sub hl [1, 2, 3, 4, 0] rfl)
          · have h := ifp q12 h
            refine lv_iconst (v := 1) hx hb dX8_judge_111 (by decide) ?_
            refine lv_goto (tgt := 116) hx hb dX8_judge_112 (by decide) ?_
            exact w_X8_judge_116 C hr ih v1 v2 v3 x5 (1 : Int32) σ h H locs hP hD hS ls (lv_sub hl [1, 2, 3, 4, 0] rfl)
      · have h := ifp q6 h
        refine lv_aload_n hx hb dX8_judge_69 rfl (lv_at hl 1 rfl) ?_
        refine x_get C hP inlX8 0 mw_0 rfl 11 (by decide) mw6_6 rfl dX8_judge_70 ?_
        refine lv_bipush (v := 35) hx hb dX8_judge_73 (by decide) ?_
        obtain ⟨g13, x14, ex14, h⟩ := rd_some h
        refine x_ild C hP 9 mw_9 g13 ex14 dX8_judge_75 ?_
        refine lv_bipush (v := 20) hx hb dX8_judge_76 (by decide) ?_
        refine lv_icmp_ge (tgt := 85) hx hb dX8_judge_78 (by decide) (fun q15 => ?_) (fun q15 => ?_)
        · have h := ifp q15 h
          refine lv_iconst (v := 0) hx hb dX8_judge_85 (by decide) ?_
          refine lv_goto (tgt := 116) hx hb dX8_judge_86 (by decide) ?_
          exact w_X8_judge_116 C hr ih v1 v2 v3 x5 (0 : Int32) σ h H locs hP hD hS ls (lv_sub hl [1, 2, 3, 4, 0] rfl)
        · have h := ifn q15 h
          refine lv_iconst (v := 1) hx hb dX8_judge_81 (by decide) ?_
          refine lv_goto (tgt := 116) hx hb dX8_judge_82 (by decide) ?_
          exact w_X8_judge_116 C hr ih v1 v2 v3 x5 (1 : Int32) σ h H locs hP hD hS ls (lv_sub hl [1, 2, 3, 4, 0] rfl)
set_option maxHeartbeats 4000000 in
set_option maxRecDepth 100000 in
theorem w_X8_judge_0 (C : Cx p s m args meth c D cy tT tF A cX8_judge 6 RX8) (hr : meth.sig.returnType = some .int) {r : Int32} {σ' : ES} (a1 : Int32) (a2 : Int32) (σ : ES) (h : b_X8_judge_0 a1 a2 σ = some (r, σ')) (H : Heap) (locs : List Loc) (hP : va_P D vwCl (mw cy ad σ) H) (hD : va_D A (mw cy ad σ)) (hS : va_S A s.heap H locs) (ls : Array Slot) (hl : lv_has ls 6 [(0, .ref (ad 0)), (1, .int a1), (2, .int a2)]) : W p l e { frames := 2, cells := 0, slots := 0, locals := 51 } s m args below meth c H locs 0 0 (MQ below (Qi D cy A r (mw cy ad σ')) args s 0 0 A) (F0 m 0 ls []) := by
  obtain ⟨⟨hx, hb, hml, hown, hts⟩, hK, hT, hA, hlk⟩ := id C
  unfold b_X8_judge_0 at h
  refine lv_iload_n hx hb dX8_judge_0 rfl (lv_at hl 1 rfl) ?_
  refine lv_i2l hx hb dX8_judge_1 rfl ?_
  refine lv_lconst (v := 1) hx hb dX8_judge_2 (by decide) ?_
  refine lv_ldc2 (v := 8) hx hb hown (hts _ mw27_22) dX8_judge_3 ?_
  obtain ⟨r2, g1, h⟩ := cl_some h
  refine x_callSi (rest := []) C hP hD hS (c_X8_in g1) (va_cwS 3 hts (gS mw7_10 mw7_11 mw1_5 mw7_12) rfl rfl rfl hdS_X8_in ⟨Nat.le_of_ble_eq_true rfl, Nat.le_of_ble_eq_true rfl⟩) rfl hl.1 rfl (Nat.le_of_ble_eq_true rfl) dX8_judge_6 ⟨Nat.zero_le _, Nat.zero_le _⟩ (fun H locs hP hD hS => ?_)
  refine lv_if_eq (tgt := 30) hx hb dX8_judge_9 (by decide) (fun q3 => ?_) (fun q3 => ?_)
  · have h := ifp q3 h
    refine lv_bipush (v := -2) hx hb dX8_judge_30 (by decide) ?_
    obtain ⟨z1, z2⟩ := pr_inj h
    subst z1
    subst z2
    exact x_iret C hr hP hD hS dX8_judge_32
  · have h := ifn q3 h
    refine lv_iload_n hx hb dX8_judge_12 rfl (lv_at hl 2 rfl) ?_
    refine lv_i2l hx hb dX8_judge_13 rfl ?_
    refine lv_lconst (v := 0) hx hb dX8_judge_14 (by decide) ?_
    refine lv_bipush (v := 10) hx hb dX8_judge_15 (by decide) ?_
    refine lv_iload_n hx hb dX8_judge_17 rfl (lv_at hl 1 rfl) ?_
    obtain ⟨r5, g4, h⟩ := cl_some h
    refine x_callSi (rest := [.long (0 : Int64), .long (a2.toInt64)]) C hP hD hS (c_X8_power g4) (va_cwS 2 hts (gS mw22_15 mw22_16 mw1_5 mw22_17) rfl rfl rfl hdS_X8_power ⟨Nat.le_of_ble_eq_true rfl, Nat.le_of_ble_eq_true rfl⟩) rfl hl.1 rfl (Nat.le_of_ble_eq_true rfl) dX8_judge_18 ⟨Nat.zero_le _, Nat.zero_le _⟩ (fun H locs hP hD hS => ?_)
    refine lv_iconst (v := 1) hx hb dX8_judge_21 (by decide) ?_
    refine lv_isub hx hb dX8_judge_22 ?_
    refine lv_i2l hx hb dX8_judge_23 rfl ?_
    obtain ⟨r7, g6, h⟩ := cl_some h
    refine x_callSi (rest := []) C hP hD hS (c_X8_in g6) (va_cwS 3 hts (gS mw7_10 mw7_11 mw1_5 mw7_12) rfl rfl rfl hdS_X8_in ⟨Nat.le_of_ble_eq_true rfl, Nat.le_of_ble_eq_true rfl⟩) rfl hl.1 rfl (Nat.le_of_ble_eq_true rfl) dX8_judge_24 ⟨Nat.zero_le _, Nat.zero_le _⟩ (fun H locs hP hD hS => ?_)
    refine lv_if_ne (tgt := 33) hx hb dX8_judge_27 (by decide) (fun q8 => ?_) (fun q8 => ?_)
    · have h := ifn q8 h
      refine lv_aload_n hx hb dX8_judge_33 rfl (lv_at hl 0 rfl) ?_
      refine lv_iconst (v := 0) hx hb dX8_judge_34 (by decide) ?_
      refine lv_iconst (v := 1) hx hb dX8_judge_35 (by decide) ?_
      obtain ⟨σ10, g9, h⟩ := cl_some h
      refine x_callVv (rest := []) C hP hD hS (c_X8_lay g9) (cwV 2 hts (gV mw22_22 mw22_23 mw23_0 mw1_5 mw23_1) rfl rfl rfl hdV_X8_lay ⟨Nat.le_of_ble_eq_true rfl, Nat.le_of_ble_eq_true rfl⟩) mw_0 rfl rfl hl.1 rfl (Nat.le_of_ble_eq_true rfl) dX8_judge_36 ⟨Nat.zero_le _, Nat.zero_le _⟩ (fun H locs hP hD hS => ?_)
      refine lv_iconst (v := 0) hx hb dX8_judge_39 (by decide) ?_
      refine lv_istore_n (lv' := [(3, .int (0 : Int32)), (0, .ref (ad 0)), (1, .int a1), (2, .int a2)]) hx hb dX8_judge_40 rfl hl (by decide) rfl (fun ls hl => ?_)
      exact w_X8_judge_41 C hr FU a1 a2 (0 : Int32) σ10 h H locs hP hD hS ls (lv_sub hl [1, 2, 3, 0] rfl)
    · have h := ifp q8 h
      refine lv_bipush (v := -2) hx hb dX8_judge_30 (by decide) ?_
      obtain ⟨z1, z2⟩ := pr_inj h
      subst z1
      subst z2
      exact x_iret C hr hP hD hS dX8_judge_32
theorem c_X8_judge {l : Launch} {D : va_G} {cy : Nat → ClassId} {tT tF : Nat} {ad : Nat → Nat} {σ : ES} {a1 : Int32} {a2 : Int32} {r : Int32} {σ' : ES} (h : e_X8_judge a1 a2 σ = some (r, σ')) : CMi l yX8_judge (Cond.code yX8_judge cX8_judge 6 (some .int) :: wsL_law) { frames := 2, cells := 0, slots := 0, locals := 51 } D cy tT tF [.ref (ad 0), .int a1, .int a2] (mw cy ad σ) r (mw cy ad σ') := x_start (Qc := fun A => (Qi D cy A r (mw cy ad σ'))) (by decide) (Nat.le_of_ble_eq_true rfl) (fun p e s m below meth c A ls C hr hP hD hS hl => w_X8_judge_0 C hr a1 a2 σ h s.heap [] hP hD hS ls hl)
set_option maxHeartbeats 4000000 in
set_option maxRecDepth 100000 in
theorem w_X8_isSo_69 (C : Cx p s m args meth c D cy tT tF A cX8_isSo 7 RX8) (hr : meth.sig.returnType = some .boolean) {r : Int32} {σ : ES} {K18 : Int32 → Int32 → Int32 → Int32 → Int32 → Option (Int32)} (hK18 : ∀ (v1 : Int32) (v2 : Int32) (v3 : Int32) (v4 : Int32) (v5 : Int32), K18 v1 v2 v3 v4 v5 = some r → ∀ (H : Heap) (locs : List Loc), va_P D vwCl (mw cy ad σ) H → va_D A (mw cy ad σ) → va_S A s.heap H locs → ∀ ls : Array Slot, lv_has ls 7 [(0, .ref (ad 0)), (1, .int v1), (2, .int v2), (3, .int v3), (4, .int v4), (5, .int v5)] → W p l e { frames := 1, cells := 0, slots := 0, locals := 25 } s m args below meth c H locs 0 0 (MQ below (Qi D cy A r (mw cy ad σ)) args s 0 0 A) (F0 m 18 ls [])) (v1 : Int32) (v2 : Int32) (v3 : Int32) (v5 : Int32) (t0 : Int32) (t1 : Int32) (h : b_X8_isSo_69 σ K18 v1 v2 v3 v5 t0 t1 = some r) (H : Heap) (locs : List Loc) (hP : va_P D vwCl (mw cy ad σ) H) (hD : va_D A (mw cy ad σ)) (hS : va_S A s.heap H locs) (ls : Array Slot) (hl : lv_has ls 7 [(0, .ref (ad 0)), (1, .int v1), (2, .int v2), (3, .int v3), (5, .int v5)]) : W p l e { frames := 1, cells := 0, slots := 0, locals := 25 } s m args below meth c H locs 0 0 (MQ below (Qi D cy A r (mw cy ad σ)) args s 0 0 A) (F0 m 69 ls [.int t1, .int t0]) := by
  obtain ⟨⟨hx, hb, hml, hown, hts⟩, hK, hT, hA, hlk⟩ := id C
  unfold b_X8_isSo_69 at h
  refine lv_icmp_ne (tgt := 76) hx hb dX8_isSo_69 (by decide) (fun q1 => ?_) (fun q1 => ?_)
  · have h := ifn q1 h
    refine lv_iconst (v := 0) hx hb dX8_isSo_76 (by decide) ?_
    refine lv_istore (lv' := [(4, .int (0 : Int32)), (0, .ref (ad 0)), (1, .int v1), (2, .int v2), (3, .int v3), (5, .int v5)]) hx hb dX8_isSo_77 hl (by decide) rfl (fun ls hl => ?_)
    obtain ⟨x2, ex2, h⟩ := lt_some h
    refine lv_iinc (v := x2) (lv' := [(5, .int x2), (4, .int (0 : Int32)), (0, .ref (ad 0)), (1, .int v1), (2, .int v2), (3, .int v3)]) hx hb dX8_isSo_79 hl (k := 5) rfl (by rw [ex2]; rfl) (by decide) rfl (fun ls hl => ?_)
    refine lv_goto (tgt := 18) hx hb dX8_isSo_82 (by decide) ?_
    exact hK18 v1 v2 v3 (0 : Int32) x2 h H locs hP hD hS ls (lv_sub hl [2, 3, 4, 5, 1, 0] rfl)
  · have h := ifp q1 h
    refine lv_iconst (v := 1) hx hb dX8_isSo_72 (by decide) ?_
    refine lv_goto (tgt := 77) hx hb dX8_isSo_73 (by decide) ?_
    refine lv_istore (lv' := [(4, .int (1 : Int32)), (0, .ref (ad 0)), (1, .int v1), (2, .int v2), (3, .int v3), (5, .int v5)]) hx hb dX8_isSo_77 hl (by decide) rfl (fun ls hl => ?_)
    obtain ⟨x3, ex3, h⟩ := lt_some h
    refine lv_iinc (v := x3) (lv' := [(5, .int x3), (4, .int (1 : Int32)), (0, .ref (ad 0)), (1, .int v1), (2, .int v2), (3, .int v3)]) hx hb dX8_isSo_79 hl (k := 5) rfl (by rw [ex3]; rfl) (by decide) rfl (fun ls hl => ?_)
    refine lv_goto (tgt := 18) hx hb dX8_isSo_82 (by decide) ?_
    exact hK18 v1 v2 v3 (1 : Int32) x3 h H locs hP hD hS ls (lv_sub hl [2, 3, 4, 5, 1, 0] rfl)
set_option maxHeartbeats 4000000 in
set_option maxRecDepth 100000 in
theorem w_X8_isSo_18 (C : Cx p s m args meth c D cy tT tF A cX8_isSo 7 RX8) (hr : meth.sig.returnType = some .boolean) {r : Int32} {σ : ES} : ∀ (n : Nat) (v1 : Int32) (v2 : Int32) (v3 : Int32) (v4 : Int32) (v5 : Int32), b_X8_isSo_18 σ n v1 v2 v3 v4 v5 = some r → ∀ (H : Heap) (locs : List Loc) (hP : va_P D vwCl (mw cy ad σ) H) (hD : va_D A (mw cy ad σ)) (hS : va_S A s.heap H locs) (ls : Array Slot) (hl : lv_has ls 7 [(0, .ref (ad 0)), (1, .int v1), (2, .int v2), (3, .int v3), (4, .int v4), (5, .int v5)]), W p l e { frames := 1, cells := 0, slots := 0, locals := 25 } s m args below meth c H locs 0 0 (MQ below (Qi D cy A r (mw cy ad σ)) args s 0 0 A) (F0 m 18 ls []) := by
  obtain ⟨⟨hx, hb, hml, hown, hts⟩, hK, hT, hA, hlk⟩ := id C
  intro n
  induction n with
  | zero =>
    intro v1 v2 v3 v4 v5 h
    exact no_some h
  | succ n ih =>
    intro v1 v2 v3 v4 v5 h H locs hP hD hS ls hl
    rw [b_X8_isSo_18] at h
    refine lv_iload hx hb dX8_isSo_18 (lv_at hl 5 rfl) ?_
    refine lv_iload_n hx hb dX8_isSo_20 rfl (lv_at hl 2 rfl) ?_
    refine lv_icmp_ge (tgt := 85) hx hb dX8_isSo_21 (by decide) (fun q1 => ?_) (fun q1 => ?_)
    · have h := ifp q1 h
      refine lv_iload hx hb dX8_isSo_85 (lv_at hl 4 rfl) ?_
      obtain ⟨g2, h⟩ := bo_some h
      have z1 := so_inj h
      subst z1
      exact x_zret C hr (bo_nar g2) hP hD hS dX8_isSo_87
    · have h := ifn q1 h
      refine lv_iload hx hb dX8_isSo_24 (lv_at hl 4 rfl) ?_
      refine lv_if_eq (tgt := 85) hx hb dX8_isSo_26 (by decide) (fun q3 => ?_) (fun q3 => ?_)
      · have h := ifp q3 h
        refine lv_iload hx hb dX8_isSo_85 (lv_at hl 4 rfl) ?_
        obtain ⟨g4, h⟩ := bo_some h
        have z1 := so_inj h
        subst z1
        exact x_zret C hr (bo_nar g4) hP hD hS dX8_isSo_87
      · have h := ifn q3 h
        refine lv_iload_n hx hb dX8_isSo_29 rfl (lv_at hl 3 rfl) ?_
        refine lv_bipush (v := 10) hx hb dX8_isSo_30 (by decide) ?_
        refine lv_iload_n hx hb dX8_isSo_32 rfl (lv_at hl 2 rfl) ?_
        refine lv_iconst (v := 1) hx hb dX8_isSo_33 (by decide) ?_
        refine lv_isub hx hb dX8_isSo_34 ?_
        refine lv_iload hx hb dX8_isSo_35 (lv_at hl 5 rfl) ?_
        refine lv_isub hx hb dX8_isSo_37 ?_
        obtain ⟨r6, g5, h⟩ := cl_some h
        refine x_callSi (rest := [.int v3]) C hP hD hS (c_X8_power g5) (va_cwS 2 hts (gS mw22_15 mw22_16 mw1_5 mw22_17) rfl rfl rfl hdS_X8_power ⟨Nat.le_of_ble_eq_true rfl, Nat.le_of_ble_eq_true rfl⟩) rfl hl.1 rfl (Nat.le_of_ble_eq_true rfl) dX8_isSo_38 ⟨Nat.zero_le _, Nat.zero_le _⟩ (fun H locs hP hD hS => ?_)
        obtain ⟨g7, h⟩ := dv_some h
        refine lv_idiv hx hb dX8_isSo_41 g7 ?_
        refine lv_bipush (v := 10) hx hb dX8_isSo_42 (by decide) ?_
        refine lv_irem hx hb dX8_isSo_44 (by decide) ?_
        obtain ⟨x8, ex8, h⟩ := lt_some h
        refine x_ti ex8 ?_
        refine lv_istore (lv' := [(6, .int x8), (0, .ref (ad 0)), (1, .int v1), (2, .int v2), (3, .int v3), (4, .int v4), (5, .int v5)]) hx hb dX8_isSo_45 hl (by decide) rfl (fun ls hl => ?_)
        refine lv_aload_n hx hb dX8_isSo_47 rfl (lv_at hl 1 rfl) ?_
        refine x_get C hP inlX8 0 mw_0 rfl 3 (by decide) mw5_22 rfl dX8_isSo_48 ?_
        refine lv_iload_n hx hb dX8_isSo_51 rfl (lv_at hl 2 rfl) ?_
        refine lv_iload hx hb dX8_isSo_52 (lv_at hl 6 rfl) ?_
        refine lv_iadd hx hb dX8_isSo_54 ?_
        obtain ⟨g9, x10, ex10, h⟩ := rd_some h
        refine x_ild C hP 1 mw_1 g9 ex10 dX8_isSo_55 ?_
        refine lv_iload hx hb dX8_isSo_56 (lv_at hl 0 rfl) ?_
        refine lv_if_ne (tgt := 65) hx hb dX8_isSo_58 (by decide) (fun q11 => ?_) (fun q11 => ?_)
        · have h := ifn q11 h
          refine lv_iload hx hb dX8_isSo_65 (lv_at hl 0 rfl) ?_
          refine lv_iconst (v := 1) hx hb dX8_isSo_67 (by decide) ?_
          refine lv_isub hx hb dX8_isSo_68 ?_
          exact w_X8_isSo_69 C hr ih v1 v2 v3 v5 x10 (x8 - (1 : Int32)) h H locs hP hD hS ls (lv_sub hl [1, 2, 3, 4, 6] rfl)
        · have h := ifp q11 h
          refine lv_iconst (v := 4) hx hb dX8_isSo_61 (by decide) ?_
          refine lv_goto (tgt := 69) hx hb dX8_isSo_62 (by decide) ?_
          exact w_X8_isSo_69 C hr ih v1 v2 v3 v5 x10 (4 : Int32) h H locs hP hD hS ls (lv_sub hl [1, 2, 3, 4, 6] rfl)
set_option maxHeartbeats 4000000 in
set_option maxRecDepth 100000 in
theorem w_X8_isSo_0 (C : Cx p s m args meth c D cy tT tF A cX8_isSo 7 RX8) (hr : meth.sig.returnType = some .boolean) {r : Int32} {σ : ES} (a1 : Int32) (a2 : Int32) (a3 : Int32) (h : b_X8_isSo_0 σ a1 a2 a3 = some r) (H : Heap) (locs : List Loc) (hP : va_P D vwCl (mw cy ad σ) H) (hD : va_D A (mw cy ad σ)) (hS : va_S A s.heap H locs) (ls : Array Slot) (hl : lv_has ls 7 [(0, .ref (ad 0)), (1, .int a1), (2, .int a2), (3, .int a3)]) : W p l e { frames := 1, cells := 0, slots := 0, locals := 25 } s m args below meth c H locs 0 0 (MQ below (Qi D cy A r (mw cy ad σ)) args s 0 0 A) (F0 m 0 ls []) := by
  obtain ⟨⟨hx, hb, hml, hown, hts⟩, hK, hT, hA, hlk⟩ := id C
  unfold b_X8_isSo_0 at h
  refine lv_iload_n hx hb dX8_isSo_0 rfl (lv_at hl 1 rfl) ?_
  refine lv_i2l hx hb dX8_isSo_1 rfl ?_
  refine lv_lconst (v := 0) hx hb dX8_isSo_2 (by decide) ?_
  refine lv_aload_n hx hb dX8_isSo_3 rfl (lv_at hl 0 rfl) ?_
  refine x_get C hP inlX8 0 mw_0 rfl 0 (by decide) mw6_19 rfl dX8_isSo_4 ?_
  refine lv_iload_n hx hb dX8_isSo_7 rfl (lv_at hl 2 rfl) ?_
  refine lv_isub hx hb dX8_isSo_8 ?_
  refine lv_i2l hx hb dX8_isSo_9 rfl ?_
  obtain ⟨r2, g1, h⟩ := cl_some h
  refine x_callSi (rest := []) C hP hD hS (c_X8_in g1) (va_cwS 3 hts (gS mw7_10 mw7_11 mw1_5 mw7_12) rfl rfl rfl hdS_X8_in ⟨Nat.le_of_ble_eq_true rfl, Nat.le_of_ble_eq_true rfl⟩) rfl hl.1 rfl (Nat.le_of_ble_eq_true rfl) dX8_isSo_10 ⟨Nat.zero_le _, Nat.zero_le _⟩ (fun H locs hP hD hS => ?_)
  refine lv_istore (lv' := [(4, .int r2), (0, .ref (ad 0)), (1, .int a1), (2, .int a2), (3, .int a3)]) hx hb dX8_isSo_13 hl (by decide) rfl (fun ls hl => ?_)
  refine lv_iconst (v := 0) hx hb dX8_isSo_15 (by decide) ?_
  refine lv_istore (lv' := [(5, .int (0 : Int32)), (4, .int r2), (0, .ref (ad 0)), (1, .int a1), (2, .int a2), (3, .int a3)]) hx hb dX8_isSo_16 hl (by decide) rfl (fun ls hl => ?_)
  exact w_X8_isSo_18 C hr FU a1 a2 a3 r2 (0 : Int32) h H locs hP hD hS ls (lv_sub hl [2, 3, 4, 5, 1, 0] rfl)
theorem c_X8_isSo {l : Launch} {D : va_G} {cy : Nat → ClassId} {tT tF : Nat} {ad : Nat → Nat} {a1 : Int32} {a2 : Int32} {a3 : Int32} {r : Int32} {σ : ES} (h : e_X8_isSo a1 a2 a3 σ = some r) : CMi l yX8_isSo (Cond.code yX8_isSo cX8_isSo 7 (some .boolean) :: wsL_law) { frames := 1, cells := 0, slots := 0, locals := 25 } D cy tT tF [.ref (ad 0), .int a1, .int a2, .int a3] (mw cy ad σ) r (mw cy ad σ) := x_start (Qc := fun A => (Qi D cy A r (mw cy ad σ))) (by decide) (Nat.le_of_ble_eq_true rfl) (fun p e s m below meth c A ls C hr hP hD hS hl => w_X8_isSo_0 C hr a1 a2 a3 h s.heap [] hP hD hS ls hl)
end WK3

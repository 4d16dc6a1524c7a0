section WK4
variable {p : Program} {l : Launch} {e : Env} {R : Room} {s : State} {m : MethodId} {args : Array Value} {below : List Frame} {meth : Method} {c : Code} {D : va_G} {cy : Nat → ClassId} {tT tF : Nat} {A : Nat → Prop} {ad : Nat → Nat} {ws : va_W}
set_option maxHeartbeats 4000000 in
set_option maxRecDepth 100000 in
theorem w_X8_stub_144 (C : Cx p s m args meth c D cy tT tF A cX8_stub 7 RX8) (hr : meth.sig.returnType = some .int) {r : Int32} {σ : ES} : ∀ (n : Nat) (v1 : Int32) (v2 : Int32) (v3 : Int32) (v4 : Int32) (v5 : Int32) (v6 : Int32), b_X8_stub_144 σ n v1 v2 v3 v4 v5 v6 = some r → ∀ (H : Heap) (locs : List Loc) (hP : va_P D vwCl (mw cy ad σ) H) (hD : va_D A (mw cy ad σ)) (hS : va_S A s.heap H locs) (ls : Array Slot) (hl : lv_has ls 7 [(0, .ref (ad 0)), (1, .int v1), (2, .int v2), (3, .int v3), (4, .int v4), (5, .int v5), (6, .int v6)]), W p l e { frames := 2, cells := 0, slots := 0, locals := 51 } s m args below meth c H locs 0 0 (MQ below (Qi D cy A r (mw cy ad σ)) args s 0 0 A) (F0 m 144 ls []) := by
  obtain ⟨⟨hx, hb, hml, hown, hts⟩, hK, hT, hA, hlk⟩ := id C
  intro n
  induction n with
  | zero =>
    intro v1 v2 v3 v4 v5 v6 h
    exact no_some h
  | succ n ih =>
    intro v1 v2 v3 v4 v5 v6 h H locs hP hD hS ls hl
    rw [b_X8_stub_144] at h
    refine lv_iload hx hb dX8_stub_144 (lv_at hl 6 rfl) ?_
    refine lv_aload_n hx hb dX8_stub_146 rfl (lv_at hl 0 rfl) ?_
    refine x_get C hP inlX8 0 mw_0 rfl 0 (by decide) mw6_19 rfl dX8_stub_147 ?_
    refine lv_icmp_ge (tgt := 180) hx hb dX8_stub_150 (by decide) (fun q1 => ?_) (fun q1 => ?_)
    · have h := ifp q1 h
      refine lv_iload_n hx hb dX8_stub_180 rfl (lv_at hl 3 rfl) ?_
      refine lv_if_eq (tgt := 189) hx hb dX8_stub_181 (by decide) (fun q2 => ?_) (fun q2 => ?_)
      · have h := ifp q2 h
        refine lv_iload hx hb dX8_stub_189 (lv_at hl 5 rfl) ?_
        have z1 := so_inj h
        subst z1
        exact x_iret C hr hP hD hS dX8_stub_191
      · have h := ifn q2 h
        refine lv_iload hx hb dX8_stub_184 (lv_at hl 4 rfl) ?_
        refine lv_goto (tgt := 191) hx hb dX8_stub_186 (by decide) ?_
        have z1 := so_inj h
        subst z1
        exact x_iret C hr hP hD hS dX8_stub_191
    · have h := ifn q1 h
      refine lv_iload hx hb dX8_stub_153 (lv_at hl 5 rfl) ?_
      refine lv_aload_n hx hb dX8_stub_155 rfl (lv_at hl 0 rfl) ?_
      refine lv_iload hx hb dX8_stub_156 (lv_at hl 6 rfl) ?_
      refine lv_iload_n hx hb dX8_stub_158 rfl (lv_at hl 1 rfl) ?_
      refine lv_iload_n hx hb dX8_stub_159 rfl (lv_at hl 2 rfl) ?_
      obtain ⟨r4, g3, h⟩ := cl_some h
      refine x_callVi (rest := [.int v5]) C hP hD hS (c_X8_isSo g3) (cwV 3 hts (gV mw28_22 mw28_23 mw29_0 mw1_5 mw29_1) rfl rfl rfl hdV_X8_isSo ⟨Nat.le_of_ble_eq_true rfl, Nat.le_of_ble_eq_true rfl⟩) mw_0 rfl rfl hl.1 rfl (Nat.le_of_ble_eq_true rfl) dX8_stub_160 ⟨Nat.zero_le _, Nat.zero_le _⟩ (fun H locs hP hD hS => ?_)
      refine lv_if_eq (tgt := 170) hx hb dX8_stub_163 (by decide) (fun q5 => ?_) (fun q5 => ?_)
      · have h := ifp q5 h
        refine lv_iconst (v := 0) hx hb dX8_stub_170 (by decide) ?_
        refine lv_iadd hx hb dX8_stub_171 ?_
        obtain ⟨x6, ex6, h⟩ := lt_some h
        refine x_ti ex6 ?_
        refine lv_istore (lv' := [(5, .int x6), (0, .ref (ad 0)), (1, .int v1), (2, .int v2), (3, .int v3), (4, .int v4), (6, .int v6)]) hx hb dX8_stub_172 hl (by decide) rfl (fun ls hl => ?_)
        obtain ⟨x7, ex7, h⟩ := lt_some h
        refine lv_iinc (v := x7) (lv' := [(6, .int x7), (5, .int x6), (0, .ref (ad 0)), (1, .int v1), (2, .int v2), (3, .int v3), (4, .int v4)]) hx hb dX8_stub_174 hl (k := 6) rfl (by rw [ex7]; rfl) (by decide) rfl (fun ls hl => ?_)
        refine lv_goto (tgt := 144) hx hb dX8_stub_177 (by decide) ?_
        exact ih v1 v2 v3 v4 x6 x7 h H locs hP hD hS ls (lv_sub hl [2, 3, 4, 5, 6, 1, 0] rfl)
      · have h := ifn q5 h
        refine lv_iconst (v := 1) hx hb dX8_stub_166 (by decide) ?_
        refine lv_goto (tgt := 171) hx hb dX8_stub_167 (by decide) ?_
        refine lv_iadd hx hb dX8_stub_171 ?_
        obtain ⟨x8, ex8, h⟩ := lt_some h
        refine x_ti ex8 ?_
        refine lv_istore (lv' := [(5, .int x8), (0, .ref (ad 0)), (1, .int v1), (2, .int v2), (3, .int v3), (4, .int v4), (6, .int v6)]) hx hb dX8_stub_172 hl (by decide) rfl (fun ls hl => ?_)
        obtain ⟨x9, ex9, h⟩ := lt_some h
        refine lv_iinc (v := x9) (lv' := [(6, .int x9), (5, .int x8), (0, .ref (ad 0)), (1, .int v1), (2, .int v2), (3, .int v3), (4, .int v4)]) hx hb dX8_stub_174 hl (k := 6) rfl (by rw [ex9]; rfl) (by decide) rfl (fun ls hl => ?_)
        refine lv_goto (tgt := 144) hx hb dX8_stub_177 (by decide) ?_
        exact ih v1 v2 v3 v4 x8 x9 h H locs hP hD hS ls (lv_sub hl [2, 3, 4, 5, 6, 1, 0] rfl)
set_option maxHeartbeats 4000000 in
set_option maxRecDepth 100000 in
theorem w_X8_stub_73 (C : Cx p s m args meth c D cy tT tF A cX8_stub 7 RX8) (hr : meth.sig.returnType = some .int) {r : Int32} {σ : ES} : ∀ (n : Nat) (v1 : Int32) (v2 : Int32) (v3 : Int32) (v4 : Int32) (v5 : Int32), b_X8_stub_73 σ n v1 v2 v3 v4 v5 = some r → ∀ (H : Heap) (locs : List Loc) (hP : va_P D vwCl (mw cy ad σ) H) (hD : va_D A (mw cy ad σ)) (hS : va_S A s.heap H locs) (ls : Array Slot) (hl : lv_has ls 7 [(0, .ref (ad 0)), (1, .int v1), (2, .int v2), (3, .int v3), (4, .int v4), (5, .int v5)]), W p l e { frames := 2, cells := 0, slots := 0, locals := 51 } s m args below meth c H locs 0 0 (MQ below (Qi D cy A r (mw cy ad σ)) args s 0 0 A) (F0 m 73 ls []) := by
  obtain ⟨⟨hx, hb, hml, hown, hts⟩, hK, hT, hA, hlk⟩ := id C
  intro n
  induction n with
  | zero =>
    intro v1 v2 v3 v4 v5 h
    exact no_some h
  | succ n ih =>
    intro v1 v2 v3 v4 v5 h H locs hP hD hS ls hl
    rw [b_X8_stub_73] at h
    refine lv_iload hx hb dX8_stub_73 (lv_at hl 5 rfl) ?_
    refine lv_aload_n hx hb dX8_stub_75 rfl (lv_at hl 0 rfl) ?_
    refine x_get C hP inlX8 0 mw_0 rfl 1 (by decide) mw12_3 rfl dX8_stub_76 ?_
    refine lv_icmp_ge (tgt := 138) hx hb dX8_stub_79 (by decide) (fun q1 => ?_) (fun q1 => ?_)
    · have h := ifp q1 h
      refine lv_iconst (v := 0) hx hb dX8_stub_138 (by decide) ?_
      refine lv_istore (lv' := [(5, .int (0 : Int32)), (0, .ref (ad 0)), (1, .int v1), (2, .int v2), (3, .int v3), (4, .int v4)]) hx hb dX8_stub_139 hl (by decide) rfl (fun ls hl => ?_)
      refine lv_iconst (v := 0) hx hb dX8_stub_141 (by decide) ?_
      refine lv_istore (lv' := [(6, .int (0 : Int32)), (5, .int (0 : Int32)), (0, .ref (ad 0)), (1, .int v1), (2, .int v2), (3, .int v3), (4, .int v4)]) hx hb dX8_stub_142 hl (by decide) rfl (fun ls hl => ?_)
      exact w_X8_stub_144 C hr FU v1 v2 v3 v4 (0 : Int32) (0 : Int32) h H locs hP hD hS ls (lv_sub hl [2, 3, 4, 5, 6, 1, 0] rfl)
    · have h := ifn q1 h
      refine lv_iload hx hb dX8_stub_82 (lv_at hl 4 rfl) ?_
      refine lv_aload_n hx hb dX8_stub_84 rfl (lv_at hl 0 rfl) ?_
      refine x_get C hP inlX8 0 mw_0 rfl 5 (by decide) mw6_0 rfl dX8_stub_85 ?_
      refine lv_iload hx hb dX8_stub_88 (lv_at hl 5 rfl) ?_
      obtain ⟨g2, x3, ex3, h⟩ := rd_some h
      refine x_ild C hP 3 mw_3 g2 ex3 dX8_stub_90 ?_
      refine lv_iload_n hx hb dX8_stub_91 rfl (lv_at hl 1 rfl) ?_
      refine lv_icmp_lt (tgt := 128) hx hb dX8_stub_92 (by decide) (fun q4 => ?_) (fun q4 => ?_)
      · have h := ifp q4 h
        refine lv_iconst (v := 0) hx hb dX8_stub_128 (by decide) ?_
        refine lv_ior hx hb dX8_stub_129 ?_
        obtain ⟨x5, ex5, h⟩ := lt_some h
        refine x_ti ex5 ?_
        refine lv_istore (lv' := [(4, .int x5), (0, .ref (ad 0)), (1, .int v1), (2, .int v2), (3, .int v3), (5, .int v5)]) hx hb dX8_stub_130 hl (by decide) rfl (fun ls hl => ?_)
        obtain ⟨x6, ex6, h⟩ := lt_some h
        refine lv_iinc (v := x6) (lv' := [(5, .int x6), (4, .int x5), (0, .ref (ad 0)), (1, .int v1), (2, .int v2), (3, .int v3)]) hx hb dX8_stub_132 hl (k := 5) rfl (by rw [ex6]; rfl) (by decide) rfl (fun ls hl => ?_)
        refine lv_goto (tgt := 73) hx hb dX8_stub_135 (by decide) ?_
        exact ih v1 v2 v3 x5 x6 h H locs hP hD hS ls (lv_sub hl [2, 3, 4, 5, 1, 0] rfl)
      · have h := ifn q4 h
        refine lv_aload_n hx hb dX8_stub_95 rfl (lv_at hl 0 rfl) ?_
        refine lv_aload_n hx hb dX8_stub_96 rfl (lv_at hl 0 rfl) ?_
        refine x_get C hP inlX8 0 mw_0 rfl 4 (by decide) mw5_23 rfl dX8_stub_97 ?_
        refine lv_iload hx hb dX8_stub_100 (lv_at hl 5 rfl) ?_
        obtain ⟨g7, x8, ex8, h⟩ := rd_some h
        refine x_ild C hP 2 mw_2 g7 ex8 dX8_stub_102 ?_
        refine lv_aload_n hx hb dX8_stub_103 rfl (lv_at hl 0 rfl) ?_
        refine x_get C hP inlX8 0 mw_0 rfl 5 (by decide) mw6_0 rfl dX8_stub_104 ?_
        refine lv_iload hx hb dX8_stub_107 (lv_at hl 5 rfl) ?_
        obtain ⟨g9, x10, ex10, h⟩ := rd_some h
        refine x_ild C hP 3 mw_3 g9 ex10 dX8_stub_109 ?_
        refine lv_iadd hx hb dX8_stub_110 ?_
        refine lv_iload_n hx hb dX8_stub_111 rfl (lv_at hl 1 rfl) ?_
        refine lv_isub hx hb dX8_stub_112 ?_
        refine lv_iload_n hx hb dX8_stub_113 rfl (lv_at hl 1 rfl) ?_
        refine lv_iload_n hx hb dX8_stub_114 rfl (lv_at hl 2 rfl) ?_
        obtain ⟨r12, g11, h⟩ := cl_some h
        refine x_callVi (rest := [.int v4]) C hP hD hS (c_X8_isSo g11) (cwV 3 hts (gV mw28_22 mw28_23 mw29_0 mw1_5 mw29_1) rfl rfl rfl hdV_X8_isSo ⟨Nat.le_of_ble_eq_true rfl, Nat.le_of_ble_eq_true rfl⟩) mw_0 rfl rfl hl.1 rfl (Nat.le_of_ble_eq_true rfl) dX8_stub_115 ⟨Nat.zero_le _, Nat.zero_le _⟩ (fun H locs hP hD hS => ?_)
        refine lv_if_eq (tgt := 128) hx hb dX8_stub_118 (by decide) (fun q13 => ?_) (fun q13 => ?_)
        · have h := ifp q13 h
          refine lv_iconst (v := 0) hx hb dX8_stub_128 (by decide) ?_
          refine lv_ior hx hb dX8_stub_129 ?_
          obtain ⟨x14, ex14, h⟩ := lt_some h
          refine x_ti ex14 ?_
          refine lv_istore (lv' := [(4, .int x14), (0, .ref (ad 0)), (1, .int v1), (2, .int v2), (3, .int v3), (5, .int v5)]) hx hb dX8_stub_130 hl (by decide) rfl (fun ls hl => ?_)
          obtain ⟨x15, ex15, h⟩ := lt_some h
          refine lv_iinc (v := x15) (lv' := [(5, .int x15), (4, .int x14), (0, .ref (ad 0)), (1, .int v1), (2, .int v2), (3, .int v3)]) hx hb dX8_stub_132 hl (k := 5) rfl (by rw [ex15]; rfl) (by decide) rfl (fun ls hl => ?_)
          refine lv_goto (tgt := 73) hx hb dX8_stub_135 (by decide) ?_
          exact ih v1 v2 v3 x14 x15 h H locs hP hD hS ls (lv_sub hl [2, 3, 4, 5, 1, 0] rfl)
        · have h := ifn q13 h
          refine lv_iconst (v := 1) hx hb dX8_stub_121 (by decide) ?_
          refine lv_iload hx hb dX8_stub_122 (lv_at hl 5 rfl) ?_
          refine lv_ishl hx hb dX8_stub_124 ?_
          refine lv_goto (tgt := 129) hx hb dX8_stub_125 (by decide) ?_
          refine lv_ior hx hb dX8_stub_129 ?_
          obtain ⟨x16, ex16, h⟩ := lt_some h
          refine x_ti ex16 ?_
          refine lv_istore (lv' := [(4, .int x16), (0, .ref (ad 0)), (1, .int v1), (2, .int v2), (3, .int v3), (5, .int v5)]) hx hb dX8_stub_130 hl (by decide) rfl (fun ls hl => ?_)
          obtain ⟨x17, ex17, h⟩ := lt_some h
          refine lv_iinc (v := x17) (lv' := [(5, .int x17), (4, .int x16), (0, .ref (ad 0)), (1, .int v1), (2, .int v2), (3, .int v3)]) hx hb dX8_stub_132 hl (k := 5) rfl (by rw [ex17]; rfl) (by decide) rfl (fun ls hl => ?_)
          refine lv_goto (tgt := 73) hx hb dX8_stub_135 (by decide) ?_
          exact ih v1 v2 v3 x16 x17 h H locs hP hD hS ls (lv_sub hl [2, 3, 4, 5, 1, 0] rfl)
set_option maxHeartbeats 4000000 in
set_option maxRecDepth 100000 in
theorem w_X8_stub_36 (C : Cx p s m args meth c D cy tT tF A cX8_stub 7 RX8) (hr : meth.sig.returnType = some .int) {r : Int32} {σ : ES} : ∀ (n : Nat) (v1 : Int32) (v2 : Int32) (v3 : Int32) (v4 : Int32), b_X8_stub_36 σ n v1 v2 v3 v4 = some r → ∀ (H : Heap) (locs : List Loc) (hP : va_P D vwCl (mw cy ad σ) H) (hD : va_D A (mw cy ad σ)) (hS : va_S A s.heap H locs) (ls : Array Slot) (hl : lv_has ls 7 [(0, .ref (ad 0)), (1, .int v1), (2, .int v2), (3, .int v3), (4, .int v4)]), W p l e { frames := 2, cells := 0, slots := 0, locals := 51 } s m args below meth c H locs 0 0 (MQ below (Qi D cy A r (mw cy ad σ)) args s 0 0 A) (F0 m 36 ls []) := by
  obtain ⟨⟨hx, hb, hml, hown, hts⟩, hK, hT, hA, hlk⟩ := id C
  intro n
  induction n with
  | zero =>
    intro v1 v2 v3 v4 h
    exact no_some h
  | succ n ih =>
    intro v1 v2 v3 v4 h H locs hP hD hS ls hl
    rw [b_X8_stub_36] at h
    refine lv_iload hx hb dX8_stub_36 (lv_at hl 4 rfl) ?_
    refine lv_iload_n hx hb dX8_stub_38 rfl (lv_at hl 1 rfl) ?_
    refine lv_icmp_ge (tgt := 67) hx hb dX8_stub_39 (by decide) (fun q1 => ?_) (fun q1 => ?_)
    · have h := ifp q1 h
      refine lv_iconst (v := 0) hx hb dX8_stub_67 (by decide) ?_
      refine lv_istore (lv' := [(4, .int (0 : Int32)), (0, .ref (ad 0)), (1, .int v1), (2, .int v2), (3, .int v3)]) hx hb dX8_stub_68 hl (by decide) rfl (fun ls hl => ?_)
      refine lv_iconst (v := 0) hx hb dX8_stub_70 (by decide) ?_
      refine lv_istore (lv' := [(5, .int (0 : Int32)), (4, .int (0 : Int32)), (0, .ref (ad 0)), (1, .int v1), (2, .int v2), (3, .int v3)]) hx hb dX8_stub_71 hl (by decide) rfl (fun ls hl => ?_)
      exact w_X8_stub_73 C hr FU v1 v2 v3 (0 : Int32) (0 : Int32) h H locs hP hD hS ls (lv_sub hl [2, 3, 4, 5, 1, 0] rfl)
    · have h := ifn q1 h
      refine lv_iload_n hx hb dX8_stub_42 rfl (lv_at hl 2 rfl) ?_
      refine lv_bipush (v := 10) hx hb dX8_stub_43 (by decide) ?_
      refine lv_iload hx hb dX8_stub_45 (lv_at hl 4 rfl) ?_
      obtain ⟨r3, g2, h⟩ := cl_some h
      refine x_callSi (rest := [.int v2]) C hP hD hS (c_X8_power g2) (va_cwS 2 hts (gS mw22_15 mw22_16 mw1_5 mw22_17) rfl rfl rfl hdS_X8_power ⟨Nat.le_of_ble_eq_true rfl, Nat.le_of_ble_eq_true rfl⟩) rfl hl.1 rfl (Nat.le_of_ble_eq_true rfl) dX8_stub_47 ⟨Nat.zero_le _, Nat.zero_le _⟩ (fun H locs hP hD hS => ?_)
      obtain ⟨g4, h⟩ := dv_some h
      refine lv_idiv hx hb dX8_stub_50 g4 ?_
      refine lv_bipush (v := 10) hx hb dX8_stub_51 (by decide) ?_
      refine lv_irem hx hb dX8_stub_53 (by decide) ?_
      refine lv_iconst (v := 4) hx hb dX8_stub_54 (by decide) ?_
      refine lv_icmp_le (tgt := 61) hx hb dX8_stub_55 (by decide) (fun q5 => ?_) (fun q5 => ?_)
      · have h := ifp q5 h
        obtain ⟨x6, ex6, h⟩ := lt_some h
        refine lv_iinc (v := x6) (lv' := [(4, .int x6), (0, .ref (ad 0)), (1, .int v1), (2, .int v2), (3, .int v3)]) hx hb dX8_stub_61 hl (k := 4) rfl (by rw [ex6]; rfl) (by decide) rfl (fun ls hl => ?_)
        refine lv_goto (tgt := 36) hx hb dX8_stub_64 (by decide) ?_
        exact ih v1 v2 v3 x6 h H locs hP hD hS ls (lv_sub hl [1, 2, 3, 4, 0] rfl)
      · have h := ifn q5 h
        refine lv_bipush (v := -2) hx hb dX8_stub_58 (by decide) ?_
        have z1 := so_inj h
        subst z1
        exact x_iret C hr hP hD hS dX8_stub_60
set_option maxHeartbeats 4000000 in
set_option maxRecDepth 100000 in
theorem w_X8_stub_0 (C : Cx p s m args meth c D cy tT tF A cX8_stub 7 RX8) (hr : meth.sig.returnType = some .int) {r : Int32} {σ : ES} (a1 : Int32) (a2 : Int32) (a3 : Int32) (h : b_X8_stub_0 σ a1 a2 a3 = some r) (H : Heap) (locs : List Loc) (hP : va_P D vwCl (mw cy ad σ) H) (hD : va_D A (mw cy ad σ)) (hS : va_S A s.heap H locs) (ls : Array Slot) (hl : lv_has ls 7 [(0, .ref (ad 0)), (1, .int a1), (2, .int a2), (3, .int a3)]) : W p l e { frames := 2, cells := 0, slots := 0, locals := 51 } s m args below meth c H locs 0 0 (MQ below (Qi D cy A r (mw cy ad σ)) args s 0 0 A) (F0 m 0 ls []) := by
  obtain ⟨⟨hx, hb, hml, hown, hts⟩, hK, hT, hA, hlk⟩ := id C
  unfold b_X8_stub_0 at h
  refine lv_iload_n hx hb dX8_stub_0 rfl (lv_at hl 1 rfl) ?_
  refine lv_i2l hx hb dX8_stub_1 rfl ?_
  refine lv_lconst (v := 1) hx hb dX8_stub_2 (by decide) ?_
  refine lv_ldc2 (v := 3) hx hb hown (hts _ mw28_21) dX8_stub_3 ?_
  obtain ⟨r2, g1, h⟩ := cl_some h
  refine x_callSi (rest := []) C hP hD hS (c_X8_in g1) (va_cwS 3 hts (gS mw7_10 mw7_11 mw1_5 mw7_12) rfl rfl rfl hdS_X8_in ⟨Nat.le_of_ble_eq_true rfl, Nat.le_of_ble_eq_true rfl⟩) rfl hl.1 rfl (Nat.le_of_ble_eq_true rfl) dX8_stub_6 ⟨Nat.zero_le _, Nat.zero_le _⟩ (fun H locs hP hD hS => ?_)
  refine lv_if_eq (tgt := 30) hx hb dX8_stub_9 (by decide) (fun q3 => ?_) (fun q3 => ?_)
  · have h := ifp q3 h
    refine lv_bipush (v := -2) hx hb dX8_stub_30 (by decide) ?_
    have z1 := so_inj h
    subst z1
    exact x_iret C hr hP hD hS dX8_stub_32
  · have h := ifn q3 h
    refine lv_iload_n hx hb dX8_stub_12 rfl (lv_at hl 2 rfl) ?_
    refine lv_i2l hx hb dX8_stub_13 rfl ?_
    refine lv_lconst (v := 0) hx hb dX8_stub_14 (by decide) ?_
    refine lv_bipush (v := 10) hx hb dX8_stub_15 (by decide) ?_
    refine lv_iload_n hx hb dX8_stub_17 rfl (lv_at hl 1 rfl) ?_
    obtain ⟨r5, g4, h⟩ := cl_some h
    refine x_callSi (rest := [.long (0 : Int64), .long (a2.toInt64)]) C hP hD hS (c_X8_power g4) (va_cwS 2 hts (gS mw22_15 mw22_16 mw1_5 mw22_17) rfl rfl rfl hdS_X8_power ⟨Nat.le_of_ble_eq_true rfl, Nat.le_of_ble_eq_true rfl⟩) rfl hl.1 rfl (Nat.le_of_ble_eq_true rfl) dX8_stub_18 ⟨Nat.zero_le _, Nat.zero_le _⟩ (fun H locs hP hD hS => ?_)
    refine lv_iconst (v := 1) hx hb dX8_stub_21 (by decide) ?_
    refine lv_isub hx hb dX8_stub_22 ?_
    refine lv_i2l hx hb dX8_stub_23 rfl ?_
    obtain ⟨r7, g6, h⟩ := cl_some h
    refine x_callSi (rest := []) C hP hD hS (c_X8_in g6) (va_cwS 3 hts (gS mw7_10 mw7_11 mw1_5 mw7_12) rfl rfl rfl hdS_X8_in ⟨Nat.le_of_ble_eq_true rfl, Nat.le_of_ble_eq_true rfl⟩) rfl hl.1 rfl (Nat.le_of_ble_eq_true rfl) dX8_stub_24 ⟨Nat.zero_le _, Nat.zero_le _⟩ (fun H locs hP hD hS => ?_)
    refine lv_if_ne (tgt := 33) hx hb dX8_stub_27 (by decide) (fun q8 => ?_) (fun q8 => ?_)
    · have h := ifn q8 h
      refine lv_iconst (v := 0) hx hb dX8_stub_33 (by decide) ?_
      refine lv_istore (lv' := [(4, .int (0 : Int32)), (0, .ref (ad 0)), (1, .int a1), (2, .int a2), (3, .int a3)]) hx hb dX8_stub_34 hl (by decide) rfl (fun ls hl => ?_)
      exact w_X8_stub_36 C hr FU a1 a2 a3 (0 : Int32) h H locs hP hD hS ls (lv_sub hl [1, 2, 3, 4, 0] rfl)
    · have h := ifp q8 h
      refine lv_bipush (v := -2) hx hb dX8_stub_30 (by decide) ?_
      have z1 := so_inj h
      subst z1
      exact x_iret C hr hP hD hS dX8_stub_32
theorem c_X8_stub {l : Launch} {D : va_G} {cy : Nat → ClassId} {tT tF : Nat} {ad : Nat → Nat} {a1 : Int32} {a2 : Int32} {a3 : Int32} {r : Int32} {σ : ES} (h : e_X8_stub a1 a2 a3 σ = some r) : CMi l yX8_stub (Cond.code yX8_stub cX8_stub 7 (some .int) :: wsL_law) { frames := 2, cells := 0, slots := 0, locals := 51 } D cy tT tF [.ref (ad 0), .int a1, .int a2, .int a3] (mw cy ad σ) r (mw cy ad σ) := x_start (Qc := fun A => (Qi D cy A r (mw cy ad σ))) (by decide) (Nat.le_of_ble_eq_true rfl) (fun p e s m below meth c A ls C hr hP hD hS hl => w_X8_stub_0 C hr a1 a2 a3 h s.heap [] hP hD hS ls hl)
set_option maxHeartbeats 4000000 in
set_option maxRecDepth 100000 in
theorem w_X8_see_0 (C : Cx p s m args meth c D cy tT tF A cX8_see 2 RX8) (hr : meth.sig.returnType = some .int) {r : Int32} {σ' : ES} (a1 : Int32) (σ : ES) (h : b_X8_see_0 a1 σ = some (r, σ')) (H : Heap) (locs : List Loc) (hP : va_P D vwCl (mw cy ad σ) H) (hD : va_D A (mw cy ad σ)) (hS : va_S A s.heap H locs) (ls : Array Slot) (hl : lv_has ls 2 [(0, .ref (ad 0)), (1, .int a1)]) : W p l e { frames := 1, cells := 0, slots := 0, locals := 25 } s m args below meth c H locs 0 0 (MQ below (Qi D cy A r (mw cy ad σ')) args s 0 0 A) (F0 m 0 ls []) := by
  obtain ⟨⟨hx, hb, hml, hown, hts⟩, hK, hT, hA, hlk⟩ := id C
  unfold b_X8_see_0 at h
  refine lv_iload_n hx hb dX8_see_0 rfl (lv_at hl 1 rfl) ?_
  refine lv_i2l hx hb dX8_see_1 rfl ?_
  refine lv_lconst (v := 0) hx hb dX8_see_2 (by decide) ?_
  refine lv_ldc2 (v := 4) hx hb hown (hts _ mw29_14) dX8_see_3 ?_
  obtain ⟨r2, g1, h⟩ := cl_some h
  refine x_callSi (rest := []) C hP hD hS (c_X8_in g1) (va_cwS 3 hts (gS mw7_10 mw7_11 mw1_5 mw7_12) rfl rfl rfl hdS_X8_in ⟨Nat.le_of_ble_eq_true rfl, Nat.le_of_ble_eq_true rfl⟩) rfl hl.1 rfl (Nat.le_of_ble_eq_true rfl) dX8_see_6 ⟨Nat.zero_le _, Nat.zero_le _⟩ (fun H locs hP hD hS => ?_)
  refine lv_if_ne (tgt := 15) hx hb dX8_see_9 (by decide) (fun q3 => ?_) (fun q3 => ?_)
  · have h := ifn q3 h
    refine lv_aload_n hx hb dX8_see_15 rfl (lv_at hl 0 rfl) ?_
    refine x_get C hP inlX8 0 mw_0 rfl 28 (by decide) mw29_15 rfl dX8_see_16 ?_
    refine lv_bipush (v := 6) hx hb dX8_see_19 (by decide) ?_
    refine lv_icmp_ne (tgt := 27) hx hb dX8_see_21 (by decide) (fun q4 => ?_) (fun q4 => ?_)
    · have h := ifn q4 h
      refine lv_aload_n hx hb dX8_see_27 rfl (lv_at hl 0 rfl) ?_
      refine x_get C hP inlX8 0 mw_0 rfl 29 (by decide) mw6_15 rfl dX8_see_28 ?_
      refine lv_aload_n hx hb dX8_see_31 rfl (lv_at hl 0 rfl) ?_
      refine x_get C hP inlX8 0 mw_0 rfl 28 (by decide) mw29_15 rfl dX8_see_32 ?_
      refine lv_iload_n hx hb dX8_see_35 rfl (lv_at hl 1 rfl) ?_
      obtain ⟨g5, σ6, eσ6, h⟩ := wr_some h
      refine x_ist C hP hD hS 18 mw_18 g5 (ma_18 eσ6) dX8_see_36 (fun H locs hP hD hS => ?_)
      refine lv_aload_n hx hb dX8_see_37 rfl (lv_at hl 0 rfl) ?_
      refine lv_dup hx hb dX8_see_38 rfl ?_
      refine x_get C hP inlX8 0 mw_0 rfl 28 (by decide) mw29_15 rfl dX8_see_39 ?_
      refine lv_iconst (v := 1) hx hb dX8_see_42 (by decide) ?_
      refine lv_iadd hx hb dX8_see_43 ?_
      obtain ⟨σ7, eσ7, h⟩ := lt_some h
      refine x_put C hP hD hS inlX8 tyX8 tyX8_ok nmX8 0 mw_0 rfl 28 (by decide) mw29_15 rfl rfl rfl (Nat.le_of_ble_eq_true rfl) (ms_0_28 eσ7) dX8_see_44 (fun H locs hP hD hS => ?_)
      refine lv_aload_n hx hb dX8_see_47 rfl (lv_at hl 0 rfl) ?_
      refine x_get C hP inlX8 0 mw_0 rfl 28 (by decide) mw29_15 rfl dX8_see_48 ?_
      obtain ⟨z1, z2⟩ := pr_inj h
      subst z1
      subst z2
      exact x_iret C hr hP hD hS dX8_see_51
    · have h := ifp q4 h
      refine lv_bipush (v := -4) hx hb dX8_see_24 (by decide) ?_
      obtain ⟨z1, z2⟩ := pr_inj h
      subst z1
      subst z2
      exact x_iret C hr hP hD hS dX8_see_26
  · have h := ifp q3 h
    refine lv_bipush (v := -2) hx hb dX8_see_12 (by decide) ?_
    obtain ⟨z1, z2⟩ := pr_inj h
    subst z1
    subst z2
    exact x_iret C hr hP hD hS dX8_see_14
theorem c_X8_see {l : Launch} {D : va_G} {cy : Nat → ClassId} {tT tF : Nat} {ad : Nat → Nat} {σ : ES} {a1 : Int32} {r : Int32} {σ' : ES} (h : e_X8_see a1 σ = some (r, σ')) : CMi l yX8_see (Cond.code yX8_see cX8_see 2 (some .int) :: wsL_law) { frames := 1, cells := 0, slots := 0, locals := 25 } D cy tT tF [.ref (ad 0), .int a1] (mw cy ad σ) r (mw cy ad σ') := x_start (Qc := fun A => (Qi D cy A r (mw cy ad σ'))) (by decide) (Nat.le_of_ble_eq_true rfl) (fun p e s m below meth c A ls C hr hP hD hS hl => w_X8_see_0 C hr a1 σ h s.heap [] hP hD hS ls hl)
set_option maxHeartbeats 4000000 in
set_option maxRecDepth 100000 in
theorem w_X8_unsee_0 (C : Cx p s m args meth c D cy tT tF A cX8_unsee 2 RX8) (hr : meth.sig.returnType = some .int) {r : Int32} {σ' : ES} (σ : ES) (h : b_X8_unsee_0 σ = some (r, σ')) (H : Heap) (locs : List Loc) (hP : va_P D vwCl (mw cy ad σ) H) (hD : va_D A (mw cy ad σ)) (hS : va_S A s.heap H locs) (ls : Array Slot) (hl : lv_has ls 2 [(0, .ref (ad 0))]) : W p l e { frames := 0, cells := 0, slots := 0, locals := 0 } s m args below meth c H locs 0 0 (MQ below (Qi D cy A r (mw cy ad σ')) args s 0 0 A) (F0 m 0 ls []) := by
  obtain ⟨⟨hx, hb, hml, hown, hts⟩, hK, hT, hA, hlk⟩ := id C
  unfold b_X8_unsee_0 at h
  refine lv_aload_n hx hb dX8_unsee_0 rfl (lv_at hl 0 rfl) ?_
  refine x_get C hP inlX8 0 mw_0 rfl 28 (by decide) mw29_15 rfl dX8_unsee_1 ?_
  obtain ⟨x1, ex1, h⟩ := lt_some h
  refine x_ti ex1 ?_
  refine lv_istore_n (lv' := [(1, .int x1), (0, .ref (ad 0))]) hx hb dX8_unsee_4 rfl hl (by decide) rfl (fun ls hl => ?_)
  refine lv_aload_n hx hb dX8_unsee_5 rfl (lv_at hl 1 rfl) ?_
  refine lv_iconst (v := 0) hx hb dX8_unsee_6 (by decide) ?_
  obtain ⟨σ2, eσ2, h⟩ := lt_some h
  refine x_put C hP hD hS inlX8 tyX8 tyX8_ok nmX8 0 mw_0 rfl 28 (by decide) mw29_15 rfl rfl rfl (Nat.le_of_ble_eq_true rfl) (ms_0_28 eσ2) dX8_unsee_7 (fun H locs hP hD hS => ?_)
  refine lv_iload_n hx hb dX8_unsee_10 rfl (lv_at hl 0 rfl) ?_
  obtain ⟨z1, z2⟩ := pr_inj h
  subst z1
  subst z2
  exact x_iret C hr hP hD hS dX8_unsee_11
theorem c_X8_unsee {l : Launch} {D : va_G} {cy : Nat → ClassId} {tT tF : Nat} {ad : Nat → Nat} {σ : ES} {r : Int32} {σ' : ES} (h : e_X8_unsee  σ = some (r, σ')) : CMi l yX8_unsee (Cond.code yX8_unsee cX8_unsee 2 (some .int) :: wsL_law) { frames := 0, cells := 0, slots := 0, locals := 0 } D cy tT tF [.ref (ad 0)] (mw cy ad σ) r (mw cy ad σ') := x_start (Qc := fun A => (Qi D cy A r (mw cy ad σ'))) (by decide) (Nat.le_of_ble_eq_true rfl) (fun p e s m below meth c A ls C hr hP hD hS hl => w_X8_unsee_0 C hr  σ h s.heap [] hP hD hS ls hl)
set_option maxHeartbeats 4000000 in
set_option maxRecDepth 100000 in
theorem w_X8_fromOf_28 (C : Cx p s m args meth c D cy tT tF A cX8_fromOf 6 RX8) (hr : meth.sig.returnType = some .int) {r : Int32} {σ : ES} {K4 : Int32 → Int32 → Int32 → Option (Int32)} (hK4 : ∀ (v1 : Int32) (v2 : Int32) (v3 : Int32), K4 v1 v2 v3 = some r → ∀ (H : Heap) (locs : List Loc), va_P D vwCl (mw cy ad σ) H → va_D A (mw cy ad σ) → va_S A s.heap H locs → ∀ ls : Array Slot, lv_has ls 6 [(0, .ref (ad 0)), (1, .int v1), (2, .int v2), (3, .int v3)] → W p l e { frames := 0, cells := 0, slots := 0, locals := 0 } s m args below meth c H locs 0 0 (MQ below (Qi D cy A r (mw cy ad σ)) args s 0 0 A) (F0 m 4 ls [])) : ∀ (n : Nat) (v1 : Int32) (v2 : Int32) (v3 : Int32) (v4 : Int32) (v5 : Int32), b_X8_fromOf_28 σ K4 n v1 v2 v3 v4 v5 = some r → ∀ (H : Heap) (locs : List Loc) (hP : va_P D vwCl (mw cy ad σ) H) (hD : va_D A (mw cy ad σ)) (hS : va_S A s.heap H locs) (ls : Array Slot) (hl : lv_has ls 6 [(0, .ref (ad 0)), (1, .int v1), (2, .int v2), (3, .int v3), (4, .int v4), (5, .int v5)]), W p l e { frames := 0, cells := 0, slots := 0, locals := 0 } s m args below meth c H locs 0 0 (MQ below (Qi D cy A r (mw cy ad σ)) args s 0 0 A) (F0 m 28 ls []) := by
  obtain ⟨⟨hx, hb, hml, hown, hts⟩, hK, hT, hA, hlk⟩ := id C
  intro n
  induction n with
  | zero =>
    intro v1 v2 v3 v4 v5 h
    exact no_some h
  | succ n ih =>
    intro v1 v2 v3 v4 v5 h H locs hP hD hS ls hl
    rw [b_X8_fromOf_28] at h
    refine lv_iload hx hb dX8_fromOf_28 (lv_at hl 5 rfl) ?_
    refine lv_aload_n hx hb dX8_fromOf_30 rfl (lv_at hl 0 rfl) ?_
    refine x_get C hP inlX8 0 mw_0 rfl 28 (by decide) mw29_15 rfl dX8_fromOf_31 ?_
    refine lv_icmp_ge (tgt := 74) hx hb dX8_fromOf_34 (by decide) (fun q1 => ?_) (fun q1 => ?_)
    · have h := ifp q1 h
      refine lv_iload_n hx hb dX8_fromOf_74 rfl (lv_at hl 2 rfl) ?_
      refine lv_iload hx hb dX8_fromOf_75 (lv_at hl 4 rfl) ?_
      refine lv_if_eq (tgt := 86) hx hb dX8_fromOf_77 (by decide) (fun q2 => ?_) (fun q2 => ?_)
      · have h := ifp q2 h
        refine lv_iconst (v := 0) hx hb dX8_fromOf_86 (by decide) ?_
        refine lv_ior hx hb dX8_fromOf_87 ?_
        obtain ⟨x3, ex3, h⟩ := lt_some h
        refine x_ti ex3 ?_
        refine lv_istore_n (lv' := [(2, .int x3), (0, .ref (ad 0)), (1, .int v1), (3, .int v3), (4, .int v4), (5, .int v5)]) hx hb dX8_fromOf_88 rfl hl (by decide) rfl (fun ls hl => ?_)
        obtain ⟨x4, ex4, h⟩ := lt_some h
        refine lv_iinc (v := x4) (lv' := [(3, .int x4), (2, .int x3), (0, .ref (ad 0)), (1, .int v1), (4, .int v4), (5, .int v5)]) hx hb dX8_fromOf_89 hl (k := 3) rfl (by rw [ex4]; rfl) (by decide) rfl (fun ls hl => ?_)
        refine lv_goto (tgt := 4) hx hb dX8_fromOf_92 (by decide) ?_
        exact hK4 v1 x3 x4 h H locs hP hD hS ls (lv_sub hl [2, 3, 1, 0] rfl)
      · have h := ifn q2 h
        refine lv_iconst (v := 1) hx hb dX8_fromOf_80 (by decide) ?_
        refine lv_iload_n hx hb dX8_fromOf_81 rfl (lv_at hl 3 rfl) ?_
        refine lv_ishl hx hb dX8_fromOf_82 ?_
        refine lv_goto (tgt := 87) hx hb dX8_fromOf_83 (by decide) ?_
        refine lv_ior hx hb dX8_fromOf_87 ?_
        obtain ⟨x5, ex5, h⟩ := lt_some h
        refine x_ti ex5 ?_
        refine lv_istore_n (lv' := [(2, .int x5), (0, .ref (ad 0)), (1, .int v1), (3, .int v3), (4, .int v4), (5, .int v5)]) hx hb dX8_fromOf_88 rfl hl (by decide) rfl (fun ls hl => ?_)
        obtain ⟨x6, ex6, h⟩ := lt_some h
        refine lv_iinc (v := x6) (lv' := [(3, .int x6), (2, .int x5), (0, .ref (ad 0)), (1, .int v1), (4, .int v4), (5, .int v5)]) hx hb dX8_fromOf_89 hl (k := 3) rfl (by rw [ex6]; rfl) (by decide) rfl (fun ls hl => ?_)
        refine lv_goto (tgt := 4) hx hb dX8_fromOf_92 (by decide) ?_
        exact hK4 v1 x5 x6 h H locs hP hD hS ls (lv_sub hl [2, 3, 1, 0] rfl)
    · have h := ifn q1 h
      refine lv_iload hx hb dX8_fromOf_37 (lv_at hl 4 rfl) ?_
      refine lv_if_eq (tgt := 65) hx hb dX8_fromOf_39 (by decide) (fun q7 => ?_) (fun q7 => ?_)
      · have h := ifp q7 h
        refine lv_iconst (v := 0) hx hb dX8_fromOf_65 (by decide) ?_
        refine lv_istore (lv' := [(4, .int (0 : Int32)), (0, .ref (ad 0)), (1, .int v1), (2, .int v2), (3, .int v3), (5, .int v5)]) hx hb dX8_fromOf_66 hl (by decide) rfl (fun ls hl => ?_)
        obtain ⟨x8, ex8, h⟩ := lt_some h
        refine lv_iinc (v := x8) (lv' := [(5, .int x8), (4, .int (0 : Int32)), (0, .ref (ad 0)), (1, .int v1), (2, .int v2), (3, .int v3)]) hx hb dX8_fromOf_68 hl (k := 5) rfl (by rw [ex8]; rfl) (by decide) rfl (fun ls hl => ?_)
        refine lv_goto (tgt := 28) hx hb dX8_fromOf_71 (by decide) ?_
        exact ih v1 v2 v3 (0 : Int32) x8 h H locs hP hD hS ls (lv_sub hl [2, 3, 4, 5, 1, 0] rfl)
      · have h := ifn q7 h
        refine lv_aload_n hx hb dX8_fromOf_42 rfl (lv_at hl 0 rfl) ?_
        refine x_get C hP inlX8 0 mw_0 rfl 3 (by decide) mw5_22 rfl dX8_fromOf_43 ?_
        refine lv_iload_n hx hb dX8_fromOf_46 rfl (lv_at hl 3 rfl) ?_
        refine lv_iload hx hb dX8_fromOf_47 (lv_at hl 5 rfl) ?_
        refine lv_iadd hx hb dX8_fromOf_49 ?_
        obtain ⟨g9, x10, ex10, h⟩ := rd_some h
        refine x_ild C hP 1 mw_1 g9 ex10 dX8_fromOf_50 ?_
        refine lv_aload_n hx hb dX8_fromOf_51 rfl (lv_at hl 0 rfl) ?_
        refine x_get C hP inlX8 0 mw_0 rfl 29 (by decide) mw6_15 rfl dX8_fromOf_52 ?_
        refine lv_iload hx hb dX8_fromOf_55 (lv_at hl 5 rfl) ?_
        obtain ⟨g11, x12, ex12, h⟩ := rd_some h
        refine x_ild C hP 18 mw_18 g11 ex12 dX8_fromOf_57 ?_
        refine lv_icmp_ne (tgt := 65) hx hb dX8_fromOf_58 (by decide) (fun q13 => ?_) (fun q13 => ?_)
        · have h := ifn q13 h
          refine lv_iconst (v := 0) hx hb dX8_fromOf_65 (by decide) ?_
          refine lv_istore (lv' := [(4, .int (0 : Int32)), (0, .ref (ad 0)), (1, .int v1), (2, .int v2), (3, .int v3), (5, .int v5)]) hx hb dX8_fromOf_66 hl (by decide) rfl (fun ls hl => ?_)
          obtain ⟨x14, ex14, h⟩ := lt_some h
          refine lv_iinc (v := x14) (lv' := [(5, .int x14), (4, .int (0 : Int32)), (0, .ref (ad 0)), (1, .int v1), (2, .int v2), (3, .int v3)]) hx hb dX8_fromOf_68 hl (k := 5) rfl (by rw [ex14]; rfl) (by decide) rfl (fun ls hl => ?_)
          refine lv_goto (tgt := 28) hx hb dX8_fromOf_71 (by decide) ?_
          exact ih v1 v2 v3 (0 : Int32) x14 h H locs hP hD hS ls (lv_sub hl [2, 3, 4, 5, 1, 0] rfl)
        · have h := ifp q13 h
          refine lv_iconst (v := 1) hx hb dX8_fromOf_61 (by decide) ?_
          refine lv_goto (tgt := 66) hx hb dX8_fromOf_62 (by decide) ?_
          refine lv_istore (lv' := [(4, .int (1 : Int32)), (0, .ref (ad 0)), (1, .int v1), (2, .int v2), (3, .int v3), (5, .int v5)]) hx hb dX8_fromOf_66 hl (by decide) rfl (fun ls hl => ?_)
          obtain ⟨x15, ex15, h⟩ := lt_some h
          refine lv_iinc (v := x15) (lv' := [(5, .int x15), (4, .int (1 : Int32)), (0, .ref (ad 0)), (1, .int v1), (2, .int v2), (3, .int v3)]) hx hb dX8_fromOf_68 hl (k := 5) rfl (by rw [ex15]; rfl) (by decide) rfl (fun ls hl => ?_)
          refine lv_goto (tgt := 28) hx hb dX8_fromOf_71 (by decide) ?_
          exact ih v1 v2 v3 (1 : Int32) x15 h H locs hP hD hS ls (lv_sub hl [2, 3, 4, 5, 1, 0] rfl)
set_option maxHeartbeats 4000000 in
set_option maxRecDepth 100000 in
theorem w_X8_fromOf_4 (C : Cx p s m args meth c D cy tT tF A cX8_fromOf 6 RX8) (hr : meth.sig.returnType = some .int) {r : Int32} {σ : ES} : ∀ (n : Nat) (v1 : Int32) (v2 : Int32) (v3 : Int32), b_X8_fromOf_4 σ n v1 v2 v3 = some r → ∀ (H : Heap) (locs : List Loc) (hP : va_P D vwCl (mw cy ad σ) H) (hD : va_D A (mw cy ad σ)) (hS : va_S A s.heap H locs) (ls : Array Slot) (hl : lv_has ls 6 [(0, .ref (ad 0)), (1, .int v1), (2, .int v2), (3, .int v3)]), W p l e { frames := 0, cells := 0, slots := 0, locals := 0 } s m args below meth c H locs 0 0 (MQ below (Qi D cy A r (mw cy ad σ)) args s 0 0 A) (F0 m 4 ls []) := by
  obtain ⟨⟨hx, hb, hml, hown, hts⟩, hK, hT, hA, hlk⟩ := id C
  intro n
  induction n with
  | zero =>
    intro v1 v2 v3 h
    exact no_some h
  | succ n ih =>
    intro v1 v2 v3 h H locs hP hD hS ls hl
    rw [b_X8_fromOf_4] at h
    refine lv_iload_n hx hb dX8_fromOf_4 rfl (lv_at hl 3 rfl) ?_
    refine lv_aload_n hx hb dX8_fromOf_5 rfl (lv_at hl 0 rfl) ?_
    refine x_get C hP inlX8 0 mw_0 rfl 0 (by decide) mw6_19 rfl dX8_fromOf_6 ?_
    refine lv_iload_n hx hb dX8_fromOf_9 rfl (lv_at hl 1 rfl) ?_
    refine lv_isub hx hb dX8_fromOf_10 ?_
    refine lv_icmp_gt (tgt := 95) hx hb dX8_fromOf_11 (by decide) (fun q1 => ?_) (fun q1 => ?_)
    · have h := ifp q1 h
      refine lv_iload_n hx hb dX8_fromOf_95 rfl (lv_at hl 2 rfl) ?_
      have z1 := so_inj h
      subst z1
      exact x_iret C hr hP hD hS dX8_fromOf_96
    · have h := ifn q1 h
      refine lv_aload_n hx hb dX8_fromOf_14 rfl (lv_at hl 0 rfl) ?_
      refine x_get C hP inlX8 0 mw_0 rfl 28 (by decide) mw29_15 rfl dX8_fromOf_15 ?_
      refine lv_iload_n hx hb dX8_fromOf_18 rfl (lv_at hl 1 rfl) ?_
      refine lv_icmp_gt (tgt := 95) hx hb dX8_fromOf_19 (by decide) (fun q2 => ?_) (fun q2 => ?_)
      · have h := ifp q2 h
        refine lv_iload_n hx hb dX8_fromOf_95 rfl (lv_at hl 2 rfl) ?_
        have z1 := so_inj h
        subst z1
        exact x_iret C hr hP hD hS dX8_fromOf_96
      · have h := ifn q2 h
        refine lv_iconst (v := 1) hx hb dX8_fromOf_22 (by decide) ?_
        refine lv_istore (lv' := [(4, .int (1 : Int32)), (0, .ref (ad 0)), (1, .int v1), (2, .int v2), (3, .int v3)]) hx hb dX8_fromOf_23 hl (by decide) rfl (fun ls hl => ?_)
        refine lv_iconst (v := 0) hx hb dX8_fromOf_25 (by decide) ?_
        refine lv_istore (lv' := [(5, .int (0 : Int32)), (4, .int (1 : Int32)), (0, .ref (ad 0)), (1, .int v1), (2, .int v2), (3, .int v3)]) hx hb dX8_fromOf_26 hl (by decide) rfl (fun ls hl => ?_)
        exact w_X8_fromOf_28 C hr ih FU v1 v2 v3 (1 : Int32) (0 : Int32) h H locs hP hD hS ls (lv_sub hl [2, 3, 4, 5, 1, 0] rfl)
set_option maxHeartbeats 4000000 in
set_option maxRecDepth 100000 in
theorem w_X8_fromOf_0 (C : Cx p s m args meth c D cy tT tF A cX8_fromOf 6 RX8) (hr : meth.sig.returnType = some .int) {r : Int32} {σ : ES} (a1 : Int32) (h : b_X8_fromOf_0 σ a1 = some r) (H : Heap) (locs : List Loc) (hP : va_P D vwCl (mw cy ad σ) H) (hD : va_D A (mw cy ad σ)) (hS : va_S A s.heap H locs) (ls : Array Slot) (hl : lv_has ls 6 [(0, .ref (ad 0)), (1, .int a1)]) : W p l e { frames := 0, cells := 0, slots := 0, locals := 0 } s m args below meth c H locs 0 0 (MQ below (Qi D cy A r (mw cy ad σ)) args s 0 0 A) (F0 m 0 ls []) := by
  obtain ⟨⟨hx, hb, hml, hown, hts⟩, hK, hT, hA, hlk⟩ := id C
  unfold b_X8_fromOf_0 at h
  refine lv_iconst (v := 0) hx hb dX8_fromOf_0 (by decide) ?_
  refine lv_istore_n (lv' := [(2, .int (0 : Int32)), (0, .ref (ad 0)), (1, .int a1)]) hx hb dX8_fromOf_1 rfl hl (by decide) rfl (fun ls hl => ?_)
  refine lv_iconst (v := 0) hx hb dX8_fromOf_2 (by decide) ?_
  refine lv_istore_n (lv' := [(3, .int (0 : Int32)), (2, .int (0 : Int32)), (0, .ref (ad 0)), (1, .int a1)]) hx hb dX8_fromOf_3 rfl hl (by decide) rfl (fun ls hl => ?_)
  exact w_X8_fromOf_4 C hr FU a1 (0 : Int32) (0 : Int32) h H locs hP hD hS ls (lv_sub hl [2, 3, 1, 0] rfl)
theorem c_X8_fromOf {l : Launch} {D : va_G} {cy : Nat → ClassId} {tT tF : Nat} {ad : Nat → Nat} {a1 : Int32} {r : Int32} {σ : ES} (h : e_X8_fromOf a1 σ = some r) : CMi l yX8_fromOf (Cond.code yX8_fromOf cX8_fromOf 6 (some .int) :: wsL_law) { frames := 0, cells := 0, slots := 0, locals := 0 } D cy tT tF [.ref (ad 0), .int a1] (mw cy ad σ) r (mw cy ad σ) := x_start (Qc := fun A => (Qi D cy A r (mw cy ad σ))) (by decide) (Nat.le_of_ble_eq_true rfl) (fun p e s m below meth c A ls C hr hP hD hS hl => w_X8_fromOf_0 C hr a1 h s.heap [] hP hD hS ls hl)
set_option maxHeartbeats 4000000 in
set_option maxRecDepth 100000 in
theorem w_X8_from_0 (C : Cx p s m args meth c D cy tT tF A cX8_from 2 RX8) (hr : meth.sig.returnType = some .int) {r : Int32} {σ : ES} (a1 : Int32) (h : b_X8_from_0 σ a1 = some r) (H : Heap) (locs : List Loc) (hP : va_P D vwCl (mw cy ad σ) H) (hD : va_D A (mw cy ad σ)) (hS : va_S A s.heap H locs) (ls : Array Slot) (hl : lv_has ls 2 [(0, .ref (ad 0)), (1, .int a1)]) : W p l e { frames := 1, cells := 0, slots := 0, locals := 25 } s m args below meth c H locs 0 0 (MQ below (Qi D cy A r (mw cy ad σ)) args s 0 0 A) (F0 m 0 ls []) := by
  obtain ⟨⟨hx, hb, hml, hown, hts⟩, hK, hT, hA, hlk⟩ := id C
  unfold b_X8_from_0 at h
  refine lv_iload_n hx hb dX8_from_0 rfl (lv_at hl 1 rfl) ?_
  refine lv_i2l hx hb dX8_from_1 rfl ?_
  refine lv_lconst (v := 1) hx hb dX8_from_2 (by decide) ?_
  refine lv_ldc2 (v := 6) hx hb hown (hts _ mw30_22) dX8_from_3 ?_
  obtain ⟨r2, g1, h⟩ := cl_some h
  refine x_callSi (rest := []) C hP hD hS (c_X8_in g1) (va_cwS 3 hts (gS mw7_10 mw7_11 mw1_5 mw7_12) rfl rfl rfl hdS_X8_in ⟨Nat.le_of_ble_eq_true rfl, Nat.le_of_ble_eq_true rfl⟩) rfl hl.1 rfl (Nat.le_of_ble_eq_true rfl) dX8_from_6 ⟨Nat.zero_le _, Nat.zero_le _⟩ (fun H locs hP hD hS => ?_)
  refine lv_if_eq (tgt := 20) hx hb dX8_from_9 (by decide) (fun q3 => ?_) (fun q3 => ?_)
  · have h := ifp q3 h
    refine lv_bipush (v := -2) hx hb dX8_from_20 (by decide) ?_
    have z1 := so_inj h
    subst z1
    exact x_iret C hr hP hD hS dX8_from_22
  · have h := ifn q3 h
    refine lv_aload_n hx hb dX8_from_12 rfl (lv_at hl 0 rfl) ?_
    refine lv_iload_n hx hb dX8_from_13 rfl (lv_at hl 1 rfl) ?_
    obtain ⟨r5, g4, h⟩ := cl_some h
    refine x_callVi (rest := []) C hP hD hS (c_X8_fromOf g4) (cwV 1 hts (gV mw30_23 mw31_0 mw31_1 mw1_5 mw31_2) rfl rfl rfl hdV_X8_fromOf ⟨Nat.le_of_ble_eq_true rfl, Nat.le_of_ble_eq_true rfl⟩) mw_0 rfl rfl hl.1 rfl (Nat.le_of_ble_eq_true rfl) dX8_from_14 ⟨Nat.zero_le _, Nat.zero_le _⟩ (fun H locs hP hD hS => ?_)
    refine lv_goto (tgt := 22) hx hb dX8_from_17 (by decide) ?_
    have z1 := so_inj h
    subst z1
    exact x_iret C hr hP hD hS dX8_from_22
theorem c_X8_from {l : Launch} {D : va_G} {cy : Nat → ClassId} {tT tF : Nat} {ad : Nat → Nat} {a1 : Int32} {r : Int32} {σ : ES} (h : e_X8_from a1 σ = some r) : CMi l yX8_from (Cond.code yX8_from cX8_from 2 (some .int) :: wsL_law) { frames := 1, cells := 0, slots := 0, locals := 25 } D cy tT tF [.ref (ad 0), .int a1] (mw cy ad σ) r (mw cy ad σ) := x_start (Qc := fun A => (Qi D cy A r (mw cy ad σ))) (by decide) (Nat.le_of_ble_eq_true rfl) (fun p e s m below meth c A ls C hr hP hD hS hl => w_X8_from_0 C hr a1 h s.heap [] hP hD hS ls hl)
set_option maxHeartbeats 4000000 in
set_option maxRecDepth 100000 in
theorem w_X8_next_59 (C : Cx p s m args meth c D cy tT tF A cX8_next 8 RX8) (hr : meth.sig.returnType = some .int) {r : Int32} {σ : ES} : ∀ (n : Nat) (v2 : Int32) (v3 : Int32) (v4 : Int32) (v5 : Int32) (v6 : Int32) (v7 : Int32), b_X8_next_59 σ n v2 v3 v4 v5 v6 v7 = some r → ∀ (H : Heap) (locs : List Loc) (hP : va_P D vwCl (mw cy ad σ) H) (hD : va_D A (mw cy ad σ)) (hS : va_S A s.heap H locs) (ls : Array Slot) (hl : lv_has ls 8 [(0, .ref (ad 0)), (2, .int v2), (3, .int v3), (4, .int v4), (5, .int v5), (6, .int v6), (7, .int v7)]), W p l e { frames := 1, cells := 0, slots := 0, locals := 25 } s m args below meth c H locs 0 0 (MQ below (Qi D cy A r (mw cy ad σ)) args s 0 0 A) (F0 m 59 ls []) := by
  obtain ⟨⟨hx, hb, hml, hown, hts⟩, hK, hT, hA, hlk⟩ := id C
  intro n
  induction n with
  | zero =>
    intro v2 v3 v4 v5 v6 v7 h
    exact no_some h
  | succ n ih =>
    intro v2 v3 v4 v5 v6 v7 h H locs hP hD hS ls hl
    rw [b_X8_next_59] at h
    refine lv_iload hx hb dX8_next_59 (lv_at hl 6 rfl) ?_
    refine lv_aload_n hx hb dX8_next_61 rfl (lv_at hl 0 rfl) ?_
    refine x_get C hP inlX8 0 mw_0 rfl 0 (by decide) mw6_19 rfl dX8_next_62 ?_
    refine lv_icmp_ge (tgt := 122) hx hb dX8_next_65 (by decide) (fun q1 => ?_) (fun q1 => ?_)
    · have h := ifp q1 h
      refine lv_iload hx hb dX8_next_122 (lv_at hl 4 rfl) ?_
      refine lv_iload hx hb dX8_next_124 (lv_at hl 5 rfl) ?_
      obtain ⟨r3, g2, h⟩ := cl_some h
      refine x_callSi (rest := []) C hP hD hS (c_X8_common g2) (va_cwS 2 hts (gS mw25_3 mw25_4 mw1_5 mw25_5) rfl rfl rfl hdS_X8_common ⟨Nat.le_of_ble_eq_true rfl, Nat.le_of_ble_eq_true rfl⟩) rfl hl.1 rfl (Nat.le_of_ble_eq_true rfl) dX8_next_126 ⟨Nat.zero_le _, Nat.zero_le _⟩ (fun H locs hP hD hS => ?_)
      refine lv_istore (lv' := [(7, .int r3), (0, .ref (ad 0)), (2, .int v2), (3, .int v3), (4, .int v4), (5, .int v5), (6, .int v6)]) hx hb dX8_next_129 hl (by decide) rfl (fun ls hl => ?_)
      refine lv_iload_n hx hb dX8_next_131 rfl (lv_at hl 3 rfl) ?_
      refine lv_if_eq (tgt := 143) hx hb dX8_next_132 (by decide) (fun q4 => ?_) (fun q4 => ?_)
      · have h := ifp q4 h
        refine lv_iload hx hb dX8_next_143 (lv_at hl 6 rfl) ?_
        refine lv_iload hx hb dX8_next_145 (lv_at hl 0 rfl) ?_
        obtain ⟨g5, h⟩ := dv_some h
        refine lv_idiv hx hb dX8_next_147 g5 ?_
        have z1 := so_inj h
        subst z1
        exact x_iret C hr hP hD hS dX8_next_148
      · have h := ifn q4 h
        refine lv_iload hx hb dX8_next_135 (lv_at hl 5 rfl) ?_
        refine lv_iload hx hb dX8_next_137 (lv_at hl 0 rfl) ?_
        obtain ⟨g6, h⟩ := dv_some h
        refine lv_idiv hx hb dX8_next_139 g6 ?_
        refine lv_goto (tgt := 148) hx hb dX8_next_140 (by decide) ?_
        have z1 := so_inj h
        subst z1
        exact x_iret C hr hP hD hS dX8_next_148
    · have h := ifn q1 h
      refine lv_iload hx hb dX8_next_68 (lv_at hl 5 rfl) ?_
      refine lv_iload hx hb dX8_next_70 (lv_at hl 3 rfl) ?_
      refine lv_iload hx hb dX8_next_72 (lv_at hl 6 rfl) ?_
      refine lv_ishr hx hb dX8_next_74 ?_
      refine lv_iconst (v := 1) hx hb dX8_next_75 (by decide) ?_
      refine lv_iand hx hb dX8_next_76 ?_
      refine lv_iadd hx hb dX8_next_77 ?_
      obtain ⟨x7, ex7, h⟩ := lt_some h
      refine x_ti ex7 ?_
      refine lv_istore (lv' := [(6, .int x7), (0, .ref (ad 0)), (2, .int v2), (3, .int v3), (4, .int v4), (5, .int v5), (7, .int v7)]) hx hb dX8_next_78 hl (by decide) rfl (fun ls hl => ?_)
      refine lv_iload hx hb dX8_next_80 (lv_at hl 5 rfl) ?_
      refine lv_iload hx hb dX8_next_82 (lv_at hl 4 rfl) ?_
      refine lv_iload hx hb dX8_next_84 (lv_at hl 6 rfl) ?_
      obtain ⟨r9, g8, h⟩ := cl_some h
      refine x_callSi (rest := [.int v5]) C hP hD hS (c_X8_has g8) (va_cwS 2 hts (gS mw18_16 mw18_17 mw1_5 mw18_18) rfl rfl rfl hdS_X8_has ⟨Nat.le_of_ble_eq_true rfl, Nat.le_of_ble_eq_true rfl⟩) rfl hl.1 rfl (Nat.le_of_ble_eq_true rfl) dX8_next_86 ⟨Nat.zero_le _, Nat.zero_le _⟩ (fun H locs hP hD hS => ?_)
      refine lv_if_eq (tgt := 112) hx hb dX8_next_89 (by decide) (fun q10 => ?_) (fun q10 => ?_)
      · have h := ifp q10 h
        refine lv_iconst (v := 0) hx hb dX8_next_112 (by decide) ?_
        refine lv_iadd hx hb dX8_next_113 ?_
        obtain ⟨x11, ex11, h⟩ := lt_some h
        refine x_ti ex11 ?_
        refine lv_istore (lv' := [(5, .int x11), (6, .int x7), (0, .ref (ad 0)), (2, .int v2), (3, .int v3), (4, .int v4), (7, .int v7)]) hx hb dX8_next_114 hl (by decide) rfl (fun ls hl => ?_)
        obtain ⟨x12, ex12, h⟩ := lt_some h
        refine lv_iinc (v := x12) (lv' := [(7, .int x12), (5, .int x11), (6, .int x7), (0, .ref (ad 0)), (2, .int v2), (3, .int v3), (4, .int v4)]) hx hb dX8_next_116 hl (k := 6) rfl (by rw [ex12]; rfl) (by decide) rfl (fun ls hl => ?_)
        refine lv_goto (tgt := 59) hx hb dX8_next_119 (by decide) ?_
        exact ih v2 v3 v4 x11 x7 x12 h H locs hP hD hS ls (lv_sub hl [3, 4, 5, 6, 1, 2, 0] rfl)
      · have h := ifn q10 h
        refine lv_aload_n hx hb dX8_next_92 rfl (lv_at hl 1 rfl) ?_
        refine x_get C hP inlX8 0 mw_0 rfl 3 (by decide) mw5_22 rfl dX8_next_93 ?_
        refine lv_iload hx hb dX8_next_96 (lv_at hl 6 rfl) ?_
        refine lv_aload_n hx hb dX8_next_98 rfl (lv_at hl 1 rfl) ?_
        refine x_get C hP inlX8 0 mw_0 rfl 28 (by decide) mw29_15 rfl dX8_next_99 ?_
        refine lv_iadd hx hb dX8_next_102 ?_
        obtain ⟨g13, x14, ex14, h⟩ := rd_some h
        refine x_ild C hP 1 mw_1 g13 ex14 dX8_next_103 ?_
        refine lv_iload_n hx hb dX8_next_104 rfl (lv_at hl 2 rfl) ?_
        refine lv_icmp_ne (tgt := 112) hx hb dX8_next_105 (by decide) (fun q15 => ?_) (fun q15 => ?_)
        · have h := ifn q15 h
          refine lv_iconst (v := 0) hx hb dX8_next_112 (by decide) ?_
          refine lv_iadd hx hb dX8_next_113 ?_
          obtain ⟨x16, ex16, h⟩ := lt_some h
          refine x_ti ex16 ?_
          refine lv_istore (lv' := [(5, .int x16), (6, .int x7), (0, .ref (ad 0)), (2, .int v2), (3, .int v3), (4, .int v4), (7, .int v7)]) hx hb dX8_next_114 hl (by decide) rfl (fun ls hl => ?_)
          obtain ⟨x17, ex17, h⟩ := lt_some h
          refine lv_iinc (v := x17) (lv' := [(7, .int x17), (5, .int x16), (6, .int x7), (0, .ref (ad 0)), (2, .int v2), (3, .int v3), (4, .int v4)]) hx hb dX8_next_116 hl (k := 6) rfl (by rw [ex17]; rfl) (by decide) rfl (fun ls hl => ?_)
          refine lv_goto (tgt := 59) hx hb dX8_next_119 (by decide) ?_
          exact ih v2 v3 v4 x16 x7 x17 h H locs hP hD hS ls (lv_sub hl [3, 4, 5, 6, 1, 2, 0] rfl)
        · have h := ifp q15 h
          refine lv_iconst (v := 1) hx hb dX8_next_108 (by decide) ?_
          refine lv_goto (tgt := 113) hx hb dX8_next_109 (by decide) ?_
          refine lv_iadd hx hb dX8_next_113 ?_
          obtain ⟨x18, ex18, h⟩ := lt_some h
          refine x_ti ex18 ?_
          refine lv_istore (lv' := [(5, .int x18), (6, .int x7), (0, .ref (ad 0)), (2, .int v2), (3, .int v3), (4, .int v4), (7, .int v7)]) hx hb dX8_next_114 hl (by decide) rfl (fun ls hl => ?_)
          obtain ⟨x19, ex19, h⟩ := lt_some h
          refine lv_iinc (v := x19) (lv' := [(7, .int x19), (5, .int x18), (6, .int x7), (0, .ref (ad 0)), (2, .int v2), (3, .int v3), (4, .int v4)]) hx hb dX8_next_116 hl (k := 6) rfl (by rw [ex19]; rfl) (by decide) rfl (fun ls hl => ?_)
          refine lv_goto (tgt := 59) hx hb dX8_next_119 (by decide) ?_
          exact ih v2 v3 v4 x18 x7 x19 h H locs hP hD hS ls (lv_sub hl [3, 4, 5, 6, 1, 2, 0] rfl)
set_option maxHeartbeats 4000000 in
set_option maxRecDepth 100000 in
theorem w_X8_next_0 (C : Cx p s m args meth c D cy tT tF A cX8_next 8 RX8) (hr : meth.sig.returnType = some .int) {r : Int32} {σ : ES} (a1 : Int32) (a2 : Int32) (a3 : Int32) (h : b_X8_next_0 σ a1 a2 a3 = some r) (H : Heap) (locs : List Loc) (hP : va_P D vwCl (mw cy ad σ) H) (hD : va_D A (mw cy ad σ)) (hS : va_S A s.heap H locs) (ls : Array Slot) (hl : lv_has ls 8 [(0, .ref (ad 0)), (1, .int a1), (2, .int a2), (3, .int a3)]) : W p l e { frames := 1, cells := 0, slots := 0, locals := 25 } s m args below meth c H locs 0 0 (MQ below (Qi D cy A r (mw cy ad σ)) args s 0 0 A) (F0 m 0 ls []) := by
  obtain ⟨⟨hx, hb, hml, hown, hts⟩, hK, hT, hA, hlk⟩ := id C
  unfold b_X8_next_0 at h
  refine lv_iload_n hx hb dX8_next_0 rfl (lv_at hl 1 rfl) ?_
  refine lv_i2l hx hb dX8_next_1 rfl ?_
  refine lv_lconst (v := 1) hx hb dX8_next_2 (by decide) ?_
  refine lv_ldc2 (v := 6) hx hb hown (hts _ mw30_22) dX8_next_3 ?_
  obtain ⟨r2, g1, h⟩ := cl_some h
  refine x_callSi (rest := []) C hP hD hS (c_X8_in g1) (va_cwS 3 hts (gS mw7_10 mw7_11 mw1_5 mw7_12) rfl rfl rfl hdS_X8_in ⟨Nat.le_of_ble_eq_true rfl, Nat.le_of_ble_eq_true rfl⟩) rfl hl.1 rfl (Nat.le_of_ble_eq_true rfl) dX8_next_6 ⟨Nat.zero_le _, Nat.zero_le _⟩ (fun H locs hP hD hS => ?_)
  refine lv_if_eq (tgt := 24) hx hb dX8_next_9 (by decide) (fun q3 => ?_) (fun q3 => ?_)
  · have h := ifp q3 h
    refine lv_bipush (v := -2) hx hb dX8_next_24 (by decide) ?_
    have z1 := so_inj h
    subst z1
    exact x_iret C hr hP hD hS dX8_next_26
  · have h := ifn q3 h
    refine lv_iload_n hx hb dX8_next_12 rfl (lv_at hl 2 rfl) ?_
    refine lv_i2l hx hb dX8_next_13 rfl ?_
    refine lv_lconst (v := 0) hx hb dX8_next_14 (by decide) ?_
    refine lv_ldc2 (v := 4) hx hb hown (hts _ mw29_14) dX8_next_15 ?_
    obtain ⟨r5, g4, h⟩ := cl_some h
    refine x_callSi (rest := []) C hP hD hS (c_X8_in g4) (va_cwS 3 hts (gS mw7_10 mw7_11 mw1_5 mw7_12) rfl rfl rfl hdS_X8_in ⟨Nat.le_of_ble_eq_true rfl, Nat.le_of_ble_eq_true rfl⟩) rfl hl.1 rfl (Nat.le_of_ble_eq_true rfl) dX8_next_18 ⟨Nat.zero_le _, Nat.zero_le _⟩ (fun H locs hP hD hS => ?_)
    refine lv_if_ne (tgt := 27) hx hb dX8_next_21 (by decide) (fun q6 => ?_) (fun q6 => ?_)
    · have h := ifn q6 h
      refine lv_aload_n hx hb dX8_next_27 rfl (lv_at hl 0 rfl) ?_
      refine lv_iload_n hx hb dX8_next_28 rfl (lv_at hl 1 rfl) ?_
      obtain ⟨r8, g7, h⟩ := cl_some h
      refine x_callVi (rest := []) C hP hD hS (c_X8_fromOf g7) (cwV 1 hts (gV mw30_23 mw31_0 mw31_1 mw1_5 mw31_2) rfl rfl rfl hdV_X8_fromOf ⟨Nat.le_of_ble_eq_true rfl, Nat.le_of_ble_eq_true rfl⟩) mw_0 rfl rfl hl.1 rfl (Nat.le_of_ble_eq_true rfl) dX8_next_29 ⟨Nat.zero_le _, Nat.zero_le _⟩ (fun H locs hP hD hS => ?_)
      refine lv_istore (lv' := [(4, .int r8), (0, .ref (ad 0)), (1, .int a1), (2, .int a2), (3, .int a3)]) hx hb dX8_next_32 hl (by decide) rfl (fun ls hl => ?_)
      refine lv_iload hx hb dX8_next_34 (lv_at hl 0 rfl) ?_
      refine lv_if_eq (tgt := 47) hx hb dX8_next_36 (by decide) (fun q9 => ?_) (fun q9 => ?_)
      · have h := ifp q9 h
        refine lv_bipush (v := -3) hx hb dX8_next_47 (by decide) ?_
        have z1 := so_inj h
        subst z1
        exact x_iret C hr hP hD hS dX8_next_49
      · have h := ifn q9 h
        refine lv_aload_n hx hb dX8_next_39 rfl (lv_at hl 1 rfl) ?_
        refine x_get C hP inlX8 0 mw_0 rfl 28 (by decide) mw29_15 rfl dX8_next_40 ?_
        refine lv_iload_n hx hb dX8_next_43 rfl (lv_at hl 2 rfl) ?_
        refine lv_icmp_lt (tgt := 50) hx hb dX8_next_44 (by decide) (fun q10 => ?_) (fun q10 => ?_)
        · have h := ifp q10 h
          refine lv_iconst (v := 0) hx hb dX8_next_50 (by decide) ?_
          refine lv_istore (lv' := [(5, .int (0 : Int32)), (4, .int r8), (0, .ref (ad 0)), (1, .int a1), (2, .int a2), (3, .int a3)]) hx hb dX8_next_51 hl (by decide) rfl (fun ls hl => ?_)
          refine lv_iconst (v := 0) hx hb dX8_next_53 (by decide) ?_
          refine lv_istore (lv' := [(6, .int (0 : Int32)), (5, .int (0 : Int32)), (4, .int r8), (0, .ref (ad 0)), (1, .int a1), (2, .int a2), (3, .int a3)]) hx hb dX8_next_54 hl (by decide) rfl (fun ls hl => ?_)
          refine lv_iconst (v := 0) hx hb dX8_next_56 (by decide) ?_
          refine lv_istore (lv' := [(7, .int (0 : Int32)), (6, .int (0 : Int32)), (5, .int (0 : Int32)), (4, .int r8), (0, .ref (ad 0)), (1, .int a1), (2, .int a2), (3, .int a3)]) hx hb dX8_next_57 hl (by decide) rfl (fun ls hl => ?_)
          exact w_X8_next_59 C hr FU a2 a3 r8 (0 : Int32) (0 : Int32) (0 : Int32) h H locs hP hD hS ls (lv_sub hl [4, 6, 7, 3, 2, 1, 0] rfl)
        · have h := ifn q10 h
          refine lv_bipush (v := -3) hx hb dX8_next_47 (by decide) ?_
          have z1 := so_inj h
          subst z1
          exact x_iret C hr hP hD hS dX8_next_49
    · have h := ifp q6 h
      refine lv_bipush (v := -2) hx hb dX8_next_24 (by decide) ?_
      have z1 := so_inj h
      subst z1
      exact x_iret C hr hP hD hS dX8_next_26
theorem c_X8_next {l : Launch} {D : va_G} {cy : Nat → ClassId} {tT tF : Nat} {ad : Nat → Nat} {a1 : Int32} {a2 : Int32} {a3 : Int32} {r : Int32} {σ : ES} (h : e_X8_next a1 a2 a3 σ = some r) : CMi l yX8_next (Cond.code yX8_next cX8_next 8 (some .int) :: wsL_law) { frames := 1, cells := 0, slots := 0, locals := 25 } D cy tT tF [.ref (ad 0), .int a1, .int a2, .int a3] (mw cy ad σ) r (mw cy ad σ) := x_start (Qc := fun A => (Qi D cy A r (mw cy ad σ))) (by decide) (Nat.le_of_ble_eq_true rfl) (fun p e s m below meth c A ls C hr hP hD hS hl => w_X8_next_0 C hr a1 a2 a3 h s.heap [] hP hD hS ls hl)
set_option maxHeartbeats 4000000 in
set_option maxRecDepth 100000 in
theorem w_X8_sum_5 (C : Cx p s m args meth c D cy tT tF A cX8_sum 5 RX8) (hr : meth.sig.returnType = some .int) {r : Int32} : ∀ (n : Nat) (v0 : Int32) (v1 : Int32) (v2 : Int32) (v3 : Int32) (v4 : Int32), b_X8_sum_5 n v0 v1 v2 v3 v4 = some r → ∀ (H : Heap) (locs : List Loc) (hP : va_P D vwCl ws H) (hD : va_D A ws) (hS : va_S A s.heap H locs) (ls : Array Slot) (hl : lv_has ls 5 [(0, .int v0), (1, .int v1), (2, .int v2), (3, .int v3), (4, .int v4)]), W p l e { frames := 1, cells := 0, slots := 0, locals := 23 } s m args below meth c H locs 0 0 (MQ below (Qi D cy A r ws) args s 0 0 A) (F0 m 5 ls []) := by
  obtain ⟨⟨hx, hb, hml, hown, hts⟩, hK, hT, hA, hlk⟩ := id C
  intro n
  induction n with
  | zero =>
    intro v0 v1 v2 v3 v4 h
    exact no_some h
  | succ n ih =>
    intro v0 v1 v2 v3 v4 h H locs hP hD hS ls hl
    rw [b_X8_sum_5] at h
    refine lv_iload hx hb dX8_sum_5 (lv_at hl 4 rfl) ?_
    refine lv_iload_n hx hb dX8_sum_7 rfl (lv_at hl 1 rfl) ?_
    refine lv_icmp_ge (tgt := 45) hx hb dX8_sum_8 (by decide) (fun q1 => ?_) (fun q1 => ?_)
    · have h := ifp q1 h
      refine lv_iload_n hx hb dX8_sum_45 rfl (lv_at hl 3 rfl) ?_
      have z1 := so_inj h
      subst z1
      exact x_iret C hr hP hD hS dX8_sum_46
    · have h := ifn q1 h
      refine lv_iload_n hx hb dX8_sum_11 rfl (lv_at hl 3 rfl) ?_
      refine lv_iload_n hx hb dX8_sum_12 rfl (lv_at hl 0 rfl) ?_
      refine lv_iload hx hb dX8_sum_13 (lv_at hl 4 rfl) ?_
      obtain ⟨r3, g2, h⟩ := cl_some h
      refine x_callSi (rest := [.int v3]) C hP hD hS (c_X8_has g2) (va_cwS 2 hts (gS mw18_16 mw18_17 mw1_5 mw18_18) rfl rfl rfl hdS_X8_has ⟨Nat.le_of_ble_eq_true rfl, Nat.le_of_ble_eq_true rfl⟩) rfl hl.1 rfl (Nat.le_of_ble_eq_true rfl) dX8_sum_15 ⟨Nat.zero_le _, Nat.zero_le _⟩ (fun H locs hP hD hS => ?_)
      refine lv_if_eq (tgt := 36) hx hb dX8_sum_18 (by decide) (fun q4 => ?_) (fun q4 => ?_)
      · have h := ifp q4 h
        refine lv_iconst (v := 0) hx hb dX8_sum_36 (by decide) ?_
        refine lv_iadd hx hb dX8_sum_37 ?_
        obtain ⟨x5, ex5, h⟩ := lt_some h
        refine x_ti ex5 ?_
        refine lv_istore_n (lv' := [(3, .int x5), (0, .int v0), (1, .int v1), (2, .int v2), (4, .int v4)]) hx hb dX8_sum_38 rfl hl (by decide) rfl (fun ls hl => ?_)
        obtain ⟨x6, ex6, h⟩ := lt_some h
        refine lv_iinc (v := x6) (lv' := [(4, .int x6), (3, .int x5), (0, .int v0), (1, .int v1), (2, .int v2)]) hx hb dX8_sum_39 hl (k := 4) rfl (by rw [ex6]; rfl) (by decide) rfl (fun ls hl => ?_)
        refine lv_goto (tgt := 5) hx hb dX8_sum_42 (by decide) ?_
        exact ih v0 v1 v2 x5 x6 h H locs hP hD hS ls (lv_sub hl [2, 3, 4, 1, 0] rfl)
      · have h := ifn q4 h
        refine lv_iload_n hx hb dX8_sum_21 rfl (lv_at hl 2 rfl) ?_
        refine lv_bipush (v := 10) hx hb dX8_sum_22 (by decide) ?_
        refine lv_iload hx hb dX8_sum_24 (lv_at hl 4 rfl) ?_
        obtain ⟨r8, g7, h⟩ := cl_some h
        refine x_callSi (rest := [.int v2, .int v3]) C hP hD hS (c_X8_power g7) (va_cwS 2 hts (gS mw22_15 mw22_16 mw1_5 mw22_17) rfl rfl rfl hdS_X8_power ⟨Nat.le_of_ble_eq_true rfl, Nat.le_of_ble_eq_true rfl⟩) rfl hl.1 rfl (Nat.le_of_ble_eq_true rfl) dX8_sum_26 ⟨Nat.zero_le _, Nat.zero_le _⟩ (fun H locs hP hD hS => ?_)
        obtain ⟨g9, h⟩ := dv_some h
        refine lv_idiv hx hb dX8_sum_29 g9 ?_
        refine lv_bipush (v := 10) hx hb dX8_sum_30 (by decide) ?_
        refine lv_irem hx hb dX8_sum_32 (by decide) ?_
        refine lv_goto (tgt := 37) hx hb dX8_sum_33 (by decide) ?_
        refine lv_iadd hx hb dX8_sum_37 ?_
        obtain ⟨x10, ex10, h⟩ := lt_some h
        refine x_ti ex10 ?_
        refine lv_istore_n (lv' := [(3, .int x10), (0, .int v0), (1, .int v1), (2, .int v2), (4, .int v4)]) hx hb dX8_sum_38 rfl hl (by decide) rfl (fun ls hl => ?_)
        obtain ⟨x11, ex11, h⟩ := lt_some h
        refine lv_iinc (v := x11) (lv' := [(4, .int x11), (3, .int x10), (0, .int v0), (1, .int v1), (2, .int v2)]) hx hb dX8_sum_39 hl (k := 4) rfl (by rw [ex11]; rfl) (by decide) rfl (fun ls hl => ?_)
        refine lv_goto (tgt := 5) hx hb dX8_sum_42 (by decide) ?_
        exact ih v0 v1 v2 x10 x11 h H locs hP hD hS ls (lv_sub hl [2, 3, 4, 1, 0] rfl)
set_option maxHeartbeats 4000000 in
set_option maxRecDepth 100000 in
theorem w_X8_sum_0 (C : Cx p s m args meth c D cy tT tF A cX8_sum 5 RX8) (hr : meth.sig.returnType = some .int) {r : Int32} (a0 : Int32) (a1 : Int32) (a2 : Int32) (h : b_X8_sum_0 a0 a1 a2 = some r) (H : Heap) (locs : List Loc) (hP : va_P D vwCl ws H) (hD : va_D A ws) (hS : va_S A s.heap H locs) (ls : Array Slot) (hl : lv_has ls 5 [(0, .int a0), (1, .int a1), (2, .int a2)]) : W p l e { frames := 1, cells := 0, slots := 0, locals := 23 } s m args below meth c H locs 0 0 (MQ below (Qi D cy A r ws) args s 0 0 A) (F0 m 0 ls []) := by
  obtain ⟨⟨hx, hb, hml, hown, hts⟩, hK, hT, hA, hlk⟩ := id C
  unfold b_X8_sum_0 at h
  refine lv_iconst (v := 0) hx hb dX8_sum_0 (by decide) ?_
  refine lv_istore_n (lv' := [(3, .int (0 : Int32)), (0, .int a0), (1, .int a1), (2, .int a2)]) hx hb dX8_sum_1 rfl hl (by decide) rfl (fun ls hl => ?_)
  refine lv_iconst (v := 0) hx hb dX8_sum_2 (by decide) ?_
  refine lv_istore (lv' := [(4, .int (0 : Int32)), (3, .int (0 : Int32)), (0, .int a0), (1, .int a1), (2, .int a2)]) hx hb dX8_sum_3 hl (by decide) rfl (fun ls hl => ?_)
  exact w_X8_sum_5 C hr FU a0 a1 a2 (0 : Int32) (0 : Int32) h H locs hP hD hS ls (lv_sub hl [2, 3, 4, 1, 0] rfl)
theorem c_X8_sum {l : Launch} {D : va_G} {cy : Nat → ClassId} {tT tF : Nat} {ws : va_W} {a0 : Int32} {a1 : Int32} {a2 : Int32} {r : Int32} (h : e_X8_sum a0 a1 a2 = some r) : CMi l yX8_sum (Cond.code yX8_sum cX8_sum 5 (some .int) :: wsL_law) { frames := 1, cells := 0, slots := 0, locals := 23 } D cy tT tF [.int a0, .int a1, .int a2] ws r ws := x_start (Qc := fun A => (Qi D cy A r ws)) (by decide) (Nat.le_of_ble_eq_true rfl) (fun p e s m below meth c A ls C hr hP hD hS hl => w_X8_sum_0 C hr a0 a1 a2 h s.heap [] hP hD hS ls hl)
set_option maxHeartbeats 4000000 in
set_option maxRecDepth 100000 in
theorem w_X8_cut_231 (C : Cx p s m args meth c D cy tT tF A cX8_cut 7 RX8) (hr : meth.sig.returnType = some .int) {r : Int32} {σ' : ES} {K129 : Int32 → Int32 → Int32 → Int32 → ES → Option (Int32 × ES)} (hK129 : ∀ (v1 : Int32) (v2 : Int32) (v3 : Int32) (v5 : Int32) (σ : ES), K129 v1 v2 v3 v5 σ = some (r, σ') → ∀ (H : Heap) (locs : List Loc), va_P D vwCl (mw cy ad σ) H → va_D A (mw cy ad σ) → va_S A s.heap H locs → ∀ ls : Array Slot, lv_has ls 7 [(0, .ref (ad 0)), (1, .int v1), (2, .int v2), (3, .int v3), (5, .int v5)] → W p l e { frames := 2, cells := 0, slots := 0, locals := 47 } s m args below meth c H locs 0 0 (MQ below (Qi D cy A r (mw cy ad σ')) args s 0 0 A) (F0 m 129 ls [])) {K149 : Int32 → Int32 → Int32 → Int32 → Int32 → ES → Option (Int32 × ES)} (hK149 : ∀ (v1 : Int32) (v2 : Int32) (v3 : Int32) (v5 : Int32) (v6 : Int32) (σ : ES), K149 v1 v2 v3 v5 v6 σ = some (r, σ') → ∀ (H : Heap) (locs : List Loc), va_P D vwCl (mw cy ad σ) H → va_D A (mw cy ad σ) → va_S A s.heap H locs → ∀ ls : Array Slot, lv_has ls 7 [(0, .ref (ad 0)), (1, .int v1), (2, .int v2), (3, .int v3), (5, .int v5), (6, .int v6)] → W p l e { frames := 2, cells := 0, slots := 0, locals := 47 } s m args below meth c H locs 0 0 (MQ below (Qi D cy A r (mw cy ad σ')) args s 0 0 A) (F0 m 149 ls [])) (v1 : Int32) (v2 : Int32) (v3 : Int32) (v5 : Int32) (v6 : Int32) (t1 : Int32) (t2 : Int32) (σ : ES) (h : b_X8_cut_231 K129 K149 v1 v2 v3 v5 v6 t1 t2 σ = some (r, σ')) (H : Heap) (locs : List Loc) (hP : va_P D vwCl (mw cy ad σ) H) (hD : va_D A (mw cy ad σ)) (hS : va_S A s.heap H locs) (ls : Array Slot) (hl : lv_has ls 7 [(0, .ref (ad 0)), (1, .int v1), (2, .int v2), (3, .int v3), (5, .int v5), (6, .int v6)]) : W p l e { frames := 2, cells := 0, slots := 0, locals := 47 } s m args below meth c H locs 0 0 (MQ below (Qi D cy A r (mw cy ad σ')) args s 0 0 A) (F0 m 231 ls [.int t2, .int t1, .ref (ad 19)]) := by
  obtain ⟨⟨hx, hb, hml, hown, hts⟩, hK, hT, hA, hlk⟩ := id C
  unfold b_X8_cut_231 at h
  obtain ⟨g1, σ2, eσ2, h⟩ := wr_some h
  refine x_ist C hP hD hS 19 mw_19 g1 (ma_19 eσ2) dX8_cut_231 (fun H locs hP hD hS => ?_)
  obtain ⟨x3, ex3, h⟩ := lt_some h
  refine lv_iinc (v := x3) (lv' := [(6, .int x3), (0, .ref (ad 0)), (1, .int v1), (2, .int v2), (3, .int v3), (5, .int v5)]) hx hb dX8_cut_232 hl (k := 5) rfl (by rw [ex3]; rfl) (by decide) rfl (fun ls hl => ?_)
  refine lv_goto (tgt := 149) hx hb dX8_cut_235 (by decide) ?_
  exact hK149 v1 v2 v3 v5 x3 σ2 h H locs hP hD hS ls (lv_sub hl [1, 2, 3, 4, 5, 0] rfl)
set_option maxHeartbeats 4000000 in
set_option maxRecDepth 100000 in
theorem w_X8_cut_149 (C : Cx p s m args meth c D cy tT tF A cX8_cut 7 RX8) (hr : meth.sig.returnType = some .int) {r : Int32} {σ' : ES} {K129 : Int32 → Int32 → Int32 → Int32 → ES → Option (Int32 × ES)} (hK129 : ∀ (v1 : Int32) (v2 : Int32) (v3 : Int32) (v5 : Int32) (σ : ES), K129 v1 v2 v3 v5 σ = some (r, σ') → ∀ (H : Heap) (locs : List Loc), va_P D vwCl (mw cy ad σ) H → va_D A (mw cy ad σ) → va_S A s.heap H locs → ∀ ls : Array Slot, lv_has ls 7 [(0, .ref (ad 0)), (1, .int v1), (2, .int v2), (3, .int v3), (5, .int v5)] → W p l e { frames := 2, cells := 0, slots := 0, locals := 47 } s m args below meth c H locs 0 0 (MQ below (Qi D cy A r (mw cy ad σ')) args s 0 0 A) (F0 m 129 ls [])) : ∀ (n : Nat) (v1 : Int32) (v2 : Int32) (v3 : Int32) (v5 : Int32) (v6 : Int32) (σ : ES), b_X8_cut_149 K129 n v1 v2 v3 v5 v6 σ = some (r, σ') → ∀ (H : Heap) (locs : List Loc) (hP : va_P D vwCl (mw cy ad σ) H) (hD : va_D A (mw cy ad σ)) (hS : va_S A s.heap H locs) (ls : Array Slot) (hl : lv_has ls 7 [(0, .ref (ad 0)), (1, .int v1), (2, .int v2), (3, .int v3), (5, .int v5), (6, .int v6)]), W p l e { frames := 2, cells := 0, slots := 0, locals := 47 } s m args below meth c H locs 0 0 (MQ below (Qi D cy A r (mw cy ad σ')) args s 0 0 A) (F0 m 149 ls []) := by
  obtain ⟨⟨hx, hb, hml, hown, hts⟩, hK, hT, hA, hlk⟩ := id C
  intro n
  induction n with
  | zero =>
    intro v1 v2 v3 v5 v6 σ h
    exact no_some h
  | succ n ih =>
    intro v1 v2 v3 v5 v6 σ h H locs hP hD hS ls hl
    rw [b_X8_cut_149] at h
    refine lv_iload hx hb dX8_cut_149 (lv_at hl 5 rfl) ?_
    refine lv_iload hx hb dX8_cut_151 (lv_at hl 4 rfl) ?_
    refine lv_icmp_gt (tgt := 238) hx hb dX8_cut_153 (by decide) (fun q1 => ?_) (fun q1 => ?_)
    · have h := ifp q1 h
      obtain ⟨x2, ex2, h⟩ := lt_some h
      refine lv_iinc (v := x2) (lv' := [(5, .int x2), (0, .ref (ad 0)), (1, .int v1), (2, .int v2), (3, .int v3), (6, .int v6)]) hx hb dX8_cut_238 hl (k := 4) rfl (by rw [ex2]; rfl) (by decide) rfl (fun ls hl => ?_)
      refine lv_goto (tgt := 129) hx hb dX8_cut_241 (by decide) ?_
      exact hK129 v1 v2 v3 x2 σ h H locs hP hD hS ls (lv_sub hl [1, 2, 3, 4, 0] rfl)
    · have h := ifn q1 h
      refine lv_iload hx hb dX8_cut_156 (lv_at hl 5 rfl) ?_
      refine lv_iload hx hb dX8_cut_158 (lv_at hl 4 rfl) ?_
      refine lv_iconst (v := -1) hx hb dX8_cut_160 (by decide) ?_
      refine lv_ixor hx hb dX8_cut_161 ?_
      refine lv_iand hx hb dX8_cut_162 ?_
      refine lv_if_ne (tgt := 232) hx hb dX8_cut_163 (by decide) (fun q3 => ?_) (fun q3 => ?_)
      · have h := ifn q3 h
        obtain ⟨x4, ex4, h⟩ := lt_some h
        refine lv_iinc (v := x4) (lv' := [(6, .int x4), (0, .ref (ad 0)), (1, .int v1), (2, .int v2), (3, .int v3), (5, .int v5)]) hx hb dX8_cut_232 hl (k := 5) rfl (by rw [ex4]; rfl) (by decide) rfl (fun ls hl => ?_)
        refine lv_goto (tgt := 149) hx hb dX8_cut_235 (by decide) ?_
        exact ih v1 v2 v3 v5 x4 σ h H locs hP hD hS ls (lv_sub hl [1, 2, 3, 4, 5, 0] rfl)
      · have h := ifp q3 h
        refine lv_iload hx hb dX8_cut_166 (lv_at hl 5 rfl) ?_
        refine lv_iload_n hx hb dX8_cut_168 rfl (lv_at hl 2 rfl) ?_
        refine lv_iload_n hx hb dX8_cut_169 rfl (lv_at hl 3 rfl) ?_
        obtain ⟨r6, g5, h⟩ := cl_some h
        refine x_callSi (rest := []) C hP hD hS (c_X8_sum g5) (va_cwS 3 hts (gS mw32_6 mw32_7 mw1_5 mw32_8) rfl rfl rfl hdS_X8_sum ⟨Nat.le_of_ble_eq_true rfl, Nat.le_of_ble_eq_true rfl⟩) rfl hl.1 rfl (Nat.le_of_ble_eq_true rfl) dX8_cut_170 ⟨Nat.zero_le _, Nat.zero_le _⟩ (fun H locs hP hD hS => ?_)
        refine lv_iload_n hx hb dX8_cut_173 rfl (lv_at hl 1 rfl) ?_
        refine lv_icmp_gt (tgt := 232) hx hb dX8_cut_174 (by decide) (fun q7 => ?_) (fun q7 => ?_)
        · have h := ifp q7 h
          obtain ⟨x8, ex8, h⟩ := lt_some h
          refine lv_iinc (v := x8) (lv' := [(6, .int x8), (0, .ref (ad 0)), (1, .int v1), (2, .int v2), (3, .int v3), (5, .int v5)]) hx hb dX8_cut_232 hl (k := 5) rfl (by rw [ex8]; rfl) (by decide) rfl (fun ls hl => ?_)
          refine lv_goto (tgt := 149) hx hb dX8_cut_235 (by decide) ?_
          exact ih v1 v2 v3 v5 x8 σ h H locs hP hD hS ls (lv_sub hl [1, 2, 3, 4, 5, 0] rfl)
        · have h := ifn q7 h
          refine lv_aload_n hx hb dX8_cut_177 rfl (lv_at hl 0 rfl) ?_
          refine x_get C hP inlX8 0 mw_0 rfl 30 (by decide) mw6_16 rfl dX8_cut_178 ?_
          refine lv_iload hx hb dX8_cut_181 (lv_at hl 4 rfl) ?_
          refine lv_aload_n hx hb dX8_cut_183 rfl (lv_at hl 0 rfl) ?_
          refine x_get C hP inlX8 0 mw_0 rfl 30 (by decide) mw6_16 rfl dX8_cut_184 ?_
          refine lv_iload hx hb dX8_cut_187 (lv_at hl 4 rfl) ?_
          refine lv_iload hx hb dX8_cut_189 (lv_at hl 5 rfl) ?_
          refine lv_iconst (v := -1) hx hb dX8_cut_191 (by decide) ?_
          refine lv_ixor hx hb dX8_cut_192 ?_
          refine lv_iand hx hb dX8_cut_193 ?_
          obtain ⟨g9, x10, ex10, h⟩ := rd_some h
          refine x_ild C hP 19 mw_19 g9 ex10 dX8_cut_194 ?_
          refine lv_iconst (v := 1) hx hb dX8_cut_195 (by decide) ?_
          refine lv_iadd hx hb dX8_cut_196 ?_
          refine lv_aload_n hx hb dX8_cut_197 rfl (lv_at hl 0 rfl) ?_
          refine x_get C hP inlX8 0 mw_0 rfl 30 (by decide) mw6_16 rfl dX8_cut_198 ?_
          refine lv_iload hx hb dX8_cut_201 (lv_at hl 4 rfl) ?_
          obtain ⟨g11, x12, ex12, h⟩ := rd_some h
          refine x_ild C hP 19 mw_19 g11 ex12 dX8_cut_203 ?_
          refine lv_icmp_ge (tgt := 224) hx hb dX8_cut_204 (by decide) (fun q13 => ?_) (fun q13 => ?_)
          · have h := ifp q13 h
            refine lv_aload_n hx hb dX8_cut_224 rfl (lv_at hl 0 rfl) ?_
            refine x_get C hP inlX8 0 mw_0 rfl 30 (by decide) mw6_16 rfl dX8_cut_225 ?_
            refine lv_iload hx hb dX8_cut_228 (lv_at hl 4 rfl) ?_
            obtain ⟨g14, x15, ex15, h⟩ := rd_some h
            refine x_ild C hP 19 mw_19 g14 ex15 dX8_cut_230 ?_
            exact w_X8_cut_231 C hr hK129 ih v1 v2 v3 v5 v6 v5 x15 σ h H locs hP hD hS ls (lv_sub hl [0, 1, 2, 3, 4, 5] rfl)
          · have h := ifn q13 h
            refine lv_aload_n hx hb dX8_cut_207 rfl (lv_at hl 0 rfl) ?_
            refine x_get C hP inlX8 0 mw_0 rfl 30 (by decide) mw6_16 rfl dX8_cut_208 ?_
            refine lv_iload hx hb dX8_cut_211 (lv_at hl 4 rfl) ?_
            refine lv_iload hx hb dX8_cut_213 (lv_at hl 5 rfl) ?_
            refine lv_iconst (v := -1) hx hb dX8_cut_215 (by decide) ?_
            refine lv_ixor hx hb dX8_cut_216 ?_
            refine lv_iand hx hb dX8_cut_217 ?_
            obtain ⟨g16, x17, ex17, h⟩ := rd_some h
            refine x_ild C hP 19 mw_19 g16 ex17 dX8_cut_218 ?_
            refine lv_iconst (v := 1) hx hb dX8_cut_219 (by decide) ?_
            refine lv_iadd hx hb dX8_cut_220 ?_
            refine lv_goto (tgt := 231) hx hb dX8_cut_221 (by decide) ?_
            exact w_X8_cut_231 C hr hK129 ih v1 v2 v3 v5 v6 v5 (x17 + (1 : Int32)) σ h H locs hP hD hS ls (lv_sub hl [0, 1, 2, 3, 4, 5] rfl)
set_option maxHeartbeats 4000000 in
set_option maxRecDepth 100000 in
theorem w_X8_cut_129 (C : Cx p s m args meth c D cy tT tF A cX8_cut 7 RX8) (hr : meth.sig.returnType = some .int) {r : Int32} {σ' : ES} : ∀ (n : Nat) (v1 : Int32) (v2 : Int32) (v3 : Int32) (v5 : Int32) (σ : ES), b_X8_cut_129 n v1 v2 v3 v5 σ = some (r, σ') → ∀ (H : Heap) (locs : List Loc) (hP : va_P D vwCl (mw cy ad σ) H) (hD : va_D A (mw cy ad σ)) (hS : va_S A s.heap H locs) (ls : Array Slot) (hl : lv_has ls 7 [(0, .ref (ad 0)), (1, .int v1), (2, .int v2), (3, .int v3), (5, .int v5)]), W p l e { frames := 2, cells := 0, slots := 0, locals := 47 } s m args below meth c H locs 0 0 (MQ below (Qi D cy A r (mw cy ad σ')) args s 0 0 A) (F0 m 129 ls []) := by
  obtain ⟨⟨hx, hb, hml, hown, hts⟩, hK, hT, hA, hlk⟩ := id C
  intro n
  induction n with
  | zero =>
    intro v1 v2 v3 v5 σ h
    exact no_some h
  | succ n ih =>
    intro v1 v2 v3 v5 σ h H locs hP hD hS ls hl
    rw [b_X8_cut_129] at h
    refine lv_iload hx hb dX8_cut_129 (lv_at hl 4 rfl) ?_
    refine lv_iconst (v := 1) hx hb dX8_cut_131 (by decide) ?_
    refine lv_iload_n hx hb dX8_cut_132 rfl (lv_at hl 2 rfl) ?_
    refine lv_ishl hx hb dX8_cut_133 ?_
    refine lv_icmp_ge (tgt := 244) hx hb dX8_cut_134 (by decide) (fun q1 => ?_) (fun q1 => ?_)
    · have h := ifp q1 h
      refine lv_aload_n hx hb dX8_cut_244 rfl (lv_at hl 0 rfl) ?_
      refine x_get C hP inlX8 0 mw_0 rfl 30 (by decide) mw6_16 rfl dX8_cut_245 ?_
      refine lv_iconst (v := 1) hx hb dX8_cut_248 (by decide) ?_
      refine lv_iload_n hx hb dX8_cut_249 rfl (lv_at hl 2 rfl) ?_
      refine lv_ishl hx hb dX8_cut_250 ?_
      refine lv_iconst (v := 1) hx hb dX8_cut_251 (by decide) ?_
      refine lv_isub hx hb dX8_cut_252 ?_
      obtain ⟨g2, x3, ex3, h⟩ := rd_some h
      refine x_ild C hP 19 mw_19 g2 ex3 dX8_cut_253 ?_
      obtain ⟨z1, z2⟩ := pr_inj h
      subst z1
      subst z2
      exact x_iret C hr hP hD hS dX8_cut_254
    · have h := ifn q1 h
      refine lv_aload_n hx hb dX8_cut_137 rfl (lv_at hl 0 rfl) ?_
      refine x_get C hP inlX8 0 mw_0 rfl 30 (by decide) mw6_16 rfl dX8_cut_138 ?_
      refine lv_iload hx hb dX8_cut_141 (lv_at hl 4 rfl) ?_
      refine lv_bipush (v := 99) hx hb dX8_cut_143 (by decide) ?_
      obtain ⟨g4, σ5, eσ5, h⟩ := wr_some h
      refine x_ist C hP hD hS 19 mw_19 g4 (ma_19 eσ5) dX8_cut_145 (fun H locs hP hD hS => ?_)
      refine lv_iconst (v := 1) hx hb dX8_cut_146 (by decide) ?_
      refine lv_istore (lv' := [(6, .int (1 : Int32)), (0, .ref (ad 0)), (1, .int v1), (2, .int v2), (3, .int v3), (5, .int v5)]) hx hb dX8_cut_147 hl (by decide) rfl (fun ls hl => ?_)
      exact w_X8_cut_149 C hr ih FU v1 v2 v3 v5 (1 : Int32) σ5 h H locs hP hD hS ls (lv_sub hl [1, 2, 3, 4, 5, 0] rfl)
set_option maxHeartbeats 4000000 in
set_option maxRecDepth 100000 in
theorem w_X8_cut_59 (C : Cx p s m args meth c D cy tT tF A cX8_cut 7 RX8) (hr : meth.sig.returnType = some .int) {r : Int32} {σ' : ES} : ∀ (n : Nat) (v1 : Int32) (v2 : Int32) (v3 : Int32) (v4 : Int32) (v5 : Int32) (σ : ES), b_X8_cut_59 n v1 v2 v3 v4 v5 σ = some (r, σ') → ∀ (H : Heap) (locs : List Loc) (hP : va_P D vwCl (mw cy ad σ) H) (hD : va_D A (mw cy ad σ)) (hS : va_S A s.heap H locs) (ls : Array Slot) (hl : lv_has ls 7 [(0, .ref (ad 0)), (1, .int v1), (2, .int v2), (3, .int v3), (4, .int v4), (5, .int v5)]), W p l e { frames := 2, cells := 0, slots := 0, locals := 47 } s m args below meth c H locs 0 0 (MQ below (Qi D cy A r (mw cy ad σ')) args s 0 0 A) (F0 m 59 ls []) := by
  obtain ⟨⟨hx, hb, hml, hown, hts⟩, hK, hT, hA, hlk⟩ := id C
  intro n
  induction n with
  | zero =>
    intro v1 v2 v3 v4 v5 σ h
    exact no_some h
  | succ n ih =>
    intro v1 v2 v3 v4 v5 σ h H locs hP hD hS ls hl
    rw [b_X8_cut_59] at h
    refine lv_iload hx hb dX8_cut_59 (lv_at hl 5 rfl) ?_
    refine lv_iload_n hx hb dX8_cut_61 rfl (lv_at hl 2 rfl) ?_
    refine lv_icmp_ge (tgt := 111) hx hb dX8_cut_62 (by decide) (fun q1 => ?_) (fun q1 => ?_)
    · have h := ifp q1 h
      refine lv_iload hx hb dX8_cut_111 (lv_at hl 4 rfl) ?_
      refine lv_if_ne (tgt := 119) hx hb dX8_cut_113 (by decide) (fun q2 => ?_) (fun q2 => ?_)
      · have h := ifn q2 h
        refine lv_aload_n hx hb dX8_cut_119 rfl (lv_at hl 0 rfl) ?_
        refine x_get C hP inlX8 0 mw_0 rfl 30 (by decide) mw6_16 rfl dX8_cut_120 ?_
        refine lv_iconst (v := 0) hx hb dX8_cut_123 (by decide) ?_
        refine lv_iconst (v := 0) hx hb dX8_cut_124 (by decide) ?_
        obtain ⟨g3, σ4, eσ4, h⟩ := wr_some h
        refine x_ist C hP hD hS 19 mw_19 g3 (ma_19 eσ4) dX8_cut_125 (fun H locs hP hD hS => ?_)
        refine lv_iconst (v := 1) hx hb dX8_cut_126 (by decide) ?_
        refine lv_istore (lv' := [(5, .int (1 : Int32)), (0, .ref (ad 0)), (1, .int v1), (2, .int v2), (3, .int v3), (4, .int v4)]) hx hb dX8_cut_127 hl (by decide) rfl (fun ls hl => ?_)
        exact w_X8_cut_129 C hr FU v1 v2 v3 (1 : Int32) σ4 h H locs hP hD hS ls (lv_sub hl [1, 2, 3, 4, 0] rfl)
      · have h := ifp q2 h
        refine lv_bipush (v := -9) hx hb dX8_cut_116 (by decide) ?_
        obtain ⟨z1, z2⟩ := pr_inj h
        subst z1
        subst z2
        exact x_iret C hr hP hD hS dX8_cut_118
    · have h := ifn q1 h
      refine lv_iload_n hx hb dX8_cut_65 rfl (lv_at hl 3 rfl) ?_
      refine lv_bipush (v := 10) hx hb dX8_cut_66 (by decide) ?_
      refine lv_iload hx hb dX8_cut_68 (lv_at hl 5 rfl) ?_
      obtain ⟨r6, g5, h⟩ := cl_some h
      refine x_callSi (rest := [.int v3]) C hP hD hS (c_X8_power g5) (va_cwS 2 hts (gS mw22_15 mw22_16 mw1_5 mw22_17) rfl rfl rfl hdS_X8_power ⟨Nat.le_of_ble_eq_true rfl, Nat.le_of_ble_eq_true rfl⟩) rfl hl.1 rfl (Nat.le_of_ble_eq_true rfl) dX8_cut_70 ⟨Nat.zero_le _, Nat.zero_le _⟩ (fun H locs hP hD hS => ?_)
      obtain ⟨g7, h⟩ := dv_some h
      refine lv_idiv hx hb dX8_cut_73 g7 ?_
      refine lv_bipush (v := 10) hx hb dX8_cut_74 (by decide) ?_
      refine lv_irem hx hb dX8_cut_76 (by decide) ?_
      obtain ⟨x8, ex8, h⟩ := lt_some h
      refine x_ti ex8 ?_
      refine lv_istore (lv' := [(6, .int x8), (0, .ref (ad 0)), (1, .int v1), (2, .int v2), (3, .int v3), (4, .int v4), (5, .int v5)]) hx hb dX8_cut_77 hl (by decide) rfl (fun ls hl => ?_)
      refine lv_iload hx hb dX8_cut_79 (lv_at hl 0 rfl) ?_
      refine lv_if_ne (tgt := 87) hx hb dX8_cut_81 (by decide) (fun q9 => ?_) (fun q9 => ?_)
      · have h := ifn q9 h
        refine lv_iload hx hb dX8_cut_87 (lv_at hl 5 rfl) ?_
        refine lv_if_eq (tgt := 102) hx hb dX8_cut_89 (by decide) (fun q10 => ?_) (fun q10 => ?_)
        · have h := ifp q10 h
          refine lv_iconst (v := 0) hx hb dX8_cut_102 (by decide) ?_
          refine lv_istore (lv' := [(4, .int (0 : Int32)), (6, .int x8), (0, .ref (ad 0)), (1, .int v1), (2, .int v2), (3, .int v3), (5, .int v5)]) hx hb dX8_cut_103 hl (by decide) rfl (fun ls hl => ?_)
          obtain ⟨x11, ex11, h⟩ := lt_some h
          refine lv_iinc (v := x11) (lv' := [(5, .int x11), (4, .int (0 : Int32)), (6, .int x8), (0, .ref (ad 0)), (1, .int v1), (2, .int v2), (3, .int v3)]) hx hb dX8_cut_105 hl (k := 6) rfl (by rw [ex11]; rfl) (by decide) rfl (fun ls hl => ?_)
          refine lv_goto (tgt := 59) hx hb dX8_cut_108 (by decide) ?_
          exact ih v1 v2 v3 (0 : Int32) x11 σ h H locs hP hD hS ls (lv_sub hl [3, 4, 5, 6, 1, 0] rfl)
        · have h := ifn q10 h
          refine lv_iload hx hb dX8_cut_92 (lv_at hl 0 rfl) ?_
          refine lv_iload_n hx hb dX8_cut_94 rfl (lv_at hl 2 rfl) ?_
          refine lv_icmp_gt (tgt := 102) hx hb dX8_cut_95 (by decide) (fun q12 => ?_) (fun q12 => ?_)
          · have h := ifp q12 h
            refine lv_iconst (v := 0) hx hb dX8_cut_102 (by decide) ?_
            refine lv_istore (lv' := [(4, .int (0 : Int32)), (6, .int x8), (0, .ref (ad 0)), (1, .int v1), (2, .int v2), (3, .int v3), (5, .int v5)]) hx hb dX8_cut_103 hl (by decide) rfl (fun ls hl => ?_)
            obtain ⟨x13, ex13, h⟩ := lt_some h
            refine lv_iinc (v := x13) (lv' := [(5, .int x13), (4, .int (0 : Int32)), (6, .int x8), (0, .ref (ad 0)), (1, .int v1), (2, .int v2), (3, .int v3)]) hx hb dX8_cut_105 hl (k := 6) rfl (by rw [ex13]; rfl) (by decide) rfl (fun ls hl => ?_)
            refine lv_goto (tgt := 59) hx hb dX8_cut_108 (by decide) ?_
            exact ih v1 v2 v3 (0 : Int32) x13 σ h H locs hP hD hS ls (lv_sub hl [3, 4, 5, 6, 1, 0] rfl)
          · have h := ifn q12 h
            refine lv_iconst (v := 1) hx hb dX8_cut_98 (by decide) ?_
            refine lv_goto (tgt := 103) hx hb dX8_cut_99 (by decide) ?_
            refine lv_istore (lv' := [(4, .int (1 : Int32)), (6, .int x8), (0, .ref (ad 0)), (1, .int v1), (2, .int v2), (3, .int v3), (5, .int v5)]) hx hb dX8_cut_103 hl (by decide) rfl (fun ls hl => ?_)
            obtain ⟨x14, ex14, h⟩ := lt_some h
            refine lv_iinc (v := x14) (lv' := [(5, .int x14), (4, .int (1 : Int32)), (6, .int x8), (0, .ref (ad 0)), (1, .int v1), (2, .int v2), (3, .int v3)]) hx hb dX8_cut_105 hl (k := 6) rfl (by rw [ex14]; rfl) (by decide) rfl (fun ls hl => ?_)
            refine lv_goto (tgt := 59) hx hb dX8_cut_108 (by decide) ?_
            exact ih v1 v2 v3 (1 : Int32) x14 σ h H locs hP hD hS ls (lv_sub hl [3, 4, 5, 6, 1, 0] rfl)
      · have h := ifp q9 h
        refine lv_bipush (v := -2) hx hb dX8_cut_84 (by decide) ?_
        obtain ⟨z1, z2⟩ := pr_inj h
        subst z1
        subst z2
        exact x_iret C hr hP hD hS dX8_cut_86
set_option maxHeartbeats 4000000 in
set_option maxRecDepth 100000 in
theorem w_X8_cut_0 (C : Cx p s m args meth c D cy tT tF A cX8_cut 7 RX8) (hr : meth.sig.returnType = some .int) {r : Int32} {σ' : ES} (a1 : Int32) (a2 : Int32) (a3 : Int32) (σ : ES) (h : b_X8_cut_0 a1 a2 a3 σ = some (r, σ')) (H : Heap) (locs : List Loc) (hP : va_P D vwCl (mw cy ad σ) H) (hD : va_D A (mw cy ad σ)) (hS : va_S A s.heap H locs) (ls : Array Slot) (hl : lv_has ls 7 [(0, .ref (ad 0)), (1, .int a1), (2, .int a2), (3, .int a3)]) : W p l e { frames := 2, cells := 0, slots := 0, locals := 47 } s m args below meth c H locs 0 0 (MQ below (Qi D cy A r (mw cy ad σ')) args s 0 0 A) (F0 m 0 ls []) := by
  obtain ⟨⟨hx, hb, hml, hown, hts⟩, hK, hT, hA, hlk⟩ := id C
  unfold b_X8_cut_0 at h
  refine lv_iload_n hx hb dX8_cut_0 rfl (lv_at hl 1 rfl) ?_
  refine lv_i2l hx hb dX8_cut_1 rfl ?_
  refine lv_lconst (v := 1) hx hb dX8_cut_2 (by decide) ?_
  refine lv_ldc2 (v := 30) hx hb hown (hts _ mw32_5) dX8_cut_3 ?_
  obtain ⟨r2, g1, h⟩ := cl_some h
  refine x_callSi (rest := []) C hP hD hS (c_X8_in g1) (va_cwS 3 hts (gS mw7_10 mw7_11 mw1_5 mw7_12) rfl rfl rfl hdS_X8_in ⟨Nat.le_of_ble_eq_true rfl, Nat.le_of_ble_eq_true rfl⟩) rfl hl.1 rfl (Nat.le_of_ble_eq_true rfl) dX8_cut_6 ⟨Nat.zero_le _, Nat.zero_le _⟩ (fun H locs hP hD hS => ?_)
  refine lv_if_eq (tgt := 50) hx hb dX8_cut_9 (by decide) (fun q3 => ?_) (fun q3 => ?_)
  · have h := ifp q3 h
    refine lv_bipush (v := -2) hx hb dX8_cut_50 (by decide) ?_
    obtain ⟨z1, z2⟩ := pr_inj h
    subst z1
    subst z2
    exact x_iret C hr hP hD hS dX8_cut_52
  · have h := ifn q3 h
    refine lv_iload_n hx hb dX8_cut_12 rfl (lv_at hl 2 rfl) ?_
    refine lv_i2l hx hb dX8_cut_13 rfl ?_
    refine lv_lconst (v := 1) hx hb dX8_cut_14 (by decide) ?_
    refine lv_ldc2 (v := 6) hx hb hown (hts _ mw30_22) dX8_cut_15 ?_
    obtain ⟨r5, g4, h⟩ := cl_some h
    refine x_callSi (rest := []) C hP hD hS (c_X8_in g4) (va_cwS 3 hts (gS mw7_10 mw7_11 mw1_5 mw7_12) rfl rfl rfl hdS_X8_in ⟨Nat.le_of_ble_eq_true rfl, Nat.le_of_ble_eq_true rfl⟩) rfl hl.1 rfl (Nat.le_of_ble_eq_true rfl) dX8_cut_18 ⟨Nat.zero_le _, Nat.zero_le _⟩ (fun H locs hP hD hS => ?_)
    refine lv_if_eq (tgt := 50) hx hb dX8_cut_21 (by decide) (fun q6 => ?_) (fun q6 => ?_)
    · have h := ifp q6 h
      refine lv_bipush (v := -2) hx hb dX8_cut_50 (by decide) ?_
      obtain ⟨z1, z2⟩ := pr_inj h
      subst z1
      subst z2
      exact x_iret C hr hP hD hS dX8_cut_52
    · have h := ifn q6 h
      refine lv_iload_n hx hb dX8_cut_24 rfl (lv_at hl 3 rfl) ?_
      refine lv_i2l hx hb dX8_cut_25 rfl ?_
      refine lv_bipush (v := 10) hx hb dX8_cut_26 (by decide) ?_
      refine lv_iload_n hx hb dX8_cut_28 rfl (lv_at hl 2 rfl) ?_
      refine lv_iconst (v := 1) hx hb dX8_cut_29 (by decide) ?_
      refine lv_isub hx hb dX8_cut_30 ?_
      obtain ⟨r8, g7, h⟩ := cl_some h
      refine x_callSi (rest := [.long (a3.toInt64)]) C hP hD hS (c_X8_power g7) (va_cwS 2 hts (gS mw22_15 mw22_16 mw1_5 mw22_17) rfl rfl rfl hdS_X8_power ⟨Nat.le_of_ble_eq_true rfl, Nat.le_of_ble_eq_true rfl⟩) rfl hl.1 rfl (Nat.le_of_ble_eq_true rfl) dX8_cut_31 ⟨Nat.zero_le _, Nat.zero_le _⟩ (fun H locs hP hD hS => ?_)
      refine lv_i2l hx hb dX8_cut_34 rfl ?_
      refine lv_bipush (v := 10) hx hb dX8_cut_35 (by decide) ?_
      refine lv_iload_n hx hb dX8_cut_37 rfl (lv_at hl 2 rfl) ?_
      obtain ⟨r10, g9, h⟩ := cl_some h
      refine x_callSi (rest := [.long (r8.toInt64), .long (a3.toInt64)]) C hP hD hS (c_X8_power g9) (va_cwS 2 hts (gS mw22_15 mw22_16 mw1_5 mw22_17) rfl rfl rfl hdS_X8_power ⟨Nat.le_of_ble_eq_true rfl, Nat.le_of_ble_eq_true rfl⟩) rfl hl.1 rfl (Nat.le_of_ble_eq_true rfl) dX8_cut_38 ⟨Nat.zero_le _, Nat.zero_le _⟩ (fun H locs hP hD hS => ?_)
      refine lv_iconst (v := 1) hx hb dX8_cut_41 (by decide) ?_
      refine lv_isub hx hb dX8_cut_42 ?_
      refine lv_i2l hx hb dX8_cut_43 rfl ?_
      obtain ⟨r12, g11, h⟩ := cl_some h
      refine x_callSi (rest := []) C hP hD hS (c_X8_in g11) (va_cwS 3 hts (gS mw7_10 mw7_11 mw1_5 mw7_12) rfl rfl rfl hdS_X8_in ⟨Nat.le_of_ble_eq_true rfl, Nat.le_of_ble_eq_true rfl⟩) rfl hl.1 rfl (Nat.le_of_ble_eq_true rfl) dX8_cut_44 ⟨Nat.zero_le _, Nat.zero_le _⟩ (fun H locs hP hD hS => ?_)
      refine lv_if_ne (tgt := 53) hx hb dX8_cut_47 (by decide) (fun q13 => ?_) (fun q13 => ?_)
      · have h := ifn q13 h
        refine lv_iconst (v := 1) hx hb dX8_cut_53 (by decide) ?_
        refine lv_istore (lv' := [(4, .int (1 : Int32)), (0, .ref (ad 0)), (1, .int a1), (2, .int a2), (3, .int a3)]) hx hb dX8_cut_54 hl (by decide) rfl (fun ls hl => ?_)
        refine lv_iconst (v := 0) hx hb dX8_cut_56 (by decide) ?_
        refine lv_istore (lv' := [(5, .int (0 : Int32)), (4, .int (1 : Int32)), (0, .ref (ad 0)), (1, .int a1), (2, .int a2), (3, .int a3)]) hx hb dX8_cut_57 hl (by decide) rfl (fun ls hl => ?_)
        exact w_X8_cut_59 C hr FU a1 a2 a3 (1 : Int32) (0 : Int32) σ h H locs hP hD hS ls (lv_sub hl [2, 3, 4, 5, 1, 0] rfl)
      · have h := ifp q13 h
        refine lv_bipush (v := -2) hx hb dX8_cut_50 (by decide) ?_
        obtain ⟨z1, z2⟩ := pr_inj h
        subst z1
        subst z2
        exact x_iret C hr hP hD hS dX8_cut_52
theorem c_X8_cut {l : Launch} {D : va_G} {cy : Nat → ClassId} {tT tF : Nat} {ad : Nat → Nat} {σ : ES} {a1 : Int32} {a2 : Int32} {a3 : Int32} {r : Int32} {σ' : ES} (h : e_X8_cut a1 a2 a3 σ = some (r, σ')) : CMi l yX8_cut (Cond.code yX8_cut cX8_cut 7 (some .int) :: wsL_law) { frames := 2, cells := 0, slots := 0, locals := 47 } D cy tT tF [.ref (ad 0), .int a1, .int a2, .int a3] (mw cy ad σ) r (mw cy ad σ') := x_start (Qc := fun A => (Qi D cy A r (mw cy ad σ'))) (by decide) (Nat.le_of_ble_eq_true rfl) (fun p e s m below meth c A ls C hr hP hD hS hl => w_X8_cut_0 C hr a1 a2 a3 σ h s.heap [] hP hD hS ls hl)
end WK4

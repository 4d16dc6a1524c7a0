section WK11
variable {p : Program} {l : Launch} {e : Env} {R : Room} {s : State} {m : MethodId} {args : Array Value} {below : List Frame} {meth : Method} {c : Code} {D : va_G} {cy : Nat → ClassId} {tT tF : Nat} {A : Nat → Prop} {ad : Nat → Nat} {ws : va_W}
set_option maxHeartbeats 4000000 in
set_option maxRecDepth 100000 in
theorem w_X1_canBeFrom_24_30_2 (C : Cx p s m args meth c D cy tT tF A cX1_canBeFrom 4 RX1) (hr : meth.sig.returnType = some .boolean) {r : Int32} {σ : ES} : ∀ (n : Nat) (v2 : Int32) (v3 : Int32), b_X1_canBeFrom_24_30_2 σ n v2 v3 = some r → ∀ (H : Heap) (locs : List Loc) (hP : va_P D vwCl (xw cy ad σ) H) (hD : va_D A (xw cy ad σ)) (hS : va_S A s.heap H locs) (ls : Array Slot) (hl : lv_has ls 4 [(0, .ref (ad 24)), (1, .ref (ad 30)), (2, .int v2), (3, .int v3)]), W p l e { frames := 1, cells := 0, slots := 0, locals := 21 } s m args below meth c H locs 0 0 (MQ below (Qi D cy A r (xw cy ad σ)) args s 0 0 A) (F0 m 2 ls []) := by
  obtain ⟨⟨hx, hb, hml, hown, hts⟩, hK, hT, hA, hlk⟩ := id C
  intro n
  induction n with
  | zero =>
    intro v2 v3 h
    exact no_some h
  | succ n ih =>
    intro v2 v3 h H locs hP hD hS ls hl
    rw [b_X1_canBeFrom_24_30_2] at h
    refine lv_iload_n hx hb dX1_canBeFrom_2 rfl (lv_at hl 3 rfl) ?_
    refine lv_aload_n hx hb dX1_canBeFrom_3 rfl (lv_at hl 0 rfl) ?_
    refine x_get C hP inlX1 24 xw_24 rfl 1 (by decide) mw4_21 rfl dX1_canBeFrom_4 ?_
    refine lv_icmp_ge (tgt := 34) hx hb dX1_canBeFrom_7 (by decide) (fun q1 => ?_) (fun q1 => ?_)
    · have h := ifp q1 h
      refine lv_iconst (v := 1) hx hb dX1_canBeFrom_34 (by decide) ?_
      have z1 := so_inj h
      subst z1
      exact x_zret C hr rfl hP hD hS dX1_canBeFrom_35
    · have h := ifn q1 h
      refine lv_aload_n hx hb dX1_canBeFrom_10 rfl (lv_at hl 1 rfl) ?_
      refine lv_iload_n hx hb dX1_canBeFrom_11 rfl (lv_at hl 2 rfl) ?_
      refine lv_iload_n hx hb dX1_canBeFrom_12 rfl (lv_at hl 3 rfl) ?_
      refine lv_iadd hx hb dX1_canBeFrom_13 ?_
      obtain ⟨r3, g2, h⟩ := cl_some h
      refine x_callVi (rest := []) C hP hD hS (c_X3_giftAt_30 g2) (cwV 1 hts (gV mw30_17 mw12_12 mw12_13 mw2_20 mw12_14) rfl rfl rfl hdV_X3_giftAt ⟨Nat.le_of_ble_eq_true rfl, Nat.le_of_ble_eq_true rfl⟩) xw_30 rfl rfl hl.1 rfl (Nat.le_of_ble_eq_true rfl) dX1_canBeFrom_14 ⟨Nat.zero_le _, Nat.zero_le _⟩ (fun H locs hP hD hS => ?_)
      refine lv_aload_n hx hb dX1_canBeFrom_17 rfl (lv_at hl 0 rfl) ?_
      refine x_get C hP inlX1 24 xw_24 rfl 0 (by decide) mw4_20 rfl dX1_canBeFrom_18 ?_
      refine lv_iload_n hx hb dX1_canBeFrom_21 rfl (lv_at hl 3 rfl) ?_
      obtain ⟨g4, x5, ex5, h⟩ := rd_some h
      refine x_ild C hP 25 xw_25 g4 ex5 dX1_canBeFrom_22 ?_
      refine lv_icmp_eq (tgt := 28) hx hb dX1_canBeFrom_23 (by decide) (fun q6 => ?_) (fun q6 => ?_)
      · have h := ifp q6 h
        obtain ⟨x7, ex7, h⟩ := lt_some h
        refine lv_iinc (v := x7) (lv' := [(3, .int x7), (0, .ref (ad 24)), (1, .ref (ad 30)), (2, .int v2)]) hx hb dX1_canBeFrom_28 hl (k := 3) rfl (by rw [ex7]; rfl) (by decide) rfl (fun ls hl => ?_)
        refine lv_goto (tgt := 2) hx hb dX1_canBeFrom_31 (by decide) ?_
        exact ih v2 x7 h H locs hP hD hS ls (lv_sub hl [1, 2, 3, 0] rfl)
      · have h := ifn q6 h
        refine lv_iconst (v := 0) hx hb dX1_canBeFrom_26 (by decide) ?_
        have z1 := so_inj h
        subst z1
        exact x_zret C hr rfl hP hD hS dX1_canBeFrom_27
set_option maxHeartbeats 4000000 in
set_option maxRecDepth 100000 in
theorem w_X1_canBeFrom_24_30_0 (C : Cx p s m args meth c D cy tT tF A cX1_canBeFrom 4 RX1) (hr : meth.sig.returnType = some .boolean) {r : Int32} {σ : ES} (a2 : Int32) (h : b_X1_canBeFrom_24_30_0 σ a2 = some r) (H : Heap) (locs : List Loc) (hP : va_P D vwCl (xw cy ad σ) H) (hD : va_D A (xw cy ad σ)) (hS : va_S A s.heap H locs) (ls : Array Slot) (hl : lv_has ls 4 [(0, .ref (ad 24)), (1, .ref (ad 30)), (2, .int a2)]) : W p l e { frames := 1, cells := 0, slots := 0, locals := 21 } s m args below meth c H locs 0 0 (MQ below (Qi D cy A r (xw cy ad σ)) args s 0 0 A) (F0 m 0 ls []) := by
  obtain ⟨⟨hx, hb, hml, hown, hts⟩, hK, hT, hA, hlk⟩ := id C
  unfold b_X1_canBeFrom_24_30_0 at h
  refine lv_iconst (v := 0) hx hb dX1_canBeFrom_0 (by decide) ?_
  refine lv_istore_n (lv' := [(3, .int (0 : Int32)), (0, .ref (ad 24)), (1, .ref (ad 30)), (2, .int a2)]) hx hb dX1_canBeFrom_1 rfl hl (by decide) rfl (fun ls hl => ?_)
  exact w_X1_canBeFrom_24_30_2 C hr FU a2 (0 : Int32) h H locs hP hD hS ls (lv_sub hl [1, 2, 3, 0] rfl)
theorem c_X1_canBeFrom_24_30 {l : Launch} {D : va_G} {cy : Nat → ClassId} {tT tF : Nat} {ad : Nat → Nat} {a2 : Int32} {r : Int32} {σ : ES} (h : e_X1_canBeFrom_24_30 a2 σ = some r) : CMi l yX1_canBeFrom (Cond.code yX1_canBeFrom cX1_canBeFrom 4 (some .boolean) :: wsL_law) { frames := 1, cells := 0, slots := 0, locals := 21 } D cy tT tF [.ref (ad 24), .ref (ad 30), .int a2] (xw cy ad σ) r (xw cy ad σ) := x_start (Qc := fun A => (Qi D cy A r (xw cy ad σ))) (by decide) (Nat.le_of_ble_eq_true rfl) (fun p e s m below meth c A ls C hr hP hD hS hl => w_X1_canBeFrom_24_30_0 C hr a2 h s.heap [] hP hD hS ls hl)
set_option maxHeartbeats 4000000 in
set_option maxRecDepth 100000 in
theorem w_X1_origins_24_30_5 (C : Cx p s m args meth c D cy tT tF A cX1_origins 5 RX1) (hr : meth.sig.returnType = some .int) {r : Int32} {σ : ES} : ∀ (n : Nat) (v2 : Int32) (v3 : Int32) (v4 : Int32), b_X1_origins_24_30_5 σ n v2 v3 v4 = some r → ∀ (H : Heap) (locs : List Loc) (hP : va_P D vwCl (xw cy ad σ) H) (hD : va_D A (xw cy ad σ)) (hS : va_S A s.heap H locs) (ls : Array Slot) (hl : lv_has ls 5 [(0, .ref (ad 24)), (1, .ref (ad 30)), (2, .int v2), (3, .int v3), (4, .int v4)]), W p l e { frames := 2, cells := 0, slots := 0, locals := 44 } s m args below meth c H locs 0 0 (MQ below (Qi D cy A r (xw cy ad σ)) args s 0 0 A) (F0 m 5 ls []) := by
  obtain ⟨⟨hx, hb, hml, hown, hts⟩, hK, hT, hA, hlk⟩ := id C
  intro n
  induction n with
  | zero =>
    intro v2 v3 v4 h
    exact no_some h
  | succ n ih =>
    intro v2 v3 v4 h H locs hP hD hS ls hl
    rw [b_X1_origins_24_30_5] at h
    refine lv_aload_n hx hb dX1_origins_5 rfl (lv_at hl 0 rfl) ?_
    refine x_get C hP inlX1 24 xw_24 rfl 1 (by decide) mw4_21 rfl dX1_origins_6 ?_
    refine lv_iload_n hx hb dX1_origins_9 rfl (lv_at hl 2 rfl) ?_
    refine lv_icmp_gt (tgt := 47) hx hb dX1_origins_10 (by decide) (fun q1 => ?_) (fun q1 => ?_)
    · have h := ifp q1 h
      refine lv_iload_n hx hb dX1_origins_47 rfl (lv_at hl 3 rfl) ?_
      have z1 := so_inj h
      subst z1
      exact x_iret C hr hP hD hS dX1_origins_48
    · have h := ifn q1 h
      refine lv_iload hx hb dX1_origins_13 (lv_at hl 4 rfl) ?_
      refine lv_iload_n hx hb dX1_origins_15 rfl (lv_at hl 2 rfl) ?_
      refine lv_iadd hx hb dX1_origins_16 ?_
      refine lv_aload_n hx hb dX1_origins_17 rfl (lv_at hl 1 rfl) ?_
      refine x_get C hP inlX3 30 xw_30 rfl 8 (by decide) mw30_12 rfl dX1_origins_18 ?_
      refine lv_icmp_gt (tgt := 47) hx hb dX1_origins_21 (by decide) (fun q2 => ?_) (fun q2 => ?_)
      · have h := ifp q2 h
        refine lv_iload_n hx hb dX1_origins_47 rfl (lv_at hl 3 rfl) ?_
        have z1 := so_inj h
        subst z1
        exact x_iret C hr hP hD hS dX1_origins_48
      · have h := ifn q2 h
        refine lv_aload_n hx hb dX1_origins_24 rfl (lv_at hl 0 rfl) ?_
        refine lv_aload_n hx hb dX1_origins_25 rfl (lv_at hl 1 rfl) ?_
        refine lv_iload hx hb dX1_origins_26 (lv_at hl 4 rfl) ?_
        obtain ⟨r4, g3, h⟩ := cl_some h
        refine x_callVi (rest := []) C hP hD hS (c_X1_canBeFrom_24_30 g3) (cwV 2 hts (gV mw30_13 mw30_14 mw30_15 mw2_8 mw30_16) rfl rfl rfl hdV_X1_canBeFrom ⟨Nat.le_of_ble_eq_true rfl, Nat.le_of_ble_eq_true rfl⟩) xw_24 rfl rfl hl.1 rfl (Nat.le_of_ble_eq_true rfl) dX1_origins_28 ⟨Nat.zero_le _, Nat.zero_le _⟩ (fun H locs hP hD hS => ?_)
        refine lv_if_eq (tgt := 41) hx hb dX1_origins_31 (by decide) (fun q5 => ?_) (fun q5 => ?_)
        · have h := ifp q5 h
          obtain ⟨x6, ex6, h⟩ := lt_some h
          refine lv_iinc (v := x6) (lv' := [(4, .int x6), (0, .ref (ad 24)), (1, .ref (ad 30)), (2, .int v2), (3, .int v3)]) hx hb dX1_origins_41 hl (k := 4) rfl (by rw [ex6]; rfl) (by decide) rfl (fun ls hl => ?_)
          refine lv_goto (tgt := 5) hx hb dX1_origins_44 (by decide) ?_
          exact ih v2 v3 x6 h H locs hP hD hS ls (lv_sub hl [1, 2, 3, 4, 0] rfl)
        · have h := ifn q5 h
          refine lv_iload_n hx hb dX1_origins_34 rfl (lv_at hl 3 rfl) ?_
          refine lv_iconst (v := 1) hx hb dX1_origins_35 (by decide) ?_
          refine lv_iload hx hb dX1_origins_36 (lv_at hl 4 rfl) ?_
          refine lv_ishl hx hb dX1_origins_38 ?_
          refine lv_ior hx hb dX1_origins_39 ?_
          obtain ⟨x7, ex7, h⟩ := lt_some h
          refine x_ti ex7 ?_
          refine lv_istore_n (lv' := [(3, .int x7), (0, .ref (ad 24)), (1, .ref (ad 30)), (2, .int v2), (4, .int v4)]) hx hb dX1_origins_40 rfl hl (by decide) rfl (fun ls hl => ?_)
          obtain ⟨x8, ex8, h⟩ := lt_some h
          refine lv_iinc (v := x8) (lv' := [(4, .int x8), (3, .int x7), (0, .ref (ad 24)), (1, .ref (ad 30)), (2, .int v2)]) hx hb dX1_origins_41 hl (k := 4) rfl (by rw [ex8]; rfl) (by decide) rfl (fun ls hl => ?_)
          refine lv_goto (tgt := 5) hx hb dX1_origins_44 (by decide) ?_
          exact ih v2 x7 x8 h H locs hP hD hS ls (lv_sub hl [2, 3, 4, 1, 0] rfl)
set_option maxHeartbeats 4000000 in
set_option maxRecDepth 100000 in
theorem w_X1_origins_24_30_0 (C : Cx p s m args meth c D cy tT tF A cX1_origins 5 RX1) (hr : meth.sig.returnType = some .int) {r : Int32} {σ : ES} (a2 : Int32) (h : b_X1_origins_24_30_0 σ a2 = some r) (H : Heap) (locs : List Loc) (hP : va_P D vwCl (xw cy ad σ) H) (hD : va_D A (xw cy ad σ)) (hS : va_S A s.heap H locs) (ls : Array Slot) (hl : lv_has ls 5 [(0, .ref (ad 24)), (1, .ref (ad 30)), (2, .int a2)]) : W p l e { frames := 2, cells := 0, slots := 0, locals := 44 } s m args below meth c H locs 0 0 (MQ below (Qi D cy A r (xw cy ad σ)) args s 0 0 A) (F0 m 0 ls []) := by
  obtain ⟨⟨hx, hb, hml, hown, hts⟩, hK, hT, hA, hlk⟩ := id C
  unfold b_X1_origins_24_30_0 at h
  refine lv_iconst (v := 0) hx hb dX1_origins_0 (by decide) ?_
  refine lv_istore_n (lv' := [(3, .int (0 : Int32)), (0, .ref (ad 24)), (1, .ref (ad 30)), (2, .int a2)]) hx hb dX1_origins_1 rfl hl (by decide) rfl (fun ls hl => ?_)
  refine lv_iconst (v := 0) hx hb dX1_origins_2 (by decide) ?_
  refine lv_istore (lv' := [(4, .int (0 : Int32)), (3, .int (0 : Int32)), (0, .ref (ad 24)), (1, .ref (ad 30)), (2, .int a2)]) hx hb dX1_origins_3 hl (by decide) rfl (fun ls hl => ?_)
  exact w_X1_origins_24_30_5 C hr FU a2 (0 : Int32) (0 : Int32) h H locs hP hD hS ls (lv_sub hl [2, 3, 4, 1, 0] rfl)
theorem c_X1_origins_24_30 {l : Launch} {D : va_G} {cy : Nat → ClassId} {tT tF : Nat} {ad : Nat → Nat} {a2 : Int32} {r : Int32} {σ : ES} (h : e_X1_origins_24_30 a2 σ = some r) : CMi l yX1_origins (Cond.code yX1_origins cX1_origins 5 (some .int) :: wsL_law) { frames := 2, cells := 0, slots := 0, locals := 44 } D cy tT tF [.ref (ad 24), .ref (ad 30), .int a2] (xw cy ad σ) r (xw cy ad σ) := x_start (Qc := fun A => (Qi D cy A r (xw cy ad σ))) (by decide) (Nat.le_of_ble_eq_true rfl) (fun p e s m below meth c A ls C hr hP hD hS hl => w_X1_origins_24_30_0 C hr a2 h s.heap [] hP hD hS ls hl)
set_option maxHeartbeats 4000000 in
set_option maxRecDepth 100000 in
theorem w_X7_from_0_0 (C : Cx p s m args meth c D cy tT tF A cX7_from 2 RX7) (hr : meth.sig.returnType = some .int) {r : Int32} {σ : ES} (a1 : Int32) (h : b_X7_from_0_0 σ a1 = some r) (H : Heap) (locs : List Loc) (hP : va_P D vwCl (xw cy ad σ) H) (hD : va_D A (xw cy ad σ)) (hS : va_S A s.heap H locs) (ls : Array Slot) (hl : lv_has ls 2 [(0, .ref (ad 0)), (1, .int a1)]) : W p l e { frames := 3, cells := 0, slots := 0, locals := 68 } s m args below meth c H locs 0 0 (MQ below (Qi D cy A r (xw cy ad σ)) args s 0 0 A) (F0 m 0 ls []) := by
  obtain ⟨⟨hx, hb, hml, hown, hts⟩, hK, hT, hA, hlk⟩ := id C
  unfold b_X7_from_0_0 at h
  refine lv_iload_n hx hb dX7_from_0 rfl (lv_at hl 1 rfl) ?_
  refine lv_iconst (v := 1) hx hb dX7_from_1 (by decide) ?_
  refine lv_icmp_lt (tgt := 11) hx hb dX7_from_2 (by decide) (fun q1 => ?_) (fun q1 => ?_)
  · have h := ifp q1 h
    refine lv_bipush (v := -2) hx hb dX7_from_11 (by decide) ?_
    refine lv_goto (tgt := 28) hx hb dX7_from_13 (by decide) ?_
    have z1 := so_inj h
    subst z1
    exact x_iret C hr hP hD hS dX7_from_28
  · have h := ifn q1 h
    refine lv_iload_n hx hb dX7_from_5 rfl (lv_at hl 1 rfl) ?_
    refine lv_bipush (v := 6) hx hb dX7_from_6 (by decide) ?_
    refine lv_icmp_le (tgt := 16) hx hb dX7_from_8 (by decide) (fun q2 => ?_) (fun q2 => ?_)
    · have h := ifp q2 h
      refine lv_aload_n hx hb dX7_from_16 rfl (lv_at hl 0 rfl) ?_
      refine x_get C hP inlX7 0 xw_0 rfl 5 (by decide) mw2_9 rfl dX7_from_17 ?_
      refine lv_aload_n hx hb dX7_from_20 rfl (lv_at hl 0 rfl) ?_
      refine x_get C hP inlX7 0 xw_0 rfl 9 (by decide) mw2_21 rfl dX7_from_21 ?_
      refine lv_iload_n hx hb dX7_from_24 rfl (lv_at hl 1 rfl) ?_
      obtain ⟨r4, g3, h⟩ := cl_some h
      refine x_callVi (rest := []) C hP hD hS (c_X1_origins_24_30 g3) (cwV 2 hts (gV mw30_8 mw30_9 mw30_10 mw2_8 mw30_11) rfl rfl rfl hdV_X1_origins ⟨Nat.le_of_ble_eq_true rfl, Nat.le_of_ble_eq_true rfl⟩) xw_24 rfl rfl hl.1 rfl (Nat.le_of_ble_eq_true rfl) dX7_from_25 ⟨Nat.zero_le _, Nat.zero_le _⟩ (fun H locs hP hD hS => ?_)
      have z1 := so_inj h
      subst z1
      exact x_iret C hr hP hD hS dX7_from_28
    · have h := ifn q2 h
      refine lv_bipush (v := -2) hx hb dX7_from_11 (by decide) ?_
      refine lv_goto (tgt := 28) hx hb dX7_from_13 (by decide) ?_
      have z1 := so_inj h
      subst z1
      exact x_iret C hr hP hD hS dX7_from_28
theorem c_X7_from_0 {l : Launch} {D : va_G} {cy : Nat → ClassId} {tT tF : Nat} {ad : Nat → Nat} {a1 : Int32} {r : Int32} {σ : ES} (h : e_X7_from_0 a1 σ = some r) : CMi l yX7_from (Cond.code yX7_from cX7_from 2 (some .int) :: wsL_law) { frames := 3, cells := 0, slots := 0, locals := 68 } D cy tT tF [.ref (ad 0), .int a1] (xw cy ad σ) r (xw cy ad σ) := x_start (Qc := fun A => (Qi D cy A r (xw cy ad σ))) (by decide) (Nat.le_of_ble_eq_true rfl) (fun p e s m below meth c A ls C hr hP hD hS hl => w_X7_from_0_0 C hr a1 h s.heap [] hP hD hS ls hl)
set_option maxHeartbeats 4000000 in
set_option maxRecDepth 100000 in
theorem w_X7_next_0_62 (C : Cx p s m args meth c D cy tT tF A cX7_next 7 RX7) (hr : meth.sig.returnType = some .int) {r : Int32} {σ : ES} : ∀ (n : Nat) (v2 : Int32) (v3 : Int32) (v4 : Int32) (v5 : Int32) (v6 : Int32), b_X7_next_0_62 σ n v2 v3 v4 v5 v6 = some r → ∀ (H : Heap) (locs : List Loc) (hP : va_P D vwCl (xw cy ad σ) H) (hD : va_D A (xw cy ad σ)) (hS : va_S A s.heap H locs) (ls : Array Slot) (hl : lv_has ls 7 [(0, .ref (ad 0)), (2, .int v2), (3, .int v3), (4, .int v4), (5, .int v5), (6, .int v6)]), W p l e { frames := 3, cells := 0, slots := 0, locals := 68 } s m args below meth c H locs 0 0 (MQ below (Qi D cy A r (xw cy ad σ)) args s 0 0 A) (F0 m 62 ls []) := by
  obtain ⟨⟨hx, hb, hml, hown, hts⟩, hK, hT, hA, hlk⟩ := id C
  intro n
  induction n with
  | zero =>
    intro v2 v3 v4 v5 v6 h
    exact no_some h
  | succ n ih =>
    intro v2 v3 v4 v5 v6 h H locs hP hD hS ls hl
    rw [b_X7_next_0_62] at h
    refine lv_iload hx hb dX7_next_62 (lv_at hl 5 rfl) ?_
    refine lv_aload_n hx hb dX7_next_64 rfl (lv_at hl 0 rfl) ?_
    refine x_get C hP inlX7 0 xw_0 rfl 9 (by decide) mw2_21 rfl dX7_next_65 ?_
    refine x_get C hP inlX3 30 xw_30 rfl 8 (by decide) mw12_10 rfl dX7_next_68 ?_
    refine lv_icmp_ge (tgt := 115) hx hb dX7_next_71 (by decide) (fun q1 => ?_) (fun q1 => ?_)
    · have h := ifp q1 h
      refine lv_iload hx hb dX7_next_115 (lv_at hl 4 rfl) ?_
      refine lv_iload hx hb dX7_next_117 (lv_at hl 3 rfl) ?_
      obtain ⟨r3, g2, h⟩ := cl_some h
      refine x_callSi (rest := [.int v5]) C hP hD hS (c_J6_bitCount g2) (va_cwS 1 hts (gS mw15_19 mw15_20 mw15_21 mw15_22) rfl rfl rfl hdS_J6_bitCount ⟨Nat.le_of_ble_eq_true rfl, Nat.le_of_ble_eq_true rfl⟩) rfl hl.1 rfl (Nat.le_of_ble_eq_true rfl) dX7_next_119 ⟨Nat.zero_le _, Nat.zero_le _⟩ (fun H locs hP hD hS => ?_)
      refine lv_iload_n hx hb dX7_next_122 rfl (lv_at hl 2 rfl) ?_
      obtain ⟨r5, g4, h⟩ := cl_some h
      refine x_callSi (rest := []) C hP hD hS (c_X7_fraction g4) (va_cwS 3 hts (gS mw24_14 mw24_15 mw1_2 mw24_16) rfl rfl rfl hdS_X7_fraction ⟨Nat.le_of_ble_eq_true rfl, Nat.le_of_ble_eq_true rfl⟩) rfl hl.1 rfl (Nat.le_of_ble_eq_true rfl) dX7_next_123 ⟨Nat.zero_le _, Nat.zero_le _⟩ (fun H locs hP hD hS => ?_)
      have z1 := so_inj h
      subst z1
      exact x_iret C hr hP hD hS dX7_next_126
    · have h := ifn q1 h
      refine lv_iload hx hb dX7_next_74 (lv_at hl 3 rfl) ?_
      refine lv_iload hx hb dX7_next_76 (lv_at hl 5 rfl) ?_
      refine lv_ishr hx hb dX7_next_78 ?_
      refine lv_iconst (v := 1) hx hb dX7_next_79 (by decide) ?_
      refine lv_iand hx hb dX7_next_80 ?_
      refine lv_iconst (v := 1) hx hb dX7_next_81 (by decide) ?_
      refine lv_icmp_ne (tgt := 109) hx hb dX7_next_82 (by decide) (fun q6 => ?_) (fun q6 => ?_)
      · have h := ifn q6 h
        obtain ⟨x7, ex7, h⟩ := lt_some h
        refine lv_iinc (v := x7) (lv' := [(6, .int x7), (0, .ref (ad 0)), (2, .int v2), (3, .int v3), (4, .int v4), (5, .int v5)]) hx hb dX7_next_109 hl (k := 5) rfl (by rw [ex7]; rfl) (by decide) rfl (fun ls hl => ?_)
        refine lv_goto (tgt := 62) hx hb dX7_next_112 (by decide) ?_
        exact ih v2 v3 v4 v5 x7 h H locs hP hD hS ls (lv_sub hl [1, 2, 3, 4, 5, 0] rfl)
      · have h := ifp q6 h
        refine lv_aload_n hx hb dX7_next_85 rfl (lv_at hl 0 rfl) ?_
        refine x_get C hP inlX7 0 xw_0 rfl 9 (by decide) mw2_21 rfl dX7_next_86 ?_
        refine lv_iload hx hb dX7_next_89 (lv_at hl 5 rfl) ?_
        refine lv_aload_n hx hb dX7_next_91 rfl (lv_at hl 0 rfl) ?_
        refine x_get C hP inlX7 0 xw_0 rfl 5 (by decide) mw2_9 rfl dX7_next_92 ?_
        refine x_get C hP inlX1 24 xw_24 rfl 1 (by decide) mw31_7 rfl dX7_next_95 ?_
        refine lv_iadd hx hb dX7_next_98 ?_
        obtain ⟨r9, g8, h⟩ := cl_some h
        refine x_callVi (rest := []) C hP hD hS (c_X3_giftAt_30 g8) (cwV 1 hts (gV mw12_11 mw12_12 mw12_13 mw2_20 mw12_14) rfl rfl rfl hdV_X3_giftAt ⟨Nat.le_of_ble_eq_true rfl, Nat.le_of_ble_eq_true rfl⟩) xw_30 rfl rfl hl.1 rfl (Nat.le_of_ble_eq_true rfl) dX7_next_99 ⟨Nat.zero_le _, Nat.zero_le _⟩ (fun H locs hP hD hS => ?_)
        refine lv_iload_n hx hb dX7_next_102 rfl (lv_at hl 1 rfl) ?_
        refine lv_icmp_ne (tgt := 109) hx hb dX7_next_103 (by decide) (fun q10 => ?_) (fun q10 => ?_)
        · have h := ifn q10 h
          obtain ⟨x11, ex11, h⟩ := lt_some h
          refine lv_iinc (v := x11) (lv' := [(6, .int x11), (0, .ref (ad 0)), (2, .int v2), (3, .int v3), (4, .int v4), (5, .int v5)]) hx hb dX7_next_109 hl (k := 5) rfl (by rw [ex11]; rfl) (by decide) rfl (fun ls hl => ?_)
          refine lv_goto (tgt := 62) hx hb dX7_next_112 (by decide) ?_
          exact ih v2 v3 v4 v5 x11 h H locs hP hD hS ls (lv_sub hl [1, 2, 3, 4, 5, 0] rfl)
        · have h := ifp q10 h
          obtain ⟨x12, ex12, h⟩ := lt_some h
          refine lv_iinc (v := x12) (lv' := [(5, .int x12), (0, .ref (ad 0)), (2, .int v2), (3, .int v3), (4, .int v4), (6, .int v6)]) hx hb dX7_next_106 hl (k := 4) rfl (by rw [ex12]; rfl) (by decide) rfl (fun ls hl => ?_)
          obtain ⟨x13, ex13, h⟩ := lt_some h
          refine lv_iinc (v := x13) (lv' := [(6, .int x13), (5, .int x12), (0, .ref (ad 0)), (2, .int v2), (3, .int v3), (4, .int v4)]) hx hb dX7_next_109 hl (k := 5) rfl (by rw [ex13]; rfl) (by decide) rfl (fun ls hl => ?_)
          refine lv_goto (tgt := 62) hx hb dX7_next_112 (by decide) ?_
          exact ih v2 v3 v4 x12 x13 h H locs hP hD hS ls (lv_sub hl [2, 3, 4, 5, 1, 0] rfl)
set_option maxHeartbeats 4000000 in
set_option maxRecDepth 100000 in
theorem w_X7_next_0_0 (C : Cx p s m args meth c D cy tT tF A cX7_next 7 RX7) (hr : meth.sig.returnType = some .int) {r : Int32} {σ : ES} (a1 : Int32) (a2 : Int32) (a3 : Int32) (h : b_X7_next_0_0 σ a1 a2 a3 = some r) (H : Heap) (locs : List Loc) (hP : va_P D vwCl (xw cy ad σ) H) (hD : va_D A (xw cy ad σ)) (hS : va_S A s.heap H locs) (ls : Array Slot) (hl : lv_has ls 7 [(0, .ref (ad 0)), (1, .int a1), (2, .int a2), (3, .int a3)]) : W p l e { frames := 3, cells := 0, slots := 0, locals := 68 } s m args below meth c H locs 0 0 (MQ below (Qi D cy A r (xw cy ad σ)) args s 0 0 A) (F0 m 0 ls []) := by
  obtain ⟨⟨hx, hb, hml, hown, hts⟩, hK, hT, hA, hlk⟩ := id C
  unfold b_X7_next_0_0 at h
  refine lv_iload_n hx hb dX7_next_0 rfl (lv_at hl 1 rfl) ?_
  refine lv_iconst (v := 1) hx hb dX7_next_1 (by decide) ?_
  refine lv_icmp_lt (tgt := 20) hx hb dX7_next_2 (by decide) (fun q1 => ?_) (fun q1 => ?_)
  · have h := ifp q1 h
    refine lv_bipush (v := -2) hx hb dX7_next_20 (by decide) ?_
    have z1 := so_inj h
    subst z1
    exact x_iret C hr hP hD hS dX7_next_22
  · have h := ifn q1 h
    refine lv_iload_n hx hb dX7_next_5 rfl (lv_at hl 1 rfl) ?_
    refine lv_bipush (v := 6) hx hb dX7_next_6 (by decide) ?_
    refine lv_icmp_gt (tgt := 20) hx hb dX7_next_8 (by decide) (fun q2 => ?_) (fun q2 => ?_)
    · have h := ifp q2 h
      refine lv_bipush (v := -2) hx hb dX7_next_20 (by decide) ?_
      have z1 := so_inj h
      subst z1
      exact x_iret C hr hP hD hS dX7_next_22
    · have h := ifn q2 h
      refine lv_iload_n hx hb dX7_next_11 rfl (lv_at hl 2 rfl) ?_
      refine lv_if_lt (tgt := 20) hx hb dX7_next_12 (by decide) (fun q3 => ?_) (fun q3 => ?_)
      · have h := ifp q3 h
        refine lv_bipush (v := -2) hx hb dX7_next_20 (by decide) ?_
        have z1 := so_inj h
        subst z1
        exact x_iret C hr hP hD hS dX7_next_22
      · have h := ifn q3 h
        refine lv_iload_n hx hb dX7_next_15 rfl (lv_at hl 2 rfl) ?_
        refine lv_iconst (v := 4) hx hb dX7_next_16 (by decide) ?_
        refine lv_icmp_le (tgt := 23) hx hb dX7_next_17 (by decide) (fun q4 => ?_) (fun q4 => ?_)
        · have h := ifp q4 h
          refine lv_aload_n hx hb dX7_next_23 rfl (lv_at hl 0 rfl) ?_
          refine x_get C hP inlX7 0 xw_0 rfl 5 (by decide) mw2_9 rfl dX7_next_24 ?_
          refine lv_aload_n hx hb dX7_next_27 rfl (lv_at hl 0 rfl) ?_
          refine x_get C hP inlX7 0 xw_0 rfl 9 (by decide) mw2_21 rfl dX7_next_28 ?_
          refine lv_iload_n hx hb dX7_next_31 rfl (lv_at hl 1 rfl) ?_
          obtain ⟨r6, g5, h⟩ := cl_some h
          refine x_callVi (rest := []) C hP hD hS (c_X1_origins_24_30 g5) (cwV 2 hts (gV mw30_8 mw30_9 mw30_10 mw2_8 mw30_11) rfl rfl rfl hdV_X1_origins ⟨Nat.le_of_ble_eq_true rfl, Nat.le_of_ble_eq_true rfl⟩) xw_24 rfl rfl hl.1 rfl (Nat.le_of_ble_eq_true rfl) dX7_next_32 ⟨Nat.zero_le _, Nat.zero_le _⟩ (fun H locs hP hD hS => ?_)
          refine lv_istore (lv' := [(4, .int r6), (0, .ref (ad 0)), (1, .int a1), (2, .int a2), (3, .int a3)]) hx hb dX7_next_35 hl (by decide) rfl (fun ls hl => ?_)
          refine lv_iload hx hb dX7_next_37 (lv_at hl 0 rfl) ?_
          refine lv_if_eq (tgt := 53) hx hb dX7_next_39 (by decide) (fun q7 => ?_) (fun q7 => ?_)
          · have h := ifp q7 h
            refine lv_bipush (v := -3) hx hb dX7_next_53 (by decide) ?_
            have z1 := so_inj h
            subst z1
            exact x_iret C hr hP hD hS dX7_next_55
          · have h := ifn q7 h
            refine lv_aload_n hx hb dX7_next_42 rfl (lv_at hl 1 rfl) ?_
            refine x_get C hP inlX7 0 xw_0 rfl 5 (by decide) mw2_9 rfl dX7_next_43 ?_
            refine x_get C hP inlX1 24 xw_24 rfl 1 (by decide) mw31_7 rfl dX7_next_46 ?_
            refine lv_iload_n hx hb dX7_next_49 rfl (lv_at hl 2 rfl) ?_
            refine lv_icmp_lt (tgt := 56) hx hb dX7_next_50 (by decide) (fun q8 => ?_) (fun q8 => ?_)
            · have h := ifp q8 h
              refine lv_iconst (v := 0) hx hb dX7_next_56 (by decide) ?_
              refine lv_istore (lv' := [(5, .int (0 : Int32)), (4, .int r6), (0, .ref (ad 0)), (1, .int a1), (2, .int a2), (3, .int a3)]) hx hb dX7_next_57 hl (by decide) rfl (fun ls hl => ?_)
              refine lv_iconst (v := 0) hx hb dX7_next_59 (by decide) ?_
              refine lv_istore (lv' := [(6, .int (0 : Int32)), (5, .int (0 : Int32)), (4, .int r6), (0, .ref (ad 0)), (1, .int a1), (2, .int a2), (3, .int a3)]) hx hb dX7_next_60 hl (by decide) rfl (fun ls hl => ?_)
              exact w_X7_next_0_62 C hr FU a2 a3 r6 (0 : Int32) (0 : Int32) h H locs hP hD hS ls (lv_sub hl [3, 5, 6, 2, 1, 0] rfl)
            · have h := ifn q8 h
              refine lv_bipush (v := -3) hx hb dX7_next_53 (by decide) ?_
              have z1 := so_inj h
              subst z1
              exact x_iret C hr hP hD hS dX7_next_55
        · have h := ifn q4 h
          refine lv_bipush (v := -2) hx hb dX7_next_20 (by decide) ?_
          have z1 := so_inj h
          subst z1
          exact x_iret C hr hP hD hS dX7_next_22
theorem c_X7_next_0 {l : Launch} {D : va_G} {cy : Nat → ClassId} {tT tF : Nat} {ad : Nat → Nat} {a1 : Int32} {a2 : Int32} {a3 : Int32} {r : Int32} {σ : ES} (h : e_X7_next_0 a1 a2 a3 σ = some r) : CMi l yX7_next (Cond.code yX7_next cX7_next 7 (some .int) :: wsL_law) { frames := 3, cells := 0, slots := 0, locals := 68 } D cy tT tF [.ref (ad 0), .int a1, .int a2, .int a3] (xw cy ad σ) r (xw cy ad σ) := x_start (Qc := fun A => (Qi D cy A r (xw cy ad σ))) (by decide) (Nat.le_of_ble_eq_true rfl) (fun p e s m below meth c A ls C hr hP hD hS hl => w_X7_next_0_0 C hr a1 a2 a3 h s.heap [] hP hD hS ls hl)
set_option maxHeartbeats 4000000 in
set_option maxRecDepth 100000 in
theorem w_X5_withOrder_0 (C : Cx p s m args meth c D cy tT tF A cX5_withOrder 4 RX5) (hr : meth.sig.returnType = some .int) {r : Int32} (a0 : Int32) (a1 : Int32) (a2 : Int32) (h : b_X5_withOrder_0 a0 a1 a2 = some r) (H : Heap) (locs : List Loc) (hP : va_P D vwCl ws H) (hD : va_D A ws) (hS : va_S A s.heap H locs) (ls : Array Slot) (hl : lv_has ls 4 [(0, .int a0), (1, .int a1), (2, .int a2)]) : W p l e { frames := 0, cells := 0, slots := 0, locals := 0 } s m args below meth c H locs 0 0 (MQ below (Qi D cy A r ws) args s 0 0 A) (F0 m 0 ls []) := by
  obtain ⟨⟨hx, hb, hml, hown, hts⟩, hK, hT, hA, hlk⟩ := id C
  unfold b_X5_withOrder_0 at h
  refine lv_iload_n hx hb dX5_withOrder_0 rfl (lv_at hl 0 rfl) ?_
  refine lv_bipush (v := 32) hx hb dX5_withOrder_1 (by decide) ?_
  refine lv_irem hx hb dX5_withOrder_3 (by decide) ?_
  obtain ⟨x1, ex1, h⟩ := lt_some h
  refine x_ti ex1 ?_
  refine lv_istore_n (lv' := [(3, .int x1), (0, .int a0), (1, .int a1), (2, .int a2)]) hx hb dX5_withOrder_4 rfl hl (by decide) rfl (fun ls hl => ?_)
  refine lv_iload_n hx hb dX5_withOrder_5 rfl (lv_at hl 0 rfl) ?_
  refine lv_iload_n hx hb dX5_withOrder_6 rfl (lv_at hl 2 rfl) ?_
  refine lv_iadd hx hb dX5_withOrder_7 ?_
  refine lv_iload_n hx hb dX5_withOrder_8 rfl (lv_at hl 3 rfl) ?_
  refine lv_icmp_gt (tgt := 18) hx hb dX5_withOrder_9 (by decide) (fun q2 => ?_) (fun q2 => ?_)
  · have h := ifp q2 h
    refine lv_iload_n hx hb dX5_withOrder_18 rfl (lv_at hl 1 rfl) ?_
    refine lv_bipush (v := 32) hx hb dX5_withOrder_19 (by decide) ?_
    refine lv_idiv hx hb dX5_withOrder_21 (by decide) ?_
    refine lv_iconst (v := 1) hx hb dX5_withOrder_22 (by decide) ?_
    refine lv_iadd hx hb dX5_withOrder_23 ?_
    refine lv_bipush (v := 32) hx hb dX5_withOrder_24 (by decide) ?_
    refine lv_imul hx hb dX5_withOrder_26 ?_
    refine lv_iload_n hx hb dX5_withOrder_27 rfl (lv_at hl 2 rfl) ?_
    refine lv_iadd hx hb dX5_withOrder_28 ?_
    have z1 := so_inj h
    subst z1
    exact x_iret C hr hP hD hS dX5_withOrder_29
  · have h := ifn q2 h
    refine lv_iload_n hx hb dX5_withOrder_12 rfl (lv_at hl 1 rfl) ?_
    refine lv_iload_n hx hb dX5_withOrder_13 rfl (lv_at hl 2 rfl) ?_
    refine lv_iadd hx hb dX5_withOrder_14 ?_
    refine lv_goto (tgt := 29) hx hb dX5_withOrder_15 (by decide) ?_
    have z1 := so_inj h
    subst z1
    exact x_iret C hr hP hD hS dX5_withOrder_29
theorem c_X5_withOrder {l : Launch} {D : va_G} {cy : Nat → ClassId} {tT tF : Nat} {ws : va_W} {a0 : Int32} {a1 : Int32} {a2 : Int32} {r : Int32} (h : e_X5_withOrder a0 a1 a2 = some r) : CMi l yX5_withOrder (Cond.code yX5_withOrder cX5_withOrder 4 (some .int) :: wsL_law) { frames := 0, cells := 0, slots := 0, locals := 0 } D cy tT tF [.int a0, .int a1, .int a2] ws r ws := x_start (Qc := fun A => (Qi D cy A r ws)) (by decide) (Nat.le_of_ble_eq_true rfl) (fun p e s m below meth c A ls C hr hP hD hS hl => w_X5_withOrder_0 C hr a0 a1 a2 h s.heap [] hP hD hS ls hl)
set_option maxHeartbeats 4000000 in
set_option maxRecDepth 100000 in
theorem w_X5_fewest_26_121 (C : Cx p s m args meth c D cy tT tF A cX5_fewest 8 RX5) (hr : meth.sig.returnType = some .int) {r : Int32} {σ' : ES} (v4 : Int32) (σ : ES) (h : b_X5_fewest_26_121 v4 σ = some (r, σ')) (H : Heap) (locs : List Loc) (hP : va_P D vwCl (xw cy ad σ) H) (hD : va_D A (xw cy ad σ)) (hS : va_S A s.heap H locs) (ls : Array Slot) (hl : lv_has ls 8 [(0, .ref (ad 26)), (4, .int v4)]) : W p l e { frames := 1, cells := 0, slots := 0, locals := 23 } s m args below meth c H locs 0 0 (MQ below (Qi D cy A r (xw cy ad σ')) args s 0 0 A) (F0 m 121 ls []) := by
  obtain ⟨⟨hx, hb, hml, hown, hts⟩, hK, hT, hA, hlk⟩ := id C
  unfold b_X5_fewest_26_121 at h
  refine lv_aload_n hx hb dX5_fewest_121 rfl (lv_at hl 0 rfl) ?_
  refine x_get C hP inlX5 26 xw_26 rfl 0 (by decide) mw5_2 rfl dX5_fewest_122 ?_
  refine lv_iload hx hb dX5_fewest_125 (lv_at hl 1 rfl) ?_
  obtain ⟨g1, x2, ex2, h⟩ := rd_some h
  refine x_ild C hP 27 xw_27 g1 ex2 dX5_fewest_127 ?_
  refine lv_bipush (v := 32) hx hb dX5_fewest_128 (by decide) ?_
  refine lv_idiv hx hb dX5_fewest_130 (by decide) ?_
  obtain ⟨z1, z2⟩ := pr_inj h
  subst z1
  subst z2
  exact x_iret C hr hP hD hS dX5_fewest_131
set_option maxHeartbeats 4000000 in
set_option maxRecDepth 100000 in
theorem w_X5_fewest_26_46 (C : Cx p s m args meth c D cy tT tF A cX5_fewest 8 RX5) (hr : meth.sig.returnType = some .int) {r : Int32} {σ' : ES} {K17 : Int32 → Int32 → Int32 → Int32 → Int32 → ES → Option (Int32 × ES)} (hK17 : ∀ (v1 : Int32) (v2 : Int32) (v3 : Int32) (v4 : Int32) (v5 : Int32) (σ : ES), K17 v1 v2 v3 v4 v5 σ = some (r, σ') → ∀ (H : Heap) (locs : List Loc), va_P D vwCl (xw cy ad σ) H → va_D A (xw cy ad σ) → va_S A s.heap H locs → ∀ ls : Array Slot, lv_has ls 8 [(0, .ref (ad 26)), (1, .int v1), (2, .int v2), (3, .int v3), (4, .int v4), (5, .int v5)] → W p l e { frames := 1, cells := 0, slots := 0, locals := 23 } s m args below meth c H locs 0 0 (MQ below (Qi D cy A r (xw cy ad σ')) args s 0 0 A) (F0 m 17 ls [])) : ∀ (n : Nat) (v1 : Int32) (v2 : Int32) (v3 : Int32) (v4 : Int32) (v5 : Int32) (v6 : Int32) (σ : ES), b_X5_fewest_26_46 K17 n v1 v2 v3 v4 v5 v6 σ = some (r, σ') → ∀ (H : Heap) (locs : List Loc) (hP : va_P D vwCl (xw cy ad σ) H) (hD : va_D A (xw cy ad σ)) (hS : va_S A s.heap H locs) (ls : Array Slot) (hl : lv_has ls 8 [(0, .ref (ad 26)), (1, .int v1), (2, .int v2), (3, .int v3), (4, .int v4), (5, .int v5), (6, .int v6)]), W p l e { frames := 1, cells := 0, slots := 0, locals := 23 } s m args below meth c H locs 0 0 (MQ below (Qi D cy A r (xw cy ad σ')) args s 0 0 A) (F0 m 46 ls []) := by
  obtain ⟨⟨hx, hb, hml, hown, hts⟩, hK, hT, hA, hlk⟩ := id C
  intro n
  induction n with
  | zero =>
    intro v1 v2 v3 v4 v5 v6 σ h
    exact no_some h
  | succ n ih =>
    intro v1 v2 v3 v4 v5 v6 σ h H locs hP hD hS ls hl
    rw [b_X5_fewest_26_46] at h
    refine lv_iload hx hb dX5_fewest_46 (lv_at hl 6 rfl) ?_
    refine lv_iload_n hx hb dX5_fewest_48 rfl (lv_at hl 2 rfl) ?_
    refine lv_icmp_ge (tgt := 115) hx hb dX5_fewest_49 (by decide) (fun q1 => ?_) (fun q1 => ?_)
    · have h := ifp q1 h
      obtain ⟨x2, ex2, h⟩ := lt_some h
      refine lv_iinc (v := x2) (lv' := [(5, .int x2), (0, .ref (ad 26)), (1, .int v1), (2, .int v2), (3, .int v3), (4, .int v4), (6, .int v6)]) hx hb dX5_fewest_115 hl (k := 5) rfl (by rw [ex2]; rfl) (by decide) rfl (fun ls hl => ?_)
      refine lv_goto (tgt := 17) hx hb dX5_fewest_118 (by decide) ?_
      exact hK17 v1 v2 v3 v4 x2 σ h H locs hP hD hS ls (lv_sub hl [1, 2, 3, 4, 5, 0] rfl)
    · have h := ifn q1 h
      refine lv_iload hx hb dX5_fewest_52 (lv_at hl 5 rfl) ?_
      refine lv_iload hx hb dX5_fewest_54 (lv_at hl 6 rfl) ?_
      refine lv_ishr hx hb dX5_fewest_56 ?_
      refine lv_iconst (v := 1) hx hb dX5_fewest_57 (by decide) ?_
      refine lv_iand hx hb dX5_fewest_58 ?_
      refine lv_iconst (v := 1) hx hb dX5_fewest_59 (by decide) ?_
      refine lv_icmp_ne (tgt := 109) hx hb dX5_fewest_60 (by decide) (fun q3 => ?_) (fun q3 => ?_)
      · have h := ifn q3 h
        obtain ⟨x4, ex4, h⟩ := lt_some h
        refine lv_iinc (v := x4) (lv' := [(6, .int x4), (0, .ref (ad 26)), (1, .int v1), (2, .int v2), (3, .int v3), (4, .int v4), (5, .int v5)]) hx hb dX5_fewest_109 hl (k := 6) rfl (by rw [ex4]; rfl) (by decide) rfl (fun ls hl => ?_)
        refine lv_goto (tgt := 46) hx hb dX5_fewest_112 (by decide) ?_
        exact ih v1 v2 v3 v4 v5 x4 σ h H locs hP hD hS ls (lv_sub hl [1, 2, 3, 4, 5, 6, 0] rfl)
      · have h := ifp q3 h
        refine lv_aload_n hx hb dX5_fewest_63 rfl (lv_at hl 0 rfl) ?_
        refine x_get C hP inlX5 26 xw_26 rfl 0 (by decide) mw5_2 rfl dX5_fewest_64 ?_
        refine lv_iload hx hb dX5_fewest_67 (lv_at hl 5 rfl) ?_
        refine lv_iconst (v := 1) hx hb dX5_fewest_69 (by decide) ?_
        refine lv_iload hx hb dX5_fewest_70 (lv_at hl 6 rfl) ?_
        refine lv_ishl hx hb dX5_fewest_72 ?_
        refine lv_iconst (v := -1) hx hb dX5_fewest_73 (by decide) ?_
        refine lv_ixor hx hb dX5_fewest_74 ?_
        refine lv_iand hx hb dX5_fewest_75 ?_
        obtain ⟨g5, x6, ex6, h⟩ := rd_some h
        refine x_ild C hP 27 xw_27 g5 ex6 dX5_fewest_76 ?_
        refine lv_iload_n hx hb dX5_fewest_77 rfl (lv_at hl 3 rfl) ?_
        refine lv_iload_n hx hb dX5_fewest_78 rfl (lv_at hl 2 rfl) ?_
        refine lv_iload hx hb dX5_fewest_79 (lv_at hl 6 rfl) ?_
        obtain ⟨r8, g7, h⟩ := cl_some h
        refine x_callNi (rest := [.int x6]) C hP hD hS (c_X7_figure g7) ⟨va_cnB 3 hts (gC mw27_9) rfl rfl rfl hT.2.2.2.2.2 (hts _ mw1_2) hdS_X7_figure ⟨Nat.le_of_ble_eq_true rfl, Nat.le_of_ble_eq_true rfl⟩, hts _ mw27_8, trivial⟩ rfl hl.1 rfl (Nat.le_of_ble_eq_true rfl) dX5_fewest_81 ⟨Nat.zero_le _, Nat.zero_le _⟩ (fun H locs hP hD hS => ?_)
        refine lv_iload_n hx hb dX5_fewest_84 rfl (lv_at hl 1 rfl) ?_
        obtain ⟨r10, g9, h⟩ := cl_some h
        refine x_callSi (rest := []) C hP hD hS (c_X5_withOrder g9) (va_cwS 3 hts (gS mw31_22 mw31_23 mw2_12 mw32_0) rfl rfl rfl hdS_X5_withOrder ⟨Nat.le_of_ble_eq_true rfl, Nat.le_of_ble_eq_true rfl⟩) rfl hl.1 rfl (Nat.le_of_ble_eq_true rfl) dX5_fewest_85 ⟨Nat.zero_le _, Nat.zero_le _⟩ (fun H locs hP hD hS => ?_)
        refine lv_istore (lv' := [(7, .int r10), (0, .ref (ad 26)), (1, .int v1), (2, .int v2), (3, .int v3), (4, .int v4), (5, .int v5), (6, .int v6)]) hx hb dX5_fewest_88 hl (by decide) rfl (fun ls hl => ?_)
        refine lv_aload_n hx hb dX5_fewest_90 rfl (lv_at hl 1 rfl) ?_
        refine x_get C hP inlX5 26 xw_26 rfl 0 (by decide) mw5_2 rfl dX5_fewest_91 ?_
        refine lv_iload hx hb dX5_fewest_94 (lv_at hl 6 rfl) ?_
        refine lv_aload_n hx hb dX5_fewest_96 rfl (lv_at hl 1 rfl) ?_
        refine x_get C hP inlX5 26 xw_26 rfl 0 (by decide) mw5_2 rfl dX5_fewest_97 ?_
        refine lv_iload hx hb dX5_fewest_100 (lv_at hl 6 rfl) ?_
        obtain ⟨g11, x12, ex12, h⟩ := rd_some h
        refine x_ild C hP 27 xw_27 g11 ex12 dX5_fewest_102 ?_
        refine lv_iload hx hb dX5_fewest_103 (lv_at hl 0 rfl) ?_
        refine x_min C hl.1 mw31_21 mw9_10 mw9_11 mw9_12 (Nat.le_of_ble_eq_true rfl) (Nat.le_of_ble_eq_true rfl) ⟨Nat.zero_le _, Nat.zero_le _⟩ dX5_fewest_105 ?_
        obtain ⟨g13, σ14, eσ14, h⟩ := wr_some h
        refine x_ist C hP hD hS 27 xw_27 g13 (xa_27 eσ14) dX5_fewest_108 (fun H locs hP hD hS => ?_)
        obtain ⟨x15, ex15, h⟩ := lt_some h
        refine lv_iinc (v := x15) (lv' := [(6, .int x15), (7, .int r10), (0, .ref (ad 26)), (1, .int v1), (2, .int v2), (3, .int v3), (4, .int v4), (5, .int v5)]) hx hb dX5_fewest_109 hl (k := 7) rfl (by rw [ex15]; rfl) (by decide) rfl (fun ls hl => ?_)
        refine lv_goto (tgt := 46) hx hb dX5_fewest_112 (by decide) ?_
        exact ih v1 v2 v3 v4 v5 x15 σ14 h H locs hP hD hS ls (lv_sub hl [2, 3, 4, 5, 6, 7, 0] rfl)
set_option maxHeartbeats 4000000 in
set_option maxRecDepth 100000 in
theorem w_X5_fewest_26_17 (C : Cx p s m args meth c D cy tT tF A cX5_fewest 8 RX5) (hr : meth.sig.returnType = some .int) {r : Int32} {σ' : ES} : ∀ (n : Nat) (v1 : Int32) (v2 : Int32) (v3 : Int32) (v4 : Int32) (v5 : Int32) (σ : ES), b_X5_fewest_26_17 n v1 v2 v3 v4 v5 σ = some (r, σ') → ∀ (H : Heap) (locs : List Loc) (hP : va_P D vwCl (xw cy ad σ) H) (hD : va_D A (xw cy ad σ)) (hS : va_S A s.heap H locs) (ls : Array Slot) (hl : lv_has ls 8 [(0, .ref (ad 26)), (1, .int v1), (2, .int v2), (3, .int v3), (4, .int v4), (5, .int v5)]), W p l e { frames := 1, cells := 0, slots := 0, locals := 23 } s m args below meth c H locs 0 0 (MQ below (Qi D cy A r (xw cy ad σ')) args s 0 0 A) (F0 m 17 ls []) := by
  obtain ⟨⟨hx, hb, hml, hown, hts⟩, hK, hT, hA, hlk⟩ := id C
  intro n
  induction n with
  | zero =>
    intro v1 v2 v3 v4 v5 σ h
    exact no_some h
  | succ n ih =>
    intro v1 v2 v3 v4 v5 σ h H locs hP hD hS ls hl
    rw [b_X5_fewest_26_17] at h
    refine lv_iload hx hb dX5_fewest_17 (lv_at hl 5 rfl) ?_
    refine lv_iload hx hb dX5_fewest_19 (lv_at hl 4 rfl) ?_
    refine lv_icmp_gt (tgt := 121) hx hb dX5_fewest_21 (by decide) (fun q1 => ?_) (fun q1 => ?_)
    · have h := ifp q1 h
      exact w_X5_fewest_26_121 C hr v4 σ h H locs hP hD hS ls (lv_sub hl [0, 4] rfl)
    · have h := ifn q1 h
      refine lv_iload hx hb dX5_fewest_24 (lv_at hl 5 rfl) ?_
      refine lv_aload_n hx hb dX5_fewest_26 rfl (lv_at hl 0 rfl) ?_
      refine x_get C hP inlX5 26 xw_26 rfl 0 (by decide) mw5_2 rfl dX5_fewest_27 ?_
      refine x_alen C hP 27 xw_27 (v := 64) rfl dX5_fewest_30 ?_
      refine lv_icmp_ge (tgt := 121) hx hb dX5_fewest_31 (by decide) (fun q2 => ?_) (fun q2 => ?_)
      · have h := ifp q2 h
        exact w_X5_fewest_26_121 C hr v4 σ h H locs hP hD hS ls (lv_sub hl [0, 4] rfl)
      · have h := ifn q2 h
        refine lv_aload_n hx hb dX5_fewest_34 rfl (lv_at hl 0 rfl) ?_
        refine x_get C hP inlX5 26 xw_26 rfl 0 (by decide) mw5_2 rfl dX5_fewest_35 ?_
        refine lv_iload hx hb dX5_fewest_38 (lv_at hl 5 rfl) ?_
        refine lv_ldc (v := 1000000) hx hb hown (hts _ mw31_20) dX5_fewest_40 ?_
        obtain ⟨g3, σ4, eσ4, h⟩ := wr_some h
        refine x_ist C hP hD hS 27 xw_27 g3 (xa_27 eσ4) dX5_fewest_42 (fun H locs hP hD hS => ?_)
        refine lv_iconst (v := 0) hx hb dX5_fewest_43 (by decide) ?_
        refine lv_istore (lv' := [(6, .int (0 : Int32)), (0, .ref (ad 26)), (1, .int v1), (2, .int v2), (3, .int v3), (4, .int v4), (5, .int v5)]) hx hb dX5_fewest_44 hl (by decide) rfl (fun ls hl => ?_)
        exact w_X5_fewest_26_46 C hr ih FU v1 v2 v3 v4 v5 (0 : Int32) σ4 h H locs hP hD hS ls (lv_sub hl [1, 2, 3, 4, 5, 6, 0] rfl)
set_option maxHeartbeats 4000000 in
set_option maxRecDepth 100000 in
theorem w_X5_fewest_26_0 (C : Cx p s m args meth c D cy tT tF A cX5_fewest 8 RX5) (hr : meth.sig.returnType = some .int) {r : Int32} {σ' : ES} (a1 : Int32) (a2 : Int32) (a3 : Int32) (σ : ES) (h : b_X5_fewest_26_0 a1 a2 a3 σ = some (r, σ')) (H : Heap) (locs : List Loc) (hP : va_P D vwCl (xw cy ad σ) H) (hD : va_D A (xw cy ad σ)) (hS : va_S A s.heap H locs) (ls : Array Slot) (hl : lv_has ls 8 [(0, .ref (ad 26)), (1, .int a1), (2, .int a2), (3, .int a3)]) : W p l e { frames := 1, cells := 0, slots := 0, locals := 23 } s m args below meth c H locs 0 0 (MQ below (Qi D cy A r (xw cy ad σ')) args s 0 0 A) (F0 m 0 ls []) := by
  obtain ⟨⟨hx, hb, hml, hown, hts⟩, hK, hT, hA, hlk⟩ := id C
  unfold b_X5_fewest_26_0 at h
  refine lv_iconst (v := 1) hx hb dX5_fewest_0 (by decide) ?_
  refine lv_iload_n hx hb dX5_fewest_1 rfl (lv_at hl 2 rfl) ?_
  refine lv_ishl hx hb dX5_fewest_2 ?_
  refine lv_iconst (v := 1) hx hb dX5_fewest_3 (by decide) ?_
  refine lv_isub hx hb dX5_fewest_4 ?_
  obtain ⟨x1, ex1, h⟩ := lt_some h
  refine x_ti ex1 ?_
  refine lv_istore (lv' := [(4, .int x1), (0, .ref (ad 26)), (1, .int a1), (2, .int a2), (3, .int a3)]) hx hb dX5_fewest_5 hl (by decide) rfl (fun ls hl => ?_)
  refine lv_aload_n hx hb dX5_fewest_7 rfl (lv_at hl 1 rfl) ?_
  refine x_get C hP inlX5 26 xw_26 rfl 0 (by decide) mw5_2 rfl dX5_fewest_8 ?_
  refine lv_iconst (v := 0) hx hb dX5_fewest_11 (by decide) ?_
  refine lv_iload_n hx hb dX5_fewest_12 rfl (lv_at hl 2 rfl) ?_
  obtain ⟨g2, σ3, eσ3, h⟩ := wr_some h
  refine x_ist C hP hD hS 27 xw_27 g2 (xa_27 eσ3) dX5_fewest_13 (fun H locs hP hD hS => ?_)
  refine lv_iconst (v := 1) hx hb dX5_fewest_14 (by decide) ?_
  refine lv_istore (lv' := [(5, .int (1 : Int32)), (4, .int x1), (0, .ref (ad 26)), (1, .int a1), (2, .int a2), (3, .int a3)]) hx hb dX5_fewest_15 hl (by decide) rfl (fun ls hl => ?_)
  exact w_X5_fewest_26_17 C hr FU a1 a2 a3 x1 (1 : Int32) σ3 h H locs hP hD hS ls (lv_sub hl [2, 3, 4, 5, 1, 0] rfl)
theorem c_X5_fewest_26 {l : Launch} {D : va_G} {cy : Nat → ClassId} {tT tF : Nat} {ad : Nat → Nat} {σ : ES} {a1 : Int32} {a2 : Int32} {a3 : Int32} {r : Int32} {σ' : ES} (h : e_X5_fewest_26 a1 a2 a3 σ = some (r, σ')) : CMi l yX5_fewest (Cond.code yX5_fewest cX5_fewest 8 (some .int) :: wsL_law) { frames := 1, cells := 0, slots := 0, locals := 23 } D cy tT tF [.ref (ad 26), .int a1, .int a2, .int a3] (xw cy ad σ) r (xw cy ad σ') := x_start (Qc := fun A => (Qi D cy A r (xw cy ad σ'))) (by decide) (Nat.le_of_ble_eq_true rfl) (fun p e s m below meth c A ls C hr hP hD hS hl => w_X5_fewest_26_0 C hr a1 a2 a3 σ h s.heap [] hP hD hS ls hl)
set_option maxHeartbeats 4000000 in
set_option maxRecDepth 100000 in
theorem w_X7_cut_0_35 (C : Cx p s m args meth c D cy tT tF A cX7_cut 7 RX7) (hr : meth.sig.returnType = some .int) {r : Int32} {σ' : ES} (σ : ES) (h : b_X7_cut_0_35 σ = some (r, σ')) (H : Heap) (locs : List Loc) (hP : va_P D vwCl (xw cy ad σ) H) (hD : va_D A (xw cy ad σ)) (hS : va_S A s.heap H locs) (ls : Array Slot) (hl : lv_has ls 7 []) : W p l e { frames := 2, cells := 0, slots := 0, locals := 50 } s m args below meth c H locs 0 0 (MQ below (Qi D cy A r (xw cy ad σ')) args s 0 0 A) (F0 m 35 ls []) := by
  obtain ⟨⟨hx, hb, hml, hown, hts⟩, hK, hT, hA, hlk⟩ := id C
  unfold b_X7_cut_0_35 at h
  refine lv_bipush (v := -2) hx hb dX7_cut_35 (by decide) ?_
  obtain ⟨z1, z2⟩ := pr_inj h
  subst z1
  subst z2
  exact x_iret C hr hP hD hS dX7_cut_37
set_option maxHeartbeats 4000000 in
set_option maxRecDepth 100000 in
theorem w_X7_cut_0_44 (C : Cx p s m args meth c D cy tT tF A cX7_cut 7 RX7) (hr : meth.sig.returnType = some .int) {r : Int32} {σ' : ES} : ∀ (n : Nat) (v1 : Int32) (v2 : Int32) (v3 : Int32) (v4 : Int32) (v5 : Int32) (σ : ES), b_X7_cut_0_44 n v1 v2 v3 v4 v5 σ = some (r, σ') → ∀ (H : Heap) (locs : List Loc) (hP : va_P D vwCl (xw cy ad σ) H) (hD : va_D A (xw cy ad σ)) (hS : va_S A s.heap H locs) (ls : Array Slot) (hl : lv_has ls 7 [(0, .ref (ad 0)), (1, .int v1), (2, .int v2), (3, .int v3), (4, .int v4), (5, .int v5)]), W p l e { frames := 2, cells := 0, slots := 0, locals := 50 } s m args below meth c H locs 0 0 (MQ below (Qi D cy A r (xw cy ad σ')) args s 0 0 A) (F0 m 44 ls []) := by
  obtain ⟨⟨hx, hb, hml, hown, hts⟩, hK, hT, hA, hlk⟩ := id C
  intro n
  induction n with
  | zero =>
    intro v1 v2 v3 v4 v5 σ h
    exact no_some h
  | succ n ih =>
    intro v1 v2 v3 v4 v5 σ h H locs hP hD hS ls hl
    rw [b_X7_cut_0_44] at h
    refine lv_iload hx hb dX7_cut_44 (lv_at hl 5 rfl) ?_
    refine lv_iload_n hx hb dX7_cut_46 rfl (lv_at hl 2 rfl) ?_
    refine lv_icmp_ge (tgt := 82) hx hb dX7_cut_47 (by decide) (fun q1 => ?_) (fun q1 => ?_)
    · have h := ifp q1 h
      refine lv_iload hx hb dX7_cut_82 (lv_at hl 4 rfl) ?_
      refine lv_iload_n hx hb dX7_cut_84 rfl (lv_at hl 1 rfl) ?_
      refine lv_icmp_le (tgt := 93) hx hb dX7_cut_85 (by decide) (fun q2 => ?_) (fun q2 => ?_)
      · have h := ifp q2 h
        refine lv_aload_n hx hb dX7_cut_93 rfl (lv_at hl 0 rfl) ?_
        refine x_get C hP inlX7 0 xw_0 rfl 6 (by decide) mw2_13 rfl dX7_cut_94 ?_
        refine lv_iload_n hx hb dX7_cut_97 rfl (lv_at hl 1 rfl) ?_
        refine lv_iload_n hx hb dX7_cut_98 rfl (lv_at hl 2 rfl) ?_
        refine lv_iload_n hx hb dX7_cut_99 rfl (lv_at hl 3 rfl) ?_
        obtain ⟨r5, σ4, g3, h⟩ := cs_some h
        refine x_callVi (rest := []) C hP hD hS (c_X5_fewest_26 g3) (cwV 3 hts (gV mw31_16 mw31_17 mw31_18 mw2_12 mw31_19) rfl rfl rfl hdV_X5_fewest ⟨Nat.le_of_ble_eq_true rfl, Nat.le_of_ble_eq_true rfl⟩) xw_26 rfl rfl hl.1 rfl (Nat.le_of_ble_eq_true rfl) dX7_cut_100 ⟨Nat.zero_le _, Nat.zero_le _⟩ (fun H locs hP hD hS => ?_)
        obtain ⟨z1, z2⟩ := pr_inj h
        subst z1
        subst z2
        exact x_iret C hr hP hD hS dX7_cut_103
      · have h := ifn q2 h
        refine lv_bipush (v := -9) hx hb dX7_cut_88 (by decide) ?_
        refine lv_goto (tgt := 103) hx hb dX7_cut_90 (by decide) ?_
        obtain ⟨z1, z2⟩ := pr_inj h
        subst z1
        subst z2
        exact x_iret C hr hP hD hS dX7_cut_103
    · have h := ifn q1 h
      refine lv_iload_n hx hb dX7_cut_50 rfl (lv_at hl 3 rfl) ?_
      refine lv_iload_n hx hb dX7_cut_51 rfl (lv_at hl 2 rfl) ?_
      refine lv_iload hx hb dX7_cut_52 (lv_at hl 5 rfl) ?_
      obtain ⟨r7, g6, h⟩ := cl_some h
      refine x_callSi (rest := []) C hP hD hS (c_X7_figure g6) (va_cwS 3 hts (gS mw27_7 mw27_8 mw1_2 mw27_9) rfl rfl rfl hdS_X7_figure ⟨Nat.le_of_ble_eq_true rfl, Nat.le_of_ble_eq_true rfl⟩) rfl hl.1 rfl (Nat.le_of_ble_eq_true rfl) dX7_cut_54 ⟨Nat.zero_le _, Nat.zero_le _⟩ (fun H locs hP hD hS => ?_)
      refine lv_istore (lv' := [(6, .int r7), (0, .ref (ad 0)), (1, .int v1), (2, .int v2), (3, .int v3), (4, .int v4), (5, .int v5)]) hx hb dX7_cut_57 hl (by decide) rfl (fun ls hl => ?_)
      refine lv_iload hx hb dX7_cut_59 (lv_at hl 0 rfl) ?_
      refine lv_if_ne (tgt := 67) hx hb dX7_cut_61 (by decide) (fun q8 => ?_) (fun q8 => ?_)
      · have h := ifn q8 h
        refine lv_iload hx hb dX7_cut_67 (lv_at hl 5 rfl) ?_
        refine lv_iload hx hb dX7_cut_69 (lv_at hl 0 rfl) ?_
        refine x_max C hl.1 mw26_11 mw26_12 mw9_11 mw26_13 (Nat.le_of_ble_eq_true rfl) (Nat.le_of_ble_eq_true rfl) ⟨Nat.zero_le _, Nat.zero_le _⟩ dX7_cut_71 ?_
        obtain ⟨x9, ex9, h⟩ := lt_some h
        refine x_ti ex9 ?_
        refine lv_istore (lv' := [(4, .int x9), (6, .int r7), (0, .ref (ad 0)), (1, .int v1), (2, .int v2), (3, .int v3), (5, .int v5)]) hx hb dX7_cut_74 hl (by decide) rfl (fun ls hl => ?_)
        obtain ⟨x10, ex10, h⟩ := lt_some h
        refine lv_iinc (v := x10) (lv' := [(5, .int x10), (4, .int x9), (6, .int r7), (0, .ref (ad 0)), (1, .int v1), (2, .int v2), (3, .int v3)]) hx hb dX7_cut_76 hl (k := 6) rfl (by rw [ex10]; rfl) (by decide) rfl (fun ls hl => ?_)
        refine lv_goto (tgt := 44) hx hb dX7_cut_79 (by decide) ?_
        exact ih v1 v2 v3 x9 x10 σ h H locs hP hD hS ls (lv_sub hl [3, 4, 5, 6, 1, 0] rfl)
      · have h := ifp q8 h
        refine lv_bipush (v := -2) hx hb dX7_cut_64 (by decide) ?_
        obtain ⟨z1, z2⟩ := pr_inj h
        subst z1
        subst z2
        exact x_iret C hr hP hD hS dX7_cut_66
set_option maxHeartbeats 4000000 in
set_option maxRecDepth 100000 in
theorem w_X7_cut_0_0 (C : Cx p s m args meth c D cy tT tF A cX7_cut 7 RX7) (hr : meth.sig.returnType = some .int) {r : Int32} {σ' : ES} (a1 : Int32) (a2 : Int32) (a3 : Int32) (σ : ES) (h : b_X7_cut_0_0 a1 a2 a3 σ = some (r, σ')) (H : Heap) (locs : List Loc) (hP : va_P D vwCl (xw cy ad σ) H) (hD : va_D A (xw cy ad σ)) (hS : va_S A s.heap H locs) (ls : Array Slot) (hl : lv_has ls 7 [(0, .ref (ad 0)), (1, .int a1), (2, .int a2), (3, .int a3)]) : W p l e { frames := 2, cells := 0, slots := 0, locals := 50 } s m args below meth c H locs 0 0 (MQ below (Qi D cy A r (xw cy ad σ')) args s 0 0 A) (F0 m 0 ls []) := by
  obtain ⟨⟨hx, hb, hml, hown, hts⟩, hK, hT, hA, hlk⟩ := id C
  unfold b_X7_cut_0_0 at h
  refine lv_iload_n hx hb dX7_cut_0 rfl (lv_at hl 1 rfl) ?_
  refine lv_iconst (v := 1) hx hb dX7_cut_1 (by decide) ?_
  refine lv_icmp_lt (tgt := 35) hx hb dX7_cut_2 (by decide) (fun q1 => ?_) (fun q1 => ?_)
  · have h := ifp q1 h
    exact w_X7_cut_0_35 C hr σ h H locs hP hD hS ls (lv_sub hl [] rfl)
  · have h := ifn q1 h
    refine lv_iload_n hx hb dX7_cut_5 rfl (lv_at hl 1 rfl) ?_
    refine lv_bipush (v := 30) hx hb dX7_cut_6 (by decide) ?_
    refine lv_icmp_gt (tgt := 35) hx hb dX7_cut_8 (by decide) (fun q2 => ?_) (fun q2 => ?_)
    · have h := ifp q2 h
      exact w_X7_cut_0_35 C hr σ h H locs hP hD hS ls (lv_sub hl [] rfl)
    · have h := ifn q2 h
      refine lv_iload_n hx hb dX7_cut_11 rfl (lv_at hl 2 rfl) ?_
      refine lv_iconst (v := 1) hx hb dX7_cut_12 (by decide) ?_
      refine lv_icmp_lt (tgt := 35) hx hb dX7_cut_13 (by decide) (fun q3 => ?_) (fun q3 => ?_)
      · have h := ifp q3 h
        exact w_X7_cut_0_35 C hr σ h H locs hP hD hS ls (lv_sub hl [] rfl)
      · have h := ifn q3 h
        refine lv_iload_n hx hb dX7_cut_16 rfl (lv_at hl 2 rfl) ?_
        refine lv_bipush (v := 6) hx hb dX7_cut_17 (by decide) ?_
        refine lv_icmp_gt (tgt := 35) hx hb dX7_cut_19 (by decide) (fun q4 => ?_) (fun q4 => ?_)
        · have h := ifp q4 h
          exact w_X7_cut_0_35 C hr σ h H locs hP hD hS ls (lv_sub hl [] rfl)
        · have h := ifn q4 h
          refine lv_iload_n hx hb dX7_cut_22 rfl (lv_at hl 3 rfl) ?_
          refine lv_if_lt (tgt := 35) hx hb dX7_cut_23 (by decide) (fun q5 => ?_) (fun q5 => ?_)
          · have h := ifp q5 h
            exact w_X7_cut_0_35 C hr σ h H locs hP hD hS ls (lv_sub hl [] rfl)
          · have h := ifn q5 h
            refine lv_iload_n hx hb dX7_cut_26 rfl (lv_at hl 3 rfl) ?_
            refine x_tens C hS mw27_2 dX7_cut_27 ?_
            refine lv_iload_n hx hb dX7_cut_30 rfl (lv_at hl 2 rfl) ?_
            obtain ⟨g6, x7, ex7, h⟩ := rt_some h
            refine x_tld C hS g6 ex7 dX7_cut_31 ?_
            refine lv_icmp_lt (tgt := 38) hx hb dX7_cut_32 (by decide) (fun q8 => ?_) (fun q8 => ?_)
            · have h := ifp q8 h
              refine lv_iconst (v := 0) hx hb dX7_cut_38 (by decide) ?_
              refine lv_istore (lv' := [(4, .int (0 : Int32)), (0, .ref (ad 0)), (1, .int a1), (2, .int a2), (3, .int a3)]) hx hb dX7_cut_39 hl (by decide) rfl (fun ls hl => ?_)
              refine lv_iconst (v := 0) hx hb dX7_cut_41 (by decide) ?_
              refine lv_istore (lv' := [(5, .int (0 : Int32)), (4, .int (0 : Int32)), (0, .ref (ad 0)), (1, .int a1), (2, .int a2), (3, .int a3)]) hx hb dX7_cut_42 hl (by decide) rfl (fun ls hl => ?_)
              exact w_X7_cut_0_44 C hr FU a1 a2 a3 (0 : Int32) (0 : Int32) σ h H locs hP hD hS ls (lv_sub hl [2, 3, 4, 5, 1, 0] rfl)
            · have h := ifn q8 h
              exact w_X7_cut_0_35 C hr σ h H locs hP hD hS ls (lv_sub hl [] rfl)
theorem c_X7_cut_0 {l : Launch} {D : va_G} {cy : Nat → ClassId} {tT tF : Nat} {ad : Nat → Nat} {σ : ES} {a1 : Int32} {a2 : Int32} {a3 : Int32} {r : Int32} {σ' : ES} (h : e_X7_cut_0 a1 a2 a3 σ = some (r, σ')) : CMi l yX7_cut (Cond.code yX7_cut cX7_cut 7 (some .int) :: wsL_law) { frames := 2, cells := 0, slots := 0, locals := 50 } D cy tT tF [.ref (ad 0), .int a1, .int a2, .int a3] (xw cy ad σ) r (xw cy ad σ') := x_start (Qc := fun A => (Qi D cy A r (xw cy ad σ'))) (by decide) (Nat.le_of_ble_eq_true rfl) (fun p e s m below meth c A ls C hr hP hD hS hl => w_X7_cut_0_0 C hr a1 a2 a3 σ h s.heap [] hP hD hS ls hl)
set_option maxHeartbeats 4000000 in
set_option maxRecDepth 100000 in
theorem w_X7_draught_0_64 (C : Cx p s m args meth c D cy tT tF A cX7_draught 8 RX7) (hr : meth.sig.returnType = some .int) {r : Int32} {σ : ES} : ∀ (n : Nat) (v1 : Int32) (v2 : Int32) (v3 : Int32) (v4 : Int32) (v5 : Int32) (v6 : Int32) (v7 : Int32), b_X7_draught_0_64 σ n v1 v2 v3 v4 v5 v6 v7 = some r → ∀ (H : Heap) (locs : List Loc) (hP : va_P D vwCl (xw cy ad σ) H) (hD : va_D A (xw cy ad σ)) (hS : va_S A s.heap H locs) (ls : Array Slot) (hl : lv_has ls 8 [(0, .ref (ad 0)), (1, .int v1), (2, .int v2), (3, .int v3), (4, .int v4), (5, .int v5), (6, .int v6), (7, .int v7)]), W p l e { frames := 2, cells := 0, slots := 0, locals := 45 } s m args below meth c H locs 0 0 (MQ below (Qi D cy A r (xw cy ad σ)) args s 0 0 A) (F0 m 64 ls []) := by
  obtain ⟨⟨hx, hb, hml, hown, hts⟩, hK, hT, hA, hlk⟩ := id C
  intro n
  induction n with
  | zero =>
    intro v1 v2 v3 v4 v5 v6 v7 h
    exact no_some h
  | succ n ih =>
    intro v1 v2 v3 v4 v5 v6 v7 h H locs hP hD hS ls hl
    rw [b_X7_draught_0_64] at h
    refine lv_iload hx hb dX7_draught_64 (lv_at hl 7 rfl) ?_
    refine lv_bipush (v := 6) hx hb dX7_draught_66 (by decide) ?_
    refine lv_icmp_ge (tgt := 116) hx hb dX7_draught_68 (by decide) (fun q1 => ?_) (fun q1 => ?_)
    · have h := ifp q1 h
      refine lv_iload hx hb dX7_draught_116 (lv_at hl 5 rfl) ?_
      refine x_tens C hS mw27_2 dX7_draught_118 ?_
      refine lv_bipush (v := 6) hx hb dX7_draught_121 (by decide) ?_
      obtain ⟨g2, x3, ex3, h⟩ := rt_some h
      refine x_tld C hS g2 ex3 dX7_draught_123 ?_
      refine lv_iload hx hb dX7_draught_124 (lv_at hl 4 rfl) ?_
      obtain ⟨r5, g4, h⟩ := cl_some h
      refine x_callSi (rest := []) C hP hD hS (c_X7_fraction g4) (va_cwS 3 hts (gS mw24_14 mw24_15 mw1_2 mw24_16) rfl rfl rfl hdS_X7_fraction ⟨Nat.le_of_ble_eq_true rfl, Nat.le_of_ble_eq_true rfl⟩) rfl hl.1 rfl (Nat.le_of_ble_eq_true rfl) dX7_draught_126 ⟨Nat.zero_le _, Nat.zero_le _⟩ (fun H locs hP hD hS => ?_)
      have z1 := so_inj h
      subst z1
      exact x_iret C hr hP hD hS dX7_draught_129
    · have h := ifn q1 h
      refine lv_iload hx hb dX7_draught_71 (lv_at hl 6 rfl) ?_
      refine lv_bipush (v := 10) hx hb dX7_draught_73 (by decide) ?_
      refine lv_idiv hx hb dX7_draught_75 (by decide) ?_
      refine lv_bipush (v := 10) hx hb dX7_draught_76 (by decide) ?_
      refine lv_iload_n hx hb dX7_draught_78 rfl (lv_at hl 2 rfl) ?_
      refine lv_isub hx hb dX7_draught_79 ?_
      refine lv_imul hx hb dX7_draught_80 ?_
      obtain ⟨x6, ex6, h⟩ := lt_some h
      refine x_ti ex6 ?_
      refine lv_istore (lv' := [(6, .int x6), (0, .ref (ad 0)), (1, .int v1), (2, .int v2), (3, .int v3), (4, .int v4), (5, .int v5), (7, .int v7)]) hx hb dX7_draught_81 hl (by decide) rfl (fun ls hl => ?_)
      refine lv_aload_n hx hb dX7_draught_83 rfl (lv_at hl 1 rfl) ?_
      refine x_get C hP inlX7 0 xw_0 rfl 1 (by decide) mw1_20 rfl dX7_draught_84 ?_
      refine lv_aload_n hx hb dX7_draught_87 rfl (lv_at hl 1 rfl) ?_
      refine x_get C hP inlX7 0 xw_0 rfl 9 (by decide) mw2_21 rfl dX7_draught_88 ?_
      refine lv_iload_n hx hb dX7_draught_91 rfl (lv_at hl 2 rfl) ?_
      refine lv_iload hx hb dX7_draught_92 (lv_at hl 7 rfl) ?_
      obtain ⟨r8, g7, h⟩ := cl_some h
      refine x_callVi (rest := []) C hP hD hS (c_X2_giftBit_3_30 g7) (cwV 3 hts (gV mw25_14 mw17_22 mw17_23 mw1_19 mw18_0) rfl rfl rfl hdV_X2_giftBit ⟨Nat.le_of_ble_eq_true rfl, Nat.le_of_ble_eq_true rfl⟩) xw_3 rfl rfl hl.1 rfl (Nat.le_of_ble_eq_true rfl) dX7_draught_94 ⟨Nat.zero_le _, Nat.zero_le _⟩ (fun H locs hP hD hS => ?_)
      refine lv_iconst (v := 1) hx hb dX7_draught_97 (by decide) ?_
      refine lv_iload_n hx hb dX7_draught_98 rfl (lv_at hl 4 rfl) ?_
      refine lv_ishl hx hb dX7_draught_99 ?_
      refine lv_icmp_ne (tgt := 110) hx hb dX7_draught_100 (by decide) (fun q9 => ?_) (fun q9 => ?_)
      · have h := ifn q9 h
        obtain ⟨x10, ex10, h⟩ := lt_some h
        refine lv_iinc (v := x10) (lv' := [(7, .int x10), (6, .int x6), (0, .ref (ad 0)), (1, .int v1), (2, .int v2), (3, .int v3), (4, .int v4), (5, .int v5)]) hx hb dX7_draught_110 hl (k := 7) rfl (by rw [ex10]; rfl) (by decide) rfl (fun ls hl => ?_)
        refine lv_goto (tgt := 64) hx hb dX7_draught_113 (by decide) ?_
        exact ih v1 v2 v3 v4 v5 x6 x10 h H locs hP hD hS ls (lv_sub hl [2, 3, 4, 5, 6, 7, 1, 0] rfl)
      · have h := ifp q9 h
        refine lv_iload hx hb dX7_draught_103 (lv_at hl 6 rfl) ?_
        refine lv_iload hx hb dX7_draught_105 (lv_at hl 0 rfl) ?_
        refine lv_iadd hx hb dX7_draught_107 ?_
        obtain ⟨x11, ex11, h⟩ := lt_some h
        refine x_ti ex11 ?_
        refine lv_istore (lv' := [(5, .int x11), (6, .int x6), (0, .ref (ad 0)), (1, .int v1), (2, .int v2), (3, .int v3), (4, .int v4), (7, .int v7)]) hx hb dX7_draught_108 hl (by decide) rfl (fun ls hl => ?_)
        obtain ⟨x12, ex12, h⟩ := lt_some h
        refine lv_iinc (v := x12) (lv' := [(7, .int x12), (5, .int x11), (6, .int x6), (0, .ref (ad 0)), (1, .int v1), (2, .int v2), (3, .int v3), (4, .int v4)]) hx hb dX7_draught_110 hl (k := 7) rfl (by rw [ex12]; rfl) (by decide) rfl (fun ls hl => ?_)
        refine lv_goto (tgt := 64) hx hb dX7_draught_113 (by decide) ?_
        exact ih v1 v2 v3 v4 x11 x6 x12 h H locs hP hD hS ls (lv_sub hl [3, 4, 5, 6, 7, 1, 2, 0] rfl)
set_option maxHeartbeats 4000000 in
set_option maxRecDepth 100000 in
theorem w_X7_draught_0_0 (C : Cx p s m args meth c D cy tT tF A cX7_draught 8 RX7) (hr : meth.sig.returnType = some .int) {r : Int32} {σ : ES} (a1 : Int32) (a2 : Int32) (a3 : Int32) (a4 : Int32) (h : b_X7_draught_0_0 σ a1 a2 a3 a4 = some r) (H : Heap) (locs : List Loc) (hP : va_P D vwCl (xw cy ad σ) H) (hD : va_D A (xw cy ad σ)) (hS : va_S A s.heap H locs) (ls : Array Slot) (hl : lv_has ls 8 [(0, .ref (ad 0)), (1, .int a1), (2, .int a2), (3, .int a3), (4, .int a4)]) : W p l e { frames := 2, cells := 0, slots := 0, locals := 45 } s m args below meth c H locs 0 0 (MQ below (Qi D cy A r (xw cy ad σ)) args s 0 0 A) (F0 m 0 ls []) := by
  obtain ⟨⟨hx, hb, hml, hown, hts⟩, hK, hT, hA, hlk⟩ := id C
  unfold b_X7_draught_0_0 at h
  refine lv_aload_n hx hb dX7_draught_0 rfl (lv_at hl 0 rfl) ?_
  refine x_get C hP inlX7 0 xw_0 rfl 9 (by decide) mw2_21 rfl dX7_draught_1 ?_
  refine lv_iload_n hx hb dX7_draught_4 rfl (lv_at hl 1 rfl) ?_
  obtain ⟨r2, g1, h⟩ := cl_some h
  refine x_callVi (rest := []) C hP hD hS (c_X3_hasCandle_30 g1) (cwV 1 hts (gV mw13_3 mw13_4 mw13_5 mw2_20 mw13_6) rfl rfl rfl hdV_X3_hasCandle ⟨Nat.le_of_ble_eq_true rfl, Nat.le_of_ble_eq_true rfl⟩) xw_30 rfl rfl hl.1 rfl (Nat.le_of_ble_eq_true rfl) dX7_draught_5 ⟨Nat.zero_le _, Nat.zero_le _⟩ (fun H locs hP hD hS => ?_)
  refine lv_if_ne (tgt := 13) hx hb dX7_draught_8 (by decide) (fun q3 => ?_) (fun q3 => ?_)
  · have h := ifn q3 h
    refine lv_iload_n hx hb dX7_draught_13 rfl (lv_at hl 2 rfl) ?_
    refine lv_if_lt (tgt := 32) hx hb dX7_draught_14 (by decide) (fun q4 => ?_) (fun q4 => ?_)
    · have h := ifp q4 h
      refine lv_bipush (v := -2) hx hb dX7_draught_32 (by decide) ?_
      have z1 := so_inj h
      subst z1
      exact x_iret C hr hP hD hS dX7_draught_34
    · have h := ifn q4 h
      refine lv_iload_n hx hb dX7_draught_17 rfl (lv_at hl 2 rfl) ?_
      refine lv_bipush (v := 10) hx hb dX7_draught_18 (by decide) ?_
      refine lv_icmp_gt (tgt := 32) hx hb dX7_draught_20 (by decide) (fun q5 => ?_) (fun q5 => ?_)
      · have h := ifp q5 h
        refine lv_bipush (v := -2) hx hb dX7_draught_32 (by decide) ?_
        have z1 := so_inj h
        subst z1
        exact x_iret C hr hP hD hS dX7_draught_34
      · have h := ifn q5 h
        refine lv_iload_n hx hb dX7_draught_23 rfl (lv_at hl 3 rfl) ?_
        refine lv_if_lt (tgt := 32) hx hb dX7_draught_24 (by decide) (fun q6 => ?_) (fun q6 => ?_)
        · have h := ifp q6 h
          refine lv_bipush (v := -2) hx hb dX7_draught_32 (by decide) ?_
          have z1 := so_inj h
          subst z1
          exact x_iret C hr hP hD hS dX7_draught_34
        · have h := ifn q6 h
          refine lv_iload_n hx hb dX7_draught_27 rfl (lv_at hl 3 rfl) ?_
          refine lv_iconst (v := 4) hx hb dX7_draught_28 (by decide) ?_
          refine lv_icmp_lt (tgt := 35) hx hb dX7_draught_29 (by decide) (fun q7 => ?_) (fun q7 => ?_)
          · have h := ifp q7 h
            refine lv_aload_n hx hb dX7_draught_35 rfl (lv_at hl 0 rfl) ?_
            refine x_get C hP inlX7 0 xw_0 rfl 1 (by decide) mw1_20 rfl dX7_draught_36 ?_
            refine x_get C hP inlX2 3 xw_3 rfl 2 (by decide) mw13_2 rfl dX7_draught_39 ?_
            refine lv_iload_n hx hb dX7_draught_42 rfl (lv_at hl 1 rfl) ?_
            obtain ⟨g8, x9, ex9, h⟩ := rd_some h
            refine x_ild C hP 6 xw_6 g8 ex9 dX7_draught_43 ?_
            refine lv_if_eq (tgt := 50) hx hb dX7_draught_44 (by decide) (fun q10 => ?_) (fun q10 => ?_)
            · have h := ifp q10 h
              refine lv_iconst (v := 0) hx hb dX7_draught_50 (by decide) ?_
              refine lv_istore (lv' := [(5, .int (0 : Int32)), (0, .ref (ad 0)), (1, .int a1), (2, .int a2), (3, .int a3), (4, .int a4)]) hx hb dX7_draught_51 hl (by decide) rfl (fun ls hl => ?_)
              refine x_tens C hS mw27_2 dX7_draught_53 ?_
              refine lv_bipush (v := 6) hx hb dX7_draught_56 (by decide) ?_
              obtain ⟨g11, x12, ex12, h⟩ := rt_some h
              refine x_tld C hS g11 ex12 dX7_draught_58 ?_
              refine lv_istore (lv' := [(6, .int x12), (5, .int (0 : Int32)), (0, .ref (ad 0)), (1, .int a1), (2, .int a2), (3, .int a3), (4, .int a4)]) hx hb dX7_draught_59 hl (by decide) rfl (fun ls hl => ?_)
              refine lv_iconst (v := 0) hx hb dX7_draught_61 (by decide) ?_
              refine lv_istore (lv' := [(7, .int (0 : Int32)), (6, .int x12), (5, .int (0 : Int32)), (0, .ref (ad 0)), (1, .int a1), (2, .int a2), (3, .int a3), (4, .int a4)]) hx hb dX7_draught_62 hl (by decide) rfl (fun ls hl => ?_)
              exact w_X7_draught_0_64 C hr FU a1 a2 a3 a4 (0 : Int32) x12 (0 : Int32) h H locs hP hD hS ls (lv_sub hl [3, 4, 5, 6, 7, 2, 1, 0] rfl)
            · have h := ifn q10 h
              refine lv_bipush (v := -3) hx hb dX7_draught_47 (by decide) ?_
              have z1 := so_inj h
              subst z1
              exact x_iret C hr hP hD hS dX7_draught_49
          · have h := ifn q7 h
            refine lv_bipush (v := -2) hx hb dX7_draught_32 (by decide) ?_
            have z1 := so_inj h
            subst z1
            exact x_iret C hr hP hD hS dX7_draught_34
  · have h := ifp q3 h
    refine lv_iconst (v := -1) hx hb dX7_draught_11 (by decide) ?_
    have z1 := so_inj h
    subst z1
    exact x_iret C hr hP hD hS dX7_draught_12
theorem c_X7_draught_0 {l : Launch} {D : va_G} {cy : Nat → ClassId} {tT tF : Nat} {ad : Nat → Nat} {a1 : Int32} {a2 : Int32} {a3 : Int32} {a4 : Int32} {r : Int32} {σ : ES} (h : e_X7_draught_0 a1 a2 a3 a4 σ = some r) : CMi l yX7_draught (Cond.code yX7_draught cX7_draught 8 (some .int) :: wsL_law) { frames := 2, cells := 0, slots := 0, locals := 45 } D cy tT tF [.ref (ad 0), .int a1, .int a2, .int a3, .int a4] (xw cy ad σ) r (xw cy ad σ) := x_start (Qc := fun A => (Qi D cy A r (xw cy ad σ))) (by decide) (Nat.le_of_ble_eq_true rfl) (fun p e s m below meth c A ls C hr hP hD hS hl => w_X7_draught_0_0 C hr a1 a2 a3 a4 h s.heap [] hP hD hS ls hl)
set_option maxHeartbeats 4000000 in
set_option maxRecDepth 100000 in
theorem w_X7_seed_0_0 (C : Cx p s m args meth c D cy tT tF A cX7_seed 5 RX7) (hr : meth.sig.returnType = some .long) {r : Int64} {σ' : ES} (a1 : Int64) (σ : ES) (h : b_X7_seed_0_0 a1 σ = some (r, σ')) (H : Heap) (locs : List Loc) (hP : va_P D vwCl (xw cy ad σ) H) (hD : va_D A (xw cy ad σ)) (hS : va_S A s.heap H locs) (ls : Array Slot) (hl : lv_has ls 5 [(0, .ref (ad 0)), (1, .long a1)]) : W p l e { frames := 0, cells := 0, slots := 0, locals := 0 } s m args below meth c H locs 0 0 (MQ below (Ql D cy A r (xw cy ad σ')) args s 0 0 A) (F0 m 0 ls []) := by
  obtain ⟨⟨hx, hb, hml, hown, hts⟩, hK, hT, hA, hlk⟩ := id C
  unfold b_X7_seed_0_0 at h
  refine lv_aload_n hx hb dX7_seed_0 rfl (lv_at hl 0 rfl) ?_
  refine x_get C hP inlX7 0 xw_0 rfl 11 (by decide) mw2_23 rfl dX7_seed_1 ?_
  obtain ⟨x1, ex1, h⟩ := lt_some h
  refine x_tl ex1 ?_
  refine lv_lstore_n (lv' := [(3, .long x1), (0, .ref (ad 0)), (1, .long a1)]) hx hb dX7_seed_4 rfl hl (by decide) rfl (fun ls hl => ?_)
  refine lv_aload_n hx hb dX7_seed_5 rfl (lv_at hl 1 rfl) ?_
  refine lv_lload_n hx hb dX7_seed_6 rfl (lv_at hl 2 rfl) ?_
  obtain ⟨σ2, eσ2, h⟩ := lt_some h
  refine x_put C hP hD hS inlX7 tyX7 tyX7_ok nmX7 0 xw_0 rfl 11 (by decide) mw2_23 rfl rfl rfl (Nat.le_of_ble_eq_true rfl) (xs_0_11 eσ2) dX7_seed_7 (fun H locs hP hD hS => ?_)
  refine lv_lload_n hx hb dX7_seed_10 rfl (lv_at hl 0 rfl) ?_
  obtain ⟨z1, z2⟩ := pr_inj h
  subst z1
  subst z2
  exact x_lret C hr hP hD hS dX7_seed_11
theorem c_X7_seed_0 {l : Launch} {D : va_G} {cy : Nat → ClassId} {tT tF : Nat} {ad : Nat → Nat} {σ : ES} {a1 : Int64} {r : Int64} {σ' : ES} (h : e_X7_seed_0 a1 σ = some (r, σ')) : CMl l yX7_seed (Cond.code yX7_seed cX7_seed 5 (some .long) :: wsL_law) { frames := 0, cells := 0, slots := 0, locals := 0 } D cy tT tF [.ref (ad 0), .long a1] (xw cy ad σ) r (xw cy ad σ') := x_start (Qc := fun A => (Ql D cy A r (xw cy ad σ'))) (by decide) (Nat.le_of_ble_eq_true rfl) (fun p e s m below meth c A ls C hr hP hD hS hl => w_X7_seed_0_0 C hr a1 σ h s.heap [] hP hD hS ls hl)
set_option maxHeartbeats 4000000 in
set_option maxRecDepth 100000 in
theorem w_X7_night_0_106 (C : Cx p s m args meth c D cy tT tF A cX7_night 4 RX7) (hr : meth.sig.returnType = some .int) {r : Int32} {σ' : ES} : ∀ (n : Nat) (v2 : Int32) (v3 : Int32) (σ : ES), b_X7_night_0_106 n v2 v3 σ = some (r, σ') → ∀ (H : Heap) (locs : List Loc) (hP : va_P D vwCl (xw cy ad σ) H) (hD : va_D A (xw cy ad σ)) (hS : va_S A s.heap H locs) (ls : Array Slot) (hl : lv_has ls 4 [(0, .ref (ad 0)), (2, .int v2), (3, .int v3)]), W p l e { frames := 3, cells := 0, slots := 0, locals := 70 } s m args below meth c H locs 0 0 (MQ below (Qi D cy A r (xw cy ad σ')) args s 0 0 A) (F0 m 106 ls []) := by
  obtain ⟨⟨hx, hb, hml, hown, hts⟩, hK, hT, hA, hlk⟩ := id C
  intro n
  induction n with
  | zero =>
    intro v2 v3 σ h
    exact no_some h
  | succ n ih =>
    intro v2 v3 σ h H locs hP hD hS ls hl
    rw [b_X7_night_0_106] at h
    refine lv_iload_n hx hb dX7_night_106 rfl (lv_at hl 2 rfl) ?_
    refine lv_aload_n hx hb dX7_night_107 rfl (lv_at hl 0 rfl) ?_
    refine x_get C hP inlX7 0 xw_0 rfl 9 (by decide) mw2_21 rfl dX7_night_108 ?_
    refine x_get C hP inlX3 30 xw_30 rfl 10 (by decide) mw11_12 rfl dX7_night_111 ?_
    refine lv_icmp_ge (tgt := 135) hx hb dX7_night_114 (by decide) (fun q1 => ?_) (fun q1 => ?_)
    · have h := ifp q1 h
      refine lv_iload_n hx hb dX7_night_135 rfl (lv_at hl 1 rfl) ?_
      obtain ⟨z1, z2⟩ := pr_inj h
      subst z1
      subst z2
      exact x_iret C hr hP hD hS dX7_night_136
    · have h := ifn q1 h
      refine lv_iload_n hx hb dX7_night_117 rfl (lv_at hl 1 rfl) ?_
      refine lv_aload_n hx hb dX7_night_118 rfl (lv_at hl 0 rfl) ?_
      refine x_get C hP inlX7 0 xw_0 rfl 2 (by decide) mw1_21 rfl dX7_night_119 ?_
      refine x_get C hP inlX2 8 xw_8 rfl 3 (by decide) mw13_23 rfl dX7_night_122 ?_
      refine lv_iload_n hx hb dX7_night_125 rfl (lv_at hl 2 rfl) ?_
      obtain ⟨g2, x3, ex3, h⟩ := rd_some h
      refine x_ild C hP 12 xw_12 g2 ex3 dX7_night_126 ?_
      refine lv_iadd hx hb dX7_night_127 ?_
      obtain ⟨x4, ex4, h⟩ := lt_some h
      refine x_ti ex4 ?_
      refine lv_istore_n (lv' := [(2, .int x4), (0, .ref (ad 0)), (3, .int v3)]) hx hb dX7_night_128 rfl hl (by decide) rfl (fun ls hl => ?_)
      obtain ⟨x5, ex5, h⟩ := lt_some h
      refine lv_iinc (v := x5) (lv' := [(3, .int x5), (2, .int x4), (0, .ref (ad 0))]) hx hb dX7_night_129 hl (k := 2) rfl (by rw [ex5]; rfl) (by decide) rfl (fun ls hl => ?_)
      refine lv_goto (tgt := 106) hx hb dX7_night_132 (by decide) ?_
      exact ih x4 x5 σ h H locs hP hD hS ls (lv_sub hl [2, 1, 0] rfl)
set_option maxHeartbeats 4000000 in
set_option maxRecDepth 100000 in
theorem w_X7_night_0_27 (C : Cx p s m args meth c D cy tT tF A cX7_night 4 RX7) (hr : meth.sig.returnType = some .int) {r : Int32} {σ' : ES} : ∀ (n : Nat) (v1 : Int32) (v2 : Int32) (σ : ES), b_X7_night_0_27 n v1 v2 σ = some (r, σ') → ∀ (H : Heap) (locs : List Loc) (hP : va_P D vwCl (xw cy ad σ) H) (hD : va_D A (xw cy ad σ)) (hS : va_S A s.heap H locs) (ls : Array Slot) (hl : lv_has ls 4 [(0, .ref (ad 0)), (1, .int v1), (2, .int v2)]), W p l e { frames := 3, cells := 0, slots := 0, locals := 70 } s m args below meth c H locs 0 0 (MQ below (Qi D cy A r (xw cy ad σ')) args s 0 0 A) (F0 m 27 ls []) := by
  obtain ⟨⟨hx, hb, hml, hown, hts⟩, hK, hT, hA, hlk⟩ := id C
  intro n
  induction n with
  | zero =>
    intro v1 v2 σ h
    exact no_some h
  | succ n ih =>
    intro v1 v2 σ h H locs hP hD hS ls hl
    rw [b_X7_night_0_27] at h
    refine lv_iload_n hx hb dX7_night_27 rfl (lv_at hl 2 rfl) ?_
    refine lv_iload_n hx hb dX7_night_28 rfl (lv_at hl 1 rfl) ?_
    refine lv_icmp_ge (tgt := 102) hx hb dX7_night_29 (by decide) (fun q1 => ?_) (fun q1 => ?_)
    · have h := ifp q1 h
      refine lv_iconst (v := 0) hx hb dX7_night_102 (by decide) ?_
      refine lv_istore_n (lv' := [(2, .int (0 : Int32)), (0, .ref (ad 0)), (1, .int v1)]) hx hb dX7_night_103 rfl hl (by decide) rfl (fun ls hl => ?_)
      refine lv_iconst (v := 0) hx hb dX7_night_104 (by decide) ?_
      refine lv_istore_n (lv' := [(3, .int (0 : Int32)), (2, .int (0 : Int32)), (0, .ref (ad 0)), (1, .int v1)]) hx hb dX7_night_105 rfl hl (by decide) rfl (fun ls hl => ?_)
      exact w_X7_night_0_106 C hr FU (0 : Int32) (0 : Int32) σ h H locs hP hD hS ls (lv_sub hl [2, 1, 0] rfl)
    · have h := ifn q1 h
      refine lv_aload_n hx hb dX7_night_32 rfl (lv_at hl 0 rfl) ?_
      refine x_get C hP inlX7 0 xw_0 rfl 2 (by decide) mw1_21 rfl dX7_night_33 ?_
      refine x_get C hP inlX2 8 xw_8 rfl 5 (by decide) mw17_12 rfl dX7_night_36 ?_
      refine lv_bipush (v := 20) hx hb dX7_night_39 (by decide) ?_
      refine lv_icmp_ge (tgt := 102) hx hb dX7_night_41 (by decide) (fun q2 => ?_) (fun q2 => ?_)
      · have h := ifp q2 h
        refine lv_iconst (v := 0) hx hb dX7_night_102 (by decide) ?_
        refine lv_istore_n (lv' := [(2, .int (0 : Int32)), (0, .ref (ad 0)), (1, .int v1)]) hx hb dX7_night_103 rfl hl (by decide) rfl (fun ls hl => ?_)
        refine lv_iconst (v := 0) hx hb dX7_night_104 (by decide) ?_
        refine lv_istore_n (lv' := [(3, .int (0 : Int32)), (2, .int (0 : Int32)), (0, .ref (ad 0)), (1, .int v1)]) hx hb dX7_night_105 rfl hl (by decide) rfl (fun ls hl => ?_)
        exact w_X7_night_0_106 C hr FU (0 : Int32) (0 : Int32) σ h H locs hP hD hS ls (lv_sub hl [2, 1, 0] rfl)
      · have h := ifn q2 h
        refine lv_aload_n hx hb dX7_night_44 rfl (lv_at hl 0 rfl) ?_
        refine lv_aload_n hx hb dX7_night_45 rfl (lv_at hl 0 rfl) ?_
        refine x_get C hP inlX7 0 xw_0 rfl 11 (by decide) mw2_23 rfl dX7_night_46 ?_
        refine lv_ldc2 (v := 6364136223846793005) hx hb hown (hts _ mw33_7) dX7_night_49 ?_
        refine lv_lmul hx hb dX7_night_52 ?_
        refine lv_ldc2 (v := 1442695040888963407) hx hb hown (hts _ mw33_8) dX7_night_53 ?_
        refine lv_ladd hx hb dX7_night_56 ?_
        obtain ⟨σ3, eσ3, h⟩ := lt_some h
        refine x_put C hP hD hS inlX7 tyX7 tyX7_ok nmX7 0 xw_0 rfl 11 (by decide) mw2_23 rfl rfl rfl (Nat.le_of_ble_eq_true rfl) (xs_0_11 eσ3) dX7_night_57 (fun H locs hP hD hS => ?_)
        refine lv_aload_n hx hb dX7_night_60 rfl (lv_at hl 0 rfl) ?_
        refine x_get C hP inlX7 0 xw_0 rfl 2 (by decide) mw1_21 rfl dX7_night_61 ?_
        refine lv_aload_n hx hb dX7_night_64 rfl (lv_at hl 0 rfl) ?_
        refine x_get C hP inlX7 0 xw_0 rfl 9 (by decide) mw2_21 rfl dX7_night_65 ?_
        refine lv_aload_n hx hb dX7_night_68 rfl (lv_at hl 0 rfl) ?_
        refine x_get C hP inlX7 0 xw_0 rfl 11 (by decide) mw2_23 rfl dX7_night_69 ?_
        refine lv_bipush (v := 33) hx hb dX7_night_72 (by decide) ?_
        refine lv_lushr hx hb dX7_night_74 rfl ?_
        refine lv_ldc2 (v := 4) hx hb hown (hts _ mw33_9) dX7_night_75 ?_
        refine lv_lrem hx hb dX7_night_78 (by decide) ?_
        refine lv_l2i hx hb dX7_night_79 rfl ?_
        obtain ⟨r6, σ5, g4, h⟩ := cs_some h
        refine x_callVi (rest := []) C hP hD hS (c_X2_lightIfCan_8_30 g4) (cwV 2 hts (gV mw27_14 mw27_15 mw27_16 mw1_19 mw27_17) rfl rfl rfl hdV_X2_lightIfCan ⟨Nat.le_of_ble_eq_true rfl, Nat.le_of_ble_eq_true rfl⟩) xw_8 rfl rfl hl.1 rfl (Nat.le_of_ble_eq_true rfl) dX7_night_80 ⟨Nat.zero_le _, Nat.zero_le _⟩ (fun H locs hP hD hS => ?_)
        refine lv_pop hx hb dX7_night_83 rfl ?_
        refine lv_aload_n hx hb dX7_night_84 rfl (lv_at hl 0 rfl) ?_
        refine x_get C hP inlX7 0 xw_0 rfl 2 (by decide) mw1_21 rfl dX7_night_85 ?_
        refine lv_aload_n hx hb dX7_night_88 rfl (lv_at hl 0 rfl) ?_
        refine x_get C hP inlX7 0 xw_0 rfl 9 (by decide) mw2_21 rfl dX7_night_89 ?_
        obtain ⟨r9, σ8, g7, h⟩ := cs_some h
        refine x_callVi (rest := []) C hP hD hS (c_X2_goBy_8_30 g7) (cwV 1 hts (gV mw17_13 mw17_14 mw17_15 mw1_19 mw17_16) rfl rfl rfl hdV_X2_goBy ⟨Nat.le_of_ble_eq_true rfl, Nat.le_of_ble_eq_true rfl⟩) xw_8 rfl rfl hl.1 rfl (Nat.le_of_ble_eq_true rfl) dX7_night_92 ⟨Nat.zero_le _, Nat.zero_le _⟩ (fun H locs hP hD hS => ?_)
        refine lv_pop hx hb dX7_night_95 rfl ?_
        obtain ⟨x10, ex10, h⟩ := lt_some h
        refine lv_iinc (v := x10) (lv' := [(2, .int x10), (0, .ref (ad 0)), (1, .int v1)]) hx hb dX7_night_96 hl (k := 2) rfl (by rw [ex10]; rfl) (by decide) rfl (fun ls hl => ?_)
        refine lv_goto (tgt := 27) hx hb dX7_night_99 (by decide) ?_
        exact ih v1 x10 σ8 h H locs hP hD hS ls (lv_sub hl [1, 2, 0] rfl)
set_option maxHeartbeats 4000000 in
set_option maxRecDepth 100000 in
theorem w_X7_night_0_0 (C : Cx p s m args meth c D cy tT tF A cX7_night 4 RX7) (hr : meth.sig.returnType = some .int) {r : Int32} {σ' : ES} (a1 : Int32) (σ : ES) (h : b_X7_night_0_0 a1 σ = some (r, σ')) (H : Heap) (locs : List Loc) (hP : va_P D vwCl (xw cy ad σ) H) (hD : va_D A (xw cy ad σ)) (hS : va_S A s.heap H locs) (ls : Array Slot) (hl : lv_has ls 4 [(0, .ref (ad 0)), (1, .int a1)]) : W p l e { frames := 3, cells := 0, slots := 0, locals := 70 } s m args below meth c H locs 0 0 (MQ below (Qi D cy A r (xw cy ad σ')) args s 0 0 A) (F0 m 0 ls []) := by
  obtain ⟨⟨hx, hb, hml, hown, hts⟩, hK, hT, hA, hlk⟩ := id C
  unfold b_X7_night_0_0 at h
  refine lv_iload_n hx hb dX7_night_0 rfl (lv_at hl 1 rfl) ?_
  refine lv_iconst (v := 1) hx hb dX7_night_1 (by decide) ?_
  refine lv_icmp_lt (tgt := 11) hx hb dX7_night_2 (by decide) (fun q1 => ?_) (fun q1 => ?_)
  · have h := ifp q1 h
    refine lv_bipush (v := -2) hx hb dX7_night_11 (by decide) ?_
    obtain ⟨z1, z2⟩ := pr_inj h
    subst z1
    subst z2
    exact x_iret C hr hP hD hS dX7_night_13
  · have h := ifn q1 h
    refine lv_iload_n hx hb dX7_night_5 rfl (lv_at hl 1 rfl) ?_
    refine lv_bipush (v := 20) hx hb dX7_night_6 (by decide) ?_
    refine lv_icmp_le (tgt := 14) hx hb dX7_night_8 (by decide) (fun q2 => ?_) (fun q2 => ?_)
    · have h := ifp q2 h
      refine lv_aload_n hx hb dX7_night_14 rfl (lv_at hl 0 rfl) ?_
      refine x_get C hP inlX7 0 xw_0 rfl 2 (by decide) mw1_21 rfl dX7_night_15 ?_
      refine lv_aload_n hx hb dX7_night_18 rfl (lv_at hl 0 rfl) ?_
      refine x_get C hP inlX7 0 xw_0 rfl 1 (by decide) mw1_20 rfl dX7_night_19 ?_
      obtain ⟨σ4, g3, h⟩ := cl_some h
      refine x_callVv (rest := []) C hP hD hS (c_X2_copy_8_3 g3) (cwV 1 hts (gV mw27_3 mw27_4 mw27_5 mw1_19 mw27_6) rfl rfl rfl hdV_X2_copy ⟨Nat.le_of_ble_eq_true rfl, Nat.le_of_ble_eq_true rfl⟩) xw_8 rfl rfl hl.1 rfl (Nat.le_of_ble_eq_true rfl) dX7_night_22 ⟨Nat.zero_le _, Nat.zero_le _⟩ (fun H locs hP hD hS => ?_)
      refine lv_iconst (v := 0) hx hb dX7_night_25 (by decide) ?_
      refine lv_istore_n (lv' := [(2, .int (0 : Int32)), (0, .ref (ad 0)), (1, .int a1)]) hx hb dX7_night_26 rfl hl (by decide) rfl (fun ls hl => ?_)
      exact w_X7_night_0_27 C hr FU a1 (0 : Int32) σ4 h H locs hP hD hS ls (lv_sub hl [1, 2, 0] rfl)
    · have h := ifn q2 h
      refine lv_bipush (v := -2) hx hb dX7_night_11 (by decide) ?_
      obtain ⟨z1, z2⟩ := pr_inj h
      subst z1
      subst z2
      exact x_iret C hr hP hD hS dX7_night_13
theorem c_X7_night_0 {l : Launch} {D : va_G} {cy : Nat → ClassId} {tT tF : Nat} {ad : Nat → Nat} {σ : ES} {a1 : Int32} {r : Int32} {σ' : ES} (h : e_X7_night_0 a1 σ = some (r, σ')) : CMi l yX7_night (Cond.code yX7_night cX7_night 4 (some .int) :: wsL_law) { frames := 3, cells := 0, slots := 0, locals := 70 } D cy tT tF [.ref (ad 0), .int a1] (xw cy ad σ) r (xw cy ad σ') := x_start (Qc := fun A => (Qi D cy A r (xw cy ad σ'))) (by decide) (Nat.le_of_ble_eq_true rfl) (fun p e s m below meth c A ls C hr hP hD hS hl => w_X7_night_0_0 C hr a1 σ h s.heap [] hP hD hS ls hl)
set_option maxHeartbeats 4000000 in
set_option maxRecDepth 100000 in
theorem w_X2_saveTo_3_28_72 (C : Cx p s m args meth c D cy tT tF A cX2_saveTo 4 RX2) (hr : meth.sig.returnType = none) {σ' : ES} : ∀ (n : Nat) (v2 : Int32) (v3 : Int32) (σ : ES), b_X2_saveTo_3_28_72 n v2 v3 σ = some σ' → ∀ (H : Heap) (locs : List Loc) (hP : va_P D vwCl (xw cy ad σ) H) (hD : va_D A (xw cy ad σ)) (hS : va_S A s.heap H locs) (ls : Array Slot) (hl : lv_has ls 4 [(0, .ref (ad 3)), (1, .ref (ad 28)), (2, .int v2), (3, .int v3)]), W p l e { frames := 0, cells := 0, slots := 0, locals := 0 } s m args below meth c H locs 0 0 (MQ below (Qv D cy A (xw cy ad σ')) args s 0 0 A) (F0 m 72 ls []) := by
  obtain ⟨⟨hx, hb, hml, hown, hts⟩, hK, hT, hA, hlk⟩ := id C
  intro n
  induction n with
  | zero =>
    intro v2 v3 σ h
    exact no_some h
  | succ n ih =>
    intro v2 v3 σ h H locs hP hD hS ls hl
    rw [b_X2_saveTo_3_28_72] at h
    refine lv_iload_n hx hb dX2_saveTo_72 rfl (lv_at hl 3 rfl) ?_
    refine lv_iconst (v := 4) hx hb dX2_saveTo_73 (by decide) ?_
    refine lv_icmp_ge (tgt := 97) hx hb dX2_saveTo_74 (by decide) (fun q1 => ?_) (fun q1 => ?_)
    · have h := ifp q1 h
      refine lv_aload_n hx hb dX2_saveTo_97 rfl (lv_at hl 1 rfl) ?_
      refine lv_iload_n hx hb dX2_saveTo_98 rfl (lv_at hl 2 rfl) ?_
      refine lv_bipush (v := 18) hx hb dX2_saveTo_99 (by decide) ?_
      refine lv_iadd hx hb dX2_saveTo_101 ?_
      refine lv_iconst (v := 2) hx hb dX2_saveTo_102 (by decide) ?_
      refine lv_isub hx hb dX2_saveTo_103 ?_
      refine lv_aload_n hx hb dX2_saveTo_104 rfl (lv_at hl 0 rfl) ?_
      refine x_get C hP inlX2 3 xw_3 rfl 4 (by decide) mw3_14 rfl dX2_saveTo_105 ?_
      obtain ⟨g2, σ3, eσ3, h⟩ := wr_some h
      refine x_ist C hP hD hS 28 xw_28 g2 (xa_28 eσ3) dX2_saveTo_108 (fun H locs hP hD hS => ?_)
      refine lv_aload_n hx hb dX2_saveTo_109 rfl (lv_at hl 1 rfl) ?_
      refine lv_iload_n hx hb dX2_saveTo_110 rfl (lv_at hl 2 rfl) ?_
      refine lv_bipush (v := 18) hx hb dX2_saveTo_111 (by decide) ?_
      refine lv_iadd hx hb dX2_saveTo_113 ?_
      refine lv_iconst (v := 1) hx hb dX2_saveTo_114 (by decide) ?_
      refine lv_isub hx hb dX2_saveTo_115 ?_
      refine lv_aload_n hx hb dX2_saveTo_116 rfl (lv_at hl 0 rfl) ?_
      refine x_get C hP inlX2 3 xw_3 rfl 5 (by decide) mw3_15 rfl dX2_saveTo_117 ?_
      obtain ⟨g4, σ5, eσ5, h⟩ := wr_some h
      refine x_ist C hP hD hS 28 xw_28 g4 (xa_28 eσ5) dX2_saveTo_120 (fun H locs hP hD hS => ?_)
      have z1 := so_inj h
      subst z1
      exact x_vret C hr hP hD hS dX2_saveTo_121
    · have h := ifn q1 h
      refine lv_aload_n hx hb dX2_saveTo_77 rfl (lv_at hl 1 rfl) ?_
      refine lv_iload_n hx hb dX2_saveTo_78 rfl (lv_at hl 2 rfl) ?_
      refine lv_bipush (v := 12) hx hb dX2_saveTo_79 (by decide) ?_
      refine lv_iadd hx hb dX2_saveTo_81 ?_
      refine lv_iload_n hx hb dX2_saveTo_82 rfl (lv_at hl 3 rfl) ?_
      refine lv_iadd hx hb dX2_saveTo_83 ?_
      refine lv_aload_n hx hb dX2_saveTo_84 rfl (lv_at hl 0 rfl) ?_
      refine x_get C hP inlX2 3 xw_3 rfl 3 (by decide) mw3_13 rfl dX2_saveTo_85 ?_
      refine lv_iload_n hx hb dX2_saveTo_88 rfl (lv_at hl 3 rfl) ?_
      obtain ⟨g6, x7, ex7, h⟩ := rd_some h
      refine x_ild C hP 7 xw_7 g6 ex7 dX2_saveTo_89 ?_
      obtain ⟨g8, σ9, eσ9, h⟩ := wr_some h
      refine x_ist C hP hD hS 28 xw_28 g8 (xa_28 eσ9) dX2_saveTo_90 (fun H locs hP hD hS => ?_)
      obtain ⟨x10, ex10, h⟩ := lt_some h
      refine lv_iinc (v := x10) (lv' := [(3, .int x10), (0, .ref (ad 3)), (1, .ref (ad 28)), (2, .int v2)]) hx hb dX2_saveTo_91 hl (k := 3) rfl (by rw [ex10]; rfl) (by decide) rfl (fun ls hl => ?_)
      refine lv_goto (tgt := 72) hx hb dX2_saveTo_94 (by decide) ?_
      exact ih v2 x10 σ9 h H locs hP hD hS ls (lv_sub hl [1, 2, 3, 0] rfl)
set_option maxHeartbeats 4000000 in
set_option maxRecDepth 100000 in
theorem w_X2_saveTo_3_28_16 (C : Cx p s m args meth c D cy tT tF A cX2_saveTo 4 RX2) (hr : meth.sig.returnType = none) {σ' : ES} : ∀ (n : Nat) (v2 : Int32) (v3 : Int32) (σ : ES), b_X2_saveTo_3_28_16 n v2 v3 σ = some σ' → ∀ (H : Heap) (locs : List Loc) (hP : va_P D vwCl (xw cy ad σ) H) (hD : va_D A (xw cy ad σ)) (hS : va_S A s.heap H locs) (ls : Array Slot) (hl : lv_has ls 4 [(0, .ref (ad 3)), (1, .ref (ad 28)), (2, .int v2), (3, .int v3)]), W p l e { frames := 0, cells := 0, slots := 0, locals := 0 } s m args below meth c H locs 0 0 (MQ below (Qv D cy A (xw cy ad σ')) args s 0 0 A) (F0 m 16 ls []) := by
  obtain ⟨⟨hx, hb, hml, hown, hts⟩, hK, hT, hA, hlk⟩ := id C
  intro n
  induction n with
  | zero =>
    intro v2 v3 σ h
    exact no_some h
  | succ n ih =>
    intro v2 v3 σ h H locs hP hD hS ls hl
    rw [b_X2_saveTo_3_28_16] at h
    refine lv_iload_n hx hb dX2_saveTo_16 rfl (lv_at hl 3 rfl) ?_
    refine lv_iconst (v := 4) hx hb dX2_saveTo_17 (by decide) ?_
    refine lv_icmp_ge (tgt := 70) hx hb dX2_saveTo_18 (by decide) (fun q1 => ?_) (fun q1 => ?_)
    · have h := ifp q1 h
      refine lv_iconst (v := 0) hx hb dX2_saveTo_70 (by decide) ?_
      refine lv_istore_n (lv' := [(3, .int (0 : Int32)), (0, .ref (ad 3)), (1, .ref (ad 28)), (2, .int v2)]) hx hb dX2_saveTo_71 rfl hl (by decide) rfl (fun ls hl => ?_)
      exact w_X2_saveTo_3_28_72 C hr FU v2 (0 : Int32) σ h H locs hP hD hS ls (lv_sub hl [1, 2, 3, 0] rfl)
    · have h := ifn q1 h
      refine lv_aload_n hx hb dX2_saveTo_21 rfl (lv_at hl 1 rfl) ?_
      refine lv_iload_n hx hb dX2_saveTo_22 rfl (lv_at hl 2 rfl) ?_
      refine lv_iconst (v := 3) hx hb dX2_saveTo_23 (by decide) ?_
      refine lv_iload_n hx hb dX2_saveTo_24 rfl (lv_at hl 3 rfl) ?_
      refine lv_imul hx hb dX2_saveTo_25 ?_
      refine lv_iadd hx hb dX2_saveTo_26 ?_
      refine lv_aload_n hx hb dX2_saveTo_27 rfl (lv_at hl 0 rfl) ?_
      refine x_get C hP inlX2 3 xw_3 rfl 0 (by decide) mw3_10 rfl dX2_saveTo_28 ?_
      refine lv_iload_n hx hb dX2_saveTo_31 rfl (lv_at hl 3 rfl) ?_
      obtain ⟨g2, x3, ex3, h⟩ := rd_some h
      refine x_ild C hP 4 xw_4 g2 ex3 dX2_saveTo_32 ?_
      obtain ⟨g4, σ5, eσ5, h⟩ := wr_some h
      refine x_ist C hP hD hS 28 xw_28 g4 (xa_28 eσ5) dX2_saveTo_33 (fun H locs hP hD hS => ?_)
      refine lv_aload_n hx hb dX2_saveTo_34 rfl (lv_at hl 1 rfl) ?_
      refine lv_iload_n hx hb dX2_saveTo_35 rfl (lv_at hl 2 rfl) ?_
      refine lv_iconst (v := 3) hx hb dX2_saveTo_36 (by decide) ?_
      refine lv_iload_n hx hb dX2_saveTo_37 rfl (lv_at hl 3 rfl) ?_
      refine lv_imul hx hb dX2_saveTo_38 ?_
      refine lv_iadd hx hb dX2_saveTo_39 ?_
      refine lv_iconst (v := 1) hx hb dX2_saveTo_40 (by decide) ?_
      refine lv_iadd hx hb dX2_saveTo_41 ?_
      refine lv_aload_n hx hb dX2_saveTo_42 rfl (lv_at hl 0 rfl) ?_
      refine x_get C hP inlX2 3 xw_3 rfl 1 (by decide) mw3_11 rfl dX2_saveTo_43 ?_
      refine lv_iload_n hx hb dX2_saveTo_46 rfl (lv_at hl 3 rfl) ?_
      obtain ⟨g6, x7, ex7, h⟩ := rd_some h
      refine x_ild C hP 5 xw_5 g6 ex7 dX2_saveTo_47 ?_
      obtain ⟨g8, σ9, eσ9, h⟩ := wr_some h
      refine x_ist C hP hD hS 28 xw_28 g8 (xa_28 eσ9) dX2_saveTo_48 (fun H locs hP hD hS => ?_)
      refine lv_aload_n hx hb dX2_saveTo_49 rfl (lv_at hl 1 rfl) ?_
      refine lv_iload_n hx hb dX2_saveTo_50 rfl (lv_at hl 2 rfl) ?_
      refine lv_iconst (v := 3) hx hb dX2_saveTo_51 (by decide) ?_
      refine lv_iload_n hx hb dX2_saveTo_52 rfl (lv_at hl 3 rfl) ?_
      refine lv_imul hx hb dX2_saveTo_53 ?_
      refine lv_iadd hx hb dX2_saveTo_54 ?_
      refine lv_iconst (v := 2) hx hb dX2_saveTo_55 (by decide) ?_
      refine lv_iadd hx hb dX2_saveTo_56 ?_
      refine lv_aload_n hx hb dX2_saveTo_57 rfl (lv_at hl 0 rfl) ?_
      refine x_get C hP inlX2 3 xw_3 rfl 2 (by decide) mw3_12 rfl dX2_saveTo_58 ?_
      refine lv_iload_n hx hb dX2_saveTo_61 rfl (lv_at hl 3 rfl) ?_
      obtain ⟨g10, x11, ex11, h⟩ := rd_some h
      refine x_ild C hP 6 xw_6 g10 ex11 dX2_saveTo_62 ?_
      obtain ⟨g12, σ13, eσ13, h⟩ := wr_some h
      refine x_ist C hP hD hS 28 xw_28 g12 (xa_28 eσ13) dX2_saveTo_63 (fun H locs hP hD hS => ?_)
      obtain ⟨x14, ex14, h⟩ := lt_some h
      refine lv_iinc (v := x14) (lv' := [(3, .int x14), (0, .ref (ad 3)), (1, .ref (ad 28)), (2, .int v2)]) hx hb dX2_saveTo_64 hl (k := 3) rfl (by rw [ex14]; rfl) (by decide) rfl (fun ls hl => ?_)
      refine lv_goto (tgt := 16) hx hb dX2_saveTo_67 (by decide) ?_
      exact ih v2 x14 σ13 h H locs hP hD hS ls (lv_sub hl [1, 2, 3, 0] rfl)
set_option maxHeartbeats 4000000 in
set_option maxRecDepth 100000 in
theorem w_X2_saveTo_3_28_0 (C : Cx p s m args meth c D cy tT tF A cX2_saveTo 4 RX2) (hr : meth.sig.returnType = none) {σ' : ES} (a2 : Int32) (σ : ES) (h : b_X2_saveTo_3_28_0 a2 σ = some σ') (H : Heap) (locs : List Loc) (hP : va_P D vwCl (xw cy ad σ) H) (hD : va_D A (xw cy ad σ)) (hS : va_S A s.heap H locs) (ls : Array Slot) (hl : lv_has ls 4 [(0, .ref (ad 3)), (1, .ref (ad 28)), (2, .int a2)]) : W p l e { frames := 0, cells := 0, slots := 0, locals := 0 } s m args below meth c H locs 0 0 (MQ below (Qv D cy A (xw cy ad σ')) args s 0 0 A) (F0 m 0 ls []) := by
  obtain ⟨⟨hx, hb, hml, hown, hts⟩, hK, hT, hA, hlk⟩ := id C
  unfold b_X2_saveTo_3_28_0 at h
  refine lv_iload_n hx hb dX2_saveTo_0 rfl (lv_at hl 2 rfl) ?_
  refine lv_if_lt (tgt := 13) hx hb dX2_saveTo_1 (by decide) (fun q1 => ?_) (fun q1 => ?_)
  · have h := ifp q1 h
    have z1 := so_inj h
    subst z1
    exact x_vret C hr hP hD hS dX2_saveTo_13
  · have h := ifn q1 h
    refine lv_iload_n hx hb dX2_saveTo_4 rfl (lv_at hl 2 rfl) ?_
    refine lv_bipush (v := 18) hx hb dX2_saveTo_5 (by decide) ?_
    refine lv_iadd hx hb dX2_saveTo_7 ?_
    refine lv_aload_n hx hb dX2_saveTo_8 rfl (lv_at hl 1 rfl) ?_
    refine x_alen C hP 28 xw_28 (v := 36) rfl dX2_saveTo_9 ?_
    refine lv_icmp_le (tgt := 14) hx hb dX2_saveTo_10 (by decide) (fun q2 => ?_) (fun q2 => ?_)
    · have h := ifp q2 h
      refine lv_iconst (v := 0) hx hb dX2_saveTo_14 (by decide) ?_
      refine lv_istore_n (lv' := [(3, .int (0 : Int32)), (0, .ref (ad 3)), (1, .ref (ad 28)), (2, .int a2)]) hx hb dX2_saveTo_15 rfl hl (by decide) rfl (fun ls hl => ?_)
      exact w_X2_saveTo_3_28_16 C hr FU a2 (0 : Int32) σ h H locs hP hD hS ls (lv_sub hl [1, 2, 3, 0] rfl)
    · have h := ifn q2 h
      have z1 := so_inj h
      subst z1
      exact x_vret C hr hP hD hS dX2_saveTo_13
theorem c_X2_saveTo_3_28 {l : Launch} {D : va_G} {cy : Nat → ClassId} {tT tF : Nat} {ad : Nat → Nat} {σ : ES} {a2 : Int32} {σ' : ES} (h : e_X2_saveTo_3_28 a2 σ = some σ') : CMv l yX2_saveTo (Cond.code yX2_saveTo cX2_saveTo 4 none :: wsL_law) { frames := 0, cells := 0, slots := 0, locals := 0 } D cy tT tF [.ref (ad 3), .ref (ad 28), .int a2] (xw cy ad σ) (xw cy ad σ') := x_start (Qc := fun A => (Qv D cy A (xw cy ad σ'))) (by decide) (Nat.le_of_ble_eq_true rfl) (fun p e s m below meth c A ls C hr hP hD hS hl => w_X2_saveTo_3_28_0 C hr a2 σ h s.heap [] hP hD hS ls hl)
end WK11

theorem sc_in {i L : Nat} (hi : i + 5 ≤ L) (hL : L ≤ 320) (j : Nat) (hj : j < 5) {x : Int32} (hx : x = nI j) : vp_in (nI i + x) L := by
  subst hx
  rw [nI_add]
  exact vp_in_nI (by omega) (by omega)
theorem lg_self (x : Int64) : lg_cmp x x = 0 := by
  unfold lg_cmp
  rw [if_neg (Int64.lt_irrefl), if_pos rfl]
theorem sw_0 (fb : Bool) (ad : Nat → Nat) : swb fb ad 0 = ad 0 := by cases fb <;> rfl
def LK (p : Program) (l : Launch) (e : Env) (s : State) (m : MethodId) (below : List Frame) (meth : Method) (c : Code) (D : va_G) (cy : Nat → ClassId) (b i : Nat) (Q : State → Prop) : Prop := ∀ (σ τ : ES) (ad ad2 : Nat → Nat) (H : Heap) (locs : List Loc) (ls : Array Slot), Rel σ τ → va_P D vwCl (xw cy ad σ ++ mw cy ad2 τ) H → va_D (fun q : Nat => s.heap.size ≤ q) (xw cy ad σ ++ mw cy ad2 τ) → va_S (fun q : Nat => s.heap.size ≤ q) s.heap H locs → lv_has ls 4 [(0, .ref b), (1, .ref (ad 0)), (2, .ref (ad2 0)), (3, .int (nI i))] → W p l e room_1 s m #[Value.ref b] below meth c H locs 600000 7302250 Q (F0 m 1040 ls [])
section LAW
variable {p : Program} {l : Launch} {e : Env} {s : State} {m : MethodId} {below : List Frame} {meth : Method} {c : Code} {D : va_G} {cy : Nat → ClassId} {tT tF : Nat} {b L i : Nat} {xs : Nat → Int32} {Q : State → Prop}
set_option maxHeartbeats 4000000 in
set_option maxRecDepth 100000 in
theorem lw_case_0 (C : Cx p s m #[Value.ref b] meth c D cy tT tF (fun q : Nat => s.heap.size ≤ q) cL_law 4 RL) (hX : va_X b L xs s s.heap) (hbl : b < s.heap.size) (hi : i + 5 ≤ L) (hL : L ≤ 320) (kk : LK p l e s m below meth c D cy b i Q) {σ τ : ES} (hR : Rel σ τ) {ad ad2 : Nat → Nat} {H : Heap} {locs : List Loc} {ls : Array Slot} (hP : va_P D vwCl (xw cy ad σ ++ mw cy ad2 τ) H) (hD : va_D (fun q : Nat => s.heap.size ≤ q) (xw cy ad σ ++ mw cy ad2 τ)) (hS : va_S (fun q : Nat => s.heap.size ≤ q) s.heap H locs) (hl : lv_has ls 4 [(0, .ref b), (1, .ref (ad 0)), (2, .ref (ad2 0)), (3, .int (nI i))]) : W p l e room_1 s m #[Value.ref b] below meth c H locs 600000 7302250 Q (F0 m 172 ls []) := by
  obtain ⟨⟨hx, hb, hml, hown, hts⟩, hK, hT, hA, hlk⟩ := id C
  have hbA : ¬ (fun q : Nat => s.heap.size ≤ q) b := Nat.not_le.mpr hbl
  refine lv_aload_n hx hb dL_law_172 rfl (lv_at hl 1 rfl) ?_
  refine lv_aload_n hx hb dL_law_173 rfl (lv_at hl 0 rfl) ?_
  refine lv_iload_n hx hb dL_law_174 rfl (lv_at hl 3 rfl) ?_
  refine lv_iconst (v := 1) hx hb dL_law_175 (by decide) ?_
  refine lv_iadd hx hb dL_law_176 ?_
  refine va_sld hx hb hX hbl hbA hS (sc_in hi hL 1 (by decide) rfl) dL_law_177 ?_
  obtain ⟨r, σ1, τ1, g1, g2, hR1⟩ := st_write hR (xs (nI i + (1 : Int32)).toNatClampNeg)
  refine x_callViL (rest := []) C hP hD hS (c_X7_write_0 g1) (cwV 1 hts (gV mw6_20 mw6_21 mw6_22 mw1_2 mw6_23) rfl rfl rfl hdV_X7_write ⟨Nat.le_of_ble_eq_true rfl, Nat.le_of_ble_eq_true rfl⟩) xw_0 rfl rfl hl.1 rfl (Nat.le_of_ble_eq_true rfl) dL_law_178 ⟨Nat.le_of_ble_eq_true rfl, Nat.le_of_ble_eq_true rfl⟩ (fun H locs hP hD hS => ?_)
  refine lv_aload_n hx hb dL_law_181 rfl (lv_at hl 2 rfl) ?_
  refine lv_aload_n hx hb dL_law_182 rfl (lv_at hl 0 rfl) ?_
  refine lv_iload_n hx hb dL_law_183 rfl (lv_at hl 3 rfl) ?_
  refine lv_iconst (v := 1) hx hb dL_law_184 (by decide) ?_
  refine lv_iadd hx hb dL_law_185 ?_
  refine va_sld hx hb hX hbl hbA hS (sc_in hi hL 1 (by decide) rfl) dL_law_186 ?_
  refine x_callViR (rest := [.int r]) C hP hD hS (c_X8_write g2) (cwV 1 hts (gV mw7_4 mw7_5 mw7_6 mw1_5 mw7_7) rfl rfl rfl hdV_X8_write ⟨Nat.le_of_ble_eq_true rfl, Nat.le_of_ble_eq_true rfl⟩) mw_0 rfl rfl hl.1 rfl (Nat.le_of_ble_eq_true rfl) dL_law_187 ⟨Nat.le_of_ble_eq_true rfl, Nat.le_of_ble_eq_true rfl⟩ (fun H locs hP hD hS => ?_)
  refine lv_icmp_eq (tgt := 1040) hx hb dL_law_190 (by decide) (fun q => ?_) (fun q => absurd rfl q)
  exact kk _ _ _ _ H locs ls hR1 hP hD hS hl
set_option maxHeartbeats 4000000 in
set_option maxRecDepth 100000 in
theorem lw_case_1 (C : Cx p s m #[Value.ref b] meth c D cy tT tF (fun q : Nat => s.heap.size ≤ q) cL_law 4 RL) (hX : va_X b L xs s s.heap) (hbl : b < s.heap.size) (hi : i + 5 ≤ L) (hL : L ≤ 320) (kk : LK p l e s m below meth c D cy b i Q) {σ τ : ES} (hR : Rel σ τ) {ad ad2 : Nat → Nat} {H : Heap} {locs : List Loc} {ls : Array Slot} (hP : va_P D vwCl (xw cy ad σ ++ mw cy ad2 τ) H) (hD : va_D (fun q : Nat => s.heap.size ≤ q) (xw cy ad σ ++ mw cy ad2 τ)) (hS : va_S (fun q : Nat => s.heap.size ≤ q) s.heap H locs) (hl : lv_has ls 4 [(0, .ref b), (1, .ref (ad 0)), (2, .ref (ad2 0)), (3, .int (nI i))]) : W p l e room_1 s m #[Value.ref b] below meth c H locs 600000 7302250 Q (F0 m 195 ls []) := by
  obtain ⟨⟨hx, hb, hml, hown, hts⟩, hK, hT, hA, hlk⟩ := id C
  have hbA : ¬ (fun q : Nat => s.heap.size ≤ q) b := Nat.not_le.mpr hbl
  refine lv_aload_n hx hb dL_law_195 rfl (lv_at hl 1 rfl) ?_
  obtain ⟨r, σ1, τ1, g1, g2, hR1⟩ := st_wipe hR 
  refine x_callViL (rest := []) C hP hD hS (c_X7_wipe_0 g1) (cwV 0 hts (gV mw7_13 mw7_14 mw7_15 mw1_2 mw7_16) rfl rfl rfl hdV_X7_wipe ⟨Nat.le_of_ble_eq_true rfl, Nat.le_of_ble_eq_true rfl⟩) xw_0 rfl rfl hl.1 rfl (Nat.le_of_ble_eq_true rfl) dL_law_196 ⟨Nat.le_of_ble_eq_true rfl, Nat.le_of_ble_eq_true rfl⟩ (fun H locs hP hD hS => ?_)
  refine lv_aload_n hx hb dL_law_199 rfl (lv_at hl 2 rfl) ?_
  refine x_callViR (rest := [.int r]) C hP hD hS (c_X8_wipe g2) (cwV 0 hts (gV mw7_21 mw7_22 mw7_23 mw1_5 mw8_0) rfl rfl rfl hdV_X8_wipe ⟨Nat.le_of_ble_eq_true rfl, Nat.le_of_ble_eq_true rfl⟩) mw_0 rfl rfl hl.1 rfl (Nat.le_of_ble_eq_true rfl) dL_law_200 ⟨Nat.le_of_ble_eq_true rfl, Nat.le_of_ble_eq_true rfl⟩ (fun H locs hP hD hS => ?_)
  refine lv_icmp_eq (tgt := 1040) hx hb dL_law_203 (by decide) (fun q => ?_) (fun q => absurd rfl q)
  exact kk _ _ _ _ H locs ls hR1 hP hD hS hl
set_option maxHeartbeats 4000000 in
set_option maxRecDepth 100000 in
theorem lw_case_2 (C : Cx p s m #[Value.ref b] meth c D cy tT tF (fun q : Nat => s.heap.size ≤ q) cL_law 4 RL) (hX : va_X b L xs s s.heap) (hbl : b < s.heap.size) (hi : i + 5 ≤ L) (hL : L ≤ 320) (kk : LK p l e s m below meth c D cy b i Q) {σ τ : ES} (hR : Rel σ τ) {ad ad2 : Nat → Nat} {H : Heap} {locs : List Loc} {ls : Array Slot} (hP : va_P D vwCl (xw cy ad σ ++ mw cy ad2 τ) H) (hD : va_D (fun q : Nat => s.heap.size ≤ q) (xw cy ad σ ++ mw cy ad2 τ)) (hS : va_S (fun q : Nat => s.heap.size ≤ q) s.heap H locs) (hl : lv_has ls 4 [(0, .ref b), (1, .ref (ad 0)), (2, .ref (ad2 0)), (3, .int (nI i))]) : W p l e room_1 s m #[Value.ref b] below meth c H locs 600000 7302250 Q (F0 m 208 ls []) := by
  obtain ⟨⟨hx, hb, hml, hown, hts⟩, hK, hT, hA, hlk⟩ := id C
  have hbA : ¬ (fun q : Nat => s.heap.size ≤ q) b := Nat.not_le.mpr hbl
  refine lv_aload_n hx hb dL_law_208 rfl (lv_at hl 1 rfl) ?_
  obtain ⟨r, σ1, τ1, g1, g2, hR1⟩ := st_fault hR 
  refine x_callViL (rest := []) C hP hD hS (c_X7_fault_0 g1) (cwV 0 hts (gV mw8_1 mw8_2 mw8_3 mw1_2 mw8_4) rfl rfl rfl hdV_X7_fault ⟨Nat.le_of_ble_eq_true rfl, Nat.le_of_ble_eq_true rfl⟩) xw_0 rfl rfl hl.1 rfl (Nat.le_of_ble_eq_true rfl) dL_law_209 ⟨Nat.le_of_ble_eq_true rfl, Nat.le_of_ble_eq_true rfl⟩ (fun H locs hP hD hS => ?_)
  refine lv_aload_n hx hb dL_law_212 rfl (lv_at hl 2 rfl) ?_
  refine x_callViR (rest := [.int r]) C hP hD hS (c_X8_fault g2) (cwV 0 hts (gV mw10_4 mw10_5 mw10_6 mw1_5 mw10_7) rfl rfl rfl hdV_X8_fault ⟨Nat.le_of_ble_eq_true rfl, Nat.le_of_ble_eq_true rfl⟩) mw_0 rfl rfl hl.1 rfl (Nat.le_of_ble_eq_true rfl) dL_law_213 ⟨Nat.le_of_ble_eq_true rfl, Nat.le_of_ble_eq_true rfl⟩ (fun H locs hP hD hS => ?_)
  refine lv_icmp_eq (tgt := 1040) hx hb dL_law_216 (by decide) (fun q => ?_) (fun q => absurd rfl q)
  exact kk _ _ _ _ H locs ls hR1 hP hD hS hl
set_option maxHeartbeats 4000000 in
set_option maxRecDepth 100000 in
theorem lw_case_3 (C : Cx p s m #[Value.ref b] meth c D cy tT tF (fun q : Nat => s.heap.size ≤ q) cL_law 4 RL) (hX : va_X b L xs s s.heap) (hbl : b < s.heap.size) (hi : i + 5 ≤ L) (hL : L ≤ 320) (kk : LK p l e s m below meth c D cy b i Q) {σ τ : ES} (hR : Rel σ τ) {ad ad2 : Nat → Nat} {H : Heap} {locs : List Loc} {ls : Array Slot} (hP : va_P D vwCl (xw cy ad σ ++ mw cy ad2 τ) H) (hD : va_D (fun q : Nat => s.heap.size ≤ q) (xw cy ad σ ++ mw cy ad2 τ)) (hS : va_S (fun q : Nat => s.heap.size ≤ q) s.heap H locs) (hl : lv_has ls 4 [(0, .ref b), (1, .ref (ad 0)), (2, .ref (ad2 0)), (3, .int (nI i))]) : W p l e room_1 s m #[Value.ref b] below meth c H locs 600000 7302250 Q (F0 m 221 ls []) := by
  obtain ⟨⟨hx, hb, hml, hown, hts⟩, hK, hT, hA, hlk⟩ := id C
  have hbA : ¬ (fun q : Nat => s.heap.size ≤ q) b := Nat.not_le.mpr hbl
  refine lv_aload_n hx hb dL_law_221 rfl (lv_at hl 1 rfl) ?_
  obtain ⟨r, σ1, fb, τ1, g1, g2, hR1⟩ := st_party hR 
  refine x_callViL (rest := []) C hP hD hS (c_X7_party_0 g1) (cwV 0 hts (gV mw11_6 mw11_7 mw11_8 mw1_2 mw11_9) rfl rfl rfl hdV_X7_party ⟨Nat.le_of_ble_eq_true rfl, Nat.le_of_ble_eq_true rfl⟩) xw_0 rfl rfl hl.1 rfl (Nat.le_of_ble_eq_true rfl) dL_law_222 ⟨Nat.le_of_ble_eq_true rfl, Nat.le_of_ble_eq_true rfl⟩ (fun H locs hP hD hS => ?_)
  rw [← sw_0 fb ad] at hl
  refine lv_aload_n hx hb dL_law_225 rfl (lv_at hl 2 rfl) ?_
  refine x_callViR (rest := [.int r]) C hP hD hS (c_X8_party g2) (cwV 0 hts (gV mw11_23 mw12_0 mw12_1 mw1_5 mw12_2) rfl rfl rfl hdV_X8_party ⟨Nat.le_of_ble_eq_true rfl, Nat.le_of_ble_eq_true rfl⟩) mw_0 rfl rfl hl.1 rfl (Nat.le_of_ble_eq_true rfl) dL_law_226 ⟨Nat.le_of_ble_eq_true rfl, Nat.le_of_ble_eq_true rfl⟩ (fun H locs hP hD hS => ?_)
  refine lv_icmp_eq (tgt := 1040) hx hb dL_law_229 (by decide) (fun q => ?_) (fun q => absurd rfl q)
  exact kk _ _ _ _ H locs ls hR1 hP hD hS hl
set_option maxHeartbeats 4000000 in
set_option maxRecDepth 100000 in
theorem lw_case_4 (C : Cx p s m #[Value.ref b] meth c D cy tT tF (fun q : Nat => s.heap.size ≤ q) cL_law 4 RL) (hX : va_X b L xs s s.heap) (hbl : b < s.heap.size) (hi : i + 5 ≤ L) (hL : L ≤ 320) (kk : LK p l e s m below meth c D cy b i Q) {σ τ : ES} (hR : Rel σ τ) {ad ad2 : Nat → Nat} {H : Heap} {locs : List Loc} {ls : Array Slot} (hP : va_P D vwCl (xw cy ad σ ++ mw cy ad2 τ) H) (hD : va_D (fun q : Nat => s.heap.size ≤ q) (xw cy ad σ ++ mw cy ad2 τ)) (hS : va_S (fun q : Nat => s.heap.size ≤ q) s.heap H locs) (hl : lv_has ls 4 [(0, .ref b), (1, .ref (ad 0)), (2, .ref (ad2 0)), (3, .int (nI i))]) : W p l e room_1 s m #[Value.ref b] below meth c H locs 600000 7302250 Q (F0 m 234 ls []) := by
  obtain ⟨⟨hx, hb, hml, hown, hts⟩, hK, hT, hA, hlk⟩ := id C
  have hbA : ¬ (fun q : Nat => s.heap.size ≤ q) b := Nat.not_le.mpr hbl
  refine lv_aload_n hx hb dL_law_234 rfl (lv_at hl 1 rfl) ?_
  refine lv_aload_n hx hb dL_law_235 rfl (lv_at hl 0 rfl) ?_
  refine lv_iload_n hx hb dL_law_236 rfl (lv_at hl 3 rfl) ?_
  refine lv_iconst (v := 1) hx hb dL_law_237 (by decide) ?_
  refine lv_iadd hx hb dL_law_238 ?_
  refine va_sld hx hb hX hbl hbA hS (sc_in hi hL 1 (by decide) rfl) dL_law_239 ?_
  obtain ⟨r, g1, g2⟩ := st_moment hR (xs (nI i + (1 : Int32)).toNatClampNeg)
  refine x_callViL (rest := []) C hP hD hS (c_X7_moment_0 g1) (cwV 1 hts (gV mw12_6 mw12_7 mw12_8 mw1_2 mw12_9) rfl rfl rfl hdV_X7_moment ⟨Nat.le_of_ble_eq_true rfl, Nat.le_of_ble_eq_true rfl⟩) xw_0 rfl rfl hl.1 rfl (Nat.le_of_ble_eq_true rfl) dL_law_240 ⟨Nat.le_of_ble_eq_true rfl, Nat.le_of_ble_eq_true rfl⟩ (fun H locs hP hD hS => ?_)
  refine lv_aload_n hx hb dL_law_243 rfl (lv_at hl 2 rfl) ?_
  refine lv_aload_n hx hb dL_law_244 rfl (lv_at hl 0 rfl) ?_
  refine lv_iload_n hx hb dL_law_245 rfl (lv_at hl 3 rfl) ?_
  refine lv_iconst (v := 1) hx hb dL_law_246 (by decide) ?_
  refine lv_iadd hx hb dL_law_247 ?_
  refine va_sld hx hb hX hbl hbA hS (sc_in hi hL 1 (by decide) rfl) dL_law_248 ?_
  refine x_callViR (rest := [.int r]) C hP hD hS (c_X8_moment g2) (cwV 1 hts (gV mw12_15 mw12_16 mw12_17 mw1_5 mw12_18) rfl rfl rfl hdV_X8_moment ⟨Nat.le_of_ble_eq_true rfl, Nat.le_of_ble_eq_true rfl⟩) mw_0 rfl rfl hl.1 rfl (Nat.le_of_ble_eq_true rfl) dL_law_249 ⟨Nat.le_of_ble_eq_true rfl, Nat.le_of_ble_eq_true rfl⟩ (fun H locs hP hD hS => ?_)
  refine lv_icmp_eq (tgt := 1040) hx hb dL_law_252 (by decide) (fun q => ?_) (fun q => absurd rfl q)
  exact kk _ _ _ _ H locs ls hR hP hD hS hl
set_option maxHeartbeats 4000000 in
set_option maxRecDepth 100000 in
theorem lw_case_5 (C : Cx p s m #[Value.ref b] meth c D cy tT tF (fun q : Nat => s.heap.size ≤ q) cL_law 4 RL) (hX : va_X b L xs s s.heap) (hbl : b < s.heap.size) (hi : i + 5 ≤ L) (hL : L ≤ 320) (kk : LK p l e s m below meth c D cy b i Q) {σ τ : ES} (hR : Rel σ τ) {ad ad2 : Nat → Nat} {H : Heap} {locs : List Loc} {ls : Array Slot} (hP : va_P D vwCl (xw cy ad σ ++ mw cy ad2 τ) H) (hD : va_D (fun q : Nat => s.heap.size ≤ q) (xw cy ad σ ++ mw cy ad2 τ)) (hS : va_S (fun q : Nat => s.heap.size ≤ q) s.heap H locs) (hl : lv_has ls 4 [(0, .ref b), (1, .ref (ad 0)), (2, .ref (ad2 0)), (3, .int (nI i))]) : W p l e room_1 s m #[Value.ref b] below meth c H locs 600000 7302250 Q (F0 m 257 ls []) := by
  obtain ⟨⟨hx, hb, hml, hown, hts⟩, hK, hT, hA, hlk⟩ := id C
  have hbA : ¬ (fun q : Nat => s.heap.size ≤ q) b := Nat.not_le.mpr hbl
  refine lv_aload_n hx hb dL_law_257 rfl (lv_at hl 1 rfl) ?_
  refine lv_aload_n hx hb dL_law_258 rfl (lv_at hl 0 rfl) ?_
  refine lv_iload_n hx hb dL_law_259 rfl (lv_at hl 3 rfl) ?_
  refine lv_iconst (v := 1) hx hb dL_law_260 (by decide) ?_
  refine lv_iadd hx hb dL_law_261 ?_
  refine va_sld hx hb hX hbl hbA hS (sc_in hi hL 1 (by decide) rfl) dL_law_262 ?_
  refine lv_aload_n hx hb dL_law_263 rfl (lv_at hl 0 rfl) ?_
  refine lv_iload_n hx hb dL_law_264 rfl (lv_at hl 3 rfl) ?_
  refine lv_iconst (v := 2) hx hb dL_law_265 (by decide) ?_
  refine lv_iadd hx hb dL_law_266 ?_
  refine va_sld hx hb hX hbl hbA hS (sc_in hi hL 2 (by decide) rfl) dL_law_267 ?_
  obtain ⟨r, g1, g2⟩ := st_candle hR (xs (nI i + (1 : Int32)).toNatClampNeg) (xs (nI i + (2 : Int32)).toNatClampNeg)
  refine x_callViL (rest := []) C hP hD hS (c_X7_candle_0 g1) (cwV 2 hts (gV mw12_19 mw12_20 mw12_21 mw1_2 mw12_22) rfl rfl rfl hdV_X7_candle ⟨Nat.le_of_ble_eq_true rfl, Nat.le_of_ble_eq_true rfl⟩) xw_0 rfl rfl hl.1 rfl (Nat.le_of_ble_eq_true rfl) dL_law_268 ⟨Nat.le_of_ble_eq_true rfl, Nat.le_of_ble_eq_true rfl⟩ (fun H locs hP hD hS => ?_)
  refine lv_aload_n hx hb dL_law_271 rfl (lv_at hl 2 rfl) ?_
  refine lv_aload_n hx hb dL_law_272 rfl (lv_at hl 0 rfl) ?_
  refine lv_iload_n hx hb dL_law_273 rfl (lv_at hl 3 rfl) ?_
  refine lv_iconst (v := 1) hx hb dL_law_274 (by decide) ?_
  refine lv_iadd hx hb dL_law_275 ?_
  refine va_sld hx hb hX hbl hbA hS (sc_in hi hL 1 (by decide) rfl) dL_law_276 ?_
  refine lv_aload_n hx hb dL_law_277 rfl (lv_at hl 0 rfl) ?_
  refine lv_iload_n hx hb dL_law_278 rfl (lv_at hl 3 rfl) ?_
  refine lv_iconst (v := 2) hx hb dL_law_279 (by decide) ?_
  refine lv_iadd hx hb dL_law_280 ?_
  refine va_sld hx hb hX hbl hbA hS (sc_in hi hL 2 (by decide) rfl) dL_law_281 ?_
  refine x_callViR (rest := [.int r]) C hP hD hS (c_X8_candle g2) (cwV 2 hts (gV mw13_7 mw13_8 mw13_9 mw1_5 mw13_10) rfl rfl rfl hdV_X8_candle ⟨Nat.le_of_ble_eq_true rfl, Nat.le_of_ble_eq_true rfl⟩) mw_0 rfl rfl hl.1 rfl (Nat.le_of_ble_eq_true rfl) dL_law_282 ⟨Nat.le_of_ble_eq_true rfl, Nat.le_of_ble_eq_true rfl⟩ (fun H locs hP hD hS => ?_)
  refine lv_icmp_eq (tgt := 1040) hx hb dL_law_285 (by decide) (fun q => ?_) (fun q => absurd rfl q)
  exact kk _ _ _ _ H locs ls hR hP hD hS hl
set_option maxHeartbeats 4000000 in
set_option maxRecDepth 100000 in
theorem lw_case_6 (C : Cx p s m #[Value.ref b] meth c D cy tT tF (fun q : Nat => s.heap.size ≤ q) cL_law 4 RL) (hX : va_X b L xs s s.heap) (hbl : b < s.heap.size) (hi : i + 5 ≤ L) (hL : L ≤ 320) (kk : LK p l e s m below meth c D cy b i Q) {σ τ : ES} (hR : Rel σ τ) {ad ad2 : Nat → Nat} {H : Heap} {locs : List Loc} {ls : Array Slot} (hP : va_P D vwCl (xw cy ad σ ++ mw cy ad2 τ) H) (hD : va_D (fun q : Nat => s.heap.size ≤ q) (xw cy ad σ ++ mw cy ad2 τ)) (hS : va_S (fun q : Nat => s.heap.size ≤ q) s.heap H locs) (hl : lv_has ls 4 [(0, .ref b), (1, .ref (ad 0)), (2, .ref (ad2 0)), (3, .int (nI i))]) : W p l e room_1 s m #[Value.ref b] below meth c H locs 600000 7302250 Q (F0 m 290 ls []) := by
  obtain ⟨⟨hx, hb, hml, hown, hts⟩, hK, hT, hA, hlk⟩ := id C
  have hbA : ¬ (fun q : Nat => s.heap.size ≤ q) b := Nat.not_le.mpr hbl
  refine lv_aload_n hx hb dL_law_290 rfl (lv_at hl 1 rfl) ?_
  refine lv_aload_n hx hb dL_law_291 rfl (lv_at hl 0 rfl) ?_
  refine lv_iload_n hx hb dL_law_292 rfl (lv_at hl 3 rfl) ?_
  refine lv_iconst (v := 1) hx hb dL_law_293 (by decide) ?_
  refine lv_iadd hx hb dL_law_294 ?_
  refine va_sld hx hb hX hbl hbA hS (sc_in hi hL 1 (by decide) rfl) dL_law_295 ?_
  refine lv_aload_n hx hb dL_law_296 rfl (lv_at hl 0 rfl) ?_
  refine lv_iload_n hx hb dL_law_297 rfl (lv_at hl 3 rfl) ?_
  refine lv_iconst (v := 2) hx hb dL_law_298 (by decide) ?_
  refine lv_iadd hx hb dL_law_299 ?_
  refine va_sld hx hb hX hbl hbA hS (sc_in hi hL 2 (by decide) rfl) dL_law_300 ?_
  obtain ⟨r, g1, g2⟩ := st_guest hR (xs (nI i + (1 : Int32)).toNatClampNeg) (xs (nI i + (2 : Int32)).toNatClampNeg)
  refine x_callViL (rest := []) C hP hD hS (c_X7_guest_0 g1) (cwV 2 hts (gV mw13_15 mw13_16 mw13_17 mw1_2 mw13_18) rfl rfl rfl hdV_X7_guest ⟨Nat.le_of_ble_eq_true rfl, Nat.le_of_ble_eq_true rfl⟩) xw_0 rfl rfl hl.1 rfl (Nat.le_of_ble_eq_true rfl) dL_law_301 ⟨Nat.le_of_ble_eq_true rfl, Nat.le_of_ble_eq_true rfl⟩ (fun H locs hP hD hS => ?_)
  refine lv_aload_n hx hb dL_law_304 rfl (lv_at hl 2 rfl) ?_
  refine lv_aload_n hx hb dL_law_305 rfl (lv_at hl 0 rfl) ?_
  refine lv_iload_n hx hb dL_law_306 rfl (lv_at hl 3 rfl) ?_
  refine lv_iconst (v := 1) hx hb dL_law_307 (by decide) ?_
  refine lv_iadd hx hb dL_law_308 ?_
  refine va_sld hx hb hX hbl hbA hS (sc_in hi hL 1 (by decide) rfl) dL_law_309 ?_
  refine lv_aload_n hx hb dL_law_310 rfl (lv_at hl 0 rfl) ?_
  refine lv_iload_n hx hb dL_law_311 rfl (lv_at hl 3 rfl) ?_
  refine lv_iconst (v := 2) hx hb dL_law_312 (by decide) ?_
  refine lv_iadd hx hb dL_law_313 ?_
  refine va_sld hx hb hX hbl hbA hS (sc_in hi hL 2 (by decide) rfl) dL_law_314 ?_
  refine x_callViR (rest := [.int r]) C hP hD hS (c_X8_guest g2) (cwV 2 hts (gV mw14_10 mw14_11 mw14_12 mw1_5 mw14_13) rfl rfl rfl hdV_X8_guest ⟨Nat.le_of_ble_eq_true rfl, Nat.le_of_ble_eq_true rfl⟩) mw_0 rfl rfl hl.1 rfl (Nat.le_of_ble_eq_true rfl) dL_law_315 ⟨Nat.le_of_ble_eq_true rfl, Nat.le_of_ble_eq_true rfl⟩ (fun H locs hP hD hS => ?_)
  refine lv_icmp_eq (tgt := 1040) hx hb dL_law_318 (by decide) (fun q => ?_) (fun q => absurd rfl q)
  exact kk _ _ _ _ H locs ls hR hP hD hS hl
set_option maxHeartbeats 4000000 in
set_option maxRecDepth 100000 in
theorem lw_case_7 (C : Cx p s m #[Value.ref b] meth c D cy tT tF (fun q : Nat => s.heap.size ≤ q) cL_law 4 RL) (hX : va_X b L xs s s.heap) (hbl : b < s.heap.size) (hi : i + 5 ≤ L) (hL : L ≤ 320) (kk : LK p l e s m below meth c D cy b i Q) {σ τ : ES} (hR : Rel σ τ) {ad ad2 : Nat → Nat} {H : Heap} {locs : List Loc} {ls : Array Slot} (hP : va_P D vwCl (xw cy ad σ ++ mw cy ad2 τ) H) (hD : va_D (fun q : Nat => s.heap.size ≤ q) (xw cy ad σ ++ mw cy ad2 τ)) (hS : va_S (fun q : Nat => s.heap.size ≤ q) s.heap H locs) (hl : lv_has ls 4 [(0, .ref b), (1, .ref (ad 0)), (2, .ref (ad2 0)), (3, .int (nI i))]) : W p l e room_1 s m #[Value.ref b] below meth c H locs 600000 7302250 Q (F0 m 323 ls []) := by
  obtain ⟨⟨hx, hb, hml, hown, hts⟩, hK, hT, hA, hlk⟩ := id C
  have hbA : ¬ (fun q : Nat => s.heap.size ≤ q) b := Nat.not_le.mpr hbl
  refine lv_aload_n hx hb dL_law_323 rfl (lv_at hl 1 rfl) ?_
  refine lv_aload_n hx hb dL_law_324 rfl (lv_at hl 0 rfl) ?_
  refine lv_iload_n hx hb dL_law_325 rfl (lv_at hl 3 rfl) ?_
  refine lv_iconst (v := 1) hx hb dL_law_326 (by decide) ?_
  refine lv_iadd hx hb dL_law_327 ?_
  refine va_sld hx hb hX hbl hbA hS (sc_in hi hL 1 (by decide) rfl) dL_law_328 ?_
  obtain ⟨r, σ1, τ1, g1, g2, hR1⟩ := st_light hR (xs (nI i + (1 : Int32)).toNatClampNeg)
  refine x_callViL (rest := []) C hP hD hS (c_X7_light_0 g1) (cwV 1 hts (gV mw14_22 mw14_23 mw15_0 mw1_2 mw15_1) rfl rfl rfl hdV_X7_light ⟨Nat.le_of_ble_eq_true rfl, Nat.le_of_ble_eq_true rfl⟩) xw_0 rfl rfl hl.1 rfl (Nat.le_of_ble_eq_true rfl) dL_law_329 ⟨Nat.le_of_ble_eq_true rfl, Nat.le_of_ble_eq_true rfl⟩ (fun H locs hP hD hS => ?_)
  refine lv_aload_n hx hb dL_law_332 rfl (lv_at hl 2 rfl) ?_
  refine lv_aload_n hx hb dL_law_333 rfl (lv_at hl 0 rfl) ?_
  refine lv_iload_n hx hb dL_law_334 rfl (lv_at hl 3 rfl) ?_
  refine lv_iconst (v := 1) hx hb dL_law_335 (by decide) ?_
  refine lv_iadd hx hb dL_law_336 ?_
  refine va_sld hx hb hX hbl hbA hS (sc_in hi hL 1 (by decide) rfl) dL_law_337 ?_
  refine x_callViR (rest := [.int r]) C hP hD hS (c_X8_light g2) (cwV 1 hts (gV mw16_2 mw16_3 mw16_4 mw1_5 mw16_5) rfl rfl rfl hdV_X8_light ⟨Nat.le_of_ble_eq_true rfl, Nat.le_of_ble_eq_true rfl⟩) mw_0 rfl rfl hl.1 rfl (Nat.le_of_ble_eq_true rfl) dL_law_338 ⟨Nat.le_of_ble_eq_true rfl, Nat.le_of_ble_eq_true rfl⟩ (fun H locs hP hD hS => ?_)
  refine lv_icmp_eq (tgt := 1040) hx hb dL_law_341 (by decide) (fun q => ?_) (fun q => absurd rfl q)
  exact kk _ _ _ _ H locs ls hR1 hP hD hS hl
set_option maxHeartbeats 4000000 in
set_option maxRecDepth 100000 in
theorem lw_case_8 (C : Cx p s m #[Value.ref b] meth c D cy tT tF (fun q : Nat => s.heap.size ≤ q) cL_law 4 RL) (hX : va_X b L xs s s.heap) (hbl : b < s.heap.size) (hi : i + 5 ≤ L) (hL : L ≤ 320) (kk : LK p l e s m below meth c D cy b i Q) {σ τ : ES} (hR : Rel σ τ) {ad ad2 : Nat → Nat} {H : Heap} {locs : List Loc} {ls : Array Slot} (hP : va_P D vwCl (xw cy ad σ ++ mw cy ad2 τ) H) (hD : va_D (fun q : Nat => s.heap.size ≤ q) (xw cy ad σ ++ mw cy ad2 τ)) (hS : va_S (fun q : Nat => s.heap.size ≤ q) s.heap H locs) (hl : lv_has ls 4 [(0, .ref b), (1, .ref (ad 0)), (2, .ref (ad2 0)), (3, .int (nI i))]) : W p l e room_1 s m #[Value.ref b] below meth c H locs 600000 7302250 Q (F0 m 346 ls []) := by
  obtain ⟨⟨hx, hb, hml, hown, hts⟩, hK, hT, hA, hlk⟩ := id C
  have hbA : ¬ (fun q : Nat => s.heap.size ≤ q) b := Nat.not_le.mpr hbl
  refine lv_aload_n hx hb dL_law_346 rfl (lv_at hl 1 rfl) ?_
  refine lv_aload_n hx hb dL_law_347 rfl (lv_at hl 0 rfl) ?_
  refine lv_iload_n hx hb dL_law_348 rfl (lv_at hl 3 rfl) ?_
  refine lv_iconst (v := 1) hx hb dL_law_349 (by decide) ?_
  refine lv_iadd hx hb dL_law_350 ?_
  refine va_sld hx hb hX hbl hbA hS (sc_in hi hL 1 (by decide) rfl) dL_law_351 ?_
  obtain ⟨r, σ1, τ1, g1, g2, hR1⟩ := st_out hR (xs (nI i + (1 : Int32)).toNatClampNeg)
  refine x_callViL (rest := []) C hP hD hS (c_X7_out_0 g1) (cwV 1 hts (gV mw16_15 mw16_16 mw16_17 mw1_2 mw16_18) rfl rfl rfl hdV_X7_out ⟨Nat.le_of_ble_eq_true rfl, Nat.le_of_ble_eq_true rfl⟩) xw_0 rfl rfl hl.1 rfl (Nat.le_of_ble_eq_true rfl) dL_law_352 ⟨Nat.le_of_ble_eq_true rfl, Nat.le_of_ble_eq_true rfl⟩ (fun H locs hP hD hS => ?_)
  refine lv_aload_n hx hb dL_law_355 rfl (lv_at hl 2 rfl) ?_
  refine lv_aload_n hx hb dL_law_356 rfl (lv_at hl 0 rfl) ?_
  refine lv_iload_n hx hb dL_law_357 rfl (lv_at hl 3 rfl) ?_
  refine lv_iconst (v := 1) hx hb dL_law_358 (by decide) ?_
  refine lv_iadd hx hb dL_law_359 ?_
  refine va_sld hx hb hX hbl hbA hS (sc_in hi hL 1 (by decide) rfl) dL_law_360 ?_
  refine x_callViR (rest := [.int r]) C hP hD hS (c_X8_out g2) (cwV 1 hts (gV mw16_19 mw16_20 mw16_21 mw1_5 mw16_22) rfl rfl rfl hdV_X8_out ⟨Nat.le_of_ble_eq_true rfl, Nat.le_of_ble_eq_true rfl⟩) mw_0 rfl rfl hl.1 rfl (Nat.le_of_ble_eq_true rfl) dL_law_361 ⟨Nat.le_of_ble_eq_true rfl, Nat.le_of_ble_eq_true rfl⟩ (fun H locs hP hD hS => ?_)
  refine lv_icmp_eq (tgt := 1040) hx hb dL_law_364 (by decide) (fun q => ?_) (fun q => absurd rfl q)
  exact kk _ _ _ _ H locs ls hR1 hP hD hS hl
set_option maxHeartbeats 4000000 in
set_option maxRecDepth 100000 in
theorem lw_case_9 (C : Cx p s m #[Value.ref b] meth c D cy tT tF (fun q : Nat => s.heap.size ≤ q) cL_law 4 RL) (hX : va_X b L xs s s.heap) (hbl : b < s.heap.size) (hi : i + 5 ≤ L) (hL : L ≤ 320) (kk : LK p l e s m below meth c D cy b i Q) {σ τ : ES} (hR : Rel σ τ) {ad ad2 : Nat → Nat} {H : Heap} {locs : List Loc} {ls : Array Slot} (hP : va_P D vwCl (xw cy ad σ ++ mw cy ad2 τ) H) (hD : va_D (fun q : Nat => s.heap.size ≤ q) (xw cy ad σ ++ mw cy ad2 τ)) (hS : va_S (fun q : Nat => s.heap.size ≤ q) s.heap H locs) (hl : lv_has ls 4 [(0, .ref b), (1, .ref (ad 0)), (2, .ref (ad2 0)), (3, .int (nI i))]) : W p l e room_1 s m #[Value.ref b] below meth c H locs 600000 7302250 Q (F0 m 369 ls []) := by
  obtain ⟨⟨hx, hb, hml, hown, hts⟩, hK, hT, hA, hlk⟩ := id C
  have hbA : ¬ (fun q : Nat => s.heap.size ≤ q) b := Nat.not_le.mpr hbl
  refine lv_aload_n hx hb dL_law_369 rfl (lv_at hl 1 rfl) ?_
  refine lv_aload_n hx hb dL_law_370 rfl (lv_at hl 0 rfl) ?_
  refine lv_iload_n hx hb dL_law_371 rfl (lv_at hl 3 rfl) ?_
  refine lv_iconst (v := 1) hx hb dL_law_372 (by decide) ?_
  refine lv_iadd hx hb dL_law_373 ?_
  refine va_sld hx hb hX hbl hbA hS (sc_in hi hL 1 (by decide) rfl) dL_law_374 ?_
  refine lv_aload_n hx hb dL_law_375 rfl (lv_at hl 0 rfl) ?_
  refine lv_iload_n hx hb dL_law_376 rfl (lv_at hl 3 rfl) ?_
  refine lv_iconst (v := 2) hx hb dL_law_377 (by decide) ?_
  refine lv_iadd hx hb dL_law_378 ?_
  refine va_sld hx hb hX hbl hbA hS (sc_in hi hL 2 (by decide) rfl) dL_law_379 ?_
  obtain ⟨r, σ1, τ1, g1, g2, hR1⟩ := st_trim hR (xs (nI i + (1 : Int32)).toNatClampNeg) (xs (nI i + (2 : Int32)).toNatClampNeg)
  refine x_callViL (rest := []) C hP hD hS (c_X7_trim_0 g1) (cwV 2 hts (gV mw16_23 mw17_0 mw17_1 mw1_2 mw17_2) rfl rfl rfl hdV_X7_trim ⟨Nat.le_of_ble_eq_true rfl, Nat.le_of_ble_eq_true rfl⟩) xw_0 rfl rfl hl.1 rfl (Nat.le_of_ble_eq_true rfl) dL_law_380 ⟨Nat.le_of_ble_eq_true rfl, Nat.le_of_ble_eq_true rfl⟩ (fun H locs hP hD hS => ?_)
  refine lv_aload_n hx hb dL_law_383 rfl (lv_at hl 2 rfl) ?_
  refine lv_aload_n hx hb dL_law_384 rfl (lv_at hl 0 rfl) ?_
  refine lv_iload_n hx hb dL_law_385 rfl (lv_at hl 3 rfl) ?_
  refine lv_iconst (v := 1) hx hb dL_law_386 (by decide) ?_
  refine lv_iadd hx hb dL_law_387 ?_
  refine va_sld hx hb hX hbl hbA hS (sc_in hi hL 1 (by decide) rfl) dL_law_388 ?_
  refine lv_aload_n hx hb dL_law_389 rfl (lv_at hl 0 rfl) ?_
  refine lv_iload_n hx hb dL_law_390 rfl (lv_at hl 3 rfl) ?_
  refine lv_iconst (v := 2) hx hb dL_law_391 (by decide) ?_
  refine lv_iadd hx hb dL_law_392 ?_
  refine va_sld hx hb hX hbl hbA hS (sc_in hi hL 2 (by decide) rfl) dL_law_393 ?_
  refine x_callViR (rest := [.int r]) C hP hD hS (c_X8_trim g2) (cwV 2 hts (gV mw17_3 mw17_4 mw17_5 mw1_5 mw17_6) rfl rfl rfl hdV_X8_trim ⟨Nat.le_of_ble_eq_true rfl, Nat.le_of_ble_eq_true rfl⟩) mw_0 rfl rfl hl.1 rfl (Nat.le_of_ble_eq_true rfl) dL_law_394 ⟨Nat.le_of_ble_eq_true rfl, Nat.le_of_ble_eq_true rfl⟩ (fun H locs hP hD hS => ?_)
  refine lv_icmp_eq (tgt := 1040) hx hb dL_law_397 (by decide) (fun q => ?_) (fun q => absurd rfl q)
  exact kk _ _ _ _ H locs ls hR1 hP hD hS hl
set_option maxHeartbeats 4000000 in
set_option maxRecDepth 100000 in
theorem lw_case_10 (C : Cx p s m #[Value.ref b] meth c D cy tT tF (fun q : Nat => s.heap.size ≤ q) cL_law 4 RL) (hX : va_X b L xs s s.heap) (hbl : b < s.heap.size) (hi : i + 5 ≤ L) (hL : L ≤ 320) (kk : LK p l e s m below meth c D cy b i Q) {σ τ : ES} (hR : Rel σ τ) {ad ad2 : Nat → Nat} {H : Heap} {locs : List Loc} {ls : Array Slot} (hP : va_P D vwCl (xw cy ad σ ++ mw cy ad2 τ) H) (hD : va_D (fun q : Nat => s.heap.size ≤ q) (xw cy ad σ ++ mw cy ad2 τ)) (hS : va_S (fun q : Nat => s.heap.size ≤ q) s.heap H locs) (hl : lv_has ls 4 [(0, .ref b), (1, .ref (ad 0)), (2, .ref (ad2 0)), (3, .int (nI i))]) : W p l e room_1 s m #[Value.ref b] below meth c H locs 600000 7302250 Q (F0 m 402 ls []) := by
  obtain ⟨⟨hx, hb, hml, hown, hts⟩, hK, hT, hA, hlk⟩ := id C
  have hbA : ¬ (fun q : Nat => s.heap.size ≤ q) b := Nat.not_le.mpr hbl
  refine lv_aload_n hx hb dL_law_402 rfl (lv_at hl 1 rfl) ?_
  obtain ⟨r, σ1, τ1, g1, g2, hR1⟩ := st_step hR 
  refine x_callViL (rest := []) C hP hD hS (c_X7_step_0 g1) (cwV 0 hts (gV mw17_8 mw17_9 mw17_10 mw1_2 mw17_11) rfl rfl rfl hdV_X7_step ⟨Nat.le_of_ble_eq_true rfl, Nat.le_of_ble_eq_true rfl⟩) xw_0 rfl rfl hl.1 rfl (Nat.le_of_ble_eq_true rfl) dL_law_403 ⟨Nat.le_of_ble_eq_true rfl, Nat.le_of_ble_eq_true rfl⟩ (fun H locs hP hD hS => ?_)
  refine lv_aload_n hx hb dL_law_406 rfl (lv_at hl 2 rfl) ?_
  refine x_callViR (rest := [.int r]) C hP hD hS (c_X8_step g2) (cwV 0 hts (gV mw18_8 mw18_9 mw18_10 mw1_5 mw18_11) rfl rfl rfl hdV_X8_step ⟨Nat.le_of_ble_eq_true rfl, Nat.le_of_ble_eq_true rfl⟩) mw_0 rfl rfl hl.1 rfl (Nat.le_of_ble_eq_true rfl) dL_law_407 ⟨Nat.le_of_ble_eq_true rfl, Nat.le_of_ble_eq_true rfl⟩ (fun H locs hP hD hS => ?_)
  refine lv_icmp_eq (tgt := 1040) hx hb dL_law_410 (by decide) (fun q => ?_) (fun q => absurd rfl q)
  exact kk _ _ _ _ H locs ls hR1 hP hD hS hl
set_option maxHeartbeats 4000000 in
set_option maxRecDepth 100000 in
theorem lw_case_11 (C : Cx p s m #[Value.ref b] meth c D cy tT tF (fun q : Nat => s.heap.size ≤ q) cL_law 4 RL) (hX : va_X b L xs s s.heap) (hbl : b < s.heap.size) (hi : i + 5 ≤ L) (hL : L ≤ 320) (kk : LK p l e s m below meth c D cy b i Q) {σ τ : ES} (hR : Rel σ τ) {ad ad2 : Nat → Nat} {H : Heap} {locs : List Loc} {ls : Array Slot} (hP : va_P D vwCl (xw cy ad σ ++ mw cy ad2 τ) H) (hD : va_D (fun q : Nat => s.heap.size ≤ q) (xw cy ad σ ++ mw cy ad2 τ)) (hS : va_S (fun q : Nat => s.heap.size ≤ q) s.heap H locs) (hl : lv_has ls 4 [(0, .ref b), (1, .ref (ad 0)), (2, .ref (ad2 0)), (3, .int (nI i))]) : W p l e room_1 s m #[Value.ref b] below meth c H locs 600000 7302250 Q (F0 m 415 ls []) := by
  obtain ⟨⟨hx, hb, hml, hown, hts⟩, hK, hT, hA, hlk⟩ := id C
  have hbA : ¬ (fun q : Nat => s.heap.size ≤ q) b := Nat.not_le.mpr hbl
  refine lv_aload_n hx hb dL_law_415 rfl (lv_at hl 1 rfl) ?_
  obtain ⟨r, σ1, τ1, g1, g2, hR1⟩ := st_undo hR 
  refine x_callViL (rest := []) C hP hD hS (c_X7_undo_0 g1) (cwV 0 hts (gV mw18_19 mw18_20 mw18_21 mw1_2 mw18_22) rfl rfl rfl hdV_X7_undo ⟨Nat.le_of_ble_eq_true rfl, Nat.le_of_ble_eq_true rfl⟩) xw_0 rfl rfl hl.1 rfl (Nat.le_of_ble_eq_true rfl) dL_law_416 ⟨Nat.le_of_ble_eq_true rfl, Nat.le_of_ble_eq_true rfl⟩ (fun H locs hP hD hS => ?_)
  refine lv_aload_n hx hb dL_law_419 rfl (lv_at hl 2 rfl) ?_
  refine x_callViR (rest := [.int r]) C hP hD hS (c_X8_undo g2) (cwV 0 hts (gV mw19_8 mw19_9 mw19_10 mw1_5 mw19_11) rfl rfl rfl hdV_X8_undo ⟨Nat.le_of_ble_eq_true rfl, Nat.le_of_ble_eq_true rfl⟩) mw_0 rfl rfl hl.1 rfl (Nat.le_of_ble_eq_true rfl) dL_law_420 ⟨Nat.le_of_ble_eq_true rfl, Nat.le_of_ble_eq_true rfl⟩ (fun H locs hP hD hS => ?_)
  refine lv_icmp_eq (tgt := 1040) hx hb dL_law_423 (by decide) (fun q => ?_) (fun q => absurd rfl q)
  exact kk _ _ _ _ H locs ls hR1 hP hD hS hl
set_option maxHeartbeats 4000000 in
set_option maxRecDepth 100000 in
theorem lw_case_12 (C : Cx p s m #[Value.ref b] meth c D cy tT tF (fun q : Nat => s.heap.size ≤ q) cL_law 4 RL) (hX : va_X b L xs s s.heap) (hbl : b < s.heap.size) (hi : i + 5 ≤ L) (hL : L ≤ 320) (kk : LK p l e s m below meth c D cy b i Q) {σ τ : ES} (hR : Rel σ τ) {ad ad2 : Nat → Nat} {H : Heap} {locs : List Loc} {ls : Array Slot} (hP : va_P D vwCl (xw cy ad σ ++ mw cy ad2 τ) H) (hD : va_D (fun q : Nat => s.heap.size ≤ q) (xw cy ad σ ++ mw cy ad2 τ)) (hS : va_S (fun q : Nat => s.heap.size ≤ q) s.heap H locs) (hl : lv_has ls 4 [(0, .ref b), (1, .ref (ad 0)), (2, .ref (ad2 0)), (3, .int (nI i))]) : W p l e room_1 s m #[Value.ref b] below meth c H locs 600000 7302250 Q (F0 m 428 ls []) := by
  obtain ⟨⟨hx, hb, hml, hown, hts⟩, hK, hT, hA, hlk⟩ := id C
  have hbA : ¬ (fun q : Nat => s.heap.size ≤ q) b := Nat.not_le.mpr hbl
  refine lv_aload_n hx hb dL_law_428 rfl (lv_at hl 1 rfl) ?_
  obtain ⟨r, σ1, τ1, g1, g2, hR1⟩ := st_plan hR 
  refine x_callViL (rest := []) C hP hD hS (c_X7_plan_0 g1) (cwV 0 hts (gV mw19_12 mw19_13 mw19_14 mw1_2 mw19_15) rfl rfl rfl hdV_X7_plan ⟨Nat.le_of_ble_eq_true rfl, Nat.le_of_ble_eq_true rfl⟩) xw_0 rfl rfl hl.1 rfl (Nat.le_of_ble_eq_true rfl) dL_law_429 ⟨Nat.le_of_ble_eq_true rfl, Nat.le_of_ble_eq_true rfl⟩ (fun H locs hP hD hS => ?_)
  refine lv_aload_n hx hb dL_law_432 rfl (lv_at hl 2 rfl) ?_
  refine x_callViR (rest := [.int r]) C hP hD hS (c_X8_plan g2) (cwV 0 hts (gV mw22_0 mw22_1 mw22_2 mw1_5 mw22_3) rfl rfl rfl hdV_X8_plan ⟨Nat.le_of_ble_eq_true rfl, Nat.le_of_ble_eq_true rfl⟩) mw_0 rfl rfl hl.1 rfl (Nat.le_of_ble_eq_true rfl) dL_law_433 ⟨Nat.le_of_ble_eq_true rfl, Nat.le_of_ble_eq_true rfl⟩ (fun H locs hP hD hS => ?_)
  refine lv_icmp_eq (tgt := 1040) hx hb dL_law_436 (by decide) (fun q => ?_) (fun q => absurd rfl q)
  exact kk _ _ _ _ H locs ls hR1 hP hD hS hl
set_option maxHeartbeats 4000000 in
set_option maxRecDepth 100000 in
theorem lw_case_13 (C : Cx p s m #[Value.ref b] meth c D cy tT tF (fun q : Nat => s.heap.size ≤ q) cL_law 4 RL) (hX : va_X b L xs s s.heap) (hbl : b < s.heap.size) (hi : i + 5 ≤ L) (hL : L ≤ 320) (kk : LK p l e s m below meth c D cy b i Q) {σ τ : ES} (hR : Rel σ τ) {ad ad2 : Nat → Nat} {H : Heap} {locs : List Loc} {ls : Array Slot} (hP : va_P D vwCl (xw cy ad σ ++ mw cy ad2 τ) H) (hD : va_D (fun q : Nat => s.heap.size ≤ q) (xw cy ad σ ++ mw cy ad2 τ)) (hS : va_S (fun q : Nat => s.heap.size ≤ q) s.heap H locs) (hl : lv_has ls 4 [(0, .ref b), (1, .ref (ad 0)), (2, .ref (ad2 0)), (3, .int (nI i))]) : W p l e room_1 s m #[Value.ref b] below meth c H locs 600000 7302250 Q (F0 m 441 ls []) := by
  obtain ⟨⟨hx, hb, hml, hown, hts⟩, hK, hT, hA, hlk⟩ := id C
  have hbA : ¬ (fun q : Nat => s.heap.size ≤ q) b := Nat.not_le.mpr hbl
  refine lv_aload_n hx hb dL_law_441 rfl (lv_at hl 1 rfl) ?_
  refine lv_aload_n hx hb dL_law_442 rfl (lv_at hl 0 rfl) ?_
  refine lv_iload_n hx hb dL_law_443 rfl (lv_at hl 3 rfl) ?_
  refine lv_iconst (v := 1) hx hb dL_law_444 (by decide) ?_
  refine lv_iadd hx hb dL_law_445 ?_
  refine va_sld hx hb hX hbl hbA hS (sc_in hi hL 1 (by decide) rfl) dL_law_446 ?_
  obtain ⟨r, σ1, τ1, g1, g2, hR1⟩ := st_planOf hR (xs (nI i + (1 : Int32)).toNatClampNeg)
  refine x_callViL (rest := []) C hP hD hS (c_X7_planOf_0 g1) (cwV 1 hts (gV mw23_10 mw23_11 mw23_12 mw1_2 mw23_13) rfl rfl rfl hdV_X7_planOf ⟨Nat.le_of_ble_eq_true rfl, Nat.le_of_ble_eq_true rfl⟩) xw_0 rfl rfl hl.1 rfl (Nat.le_of_ble_eq_true rfl) dL_law_447 ⟨Nat.le_of_ble_eq_true rfl, Nat.le_of_ble_eq_true rfl⟩ (fun H locs hP hD hS => ?_)
  refine lv_aload_n hx hb dL_law_450 rfl (lv_at hl 2 rfl) ?_
  refine lv_aload_n hx hb dL_law_451 rfl (lv_at hl 0 rfl) ?_
  refine lv_iload_n hx hb dL_law_452 rfl (lv_at hl 3 rfl) ?_
  refine lv_iconst (v := 1) hx hb dL_law_453 (by decide) ?_
  refine lv_iadd hx hb dL_law_454 ?_
  refine va_sld hx hb hX hbl hbA hS (sc_in hi hL 1 (by decide) rfl) dL_law_455 ?_
  refine x_callViR (rest := [.int r]) C hP hD hS (c_X8_planOf g2) (cwV 1 hts (gV mw23_15 mw23_16 mw23_17 mw1_5 mw23_18) rfl rfl rfl hdV_X8_planOf ⟨Nat.le_of_ble_eq_true rfl, Nat.le_of_ble_eq_true rfl⟩) mw_0 rfl rfl hl.1 rfl (Nat.le_of_ble_eq_true rfl) dL_law_456 ⟨Nat.le_of_ble_eq_true rfl, Nat.le_of_ble_eq_true rfl⟩ (fun H locs hP hD hS => ?_)
  refine lv_icmp_eq (tgt := 1040) hx hb dL_law_459 (by decide) (fun q => ?_) (fun q => absurd rfl q)
  exact kk _ _ _ _ H locs ls hR1 hP hD hS hl
set_option maxHeartbeats 4000000 in
set_option maxRecDepth 100000 in
theorem lw_case_14 (C : Cx p s m #[Value.ref b] meth c D cy tT tF (fun q : Nat => s.heap.size ≤ q) cL_law 4 RL) (hX : va_X b L xs s s.heap) (hbl : b < s.heap.size) (hi : i + 5 ≤ L) (hL : L ≤ 320) (kk : LK p l e s m below meth c D cy b i Q) {σ τ : ES} (hR : Rel σ τ) {ad ad2 : Nat → Nat} {H : Heap} {locs : List Loc} {ls : Array Slot} (hP : va_P D vwCl (xw cy ad σ ++ mw cy ad2 τ) H) (hD : va_D (fun q : Nat => s.heap.size ≤ q) (xw cy ad σ ++ mw cy ad2 τ)) (hS : va_S (fun q : Nat => s.heap.size ≤ q) s.heap H locs) (hl : lv_has ls 4 [(0, .ref b), (1, .ref (ad 0)), (2, .ref (ad2 0)), (3, .int (nI i))]) : W p l e room_1 s m #[Value.ref b] below meth c H locs 600000 7302250 Q (F0 m 464 ls []) := by
  obtain ⟨⟨hx, hb, hml, hown, hts⟩, hK, hT, hA, hlk⟩ := id C
  have hbA : ¬ (fun q : Nat => s.heap.size ≤ q) b := Nat.not_le.mpr hbl
  refine lv_aload_n hx hb dL_law_464 rfl (lv_at hl 1 rfl) ?_
  obtain ⟨r, σ1, τ1, g1, g2, hR1⟩ := st_bars hR 
  refine x_callViL (rest := []) C hP hD hS (c_X7_bars_0 g1) (cwV 0 hts (gV mw23_19 mw23_20 mw23_21 mw1_2 mw23_22) rfl rfl rfl hdV_X7_bars ⟨Nat.le_of_ble_eq_true rfl, Nat.le_of_ble_eq_true rfl⟩) xw_0 rfl rfl hl.1 rfl (Nat.le_of_ble_eq_true rfl) dL_law_465 ⟨Nat.le_of_ble_eq_true rfl, Nat.le_of_ble_eq_true rfl⟩ (fun H locs hP hD hS => ?_)
  refine lv_aload_n hx hb dL_law_468 rfl (lv_at hl 2 rfl) ?_
  refine x_callViR (rest := [.int r]) C hP hD hS (c_X8_bars g2) (cwV 0 hts (gV mw24_0 mw24_1 mw24_2 mw1_5 mw24_3) rfl rfl rfl hdV_X8_bars ⟨Nat.le_of_ble_eq_true rfl, Nat.le_of_ble_eq_true rfl⟩) mw_0 rfl rfl hl.1 rfl (Nat.le_of_ble_eq_true rfl) dL_law_469 ⟨Nat.le_of_ble_eq_true rfl, Nat.le_of_ble_eq_true rfl⟩ (fun H locs hP hD hS => ?_)
  refine lv_icmp_eq (tgt := 1040) hx hb dL_law_472 (by decide) (fun q => ?_) (fun q => absurd rfl q)
  exact kk _ _ _ _ H locs ls hR1 hP hD hS hl
set_option maxHeartbeats 4000000 in
set_option maxRecDepth 100000 in
theorem lw_case_15 (C : Cx p s m #[Value.ref b] meth c D cy tT tF (fun q : Nat => s.heap.size ≤ q) cL_law 4 RL) (hX : va_X b L xs s s.heap) (hbl : b < s.heap.size) (hi : i + 5 ≤ L) (hL : L ≤ 320) (kk : LK p l e s m below meth c D cy b i Q) {σ τ : ES} (hR : Rel σ τ) {ad ad2 : Nat → Nat} {H : Heap} {locs : List Loc} {ls : Array Slot} (hP : va_P D vwCl (xw cy ad σ ++ mw cy ad2 τ) H) (hD : va_D (fun q : Nat => s.heap.size ≤ q) (xw cy ad σ ++ mw cy ad2 τ)) (hS : va_S (fun q : Nat => s.heap.size ≤ q) s.heap H locs) (hl : lv_has ls 4 [(0, .ref b), (1, .ref (ad 0)), (2, .ref (ad2 0)), (3, .int (nI i))]) : W p l e room_1 s m #[Value.ref b] below meth c H locs 600000 7302250 Q (F0 m 477 ls []) := by
  obtain ⟨⟨hx, hb, hml, hown, hts⟩, hK, hT, hA, hlk⟩ := id C
  have hbA : ¬ (fun q : Nat => s.heap.size ≤ q) b := Nat.not_le.mpr hbl
  refine lv_aload_n hx hb dL_law_477 rfl (lv_at hl 1 rfl) ?_
  refine lv_aload_n hx hb dL_law_478 rfl (lv_at hl 0 rfl) ?_
  refine lv_iload_n hx hb dL_law_479 rfl (lv_at hl 3 rfl) ?_
  refine lv_iconst (v := 1) hx hb dL_law_480 (by decide) ?_
  refine lv_iadd hx hb dL_law_481 ?_
  refine va_sld hx hb hX hbl hbA hS (sc_in hi hL 1 (by decide) rfl) dL_law_482 ?_
  refine lv_aload_n hx hb dL_law_483 rfl (lv_at hl 0 rfl) ?_
  refine lv_iload_n hx hb dL_law_484 rfl (lv_at hl 3 rfl) ?_
  refine lv_iconst (v := 2) hx hb dL_law_485 (by decide) ?_
  refine lv_iadd hx hb dL_law_486 ?_
  refine va_sld hx hb hX hbl hbA hS (sc_in hi hL 2 (by decide) rfl) dL_law_487 ?_
  refine lv_if_eq (tgt := 495) hx hb dL_law_488 (by decide) (fun q0 => ?_) (fun q0 => ?_)
  · refine lv_iconst (v := 0) hx hb dL_law_495 (by decide) ?_
    obtain ⟨r, σ1, τ1, g1, g2, hR1⟩ := st_share hR (xs (nI i + (1 : Int32)).toNatClampNeg) (0 : Int32)
    refine x_callViL (rest := []) C hP hD hS (c_X7_share_0 g1) (cwV 2 hts (gV mw24_4 mw24_5 mw24_6 mw1_2 mw24_7) rfl rfl rfl hdV_X7_share ⟨Nat.le_of_ble_eq_true rfl, Nat.le_of_ble_eq_true rfl⟩) xw_0 rfl rfl hl.1 rfl (Nat.le_of_ble_eq_true rfl) dL_law_496 ⟨Nat.le_of_ble_eq_true rfl, Nat.le_of_ble_eq_true rfl⟩ (fun H locs hP hD hS => ?_)
    refine lv_aload_n hx hb dL_law_499 rfl (lv_at hl 2 rfl) ?_
    refine lv_aload_n hx hb dL_law_500 rfl (lv_at hl 0 rfl) ?_
    refine lv_iload_n hx hb dL_law_501 rfl (lv_at hl 3 rfl) ?_
    refine lv_iconst (v := 1) hx hb dL_law_502 (by decide) ?_
    refine lv_iadd hx hb dL_law_503 ?_
    refine va_sld hx hb hX hbl hbA hS (sc_in hi hL 1 (by decide) rfl) dL_law_504 ?_
    refine lv_aload_n hx hb dL_law_505 rfl (lv_at hl 0 rfl) ?_
    refine lv_iload_n hx hb dL_law_506 rfl (lv_at hl 3 rfl) ?_
    refine lv_iconst (v := 2) hx hb dL_law_507 (by decide) ?_
    refine lv_iadd hx hb dL_law_508 ?_
    refine va_sld hx hb hX hbl hbA hS (sc_in hi hL 2 (by decide) rfl) dL_law_509 ?_
    refine lv_if_eq (tgt := 517) hx hb dL_law_510 (by decide) (fun q => ?_) (fun q => absurd q0 q)
    refine lv_iconst (v := 0) hx hb dL_law_517 (by decide) ?_
    refine x_callViR (rest := [.int r]) C hP hD hS (c_X8_share g2) (cwV 2 hts (gV mw24_17 mw24_18 mw24_19 mw1_5 mw24_20) rfl rfl rfl hdV_X8_share ⟨Nat.le_of_ble_eq_true rfl, Nat.le_of_ble_eq_true rfl⟩) mw_0 rfl rfl hl.1 rfl (Nat.le_of_ble_eq_true rfl) dL_law_518 ⟨Nat.le_of_ble_eq_true rfl, Nat.le_of_ble_eq_true rfl⟩ (fun H locs hP hD hS => ?_)
    refine lv_icmp_eq (tgt := 1040) hx hb dL_law_521 (by decide) (fun q => ?_) (fun q => absurd rfl q)
    exact kk _ _ _ _ H locs ls hR1 hP hD hS hl
  · refine lv_iconst (v := 1) hx hb dL_law_491 (by decide) ?_
    refine lv_goto (tgt := 496) hx hb dL_law_492 (by decide) ?_
    obtain ⟨r, σ1, τ1, g1, g2, hR1⟩ := st_share hR (xs (nI i + (1 : Int32)).toNatClampNeg) (1 : Int32)
    refine x_callViL (rest := []) C hP hD hS (c_X7_share_0 g1) (cwV 2 hts (gV mw24_4 mw24_5 mw24_6 mw1_2 mw24_7) rfl rfl rfl hdV_X7_share ⟨Nat.le_of_ble_eq_true rfl, Nat.le_of_ble_eq_true rfl⟩) xw_0 rfl rfl hl.1 rfl (Nat.le_of_ble_eq_true rfl) dL_law_496 ⟨Nat.le_of_ble_eq_true rfl, Nat.le_of_ble_eq_true rfl⟩ (fun H locs hP hD hS => ?_)
    refine lv_aload_n hx hb dL_law_499 rfl (lv_at hl 2 rfl) ?_
    refine lv_aload_n hx hb dL_law_500 rfl (lv_at hl 0 rfl) ?_
    refine lv_iload_n hx hb dL_law_501 rfl (lv_at hl 3 rfl) ?_
    refine lv_iconst (v := 1) hx hb dL_law_502 (by decide) ?_
    refine lv_iadd hx hb dL_law_503 ?_
    refine va_sld hx hb hX hbl hbA hS (sc_in hi hL 1 (by decide) rfl) dL_law_504 ?_
    refine lv_aload_n hx hb dL_law_505 rfl (lv_at hl 0 rfl) ?_
    refine lv_iload_n hx hb dL_law_506 rfl (lv_at hl 3 rfl) ?_
    refine lv_iconst (v := 2) hx hb dL_law_507 (by decide) ?_
    refine lv_iadd hx hb dL_law_508 ?_
    refine va_sld hx hb hX hbl hbA hS (sc_in hi hL 2 (by decide) rfl) dL_law_509 ?_
    refine lv_if_eq (tgt := 517) hx hb dL_law_510 (by decide) (fun q => absurd q q0) (fun q => ?_)
    refine lv_iconst (v := 1) hx hb dL_law_513 (by decide) ?_
    refine lv_goto (tgt := 518) hx hb dL_law_514 (by decide) ?_
    refine x_callViR (rest := [.int r]) C hP hD hS (c_X8_share g2) (cwV 2 hts (gV mw24_17 mw24_18 mw24_19 mw1_5 mw24_20) rfl rfl rfl hdV_X8_share ⟨Nat.le_of_ble_eq_true rfl, Nat.le_of_ble_eq_true rfl⟩) mw_0 rfl rfl hl.1 rfl (Nat.le_of_ble_eq_true rfl) dL_law_518 ⟨Nat.le_of_ble_eq_true rfl, Nat.le_of_ble_eq_true rfl⟩ (fun H locs hP hD hS => ?_)
    refine lv_icmp_eq (tgt := 1040) hx hb dL_law_521 (by decide) (fun q => ?_) (fun q => absurd rfl q)
    exact kk _ _ _ _ H locs ls hR1 hP hD hS hl
set_option maxHeartbeats 4000000 in
set_option maxRecDepth 100000 in
theorem lw_case_16 (C : Cx p s m #[Value.ref b] meth c D cy tT tF (fun q : Nat => s.heap.size ≤ q) cL_law 4 RL) (hX : va_X b L xs s s.heap) (hbl : b < s.heap.size) (hi : i + 5 ≤ L) (hL : L ≤ 320) (kk : LK p l e s m below meth c D cy b i Q) {σ τ : ES} (hR : Rel σ τ) {ad ad2 : Nat → Nat} {H : Heap} {locs : List Loc} {ls : Array Slot} (hP : va_P D vwCl (xw cy ad σ ++ mw cy ad2 τ) H) (hD : va_D (fun q : Nat => s.heap.size ≤ q) (xw cy ad σ ++ mw cy ad2 τ)) (hS : va_S (fun q : Nat => s.heap.size ≤ q) s.heap H locs) (hl : lv_has ls 4 [(0, .ref b), (1, .ref (ad 0)), (2, .ref (ad2 0)), (3, .int (nI i))]) : W p l e room_1 s m #[Value.ref b] below meth c H locs 600000 7302250 Q (F0 m 526 ls []) := by
  obtain ⟨⟨hx, hb, hml, hown, hts⟩, hK, hT, hA, hlk⟩ := id C
  have hbA : ¬ (fun q : Nat => s.heap.size ≤ q) b := Nat.not_le.mpr hbl
  refine lv_aload_n hx hb dL_law_526 rfl (lv_at hl 1 rfl) ?_
  refine lv_aload_n hx hb dL_law_527 rfl (lv_at hl 0 rfl) ?_
  refine lv_iload_n hx hb dL_law_528 rfl (lv_at hl 3 rfl) ?_
  refine lv_iconst (v := 1) hx hb dL_law_529 (by decide) ?_
  refine lv_iadd hx hb dL_law_530 ?_
  refine va_sld hx hb hX hbl hbA hS (sc_in hi hL 1 (by decide) rfl) dL_law_531 ?_
  refine lv_aload_n hx hb dL_law_532 rfl (lv_at hl 0 rfl) ?_
  refine lv_iload_n hx hb dL_law_533 rfl (lv_at hl 3 rfl) ?_
  refine lv_iconst (v := 2) hx hb dL_law_534 (by decide) ?_
  refine lv_iadd hx hb dL_law_535 ?_
  refine va_sld hx hb hX hbl hbA hS (sc_in hi hL 2 (by decide) rfl) dL_law_536 ?_
  obtain ⟨r, g1, g2⟩ := st_table hR (xs (nI i + (1 : Int32)).toNatClampNeg) (xs (nI i + (2 : Int32)).toNatClampNeg)
  refine x_callViL (rest := []) C hP hD hS (c_X7_table_0 g1) (cwV 2 hts (gV mw25_6 mw25_7 mw25_8 mw1_2 mw25_9) rfl rfl rfl hdV_X7_table ⟨Nat.le_of_ble_eq_true rfl, Nat.le_of_ble_eq_true rfl⟩) xw_0 rfl rfl hl.1 rfl (Nat.le_of_ble_eq_true rfl) dL_law_537 ⟨Nat.le_of_ble_eq_true rfl, Nat.le_of_ble_eq_true rfl⟩ (fun H locs hP hD hS => ?_)
  refine lv_aload_n hx hb dL_law_540 rfl (lv_at hl 2 rfl) ?_
  refine lv_aload_n hx hb dL_law_541 rfl (lv_at hl 0 rfl) ?_
  refine lv_iload_n hx hb dL_law_542 rfl (lv_at hl 3 rfl) ?_
  refine lv_iconst (v := 1) hx hb dL_law_543 (by decide) ?_
  refine lv_iadd hx hb dL_law_544 ?_
  refine va_sld hx hb hX hbl hbA hS (sc_in hi hL 1 (by decide) rfl) dL_law_545 ?_
  refine lv_aload_n hx hb dL_law_546 rfl (lv_at hl 0 rfl) ?_
  refine lv_iload_n hx hb dL_law_547 rfl (lv_at hl 3 rfl) ?_
  refine lv_iconst (v := 2) hx hb dL_law_548 (by decide) ?_
  refine lv_iadd hx hb dL_law_549 ?_
  refine va_sld hx hb hX hbl hbA hS (sc_in hi hL 2 (by decide) rfl) dL_law_550 ?_
  refine x_callViR (rest := [.int r]) C hP hD hS (c_X8_table g2) (cwV 2 hts (gV mw25_15 mw25_16 mw25_17 mw1_5 mw25_18) rfl rfl rfl hdV_X8_table ⟨Nat.le_of_ble_eq_true rfl, Nat.le_of_ble_eq_true rfl⟩) mw_0 rfl rfl hl.1 rfl (Nat.le_of_ble_eq_true rfl) dL_law_551 ⟨Nat.le_of_ble_eq_true rfl, Nat.le_of_ble_eq_true rfl⟩ (fun H locs hP hD hS => ?_)
  refine lv_icmp_eq (tgt := 1040) hx hb dL_law_554 (by decide) (fun q => ?_) (fun q => absurd rfl q)
  exact kk _ _ _ _ H locs ls hR hP hD hS hl
set_option maxHeartbeats 4000000 in
set_option maxRecDepth 100000 in
theorem lw_case_17 (C : Cx p s m #[Value.ref b] meth c D cy tT tF (fun q : Nat => s.heap.size ≤ q) cL_law 4 RL) (hX : va_X b L xs s s.heap) (hbl : b < s.heap.size) (hi : i + 5 ≤ L) (hL : L ≤ 320) (kk : LK p l e s m below meth c D cy b i Q) {σ τ : ES} (hR : Rel σ τ) {ad ad2 : Nat → Nat} {H : Heap} {locs : List Loc} {ls : Array Slot} (hP : va_P D vwCl (xw cy ad σ ++ mw cy ad2 τ) H) (hD : va_D (fun q : Nat => s.heap.size ≤ q) (xw cy ad σ ++ mw cy ad2 τ)) (hS : va_S (fun q : Nat => s.heap.size ≤ q) s.heap H locs) (hl : lv_has ls 4 [(0, .ref b), (1, .ref (ad 0)), (2, .ref (ad2 0)), (3, .int (nI i))]) : W p l e room_1 s m #[Value.ref b] below meth c H locs 600000 7302250 Q (F0 m 559 ls []) := by
  obtain ⟨⟨hx, hb, hml, hown, hts⟩, hK, hT, hA, hlk⟩ := id C
  have hbA : ¬ (fun q : Nat => s.heap.size ≤ q) b := Nat.not_le.mpr hbl
  refine lv_aload_n hx hb dL_law_559 rfl (lv_at hl 1 rfl) ?_
  obtain ⟨r, τ1, g1, g2, hR1⟩ := st_pairs hR 
  refine x_callViL (rest := []) C hP hD hS (c_X7_pairs_0 g1) (cwV 0 hts (gV mw26_3 mw26_4 mw26_5 mw1_2 mw26_6) rfl rfl rfl hdV_X7_pairs ⟨Nat.le_of_ble_eq_true rfl, Nat.le_of_ble_eq_true rfl⟩) xw_0 rfl rfl hl.1 rfl (Nat.le_of_ble_eq_true rfl) dL_law_560 ⟨Nat.le_of_ble_eq_true rfl, Nat.le_of_ble_eq_true rfl⟩ (fun H locs hP hD hS => ?_)
  refine lv_aload_n hx hb dL_law_563 rfl (lv_at hl 2 rfl) ?_
  refine x_callViR (rest := [.int r]) C hP hD hS (c_X8_pairs g2) (cwV 0 hts (gV mw26_18 mw26_19 mw26_20 mw1_5 mw26_21) rfl rfl rfl hdV_X8_pairs ⟨Nat.le_of_ble_eq_true rfl, Nat.le_of_ble_eq_true rfl⟩) mw_0 rfl rfl hl.1 rfl (Nat.le_of_ble_eq_true rfl) dL_law_564 ⟨Nat.le_of_ble_eq_true rfl, Nat.le_of_ble_eq_true rfl⟩ (fun H locs hP hD hS => ?_)
  refine lv_icmp_eq (tgt := 1040) hx hb dL_law_567 (by decide) (fun q => ?_) (fun q => absurd rfl q)
  exact kk _ _ _ _ H locs ls hR1 hP hD hS hl
set_option maxHeartbeats 4000000 in
set_option maxRecDepth 100000 in
theorem lw_case_18 (C : Cx p s m #[Value.ref b] meth c D cy tT tF (fun q : Nat => s.heap.size ≤ q) cL_law 4 RL) (hX : va_X b L xs s s.heap) (hbl : b < s.heap.size) (hi : i + 5 ≤ L) (hL : L ≤ 320) (kk : LK p l e s m below meth c D cy b i Q) {σ τ : ES} (hR : Rel σ τ) {ad ad2 : Nat → Nat} {H : Heap} {locs : List Loc} {ls : Array Slot} (hP : va_P D vwCl (xw cy ad σ ++ mw cy ad2 τ) H) (hD : va_D (fun q : Nat => s.heap.size ≤ q) (xw cy ad σ ++ mw cy ad2 τ)) (hS : va_S (fun q : Nat => s.heap.size ≤ q) s.heap H locs) (hl : lv_has ls 4 [(0, .ref b), (1, .ref (ad 0)), (2, .ref (ad2 0)), (3, .int (nI i))]) : W p l e room_1 s m #[Value.ref b] below meth c H locs 600000 7302250 Q (F0 m 572 ls []) := by
  obtain ⟨⟨hx, hb, hml, hown, hts⟩, hK, hT, hA, hlk⟩ := id C
  have hbA : ¬ (fun q : Nat => s.heap.size ≤ q) b := Nat.not_le.mpr hbl
  refine lv_aload_n hx hb dL_law_572 rfl (lv_at hl 1 rfl) ?_
  refine lv_aload_n hx hb dL_law_573 rfl (lv_at hl 0 rfl) ?_
  refine lv_iload_n hx hb dL_law_574 rfl (lv_at hl 3 rfl) ?_
  refine lv_iconst (v := 1) hx hb dL_law_575 (by decide) ?_
  refine lv_iadd hx hb dL_law_576 ?_
  refine va_sld hx hb hX hbl hbA hS (sc_in hi hL 1 (by decide) rfl) dL_law_577 ?_
  refine lv_aload_n hx hb dL_law_578 rfl (lv_at hl 0 rfl) ?_
  refine lv_iload_n hx hb dL_law_579 rfl (lv_at hl 3 rfl) ?_
  refine lv_iconst (v := 2) hx hb dL_law_580 (by decide) ?_
  refine lv_iadd hx hb dL_law_581 ?_
  refine va_sld hx hb hX hbl hbA hS (sc_in hi hL 2 (by decide) rfl) dL_law_582 ?_
  obtain ⟨r, σ1, τ1, g1, g2, hR1⟩ := st_judge hR (xs (nI i + (1 : Int32)).toNatClampNeg) (xs (nI i + (2 : Int32)).toNatClampNeg)
  refine x_callViL (rest := []) C hP hD hS (c_X7_judge_0 g1) (cwV 2 hts (gV mw26_22 mw26_23 mw27_0 mw1_2 mw27_1) rfl rfl rfl hdV_X7_judge ⟨Nat.le_of_ble_eq_true rfl, Nat.le_of_ble_eq_true rfl⟩) xw_0 rfl rfl hl.1 rfl (Nat.le_of_ble_eq_true rfl) dL_law_583 ⟨Nat.le_of_ble_eq_true rfl, Nat.le_of_ble_eq_true rfl⟩ (fun H locs hP hD hS => ?_)
  refine lv_aload_n hx hb dL_law_586 rfl (lv_at hl 2 rfl) ?_
  refine lv_aload_n hx hb dL_law_587 rfl (lv_at hl 0 rfl) ?_
  refine lv_iload_n hx hb dL_law_588 rfl (lv_at hl 3 rfl) ?_
  refine lv_iconst (v := 1) hx hb dL_law_589 (by decide) ?_
  refine lv_iadd hx hb dL_law_590 ?_
  refine va_sld hx hb hX hbl hbA hS (sc_in hi hL 1 (by decide) rfl) dL_law_591 ?_
  refine lv_aload_n hx hb dL_law_592 rfl (lv_at hl 0 rfl) ?_
  refine lv_iload_n hx hb dL_law_593 rfl (lv_at hl 3 rfl) ?_
  refine lv_iconst (v := 2) hx hb dL_law_594 (by decide) ?_
  refine lv_iadd hx hb dL_law_595 ?_
  refine va_sld hx hb hX hbl hbA hS (sc_in hi hL 2 (by decide) rfl) dL_law_596 ?_
  refine x_callViR (rest := [.int r]) C hP hD hS (c_X8_judge g2) (cwV 2 hts (gV mw27_18 mw27_19 mw27_20 mw1_5 mw27_21) rfl rfl rfl hdV_X8_judge ⟨Nat.le_of_ble_eq_true rfl, Nat.le_of_ble_eq_true rfl⟩) mw_0 rfl rfl hl.1 rfl (Nat.le_of_ble_eq_true rfl) dL_law_597 ⟨Nat.le_of_ble_eq_true rfl, Nat.le_of_ble_eq_true rfl⟩ (fun H locs hP hD hS => ?_)
  refine lv_icmp_eq (tgt := 1040) hx hb dL_law_600 (by decide) (fun q => ?_) (fun q => absurd rfl q)
  exact kk _ _ _ _ H locs ls hR1 hP hD hS hl
set_option maxHeartbeats 4000000 in
set_option maxRecDepth 100000 in
theorem lw_case_19 (C : Cx p s m #[Value.ref b] meth c D cy tT tF (fun q : Nat => s.heap.size ≤ q) cL_law 4 RL) (hX : va_X b L xs s s.heap) (hbl : b < s.heap.size) (hi : i + 5 ≤ L) (hL : L ≤ 320) (kk : LK p l e s m below meth c D cy b i Q) {σ τ : ES} (hR : Rel σ τ) {ad ad2 : Nat → Nat} {H : Heap} {locs : List Loc} {ls : Array Slot} (hP : va_P D vwCl (xw cy ad σ ++ mw cy ad2 τ) H) (hD : va_D (fun q : Nat => s.heap.size ≤ q) (xw cy ad σ ++ mw cy ad2 τ)) (hS : va_S (fun q : Nat => s.heap.size ≤ q) s.heap H locs) (hl : lv_has ls 4 [(0, .ref b), (1, .ref (ad 0)), (2, .ref (ad2 0)), (3, .int (nI i))]) : W p l e room_1 s m #[Value.ref b] below meth c H locs 600000 7302250 Q (F0 m 605 ls []) := by
  obtain ⟨⟨hx, hb, hml, hown, hts⟩, hK, hT, hA, hlk⟩ := id C
  have hbA : ¬ (fun q : Nat => s.heap.size ≤ q) b := Nat.not_le.mpr hbl
  refine lv_aload_n hx hb dL_law_605 rfl (lv_at hl 1 rfl) ?_
  refine lv_aload_n hx hb dL_law_606 rfl (lv_at hl 0 rfl) ?_
  refine lv_iload_n hx hb dL_law_607 rfl (lv_at hl 3 rfl) ?_
  refine lv_iconst (v := 1) hx hb dL_law_608 (by decide) ?_
  refine lv_iadd hx hb dL_law_609 ?_
  refine va_sld hx hb hX hbl hbA hS (sc_in hi hL 1 (by decide) rfl) dL_law_610 ?_
  refine lv_aload_n hx hb dL_law_611 rfl (lv_at hl 0 rfl) ?_
  refine lv_iload_n hx hb dL_law_612 rfl (lv_at hl 3 rfl) ?_
  refine lv_iconst (v := 2) hx hb dL_law_613 (by decide) ?_
  refine lv_iadd hx hb dL_law_614 ?_
  refine va_sld hx hb hX hbl hbA hS (sc_in hi hL 2 (by decide) rfl) dL_law_615 ?_
  refine lv_aload_n hx hb dL_law_616 rfl (lv_at hl 0 rfl) ?_
  refine lv_iload_n hx hb dL_law_617 rfl (lv_at hl 3 rfl) ?_
  refine lv_iconst (v := 3) hx hb dL_law_618 (by decide) ?_
  refine lv_iadd hx hb dL_law_619 ?_
  refine va_sld hx hb hX hbl hbA hS (sc_in hi hL 3 (by decide) rfl) dL_law_620 ?_
  refine lv_if_eq (tgt := 628) hx hb dL_law_621 (by decide) (fun q0 => ?_) (fun q0 => ?_)
  · refine lv_iconst (v := 0) hx hb dL_law_628 (by decide) ?_
    obtain ⟨r, g1, g2⟩ := st_stub hR (xs (nI i + (1 : Int32)).toNatClampNeg) (xs (nI i + (2 : Int32)).toNatClampNeg) (0 : Int32)
    refine x_callViL (rest := []) C hP hD hS (c_X7_stub_0 g1) (cwV 3 hts (gV mw27_23 mw28_0 mw28_1 mw1_2 mw28_2) rfl rfl rfl hdV_X7_stub ⟨Nat.le_of_ble_eq_true rfl, Nat.le_of_ble_eq_true rfl⟩) xw_0 rfl rfl hl.1 rfl (Nat.le_of_ble_eq_true rfl) dL_law_629 ⟨Nat.le_of_ble_eq_true rfl, Nat.le_of_ble_eq_true rfl⟩ (fun H locs hP hD hS => ?_)
    refine lv_aload_n hx hb dL_law_632 rfl (lv_at hl 2 rfl) ?_
    refine lv_aload_n hx hb dL_law_633 rfl (lv_at hl 0 rfl) ?_
    refine lv_iload_n hx hb dL_law_634 rfl (lv_at hl 3 rfl) ?_
    refine lv_iconst (v := 1) hx hb dL_law_635 (by decide) ?_
    refine lv_iadd hx hb dL_law_636 ?_
    refine va_sld hx hb hX hbl hbA hS (sc_in hi hL 1 (by decide) rfl) dL_law_637 ?_
    refine lv_aload_n hx hb dL_law_638 rfl (lv_at hl 0 rfl) ?_
    refine lv_iload_n hx hb dL_law_639 rfl (lv_at hl 3 rfl) ?_
    refine lv_iconst (v := 2) hx hb dL_law_640 (by decide) ?_
    refine lv_iadd hx hb dL_law_641 ?_
    refine va_sld hx hb hX hbl hbA hS (sc_in hi hL 2 (by decide) rfl) dL_law_642 ?_
    refine lv_aload_n hx hb dL_law_643 rfl (lv_at hl 0 rfl) ?_
    refine lv_iload_n hx hb dL_law_644 rfl (lv_at hl 3 rfl) ?_
    refine lv_iconst (v := 3) hx hb dL_law_645 (by decide) ?_
    refine lv_iadd hx hb dL_law_646 ?_
    refine va_sld hx hb hX hbl hbA hS (sc_in hi hL 3 (by decide) rfl) dL_law_647 ?_
    refine lv_if_eq (tgt := 655) hx hb dL_law_648 (by decide) (fun q => ?_) (fun q => absurd q0 q)
    refine lv_iconst (v := 0) hx hb dL_law_655 (by decide) ?_
    refine x_callViR (rest := [.int r]) C hP hD hS (c_X8_stub g2) (cwV 3 hts (gV mw28_17 mw28_18 mw28_19 mw1_5 mw28_20) rfl rfl rfl hdV_X8_stub ⟨Nat.le_of_ble_eq_true rfl, Nat.le_of_ble_eq_true rfl⟩) mw_0 rfl rfl hl.1 rfl (Nat.le_of_ble_eq_true rfl) dL_law_656 ⟨Nat.le_of_ble_eq_true rfl, Nat.le_of_ble_eq_true rfl⟩ (fun H locs hP hD hS => ?_)
    refine lv_icmp_eq (tgt := 1040) hx hb dL_law_659 (by decide) (fun q => ?_) (fun q => absurd rfl q)
    exact kk _ _ _ _ H locs ls hR hP hD hS hl
  · refine lv_iconst (v := 1) hx hb dL_law_624 (by decide) ?_
    refine lv_goto (tgt := 629) hx hb dL_law_625 (by decide) ?_
    obtain ⟨r, g1, g2⟩ := st_stub hR (xs (nI i + (1 : Int32)).toNatClampNeg) (xs (nI i + (2 : Int32)).toNatClampNeg) (1 : Int32)
    refine x_callViL (rest := []) C hP hD hS (c_X7_stub_0 g1) (cwV 3 hts (gV mw27_23 mw28_0 mw28_1 mw1_2 mw28_2) rfl rfl rfl hdV_X7_stub ⟨Nat.le_of_ble_eq_true rfl, Nat.le_of_ble_eq_true rfl⟩) xw_0 rfl rfl hl.1 rfl (Nat.le_of_ble_eq_true rfl) dL_law_629 ⟨Nat.le_of_ble_eq_true rfl, Nat.le_of_ble_eq_true rfl⟩ (fun H locs hP hD hS => ?_)
    refine lv_aload_n hx hb dL_law_632 rfl (lv_at hl 2 rfl) ?_
    refine lv_aload_n hx hb dL_law_633 rfl (lv_at hl 0 rfl) ?_
    refine lv_iload_n hx hb dL_law_634 rfl (lv_at hl 3 rfl) ?_
    refine lv_iconst (v := 1) hx hb dL_law_635 (by decide) ?_
    refine lv_iadd hx hb dL_law_636 ?_
    refine va_sld hx hb hX hbl hbA hS (sc_in hi hL 1 (by decide) rfl) dL_law_637 ?_
    refine lv_aload_n hx hb dL_law_638 rfl (lv_at hl 0 rfl) ?_
    refine lv_iload_n hx hb dL_law_639 rfl (lv_at hl 3 rfl) ?_
    refine lv_iconst (v := 2) hx hb dL_law_640 (by decide) ?_
    refine lv_iadd hx hb dL_law_641 ?_
    refine va_sld hx hb hX hbl hbA hS (sc_in hi hL 2 (by decide) rfl) dL_law_642 ?_
    refine lv_aload_n hx hb dL_law_643 rfl (lv_at hl 0 rfl) ?_
    refine lv_iload_n hx hb dL_law_644 rfl (lv_at hl 3 rfl) ?_
    refine lv_iconst (v := 3) hx hb dL_law_645 (by decide) ?_
    refine lv_iadd hx hb dL_law_646 ?_
    refine va_sld hx hb hX hbl hbA hS (sc_in hi hL 3 (by decide) rfl) dL_law_647 ?_
    refine lv_if_eq (tgt := 655) hx hb dL_law_648 (by decide) (fun q => absurd q q0) (fun q => ?_)
    refine lv_iconst (v := 1) hx hb dL_law_651 (by decide) ?_
    refine lv_goto (tgt := 656) hx hb dL_law_652 (by decide) ?_
    refine x_callViR (rest := [.int r]) C hP hD hS (c_X8_stub g2) (cwV 3 hts (gV mw28_17 mw28_18 mw28_19 mw1_5 mw28_20) rfl rfl rfl hdV_X8_stub ⟨Nat.le_of_ble_eq_true rfl, Nat.le_of_ble_eq_true rfl⟩) mw_0 rfl rfl hl.1 rfl (Nat.le_of_ble_eq_true rfl) dL_law_656 ⟨Nat.le_of_ble_eq_true rfl, Nat.le_of_ble_eq_true rfl⟩ (fun H locs hP hD hS => ?_)
    refine lv_icmp_eq (tgt := 1040) hx hb dL_law_659 (by decide) (fun q => ?_) (fun q => absurd rfl q)
    exact kk _ _ _ _ H locs ls hR hP hD hS hl
set_option maxHeartbeats 4000000 in
set_option maxRecDepth 100000 in
theorem lw_case_20 (C : Cx p s m #[Value.ref b] meth c D cy tT tF (fun q : Nat => s.heap.size ≤ q) cL_law 4 RL) (hX : va_X b L xs s s.heap) (hbl : b < s.heap.size) (hi : i + 5 ≤ L) (hL : L ≤ 320) (kk : LK p l e s m below meth c D cy b i Q) {σ τ : ES} (hR : Rel σ τ) {ad ad2 : Nat → Nat} {H : Heap} {locs : List Loc} {ls : Array Slot} (hP : va_P D vwCl (xw cy ad σ ++ mw cy ad2 τ) H) (hD : va_D (fun q : Nat => s.heap.size ≤ q) (xw cy ad σ ++ mw cy ad2 τ)) (hS : va_S (fun q : Nat => s.heap.size ≤ q) s.heap H locs) (hl : lv_has ls 4 [(0, .ref b), (1, .ref (ad 0)), (2, .ref (ad2 0)), (3, .int (nI i))]) : W p l e room_1 s m #[Value.ref b] below meth c H locs 600000 7302250 Q (F0 m 664 ls []) := by
  obtain ⟨⟨hx, hb, hml, hown, hts⟩, hK, hT, hA, hlk⟩ := id C
  have hbA : ¬ (fun q : Nat => s.heap.size ≤ q) b := Nat.not_le.mpr hbl
  refine lv_aload_n hx hb dL_law_664 rfl (lv_at hl 1 rfl) ?_
  refine lv_aload_n hx hb dL_law_665 rfl (lv_at hl 0 rfl) ?_
  refine lv_iload_n hx hb dL_law_666 rfl (lv_at hl 3 rfl) ?_
  refine lv_iconst (v := 1) hx hb dL_law_667 (by decide) ?_
  refine lv_iadd hx hb dL_law_668 ?_
  refine va_sld hx hb hX hbl hbA hS (sc_in hi hL 1 (by decide) rfl) dL_law_669 ?_
  obtain ⟨r, σ1, τ1, g1, g2, hR1⟩ := st_see hR (xs (nI i + (1 : Int32)).toNatClampNeg)
  refine x_callViL (rest := []) C hP hD hS (c_X7_see_0 g1) (cwV 1 hts (gV mw29_2 mw29_3 mw29_4 mw1_2 mw29_5) rfl rfl rfl hdV_X7_see ⟨Nat.le_of_ble_eq_true rfl, Nat.le_of_ble_eq_true rfl⟩) xw_0 rfl rfl hl.1 rfl (Nat.le_of_ble_eq_true rfl) dL_law_670 ⟨Nat.le_of_ble_eq_true rfl, Nat.le_of_ble_eq_true rfl⟩ (fun H locs hP hD hS => ?_)
  refine lv_aload_n hx hb dL_law_673 rfl (lv_at hl 2 rfl) ?_
  refine lv_aload_n hx hb dL_law_674 rfl (lv_at hl 0 rfl) ?_
  refine lv_iload_n hx hb dL_law_675 rfl (lv_at hl 3 rfl) ?_
  refine lv_iconst (v := 1) hx hb dL_law_676 (by decide) ?_
  refine lv_iadd hx hb dL_law_677 ?_
  refine va_sld hx hb hX hbl hbA hS (sc_in hi hL 1 (by decide) rfl) dL_law_678 ?_
  refine x_callViR (rest := [.int r]) C hP hD hS (c_X8_see g2) (cwV 1 hts (gV mw29_10 mw29_11 mw29_12 mw1_5 mw29_13) rfl rfl rfl hdV_X8_see ⟨Nat.le_of_ble_eq_true rfl, Nat.le_of_ble_eq_true rfl⟩) mw_0 rfl rfl hl.1 rfl (Nat.le_of_ble_eq_true rfl) dL_law_679 ⟨Nat.le_of_ble_eq_true rfl, Nat.le_of_ble_eq_true rfl⟩ (fun H locs hP hD hS => ?_)
  refine lv_icmp_eq (tgt := 1040) hx hb dL_law_682 (by decide) (fun q => ?_) (fun q => absurd rfl q)
  exact kk _ _ _ _ H locs ls hR1 hP hD hS hl
set_option maxHeartbeats 4000000 in
set_option maxRecDepth 100000 in
theorem lw_case_21 (C : Cx p s m #[Value.ref b] meth c D cy tT tF (fun q : Nat => s.heap.size ≤ q) cL_law 4 RL) (hX : va_X b L xs s s.heap) (hbl : b < s.heap.size) (hi : i + 5 ≤ L) (hL : L ≤ 320) (kk : LK p l e s m below meth c D cy b i Q) {σ τ : ES} (hR : Rel σ τ) {ad ad2 : Nat → Nat} {H : Heap} {locs : List Loc} {ls : Array Slot} (hP : va_P D vwCl (xw cy ad σ ++ mw cy ad2 τ) H) (hD : va_D (fun q : Nat => s.heap.size ≤ q) (xw cy ad σ ++ mw cy ad2 τ)) (hS : va_S (fun q : Nat => s.heap.size ≤ q) s.heap H locs) (hl : lv_has ls 4 [(0, .ref b), (1, .ref (ad 0)), (2, .ref (ad2 0)), (3, .int (nI i))]) : W p l e room_1 s m #[Value.ref b] below meth c H locs 600000 7302250 Q (F0 m 687 ls []) := by
  obtain ⟨⟨hx, hb, hml, hown, hts⟩, hK, hT, hA, hlk⟩ := id C
  have hbA : ¬ (fun q : Nat => s.heap.size ≤ q) b := Nat.not_le.mpr hbl
  refine lv_aload_n hx hb dL_law_687 rfl (lv_at hl 1 rfl) ?_
  obtain ⟨r, σ1, τ1, g1, g2, hR1⟩ := st_unsee hR 
  refine x_callViL (rest := []) C hP hD hS (c_X7_unsee_0 g1) (cwV 0 hts (gV mw29_16 mw29_17 mw29_18 mw1_2 mw29_19) rfl rfl rfl hdV_X7_unsee ⟨Nat.le_of_ble_eq_true rfl, Nat.le_of_ble_eq_true rfl⟩) xw_0 rfl rfl hl.1 rfl (Nat.le_of_ble_eq_true rfl) dL_law_688 ⟨Nat.le_of_ble_eq_true rfl, Nat.le_of_ble_eq_true rfl⟩ (fun H locs hP hD hS => ?_)
  refine lv_aload_n hx hb dL_law_691 rfl (lv_at hl 2 rfl) ?_
  refine x_callViR (rest := [.int r]) C hP hD hS (c_X8_unsee g2) (cwV 0 hts (gV mw30_0 mw30_1 mw30_2 mw1_5 mw30_3) rfl rfl rfl hdV_X8_unsee ⟨Nat.le_of_ble_eq_true rfl, Nat.le_of_ble_eq_true rfl⟩) mw_0 rfl rfl hl.1 rfl (Nat.le_of_ble_eq_true rfl) dL_law_692 ⟨Nat.le_of_ble_eq_true rfl, Nat.le_of_ble_eq_true rfl⟩ (fun H locs hP hD hS => ?_)
  refine lv_icmp_eq (tgt := 1040) hx hb dL_law_695 (by decide) (fun q => ?_) (fun q => absurd rfl q)
  exact kk _ _ _ _ H locs ls hR1 hP hD hS hl
set_option maxHeartbeats 4000000 in
set_option maxRecDepth 100000 in
theorem lw_case_22 (C : Cx p s m #[Value.ref b] meth c D cy tT tF (fun q : Nat => s.heap.size ≤ q) cL_law 4 RL) (hX : va_X b L xs s s.heap) (hbl : b < s.heap.size) (hi : i + 5 ≤ L) (hL : L ≤ 320) (kk : LK p l e s m below meth c D cy b i Q) {σ τ : ES} (hR : Rel σ τ) {ad ad2 : Nat → Nat} {H : Heap} {locs : List Loc} {ls : Array Slot} (hP : va_P D vwCl (xw cy ad σ ++ mw cy ad2 τ) H) (hD : va_D (fun q : Nat => s.heap.size ≤ q) (xw cy ad σ ++ mw cy ad2 τ)) (hS : va_S (fun q : Nat => s.heap.size ≤ q) s.heap H locs) (hl : lv_has ls 4 [(0, .ref b), (1, .ref (ad 0)), (2, .ref (ad2 0)), (3, .int (nI i))]) : W p l e room_1 s m #[Value.ref b] below meth c H locs 600000 7302250 Q (F0 m 700 ls []) := by
  obtain ⟨⟨hx, hb, hml, hown, hts⟩, hK, hT, hA, hlk⟩ := id C
  have hbA : ¬ (fun q : Nat => s.heap.size ≤ q) b := Nat.not_le.mpr hbl
  refine lv_aload_n hx hb dL_law_700 rfl (lv_at hl 1 rfl) ?_
  refine lv_aload_n hx hb dL_law_701 rfl (lv_at hl 0 rfl) ?_
  refine lv_iload_n hx hb dL_law_702 rfl (lv_at hl 3 rfl) ?_
  refine lv_iconst (v := 1) hx hb dL_law_703 (by decide) ?_
  refine lv_iadd hx hb dL_law_704 ?_
  refine va_sld hx hb hX hbl hbA hS (sc_in hi hL 1 (by decide) rfl) dL_law_705 ?_
  obtain ⟨r, g1, g2⟩ := st_from hR (xs (nI i + (1 : Int32)).toNatClampNeg)
  refine x_callViL (rest := []) C hP hD hS (c_X7_from_0 g1) (cwV 1 hts (gV mw30_4 mw30_5 mw30_6 mw1_2 mw30_7) rfl rfl rfl hdV_X7_from ⟨Nat.le_of_ble_eq_true rfl, Nat.le_of_ble_eq_true rfl⟩) xw_0 rfl rfl hl.1 rfl (Nat.le_of_ble_eq_true rfl) dL_law_706 ⟨Nat.le_of_ble_eq_true rfl, Nat.le_of_ble_eq_true rfl⟩ (fun H locs hP hD hS => ?_)
  refine lv_aload_n hx hb dL_law_709 rfl (lv_at hl 2 rfl) ?_
  refine lv_aload_n hx hb dL_law_710 rfl (lv_at hl 0 rfl) ?_
  refine lv_iload_n hx hb dL_law_711 rfl (lv_at hl 3 rfl) ?_
  refine lv_iconst (v := 1) hx hb dL_law_712 (by decide) ?_
  refine lv_iadd hx hb dL_law_713 ?_
  refine va_sld hx hb hX hbl hbA hS (sc_in hi hL 1 (by decide) rfl) dL_law_714 ?_
  refine x_callViR (rest := [.int r]) C hP hD hS (c_X8_from g2) (cwV 1 hts (gV mw30_18 mw30_19 mw30_20 mw1_5 mw30_21) rfl rfl rfl hdV_X8_from ⟨Nat.le_of_ble_eq_true rfl, Nat.le_of_ble_eq_true rfl⟩) mw_0 rfl rfl hl.1 rfl (Nat.le_of_ble_eq_true rfl) dL_law_715 ⟨Nat.le_of_ble_eq_true rfl, Nat.le_of_ble_eq_true rfl⟩ (fun H locs hP hD hS => ?_)
  refine lv_icmp_eq (tgt := 1040) hx hb dL_law_718 (by decide) (fun q => ?_) (fun q => absurd rfl q)
  exact kk _ _ _ _ H locs ls hR hP hD hS hl
set_option maxHeartbeats 4000000 in
set_option maxRecDepth 100000 in
theorem lw_case_23 (C : Cx p s m #[Value.ref b] meth c D cy tT tF (fun q : Nat => s.heap.size ≤ q) cL_law 4 RL) (hX : va_X b L xs s s.heap) (hbl : b < s.heap.size) (hi : i + 5 ≤ L) (hL : L ≤ 320) (kk : LK p l e s m below meth c D cy b i Q) {σ τ : ES} (hR : Rel σ τ) {ad ad2 : Nat → Nat} {H : Heap} {locs : List Loc} {ls : Array Slot} (hP : va_P D vwCl (xw cy ad σ ++ mw cy ad2 τ) H) (hD : va_D (fun q : Nat => s.heap.size ≤ q) (xw cy ad σ ++ mw cy ad2 τ)) (hS : va_S (fun q : Nat => s.heap.size ≤ q) s.heap H locs) (hl : lv_has ls 4 [(0, .ref b), (1, .ref (ad 0)), (2, .ref (ad2 0)), (3, .int (nI i))]) : W p l e room_1 s m #[Value.ref b] below meth c H locs 600000 7302250 Q (F0 m 723 ls []) := by
  obtain ⟨⟨hx, hb, hml, hown, hts⟩, hK, hT, hA, hlk⟩ := id C
  have hbA : ¬ (fun q : Nat => s.heap.size ≤ q) b := Nat.not_le.mpr hbl
  refine lv_aload_n hx hb dL_law_723 rfl (lv_at hl 1 rfl) ?_
  refine lv_aload_n hx hb dL_law_724 rfl (lv_at hl 0 rfl) ?_
  refine lv_iload_n hx hb dL_law_725 rfl (lv_at hl 3 rfl) ?_
  refine lv_iconst (v := 1) hx hb dL_law_726 (by decide) ?_
  refine lv_iadd hx hb dL_law_727 ?_
  refine va_sld hx hb hX hbl hbA hS (sc_in hi hL 1 (by decide) rfl) dL_law_728 ?_
  refine lv_aload_n hx hb dL_law_729 rfl (lv_at hl 0 rfl) ?_
  refine lv_iload_n hx hb dL_law_730 rfl (lv_at hl 3 rfl) ?_
  refine lv_iconst (v := 2) hx hb dL_law_731 (by decide) ?_
  refine lv_iadd hx hb dL_law_732 ?_
  refine va_sld hx hb hX hbl hbA hS (sc_in hi hL 2 (by decide) rfl) dL_law_733 ?_
  refine lv_aload_n hx hb dL_law_734 rfl (lv_at hl 0 rfl) ?_
  refine lv_iload_n hx hb dL_law_735 rfl (lv_at hl 3 rfl) ?_
  refine lv_iconst (v := 3) hx hb dL_law_736 (by decide) ?_
  refine lv_iadd hx hb dL_law_737 ?_
  refine va_sld hx hb hX hbl hbA hS (sc_in hi hL 3 (by decide) rfl) dL_law_738 ?_
  refine lv_if_eq (tgt := 746) hx hb dL_law_739 (by decide) (fun q0 => ?_) (fun q0 => ?_)
  · refine lv_iconst (v := 0) hx hb dL_law_746 (by decide) ?_
    obtain ⟨r, g1, g2⟩ := st_next hR (xs (nI i + (1 : Int32)).toNatClampNeg) (xs (nI i + (2 : Int32)).toNatClampNeg) (0 : Int32)
    refine x_callViL (rest := []) C hP hD hS (c_X7_next_0 g1) (cwV 3 hts (gV mw31_3 mw31_4 mw31_5 mw1_2 mw31_6) rfl rfl rfl hdV_X7_next ⟨Nat.le_of_ble_eq_true rfl, Nat.le_of_ble_eq_true rfl⟩) xw_0 rfl rfl hl.1 rfl (Nat.le_of_ble_eq_true rfl) dL_law_747 ⟨Nat.le_of_ble_eq_true rfl, Nat.le_of_ble_eq_true rfl⟩ (fun H locs hP hD hS => ?_)
    refine lv_aload_n hx hb dL_law_750 rfl (lv_at hl 2 rfl) ?_
    refine lv_aload_n hx hb dL_law_751 rfl (lv_at hl 0 rfl) ?_
    refine lv_iload_n hx hb dL_law_752 rfl (lv_at hl 3 rfl) ?_
    refine lv_iconst (v := 1) hx hb dL_law_753 (by decide) ?_
    refine lv_iadd hx hb dL_law_754 ?_
    refine va_sld hx hb hX hbl hbA hS (sc_in hi hL 1 (by decide) rfl) dL_law_755 ?_
    refine lv_aload_n hx hb dL_law_756 rfl (lv_at hl 0 rfl) ?_
    refine lv_iload_n hx hb dL_law_757 rfl (lv_at hl 3 rfl) ?_
    refine lv_iconst (v := 2) hx hb dL_law_758 (by decide) ?_
    refine lv_iadd hx hb dL_law_759 ?_
    refine va_sld hx hb hX hbl hbA hS (sc_in hi hL 2 (by decide) rfl) dL_law_760 ?_
    refine lv_aload_n hx hb dL_law_761 rfl (lv_at hl 0 rfl) ?_
    refine lv_iload_n hx hb dL_law_762 rfl (lv_at hl 3 rfl) ?_
    refine lv_iconst (v := 3) hx hb dL_law_763 (by decide) ?_
    refine lv_iadd hx hb dL_law_764 ?_
    refine va_sld hx hb hX hbl hbA hS (sc_in hi hL 3 (by decide) rfl) dL_law_765 ?_
    refine lv_if_eq (tgt := 773) hx hb dL_law_766 (by decide) (fun q => ?_) (fun q => absurd q0 q)
    refine lv_iconst (v := 0) hx hb dL_law_773 (by decide) ?_
    refine x_callViR (rest := [.int r]) C hP hD hS (c_X8_next g2) (cwV 3 hts (gV mw31_8 mw31_9 mw31_10 mw1_5 mw31_11) rfl rfl rfl hdV_X8_next ⟨Nat.le_of_ble_eq_true rfl, Nat.le_of_ble_eq_true rfl⟩) mw_0 rfl rfl hl.1 rfl (Nat.le_of_ble_eq_true rfl) dL_law_774 ⟨Nat.le_of_ble_eq_true rfl, Nat.le_of_ble_eq_true rfl⟩ (fun H locs hP hD hS => ?_)
    refine lv_icmp_eq (tgt := 1040) hx hb dL_law_777 (by decide) (fun q => ?_) (fun q => absurd rfl q)
    exact kk _ _ _ _ H locs ls hR hP hD hS hl
  · refine lv_iconst (v := 1) hx hb dL_law_742 (by decide) ?_
    refine lv_goto (tgt := 747) hx hb dL_law_743 (by decide) ?_
    obtain ⟨r, g1, g2⟩ := st_next hR (xs (nI i + (1 : Int32)).toNatClampNeg) (xs (nI i + (2 : Int32)).toNatClampNeg) (1 : Int32)
    refine x_callViL (rest := []) C hP hD hS (c_X7_next_0 g1) (cwV 3 hts (gV mw31_3 mw31_4 mw31_5 mw1_2 mw31_6) rfl rfl rfl hdV_X7_next ⟨Nat.le_of_ble_eq_true rfl, Nat.le_of_ble_eq_true rfl⟩) xw_0 rfl rfl hl.1 rfl (Nat.le_of_ble_eq_true rfl) dL_law_747 ⟨Nat.le_of_ble_eq_true rfl, Nat.le_of_ble_eq_true rfl⟩ (fun H locs hP hD hS => ?_)
    refine lv_aload_n hx hb dL_law_750 rfl (lv_at hl 2 rfl) ?_
    refine lv_aload_n hx hb dL_law_751 rfl (lv_at hl 0 rfl) ?_
    refine lv_iload_n hx hb dL_law_752 rfl (lv_at hl 3 rfl) ?_
    refine lv_iconst (v := 1) hx hb dL_law_753 (by decide) ?_
    refine lv_iadd hx hb dL_law_754 ?_
    refine va_sld hx hb hX hbl hbA hS (sc_in hi hL 1 (by decide) rfl) dL_law_755 ?_
    refine lv_aload_n hx hb dL_law_756 rfl (lv_at hl 0 rfl) ?_
    refine lv_iload_n hx hb dL_law_757 rfl (lv_at hl 3 rfl) ?_
    refine lv_iconst (v := 2) hx hb dL_law_758 (by decide) ?_
    refine lv_iadd hx hb dL_law_759 ?_
    refine va_sld hx hb hX hbl hbA hS (sc_in hi hL 2 (by decide) rfl) dL_law_760 ?_
    refine lv_aload_n hx hb dL_law_761 rfl (lv_at hl 0 rfl) ?_
    refine lv_iload_n hx hb dL_law_762 rfl (lv_at hl 3 rfl) ?_
    refine lv_iconst (v := 3) hx hb dL_law_763 (by decide) ?_
    refine lv_iadd hx hb dL_law_764 ?_
    refine va_sld hx hb hX hbl hbA hS (sc_in hi hL 3 (by decide) rfl) dL_law_765 ?_
    refine lv_if_eq (tgt := 773) hx hb dL_law_766 (by decide) (fun q => absurd q q0) (fun q => ?_)
    refine lv_iconst (v := 1) hx hb dL_law_769 (by decide) ?_
    refine lv_goto (tgt := 774) hx hb dL_law_770 (by decide) ?_
    refine x_callViR (rest := [.int r]) C hP hD hS (c_X8_next g2) (cwV 3 hts (gV mw31_8 mw31_9 mw31_10 mw1_5 mw31_11) rfl rfl rfl hdV_X8_next ⟨Nat.le_of_ble_eq_true rfl, Nat.le_of_ble_eq_true rfl⟩) mw_0 rfl rfl hl.1 rfl (Nat.le_of_ble_eq_true rfl) dL_law_774 ⟨Nat.le_of_ble_eq_true rfl, Nat.le_of_ble_eq_true rfl⟩ (fun H locs hP hD hS => ?_)
    refine lv_icmp_eq (tgt := 1040) hx hb dL_law_777 (by decide) (fun q => ?_) (fun q => absurd rfl q)
    exact kk _ _ _ _ H locs ls hR hP hD hS hl
set_option maxHeartbeats 4000000 in
set_option maxRecDepth 100000 in
theorem lw_case_24 (C : Cx p s m #[Value.ref b] meth c D cy tT tF (fun q : Nat => s.heap.size ≤ q) cL_law 4 RL) (hX : va_X b L xs s s.heap) (hbl : b < s.heap.size) (hi : i + 5 ≤ L) (hL : L ≤ 320) (kk : LK p l e s m below meth c D cy b i Q) {σ τ : ES} (hR : Rel σ τ) {ad ad2 : Nat → Nat} {H : Heap} {locs : List Loc} {ls : Array Slot} (hP : va_P D vwCl (xw cy ad σ ++ mw cy ad2 τ) H) (hD : va_D (fun q : Nat => s.heap.size ≤ q) (xw cy ad σ ++ mw cy ad2 τ)) (hS : va_S (fun q : Nat => s.heap.size ≤ q) s.heap H locs) (hl : lv_has ls 4 [(0, .ref b), (1, .ref (ad 0)), (2, .ref (ad2 0)), (3, .int (nI i))]) : W p l e room_1 s m #[Value.ref b] below meth c H locs 600000 7302250 Q (F0 m 782 ls []) := by
  obtain ⟨⟨hx, hb, hml, hown, hts⟩, hK, hT, hA, hlk⟩ := id C
  have hbA : ¬ (fun q : Nat => s.heap.size ≤ q) b := Nat.not_le.mpr hbl
  refine lv_aload_n hx hb dL_law_782 rfl (lv_at hl 1 rfl) ?_
  refine lv_aload_n hx hb dL_law_783 rfl (lv_at hl 0 rfl) ?_
  refine lv_iload_n hx hb dL_law_784 rfl (lv_at hl 3 rfl) ?_
  refine lv_iconst (v := 1) hx hb dL_law_785 (by decide) ?_
  refine lv_iadd hx hb dL_law_786 ?_
  refine va_sld hx hb hX hbl hbA hS (sc_in hi hL 1 (by decide) rfl) dL_law_787 ?_
  refine lv_aload_n hx hb dL_law_788 rfl (lv_at hl 0 rfl) ?_
  refine lv_iload_n hx hb dL_law_789 rfl (lv_at hl 3 rfl) ?_
  refine lv_iconst (v := 2) hx hb dL_law_790 (by decide) ?_
  refine lv_iadd hx hb dL_law_791 ?_
  refine va_sld hx hb hX hbl hbA hS (sc_in hi hL 2 (by decide) rfl) dL_law_792 ?_
  refine lv_aload_n hx hb dL_law_793 rfl (lv_at hl 0 rfl) ?_
  refine lv_iload_n hx hb dL_law_794 rfl (lv_at hl 3 rfl) ?_
  refine lv_iconst (v := 3) hx hb dL_law_795 (by decide) ?_
  refine lv_iadd hx hb dL_law_796 ?_
  refine va_sld hx hb hX hbl hbA hS (sc_in hi hL 3 (by decide) rfl) dL_law_797 ?_
  obtain ⟨r, σ1, τ1, g1, g2, hR1⟩ := st_cut hR (xs (nI i + (1 : Int32)).toNatClampNeg) (xs (nI i + (2 : Int32)).toNatClampNeg) (xs (nI i + (3 : Int32)).toNatClampNeg)
  refine x_callViL (rest := []) C hP hD hS (c_X7_cut_0 g1) (cwV 3 hts (gV mw31_12 mw31_13 mw31_14 mw1_2 mw31_15) rfl rfl rfl hdV_X7_cut ⟨Nat.le_of_ble_eq_true rfl, Nat.le_of_ble_eq_true rfl⟩) xw_0 rfl rfl hl.1 rfl (Nat.le_of_ble_eq_true rfl) dL_law_798 ⟨Nat.le_of_ble_eq_true rfl, Nat.le_of_ble_eq_true rfl⟩ (fun H locs hP hD hS => ?_)
  refine lv_aload_n hx hb dL_law_801 rfl (lv_at hl 2 rfl) ?_
  refine lv_aload_n hx hb dL_law_802 rfl (lv_at hl 0 rfl) ?_
  refine lv_iload_n hx hb dL_law_803 rfl (lv_at hl 3 rfl) ?_
  refine lv_iconst (v := 1) hx hb dL_law_804 (by decide) ?_
  refine lv_iadd hx hb dL_law_805 ?_
  refine va_sld hx hb hX hbl hbA hS (sc_in hi hL 1 (by decide) rfl) dL_law_806 ?_
  refine lv_aload_n hx hb dL_law_807 rfl (lv_at hl 0 rfl) ?_
  refine lv_iload_n hx hb dL_law_808 rfl (lv_at hl 3 rfl) ?_
  refine lv_iconst (v := 2) hx hb dL_law_809 (by decide) ?_
  refine lv_iadd hx hb dL_law_810 ?_
  refine va_sld hx hb hX hbl hbA hS (sc_in hi hL 2 (by decide) rfl) dL_law_811 ?_
  refine lv_aload_n hx hb dL_law_812 rfl (lv_at hl 0 rfl) ?_
  refine lv_iload_n hx hb dL_law_813 rfl (lv_at hl 3 rfl) ?_
  refine lv_iconst (v := 3) hx hb dL_law_814 (by decide) ?_
  refine lv_iadd hx hb dL_law_815 ?_
  refine va_sld hx hb hX hbl hbA hS (sc_in hi hL 3 (by decide) rfl) dL_law_816 ?_
  refine x_callViR (rest := [.int r]) C hP hD hS (c_X8_cut g2) (cwV 3 hts (gV mw32_1 mw32_2 mw32_3 mw1_5 mw32_4) rfl rfl rfl hdV_X8_cut ⟨Nat.le_of_ble_eq_true rfl, Nat.le_of_ble_eq_true rfl⟩) mw_0 rfl rfl hl.1 rfl (Nat.le_of_ble_eq_true rfl) dL_law_817 ⟨Nat.le_of_ble_eq_true rfl, Nat.le_of_ble_eq_true rfl⟩ (fun H locs hP hD hS => ?_)
  refine lv_icmp_eq (tgt := 1040) hx hb dL_law_820 (by decide) (fun q => ?_) (fun q => absurd rfl q)
  exact kk _ _ _ _ H locs ls hR1 hP hD hS hl
set_option maxHeartbeats 4000000 in
set_option maxRecDepth 100000 in
theorem lw_case_25 (C : Cx p s m #[Value.ref b] meth c D cy tT tF (fun q : Nat => s.heap.size ≤ q) cL_law 4 RL) (hX : va_X b L xs s s.heap) (hbl : b < s.heap.size) (hi : i + 5 ≤ L) (hL : L ≤ 320) (kk : LK p l e s m below meth c D cy b i Q) {σ τ : ES} (hR : Rel σ τ) {ad ad2 : Nat → Nat} {H : Heap} {locs : List Loc} {ls : Array Slot} (hP : va_P D vwCl (xw cy ad σ ++ mw cy ad2 τ) H) (hD : va_D (fun q : Nat => s.heap.size ≤ q) (xw cy ad σ ++ mw cy ad2 τ)) (hS : va_S (fun q : Nat => s.heap.size ≤ q) s.heap H locs) (hl : lv_has ls 4 [(0, .ref b), (1, .ref (ad 0)), (2, .ref (ad2 0)), (3, .int (nI i))]) : W p l e room_1 s m #[Value.ref b] below meth c H locs 600000 7302250 Q (F0 m 825 ls []) := by
  obtain ⟨⟨hx, hb, hml, hown, hts⟩, hK, hT, hA, hlk⟩ := id C
  have hbA : ¬ (fun q : Nat => s.heap.size ≤ q) b := Nat.not_le.mpr hbl
  refine lv_aload_n hx hb dL_law_825 rfl (lv_at hl 1 rfl) ?_
  refine lv_aload_n hx hb dL_law_826 rfl (lv_at hl 0 rfl) ?_
  refine lv_iload_n hx hb dL_law_827 rfl (lv_at hl 3 rfl) ?_
  refine lv_iconst (v := 1) hx hb dL_law_828 (by decide) ?_
  refine lv_iadd hx hb dL_law_829 ?_
  refine va_sld hx hb hX hbl hbA hS (sc_in hi hL 1 (by decide) rfl) dL_law_830 ?_
  refine lv_aload_n hx hb dL_law_831 rfl (lv_at hl 0 rfl) ?_
  refine lv_iload_n hx hb dL_law_832 rfl (lv_at hl 3 rfl) ?_
  refine lv_iconst (v := 2) hx hb dL_law_833 (by decide) ?_
  refine lv_iadd hx hb dL_law_834 ?_
  refine va_sld hx hb hX hbl hbA hS (sc_in hi hL 2 (by decide) rfl) dL_law_835 ?_
  refine lv_aload_n hx hb dL_law_836 rfl (lv_at hl 0 rfl) ?_
  refine lv_iload_n hx hb dL_law_837 rfl (lv_at hl 3 rfl) ?_
  refine lv_iconst (v := 3) hx hb dL_law_838 (by decide) ?_
  refine lv_iadd hx hb dL_law_839 ?_
  refine va_sld hx hb hX hbl hbA hS (sc_in hi hL 3 (by decide) rfl) dL_law_840 ?_
  refine lv_aload_n hx hb dL_law_841 rfl (lv_at hl 0 rfl) ?_
  refine lv_iload_n hx hb dL_law_842 rfl (lv_at hl 3 rfl) ?_
  refine lv_iconst (v := 4) hx hb dL_law_843 (by decide) ?_
  refine lv_iadd hx hb dL_law_844 ?_
  refine va_sld hx hb hX hbl hbA hS (sc_in hi hL 4 (by decide) rfl) dL_law_845 ?_
  refine lv_if_eq (tgt := 853) hx hb dL_law_846 (by decide) (fun q0 => ?_) (fun q0 => ?_)
  · refine lv_iconst (v := 0) hx hb dL_law_853 (by decide) ?_
    obtain ⟨r, g1, g2⟩ := st_draught hR (xs (nI i + (1 : Int32)).toNatClampNeg) (xs (nI i + (2 : Int32)).toNatClampNeg) (xs (nI i + (3 : Int32)).toNatClampNeg) (0 : Int32)
    refine x_callViL (rest := []) C hP hD hS (c_X7_draught_0 g1) (cwV 4 hts (gV mw32_9 mw32_10 mw32_11 mw1_2 mw32_12) rfl rfl rfl hdV_X7_draught ⟨Nat.le_of_ble_eq_true rfl, Nat.le_of_ble_eq_true rfl⟩) xw_0 rfl rfl hl.1 rfl (Nat.le_of_ble_eq_true rfl) dL_law_854 ⟨Nat.le_of_ble_eq_true rfl, Nat.le_of_ble_eq_true rfl⟩ (fun H locs hP hD hS => ?_)
    refine lv_aload_n hx hb dL_law_857 rfl (lv_at hl 2 rfl) ?_
    refine lv_aload_n hx hb dL_law_858 rfl (lv_at hl 0 rfl) ?_
    refine lv_iload_n hx hb dL_law_859 rfl (lv_at hl 3 rfl) ?_
    refine lv_iconst (v := 1) hx hb dL_law_860 (by decide) ?_
    refine lv_iadd hx hb dL_law_861 ?_
    refine va_sld hx hb hX hbl hbA hS (sc_in hi hL 1 (by decide) rfl) dL_law_862 ?_
    refine lv_aload_n hx hb dL_law_863 rfl (lv_at hl 0 rfl) ?_
    refine lv_iload_n hx hb dL_law_864 rfl (lv_at hl 3 rfl) ?_
    refine lv_iconst (v := 2) hx hb dL_law_865 (by decide) ?_
    refine lv_iadd hx hb dL_law_866 ?_
    refine va_sld hx hb hX hbl hbA hS (sc_in hi hL 2 (by decide) rfl) dL_law_867 ?_
    refine lv_aload_n hx hb dL_law_868 rfl (lv_at hl 0 rfl) ?_
    refine lv_iload_n hx hb dL_law_869 rfl (lv_at hl 3 rfl) ?_
    refine lv_iconst (v := 3) hx hb dL_law_870 (by decide) ?_
    refine lv_iadd hx hb dL_law_871 ?_
    refine va_sld hx hb hX hbl hbA hS (sc_in hi hL 3 (by decide) rfl) dL_law_872 ?_
    refine lv_aload_n hx hb dL_law_873 rfl (lv_at hl 0 rfl) ?_
    refine lv_iload_n hx hb dL_law_874 rfl (lv_at hl 3 rfl) ?_
    refine lv_iconst (v := 4) hx hb dL_law_875 (by decide) ?_
    refine lv_iadd hx hb dL_law_876 ?_
    refine va_sld hx hb hX hbl hbA hS (sc_in hi hL 4 (by decide) rfl) dL_law_877 ?_
    refine lv_if_eq (tgt := 885) hx hb dL_law_878 (by decide) (fun q => ?_) (fun q => absurd q0 q)
    refine lv_iconst (v := 0) hx hb dL_law_885 (by decide) ?_
    refine x_callViR (rest := [.int r]) C hP hD hS (c_X8_draught g2) (cwV 4 hts (gV mw32_13 mw32_14 mw32_15 mw1_5 mw32_16) rfl rfl rfl hdV_X8_draught ⟨Nat.le_of_ble_eq_true rfl, Nat.le_of_ble_eq_true rfl⟩) mw_0 rfl rfl hl.1 rfl (Nat.le_of_ble_eq_true rfl) dL_law_886 ⟨Nat.le_of_ble_eq_true rfl, Nat.le_of_ble_eq_true rfl⟩ (fun H locs hP hD hS => ?_)
    refine lv_icmp_eq (tgt := 1040) hx hb dL_law_889 (by decide) (fun q => ?_) (fun q => absurd rfl q)
    exact kk _ _ _ _ H locs ls hR hP hD hS hl
  · refine lv_iconst (v := 1) hx hb dL_law_849 (by decide) ?_
    refine lv_goto (tgt := 854) hx hb dL_law_850 (by decide) ?_
    obtain ⟨r, g1, g2⟩ := st_draught hR (xs (nI i + (1 : Int32)).toNatClampNeg) (xs (nI i + (2 : Int32)).toNatClampNeg) (xs (nI i + (3 : Int32)).toNatClampNeg) (1 : Int32)
    refine x_callViL (rest := []) C hP hD hS (c_X7_draught_0 g1) (cwV 4 hts (gV mw32_9 mw32_10 mw32_11 mw1_2 mw32_12) rfl rfl rfl hdV_X7_draught ⟨Nat.le_of_ble_eq_true rfl, Nat.le_of_ble_eq_true rfl⟩) xw_0 rfl rfl hl.1 rfl (Nat.le_of_ble_eq_true rfl) dL_law_854 ⟨Nat.le_of_ble_eq_true rfl, Nat.le_of_ble_eq_true rfl⟩ (fun H locs hP hD hS => ?_)
    refine lv_aload_n hx hb dL_law_857 rfl (lv_at hl 2 rfl) ?_
    refine lv_aload_n hx hb dL_law_858 rfl (lv_at hl 0 rfl) ?_
    refine lv_iload_n hx hb dL_law_859 rfl (lv_at hl 3 rfl) ?_
    refine lv_iconst (v := 1) hx hb dL_law_860 (by decide) ?_
    refine lv_iadd hx hb dL_law_861 ?_
    refine va_sld hx hb hX hbl hbA hS (sc_in hi hL 1 (by decide) rfl) dL_law_862 ?_
    refine lv_aload_n hx hb dL_law_863 rfl (lv_at hl 0 rfl) ?_
    refine lv_iload_n hx hb dL_law_864 rfl (lv_at hl 3 rfl) ?_
    refine lv_iconst (v := 2) hx hb dL_law_865 (by decide) ?_
    refine lv_iadd hx hb dL_law_866 ?_
    refine va_sld hx hb hX hbl hbA hS (sc_in hi hL 2 (by decide) rfl) dL_law_867 ?_
    refine lv_aload_n hx hb dL_law_868 rfl (lv_at hl 0 rfl) ?_
    refine lv_iload_n hx hb dL_law_869 rfl (lv_at hl 3 rfl) ?_
    refine lv_iconst (v := 3) hx hb dL_law_870 (by decide) ?_
    refine lv_iadd hx hb dL_law_871 ?_
    refine va_sld hx hb hX hbl hbA hS (sc_in hi hL 3 (by decide) rfl) dL_law_872 ?_
    refine lv_aload_n hx hb dL_law_873 rfl (lv_at hl 0 rfl) ?_
    refine lv_iload_n hx hb dL_law_874 rfl (lv_at hl 3 rfl) ?_
    refine lv_iconst (v := 4) hx hb dL_law_875 (by decide) ?_
    refine lv_iadd hx hb dL_law_876 ?_
    refine va_sld hx hb hX hbl hbA hS (sc_in hi hL 4 (by decide) rfl) dL_law_877 ?_
    refine lv_if_eq (tgt := 885) hx hb dL_law_878 (by decide) (fun q => absurd q q0) (fun q => ?_)
    refine lv_iconst (v := 1) hx hb dL_law_881 (by decide) ?_
    refine lv_goto (tgt := 886) hx hb dL_law_882 (by decide) ?_
    refine x_callViR (rest := [.int r]) C hP hD hS (c_X8_draught g2) (cwV 4 hts (gV mw32_13 mw32_14 mw32_15 mw1_5 mw32_16) rfl rfl rfl hdV_X8_draught ⟨Nat.le_of_ble_eq_true rfl, Nat.le_of_ble_eq_true rfl⟩) mw_0 rfl rfl hl.1 rfl (Nat.le_of_ble_eq_true rfl) dL_law_886 ⟨Nat.le_of_ble_eq_true rfl, Nat.le_of_ble_eq_true rfl⟩ (fun H locs hP hD hS => ?_)
    refine lv_icmp_eq (tgt := 1040) hx hb dL_law_889 (by decide) (fun q => ?_) (fun q => absurd rfl q)
    exact kk _ _ _ _ H locs ls hR hP hD hS hl
set_option maxHeartbeats 4000000 in
set_option maxRecDepth 100000 in
theorem lw_case_26 (C : Cx p s m #[Value.ref b] meth c D cy tT tF (fun q : Nat => s.heap.size ≤ q) cL_law 4 RL) (hX : va_X b L xs s s.heap) (hbl : b < s.heap.size) (hi : i + 5 ≤ L) (hL : L ≤ 320) (kk : LK p l e s m below meth c D cy b i Q) {σ τ : ES} (hR : Rel σ τ) {ad ad2 : Nat → Nat} {H : Heap} {locs : List Loc} {ls : Array Slot} (hP : va_P D vwCl (xw cy ad σ ++ mw cy ad2 τ) H) (hD : va_D (fun q : Nat => s.heap.size ≤ q) (xw cy ad σ ++ mw cy ad2 τ)) (hS : va_S (fun q : Nat => s.heap.size ≤ q) s.heap H locs) (hl : lv_has ls 4 [(0, .ref b), (1, .ref (ad 0)), (2, .ref (ad2 0)), (3, .int (nI i))]) : W p l e room_1 s m #[Value.ref b] below meth c H locs 600000 7302250 Q (F0 m 894 ls []) := by
  obtain ⟨⟨hx, hb, hml, hown, hts⟩, hK, hT, hA, hlk⟩ := id C
  have hbA : ¬ (fun q : Nat => s.heap.size ≤ q) b := Nat.not_le.mpr hbl
  refine lv_aload_n hx hb dL_law_894 rfl (lv_at hl 1 rfl) ?_
  refine lv_aload_n hx hb dL_law_895 rfl (lv_at hl 0 rfl) ?_
  refine lv_iload_n hx hb dL_law_896 rfl (lv_at hl 3 rfl) ?_
  refine lv_iconst (v := 1) hx hb dL_law_897 (by decide) ?_
  refine lv_iadd hx hb dL_law_898 ?_
  refine va_sld hx hb hX hbl hbA hS (sc_in hi hL 1 (by decide) rfl) dL_law_899 ?_
  refine lv_i2l hx hb dL_law_900 rfl ?_
  refine lv_bipush (v := 32) hx hb dL_law_901 (by decide) ?_
  refine lv_lshl hx hb dL_law_903 rfl ?_
  refine lv_aload_n hx hb dL_law_904 rfl (lv_at hl 0 rfl) ?_
  refine lv_iload_n hx hb dL_law_905 rfl (lv_at hl 3 rfl) ?_
  refine lv_iconst (v := 2) hx hb dL_law_906 (by decide) ?_
  refine lv_iadd hx hb dL_law_907 ?_
  refine va_sld hx hb hX hbl hbA hS (sc_in hi hL 2 (by decide) rfl) dL_law_908 ?_
  refine lv_i2l hx hb dL_law_909 rfl ?_
  refine lv_ldc2 (v := 4294967295) hx hb hown (hts _ mw1_6) dL_law_910 ?_
  refine lv_land hx hb dL_law_913 ?_
  refine lv_lor hx hb dL_law_914 ?_
  obtain ⟨r, σ1, τ1, g1, g2, hR1⟩ := st_seed hR ((((xs (nI i + (1 : Int32)).toNatClampNeg).toInt64) <<< (((32 : Int32)).toInt64 &&& 63)) ||| (((xs (nI i + (2 : Int32)).toNatClampNeg).toInt64) &&& ((4294967295 : Int64))))
  refine x_callVlL (rest := []) C hP hD hS (c_X7_seed_0 g1) (cwV 1 hts (gV mw32_18 mw32_19 mw32_20 mw1_2 mw32_21) rfl rfl rfl hdV_X7_seed ⟨Nat.le_of_ble_eq_true rfl, Nat.le_of_ble_eq_true rfl⟩) xw_0 rfl rfl hl.1 rfl (Nat.le_of_ble_eq_true rfl) dL_law_915 ⟨Nat.le_of_ble_eq_true rfl, Nat.le_of_ble_eq_true rfl⟩ (fun H locs hP hD hS => ?_)
  refine lv_aload_n hx hb dL_law_918 rfl (lv_at hl 2 rfl) ?_
  refine lv_aload_n hx hb dL_law_919 rfl (lv_at hl 0 rfl) ?_
  refine lv_iload_n hx hb dL_law_920 rfl (lv_at hl 3 rfl) ?_
  refine lv_iconst (v := 1) hx hb dL_law_921 (by decide) ?_
  refine lv_iadd hx hb dL_law_922 ?_
  refine va_sld hx hb hX hbl hbA hS (sc_in hi hL 1 (by decide) rfl) dL_law_923 ?_
  refine lv_i2l hx hb dL_law_924 rfl ?_
  refine lv_bipush (v := 32) hx hb dL_law_925 (by decide) ?_
  refine lv_lshl hx hb dL_law_927 rfl ?_
  refine lv_aload_n hx hb dL_law_928 rfl (lv_at hl 0 rfl) ?_
  refine lv_iload_n hx hb dL_law_929 rfl (lv_at hl 3 rfl) ?_
  refine lv_iconst (v := 2) hx hb dL_law_930 (by decide) ?_
  refine lv_iadd hx hb dL_law_931 ?_
  refine va_sld hx hb hX hbl hbA hS (sc_in hi hL 2 (by decide) rfl) dL_law_932 ?_
  refine lv_i2l hx hb dL_law_933 rfl ?_
  refine lv_ldc2 (v := 4294967295) hx hb hown (hts _ mw1_6) dL_law_934 ?_
  refine lv_land hx hb dL_law_937 ?_
  refine lv_lor hx hb dL_law_938 ?_
  refine x_callVlR (rest := [.long r]) C hP hD hS (c_X8_seed g2) (cwV 1 hts (gV mw32_22 mw32_23 mw33_0 mw1_5 mw33_1) rfl rfl rfl hdV_X8_seed ⟨Nat.le_of_ble_eq_true rfl, Nat.le_of_ble_eq_true rfl⟩) mw_0 rfl rfl hl.1 rfl (Nat.le_of_ble_eq_true rfl) dL_law_939 ⟨Nat.le_of_ble_eq_true rfl, Nat.le_of_ble_eq_true rfl⟩ (fun H locs hP hD hS => ?_)
  refine W.lcmp hx hb dL_law_942 ?_
  refine lv_if_eq (tgt := 1040) hx hb dL_law_943 (by decide) (fun q => ?_) (fun q => absurd (lg_self _) q)
  exact kk _ _ _ _ H locs ls hR1 hP hD hS hl
set_option maxHeartbeats 4000000 in
set_option maxRecDepth 100000 in
theorem lw_case_27 (C : Cx p s m #[Value.ref b] meth c D cy tT tF (fun q : Nat => s.heap.size ≤ q) cL_law 4 RL) (hX : va_X b L xs s s.heap) (hbl : b < s.heap.size) (hi : i + 5 ≤ L) (hL : L ≤ 320) (kk : LK p l e s m below meth c D cy b i Q) {σ τ : ES} (hR : Rel σ τ) {ad ad2 : Nat → Nat} {H : Heap} {locs : List Loc} {ls : Array Slot} (hP : va_P D vwCl (xw cy ad σ ++ mw cy ad2 τ) H) (hD : va_D (fun q : Nat => s.heap.size ≤ q) (xw cy ad σ ++ mw cy ad2 τ)) (hS : va_S (fun q : Nat => s.heap.size ≤ q) s.heap H locs) (hl : lv_has ls 4 [(0, .ref b), (1, .ref (ad 0)), (2, .ref (ad2 0)), (3, .int (nI i))]) : W p l e room_1 s m #[Value.ref b] below meth c H locs 600000 7302250 Q (F0 m 948 ls []) := by
  obtain ⟨⟨hx, hb, hml, hown, hts⟩, hK, hT, hA, hlk⟩ := id C
  have hbA : ¬ (fun q : Nat => s.heap.size ≤ q) b := Nat.not_le.mpr hbl
  refine lv_aload_n hx hb dL_law_948 rfl (lv_at hl 1 rfl) ?_
  refine lv_aload_n hx hb dL_law_949 rfl (lv_at hl 0 rfl) ?_
  refine lv_iload_n hx hb dL_law_950 rfl (lv_at hl 3 rfl) ?_
  refine lv_iconst (v := 1) hx hb dL_law_951 (by decide) ?_
  refine lv_iadd hx hb dL_law_952 ?_
  refine va_sld hx hb hX hbl hbA hS (sc_in hi hL 1 (by decide) rfl) dL_law_953 ?_
  obtain ⟨r, σ1, τ1, g1, g2, hR1⟩ := st_night hR (xs (nI i + (1 : Int32)).toNatClampNeg)
  refine x_callViL (rest := []) C hP hD hS (c_X7_night_0 g1) (cwV 1 hts (gV mw33_3 mw33_4 mw33_5 mw1_2 mw33_6) rfl rfl rfl hdV_X7_night ⟨Nat.le_of_ble_eq_true rfl, Nat.le_of_ble_eq_true rfl⟩) xw_0 rfl rfl hl.1 rfl (Nat.le_of_ble_eq_true rfl) dL_law_954 ⟨Nat.le_of_ble_eq_true rfl, Nat.le_of_ble_eq_true rfl⟩ (fun H locs hP hD hS => ?_)
  refine lv_aload_n hx hb dL_law_957 rfl (lv_at hl 2 rfl) ?_
  refine lv_aload_n hx hb dL_law_958 rfl (lv_at hl 0 rfl) ?_
  refine lv_iload_n hx hb dL_law_959 rfl (lv_at hl 3 rfl) ?_
  refine lv_iconst (v := 1) hx hb dL_law_960 (by decide) ?_
  refine lv_iadd hx hb dL_law_961 ?_
  refine va_sld hx hb hX hbl hbA hS (sc_in hi hL 1 (by decide) rfl) dL_law_962 ?_
  refine x_callViR (rest := [.int r]) C hP hD hS (c_X8_night g2) (cwV 1 hts (gV mw33_10 mw33_11 mw33_12 mw1_5 mw33_13) rfl rfl rfl hdV_X8_night ⟨Nat.le_of_ble_eq_true rfl, Nat.le_of_ble_eq_true rfl⟩) mw_0 rfl rfl hl.1 rfl (Nat.le_of_ble_eq_true rfl) dL_law_963 ⟨Nat.le_of_ble_eq_true rfl, Nat.le_of_ble_eq_true rfl⟩ (fun H locs hP hD hS => ?_)
  refine lv_icmp_eq (tgt := 1040) hx hb dL_law_966 (by decide) (fun q => ?_) (fun q => absurd rfl q)
  exact kk _ _ _ _ H locs ls hR1 hP hD hS hl
set_option maxHeartbeats 4000000 in
set_option maxRecDepth 100000 in
theorem lw_case_28 (C : Cx p s m #[Value.ref b] meth c D cy tT tF (fun q : Nat => s.heap.size ≤ q) cL_law 4 RL) (hX : va_X b L xs s s.heap) (hbl : b < s.heap.size) (hi : i + 5 ≤ L) (hL : L ≤ 320) (kk : LK p l e s m below meth c D cy b i Q) {σ τ : ES} (hR : Rel σ τ) {ad ad2 : Nat → Nat} {H : Heap} {locs : List Loc} {ls : Array Slot} (hP : va_P D vwCl (xw cy ad σ ++ mw cy ad2 τ) H) (hD : va_D (fun q : Nat => s.heap.size ≤ q) (xw cy ad σ ++ mw cy ad2 τ)) (hS : va_S (fun q : Nat => s.heap.size ≤ q) s.heap H locs) (hl : lv_has ls 4 [(0, .ref b), (1, .ref (ad 0)), (2, .ref (ad2 0)), (3, .int (nI i))]) : W p l e room_1 s m #[Value.ref b] below meth c H locs 600000 7302250 Q (F0 m 971 ls []) := by
  obtain ⟨⟨hx, hb, hml, hown, hts⟩, hK, hT, hA, hlk⟩ := id C
  have hbA : ¬ (fun q : Nat => s.heap.size ≤ q) b := Nat.not_le.mpr hbl
  refine lv_aload_n hx hb dL_law_971 rfl (lv_at hl 1 rfl) ?_
  refine lv_aload_n hx hb dL_law_972 rfl (lv_at hl 0 rfl) ?_
  refine lv_iload_n hx hb dL_law_973 rfl (lv_at hl 3 rfl) ?_
  refine lv_iconst (v := 1) hx hb dL_law_974 (by decide) ?_
  refine lv_iadd hx hb dL_law_975 ?_
  refine va_sld hx hb hX hbl hbA hS (sc_in hi hL 1 (by decide) rfl) dL_law_976 ?_
  obtain ⟨r, σ1, τ1, g1, g2, hR1⟩ := st_keep hR (xs (nI i + (1 : Int32)).toNatClampNeg)
  refine x_callViL (rest := []) C hP hD hS (c_X7_keep_0 g1) (cwV 1 hts (gV mw33_17 mw33_18 mw33_19 mw1_2 mw33_20) rfl rfl rfl hdV_X7_keep ⟨Nat.le_of_ble_eq_true rfl, Nat.le_of_ble_eq_true rfl⟩) xw_0 rfl rfl hl.1 rfl (Nat.le_of_ble_eq_true rfl) dL_law_977 ⟨Nat.le_of_ble_eq_true rfl, Nat.le_of_ble_eq_true rfl⟩ (fun H locs hP hD hS => ?_)
  refine lv_aload_n hx hb dL_law_980 rfl (lv_at hl 2 rfl) ?_
  refine lv_aload_n hx hb dL_law_981 rfl (lv_at hl 0 rfl) ?_
  refine lv_iload_n hx hb dL_law_982 rfl (lv_at hl 3 rfl) ?_
  refine lv_iconst (v := 1) hx hb dL_law_983 (by decide) ?_
  refine lv_iadd hx hb dL_law_984 ?_
  refine va_sld hx hb hX hbl hbA hS (sc_in hi hL 1 (by decide) rfl) dL_law_985 ?_
  refine x_callViR (rest := [.int r]) C hP hD hS (c_X8_keep g2) (cwV 1 hts (gV mw33_22 mw33_23 mw34_0 mw1_5 mw34_1) rfl rfl rfl hdV_X8_keep ⟨Nat.le_of_ble_eq_true rfl, Nat.le_of_ble_eq_true rfl⟩) mw_0 rfl rfl hl.1 rfl (Nat.le_of_ble_eq_true rfl) dL_law_986 ⟨Nat.le_of_ble_eq_true rfl, Nat.le_of_ble_eq_true rfl⟩ (fun H locs hP hD hS => ?_)
  refine lv_icmp_eq (tgt := 1040) hx hb dL_law_989 (by decide) (fun q => ?_) (fun q => absurd rfl q)
  exact kk _ _ _ _ H locs ls hR1 hP hD hS hl
set_option maxHeartbeats 4000000 in
set_option maxRecDepth 100000 in
theorem lw_case_29 (C : Cx p s m #[Value.ref b] meth c D cy tT tF (fun q : Nat => s.heap.size ≤ q) cL_law 4 RL) (hX : va_X b L xs s s.heap) (hbl : b < s.heap.size) (hi : i + 5 ≤ L) (hL : L ≤ 320) (kk : LK p l e s m below meth c D cy b i Q) {σ τ : ES} (hR : Rel σ τ) {ad ad2 : Nat → Nat} {H : Heap} {locs : List Loc} {ls : Array Slot} (hP : va_P D vwCl (xw cy ad σ ++ mw cy ad2 τ) H) (hD : va_D (fun q : Nat => s.heap.size ≤ q) (xw cy ad σ ++ mw cy ad2 τ)) (hS : va_S (fun q : Nat => s.heap.size ≤ q) s.heap H locs) (hl : lv_has ls 4 [(0, .ref b), (1, .ref (ad 0)), (2, .ref (ad2 0)), (3, .int (nI i))]) : W p l e room_1 s m #[Value.ref b] below meth c H locs 600000 7302250 Q (F0 m 994 ls []) := by
  obtain ⟨⟨hx, hb, hml, hown, hts⟩, hK, hT, hA, hlk⟩ := id C
  have hbA : ¬ (fun q : Nat => s.heap.size ≤ q) b := Nat.not_le.mpr hbl
  refine lv_aload_n hx hb dL_law_994 rfl (lv_at hl 1 rfl) ?_
  refine lv_aload_n hx hb dL_law_995 rfl (lv_at hl 0 rfl) ?_
  refine lv_iload_n hx hb dL_law_996 rfl (lv_at hl 3 rfl) ?_
  refine lv_iconst (v := 1) hx hb dL_law_997 (by decide) ?_
  refine lv_iadd hx hb dL_law_998 ?_
  refine va_sld hx hb hX hbl hbA hS (sc_in hi hL 1 (by decide) rfl) dL_law_999 ?_
  obtain ⟨r, σ1, τ1, g1, g2, hR1⟩ := st_again hR (xs (nI i + (1 : Int32)).toNatClampNeg)
  refine x_callViL (rest := []) C hP hD hS (c_X7_again_0 g1) (cwV 1 hts (gV mw34_2 mw34_3 mw34_4 mw1_2 mw34_5) rfl rfl rfl hdV_X7_again ⟨Nat.le_of_ble_eq_true rfl, Nat.le_of_ble_eq_true rfl⟩) xw_0 rfl rfl hl.1 rfl (Nat.le_of_ble_eq_true rfl) dL_law_1000 ⟨Nat.le_of_ble_eq_true rfl, Nat.le_of_ble_eq_true rfl⟩ (fun H locs hP hD hS => ?_)
  refine lv_aload_n hx hb dL_law_1003 rfl (lv_at hl 2 rfl) ?_
  refine lv_aload_n hx hb dL_law_1004 rfl (lv_at hl 0 rfl) ?_
  refine lv_iload_n hx hb dL_law_1005 rfl (lv_at hl 3 rfl) ?_
  refine lv_iconst (v := 1) hx hb dL_law_1006 (by decide) ?_
  refine lv_iadd hx hb dL_law_1007 ?_
  refine va_sld hx hb hX hbl hbA hS (sc_in hi hL 1 (by decide) rfl) dL_law_1008 ?_
  refine x_callViR (rest := [.int r]) C hP hD hS (c_X8_again g2) (cwV 1 hts (gV mw34_7 mw34_8 mw34_9 mw1_5 mw34_10) rfl rfl rfl hdV_X8_again ⟨Nat.le_of_ble_eq_true rfl, Nat.le_of_ble_eq_true rfl⟩) mw_0 rfl rfl hl.1 rfl (Nat.le_of_ble_eq_true rfl) dL_law_1009 ⟨Nat.le_of_ble_eq_true rfl, Nat.le_of_ble_eq_true rfl⟩ (fun H locs hP hD hS => ?_)
  refine lv_icmp_eq (tgt := 1040) hx hb dL_law_1012 (by decide) (fun q => ?_) (fun q => absurd rfl q)
  exact kk _ _ _ _ H locs ls hR1 hP hD hS hl
set_option maxHeartbeats 4000000 in
set_option maxRecDepth 100000 in
theorem lw_case_30 (C : Cx p s m #[Value.ref b] meth c D cy tT tF (fun q : Nat => s.heap.size ≤ q) cL_law 4 RL) (hX : va_X b L xs s s.heap) (hbl : b < s.heap.size) (hi : i + 5 ≤ L) (hL : L ≤ 320) (kk : LK p l e s m below meth c D cy b i Q) {σ τ : ES} (hR : Rel σ τ) {ad ad2 : Nat → Nat} {H : Heap} {locs : List Loc} {ls : Array Slot} (hP : va_P D vwCl (xw cy ad σ ++ mw cy ad2 τ) H) (hD : va_D (fun q : Nat => s.heap.size ≤ q) (xw cy ad σ ++ mw cy ad2 τ)) (hS : va_S (fun q : Nat => s.heap.size ≤ q) s.heap H locs) (hl : lv_has ls 4 [(0, .ref b), (1, .ref (ad 0)), (2, .ref (ad2 0)), (3, .int (nI i))]) : W p l e room_1 s m #[Value.ref b] below meth c H locs 600000 7302250 Q (F0 m 1017 ls []) := by
  obtain ⟨⟨hx, hb, hml, hown, hts⟩, hK, hT, hA, hlk⟩ := id C
  have hbA : ¬ (fun q : Nat => s.heap.size ≤ q) b := Nat.not_le.mpr hbl
  refine lv_aload_n hx hb dL_law_1017 rfl (lv_at hl 1 rfl) ?_
  refine lv_aload_n hx hb dL_law_1018 rfl (lv_at hl 0 rfl) ?_
  refine lv_iload_n hx hb dL_law_1019 rfl (lv_at hl 3 rfl) ?_
  refine lv_iconst (v := 1) hx hb dL_law_1020 (by decide) ?_
  refine lv_iadd hx hb dL_law_1021 ?_
  refine va_sld hx hb hX hbl hbA hS (sc_in hi hL 1 (by decide) rfl) dL_law_1022 ?_
  obtain ⟨r, g1, g2⟩ := st_count hR (xs (nI i + (1 : Int32)).toNatClampNeg)
  refine x_callViL (rest := []) C hP hD hS (c_X7_count_0 g1) (cwV 1 hts (gV mw34_11 mw34_12 mw34_13 mw1_2 mw34_14) rfl rfl rfl hdV_X7_count ⟨Nat.le_of_ble_eq_true rfl, Nat.le_of_ble_eq_true rfl⟩) xw_0 rfl rfl hl.1 rfl (Nat.le_of_ble_eq_true rfl) dL_law_1023 ⟨Nat.le_of_ble_eq_true rfl, Nat.le_of_ble_eq_true rfl⟩ (fun H locs hP hD hS => ?_)
  refine lv_aload_n hx hb dL_law_1026 rfl (lv_at hl 2 rfl) ?_
  refine lv_aload_n hx hb dL_law_1027 rfl (lv_at hl 0 rfl) ?_
  refine lv_iload_n hx hb dL_law_1028 rfl (lv_at hl 3 rfl) ?_
  refine lv_iconst (v := 1) hx hb dL_law_1029 (by decide) ?_
  refine lv_iadd hx hb dL_law_1030 ?_
  refine va_sld hx hb hX hbl hbA hS (sc_in hi hL 1 (by decide) rfl) dL_law_1031 ?_
  refine x_callViR (rest := [.int r]) C hP hD hS (c_X8_count g2) (cwV 1 hts (gV mw34_22 mw34_23 mw35_0 mw1_5 mw35_1) rfl rfl rfl hdV_X8_count ⟨Nat.le_of_ble_eq_true rfl, Nat.le_of_ble_eq_true rfl⟩) mw_0 rfl rfl hl.1 rfl (Nat.le_of_ble_eq_true rfl) dL_law_1032 ⟨Nat.le_of_ble_eq_true rfl, Nat.le_of_ble_eq_true rfl⟩ (fun H locs hP hD hS => ?_)
  refine lv_icmp_eq (tgt := 1040) hx hb dL_law_1035 (by decide) (fun q => ?_) (fun q => absurd rfl q)
  exact kk _ _ _ _ H locs ls hR hP hD hS hl
theorem sc_end {i L : Nat} (hi : i ≤ 400) (hL : L ≤ 320) (h : ¬ nI L - 5 < nI i) : i + 5 ≤ L := by
  have e : (nI L - (5 : Int32)).toInt = (L : Int) - 5 := pk_sub_toInt (a := L) (b := 5) (by omega) (by omega)
  rw [Int32.lt_iff_toInt_lt, e, nI_toInt (by omega)] at h
  omega
set_option maxHeartbeats 4000000 in
set_option maxRecDepth 100000 in
theorem law_loop (C : Cx p s m #[Value.ref b] meth c D cy tT tF (fun q : Nat => s.heap.size ≤ q) cL_law 4 RL) (hr : meth.sig.returnType = ret) (hX : va_X b L xs s s.heap) (hbl : b < s.heap.size) (hL : L ≤ 320) : ∀ (n i : Nat), i ≤ 330 → L + 10 ≤ i + n → ∀ (σ τ : ES) (ad ad2 : Nat → Nat) (H : Heap) (locs : List Loc) (ls : Array Slot), Rel σ τ → va_P D vwCl (xw cy ad σ ++ mw cy ad2 τ) H → va_D (fun q : Nat => s.heap.size ≤ q) (xw cy ad σ ++ mw cy ad2 τ) → va_S (fun q : Nat => s.heap.size ≤ q) s.heap H locs → lv_has ls 4 [(0, .ref b), (1, .ref (ad 0)), (2, .ref (ad2 0)), (3, .int (nI i))] → W p l e room_1 s m #[Value.ref b] below meth c H locs 600000 7302250 (lw_Z below #[Value.ref b] s) (F0 m 18 ls []) := by
  obtain ⟨⟨hx, hb, hml, hown, hts⟩, hK, hT, hA, hlk⟩ := id C
  have hbA : ¬ (fun q : Nat => s.heap.size ≤ q) b := Nat.not_le.mpr hbl
  intro n
  induction n with
  | zero =>
    intro i h1 h2 σ τ ad ad2 H locs ls hR hP hD hS hl
    refine lv_iload_n hx hb dL_law_18 rfl (lv_at hl 3 rfl) ?_
    refine lv_aload_n hx hb dL_law_19 rfl (lv_at hl 0 rfl) ?_
    refine va_slen hx hb hX hbl hbA hS dL_law_20 ?_
    refine lv_iconst (v := 5) hx hb dL_law_21 (by decide) ?_
    refine lv_isub hx hb dL_law_22 ?_
    refine lv_icmp_gt (tgt := 1046) hx hb dL_law_23 (by decide) (fun q => ?_) (fun q => ?_)
    · refine lv_iconst (v := 1) hx hb dL_law_1046 (by decide) ?_
      refine va_forget (fun q hq => hS.2.2 q hq) ?_
      exact lw_ret hx hb hr hlk dL_law_1047
    · have := sc_end (by omega) hL q
      omega
  | succ n ih =>
    intro i h1 h2 σ τ ad ad2 H locs ls hR hP hD hS hl
    refine lv_iload_n hx hb dL_law_18 rfl (lv_at hl 3 rfl) ?_
    refine lv_aload_n hx hb dL_law_19 rfl (lv_at hl 0 rfl) ?_
    refine va_slen hx hb hX hbl hbA hS dL_law_20 ?_
    refine lv_iconst (v := 5) hx hb dL_law_21 (by decide) ?_
    refine lv_isub hx hb dL_law_22 ?_
    refine lv_icmp_gt (tgt := 1046) hx hb dL_law_23 (by decide) (fun q => ?_) (fun q => ?_)
    · refine lv_iconst (v := 1) hx hb dL_law_1046 (by decide) ?_
      refine va_forget (fun q hq => hS.2.2 q hq) ?_
      exact lw_ret hx hb hr hlk dL_law_1047
    · have hi5 : i + 5 ≤ L := sc_end (by omega) hL q
      have KK : LK p l e s m below meth c D cy b i (lw_Z below #[Value.ref b] s) := by
        intro σ τ ad ad2 H locs ls hR hP hD hS hl
        refine lv_iinc (v := nI (i + 5)) (lv' := [(3, .int (nI (i + 5))), (0, .ref b), (1, .ref (ad 0)), (2, .ref (ad2 0))]) hx hb dL_law_1040 hl (k := 3) rfl (nI_add i 5) (by decide) rfl (fun ls hl => ?_)
        refine lv_goto (tgt := 18) hx hb dL_law_1043 (by decide) ?_
        exact ih (i + 5) (by omega) (by omega) σ τ ad ad2 H locs ls hR hP hD hS (lv_sub hl [1, 2, 3, 0] rfl)
      refine lv_aload_n hx hb dL_law_26 rfl (lv_at hl 0 rfl) ?_
      refine lv_iload_n hx hb dL_law_27 rfl (lv_at hl 3 rfl) ?_
      refine va_sld hx hb hX hbl hbA hS (vp_in_nI (by omega) (by omega)) dL_law_28 ?_
      refine lv_bipush (v := 31) hx hb dL_law_29 (by decide) ?_
      refine lv_iand hx hb dL_law_31 ?_
      refine lv_topi (fun x ex => ?_)
      by_cases q0 : x = (0 : Int32)
      · refine lv_tableIn (off := 140) (tgt := 172) hx hb dL_law_32 (by rw [q0]; decide) (by rw [q0]; decide) (by rw [q0]; rfl) (by decide) ?_
        exact lw_case_0 C hX hbl hi5 hL KK hR hP hD hS hl
      by_cases q1 : x = (1 : Int32)
      · refine lv_tableIn (off := 163) (tgt := 195) hx hb dL_law_32 (by rw [q1]; decide) (by rw [q1]; decide) (by rw [q1]; rfl) (by decide) ?_
        exact lw_case_1 C hX hbl hi5 hL KK hR hP hD hS hl
      by_cases q2 : x = (2 : Int32)
      · refine lv_tableIn (off := 176) (tgt := 208) hx hb dL_law_32 (by rw [q2]; decide) (by rw [q2]; decide) (by rw [q2]; rfl) (by decide) ?_
        exact lw_case_2 C hX hbl hi5 hL KK hR hP hD hS hl
      by_cases q3 : x = (3 : Int32)
      · refine lv_tableIn (off := 189) (tgt := 221) hx hb dL_law_32 (by rw [q3]; decide) (by rw [q3]; decide) (by rw [q3]; rfl) (by decide) ?_
        exact lw_case_3 C hX hbl hi5 hL KK hR hP hD hS hl
      by_cases q4 : x = (4 : Int32)
      · refine lv_tableIn (off := 202) (tgt := 234) hx hb dL_law_32 (by rw [q4]; decide) (by rw [q4]; decide) (by rw [q4]; rfl) (by decide) ?_
        exact lw_case_4 C hX hbl hi5 hL KK hR hP hD hS hl
      by_cases q5 : x = (5 : Int32)
      · refine lv_tableIn (off := 225) (tgt := 257) hx hb dL_law_32 (by rw [q5]; decide) (by rw [q5]; decide) (by rw [q5]; rfl) (by decide) ?_
        exact lw_case_5 C hX hbl hi5 hL KK hR hP hD hS hl
      by_cases q6 : x = (6 : Int32)
      · refine lv_tableIn (off := 258) (tgt := 290) hx hb dL_law_32 (by rw [q6]; decide) (by rw [q6]; decide) (by rw [q6]; rfl) (by decide) ?_
        exact lw_case_6 C hX hbl hi5 hL KK hR hP hD hS hl
      by_cases q7 : x = (7 : Int32)
      · refine lv_tableIn (off := 291) (tgt := 323) hx hb dL_law_32 (by rw [q7]; decide) (by rw [q7]; decide) (by rw [q7]; rfl) (by decide) ?_
        exact lw_case_7 C hX hbl hi5 hL KK hR hP hD hS hl
      by_cases q8 : x = (8 : Int32)
      · refine lv_tableIn (off := 314) (tgt := 346) hx hb dL_law_32 (by rw [q8]; decide) (by rw [q8]; decide) (by rw [q8]; rfl) (by decide) ?_
        exact lw_case_8 C hX hbl hi5 hL KK hR hP hD hS hl
      by_cases q9 : x = (9 : Int32)
      · refine lv_tableIn (off := 337) (tgt := 369) hx hb dL_law_32 (by rw [q9]; decide) (by rw [q9]; decide) (by rw [q9]; rfl) (by decide) ?_
        exact lw_case_9 C hX hbl hi5 hL KK hR hP hD hS hl
      by_cases q10 : x = (10 : Int32)
      · refine lv_tableIn (off := 370) (tgt := 402) hx hb dL_law_32 (by rw [q10]; decide) (by rw [q10]; decide) (by rw [q10]; rfl) (by decide) ?_
        exact lw_case_10 C hX hbl hi5 hL KK hR hP hD hS hl
      by_cases q11 : x = (11 : Int32)
      · refine lv_tableIn (off := 383) (tgt := 415) hx hb dL_law_32 (by rw [q11]; decide) (by rw [q11]; decide) (by rw [q11]; rfl) (by decide) ?_
        exact lw_case_11 C hX hbl hi5 hL KK hR hP hD hS hl
      by_cases q12 : x = (12 : Int32)
      · refine lv_tableIn (off := 396) (tgt := 428) hx hb dL_law_32 (by rw [q12]; decide) (by rw [q12]; decide) (by rw [q12]; rfl) (by decide) ?_
        exact lw_case_12 C hX hbl hi5 hL KK hR hP hD hS hl
      by_cases q13 : x = (13 : Int32)
      · refine lv_tableIn (off := 409) (tgt := 441) hx hb dL_law_32 (by rw [q13]; decide) (by rw [q13]; decide) (by rw [q13]; rfl) (by decide) ?_
        exact lw_case_13 C hX hbl hi5 hL KK hR hP hD hS hl
      by_cases q14 : x = (14 : Int32)
      · refine lv_tableIn (off := 432) (tgt := 464) hx hb dL_law_32 (by rw [q14]; decide) (by rw [q14]; decide) (by rw [q14]; rfl) (by decide) ?_
        exact lw_case_14 C hX hbl hi5 hL KK hR hP hD hS hl
      by_cases q15 : x = (15 : Int32)
      · refine lv_tableIn (off := 445) (tgt := 477) hx hb dL_law_32 (by rw [q15]; decide) (by rw [q15]; decide) (by rw [q15]; rfl) (by decide) ?_
        exact lw_case_15 C hX hbl hi5 hL KK hR hP hD hS hl
      by_cases q16 : x = (16 : Int32)
      · refine lv_tableIn (off := 494) (tgt := 526) hx hb dL_law_32 (by rw [q16]; decide) (by rw [q16]; decide) (by rw [q16]; rfl) (by decide) ?_
        exact lw_case_16 C hX hbl hi5 hL KK hR hP hD hS hl
      by_cases q17 : x = (17 : Int32)
      · refine lv_tableIn (off := 527) (tgt := 559) hx hb dL_law_32 (by rw [q17]; decide) (by rw [q17]; decide) (by rw [q17]; rfl) (by decide) ?_
        exact lw_case_17 C hX hbl hi5 hL KK hR hP hD hS hl
      by_cases q18 : x = (18 : Int32)
      · refine lv_tableIn (off := 540) (tgt := 572) hx hb dL_law_32 (by rw [q18]; decide) (by rw [q18]; decide) (by rw [q18]; rfl) (by decide) ?_
        exact lw_case_18 C hX hbl hi5 hL KK hR hP hD hS hl
      by_cases q19 : x = (19 : Int32)
      · refine lv_tableIn (off := 573) (tgt := 605) hx hb dL_law_32 (by rw [q19]; decide) (by rw [q19]; decide) (by rw [q19]; rfl) (by decide) ?_
        exact lw_case_19 C hX hbl hi5 hL KK hR hP hD hS hl
      by_cases q20 : x = (20 : Int32)
      · refine lv_tableIn (off := 632) (tgt := 664) hx hb dL_law_32 (by rw [q20]; decide) (by rw [q20]; decide) (by rw [q20]; rfl) (by decide) ?_
        exact lw_case_20 C hX hbl hi5 hL KK hR hP hD hS hl
      by_cases q21 : x = (21 : Int32)
      · refine lv_tableIn (off := 655) (tgt := 687) hx hb dL_law_32 (by rw [q21]; decide) (by rw [q21]; decide) (by rw [q21]; rfl) (by decide) ?_
        exact lw_case_21 C hX hbl hi5 hL KK hR hP hD hS hl
      by_cases q22 : x = (22 : Int32)
      · refine lv_tableIn (off := 668) (tgt := 700) hx hb dL_law_32 (by rw [q22]; decide) (by rw [q22]; decide) (by rw [q22]; rfl) (by decide) ?_
        exact lw_case_22 C hX hbl hi5 hL KK hR hP hD hS hl
      by_cases q23 : x = (23 : Int32)
      · refine lv_tableIn (off := 691) (tgt := 723) hx hb dL_law_32 (by rw [q23]; decide) (by rw [q23]; decide) (by rw [q23]; rfl) (by decide) ?_
        exact lw_case_23 C hX hbl hi5 hL KK hR hP hD hS hl
      by_cases q24 : x = (24 : Int32)
      · refine lv_tableIn (off := 750) (tgt := 782) hx hb dL_law_32 (by rw [q24]; decide) (by rw [q24]; decide) (by rw [q24]; rfl) (by decide) ?_
        exact lw_case_24 C hX hbl hi5 hL KK hR hP hD hS hl
      by_cases q25 : x = (25 : Int32)
      · refine lv_tableIn (off := 793) (tgt := 825) hx hb dL_law_32 (by rw [q25]; decide) (by rw [q25]; decide) (by rw [q25]; rfl) (by decide) ?_
        exact lw_case_25 C hX hbl hi5 hL KK hR hP hD hS hl
      by_cases q26 : x = (26 : Int32)
      · refine lv_tableIn (off := 862) (tgt := 894) hx hb dL_law_32 (by rw [q26]; decide) (by rw [q26]; decide) (by rw [q26]; rfl) (by decide) ?_
        exact lw_case_26 C hX hbl hi5 hL KK hR hP hD hS hl
      by_cases q27 : x = (27 : Int32)
      · refine lv_tableIn (off := 916) (tgt := 948) hx hb dL_law_32 (by rw [q27]; decide) (by rw [q27]; decide) (by rw [q27]; rfl) (by decide) ?_
        exact lw_case_27 C hX hbl hi5 hL KK hR hP hD hS hl
      by_cases q28 : x = (28 : Int32)
      · refine lv_tableIn (off := 939) (tgt := 971) hx hb dL_law_32 (by rw [q28]; decide) (by rw [q28]; decide) (by rw [q28]; rfl) (by decide) ?_
        exact lw_case_28 C hX hbl hi5 hL KK hR hP hD hS hl
      by_cases q29 : x = (29 : Int32)
      · refine lv_tableIn (off := 962) (tgt := 994) hx hb dL_law_32 (by rw [q29]; decide) (by rw [q29]; decide) (by rw [q29]; rfl) (by decide) ?_
        exact lw_case_29 C hX hbl hi5 hL KK hR hP hD hS hl
      by_cases q30 : x = (30 : Int32)
      · refine lv_tableIn (off := 985) (tgt := 1017) hx hb dL_law_32 (by rw [q30]; decide) (by rw [q30]; decide) (by rw [q30]; rfl) (by decide) ?_
        exact lw_case_30 C hX hbl hi5 hL KK hR hP hD hS hl
      have hx31 : x.toInt < 0 ∨ 30 < x.toInt := by
        have z0 := lv_neT q0 (show (0 : Int32).toInt = 0 from rfl)
        have z1 := lv_neT q1 (show (1 : Int32).toInt = 1 from rfl)
        have z2 := lv_neT q2 (show (2 : Int32).toInt = 2 from rfl)
        have z3 := lv_neT q3 (show (3 : Int32).toInt = 3 from rfl)
        have z4 := lv_neT q4 (show (4 : Int32).toInt = 4 from rfl)
        have z5 := lv_neT q5 (show (5 : Int32).toInt = 5 from rfl)
        have z6 := lv_neT q6 (show (6 : Int32).toInt = 6 from rfl)
        have z7 := lv_neT q7 (show (7 : Int32).toInt = 7 from rfl)
        have z8 := lv_neT q8 (show (8 : Int32).toInt = 8 from rfl)
        have z9 := lv_neT q9 (show (9 : Int32).toInt = 9 from rfl)
        have z10 := lv_neT q10 (show (10 : Int32).toInt = 10 from rfl)
        have z11 := lv_neT q11 (show (11 : Int32).toInt = 11 from rfl)
        have z12 := lv_neT q12 (show (12 : Int32).toInt = 12 from rfl)
        have z13 := lv_neT q13 (show (13 : Int32).toInt = 13 from rfl)
        have z14 := lv_neT q14 (show (14 : Int32).toInt = 14 from rfl)
        have z15 := lv_neT q15 (show (15 : Int32).toInt = 15 from rfl)
        have z16 := lv_neT q16 (show (16 : Int32).toInt = 16 from rfl)
        have z17 := lv_neT q17 (show (17 : Int32).toInt = 17 from rfl)
        have z18 := lv_neT q18 (show (18 : Int32).toInt = 18 from rfl)
        have z19 := lv_neT q19 (show (19 : Int32).toInt = 19 from rfl)
        have z20 := lv_neT q20 (show (20 : Int32).toInt = 20 from rfl)
        have z21 := lv_neT q21 (show (21 : Int32).toInt = 21 from rfl)
        have z22 := lv_neT q22 (show (22 : Int32).toInt = 22 from rfl)
        have z23 := lv_neT q23 (show (23 : Int32).toInt = 23 from rfl)
        have z24 := lv_neT q24 (show (24 : Int32).toInt = 24 from rfl)
        have z25 := lv_neT q25 (show (25 : Int32).toInt = 25 from rfl)
        have z26 := lv_neT q26 (show (26 : Int32).toInt = 26 from rfl)
        have z27 := lv_neT q27 (show (27 : Int32).toInt = 27 from rfl)
        have z28 := lv_neT q28 (show (28 : Int32).toInt = 28 from rfl)
        have z29 := lv_neT q29 (show (29 : Int32).toInt = 29 from rfl)
        have z30 := lv_neT q30 (show (30 : Int32).toInt = 30 from rfl)
        omega
      refine lv_tableOut (tgt := 1040) hx hb dL_law_32 hx31 (by decide) ?_
      exact KK σ τ ad ad2 H locs ls hR hP hD hS hl
end LAW

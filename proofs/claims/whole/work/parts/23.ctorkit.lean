-- ===== OWN KIT: worlds side by side, makers =====
theorem ap_l {w0 wc : va_W} {i : Nat} {p : Nat × va_E} (h : w0[i]? = some p) : (w0 ++ wc)[i]? = some p := by
  rw [List.getElem?_append_left (List.getElem?_eq_some_iff.mp h).1]; exact h
theorem ap_r {w0 wc : va_W} {i : Nat} {p : Nat × va_E} (h : wc[i]? = some p) : (w0 ++ wc)[w0.length + i]? = some p := by
  rw [List.getElem?_append_right (by omega)]
  rw [show w0.length + i - w0.length = i by omega]
  exact h
theorem P_l {D : va_G} {cl : List vw_C} {w0 wc : va_W} {H : Heap} (h : va_P D cl (w0 ++ wc) H) : va_P D cl w0 H := fun k q hk => h k q (ap_l hk)
theorem P_r {D : va_G} {cl : List vw_C} {w0 wc : va_W} {H : Heap} (h : va_P D cl (w0 ++ wc) H) : va_P D cl wc H := fun k q hk => h (w0.length + k) q (ap_r hk)
theorem D_l {A : Nat → Prop} {w0 wc : va_W} (h : va_D A (w0 ++ wc)) : va_D A w0 := ⟨fun i j p q hi hj e => h.1 i j p q (ap_l hi) (ap_l hj) e, fun k q hk => h.2 k q (ap_l hk)⟩
theorem D_r {A : Nat → Prop} {w0 wc : va_W} (h : va_D A (w0 ++ wc)) : va_D A wc := ⟨fun i j p q hi hj e => by have := h.1 _ _ p q (ap_r hi) (ap_r hj) e; omega, fun k q hk => h.2 _ q (ap_r hk)⟩
theorem own_joinR {A : Nat → Prop} {D : va_G} {cl : List vw_C} {w0 wc w1 : va_W} {H H1 : Heap} (hP : va_P D cl (w0 ++ wc) H) (hD : va_D A (w0 ++ wc)) (hF : ∀ q, va_A wc H.size q → A q) (hk : ∀ q : Nat, q < H.size → ¬ va_A wc H.size q → H1[q]? = H[q]?) (hP1 : va_P D cl w1 H1) (hD1 : va_D (va_A wc H.size) w1) : va_P D cl (w0 ++ w1) H1 ∧ va_D A (w0 ++ w1) := by
  have hP0 := P_l hP
  have apart : ∀ (i : Nat) (p : Nat × va_E), w0[i]? = some p → ¬ va_A wc H.size p.1 := by
    intro i p hi hA
    have hlt : i < w0.length := (List.getElem?_eq_some_iff.mp hi).1
    rcases hA with ⟨k, e, hk⟩ | h
    · have := hD.1 i (w0.length + k) p (p.1, e) (ap_l hi) (ap_r hk) rfl
      omega
    · have := (hP0 i p hi).lt
      omega
  refine ⟨(hP0.kept (fun k q h => hk q.1 (hP0 k q h).lt (apart k q h))).app hP1, (D_l hD).app (hD1.weaken (fun _ q _ h => hF q.1 h)) (fun i j p q hi hj e => apart i p hi (by rw [e]; exact hD1.2 j q hj))⟩
theorem own_joinL {A : Nat → Prop} {D : va_G} {cl : List vw_C} {w0 wc w1 : va_W} {H H1 : Heap} (hP : va_P D cl (wc ++ w0) H) (hD : va_D A (wc ++ w0)) (hF : ∀ q, va_A wc H.size q → A q) (hk : ∀ q : Nat, q < H.size → ¬ va_A wc H.size q → H1[q]? = H[q]?) (hP1 : va_P D cl w1 H1) (hD1 : va_D (va_A wc H.size) w1) : va_P D cl (w1 ++ w0) H1 ∧ va_D A (w1 ++ w0) := by
  have hP0 := P_r hP
  have apart : ∀ (i : Nat) (p : Nat × va_E), w0[i]? = some p → ¬ va_A wc H.size p.1 := by
    intro i p hi hA
    rcases hA with ⟨k, e, hk⟩ | h
    · have h2 : k < wc.length := (List.getElem?_eq_some_iff.mp hk).1
      have := hD.1 (wc.length + i) k p (p.1, e) (ap_r hi) (ap_l hk) rfl
      omega
    · have := (hP0 i p hi).lt
      omega
  refine ⟨va_P.app hP1 (hP0.kept (fun k q h => hk q.1 (hP0 k q h).lt (apart k q h))), (hD1.weaken (fun _ q _ h => hF q.1 h)).app (D_r hD) (fun i j p q hi hj e => apart j q hj (by rw [← e]; exact hD1.2 i p hi))⟩
def CMn (l : Launch) (y : MethodName) (wd : List Cond) (rm : Room) (D : va_G) (cy : Nat → ClassId) (tT tF : Nat) (av : List Value) (ws : va_W) (f : (Nat → Nat) → va_W) (mc ms : Nat) : Prop := ∀ sz : Nat, Met l y wd rm (va_Pc av (cP D cy tT tF ws sz)) (va_Qv (fun (_ : Nat → Nat) => True) (fun u t => cB D cy (va_A ws sz) (f u) t) (va_A ws sz)) mc ms (va_A ws sz)
section OWN2
variable {p : Program} {l : Launch} {e : Env} {R : Room} {s : State} {m : MethodId} {args : Array Value} {below : List Frame} {meth : Method} {c : Code} {H : Heap} {locs : List Loc} {cells slots : Nat} {Q : State → Prop}
variable {D : va_G} {cy : Nat → ClassId} {tT tF : Nat} {A : Nat → Prop} {cc bytes : ByteArray} {nL maxL n index pc : Nat} {own Cn host : String} {y : MethodName} {ret : Option FieldType} {wd wd' : List Cond} {rm : Room} {ls : Array Slot} {As rest st0 : List Value} {b : Nat} {ws ws' w0 wc : va_W} {r : Int32} {rl : Int64}
theorem x_newi (C : Cx p s m args meth c D cy tT tF A cc nL own) (hP : va_P D vwCl ws H) (hD : va_D A ws) (hS : va_S A s.heap H locs) (harr : Cond.arrayClass .int ∈ wsL_law) {k : Int32} {N : Nat} (hn : ¬ k < 0) (hN : k.toNatClampNeg = N) (hb4 : N * componentBytes .int ≤ 536870912) (hcells : cells + 1 ≤ R.cells) (hslots : slots + N ≤ R.slots) (hdg : decode cc pc = .ok (.newarray .int, 2))
    (kk : ∀ (q : Nat) (H1 : Heap), va_P D vwCl (ws ++ [(q, .inl (cy 0, N, .inl (fun _ => 0)))]) H1 → va_D A (ws ++ [(q, .inl (cy 0, N, .inl (fun _ => 0)))]) → va_S A s.heap H1 locs → W p l e R s m args below meth c H1 locs (cells + 1) (slots + N) Q (F0 m (pc + 2) ls (.ref q :: rest))) : W p l e R s m args below meth c H locs cells slots Q (F0 m pc ls (.int k :: rest)) := by
  obtain ⟨⟨hx, hb, hml, hown, hts⟩, hK, hT, hA, hlocks⟩ := C
  refine va_newa (atype := .int) (a0 := (N, .inl (fun _ => 0))) hx hb (hts _ harr) rfl hK hP hD hS hA (fun _ => rfl) hn hN hb4 hcells hslots hdg (fun q cA H1 hK1 hP1 hD1 hS1 => ?_)
  have e1 : s.vm.findClass ("[" ++ (FieldType.int).toString) = some (cy 0) := (hK.2 0 (cy 0, .int) rfl).2
  have e2 : s.vm.findClass ("[" ++ (FieldType.int).toString) = some cA := (hK1.2 3 (cA, .int) rfl).2
  have e3 : cA = cy 0 := Option.some.inj (e2.symm.trans e1)
  subst e3
  exact kk q H1 hP1 hD1 hS1
theorem x_newl (C : Cx p s m args meth c D cy tT tF A cc nL own) (hP : va_P D vwCl ws H) (hD : va_D A ws) (hS : va_S A s.heap H locs) (harr : Cond.arrayClass .long ∈ wsL_law) {k : Int32} {N : Nat} (hn : ¬ k < 0) (hN : k.toNatClampNeg = N) (hb4 : N * componentBytes .long ≤ 536870912) (hcells : cells + 1 ≤ R.cells) (hslots : slots + N ≤ R.slots) (hdg : decode cc pc = .ok (.newarray .long, 2))
    (kk : ∀ (q : Nat) (H1 : Heap), va_P D vwCl (ws ++ [(q, .inl (cy 1, N, .inr (.inl (fun _ => 0))))]) H1 → va_D A (ws ++ [(q, .inl (cy 1, N, .inr (.inl (fun _ => 0))))]) → va_S A s.heap H1 locs → W p l e R s m args below meth c H1 locs (cells + 1) (slots + N) Q (F0 m (pc + 2) ls (.ref q :: rest))) : W p l e R s m args below meth c H locs cells slots Q (F0 m pc ls (.int k :: rest)) := by
  obtain ⟨⟨hx, hb, hml, hown, hts⟩, hK, hT, hA, hlocks⟩ := C
  refine va_newa (atype := .long) (a0 := (N, .inr (.inl (fun _ => 0)))) hx hb (hts _ harr) rfl hK hP hD hS hA (fun _ => rfl) hn hN hb4 hcells hslots hdg (fun q cA H1 hK1 hP1 hD1 hS1 => ?_)
  have e1 : s.vm.findClass ("[" ++ (FieldType.long).toString) = some (cy 1) := (hK.2 1 (cy 1, .long) rfl).2
  have e2 : s.vm.findClass ("[" ++ (FieldType.long).toString) = some cA := (hK1.2 3 (cA, .long) rfl).2
  have e3 : cA = cy 1 := Option.some.inj (e2.symm.trans e1)
  subst e3
  exact kk q H1 hP1 hD1 hS1
theorem x_newz (C : Cx p s m args meth c D cy tT tF A cc nL own) (hP : va_P D vwCl ws H) (hD : va_D A ws) (hS : va_S A s.heap H locs) (harr : Cond.arrayClass .boolean ∈ wsL_law) {k : Int32} {N : Nat} (hn : ¬ k < 0) (hN : k.toNatClampNeg = N) (hb4 : N * componentBytes .boolean ≤ 536870912) (hcells : cells + 1 ≤ R.cells) (hslots : slots + N ≤ R.slots) (hdg : decode cc pc = .ok (.newarray .boolean, 2))
    (kk : ∀ (q : Nat) (H1 : Heap), va_P D vwCl (ws ++ [(q, .inl (cy 2, N, .inl (fun _ => 0)))]) H1 → va_D A (ws ++ [(q, .inl (cy 2, N, .inl (fun _ => 0)))]) → va_S A s.heap H1 locs → W p l e R s m args below meth c H1 locs (cells + 1) (slots + N) Q (F0 m (pc + 2) ls (.ref q :: rest))) : W p l e R s m args below meth c H locs cells slots Q (F0 m pc ls (.int k :: rest)) := by
  obtain ⟨⟨hx, hb, hml, hown, hts⟩, hK, hT, hA, hlocks⟩ := C
  refine va_newa (atype := .boolean) (a0 := (N, .inl (fun _ => 0))) hx hb (hts _ harr) rfl hK hP hD hS hA (fun _ => rfl) hn hN hb4 hcells hslots hdg (fun q cA H1 hK1 hP1 hD1 hS1 => ?_)
  have e1 : s.vm.findClass ("[" ++ (FieldType.boolean).toString) = some (cy 2) := (hK.2 2 (cy 2, .boolean) rfl).2
  have e2 : s.vm.findClass ("[" ++ (FieldType.boolean).toString) = some cA := (hK1.2 3 (cA, .boolean) rfl).2
  have e3 : cA = cy 2 := Option.some.inj (e2.symm.trans e1)
  subst e3
  exact kk q H1 hP1 hD1 hS1
theorem x_putF (C : Cx p s m args meth c D cy tT tF A cc nL own) (hin2 : meth.name = "<init>") (hP : va_P D vwCl ws H) (hD : va_D A ws) (hS : va_S A s.heap H locs) {Cl : String} {T : u_T} {N ci : Nat} (hin : ∀ w ∈ u_ws Cl T N, w ∈ wsL_law) (ty0 : Nat → FieldType) (hty : ∀ k, k < N → parseFieldDescriptor (T k).2.2.1 = some (ty0 k)) (hnm : ∀ a, a < N → ∀ b, b < N → a ≠ b → (T a).2.1 ≠ (T b).2.1) (q0 : Nat) {fs : List Value} (he : ws[q0]? = some (b, .inr (ci, fs))) (hc : vwCl[ci]? = some (Cl, T, N)) (k : Nat) (hk : k < N) (hlink : Cond.fieldLink own index (T k).1 (T k).2.1 (T k).2.2.1 ∈ wsL_law) (hfin : (T k).2.2.2 = true) (hdecl : (T k).1 = own) {v : Value} (hn : narrow (ty0 k) v = v) (hfit : fits (ty0 k) v = true) (hl : k < fs.length) (hset : ws.set q0 (b, .inr (ci, fs.set k v)) = ws') (hdg : decode cc pc = .ok (.putfield index, 3))
    (kk : ∀ (H1 : Heap) (locs1 : List Loc), va_P D vwCl ws' H1 → va_D A ws' → va_S A s.heap H1 locs1 → W p l e R s m args below meth c H1 locs1 cells slots Q (F0 m (pc + 3) ls rest)) : W p l e R s m args below meth c H locs cells slots Q (F0 m pc ls (v :: .ref b :: rest)) := by
  obtain ⟨⟨hx, hb, hml, hown, hts⟩, hK, hT, hA, hlocks⟩ := C
  subst hset
  exact va_putF hx hb hts hin ty0 hty hnm hown hK hP hD hS q0 he hc k hk (hts _ hlink) (fun _ h => h) hfin hin2 hdecl (hty k hk) hn hfit hl hdg kk
theorem x_new (C : Cx p s m args meth c D cy tT tF A cc nL own) (hP : va_P D vwCl ws H) (hD : va_D A ws) (hS : va_S A s.heap H locs) {Cl : String} {T : u_T} {N ci : Nat} (hin : ∀ w ∈ u_ws Cl T N, w ∈ wsL_law) (ty : Nat → FieldType) (hty : ∀ k, k < N → parseFieldDescriptor (T k).2.2.1 = some (ty k)) (hcl : Cond.classLink own index Cl ∈ wsL_law) (hinst : Cond.instantiable Cl N ∈ wsL_law) (hini : Cond.initialized Cl ∈ wsL_law) (hc : vwCl[ci]? = some (Cl, T, N)) {fs : List Value} (hfs : ∀ j, j < N → defaultValue (ty j) = vp_V fs j) (hcells : cells + 1 ≤ R.cells) (hslots : slots + N ≤ R.slots) (hdg : decode cc pc = .ok (.new index, 3))
    (kk : ∀ (q : Nat) (H1 : Heap), va_P D vwCl (ws ++ [(q, .inr (ci, fs))]) H1 → va_D A (ws ++ [(q, .inr (ci, fs))]) → va_S A s.heap H1 locs → W p l e R s m args below meth c H1 locs (cells + 1) (slots + N) Q (F0 m (pc + 3) ls (.ref q :: rest))) : W p l e R s m args below meth c H locs cells slots Q (F0 m pc ls rest) := by
  obtain ⟨⟨hx, hb, hml, hown, hts⟩, hK, hT, hA, hlocks⟩ := C
  exact va_new hx hb hts hin ty hty hown (hts _ hcl) (hts _ hinst) (hts _ hini) hK hP hD hS hA hc hfs hcells hslots hdg kk
theorem x_objInit (C : Cx p s m args meth c D cy tT tF A cc nL own) (hsz : ls.size = nL) (h1 : Cond.methodLink own index objectInit ∈ wsL_law) (h2 : Cond.instanceMethod objectInit ∈ wsL_law) (h3 : Cond.code objectInit ⟨#[0xb1]⟩ 1 none ∈ wsL_law) (hframes : 1 ≤ R.frames) (hlocals : 12 ≤ R.locals) (hdg : decode cc pc = .ok (.invokespecial index, 3))
    (kk : W p l e R s m args below meth c H locs cells slots Q (F0 m (pc + 3) ls [])) : W p l e R s m args below meth c H locs cells slots Q (F0 m pc ls [.ref b]) := by
  obtain ⟨⟨hx, hb, hml, hown, hts⟩, hK, hT, hA, hlocks⟩ := C
  exact W.objInit hx hb hown (hts _ h1) (hts _ h2) (hts _ h3) rfl (by rw [hml]; exact hsz) rfl hdg hframes (by show 2 * 0 + 0 + 12 ≤ _; omega) kk
theorem x_callIN (C : Cx p s m args meth c D cy tT tF A cc nL own) {mc ms : Nat} {f : (Nat → Nat) → va_W} (hP : va_P D vwCl (w0 ++ wc) H) (hD : va_D A (w0 ++ wc)) (hS : va_S A s.heap H locs) (hM : CMn l y wd rm D cy tT tF [.ref b] wc f mc ms) (cw : CallB R s args own index y bytes maxL none wd rm mc ms 0 ∧ y.name = "<init>" ∧ (Cond.instanceMethod y).before args s = true) (hsz : ls.size = nL) (hcat : (rest.map fun v => v.category).sum ≤ 8) (hdg : decode cc pc = .ok (.invokespecial index, 3)) (hf : cells + mc ≤ R.cells ∧ slots + ms ≤ R.slots)
    (kk : ∀ (u : Nat → Nat) (H1 : Heap) (locs1 : List Loc), va_P D vwCl (w0 ++ f u) H1 → va_D A (w0 ++ f u) → va_S A s.heap H1 locs1 → W p l e R s m args below meth c H1 locs1 (cells + mc) (slots + ms) Q (F0 m (pc + 3) ls rest)) : W p l e R s m args below meth c H locs cells slots Q (F0 m pc ls (.ref b :: rest)) := by
  obtain ⟨CF, hK, hT, hA, hlocks⟩ := id C
  have hF := own_free (D_r hD) hS hA
  refine va_callv (va_runI (As := []) (rest := rest) CF (hM H.size) cw ⟨cP_blind, own_pre C (P_r hP) (D_r hD) hS _⟩ rfl rfl hsz rfl (lv_room hcat) hdg hf) hS (fun q _ h => hF q h) hF (fun u t H1 locs1 ht hvm hpost hB hz hk hS1 => ?_)
  obtain ⟨hP1, hK1, hD1⟩ := hB
  rw [ht] at hP1
  obtain ⟨hPj, hDj⟩ := own_joinR hP hD hF hk hP1 hD1
  exact kk u H1 locs1 hPj hDj hS1
theorem x_callViL (C : Cx p s m args meth c D cy tT tF A cc nL own) (hP : va_P D vwCl (ws ++ w0) H) (hD : va_D A (ws ++ w0)) (hS : va_S A s.heap H locs) (hM : CMi l y wd rm D cy tT tF (.ref b :: As) ws r ws') (cw : CallW R s args own Cn index y bytes maxL ret wd rm 0 0 n) {q0 ci : Nat} {fs : List Value} {T : u_T} {N : Nat} (he : ws[q0]? = some (b, .inr (ci, fs))) (hc : vwCl[ci]? = some (Cn, T, N)) (hn : As.length = n) (hsz : ls.size = nL) (hst : st0 = As.reverse ++ .ref b :: rest) (hcat : (rest.map fun v => v.category).sum ≤ 8) (hdg : decode cc pc = .ok (.invokevirtual index, 3)) (hf : cells ≤ R.cells ∧ slots ≤ R.slots)
    (kk : ∀ (H1 : Heap) (locs1 : List Loc), va_P D vwCl (ws' ++ w0) H1 → va_D A (ws' ++ w0) → va_S A s.heap H1 locs1 → W p l e R s m args below meth c H1 locs1 cells slots Q (F0 m (pc + 3) ls (.int r :: rest))) : W p l e R s m args below meth c H locs cells slots Q (F0 m pc ls st0) := by
  obtain ⟨CF, hK, hT, hA, hlocks⟩ := id C
  have hF := own_free (D_l hD) hS hA
  refine va_calli (va_runV CF (hM H.size) cw ⟨cP_blind, va_recv hK (P_l hP) hc he, own_pre C (P_l hP) (D_l hD) hS _⟩ rfl hn hsz hst (lv_room hcat) hdg hf) hS (fun q _ h => hF q h) hF (fun r1 u t H1 locs1 ht hvm hpost hB hz hk hS1 => ?_)
  subst hpost
  obtain ⟨hP1, hK1, hD1⟩ := hB
  rw [ht] at hP1
  obtain ⟨hPj, hDj⟩ := own_joinL hP hD hF hk hP1 hD1
  exact kk H1 locs1 hPj hDj hS1
theorem x_callViR (C : Cx p s m args meth c D cy tT tF A cc nL own) (hP : va_P D vwCl (w0 ++ ws) H) (hD : va_D A (w0 ++ ws)) (hS : va_S A s.heap H locs) (hM : CMi l y wd rm D cy tT tF (.ref b :: As) ws r ws') (cw : CallW R s args own Cn index y bytes maxL ret wd rm 0 0 n) {q0 ci : Nat} {fs : List Value} {T : u_T} {N : Nat} (he : ws[q0]? = some (b, .inr (ci, fs))) (hc : vwCl[ci]? = some (Cn, T, N)) (hn : As.length = n) (hsz : ls.size = nL) (hst : st0 = As.reverse ++ .ref b :: rest) (hcat : (rest.map fun v => v.category).sum ≤ 8) (hdg : decode cc pc = .ok (.invokevirtual index, 3)) (hf : cells ≤ R.cells ∧ slots ≤ R.slots)
    (kk : ∀ (H1 : Heap) (locs1 : List Loc), va_P D vwCl (w0 ++ ws') H1 → va_D A (w0 ++ ws') → va_S A s.heap H1 locs1 → W p l e R s m args below meth c H1 locs1 cells slots Q (F0 m (pc + 3) ls (.int r :: rest))) : W p l e R s m args below meth c H locs cells slots Q (F0 m pc ls st0) := by
  obtain ⟨CF, hK, hT, hA, hlocks⟩ := id C
  have hF := own_free (D_r hD) hS hA
  refine va_calli (va_runV CF (hM H.size) cw ⟨cP_blind, va_recv hK (P_r hP) hc he, own_pre C (P_r hP) (D_r hD) hS _⟩ rfl hn hsz hst (lv_room hcat) hdg hf) hS (fun q _ h => hF q h) hF (fun r1 u t H1 locs1 ht hvm hpost hB hz hk hS1 => ?_)
  subst hpost
  obtain ⟨hP1, hK1, hD1⟩ := hB
  rw [ht] at hP1
  obtain ⟨hPj, hDj⟩ := own_joinR hP hD hF hk hP1 hD1
  exact kk H1 locs1 hPj hDj hS1
theorem x_callVlL (C : Cx p s m args meth c D cy tT tF A cc nL own) (hP : va_P D vwCl (ws ++ w0) H) (hD : va_D A (ws ++ w0)) (hS : va_S A s.heap H locs) (hM : CMl l y wd rm D cy tT tF (.ref b :: As) ws rl ws') (cw : CallW R s args own Cn index y bytes maxL ret wd rm 0 0 n) {q0 ci : Nat} {fs : List Value} {T : u_T} {N : Nat} (he : ws[q0]? = some (b, .inr (ci, fs))) (hc : vwCl[ci]? = some (Cn, T, N)) (hn : As.length = n) (hsz : ls.size = nL) (hst : st0 = As.reverse ++ .ref b :: rest) (hcat : (rest.map fun v => v.category).sum ≤ 8) (hdg : decode cc pc = .ok (.invokevirtual index, 3)) (hf : cells ≤ R.cells ∧ slots ≤ R.slots)
    (kk : ∀ (H1 : Heap) (locs1 : List Loc), va_P D vwCl (ws' ++ w0) H1 → va_D A (ws' ++ w0) → va_S A s.heap H1 locs1 → W p l e R s m args below meth c H1 locs1 cells slots Q (F0 m (pc + 3) ls (.long rl :: rest))) : W p l e R s m args below meth c H locs cells slots Q (F0 m pc ls st0) := by
  obtain ⟨CF, hK, hT, hA, hlocks⟩ := id C
  have hF := own_free (D_l hD) hS hA
  refine va_calll (va_runV CF (hM H.size) cw ⟨cP_blind, va_recv hK (P_l hP) hc he, own_pre C (P_l hP) (D_l hD) hS _⟩ rfl hn hsz hst (lv_room hcat) hdg hf) hS (fun q _ h => hF q h) hF (fun r1 u t H1 locs1 ht hvm hpost hB hz hk hS1 => ?_)
  subst hpost
  obtain ⟨hP1, hK1, hD1⟩ := hB
  rw [ht] at hP1
  obtain ⟨hPj, hDj⟩ := own_joinL hP hD hF hk hP1 hD1
  exact kk H1 locs1 hPj hDj hS1
theorem x_callVlR (C : Cx p s m args meth c D cy tT tF A cc nL own) (hP : va_P D vwCl (w0 ++ ws) H) (hD : va_D A (w0 ++ ws)) (hS : va_S A s.heap H locs) (hM : CMl l y wd rm D cy tT tF (.ref b :: As) ws rl ws') (cw : CallW R s args own Cn index y bytes maxL ret wd rm 0 0 n) {q0 ci : Nat} {fs : List Value} {T : u_T} {N : Nat} (he : ws[q0]? = some (b, .inr (ci, fs))) (hc : vwCl[ci]? = some (Cn, T, N)) (hn : As.length = n) (hsz : ls.size = nL) (hst : st0 = As.reverse ++ .ref b :: rest) (hcat : (rest.map fun v => v.category).sum ≤ 8) (hdg : decode cc pc = .ok (.invokevirtual index, 3)) (hf : cells ≤ R.cells ∧ slots ≤ R.slots)
    (kk : ∀ (H1 : Heap) (locs1 : List Loc), va_P D vwCl (w0 ++ ws') H1 → va_D A (w0 ++ ws') → va_S A s.heap H1 locs1 → W p l e R s m args below meth c H1 locs1 cells slots Q (F0 m (pc + 3) ls (.long rl :: rest))) : W p l e R s m args below meth c H locs cells slots Q (F0 m pc ls st0) := by
  obtain ⟨CF, hK, hT, hA, hlocks⟩ := id C
  have hF := own_free (D_r hD) hS hA
  refine va_calll (va_runV CF (hM H.size) cw ⟨cP_blind, va_recv hK (P_r hP) hc he, own_pre C (P_r hP) (D_r hD) hS _⟩ rfl hn hsz hst (lv_room hcat) hdg hf) hS (fun q _ h => hF q h) hF (fun r1 u t H1 locs1 ht hvm hpost hB hz hk hS1 => ?_)
  subst hpost
  obtain ⟨hP1, hK1, hD1⟩ := hB
  rw [ht] at hP1
  obtain ⟨hPj, hDj⟩ := own_joinR hP hD hF hk hP1 hD1
  exact kk H1 locs1 hPj hDj hS1
theorem x_vretN (C : Cx p s m args meth c D cy tT tF A cc nL own) (hr : meth.sig.returnType = none) {f : (Nat → Nat) → va_W} (u : Nat → Nat) (hf : ws = f u) (hP : va_P D vwCl ws H) (hD : va_D A ws) (hS : va_S A s.heap H locs) (hdg : decode cc pc = .ok (.return_, 1)) : W p l e R s m args below meth c H locs cells slots (MQ below (va_Qv (fun (_ : Nat → Nat) => True) (fun u t => cB D cy A (f u) t) A) args s cells slots A) (F0 m pc ls []) := by
  obtain ⟨⟨hx, hb, hml, hown, hts⟩, hK, hT, hA, hlocks⟩ := C
  subst hf
  exact W.vret hx hb hr (fun t ht hW => ⟨⟨u, rfl, trivial, by rw [ht]; exact hP, va_K.moved hW.alike hK, hD⟩, hS.F ht⟩) hS.2.2 hdg
end OWN2
theorem x_startN {l : Launch} {y : MethodName} {cc : ByteArray} {nL : Nat} {ret : Option FieldType} {rm : Room} {D : va_G} {cy : Nat → ClassId} {tT tF : Nat} {av : List Value} {ws : va_W} {mc ms : Nat} {Qc : (Nat → Prop) → Array Value → State → Outcome → State → Prop} (hy : plainName y.cls = true) (hlen : (lg_sl av).length ≤ nL)
    (body : ∀ (p : Program) (e : Env) (s : State) (m : MethodId) (below : List Frame) (meth : Method) (c : Code) (A : Nat → Prop) (ls : Array Slot), Cx p s m av.toArray meth c D cy tT tF A cc nL y.cls → meth.name = y.name → meth.sig.returnType = ret → va_P D vwCl ws s.heap → va_D A ws → va_S A s.heap s.heap [] → lv_has ls nL (lv_args 0 av) → W p l e rm s m av.toArray below meth c s.heap [] 0 0 (MQ below (Qc A) av.toArray s mc ms A) (F0 m 0 ls [])) :
    ∀ sz : Nat, Met l y (Cond.code y cc nL ret :: wsL_law) rm (va_Pc av (cP D cy tT tF ws sz)) (Qc (va_A ws sz)) mc ms (va_A ws sz) := by
  intro sz
  refine Met.ofW (cc := cc) (maxL := nL) (ret := ret) hy rfl ?_
  intro p e s m args below meth c s₁ B hml hv
  obtain ⟨rfl, hsz, hP, hK, hD0, hT⟩ := hv
  have hts := atoms_spec (ws := Cond.code y cc nL ret :: wsL_law) B.pre
  have hown : s.vm.findClass y.cls = some m.cls := findClass_of_methodNamed B.named
  have hin : meth.name = y.name := (name_of_methodNamed B.named B.method).1
  subst hsz
  have hl := lv_entry av (n := nL) hlen
  rw [lg_entry_eq]
  exact body p e s m below meth c (va_A ws s.heap.size) _ ⟨⟨B.exec, B.bytes, hml, hown, fun w h => hts w (List.mem_cons_of_mem _ h)⟩, hK, hT, fun q h => Or.inr h, B.notSynchronized⟩ hin B.returns hP hD0.self va_S.rf hl

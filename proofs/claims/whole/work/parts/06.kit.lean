-- ===== OWN KIT: the words of the embedding, the contracts' form, derived rows =====
abbrev ES : Type := (Nat → Nat → Int32) × (Nat → Nat → Int64)
def u2 (f : Nat → Nat → Int32) (k j : Nat) (v : Int32) : Nat → Nat → Int32 := fun a => if a = k then upd (f k) j v else f a
def u2L (f : Nat → Nat → Int64) (k j : Nat) (v : Int64) : Nat → Nat → Int64 := fun a => if a = k then vp_updL (f k) j v else f a
def wI (σ : ES) (k j : Nat) (v : Int32) : ES := (u2 σ.1 k j v, σ.2)
def wL (σ : ES) (k j : Nat) (v : Int64) : ES := (σ.1, u2L σ.2 k j v)
def wR (σ : ES) (k : Nat) (f : Nat → Int32) : ES := (fun a => if a = k then f else σ.1 a, σ.2)
def rd {α : Type} (σ : ES) (k n : Nat) (i : Int32) (f : Int32 → Option α) : Option α := if i < 0 ∨ n ≤ i.toNatClampNeg then none else f (σ.1 k i.toNatClampNeg)
def rdL {α : Type} (σ : ES) (k n : Nat) (i : Int32) (f : Int64 → Option α) : Option α := if i < 0 ∨ n ≤ i.toNatClampNeg then none else f (σ.2 k i.toNatClampNeg)
def wr {α : Type} (σ : ES) (k n : Nat) (i v : Int32) (f : ES → Option α) : Option α := if i < 0 ∨ n ≤ i.toNatClampNeg then none else f (wI σ k i.toNatClampNeg v)
def wrL {α : Type} (σ : ES) (k n : Nat) (i : Int32) (v : Int64) (f : ES → Option α) : Option α := if i < 0 ∨ n ≤ i.toNatClampNeg then none else f (wL σ k i.toNatClampNeg v)
def rt {α : Type} (t : Nat → Int32) (n : Nat) (i : Int32) (f : Int32 → Option α) : Option α := if i < 0 ∨ n ≤ i.toNatClampNeg then none else f (t i.toNatClampNeg)
def dv {α : Type} (y : Int32) (x : Option α) : Option α := if y = 0 then none else x
def dvL {α : Type} (y : Int64) (x : Option α) : Option α := if y = 0 then none else x
def bo {α : Type} (v : Int32) (x : Option α) : Option α := if v = 0 ∨ v = 1 then x else none
def cl {α β : Type} (x : Option β) (f : β → Option α) : Option α := match x with | none => none | some r => f r
def cs {α β : Type} (x : Option (β × ES)) (f : β → ES → Option α) : Option α := match x with | none => none | some q => f q.1 q.2
def lt {α β : Type} (x : β) (f : β → Option α) : Option α := f x
def FU : Nat := 100000
theorem rd_some {α : Type} {σ : ES} {k n : Nat} {i : Int32} {f : Int32 → Option α} {o : α} (h : rd σ k n i f = some o) : vp_in i n ∧ ∃ v, v = σ.1 k i.toNatClampNeg ∧ f v = some o := by
  unfold rd at h
  by_cases c : i < 0 ∨ n ≤ i.toNatClampNeg
  · rw [if_pos c] at h; cases h
  · rw [if_neg c] at h; exact ⟨c, _, rfl, h⟩
theorem rdL_some {α : Type} {σ : ES} {k n : Nat} {i : Int32} {f : Int64 → Option α} {o : α} (h : rdL σ k n i f = some o) : vp_in i n ∧ ∃ v, v = σ.2 k i.toNatClampNeg ∧ f v = some o := by
  unfold rdL at h
  by_cases c : i < 0 ∨ n ≤ i.toNatClampNeg
  · rw [if_pos c] at h; cases h
  · rw [if_neg c] at h; exact ⟨c, _, rfl, h⟩
theorem wr_some {α : Type} {σ : ES} {k n : Nat} {i v : Int32} {f : ES → Option α} {o : α} (h : wr σ k n i v f = some o) : vp_in i n ∧ ∃ τ, τ = wI σ k i.toNatClampNeg v ∧ f τ = some o := by
  unfold wr at h
  by_cases c : i < 0 ∨ n ≤ i.toNatClampNeg
  · rw [if_pos c] at h; cases h
  · rw [if_neg c] at h; exact ⟨c, _, rfl, h⟩
theorem wrL_some {α : Type} {σ : ES} {k n : Nat} {i : Int32} {v : Int64} {f : ES → Option α} {o : α} (h : wrL σ k n i v f = some o) : vp_in i n ∧ ∃ τ, τ = wL σ k i.toNatClampNeg v ∧ f τ = some o := by
  unfold wrL at h
  by_cases c : i < 0 ∨ n ≤ i.toNatClampNeg
  · rw [if_pos c] at h; cases h
  · rw [if_neg c] at h; exact ⟨c, _, rfl, h⟩
theorem rt_some {α : Type} {t : Nat → Int32} {n : Nat} {i : Int32} {f : Int32 → Option α} {o : α} (h : rt t n i f = some o) : vp_in i n ∧ ∃ v, v = t i.toNatClampNeg ∧ f v = some o := by
  unfold rt at h
  by_cases c : i < 0 ∨ n ≤ i.toNatClampNeg
  · rw [if_pos c] at h; cases h
  · rw [if_neg c] at h; exact ⟨c, _, rfl, h⟩
theorem dv_some {α : Type} {y : Int32} {x : Option α} {o : α} (h : dv y x = some o) : (¬ y = 0) ∧ x = some o := by
  unfold dv at h
  by_cases c : y = 0
  · rw [if_pos c] at h; cases h
  · rw [if_neg c] at h; exact ⟨c, h⟩
theorem dvL_some {α : Type} {y : Int64} {x : Option α} {o : α} (h : dvL y x = some o) : (¬ y = 0) ∧ x = some o := by
  unfold dvL at h
  by_cases c : y = 0
  · rw [if_pos c] at h; cases h
  · rw [if_neg c] at h; exact ⟨c, h⟩
theorem bo_some {α : Type} {v : Int32} {x : Option α} {o : α} (h : bo v x = some o) : (v = 0 ∨ v = 1) ∧ x = some o := by
  unfold bo at h
  by_cases c : v = 0 ∨ v = 1
  · rw [if_pos c] at h; exact ⟨c, h⟩
  · rw [if_neg c] at h; cases h
theorem bo_nar {v : Int32} (h : v = 0 ∨ v = 1) : narrow .boolean (.int v) = .int v := by
  rcases h with rfl | rfl <;> rfl
theorem cl_some {α β : Type} {x : Option β} {f : β → Option α} {o : α} (h : cl x f = some o) : ∃ r, x = some r ∧ f r = some o := by
  cases x with
  | none => cases h
  | some r => exact ⟨r, rfl, h⟩
theorem cs_some {α β : Type} {x : Option (β × ES)} {f : β → ES → Option α} {o : α} (h : cs x f = some o) : ∃ r σ, x = some (r, σ) ∧ f r σ = some o := by
  cases x with
  | none => cases h
  | some q => exact ⟨q.1, q.2, rfl, h⟩
theorem lt_some {α β : Type} {x : β} {f : β → Option α} {o : α} (h : lt x f = some o) : ∃ v, v = x ∧ f v = some o := ⟨x, rfl, h⟩
theorem ifp {c : Prop} [Decidable c] {α : Type} {a b : Option α} {o : α} (hc : c) (h : (if c then a else b) = some o) : a = some o := by rw [if_pos hc] at h; exact h
theorem ifn {c : Prop} [Decidable c] {α : Type} {a b : Option α} {o : α} (hc : ¬ c) (h : (if c then a else b) = some o) : b = some o := by rw [if_neg hc] at h; exact h
theorem pr_inj {α : Type} {a b : α} {σ τ : ES} (h : some (a, σ) = some (b, τ)) : b = a ∧ τ = σ := by cases h; exact ⟨rfl, rfl⟩
theorem so_inj {α : Type} {a b : α} (h : some a = some b) : b = a := by cases h; rfl
theorem no_some {α : Type} {o : α} {P : Prop} (h : none = some o) : P := by cases h
-- the class's and the reference's common ground
def xtys (cy : Nat → ClassId) : List (ClassId × FieldType) := [(cy 0, .int), (cy 1, .long), (cy 2, .boolean)]
def tens : Nat → Int32 := fun j => ([1, 10, 100, 1000, 10000, 100000, 1000000, 10000000, 100000000] : List Int32).getD j 0
def facs : Nat → Int32 := fun j => ([1, 1, 2, 6, 24] : List Int32).getD j 0
abbrev wdN1 : Cond := .fieldLinkNest RX4 135 RX7 "FACTORIALS" "[I" RX7
abbrev wdN2 : Cond := .methodLinkNest RX5 16 yX7_figure RX7
def xT (tT tF : Nat) (A : Nat → Prop) (U : State) (H : Heap) : Prop := va_Z RX7 "TENS" "[I" (.ref tT) A U H ∧ va_T .int tT 9 (fun j => .int (tens j)) A U H ∧ va_Z RX7 "FACTORIALS" "[I" (.ref tF) A U H ∧ va_T .int tF 5 (fun j => .int (facs j)) A U H ∧ va_Nw wdN1 U ∧ va_Nw wdN2 U
theorem xT.same {tT tF : Nat} {A : Nat → Prop} {u U : State} {H : Heap} (hvm : u.vm = U.vm) (h : xT tT tF A u H) : xT tT tF A U H := by
  obtain ⟨h1, h2, h3, h4, h5, h6⟩ := h
  have a : u.vm.Alike U.vm := by rw [hvm]; exact Vm.Alike.refl _
  exact ⟨va_Z.moved a h1, va_T.moved a h2, va_Z.moved a h3, va_T.moved a h4, va_Nw.same rfl hvm h5, va_Nw.same rfl hvm h6⟩
theorem xT.at {tT tF : Nat} {A B : Nat → Prop} {s U : State} {H : Heap} (hk : ∀ a : Nat, a < s.heap.size → ¬ A a → H[a]? = s.heap[a]?) (hB : ∀ q, B q → A q) (hU : U.heap = H) (hW : s.WarmedH U.vm) (h : xT tT tF A s s.heap) : xT tT tF B U U.heap := by
  obtain ⟨h1, h2, h3, h4, h5, h6⟩ := h
  rw [hU]
  exact ⟨va_Z.moved hW.alike ((h1.kept hk).narrow hB), va_T.moved hW.alike ((h2.kept hk).narrow hB), va_Z.moved hW.alike ((h3.kept hk).narrow hB), va_T.moved hW.alike ((h4.kept hk).narrow hB), va_Nw.warmF hW h5, va_Nw.warmM hW h6⟩
def cP (D : va_G) (cy : Nat → ClassId) (tT tF : Nat) (ws : va_W) (sz : Nat) (U : State) : Prop := U.heap.size = sz ∧ va_P D vwCl ws U.heap ∧ va_K D vwCl (xtys cy) U ∧ va_D (fun _ => True) ws ∧ xT tT tF (va_A ws sz) U U.heap
def cB (D : va_G) (cy : Nat → ClassId) (A : Nat → Prop) (ws : va_W) (t : State) : Prop := va_P D vwCl ws t.heap ∧ va_K D vwCl (xtys cy) t ∧ va_D A ws
abbrev Qi (D : va_G) (cy : Nat → ClassId) (A : Nat → Prop) (r : Int32) (ws : va_W) : Array Value → State → Outcome → State → Prop := va_Qi (fun x (_ : Unit) => x = r) (fun _ t => cB D cy A ws t) A
abbrev Ql (D : va_G) (cy : Nat → ClassId) (A : Nat → Prop) (r : Int64) (ws : va_W) : Array Value → State → Outcome → State → Prop := va_Ql (fun x (_ : Unit) => x = r) (fun _ t => cB D cy A ws t) A
abbrev Qv (D : va_G) (cy : Nat → ClassId) (A : Nat → Prop) (ws : va_W) : Array Value → State → Outcome → State → Prop := va_Qv (fun (_ : Unit) => True) (fun _ t => cB D cy A ws t) A
def CMi (l : Launch) (y : MethodName) (wd : List Cond) (rm : Room) (D : va_G) (cy : Nat → ClassId) (tT tF : Nat) (av : List Value) (ws : va_W) (r : Int32) (ws' : va_W) : Prop := ∀ sz : Nat, Met l y wd rm (va_Pc av (cP D cy tT tF ws sz)) (Qi D cy (va_A ws sz) r ws') 0 0 (va_A ws sz)
def CMl (l : Launch) (y : MethodName) (wd : List Cond) (rm : Room) (D : va_G) (cy : Nat → ClassId) (tT tF : Nat) (av : List Value) (ws : va_W) (r : Int64) (ws' : va_W) : Prop := ∀ sz : Nat, Met l y wd rm (va_Pc av (cP D cy tT tF ws sz)) (Ql D cy (va_A ws sz) r ws') 0 0 (va_A ws sz)
def CMv (l : Launch) (y : MethodName) (wd : List Cond) (rm : Room) (D : va_G) (cy : Nat → ClassId) (tT tF : Nat) (av : List Value) (ws : va_W) (ws' : va_W) : Prop := ∀ sz : Nat, Met l y wd rm (va_Pc av (cP D cy tT tF ws sz)) (Qv D cy (va_A ws sz) ws') 0 0 (va_A ws sz)
theorem G_good : GoodIn wsL_law wsL_law := fun w h => ⟨h, (wsL_law_gd w h).2⟩
theorem gV {own : String} {idx : Nat} {Cn : String} {y : MethodName} {bytes : ByteArray} {maxL : Nat} {ret : Option FieldType} (h1 : Cond.methodLink own idx y ∈ wsL_law) (h2 : Cond.instanceMethod y ∈ wsL_law) (h3 : Cond.selects Cn y y ∈ wsL_law) (h4 : Cond.initialized Cn ∈ wsL_law) (h5 : Cond.code y bytes maxL ret ∈ wsL_law) : GoodIn wsL_law (wsV own idx Cn y (Cond.code y bytes maxL ret :: wsL_law)) := by
  intro w hw
  unfold wsV at hw
  rcases List.mem_append.mp hw with hw | hw
  · rcases List.mem_cons.mp hw with rfl | hw
    · exact G_good _ h1
    rcases List.mem_cons.mp hw with rfl | hw
    · exact G_good _ h2
    rcases List.mem_cons.mp hw with rfl | hw
    · exact G_good _ h3
    rcases List.mem_cons.mp hw with rfl | hw
    · exact G_good _ h4
    · cases hw
  · rcases List.mem_cons.mp hw with rfl | hw
    · exact G_good _ h5
    · exact G_good _ hw
theorem gC {c : Cond} (h5 : c ∈ wsL_law) : GoodIn wsL_law (c :: wsL_law) := by
  intro w hw
  rcases List.mem_cons.mp hw with rfl | hw
  · exact G_good _ h5
  · exact G_good _ hw
theorem gS {own : String} {idx : Nat} {y : MethodName} {bytes : ByteArray} {maxL : Nat} {ret : Option FieldType} (h1 : Cond.methodLink own idx y ∈ wsL_law) (h2 : Cond.static y ∈ wsL_law) (h4 : Cond.initialized y.cls ∈ wsL_law) (h5 : Cond.code y bytes maxL ret ∈ wsL_law) : GoodIn wsL_law (va_wsS own idx y (Cond.code y bytes maxL ret :: wsL_law)) := by
  intro w hw
  unfold va_wsS at hw
  rcases List.mem_append.mp hw with hw | hw
  · rcases List.mem_cons.mp hw with rfl | hw
    · exact G_good _ h1
    rcases List.mem_cons.mp hw with rfl | hw
    · exact G_good _ h2
    rcases List.mem_cons.mp hw with rfl | hw
    · exact G_good _ h4
    · cases hw
  · exact gC h5 w hw
/-- the fixed things of a walk: the machine and the code, the classes, the tables, which cells may change -/
def Cx (p : Program) (s : State) (m : MethodId) (args : Array Value) (meth : Method) (c : Code) (D : va_G) (cy : Nat → ClassId) (tT tF : Nat) (A : Nat → Prop) (cc : ByteArray) (nL : Nat) (own : String) : Prop := CallFix p m c cc nL s args wsL_law own ∧ va_K D vwCl (xtys cy) s ∧ xT tT tF A s s.heap ∧ (∀ q : Nat, s.heap.size ≤ q → A q) ∧ meth.locks = false
theorem cP_blind {D : va_G} {cy : Nat → ClassId} {tT tF : Nat} {av : List Value} {ws : va_W} {sz : Nat} : FrameBlind (va_Pc av (cP D cy tT tF ws sz)) := by
  intro a U g mk q
  obtain ⟨q0, q1, qP, qK, qD, qT⟩ := q
  exact ⟨q0, q1, qP, va_K.moved (u := U) (U := U.calling g mk a) (Vm.Alike.refl U.vm) qK, qD, xT.same (u := U) (U := U.calling g mk a) rfl qT⟩
section OWN
variable {p : Program} {l : Launch} {e : Env} {R : Room} {s : State} {m : MethodId} {args : Array Value} {below : List Frame} {meth : Method} {c : Code} {H : Heap} {locs : List Loc} {cells slots : Nat} {Q : State → Prop}
variable {D : va_G} {cy : Nat → ClassId} {tT tF : Nat} {A : Nat → Prop} {cc bytes : ByteArray} {nL maxL n index pc : Nat} {own Cn host : String} {y : MethodName} {ret : Option FieldType} {wd wd' : List Cond} {rm : Room} {ls : Array Slot} {As rest st0 : List Value} {b : Nat} {ws ws' : va_W} {r : Int32} {rl : Int64}
theorem own_free (hD : va_D A ws) (hS : va_S A s.heap H locs) (hA : ∀ q : Nat, s.heap.size ≤ q → A q) : ∀ q, va_A ws H.size q → A q := by
  intro q h
  rcases h with ⟨k, e, h⟩ | h
  · exact hD.2 k (q, e) h
  · exact hA q (Nat.le_trans hS.1 h)
theorem own_pre (C : Cx p s m args meth c D cy tT tF A cc nL own) (hP : va_P D vwCl ws H) (hD : va_D A ws) (hS : va_S A s.heap H locs) (av : List Value) : ∀ U : State, U.heap = H → s.WarmedH U.vm → va_Pc av (cP D cy tT tF ws H.size) av.toArray U := by
  obtain ⟨-, hK, hT, hA, -⟩ := C
  intro U hU hW
  exact ⟨rfl, by rw [hU], by rw [hU]; exact hP, va_K.moved hW.alike hK, hD.weaken (fun _ _ _ _ => trivial), xT.at hS.2.1 (own_free hD hS hA) hU hW hT⟩
theorem x_iret (C : Cx p s m args meth c D cy tT tF A cc nL own) (hr : meth.sig.returnType = some .int) (hP : va_P D vwCl ws H) (hD : va_D A ws) (hS : va_S A s.heap H locs) (hdg : decode cc pc = .ok (.ireturn, 1)) : W p l e R s m args below meth c H locs 0 0 (MQ below (Qi D cy A r ws) args s 0 0 A) (F0 m pc ls [.int r]) := by
  obtain ⟨⟨hx, hb, hml, hown, hts⟩, hK, hT, hA, hlocks⟩ := C
  exact W.iret (v := r) hx hb hr (fun t ht hW => ⟨⟨r, (), rfl, rfl, by rw [ht]; exact hP, va_K.moved hW.alike hK, hD⟩, hS.F ht⟩) hS.2.2 hdg
theorem x_zret (C : Cx p s m args meth c D cy tT tF A cc nL own) (hr : meth.sig.returnType = some .boolean) (hn : narrow .boolean (.int r) = .int r) (hP : va_P D vwCl ws H) (hD : va_D A ws) (hS : va_S A s.heap H locs) (hdg : decode cc pc = .ok (.ireturn, 1)) : W p l e R s m args below meth c H locs 0 0 (MQ below (Qi D cy A r ws) args s 0 0 A) (F0 m pc ls [.int r]) := by
  obtain ⟨⟨hx, hb, hml, hown, hts⟩, hK, hT, hA, hlocks⟩ := C
  exact W.zret (v := r) hx hb hr hn (fun t ht hW => ⟨⟨r, (), rfl, rfl, by rw [ht]; exact hP, va_K.moved hW.alike hK, hD⟩, hS.F ht⟩) hS.2.2 hdg
theorem x_lret (C : Cx p s m args meth c D cy tT tF A cc nL own) (hr : meth.sig.returnType = some .long) (hP : va_P D vwCl ws H) (hD : va_D A ws) (hS : va_S A s.heap H locs) (hdg : decode cc pc = .ok (.lreturn, 1)) : W p l e R s m args below meth c H locs 0 0 (MQ below (Ql D cy A rl ws) args s 0 0 A) (F0 m pc ls [.long rl]) := by
  obtain ⟨⟨hx, hb, hml, hown, hts⟩, hK, hT, hA, hlocks⟩ := C
  exact W.lret (v := rl) hx hb hr (fun t ht hW => ⟨⟨rl, (), rfl, rfl, by rw [ht]; exact hP, va_K.moved hW.alike hK, hD⟩, hS.F ht⟩) hS.2.2 hdg
theorem x_vret (C : Cx p s m args meth c D cy tT tF A cc nL own) (hr : meth.sig.returnType = none) (hP : va_P D vwCl ws H) (hD : va_D A ws) (hS : va_S A s.heap H locs) (hdg : decode cc pc = .ok (.return_, 1)) : W p l e R s m args below meth c H locs 0 0 (MQ below (Qv D cy A ws) args s 0 0 A) (F0 m pc ls []) := by
  obtain ⟨⟨hx, hb, hml, hown, hts⟩, hK, hT, hA, hlocks⟩ := C
  exact W.vret hx hb hr (fun t ht hW => ⟨⟨(), rfl, trivial, by rw [ht]; exact hP, va_K.moved hW.alike hK, hD⟩, hS.F ht⟩) hS.2.2 hdg
theorem x_callVi (C : Cx p s m args meth c D cy tT tF A cc nL own) (hP : va_P D vwCl ws H) (hD : va_D A ws) (hS : va_S A s.heap H locs) (hM : CMi l y wd rm D cy tT tF (.ref b :: As) ws r ws') (cw : CallW R s args own Cn index y bytes maxL ret wd rm 0 0 n) {q0 ci : Nat} {fs : List Value} {T : u_T} {N : Nat} (he : ws[q0]? = some (b, .inr (ci, fs))) (hc : vwCl[ci]? = some (Cn, T, N)) (hn : As.length = n) (hsz : ls.size = nL) (hst : st0 = As.reverse ++ .ref b :: rest) (hcat : (rest.map fun v => v.category).sum ≤ 8) (hdg : decode cc pc = .ok (.invokevirtual index, 3)) (hf : cells ≤ R.cells ∧ slots ≤ R.slots)
    (kk : ∀ (H1 : Heap) (locs1 : List Loc), va_P D vwCl ws' H1 → va_D A ws' → va_S A s.heap H1 locs1 → W p l e R s m args below meth c H1 locs1 cells slots Q (F0 m (pc + 3) ls (.int r :: rest))) : W p l e R s m args below meth c H locs cells slots Q (F0 m pc ls st0) := by
  obtain ⟨CF, hK, hT, hA, hlocks⟩ := id C
  have hF := own_free hD hS hA
  refine va_calli (va_runV CF (hM H.size) cw ⟨cP_blind, va_recv hK hP hc he, own_pre C hP hD hS _⟩ rfl hn hsz hst (lv_room hcat) hdg hf) hS (fun q _ h => hF q h) hF (fun r1 u t H1 locs1 ht hvm hpost hB hz hk hS1 => ?_)
  subst hpost
  obtain ⟨hP1, hK1, hD1⟩ := hB
  rw [ht] at hP1
  exact kk H1 locs1 hP1 (hD1.weaken (fun _ q _ hq => hF q.1 hq)) hS1
theorem x_callVl (C : Cx p s m args meth c D cy tT tF A cc nL own) (hP : va_P D vwCl ws H) (hD : va_D A ws) (hS : va_S A s.heap H locs) (hM : CMl l y wd rm D cy tT tF (.ref b :: As) ws rl ws') (cw : CallW R s args own Cn index y bytes maxL ret wd rm 0 0 n) {q0 ci : Nat} {fs : List Value} {T : u_T} {N : Nat} (he : ws[q0]? = some (b, .inr (ci, fs))) (hc : vwCl[ci]? = some (Cn, T, N)) (hn : As.length = n) (hsz : ls.size = nL) (hst : st0 = As.reverse ++ .ref b :: rest) (hcat : (rest.map fun v => v.category).sum ≤ 8) (hdg : decode cc pc = .ok (.invokevirtual index, 3)) (hf : cells ≤ R.cells ∧ slots ≤ R.slots)
    (kk : ∀ (H1 : Heap) (locs1 : List Loc), va_P D vwCl ws' H1 → va_D A ws' → va_S A s.heap H1 locs1 → W p l e R s m args below meth c H1 locs1 cells slots Q (F0 m (pc + 3) ls (.long rl :: rest))) : W p l e R s m args below meth c H locs cells slots Q (F0 m pc ls st0) := by
  obtain ⟨CF, hK, hT, hA, hlocks⟩ := id C
  have hF := own_free hD hS hA
  refine va_calll (va_runV CF (hM H.size) cw ⟨cP_blind, va_recv hK hP hc he, own_pre C hP hD hS _⟩ rfl hn hsz hst (lv_room hcat) hdg hf) hS (fun q _ h => hF q h) hF (fun r1 u t H1 locs1 ht hvm hpost hB hz hk hS1 => ?_)
  subst hpost
  obtain ⟨hP1, hK1, hD1⟩ := hB
  rw [ht] at hP1
  exact kk H1 locs1 hP1 (hD1.weaken (fun _ q _ hq => hF q.1 hq)) hS1
theorem x_callVv (C : Cx p s m args meth c D cy tT tF A cc nL own) (hP : va_P D vwCl ws H) (hD : va_D A ws) (hS : va_S A s.heap H locs) (hM : CMv l y wd rm D cy tT tF (.ref b :: As) ws ws') (cw : CallW R s args own Cn index y bytes maxL ret wd rm 0 0 n) {q0 ci : Nat} {fs : List Value} {T : u_T} {N : Nat} (he : ws[q0]? = some (b, .inr (ci, fs))) (hc : vwCl[ci]? = some (Cn, T, N)) (hn : As.length = n) (hsz : ls.size = nL) (hst : st0 = As.reverse ++ .ref b :: rest) (hcat : (rest.map fun v => v.category).sum ≤ 8) (hdg : decode cc pc = .ok (.invokevirtual index, 3)) (hf : cells ≤ R.cells ∧ slots ≤ R.slots)
    (kk : ∀ (H1 : Heap) (locs1 : List Loc), va_P D vwCl ws' H1 → va_D A ws' → va_S A s.heap H1 locs1 → W p l e R s m args below meth c H1 locs1 cells slots Q (F0 m (pc + 3) ls rest)) : W p l e R s m args below meth c H locs cells slots Q (F0 m pc ls st0) := by
  obtain ⟨CF, hK, hT, hA, hlocks⟩ := id C
  have hF := own_free hD hS hA
  refine va_callv (va_runV CF (hM H.size) cw ⟨cP_blind, va_recv hK hP hc he, own_pre C hP hD hS _⟩ rfl hn hsz hst (lv_room hcat) hdg hf) hS (fun q _ h => hF q h) hF (fun u t H1 locs1 ht hvm hpost hB hz hk hS1 => ?_)
  obtain ⟨hP1, hK1, hD1⟩ := hB
  rw [ht] at hP1
  exact kk H1 locs1 hP1 (hD1.weaken (fun _ q _ hq => hF q.1 hq)) hS1
theorem x_callSi (C : Cx p s m args meth c D cy tT tF A cc nL own) (hP : va_P D vwCl ws H) (hD : va_D A ws) (hS : va_S A s.heap H locs) (hM : CMi l y wd rm D cy tT tF As ws r ws') (cw : CallB R s args own index y bytes maxL ret wd rm 0 0 n ∧ (Cond.static y).before args s = true) (hn : As.length = n) (hsz : ls.size = nL) (hst : st0 = As.reverse ++ rest) (hcat : (rest.map fun v => v.category).sum ≤ 8) (hdg : decode cc pc = .ok (.invokestatic index, 3)) (hf : cells ≤ R.cells ∧ slots ≤ R.slots)
    (kk : ∀ (H1 : Heap) (locs1 : List Loc), va_P D vwCl ws' H1 → va_D A ws' → va_S A s.heap H1 locs1 → W p l e R s m args below meth c H1 locs1 cells slots Q (F0 m (pc + 3) ls (.int r :: rest))) : W p l e R s m args below meth c H locs cells slots Q (F0 m pc ls st0) := by
  obtain ⟨CF, hK, hT, hA, hlocks⟩ := id C
  have hF := own_free hD hS hA
  refine va_calli (va_runS CF (hM H.size) cw ⟨cP_blind, own_pre C hP hD hS _⟩ rfl hn hsz hst (lv_room hcat) hdg hf) hS (fun q _ h => hF q h) hF (fun r1 u t H1 locs1 ht hvm hpost hB hz hk hS1 => ?_)
  subst hpost
  obtain ⟨hP1, hK1, hD1⟩ := hB
  rw [ht] at hP1
  exact kk H1 locs1 hP1 (hD1.weaken (fun _ q _ hq => hF q.1 hq)) hS1
theorem x_callSv (C : Cx p s m args meth c D cy tT tF A cc nL own) (hP : va_P D vwCl ws H) (hD : va_D A ws) (hS : va_S A s.heap H locs) (hM : CMv l y wd rm D cy tT tF As ws ws') (cw : CallB R s args own index y bytes maxL ret wd rm 0 0 n ∧ (Cond.static y).before args s = true) (hn : As.length = n) (hsz : ls.size = nL) (hst : st0 = As.reverse ++ rest) (hcat : (rest.map fun v => v.category).sum ≤ 8) (hdg : decode cc pc = .ok (.invokestatic index, 3)) (hf : cells ≤ R.cells ∧ slots ≤ R.slots)
    (kk : ∀ (H1 : Heap) (locs1 : List Loc), va_P D vwCl ws' H1 → va_D A ws' → va_S A s.heap H1 locs1 → W p l e R s m args below meth c H1 locs1 cells slots Q (F0 m (pc + 3) ls rest)) : W p l e R s m args below meth c H locs cells slots Q (F0 m pc ls st0) := by
  obtain ⟨CF, hK, hT, hA, hlocks⟩ := id C
  have hF := own_free hD hS hA
  refine va_callv (va_runS CF (hM H.size) cw ⟨cP_blind, own_pre C hP hD hS _⟩ rfl hn hsz hst (lv_room hcat) hdg hf) hS (fun q _ h => hF q h) hF (fun u t H1 locs1 ht hvm hpost hB hz hk hS1 => ?_)
  obtain ⟨hP1, hK1, hD1⟩ := hB
  rw [ht] at hP1
  exact kk H1 locs1 hP1 (hD1.weaken (fun _ q _ hq => hF q.1 hq)) hS1
theorem x_callNi (C : Cx p s m args meth c D cy tT tF A cc nL own) (hP : va_P D vwCl ws H) (hD : va_D A ws) (hS : va_S A s.heap H locs) (hM : CMi l y wd rm D cy tT tF As ws r ws') (cw : va_CN R s args own index y host bytes maxL ret wd rm 0 0 n ∧ (Cond.static y).before args s = true ∧ True) (hn : As.length = n) (hsz : ls.size = nL) (hst : st0 = As.reverse ++ rest) (hcat : (rest.map fun v => v.category).sum ≤ 8) (hdg : decode cc pc = .ok (.invokestatic index, 3)) (hf : cells ≤ R.cells ∧ slots ≤ R.slots)
    (kk : ∀ (H1 : Heap) (locs1 : List Loc), va_P D vwCl ws' H1 → va_D A ws' → va_S A s.heap H1 locs1 → W p l e R s m args below meth c H1 locs1 cells slots Q (F0 m (pc + 3) ls (.int r :: rest))) : W p l e R s m args below meth c H locs cells slots Q (F0 m pc ls st0) := by
  obtain ⟨CF, hK, hT, hA, hlocks⟩ := id C
  have hF := own_free hD hS hA
  refine va_calli (va_runSN CF (hM H.size) cw ⟨cP_blind, own_pre C hP hD hS _⟩ rfl hn hsz hst (lv_room hcat) hdg hf) hS (fun q _ h => hF q h) hF (fun r1 u t H1 locs1 ht hvm hpost hB hz hk hS1 => ?_)
  subst hpost
  obtain ⟨hP1, hK1, hD1⟩ := hB
  rw [ht] at hP1
  exact kk H1 locs1 hP1 (hD1.weaken (fun _ q _ hq => hF q.1 hq)) hS1
theorem x_get (C : Cx p s m args meth c D cy tT tF A cc nL own) (hP : va_P D vwCl ws H) {Cl : String} {T : u_T} {N ci : Nat} (hin : ∀ w ∈ u_ws Cl T N, w ∈ wsL_law) (q0 : Nat) {fs : List Value} (he : ws[q0]? = some (b, .inr (ci, fs))) (hc : vwCl[ci]? = some (Cl, T, N)) (k : Nat) (hk : k < N) (hlink : Cond.fieldLink own index (T k).1 (T k).2.1 (T k).2.2.1 ∈ wsL_law) {v : Value} (hv : fs[k]? = some v) (hdg : decode cc pc = .ok (.getfield index, 3))
    (kk : W p l e R s m args below meth c H locs cells slots Q (F0 m (pc + 3) ls (v :: rest))) : W p l e R s m args below meth c H locs cells slots Q (F0 m pc ls (.ref b :: rest)) := by
  obtain ⟨⟨hx, hb, hml, hown, hts⟩, hK, hT, hA, hlocks⟩ := C
  exact va_get hx hb hts hin hown hK hP q0 he hc k hk (hts _ hlink) (fun _ h => h) hv hdg kk
theorem x_put (C : Cx p s m args meth c D cy tT tF A cc nL own) (hP : va_P D vwCl ws H) (hD : va_D A ws) (hS : va_S A s.heap H locs) {Cl : String} {T : u_T} {N ci : Nat} (hin : ∀ w ∈ u_ws Cl T N, w ∈ wsL_law) (ty0 : Nat → FieldType) (hty : ∀ k, k < N → parseFieldDescriptor (T k).2.2.1 = some (ty0 k)) (hnm : ∀ a, a < N → ∀ b, b < N → a ≠ b → (T a).2.1 ≠ (T b).2.1) (q0 : Nat) {fs : List Value} (he : ws[q0]? = some (b, .inr (ci, fs))) (hc : vwCl[ci]? = some (Cl, T, N)) (k : Nat) (hk : k < N) (hlink : Cond.fieldLink own index (T k).1 (T k).2.1 (T k).2.2.1 ∈ wsL_law) (hfin : (T k).2.2.2 = false) {v : Value} (hn : narrow (ty0 k) v = v) (hfit : fits (ty0 k) v = true) (hl : k < fs.length) (hset : ws.set q0 (b, .inr (ci, fs.set k v)) = ws') (hdg : decode cc pc = .ok (.putfield index, 3))
    (kk : ∀ (H1 : Heap) (locs1 : List Loc), va_P D vwCl ws' H1 → va_D A ws' → va_S A s.heap H1 locs1 → W p l e R s m args below meth c H1 locs1 cells slots Q (F0 m (pc + 3) ls rest)) : W p l e R s m args below meth c H locs cells slots Q (F0 m pc ls (v :: .ref b :: rest)) := by
  obtain ⟨⟨hx, hb, hml, hown, hts⟩, hK, hT, hA, hlocks⟩ := C
  subst hset
  exact va_put hx hb hts hin ty0 hty hnm hown hK hP hD hS q0 he hc k hk (hts _ hlink) (fun _ h => h) hfin (hty k hk) hn hfit hl hdg kk
theorem x_ild (C : Cx p s m args meth c D cy tT tF A cc nL own) (hP : va_P D vwCl ws H) (q0 : Nat) {n0 : Nat} {f : Nat → Int32} (ha : ws[q0]? = some (b, .inl (cy 0, n0, .inl f))) {i : Int32} {v : Int32} (hin : vp_in i n0) (hv : v = f i.toNatClampNeg) (hdg : decode cc pc = .ok (.iaload, 1))
    (kk : W p l e R s m args below meth c H locs cells slots Q (F0 m (pc + 1) ls (.int v :: rest))) : W p l e R s m args below meth c H locs cells slots Q (F0 m pc ls (.int i :: .ref b :: rest)) := by
  subst hv
  obtain ⟨⟨hx, hb, hml, hown, hts⟩, hK, hT, hA, hlocks⟩ := C
  exact va_iald hx hb hK hP q0 0 ha rfl hin hdg kk
theorem x_zld (C : Cx p s m args meth c D cy tT tF A cc nL own) (hP : va_P D vwCl ws H) (q0 : Nat) {n0 : Nat} {f : Nat → Int32} (ha : ws[q0]? = some (b, .inl (cy 2, n0, .inl f))) {i : Int32} {v : Int32} (hin : vp_in i n0) (hv : v = f i.toNatClampNeg) (hdg : decode cc pc = .ok (.baload, 1))
    (kk : W p l e R s m args below meth c H locs cells slots Q (F0 m (pc + 1) ls (.int v :: rest))) : W p l e R s m args below meth c H locs cells slots Q (F0 m pc ls (.int i :: .ref b :: rest)) := by
  subst hv
  obtain ⟨⟨hx, hb, hml, hown, hts⟩, hK, hT, hA, hlocks⟩ := C
  exact va_zald hx hb hK hP q0 2 ha rfl hin hdg kk
theorem x_lld (C : Cx p s m args meth c D cy tT tF A cc nL own) (hP : va_P D vwCl ws H) (q0 : Nat) {n0 : Nat} {f : Nat → Int64} (ha : ws[q0]? = some (b, .inl (cy 1, n0, .inr (.inl f)))) {i : Int32} {v : Int64} (hin : vp_in i n0) (hv : v = f i.toNatClampNeg) (hdg : decode cc pc = .ok (.laload, 1))
    (kk : W p l e R s m args below meth c H locs cells slots Q (F0 m (pc + 1) ls (.long v :: rest))) : W p l e R s m args below meth c H locs cells slots Q (F0 m pc ls (.int i :: .ref b :: rest)) := by
  subst hv
  obtain ⟨⟨hx, hb, hml, hown, hts⟩, hK, hT, hA, hlocks⟩ := C
  exact va_lald hx hb hK hP q0 1 ha rfl hin hdg kk
theorem x_ist (C : Cx p s m args meth c D cy tT tF A cc nL own) (hP : va_P D vwCl ws H) (hD : va_D A ws) (hS : va_S A s.heap H locs) (q0 : Nat) {n0 : Nat} {f : Nat → Int32} (ha : ws[q0]? = some (b, .inl (cy 0, n0, .inl f))) {i v : Int32} (hin : vp_in i n0) (hset : ws.set q0 (b, .inl (cy 0, n0, .inl (upd f i.toNatClampNeg v))) = ws') (hdg : decode cc pc = .ok (.iastore, 1))
    (kk : ∀ (H1 : Heap) (locs1 : List Loc), va_P D vwCl ws' H1 → va_D A ws' → va_S A s.heap H1 locs1 → W p l e R s m args below meth c H1 locs1 cells slots Q (F0 m (pc + 1) ls rest)) : W p l e R s m args below meth c H locs cells slots Q (F0 m pc ls (.int v :: .int i :: .ref b :: rest)) := by
  obtain ⟨⟨hx, hb, hml, hown, hts⟩, hK, hT, hA, hlocks⟩ := C
  subst hset
  exact va_iast hx hb hK hP hD hS q0 0 ha rfl hin hdg kk
theorem x_zst (C : Cx p s m args meth c D cy tT tF A cc nL own) (hP : va_P D vwCl ws H) (hD : va_D A ws) (hS : va_S A s.heap H locs) (q0 : Nat) {n0 : Nat} {f : Nat → Int32} (ha : ws[q0]? = some (b, .inl (cy 2, n0, .inl f))) {i v : Int32} (hin : vp_in i n0) (hv : vp_nar .boolean v = v) (hset : ws.set q0 (b, .inl (cy 2, n0, .inl (upd f i.toNatClampNeg v))) = ws') (hdg : decode cc pc = .ok (.bastore, 1))
    (kk : ∀ (H1 : Heap) (locs1 : List Loc), va_P D vwCl ws' H1 → va_D A ws' → va_S A s.heap H1 locs1 → W p l e R s m args below meth c H1 locs1 cells slots Q (F0 m (pc + 1) ls rest)) : W p l e R s m args below meth c H locs cells slots Q (F0 m pc ls (.int v :: .int i :: .ref b :: rest)) := by
  obtain ⟨⟨hx, hb, hml, hown, hts⟩, hK, hT, hA, hlocks⟩ := C
  subst hset
  refine va_zast hx hb hK hP hD hS q0 2 ha rfl hin hdg ?_
  rw [hv]
  exact kk
theorem x_lst (C : Cx p s m args meth c D cy tT tF A cc nL own) (hP : va_P D vwCl ws H) (hD : va_D A ws) (hS : va_S A s.heap H locs) (q0 : Nat) {n0 : Nat} {f : Nat → Int64} (ha : ws[q0]? = some (b, .inl (cy 1, n0, .inr (.inl f)))) {i : Int32} {v : Int64} (hin : vp_in i n0) (hset : ws.set q0 (b, .inl (cy 1, n0, .inr (.inl (vp_updL f i.toNatClampNeg v)))) = ws') (hdg : decode cc pc = .ok (.lastore, 1))
    (kk : ∀ (H1 : Heap) (locs1 : List Loc), va_P D vwCl ws' H1 → va_D A ws' → va_S A s.heap H1 locs1 → W p l e R s m args below meth c H1 locs1 cells slots Q (F0 m (pc + 1) ls rest)) : W p l e R s m args below meth c H locs cells slots Q (F0 m pc ls (.long v :: .int i :: .ref b :: rest)) := by
  obtain ⟨⟨hx, hb, hml, hown, hts⟩, hK, hT, hA, hlocks⟩ := C
  subst hset
  exact va_last hx hb hK hP hD hS q0 1 ha rfl hin hdg kk
theorem x_alen (C : Cx p s m args meth c D cy tT tF A cc nL own) (hP : va_P D vwCl ws H) (q0 : Nat) {n0 : Nat} {f : Nat → Int32} (ha : ws[q0]? = some (b, .inl (cy 0, n0, .inl f))) {v : Int32} (hv : Int32.ofNat n0 = v) (hdg : decode cc pc = .ok (.arraylength, 1))
    (kk : W p l e R s m args below meth c H locs cells slots Q (F0 m (pc + 1) ls (.int v :: rest))) : W p l e R s m args below meth c H locs cells slots Q (F0 m pc ls (.ref b :: rest)) := by
  obtain ⟨⟨hx, hb, hml, hown, hts⟩, hK, hT, hA, hlocks⟩ := C
  exact va_alen hx hb hK hP q0 0 ha rfl hv hdg kk
theorem x_tens (C : Cx p s m args meth c D cy tT tF A cc nL own) (hS : va_S A s.heap H locs) (hlink : Cond.fieldLink own index RX7 "TENS" "[I" ∈ wsL_law) (hdg : decode cc pc = .ok (.getstatic index, 3))
    (kk : W p l e R s m args below meth c H locs cells slots Q (F0 m (pc + 3) ls (.ref tT :: rest))) : W p l e R s m args below meth c H locs cells slots Q (F0 m pc ls rest) := by
  obtain ⟨⟨hx, hb, hml, hown, hts⟩, hK, hT, hA, hlocks⟩ := C
  exact va_gets hx hb hT.1 hS hown (hts _ hlink) (fun _ h => h) hdg kk
theorem x_facs (C : Cx p s m args meth c D cy tT tF A cc nL own) (hS : va_S A s.heap H locs) (hlink : Cond.fieldLink own index RX7 "FACTORIALS" "[I" ∈ wsL_law) (hdg : decode cc pc = .ok (.getstatic index, 3))
    (kk : W p l e R s m args below meth c H locs cells slots Q (F0 m (pc + 3) ls (.ref tF :: rest))) : W p l e R s m args below meth c H locs cells slots Q (F0 m pc ls rest) := by
  obtain ⟨⟨hx, hb, hml, hown, hts⟩, hK, hT, hA, hlocks⟩ := C
  exact va_gets hx hb hT.2.2.1 hS hown (hts _ hlink) (fun _ h => h) hdg kk
theorem x_facsN (C : Cx p s m args meth c D cy tT tF A cc nL RX4) (hS : va_S A s.heap H locs) (hdg : decode cc pc = .ok (.getstatic 135, 3))
    (kk : W p l e R s m args below meth c H locs cells slots Q (F0 m (pc + 3) ls (.ref tF :: rest))) : W p l e R s m args below meth c H locs cells slots Q (F0 m pc ls rest) := by
  obtain ⟨⟨hx, hb, hml, hown, hts⟩, hK, hT, hA, hlocks⟩ := C
  exact va_getsN hx hb hT.2.2.1 hS hown (va_Nw.use rfl hT.2.2.2.2.1) (fun _ h => h) hdg kk
theorem x_tld (C : Cx p s m args meth c D cy tT tF A cc nL own) (hS : va_S A s.heap H locs) {i v : Int32} (hin : vp_in i 9) (hv : v = tens i.toNatClampNeg) (hdg : decode cc pc = .ok (.iaload, 1))
    (kk : W p l e R s m args below meth c H locs cells slots Q (F0 m (pc + 1) ls (.int v :: rest))) : W p l e R s m args below meth c H locs cells slots Q (F0 m pc ls (.int i :: .ref tT :: rest)) := by
  subst hv
  obtain ⟨⟨hx, hb, hml, hown, hts⟩, hK, hT, hA, hlocks⟩ := C
  exact va_ti hx hb hT.2.1 hS hin rfl hdg kk
theorem x_fld (C : Cx p s m args meth c D cy tT tF A cc nL own) (hS : va_S A s.heap H locs) {i v : Int32} (hin : vp_in i 5) (hv : v = facs i.toNatClampNeg) (hdg : decode cc pc = .ok (.iaload, 1))
    (kk : W p l e R s m args below meth c H locs cells slots Q (F0 m (pc + 1) ls (.int v :: rest))) : W p l e R s m args below meth c H locs cells slots Q (F0 m pc ls (.int i :: .ref tF :: rest)) := by
  subst hv
  obtain ⟨⟨hx, hb, hml, hown, hts⟩, hK, hT, hA, hlocks⟩ := C
  exact va_ti hx hb hT.2.2.2.1 hS hin rfl hdg kk
theorem x_tlen (C : Cx p s m args meth c D cy tT tF A cc nL own) (hS : va_S A s.heap H locs) (hdg : decode cc pc = .ok (.arraylength, 1))
    (kk : W p l e R s m args below meth c H locs cells slots Q (F0 m (pc + 1) ls (.int 9 :: rest))) : W p l e R s m args below meth c H locs cells slots Q (F0 m pc ls (.ref tT :: rest)) := by
  obtain ⟨⟨hx, hb, hml, hown, hts⟩, hK, hT, hA, hlocks⟩ := C
  exact va_tlen hx hb hT.2.1 hS (v := 9) rfl hdg kk
theorem x_max (C : Cx p s m args meth c D cy tT tF A cc nL own) (hsz : ls.size = nL) (hlink : Cond.methodLink own index Lib.Math.max.name ∈ wsL_law) (h1 : Cond.static Lib.Math.max.name ∈ wsL_law) (h2 : Cond.initialized "java/lang/Math" ∈ wsL_law) (h3 : Cond.code Lib.Math.max.name Lib.Math.max.code 2 (some .int) ∈ wsL_law) (hframes : 1 ≤ R.frames) (hlocals : (rest.map fun v => v.category).sum + 13 ≤ R.locals) (hf : cells ≤ R.cells ∧ slots ≤ R.slots) {x y : Int32} (hdg : decode cc pc = .ok (.invokestatic index, 3))
    (kk : W p l e R s m args below meth c H locs cells slots Q (F0 m (pc + 3) ls (.int (if x < y then y else x) :: rest))) : W p l e R s m args below meth c H locs cells slots Q (F0 m pc ls (.int y :: .int x :: rest)) := by
  obtain ⟨⟨hx, hb, hml, hown, hts⟩, hK, hT, hA, hlocks⟩ := C
  exact va_mmax hx hb (hml.trans hsz.symm) hown (hts _ hlink) (hts _ h1) (hts _ h2) (hts _ h3) hframes hlocals hf.1 hf.2 hdg kk
theorem x_min (C : Cx p s m args meth c D cy tT tF A cc nL own) (hsz : ls.size = nL) (hlink : Cond.methodLink own index Lib.Math.min.name ∈ wsL_law) (h1 : Cond.static Lib.Math.min.name ∈ wsL_law) (h2 : Cond.initialized "java/lang/Math" ∈ wsL_law) (h3 : Cond.code Lib.Math.min.name Lib.Math.min.code 2 (some .int) ∈ wsL_law) (hframes : 1 ≤ R.frames) (hlocals : (rest.map fun v => v.category).sum + 13 ≤ R.locals) (hf : cells ≤ R.cells ∧ slots ≤ R.slots) {x y : Int32} (hdg : decode cc pc = .ok (.invokestatic index, 3))
    (kk : W p l e R s m args below meth c H locs cells slots Q (F0 m (pc + 3) ls (.int (if y < x then y else x) :: rest))) : W p l e R s m args below meth c H locs cells slots Q (F0 m pc ls (.int y :: .int x :: rest)) := by
  obtain ⟨⟨hx, hb, hml, hown, hts⟩, hK, hT, hA, hlocks⟩ := C
  exact va_mmin hx hb (hml.trans hsz.symm) hown (hts _ hlink) (hts _ h1) (hts _ h2) (hts _ h3) hframes hlocals hf.1 hf.2 hdg kk
theorem x_copy (C : Cx p s m args meth c D cy tT tF A cc nL own) (hsz : ls.size = nL) (hP : va_P D vwCl ws H) (hD : va_D A ws) (hS : va_S A s.heap H locs) (hlink : Cond.methodLink own index arraycopyName ∈ wsL_law) (h1 : Cond.native arraycopyName ∈ wsL_law) (h2 : Cond.static arraycopyName ∈ wsL_law) (h3 : Cond.initialized "java/lang/System" ∈ wsL_law) (q0 q1 : Nat) {a0 n0 n1 : Nat} {f g : Nat → Int32} (ha0 : ws[q0]? = some (a0, .inl (cy 0, n0, .inl f))) (ha1 : ws[q1]? = some (b, .inl (cy 0, n1, .inl g))) {sp dp k : Int32} (e1 : ¬ sp < 0) (e2 : ¬ dp < 0) (e3 : ¬ k < 0) (e4 : sp.toNatClampNeg + k.toNatClampNeg ≤ n0) (e5 : dp.toNatClampNeg + k.toNatClampNeg ≤ n1) (hframes : 1 ≤ R.frames) (hlocals : (rest.map fun v => v.category).sum + (nativeFrameWords "java/lang/System" "arraycopy" 5 + 11) ≤ R.locals) (hset : ws.set q1 (b, .inl (cy 0, n1, .inl (va_cpy f g sp.toNatClampNeg dp.toNatClampNeg k.toNatClampNeg))) = ws') (hdg : decode cc pc = .ok (.invokestatic index, 3))
    (kk : ∀ (H1 : Heap) (locs1 : List Loc), va_P D vwCl ws' H1 → va_D A ws' → va_S A s.heap H1 locs1 → W p l e R s m args below meth c H1 locs1 cells slots Q (F0 m (pc + 3) ls rest)) : W p l e R s m args below meth c H locs cells slots Q (F0 m pc ls (.int k :: .int dp :: .ref b :: .int sp :: .ref a0 :: rest)) := by
  obtain ⟨⟨hx, hb, hml, hown, hts⟩, hK, hT, hA, hlocks⟩ := C
  subst hset
  exact va_copyi hx hb (hml.trans hsz.symm) hown (hts _ hlink) (hts _ h1) (hts _ h2) (hts _ h3) hK hP hD hS q0 q1 0 0 ha0 ha1 rfl rfl rfl e1 e2 e3 e4 e5 (fun _ _ => rfl) hframes hlocals hdg kk
/-- the value on top gets a name -/
theorem x_ti {v x : Int32} (hv : v = x) (k : W p l e R s m args below meth c H locs cells slots Q (F0 m pc ls (.int v :: rest))) : W p l e R s m args below meth c H locs cells slots Q (F0 m pc ls (.int x :: rest)) := hv ▸ k
theorem x_tl {v x : Int64} (hv : v = x) (k : W p l e R s m args below meth c H locs cells slots Q (F0 m pc ls (.long v :: rest))) : W p l e R s m args below meth c H locs cells slots Q (F0 m pc ls (.long x :: rest)) := hv ▸ k
end OWN
/-- a contract out of a walk from the entry -/
theorem x_start {l : Launch} {y : MethodName} {cc : ByteArray} {nL : Nat} {ret : Option FieldType} {rm : Room} {D : va_G} {cy : Nat → ClassId} {tT tF : Nat} {av : List Value} {ws : va_W} {Qc : (Nat → Prop) → Array Value → State → Outcome → State → Prop} (hy : plainName y.cls = true) (hlen : (lg_sl av).length ≤ nL)
    (body : ∀ (p : Program) (e : Env) (s : State) (m : MethodId) (below : List Frame) (meth : Method) (c : Code) (A : Nat → Prop) (ls : Array Slot), Cx p s m av.toArray meth c D cy tT tF A cc nL y.cls → meth.sig.returnType = ret → va_P D vwCl ws s.heap → va_D A ws → va_S A s.heap s.heap [] → lv_has ls nL (lv_args 0 av) → W p l e rm s m av.toArray below meth c s.heap [] 0 0 (MQ below (Qc A) av.toArray s 0 0 A) (F0 m 0 ls [])) :
    ∀ sz : Nat, Met l y (Cond.code y cc nL ret :: wsL_law) rm (va_Pc av (cP D cy tT tF ws sz)) (Qc (va_A ws sz)) 0 0 (va_A ws sz) := by
  intro sz
  refine Met.ofW (cc := cc) (maxL := nL) (ret := ret) hy rfl ?_
  intro p e s m args below meth c s₁ B hml hv
  obtain ⟨rfl, hsz, hP, hK, hD0, hT⟩ := hv
  have hts := atoms_spec (ws := Cond.code y cc nL ret :: wsL_law) B.pre
  have hown : s.vm.findClass y.cls = some m.cls := findClass_of_methodNamed B.named
  subst hsz
  have hl := lv_entry av (n := nL) hlen
  rw [lg_entry_eq]
  exact body p e s m below meth c (va_A ws s.heap.size) _ ⟨⟨B.exec, B.bytes, hml, hown, fun w h => hts w (List.mem_cons_of_mem _ h)⟩, hK, hT, fun q h => Or.inr h, B.notSynchronized⟩ B.returns hP hD0.self va_S.rf hl

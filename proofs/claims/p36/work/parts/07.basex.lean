/-! BASE E: exceptions: a method's answer is .inl its value or .inr which exception -/
theorem le_ab {x a b : Nat} (h : Nat.ble x b = true) : x ≤ a + b := Nat.le_trans (Nat.le_of_ble_eq_true h) (Nat.le_add_left b a)
def exn : Nat → String
  | 0 => "java/lang/IndexOutOfBoundsException"
  | 1 => "java/lang/IllegalArgumentException"
  | _ => "java/lang/IllegalStateException"
abbrev CXi (X : Xc) (r : Int32 ⊕ Nat) (σ : Sg) : Array Value → State → Outcome → State → Prop := va_Qi (fun r' (_ : Unit) => r = .inl r') (fun _ t => va_P X.D classes (wX X σ) t.heap) X.A
abbrev CXl (X : Xc) (r : Int64 ⊕ Nat) (σ : Sg) : Array Value → State → Outcome → State → Prop := va_Ql (fun r' (_ : Unit) => r = .inl r') (fun _ t => va_P X.D classes (wX X σ) t.heap) X.A
abbrev CXv (X : Xc) (r : Unit ⊕ Nat) (σ : Sg) : Array Value → State → Outcome → State → Prop := va_Qv (fun (_ : Unit) => r = .inl ()) (fun _ t => va_P X.D classes (wX X σ) t.heap) X.A
abbrev CXx {α : Type} (X : Xc) (r : α ⊕ Nat) (σ : Sg) : String → State → State → Prop := vx_X (fun (_ : Unit) => True) (fun E _ t => (∃ e, r = .inr e ∧ E = exn e) ∧ va_P X.D classes (wX X σ) t.heap) X.A
def xb (r : Bool ⊕ Nat) : Int32 ⊕ Nat := match r with
  | .inl b => .inl (b2i b)
  | .inr e => .inr e
def xbd {α β : Type} (r : α ⊕ Nat) (th : Nat → β) (f : α → Option β) : Option β := match r with
  | .inl v => f v
  | .inr e => some (th e)
def xcat {α β : Type} (r : α ⊕ Nat) (h : Nat → Option β) (f : α → Option β) : Option β := match r with
  | .inl v => f v
  | .inr e => h e
/-- the post of a method that may throw -/
abbrev XM (X : Xc) (K : Kc) (mc ms : Nat) (Qc : Array Value → State → Outcome → State → Prop) (XC : String → State → State → Prop) : State → Prop := vx_MQ K.below Qc XC K.args K.s mc ms X.A

set_option maxRecDepth 100000 in
theorem xnon_0 : ∀ w ∈ (vx_atS RX8 402 "java/lang/IndexOutOfBoundsException" ["java/lang/RuntimeException", "java/lang/Exception"]).filter (fun w => !goodWord w), w ∈ Cond.castable "java/lang/IndexOutOfBoundsException" "java/lang/IndexOutOfBoundsException" :: declL.map Cond.declares := by decide +kernel
set_option maxRecDepth 100000 in
theorem xgood_0 : ∀ w ∈ Cond.classLink RX8 398 "java/lang/IndexOutOfBoundsException" :: Cond.initialized "java/lang/IndexOutOfBoundsException" :: (vx_atS RX8 402 "java/lang/IndexOutOfBoundsException" ["java/lang/RuntimeException", "java/lang/Exception"]), vx_ot w = true := by decide +kernel
theorem xat_0 {args : Array Value} {s : State} (hts : ∀ w ∈ wsL_law, w.before args s = true) (hk : XK s) : ∀ w ∈ (vx_atS RX8 402 "java/lang/IndexOutOfBoundsException" ["java/lang/RuntimeException", "java/lang/Exception"]), w.before args s = true :=
  vx_hat (fun w h => hts w (List.mem_append_right _ h)) xnon_0 (fun w h => by
    rcases List.mem_cons.mp h with rfl | h
    · exact (hk.2.1 ("java/lang/IndexOutOfBoundsException", "java/lang/IndexOutOfBoundsException") (List.mem_of_getElem? (i := 0) rfl)).use rfl
    · obtain ⟨q, hq, rfl⟩ := List.mem_map.mp h
      exact (hk.2.2.2.2.2 q hq).use rfl)
set_option maxRecDepth 100000 in
theorem xnon_1 : ∀ w ∈ (vx_atS RX8 222 "java/lang/IllegalArgumentException" ["java/lang/RuntimeException", "java/lang/Exception"]).filter (fun w => !goodWord w), w ∈ Cond.castable "java/lang/IllegalArgumentException" "java/lang/IllegalArgumentException" :: declL.map Cond.declares := by decide +kernel
set_option maxRecDepth 100000 in
theorem xgood_1 : ∀ w ∈ Cond.classLink RX8 218 "java/lang/IllegalArgumentException" :: Cond.initialized "java/lang/IllegalArgumentException" :: (vx_atS RX8 222 "java/lang/IllegalArgumentException" ["java/lang/RuntimeException", "java/lang/Exception"]), vx_ot w = true := by decide +kernel
theorem xat_1 {args : Array Value} {s : State} (hts : ∀ w ∈ wsL_law, w.before args s = true) (hk : XK s) : ∀ w ∈ (vx_atS RX8 222 "java/lang/IllegalArgumentException" ["java/lang/RuntimeException", "java/lang/Exception"]), w.before args s = true :=
  vx_hat (fun w h => hts w (List.mem_append_left _ (List.mem_append_right _ h))) xnon_1 (fun w h => by
    rcases List.mem_cons.mp h with rfl | h
    · exact (hk.2.1 ("java/lang/IllegalArgumentException", "java/lang/IllegalArgumentException") (List.mem_of_getElem? (i := 1) rfl)).use rfl
    · obtain ⟨q, hq, rfl⟩ := List.mem_map.mp h
      exact (hk.2.2.2.2.2 q hq).use rfl)
set_option maxRecDepth 100000 in
theorem xnon_2 : ∀ w ∈ (vx_atS RX8 60 "java/lang/IllegalStateException" ["java/lang/RuntimeException", "java/lang/Exception"]).filter (fun w => !goodWord w), w ∈ Cond.castable "java/lang/IllegalStateException" "java/lang/IllegalStateException" :: declL.map Cond.declares := by decide +kernel
set_option maxRecDepth 100000 in
theorem xgood_2 : ∀ w ∈ Cond.classLink RX8 56 "java/lang/IllegalStateException" :: Cond.initialized "java/lang/IllegalStateException" :: (vx_atS RX8 60 "java/lang/IllegalStateException" ["java/lang/RuntimeException", "java/lang/Exception"]), vx_ot w = true := by decide +kernel
theorem xat_2 {args : Array Value} {s : State} (hts : ∀ w ∈ wsL_law, w.before args s = true) (hk : XK s) : ∀ w ∈ (vx_atS RX8 60 "java/lang/IllegalStateException" ["java/lang/RuntimeException", "java/lang/Exception"]), w.before args s = true :=
  vx_hat (fun w h => hts w (List.mem_append_left _ (List.mem_append_left _ (List.mem_append_right _ h)))) xnon_2 (fun w h => by
    rcases List.mem_cons.mp h with rfl | h
    · exact (hk.2.1 ("java/lang/IllegalStateException", "java/lang/IllegalStateException") (List.mem_of_getElem? (i := 2) rfl)).use rfl
    · obtain ⟨q, hq, rfl⟩ := List.mem_map.mp h
      exact (hk.2.2.2.2.2 q hq).use rfl)
section GX1
variable {X : Xc} {K : Kc} {cc : ByteArray} {nL : Nat} {own : String} {rm : Room} {ρ ρ1 : Type} {Q : ρ → State → Prop} {M M1 M2 : Option ρ} {σ : Sg} {cs ss pc mc ms : Nat} {lo lo' : List (Option Value)} {st : List Value}
variable {Qc : ρ → Array Value → State → Outcome → State → Prop} {XC : ρ → String → State → State → Prop}
theorem g_widen {cs' ss' : Nat} (h1 : cs ≤ cs') (h2 : ss ≤ ss') (k : GO X K nL Q M σ cs' ss' pc lo st) : GO X K nL Q M σ cs ss pc lo st := fun r hr H locs ls hP hS hl => W.widen h1 h2 (k r hr H locs ls hP hS hl)
theorem g_xiret {r0 : ρ} {v : Int32} (C : MC X K cc nL own rm) (hr : K.meth.sig.returnType = some .int) (d : decode cc pc = .ok (.ireturn, 1)) (hc : cs ≤ mc) (hs : ss ≤ ms) (hq : ∀ t : State, va_P X.D classes (wX X σ) t.heap → va_F X.A K.s t → Qc r0 K.args K.s (.returned (some (.int v))) t) : GO X K nL (fun r => XM X K mc ms (Qc r) (XC r)) (some r0) σ cs ss pc lo [.int v] :=
  fun r h H locs ls hP hS hl => by
    cases h
    exact W.widen hc hs (vx_ret (W.iret C.x C.b hr (fun t ht hW => hq t (by rw [ht]; exact hP) (hS.F ht)) hS.2.2 d C.lk))
theorem g_xzret {r0 : ρ} {b : Bool} (C : MC X K cc nL own rm) (hr : K.meth.sig.returnType = some .boolean) (d : decode cc pc = .ok (.ireturn, 1)) (hc : cs ≤ mc) (hs : ss ≤ ms) (hq : ∀ t : State, va_P X.D classes (wX X σ) t.heap → va_F X.A K.s t → Qc r0 K.args K.s (.returned (some (.int (b2i b)))) t) : GO X K nL (fun r => XM X K mc ms (Qc r) (XC r)) (some r0) σ cs ss pc lo [.int (b2i b)] :=
  fun r h H locs ls hP hS hl => by
    cases h
    exact W.widen hc hs (vx_ret (W.zret C.x C.b hr (b2i_n b) (fun t ht hW => hq t (by rw [ht]; exact hP) (hS.F ht)) hS.2.2 d C.lk))
theorem g_xzretv {r0 r1 : ρ} {v : Int32} (C : MC X K cc nL own rm) (hr : K.meth.sig.returnType = some .boolean) (d : decode cc pc = .ok (.ireturn, 1)) (hc : cs ≤ mc) (hs : ss ≤ ms) (h0 : ∀ t : State, va_P X.D classes (wX X σ) t.heap → va_F X.A K.s t → Qc r0 K.args K.s (.returned (some (.int (b2i false)))) t) (h1 : ∀ t : State, va_P X.D classes (wX X σ) t.heap → va_F X.A K.s t → Qc r1 K.args K.s (.returned (some (.int (b2i true)))) t) : GO X K nL (fun r => XM X K mc ms (Qc r) (XC r)) (if v = 0 then some r0 else if v = 1 then some r1 else none) σ cs ss pc lo [.int v] := by
  intro r h
  by_cases a : v = 0
  · subst a
    rw [if_pos rfl] at h
    exact g_xzret (b := false) C hr d hc hs h0 r h
  · rw [if_neg a] at h
    by_cases b : v = 1
    · subst b
      rw [if_pos rfl] at h
      exact g_xzret (b := true) C hr d hc hs h1 r h
    · rw [if_neg b] at h
      cases h
theorem g_xlret {r0 : ρ} {v : Int64} (C : MC X K cc nL own rm) (hr : K.meth.sig.returnType = some .long) (d : decode cc pc = .ok (.lreturn, 1)) (hc : cs ≤ mc) (hs : ss ≤ ms) (hq : ∀ t : State, va_P X.D classes (wX X σ) t.heap → va_F X.A K.s t → Qc r0 K.args K.s (.returned (some (.long v))) t) : GO X K nL (fun r => XM X K mc ms (Qc r) (XC r)) (some r0) σ cs ss pc lo [.long v] :=
  fun r h H locs ls hP hS hl => by
    cases h
    exact W.widen hc hs (vx_ret (W.lret C.x C.b hr (fun t ht hW => hq t (by rw [ht]; exact hP) (hS.F ht)) hS.2.2 d C.lk))
theorem g_xvret {r0 : ρ} (C : MC X K cc nL own rm) (hr : K.meth.sig.returnType = none) (d : decode cc pc = .ok (.return_, 1)) (hc : cs ≤ mc) (hs : ss ≤ ms) (hq : ∀ t : State, va_P X.D classes (wX X σ) t.heap → va_F X.A K.s t → Qc r0 K.args K.s (.returned none) t) : GO X K nL (fun r => XM X K mc ms (Qc r) (XC r)) (some r0) σ cs ss pc lo [] :=
  fun r h H locs ls hP hS hl => by
    cases h
    exact W.widen hc hs (vx_ret (W.vret C.x C.b hr (fun t ht hW => hq t (by rw [ht]; exact hP) (hS.F ht)) hS.2.2 d C.lk))

theorem g_throw {cls text : String} {ik is ic e : Nat} {r0 : ρ} (C : MC X K cc nL RX8 rm) (hex : K.c.exceptionTable.toList = []) (hfl : X.l.stackTraces = false) (he : exn e = cls) (hcls : Bundle.fit cls = true) (hk : Cond.classLink RX8 ik cls ∈ wsL_law) (hini : Cond.initialized cls ∈ wsL_law) (hstr : (RX8, is, text) ∈ strL)
    (hat : ∀ w ∈ vx_atS RX8 ic cls ["java/lang/RuntimeException", "java/lang/Exception"], w.before K.args K.s = true) (hgood : ∀ w ∈ Cond.classLink RX8 ik cls :: Cond.initialized cls :: vx_atS RX8 ic cls ["java/lang/RuntimeException", "java/lang/Exception"], vx_ot w = true)
    (d0 : decode cc pc = .ok (.new ik, 3)) (d3 : decode cc (pc + 3) = .ok (.dup, 1)) (d4 : decode cc (pc + 4) = .ok (.ldc is, 2)) (d6 : decode cc (pc + 6) = .ok (.invokespecial ic, 3)) (d9 : decode cc (pc + 9) = .ok (.athrow, 1))
    (hf : 5 < rm.frames) (hlo : (st.map fun v => v.category).sum + 82 ≤ rm.locals) (hcr : cs + 1 ≤ rm.cells) (hsr : ss + 6 ≤ rm.slots) (hc : cs + 1 ≤ mc) (hs : ss + 6 ≤ ms)
    (hq : ∀ t : State, va_P X.D classes (wX X σ) t.heap → va_F X.A K.s t → XC r0 (exn e) K.s t) : GO X K nL (fun r => XM X K mc ms (Qc r) (XC r)) (some r0) σ cs ss pc lo st := by
  intro r h H locs ls hP hS hl
  cases h
  obtain ⟨sa, hsa⟩ := C.k.2.2.2.1 _ hstr
  refine vx_throwS (A := X.A) (cls := cls) (text := text) (names := ["java/lang/RuntimeException", "java/lang/Exception"]) (ik := ik) (is := is) (ic := ic) (sa := sa) C.x C.b hfl C.ow hcls (by decide +kernel) (C.ts _ hk) (C.ts _ hini) hsa hat hgood C.U C.N hS (by rw [C.ml]; exact hl.1) d0 d3 d4 d6 d9 (by rw [hex]; intro x hx; cases hx) (by rw [C.R]; exact hf) (by rw [C.R]; exact hlo) (by rw [C.R]; exact hcr) (by rw [C.R]; exact hsr) C.lk ?_ hS.2.2 hc hs
  intro t hvm hz hk2
  rw [← he]
  exact hq t (hP.kept (fun k q hq => hk2 q.1 ((hP k q hq).lt))) ⟨Nat.le_trans hS.1 hz, fun q h1 h2 => by rw [hk2 q (Nat.lt_of_lt_of_le h1 hS.1)]; exact hS.2.1 q h1 h2⟩
theorem g_throwW {cls text : String} {ik is ic e : Nat} {r0 : ρ} (C : MC X K cc nL RX8 rm) (hex : K.c.exceptionTable.toList = []) (hfl : X.l.stackTraces = false) (he : exn e = cls) (hcls : Bundle.fit cls = true) (hk : Cond.classLink RX8 ik cls ∈ wsL_law) (hini : Cond.initialized cls ∈ wsL_law) (hstr : (RX8, is, text) ∈ strL)
    (hat : ∀ w ∈ vx_atS RX8 ic cls ["java/lang/RuntimeException", "java/lang/Exception"], w.before K.args K.s = true) (hgood : ∀ w ∈ Cond.classLink RX8 ik cls :: Cond.initialized cls :: vx_atS RX8 ic cls ["java/lang/RuntimeException", "java/lang/Exception"], vx_ot w = true)
    (d0 : decode cc pc = .ok (.new ik, 3)) (d3 : decode cc (pc + 3) = .ok (.dup, 1)) (d4 : decode cc (pc + 4) = .ok (.ldc_w is, 3)) (d6 : decode cc (pc + 7) = .ok (.invokespecial ic, 3)) (d9 : decode cc (pc + 10) = .ok (.athrow, 1))
    (hf : 5 < rm.frames) (hlo : (st.map fun v => v.category).sum + 82 ≤ rm.locals) (hcr : cs + 1 ≤ rm.cells) (hsr : ss + 6 ≤ rm.slots) (hc : cs + 1 ≤ mc) (hs : ss + 6 ≤ ms)
    (hq : ∀ t : State, va_P X.D classes (wX X σ) t.heap → va_F X.A K.s t → XC r0 (exn e) K.s t) : GO X K nL (fun r => XM X K mc ms (Qc r) (XC r)) (some r0) σ cs ss pc lo st := by
  intro r h H locs ls hP hS hl
  cases h
  obtain ⟨sa, hsa⟩ := C.k.2.2.2.1 _ hstr
  refine vx_throwSW (A := X.A) (cls := cls) (text := text) (names := ["java/lang/RuntimeException", "java/lang/Exception"]) (ik := ik) (is := is) (ic := ic) (sa := sa) C.x C.b hfl C.ow hcls (by decide +kernel) (C.ts _ hk) (C.ts _ hini) hsa hat hgood C.U C.N hS (by rw [C.ml]; exact hl.1) d0 d3 d4 d6 d9 (by rw [hex]; intro x hx; cases hx) (by rw [C.R]; exact hf) (by rw [C.R]; exact hlo) (by rw [C.R]; exact hcr) (by rw [C.R]; exact hsr) C.lk ?_ hS.2.2 hc hs
  intro t hvm hz hk2
  rw [← he]
  exact hq t (hP.kept (fun k q hq => hk2 q.1 ((hP k q hq).lt))) ⟨Nat.le_trans hS.1 hz, fun q h1 h2 => by rw [hk2 q (Nat.lt_of_lt_of_le h1 hS.1)]; exact hS.2.1 q h1 h2⟩
/-- a method's entry, where it may throw -/
theorem xt_of {y : MethodName} {maxL : Nat} {ret : Option FieldType} {as : List Value} (hy : plainName y.cls = true) (ho : y.cls = own) (hn : (lg_sl as).length ≤ maxL) (hlo : lo0 as maxL = lo)
    (body : ∀ K : Kc, MC X K cc maxL own rm → K.meth.sig.returnType = ret → K.c.exceptionTable.toList = [] → GO X K maxL (fun r => XM X K mc ms (Qc r) (XC r)) M σ 0 0 0 lo []) (r : ρ) (hr : M = some r) : vx_Met X.l y (.code y cc maxL ret :: wsL_law) rm (va_Pc as (PW X σ)) (Qc r) (XC r) mc ms X.A := by
  refine vx_ofW (cc := cc) (maxL := maxL) (ret := ret) hy rfl ?_
  intro p e s m args below meth c s₁ B hml hex hv
  obtain ⟨rfl, hz, hok, hP, hK, hXK, hU, hN⟩ := hv
  have C : MC X (p, e, rm, s, m, as.toArray, below, meth, c) cc maxL own rm := ⟨⟨B.exec, B.bytes, hml, by rw [← ho]; exact findClass_of_methodNamed B.named, fun w h => atoms_spec (ws := .code y cc maxL ret :: wsL_law) B.pre w (List.mem_cons_of_mem _ h)⟩, hK, hok, hz, B.notSynchronized, rfl, hXK, hU, hN⟩
  have hl := lo0_lvo as maxL hn
  rw [lg_entry_eq]
  subst hlo
  exact body _ C B.returns (List.eq_nil_iff_forall_not_mem.mpr hex) r hr s.heap [] _ hP va_S.rf hl
/-- .. and where it has a table of its own -/
theorem xt_ofH {y : MethodName} {maxL : Nat} {ret : Option FieldType} {as : List Value} {hh : List (Nat × Nat × Nat × Nat)} (hy : plainName y.cls = true) (ho : y.cls = own) (hn : (lg_sl as).length ≤ maxL) (hlo : lo0 as maxL = lo) 
    (body : ∀ K : Kc, MC X K cc maxL own rm → K.meth.sig.returnType = ret → K.c.exceptionTable.toList = tableOf hh → GO X K maxL (fun r => XM X K mc ms (Qc r) (XC r)) M σ 0 0 0 lo []) (r : ρ) (hr : M = some r) : vx_Met X.l y (.codeWith y cc maxL ret hh :: wsL_law) rm (va_Pc as (PW X σ)) (Qc r) (XC r) mc ms X.A := by
  refine vx_ofWH (cc := cc) (maxL := maxL) (ret := ret) (hh := hh) hy rfl ?_
  intro p e s m args below meth c s₁ B hml hv
  obtain ⟨rfl, hz, hok, hP, hK, hXK, hU, hN⟩ := hv
  have hex : c.exceptionTable.toList = tableOf hh := vx_table (x := y) B (atoms_spec (ws := .codeWith y cc maxL ret hh :: wsL_law) B.pre _ List.mem_cons_self)
  have C : MC X (p, e, rm, s, m, as.toArray, below, meth, c) cc maxL own rm := ⟨⟨B.exec, B.bytes, hml, by rw [← ho]; exact findClass_of_methodNamed B.named, fun w h => atoms_spec (ws := .codeWith y cc maxL ret hh :: wsL_law) B.pre w (List.mem_cons_of_mem _ h)⟩, hK, hok, hz, B.notSynchronized, rfl, hXK, hU, hN⟩
  have hl := lo0_lvo as maxL hn
  rw [lg_entry_eq]
  subst hlo
  exact body _ C B.returns hex r hr s.heap [] _ hP va_S.rf hl
end GX1
/-- an exception on its way through this frame -/
def GX (X : Xc) (K : Kc) (nL : Nat) {ρ : Type} (Q : ρ → State → Prop) (M : Option ρ) (σ : Sg) (cs ss pc : Nat) (lo : List (Option Value)) (e : Nat) : Prop :=
  ∀ r, M = some r → ∀ (H : Heap) (locs : List Loc) (ls : Array Slot) (st : List Value) (q : Addr) (ce : Cell), va_P X.D classes (wX X σ) H → va_S X.A K.s.heap H locs → lvo ls nL lo → H[q]? = some ce → ce.vm = .none → K.s.vm.findClass (exn e) = some ce.cls → vx_W K.p X.l K.e K.R K.s K.m K.args K.below K.meth K.c H locs cs ss (Q r) (F0 K.m pc ls st) q
section GX2
variable {X : Xc} {K : Kc} {cc : ByteArray} {nL : Nat} {own : String} {rm : Room} {ρ ρ1 : Type} {Q : ρ → State → Prop} {M M1 M2 : Option ρ} {σ : Sg} {cs ss pc mc ms e : Nat} {lo lo' : List (Option Value)} {st : List Value}
variable {Qc : ρ → Array Value → State → Outcome → State → Prop} {XC : ρ → String → State → State → Prop}
theorem gx_ite {c : Prop} [Decidable c] (k1 : c → GX X K nL Q M1 σ cs ss pc lo e) (k2 : ¬ c → GX X K nL Q M2 σ cs ss pc lo e) : GX X K nL Q (if c then M1 else M2) σ cs ss pc lo e := by
  by_cases h : c
  · rw [if_pos h]; exact k1 h
  · rw [if_neg h]; exact k2 h
theorem gx_none : GX X K nL Q (none : Option ρ) σ cs ss pc lo e := fun r hr => by cases hr
theorem gx_out {r0 : ρ} (C : MC X K cc nL own rm) (hex : K.c.exceptionTable.toList = []) (hc : cs ≤ mc) (hs : ss ≤ ms) (hq : ∀ t : State, va_P X.D classes (wX X σ) t.heap → va_F X.A K.s t → XC r0 (exn e) K.s t) : GX X K nL (fun r => XM X K mc ms (Qc r) (XC r)) (some r0) σ cs ss pc lo e := by
  intro r h H locs ls st q ce hP hS hl h1 h2 h3
  cases h
  exact vx_out (by rw [hex]; intro x hx; cases hx) C.lk h1 h2 h3 (fun t ht _ => hq t (by rw [ht]; exact hP) (hS.F ht)) hS.2.2 hc hs
theorem gx_catch {name : String} {tgt ct : Nat} (C : MC X K cc nL own rm) (pre : List ExceptionTableEntry) (x : ExceptionTableEntry) (suf : List ExceptionTableEntry) (hex : K.c.exceptionTable.toList = pre ++ x :: suf)
    (hpass : ∀ z ∈ pre, covers z pc = false ∨ (z.catchType ≠ 0 ∧ ∃ nm : String, Cond.classLink own z.catchType nm ∈ wsL_law ∧ (exn e, nm) ∈ ncL)) (hx : covers x pc = true) (hct : x.catchType = ct) (h0 : ct ≠ 0) (htg : x.handlerPc = tgt) (hlink : Cond.classLink own ct name ∈ wsL_law) (hn : exn e = name) (hcast : (name, name) ∈ castL)
    (k : ∀ q, GO X K nL Q M σ cs ss tgt lo [.ref q]) : GX X K nL Q M σ cs ss pc lo e := by
  intro r h H locs ls st q ce hP hS hl h1 h2 h3
  subst hct
  subst htg
  refine vx_catch (own := own) (name := name) (E := exn e) C.ow pre x suf hex (fun z hz => ?_) hx h0 (C.ts _ hlink) (by rw [hn]; exact (C.k.2.1 _ hcast).use rfl) h1 h2 h3 (k q r h H locs ls hP hS hl)
  rcases hpass z hz with h | ⟨h, nm, g1, g2⟩
  · exact Or.inl h
  · exact Or.inr ⟨h, nm, C.ts _ g1, C.k.2.2.1 _ g2⟩
end GX2
section GX3
variable {X : Xc} {K : Kc} {cc : ByteArray} {nL : Nat} {own : String} {rm : Room} {ρ ρ1 : Type} {Q : ρ → State → Prop} {σ : Sg} {cs ss pc : Nat} {lo : List (Option Value)} {st : List Value} {y : MethodName} {ccy : ByteArray} {maxLy : Nat} {ret : Option FieldType} {rmy : Room} {As : List Value} {M1 : Option ρ1} {es : ρ1 → Sg} {index n mcy msy : Nat} {stk : List Value}
abbrev fitsX (a b : Room) (maxLy mcy msy cs ss : Nat) : Prop := a.frames + 1 ≤ b.frames ∧ 8 + (maxLy + 11) + a.locals ≤ b.locals ∧ a.cells = mcy ∧ a.slots = msy ∧ cs + mcy ≤ b.cells ∧ ss + msy ≤ b.slots
abbrev wsMH (y : MethodName) (ccy : ByteArray) (maxLy : Nat) (ret : Option FieldType) (hh : List (Nat × Nat × Nat × Nat)) : List Cond := .codeWith y ccy maxLy ret hh :: wsL_law
theorem gi_SH {hh : List (Nat × Nat × Nat × Nat)} (h1 : Cond.methodLink own index y ∈ wsL_law) (h2 : Cond.static y ∈ wsL_law) (h4 : Cond.initialized y.cls ∈ wsL_law) (hc : Cond.codeWith y ccy maxLy ret hh ∈ wsL_law) : GoodIn wsL_law (va_wsS own index y (wsMH y ccy maxLy ret hh)) := by
  intro w h
  rcases List.mem_append.mp h with h | h
  · simp only [List.mem_cons, List.not_mem_nil, or_false] at h
    rcases h with rfl | rfl | rfl
    · exact bg_in h1
    · exact bg_in h2
    · exact bg_in h4
  · rcases List.mem_cons.mp h with e | h
    · rw [e]; exact bg_in hc
    · exact bg_in h

theorem g_xcallVi {ex : ρ1 → Int32 ⊕ Nat} {hf : ρ1 → Nat → Option ρ} {f : ρ1 → Int32 → Option ρ} {b ci N : Nat} {Cn : String} {T : u_T} {fl : List Nat} (C : MC X K cc nL own rm) (hM : ∀ r1, M1 = some r1 → vx_Met X.l y (wsM y ccy maxLy ret) rmy (va_Pc (.ref (X.ad b) :: As) (PW X σ)) (CXi X (ex r1) (es r1)) (CXx X (ex r1) (es r1)) mcy msy X.A) (hs : SHP[b]? = some (ci + 5, fl)) (hcl : classes[ci]? = some (Cn, T, N)) (h1 : Cond.methodLink own index y ∈ wsL_law) (h2 : Cond.instanceMethod y ∈ wsL_law) (h3 : Cond.selects Cn y y ∈ wsL_law) (h4 : Cond.initialized Cn ∈ wsL_law) (h5 : Cond.code y ccy maxLy ret ∈ wsL_law) (hd : y.cls = Cn ∧ y.cls ≠ "java/lang/invoke/MethodHandle" ∧ y.cls ≠ "java/lang/invoke/VarHandle" ∧ (parseMethodDescriptor y.desc).map (fun d => d.parameters.length) = some n) (hR : fitsX rmy rm maxLy mcy msy cs ss) (hst : (st.map fun v => v.category).sum ≤ 8) (hn : As.length = n) (hstk : stk = As.reverse ++ .ref (X.ad b) :: st) (d : decode cc pc = .ok (.invokevirtual index, 3))
    (kx : ∀ r1 e, M1 = some r1 → ex r1 = .inr e → GX X K nL Q (hf r1 e) (es r1) (cs + mcy) (ss + msy) pc lo e)
    (k : ∀ r1 v, M1 = some r1 → ex r1 = .inl v → GO X K nL Q (f r1 v) (es r1) (cs + mcy) (ss + msy) (pc + 3) lo (.int v :: st)) : GO X K nL Q (M1.bind fun r1 => xcat (ex r1) (hf r1) (f r1)) σ cs ss pc lo stk := by
  intro r0 hr H locs ls hP hS hl
  obtain ⟨r1, e, hr⟩ := Option.bind_eq_some_iff.mp hr
  subst hstk
  refine vx_calli (vx_runV (As := As) (rest := st) ⟨C.x, C.b, C.ml, C.ow, C.ts⟩ (hM r1 e) (cwV n C.ts (gi_V h1 h2 h3 h4 h5) rfl hR.2.2.1 hR.2.2.2.1 hd (by rw [C.R]; exact ⟨hR.1, hR.2.1⟩)) ⟨pw_blind _ σ, recvX C hP hs hcl, fun U hU hW => ⟨rfl, pw_at C hP hS U hU hW⟩⟩ rfl hn hl.1 rfl (lv_room hst) d (by rw [C.R]; exact hR.2.2.2.2)) hS (fun q _ h => h) (fun q h => h) (fun q _ h => h) (fun E ce q9 u t H1 locs1 ht hvm hpx hB hz hk hS1 g1 g2 g3 => ?_) (fun r u t H1 locs1 ht hvm hw hB hz hk hS1 => ?_)
  · obtain ⟨⟨e0, he0, rfl⟩, hB⟩ := hB
    rw [he0] at hr
    exact kx r1 e0 e he0 r0 hr H1 locs1 ls st q9 ce (by rw [← ht]; exact hB) hS1 hl g1 g2 g3
  · rw [hw] at hr
    exact k r1 r e hw r0 hr H1 locs1 ls (by rw [← ht]; exact hB) hS1 hl
theorem g_xcallVv {ex : ρ1 → Unit ⊕ Nat} {hf : ρ1 → Nat → Option ρ} {f : ρ1 → Unit → Option ρ} {b ci N : Nat} {Cn : String} {T : u_T} {fl : List Nat} (C : MC X K cc nL own rm) (hM : ∀ r1, M1 = some r1 → vx_Met X.l y (wsM y ccy maxLy ret) rmy (va_Pc (.ref (X.ad b) :: As) (PW X σ)) (CXv X (ex r1) (es r1)) (CXx X (ex r1) (es r1)) mcy msy X.A) (hs : SHP[b]? = some (ci + 5, fl)) (hcl : classes[ci]? = some (Cn, T, N)) (h1 : Cond.methodLink own index y ∈ wsL_law) (h2 : Cond.instanceMethod y ∈ wsL_law) (h3 : Cond.selects Cn y y ∈ wsL_law) (h4 : Cond.initialized Cn ∈ wsL_law) (h5 : Cond.code y ccy maxLy ret ∈ wsL_law) (hd : y.cls = Cn ∧ y.cls ≠ "java/lang/invoke/MethodHandle" ∧ y.cls ≠ "java/lang/invoke/VarHandle" ∧ (parseMethodDescriptor y.desc).map (fun d => d.parameters.length) = some n) (hR : fitsX rmy rm maxLy mcy msy cs ss) (hst : (st.map fun v => v.category).sum ≤ 8) (hn : As.length = n) (hstk : stk = As.reverse ++ .ref (X.ad b) :: st) (d : decode cc pc = .ok (.invokevirtual index, 3))
    (kx : ∀ r1 e, M1 = some r1 → ex r1 = .inr e → GX X K nL Q (hf r1 e) (es r1) (cs + mcy) (ss + msy) pc lo e)
    (k : ∀ r1 v, M1 = some r1 → ex r1 = .inl v → GO X K nL Q (f r1 v) (es r1) (cs + mcy) (ss + msy) (pc + 3) lo (st)) : GO X K nL Q (M1.bind fun r1 => xcat (ex r1) (hf r1) (f r1)) σ cs ss pc lo stk := by
  intro r0 hr H locs ls hP hS hl
  obtain ⟨r1, e, hr⟩ := Option.bind_eq_some_iff.mp hr
  subst hstk
  refine vx_callv (vx_runV (As := As) (rest := st) ⟨C.x, C.b, C.ml, C.ow, C.ts⟩ (hM r1 e) (cwV n C.ts (gi_V h1 h2 h3 h4 h5) rfl hR.2.2.1 hR.2.2.2.1 hd (by rw [C.R]; exact ⟨hR.1, hR.2.1⟩)) ⟨pw_blind _ σ, recvX C hP hs hcl, fun U hU hW => ⟨rfl, pw_at C hP hS U hU hW⟩⟩ rfl hn hl.1 rfl (lv_room hst) d (by rw [C.R]; exact hR.2.2.2.2)) hS (fun q _ h => h) (fun q h => h) (fun q _ h => h) (fun E ce q9 u t H1 locs1 ht hvm hpx hB hz hk hS1 g1 g2 g3 => ?_) (fun u t H1 locs1 ht hvm hw hB hz hk hS1 => ?_)
  · obtain ⟨⟨e0, he0, rfl⟩, hB⟩ := hB
    rw [he0] at hr
    exact kx r1 e0 e he0 r0 hr H1 locs1 ls st q9 ce (by rw [← ht]; exact hB) hS1 hl g1 g2 g3
  · rw [hw] at hr
    exact k r1 () e hw r0 hr H1 locs1 ls (by rw [← ht]; exact hB) hS1 hl
theorem g_xcallVl {ex : ρ1 → Int64 ⊕ Nat} {hf : ρ1 → Nat → Option ρ} {f : ρ1 → Int64 → Option ρ} {b ci N : Nat} {Cn : String} {T : u_T} {fl : List Nat} (C : MC X K cc nL own rm) (hM : ∀ r1, M1 = some r1 → vx_Met X.l y (wsM y ccy maxLy ret) rmy (va_Pc (.ref (X.ad b) :: As) (PW X σ)) (CXl X (ex r1) (es r1)) (CXx X (ex r1) (es r1)) mcy msy X.A) (hs : SHP[b]? = some (ci + 5, fl)) (hcl : classes[ci]? = some (Cn, T, N)) (h1 : Cond.methodLink own index y ∈ wsL_law) (h2 : Cond.instanceMethod y ∈ wsL_law) (h3 : Cond.selects Cn y y ∈ wsL_law) (h4 : Cond.initialized Cn ∈ wsL_law) (h5 : Cond.code y ccy maxLy ret ∈ wsL_law) (hd : y.cls = Cn ∧ y.cls ≠ "java/lang/invoke/MethodHandle" ∧ y.cls ≠ "java/lang/invoke/VarHandle" ∧ (parseMethodDescriptor y.desc).map (fun d => d.parameters.length) = some n) (hR : fitsX rmy rm maxLy mcy msy cs ss) (hst : (st.map fun v => v.category).sum ≤ 8) (hn : As.length = n) (hstk : stk = As.reverse ++ .ref (X.ad b) :: st) (d : decode cc pc = .ok (.invokevirtual index, 3))
    (kx : ∀ r1 e, M1 = some r1 → ex r1 = .inr e → GX X K nL Q (hf r1 e) (es r1) (cs + mcy) (ss + msy) pc lo e)
    (k : ∀ r1 v, M1 = some r1 → ex r1 = .inl v → GO X K nL Q (f r1 v) (es r1) (cs + mcy) (ss + msy) (pc + 3) lo (.long v :: st)) : GO X K nL Q (M1.bind fun r1 => xcat (ex r1) (hf r1) (f r1)) σ cs ss pc lo stk := by
  intro r0 hr H locs ls hP hS hl
  obtain ⟨r1, e, hr⟩ := Option.bind_eq_some_iff.mp hr
  subst hstk
  refine vx_calll (vx_runV (As := As) (rest := st) ⟨C.x, C.b, C.ml, C.ow, C.ts⟩ (hM r1 e) (cwV n C.ts (gi_V h1 h2 h3 h4 h5) rfl hR.2.2.1 hR.2.2.2.1 hd (by rw [C.R]; exact ⟨hR.1, hR.2.1⟩)) ⟨pw_blind _ σ, recvX C hP hs hcl, fun U hU hW => ⟨rfl, pw_at C hP hS U hU hW⟩⟩ rfl hn hl.1 rfl (lv_room hst) d (by rw [C.R]; exact hR.2.2.2.2)) hS (fun q _ h => h) (fun q h => h) (fun q _ h => h) (fun E ce q9 u t H1 locs1 ht hvm hpx hB hz hk hS1 g1 g2 g3 => ?_) (fun r u t H1 locs1 ht hvm hw hB hz hk hS1 => ?_)
  · obtain ⟨⟨e0, he0, rfl⟩, hB⟩ := hB
    rw [he0] at hr
    exact kx r1 e0 e he0 r0 hr H1 locs1 ls st q9 ce (by rw [← ht]; exact hB) hS1 hl g1 g2 g3
  · rw [hw] at hr
    exact k r1 r e hw r0 hr H1 locs1 ls (by rw [← ht]; exact hB) hS1 hl
theorem g_xcallSi {ex : ρ1 → Int32 ⊕ Nat} {hf : ρ1 → Nat → Option ρ} {f : ρ1 → Int32 → Option ρ} (C : MC X K cc nL own rm) (hM : ∀ r1, M1 = some r1 → vx_Met X.l y (wsM y ccy maxLy ret) rmy (va_Pc (As) (PW X σ)) (CXi X (ex r1) (es r1)) (CXx X (ex r1) (es r1)) mcy msy X.A) (h1 : Cond.methodLink own index y ∈ wsL_law) (h2 : Cond.static y ∈ wsL_law) (h4 : Cond.initialized y.cls ∈ wsL_law) (h5 : Cond.code y ccy maxLy ret ∈ wsL_law) (hd : y.cls ≠ "java/lang/invoke/MethodHandle" ∧ y.cls ≠ "java/lang/invoke/VarHandle" ∧ (parseMethodDescriptor y.desc).map (fun d => d.parameters.length) = some n) (hR : fitsX rmy rm maxLy mcy msy cs ss) (hst : (st.map fun v => v.category).sum ≤ 8) (hn : As.length = n) (hstk : stk = As.reverse ++ st) (d : decode cc pc = .ok (.invokestatic index, 3))
    (kx : ∀ r1 e, M1 = some r1 → ex r1 = .inr e → GX X K nL Q (hf r1 e) (es r1) (cs + mcy) (ss + msy) pc lo e)
    (k : ∀ r1 v, M1 = some r1 → ex r1 = .inl v → GO X K nL Q (f r1 v) (es r1) (cs + mcy) (ss + msy) (pc + 3) lo (.int v :: st)) : GO X K nL Q (M1.bind fun r1 => xcat (ex r1) (hf r1) (f r1)) σ cs ss pc lo stk := by
  intro r0 hr H locs ls hP hS hl
  obtain ⟨r1, e, hr⟩ := Option.bind_eq_some_iff.mp hr
  subst hstk
  refine vx_calli (vx_runS (As := As) (rest := st) ⟨C.x, C.b, C.ml, C.ow, C.ts⟩ (hM r1 e) (va_cwS n C.ts (gi_S h1 h2 h4 h5) rfl hR.2.2.1 hR.2.2.2.1 hd (by rw [C.R]; exact ⟨hR.1, hR.2.1⟩)) ⟨pw_blind _ σ, fun U hU hW => ⟨rfl, pw_at C hP hS U hU hW⟩⟩ rfl hn hl.1 rfl (lv_room hst) d (by rw [C.R]; exact hR.2.2.2.2)) hS (fun q _ h => h) (fun q h => h) (fun q _ h => h) (fun E ce q9 u t H1 locs1 ht hvm hpx hB hz hk hS1 g1 g2 g3 => ?_) (fun r u t H1 locs1 ht hvm hw hB hz hk hS1 => ?_)
  · obtain ⟨⟨e0, he0, rfl⟩, hB⟩ := hB
    rw [he0] at hr
    exact kx r1 e0 e he0 r0 hr H1 locs1 ls st q9 ce (by rw [← ht]; exact hB) hS1 hl g1 g2 g3
  · rw [hw] at hr
    exact k r1 r e hw r0 hr H1 locs1 ls (by rw [← ht]; exact hB) hS1 hl
theorem g_xcallSv {ex : ρ1 → Unit ⊕ Nat} {hf : ρ1 → Nat → Option ρ} {f : ρ1 → Unit → Option ρ} (C : MC X K cc nL own rm) (hM : ∀ r1, M1 = some r1 → vx_Met X.l y (wsM y ccy maxLy ret) rmy (va_Pc (As) (PW X σ)) (CXv X (ex r1) (es r1)) (CXx X (ex r1) (es r1)) mcy msy X.A) (h1 : Cond.methodLink own index y ∈ wsL_law) (h2 : Cond.static y ∈ wsL_law) (h4 : Cond.initialized y.cls ∈ wsL_law) (h5 : Cond.code y ccy maxLy ret ∈ wsL_law) (hd : y.cls ≠ "java/lang/invoke/MethodHandle" ∧ y.cls ≠ "java/lang/invoke/VarHandle" ∧ (parseMethodDescriptor y.desc).map (fun d => d.parameters.length) = some n) (hR : fitsX rmy rm maxLy mcy msy cs ss) (hst : (st.map fun v => v.category).sum ≤ 8) (hn : As.length = n) (hstk : stk = As.reverse ++ st) (d : decode cc pc = .ok (.invokestatic index, 3))
    (kx : ∀ r1 e, M1 = some r1 → ex r1 = .inr e → GX X K nL Q (hf r1 e) (es r1) (cs + mcy) (ss + msy) pc lo e)
    (k : ∀ r1 v, M1 = some r1 → ex r1 = .inl v → GO X K nL Q (f r1 v) (es r1) (cs + mcy) (ss + msy) (pc + 3) lo (st)) : GO X K nL Q (M1.bind fun r1 => xcat (ex r1) (hf r1) (f r1)) σ cs ss pc lo stk := by
  intro r0 hr H locs ls hP hS hl
  obtain ⟨r1, e, hr⟩ := Option.bind_eq_some_iff.mp hr
  subst hstk
  refine vx_callv (vx_runS (As := As) (rest := st) ⟨C.x, C.b, C.ml, C.ow, C.ts⟩ (hM r1 e) (va_cwS n C.ts (gi_S h1 h2 h4 h5) rfl hR.2.2.1 hR.2.2.2.1 hd (by rw [C.R]; exact ⟨hR.1, hR.2.1⟩)) ⟨pw_blind _ σ, fun U hU hW => ⟨rfl, pw_at C hP hS U hU hW⟩⟩ rfl hn hl.1 rfl (lv_room hst) d (by rw [C.R]; exact hR.2.2.2.2)) hS (fun q _ h => h) (fun q h => h) (fun q _ h => h) (fun E ce q9 u t H1 locs1 ht hvm hpx hB hz hk hS1 g1 g2 g3 => ?_) (fun u t H1 locs1 ht hvm hw hB hz hk hS1 => ?_)
  · obtain ⟨⟨e0, he0, rfl⟩, hB⟩ := hB
    rw [he0] at hr
    exact kx r1 e0 e he0 r0 hr H1 locs1 ls st q9 ce (by rw [← ht]; exact hB) hS1 hl g1 g2 g3
  · rw [hw] at hr
    exact k r1 () e hw r0 hr H1 locs1 ls (by rw [← ht]; exact hB) hS1 hl
theorem g_xcallSl {ex : ρ1 → Int64 ⊕ Nat} {hf : ρ1 → Nat → Option ρ} {f : ρ1 → Int64 → Option ρ} (C : MC X K cc nL own rm) (hM : ∀ r1, M1 = some r1 → vx_Met X.l y (wsM y ccy maxLy ret) rmy (va_Pc (As) (PW X σ)) (CXl X (ex r1) (es r1)) (CXx X (ex r1) (es r1)) mcy msy X.A) (h1 : Cond.methodLink own index y ∈ wsL_law) (h2 : Cond.static y ∈ wsL_law) (h4 : Cond.initialized y.cls ∈ wsL_law) (h5 : Cond.code y ccy maxLy ret ∈ wsL_law) (hd : y.cls ≠ "java/lang/invoke/MethodHandle" ∧ y.cls ≠ "java/lang/invoke/VarHandle" ∧ (parseMethodDescriptor y.desc).map (fun d => d.parameters.length) = some n) (hR : fitsX rmy rm maxLy mcy msy cs ss) (hst : (st.map fun v => v.category).sum ≤ 8) (hn : As.length = n) (hstk : stk = As.reverse ++ st) (d : decode cc pc = .ok (.invokestatic index, 3))
    (kx : ∀ r1 e, M1 = some r1 → ex r1 = .inr e → GX X K nL Q (hf r1 e) (es r1) (cs + mcy) (ss + msy) pc lo e)
    (k : ∀ r1 v, M1 = some r1 → ex r1 = .inl v → GO X K nL Q (f r1 v) (es r1) (cs + mcy) (ss + msy) (pc + 3) lo (.long v :: st)) : GO X K nL Q (M1.bind fun r1 => xcat (ex r1) (hf r1) (f r1)) σ cs ss pc lo stk := by
  intro r0 hr H locs ls hP hS hl
  obtain ⟨r1, e, hr⟩ := Option.bind_eq_some_iff.mp hr
  subst hstk
  refine vx_calll (vx_runS (As := As) (rest := st) ⟨C.x, C.b, C.ml, C.ow, C.ts⟩ (hM r1 e) (va_cwS n C.ts (gi_S h1 h2 h4 h5) rfl hR.2.2.1 hR.2.2.2.1 hd (by rw [C.R]; exact ⟨hR.1, hR.2.1⟩)) ⟨pw_blind _ σ, fun U hU hW => ⟨rfl, pw_at C hP hS U hU hW⟩⟩ rfl hn hl.1 rfl (lv_room hst) d (by rw [C.R]; exact hR.2.2.2.2)) hS (fun q _ h => h) (fun q h => h) (fun q _ h => h) (fun E ce q9 u t H1 locs1 ht hvm hpx hB hz hk hS1 g1 g2 g3 => ?_) (fun r u t H1 locs1 ht hvm hw hB hz hk hS1 => ?_)
  · obtain ⟨⟨e0, he0, rfl⟩, hB⟩ := hB
    rw [he0] at hr
    exact kx r1 e0 e he0 r0 hr H1 locs1 ls st q9 ce (by rw [← ht]; exact hB) hS1 hl g1 g2 g3
  · rw [hw] at hr
    exact k r1 r e hw r0 hr H1 locs1 ls (by rw [← ht]; exact hB) hS1 hl
theorem g_xcallHi {ex : ρ1 → Int32 ⊕ Nat} {hf : ρ1 → Nat → Option ρ} {f : ρ1 → Int32 → Option ρ} {hh : List (Nat × Nat × Nat × Nat)} (C : MC X K cc nL own rm) (hM : ∀ r1, M1 = some r1 → vx_Met X.l y (wsMH y ccy maxLy ret hh) rmy (va_Pc (As) (PW X σ)) (CXi X (ex r1) (es r1)) (CXx X (ex r1) (es r1)) mcy msy X.A) (h1 : Cond.methodLink own index y ∈ wsL_law) (h2 : Cond.static y ∈ wsL_law) (h4 : Cond.initialized y.cls ∈ wsL_law) (h5 : Cond.codeWith y ccy maxLy ret hh ∈ wsL_law) (hd : y.cls ≠ "java/lang/invoke/MethodHandle" ∧ y.cls ≠ "java/lang/invoke/VarHandle" ∧ (parseMethodDescriptor y.desc).map (fun d => d.parameters.length) = some n) (hR : fitsX rmy rm maxLy mcy msy cs ss) (hst : (st.map fun v => v.category).sum ≤ 8) (hn : As.length = n) (hstk : stk = As.reverse ++ st) (d : decode cc pc = .ok (.invokestatic index, 3))
    (kx : ∀ r1 e, M1 = some r1 → ex r1 = .inr e → GX X K nL Q (hf r1 e) (es r1) (cs + mcy) (ss + msy) pc lo e)
    (k : ∀ r1 v, M1 = some r1 → ex r1 = .inl v → GO X K nL Q (f r1 v) (es r1) (cs + mcy) (ss + msy) (pc + 3) lo (.int v :: st)) : GO X K nL Q (M1.bind fun r1 => xcat (ex r1) (hf r1) (f r1)) σ cs ss pc lo stk := by
  intro r0 hr H locs ls hP hS hl
  obtain ⟨r1, e, hr⟩ := Option.bind_eq_some_iff.mp hr
  subst hstk
  refine vx_calli (vx_runSX (As := As) (rest := st) ⟨C.x, C.b, C.ml, C.ow, C.ts⟩ (hM r1 e) (vx_cwSW n C.ts (gi_SH h1 h2 h4 h5) rfl hR.2.2.1 hR.2.2.2.1 hd (by rw [C.R]; exact ⟨hR.1, hR.2.1⟩)) ⟨pw_blind _ σ, fun U hU hW => ⟨rfl, pw_at C hP hS U hU hW⟩⟩ rfl hn hl.1 rfl (lv_room hst) d (by rw [C.R]; exact hR.2.2.2.2)) hS (fun q _ h => h) (fun q h => h) (fun q _ h => h) (fun E ce q9 u t H1 locs1 ht hvm hpx hB hz hk hS1 g1 g2 g3 => ?_) (fun r u t H1 locs1 ht hvm hw hB hz hk hS1 => ?_)
  · obtain ⟨⟨e0, he0, rfl⟩, hB⟩ := hB
    rw [he0] at hr
    exact kx r1 e0 e he0 r0 hr H1 locs1 ls st q9 ce (by rw [← ht]; exact hB) hS1 hl g1 g2 g3
  · rw [hw] at hr
    exact k r1 r e hw r0 hr H1 locs1 ls (by rw [← ht]; exact hB) hS1 hl
end GX3
theorem g_mminl {X : Xc} {K : Kc} {cc : ByteArray} {nL : Nat} {own : String} {rm : Room} {ρ : Type} {Q : ρ → State → Prop} {M : Option ρ} {σ : Sg} {cs ss pc : Nat} {lo : List (Option Value)} {st : List Value} {x y : Int64} {index : Nat} (C : MC X K cc nL own rm) (h1 : Cond.methodLink own index Lib.MathLoose.min_long.x ∈ wsL_law) (h2 : Cond.static Lib.MathLoose.min_long.x ∈ wsL_law) (h3 : Cond.initialized "java/lang/Math" ∈ wsL_law) (h4 : Cond.code Lib.MathLoose.min_long.x Lib.MathLoose.min_long.code 4 (some .long) ∈ wsL_law) (hR : 1 ≤ rm.frames ∧ (st.map fun v => v.category).sum + 15 ≤ rm.locals) (hc : cs ≤ rm.cells ∧ ss ≤ rm.slots) (d : decode cc pc = .ok (.invokestatic index, 3)) (k : GO X K nL Q M σ cs ss (pc + 3) lo (.long (if y < x then y else x) :: st)) : GO X K nL Q M σ cs ss pc lo (.long y :: .long x :: st) :=
  fun r hr H locs ls hP hS hl => va_mmin_long C.x C.b (by rw [C.ml]; exact hl.1.symm) C.ow (C.ts _ h1) (C.ts _ h2) (C.ts _ h3) (C.ts _ h4) (by rw [C.R]; exact hR.1) (by rw [C.R]; exact hR.2) (by rw [C.R]; exact hc.1) (by rw [C.R]; exact hc.2) d (k r hr H locs ls hP hS hl)
theorem g_mmaxl {X : Xc} {K : Kc} {cc : ByteArray} {nL : Nat} {own : String} {rm : Room} {ρ : Type} {Q : ρ → State → Prop} {M : Option ρ} {σ : Sg} {cs ss pc : Nat} {lo : List (Option Value)} {st : List Value} {x y : Int64} {index : Nat} (C : MC X K cc nL own rm) (h1 : Cond.methodLink own index Lib.MathLoose.max_long.x ∈ wsL_law) (h2 : Cond.static Lib.MathLoose.max_long.x ∈ wsL_law) (h3 : Cond.initialized "java/lang/Math" ∈ wsL_law) (h4 : Cond.code Lib.MathLoose.max_long.x Lib.MathLoose.max_long.code 4 (some .long) ∈ wsL_law) (hR : 1 ≤ rm.frames ∧ (st.map fun v => v.category).sum + 15 ≤ rm.locals) (hc : cs ≤ rm.cells ∧ ss ≤ rm.slots) (d : decode cc pc = .ok (.invokestatic index, 3)) (k : GO X K nL Q M σ cs ss (pc + 3) lo (.long (if y < x then x else y) :: st)) : GO X K nL Q M σ cs ss pc lo (.long y :: .long x :: st) :=
  fun r hr H locs ls hP hS hl => va_mmax_long C.x C.b (by rw [C.ml]; exact hl.1.symm) C.ow (C.ts _ h1) (C.ts _ h2) (C.ts _ h3) (C.ts _ h4) (by rw [C.R]; exact hR.1) (by rw [C.R]; exact hR.2) (by rw [C.R]; exact hc.1) (by rw [C.R]; exact hc.2) d (k r hr H locs ls hP hS hl)
/-! a method of a class some of whose methods the machine runs itself -/
theorem Met.ofWF {l : Launch} {y : MethodName} {ws ws' : List Cond} {rm : Room} {Pc : Array Value → State → Prop} {Qc : Array Value → State → Outcome → State → Prop} {mc ms : Nat} {free : Addr → Prop} {cc : ByteArray} {maxL : Nat} {ret : Option FieldType}
    (hy : plainFor y = true) (hw : ws = Cond.code y cc maxL ret :: ws')
    (body : ∀ p e s m args below meth c s₁, BodyLoose p l y (headSpec ws rm) cc maxL ret e s m args below meth c s₁ → c.maxLocals = maxL → Pc args s →
      W p l e (headSpec ws rm).room s m args below meth c s.heap [] 0 0 (MQ below Qc args s mc ms free) (entryFrame m args maxL)) : Met l y ws rm Pc Qc mc ms free := by
  refine MetFree.of_bodySF (code := cc) (maxLocals := maxL) (ret := ret) hy ?_ ?_
  · intro args s m h hn
    obtain ⟨meth, c, h1, h2, h3, h4, h5, h6, -, -⟩ := Cond.code_spec hn (atoms_spec (ws := ws) h _ (by rw [hw]; exact List.mem_cons_self))
    exact ⟨meth, c, h1, h2, h3, h4, h5, h6⟩
  · intro p e s m args below meth c s₁ B hml hP _
    have hh0 : s₁.heap = s.heap := by rw [B.state]; rfl
    obtain ⟨t, a1, o, b1, b2, b3⟩ := body p e s m args below meth c s₁ B hml hP s₁ hh0 (Stand.of_body B)
    exact ⟨t, o, a1, b1, b2, ⟨b3.1, b3.2⟩⟩
theorem mt_ofF {X : Xc} {cc : ByteArray} {own : String} {rm : Room} {ρ : Type} {M : Option ρ} {σ : Sg} {as : List Value} {y : MethodName} {maxL : Nat} {ret : Option FieldType} {Qc : ρ → Array Value → State → Outcome → State → Prop} {lo : List (Option Value)} (hy : plainFor y = true) (ho : y.cls = own) (hn : (lg_sl as).length ≤ maxL) (hlo : lo0 as maxL = lo)
    (body : ∀ K : Kc, MC X K cc maxL own rm → K.meth.sig.returnType = ret → GO X K maxL (fun r => MQ K.below (Qc r) K.args K.s 0 0 X.A) M σ 0 0 0 lo []) (r : ρ) (hr : M = some r) : Met X.l y (.code y cc maxL ret :: wsL_law) rm (va_Pc as (PW X σ)) (Qc r) 0 0 X.A := by
  refine Met.ofWF (cc := cc) (maxL := maxL) (ret := ret) hy rfl ?_
  intro p e s m args below meth c s₁ B hml hv
  obtain ⟨rfl, hz, hok, hP, hK, hXK, hU, hN⟩ := hv
  have C : MC X (p, e, rm, s, m, as.toArray, below, meth, c) cc maxL own rm := ⟨⟨B.exec, B.bytes, hml, by rw [← ho]; exact findClass_of_methodNamed B.named, fun w h => atoms_spec (ws := .code y cc maxL ret :: wsL_law) B.pre w (List.mem_cons_of_mem _ h)⟩, hK, hok, hz, B.notSynchronized, rfl, hXK, hU, hN⟩
  have hl := lo0_lvo as maxL hn
  rw [lg_entry_eq]
  subst hlo
  exact body _ C B.returns r hr s.heap [] _ hP va_S.rf hl

/-! THE CLAIM OUT OF ONE WALK OF THE LAW'S BODY. Your part is whole_start (and what it stands on); all else here is the same for every law, but numbers. -/
def R_law : String := "DockLayoutLaw"
def lw_P (b : Addr) (xs : List Int32) (args : Array Value) (s : State) : Prop := args = #[.ref b] ∧ s.IntsAt b xs ∧ xs.length ≤ 3072 ∧ (Jvm.Cond.and given_1 narrow_1).before args s = true
def lw_Q (_ : Array Value) (s : State) (o : Outcome) (t : State) : Prop := o = .returned (some (.int 1)) ∧ Framed s o t [] 601024 7293033
def lw_Z (below : List Frame) (a : Array Value) (s : State) : State → Prop := fun t => ∃ o, t.status = .running ∧ Ended t below o ∧ lw_Q a s o t
/-- the law's own end, with 1 on the stack, nothing written that was there before, its room as the claim has it -/
theorem lw_ret {p : Program} {l : Launch} {e : Env} {s : State} {m : MethodId} {below : List Frame} {meth : Method} {c : Code} {b : Nat} (hx : p.tables.exec = Jvm.exec) (hb : c.code = code) (hr : meth.sig.returnType = ret) (hlocks : meth.locks = false) {pc : Nat} {H : Heap} {ls : Array Slot} (hdg : decode code pc = .ok (.ireturn, 1)) : W p l e room_1 s m #[Value.ref b] below meth c H [] 601024 7293033 (lw_Z below #[Value.ref b] s) (F0 m pc ls [.int 1]) := by
  intro T hT X
  obtain ⟨fs, hret, hrun, hended, hW, hframe⟩ := X.leave (v := some (.int 1)) (hlocks := hlocks) (fun h => by rw [hr] at h; cases h)
  have hmeth' : T.vm.method? m = some meth := X.method'
  refine ⟨T.setFrames fs, ?_, .returned (some (.int 1)), hrun, hended, rfl, ⟨_, rfl⟩, hW, hframe⟩
  jvm_step X.here [X.here.top, hx, hb, hdg, hmeth', hr, ret, narrow_b1]
  (try refine ⟨rfl, ?_⟩); (try refine ⟨rfl, ?_⟩)
  first | (intro acts; rw [hret _ acts rfl rfl rfl]) | rw [hret _ _ rfl rfl rfl]
  exact Steps.refl _
/-- what holds at the law's entry: the machine, the code, the tables' words (any of lw_tbl by 'hts w (by decide +kernel)'), the script of L ints xs at the cell b, what the Statement gives of the start (any of its parts by flat_of_before) -/
def lw_At (p : Program) (s : State) (m : MethodId) (meth : Method) (c : Code) (b L : Nat) (xs : Nat → Int32) : Prop :=
  p.tables.exec = Jvm.exec ∧ c.code = code ∧ meth.sig.returnType = ret ∧ c.maxLocals = 7 ∧ s.vm.findClass R_law = some m.cls ∧ (∀ w ∈ lw_tbl, w.before #[Value.ref b] s = true) ∧ va_X b L xs s s.heap ∧ b < s.heap.size ∧ meth.locks = false ∧ (Jvm.Cond.and given_1 narrow_1).before #[Value.ref b] s = true
/-! BASE G: the law's own rows -/
def lawQ (K : Kc) (r : Bool) : State → Prop := match r with
  | true => lw_Z K.below K.args K.s
  | false => fun _ => True
def LH (X : Xc) (K : Kc) (b L : Nat) (xs : Nat → Int32) : Prop := va_X b L xs K.s K.s.heap ∧ b < K.s.heap.size ∧ X.z = K.s.heap.size ∧ K.meth.sig.returnType = ret ∧ K.args = #[Value.ref b]
section GL
variable {X : Xc} {K : Kc} {cc : ByteArray} {nL : Nat} {own : String} {rm : Room} {ρ ρ1 : Type} {Q : ρ → State → Prop} {M : Option ρ} {σ : Sg} {cs ss pc b L : Nat} {xs : Nat → Int32} {lo : List (Option Value)} {st : List Value}
theorem LH.A (h : LH X K b L xs) : ¬ X.A b := by
  intro h9
  have h9 : X.z ≤ b := h9
  rw [h.2.2.1] at h9
  exact absurd h.2.1 (Nat.not_lt.mpr h9)
theorem g_sld {i : Int32} (C : MC X K cc nL own rm) (h : LH X K b L xs) (d : decode cc pc = .ok (.iaload, 1)) (k : GO X K nL Q M σ cs ss (pc + 1) lo (.int (xs i.toNatClampNeg) :: st)) : GO X K nL Q (if ck i L then M else none) σ cs ss pc lo (.int i :: .ref b :: st) :=
  fun r hr H locs ls hP hS hl => by
    by_cases e : ck i L
    · rw [if_pos e] at hr
      exact va_sld C.x C.b h.1 h.2.1 h.A hS e d (k r hr H locs ls hP hS hl)
    · rw [if_neg e] at hr; cases hr
theorem g_slen (C : MC X K cc nL own rm) (h : LH X K b L xs) (d : decode cc pc = .ok (.arraylength, 1)) (k : GO X K nL Q M σ cs ss (pc + 1) lo (.int (nI L) :: st)) : GO X K nL Q M σ cs ss pc lo (.ref b :: st) :=
  fun r hr H locs ls hP hS hl => va_slen C.x C.b h.1 h.2.1 h.A hS d (k r hr H locs ls hP hS hl)
theorem g_law_f : GO X K nL (lawQ K) (some false) σ cs ss pc lo st := fun r hr H locs ls hP hS hl => by
  cases hr
  exact fun T hT X9 => ⟨_, Steps.refl _, trivial⟩
theorem g_law_t (C : MC X K cL_law nL own room_1) (h : LH X K b L xs) (hc : cs ≤ 601024) (hs : ss ≤ 7293033) (d : decode cL_law pc = .ok (.ireturn, 1)) : GO X K nL (lawQ K) (some true) σ cs ss pc lo [.int 1] := fun r hr H locs ls hP hS hl => by
  cases hr
  obtain ⟨p, e, R, s, m, args, below, meth, c⟩ := K
  obtain ⟨h1, h2, h3, h4, rfl⟩ := h
  have hR : R = room_1 := C.R
  subst hR
  refine W.widen hc hs (va_forget (fun q hq => ?_) (lw_ret C.x C.b h4 C.lk d))
  have := hS.2.2 q hq
  have h5 : X.z ≤ q.base := this
  rw [h3] at h5
  exact h5
theorem g_callHi {y : MethodName} {ccy : ByteArray} {maxLy : Nat} {ret : Option FieldType} {rmy : Room} {As : List Value} {M1 : Option (Int32 × Sg)} {index n mcy msy : Nat} {stk : List Value} {f : Int32 × Sg → Option ρ} {hh : List (Nat × Nat × Nat × Nat)} (C : MC X K cc nL own rm) (hM : ∀ r1, M1 = some r1 → vx_Met X.l y (wsMH y ccy maxLy ret hh) rmy (va_Pc As (PW X σ)) (CXi X (.inl r1.1) r1.2) (CXx X (.inl r1.1 : Int32 ⊕ Nat) r1.2) mcy msy X.A) (h1 : Cond.methodLink own index y ∈ wsL_law) (h2 : Cond.static y ∈ wsL_law) (h4 : Cond.initialized y.cls ∈ wsL_law) (h5 : Cond.codeWith y ccy maxLy ret hh ∈ wsL_law) (hd : y.cls ≠ "java/lang/invoke/MethodHandle" ∧ y.cls ≠ "java/lang/invoke/VarHandle" ∧ (parseMethodDescriptor y.desc).map (fun d => d.parameters.length) = some n) (hR : fitsX rmy rm maxLy mcy msy cs ss) (hst : (st.map fun v => v.category).sum ≤ 8) (hn : As.length = n) (hstk : stk = As.reverse ++ st) (d : decode cc pc = .ok (.invokestatic index, 3))
    (k : ∀ r1, M1 = some r1 → GO X K nL Q (f r1) r1.2 (cs + mcy) (ss + msy) (pc + 3) lo (.int r1.1 :: st)) : GO X K nL Q (M1.bind f) σ cs ss pc lo stk := by
  have := g_xcallHi (ex := fun r1 : Int32 × Sg => (.inl r1.1 : Int32 ⊕ Nat)) (es := fun r1 => r1.2) (hf := fun _ _ => (none : Option ρ)) (f := fun r1 _ => f r1) (Q := Q) (lo := lo) (M1 := M1) C hM h1 h2 h4 h5 hd hR hst hn hstk d (fun r1 e _ h => by cases h) (fun r1 v h hv => by
    cases hv
    exact k r1 h)
  exact this
end GL

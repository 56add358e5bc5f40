/-! BASE F: constructors: a world that grows, cell by cell -/
def nestC : List (String × Nat × MethodName × String) := [(RX8, 22, yX2_init, "DockLayout"), (RX8, 29, yX5_init, "DockLayout"), (RX8, 36, yX6_init, "DockLayout"), (RX8, 43, yX7_init, "DockLayout"), (RX1, 29, yX0_init, "DockLayout"), (RX2, 41, yX3_init, "DockLayout"), (RX4, 20, yX0_init, "DockLayout"), (RX6, 11, yX5_init, "DockLayout"), (RX7, 11, yX5_init, "DockLayout")]
def XA (t : State) : Prop := (∀ q ∈ nestC, va_Nw (.methodLinkNest q.1 q.2.1 q.2.2.1 q.2.2.2) t) ∧ va_AO "DockLayout$Placement" t ∧ va_AO "DockLayout$State" t
theorem XA.warm {s U : State} (hW : s.WarmedH U.vm) (h : XA s) : XA U := ⟨fun q hq => va_Nw.warmM hW (h.1 q hq), va_AO.moved hW.alike h.2.1, va_AO.moved hW.alike h.2.2⟩
theorem XA.same {s U : State} (hv : s.vm = U.vm) (h : XA s) : XA U := ⟨fun q hq => va_Nw.same rfl hv (h.1 q hq), va_AO.moved (by rw [hv]; exact Vm.Alike.refl _) h.2.1, va_AO.moved (by rw [hv]; exact Vm.Alike.refl _) h.2.2⟩
def PA (X : Xc) (ws : va_W) (sz : Nat) (U : State) : Prop := U.heap.size = sz ∧ va_P X.D classes ws U.heap ∧ va_K X.D classes (tysX X) U ∧ XA U ∧ va_D (fun _ => True) ws
def MA (X : Xc) (K : Kc) (cc : ByteArray) (nL : Nat) (own : String) (rm : Room) (A : Nat → Prop) : Prop :=
  (K.p.tables.exec = Jvm.exec ∧ K.c.code = cc ∧ K.c.maxLocals = nL ∧ K.s.vm.findClass own = some K.m.cls ∧ ∀ w ∈ wsL_law, w.before K.args K.s = true) ∧
  va_K X.D classes (tysX X) K.s ∧ (∀ q : Nat, K.s.heap.size ≤ q → A q) ∧ K.meth.locks = false ∧ K.R = rm ∧ XA K.s
def GA (X : Xc) (K : Kc) (A : Nat → Prop) (nL : Nat) (Q : State → Prop) (ws : va_W) (cs ss pc : Nat) (lo : List (Option Value)) (st : List Value) : Prop :=
  ∀ (H : Heap) (locs : List Loc) (ls : Array Slot), va_P X.D classes ws H → va_D A ws → va_S A K.s.heap H locs → lvo ls nL lo → W K.p X.l K.e K.R K.s K.m K.args K.below K.meth K.c H locs cs ss Q (F0 K.m pc ls st)
theorem va_P_perm {D : va_G} {cl : List vw_C} {ws ws' : va_W} {H : Heap} (h : va_P D cl ws H) (hp : ws.Perm ws') : va_P D cl ws' H := fun k q hk => by
  obtain ⟨i, hi⟩ := List.getElem?_of_mem (hp.mem_iff.mpr (List.mem_of_getElem? hk))
  exact h i q hi
theorem va_D_iff {A : Nat → Prop} {ws : va_W} : va_D A ws ↔ (ws.map (·.1)).Nodup ∧ ∀ q ∈ ws, A q.1 := by
  constructor
  · intro h
    refine ⟨?_, fun q hq => ?_⟩
    · rw [List.Nodup, List.pairwise_iff_getElem]
      intro i j hi hj hij e
      simp only [List.length_map] at hi hj
      simp only [List.getElem_map] at e
      have := h.1 i j _ _ (List.getElem?_eq_getElem hi) (List.getElem?_eq_getElem hj) e
      omega
    · obtain ⟨i, hi⟩ := List.getElem?_of_mem hq
      exact h.2 i q hi
  · rintro ⟨h1, h2⟩
    refine ⟨fun i j p q hp hq e => ?_, fun k q hk => h2 q (List.mem_of_getElem? hk)⟩
    rw [List.Nodup, List.pairwise_iff_getElem] at h1
    have hi := (List.getElem?_eq_some_iff.mp hp)
    have hj := (List.getElem?_eq_some_iff.mp hq)
    obtain ⟨hi, ei⟩ := hi
    obtain ⟨hj, ej⟩ := hj
    rcases Nat.lt_trichotomy i j with h | h | h
    · exact (h1 i j (by simpa using hi) (by simpa using hj) h (by simp only [List.getElem_map]; rw [ei, ej]; exact e)).elim
    · exact h
    · exact (h1 j i (by simpa using hj) (by simpa using hi) h (by simp only [List.getElem_map]; rw [ei, ej]; exact e.symm)).elim
theorem va_D_perm {A : Nat → Prop} {ws ws' : va_W} (h : va_D A ws) (hp : ws.Perm ws') : va_D A ws' := by
  rw [va_D_iff] at h ⊢
  exact ⟨(hp.map _).nodup_iff.mp h.1, fun q hq => h.2 q (hp.mem_iff.mpr hq)⟩
section GAS
variable {X : Xc} {K : Kc} {cc : ByteArray} {nL : Nat} {own : String} {rm : Room} {A : Nat → Prop} {Q : State → Prop} {ws ws' : va_W} {cs ss pc : Nat} {lo lo' : List (Option Value)} {st : List Value}
theorem MA.x (C : MA X K cc nL own rm A) : K.p.tables.exec = Jvm.exec := C.1.1
theorem MA.b (C : MA X K cc nL own rm A) : K.c.code = cc := C.1.2.1
theorem MA.ml (C : MA X K cc nL own rm A) : K.c.maxLocals = nL := C.1.2.2.1
theorem MA.ow (C : MA X K cc nL own rm A) : K.s.vm.findClass own = some K.m.cls := C.1.2.2.2.1
theorem MA.ts (C : MA X K cc nL own rm A) : ∀ w ∈ wsL_law, w.before K.args K.s = true := C.1.2.2.2.2
theorem MA.kk (C : MA X K cc nL own rm A) : va_K X.D classes (tysX X) K.s := C.2.1
theorem MA.a (C : MA X K cc nL own rm A) : ∀ q : Nat, K.s.heap.size ≤ q → A q := C.2.2.1
theorem MA.lk (C : MA X K cc nL own rm A) : K.meth.locks = false := C.2.2.2.1
theorem MA.R (C : MA X K cc nL own rm A) : K.R = rm := C.2.2.2.2.1
theorem MA.k (C : MA X K cc nL own rm A) : XA K.s := C.2.2.2.2.2
theorem a_eq (h : ws = ws') (k : GA X K A nL Q ws' cs ss pc lo st) : GA X K A nL Q ws cs ss pc lo st := h ▸ k
theorem a_perm (h : ws.Perm ws') (k : GA X K A nL Q ws' cs ss pc lo st) : GA X K A nL Q ws cs ss pc lo st := fun H locs ls hP hD hS hl => k H locs ls (va_P_perm hP h) (va_D_perm hD h) hS hl
theorem a_widen {cs' ss' : Nat} (h1 : cs ≤ cs') (h2 : ss ≤ ss') (k : GA X K A nL Q ws cs' ss' pc lo st) : GA X K A nL Q ws cs ss pc lo st := fun H locs ls hP hD hS hl => W.widen h1 h2 (k H locs ls hP hD hS hl)

theorem a_iconst {n : Int} {v : Int32} (C : MA X K cc nL own rm A)(d : decode cc pc = .ok (.iconst n, 1)) (hv : Int32.ofInt n = v) (k : GA X K A nL Q ws cs ss (pc + 1) lo (.int v :: st)) : GA X K A nL Q ws cs ss pc lo (st) :=
  fun H locs ls hP hD hS hl => lv_iconst C.x C.b d hv (k H locs ls hP hD hS hl)
theorem a_bipush {n : Int} {v : Int32} (C : MA X K cc nL own rm A)(d : decode cc pc = .ok (.bipush n, 2)) (hv : (Int8.ofInt n).toInt32 = v) (k : GA X K A nL Q ws cs ss (pc + 2) lo (.int v :: st)) : GA X K A nL Q ws cs ss pc lo (st) :=
  fun H locs ls hP hD hS hl => lv_bipush C.x C.b d hv (k H locs ls hP hD hS hl)
theorem a_sipush {n : Int} {v : Int32} (C : MA X K cc nL own rm A)(d : decode cc pc = .ok (.sipush n, 3)) (hv : (Int16.ofInt n).toInt32 = v) (k : GA X K A nL Q ws cs ss (pc + 3) lo (.int v :: st)) : GA X K A nL Q ws cs ss pc lo (st) :=
  fun H locs ls hP hD hS hl => lv_sipush C.x C.b d hv (k H locs ls hP hD hS hl)
theorem a_iload_n {i : Nat} {x : Int32} {j : Fin 4} (C : MA X K cc nL own rm A) (d : decode cc pc = .ok (.iload_n j, 1)) (hj : (j : Nat) = i) (h : lo[i]? = some (some (.int x))) (k : GA X K A nL Q ws cs ss (pc + 1) lo (.int x :: st)) : GA X K A nL Q ws cs ss pc lo st :=
  fun H locs ls hP hD hS hl => lv_iload_n C.x C.b d hj (hl.2.2 i _ h) (k H locs ls hP hD hS hl)
theorem a_istore_n {i : Nat} {x : Int32} {j : Fin 4} (C : MA X K cc nL own rm A) (d : decode cc pc = .ok (.istore_n j, 1)) (hj : (j : Nat) = i) (hn : i < nL) (hf : lfree lo i = true) (k : GA X K A nL Q ws cs ss (pc + 1) (lo.set i (some (.int x))) st) : GA X K A nL Q ws cs ss pc lo (.int x :: st) :=
  fun H locs ls hP hD hS hl => lv_istore_n C.x C.b d hj hl.has hn rfl (fun ls hl => k H locs ls hP hD hS (lvo.set hf hl))
theorem a_aload_n {i : Nat} {x : Nat} {j : Fin 4} (C : MA X K cc nL own rm A) (d : decode cc pc = .ok (.aload_n j, 1)) (hj : (j : Nat) = i) (h : lo[i]? = some (some (.ref x))) (k : GA X K A nL Q ws cs ss (pc + 1) lo (.ref x :: st)) : GA X K A nL Q ws cs ss pc lo st :=
  fun H locs ls hP hD hS hl => lv_aload_n C.x C.b d hj (hl.2.2 i _ h) (k H locs ls hP hD hS hl)
theorem a_astore_n {i : Nat} {x : Nat} {j : Fin 4} (C : MA X K cc nL own rm A) (d : decode cc pc = .ok (.astore_n j, 1)) (hj : (j : Nat) = i) (hn : i < nL) (hf : lfree lo i = true) (k : GA X K A nL Q ws cs ss (pc + 1) (lo.set i (some (.ref x))) st) : GA X K A nL Q ws cs ss pc lo (.ref x :: st) :=
  fun H locs ls hP hD hS hl => lv_astore_n C.x C.b d hj hl.has hn rfl (fun ls hl => k H locs ls hP hD hS (lvo.set hf hl))
theorem a_istore {i : Nat} {x : Int32} (C : MA X K cc nL own rm A) (d : decode cc pc = .ok (.istore i, 2)) (hn : i < nL) (hf : lfree lo i = true) (k : GA X K A nL Q ws cs ss (pc + 2) (lo.set i (some (.int x))) st) : GA X K A nL Q ws cs ss pc lo (.int x :: st) :=
  fun H locs ls hP hD hS hl => lv_istore C.x C.b d hl.has hn rfl (fun ls hl => k H locs ls hP hD hS (lvo.set hf hl))
theorem a_iinc {i : Nat} {n : Int} {x v : Int32} (C : MA X K cc nL own rm A) (d : decode cc pc = .ok (.iinc i n, 3)) (h : lo[i]? = some (some (.int x))) (hv : x + Int32.ofInt n = v) (hn : i < nL) (hf : lfree lo i = true) (k : GA X K A nL Q ws cs ss (pc + 3) (lo.set i (some (.int v))) st) : GA X K A nL Q ws cs ss pc lo st := fun H locs ls hP hD hS hl => by
  obtain ⟨z, hz⟩ := List.getElem?_of_mem ((lop_in lo 0 (i, .int x)).mpr ⟨i, (Nat.zero_add i).symm, h⟩)
  exact lv_iinc C.x C.b d hl.has hz hv hn rfl (fun ls hl => k H locs ls hP hD hS (lvo.set hf hl))
theorem a_iadd {x y v : Int32} (C : MA X K cc nL own rm A) (d : decode cc pc = .ok (.iadd, 1)) (hv : x + y = v) (k : GA X K A nL Q ws cs ss (pc + 1) lo (.int v :: st)) : GA X K A nL Q ws cs ss pc lo (.int y :: .int x :: st) :=
  fun H locs ls hP hD hS hl => lv_iadd C.x C.b d (by rw [hv]; exact k H locs ls hP hD hS hl)
theorem a_isub {x y v : Int32} (C : MA X K cc nL own rm A) (d : decode cc pc = .ok (.isub, 1)) (hv : x - y = v) (k : GA X K A nL Q ws cs ss (pc + 1) lo (.int v :: st)) : GA X K A nL Q ws cs ss pc lo (.int y :: .int x :: st) :=
  fun H locs ls hP hD hS hl => lv_isub C.x C.b d (by rw [hv]; exact k H locs ls hP hD hS hl)
theorem a_imul {x y v : Int32} (C : MA X K cc nL own rm A) (d : decode cc pc = .ok (.imul, 1)) (hv : x * y = v) (k : GA X K A nL Q ws cs ss (pc + 1) lo (.int v :: st)) : GA X K A nL Q ws cs ss pc lo (.int y :: .int x :: st) :=
  fun H locs ls hP hD hS hl => lv_imul C.x C.b d (by rw [hv]; exact k H locs ls hP hD hS hl)
theorem a_dup {v : Value} (C : MA X K cc nL own rm A) (d : decode cc pc = .ok (.dup, 1)) (h1 : v.category = 1) (k : GA X K A nL Q ws cs ss (pc + 1) lo (v :: v :: st)) : GA X K A nL Q ws cs ss pc lo (v :: st) :=
  fun H locs ls hP hD hS hl => lv_dup C.x C.b d h1 (k H locs ls hP hD hS hl)
theorem a_goto {off : Int} {tgt : Nat} (C : MA X K cc nL own rm A) (d : decode cc pc = .ok (.goto off, 3)) (ht : (pc : Int) + off = (tgt : Int)) (k : GA X K A nL Q ws cs ss tgt lo st) : GA X K A nL Q ws cs ss pc lo st :=
  fun H locs ls hP hD hS hl => lv_goto C.x C.b d ht (k H locs ls hP hD hS hl)
theorem a_ge_t {x y : Int32} {off : Int} {tgt : Nat} (C : MA X K cc nL own rm A) (d : decode cc pc = .ok (.if_icmp .ge off, 3)) (ht : (pc : Int) + off = (tgt : Int)) (h : y ≤ x) (k : GA X K A nL Q ws cs ss tgt lo st) : GA X K A nL Q ws cs ss pc lo (.int y :: .int x :: st) :=
  fun H locs ls hP hD hS hl => lv_icmp_ge C.x C.b d ht (fun _ => k H locs ls hP hD hS hl) (fun c => absurd h c)
theorem a_ge_f {x y : Int32} {off : Int} {tgt : Nat} (C : MA X K cc nL own rm A) (d : decode cc pc = .ok (.if_icmp .ge off, 3)) (ht : (pc : Int) + off = (tgt : Int)) (h : ¬ y ≤ x) (k : GA X K A nL Q ws cs ss (pc + 3) lo st) : GA X K A nL Q ws cs ss pc lo (.int y :: .int x :: st) :=
  fun H locs ls hP hD hS hl => lv_icmp_ge C.x C.b d ht (fun c => absurd c h) (fun _ => k H locs ls hP hD hS hl)
theorem acI {cA : ClassId} {X : Xc} {s : State} (h : va_K X.D classes (tysX X ++ [(cA, .int)]) s) : cA = X.ac 0 :=
  Option.some.inj ((show s.vm.findClass ("[" ++ FieldType.int.toString) = some cA from (h.2 5 _ rfl).2).symm.trans (show s.vm.findClass ("[" ++ FieldType.int.toString) = some (X.ac 0) from (h.2 0 _ rfl).2))
theorem acZ {cA : ClassId} {X : Xc} {s : State} (h : va_K X.D classes (tysX X ++ [(cA, .boolean)]) s) : cA = X.ac 1 :=
  Option.some.inj ((show s.vm.findClass ("[" ++ FieldType.boolean.toString) = some cA from (h.2 5 _ rfl).2).symm.trans (show s.vm.findClass ("[" ++ FieldType.boolean.toString) = some (X.ac 1) from (h.2 1 _ rfl).2))
theorem acJ {cA : ClassId} {X : Xc} {s : State} (h : va_K X.D classes (tysX X ++ [(cA, .long)]) s) : cA = X.ac 2 :=
  Option.some.inj ((show s.vm.findClass ("[" ++ FieldType.long.toString) = some cA from (h.2 5 _ rfl).2).symm.trans (show s.vm.findClass ("[" ++ FieldType.long.toString) = some (X.ac 2) from (h.2 2 _ rfl).2))
theorem acP {cA : ClassId} {X : Xc} {s : State} (h : va_K X.D classes (tysX X ++ [(cA, .object "DockLayout$Placement")]) s) : cA = X.ac 3 := by
  obtain ⟨_, _, _, _, _, h1⟩ := (h.2 5 _ rfl).2
  obtain ⟨_, _, _, _, _, h2⟩ := (h.2 3 _ rfl).2
  exact Option.some.inj (h1.symm.trans h2)
theorem acS {cA : ClassId} {X : Xc} {s : State} (h : va_K X.D classes (tysX X ++ [(cA, .object "DockLayout$State")]) s) : cA = X.ac 4 := by
  obtain ⟨_, _, _, _, _, h1⟩ := (h.2 5 _ rfl).2
  obtain ⟨_, _, _, _, _, h2⟩ := (h.2 4 _ rfl).2
  exact Option.some.inj (h1.symm.trans h2)

theorem a_newint {n : Int32} {N : Nat} (ws' : Nat → va_W) (C : MA X K cc nL own rm A) (hwd : Cond.arrayClass .int ∈ wsL_law) (hn : ¬ n < 0) (hN : n.toNatClampNeg = N) (hb : N * componentBytes .int ≤ 536870912) (hc : cs + 1 ≤ rm.cells) (hs : ss + N ≤ rm.slots) (d : decode cc pc = .ok (.newarray .int, 2)) (hw : ∀ q, ws ++ [(q, .inl (X.ac 0, (N, .inl (fun _ => 0))))] = ws' q)
    (k : ∀ q, GA X K A nL Q (ws' q) (cs + 1) (ss + N) (pc + 2) lo (.ref q :: st)) : GA X K A nL Q ws cs ss pc lo (.int n :: st) := fun H locs ls hP hD hS hl =>
  va_newa (atype := .int) (ty := .int) (a0 := (N, .inl (fun _ => 0))) C.x C.b (C.ts _ hwd) rfl C.kk hP hD hS C.a (fun _ => rfl) hn hN hb (by rw [C.R]; exact hc) (by rw [C.R]; exact hs) d (fun q cA H1 hK hP1 hD1 hS1 => by
    have e := acI hK
    subst e
    exact k q H1 locs ls (by rw [← hw]; exact hP1) (by rw [← hw]; exact hD1) hS1 hl)
theorem a_newboolean {n : Int32} {N : Nat} (ws' : Nat → va_W) (C : MA X K cc nL own rm A) (hwd : Cond.arrayClass .boolean ∈ wsL_law) (hn : ¬ n < 0) (hN : n.toNatClampNeg = N) (hb : N * componentBytes .boolean ≤ 536870912) (hc : cs + 1 ≤ rm.cells) (hs : ss + N ≤ rm.slots) (d : decode cc pc = .ok (.newarray .boolean, 2)) (hw : ∀ q, ws ++ [(q, .inl (X.ac 1, (N, .inl (fun _ => 0))))] = ws' q)
    (k : ∀ q, GA X K A nL Q (ws' q) (cs + 1) (ss + N) (pc + 2) lo (.ref q :: st)) : GA X K A nL Q ws cs ss pc lo (.int n :: st) := fun H locs ls hP hD hS hl =>
  va_newa (atype := .boolean) (ty := .boolean) (a0 := (N, .inl (fun _ => 0))) C.x C.b (C.ts _ hwd) rfl C.kk hP hD hS C.a (fun _ => rfl) hn hN hb (by rw [C.R]; exact hc) (by rw [C.R]; exact hs) d (fun q cA H1 hK hP1 hD1 hS1 => by
    have e := acZ hK
    subst e
    exact k q H1 locs ls (by rw [← hw]; exact hP1) (by rw [← hw]; exact hD1) hS1 hl)
theorem a_newlong {n : Int32} {N : Nat} (ws' : Nat → va_W) (C : MA X K cc nL own rm A) (hwd : Cond.arrayClass .long ∈ wsL_law) (hn : ¬ n < 0) (hN : n.toNatClampNeg = N) (hb : N * componentBytes .long ≤ 536870912) (hc : cs + 1 ≤ rm.cells) (hs : ss + N ≤ rm.slots) (d : decode cc pc = .ok (.newarray .long, 2)) (hw : ∀ q, ws ++ [(q, .inl (X.ac 2, (N, .inr (.inl (fun _ => 0)))))] = ws' q)
    (k : ∀ q, GA X K A nL Q (ws' q) (cs + 1) (ss + N) (pc + 2) lo (.ref q :: st)) : GA X K A nL Q ws cs ss pc lo (.int n :: st) := fun H locs ls hP hD hS hl =>
  va_newa (atype := .long) (ty := .long) (a0 := (N, .inr (.inl (fun _ => 0)))) C.x C.b (C.ts _ hwd) rfl C.kk hP hD hS C.a (fun _ => rfl) hn hN hb (by rw [C.R]; exact hc) (by rw [C.R]; exact hs) d (fun q cA H1 hK hP1 hD1 hS1 => by
    have e := acJ hK
    subst e
    exact k q H1 locs ls (by rw [← hw]; exact hP1) (by rw [← hw]; exact hD1) hS1 hl)
theorem a_anewP {n : Int32} {N index : Nat} (ws' : Nat → va_W) (C : MA X K cc nL own rm A) (hcl : Cond.classLink own index "DockLayout$Placement" ∈ wsL_law) (hn : ¬ n < 0) (hN : n.toNatClampNeg = N) (hb : N * 4 ≤ 536870912) (hc : cs + 1 ≤ rm.cells) (hs : ss + N ≤ rm.slots) (d : decode cc pc = .ok (.anewarray index, 3)) (hw : ∀ q, ws ++ [(q, .inl (X.ac 3, (N, .inr (.inr (.inr (.inr (fun _ => none)))))))] = ws' q)
    (k : ∀ q, GA X K A nL Q (ws' q) (cs + 1) (ss + N) (pc + 3) lo (.ref q :: st)) : GA X K A nL Q ws cs ss pc lo (.int n :: st) := fun H locs ls hP hD hS hl =>
  va_newq (C := "DockLayout$Placement") C.x C.b C.ow (C.ts _ hcl) C.k.2.1 C.kk hP hD hS C.a hn hN hb (by rw [C.R]; exact hc) (by rw [C.R]; exact hs) d (fun q cA H1 hK hP1 hD1 hS1 => by
    have e := acP hK
    subst e
    exact k q H1 locs ls (by rw [← hw]; exact hP1) (by rw [← hw]; exact hD1) hS1 hl)
theorem a_anewS {n : Int32} {N index : Nat} (ws' : Nat → va_W) (C : MA X K cc nL own rm A) (hcl : Cond.classLink own index "DockLayout$State" ∈ wsL_law) (hn : ¬ n < 0) (hN : n.toNatClampNeg = N) (hb : N * 4 ≤ 536870912) (hc : cs + 1 ≤ rm.cells) (hs : ss + N ≤ rm.slots) (d : decode cc pc = .ok (.anewarray index, 3)) (hw : ∀ q, ws ++ [(q, .inl (X.ac 4, (N, .inr (.inr (.inr (.inr (fun _ => none)))))))] = ws' q)
    (k : ∀ q, GA X K A nL Q (ws' q) (cs + 1) (ss + N) (pc + 3) lo (.ref q :: st)) : GA X K A nL Q ws cs ss pc lo (.int n :: st) := fun H locs ls hP hD hS hl =>
  va_newq (C := "DockLayout$State") C.x C.b C.ow (C.ts _ hcl) C.k.2.2 C.kk hP hD hS C.a hn hN hb (by rw [C.R]; exact hc) (by rw [C.R]; exact hs) d (fun q cA H1 hK hP1 hD1 hS1 => by
    have e := acS hK
    subst e
    exact k q H1 locs ls (by rw [← hw]; exact hP1) (by rw [← hw]; exact hD1) hS1 hl)
theorem a_new {ci N index : Nat} {Cn : String} {T : u_T} {ty : Nat → FieldType} {fs : List Value} (ws' : Nat → va_W) (C : MA X K cc nL own rm A) (hc : classes[ci]? = some (Cn, T, N)) (hin : ∀ w ∈ u_ws Cn T N, w ∈ wsL_law) (hty : ∀ k, k < N → parseFieldDescriptor (T k).2.2.1 = some (ty k)) (h1 : Cond.classLink own index Cn ∈ wsL_law) (h2 : Cond.instantiable Cn N ∈ wsL_law) (h3 : Cond.initialized Cn ∈ wsL_law) (hfs : ∀ j, j < N → defaultValue (ty j) = vp_V fs j) (hcr : cs + 1 ≤ rm.cells) (hsr : ss + N ≤ rm.slots) (d : decode cc pc = .ok (.new index, 3)) (hw : ∀ q, ws ++ [(q, .inr (ci, fs))] = ws' q)
    (k : ∀ q, GA X K A nL Q (ws' q) (cs + 1) (ss + N) (pc + 3) lo (.ref q :: st)) : GA X K A nL Q ws cs ss pc lo st := fun H locs ls hP hD hS hl =>
  va_new (ci := ci) (fs := fs) C.x C.b C.ts hin ty hty C.ow (C.ts _ h1) (C.ts _ h2) (C.ts _ h3) C.kk hP hD hS C.a hc hfs (by rw [C.R]; exact hcr) (by rw [C.R]; exact hsr) d (fun q H1 hP1 hD1 hS1 => k q H1 locs ls (by rw [← hw]; exact hP1) (by rw [← hw]; exact hD1) hS1 hl)
theorem a_putF {ci N j index q0 a : Nat} {Cn : String} {T : u_T} {ty : Nat → FieldType} {fs : List Value} {v : Value} (ws' : va_W) (C : MA X K cc nL own rm A) (hin2 : K.meth.name = "<init>") (he : ws[q0]? = some (a, .inr (ci, fs))) (hc : classes[ci]? = some (Cn, T, N)) (hin : ∀ w ∈ u_ws Cn T N, w ∈ wsL_law) (hty : ∀ k, k < N → parseFieldDescriptor (T k).2.2.1 = some (ty k)) (hnm : ∀ a, a < N → ∀ b, b < N → a ≠ b → (T a).2.1 ≠ (T b).2.1) (hj : j < N) (hw : Cond.fieldLink own index (T j).1 (T j).2.1 (T j).2.2.1 ∈ wsL_law) (hfin : (T j).2.2.2 = true) (hdecl : (T j).1 = own) (hn : narrow (ty j) v = v) (hfit : fits (ty j) v = true) (hl2 : j < fs.length) (d : decode cc pc = .ok (.putfield index, 3)) (hs : ws.set q0 (a, .inr (ci, fs.set j v)) = ws')
    (k : GA X K A nL Q ws' cs ss (pc + 3) lo st) : GA X K A nL Q ws cs ss pc lo (v :: .ref a :: st) := fun H locs ls hP hD hS hl =>
  va_putF (D := X.D) (ci := ci) (v := v) (ty := ty j) C.x C.b C.ts hin ty hty hnm C.ow C.kk hP hD hS q0 he hc j hj (C.ts _ hw) (fun _ h => h) hfin hin2 hdecl (hty j hj) hn hfit hl2 d (fun H1 locs1 hP1 hD1 hS1 => k H1 locs1 ls (by rw [← hs]; exact hP1) (by rw [← hs]; exact hD1) hS1 hl)
theorem a_getr {ci N j index q0 a : Nat} {Cn : String} {T : u_T} {fs : List Value} {v : Value} (C : MA X K cc nL own rm A) (he : ws[q0]? = some (a, .inr (ci, fs))) (hc : classes[ci]? = some (Cn, T, N)) (hin : ∀ w ∈ u_ws Cn T N, w ∈ wsL_law) (hj : j < N) (hw : Cond.fieldLink own index (T j).1 (T j).2.1 (T j).2.2.1 ∈ wsL_law) (hv : fs[j]? = some v) (d : decode cc pc = .ok (.getfield index, 3)) (k : GA X K A nL Q ws cs ss (pc + 3) lo (v :: st)) : GA X K A nL Q ws cs ss pc lo (.ref a :: st) := fun H locs ls hP hD hS hl =>
  va_get (D := X.D) (ci := ci) (v := v) C.x C.b C.ts hin C.ow C.kk hP q0 he hc j hj (C.ts _ hw) (fun _ h => h) hv d (k H locs ls hP hD hS hl)
theorem a_alen {q0 t0 a : Nat} {cA : ClassId} {x : vp_A} {ty : FieldType} {v : Int32} (C : MA X K cc nL own rm A) (ha : ws[q0]? = some (a, .inl (cA, x))) (ht : (tysX X)[t0]? = some (cA, ty)) (hv : Int32.ofNat x.1 = v) (d : decode cc pc = .ok (.arraylength, 1)) (k : GA X K A nL Q ws cs ss (pc + 1) lo (.int v :: st)) : GA X K A nL Q ws cs ss pc lo (.ref a :: st) := fun H locs ls hP hD hS hl =>
  va_alen (D := X.D) C.x C.b C.kk hP q0 t0 ha ht hv d (k H locs ls hP hD hS hl)
theorem a_aastore {q0 t0 qk ci a v n : Nat} {r : vw_C} {vs : List Value} {f : Nat → Option Nat} {cA : ClassId} {i : Int32} (ws' : va_W) (C : MA X K cc nL own rm A) (ha : ws[q0]? = some (a, .inl (cA, n, .inr (.inr (.inr (.inr f)))))) (ht : (tysX X)[t0]? = some (cA, .object r.1)) (hv : ws[qk]? = some (v, .inr (ci, vs))) (hc : classes[ci]? = some r) (hi : vp_in i n) (d : decode cc pc = .ok (.aastore, 1)) (hs : ws.set q0 (a, .inl (cA, n, .inr (.inr (.inr (.inr (va_up f i.toNatClampNeg (some v))))))) = ws') (k : GA X K A nL Q ws' cs ss (pc + 1) lo st) : GA X K A nL Q ws cs ss pc lo (.ref v :: .int i :: .ref a :: st) := fun H locs ls hP hD hS hl =>
  va_astq (D := X.D) C.x C.b C.kk hP hD hS q0 t0 qk ci ha ht hv hc hi d (fun H1 locs1 hP1 hD1 hS1 => k H1 locs1 ls (by rw [← hs]; exact hP1) (by rw [← hs]; exact hD1) hS1 hl)
theorem a_iastore {q0 a n : Nat} {f : Nat → Int32} {i x : Int32} (ws' : va_W) (C : MA X K cc nL own rm A) (ha : ws[q0]? = some (a, .inl (X.ac 0, n, .inl f))) (hi : vp_in i n) (d : decode cc pc = .ok (.iastore, 1)) (hs : ws.set q0 (a, .inl (X.ac 0, n, .inl (upd f i.toNatClampNeg x))) = ws') (k : GA X K A nL Q ws' cs ss (pc + 1) lo st) : GA X K A nL Q ws cs ss pc lo (.int x :: .int i :: .ref a :: st) := fun H locs ls hP hD hS hl =>
  va_iast (D := X.D) C.x C.b C.kk hP hD hS q0 0 ha rfl hi d (fun H1 locs1 hP1 hD1 hS1 => k H1 locs1 ls (by rw [← hs]; exact hP1) (by rw [← hs]; exact hD1) hS1 hl)
theorem a_obj {a index : Nat} (C : MA X K cc nL own rm A) (h1 : Cond.methodLink own index objectInit ∈ wsL_law) (h2 : Cond.instanceMethod objectInit ∈ wsL_law) (h3 : Cond.code objectInit ⟨#[0xb1]⟩ 1 none ∈ wsL_law) (hf : 1 ≤ rm.frames) (hlo : (st.map fun v => v.category).sum + 12 ≤ rm.locals) (d : decode cc pc = .ok (.invokespecial index, 3)) (k : GA X K A nL Q ws cs ss (pc + 3) lo st) : GA X K A nL Q ws cs ss pc lo (.ref a :: st) := fun H locs ls hP hD hS hl =>
  W.objInit C.x C.b C.ow (C.ts _ h1) (C.ts _ h2) (C.ts _ h3) rfl (by rw [C.ml]; exact hl.1) rfl d (by rw [C.R]; exact hf) (by rw [C.R]; exact Nat.le_trans (Nat.le_of_eq (by show 2 * 0 + _ + 12 = _; omega)) hlo) (k H locs ls hP hD hS hl)
end GAS
theorem pa_blind (X : Xc) (as : List Value) (ws : va_W) (sz : Nat) : FrameBlind (va_Pc as (PA X ws sz)) := fun a U g mk q => by
  obtain ⟨q0, q1, q2, q3, q4, q5⟩ := q
  exact ⟨q0, q1, q2, va_K.moved (u := U) (U := U.calling g mk a) (Vm.Alike.refl U.vm) q3, XA.same rfl q4, q5⟩
/-- what a constructor gives: its cells, of a form -/
abbrev QA (X : Xc) (c : Nat × va_E) (sz : Nat) (post : va_W → Prop) : Array Value → State → Outcome → State → Prop := va_Qv post (fun w t => va_P X.D classes w t.heap ∧ va_D (va_A [c] sz) w) (va_A [c] sz)
theorem ct_of {X : Xc} {y : MethodName} {cc : ByteArray} {maxL : Nat} {rm : Room} {as : List Value} {own : String} {ws : va_W} {sz mc ms : Nat} {Qc : Array Value → State → Outcome → State → Prop} {lo : List (Option Value)} (hy : plainName y.cls = true) (ho : y.cls = own) (hn : (lg_sl as).length ≤ maxL) (hlo : lo0 as maxL = lo)
    (body : ∀ K : Kc, MA X K cc maxL own rm (va_A ws sz) → K.meth.sig.returnType = none → K.meth.name = y.name → K.s.heap.size = sz → GA X K (va_A ws sz) maxL (MQ K.below Qc K.args K.s mc ms (va_A ws sz)) ws 0 0 0 lo []) : Met X.l y (.code y cc maxL none :: wsL_law) rm (va_Pc as (PA X ws sz)) Qc mc ms (va_A ws sz) := by
  refine Met.ofW (cc := cc) (maxL := maxL) (ret := none) hy rfl ?_
  intro p e s m args below meth c s₁ B hml hv
  obtain ⟨rfl, hz, hP, hK, hXK, hD⟩ := hv
  subst hz
  have C : MA X (p, e, rm, s, m, as.toArray, below, meth, c) cc maxL own rm (va_A ws s.heap.size) := ⟨⟨B.exec, B.bytes, hml, by rw [← ho]; exact findClass_of_methodNamed B.named, fun w h => atoms_spec (ws := .code y cc maxL none :: wsL_law) B.pre w (List.mem_cons_of_mem _ h)⟩, hK, fun q h => Or.inr h, B.notSynchronized, rfl, hXK⟩
  have hl := lo0_lvo as maxL hn
  rw [lg_entry_eq]
  subst hlo
  exact body _ C B.returns (name_of_methodNamed B.named B.method).1 rfl s.heap [] _ hP hD.self va_S.rf hl
section GAC
variable {X : Xc} {K : Kc} {cc : ByteArray} {nL : Nat} {own : String} {rm : Room} {A : Nat → Prop} {Q : State → Prop} {ws ws' : va_W} {cs ss pc : Nat} {lo lo' : List (Option Value)} {st : List Value} {y : MethodName} {ccy : ByteArray} {maxLy : Nat} {rmy : Room} {index mcy msy : Nat}
theorem pa_at {W0 : va_W} {c : Nat × va_E} {H : Heap} (C : MA X K cc nL own rm A) (hP : va_P X.D classes (W0 ++ [c]) H) (hD : va_D A (W0 ++ [c])) (U : State) (hU : U.heap = H) (hW : K.s.WarmedH U.vm) : PA X [c] H.size U := by
  refine ⟨by rw [hU], ?_, va_K.moved hW.alike C.kk, XA.warm hW C.k, ?_⟩
  · rw [hU]
    exact fun k q hk => by
      have := List.mem_of_getElem? hk
      obtain ⟨i, hi⟩ := List.getElem?_of_mem (List.mem_append_right W0 this)
      exact hP i q hi
  · rw [va_D_iff]
    exact ⟨by simp, fun _ _ => trivial⟩
theorem a_after {W0 w : va_W} {c : Nat × va_E} {H H1 : Heap} (hP : va_P X.D classes (W0 ++ [c]) H) (hD : va_D A (W0 ++ [c])) (hA : ∀ q, va_A [c] H.size q → A q) (hk : ∀ q : Nat, q < H.size → ¬ va_A [c] H.size q → H1[q]? = H[q]?) (hP1 : va_P X.D classes w H1) (hD1 : va_D (va_A [c] H.size) w) : va_P X.D classes (W0 ++ w) H1 ∧ va_D A (W0 ++ w) := by
  have hd := va_D_iff.mp hD
  have hd1 := va_D_iff.mp hD1
  have out : ∀ q ∈ W0, q.1 < H.size ∧ ¬ va_A [c] H.size q.1 := fun q hq => by
    obtain ⟨i, hi⟩ := List.getElem?_of_mem (List.mem_append_left [c] hq)
    refine ⟨(hP i q hi).lt, fun h => ?_⟩
    rcases h with ⟨k, e, h⟩ | h
    · have hz : k < 1 := (List.getElem?_eq_some_iff.mp h).1
      rw [show k = 0 by omega] at h
      have h9 : c = (q.1, e) := by simpa using h
      have := hd.1
      rw [List.map_append, List.nodup_append] at this
      exact this.2.2 q.1 (List.mem_map_of_mem hq) c.1 (by simp) (by rw [h9])
    · exact absurd (hP i q hi).lt (Nat.not_lt.mpr h)
  refine ⟨fun k q hq => ?_, va_D_iff.mpr ⟨?_, fun q hq => ?_⟩⟩
  · rcases List.mem_append.mp (List.mem_of_getElem? hq) with h | h
    · obtain ⟨i, hi⟩ := List.getElem?_of_mem (List.mem_append_left [c] h)
      exact (hP i q hi).kept (hk _ (out q h).1 (out q h).2)
    · obtain ⟨i, hi⟩ := List.getElem?_of_mem h
      exact hP1 i q hi
  · rw [List.map_append, List.nodup_append]
    refine ⟨?_, hd1.1, fun a ha b hb e => ?_⟩
    · have := hd.1
      rw [List.map_append, List.nodup_append] at this
      exact this.1
    · obtain ⟨q, hq, rfl⟩ := List.mem_map.mp ha
      obtain ⟨q2, hq2, rfl⟩ := List.mem_map.mp hb
      exact (out q hq).2 (by rw [e]; exact hd1.2 q2 hq2)
  · rcases List.mem_append.mp hq with h | h
    · exact hd.2 q (List.mem_append_left _ h)
    · exact hA _ (hd1.2 q h)
theorem a_free {W0 : va_W} {c : Nat × va_E} {H : Heap} {locs : List Loc} (C : MA X K cc nL own rm A) (hD : va_D A (W0 ++ [c])) (hS : va_S A K.s.heap H locs) : ∀ q, va_A [c] H.size q → A q := fun q h => by
  rcases h with ⟨k, e, h⟩ | h
  · have hz : k < 1 := (List.getElem?_eq_some_iff.mp h).1
    rw [show k = 0 by omega] at h
    have h9 : c = (q, e) := by simpa using h
    have := (va_D_iff.mp hD).2 c (List.mem_append_right _ (by simp))
    rw [h9] at this
    exact this
  · exact C.a q (Nat.le_trans hS.1 h)
abbrev fitsC (a b : Room) (maxLy mcy msy cs ss : Nat) : Prop := a.frames + 1 ≤ b.frames ∧ 8 + (maxLy + 11) + a.locals ≤ b.locals ∧ a.cells = mcy ∧ a.slots = msy ∧ cs + mcy ≤ b.cells ∧ ss + msy ≤ b.slots

theorem a_init {W0 : va_W} {q0 : Nat} {e0 : va_E} {post : va_W → Prop} (C : MA X K cc nL own rm A) (hM : ∀ sz, Met X.l y (wsM y ccy maxLy none) rmy (va_Pc [.ref q0] (PA X [(q0, e0)] sz)) (QA X (q0, e0) sz post) mcy msy (va_A [(q0, e0)] sz)) (h1 : Cond.methodLink own index y ∈ wsL_law) (h2 : Cond.instanceMethod y ∈ wsL_law) (h4 : Cond.initialized y.cls ∈ wsL_law) (h5 : Cond.code y ccy maxLy none ∈ wsL_law) (hin : y.name = "<init>") (hd : y.cls ≠ "java/lang/invoke/MethodHandle" ∧ y.cls ≠ "java/lang/invoke/VarHandle" ∧ (parseMethodDescriptor y.desc).map (fun d => d.parameters.length) = some 0) (hR : fitsC rmy rm maxLy mcy msy cs ss) (hst : (st.map fun v => v.category).sum ≤ 8) (d : decode cc pc = .ok (.invokespecial index, 3)) (hws : ws = W0 ++ [(q0, e0)])
    (k : ∀ w, post w → GA X K A nL Q (W0 ++ w) (cs + mcy) (ss + msy) (pc + 3) lo st) : GA X K A nL Q ws cs ss pc lo (.ref q0 :: st) := by
  intro H locs ls hP hD hS hl
  subst hws
  have hF := a_free C hD hS
  refine va_callv (va_runI (As := []) (rest := st) ⟨C.x, C.b, C.ml, C.ow, C.ts⟩ (hM H.size) (cwI 0 C.ts (gi_M h5) rfl hR.2.2.1 hR.2.2.2.1 (C.ts _ h4) (C.ts _ h1) (C.ts _ h2) hin hd (by rw [C.R]; exact ⟨hR.1, hR.2.1⟩)) ⟨pa_blind X _ _ _, fun U hU hW => ⟨rfl, pa_at C hP hD U hU hW⟩⟩ rfl rfl hl.1 rfl (lv_room hst) d (by rw [C.R]; exact hR.2.2.2.2)) hS (fun q _ h => hF q h) hF (fun u t H1 locs1 ht hvm hw hB hz hk hS1 => ?_)
  obtain ⟨hP1, hD1⟩ := hB
  rw [ht] at hP1
  obtain ⟨hP2, hD2⟩ := a_after hP hD hF hk hP1 hD1
  exact k u hw H1 locs1 ls hP2 hD2 hS1 hl
theorem a_initN {W0 : va_W} {q0 : Nat} {e0 : va_E} {post : va_W → Prop} (C : MA X K cc nL own rm A) (hM : ∀ sz, Met X.l y (wsM y ccy maxLy none) rmy (va_Pc [.ref q0] (PA X [(q0, e0)] sz)) (QA X (q0, e0) sz post) mcy msy (va_A [(q0, e0)] sz)) {host : String} (h1 : (own, index, y, host) ∈ nestC) (h2 : Cond.instanceMethod y ∈ wsL_law) (h4 : Cond.initialized y.cls ∈ wsL_law) (h5 : Cond.code y ccy maxLy none ∈ wsL_law) (hin : y.name = "<init>") (hd : y.cls ≠ "java/lang/invoke/MethodHandle" ∧ y.cls ≠ "java/lang/invoke/VarHandle" ∧ (parseMethodDescriptor y.desc).map (fun d => d.parameters.length) = some 0) (hR : fitsC rmy rm maxLy mcy msy cs ss) (hst : (st.map fun v => v.category).sum ≤ 8) (d : decode cc pc = .ok (.invokespecial index, 3)) (hws : ws = W0 ++ [(q0, e0)])
    (k : ∀ w, post w → GA X K A nL Q (W0 ++ w) (cs + mcy) (ss + msy) (pc + 3) lo st) : GA X K A nL Q ws cs ss pc lo (.ref q0 :: st) := by
  intro H locs ls hP hD hS hl
  subst hws
  have hF := a_free C hD hS
  refine va_callv (va_runIN (As := []) (rest := st) ⟨C.x, C.b, C.ml, C.ow, C.ts⟩ (hM H.size) (⟨va_cnB 0 C.ts (gi_M h5) rfl hR.2.2.1 hR.2.2.2.1 (C.k.1 _ h1) (C.ts _ h4) hd (by rw [C.R]; exact ⟨hR.1, hR.2.1⟩), hin, C.ts _ h2⟩) ⟨pa_blind X _ _ _, fun U hU hW => ⟨rfl, pa_at C hP hD U hU hW⟩⟩ rfl rfl hl.1 rfl (lv_room hst) d (by rw [C.R]; exact hR.2.2.2.2)) hS (fun q _ h => hF q h) hF (fun u t H1 locs1 ht hvm hw hB hz hk hS1 => ?_)
  obtain ⟨hP1, hD1⟩ := hB
  rw [ht] at hP1
  obtain ⟨hP2, hD2⟩ := a_after hP hD hF hk hP1 hD1
  exact k u hw H1 locs1 ls hP2 hD2 hS1 hl
theorem a_vret {c : Nat × va_E} {sz : Nat} {post : va_W → Prop} {mc ms : Nat} (C : MA X K cc nL own rm (va_A [c] sz)) (hr : K.meth.sig.returnType = none) (hz : K.s.heap.size = sz) (d : decode cc pc = .ok (.return_, 1)) (h1 : cs ≤ mc) (h2 : ss ≤ ms) (hp : post ws) : GA X K (va_A [c] sz) nL (MQ K.below (QA X c sz post) K.args K.s mc ms (va_A [c] sz)) ws cs ss pc lo [] := fun H locs ls hP hD hS hl =>
  W.widen h1 h2 (W.vret C.x C.b hr (fun t ht hW => ⟨⟨ws, rfl, hp, by rw [ht]; exact hP, hD⟩, hS.F ht⟩) hS.2.2 d C.lk)
/-- Arrays.fill of one row -/
theorem fill_loop {h n : Nat} {v : Int32} {sz : Nat} {f0 : Nat → Int32} (hn : n < 2 ^ 31) (C : MA X K cJ7_fill_53178 4 RJ7 rmJ7_fill_53178 (va_A [(h, .inl (X.ac 0, n, .inl f0))] sz)) (hr : K.meth.sig.returnType = none) (hz : K.s.heap.size = sz) : ∀ (m i : Nat) (f : Nat → Int32), i ≤ n → n ≤ i + m → (∀ j, j < i → f j = v) →
    GA X K (va_A [(h, .inl (X.ac 0, n, .inl f0))] sz) 4 (MQ K.below (va_Qv (fun (_ : Unit) => True) (fun _ t => va_P X.D classes [(h, .inl (X.ac 0, n, .inl (fun _ => v)))] t.heap) (va_A [(h, .inl (X.ac 0, n, .inl f0))] sz)) K.args K.s 0 0 (va_A [(h, .inl (X.ac 0, n, .inl f0))] sz)) [(h, .inl (X.ac 0, n, .inl f))] 0 0 5 [some (.ref h), some (.int v), some (.int (nI i)), some (.int (nI n))] [] := by
  intro m
  induction m with
  | zero =>
    intro i f hi hm hf H locs ls hP hD hS hl
    have e : i = n := by omega
    subst e
    refine lv_iload_n C.x C.b dJ7_fill_53178_5 rfl (hl.2.2 2 _ rfl) ?_
    refine lv_iload_n C.x C.b dJ7_fill_53178_6 rfl (hl.2.2 3 _ rfl) ?_
    refine lv_icmp_ge (tgt := 20) C.x C.b dJ7_fill_53178_7 rfl (fun _ => ?_) (fun c => absurd (nI_le (Nat.le_refl _) hn) c)
    refine W.vret C.x C.b hr (fun t ht hW => ⟨⟨(), rfl, trivial, ?_⟩, hS.F ht⟩) hS.2.2 dJ7_fill_53178_20 C.lk
    show va_P _ _ _ t.heap
    rw [ht]
    intro k q hq
    have hz0 : k < 1 := (List.getElem?_eq_some_iff.mp hq).1
    rw [show k = 0 by omega] at hq
    cases hq
    have h0 := hP 0 _ rfl
    show H[h]? = some (vp_cell (X.ac 0) (i, .inl fun _ => v))
    have e2 : vp_cell (X.ac 0) (i, .inl fun _ => v) = vp_cell (X.ac 0) (i, .inl f) := by
      rw [vp_cell_i, vp_cell_i]
      unfold arrV
      congr 1
      congr 1
      funext j
      show Value.int v = Value.int (f j.val)
      rw [hf j.val j.isLt]
    rw [e2]
    exact h0
  | succ m ih =>
    intro i f hi hm hf
    by_cases e : i = n
    · exact fun H locs ls hP hD hS hl => by
        subst e
        refine lv_iload_n C.x C.b dJ7_fill_53178_5 rfl (hl.2.2 2 _ rfl) ?_
        refine lv_iload_n C.x C.b dJ7_fill_53178_6 rfl (hl.2.2 3 _ rfl) ?_
        refine lv_icmp_ge (tgt := 20) C.x C.b dJ7_fill_53178_7 rfl (fun _ => ?_) (fun c => absurd (nI_le (Nat.le_refl _) hn) c)
        refine W.vret C.x C.b hr (fun t ht hW => ⟨⟨(), rfl, trivial, ?_⟩, hS.F ht⟩) hS.2.2 dJ7_fill_53178_20 C.lk
        show va_P _ _ _ t.heap
        rw [ht]
        intro k q hq
        have hz0 : k < 1 := (List.getElem?_eq_some_iff.mp hq).1
        rw [show k = 0 by omega] at hq
        cases hq
        have h0 := hP 0 _ rfl
        show H[h]? = some (vp_cell (X.ac 0) (i, .inl fun _ => v))
        have e2 : vp_cell (X.ac 0) (i, .inl fun _ => v) = vp_cell (X.ac 0) (i, .inl f) := by
          rw [vp_cell_i, vp_cell_i]
          unfold arrV
          congr 1
          congr 1
          funext j
          show Value.int v = Value.int (f j.val)
          rw [hf j.val j.isLt]
        rw [e2]
        exact h0
    · have hlt : i < n := by omega
      refine a_iload_n (pc := 5) (i := 2) C dJ7_fill_53178_5 rfl rfl ?_
      refine a_iload_n (pc := 6) (i := 3) C dJ7_fill_53178_6 rfl rfl ?_
      refine a_ge_f (pc := 7) (tgt := 20) C dJ7_fill_53178_7 rfl (nI_ge hlt hn) ?_
      refine a_aload_n (pc := 10) (i := 0) C dJ7_fill_53178_10 rfl rfl ?_
      refine a_iload_n (pc := 11) (i := 2) C dJ7_fill_53178_11 rfl rfl ?_
      refine a_iload_n (pc := 12) (i := 1) C dJ7_fill_53178_12 rfl rfl ?_
      refine a_iastore (pc := 13) (q0 := 0) [(h, .inl (X.ac 0, n, .inl (upd f (nI i).toNatClampNeg v)))] C rfl (vp_in_nI hlt hn) dJ7_fill_53178_13 rfl ?_
      refine a_iinc (pc := 14) (v := nI (i + 1)) C dJ7_fill_53178_14 rfl (nI_1 i) (Nat.le_of_ble_eq_true rfl) rfl ?_
      refine a_goto (pc := 17) (tgt := 5) C dJ7_fill_53178_17 rfl ?_
      refine ih (i + 1) _ (by omega) (by omega) (fun j hj => ?_)
      rw [nI_clamp (by omega)]
      by_cases e3 : j = i
      · subst e3; simp [upd]
      · simp [upd, e3]; exact hf j (by omega)
theorem fill_met (X : Xc) (h n : Nat) (v : Int32) (f0 : Nat → Int32) (sz : Nat) (hn : n < 2 ^ 31) : Met X.l yJ7_fill_53178 (wsM yJ7_fill_53178 cJ7_fill_53178 4 none) rmJ7_fill_53178 (va_Pc [.ref h, .int v] (PA X [(h, .inl (X.ac 0, n, .inl f0))] sz)) (va_Qv (fun (_ : Unit) => True) (fun _ t => va_P X.D classes [(h, .inl (X.ac 0, n, .inl (fun _ => v)))] t.heap) (va_A [(h, .inl (X.ac 0, n, .inl f0))] sz)) 0 0 (va_A [(h, .inl (X.ac 0, n, .inl f0))] sz) := by
  refine ct_of (own := RJ7) (lo := [some (.ref h), some (.int v), none, none]) (by decide) rfl (Nat.le_of_ble_eq_true rfl) rfl (fun K C hr _ hz => ?_)
  refine a_iconst (pc := 0) (v := nI 0) C dJ7_fill_53178_0 (by decide) ?_
  refine a_istore_n (pc := 1) (i := 2) C dJ7_fill_53178_1 rfl (Nat.le_of_ble_eq_true rfl) rfl ?_
  refine a_aload_n (pc := 2) (i := 0) C dJ7_fill_53178_2 rfl rfl ?_
  refine a_alen (pc := 3) (q0 := 0) (t0 := 0) (v := nI n) C rfl rfl rfl dJ7_fill_53178_3 ?_
  refine a_istore_n (pc := 4) (i := 3) C dJ7_fill_53178_4 rfl (Nat.le_of_ble_eq_true rfl) rfl ?_
  exact fill_loop hn C hr hz n 0 f0 (Nat.zero_le _) (by omega) (fun j hj => by omega)
theorem a_fill {q0 h n : Nat} {v : Int32} {f0 : Nat → Int32} (ws' : va_W) (C : MA X K cc nL own rm A) (hq : ws[q0]? = some (h, .inl (X.ac 0, n, .inl f0))) (hn : n < 2 ^ 31) (h1 : Cond.methodLink own index yJ7_fill_53178 ∈ wsL_law) (h2 : Cond.static yJ7_fill_53178 ∈ wsL_law) (h4 : Cond.initialized RJ7 ∈ wsL_law) (h5 : Cond.code yJ7_fill_53178 cJ7_fill_53178 4 none ∈ wsL_law) (hR : fitsC rmJ7_fill_53178 rm 4 0 0 cs ss) (hst : (st.map fun v => v.category).sum ≤ 8) (d : decode cc pc = .ok (.invokestatic index, 3)) (hs : ws.set q0 (h, .inl (X.ac 0, n, .inl (fun _ => v))) = ws')
    (k : GA X K A nL Q ws' cs ss (pc + 3) lo st) : GA X K A nL Q ws cs ss pc lo (.int v :: .ref h :: st) := by
  intro H locs ls hP hD hS hl
  have hlt : q0 < ws.length := (List.getElem?_eq_some_iff.mp hq).1
  have hAh : A h := hD.2 q0 _ hq
  have hF : ∀ q, va_A [(h, (.inl (X.ac 0, n, .inl f0) : va_E))] H.size q → A q := fun q h9 => by
    rcases h9 with ⟨k, e, h9⟩ | h9
    · have hz : k < 1 := (List.getElem?_eq_some_iff.mp h9).1
      rw [show k = 0 by omega] at h9
      cases h9
      exact hAh
    · exact C.a q (Nat.le_trans hS.1 h9)
  have hPc : va_P X.D classes [(h, (.inl (X.ac 0, n, .inl f0) : va_E))] H := fun k q hk => by
    have hz : k < 1 := (List.getElem?_eq_some_iff.mp hk).1
    rw [show k = 0 by omega] at hk
    cases hk
    exact hP q0 _ hq
  refine va_callv (va_runS (As := [.ref h, .int v]) (rest := st) ⟨C.x, C.b, C.ml, C.ow, C.ts⟩ (fill_met X h n v f0 H.size hn) (va_cwS 2 C.ts (gi_S h1 h2 h4 h5) rfl hR.2.2.1 hR.2.2.2.1 hdJ7_fill_53178 (by rw [C.R]; exact ⟨hR.1, hR.2.1⟩)) ⟨pa_blind X _ _ _, fun U hU hW => ⟨rfl, by rw [hU], by rw [hU]; exact hPc, va_K.moved hW.alike C.kk, XA.warm hW C.k, by rw [va_D_iff]; exact ⟨by simp, fun _ _ => trivial⟩⟩⟩ rfl rfl hl.1 rfl (lv_room hst) d (by rw [C.R]; exact hR.2.2.2.2)) hS (fun q _ h => hF q h) hF (fun u t H1 locs1 ht hvm hw hB hz hk hS1 => ?_)
  rw [ht] at hB
  refine k H1 locs1 ls ?_ ?_ hS1 hl
  · rw [← hs]
    intro i q hi
    rw [List.getElem?_set] at hi
    by_cases e : q0 = i
    · subst e
      rw [if_pos rfl, if_pos hlt] at hi
      cases hi
      exact hB 0 _ rfl
    · rw [if_neg e] at hi
      refine (hP i q hi).kept (hk q.1 (hP i q hi).lt (fun h9 => ?_))
      rcases h9 with ⟨k, e9, h9⟩ | h9
      · have hz : k < 1 := (List.getElem?_eq_some_iff.mp h9).1
        rw [show k = 0 by omega] at h9
        have : h = q.1 := by
          have := congrArg Prod.fst (Option.some.inj h9)
          exact this
        exact e (hD.1 q0 i _ q hq hi this)
      · exact absurd (hP i q hi).lt (Nat.not_lt.mpr h9)
  · rw [← hs]; exact hD.set hq
end GAC


/-! BASE D: more rows -/
abbrev FU : Nat := 6000
abbrev cpok (sp dp n : Int32) (n0 n1 : Nat) : Prop := ¬ sp < 0 ∧ ¬ dp < 0 ∧ ¬ n < 0 ∧ sp.toNatClampNeg + n.toNatClampNeg ≤ n0 ∧ dp.toNatClampNeg + n.toNatClampNeg ≤ n1
section GD
variable {X : Xc} {K : Kc} {cc : ByteArray} {nL : Nat} {own : String} {rm : Room} {ρ ρ1 : Type} {Q : ρ → State → Prop} {M M1 M2 : Option ρ} {σ : Sg} {cs ss pc : Nat} {lo lo' : List (Option Value)} {st : List Value}
theorem g_nms {τ : Sg} {f : Sg → Option ρ} (k : ∀ s, GO X K nL Q (f s) s cs ss pc lo st) : GO X K nL Q (nm τ f) τ cs ss pc lo st := k τ
theorem g_zretv {eb : ρ → Bool} {es : ρ → Sg} {r0 r1 : ρ} {v : Int32} (C : MC X K cc nL own rm) (hr : K.meth.sig.returnType = some .boolean) (d : decode cc pc = .ok (.ireturn, 1)) (e0 : eb r0 = false) (e1 : eb r1 = true) (h0 : es r0 = σ) (h1 : es r1 = σ) : GO X K nL (fun r => MQi X K (b2i (eb r)) (es r)) (if v = 0 then some r0 else if v = 1 then some r1 else none) σ 0 0 pc lo [.int v] := by
  intro r h
  by_cases a : v = 0
  · subst a
    rw [if_pos rfl] at h
    have := g_zret (K := K) (eb := eb) (es := es) (r0 := r0) (lo := lo) C hr d h0 r h
    rw [e0] at this
    exact this
  · rw [if_neg a] at h
    by_cases b : v = 1
    · subst b
      rw [if_pos rfl] at h
      have := g_zret (K := K) (eb := eb) (es := es) (r0 := r1) (lo := lo) C hr d h1 r h
      rw [e1] at this
      exact this
    · rw [if_neg b] at h
      cases h
theorem g_idivc {x y : Int32} (C : MC X K cc nL own rm) (d : decode cc pc = .ok (.idiv, 1)) (e : ¬ y = 0) (k : GO X K nL Q M σ cs ss (pc + 1) lo (.int (x / y) :: st)) : GO X K nL Q M σ cs ss pc lo (.int y :: .int x :: st) := fun r hr H locs ls hP hS hl => lv_idiv C.x C.b d e (k r hr H locs ls hP hS hl)
theorem g_iremc {x y : Int32} (C : MC X K cc nL own rm) (d : decode cc pc = .ok (.irem, 1)) (e : ¬ y = 0) (k : GO X K nL Q M σ cs ss (pc + 1) lo (.int (x - x / y * y) :: st)) : GO X K nL Q M σ cs ss pc lo (.int y :: .int x :: st) := fun r hr H locs ls hP hS hl => lv_irem C.x C.b d e (k r hr H locs ls hP hS hl)
theorem g_iushr {x y : Int32} (C : MC X K cc nL own rm) (d : decode cc pc = .ok (.iushr, 1)) (k : GO X K nL Q M σ cs ss (pc + 1) lo (.int (x.toUInt32 >>> (y.toUInt32 &&& Int32.toUInt32 31)).toInt32 :: st)) : GO X K nL Q M σ cs ss pc lo (.int y :: .int x :: st) := fun r hr H locs ls hP hS hl => lv_iushr C.x C.b d rfl (k r hr H locs ls hP hS hl)
theorem g_ite {c : Prop} [Decidable c] (k1 : c → GO X K nL Q M1 σ cs ss pc lo st) (k2 : ¬ c → GO X K nL Q M2 σ cs ss pc lo st) : GO X K nL Q (if c then M1 else M2) σ cs ss pc lo st := by
  by_cases h : c
  · rw [if_pos h]; exact k1 h
  · rw [if_neg h]; exact k2 h
theorem g_tabin {x z : Int32} {dflt lo0 hi0 off : Int} {offs : Array Int} {len tgt : Nat} (C : MC X K cc nL own rm) (d : decode cc pc = .ok (.tableswitch dflt lo0 hi0 offs, len)) (hx : x = z) (h1 : ¬ z.toInt < lo0) (h2 : ¬ hi0 < z.toInt) (ho : offs[(z.toInt - lo0).toNat]? = some off) (ht : (pc : Int) + off = (tgt : Int)) (k : GO X K nL Q M σ cs ss tgt lo st) : GO X K nL Q M σ cs ss pc lo (.int x :: st) := by
  subst hx
  exact fun r hr H locs ls hP hS hl => lv_tableIn C.x C.b d h1 h2 ho ht (k r hr H locs ls hP hS hl)
theorem g_tabout {x : Int32} {dflt lo0 hi0 : Int} {offs : Array Int} {len tgt : Nat} (C : MC X K cc nL own rm) (d : decode cc pc = .ok (.tableswitch dflt lo0 hi0 offs, len)) (h : x.toInt < lo0 ∨ hi0 < x.toInt) (ht : (pc : Int) + dflt = (tgt : Int)) (k : GO X K nL Q M σ cs ss tgt lo st) : GO X K nL Q M σ cs ss pc lo (.int x :: st) :=
  fun r hr H locs ls hP hS hl => lv_tableOut C.x C.b d h ht (k r hr H locs ls hP hS hl)
theorem tsw_ne {x z : Int32} (h : ¬ x = z) : x.toInt ≠ z.toInt := fun e => h (Int32.toInt_inj.mp e)
theorem g_mmin {x y : Int32} {index : Nat} (C : MC X K cc nL own rm) (h1 : Cond.methodLink own index Lib.Math.min.name ∈ wsL_law) (h2 : Cond.static Lib.Math.min.name ∈ wsL_law) (h3 : Cond.initialized "java/lang/Math" ∈ wsL_law) (h4 : Cond.code Lib.Math.min.name Lib.Math.min.code 2 (some .int) ∈ wsL_law) (hR : 1 ≤ rm.frames ∧ (st.map fun v => v.category).sum + 13 ≤ rm.locals) (hc : cs ≤ rm.cells ∧ ss ≤ rm.slots) (d : decode cc pc = .ok (.invokestatic index, 3)) (k : GO X K nL Q M σ cs ss (pc + 3) lo (.int (if y < x then y else x) :: st)) : GO X K nL Q M σ cs ss pc lo (.int y :: .int x :: st) :=
  fun r hr H locs ls hP hS hl => va_mmin C.x C.b (by rw [C.ml]; exact hl.1.symm) C.ow (C.ts _ h1) (C.ts _ h2) (C.ts _ h3) (C.ts _ h4) (by rw [C.R]; exact hR.1) (by rw [C.R]; exact hR.2) (by rw [C.R]; exact hc.1) (by rw [C.R]; exact hc.2) d (k r hr H locs ls hP hS hl)
theorem g_mmax {x y : Int32} {index : Nat} (C : MC X K cc nL own rm) (h1 : Cond.methodLink own index Lib.Math.max.name ∈ wsL_law) (h2 : Cond.static Lib.Math.max.name ∈ wsL_law) (h3 : Cond.initialized "java/lang/Math" ∈ wsL_law) (h4 : Cond.code Lib.Math.max.name Lib.Math.max.code 2 (some .int) ∈ wsL_law) (hR : 1 ≤ rm.frames ∧ (st.map fun v => v.category).sum + 13 ≤ rm.locals) (hc : cs ≤ rm.cells ∧ ss ≤ rm.slots) (d : decode cc pc = .ok (.invokestatic index, 3)) (k : GO X K nL Q M σ cs ss (pc + 3) lo (.int (if x < y then y else x) :: st)) : GO X K nL Q M σ cs ss pc lo (.int y :: .int x :: st) :=
  fun r hr H locs ls hP hS hl => va_mmax C.x C.b (by rw [C.ml]; exact hl.1.symm) C.ow (C.ts _ h1) (C.ts _ h2) (C.ts _ h3) (C.ts _ h4) (by rw [C.R]; exact hR.1) (by rw [C.R]; exact hR.2) (by rw [C.R]; exact hc.1) (by rw [C.R]; exact hc.2) d (k r hr H locs ls hP hS hl)
theorem g_acopy {sp dp n : Int32} {index b0 b1 n0 n1 : Nat} (C : MC X K cc nL own rm) (hs0 : SHP[b0]? = some (0, [n0])) (hs1 : SHP[b1]? = some (0, [n1])) (h1 : Cond.methodLink own index arraycopyName ∈ wsL_law) (h2 : Cond.native arraycopyName ∈ wsL_law) (h3 : Cond.static arraycopyName ∈ wsL_law) (h4 : Cond.initialized "java/lang/System" ∈ wsL_law) (hR : 1 ≤ rm.frames ∧ (st.map fun v => v.category).sum + (nativeFrameWords "java/lang/System" "arraycopy" 5 + 11) ≤ rm.locals) (d : decode cc pc = .ok (.invokestatic index, 3))
    (k : GO X K nL Q M (sur σ b1 (va_cpy (σ.1 b0) (σ.1 b1) sp.toNatClampNeg dp.toNatClampNeg n.toNatClampNeg)) cs ss (pc + 3) lo st) : GO X K nL Q (if cpok sp dp n n0 n1 then M else none) σ cs ss pc lo (.int n :: .int dp :: .ref (X.ad b1) :: .int sp :: .ref (X.ad b0) :: st) := by
  intro r hr H locs ls hP hS hl
  by_cases e : cpok sp dp n n0 n1
  · rw [if_pos e] at hr
    obtain ⟨e1, e2, e3, e4, e5⟩ := e
    refine va_copyi (D := X.D) (c0 := X.ac 0) (c1 := X.ac 0) (n0 := n0) (n1 := n1) (f := σ.1 b0) (g := σ.1 b1) (ty := .int) C.x C.b (by rw [C.ml]; exact hl.1.symm) C.ow (C.ts _ h1) (C.ts _ h2) (C.ts _ h3) (C.ts _ h4) C.kk hP (C.ok.D σ) hS b0 b1 0 0 (wl_get hs0) (wl_get hs1) rfl rfl rfl e1 e2 e3 e4 e5 (fun _ _ => rfl) (by rw [C.R]; exact hR.1) (by rw [C.R]; exact hR.2) d (fun H1 locs1 hP1 _ hS1 => k r hr H1 locs1 ls ?_ hS1 hl)
    have e : (wX X σ).set b1 (X.ad b1, .inl (X.ac 0, n1, .inl (va_cpy (σ.1 b0) (σ.1 b1) sp.toNatClampNeg dp.toNatClampNeg n.toNatClampNeg))) = wX X (sur σ b1 (va_cpy (σ.1 b0) (σ.1 b1) sp.toNatClampNeg dp.toNatClampNeg n.toNatClampNeg)) := wl_su hs1 _
    rw [← e]; exact hP1
  · rw [if_neg e] at hr; cases hr
end GD
theorem tsw_out0_2 {x : Int32} (h0 : ¬ x = 0) (h1 : ¬ x = 1) (h2 : ¬ x = 2) : x.toInt < 0 ∨ 2 < x.toInt := by
  have g0 := tsw_ne h0
  have g1 := tsw_ne h1
  have g2 := tsw_ne h2
  have c : (0 : Int32).toInt = 0 ∧ (1 : Int32).toInt = 1 ∧ (2 : Int32).toInt = 2 := by decide
  omega
theorem tsw_out0_6 {x : Int32} (h0 : ¬ x = 0) (h1 : ¬ x = 1) (h2 : ¬ x = 2) (h3 : ¬ x = 3) (h4 : ¬ x = 4) (h5 : ¬ x = 5) (h6 : ¬ x = 6) : x.toInt < 0 ∨ 6 < x.toInt := by
  have g0 := tsw_ne h0
  have g1 := tsw_ne h1
  have g2 := tsw_ne h2
  have g3 := tsw_ne h3
  have g4 := tsw_ne h4
  have g5 := tsw_ne h5
  have g6 := tsw_ne h6
  have c : (0 : Int32).toInt = 0 ∧ (1 : Int32).toInt = 1 ∧ (2 : Int32).toInt = 2 ∧ (3 : Int32).toInt = 3 ∧ (4 : Int32).toInt = 4 ∧ (5 : Int32).toInt = 5 ∧ (6 : Int32).toInt = 6 := by decide
  omega
theorem tsw_out0_7 {x : Int32} (h0 : ¬ x = 0) (h1 : ¬ x = 1) (h2 : ¬ x = 2) (h3 : ¬ x = 3) (h4 : ¬ x = 4) (h5 : ¬ x = 5) (h6 : ¬ x = 6) (h7 : ¬ x = 7) : x.toInt < 0 ∨ 7 < x.toInt := by
  have g0 := tsw_ne h0
  have g1 := tsw_ne h1
  have g2 := tsw_ne h2
  have g3 := tsw_ne h3
  have g4 := tsw_ne h4
  have g5 := tsw_ne h5
  have g6 := tsw_ne h6
  have g7 := tsw_ne h7
  have c : (0 : Int32).toInt = 0 ∧ (1 : Int32).toInt = 1 ∧ (2 : Int32).toInt = 2 ∧ (3 : Int32).toInt = 3 ∧ (4 : Int32).toInt = 4 ∧ (5 : Int32).toInt = 5 ∧ (6 : Int32).toInt = 6 ∧ (7 : Int32).toInt = 7 := by decide
  omega
theorem tsw_out4_7 {x : Int32} (h4 : ¬ x = 4) (h5 : ¬ x = 5) (h6 : ¬ x = 6) (h7 : ¬ x = 7) : x.toInt < 4 ∨ 7 < x.toInt := by
  have g4 := tsw_ne h4
  have g5 := tsw_ne h5
  have g6 := tsw_ne h6
  have g7 := tsw_ne h7
  have c : (4 : Int32).toInt = 4 ∧ (5 : Int32).toInt = 5 ∧ (6 : Int32).toInt = 6 ∧ (7 : Int32).toInt = 7 := by decide
  omega
theorem tsw_out0_34 {x : Int32} (h0 : ¬ x = 0) (h1 : ¬ x = 1) (h2 : ¬ x = 2) (h3 : ¬ x = 3) (h4 : ¬ x = 4) (h5 : ¬ x = 5) (h6 : ¬ x = 6) (h7 : ¬ x = 7) (h8 : ¬ x = 8) (h9 : ¬ x = 9) (h10 : ¬ x = 10) (h11 : ¬ x = 11) (h12 : ¬ x = 12) (h13 : ¬ x = 13) (h14 : ¬ x = 14) (h15 : ¬ x = 15) (h16 : ¬ x = 16) (h17 : ¬ x = 17) (h18 : ¬ x = 18) (h19 : ¬ x = 19) (h20 : ¬ x = 20) (h21 : ¬ x = 21) (h22 : ¬ x = 22) (h23 : ¬ x = 23) (h24 : ¬ x = 24) (h25 : ¬ x = 25) (h26 : ¬ x = 26) (h27 : ¬ x = 27) (h28 : ¬ x = 28) (h29 : ¬ x = 29) (h30 : ¬ x = 30) (h31 : ¬ x = 31) (h32 : ¬ x = 32) (h33 : ¬ x = 33) (h34 : ¬ x = 34) : x.toInt < 0 ∨ 34 < x.toInt := by
  have g0 := tsw_ne h0
  have g1 := tsw_ne h1
  have g2 := tsw_ne h2
  have g3 := tsw_ne h3
  have g4 := tsw_ne h4
  have g5 := tsw_ne h5
  have g6 := tsw_ne h6
  have g7 := tsw_ne h7
  have g8 := tsw_ne h8
  have g9 := tsw_ne h9
  have g10 := tsw_ne h10
  have g11 := tsw_ne h11
  have g12 := tsw_ne h12
  have g13 := tsw_ne h13
  have g14 := tsw_ne h14
  have g15 := tsw_ne h15
  have g16 := tsw_ne h16
  have g17 := tsw_ne h17
  have g18 := tsw_ne h18
  have g19 := tsw_ne h19
  have g20 := tsw_ne h20
  have g21 := tsw_ne h21
  have g22 := tsw_ne h22
  have g23 := tsw_ne h23
  have g24 := tsw_ne h24
  have g25 := tsw_ne h25
  have g26 := tsw_ne h26
  have g27 := tsw_ne h27
  have g28 := tsw_ne h28
  have g29 := tsw_ne h29
  have g30 := tsw_ne h30
  have g31 := tsw_ne h31
  have g32 := tsw_ne h32
  have g33 := tsw_ne h33
  have g34 := tsw_ne h34
  have c : (0 : Int32).toInt = 0 ∧ (1 : Int32).toInt = 1 ∧ (2 : Int32).toInt = 2 ∧ (3 : Int32).toInt = 3 ∧ (4 : Int32).toInt = 4 ∧ (5 : Int32).toInt = 5 ∧ (6 : Int32).toInt = 6 ∧ (7 : Int32).toInt = 7 ∧ (8 : Int32).toInt = 8 ∧ (9 : Int32).toInt = 9 ∧ (10 : Int32).toInt = 10 ∧ (11 : Int32).toInt = 11 ∧ (12 : Int32).toInt = 12 ∧ (13 : Int32).toInt = 13 ∧ (14 : Int32).toInt = 14 ∧ (15 : Int32).toInt = 15 ∧ (16 : Int32).toInt = 16 ∧ (17 : Int32).toInt = 17 ∧ (18 : Int32).toInt = 18 ∧ (19 : Int32).toInt = 19 ∧ (20 : Int32).toInt = 20 ∧ (21 : Int32).toInt = 21 ∧ (22 : Int32).toInt = 22 ∧ (23 : Int32).toInt = 23 ∧ (24 : Int32).toInt = 24 ∧ (25 : Int32).toInt = 25 ∧ (26 : Int32).toInt = 26 ∧ (27 : Int32).toInt = 27 ∧ (28 : Int32).toInt = 28 ∧ (29 : Int32).toInt = 29 ∧ (30 : Int32).toInt = 30 ∧ (31 : Int32).toInt = 31 ∧ (32 : Int32).toInt = 32 ∧ (33 : Int32).toInt = 33 ∧ (34 : Int32).toInt = 34 := by decide
  omega

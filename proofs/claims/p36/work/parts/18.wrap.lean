/-! by program out of the class files: each method as a function over the store, and its contract by a walk -/
theorem dL_create_0 : decode cL_create 0 = .ok (.aload_n 3, 1) := by decide +kernel
theorem dL_create_1 : decode cL_create 1 = .ok (.iconst 0, 1) := by decide +kernel
theorem dL_create_2 : decode cL_create 2 = .ok (.aload_n 0, 1) := by decide +kernel
theorem dL_create_3 : decode cL_create 3 = .ok (.iload_n 1, 1) := by decide +kernel
theorem dL_create_4 : decode cL_create 4 = .ok (.iload_n 2, 1) := by decide +kernel
theorem dL_create_5 : decode cL_create 5 = .ok (.invokevirtual 7, 3) := by decide +kernel
theorem dL_create_8 : decode cL_create 8 = .ok (.i2l, 1) := by decide +kernel
theorem dL_create_9 : decode cL_create 9 = .ok (.lastore, 1) := by decide +kernel
theorem dL_create_10 : decode cL_create 10 = .ok (.goto 11, 3) := by decide +kernel
theorem dL_create_13 : decode cL_create 13 = .ok (.astore 4, 2) := by decide +kernel
theorem dL_create_15 : decode cL_create 15 = .ok (.iconst 1, 1) := by decide +kernel
theorem dL_create_16 : decode cL_create 16 = .ok (.ireturn, 1) := by decide +kernel
theorem dL_create_17 : decode cL_create 17 = .ok (.astore 4, 2) := by decide +kernel
theorem dL_create_19 : decode cL_create 19 = .ok (.iconst 2, 1) := by decide +kernel
theorem dL_create_20 : decode cL_create 20 = .ok (.ireturn, 1) := by decide +kernel
theorem dL_create_21 : decode cL_create 21 = .ok (.iconst 0, 1) := by decide +kernel
theorem dL_create_22 : decode cL_create 22 = .ok (.ireturn, 1) := by decide +kernel
abbrev rmL_create : Room := { frames := 10, cells := 3, slots := 18, locals := 218 }
theorem hdL_create : yL_create.cls ≠ "java/lang/invoke/MethodHandle" ∧ yL_create.cls ≠ "java/lang/invoke/VarHandle" ∧ (parseMethodDescriptor yL_create.desc).map (fun d => d.parameters.length) = some 4 := by decide +kernel
def fL_create (σ : Sg) (p1 : Int32) (p2 : Int32) (c3 : Nat) (n3 : Nat) : Option (Int32 × Sg) :=
  (fX8_create σ p1 p2).bind fun r1 => xcat r1.1 (fun e3 =>
    if e3 = 1 then
      some (1, r1.2)
    else if e3 = 2 then
      some (2, r1.2)
    else 
      none) fun w2 =>
  if ck 0 n3 then
    nm (sul r1.2 c3 (0 : Int32).toNatClampNeg w2.toInt64) fun σ4 =>
    some (0, σ4)
  else none
theorem kL_create (X : Xc) (σ : Sg) (p1 : Int32) (p2 : Int32) (c3 : Nat) (n3 : Nat) (h3 : SHP[c3]? = some (2, [n3])) (hfl : X.l.stackTraces = false) : ∀ r, fL_create σ p1 p2 c3 n3 = some r → vx_Met X.l yL_create (wsMH yL_create cL_create 5 (some .int) [(0, 10, 13, 13), (0, 10, 17, 15)]) rmL_create (va_Pc [.ref (X.ad 0), .int p1, .int p2, .ref (X.ad c3)] (PW X σ)) (CXi X (.inl r.1) r.2) (CXx X (.inl r.1 : Int32 ⊕ Nat) r.2) 3 18 X.A := by
  refine xt_ofH (own := RL) (lo := [some (.ref (X.ad 0)), some (.int (p1)), some (.int (p2)), some (.ref (X.ad c3)), none]) (by decide) rfl (Nat.le_of_ble_eq_true rfl) rfl (fun K C hr hex => ?_)
  unfold fL_create
  refine g_aload_n (pc := 0) (i := 3) C dL_create_0 rfl rfl ?_
  refine g_iconst (pc := 1) (v := 0) C dL_create_1 (by decide) ?_
  refine g_aload_n (pc := 2) (i := 0) C dL_create_2 rfl rfl ?_
  refine g_iload_n (pc := 3) (i := 1) C dL_create_3 rfl rfl ?_
  refine g_iload_n (pc := 4) (i := 2) C dL_create_4 rfl rfl ?_
  refine g_xcallVi (pc := 5) (As := [.int (p1), .int (p2)]) C (kX8_create X σ p1 p2 hfl) ok_dl rfl q_6_22 q_6_23 q_7_0 q_1_2 q_7_1 ⟨rfl, hdX8_create⟩ ⟨Nat.le_of_ble_eq_true rfl, Nat.le_of_ble_eq_true rfl, rfl, rfl, Nat.le_of_ble_eq_true rfl, Nat.le_of_ble_eq_true rfl⟩ (Nat.le_of_ble_eq_true rfl) rfl rfl dL_create_5 (fun r1 e3 _ _ => ?_) (fun r1 w2 _ _ => ?_)
  · refine gx_ite (fun he => ?_) (fun _ => ?_)
    · subst he
      refine gx_catch (pc := 5) (tgt := 13) (ct := 13) (name := "java/lang/IllegalArgumentException") C [] (⟨0, 10, 13, 13⟩ : ExceptionTableEntry) [(⟨0, 10, 17, 15⟩ : ExceptionTableEntry)] (by rw [hex]; rfl) (fun z hz => by cases hz) (by decide) rfl (by decide) rfl q_6_20 rfl (List.mem_of_getElem? (i := 1) rfl) (fun q => ?_)
      refine g_astore (pc := 13) C dL_create_13 (Nat.le_of_ble_eq_true rfl) rfl ?_
      refine g_iconst (pc := 15) (v := 1) C dL_create_15 (by decide) ?_
      exact g_xiret (pc := 16) C hr dL_create_16 (Nat.le_of_ble_eq_true rfl) (Nat.le_of_ble_eq_true rfl) (fun t hP hF => ⟨⟨_, (), rfl, rfl, hP⟩, hF⟩)
    refine gx_ite (fun he => ?_) (fun _ => ?_)
    · subst he
      refine gx_catch (pc := 5) (tgt := 17) (ct := 15) (name := "java/lang/IllegalStateException") C [(⟨0, 10, 13, 13⟩ : ExceptionTableEntry)] (⟨0, 10, 17, 15⟩ : ExceptionTableEntry) [] (by rw [hex]; rfl) (fun z hz => by
        simp only [List.mem_cons, List.not_mem_nil, or_false] at hz
        rcases hz with rfl
        · exact Or.inr ⟨by decide, "java/lang/IllegalArgumentException", q_6_20, List.mem_of_getElem? (i := 5) rfl⟩) (by decide) rfl (by decide) rfl q_6_21 rfl (List.mem_of_getElem? (i := 2) rfl) (fun q => ?_)
      refine g_astore (pc := 17) C dL_create_17 (Nat.le_of_ble_eq_true rfl) rfl ?_
      refine g_iconst (pc := 19) (v := 2) C dL_create_19 (by decide) ?_
      exact g_xiret (pc := 20) C hr dL_create_20 (Nat.le_of_ble_eq_true rfl) (Nat.le_of_ble_eq_true rfl) (fun t hP hF => ⟨⟨_, (), rfl, rfl, hP⟩, hF⟩)
    exact gx_none
  refine g_i2l (pc := 8) C dL_create_8 ?_
  refine g_lastore (pc := 9) C h3 dL_create_9 ?_
  refine g_nms (fun σ4 => ?_)
  refine g_goto (pc := 10) (tgt := 21) C dL_create_10 rfl ?_
  refine g_iconst (pc := 21) (v := 0) C dL_create_21 (by decide) ?_
  exact g_xiret (pc := 22) C hr dL_create_22 (Nat.le_of_ble_eq_true rfl) (Nat.le_of_ble_eq_true rfl) (fun t hP hF => ⟨⟨_, (), rfl, rfl, hP⟩, hF⟩)
theorem dL_remove_0 : decode cL_remove 0 = .ok (.aload_n 2, 1) := by decide +kernel
theorem dL_remove_1 : decode cL_remove 1 = .ok (.iconst 0, 1) := by decide +kernel
theorem dL_remove_2 : decode cL_remove 2 = .ok (.aload_n 0, 1) := by decide +kernel
theorem dL_remove_3 : decode cL_remove 3 = .ok (.iload_n 1, 1) := by decide +kernel
theorem dL_remove_4 : decode cL_remove 4 = .ok (.invokevirtual 17, 3) := by decide +kernel
theorem dL_remove_7 : decode cL_remove 7 = .ok (.i2l, 1) := by decide +kernel
theorem dL_remove_8 : decode cL_remove 8 = .ok (.lastore, 1) := by decide +kernel
theorem dL_remove_9 : decode cL_remove 9 = .ok (.goto 6, 3) := by decide +kernel
theorem dL_remove_12 : decode cL_remove 12 = .ok (.astore_n 3, 1) := by decide +kernel
theorem dL_remove_13 : decode cL_remove 13 = .ok (.iconst 1, 1) := by decide +kernel
theorem dL_remove_14 : decode cL_remove 14 = .ok (.ireturn, 1) := by decide +kernel
theorem dL_remove_15 : decode cL_remove 15 = .ok (.iconst 0, 1) := by decide +kernel
theorem dL_remove_16 : decode cL_remove 16 = .ok (.ireturn, 1) := by decide +kernel
abbrev rmL_remove : Room := { frames := 9, cells := 1, slots := 6, locals := 234 }
theorem hdL_remove : yL_remove.cls ≠ "java/lang/invoke/MethodHandle" ∧ yL_remove.cls ≠ "java/lang/invoke/VarHandle" ∧ (parseMethodDescriptor yL_remove.desc).map (fun d => d.parameters.length) = some 3 := by decide +kernel
def fL_remove (σ : Sg) (p1 : Int32) (c2 : Nat) (n2 : Nat) : Option (Int32 × Sg) :=
  (fX8_remove σ p1).bind fun r1 => xcat r1.1 (fun e3 =>
    if e3 = 0 then
      some (1, r1.2)
    else 
      none) fun w2 =>
  if ck 0 n2 then
    nm (sul r1.2 c2 (0 : Int32).toNatClampNeg w2.toInt64) fun σ4 =>
    some (0, σ4)
  else none
theorem kL_remove (X : Xc) (σ : Sg) (p1 : Int32) (c2 : Nat) (n2 : Nat) (h2 : SHP[c2]? = some (2, [n2])) (hfl : X.l.stackTraces = false) : ∀ r, fL_remove σ p1 c2 n2 = some r → vx_Met X.l yL_remove (wsMH yL_remove cL_remove 4 (some .int) [(0, 9, 12, 21)]) rmL_remove (va_Pc [.ref (X.ad 0), .int p1, .ref (X.ad c2)] (PW X σ)) (CXi X (.inl r.1) r.2) (CXx X (.inl r.1 : Int32 ⊕ Nat) r.2) 1 6 X.A := by
  refine xt_ofH (own := RL) (lo := [some (.ref (X.ad 0)), some (.int (p1)), some (.ref (X.ad c2)), none]) (by decide) rfl (Nat.le_of_ble_eq_true rfl) rfl (fun K C hr hex => ?_)
  unfold fL_remove
  refine g_aload_n (pc := 0) (i := 2) C dL_remove_0 rfl rfl ?_
  refine g_iconst (pc := 1) (v := 0) C dL_remove_1 (by decide) ?_
  refine g_aload_n (pc := 2) (i := 0) C dL_remove_2 rfl rfl ?_
  refine g_iload_n (pc := 3) (i := 1) C dL_remove_3 rfl rfl ?_
  refine g_xcallVi (pc := 4) (As := [.int (p1)]) C (kX8_remove X σ p1 hfl) ok_dl rfl q_11_3 q_11_4 q_11_5 q_1_2 q_11_6 ⟨rfl, hdX8_remove⟩ ⟨Nat.le_of_ble_eq_true rfl, Nat.le_of_ble_eq_true rfl, rfl, rfl, Nat.le_of_ble_eq_true rfl, Nat.le_of_ble_eq_true rfl⟩ (Nat.le_of_ble_eq_true rfl) rfl rfl dL_remove_4 (fun r1 e3 _ _ => ?_) (fun r1 w2 _ _ => ?_)
  · refine gx_ite (fun he => ?_) (fun _ => ?_)
    · subst he
      refine gx_catch (pc := 4) (tgt := 12) (ct := 21) (name := "java/lang/IndexOutOfBoundsException") C [] (⟨0, 9, 12, 21⟩ : ExceptionTableEntry) [] (by rw [hex]; rfl) (fun z hz => by cases hz) (by decide) rfl (by decide) rfl q_11_2 rfl (List.mem_of_getElem? (i := 0) rfl) (fun q => ?_)
      refine g_astore_n (pc := 12) (i := 3) C dL_remove_12 rfl (Nat.le_of_ble_eq_true rfl) rfl ?_
      refine g_iconst (pc := 13) (v := 1) C dL_remove_13 (by decide) ?_
      exact g_xiret (pc := 14) C hr dL_remove_14 (Nat.le_of_ble_eq_true rfl) (Nat.le_of_ble_eq_true rfl) (fun t hP hF => ⟨⟨_, (), rfl, rfl, hP⟩, hF⟩)
    exact gx_none
  refine g_i2l (pc := 7) C dL_remove_7 ?_
  refine g_lastore (pc := 8) C h2 dL_remove_8 ?_
  refine g_nms (fun σ4 => ?_)
  refine g_goto (pc := 9) (tgt := 15) C dL_remove_9 rfl ?_
  refine g_iconst (pc := 15) (v := 0) C dL_remove_15 (by decide) ?_
  exact g_xiret (pc := 16) C hr dL_remove_16 (Nat.le_of_ble_eq_true rfl) (Nat.le_of_ble_eq_true rfl) (fun t hP hF => ⟨⟨_, (), rfl, rfl, hP⟩, hF⟩)
theorem dL_setMinimum_0 : decode cL_setMinimum 0 = .ok (.aload 4, 2) := by decide +kernel
theorem dL_setMinimum_2 : decode cL_setMinimum 2 = .ok (.iconst 0, 1) := by decide +kernel
theorem dL_setMinimum_3 : decode cL_setMinimum 3 = .ok (.aload_n 0, 1) := by decide +kernel
theorem dL_setMinimum_4 : decode cL_setMinimum 4 = .ok (.iload_n 1, 1) := by decide +kernel
theorem dL_setMinimum_5 : decode cL_setMinimum 5 = .ok (.iload_n 2, 1) := by decide +kernel
theorem dL_setMinimum_6 : decode cL_setMinimum 6 = .ok (.iload_n 3, 1) := by decide +kernel
theorem dL_setMinimum_7 : decode cL_setMinimum 7 = .ok (.invokevirtual 23, 3) := by decide +kernel
theorem dL_setMinimum_10 : decode cL_setMinimum 10 = .ok (.i2l, 1) := by decide +kernel
theorem dL_setMinimum_11 : decode cL_setMinimum 11 = .ok (.lastore, 1) := by decide +kernel
theorem dL_setMinimum_12 : decode cL_setMinimum 12 = .ok (.goto 11, 3) := by decide +kernel
theorem dL_setMinimum_15 : decode cL_setMinimum 15 = .ok (.astore 5, 2) := by decide +kernel
theorem dL_setMinimum_17 : decode cL_setMinimum 17 = .ok (.iconst 1, 1) := by decide +kernel
theorem dL_setMinimum_18 : decode cL_setMinimum 18 = .ok (.ireturn, 1) := by decide +kernel
theorem dL_setMinimum_19 : decode cL_setMinimum 19 = .ok (.astore 5, 2) := by decide +kernel
theorem dL_setMinimum_21 : decode cL_setMinimum 21 = .ok (.iconst 2, 1) := by decide +kernel
theorem dL_setMinimum_22 : decode cL_setMinimum 22 = .ok (.ireturn, 1) := by decide +kernel
theorem dL_setMinimum_23 : decode cL_setMinimum 23 = .ok (.iconst 0, 1) := by decide +kernel
theorem dL_setMinimum_24 : decode cL_setMinimum 24 = .ok (.ireturn, 1) := by decide +kernel
abbrev rmL_setMinimum : Room := { frames := 10, cells := 3, slots := 18, locals := 237 }
theorem hdL_setMinimum : yL_setMinimum.cls ≠ "java/lang/invoke/MethodHandle" ∧ yL_setMinimum.cls ≠ "java/lang/invoke/VarHandle" ∧ (parseMethodDescriptor yL_setMinimum.desc).map (fun d => d.parameters.length) = some 5 := by decide +kernel
def fL_setMinimum (σ : Sg) (p1 : Int32) (p2 : Int32) (p3 : Int32) (c4 : Nat) (n4 : Nat) : Option (Int32 × Sg) :=
  (fX8_setMinimum σ p1 p2 p3).bind fun r1 => xcat r1.1 (fun e3 =>
    if e3 = 0 then
      some (1, r1.2)
    else if e3 = 1 then
      some (2, r1.2)
    else 
      none) fun w2 =>
  if ck 0 n4 then
    nm (sul r1.2 c4 (0 : Int32).toNatClampNeg w2.toInt64) fun σ4 =>
    some (0, σ4)
  else none
theorem kL_setMinimum (X : Xc) (σ : Sg) (p1 : Int32) (p2 : Int32) (p3 : Int32) (c4 : Nat) (n4 : Nat) (h4 : SHP[c4]? = some (2, [n4])) (hfl : X.l.stackTraces = false) : ∀ r, fL_setMinimum σ p1 p2 p3 c4 n4 = some r → vx_Met X.l yL_setMinimum (wsMH yL_setMinimum cL_setMinimum 6 (some .int) [(0, 12, 15, 21), (0, 12, 19, 13)]) rmL_setMinimum (va_Pc [.ref (X.ad 0), .int p1, .int p2, .int p3, .ref (X.ad c4)] (PW X σ)) (CXi X (.inl r.1) r.2) (CXx X (.inl r.1 : Int32 ⊕ Nat) r.2) 3 18 X.A := by
  refine xt_ofH (own := RL) (lo := [some (.ref (X.ad 0)), some (.int (p1)), some (.int (p2)), some (.int (p3)), some (.ref (X.ad c4)), none]) (by decide) rfl (Nat.le_of_ble_eq_true rfl) rfl (fun K C hr hex => ?_)
  unfold fL_setMinimum
  refine g_aload (pc := 0) C dL_setMinimum_0 rfl ?_
  refine g_iconst (pc := 2) (v := 0) C dL_setMinimum_2 (by decide) ?_
  refine g_aload_n (pc := 3) (i := 0) C dL_setMinimum_3 rfl rfl ?_
  refine g_iload_n (pc := 4) (i := 1) C dL_setMinimum_4 rfl rfl ?_
  refine g_iload_n (pc := 5) (i := 2) C dL_setMinimum_5 rfl rfl ?_
  refine g_iload_n (pc := 6) (i := 3) C dL_setMinimum_6 rfl rfl ?_
  refine g_xcallVi (pc := 7) (As := [.int (p1), .int (p2), .int (p3)]) C (kX8_setMinimum X σ p1 p2 p3 hfl) ok_dl rfl q_23_18 q_23_19 q_23_20 q_1_2 q_23_21 ⟨rfl, hdX8_setMinimum⟩ ⟨Nat.le_of_ble_eq_true rfl, Nat.le_of_ble_eq_true rfl, rfl, rfl, Nat.le_of_ble_eq_true rfl, Nat.le_of_ble_eq_true rfl⟩ (Nat.le_of_ble_eq_true rfl) rfl rfl dL_setMinimum_7 (fun r1 e3 _ _ => ?_) (fun r1 w2 _ _ => ?_)
  · refine gx_ite (fun he => ?_) (fun _ => ?_)
    · subst he
      refine gx_catch (pc := 7) (tgt := 15) (ct := 21) (name := "java/lang/IndexOutOfBoundsException") C [] (⟨0, 12, 15, 21⟩ : ExceptionTableEntry) [(⟨0, 12, 19, 13⟩ : ExceptionTableEntry)] (by rw [hex]; rfl) (fun z hz => by cases hz) (by decide) rfl (by decide) rfl q_11_2 rfl (List.mem_of_getElem? (i := 0) rfl) (fun q => ?_)
      refine g_astore (pc := 15) C dL_setMinimum_15 (Nat.le_of_ble_eq_true rfl) rfl ?_
      refine g_iconst (pc := 17) (v := 1) C dL_setMinimum_17 (by decide) ?_
      exact g_xiret (pc := 18) C hr dL_setMinimum_18 (Nat.le_of_ble_eq_true rfl) (Nat.le_of_ble_eq_true rfl) (fun t hP hF => ⟨⟨_, (), rfl, rfl, hP⟩, hF⟩)
    refine gx_ite (fun he => ?_) (fun _ => ?_)
    · subst he
      refine gx_catch (pc := 7) (tgt := 19) (ct := 13) (name := "java/lang/IllegalArgumentException") C [(⟨0, 12, 15, 21⟩ : ExceptionTableEntry)] (⟨0, 12, 19, 13⟩ : ExceptionTableEntry) [] (by rw [hex]; rfl) (fun z hz => by
        simp only [List.mem_cons, List.not_mem_nil, or_false] at hz
        rcases hz with rfl
        · exact Or.inr ⟨by decide, "java/lang/IndexOutOfBoundsException", q_11_2, List.mem_of_getElem? (i := 2) rfl⟩) (by decide) rfl (by decide) rfl q_6_20 rfl (List.mem_of_getElem? (i := 1) rfl) (fun q => ?_)
      refine g_astore (pc := 19) C dL_setMinimum_19 (Nat.le_of_ble_eq_true rfl) rfl ?_
      refine g_iconst (pc := 21) (v := 2) C dL_setMinimum_21 (by decide) ?_
      exact g_xiret (pc := 22) C hr dL_setMinimum_22 (Nat.le_of_ble_eq_true rfl) (Nat.le_of_ble_eq_true rfl) (fun t hP hF => ⟨⟨_, (), rfl, rfl, hP⟩, hF⟩)
    exact gx_none
  refine g_i2l (pc := 10) C dL_setMinimum_10 ?_
  refine g_lastore (pc := 11) C h4 dL_setMinimum_11 ?_
  refine g_nms (fun σ4 => ?_)
  refine g_goto (pc := 12) (tgt := 23) C dL_setMinimum_12 rfl ?_
  refine g_iconst (pc := 23) (v := 0) C dL_setMinimum_23 (by decide) ?_
  exact g_xiret (pc := 24) C hr dL_setMinimum_24 (Nat.le_of_ble_eq_true rfl) (Nat.le_of_ble_eq_true rfl) (fun t hP hF => ⟨⟨_, (), rfl, rfl, hP⟩, hF⟩)
theorem dL_pane_0 : decode cL_pane 0 = .ok (.aload_n 3, 1) := by decide +kernel
theorem dL_pane_1 : decode cL_pane 1 = .ok (.iconst 0, 1) := by decide +kernel
theorem dL_pane_2 : decode cL_pane 2 = .ok (.aload_n 0, 1) := by decide +kernel
theorem dL_pane_3 : decode cL_pane 3 = .ok (.iload_n 1, 1) := by decide +kernel
theorem dL_pane_4 : decode cL_pane 4 = .ok (.iload_n 2, 1) := by decide +kernel
theorem dL_pane_5 : decode cL_pane 5 = .ok (.invokevirtual 27, 3) := by decide +kernel
theorem dL_pane_8 : decode cL_pane 8 = .ok (.i2l, 1) := by decide +kernel
theorem dL_pane_9 : decode cL_pane 9 = .ok (.lastore, 1) := by decide +kernel
theorem dL_pane_10 : decode cL_pane 10 = .ok (.goto 11, 3) := by decide +kernel
theorem dL_pane_13 : decode cL_pane 13 = .ok (.astore 4, 2) := by decide +kernel
theorem dL_pane_15 : decode cL_pane 15 = .ok (.iconst 1, 1) := by decide +kernel
theorem dL_pane_16 : decode cL_pane 16 = .ok (.ireturn, 1) := by decide +kernel
theorem dL_pane_17 : decode cL_pane 17 = .ok (.astore 4, 2) := by decide +kernel
theorem dL_pane_19 : decode cL_pane 19 = .ok (.iconst 2, 1) := by decide +kernel
theorem dL_pane_20 : decode cL_pane 20 = .ok (.ireturn, 1) := by decide +kernel
theorem dL_pane_21 : decode cL_pane 21 = .ok (.iconst 0, 1) := by decide +kernel
theorem dL_pane_22 : decode cL_pane 22 = .ok (.ireturn, 1) := by decide +kernel
abbrev rmL_pane : Room := { frames := 9, cells := 2, slots := 12, locals := 156 }
theorem hdL_pane : yL_pane.cls ≠ "java/lang/invoke/MethodHandle" ∧ yL_pane.cls ≠ "java/lang/invoke/VarHandle" ∧ (parseMethodDescriptor yL_pane.desc).map (fun d => d.parameters.length) = some 4 := by decide +kernel
def fL_pane (σ : Sg) (p1 : Int32) (p2 : Int32) (c3 : Nat) (n3 : Nat) : Option (Int32 × Sg) :=
  (fX8_pane σ p1 p2).bind fun r1 => xcat r1 (fun e3 =>
    if e3 = 0 then
      some (1, σ)
    else if e3 = 1 then
      some (2, σ)
    else 
      none) fun w2 =>
  if ck 0 n3 then
    nm (sul σ c3 (0 : Int32).toNatClampNeg w2.toInt64) fun σ4 =>
    some (0, σ4)
  else none
theorem kL_pane (X : Xc) (σ : Sg) (p1 : Int32) (p2 : Int32) (c3 : Nat) (n3 : Nat) (h3 : SHP[c3]? = some (2, [n3])) (hfl : X.l.stackTraces = false) : ∀ r, fL_pane σ p1 p2 c3 n3 = some r → vx_Met X.l yL_pane (wsMH yL_pane cL_pane 5 (some .int) [(0, 10, 13, 21), (0, 10, 17, 13)]) rmL_pane (va_Pc [.ref (X.ad 0), .int p1, .int p2, .ref (X.ad c3)] (PW X σ)) (CXi X (.inl r.1) r.2) (CXx X (.inl r.1 : Int32 ⊕ Nat) r.2) 2 12 X.A := by
  refine xt_ofH (own := RL) (lo := [some (.ref (X.ad 0)), some (.int (p1)), some (.int (p2)), some (.ref (X.ad c3)), none]) (by decide) rfl (Nat.le_of_ble_eq_true rfl) rfl (fun K C hr hex => ?_)
  unfold fL_pane
  refine g_aload_n (pc := 0) (i := 3) C dL_pane_0 rfl rfl ?_
  refine g_iconst (pc := 1) (v := 0) C dL_pane_1 (by decide) ?_
  refine g_aload_n (pc := 2) (i := 0) C dL_pane_2 rfl rfl ?_
  refine g_iload_n (pc := 3) (i := 1) C dL_pane_3 rfl rfl ?_
  refine g_iload_n (pc := 4) (i := 2) C dL_pane_4 rfl rfl ?_
  refine g_xcallVi (pc := 5) (As := [.int (p1), .int (p2)]) C (kX8_pane X σ p1 p2 hfl) ok_dl rfl q_24_14 q_24_15 q_24_16 q_1_2 q_24_17 ⟨rfl, hdX8_pane⟩ ⟨Nat.le_of_ble_eq_true rfl, Nat.le_of_ble_eq_true rfl, rfl, rfl, Nat.le_of_ble_eq_true rfl, Nat.le_of_ble_eq_true rfl⟩ (Nat.le_of_ble_eq_true rfl) rfl rfl dL_pane_5 (fun r1 e3 _ _ => ?_) (fun r1 w2 _ _ => ?_)
  · refine gx_ite (fun he => ?_) (fun _ => ?_)
    · subst he
      refine gx_catch (pc := 5) (tgt := 13) (ct := 21) (name := "java/lang/IndexOutOfBoundsException") C [] (⟨0, 10, 13, 21⟩ : ExceptionTableEntry) [(⟨0, 10, 17, 13⟩ : ExceptionTableEntry)] (by rw [hex]; rfl) (fun z hz => by cases hz) (by decide) rfl (by decide) rfl q_11_2 rfl (List.mem_of_getElem? (i := 0) rfl) (fun q => ?_)
      refine g_astore (pc := 13) C dL_pane_13 (Nat.le_of_ble_eq_true rfl) rfl ?_
      refine g_iconst (pc := 15) (v := 1) C dL_pane_15 (by decide) ?_
      exact g_xiret (pc := 16) C hr dL_pane_16 (Nat.le_of_ble_eq_true rfl) (Nat.le_of_ble_eq_true rfl) (fun t hP hF => ⟨⟨_, (), rfl, rfl, hP⟩, hF⟩)
    refine gx_ite (fun he => ?_) (fun _ => ?_)
    · subst he
      refine gx_catch (pc := 5) (tgt := 17) (ct := 13) (name := "java/lang/IllegalArgumentException") C [(⟨0, 10, 13, 21⟩ : ExceptionTableEntry)] (⟨0, 10, 17, 13⟩ : ExceptionTableEntry) [] (by rw [hex]; rfl) (fun z hz => by
        simp only [List.mem_cons, List.not_mem_nil, or_false] at hz
        rcases hz with rfl
        · exact Or.inr ⟨by decide, "java/lang/IndexOutOfBoundsException", q_11_2, List.mem_of_getElem? (i := 2) rfl⟩) (by decide) rfl (by decide) rfl q_6_20 rfl (List.mem_of_getElem? (i := 1) rfl) (fun q => ?_)
      refine g_astore (pc := 17) C dL_pane_17 (Nat.le_of_ble_eq_true rfl) rfl ?_
      refine g_iconst (pc := 19) (v := 2) C dL_pane_19 (by decide) ?_
      exact g_xiret (pc := 20) C hr dL_pane_20 (Nat.le_of_ble_eq_true rfl) (Nat.le_of_ble_eq_true rfl) (fun t hP hF => ⟨⟨_, (), rfl, rfl, hP⟩, hF⟩)
    exact gx_none
  refine g_i2l (pc := 8) C dL_pane_8 ?_
  refine g_lastore (pc := 9) C h3 dL_pane_9 ?_
  refine g_nms (fun σ4 => ?_)
  refine g_goto (pc := 10) (tgt := 21) C dL_pane_10 rfl ?_
  refine g_iconst (pc := 21) (v := 0) C dL_pane_21 (by decide) ?_
  exact g_xiret (pc := 22) C hr dL_pane_22 (Nat.le_of_ble_eq_true rfl) (Nat.le_of_ble_eq_true rfl) (fun t hP hF => ⟨⟨_, (), rfl, rfl, hP⟩, hF⟩)
theorem dL_rectangle_0 : decode cL_rectangle 0 = .ok (.aload_n 3, 1) := by decide +kernel
theorem dL_rectangle_1 : decode cL_rectangle 1 = .ok (.iconst 0, 1) := by decide +kernel
theorem dL_rectangle_2 : decode cL_rectangle 2 = .ok (.aload_n 0, 1) := by decide +kernel
theorem dL_rectangle_3 : decode cL_rectangle 3 = .ok (.iload_n 1, 1) := by decide +kernel
theorem dL_rectangle_4 : decode cL_rectangle 4 = .ok (.iload_n 2, 1) := by decide +kernel
theorem dL_rectangle_5 : decode cL_rectangle 5 = .ok (.invokevirtual 30, 3) := by decide +kernel
theorem dL_rectangle_8 : decode cL_rectangle 8 = .ok (.i2l, 1) := by decide +kernel
theorem dL_rectangle_9 : decode cL_rectangle 9 = .ok (.lastore, 1) := by decide +kernel
theorem dL_rectangle_10 : decode cL_rectangle 10 = .ok (.goto 11, 3) := by decide +kernel
theorem dL_rectangle_13 : decode cL_rectangle 13 = .ok (.astore 4, 2) := by decide +kernel
theorem dL_rectangle_15 : decode cL_rectangle 15 = .ok (.iconst 1, 1) := by decide +kernel
theorem dL_rectangle_16 : decode cL_rectangle 16 = .ok (.ireturn, 1) := by decide +kernel
theorem dL_rectangle_17 : decode cL_rectangle 17 = .ok (.astore 4, 2) := by decide +kernel
theorem dL_rectangle_19 : decode cL_rectangle 19 = .ok (.iconst 2, 1) := by decide +kernel
theorem dL_rectangle_20 : decode cL_rectangle 20 = .ok (.ireturn, 1) := by decide +kernel
theorem dL_rectangle_21 : decode cL_rectangle 21 = .ok (.iconst 0, 1) := by decide +kernel
theorem dL_rectangle_22 : decode cL_rectangle 22 = .ok (.ireturn, 1) := by decide +kernel
abbrev rmL_rectangle : Room := { frames := 9, cells := 2, slots := 12, locals := 155 }
theorem hdL_rectangle : yL_rectangle.cls ≠ "java/lang/invoke/MethodHandle" ∧ yL_rectangle.cls ≠ "java/lang/invoke/VarHandle" ∧ (parseMethodDescriptor yL_rectangle.desc).map (fun d => d.parameters.length) = some 4 := by decide +kernel
def fL_rectangle (σ : Sg) (p1 : Int32) (p2 : Int32) (c3 : Nat) (n3 : Nat) : Option (Int32 × Sg) :=
  (fX8_rectangle σ p1 p2).bind fun r1 => xcat r1 (fun e3 =>
    if e3 = 0 then
      some (1, σ)
    else if e3 = 1 then
      some (2, σ)
    else 
      none) fun w2 =>
  if ck 0 n3 then
    nm (sul σ c3 (0 : Int32).toNatClampNeg w2.toInt64) fun σ4 =>
    some (0, σ4)
  else none
theorem kL_rectangle (X : Xc) (σ : Sg) (p1 : Int32) (p2 : Int32) (c3 : Nat) (n3 : Nat) (h3 : SHP[c3]? = some (2, [n3])) (hfl : X.l.stackTraces = false) : ∀ r, fL_rectangle σ p1 p2 c3 n3 = some r → vx_Met X.l yL_rectangle (wsMH yL_rectangle cL_rectangle 5 (some .int) [(0, 10, 13, 21), (0, 10, 17, 13)]) rmL_rectangle (va_Pc [.ref (X.ad 0), .int p1, .int p2, .ref (X.ad c3)] (PW X σ)) (CXi X (.inl r.1) r.2) (CXx X (.inl r.1 : Int32 ⊕ Nat) r.2) 2 12 X.A := by
  refine xt_ofH (own := RL) (lo := [some (.ref (X.ad 0)), some (.int (p1)), some (.int (p2)), some (.ref (X.ad c3)), none]) (by decide) rfl (Nat.le_of_ble_eq_true rfl) rfl (fun K C hr hex => ?_)
  unfold fL_rectangle
  refine g_aload_n (pc := 0) (i := 3) C dL_rectangle_0 rfl rfl ?_
  refine g_iconst (pc := 1) (v := 0) C dL_rectangle_1 (by decide) ?_
  refine g_aload_n (pc := 2) (i := 0) C dL_rectangle_2 rfl rfl ?_
  refine g_iload_n (pc := 3) (i := 1) C dL_rectangle_3 rfl rfl ?_
  refine g_iload_n (pc := 4) (i := 2) C dL_rectangle_4 rfl rfl ?_
  refine g_xcallVi (pc := 5) (As := [.int (p1), .int (p2)]) C (kX8_rectangle X σ p1 p2 hfl) ok_dl rfl q_25_20 q_25_21 q_25_22 q_1_2 q_25_23 ⟨rfl, hdX8_rectangle⟩ ⟨Nat.le_of_ble_eq_true rfl, Nat.le_of_ble_eq_true rfl, rfl, rfl, Nat.le_of_ble_eq_true rfl, Nat.le_of_ble_eq_true rfl⟩ (Nat.le_of_ble_eq_true rfl) rfl rfl dL_rectangle_5 (fun r1 e3 _ _ => ?_) (fun r1 w2 _ _ => ?_)
  · refine gx_ite (fun he => ?_) (fun _ => ?_)
    · subst he
      refine gx_catch (pc := 5) (tgt := 13) (ct := 21) (name := "java/lang/IndexOutOfBoundsException") C [] (⟨0, 10, 13, 21⟩ : ExceptionTableEntry) [(⟨0, 10, 17, 13⟩ : ExceptionTableEntry)] (by rw [hex]; rfl) (fun z hz => by cases hz) (by decide) rfl (by decide) rfl q_11_2 rfl (List.mem_of_getElem? (i := 0) rfl) (fun q => ?_)
      refine g_astore (pc := 13) C dL_rectangle_13 (Nat.le_of_ble_eq_true rfl) rfl ?_
      refine g_iconst (pc := 15) (v := 1) C dL_rectangle_15 (by decide) ?_
      exact g_xiret (pc := 16) C hr dL_rectangle_16 (Nat.le_of_ble_eq_true rfl) (Nat.le_of_ble_eq_true rfl) (fun t hP hF => ⟨⟨_, (), rfl, rfl, hP⟩, hF⟩)
    refine gx_ite (fun he => ?_) (fun _ => ?_)
    · subst he
      refine gx_catch (pc := 5) (tgt := 17) (ct := 13) (name := "java/lang/IllegalArgumentException") C [(⟨0, 10, 13, 21⟩ : ExceptionTableEntry)] (⟨0, 10, 17, 13⟩ : ExceptionTableEntry) [] (by rw [hex]; rfl) (fun z hz => by
        simp only [List.mem_cons, List.not_mem_nil, or_false] at hz
        rcases hz with rfl
        · exact Or.inr ⟨by decide, "java/lang/IndexOutOfBoundsException", q_11_2, List.mem_of_getElem? (i := 2) rfl⟩) (by decide) rfl (by decide) rfl q_6_20 rfl (List.mem_of_getElem? (i := 1) rfl) (fun q => ?_)
      refine g_astore (pc := 17) C dL_rectangle_17 (Nat.le_of_ble_eq_true rfl) rfl ?_
      refine g_iconst (pc := 19) (v := 2) C dL_rectangle_19 (by decide) ?_
      exact g_xiret (pc := 20) C hr dL_rectangle_20 (Nat.le_of_ble_eq_true rfl) (Nat.le_of_ble_eq_true rfl) (fun t hP hF => ⟨⟨_, (), rfl, rfl, hP⟩, hF⟩)
    exact gx_none
  refine g_i2l (pc := 8) C dL_rectangle_8 ?_
  refine g_lastore (pc := 9) C h3 dL_rectangle_9 ?_
  refine g_nms (fun σ4 => ?_)
  refine g_goto (pc := 10) (tgt := 21) C dL_rectangle_10 rfl ?_
  refine g_iconst (pc := 21) (v := 0) C dL_rectangle_21 (by decide) ?_
  exact g_xiret (pc := 22) C hr dL_rectangle_22 (Nat.le_of_ble_eq_true rfl) (Nat.le_of_ble_eq_true rfl) (fun t hP hF => ⟨⟨_, (), rfl, rfl, hP⟩, hF⟩)
theorem dL_tab_0 : decode cL_tab 0 = .ok (.aload_n 3, 1) := by decide +kernel
theorem dL_tab_1 : decode cL_tab 1 = .ok (.iconst 0, 1) := by decide +kernel
theorem dL_tab_2 : decode cL_tab 2 = .ok (.aload_n 0, 1) := by decide +kernel
theorem dL_tab_3 : decode cL_tab 3 = .ok (.iload_n 1, 1) := by decide +kernel
theorem dL_tab_4 : decode cL_tab 4 = .ok (.iload_n 2, 1) := by decide +kernel
theorem dL_tab_5 : decode cL_tab 5 = .ok (.invokevirtual 33, 3) := by decide +kernel
theorem dL_tab_8 : decode cL_tab 8 = .ok (.i2l, 1) := by decide +kernel
theorem dL_tab_9 : decode cL_tab 9 = .ok (.lastore, 1) := by decide +kernel
theorem dL_tab_10 : decode cL_tab 10 = .ok (.goto 7, 3) := by decide +kernel
theorem dL_tab_13 : decode cL_tab 13 = .ok (.astore 4, 2) := by decide +kernel
theorem dL_tab_15 : decode cL_tab 15 = .ok (.iconst 1, 1) := by decide +kernel
theorem dL_tab_16 : decode cL_tab 16 = .ok (.ireturn, 1) := by decide +kernel
theorem dL_tab_17 : decode cL_tab 17 = .ok (.iconst 0, 1) := by decide +kernel
theorem dL_tab_18 : decode cL_tab 18 = .ok (.ireturn, 1) := by decide +kernel
abbrev rmL_tab : Room := { frames := 9, cells := 1, slots := 6, locals := 153 }
theorem hdL_tab : yL_tab.cls ≠ "java/lang/invoke/MethodHandle" ∧ yL_tab.cls ≠ "java/lang/invoke/VarHandle" ∧ (parseMethodDescriptor yL_tab.desc).map (fun d => d.parameters.length) = some 4 := by decide +kernel
def fL_tab (σ : Sg) (p1 : Int32) (p2 : Int32) (c3 : Nat) (n3 : Nat) : Option (Int32 × Sg) :=
  (fX8_tab σ p1 p2).bind fun r1 => xcat r1 (fun e3 =>
    if e3 = 0 then
      some (1, σ)
    else 
      none) fun w2 =>
  if ck 0 n3 then
    nm (sul σ c3 (0 : Int32).toNatClampNeg w2.toInt64) fun σ4 =>
    some (0, σ4)
  else none
theorem kL_tab (X : Xc) (σ : Sg) (p1 : Int32) (p2 : Int32) (c3 : Nat) (n3 : Nat) (h3 : SHP[c3]? = some (2, [n3])) (hfl : X.l.stackTraces = false) : ∀ r, fL_tab σ p1 p2 c3 n3 = some r → vx_Met X.l yL_tab (wsMH yL_tab cL_tab 5 (some .int) [(0, 10, 13, 21)]) rmL_tab (va_Pc [.ref (X.ad 0), .int p1, .int p2, .ref (X.ad c3)] (PW X σ)) (CXi X (.inl r.1) r.2) (CXx X (.inl r.1 : Int32 ⊕ Nat) r.2) 1 6 X.A := by
  refine xt_ofH (own := RL) (lo := [some (.ref (X.ad 0)), some (.int (p1)), some (.int (p2)), some (.ref (X.ad c3)), none]) (by decide) rfl (Nat.le_of_ble_eq_true rfl) rfl (fun K C hr hex => ?_)
  unfold fL_tab
  refine g_aload_n (pc := 0) (i := 3) C dL_tab_0 rfl rfl ?_
  refine g_iconst (pc := 1) (v := 0) C dL_tab_1 (by decide) ?_
  refine g_aload_n (pc := 2) (i := 0) C dL_tab_2 rfl rfl ?_
  refine g_iload_n (pc := 3) (i := 1) C dL_tab_3 rfl rfl ?_
  refine g_iload_n (pc := 4) (i := 2) C dL_tab_4 rfl rfl ?_
  refine g_xcallVi (pc := 5) (As := [.int (p1), .int (p2)]) C (kX8_tab X σ p1 p2 hfl) ok_dl rfl q_28_18 q_28_19 q_28_20 q_1_2 q_28_21 ⟨rfl, hdX8_tab⟩ ⟨Nat.le_of_ble_eq_true rfl, Nat.le_of_ble_eq_true rfl, rfl, rfl, Nat.le_of_ble_eq_true rfl, Nat.le_of_ble_eq_true rfl⟩ (Nat.le_of_ble_eq_true rfl) rfl rfl dL_tab_5 (fun r1 e3 _ _ => ?_) (fun r1 w2 _ _ => ?_)
  · refine gx_ite (fun he => ?_) (fun _ => ?_)
    · subst he
      refine gx_catch (pc := 5) (tgt := 13) (ct := 21) (name := "java/lang/IndexOutOfBoundsException") C [] (⟨0, 10, 13, 21⟩ : ExceptionTableEntry) [] (by rw [hex]; rfl) (fun z hz => by cases hz) (by decide) rfl (by decide) rfl q_11_2 rfl (List.mem_of_getElem? (i := 0) rfl) (fun q => ?_)
      refine g_astore (pc := 13) C dL_tab_13 (Nat.le_of_ble_eq_true rfl) rfl ?_
      refine g_iconst (pc := 15) (v := 1) C dL_tab_15 (by decide) ?_
      exact g_xiret (pc := 16) C hr dL_tab_16 (Nat.le_of_ble_eq_true rfl) (Nat.le_of_ble_eq_true rfl) (fun t hP hF => ⟨⟨_, (), rfl, rfl, hP⟩, hF⟩)
    exact gx_none
  refine g_i2l (pc := 8) C dL_tab_8 ?_
  refine g_lastore (pc := 9) C h3 dL_tab_9 ?_
  refine g_nms (fun σ4 => ?_)
  refine g_goto (pc := 10) (tgt := 17) C dL_tab_10 rfl ?_
  refine g_iconst (pc := 17) (v := 0) C dL_tab_17 (by decide) ?_
  exact g_xiret (pc := 18) C hr dL_tab_18 (Nat.le_of_ble_eq_true rfl) (Nat.le_of_ble_eq_true rfl) (fun t hP hF => ⟨⟨_, (), rfl, rfl, hP⟩, hF⟩)
theorem dL_resize_0 : decode cL_resize 0 = .ok (.aload 4, 2) := by decide +kernel
theorem dL_resize_2 : decode cL_resize 2 = .ok (.iconst 0, 1) := by decide +kernel
theorem dL_resize_3 : decode cL_resize 3 = .ok (.aload_n 0, 1) := by decide +kernel
theorem dL_resize_4 : decode cL_resize 4 = .ok (.iload_n 1, 1) := by decide +kernel
theorem dL_resize_5 : decode cL_resize 5 = .ok (.iload_n 2, 1) := by decide +kernel
theorem dL_resize_6 : decode cL_resize 6 = .ok (.iload_n 3, 1) := by decide +kernel
theorem dL_resize_7 : decode cL_resize 7 = .ok (.invokevirtual 36, 3) := by decide +kernel
theorem dL_resize_10 : decode cL_resize 10 = .ok (.i2l, 1) := by decide +kernel
theorem dL_resize_11 : decode cL_resize 11 = .ok (.lastore, 1) := by decide +kernel
theorem dL_resize_12 : decode cL_resize 12 = .ok (.goto 11, 3) := by decide +kernel
theorem dL_resize_15 : decode cL_resize 15 = .ok (.astore 5, 2) := by decide +kernel
theorem dL_resize_17 : decode cL_resize 17 = .ok (.iconst 1, 1) := by decide +kernel
theorem dL_resize_18 : decode cL_resize 18 = .ok (.ireturn, 1) := by decide +kernel
theorem dL_resize_19 : decode cL_resize 19 = .ok (.astore 5, 2) := by decide +kernel
theorem dL_resize_21 : decode cL_resize 21 = .ok (.iconst 2, 1) := by decide +kernel
theorem dL_resize_22 : decode cL_resize 22 = .ok (.ireturn, 1) := by decide +kernel
theorem dL_resize_23 : decode cL_resize 23 = .ok (.iconst 0, 1) := by decide +kernel
theorem dL_resize_24 : decode cL_resize 24 = .ok (.ireturn, 1) := by decide +kernel
abbrev rmL_resize : Room := { frames := 9, cells := 3, slots := 18, locals := 236 }
theorem hdL_resize : yL_resize.cls ≠ "java/lang/invoke/MethodHandle" ∧ yL_resize.cls ≠ "java/lang/invoke/VarHandle" ∧ (parseMethodDescriptor yL_resize.desc).map (fun d => d.parameters.length) = some 5 := by decide +kernel
def fL_resize (σ : Sg) (p1 : Int32) (p2 : Int32) (p3 : Int32) (c4 : Nat) (n4 : Nat) : Option (Int32 × Sg) :=
  (fX8_resize σ p1 p2 p3).bind fun r1 => xcat r1.1 (fun e3 =>
    if e3 = 0 then
      some (1, r1.2)
    else if e3 = 1 then
      some (2, r1.2)
    else 
      none) fun w2 =>
  if ck 0 n4 then
    nm (sul r1.2 c4 (0 : Int32).toNatClampNeg w2.toInt64) fun σ4 =>
    some (0, σ4)
  else none
theorem kL_resize (X : Xc) (σ : Sg) (p1 : Int32) (p2 : Int32) (p3 : Int32) (c4 : Nat) (n4 : Nat) (h4 : SHP[c4]? = some (2, [n4])) (hfl : X.l.stackTraces = false) : ∀ r, fL_resize σ p1 p2 p3 c4 n4 = some r → vx_Met X.l yL_resize (wsMH yL_resize cL_resize 6 (some .int) [(0, 12, 15, 21), (0, 12, 19, 13)]) rmL_resize (va_Pc [.ref (X.ad 0), .int p1, .int p2, .int p3, .ref (X.ad c4)] (PW X σ)) (CXi X (.inl r.1) r.2) (CXx X (.inl r.1 : Int32 ⊕ Nat) r.2) 3 18 X.A := by
  refine xt_ofH (own := RL) (lo := [some (.ref (X.ad 0)), some (.int (p1)), some (.int (p2)), some (.int (p3)), some (.ref (X.ad c4)), none]) (by decide) rfl (Nat.le_of_ble_eq_true rfl) rfl (fun K C hr hex => ?_)
  unfold fL_resize
  refine g_aload (pc := 0) C dL_resize_0 rfl ?_
  refine g_iconst (pc := 2) (v := 0) C dL_resize_2 (by decide) ?_
  refine g_aload_n (pc := 3) (i := 0) C dL_resize_3 rfl rfl ?_
  refine g_iload_n (pc := 4) (i := 1) C dL_resize_4 rfl rfl ?_
  refine g_iload_n (pc := 5) (i := 2) C dL_resize_5 rfl rfl ?_
  refine g_iload_n (pc := 6) (i := 3) C dL_resize_6 rfl rfl ?_
  refine g_xcallVi (pc := 7) (As := [.int (p1), .int (p2), .int (p3)]) C (kX8_resize X σ p1 p2 p3 hfl) ok_dl rfl q_29_6 q_29_7 q_29_8 q_1_2 q_29_9 ⟨rfl, hdX8_resize⟩ ⟨Nat.le_of_ble_eq_true rfl, Nat.le_of_ble_eq_true rfl, rfl, rfl, Nat.le_of_ble_eq_true rfl, Nat.le_of_ble_eq_true rfl⟩ (Nat.le_of_ble_eq_true rfl) rfl rfl dL_resize_7 (fun r1 e3 _ _ => ?_) (fun r1 w2 _ _ => ?_)
  · refine gx_ite (fun he => ?_) (fun _ => ?_)
    · subst he
      refine gx_catch (pc := 7) (tgt := 15) (ct := 21) (name := "java/lang/IndexOutOfBoundsException") C [] (⟨0, 12, 15, 21⟩ : ExceptionTableEntry) [(⟨0, 12, 19, 13⟩ : ExceptionTableEntry)] (by rw [hex]; rfl) (fun z hz => by cases hz) (by decide) rfl (by decide) rfl q_11_2 rfl (List.mem_of_getElem? (i := 0) rfl) (fun q => ?_)
      refine g_astore (pc := 15) C dL_resize_15 (Nat.le_of_ble_eq_true rfl) rfl ?_
      refine g_iconst (pc := 17) (v := 1) C dL_resize_17 (by decide) ?_
      exact g_xiret (pc := 18) C hr dL_resize_18 (Nat.le_of_ble_eq_true rfl) (Nat.le_of_ble_eq_true rfl) (fun t hP hF => ⟨⟨_, (), rfl, rfl, hP⟩, hF⟩)
    refine gx_ite (fun he => ?_) (fun _ => ?_)
    · subst he
      refine gx_catch (pc := 7) (tgt := 19) (ct := 13) (name := "java/lang/IllegalArgumentException") C [(⟨0, 12, 15, 21⟩ : ExceptionTableEntry)] (⟨0, 12, 19, 13⟩ : ExceptionTableEntry) [] (by rw [hex]; rfl) (fun z hz => by
        simp only [List.mem_cons, List.not_mem_nil, or_false] at hz
        rcases hz with rfl
        · exact Or.inr ⟨by decide, "java/lang/IndexOutOfBoundsException", q_11_2, List.mem_of_getElem? (i := 2) rfl⟩) (by decide) rfl (by decide) rfl q_6_20 rfl (List.mem_of_getElem? (i := 1) rfl) (fun q => ?_)
      refine g_astore (pc := 19) C dL_resize_19 (Nat.le_of_ble_eq_true rfl) rfl ?_
      refine g_iconst (pc := 21) (v := 2) C dL_resize_21 (by decide) ?_
      exact g_xiret (pc := 22) C hr dL_resize_22 (Nat.le_of_ble_eq_true rfl) (Nat.le_of_ble_eq_true rfl) (fun t hP hF => ⟨⟨_, (), rfl, rfl, hP⟩, hF⟩)
    exact gx_none
  refine g_i2l (pc := 10) C dL_resize_10 ?_
  refine g_lastore (pc := 11) C h4 dL_resize_11 ?_
  refine g_nms (fun σ4 => ?_)
  refine g_goto (pc := 12) (tgt := 23) C dL_resize_12 rfl ?_
  refine g_iconst (pc := 23) (v := 0) C dL_resize_23 (by decide) ?_
  exact g_xiret (pc := 24) C hr dL_resize_24 (Nat.le_of_ble_eq_true rfl) (Nat.le_of_ble_eq_true rfl) (fun t hP hF => ⟨⟨_, (), rfl, rfl, hP⟩, hF⟩)
theorem dL_move_0 : decode cL_move 0 = .ok (.aload 4, 2) := by decide +kernel
theorem dL_move_2 : decode cL_move 2 = .ok (.iconst 0, 1) := by decide +kernel
theorem dL_move_3 : decode cL_move 3 = .ok (.aload_n 0, 1) := by decide +kernel
theorem dL_move_4 : decode cL_move 4 = .ok (.iload_n 1, 1) := by decide +kernel
theorem dL_move_5 : decode cL_move 5 = .ok (.iload_n 2, 1) := by decide +kernel
theorem dL_move_6 : decode cL_move 6 = .ok (.iload_n 3, 1) := by decide +kernel
theorem dL_move_7 : decode cL_move 7 = .ok (.invokevirtual 39, 3) := by decide +kernel
theorem dL_move_10 : decode cL_move 10 = .ok (.i2l, 1) := by decide +kernel
theorem dL_move_11 : decode cL_move 11 = .ok (.lastore, 1) := by decide +kernel
theorem dL_move_12 : decode cL_move 12 = .ok (.goto 15, 3) := by decide +kernel
theorem dL_move_15 : decode cL_move 15 = .ok (.astore 5, 2) := by decide +kernel
theorem dL_move_17 : decode cL_move 17 = .ok (.iconst 1, 1) := by decide +kernel
theorem dL_move_18 : decode cL_move 18 = .ok (.ireturn, 1) := by decide +kernel
theorem dL_move_19 : decode cL_move 19 = .ok (.astore 5, 2) := by decide +kernel
theorem dL_move_21 : decode cL_move 21 = .ok (.iconst 2, 1) := by decide +kernel
theorem dL_move_22 : decode cL_move 22 = .ok (.ireturn, 1) := by decide +kernel
theorem dL_move_23 : decode cL_move 23 = .ok (.astore 5, 2) := by decide +kernel
theorem dL_move_25 : decode cL_move 25 = .ok (.iconst 3, 1) := by decide +kernel
theorem dL_move_26 : decode cL_move 26 = .ok (.ireturn, 1) := by decide +kernel
theorem dL_move_27 : decode cL_move 27 = .ok (.iconst 0, 1) := by decide +kernel
theorem dL_move_28 : decode cL_move 28 = .ok (.ireturn, 1) := by decide +kernel
abbrev rmL_move : Room := { frames := 9, cells := 4, slots := 24, locals := 237 }
theorem hdL_move : yL_move.cls ≠ "java/lang/invoke/MethodHandle" ∧ yL_move.cls ≠ "java/lang/invoke/VarHandle" ∧ (parseMethodDescriptor yL_move.desc).map (fun d => d.parameters.length) = some 5 := by decide +kernel
def fL_move (σ : Sg) (p1 : Int32) (p2 : Int32) (p3 : Int32) (c4 : Nat) (n4 : Nat) : Option (Int32 × Sg) :=
  (fX8_move σ p1 p2 p3).bind fun r1 => xcat r1.1 (fun e3 =>
    if e3 = 0 then
      some (1, r1.2)
    else if e3 = 1 then
      some (2, r1.2)
    else if e3 = 2 then
      some (3, r1.2)
    else 
      none) fun w2 =>
  if ck 0 n4 then
    nm (sul r1.2 c4 (0 : Int32).toNatClampNeg w2.toInt64) fun σ4 =>
    some (0, σ4)
  else none
theorem kL_move (X : Xc) (σ : Sg) (p1 : Int32) (p2 : Int32) (p3 : Int32) (c4 : Nat) (n4 : Nat) (h4 : SHP[c4]? = some (2, [n4])) (hfl : X.l.stackTraces = false) : ∀ r, fL_move σ p1 p2 p3 c4 n4 = some r → vx_Met X.l yL_move (wsMH yL_move cL_move 6 (some .int) [(0, 12, 15, 21), (0, 12, 19, 13), (0, 12, 23, 15)]) rmL_move (va_Pc [.ref (X.ad 0), .int p1, .int p2, .int p3, .ref (X.ad c4)] (PW X σ)) (CXi X (.inl r.1) r.2) (CXx X (.inl r.1 : Int32 ⊕ Nat) r.2) 4 24 X.A := by
  refine xt_ofH (own := RL) (lo := [some (.ref (X.ad 0)), some (.int (p1)), some (.int (p2)), some (.int (p3)), some (.ref (X.ad c4)), none]) (by decide) rfl (Nat.le_of_ble_eq_true rfl) rfl (fun K C hr hex => ?_)
  unfold fL_move
  refine g_aload (pc := 0) C dL_move_0 rfl ?_
  refine g_iconst (pc := 2) (v := 0) C dL_move_2 (by decide) ?_
  refine g_aload_n (pc := 3) (i := 0) C dL_move_3 rfl rfl ?_
  refine g_iload_n (pc := 4) (i := 1) C dL_move_4 rfl rfl ?_
  refine g_iload_n (pc := 5) (i := 2) C dL_move_5 rfl rfl ?_
  refine g_iload_n (pc := 6) (i := 3) C dL_move_6 rfl rfl ?_
  refine g_xcallVi (pc := 7) (As := [.int (p1), .int (p2), .int (p3)]) C (kX8_move X σ p1 p2 p3 hfl) ok_dl rfl q_30_14 q_30_15 q_30_16 q_1_2 q_30_17 ⟨rfl, hdX8_move⟩ ⟨Nat.le_of_ble_eq_true rfl, Nat.le_of_ble_eq_true rfl, rfl, rfl, Nat.le_of_ble_eq_true rfl, Nat.le_of_ble_eq_true rfl⟩ (Nat.le_of_ble_eq_true rfl) rfl rfl dL_move_7 (fun r1 e3 _ _ => ?_) (fun r1 w2 _ _ => ?_)
  · refine gx_ite (fun he => ?_) (fun _ => ?_)
    · subst he
      refine gx_catch (pc := 7) (tgt := 15) (ct := 21) (name := "java/lang/IndexOutOfBoundsException") C [] (⟨0, 12, 15, 21⟩ : ExceptionTableEntry) [(⟨0, 12, 19, 13⟩ : ExceptionTableEntry), (⟨0, 12, 23, 15⟩ : ExceptionTableEntry)] (by rw [hex]; rfl) (fun z hz => by cases hz) (by decide) rfl (by decide) rfl q_11_2 rfl (List.mem_of_getElem? (i := 0) rfl) (fun q => ?_)
      refine g_astore (pc := 15) C dL_move_15 (Nat.le_of_ble_eq_true rfl) rfl ?_
      refine g_iconst (pc := 17) (v := 1) C dL_move_17 (by decide) ?_
      exact g_xiret (pc := 18) C hr dL_move_18 (Nat.le_of_ble_eq_true rfl) (Nat.le_of_ble_eq_true rfl) (fun t hP hF => ⟨⟨_, (), rfl, rfl, hP⟩, hF⟩)
    refine gx_ite (fun he => ?_) (fun _ => ?_)
    · subst he
      refine gx_catch (pc := 7) (tgt := 19) (ct := 13) (name := "java/lang/IllegalArgumentException") C [(⟨0, 12, 15, 21⟩ : ExceptionTableEntry)] (⟨0, 12, 19, 13⟩ : ExceptionTableEntry) [(⟨0, 12, 23, 15⟩ : ExceptionTableEntry)] (by rw [hex]; rfl) (fun z hz => by
        simp only [List.mem_cons, List.not_mem_nil, or_false] at hz
        rcases hz with rfl
        · exact Or.inr ⟨by decide, "java/lang/IndexOutOfBoundsException", q_11_2, List.mem_of_getElem? (i := 2) rfl⟩) (by decide) rfl (by decide) rfl q_6_20 rfl (List.mem_of_getElem? (i := 1) rfl) (fun q => ?_)
      refine g_astore (pc := 19) C dL_move_19 (Nat.le_of_ble_eq_true rfl) rfl ?_
      refine g_iconst (pc := 21) (v := 2) C dL_move_21 (by decide) ?_
      exact g_xiret (pc := 22) C hr dL_move_22 (Nat.le_of_ble_eq_true rfl) (Nat.le_of_ble_eq_true rfl) (fun t hP hF => ⟨⟨_, (), rfl, rfl, hP⟩, hF⟩)
    refine gx_ite (fun he => ?_) (fun _ => ?_)
    · subst he
      refine gx_catch (pc := 7) (tgt := 23) (ct := 15) (name := "java/lang/IllegalStateException") C [(⟨0, 12, 15, 21⟩ : ExceptionTableEntry), (⟨0, 12, 19, 13⟩ : ExceptionTableEntry)] (⟨0, 12, 23, 15⟩ : ExceptionTableEntry) [] (by rw [hex]; rfl) (fun z hz => by
        simp only [List.mem_cons, List.not_mem_nil, or_false] at hz
        rcases hz with rfl | rfl
        · exact Or.inr ⟨by decide, "java/lang/IndexOutOfBoundsException", q_11_2, List.mem_of_getElem? (i := 4) rfl⟩
        · exact Or.inr ⟨by decide, "java/lang/IllegalArgumentException", q_6_20, List.mem_of_getElem? (i := 5) rfl⟩) (by decide) rfl (by decide) rfl q_6_21 rfl (List.mem_of_getElem? (i := 2) rfl) (fun q => ?_)
      refine g_astore (pc := 23) C dL_move_23 (Nat.le_of_ble_eq_true rfl) rfl ?_
      refine g_iconst (pc := 25) (v := 3) C dL_move_25 (by decide) ?_
      exact g_xiret (pc := 26) C hr dL_move_26 (Nat.le_of_ble_eq_true rfl) (Nat.le_of_ble_eq_true rfl) (fun t hP hF => ⟨⟨_, (), rfl, rfl, hP⟩, hF⟩)
    exact gx_none
  refine g_i2l (pc := 10) C dL_move_10 ?_
  refine g_lastore (pc := 11) C h4 dL_move_11 ?_
  refine g_nms (fun σ4 => ?_)
  refine g_goto (pc := 12) (tgt := 27) C dL_move_12 rfl ?_
  refine g_iconst (pc := 27) (v := 0) C dL_move_27 (by decide) ?_
  exact g_xiret (pc := 28) C hr dL_move_28 (Nat.le_of_ble_eq_true rfl) (Nat.le_of_ble_eq_true rfl) (fun t hP hF => ⟨⟨_, (), rfl, rfl, hP⟩, hF⟩)
theorem dL_raise_0 : decode cL_raise 0 = .ok (.aload_n 2, 1) := by decide +kernel
theorem dL_raise_1 : decode cL_raise 1 = .ok (.iconst 0, 1) := by decide +kernel
theorem dL_raise_2 : decode cL_raise 2 = .ok (.aload_n 0, 1) := by decide +kernel
theorem dL_raise_3 : decode cL_raise 3 = .ok (.iload_n 1, 1) := by decide +kernel
theorem dL_raise_4 : decode cL_raise 4 = .ok (.invokevirtual 42, 3) := by decide +kernel
theorem dL_raise_7 : decode cL_raise 7 = .ok (.i2l, 1) := by decide +kernel
theorem dL_raise_8 : decode cL_raise 8 = .ok (.lastore, 1) := by decide +kernel
theorem dL_raise_9 : decode cL_raise 9 = .ok (.goto 9, 3) := by decide +kernel
theorem dL_raise_12 : decode cL_raise 12 = .ok (.astore_n 3, 1) := by decide +kernel
theorem dL_raise_13 : decode cL_raise 13 = .ok (.iconst 1, 1) := by decide +kernel
theorem dL_raise_14 : decode cL_raise 14 = .ok (.ireturn, 1) := by decide +kernel
theorem dL_raise_15 : decode cL_raise 15 = .ok (.astore_n 3, 1) := by decide +kernel
theorem dL_raise_16 : decode cL_raise 16 = .ok (.iconst 2, 1) := by decide +kernel
theorem dL_raise_17 : decode cL_raise 17 = .ok (.ireturn, 1) := by decide +kernel
theorem dL_raise_18 : decode cL_raise 18 = .ok (.iconst 0, 1) := by decide +kernel
theorem dL_raise_19 : decode cL_raise 19 = .ok (.ireturn, 1) := by decide +kernel
abbrev rmL_raise : Room := { frames := 9, cells := 2, slots := 12, locals := 217 }
theorem hdL_raise : yL_raise.cls ≠ "java/lang/invoke/MethodHandle" ∧ yL_raise.cls ≠ "java/lang/invoke/VarHandle" ∧ (parseMethodDescriptor yL_raise.desc).map (fun d => d.parameters.length) = some 3 := by decide +kernel
def fL_raise (σ : Sg) (p1 : Int32) (c2 : Nat) (n2 : Nat) : Option (Int32 × Sg) :=
  (fX8_raise σ p1).bind fun r1 => xcat r1.1 (fun e3 =>
    if e3 = 0 then
      some (1, r1.2)
    else if e3 = 2 then
      some (2, r1.2)
    else 
      none) fun w2 =>
  if ck 0 n2 then
    nm (sul r1.2 c2 (0 : Int32).toNatClampNeg w2.toInt64) fun σ4 =>
    some (0, σ4)
  else none
theorem kL_raise (X : Xc) (σ : Sg) (p1 : Int32) (c2 : Nat) (n2 : Nat) (h2 : SHP[c2]? = some (2, [n2])) (hfl : X.l.stackTraces = false) : ∀ r, fL_raise σ p1 c2 n2 = some r → vx_Met X.l yL_raise (wsMH yL_raise cL_raise 4 (some .int) [(0, 9, 12, 21), (0, 9, 15, 15)]) rmL_raise (va_Pc [.ref (X.ad 0), .int p1, .ref (X.ad c2)] (PW X σ)) (CXi X (.inl r.1) r.2) (CXx X (.inl r.1 : Int32 ⊕ Nat) r.2) 2 12 X.A := by
  refine xt_ofH (own := RL) (lo := [some (.ref (X.ad 0)), some (.int (p1)), some (.ref (X.ad c2)), none]) (by decide) rfl (Nat.le_of_ble_eq_true rfl) rfl (fun K C hr hex => ?_)
  unfold fL_raise
  refine g_aload_n (pc := 0) (i := 2) C dL_raise_0 rfl rfl ?_
  refine g_iconst (pc := 1) (v := 0) C dL_raise_1 (by decide) ?_
  refine g_aload_n (pc := 2) (i := 0) C dL_raise_2 rfl rfl ?_
  refine g_iload_n (pc := 3) (i := 1) C dL_raise_3 rfl rfl ?_
  refine g_xcallVi (pc := 4) (As := [.int (p1)]) C (kX8_raise X σ p1 hfl) ok_dl rfl q_31_8 q_31_9 q_31_10 q_1_2 q_31_11 ⟨rfl, hdX8_raise⟩ ⟨Nat.le_of_ble_eq_true rfl, Nat.le_of_ble_eq_true rfl, rfl, rfl, Nat.le_of_ble_eq_true rfl, Nat.le_of_ble_eq_true rfl⟩ (Nat.le_of_ble_eq_true rfl) rfl rfl dL_raise_4 (fun r1 e3 _ _ => ?_) (fun r1 w2 _ _ => ?_)
  · refine gx_ite (fun he => ?_) (fun _ => ?_)
    · subst he
      refine gx_catch (pc := 4) (tgt := 12) (ct := 21) (name := "java/lang/IndexOutOfBoundsException") C [] (⟨0, 9, 12, 21⟩ : ExceptionTableEntry) [(⟨0, 9, 15, 15⟩ : ExceptionTableEntry)] (by rw [hex]; rfl) (fun z hz => by cases hz) (by decide) rfl (by decide) rfl q_11_2 rfl (List.mem_of_getElem? (i := 0) rfl) (fun q => ?_)
      refine g_astore_n (pc := 12) (i := 3) C dL_raise_12 rfl (Nat.le_of_ble_eq_true rfl) rfl ?_
      refine g_iconst (pc := 13) (v := 1) C dL_raise_13 (by decide) ?_
      exact g_xiret (pc := 14) C hr dL_raise_14 (Nat.le_of_ble_eq_true rfl) (Nat.le_of_ble_eq_true rfl) (fun t hP hF => ⟨⟨_, (), rfl, rfl, hP⟩, hF⟩)
    refine gx_ite (fun he => ?_) (fun _ => ?_)
    · subst he
      refine gx_catch (pc := 4) (tgt := 15) (ct := 15) (name := "java/lang/IllegalStateException") C [(⟨0, 9, 12, 21⟩ : ExceptionTableEntry)] (⟨0, 9, 15, 15⟩ : ExceptionTableEntry) [] (by rw [hex]; rfl) (fun z hz => by
        simp only [List.mem_cons, List.not_mem_nil, or_false] at hz
        rcases hz with rfl
        · exact Or.inr ⟨by decide, "java/lang/IndexOutOfBoundsException", q_11_2, List.mem_of_getElem? (i := 4) rfl⟩) (by decide) rfl (by decide) rfl q_6_21 rfl (List.mem_of_getElem? (i := 2) rfl) (fun q => ?_)
      refine g_astore_n (pc := 15) (i := 3) C dL_raise_15 rfl (Nat.le_of_ble_eq_true rfl) rfl ?_
      refine g_iconst (pc := 16) (v := 2) C dL_raise_16 (by decide) ?_
      exact g_xiret (pc := 17) C hr dL_raise_17 (Nat.le_of_ble_eq_true rfl) (Nat.le_of_ble_eq_true rfl) (fun t hP hF => ⟨⟨_, (), rfl, rfl, hP⟩, hF⟩)
    exact gx_none
  refine g_i2l (pc := 7) C dL_raise_7 ?_
  refine g_lastore (pc := 8) C h2 dL_raise_8 ?_
  refine g_nms (fun σ4 => ?_)
  refine g_goto (pc := 9) (tgt := 18) C dL_raise_9 rfl ?_
  refine g_iconst (pc := 18) (v := 0) C dL_raise_18 (by decide) ?_
  exact g_xiret (pc := 19) C hr dL_raise_19 (Nat.le_of_ble_eq_true rfl) (Nat.le_of_ble_eq_true rfl) (fun t hP hF => ⟨⟨_, (), rfl, rfl, hP⟩, hF⟩)
theorem dL_window_0 : decode cL_window 0 = .ok (.aload_n 3, 1) := by decide +kernel
theorem dL_window_1 : decode cL_window 1 = .ok (.iconst 0, 1) := by decide +kernel
theorem dL_window_2 : decode cL_window 2 = .ok (.aload_n 0, 1) := by decide +kernel
theorem dL_window_3 : decode cL_window 3 = .ok (.iload_n 1, 1) := by decide +kernel
theorem dL_window_4 : decode cL_window 4 = .ok (.iload_n 2, 1) := by decide +kernel
theorem dL_window_5 : decode cL_window 5 = .ok (.invokevirtual 45, 3) := by decide +kernel
theorem dL_window_8 : decode cL_window 8 = .ok (.i2l, 1) := by decide +kernel
theorem dL_window_9 : decode cL_window 9 = .ok (.lastore, 1) := by decide +kernel
theorem dL_window_10 : decode cL_window 10 = .ok (.goto 11, 3) := by decide +kernel
theorem dL_window_13 : decode cL_window 13 = .ok (.astore 4, 2) := by decide +kernel
theorem dL_window_15 : decode cL_window 15 = .ok (.iconst 1, 1) := by decide +kernel
theorem dL_window_16 : decode cL_window 16 = .ok (.ireturn, 1) := by decide +kernel
theorem dL_window_17 : decode cL_window 17 = .ok (.astore 4, 2) := by decide +kernel
theorem dL_window_19 : decode cL_window 19 = .ok (.iconst 2, 1) := by decide +kernel
theorem dL_window_20 : decode cL_window 20 = .ok (.ireturn, 1) := by decide +kernel
theorem dL_window_21 : decode cL_window 21 = .ok (.iconst 0, 1) := by decide +kernel
theorem dL_window_22 : decode cL_window 22 = .ok (.ireturn, 1) := by decide +kernel
abbrev rmL_window : Room := { frames := 9, cells := 2, slots := 12, locals := 156 }
theorem hdL_window : yL_window.cls ≠ "java/lang/invoke/MethodHandle" ∧ yL_window.cls ≠ "java/lang/invoke/VarHandle" ∧ (parseMethodDescriptor yL_window.desc).map (fun d => d.parameters.length) = some 4 := by decide +kernel
def fL_window (σ : Sg) (p1 : Int32) (p2 : Int32) (c3 : Nat) (n3 : Nat) : Option (Int32 × Sg) :=
  (fX8_window σ p1 p2).bind fun r1 => xcat r1 (fun e3 =>
    if e3 = 0 then
      some (1, σ)
    else if e3 = 1 then
      some (2, σ)
    else 
      none) fun w2 =>
  if ck 0 n3 then
    nm (sul σ c3 (0 : Int32).toNatClampNeg w2.toInt64) fun σ4 =>
    some (0, σ4)
  else none
theorem kL_window (X : Xc) (σ : Sg) (p1 : Int32) (p2 : Int32) (c3 : Nat) (n3 : Nat) (h3 : SHP[c3]? = some (2, [n3])) (hfl : X.l.stackTraces = false) : ∀ r, fL_window σ p1 p2 c3 n3 = some r → vx_Met X.l yL_window (wsMH yL_window cL_window 5 (some .int) [(0, 10, 13, 21), (0, 10, 17, 13)]) rmL_window (va_Pc [.ref (X.ad 0), .int p1, .int p2, .ref (X.ad c3)] (PW X σ)) (CXi X (.inl r.1) r.2) (CXx X (.inl r.1 : Int32 ⊕ Nat) r.2) 2 12 X.A := by
  refine xt_ofH (own := RL) (lo := [some (.ref (X.ad 0)), some (.int (p1)), some (.int (p2)), some (.ref (X.ad c3)), none]) (by decide) rfl (Nat.le_of_ble_eq_true rfl) rfl (fun K C hr hex => ?_)
  unfold fL_window
  refine g_aload_n (pc := 0) (i := 3) C dL_window_0 rfl rfl ?_
  refine g_iconst (pc := 1) (v := 0) C dL_window_1 (by decide) ?_
  refine g_aload_n (pc := 2) (i := 0) C dL_window_2 rfl rfl ?_
  refine g_iload_n (pc := 3) (i := 1) C dL_window_3 rfl rfl ?_
  refine g_iload_n (pc := 4) (i := 2) C dL_window_4 rfl rfl ?_
  refine g_xcallVi (pc := 5) (As := [.int (p1), .int (p2)]) C (kX8_window X σ p1 p2 hfl) ok_dl rfl q_32_5 q_32_6 q_32_7 q_1_2 q_32_8 ⟨rfl, hdX8_window⟩ ⟨Nat.le_of_ble_eq_true rfl, Nat.le_of_ble_eq_true rfl, rfl, rfl, Nat.le_of_ble_eq_true rfl, Nat.le_of_ble_eq_true rfl⟩ (Nat.le_of_ble_eq_true rfl) rfl rfl dL_window_5 (fun r1 e3 _ _ => ?_) (fun r1 w2 _ _ => ?_)
  · refine gx_ite (fun he => ?_) (fun _ => ?_)
    · subst he
      refine gx_catch (pc := 5) (tgt := 13) (ct := 21) (name := "java/lang/IndexOutOfBoundsException") C [] (⟨0, 10, 13, 21⟩ : ExceptionTableEntry) [(⟨0, 10, 17, 13⟩ : ExceptionTableEntry)] (by rw [hex]; rfl) (fun z hz => by cases hz) (by decide) rfl (by decide) rfl q_11_2 rfl (List.mem_of_getElem? (i := 0) rfl) (fun q => ?_)
      refine g_astore (pc := 13) C dL_window_13 (Nat.le_of_ble_eq_true rfl) rfl ?_
      refine g_iconst (pc := 15) (v := 1) C dL_window_15 (by decide) ?_
      exact g_xiret (pc := 16) C hr dL_window_16 (Nat.le_of_ble_eq_true rfl) (Nat.le_of_ble_eq_true rfl) (fun t hP hF => ⟨⟨_, (), rfl, rfl, hP⟩, hF⟩)
    refine gx_ite (fun he => ?_) (fun _ => ?_)
    · subst he
      refine gx_catch (pc := 5) (tgt := 17) (ct := 13) (name := "java/lang/IllegalArgumentException") C [(⟨0, 10, 13, 21⟩ : ExceptionTableEntry)] (⟨0, 10, 17, 13⟩ : ExceptionTableEntry) [] (by rw [hex]; rfl) (fun z hz => by
        simp only [List.mem_cons, List.not_mem_nil, or_false] at hz
        rcases hz with rfl
        · exact Or.inr ⟨by decide, "java/lang/IndexOutOfBoundsException", q_11_2, List.mem_of_getElem? (i := 2) rfl⟩) (by decide) rfl (by decide) rfl q_6_20 rfl (List.mem_of_getElem? (i := 1) rfl) (fun q => ?_)
      refine g_astore (pc := 17) C dL_window_17 (Nat.le_of_ble_eq_true rfl) rfl ?_
      refine g_iconst (pc := 19) (v := 2) C dL_window_19 (by decide) ?_
      exact g_xiret (pc := 20) C hr dL_window_20 (Nat.le_of_ble_eq_true rfl) (Nat.le_of_ble_eq_true rfl) (fun t hP hF => ⟨⟨_, (), rfl, rfl, hP⟩, hF⟩)
    exact gx_none
  refine g_i2l (pc := 8) C dL_window_8 ?_
  refine g_lastore (pc := 9) C h3 dL_window_9 ?_
  refine g_nms (fun σ4 => ?_)
  refine g_goto (pc := 10) (tgt := 21) C dL_window_10 rfl ?_
  refine g_iconst (pc := 21) (v := 0) C dL_window_21 (by decide) ?_
  exact g_xiret (pc := 22) C hr dL_window_22 (Nat.le_of_ble_eq_true rfl) (Nat.le_of_ble_eq_true rfl) (fun t hP hF => ⟨⟨_, (), rfl, rfl, hP⟩, hF⟩)
theorem dL_dock_0 : decode cL_dock 0 = .ok (.aload 4, 2) := by decide +kernel
theorem dL_dock_2 : decode cL_dock 2 = .ok (.iconst 0, 1) := by decide +kernel
theorem dL_dock_3 : decode cL_dock 3 = .ok (.aload_n 0, 1) := by decide +kernel
theorem dL_dock_4 : decode cL_dock 4 = .ok (.iload_n 1, 1) := by decide +kernel
theorem dL_dock_5 : decode cL_dock 5 = .ok (.iload_n 2, 1) := by decide +kernel
theorem dL_dock_6 : decode cL_dock 6 = .ok (.iload_n 3, 1) := by decide +kernel
theorem dL_dock_7 : decode cL_dock 7 = .ok (.invokevirtual 48, 3) := by decide +kernel
theorem dL_dock_10 : decode cL_dock 10 = .ok (.i2l, 1) := by decide +kernel
theorem dL_dock_11 : decode cL_dock 11 = .ok (.lastore, 1) := by decide +kernel
theorem dL_dock_12 : decode cL_dock 12 = .ok (.goto 15, 3) := by decide +kernel
theorem dL_dock_15 : decode cL_dock 15 = .ok (.astore 5, 2) := by decide +kernel
theorem dL_dock_17 : decode cL_dock 17 = .ok (.iconst 1, 1) := by decide +kernel
theorem dL_dock_18 : decode cL_dock 18 = .ok (.ireturn, 1) := by decide +kernel
theorem dL_dock_19 : decode cL_dock 19 = .ok (.astore 5, 2) := by decide +kernel
theorem dL_dock_21 : decode cL_dock 21 = .ok (.iconst 2, 1) := by decide +kernel
theorem dL_dock_22 : decode cL_dock 22 = .ok (.ireturn, 1) := by decide +kernel
theorem dL_dock_23 : decode cL_dock 23 = .ok (.astore 5, 2) := by decide +kernel
theorem dL_dock_25 : decode cL_dock 25 = .ok (.iconst 3, 1) := by decide +kernel
theorem dL_dock_26 : decode cL_dock 26 = .ok (.ireturn, 1) := by decide +kernel
theorem dL_dock_27 : decode cL_dock 27 = .ok (.iconst 0, 1) := by decide +kernel
theorem dL_dock_28 : decode cL_dock 28 = .ok (.ireturn, 1) := by decide +kernel
abbrev rmL_dock : Room := { frames := 9, cells := 5, slots := 30, locals := 238 }
theorem hdL_dock : yL_dock.cls ≠ "java/lang/invoke/MethodHandle" ∧ yL_dock.cls ≠ "java/lang/invoke/VarHandle" ∧ (parseMethodDescriptor yL_dock.desc).map (fun d => d.parameters.length) = some 5 := by decide +kernel
def fL_dock (σ : Sg) (p1 : Int32) (p2 : Int32) (p3 : Int32) (c4 : Nat) (n4 : Nat) : Option (Int32 × Sg) :=
  (fX8_dock σ p1 p2 p3).bind fun r1 => xcat r1.1 (fun e3 =>
    if e3 = 0 then
      some (1, r1.2)
    else if e3 = 1 then
      some (2, r1.2)
    else if e3 = 2 then
      some (3, r1.2)
    else 
      none) fun w2 =>
  if ck 0 n4 then
    nm (sul r1.2 c4 (0 : Int32).toNatClampNeg w2.toInt64) fun σ4 =>
    some (0, σ4)
  else none
theorem kL_dock (X : Xc) (σ : Sg) (p1 : Int32) (p2 : Int32) (p3 : Int32) (c4 : Nat) (n4 : Nat) (h4 : SHP[c4]? = some (2, [n4])) (hfl : X.l.stackTraces = false) : ∀ r, fL_dock σ p1 p2 p3 c4 n4 = some r → vx_Met X.l yL_dock (wsMH yL_dock cL_dock 6 (some .int) [(0, 12, 15, 21), (0, 12, 19, 13), (0, 12, 23, 15)]) rmL_dock (va_Pc [.ref (X.ad 0), .int p1, .int p2, .int p3, .ref (X.ad c4)] (PW X σ)) (CXi X (.inl r.1) r.2) (CXx X (.inl r.1 : Int32 ⊕ Nat) r.2) 5 30 X.A := by
  refine xt_ofH (own := RL) (lo := [some (.ref (X.ad 0)), some (.int (p1)), some (.int (p2)), some (.int (p3)), some (.ref (X.ad c4)), none]) (by decide) rfl (Nat.le_of_ble_eq_true rfl) rfl (fun K C hr hex => ?_)
  unfold fL_dock
  refine g_aload (pc := 0) C dL_dock_0 rfl ?_
  refine g_iconst (pc := 2) (v := 0) C dL_dock_2 (by decide) ?_
  refine g_aload_n (pc := 3) (i := 0) C dL_dock_3 rfl rfl ?_
  refine g_iload_n (pc := 4) (i := 1) C dL_dock_4 rfl rfl ?_
  refine g_iload_n (pc := 5) (i := 2) C dL_dock_5 rfl rfl ?_
  refine g_iload_n (pc := 6) (i := 3) C dL_dock_6 rfl rfl ?_
  refine g_xcallVi (pc := 7) (As := [.int (p1), .int (p2), .int (p3)]) C (kX8_dock X σ p1 p2 p3 hfl) ok_dl rfl q_33_10 q_33_11 q_33_12 q_1_2 q_33_13 ⟨rfl, hdX8_dock⟩ ⟨Nat.le_of_ble_eq_true rfl, Nat.le_of_ble_eq_true rfl, rfl, rfl, Nat.le_of_ble_eq_true rfl, Nat.le_of_ble_eq_true rfl⟩ (Nat.le_of_ble_eq_true rfl) rfl rfl dL_dock_7 (fun r1 e3 _ _ => ?_) (fun r1 w2 _ _ => ?_)
  · refine gx_ite (fun he => ?_) (fun _ => ?_)
    · subst he
      refine gx_catch (pc := 7) (tgt := 15) (ct := 21) (name := "java/lang/IndexOutOfBoundsException") C [] (⟨0, 12, 15, 21⟩ : ExceptionTableEntry) [(⟨0, 12, 19, 13⟩ : ExceptionTableEntry), (⟨0, 12, 23, 15⟩ : ExceptionTableEntry)] (by rw [hex]; rfl) (fun z hz => by cases hz) (by decide) rfl (by decide) rfl q_11_2 rfl (List.mem_of_getElem? (i := 0) rfl) (fun q => ?_)
      refine g_astore (pc := 15) C dL_dock_15 (Nat.le_of_ble_eq_true rfl) rfl ?_
      refine g_iconst (pc := 17) (v := 1) C dL_dock_17 (by decide) ?_
      exact g_xiret (pc := 18) C hr dL_dock_18 (Nat.le_of_ble_eq_true rfl) (Nat.le_of_ble_eq_true rfl) (fun t hP hF => ⟨⟨_, (), rfl, rfl, hP⟩, hF⟩)
    refine gx_ite (fun he => ?_) (fun _ => ?_)
    · subst he
      refine gx_catch (pc := 7) (tgt := 19) (ct := 13) (name := "java/lang/IllegalArgumentException") C [(⟨0, 12, 15, 21⟩ : ExceptionTableEntry)] (⟨0, 12, 19, 13⟩ : ExceptionTableEntry) [(⟨0, 12, 23, 15⟩ : ExceptionTableEntry)] (by rw [hex]; rfl) (fun z hz => by
        simp only [List.mem_cons, List.not_mem_nil, or_false] at hz
        rcases hz with rfl
        · exact Or.inr ⟨by decide, "java/lang/IndexOutOfBoundsException", q_11_2, List.mem_of_getElem? (i := 2) rfl⟩) (by decide) rfl (by decide) rfl q_6_20 rfl (List.mem_of_getElem? (i := 1) rfl) (fun q => ?_)
      refine g_astore (pc := 19) C dL_dock_19 (Nat.le_of_ble_eq_true rfl) rfl ?_
      refine g_iconst (pc := 21) (v := 2) C dL_dock_21 (by decide) ?_
      exact g_xiret (pc := 22) C hr dL_dock_22 (Nat.le_of_ble_eq_true rfl) (Nat.le_of_ble_eq_true rfl) (fun t hP hF => ⟨⟨_, (), rfl, rfl, hP⟩, hF⟩)
    refine gx_ite (fun he => ?_) (fun _ => ?_)
    · subst he
      refine gx_catch (pc := 7) (tgt := 23) (ct := 15) (name := "java/lang/IllegalStateException") C [(⟨0, 12, 15, 21⟩ : ExceptionTableEntry), (⟨0, 12, 19, 13⟩ : ExceptionTableEntry)] (⟨0, 12, 23, 15⟩ : ExceptionTableEntry) [] (by rw [hex]; rfl) (fun z hz => by
        simp only [List.mem_cons, List.not_mem_nil, or_false] at hz
        rcases hz with rfl | rfl
        · exact Or.inr ⟨by decide, "java/lang/IndexOutOfBoundsException", q_11_2, List.mem_of_getElem? (i := 4) rfl⟩
        · exact Or.inr ⟨by decide, "java/lang/IllegalArgumentException", q_6_20, List.mem_of_getElem? (i := 5) rfl⟩) (by decide) rfl (by decide) rfl q_6_21 rfl (List.mem_of_getElem? (i := 2) rfl) (fun q => ?_)
      refine g_astore (pc := 23) C dL_dock_23 (Nat.le_of_ble_eq_true rfl) rfl ?_
      refine g_iconst (pc := 25) (v := 3) C dL_dock_25 (by decide) ?_
      exact g_xiret (pc := 26) C hr dL_dock_26 (Nat.le_of_ble_eq_true rfl) (Nat.le_of_ble_eq_true rfl) (fun t hP hF => ⟨⟨_, (), rfl, rfl, hP⟩, hF⟩)
    exact gx_none
  refine g_i2l (pc := 10) C dL_dock_10 ?_
  refine g_lastore (pc := 11) C h4 dL_dock_11 ?_
  refine g_nms (fun σ4 => ?_)
  refine g_goto (pc := 12) (tgt := 27) C dL_dock_12 rfl ?_
  refine g_iconst (pc := 27) (v := 0) C dL_dock_27 (by decide) ?_
  exact g_xiret (pc := 28) C hr dL_dock_28 (Nat.le_of_ble_eq_true rfl) (Nat.le_of_ble_eq_true rfl) (fun t hP hF => ⟨⟨_, (), rfl, rfl, hP⟩, hF⟩)
theorem dL_start_0 : decode cL_start 0 = .ok (.aload_n 2, 1) := by decide +kernel
theorem dL_start_1 : decode cL_start 1 = .ok (.iconst 0, 1) := by decide +kernel
theorem dL_start_2 : decode cL_start 2 = .ok (.aload_n 0, 1) := by decide +kernel
theorem dL_start_3 : decode cL_start 3 = .ok (.iload_n 1, 1) := by decide +kernel
theorem dL_start_4 : decode cL_start 4 = .ok (.invokevirtual 51, 3) := by decide +kernel
theorem dL_start_7 : decode cL_start 7 = .ok (.i2l, 1) := by decide +kernel
theorem dL_start_8 : decode cL_start 8 = .ok (.lastore, 1) := by decide +kernel
theorem dL_start_9 : decode cL_start 9 = .ok (.goto 9, 3) := by decide +kernel
theorem dL_start_12 : decode cL_start 12 = .ok (.astore_n 3, 1) := by decide +kernel
theorem dL_start_13 : decode cL_start 13 = .ok (.iconst 1, 1) := by decide +kernel
theorem dL_start_14 : decode cL_start 14 = .ok (.ireturn, 1) := by decide +kernel
theorem dL_start_15 : decode cL_start 15 = .ok (.astore_n 3, 1) := by decide +kernel
theorem dL_start_16 : decode cL_start 16 = .ok (.iconst 2, 1) := by decide +kernel
theorem dL_start_17 : decode cL_start 17 = .ok (.ireturn, 1) := by decide +kernel
theorem dL_start_18 : decode cL_start 18 = .ok (.iconst 0, 1) := by decide +kernel
theorem dL_start_19 : decode cL_start 19 = .ok (.ireturn, 1) := by decide +kernel
abbrev rmL_start : Room := { frames := 9, cells := 2, slots := 12, locals := 236 }
theorem hdL_start : yL_start.cls ≠ "java/lang/invoke/MethodHandle" ∧ yL_start.cls ≠ "java/lang/invoke/VarHandle" ∧ (parseMethodDescriptor yL_start.desc).map (fun d => d.parameters.length) = some 3 := by decide +kernel
def fL_start (σ : Sg) (p1 : Int32) (c2 : Nat) (n2 : Nat) : Option (Int32 × Sg) :=
  (fX8_start σ p1).bind fun r1 => xcat r1.1 (fun e3 =>
    if e3 = 0 then
      some (1, r1.2)
    else if e3 = 2 then
      some (2, r1.2)
    else 
      none) fun w2 =>
  if ck 0 n2 then
    nm (sul r1.2 c2 (0 : Int32).toNatClampNeg w2.toInt64) fun σ4 =>
    some (0, σ4)
  else none
theorem kL_start (X : Xc) (σ : Sg) (p1 : Int32) (c2 : Nat) (n2 : Nat) (h2 : SHP[c2]? = some (2, [n2])) (hfl : X.l.stackTraces = false) : ∀ r, fL_start σ p1 c2 n2 = some r → vx_Met X.l yL_start (wsMH yL_start cL_start 4 (some .int) [(0, 9, 12, 21), (0, 9, 15, 15)]) rmL_start (va_Pc [.ref (X.ad 0), .int p1, .ref (X.ad c2)] (PW X σ)) (CXi X (.inl r.1) r.2) (CXx X (.inl r.1 : Int32 ⊕ Nat) r.2) 2 12 X.A := by
  refine xt_ofH (own := RL) (lo := [some (.ref (X.ad 0)), some (.int (p1)), some (.ref (X.ad c2)), none]) (by decide) rfl (Nat.le_of_ble_eq_true rfl) rfl (fun K C hr hex => ?_)
  unfold fL_start
  refine g_aload_n (pc := 0) (i := 2) C dL_start_0 rfl rfl ?_
  refine g_iconst (pc := 1) (v := 0) C dL_start_1 (by decide) ?_
  refine g_aload_n (pc := 2) (i := 0) C dL_start_2 rfl rfl ?_
  refine g_iload_n (pc := 3) (i := 1) C dL_start_3 rfl rfl ?_
  refine g_xcallVi (pc := 4) (As := [.int (p1)]) C (kX8_start X σ p1 hfl) ok_dl rfl q_35_21 q_35_22 q_35_23 q_1_2 q_36_0 ⟨rfl, hdX8_start⟩ ⟨Nat.le_of_ble_eq_true rfl, Nat.le_of_ble_eq_true rfl, rfl, rfl, Nat.le_of_ble_eq_true rfl, Nat.le_of_ble_eq_true rfl⟩ (Nat.le_of_ble_eq_true rfl) rfl rfl dL_start_4 (fun r1 e3 _ _ => ?_) (fun r1 w2 _ _ => ?_)
  · refine gx_ite (fun he => ?_) (fun _ => ?_)
    · subst he
      refine gx_catch (pc := 4) (tgt := 12) (ct := 21) (name := "java/lang/IndexOutOfBoundsException") C [] (⟨0, 9, 12, 21⟩ : ExceptionTableEntry) [(⟨0, 9, 15, 15⟩ : ExceptionTableEntry)] (by rw [hex]; rfl) (fun z hz => by cases hz) (by decide) rfl (by decide) rfl q_11_2 rfl (List.mem_of_getElem? (i := 0) rfl) (fun q => ?_)
      refine g_astore_n (pc := 12) (i := 3) C dL_start_12 rfl (Nat.le_of_ble_eq_true rfl) rfl ?_
      refine g_iconst (pc := 13) (v := 1) C dL_start_13 (by decide) ?_
      exact g_xiret (pc := 14) C hr dL_start_14 (Nat.le_of_ble_eq_true rfl) (Nat.le_of_ble_eq_true rfl) (fun t hP hF => ⟨⟨_, (), rfl, rfl, hP⟩, hF⟩)
    refine gx_ite (fun he => ?_) (fun _ => ?_)
    · subst he
      refine gx_catch (pc := 4) (tgt := 15) (ct := 15) (name := "java/lang/IllegalStateException") C [(⟨0, 9, 12, 21⟩ : ExceptionTableEntry)] (⟨0, 9, 15, 15⟩ : ExceptionTableEntry) [] (by rw [hex]; rfl) (fun z hz => by
        simp only [List.mem_cons, List.not_mem_nil, or_false] at hz
        rcases hz with rfl
        · exact Or.inr ⟨by decide, "java/lang/IndexOutOfBoundsException", q_11_2, List.mem_of_getElem? (i := 4) rfl⟩) (by decide) rfl (by decide) rfl q_6_21 rfl (List.mem_of_getElem? (i := 2) rfl) (fun q => ?_)
      refine g_astore_n (pc := 15) (i := 3) C dL_start_15 rfl (Nat.le_of_ble_eq_true rfl) rfl ?_
      refine g_iconst (pc := 16) (v := 2) C dL_start_16 (by decide) ?_
      exact g_xiret (pc := 17) C hr dL_start_17 (Nat.le_of_ble_eq_true rfl) (Nat.le_of_ble_eq_true rfl) (fun t hP hF => ⟨⟨_, (), rfl, rfl, hP⟩, hF⟩)
    exact gx_none
  refine g_i2l (pc := 7) C dL_start_7 ?_
  refine g_lastore (pc := 8) C h2 dL_start_8 ?_
  refine g_nms (fun σ4 => ?_)
  refine g_goto (pc := 9) (tgt := 18) C dL_start_9 rfl ?_
  refine g_iconst (pc := 18) (v := 0) C dL_start_18 (by decide) ?_
  exact g_xiret (pc := 19) C hr dL_start_19 (Nat.le_of_ble_eq_true rfl) (Nat.le_of_ble_eq_true rfl) (fun t hP hF => ⟨⟨_, (), rfl, rfl, hP⟩, hF⟩)
theorem dL_floatAt_0 : decode cL_floatAt 0 = .ok (.aload 6, 2) := by decide +kernel
theorem dL_floatAt_2 : decode cL_floatAt 2 = .ok (.iconst 0, 1) := by decide +kernel
theorem dL_floatAt_3 : decode cL_floatAt 3 = .ok (.aload_n 0, 1) := by decide +kernel
theorem dL_floatAt_4 : decode cL_floatAt 4 = .ok (.iload_n 1, 1) := by decide +kernel
theorem dL_floatAt_5 : decode cL_floatAt 5 = .ok (.iload_n 2, 1) := by decide +kernel
theorem dL_floatAt_6 : decode cL_floatAt 6 = .ok (.iload_n 3, 1) := by decide +kernel
theorem dL_floatAt_7 : decode cL_floatAt 7 = .ok (.iload 4, 2) := by decide +kernel
theorem dL_floatAt_9 : decode cL_floatAt 9 = .ok (.iload 5, 2) := by decide +kernel
theorem dL_floatAt_11 : decode cL_floatAt 11 = .ok (.invokevirtual 54, 3) := by decide +kernel
theorem dL_floatAt_14 : decode cL_floatAt 14 = .ok (.i2l, 1) := by decide +kernel
theorem dL_floatAt_15 : decode cL_floatAt 15 = .ok (.lastore, 1) := by decide +kernel
theorem dL_floatAt_16 : decode cL_floatAt 16 = .ok (.goto 15, 3) := by decide +kernel
theorem dL_floatAt_19 : decode cL_floatAt 19 = .ok (.astore 7, 2) := by decide +kernel
theorem dL_floatAt_21 : decode cL_floatAt 21 = .ok (.iconst 1, 1) := by decide +kernel
theorem dL_floatAt_22 : decode cL_floatAt 22 = .ok (.ireturn, 1) := by decide +kernel
theorem dL_floatAt_23 : decode cL_floatAt 23 = .ok (.astore 7, 2) := by decide +kernel
theorem dL_floatAt_25 : decode cL_floatAt 25 = .ok (.iconst 2, 1) := by decide +kernel
theorem dL_floatAt_26 : decode cL_floatAt 26 = .ok (.ireturn, 1) := by decide +kernel
theorem dL_floatAt_27 : decode cL_floatAt 27 = .ok (.astore 7, 2) := by decide +kernel
theorem dL_floatAt_29 : decode cL_floatAt 29 = .ok (.iconst 3, 1) := by decide +kernel
theorem dL_floatAt_30 : decode cL_floatAt 30 = .ok (.ireturn, 1) := by decide +kernel
theorem dL_floatAt_31 : decode cL_floatAt 31 = .ok (.iconst 0, 1) := by decide +kernel
theorem dL_floatAt_32 : decode cL_floatAt 32 = .ok (.ireturn, 1) := by decide +kernel
abbrev rmL_floatAt : Room := { frames := 9, cells := 6, slots := 36, locals := 240 }
theorem hdL_floatAt : yL_floatAt.cls ≠ "java/lang/invoke/MethodHandle" ∧ yL_floatAt.cls ≠ "java/lang/invoke/VarHandle" ∧ (parseMethodDescriptor yL_floatAt.desc).map (fun d => d.parameters.length) = some 7 := by decide +kernel
def fL_floatAt (σ : Sg) (p1 : Int32) (p2 : Int32) (p3 : Int32) (p4 : Int32) (p5 : Int32) (c6 : Nat) (n6 : Nat) : Option (Int32 × Sg) :=
  (fX8_floatAt σ p1 p2 p3 p4 p5).bind fun r1 => xcat r1.1 (fun e3 =>
    if e3 = 0 then
      some (1, r1.2)
    else if e3 = 1 then
      some (2, r1.2)
    else if e3 = 2 then
      some (3, r1.2)
    else 
      none) fun w2 =>
  if ck 0 n6 then
    nm (sul r1.2 c6 (0 : Int32).toNatClampNeg w2.toInt64) fun σ4 =>
    some (0, σ4)
  else none
theorem kL_floatAt (X : Xc) (σ : Sg) (p1 : Int32) (p2 : Int32) (p3 : Int32) (p4 : Int32) (p5 : Int32) (c6 : Nat) (n6 : Nat) (h6 : SHP[c6]? = some (2, [n6])) (hfl : X.l.stackTraces = false) : ∀ r, fL_floatAt σ p1 p2 p3 p4 p5 c6 n6 = some r → vx_Met X.l yL_floatAt (wsMH yL_floatAt cL_floatAt 8 (some .int) [(0, 16, 19, 21), (0, 16, 23, 13), (0, 16, 27, 15)]) rmL_floatAt (va_Pc [.ref (X.ad 0), .int p1, .int p2, .int p3, .int p4, .int p5, .ref (X.ad c6)] (PW X σ)) (CXi X (.inl r.1) r.2) (CXx X (.inl r.1 : Int32 ⊕ Nat) r.2) 6 36 X.A := by
  refine xt_ofH (own := RL) (lo := [some (.ref (X.ad 0)), some (.int (p1)), some (.int (p2)), some (.int (p3)), some (.int (p4)), some (.int (p5)), some (.ref (X.ad c6)), none]) (by decide) rfl (Nat.le_of_ble_eq_true rfl) rfl (fun K C hr hex => ?_)
  unfold fL_floatAt
  refine g_aload (pc := 0) C dL_floatAt_0 rfl ?_
  refine g_iconst (pc := 2) (v := 0) C dL_floatAt_2 (by decide) ?_
  refine g_aload_n (pc := 3) (i := 0) C dL_floatAt_3 rfl rfl ?_
  refine g_iload_n (pc := 4) (i := 1) C dL_floatAt_4 rfl rfl ?_
  refine g_iload_n (pc := 5) (i := 2) C dL_floatAt_5 rfl rfl ?_
  refine g_iload_n (pc := 6) (i := 3) C dL_floatAt_6 rfl rfl ?_
  refine g_iload (pc := 7) C dL_floatAt_7 rfl ?_
  refine g_iload (pc := 9) C dL_floatAt_9 rfl ?_
  refine g_xcallVi (pc := 11) (As := [.int (p1), .int (p2), .int (p3), .int (p4), .int (p5)]) C (kX8_floatAt X σ p1 p2 p3 p4 p5 hfl) ok_dl rfl q_36_20 q_36_21 q_36_22 q_1_2 q_36_23 ⟨rfl, hdX8_floatAt⟩ ⟨Nat.le_of_ble_eq_true rfl, Nat.le_of_ble_eq_true rfl, rfl, rfl, Nat.le_of_ble_eq_true rfl, Nat.le_of_ble_eq_true rfl⟩ (Nat.le_of_ble_eq_true rfl) rfl rfl dL_floatAt_11 (fun r1 e3 _ _ => ?_) (fun r1 w2 _ _ => ?_)
  · refine gx_ite (fun he => ?_) (fun _ => ?_)
    · subst he
      refine gx_catch (pc := 11) (tgt := 19) (ct := 21) (name := "java/lang/IndexOutOfBoundsException") C [] (⟨0, 16, 19, 21⟩ : ExceptionTableEntry) [(⟨0, 16, 23, 13⟩ : ExceptionTableEntry), (⟨0, 16, 27, 15⟩ : ExceptionTableEntry)] (by rw [hex]; rfl) (fun z hz => by cases hz) (by decide) rfl (by decide) rfl q_11_2 rfl (List.mem_of_getElem? (i := 0) rfl) (fun q => ?_)
      refine g_astore (pc := 19) C dL_floatAt_19 (Nat.le_of_ble_eq_true rfl) rfl ?_
      refine g_iconst (pc := 21) (v := 1) C dL_floatAt_21 (by decide) ?_
      exact g_xiret (pc := 22) C hr dL_floatAt_22 (Nat.le_of_ble_eq_true rfl) (Nat.le_of_ble_eq_true rfl) (fun t hP hF => ⟨⟨_, (), rfl, rfl, hP⟩, hF⟩)
    refine gx_ite (fun he => ?_) (fun _ => ?_)
    · subst he
      refine gx_catch (pc := 11) (tgt := 23) (ct := 13) (name := "java/lang/IllegalArgumentException") C [(⟨0, 16, 19, 21⟩ : ExceptionTableEntry)] (⟨0, 16, 23, 13⟩ : ExceptionTableEntry) [(⟨0, 16, 27, 15⟩ : ExceptionTableEntry)] (by rw [hex]; rfl) (fun z hz => by
        simp only [List.mem_cons, List.not_mem_nil, or_false] at hz
        rcases hz with rfl
        · exact Or.inr ⟨by decide, "java/lang/IndexOutOfBoundsException", q_11_2, List.mem_of_getElem? (i := 2) rfl⟩) (by decide) rfl (by decide) rfl q_6_20 rfl (List.mem_of_getElem? (i := 1) rfl) (fun q => ?_)
      refine g_astore (pc := 23) C dL_floatAt_23 (Nat.le_of_ble_eq_true rfl) rfl ?_
      refine g_iconst (pc := 25) (v := 2) C dL_floatAt_25 (by decide) ?_
      exact g_xiret (pc := 26) C hr dL_floatAt_26 (Nat.le_of_ble_eq_true rfl) (Nat.le_of_ble_eq_true rfl) (fun t hP hF => ⟨⟨_, (), rfl, rfl, hP⟩, hF⟩)
    refine gx_ite (fun he => ?_) (fun _ => ?_)
    · subst he
      refine gx_catch (pc := 11) (tgt := 27) (ct := 15) (name := "java/lang/IllegalStateException") C [(⟨0, 16, 19, 21⟩ : ExceptionTableEntry), (⟨0, 16, 23, 13⟩ : ExceptionTableEntry)] (⟨0, 16, 27, 15⟩ : ExceptionTableEntry) [] (by rw [hex]; rfl) (fun z hz => by
        simp only [List.mem_cons, List.not_mem_nil, or_false] at hz
        rcases hz with rfl | rfl
        · exact Or.inr ⟨by decide, "java/lang/IndexOutOfBoundsException", q_11_2, List.mem_of_getElem? (i := 4) rfl⟩
        · exact Or.inr ⟨by decide, "java/lang/IllegalArgumentException", q_6_20, List.mem_of_getElem? (i := 5) rfl⟩) (by decide) rfl (by decide) rfl q_6_21 rfl (List.mem_of_getElem? (i := 2) rfl) (fun q => ?_)
      refine g_astore (pc := 27) C dL_floatAt_27 (Nat.le_of_ble_eq_true rfl) rfl ?_
      refine g_iconst (pc := 29) (v := 3) C dL_floatAt_29 (by decide) ?_
      exact g_xiret (pc := 30) C hr dL_floatAt_30 (Nat.le_of_ble_eq_true rfl) (Nat.le_of_ble_eq_true rfl) (fun t hP hF => ⟨⟨_, (), rfl, rfl, hP⟩, hF⟩)
    exact gx_none
  refine g_i2l (pc := 14) C dL_floatAt_14 ?_
  refine g_lastore (pc := 15) C h6 dL_floatAt_15 ?_
  refine g_nms (fun σ4 => ?_)
  refine g_goto (pc := 16) (tgt := 31) C dL_floatAt_16 rfl ?_
  refine g_iconst (pc := 31) (v := 0) C dL_floatAt_31 (by decide) ?_
  exact g_xiret (pc := 32) C hr dL_floatAt_32 (Nat.le_of_ble_eq_true rfl) (Nat.le_of_ble_eq_true rfl) (fun t hP hF => ⟨⟨_, (), rfl, rfl, hP⟩, hF⟩)
theorem dL_takeAway_0 : decode cL_takeAway 0 = .ok (.aload_n 2, 1) := by decide +kernel
theorem dL_takeAway_1 : decode cL_takeAway 1 = .ok (.iconst 0, 1) := by decide +kernel
theorem dL_takeAway_2 : decode cL_takeAway 2 = .ok (.aload_n 0, 1) := by decide +kernel
theorem dL_takeAway_3 : decode cL_takeAway 3 = .ok (.iload_n 1, 1) := by decide +kernel
theorem dL_takeAway_4 : decode cL_takeAway 4 = .ok (.invokevirtual 58, 3) := by decide +kernel
theorem dL_takeAway_7 : decode cL_takeAway 7 = .ok (.i2l, 1) := by decide +kernel
theorem dL_takeAway_8 : decode cL_takeAway 8 = .ok (.lastore, 1) := by decide +kernel
theorem dL_takeAway_9 : decode cL_takeAway 9 = .ok (.goto 9, 3) := by decide +kernel
theorem dL_takeAway_12 : decode cL_takeAway 12 = .ok (.astore_n 3, 1) := by decide +kernel
theorem dL_takeAway_13 : decode cL_takeAway 13 = .ok (.iconst 1, 1) := by decide +kernel
theorem dL_takeAway_14 : decode cL_takeAway 14 = .ok (.ireturn, 1) := by decide +kernel
theorem dL_takeAway_15 : decode cL_takeAway 15 = .ok (.astore_n 3, 1) := by decide +kernel
theorem dL_takeAway_16 : decode cL_takeAway 16 = .ok (.iconst 2, 1) := by decide +kernel
theorem dL_takeAway_17 : decode cL_takeAway 17 = .ok (.ireturn, 1) := by decide +kernel
theorem dL_takeAway_18 : decode cL_takeAway 18 = .ok (.iconst 0, 1) := by decide +kernel
theorem dL_takeAway_19 : decode cL_takeAway 19 = .ok (.ireturn, 1) := by decide +kernel
abbrev rmL_takeAway : Room := { frames := 9, cells := 2, slots := 12, locals := 234 }
theorem hdL_takeAway : yL_takeAway.cls ≠ "java/lang/invoke/MethodHandle" ∧ yL_takeAway.cls ≠ "java/lang/invoke/VarHandle" ∧ (parseMethodDescriptor yL_takeAway.desc).map (fun d => d.parameters.length) = some 3 := by decide +kernel
def fL_takeAway (σ : Sg) (p1 : Int32) (c2 : Nat) (n2 : Nat) : Option (Int32 × Sg) :=
  (fX8_takeAway σ p1).bind fun r1 => xcat r1.1 (fun e3 =>
    if e3 = 0 then
      some (1, r1.2)
    else if e3 = 2 then
      some (2, r1.2)
    else 
      none) fun w2 =>
  if ck 0 n2 then
    nm (sul r1.2 c2 (0 : Int32).toNatClampNeg w2.toInt64) fun σ4 =>
    some (0, σ4)
  else none
theorem kL_takeAway (X : Xc) (σ : Sg) (p1 : Int32) (c2 : Nat) (n2 : Nat) (h2 : SHP[c2]? = some (2, [n2])) (hfl : X.l.stackTraces = false) : ∀ r, fL_takeAway σ p1 c2 n2 = some r → vx_Met X.l yL_takeAway (wsMH yL_takeAway cL_takeAway 4 (some .int) [(0, 9, 12, 21), (0, 9, 15, 15)]) rmL_takeAway (va_Pc [.ref (X.ad 0), .int p1, .ref (X.ad c2)] (PW X σ)) (CXi X (.inl r.1) r.2) (CXx X (.inl r.1 : Int32 ⊕ Nat) r.2) 2 12 X.A := by
  refine xt_ofH (own := RL) (lo := [some (.ref (X.ad 0)), some (.int (p1)), some (.ref (X.ad c2)), none]) (by decide) rfl (Nat.le_of_ble_eq_true rfl) rfl (fun K C hr hex => ?_)
  unfold fL_takeAway
  refine g_aload_n (pc := 0) (i := 2) C dL_takeAway_0 rfl rfl ?_
  refine g_iconst (pc := 1) (v := 0) C dL_takeAway_1 (by decide) ?_
  refine g_aload_n (pc := 2) (i := 0) C dL_takeAway_2 rfl rfl ?_
  refine g_iload_n (pc := 3) (i := 1) C dL_takeAway_3 rfl rfl ?_
  refine g_xcallVi (pc := 4) (As := [.int (p1)]) C (kX8_takeAway X σ p1 hfl) ok_dl rfl q_37_15 q_37_16 q_37_17 q_1_2 q_37_18 ⟨rfl, hdX8_takeAway⟩ ⟨Nat.le_of_ble_eq_true rfl, Nat.le_of_ble_eq_true rfl, rfl, rfl, Nat.le_of_ble_eq_true rfl, Nat.le_of_ble_eq_true rfl⟩ (Nat.le_of_ble_eq_true rfl) rfl rfl dL_takeAway_4 (fun r1 e3 _ _ => ?_) (fun r1 w2 _ _ => ?_)
  · refine gx_ite (fun he => ?_) (fun _ => ?_)
    · subst he
      refine gx_catch (pc := 4) (tgt := 12) (ct := 21) (name := "java/lang/IndexOutOfBoundsException") C [] (⟨0, 9, 12, 21⟩ : ExceptionTableEntry) [(⟨0, 9, 15, 15⟩ : ExceptionTableEntry)] (by rw [hex]; rfl) (fun z hz => by cases hz) (by decide) rfl (by decide) rfl q_11_2 rfl (List.mem_of_getElem? (i := 0) rfl) (fun q => ?_)
      refine g_astore_n (pc := 12) (i := 3) C dL_takeAway_12 rfl (Nat.le_of_ble_eq_true rfl) rfl ?_
      refine g_iconst (pc := 13) (v := 1) C dL_takeAway_13 (by decide) ?_
      exact g_xiret (pc := 14) C hr dL_takeAway_14 (Nat.le_of_ble_eq_true rfl) (Nat.le_of_ble_eq_true rfl) (fun t hP hF => ⟨⟨_, (), rfl, rfl, hP⟩, hF⟩)
    refine gx_ite (fun he => ?_) (fun _ => ?_)
    · subst he
      refine gx_catch (pc := 4) (tgt := 15) (ct := 15) (name := "java/lang/IllegalStateException") C [(⟨0, 9, 12, 21⟩ : ExceptionTableEntry)] (⟨0, 9, 15, 15⟩ : ExceptionTableEntry) [] (by rw [hex]; rfl) (fun z hz => by
        simp only [List.mem_cons, List.not_mem_nil, or_false] at hz
        rcases hz with rfl
        · exact Or.inr ⟨by decide, "java/lang/IndexOutOfBoundsException", q_11_2, List.mem_of_getElem? (i := 4) rfl⟩) (by decide) rfl (by decide) rfl q_6_21 rfl (List.mem_of_getElem? (i := 2) rfl) (fun q => ?_)
      refine g_astore_n (pc := 15) (i := 3) C dL_takeAway_15 rfl (Nat.le_of_ble_eq_true rfl) rfl ?_
      refine g_iconst (pc := 16) (v := 2) C dL_takeAway_16 (by decide) ?_
      exact g_xiret (pc := 17) C hr dL_takeAway_17 (Nat.le_of_ble_eq_true rfl) (Nat.le_of_ble_eq_true rfl) (fun t hP hF => ⟨⟨_, (), rfl, rfl, hP⟩, hF⟩)
    exact gx_none
  refine g_i2l (pc := 7) C dL_takeAway_7 ?_
  refine g_lastore (pc := 8) C h2 dL_takeAway_8 ?_
  refine g_nms (fun σ4 => ?_)
  refine g_goto (pc := 9) (tgt := 18) C dL_takeAway_9 rfl ?_
  refine g_iconst (pc := 18) (v := 0) C dL_takeAway_18 (by decide) ?_
  exact g_xiret (pc := 19) C hr dL_takeAway_19 (Nat.le_of_ble_eq_true rfl) (Nat.le_of_ble_eq_true rfl) (fun t hP hF => ⟨⟨_, (), rfl, rfl, hP⟩, hF⟩)
theorem dL_show_0 : decode cL_show 0 = .ok (.aload_n 3, 1) := by decide +kernel
theorem dL_show_1 : decode cL_show 1 = .ok (.iconst 0, 1) := by decide +kernel
theorem dL_show_2 : decode cL_show 2 = .ok (.aload_n 0, 1) := by decide +kernel
theorem dL_show_3 : decode cL_show 3 = .ok (.iload_n 1, 1) := by decide +kernel
theorem dL_show_4 : decode cL_show 4 = .ok (.iload_n 2, 1) := by decide +kernel
theorem dL_show_5 : decode cL_show 5 = .ok (.invokevirtual 61, 3) := by decide +kernel
theorem dL_show_8 : decode cL_show 8 = .ok (.ifCond .eq 7, 3) := by decide +kernel
theorem dL_show_11 : decode cL_show 11 = .ok (.lconst 1, 1) := by decide +kernel
theorem dL_show_12 : decode cL_show 12 = .ok (.goto 4, 3) := by decide +kernel
theorem dL_show_15 : decode cL_show 15 = .ok (.lconst 0, 1) := by decide +kernel
theorem dL_show_16 : decode cL_show 16 = .ok (.lastore, 1) := by decide +kernel
theorem dL_show_17 : decode cL_show 17 = .ok (.goto 11, 3) := by decide +kernel
theorem dL_show_20 : decode cL_show 20 = .ok (.astore 4, 2) := by decide +kernel
theorem dL_show_22 : decode cL_show 22 = .ok (.iconst 1, 1) := by decide +kernel
theorem dL_show_23 : decode cL_show 23 = .ok (.ireturn, 1) := by decide +kernel
theorem dL_show_24 : decode cL_show 24 = .ok (.astore 4, 2) := by decide +kernel
theorem dL_show_26 : decode cL_show 26 = .ok (.iconst 2, 1) := by decide +kernel
theorem dL_show_27 : decode cL_show 27 = .ok (.ireturn, 1) := by decide +kernel
theorem dL_show_28 : decode cL_show 28 = .ok (.iconst 0, 1) := by decide +kernel
theorem dL_show_29 : decode cL_show 29 = .ok (.ireturn, 1) := by decide +kernel
abbrev rmL_show : Room := { frames := 9, cells := 2, slots := 12, locals := 236 }
theorem hdL_show : yL_show.cls ≠ "java/lang/invoke/MethodHandle" ∧ yL_show.cls ≠ "java/lang/invoke/VarHandle" ∧ (parseMethodDescriptor yL_show.desc).map (fun d => d.parameters.length) = some 4 := by decide +kernel
def fL_show_16 (c3 : Nat) (n3 : Nat) (σ : Sg) (s1 : Int32) (s2 : Int64) : Option (Int32 × Sg) :=
  if ck s1 n3 then
    nm (sul σ c3 s1.toNatClampNeg s2) fun σ4 =>
    some (0, σ4)
  else none
theorem bL_show_16 {X : Xc} {K : Kc} (C : MC X K cL_show 5 RL rmL_show) (hr : K.meth.sig.returnType = (some .int)) (hex : K.c.exceptionTable.toList = tableOf [(0, 17, 20, 21), (0, 17, 24, 15)]) (hfl : X.l.stackTraces = false) (c3 : Nat) (n3 : Nat) (h3 : SHP[c3]? = some (2, [n3])) (σ : Sg) (s1 : Int32) (s2 : Int64) : GO X K 5 (fun r => XM X K 2 12 (CXi X (.inl r.1) r.2) (CXx X (.inl r.1 : Int32 ⊕ Nat) r.2)) (fL_show_16 c3 n3 σ s1 s2) σ 2 12 16 [none, none, none, none, none] [.long (s2), .int (s1), .ref (X.ad c3)] := by
  unfold fL_show_16
  refine g_lastore (pc := 16) C h3 dL_show_16 ?_
  refine g_nms (fun σ4 => ?_)
  refine g_goto (pc := 17) (tgt := 28) C dL_show_17 rfl ?_
  refine g_iconst (pc := 28) (v := 0) C dL_show_28 (by decide) ?_
  exact g_xiret (pc := 29) C hr dL_show_29 (Nat.le_of_ble_eq_true rfl) (Nat.le_of_ble_eq_true rfl) (fun t hP hF => ⟨⟨_, (), rfl, rfl, hP⟩, hF⟩)
def fL_show (σ : Sg) (p1 : Int32) (p2 : Int32) (c3 : Nat) (n3 : Nat) : Option (Int32 × Sg) :=
  (fX8_show σ p1 p2).bind fun r1 => xcat (xb r1.1) (fun e3 =>
    if e3 = 0 then
      some (1, r1.2)
    else if e3 = 2 then
      some (2, r1.2)
    else 
      none) fun w2 =>
  if w2 = 0 then
    (fL_show_16 c3 n3 r1.2 0 (0 : Int64))
  else
    (fL_show_16 c3 n3 r1.2 0 (1 : Int64))
theorem kL_show (X : Xc) (σ : Sg) (p1 : Int32) (p2 : Int32) (c3 : Nat) (n3 : Nat) (h3 : SHP[c3]? = some (2, [n3])) (hfl : X.l.stackTraces = false) : ∀ r, fL_show σ p1 p2 c3 n3 = some r → vx_Met X.l yL_show (wsMH yL_show cL_show 5 (some .int) [(0, 17, 20, 21), (0, 17, 24, 15)]) rmL_show (va_Pc [.ref (X.ad 0), .int p1, .int p2, .ref (X.ad c3)] (PW X σ)) (CXi X (.inl r.1) r.2) (CXx X (.inl r.1 : Int32 ⊕ Nat) r.2) 2 12 X.A := by
  refine xt_ofH (own := RL) (lo := [some (.ref (X.ad 0)), some (.int (p1)), some (.int (p2)), some (.ref (X.ad c3)), none]) (by decide) rfl (Nat.le_of_ble_eq_true rfl) rfl (fun K C hr hex => ?_)
  unfold fL_show
  refine g_aload_n (pc := 0) (i := 3) C dL_show_0 rfl rfl ?_
  refine g_iconst (pc := 1) (v := 0) C dL_show_1 (by decide) ?_
  refine g_aload_n (pc := 2) (i := 0) C dL_show_2 rfl rfl ?_
  refine g_iload_n (pc := 3) (i := 1) C dL_show_3 rfl rfl ?_
  refine g_iload_n (pc := 4) (i := 2) C dL_show_4 rfl rfl ?_
  refine g_xcallVi (pc := 5) (As := [.int (p1), .int (p2)]) C (kX8_show X σ p1 p2 hfl) ok_dl rfl q_38_6 q_38_7 q_38_8 q_1_2 q_38_9 ⟨rfl, hdX8_show⟩ ⟨Nat.le_of_ble_eq_true rfl, Nat.le_of_ble_eq_true rfl, rfl, rfl, Nat.le_of_ble_eq_true rfl, Nat.le_of_ble_eq_true rfl⟩ (Nat.le_of_ble_eq_true rfl) rfl rfl dL_show_5 (fun r1 e3 _ _ => ?_) (fun r1 w2 _ _ => ?_)
  · refine gx_ite (fun he => ?_) (fun _ => ?_)
    · subst he
      refine gx_catch (pc := 5) (tgt := 20) (ct := 21) (name := "java/lang/IndexOutOfBoundsException") C [] (⟨0, 17, 20, 21⟩ : ExceptionTableEntry) [(⟨0, 17, 24, 15⟩ : ExceptionTableEntry)] (by rw [hex]; rfl) (fun z hz => by cases hz) (by decide) rfl (by decide) rfl q_11_2 rfl (List.mem_of_getElem? (i := 0) rfl) (fun q => ?_)
      refine g_astore (pc := 20) C dL_show_20 (Nat.le_of_ble_eq_true rfl) rfl ?_
      refine g_iconst (pc := 22) (v := 1) C dL_show_22 (by decide) ?_
      exact g_xiret (pc := 23) C hr dL_show_23 (Nat.le_of_ble_eq_true rfl) (Nat.le_of_ble_eq_true rfl) (fun t hP hF => ⟨⟨_, (), rfl, rfl, hP⟩, hF⟩)
    refine gx_ite (fun he => ?_) (fun _ => ?_)
    · subst he
      refine gx_catch (pc := 5) (tgt := 24) (ct := 15) (name := "java/lang/IllegalStateException") C [(⟨0, 17, 20, 21⟩ : ExceptionTableEntry)] (⟨0, 17, 24, 15⟩ : ExceptionTableEntry) [] (by rw [hex]; rfl) (fun z hz => by
        simp only [List.mem_cons, List.not_mem_nil, or_false] at hz
        rcases hz with rfl
        · exact Or.inr ⟨by decide, "java/lang/IndexOutOfBoundsException", q_11_2, List.mem_of_getElem? (i := 4) rfl⟩) (by decide) rfl (by decide) rfl q_6_21 rfl (List.mem_of_getElem? (i := 2) rfl) (fun q => ?_)
      refine g_astore (pc := 24) C dL_show_24 (Nat.le_of_ble_eq_true rfl) rfl ?_
      refine g_iconst (pc := 26) (v := 2) C dL_show_26 (by decide) ?_
      exact g_xiret (pc := 27) C hr dL_show_27 (Nat.le_of_ble_eq_true rfl) (Nat.le_of_ble_eq_true rfl) (fun t hP hF => ⟨⟨_, (), rfl, rfl, hP⟩, hF⟩)
    exact gx_none
  refine g_if_eq (pc := 8) (tgt := 15) C dL_show_8 rfl ?_ ?_
  · refine g_lconst (pc := 15) (v := 0) C dL_show_15 (by decide) ?_
    refine g_keep [false, false, false, false, false] ?_
    refine g_widen (cs' := 2) (ss' := 12) (Nat.le_of_ble_eq_true rfl) (Nat.le_of_ble_eq_true rfl) ?_
    exact bL_show_16 C hr hex hfl c3 n3 h3 r1.2 0 (0 : Int64)
  · refine g_lconst (pc := 11) (v := 1) C dL_show_11 (by decide) ?_
    refine g_goto (pc := 12) (tgt := 16) C dL_show_12 rfl ?_
    refine g_keep [false, false, false, false, false] ?_
    refine g_widen (cs' := 2) (ss' := 12) (Nat.le_of_ble_eq_true rfl) (Nat.le_of_ble_eq_true rfl) ?_
    exact bL_show_16 C hr hex hfl c3 n3 h3 r1.2 0 (1 : Int64)
theorem dL_activate_0 : decode cL_activate 0 = .ok (.aload_n 2, 1) := by decide +kernel
theorem dL_activate_1 : decode cL_activate 1 = .ok (.iconst 0, 1) := by decide +kernel
theorem dL_activate_2 : decode cL_activate 2 = .ok (.aload_n 0, 1) := by decide +kernel
theorem dL_activate_3 : decode cL_activate 3 = .ok (.iload_n 1, 1) := by decide +kernel
theorem dL_activate_4 : decode cL_activate 4 = .ok (.invokevirtual 65, 3) := by decide +kernel
theorem dL_activate_7 : decode cL_activate 7 = .ok (.i2l, 1) := by decide +kernel
theorem dL_activate_8 : decode cL_activate 8 = .ok (.lastore, 1) := by decide +kernel
theorem dL_activate_9 : decode cL_activate 9 = .ok (.goto 9, 3) := by decide +kernel
theorem dL_activate_12 : decode cL_activate 12 = .ok (.astore_n 3, 1) := by decide +kernel
theorem dL_activate_13 : decode cL_activate 13 = .ok (.iconst 1, 1) := by decide +kernel
theorem dL_activate_14 : decode cL_activate 14 = .ok (.ireturn, 1) := by decide +kernel
theorem dL_activate_15 : decode cL_activate 15 = .ok (.astore_n 3, 1) := by decide +kernel
theorem dL_activate_16 : decode cL_activate 16 = .ok (.iconst 2, 1) := by decide +kernel
theorem dL_activate_17 : decode cL_activate 17 = .ok (.ireturn, 1) := by decide +kernel
theorem dL_activate_18 : decode cL_activate 18 = .ok (.iconst 0, 1) := by decide +kernel
theorem dL_activate_19 : decode cL_activate 19 = .ok (.ireturn, 1) := by decide +kernel
abbrev rmL_activate : Room := { frames := 9, cells := 3, slots := 18, locals := 220 }
theorem hdL_activate : yL_activate.cls ≠ "java/lang/invoke/MethodHandle" ∧ yL_activate.cls ≠ "java/lang/invoke/VarHandle" ∧ (parseMethodDescriptor yL_activate.desc).map (fun d => d.parameters.length) = some 3 := by decide +kernel
def fL_activate (σ : Sg) (p1 : Int32) (c2 : Nat) (n2 : Nat) : Option (Int32 × Sg) :=
  (fX8_activate σ p1).bind fun r1 => xcat r1.1 (fun e3 =>
    if e3 = 0 then
      some (1, r1.2)
    else if e3 = 2 then
      some (2, r1.2)
    else 
      none) fun w2 =>
  if ck 0 n2 then
    nm (sul r1.2 c2 (0 : Int32).toNatClampNeg w2.toInt64) fun σ4 =>
    some (0, σ4)
  else none
theorem kL_activate (X : Xc) (σ : Sg) (p1 : Int32) (c2 : Nat) (n2 : Nat) (h2 : SHP[c2]? = some (2, [n2])) (hfl : X.l.stackTraces = false) : ∀ r, fL_activate σ p1 c2 n2 = some r → vx_Met X.l yL_activate (wsMH yL_activate cL_activate 4 (some .int) [(0, 9, 12, 21), (0, 9, 15, 15)]) rmL_activate (va_Pc [.ref (X.ad 0), .int p1, .ref (X.ad c2)] (PW X σ)) (CXi X (.inl r.1) r.2) (CXx X (.inl r.1 : Int32 ⊕ Nat) r.2) 3 18 X.A := by
  refine xt_ofH (own := RL) (lo := [some (.ref (X.ad 0)), some (.int (p1)), some (.ref (X.ad c2)), none]) (by decide) rfl (Nat.le_of_ble_eq_true rfl) rfl (fun K C hr hex => ?_)
  unfold fL_activate
  refine g_aload_n (pc := 0) (i := 2) C dL_activate_0 rfl rfl ?_
  refine g_iconst (pc := 1) (v := 0) C dL_activate_1 (by decide) ?_
  refine g_aload_n (pc := 2) (i := 0) C dL_activate_2 rfl rfl ?_
  refine g_iload_n (pc := 3) (i := 1) C dL_activate_3 rfl rfl ?_
  refine g_xcallVi (pc := 4) (As := [.int (p1)]) C (kX8_activate X σ p1 hfl) ok_dl rfl q_38_22 q_38_23 q_39_0 q_1_2 q_39_1 ⟨rfl, hdX8_activate⟩ ⟨Nat.le_of_ble_eq_true rfl, Nat.le_of_ble_eq_true rfl, rfl, rfl, Nat.le_of_ble_eq_true rfl, Nat.le_of_ble_eq_true rfl⟩ (Nat.le_of_ble_eq_true rfl) rfl rfl dL_activate_4 (fun r1 e3 _ _ => ?_) (fun r1 w2 _ _ => ?_)
  · refine gx_ite (fun he => ?_) (fun _ => ?_)
    · subst he
      refine gx_catch (pc := 4) (tgt := 12) (ct := 21) (name := "java/lang/IndexOutOfBoundsException") C [] (⟨0, 9, 12, 21⟩ : ExceptionTableEntry) [(⟨0, 9, 15, 15⟩ : ExceptionTableEntry)] (by rw [hex]; rfl) (fun z hz => by cases hz) (by decide) rfl (by decide) rfl q_11_2 rfl (List.mem_of_getElem? (i := 0) rfl) (fun q => ?_)
      refine g_astore_n (pc := 12) (i := 3) C dL_activate_12 rfl (Nat.le_of_ble_eq_true rfl) rfl ?_
      refine g_iconst (pc := 13) (v := 1) C dL_activate_13 (by decide) ?_
      exact g_xiret (pc := 14) C hr dL_activate_14 (Nat.le_of_ble_eq_true rfl) (Nat.le_of_ble_eq_true rfl) (fun t hP hF => ⟨⟨_, (), rfl, rfl, hP⟩, hF⟩)
    refine gx_ite (fun he => ?_) (fun _ => ?_)
    · subst he
      refine gx_catch (pc := 4) (tgt := 15) (ct := 15) (name := "java/lang/IllegalStateException") C [(⟨0, 9, 12, 21⟩ : ExceptionTableEntry)] (⟨0, 9, 15, 15⟩ : ExceptionTableEntry) [] (by rw [hex]; rfl) (fun z hz => by
        simp only [List.mem_cons, List.not_mem_nil, or_false] at hz
        rcases hz with rfl
        · exact Or.inr ⟨by decide, "java/lang/IndexOutOfBoundsException", q_11_2, List.mem_of_getElem? (i := 4) rfl⟩) (by decide) rfl (by decide) rfl q_6_21 rfl (List.mem_of_getElem? (i := 2) rfl) (fun q => ?_)
      refine g_astore_n (pc := 15) (i := 3) C dL_activate_15 rfl (Nat.le_of_ble_eq_true rfl) rfl ?_
      refine g_iconst (pc := 16) (v := 2) C dL_activate_16 (by decide) ?_
      exact g_xiret (pc := 17) C hr dL_activate_17 (Nat.le_of_ble_eq_true rfl) (Nat.le_of_ble_eq_true rfl) (fun t hP hF => ⟨⟨_, (), rfl, rfl, hP⟩, hF⟩)
    exact gx_none
  refine g_i2l (pc := 7) C dL_activate_7 ?_
  refine g_lastore (pc := 8) C h2 dL_activate_8 ?_
  refine g_nms (fun σ4 => ?_)
  refine g_goto (pc := 9) (tgt := 18) C dL_activate_9 rfl ?_
  refine g_iconst (pc := 18) (v := 0) C dL_activate_18 (by decide) ?_
  exact g_xiret (pc := 19) C hr dL_activate_19 (Nat.le_of_ble_eq_true rfl) (Nat.le_of_ble_eq_true rfl) (fun t hP hF => ⟨⟨_, (), rfl, rfl, hP⟩, hF⟩)
theorem dL_moveTab_0 : decode cL_moveTab 0 = .ok (.aload_n 3, 1) := by decide +kernel
theorem dL_moveTab_1 : decode cL_moveTab 1 = .ok (.iconst 0, 1) := by decide +kernel
theorem dL_moveTab_2 : decode cL_moveTab 2 = .ok (.aload_n 0, 1) := by decide +kernel
theorem dL_moveTab_3 : decode cL_moveTab 3 = .ok (.iload_n 1, 1) := by decide +kernel
theorem dL_moveTab_4 : decode cL_moveTab 4 = .ok (.iload_n 2, 1) := by decide +kernel
theorem dL_moveTab_5 : decode cL_moveTab 5 = .ok (.invokevirtual 68, 3) := by decide +kernel
theorem dL_moveTab_8 : decode cL_moveTab 8 = .ok (.i2l, 1) := by decide +kernel
theorem dL_moveTab_9 : decode cL_moveTab 9 = .ok (.lastore, 1) := by decide +kernel
theorem dL_moveTab_10 : decode cL_moveTab 10 = .ok (.goto 15, 3) := by decide +kernel
theorem dL_moveTab_13 : decode cL_moveTab 13 = .ok (.astore 4, 2) := by decide +kernel
theorem dL_moveTab_15 : decode cL_moveTab 15 = .ok (.iconst 1, 1) := by decide +kernel
theorem dL_moveTab_16 : decode cL_moveTab 16 = .ok (.ireturn, 1) := by decide +kernel
theorem dL_moveTab_17 : decode cL_moveTab 17 = .ok (.astore 4, 2) := by decide +kernel
theorem dL_moveTab_19 : decode cL_moveTab 19 = .ok (.iconst 2, 1) := by decide +kernel
theorem dL_moveTab_20 : decode cL_moveTab 20 = .ok (.ireturn, 1) := by decide +kernel
theorem dL_moveTab_21 : decode cL_moveTab 21 = .ok (.astore 4, 2) := by decide +kernel
theorem dL_moveTab_23 : decode cL_moveTab 23 = .ok (.iconst 3, 1) := by decide +kernel
theorem dL_moveTab_24 : decode cL_moveTab 24 = .ok (.ireturn, 1) := by decide +kernel
theorem dL_moveTab_25 : decode cL_moveTab 25 = .ok (.iconst 0, 1) := by decide +kernel
theorem dL_moveTab_26 : decode cL_moveTab 26 = .ok (.ireturn, 1) := by decide +kernel
abbrev rmL_moveTab : Room := { frames := 9, cells := 3, slots := 18, locals := 218 }
theorem hdL_moveTab : yL_moveTab.cls ≠ "java/lang/invoke/MethodHandle" ∧ yL_moveTab.cls ≠ "java/lang/invoke/VarHandle" ∧ (parseMethodDescriptor yL_moveTab.desc).map (fun d => d.parameters.length) = some 4 := by decide +kernel
def fL_moveTab (σ : Sg) (p1 : Int32) (p2 : Int32) (c3 : Nat) (n3 : Nat) : Option (Int32 × Sg) :=
  (fX8_moveTab σ p1 p2).bind fun r1 => xcat r1.1 (fun e3 =>
    if e3 = 0 then
      some (1, r1.2)
    else if e3 = 2 then
      some (2, r1.2)
    else if e3 = 1 then
      some (3, r1.2)
    else 
      none) fun w2 =>
  if ck 0 n3 then
    nm (sul r1.2 c3 (0 : Int32).toNatClampNeg w2.toInt64) fun σ4 =>
    some (0, σ4)
  else none
theorem kL_moveTab (X : Xc) (σ : Sg) (p1 : Int32) (p2 : Int32) (c3 : Nat) (n3 : Nat) (h3 : SHP[c3]? = some (2, [n3])) (hfl : X.l.stackTraces = false) : ∀ r, fL_moveTab σ p1 p2 c3 n3 = some r → vx_Met X.l yL_moveTab (wsMH yL_moveTab cL_moveTab 5 (some .int) [(0, 10, 13, 21), (0, 10, 17, 15), (0, 10, 21, 13)]) rmL_moveTab (va_Pc [.ref (X.ad 0), .int p1, .int p2, .ref (X.ad c3)] (PW X σ)) (CXi X (.inl r.1) r.2) (CXx X (.inl r.1 : Int32 ⊕ Nat) r.2) 3 18 X.A := by
  refine xt_ofH (own := RL) (lo := [some (.ref (X.ad 0)), some (.int (p1)), some (.int (p2)), some (.ref (X.ad c3)), none]) (by decide) rfl (Nat.le_of_ble_eq_true rfl) rfl (fun K C hr hex => ?_)
  unfold fL_moveTab
  refine g_aload_n (pc := 0) (i := 3) C dL_moveTab_0 rfl rfl ?_
  refine g_iconst (pc := 1) (v := 0) C dL_moveTab_1 (by decide) ?_
  refine g_aload_n (pc := 2) (i := 0) C dL_moveTab_2 rfl rfl ?_
  refine g_iload_n (pc := 3) (i := 1) C dL_moveTab_3 rfl rfl ?_
  refine g_iload_n (pc := 4) (i := 2) C dL_moveTab_4 rfl rfl ?_
  refine g_xcallVi (pc := 5) (As := [.int (p1), .int (p2)]) C (kX8_moveTab X σ p1 p2 hfl) ok_dl rfl q_39_17 q_39_18 q_39_19 q_1_2 q_39_20 ⟨rfl, hdX8_moveTab⟩ ⟨Nat.le_of_ble_eq_true rfl, Nat.le_of_ble_eq_true rfl, rfl, rfl, Nat.le_of_ble_eq_true rfl, Nat.le_of_ble_eq_true rfl⟩ (Nat.le_of_ble_eq_true rfl) rfl rfl dL_moveTab_5 (fun r1 e3 _ _ => ?_) (fun r1 w2 _ _ => ?_)
  · refine gx_ite (fun he => ?_) (fun _ => ?_)
    · subst he
      refine gx_catch (pc := 5) (tgt := 13) (ct := 21) (name := "java/lang/IndexOutOfBoundsException") C [] (⟨0, 10, 13, 21⟩ : ExceptionTableEntry) [(⟨0, 10, 17, 15⟩ : ExceptionTableEntry), (⟨0, 10, 21, 13⟩ : ExceptionTableEntry)] (by rw [hex]; rfl) (fun z hz => by cases hz) (by decide) rfl (by decide) rfl q_11_2 rfl (List.mem_of_getElem? (i := 0) rfl) (fun q => ?_)
      refine g_astore (pc := 13) C dL_moveTab_13 (Nat.le_of_ble_eq_true rfl) rfl ?_
      refine g_iconst (pc := 15) (v := 1) C dL_moveTab_15 (by decide) ?_
      exact g_xiret (pc := 16) C hr dL_moveTab_16 (Nat.le_of_ble_eq_true rfl) (Nat.le_of_ble_eq_true rfl) (fun t hP hF => ⟨⟨_, (), rfl, rfl, hP⟩, hF⟩)
    refine gx_ite (fun he => ?_) (fun _ => ?_)
    · subst he
      refine gx_catch (pc := 5) (tgt := 17) (ct := 15) (name := "java/lang/IllegalStateException") C [(⟨0, 10, 13, 21⟩ : ExceptionTableEntry)] (⟨0, 10, 17, 15⟩ : ExceptionTableEntry) [(⟨0, 10, 21, 13⟩ : ExceptionTableEntry)] (by rw [hex]; rfl) (fun z hz => by
        simp only [List.mem_cons, List.not_mem_nil, or_false] at hz
        rcases hz with rfl
        · exact Or.inr ⟨by decide, "java/lang/IndexOutOfBoundsException", q_11_2, List.mem_of_getElem? (i := 4) rfl⟩) (by decide) rfl (by decide) rfl q_6_21 rfl (List.mem_of_getElem? (i := 2) rfl) (fun q => ?_)
      refine g_astore (pc := 17) C dL_moveTab_17 (Nat.le_of_ble_eq_true rfl) rfl ?_
      refine g_iconst (pc := 19) (v := 2) C dL_moveTab_19 (by decide) ?_
      exact g_xiret (pc := 20) C hr dL_moveTab_20 (Nat.le_of_ble_eq_true rfl) (Nat.le_of_ble_eq_true rfl) (fun t hP hF => ⟨⟨_, (), rfl, rfl, hP⟩, hF⟩)
    refine gx_ite (fun he => ?_) (fun _ => ?_)
    · subst he
      refine gx_catch (pc := 5) (tgt := 21) (ct := 13) (name := "java/lang/IllegalArgumentException") C [(⟨0, 10, 13, 21⟩ : ExceptionTableEntry), (⟨0, 10, 17, 15⟩ : ExceptionTableEntry)] (⟨0, 10, 21, 13⟩ : ExceptionTableEntry) [] (by rw [hex]; rfl) (fun z hz => by
        simp only [List.mem_cons, List.not_mem_nil, or_false] at hz
        rcases hz with rfl | rfl
        · exact Or.inr ⟨by decide, "java/lang/IndexOutOfBoundsException", q_11_2, List.mem_of_getElem? (i := 2) rfl⟩
        · exact Or.inr ⟨by decide, "java/lang/IllegalStateException", q_6_21, List.mem_of_getElem? (i := 3) rfl⟩) (by decide) rfl (by decide) rfl q_6_20 rfl (List.mem_of_getElem? (i := 1) rfl) (fun q => ?_)
      refine g_astore (pc := 21) C dL_moveTab_21 (Nat.le_of_ble_eq_true rfl) rfl ?_
      refine g_iconst (pc := 23) (v := 3) C dL_moveTab_23 (by decide) ?_
      exact g_xiret (pc := 24) C hr dL_moveTab_24 (Nat.le_of_ble_eq_true rfl) (Nat.le_of_ble_eq_true rfl) (fun t hP hF => ⟨⟨_, (), rfl, rfl, hP⟩, hF⟩)
    exact gx_none
  refine g_i2l (pc := 8) C dL_moveTab_8 ?_
  refine g_lastore (pc := 9) C h3 dL_moveTab_9 ?_
  refine g_nms (fun σ4 => ?_)
  refine g_goto (pc := 10) (tgt := 25) C dL_moveTab_10 rfl ?_
  refine g_iconst (pc := 25) (v := 0) C dL_moveTab_25 (by decide) ?_
  exact g_xiret (pc := 26) C hr dL_moveTab_26 (Nat.le_of_ble_eq_true rfl) (Nat.le_of_ble_eq_true rfl) (fun t hP hF => ⟨⟨_, (), rfl, rfl, hP⟩, hF⟩)
theorem dL_drag_0 : decode cL_drag 0 = .ok (.aload 4, 2) := by decide +kernel
theorem dL_drag_2 : decode cL_drag 2 = .ok (.iconst 0, 1) := by decide +kernel
theorem dL_drag_3 : decode cL_drag 3 = .ok (.aload_n 0, 1) := by decide +kernel
theorem dL_drag_4 : decode cL_drag 4 = .ok (.iload_n 1, 1) := by decide +kernel
theorem dL_drag_5 : decode cL_drag 5 = .ok (.iload_n 2, 1) := by decide +kernel
theorem dL_drag_6 : decode cL_drag 6 = .ok (.iload_n 3, 1) := by decide +kernel
theorem dL_drag_7 : decode cL_drag 7 = .ok (.invokevirtual 71, 3) := by decide +kernel
theorem dL_drag_10 : decode cL_drag 10 = .ok (.i2l, 1) := by decide +kernel
theorem dL_drag_11 : decode cL_drag 11 = .ok (.lastore, 1) := by decide +kernel
theorem dL_drag_12 : decode cL_drag 12 = .ok (.goto 15, 3) := by decide +kernel
theorem dL_drag_15 : decode cL_drag 15 = .ok (.astore 5, 2) := by decide +kernel
theorem dL_drag_17 : decode cL_drag 17 = .ok (.iconst 1, 1) := by decide +kernel
theorem dL_drag_18 : decode cL_drag 18 = .ok (.ireturn, 1) := by decide +kernel
theorem dL_drag_19 : decode cL_drag 19 = .ok (.astore 5, 2) := by decide +kernel
theorem dL_drag_21 : decode cL_drag 21 = .ok (.iconst 2, 1) := by decide +kernel
theorem dL_drag_22 : decode cL_drag 22 = .ok (.ireturn, 1) := by decide +kernel
theorem dL_drag_23 : decode cL_drag 23 = .ok (.astore 5, 2) := by decide +kernel
theorem dL_drag_25 : decode cL_drag 25 = .ok (.iconst 3, 1) := by decide +kernel
theorem dL_drag_26 : decode cL_drag 26 = .ok (.ireturn, 1) := by decide +kernel
theorem dL_drag_27 : decode cL_drag 27 = .ok (.iconst 0, 1) := by decide +kernel
theorem dL_drag_28 : decode cL_drag 28 = .ok (.ireturn, 1) := by decide +kernel
abbrev rmL_drag : Room := { frames := 9, cells := 4, slots := 24, locals := 243 }
theorem hdL_drag : yL_drag.cls ≠ "java/lang/invoke/MethodHandle" ∧ yL_drag.cls ≠ "java/lang/invoke/VarHandle" ∧ (parseMethodDescriptor yL_drag.desc).map (fun d => d.parameters.length) = some 5 := by decide +kernel
def fL_drag (σ : Sg) (p1 : Int32) (p2 : Int32) (p3 : Int32) (c4 : Nat) (n4 : Nat) : Option (Int32 × Sg) :=
  (fX8_drag σ p1 p2 p3).bind fun r1 => xcat r1.1 (fun e3 =>
    if e3 = 0 then
      some (1, r1.2)
    else if e3 = 1 then
      some (2, r1.2)
    else if e3 = 2 then
      some (3, r1.2)
    else 
      none) fun w2 =>
  if ck 0 n4 then
    nm (sul r1.2 c4 (0 : Int32).toNatClampNeg w2.toInt64) fun σ4 =>
    some (0, σ4)
  else none
theorem kL_drag (X : Xc) (σ : Sg) (p1 : Int32) (p2 : Int32) (p3 : Int32) (c4 : Nat) (n4 : Nat) (h4 : SHP[c4]? = some (2, [n4])) (hfl : X.l.stackTraces = false) : ∀ r, fL_drag σ p1 p2 p3 c4 n4 = some r → vx_Met X.l yL_drag (wsMH yL_drag cL_drag 6 (some .int) [(0, 12, 15, 21), (0, 12, 19, 13), (0, 12, 23, 15)]) rmL_drag (va_Pc [.ref (X.ad 0), .int p1, .int p2, .int p3, .ref (X.ad c4)] (PW X σ)) (CXi X (.inl r.1) r.2) (CXx X (.inl r.1 : Int32 ⊕ Nat) r.2) 4 24 X.A := by
  refine xt_ofH (own := RL) (lo := [some (.ref (X.ad 0)), some (.int (p1)), some (.int (p2)), some (.int (p3)), some (.ref (X.ad c4)), none]) (by decide) rfl (Nat.le_of_ble_eq_true rfl) rfl (fun K C hr hex => ?_)
  unfold fL_drag
  refine g_aload (pc := 0) C dL_drag_0 rfl ?_
  refine g_iconst (pc := 2) (v := 0) C dL_drag_2 (by decide) ?_
  refine g_aload_n (pc := 3) (i := 0) C dL_drag_3 rfl rfl ?_
  refine g_iload_n (pc := 4) (i := 1) C dL_drag_4 rfl rfl ?_
  refine g_iload_n (pc := 5) (i := 2) C dL_drag_5 rfl rfl ?_
  refine g_iload_n (pc := 6) (i := 3) C dL_drag_6 rfl rfl ?_
  refine g_xcallVi (pc := 7) (As := [.int (p1), .int (p2), .int (p3)]) C (kX8_drag X σ p1 p2 p3 hfl) ok_dl rfl q_40_5 q_40_6 q_40_7 q_1_2 q_40_8 ⟨rfl, hdX8_drag⟩ ⟨Nat.le_of_ble_eq_true rfl, Nat.le_of_ble_eq_true rfl, rfl, rfl, Nat.le_of_ble_eq_true rfl, Nat.le_of_ble_eq_true rfl⟩ (Nat.le_of_ble_eq_true rfl) rfl rfl dL_drag_7 (fun r1 e3 _ _ => ?_) (fun r1 w2 _ _ => ?_)
  · refine gx_ite (fun he => ?_) (fun _ => ?_)
    · subst he
      refine gx_catch (pc := 7) (tgt := 15) (ct := 21) (name := "java/lang/IndexOutOfBoundsException") C [] (⟨0, 12, 15, 21⟩ : ExceptionTableEntry) [(⟨0, 12, 19, 13⟩ : ExceptionTableEntry), (⟨0, 12, 23, 15⟩ : ExceptionTableEntry)] (by rw [hex]; rfl) (fun z hz => by cases hz) (by decide) rfl (by decide) rfl q_11_2 rfl (List.mem_of_getElem? (i := 0) rfl) (fun q => ?_)
      refine g_astore (pc := 15) C dL_drag_15 (Nat.le_of_ble_eq_true rfl) rfl ?_
      refine g_iconst (pc := 17) (v := 1) C dL_drag_17 (by decide) ?_
      exact g_xiret (pc := 18) C hr dL_drag_18 (Nat.le_of_ble_eq_true rfl) (Nat.le_of_ble_eq_true rfl) (fun t hP hF => ⟨⟨_, (), rfl, rfl, hP⟩, hF⟩)
    refine gx_ite (fun he => ?_) (fun _ => ?_)
    · subst he
      refine gx_catch (pc := 7) (tgt := 19) (ct := 13) (name := "java/lang/IllegalArgumentException") C [(⟨0, 12, 15, 21⟩ : ExceptionTableEntry)] (⟨0, 12, 19, 13⟩ : ExceptionTableEntry) [(⟨0, 12, 23, 15⟩ : ExceptionTableEntry)] (by rw [hex]; rfl) (fun z hz => by
        simp only [List.mem_cons, List.not_mem_nil, or_false] at hz
        rcases hz with rfl
        · exact Or.inr ⟨by decide, "java/lang/IndexOutOfBoundsException", q_11_2, List.mem_of_getElem? (i := 2) rfl⟩) (by decide) rfl (by decide) rfl q_6_20 rfl (List.mem_of_getElem? (i := 1) rfl) (fun q => ?_)
      refine g_astore (pc := 19) C dL_drag_19 (Nat.le_of_ble_eq_true rfl) rfl ?_
      refine g_iconst (pc := 21) (v := 2) C dL_drag_21 (by decide) ?_
      exact g_xiret (pc := 22) C hr dL_drag_22 (Nat.le_of_ble_eq_true rfl) (Nat.le_of_ble_eq_true rfl) (fun t hP hF => ⟨⟨_, (), rfl, rfl, hP⟩, hF⟩)
    refine gx_ite (fun he => ?_) (fun _ => ?_)
    · subst he
      refine gx_catch (pc := 7) (tgt := 23) (ct := 15) (name := "java/lang/IllegalStateException") C [(⟨0, 12, 15, 21⟩ : ExceptionTableEntry), (⟨0, 12, 19, 13⟩ : ExceptionTableEntry)] (⟨0, 12, 23, 15⟩ : ExceptionTableEntry) [] (by rw [hex]; rfl) (fun z hz => by
        simp only [List.mem_cons, List.not_mem_nil, or_false] at hz
        rcases hz with rfl | rfl
        · exact Or.inr ⟨by decide, "java/lang/IndexOutOfBoundsException", q_11_2, List.mem_of_getElem? (i := 4) rfl⟩
        · exact Or.inr ⟨by decide, "java/lang/IllegalArgumentException", q_6_20, List.mem_of_getElem? (i := 5) rfl⟩) (by decide) rfl (by decide) rfl q_6_21 rfl (List.mem_of_getElem? (i := 2) rfl) (fun q => ?_)
      refine g_astore (pc := 23) C dL_drag_23 (Nat.le_of_ble_eq_true rfl) rfl ?_
      refine g_iconst (pc := 25) (v := 3) C dL_drag_25 (by decide) ?_
      exact g_xiret (pc := 26) C hr dL_drag_26 (Nat.le_of_ble_eq_true rfl) (Nat.le_of_ble_eq_true rfl) (fun t hP hF => ⟨⟨_, (), rfl, rfl, hP⟩, hF⟩)
    exact gx_none
  refine g_i2l (pc := 10) C dL_drag_10 ?_
  refine g_lastore (pc := 11) C h4 dL_drag_11 ?_
  refine g_nms (fun σ4 => ?_)
  refine g_goto (pc := 12) (tgt := 27) C dL_drag_12 rfl ?_
  refine g_iconst (pc := 27) (v := 0) C dL_drag_27 (by decide) ?_
  exact g_xiret (pc := 28) C hr dL_drag_28 (Nat.le_of_ble_eq_true rfl) (Nat.le_of_ble_eq_true rfl) (fun t hP hF => ⟨⟨_, (), rfl, rfl, hP⟩, hF⟩)
theorem dL_even_0 : decode cL_even 0 = .ok (.aload_n 2, 1) := by decide +kernel
theorem dL_even_1 : decode cL_even 1 = .ok (.iconst 0, 1) := by decide +kernel
theorem dL_even_2 : decode cL_even 2 = .ok (.aload_n 0, 1) := by decide +kernel
theorem dL_even_3 : decode cL_even 3 = .ok (.iload_n 1, 1) := by decide +kernel
theorem dL_even_4 : decode cL_even 4 = .ok (.invokevirtual 74, 3) := by decide +kernel
theorem dL_even_7 : decode cL_even 7 = .ok (.i2l, 1) := by decide +kernel
theorem dL_even_8 : decode cL_even 8 = .ok (.lastore, 1) := by decide +kernel
theorem dL_even_9 : decode cL_even 9 = .ok (.goto 9, 3) := by decide +kernel
theorem dL_even_12 : decode cL_even 12 = .ok (.astore_n 3, 1) := by decide +kernel
theorem dL_even_13 : decode cL_even 13 = .ok (.iconst 1, 1) := by decide +kernel
theorem dL_even_14 : decode cL_even 14 = .ok (.ireturn, 1) := by decide +kernel
theorem dL_even_15 : decode cL_even 15 = .ok (.astore_n 3, 1) := by decide +kernel
theorem dL_even_16 : decode cL_even 16 = .ok (.iconst 2, 1) := by decide +kernel
theorem dL_even_17 : decode cL_even 17 = .ok (.ireturn, 1) := by decide +kernel
theorem dL_even_18 : decode cL_even 18 = .ok (.iconst 0, 1) := by decide +kernel
theorem dL_even_19 : decode cL_even 19 = .ok (.ireturn, 1) := by decide +kernel
abbrev rmL_even : Room := { frames := 9, cells := 2, slots := 12, locals := 238 }
theorem hdL_even : yL_even.cls ≠ "java/lang/invoke/MethodHandle" ∧ yL_even.cls ≠ "java/lang/invoke/VarHandle" ∧ (parseMethodDescriptor yL_even.desc).map (fun d => d.parameters.length) = some 3 := by decide +kernel
def fL_even (σ : Sg) (p1 : Int32) (c2 : Nat) (n2 : Nat) : Option (Int32 × Sg) :=
  (fX8_even σ p1).bind fun r1 => xcat r1.1 (fun e3 =>
    if e3 = 0 then
      some (1, r1.2)
    else if e3 = 2 then
      some (2, r1.2)
    else 
      none) fun w2 =>
  if ck 0 n2 then
    nm (sul r1.2 c2 (0 : Int32).toNatClampNeg w2.toInt64) fun σ4 =>
    some (0, σ4)
  else none
theorem kL_even (X : Xc) (σ : Sg) (p1 : Int32) (c2 : Nat) (n2 : Nat) (h2 : SHP[c2]? = some (2, [n2])) (hfl : X.l.stackTraces = false) : ∀ r, fL_even σ p1 c2 n2 = some r → vx_Met X.l yL_even (wsMH yL_even cL_even 4 (some .int) [(0, 9, 12, 21), (0, 9, 15, 15)]) rmL_even (va_Pc [.ref (X.ad 0), .int p1, .ref (X.ad c2)] (PW X σ)) (CXi X (.inl r.1) r.2) (CXx X (.inl r.1 : Int32 ⊕ Nat) r.2) 2 12 X.A := by
  refine xt_ofH (own := RL) (lo := [some (.ref (X.ad 0)), some (.int (p1)), some (.ref (X.ad c2)), none]) (by decide) rfl (Nat.le_of_ble_eq_true rfl) rfl (fun K C hr hex => ?_)
  unfold fL_even
  refine g_aload_n (pc := 0) (i := 2) C dL_even_0 rfl rfl ?_
  refine g_iconst (pc := 1) (v := 0) C dL_even_1 (by decide) ?_
  refine g_aload_n (pc := 2) (i := 0) C dL_even_2 rfl rfl ?_
  refine g_iload_n (pc := 3) (i := 1) C dL_even_3 rfl rfl ?_
  refine g_xcallVi (pc := 4) (As := [.int (p1)]) C (kX8_even X σ p1 hfl) ok_dl rfl q_42_17 q_42_18 q_42_19 q_1_2 q_42_20 ⟨rfl, hdX8_even⟩ ⟨Nat.le_of_ble_eq_true rfl, Nat.le_of_ble_eq_true rfl, rfl, rfl, Nat.le_of_ble_eq_true rfl, Nat.le_of_ble_eq_true rfl⟩ (Nat.le_of_ble_eq_true rfl) rfl rfl dL_even_4 (fun r1 e3 _ _ => ?_) (fun r1 w2 _ _ => ?_)
  · refine gx_ite (fun he => ?_) (fun _ => ?_)
    · subst he
      refine gx_catch (pc := 4) (tgt := 12) (ct := 21) (name := "java/lang/IndexOutOfBoundsException") C [] (⟨0, 9, 12, 21⟩ : ExceptionTableEntry) [(⟨0, 9, 15, 15⟩ : ExceptionTableEntry)] (by rw [hex]; rfl) (fun z hz => by cases hz) (by decide) rfl (by decide) rfl q_11_2 rfl (List.mem_of_getElem? (i := 0) rfl) (fun q => ?_)
      refine g_astore_n (pc := 12) (i := 3) C dL_even_12 rfl (Nat.le_of_ble_eq_true rfl) rfl ?_
      refine g_iconst (pc := 13) (v := 1) C dL_even_13 (by decide) ?_
      exact g_xiret (pc := 14) C hr dL_even_14 (Nat.le_of_ble_eq_true rfl) (Nat.le_of_ble_eq_true rfl) (fun t hP hF => ⟨⟨_, (), rfl, rfl, hP⟩, hF⟩)
    refine gx_ite (fun he => ?_) (fun _ => ?_)
    · subst he
      refine gx_catch (pc := 4) (tgt := 15) (ct := 15) (name := "java/lang/IllegalStateException") C [(⟨0, 9, 12, 21⟩ : ExceptionTableEntry)] (⟨0, 9, 15, 15⟩ : ExceptionTableEntry) [] (by rw [hex]; rfl) (fun z hz => by
        simp only [List.mem_cons, List.not_mem_nil, or_false] at hz
        rcases hz with rfl
        · exact Or.inr ⟨by decide, "java/lang/IndexOutOfBoundsException", q_11_2, List.mem_of_getElem? (i := 4) rfl⟩) (by decide) rfl (by decide) rfl q_6_21 rfl (List.mem_of_getElem? (i := 2) rfl) (fun q => ?_)
      refine g_astore_n (pc := 15) (i := 3) C dL_even_15 rfl (Nat.le_of_ble_eq_true rfl) rfl ?_
      refine g_iconst (pc := 16) (v := 2) C dL_even_16 (by decide) ?_
      exact g_xiret (pc := 17) C hr dL_even_17 (Nat.le_of_ble_eq_true rfl) (Nat.le_of_ble_eq_true rfl) (fun t hP hF => ⟨⟨_, (), rfl, rfl, hP⟩, hF⟩)
    exact gx_none
  refine g_i2l (pc := 7) C dL_even_7 ?_
  refine g_lastore (pc := 8) C h2 dL_even_8 ?_
  refine g_nms (fun σ4 => ?_)
  refine g_goto (pc := 9) (tgt := 18) C dL_even_9 rfl ?_
  refine g_iconst (pc := 18) (v := 0) C dL_even_18 (by decide) ?_
  exact g_xiret (pc := 19) C hr dL_even_19 (Nat.le_of_ble_eq_true rfl) (Nat.le_of_ble_eq_true rfl) (fun t hP hF => ⟨⟨_, (), rfl, rfl, hP⟩, hF⟩)
theorem dL_store_0 : decode cL_store 0 = .ok (.aload_n 2, 1) := by decide +kernel
theorem dL_store_1 : decode cL_store 1 = .ok (.iconst 0, 1) := by decide +kernel
theorem dL_store_2 : decode cL_store 2 = .ok (.aload_n 0, 1) := by decide +kernel
theorem dL_store_3 : decode cL_store 3 = .ok (.iload_n 1, 1) := by decide +kernel
theorem dL_store_4 : decode cL_store 4 = .ok (.invokevirtual 77, 3) := by decide +kernel
theorem dL_store_7 : decode cL_store 7 = .ok (.i2l, 1) := by decide +kernel
theorem dL_store_8 : decode cL_store 8 = .ok (.lastore, 1) := by decide +kernel
theorem dL_store_9 : decode cL_store 9 = .ok (.goto 6, 3) := by decide +kernel
theorem dL_store_12 : decode cL_store 12 = .ok (.astore_n 3, 1) := by decide +kernel
theorem dL_store_13 : decode cL_store 13 = .ok (.iconst 1, 1) := by decide +kernel
theorem dL_store_14 : decode cL_store 14 = .ok (.ireturn, 1) := by decide +kernel
theorem dL_store_15 : decode cL_store 15 = .ok (.iconst 0, 1) := by decide +kernel
theorem dL_store_16 : decode cL_store 16 = .ok (.ireturn, 1) := by decide +kernel
abbrev rmL_store : Room := { frames := 9, cells := 1, slots := 6, locals := 216 }
theorem hdL_store : yL_store.cls ≠ "java/lang/invoke/MethodHandle" ∧ yL_store.cls ≠ "java/lang/invoke/VarHandle" ∧ (parseMethodDescriptor yL_store.desc).map (fun d => d.parameters.length) = some 3 := by decide +kernel
def fL_store (σ : Sg) (p1 : Int32) (c2 : Nat) (n2 : Nat) : Option (Int32 × Sg) :=
  (fX8_store σ p1).bind fun r1 => xcat r1.1 (fun e3 =>
    if e3 = 0 then
      some (1, r1.2)
    else 
      none) fun w2 =>
  if ck 0 n2 then
    nm (sul r1.2 c2 (0 : Int32).toNatClampNeg w2.toInt64) fun σ4 =>
    some (0, σ4)
  else none
theorem kL_store (X : Xc) (σ : Sg) (p1 : Int32) (c2 : Nat) (n2 : Nat) (h2 : SHP[c2]? = some (2, [n2])) (hfl : X.l.stackTraces = false) : ∀ r, fL_store σ p1 c2 n2 = some r → vx_Met X.l yL_store (wsMH yL_store cL_store 4 (some .int) [(0, 9, 12, 21)]) rmL_store (va_Pc [.ref (X.ad 0), .int p1, .ref (X.ad c2)] (PW X σ)) (CXi X (.inl r.1) r.2) (CXx X (.inl r.1 : Int32 ⊕ Nat) r.2) 1 6 X.A := by
  refine xt_ofH (own := RL) (lo := [some (.ref (X.ad 0)), some (.int (p1)), some (.ref (X.ad c2)), none]) (by decide) rfl (Nat.le_of_ble_eq_true rfl) rfl (fun K C hr hex => ?_)
  unfold fL_store
  refine g_aload_n (pc := 0) (i := 2) C dL_store_0 rfl rfl ?_
  refine g_iconst (pc := 1) (v := 0) C dL_store_1 (by decide) ?_
  refine g_aload_n (pc := 2) (i := 0) C dL_store_2 rfl rfl ?_
  refine g_iload_n (pc := 3) (i := 1) C dL_store_3 rfl rfl ?_
  refine g_xcallVi (pc := 4) (As := [.int (p1)]) C (kX8_store X σ p1 hfl) ok_dl rfl q_46_16 q_46_17 q_46_18 q_1_2 q_46_19 ⟨rfl, hdX8_store⟩ ⟨Nat.le_of_ble_eq_true rfl, Nat.le_of_ble_eq_true rfl, rfl, rfl, Nat.le_of_ble_eq_true rfl, Nat.le_of_ble_eq_true rfl⟩ (Nat.le_of_ble_eq_true rfl) rfl rfl dL_store_4 (fun r1 e3 _ _ => ?_) (fun r1 w2 _ _ => ?_)
  · refine gx_ite (fun he => ?_) (fun _ => ?_)
    · subst he
      refine gx_catch (pc := 4) (tgt := 12) (ct := 21) (name := "java/lang/IndexOutOfBoundsException") C [] (⟨0, 9, 12, 21⟩ : ExceptionTableEntry) [] (by rw [hex]; rfl) (fun z hz => by cases hz) (by decide) rfl (by decide) rfl q_11_2 rfl (List.mem_of_getElem? (i := 0) rfl) (fun q => ?_)
      refine g_astore_n (pc := 12) (i := 3) C dL_store_12 rfl (Nat.le_of_ble_eq_true rfl) rfl ?_
      refine g_iconst (pc := 13) (v := 1) C dL_store_13 (by decide) ?_
      exact g_xiret (pc := 14) C hr dL_store_14 (Nat.le_of_ble_eq_true rfl) (Nat.le_of_ble_eq_true rfl) (fun t hP hF => ⟨⟨_, (), rfl, rfl, hP⟩, hF⟩)
    exact gx_none
  refine g_i2l (pc := 7) C dL_store_7 ?_
  refine g_lastore (pc := 8) C h2 dL_store_8 ?_
  refine g_nms (fun σ4 => ?_)
  refine g_goto (pc := 9) (tgt := 15) C dL_store_9 rfl ?_
  refine g_iconst (pc := 15) (v := 0) C dL_store_15 (by decide) ?_
  exact g_xiret (pc := 16) C hr dL_store_16 (Nat.le_of_ble_eq_true rfl) (Nat.le_of_ble_eq_true rfl) (fun t hP hF => ⟨⟨_, (), rfl, rfl, hP⟩, hF⟩)
theorem dL_restore_0 : decode cL_restore 0 = .ok (.aload_n 2, 1) := by decide +kernel
theorem dL_restore_1 : decode cL_restore 1 = .ok (.iconst 0, 1) := by decide +kernel
theorem dL_restore_2 : decode cL_restore 2 = .ok (.aload_n 0, 1) := by decide +kernel
theorem dL_restore_3 : decode cL_restore 3 = .ok (.iload_n 1, 1) := by decide +kernel
theorem dL_restore_4 : decode cL_restore 4 = .ok (.invokevirtual 80, 3) := by decide +kernel
theorem dL_restore_7 : decode cL_restore 7 = .ok (.i2l, 1) := by decide +kernel
theorem dL_restore_8 : decode cL_restore 8 = .ok (.lastore, 1) := by decide +kernel
theorem dL_restore_9 : decode cL_restore 9 = .ok (.goto 9, 3) := by decide +kernel
theorem dL_restore_12 : decode cL_restore 12 = .ok (.astore_n 3, 1) := by decide +kernel
theorem dL_restore_13 : decode cL_restore 13 = .ok (.iconst 1, 1) := by decide +kernel
theorem dL_restore_14 : decode cL_restore 14 = .ok (.ireturn, 1) := by decide +kernel
theorem dL_restore_15 : decode cL_restore 15 = .ok (.astore_n 3, 1) := by decide +kernel
theorem dL_restore_16 : decode cL_restore 16 = .ok (.iconst 2, 1) := by decide +kernel
theorem dL_restore_17 : decode cL_restore 17 = .ok (.ireturn, 1) := by decide +kernel
theorem dL_restore_18 : decode cL_restore 18 = .ok (.iconst 0, 1) := by decide +kernel
theorem dL_restore_19 : decode cL_restore 19 = .ok (.ireturn, 1) := by decide +kernel
abbrev rmL_restore : Room := { frames := 9, cells := 2, slots := 12, locals := 234 }
theorem hdL_restore : yL_restore.cls ≠ "java/lang/invoke/MethodHandle" ∧ yL_restore.cls ≠ "java/lang/invoke/VarHandle" ∧ (parseMethodDescriptor yL_restore.desc).map (fun d => d.parameters.length) = some 3 := by decide +kernel
def fL_restore (σ : Sg) (p1 : Int32) (c2 : Nat) (n2 : Nat) : Option (Int32 × Sg) :=
  (fX8_restore σ p1).bind fun r1 => xcat r1.1 (fun e3 =>
    if e3 = 0 then
      some (1, r1.2)
    else if e3 = 2 then
      some (2, r1.2)
    else 
      none) fun w2 =>
  if ck 0 n2 then
    nm (sul r1.2 c2 (0 : Int32).toNatClampNeg w2.toInt64) fun σ4 =>
    some (0, σ4)
  else none
theorem kL_restore (X : Xc) (σ : Sg) (p1 : Int32) (c2 : Nat) (n2 : Nat) (h2 : SHP[c2]? = some (2, [n2])) (hfl : X.l.stackTraces = false) : ∀ r, fL_restore σ p1 c2 n2 = some r → vx_Met X.l yL_restore (wsMH yL_restore cL_restore 4 (some .int) [(0, 9, 12, 21), (0, 9, 15, 15)]) rmL_restore (va_Pc [.ref (X.ad 0), .int p1, .ref (X.ad c2)] (PW X σ)) (CXi X (.inl r.1) r.2) (CXx X (.inl r.1 : Int32 ⊕ Nat) r.2) 2 12 X.A := by
  refine xt_ofH (own := RL) (lo := [some (.ref (X.ad 0)), some (.int (p1)), some (.ref (X.ad c2)), none]) (by decide) rfl (Nat.le_of_ble_eq_true rfl) rfl (fun K C hr hex => ?_)
  unfold fL_restore
  refine g_aload_n (pc := 0) (i := 2) C dL_restore_0 rfl rfl ?_
  refine g_iconst (pc := 1) (v := 0) C dL_restore_1 (by decide) ?_
  refine g_aload_n (pc := 2) (i := 0) C dL_restore_2 rfl rfl ?_
  refine g_iload_n (pc := 3) (i := 1) C dL_restore_3 rfl rfl ?_
  refine g_xcallVi (pc := 4) (As := [.int (p1)]) C (kX8_restore X σ p1 hfl) ok_dl rfl q_47_10 q_47_11 q_47_12 q_1_2 q_47_13 ⟨rfl, hdX8_restore⟩ ⟨Nat.le_of_ble_eq_true rfl, Nat.le_of_ble_eq_true rfl, rfl, rfl, Nat.le_of_ble_eq_true rfl, Nat.le_of_ble_eq_true rfl⟩ (Nat.le_of_ble_eq_true rfl) rfl rfl dL_restore_4 (fun r1 e3 _ _ => ?_) (fun r1 w2 _ _ => ?_)
  · refine gx_ite (fun he => ?_) (fun _ => ?_)
    · subst he
      refine gx_catch (pc := 4) (tgt := 12) (ct := 21) (name := "java/lang/IndexOutOfBoundsException") C [] (⟨0, 9, 12, 21⟩ : ExceptionTableEntry) [(⟨0, 9, 15, 15⟩ : ExceptionTableEntry)] (by rw [hex]; rfl) (fun z hz => by cases hz) (by decide) rfl (by decide) rfl q_11_2 rfl (List.mem_of_getElem? (i := 0) rfl) (fun q => ?_)
      refine g_astore_n (pc := 12) (i := 3) C dL_restore_12 rfl (Nat.le_of_ble_eq_true rfl) rfl ?_
      refine g_iconst (pc := 13) (v := 1) C dL_restore_13 (by decide) ?_
      exact g_xiret (pc := 14) C hr dL_restore_14 (Nat.le_of_ble_eq_true rfl) (Nat.le_of_ble_eq_true rfl) (fun t hP hF => ⟨⟨_, (), rfl, rfl, hP⟩, hF⟩)
    refine gx_ite (fun he => ?_) (fun _ => ?_)
    · subst he
      refine gx_catch (pc := 4) (tgt := 15) (ct := 15) (name := "java/lang/IllegalStateException") C [(⟨0, 9, 12, 21⟩ : ExceptionTableEntry)] (⟨0, 9, 15, 15⟩ : ExceptionTableEntry) [] (by rw [hex]; rfl) (fun z hz => by
        simp only [List.mem_cons, List.not_mem_nil, or_false] at hz
        rcases hz with rfl
        · exact Or.inr ⟨by decide, "java/lang/IndexOutOfBoundsException", q_11_2, List.mem_of_getElem? (i := 4) rfl⟩) (by decide) rfl (by decide) rfl q_6_21 rfl (List.mem_of_getElem? (i := 2) rfl) (fun q => ?_)
      refine g_astore_n (pc := 15) (i := 3) C dL_restore_15 rfl (Nat.le_of_ble_eq_true rfl) rfl ?_
      refine g_iconst (pc := 16) (v := 2) C dL_restore_16 (by decide) ?_
      exact g_xiret (pc := 17) C hr dL_restore_17 (Nat.le_of_ble_eq_true rfl) (Nat.le_of_ble_eq_true rfl) (fun t hP hF => ⟨⟨_, (), rfl, rfl, hP⟩, hF⟩)
    exact gx_none
  refine g_i2l (pc := 7) C dL_restore_7 ?_
  refine g_lastore (pc := 8) C h2 dL_restore_8 ?_
  refine g_nms (fun σ4 => ?_)
  refine g_goto (pc := 9) (tgt := 18) C dL_restore_9 rfl ?_
  refine g_iconst (pc := 18) (v := 0) C dL_restore_18 (by decide) ?_
  exact g_xiret (pc := 19) C hr dL_restore_19 (Nat.le_of_ble_eq_true rfl) (Nat.le_of_ble_eq_true rfl) (fun t hP hF => ⟨⟨_, (), rfl, rfl, hP⟩, hF⟩)
theorem dL_type_0 : decode cL_type 0 = .ok (.aload_n 2, 1) := by decide +kernel
theorem dL_type_1 : decode cL_type 1 = .ok (.iconst 0, 1) := by decide +kernel
theorem dL_type_2 : decode cL_type 2 = .ok (.aload_n 0, 1) := by decide +kernel
theorem dL_type_3 : decode cL_type 3 = .ok (.iload_n 1, 1) := by decide +kernel
theorem dL_type_4 : decode cL_type 4 = .ok (.invokevirtual 83, 3) := by decide +kernel
theorem dL_type_7 : decode cL_type 7 = .ok (.i2l, 1) := by decide +kernel
theorem dL_type_8 : decode cL_type 8 = .ok (.lastore, 1) := by decide +kernel
theorem dL_type_9 : decode cL_type 9 = .ok (.goto 9, 3) := by decide +kernel
theorem dL_type_12 : decode cL_type 12 = .ok (.astore_n 3, 1) := by decide +kernel
theorem dL_type_13 : decode cL_type 13 = .ok (.iconst 1, 1) := by decide +kernel
theorem dL_type_14 : decode cL_type 14 = .ok (.ireturn, 1) := by decide +kernel
theorem dL_type_15 : decode cL_type 15 = .ok (.astore_n 3, 1) := by decide +kernel
theorem dL_type_16 : decode cL_type 16 = .ok (.iconst 2, 1) := by decide +kernel
theorem dL_type_17 : decode cL_type 17 = .ok (.ireturn, 1) := by decide +kernel
theorem dL_type_18 : decode cL_type 18 = .ok (.iconst 0, 1) := by decide +kernel
theorem dL_type_19 : decode cL_type 19 = .ok (.ireturn, 1) := by decide +kernel
abbrev rmL_type : Room := { frames := 9, cells := 2, slots := 12, locals := 153 }
theorem hdL_type : yL_type.cls ≠ "java/lang/invoke/MethodHandle" ∧ yL_type.cls ≠ "java/lang/invoke/VarHandle" ∧ (parseMethodDescriptor yL_type.desc).map (fun d => d.parameters.length) = some 3 := by decide +kernel
def fL_type (σ : Sg) (p1 : Int32) (c2 : Nat) (n2 : Nat) : Option (Int32 × Sg) :=
  (fX8_type σ p1).bind fun r1 => xcat r1.1 (fun e3 =>
    if e3 = 1 then
      some (1, r1.2)
    else if e3 = 2 then
      some (2, r1.2)
    else 
      none) fun w2 =>
  if ck 0 n2 then
    nm (sul r1.2 c2 (0 : Int32).toNatClampNeg w2.toInt64) fun σ4 =>
    some (0, σ4)
  else none
theorem kL_type (X : Xc) (σ : Sg) (p1 : Int32) (c2 : Nat) (n2 : Nat) (h2 : SHP[c2]? = some (2, [n2])) (hfl : X.l.stackTraces = false) : ∀ r, fL_type σ p1 c2 n2 = some r → vx_Met X.l yL_type (wsMH yL_type cL_type 4 (some .int) [(0, 9, 12, 13), (0, 9, 15, 15)]) rmL_type (va_Pc [.ref (X.ad 0), .int p1, .ref (X.ad c2)] (PW X σ)) (CXi X (.inl r.1) r.2) (CXx X (.inl r.1 : Int32 ⊕ Nat) r.2) 2 12 X.A := by
  refine xt_ofH (own := RL) (lo := [some (.ref (X.ad 0)), some (.int (p1)), some (.ref (X.ad c2)), none]) (by decide) rfl (Nat.le_of_ble_eq_true rfl) rfl (fun K C hr hex => ?_)
  unfold fL_type
  refine g_aload_n (pc := 0) (i := 2) C dL_type_0 rfl rfl ?_
  refine g_iconst (pc := 1) (v := 0) C dL_type_1 (by decide) ?_
  refine g_aload_n (pc := 2) (i := 0) C dL_type_2 rfl rfl ?_
  refine g_iload_n (pc := 3) (i := 1) C dL_type_3 rfl rfl ?_
  refine g_xcallVi (pc := 4) (As := [.int (p1)]) C (kX8_type X σ p1 hfl) ok_dl rfl q_48_19 q_48_20 q_48_21 q_1_2 q_48_22 ⟨rfl, hdX8_type⟩ ⟨Nat.le_of_ble_eq_true rfl, Nat.le_of_ble_eq_true rfl, rfl, rfl, Nat.le_of_ble_eq_true rfl, Nat.le_of_ble_eq_true rfl⟩ (Nat.le_of_ble_eq_true rfl) rfl rfl dL_type_4 (fun r1 e3 _ _ => ?_) (fun r1 w2 _ _ => ?_)
  · refine gx_ite (fun he => ?_) (fun _ => ?_)
    · subst he
      refine gx_catch (pc := 4) (tgt := 12) (ct := 13) (name := "java/lang/IllegalArgumentException") C [] (⟨0, 9, 12, 13⟩ : ExceptionTableEntry) [(⟨0, 9, 15, 15⟩ : ExceptionTableEntry)] (by rw [hex]; rfl) (fun z hz => by cases hz) (by decide) rfl (by decide) rfl q_6_20 rfl (List.mem_of_getElem? (i := 1) rfl) (fun q => ?_)
      refine g_astore_n (pc := 12) (i := 3) C dL_type_12 rfl (Nat.le_of_ble_eq_true rfl) rfl ?_
      refine g_iconst (pc := 13) (v := 1) C dL_type_13 (by decide) ?_
      exact g_xiret (pc := 14) C hr dL_type_14 (Nat.le_of_ble_eq_true rfl) (Nat.le_of_ble_eq_true rfl) (fun t hP hF => ⟨⟨_, (), rfl, rfl, hP⟩, hF⟩)
    refine gx_ite (fun he => ?_) (fun _ => ?_)
    · subst he
      refine gx_catch (pc := 4) (tgt := 15) (ct := 15) (name := "java/lang/IllegalStateException") C [(⟨0, 9, 12, 13⟩ : ExceptionTableEntry)] (⟨0, 9, 15, 15⟩ : ExceptionTableEntry) [] (by rw [hex]; rfl) (fun z hz => by
        simp only [List.mem_cons, List.not_mem_nil, or_false] at hz
        rcases hz with rfl
        · exact Or.inr ⟨by decide, "java/lang/IllegalArgumentException", q_6_20, List.mem_of_getElem? (i := 5) rfl⟩) (by decide) rfl (by decide) rfl q_6_21 rfl (List.mem_of_getElem? (i := 2) rfl) (fun q => ?_)
      refine g_astore_n (pc := 15) (i := 3) C dL_type_15 rfl (Nat.le_of_ble_eq_true rfl) rfl ?_
      refine g_iconst (pc := 16) (v := 2) C dL_type_16 (by decide) ?_
      exact g_xiret (pc := 17) C hr dL_type_17 (Nat.le_of_ble_eq_true rfl) (Nat.le_of_ble_eq_true rfl) (fun t hP hF => ⟨⟨_, (), rfl, rfl, hP⟩, hF⟩)
    exact gx_none
  refine g_i2l (pc := 7) C dL_type_7 ?_
  refine g_lastore (pc := 8) C h2 dL_type_8 ?_
  refine g_nms (fun σ4 => ?_)
  refine g_goto (pc := 9) (tgt := 18) C dL_type_9 rfl ?_
  refine g_iconst (pc := 18) (v := 0) C dL_type_18 (by decide) ?_
  exact g_xiret (pc := 19) C hr dL_type_19 (Nat.le_of_ble_eq_true rfl) (Nat.le_of_ble_eq_true rfl) (fun t hP hF => ⟨⟨_, (), rfl, rfl, hP⟩, hF⟩)
theorem dL_read_0 : decode cL_read 0 = .ok (.aload_n 1, 1) := by decide +kernel
theorem dL_read_1 : decode cL_read 1 = .ok (.iconst 0, 1) := by decide +kernel
theorem dL_read_2 : decode cL_read 2 = .ok (.aload_n 0, 1) := by decide +kernel
theorem dL_read_3 : decode cL_read 3 = .ok (.invokevirtual 86, 3) := by decide +kernel
theorem dL_read_6 : decode cL_read 6 = .ok (.i2l, 1) := by decide +kernel
theorem dL_read_7 : decode cL_read 7 = .ok (.lastore, 1) := by decide +kernel
theorem dL_read_8 : decode cL_read 8 = .ok (.goto 6, 3) := by decide +kernel
theorem dL_read_11 : decode cL_read 11 = .ok (.astore_n 2, 1) := by decide +kernel
theorem dL_read_12 : decode cL_read 12 = .ok (.iconst 1, 1) := by decide +kernel
theorem dL_read_13 : decode cL_read 13 = .ok (.ireturn, 1) := by decide +kernel
theorem dL_read_14 : decode cL_read 14 = .ok (.iconst 0, 1) := by decide +kernel
theorem dL_read_15 : decode cL_read 15 = .ok (.ireturn, 1) := by decide +kernel
abbrev rmL_read : Room := { frames := 283, cells := 1, slots := 6, locals := 6328 }
theorem hdL_read : yL_read.cls ≠ "java/lang/invoke/MethodHandle" ∧ yL_read.cls ≠ "java/lang/invoke/VarHandle" ∧ (parseMethodDescriptor yL_read.desc).map (fun d => d.parameters.length) = some 2 := by decide +kernel
def fL_read (σ : Sg) (c1 : Nat) (n1 : Nat) : Option (Int32 × Sg) :=
  (fX8_read σ).bind fun r1 => xcat r1.1 (fun e3 =>
    if e3 = 1 then
      some (1, r1.2)
    else 
      none) fun w2 =>
  if ck 0 n1 then
    nm (sul r1.2 c1 (0 : Int32).toNatClampNeg w2.toInt64) fun σ4 =>
    some (0, σ4)
  else none
theorem kL_read (X : Xc) (σ : Sg) (c1 : Nat) (n1 : Nat) (h1 : SHP[c1]? = some (2, [n1])) (hfl : X.l.stackTraces = false) : ∀ r, fL_read σ c1 n1 = some r → vx_Met X.l yL_read (wsMH yL_read cL_read 3 (some .int) [(0, 8, 11, 13)]) rmL_read (va_Pc [.ref (X.ad 0), .ref (X.ad c1)] (PW X σ)) (CXi X (.inl r.1) r.2) (CXx X (.inl r.1 : Int32 ⊕ Nat) r.2) 1 6 X.A := by
  refine xt_ofH (own := RL) (lo := [some (.ref (X.ad 0)), some (.ref (X.ad c1)), none]) (by decide) rfl (Nat.le_of_ble_eq_true rfl) rfl (fun K C hr hex => ?_)
  unfold fL_read
  refine g_aload_n (pc := 0) (i := 1) C dL_read_0 rfl rfl ?_
  refine g_iconst (pc := 1) (v := 0) C dL_read_1 (by decide) ?_
  refine g_aload_n (pc := 2) (i := 0) C dL_read_2 rfl rfl ?_
  refine g_xcallVi (pc := 3) (As := []) C (kX8_read X σ hfl) ok_dl rfl q_54_10 q_54_11 q_54_12 q_1_2 q_54_13 ⟨rfl, hdX8_read⟩ ⟨Nat.le_of_ble_eq_true rfl, Nat.le_of_ble_eq_true rfl, rfl, rfl, Nat.le_of_ble_eq_true rfl, Nat.le_of_ble_eq_true rfl⟩ (Nat.le_of_ble_eq_true rfl) rfl rfl dL_read_3 (fun r1 e3 _ _ => ?_) (fun r1 w2 _ _ => ?_)
  · refine gx_ite (fun he => ?_) (fun _ => ?_)
    · subst he
      refine gx_catch (pc := 3) (tgt := 11) (ct := 13) (name := "java/lang/IllegalArgumentException") C [] (⟨0, 8, 11, 13⟩ : ExceptionTableEntry) [] (by rw [hex]; rfl) (fun z hz => by cases hz) (by decide) rfl (by decide) rfl q_6_20 rfl (List.mem_of_getElem? (i := 1) rfl) (fun q => ?_)
      refine g_astore_n (pc := 11) (i := 2) C dL_read_11 rfl (Nat.le_of_ble_eq_true rfl) rfl ?_
      refine g_iconst (pc := 12) (v := 1) C dL_read_12 (by decide) ?_
      exact g_xiret (pc := 13) C hr dL_read_13 (Nat.le_of_ble_eq_true rfl) (Nat.le_of_ble_eq_true rfl) (fun t hP hF => ⟨⟨_, (), rfl, rfl, hP⟩, hF⟩)
    exact gx_none
  refine g_i2l (pc := 6) C dL_read_6 ?_
  refine g_lastore (pc := 7) C h1 dL_read_7 ?_
  refine g_nms (fun σ4 => ?_)
  refine g_goto (pc := 8) (tgt := 14) C dL_read_8 rfl ?_
  refine g_iconst (pc := 14) (v := 0) C dL_read_14 (by decide) ?_
  exact g_xiret (pc := 15) C hr dL_read_15 (Nat.le_of_ble_eq_true rfl) (Nat.le_of_ble_eq_true rfl) (fun t hP hF => ⟨⟨_, (), rfl, rfl, hP⟩, hF⟩)
theorem dL_write_0 : decode cL_write 0 = .ok (.aload_n 2, 1) := by decide +kernel
theorem dL_write_1 : decode cL_write 1 = .ok (.iconst 0, 1) := by decide +kernel
theorem dL_write_2 : decode cL_write 2 = .ok (.aload_n 0, 1) := by decide +kernel
theorem dL_write_3 : decode cL_write 3 = .ok (.iload_n 1, 1) := by decide +kernel
theorem dL_write_4 : decode cL_write 4 = .ok (.invokevirtual 90, 3) := by decide +kernel
theorem dL_write_7 : decode cL_write 7 = .ok (.i2l, 1) := by decide +kernel
theorem dL_write_8 : decode cL_write 8 = .ok (.lastore, 1) := by decide +kernel
theorem dL_write_9 : decode cL_write 9 = .ok (.goto 9, 3) := by decide +kernel
theorem dL_write_12 : decode cL_write 12 = .ok (.astore_n 3, 1) := by decide +kernel
theorem dL_write_13 : decode cL_write 13 = .ok (.iconst 1, 1) := by decide +kernel
theorem dL_write_14 : decode cL_write 14 = .ok (.ireturn, 1) := by decide +kernel
theorem dL_write_15 : decode cL_write 15 = .ok (.astore_n 3, 1) := by decide +kernel
theorem dL_write_16 : decode cL_write 16 = .ok (.iconst 2, 1) := by decide +kernel
theorem dL_write_17 : decode cL_write 17 = .ok (.ireturn, 1) := by decide +kernel
theorem dL_write_18 : decode cL_write 18 = .ok (.iconst 0, 1) := by decide +kernel
theorem dL_write_19 : decode cL_write 19 = .ok (.ireturn, 1) := by decide +kernel
abbrev rmL_write : Room := { frames := 283, cells := 2, slots := 12, locals := 6329 }
theorem hdL_write : yL_write.cls ≠ "java/lang/invoke/MethodHandle" ∧ yL_write.cls ≠ "java/lang/invoke/VarHandle" ∧ (parseMethodDescriptor yL_write.desc).map (fun d => d.parameters.length) = some 3 := by decide +kernel
def fL_write (σ : Sg) (p1 : Int32) (c2 : Nat) (n2 : Nat) : Option (Int32 × Sg) :=
  (fX8_write σ p1).bind fun r1 => xcat r1.1 (fun e3 =>
    if e3 = 0 then
      some (1, r1.2)
    else if e3 = 2 then
      some (2, r1.2)
    else 
      none) fun w2 =>
  if ck 0 n2 then
    nm (sul r1.2 c2 (0 : Int32).toNatClampNeg w2.toInt64) fun σ4 =>
    some (0, σ4)
  else none
theorem kL_write (X : Xc) (σ : Sg) (p1 : Int32) (c2 : Nat) (n2 : Nat) (h2 : SHP[c2]? = some (2, [n2])) (hfl : X.l.stackTraces = false) : ∀ r, fL_write σ p1 c2 n2 = some r → vx_Met X.l yL_write (wsMH yL_write cL_write 4 (some .int) [(0, 9, 12, 21), (0, 9, 15, 15)]) rmL_write (va_Pc [.ref (X.ad 0), .int p1, .ref (X.ad c2)] (PW X σ)) (CXi X (.inl r.1) r.2) (CXx X (.inl r.1 : Int32 ⊕ Nat) r.2) 2 12 X.A := by
  refine xt_ofH (own := RL) (lo := [some (.ref (X.ad 0)), some (.int (p1)), some (.ref (X.ad c2)), none]) (by decide) rfl (Nat.le_of_ble_eq_true rfl) rfl (fun K C hr hex => ?_)
  unfold fL_write
  refine g_aload_n (pc := 0) (i := 2) C dL_write_0 rfl rfl ?_
  refine g_iconst (pc := 1) (v := 0) C dL_write_1 (by decide) ?_
  refine g_aload_n (pc := 2) (i := 0) C dL_write_2 rfl rfl ?_
  refine g_iload_n (pc := 3) (i := 1) C dL_write_3 rfl rfl ?_
  refine g_xcallVi (pc := 4) (As := [.int (p1)]) C (kX8_write X σ p1 hfl) ok_dl rfl q_54_23 q_55_0 q_55_1 q_1_2 q_55_2 ⟨rfl, hdX8_write⟩ ⟨Nat.le_of_ble_eq_true rfl, Nat.le_of_ble_eq_true rfl, rfl, rfl, Nat.le_of_ble_eq_true rfl, Nat.le_of_ble_eq_true rfl⟩ (Nat.le_of_ble_eq_true rfl) rfl rfl dL_write_4 (fun r1 e3 _ _ => ?_) (fun r1 w2 _ _ => ?_)
  · refine gx_ite (fun he => ?_) (fun _ => ?_)
    · subst he
      refine gx_catch (pc := 4) (tgt := 12) (ct := 21) (name := "java/lang/IndexOutOfBoundsException") C [] (⟨0, 9, 12, 21⟩ : ExceptionTableEntry) [(⟨0, 9, 15, 15⟩ : ExceptionTableEntry)] (by rw [hex]; rfl) (fun z hz => by cases hz) (by decide) rfl (by decide) rfl q_11_2 rfl (List.mem_of_getElem? (i := 0) rfl) (fun q => ?_)
      refine g_astore_n (pc := 12) (i := 3) C dL_write_12 rfl (Nat.le_of_ble_eq_true rfl) rfl ?_
      refine g_iconst (pc := 13) (v := 1) C dL_write_13 (by decide) ?_
      exact g_xiret (pc := 14) C hr dL_write_14 (Nat.le_of_ble_eq_true rfl) (Nat.le_of_ble_eq_true rfl) (fun t hP hF => ⟨⟨_, (), rfl, rfl, hP⟩, hF⟩)
    refine gx_ite (fun he => ?_) (fun _ => ?_)
    · subst he
      refine gx_catch (pc := 4) (tgt := 15) (ct := 15) (name := "java/lang/IllegalStateException") C [(⟨0, 9, 12, 21⟩ : ExceptionTableEntry)] (⟨0, 9, 15, 15⟩ : ExceptionTableEntry) [] (by rw [hex]; rfl) (fun z hz => by
        simp only [List.mem_cons, List.not_mem_nil, or_false] at hz
        rcases hz with rfl
        · exact Or.inr ⟨by decide, "java/lang/IndexOutOfBoundsException", q_11_2, List.mem_of_getElem? (i := 4) rfl⟩) (by decide) rfl (by decide) rfl q_6_21 rfl (List.mem_of_getElem? (i := 2) rfl) (fun q => ?_)
      refine g_astore_n (pc := 15) (i := 3) C dL_write_15 rfl (Nat.le_of_ble_eq_true rfl) rfl ?_
      refine g_iconst (pc := 16) (v := 2) C dL_write_16 (by decide) ?_
      exact g_xiret (pc := 17) C hr dL_write_17 (Nat.le_of_ble_eq_true rfl) (Nat.le_of_ble_eq_true rfl) (fun t hP hF => ⟨⟨_, (), rfl, rfl, hP⟩, hF⟩)
    exact gx_none
  refine g_i2l (pc := 7) C dL_write_7 ?_
  refine g_lastore (pc := 8) C h2 dL_write_8 ?_
  refine g_nms (fun σ4 => ?_)
  refine g_goto (pc := 9) (tgt := 18) C dL_write_9 rfl ?_
  refine g_iconst (pc := 18) (v := 0) C dL_write_18 (by decide) ?_
  exact g_xiret (pc := 19) C hr dL_write_19 (Nat.le_of_ble_eq_true rfl) (Nat.le_of_ble_eq_true rfl) (fun t hP hF => ⟨⟨_, (), rfl, rfl, hP⟩, hF⟩)
theorem dL_undo_0 : decode cL_undo 0 = .ok (.aload_n 1, 1) := by decide +kernel
theorem dL_undo_1 : decode cL_undo 1 = .ok (.iconst 0, 1) := by decide +kernel
theorem dL_undo_2 : decode cL_undo 2 = .ok (.aload_n 0, 1) := by decide +kernel
theorem dL_undo_3 : decode cL_undo 3 = .ok (.invokevirtual 93, 3) := by decide +kernel
theorem dL_undo_6 : decode cL_undo 6 = .ok (.i2l, 1) := by decide +kernel
theorem dL_undo_7 : decode cL_undo 7 = .ok (.lastore, 1) := by decide +kernel
theorem dL_undo_8 : decode cL_undo 8 = .ok (.goto 6, 3) := by decide +kernel
theorem dL_undo_11 : decode cL_undo 11 = .ok (.astore_n 2, 1) := by decide +kernel
theorem dL_undo_12 : decode cL_undo 12 = .ok (.iconst 1, 1) := by decide +kernel
theorem dL_undo_13 : decode cL_undo 13 = .ok (.ireturn, 1) := by decide +kernel
theorem dL_undo_14 : decode cL_undo 14 = .ok (.iconst 0, 1) := by decide +kernel
theorem dL_undo_15 : decode cL_undo 15 = .ok (.ireturn, 1) := by decide +kernel
abbrev rmL_undo : Room := { frames := 8, cells := 1, slots := 6, locals := 233 }
theorem hdL_undo : yL_undo.cls ≠ "java/lang/invoke/MethodHandle" ∧ yL_undo.cls ≠ "java/lang/invoke/VarHandle" ∧ (parseMethodDescriptor yL_undo.desc).map (fun d => d.parameters.length) = some 2 := by decide +kernel
def fL_undo (σ : Sg) (c1 : Nat) (n1 : Nat) : Option (Int32 × Sg) :=
  (fX8_undo σ).bind fun r1 => xcat r1.1 (fun e3 =>
    if e3 = 2 then
      some (1, r1.2)
    else 
      none) fun w2 =>
  if ck 0 n1 then
    nm (sul r1.2 c1 (0 : Int32).toNatClampNeg w2.toInt64) fun σ4 =>
    some (0, σ4)
  else none
theorem kL_undo (X : Xc) (σ : Sg) (c1 : Nat) (n1 : Nat) (h1 : SHP[c1]? = some (2, [n1])) (hfl : X.l.stackTraces = false) : ∀ r, fL_undo σ c1 n1 = some r → vx_Met X.l yL_undo (wsMH yL_undo cL_undo 3 (some .int) [(0, 8, 11, 15)]) rmL_undo (va_Pc [.ref (X.ad 0), .ref (X.ad c1)] (PW X σ)) (CXi X (.inl r.1) r.2) (CXx X (.inl r.1 : Int32 ⊕ Nat) r.2) 1 6 X.A := by
  refine xt_ofH (own := RL) (lo := [some (.ref (X.ad 0)), some (.ref (X.ad c1)), none]) (by decide) rfl (Nat.le_of_ble_eq_true rfl) rfl (fun K C hr hex => ?_)
  unfold fL_undo
  refine g_aload_n (pc := 0) (i := 1) C dL_undo_0 rfl rfl ?_
  refine g_iconst (pc := 1) (v := 0) C dL_undo_1 (by decide) ?_
  refine g_aload_n (pc := 2) (i := 0) C dL_undo_2 rfl rfl ?_
  refine g_xcallVi (pc := 3) (As := []) C (kX8_undo X σ hfl) ok_dl rfl q_57_17 q_57_18 q_57_19 q_1_2 q_57_20 ⟨rfl, hdX8_undo⟩ ⟨Nat.le_of_ble_eq_true rfl, Nat.le_of_ble_eq_true rfl, rfl, rfl, Nat.le_of_ble_eq_true rfl, Nat.le_of_ble_eq_true rfl⟩ (Nat.le_of_ble_eq_true rfl) rfl rfl dL_undo_3 (fun r1 e3 _ _ => ?_) (fun r1 w2 _ _ => ?_)
  · refine gx_ite (fun he => ?_) (fun _ => ?_)
    · subst he
      refine gx_catch (pc := 3) (tgt := 11) (ct := 15) (name := "java/lang/IllegalStateException") C [] (⟨0, 8, 11, 15⟩ : ExceptionTableEntry) [] (by rw [hex]; rfl) (fun z hz => by cases hz) (by decide) rfl (by decide) rfl q_6_21 rfl (List.mem_of_getElem? (i := 2) rfl) (fun q => ?_)
      refine g_astore_n (pc := 11) (i := 2) C dL_undo_11 rfl (Nat.le_of_ble_eq_true rfl) rfl ?_
      refine g_iconst (pc := 12) (v := 1) C dL_undo_12 (by decide) ?_
      exact g_xiret (pc := 13) C hr dL_undo_13 (Nat.le_of_ble_eq_true rfl) (Nat.le_of_ble_eq_true rfl) (fun t hP hF => ⟨⟨_, (), rfl, rfl, hP⟩, hF⟩)
    exact gx_none
  refine g_i2l (pc := 6) C dL_undo_6 ?_
  refine g_lastore (pc := 7) C h1 dL_undo_7 ?_
  refine g_nms (fun σ4 => ?_)
  refine g_goto (pc := 8) (tgt := 14) C dL_undo_8 rfl ?_
  refine g_iconst (pc := 14) (v := 0) C dL_undo_14 (by decide) ?_
  exact g_xiret (pc := 15) C hr dL_undo_15 (Nat.le_of_ble_eq_true rfl) (Nat.le_of_ble_eq_true rfl) (fun t hP hF => ⟨⟨_, (), rfl, rfl, hP⟩, hF⟩)

/-! by program out of the class files: each method as a function over the store, and its contract by a walk -/
theorem dJ7_fill_53178_0 : decode cJ7_fill_53178 0 = .ok (.iconst 0, 1) := by decide +kernel
theorem dJ7_fill_53178_1 : decode cJ7_fill_53178 1 = .ok (.istore_n 2, 1) := by decide +kernel
theorem dJ7_fill_53178_2 : decode cJ7_fill_53178 2 = .ok (.aload_n 0, 1) := by decide +kernel
theorem dJ7_fill_53178_3 : decode cJ7_fill_53178 3 = .ok (.arraylength, 1) := by decide +kernel
theorem dJ7_fill_53178_4 : decode cJ7_fill_53178 4 = .ok (.istore_n 3, 1) := by decide +kernel
theorem dJ7_fill_53178_5 : decode cJ7_fill_53178 5 = .ok (.iload_n 2, 1) := by decide +kernel
theorem dJ7_fill_53178_6 : decode cJ7_fill_53178 6 = .ok (.iload_n 3, 1) := by decide +kernel
theorem dJ7_fill_53178_7 : decode cJ7_fill_53178 7 = .ok (.if_icmp .ge 13, 3) := by decide +kernel
theorem dJ7_fill_53178_10 : decode cJ7_fill_53178 10 = .ok (.aload_n 0, 1) := by decide +kernel
theorem dJ7_fill_53178_11 : decode cJ7_fill_53178 11 = .ok (.iload_n 2, 1) := by decide +kernel
theorem dJ7_fill_53178_12 : decode cJ7_fill_53178 12 = .ok (.iload_n 1, 1) := by decide +kernel
theorem dJ7_fill_53178_13 : decode cJ7_fill_53178 13 = .ok (.iastore, 1) := by decide +kernel
theorem dJ7_fill_53178_14 : decode cJ7_fill_53178 14 = .ok (.iinc 2 1, 3) := by decide +kernel
theorem dJ7_fill_53178_17 : decode cJ7_fill_53178 17 = .ok (.goto (-12), 3) := by decide +kernel
theorem dJ7_fill_53178_20 : decode cJ7_fill_53178 20 = .ok (.return_, 1) := by decide +kernel
abbrev rmJ7_fill_53178 : Room := { frames := 0, cells := 0, slots := 0, locals := 0 }
theorem hdJ7_fill_53178 : yJ7_fill_53178.cls ≠ "java/lang/invoke/MethodHandle" ∧ yJ7_fill_53178.cls ≠ "java/lang/invoke/VarHandle" ∧ (parseMethodDescriptor yJ7_fill_53178.desc).map (fun d => d.parameters.length) = some 2 := by decide +kernel
def fJ7_fill_53178_5 (c0 : Nat) (n0 : Nat) : Nat → Sg → Int32 → Int32 → Int32 → Option Sg
  | 0, _, _, _, _ => none
  | n + 1, σ, l1, l2, l3 =>
    if l3 ≤ l2 then
      some σ
    else
      if ck l2 n0 then
        nm (su σ c0 l2.toNatClampNeg l1) fun σ2 =>
        ((fJ7_fill_53178_5 c0 n0 n) σ2 l1 (l2 + 1) l3)
      else none
theorem bJ7_fill_53178_5 {X : Xc} {K : Kc} (C : MC X K cJ7_fill_53178 4 RJ7 rmJ7_fill_53178) (hr : K.meth.sig.returnType = none) (c0 : Nat) (n0 : Nat) (h0 : SHP[c0]? = some (0, [n0])) : ∀ (n : Nat) (σ : Sg) (l1 : Int32) (l2 : Int32) (l3 : Int32), GO X K 4 (fun r => MQv X K r) (fJ7_fill_53178_5 c0 n0 n σ l1 l2 l3) σ 0 0 5 [some (.ref (X.ad c0)), some (.int (l1)), some (.int (l2)), some (.int (l3))] [] := by
  intro n
  induction n with
  | zero =>
    intro σ l1 l2 l3
    exact g_none
  | succ n ih =>
    intro σ l1 l2 l3
    unfold fJ7_fill_53178_5
    refine g_iload_n (pc := 5) (i := 2) C dJ7_fill_53178_5 rfl rfl ?_
    refine g_iload_n (pc := 6) (i := 3) C dJ7_fill_53178_6 rfl rfl ?_
    refine g_icmp_ge (pc := 7) (tgt := 20) C dJ7_fill_53178_7 rfl ?_ ?_
    · exact g_vret (pc := 20) C hr dJ7_fill_53178_20 rfl
    · refine g_aload_n (pc := 10) (i := 0) C dJ7_fill_53178_10 rfl rfl ?_
      refine g_iload_n (pc := 11) (i := 2) C dJ7_fill_53178_11 rfl rfl ?_
      refine g_iload_n (pc := 12) (i := 1) C dJ7_fill_53178_12 rfl rfl ?_
      refine g_iastore (pc := 13) C h0 dJ7_fill_53178_13 ?_
      refine g_nms (fun σ2 => ?_)
      refine g_iinc (pc := 14) (v := l2 + 1) C dJ7_fill_53178_14 rfl (rfl) (Nat.le_of_ble_eq_true rfl) rfl ?_
      refine g_goto (pc := 17) (tgt := 5) C dJ7_fill_53178_17 rfl ?_
      refine g_keep [true, true, true, true] ?_
      exact ih σ2 l1 (l2 + 1) l3
def fJ7_fill_53178 (σ : Sg) (c0 : Nat) (n0 : Nat) (p1 : Int32) : Option Sg :=
  nm (nI n0) fun v1 =>
  (fJ7_fill_53178_5 c0 n0 FU σ p1 0 v1)
theorem kJ7_fill_53178 (X : Xc) (σ : Sg) (c0 : Nat) (n0 : Nat) (p1 : Int32) (h0 : SHP[c0]? = some (0, [n0])) : ∀ r, fJ7_fill_53178 σ c0 n0 p1 = some r → Met X.l yJ7_fill_53178 (wsM yJ7_fill_53178 cJ7_fill_53178 4 none) rmJ7_fill_53178 (va_Pc [.ref (X.ad c0), .int p1] (PW X σ)) (Qv X r) 0 0 X.A := by
  refine mt_of (own := RJ7) (lo := [some (.ref (X.ad c0)), some (.int (p1)), none, none]) (by decide) rfl (Nat.le_of_ble_eq_true rfl) rfl (fun K C hr => ?_)
  unfold fJ7_fill_53178
  refine g_iconst (pc := 0) (v := 0) C dJ7_fill_53178_0 (by decide) ?_
  refine g_istore_n (pc := 1) (i := 2) C dJ7_fill_53178_1 rfl (Nat.le_of_ble_eq_true rfl) rfl ?_
  refine g_aload_n (pc := 2) (i := 0) C dJ7_fill_53178_2 rfl rfl ?_
  refine g_ialen (pc := 3) C h0 dJ7_fill_53178_3 ?_
  refine g_nm (fun v1 => ?_)
  refine g_istore_n (pc := 4) (i := 3) C dJ7_fill_53178_4 rfl (Nat.le_of_ble_eq_true rfl) rfl ?_
  refine g_keep [true, true, true, true] ?_
  exact bJ7_fill_53178_5 C hr c0 n0 h0 FU σ p1 0 v1
theorem dJ9_floorMod_7cf53_0 : decode cJ9_floorMod_7cf53 0 = .ok (.iload_n 0, 1) := by decide +kernel
theorem dJ9_floorMod_7cf53_1 : decode cJ9_floorMod_7cf53 1 = .ok (.iload_n 1, 1) := by decide +kernel
theorem dJ9_floorMod_7cf53_2 : decode cJ9_floorMod_7cf53 2 = .ok (.irem, 1) := by decide +kernel
theorem dJ9_floorMod_7cf53_3 : decode cJ9_floorMod_7cf53 3 = .ok (.istore_n 2, 1) := by decide +kernel
theorem dJ9_floorMod_7cf53_4 : decode cJ9_floorMod_7cf53 4 = .ok (.iload_n 0, 1) := by decide +kernel
theorem dJ9_floorMod_7cf53_5 : decode cJ9_floorMod_7cf53 5 = .ok (.iload_n 1, 1) := by decide +kernel
theorem dJ9_floorMod_7cf53_6 : decode cJ9_floorMod_7cf53 6 = .ok (.ixor, 1) := by decide +kernel
theorem dJ9_floorMod_7cf53_7 : decode cJ9_floorMod_7cf53 7 = .ok (.ifCond .ge 11, 3) := by decide +kernel
theorem dJ9_floorMod_7cf53_10 : decode cJ9_floorMod_7cf53 10 = .ok (.iload_n 2, 1) := by decide +kernel
theorem dJ9_floorMod_7cf53_11 : decode cJ9_floorMod_7cf53 11 = .ok (.ifCond .eq 7, 3) := by decide +kernel
theorem dJ9_floorMod_7cf53_14 : decode cJ9_floorMod_7cf53 14 = .ok (.iload_n 2, 1) := by decide +kernel
theorem dJ9_floorMod_7cf53_15 : decode cJ9_floorMod_7cf53 15 = .ok (.iload_n 1, 1) := by decide +kernel
theorem dJ9_floorMod_7cf53_16 : decode cJ9_floorMod_7cf53 16 = .ok (.iadd, 1) := by decide +kernel
theorem dJ9_floorMod_7cf53_17 : decode cJ9_floorMod_7cf53 17 = .ok (.ireturn, 1) := by decide +kernel
theorem dJ9_floorMod_7cf53_18 : decode cJ9_floorMod_7cf53 18 = .ok (.iload_n 2, 1) := by decide +kernel
theorem dJ9_floorMod_7cf53_19 : decode cJ9_floorMod_7cf53 19 = .ok (.ireturn, 1) := by decide +kernel
abbrev rmJ9_floorMod_7cf53 : Room := { frames := 0, cells := 0, slots := 0, locals := 0 }
theorem hdJ9_floorMod_7cf53 : yJ9_floorMod_7cf53.cls ≠ "java/lang/invoke/MethodHandle" ∧ yJ9_floorMod_7cf53.cls ≠ "java/lang/invoke/VarHandle" ∧ (parseMethodDescriptor yJ9_floorMod_7cf53.desc).map (fun d => d.parameters.length) = some 2 := by decide +kernel
def fJ9_floorMod_7cf53 (σ : Sg) (p0 : Int32) (p1 : Int32) : Option Int32 :=
  if p1 = 0 then none else
  nm (p0 - p0 / p1 * p1) fun v1 =>
  if 0 ≤ (p0 ^^^ p1) then
    some v1
  else
    if v1 = 0 then
      some v1
    else
      some (v1 + p1)
theorem kJ9_floorMod_7cf53 (X : Xc) (σ : Sg) (p0 : Int32) (p1 : Int32) : ∀ r, fJ9_floorMod_7cf53 σ p0 p1 = some r → Met X.l yJ9_floorMod_7cf53 (wsM yJ9_floorMod_7cf53 cJ9_floorMod_7cf53 3 (some .int)) rmJ9_floorMod_7cf53 (va_Pc [.int p0, .int p1] (PW X σ)) (Qi X r σ) 0 0 X.A := by
  refine mt_ofF (own := RJ9) (lo := [some (.int (p0)), some (.int (p1)), none]) (by decide +kernel) rfl (Nat.le_of_ble_eq_true rfl) rfl (fun K C hr => ?_)
  unfold fJ9_floorMod_7cf53
  refine g_iload_n (pc := 0) (i := 0) C dJ9_floorMod_7cf53_0 rfl rfl ?_
  refine g_iload_n (pc := 1) (i := 1) C dJ9_floorMod_7cf53_1 rfl rfl ?_
  refine g_irem (pc := 2) C dJ9_floorMod_7cf53_2 ?_
  refine g_nm (fun v1 => ?_)
  refine g_istore_n (pc := 3) (i := 2) C dJ9_floorMod_7cf53_3 rfl (Nat.le_of_ble_eq_true rfl) rfl ?_
  refine g_iload_n (pc := 4) (i := 0) C dJ9_floorMod_7cf53_4 rfl rfl ?_
  refine g_iload_n (pc := 5) (i := 1) C dJ9_floorMod_7cf53_5 rfl rfl ?_
  refine g_ixor (pc := 6) C dJ9_floorMod_7cf53_6 ?_
  refine g_if_ge (pc := 7) (tgt := 18) C dJ9_floorMod_7cf53_7 rfl ?_ ?_
  · refine g_iload_n (pc := 18) (i := 2) C dJ9_floorMod_7cf53_18 rfl rfl ?_
    exact g_iret (pc := 19) C hr dJ9_floorMod_7cf53_19 rfl
  · refine g_iload_n (pc := 10) (i := 2) C dJ9_floorMod_7cf53_10 rfl rfl ?_
    refine g_if_eq (pc := 11) (tgt := 18) C dJ9_floorMod_7cf53_11 rfl ?_ ?_
    · refine g_iload_n (pc := 18) (i := 2) C dJ9_floorMod_7cf53_18 rfl rfl ?_
      exact g_iret (pc := 19) C hr dJ9_floorMod_7cf53_19 rfl
    · refine g_iload_n (pc := 14) (i := 2) C dJ9_floorMod_7cf53_14 rfl rfl ?_
      refine g_iload_n (pc := 15) (i := 1) C dJ9_floorMod_7cf53_15 rfl rfl ?_
      refine g_iadd (pc := 16) C dJ9_floorMod_7cf53_16 ?_
      exact g_iret (pc := 17) C hr dJ9_floorMod_7cf53_17 rfl
theorem dX8_copyRow_0 : decode cX8_copyRow 0 = .ok (.aload_n 0, 1) := by decide +kernel
theorem dX8_copyRow_1 : decode cX8_copyRow 1 = .ok (.iconst 0, 1) := by decide +kernel
theorem dX8_copyRow_2 : decode cX8_copyRow 2 = .ok (.aload_n 1, 1) := by decide +kernel
theorem dX8_copyRow_3 : decode cX8_copyRow 3 = .ok (.iconst 0, 1) := by decide +kernel
theorem dX8_copyRow_4 : decode cX8_copyRow 4 = .ok (.aload_n 0, 1) := by decide +kernel
theorem dX8_copyRow_5 : decode cX8_copyRow 5 = .ok (.arraylength, 1) := by decide +kernel
theorem dX8_copyRow_6 : decode cX8_copyRow 6 = .ok (.aload_n 1, 1) := by decide +kernel
theorem dX8_copyRow_7 : decode cX8_copyRow 7 = .ok (.arraylength, 1) := by decide +kernel
theorem dX8_copyRow_8 : decode cX8_copyRow 8 = .ok (.invokestatic 448, 3) := by decide +kernel
theorem dX8_copyRow_11 : decode cX8_copyRow 11 = .ok (.invokestatic 453, 3) := by decide +kernel
theorem dX8_copyRow_14 : decode cX8_copyRow 14 = .ok (.return_, 1) := by decide +kernel
abbrev rmX8_copyRow : Room := { frames := 1, cells := 0, slots := 0, locals := 90 }
theorem hdX8_copyRow : yX8_copyRow.cls ≠ "java/lang/invoke/MethodHandle" ∧ yX8_copyRow.cls ≠ "java/lang/invoke/VarHandle" ∧ (parseMethodDescriptor yX8_copyRow.desc).map (fun d => d.parameters.length) = some 2 := by decide +kernel
def fX8_copyRow (σ : Sg) (c0 : Nat) (n0 : Nat) (c1 : Nat) (n1 : Nat) : Option Sg :=
  nm (if (nI n1) < (nI n0) then (nI n1) else (nI n0)) fun v1 =>
  if cpok 0 0 v1 n0 n1 then
    nm (sur σ c1 (va_cpy (σ.1 c0) (σ.1 c1) (0 : Int32).toNatClampNeg (0 : Int32).toNatClampNeg v1.toNatClampNeg)) fun σ2 =>
    some σ2
  else none
theorem kX8_copyRow (X : Xc) (σ : Sg) (c0 : Nat) (n0 : Nat) (c1 : Nat) (n1 : Nat) (h0 : SHP[c0]? = some (0, [n0])) (h1 : SHP[c1]? = some (0, [n1])) : ∀ r, fX8_copyRow σ c0 n0 c1 n1 = some r → Met X.l yX8_copyRow (wsM yX8_copyRow cX8_copyRow 2 none) rmX8_copyRow (va_Pc [.ref (X.ad c0), .ref (X.ad c1)] (PW X σ)) (Qv X r) 0 0 X.A := by
  refine mt_of (own := RX8) (lo := [some (.ref (X.ad c0)), some (.ref (X.ad c1))]) (by decide) rfl (Nat.le_of_ble_eq_true rfl) rfl (fun K C hr => ?_)
  unfold fX8_copyRow
  refine g_aload_n (pc := 0) (i := 0) C dX8_copyRow_0 rfl rfl ?_
  refine g_iconst (pc := 1) (v := 0) C dX8_copyRow_1 (by decide) ?_
  refine g_aload_n (pc := 2) (i := 1) C dX8_copyRow_2 rfl rfl ?_
  refine g_iconst (pc := 3) (v := 0) C dX8_copyRow_3 (by decide) ?_
  refine g_aload_n (pc := 4) (i := 0) C dX8_copyRow_4 rfl rfl ?_
  refine g_ialen (pc := 5) C h0 dX8_copyRow_5 ?_
  refine g_aload_n (pc := 6) (i := 1) C dX8_copyRow_6 rfl rfl ?_
  refine g_ialen (pc := 7) C h1 dX8_copyRow_7 ?_
  refine g_mmin (pc := 8) C q_8_18 q_8_19 q_8_20 q_8_21 ⟨Nat.le_of_ble_eq_true rfl, Nat.le_of_ble_eq_true rfl⟩ ⟨Nat.le_of_ble_eq_true rfl, Nat.le_of_ble_eq_true rfl⟩ dX8_copyRow_8 ?_
  refine g_nm (fun v1 => ?_)
  refine g_acopy (pc := 11) C h0 h1 q_8_22 q_8_23 q_9_0 q_9_1  ⟨Nat.le_of_ble_eq_true rfl, Nat.le_of_ble_eq_true rfl⟩ dX8_copyRow_11 ?_
  refine g_nms (fun σ2 => ?_)
  exact g_vret (pc := 14) C hr dX8_copyRow_14 rfl
theorem dX0_copyFrom_0 : decode cX0_copyFrom 0 = .ok (.aload_n 1, 1) := by decide +kernel
theorem dX0_copyFrom_1 : decode cX0_copyFrom 1 = .ok (.getfield 9, 3) := by decide +kernel
theorem dX0_copyFrom_4 : decode cX0_copyFrom 4 = .ok (.aload_n 0, 1) := by decide +kernel
theorem dX0_copyFrom_5 : decode cX0_copyFrom 5 = .ok (.getfield 9, 3) := by decide +kernel
theorem dX0_copyFrom_8 : decode cX0_copyFrom 8 = .ok (.invokestatic 38, 3) := by decide +kernel
theorem dX0_copyFrom_11 : decode cX0_copyFrom 11 = .ok (.aload_n 0, 1) := by decide +kernel
theorem dX0_copyFrom_12 : decode cX0_copyFrom 12 = .ok (.aload_n 1, 1) := by decide +kernel
theorem dX0_copyFrom_13 : decode cX0_copyFrom 13 = .ok (.getfield 15, 3) := by decide +kernel
theorem dX0_copyFrom_16 : decode cX0_copyFrom 16 = .ok (.putfield 15, 3) := by decide +kernel
theorem dX0_copyFrom_19 : decode cX0_copyFrom 19 = .ok (.return_, 1) := by decide +kernel
abbrev rmX0_copyFrom : Room := { frames := 2, cells := 0, slots := 0, locals := 111 }
theorem hdX0_copyFrom : yX0_copyFrom.cls ≠ "java/lang/invoke/MethodHandle" ∧ yX0_copyFrom.cls ≠ "java/lang/invoke/VarHandle" ∧ (parseMethodDescriptor yX0_copyFrom.desc).map (fun d => d.parameters.length) = some 1 := by decide +kernel
def fX0_copyFrom (σ : Sg) (b : Nat) (c1 : Nat) : Option Sg :=
  (fX8_copyRow σ (c1 + 1) 12 (b + 1) 12).bind fun σ1 =>
  nm (su σ1 b 1 (σ1.1 c1 1)) fun σ2 =>
  some σ2
theorem kX0_copyFrom (X : Xc) (σ : Sg) (b : Nat) (c1 : Nat) (hb : orOK b) (h1 : orOK c1) : ∀ r, fX0_copyFrom σ b c1 = some r → Met X.l yX0_copyFrom (wsM yX0_copyFrom cX0_copyFrom 2 none) rmX0_copyFrom (va_Pc [.ref (X.ad b), .ref (X.ad c1)] (PW X σ)) (Qv X r) 0 0 X.A := by
  refine mt_of (own := RX0) (lo := [some (.ref (X.ad b)), some (.ref (X.ad c1))]) (by decide) rfl (Nat.le_of_ble_eq_true rfl) rfl (fun K C hr => ?_)
  unfold fX0_copyFrom
  refine g_aload_n (pc := 0) (i := 1) C dX0_copyFrom_0 rfl rfl ?_
  refine g_getr (pc := 1) (ci := 0) (N := 2) (T := TX0) (j := 0) (Cn := RX0) (c1 + 1) C rfl inlX0 (Nat.le_of_ble_eq_true rfl) q_3_5 (blk h1 0 rfl) rfl dX0_copyFrom_1 ?_
  refine g_aload_n (pc := 4) (i := 0) C dX0_copyFrom_4 rfl rfl ?_
  refine g_getr (pc := 5) (ci := 0) (N := 2) (T := TX0) (j := 0) (Cn := RX0) (b + 1) C rfl inlX0 (Nat.le_of_ble_eq_true rfl) q_3_5 (blk hb 0 rfl) rfl dX0_copyFrom_5 ?_
  refine g_callNv (pc := 8) (As := [.ref (X.ad (c1 + 1)), .ref (X.ad (b + 1))]) C (kX8_copyRow X σ (c1 + 1) 12 (b + 1) 12 (blk h1 1 rfl) (blk hb 1 rfl)) (List.mem_of_getElem? (i := 2) rfl) q_8_16 q_1_2 q_8_17 hdX8_copyRow ⟨Nat.le_of_ble_eq_true rfl, Nat.le_of_ble_eq_true rfl, rfl, rfl⟩ ⟨Nat.zero_le _, Nat.zero_le _⟩ (Nat.le_of_ble_eq_true rfl) rfl rfl dX0_copyFrom_8 (fun σ1 _ => ?_)
  refine g_aload_n (pc := 11) (i := 0) C dX0_copyFrom_11 rfl rfl ?_
  refine g_aload_n (pc := 12) (i := 1) C dX0_copyFrom_12 rfl rfl ?_
  refine g_geti (pc := 13) (ci := 0) (N := 2) (T := TX0) (j := 1) (Cn := RX0) C rfl inlX0 (Nat.le_of_ble_eq_true rfl) q_9_6 (blk h1 0 rfl) rfl dX0_copyFrom_13 ?_
  refine g_puti (pc := 16) (ci := 0) (N := 2) (T := TX0) (j := 1) (Cn := RX0) C rfl inlX0 tyX0_ok nmX0 (Nat.le_of_ble_eq_true rfl) q_9_6 (blk hb 0 rfl) rfl rfl rfl dX0_copyFrom_16 ?_
  refine g_nms (fun σ2 => ?_)
  exact g_vret (pc := 19) C hr dX0_copyFrom_19 rfl
theorem dX8_put_0 : decode cX8_put 0 = .ok (.iload_n 1, 1) := by decide +kernel
theorem dX8_put_1 : decode cX8_put 1 = .ok (.ifCond .lt 13, 3) := by decide +kernel
theorem dX8_put_4 : decode cX8_put 4 = .ok (.iload_n 1, 1) := by decide +kernel
theorem dX8_put_5 : decode cX8_put 5 = .ok (.aload_n 0, 1) := by decide +kernel
theorem dX8_put_6 : decode cX8_put 6 = .ok (.arraylength, 1) := by decide +kernel
theorem dX8_put_7 : decode cX8_put 7 = .ok (.if_icmp .ge 7, 3) := by decide +kernel
theorem dX8_put_10 : decode cX8_put 10 = .ok (.aload_n 0, 1) := by decide +kernel
theorem dX8_put_11 : decode cX8_put 11 = .ok (.iload_n 1, 1) := by decide +kernel
theorem dX8_put_12 : decode cX8_put 12 = .ok (.iload_n 2, 1) := by decide +kernel
theorem dX8_put_13 : decode cX8_put 13 = .ok (.iastore, 1) := by decide +kernel
theorem dX8_put_14 : decode cX8_put 14 = .ok (.return_, 1) := by decide +kernel
abbrev rmX8_put : Room := { frames := 0, cells := 0, slots := 0, locals := 0 }
theorem hdX8_put : yX8_put.cls ≠ "java/lang/invoke/MethodHandle" ∧ yX8_put.cls ≠ "java/lang/invoke/VarHandle" ∧ (parseMethodDescriptor yX8_put.desc).map (fun d => d.parameters.length) = some 3 := by decide +kernel
def fX8_put (σ : Sg) (c0 : Nat) (n0 : Nat) (p1 : Int32) (p2 : Int32) : Option Sg :=
  if p1 < 0 then
    some σ
  else
    if (nI n0) ≤ p1 then
      some σ
    else
      if ck p1 n0 then
        nm (su σ c0 p1.toNatClampNeg p2) fun σ1 =>
        some σ1
      else none
theorem kX8_put (X : Xc) (σ : Sg) (c0 : Nat) (n0 : Nat) (p1 : Int32) (p2 : Int32) (h0 : SHP[c0]? = some (0, [n0])) : ∀ r, fX8_put σ c0 n0 p1 p2 = some r → Met X.l yX8_put (wsM yX8_put cX8_put 3 none) rmX8_put (va_Pc [.ref (X.ad c0), .int p1, .int p2] (PW X σ)) (Qv X r) 0 0 X.A := by
  refine mt_of (own := RX8) (lo := [some (.ref (X.ad c0)), some (.int (p1)), some (.int (p2))]) (by decide) rfl (Nat.le_of_ble_eq_true rfl) rfl (fun K C hr => ?_)
  unfold fX8_put
  refine g_iload_n (pc := 0) (i := 1) C dX8_put_0 rfl rfl ?_
  refine g_if_lt (pc := 1) (tgt := 14) C dX8_put_1 rfl ?_ ?_
  · exact g_vret (pc := 14) C hr dX8_put_14 rfl
  · refine g_iload_n (pc := 4) (i := 1) C dX8_put_4 rfl rfl ?_
    refine g_aload_n (pc := 5) (i := 0) C dX8_put_5 rfl rfl ?_
    refine g_ialen (pc := 6) C h0 dX8_put_6 ?_
    refine g_icmp_ge (pc := 7) (tgt := 14) C dX8_put_7 rfl ?_ ?_
    · exact g_vret (pc := 14) C hr dX8_put_14 rfl
    · refine g_aload_n (pc := 10) (i := 0) C dX8_put_10 rfl rfl ?_
      refine g_iload_n (pc := 11) (i := 1) C dX8_put_11 rfl rfl ?_
      refine g_iload_n (pc := 12) (i := 2) C dX8_put_12 rfl rfl ?_
      refine g_iastore (pc := 13) C h0 dX8_put_13 ?_
      refine g_nms (fun σ1 => ?_)
      exact g_vret (pc := 14) C hr dX8_put_14 rfl
theorem dX8_at_0 : decode cX8_at 0 = .ok (.iload_n 1, 1) := by decide +kernel
theorem dX8_at_1 : decode cX8_at 1 = .ok (.ifCond .lt 15, 3) := by decide +kernel
theorem dX8_at_4 : decode cX8_at 4 = .ok (.iload_n 1, 1) := by decide +kernel
theorem dX8_at_5 : decode cX8_at 5 = .ok (.aload_n 0, 1) := by decide +kernel
theorem dX8_at_6 : decode cX8_at 6 = .ok (.arraylength, 1) := by decide +kernel
theorem dX8_at_7 : decode cX8_at 7 = .ok (.if_icmp .ge 9, 3) := by decide +kernel
theorem dX8_at_10 : decode cX8_at 10 = .ok (.aload_n 0, 1) := by decide +kernel
theorem dX8_at_11 : decode cX8_at 11 = .ok (.iload_n 1, 1) := by decide +kernel
theorem dX8_at_12 : decode cX8_at 12 = .ok (.iaload, 1) := by decide +kernel
theorem dX8_at_13 : decode cX8_at 13 = .ok (.goto 4, 3) := by decide +kernel
theorem dX8_at_16 : decode cX8_at 16 = .ok (.iconst (-1), 1) := by decide +kernel
theorem dX8_at_17 : decode cX8_at 17 = .ok (.ireturn, 1) := by decide +kernel
abbrev rmX8_at : Room := { frames := 0, cells := 0, slots := 0, locals := 0 }
theorem hdX8_at : yX8_at.cls ≠ "java/lang/invoke/MethodHandle" ∧ yX8_at.cls ≠ "java/lang/invoke/VarHandle" ∧ (parseMethodDescriptor yX8_at.desc).map (fun d => d.parameters.length) = some 2 := by decide +kernel
def fX8_at (σ : Sg) (c0 : Nat) (n0 : Nat) (p1 : Int32) : Option Int32 :=
  if p1 < 0 then
    some (-1)
  else
    if (nI n0) ≤ p1 then
      some (-1)
    else
      if ck p1 n0 then
        some (σ.1 c0 p1.toNatClampNeg)
      else none
theorem kX8_at (X : Xc) (σ : Sg) (c0 : Nat) (n0 : Nat) (p1 : Int32) (h0 : SHP[c0]? = some (0, [n0])) : ∀ r, fX8_at σ c0 n0 p1 = some r → Met X.l yX8_at (wsM yX8_at cX8_at 2 (some .int)) rmX8_at (va_Pc [.ref (X.ad c0), .int p1] (PW X σ)) (Qi X r σ) 0 0 X.A := by
  refine mt_of (own := RX8) (lo := [some (.ref (X.ad c0)), some (.int (p1))]) (by decide) rfl (Nat.le_of_ble_eq_true rfl) rfl (fun K C hr => ?_)
  unfold fX8_at
  refine g_iload_n (pc := 0) (i := 1) C dX8_at_0 rfl rfl ?_
  refine g_if_lt (pc := 1) (tgt := 16) C dX8_at_1 rfl ?_ ?_
  · refine g_iconst (pc := 16) (v := (-1)) C dX8_at_16 (by decide) ?_
    exact g_iret (pc := 17) C hr dX8_at_17 rfl
  · refine g_iload_n (pc := 4) (i := 1) C dX8_at_4 rfl rfl ?_
    refine g_aload_n (pc := 5) (i := 0) C dX8_at_5 rfl rfl ?_
    refine g_ialen (pc := 6) C h0 dX8_at_6 ?_
    refine g_icmp_ge (pc := 7) (tgt := 16) C dX8_at_7 rfl ?_ ?_
    · refine g_iconst (pc := 16) (v := (-1)) C dX8_at_16 (by decide) ?_
      exact g_iret (pc := 17) C hr dX8_at_17 rfl
    · refine g_aload_n (pc := 10) (i := 0) C dX8_at_10 rfl rfl ?_
      refine g_iload_n (pc := 11) (i := 1) C dX8_at_11 rfl rfl ?_
      refine g_iaload (pc := 12) C h0 dX8_at_12 ?_
      refine g_goto (pc := 13) (tgt := 17) C dX8_at_13 rfl ?_
      exact g_iret (pc := 17) C hr dX8_at_17 rfl
theorem dX0_indexOf_0 : decode cX0_indexOf 0 = .ok (.iconst 0, 1) := by decide +kernel
theorem dX0_indexOf_1 : decode cX0_indexOf 1 = .ok (.istore_n 2, 1) := by decide +kernel
theorem dX0_indexOf_2 : decode cX0_indexOf 2 = .ok (.iload_n 2, 1) := by decide +kernel
theorem dX0_indexOf_3 : decode cX0_indexOf 3 = .ok (.aload_n 0, 1) := by decide +kernel
theorem dX0_indexOf_4 : decode cX0_indexOf 4 = .ok (.getfield 15, 3) := by decide +kernel
theorem dX0_indexOf_7 : decode cX0_indexOf 7 = .ok (.if_icmp .ge 23, 3) := by decide +kernel
theorem dX0_indexOf_10 : decode cX0_indexOf 10 = .ok (.aload_n 0, 1) := by decide +kernel
theorem dX0_indexOf_11 : decode cX0_indexOf 11 = .ok (.getfield 9, 3) := by decide +kernel
theorem dX0_indexOf_14 : decode cX0_indexOf 14 = .ok (.iload_n 2, 1) := by decide +kernel
theorem dX0_indexOf_15 : decode cX0_indexOf 15 = .ok (.invokestatic 19, 3) := by decide +kernel
theorem dX0_indexOf_18 : decode cX0_indexOf 18 = .ok (.iload_n 1, 1) := by decide +kernel
theorem dX0_indexOf_19 : decode cX0_indexOf 19 = .ok (.if_icmp .ne 5, 3) := by decide +kernel
theorem dX0_indexOf_22 : decode cX0_indexOf 22 = .ok (.iload_n 2, 1) := by decide +kernel
theorem dX0_indexOf_23 : decode cX0_indexOf 23 = .ok (.ireturn, 1) := by decide +kernel
theorem dX0_indexOf_24 : decode cX0_indexOf 24 = .ok (.iinc 2 1, 3) := by decide +kernel
theorem dX0_indexOf_27 : decode cX0_indexOf 27 = .ok (.goto (-25), 3) := by decide +kernel
theorem dX0_indexOf_30 : decode cX0_indexOf 30 = .ok (.iconst (-1), 1) := by decide +kernel
theorem dX0_indexOf_31 : decode cX0_indexOf 31 = .ok (.ireturn, 1) := by decide +kernel
abbrev rmX0_indexOf : Room := { frames := 1, cells := 0, slots := 0, locals := 21 }
theorem hdX0_indexOf : yX0_indexOf.cls ≠ "java/lang/invoke/MethodHandle" ∧ yX0_indexOf.cls ≠ "java/lang/invoke/VarHandle" ∧ (parseMethodDescriptor yX0_indexOf.desc).map (fun d => d.parameters.length) = some 1 := by decide +kernel
def fX0_indexOf_2 (σ : Sg) (b : Nat) : Nat → Int32 → Int32 → Option Int32
  | 0, _, _ => none
  | n + 1, l1, l2 =>
    if (σ.1 b 1) ≤ l2 then
      some (-1)
    else
      (fX8_at σ (b + 1) 12 l2).bind fun r1 =>
      if r1 = l1 then
        some l2
      else
        ((fX0_indexOf_2 σ b n) l1 (l2 + 1))
theorem bX0_indexOf_2 {X : Xc} {K : Kc} (C : MC X K cX0_indexOf 3 RX0 rmX0_indexOf) (hr : K.meth.sig.returnType = (some .int)) (σ : Sg) (b : Nat) (hb : orOK b) : ∀ (n : Nat) (l1 : Int32) (l2 : Int32), GO X K 3 (fun r => MQi X K r σ) (fX0_indexOf_2 σ b n l1 l2) σ 0 0 2 [some (.ref (X.ad b)), some (.int (l1)), some (.int (l2))] [] := by
  intro n
  induction n with
  | zero =>
    intro l1 l2
    exact g_none
  | succ n ih =>
    intro l1 l2
    unfold fX0_indexOf_2
    refine g_iload_n (pc := 2) (i := 2) C dX0_indexOf_2 rfl rfl ?_
    refine g_aload_n (pc := 3) (i := 0) C dX0_indexOf_3 rfl rfl ?_
    refine g_geti (pc := 4) (ci := 0) (N := 2) (T := TX0) (j := 1) (Cn := RX0) C rfl inlX0 (Nat.le_of_ble_eq_true rfl) q_9_6 (blk hb 0 rfl) rfl dX0_indexOf_4 ?_
    refine g_icmp_ge (pc := 7) (tgt := 30) C dX0_indexOf_7 rfl ?_ ?_
    · refine g_iconst (pc := 30) (v := (-1)) C dX0_indexOf_30 (by decide) ?_
      exact g_iret (pc := 31) C hr dX0_indexOf_31 rfl
    · refine g_aload_n (pc := 10) (i := 0) C dX0_indexOf_10 rfl rfl ?_
      refine g_getr (pc := 11) (ci := 0) (N := 2) (T := TX0) (j := 0) (Cn := RX0) (b + 1) C rfl inlX0 (Nat.le_of_ble_eq_true rfl) q_3_5 (blk hb 0 rfl) rfl dX0_indexOf_11 ?_
      refine g_iload_n (pc := 14) (i := 2) C dX0_indexOf_14 rfl rfl ?_
      refine g_callNi (pc := 15) (As := [.ref (X.ad (b + 1)), .int (l2)]) C (kX8_at X σ (b + 1) 12 l2 (blk hb 1 rfl)) (List.mem_of_getElem? (i := 0) rfl) q_11_22 q_1_2 q_11_23 hdX8_at ⟨Nat.le_of_ble_eq_true rfl, Nat.le_of_ble_eq_true rfl, rfl, rfl⟩ ⟨Nat.zero_le _, Nat.zero_le _⟩ (Nat.le_of_ble_eq_true rfl) rfl rfl dX0_indexOf_15 (fun r1 _ => ?_)
      refine g_iload_n (pc := 18) (i := 1) C dX0_indexOf_18 rfl rfl ?_
      refine g_icmp_ne (pc := 19) (tgt := 24) C dX0_indexOf_19 rfl ?_ ?_
      · refine g_iload_n (pc := 22) (i := 2) C dX0_indexOf_22 rfl rfl ?_
        exact g_iret (pc := 23) C hr dX0_indexOf_23 rfl
      · refine g_iinc (pc := 24) (v := l2 + 1) C dX0_indexOf_24 rfl (rfl) (Nat.le_of_ble_eq_true rfl) rfl ?_
        refine g_goto (pc := 27) (tgt := 2) C dX0_indexOf_27 rfl ?_
        refine g_keep [true, true, true] ?_
        exact ih l1 (l2 + 1)
def fX0_indexOf (σ : Sg) (b : Nat) (p1 : Int32) : Option Int32 :=
  (fX0_indexOf_2 σ b FU p1 0)
theorem kX0_indexOf (X : Xc) (σ : Sg) (b : Nat) (p1 : Int32) (hb : orOK b) : ∀ r, fX0_indexOf σ b p1 = some r → Met X.l yX0_indexOf (wsM yX0_indexOf cX0_indexOf 3 (some .int)) rmX0_indexOf (va_Pc [.ref (X.ad b), .int p1] (PW X σ)) (Qi X r σ) 0 0 X.A := by
  refine mt_of (own := RX0) (lo := [some (.ref (X.ad b)), some (.int (p1)), none]) (by decide) rfl (Nat.le_of_ble_eq_true rfl) rfl (fun K C hr => ?_)
  unfold fX0_indexOf
  refine g_iconst (pc := 0) (v := 0) C dX0_indexOf_0 (by decide) ?_
  refine g_istore_n (pc := 1) (i := 2) C dX0_indexOf_1 rfl (Nat.le_of_ble_eq_true rfl) rfl ?_
  refine g_keep [true, true, true] ?_
  exact bX0_indexOf_2 C hr σ b hb FU p1 0
theorem dX0_leave_0 : decode cX0_leave 0 = .ok (.aload_n 0, 1) := by decide +kernel
theorem dX0_leave_1 : decode cX0_leave 1 = .ok (.iload_n 1, 1) := by decide +kernel
theorem dX0_leave_2 : decode cX0_leave 2 = .ok (.invokevirtual 23, 3) := by decide +kernel
theorem dX0_leave_5 : decode cX0_leave 5 = .ok (.istore_n 2, 1) := by decide +kernel
theorem dX0_leave_6 : decode cX0_leave 6 = .ok (.iload_n 2, 1) := by decide +kernel
theorem dX0_leave_7 : decode cX0_leave 7 = .ok (.iconst (-1), 1) := by decide +kernel
theorem dX0_leave_8 : decode cX0_leave 8 = .ok (.if_icmp .ne 4, 3) := by decide +kernel
theorem dX0_leave_11 : decode cX0_leave 11 = .ok (.return_, 1) := by decide +kernel
theorem dX0_leave_12 : decode cX0_leave 12 = .ok (.iload_n 2, 1) := by decide +kernel
theorem dX0_leave_13 : decode cX0_leave 13 = .ok (.istore_n 3, 1) := by decide +kernel
theorem dX0_leave_14 : decode cX0_leave 14 = .ok (.iload_n 3, 1) := by decide +kernel
theorem dX0_leave_15 : decode cX0_leave 15 = .ok (.aload_n 0, 1) := by decide +kernel
theorem dX0_leave_16 : decode cX0_leave 16 = .ok (.getfield 15, 3) := by decide +kernel
theorem dX0_leave_19 : decode cX0_leave 19 = .ok (.iconst 1, 1) := by decide +kernel
theorem dX0_leave_20 : decode cX0_leave 20 = .ok (.isub, 1) := by decide +kernel
theorem dX0_leave_21 : decode cX0_leave 21 = .ok (.if_icmp .ge 27, 3) := by decide +kernel
theorem dX0_leave_24 : decode cX0_leave 24 = .ok (.aload_n 0, 1) := by decide +kernel
theorem dX0_leave_25 : decode cX0_leave 25 = .ok (.getfield 9, 3) := by decide +kernel
theorem dX0_leave_28 : decode cX0_leave 28 = .ok (.iload_n 3, 1) := by decide +kernel
theorem dX0_leave_29 : decode cX0_leave 29 = .ok (.aload_n 0, 1) := by decide +kernel
theorem dX0_leave_30 : decode cX0_leave 30 = .ok (.getfield 9, 3) := by decide +kernel
theorem dX0_leave_33 : decode cX0_leave 33 = .ok (.iload_n 3, 1) := by decide +kernel
theorem dX0_leave_34 : decode cX0_leave 34 = .ok (.iconst 1, 1) := by decide +kernel
theorem dX0_leave_35 : decode cX0_leave 35 = .ok (.iadd, 1) := by decide +kernel
theorem dX0_leave_36 : decode cX0_leave 36 = .ok (.invokestatic 19, 3) := by decide +kernel
theorem dX0_leave_39 : decode cX0_leave 39 = .ok (.invokestatic 27, 3) := by decide +kernel
theorem dX0_leave_42 : decode cX0_leave 42 = .ok (.iinc 3 1, 3) := by decide +kernel
theorem dX0_leave_45 : decode cX0_leave 45 = .ok (.goto (-31), 3) := by decide +kernel
theorem dX0_leave_48 : decode cX0_leave 48 = .ok (.aload_n 0, 1) := by decide +kernel
theorem dX0_leave_49 : decode cX0_leave 49 = .ok (.dup, 1) := by decide +kernel
theorem dX0_leave_50 : decode cX0_leave 50 = .ok (.getfield 15, 3) := by decide +kernel
theorem dX0_leave_53 : decode cX0_leave 53 = .ok (.iconst 1, 1) := by decide +kernel
theorem dX0_leave_54 : decode cX0_leave 54 = .ok (.isub, 1) := by decide +kernel
theorem dX0_leave_55 : decode cX0_leave 55 = .ok (.putfield 15, 3) := by decide +kernel
theorem dX0_leave_58 : decode cX0_leave 58 = .ok (.return_, 1) := by decide +kernel
abbrev rmX0_leave : Room := { frames := 2, cells := 0, slots := 0, locals := 43 }
theorem hdX0_leave : yX0_leave.cls ≠ "java/lang/invoke/MethodHandle" ∧ yX0_leave.cls ≠ "java/lang/invoke/VarHandle" ∧ (parseMethodDescriptor yX0_leave.desc).map (fun d => d.parameters.length) = some 1 := by decide +kernel
def fX0_leave_14 (b : Nat) : Nat → Sg → Int32 → Option Sg
  | 0, _, _ => none
  | n + 1, σ, l3 =>
    if ((σ.1 b 1) - 1) ≤ l3 then
      nm (su σ b 1 ((σ.1 b 1) - 1)) fun σ2 =>
      some σ2
    else
      (fX8_at σ (b + 1) 12 (l3 + 1)).bind fun r3 =>
      (fX8_put σ (b + 1) 12 l3 r3).bind fun σ4 =>
      ((fX0_leave_14 b n) σ4 (l3 + 1))
theorem bX0_leave_14 {X : Xc} {K : Kc} (C : MC X K cX0_leave 4 RX0 rmX0_leave) (hr : K.meth.sig.returnType = none) (b : Nat) (hb : orOK b) : ∀ (n : Nat) (σ : Sg) (l3 : Int32), GO X K 4 (fun r => MQv X K r) (fX0_leave_14 b n σ l3) σ 0 0 14 [some (.ref (X.ad b)), none, none, some (.int (l3))] [] := by
  intro n
  induction n with
  | zero =>
    intro σ l3
    exact g_none
  | succ n ih =>
    intro σ l3
    unfold fX0_leave_14
    refine g_iload_n (pc := 14) (i := 3) C dX0_leave_14 rfl rfl ?_
    refine g_aload_n (pc := 15) (i := 0) C dX0_leave_15 rfl rfl ?_
    refine g_geti (pc := 16) (ci := 0) (N := 2) (T := TX0) (j := 1) (Cn := RX0) C rfl inlX0 (Nat.le_of_ble_eq_true rfl) q_9_6 (blk hb 0 rfl) rfl dX0_leave_16 ?_
    refine g_iconst (pc := 19) (v := 1) C dX0_leave_19 (by decide) ?_
    refine g_isub (pc := 20) C dX0_leave_20 ?_
    refine g_icmp_ge (pc := 21) (tgt := 48) C dX0_leave_21 rfl ?_ ?_
    · refine g_aload_n (pc := 48) (i := 0) C dX0_leave_48 rfl rfl ?_
      refine g_dup (pc := 49) C dX0_leave_49 rfl ?_
      refine g_geti (pc := 50) (ci := 0) (N := 2) (T := TX0) (j := 1) (Cn := RX0) C rfl inlX0 (Nat.le_of_ble_eq_true rfl) q_9_6 (blk hb 0 rfl) rfl dX0_leave_50 ?_
      refine g_iconst (pc := 53) (v := 1) C dX0_leave_53 (by decide) ?_
      refine g_isub (pc := 54) C dX0_leave_54 ?_
      refine g_puti (pc := 55) (ci := 0) (N := 2) (T := TX0) (j := 1) (Cn := RX0) C rfl inlX0 tyX0_ok nmX0 (Nat.le_of_ble_eq_true rfl) q_9_6 (blk hb 0 rfl) rfl rfl rfl dX0_leave_55 ?_
      refine g_nms (fun σ2 => ?_)
      exact g_vret (pc := 58) C hr dX0_leave_58 rfl
    · refine g_aload_n (pc := 24) (i := 0) C dX0_leave_24 rfl rfl ?_
      refine g_getr (pc := 25) (ci := 0) (N := 2) (T := TX0) (j := 0) (Cn := RX0) (b + 1) C rfl inlX0 (Nat.le_of_ble_eq_true rfl) q_3_5 (blk hb 0 rfl) rfl dX0_leave_25 ?_
      refine g_iload_n (pc := 28) (i := 3) C dX0_leave_28 rfl rfl ?_
      refine g_aload_n (pc := 29) (i := 0) C dX0_leave_29 rfl rfl ?_
      refine g_getr (pc := 30) (ci := 0) (N := 2) (T := TX0) (j := 0) (Cn := RX0) (b + 1) C rfl inlX0 (Nat.le_of_ble_eq_true rfl) q_3_5 (blk hb 0 rfl) rfl dX0_leave_30 ?_
      refine g_iload_n (pc := 33) (i := 3) C dX0_leave_33 rfl rfl ?_
      refine g_iconst (pc := 34) (v := 1) C dX0_leave_34 (by decide) ?_
      refine g_iadd (pc := 35) C dX0_leave_35 ?_
      refine g_callNi (pc := 36) (As := [.ref (X.ad (b + 1)), .int (l3 + 1)]) C (kX8_at X σ (b + 1) 12 (l3 + 1) (blk hb 1 rfl)) (List.mem_of_getElem? (i := 0) rfl) q_11_22 q_1_2 q_11_23 hdX8_at ⟨Nat.le_of_ble_eq_true rfl, Nat.le_of_ble_eq_true rfl, rfl, rfl⟩ ⟨Nat.zero_le _, Nat.zero_le _⟩ (Nat.le_of_ble_eq_true rfl) rfl rfl dX0_leave_36 (fun r3 _ => ?_)
      refine g_callNv (pc := 39) (As := [.ref (X.ad (b + 1)), .int (l3), .int (r3)]) C (kX8_put X σ (b + 1) 12 l3 r3 (blk hb 1 rfl)) (List.mem_of_getElem? (i := 1) rfl) q_9_20 q_1_2 q_9_21 hdX8_put ⟨Nat.le_of_ble_eq_true rfl, Nat.le_of_ble_eq_true rfl, rfl, rfl⟩ ⟨Nat.zero_le _, Nat.zero_le _⟩ (Nat.le_of_ble_eq_true rfl) rfl rfl dX0_leave_39 (fun σ4 _ => ?_)
      refine g_iinc (pc := 42) (v := l3 + 1) C dX0_leave_42 rfl (rfl) (Nat.le_of_ble_eq_true rfl) rfl ?_
      refine g_goto (pc := 45) (tgt := 14) C dX0_leave_45 rfl ?_
      refine g_keep [true, false, false, true] ?_
      exact ih σ4 (l3 + 1)
def fX0_leave (σ : Sg) (b : Nat) (p1 : Int32) : Option Sg :=
  (fX0_indexOf σ b p1).bind fun r1 =>
  if r1 = (-1) then
    some σ
  else
    (fX0_leave_14 b FU σ r1)
theorem kX0_leave (X : Xc) (σ : Sg) (b : Nat) (p1 : Int32) (hb : orOK b) : ∀ r, fX0_leave σ b p1 = some r → Met X.l yX0_leave (wsM yX0_leave cX0_leave 4 none) rmX0_leave (va_Pc [.ref (X.ad b), .int p1] (PW X σ)) (Qv X r) 0 0 X.A := by
  refine mt_of (own := RX0) (lo := [some (.ref (X.ad b)), some (.int (p1)), none, none]) (by decide) rfl (Nat.le_of_ble_eq_true rfl) rfl (fun K C hr => ?_)
  unfold fX0_leave
  refine g_aload_n (pc := 0) (i := 0) C dX0_leave_0 rfl rfl ?_
  refine g_iload_n (pc := 1) (i := 1) C dX0_leave_1 rfl rfl ?_
  refine g_callVi (pc := 2) (As := [.int (p1)]) C (kX0_indexOf X σ b p1 hb) (blk hb 0 rfl) rfl q_13_16 q_13_17 q_13_18 q_2_19 q_13_19 ⟨rfl, hdX0_indexOf⟩ ⟨Nat.le_of_ble_eq_true rfl, Nat.le_of_ble_eq_true rfl, rfl, rfl⟩ ⟨Nat.zero_le _, Nat.zero_le _⟩ (Nat.le_of_ble_eq_true rfl) rfl rfl dX0_leave_2 (fun r1 _ => ?_)
  refine g_istore_n (pc := 5) (i := 2) C dX0_leave_5 rfl (Nat.le_of_ble_eq_true rfl) rfl ?_
  refine g_iload_n (pc := 6) (i := 2) C dX0_leave_6 rfl rfl ?_
  refine g_iconst (pc := 7) (v := (-1)) C dX0_leave_7 (by decide) ?_
  refine g_icmp_ne (pc := 8) (tgt := 12) C dX0_leave_8 rfl ?_ ?_
  · exact g_vret (pc := 11) C hr dX0_leave_11 rfl
  · refine g_iload_n (pc := 12) (i := 2) C dX0_leave_12 rfl rfl ?_
    refine g_istore_n (pc := 13) (i := 3) C dX0_leave_13 rfl (Nat.le_of_ble_eq_true rfl) rfl ?_
    refine g_keep [true, false, false, true] ?_
    exact bX0_leave_14 C hr b hb FU σ r1
theorem dJ6_bitCount_0f7a4_0 : decode cJ6_bitCount_0f7a4 0 = .ok (.iload_n 0, 1) := by decide +kernel
theorem dJ6_bitCount_0f7a4_1 : decode cJ6_bitCount_0f7a4 1 = .ok (.iload_n 0, 1) := by decide +kernel
theorem dJ6_bitCount_0f7a4_2 : decode cJ6_bitCount_0f7a4 2 = .ok (.iconst 1, 1) := by decide +kernel
theorem dJ6_bitCount_0f7a4_3 : decode cJ6_bitCount_0f7a4 3 = .ok (.iushr, 1) := by decide +kernel
theorem dJ6_bitCount_0f7a4_4 : decode cJ6_bitCount_0f7a4 4 = .ok (.ldc_w 265, 3) := by decide +kernel
theorem dJ6_bitCount_0f7a4_7 : decode cJ6_bitCount_0f7a4 7 = .ok (.iand, 1) := by decide +kernel
theorem dJ6_bitCount_0f7a4_8 : decode cJ6_bitCount_0f7a4 8 = .ok (.isub, 1) := by decide +kernel
theorem dJ6_bitCount_0f7a4_9 : decode cJ6_bitCount_0f7a4 9 = .ok (.istore_n 0, 1) := by decide +kernel
theorem dJ6_bitCount_0f7a4_10 : decode cJ6_bitCount_0f7a4 10 = .ok (.iload_n 0, 1) := by decide +kernel
theorem dJ6_bitCount_0f7a4_11 : decode cJ6_bitCount_0f7a4 11 = .ok (.ldc_w 266, 3) := by decide +kernel
theorem dJ6_bitCount_0f7a4_14 : decode cJ6_bitCount_0f7a4 14 = .ok (.iand, 1) := by decide +kernel
theorem dJ6_bitCount_0f7a4_15 : decode cJ6_bitCount_0f7a4 15 = .ok (.iload_n 0, 1) := by decide +kernel
theorem dJ6_bitCount_0f7a4_16 : decode cJ6_bitCount_0f7a4 16 = .ok (.iconst 2, 1) := by decide +kernel
theorem dJ6_bitCount_0f7a4_17 : decode cJ6_bitCount_0f7a4 17 = .ok (.iushr, 1) := by decide +kernel
theorem dJ6_bitCount_0f7a4_18 : decode cJ6_bitCount_0f7a4 18 = .ok (.ldc_w 266, 3) := by decide +kernel
theorem dJ6_bitCount_0f7a4_21 : decode cJ6_bitCount_0f7a4 21 = .ok (.iand, 1) := by decide +kernel
theorem dJ6_bitCount_0f7a4_22 : decode cJ6_bitCount_0f7a4 22 = .ok (.iadd, 1) := by decide +kernel
theorem dJ6_bitCount_0f7a4_23 : decode cJ6_bitCount_0f7a4 23 = .ok (.istore_n 0, 1) := by decide +kernel
theorem dJ6_bitCount_0f7a4_24 : decode cJ6_bitCount_0f7a4 24 = .ok (.iload_n 0, 1) := by decide +kernel
theorem dJ6_bitCount_0f7a4_25 : decode cJ6_bitCount_0f7a4 25 = .ok (.iload_n 0, 1) := by decide +kernel
theorem dJ6_bitCount_0f7a4_26 : decode cJ6_bitCount_0f7a4 26 = .ok (.iconst 4, 1) := by decide +kernel
theorem dJ6_bitCount_0f7a4_27 : decode cJ6_bitCount_0f7a4 27 = .ok (.iushr, 1) := by decide +kernel
theorem dJ6_bitCount_0f7a4_28 : decode cJ6_bitCount_0f7a4 28 = .ok (.iadd, 1) := by decide +kernel
theorem dJ6_bitCount_0f7a4_29 : decode cJ6_bitCount_0f7a4 29 = .ok (.ldc_w 267, 3) := by decide +kernel
theorem dJ6_bitCount_0f7a4_32 : decode cJ6_bitCount_0f7a4 32 = .ok (.iand, 1) := by decide +kernel
theorem dJ6_bitCount_0f7a4_33 : decode cJ6_bitCount_0f7a4 33 = .ok (.istore_n 0, 1) := by decide +kernel
theorem dJ6_bitCount_0f7a4_34 : decode cJ6_bitCount_0f7a4 34 = .ok (.iload_n 0, 1) := by decide +kernel
theorem dJ6_bitCount_0f7a4_35 : decode cJ6_bitCount_0f7a4 35 = .ok (.iload_n 0, 1) := by decide +kernel
theorem dJ6_bitCount_0f7a4_36 : decode cJ6_bitCount_0f7a4 36 = .ok (.bipush 8, 2) := by decide +kernel
theorem dJ6_bitCount_0f7a4_38 : decode cJ6_bitCount_0f7a4 38 = .ok (.iushr, 1) := by decide +kernel
theorem dJ6_bitCount_0f7a4_39 : decode cJ6_bitCount_0f7a4 39 = .ok (.iadd, 1) := by decide +kernel
theorem dJ6_bitCount_0f7a4_40 : decode cJ6_bitCount_0f7a4 40 = .ok (.istore_n 0, 1) := by decide +kernel
theorem dJ6_bitCount_0f7a4_41 : decode cJ6_bitCount_0f7a4 41 = .ok (.iload_n 0, 1) := by decide +kernel
theorem dJ6_bitCount_0f7a4_42 : decode cJ6_bitCount_0f7a4 42 = .ok (.iload_n 0, 1) := by decide +kernel
theorem dJ6_bitCount_0f7a4_43 : decode cJ6_bitCount_0f7a4 43 = .ok (.bipush 16, 2) := by decide +kernel
theorem dJ6_bitCount_0f7a4_45 : decode cJ6_bitCount_0f7a4 45 = .ok (.iushr, 1) := by decide +kernel
theorem dJ6_bitCount_0f7a4_46 : decode cJ6_bitCount_0f7a4 46 = .ok (.iadd, 1) := by decide +kernel
theorem dJ6_bitCount_0f7a4_47 : decode cJ6_bitCount_0f7a4 47 = .ok (.istore_n 0, 1) := by decide +kernel
theorem dJ6_bitCount_0f7a4_48 : decode cJ6_bitCount_0f7a4 48 = .ok (.iload_n 0, 1) := by decide +kernel
theorem dJ6_bitCount_0f7a4_49 : decode cJ6_bitCount_0f7a4 49 = .ok (.bipush 63, 2) := by decide +kernel
theorem dJ6_bitCount_0f7a4_51 : decode cJ6_bitCount_0f7a4 51 = .ok (.iand, 1) := by decide +kernel
theorem dJ6_bitCount_0f7a4_52 : decode cJ6_bitCount_0f7a4 52 = .ok (.ireturn, 1) := by decide +kernel
abbrev rmJ6_bitCount_0f7a4 : Room := { frames := 0, cells := 0, slots := 0, locals := 0 }
theorem hdJ6_bitCount_0f7a4 : yJ6_bitCount_0f7a4.cls ≠ "java/lang/invoke/MethodHandle" ∧ yJ6_bitCount_0f7a4.cls ≠ "java/lang/invoke/VarHandle" ∧ (parseMethodDescriptor yJ6_bitCount_0f7a4.desc).map (fun d => d.parameters.length) = some 1 := by decide +kernel
def fJ6_bitCount_0f7a4 (σ : Sg) (p0 : Int32) : Option Int32 :=
  nm ((p0.toUInt32 >>> ((1 : Int32).toUInt32 &&& Int32.toUInt32 31)).toInt32) fun v1 =>
  nm (p0 - (v1 &&& 1431655765)) fun v2 =>
  nm ((v2.toUInt32 >>> ((2 : Int32).toUInt32 &&& Int32.toUInt32 31)).toInt32) fun v3 =>
  nm ((v2 &&& 858993459) + (v3 &&& 858993459)) fun v4 =>
  nm ((v4.toUInt32 >>> ((4 : Int32).toUInt32 &&& Int32.toUInt32 31)).toInt32) fun v5 =>
  nm ((v4 + v5) &&& 252645135) fun v6 =>
  nm ((v6.toUInt32 >>> ((8 : Int32).toUInt32 &&& Int32.toUInt32 31)).toInt32) fun v7 =>
  nm (v6 + v7) fun v8 =>
  nm ((v8.toUInt32 >>> ((16 : Int32).toUInt32 &&& Int32.toUInt32 31)).toInt32) fun v9 =>
  nm (v8 + v9) fun v10 =>
  some (v10 &&& 63)
theorem kJ6_bitCount_0f7a4 (X : Xc) (σ : Sg) (p0 : Int32) : ∀ r, fJ6_bitCount_0f7a4 σ p0 = some r → Met X.l yJ6_bitCount_0f7a4 (wsM yJ6_bitCount_0f7a4 cJ6_bitCount_0f7a4 1 (some .int)) rmJ6_bitCount_0f7a4 (va_Pc [.int p0] (PW X σ)) (Qi X r σ) 0 0 X.A := by
  refine mt_of (own := RJ6) (lo := [some (.int (p0))]) (by decide) rfl (Nat.le_of_ble_eq_true rfl) rfl (fun K C hr => ?_)
  unfold fJ6_bitCount_0f7a4
  refine g_iload_n (pc := 0) (i := 0) C dJ6_bitCount_0f7a4_0 rfl rfl ?_
  refine g_iload_n (pc := 1) (i := 0) C dJ6_bitCount_0f7a4_1 rfl rfl ?_
  refine g_iconst (pc := 2) (v := 1) C dJ6_bitCount_0f7a4_2 (by decide) ?_
  refine g_iushr (pc := 3) C dJ6_bitCount_0f7a4_3 ?_
  refine g_nm (fun v1 => ?_)
  refine g_ldcw (pc := 4) (v := 1431655765) C q_19_9 dJ6_bitCount_0f7a4_4 ?_
  refine g_iand (pc := 7) C dJ6_bitCount_0f7a4_7 ?_
  refine g_isub (pc := 8) C dJ6_bitCount_0f7a4_8 ?_
  refine g_nm (fun v2 => ?_)
  refine g_istore_n (pc := 9) (i := 0) C dJ6_bitCount_0f7a4_9 rfl (Nat.le_of_ble_eq_true rfl) rfl ?_
  refine g_iload_n (pc := 10) (i := 0) C dJ6_bitCount_0f7a4_10 rfl rfl ?_
  refine g_ldcw (pc := 11) (v := 858993459) C q_19_10 dJ6_bitCount_0f7a4_11 ?_
  refine g_iand (pc := 14) C dJ6_bitCount_0f7a4_14 ?_
  refine g_iload_n (pc := 15) (i := 0) C dJ6_bitCount_0f7a4_15 rfl rfl ?_
  refine g_iconst (pc := 16) (v := 2) C dJ6_bitCount_0f7a4_16 (by decide) ?_
  refine g_iushr (pc := 17) C dJ6_bitCount_0f7a4_17 ?_
  refine g_nm (fun v3 => ?_)
  refine g_ldcw (pc := 18) (v := 858993459) C q_19_10 dJ6_bitCount_0f7a4_18 ?_
  refine g_iand (pc := 21) C dJ6_bitCount_0f7a4_21 ?_
  refine g_iadd (pc := 22) C dJ6_bitCount_0f7a4_22 ?_
  refine g_nm (fun v4 => ?_)
  refine g_istore_n (pc := 23) (i := 0) C dJ6_bitCount_0f7a4_23 rfl (Nat.le_of_ble_eq_true rfl) rfl ?_
  refine g_iload_n (pc := 24) (i := 0) C dJ6_bitCount_0f7a4_24 rfl rfl ?_
  refine g_iload_n (pc := 25) (i := 0) C dJ6_bitCount_0f7a4_25 rfl rfl ?_
  refine g_iconst (pc := 26) (v := 4) C dJ6_bitCount_0f7a4_26 (by decide) ?_
  refine g_iushr (pc := 27) C dJ6_bitCount_0f7a4_27 ?_
  refine g_nm (fun v5 => ?_)
  refine g_iadd (pc := 28) C dJ6_bitCount_0f7a4_28 ?_
  refine g_ldcw (pc := 29) (v := 252645135) C q_19_11 dJ6_bitCount_0f7a4_29 ?_
  refine g_iand (pc := 32) C dJ6_bitCount_0f7a4_32 ?_
  refine g_nm (fun v6 => ?_)
  refine g_istore_n (pc := 33) (i := 0) C dJ6_bitCount_0f7a4_33 rfl (Nat.le_of_ble_eq_true rfl) rfl ?_
  refine g_iload_n (pc := 34) (i := 0) C dJ6_bitCount_0f7a4_34 rfl rfl ?_
  refine g_iload_n (pc := 35) (i := 0) C dJ6_bitCount_0f7a4_35 rfl rfl ?_
  refine g_bipush (pc := 36) (v := 8) C dJ6_bitCount_0f7a4_36 (by decide) ?_
  refine g_iushr (pc := 38) C dJ6_bitCount_0f7a4_38 ?_
  refine g_nm (fun v7 => ?_)
  refine g_iadd (pc := 39) C dJ6_bitCount_0f7a4_39 ?_
  refine g_nm (fun v8 => ?_)
  refine g_istore_n (pc := 40) (i := 0) C dJ6_bitCount_0f7a4_40 rfl (Nat.le_of_ble_eq_true rfl) rfl ?_
  refine g_iload_n (pc := 41) (i := 0) C dJ6_bitCount_0f7a4_41 rfl rfl ?_
  refine g_iload_n (pc := 42) (i := 0) C dJ6_bitCount_0f7a4_42 rfl rfl ?_
  refine g_bipush (pc := 43) (v := 16) C dJ6_bitCount_0f7a4_43 (by decide) ?_
  refine g_iushr (pc := 45) C dJ6_bitCount_0f7a4_45 ?_
  refine g_nm (fun v9 => ?_)
  refine g_iadd (pc := 46) C dJ6_bitCount_0f7a4_46 ?_
  refine g_nm (fun v10 => ?_)
  refine g_istore_n (pc := 47) (i := 0) C dJ6_bitCount_0f7a4_47 rfl (Nat.le_of_ble_eq_true rfl) rfl ?_
  refine g_iload_n (pc := 48) (i := 0) C dJ6_bitCount_0f7a4_48 rfl rfl ?_
  refine g_bipush (pc := 49) (v := 63) C dJ6_bitCount_0f7a4_49 (by decide) ?_
  refine g_iand (pc := 51) C dJ6_bitCount_0f7a4_51 ?_
  exact g_iret (pc := 52) C hr dJ6_bitCount_0f7a4_52 rfl
theorem dX0_putLast_0 : decode cX0_putLast 0 = .ok (.aload_n 0, 1) := by decide +kernel
theorem dX0_putLast_1 : decode cX0_putLast 1 = .ok (.iload_n 1, 1) := by decide +kernel
theorem dX0_putLast_2 : decode cX0_putLast 2 = .ok (.invokevirtual 35, 3) := by decide +kernel
theorem dX0_putLast_5 : decode cX0_putLast 5 = .ok (.aload_n 0, 1) := by decide +kernel
theorem dX0_putLast_6 : decode cX0_putLast 6 = .ok (.getfield 15, 3) := by decide +kernel
theorem dX0_putLast_9 : decode cX0_putLast 9 = .ok (.aload_n 0, 1) := by decide +kernel
theorem dX0_putLast_10 : decode cX0_putLast 10 = .ok (.getfield 9, 3) := by decide +kernel
theorem dX0_putLast_13 : decode cX0_putLast 13 = .ok (.arraylength, 1) := by decide +kernel
theorem dX0_putLast_14 : decode cX0_putLast 14 = .ok (.if_icmp .ge 25, 3) := by decide +kernel
theorem dX0_putLast_17 : decode cX0_putLast 17 = .ok (.aload_n 0, 1) := by decide +kernel
theorem dX0_putLast_18 : decode cX0_putLast 18 = .ok (.getfield 9, 3) := by decide +kernel
theorem dX0_putLast_21 : decode cX0_putLast 21 = .ok (.aload_n 0, 1) := by decide +kernel
theorem dX0_putLast_22 : decode cX0_putLast 22 = .ok (.getfield 15, 3) := by decide +kernel
theorem dX0_putLast_25 : decode cX0_putLast 25 = .ok (.iload_n 1, 1) := by decide +kernel
theorem dX0_putLast_26 : decode cX0_putLast 26 = .ok (.invokestatic 27, 3) := by decide +kernel
theorem dX0_putLast_29 : decode cX0_putLast 29 = .ok (.aload_n 0, 1) := by decide +kernel
theorem dX0_putLast_30 : decode cX0_putLast 30 = .ok (.dup, 1) := by decide +kernel
theorem dX0_putLast_31 : decode cX0_putLast 31 = .ok (.getfield 15, 3) := by decide +kernel
theorem dX0_putLast_34 : decode cX0_putLast 34 = .ok (.iconst 1, 1) := by decide +kernel
theorem dX0_putLast_35 : decode cX0_putLast 35 = .ok (.iadd, 1) := by decide +kernel
theorem dX0_putLast_36 : decode cX0_putLast 36 = .ok (.putfield 15, 3) := by decide +kernel
theorem dX0_putLast_39 : decode cX0_putLast 39 = .ok (.return_, 1) := by decide +kernel
abbrev rmX0_putLast : Room := { frames := 3, cells := 0, slots := 0, locals := 66 }
theorem hdX0_putLast : yX0_putLast.cls ≠ "java/lang/invoke/MethodHandle" ∧ yX0_putLast.cls ≠ "java/lang/invoke/VarHandle" ∧ (parseMethodDescriptor yX0_putLast.desc).map (fun d => d.parameters.length) = some 1 := by decide +kernel
def fX0_putLast (σ : Sg) (b : Nat) (p1 : Int32) : Option Sg :=
  (fX0_leave σ b p1).bind fun σ1 =>
  if (nI 12) ≤ (σ1.1 b 1) then
    some σ1
  else
    (fX8_put σ1 (b + 1) 12 (σ1.1 b 1) p1).bind fun σ2 =>
    nm (su σ2 b 1 ((σ2.1 b 1) + 1)) fun σ3 =>
    some σ3
theorem kX0_putLast (X : Xc) (σ : Sg) (b : Nat) (p1 : Int32) (hb : orOK b) : ∀ r, fX0_putLast σ b p1 = some r → Met X.l yX0_putLast (wsM yX0_putLast cX0_putLast 2 none) rmX0_putLast (va_Pc [.ref (X.ad b), .int p1] (PW X σ)) (Qv X r) 0 0 X.A := by
  refine mt_of (own := RX0) (lo := [some (.ref (X.ad b)), some (.int (p1))]) (by decide) rfl (Nat.le_of_ble_eq_true rfl) rfl (fun K C hr => ?_)
  unfold fX0_putLast
  refine g_aload_n (pc := 0) (i := 0) C dX0_putLast_0 rfl rfl ?_
  refine g_iload_n (pc := 1) (i := 1) C dX0_putLast_1 rfl rfl ?_
  refine g_callVv (pc := 2) (As := [.int (p1)]) C (kX0_leave X σ b p1 hb) (blk hb 0 rfl) rfl q_31_17 q_13_13 q_13_14 q_2_19 q_13_15 ⟨rfl, hdX0_leave⟩ ⟨Nat.le_of_ble_eq_true rfl, Nat.le_of_ble_eq_true rfl, rfl, rfl⟩ ⟨Nat.zero_le _, Nat.zero_le _⟩ (Nat.le_of_ble_eq_true rfl) rfl rfl dX0_putLast_2 (fun σ1 _ => ?_)
  refine g_aload_n (pc := 5) (i := 0) C dX0_putLast_5 rfl rfl ?_
  refine g_geti (pc := 6) (ci := 0) (N := 2) (T := TX0) (j := 1) (Cn := RX0) C rfl inlX0 (Nat.le_of_ble_eq_true rfl) q_9_6 (blk hb 0 rfl) rfl dX0_putLast_6 ?_
  refine g_aload_n (pc := 9) (i := 0) C dX0_putLast_9 rfl rfl ?_
  refine g_getr (pc := 10) (ci := 0) (N := 2) (T := TX0) (j := 0) (Cn := RX0) (b + 1) C rfl inlX0 (Nat.le_of_ble_eq_true rfl) q_3_5 (blk hb 0 rfl) rfl dX0_putLast_10 ?_
  refine g_ialen (pc := 13) C (blk hb 1 rfl) dX0_putLast_13 ?_
  refine g_icmp_ge (pc := 14) (tgt := 39) C dX0_putLast_14 rfl ?_ ?_
  · exact g_vret (pc := 39) C hr dX0_putLast_39 rfl
  · refine g_aload_n (pc := 17) (i := 0) C dX0_putLast_17 rfl rfl ?_
    refine g_getr (pc := 18) (ci := 0) (N := 2) (T := TX0) (j := 0) (Cn := RX0) (b + 1) C rfl inlX0 (Nat.le_of_ble_eq_true rfl) q_3_5 (blk hb 0 rfl) rfl dX0_putLast_18 ?_
    refine g_aload_n (pc := 21) (i := 0) C dX0_putLast_21 rfl rfl ?_
    refine g_geti (pc := 22) (ci := 0) (N := 2) (T := TX0) (j := 1) (Cn := RX0) C rfl inlX0 (Nat.le_of_ble_eq_true rfl) q_9_6 (blk hb 0 rfl) rfl dX0_putLast_22 ?_
    refine g_iload_n (pc := 25) (i := 1) C dX0_putLast_25 rfl rfl ?_
    refine g_callNv (pc := 26) (As := [.ref (X.ad (b + 1)), .int (σ1.1 b 1), .int (p1)]) C (kX8_put X σ1 (b + 1) 12 (σ1.1 b 1) p1 (blk hb 1 rfl)) (List.mem_of_getElem? (i := 1) rfl) q_9_20 q_1_2 q_9_21 hdX8_put ⟨Nat.le_of_ble_eq_true rfl, Nat.le_of_ble_eq_true rfl, rfl, rfl⟩ ⟨Nat.zero_le _, Nat.zero_le _⟩ (Nat.le_of_ble_eq_true rfl) rfl rfl dX0_putLast_26 (fun σ2 _ => ?_)
    refine g_aload_n (pc := 29) (i := 0) C dX0_putLast_29 rfl rfl ?_
    refine g_dup (pc := 30) C dX0_putLast_30 rfl ?_
    refine g_geti (pc := 31) (ci := 0) (N := 2) (T := TX0) (j := 1) (Cn := RX0) C rfl inlX0 (Nat.le_of_ble_eq_true rfl) q_9_6 (blk hb 0 rfl) rfl dX0_putLast_31 ?_
    refine g_iconst (pc := 34) (v := 1) C dX0_putLast_34 (by decide) ?_
    refine g_iadd (pc := 35) C dX0_putLast_35 ?_
    refine g_puti (pc := 36) (ci := 0) (N := 2) (T := TX0) (j := 1) (Cn := RX0) C rfl inlX0 tyX0_ok nmX0 (Nat.le_of_ble_eq_true rfl) q_9_6 (blk hb 0 rfl) rfl rfl rfl dX0_putLast_36 ?_
    refine g_nms (fun σ3 => ?_)
    exact g_vret (pc := 39) C hr dX0_putLast_39 rfl
theorem dX0_item_0 : decode cX0_item 0 = .ok (.iload_n 1, 1) := by decide +kernel
theorem dX0_item_1 : decode cX0_item 1 = .ok (.aload_n 0, 1) := by decide +kernel
theorem dX0_item_2 : decode cX0_item 2 = .ok (.getfield 15, 3) := by decide +kernel
theorem dX0_item_5 : decode cX0_item 5 = .ok (.if_icmp .ge 14, 3) := by decide +kernel
theorem dX0_item_8 : decode cX0_item 8 = .ok (.aload_n 0, 1) := by decide +kernel
theorem dX0_item_9 : decode cX0_item 9 = .ok (.getfield 9, 3) := by decide +kernel
theorem dX0_item_12 : decode cX0_item 12 = .ok (.iload_n 1, 1) := by decide +kernel
theorem dX0_item_13 : decode cX0_item 13 = .ok (.invokestatic 19, 3) := by decide +kernel
theorem dX0_item_16 : decode cX0_item 16 = .ok (.goto 4, 3) := by decide +kernel
theorem dX0_item_19 : decode cX0_item 19 = .ok (.iconst (-1), 1) := by decide +kernel
theorem dX0_item_20 : decode cX0_item 20 = .ok (.ireturn, 1) := by decide +kernel
abbrev rmX0_item : Room := { frames := 1, cells := 0, slots := 0, locals := 21 }
theorem hdX0_item : yX0_item.cls ≠ "java/lang/invoke/MethodHandle" ∧ yX0_item.cls ≠ "java/lang/invoke/VarHandle" ∧ (parseMethodDescriptor yX0_item.desc).map (fun d => d.parameters.length) = some 1 := by decide +kernel
def fX0_item (σ : Sg) (b : Nat) (p1 : Int32) : Option Int32 :=
  if (σ.1 b 1) ≤ p1 then
    some (-1)
  else
    (fX8_at σ (b + 1) 12 p1).bind fun r1 =>
    some r1
theorem kX0_item (X : Xc) (σ : Sg) (b : Nat) (p1 : Int32) (hb : orOK b) : ∀ r, fX0_item σ b p1 = some r → Met X.l yX0_item (wsM yX0_item cX0_item 2 (some .int)) rmX0_item (va_Pc [.ref (X.ad b), .int p1] (PW X σ)) (Qi X r σ) 0 0 X.A := by
  refine mt_of (own := RX0) (lo := [some (.ref (X.ad b)), some (.int (p1))]) (by decide) rfl (Nat.le_of_ble_eq_true rfl) rfl (fun K C hr => ?_)
  unfold fX0_item
  refine g_iload_n (pc := 0) (i := 1) C dX0_item_0 rfl rfl ?_
  refine g_aload_n (pc := 1) (i := 0) C dX0_item_1 rfl rfl ?_
  refine g_geti (pc := 2) (ci := 0) (N := 2) (T := TX0) (j := 1) (Cn := RX0) C rfl inlX0 (Nat.le_of_ble_eq_true rfl) q_9_6 (blk hb 0 rfl) rfl dX0_item_2 ?_
  refine g_icmp_ge (pc := 5) (tgt := 19) C dX0_item_5 rfl ?_ ?_
  · refine g_iconst (pc := 19) (v := (-1)) C dX0_item_19 (by decide) ?_
    exact g_iret (pc := 20) C hr dX0_item_20 rfl
  · refine g_aload_n (pc := 8) (i := 0) C dX0_item_8 rfl rfl ?_
    refine g_getr (pc := 9) (ci := 0) (N := 2) (T := TX0) (j := 0) (Cn := RX0) (b + 1) C rfl inlX0 (Nat.le_of_ble_eq_true rfl) q_3_5 (blk hb 0 rfl) rfl dX0_item_9 ?_
    refine g_iload_n (pc := 12) (i := 1) C dX0_item_12 rfl rfl ?_
    refine g_callNi (pc := 13) (As := [.ref (X.ad (b + 1)), .int (p1)]) C (kX8_at X σ (b + 1) 12 p1 (blk hb 1 rfl)) (List.mem_of_getElem? (i := 0) rfl) q_11_22 q_1_2 q_11_23 hdX8_at ⟨Nat.le_of_ble_eq_true rfl, Nat.le_of_ble_eq_true rfl, rfl, rfl⟩ ⟨Nat.zero_le _, Nat.zero_le _⟩ (Nat.le_of_ble_eq_true rfl) rfl rfl dX0_item_13 (fun r1 _ => ?_)
    refine g_goto (pc := 16) (tgt := 20) C dX0_item_16 rfl ?_
    exact g_iret (pc := 20) C hr dX0_item_20 rfl
theorem dX8_directionOf_0 : decode cX8_directionOf 0 = .ok (.iload_n 0, 1) := by decide +kernel
theorem dX8_directionOf_1 : decode cX8_directionOf 1 = .ok (.ifCond .eq 8, 3) := by decide +kernel
theorem dX8_directionOf_4 : decode cX8_directionOf 4 = .ok (.iload_n 0, 1) := by decide +kernel
theorem dX8_directionOf_5 : decode cX8_directionOf 5 = .ok (.iconst 1, 1) := by decide +kernel
theorem dX8_directionOf_6 : decode cX8_directionOf 6 = .ok (.if_icmp .ne 7, 3) := by decide +kernel
theorem dX8_directionOf_9 : decode cX8_directionOf 9 = .ok (.iconst 0, 1) := by decide +kernel
theorem dX8_directionOf_10 : decode cX8_directionOf 10 = .ok (.goto 4, 3) := by decide +kernel
theorem dX8_directionOf_13 : decode cX8_directionOf 13 = .ok (.iconst 1, 1) := by decide +kernel
theorem dX8_directionOf_14 : decode cX8_directionOf 14 = .ok (.ireturn, 1) := by decide +kernel
abbrev rmX8_directionOf : Room := { frames := 0, cells := 0, slots := 0, locals := 0 }
theorem hdX8_directionOf : yX8_directionOf.cls ≠ "java/lang/invoke/MethodHandle" ∧ yX8_directionOf.cls ≠ "java/lang/invoke/VarHandle" ∧ (parseMethodDescriptor yX8_directionOf.desc).map (fun d => d.parameters.length) = some 1 := by decide +kernel
def fX8_directionOf (σ : Sg) (p0 : Int32) : Option Int32 :=
  if p0 = 0 then
    some 0
  else
    if p0 = 1 then
      some 0
    else
      some 1
theorem kX8_directionOf (X : Xc) (σ : Sg) (p0 : Int32) : ∀ r, fX8_directionOf σ p0 = some r → Met X.l yX8_directionOf (wsM yX8_directionOf cX8_directionOf 1 (some .int)) rmX8_directionOf (va_Pc [.int p0] (PW X σ)) (Qi X r σ) 0 0 X.A := by
  refine mt_of (own := RX8) (lo := [some (.int (p0))]) (by decide) rfl (Nat.le_of_ble_eq_true rfl) rfl (fun K C hr => ?_)
  unfold fX8_directionOf
  refine g_iload_n (pc := 0) (i := 0) C dX8_directionOf_0 rfl rfl ?_
  refine g_if_eq (pc := 1) (tgt := 9) C dX8_directionOf_1 rfl ?_ ?_
  · refine g_iconst (pc := 9) (v := 0) C dX8_directionOf_9 (by decide) ?_
    refine g_goto (pc := 10) (tgt := 14) C dX8_directionOf_10 rfl ?_
    exact g_iret (pc := 14) C hr dX8_directionOf_14 rfl
  · refine g_iload_n (pc := 4) (i := 0) C dX8_directionOf_4 rfl rfl ?_
    refine g_iconst (pc := 5) (v := 1) C dX8_directionOf_5 (by decide) ?_
    refine g_icmp_ne (pc := 6) (tgt := 13) C dX8_directionOf_6 rfl ?_ ?_
    · refine g_iconst (pc := 9) (v := 0) C dX8_directionOf_9 (by decide) ?_
      refine g_goto (pc := 10) (tgt := 14) C dX8_directionOf_10 rfl ?_
      exact g_iret (pc := 14) C hr dX8_directionOf_14 rfl
    · refine g_iconst (pc := 13) (v := 1) C dX8_directionOf_13 (by decide) ?_
      exact g_iret (pc := 14) C hr dX8_directionOf_14 rfl
theorem dX0_putFirst_0 : decode cX0_putFirst 0 = .ok (.aload_n 0, 1) := by decide +kernel
theorem dX0_putFirst_1 : decode cX0_putFirst 1 = .ok (.iload_n 1, 1) := by decide +kernel
theorem dX0_putFirst_2 : decode cX0_putFirst 2 = .ok (.invokevirtual 31, 3) := by decide +kernel
theorem dX0_putFirst_5 : decode cX0_putFirst 5 = .ok (.aload_n 0, 1) := by decide +kernel
theorem dX0_putFirst_6 : decode cX0_putFirst 6 = .ok (.getfield 15, 3) := by decide +kernel
theorem dX0_putFirst_9 : decode cX0_putFirst 9 = .ok (.iconst 1, 1) := by decide +kernel
theorem dX0_putFirst_10 : decode cX0_putFirst 10 = .ok (.isub, 1) := by decide +kernel
theorem dX0_putFirst_11 : decode cX0_putFirst 11 = .ok (.istore_n 2, 1) := by decide +kernel
theorem dX0_putFirst_12 : decode cX0_putFirst 12 = .ok (.iload_n 2, 1) := by decide +kernel
theorem dX0_putFirst_13 : decode cX0_putFirst 13 = .ok (.ifCond .le 27, 3) := by decide +kernel
theorem dX0_putFirst_16 : decode cX0_putFirst 16 = .ok (.aload_n 0, 1) := by decide +kernel
theorem dX0_putFirst_17 : decode cX0_putFirst 17 = .ok (.getfield 9, 3) := by decide +kernel
theorem dX0_putFirst_20 : decode cX0_putFirst 20 = .ok (.iload_n 2, 1) := by decide +kernel
theorem dX0_putFirst_21 : decode cX0_putFirst 21 = .ok (.aload_n 0, 1) := by decide +kernel
theorem dX0_putFirst_22 : decode cX0_putFirst 22 = .ok (.getfield 9, 3) := by decide +kernel
theorem dX0_putFirst_25 : decode cX0_putFirst 25 = .ok (.iload_n 2, 1) := by decide +kernel
theorem dX0_putFirst_26 : decode cX0_putFirst 26 = .ok (.iconst 1, 1) := by decide +kernel
theorem dX0_putFirst_27 : decode cX0_putFirst 27 = .ok (.isub, 1) := by decide +kernel
theorem dX0_putFirst_28 : decode cX0_putFirst 28 = .ok (.invokestatic 19, 3) := by decide +kernel
theorem dX0_putFirst_31 : decode cX0_putFirst 31 = .ok (.invokestatic 27, 3) := by decide +kernel
theorem dX0_putFirst_34 : decode cX0_putFirst 34 = .ok (.iinc 2 (-1), 3) := by decide +kernel
theorem dX0_putFirst_37 : decode cX0_putFirst 37 = .ok (.goto (-25), 3) := by decide +kernel
theorem dX0_putFirst_40 : decode cX0_putFirst 40 = .ok (.aload_n 0, 1) := by decide +kernel
theorem dX0_putFirst_41 : decode cX0_putFirst 41 = .ok (.getfield 9, 3) := by decide +kernel
theorem dX0_putFirst_44 : decode cX0_putFirst 44 = .ok (.iconst 0, 1) := by decide +kernel
theorem dX0_putFirst_45 : decode cX0_putFirst 45 = .ok (.iload_n 1, 1) := by decide +kernel
theorem dX0_putFirst_46 : decode cX0_putFirst 46 = .ok (.invokestatic 27, 3) := by decide +kernel
theorem dX0_putFirst_49 : decode cX0_putFirst 49 = .ok (.return_, 1) := by decide +kernel
abbrev rmX0_putFirst : Room := { frames := 4, cells := 0, slots := 0, locals := 87 }
theorem hdX0_putFirst : yX0_putFirst.cls ≠ "java/lang/invoke/MethodHandle" ∧ yX0_putFirst.cls ≠ "java/lang/invoke/VarHandle" ∧ (parseMethodDescriptor yX0_putFirst.desc).map (fun d => d.parameters.length) = some 1 := by decide +kernel
def fX0_putFirst_12 (b : Nat) : Nat → Sg → Int32 → Int32 → Option Sg
  | 0, _, _, _ => none
  | n + 1, σ, l1, l2 =>
    if l2 ≤ 0 then
      (fX8_put σ (b + 1) 12 0 l1).bind fun σ3 =>
      some σ3
    else
      (fX8_at σ (b + 1) 12 (l2 - 1)).bind fun r4 =>
      (fX8_put σ (b + 1) 12 l2 r4).bind fun σ5 =>
      ((fX0_putFirst_12 b n) σ5 l1 (l2 + (-1)))
theorem bX0_putFirst_12 {X : Xc} {K : Kc} (C : MC X K cX0_putFirst 3 RX0 rmX0_putFirst) (hr : K.meth.sig.returnType = none) (b : Nat) (hb : orOK b) : ∀ (n : Nat) (σ : Sg) (l1 : Int32) (l2 : Int32), GO X K 3 (fun r => MQv X K r) (fX0_putFirst_12 b n σ l1 l2) σ 0 0 12 [some (.ref (X.ad b)), some (.int (l1)), some (.int (l2))] [] := by
  intro n
  induction n with
  | zero =>
    intro σ l1 l2
    exact g_none
  | succ n ih =>
    intro σ l1 l2
    unfold fX0_putFirst_12
    refine g_iload_n (pc := 12) (i := 2) C dX0_putFirst_12 rfl rfl ?_
    refine g_if_le (pc := 13) (tgt := 40) C dX0_putFirst_13 rfl ?_ ?_
    · refine g_aload_n (pc := 40) (i := 0) C dX0_putFirst_40 rfl rfl ?_
      refine g_getr (pc := 41) (ci := 0) (N := 2) (T := TX0) (j := 0) (Cn := RX0) (b + 1) C rfl inlX0 (Nat.le_of_ble_eq_true rfl) q_3_5 (blk hb 0 rfl) rfl dX0_putFirst_41 ?_
      refine g_iconst (pc := 44) (v := 0) C dX0_putFirst_44 (by decide) ?_
      refine g_iload_n (pc := 45) (i := 1) C dX0_putFirst_45 rfl rfl ?_
      refine g_callNv (pc := 46) (As := [.ref (X.ad (b + 1)), .int (0), .int (l1)]) C (kX8_put X σ (b + 1) 12 0 l1 (blk hb 1 rfl)) (List.mem_of_getElem? (i := 1) rfl) q_9_20 q_1_2 q_9_21 hdX8_put ⟨Nat.le_of_ble_eq_true rfl, Nat.le_of_ble_eq_true rfl, rfl, rfl⟩ ⟨Nat.zero_le _, Nat.zero_le _⟩ (Nat.le_of_ble_eq_true rfl) rfl rfl dX0_putFirst_46 (fun σ3 _ => ?_)
      exact g_vret (pc := 49) C hr dX0_putFirst_49 rfl
    · refine g_aload_n (pc := 16) (i := 0) C dX0_putFirst_16 rfl rfl ?_
      refine g_getr (pc := 17) (ci := 0) (N := 2) (T := TX0) (j := 0) (Cn := RX0) (b + 1) C rfl inlX0 (Nat.le_of_ble_eq_true rfl) q_3_5 (blk hb 0 rfl) rfl dX0_putFirst_17 ?_
      refine g_iload_n (pc := 20) (i := 2) C dX0_putFirst_20 rfl rfl ?_
      refine g_aload_n (pc := 21) (i := 0) C dX0_putFirst_21 rfl rfl ?_
      refine g_getr (pc := 22) (ci := 0) (N := 2) (T := TX0) (j := 0) (Cn := RX0) (b + 1) C rfl inlX0 (Nat.le_of_ble_eq_true rfl) q_3_5 (blk hb 0 rfl) rfl dX0_putFirst_22 ?_
      refine g_iload_n (pc := 25) (i := 2) C dX0_putFirst_25 rfl rfl ?_
      refine g_iconst (pc := 26) (v := 1) C dX0_putFirst_26 (by decide) ?_
      refine g_isub (pc := 27) C dX0_putFirst_27 ?_
      refine g_callNi (pc := 28) (As := [.ref (X.ad (b + 1)), .int (l2 - 1)]) C (kX8_at X σ (b + 1) 12 (l2 - 1) (blk hb 1 rfl)) (List.mem_of_getElem? (i := 0) rfl) q_11_22 q_1_2 q_11_23 hdX8_at ⟨Nat.le_of_ble_eq_true rfl, Nat.le_of_ble_eq_true rfl, rfl, rfl⟩ ⟨Nat.zero_le _, Nat.zero_le _⟩ (Nat.le_of_ble_eq_true rfl) rfl rfl dX0_putFirst_28 (fun r4 _ => ?_)
      refine g_callNv (pc := 31) (As := [.ref (X.ad (b + 1)), .int (l2), .int (r4)]) C (kX8_put X σ (b + 1) 12 l2 r4 (blk hb 1 rfl)) (List.mem_of_getElem? (i := 1) rfl) q_9_20 q_1_2 q_9_21 hdX8_put ⟨Nat.le_of_ble_eq_true rfl, Nat.le_of_ble_eq_true rfl, rfl, rfl⟩ ⟨Nat.zero_le _, Nat.zero_le _⟩ (Nat.le_of_ble_eq_true rfl) rfl rfl dX0_putFirst_31 (fun σ5 _ => ?_)
      refine g_iinc (pc := 34) (v := l2 + (-1)) C dX0_putFirst_34 rfl (rfl) (Nat.le_of_ble_eq_true rfl) rfl ?_
      refine g_goto (pc := 37) (tgt := 12) C dX0_putFirst_37 rfl ?_
      refine g_keep [true, true, true] ?_
      exact ih σ5 l1 (l2 + (-1))
def fX0_putFirst (σ : Sg) (b : Nat) (p1 : Int32) : Option Sg :=
  (fX0_putLast σ b p1).bind fun σ1 =>
  nm ((σ1.1 b 1) - 1) fun v2 =>
  (fX0_putFirst_12 b FU σ1 p1 v2)
theorem kX0_putFirst (X : Xc) (σ : Sg) (b : Nat) (p1 : Int32) (hb : orOK b) : ∀ r, fX0_putFirst σ b p1 = some r → Met X.l yX0_putFirst (wsM yX0_putFirst cX0_putFirst 3 none) rmX0_putFirst (va_Pc [.ref (X.ad b), .int p1] (PW X σ)) (Qv X r) 0 0 X.A := by
  refine mt_of (own := RX0) (lo := [some (.ref (X.ad b)), some (.int (p1)), none]) (by decide) rfl (Nat.le_of_ble_eq_true rfl) rfl (fun K C hr => ?_)
  unfold fX0_putFirst
  refine g_aload_n (pc := 0) (i := 0) C dX0_putFirst_0 rfl rfl ?_
  refine g_iload_n (pc := 1) (i := 1) C dX0_putFirst_1 rfl rfl ?_
  refine g_callVv (pc := 2) (As := [.int (p1)]) C (kX0_putLast X σ b p1 hb) (blk hb 0 rfl) rfl q_34_17 q_31_14 q_31_15 q_2_19 q_31_16 ⟨rfl, hdX0_putLast⟩ ⟨Nat.le_of_ble_eq_true rfl, Nat.le_of_ble_eq_true rfl, rfl, rfl⟩ ⟨Nat.zero_le _, Nat.zero_le _⟩ (Nat.le_of_ble_eq_true rfl) rfl rfl dX0_putFirst_2 (fun σ1 _ => ?_)
  refine g_aload_n (pc := 5) (i := 0) C dX0_putFirst_5 rfl rfl ?_
  refine g_geti (pc := 6) (ci := 0) (N := 2) (T := TX0) (j := 1) (Cn := RX0) C rfl inlX0 (Nat.le_of_ble_eq_true rfl) q_9_6 (blk hb 0 rfl) rfl dX0_putFirst_6 ?_
  refine g_iconst (pc := 9) (v := 1) C dX0_putFirst_9 (by decide) ?_
  refine g_isub (pc := 10) C dX0_putFirst_10 ?_
  refine g_nm (fun v2 => ?_)
  refine g_istore_n (pc := 11) (i := 2) C dX0_putFirst_11 rfl (Nat.le_of_ble_eq_true rfl) rfl ?_
  refine g_keep [true, true, true] ?_
  exact bX0_putFirst_12 C hr b hb FU σ1 p1 v2
theorem dX0_size_0 : decode cX0_size 0 = .ok (.aload_n 0, 1) := by decide +kernel
theorem dX0_size_1 : decode cX0_size 1 = .ok (.getfield 15, 3) := by decide +kernel
theorem dX0_size_4 : decode cX0_size 4 = .ok (.ireturn, 1) := by decide +kernel
abbrev rmX0_size : Room := { frames := 0, cells := 0, slots := 0, locals := 0 }
theorem hdX0_size : yX0_size.cls ≠ "java/lang/invoke/MethodHandle" ∧ yX0_size.cls ≠ "java/lang/invoke/VarHandle" ∧ (parseMethodDescriptor yX0_size.desc).map (fun d => d.parameters.length) = some 0 := by decide +kernel
def fX0_size (σ : Sg) (b : Nat) : Option Int32 :=
  some (σ.1 b 1)
theorem kX0_size (X : Xc) (σ : Sg) (b : Nat) (hb : orOK b) : ∀ r, fX0_size σ b = some r → Met X.l yX0_size (wsM yX0_size cX0_size 1 (some .int)) rmX0_size (va_Pc [.ref (X.ad b)] (PW X σ)) (Qi X r σ) 0 0 X.A := by
  refine mt_of (own := RX0) (lo := [some (.ref (X.ad b))]) (by decide) rfl (Nat.le_of_ble_eq_true rfl) rfl (fun K C hr => ?_)
  unfold fX0_size
  refine g_aload_n (pc := 0) (i := 0) C dX0_size_0 rfl rfl ?_
  refine g_geti (pc := 1) (ci := 0) (N := 2) (T := TX0) (j := 1) (Cn := RX0) C rfl inlX0 (Nat.le_of_ble_eq_true rfl) q_9_6 (blk hb 0 rfl) rfl dX0_size_1 ?_
  exact g_iret (pc := 4) C hr dX0_size_4 rfl

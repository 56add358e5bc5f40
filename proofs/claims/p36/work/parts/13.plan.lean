/-! by program out of the class files: each method as a function over the store, and its contract by a walk -/
theorem dX2_list_0 : decode cX2_list 0 = .ok (.iload_n 1, 1) := by decide +kernel
theorem dX2_list_1 : decode cX2_list 1 = .ok (.iconst (-1), 1) := by decide +kernel
theorem dX2_list_2 : decode cX2_list 2 = .ok (.if_icmp .eq 37, 3) := by decide +kernel
theorem dX2_list_5 : decode cX2_list 5 = .ok (.aload_n 0, 1) := by decide +kernel
theorem dX2_list_6 : decode cX2_list 6 = .ok (.getfield 110, 3) := by decide +kernel
theorem dX2_list_9 : decode cX2_list 9 = .ok (.aload_n 0, 1) := by decide +kernel
theorem dX2_list_10 : decode cX2_list 10 = .ok (.getfield 33, 3) := by decide +kernel
theorem dX2_list_13 : decode cX2_list 13 = .ok (.arraylength, 1) := by decide +kernel
theorem dX2_list_14 : decode cX2_list 14 = .ok (.if_icmp .ge 25, 3) := by decide +kernel
theorem dX2_list_17 : decode cX2_list 17 = .ok (.aload_n 0, 1) := by decide +kernel
theorem dX2_list_18 : decode cX2_list 18 = .ok (.getfield 33, 3) := by decide +kernel
theorem dX2_list_21 : decode cX2_list 21 = .ok (.aload_n 0, 1) := by decide +kernel
theorem dX2_list_22 : decode cX2_list 22 = .ok (.getfield 110, 3) := by decide +kernel
theorem dX2_list_25 : decode cX2_list 25 = .ok (.iload_n 1, 1) := by decide +kernel
theorem dX2_list_26 : decode cX2_list 26 = .ok (.invokestatic 126, 3) := by decide +kernel
theorem dX2_list_29 : decode cX2_list 29 = .ok (.aload_n 0, 1) := by decide +kernel
theorem dX2_list_30 : decode cX2_list 30 = .ok (.dup, 1) := by decide +kernel
theorem dX2_list_31 : decode cX2_list 31 = .ok (.getfield 110, 3) := by decide +kernel
theorem dX2_list_34 : decode cX2_list 34 = .ok (.iconst 1, 1) := by decide +kernel
theorem dX2_list_35 : decode cX2_list 35 = .ok (.iadd, 1) := by decide +kernel
theorem dX2_list_36 : decode cX2_list 36 = .ok (.putfield 110, 3) := by decide +kernel
theorem dX2_list_39 : decode cX2_list 39 = .ok (.return_, 1) := by decide +kernel
abbrev rmX2_list : Room := { frames := 1, cells := 0, slots := 0, locals := 22 }
theorem hdX2_list : yX2_list.cls ≠ "java/lang/invoke/MethodHandle" ∧ yX2_list.cls ≠ "java/lang/invoke/VarHandle" ∧ (parseMethodDescriptor yX2_list.desc).map (fun d => d.parameters.length) = some 1 := by decide +kernel
def fX2_list (σ : Sg) (b : Nat) (p1 : Int32) : Option Sg :=
  if p1 = (-1) then
    some σ
  else
    if (nI 23) ≤ (σ.1 b 8) then
      some σ
    else
      (fX8_put σ (b + 8) 23 (σ.1 b 8) p1).bind fun σ1 =>
      nm (su σ1 b 8 ((σ1.1 b 8) + 1)) fun σ2 =>
      some σ2
theorem kX2_list (X : Xc) (σ : Sg) (b : Nat) (p1 : Int32) (hb : pnOK b) : ∀ r, fX2_list σ b p1 = some r → Met X.l yX2_list (wsM yX2_list cX2_list 2 none) rmX2_list (va_Pc [.ref (X.ad b), .int p1] (PW X σ)) (Qv X r) 0 0 X.A := by
  refine mt_of (own := RX2) (lo := [some (.ref (X.ad b)), some (.int (p1))]) (by decide) rfl (Nat.le_of_ble_eq_true rfl) rfl (fun K C hr => ?_)
  unfold fX2_list
  refine g_iload_n (pc := 0) (i := 1) C dX2_list_0 rfl rfl ?_
  refine g_iconst (pc := 1) (v := (-1)) C dX2_list_1 (by decide) ?_
  refine g_icmp_eq (pc := 2) (tgt := 39) C dX2_list_2 rfl ?_ ?_
  · exact g_vret (pc := 39) C hr dX2_list_39 rfl
  · refine g_aload_n (pc := 5) (i := 0) C dX2_list_5 rfl rfl ?_
    refine g_geti (pc := 6) (ci := 2) (N := 11) (T := TX2) (j := 8) (Cn := RX2) C rfl inlX2 (Nat.le_of_ble_eq_true rfl) q_15_10 (blk hb 0 rfl) rfl dX2_list_6 ?_
    refine g_aload_n (pc := 9) (i := 0) C dX2_list_9 rfl rfl ?_
    refine g_getr (pc := 10) (ci := 2) (N := 11) (T := TX2) (j := 7) (Cn := RX2) (b + 8) C rfl inlX2 (Nat.le_of_ble_eq_true rfl) q_4_15 (blk hb 0 rfl) rfl dX2_list_10 ?_
    refine g_ialen (pc := 13) C (blk hb 8 rfl) dX2_list_13 ?_
    refine g_icmp_ge (pc := 14) (tgt := 39) C dX2_list_14 rfl ?_ ?_
    · exact g_vret (pc := 39) C hr dX2_list_39 rfl
    · refine g_aload_n (pc := 17) (i := 0) C dX2_list_17 rfl rfl ?_
      refine g_getr (pc := 18) (ci := 2) (N := 11) (T := TX2) (j := 7) (Cn := RX2) (b + 8) C rfl inlX2 (Nat.le_of_ble_eq_true rfl) q_4_15 (blk hb 0 rfl) rfl dX2_list_18 ?_
      refine g_aload_n (pc := 21) (i := 0) C dX2_list_21 rfl rfl ?_
      refine g_geti (pc := 22) (ci := 2) (N := 11) (T := TX2) (j := 8) (Cn := RX2) C rfl inlX2 (Nat.le_of_ble_eq_true rfl) q_15_10 (blk hb 0 rfl) rfl dX2_list_22 ?_
      refine g_iload_n (pc := 25) (i := 1) C dX2_list_25 rfl rfl ?_
      refine g_callNv (pc := 26) (As := [.ref (X.ad (b + 8)), .int (σ.1 b 8), .int (p1)]) C (kX8_put X σ (b + 8) 23 (σ.1 b 8) p1 (blk hb 8 rfl)) (List.mem_of_getElem? (i := 9) rfl) q_9_20 q_1_2 q_9_21 hdX8_put ⟨Nat.le_of_ble_eq_true rfl, Nat.le_of_ble_eq_true rfl, rfl, rfl⟩ ⟨Nat.zero_le _, Nat.zero_le _⟩ (Nat.le_of_ble_eq_true rfl) rfl rfl dX2_list_26 (fun σ1 _ => ?_)
      refine g_aload_n (pc := 29) (i := 0) C dX2_list_29 rfl rfl ?_
      refine g_dup (pc := 30) C dX2_list_30 rfl ?_
      refine g_geti (pc := 31) (ci := 2) (N := 11) (T := TX2) (j := 8) (Cn := RX2) C rfl inlX2 (Nat.le_of_ble_eq_true rfl) q_15_10 (blk hb 0 rfl) rfl dX2_list_31 ?_
      refine g_iconst (pc := 34) (v := 1) C dX2_list_34 (by decide) ?_
      refine g_iadd (pc := 35) C dX2_list_35 ?_
      refine g_puti (pc := 36) (ci := 2) (N := 11) (T := TX2) (j := 8) (Cn := RX2) C rfl inlX2 tyX2_ok nmX2 (Nat.le_of_ble_eq_true rfl) q_15_10 (blk hb 0 rfl) rfl rfl rfl dX2_list_36 ?_
      refine g_nms (fun σ2 => ?_)
      exact g_vret (pc := 39) C hr dX2_list_39 rfl
theorem dX2_listNodes_0 : decode cX2_listNodes 0 = .ok (.aload_n 0, 1) := by decide +kernel
theorem dX2_listNodes_1 : decode cX2_listNodes 1 = .ok (.iconst 0, 1) := by decide +kernel
theorem dX2_listNodes_2 : decode cX2_listNodes 2 = .ok (.putfield 110, 3) := by decide +kernel
theorem dX2_listNodes_5 : decode cX2_listNodes 5 = .ok (.aload_n 0, 1) := by decide +kernel
theorem dX2_listNodes_6 : decode cX2_listNodes 6 = .ok (.iload_n 2, 1) := by decide +kernel
theorem dX2_listNodes_7 : decode cX2_listNodes 7 = .ok (.invokevirtual 142, 3) := by decide +kernel
theorem dX2_listNodes_10 : decode cX2_listNodes 10 = .ok (.iconst 0, 1) := by decide +kernel
theorem dX2_listNodes_11 : decode cX2_listNodes 11 = .ok (.istore_n 3, 1) := by decide +kernel
theorem dX2_listNodes_12 : decode cX2_listNodes 12 = .ok (.iload_n 3, 1) := by decide +kernel
theorem dX2_listNodes_13 : decode cX2_listNodes 13 = .ok (.bipush 23, 2) := by decide +kernel
theorem dX2_listNodes_15 : decode cX2_listNodes 15 = .ok (.if_icmp .ge 65, 3) := by decide +kernel
theorem dX2_listNodes_18 : decode cX2_listNodes 18 = .ok (.iload_n 3, 1) := by decide +kernel
theorem dX2_listNodes_19 : decode cX2_listNodes 19 = .ok (.aload_n 0, 1) := by decide +kernel
theorem dX2_listNodes_20 : decode cX2_listNodes 20 = .ok (.getfield 110, 3) := by decide +kernel
theorem dX2_listNodes_23 : decode cX2_listNodes 23 = .ok (.if_icmp .ge 57, 3) := by decide +kernel
theorem dX2_listNodes_26 : decode cX2_listNodes 26 = .ok (.aload_n 1, 1) := by decide +kernel
theorem dX2_listNodes_27 : decode cX2_listNodes 27 = .ok (.aload_n 0, 1) := by decide +kernel
theorem dX2_listNodes_28 : decode cX2_listNodes 28 = .ok (.getfield 33, 3) := by decide +kernel
theorem dX2_listNodes_31 : decode cX2_listNodes 31 = .ok (.iload_n 3, 1) := by decide +kernel
theorem dX2_listNodes_32 : decode cX2_listNodes 32 = .ok (.invokestatic 46, 3) := by decide +kernel
theorem dX2_listNodes_35 : decode cX2_listNodes 35 = .ok (.invokevirtual 146, 3) := by decide +kernel
theorem dX2_listNodes_38 : decode cX2_listNodes 38 = .ok (.istore 4, 2) := by decide +kernel
theorem dX2_listNodes_40 : decode cX2_listNodes 40 = .ok (.iconst 0, 1) := by decide +kernel
theorem dX2_listNodes_41 : decode cX2_listNodes 41 = .ok (.istore 5, 2) := by decide +kernel
theorem dX2_listNodes_43 : decode cX2_listNodes 43 = .ok (.iload 5, 2) := by decide +kernel
theorem dX2_listNodes_45 : decode cX2_listNodes 45 = .ok (.iload 4, 2) := by decide +kernel
theorem dX2_listNodes_47 : decode cX2_listNodes 47 = .ok (.if_icmp .ge 27, 3) := by decide +kernel
theorem dX2_listNodes_50 : decode cX2_listNodes 50 = .ok (.aload_n 0, 1) := by decide +kernel
theorem dX2_listNodes_51 : decode cX2_listNodes 51 = .ok (.aload_n 1, 1) := by decide +kernel
theorem dX2_listNodes_52 : decode cX2_listNodes 52 = .ok (.aload_n 0, 1) := by decide +kernel
theorem dX2_listNodes_53 : decode cX2_listNodes 53 = .ok (.getfield 33, 3) := by decide +kernel
theorem dX2_listNodes_56 : decode cX2_listNodes 56 = .ok (.iload_n 3, 1) := by decide +kernel
theorem dX2_listNodes_57 : decode cX2_listNodes 57 = .ok (.invokestatic 46, 3) := by decide +kernel
theorem dX2_listNodes_60 : decode cX2_listNodes 60 = .ok (.iload 5, 2) := by decide +kernel
theorem dX2_listNodes_62 : decode cX2_listNodes 62 = .ok (.invokevirtual 149, 3) := by decide +kernel
theorem dX2_listNodes_65 : decode cX2_listNodes 65 = .ok (.invokevirtual 142, 3) := by decide +kernel
theorem dX2_listNodes_68 : decode cX2_listNodes 68 = .ok (.iinc 5 1, 3) := by decide +kernel
theorem dX2_listNodes_71 : decode cX2_listNodes 71 = .ok (.goto (-28), 3) := by decide +kernel
theorem dX2_listNodes_74 : decode cX2_listNodes 74 = .ok (.iinc 3 1, 3) := by decide +kernel
theorem dX2_listNodes_77 : decode cX2_listNodes 77 = .ok (.goto (-65), 3) := by decide +kernel
theorem dX2_listNodes_80 : decode cX2_listNodes 80 = .ok (.return_, 1) := by decide +kernel
abbrev rmX2_listNodes : Room := { frames := 2, cells := 0, slots := 0, locals := 44 }
theorem hdX2_listNodes : yX2_listNodes.cls ≠ "java/lang/invoke/MethodHandle" ∧ yX2_listNodes.cls ≠ "java/lang/invoke/VarHandle" ∧ (parseMethodDescriptor yX2_listNodes.desc).map (fun d => d.parameters.length) = some 2 := by decide +kernel
def fX2_listNodes_43 (b : Nat) (c1 : Nat) (k12 : Sg → Int32 → Option Sg) : Nat → Sg → Int32 → Int32 → Int32 → Option Sg
  | 0, _, _, _, _ => none
  | n + 1, σ, l3, l4, l5 =>
    if l4 ≤ l5 then
      (k12 σ (l3 + 1))
    else
      (fX8_at σ (b + 8) 23 l3).bind fun r5 =>
      (fX1_childAt σ c1 r5 l5).bind fun r6 =>
      (fX2_list σ b r6).bind fun σ7 =>
      ((fX2_listNodes_43 b c1 k12 n) σ7 l3 l4 (l5 + 1))
theorem bX2_listNodes_43 {X : Xc} {K : Kc} (C : MC X K cX2_listNodes 6 RX2 rmX2_listNodes) (hr : K.meth.sig.returnType = none) (b : Nat) (c1 : Nat) (hb : pnOK b) (h1 : plOK c1){k12 : Sg → Int32 → Option Sg} (hk12 : ∀ (σ : Sg) (l3 : Int32), GO X K 6 (fun r => MQv X K r) (k12 σ l3) σ 0 0 12 [some (.ref (X.ad b)), some (.ref (X.ad c1)), none, some (.int (l3)), none, none] []) : ∀ (n : Nat) (σ : Sg) (l3 : Int32) (l4 : Int32) (l5 : Int32), GO X K 6 (fun r => MQv X K r) (fX2_listNodes_43 b c1 k12 n σ l3 l4 l5) σ 0 0 43 [some (.ref (X.ad b)), some (.ref (X.ad c1)), none, some (.int (l3)), some (.int (l4)), some (.int (l5))] [] := by
  intro n
  induction n with
  | zero =>
    intro σ l3 l4 l5
    exact g_none
  | succ n ih =>
    intro σ l3 l4 l5
    unfold fX2_listNodes_43
    refine g_iload (pc := 43) C dX2_listNodes_43 rfl ?_
    refine g_iload (pc := 45) C dX2_listNodes_45 rfl ?_
    refine g_icmp_ge (pc := 47) (tgt := 74) C dX2_listNodes_47 rfl ?_ ?_
    · refine g_iinc (pc := 74) (v := l3 + 1) C dX2_listNodes_74 rfl (rfl) (Nat.le_of_ble_eq_true rfl) rfl ?_
      refine g_goto (pc := 77) (tgt := 12) C dX2_listNodes_77 rfl ?_
      refine g_keep [true, true, false, true, false, false] ?_
      exact hk12 σ (l3 + 1)
    · refine g_aload_n (pc := 50) (i := 0) C dX2_listNodes_50 rfl rfl ?_
      refine g_aload_n (pc := 51) (i := 1) C dX2_listNodes_51 rfl rfl ?_
      refine g_aload_n (pc := 52) (i := 0) C dX2_listNodes_52 rfl rfl ?_
      refine g_getr (pc := 53) (ci := 2) (N := 11) (T := TX2) (j := 7) (Cn := RX2) (b + 8) C rfl inlX2 (Nat.le_of_ble_eq_true rfl) q_4_15 (blk hb 0 rfl) rfl dX2_listNodes_53 ?_
      refine g_iload_n (pc := 56) (i := 3) C dX2_listNodes_56 rfl rfl ?_
      refine g_callNi (pc := 57) (As := [.ref (X.ad (b + 8)), .int (l3)]) C (kX8_at X σ (b + 8) 23 l3 (blk hb 8 rfl)) (List.mem_of_getElem? (i := 7) rfl) q_11_22 q_1_2 q_11_23 hdX8_at ⟨Nat.le_of_ble_eq_true rfl, Nat.le_of_ble_eq_true rfl, rfl, rfl⟩ ⟨Nat.zero_le _, Nat.zero_le _⟩ (Nat.le_of_ble_eq_true rfl) rfl rfl dX2_listNodes_57 (fun r5 _ => ?_)
      refine g_iload (pc := 60) C dX2_listNodes_60 rfl ?_
      refine g_callVi (pc := 62) (As := [.int (r5), .int (l5)]) C (kX1_childAt X σ c1 r5 l5 h1) (blk h1 0 rfl) rfl q_16_0 q_14_13 q_14_14 q_2_23 q_14_15 ⟨rfl, hdX1_childAt⟩ ⟨Nat.le_of_ble_eq_true rfl, Nat.le_of_ble_eq_true rfl, rfl, rfl⟩ ⟨Nat.zero_le _, Nat.zero_le _⟩ (Nat.le_of_ble_eq_true rfl) rfl rfl dX2_listNodes_62 (fun r6 _ => ?_)
      refine g_callVv (pc := 65) (As := [.int (r6)]) C (kX2_list X σ b r6 hb) (blk hb 0 rfl) rfl q_15_19 q_15_20 q_15_21 q_1_20 q_15_22 ⟨rfl, hdX2_list⟩ ⟨Nat.le_of_ble_eq_true rfl, Nat.le_of_ble_eq_true rfl, rfl, rfl⟩ ⟨Nat.zero_le _, Nat.zero_le _⟩ (Nat.le_of_ble_eq_true rfl) rfl rfl dX2_listNodes_65 (fun σ7 _ => ?_)
      refine g_iinc (pc := 68) (v := l5 + 1) C dX2_listNodes_68 rfl (rfl) (Nat.le_of_ble_eq_true rfl) rfl ?_
      refine g_goto (pc := 71) (tgt := 43) C dX2_listNodes_71 rfl ?_
      refine g_keep [true, true, false, true, true, true] ?_
      exact ih σ7 l3 l4 (l5 + 1)
def fX2_listNodes_12 (b : Nat) (c1 : Nat) : Nat → Sg → Int32 → Option Sg
  | 0, _, _ => none
  | n + 1, σ, l3 =>
    if 23 ≤ l3 then
      some σ
    else
      if (σ.1 b 8) ≤ l3 then
        some σ
      else
        (fX8_at σ (b + 8) 23 l3).bind fun r3 =>
        (fX1_childCount σ c1 r3).bind fun r4 =>
        (fX2_listNodes_43 b c1 (fX2_listNodes_12 b c1 n) FU σ l3 r4 0)
theorem bX2_listNodes_12 {X : Xc} {K : Kc} (C : MC X K cX2_listNodes 6 RX2 rmX2_listNodes) (hr : K.meth.sig.returnType = none) (b : Nat) (c1 : Nat) (hb : pnOK b) (h1 : plOK c1) : ∀ (n : Nat) (σ : Sg) (l3 : Int32), GO X K 6 (fun r => MQv X K r) (fX2_listNodes_12 b c1 n σ l3) σ 0 0 12 [some (.ref (X.ad b)), some (.ref (X.ad c1)), none, some (.int (l3)), none, none] [] := by
  intro n
  induction n with
  | zero =>
    intro σ l3
    exact g_none
  | succ n ih =>
    intro σ l3
    unfold fX2_listNodes_12
    refine g_iload_n (pc := 12) (i := 3) C dX2_listNodes_12 rfl rfl ?_
    refine g_bipush (pc := 13) (v := 23) C dX2_listNodes_13 (by decide) ?_
    refine g_icmp_ge (pc := 15) (tgt := 80) C dX2_listNodes_15 rfl ?_ ?_
    · exact g_vret (pc := 80) C hr dX2_listNodes_80 rfl
    · refine g_iload_n (pc := 18) (i := 3) C dX2_listNodes_18 rfl rfl ?_
      refine g_aload_n (pc := 19) (i := 0) C dX2_listNodes_19 rfl rfl ?_
      refine g_geti (pc := 20) (ci := 2) (N := 11) (T := TX2) (j := 8) (Cn := RX2) C rfl inlX2 (Nat.le_of_ble_eq_true rfl) q_15_10 (blk hb 0 rfl) rfl dX2_listNodes_20 ?_
      refine g_icmp_ge (pc := 23) (tgt := 80) C dX2_listNodes_23 rfl ?_ ?_
      · exact g_vret (pc := 80) C hr dX2_listNodes_80 rfl
      · refine g_aload_n (pc := 26) (i := 1) C dX2_listNodes_26 rfl rfl ?_
        refine g_aload_n (pc := 27) (i := 0) C dX2_listNodes_27 rfl rfl ?_
        refine g_getr (pc := 28) (ci := 2) (N := 11) (T := TX2) (j := 7) (Cn := RX2) (b + 8) C rfl inlX2 (Nat.le_of_ble_eq_true rfl) q_4_15 (blk hb 0 rfl) rfl dX2_listNodes_28 ?_
        refine g_iload_n (pc := 31) (i := 3) C dX2_listNodes_31 rfl rfl ?_
        refine g_callNi (pc := 32) (As := [.ref (X.ad (b + 8)), .int (l3)]) C (kX8_at X σ (b + 8) 23 l3 (blk hb 8 rfl)) (List.mem_of_getElem? (i := 7) rfl) q_11_22 q_1_2 q_11_23 hdX8_at ⟨Nat.le_of_ble_eq_true rfl, Nat.le_of_ble_eq_true rfl, rfl, rfl⟩ ⟨Nat.zero_le _, Nat.zero_le _⟩ (Nat.le_of_ble_eq_true rfl) rfl rfl dX2_listNodes_32 (fun r3 _ => ?_)
        refine g_callVi (pc := 35) (As := [.int (r3)]) C (kX1_childCount X σ c1 r3 h1) (blk h1 0 rfl) rfl q_15_23 q_14_9 q_14_10 q_2_23 q_14_11 ⟨rfl, hdX1_childCount⟩ ⟨Nat.le_of_ble_eq_true rfl, Nat.le_of_ble_eq_true rfl, rfl, rfl⟩ ⟨Nat.zero_le _, Nat.zero_le _⟩ (Nat.le_of_ble_eq_true rfl) rfl rfl dX2_listNodes_35 (fun r4 _ => ?_)
        refine g_istore (pc := 38) C dX2_listNodes_38 (Nat.le_of_ble_eq_true rfl) rfl ?_
        refine g_iconst (pc := 40) (v := 0) C dX2_listNodes_40 (by decide) ?_
        refine g_istore (pc := 41) C dX2_listNodes_41 (Nat.le_of_ble_eq_true rfl) rfl ?_
        refine g_keep [true, true, false, true, true, true] ?_
        exact bX2_listNodes_43 C hr b c1 hb h1 ih FU σ l3 r4 0
def fX2_listNodes (σ : Sg) (b : Nat) (c1 : Nat) (p2 : Int32) : Option Sg :=
  nm (su σ b 8 0) fun σ1 =>
  (fX2_list σ1 b p2).bind fun σ2 =>
  (fX2_listNodes_12 b c1 FU σ2 0)
theorem kX2_listNodes (X : Xc) (σ : Sg) (b : Nat) (c1 : Nat) (p2 : Int32) (hb : pnOK b) (h1 : plOK c1) : ∀ r, fX2_listNodes σ b c1 p2 = some r → Met X.l yX2_listNodes (wsM yX2_listNodes cX2_listNodes 6 none) rmX2_listNodes (va_Pc [.ref (X.ad b), .ref (X.ad c1), .int p2] (PW X σ)) (Qv X r) 0 0 X.A := by
  refine mt_of (own := RX2) (lo := [some (.ref (X.ad b)), some (.ref (X.ad c1)), some (.int (p2)), none, none, none]) (by decide) rfl (Nat.le_of_ble_eq_true rfl) rfl (fun K C hr => ?_)
  unfold fX2_listNodes
  refine g_aload_n (pc := 0) (i := 0) C dX2_listNodes_0 rfl rfl ?_
  refine g_iconst (pc := 1) (v := 0) C dX2_listNodes_1 (by decide) ?_
  refine g_puti (pc := 2) (ci := 2) (N := 11) (T := TX2) (j := 8) (Cn := RX2) C rfl inlX2 tyX2_ok nmX2 (Nat.le_of_ble_eq_true rfl) q_15_10 (blk hb 0 rfl) rfl rfl rfl dX2_listNodes_2 ?_
  refine g_nms (fun σ1 => ?_)
  refine g_aload_n (pc := 5) (i := 0) C dX2_listNodes_5 rfl rfl ?_
  refine g_iload_n (pc := 6) (i := 2) C dX2_listNodes_6 rfl rfl ?_
  refine g_callVv (pc := 7) (As := [.int (p2)]) C (kX2_list X σ1 b p2 hb) (blk hb 0 rfl) rfl q_15_19 q_15_20 q_15_21 q_1_20 q_15_22 ⟨rfl, hdX2_list⟩ ⟨Nat.le_of_ble_eq_true rfl, Nat.le_of_ble_eq_true rfl, rfl, rfl⟩ ⟨Nat.zero_le _, Nat.zero_le _⟩ (Nat.le_of_ble_eq_true rfl) rfl rfl dX2_listNodes_7 (fun σ2 _ => ?_)
  refine g_iconst (pc := 10) (v := 0) C dX2_listNodes_10 (by decide) ?_
  refine g_istore_n (pc := 11) (i := 3) C dX2_listNodes_11 rfl (Nat.le_of_ble_eq_true rfl) rfl ?_
  refine g_keep [true, true, false, true, false, false] ?_
  exact bX2_listNodes_12 C hr b c1 hb h1 FU σ2 0
theorem dX2_measureGroup_0 : decode cX2_measureGroup 0 = .ok (.iconst 0, 1) := by decide +kernel
theorem dX2_measureGroup_1 : decode cX2_measureGroup 1 = .ok (.istore_n 3, 1) := by decide +kernel
theorem dX2_measureGroup_2 : decode cX2_measureGroup 2 = .ok (.iconst 0, 1) := by decide +kernel
theorem dX2_measureGroup_3 : decode cX2_measureGroup 3 = .ok (.istore 4, 2) := by decide +kernel
theorem dX2_measureGroup_5 : decode cX2_measureGroup 5 = .ok (.iconst 0, 1) := by decide +kernel
theorem dX2_measureGroup_6 : decode cX2_measureGroup 6 = .ok (.istore 5, 2) := by decide +kernel
theorem dX2_measureGroup_8 : decode cX2_measureGroup 8 = .ok (.iload 5, 2) := by decide +kernel
theorem dX2_measureGroup_10 : decode cX2_measureGroup 10 = .ok (.bipush 12, 2) := by decide +kernel
theorem dX2_measureGroup_12 : decode cX2_measureGroup 12 = .ok (.if_icmp .ge 64, 3) := by decide +kernel
theorem dX2_measureGroup_15 : decode cX2_measureGroup 15 = .ok (.aload_n 1, 1) := by decide +kernel
theorem dX2_measureGroup_16 : decode cX2_measureGroup 16 = .ok (.getfield 95, 3) := by decide +kernel
theorem dX2_measureGroup_19 : decode cX2_measureGroup 19 = .ok (.iload 5, 2) := by decide +kernel
theorem dX2_measureGroup_21 : decode cX2_measureGroup 21 = .ok (.invokevirtual 152, 3) := by decide +kernel
theorem dX2_measureGroup_24 : decode cX2_measureGroup 24 = .ok (.iload_n 2, 1) := by decide +kernel
theorem dX2_measureGroup_25 : decode cX2_measureGroup 25 = .ok (.if_icmp .ne 45, 3) := by decide +kernel
theorem dX2_measureGroup_28 : decode cX2_measureGroup 28 = .ok (.aload_n 1, 1) := by decide +kernel
theorem dX2_measureGroup_29 : decode cX2_measureGroup 29 = .ok (.getfield 95, 3) := by decide +kernel
theorem dX2_measureGroup_32 : decode cX2_measureGroup 32 = .ok (.iload 5, 2) := by decide +kernel
theorem dX2_measureGroup_34 : decode cX2_measureGroup 34 = .ok (.invokevirtual 155, 3) := by decide +kernel
theorem dX2_measureGroup_37 : decode cX2_measureGroup 37 = .ok (.ifCond .ne 33, 3) := by decide +kernel
theorem dX2_measureGroup_40 : decode cX2_measureGroup 40 = .ok (.iload_n 3, 1) := by decide +kernel
theorem dX2_measureGroup_41 : decode cX2_measureGroup 41 = .ok (.aload_n 1, 1) := by decide +kernel
theorem dX2_measureGroup_42 : decode cX2_measureGroup 42 = .ok (.getfield 158, 3) := by decide +kernel
theorem dX2_measureGroup_45 : decode cX2_measureGroup 45 = .ok (.iload 5, 2) := by decide +kernel
theorem dX2_measureGroup_47 : decode cX2_measureGroup 47 = .ok (.invokestatic 46, 3) := by decide +kernel
theorem dX2_measureGroup_50 : decode cX2_measureGroup 50 = .ok (.invokestatic 82, 3) := by decide +kernel
theorem dX2_measureGroup_53 : decode cX2_measureGroup 53 = .ok (.istore_n 3, 1) := by decide +kernel
theorem dX2_measureGroup_54 : decode cX2_measureGroup 54 = .ok (.iload 4, 2) := by decide +kernel
theorem dX2_measureGroup_56 : decode cX2_measureGroup 56 = .ok (.aload_n 1, 1) := by decide +kernel
theorem dX2_measureGroup_57 : decode cX2_measureGroup 57 = .ok (.getfield 159, 3) := by decide +kernel
theorem dX2_measureGroup_60 : decode cX2_measureGroup 60 = .ok (.iload 5, 2) := by decide +kernel
theorem dX2_measureGroup_62 : decode cX2_measureGroup 62 = .ok (.invokestatic 46, 3) := by decide +kernel
theorem dX2_measureGroup_65 : decode cX2_measureGroup 65 = .ok (.invokestatic 82, 3) := by decide +kernel
theorem dX2_measureGroup_68 : decode cX2_measureGroup 68 = .ok (.istore 4, 2) := by decide +kernel
theorem dX2_measureGroup_70 : decode cX2_measureGroup 70 = .ok (.iinc 5 1, 3) := by decide +kernel
theorem dX2_measureGroup_73 : decode cX2_measureGroup 73 = .ok (.goto (-65), 3) := by decide +kernel
theorem dX2_measureGroup_76 : decode cX2_measureGroup 76 = .ok (.aload_n 0, 1) := by decide +kernel
theorem dX2_measureGroup_77 : decode cX2_measureGroup 77 = .ok (.getfield 9, 3) := by decide +kernel
theorem dX2_measureGroup_80 : decode cX2_measureGroup 80 = .ok (.iload_n 2, 1) := by decide +kernel
theorem dX2_measureGroup_81 : decode cX2_measureGroup 81 = .ok (.iload_n 3, 1) := by decide +kernel
theorem dX2_measureGroup_82 : decode cX2_measureGroup 82 = .ok (.ifCond .le 7, 3) := by decide +kernel
theorem dX2_measureGroup_85 : decode cX2_measureGroup 85 = .ok (.iconst 1, 1) := by decide +kernel
theorem dX2_measureGroup_86 : decode cX2_measureGroup 86 = .ok (.goto 4, 3) := by decide +kernel
theorem dX2_measureGroup_89 : decode cX2_measureGroup 89 = .ok (.iconst 0, 1) := by decide +kernel
theorem dX2_measureGroup_90 : decode cX2_measureGroup 90 = .ok (.invokestatic 126, 3) := by decide +kernel
theorem dX2_measureGroup_93 : decode cX2_measureGroup 93 = .ok (.aload_n 0, 1) := by decide +kernel
theorem dX2_measureGroup_94 : decode cX2_measureGroup 94 = .ok (.getfield 15, 3) := by decide +kernel
theorem dX2_measureGroup_97 : decode cX2_measureGroup 97 = .ok (.iload_n 2, 1) := by decide +kernel
theorem dX2_measureGroup_98 : decode cX2_measureGroup 98 = .ok (.iload_n 3, 1) := by decide +kernel
theorem dX2_measureGroup_99 : decode cX2_measureGroup 99 = .ok (.invokestatic 126, 3) := by decide +kernel
theorem dX2_measureGroup_102 : decode cX2_measureGroup 102 = .ok (.aload_n 0, 1) := by decide +kernel
theorem dX2_measureGroup_103 : decode cX2_measureGroup 103 = .ok (.getfield 18, 3) := by decide +kernel
theorem dX2_measureGroup_106 : decode cX2_measureGroup 106 = .ok (.iload_n 2, 1) := by decide +kernel
theorem dX2_measureGroup_107 : decode cX2_measureGroup 107 = .ok (.iload 4, 2) := by decide +kernel
theorem dX2_measureGroup_109 : decode cX2_measureGroup 109 = .ok (.iconst 1, 1) := by decide +kernel
theorem dX2_measureGroup_110 : decode cX2_measureGroup 110 = .ok (.iadd, 1) := by decide +kernel
theorem dX2_measureGroup_111 : decode cX2_measureGroup 111 = .ok (.invokestatic 126, 3) := by decide +kernel
theorem dX2_measureGroup_114 : decode cX2_measureGroup 114 = .ok (.return_, 1) := by decide +kernel
abbrev rmX2_measureGroup : Room := { frames := 2, cells := 0, slots := 0, locals := 90 }
theorem hdX2_measureGroup : yX2_measureGroup.cls ≠ "java/lang/invoke/MethodHandle" ∧ yX2_measureGroup.cls ≠ "java/lang/invoke/VarHandle" ∧ (parseMethodDescriptor yX2_measureGroup.desc).map (fun d => d.parameters.length) = some 2 := by decide +kernel
def fX2_measureGroup_90 (b : Nat) (c1 : Nat) (σ : Sg) (l2 : Int32) (l3 : Int32) (l4 : Int32) (s1 : Int32) (s2 : Int32) : Option Sg :=
  (fX8_put σ (b + 1) 23 s1 s2).bind fun σ7 =>
  (fX8_put σ7 (b + 2) 23 l2 l3).bind fun σ8 =>
  (fX8_put σ8 (b + 3) 23 l2 (l4 + 1)).bind fun σ9 =>
  some σ9
theorem bX2_measureGroup_90 {X : Xc} {K : Kc} (C : MC X K cX2_measureGroup 6 RX2 rmX2_measureGroup) (hr : K.meth.sig.returnType = none) (b : Nat) (c1 : Nat) (hb : pnOK b) (h1 : stOK c1) (σ : Sg) (l2 : Int32) (l3 : Int32) (l4 : Int32) (s1 : Int32) (s2 : Int32) : GO X K 6 (fun r => MQv X K r) (fX2_measureGroup_90 b c1 σ l2 l3 l4 s1 s2) σ 0 0 90 [some (.ref (X.ad b)), none, some (.int (l2)), some (.int (l3)), some (.int (l4)), none] [.int (s2), .int (s1), .ref (X.ad (b + 1))] := by
  unfold fX2_measureGroup_90
  refine g_callNv (pc := 90) (As := [.ref (X.ad (b + 1)), .int (s1), .int (s2)]) C (kX8_put X σ (b + 1) 23 s1 s2 (blk hb 1 rfl)) (List.mem_of_getElem? (i := 9) rfl) q_9_20 q_1_2 q_9_21 hdX8_put ⟨Nat.le_of_ble_eq_true rfl, Nat.le_of_ble_eq_true rfl, rfl, rfl⟩ ⟨Nat.zero_le _, Nat.zero_le _⟩ (Nat.le_of_ble_eq_true rfl) rfl rfl dX2_measureGroup_90 (fun σ7 _ => ?_)
  refine g_aload_n (pc := 93) (i := 0) C dX2_measureGroup_93 rfl rfl ?_
  refine g_getr (pc := 94) (ci := 2) (N := 11) (T := TX2) (j := 1) (Cn := RX2) (b + 2) C rfl inlX2 (Nat.le_of_ble_eq_true rfl) q_4_9 (blk hb 0 rfl) rfl dX2_measureGroup_94 ?_
  refine g_iload_n (pc := 97) (i := 2) C dX2_measureGroup_97 rfl rfl ?_
  refine g_iload_n (pc := 98) (i := 3) C dX2_measureGroup_98 rfl rfl ?_
  refine g_callNv (pc := 99) (As := [.ref (X.ad (b + 2)), .int (l2), .int (l3)]) C (kX8_put X σ7 (b + 2) 23 l2 l3 (blk hb 2 rfl)) (List.mem_of_getElem? (i := 9) rfl) q_9_20 q_1_2 q_9_21 hdX8_put ⟨Nat.le_of_ble_eq_true rfl, Nat.le_of_ble_eq_true rfl, rfl, rfl⟩ ⟨Nat.zero_le _, Nat.zero_le _⟩ (Nat.le_of_ble_eq_true rfl) rfl rfl dX2_measureGroup_99 (fun σ8 _ => ?_)
  refine g_aload_n (pc := 102) (i := 0) C dX2_measureGroup_102 rfl rfl ?_
  refine g_getr (pc := 103) (ci := 2) (N := 11) (T := TX2) (j := 2) (Cn := RX2) (b + 3) C rfl inlX2 (Nat.le_of_ble_eq_true rfl) q_4_10 (blk hb 0 rfl) rfl dX2_measureGroup_103 ?_
  refine g_iload_n (pc := 106) (i := 2) C dX2_measureGroup_106 rfl rfl ?_
  refine g_iload (pc := 107) C dX2_measureGroup_107 rfl ?_
  refine g_iconst (pc := 109) (v := 1) C dX2_measureGroup_109 (by decide) ?_
  refine g_iadd (pc := 110) C dX2_measureGroup_110 ?_
  refine g_callNv (pc := 111) (As := [.ref (X.ad (b + 3)), .int (l2), .int (l4 + 1)]) C (kX8_put X σ8 (b + 3) 23 l2 (l4 + 1) (blk hb 3 rfl)) (List.mem_of_getElem? (i := 9) rfl) q_9_20 q_1_2 q_9_21 hdX8_put ⟨Nat.le_of_ble_eq_true rfl, Nat.le_of_ble_eq_true rfl, rfl, rfl⟩ ⟨Nat.zero_le _, Nat.zero_le _⟩ (Nat.le_of_ble_eq_true rfl) rfl rfl dX2_measureGroup_111 (fun σ9 _ => ?_)
  exact g_vret (pc := 114) C hr dX2_measureGroup_114 rfl
def fX2_measureGroup_70 (b : Nat) (c1 : Nat) (k8 : Sg → Int32 → Int32 → Int32 → Int32 → Option Sg) (σ : Sg) (l2 : Int32) (l3 : Int32) (l4 : Int32) (l5 : Int32) : Option Sg :=
  (k8 σ l2 l3 l4 (l5 + 1))
theorem bX2_measureGroup_70 {X : Xc} {K : Kc} (C : MC X K cX2_measureGroup 6 RX2 rmX2_measureGroup) (hr : K.meth.sig.returnType = none) (b : Nat) (c1 : Nat) (hb : pnOK b) (h1 : stOK c1){k8 : Sg → Int32 → Int32 → Int32 → Int32 → Option Sg} (hk8 : ∀ (σ : Sg) (l2 : Int32) (l3 : Int32) (l4 : Int32) (l5 : Int32), GO X K 6 (fun r => MQv X K r) (k8 σ l2 l3 l4 l5) σ 0 0 8 [some (.ref (X.ad b)), some (.ref (X.ad c1)), some (.int (l2)), some (.int (l3)), some (.int (l4)), some (.int (l5))] []) (σ : Sg) (l2 : Int32) (l3 : Int32) (l4 : Int32) (l5 : Int32) : GO X K 6 (fun r => MQv X K r) (fX2_measureGroup_70 b c1 k8 σ l2 l3 l4 l5) σ 0 0 70 [some (.ref (X.ad b)), some (.ref (X.ad c1)), some (.int (l2)), some (.int (l3)), some (.int (l4)), some (.int (l5))] [] := by
  unfold fX2_measureGroup_70
  refine g_iinc (pc := 70) (v := l5 + 1) C dX2_measureGroup_70 rfl (rfl) (Nat.le_of_ble_eq_true rfl) rfl ?_
  refine g_goto (pc := 73) (tgt := 8) C dX2_measureGroup_73 rfl ?_
  refine g_keep [true, true, true, true, true, true] ?_
  exact hk8 σ l2 l3 l4 (l5 + 1)
def fX2_measureGroup_8 (b : Nat) (c1 : Nat) : Nat → Sg → Int32 → Int32 → Int32 → Int32 → Option Sg
  | 0, _, _, _, _, _ => none
  | n + 1, σ, l2, l3, l4, l5 =>
    if 12 ≤ l5 then
      if l3 ≤ 0 then
        (fX2_measureGroup_90 b c1 σ l2 l3 l4 l2 0)
      else
        (fX2_measureGroup_90 b c1 σ l2 l3 l4 l2 1)
    else
      (fX1_groupOf σ (c1 + 5) l5).bind fun r1 =>
      if r1 = l2 then
        (fX1_isHidden σ (c1 + 5) l5).bind fun r2 =>
        if r2 = true then
          (fX2_measureGroup_70 b c1 (fX2_measureGroup_8 b c1 n) σ l2 l3 l4 l5)
        else
          (fX8_at σ (c1 + 1) 12 l5).bind fun r3 =>
          nm (if l3 < r3 then r3 else l3) fun v4 =>
          (fX8_at σ (c1 + 2) 12 l5).bind fun r5 =>
          nm (if l4 < r5 then r5 else l4) fun v6 =>
          (fX2_measureGroup_70 b c1 (fX2_measureGroup_8 b c1 n) σ l2 v4 v6 l5)
      else
        (fX2_measureGroup_70 b c1 (fX2_measureGroup_8 b c1 n) σ l2 l3 l4 l5)
theorem bX2_measureGroup_8 {X : Xc} {K : Kc} (C : MC X K cX2_measureGroup 6 RX2 rmX2_measureGroup) (hr : K.meth.sig.returnType = none) (b : Nat) (c1 : Nat) (hb : pnOK b) (h1 : stOK c1) : ∀ (n : Nat) (σ : Sg) (l2 : Int32) (l3 : Int32) (l4 : Int32) (l5 : Int32), GO X K 6 (fun r => MQv X K r) (fX2_measureGroup_8 b c1 n σ l2 l3 l4 l5) σ 0 0 8 [some (.ref (X.ad b)), some (.ref (X.ad c1)), some (.int (l2)), some (.int (l3)), some (.int (l4)), some (.int (l5))] [] := by
  intro n
  induction n with
  | zero =>
    intro σ l2 l3 l4 l5
    exact g_none
  | succ n ih =>
    intro σ l2 l3 l4 l5
    unfold fX2_measureGroup_8
    refine g_iload (pc := 8) C dX2_measureGroup_8 rfl ?_
    refine g_bipush (pc := 10) (v := 12) C dX2_measureGroup_10 (by decide) ?_
    refine g_icmp_ge (pc := 12) (tgt := 76) C dX2_measureGroup_12 rfl ?_ ?_
    · refine g_aload_n (pc := 76) (i := 0) C dX2_measureGroup_76 rfl rfl ?_
      refine g_getr (pc := 77) (ci := 2) (N := 11) (T := TX2) (j := 0) (Cn := RX2) (b + 1) C rfl inlX2 (Nat.le_of_ble_eq_true rfl) q_4_8 (blk hb 0 rfl) rfl dX2_measureGroup_77 ?_
      refine g_iload_n (pc := 80) (i := 2) C dX2_measureGroup_80 rfl rfl ?_
      refine g_iload_n (pc := 81) (i := 3) C dX2_measureGroup_81 rfl rfl ?_
      refine g_if_le (pc := 82) (tgt := 89) C dX2_measureGroup_82 rfl ?_ ?_
      · refine g_iconst (pc := 89) (v := 0) C dX2_measureGroup_89 (by decide) ?_
        refine g_keep [true, false, true, true, true, false] ?_
        exact bX2_measureGroup_90 C hr b c1 hb h1 σ l2 l3 l4 l2 0
      · refine g_iconst (pc := 85) (v := 1) C dX2_measureGroup_85 (by decide) ?_
        refine g_goto (pc := 86) (tgt := 90) C dX2_measureGroup_86 rfl ?_
        refine g_keep [true, false, true, true, true, false] ?_
        exact bX2_measureGroup_90 C hr b c1 hb h1 σ l2 l3 l4 l2 1
    · refine g_aload_n (pc := 15) (i := 1) C dX2_measureGroup_15 rfl rfl ?_
      refine g_getNr (pc := 16) (ci := 4) (N := 7) (T := TX4) (j := 4) (Cn := RX4) (c1 + 5) C rfl inlX4 (Nat.le_of_ble_eq_true rfl) (List.mem_of_getElem? (i := 0) rfl) (blk h1 0 rfl) rfl dX2_measureGroup_16 ?_
      refine g_iload (pc := 19) C dX2_measureGroup_19 rfl ?_
      refine g_callVi (pc := 21) (As := [.int (l5)]) C (kX1_groupOf X σ (c1 + 5) l5 (st_pl h1)) (blk (st_pl h1) 0 rfl) rfl q_16_12 q_11_19 q_11_20 q_2_23 q_11_21 ⟨rfl, hdX1_groupOf⟩ ⟨Nat.le_of_ble_eq_true rfl, Nat.le_of_ble_eq_true rfl, rfl, rfl⟩ ⟨Nat.zero_le _, Nat.zero_le _⟩ (Nat.le_of_ble_eq_true rfl) rfl rfl dX2_measureGroup_21 (fun r1 _ => ?_)
      refine g_iload_n (pc := 24) (i := 2) C dX2_measureGroup_24 rfl rfl ?_
      refine g_icmp_ne (pc := 25) (tgt := 70) C dX2_measureGroup_25 rfl ?_ ?_
      · refine g_aload_n (pc := 28) (i := 1) C dX2_measureGroup_28 rfl rfl ?_
        refine g_getNr (pc := 29) (ci := 4) (N := 7) (T := TX4) (j := 4) (Cn := RX4) (c1 + 5) C rfl inlX4 (Nat.le_of_ble_eq_true rfl) (List.mem_of_getElem? (i := 0) rfl) (blk h1 0 rfl) rfl dX2_measureGroup_29 ?_
        refine g_iload (pc := 32) C dX2_measureGroup_32 rfl ?_
        refine g_callVi (pc := 34) (As := [.int (l5)]) C (kX1_isHidden X σ (c1 + 5) l5 (st_pl h1)) (blk (st_pl h1) 0 rfl) rfl q_16_13 q_12_17 q_12_18 q_2_23 q_12_19 ⟨rfl, hdX1_isHidden⟩ ⟨Nat.le_of_ble_eq_true rfl, Nat.le_of_ble_eq_true rfl, rfl, rfl⟩ ⟨Nat.zero_le _, Nat.zero_le _⟩ (Nat.le_of_ble_eq_true rfl) rfl rfl dX2_measureGroup_34 (fun r2 _ => ?_)
        refine g_ifb_ne (pc := 37) (tgt := 70) C dX2_measureGroup_37 rfl ?_ ?_
        · refine g_keep [true, true, true, true, true, true] ?_
          exact bX2_measureGroup_70 C hr b c1 hb h1 ih σ l2 l3 l4 l5
        · refine g_iload_n (pc := 40) (i := 3) C dX2_measureGroup_40 rfl rfl ?_
          refine g_aload_n (pc := 41) (i := 1) C dX2_measureGroup_41 rfl rfl ?_
          refine g_getNr (pc := 42) (ci := 4) (N := 7) (T := TX4) (j := 1) (Cn := RX4) (c1 + 1) C rfl inlX4 (Nat.le_of_ble_eq_true rfl) (List.mem_of_getElem? (i := 5) rfl) (blk h1 0 rfl) rfl dX2_measureGroup_42 ?_
          refine g_iload (pc := 45) C dX2_measureGroup_45 rfl ?_
          refine g_callNi (pc := 47) (As := [.ref (X.ad (c1 + 1)), .int (l5)]) C (kX8_at X σ (c1 + 1) 12 l5 (blk h1 1 rfl)) (List.mem_of_getElem? (i := 7) rfl) q_11_22 q_1_2 q_11_23 hdX8_at ⟨Nat.le_of_ble_eq_true rfl, Nat.le_of_ble_eq_true rfl, rfl, rfl⟩ ⟨Nat.zero_le _, Nat.zero_le _⟩ (Nat.le_of_ble_eq_true rfl) rfl rfl dX2_measureGroup_47 (fun r3 _ => ?_)
          refine g_mmax (pc := 50) C q_16_9 q_16_10 q_8_20 q_16_11 ⟨Nat.le_of_ble_eq_true rfl, Nat.le_of_ble_eq_true rfl⟩ ⟨Nat.le_of_ble_eq_true rfl, Nat.le_of_ble_eq_true rfl⟩ dX2_measureGroup_50 ?_
          refine g_nm (fun v4 => ?_)
          refine g_istore_n (pc := 53) (i := 3) C dX2_measureGroup_53 rfl (Nat.le_of_ble_eq_true rfl) rfl ?_
          refine g_iload (pc := 54) C dX2_measureGroup_54 rfl ?_
          refine g_aload_n (pc := 56) (i := 1) C dX2_measureGroup_56 rfl rfl ?_
          refine g_getNr (pc := 57) (ci := 4) (N := 7) (T := TX4) (j := 2) (Cn := RX4) (c1 + 2) C rfl inlX4 (Nat.le_of_ble_eq_true rfl) (List.mem_of_getElem? (i := 6) rfl) (blk h1 0 rfl) rfl dX2_measureGroup_57 ?_
          refine g_iload (pc := 60) C dX2_measureGroup_60 rfl ?_
          refine g_callNi (pc := 62) (As := [.ref (X.ad (c1 + 2)), .int (l5)]) C (kX8_at X σ (c1 + 2) 12 l5 (blk h1 2 rfl)) (List.mem_of_getElem? (i := 7) rfl) q_11_22 q_1_2 q_11_23 hdX8_at ⟨Nat.le_of_ble_eq_true rfl, Nat.le_of_ble_eq_true rfl, rfl, rfl⟩ ⟨Nat.zero_le _, Nat.zero_le _⟩ (Nat.le_of_ble_eq_true rfl) rfl rfl dX2_measureGroup_62 (fun r5 _ => ?_)
          refine g_mmax (pc := 65) C q_16_9 q_16_10 q_8_20 q_16_11 ⟨Nat.le_of_ble_eq_true rfl, Nat.le_of_ble_eq_true rfl⟩ ⟨Nat.le_of_ble_eq_true rfl, Nat.le_of_ble_eq_true rfl⟩ dX2_measureGroup_65 ?_
          refine g_nm (fun v6 => ?_)
          refine g_istore (pc := 68) C dX2_measureGroup_68 (Nat.le_of_ble_eq_true rfl) rfl ?_
          refine g_keep [true, true, true, true, true, true] ?_
          exact bX2_measureGroup_70 C hr b c1 hb h1 ih σ l2 v4 v6 l5
      · refine g_keep [true, true, true, true, true, true] ?_
        exact bX2_measureGroup_70 C hr b c1 hb h1 ih σ l2 l3 l4 l5
def fX2_measureGroup (σ : Sg) (b : Nat) (c1 : Nat) (p2 : Int32) : Option Sg :=
  (fX2_measureGroup_8 b c1 FU σ p2 0 0 0)
theorem kX2_measureGroup (X : Xc) (σ : Sg) (b : Nat) (c1 : Nat) (p2 : Int32) (hb : pnOK b) (h1 : stOK c1) : ∀ r, fX2_measureGroup σ b c1 p2 = some r → Met X.l yX2_measureGroup (wsM yX2_measureGroup cX2_measureGroup 6 none) rmX2_measureGroup (va_Pc [.ref (X.ad b), .ref (X.ad c1), .int p2] (PW X σ)) (Qv X r) 0 0 X.A := by
  refine mt_of (own := RX2) (lo := [some (.ref (X.ad b)), some (.ref (X.ad c1)), some (.int (p2)), none, none, none]) (by decide) rfl (Nat.le_of_ble_eq_true rfl) rfl (fun K C hr => ?_)
  unfold fX2_measureGroup
  refine g_iconst (pc := 0) (v := 0) C dX2_measureGroup_0 (by decide) ?_
  refine g_istore_n (pc := 1) (i := 3) C dX2_measureGroup_1 rfl (Nat.le_of_ble_eq_true rfl) rfl ?_
  refine g_iconst (pc := 2) (v := 0) C dX2_measureGroup_2 (by decide) ?_
  refine g_istore (pc := 3) C dX2_measureGroup_3 (Nat.le_of_ble_eq_true rfl) rfl ?_
  refine g_iconst (pc := 5) (v := 0) C dX2_measureGroup_5 (by decide) ?_
  refine g_istore (pc := 6) C dX2_measureGroup_6 (Nat.le_of_ble_eq_true rfl) rfl ?_
  refine g_keep [true, true, true, true, true, true] ?_
  exact bX2_measureGroup_8 C hr b c1 hb h1 FU σ p2 0 0 0
theorem dX2_isShown_0 : decode cX2_isShown 0 = .ok (.aload_n 0, 1) := by decide +kernel
theorem dX2_isShown_1 : decode cX2_isShown 1 = .ok (.getfield 9, 3) := by decide +kernel
theorem dX2_isShown_4 : decode cX2_isShown 4 = .ok (.iload_n 1, 1) := by decide +kernel
theorem dX2_isShown_5 : decode cX2_isShown 5 = .ok (.invokestatic 46, 3) := by decide +kernel
theorem dX2_isShown_8 : decode cX2_isShown 8 = .ok (.iconst 1, 1) := by decide +kernel
theorem dX2_isShown_9 : decode cX2_isShown 9 = .ok (.if_icmp .ne 7, 3) := by decide +kernel
theorem dX2_isShown_12 : decode cX2_isShown 12 = .ok (.iconst 1, 1) := by decide +kernel
theorem dX2_isShown_13 : decode cX2_isShown 13 = .ok (.goto 4, 3) := by decide +kernel
theorem dX2_isShown_16 : decode cX2_isShown 16 = .ok (.iconst 0, 1) := by decide +kernel
theorem dX2_isShown_17 : decode cX2_isShown 17 = .ok (.ireturn, 1) := by decide +kernel
abbrev rmX2_isShown : Room := { frames := 1, cells := 0, slots := 0, locals := 21 }
theorem hdX2_isShown : yX2_isShown.cls ≠ "java/lang/invoke/MethodHandle" ∧ yX2_isShown.cls ≠ "java/lang/invoke/VarHandle" ∧ (parseMethodDescriptor yX2_isShown.desc).map (fun d => d.parameters.length) = some 1 := by decide +kernel
def fX2_isShown (σ : Sg) (b : Nat) (p1 : Int32) : Option Bool :=
  (fX8_at σ (b + 1) 23 p1).bind fun r1 =>
  if r1 = 1 then
    some true
  else
    some false
theorem kX2_isShown (X : Xc) (σ : Sg) (b : Nat) (p1 : Int32) (hb : pnOK b) : ∀ r, fX2_isShown σ b p1 = some r → Met X.l yX2_isShown (wsM yX2_isShown cX2_isShown 2 (some .boolean)) rmX2_isShown (va_Pc [.ref (X.ad b), .int p1] (PW X σ)) (Qi X (b2i r) σ) 0 0 X.A := by
  refine mt_of (own := RX2) (lo := [some (.ref (X.ad b)), some (.int (p1))]) (by decide) rfl (Nat.le_of_ble_eq_true rfl) rfl (fun K C hr => ?_)
  unfold fX2_isShown
  refine g_aload_n (pc := 0) (i := 0) C dX2_isShown_0 rfl rfl ?_
  refine g_getr (pc := 1) (ci := 2) (N := 11) (T := TX2) (j := 0) (Cn := RX2) (b + 1) C rfl inlX2 (Nat.le_of_ble_eq_true rfl) q_4_8 (blk hb 0 rfl) rfl dX2_isShown_1 ?_
  refine g_iload_n (pc := 4) (i := 1) C dX2_isShown_4 rfl rfl ?_
  refine g_callNi (pc := 5) (As := [.ref (X.ad (b + 1)), .int (p1)]) C (kX8_at X σ (b + 1) 23 p1 (blk hb 1 rfl)) (List.mem_of_getElem? (i := 7) rfl) q_11_22 q_1_2 q_11_23 hdX8_at ⟨Nat.le_of_ble_eq_true rfl, Nat.le_of_ble_eq_true rfl, rfl, rfl⟩ ⟨Nat.zero_le _, Nat.zero_le _⟩ (Nat.le_of_ble_eq_true rfl) rfl rfl dX2_isShown_5 (fun r1 _ => ?_)
  refine g_iconst (pc := 8) (v := 1) C dX2_isShown_8 (by decide) ?_
  refine g_icmp_ne (pc := 9) (tgt := 16) C dX2_isShown_9 rfl ?_ ?_
  · refine g_iconst (pc := 12) (v := 1) C dX2_isShown_12 (by decide) ?_
    refine g_goto (pc := 13) (tgt := 17) C dX2_isShown_13 rfl ?_
    exact g_zret (pc := 17) C hr dX2_isShown_17 rfl
  · refine g_iconst (pc := 16) (v := 0) C dX2_isShown_16 (by decide) ?_
    exact g_zret (pc := 17) C hr dX2_isShown_17 rfl
theorem dX2_listParts_0 : decode cX2_listParts 0 = .ok (.aload_n 1, 1) := by decide +kernel
theorem dX2_listParts_1 : decode cX2_listParts 1 = .ok (.iload_n 2, 1) := by decide +kernel
theorem dX2_listParts_2 : decode cX2_listParts 2 = .ok (.invokevirtual 146, 3) := by decide +kernel
theorem dX2_listParts_5 : decode cX2_listParts 5 = .ok (.istore_n 3, 1) := by decide +kernel
theorem dX2_listParts_6 : decode cX2_listParts 6 = .ok (.iconst 0, 1) := by decide +kernel
theorem dX2_listParts_7 : decode cX2_listParts 7 = .ok (.istore 4, 2) := by decide +kernel
theorem dX2_listParts_9 : decode cX2_listParts 9 = .ok (.iconst 0, 1) := by decide +kernel
theorem dX2_listParts_10 : decode cX2_listParts 10 = .ok (.istore 5, 2) := by decide +kernel
theorem dX2_listParts_12 : decode cX2_listParts 12 = .ok (.iload 5, 2) := by decide +kernel
theorem dX2_listParts_14 : decode cX2_listParts 14 = .ok (.iload_n 3, 1) := by decide +kernel
theorem dX2_listParts_15 : decode cX2_listParts 15 = .ok (.if_icmp .ge 41, 3) := by decide +kernel
theorem dX2_listParts_18 : decode cX2_listParts 18 = .ok (.aload_n 1, 1) := by decide +kernel
theorem dX2_listParts_19 : decode cX2_listParts 19 = .ok (.iload_n 2, 1) := by decide +kernel
theorem dX2_listParts_20 : decode cX2_listParts 20 = .ok (.iload 5, 2) := by decide +kernel
theorem dX2_listParts_22 : decode cX2_listParts 22 = .ok (.invokevirtual 149, 3) := by decide +kernel
theorem dX2_listParts_25 : decode cX2_listParts 25 = .ok (.istore 6, 2) := by decide +kernel
theorem dX2_listParts_27 : decode cX2_listParts 27 = .ok (.aload_n 0, 1) := by decide +kernel
theorem dX2_listParts_28 : decode cX2_listParts 28 = .ok (.iload 6, 2) := by decide +kernel
theorem dX2_listParts_30 : decode cX2_listParts 30 = .ok (.invokevirtual 50, 3) := by decide +kernel
theorem dX2_listParts_33 : decode cX2_listParts 33 = .ok (.ifCond .eq 17, 3) := by decide +kernel
theorem dX2_listParts_36 : decode cX2_listParts 36 = .ok (.aload_n 0, 1) := by decide +kernel
theorem dX2_listParts_37 : decode cX2_listParts 37 = .ok (.getfield 36, 3) := by decide +kernel
theorem dX2_listParts_40 : decode cX2_listParts 40 = .ok (.iload 4, 2) := by decide +kernel
theorem dX2_listParts_42 : decode cX2_listParts 42 = .ok (.iload 6, 2) := by decide +kernel
theorem dX2_listParts_44 : decode cX2_listParts 44 = .ok (.invokestatic 126, 3) := by decide +kernel
theorem dX2_listParts_47 : decode cX2_listParts 47 = .ok (.iinc 4 1, 3) := by decide +kernel
theorem dX2_listParts_50 : decode cX2_listParts 50 = .ok (.iinc 5 1, 3) := by decide +kernel
theorem dX2_listParts_53 : decode cX2_listParts 53 = .ok (.goto (-41), 3) := by decide +kernel
theorem dX2_listParts_56 : decode cX2_listParts 56 = .ok (.iload 4, 2) := by decide +kernel
theorem dX2_listParts_58 : decode cX2_listParts 58 = .ok (.ireturn, 1) := by decide +kernel
abbrev rmX2_listParts : Room := { frames := 2, cells := 0, slots := 0, locals := 44 }
theorem hdX2_listParts : yX2_listParts.cls ≠ "java/lang/invoke/MethodHandle" ∧ yX2_listParts.cls ≠ "java/lang/invoke/VarHandle" ∧ (parseMethodDescriptor yX2_listParts.desc).map (fun d => d.parameters.length) = some 2 := by decide +kernel
def fX2_listParts_50 (b : Nat) (c1 : Nat) (k12 : Sg → Int32 → Int32 → Int32 → Int32 → Option (Int32 × Sg)) (σ : Sg) (l2 : Int32) (l3 : Int32) (l4 : Int32) (l5 : Int32) : Option (Int32 × Sg) :=
  (k12 σ l2 l3 l4 (l5 + 1))
theorem bX2_listParts_50 {X : Xc} {K : Kc} (C : MC X K cX2_listParts 7 RX2 rmX2_listParts) (hr : K.meth.sig.returnType = (some .int)) (b : Nat) (c1 : Nat) (hb : pnOK b) (h1 : plOK c1){k12 : Sg → Int32 → Int32 → Int32 → Int32 → Option (Int32 × Sg)} (hk12 : ∀ (σ : Sg) (l2 : Int32) (l3 : Int32) (l4 : Int32) (l5 : Int32), GO X K 7 (fun r => MQi X K r.1 r.2) (k12 σ l2 l3 l4 l5) σ 0 0 12 [some (.ref (X.ad b)), some (.ref (X.ad c1)), some (.int (l2)), some (.int (l3)), some (.int (l4)), some (.int (l5)), none] []) (σ : Sg) (l2 : Int32) (l3 : Int32) (l4 : Int32) (l5 : Int32) : GO X K 7 (fun r => MQi X K r.1 r.2) (fX2_listParts_50 b c1 k12 σ l2 l3 l4 l5) σ 0 0 50 [some (.ref (X.ad b)), some (.ref (X.ad c1)), some (.int (l2)), some (.int (l3)), some (.int (l4)), some (.int (l5)), none] [] := by
  unfold fX2_listParts_50
  refine g_iinc (pc := 50) (v := l5 + 1) C dX2_listParts_50 rfl (rfl) (Nat.le_of_ble_eq_true rfl) rfl ?_
  refine g_goto (pc := 53) (tgt := 12) C dX2_listParts_53 rfl ?_
  refine g_keep [true, true, true, true, true, true, false] ?_
  exact hk12 σ l2 l3 l4 (l5 + 1)
def fX2_listParts_12 (b : Nat) (c1 : Nat) : Nat → Sg → Int32 → Int32 → Int32 → Int32 → Option (Int32 × Sg)
  | 0, _, _, _, _, _ => none
  | n + 1, σ, l2, l3, l4, l5 =>
    if l3 ≤ l5 then
      some (l4, σ)
    else
      (fX1_childAt σ c1 l2 l5).bind fun r2 =>
      (fX2_isShown σ b r2).bind fun r3 =>
      if r3 = true then
        (fX8_put σ (b + 9) 23 l4 r2).bind fun σ4 =>
        (fX2_listParts_50 b c1 (fX2_listParts_12 b c1 n) σ4 l2 l3 (l4 + 1) l5)
      else
        (fX2_listParts_50 b c1 (fX2_listParts_12 b c1 n) σ l2 l3 l4 l5)
theorem bX2_listParts_12 {X : Xc} {K : Kc} (C : MC X K cX2_listParts 7 RX2 rmX2_listParts) (hr : K.meth.sig.returnType = (some .int)) (b : Nat) (c1 : Nat) (hb : pnOK b) (h1 : plOK c1) : ∀ (n : Nat) (σ : Sg) (l2 : Int32) (l3 : Int32) (l4 : Int32) (l5 : Int32), GO X K 7 (fun r => MQi X K r.1 r.2) (fX2_listParts_12 b c1 n σ l2 l3 l4 l5) σ 0 0 12 [some (.ref (X.ad b)), some (.ref (X.ad c1)), some (.int (l2)), some (.int (l3)), some (.int (l4)), some (.int (l5)), none] [] := by
  intro n
  induction n with
  | zero =>
    intro σ l2 l3 l4 l5
    exact g_none
  | succ n ih =>
    intro σ l2 l3 l4 l5
    unfold fX2_listParts_12
    refine g_iload (pc := 12) C dX2_listParts_12 rfl ?_
    refine g_iload_n (pc := 14) (i := 3) C dX2_listParts_14 rfl rfl ?_
    refine g_icmp_ge (pc := 15) (tgt := 56) C dX2_listParts_15 rfl ?_ ?_
    · refine g_iload (pc := 56) C dX2_listParts_56 rfl ?_
      exact g_iret (pc := 58) C hr dX2_listParts_58 rfl
    · refine g_aload_n (pc := 18) (i := 1) C dX2_listParts_18 rfl rfl ?_
      refine g_iload_n (pc := 19) (i := 2) C dX2_listParts_19 rfl rfl ?_
      refine g_iload (pc := 20) C dX2_listParts_20 rfl ?_
      refine g_callVi (pc := 22) (As := [.int (l2), .int (l5)]) C (kX1_childAt X σ c1 l2 l5 h1) (blk h1 0 rfl) rfl q_16_0 q_14_13 q_14_14 q_2_23 q_14_15 ⟨rfl, hdX1_childAt⟩ ⟨Nat.le_of_ble_eq_true rfl, Nat.le_of_ble_eq_true rfl, rfl, rfl⟩ ⟨Nat.zero_le _, Nat.zero_le _⟩ (Nat.le_of_ble_eq_true rfl) rfl rfl dX2_listParts_22 (fun r2 _ => ?_)
      refine g_istore (pc := 25) C dX2_listParts_25 (Nat.le_of_ble_eq_true rfl) rfl ?_
      refine g_aload_n (pc := 27) (i := 0) C dX2_listParts_27 rfl rfl ?_
      refine g_iload (pc := 28) C dX2_listParts_28 rfl ?_
      refine g_callVi (pc := 30) (As := [.int (r2)]) C (kX2_isShown X σ b r2 hb) (blk hb 0 rfl) rfl q_16_22 q_16_23 q_17_0 q_1_20 q_17_1 ⟨rfl, hdX2_isShown⟩ ⟨Nat.le_of_ble_eq_true rfl, Nat.le_of_ble_eq_true rfl, rfl, rfl⟩ ⟨Nat.zero_le _, Nat.zero_le _⟩ (Nat.le_of_ble_eq_true rfl) rfl rfl dX2_listParts_30 (fun r3 _ => ?_)
      refine g_ifb_eq (pc := 33) (tgt := 50) C dX2_listParts_33 rfl ?_ ?_
      · refine g_aload_n (pc := 36) (i := 0) C dX2_listParts_36 rfl rfl ?_
        refine g_getr (pc := 37) (ci := 2) (N := 11) (T := TX2) (j := 9) (Cn := RX2) (b + 9) C rfl inlX2 (Nat.le_of_ble_eq_true rfl) q_4_16 (blk hb 0 rfl) rfl dX2_listParts_37 ?_
        refine g_iload (pc := 40) C dX2_listParts_40 rfl ?_
        refine g_iload (pc := 42) C dX2_listParts_42 rfl ?_
        refine g_callNv (pc := 44) (As := [.ref (X.ad (b + 9)), .int (l4), .int (r2)]) C (kX8_put X σ (b + 9) 23 l4 r2 (blk hb 9 rfl)) (List.mem_of_getElem? (i := 9) rfl) q_9_20 q_1_2 q_9_21 hdX8_put ⟨Nat.le_of_ble_eq_true rfl, Nat.le_of_ble_eq_true rfl, rfl, rfl⟩ ⟨Nat.zero_le _, Nat.zero_le _⟩ (Nat.le_of_ble_eq_true rfl) rfl rfl dX2_listParts_44 (fun σ4 _ => ?_)
        refine g_iinc (pc := 47) (v := l4 + 1) C dX2_listParts_47 rfl (rfl) (Nat.le_of_ble_eq_true rfl) rfl ?_
        refine g_keep [true, true, true, true, true, true, false] ?_
        exact bX2_listParts_50 C hr b c1 hb h1 ih σ4 l2 l3 (l4 + 1) l5
      · refine g_keep [true, true, true, true, true, true, false] ?_
        exact bX2_listParts_50 C hr b c1 hb h1 ih σ l2 l3 l4 l5
def fX2_listParts (σ : Sg) (b : Nat) (c1 : Nat) (p2 : Int32) : Option (Int32 × Sg) :=
  (fX1_childCount σ c1 p2).bind fun r1 =>
  (fX2_listParts_12 b c1 FU σ p2 r1 0 0)
theorem kX2_listParts (X : Xc) (σ : Sg) (b : Nat) (c1 : Nat) (p2 : Int32) (hb : pnOK b) (h1 : plOK c1) : ∀ r, fX2_listParts σ b c1 p2 = some r → Met X.l yX2_listParts (wsM yX2_listParts cX2_listParts 7 (some .int)) rmX2_listParts (va_Pc [.ref (X.ad b), .ref (X.ad c1), .int p2] (PW X σ)) (Qi X r.1 r.2) 0 0 X.A := by
  refine mt_of (own := RX2) (lo := [some (.ref (X.ad b)), some (.ref (X.ad c1)), some (.int (p2)), none, none, none, none]) (by decide) rfl (Nat.le_of_ble_eq_true rfl) rfl (fun K C hr => ?_)
  unfold fX2_listParts
  refine g_aload_n (pc := 0) (i := 1) C dX2_listParts_0 rfl rfl ?_
  refine g_iload_n (pc := 1) (i := 2) C dX2_listParts_1 rfl rfl ?_
  refine g_callVi (pc := 2) (As := [.int (p2)]) C (kX1_childCount X σ c1 p2 h1) (blk h1 0 rfl) rfl q_15_23 q_14_9 q_14_10 q_2_23 q_14_11 ⟨rfl, hdX1_childCount⟩ ⟨Nat.le_of_ble_eq_true rfl, Nat.le_of_ble_eq_true rfl, rfl, rfl⟩ ⟨Nat.zero_le _, Nat.zero_le _⟩ (Nat.le_of_ble_eq_true rfl) rfl rfl dX2_listParts_2 (fun r1 _ => ?_)
  refine g_istore_n (pc := 5) (i := 3) C dX2_listParts_5 rfl (Nat.le_of_ble_eq_true rfl) rfl ?_
  refine g_iconst (pc := 6) (v := 0) C dX2_listParts_6 (by decide) ?_
  refine g_istore (pc := 7) C dX2_listParts_7 (Nat.le_of_ble_eq_true rfl) rfl ?_
  refine g_iconst (pc := 9) (v := 0) C dX2_listParts_9 (by decide) ?_
  refine g_istore (pc := 10) C dX2_listParts_10 (Nat.le_of_ble_eq_true rfl) rfl ?_
  refine g_keep [true, true, true, true, true, true, false] ?_
  exact bX2_listParts_12 C hr b c1 hb h1 FU σ p2 r1 0 0
theorem dX2_measureSplit_0 : decode cX2_measureSplit 0 = .ok (.aload_n 1, 1) := by decide +kernel
theorem dX2_measureSplit_1 : decode cX2_measureSplit 1 = .ok (.iload_n 2, 1) := by decide +kernel
theorem dX2_measureSplit_2 : decode cX2_measureSplit 2 = .ok (.invokevirtual 114, 3) := by decide +kernel
theorem dX2_measureSplit_5 : decode cX2_measureSplit 5 = .ok (.ifCond .ne 10, 3) := by decide +kernel
theorem dX2_measureSplit_8 : decode cX2_measureSplit 8 = .ok (.aload_n 0, 1) := by decide +kernel
theorem dX2_measureSplit_9 : decode cX2_measureSplit 9 = .ok (.getfield 15, 3) := by decide +kernel
theorem dX2_measureSplit_12 : decode cX2_measureSplit 12 = .ok (.goto 7, 3) := by decide +kernel
theorem dX2_measureSplit_15 : decode cX2_measureSplit 15 = .ok (.aload_n 0, 1) := by decide +kernel
theorem dX2_measureSplit_16 : decode cX2_measureSplit 16 = .ok (.getfield 18, 3) := by decide +kernel
theorem dX2_measureSplit_19 : decode cX2_measureSplit 19 = .ok (.astore_n 3, 1) := by decide +kernel
theorem dX2_measureSplit_20 : decode cX2_measureSplit 20 = .ok (.aload_n 1, 1) := by decide +kernel
theorem dX2_measureSplit_21 : decode cX2_measureSplit 21 = .ok (.iload_n 2, 1) := by decide +kernel
theorem dX2_measureSplit_22 : decode cX2_measureSplit 22 = .ok (.invokevirtual 114, 3) := by decide +kernel
theorem dX2_measureSplit_25 : decode cX2_measureSplit 25 = .ok (.ifCond .ne 10, 3) := by decide +kernel
theorem dX2_measureSplit_28 : decode cX2_measureSplit 28 = .ok (.aload_n 0, 1) := by decide +kernel
theorem dX2_measureSplit_29 : decode cX2_measureSplit 29 = .ok (.getfield 18, 3) := by decide +kernel
theorem dX2_measureSplit_32 : decode cX2_measureSplit 32 = .ok (.goto 7, 3) := by decide +kernel
theorem dX2_measureSplit_35 : decode cX2_measureSplit 35 = .ok (.aload_n 0, 1) := by decide +kernel
theorem dX2_measureSplit_36 : decode cX2_measureSplit 36 = .ok (.getfield 15, 3) := by decide +kernel
theorem dX2_measureSplit_39 : decode cX2_measureSplit 39 = .ok (.astore 4, 2) := by decide +kernel
theorem dX2_measureSplit_41 : decode cX2_measureSplit 41 = .ok (.aload_n 0, 1) := by decide +kernel
theorem dX2_measureSplit_42 : decode cX2_measureSplit 42 = .ok (.aload_n 1, 1) := by decide +kernel
theorem dX2_measureSplit_43 : decode cX2_measureSplit 43 = .ok (.iload_n 2, 1) := by decide +kernel
theorem dX2_measureSplit_44 : decode cX2_measureSplit 44 = .ok (.invokevirtual 160, 3) := by decide +kernel
theorem dX2_measureSplit_47 : decode cX2_measureSplit 47 = .ok (.istore 5, 2) := by decide +kernel
theorem dX2_measureSplit_49 : decode cX2_measureSplit 49 = .ok (.iconst 0, 1) := by decide +kernel
theorem dX2_measureSplit_50 : decode cX2_measureSplit 50 = .ok (.istore 6, 2) := by decide +kernel
theorem dX2_measureSplit_52 : decode cX2_measureSplit 52 = .ok (.iconst 0, 1) := by decide +kernel
theorem dX2_measureSplit_53 : decode cX2_measureSplit 53 = .ok (.istore 7, 2) := by decide +kernel
theorem dX2_measureSplit_55 : decode cX2_measureSplit 55 = .ok (.iconst 0, 1) := by decide +kernel
theorem dX2_measureSplit_56 : decode cX2_measureSplit 56 = .ok (.istore 8, 2) := by decide +kernel
theorem dX2_measureSplit_58 : decode cX2_measureSplit 58 = .ok (.iload 8, 2) := by decide +kernel
theorem dX2_measureSplit_60 : decode cX2_measureSplit 60 = .ok (.iload 5, 2) := by decide +kernel
theorem dX2_measureSplit_62 : decode cX2_measureSplit 62 = .ok (.if_icmp .ge 48, 3) := by decide +kernel
theorem dX2_measureSplit_65 : decode cX2_measureSplit 65 = .ok (.iload 6, 2) := by decide +kernel
theorem dX2_measureSplit_67 : decode cX2_measureSplit 67 = .ok (.aload_n 3, 1) := by decide +kernel
theorem dX2_measureSplit_68 : decode cX2_measureSplit 68 = .ok (.aload_n 0, 1) := by decide +kernel
theorem dX2_measureSplit_69 : decode cX2_measureSplit 69 = .ok (.getfield 36, 3) := by decide +kernel
theorem dX2_measureSplit_72 : decode cX2_measureSplit 72 = .ok (.iload 8, 2) := by decide +kernel
theorem dX2_measureSplit_74 : decode cX2_measureSplit 74 = .ok (.invokestatic 46, 3) := by decide +kernel
theorem dX2_measureSplit_77 : decode cX2_measureSplit 77 = .ok (.invokestatic 46, 3) := by decide +kernel
theorem dX2_measureSplit_80 : decode cX2_measureSplit 80 = .ok (.iadd, 1) := by decide +kernel
theorem dX2_measureSplit_81 : decode cX2_measureSplit 81 = .ok (.istore 6, 2) := by decide +kernel
theorem dX2_measureSplit_83 : decode cX2_measureSplit 83 = .ok (.iload 7, 2) := by decide +kernel
theorem dX2_measureSplit_85 : decode cX2_measureSplit 85 = .ok (.aload 4, 2) := by decide +kernel
theorem dX2_measureSplit_87 : decode cX2_measureSplit 87 = .ok (.aload_n 0, 1) := by decide +kernel
theorem dX2_measureSplit_88 : decode cX2_measureSplit 88 = .ok (.getfield 36, 3) := by decide +kernel
theorem dX2_measureSplit_91 : decode cX2_measureSplit 91 = .ok (.iload 8, 2) := by decide +kernel
theorem dX2_measureSplit_93 : decode cX2_measureSplit 93 = .ok (.invokestatic 46, 3) := by decide +kernel
theorem dX2_measureSplit_96 : decode cX2_measureSplit 96 = .ok (.invokestatic 46, 3) := by decide +kernel
theorem dX2_measureSplit_99 : decode cX2_measureSplit 99 = .ok (.invokestatic 82, 3) := by decide +kernel
theorem dX2_measureSplit_102 : decode cX2_measureSplit 102 = .ok (.istore 7, 2) := by decide +kernel
theorem dX2_measureSplit_104 : decode cX2_measureSplit 104 = .ok (.iinc 8 1, 3) := by decide +kernel
theorem dX2_measureSplit_107 : decode cX2_measureSplit 107 = .ok (.goto (-49), 3) := by decide +kernel
theorem dX2_measureSplit_110 : decode cX2_measureSplit 110 = .ok (.aload_n 0, 1) := by decide +kernel
theorem dX2_measureSplit_111 : decode cX2_measureSplit 111 = .ok (.getfield 9, 3) := by decide +kernel
theorem dX2_measureSplit_114 : decode cX2_measureSplit 114 = .ok (.iload_n 2, 1) := by decide +kernel
theorem dX2_measureSplit_115 : decode cX2_measureSplit 115 = .ok (.iload 5, 2) := by decide +kernel
theorem dX2_measureSplit_117 : decode cX2_measureSplit 117 = .ok (.ifCond .le 7, 3) := by decide +kernel
theorem dX2_measureSplit_120 : decode cX2_measureSplit 120 = .ok (.iconst 1, 1) := by decide +kernel
theorem dX2_measureSplit_121 : decode cX2_measureSplit 121 = .ok (.goto 4, 3) := by decide +kernel
theorem dX2_measureSplit_124 : decode cX2_measureSplit 124 = .ok (.iconst 0, 1) := by decide +kernel
theorem dX2_measureSplit_125 : decode cX2_measureSplit 125 = .ok (.invokestatic 126, 3) := by decide +kernel
theorem dX2_measureSplit_128 : decode cX2_measureSplit 128 = .ok (.aload_n 3, 1) := by decide +kernel
theorem dX2_measureSplit_129 : decode cX2_measureSplit 129 = .ok (.iload_n 2, 1) := by decide +kernel
theorem dX2_measureSplit_130 : decode cX2_measureSplit 130 = .ok (.iload 6, 2) := by decide +kernel
theorem dX2_measureSplit_132 : decode cX2_measureSplit 132 = .ok (.iload 5, 2) := by decide +kernel
theorem dX2_measureSplit_134 : decode cX2_measureSplit 134 = .ok (.iadd, 1) := by decide +kernel
theorem dX2_measureSplit_135 : decode cX2_measureSplit 135 = .ok (.iconst 1, 1) := by decide +kernel
theorem dX2_measureSplit_136 : decode cX2_measureSplit 136 = .ok (.isub, 1) := by decide +kernel
theorem dX2_measureSplit_137 : decode cX2_measureSplit 137 = .ok (.invokestatic 126, 3) := by decide +kernel
theorem dX2_measureSplit_140 : decode cX2_measureSplit 140 = .ok (.aload 4, 2) := by decide +kernel
theorem dX2_measureSplit_142 : decode cX2_measureSplit 142 = .ok (.iload_n 2, 1) := by decide +kernel
theorem dX2_measureSplit_143 : decode cX2_measureSplit 143 = .ok (.iload 7, 2) := by decide +kernel
theorem dX2_measureSplit_145 : decode cX2_measureSplit 145 = .ok (.invokestatic 126, 3) := by decide +kernel
theorem dX2_measureSplit_148 : decode cX2_measureSplit 148 = .ok (.return_, 1) := by decide +kernel
abbrev rmX2_measureSplit : Room := { frames := 3, cells := 0, slots := 0, locals := 90 }
theorem hdX2_measureSplit : yX2_measureSplit.cls ≠ "java/lang/invoke/MethodHandle" ∧ yX2_measureSplit.cls ≠ "java/lang/invoke/VarHandle" ∧ (parseMethodDescriptor yX2_measureSplit.desc).map (fun d => d.parameters.length) = some 2 := by decide +kernel
def fX2_measureSplit_125 (b : Nat) (c1 : Nat) (σ : Sg) (l2 : Int32) (l3 : Nat) (l4 : Nat) (l5 : Int32) (l6 : Int32) (l7 : Int32) (s1 : Int32) (s2 : Int32) : Option Sg :=
  (fX8_put σ (b + 1) 23 s1 s2).bind fun σ10 =>
  (fX8_put σ10 l3 23 l2 ((l6 + l5) - 1)).bind fun σ11 =>
  (fX8_put σ11 l4 23 l2 l7).bind fun σ12 =>
  some σ12
theorem bX2_measureSplit_125 {X : Xc} {K : Kc} (C : MC X K cX2_measureSplit 9 RX2 rmX2_measureSplit) (hr : K.meth.sig.returnType = none) (b : Nat) (c1 : Nat) (hb : pnOK b) (h1 : plOK c1) (σ : Sg) (l2 : Int32) (l3 : Nat) (l4 : Nat) (l5 : Int32) (l6 : Int32) (l7 : Int32) (s1 : Int32) (s2 : Int32) (hl3 : SHP[l3]? = some (0, [23])) (hl4 : SHP[l4]? = some (0, [23])) : GO X K 9 (fun r => MQv X K r) (fX2_measureSplit_125 b c1 σ l2 l3 l4 l5 l6 l7 s1 s2) σ 0 0 125 [none, none, some (.int (l2)), some (.ref (X.ad l3)), some (.ref (X.ad l4)), some (.int (l5)), some (.int (l6)), some (.int (l7)), none] [.int (s2), .int (s1), .ref (X.ad (b + 1))] := by
  unfold fX2_measureSplit_125
  refine g_callNv (pc := 125) (As := [.ref (X.ad (b + 1)), .int (s1), .int (s2)]) C (kX8_put X σ (b + 1) 23 s1 s2 (blk hb 1 rfl)) (List.mem_of_getElem? (i := 9) rfl) q_9_20 q_1_2 q_9_21 hdX8_put ⟨Nat.le_of_ble_eq_true rfl, Nat.le_of_ble_eq_true rfl, rfl, rfl⟩ ⟨Nat.zero_le _, Nat.zero_le _⟩ (Nat.le_of_ble_eq_true rfl) rfl rfl dX2_measureSplit_125 (fun σ10 _ => ?_)
  refine g_aload_n (pc := 128) (i := 3) C dX2_measureSplit_128 rfl rfl ?_
  refine g_iload_n (pc := 129) (i := 2) C dX2_measureSplit_129 rfl rfl ?_
  refine g_iload (pc := 130) C dX2_measureSplit_130 rfl ?_
  refine g_iload (pc := 132) C dX2_measureSplit_132 rfl ?_
  refine g_iadd (pc := 134) C dX2_measureSplit_134 ?_
  refine g_iconst (pc := 135) (v := 1) C dX2_measureSplit_135 (by decide) ?_
  refine g_isub (pc := 136) C dX2_measureSplit_136 ?_
  refine g_callNv (pc := 137) (As := [.ref (X.ad l3), .int (l2), .int ((l6 + l5) - 1)]) C (kX8_put X σ10 l3 23 l2 ((l6 + l5) - 1) hl3) (List.mem_of_getElem? (i := 9) rfl) q_9_20 q_1_2 q_9_21 hdX8_put ⟨Nat.le_of_ble_eq_true rfl, Nat.le_of_ble_eq_true rfl, rfl, rfl⟩ ⟨Nat.zero_le _, Nat.zero_le _⟩ (Nat.le_of_ble_eq_true rfl) rfl rfl dX2_measureSplit_137 (fun σ11 _ => ?_)
  refine g_aload (pc := 140) C dX2_measureSplit_140 rfl ?_
  refine g_iload_n (pc := 142) (i := 2) C dX2_measureSplit_142 rfl rfl ?_
  refine g_iload (pc := 143) C dX2_measureSplit_143 rfl ?_
  refine g_callNv (pc := 145) (As := [.ref (X.ad l4), .int (l2), .int (l7)]) C (kX8_put X σ11 l4 23 l2 l7 hl4) (List.mem_of_getElem? (i := 9) rfl) q_9_20 q_1_2 q_9_21 hdX8_put ⟨Nat.le_of_ble_eq_true rfl, Nat.le_of_ble_eq_true rfl, rfl, rfl⟩ ⟨Nat.zero_le _, Nat.zero_le _⟩ (Nat.le_of_ble_eq_true rfl) rfl rfl dX2_measureSplit_145 (fun σ12 _ => ?_)
  exact g_vret (pc := 148) C hr dX2_measureSplit_148 rfl
def fX2_measureSplit_58 (b : Nat) (c1 : Nat) : Nat → Sg → Int32 → Nat → Nat → Int32 → Int32 → Int32 → Int32 → Option Sg
  | 0, _, _, _, _, _, _, _, _ => none
  | n + 1, σ, l2, l3, l4, l5, l6, l7, l8 =>
    if l5 ≤ l8 then
      if l5 ≤ 0 then
        (fX2_measureSplit_125 b c1 σ l2 l3 l4 l5 l6 l7 l2 0)
      else
        (fX2_measureSplit_125 b c1 σ l2 l3 l4 l5 l6 l7 l2 1)
    else
      (fX8_at σ (b + 9) 23 l8).bind fun r4 =>
      (fX8_at σ l3 23 r4).bind fun r5 =>
      nm (l6 + r5) fun v6 =>
      (fX8_at σ (b + 9) 23 l8).bind fun r7 =>
      (fX8_at σ l4 23 r7).bind fun r8 =>
      nm (if l7 < r8 then r8 else l7) fun v9 =>
      ((fX2_measureSplit_58 b c1 n) σ l2 l3 l4 l5 v6 v9 (l8 + 1))
theorem bX2_measureSplit_58 {X : Xc} {K : Kc} (C : MC X K cX2_measureSplit 9 RX2 rmX2_measureSplit) (hr : K.meth.sig.returnType = none) (b : Nat) (c1 : Nat) (hb : pnOK b) (h1 : plOK c1) : ∀ (n : Nat) (σ : Sg) (l2 : Int32) (l3 : Nat) (l4 : Nat) (l5 : Int32) (l6 : Int32) (l7 : Int32) (l8 : Int32) (hl3 : SHP[l3]? = some (0, [23])) (hl4 : SHP[l4]? = some (0, [23])), GO X K 9 (fun r => MQv X K r) (fX2_measureSplit_58 b c1 n σ l2 l3 l4 l5 l6 l7 l8) σ 0 0 58 [some (.ref (X.ad b)), none, some (.int (l2)), some (.ref (X.ad l3)), some (.ref (X.ad l4)), some (.int (l5)), some (.int (l6)), some (.int (l7)), some (.int (l8))] [] := by
  intro n
  induction n with
  | zero =>
    intro σ l2 l3 l4 l5 l6 l7 l8 hl3 hl4
    exact g_none
  | succ n ih =>
    intro σ l2 l3 l4 l5 l6 l7 l8 hl3 hl4
    unfold fX2_measureSplit_58
    refine g_iload (pc := 58) C dX2_measureSplit_58 rfl ?_
    refine g_iload (pc := 60) C dX2_measureSplit_60 rfl ?_
    refine g_icmp_ge (pc := 62) (tgt := 110) C dX2_measureSplit_62 rfl ?_ ?_
    · refine g_aload_n (pc := 110) (i := 0) C dX2_measureSplit_110 rfl rfl ?_
      refine g_getr (pc := 111) (ci := 2) (N := 11) (T := TX2) (j := 0) (Cn := RX2) (b + 1) C rfl inlX2 (Nat.le_of_ble_eq_true rfl) q_4_8 (blk hb 0 rfl) rfl dX2_measureSplit_111 ?_
      refine g_iload_n (pc := 114) (i := 2) C dX2_measureSplit_114 rfl rfl ?_
      refine g_iload (pc := 115) C dX2_measureSplit_115 rfl ?_
      refine g_if_le (pc := 117) (tgt := 124) C dX2_measureSplit_117 rfl ?_ ?_
      · refine g_iconst (pc := 124) (v := 0) C dX2_measureSplit_124 (by decide) ?_
        refine g_keep [false, false, true, true, true, true, true, true, false] ?_
        exact bX2_measureSplit_125 C hr b c1 hb h1 σ l2 l3 l4 l5 l6 l7 l2 0 hl3 hl4
      · refine g_iconst (pc := 120) (v := 1) C dX2_measureSplit_120 (by decide) ?_
        refine g_goto (pc := 121) (tgt := 125) C dX2_measureSplit_121 rfl ?_
        refine g_keep [false, false, true, true, true, true, true, true, false] ?_
        exact bX2_measureSplit_125 C hr b c1 hb h1 σ l2 l3 l4 l5 l6 l7 l2 1 hl3 hl4
    · refine g_iload (pc := 65) C dX2_measureSplit_65 rfl ?_
      refine g_aload_n (pc := 67) (i := 3) C dX2_measureSplit_67 rfl rfl ?_
      refine g_aload_n (pc := 68) (i := 0) C dX2_measureSplit_68 rfl rfl ?_
      refine g_getr (pc := 69) (ci := 2) (N := 11) (T := TX2) (j := 9) (Cn := RX2) (b + 9) C rfl inlX2 (Nat.le_of_ble_eq_true rfl) q_4_16 (blk hb 0 rfl) rfl dX2_measureSplit_69 ?_
      refine g_iload (pc := 72) C dX2_measureSplit_72 rfl ?_
      refine g_callNi (pc := 74) (As := [.ref (X.ad (b + 9)), .int (l8)]) C (kX8_at X σ (b + 9) 23 l8 (blk hb 9 rfl)) (List.mem_of_getElem? (i := 7) rfl) q_11_22 q_1_2 q_11_23 hdX8_at ⟨Nat.le_of_ble_eq_true rfl, Nat.le_of_ble_eq_true rfl, rfl, rfl⟩ ⟨Nat.zero_le _, Nat.zero_le _⟩ (Nat.le_of_ble_eq_true rfl) rfl rfl dX2_measureSplit_74 (fun r4 _ => ?_)
      refine g_callNi (pc := 77) (As := [.ref (X.ad l3), .int (r4)]) C (kX8_at X σ l3 23 r4 hl3) (List.mem_of_getElem? (i := 7) rfl) q_11_22 q_1_2 q_11_23 hdX8_at ⟨Nat.le_of_ble_eq_true rfl, Nat.le_of_ble_eq_true rfl, rfl, rfl⟩ ⟨Nat.zero_le _, Nat.zero_le _⟩ (Nat.le_of_ble_eq_true rfl) rfl rfl dX2_measureSplit_77 (fun r5 _ => ?_)
      refine g_iadd (pc := 80) C dX2_measureSplit_80 ?_
      refine g_nm (fun v6 => ?_)
      refine g_istore (pc := 81) C dX2_measureSplit_81 (Nat.le_of_ble_eq_true rfl) rfl ?_
      refine g_iload (pc := 83) C dX2_measureSplit_83 rfl ?_
      refine g_aload (pc := 85) C dX2_measureSplit_85 rfl ?_
      refine g_aload_n (pc := 87) (i := 0) C dX2_measureSplit_87 rfl rfl ?_
      refine g_getr (pc := 88) (ci := 2) (N := 11) (T := TX2) (j := 9) (Cn := RX2) (b + 9) C rfl inlX2 (Nat.le_of_ble_eq_true rfl) q_4_16 (blk hb 0 rfl) rfl dX2_measureSplit_88 ?_
      refine g_iload (pc := 91) C dX2_measureSplit_91 rfl ?_
      refine g_callNi (pc := 93) (As := [.ref (X.ad (b + 9)), .int (l8)]) C (kX8_at X σ (b + 9) 23 l8 (blk hb 9 rfl)) (List.mem_of_getElem? (i := 7) rfl) q_11_22 q_1_2 q_11_23 hdX8_at ⟨Nat.le_of_ble_eq_true rfl, Nat.le_of_ble_eq_true rfl, rfl, rfl⟩ ⟨Nat.zero_le _, Nat.zero_le _⟩ (Nat.le_of_ble_eq_true rfl) rfl rfl dX2_measureSplit_93 (fun r7 _ => ?_)
      refine g_callNi (pc := 96) (As := [.ref (X.ad l4), .int (r7)]) C (kX8_at X σ l4 23 r7 hl4) (List.mem_of_getElem? (i := 7) rfl) q_11_22 q_1_2 q_11_23 hdX8_at ⟨Nat.le_of_ble_eq_true rfl, Nat.le_of_ble_eq_true rfl, rfl, rfl⟩ ⟨Nat.zero_le _, Nat.zero_le _⟩ (Nat.le_of_ble_eq_true rfl) rfl rfl dX2_measureSplit_96 (fun r8 _ => ?_)
      refine g_mmax (pc := 99) C q_16_9 q_16_10 q_8_20 q_16_11 ⟨Nat.le_of_ble_eq_true rfl, Nat.le_of_ble_eq_true rfl⟩ ⟨Nat.le_of_ble_eq_true rfl, Nat.le_of_ble_eq_true rfl⟩ dX2_measureSplit_99 ?_
      refine g_nm (fun v9 => ?_)
      refine g_istore (pc := 102) C dX2_measureSplit_102 (Nat.le_of_ble_eq_true rfl) rfl ?_
      refine g_iinc (pc := 104) (v := l8 + 1) C dX2_measureSplit_104 rfl (rfl) (Nat.le_of_ble_eq_true rfl) rfl ?_
      refine g_goto (pc := 107) (tgt := 58) C dX2_measureSplit_107 rfl ?_
      refine g_keep [true, false, true, true, true, true, true, true, true] ?_
      exact ih σ l2 l3 l4 l5 v6 v9 (l8 + 1) hl3 hl4
def fX2_measureSplit_39 (b : Nat) (c1 : Nat) (σ : Sg) (l2 : Int32) (l3 : Nat) (s0 : Nat) : Option Sg :=
  (fX2_listParts σ b c1 l2).bind fun r3 =>
  (fX2_measureSplit_58 b c1 FU r3.2 l2 l3 s0 r3.1 0 0 0)
theorem bX2_measureSplit_39 {X : Xc} {K : Kc} (C : MC X K cX2_measureSplit 9 RX2 rmX2_measureSplit) (hr : K.meth.sig.returnType = none) (b : Nat) (c1 : Nat) (hb : pnOK b) (h1 : plOK c1) (σ : Sg) (l2 : Int32) (l3 : Nat) (s0 : Nat) (hl3 : SHP[l3]? = some (0, [23])) (hs0 : SHP[s0]? = some (0, [23])) : GO X K 9 (fun r => MQv X K r) (fX2_measureSplit_39 b c1 σ l2 l3 s0) σ 0 0 39 [some (.ref (X.ad b)), some (.ref (X.ad c1)), some (.int (l2)), some (.ref (X.ad l3)), none, none, none, none, none] [.ref (X.ad s0)] := by
  unfold fX2_measureSplit_39
  refine g_astore (pc := 39) C dX2_measureSplit_39 (Nat.le_of_ble_eq_true rfl) rfl ?_
  refine g_aload_n (pc := 41) (i := 0) C dX2_measureSplit_41 rfl rfl ?_
  refine g_aload_n (pc := 42) (i := 1) C dX2_measureSplit_42 rfl rfl ?_
  refine g_iload_n (pc := 43) (i := 2) C dX2_measureSplit_43 rfl rfl ?_
  refine g_callVi (pc := 44) (As := [.ref (X.ad c1), .int (l2)]) C (kX2_listParts X σ b c1 l2 hb h1) (blk hb 0 rfl) rfl q_16_18 q_16_19 q_16_20 q_1_20 q_16_21 ⟨rfl, hdX2_listParts⟩ ⟨Nat.le_of_ble_eq_true rfl, Nat.le_of_ble_eq_true rfl, rfl, rfl⟩ ⟨Nat.zero_le _, Nat.zero_le _⟩ (Nat.le_of_ble_eq_true rfl) rfl rfl dX2_measureSplit_44 (fun r3 _ => ?_)
  refine g_istore (pc := 47) C dX2_measureSplit_47 (Nat.le_of_ble_eq_true rfl) rfl ?_
  refine g_iconst (pc := 49) (v := 0) C dX2_measureSplit_49 (by decide) ?_
  refine g_istore (pc := 50) C dX2_measureSplit_50 (Nat.le_of_ble_eq_true rfl) rfl ?_
  refine g_iconst (pc := 52) (v := 0) C dX2_measureSplit_52 (by decide) ?_
  refine g_istore (pc := 53) C dX2_measureSplit_53 (Nat.le_of_ble_eq_true rfl) rfl ?_
  refine g_iconst (pc := 55) (v := 0) C dX2_measureSplit_55 (by decide) ?_
  refine g_istore (pc := 56) C dX2_measureSplit_56 (Nat.le_of_ble_eq_true rfl) rfl ?_
  refine g_keep [true, false, true, true, true, true, true, true, true] ?_
  exact bX2_measureSplit_58 C hr b c1 hb h1 FU r3.2 l2 l3 s0 r3.1 0 0 0 hl3 hs0
def fX2_measureSplit_19 (b : Nat) (c1 : Nat) (σ : Sg) (l2 : Int32) (s0 : Nat) : Option Sg :=
  (fX1_kindOf σ c1 l2).bind fun r2 =>
  if r2 = 0 then
    (fX2_measureSplit_39 b c1 σ l2 s0 (b + 3))
  else
    (fX2_measureSplit_39 b c1 σ l2 s0 (b + 2))
theorem bX2_measureSplit_19 {X : Xc} {K : Kc} (C : MC X K cX2_measureSplit 9 RX2 rmX2_measureSplit) (hr : K.meth.sig.returnType = none) (b : Nat) (c1 : Nat) (hb : pnOK b) (h1 : plOK c1) (σ : Sg) (l2 : Int32) (s0 : Nat) (hs0 : SHP[s0]? = some (0, [23])) : GO X K 9 (fun r => MQv X K r) (fX2_measureSplit_19 b c1 σ l2 s0) σ 0 0 19 [some (.ref (X.ad b)), some (.ref (X.ad c1)), some (.int (l2)), none, none, none, none, none, none] [.ref (X.ad s0)] := by
  unfold fX2_measureSplit_19
  refine g_astore_n (pc := 19) (i := 3) C dX2_measureSplit_19 rfl (Nat.le_of_ble_eq_true rfl) rfl ?_
  refine g_aload_n (pc := 20) (i := 1) C dX2_measureSplit_20 rfl rfl ?_
  refine g_iload_n (pc := 21) (i := 2) C dX2_measureSplit_21 rfl rfl ?_
  refine g_callVi (pc := 22) (As := [.int (l2)]) C (kX1_kindOf X σ c1 l2 h1) (blk h1 0 rfl) rfl q_16_1 q_16_2 q_16_3 q_2_23 q_16_4 ⟨rfl, hdX1_kindOf⟩ ⟨Nat.le_of_ble_eq_true rfl, Nat.le_of_ble_eq_true rfl, rfl, rfl⟩ ⟨Nat.zero_le _, Nat.zero_le _⟩ (Nat.le_of_ble_eq_true rfl) rfl rfl dX2_measureSplit_22 (fun r2 _ => ?_)
  refine g_if_ne (pc := 25) (tgt := 35) C dX2_measureSplit_25 rfl ?_ ?_
  · refine g_aload_n (pc := 28) (i := 0) C dX2_measureSplit_28 rfl rfl ?_
    refine g_getr (pc := 29) (ci := 2) (N := 11) (T := TX2) (j := 2) (Cn := RX2) (b + 3) C rfl inlX2 (Nat.le_of_ble_eq_true rfl) q_4_10 (blk hb 0 rfl) rfl dX2_measureSplit_29 ?_
    refine g_goto (pc := 32) (tgt := 39) C dX2_measureSplit_32 rfl ?_
    refine g_keep [true, true, true, true, false, false, false, false, false] ?_
    exact bX2_measureSplit_39 C hr b c1 hb h1 σ l2 s0 (b + 3) hs0 (blk hb 3 rfl)
  · refine g_aload_n (pc := 35) (i := 0) C dX2_measureSplit_35 rfl rfl ?_
    refine g_getr (pc := 36) (ci := 2) (N := 11) (T := TX2) (j := 1) (Cn := RX2) (b + 2) C rfl inlX2 (Nat.le_of_ble_eq_true rfl) q_4_9 (blk hb 0 rfl) rfl dX2_measureSplit_36 ?_
    refine g_keep [true, true, true, true, false, false, false, false, false] ?_
    exact bX2_measureSplit_39 C hr b c1 hb h1 σ l2 s0 (b + 2) hs0 (blk hb 2 rfl)
def fX2_measureSplit (σ : Sg) (b : Nat) (c1 : Nat) (p2 : Int32) : Option Sg :=
  (fX1_kindOf σ c1 p2).bind fun r1 =>
  if r1 = 0 then
    (fX2_measureSplit_19 b c1 σ p2 (b + 2))
  else
    (fX2_measureSplit_19 b c1 σ p2 (b + 3))
theorem kX2_measureSplit (X : Xc) (σ : Sg) (b : Nat) (c1 : Nat) (p2 : Int32) (hb : pnOK b) (h1 : plOK c1) : ∀ r, fX2_measureSplit σ b c1 p2 = some r → Met X.l yX2_measureSplit (wsM yX2_measureSplit cX2_measureSplit 9 none) rmX2_measureSplit (va_Pc [.ref (X.ad b), .ref (X.ad c1), .int p2] (PW X σ)) (Qv X r) 0 0 X.A := by
  refine mt_of (own := RX2) (lo := [some (.ref (X.ad b)), some (.ref (X.ad c1)), some (.int (p2)), none, none, none, none, none, none]) (by decide) rfl (Nat.le_of_ble_eq_true rfl) rfl (fun K C hr => ?_)
  unfold fX2_measureSplit
  refine g_aload_n (pc := 0) (i := 1) C dX2_measureSplit_0 rfl rfl ?_
  refine g_iload_n (pc := 1) (i := 2) C dX2_measureSplit_1 rfl rfl ?_
  refine g_callVi (pc := 2) (As := [.int (p2)]) C (kX1_kindOf X σ c1 p2 h1) (blk h1 0 rfl) rfl q_16_1 q_16_2 q_16_3 q_2_23 q_16_4 ⟨rfl, hdX1_kindOf⟩ ⟨Nat.le_of_ble_eq_true rfl, Nat.le_of_ble_eq_true rfl, rfl, rfl⟩ ⟨Nat.zero_le _, Nat.zero_le _⟩ (Nat.le_of_ble_eq_true rfl) rfl rfl dX2_measureSplit_2 (fun r1 _ => ?_)
  refine g_if_ne (pc := 5) (tgt := 15) C dX2_measureSplit_5 rfl ?_ ?_
  · refine g_aload_n (pc := 8) (i := 0) C dX2_measureSplit_8 rfl rfl ?_
    refine g_getr (pc := 9) (ci := 2) (N := 11) (T := TX2) (j := 1) (Cn := RX2) (b + 2) C rfl inlX2 (Nat.le_of_ble_eq_true rfl) q_4_9 (blk hb 0 rfl) rfl dX2_measureSplit_9 ?_
    refine g_goto (pc := 12) (tgt := 19) C dX2_measureSplit_12 rfl ?_
    refine g_keep [true, true, true, false, false, false, false, false, false] ?_
    exact bX2_measureSplit_19 C hr b c1 hb h1 σ p2 (b + 2) (blk hb 2 rfl)
  · refine g_aload_n (pc := 15) (i := 0) C dX2_measureSplit_15 rfl rfl ?_
    refine g_getr (pc := 16) (ci := 2) (N := 11) (T := TX2) (j := 2) (Cn := RX2) (b + 3) C rfl inlX2 (Nat.le_of_ble_eq_true rfl) q_4_10 (blk hb 0 rfl) rfl dX2_measureSplit_16 ?_
    refine g_keep [true, true, true, false, false, false, false, false, false] ?_
    exact bX2_measureSplit_19 C hr b c1 hb h1 σ p2 (b + 3) (blk hb 3 rfl)
theorem dX2_minimumOf_0 : decode cX2_minimumOf 0 = .ok (.iload_n 2, 1) := by decide +kernel
theorem dX2_minimumOf_1 : decode cX2_minimumOf 1 = .ok (.ifCond .ne 10, 3) := by decide +kernel
theorem dX2_minimumOf_4 : decode cX2_minimumOf 4 = .ok (.aload_n 0, 1) := by decide +kernel
theorem dX2_minimumOf_5 : decode cX2_minimumOf 5 = .ok (.getfield 15, 3) := by decide +kernel
theorem dX2_minimumOf_8 : decode cX2_minimumOf 8 = .ok (.goto 7, 3) := by decide +kernel
theorem dX2_minimumOf_11 : decode cX2_minimumOf 11 = .ok (.aload_n 0, 1) := by decide +kernel
theorem dX2_minimumOf_12 : decode cX2_minimumOf 12 = .ok (.getfield 18, 3) := by decide +kernel
theorem dX2_minimumOf_15 : decode cX2_minimumOf 15 = .ok (.iload_n 1, 1) := by decide +kernel
theorem dX2_minimumOf_16 : decode cX2_minimumOf 16 = .ok (.invokestatic 46, 3) := by decide +kernel
theorem dX2_minimumOf_19 : decode cX2_minimumOf 19 = .ok (.ireturn, 1) := by decide +kernel
abbrev rmX2_minimumOf : Room := { frames := 1, cells := 0, slots := 0, locals := 21 }
theorem hdX2_minimumOf : yX2_minimumOf.cls ≠ "java/lang/invoke/MethodHandle" ∧ yX2_minimumOf.cls ≠ "java/lang/invoke/VarHandle" ∧ (parseMethodDescriptor yX2_minimumOf.desc).map (fun d => d.parameters.length) = some 2 := by decide +kernel
def fX2_minimumOf_15 (σ : Sg) (b : Nat) (l1 : Int32) (s0 : Nat) : Option Int32 :=
  (fX8_at σ s0 23 l1).bind fun r1 =>
  some r1
theorem bX2_minimumOf_15 {X : Xc} {K : Kc} (C : MC X K cX2_minimumOf 3 RX2 rmX2_minimumOf) (hr : K.meth.sig.returnType = (some .int)) (σ : Sg) (b : Nat) (hb : pnOK b) (l1 : Int32) (s0 : Nat) (hs0 : SHP[s0]? = some (0, [23])) : GO X K 3 (fun r => MQi X K r σ) (fX2_minimumOf_15 σ b l1 s0) σ 0 0 15 [none, some (.int (l1)), none] [.ref (X.ad s0)] := by
  unfold fX2_minimumOf_15
  refine g_iload_n (pc := 15) (i := 1) C dX2_minimumOf_15 rfl rfl ?_
  refine g_callNi (pc := 16) (As := [.ref (X.ad s0), .int (l1)]) C (kX8_at X σ s0 23 l1 hs0) (List.mem_of_getElem? (i := 7) rfl) q_11_22 q_1_2 q_11_23 hdX8_at ⟨Nat.le_of_ble_eq_true rfl, Nat.le_of_ble_eq_true rfl, rfl, rfl⟩ ⟨Nat.zero_le _, Nat.zero_le _⟩ (Nat.le_of_ble_eq_true rfl) rfl rfl dX2_minimumOf_16 (fun r1 _ => ?_)
  exact g_iret (pc := 19) C hr dX2_minimumOf_19 rfl
def fX2_minimumOf (σ : Sg) (b : Nat) (p1 : Int32) (p2 : Int32) : Option Int32 :=
  if p2 = 0 then
    (fX2_minimumOf_15 σ b p1 (b + 2))
  else
    (fX2_minimumOf_15 σ b p1 (b + 3))
theorem kX2_minimumOf (X : Xc) (σ : Sg) (b : Nat) (p1 : Int32) (p2 : Int32) (hb : pnOK b) : ∀ r, fX2_minimumOf σ b p1 p2 = some r → Met X.l yX2_minimumOf (wsM yX2_minimumOf cX2_minimumOf 3 (some .int)) rmX2_minimumOf (va_Pc [.ref (X.ad b), .int p1, .int p2] (PW X σ)) (Qi X r σ) 0 0 X.A := by
  refine mt_of (own := RX2) (lo := [some (.ref (X.ad b)), some (.int (p1)), some (.int (p2))]) (by decide) rfl (Nat.le_of_ble_eq_true rfl) rfl (fun K C hr => ?_)
  unfold fX2_minimumOf
  refine g_iload_n (pc := 0) (i := 2) C dX2_minimumOf_0 rfl rfl ?_
  refine g_if_ne (pc := 1) (tgt := 11) C dX2_minimumOf_1 rfl ?_ ?_
  · refine g_aload_n (pc := 4) (i := 0) C dX2_minimumOf_4 rfl rfl ?_
    refine g_getr (pc := 5) (ci := 2) (N := 11) (T := TX2) (j := 1) (Cn := RX2) (b + 2) C rfl inlX2 (Nat.le_of_ble_eq_true rfl) q_4_9 (blk hb 0 rfl) rfl dX2_minimumOf_5 ?_
    refine g_goto (pc := 8) (tgt := 15) C dX2_minimumOf_8 rfl ?_
    refine g_keep [false, true, false] ?_
    exact bX2_minimumOf_15 C hr σ b hb p1 (b + 2) (blk hb 2 rfl)
  · refine g_aload_n (pc := 11) (i := 0) C dX2_minimumOf_11 rfl rfl ?_
    refine g_getr (pc := 12) (ci := 2) (N := 11) (T := TX2) (j := 2) (Cn := RX2) (b + 3) C rfl inlX2 (Nat.le_of_ble_eq_true rfl) q_4_10 (blk hb 0 rfl) rfl dX2_minimumOf_12 ?_
    refine g_keep [false, true, false] ?_
    exact bX2_minimumOf_15 C hr σ b hb p1 (b + 3) (blk hb 3 rfl)
theorem dX2_extentOf_0 : decode cX2_extentOf 0 = .ok (.iload_n 2, 1) := by decide +kernel
theorem dX2_extentOf_1 : decode cX2_extentOf 1 = .ok (.ifCond .ne 10, 3) := by decide +kernel
theorem dX2_extentOf_4 : decode cX2_extentOf 4 = .ok (.aload_n 0, 1) := by decide +kernel
theorem dX2_extentOf_5 : decode cX2_extentOf 5 = .ok (.getfield 27, 3) := by decide +kernel
theorem dX2_extentOf_8 : decode cX2_extentOf 8 = .ok (.goto 7, 3) := by decide +kernel
theorem dX2_extentOf_11 : decode cX2_extentOf 11 = .ok (.aload_n 0, 1) := by decide +kernel
theorem dX2_extentOf_12 : decode cX2_extentOf 12 = .ok (.getfield 30, 3) := by decide +kernel
theorem dX2_extentOf_15 : decode cX2_extentOf 15 = .ok (.iload_n 1, 1) := by decide +kernel
theorem dX2_extentOf_16 : decode cX2_extentOf 16 = .ok (.invokestatic 46, 3) := by decide +kernel
theorem dX2_extentOf_19 : decode cX2_extentOf 19 = .ok (.ireturn, 1) := by decide +kernel
abbrev rmX2_extentOf : Room := { frames := 1, cells := 0, slots := 0, locals := 21 }
theorem hdX2_extentOf : yX2_extentOf.cls ≠ "java/lang/invoke/MethodHandle" ∧ yX2_extentOf.cls ≠ "java/lang/invoke/VarHandle" ∧ (parseMethodDescriptor yX2_extentOf.desc).map (fun d => d.parameters.length) = some 2 := by decide +kernel
def fX2_extentOf_15 (σ : Sg) (b : Nat) (l1 : Int32) (s0 : Nat) : Option Int32 :=
  (fX8_at σ s0 23 l1).bind fun r1 =>
  some r1
theorem bX2_extentOf_15 {X : Xc} {K : Kc} (C : MC X K cX2_extentOf 3 RX2 rmX2_extentOf) (hr : K.meth.sig.returnType = (some .int)) (σ : Sg) (b : Nat) (hb : pnOK b) (l1 : Int32) (s0 : Nat) (hs0 : SHP[s0]? = some (0, [23])) : GO X K 3 (fun r => MQi X K r σ) (fX2_extentOf_15 σ b l1 s0) σ 0 0 15 [none, some (.int (l1)), none] [.ref (X.ad s0)] := by
  unfold fX2_extentOf_15
  refine g_iload_n (pc := 15) (i := 1) C dX2_extentOf_15 rfl rfl ?_
  refine g_callNi (pc := 16) (As := [.ref (X.ad s0), .int (l1)]) C (kX8_at X σ s0 23 l1 hs0) (List.mem_of_getElem? (i := 7) rfl) q_11_22 q_1_2 q_11_23 hdX8_at ⟨Nat.le_of_ble_eq_true rfl, Nat.le_of_ble_eq_true rfl, rfl, rfl⟩ ⟨Nat.zero_le _, Nat.zero_le _⟩ (Nat.le_of_ble_eq_true rfl) rfl rfl dX2_extentOf_16 (fun r1 _ => ?_)
  exact g_iret (pc := 19) C hr dX2_extentOf_19 rfl
def fX2_extentOf (σ : Sg) (b : Nat) (p1 : Int32) (p2 : Int32) : Option Int32 :=
  if p2 = 0 then
    (fX2_extentOf_15 σ b p1 (b + 6))
  else
    (fX2_extentOf_15 σ b p1 (b + 7))
theorem kX2_extentOf (X : Xc) (σ : Sg) (b : Nat) (p1 : Int32) (p2 : Int32) (hb : pnOK b) : ∀ r, fX2_extentOf σ b p1 p2 = some r → Met X.l yX2_extentOf (wsM yX2_extentOf cX2_extentOf 3 (some .int)) rmX2_extentOf (va_Pc [.ref (X.ad b), .int p1, .int p2] (PW X σ)) (Qi X r σ) 0 0 X.A := by
  refine mt_of (own := RX2) (lo := [some (.ref (X.ad b)), some (.int (p1)), some (.int (p2))]) (by decide) rfl (Nat.le_of_ble_eq_true rfl) rfl (fun K C hr => ?_)
  unfold fX2_extentOf
  refine g_iload_n (pc := 0) (i := 2) C dX2_extentOf_0 rfl rfl ?_
  refine g_if_ne (pc := 1) (tgt := 11) C dX2_extentOf_1 rfl ?_ ?_
  · refine g_aload_n (pc := 4) (i := 0) C dX2_extentOf_4 rfl rfl ?_
    refine g_getr (pc := 5) (ci := 2) (N := 11) (T := TX2) (j := 5) (Cn := RX2) (b + 6) C rfl inlX2 (Nat.le_of_ble_eq_true rfl) q_4_13 (blk hb 0 rfl) rfl dX2_extentOf_5 ?_
    refine g_goto (pc := 8) (tgt := 15) C dX2_extentOf_8 rfl ?_
    refine g_keep [false, true, false] ?_
    exact bX2_extentOf_15 C hr σ b hb p1 (b + 6) (blk hb 6 rfl)
  · refine g_aload_n (pc := 11) (i := 0) C dX2_extentOf_11 rfl rfl ?_
    refine g_getr (pc := 12) (ci := 2) (N := 11) (T := TX2) (j := 6) (Cn := RX2) (b + 7) C rfl inlX2 (Nat.le_of_ble_eq_true rfl) q_4_14 (blk hb 0 rfl) rfl dX2_extentOf_12 ?_
    refine g_keep [false, true, false] ?_
    exact bX2_extentOf_15 C hr σ b hb p1 (b + 7) (blk hb 7 rfl)
theorem dX2_arrange_0 : decode cX2_arrange 0 = .ok (.aload_n 1, 1) := by decide +kernel
theorem dX2_arrange_1 : decode cX2_arrange 1 = .ok (.iload_n 2, 1) := by decide +kernel
theorem dX2_arrange_2 : decode cX2_arrange 2 = .ok (.invokevirtual 114, 3) := by decide +kernel
theorem dX2_arrange_5 : decode cX2_arrange 5 = .ok (.istore_n 3, 1) := by decide +kernel
theorem dX2_arrange_6 : decode cX2_arrange 6 = .ok (.iload_n 3, 1) := by decide +kernel
theorem dX2_arrange_7 : decode cX2_arrange 7 = .ok (.iconst 2, 1) := by decide +kernel
theorem dX2_arrange_8 : decode cX2_arrange 8 = .ok (.if_icmp .ne 4, 3) := by decide +kernel
theorem dX2_arrange_11 : decode cX2_arrange 11 = .ok (.return_, 1) := by decide +kernel
theorem dX2_arrange_12 : decode cX2_arrange 12 = .ok (.aload_n 0, 1) := by decide +kernel
theorem dX2_arrange_13 : decode cX2_arrange 13 = .ok (.aload_n 1, 1) := by decide +kernel
theorem dX2_arrange_14 : decode cX2_arrange 14 = .ok (.iload_n 2, 1) := by decide +kernel
theorem dX2_arrange_15 : decode cX2_arrange 15 = .ok (.invokevirtual 160, 3) := by decide +kernel
theorem dX2_arrange_18 : decode cX2_arrange 18 = .ok (.istore 4, 2) := by decide +kernel
theorem dX2_arrange_20 : decode cX2_arrange 20 = .ok (.aload_n 0, 1) := by decide +kernel
theorem dX2_arrange_21 : decode cX2_arrange 21 = .ok (.getfield 42, 3) := by decide +kernel
theorem dX2_arrange_24 : decode cX2_arrange 24 = .ok (.invokevirtual 164, 3) := by decide +kernel
theorem dX2_arrange_27 : decode cX2_arrange 27 = .ok (.iconst 0, 1) := by decide +kernel
theorem dX2_arrange_28 : decode cX2_arrange 28 = .ok (.istore 5, 2) := by decide +kernel
theorem dX2_arrange_30 : decode cX2_arrange 30 = .ok (.iload 5, 2) := by decide +kernel
theorem dX2_arrange_32 : decode cX2_arrange 32 = .ok (.iload 4, 2) := by decide +kernel
theorem dX2_arrange_34 : decode cX2_arrange 34 = .ok (.if_icmp .ge 43, 3) := by decide +kernel
theorem dX2_arrange_37 : decode cX2_arrange 37 = .ok (.aload_n 0, 1) := by decide +kernel
theorem dX2_arrange_38 : decode cX2_arrange 38 = .ok (.getfield 42, 3) := by decide +kernel
theorem dX2_arrange_41 : decode cX2_arrange 41 = .ok (.aload_n 0, 1) := by decide +kernel
theorem dX2_arrange_42 : decode cX2_arrange 42 = .ok (.aload_n 0, 1) := by decide +kernel
theorem dX2_arrange_43 : decode cX2_arrange 43 = .ok (.getfield 36, 3) := by decide +kernel
theorem dX2_arrange_46 : decode cX2_arrange 46 = .ok (.iload 5, 2) := by decide +kernel
theorem dX2_arrange_48 : decode cX2_arrange 48 = .ok (.invokestatic 46, 3) := by decide +kernel
theorem dX2_arrange_51 : decode cX2_arrange 51 = .ok (.iload_n 3, 1) := by decide +kernel
theorem dX2_arrange_52 : decode cX2_arrange 52 = .ok (.invokevirtual 79, 3) := by decide +kernel
theorem dX2_arrange_55 : decode cX2_arrange 55 = .ok (.aload_n 1, 1) := by decide +kernel
theorem dX2_arrange_56 : decode cX2_arrange 56 = .ok (.aload_n 0, 1) := by decide +kernel
theorem dX2_arrange_57 : decode cX2_arrange 57 = .ok (.getfield 36, 3) := by decide +kernel
theorem dX2_arrange_60 : decode cX2_arrange 60 = .ok (.iload 5, 2) := by decide +kernel
theorem dX2_arrange_62 : decode cX2_arrange 62 = .ok (.invokestatic 46, 3) := by decide +kernel
theorem dX2_arrange_65 : decode cX2_arrange 65 = .ok (.invokevirtual 167, 3) := by decide +kernel
theorem dX2_arrange_68 : decode cX2_arrange 68 = .ok (.invokevirtual 170, 3) := by decide +kernel
theorem dX2_arrange_71 : decode cX2_arrange 71 = .ok (.iinc 5 1, 3) := by decide +kernel
theorem dX2_arrange_74 : decode cX2_arrange 74 = .ok (.goto (-44), 3) := by decide +kernel
theorem dX2_arrange_77 : decode cX2_arrange 77 = .ok (.aload_n 0, 1) := by decide +kernel
theorem dX2_arrange_78 : decode cX2_arrange 78 = .ok (.getfield 42, 3) := by decide +kernel
theorem dX2_arrange_81 : decode cX2_arrange 81 = .ok (.iconst 0, 1) := by decide +kernel
theorem dX2_arrange_82 : decode cX2_arrange 82 = .ok (.aload_n 0, 1) := by decide +kernel
theorem dX2_arrange_83 : decode cX2_arrange 83 = .ok (.iload_n 2, 1) := by decide +kernel
theorem dX2_arrange_84 : decode cX2_arrange 84 = .ok (.iload_n 3, 1) := by decide +kernel
theorem dX2_arrange_85 : decode cX2_arrange 85 = .ok (.invokevirtual 76, 3) := by decide +kernel
theorem dX2_arrange_88 : decode cX2_arrange 88 = .ok (.iload 4, 2) := by decide +kernel
theorem dX2_arrange_90 : decode cX2_arrange 90 = .ok (.iconst 1, 1) := by decide +kernel
theorem dX2_arrange_91 : decode cX2_arrange 91 = .ok (.isub, 1) := by decide +kernel
theorem dX2_arrange_92 : decode cX2_arrange 92 = .ok (.isub, 1) := by decide +kernel
theorem dX2_arrange_93 : decode cX2_arrange 93 = .ok (.invokestatic 82, 3) := by decide +kernel
theorem dX2_arrange_96 : decode cX2_arrange 96 = .ok (.invokevirtual 174, 3) := by decide +kernel
theorem dX2_arrange_99 : decode cX2_arrange 99 = .ok (.iconst 0, 1) := by decide +kernel
theorem dX2_arrange_100 : decode cX2_arrange 100 = .ok (.istore 5, 2) := by decide +kernel
theorem dX2_arrange_102 : decode cX2_arrange 102 = .ok (.iconst 0, 1) := by decide +kernel
theorem dX2_arrange_103 : decode cX2_arrange 103 = .ok (.istore 6, 2) := by decide +kernel
theorem dX2_arrange_105 : decode cX2_arrange 105 = .ok (.iload 6, 2) := by decide +kernel
theorem dX2_arrange_107 : decode cX2_arrange 107 = .ok (.iload 4, 2) := by decide +kernel
theorem dX2_arrange_109 : decode cX2_arrange 109 = .ok (.if_icmp .ge 173, 3) := by decide +kernel
theorem dX2_arrange_112 : decode cX2_arrange 112 = .ok (.aload_n 0, 1) := by decide +kernel
theorem dX2_arrange_113 : decode cX2_arrange 113 = .ok (.getfield 36, 3) := by decide +kernel
theorem dX2_arrange_116 : decode cX2_arrange 116 = .ok (.iload 6, 2) := by decide +kernel
theorem dX2_arrange_118 : decode cX2_arrange 118 = .ok (.invokestatic 46, 3) := by decide +kernel
theorem dX2_arrange_121 : decode cX2_arrange 121 = .ok (.istore 7, 2) := by decide +kernel
theorem dX2_arrange_123 : decode cX2_arrange 123 = .ok (.iload_n 3, 1) := by decide +kernel
theorem dX2_arrange_124 : decode cX2_arrange 124 = .ok (.ifCond .ne 7, 3) := by decide +kernel
theorem dX2_arrange_127 : decode cX2_arrange 127 = .ok (.iconst 1, 1) := by decide +kernel
theorem dX2_arrange_128 : decode cX2_arrange 128 = .ok (.goto 4, 3) := by decide +kernel
theorem dX2_arrange_131 : decode cX2_arrange 131 = .ok (.iconst 0, 1) := by decide +kernel
theorem dX2_arrange_132 : decode cX2_arrange 132 = .ok (.istore 8, 2) := by decide +kernel
theorem dX2_arrange_134 : decode cX2_arrange 134 = .ok (.aload_n 0, 1) := by decide +kernel
theorem dX2_arrange_135 : decode cX2_arrange 135 = .ok (.getfield 21, 3) := by decide +kernel
theorem dX2_arrange_138 : decode cX2_arrange 138 = .ok (.iload 7, 2) := by decide +kernel
theorem dX2_arrange_140 : decode cX2_arrange 140 = .ok (.aload_n 0, 1) := by decide +kernel
theorem dX2_arrange_141 : decode cX2_arrange 141 = .ok (.getfield 21, 3) := by decide +kernel
theorem dX2_arrange_144 : decode cX2_arrange 144 = .ok (.iload_n 2, 1) := by decide +kernel
theorem dX2_arrange_145 : decode cX2_arrange 145 = .ok (.invokestatic 46, 3) := by decide +kernel
theorem dX2_arrange_148 : decode cX2_arrange 148 = .ok (.iload 8, 2) := by decide +kernel
theorem dX2_arrange_150 : decode cX2_arrange 150 = .ok (.ifCond .eq 8, 3) := by decide +kernel
theorem dX2_arrange_153 : decode cX2_arrange 153 = .ok (.iload 5, 2) := by decide +kernel
theorem dX2_arrange_155 : decode cX2_arrange 155 = .ok (.goto 4, 3) := by decide +kernel
theorem dX2_arrange_158 : decode cX2_arrange 158 = .ok (.iconst 0, 1) := by decide +kernel
theorem dX2_arrange_159 : decode cX2_arrange 159 = .ok (.iadd, 1) := by decide +kernel
theorem dX2_arrange_160 : decode cX2_arrange 160 = .ok (.invokestatic 126, 3) := by decide +kernel
theorem dX2_arrange_163 : decode cX2_arrange 163 = .ok (.aload_n 0, 1) := by decide +kernel
theorem dX2_arrange_164 : decode cX2_arrange 164 = .ok (.getfield 24, 3) := by decide +kernel
theorem dX2_arrange_167 : decode cX2_arrange 167 = .ok (.iload 7, 2) := by decide +kernel
theorem dX2_arrange_169 : decode cX2_arrange 169 = .ok (.aload_n 0, 1) := by decide +kernel
theorem dX2_arrange_170 : decode cX2_arrange 170 = .ok (.getfield 24, 3) := by decide +kernel
theorem dX2_arrange_173 : decode cX2_arrange 173 = .ok (.iload_n 2, 1) := by decide +kernel
theorem dX2_arrange_174 : decode cX2_arrange 174 = .ok (.invokestatic 46, 3) := by decide +kernel
theorem dX2_arrange_177 : decode cX2_arrange 177 = .ok (.iload 8, 2) := by decide +kernel
theorem dX2_arrange_179 : decode cX2_arrange 179 = .ok (.ifCond .eq 7, 3) := by decide +kernel
theorem dX2_arrange_182 : decode cX2_arrange 182 = .ok (.iconst 0, 1) := by decide +kernel
theorem dX2_arrange_183 : decode cX2_arrange 183 = .ok (.goto 5, 3) := by decide +kernel
theorem dX2_arrange_186 : decode cX2_arrange 186 = .ok (.iload 5, 2) := by decide +kernel
theorem dX2_arrange_188 : decode cX2_arrange 188 = .ok (.iadd, 1) := by decide +kernel
theorem dX2_arrange_189 : decode cX2_arrange 189 = .ok (.invokestatic 126, 3) := by decide +kernel
theorem dX2_arrange_192 : decode cX2_arrange 192 = .ok (.aload_n 0, 1) := by decide +kernel
theorem dX2_arrange_193 : decode cX2_arrange 193 = .ok (.getfield 27, 3) := by decide +kernel
theorem dX2_arrange_196 : decode cX2_arrange 196 = .ok (.iload 7, 2) := by decide +kernel
theorem dX2_arrange_198 : decode cX2_arrange 198 = .ok (.iload 8, 2) := by decide +kernel
theorem dX2_arrange_200 : decode cX2_arrange 200 = .ok (.ifCond .eq 15, 3) := by decide +kernel
theorem dX2_arrange_203 : decode cX2_arrange 203 = .ok (.aload_n 0, 1) := by decide +kernel
theorem dX2_arrange_204 : decode cX2_arrange 204 = .ok (.getfield 42, 3) := by decide +kernel
theorem dX2_arrange_207 : decode cX2_arrange 207 = .ok (.iload 6, 2) := by decide +kernel
theorem dX2_arrange_209 : decode cX2_arrange 209 = .ok (.invokevirtual 177, 3) := by decide +kernel
theorem dX2_arrange_212 : decode cX2_arrange 212 = .ok (.goto 11, 3) := by decide +kernel
theorem dX2_arrange_215 : decode cX2_arrange 215 = .ok (.aload_n 0, 1) := by decide +kernel
theorem dX2_arrange_216 : decode cX2_arrange 216 = .ok (.getfield 27, 3) := by decide +kernel
theorem dX2_arrange_219 : decode cX2_arrange 219 = .ok (.iload_n 2, 1) := by decide +kernel
theorem dX2_arrange_220 : decode cX2_arrange 220 = .ok (.invokestatic 46, 3) := by decide +kernel
theorem dX2_arrange_223 : decode cX2_arrange 223 = .ok (.invokestatic 126, 3) := by decide +kernel
theorem dX2_arrange_226 : decode cX2_arrange 226 = .ok (.aload_n 0, 1) := by decide +kernel
theorem dX2_arrange_227 : decode cX2_arrange 227 = .ok (.getfield 30, 3) := by decide +kernel
theorem dX2_arrange_230 : decode cX2_arrange 230 = .ok (.iload 7, 2) := by decide +kernel
theorem dX2_arrange_232 : decode cX2_arrange 232 = .ok (.iload 8, 2) := by decide +kernel
theorem dX2_arrange_234 : decode cX2_arrange 234 = .ok (.ifCond .eq 14, 3) := by decide +kernel
theorem dX2_arrange_237 : decode cX2_arrange 237 = .ok (.aload_n 0, 1) := by decide +kernel
theorem dX2_arrange_238 : decode cX2_arrange 238 = .ok (.getfield 30, 3) := by decide +kernel
theorem dX2_arrange_241 : decode cX2_arrange 241 = .ok (.iload_n 2, 1) := by decide +kernel
theorem dX2_arrange_242 : decode cX2_arrange 242 = .ok (.invokestatic 46, 3) := by decide +kernel
theorem dX2_arrange_245 : decode cX2_arrange 245 = .ok (.goto 12, 3) := by decide +kernel
theorem dX2_arrange_248 : decode cX2_arrange 248 = .ok (.aload_n 0, 1) := by decide +kernel
theorem dX2_arrange_249 : decode cX2_arrange 249 = .ok (.getfield 42, 3) := by decide +kernel
theorem dX2_arrange_252 : decode cX2_arrange 252 = .ok (.iload 6, 2) := by decide +kernel
theorem dX2_arrange_254 : decode cX2_arrange 254 = .ok (.invokevirtual 177, 3) := by decide +kernel
theorem dX2_arrange_257 : decode cX2_arrange 257 = .ok (.invokestatic 126, 3) := by decide +kernel
theorem dX2_arrange_260 : decode cX2_arrange 260 = .ok (.iload 5, 2) := by decide +kernel
theorem dX2_arrange_262 : decode cX2_arrange 262 = .ok (.aload_n 0, 1) := by decide +kernel
theorem dX2_arrange_263 : decode cX2_arrange 263 = .ok (.getfield 42, 3) := by decide +kernel
theorem dX2_arrange_266 : decode cX2_arrange 266 = .ok (.iload 6, 2) := by decide +kernel
theorem dX2_arrange_268 : decode cX2_arrange 268 = .ok (.invokevirtual 177, 3) := by decide +kernel
theorem dX2_arrange_271 : decode cX2_arrange 271 = .ok (.iconst 1, 1) := by decide +kernel
theorem dX2_arrange_272 : decode cX2_arrange 272 = .ok (.iadd, 1) := by decide +kernel
theorem dX2_arrange_273 : decode cX2_arrange 273 = .ok (.iadd, 1) := by decide +kernel
theorem dX2_arrange_274 : decode cX2_arrange 274 = .ok (.istore 5, 2) := by decide +kernel
theorem dX2_arrange_276 : decode cX2_arrange 276 = .ok (.iinc 6 1, 3) := by decide +kernel
theorem dX2_arrange_279 : decode cX2_arrange 279 = .ok (.goto (-174), 3) := by decide +kernel
theorem dX2_arrange_282 : decode cX2_arrange 282 = .ok (.return_, 1) := by decide +kernel
abbrev rmX2_arrange : Room := { frames := 4, cells := 0, slots := 0, locals := 137 }
theorem hdX2_arrange : yX2_arrange.cls ≠ "java/lang/invoke/MethodHandle" ∧ yX2_arrange.cls ≠ "java/lang/invoke/VarHandle" ∧ (parseMethodDescriptor yX2_arrange.desc).map (fun d => d.parameters.length) = some 2 := by decide +kernel
def fX2_arrange_257 (b : Nat) (c1 : Nat) (k105 : Sg → Int32 → Int32 → Int32 → Int32 → Int32 → Option Sg) (σ : Sg) (l2 : Int32) (l3 : Int32) (l4 : Int32) (l5 : Int32) (l6 : Int32) (s1 : Int32) (s2 : Int32) : Option Sg :=
  (fX8_put σ (b + 7) 23 s1 s2).bind fun σ22 =>
  (fX3_sizeOf σ22 (b + 10) l6).bind fun r23 =>
  nm (l5 + (r23 + 1)) fun v24 =>
  (k105 σ22 l2 l3 l4 v24 (l6 + 1))
theorem bX2_arrange_257 {X : Xc} {K : Kc} (C : MC X K cX2_arrange 9 RX2 rmX2_arrange) (hr : K.meth.sig.returnType = none) (b : Nat) (c1 : Nat) (hb : pnOK b) (h1 : plOK c1){k105 : Sg → Int32 → Int32 → Int32 → Int32 → Int32 → Option Sg} (hk105 : ∀ (σ : Sg) (l2 : Int32) (l3 : Int32) (l4 : Int32) (l5 : Int32) (l6 : Int32), GO X K 9 (fun r => MQv X K r) (k105 σ l2 l3 l4 l5 l6) σ 0 0 105 [some (.ref (X.ad b)), none, some (.int (l2)), some (.int (l3)), some (.int (l4)), some (.int (l5)), some (.int (l6)), none, none] []) (σ : Sg) (l2 : Int32) (l3 : Int32) (l4 : Int32) (l5 : Int32) (l6 : Int32) (s1 : Int32) (s2 : Int32) : GO X K 9 (fun r => MQv X K r) (fX2_arrange_257 b c1 k105 σ l2 l3 l4 l5 l6 s1 s2) σ 0 0 257 [some (.ref (X.ad b)), none, some (.int (l2)), some (.int (l3)), some (.int (l4)), some (.int (l5)), some (.int (l6)), none, none] [.int (s2), .int (s1), .ref (X.ad (b + 7))] := by
  unfold fX2_arrange_257
  refine g_callNv (pc := 257) (As := [.ref (X.ad (b + 7)), .int (s1), .int (s2)]) C (kX8_put X σ (b + 7) 23 s1 s2 (blk hb 7 rfl)) (List.mem_of_getElem? (i := 9) rfl) q_9_20 q_1_2 q_9_21 hdX8_put ⟨Nat.le_of_ble_eq_true rfl, Nat.le_of_ble_eq_true rfl, rfl, rfl⟩ ⟨Nat.zero_le _, Nat.zero_le _⟩ (Nat.le_of_ble_eq_true rfl) rfl rfl dX2_arrange_257 (fun σ22 _ => ?_)
  refine g_iload (pc := 260) C dX2_arrange_260 rfl ?_
  refine g_aload_n (pc := 262) (i := 0) C dX2_arrange_262 rfl rfl ?_
  refine g_getr (pc := 263) (ci := 2) (N := 11) (T := TX2) (j := 10) (Cn := RX2) (b + 10) C rfl inlX2 (Nat.le_of_ble_eq_true rfl) q_4_20 (blk hb 0 rfl) rfl dX2_arrange_263 ?_
  refine g_iload (pc := 266) C dX2_arrange_266 rfl ?_
  refine g_callVi (pc := 268) (As := [.int (l6)]) C (kX3_sizeOf X σ22 (b + 10) l6 (pn_sh hb)) (blk (pn_sh hb) 0 rfl) rfl q_19_1 q_19_2 q_19_3 q_4_19 q_19_4 ⟨rfl, hdX3_sizeOf⟩ ⟨Nat.le_of_ble_eq_true rfl, Nat.le_of_ble_eq_true rfl, rfl, rfl⟩ ⟨Nat.zero_le _, Nat.zero_le _⟩ (Nat.le_of_ble_eq_true rfl) rfl rfl dX2_arrange_268 (fun r23 _ => ?_)
  refine g_iconst (pc := 271) (v := 1) C dX2_arrange_271 (by decide) ?_
  refine g_iadd (pc := 272) C dX2_arrange_272 ?_
  refine g_iadd (pc := 273) C dX2_arrange_273 ?_
  refine g_nm (fun v24 => ?_)
  refine g_istore (pc := 274) C dX2_arrange_274 (Nat.le_of_ble_eq_true rfl) rfl ?_
  refine g_iinc (pc := 276) (v := l6 + 1) C dX2_arrange_276 rfl (rfl) (Nat.le_of_ble_eq_true rfl) rfl ?_
  refine g_goto (pc := 279) (tgt := 105) C dX2_arrange_279 rfl ?_
  refine g_keep [true, false, true, true, true, true, true, false, false] ?_
  exact hk105 σ22 l2 l3 l4 v24 (l6 + 1)
def fX2_arrange_223 (b : Nat) (c1 : Nat) (k105 : Sg → Int32 → Int32 → Int32 → Int32 → Int32 → Option Sg) (σ : Sg) (l2 : Int32) (l3 : Int32) (l4 : Int32) (l5 : Int32) (l6 : Int32) (l7 : Int32) (l8 : Int32) (s1 : Int32) (s2 : Int32) : Option Sg :=
  (fX8_put σ (b + 6) 23 s1 s2).bind fun σ19 =>
  if l8 = 0 then
    (fX3_sizeOf σ19 (b + 10) l6).bind fun r20 =>
    (fX2_arrange_257 b c1 k105 σ19 l2 l3 l4 l5 l6 l7 r20)
  else
    (fX8_at σ19 (b + 7) 23 l2).bind fun r21 =>
    (fX2_arrange_257 b c1 k105 σ19 l2 l3 l4 l5 l6 l7 r21)
theorem bX2_arrange_223 {X : Xc} {K : Kc} (C : MC X K cX2_arrange 9 RX2 rmX2_arrange) (hr : K.meth.sig.returnType = none) (b : Nat) (c1 : Nat) (hb : pnOK b) (h1 : plOK c1){k105 : Sg → Int32 → Int32 → Int32 → Int32 → Int32 → Option Sg} (hk105 : ∀ (σ : Sg) (l2 : Int32) (l3 : Int32) (l4 : Int32) (l5 : Int32) (l6 : Int32), GO X K 9 (fun r => MQv X K r) (k105 σ l2 l3 l4 l5 l6) σ 0 0 105 [some (.ref (X.ad b)), none, some (.int (l2)), some (.int (l3)), some (.int (l4)), some (.int (l5)), some (.int (l6)), none, none] []) (σ : Sg) (l2 : Int32) (l3 : Int32) (l4 : Int32) (l5 : Int32) (l6 : Int32) (l7 : Int32) (l8 : Int32) (s1 : Int32) (s2 : Int32) : GO X K 9 (fun r => MQv X K r) (fX2_arrange_223 b c1 k105 σ l2 l3 l4 l5 l6 l7 l8 s1 s2) σ 0 0 223 [some (.ref (X.ad b)), none, some (.int (l2)), some (.int (l3)), some (.int (l4)), some (.int (l5)), some (.int (l6)), some (.int (l7)), some (.int (l8))] [.int (s2), .int (s1), .ref (X.ad (b + 6))] := by
  unfold fX2_arrange_223
  refine g_callNv (pc := 223) (As := [.ref (X.ad (b + 6)), .int (s1), .int (s2)]) C (kX8_put X σ (b + 6) 23 s1 s2 (blk hb 6 rfl)) (List.mem_of_getElem? (i := 9) rfl) q_9_20 q_1_2 q_9_21 hdX8_put ⟨Nat.le_of_ble_eq_true rfl, Nat.le_of_ble_eq_true rfl, rfl, rfl⟩ ⟨Nat.zero_le _, Nat.zero_le _⟩ (Nat.le_of_ble_eq_true rfl) rfl rfl dX2_arrange_223 (fun σ19 _ => ?_)
  refine g_aload_n (pc := 226) (i := 0) C dX2_arrange_226 rfl rfl ?_
  refine g_getr (pc := 227) (ci := 2) (N := 11) (T := TX2) (j := 6) (Cn := RX2) (b + 7) C rfl inlX2 (Nat.le_of_ble_eq_true rfl) q_4_14 (blk hb 0 rfl) rfl dX2_arrange_227 ?_
  refine g_iload (pc := 230) C dX2_arrange_230 rfl ?_
  refine g_iload (pc := 232) C dX2_arrange_232 rfl ?_
  refine g_if_eq (pc := 234) (tgt := 248) C dX2_arrange_234 rfl ?_ ?_
  · refine g_aload_n (pc := 248) (i := 0) C dX2_arrange_248 rfl rfl ?_
    refine g_getr (pc := 249) (ci := 2) (N := 11) (T := TX2) (j := 10) (Cn := RX2) (b + 10) C rfl inlX2 (Nat.le_of_ble_eq_true rfl) q_4_20 (blk hb 0 rfl) rfl dX2_arrange_249 ?_
    refine g_iload (pc := 252) C dX2_arrange_252 rfl ?_
    refine g_callVi (pc := 254) (As := [.int (l6)]) C (kX3_sizeOf X σ19 (b + 10) l6 (pn_sh hb)) (blk (pn_sh hb) 0 rfl) rfl q_19_1 q_19_2 q_19_3 q_4_19 q_19_4 ⟨rfl, hdX3_sizeOf⟩ ⟨Nat.le_of_ble_eq_true rfl, Nat.le_of_ble_eq_true rfl, rfl, rfl⟩ ⟨Nat.zero_le _, Nat.zero_le _⟩ (Nat.le_of_ble_eq_true rfl) rfl rfl dX2_arrange_254 (fun r20 _ => ?_)
    refine g_keep [true, false, true, true, true, true, true, false, false] ?_
    exact bX2_arrange_257 C hr b c1 hb h1 hk105 σ19 l2 l3 l4 l5 l6 l7 r20
  · refine g_aload_n (pc := 237) (i := 0) C dX2_arrange_237 rfl rfl ?_
    refine g_getr (pc := 238) (ci := 2) (N := 11) (T := TX2) (j := 6) (Cn := RX2) (b + 7) C rfl inlX2 (Nat.le_of_ble_eq_true rfl) q_4_14 (blk hb 0 rfl) rfl dX2_arrange_238 ?_
    refine g_iload_n (pc := 241) (i := 2) C dX2_arrange_241 rfl rfl ?_
    refine g_callNi (pc := 242) (As := [.ref (X.ad (b + 7)), .int (l2)]) C (kX8_at X σ19 (b + 7) 23 l2 (blk hb 7 rfl)) (List.mem_of_getElem? (i := 7) rfl) q_11_22 q_1_2 q_11_23 hdX8_at ⟨Nat.le_of_ble_eq_true rfl, Nat.le_of_ble_eq_true rfl, rfl, rfl⟩ ⟨Nat.zero_le _, Nat.zero_le _⟩ (Nat.le_of_ble_eq_true rfl) rfl rfl dX2_arrange_242 (fun r21 _ => ?_)
    refine g_goto (pc := 245) (tgt := 257) C dX2_arrange_245 rfl ?_
    refine g_keep [true, false, true, true, true, true, true, false, false] ?_
    exact bX2_arrange_257 C hr b c1 hb h1 hk105 σ19 l2 l3 l4 l5 l6 l7 r21
def fX2_arrange_188 (b : Nat) (c1 : Nat) (k105 : Sg → Int32 → Int32 → Int32 → Int32 → Int32 → Option Sg) (σ : Sg) (l2 : Int32) (l3 : Int32) (l4 : Int32) (l5 : Int32) (l6 : Int32) (l7 : Int32) (l8 : Int32) (s1 : Int32) (s2 : Int32) (s3 : Int32) : Option Sg :=
  (fX8_put σ (b + 5) 23 s1 (s2 + s3)).bind fun σ16 =>
  if l8 = 0 then
    (fX8_at σ16 (b + 6) 23 l2).bind fun r17 =>
    (fX2_arrange_223 b c1 k105 σ16 l2 l3 l4 l5 l6 l7 l8 l7 r17)
  else
    (fX3_sizeOf σ16 (b + 10) l6).bind fun r18 =>
    (fX2_arrange_223 b c1 k105 σ16 l2 l3 l4 l5 l6 l7 l8 l7 r18)
theorem bX2_arrange_188 {X : Xc} {K : Kc} (C : MC X K cX2_arrange 9 RX2 rmX2_arrange) (hr : K.meth.sig.returnType = none) (b : Nat) (c1 : Nat) (hb : pnOK b) (h1 : plOK c1){k105 : Sg → Int32 → Int32 → Int32 → Int32 → Int32 → Option Sg} (hk105 : ∀ (σ : Sg) (l2 : Int32) (l3 : Int32) (l4 : Int32) (l5 : Int32) (l6 : Int32), GO X K 9 (fun r => MQv X K r) (k105 σ l2 l3 l4 l5 l6) σ 0 0 105 [some (.ref (X.ad b)), none, some (.int (l2)), some (.int (l3)), some (.int (l4)), some (.int (l5)), some (.int (l6)), none, none] []) (σ : Sg) (l2 : Int32) (l3 : Int32) (l4 : Int32) (l5 : Int32) (l6 : Int32) (l7 : Int32) (l8 : Int32) (s1 : Int32) (s2 : Int32) (s3 : Int32) : GO X K 9 (fun r => MQv X K r) (fX2_arrange_188 b c1 k105 σ l2 l3 l4 l5 l6 l7 l8 s1 s2 s3) σ 0 0 188 [some (.ref (X.ad b)), none, some (.int (l2)), some (.int (l3)), some (.int (l4)), some (.int (l5)), some (.int (l6)), some (.int (l7)), some (.int (l8))] [.int (s3), .int (s2), .int (s1), .ref (X.ad (b + 5))] := by
  unfold fX2_arrange_188
  refine g_iadd (pc := 188) C dX2_arrange_188 ?_
  refine g_callNv (pc := 189) (As := [.ref (X.ad (b + 5)), .int (s1), .int (s2 + s3)]) C (kX8_put X σ (b + 5) 23 s1 (s2 + s3) (blk hb 5 rfl)) (List.mem_of_getElem? (i := 9) rfl) q_9_20 q_1_2 q_9_21 hdX8_put ⟨Nat.le_of_ble_eq_true rfl, Nat.le_of_ble_eq_true rfl, rfl, rfl⟩ ⟨Nat.zero_le _, Nat.zero_le _⟩ (Nat.le_of_ble_eq_true rfl) rfl rfl dX2_arrange_189 (fun σ16 _ => ?_)
  refine g_aload_n (pc := 192) (i := 0) C dX2_arrange_192 rfl rfl ?_
  refine g_getr (pc := 193) (ci := 2) (N := 11) (T := TX2) (j := 5) (Cn := RX2) (b + 6) C rfl inlX2 (Nat.le_of_ble_eq_true rfl) q_4_13 (blk hb 0 rfl) rfl dX2_arrange_193 ?_
  refine g_iload (pc := 196) C dX2_arrange_196 rfl ?_
  refine g_iload (pc := 198) C dX2_arrange_198 rfl ?_
  refine g_if_eq (pc := 200) (tgt := 215) C dX2_arrange_200 rfl ?_ ?_
  · refine g_aload_n (pc := 215) (i := 0) C dX2_arrange_215 rfl rfl ?_
    refine g_getr (pc := 216) (ci := 2) (N := 11) (T := TX2) (j := 5) (Cn := RX2) (b + 6) C rfl inlX2 (Nat.le_of_ble_eq_true rfl) q_4_13 (blk hb 0 rfl) rfl dX2_arrange_216 ?_
    refine g_iload_n (pc := 219) (i := 2) C dX2_arrange_219 rfl rfl ?_
    refine g_callNi (pc := 220) (As := [.ref (X.ad (b + 6)), .int (l2)]) C (kX8_at X σ16 (b + 6) 23 l2 (blk hb 6 rfl)) (List.mem_of_getElem? (i := 7) rfl) q_11_22 q_1_2 q_11_23 hdX8_at ⟨Nat.le_of_ble_eq_true rfl, Nat.le_of_ble_eq_true rfl, rfl, rfl⟩ ⟨Nat.zero_le _, Nat.zero_le _⟩ (Nat.le_of_ble_eq_true rfl) rfl rfl dX2_arrange_220 (fun r17 _ => ?_)
    refine g_keep [true, false, true, true, true, true, true, true, true] ?_
    exact bX2_arrange_223 C hr b c1 hb h1 hk105 σ16 l2 l3 l4 l5 l6 l7 l8 l7 r17
  · refine g_aload_n (pc := 203) (i := 0) C dX2_arrange_203 rfl rfl ?_
    refine g_getr (pc := 204) (ci := 2) (N := 11) (T := TX2) (j := 10) (Cn := RX2) (b + 10) C rfl inlX2 (Nat.le_of_ble_eq_true rfl) q_4_20 (blk hb 0 rfl) rfl dX2_arrange_204 ?_
    refine g_iload (pc := 207) C dX2_arrange_207 rfl ?_
    refine g_callVi (pc := 209) (As := [.int (l6)]) C (kX3_sizeOf X σ16 (b + 10) l6 (pn_sh hb)) (blk (pn_sh hb) 0 rfl) rfl q_19_1 q_19_2 q_19_3 q_4_19 q_19_4 ⟨rfl, hdX3_sizeOf⟩ ⟨Nat.le_of_ble_eq_true rfl, Nat.le_of_ble_eq_true rfl, rfl, rfl⟩ ⟨Nat.zero_le _, Nat.zero_le _⟩ (Nat.le_of_ble_eq_true rfl) rfl rfl dX2_arrange_209 (fun r18 _ => ?_)
    refine g_goto (pc := 212) (tgt := 223) C dX2_arrange_212 rfl ?_
    refine g_keep [true, false, true, true, true, true, true, true, true] ?_
    exact bX2_arrange_223 C hr b c1 hb h1 hk105 σ16 l2 l3 l4 l5 l6 l7 l8 l7 r18
def fX2_arrange_159 (b : Nat) (c1 : Nat) (k105 : Sg → Int32 → Int32 → Int32 → Int32 → Int32 → Option Sg) (σ : Sg) (l2 : Int32) (l3 : Int32) (l4 : Int32) (l5 : Int32) (l6 : Int32) (l7 : Int32) (l8 : Int32) (s1 : Int32) (s2 : Int32) (s3 : Int32) : Option Sg :=
  (fX8_put σ (b + 4) 23 s1 (s2 + s3)).bind fun σ14 =>
  (fX8_at σ14 (b + 5) 23 l2).bind fun r15 =>
  if l8 = 0 then
    (fX2_arrange_188 b c1 k105 σ14 l2 l3 l4 l5 l6 l7 l8 l7 r15 l5)
  else
    (fX2_arrange_188 b c1 k105 σ14 l2 l3 l4 l5 l6 l7 l8 l7 r15 0)
theorem bX2_arrange_159 {X : Xc} {K : Kc} (C : MC X K cX2_arrange 9 RX2 rmX2_arrange) (hr : K.meth.sig.returnType = none) (b : Nat) (c1 : Nat) (hb : pnOK b) (h1 : plOK c1){k105 : Sg → Int32 → Int32 → Int32 → Int32 → Int32 → Option Sg} (hk105 : ∀ (σ : Sg) (l2 : Int32) (l3 : Int32) (l4 : Int32) (l5 : Int32) (l6 : Int32), GO X K 9 (fun r => MQv X K r) (k105 σ l2 l3 l4 l5 l6) σ 0 0 105 [some (.ref (X.ad b)), none, some (.int (l2)), some (.int (l3)), some (.int (l4)), some (.int (l5)), some (.int (l6)), none, none] []) (σ : Sg) (l2 : Int32) (l3 : Int32) (l4 : Int32) (l5 : Int32) (l6 : Int32) (l7 : Int32) (l8 : Int32) (s1 : Int32) (s2 : Int32) (s3 : Int32) : GO X K 9 (fun r => MQv X K r) (fX2_arrange_159 b c1 k105 σ l2 l3 l4 l5 l6 l7 l8 s1 s2 s3) σ 0 0 159 [some (.ref (X.ad b)), none, some (.int (l2)), some (.int (l3)), some (.int (l4)), some (.int (l5)), some (.int (l6)), some (.int (l7)), some (.int (l8))] [.int (s3), .int (s2), .int (s1), .ref (X.ad (b + 4))] := by
  unfold fX2_arrange_159
  refine g_iadd (pc := 159) C dX2_arrange_159 ?_
  refine g_callNv (pc := 160) (As := [.ref (X.ad (b + 4)), .int (s1), .int (s2 + s3)]) C (kX8_put X σ (b + 4) 23 s1 (s2 + s3) (blk hb 4 rfl)) (List.mem_of_getElem? (i := 9) rfl) q_9_20 q_1_2 q_9_21 hdX8_put ⟨Nat.le_of_ble_eq_true rfl, Nat.le_of_ble_eq_true rfl, rfl, rfl⟩ ⟨Nat.zero_le _, Nat.zero_le _⟩ (Nat.le_of_ble_eq_true rfl) rfl rfl dX2_arrange_160 (fun σ14 _ => ?_)
  refine g_aload_n (pc := 163) (i := 0) C dX2_arrange_163 rfl rfl ?_
  refine g_getr (pc := 164) (ci := 2) (N := 11) (T := TX2) (j := 4) (Cn := RX2) (b + 5) C rfl inlX2 (Nat.le_of_ble_eq_true rfl) q_4_12 (blk hb 0 rfl) rfl dX2_arrange_164 ?_
  refine g_iload (pc := 167) C dX2_arrange_167 rfl ?_
  refine g_aload_n (pc := 169) (i := 0) C dX2_arrange_169 rfl rfl ?_
  refine g_getr (pc := 170) (ci := 2) (N := 11) (T := TX2) (j := 4) (Cn := RX2) (b + 5) C rfl inlX2 (Nat.le_of_ble_eq_true rfl) q_4_12 (blk hb 0 rfl) rfl dX2_arrange_170 ?_
  refine g_iload_n (pc := 173) (i := 2) C dX2_arrange_173 rfl rfl ?_
  refine g_callNi (pc := 174) (As := [.ref (X.ad (b + 5)), .int (l2)]) C (kX8_at X σ14 (b + 5) 23 l2 (blk hb 5 rfl)) (List.mem_of_getElem? (i := 7) rfl) q_11_22 q_1_2 q_11_23 hdX8_at ⟨Nat.le_of_ble_eq_true rfl, Nat.le_of_ble_eq_true rfl, rfl, rfl⟩ ⟨Nat.zero_le _, Nat.zero_le _⟩ (Nat.le_of_ble_eq_true rfl) rfl rfl dX2_arrange_174 (fun r15 _ => ?_)
  refine g_iload (pc := 177) C dX2_arrange_177 rfl ?_
  refine g_if_eq (pc := 179) (tgt := 186) C dX2_arrange_179 rfl ?_ ?_
  · refine g_iload (pc := 186) C dX2_arrange_186 rfl ?_
    refine g_keep [true, false, true, true, true, true, true, true, true] ?_
    exact bX2_arrange_188 C hr b c1 hb h1 hk105 σ14 l2 l3 l4 l5 l6 l7 l8 l7 r15 l5
  · refine g_iconst (pc := 182) (v := 0) C dX2_arrange_182 (by decide) ?_
    refine g_goto (pc := 183) (tgt := 188) C dX2_arrange_183 rfl ?_
    refine g_keep [true, false, true, true, true, true, true, true, true] ?_
    exact bX2_arrange_188 C hr b c1 hb h1 hk105 σ14 l2 l3 l4 l5 l6 l7 l8 l7 r15 0
def fX2_arrange_132 (b : Nat) (c1 : Nat) (k105 : Sg → Int32 → Int32 → Int32 → Int32 → Int32 → Option Sg) (σ : Sg) (l2 : Int32) (l3 : Int32) (l4 : Int32) (l5 : Int32) (l6 : Int32) (l7 : Int32) (s0 : Int32) : Option Sg :=
  (fX8_at σ (b + 4) 23 l2).bind fun r13 =>
  if s0 = 0 then
    (fX2_arrange_159 b c1 k105 σ l2 l3 l4 l5 l6 l7 s0 l7 r13 0)
  else
    (fX2_arrange_159 b c1 k105 σ l2 l3 l4 l5 l6 l7 s0 l7 r13 l5)
theorem bX2_arrange_132 {X : Xc} {K : Kc} (C : MC X K cX2_arrange 9 RX2 rmX2_arrange) (hr : K.meth.sig.returnType = none) (b : Nat) (c1 : Nat) (hb : pnOK b) (h1 : plOK c1){k105 : Sg → Int32 → Int32 → Int32 → Int32 → Int32 → Option Sg} (hk105 : ∀ (σ : Sg) (l2 : Int32) (l3 : Int32) (l4 : Int32) (l5 : Int32) (l6 : Int32), GO X K 9 (fun r => MQv X K r) (k105 σ l2 l3 l4 l5 l6) σ 0 0 105 [some (.ref (X.ad b)), none, some (.int (l2)), some (.int (l3)), some (.int (l4)), some (.int (l5)), some (.int (l6)), none, none] []) (σ : Sg) (l2 : Int32) (l3 : Int32) (l4 : Int32) (l5 : Int32) (l6 : Int32) (l7 : Int32) (s0 : Int32) : GO X K 9 (fun r => MQv X K r) (fX2_arrange_132 b c1 k105 σ l2 l3 l4 l5 l6 l7 s0) σ 0 0 132 [some (.ref (X.ad b)), none, some (.int (l2)), some (.int (l3)), some (.int (l4)), some (.int (l5)), some (.int (l6)), some (.int (l7)), none] [.int (s0)] := by
  unfold fX2_arrange_132
  refine g_istore (pc := 132) C dX2_arrange_132 (Nat.le_of_ble_eq_true rfl) rfl ?_
  refine g_aload_n (pc := 134) (i := 0) C dX2_arrange_134 rfl rfl ?_
  refine g_getr (pc := 135) (ci := 2) (N := 11) (T := TX2) (j := 3) (Cn := RX2) (b + 4) C rfl inlX2 (Nat.le_of_ble_eq_true rfl) q_4_11 (blk hb 0 rfl) rfl dX2_arrange_135 ?_
  refine g_iload (pc := 138) C dX2_arrange_138 rfl ?_
  refine g_aload_n (pc := 140) (i := 0) C dX2_arrange_140 rfl rfl ?_
  refine g_getr (pc := 141) (ci := 2) (N := 11) (T := TX2) (j := 3) (Cn := RX2) (b + 4) C rfl inlX2 (Nat.le_of_ble_eq_true rfl) q_4_11 (blk hb 0 rfl) rfl dX2_arrange_141 ?_
  refine g_iload_n (pc := 144) (i := 2) C dX2_arrange_144 rfl rfl ?_
  refine g_callNi (pc := 145) (As := [.ref (X.ad (b + 4)), .int (l2)]) C (kX8_at X σ (b + 4) 23 l2 (blk hb 4 rfl)) (List.mem_of_getElem? (i := 7) rfl) q_11_22 q_1_2 q_11_23 hdX8_at ⟨Nat.le_of_ble_eq_true rfl, Nat.le_of_ble_eq_true rfl, rfl, rfl⟩ ⟨Nat.zero_le _, Nat.zero_le _⟩ (Nat.le_of_ble_eq_true rfl) rfl rfl dX2_arrange_145 (fun r13 _ => ?_)
  refine g_iload (pc := 148) C dX2_arrange_148 rfl ?_
  refine g_if_eq (pc := 150) (tgt := 158) C dX2_arrange_150 rfl ?_ ?_
  · refine g_iconst (pc := 158) (v := 0) C dX2_arrange_158 (by decide) ?_
    refine g_keep [true, false, true, true, true, true, true, true, true] ?_
    exact bX2_arrange_159 C hr b c1 hb h1 hk105 σ l2 l3 l4 l5 l6 l7 s0 l7 r13 0
  · refine g_iload (pc := 153) C dX2_arrange_153 rfl ?_
    refine g_goto (pc := 155) (tgt := 159) C dX2_arrange_155 rfl ?_
    refine g_keep [true, false, true, true, true, true, true, true, true] ?_
    exact bX2_arrange_159 C hr b c1 hb h1 hk105 σ l2 l3 l4 l5 l6 l7 s0 l7 r13 l5
def fX2_arrange_105 (b : Nat) (c1 : Nat) : Nat → Sg → Int32 → Int32 → Int32 → Int32 → Int32 → Option Sg
  | 0, _, _, _, _, _, _ => none
  | n + 1, σ, l2, l3, l4, l5, l6 =>
    if l4 ≤ l6 then
      some σ
    else
      (fX8_at σ (b + 9) 23 l6).bind fun r12 =>
      if l3 = 0 then
        (fX2_arrange_132 b c1 (fX2_arrange_105 b c1 n) σ l2 l3 l4 l5 l6 r12 1)
      else
        (fX2_arrange_132 b c1 (fX2_arrange_105 b c1 n) σ l2 l3 l4 l5 l6 r12 0)
theorem bX2_arrange_105 {X : Xc} {K : Kc} (C : MC X K cX2_arrange 9 RX2 rmX2_arrange) (hr : K.meth.sig.returnType = none) (b : Nat) (c1 : Nat) (hb : pnOK b) (h1 : plOK c1) : ∀ (n : Nat) (σ : Sg) (l2 : Int32) (l3 : Int32) (l4 : Int32) (l5 : Int32) (l6 : Int32), GO X K 9 (fun r => MQv X K r) (fX2_arrange_105 b c1 n σ l2 l3 l4 l5 l6) σ 0 0 105 [some (.ref (X.ad b)), none, some (.int (l2)), some (.int (l3)), some (.int (l4)), some (.int (l5)), some (.int (l6)), none, none] [] := by
  intro n
  induction n with
  | zero =>
    intro σ l2 l3 l4 l5 l6
    exact g_none
  | succ n ih =>
    intro σ l2 l3 l4 l5 l6
    unfold fX2_arrange_105
    refine g_iload (pc := 105) C dX2_arrange_105 rfl ?_
    refine g_iload (pc := 107) C dX2_arrange_107 rfl ?_
    refine g_icmp_ge (pc := 109) (tgt := 282) C dX2_arrange_109 rfl ?_ ?_
    · exact g_vret (pc := 282) C hr dX2_arrange_282 rfl
    · refine g_aload_n (pc := 112) (i := 0) C dX2_arrange_112 rfl rfl ?_
      refine g_getr (pc := 113) (ci := 2) (N := 11) (T := TX2) (j := 9) (Cn := RX2) (b + 9) C rfl inlX2 (Nat.le_of_ble_eq_true rfl) q_4_16 (blk hb 0 rfl) rfl dX2_arrange_113 ?_
      refine g_iload (pc := 116) C dX2_arrange_116 rfl ?_
      refine g_callNi (pc := 118) (As := [.ref (X.ad (b + 9)), .int (l6)]) C (kX8_at X σ (b + 9) 23 l6 (blk hb 9 rfl)) (List.mem_of_getElem? (i := 7) rfl) q_11_22 q_1_2 q_11_23 hdX8_at ⟨Nat.le_of_ble_eq_true rfl, Nat.le_of_ble_eq_true rfl, rfl, rfl⟩ ⟨Nat.zero_le _, Nat.zero_le _⟩ (Nat.le_of_ble_eq_true rfl) rfl rfl dX2_arrange_118 (fun r12 _ => ?_)
      refine g_istore (pc := 121) C dX2_arrange_121 (Nat.le_of_ble_eq_true rfl) rfl ?_
      refine g_iload_n (pc := 123) (i := 3) C dX2_arrange_123 rfl rfl ?_
      refine g_if_ne (pc := 124) (tgt := 131) C dX2_arrange_124 rfl ?_ ?_
      · refine g_iconst (pc := 127) (v := 1) C dX2_arrange_127 (by decide) ?_
        refine g_goto (pc := 128) (tgt := 132) C dX2_arrange_128 rfl ?_
        refine g_keep [true, false, true, true, true, true, true, true, false] ?_
        exact bX2_arrange_132 C hr b c1 hb h1 ih σ l2 l3 l4 l5 l6 r12 1
      · refine g_iconst (pc := 131) (v := 0) C dX2_arrange_131 (by decide) ?_
        refine g_keep [true, false, true, true, true, true, true, true, false] ?_
        exact bX2_arrange_132 C hr b c1 hb h1 ih σ l2 l3 l4 l5 l6 r12 0
def fX2_arrange_30 (b : Nat) (c1 : Nat) : Nat → Sg → Int32 → Int32 → Int32 → Int32 → Option Sg
  | 0, _, _, _, _, _ => none
  | n + 1, σ, l2, l3, l4, l5 =>
    if l4 ≤ l5 then
      (fX2_extentOf σ b l2 l3).bind fun r4 =>
      nm (if 0 < (r4 - (l4 - 1)) then (r4 - (l4 - 1)) else 0) fun v5 =>
      (fX3_shareOut σ (b + 10) v5).bind fun σ6 =>
      (fX2_arrange_105 b c1 FU σ6 l2 l3 l4 0 0)
    else
      (fX8_at σ (b + 9) 23 l5).bind fun r7 =>
      (fX2_minimumOf σ b r7 l3).bind fun r8 =>
      (fX8_at σ (b + 9) 23 l5).bind fun r9 =>
      (fX1_weightOf σ c1 r9).bind fun r10 =>
      (fX3_add σ (b + 10) r8 r10).bind fun σ11 =>
      ((fX2_arrange_30 b c1 n) σ11 l2 l3 l4 (l5 + 1))
theorem bX2_arrange_30 {X : Xc} {K : Kc} (C : MC X K cX2_arrange 9 RX2 rmX2_arrange) (hr : K.meth.sig.returnType = none) (b : Nat) (c1 : Nat) (hb : pnOK b) (h1 : plOK c1) : ∀ (n : Nat) (σ : Sg) (l2 : Int32) (l3 : Int32) (l4 : Int32) (l5 : Int32), GO X K 9 (fun r => MQv X K r) (fX2_arrange_30 b c1 n σ l2 l3 l4 l5) σ 0 0 30 [some (.ref (X.ad b)), some (.ref (X.ad c1)), some (.int (l2)), some (.int (l3)), some (.int (l4)), some (.int (l5)), none, none, none] [] := by
  intro n
  induction n with
  | zero =>
    intro σ l2 l3 l4 l5
    exact g_none
  | succ n ih =>
    intro σ l2 l3 l4 l5
    unfold fX2_arrange_30
    refine g_iload (pc := 30) C dX2_arrange_30 rfl ?_
    refine g_iload (pc := 32) C dX2_arrange_32 rfl ?_
    refine g_icmp_ge (pc := 34) (tgt := 77) C dX2_arrange_34 rfl ?_ ?_
    · refine g_aload_n (pc := 77) (i := 0) C dX2_arrange_77 rfl rfl ?_
      refine g_getr (pc := 78) (ci := 2) (N := 11) (T := TX2) (j := 10) (Cn := RX2) (b + 10) C rfl inlX2 (Nat.le_of_ble_eq_true rfl) q_4_20 (blk hb 0 rfl) rfl dX2_arrange_78 ?_
      refine g_iconst (pc := 81) (v := 0) C dX2_arrange_81 (by decide) ?_
      refine g_aload_n (pc := 82) (i := 0) C dX2_arrange_82 rfl rfl ?_
      refine g_iload_n (pc := 83) (i := 2) C dX2_arrange_83 rfl rfl ?_
      refine g_iload_n (pc := 84) (i := 3) C dX2_arrange_84 rfl rfl ?_
      refine g_callVi (pc := 85) (As := [.int (l2), .int (l3)]) C (kX2_extentOf X σ b l2 l3 hb) (blk hb 0 rfl) rfl q_17_23 q_18_0 q_18_1 q_1_20 q_18_2 ⟨rfl, hdX2_extentOf⟩ ⟨Nat.le_of_ble_eq_true rfl, Nat.le_of_ble_eq_true rfl, rfl, rfl⟩ ⟨Nat.zero_le _, Nat.zero_le _⟩ (Nat.le_of_ble_eq_true rfl) rfl rfl dX2_arrange_85 (fun r4 _ => ?_)
      refine g_iload (pc := 88) C dX2_arrange_88 rfl ?_
      refine g_iconst (pc := 90) (v := 1) C dX2_arrange_90 (by decide) ?_
      refine g_isub (pc := 91) C dX2_arrange_91 ?_
      refine g_isub (pc := 92) C dX2_arrange_92 ?_
      refine g_mmax (pc := 93) C q_16_9 q_16_10 q_8_20 q_16_11 ⟨Nat.le_of_ble_eq_true rfl, Nat.le_of_ble_eq_true rfl⟩ ⟨Nat.le_of_ble_eq_true rfl, Nat.le_of_ble_eq_true rfl⟩ dX2_arrange_93 ?_
      refine g_nm (fun v5 => ?_)
      refine g_callVv (pc := 96) (As := [.int (v5)]) C (kX3_shareOut X σ (b + 10) v5 (pn_sh hb)) (blk (pn_sh hb) 0 rfl) rfl q_18_3 q_18_4 q_18_5 q_4_19 q_18_6 ⟨rfl, hdX3_shareOut⟩ ⟨Nat.le_of_ble_eq_true rfl, Nat.le_of_ble_eq_true rfl, rfl, rfl⟩ ⟨Nat.zero_le _, Nat.zero_le _⟩ (Nat.le_of_ble_eq_true rfl) rfl rfl dX2_arrange_96 (fun σ6 _ => ?_)
      refine g_iconst (pc := 99) (v := 0) C dX2_arrange_99 (by decide) ?_
      refine g_istore (pc := 100) C dX2_arrange_100 (Nat.le_of_ble_eq_true rfl) rfl ?_
      refine g_iconst (pc := 102) (v := 0) C dX2_arrange_102 (by decide) ?_
      refine g_istore (pc := 103) C dX2_arrange_103 (Nat.le_of_ble_eq_true rfl) rfl ?_
      refine g_keep [true, false, true, true, true, true, true, false, false] ?_
      exact bX2_arrange_105 C hr b c1 hb h1 FU σ6 l2 l3 l4 0 0
    · refine g_aload_n (pc := 37) (i := 0) C dX2_arrange_37 rfl rfl ?_
      refine g_getr (pc := 38) (ci := 2) (N := 11) (T := TX2) (j := 10) (Cn := RX2) (b + 10) C rfl inlX2 (Nat.le_of_ble_eq_true rfl) q_4_20 (blk hb 0 rfl) rfl dX2_arrange_38 ?_
      refine g_aload_n (pc := 41) (i := 0) C dX2_arrange_41 rfl rfl ?_
      refine g_aload_n (pc := 42) (i := 0) C dX2_arrange_42 rfl rfl ?_
      refine g_getr (pc := 43) (ci := 2) (N := 11) (T := TX2) (j := 9) (Cn := RX2) (b + 9) C rfl inlX2 (Nat.le_of_ble_eq_true rfl) q_4_16 (blk hb 0 rfl) rfl dX2_arrange_43 ?_
      refine g_iload (pc := 46) C dX2_arrange_46 rfl ?_
      refine g_callNi (pc := 48) (As := [.ref (X.ad (b + 9)), .int (l5)]) C (kX8_at X σ (b + 9) 23 l5 (blk hb 9 rfl)) (List.mem_of_getElem? (i := 7) rfl) q_11_22 q_1_2 q_11_23 hdX8_at ⟨Nat.le_of_ble_eq_true rfl, Nat.le_of_ble_eq_true rfl, rfl, rfl⟩ ⟨Nat.zero_le _, Nat.zero_le _⟩ (Nat.le_of_ble_eq_true rfl) rfl rfl dX2_arrange_48 (fun r7 _ => ?_)
      refine g_iload_n (pc := 51) (i := 3) C dX2_arrange_51 rfl rfl ?_
      refine g_callVi (pc := 52) (As := [.int (r7), .int (l3)]) C (kX2_minimumOf X σ b r7 l3 hb) (blk hb 0 rfl) rfl q_17_11 q_17_12 q_17_13 q_1_20 q_17_14 ⟨rfl, hdX2_minimumOf⟩ ⟨Nat.le_of_ble_eq_true rfl, Nat.le_of_ble_eq_true rfl, rfl, rfl⟩ ⟨Nat.zero_le _, Nat.zero_le _⟩ (Nat.le_of_ble_eq_true rfl) rfl rfl dX2_arrange_52 (fun r8 _ => ?_)
      refine g_aload_n (pc := 55) (i := 1) C dX2_arrange_55 rfl rfl ?_
      refine g_aload_n (pc := 56) (i := 0) C dX2_arrange_56 rfl rfl ?_
      refine g_getr (pc := 57) (ci := 2) (N := 11) (T := TX2) (j := 9) (Cn := RX2) (b + 9) C rfl inlX2 (Nat.le_of_ble_eq_true rfl) q_4_16 (blk hb 0 rfl) rfl dX2_arrange_57 ?_
      refine g_iload (pc := 60) C dX2_arrange_60 rfl ?_
      refine g_callNi (pc := 62) (As := [.ref (X.ad (b + 9)), .int (l5)]) C (kX8_at X σ (b + 9) 23 l5 (blk hb 9 rfl)) (List.mem_of_getElem? (i := 7) rfl) q_11_22 q_1_2 q_11_23 hdX8_at ⟨Nat.le_of_ble_eq_true rfl, Nat.le_of_ble_eq_true rfl, rfl, rfl⟩ ⟨Nat.zero_le _, Nat.zero_le _⟩ (Nat.le_of_ble_eq_true rfl) rfl rfl dX2_arrange_62 (fun r9 _ => ?_)
      refine g_callVi (pc := 65) (As := [.int (r9)]) C (kX1_weightOf X σ c1 r9 h1) (blk h1 0 rfl) rfl q_17_15 q_17_16 q_17_17 q_2_23 q_17_18 ⟨rfl, hdX1_weightOf⟩ ⟨Nat.le_of_ble_eq_true rfl, Nat.le_of_ble_eq_true rfl, rfl, rfl⟩ ⟨Nat.zero_le _, Nat.zero_le _⟩ (Nat.le_of_ble_eq_true rfl) rfl rfl dX2_arrange_65 (fun r10 _ => ?_)
      refine g_callVv (pc := 68) (As := [.int (r8), .int (r10)]) C (kX3_add X σ (b + 10) r8 r10 (pn_sh hb)) (blk (pn_sh hb) 0 rfl) rfl q_17_19 q_17_20 q_17_21 q_4_19 q_17_22 ⟨rfl, hdX3_add⟩ ⟨Nat.le_of_ble_eq_true rfl, Nat.le_of_ble_eq_true rfl, rfl, rfl⟩ ⟨Nat.zero_le _, Nat.zero_le _⟩ (Nat.le_of_ble_eq_true rfl) rfl rfl dX2_arrange_68 (fun σ11 _ => ?_)
      refine g_iinc (pc := 71) (v := l5 + 1) C dX2_arrange_71 rfl (rfl) (Nat.le_of_ble_eq_true rfl) rfl ?_
      refine g_goto (pc := 74) (tgt := 30) C dX2_arrange_74 rfl ?_
      refine g_keep [true, true, true, true, true, true, false, false, false] ?_
      exact ih σ11 l2 l3 l4 (l5 + 1)
def fX2_arrange (σ : Sg) (b : Nat) (c1 : Nat) (p2 : Int32) : Option Sg :=
  (fX1_kindOf σ c1 p2).bind fun r1 =>
  if r1 = 2 then
    some σ
  else
    (fX2_listParts σ b c1 p2).bind fun r2 =>
    (fX3_begin r2.2 (b + 10)).bind fun σ3 =>
    (fX2_arrange_30 b c1 FU σ3 p2 r1 r2.1 0)
theorem kX2_arrange (X : Xc) (σ : Sg) (b : Nat) (c1 : Nat) (p2 : Int32) (hb : pnOK b) (h1 : plOK c1) : ∀ r, fX2_arrange σ b c1 p2 = some r → Met X.l yX2_arrange (wsM yX2_arrange cX2_arrange 9 none) rmX2_arrange (va_Pc [.ref (X.ad b), .ref (X.ad c1), .int p2] (PW X σ)) (Qv X r) 0 0 X.A := by
  refine mt_of (own := RX2) (lo := [some (.ref (X.ad b)), some (.ref (X.ad c1)), some (.int (p2)), none, none, none, none, none, none]) (by decide) rfl (Nat.le_of_ble_eq_true rfl) rfl (fun K C hr => ?_)
  unfold fX2_arrange
  refine g_aload_n (pc := 0) (i := 1) C dX2_arrange_0 rfl rfl ?_
  refine g_iload_n (pc := 1) (i := 2) C dX2_arrange_1 rfl rfl ?_
  refine g_callVi (pc := 2) (As := [.int (p2)]) C (kX1_kindOf X σ c1 p2 h1) (blk h1 0 rfl) rfl q_16_1 q_16_2 q_16_3 q_2_23 q_16_4 ⟨rfl, hdX1_kindOf⟩ ⟨Nat.le_of_ble_eq_true rfl, Nat.le_of_ble_eq_true rfl, rfl, rfl⟩ ⟨Nat.zero_le _, Nat.zero_le _⟩ (Nat.le_of_ble_eq_true rfl) rfl rfl dX2_arrange_2 (fun r1 _ => ?_)
  refine g_istore_n (pc := 5) (i := 3) C dX2_arrange_5 rfl (Nat.le_of_ble_eq_true rfl) rfl ?_
  refine g_iload_n (pc := 6) (i := 3) C dX2_arrange_6 rfl rfl ?_
  refine g_iconst (pc := 7) (v := 2) C dX2_arrange_7 (by decide) ?_
  refine g_icmp_ne (pc := 8) (tgt := 12) C dX2_arrange_8 rfl ?_ ?_
  · exact g_vret (pc := 11) C hr dX2_arrange_11 rfl
  · refine g_aload_n (pc := 12) (i := 0) C dX2_arrange_12 rfl rfl ?_
    refine g_aload_n (pc := 13) (i := 1) C dX2_arrange_13 rfl rfl ?_
    refine g_iload_n (pc := 14) (i := 2) C dX2_arrange_14 rfl rfl ?_
    refine g_callVi (pc := 15) (As := [.ref (X.ad c1), .int (p2)]) C (kX2_listParts X σ b c1 p2 hb h1) (blk hb 0 rfl) rfl q_16_18 q_16_19 q_16_20 q_1_20 q_16_21 ⟨rfl, hdX2_listParts⟩ ⟨Nat.le_of_ble_eq_true rfl, Nat.le_of_ble_eq_true rfl, rfl, rfl⟩ ⟨Nat.zero_le _, Nat.zero_le _⟩ (Nat.le_of_ble_eq_true rfl) rfl rfl dX2_arrange_15 (fun r2 _ => ?_)
    refine g_istore (pc := 18) C dX2_arrange_18 (Nat.le_of_ble_eq_true rfl) rfl ?_
    refine g_aload_n (pc := 20) (i := 0) C dX2_arrange_20 rfl rfl ?_
    refine g_getr (pc := 21) (ci := 2) (N := 11) (T := TX2) (j := 10) (Cn := RX2) (b + 10) C rfl inlX2 (Nat.le_of_ble_eq_true rfl) q_4_20 (blk hb 0 rfl) rfl dX2_arrange_21 ?_
    refine g_callVv (pc := 24) (As := []) C (kX3_begin X r2.2 (b + 10) (pn_sh hb)) (blk (pn_sh hb) 0 rfl) rfl q_17_6 q_17_7 q_17_8 q_4_19 q_17_9 ⟨rfl, hdX3_begin⟩ ⟨Nat.le_of_ble_eq_true rfl, Nat.le_of_ble_eq_true rfl, rfl, rfl⟩ ⟨Nat.zero_le _, Nat.zero_le _⟩ (Nat.le_of_ble_eq_true rfl) rfl rfl dX2_arrange_24 (fun σ3 _ => ?_)
    refine g_iconst (pc := 27) (v := 0) C dX2_arrange_27 (by decide) ?_
    refine g_istore (pc := 28) C dX2_arrange_28 (Nat.le_of_ble_eq_true rfl) rfl ?_
    refine g_keep [true, true, true, true, true, true, false, false, false] ?_
    exact bX2_arrange_30 C hr b c1 hb h1 FU σ3 p2 r1 r2.1 0
theorem dX2_computeWindow_0 : decode cX2_computeWindow 0 = .ok (.aload_n 1, 1) := by decide +kernel
theorem dX2_computeWindow_1 : decode cX2_computeWindow 1 = .ok (.getfield 95, 3) := by decide +kernel
theorem dX2_computeWindow_4 : decode cX2_computeWindow 4 = .ok (.astore_n 3, 1) := by decide +kernel
theorem dX2_computeWindow_5 : decode cX2_computeWindow 5 = .ok (.aload_n 3, 1) := by decide +kernel
theorem dX2_computeWindow_6 : decode cX2_computeWindow 6 = .ok (.iload_n 2, 1) := by decide +kernel
theorem dX2_computeWindow_7 : decode cX2_computeWindow 7 = .ok (.invokevirtual 101, 3) := by decide +kernel
theorem dX2_computeWindow_10 : decode cX2_computeWindow 10 = .ok (.istore 4, 2) := by decide +kernel
theorem dX2_computeWindow_12 : decode cX2_computeWindow 12 = .ok (.aload_n 0, 1) := by decide +kernel
theorem dX2_computeWindow_13 : decode cX2_computeWindow 13 = .ok (.aload_n 3, 1) := by decide +kernel
theorem dX2_computeWindow_14 : decode cX2_computeWindow 14 = .ok (.iload 4, 2) := by decide +kernel
theorem dX2_computeWindow_16 : decode cX2_computeWindow 16 = .ok (.invokevirtual 106, 3) := by decide +kernel
theorem dX2_computeWindow_19 : decode cX2_computeWindow 19 = .ok (.aload_n 0, 1) := by decide +kernel
theorem dX2_computeWindow_20 : decode cX2_computeWindow 20 = .ok (.getfield 110, 3) := by decide +kernel
theorem dX2_computeWindow_23 : decode cX2_computeWindow 23 = .ok (.iconst 1, 1) := by decide +kernel
theorem dX2_computeWindow_24 : decode cX2_computeWindow 24 = .ok (.isub, 1) := by decide +kernel
theorem dX2_computeWindow_25 : decode cX2_computeWindow 25 = .ok (.istore 5, 2) := by decide +kernel
theorem dX2_computeWindow_27 : decode cX2_computeWindow 27 = .ok (.iload 5, 2) := by decide +kernel
theorem dX2_computeWindow_29 : decode cX2_computeWindow 29 = .ok (.ifCond .lt 47, 3) := by decide +kernel
theorem dX2_computeWindow_32 : decode cX2_computeWindow 32 = .ok (.aload_n 0, 1) := by decide +kernel
theorem dX2_computeWindow_33 : decode cX2_computeWindow 33 = .ok (.getfield 33, 3) := by decide +kernel
theorem dX2_computeWindow_36 : decode cX2_computeWindow 36 = .ok (.iload 5, 2) := by decide +kernel
theorem dX2_computeWindow_38 : decode cX2_computeWindow 38 = .ok (.invokestatic 46, 3) := by decide +kernel
theorem dX2_computeWindow_41 : decode cX2_computeWindow 41 = .ok (.istore 6, 2) := by decide +kernel
theorem dX2_computeWindow_43 : decode cX2_computeWindow 43 = .ok (.aload_n 3, 1) := by decide +kernel
theorem dX2_computeWindow_44 : decode cX2_computeWindow 44 = .ok (.iload 6, 2) := by decide +kernel
theorem dX2_computeWindow_46 : decode cX2_computeWindow 46 = .ok (.invokevirtual 114, 3) := by decide +kernel
theorem dX2_computeWindow_49 : decode cX2_computeWindow 49 = .ok (.iconst 2, 1) := by decide +kernel
theorem dX2_computeWindow_50 : decode cX2_computeWindow 50 = .ok (.if_icmp .ne 13, 3) := by decide +kernel
theorem dX2_computeWindow_53 : decode cX2_computeWindow 53 = .ok (.aload_n 0, 1) := by decide +kernel
theorem dX2_computeWindow_54 : decode cX2_computeWindow 54 = .ok (.aload_n 1, 1) := by decide +kernel
theorem dX2_computeWindow_55 : decode cX2_computeWindow 55 = .ok (.iload 6, 2) := by decide +kernel
theorem dX2_computeWindow_57 : decode cX2_computeWindow 57 = .ok (.invokevirtual 117, 3) := by decide +kernel
theorem dX2_computeWindow_60 : decode cX2_computeWindow 60 = .ok (.goto 10, 3) := by decide +kernel
theorem dX2_computeWindow_63 : decode cX2_computeWindow 63 = .ok (.aload_n 0, 1) := by decide +kernel
theorem dX2_computeWindow_64 : decode cX2_computeWindow 64 = .ok (.aload_n 3, 1) := by decide +kernel
theorem dX2_computeWindow_65 : decode cX2_computeWindow 65 = .ok (.iload 6, 2) := by decide +kernel
theorem dX2_computeWindow_67 : decode cX2_computeWindow 67 = .ok (.invokevirtual 120, 3) := by decide +kernel
theorem dX2_computeWindow_70 : decode cX2_computeWindow 70 = .ok (.iinc 5 (-1), 3) := by decide +kernel
theorem dX2_computeWindow_73 : decode cX2_computeWindow 73 = .ok (.goto (-46), 3) := by decide +kernel
theorem dX2_computeWindow_76 : decode cX2_computeWindow 76 = .ok (.aload_n 0, 1) := by decide +kernel
theorem dX2_computeWindow_77 : decode cX2_computeWindow 77 = .ok (.getfield 21, 3) := by decide +kernel
theorem dX2_computeWindow_80 : decode cX2_computeWindow 80 = .ok (.iload 4, 2) := by decide +kernel
theorem dX2_computeWindow_82 : decode cX2_computeWindow 82 = .ok (.aload_n 3, 1) := by decide +kernel
theorem dX2_computeWindow_83 : decode cX2_computeWindow 83 = .ok (.getfield 123, 3) := by decide +kernel
theorem dX2_computeWindow_86 : decode cX2_computeWindow 86 = .ok (.iload_n 2, 1) := by decide +kernel
theorem dX2_computeWindow_87 : decode cX2_computeWindow 87 = .ok (.invokestatic 46, 3) := by decide +kernel
theorem dX2_computeWindow_90 : decode cX2_computeWindow 90 = .ok (.invokestatic 126, 3) := by decide +kernel
theorem dX2_computeWindow_93 : decode cX2_computeWindow 93 = .ok (.aload_n 0, 1) := by decide +kernel
theorem dX2_computeWindow_94 : decode cX2_computeWindow 94 = .ok (.getfield 24, 3) := by decide +kernel
theorem dX2_computeWindow_97 : decode cX2_computeWindow 97 = .ok (.iload 4, 2) := by decide +kernel
theorem dX2_computeWindow_99 : decode cX2_computeWindow 99 = .ok (.aload_n 3, 1) := by decide +kernel
theorem dX2_computeWindow_100 : decode cX2_computeWindow 100 = .ok (.getfield 130, 3) := by decide +kernel
theorem dX2_computeWindow_103 : decode cX2_computeWindow 103 = .ok (.iload_n 2, 1) := by decide +kernel
theorem dX2_computeWindow_104 : decode cX2_computeWindow 104 = .ok (.invokestatic 46, 3) := by decide +kernel
theorem dX2_computeWindow_107 : decode cX2_computeWindow 107 = .ok (.invokestatic 126, 3) := by decide +kernel
theorem dX2_computeWindow_110 : decode cX2_computeWindow 110 = .ok (.aload_n 0, 1) := by decide +kernel
theorem dX2_computeWindow_111 : decode cX2_computeWindow 111 = .ok (.getfield 27, 3) := by decide +kernel
theorem dX2_computeWindow_114 : decode cX2_computeWindow 114 = .ok (.iload 4, 2) := by decide +kernel
theorem dX2_computeWindow_116 : decode cX2_computeWindow 116 = .ok (.aload_n 3, 1) := by decide +kernel
theorem dX2_computeWindow_117 : decode cX2_computeWindow 117 = .ok (.getfield 133, 3) := by decide +kernel
theorem dX2_computeWindow_120 : decode cX2_computeWindow 120 = .ok (.iload_n 2, 1) := by decide +kernel
theorem dX2_computeWindow_121 : decode cX2_computeWindow 121 = .ok (.invokestatic 46, 3) := by decide +kernel
theorem dX2_computeWindow_124 : decode cX2_computeWindow 124 = .ok (.invokestatic 126, 3) := by decide +kernel
theorem dX2_computeWindow_127 : decode cX2_computeWindow 127 = .ok (.aload_n 0, 1) := by decide +kernel
theorem dX2_computeWindow_128 : decode cX2_computeWindow 128 = .ok (.getfield 30, 3) := by decide +kernel
theorem dX2_computeWindow_131 : decode cX2_computeWindow 131 = .ok (.iload 4, 2) := by decide +kernel
theorem dX2_computeWindow_133 : decode cX2_computeWindow 133 = .ok (.aload_n 3, 1) := by decide +kernel
theorem dX2_computeWindow_134 : decode cX2_computeWindow 134 = .ok (.getfield 136, 3) := by decide +kernel
theorem dX2_computeWindow_137 : decode cX2_computeWindow 137 = .ok (.iload_n 2, 1) := by decide +kernel
theorem dX2_computeWindow_138 : decode cX2_computeWindow 138 = .ok (.invokestatic 46, 3) := by decide +kernel
theorem dX2_computeWindow_141 : decode cX2_computeWindow 141 = .ok (.invokestatic 126, 3) := by decide +kernel
theorem dX2_computeWindow_144 : decode cX2_computeWindow 144 = .ok (.iconst 0, 1) := by decide +kernel
theorem dX2_computeWindow_145 : decode cX2_computeWindow 145 = .ok (.istore 5, 2) := by decide +kernel
theorem dX2_computeWindow_147 : decode cX2_computeWindow 147 = .ok (.iload 5, 2) := by decide +kernel
theorem dX2_computeWindow_149 : decode cX2_computeWindow 149 = .ok (.aload_n 0, 1) := by decide +kernel
theorem dX2_computeWindow_150 : decode cX2_computeWindow 150 = .ok (.getfield 110, 3) := by decide +kernel
theorem dX2_computeWindow_153 : decode cX2_computeWindow 153 = .ok (.if_icmp .ge 23, 3) := by decide +kernel
theorem dX2_computeWindow_156 : decode cX2_computeWindow 156 = .ok (.aload_n 0, 1) := by decide +kernel
theorem dX2_computeWindow_157 : decode cX2_computeWindow 157 = .ok (.aload_n 3, 1) := by decide +kernel
theorem dX2_computeWindow_158 : decode cX2_computeWindow 158 = .ok (.aload_n 0, 1) := by decide +kernel
theorem dX2_computeWindow_159 : decode cX2_computeWindow 159 = .ok (.getfield 33, 3) := by decide +kernel
theorem dX2_computeWindow_162 : decode cX2_computeWindow 162 = .ok (.iload 5, 2) := by decide +kernel
theorem dX2_computeWindow_164 : decode cX2_computeWindow 164 = .ok (.invokestatic 46, 3) := by decide +kernel
theorem dX2_computeWindow_167 : decode cX2_computeWindow 167 = .ok (.invokevirtual 139, 3) := by decide +kernel
theorem dX2_computeWindow_170 : decode cX2_computeWindow 170 = .ok (.iinc 5 1, 3) := by decide +kernel
theorem dX2_computeWindow_173 : decode cX2_computeWindow 173 = .ok (.goto (-26), 3) := by decide +kernel
theorem dX2_computeWindow_176 : decode cX2_computeWindow 176 = .ok (.return_, 1) := by decide +kernel
abbrev rmX2_computeWindow : Room := { frames := 5, cells := 0, slots := 0, locals := 165 }
theorem hdX2_computeWindow : yX2_computeWindow.cls ≠ "java/lang/invoke/MethodHandle" ∧ yX2_computeWindow.cls ≠ "java/lang/invoke/VarHandle" ∧ (parseMethodDescriptor yX2_computeWindow.desc).map (fun d => d.parameters.length) = some 2 := by decide +kernel
def fX2_computeWindow_147 (b : Nat) (c1 : Nat) : Nat → Sg → Int32 → Option Sg
  | 0, _, _ => none
  | n + 1, σ, l5 =>
    if (σ.1 b 8) ≤ l5 then
      some σ
    else
      (fX8_at σ (b + 8) 23 l5).bind fun r16 =>
      (fX2_arrange σ b (c1 + 5) r16).bind fun σ17 =>
      ((fX2_computeWindow_147 b c1 n) σ17 (l5 + 1))
theorem bX2_computeWindow_147 {X : Xc} {K : Kc} (C : MC X K cX2_computeWindow 7 RX2 rmX2_computeWindow) (hr : K.meth.sig.returnType = none) (b : Nat) (c1 : Nat) (hb : pnOK b) (h1 : stOK c1) : ∀ (n : Nat) (σ : Sg) (l5 : Int32), GO X K 7 (fun r => MQv X K r) (fX2_computeWindow_147 b c1 n σ l5) σ 0 0 147 [some (.ref (X.ad b)), none, none, some (.ref (X.ad (c1 + 5))), none, some (.int (l5)), none] [] := by
  intro n
  induction n with
  | zero =>
    intro σ l5
    exact g_none
  | succ n ih =>
    intro σ l5
    unfold fX2_computeWindow_147
    refine g_iload (pc := 147) C dX2_computeWindow_147 rfl ?_
    refine g_aload_n (pc := 149) (i := 0) C dX2_computeWindow_149 rfl rfl ?_
    refine g_geti (pc := 150) (ci := 2) (N := 11) (T := TX2) (j := 8) (Cn := RX2) C rfl inlX2 (Nat.le_of_ble_eq_true rfl) q_15_10 (blk hb 0 rfl) rfl dX2_computeWindow_150 ?_
    refine g_icmp_ge (pc := 153) (tgt := 176) C dX2_computeWindow_153 rfl ?_ ?_
    · exact g_vret (pc := 176) C hr dX2_computeWindow_176 rfl
    · refine g_aload_n (pc := 156) (i := 0) C dX2_computeWindow_156 rfl rfl ?_
      refine g_aload_n (pc := 157) (i := 3) C dX2_computeWindow_157 rfl rfl ?_
      refine g_aload_n (pc := 158) (i := 0) C dX2_computeWindow_158 rfl rfl ?_
      refine g_getr (pc := 159) (ci := 2) (N := 11) (T := TX2) (j := 7) (Cn := RX2) (b + 8) C rfl inlX2 (Nat.le_of_ble_eq_true rfl) q_4_15 (blk hb 0 rfl) rfl dX2_computeWindow_159 ?_
      refine g_iload (pc := 162) C dX2_computeWindow_162 rfl ?_
      refine g_callNi (pc := 164) (As := [.ref (X.ad (b + 8)), .int (l5)]) C (kX8_at X σ (b + 8) 23 l5 (blk hb 8 rfl)) (List.mem_of_getElem? (i := 7) rfl) q_11_22 q_1_2 q_11_23 hdX8_at ⟨Nat.le_of_ble_eq_true rfl, Nat.le_of_ble_eq_true rfl, rfl, rfl⟩ ⟨Nat.zero_le _, Nat.zero_le _⟩ (Nat.le_of_ble_eq_true rfl) rfl rfl dX2_computeWindow_164 (fun r16 _ => ?_)
      refine g_callVv (pc := 167) (As := [.ref (X.ad (c1 + 5)), .int (r16)]) C (kX2_arrange X σ b (c1 + 5) r16 hb (st_pl h1)) (blk hb 0 rfl) rfl q_17_2 q_17_3 q_17_4 q_1_20 q_17_5 ⟨rfl, hdX2_arrange⟩ ⟨Nat.le_of_ble_eq_true rfl, Nat.le_of_ble_eq_true rfl, rfl, rfl⟩ ⟨Nat.zero_le _, Nat.zero_le _⟩ (Nat.le_of_ble_eq_true rfl) rfl rfl dX2_computeWindow_167 (fun σ17 _ => ?_)
      refine g_iinc (pc := 170) (v := l5 + 1) C dX2_computeWindow_170 rfl (rfl) (Nat.le_of_ble_eq_true rfl) rfl ?_
      refine g_goto (pc := 173) (tgt := 147) C dX2_computeWindow_173 rfl ?_
      refine g_keep [true, false, false, true, false, true, false] ?_
      exact ih σ17 (l5 + 1)
def fX2_computeWindow_70 (b : Nat) (c1 : Nat) (k27 : Sg → Int32 → Int32 → Int32 → Option Sg) (σ : Sg) (l2 : Int32) (l4 : Int32) (l5 : Int32) : Option Sg :=
  (k27 σ l2 l4 (l5 + (-1)))
theorem bX2_computeWindow_70 {X : Xc} {K : Kc} (C : MC X K cX2_computeWindow 7 RX2 rmX2_computeWindow) (hr : K.meth.sig.returnType = none) (b : Nat) (c1 : Nat) (hb : pnOK b) (h1 : stOK c1){k27 : Sg → Int32 → Int32 → Int32 → Option Sg} (hk27 : ∀ (σ : Sg) (l2 : Int32) (l4 : Int32) (l5 : Int32), GO X K 7 (fun r => MQv X K r) (k27 σ l2 l4 l5) σ 0 0 27 [some (.ref (X.ad b)), some (.ref (X.ad c1)), some (.int (l2)), some (.ref (X.ad (c1 + 5))), some (.int (l4)), some (.int (l5)), none] []) (σ : Sg) (l2 : Int32) (l4 : Int32) (l5 : Int32) : GO X K 7 (fun r => MQv X K r) (fX2_computeWindow_70 b c1 k27 σ l2 l4 l5) σ 0 0 70 [some (.ref (X.ad b)), some (.ref (X.ad c1)), some (.int (l2)), some (.ref (X.ad (c1 + 5))), some (.int (l4)), some (.int (l5)), none] [] := by
  unfold fX2_computeWindow_70
  refine g_iinc (pc := 70) (v := l5 + (-1)) C dX2_computeWindow_70 rfl (rfl) (Nat.le_of_ble_eq_true rfl) rfl ?_
  refine g_goto (pc := 73) (tgt := 27) C dX2_computeWindow_73 rfl ?_
  refine g_keep [true, true, true, true, true, true, false] ?_
  exact hk27 σ l2 l4 (l5 + (-1))
def fX2_computeWindow_27 (b : Nat) (c1 : Nat) : Nat → Sg → Int32 → Int32 → Int32 → Option Sg
  | 0, _, _, _, _ => none
  | n + 1, σ, l2, l4, l5 =>
    if l5 < 0 then
      (fX8_at σ ((c1 + 5) + 1) 5 l2).bind fun r4 =>
      (fX8_put σ (b + 4) 23 l4 r4).bind fun σ5 =>
      (fX8_at σ5 ((c1 + 5) + 2) 5 l2).bind fun r6 =>
      (fX8_put σ5 (b + 5) 23 l4 r6).bind fun σ7 =>
      (fX8_at σ7 ((c1 + 5) + 3) 5 l2).bind fun r8 =>
      (fX8_put σ7 (b + 6) 23 l4 r8).bind fun σ9 =>
      (fX8_at σ9 ((c1 + 5) + 4) 5 l2).bind fun r10 =>
      (fX8_put σ9 (b + 7) 23 l4 r10).bind fun σ11 =>
      (fX2_computeWindow_147 b c1 FU σ11 0)
    else
      (fX8_at σ (b + 8) 23 l5).bind fun r12 =>
      (fX1_kindOf σ (c1 + 5) r12).bind fun r13 =>
      if r13 = 2 then
        (fX2_measureGroup σ b c1 r12).bind fun σ14 =>
        (fX2_computeWindow_70 b c1 (fX2_computeWindow_27 b c1 n) σ14 l2 l4 l5)
      else
        (fX2_measureSplit σ b (c1 + 5) r12).bind fun σ15 =>
        (fX2_computeWindow_70 b c1 (fX2_computeWindow_27 b c1 n) σ15 l2 l4 l5)
theorem bX2_computeWindow_27 {X : Xc} {K : Kc} (C : MC X K cX2_computeWindow 7 RX2 rmX2_computeWindow) (hr : K.meth.sig.returnType = none) (b : Nat) (c1 : Nat) (hb : pnOK b) (h1 : stOK c1) : ∀ (n : Nat) (σ : Sg) (l2 : Int32) (l4 : Int32) (l5 : Int32), GO X K 7 (fun r => MQv X K r) (fX2_computeWindow_27 b c1 n σ l2 l4 l5) σ 0 0 27 [some (.ref (X.ad b)), some (.ref (X.ad c1)), some (.int (l2)), some (.ref (X.ad (c1 + 5))), some (.int (l4)), some (.int (l5)), none] [] := by
  intro n
  induction n with
  | zero =>
    intro σ l2 l4 l5
    exact g_none
  | succ n ih =>
    intro σ l2 l4 l5
    unfold fX2_computeWindow_27
    refine g_iload (pc := 27) C dX2_computeWindow_27 rfl ?_
    refine g_if_lt (pc := 29) (tgt := 76) C dX2_computeWindow_29 rfl ?_ ?_
    · refine g_aload_n (pc := 76) (i := 0) C dX2_computeWindow_76 rfl rfl ?_
      refine g_getr (pc := 77) (ci := 2) (N := 11) (T := TX2) (j := 3) (Cn := RX2) (b + 4) C rfl inlX2 (Nat.le_of_ble_eq_true rfl) q_4_11 (blk hb 0 rfl) rfl dX2_computeWindow_77 ?_
      refine g_iload (pc := 80) C dX2_computeWindow_80 rfl ?_
      refine g_aload_n (pc := 82) (i := 3) C dX2_computeWindow_82 rfl rfl ?_
      refine g_getNr (pc := 83) (ci := 1) (N := 14) (T := TX1) (j := 0) (Cn := RX1) ((c1 + 5) + 1) C rfl inlX1 (Nat.le_of_ble_eq_true rfl) (List.mem_of_getElem? (i := 1) rfl) (blk (st_pl h1) 0 rfl) rfl dX2_computeWindow_83 ?_
      refine g_iload_n (pc := 86) (i := 2) C dX2_computeWindow_86 rfl rfl ?_
      refine g_callNi (pc := 87) (As := [.ref (X.ad ((c1 + 5) + 1)), .int (l2)]) C (kX8_at X σ ((c1 + 5) + 1) 5 l2 (blk (st_pl h1) 1 rfl)) (List.mem_of_getElem? (i := 7) rfl) q_11_22 q_1_2 q_11_23 hdX8_at ⟨Nat.le_of_ble_eq_true rfl, Nat.le_of_ble_eq_true rfl, rfl, rfl⟩ ⟨Nat.zero_le _, Nat.zero_le _⟩ (Nat.le_of_ble_eq_true rfl) rfl rfl dX2_computeWindow_87 (fun r4 _ => ?_)
      refine g_callNv (pc := 90) (As := [.ref (X.ad (b + 4)), .int (l4), .int (r4)]) C (kX8_put X σ (b + 4) 23 l4 r4 (blk hb 4 rfl)) (List.mem_of_getElem? (i := 9) rfl) q_9_20 q_1_2 q_9_21 hdX8_put ⟨Nat.le_of_ble_eq_true rfl, Nat.le_of_ble_eq_true rfl, rfl, rfl⟩ ⟨Nat.zero_le _, Nat.zero_le _⟩ (Nat.le_of_ble_eq_true rfl) rfl rfl dX2_computeWindow_90 (fun σ5 _ => ?_)
      refine g_aload_n (pc := 93) (i := 0) C dX2_computeWindow_93 rfl rfl ?_
      refine g_getr (pc := 94) (ci := 2) (N := 11) (T := TX2) (j := 4) (Cn := RX2) (b + 5) C rfl inlX2 (Nat.le_of_ble_eq_true rfl) q_4_12 (blk hb 0 rfl) rfl dX2_computeWindow_94 ?_
      refine g_iload (pc := 97) C dX2_computeWindow_97 rfl ?_
      refine g_aload_n (pc := 99) (i := 3) C dX2_computeWindow_99 rfl rfl ?_
      refine g_getNr (pc := 100) (ci := 1) (N := 14) (T := TX1) (j := 1) (Cn := RX1) ((c1 + 5) + 2) C rfl inlX1 (Nat.le_of_ble_eq_true rfl) (List.mem_of_getElem? (i := 2) rfl) (blk (st_pl h1) 0 rfl) rfl dX2_computeWindow_100 ?_
      refine g_iload_n (pc := 103) (i := 2) C dX2_computeWindow_103 rfl rfl ?_
      refine g_callNi (pc := 104) (As := [.ref (X.ad ((c1 + 5) + 2)), .int (l2)]) C (kX8_at X σ5 ((c1 + 5) + 2) 5 l2 (blk (st_pl h1) 2 rfl)) (List.mem_of_getElem? (i := 7) rfl) q_11_22 q_1_2 q_11_23 hdX8_at ⟨Nat.le_of_ble_eq_true rfl, Nat.le_of_ble_eq_true rfl, rfl, rfl⟩ ⟨Nat.zero_le _, Nat.zero_le _⟩ (Nat.le_of_ble_eq_true rfl) rfl rfl dX2_computeWindow_104 (fun r6 _ => ?_)
      refine g_callNv (pc := 107) (As := [.ref (X.ad (b + 5)), .int (l4), .int (r6)]) C (kX8_put X σ5 (b + 5) 23 l4 r6 (blk hb 5 rfl)) (List.mem_of_getElem? (i := 9) rfl) q_9_20 q_1_2 q_9_21 hdX8_put ⟨Nat.le_of_ble_eq_true rfl, Nat.le_of_ble_eq_true rfl, rfl, rfl⟩ ⟨Nat.zero_le _, Nat.zero_le _⟩ (Nat.le_of_ble_eq_true rfl) rfl rfl dX2_computeWindow_107 (fun σ7 _ => ?_)
      refine g_aload_n (pc := 110) (i := 0) C dX2_computeWindow_110 rfl rfl ?_
      refine g_getr (pc := 111) (ci := 2) (N := 11) (T := TX2) (j := 5) (Cn := RX2) (b + 6) C rfl inlX2 (Nat.le_of_ble_eq_true rfl) q_4_13 (blk hb 0 rfl) rfl dX2_computeWindow_111 ?_
      refine g_iload (pc := 114) C dX2_computeWindow_114 rfl ?_
      refine g_aload_n (pc := 116) (i := 3) C dX2_computeWindow_116 rfl rfl ?_
      refine g_getNr (pc := 117) (ci := 1) (N := 14) (T := TX1) (j := 2) (Cn := RX1) ((c1 + 5) + 3) C rfl inlX1 (Nat.le_of_ble_eq_true rfl) (List.mem_of_getElem? (i := 3) rfl) (blk (st_pl h1) 0 rfl) rfl dX2_computeWindow_117 ?_
      refine g_iload_n (pc := 120) (i := 2) C dX2_computeWindow_120 rfl rfl ?_
      refine g_callNi (pc := 121) (As := [.ref (X.ad ((c1 + 5) + 3)), .int (l2)]) C (kX8_at X σ7 ((c1 + 5) + 3) 5 l2 (blk (st_pl h1) 3 rfl)) (List.mem_of_getElem? (i := 7) rfl) q_11_22 q_1_2 q_11_23 hdX8_at ⟨Nat.le_of_ble_eq_true rfl, Nat.le_of_ble_eq_true rfl, rfl, rfl⟩ ⟨Nat.zero_le _, Nat.zero_le _⟩ (Nat.le_of_ble_eq_true rfl) rfl rfl dX2_computeWindow_121 (fun r8 _ => ?_)
      refine g_callNv (pc := 124) (As := [.ref (X.ad (b + 6)), .int (l4), .int (r8)]) C (kX8_put X σ7 (b + 6) 23 l4 r8 (blk hb 6 rfl)) (List.mem_of_getElem? (i := 9) rfl) q_9_20 q_1_2 q_9_21 hdX8_put ⟨Nat.le_of_ble_eq_true rfl, Nat.le_of_ble_eq_true rfl, rfl, rfl⟩ ⟨Nat.zero_le _, Nat.zero_le _⟩ (Nat.le_of_ble_eq_true rfl) rfl rfl dX2_computeWindow_124 (fun σ9 _ => ?_)
      refine g_aload_n (pc := 127) (i := 0) C dX2_computeWindow_127 rfl rfl ?_
      refine g_getr (pc := 128) (ci := 2) (N := 11) (T := TX2) (j := 6) (Cn := RX2) (b + 7) C rfl inlX2 (Nat.le_of_ble_eq_true rfl) q_4_14 (blk hb 0 rfl) rfl dX2_computeWindow_128 ?_
      refine g_iload (pc := 131) C dX2_computeWindow_131 rfl ?_
      refine g_aload_n (pc := 133) (i := 3) C dX2_computeWindow_133 rfl rfl ?_
      refine g_getNr (pc := 134) (ci := 1) (N := 14) (T := TX1) (j := 3) (Cn := RX1) ((c1 + 5) + 4) C rfl inlX1 (Nat.le_of_ble_eq_true rfl) (List.mem_of_getElem? (i := 4) rfl) (blk (st_pl h1) 0 rfl) rfl dX2_computeWindow_134 ?_
      refine g_iload_n (pc := 137) (i := 2) C dX2_computeWindow_137 rfl rfl ?_
      refine g_callNi (pc := 138) (As := [.ref (X.ad ((c1 + 5) + 4)), .int (l2)]) C (kX8_at X σ9 ((c1 + 5) + 4) 5 l2 (blk (st_pl h1) 4 rfl)) (List.mem_of_getElem? (i := 7) rfl) q_11_22 q_1_2 q_11_23 hdX8_at ⟨Nat.le_of_ble_eq_true rfl, Nat.le_of_ble_eq_true rfl, rfl, rfl⟩ ⟨Nat.zero_le _, Nat.zero_le _⟩ (Nat.le_of_ble_eq_true rfl) rfl rfl dX2_computeWindow_138 (fun r10 _ => ?_)
      refine g_callNv (pc := 141) (As := [.ref (X.ad (b + 7)), .int (l4), .int (r10)]) C (kX8_put X σ9 (b + 7) 23 l4 r10 (blk hb 7 rfl)) (List.mem_of_getElem? (i := 9) rfl) q_9_20 q_1_2 q_9_21 hdX8_put ⟨Nat.le_of_ble_eq_true rfl, Nat.le_of_ble_eq_true rfl, rfl, rfl⟩ ⟨Nat.zero_le _, Nat.zero_le _⟩ (Nat.le_of_ble_eq_true rfl) rfl rfl dX2_computeWindow_141 (fun σ11 _ => ?_)
      refine g_iconst (pc := 144) (v := 0) C dX2_computeWindow_144 (by decide) ?_
      refine g_istore (pc := 145) C dX2_computeWindow_145 (Nat.le_of_ble_eq_true rfl) rfl ?_
      refine g_keep [true, false, false, true, false, true, false] ?_
      exact bX2_computeWindow_147 C hr b c1 hb h1 FU σ11 0
    · refine g_aload_n (pc := 32) (i := 0) C dX2_computeWindow_32 rfl rfl ?_
      refine g_getr (pc := 33) (ci := 2) (N := 11) (T := TX2) (j := 7) (Cn := RX2) (b + 8) C rfl inlX2 (Nat.le_of_ble_eq_true rfl) q_4_15 (blk hb 0 rfl) rfl dX2_computeWindow_33 ?_
      refine g_iload (pc := 36) C dX2_computeWindow_36 rfl ?_
      refine g_callNi (pc := 38) (As := [.ref (X.ad (b + 8)), .int (l5)]) C (kX8_at X σ (b + 8) 23 l5 (blk hb 8 rfl)) (List.mem_of_getElem? (i := 7) rfl) q_11_22 q_1_2 q_11_23 hdX8_at ⟨Nat.le_of_ble_eq_true rfl, Nat.le_of_ble_eq_true rfl, rfl, rfl⟩ ⟨Nat.zero_le _, Nat.zero_le _⟩ (Nat.le_of_ble_eq_true rfl) rfl rfl dX2_computeWindow_38 (fun r12 _ => ?_)
      refine g_istore (pc := 41) C dX2_computeWindow_41 (Nat.le_of_ble_eq_true rfl) rfl ?_
      refine g_aload_n (pc := 43) (i := 3) C dX2_computeWindow_43 rfl rfl ?_
      refine g_iload (pc := 44) C dX2_computeWindow_44 rfl ?_
      refine g_callVi (pc := 46) (As := [.int (r12)]) C (kX1_kindOf X σ (c1 + 5) r12 (st_pl h1)) (blk (st_pl h1) 0 rfl) rfl q_16_1 q_16_2 q_16_3 q_2_23 q_16_4 ⟨rfl, hdX1_kindOf⟩ ⟨Nat.le_of_ble_eq_true rfl, Nat.le_of_ble_eq_true rfl, rfl, rfl⟩ ⟨Nat.zero_le _, Nat.zero_le _⟩ (Nat.le_of_ble_eq_true rfl) rfl rfl dX2_computeWindow_46 (fun r13 _ => ?_)
      refine g_iconst (pc := 49) (v := 2) C dX2_computeWindow_49 (by decide) ?_
      refine g_icmp_ne (pc := 50) (tgt := 63) C dX2_computeWindow_50 rfl ?_ ?_
      · refine g_aload_n (pc := 53) (i := 0) C dX2_computeWindow_53 rfl rfl ?_
        refine g_aload_n (pc := 54) (i := 1) C dX2_computeWindow_54 rfl rfl ?_
        refine g_iload (pc := 55) C dX2_computeWindow_55 rfl ?_
        refine g_callVv (pc := 57) (As := [.ref (X.ad c1), .int (r12)]) C (kX2_measureGroup X σ b c1 r12 hb h1) (blk hb 0 rfl) rfl q_16_5 q_16_6 q_16_7 q_1_20 q_16_8 ⟨rfl, hdX2_measureGroup⟩ ⟨Nat.le_of_ble_eq_true rfl, Nat.le_of_ble_eq_true rfl, rfl, rfl⟩ ⟨Nat.zero_le _, Nat.zero_le _⟩ (Nat.le_of_ble_eq_true rfl) rfl rfl dX2_computeWindow_57 (fun σ14 _ => ?_)
        refine g_goto (pc := 60) (tgt := 70) C dX2_computeWindow_60 rfl ?_
        refine g_keep [true, true, true, true, true, true, false] ?_
        exact bX2_computeWindow_70 C hr b c1 hb h1 ih σ14 l2 l4 l5
      · refine g_aload_n (pc := 63) (i := 0) C dX2_computeWindow_63 rfl rfl ?_
        refine g_aload_n (pc := 64) (i := 3) C dX2_computeWindow_64 rfl rfl ?_
        refine g_iload (pc := 65) C dX2_computeWindow_65 rfl ?_
        refine g_callVv (pc := 67) (As := [.ref (X.ad (c1 + 5)), .int (r12)]) C (kX2_measureSplit X σ b (c1 + 5) r12 hb (st_pl h1)) (blk hb 0 rfl) rfl q_16_14 q_16_15 q_16_16 q_1_20 q_16_17 ⟨rfl, hdX2_measureSplit⟩ ⟨Nat.le_of_ble_eq_true rfl, Nat.le_of_ble_eq_true rfl, rfl, rfl⟩ ⟨Nat.zero_le _, Nat.zero_le _⟩ (Nat.le_of_ble_eq_true rfl) rfl rfl dX2_computeWindow_67 (fun σ15 _ => ?_)
        refine g_keep [true, true, true, true, true, true, false] ?_
        exact bX2_computeWindow_70 C hr b c1 hb h1 ih σ15 l2 l4 l5
def fX2_computeWindow (σ : Sg) (b : Nat) (c1 : Nat) (p2 : Int32) : Option Sg :=
  (fX1_rootOf σ (c1 + 5) p2).bind fun r1 =>
  (fX2_listNodes σ b (c1 + 5) r1).bind fun σ2 =>
  nm ((σ2.1 b 8) - 1) fun v3 =>
  (fX2_computeWindow_27 b c1 FU σ2 p2 r1 v3)
theorem kX2_computeWindow (X : Xc) (σ : Sg) (b : Nat) (c1 : Nat) (p2 : Int32) (hb : pnOK b) (h1 : stOK c1) : ∀ r, fX2_computeWindow σ b c1 p2 = some r → Met X.l yX2_computeWindow (wsM yX2_computeWindow cX2_computeWindow 7 none) rmX2_computeWindow (va_Pc [.ref (X.ad b), .ref (X.ad c1), .int p2] (PW X σ)) (Qv X r) 0 0 X.A := by
  refine mt_of (own := RX2) (lo := [some (.ref (X.ad b)), some (.ref (X.ad c1)), some (.int (p2)), none, none, none, none]) (by decide) rfl (Nat.le_of_ble_eq_true rfl) rfl (fun K C hr => ?_)
  unfold fX2_computeWindow
  refine g_aload_n (pc := 0) (i := 1) C dX2_computeWindow_0 rfl rfl ?_
  refine g_getNr (pc := 1) (ci := 4) (N := 7) (T := TX4) (j := 4) (Cn := RX4) (c1 + 5) C rfl inlX4 (Nat.le_of_ble_eq_true rfl) (List.mem_of_getElem? (i := 0) rfl) (blk h1 0 rfl) rfl dX2_computeWindow_1 ?_
  refine g_astore_n (pc := 4) (i := 3) C dX2_computeWindow_4 rfl (Nat.le_of_ble_eq_true rfl) rfl ?_
  refine g_aload_n (pc := 5) (i := 3) C dX2_computeWindow_5 rfl rfl ?_
  refine g_iload_n (pc := 6) (i := 2) C dX2_computeWindow_6 rfl rfl ?_
  refine g_callVi (pc := 7) (As := [.int (p2)]) C (kX1_rootOf X σ (c1 + 5) p2 (st_pl h1)) (blk (st_pl h1) 0 rfl) rfl q_15_11 q_15_12 q_15_13 q_2_23 q_15_14 ⟨rfl, hdX1_rootOf⟩ ⟨Nat.le_of_ble_eq_true rfl, Nat.le_of_ble_eq_true rfl, rfl, rfl⟩ ⟨Nat.zero_le _, Nat.zero_le _⟩ (Nat.le_of_ble_eq_true rfl) rfl rfl dX2_computeWindow_7 (fun r1 _ => ?_)
  refine g_istore (pc := 10) C dX2_computeWindow_10 (Nat.le_of_ble_eq_true rfl) rfl ?_
  refine g_aload_n (pc := 12) (i := 0) C dX2_computeWindow_12 rfl rfl ?_
  refine g_aload_n (pc := 13) (i := 3) C dX2_computeWindow_13 rfl rfl ?_
  refine g_iload (pc := 14) C dX2_computeWindow_14 rfl ?_
  refine g_callVv (pc := 16) (As := [.ref (X.ad (c1 + 5)), .int (r1)]) C (kX2_listNodes X σ b (c1 + 5) r1 hb (st_pl h1)) (blk hb 0 rfl) rfl q_15_15 q_15_16 q_15_17 q_1_20 q_15_18 ⟨rfl, hdX2_listNodes⟩ ⟨Nat.le_of_ble_eq_true rfl, Nat.le_of_ble_eq_true rfl, rfl, rfl⟩ ⟨Nat.zero_le _, Nat.zero_le _⟩ (Nat.le_of_ble_eq_true rfl) rfl rfl dX2_computeWindow_16 (fun σ2 _ => ?_)
  refine g_aload_n (pc := 19) (i := 0) C dX2_computeWindow_19 rfl rfl ?_
  refine g_geti (pc := 20) (ci := 2) (N := 11) (T := TX2) (j := 8) (Cn := RX2) C rfl inlX2 (Nat.le_of_ble_eq_true rfl) q_15_10 (blk hb 0 rfl) rfl dX2_computeWindow_20 ?_
  refine g_iconst (pc := 23) (v := 1) C dX2_computeWindow_23 (by decide) ?_
  refine g_isub (pc := 24) C dX2_computeWindow_24 ?_
  refine g_nm (fun v3 => ?_)
  refine g_istore (pc := 25) C dX2_computeWindow_25 (Nat.le_of_ble_eq_true rfl) rfl ?_
  refine g_keep [true, true, true, true, true, true, false] ?_
  exact bX2_computeWindow_27 C hr b c1 hb h1 FU σ2 p2 r1 v3
theorem dX2_compute_0 : decode cX2_compute 0 = .ok (.aload_n 0, 1) := by decide +kernel
theorem dX2_compute_1 : decode cX2_compute 1 = .ok (.getfield 9, 3) := by decide +kernel
theorem dX2_compute_4 : decode cX2_compute 4 = .ok (.iconst 0, 1) := by decide +kernel
theorem dX2_compute_5 : decode cX2_compute 5 = .ok (.invokestatic 85, 3) := by decide +kernel
theorem dX2_compute_8 : decode cX2_compute 8 = .ok (.iconst 0, 1) := by decide +kernel
theorem dX2_compute_9 : decode cX2_compute 9 = .ok (.istore_n 2, 1) := by decide +kernel
theorem dX2_compute_10 : decode cX2_compute 10 = .ok (.iload_n 2, 1) := by decide +kernel
theorem dX2_compute_11 : decode cX2_compute 11 = .ok (.iconst 5, 1) := by decide +kernel
theorem dX2_compute_12 : decode cX2_compute 12 = .ok (.if_icmp .ge 15, 3) := by decide +kernel
theorem dX2_compute_15 : decode cX2_compute 15 = .ok (.aload_n 0, 1) := by decide +kernel
theorem dX2_compute_16 : decode cX2_compute 16 = .ok (.aload_n 1, 1) := by decide +kernel
theorem dX2_compute_17 : decode cX2_compute 17 = .ok (.iload_n 2, 1) := by decide +kernel
theorem dX2_compute_18 : decode cX2_compute 18 = .ok (.invokevirtual 91, 3) := by decide +kernel
theorem dX2_compute_21 : decode cX2_compute 21 = .ok (.iinc 2 1, 3) := by decide +kernel
theorem dX2_compute_24 : decode cX2_compute 24 = .ok (.goto (-14), 3) := by decide +kernel
theorem dX2_compute_27 : decode cX2_compute 27 = .ok (.return_, 1) := by decide +kernel
abbrev rmX2_compute : Room := { frames := 6, cells := 0, slots := 0, locals := 191 }
theorem hdX2_compute : yX2_compute.cls ≠ "java/lang/invoke/MethodHandle" ∧ yX2_compute.cls ≠ "java/lang/invoke/VarHandle" ∧ (parseMethodDescriptor yX2_compute.desc).map (fun d => d.parameters.length) = some 1 := by decide +kernel
def fX2_compute_10 (b : Nat) (c1 : Nat) : Nat → Sg → Int32 → Option Sg
  | 0, _, _ => none
  | n + 1, σ, l2 =>
    if 5 ≤ l2 then
      some σ
    else
      (fX2_computeWindow σ b c1 l2).bind fun σ2 =>
      ((fX2_compute_10 b c1 n) σ2 (l2 + 1))
theorem bX2_compute_10 {X : Xc} {K : Kc} (C : MC X K cX2_compute 3 RX2 rmX2_compute) (hr : K.meth.sig.returnType = none) (b : Nat) (c1 : Nat) (hb : pnOK b) (h1 : stOK c1) : ∀ (n : Nat) (σ : Sg) (l2 : Int32), GO X K 3 (fun r => MQv X K r) (fX2_compute_10 b c1 n σ l2) σ 0 0 10 [some (.ref (X.ad b)), some (.ref (X.ad c1)), some (.int (l2))] [] := by
  intro n
  induction n with
  | zero =>
    intro σ l2
    exact g_none
  | succ n ih =>
    intro σ l2
    unfold fX2_compute_10
    refine g_iload_n (pc := 10) (i := 2) C dX2_compute_10 rfl rfl ?_
    refine g_iconst (pc := 11) (v := 5) C dX2_compute_11 (by decide) ?_
    refine g_icmp_ge (pc := 12) (tgt := 27) C dX2_compute_12 rfl ?_ ?_
    · exact g_vret (pc := 27) C hr dX2_compute_27 rfl
    · refine g_aload_n (pc := 15) (i := 0) C dX2_compute_15 rfl rfl ?_
      refine g_aload_n (pc := 16) (i := 1) C dX2_compute_16 rfl rfl ?_
      refine g_iload_n (pc := 17) (i := 2) C dX2_compute_17 rfl rfl ?_
      refine g_callVv (pc := 18) (As := [.ref (X.ad c1), .int (l2)]) C (kX2_computeWindow X σ b c1 l2 hb h1) (blk hb 0 rfl) rfl q_15_6 q_15_7 q_15_8 q_1_20 q_15_9 ⟨rfl, hdX2_computeWindow⟩ ⟨Nat.le_of_ble_eq_true rfl, Nat.le_of_ble_eq_true rfl, rfl, rfl⟩ ⟨Nat.zero_le _, Nat.zero_le _⟩ (Nat.le_of_ble_eq_true rfl) rfl rfl dX2_compute_18 (fun σ2 _ => ?_)
      refine g_iinc (pc := 21) (v := l2 + 1) C dX2_compute_21 rfl (rfl) (Nat.le_of_ble_eq_true rfl) rfl ?_
      refine g_goto (pc := 24) (tgt := 10) C dX2_compute_24 rfl ?_
      refine g_keep [true, true, true] ?_
      exact ih σ2 (l2 + 1)
def fX2_compute (σ : Sg) (b : Nat) (c1 : Nat) : Option Sg :=
  (fJ7_fill_53178 σ (b + 1) 23 0).bind fun σ1 =>
  (fX2_compute_10 b c1 FU σ1 0)
theorem kX2_compute (X : Xc) (σ : Sg) (b : Nat) (c1 : Nat) (hb : pnOK b) (h1 : stOK c1) : ∀ r, fX2_compute σ b c1 = some r → Met X.l yX2_compute (wsM yX2_compute cX2_compute 3 none) rmX2_compute (va_Pc [.ref (X.ad b), .ref (X.ad c1)] (PW X σ)) (Qv X r) 0 0 X.A := by
  refine mt_of (own := RX2) (lo := [some (.ref (X.ad b)), some (.ref (X.ad c1)), none]) (by decide) rfl (Nat.le_of_ble_eq_true rfl) rfl (fun K C hr => ?_)
  unfold fX2_compute
  refine g_aload_n (pc := 0) (i := 0) C dX2_compute_0 rfl rfl ?_
  refine g_getr (pc := 1) (ci := 2) (N := 11) (T := TX2) (j := 0) (Cn := RX2) (b + 1) C rfl inlX2 (Nat.le_of_ble_eq_true rfl) q_4_8 (blk hb 0 rfl) rfl dX2_compute_1 ?_
  refine g_iconst (pc := 4) (v := 0) C dX2_compute_4 (by decide) ?_
  refine g_callSv (pc := 5) (As := [.ref (X.ad (b + 1)), .int (0)]) C (kJ7_fill_53178 X σ (b + 1) 23 0 (blk hb 1 rfl)) q_15_5 q_4_2 q_4_3 q_4_4 hdJ7_fill_53178 ⟨Nat.le_of_ble_eq_true rfl, Nat.le_of_ble_eq_true rfl, rfl, rfl⟩ ⟨Nat.zero_le _, Nat.zero_le _⟩ (Nat.le_of_ble_eq_true rfl) rfl rfl dX2_compute_5 (fun σ1 _ => ?_)
  refine g_iconst (pc := 8) (v := 0) C dX2_compute_8 (by decide) ?_
  refine g_istore_n (pc := 9) (i := 2) C dX2_compute_9 rfl (Nat.le_of_ble_eq_true rfl) rfl ?_
  refine g_keep [true, true, true] ?_
  exact bX2_compute_10 C hr b c1 hb h1 FU σ1 0
theorem dX2_leftOf_0 : decode cX2_leftOf 0 = .ok (.aload_n 0, 1) := by decide +kernel
theorem dX2_leftOf_1 : decode cX2_leftOf 1 = .ok (.getfield 21, 3) := by decide +kernel
theorem dX2_leftOf_4 : decode cX2_leftOf 4 = .ok (.iload_n 1, 1) := by decide +kernel
theorem dX2_leftOf_5 : decode cX2_leftOf 5 = .ok (.invokestatic 46, 3) := by decide +kernel
theorem dX2_leftOf_8 : decode cX2_leftOf 8 = .ok (.ireturn, 1) := by decide +kernel
abbrev rmX2_leftOf : Room := { frames := 1, cells := 0, slots := 0, locals := 21 }
theorem hdX2_leftOf : yX2_leftOf.cls ≠ "java/lang/invoke/MethodHandle" ∧ yX2_leftOf.cls ≠ "java/lang/invoke/VarHandle" ∧ (parseMethodDescriptor yX2_leftOf.desc).map (fun d => d.parameters.length) = some 1 := by decide +kernel
def fX2_leftOf (σ : Sg) (b : Nat) (p1 : Int32) : Option Int32 :=
  (fX8_at σ (b + 4) 23 p1).bind fun r1 =>
  some r1
theorem kX2_leftOf (X : Xc) (σ : Sg) (b : Nat) (p1 : Int32) (hb : pnOK b) : ∀ r, fX2_leftOf σ b p1 = some r → Met X.l yX2_leftOf (wsM yX2_leftOf cX2_leftOf 2 (some .int)) rmX2_leftOf (va_Pc [.ref (X.ad b), .int p1] (PW X σ)) (Qi X r σ) 0 0 X.A := by
  refine mt_of (own := RX2) (lo := [some (.ref (X.ad b)), some (.int (p1))]) (by decide) rfl (Nat.le_of_ble_eq_true rfl) rfl (fun K C hr => ?_)
  unfold fX2_leftOf
  refine g_aload_n (pc := 0) (i := 0) C dX2_leftOf_0 rfl rfl ?_
  refine g_getr (pc := 1) (ci := 2) (N := 11) (T := TX2) (j := 3) (Cn := RX2) (b + 4) C rfl inlX2 (Nat.le_of_ble_eq_true rfl) q_4_11 (blk hb 0 rfl) rfl dX2_leftOf_1 ?_
  refine g_iload_n (pc := 4) (i := 1) C dX2_leftOf_4 rfl rfl ?_
  refine g_callNi (pc := 5) (As := [.ref (X.ad (b + 4)), .int (p1)]) C (kX8_at X σ (b + 4) 23 p1 (blk hb 4 rfl)) (List.mem_of_getElem? (i := 7) rfl) q_11_22 q_1_2 q_11_23 hdX8_at ⟨Nat.le_of_ble_eq_true rfl, Nat.le_of_ble_eq_true rfl, rfl, rfl⟩ ⟨Nat.zero_le _, Nat.zero_le _⟩ (Nat.le_of_ble_eq_true rfl) rfl rfl dX2_leftOf_5 (fun r1 _ => ?_)
  exact g_iret (pc := 8) C hr dX2_leftOf_8 rfl
theorem dX2_topOf_0 : decode cX2_topOf 0 = .ok (.aload_n 0, 1) := by decide +kernel
theorem dX2_topOf_1 : decode cX2_topOf 1 = .ok (.getfield 24, 3) := by decide +kernel
theorem dX2_topOf_4 : decode cX2_topOf 4 = .ok (.iload_n 1, 1) := by decide +kernel
theorem dX2_topOf_5 : decode cX2_topOf 5 = .ok (.invokestatic 46, 3) := by decide +kernel
theorem dX2_topOf_8 : decode cX2_topOf 8 = .ok (.ireturn, 1) := by decide +kernel
abbrev rmX2_topOf : Room := { frames := 1, cells := 0, slots := 0, locals := 21 }
theorem hdX2_topOf : yX2_topOf.cls ≠ "java/lang/invoke/MethodHandle" ∧ yX2_topOf.cls ≠ "java/lang/invoke/VarHandle" ∧ (parseMethodDescriptor yX2_topOf.desc).map (fun d => d.parameters.length) = some 1 := by decide +kernel
def fX2_topOf (σ : Sg) (b : Nat) (p1 : Int32) : Option Int32 :=
  (fX8_at σ (b + 5) 23 p1).bind fun r1 =>
  some r1
theorem kX2_topOf (X : Xc) (σ : Sg) (b : Nat) (p1 : Int32) (hb : pnOK b) : ∀ r, fX2_topOf σ b p1 = some r → Met X.l yX2_topOf (wsM yX2_topOf cX2_topOf 2 (some .int)) rmX2_topOf (va_Pc [.ref (X.ad b), .int p1] (PW X σ)) (Qi X r σ) 0 0 X.A := by
  refine mt_of (own := RX2) (lo := [some (.ref (X.ad b)), some (.int (p1))]) (by decide) rfl (Nat.le_of_ble_eq_true rfl) rfl (fun K C hr => ?_)
  unfold fX2_topOf
  refine g_aload_n (pc := 0) (i := 0) C dX2_topOf_0 rfl rfl ?_
  refine g_getr (pc := 1) (ci := 2) (N := 11) (T := TX2) (j := 4) (Cn := RX2) (b + 5) C rfl inlX2 (Nat.le_of_ble_eq_true rfl) q_4_12 (blk hb 0 rfl) rfl dX2_topOf_1 ?_
  refine g_iload_n (pc := 4) (i := 1) C dX2_topOf_4 rfl rfl ?_
  refine g_callNi (pc := 5) (As := [.ref (X.ad (b + 5)), .int (p1)]) C (kX8_at X σ (b + 5) 23 p1 (blk hb 5 rfl)) (List.mem_of_getElem? (i := 7) rfl) q_11_22 q_1_2 q_11_23 hdX8_at ⟨Nat.le_of_ble_eq_true rfl, Nat.le_of_ble_eq_true rfl, rfl, rfl⟩ ⟨Nat.zero_le _, Nat.zero_le _⟩ (Nat.le_of_ble_eq_true rfl) rfl rfl dX2_topOf_5 (fun r1 _ => ?_)
  exact g_iret (pc := 8) C hr dX2_topOf_8 rfl
theorem dX2_columnsOf_0 : decode cX2_columnsOf 0 = .ok (.aload_n 0, 1) := by decide +kernel
theorem dX2_columnsOf_1 : decode cX2_columnsOf 1 = .ok (.getfield 27, 3) := by decide +kernel
theorem dX2_columnsOf_4 : decode cX2_columnsOf 4 = .ok (.iload_n 1, 1) := by decide +kernel
theorem dX2_columnsOf_5 : decode cX2_columnsOf 5 = .ok (.invokestatic 46, 3) := by decide +kernel
theorem dX2_columnsOf_8 : decode cX2_columnsOf 8 = .ok (.ireturn, 1) := by decide +kernel
abbrev rmX2_columnsOf : Room := { frames := 1, cells := 0, slots := 0, locals := 21 }
theorem hdX2_columnsOf : yX2_columnsOf.cls ≠ "java/lang/invoke/MethodHandle" ∧ yX2_columnsOf.cls ≠ "java/lang/invoke/VarHandle" ∧ (parseMethodDescriptor yX2_columnsOf.desc).map (fun d => d.parameters.length) = some 1 := by decide +kernel
def fX2_columnsOf (σ : Sg) (b : Nat) (p1 : Int32) : Option Int32 :=
  (fX8_at σ (b + 6) 23 p1).bind fun r1 =>
  some r1
theorem kX2_columnsOf (X : Xc) (σ : Sg) (b : Nat) (p1 : Int32) (hb : pnOK b) : ∀ r, fX2_columnsOf σ b p1 = some r → Met X.l yX2_columnsOf (wsM yX2_columnsOf cX2_columnsOf 2 (some .int)) rmX2_columnsOf (va_Pc [.ref (X.ad b), .int p1] (PW X σ)) (Qi X r σ) 0 0 X.A := by
  refine mt_of (own := RX2) (lo := [some (.ref (X.ad b)), some (.int (p1))]) (by decide) rfl (Nat.le_of_ble_eq_true rfl) rfl (fun K C hr => ?_)
  unfold fX2_columnsOf
  refine g_aload_n (pc := 0) (i := 0) C dX2_columnsOf_0 rfl rfl ?_
  refine g_getr (pc := 1) (ci := 2) (N := 11) (T := TX2) (j := 5) (Cn := RX2) (b + 6) C rfl inlX2 (Nat.le_of_ble_eq_true rfl) q_4_13 (blk hb 0 rfl) rfl dX2_columnsOf_1 ?_
  refine g_iload_n (pc := 4) (i := 1) C dX2_columnsOf_4 rfl rfl ?_
  refine g_callNi (pc := 5) (As := [.ref (X.ad (b + 6)), .int (p1)]) C (kX8_at X σ (b + 6) 23 p1 (blk hb 6 rfl)) (List.mem_of_getElem? (i := 7) rfl) q_11_22 q_1_2 q_11_23 hdX8_at ⟨Nat.le_of_ble_eq_true rfl, Nat.le_of_ble_eq_true rfl, rfl, rfl⟩ ⟨Nat.zero_le _, Nat.zero_le _⟩ (Nat.le_of_ble_eq_true rfl) rfl rfl dX2_columnsOf_5 (fun r1 _ => ?_)
  exact g_iret (pc := 8) C hr dX2_columnsOf_8 rfl
theorem dX2_rowsOf_0 : decode cX2_rowsOf 0 = .ok (.aload_n 0, 1) := by decide +kernel
theorem dX2_rowsOf_1 : decode cX2_rowsOf 1 = .ok (.getfield 30, 3) := by decide +kernel
theorem dX2_rowsOf_4 : decode cX2_rowsOf 4 = .ok (.iload_n 1, 1) := by decide +kernel
theorem dX2_rowsOf_5 : decode cX2_rowsOf 5 = .ok (.invokestatic 46, 3) := by decide +kernel
theorem dX2_rowsOf_8 : decode cX2_rowsOf 8 = .ok (.ireturn, 1) := by decide +kernel
abbrev rmX2_rowsOf : Room := { frames := 1, cells := 0, slots := 0, locals := 21 }
theorem hdX2_rowsOf : yX2_rowsOf.cls ≠ "java/lang/invoke/MethodHandle" ∧ yX2_rowsOf.cls ≠ "java/lang/invoke/VarHandle" ∧ (parseMethodDescriptor yX2_rowsOf.desc).map (fun d => d.parameters.length) = some 1 := by decide +kernel
def fX2_rowsOf (σ : Sg) (b : Nat) (p1 : Int32) : Option Int32 :=
  (fX8_at σ (b + 7) 23 p1).bind fun r1 =>
  some r1
theorem kX2_rowsOf (X : Xc) (σ : Sg) (b : Nat) (p1 : Int32) (hb : pnOK b) : ∀ r, fX2_rowsOf σ b p1 = some r → Met X.l yX2_rowsOf (wsM yX2_rowsOf cX2_rowsOf 2 (some .int)) rmX2_rowsOf (va_Pc [.ref (X.ad b), .int p1] (PW X σ)) (Qi X r σ) 0 0 X.A := by
  refine mt_of (own := RX2) (lo := [some (.ref (X.ad b)), some (.int (p1))]) (by decide) rfl (Nat.le_of_ble_eq_true rfl) rfl (fun K C hr => ?_)
  unfold fX2_rowsOf
  refine g_aload_n (pc := 0) (i := 0) C dX2_rowsOf_0 rfl rfl ?_
  refine g_getr (pc := 1) (ci := 2) (N := 11) (T := TX2) (j := 6) (Cn := RX2) (b + 7) C rfl inlX2 (Nat.le_of_ble_eq_true rfl) q_4_14 (blk hb 0 rfl) rfl dX2_rowsOf_1 ?_
  refine g_iload_n (pc := 4) (i := 1) C dX2_rowsOf_4 rfl rfl ?_
  refine g_callNi (pc := 5) (As := [.ref (X.ad (b + 7)), .int (p1)]) C (kX8_at X σ (b + 7) 23 p1 (blk hb 7 rfl)) (List.mem_of_getElem? (i := 7) rfl) q_11_22 q_1_2 q_11_23 hdX8_at ⟨Nat.le_of_ble_eq_true rfl, Nat.le_of_ble_eq_true rfl, rfl, rfl⟩ ⟨Nat.zero_le _, Nat.zero_le _⟩ (Nat.le_of_ble_eq_true rfl) rfl rfl dX2_rowsOf_5 (fun r1 _ => ?_)
  exact g_iret (pc := 8) C hr dX2_rowsOf_8 rfl
theorem dX2_dividerStep_0 : decode cX2_dividerStep 0 = .ok (.aload_n 0, 1) := by decide +kernel
theorem dX2_dividerStep_1 : decode cX2_dividerStep 1 = .ok (.iload_n 1, 1) := by decide +kernel
theorem dX2_dividerStep_2 : decode cX2_dividerStep 2 = .ok (.iload_n 3, 1) := by decide +kernel
theorem dX2_dividerStep_3 : decode cX2_dividerStep 3 = .ok (.invokevirtual 76, 3) := by decide +kernel
theorem dX2_dividerStep_6 : decode cX2_dividerStep 6 = .ok (.aload_n 0, 1) := by decide +kernel
theorem dX2_dividerStep_7 : decode cX2_dividerStep 7 = .ok (.iload_n 1, 1) := by decide +kernel
theorem dX2_dividerStep_8 : decode cX2_dividerStep 8 = .ok (.iload_n 3, 1) := by decide +kernel
theorem dX2_dividerStep_9 : decode cX2_dividerStep 9 = .ok (.invokevirtual 79, 3) := by decide +kernel
theorem dX2_dividerStep_12 : decode cX2_dividerStep 12 = .ok (.isub, 1) := by decide +kernel
theorem dX2_dividerStep_13 : decode cX2_dividerStep 13 = .ok (.istore 5, 2) := by decide +kernel
theorem dX2_dividerStep_15 : decode cX2_dividerStep 15 = .ok (.aload_n 0, 1) := by decide +kernel
theorem dX2_dividerStep_16 : decode cX2_dividerStep 16 = .ok (.iload_n 2, 1) := by decide +kernel
theorem dX2_dividerStep_17 : decode cX2_dividerStep 17 = .ok (.iload_n 3, 1) := by decide +kernel
theorem dX2_dividerStep_18 : decode cX2_dividerStep 18 = .ok (.invokevirtual 76, 3) := by decide +kernel
theorem dX2_dividerStep_21 : decode cX2_dividerStep 21 = .ok (.aload_n 0, 1) := by decide +kernel
theorem dX2_dividerStep_22 : decode cX2_dividerStep 22 = .ok (.iload_n 2, 1) := by decide +kernel
theorem dX2_dividerStep_23 : decode cX2_dividerStep 23 = .ok (.iload_n 3, 1) := by decide +kernel
theorem dX2_dividerStep_24 : decode cX2_dividerStep 24 = .ok (.invokevirtual 79, 3) := by decide +kernel
theorem dX2_dividerStep_27 : decode cX2_dividerStep 27 = .ok (.isub, 1) := by decide +kernel
theorem dX2_dividerStep_28 : decode cX2_dividerStep 28 = .ok (.istore 6, 2) := by decide +kernel
theorem dX2_dividerStep_30 : decode cX2_dividerStep 30 = .ok (.iload 5, 2) := by decide +kernel
theorem dX2_dividerStep_32 : decode cX2_dividerStep 32 = .ok (.ifCond .lt 8, 3) := by decide +kernel
theorem dX2_dividerStep_35 : decode cX2_dividerStep 35 = .ok (.iload 6, 2) := by decide +kernel
theorem dX2_dividerStep_37 : decode cX2_dividerStep 37 = .ok (.ifCond .ge 5, 3) := by decide +kernel
theorem dX2_dividerStep_40 : decode cX2_dividerStep 40 = .ok (.iconst 0, 1) := by decide +kernel
theorem dX2_dividerStep_41 : decode cX2_dividerStep 41 = .ok (.ireturn, 1) := by decide +kernel
theorem dX2_dividerStep_42 : decode cX2_dividerStep 42 = .ok (.iload 5, 2) := by decide +kernel
theorem dX2_dividerStep_44 : decode cX2_dividerStep 44 = .ok (.ineg, 1) := by decide +kernel
theorem dX2_dividerStep_45 : decode cX2_dividerStep 45 = .ok (.iload 4, 2) := by decide +kernel
theorem dX2_dividerStep_47 : decode cX2_dividerStep 47 = .ok (.iload 6, 2) := by decide +kernel
theorem dX2_dividerStep_49 : decode cX2_dividerStep 49 = .ok (.invokestatic 67, 3) := by decide +kernel
theorem dX2_dividerStep_52 : decode cX2_dividerStep 52 = .ok (.invokestatic 82, 3) := by decide +kernel
theorem dX2_dividerStep_55 : decode cX2_dividerStep 55 = .ok (.ireturn, 1) := by decide +kernel
abbrev rmX2_dividerStep : Room := { frames := 2, cells := 0, slots := 0, locals := 90 }
theorem hdX2_dividerStep : yX2_dividerStep.cls ≠ "java/lang/invoke/MethodHandle" ∧ yX2_dividerStep.cls ≠ "java/lang/invoke/VarHandle" ∧ (parseMethodDescriptor yX2_dividerStep.desc).map (fun d => d.parameters.length) = some 4 := by decide +kernel
def fX2_dividerStep (σ : Sg) (b : Nat) (p1 : Int32) (p2 : Int32) (p3 : Int32) (p4 : Int32) : Option Int32 :=
  (fX2_extentOf σ b p1 p3).bind fun r1 =>
  (fX2_minimumOf σ b p1 p3).bind fun r2 =>
  nm (r1 - r2) fun v3 =>
  (fX2_extentOf σ b p2 p3).bind fun r4 =>
  (fX2_minimumOf σ b p2 p3).bind fun r5 =>
  nm (r4 - r5) fun v6 =>
  if v3 < 0 then
    some 0
  else
    if 0 ≤ v6 then
      nm (if v6 < p4 then v6 else p4) fun v7 =>
      nm (if (-v3) < v7 then v7 else (-v3)) fun v8 =>
      some v8
    else
      some 0
theorem kX2_dividerStep (X : Xc) (σ : Sg) (b : Nat) (p1 : Int32) (p2 : Int32) (p3 : Int32) (p4 : Int32) (hb : pnOK b) : ∀ r, fX2_dividerStep σ b p1 p2 p3 p4 = some r → Met X.l yX2_dividerStep (wsM yX2_dividerStep cX2_dividerStep 7 (some .int)) rmX2_dividerStep (va_Pc [.ref (X.ad b), .int p1, .int p2, .int p3, .int p4] (PW X σ)) (Qi X r σ) 0 0 X.A := by
  refine mt_of (own := RX2) (lo := [some (.ref (X.ad b)), some (.int (p1)), some (.int (p2)), some (.int (p3)), some (.int (p4)), none, none]) (by decide) rfl (Nat.le_of_ble_eq_true rfl) rfl (fun K C hr => ?_)
  unfold fX2_dividerStep
  refine g_aload_n (pc := 0) (i := 0) C dX2_dividerStep_0 rfl rfl ?_
  refine g_iload_n (pc := 1) (i := 1) C dX2_dividerStep_1 rfl rfl ?_
  refine g_iload_n (pc := 2) (i := 3) C dX2_dividerStep_2 rfl rfl ?_
  refine g_callVi (pc := 3) (As := [.int (p1), .int (p3)]) C (kX2_extentOf X σ b p1 p3 hb) (blk hb 0 rfl) rfl q_17_23 q_18_0 q_18_1 q_1_20 q_18_2 ⟨rfl, hdX2_extentOf⟩ ⟨Nat.le_of_ble_eq_true rfl, Nat.le_of_ble_eq_true rfl, rfl, rfl⟩ ⟨Nat.zero_le _, Nat.zero_le _⟩ (Nat.le_of_ble_eq_true rfl) rfl rfl dX2_dividerStep_3 (fun r1 _ => ?_)
  refine g_aload_n (pc := 6) (i := 0) C dX2_dividerStep_6 rfl rfl ?_
  refine g_iload_n (pc := 7) (i := 1) C dX2_dividerStep_7 rfl rfl ?_
  refine g_iload_n (pc := 8) (i := 3) C dX2_dividerStep_8 rfl rfl ?_
  refine g_callVi (pc := 9) (As := [.int (p1), .int (p3)]) C (kX2_minimumOf X σ b p1 p3 hb) (blk hb 0 rfl) rfl q_17_11 q_17_12 q_17_13 q_1_20 q_17_14 ⟨rfl, hdX2_minimumOf⟩ ⟨Nat.le_of_ble_eq_true rfl, Nat.le_of_ble_eq_true rfl, rfl, rfl⟩ ⟨Nat.zero_le _, Nat.zero_le _⟩ (Nat.le_of_ble_eq_true rfl) rfl rfl dX2_dividerStep_9 (fun r2 _ => ?_)
  refine g_isub (pc := 12) C dX2_dividerStep_12 ?_
  refine g_nm (fun v3 => ?_)
  refine g_istore (pc := 13) C dX2_dividerStep_13 (Nat.le_of_ble_eq_true rfl) rfl ?_
  refine g_aload_n (pc := 15) (i := 0) C dX2_dividerStep_15 rfl rfl ?_
  refine g_iload_n (pc := 16) (i := 2) C dX2_dividerStep_16 rfl rfl ?_
  refine g_iload_n (pc := 17) (i := 3) C dX2_dividerStep_17 rfl rfl ?_
  refine g_callVi (pc := 18) (As := [.int (p2), .int (p3)]) C (kX2_extentOf X σ b p2 p3 hb) (blk hb 0 rfl) rfl q_17_23 q_18_0 q_18_1 q_1_20 q_18_2 ⟨rfl, hdX2_extentOf⟩ ⟨Nat.le_of_ble_eq_true rfl, Nat.le_of_ble_eq_true rfl, rfl, rfl⟩ ⟨Nat.zero_le _, Nat.zero_le _⟩ (Nat.le_of_ble_eq_true rfl) rfl rfl dX2_dividerStep_18 (fun r4 _ => ?_)
  refine g_aload_n (pc := 21) (i := 0) C dX2_dividerStep_21 rfl rfl ?_
  refine g_iload_n (pc := 22) (i := 2) C dX2_dividerStep_22 rfl rfl ?_
  refine g_iload_n (pc := 23) (i := 3) C dX2_dividerStep_23 rfl rfl ?_
  refine g_callVi (pc := 24) (As := [.int (p2), .int (p3)]) C (kX2_minimumOf X σ b p2 p3 hb) (blk hb 0 rfl) rfl q_17_11 q_17_12 q_17_13 q_1_20 q_17_14 ⟨rfl, hdX2_minimumOf⟩ ⟨Nat.le_of_ble_eq_true rfl, Nat.le_of_ble_eq_true rfl, rfl, rfl⟩ ⟨Nat.zero_le _, Nat.zero_le _⟩ (Nat.le_of_ble_eq_true rfl) rfl rfl dX2_dividerStep_24 (fun r5 _ => ?_)
  refine g_isub (pc := 27) C dX2_dividerStep_27 ?_
  refine g_nm (fun v6 => ?_)
  refine g_istore (pc := 28) C dX2_dividerStep_28 (Nat.le_of_ble_eq_true rfl) rfl ?_
  refine g_iload (pc := 30) C dX2_dividerStep_30 rfl ?_
  refine g_if_lt (pc := 32) (tgt := 40) C dX2_dividerStep_32 rfl ?_ ?_
  · refine g_iconst (pc := 40) (v := 0) C dX2_dividerStep_40 (by decide) ?_
    exact g_iret (pc := 41) C hr dX2_dividerStep_41 rfl
  · refine g_iload (pc := 35) C dX2_dividerStep_35 rfl ?_
    refine g_if_ge (pc := 37) (tgt := 42) C dX2_dividerStep_37 rfl ?_ ?_
    · refine g_iload (pc := 42) C dX2_dividerStep_42 rfl ?_
      refine g_ineg (pc := 44) C dX2_dividerStep_44 ?_
      refine g_iload (pc := 45) C dX2_dividerStep_45 rfl ?_
      refine g_iload (pc := 47) C dX2_dividerStep_47 rfl ?_
      refine g_mmin (pc := 49) C q_41_3 q_8_19 q_8_20 q_8_21 ⟨Nat.le_of_ble_eq_true rfl, Nat.le_of_ble_eq_true rfl⟩ ⟨Nat.le_of_ble_eq_true rfl, Nat.le_of_ble_eq_true rfl⟩ dX2_dividerStep_49 ?_
      refine g_nm (fun v7 => ?_)
      refine g_mmax (pc := 52) C q_16_9 q_16_10 q_8_20 q_16_11 ⟨Nat.le_of_ble_eq_true rfl, Nat.le_of_ble_eq_true rfl⟩ ⟨Nat.le_of_ble_eq_true rfl, Nat.le_of_ble_eq_true rfl⟩ dX2_dividerStep_52 ?_
      refine g_nm (fun v8 => ?_)
      exact g_iret (pc := 55) C hr dX2_dividerStep_55 rfl
    · refine g_iconst (pc := 40) (v := 0) C dX2_dividerStep_40 (by decide) ?_
      exact g_iret (pc := 41) C hr dX2_dividerStep_41 rfl
theorem dX2_contains_0 : decode cX2_contains 0 = .ok (.aload_n 0, 1) := by decide +kernel
theorem dX2_contains_1 : decode cX2_contains 1 = .ok (.iload_n 1, 1) := by decide +kernel
theorem dX2_contains_2 : decode cX2_contains 2 = .ok (.invokevirtual 50, 3) := by decide +kernel
theorem dX2_contains_5 : decode cX2_contains 5 = .ok (.ifCond .eq 55, 3) := by decide +kernel
theorem dX2_contains_8 : decode cX2_contains 8 = .ok (.iload_n 2, 1) := by decide +kernel
theorem dX2_contains_9 : decode cX2_contains 9 = .ok (.aload_n 0, 1) := by decide +kernel
theorem dX2_contains_10 : decode cX2_contains 10 = .ok (.iload_n 1, 1) := by decide +kernel
theorem dX2_contains_11 : decode cX2_contains 11 = .ok (.invokevirtual 54, 3) := by decide +kernel
theorem dX2_contains_14 : decode cX2_contains 14 = .ok (.if_icmp .lt 46, 3) := by decide +kernel
theorem dX2_contains_17 : decode cX2_contains 17 = .ok (.iload_n 2, 1) := by decide +kernel
theorem dX2_contains_18 : decode cX2_contains 18 = .ok (.aload_n 0, 1) := by decide +kernel
theorem dX2_contains_19 : decode cX2_contains 19 = .ok (.iload_n 1, 1) := by decide +kernel
theorem dX2_contains_20 : decode cX2_contains 20 = .ok (.invokevirtual 54, 3) := by decide +kernel
theorem dX2_contains_23 : decode cX2_contains 23 = .ok (.aload_n 0, 1) := by decide +kernel
theorem dX2_contains_24 : decode cX2_contains 24 = .ok (.iload_n 1, 1) := by decide +kernel
theorem dX2_contains_25 : decode cX2_contains 25 = .ok (.invokevirtual 58, 3) := by decide +kernel
theorem dX2_contains_28 : decode cX2_contains 28 = .ok (.iadd, 1) := by decide +kernel
theorem dX2_contains_29 : decode cX2_contains 29 = .ok (.if_icmp .ge 31, 3) := by decide +kernel
theorem dX2_contains_32 : decode cX2_contains 32 = .ok (.iload_n 3, 1) := by decide +kernel
theorem dX2_contains_33 : decode cX2_contains 33 = .ok (.aload_n 0, 1) := by decide +kernel
theorem dX2_contains_34 : decode cX2_contains 34 = .ok (.iload_n 1, 1) := by decide +kernel
theorem dX2_contains_35 : decode cX2_contains 35 = .ok (.invokevirtual 61, 3) := by decide +kernel
theorem dX2_contains_38 : decode cX2_contains 38 = .ok (.if_icmp .lt 22, 3) := by decide +kernel
theorem dX2_contains_41 : decode cX2_contains 41 = .ok (.iload_n 3, 1) := by decide +kernel
theorem dX2_contains_42 : decode cX2_contains 42 = .ok (.aload_n 0, 1) := by decide +kernel
theorem dX2_contains_43 : decode cX2_contains 43 = .ok (.iload_n 1, 1) := by decide +kernel
theorem dX2_contains_44 : decode cX2_contains 44 = .ok (.invokevirtual 61, 3) := by decide +kernel
theorem dX2_contains_47 : decode cX2_contains 47 = .ok (.aload_n 0, 1) := by decide +kernel
theorem dX2_contains_48 : decode cX2_contains 48 = .ok (.iload_n 1, 1) := by decide +kernel
theorem dX2_contains_49 : decode cX2_contains 49 = .ok (.invokevirtual 64, 3) := by decide +kernel
theorem dX2_contains_52 : decode cX2_contains 52 = .ok (.iadd, 1) := by decide +kernel
theorem dX2_contains_53 : decode cX2_contains 53 = .ok (.if_icmp .ge 7, 3) := by decide +kernel
theorem dX2_contains_56 : decode cX2_contains 56 = .ok (.iconst 1, 1) := by decide +kernel
theorem dX2_contains_57 : decode cX2_contains 57 = .ok (.goto 4, 3) := by decide +kernel
theorem dX2_contains_60 : decode cX2_contains 60 = .ok (.iconst 0, 1) := by decide +kernel
theorem dX2_contains_61 : decode cX2_contains 61 = .ok (.ireturn, 1) := by decide +kernel
abbrev rmX2_contains : Room := { frames := 2, cells := 0, slots := 0, locals := 42 }
theorem hdX2_contains : yX2_contains.cls ≠ "java/lang/invoke/MethodHandle" ∧ yX2_contains.cls ≠ "java/lang/invoke/VarHandle" ∧ (parseMethodDescriptor yX2_contains.desc).map (fun d => d.parameters.length) = some 3 := by decide +kernel
def fX2_contains (σ : Sg) (b : Nat) (p1 : Int32) (p2 : Int32) (p3 : Int32) : Option Bool :=
  (fX2_isShown σ b p1).bind fun r1 =>
  if r1 = true then
    (fX2_leftOf σ b p1).bind fun r2 =>
    if p2 < r2 then
      some false
    else
      (fX2_leftOf σ b p1).bind fun r3 =>
      (fX2_columnsOf σ b p1).bind fun r4 =>
      if (r3 + r4) ≤ p2 then
        some false
      else
        (fX2_topOf σ b p1).bind fun r5 =>
        if p3 < r5 then
          some false
        else
          (fX2_topOf σ b p1).bind fun r6 =>
          (fX2_rowsOf σ b p1).bind fun r7 =>
          if (r6 + r7) ≤ p3 then
            some false
          else
            some true
  else
    some false
theorem kX2_contains (X : Xc) (σ : Sg) (b : Nat) (p1 : Int32) (p2 : Int32) (p3 : Int32) (hb : pnOK b) : ∀ r, fX2_contains σ b p1 p2 p3 = some r → Met X.l yX2_contains (wsM yX2_contains cX2_contains 4 (some .boolean)) rmX2_contains (va_Pc [.ref (X.ad b), .int p1, .int p2, .int p3] (PW X σ)) (Qi X (b2i r) σ) 0 0 X.A := by
  refine mt_of (own := RX2) (lo := [some (.ref (X.ad b)), some (.int (p1)), some (.int (p2)), some (.int (p3))]) (by decide) rfl (Nat.le_of_ble_eq_true rfl) rfl (fun K C hr => ?_)
  unfold fX2_contains
  refine g_aload_n (pc := 0) (i := 0) C dX2_contains_0 rfl rfl ?_
  refine g_iload_n (pc := 1) (i := 1) C dX2_contains_1 rfl rfl ?_
  refine g_callVi (pc := 2) (As := [.int (p1)]) C (kX2_isShown X σ b p1 hb) (blk hb 0 rfl) rfl q_16_22 q_16_23 q_17_0 q_1_20 q_17_1 ⟨rfl, hdX2_isShown⟩ ⟨Nat.le_of_ble_eq_true rfl, Nat.le_of_ble_eq_true rfl, rfl, rfl⟩ ⟨Nat.zero_le _, Nat.zero_le _⟩ (Nat.le_of_ble_eq_true rfl) rfl rfl dX2_contains_2 (fun r1 _ => ?_)
  refine g_ifb_eq (pc := 5) (tgt := 60) C dX2_contains_5 rfl ?_ ?_
  · refine g_iload_n (pc := 8) (i := 2) C dX2_contains_8 rfl rfl ?_
    refine g_aload_n (pc := 9) (i := 0) C dX2_contains_9 rfl rfl ?_
    refine g_iload_n (pc := 10) (i := 1) C dX2_contains_10 rfl rfl ?_
    refine g_callVi (pc := 11) (As := [.int (p1)]) C (kX2_leftOf X σ b p1 hb) (blk hb 0 rfl) rfl q_44_5 q_26_2 q_26_3 q_1_20 q_26_4 ⟨rfl, hdX2_leftOf⟩ ⟨Nat.le_of_ble_eq_true rfl, Nat.le_of_ble_eq_true rfl, rfl, rfl⟩ ⟨Nat.zero_le _, Nat.zero_le _⟩ (Nat.le_of_ble_eq_true rfl) rfl rfl dX2_contains_11 (fun r2 _ => ?_)
    refine g_icmp_lt (pc := 14) (tgt := 60) C dX2_contains_14 rfl ?_ ?_
    · refine g_iconst (pc := 60) (v := 0) C dX2_contains_60 (by decide) ?_
      exact g_zret (pc := 61) C hr dX2_contains_61 rfl
    · refine g_iload_n (pc := 17) (i := 2) C dX2_contains_17 rfl rfl ?_
      refine g_aload_n (pc := 18) (i := 0) C dX2_contains_18 rfl rfl ?_
      refine g_iload_n (pc := 19) (i := 1) C dX2_contains_19 rfl rfl ?_
      refine g_callVi (pc := 20) (As := [.int (p1)]) C (kX2_leftOf X σ b p1 hb) (blk hb 0 rfl) rfl q_44_5 q_26_2 q_26_3 q_1_20 q_26_4 ⟨rfl, hdX2_leftOf⟩ ⟨Nat.le_of_ble_eq_true rfl, Nat.le_of_ble_eq_true rfl, rfl, rfl⟩ ⟨Nat.zero_le _, Nat.zero_le _⟩ (Nat.le_of_ble_eq_true rfl) rfl rfl dX2_contains_20 (fun r3 _ => ?_)
      refine g_aload_n (pc := 23) (i := 0) C dX2_contains_23 rfl rfl ?_
      refine g_iload_n (pc := 24) (i := 1) C dX2_contains_24 rfl rfl ?_
      refine g_callVi (pc := 25) (As := [.int (p1)]) C (kX2_columnsOf X σ b p1 hb) (blk hb 0 rfl) rfl q_44_6 q_26_10 q_26_11 q_1_20 q_26_12 ⟨rfl, hdX2_columnsOf⟩ ⟨Nat.le_of_ble_eq_true rfl, Nat.le_of_ble_eq_true rfl, rfl, rfl⟩ ⟨Nat.zero_le _, Nat.zero_le _⟩ (Nat.le_of_ble_eq_true rfl) rfl rfl dX2_contains_25 (fun r4 _ => ?_)
      refine g_iadd (pc := 28) C dX2_contains_28 ?_
      refine g_icmp_ge (pc := 29) (tgt := 60) C dX2_contains_29 rfl ?_ ?_
      · refine g_iconst (pc := 60) (v := 0) C dX2_contains_60 (by decide) ?_
        exact g_zret (pc := 61) C hr dX2_contains_61 rfl
      · refine g_iload_n (pc := 32) (i := 3) C dX2_contains_32 rfl rfl ?_
        refine g_aload_n (pc := 33) (i := 0) C dX2_contains_33 rfl rfl ?_
        refine g_iload_n (pc := 34) (i := 1) C dX2_contains_34 rfl rfl ?_
        refine g_callVi (pc := 35) (As := [.int (p1)]) C (kX2_topOf X σ b p1 hb) (blk hb 0 rfl) rfl q_44_7 q_26_6 q_26_7 q_1_20 q_26_8 ⟨rfl, hdX2_topOf⟩ ⟨Nat.le_of_ble_eq_true rfl, Nat.le_of_ble_eq_true rfl, rfl, rfl⟩ ⟨Nat.zero_le _, Nat.zero_le _⟩ (Nat.le_of_ble_eq_true rfl) rfl rfl dX2_contains_35 (fun r5 _ => ?_)
        refine g_icmp_lt (pc := 38) (tgt := 60) C dX2_contains_38 rfl ?_ ?_
        · refine g_iconst (pc := 60) (v := 0) C dX2_contains_60 (by decide) ?_
          exact g_zret (pc := 61) C hr dX2_contains_61 rfl
        · refine g_iload_n (pc := 41) (i := 3) C dX2_contains_41 rfl rfl ?_
          refine g_aload_n (pc := 42) (i := 0) C dX2_contains_42 rfl rfl ?_
          refine g_iload_n (pc := 43) (i := 1) C dX2_contains_43 rfl rfl ?_
          refine g_callVi (pc := 44) (As := [.int (p1)]) C (kX2_topOf X σ b p1 hb) (blk hb 0 rfl) rfl q_44_7 q_26_6 q_26_7 q_1_20 q_26_8 ⟨rfl, hdX2_topOf⟩ ⟨Nat.le_of_ble_eq_true rfl, Nat.le_of_ble_eq_true rfl, rfl, rfl⟩ ⟨Nat.zero_le _, Nat.zero_le _⟩ (Nat.le_of_ble_eq_true rfl) rfl rfl dX2_contains_44 (fun r6 _ => ?_)
          refine g_aload_n (pc := 47) (i := 0) C dX2_contains_47 rfl rfl ?_
          refine g_iload_n (pc := 48) (i := 1) C dX2_contains_48 rfl rfl ?_
          refine g_callVi (pc := 49) (As := [.int (p1)]) C (kX2_rowsOf X σ b p1 hb) (blk hb 0 rfl) rfl q_44_8 q_26_14 q_26_15 q_1_20 q_26_16 ⟨rfl, hdX2_rowsOf⟩ ⟨Nat.le_of_ble_eq_true rfl, Nat.le_of_ble_eq_true rfl, rfl, rfl⟩ ⟨Nat.zero_le _, Nat.zero_le _⟩ (Nat.le_of_ble_eq_true rfl) rfl rfl dX2_contains_49 (fun r7 _ => ?_)
          refine g_iadd (pc := 52) C dX2_contains_52 ?_
          refine g_icmp_ge (pc := 53) (tgt := 60) C dX2_contains_53 rfl ?_ ?_
          · refine g_iconst (pc := 60) (v := 0) C dX2_contains_60 (by decide) ?_
            exact g_zret (pc := 61) C hr dX2_contains_61 rfl
          · refine g_iconst (pc := 56) (v := 1) C dX2_contains_56 (by decide) ?_
            refine g_goto (pc := 57) (tgt := 61) C dX2_contains_57 rfl ?_
            exact g_zret (pc := 61) C hr dX2_contains_61 rfl
  · refine g_iconst (pc := 60) (v := 0) C dX2_contains_60 (by decide) ?_
    exact g_zret (pc := 61) C hr dX2_contains_61 rfl
theorem dX2_sideAt_0 : decode cX2_sideAt 0 = .ok (.iload_n 2, 1) := by decide +kernel
theorem dX2_sideAt_1 : decode cX2_sideAt 1 = .ok (.aload_n 0, 1) := by decide +kernel
theorem dX2_sideAt_2 : decode cX2_sideAt 2 = .ok (.iload_n 1, 1) := by decide +kernel
theorem dX2_sideAt_3 : decode cX2_sideAt 3 = .ok (.invokevirtual 54, 3) := by decide +kernel
theorem dX2_sideAt_6 : decode cX2_sideAt 6 = .ok (.isub, 1) := by decide +kernel
theorem dX2_sideAt_7 : decode cX2_sideAt 7 = .ok (.istore 4, 2) := by decide +kernel
theorem dX2_sideAt_9 : decode cX2_sideAt 9 = .ok (.aload_n 0, 1) := by decide +kernel
theorem dX2_sideAt_10 : decode cX2_sideAt 10 = .ok (.iload_n 1, 1) := by decide +kernel
theorem dX2_sideAt_11 : decode cX2_sideAt 11 = .ok (.invokevirtual 58, 3) := by decide +kernel
theorem dX2_sideAt_14 : decode cX2_sideAt 14 = .ok (.iconst 1, 1) := by decide +kernel
theorem dX2_sideAt_15 : decode cX2_sideAt 15 = .ok (.isub, 1) := by decide +kernel
theorem dX2_sideAt_16 : decode cX2_sideAt 16 = .ok (.iload 4, 2) := by decide +kernel
theorem dX2_sideAt_18 : decode cX2_sideAt 18 = .ok (.isub, 1) := by decide +kernel
theorem dX2_sideAt_19 : decode cX2_sideAt 19 = .ok (.istore 5, 2) := by decide +kernel
theorem dX2_sideAt_21 : decode cX2_sideAt 21 = .ok (.iload_n 3, 1) := by decide +kernel
theorem dX2_sideAt_22 : decode cX2_sideAt 22 = .ok (.aload_n 0, 1) := by decide +kernel
theorem dX2_sideAt_23 : decode cX2_sideAt 23 = .ok (.iload_n 1, 1) := by decide +kernel
theorem dX2_sideAt_24 : decode cX2_sideAt 24 = .ok (.invokevirtual 61, 3) := by decide +kernel
theorem dX2_sideAt_27 : decode cX2_sideAt 27 = .ok (.isub, 1) := by decide +kernel
theorem dX2_sideAt_28 : decode cX2_sideAt 28 = .ok (.istore 6, 2) := by decide +kernel
theorem dX2_sideAt_30 : decode cX2_sideAt 30 = .ok (.aload_n 0, 1) := by decide +kernel
theorem dX2_sideAt_31 : decode cX2_sideAt 31 = .ok (.iload_n 1, 1) := by decide +kernel
theorem dX2_sideAt_32 : decode cX2_sideAt 32 = .ok (.invokevirtual 64, 3) := by decide +kernel
theorem dX2_sideAt_35 : decode cX2_sideAt 35 = .ok (.iconst 1, 1) := by decide +kernel
theorem dX2_sideAt_36 : decode cX2_sideAt 36 = .ok (.isub, 1) := by decide +kernel
theorem dX2_sideAt_37 : decode cX2_sideAt 37 = .ok (.iload 6, 2) := by decide +kernel
theorem dX2_sideAt_39 : decode cX2_sideAt 39 = .ok (.isub, 1) := by decide +kernel
theorem dX2_sideAt_40 : decode cX2_sideAt 40 = .ok (.istore 7, 2) := by decide +kernel
theorem dX2_sideAt_42 : decode cX2_sideAt 42 = .ok (.iload 4, 2) := by decide +kernel
theorem dX2_sideAt_44 : decode cX2_sideAt 44 = .ok (.iload 5, 2) := by decide +kernel
theorem dX2_sideAt_46 : decode cX2_sideAt 46 = .ok (.invokestatic 67, 3) := by decide +kernel
theorem dX2_sideAt_49 : decode cX2_sideAt 49 = .ok (.iload 6, 2) := by decide +kernel
theorem dX2_sideAt_51 : decode cX2_sideAt 51 = .ok (.iload 7, 2) := by decide +kernel
theorem dX2_sideAt_53 : decode cX2_sideAt 53 = .ok (.invokestatic 67, 3) := by decide +kernel
theorem dX2_sideAt_56 : decode cX2_sideAt 56 = .ok (.invokestatic 67, 3) := by decide +kernel
theorem dX2_sideAt_59 : decode cX2_sideAt 59 = .ok (.istore 8, 2) := by decide +kernel
theorem dX2_sideAt_61 : decode cX2_sideAt 61 = .ok (.iload 8, 2) := by decide +kernel
theorem dX2_sideAt_63 : decode cX2_sideAt 63 = .ok (.iload 4, 2) := by decide +kernel
theorem dX2_sideAt_65 : decode cX2_sideAt 65 = .ok (.if_icmp .ne 7, 3) := by decide +kernel
theorem dX2_sideAt_68 : decode cX2_sideAt 68 = .ok (.iconst 0, 1) := by decide +kernel
theorem dX2_sideAt_69 : decode cX2_sideAt 69 = .ok (.goto 26, 3) := by decide +kernel
theorem dX2_sideAt_72 : decode cX2_sideAt 72 = .ok (.iload 8, 2) := by decide +kernel
theorem dX2_sideAt_74 : decode cX2_sideAt 74 = .ok (.iload 5, 2) := by decide +kernel
theorem dX2_sideAt_76 : decode cX2_sideAt 76 = .ok (.if_icmp .ne 7, 3) := by decide +kernel
theorem dX2_sideAt_79 : decode cX2_sideAt 79 = .ok (.iconst 1, 1) := by decide +kernel
theorem dX2_sideAt_80 : decode cX2_sideAt 80 = .ok (.goto 15, 3) := by decide +kernel
theorem dX2_sideAt_83 : decode cX2_sideAt 83 = .ok (.iload 8, 2) := by decide +kernel
theorem dX2_sideAt_85 : decode cX2_sideAt 85 = .ok (.iload 6, 2) := by decide +kernel
theorem dX2_sideAt_87 : decode cX2_sideAt 87 = .ok (.if_icmp .ne 7, 3) := by decide +kernel
theorem dX2_sideAt_90 : decode cX2_sideAt 90 = .ok (.iconst 2, 1) := by decide +kernel
theorem dX2_sideAt_91 : decode cX2_sideAt 91 = .ok (.goto 4, 3) := by decide +kernel
theorem dX2_sideAt_94 : decode cX2_sideAt 94 = .ok (.iconst 3, 1) := by decide +kernel
theorem dX2_sideAt_95 : decode cX2_sideAt 95 = .ok (.istore 9, 2) := by decide +kernel
theorem dX2_sideAt_97 : decode cX2_sideAt 97 = .ok (.iconst 4, 1) := by decide +kernel
theorem dX2_sideAt_98 : decode cX2_sideAt 98 = .ok (.iload 8, 2) := by decide +kernel
theorem dX2_sideAt_100 : decode cX2_sideAt 100 = .ok (.imul, 1) := by decide +kernel
theorem dX2_sideAt_101 : decode cX2_sideAt 101 = .ok (.aload_n 0, 1) := by decide +kernel
theorem dX2_sideAt_102 : decode cX2_sideAt 102 = .ok (.iload_n 1, 1) := by decide +kernel
theorem dX2_sideAt_103 : decode cX2_sideAt 103 = .ok (.iload 9, 2) := by decide +kernel
theorem dX2_sideAt_105 : decode cX2_sideAt 105 = .ok (.invokestatic 73, 3) := by decide +kernel
theorem dX2_sideAt_108 : decode cX2_sideAt 108 = .ok (.invokevirtual 76, 3) := by decide +kernel
theorem dX2_sideAt_111 : decode cX2_sideAt 111 = .ok (.if_icmp .ge 8, 3) := by decide +kernel
theorem dX2_sideAt_114 : decode cX2_sideAt 114 = .ok (.iload 9, 2) := by decide +kernel
theorem dX2_sideAt_116 : decode cX2_sideAt 116 = .ok (.goto 4, 3) := by decide +kernel
theorem dX2_sideAt_119 : decode cX2_sideAt 119 = .ok (.iconst 4, 1) := by decide +kernel
theorem dX2_sideAt_120 : decode cX2_sideAt 120 = .ok (.ireturn, 1) := by decide +kernel
abbrev rmX2_sideAt : Room := { frames := 2, cells := 0, slots := 0, locals := 90 }
theorem hdX2_sideAt : yX2_sideAt.cls ≠ "java/lang/invoke/MethodHandle" ∧ yX2_sideAt.cls ≠ "java/lang/invoke/VarHandle" ∧ (parseMethodDescriptor yX2_sideAt.desc).map (fun d => d.parameters.length) = some 3 := by decide +kernel
def fX2_sideAt_95 (σ : Sg) (b : Nat) (l1 : Int32) (l8 : Int32) (s0 : Int32) : Option Int32 :=
  (fX8_directionOf σ s0).bind fun r12 =>
  (fX2_extentOf σ b l1 r12).bind fun r13 =>
  if r13 ≤ (4 * l8) then
    some 4
  else
    some s0
theorem bX2_sideAt_95 {X : Xc} {K : Kc} (C : MC X K cX2_sideAt 10 RX2 rmX2_sideAt) (hr : K.meth.sig.returnType = (some .int)) (σ : Sg) (b : Nat) (hb : pnOK b) (l1 : Int32) (l8 : Int32) (s0 : Int32) : GO X K 10 (fun r => MQi X K r σ) (fX2_sideAt_95 σ b l1 l8 s0) σ 0 0 95 [some (.ref (X.ad b)), some (.int (l1)), none, none, none, none, none, none, some (.int (l8)), none] [.int (s0)] := by
  unfold fX2_sideAt_95
  refine g_istore (pc := 95) C dX2_sideAt_95 (Nat.le_of_ble_eq_true rfl) rfl ?_
  refine g_iconst (pc := 97) (v := 4) C dX2_sideAt_97 (by decide) ?_
  refine g_iload (pc := 98) C dX2_sideAt_98 rfl ?_
  refine g_imul (pc := 100) C dX2_sideAt_100 ?_
  refine g_aload_n (pc := 101) (i := 0) C dX2_sideAt_101 rfl rfl ?_
  refine g_iload_n (pc := 102) (i := 1) C dX2_sideAt_102 rfl rfl ?_
  refine g_iload (pc := 103) C dX2_sideAt_103 rfl ?_
  refine g_callNi (pc := 105) (As := [.int (s0)]) C (kX8_directionOf X σ s0) (List.mem_of_getElem? (i := 8) rfl) q_33_23 q_1_2 q_34_0 hdX8_directionOf ⟨Nat.le_of_ble_eq_true rfl, Nat.le_of_ble_eq_true rfl, rfl, rfl⟩ ⟨Nat.zero_le _, Nat.zero_le _⟩ (Nat.le_of_ble_eq_true rfl) rfl rfl dX2_sideAt_105 (fun r12 _ => ?_)
  refine g_callVi (pc := 108) (As := [.int (l1), .int (r12)]) C (kX2_extentOf X σ b l1 r12 hb) (blk hb 0 rfl) rfl q_17_23 q_18_0 q_18_1 q_1_20 q_18_2 ⟨rfl, hdX2_extentOf⟩ ⟨Nat.le_of_ble_eq_true rfl, Nat.le_of_ble_eq_true rfl, rfl, rfl⟩ ⟨Nat.zero_le _, Nat.zero_le _⟩ (Nat.le_of_ble_eq_true rfl) rfl rfl dX2_sideAt_108 (fun r13 _ => ?_)
  refine g_icmp_ge (pc := 111) (tgt := 119) C dX2_sideAt_111 rfl ?_ ?_
  · refine g_iconst (pc := 119) (v := 4) C dX2_sideAt_119 (by decide) ?_
    exact g_iret (pc := 120) C hr dX2_sideAt_120 rfl
  · refine g_iload (pc := 114) C dX2_sideAt_114 rfl ?_
    refine g_goto (pc := 116) (tgt := 120) C dX2_sideAt_116 rfl ?_
    exact g_iret (pc := 120) C hr dX2_sideAt_120 rfl
def fX2_sideAt (σ : Sg) (b : Nat) (p1 : Int32) (p2 : Int32) (p3 : Int32) : Option Int32 :=
  (fX2_leftOf σ b p1).bind fun r1 =>
  nm (p2 - r1) fun v2 =>
  (fX2_columnsOf σ b p1).bind fun r3 =>
  nm ((r3 - 1) - v2) fun v4 =>
  (fX2_topOf σ b p1).bind fun r5 =>
  nm (p3 - r5) fun v6 =>
  (fX2_rowsOf σ b p1).bind fun r7 =>
  nm ((r7 - 1) - v6) fun v8 =>
  nm (if v4 < v2 then v4 else v2) fun v9 =>
  nm (if v8 < v6 then v8 else v6) fun v10 =>
  nm (if v10 < v9 then v10 else v9) fun v11 =>
  if v11 = v2 then
    (fX2_sideAt_95 σ b p1 v11 0)
  else
    if v11 = v4 then
      (fX2_sideAt_95 σ b p1 v11 1)
    else
      if v11 = v6 then
        (fX2_sideAt_95 σ b p1 v11 2)
      else
        (fX2_sideAt_95 σ b p1 v11 3)
theorem kX2_sideAt (X : Xc) (σ : Sg) (b : Nat) (p1 : Int32) (p2 : Int32) (p3 : Int32) (hb : pnOK b) : ∀ r, fX2_sideAt σ b p1 p2 p3 = some r → Met X.l yX2_sideAt (wsM yX2_sideAt cX2_sideAt 10 (some .int)) rmX2_sideAt (va_Pc [.ref (X.ad b), .int p1, .int p2, .int p3] (PW X σ)) (Qi X r σ) 0 0 X.A := by
  refine mt_of (own := RX2) (lo := [some (.ref (X.ad b)), some (.int (p1)), some (.int (p2)), some (.int (p3)), none, none, none, none, none, none]) (by decide) rfl (Nat.le_of_ble_eq_true rfl) rfl (fun K C hr => ?_)
  unfold fX2_sideAt
  refine g_iload_n (pc := 0) (i := 2) C dX2_sideAt_0 rfl rfl ?_
  refine g_aload_n (pc := 1) (i := 0) C dX2_sideAt_1 rfl rfl ?_
  refine g_iload_n (pc := 2) (i := 1) C dX2_sideAt_2 rfl rfl ?_
  refine g_callVi (pc := 3) (As := [.int (p1)]) C (kX2_leftOf X σ b p1 hb) (blk hb 0 rfl) rfl q_44_5 q_26_2 q_26_3 q_1_20 q_26_4 ⟨rfl, hdX2_leftOf⟩ ⟨Nat.le_of_ble_eq_true rfl, Nat.le_of_ble_eq_true rfl, rfl, rfl⟩ ⟨Nat.zero_le _, Nat.zero_le _⟩ (Nat.le_of_ble_eq_true rfl) rfl rfl dX2_sideAt_3 (fun r1 _ => ?_)
  refine g_isub (pc := 6) C dX2_sideAt_6 ?_
  refine g_nm (fun v2 => ?_)
  refine g_istore (pc := 7) C dX2_sideAt_7 (Nat.le_of_ble_eq_true rfl) rfl ?_
  refine g_aload_n (pc := 9) (i := 0) C dX2_sideAt_9 rfl rfl ?_
  refine g_iload_n (pc := 10) (i := 1) C dX2_sideAt_10 rfl rfl ?_
  refine g_callVi (pc := 11) (As := [.int (p1)]) C (kX2_columnsOf X σ b p1 hb) (blk hb 0 rfl) rfl q_44_6 q_26_10 q_26_11 q_1_20 q_26_12 ⟨rfl, hdX2_columnsOf⟩ ⟨Nat.le_of_ble_eq_true rfl, Nat.le_of_ble_eq_true rfl, rfl, rfl⟩ ⟨Nat.zero_le _, Nat.zero_le _⟩ (Nat.le_of_ble_eq_true rfl) rfl rfl dX2_sideAt_11 (fun r3 _ => ?_)
  refine g_iconst (pc := 14) (v := 1) C dX2_sideAt_14 (by decide) ?_
  refine g_isub (pc := 15) C dX2_sideAt_15 ?_
  refine g_iload (pc := 16) C dX2_sideAt_16 rfl ?_
  refine g_isub (pc := 18) C dX2_sideAt_18 ?_
  refine g_nm (fun v4 => ?_)
  refine g_istore (pc := 19) C dX2_sideAt_19 (Nat.le_of_ble_eq_true rfl) rfl ?_
  refine g_iload_n (pc := 21) (i := 3) C dX2_sideAt_21 rfl rfl ?_
  refine g_aload_n (pc := 22) (i := 0) C dX2_sideAt_22 rfl rfl ?_
  refine g_iload_n (pc := 23) (i := 1) C dX2_sideAt_23 rfl rfl ?_
  refine g_callVi (pc := 24) (As := [.int (p1)]) C (kX2_topOf X σ b p1 hb) (blk hb 0 rfl) rfl q_44_7 q_26_6 q_26_7 q_1_20 q_26_8 ⟨rfl, hdX2_topOf⟩ ⟨Nat.le_of_ble_eq_true rfl, Nat.le_of_ble_eq_true rfl, rfl, rfl⟩ ⟨Nat.zero_le _, Nat.zero_le _⟩ (Nat.le_of_ble_eq_true rfl) rfl rfl dX2_sideAt_24 (fun r5 _ => ?_)
  refine g_isub (pc := 27) C dX2_sideAt_27 ?_
  refine g_nm (fun v6 => ?_)
  refine g_istore (pc := 28) C dX2_sideAt_28 (Nat.le_of_ble_eq_true rfl) rfl ?_
  refine g_aload_n (pc := 30) (i := 0) C dX2_sideAt_30 rfl rfl ?_
  refine g_iload_n (pc := 31) (i := 1) C dX2_sideAt_31 rfl rfl ?_
  refine g_callVi (pc := 32) (As := [.int (p1)]) C (kX2_rowsOf X σ b p1 hb) (blk hb 0 rfl) rfl q_44_8 q_26_14 q_26_15 q_1_20 q_26_16 ⟨rfl, hdX2_rowsOf⟩ ⟨Nat.le_of_ble_eq_true rfl, Nat.le_of_ble_eq_true rfl, rfl, rfl⟩ ⟨Nat.zero_le _, Nat.zero_le _⟩ (Nat.le_of_ble_eq_true rfl) rfl rfl dX2_sideAt_32 (fun r7 _ => ?_)
  refine g_iconst (pc := 35) (v := 1) C dX2_sideAt_35 (by decide) ?_
  refine g_isub (pc := 36) C dX2_sideAt_36 ?_
  refine g_iload (pc := 37) C dX2_sideAt_37 rfl ?_
  refine g_isub (pc := 39) C dX2_sideAt_39 ?_
  refine g_nm (fun v8 => ?_)
  refine g_istore (pc := 40) C dX2_sideAt_40 (Nat.le_of_ble_eq_true rfl) rfl ?_
  refine g_iload (pc := 42) C dX2_sideAt_42 rfl ?_
  refine g_iload (pc := 44) C dX2_sideAt_44 rfl ?_
  refine g_mmin (pc := 46) C q_41_3 q_8_19 q_8_20 q_8_21 ⟨Nat.le_of_ble_eq_true rfl, Nat.le_of_ble_eq_true rfl⟩ ⟨Nat.le_of_ble_eq_true rfl, Nat.le_of_ble_eq_true rfl⟩ dX2_sideAt_46 ?_
  refine g_nm (fun v9 => ?_)
  refine g_iload (pc := 49) C dX2_sideAt_49 rfl ?_
  refine g_iload (pc := 51) C dX2_sideAt_51 rfl ?_
  refine g_mmin (pc := 53) C q_41_3 q_8_19 q_8_20 q_8_21 ⟨Nat.le_of_ble_eq_true rfl, Nat.le_of_ble_eq_true rfl⟩ ⟨Nat.le_of_ble_eq_true rfl, Nat.le_of_ble_eq_true rfl⟩ dX2_sideAt_53 ?_
  refine g_nm (fun v10 => ?_)
  refine g_mmin (pc := 56) C q_41_3 q_8_19 q_8_20 q_8_21 ⟨Nat.le_of_ble_eq_true rfl, Nat.le_of_ble_eq_true rfl⟩ ⟨Nat.le_of_ble_eq_true rfl, Nat.le_of_ble_eq_true rfl⟩ dX2_sideAt_56 ?_
  refine g_nm (fun v11 => ?_)
  refine g_istore (pc := 59) C dX2_sideAt_59 (Nat.le_of_ble_eq_true rfl) rfl ?_
  refine g_iload (pc := 61) C dX2_sideAt_61 rfl ?_
  refine g_iload (pc := 63) C dX2_sideAt_63 rfl ?_
  refine g_icmp_ne (pc := 65) (tgt := 72) C dX2_sideAt_65 rfl ?_ ?_
  · refine g_iconst (pc := 68) (v := 0) C dX2_sideAt_68 (by decide) ?_
    refine g_goto (pc := 69) (tgt := 95) C dX2_sideAt_69 rfl ?_
    refine g_keep [true, true, false, false, false, false, false, false, true, false] ?_
    exact bX2_sideAt_95 C hr σ b hb p1 v11 0
  · refine g_iload (pc := 72) C dX2_sideAt_72 rfl ?_
    refine g_iload (pc := 74) C dX2_sideAt_74 rfl ?_
    refine g_icmp_ne (pc := 76) (tgt := 83) C dX2_sideAt_76 rfl ?_ ?_
    · refine g_iconst (pc := 79) (v := 1) C dX2_sideAt_79 (by decide) ?_
      refine g_goto (pc := 80) (tgt := 95) C dX2_sideAt_80 rfl ?_
      refine g_keep [true, true, false, false, false, false, false, false, true, false] ?_
      exact bX2_sideAt_95 C hr σ b hb p1 v11 1
    · refine g_iload (pc := 83) C dX2_sideAt_83 rfl ?_
      refine g_iload (pc := 85) C dX2_sideAt_85 rfl ?_
      refine g_icmp_ne (pc := 87) (tgt := 94) C dX2_sideAt_87 rfl ?_ ?_
      · refine g_iconst (pc := 90) (v := 2) C dX2_sideAt_90 (by decide) ?_
        refine g_goto (pc := 91) (tgt := 95) C dX2_sideAt_91 rfl ?_
        refine g_keep [true, true, false, false, false, false, false, false, true, false] ?_
        exact bX2_sideAt_95 C hr σ b hb p1 v11 2
      · refine g_iconst (pc := 94) (v := 3) C dX2_sideAt_94 (by decide) ?_
        refine g_keep [true, true, false, false, false, false, false, false, true, false] ?_
        exact bX2_sideAt_95 C hr σ b hb p1 v11 3

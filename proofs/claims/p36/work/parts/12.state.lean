/-! by program out of the class files: each method as a function over the store, and its contract by a walk -/
theorem dX4_exists_0 : decode cX4_exists 0 = .ok (.iload_n 1, 1) := by decide +kernel
theorem dX4_exists_1 : decode cX4_exists 1 = .ok (.ifCond .lt 25, 3) := by decide +kernel
theorem dX4_exists_4 : decode cX4_exists 4 = .ok (.iload_n 1, 1) := by decide +kernel
theorem dX4_exists_5 : decode cX4_exists 5 = .ok (.bipush 12, 2) := by decide +kernel
theorem dX4_exists_7 : decode cX4_exists 7 = .ok (.if_icmp .ge 19, 3) := by decide +kernel
theorem dX4_exists_10 : decode cX4_exists 10 = .ok (.aload_n 0, 1) := by decide +kernel
theorem dX4_exists_11 : decode cX4_exists 11 = .ok (.getfield 36, 3) := by decide +kernel
theorem dX4_exists_14 : decode cX4_exists 14 = .ok (.iload_n 1, 1) := by decide +kernel
theorem dX4_exists_15 : decode cX4_exists 15 = .ok (.ishr, 1) := by decide +kernel
theorem dX4_exists_16 : decode cX4_exists 16 = .ok (.iconst 1, 1) := by decide +kernel
theorem dX4_exists_17 : decode cX4_exists 17 = .ok (.iand, 1) := by decide +kernel
theorem dX4_exists_18 : decode cX4_exists 18 = .ok (.iconst 1, 1) := by decide +kernel
theorem dX4_exists_19 : decode cX4_exists 19 = .ok (.if_icmp .ne 7, 3) := by decide +kernel
theorem dX4_exists_22 : decode cX4_exists 22 = .ok (.iconst 1, 1) := by decide +kernel
theorem dX4_exists_23 : decode cX4_exists 23 = .ok (.goto 4, 3) := by decide +kernel
theorem dX4_exists_26 : decode cX4_exists 26 = .ok (.iconst 0, 1) := by decide +kernel
theorem dX4_exists_27 : decode cX4_exists 27 = .ok (.ireturn, 1) := by decide +kernel
abbrev rmX4_exists : Room := { frames := 0, cells := 0, slots := 0, locals := 0 }
theorem hdX4_exists : yX4_exists.cls ≠ "java/lang/invoke/MethodHandle" ∧ yX4_exists.cls ≠ "java/lang/invoke/VarHandle" ∧ (parseMethodDescriptor yX4_exists.desc).map (fun d => d.parameters.length) = some 1 := by decide +kernel
def fX4_exists (σ : Sg) (b : Nat) (p1 : Int32) : Option Bool :=
  if p1 < 0 then
    some false
  else
    if 12 ≤ p1 then
      some false
    else
      if (((σ.1 b 0) >>> (p1 &&& 31)) &&& 1) = 1 then
        some true
      else
        some false
theorem kX4_exists (X : Xc) (σ : Sg) (b : Nat) (p1 : Int32) (hb : stOK b) : ∀ r, fX4_exists σ b p1 = some r → Met X.l yX4_exists (wsM yX4_exists cX4_exists 2 (some .boolean)) rmX4_exists (va_Pc [.ref (X.ad b), .int p1] (PW X σ)) (Qi X (b2i r) σ) 0 0 X.A := by
  refine mt_of (own := RX4) (lo := [some (.ref (X.ad b)), some (.int (p1))]) (by decide) rfl (Nat.le_of_ble_eq_true rfl) rfl (fun K C hr => ?_)
  unfold fX4_exists
  refine g_iload_n (pc := 0) (i := 1) C dX4_exists_0 rfl rfl ?_
  refine g_if_lt (pc := 1) (tgt := 26) C dX4_exists_1 rfl ?_ ?_
  · refine g_iconst (pc := 26) (v := 0) C dX4_exists_26 (by decide) ?_
    exact g_zret (pc := 27) C hr dX4_exists_27 rfl
  · refine g_iload_n (pc := 4) (i := 1) C dX4_exists_4 rfl rfl ?_
    refine g_bipush (pc := 5) (v := 12) C dX4_exists_5 (by decide) ?_
    refine g_icmp_ge (pc := 7) (tgt := 26) C dX4_exists_7 rfl ?_ ?_
    · refine g_iconst (pc := 26) (v := 0) C dX4_exists_26 (by decide) ?_
      exact g_zret (pc := 27) C hr dX4_exists_27 rfl
    · refine g_aload_n (pc := 10) (i := 0) C dX4_exists_10 rfl rfl ?_
      refine g_geti (pc := 11) (ci := 4) (N := 7) (T := TX4) (j := 0) (Cn := RX4) C rfl inlX4 (Nat.le_of_ble_eq_true rfl) q_7_20 (blk hb 0 rfl) rfl dX4_exists_11 ?_
      refine g_iload_n (pc := 14) (i := 1) C dX4_exists_14 rfl rfl ?_
      refine g_ishr (pc := 15) C dX4_exists_15 ?_
      refine g_iconst (pc := 16) (v := 1) C dX4_exists_16 (by decide) ?_
      refine g_iand (pc := 17) C dX4_exists_17 ?_
      refine g_iconst (pc := 18) (v := 1) C dX4_exists_18 (by decide) ?_
      refine g_icmp_ne (pc := 19) (tgt := 26) C dX4_exists_19 rfl ?_ ?_
      · refine g_iconst (pc := 22) (v := 1) C dX4_exists_22 (by decide) ?_
        refine g_goto (pc := 23) (tgt := 27) C dX4_exists_23 rfl ?_
        exact g_zret (pc := 27) C hr dX4_exists_27 rfl
      · refine g_iconst (pc := 26) (v := 0) C dX4_exists_26 (by decide) ?_
        exact g_zret (pc := 27) C hr dX4_exists_27 rfl
theorem dX4_lowestFreePane_0 : decode cX4_lowestFreePane 0 = .ok (.iconst 0, 1) := by decide +kernel
theorem dX4_lowestFreePane_1 : decode cX4_lowestFreePane 1 = .ok (.istore_n 1, 1) := by decide +kernel
theorem dX4_lowestFreePane_2 : decode cX4_lowestFreePane 2 = .ok (.iload_n 1, 1) := by decide +kernel
theorem dX4_lowestFreePane_3 : decode cX4_lowestFreePane 3 = .ok (.bipush 12, 2) := by decide +kernel
theorem dX4_lowestFreePane_5 : decode cX4_lowestFreePane 5 = .ok (.if_icmp .ge 19, 3) := by decide +kernel
theorem dX4_lowestFreePane_8 : decode cX4_lowestFreePane 8 = .ok (.aload_n 0, 1) := by decide +kernel
theorem dX4_lowestFreePane_9 : decode cX4_lowestFreePane 9 = .ok (.iload_n 1, 1) := by decide +kernel
theorem dX4_lowestFreePane_10 : decode cX4_lowestFreePane 10 = .ok (.invokevirtual 40, 3) := by decide +kernel
theorem dX4_lowestFreePane_13 : decode cX4_lowestFreePane 13 = .ok (.ifCond .ne 5, 3) := by decide +kernel
theorem dX4_lowestFreePane_16 : decode cX4_lowestFreePane 16 = .ok (.iload_n 1, 1) := by decide +kernel
theorem dX4_lowestFreePane_17 : decode cX4_lowestFreePane 17 = .ok (.ireturn, 1) := by decide +kernel
theorem dX4_lowestFreePane_18 : decode cX4_lowestFreePane 18 = .ok (.iinc 1 1, 3) := by decide +kernel
theorem dX4_lowestFreePane_21 : decode cX4_lowestFreePane 21 = .ok (.goto (-19), 3) := by decide +kernel
theorem dX4_lowestFreePane_24 : decode cX4_lowestFreePane 24 = .ok (.iconst (-1), 1) := by decide +kernel
theorem dX4_lowestFreePane_25 : decode cX4_lowestFreePane 25 = .ok (.ireturn, 1) := by decide +kernel
abbrev rmX4_lowestFreePane : Room := { frames := 1, cells := 0, slots := 0, locals := 21 }
theorem hdX4_lowestFreePane : yX4_lowestFreePane.cls ≠ "java/lang/invoke/MethodHandle" ∧ yX4_lowestFreePane.cls ≠ "java/lang/invoke/VarHandle" ∧ (parseMethodDescriptor yX4_lowestFreePane.desc).map (fun d => d.parameters.length) = some 0 := by decide +kernel
def fX4_lowestFreePane_2 (σ : Sg) (b : Nat) : Nat → Int32 → Option Int32
  | 0, _ => none
  | n + 1, l1 =>
    if 12 ≤ l1 then
      some (-1)
    else
      (fX4_exists σ b l1).bind fun r1 =>
      if r1 = true then
        ((fX4_lowestFreePane_2 σ b n) (l1 + 1))
      else
        some l1
theorem bX4_lowestFreePane_2 {X : Xc} {K : Kc} (C : MC X K cX4_lowestFreePane 2 RX4 rmX4_lowestFreePane) (hr : K.meth.sig.returnType = (some .int)) (σ : Sg) (b : Nat) (hb : stOK b) : ∀ (n : Nat) (l1 : Int32), GO X K 2 (fun r => MQi X K r σ) (fX4_lowestFreePane_2 σ b n l1) σ 0 0 2 [some (.ref (X.ad b)), some (.int (l1))] [] := by
  intro n
  induction n with
  | zero =>
    intro l1
    exact g_none
  | succ n ih =>
    intro l1
    unfold fX4_lowestFreePane_2
    refine g_iload_n (pc := 2) (i := 1) C dX4_lowestFreePane_2 rfl rfl ?_
    refine g_bipush (pc := 3) (v := 12) C dX4_lowestFreePane_3 (by decide) ?_
    refine g_icmp_ge (pc := 5) (tgt := 24) C dX4_lowestFreePane_5 rfl ?_ ?_
    · refine g_iconst (pc := 24) (v := (-1)) C dX4_lowestFreePane_24 (by decide) ?_
      exact g_iret (pc := 25) C hr dX4_lowestFreePane_25 rfl
    · refine g_aload_n (pc := 8) (i := 0) C dX4_lowestFreePane_8 rfl rfl ?_
      refine g_iload_n (pc := 9) (i := 1) C dX4_lowestFreePane_9 rfl rfl ?_
      refine g_callVi (pc := 10) (As := [.int (l1)]) C (kX4_exists X σ b l1 hb) (blk hb 0 rfl) rfl q_7_16 q_7_17 q_7_18 q_1_15 q_7_19 ⟨rfl, hdX4_exists⟩ ⟨Nat.le_of_ble_eq_true rfl, Nat.le_of_ble_eq_true rfl, rfl, rfl⟩ ⟨Nat.zero_le _, Nat.zero_le _⟩ (Nat.le_of_ble_eq_true rfl) rfl rfl dX4_lowestFreePane_10 (fun r1 _ => ?_)
      refine g_ifb_ne (pc := 13) (tgt := 18) C dX4_lowestFreePane_13 rfl ?_ ?_
      · refine g_iinc (pc := 18) (v := l1 + 1) C dX4_lowestFreePane_18 rfl (rfl) (Nat.le_of_ble_eq_true rfl) rfl ?_
        refine g_goto (pc := 21) (tgt := 2) C dX4_lowestFreePane_21 rfl ?_
        refine g_keep [true, true] ?_
        exact ih (l1 + 1)
      · refine g_iload_n (pc := 16) (i := 1) C dX4_lowestFreePane_16 rfl rfl ?_
        exact g_iret (pc := 17) C hr dX4_lowestFreePane_17 rfl
def fX4_lowestFreePane (σ : Sg) (b : Nat) : Option Int32 :=
  (fX4_lowestFreePane_2 σ b FU 0)
theorem kX4_lowestFreePane (X : Xc) (σ : Sg) (b : Nat) (hb : stOK b) : ∀ r, fX4_lowestFreePane σ b = some r → Met X.l yX4_lowestFreePane (wsM yX4_lowestFreePane cX4_lowestFreePane 2 (some .int)) rmX4_lowestFreePane (va_Pc [.ref (X.ad b)] (PW X σ)) (Qi X r σ) 0 0 X.A := by
  refine mt_of (own := RX4) (lo := [some (.ref (X.ad b)), none]) (by decide) rfl (Nat.le_of_ble_eq_true rfl) rfl (fun K C hr => ?_)
  unfold fX4_lowestFreePane
  refine g_iconst (pc := 0) (v := 0) C dX4_lowestFreePane_0 (by decide) ?_
  refine g_istore_n (pc := 1) (i := 1) C dX4_lowestFreePane_1 rfl (Nat.le_of_ble_eq_true rfl) rfl ?_
  refine g_keep [true, true] ?_
  exact bX4_lowestFreePane_2 C hr σ b hb FU 0
theorem dX4_copyFrom_0 : decode cX4_copyFrom 0 = .ok (.aload_n 0, 1) := by decide +kernel
theorem dX4_copyFrom_1 : decode cX4_copyFrom 1 = .ok (.aload_n 1, 1) := by decide +kernel
theorem dX4_copyFrom_2 : decode cX4_copyFrom 2 = .ok (.getfield 36, 3) := by decide +kernel
theorem dX4_copyFrom_5 : decode cX4_copyFrom 5 = .ok (.putfield 36, 3) := by decide +kernel
theorem dX4_copyFrom_8 : decode cX4_copyFrom 8 = .ok (.aload_n 1, 1) := by decide +kernel
theorem dX4_copyFrom_9 : decode cX4_copyFrom 9 = .ok (.getfield 9, 3) := by decide +kernel
theorem dX4_copyFrom_12 : decode cX4_copyFrom 12 = .ok (.aload_n 0, 1) := by decide +kernel
theorem dX4_copyFrom_13 : decode cX4_copyFrom 13 = .ok (.getfield 9, 3) := by decide +kernel
theorem dX4_copyFrom_16 : decode cX4_copyFrom 16 = .ok (.invokestatic 89, 3) := by decide +kernel
theorem dX4_copyFrom_19 : decode cX4_copyFrom 19 = .ok (.aload_n 1, 1) := by decide +kernel
theorem dX4_copyFrom_20 : decode cX4_copyFrom 20 = .ok (.getfield 15, 3) := by decide +kernel
theorem dX4_copyFrom_23 : decode cX4_copyFrom 23 = .ok (.aload_n 0, 1) := by decide +kernel
theorem dX4_copyFrom_24 : decode cX4_copyFrom 24 = .ok (.getfield 15, 3) := by decide +kernel
theorem dX4_copyFrom_27 : decode cX4_copyFrom 27 = .ok (.invokestatic 89, 3) := by decide +kernel
theorem dX4_copyFrom_30 : decode cX4_copyFrom 30 = .ok (.aload_n 0, 1) := by decide +kernel
theorem dX4_copyFrom_31 : decode cX4_copyFrom 31 = .ok (.getfield 21, 3) := by decide +kernel
theorem dX4_copyFrom_34 : decode cX4_copyFrom 34 = .ok (.aload_n 1, 1) := by decide +kernel
theorem dX4_copyFrom_35 : decode cX4_copyFrom 35 = .ok (.getfield 21, 3) := by decide +kernel
theorem dX4_copyFrom_38 : decode cX4_copyFrom 38 = .ok (.invokevirtual 93, 3) := by decide +kernel
theorem dX4_copyFrom_41 : decode cX4_copyFrom 41 = .ok (.aload_n 0, 1) := by decide +kernel
theorem dX4_copyFrom_42 : decode cX4_copyFrom 42 = .ok (.getfield 28, 3) := by decide +kernel
theorem dX4_copyFrom_45 : decode cX4_copyFrom 45 = .ok (.aload_n 1, 1) := by decide +kernel
theorem dX4_copyFrom_46 : decode cX4_copyFrom 46 = .ok (.getfield 28, 3) := by decide +kernel
theorem dX4_copyFrom_49 : decode cX4_copyFrom 49 = .ok (.invokevirtual 51, 3) := by decide +kernel
theorem dX4_copyFrom_52 : decode cX4_copyFrom 52 = .ok (.iconst 0, 1) := by decide +kernel
theorem dX4_copyFrom_53 : decode cX4_copyFrom 53 = .ok (.istore_n 2, 1) := by decide +kernel
theorem dX4_copyFrom_54 : decode cX4_copyFrom 54 = .ok (.iload_n 2, 1) := by decide +kernel
theorem dX4_copyFrom_55 : decode cX4_copyFrom 55 = .ok (.aload_n 0, 1) := by decide +kernel
theorem dX4_copyFrom_56 : decode cX4_copyFrom 56 = .ok (.getfield 32, 3) := by decide +kernel
theorem dX4_copyFrom_59 : decode cX4_copyFrom 59 = .ok (.arraylength, 1) := by decide +kernel
theorem dX4_copyFrom_60 : decode cX4_copyFrom 60 = .ok (.if_icmp .ge 33, 3) := by decide +kernel
theorem dX4_copyFrom_63 : decode cX4_copyFrom 63 = .ok (.iload_n 2, 1) := by decide +kernel
theorem dX4_copyFrom_64 : decode cX4_copyFrom 64 = .ok (.aload_n 1, 1) := by decide +kernel
theorem dX4_copyFrom_65 : decode cX4_copyFrom 65 = .ok (.getfield 32, 3) := by decide +kernel
theorem dX4_copyFrom_68 : decode cX4_copyFrom 68 = .ok (.arraylength, 1) := by decide +kernel
theorem dX4_copyFrom_69 : decode cX4_copyFrom 69 = .ok (.if_icmp .ge 24, 3) := by decide +kernel
theorem dX4_copyFrom_72 : decode cX4_copyFrom 72 = .ok (.aload_n 0, 1) := by decide +kernel
theorem dX4_copyFrom_73 : decode cX4_copyFrom 73 = .ok (.getfield 32, 3) := by decide +kernel
theorem dX4_copyFrom_76 : decode cX4_copyFrom 76 = .ok (.iload_n 2, 1) := by decide +kernel
theorem dX4_copyFrom_77 : decode cX4_copyFrom 77 = .ok (.aaload, 1) := by decide +kernel
theorem dX4_copyFrom_78 : decode cX4_copyFrom 78 = .ok (.aload_n 1, 1) := by decide +kernel
theorem dX4_copyFrom_79 : decode cX4_copyFrom 79 = .ok (.getfield 32, 3) := by decide +kernel
theorem dX4_copyFrom_82 : decode cX4_copyFrom 82 = .ok (.iload_n 2, 1) := by decide +kernel
theorem dX4_copyFrom_83 : decode cX4_copyFrom 83 = .ok (.aaload, 1) := by decide +kernel
theorem dX4_copyFrom_84 : decode cX4_copyFrom 84 = .ok (.invokevirtual 51, 3) := by decide +kernel
theorem dX4_copyFrom_87 : decode cX4_copyFrom 87 = .ok (.iinc 2 1, 3) := by decide +kernel
theorem dX4_copyFrom_90 : decode cX4_copyFrom 90 = .ok (.goto (-36), 3) := by decide +kernel
theorem dX4_copyFrom_93 : decode cX4_copyFrom 93 = .ok (.aload_n 0, 1) := by decide +kernel
theorem dX4_copyFrom_94 : decode cX4_copyFrom 94 = .ok (.aload_n 1, 1) := by decide +kernel
theorem dX4_copyFrom_95 : decode cX4_copyFrom 95 = .ok (.getfield 48, 3) := by decide +kernel
theorem dX4_copyFrom_98 : decode cX4_copyFrom 98 = .ok (.putfield 48, 3) := by decide +kernel
theorem dX4_copyFrom_101 : decode cX4_copyFrom 101 = .ok (.return_, 1) := by decide +kernel
abbrev rmX4_copyFrom : Room := { frames := 4, cells := 0, slots := 0, locals := 153 }
theorem hdX4_copyFrom : yX4_copyFrom.cls ≠ "java/lang/invoke/MethodHandle" ∧ yX4_copyFrom.cls ≠ "java/lang/invoke/VarHandle" ∧ (parseMethodDescriptor yX4_copyFrom.desc).map (fun d => d.parameters.length) = some 1 := by decide +kernel
def fX4_copyFrom_93 (b : Nat) (c1 : Nat) (σ : Sg) : Option Sg :=
  nm (su σ b 6 (σ.1 c1 6)) fun σ9 =>
  some σ9
theorem bX4_copyFrom_93 {X : Xc} {K : Kc} (C : MC X K cX4_copyFrom 3 RX4 rmX4_copyFrom) (hr : K.meth.sig.returnType = none) (b : Nat) (c1 : Nat) (hb : stOK b) (h1 : stOK c1) (σ : Sg) : GO X K 3 (fun r => MQv X K r) (fX4_copyFrom_93 b c1 σ) σ 0 0 93 [some (.ref (X.ad b)), some (.ref (X.ad c1)), none] [] := by
  unfold fX4_copyFrom_93
  refine g_aload_n (pc := 93) (i := 0) C dX4_copyFrom_93 rfl rfl ?_
  refine g_aload_n (pc := 94) (i := 1) C dX4_copyFrom_94 rfl rfl ?_
  refine g_geti (pc := 95) (ci := 4) (N := 7) (T := TX4) (j := 6) (Cn := RX4) C rfl inlX4 (Nat.le_of_ble_eq_true rfl) q_8_15 (blk h1 0 rfl) rfl dX4_copyFrom_95 ?_
  refine g_puti (pc := 98) (ci := 4) (N := 7) (T := TX4) (j := 6) (Cn := RX4) C rfl inlX4 tyX4_ok nmX4 (Nat.le_of_ble_eq_true rfl) q_8_15 (blk hb 0 rfl) rfl rfl rfl dX4_copyFrom_98 ?_
  refine g_nms (fun σ9 => ?_)
  exact g_vret (pc := 101) C hr dX4_copyFrom_101 rfl
def fX4_copyFrom_54 (b : Nat) (c1 : Nat) : Nat → Sg → Int32 → Option Sg
  | 0, _, _ => none
  | n + 1, σ, l2 =>
    if (nI ([b + 22, b + 38, b + 54]).length) ≤ l2 then
      (fX4_copyFrom_93 b c1 σ)
    else
      if (nI ([c1 + 22, c1 + 38, c1 + 54]).length) ≤ l2 then
        (fX4_copyFrom_93 b c1 σ)
      else
        if ck l2 ([b + 22, b + 38, b + 54]).length then
          if ck l2 ([c1 + 22, c1 + 38, c1 + 54]).length then
            (fX1_copyFrom σ (rget [b + 22, b + 38, b + 54] l2) (rget [c1 + 22, c1 + 38, c1 + 54] l2)).bind fun σ8 =>
            ((fX4_copyFrom_54 b c1 n) σ8 (l2 + 1))
          else none
        else none
theorem bX4_copyFrom_54 {X : Xc} {K : Kc} (C : MC X K cX4_copyFrom 3 RX4 rmX4_copyFrom) (hr : K.meth.sig.returnType = none) (b : Nat) (c1 : Nat) (hb : stOK b) (h1 : stOK c1) : ∀ (n : Nat) (σ : Sg) (l2 : Int32), GO X K 3 (fun r => MQv X K r) (fX4_copyFrom_54 b c1 n σ l2) σ 0 0 54 [some (.ref (X.ad b)), some (.ref (X.ad c1)), some (.int (l2))] [] := by
  intro n
  induction n with
  | zero =>
    intro σ l2
    exact g_none
  | succ n ih =>
    intro σ l2
    unfold fX4_copyFrom_54
    refine g_iload_n (pc := 54) (i := 2) C dX4_copyFrom_54 rfl rfl ?_
    refine g_aload_n (pc := 55) (i := 0) C dX4_copyFrom_55 rfl rfl ?_
    refine g_getr (pc := 56) (ci := 4) (N := 7) (T := TX4) (j := 5) (Cn := RX4) (b + 21) C rfl inlX4 (Nat.le_of_ble_eq_true rfl) q_3_1 (blk hb 0 rfl) rfl dX4_copyFrom_56 ?_
    refine g_palen (pc := 59) C (st_sl hb) dX4_copyFrom_59 ?_
    refine g_icmp_ge (pc := 60) (tgt := 93) C dX4_copyFrom_60 rfl ?_ ?_
    · refine g_keep [true, true, false] ?_
      exact bX4_copyFrom_93 C hr b c1 hb h1 σ
    · refine g_iload_n (pc := 63) (i := 2) C dX4_copyFrom_63 rfl rfl ?_
      refine g_aload_n (pc := 64) (i := 1) C dX4_copyFrom_64 rfl rfl ?_
      refine g_getr (pc := 65) (ci := 4) (N := 7) (T := TX4) (j := 5) (Cn := RX4) (c1 + 21) C rfl inlX4 (Nat.le_of_ble_eq_true rfl) q_3_1 (blk h1 0 rfl) rfl dX4_copyFrom_65 ?_
      refine g_palen (pc := 68) C (st_sl h1) dX4_copyFrom_68 ?_
      refine g_icmp_ge (pc := 69) (tgt := 93) C dX4_copyFrom_69 rfl ?_ ?_
      · refine g_keep [true, true, false] ?_
        exact bX4_copyFrom_93 C hr b c1 hb h1 σ
      · refine g_aload_n (pc := 72) (i := 0) C dX4_copyFrom_72 rfl rfl ?_
        refine g_getr (pc := 73) (ci := 4) (N := 7) (T := TX4) (j := 5) (Cn := RX4) (b + 21) C rfl inlX4 (Nat.le_of_ble_eq_true rfl) q_3_1 (blk hb 0 rfl) rfl dX4_copyFrom_73 ?_
        refine g_iload_n (pc := 76) (i := 2) C dX4_copyFrom_76 rfl rfl ?_
        refine g_paload (pc := 77) C (st_sl hb) dX4_copyFrom_77 (fun hm6 => ?_)
        refine g_aload_n (pc := 78) (i := 1) C dX4_copyFrom_78 rfl rfl ?_
        refine g_getr (pc := 79) (ci := 4) (N := 7) (T := TX4) (j := 5) (Cn := RX4) (c1 + 21) C rfl inlX4 (Nat.le_of_ble_eq_true rfl) q_3_1 (blk h1 0 rfl) rfl dX4_copyFrom_79 ?_
        refine g_iload_n (pc := 82) (i := 2) C dX4_copyFrom_82 rfl rfl ?_
        refine g_paload (pc := 83) C (st_sl h1) dX4_copyFrom_83 (fun hm7 => ?_)
        refine g_callVv (pc := 84) (As := [.ref (X.ad (rget [c1 + 22, c1 + 38, c1 + 54] l2))]) C (kX1_copyFrom X σ (rget [b + 22, b + 38, b + 54] l2) (rget [c1 + 22, c1 + 38, c1 + 54] l2) (slots_ok hb _ hm6) (slots_ok h1 _ hm7)) (blk (slots_ok hb _ hm6) 0 rfl) rfl q_9_7 q_9_8 q_9_9 q_2_23 q_9_10 ⟨rfl, hdX1_copyFrom⟩ ⟨Nat.le_of_ble_eq_true rfl, Nat.le_of_ble_eq_true rfl, rfl, rfl⟩ ⟨Nat.zero_le _, Nat.zero_le _⟩ (Nat.le_of_ble_eq_true rfl) rfl rfl dX4_copyFrom_84 (fun σ8 _ => ?_)
        refine g_iinc (pc := 87) (v := l2 + 1) C dX4_copyFrom_87 rfl (rfl) (Nat.le_of_ble_eq_true rfl) rfl ?_
        refine g_goto (pc := 90) (tgt := 54) C dX4_copyFrom_90 rfl ?_
        refine g_keep [true, true, true] ?_
        exact ih σ8 (l2 + 1)
def fX4_copyFrom (σ : Sg) (b : Nat) (c1 : Nat) : Option Sg :=
  nm (su σ b 0 (σ.1 c1 0)) fun σ1 =>
  (fX8_copyRow σ1 (c1 + 1) 12 (b + 1) 12).bind fun σ2 =>
  (fX8_copyRow σ2 (c1 + 2) 12 (b + 2) 12).bind fun σ3 =>
  (fX0_copyFrom σ3 (b + 3) (c1 + 3)).bind fun σ4 =>
  (fX1_copyFrom σ4 (b + 5) (c1 + 5)).bind fun σ5 =>
  (fX4_copyFrom_54 b c1 FU σ5 0)
theorem kX4_copyFrom (X : Xc) (σ : Sg) (b : Nat) (c1 : Nat) (hb : stOK b) (h1 : stOK c1) : ∀ r, fX4_copyFrom σ b c1 = some r → Met X.l yX4_copyFrom (wsM yX4_copyFrom cX4_copyFrom 3 none) rmX4_copyFrom (va_Pc [.ref (X.ad b), .ref (X.ad c1)] (PW X σ)) (Qv X r) 0 0 X.A := by
  refine mt_of (own := RX4) (lo := [some (.ref (X.ad b)), some (.ref (X.ad c1)), none]) (by decide) rfl (Nat.le_of_ble_eq_true rfl) rfl (fun K C hr => ?_)
  unfold fX4_copyFrom
  refine g_aload_n (pc := 0) (i := 0) C dX4_copyFrom_0 rfl rfl ?_
  refine g_aload_n (pc := 1) (i := 1) C dX4_copyFrom_1 rfl rfl ?_
  refine g_geti (pc := 2) (ci := 4) (N := 7) (T := TX4) (j := 0) (Cn := RX4) C rfl inlX4 (Nat.le_of_ble_eq_true rfl) q_7_20 (blk h1 0 rfl) rfl dX4_copyFrom_2 ?_
  refine g_puti (pc := 5) (ci := 4) (N := 7) (T := TX4) (j := 0) (Cn := RX4) C rfl inlX4 tyX4_ok nmX4 (Nat.le_of_ble_eq_true rfl) q_7_20 (blk hb 0 rfl) rfl rfl rfl dX4_copyFrom_5 ?_
  refine g_nms (fun σ1 => ?_)
  refine g_aload_n (pc := 8) (i := 1) C dX4_copyFrom_8 rfl rfl ?_
  refine g_getr (pc := 9) (ci := 4) (N := 7) (T := TX4) (j := 1) (Cn := RX4) (c1 + 1) C rfl inlX4 (Nat.le_of_ble_eq_true rfl) q_2_15 (blk h1 0 rfl) rfl dX4_copyFrom_9 ?_
  refine g_aload_n (pc := 12) (i := 0) C dX4_copyFrom_12 rfl rfl ?_
  refine g_getr (pc := 13) (ci := 4) (N := 7) (T := TX4) (j := 1) (Cn := RX4) (b + 1) C rfl inlX4 (Nat.le_of_ble_eq_true rfl) q_2_15 (blk hb 0 rfl) rfl dX4_copyFrom_13 ?_
  refine g_callNv (pc := 16) (As := [.ref (X.ad (c1 + 1)), .ref (X.ad (b + 1))]) C (kX8_copyRow X σ1 (c1 + 1) 12 (b + 1) 12 (blk h1 1 rfl) (blk hb 1 rfl)) (List.mem_of_getElem? (i := 14) rfl) q_8_16 q_1_2 q_8_17 hdX8_copyRow ⟨Nat.le_of_ble_eq_true rfl, Nat.le_of_ble_eq_true rfl, rfl, rfl⟩ ⟨Nat.zero_le _, Nat.zero_le _⟩ (Nat.le_of_ble_eq_true rfl) rfl rfl dX4_copyFrom_16 (fun σ2 _ => ?_)
  refine g_aload_n (pc := 19) (i := 1) C dX4_copyFrom_19 rfl rfl ?_
  refine g_getr (pc := 20) (ci := 4) (N := 7) (T := TX4) (j := 2) (Cn := RX4) (c1 + 2) C rfl inlX4 (Nat.le_of_ble_eq_true rfl) q_2_16 (blk h1 0 rfl) rfl dX4_copyFrom_20 ?_
  refine g_aload_n (pc := 23) (i := 0) C dX4_copyFrom_23 rfl rfl ?_
  refine g_getr (pc := 24) (ci := 4) (N := 7) (T := TX4) (j := 2) (Cn := RX4) (b + 2) C rfl inlX4 (Nat.le_of_ble_eq_true rfl) q_2_16 (blk hb 0 rfl) rfl dX4_copyFrom_24 ?_
  refine g_callNv (pc := 27) (As := [.ref (X.ad (c1 + 2)), .ref (X.ad (b + 2))]) C (kX8_copyRow X σ2 (c1 + 2) 12 (b + 2) 12 (blk h1 2 rfl) (blk hb 2 rfl)) (List.mem_of_getElem? (i := 14) rfl) q_8_16 q_1_2 q_8_17 hdX8_copyRow ⟨Nat.le_of_ble_eq_true rfl, Nat.le_of_ble_eq_true rfl, rfl, rfl⟩ ⟨Nat.zero_le _, Nat.zero_le _⟩ (Nat.le_of_ble_eq_true rfl) rfl rfl dX4_copyFrom_27 (fun σ3 _ => ?_)
  refine g_aload_n (pc := 30) (i := 0) C dX4_copyFrom_30 rfl rfl ?_
  refine g_getr (pc := 31) (ci := 4) (N := 7) (T := TX4) (j := 3) (Cn := RX4) (b + 3) C rfl inlX4 (Nat.le_of_ble_eq_true rfl) q_2_20 (blk hb 0 rfl) rfl dX4_copyFrom_31 ?_
  refine g_aload_n (pc := 34) (i := 1) C dX4_copyFrom_34 rfl rfl ?_
  refine g_getr (pc := 35) (ci := 4) (N := 7) (T := TX4) (j := 3) (Cn := RX4) (c1 + 3) C rfl inlX4 (Nat.le_of_ble_eq_true rfl) q_2_20 (blk h1 0 rfl) rfl dX4_copyFrom_35 ?_
  refine g_callVv (pc := 38) (As := [.ref (X.ad (c1 + 3))]) C (kX0_copyFrom X σ3 (b + 3) (c1 + 3) (st_or hb) (st_or h1)) (blk (st_or hb) 0 rfl) rfl q_9_2 q_9_3 q_9_4 q_2_19 q_9_5 ⟨rfl, hdX0_copyFrom⟩ ⟨Nat.le_of_ble_eq_true rfl, Nat.le_of_ble_eq_true rfl, rfl, rfl⟩ ⟨Nat.zero_le _, Nat.zero_le _⟩ (Nat.le_of_ble_eq_true rfl) rfl rfl dX4_copyFrom_38 (fun σ4 _ => ?_)
  refine g_aload_n (pc := 41) (i := 0) C dX4_copyFrom_41 rfl rfl ?_
  refine g_getr (pc := 42) (ci := 4) (N := 7) (T := TX4) (j := 4) (Cn := RX4) (b + 5) C rfl inlX4 (Nat.le_of_ble_eq_true rfl) q_3_0 (blk hb 0 rfl) rfl dX4_copyFrom_42 ?_
  refine g_aload_n (pc := 45) (i := 1) C dX4_copyFrom_45 rfl rfl ?_
  refine g_getr (pc := 46) (ci := 4) (N := 7) (T := TX4) (j := 4) (Cn := RX4) (c1 + 5) C rfl inlX4 (Nat.le_of_ble_eq_true rfl) q_3_0 (blk h1 0 rfl) rfl dX4_copyFrom_46 ?_
  refine g_callVv (pc := 49) (As := [.ref (X.ad (c1 + 5))]) C (kX1_copyFrom X σ4 (b + 5) (c1 + 5) (st_pl hb) (st_pl h1)) (blk (st_pl hb) 0 rfl) rfl q_9_7 q_9_8 q_9_9 q_2_23 q_9_10 ⟨rfl, hdX1_copyFrom⟩ ⟨Nat.le_of_ble_eq_true rfl, Nat.le_of_ble_eq_true rfl, rfl, rfl⟩ ⟨Nat.zero_le _, Nat.zero_le _⟩ (Nat.le_of_ble_eq_true rfl) rfl rfl dX4_copyFrom_49 (fun σ5 _ => ?_)
  refine g_iconst (pc := 52) (v := 0) C dX4_copyFrom_52 (by decide) ?_
  refine g_istore_n (pc := 53) (i := 2) C dX4_copyFrom_53 rfl (Nat.le_of_ble_eq_true rfl) rfl ?_
  refine g_keep [true, true, true] ?_
  exact bX4_copyFrom_54 C hr b c1 hb h1 FU σ5 0
theorem dX4_addPane_0 : decode cX4_addPane 0 = .ok (.aload_n 0, 1) := by decide +kernel
theorem dX4_addPane_1 : decode cX4_addPane 1 = .ok (.dup, 1) := by decide +kernel
theorem dX4_addPane_2 : decode cX4_addPane 2 = .ok (.getfield 36, 3) := by decide +kernel
theorem dX4_addPane_5 : decode cX4_addPane 5 = .ok (.iconst 1, 1) := by decide +kernel
theorem dX4_addPane_6 : decode cX4_addPane 6 = .ok (.iload_n 1, 1) := by decide +kernel
theorem dX4_addPane_7 : decode cX4_addPane 7 = .ok (.ishl, 1) := by decide +kernel
theorem dX4_addPane_8 : decode cX4_addPane 8 = .ok (.ior, 1) := by decide +kernel
theorem dX4_addPane_9 : decode cX4_addPane 9 = .ok (.putfield 36, 3) := by decide +kernel
theorem dX4_addPane_12 : decode cX4_addPane 12 = .ok (.return_, 1) := by decide +kernel
abbrev rmX4_addPane : Room := { frames := 0, cells := 0, slots := 0, locals := 0 }
theorem hdX4_addPane : yX4_addPane.cls ≠ "java/lang/invoke/MethodHandle" ∧ yX4_addPane.cls ≠ "java/lang/invoke/VarHandle" ∧ (parseMethodDescriptor yX4_addPane.desc).map (fun d => d.parameters.length) = some 1 := by decide +kernel
def fX4_addPane (σ : Sg) (b : Nat) (p1 : Int32) : Option Sg :=
  nm (su σ b 0 ((σ.1 b 0) ||| (1 <<< (p1 &&& 31)))) fun σ1 =>
  some σ1
theorem kX4_addPane (X : Xc) (σ : Sg) (b : Nat) (p1 : Int32) (hb : stOK b) : ∀ r, fX4_addPane σ b p1 = some r → Met X.l yX4_addPane (wsM yX4_addPane cX4_addPane 2 none) rmX4_addPane (va_Pc [.ref (X.ad b), .int p1] (PW X σ)) (Qv X r) 0 0 X.A := by
  refine mt_of (own := RX4) (lo := [some (.ref (X.ad b)), some (.int (p1))]) (by decide) rfl (Nat.le_of_ble_eq_true rfl) rfl (fun K C hr => ?_)
  unfold fX4_addPane
  refine g_aload_n (pc := 0) (i := 0) C dX4_addPane_0 rfl rfl ?_
  refine g_dup (pc := 1) C dX4_addPane_1 rfl ?_
  refine g_geti (pc := 2) (ci := 4) (N := 7) (T := TX4) (j := 0) (Cn := RX4) C rfl inlX4 (Nat.le_of_ble_eq_true rfl) q_7_20 (blk hb 0 rfl) rfl dX4_addPane_2 ?_
  refine g_iconst (pc := 5) (v := 1) C dX4_addPane_5 (by decide) ?_
  refine g_iload_n (pc := 6) (i := 1) C dX4_addPane_6 rfl rfl ?_
  refine g_ishl (pc := 7) C dX4_addPane_7 ?_
  refine g_ior (pc := 8) C dX4_addPane_8 ?_
  refine g_puti (pc := 9) (ci := 4) (N := 7) (T := TX4) (j := 0) (Cn := RX4) C rfl inlX4 tyX4_ok nmX4 (Nat.le_of_ble_eq_true rfl) q_7_20 (blk hb 0 rfl) rfl rfl rfl dX4_addPane_9 ?_
  refine g_nms (fun σ1 => ?_)
  exact g_vret (pc := 12) C hr dX4_addPane_12 rfl
theorem dX4_setMinimums_0 : decode cX4_setMinimums 0 = .ok (.aload_n 0, 1) := by decide +kernel
theorem dX4_setMinimums_1 : decode cX4_setMinimums 1 = .ok (.getfield 9, 3) := by decide +kernel
theorem dX4_setMinimums_4 : decode cX4_setMinimums 4 = .ok (.iload_n 1, 1) := by decide +kernel
theorem dX4_setMinimums_5 : decode cX4_setMinimums 5 = .ok (.iload_n 2, 1) := by decide +kernel
theorem dX4_setMinimums_6 : decode cX4_setMinimums 6 = .ok (.invokestatic 44, 3) := by decide +kernel
theorem dX4_setMinimums_9 : decode cX4_setMinimums 9 = .ok (.aload_n 0, 1) := by decide +kernel
theorem dX4_setMinimums_10 : decode cX4_setMinimums 10 = .ok (.getfield 15, 3) := by decide +kernel
theorem dX4_setMinimums_13 : decode cX4_setMinimums 13 = .ok (.iload_n 1, 1) := by decide +kernel
theorem dX4_setMinimums_14 : decode cX4_setMinimums 14 = .ok (.iload_n 3, 1) := by decide +kernel
theorem dX4_setMinimums_15 : decode cX4_setMinimums 15 = .ok (.invokestatic 44, 3) := by decide +kernel
theorem dX4_setMinimums_18 : decode cX4_setMinimums 18 = .ok (.return_, 1) := by decide +kernel
abbrev rmX4_setMinimums : Room := { frames := 1, cells := 0, slots := 0, locals := 22 }
theorem hdX4_setMinimums : yX4_setMinimums.cls ≠ "java/lang/invoke/MethodHandle" ∧ yX4_setMinimums.cls ≠ "java/lang/invoke/VarHandle" ∧ (parseMethodDescriptor yX4_setMinimums.desc).map (fun d => d.parameters.length) = some 3 := by decide +kernel
def fX4_setMinimums (σ : Sg) (b : Nat) (p1 : Int32) (p2 : Int32) (p3 : Int32) : Option Sg :=
  (fX8_put σ (b + 1) 12 p1 p2).bind fun σ1 =>
  (fX8_put σ1 (b + 2) 12 p1 p3).bind fun σ2 =>
  some σ2
theorem kX4_setMinimums (X : Xc) (σ : Sg) (b : Nat) (p1 : Int32) (p2 : Int32) (p3 : Int32) (hb : stOK b) : ∀ r, fX4_setMinimums σ b p1 p2 p3 = some r → Met X.l yX4_setMinimums (wsM yX4_setMinimums cX4_setMinimums 4 none) rmX4_setMinimums (va_Pc [.ref (X.ad b), .int p1, .int p2, .int p3] (PW X σ)) (Qv X r) 0 0 X.A := by
  refine mt_of (own := RX4) (lo := [some (.ref (X.ad b)), some (.int (p1)), some (.int (p2)), some (.int (p3))]) (by decide) rfl (Nat.le_of_ble_eq_true rfl) rfl (fun K C hr => ?_)
  unfold fX4_setMinimums
  refine g_aload_n (pc := 0) (i := 0) C dX4_setMinimums_0 rfl rfl ?_
  refine g_getr (pc := 1) (ci := 4) (N := 7) (T := TX4) (j := 1) (Cn := RX4) (b + 1) C rfl inlX4 (Nat.le_of_ble_eq_true rfl) q_2_15 (blk hb 0 rfl) rfl dX4_setMinimums_1 ?_
  refine g_iload_n (pc := 4) (i := 1) C dX4_setMinimums_4 rfl rfl ?_
  refine g_iload_n (pc := 5) (i := 2) C dX4_setMinimums_5 rfl rfl ?_
  refine g_callNv (pc := 6) (As := [.ref (X.ad (b + 1)), .int (p1), .int (p2)]) C (kX8_put X σ (b + 1) 12 p1 p2 (blk hb 1 rfl)) (List.mem_of_getElem? (i := 12) rfl) q_9_20 q_1_2 q_9_21 hdX8_put ⟨Nat.le_of_ble_eq_true rfl, Nat.le_of_ble_eq_true rfl, rfl, rfl⟩ ⟨Nat.zero_le _, Nat.zero_le _⟩ (Nat.le_of_ble_eq_true rfl) rfl rfl dX4_setMinimums_6 (fun σ1 _ => ?_)
  refine g_aload_n (pc := 9) (i := 0) C dX4_setMinimums_9 rfl rfl ?_
  refine g_getr (pc := 10) (ci := 4) (N := 7) (T := TX4) (j := 2) (Cn := RX4) (b + 2) C rfl inlX4 (Nat.le_of_ble_eq_true rfl) q_2_16 (blk hb 0 rfl) rfl dX4_setMinimums_10 ?_
  refine g_iload_n (pc := 13) (i := 1) C dX4_setMinimums_13 rfl rfl ?_
  refine g_iload_n (pc := 14) (i := 3) C dX4_setMinimums_14 rfl rfl ?_
  refine g_callNv (pc := 15) (As := [.ref (X.ad (b + 2)), .int (p1), .int (p3)]) C (kX8_put X σ1 (b + 2) 12 p1 p3 (blk hb 2 rfl)) (List.mem_of_getElem? (i := 12) rfl) q_9_20 q_1_2 q_9_21 hdX8_put ⟨Nat.le_of_ble_eq_true rfl, Nat.le_of_ble_eq_true rfl, rfl, rfl⟩ ⟨Nat.zero_le _, Nat.zero_le _⟩ (Nat.le_of_ble_eq_true rfl) rfl rfl dX4_setMinimums_15 (fun σ2 _ => ?_)
  exact g_vret (pc := 18) C hr dX4_setMinimums_18 rfl
theorem dX4_dropPane_0 : decode cX4_dropPane 0 = .ok (.aload_n 0, 1) := by decide +kernel
theorem dX4_dropPane_1 : decode cX4_dropPane 1 = .ok (.dup, 1) := by decide +kernel
theorem dX4_dropPane_2 : decode cX4_dropPane 2 = .ok (.getfield 36, 3) := by decide +kernel
theorem dX4_dropPane_5 : decode cX4_dropPane 5 = .ok (.iconst 1, 1) := by decide +kernel
theorem dX4_dropPane_6 : decode cX4_dropPane 6 = .ok (.iload_n 1, 1) := by decide +kernel
theorem dX4_dropPane_7 : decode cX4_dropPane 7 = .ok (.ishl, 1) := by decide +kernel
theorem dX4_dropPane_8 : decode cX4_dropPane 8 = .ok (.iconst (-1), 1) := by decide +kernel
theorem dX4_dropPane_9 : decode cX4_dropPane 9 = .ok (.ixor, 1) := by decide +kernel
theorem dX4_dropPane_10 : decode cX4_dropPane 10 = .ok (.iand, 1) := by decide +kernel
theorem dX4_dropPane_11 : decode cX4_dropPane 11 = .ok (.putfield 36, 3) := by decide +kernel
theorem dX4_dropPane_14 : decode cX4_dropPane 14 = .ok (.return_, 1) := by decide +kernel
abbrev rmX4_dropPane : Room := { frames := 0, cells := 0, slots := 0, locals := 0 }
theorem hdX4_dropPane : yX4_dropPane.cls ≠ "java/lang/invoke/MethodHandle" ∧ yX4_dropPane.cls ≠ "java/lang/invoke/VarHandle" ∧ (parseMethodDescriptor yX4_dropPane.desc).map (fun d => d.parameters.length) = some 1 := by decide +kernel
def fX4_dropPane (σ : Sg) (b : Nat) (p1 : Int32) : Option Sg :=
  nm (su σ b 0 ((σ.1 b 0) &&& ((1 <<< (p1 &&& 31)) ^^^ (-1)))) fun σ1 =>
  some σ1
theorem kX4_dropPane (X : Xc) (σ : Sg) (b : Nat) (p1 : Int32) (hb : stOK b) : ∀ r, fX4_dropPane σ b p1 = some r → Met X.l yX4_dropPane (wsM yX4_dropPane cX4_dropPane 2 none) rmX4_dropPane (va_Pc [.ref (X.ad b), .int p1] (PW X σ)) (Qv X r) 0 0 X.A := by
  refine mt_of (own := RX4) (lo := [some (.ref (X.ad b)), some (.int (p1))]) (by decide) rfl (Nat.le_of_ble_eq_true rfl) rfl (fun K C hr => ?_)
  unfold fX4_dropPane
  refine g_aload_n (pc := 0) (i := 0) C dX4_dropPane_0 rfl rfl ?_
  refine g_dup (pc := 1) C dX4_dropPane_1 rfl ?_
  refine g_geti (pc := 2) (ci := 4) (N := 7) (T := TX4) (j := 0) (Cn := RX4) C rfl inlX4 (Nat.le_of_ble_eq_true rfl) q_7_20 (blk hb 0 rfl) rfl dX4_dropPane_2 ?_
  refine g_iconst (pc := 5) (v := 1) C dX4_dropPane_5 (by decide) ?_
  refine g_iload_n (pc := 6) (i := 1) C dX4_dropPane_6 rfl rfl ?_
  refine g_ishl (pc := 7) C dX4_dropPane_7 ?_
  refine g_iconst (pc := 8) (v := (-1)) C dX4_dropPane_8 (by decide) ?_
  refine g_ixor (pc := 9) C dX4_dropPane_9 ?_
  refine g_iand (pc := 10) C dX4_dropPane_10 ?_
  refine g_puti (pc := 11) (ci := 4) (N := 7) (T := TX4) (j := 0) (Cn := RX4) C rfl inlX4 tyX4_ok nmX4 (Nat.le_of_ble_eq_true rfl) q_7_20 (blk hb 0 rfl) rfl rfl rfl dX4_dropPane_11 ?_
  refine g_nms (fun σ1 => ?_)
  exact g_vret (pc := 14) C hr dX4_dropPane_14 rfl
theorem dX3_begin_0 : decode cX3_begin 0 = .ok (.aload_n 0, 1) := by decide +kernel
theorem dX3_begin_1 : decode cX3_begin 1 = .ok (.iconst 0, 1) := by decide +kernel
theorem dX3_begin_2 : decode cX3_begin 2 = .ok (.putfield 27, 3) := by decide +kernel
theorem dX3_begin_5 : decode cX3_begin 5 = .ok (.return_, 1) := by decide +kernel
abbrev rmX3_begin : Room := { frames := 0, cells := 0, slots := 0, locals := 0 }
theorem hdX3_begin : yX3_begin.cls ≠ "java/lang/invoke/MethodHandle" ∧ yX3_begin.cls ≠ "java/lang/invoke/VarHandle" ∧ (parseMethodDescriptor yX3_begin.desc).map (fun d => d.parameters.length) = some 0 := by decide +kernel
def fX3_begin (σ : Sg) (b : Nat) : Option Sg :=
  nm (su σ b 5 0) fun σ1 =>
  some σ1
theorem kX3_begin (X : Xc) (σ : Sg) (b : Nat) (hb : shOK b) : ∀ r, fX3_begin σ b = some r → Met X.l yX3_begin (wsM yX3_begin cX3_begin 1 none) rmX3_begin (va_Pc [.ref (X.ad b)] (PW X σ)) (Qv X r) 0 0 X.A := by
  refine mt_of (own := RX3) (lo := [some (.ref (X.ad b))]) (by decide) rfl (Nat.le_of_ble_eq_true rfl) rfl (fun K C hr => ?_)
  unfold fX3_begin
  refine g_aload_n (pc := 0) (i := 0) C dX3_begin_0 rfl rfl ?_
  refine g_iconst (pc := 1) (v := 0) C dX3_begin_1 (by decide) ?_
  refine g_puti (pc := 2) (ci := 3) (N := 6) (T := TX3) (j := 5) (Cn := RX3) C rfl inlX3 tyX3_ok nmX3 (Nat.le_of_ble_eq_true rfl) q_17_10 (blk hb 0 rfl) rfl rfl rfl dX3_begin_2 ?_
  refine g_nms (fun σ1 => ?_)
  exact g_vret (pc := 5) C hr dX3_begin_5 rfl
theorem dX3_add_0 : decode cX3_add 0 = .ok (.aload_n 0, 1) := by decide +kernel
theorem dX3_add_1 : decode cX3_add 1 = .ok (.getfield 27, 3) := by decide +kernel
theorem dX3_add_4 : decode cX3_add 4 = .ok (.aload_n 0, 1) := by decide +kernel
theorem dX3_add_5 : decode cX3_add 5 = .ok (.getfield 9, 3) := by decide +kernel
theorem dX3_add_8 : decode cX3_add 8 = .ok (.arraylength, 1) := by decide +kernel
theorem dX3_add_9 : decode cX3_add 9 = .ok (.if_icmp .ge 37, 3) := by decide +kernel
theorem dX3_add_12 : decode cX3_add 12 = .ok (.aload_n 0, 1) := by decide +kernel
theorem dX3_add_13 : decode cX3_add 13 = .ok (.getfield 9, 3) := by decide +kernel
theorem dX3_add_16 : decode cX3_add 16 = .ok (.aload_n 0, 1) := by decide +kernel
theorem dX3_add_17 : decode cX3_add 17 = .ok (.getfield 27, 3) := by decide +kernel
theorem dX3_add_20 : decode cX3_add 20 = .ok (.iload_n 1, 1) := by decide +kernel
theorem dX3_add_21 : decode cX3_add 21 = .ok (.invokestatic 31, 3) := by decide +kernel
theorem dX3_add_24 : decode cX3_add 24 = .ok (.aload_n 0, 1) := by decide +kernel
theorem dX3_add_25 : decode cX3_add 25 = .ok (.getfield 15, 3) := by decide +kernel
theorem dX3_add_28 : decode cX3_add 28 = .ok (.aload_n 0, 1) := by decide +kernel
theorem dX3_add_29 : decode cX3_add 29 = .ok (.getfield 27, 3) := by decide +kernel
theorem dX3_add_32 : decode cX3_add 32 = .ok (.iload_n 2, 1) := by decide +kernel
theorem dX3_add_33 : decode cX3_add 33 = .ok (.invokestatic 31, 3) := by decide +kernel
theorem dX3_add_36 : decode cX3_add 36 = .ok (.aload_n 0, 1) := by decide +kernel
theorem dX3_add_37 : decode cX3_add 37 = .ok (.dup, 1) := by decide +kernel
theorem dX3_add_38 : decode cX3_add 38 = .ok (.getfield 27, 3) := by decide +kernel
theorem dX3_add_41 : decode cX3_add 41 = .ok (.iconst 1, 1) := by decide +kernel
theorem dX3_add_42 : decode cX3_add 42 = .ok (.iadd, 1) := by decide +kernel
theorem dX3_add_43 : decode cX3_add 43 = .ok (.putfield 27, 3) := by decide +kernel
theorem dX3_add_46 : decode cX3_add 46 = .ok (.return_, 1) := by decide +kernel
abbrev rmX3_add : Room := { frames := 1, cells := 0, slots := 0, locals := 22 }
theorem hdX3_add : yX3_add.cls ≠ "java/lang/invoke/MethodHandle" ∧ yX3_add.cls ≠ "java/lang/invoke/VarHandle" ∧ (parseMethodDescriptor yX3_add.desc).map (fun d => d.parameters.length) = some 2 := by decide +kernel
def fX3_add (σ : Sg) (b : Nat) (p1 : Int32) (p2 : Int32) : Option Sg :=
  if (nI 23) ≤ (σ.1 b 5) then
    some σ
  else
    (fX8_put σ (b + 1) 23 (σ.1 b 5) p1).bind fun σ1 =>
    (fX8_put σ1 (b + 2) 23 (σ1.1 b 5) p2).bind fun σ2 =>
    nm (su σ2 b 5 ((σ2.1 b 5) + 1)) fun σ3 =>
    some σ3
theorem kX3_add (X : Xc) (σ : Sg) (b : Nat) (p1 : Int32) (p2 : Int32) (hb : shOK b) : ∀ r, fX3_add σ b p1 p2 = some r → Met X.l yX3_add (wsM yX3_add cX3_add 3 none) rmX3_add (va_Pc [.ref (X.ad b), .int p1, .int p2] (PW X σ)) (Qv X r) 0 0 X.A := by
  refine mt_of (own := RX3) (lo := [some (.ref (X.ad b)), some (.int (p1)), some (.int (p2))]) (by decide) rfl (Nat.le_of_ble_eq_true rfl) rfl (fun K C hr => ?_)
  unfold fX3_add
  refine g_aload_n (pc := 0) (i := 0) C dX3_add_0 rfl rfl ?_
  refine g_geti (pc := 1) (ci := 3) (N := 6) (T := TX3) (j := 5) (Cn := RX3) C rfl inlX3 (Nat.le_of_ble_eq_true rfl) q_17_10 (blk hb 0 rfl) rfl dX3_add_1 ?_
  refine g_aload_n (pc := 4) (i := 0) C dX3_add_4 rfl rfl ?_
  refine g_getr (pc := 5) (ci := 3) (N := 6) (T := TX3) (j := 0) (Cn := RX3) (b + 1) C rfl inlX3 (Nat.le_of_ble_eq_true rfl) q_5_0 (blk hb 0 rfl) rfl dX3_add_5 ?_
  refine g_ialen (pc := 8) C (blk hb 1 rfl) dX3_add_8 ?_
  refine g_icmp_ge (pc := 9) (tgt := 46) C dX3_add_9 rfl ?_ ?_
  · exact g_vret (pc := 46) C hr dX3_add_46 rfl
  · refine g_aload_n (pc := 12) (i := 0) C dX3_add_12 rfl rfl ?_
    refine g_getr (pc := 13) (ci := 3) (N := 6) (T := TX3) (j := 0) (Cn := RX3) (b + 1) C rfl inlX3 (Nat.le_of_ble_eq_true rfl) q_5_0 (blk hb 0 rfl) rfl dX3_add_13 ?_
    refine g_aload_n (pc := 16) (i := 0) C dX3_add_16 rfl rfl ?_
    refine g_geti (pc := 17) (ci := 3) (N := 6) (T := TX3) (j := 5) (Cn := RX3) C rfl inlX3 (Nat.le_of_ble_eq_true rfl) q_17_10 (blk hb 0 rfl) rfl dX3_add_17 ?_
    refine g_iload_n (pc := 20) (i := 1) C dX3_add_20 rfl rfl ?_
    refine g_callNv (pc := 21) (As := [.ref (X.ad (b + 1)), .int (σ.1 b 5), .int (p1)]) C (kX8_put X σ (b + 1) 23 (σ.1 b 5) p1 (blk hb 1 rfl)) (List.mem_of_getElem? (i := 10) rfl) q_9_20 q_1_2 q_9_21 hdX8_put ⟨Nat.le_of_ble_eq_true rfl, Nat.le_of_ble_eq_true rfl, rfl, rfl⟩ ⟨Nat.zero_le _, Nat.zero_le _⟩ (Nat.le_of_ble_eq_true rfl) rfl rfl dX3_add_21 (fun σ1 _ => ?_)
    refine g_aload_n (pc := 24) (i := 0) C dX3_add_24 rfl rfl ?_
    refine g_getr (pc := 25) (ci := 3) (N := 6) (T := TX3) (j := 1) (Cn := RX3) (b + 2) C rfl inlX3 (Nat.le_of_ble_eq_true rfl) q_5_1 (blk hb 0 rfl) rfl dX3_add_25 ?_
    refine g_aload_n (pc := 28) (i := 0) C dX3_add_28 rfl rfl ?_
    refine g_geti (pc := 29) (ci := 3) (N := 6) (T := TX3) (j := 5) (Cn := RX3) C rfl inlX3 (Nat.le_of_ble_eq_true rfl) q_17_10 (blk hb 0 rfl) rfl dX3_add_29 ?_
    refine g_iload_n (pc := 32) (i := 2) C dX3_add_32 rfl rfl ?_
    refine g_callNv (pc := 33) (As := [.ref (X.ad (b + 2)), .int (σ1.1 b 5), .int (p2)]) C (kX8_put X σ1 (b + 2) 23 (σ1.1 b 5) p2 (blk hb 2 rfl)) (List.mem_of_getElem? (i := 10) rfl) q_9_20 q_1_2 q_9_21 hdX8_put ⟨Nat.le_of_ble_eq_true rfl, Nat.le_of_ble_eq_true rfl, rfl, rfl⟩ ⟨Nat.zero_le _, Nat.zero_le _⟩ (Nat.le_of_ble_eq_true rfl) rfl rfl dX3_add_33 (fun σ2 _ => ?_)
    refine g_aload_n (pc := 36) (i := 0) C dX3_add_36 rfl rfl ?_
    refine g_dup (pc := 37) C dX3_add_37 rfl ?_
    refine g_geti (pc := 38) (ci := 3) (N := 6) (T := TX3) (j := 5) (Cn := RX3) C rfl inlX3 (Nat.le_of_ble_eq_true rfl) q_17_10 (blk hb 0 rfl) rfl dX3_add_38 ?_
    refine g_iconst (pc := 41) (v := 1) C dX3_add_41 (by decide) ?_
    refine g_iadd (pc := 42) C dX3_add_42 ?_
    refine g_puti (pc := 43) (ci := 3) (N := 6) (T := TX3) (j := 5) (Cn := RX3) C rfl inlX3 tyX3_ok nmX3 (Nat.le_of_ble_eq_true rfl) q_17_10 (blk hb 0 rfl) rfl rfl rfl dX3_add_43 ?_
    refine g_nms (fun σ3 => ?_)
    exact g_vret (pc := 46) C hr dX3_add_46 rfl
theorem dX3_giveMinimums_0 : decode cX3_giveMinimums 0 = .ok (.iload_n 1, 1) := by decide +kernel
theorem dX3_giveMinimums_1 : decode cX3_giveMinimums 1 = .ok (.istore_n 2, 1) := by decide +kernel
theorem dX3_giveMinimums_2 : decode cX3_giveMinimums 2 = .ok (.iconst 0, 1) := by decide +kernel
theorem dX3_giveMinimums_3 : decode cX3_giveMinimums 3 = .ok (.istore_n 3, 1) := by decide +kernel
theorem dX3_giveMinimums_4 : decode cX3_giveMinimums 4 = .ok (.iload_n 3, 1) := by decide +kernel
theorem dX3_giveMinimums_5 : decode cX3_giveMinimums 5 = .ok (.aload_n 0, 1) := by decide +kernel
theorem dX3_giveMinimums_6 : decode cX3_giveMinimums 6 = .ok (.getfield 27, 3) := by decide +kernel
theorem dX3_giveMinimums_9 : decode cX3_giveMinimums 9 = .ok (.if_icmp .ge 38, 3) := by decide +kernel
theorem dX3_giveMinimums_12 : decode cX3_giveMinimums 12 = .ok (.aload_n 0, 1) := by decide +kernel
theorem dX3_giveMinimums_13 : decode cX3_giveMinimums 13 = .ok (.getfield 9, 3) := by decide +kernel
theorem dX3_giveMinimums_16 : decode cX3_giveMinimums 16 = .ok (.iload_n 3, 1) := by decide +kernel
theorem dX3_giveMinimums_17 : decode cX3_giveMinimums 17 = .ok (.invokestatic 35, 3) := by decide +kernel
theorem dX3_giveMinimums_20 : decode cX3_giveMinimums 20 = .ok (.iload_n 2, 1) := by decide +kernel
theorem dX3_giveMinimums_21 : decode cX3_giveMinimums 21 = .ok (.invokestatic 46, 3) := by decide +kernel
theorem dX3_giveMinimums_24 : decode cX3_giveMinimums 24 = .ok (.istore 4, 2) := by decide +kernel
theorem dX3_giveMinimums_26 : decode cX3_giveMinimums 26 = .ok (.aload_n 0, 1) := by decide +kernel
theorem dX3_giveMinimums_27 : decode cX3_giveMinimums 27 = .ok (.getfield 18, 3) := by decide +kernel
theorem dX3_giveMinimums_30 : decode cX3_giveMinimums 30 = .ok (.iload_n 3, 1) := by decide +kernel
theorem dX3_giveMinimums_31 : decode cX3_giveMinimums 31 = .ok (.iload 4, 2) := by decide +kernel
theorem dX3_giveMinimums_33 : decode cX3_giveMinimums 33 = .ok (.invokestatic 31, 3) := by decide +kernel
theorem dX3_giveMinimums_36 : decode cX3_giveMinimums 36 = .ok (.iload_n 2, 1) := by decide +kernel
theorem dX3_giveMinimums_37 : decode cX3_giveMinimums 37 = .ok (.iload 4, 2) := by decide +kernel
theorem dX3_giveMinimums_39 : decode cX3_giveMinimums 39 = .ok (.isub, 1) := by decide +kernel
theorem dX3_giveMinimums_40 : decode cX3_giveMinimums 40 = .ok (.istore_n 2, 1) := by decide +kernel
theorem dX3_giveMinimums_41 : decode cX3_giveMinimums 41 = .ok (.iinc 3 1, 3) := by decide +kernel
theorem dX3_giveMinimums_44 : decode cX3_giveMinimums 44 = .ok (.goto (-40), 3) := by decide +kernel
theorem dX3_giveMinimums_47 : decode cX3_giveMinimums 47 = .ok (.return_, 1) := by decide +kernel
abbrev rmX3_giveMinimums : Room := { frames := 1, cells := 0, slots := 0, locals := 90 }
theorem hdX3_giveMinimums : yX3_giveMinimums.cls ≠ "java/lang/invoke/MethodHandle" ∧ yX3_giveMinimums.cls ≠ "java/lang/invoke/VarHandle" ∧ (parseMethodDescriptor yX3_giveMinimums.desc).map (fun d => d.parameters.length) = some 1 := by decide +kernel
def fX3_giveMinimums_4 (b : Nat) : Nat → Sg → Int32 → Int32 → Option Sg
  | 0, _, _, _ => none
  | n + 1, σ, l2, l3 =>
    if (σ.1 b 5) ≤ l3 then
      some σ
    else
      (fX8_at σ (b + 1) 23 l3).bind fun r1 =>
      nm (if l2 < r1 then l2 else r1) fun v2 =>
      (fX8_put σ (b + 3) 23 l3 v2).bind fun σ3 =>
      nm (l2 - v2) fun v4 =>
      ((fX3_giveMinimums_4 b n) σ3 v4 (l3 + 1))
theorem bX3_giveMinimums_4 {X : Xc} {K : Kc} (C : MC X K cX3_giveMinimums 5 RX3 rmX3_giveMinimums) (hr : K.meth.sig.returnType = none) (b : Nat) (hb : shOK b) : ∀ (n : Nat) (σ : Sg) (l2 : Int32) (l3 : Int32), GO X K 5 (fun r => MQv X K r) (fX3_giveMinimums_4 b n σ l2 l3) σ 0 0 4 [some (.ref (X.ad b)), none, some (.int (l2)), some (.int (l3)), none] [] := by
  intro n
  induction n with
  | zero =>
    intro σ l2 l3
    exact g_none
  | succ n ih =>
    intro σ l2 l3
    unfold fX3_giveMinimums_4
    refine g_iload_n (pc := 4) (i := 3) C dX3_giveMinimums_4 rfl rfl ?_
    refine g_aload_n (pc := 5) (i := 0) C dX3_giveMinimums_5 rfl rfl ?_
    refine g_geti (pc := 6) (ci := 3) (N := 6) (T := TX3) (j := 5) (Cn := RX3) C rfl inlX3 (Nat.le_of_ble_eq_true rfl) q_17_10 (blk hb 0 rfl) rfl dX3_giveMinimums_6 ?_
    refine g_icmp_ge (pc := 9) (tgt := 47) C dX3_giveMinimums_9 rfl ?_ ?_
    · exact g_vret (pc := 47) C hr dX3_giveMinimums_47 rfl
    · refine g_aload_n (pc := 12) (i := 0) C dX3_giveMinimums_12 rfl rfl ?_
      refine g_getr (pc := 13) (ci := 3) (N := 6) (T := TX3) (j := 0) (Cn := RX3) (b + 1) C rfl inlX3 (Nat.le_of_ble_eq_true rfl) q_5_0 (blk hb 0 rfl) rfl dX3_giveMinimums_13 ?_
      refine g_iload_n (pc := 16) (i := 3) C dX3_giveMinimums_16 rfl rfl ?_
      refine g_callNi (pc := 17) (As := [.ref (X.ad (b + 1)), .int (l3)]) C (kX8_at X σ (b + 1) 23 l3 (blk hb 1 rfl)) (List.mem_of_getElem? (i := 11) rfl) q_11_22 q_1_2 q_11_23 hdX8_at ⟨Nat.le_of_ble_eq_true rfl, Nat.le_of_ble_eq_true rfl, rfl, rfl⟩ ⟨Nat.zero_le _, Nat.zero_le _⟩ (Nat.le_of_ble_eq_true rfl) rfl rfl dX3_giveMinimums_17 (fun r1 _ => ?_)
      refine g_iload_n (pc := 20) (i := 2) C dX3_giveMinimums_20 rfl rfl ?_
      refine g_mmin (pc := 21) C q_18_11 q_8_19 q_8_20 q_8_21 ⟨Nat.le_of_ble_eq_true rfl, Nat.le_of_ble_eq_true rfl⟩ ⟨Nat.le_of_ble_eq_true rfl, Nat.le_of_ble_eq_true rfl⟩ dX3_giveMinimums_21 ?_
      refine g_nm (fun v2 => ?_)
      refine g_istore (pc := 24) C dX3_giveMinimums_24 (Nat.le_of_ble_eq_true rfl) rfl ?_
      refine g_aload_n (pc := 26) (i := 0) C dX3_giveMinimums_26 rfl rfl ?_
      refine g_getr (pc := 27) (ci := 3) (N := 6) (T := TX3) (j := 2) (Cn := RX3) (b + 3) C rfl inlX3 (Nat.le_of_ble_eq_true rfl) q_5_2 (blk hb 0 rfl) rfl dX3_giveMinimums_27 ?_
      refine g_iload_n (pc := 30) (i := 3) C dX3_giveMinimums_30 rfl rfl ?_
      refine g_iload (pc := 31) C dX3_giveMinimums_31 rfl ?_
      refine g_callNv (pc := 33) (As := [.ref (X.ad (b + 3)), .int (l3), .int (v2)]) C (kX8_put X σ (b + 3) 23 l3 v2 (blk hb 3 rfl)) (List.mem_of_getElem? (i := 10) rfl) q_9_20 q_1_2 q_9_21 hdX8_put ⟨Nat.le_of_ble_eq_true rfl, Nat.le_of_ble_eq_true rfl, rfl, rfl⟩ ⟨Nat.zero_le _, Nat.zero_le _⟩ (Nat.le_of_ble_eq_true rfl) rfl rfl dX3_giveMinimums_33 (fun σ3 _ => ?_)
      refine g_iload_n (pc := 36) (i := 2) C dX3_giveMinimums_36 rfl rfl ?_
      refine g_iload (pc := 37) C dX3_giveMinimums_37 rfl ?_
      refine g_isub (pc := 39) C dX3_giveMinimums_39 ?_
      refine g_nm (fun v4 => ?_)
      refine g_istore_n (pc := 40) (i := 2) C dX3_giveMinimums_40 rfl (Nat.le_of_ble_eq_true rfl) rfl ?_
      refine g_iinc (pc := 41) (v := l3 + 1) C dX3_giveMinimums_41 rfl (rfl) (Nat.le_of_ble_eq_true rfl) rfl ?_
      refine g_goto (pc := 44) (tgt := 4) C dX3_giveMinimums_44 rfl ?_
      refine g_keep [true, false, true, true, false] ?_
      exact ih σ3 v4 (l3 + 1)
def fX3_giveMinimums (σ : Sg) (b : Nat) (p1 : Int32) : Option Sg :=
  (fX3_giveMinimums_4 b FU σ p1 0)
theorem kX3_giveMinimums (X : Xc) (σ : Sg) (b : Nat) (p1 : Int32) (hb : shOK b) : ∀ r, fX3_giveMinimums σ b p1 = some r → Met X.l yX3_giveMinimums (wsM yX3_giveMinimums cX3_giveMinimums 5 none) rmX3_giveMinimums (va_Pc [.ref (X.ad b), .int p1] (PW X σ)) (Qv X r) 0 0 X.A := by
  refine mt_of (own := RX3) (lo := [some (.ref (X.ad b)), some (.int (p1)), none, none, none]) (by decide) rfl (Nat.le_of_ble_eq_true rfl) rfl (fun K C hr => ?_)
  unfold fX3_giveMinimums
  refine g_iload_n (pc := 0) (i := 1) C dX3_giveMinimums_0 rfl rfl ?_
  refine g_istore_n (pc := 1) (i := 2) C dX3_giveMinimums_1 rfl (Nat.le_of_ble_eq_true rfl) rfl ?_
  refine g_iconst (pc := 2) (v := 0) C dX3_giveMinimums_2 (by decide) ?_
  refine g_istore_n (pc := 3) (i := 3) C dX3_giveMinimums_3 rfl (Nat.le_of_ble_eq_true rfl) rfl ?_
  refine g_keep [true, false, true, true, false] ?_
  exact bX3_giveMinimums_4 C hr b hb FU σ p1 0
theorem dX3_closeSmallShares_0 : decode cX3_closeSmallShares 0 = .ok (.iload_n 1, 1) := by decide +kernel
theorem dX3_closeSmallShares_1 : decode cX3_closeSmallShares 1 = .ok (.i2l, 1) := by decide +kernel
theorem dX3_closeSmallShares_2 : decode cX3_closeSmallShares 2 = .ok (.lstore_n 2, 1) := by decide +kernel
theorem dX3_closeSmallShares_3 : decode cX3_closeSmallShares 3 = .ok (.lconst 0, 1) := by decide +kernel
theorem dX3_closeSmallShares_4 : decode cX3_closeSmallShares 4 = .ok (.lstore 4, 2) := by decide +kernel
theorem dX3_closeSmallShares_6 : decode cX3_closeSmallShares 6 = .ok (.iconst 0, 1) := by decide +kernel
theorem dX3_closeSmallShares_7 : decode cX3_closeSmallShares 7 = .ok (.istore 6, 2) := by decide +kernel
theorem dX3_closeSmallShares_9 : decode cX3_closeSmallShares 9 = .ok (.iload 6, 2) := by decide +kernel
theorem dX3_closeSmallShares_11 : decode cX3_closeSmallShares 11 = .ok (.aload_n 0, 1) := by decide +kernel
theorem dX3_closeSmallShares_12 : decode cX3_closeSmallShares 12 = .ok (.getfield 27, 3) := by decide +kernel
theorem dX3_closeSmallShares_15 : decode cX3_closeSmallShares 15 = .ok (.if_icmp .ge 71, 3) := by decide +kernel
theorem dX3_closeSmallShares_18 : decode cX3_closeSmallShares 18 = .ok (.lload_n 2, 1) := by decide +kernel
theorem dX3_closeSmallShares_19 : decode cX3_closeSmallShares 19 = .ok (.aload_n 0, 1) := by decide +kernel
theorem dX3_closeSmallShares_20 : decode cX3_closeSmallShares 20 = .ok (.getfield 21, 3) := by decide +kernel
theorem dX3_closeSmallShares_23 : decode cX3_closeSmallShares 23 = .ok (.iload 6, 2) := by decide +kernel
theorem dX3_closeSmallShares_25 : decode cX3_closeSmallShares 25 = .ok (.invokestatic 35, 3) := by decide +kernel
theorem dX3_closeSmallShares_28 : decode cX3_closeSmallShares 28 = .ok (.iconst 1, 1) := by decide +kernel
theorem dX3_closeSmallShares_29 : decode cX3_closeSmallShares 29 = .ok (.if_icmp .ne 7, 3) := by decide +kernel
theorem dX3_closeSmallShares_32 : decode cX3_closeSmallShares 32 = .ok (.lconst 0, 1) := by decide +kernel
theorem dX3_closeSmallShares_33 : decode cX3_closeSmallShares 33 = .ok (.goto 13, 3) := by decide +kernel
theorem dX3_closeSmallShares_36 : decode cX3_closeSmallShares 36 = .ok (.aload_n 0, 1) := by decide +kernel
theorem dX3_closeSmallShares_37 : decode cX3_closeSmallShares 37 = .ok (.getfield 9, 3) := by decide +kernel
theorem dX3_closeSmallShares_40 : decode cX3_closeSmallShares 40 = .ok (.iload 6, 2) := by decide +kernel
theorem dX3_closeSmallShares_42 : decode cX3_closeSmallShares 42 = .ok (.invokestatic 35, 3) := by decide +kernel
theorem dX3_closeSmallShares_45 : decode cX3_closeSmallShares 45 = .ok (.i2l, 1) := by decide +kernel
theorem dX3_closeSmallShares_46 : decode cX3_closeSmallShares 46 = .ok (.lsub, 1) := by decide +kernel
theorem dX3_closeSmallShares_47 : decode cX3_closeSmallShares 47 = .ok (.lstore_n 2, 1) := by decide +kernel
theorem dX3_closeSmallShares_48 : decode cX3_closeSmallShares 48 = .ok (.lload 4, 2) := by decide +kernel
theorem dX3_closeSmallShares_50 : decode cX3_closeSmallShares 50 = .ok (.aload_n 0, 1) := by decide +kernel
theorem dX3_closeSmallShares_51 : decode cX3_closeSmallShares 51 = .ok (.getfield 21, 3) := by decide +kernel
theorem dX3_closeSmallShares_54 : decode cX3_closeSmallShares 54 = .ok (.iload 6, 2) := by decide +kernel
theorem dX3_closeSmallShares_56 : decode cX3_closeSmallShares 56 = .ok (.invokestatic 35, 3) := by decide +kernel
theorem dX3_closeSmallShares_59 : decode cX3_closeSmallShares 59 = .ok (.iconst 1, 1) := by decide +kernel
theorem dX3_closeSmallShares_60 : decode cX3_closeSmallShares 60 = .ok (.if_icmp .ne 16, 3) := by decide +kernel
theorem dX3_closeSmallShares_63 : decode cX3_closeSmallShares 63 = .ok (.aload_n 0, 1) := by decide +kernel
theorem dX3_closeSmallShares_64 : decode cX3_closeSmallShares 64 = .ok (.getfield 15, 3) := by decide +kernel
theorem dX3_closeSmallShares_67 : decode cX3_closeSmallShares 67 = .ok (.iload 6, 2) := by decide +kernel
theorem dX3_closeSmallShares_69 : decode cX3_closeSmallShares 69 = .ok (.invokestatic 35, 3) := by decide +kernel
theorem dX3_closeSmallShares_72 : decode cX3_closeSmallShares 72 = .ok (.i2l, 1) := by decide +kernel
theorem dX3_closeSmallShares_73 : decode cX3_closeSmallShares 73 = .ok (.goto 4, 3) := by decide +kernel
theorem dX3_closeSmallShares_76 : decode cX3_closeSmallShares 76 = .ok (.lconst 0, 1) := by decide +kernel
theorem dX3_closeSmallShares_77 : decode cX3_closeSmallShares 77 = .ok (.ladd, 1) := by decide +kernel
theorem dX3_closeSmallShares_78 : decode cX3_closeSmallShares 78 = .ok (.lstore 4, 2) := by decide +kernel
theorem dX3_closeSmallShares_80 : decode cX3_closeSmallShares 80 = .ok (.iinc 6 1, 3) := by decide +kernel
theorem dX3_closeSmallShares_83 : decode cX3_closeSmallShares 83 = .ok (.goto (-74), 3) := by decide +kernel
theorem dX3_closeSmallShares_86 : decode cX3_closeSmallShares 86 = .ok (.iconst 0, 1) := by decide +kernel
theorem dX3_closeSmallShares_87 : decode cX3_closeSmallShares 87 = .ok (.istore 6, 2) := by decide +kernel
theorem dX3_closeSmallShares_89 : decode cX3_closeSmallShares 89 = .ok (.iconst 0, 1) := by decide +kernel
theorem dX3_closeSmallShares_90 : decode cX3_closeSmallShares 90 = .ok (.istore 7, 2) := by decide +kernel
theorem dX3_closeSmallShares_92 : decode cX3_closeSmallShares 92 = .ok (.iload 7, 2) := by decide +kernel
theorem dX3_closeSmallShares_94 : decode cX3_closeSmallShares 94 = .ok (.aload_n 0, 1) := by decide +kernel
theorem dX3_closeSmallShares_95 : decode cX3_closeSmallShares 95 = .ok (.getfield 27, 3) := by decide +kernel
theorem dX3_closeSmallShares_98 : decode cX3_closeSmallShares 98 = .ok (.if_icmp .ge 125, 3) := by decide +kernel
theorem dX3_closeSmallShares_101 : decode cX3_closeSmallShares 101 = .ok (.lload 4, 2) := by decide +kernel
theorem dX3_closeSmallShares_103 : decode cX3_closeSmallShares 103 = .ok (.lconst 0, 1) := by decide +kernel
theorem dX3_closeSmallShares_104 : decode cX3_closeSmallShares 104 = .ok (.lcmp, 1) := by decide +kernel
theorem dX3_closeSmallShares_105 : decode cX3_closeSmallShares 105 = .ok (.ifCond .le 118, 3) := by decide +kernel
theorem dX3_closeSmallShares_108 : decode cX3_closeSmallShares 108 = .ok (.aload_n 0, 1) := by decide +kernel
theorem dX3_closeSmallShares_109 : decode cX3_closeSmallShares 109 = .ok (.getfield 21, 3) := by decide +kernel
theorem dX3_closeSmallShares_112 : decode cX3_closeSmallShares 112 = .ok (.iload 7, 2) := by decide +kernel
theorem dX3_closeSmallShares_114 : decode cX3_closeSmallShares 114 = .ok (.invokestatic 35, 3) := by decide +kernel
theorem dX3_closeSmallShares_117 : decode cX3_closeSmallShares 117 = .ok (.iconst 1, 1) := by decide +kernel
theorem dX3_closeSmallShares_118 : decode cX3_closeSmallShares 118 = .ok (.if_icmp .ne 99, 3) := by decide +kernel
theorem dX3_closeSmallShares_121 : decode cX3_closeSmallShares 121 = .ok (.lload_n 2, 1) := by decide +kernel
theorem dX3_closeSmallShares_122 : decode cX3_closeSmallShares 122 = .ok (.aload_n 0, 1) := by decide +kernel
theorem dX3_closeSmallShares_123 : decode cX3_closeSmallShares 123 = .ok (.getfield 15, 3) := by decide +kernel
theorem dX3_closeSmallShares_126 : decode cX3_closeSmallShares 126 = .ok (.iload 7, 2) := by decide +kernel
theorem dX3_closeSmallShares_128 : decode cX3_closeSmallShares 128 = .ok (.invokestatic 35, 3) := by decide +kernel
theorem dX3_closeSmallShares_131 : decode cX3_closeSmallShares 131 = .ok (.i2l, 1) := by decide +kernel
theorem dX3_closeSmallShares_132 : decode cX3_closeSmallShares 132 = .ok (.lmul, 1) := by decide +kernel
theorem dX3_closeSmallShares_133 : decode cX3_closeSmallShares 133 = .ok (.lstore 8, 2) := by decide +kernel
theorem dX3_closeSmallShares_135 : decode cX3_closeSmallShares 135 = .ok (.aload_n 0, 1) := by decide +kernel
theorem dX3_closeSmallShares_136 : decode cX3_closeSmallShares 136 = .ok (.getfield 18, 3) := by decide +kernel
theorem dX3_closeSmallShares_139 : decode cX3_closeSmallShares 139 = .ok (.iload 7, 2) := by decide +kernel
theorem dX3_closeSmallShares_141 : decode cX3_closeSmallShares 141 = .ok (.lload 8, 2) := by decide +kernel
theorem dX3_closeSmallShares_143 : decode cX3_closeSmallShares 143 = .ok (.lload 4, 2) := by decide +kernel
theorem dX3_closeSmallShares_145 : decode cX3_closeSmallShares 145 = .ok (.ldiv, 1) := by decide +kernel
theorem dX3_closeSmallShares_146 : decode cX3_closeSmallShares 146 = .ok (.l2i, 1) := by decide +kernel
theorem dX3_closeSmallShares_147 : decode cX3_closeSmallShares 147 = .ok (.invokestatic 31, 3) := by decide +kernel
theorem dX3_closeSmallShares_150 : decode cX3_closeSmallShares 150 = .ok (.aload_n 0, 1) := by decide +kernel
theorem dX3_closeSmallShares_151 : decode cX3_closeSmallShares 151 = .ok (.getfield 24, 3) := by decide +kernel
theorem dX3_closeSmallShares_154 : decode cX3_closeSmallShares 154 = .ok (.iload 7, 2) := by decide +kernel
theorem dX3_closeSmallShares_156 : decode cX3_closeSmallShares 156 = .ok (.lload 8, 2) := by decide +kernel
theorem dX3_closeSmallShares_158 : decode cX3_closeSmallShares 158 = .ok (.lload 4, 2) := by decide +kernel
theorem dX3_closeSmallShares_160 : decode cX3_closeSmallShares 160 = .ok (.lrem, 1) := by decide +kernel
theorem dX3_closeSmallShares_161 : decode cX3_closeSmallShares 161 = .ok (.l2i, 1) := by decide +kernel
theorem dX3_closeSmallShares_162 : decode cX3_closeSmallShares 162 = .ok (.invokestatic 31, 3) := by decide +kernel
theorem dX3_closeSmallShares_165 : decode cX3_closeSmallShares 165 = .ok (.aload_n 0, 1) := by decide +kernel
theorem dX3_closeSmallShares_166 : decode cX3_closeSmallShares 166 = .ok (.getfield 18, 3) := by decide +kernel
theorem dX3_closeSmallShares_169 : decode cX3_closeSmallShares 169 = .ok (.iload 7, 2) := by decide +kernel
theorem dX3_closeSmallShares_171 : decode cX3_closeSmallShares 171 = .ok (.invokestatic 35, 3) := by decide +kernel
theorem dX3_closeSmallShares_174 : decode cX3_closeSmallShares 174 = .ok (.aload_n 0, 1) := by decide +kernel
theorem dX3_closeSmallShares_175 : decode cX3_closeSmallShares 175 = .ok (.getfield 9, 3) := by decide +kernel
theorem dX3_closeSmallShares_178 : decode cX3_closeSmallShares 178 = .ok (.iload 7, 2) := by decide +kernel
theorem dX3_closeSmallShares_180 : decode cX3_closeSmallShares 180 = .ok (.invokestatic 35, 3) := by decide +kernel
theorem dX3_closeSmallShares_183 : decode cX3_closeSmallShares 183 = .ok (.if_icmp .ge 34, 3) := by decide +kernel
theorem dX3_closeSmallShares_186 : decode cX3_closeSmallShares 186 = .ok (.aload_n 0, 1) := by decide +kernel
theorem dX3_closeSmallShares_187 : decode cX3_closeSmallShares 187 = .ok (.getfield 18, 3) := by decide +kernel
theorem dX3_closeSmallShares_190 : decode cX3_closeSmallShares 190 = .ok (.iload 7, 2) := by decide +kernel
theorem dX3_closeSmallShares_192 : decode cX3_closeSmallShares 192 = .ok (.aload_n 0, 1) := by decide +kernel
theorem dX3_closeSmallShares_193 : decode cX3_closeSmallShares 193 = .ok (.getfield 9, 3) := by decide +kernel
theorem dX3_closeSmallShares_196 : decode cX3_closeSmallShares 196 = .ok (.iload 7, 2) := by decide +kernel
theorem dX3_closeSmallShares_198 : decode cX3_closeSmallShares 198 = .ok (.invokestatic 35, 3) := by decide +kernel
theorem dX3_closeSmallShares_201 : decode cX3_closeSmallShares 201 = .ok (.invokestatic 31, 3) := by decide +kernel
theorem dX3_closeSmallShares_204 : decode cX3_closeSmallShares 204 = .ok (.aload_n 0, 1) := by decide +kernel
theorem dX3_closeSmallShares_205 : decode cX3_closeSmallShares 205 = .ok (.getfield 21, 3) := by decide +kernel
theorem dX3_closeSmallShares_208 : decode cX3_closeSmallShares 208 = .ok (.iload 7, 2) := by decide +kernel
theorem dX3_closeSmallShares_210 : decode cX3_closeSmallShares 210 = .ok (.iconst 0, 1) := by decide +kernel
theorem dX3_closeSmallShares_211 : decode cX3_closeSmallShares 211 = .ok (.invokestatic 31, 3) := by decide +kernel
theorem dX3_closeSmallShares_214 : decode cX3_closeSmallShares 214 = .ok (.iconst 1, 1) := by decide +kernel
theorem dX3_closeSmallShares_215 : decode cX3_closeSmallShares 215 = .ok (.istore 6, 2) := by decide +kernel
theorem dX3_closeSmallShares_217 : decode cX3_closeSmallShares 217 = .ok (.iinc 7 1, 3) := by decide +kernel
theorem dX3_closeSmallShares_220 : decode cX3_closeSmallShares 220 = .ok (.goto (-128), 3) := by decide +kernel
theorem dX3_closeSmallShares_223 : decode cX3_closeSmallShares 223 = .ok (.iload 6, 2) := by decide +kernel
theorem dX3_closeSmallShares_225 : decode cX3_closeSmallShares 225 = .ok (.ireturn, 1) := by decide +kernel
abbrev rmX3_closeSmallShares : Room := { frames := 1, cells := 0, slots := 0, locals := 22 }
theorem hdX3_closeSmallShares : yX3_closeSmallShares.cls ≠ "java/lang/invoke/MethodHandle" ∧ yX3_closeSmallShares.cls ≠ "java/lang/invoke/VarHandle" ∧ (parseMethodDescriptor yX3_closeSmallShares.desc).map (fun d => d.parameters.length) = some 1 := by decide +kernel
def fX3_closeSmallShares_217 (b : Nat) (k92 : Sg → Int64 → Int64 → Int32 → Int32 → Option (Bool × Sg)) (σ : Sg) (l2 : Int64) (l4 : Int64) (l6 : Int32) (l7 : Int32) : Option (Bool × Sg) :=
  (k92 σ l2 l4 l6 (l7 + 1))
theorem bX3_closeSmallShares_217 {X : Xc} {K : Kc} (C : MC X K cX3_closeSmallShares 10 RX3 rmX3_closeSmallShares) (hr : K.meth.sig.returnType = (some .boolean)) (b : Nat) (hb : shOK b){k92 : Sg → Int64 → Int64 → Int32 → Int32 → Option (Bool × Sg)} (hk92 : ∀ (σ : Sg) (l2 : Int64) (l4 : Int64) (l6 : Int32) (l7 : Int32), GO X K 10 (fun r => MQi X K (b2i r.1) r.2) (k92 σ l2 l4 l6 l7) σ 0 0 92 [some (.ref (X.ad b)), none, some (.long (l2)), none, some (.long (l4)), none, some (.int (l6)), some (.int (l7)), none, none] []) (σ : Sg) (l2 : Int64) (l4 : Int64) (l6 : Int32) (l7 : Int32) : GO X K 10 (fun r => MQi X K (b2i r.1) r.2) (fX3_closeSmallShares_217 b k92 σ l2 l4 l6 l7) σ 0 0 217 [some (.ref (X.ad b)), none, some (.long (l2)), none, some (.long (l4)), none, some (.int (l6)), some (.int (l7)), none, none] [] := by
  unfold fX3_closeSmallShares_217
  refine g_iinc (pc := 217) (v := l7 + 1) C dX3_closeSmallShares_217 rfl (rfl) (Nat.le_of_ble_eq_true rfl) rfl ?_
  refine g_goto (pc := 220) (tgt := 92) C dX3_closeSmallShares_220 rfl ?_
  refine g_keep [true, false, true, false, true, false, true, true, false, false] ?_
  exact hk92 σ l2 l4 l6 (l7 + 1)
def fX3_closeSmallShares_92 (b : Nat) : Nat → Sg → Int64 → Int64 → Int32 → Int32 → Option (Bool × Sg)
  | 0, _, _, _, _, _ => none
  | n + 1, σ, l2, l4, l6, l7 =>
    if (σ.1 b 5) ≤ l7 then
      if l6 = 0 then some (false, σ) else if l6 = 1 then some (true, σ) else none
    else
      if (lg_cmp l4 (0 : Int64)) ≤ 0 then
        if l6 = 0 then some (false, σ) else if l6 = 1 then some (true, σ) else none
      else
        (fX8_at σ (b + 4) 23 l7).bind fun r4 =>
        if r4 = 1 then
          (fX8_at σ (b + 2) 23 l7).bind fun r5 =>
          nm (l2 * r5.toInt64) fun v6 =>
          if l4 = 0 then none else
          (fX8_put σ (b + 3) 23 l7 ((v6 / l4).toInt32)).bind fun σ7 =>
          if l4 = 0 then none else
          (fX8_put σ7 (b + 5) 23 l7 ((v6 - v6 / l4 * l4).toInt32)).bind fun σ8 =>
          (fX8_at σ8 (b + 3) 23 l7).bind fun r9 =>
          (fX8_at σ8 (b + 1) 23 l7).bind fun r10 =>
          if r10 ≤ r9 then
            (fX3_closeSmallShares_217 b (fX3_closeSmallShares_92 b n) σ8 l2 l4 l6 l7)
          else
            (fX8_at σ8 (b + 1) 23 l7).bind fun r11 =>
            (fX8_put σ8 (b + 3) 23 l7 r11).bind fun σ12 =>
            (fX8_put σ12 (b + 4) 23 l7 0).bind fun σ13 =>
            (fX3_closeSmallShares_217 b (fX3_closeSmallShares_92 b n) σ13 l2 l4 1 l7)
        else
          (fX3_closeSmallShares_217 b (fX3_closeSmallShares_92 b n) σ l2 l4 l6 l7)
theorem bX3_closeSmallShares_92 {X : Xc} {K : Kc} (C : MC X K cX3_closeSmallShares 10 RX3 rmX3_closeSmallShares) (hr : K.meth.sig.returnType = (some .boolean)) (b : Nat) (hb : shOK b) : ∀ (n : Nat) (σ : Sg) (l2 : Int64) (l4 : Int64) (l6 : Int32) (l7 : Int32), GO X K 10 (fun r => MQi X K (b2i r.1) r.2) (fX3_closeSmallShares_92 b n σ l2 l4 l6 l7) σ 0 0 92 [some (.ref (X.ad b)), none, some (.long (l2)), none, some (.long (l4)), none, some (.int (l6)), some (.int (l7)), none, none] [] := by
  intro n
  induction n with
  | zero =>
    intro σ l2 l4 l6 l7
    exact g_none
  | succ n ih =>
    intro σ l2 l4 l6 l7
    unfold fX3_closeSmallShares_92
    refine g_iload (pc := 92) C dX3_closeSmallShares_92 rfl ?_
    refine g_aload_n (pc := 94) (i := 0) C dX3_closeSmallShares_94 rfl rfl ?_
    refine g_geti (pc := 95) (ci := 3) (N := 6) (T := TX3) (j := 5) (Cn := RX3) C rfl inlX3 (Nat.le_of_ble_eq_true rfl) q_17_10 (blk hb 0 rfl) rfl dX3_closeSmallShares_95 ?_
    refine g_icmp_ge (pc := 98) (tgt := 223) C dX3_closeSmallShares_98 rfl ?_ ?_
    · refine g_iload (pc := 223) C dX3_closeSmallShares_223 rfl ?_
      exact g_zretv (pc := 225) C hr dX3_closeSmallShares_225 rfl rfl rfl rfl
    · refine g_lload (pc := 101) C dX3_closeSmallShares_101 rfl ?_
      refine g_lconst (pc := 103) (v := 0) C dX3_closeSmallShares_103 (by decide) ?_
      refine g_lcmp (pc := 104) C dX3_closeSmallShares_104 ?_
      refine g_if_le (pc := 105) (tgt := 223) C dX3_closeSmallShares_105 rfl ?_ ?_
      · refine g_iload (pc := 223) C dX3_closeSmallShares_223 rfl ?_
        exact g_zretv (pc := 225) C hr dX3_closeSmallShares_225 rfl rfl rfl rfl
      · refine g_aload_n (pc := 108) (i := 0) C dX3_closeSmallShares_108 rfl rfl ?_
        refine g_getr (pc := 109) (ci := 3) (N := 6) (T := TX3) (j := 3) (Cn := RX3) (b + 4) C rfl inlX3 (Nat.le_of_ble_eq_true rfl) q_5_3 (blk hb 0 rfl) rfl dX3_closeSmallShares_109 ?_
        refine g_iload (pc := 112) C dX3_closeSmallShares_112 rfl ?_
        refine g_callNi (pc := 114) (As := [.ref (X.ad (b + 4)), .int (l7)]) C (kX8_at X σ (b + 4) 23 l7 (blk hb 4 rfl)) (List.mem_of_getElem? (i := 11) rfl) q_11_22 q_1_2 q_11_23 hdX8_at ⟨Nat.le_of_ble_eq_true rfl, Nat.le_of_ble_eq_true rfl, rfl, rfl⟩ ⟨Nat.zero_le _, Nat.zero_le _⟩ (Nat.le_of_ble_eq_true rfl) rfl rfl dX3_closeSmallShares_114 (fun r4 _ => ?_)
        refine g_iconst (pc := 117) (v := 1) C dX3_closeSmallShares_117 (by decide) ?_
        refine g_icmp_ne (pc := 118) (tgt := 217) C dX3_closeSmallShares_118 rfl ?_ ?_
        · refine g_lload_n (pc := 121) (i := 2) C dX3_closeSmallShares_121 rfl rfl ?_
          refine g_aload_n (pc := 122) (i := 0) C dX3_closeSmallShares_122 rfl rfl ?_
          refine g_getr (pc := 123) (ci := 3) (N := 6) (T := TX3) (j := 1) (Cn := RX3) (b + 2) C rfl inlX3 (Nat.le_of_ble_eq_true rfl) q_5_1 (blk hb 0 rfl) rfl dX3_closeSmallShares_123 ?_
          refine g_iload (pc := 126) C dX3_closeSmallShares_126 rfl ?_
          refine g_callNi (pc := 128) (As := [.ref (X.ad (b + 2)), .int (l7)]) C (kX8_at X σ (b + 2) 23 l7 (blk hb 2 rfl)) (List.mem_of_getElem? (i := 11) rfl) q_11_22 q_1_2 q_11_23 hdX8_at ⟨Nat.le_of_ble_eq_true rfl, Nat.le_of_ble_eq_true rfl, rfl, rfl⟩ ⟨Nat.zero_le _, Nat.zero_le _⟩ (Nat.le_of_ble_eq_true rfl) rfl rfl dX3_closeSmallShares_128 (fun r5 _ => ?_)
          refine g_i2l (pc := 131) C dX3_closeSmallShares_131 ?_
          refine g_lmul (pc := 132) C dX3_closeSmallShares_132 ?_
          refine g_nml (fun v6 => ?_)
          refine g_lstore (pc := 133) C dX3_closeSmallShares_133 (Nat.le_of_ble_eq_true rfl) rfl ?_
          refine g_aload_n (pc := 135) (i := 0) C dX3_closeSmallShares_135 rfl rfl ?_
          refine g_getr (pc := 136) (ci := 3) (N := 6) (T := TX3) (j := 2) (Cn := RX3) (b + 3) C rfl inlX3 (Nat.le_of_ble_eq_true rfl) q_5_2 (blk hb 0 rfl) rfl dX3_closeSmallShares_136 ?_
          refine g_iload (pc := 139) C dX3_closeSmallShares_139 rfl ?_
          refine g_lload (pc := 141) C dX3_closeSmallShares_141 rfl ?_
          refine g_lload (pc := 143) C dX3_closeSmallShares_143 rfl ?_
          refine g_ldiv (pc := 145) C dX3_closeSmallShares_145 ?_
          refine g_l2i (pc := 146) C dX3_closeSmallShares_146 ?_
          refine g_callNv (pc := 147) (As := [.ref (X.ad (b + 3)), .int (l7), .int ((v6 / l4).toInt32)]) C (kX8_put X σ (b + 3) 23 l7 ((v6 / l4).toInt32) (blk hb 3 rfl)) (List.mem_of_getElem? (i := 10) rfl) q_9_20 q_1_2 q_9_21 hdX8_put ⟨Nat.le_of_ble_eq_true rfl, Nat.le_of_ble_eq_true rfl, rfl, rfl⟩ ⟨Nat.zero_le _, Nat.zero_le _⟩ (Nat.le_of_ble_eq_true rfl) rfl rfl dX3_closeSmallShares_147 (fun σ7 _ => ?_)
          refine g_aload_n (pc := 150) (i := 0) C dX3_closeSmallShares_150 rfl rfl ?_
          refine g_getr (pc := 151) (ci := 3) (N := 6) (T := TX3) (j := 4) (Cn := RX3) (b + 5) C rfl inlX3 (Nat.le_of_ble_eq_true rfl) q_5_4 (blk hb 0 rfl) rfl dX3_closeSmallShares_151 ?_
          refine g_iload (pc := 154) C dX3_closeSmallShares_154 rfl ?_
          refine g_lload (pc := 156) C dX3_closeSmallShares_156 rfl ?_
          refine g_lload (pc := 158) C dX3_closeSmallShares_158 rfl ?_
          refine g_lrem (pc := 160) C dX3_closeSmallShares_160 ?_
          refine g_l2i (pc := 161) C dX3_closeSmallShares_161 ?_
          refine g_callNv (pc := 162) (As := [.ref (X.ad (b + 5)), .int (l7), .int ((v6 - v6 / l4 * l4).toInt32)]) C (kX8_put X σ7 (b + 5) 23 l7 ((v6 - v6 / l4 * l4).toInt32) (blk hb 5 rfl)) (List.mem_of_getElem? (i := 10) rfl) q_9_20 q_1_2 q_9_21 hdX8_put ⟨Nat.le_of_ble_eq_true rfl, Nat.le_of_ble_eq_true rfl, rfl, rfl⟩ ⟨Nat.zero_le _, Nat.zero_le _⟩ (Nat.le_of_ble_eq_true rfl) rfl rfl dX3_closeSmallShares_162 (fun σ8 _ => ?_)
          refine g_aload_n (pc := 165) (i := 0) C dX3_closeSmallShares_165 rfl rfl ?_
          refine g_getr (pc := 166) (ci := 3) (N := 6) (T := TX3) (j := 2) (Cn := RX3) (b + 3) C rfl inlX3 (Nat.le_of_ble_eq_true rfl) q_5_2 (blk hb 0 rfl) rfl dX3_closeSmallShares_166 ?_
          refine g_iload (pc := 169) C dX3_closeSmallShares_169 rfl ?_
          refine g_callNi (pc := 171) (As := [.ref (X.ad (b + 3)), .int (l7)]) C (kX8_at X σ8 (b + 3) 23 l7 (blk hb 3 rfl)) (List.mem_of_getElem? (i := 11) rfl) q_11_22 q_1_2 q_11_23 hdX8_at ⟨Nat.le_of_ble_eq_true rfl, Nat.le_of_ble_eq_true rfl, rfl, rfl⟩ ⟨Nat.zero_le _, Nat.zero_le _⟩ (Nat.le_of_ble_eq_true rfl) rfl rfl dX3_closeSmallShares_171 (fun r9 _ => ?_)
          refine g_aload_n (pc := 174) (i := 0) C dX3_closeSmallShares_174 rfl rfl ?_
          refine g_getr (pc := 175) (ci := 3) (N := 6) (T := TX3) (j := 0) (Cn := RX3) (b + 1) C rfl inlX3 (Nat.le_of_ble_eq_true rfl) q_5_0 (blk hb 0 rfl) rfl dX3_closeSmallShares_175 ?_
          refine g_iload (pc := 178) C dX3_closeSmallShares_178 rfl ?_
          refine g_callNi (pc := 180) (As := [.ref (X.ad (b + 1)), .int (l7)]) C (kX8_at X σ8 (b + 1) 23 l7 (blk hb 1 rfl)) (List.mem_of_getElem? (i := 11) rfl) q_11_22 q_1_2 q_11_23 hdX8_at ⟨Nat.le_of_ble_eq_true rfl, Nat.le_of_ble_eq_true rfl, rfl, rfl⟩ ⟨Nat.zero_le _, Nat.zero_le _⟩ (Nat.le_of_ble_eq_true rfl) rfl rfl dX3_closeSmallShares_180 (fun r10 _ => ?_)
          refine g_icmp_ge (pc := 183) (tgt := 217) C dX3_closeSmallShares_183 rfl ?_ ?_
          · refine g_keep [true, false, true, false, true, false, true, true, false, false] ?_
            exact bX3_closeSmallShares_217 C hr b hb ih σ8 l2 l4 l6 l7
          · refine g_aload_n (pc := 186) (i := 0) C dX3_closeSmallShares_186 rfl rfl ?_
            refine g_getr (pc := 187) (ci := 3) (N := 6) (T := TX3) (j := 2) (Cn := RX3) (b + 3) C rfl inlX3 (Nat.le_of_ble_eq_true rfl) q_5_2 (blk hb 0 rfl) rfl dX3_closeSmallShares_187 ?_
            refine g_iload (pc := 190) C dX3_closeSmallShares_190 rfl ?_
            refine g_aload_n (pc := 192) (i := 0) C dX3_closeSmallShares_192 rfl rfl ?_
            refine g_getr (pc := 193) (ci := 3) (N := 6) (T := TX3) (j := 0) (Cn := RX3) (b + 1) C rfl inlX3 (Nat.le_of_ble_eq_true rfl) q_5_0 (blk hb 0 rfl) rfl dX3_closeSmallShares_193 ?_
            refine g_iload (pc := 196) C dX3_closeSmallShares_196 rfl ?_
            refine g_callNi (pc := 198) (As := [.ref (X.ad (b + 1)), .int (l7)]) C (kX8_at X σ8 (b + 1) 23 l7 (blk hb 1 rfl)) (List.mem_of_getElem? (i := 11) rfl) q_11_22 q_1_2 q_11_23 hdX8_at ⟨Nat.le_of_ble_eq_true rfl, Nat.le_of_ble_eq_true rfl, rfl, rfl⟩ ⟨Nat.zero_le _, Nat.zero_le _⟩ (Nat.le_of_ble_eq_true rfl) rfl rfl dX3_closeSmallShares_198 (fun r11 _ => ?_)
            refine g_callNv (pc := 201) (As := [.ref (X.ad (b + 3)), .int (l7), .int (r11)]) C (kX8_put X σ8 (b + 3) 23 l7 r11 (blk hb 3 rfl)) (List.mem_of_getElem? (i := 10) rfl) q_9_20 q_1_2 q_9_21 hdX8_put ⟨Nat.le_of_ble_eq_true rfl, Nat.le_of_ble_eq_true rfl, rfl, rfl⟩ ⟨Nat.zero_le _, Nat.zero_le _⟩ (Nat.le_of_ble_eq_true rfl) rfl rfl dX3_closeSmallShares_201 (fun σ12 _ => ?_)
            refine g_aload_n (pc := 204) (i := 0) C dX3_closeSmallShares_204 rfl rfl ?_
            refine g_getr (pc := 205) (ci := 3) (N := 6) (T := TX3) (j := 3) (Cn := RX3) (b + 4) C rfl inlX3 (Nat.le_of_ble_eq_true rfl) q_5_3 (blk hb 0 rfl) rfl dX3_closeSmallShares_205 ?_
            refine g_iload (pc := 208) C dX3_closeSmallShares_208 rfl ?_
            refine g_iconst (pc := 210) (v := 0) C dX3_closeSmallShares_210 (by decide) ?_
            refine g_callNv (pc := 211) (As := [.ref (X.ad (b + 4)), .int (l7), .int (0)]) C (kX8_put X σ12 (b + 4) 23 l7 0 (blk hb 4 rfl)) (List.mem_of_getElem? (i := 10) rfl) q_9_20 q_1_2 q_9_21 hdX8_put ⟨Nat.le_of_ble_eq_true rfl, Nat.le_of_ble_eq_true rfl, rfl, rfl⟩ ⟨Nat.zero_le _, Nat.zero_le _⟩ (Nat.le_of_ble_eq_true rfl) rfl rfl dX3_closeSmallShares_211 (fun σ13 _ => ?_)
            refine g_iconst (pc := 214) (v := 1) C dX3_closeSmallShares_214 (by decide) ?_
            refine g_istore (pc := 215) C dX3_closeSmallShares_215 (Nat.le_of_ble_eq_true rfl) rfl ?_
            refine g_keep [true, false, true, false, true, false, true, true, false, false] ?_
            exact bX3_closeSmallShares_217 C hr b hb ih σ13 l2 l4 1 l7
        · refine g_keep [true, false, true, false, true, false, true, true, false, false] ?_
          exact bX3_closeSmallShares_217 C hr b hb ih σ l2 l4 l6 l7
def fX3_closeSmallShares_77 (b : Nat) (k9 : Sg → Int64 → Int64 → Int32 → Option (Bool × Sg)) (σ : Sg) (l2 : Int64) (l6 : Int32) (s0 : Int64) (s1 : Int64) : Option (Bool × Sg) :=
  nm (s0 + s1) fun v17 =>
  (k9 σ l2 v17 (l6 + 1))
theorem bX3_closeSmallShares_77 {X : Xc} {K : Kc} (C : MC X K cX3_closeSmallShares 10 RX3 rmX3_closeSmallShares) (hr : K.meth.sig.returnType = (some .boolean)) (b : Nat) (hb : shOK b){k9 : Sg → Int64 → Int64 → Int32 → Option (Bool × Sg)} (hk9 : ∀ (σ : Sg) (l2 : Int64) (l4 : Int64) (l6 : Int32), GO X K 10 (fun r => MQi X K (b2i r.1) r.2) (k9 σ l2 l4 l6) σ 0 0 9 [some (.ref (X.ad b)), none, some (.long (l2)), none, some (.long (l4)), none, some (.int (l6)), none, none, none] []) (σ : Sg) (l2 : Int64) (l6 : Int32) (s0 : Int64) (s1 : Int64) : GO X K 10 (fun r => MQi X K (b2i r.1) r.2) (fX3_closeSmallShares_77 b k9 σ l2 l6 s0 s1) σ 0 0 77 [some (.ref (X.ad b)), none, some (.long (l2)), none, none, none, some (.int (l6)), none, none, none] [.long (s1), .long (s0)] := by
  unfold fX3_closeSmallShares_77
  refine g_ladd (pc := 77) C dX3_closeSmallShares_77 ?_
  refine g_nml (fun v17 => ?_)
  refine g_lstore (pc := 78) C dX3_closeSmallShares_78 (Nat.le_of_ble_eq_true rfl) rfl ?_
  refine g_iinc (pc := 80) (v := l6 + 1) C dX3_closeSmallShares_80 rfl (rfl) (Nat.le_of_ble_eq_true rfl) rfl ?_
  refine g_goto (pc := 83) (tgt := 9) C dX3_closeSmallShares_83 rfl ?_
  refine g_keep [true, false, true, false, true, false, true, false, false, false] ?_
  exact hk9 σ l2 v17 (l6 + 1)
def fX3_closeSmallShares_46 (b : Nat) (k9 : Sg → Int64 → Int64 → Int32 → Option (Bool × Sg)) (σ : Sg) (l4 : Int64) (l6 : Int32) (s0 : Int64) (s1 : Int64) : Option (Bool × Sg) :=
  nm (s0 - s1) fun v14 =>
  (fX8_at σ (b + 4) 23 l6).bind fun r15 =>
  if r15 = 1 then
    (fX8_at σ (b + 2) 23 l6).bind fun r16 =>
    (fX3_closeSmallShares_77 b k9 σ v14 l6 l4 r16.toInt64)
  else
    (fX3_closeSmallShares_77 b k9 σ v14 l6 l4 (0 : Int64))
theorem bX3_closeSmallShares_46 {X : Xc} {K : Kc} (C : MC X K cX3_closeSmallShares 10 RX3 rmX3_closeSmallShares) (hr : K.meth.sig.returnType = (some .boolean)) (b : Nat) (hb : shOK b){k9 : Sg → Int64 → Int64 → Int32 → Option (Bool × Sg)} (hk9 : ∀ (σ : Sg) (l2 : Int64) (l4 : Int64) (l6 : Int32), GO X K 10 (fun r => MQi X K (b2i r.1) r.2) (k9 σ l2 l4 l6) σ 0 0 9 [some (.ref (X.ad b)), none, some (.long (l2)), none, some (.long (l4)), none, some (.int (l6)), none, none, none] []) (σ : Sg) (l4 : Int64) (l6 : Int32) (s0 : Int64) (s1 : Int64) : GO X K 10 (fun r => MQi X K (b2i r.1) r.2) (fX3_closeSmallShares_46 b k9 σ l4 l6 s0 s1) σ 0 0 46 [some (.ref (X.ad b)), none, none, none, some (.long (l4)), none, some (.int (l6)), none, none, none] [.long (s1), .long (s0)] := by
  unfold fX3_closeSmallShares_46
  refine g_lsub (pc := 46) C dX3_closeSmallShares_46 ?_
  refine g_nml (fun v14 => ?_)
  refine g_lstore_n (pc := 47) (i := 2) C dX3_closeSmallShares_47 rfl (Nat.le_of_ble_eq_true rfl) rfl ?_
  refine g_lload (pc := 48) C dX3_closeSmallShares_48 rfl ?_
  refine g_aload_n (pc := 50) (i := 0) C dX3_closeSmallShares_50 rfl rfl ?_
  refine g_getr (pc := 51) (ci := 3) (N := 6) (T := TX3) (j := 3) (Cn := RX3) (b + 4) C rfl inlX3 (Nat.le_of_ble_eq_true rfl) q_5_3 (blk hb 0 rfl) rfl dX3_closeSmallShares_51 ?_
  refine g_iload (pc := 54) C dX3_closeSmallShares_54 rfl ?_
  refine g_callNi (pc := 56) (As := [.ref (X.ad (b + 4)), .int (l6)]) C (kX8_at X σ (b + 4) 23 l6 (blk hb 4 rfl)) (List.mem_of_getElem? (i := 11) rfl) q_11_22 q_1_2 q_11_23 hdX8_at ⟨Nat.le_of_ble_eq_true rfl, Nat.le_of_ble_eq_true rfl, rfl, rfl⟩ ⟨Nat.zero_le _, Nat.zero_le _⟩ (Nat.le_of_ble_eq_true rfl) rfl rfl dX3_closeSmallShares_56 (fun r15 _ => ?_)
  refine g_iconst (pc := 59) (v := 1) C dX3_closeSmallShares_59 (by decide) ?_
  refine g_icmp_ne (pc := 60) (tgt := 76) C dX3_closeSmallShares_60 rfl ?_ ?_
  · refine g_aload_n (pc := 63) (i := 0) C dX3_closeSmallShares_63 rfl rfl ?_
    refine g_getr (pc := 64) (ci := 3) (N := 6) (T := TX3) (j := 1) (Cn := RX3) (b + 2) C rfl inlX3 (Nat.le_of_ble_eq_true rfl) q_5_1 (blk hb 0 rfl) rfl dX3_closeSmallShares_64 ?_
    refine g_iload (pc := 67) C dX3_closeSmallShares_67 rfl ?_
    refine g_callNi (pc := 69) (As := [.ref (X.ad (b + 2)), .int (l6)]) C (kX8_at X σ (b + 2) 23 l6 (blk hb 2 rfl)) (List.mem_of_getElem? (i := 11) rfl) q_11_22 q_1_2 q_11_23 hdX8_at ⟨Nat.le_of_ble_eq_true rfl, Nat.le_of_ble_eq_true rfl, rfl, rfl⟩ ⟨Nat.zero_le _, Nat.zero_le _⟩ (Nat.le_of_ble_eq_true rfl) rfl rfl dX3_closeSmallShares_69 (fun r16 _ => ?_)
    refine g_i2l (pc := 72) C dX3_closeSmallShares_72 ?_
    refine g_goto (pc := 73) (tgt := 77) C dX3_closeSmallShares_73 rfl ?_
    refine g_keep [true, false, true, false, false, false, true, false, false, false] ?_
    exact bX3_closeSmallShares_77 C hr b hb hk9 σ v14 l6 l4 r16.toInt64
  · refine g_lconst (pc := 76) (v := 0) C dX3_closeSmallShares_76 (by decide) ?_
    refine g_keep [true, false, true, false, false, false, true, false, false, false] ?_
    exact bX3_closeSmallShares_77 C hr b hb hk9 σ v14 l6 l4 (0 : Int64)
def fX3_closeSmallShares_9 (b : Nat) : Nat → Sg → Int64 → Int64 → Int32 → Option (Bool × Sg)
  | 0, _, _, _, _ => none
  | n + 1, σ, l2, l4, l6 =>
    if (σ.1 b 5) ≤ l6 then
      (fX3_closeSmallShares_92 b FU σ l2 l4 0 0)
    else
      (fX8_at σ (b + 4) 23 l6).bind fun r2 =>
      if r2 = 1 then
        (fX3_closeSmallShares_46 b (fX3_closeSmallShares_9 b n) σ l4 l6 l2 (0 : Int64))
      else
        (fX8_at σ (b + 1) 23 l6).bind fun r3 =>
        (fX3_closeSmallShares_46 b (fX3_closeSmallShares_9 b n) σ l4 l6 l2 r3.toInt64)
theorem bX3_closeSmallShares_9 {X : Xc} {K : Kc} (C : MC X K cX3_closeSmallShares 10 RX3 rmX3_closeSmallShares) (hr : K.meth.sig.returnType = (some .boolean)) (b : Nat) (hb : shOK b) : ∀ (n : Nat) (σ : Sg) (l2 : Int64) (l4 : Int64) (l6 : Int32), GO X K 10 (fun r => MQi X K (b2i r.1) r.2) (fX3_closeSmallShares_9 b n σ l2 l4 l6) σ 0 0 9 [some (.ref (X.ad b)), none, some (.long (l2)), none, some (.long (l4)), none, some (.int (l6)), none, none, none] [] := by
  intro n
  induction n with
  | zero =>
    intro σ l2 l4 l6
    exact g_none
  | succ n ih =>
    intro σ l2 l4 l6
    unfold fX3_closeSmallShares_9
    refine g_iload (pc := 9) C dX3_closeSmallShares_9 rfl ?_
    refine g_aload_n (pc := 11) (i := 0) C dX3_closeSmallShares_11 rfl rfl ?_
    refine g_geti (pc := 12) (ci := 3) (N := 6) (T := TX3) (j := 5) (Cn := RX3) C rfl inlX3 (Nat.le_of_ble_eq_true rfl) q_17_10 (blk hb 0 rfl) rfl dX3_closeSmallShares_12 ?_
    refine g_icmp_ge (pc := 15) (tgt := 86) C dX3_closeSmallShares_15 rfl ?_ ?_
    · refine g_iconst (pc := 86) (v := 0) C dX3_closeSmallShares_86 (by decide) ?_
      refine g_istore (pc := 87) C dX3_closeSmallShares_87 (Nat.le_of_ble_eq_true rfl) rfl ?_
      refine g_iconst (pc := 89) (v := 0) C dX3_closeSmallShares_89 (by decide) ?_
      refine g_istore (pc := 90) C dX3_closeSmallShares_90 (Nat.le_of_ble_eq_true rfl) rfl ?_
      refine g_keep [true, false, true, false, true, false, true, true, false, false] ?_
      exact bX3_closeSmallShares_92 C hr b hb FU σ l2 l4 0 0
    · refine g_lload_n (pc := 18) (i := 2) C dX3_closeSmallShares_18 rfl rfl ?_
      refine g_aload_n (pc := 19) (i := 0) C dX3_closeSmallShares_19 rfl rfl ?_
      refine g_getr (pc := 20) (ci := 3) (N := 6) (T := TX3) (j := 3) (Cn := RX3) (b + 4) C rfl inlX3 (Nat.le_of_ble_eq_true rfl) q_5_3 (blk hb 0 rfl) rfl dX3_closeSmallShares_20 ?_
      refine g_iload (pc := 23) C dX3_closeSmallShares_23 rfl ?_
      refine g_callNi (pc := 25) (As := [.ref (X.ad (b + 4)), .int (l6)]) C (kX8_at X σ (b + 4) 23 l6 (blk hb 4 rfl)) (List.mem_of_getElem? (i := 11) rfl) q_11_22 q_1_2 q_11_23 hdX8_at ⟨Nat.le_of_ble_eq_true rfl, Nat.le_of_ble_eq_true rfl, rfl, rfl⟩ ⟨Nat.zero_le _, Nat.zero_le _⟩ (Nat.le_of_ble_eq_true rfl) rfl rfl dX3_closeSmallShares_25 (fun r2 _ => ?_)
      refine g_iconst (pc := 28) (v := 1) C dX3_closeSmallShares_28 (by decide) ?_
      refine g_icmp_ne (pc := 29) (tgt := 36) C dX3_closeSmallShares_29 rfl ?_ ?_
      · refine g_lconst (pc := 32) (v := 0) C dX3_closeSmallShares_32 (by decide) ?_
        refine g_goto (pc := 33) (tgt := 46) C dX3_closeSmallShares_33 rfl ?_
        refine g_keep [true, false, false, false, true, false, true, false, false, false] ?_
        exact bX3_closeSmallShares_46 C hr b hb ih σ l4 l6 l2 (0 : Int64)
      · refine g_aload_n (pc := 36) (i := 0) C dX3_closeSmallShares_36 rfl rfl ?_
        refine g_getr (pc := 37) (ci := 3) (N := 6) (T := TX3) (j := 0) (Cn := RX3) (b + 1) C rfl inlX3 (Nat.le_of_ble_eq_true rfl) q_5_0 (blk hb 0 rfl) rfl dX3_closeSmallShares_37 ?_
        refine g_iload (pc := 40) C dX3_closeSmallShares_40 rfl ?_
        refine g_callNi (pc := 42) (As := [.ref (X.ad (b + 1)), .int (l6)]) C (kX8_at X σ (b + 1) 23 l6 (blk hb 1 rfl)) (List.mem_of_getElem? (i := 11) rfl) q_11_22 q_1_2 q_11_23 hdX8_at ⟨Nat.le_of_ble_eq_true rfl, Nat.le_of_ble_eq_true rfl, rfl, rfl⟩ ⟨Nat.zero_le _, Nat.zero_le _⟩ (Nat.le_of_ble_eq_true rfl) rfl rfl dX3_closeSmallShares_42 (fun r3 _ => ?_)
        refine g_i2l (pc := 45) C dX3_closeSmallShares_45 ?_
        refine g_keep [true, false, false, false, true, false, true, false, false, false] ?_
        exact bX3_closeSmallShares_46 C hr b hb ih σ l4 l6 l2 r3.toInt64
def fX3_closeSmallShares (σ : Sg) (b : Nat) (p1 : Int32) : Option (Bool × Sg) :=
  nm ((0 : Int64)) fun v1 =>
  (fX3_closeSmallShares_9 b FU σ p1.toInt64 v1 0)
theorem kX3_closeSmallShares (X : Xc) (σ : Sg) (b : Nat) (p1 : Int32) (hb : shOK b) : ∀ r, fX3_closeSmallShares σ b p1 = some r → Met X.l yX3_closeSmallShares (wsM yX3_closeSmallShares cX3_closeSmallShares 10 (some .boolean)) rmX3_closeSmallShares (va_Pc [.ref (X.ad b), .int p1] (PW X σ)) (Qi X (b2i r.1) r.2) 0 0 X.A := by
  refine mt_of (own := RX3) (lo := [some (.ref (X.ad b)), some (.int (p1)), none, none, none, none, none, none, none, none]) (by decide) rfl (Nat.le_of_ble_eq_true rfl) rfl (fun K C hr => ?_)
  unfold fX3_closeSmallShares
  refine g_iload_n (pc := 0) (i := 1) C dX3_closeSmallShares_0 rfl rfl ?_
  refine g_i2l (pc := 1) C dX3_closeSmallShares_1 ?_
  refine g_lstore_n (pc := 2) (i := 2) C dX3_closeSmallShares_2 rfl (Nat.le_of_ble_eq_true rfl) rfl ?_
  refine g_lconst (pc := 3) (v := 0) C dX3_closeSmallShares_3 (by decide) ?_
  refine g_nml (fun v1 => ?_)
  refine g_lstore (pc := 4) C dX3_closeSmallShares_4 (Nat.le_of_ble_eq_true rfl) rfl ?_
  refine g_iconst (pc := 6) (v := 0) C dX3_closeSmallShares_6 (by decide) ?_
  refine g_istore (pc := 7) C dX3_closeSmallShares_7 (Nat.le_of_ble_eq_true rfl) rfl ?_
  refine g_keep [true, false, true, false, true, false, true, false, false, false] ?_
  exact bX3_closeSmallShares_9 C hr b hb FU σ p1.toInt64 v1 0
theorem dX3_giveRest_0 : decode cX3_giveRest 0 = .ok (.iload_n 1, 1) := by decide +kernel
theorem dX3_giveRest_1 : decode cX3_giveRest 1 = .ok (.istore_n 2, 1) := by decide +kernel
theorem dX3_giveRest_2 : decode cX3_giveRest 2 = .ok (.iconst 0, 1) := by decide +kernel
theorem dX3_giveRest_3 : decode cX3_giveRest 3 = .ok (.istore_n 3, 1) := by decide +kernel
theorem dX3_giveRest_4 : decode cX3_giveRest 4 = .ok (.iload_n 3, 1) := by decide +kernel
theorem dX3_giveRest_5 : decode cX3_giveRest 5 = .ok (.aload_n 0, 1) := by decide +kernel
theorem dX3_giveRest_6 : decode cX3_giveRest 6 = .ok (.getfield 27, 3) := by decide +kernel
theorem dX3_giveRest_9 : decode cX3_giveRest 9 = .ok (.if_icmp .ge 20, 3) := by decide +kernel
theorem dX3_giveRest_12 : decode cX3_giveRest 12 = .ok (.iload_n 2, 1) := by decide +kernel
theorem dX3_giveRest_13 : decode cX3_giveRest 13 = .ok (.aload_n 0, 1) := by decide +kernel
theorem dX3_giveRest_14 : decode cX3_giveRest 14 = .ok (.getfield 18, 3) := by decide +kernel
theorem dX3_giveRest_17 : decode cX3_giveRest 17 = .ok (.iload_n 3, 1) := by decide +kernel
theorem dX3_giveRest_18 : decode cX3_giveRest 18 = .ok (.invokestatic 35, 3) := by decide +kernel
theorem dX3_giveRest_21 : decode cX3_giveRest 21 = .ok (.isub, 1) := by decide +kernel
theorem dX3_giveRest_22 : decode cX3_giveRest 22 = .ok (.istore_n 2, 1) := by decide +kernel
theorem dX3_giveRest_23 : decode cX3_giveRest 23 = .ok (.iinc 3 1, 3) := by decide +kernel
theorem dX3_giveRest_26 : decode cX3_giveRest 26 = .ok (.goto (-22), 3) := by decide +kernel
theorem dX3_giveRest_29 : decode cX3_giveRest 29 = .ok (.iconst 0, 1) := by decide +kernel
theorem dX3_giveRest_30 : decode cX3_giveRest 30 = .ok (.istore_n 3, 1) := by decide +kernel
theorem dX3_giveRest_31 : decode cX3_giveRest 31 = .ok (.iload_n 3, 1) := by decide +kernel
theorem dX3_giveRest_32 : decode cX3_giveRest 32 = .ok (.iload_n 2, 1) := by decide +kernel
theorem dX3_giveRest_33 : decode cX3_giveRest 33 = .ok (.if_icmp .ge 106, 3) := by decide +kernel
theorem dX3_giveRest_36 : decode cX3_giveRest 36 = .ok (.iload_n 3, 1) := by decide +kernel
theorem dX3_giveRest_37 : decode cX3_giveRest 37 = .ok (.aload_n 0, 1) := by decide +kernel
theorem dX3_giveRest_38 : decode cX3_giveRest 38 = .ok (.getfield 27, 3) := by decide +kernel
theorem dX3_giveRest_41 : decode cX3_giveRest 41 = .ok (.if_icmp .ge 98, 3) := by decide +kernel
theorem dX3_giveRest_44 : decode cX3_giveRest 44 = .ok (.iconst (-1), 1) := by decide +kernel
theorem dX3_giveRest_45 : decode cX3_giveRest 45 = .ok (.istore 4, 2) := by decide +kernel
theorem dX3_giveRest_47 : decode cX3_giveRest 47 = .ok (.iconst 0, 1) := by decide +kernel
theorem dX3_giveRest_48 : decode cX3_giveRest 48 = .ok (.istore 5, 2) := by decide +kernel
theorem dX3_giveRest_50 : decode cX3_giveRest 50 = .ok (.iload 5, 2) := by decide +kernel
theorem dX3_giveRest_52 : decode cX3_giveRest 52 = .ok (.aload_n 0, 1) := by decide +kernel
theorem dX3_giveRest_53 : decode cX3_giveRest 53 = .ok (.getfield 27, 3) := by decide +kernel
theorem dX3_giveRest_56 : decode cX3_giveRest 56 = .ok (.if_icmp .ge 47, 3) := by decide +kernel
theorem dX3_giveRest_59 : decode cX3_giveRest 59 = .ok (.aload_n 0, 1) := by decide +kernel
theorem dX3_giveRest_60 : decode cX3_giveRest 60 = .ok (.getfield 21, 3) := by decide +kernel
theorem dX3_giveRest_63 : decode cX3_giveRest 63 = .ok (.iload 5, 2) := by decide +kernel
theorem dX3_giveRest_65 : decode cX3_giveRest 65 = .ok (.invokestatic 35, 3) := by decide +kernel
theorem dX3_giveRest_68 : decode cX3_giveRest 68 = .ok (.iconst 1, 1) := by decide +kernel
theorem dX3_giveRest_69 : decode cX3_giveRest 69 = .ok (.if_icmp .ne 28, 3) := by decide +kernel
theorem dX3_giveRest_72 : decode cX3_giveRest 72 = .ok (.aload_n 0, 1) := by decide +kernel
theorem dX3_giveRest_73 : decode cX3_giveRest 73 = .ok (.getfield 24, 3) := by decide +kernel
theorem dX3_giveRest_76 : decode cX3_giveRest 76 = .ok (.iload 5, 2) := by decide +kernel
theorem dX3_giveRest_78 : decode cX3_giveRest 78 = .ok (.invokestatic 35, 3) := by decide +kernel
theorem dX3_giveRest_81 : decode cX3_giveRest 81 = .ok (.aload_n 0, 1) := by decide +kernel
theorem dX3_giveRest_82 : decode cX3_giveRest 82 = .ok (.getfield 24, 3) := by decide +kernel
theorem dX3_giveRest_85 : decode cX3_giveRest 85 = .ok (.iload 4, 2) := by decide +kernel
theorem dX3_giveRest_87 : decode cX3_giveRest 87 = .ok (.invokestatic 35, 3) := by decide +kernel
theorem dX3_giveRest_90 : decode cX3_giveRest 90 = .ok (.if_icmp .le 7, 3) := by decide +kernel
theorem dX3_giveRest_93 : decode cX3_giveRest 93 = .ok (.iload 5, 2) := by decide +kernel
theorem dX3_giveRest_95 : decode cX3_giveRest 95 = .ok (.istore 4, 2) := by decide +kernel
theorem dX3_giveRest_97 : decode cX3_giveRest 97 = .ok (.iinc 5 1, 3) := by decide +kernel
theorem dX3_giveRest_100 : decode cX3_giveRest 100 = .ok (.goto (-50), 3) := by decide +kernel
theorem dX3_giveRest_103 : decode cX3_giveRest 103 = .ok (.aload_n 0, 1) := by decide +kernel
theorem dX3_giveRest_104 : decode cX3_giveRest 104 = .ok (.getfield 18, 3) := by decide +kernel
theorem dX3_giveRest_107 : decode cX3_giveRest 107 = .ok (.iload 4, 2) := by decide +kernel
theorem dX3_giveRest_109 : decode cX3_giveRest 109 = .ok (.aload_n 0, 1) := by decide +kernel
theorem dX3_giveRest_110 : decode cX3_giveRest 110 = .ok (.getfield 18, 3) := by decide +kernel
theorem dX3_giveRest_113 : decode cX3_giveRest 113 = .ok (.iload 4, 2) := by decide +kernel
theorem dX3_giveRest_115 : decode cX3_giveRest 115 = .ok (.invokestatic 35, 3) := by decide +kernel
theorem dX3_giveRest_118 : decode cX3_giveRest 118 = .ok (.iconst 1, 1) := by decide +kernel
theorem dX3_giveRest_119 : decode cX3_giveRest 119 = .ok (.iadd, 1) := by decide +kernel
theorem dX3_giveRest_120 : decode cX3_giveRest 120 = .ok (.invokestatic 31, 3) := by decide +kernel
theorem dX3_giveRest_123 : decode cX3_giveRest 123 = .ok (.aload_n 0, 1) := by decide +kernel
theorem dX3_giveRest_124 : decode cX3_giveRest 124 = .ok (.getfield 24, 3) := by decide +kernel
theorem dX3_giveRest_127 : decode cX3_giveRest 127 = .ok (.iload 4, 2) := by decide +kernel
theorem dX3_giveRest_129 : decode cX3_giveRest 129 = .ok (.iconst (-1), 1) := by decide +kernel
theorem dX3_giveRest_130 : decode cX3_giveRest 130 = .ok (.invokestatic 31, 3) := by decide +kernel
theorem dX3_giveRest_133 : decode cX3_giveRest 133 = .ok (.iinc 3 1, 3) := by decide +kernel
theorem dX3_giveRest_136 : decode cX3_giveRest 136 = .ok (.goto (-105), 3) := by decide +kernel
theorem dX3_giveRest_139 : decode cX3_giveRest 139 = .ok (.return_, 1) := by decide +kernel
abbrev rmX3_giveRest : Room := { frames := 1, cells := 0, slots := 0, locals := 22 }
theorem hdX3_giveRest : yX3_giveRest.cls ≠ "java/lang/invoke/MethodHandle" ∧ yX3_giveRest.cls ≠ "java/lang/invoke/VarHandle" ∧ (parseMethodDescriptor yX3_giveRest.desc).map (fun d => d.parameters.length) = some 1 := by decide +kernel
def fX3_giveRest_97 (b : Nat) (k31 : Sg → Int32 → Int32 → Option Sg) (k50 : Sg → Int32 → Int32 → Int32 → Int32 → Option Sg) (σ : Sg) (l2 : Int32) (l3 : Int32) (l4 : Int32) (l5 : Int32) : Option Sg :=
  (k50 σ l2 l3 l4 (l5 + 1))
theorem bX3_giveRest_97 {X : Xc} {K : Kc} (C : MC X K cX3_giveRest 6 RX3 rmX3_giveRest) (hr : K.meth.sig.returnType = none) (b : Nat) (hb : shOK b){k31 : Sg → Int32 → Int32 → Option Sg} {k50 : Sg → Int32 → Int32 → Int32 → Int32 → Option Sg} (hk31 : ∀ (σ : Sg) (l2 : Int32) (l3 : Int32), GO X K 6 (fun r => MQv X K r) (k31 σ l2 l3) σ 0 0 31 [some (.ref (X.ad b)), none, some (.int (l2)), some (.int (l3)), none, none] []) (hk50 : ∀ (σ : Sg) (l2 : Int32) (l3 : Int32) (l4 : Int32) (l5 : Int32), GO X K 6 (fun r => MQv X K r) (k50 σ l2 l3 l4 l5) σ 0 0 50 [some (.ref (X.ad b)), none, some (.int (l2)), some (.int (l3)), some (.int (l4)), some (.int (l5))] []) (σ : Sg) (l2 : Int32) (l3 : Int32) (l4 : Int32) (l5 : Int32) : GO X K 6 (fun r => MQv X K r) (fX3_giveRest_97 b k31 k50 σ l2 l3 l4 l5) σ 0 0 97 [some (.ref (X.ad b)), none, some (.int (l2)), some (.int (l3)), some (.int (l4)), some (.int (l5))] [] := by
  unfold fX3_giveRest_97
  refine g_iinc (pc := 97) (v := l5 + 1) C dX3_giveRest_97 rfl (rfl) (Nat.le_of_ble_eq_true rfl) rfl ?_
  refine g_goto (pc := 100) (tgt := 50) C dX3_giveRest_100 rfl ?_
  refine g_keep [true, false, true, true, true, true] ?_
  exact hk50 σ l2 l3 l4 (l5 + 1)
def fX3_giveRest_50 (b : Nat) (k31 : Sg → Int32 → Int32 → Option Sg) : Nat → Sg → Int32 → Int32 → Int32 → Int32 → Option Sg
  | 0, _, _, _, _, _ => none
  | n + 1, σ, l2, l3, l4, l5 =>
    if (σ.1 b 5) ≤ l5 then
      (fX8_at σ (b + 3) 23 l4).bind fun r3 =>
      (fX8_put σ (b + 3) 23 l4 (r3 + 1)).bind fun σ4 =>
      (fX8_put σ4 (b + 5) 23 l4 (-1)).bind fun σ5 =>
      (k31 σ5 l2 (l3 + 1))
    else
      (fX8_at σ (b + 4) 23 l5).bind fun r6 =>
      if r6 = 1 then
        (fX8_at σ (b + 5) 23 l5).bind fun r7 =>
        (fX8_at σ (b + 5) 23 l4).bind fun r8 =>
        if r7 ≤ r8 then
          (fX3_giveRest_97 b k31 (fX3_giveRest_50 b k31 n) σ l2 l3 l4 l5)
        else
          (fX3_giveRest_97 b k31 (fX3_giveRest_50 b k31 n) σ l2 l3 l5 l5)
      else
        (fX3_giveRest_97 b k31 (fX3_giveRest_50 b k31 n) σ l2 l3 l4 l5)
theorem bX3_giveRest_50 {X : Xc} {K : Kc} (C : MC X K cX3_giveRest 6 RX3 rmX3_giveRest) (hr : K.meth.sig.returnType = none) (b : Nat) (hb : shOK b){k31 : Sg → Int32 → Int32 → Option Sg} (hk31 : ∀ (σ : Sg) (l2 : Int32) (l3 : Int32), GO X K 6 (fun r => MQv X K r) (k31 σ l2 l3) σ 0 0 31 [some (.ref (X.ad b)), none, some (.int (l2)), some (.int (l3)), none, none] []) : ∀ (n : Nat) (σ : Sg) (l2 : Int32) (l3 : Int32) (l4 : Int32) (l5 : Int32), GO X K 6 (fun r => MQv X K r) (fX3_giveRest_50 b k31 n σ l2 l3 l4 l5) σ 0 0 50 [some (.ref (X.ad b)), none, some (.int (l2)), some (.int (l3)), some (.int (l4)), some (.int (l5))] [] := by
  intro n
  induction n with
  | zero =>
    intro σ l2 l3 l4 l5
    exact g_none
  | succ n ih =>
    intro σ l2 l3 l4 l5
    unfold fX3_giveRest_50
    refine g_iload (pc := 50) C dX3_giveRest_50 rfl ?_
    refine g_aload_n (pc := 52) (i := 0) C dX3_giveRest_52 rfl rfl ?_
    refine g_geti (pc := 53) (ci := 3) (N := 6) (T := TX3) (j := 5) (Cn := RX3) C rfl inlX3 (Nat.le_of_ble_eq_true rfl) q_17_10 (blk hb 0 rfl) rfl dX3_giveRest_53 ?_
    refine g_icmp_ge (pc := 56) (tgt := 103) C dX3_giveRest_56 rfl ?_ ?_
    · refine g_aload_n (pc := 103) (i := 0) C dX3_giveRest_103 rfl rfl ?_
      refine g_getr (pc := 104) (ci := 3) (N := 6) (T := TX3) (j := 2) (Cn := RX3) (b + 3) C rfl inlX3 (Nat.le_of_ble_eq_true rfl) q_5_2 (blk hb 0 rfl) rfl dX3_giveRest_104 ?_
      refine g_iload (pc := 107) C dX3_giveRest_107 rfl ?_
      refine g_aload_n (pc := 109) (i := 0) C dX3_giveRest_109 rfl rfl ?_
      refine g_getr (pc := 110) (ci := 3) (N := 6) (T := TX3) (j := 2) (Cn := RX3) (b + 3) C rfl inlX3 (Nat.le_of_ble_eq_true rfl) q_5_2 (blk hb 0 rfl) rfl dX3_giveRest_110 ?_
      refine g_iload (pc := 113) C dX3_giveRest_113 rfl ?_
      refine g_callNi (pc := 115) (As := [.ref (X.ad (b + 3)), .int (l4)]) C (kX8_at X σ (b + 3) 23 l4 (blk hb 3 rfl)) (List.mem_of_getElem? (i := 11) rfl) q_11_22 q_1_2 q_11_23 hdX8_at ⟨Nat.le_of_ble_eq_true rfl, Nat.le_of_ble_eq_true rfl, rfl, rfl⟩ ⟨Nat.zero_le _, Nat.zero_le _⟩ (Nat.le_of_ble_eq_true rfl) rfl rfl dX3_giveRest_115 (fun r3 _ => ?_)
      refine g_iconst (pc := 118) (v := 1) C dX3_giveRest_118 (by decide) ?_
      refine g_iadd (pc := 119) C dX3_giveRest_119 ?_
      refine g_callNv (pc := 120) (As := [.ref (X.ad (b + 3)), .int (l4), .int (r3 + 1)]) C (kX8_put X σ (b + 3) 23 l4 (r3 + 1) (blk hb 3 rfl)) (List.mem_of_getElem? (i := 10) rfl) q_9_20 q_1_2 q_9_21 hdX8_put ⟨Nat.le_of_ble_eq_true rfl, Nat.le_of_ble_eq_true rfl, rfl, rfl⟩ ⟨Nat.zero_le _, Nat.zero_le _⟩ (Nat.le_of_ble_eq_true rfl) rfl rfl dX3_giveRest_120 (fun σ4 _ => ?_)
      refine g_aload_n (pc := 123) (i := 0) C dX3_giveRest_123 rfl rfl ?_
      refine g_getr (pc := 124) (ci := 3) (N := 6) (T := TX3) (j := 4) (Cn := RX3) (b + 5) C rfl inlX3 (Nat.le_of_ble_eq_true rfl) q_5_4 (blk hb 0 rfl) rfl dX3_giveRest_124 ?_
      refine g_iload (pc := 127) C dX3_giveRest_127 rfl ?_
      refine g_iconst (pc := 129) (v := (-1)) C dX3_giveRest_129 (by decide) ?_
      refine g_callNv (pc := 130) (As := [.ref (X.ad (b + 5)), .int (l4), .int ((-1))]) C (kX8_put X σ4 (b + 5) 23 l4 (-1) (blk hb 5 rfl)) (List.mem_of_getElem? (i := 10) rfl) q_9_20 q_1_2 q_9_21 hdX8_put ⟨Nat.le_of_ble_eq_true rfl, Nat.le_of_ble_eq_true rfl, rfl, rfl⟩ ⟨Nat.zero_le _, Nat.zero_le _⟩ (Nat.le_of_ble_eq_true rfl) rfl rfl dX3_giveRest_130 (fun σ5 _ => ?_)
      refine g_iinc (pc := 133) (v := l3 + 1) C dX3_giveRest_133 rfl (rfl) (Nat.le_of_ble_eq_true rfl) rfl ?_
      refine g_goto (pc := 136) (tgt := 31) C dX3_giveRest_136 rfl ?_
      refine g_keep [true, false, true, true, false, false] ?_
      exact hk31 σ5 l2 (l3 + 1)
    · refine g_aload_n (pc := 59) (i := 0) C dX3_giveRest_59 rfl rfl ?_
      refine g_getr (pc := 60) (ci := 3) (N := 6) (T := TX3) (j := 3) (Cn := RX3) (b + 4) C rfl inlX3 (Nat.le_of_ble_eq_true rfl) q_5_3 (blk hb 0 rfl) rfl dX3_giveRest_60 ?_
      refine g_iload (pc := 63) C dX3_giveRest_63 rfl ?_
      refine g_callNi (pc := 65) (As := [.ref (X.ad (b + 4)), .int (l5)]) C (kX8_at X σ (b + 4) 23 l5 (blk hb 4 rfl)) (List.mem_of_getElem? (i := 11) rfl) q_11_22 q_1_2 q_11_23 hdX8_at ⟨Nat.le_of_ble_eq_true rfl, Nat.le_of_ble_eq_true rfl, rfl, rfl⟩ ⟨Nat.zero_le _, Nat.zero_le _⟩ (Nat.le_of_ble_eq_true rfl) rfl rfl dX3_giveRest_65 (fun r6 _ => ?_)
      refine g_iconst (pc := 68) (v := 1) C dX3_giveRest_68 (by decide) ?_
      refine g_icmp_ne (pc := 69) (tgt := 97) C dX3_giveRest_69 rfl ?_ ?_
      · refine g_aload_n (pc := 72) (i := 0) C dX3_giveRest_72 rfl rfl ?_
        refine g_getr (pc := 73) (ci := 3) (N := 6) (T := TX3) (j := 4) (Cn := RX3) (b + 5) C rfl inlX3 (Nat.le_of_ble_eq_true rfl) q_5_4 (blk hb 0 rfl) rfl dX3_giveRest_73 ?_
        refine g_iload (pc := 76) C dX3_giveRest_76 rfl ?_
        refine g_callNi (pc := 78) (As := [.ref (X.ad (b + 5)), .int (l5)]) C (kX8_at X σ (b + 5) 23 l5 (blk hb 5 rfl)) (List.mem_of_getElem? (i := 11) rfl) q_11_22 q_1_2 q_11_23 hdX8_at ⟨Nat.le_of_ble_eq_true rfl, Nat.le_of_ble_eq_true rfl, rfl, rfl⟩ ⟨Nat.zero_le _, Nat.zero_le _⟩ (Nat.le_of_ble_eq_true rfl) rfl rfl dX3_giveRest_78 (fun r7 _ => ?_)
        refine g_aload_n (pc := 81) (i := 0) C dX3_giveRest_81 rfl rfl ?_
        refine g_getr (pc := 82) (ci := 3) (N := 6) (T := TX3) (j := 4) (Cn := RX3) (b + 5) C rfl inlX3 (Nat.le_of_ble_eq_true rfl) q_5_4 (blk hb 0 rfl) rfl dX3_giveRest_82 ?_
        refine g_iload (pc := 85) C dX3_giveRest_85 rfl ?_
        refine g_callNi (pc := 87) (As := [.ref (X.ad (b + 5)), .int (l4)]) C (kX8_at X σ (b + 5) 23 l4 (blk hb 5 rfl)) (List.mem_of_getElem? (i := 11) rfl) q_11_22 q_1_2 q_11_23 hdX8_at ⟨Nat.le_of_ble_eq_true rfl, Nat.le_of_ble_eq_true rfl, rfl, rfl⟩ ⟨Nat.zero_le _, Nat.zero_le _⟩ (Nat.le_of_ble_eq_true rfl) rfl rfl dX3_giveRest_87 (fun r8 _ => ?_)
        refine g_icmp_le (pc := 90) (tgt := 97) C dX3_giveRest_90 rfl ?_ ?_
        · refine g_keep [true, false, true, true, true, true] ?_
          exact bX3_giveRest_97 C hr b hb hk31 ih σ l2 l3 l4 l5
        · refine g_iload (pc := 93) C dX3_giveRest_93 rfl ?_
          refine g_istore (pc := 95) C dX3_giveRest_95 (Nat.le_of_ble_eq_true rfl) rfl ?_
          refine g_keep [true, false, true, true, true, true] ?_
          exact bX3_giveRest_97 C hr b hb hk31 ih σ l2 l3 l5 l5
      · refine g_keep [true, false, true, true, true, true] ?_
        exact bX3_giveRest_97 C hr b hb hk31 ih σ l2 l3 l4 l5
def fX3_giveRest_31 (b : Nat) : Nat → Sg → Int32 → Int32 → Option Sg
  | 0, _, _, _ => none
  | n + 1, σ, l2, l3 =>
    if l2 ≤ l3 then
      some σ
    else
      if (σ.1 b 5) ≤ l3 then
        some σ
      else
        (fX3_giveRest_50 b (fX3_giveRest_31 b n) FU σ l2 l3 (-1) 0)
theorem bX3_giveRest_31 {X : Xc} {K : Kc} (C : MC X K cX3_giveRest 6 RX3 rmX3_giveRest) (hr : K.meth.sig.returnType = none) (b : Nat) (hb : shOK b) : ∀ (n : Nat) (σ : Sg) (l2 : Int32) (l3 : Int32), GO X K 6 (fun r => MQv X K r) (fX3_giveRest_31 b n σ l2 l3) σ 0 0 31 [some (.ref (X.ad b)), none, some (.int (l2)), some (.int (l3)), none, none] [] := by
  intro n
  induction n with
  | zero =>
    intro σ l2 l3
    exact g_none
  | succ n ih =>
    intro σ l2 l3
    unfold fX3_giveRest_31
    refine g_iload_n (pc := 31) (i := 3) C dX3_giveRest_31 rfl rfl ?_
    refine g_iload_n (pc := 32) (i := 2) C dX3_giveRest_32 rfl rfl ?_
    refine g_icmp_ge (pc := 33) (tgt := 139) C dX3_giveRest_33 rfl ?_ ?_
    · exact g_vret (pc := 139) C hr dX3_giveRest_139 rfl
    · refine g_iload_n (pc := 36) (i := 3) C dX3_giveRest_36 rfl rfl ?_
      refine g_aload_n (pc := 37) (i := 0) C dX3_giveRest_37 rfl rfl ?_
      refine g_geti (pc := 38) (ci := 3) (N := 6) (T := TX3) (j := 5) (Cn := RX3) C rfl inlX3 (Nat.le_of_ble_eq_true rfl) q_17_10 (blk hb 0 rfl) rfl dX3_giveRest_38 ?_
      refine g_icmp_ge (pc := 41) (tgt := 139) C dX3_giveRest_41 rfl ?_ ?_
      · exact g_vret (pc := 139) C hr dX3_giveRest_139 rfl
      · refine g_iconst (pc := 44) (v := (-1)) C dX3_giveRest_44 (by decide) ?_
        refine g_istore (pc := 45) C dX3_giveRest_45 (Nat.le_of_ble_eq_true rfl) rfl ?_
        refine g_iconst (pc := 47) (v := 0) C dX3_giveRest_47 (by decide) ?_
        refine g_istore (pc := 48) C dX3_giveRest_48 (Nat.le_of_ble_eq_true rfl) rfl ?_
        refine g_keep [true, false, true, true, true, true] ?_
        exact bX3_giveRest_50 C hr b hb ih FU σ l2 l3 (-1) 0
def fX3_giveRest_4 (b : Nat) : Nat → Sg → Int32 → Int32 → Option Sg
  | 0, _, _, _ => none
  | n + 1, σ, l2, l3 =>
    if (σ.1 b 5) ≤ l3 then
      (fX3_giveRest_31 b FU σ l2 0)
    else
      (fX8_at σ (b + 3) 23 l3).bind fun r1 =>
      nm (l2 - r1) fun v2 =>
      ((fX3_giveRest_4 b n) σ v2 (l3 + 1))
theorem bX3_giveRest_4 {X : Xc} {K : Kc} (C : MC X K cX3_giveRest 6 RX3 rmX3_giveRest) (hr : K.meth.sig.returnType = none) (b : Nat) (hb : shOK b) : ∀ (n : Nat) (σ : Sg) (l2 : Int32) (l3 : Int32), GO X K 6 (fun r => MQv X K r) (fX3_giveRest_4 b n σ l2 l3) σ 0 0 4 [some (.ref (X.ad b)), none, some (.int (l2)), some (.int (l3)), none, none] [] := by
  intro n
  induction n with
  | zero =>
    intro σ l2 l3
    exact g_none
  | succ n ih =>
    intro σ l2 l3
    unfold fX3_giveRest_4
    refine g_iload_n (pc := 4) (i := 3) C dX3_giveRest_4 rfl rfl ?_
    refine g_aload_n (pc := 5) (i := 0) C dX3_giveRest_5 rfl rfl ?_
    refine g_geti (pc := 6) (ci := 3) (N := 6) (T := TX3) (j := 5) (Cn := RX3) C rfl inlX3 (Nat.le_of_ble_eq_true rfl) q_17_10 (blk hb 0 rfl) rfl dX3_giveRest_6 ?_
    refine g_icmp_ge (pc := 9) (tgt := 29) C dX3_giveRest_9 rfl ?_ ?_
    · refine g_iconst (pc := 29) (v := 0) C dX3_giveRest_29 (by decide) ?_
      refine g_istore_n (pc := 30) (i := 3) C dX3_giveRest_30 rfl (Nat.le_of_ble_eq_true rfl) rfl ?_
      refine g_keep [true, false, true, true, false, false] ?_
      exact bX3_giveRest_31 C hr b hb FU σ l2 0
    · refine g_iload_n (pc := 12) (i := 2) C dX3_giveRest_12 rfl rfl ?_
      refine g_aload_n (pc := 13) (i := 0) C dX3_giveRest_13 rfl rfl ?_
      refine g_getr (pc := 14) (ci := 3) (N := 6) (T := TX3) (j := 2) (Cn := RX3) (b + 3) C rfl inlX3 (Nat.le_of_ble_eq_true rfl) q_5_2 (blk hb 0 rfl) rfl dX3_giveRest_14 ?_
      refine g_iload_n (pc := 17) (i := 3) C dX3_giveRest_17 rfl rfl ?_
      refine g_callNi (pc := 18) (As := [.ref (X.ad (b + 3)), .int (l3)]) C (kX8_at X σ (b + 3) 23 l3 (blk hb 3 rfl)) (List.mem_of_getElem? (i := 11) rfl) q_11_22 q_1_2 q_11_23 hdX8_at ⟨Nat.le_of_ble_eq_true rfl, Nat.le_of_ble_eq_true rfl, rfl, rfl⟩ ⟨Nat.zero_le _, Nat.zero_le _⟩ (Nat.le_of_ble_eq_true rfl) rfl rfl dX3_giveRest_18 (fun r1 _ => ?_)
      refine g_isub (pc := 21) C dX3_giveRest_21 ?_
      refine g_nm (fun v2 => ?_)
      refine g_istore_n (pc := 22) (i := 2) C dX3_giveRest_22 rfl (Nat.le_of_ble_eq_true rfl) rfl ?_
      refine g_iinc (pc := 23) (v := l3 + 1) C dX3_giveRest_23 rfl (rfl) (Nat.le_of_ble_eq_true rfl) rfl ?_
      refine g_goto (pc := 26) (tgt := 4) C dX3_giveRest_26 rfl ?_
      refine g_keep [true, false, true, true, false, false] ?_
      exact ih σ v2 (l3 + 1)
def fX3_giveRest (σ : Sg) (b : Nat) (p1 : Int32) : Option Sg :=
  (fX3_giveRest_4 b FU σ p1 0)
theorem kX3_giveRest (X : Xc) (σ : Sg) (b : Nat) (p1 : Int32) (hb : shOK b) : ∀ r, fX3_giveRest σ b p1 = some r → Met X.l yX3_giveRest (wsM yX3_giveRest cX3_giveRest 6 none) rmX3_giveRest (va_Pc [.ref (X.ad b), .int p1] (PW X σ)) (Qv X r) 0 0 X.A := by
  refine mt_of (own := RX3) (lo := [some (.ref (X.ad b)), some (.int (p1)), none, none, none, none]) (by decide) rfl (Nat.le_of_ble_eq_true rfl) rfl (fun K C hr => ?_)
  unfold fX3_giveRest
  refine g_iload_n (pc := 0) (i := 1) C dX3_giveRest_0 rfl rfl ?_
  refine g_istore_n (pc := 1) (i := 2) C dX3_giveRest_1 rfl (Nat.le_of_ble_eq_true rfl) rfl ?_
  refine g_iconst (pc := 2) (v := 0) C dX3_giveRest_2 (by decide) ?_
  refine g_istore_n (pc := 3) (i := 3) C dX3_giveRest_3 rfl (Nat.le_of_ble_eq_true rfl) rfl ?_
  refine g_keep [true, false, true, true, false, false] ?_
  exact bX3_giveRest_4 C hr b hb FU σ p1 0
theorem dX3_giveShares_0 : decode cX3_giveShares 0 = .ok (.aload_n 0, 1) := by decide +kernel
theorem dX3_giveShares_1 : decode cX3_giveShares 1 = .ok (.getfield 21, 3) := by decide +kernel
theorem dX3_giveShares_4 : decode cX3_giveShares 4 = .ok (.iconst 1, 1) := by decide +kernel
theorem dX3_giveShares_5 : decode cX3_giveShares 5 = .ok (.invokestatic 52, 3) := by decide +kernel
theorem dX3_giveShares_8 : decode cX3_giveShares 8 = .ok (.iconst 0, 1) := by decide +kernel
theorem dX3_giveShares_9 : decode cX3_giveShares 9 = .ok (.istore_n 2, 1) := by decide +kernel
theorem dX3_giveShares_10 : decode cX3_giveShares 10 = .ok (.iload_n 2, 1) := by decide +kernel
theorem dX3_giveShares_11 : decode cX3_giveShares 11 = .ok (.aload_n 0, 1) := by decide +kernel
theorem dX3_giveShares_12 : decode cX3_giveShares 12 = .ok (.getfield 27, 3) := by decide +kernel
theorem dX3_giveShares_15 : decode cX3_giveShares 15 = .ok (.if_icmp .gt 23, 3) := by decide +kernel
theorem dX3_giveShares_18 : decode cX3_giveShares 18 = .ok (.aload_n 0, 1) := by decide +kernel
theorem dX3_giveShares_19 : decode cX3_giveShares 19 = .ok (.iload_n 1, 1) := by decide +kernel
theorem dX3_giveShares_20 : decode cX3_giveShares 20 = .ok (.invokevirtual 58, 3) := by decide +kernel
theorem dX3_giveShares_23 : decode cX3_giveShares 23 = .ok (.ifCond .ne 9, 3) := by decide +kernel
theorem dX3_giveShares_26 : decode cX3_giveShares 26 = .ok (.aload_n 0, 1) := by decide +kernel
theorem dX3_giveShares_27 : decode cX3_giveShares 27 = .ok (.iload_n 1, 1) := by decide +kernel
theorem dX3_giveShares_28 : decode cX3_giveShares 28 = .ok (.invokevirtual 62, 3) := by decide +kernel
theorem dX3_giveShares_31 : decode cX3_giveShares 31 = .ok (.return_, 1) := by decide +kernel
theorem dX3_giveShares_32 : decode cX3_giveShares 32 = .ok (.iinc 2 1, 3) := by decide +kernel
theorem dX3_giveShares_35 : decode cX3_giveShares 35 = .ok (.goto (-25), 3) := by decide +kernel
theorem dX3_giveShares_38 : decode cX3_giveShares 38 = .ok (.return_, 1) := by decide +kernel
abbrev rmX3_giveShares : Room := { frames := 2, cells := 0, slots := 0, locals := 51 }
theorem hdX3_giveShares : yX3_giveShares.cls ≠ "java/lang/invoke/MethodHandle" ∧ yX3_giveShares.cls ≠ "java/lang/invoke/VarHandle" ∧ (parseMethodDescriptor yX3_giveShares.desc).map (fun d => d.parameters.length) = some 1 := by decide +kernel
def fX3_giveShares_10 (b : Nat) : Nat → Sg → Int32 → Int32 → Option Sg
  | 0, _, _, _ => none
  | n + 1, σ, l1, l2 =>
    if (σ.1 b 5) < l2 then
      some σ
    else
      (fX3_closeSmallShares σ b l1).bind fun r2 =>
      if r2.1 = true then
        ((fX3_giveShares_10 b n) r2.2 l1 (l2 + 1))
      else
        (fX3_giveRest r2.2 b l1).bind fun σ3 =>
        some σ3
theorem bX3_giveShares_10 {X : Xc} {K : Kc} (C : MC X K cX3_giveShares 3 RX3 rmX3_giveShares) (hr : K.meth.sig.returnType = none) (b : Nat) (hb : shOK b) : ∀ (n : Nat) (σ : Sg) (l1 : Int32) (l2 : Int32), GO X K 3 (fun r => MQv X K r) (fX3_giveShares_10 b n σ l1 l2) σ 0 0 10 [some (.ref (X.ad b)), some (.int (l1)), some (.int (l2))] [] := by
  intro n
  induction n with
  | zero =>
    intro σ l1 l2
    exact g_none
  | succ n ih =>
    intro σ l1 l2
    unfold fX3_giveShares_10
    refine g_iload_n (pc := 10) (i := 2) C dX3_giveShares_10 rfl rfl ?_
    refine g_aload_n (pc := 11) (i := 0) C dX3_giveShares_11 rfl rfl ?_
    refine g_geti (pc := 12) (ci := 3) (N := 6) (T := TX3) (j := 5) (Cn := RX3) C rfl inlX3 (Nat.le_of_ble_eq_true rfl) q_17_10 (blk hb 0 rfl) rfl dX3_giveShares_12 ?_
    refine g_icmp_gt (pc := 15) (tgt := 38) C dX3_giveShares_15 rfl ?_ ?_
    · exact g_vret (pc := 38) C hr dX3_giveShares_38 rfl
    · refine g_aload_n (pc := 18) (i := 0) C dX3_giveShares_18 rfl rfl ?_
      refine g_iload_n (pc := 19) (i := 1) C dX3_giveShares_19 rfl rfl ?_
      refine g_callVi (pc := 20) (As := [.int (l1)]) C (kX3_closeSmallShares X σ b l1 hb) (blk hb 0 rfl) rfl q_18_17 q_18_18 q_18_19 q_4_19 q_18_20 ⟨rfl, hdX3_closeSmallShares⟩ ⟨Nat.le_of_ble_eq_true rfl, Nat.le_of_ble_eq_true rfl, rfl, rfl⟩ ⟨Nat.zero_le _, Nat.zero_le _⟩ (Nat.le_of_ble_eq_true rfl) rfl rfl dX3_giveShares_20 (fun r2 _ => ?_)
      refine g_ifb_ne (pc := 23) (tgt := 32) C dX3_giveShares_23 rfl ?_ ?_
      · refine g_iinc (pc := 32) (v := l2 + 1) C dX3_giveShares_32 rfl (rfl) (Nat.le_of_ble_eq_true rfl) rfl ?_
        refine g_goto (pc := 35) (tgt := 10) C dX3_giveShares_35 rfl ?_
        refine g_keep [true, true, true] ?_
        exact ih r2.2 l1 (l2 + 1)
      · refine g_aload_n (pc := 26) (i := 0) C dX3_giveShares_26 rfl rfl ?_
        refine g_iload_n (pc := 27) (i := 1) C dX3_giveShares_27 rfl rfl ?_
        refine g_callVv (pc := 28) (As := [.int (l1)]) C (kX3_giveRest X r2.2 b l1 hb) (blk hb 0 rfl) rfl q_18_21 q_18_22 q_18_23 q_4_19 q_19_0 ⟨rfl, hdX3_giveRest⟩ ⟨Nat.le_of_ble_eq_true rfl, Nat.le_of_ble_eq_true rfl, rfl, rfl⟩ ⟨Nat.zero_le _, Nat.zero_le _⟩ (Nat.le_of_ble_eq_true rfl) rfl rfl dX3_giveShares_28 (fun σ3 _ => ?_)
        exact g_vret (pc := 31) C hr dX3_giveShares_31 rfl
def fX3_giveShares (σ : Sg) (b : Nat) (p1 : Int32) : Option Sg :=
  (fJ7_fill_53178 σ (b + 4) 23 1).bind fun σ1 =>
  (fX3_giveShares_10 b FU σ1 p1 0)
theorem kX3_giveShares (X : Xc) (σ : Sg) (b : Nat) (p1 : Int32) (hb : shOK b) : ∀ r, fX3_giveShares σ b p1 = some r → Met X.l yX3_giveShares (wsM yX3_giveShares cX3_giveShares 3 none) rmX3_giveShares (va_Pc [.ref (X.ad b), .int p1] (PW X σ)) (Qv X r) 0 0 X.A := by
  refine mt_of (own := RX3) (lo := [some (.ref (X.ad b)), some (.int (p1)), none]) (by decide) rfl (Nat.le_of_ble_eq_true rfl) rfl (fun K C hr => ?_)
  unfold fX3_giveShares
  refine g_aload_n (pc := 0) (i := 0) C dX3_giveShares_0 rfl rfl ?_
  refine g_getr (pc := 1) (ci := 3) (N := 6) (T := TX3) (j := 3) (Cn := RX3) (b + 4) C rfl inlX3 (Nat.le_of_ble_eq_true rfl) q_5_3 (blk hb 0 rfl) rfl dX3_giveShares_1 ?_
  refine g_iconst (pc := 4) (v := 1) C dX3_giveShares_4 (by decide) ?_
  refine g_callSv (pc := 5) (As := [.ref (X.ad (b + 4)), .int (1)]) C (kJ7_fill_53178 X σ (b + 4) 23 1 (blk hb 4 rfl)) q_18_16 q_4_2 q_4_3 q_4_4 hdJ7_fill_53178 ⟨Nat.le_of_ble_eq_true rfl, Nat.le_of_ble_eq_true rfl, rfl, rfl⟩ ⟨Nat.zero_le _, Nat.zero_le _⟩ (Nat.le_of_ble_eq_true rfl) rfl rfl dX3_giveShares_5 (fun σ1 _ => ?_)
  refine g_iconst (pc := 8) (v := 0) C dX3_giveShares_8 (by decide) ?_
  refine g_istore_n (pc := 9) (i := 2) C dX3_giveShares_9 rfl (Nat.le_of_ble_eq_true rfl) rfl ?_
  refine g_keep [true, true, true] ?_
  exact bX3_giveShares_10 C hr b hb FU σ1 p1 0
theorem dX3_shareOut_0 : decode cX3_shareOut 0 = .ok (.iconst 0, 1) := by decide +kernel
theorem dX3_shareOut_1 : decode cX3_shareOut 1 = .ok (.istore_n 2, 1) := by decide +kernel
theorem dX3_shareOut_2 : decode cX3_shareOut 2 = .ok (.iconst 0, 1) := by decide +kernel
theorem dX3_shareOut_3 : decode cX3_shareOut 3 = .ok (.istore_n 3, 1) := by decide +kernel
theorem dX3_shareOut_4 : decode cX3_shareOut 4 = .ok (.iload_n 3, 1) := by decide +kernel
theorem dX3_shareOut_5 : decode cX3_shareOut 5 = .ok (.aload_n 0, 1) := by decide +kernel
theorem dX3_shareOut_6 : decode cX3_shareOut 6 = .ok (.getfield 27, 3) := by decide +kernel
theorem dX3_shareOut_9 : decode cX3_shareOut 9 = .ok (.if_icmp .ge 20, 3) := by decide +kernel
theorem dX3_shareOut_12 : decode cX3_shareOut 12 = .ok (.iload_n 2, 1) := by decide +kernel
theorem dX3_shareOut_13 : decode cX3_shareOut 13 = .ok (.aload_n 0, 1) := by decide +kernel
theorem dX3_shareOut_14 : decode cX3_shareOut 14 = .ok (.getfield 9, 3) := by decide +kernel
theorem dX3_shareOut_17 : decode cX3_shareOut 17 = .ok (.iload_n 3, 1) := by decide +kernel
theorem dX3_shareOut_18 : decode cX3_shareOut 18 = .ok (.invokestatic 35, 3) := by decide +kernel
theorem dX3_shareOut_21 : decode cX3_shareOut 21 = .ok (.iadd, 1) := by decide +kernel
theorem dX3_shareOut_22 : decode cX3_shareOut 22 = .ok (.istore_n 2, 1) := by decide +kernel
theorem dX3_shareOut_23 : decode cX3_shareOut 23 = .ok (.iinc 3 1, 3) := by decide +kernel
theorem dX3_shareOut_26 : decode cX3_shareOut 26 = .ok (.goto (-22), 3) := by decide +kernel
theorem dX3_shareOut_29 : decode cX3_shareOut 29 = .ok (.iload_n 2, 1) := by decide +kernel
theorem dX3_shareOut_30 : decode cX3_shareOut 30 = .ok (.iload_n 1, 1) := by decide +kernel
theorem dX3_shareOut_31 : decode cX3_shareOut 31 = .ok (.if_icmp .lt 11, 3) := by decide +kernel
theorem dX3_shareOut_34 : decode cX3_shareOut 34 = .ok (.aload_n 0, 1) := by decide +kernel
theorem dX3_shareOut_35 : decode cX3_shareOut 35 = .ok (.iload_n 1, 1) := by decide +kernel
theorem dX3_shareOut_36 : decode cX3_shareOut 36 = .ok (.invokevirtual 39, 3) := by decide +kernel
theorem dX3_shareOut_39 : decode cX3_shareOut 39 = .ok (.goto 8, 3) := by decide +kernel
theorem dX3_shareOut_42 : decode cX3_shareOut 42 = .ok (.aload_n 0, 1) := by decide +kernel
theorem dX3_shareOut_43 : decode cX3_shareOut 43 = .ok (.iload_n 1, 1) := by decide +kernel
theorem dX3_shareOut_44 : decode cX3_shareOut 44 = .ok (.invokevirtual 43, 3) := by decide +kernel
theorem dX3_shareOut_47 : decode cX3_shareOut 47 = .ok (.return_, 1) := by decide +kernel
abbrev rmX3_shareOut : Room := { frames := 3, cells := 0, slots := 0, locals := 114 }
theorem hdX3_shareOut : yX3_shareOut.cls ≠ "java/lang/invoke/MethodHandle" ∧ yX3_shareOut.cls ≠ "java/lang/invoke/VarHandle" ∧ (parseMethodDescriptor yX3_shareOut.desc).map (fun d => d.parameters.length) = some 1 := by decide +kernel
def fX3_shareOut_4 (b : Nat) : Nat → Sg → Int32 → Int32 → Int32 → Option Sg
  | 0, _, _, _, _ => none
  | n + 1, σ, l1, l2, l3 =>
    if (σ.1 b 5) ≤ l3 then
      if l2 < l1 then
        (fX3_giveShares σ b l1).bind fun σ1 =>
        some σ1
      else
        (fX3_giveMinimums σ b l1).bind fun σ2 =>
        some σ2
    else
      (fX8_at σ (b + 1) 23 l3).bind fun r3 =>
      nm (l2 + r3) fun v4 =>
      ((fX3_shareOut_4 b n) σ l1 v4 (l3 + 1))
theorem bX3_shareOut_4 {X : Xc} {K : Kc} (C : MC X K cX3_shareOut 4 RX3 rmX3_shareOut) (hr : K.meth.sig.returnType = none) (b : Nat) (hb : shOK b) : ∀ (n : Nat) (σ : Sg) (l1 : Int32) (l2 : Int32) (l3 : Int32), GO X K 4 (fun r => MQv X K r) (fX3_shareOut_4 b n σ l1 l2 l3) σ 0 0 4 [some (.ref (X.ad b)), some (.int (l1)), some (.int (l2)), some (.int (l3))] [] := by
  intro n
  induction n with
  | zero =>
    intro σ l1 l2 l3
    exact g_none
  | succ n ih =>
    intro σ l1 l2 l3
    unfold fX3_shareOut_4
    refine g_iload_n (pc := 4) (i := 3) C dX3_shareOut_4 rfl rfl ?_
    refine g_aload_n (pc := 5) (i := 0) C dX3_shareOut_5 rfl rfl ?_
    refine g_geti (pc := 6) (ci := 3) (N := 6) (T := TX3) (j := 5) (Cn := RX3) C rfl inlX3 (Nat.le_of_ble_eq_true rfl) q_17_10 (blk hb 0 rfl) rfl dX3_shareOut_6 ?_
    refine g_icmp_ge (pc := 9) (tgt := 29) C dX3_shareOut_9 rfl ?_ ?_
    · refine g_iload_n (pc := 29) (i := 2) C dX3_shareOut_29 rfl rfl ?_
      refine g_iload_n (pc := 30) (i := 1) C dX3_shareOut_30 rfl rfl ?_
      refine g_icmp_lt (pc := 31) (tgt := 42) C dX3_shareOut_31 rfl ?_ ?_
      · refine g_aload_n (pc := 42) (i := 0) C dX3_shareOut_42 rfl rfl ?_
        refine g_iload_n (pc := 43) (i := 1) C dX3_shareOut_43 rfl rfl ?_
        refine g_callVv (pc := 44) (As := [.int (l1)]) C (kX3_giveShares X σ b l1 hb) (blk hb 0 rfl) rfl q_18_12 q_18_13 q_18_14 q_4_19 q_18_15 ⟨rfl, hdX3_giveShares⟩ ⟨Nat.le_of_ble_eq_true rfl, Nat.le_of_ble_eq_true rfl, rfl, rfl⟩ ⟨Nat.zero_le _, Nat.zero_le _⟩ (Nat.le_of_ble_eq_true rfl) rfl rfl dX3_shareOut_44 (fun σ1 _ => ?_)
        exact g_vret (pc := 47) C hr dX3_shareOut_47 rfl
      · refine g_aload_n (pc := 34) (i := 0) C dX3_shareOut_34 rfl rfl ?_
        refine g_iload_n (pc := 35) (i := 1) C dX3_shareOut_35 rfl rfl ?_
        refine g_callVv (pc := 36) (As := [.int (l1)]) C (kX3_giveMinimums X σ b l1 hb) (blk hb 0 rfl) rfl q_18_7 q_18_8 q_18_9 q_4_19 q_18_10 ⟨rfl, hdX3_giveMinimums⟩ ⟨Nat.le_of_ble_eq_true rfl, Nat.le_of_ble_eq_true rfl, rfl, rfl⟩ ⟨Nat.zero_le _, Nat.zero_le _⟩ (Nat.le_of_ble_eq_true rfl) rfl rfl dX3_shareOut_36 (fun σ2 _ => ?_)
        refine g_goto (pc := 39) (tgt := 47) C dX3_shareOut_39 rfl ?_
        exact g_vret (pc := 47) C hr dX3_shareOut_47 rfl
    · refine g_iload_n (pc := 12) (i := 2) C dX3_shareOut_12 rfl rfl ?_
      refine g_aload_n (pc := 13) (i := 0) C dX3_shareOut_13 rfl rfl ?_
      refine g_getr (pc := 14) (ci := 3) (N := 6) (T := TX3) (j := 0) (Cn := RX3) (b + 1) C rfl inlX3 (Nat.le_of_ble_eq_true rfl) q_5_0 (blk hb 0 rfl) rfl dX3_shareOut_14 ?_
      refine g_iload_n (pc := 17) (i := 3) C dX3_shareOut_17 rfl rfl ?_
      refine g_callNi (pc := 18) (As := [.ref (X.ad (b + 1)), .int (l3)]) C (kX8_at X σ (b + 1) 23 l3 (blk hb 1 rfl)) (List.mem_of_getElem? (i := 11) rfl) q_11_22 q_1_2 q_11_23 hdX8_at ⟨Nat.le_of_ble_eq_true rfl, Nat.le_of_ble_eq_true rfl, rfl, rfl⟩ ⟨Nat.zero_le _, Nat.zero_le _⟩ (Nat.le_of_ble_eq_true rfl) rfl rfl dX3_shareOut_18 (fun r3 _ => ?_)
      refine g_iadd (pc := 21) C dX3_shareOut_21 ?_
      refine g_nm (fun v4 => ?_)
      refine g_istore_n (pc := 22) (i := 2) C dX3_shareOut_22 rfl (Nat.le_of_ble_eq_true rfl) rfl ?_
      refine g_iinc (pc := 23) (v := l3 + 1) C dX3_shareOut_23 rfl (rfl) (Nat.le_of_ble_eq_true rfl) rfl ?_
      refine g_goto (pc := 26) (tgt := 4) C dX3_shareOut_26 rfl ?_
      refine g_keep [true, true, true, true] ?_
      exact ih σ l1 v4 (l3 + 1)
def fX3_shareOut (σ : Sg) (b : Nat) (p1 : Int32) : Option Sg :=
  (fX3_shareOut_4 b FU σ p1 0 0)
theorem kX3_shareOut (X : Xc) (σ : Sg) (b : Nat) (p1 : Int32) (hb : shOK b) : ∀ r, fX3_shareOut σ b p1 = some r → Met X.l yX3_shareOut (wsM yX3_shareOut cX3_shareOut 4 none) rmX3_shareOut (va_Pc [.ref (X.ad b), .int p1] (PW X σ)) (Qv X r) 0 0 X.A := by
  refine mt_of (own := RX3) (lo := [some (.ref (X.ad b)), some (.int (p1)), none, none]) (by decide) rfl (Nat.le_of_ble_eq_true rfl) rfl (fun K C hr => ?_)
  unfold fX3_shareOut
  refine g_iconst (pc := 0) (v := 0) C dX3_shareOut_0 (by decide) ?_
  refine g_istore_n (pc := 1) (i := 2) C dX3_shareOut_1 rfl (Nat.le_of_ble_eq_true rfl) rfl ?_
  refine g_iconst (pc := 2) (v := 0) C dX3_shareOut_2 (by decide) ?_
  refine g_istore_n (pc := 3) (i := 3) C dX3_shareOut_3 rfl (Nat.le_of_ble_eq_true rfl) rfl ?_
  refine g_keep [true, true, true, true] ?_
  exact bX3_shareOut_4 C hr b hb FU σ p1 0 0
theorem dX3_sizeOf_0 : decode cX3_sizeOf 0 = .ok (.aload_n 0, 1) := by decide +kernel
theorem dX3_sizeOf_1 : decode cX3_sizeOf 1 = .ok (.getfield 18, 3) := by decide +kernel
theorem dX3_sizeOf_4 : decode cX3_sizeOf 4 = .ok (.iload_n 1, 1) := by decide +kernel
theorem dX3_sizeOf_5 : decode cX3_sizeOf 5 = .ok (.invokestatic 35, 3) := by decide +kernel
theorem dX3_sizeOf_8 : decode cX3_sizeOf 8 = .ok (.ireturn, 1) := by decide +kernel
abbrev rmX3_sizeOf : Room := { frames := 1, cells := 0, slots := 0, locals := 21 }
theorem hdX3_sizeOf : yX3_sizeOf.cls ≠ "java/lang/invoke/MethodHandle" ∧ yX3_sizeOf.cls ≠ "java/lang/invoke/VarHandle" ∧ (parseMethodDescriptor yX3_sizeOf.desc).map (fun d => d.parameters.length) = some 1 := by decide +kernel
def fX3_sizeOf (σ : Sg) (b : Nat) (p1 : Int32) : Option Int32 :=
  (fX8_at σ (b + 3) 23 p1).bind fun r1 =>
  some r1
theorem kX3_sizeOf (X : Xc) (σ : Sg) (b : Nat) (p1 : Int32) (hb : shOK b) : ∀ r, fX3_sizeOf σ b p1 = some r → Met X.l yX3_sizeOf (wsM yX3_sizeOf cX3_sizeOf 2 (some .int)) rmX3_sizeOf (va_Pc [.ref (X.ad b), .int p1] (PW X σ)) (Qi X r σ) 0 0 X.A := by
  refine mt_of (own := RX3) (lo := [some (.ref (X.ad b)), some (.int (p1))]) (by decide) rfl (Nat.le_of_ble_eq_true rfl) rfl (fun K C hr => ?_)
  unfold fX3_sizeOf
  refine g_aload_n (pc := 0) (i := 0) C dX3_sizeOf_0 rfl rfl ?_
  refine g_getr (pc := 1) (ci := 3) (N := 6) (T := TX3) (j := 2) (Cn := RX3) (b + 3) C rfl inlX3 (Nat.le_of_ble_eq_true rfl) q_5_2 (blk hb 0 rfl) rfl dX3_sizeOf_1 ?_
  refine g_iload_n (pc := 4) (i := 1) C dX3_sizeOf_4 rfl rfl ?_
  refine g_callNi (pc := 5) (As := [.ref (X.ad (b + 3)), .int (p1)]) C (kX8_at X σ (b + 3) 23 p1 (blk hb 3 rfl)) (List.mem_of_getElem? (i := 11) rfl) q_11_22 q_1_2 q_11_23 hdX8_at ⟨Nat.le_of_ble_eq_true rfl, Nat.le_of_ble_eq_true rfl, rfl, rfl⟩ ⟨Nat.zero_le _, Nat.zero_le _⟩ (Nat.le_of_ble_eq_true rfl) rfl rfl dX3_sizeOf_5 (fun r1 _ => ?_)
  exact g_iret (pc := 8) C hr dX3_sizeOf_8 rfl
theorem dX4_saveSlot_0 : decode cX4_saveSlot 0 = .ok (.iload_n 1, 1) := by decide +kernel
theorem dX4_saveSlot_1 : decode cX4_saveSlot 1 = .ok (.ifCond .lt 37, 3) := by decide +kernel
theorem dX4_saveSlot_4 : decode cX4_saveSlot 4 = .ok (.iload_n 1, 1) := by decide +kernel
theorem dX4_saveSlot_5 : decode cX4_saveSlot 5 = .ok (.aload_n 0, 1) := by decide +kernel
theorem dX4_saveSlot_6 : decode cX4_saveSlot 6 = .ok (.getfield 32, 3) := by decide +kernel
theorem dX4_saveSlot_9 : decode cX4_saveSlot 9 = .ok (.arraylength, 1) := by decide +kernel
theorem dX4_saveSlot_10 : decode cX4_saveSlot 10 = .ok (.if_icmp .ge 28, 3) := by decide +kernel
theorem dX4_saveSlot_13 : decode cX4_saveSlot 13 = .ok (.aload_n 0, 1) := by decide +kernel
theorem dX4_saveSlot_14 : decode cX4_saveSlot 14 = .ok (.getfield 32, 3) := by decide +kernel
theorem dX4_saveSlot_17 : decode cX4_saveSlot 17 = .ok (.iload_n 1, 1) := by decide +kernel
theorem dX4_saveSlot_18 : decode cX4_saveSlot 18 = .ok (.aaload, 1) := by decide +kernel
theorem dX4_saveSlot_19 : decode cX4_saveSlot 19 = .ok (.aload_n 0, 1) := by decide +kernel
theorem dX4_saveSlot_20 : decode cX4_saveSlot 20 = .ok (.getfield 28, 3) := by decide +kernel
theorem dX4_saveSlot_23 : decode cX4_saveSlot 23 = .ok (.invokevirtual 51, 3) := by decide +kernel
theorem dX4_saveSlot_26 : decode cX4_saveSlot 26 = .ok (.aload_n 0, 1) := by decide +kernel
theorem dX4_saveSlot_27 : decode cX4_saveSlot 27 = .ok (.dup, 1) := by decide +kernel
theorem dX4_saveSlot_28 : decode cX4_saveSlot 28 = .ok (.getfield 48, 3) := by decide +kernel
theorem dX4_saveSlot_31 : decode cX4_saveSlot 31 = .ok (.iconst 1, 1) := by decide +kernel
theorem dX4_saveSlot_32 : decode cX4_saveSlot 32 = .ok (.iload_n 1, 1) := by decide +kernel
theorem dX4_saveSlot_33 : decode cX4_saveSlot 33 = .ok (.ishl, 1) := by decide +kernel
theorem dX4_saveSlot_34 : decode cX4_saveSlot 34 = .ok (.ior, 1) := by decide +kernel
theorem dX4_saveSlot_35 : decode cX4_saveSlot 35 = .ok (.putfield 48, 3) := by decide +kernel
theorem dX4_saveSlot_38 : decode cX4_saveSlot 38 = .ok (.return_, 1) := by decide +kernel
abbrev rmX4_saveSlot : Room := { frames := 4, cells := 0, slots := 0, locals := 153 }
theorem hdX4_saveSlot : yX4_saveSlot.cls ≠ "java/lang/invoke/MethodHandle" ∧ yX4_saveSlot.cls ≠ "java/lang/invoke/VarHandle" ∧ (parseMethodDescriptor yX4_saveSlot.desc).map (fun d => d.parameters.length) = some 1 := by decide +kernel
def fX4_saveSlot (σ : Sg) (b : Nat) (p1 : Int32) : Option Sg :=
  if p1 < 0 then
    some σ
  else
    if (nI ([b + 22, b + 38, b + 54]).length) ≤ p1 then
      some σ
    else
      if ck p1 ([b + 22, b + 38, b + 54]).length then
        (fX1_copyFrom σ (rget [b + 22, b + 38, b + 54] p1) (b + 5)).bind fun σ2 =>
        nm (su σ2 b 6 ((σ2.1 b 6) ||| (1 <<< (p1 &&& 31)))) fun σ3 =>
        some σ3
      else none
theorem kX4_saveSlot (X : Xc) (σ : Sg) (b : Nat) (p1 : Int32) (hb : stOK b) : ∀ r, fX4_saveSlot σ b p1 = some r → Met X.l yX4_saveSlot (wsM yX4_saveSlot cX4_saveSlot 2 none) rmX4_saveSlot (va_Pc [.ref (X.ad b), .int p1] (PW X σ)) (Qv X r) 0 0 X.A := by
  refine mt_of (own := RX4) (lo := [some (.ref (X.ad b)), some (.int (p1))]) (by decide) rfl (Nat.le_of_ble_eq_true rfl) rfl (fun K C hr => ?_)
  unfold fX4_saveSlot
  refine g_iload_n (pc := 0) (i := 1) C dX4_saveSlot_0 rfl rfl ?_
  refine g_if_lt (pc := 1) (tgt := 38) C dX4_saveSlot_1 rfl ?_ ?_
  · exact g_vret (pc := 38) C hr dX4_saveSlot_38 rfl
  · refine g_iload_n (pc := 4) (i := 1) C dX4_saveSlot_4 rfl rfl ?_
    refine g_aload_n (pc := 5) (i := 0) C dX4_saveSlot_5 rfl rfl ?_
    refine g_getr (pc := 6) (ci := 4) (N := 7) (T := TX4) (j := 5) (Cn := RX4) (b + 21) C rfl inlX4 (Nat.le_of_ble_eq_true rfl) q_3_1 (blk hb 0 rfl) rfl dX4_saveSlot_6 ?_
    refine g_palen (pc := 9) C (st_sl hb) dX4_saveSlot_9 ?_
    refine g_icmp_ge (pc := 10) (tgt := 38) C dX4_saveSlot_10 rfl ?_ ?_
    · exact g_vret (pc := 38) C hr dX4_saveSlot_38 rfl
    · refine g_aload_n (pc := 13) (i := 0) C dX4_saveSlot_13 rfl rfl ?_
      refine g_getr (pc := 14) (ci := 4) (N := 7) (T := TX4) (j := 5) (Cn := RX4) (b + 21) C rfl inlX4 (Nat.le_of_ble_eq_true rfl) q_3_1 (blk hb 0 rfl) rfl dX4_saveSlot_14 ?_
      refine g_iload_n (pc := 17) (i := 1) C dX4_saveSlot_17 rfl rfl ?_
      refine g_paload (pc := 18) C (st_sl hb) dX4_saveSlot_18 (fun hm1 => ?_)
      refine g_aload_n (pc := 19) (i := 0) C dX4_saveSlot_19 rfl rfl ?_
      refine g_getr (pc := 20) (ci := 4) (N := 7) (T := TX4) (j := 4) (Cn := RX4) (b + 5) C rfl inlX4 (Nat.le_of_ble_eq_true rfl) q_3_0 (blk hb 0 rfl) rfl dX4_saveSlot_20 ?_
      refine g_callVv (pc := 23) (As := [.ref (X.ad (b + 5))]) C (kX1_copyFrom X σ (rget [b + 22, b + 38, b + 54] p1) (b + 5) (slots_ok hb _ hm1) (st_pl hb)) (blk (slots_ok hb _ hm1) 0 rfl) rfl q_9_7 q_9_8 q_9_9 q_2_23 q_9_10 ⟨rfl, hdX1_copyFrom⟩ ⟨Nat.le_of_ble_eq_true rfl, Nat.le_of_ble_eq_true rfl, rfl, rfl⟩ ⟨Nat.zero_le _, Nat.zero_le _⟩ (Nat.le_of_ble_eq_true rfl) rfl rfl dX4_saveSlot_23 (fun σ2 _ => ?_)
      refine g_aload_n (pc := 26) (i := 0) C dX4_saveSlot_26 rfl rfl ?_
      refine g_dup (pc := 27) C dX4_saveSlot_27 rfl ?_
      refine g_geti (pc := 28) (ci := 4) (N := 7) (T := TX4) (j := 6) (Cn := RX4) C rfl inlX4 (Nat.le_of_ble_eq_true rfl) q_8_15 (blk hb 0 rfl) rfl dX4_saveSlot_28 ?_
      refine g_iconst (pc := 31) (v := 1) C dX4_saveSlot_31 (by decide) ?_
      refine g_iload_n (pc := 32) (i := 1) C dX4_saveSlot_32 rfl rfl ?_
      refine g_ishl (pc := 33) C dX4_saveSlot_33 ?_
      refine g_ior (pc := 34) C dX4_saveSlot_34 ?_
      refine g_puti (pc := 35) (ci := 4) (N := 7) (T := TX4) (j := 6) (Cn := RX4) C rfl inlX4 tyX4_ok nmX4 (Nat.le_of_ble_eq_true rfl) q_8_15 (blk hb 0 rfl) rfl rfl rfl dX4_saveSlot_35 ?_
      refine g_nms (fun σ3 => ?_)
      exact g_vret (pc := 38) C hr dX4_saveSlot_38 rfl
theorem dX4_isSaved_0 : decode cX4_isSaved 0 = .ok (.aload_n 0, 1) := by decide +kernel
theorem dX4_isSaved_1 : decode cX4_isSaved 1 = .ok (.getfield 48, 3) := by decide +kernel
theorem dX4_isSaved_4 : decode cX4_isSaved 4 = .ok (.iload_n 1, 1) := by decide +kernel
theorem dX4_isSaved_5 : decode cX4_isSaved 5 = .ok (.ishr, 1) := by decide +kernel
theorem dX4_isSaved_6 : decode cX4_isSaved 6 = .ok (.iconst 1, 1) := by decide +kernel
theorem dX4_isSaved_7 : decode cX4_isSaved 7 = .ok (.iand, 1) := by decide +kernel
theorem dX4_isSaved_8 : decode cX4_isSaved 8 = .ok (.iconst 1, 1) := by decide +kernel
theorem dX4_isSaved_9 : decode cX4_isSaved 9 = .ok (.if_icmp .ne 7, 3) := by decide +kernel
theorem dX4_isSaved_12 : decode cX4_isSaved 12 = .ok (.iconst 1, 1) := by decide +kernel
theorem dX4_isSaved_13 : decode cX4_isSaved 13 = .ok (.goto 4, 3) := by decide +kernel
theorem dX4_isSaved_16 : decode cX4_isSaved 16 = .ok (.iconst 0, 1) := by decide +kernel
theorem dX4_isSaved_17 : decode cX4_isSaved 17 = .ok (.ireturn, 1) := by decide +kernel
abbrev rmX4_isSaved : Room := { frames := 0, cells := 0, slots := 0, locals := 0 }
theorem hdX4_isSaved : yX4_isSaved.cls ≠ "java/lang/invoke/MethodHandle" ∧ yX4_isSaved.cls ≠ "java/lang/invoke/VarHandle" ∧ (parseMethodDescriptor yX4_isSaved.desc).map (fun d => d.parameters.length) = some 1 := by decide +kernel
def fX4_isSaved (σ : Sg) (b : Nat) (p1 : Int32) : Option Bool :=
  if (((σ.1 b 6) >>> (p1 &&& 31)) &&& 1) = 1 then
    some true
  else
    some false
theorem kX4_isSaved (X : Xc) (σ : Sg) (b : Nat) (p1 : Int32) (hb : stOK b) : ∀ r, fX4_isSaved σ b p1 = some r → Met X.l yX4_isSaved (wsM yX4_isSaved cX4_isSaved 2 (some .boolean)) rmX4_isSaved (va_Pc [.ref (X.ad b), .int p1] (PW X σ)) (Qi X (b2i r) σ) 0 0 X.A := by
  refine mt_of (own := RX4) (lo := [some (.ref (X.ad b)), some (.int (p1))]) (by decide) rfl (Nat.le_of_ble_eq_true rfl) rfl (fun K C hr => ?_)
  unfold fX4_isSaved
  refine g_aload_n (pc := 0) (i := 0) C dX4_isSaved_0 rfl rfl ?_
  refine g_geti (pc := 1) (ci := 4) (N := 7) (T := TX4) (j := 6) (Cn := RX4) C rfl inlX4 (Nat.le_of_ble_eq_true rfl) q_8_15 (blk hb 0 rfl) rfl dX4_isSaved_1 ?_
  refine g_iload_n (pc := 4) (i := 1) C dX4_isSaved_4 rfl rfl ?_
  refine g_ishr (pc := 5) C dX4_isSaved_5 ?_
  refine g_iconst (pc := 6) (v := 1) C dX4_isSaved_6 (by decide) ?_
  refine g_iand (pc := 7) C dX4_isSaved_7 ?_
  refine g_iconst (pc := 8) (v := 1) C dX4_isSaved_8 (by decide) ?_
  refine g_icmp_ne (pc := 9) (tgt := 16) C dX4_isSaved_9 rfl ?_ ?_
  · refine g_iconst (pc := 12) (v := 1) C dX4_isSaved_12 (by decide) ?_
    refine g_goto (pc := 13) (tgt := 17) C dX4_isSaved_13 rfl ?_
    exact g_zret (pc := 17) C hr dX4_isSaved_17 rfl
  · refine g_iconst (pc := 16) (v := 0) C dX4_isSaved_16 (by decide) ?_
    exact g_zret (pc := 17) C hr dX4_isSaved_17 rfl
theorem dX4_settleFocus_0 : decode cX4_settleFocus 0 = .ok (.iconst 0, 1) := by decide +kernel
theorem dX4_settleFocus_1 : decode cX4_settleFocus 1 = .ok (.istore_n 1, 1) := by decide +kernel
theorem dX4_settleFocus_2 : decode cX4_settleFocus 2 = .ok (.iload_n 1, 1) := by decide +kernel
theorem dX4_settleFocus_3 : decode cX4_settleFocus 3 = .ok (.bipush 12, 2) := by decide +kernel
theorem dX4_settleFocus_5 : decode cX4_settleFocus 5 = .ok (.if_icmp .ge 52, 3) := by decide +kernel
theorem dX4_settleFocus_8 : decode cX4_settleFocus 8 = .ok (.aload_n 0, 1) := by decide +kernel
theorem dX4_settleFocus_9 : decode cX4_settleFocus 9 = .ok (.getfield 28, 3) := by decide +kernel
theorem dX4_settleFocus_12 : decode cX4_settleFocus 12 = .ok (.iload_n 1, 1) := by decide +kernel
theorem dX4_settleFocus_13 : decode cX4_settleFocus 13 = .ok (.invokevirtual 76, 3) := by decide +kernel
theorem dX4_settleFocus_16 : decode cX4_settleFocus 16 = .ok (.iconst (-1), 1) := by decide +kernel
theorem dX4_settleFocus_17 : decode cX4_settleFocus 17 = .ok (.if_icmp .ne 14, 3) := by decide +kernel
theorem dX4_settleFocus_20 : decode cX4_settleFocus 20 = .ok (.aload_n 0, 1) := by decide +kernel
theorem dX4_settleFocus_21 : decode cX4_settleFocus 21 = .ok (.getfield 21, 3) := by decide +kernel
theorem dX4_settleFocus_24 : decode cX4_settleFocus 24 = .ok (.iload_n 1, 1) := by decide +kernel
theorem dX4_settleFocus_25 : decode cX4_settleFocus 25 = .ok (.invokevirtual 80, 3) := by decide +kernel
theorem dX4_settleFocus_28 : decode cX4_settleFocus 28 = .ok (.goto 23, 3) := by decide +kernel
theorem dX4_settleFocus_31 : decode cX4_settleFocus 31 = .ok (.aload_n 0, 1) := by decide +kernel
theorem dX4_settleFocus_32 : decode cX4_settleFocus 32 = .ok (.getfield 21, 3) := by decide +kernel
theorem dX4_settleFocus_35 : decode cX4_settleFocus 35 = .ok (.iload_n 1, 1) := by decide +kernel
theorem dX4_settleFocus_36 : decode cX4_settleFocus 36 = .ok (.invokevirtual 83, 3) := by decide +kernel
theorem dX4_settleFocus_39 : decode cX4_settleFocus 39 = .ok (.iconst (-1), 1) := by decide +kernel
theorem dX4_settleFocus_40 : decode cX4_settleFocus 40 = .ok (.if_icmp .ne 11, 3) := by decide +kernel
theorem dX4_settleFocus_43 : decode cX4_settleFocus 43 = .ok (.aload_n 0, 1) := by decide +kernel
theorem dX4_settleFocus_44 : decode cX4_settleFocus 44 = .ok (.getfield 21, 3) := by decide +kernel
theorem dX4_settleFocus_47 : decode cX4_settleFocus 47 = .ok (.iload_n 1, 1) := by decide +kernel
theorem dX4_settleFocus_48 : decode cX4_settleFocus 48 = .ok (.invokevirtual 86, 3) := by decide +kernel
theorem dX4_settleFocus_51 : decode cX4_settleFocus 51 = .ok (.iinc 1 1, 3) := by decide +kernel
theorem dX4_settleFocus_54 : decode cX4_settleFocus 54 = .ok (.goto (-52), 3) := by decide +kernel
theorem dX4_settleFocus_57 : decode cX4_settleFocus 57 = .ok (.return_, 1) := by decide +kernel
abbrev rmX4_settleFocus : Room := { frames := 4, cells := 0, slots := 0, locals := 87 }
theorem hdX4_settleFocus : yX4_settleFocus.cls ≠ "java/lang/invoke/MethodHandle" ∧ yX4_settleFocus.cls ≠ "java/lang/invoke/VarHandle" ∧ (parseMethodDescriptor yX4_settleFocus.desc).map (fun d => d.parameters.length) = some 0 := by decide +kernel
def fX4_settleFocus_51 (b : Nat) (k2 : Sg → Int32 → Option Sg) (σ : Sg) (l1 : Int32) : Option Sg :=
  (k2 σ (l1 + 1))
theorem bX4_settleFocus_51 {X : Xc} {K : Kc} (C : MC X K cX4_settleFocus 2 RX4 rmX4_settleFocus) (hr : K.meth.sig.returnType = none) (b : Nat) (hb : stOK b){k2 : Sg → Int32 → Option Sg} (hk2 : ∀ (σ : Sg) (l1 : Int32), GO X K 2 (fun r => MQv X K r) (k2 σ l1) σ 0 0 2 [some (.ref (X.ad b)), some (.int (l1))] []) (σ : Sg) (l1 : Int32) : GO X K 2 (fun r => MQv X K r) (fX4_settleFocus_51 b k2 σ l1) σ 0 0 51 [some (.ref (X.ad b)), some (.int (l1))] [] := by
  unfold fX4_settleFocus_51
  refine g_iinc (pc := 51) (v := l1 + 1) C dX4_settleFocus_51 rfl (rfl) (Nat.le_of_ble_eq_true rfl) rfl ?_
  refine g_goto (pc := 54) (tgt := 2) C dX4_settleFocus_54 rfl ?_
  refine g_keep [true, true] ?_
  exact hk2 σ (l1 + 1)
def fX4_settleFocus_2 (b : Nat) : Nat → Sg → Int32 → Option Sg
  | 0, _, _ => none
  | n + 1, σ, l1 =>
    if 12 ≤ l1 then
      some σ
    else
      (fX1_groupOf σ (b + 5) l1).bind fun r1 =>
      if r1 = (-1) then
        (fX0_leave σ (b + 3) l1).bind fun σ2 =>
        (fX4_settleFocus_51 b (fX4_settleFocus_2 b n) σ2 l1)
      else
        (fX0_indexOf σ (b + 3) l1).bind fun r3 =>
        if r3 = (-1) then
          (fX0_putLast σ (b + 3) l1).bind fun σ4 =>
          (fX4_settleFocus_51 b (fX4_settleFocus_2 b n) σ4 l1)
        else
          (fX4_settleFocus_51 b (fX4_settleFocus_2 b n) σ l1)
theorem bX4_settleFocus_2 {X : Xc} {K : Kc} (C : MC X K cX4_settleFocus 2 RX4 rmX4_settleFocus) (hr : K.meth.sig.returnType = none) (b : Nat) (hb : stOK b) : ∀ (n : Nat) (σ : Sg) (l1 : Int32), GO X K 2 (fun r => MQv X K r) (fX4_settleFocus_2 b n σ l1) σ 0 0 2 [some (.ref (X.ad b)), some (.int (l1))] [] := by
  intro n
  induction n with
  | zero =>
    intro σ l1
    exact g_none
  | succ n ih =>
    intro σ l1
    unfold fX4_settleFocus_2
    refine g_iload_n (pc := 2) (i := 1) C dX4_settleFocus_2 rfl rfl ?_
    refine g_bipush (pc := 3) (v := 12) C dX4_settleFocus_3 (by decide) ?_
    refine g_icmp_ge (pc := 5) (tgt := 57) C dX4_settleFocus_5 rfl ?_ ?_
    · exact g_vret (pc := 57) C hr dX4_settleFocus_57 rfl
    · refine g_aload_n (pc := 8) (i := 0) C dX4_settleFocus_8 rfl rfl ?_
      refine g_getr (pc := 9) (ci := 4) (N := 7) (T := TX4) (j := 4) (Cn := RX4) (b + 5) C rfl inlX4 (Nat.le_of_ble_eq_true rfl) q_3_0 (blk hb 0 rfl) rfl dX4_settleFocus_9 ?_
      refine g_iload_n (pc := 12) (i := 1) C dX4_settleFocus_12 rfl rfl ?_
      refine g_callVi (pc := 13) (As := [.int (l1)]) C (kX1_groupOf X σ (b + 5) l1 (st_pl hb)) (blk (st_pl hb) 0 rfl) rfl q_48_4 q_11_19 q_11_20 q_2_23 q_11_21 ⟨rfl, hdX1_groupOf⟩ ⟨Nat.le_of_ble_eq_true rfl, Nat.le_of_ble_eq_true rfl, rfl, rfl⟩ ⟨Nat.zero_le _, Nat.zero_le _⟩ (Nat.le_of_ble_eq_true rfl) rfl rfl dX4_settleFocus_13 (fun r1 _ => ?_)
      refine g_iconst (pc := 16) (v := (-1)) C dX4_settleFocus_16 (by decide) ?_
      refine g_icmp_ne (pc := 17) (tgt := 31) C dX4_settleFocus_17 rfl ?_ ?_
      · refine g_aload_n (pc := 20) (i := 0) C dX4_settleFocus_20 rfl rfl ?_
        refine g_getr (pc := 21) (ci := 4) (N := 7) (T := TX4) (j := 3) (Cn := RX4) (b + 3) C rfl inlX4 (Nat.le_of_ble_eq_true rfl) q_2_20 (blk hb 0 rfl) rfl dX4_settleFocus_21 ?_
        refine g_iload_n (pc := 24) (i := 1) C dX4_settleFocus_24 rfl rfl ?_
        refine g_callVv (pc := 25) (As := [.int (l1)]) C (kX0_leave X σ (b + 3) l1 (st_or hb)) (blk (st_or hb) 0 rfl) rfl q_48_5 q_13_13 q_13_14 q_2_19 q_13_15 ⟨rfl, hdX0_leave⟩ ⟨Nat.le_of_ble_eq_true rfl, Nat.le_of_ble_eq_true rfl, rfl, rfl⟩ ⟨Nat.zero_le _, Nat.zero_le _⟩ (Nat.le_of_ble_eq_true rfl) rfl rfl dX4_settleFocus_25 (fun σ2 _ => ?_)
        refine g_goto (pc := 28) (tgt := 51) C dX4_settleFocus_28 rfl ?_
        refine g_keep [true, true] ?_
        exact bX4_settleFocus_51 C hr b hb ih σ2 l1
      · refine g_aload_n (pc := 31) (i := 0) C dX4_settleFocus_31 rfl rfl ?_
        refine g_getr (pc := 32) (ci := 4) (N := 7) (T := TX4) (j := 3) (Cn := RX4) (b + 3) C rfl inlX4 (Nat.le_of_ble_eq_true rfl) q_2_20 (blk hb 0 rfl) rfl dX4_settleFocus_32 ?_
        refine g_iload_n (pc := 35) (i := 1) C dX4_settleFocus_35 rfl rfl ?_
        refine g_callVi (pc := 36) (As := [.int (l1)]) C (kX0_indexOf X σ (b + 3) l1 (st_or hb)) (blk (st_or hb) 0 rfl) rfl q_48_6 q_13_17 q_13_18 q_2_19 q_13_19 ⟨rfl, hdX0_indexOf⟩ ⟨Nat.le_of_ble_eq_true rfl, Nat.le_of_ble_eq_true rfl, rfl, rfl⟩ ⟨Nat.zero_le _, Nat.zero_le _⟩ (Nat.le_of_ble_eq_true rfl) rfl rfl dX4_settleFocus_36 (fun r3 _ => ?_)
        refine g_iconst (pc := 39) (v := (-1)) C dX4_settleFocus_39 (by decide) ?_
        refine g_icmp_ne (pc := 40) (tgt := 51) C dX4_settleFocus_40 rfl ?_ ?_
        · refine g_aload_n (pc := 43) (i := 0) C dX4_settleFocus_43 rfl rfl ?_
          refine g_getr (pc := 44) (ci := 4) (N := 7) (T := TX4) (j := 3) (Cn := RX4) (b + 3) C rfl inlX4 (Nat.le_of_ble_eq_true rfl) q_2_20 (blk hb 0 rfl) rfl dX4_settleFocus_44 ?_
          refine g_iload_n (pc := 47) (i := 1) C dX4_settleFocus_47 rfl rfl ?_
          refine g_callVv (pc := 48) (As := [.int (l1)]) C (kX0_putLast X σ (b + 3) l1 (st_or hb)) (blk (st_or hb) 0 rfl) rfl q_48_7 q_31_14 q_31_15 q_2_19 q_31_16 ⟨rfl, hdX0_putLast⟩ ⟨Nat.le_of_ble_eq_true rfl, Nat.le_of_ble_eq_true rfl, rfl, rfl⟩ ⟨Nat.zero_le _, Nat.zero_le _⟩ (Nat.le_of_ble_eq_true rfl) rfl rfl dX4_settleFocus_48 (fun σ4 _ => ?_)
          refine g_keep [true, true] ?_
          exact bX4_settleFocus_51 C hr b hb ih σ4 l1
        · refine g_keep [true, true] ?_
          exact bX4_settleFocus_51 C hr b hb ih σ l1
def fX4_settleFocus (σ : Sg) (b : Nat) : Option Sg :=
  (fX4_settleFocus_2 b FU σ 0)
theorem kX4_settleFocus (X : Xc) (σ : Sg) (b : Nat) (hb : stOK b) : ∀ r, fX4_settleFocus σ b = some r → Met X.l yX4_settleFocus (wsM yX4_settleFocus cX4_settleFocus 2 none) rmX4_settleFocus (va_Pc [.ref (X.ad b)] (PW X σ)) (Qv X r) 0 0 X.A := by
  refine mt_of (own := RX4) (lo := [some (.ref (X.ad b)), none]) (by decide) rfl (Nat.le_of_ble_eq_true rfl) rfl (fun K C hr => ?_)
  unfold fX4_settleFocus
  refine g_iconst (pc := 0) (v := 0) C dX4_settleFocus_0 (by decide) ?_
  refine g_istore_n (pc := 1) (i := 1) C dX4_settleFocus_1 rfl (Nat.le_of_ble_eq_true rfl) rfl ?_
  refine g_keep [true, true] ?_
  exact bX4_settleFocus_2 C hr b hb FU σ 0
theorem dX4_loadSlot_0 : decode cX4_loadSlot 0 = .ok (.iload_n 1, 1) := by decide +kernel
theorem dX4_loadSlot_1 : decode cX4_loadSlot 1 = .ok (.ifCond .lt 12, 3) := by decide +kernel
theorem dX4_loadSlot_4 : decode cX4_loadSlot 4 = .ok (.iload_n 1, 1) := by decide +kernel
theorem dX4_loadSlot_5 : decode cX4_loadSlot 5 = .ok (.aload_n 0, 1) := by decide +kernel
theorem dX4_loadSlot_6 : decode cX4_loadSlot 6 = .ok (.getfield 32, 3) := by decide +kernel
theorem dX4_loadSlot_9 : decode cX4_loadSlot 9 = .ok (.arraylength, 1) := by decide +kernel
theorem dX4_loadSlot_10 : decode cX4_loadSlot 10 = .ok (.if_icmp .lt 4, 3) := by decide +kernel
theorem dX4_loadSlot_13 : decode cX4_loadSlot 13 = .ok (.return_, 1) := by decide +kernel
theorem dX4_loadSlot_14 : decode cX4_loadSlot 14 = .ok (.aload_n 0, 1) := by decide +kernel
theorem dX4_loadSlot_15 : decode cX4_loadSlot 15 = .ok (.getfield 28, 3) := by decide +kernel
theorem dX4_loadSlot_18 : decode cX4_loadSlot 18 = .ok (.getfield 55, 3) := by decide +kernel
theorem dX4_loadSlot_21 : decode cX4_loadSlot 21 = .ok (.iconst 0, 1) := by decide +kernel
theorem dX4_loadSlot_22 : decode cX4_loadSlot 22 = .ok (.invokestatic 58, 3) := by decide +kernel
theorem dX4_loadSlot_25 : decode cX4_loadSlot 25 = .ok (.istore_n 2, 1) := by decide +kernel
theorem dX4_loadSlot_26 : decode cX4_loadSlot 26 = .ok (.aload_n 0, 1) := by decide +kernel
theorem dX4_loadSlot_27 : decode cX4_loadSlot 27 = .ok (.getfield 28, 3) := by decide +kernel
theorem dX4_loadSlot_30 : decode cX4_loadSlot 30 = .ok (.getfield 62, 3) := by decide +kernel
theorem dX4_loadSlot_33 : decode cX4_loadSlot 33 = .ok (.iconst 0, 1) := by decide +kernel
theorem dX4_loadSlot_34 : decode cX4_loadSlot 34 = .ok (.invokestatic 58, 3) := by decide +kernel
theorem dX4_loadSlot_37 : decode cX4_loadSlot 37 = .ok (.istore_n 3, 1) := by decide +kernel
theorem dX4_loadSlot_38 : decode cX4_loadSlot 38 = .ok (.aload_n 0, 1) := by decide +kernel
theorem dX4_loadSlot_39 : decode cX4_loadSlot 39 = .ok (.getfield 28, 3) := by decide +kernel
theorem dX4_loadSlot_42 : decode cX4_loadSlot 42 = .ok (.aload_n 0, 1) := by decide +kernel
theorem dX4_loadSlot_43 : decode cX4_loadSlot 43 = .ok (.getfield 32, 3) := by decide +kernel
theorem dX4_loadSlot_46 : decode cX4_loadSlot 46 = .ok (.iload_n 1, 1) := by decide +kernel
theorem dX4_loadSlot_47 : decode cX4_loadSlot 47 = .ok (.aaload, 1) := by decide +kernel
theorem dX4_loadSlot_48 : decode cX4_loadSlot 48 = .ok (.invokevirtual 51, 3) := by decide +kernel
theorem dX4_loadSlot_51 : decode cX4_loadSlot 51 = .ok (.aload_n 0, 1) := by decide +kernel
theorem dX4_loadSlot_52 : decode cX4_loadSlot 52 = .ok (.getfield 28, 3) := by decide +kernel
theorem dX4_loadSlot_55 : decode cX4_loadSlot 55 = .ok (.iconst 0, 1) := by decide +kernel
theorem dX4_loadSlot_56 : decode cX4_loadSlot 56 = .ok (.iload_n 2, 1) := by decide +kernel
theorem dX4_loadSlot_57 : decode cX4_loadSlot 57 = .ok (.iload_n 3, 1) := by decide +kernel
theorem dX4_loadSlot_58 : decode cX4_loadSlot 58 = .ok (.invokevirtual 65, 3) := by decide +kernel
theorem dX4_loadSlot_61 : decode cX4_loadSlot 61 = .ok (.iconst 0, 1) := by decide +kernel
theorem dX4_loadSlot_62 : decode cX4_loadSlot 62 = .ok (.istore 4, 2) := by decide +kernel
theorem dX4_loadSlot_64 : decode cX4_loadSlot 64 = .ok (.iload 4, 2) := by decide +kernel
theorem dX4_loadSlot_66 : decode cX4_loadSlot 66 = .ok (.bipush 12, 2) := by decide +kernel
theorem dX4_loadSlot_68 : decode cX4_loadSlot 68 = .ok (.if_icmp .ge 27, 3) := by decide +kernel
theorem dX4_loadSlot_71 : decode cX4_loadSlot 71 = .ok (.aload_n 0, 1) := by decide +kernel
theorem dX4_loadSlot_72 : decode cX4_loadSlot 72 = .ok (.iload 4, 2) := by decide +kernel
theorem dX4_loadSlot_74 : decode cX4_loadSlot 74 = .ok (.invokevirtual 40, 3) := by decide +kernel
theorem dX4_loadSlot_77 : decode cX4_loadSlot 77 = .ok (.ifCond .ne 12, 3) := by decide +kernel
theorem dX4_loadSlot_80 : decode cX4_loadSlot 80 = .ok (.aload_n 0, 1) := by decide +kernel
theorem dX4_loadSlot_81 : decode cX4_loadSlot 81 = .ok (.getfield 28, 3) := by decide +kernel
theorem dX4_loadSlot_84 : decode cX4_loadSlot 84 = .ok (.iload 4, 2) := by decide +kernel
theorem dX4_loadSlot_86 : decode cX4_loadSlot 86 = .ok (.invokevirtual 69, 3) := by decide +kernel
theorem dX4_loadSlot_89 : decode cX4_loadSlot 89 = .ok (.iinc 4 1, 3) := by decide +kernel
theorem dX4_loadSlot_92 : decode cX4_loadSlot 92 = .ok (.goto (-28), 3) := by decide +kernel
theorem dX4_loadSlot_95 : decode cX4_loadSlot 95 = .ok (.aload_n 0, 1) := by decide +kernel
theorem dX4_loadSlot_96 : decode cX4_loadSlot 96 = .ok (.invokevirtual 73, 3) := by decide +kernel
theorem dX4_loadSlot_99 : decode cX4_loadSlot 99 = .ok (.return_, 1) := by decide +kernel
abbrev rmX4_loadSlot : Room := { frames := 5, cells := 0, slots := 0, locals := 153 }
theorem hdX4_loadSlot : yX4_loadSlot.cls ≠ "java/lang/invoke/MethodHandle" ∧ yX4_loadSlot.cls ≠ "java/lang/invoke/VarHandle" ∧ (parseMethodDescriptor yX4_loadSlot.desc).map (fun d => d.parameters.length) = some 1 := by decide +kernel
def fX4_loadSlot_89 (b : Nat) (k64 : Sg → Int32 → Option Sg) (σ : Sg) (l4 : Int32) : Option Sg :=
  (k64 σ (l4 + 1))
theorem bX4_loadSlot_89 {X : Xc} {K : Kc} (C : MC X K cX4_loadSlot 5 RX4 rmX4_loadSlot) (hr : K.meth.sig.returnType = none) (b : Nat) (hb : stOK b){k64 : Sg → Int32 → Option Sg} (hk64 : ∀ (σ : Sg) (l4 : Int32), GO X K 5 (fun r => MQv X K r) (k64 σ l4) σ 0 0 64 [some (.ref (X.ad b)), none, none, none, some (.int (l4))] []) (σ : Sg) (l4 : Int32) : GO X K 5 (fun r => MQv X K r) (fX4_loadSlot_89 b k64 σ l4) σ 0 0 89 [some (.ref (X.ad b)), none, none, none, some (.int (l4))] [] := by
  unfold fX4_loadSlot_89
  refine g_iinc (pc := 89) (v := l4 + 1) C dX4_loadSlot_89 rfl (rfl) (Nat.le_of_ble_eq_true rfl) rfl ?_
  refine g_goto (pc := 92) (tgt := 64) C dX4_loadSlot_92 rfl ?_
  refine g_keep [true, false, false, false, true] ?_
  exact hk64 σ (l4 + 1)
def fX4_loadSlot_64 (b : Nat) : Nat → Sg → Int32 → Option Sg
  | 0, _, _ => none
  | n + 1, σ, l4 =>
    if 12 ≤ l4 then
      (fX4_settleFocus σ b).bind fun σ6 =>
      some σ6
    else
      (fX4_exists σ b l4).bind fun r7 =>
      if r7 = true then
        (fX4_loadSlot_89 b (fX4_loadSlot_64 b n) σ l4)
      else
        (fX1_withdraw σ (b + 5) l4).bind fun σ8 =>
        (fX4_loadSlot_89 b (fX4_loadSlot_64 b n) σ8 l4)
theorem bX4_loadSlot_64 {X : Xc} {K : Kc} (C : MC X K cX4_loadSlot 5 RX4 rmX4_loadSlot) (hr : K.meth.sig.returnType = none) (b : Nat) (hb : stOK b) : ∀ (n : Nat) (σ : Sg) (l4 : Int32), GO X K 5 (fun r => MQv X K r) (fX4_loadSlot_64 b n σ l4) σ 0 0 64 [some (.ref (X.ad b)), none, none, none, some (.int (l4))] [] := by
  intro n
  induction n with
  | zero =>
    intro σ l4
    exact g_none
  | succ n ih =>
    intro σ l4
    unfold fX4_loadSlot_64
    refine g_iload (pc := 64) C dX4_loadSlot_64 rfl ?_
    refine g_bipush (pc := 66) (v := 12) C dX4_loadSlot_66 (by decide) ?_
    refine g_icmp_ge (pc := 68) (tgt := 95) C dX4_loadSlot_68 rfl ?_ ?_
    · refine g_aload_n (pc := 95) (i := 0) C dX4_loadSlot_95 rfl rfl ?_
      refine g_callVv (pc := 96) (As := []) C (kX4_settleFocus X σ b hb) (blk hb 0 rfl) rfl q_48_0 q_48_1 q_48_2 q_1_15 q_48_3 ⟨rfl, hdX4_settleFocus⟩ ⟨Nat.le_of_ble_eq_true rfl, Nat.le_of_ble_eq_true rfl, rfl, rfl⟩ ⟨Nat.zero_le _, Nat.zero_le _⟩ (Nat.le_of_ble_eq_true rfl) rfl rfl dX4_loadSlot_96 (fun σ6 _ => ?_)
      exact g_vret (pc := 99) C hr dX4_loadSlot_99 rfl
    · refine g_aload_n (pc := 71) (i := 0) C dX4_loadSlot_71 rfl rfl ?_
      refine g_iload (pc := 72) C dX4_loadSlot_72 rfl ?_
      refine g_callVi (pc := 74) (As := [.int (l4)]) C (kX4_exists X σ b l4 hb) (blk hb 0 rfl) rfl q_7_16 q_7_17 q_7_18 q_1_15 q_7_19 ⟨rfl, hdX4_exists⟩ ⟨Nat.le_of_ble_eq_true rfl, Nat.le_of_ble_eq_true rfl, rfl, rfl⟩ ⟨Nat.zero_le _, Nat.zero_le _⟩ (Nat.le_of_ble_eq_true rfl) rfl rfl dX4_loadSlot_74 (fun r7 _ => ?_)
      refine g_ifb_ne (pc := 77) (tgt := 89) C dX4_loadSlot_77 rfl ?_ ?_
      · refine g_keep [true, false, false, false, true] ?_
        exact bX4_loadSlot_89 C hr b hb ih σ l4
      · refine g_aload_n (pc := 80) (i := 0) C dX4_loadSlot_80 rfl rfl ?_
        refine g_getr (pc := 81) (ci := 4) (N := 7) (T := TX4) (j := 4) (Cn := RX4) (b + 5) C rfl inlX4 (Nat.le_of_ble_eq_true rfl) q_3_0 (blk hb 0 rfl) rfl dX4_loadSlot_81 ?_
        refine g_iload (pc := 84) C dX4_loadSlot_84 rfl ?_
        refine g_callVv (pc := 86) (As := [.int (l4)]) C (kX1_withdraw X σ (b + 5) l4 (st_pl hb)) (blk (st_pl hb) 0 rfl) rfl q_47_23 q_11_15 q_11_16 q_2_23 q_11_17 ⟨rfl, hdX1_withdraw⟩ ⟨Nat.le_of_ble_eq_true rfl, Nat.le_of_ble_eq_true rfl, rfl, rfl⟩ ⟨Nat.zero_le _, Nat.zero_le _⟩ (Nat.le_of_ble_eq_true rfl) rfl rfl dX4_loadSlot_86 (fun σ8 _ => ?_)
        refine g_keep [true, false, false, false, true] ?_
        exact bX4_loadSlot_89 C hr b hb ih σ8 l4
def fX4_loadSlot (σ : Sg) (b : Nat) (p1 : Int32) : Option Sg :=
  if p1 < 0 then
    some σ
  else
    if p1 < (nI ([b + 22, b + 38, b + 54]).length) then
      (fX8_at σ ((b + 5) + 3) 5 0).bind fun r1 =>
      (fX8_at σ ((b + 5) + 4) 5 0).bind fun r2 =>
      if ck p1 ([b + 22, b + 38, b + 54]).length then
        (fX1_copyFrom σ (b + 5) (rget [b + 22, b + 38, b + 54] p1)).bind fun σ4 =>
        (fX1_setSize σ4 (b + 5) 0 r1 r2).bind fun σ5 =>
        (fX4_loadSlot_64 b FU σ5 0)
      else none
    else
      some σ
theorem kX4_loadSlot (X : Xc) (σ : Sg) (b : Nat) (p1 : Int32) (hb : stOK b) : ∀ r, fX4_loadSlot σ b p1 = some r → Met X.l yX4_loadSlot (wsM yX4_loadSlot cX4_loadSlot 5 none) rmX4_loadSlot (va_Pc [.ref (X.ad b), .int p1] (PW X σ)) (Qv X r) 0 0 X.A := by
  refine mt_of (own := RX4) (lo := [some (.ref (X.ad b)), some (.int (p1)), none, none, none]) (by decide) rfl (Nat.le_of_ble_eq_true rfl) rfl (fun K C hr => ?_)
  unfold fX4_loadSlot
  refine g_iload_n (pc := 0) (i := 1) C dX4_loadSlot_0 rfl rfl ?_
  refine g_if_lt (pc := 1) (tgt := 13) C dX4_loadSlot_1 rfl ?_ ?_
  · exact g_vret (pc := 13) C hr dX4_loadSlot_13 rfl
  · refine g_iload_n (pc := 4) (i := 1) C dX4_loadSlot_4 rfl rfl ?_
    refine g_aload_n (pc := 5) (i := 0) C dX4_loadSlot_5 rfl rfl ?_
    refine g_getr (pc := 6) (ci := 4) (N := 7) (T := TX4) (j := 5) (Cn := RX4) (b + 21) C rfl inlX4 (Nat.le_of_ble_eq_true rfl) q_3_1 (blk hb 0 rfl) rfl dX4_loadSlot_6 ?_
    refine g_palen (pc := 9) C (st_sl hb) dX4_loadSlot_9 ?_
    refine g_icmp_lt (pc := 10) (tgt := 14) C dX4_loadSlot_10 rfl ?_ ?_
    · refine g_aload_n (pc := 14) (i := 0) C dX4_loadSlot_14 rfl rfl ?_
      refine g_getr (pc := 15) (ci := 4) (N := 7) (T := TX4) (j := 4) (Cn := RX4) (b + 5) C rfl inlX4 (Nat.le_of_ble_eq_true rfl) q_3_0 (blk hb 0 rfl) rfl dX4_loadSlot_15 ?_
      refine g_getNr (pc := 18) (ci := 1) (N := 14) (T := TX1) (j := 2) (Cn := RX1) ((b + 5) + 3) C rfl inlX1 (Nat.le_of_ble_eq_true rfl) (List.mem_of_getElem? (i := 7) rfl) (blk (st_pl hb) 0 rfl) rfl dX4_loadSlot_18 ?_
      refine g_iconst (pc := 21) (v := 0) C dX4_loadSlot_21 (by decide) ?_
      refine g_callNi (pc := 22) (As := [.ref (X.ad ((b + 5) + 3)), .int (0)]) C (kX8_at X σ ((b + 5) + 3) 5 0 (blk (st_pl hb) 3 rfl)) (List.mem_of_getElem? (i := 13) rfl) q_11_22 q_1_2 q_11_23 hdX8_at ⟨Nat.le_of_ble_eq_true rfl, Nat.le_of_ble_eq_true rfl, rfl, rfl⟩ ⟨Nat.zero_le _, Nat.zero_le _⟩ (Nat.le_of_ble_eq_true rfl) rfl rfl dX4_loadSlot_22 (fun r1 _ => ?_)
      refine g_istore_n (pc := 25) (i := 2) C dX4_loadSlot_25 rfl (Nat.le_of_ble_eq_true rfl) rfl ?_
      refine g_aload_n (pc := 26) (i := 0) C dX4_loadSlot_26 rfl rfl ?_
      refine g_getr (pc := 27) (ci := 4) (N := 7) (T := TX4) (j := 4) (Cn := RX4) (b + 5) C rfl inlX4 (Nat.le_of_ble_eq_true rfl) q_3_0 (blk hb 0 rfl) rfl dX4_loadSlot_27 ?_
      refine g_getNr (pc := 30) (ci := 1) (N := 14) (T := TX1) (j := 3) (Cn := RX1) ((b + 5) + 4) C rfl inlX1 (Nat.le_of_ble_eq_true rfl) (List.mem_of_getElem? (i := 8) rfl) (blk (st_pl hb) 0 rfl) rfl dX4_loadSlot_30 ?_
      refine g_iconst (pc := 33) (v := 0) C dX4_loadSlot_33 (by decide) ?_
      refine g_callNi (pc := 34) (As := [.ref (X.ad ((b + 5) + 4)), .int (0)]) C (kX8_at X σ ((b + 5) + 4) 5 0 (blk (st_pl hb) 4 rfl)) (List.mem_of_getElem? (i := 13) rfl) q_11_22 q_1_2 q_11_23 hdX8_at ⟨Nat.le_of_ble_eq_true rfl, Nat.le_of_ble_eq_true rfl, rfl, rfl⟩ ⟨Nat.zero_le _, Nat.zero_le _⟩ (Nat.le_of_ble_eq_true rfl) rfl rfl dX4_loadSlot_34 (fun r2 _ => ?_)
      refine g_istore_n (pc := 37) (i := 3) C dX4_loadSlot_37 rfl (Nat.le_of_ble_eq_true rfl) rfl ?_
      refine g_aload_n (pc := 38) (i := 0) C dX4_loadSlot_38 rfl rfl ?_
      refine g_getr (pc := 39) (ci := 4) (N := 7) (T := TX4) (j := 4) (Cn := RX4) (b + 5) C rfl inlX4 (Nat.le_of_ble_eq_true rfl) q_3_0 (blk hb 0 rfl) rfl dX4_loadSlot_39 ?_
      refine g_aload_n (pc := 42) (i := 0) C dX4_loadSlot_42 rfl rfl ?_
      refine g_getr (pc := 43) (ci := 4) (N := 7) (T := TX4) (j := 5) (Cn := RX4) (b + 21) C rfl inlX4 (Nat.le_of_ble_eq_true rfl) q_3_1 (blk hb 0 rfl) rfl dX4_loadSlot_43 ?_
      refine g_iload_n (pc := 46) (i := 1) C dX4_loadSlot_46 rfl rfl ?_
      refine g_paload (pc := 47) C (st_sl hb) dX4_loadSlot_47 (fun hm3 => ?_)
      refine g_callVv (pc := 48) (As := [.ref (X.ad (rget [b + 22, b + 38, b + 54] p1))]) C (kX1_copyFrom X σ (b + 5) (rget [b + 22, b + 38, b + 54] p1) (st_pl hb) (slots_ok hb _ hm3)) (blk (st_pl hb) 0 rfl) rfl q_9_7 q_9_8 q_9_9 q_2_23 q_9_10 ⟨rfl, hdX1_copyFrom⟩ ⟨Nat.le_of_ble_eq_true rfl, Nat.le_of_ble_eq_true rfl, rfl, rfl⟩ ⟨Nat.zero_le _, Nat.zero_le _⟩ (Nat.le_of_ble_eq_true rfl) rfl rfl dX4_loadSlot_48 (fun σ4 _ => ?_)
      refine g_aload_n (pc := 51) (i := 0) C dX4_loadSlot_51 rfl rfl ?_
      refine g_getr (pc := 52) (ci := 4) (N := 7) (T := TX4) (j := 4) (Cn := RX4) (b + 5) C rfl inlX4 (Nat.le_of_ble_eq_true rfl) q_3_0 (blk hb 0 rfl) rfl dX4_loadSlot_52 ?_
      refine g_iconst (pc := 55) (v := 0) C dX4_loadSlot_55 (by decide) ?_
      refine g_iload_n (pc := 56) (i := 2) C dX4_loadSlot_56 rfl rfl ?_
      refine g_iload_n (pc := 57) (i := 3) C dX4_loadSlot_57 rfl rfl ?_
      refine g_callVv (pc := 58) (As := [.int (0), .int (r1), .int (r2)]) C (kX1_setSize X σ4 (b + 5) 0 r1 r2 (st_pl hb)) (blk (st_pl hb) 0 rfl) rfl q_47_22 q_29_20 q_29_21 q_2_23 q_29_22 ⟨rfl, hdX1_setSize⟩ ⟨Nat.le_of_ble_eq_true rfl, Nat.le_of_ble_eq_true rfl, rfl, rfl⟩ ⟨Nat.zero_le _, Nat.zero_le _⟩ (Nat.le_of_ble_eq_true rfl) rfl rfl dX4_loadSlot_58 (fun σ5 _ => ?_)
      refine g_iconst (pc := 61) (v := 0) C dX4_loadSlot_61 (by decide) ?_
      refine g_istore (pc := 62) C dX4_loadSlot_62 (Nat.le_of_ble_eq_true rfl) rfl ?_
      refine g_keep [true, false, false, false, true] ?_
      exact bX4_loadSlot_64 C hr b hb FU σ5 0
    · exact g_vret (pc := 13) C hr dX4_loadSlot_13 rfl
theorem dX5_length_0 : decode cX5_length 0 = .ok (.aload_n 0, 1) := by decide +kernel
theorem dX5_length_1 : decode cX5_length 1 = .ok (.getfield 15, 3) := by decide +kernel
theorem dX5_length_4 : decode cX5_length 4 = .ok (.ireturn, 1) := by decide +kernel
abbrev rmX5_length : Room := { frames := 0, cells := 0, slots := 0, locals := 0 }
theorem hdX5_length : yX5_length.cls ≠ "java/lang/invoke/MethodHandle" ∧ yX5_length.cls ≠ "java/lang/invoke/VarHandle" ∧ (parseMethodDescriptor yX5_length.desc).map (fun d => d.parameters.length) = some 0 := by decide +kernel
def fX5_length (σ : Sg) (b : Nat) : Option Int32 :=
  some (σ.1 b 1)
theorem kX5_length (X : Xc) (σ : Sg) (b : Nat) (hb : txOK b) : ∀ r, fX5_length σ b = some r → Met X.l yX5_length (wsM yX5_length cX5_length 1 (some .int)) rmX5_length (va_Pc [.ref (X.ad b)] (PW X σ)) (Qi X r σ) 0 0 X.A := by
  refine mt_of (own := RX5) (lo := [some (.ref (X.ad b))]) (by decide) rfl (Nat.le_of_ble_eq_true rfl) rfl (fun K C hr => ?_)
  unfold fX5_length
  refine g_aload_n (pc := 0) (i := 0) C dX5_length_0 rfl rfl ?_
  refine g_geti (pc := 1) (ci := 5) (N := 2) (T := TX5) (j := 1) (Cn := RX5) C rfl inlX5 (Nat.le_of_ble_eq_true rfl) q_49_3 (blk hb 0 rfl) rfl dX5_length_1 ?_
  exact g_iret (pc := 4) C hr dX5_length_4 rfl
theorem dX5_append_0 : decode cX5_append 0 = .ok (.aload_n 0, 1) := by decide +kernel
theorem dX5_append_1 : decode cX5_append 1 = .ok (.getfield 9, 3) := by decide +kernel
theorem dX5_append_4 : decode cX5_append 4 = .ok (.aload_n 0, 1) := by decide +kernel
theorem dX5_append_5 : decode cX5_append 5 = .ok (.getfield 15, 3) := by decide +kernel
theorem dX5_append_8 : decode cX5_append 8 = .ok (.iload_n 1, 1) := by decide +kernel
theorem dX5_append_9 : decode cX5_append 9 = .ok (.invokestatic 23, 3) := by decide +kernel
theorem dX5_append_12 : decode cX5_append 12 = .ok (.aload_n 0, 1) := by decide +kernel
theorem dX5_append_13 : decode cX5_append 13 = .ok (.dup, 1) := by decide +kernel
theorem dX5_append_14 : decode cX5_append 14 = .ok (.getfield 15, 3) := by decide +kernel
theorem dX5_append_17 : decode cX5_append 17 = .ok (.iconst 1, 1) := by decide +kernel
theorem dX5_append_18 : decode cX5_append 18 = .ok (.iadd, 1) := by decide +kernel
theorem dX5_append_19 : decode cX5_append 19 = .ok (.putfield 15, 3) := by decide +kernel
theorem dX5_append_22 : decode cX5_append 22 = .ok (.return_, 1) := by decide +kernel
abbrev rmX5_append : Room := { frames := 1, cells := 0, slots := 0, locals := 22 }
theorem hdX5_append : yX5_append.cls ≠ "java/lang/invoke/MethodHandle" ∧ yX5_append.cls ≠ "java/lang/invoke/VarHandle" ∧ (parseMethodDescriptor yX5_append.desc).map (fun d => d.parameters.length) = some 1 := by decide +kernel
def fX5_append (σ : Sg) (b : Nat) (p1 : Int32) : Option Sg :=
  (fX8_put σ (b + 1) 120 (σ.1 b 1) p1).bind fun σ1 =>
  nm (su σ1 b 1 ((σ1.1 b 1) + 1)) fun σ2 =>
  some σ2
theorem kX5_append (X : Xc) (σ : Sg) (b : Nat) (p1 : Int32) (hb : txOK b) : ∀ r, fX5_append σ b p1 = some r → Met X.l yX5_append (wsM yX5_append cX5_append 2 none) rmX5_append (va_Pc [.ref (X.ad b), .int p1] (PW X σ)) (Qv X r) 0 0 X.A := by
  refine mt_of (own := RX5) (lo := [some (.ref (X.ad b)), some (.int (p1))]) (by decide) rfl (Nat.le_of_ble_eq_true rfl) rfl (fun K C hr => ?_)
  unfold fX5_append
  refine g_aload_n (pc := 0) (i := 0) C dX5_append_0 rfl rfl ?_
  refine g_getr (pc := 1) (ci := 5) (N := 2) (T := TX5) (j := 0) (Cn := RX5) (b + 1) C rfl inlX5 (Nat.le_of_ble_eq_true rfl) q_5_8 (blk hb 0 rfl) rfl dX5_append_1 ?_
  refine g_aload_n (pc := 4) (i := 0) C dX5_append_4 rfl rfl ?_
  refine g_geti (pc := 5) (ci := 5) (N := 2) (T := TX5) (j := 1) (Cn := RX5) C rfl inlX5 (Nat.le_of_ble_eq_true rfl) q_49_3 (blk hb 0 rfl) rfl dX5_append_5 ?_
  refine g_iload_n (pc := 8) (i := 1) C dX5_append_8 rfl rfl ?_
  refine g_callNv (pc := 9) (As := [.ref (X.ad (b + 1)), .int (σ.1 b 1), .int (p1)]) C (kX8_put X σ (b + 1) 120 (σ.1 b 1) p1 (blk hb 1 rfl)) (List.mem_of_getElem? (i := 16) rfl) q_9_20 q_1_2 q_9_21 hdX8_put ⟨Nat.le_of_ble_eq_true rfl, Nat.le_of_ble_eq_true rfl, rfl, rfl⟩ ⟨Nat.zero_le _, Nat.zero_le _⟩ (Nat.le_of_ble_eq_true rfl) rfl rfl dX5_append_9 (fun σ1 _ => ?_)
  refine g_aload_n (pc := 12) (i := 0) C dX5_append_12 rfl rfl ?_
  refine g_dup (pc := 13) C dX5_append_13 rfl ?_
  refine g_geti (pc := 14) (ci := 5) (N := 2) (T := TX5) (j := 1) (Cn := RX5) C rfl inlX5 (Nat.le_of_ble_eq_true rfl) q_49_3 (blk hb 0 rfl) rfl dX5_append_14 ?_
  refine g_iconst (pc := 17) (v := 1) C dX5_append_17 (by decide) ?_
  refine g_iadd (pc := 18) C dX5_append_18 ?_
  refine g_puti (pc := 19) (ci := 5) (N := 2) (T := TX5) (j := 1) (Cn := RX5) C rfl inlX5 tyX5_ok nmX5 (Nat.le_of_ble_eq_true rfl) q_49_3 (blk hb 0 rfl) rfl rfl rfl dX5_append_19 ?_
  refine g_nms (fun σ2 => ?_)
  exact g_vret (pc := 22) C hr dX5_append_22 rfl
theorem dX5_empty_0 : decode cX5_empty 0 = .ok (.aload_n 0, 1) := by decide +kernel
theorem dX5_empty_1 : decode cX5_empty 1 = .ok (.iconst 0, 1) := by decide +kernel
theorem dX5_empty_2 : decode cX5_empty 2 = .ok (.putfield 15, 3) := by decide +kernel
theorem dX5_empty_5 : decode cX5_empty 5 = .ok (.return_, 1) := by decide +kernel
abbrev rmX5_empty : Room := { frames := 0, cells := 0, slots := 0, locals := 0 }
theorem hdX5_empty : yX5_empty.cls ≠ "java/lang/invoke/MethodHandle" ∧ yX5_empty.cls ≠ "java/lang/invoke/VarHandle" ∧ (parseMethodDescriptor yX5_empty.desc).map (fun d => d.parameters.length) = some 0 := by decide +kernel
def fX5_empty (σ : Sg) (b : Nat) : Option Sg :=
  nm (su σ b 1 0) fun σ1 =>
  some σ1
theorem kX5_empty (X : Xc) (σ : Sg) (b : Nat) (hb : txOK b) : ∀ r, fX5_empty σ b = some r → Met X.l yX5_empty (wsM yX5_empty cX5_empty 1 none) rmX5_empty (va_Pc [.ref (X.ad b)] (PW X σ)) (Qv X r) 0 0 X.A := by
  refine mt_of (own := RX5) (lo := [some (.ref (X.ad b))]) (by decide) rfl (Nat.le_of_ble_eq_true rfl) rfl (fun K C hr => ?_)
  unfold fX5_empty
  refine g_aload_n (pc := 0) (i := 0) C dX5_empty_0 rfl rfl ?_
  refine g_iconst (pc := 1) (v := 0) C dX5_empty_1 (by decide) ?_
  refine g_puti (pc := 2) (ci := 5) (N := 2) (T := TX5) (j := 1) (Cn := RX5) C rfl inlX5 tyX5_ok nmX5 (Nat.le_of_ble_eq_true rfl) q_49_3 (blk hb 0 rfl) rfl rfl rfl dX5_empty_2 ?_
  refine g_nms (fun σ1 => ?_)
  exact g_vret (pc := 5) C hr dX5_empty_5 rfl
theorem dX5_copyFrom_0 : decode cX5_copyFrom 0 = .ok (.aload_n 1, 1) := by decide +kernel
theorem dX5_copyFrom_1 : decode cX5_copyFrom 1 = .ok (.getfield 9, 3) := by decide +kernel
theorem dX5_copyFrom_4 : decode cX5_copyFrom 4 = .ok (.aload_n 0, 1) := by decide +kernel
theorem dX5_copyFrom_5 : decode cX5_copyFrom 5 = .ok (.getfield 9, 3) := by decide +kernel
theorem dX5_copyFrom_8 : decode cX5_copyFrom 8 = .ok (.invokestatic 27, 3) := by decide +kernel
theorem dX5_copyFrom_11 : decode cX5_copyFrom 11 = .ok (.aload_n 0, 1) := by decide +kernel
theorem dX5_copyFrom_12 : decode cX5_copyFrom 12 = .ok (.aload_n 1, 1) := by decide +kernel
theorem dX5_copyFrom_13 : decode cX5_copyFrom 13 = .ok (.getfield 15, 3) := by decide +kernel
theorem dX5_copyFrom_16 : decode cX5_copyFrom 16 = .ok (.putfield 15, 3) := by decide +kernel
theorem dX5_copyFrom_19 : decode cX5_copyFrom 19 = .ok (.return_, 1) := by decide +kernel
abbrev rmX5_copyFrom : Room := { frames := 2, cells := 0, slots := 0, locals := 111 }
theorem hdX5_copyFrom : yX5_copyFrom.cls ≠ "java/lang/invoke/MethodHandle" ∧ yX5_copyFrom.cls ≠ "java/lang/invoke/VarHandle" ∧ (parseMethodDescriptor yX5_copyFrom.desc).map (fun d => d.parameters.length) = some 1 := by decide +kernel
def fX5_copyFrom (σ : Sg) (b : Nat) (c1 : Nat) : Option Sg :=
  (fX8_copyRow σ (c1 + 1) 120 (b + 1) 120).bind fun σ1 =>
  nm (su σ1 b 1 (σ1.1 c1 1)) fun σ2 =>
  some σ2
theorem kX5_copyFrom (X : Xc) (σ : Sg) (b : Nat) (c1 : Nat) (hb : txOK b) (h1 : txOK c1) : ∀ r, fX5_copyFrom σ b c1 = some r → Met X.l yX5_copyFrom (wsM yX5_copyFrom cX5_copyFrom 2 none) rmX5_copyFrom (va_Pc [.ref (X.ad b), .ref (X.ad c1)] (PW X σ)) (Qv X r) 0 0 X.A := by
  refine mt_of (own := RX5) (lo := [some (.ref (X.ad b)), some (.ref (X.ad c1))]) (by decide) rfl (Nat.le_of_ble_eq_true rfl) rfl (fun K C hr => ?_)
  unfold fX5_copyFrom
  refine g_aload_n (pc := 0) (i := 1) C dX5_copyFrom_0 rfl rfl ?_
  refine g_getr (pc := 1) (ci := 5) (N := 2) (T := TX5) (j := 0) (Cn := RX5) (c1 + 1) C rfl inlX5 (Nat.le_of_ble_eq_true rfl) q_5_8 (blk h1 0 rfl) rfl dX5_copyFrom_1 ?_
  refine g_aload_n (pc := 4) (i := 0) C dX5_copyFrom_4 rfl rfl ?_
  refine g_getr (pc := 5) (ci := 5) (N := 2) (T := TX5) (j := 0) (Cn := RX5) (b + 1) C rfl inlX5 (Nat.le_of_ble_eq_true rfl) q_5_8 (blk hb 0 rfl) rfl dX5_copyFrom_5 ?_
  refine g_callNv (pc := 8) (As := [.ref (X.ad (c1 + 1)), .ref (X.ad (b + 1))]) C (kX8_copyRow X σ (c1 + 1) 120 (b + 1) 120 (blk h1 1 rfl) (blk hb 1 rfl)) (List.mem_of_getElem? (i := 17) rfl) q_8_16 q_1_2 q_8_17 hdX8_copyRow ⟨Nat.le_of_ble_eq_true rfl, Nat.le_of_ble_eq_true rfl, rfl, rfl⟩ ⟨Nat.zero_le _, Nat.zero_le _⟩ (Nat.le_of_ble_eq_true rfl) rfl rfl dX5_copyFrom_8 (fun σ1 _ => ?_)
  refine g_aload_n (pc := 11) (i := 0) C dX5_copyFrom_11 rfl rfl ?_
  refine g_aload_n (pc := 12) (i := 1) C dX5_copyFrom_12 rfl rfl ?_
  refine g_geti (pc := 13) (ci := 5) (N := 2) (T := TX5) (j := 1) (Cn := RX5) C rfl inlX5 (Nat.le_of_ble_eq_true rfl) q_49_3 (blk h1 0 rfl) rfl dX5_copyFrom_13 ?_
  refine g_puti (pc := 16) (ci := 5) (N := 2) (T := TX5) (j := 1) (Cn := RX5) C rfl inlX5 tyX5_ok nmX5 (Nat.le_of_ble_eq_true rfl) q_49_3 (blk hb 0 rfl) rfl rfl rfl dX5_copyFrom_16 ?_
  refine g_nms (fun σ2 => ?_)
  exact g_vret (pc := 19) C hr dX5_copyFrom_19 rfl
theorem dX5_code_0 : decode cX5_code 0 = .ok (.iload_n 1, 1) := by decide +kernel
theorem dX5_code_1 : decode cX5_code 1 = .ok (.aload_n 0, 1) := by decide +kernel
theorem dX5_code_2 : decode cX5_code 2 = .ok (.getfield 15, 3) := by decide +kernel
theorem dX5_code_5 : decode cX5_code 5 = .ok (.if_icmp .ge 14, 3) := by decide +kernel
theorem dX5_code_8 : decode cX5_code 8 = .ok (.aload_n 0, 1) := by decide +kernel
theorem dX5_code_9 : decode cX5_code 9 = .ok (.getfield 9, 3) := by decide +kernel
theorem dX5_code_12 : decode cX5_code 12 = .ok (.iload_n 1, 1) := by decide +kernel
theorem dX5_code_13 : decode cX5_code 13 = .ok (.invokestatic 19, 3) := by decide +kernel
theorem dX5_code_16 : decode cX5_code 16 = .ok (.goto 4, 3) := by decide +kernel
theorem dX5_code_19 : decode cX5_code 19 = .ok (.iconst (-1), 1) := by decide +kernel
theorem dX5_code_20 : decode cX5_code 20 = .ok (.ireturn, 1) := by decide +kernel
abbrev rmX5_code : Room := { frames := 1, cells := 0, slots := 0, locals := 21 }
theorem hdX5_code : yX5_code.cls ≠ "java/lang/invoke/MethodHandle" ∧ yX5_code.cls ≠ "java/lang/invoke/VarHandle" ∧ (parseMethodDescriptor yX5_code.desc).map (fun d => d.parameters.length) = some 1 := by decide +kernel
def fX5_code (σ : Sg) (b : Nat) (p1 : Int32) : Option Int32 :=
  if (σ.1 b 1) ≤ p1 then
    some (-1)
  else
    (fX8_at σ (b + 1) 120 p1).bind fun r1 =>
    some r1
theorem kX5_code (X : Xc) (σ : Sg) (b : Nat) (p1 : Int32) (hb : txOK b) : ∀ r, fX5_code σ b p1 = some r → Met X.l yX5_code (wsM yX5_code cX5_code 2 (some .int)) rmX5_code (va_Pc [.ref (X.ad b), .int p1] (PW X σ)) (Qi X r σ) 0 0 X.A := by
  refine mt_of (own := RX5) (lo := [some (.ref (X.ad b)), some (.int (p1))]) (by decide) rfl (Nat.le_of_ble_eq_true rfl) rfl (fun K C hr => ?_)
  unfold fX5_code
  refine g_iload_n (pc := 0) (i := 1) C dX5_code_0 rfl rfl ?_
  refine g_aload_n (pc := 1) (i := 0) C dX5_code_1 rfl rfl ?_
  refine g_geti (pc := 2) (ci := 5) (N := 2) (T := TX5) (j := 1) (Cn := RX5) C rfl inlX5 (Nat.le_of_ble_eq_true rfl) q_49_3 (blk hb 0 rfl) rfl dX5_code_2 ?_
  refine g_icmp_ge (pc := 5) (tgt := 19) C dX5_code_5 rfl ?_ ?_
  · refine g_iconst (pc := 19) (v := (-1)) C dX5_code_19 (by decide) ?_
    exact g_iret (pc := 20) C hr dX5_code_20 rfl
  · refine g_aload_n (pc := 8) (i := 0) C dX5_code_8 rfl rfl ?_
    refine g_getr (pc := 9) (ci := 5) (N := 2) (T := TX5) (j := 0) (Cn := RX5) (b + 1) C rfl inlX5 (Nat.le_of_ble_eq_true rfl) q_5_8 (blk hb 0 rfl) rfl dX5_code_9 ?_
    refine g_iload_n (pc := 12) (i := 1) C dX5_code_12 rfl rfl ?_
    refine g_callNi (pc := 13) (As := [.ref (X.ad (b + 1)), .int (p1)]) C (kX8_at X σ (b + 1) 120 p1 (blk hb 1 rfl)) (List.mem_of_getElem? (i := 15) rfl) q_11_22 q_1_2 q_11_23 hdX8_at ⟨Nat.le_of_ble_eq_true rfl, Nat.le_of_ble_eq_true rfl, rfl, rfl⟩ ⟨Nat.zero_le _, Nat.zero_le _⟩ (Nat.le_of_ble_eq_true rfl) rfl rfl dX5_code_13 (fun r1 _ => ?_)
    refine g_goto (pc := 16) (tgt := 20) C dX5_code_16 rfl ?_
    exact g_iret (pc := 20) C hr dX5_code_20 rfl

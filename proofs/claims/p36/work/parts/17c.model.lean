/-! by program out of the class files: each method as a function over the store, and its contract by a walk -/
theorem dX9_takeAway_0 : decode cX9_takeAway 0 = .ok (.aload_n 0, 1) := by decide +kernel
theorem dX9_takeAway_1 : decode cX9_takeAway 1 = .ok (.iload_n 1, 1) := by decide +kernel
theorem dX9_takeAway_2 : decode cX9_takeAway 2 = .ok (.invokevirtual 144, 3) := by decide +kernel
theorem dX9_takeAway_5 : decode cX9_takeAway 5 = .ok (.istore_n 2, 1) := by decide +kernel
theorem dX9_takeAway_6 : decode cX9_takeAway 6 = .ok (.aload_n 0, 1) := by decide +kernel
theorem dX9_takeAway_7 : decode cX9_takeAway 7 = .ok (.iload_n 2, 1) := by decide +kernel
theorem dX9_takeAway_8 : decode cX9_takeAway 8 = .ok (.ifCond .ne 7, 3) := by decide +kernel
theorem dX9_takeAway_11 : decode cX9_takeAway 11 = .ok (.iconst 1, 1) := by decide +kernel
theorem dX9_takeAway_12 : decode cX9_takeAway 12 = .ok (.goto 16, 3) := by decide +kernel
theorem dX9_takeAway_15 : decode cX9_takeAway 15 = .ok (.aload_n 0, 1) := by decide +kernel
theorem dX9_takeAway_16 : decode cX9_takeAway 16 = .ok (.iload_n 1, 1) := by decide +kernel
theorem dX9_takeAway_17 : decode cX9_takeAway 17 = .ok (.invokevirtual 69, 3) := by decide +kernel
theorem dX9_takeAway_20 : decode cX9_takeAway 20 = .ok (.ifCond .ne 7, 3) := by decide +kernel
theorem dX9_takeAway_23 : decode cX9_takeAway 23 = .ok (.iconst 2, 1) := by decide +kernel
theorem dX9_takeAway_24 : decode cX9_takeAway 24 = .ok (.goto 4, 3) := by decide +kernel
theorem dX9_takeAway_27 : decode cX9_takeAway 27 = .ok (.iconst 0, 1) := by decide +kernel
theorem dX9_takeAway_28 : decode cX9_takeAway 28 = .ok (.invokevirtual 57, 3) := by decide +kernel
theorem dX9_takeAway_31 : decode cX9_takeAway 31 = .ok (.ifCond .eq 5, 3) := by decide +kernel
theorem dX9_takeAway_34 : decode cX9_takeAway 34 = .ok (.iconst 0, 1) := by decide +kernel
theorem dX9_takeAway_35 : decode cX9_takeAway 35 = .ok (.ireturn, 1) := by decide +kernel
theorem dX9_takeAway_36 : decode cX9_takeAway 36 = .ok (.aload_n 0, 1) := by decide +kernel
theorem dX9_takeAway_37 : decode cX9_takeAway 37 = .ok (.invokevirtual 141, 3) := by decide +kernel
theorem dX9_takeAway_40 : decode cX9_takeAway 40 = .ok (.aload_n 0, 1) := by decide +kernel
theorem dX9_takeAway_41 : decode cX9_takeAway 41 = .ok (.iload_n 1, 1) := by decide +kernel
theorem dX9_takeAway_42 : decode cX9_takeAway 42 = .ok (.invokevirtual 147, 3) := by decide +kernel
theorem dX9_takeAway_45 : decode cX9_takeAway 45 = .ok (.aload_n 0, 1) := by decide +kernel
theorem dX9_takeAway_46 : decode cX9_takeAway 46 = .ok (.invokevirtual 150, 3) := by decide +kernel
theorem dX9_takeAway_49 : decode cX9_takeAway 49 = .ok (.aload_n 0, 1) := by decide +kernel
theorem dX9_takeAway_50 : decode cX9_takeAway 50 = .ok (.invokevirtual 220, 3) := by decide +kernel
theorem dX9_takeAway_53 : decode cX9_takeAway 53 = .ok (.ireturn, 1) := by decide +kernel
abbrev rmX9_takeAway : Room := { frames := 7, cells := 0, slots := 0, locals := 156 }
theorem hdX9_takeAway : yX9_takeAway.cls ≠ "java/lang/invoke/MethodHandle" ∧ yX9_takeAway.cls ≠ "java/lang/invoke/VarHandle" ∧ (parseMethodDescriptor yX9_takeAway.desc).map (fun d => d.parameters.length) = some 1 := by decide +kernel
def fX9_takeAway_28 (b : Nat) (σ : Sg) (l1 : Int32) (s1 : Int32) : Option (Int32 × Sg) :=
  (fX9_refused σ b s1).bind fun r3 =>
  if r3.1 = true then
    some (0, r3.2)
  else
    (fX9_saves r3.2 b).bind fun σ4 =>
    (fX9_takes σ4 b l1).bind fun σ5 =>
    (fX9_leavesFocus σ5 b).bind fun σ6 =>
    (fX9_placedMany σ6 b).bind fun r7 =>
    some (r7, σ6)
theorem bX9_takeAway_28 {X : Xc} {K : Kc} (C : MC X K cX9_takeAway 3 RX9 rmX9_takeAway) (hr : K.meth.sig.returnType = (some .int)) (b : Nat) (hb : moOK b) (σ : Sg) (l1 : Int32) (s1 : Int32) : GO X K 3 (fun r => MQi X K r.1 r.2) (fX9_takeAway_28 b σ l1 s1) σ 0 0 28 [some (.ref (X.ad b)), some (.int (l1)), none] [.int (s1), .ref (X.ad b)] := by
  unfold fX9_takeAway_28
  refine g_callVi (pc := 28) (As := [.int (s1)]) C (kX9_refused X σ b s1 hb) (blk hb 0 rfl) rfl q_10_9 q_10_10 q_10_11 q_1_5 q_10_12 ⟨rfl, hdX9_refused⟩ ⟨Nat.le_of_ble_eq_true rfl, Nat.le_of_ble_eq_true rfl, rfl, rfl⟩ ⟨Nat.zero_le _, Nat.zero_le _⟩ (Nat.le_of_ble_eq_true rfl) rfl rfl dX9_takeAway_28 (fun r3 _ => ?_)
  refine g_ifb_eq (pc := 31) (tgt := 36) C dX9_takeAway_31 rfl ?_ ?_
  · refine g_iconst (pc := 34) (v := 0) C dX9_takeAway_34 (by decide) ?_
    exact g_iret (pc := 35) C hr dX9_takeAway_35 rfl
  · refine g_aload_n (pc := 36) (i := 0) C dX9_takeAway_36 rfl rfl ?_
    refine g_callVv (pc := 37) (As := []) C (kX9_saves X r3.2 b hb) (blk hb 0 rfl) rfl q_10_14 q_10_15 q_10_16 q_1_5 q_10_17 ⟨rfl, hdX9_saves⟩ ⟨Nat.le_of_ble_eq_true rfl, Nat.le_of_ble_eq_true rfl, rfl, rfl⟩ ⟨Nat.zero_le _, Nat.zero_le _⟩ (Nat.le_of_ble_eq_true rfl) rfl rfl dX9_takeAway_37 (fun σ4 _ => ?_)
    refine g_aload_n (pc := 40) (i := 0) C dX9_takeAway_40 rfl rfl ?_
    refine g_iload_n (pc := 41) (i := 1) C dX9_takeAway_41 rfl rfl ?_
    refine g_callVv (pc := 42) (As := [.int (l1)]) C (kX9_takes X σ4 b l1 hb) (blk hb 0 rfl) rfl q_19_20 q_19_21 q_19_22 q_1_5 q_19_23 ⟨rfl, hdX9_takes⟩ ⟨Nat.le_of_ble_eq_true rfl, Nat.le_of_ble_eq_true rfl, rfl, rfl⟩ ⟨Nat.zero_le _, Nat.zero_le _⟩ (Nat.le_of_ble_eq_true rfl) rfl rfl dX9_takeAway_42 (fun σ5 _ => ?_)
    refine g_aload_n (pc := 45) (i := 0) C dX9_takeAway_45 rfl rfl ?_
    refine g_callVv (pc := 46) (As := []) C (kX9_leavesFocus X σ5 b hb) (blk hb 0 rfl) rfl q_23_4 q_23_5 q_23_6 q_1_5 q_23_7 ⟨rfl, hdX9_leavesFocus⟩ ⟨Nat.le_of_ble_eq_true rfl, Nat.le_of_ble_eq_true rfl, rfl, rfl⟩ ⟨Nat.zero_le _, Nat.zero_le _⟩ (Nat.le_of_ble_eq_true rfl) rfl rfl dX9_takeAway_46 (fun σ6 _ => ?_)
    refine g_aload_n (pc := 49) (i := 0) C dX9_takeAway_49 rfl rfl ?_
    refine g_callVi (pc := 50) (As := []) C (kX9_placedMany X σ6 b hb) (blk hb 0 rfl) rfl q_37_23 q_38_0 q_38_1 q_1_5 q_38_2 ⟨rfl, hdX9_placedMany⟩ ⟨Nat.le_of_ble_eq_true rfl, Nat.le_of_ble_eq_true rfl, rfl, rfl⟩ ⟨Nat.zero_le _, Nat.zero_le _⟩ (Nat.le_of_ble_eq_true rfl) rfl rfl dX9_takeAway_50 (fun r7 _ => ?_)
    exact g_iret (pc := 53) C hr dX9_takeAway_53 rfl
def fX9_takeAway (σ : Sg) (b : Nat) (p1 : Int32) : Option (Int32 × Sg) :=
  (fX9_isPane σ b p1).bind fun r1 =>
  if r1 = true then
    (fX9_isPlaced σ b p1).bind fun r2 =>
    if r2 = true then
      (fX9_takeAway_28 b σ p1 0)
    else
      (fX9_takeAway_28 b σ p1 2)
  else
    (fX9_takeAway_28 b σ p1 1)
theorem kX9_takeAway (X : Xc) (σ : Sg) (b : Nat) (p1 : Int32) (hb : moOK b) : ∀ r, fX9_takeAway σ b p1 = some r → Met X.l yX9_takeAway (wsM yX9_takeAway cX9_takeAway 3 (some .int)) rmX9_takeAway (va_Pc [.ref (X.ad b), .int p1] (PW X σ)) (Qi X r.1 r.2) 0 0 X.A := by
  refine mt_of (own := RX9) (lo := [some (.ref (X.ad b)), some (.int (p1)), none]) (by decide) rfl (Nat.le_of_ble_eq_true rfl) rfl (fun K C hr => ?_)
  unfold fX9_takeAway
  refine g_aload_n (pc := 0) (i := 0) C dX9_takeAway_0 rfl rfl ?_
  refine g_iload_n (pc := 1) (i := 1) C dX9_takeAway_1 rfl rfl ?_
  refine g_callVi (pc := 2) (As := [.int (p1)]) C (kX9_isPane X σ b p1 hb) (blk hb 0 rfl) rfl q_19_16 q_19_17 q_19_18 q_1_5 q_19_19 ⟨rfl, hdX9_isPane⟩ ⟨Nat.le_of_ble_eq_true rfl, Nat.le_of_ble_eq_true rfl, rfl, rfl⟩ ⟨Nat.zero_le _, Nat.zero_le _⟩ (Nat.le_of_ble_eq_true rfl) rfl rfl dX9_takeAway_2 (fun r1 _ => ?_)
  refine g_istore_n (pc := 5) (i := 2) C dX9_takeAway_5 rfl (Nat.le_of_ble_eq_true rfl) rfl ?_
  refine g_aload_n (pc := 6) (i := 0) C dX9_takeAway_6 rfl rfl ?_
  refine g_iload_n (pc := 7) (i := 2) C dX9_takeAway_7 rfl rfl ?_
  refine g_ifb_ne (pc := 8) (tgt := 15) C dX9_takeAway_8 rfl ?_ ?_
  · refine g_aload_n (pc := 15) (i := 0) C dX9_takeAway_15 rfl rfl ?_
    refine g_iload_n (pc := 16) (i := 1) C dX9_takeAway_16 rfl rfl ?_
    refine g_callVi (pc := 17) (As := [.int (p1)]) C (kX9_isPlaced X σ b p1 hb) (blk hb 0 rfl) rfl q_20_0 q_20_1 q_20_2 q_1_5 q_20_3 ⟨rfl, hdX9_isPlaced⟩ ⟨Nat.le_of_ble_eq_true rfl, Nat.le_of_ble_eq_true rfl, rfl, rfl⟩ ⟨Nat.zero_le _, Nat.zero_le _⟩ (Nat.le_of_ble_eq_true rfl) rfl rfl dX9_takeAway_17 (fun r2 _ => ?_)
    refine g_ifb_ne (pc := 20) (tgt := 27) C dX9_takeAway_20 rfl ?_ ?_
    · refine g_iconst (pc := 27) (v := 0) C dX9_takeAway_27 (by decide) ?_
      refine g_keep [true, true, false] ?_
      exact bX9_takeAway_28 C hr b hb σ p1 0
    · refine g_iconst (pc := 23) (v := 2) C dX9_takeAway_23 (by decide) ?_
      refine g_goto (pc := 24) (tgt := 28) C dX9_takeAway_24 rfl ?_
      refine g_keep [true, true, false] ?_
      exact bX9_takeAway_28 C hr b hb σ p1 2
  · refine g_iconst (pc := 11) (v := 1) C dX9_takeAway_11 (by decide) ?_
    refine g_goto (pc := 12) (tgt := 28) C dX9_takeAway_12 rfl ?_
    refine g_keep [true, true, false] ?_
    exact bX9_takeAway_28 C hr b hb σ p1 1
theorem dX9_show_0 : decode cX9_show 0 = .ok (.aload_n 0, 1) := by decide +kernel
theorem dX9_show_1 : decode cX9_show 1 = .ok (.iload_n 1, 1) := by decide +kernel
theorem dX9_show_2 : decode cX9_show 2 = .ok (.invokevirtual 144, 3) := by decide +kernel
theorem dX9_show_5 : decode cX9_show 5 = .ok (.istore_n 3, 1) := by decide +kernel
theorem dX9_show_6 : decode cX9_show 6 = .ok (.aload_n 0, 1) := by decide +kernel
theorem dX9_show_7 : decode cX9_show 7 = .ok (.iload_n 3, 1) := by decide +kernel
theorem dX9_show_8 : decode cX9_show 8 = .ok (.ifCond .ne 7, 3) := by decide +kernel
theorem dX9_show_11 : decode cX9_show 11 = .ok (.iconst 1, 1) := by decide +kernel
theorem dX9_show_12 : decode cX9_show 12 = .ok (.goto 16, 3) := by decide +kernel
theorem dX9_show_15 : decode cX9_show 15 = .ok (.aload_n 0, 1) := by decide +kernel
theorem dX9_show_16 : decode cX9_show 16 = .ok (.iload_n 1, 1) := by decide +kernel
theorem dX9_show_17 : decode cX9_show 17 = .ok (.invokevirtual 69, 3) := by decide +kernel
theorem dX9_show_20 : decode cX9_show 20 = .ok (.ifCond .ne 7, 3) := by decide +kernel
theorem dX9_show_23 : decode cX9_show 23 = .ok (.iconst 2, 1) := by decide +kernel
theorem dX9_show_24 : decode cX9_show 24 = .ok (.goto 4, 3) := by decide +kernel
theorem dX9_show_27 : decode cX9_show 27 = .ok (.iconst 0, 1) := by decide +kernel
theorem dX9_show_28 : decode cX9_show 28 = .ok (.invokevirtual 57, 3) := by decide +kernel
theorem dX9_show_31 : decode cX9_show 31 = .ok (.ifCond .eq 5, 3) := by decide +kernel
theorem dX9_show_34 : decode cX9_show 34 = .ok (.iconst 0, 1) := by decide +kernel
theorem dX9_show_35 : decode cX9_show 35 = .ok (.ireturn, 1) := by decide +kernel
theorem dX9_show_36 : decode cX9_show 36 = .ok (.aload_n 0, 1) := by decide +kernel
theorem dX9_show_37 : decode cX9_show 37 = .ok (.iload_n 1, 1) := by decide +kernel
theorem dX9_show_38 : decode cX9_show 38 = .ok (.iconst 5, 1) := by decide +kernel
theorem dX9_show_39 : decode cX9_show 39 = .ok (.invokevirtual 65, 3) := by decide +kernel
theorem dX9_show_42 : decode cX9_show 42 = .ok (.ifCond .ne 7, 3) := by decide +kernel
theorem dX9_show_45 : decode cX9_show 45 = .ok (.iconst 1, 1) := by decide +kernel
theorem dX9_show_46 : decode cX9_show 46 = .ok (.goto 4, 3) := by decide +kernel
theorem dX9_show_49 : decode cX9_show 49 = .ok (.iconst 0, 1) := by decide +kernel
theorem dX9_show_50 : decode cX9_show 50 = .ok (.istore 4, 2) := by decide +kernel
theorem dX9_show_52 : decode cX9_show 52 = .ok (.aload_n 0, 1) := by decide +kernel
theorem dX9_show_53 : decode cX9_show 53 = .ok (.invokevirtual 141, 3) := by decide +kernel
theorem dX9_show_56 : decode cX9_show 56 = .ok (.iload 4, 2) := by decide +kernel
theorem dX9_show_58 : decode cX9_show 58 = .ok (.ifCond .eq 22, 3) := by decide +kernel
theorem dX9_show_61 : decode cX9_show 61 = .ok (.iload_n 2, 1) := by decide +kernel
theorem dX9_show_62 : decode cX9_show 62 = .ok (.ifCond .ne 18, 3) := by decide +kernel
theorem dX9_show_65 : decode cX9_show 65 = .ok (.aload_n 0, 1) := by decide +kernel
theorem dX9_show_66 : decode cX9_show 66 = .ok (.iload_n 1, 1) := by decide +kernel
theorem dX9_show_67 : decode cX9_show 67 = .ok (.invokevirtual 122, 3) := by decide +kernel
theorem dX9_show_70 : decode cX9_show 70 = .ok (.aload_n 0, 1) := by decide +kernel
theorem dX9_show_71 : decode cX9_show 71 = .ok (.iload_n 1, 1) := by decide +kernel
theorem dX9_show_72 : decode cX9_show 72 = .ok (.iconst 5, 1) := by decide +kernel
theorem dX9_show_73 : decode cX9_show 73 = .ok (.iconst 1, 1) := by decide +kernel
theorem dX9_show_74 : decode cX9_show 74 = .ok (.invokevirtual 126, 3) := by decide +kernel
theorem dX9_show_77 : decode cX9_show 77 = .ok (.goto 56, 3) := by decide +kernel
theorem dX9_show_80 : decode cX9_show 80 = .ok (.iload 4, 2) := by decide +kernel
theorem dX9_show_82 : decode cX9_show 82 = .ok (.ifCond .ne 51, 3) := by decide +kernel
theorem dX9_show_85 : decode cX9_show 85 = .ok (.iload_n 2, 1) := by decide +kernel
theorem dX9_show_86 : decode cX9_show 86 = .ok (.ifCond .eq 47, 3) := by decide +kernel
theorem dX9_show_89 : decode cX9_show 89 = .ok (.aload_n 0, 1) := by decide +kernel
theorem dX9_show_90 : decode cX9_show 90 = .ok (.iload_n 1, 1) := by decide +kernel
theorem dX9_show_91 : decode cX9_show 91 = .ok (.iconst 5, 1) := by decide +kernel
theorem dX9_show_92 : decode cX9_show 92 = .ok (.iconst 0, 1) := by decide +kernel
theorem dX9_show_93 : decode cX9_show 93 = .ok (.invokevirtual 126, 3) := by decide +kernel
theorem dX9_show_96 : decode cX9_show 96 = .ok (.aload_n 0, 1) := by decide +kernel
theorem dX9_show_97 : decode cX9_show 97 = .ok (.iload_n 1, 1) := by decide +kernel
theorem dX9_show_98 : decode cX9_show 98 = .ok (.iconst 3, 1) := by decide +kernel
theorem dX9_show_99 : decode cX9_show 99 = .ok (.invokevirtual 65, 3) := by decide +kernel
theorem dX9_show_102 : decode cX9_show 102 = .ok (.istore 5, 2) := by decide +kernel
theorem dX9_show_104 : decode cX9_show 104 = .ok (.aload_n 0, 1) := by decide +kernel
theorem dX9_show_105 : decode cX9_show 105 = .ok (.iload 5, 2) := by decide +kernel
theorem dX9_show_107 : decode cX9_show 107 = .ok (.iconst 5, 1) := by decide +kernel
theorem dX9_show_108 : decode cX9_show 108 = .ok (.aload_n 0, 1) := by decide +kernel
theorem dX9_show_109 : decode cX9_show 109 = .ok (.iload 5, 2) := by decide +kernel
theorem dX9_show_111 : decode cX9_show 111 = .ok (.iconst 5, 1) := by decide +kernel
theorem dX9_show_112 : decode cX9_show 112 = .ok (.invokevirtual 76, 3) := by decide +kernel
theorem dX9_show_115 : decode cX9_show 115 = .ok (.iconst (-1), 1) := by decide +kernel
theorem dX9_show_116 : decode cX9_show 116 = .ok (.if_icmp .ne 7, 3) := by decide +kernel
theorem dX9_show_119 : decode cX9_show 119 = .ok (.iload_n 1, 1) := by decide +kernel
theorem dX9_show_120 : decode cX9_show 120 = .ok (.goto 10, 3) := by decide +kernel
theorem dX9_show_123 : decode cX9_show 123 = .ok (.aload_n 0, 1) := by decide +kernel
theorem dX9_show_124 : decode cX9_show 124 = .ok (.iload 5, 2) := by decide +kernel
theorem dX9_show_126 : decode cX9_show 126 = .ok (.iconst 5, 1) := by decide +kernel
theorem dX9_show_127 : decode cX9_show 127 = .ok (.invokevirtual 76, 3) := by decide +kernel
theorem dX9_show_130 : decode cX9_show 130 = .ok (.invokevirtual 79, 3) := by decide +kernel
theorem dX9_show_133 : decode cX9_show 133 = .ok (.iload 4, 2) := by decide +kernel
theorem dX9_show_135 : decode cX9_show 135 = .ok (.ireturn, 1) := by decide +kernel
abbrev rmX9_show : Room := { frames := 3, cells := 0, slots := 0, locals := 72 }
theorem hdX9_show : yX9_show.cls ≠ "java/lang/invoke/MethodHandle" ∧ yX9_show.cls ≠ "java/lang/invoke/VarHandle" ∧ (parseMethodDescriptor yX9_show.desc).map (fun d => d.parameters.length) = some 2 := by decide +kernel
def fX9_show_130 (b : Nat) (σ : Sg) (l4 : Int32) (s1 : Int32) (s2 : Int32) (s3 : Int32) : Option (Bool × Sg) :=
  (fX9_lay σ b s1 s2 s3).bind fun σ12 =>
  if l4 = 0 then some (false, σ12) else if l4 = 1 then some (true, σ12) else none
theorem bX9_show_130 {X : Xc} {K : Kc} (C : MC X K cX9_show 6 RX9 rmX9_show) (hr : K.meth.sig.returnType = (some .boolean)) (b : Nat) (hb : moOK b) (σ : Sg) (l4 : Int32) (s1 : Int32) (s2 : Int32) (s3 : Int32) : GO X K 6 (fun r => MQi X K (b2i r.1) r.2) (fX9_show_130 b σ l4 s1 s2 s3) σ 0 0 130 [none, none, none, none, some (.int (l4)), none] [.int (s3), .int (s2), .int (s1), .ref (X.ad b)] := by
  unfold fX9_show_130
  refine g_callVv (pc := 130) (As := [.int (s1), .int (s2), .int (s3)]) C (kX9_lay X σ b s1 s2 s3 hb) (blk hb 0 rfl) rfl q_21_0 q_21_1 q_21_2 q_1_5 q_21_3 ⟨rfl, hdX9_lay⟩ ⟨Nat.le_of_ble_eq_true rfl, Nat.le_of_ble_eq_true rfl, rfl, rfl⟩ ⟨Nat.zero_le _, Nat.zero_le _⟩ (Nat.le_of_ble_eq_true rfl) rfl rfl dX9_show_130 (fun σ12 _ => ?_)
  refine g_iload (pc := 133) C dX9_show_133 rfl ?_
  exact g_zretv (pc := 135) C hr dX9_show_135 rfl rfl rfl rfl
def fX9_show_80 (b : Nat) (σ : Sg) (l1 : Int32) (l2 : Int32) (l4 : Int32) : Option (Bool × Sg) :=
  if l4 = 0 then
    if l2 = 0 then
      if l4 = 0 then some (false, σ) else if l4 = 1 then some (true, σ) else none
    else
      (fX9_put σ b l1 5 0).bind fun σ8 =>
      (fX9_of σ8 b l1 3).bind fun r9 =>
      (fX9_its σ8 b r9 5).bind fun r10 =>
      if r10 = (-1) then
        (fX9_show_130 b σ8 l4 r9 5 l1)
      else
        (fX9_its σ8 b r9 5).bind fun r11 =>
        (fX9_show_130 b σ8 l4 r9 5 r11)
  else
    if l4 = 0 then some (false, σ) else if l4 = 1 then some (true, σ) else none
theorem bX9_show_80 {X : Xc} {K : Kc} (C : MC X K cX9_show 6 RX9 rmX9_show) (hr : K.meth.sig.returnType = (some .boolean)) (b : Nat) (hb : moOK b) (σ : Sg) (l1 : Int32) (l2 : Int32) (l4 : Int32) : GO X K 6 (fun r => MQi X K (b2i r.1) r.2) (fX9_show_80 b σ l1 l2 l4) σ 0 0 80 [some (.ref (X.ad b)), some (.int (l1)), some (.int (l2)), none, some (.int (l4)), none] [] := by
  unfold fX9_show_80
  refine g_iload (pc := 80) C dX9_show_80 rfl ?_
  refine g_if_ne (pc := 82) (tgt := 133) C dX9_show_82 rfl ?_ ?_
  · refine g_iload_n (pc := 85) (i := 2) C dX9_show_85 rfl rfl ?_
    refine g_if_eq (pc := 86) (tgt := 133) C dX9_show_86 rfl ?_ ?_
    · refine g_iload (pc := 133) C dX9_show_133 rfl ?_
      exact g_zretv (pc := 135) C hr dX9_show_135 rfl rfl rfl rfl
    · refine g_aload_n (pc := 89) (i := 0) C dX9_show_89 rfl rfl ?_
      refine g_iload_n (pc := 90) (i := 1) C dX9_show_90 rfl rfl ?_
      refine g_iconst (pc := 91) (v := 5) C dX9_show_91 (by decide) ?_
      refine g_iconst (pc := 92) (v := 0) C dX9_show_92 (by decide) ?_
      refine g_callVv (pc := 93) (As := [.int (l1), .int (5), .int (0)]) C (kX9_put X σ b l1 5 0 hb) (blk hb 0 rfl) rfl q_10_19 q_10_20 q_10_21 q_1_5 q_10_22 ⟨rfl, hdX9_put⟩ ⟨Nat.le_of_ble_eq_true rfl, Nat.le_of_ble_eq_true rfl, rfl, rfl⟩ ⟨Nat.zero_le _, Nat.zero_le _⟩ (Nat.le_of_ble_eq_true rfl) rfl rfl dX9_show_93 (fun σ8 _ => ?_)
      refine g_aload_n (pc := 96) (i := 0) C dX9_show_96 rfl rfl ?_
      refine g_iload_n (pc := 97) (i := 1) C dX9_show_97 rfl rfl ?_
      refine g_iconst (pc := 98) (v := 3) C dX9_show_98 (by decide) ?_
      refine g_callVi (pc := 99) (As := [.int (l1), .int (3)]) C (kX9_of X σ8 b l1 3 hb) (blk hb 0 rfl) rfl q_10_2 q_10_3 q_10_4 q_1_5 q_10_5 ⟨rfl, hdX9_of⟩ ⟨Nat.le_of_ble_eq_true rfl, Nat.le_of_ble_eq_true rfl, rfl, rfl⟩ ⟨Nat.zero_le _, Nat.zero_le _⟩ (Nat.le_of_ble_eq_true rfl) rfl rfl dX9_show_99 (fun r9 _ => ?_)
      refine g_istore (pc := 102) C dX9_show_102 (Nat.le_of_ble_eq_true rfl) rfl ?_
      refine g_aload_n (pc := 104) (i := 0) C dX9_show_104 rfl rfl ?_
      refine g_iload (pc := 105) C dX9_show_105 rfl ?_
      refine g_iconst (pc := 107) (v := 5) C dX9_show_107 (by decide) ?_
      refine g_aload_n (pc := 108) (i := 0) C dX9_show_108 rfl rfl ?_
      refine g_iload (pc := 109) C dX9_show_109 rfl ?_
      refine g_iconst (pc := 111) (v := 5) C dX9_show_111 (by decide) ?_
      refine g_callVi (pc := 112) (As := [.int (r9), .int (5)]) C (kX9_its X σ8 b r9 5 hb) (blk hb 0 rfl) rfl q_20_12 q_20_13 q_20_14 q_1_5 q_20_15 ⟨rfl, hdX9_its⟩ ⟨Nat.le_of_ble_eq_true rfl, Nat.le_of_ble_eq_true rfl, rfl, rfl⟩ ⟨Nat.zero_le _, Nat.zero_le _⟩ (Nat.le_of_ble_eq_true rfl) rfl rfl dX9_show_112 (fun r10 _ => ?_)
      refine g_iconst (pc := 115) (v := (-1)) C dX9_show_115 (by decide) ?_
      refine g_icmp_ne (pc := 116) (tgt := 123) C dX9_show_116 rfl ?_ ?_
      · refine g_iload_n (pc := 119) (i := 1) C dX9_show_119 rfl rfl ?_
        refine g_goto (pc := 120) (tgt := 130) C dX9_show_120 rfl ?_
        refine g_keep [false, false, false, false, true, false] ?_
        exact bX9_show_130 C hr b hb σ8 l4 r9 5 l1
      · refine g_aload_n (pc := 123) (i := 0) C dX9_show_123 rfl rfl ?_
        refine g_iload (pc := 124) C dX9_show_124 rfl ?_
        refine g_iconst (pc := 126) (v := 5) C dX9_show_126 (by decide) ?_
        refine g_callVi (pc := 127) (As := [.int (r9), .int (5)]) C (kX9_its X σ8 b r9 5 hb) (blk hb 0 rfl) rfl q_20_12 q_20_13 q_20_14 q_1_5 q_20_15 ⟨rfl, hdX9_its⟩ ⟨Nat.le_of_ble_eq_true rfl, Nat.le_of_ble_eq_true rfl, rfl, rfl⟩ ⟨Nat.zero_le _, Nat.zero_le _⟩ (Nat.le_of_ble_eq_true rfl) rfl rfl dX9_show_127 (fun r11 _ => ?_)
        refine g_keep [false, false, false, false, true, false] ?_
        exact bX9_show_130 C hr b hb σ8 l4 r9 5 r11
  · refine g_iload (pc := 133) C dX9_show_133 rfl ?_
    exact g_zretv (pc := 135) C hr dX9_show_135 rfl rfl rfl rfl
def fX9_show_50 (b : Nat) (σ : Sg) (l1 : Int32) (l2 : Int32) (s0 : Int32) : Option (Bool × Sg) :=
  (fX9_saves σ b).bind fun σ5 =>
  if s0 = 0 then
    (fX9_show_80 b σ5 l1 l2 s0)
  else
    if l2 = 0 then
      (fX9_yields σ5 b l1).bind fun σ6 =>
      (fX9_put σ6 b l1 5 1).bind fun σ7 =>
      if s0 = 0 then some (false, σ7) else if s0 = 1 then some (true, σ7) else none
    else
      (fX9_show_80 b σ5 l1 l2 s0)
theorem bX9_show_50 {X : Xc} {K : Kc} (C : MC X K cX9_show 6 RX9 rmX9_show) (hr : K.meth.sig.returnType = (some .boolean)) (b : Nat) (hb : moOK b) (σ : Sg) (l1 : Int32) (l2 : Int32) (s0 : Int32) : GO X K 6 (fun r => MQi X K (b2i r.1) r.2) (fX9_show_50 b σ l1 l2 s0) σ 0 0 50 [some (.ref (X.ad b)), some (.int (l1)), some (.int (l2)), none, none, none] [.int (s0)] := by
  unfold fX9_show_50
  refine g_istore (pc := 50) C dX9_show_50 (Nat.le_of_ble_eq_true rfl) rfl ?_
  refine g_aload_n (pc := 52) (i := 0) C dX9_show_52 rfl rfl ?_
  refine g_callVv (pc := 53) (As := []) C (kX9_saves X σ b hb) (blk hb 0 rfl) rfl q_10_14 q_10_15 q_10_16 q_1_5 q_10_17 ⟨rfl, hdX9_saves⟩ ⟨Nat.le_of_ble_eq_true rfl, Nat.le_of_ble_eq_true rfl, rfl, rfl⟩ ⟨Nat.zero_le _, Nat.zero_le _⟩ (Nat.le_of_ble_eq_true rfl) rfl rfl dX9_show_53 (fun σ5 _ => ?_)
  refine g_iload (pc := 56) C dX9_show_56 rfl ?_
  refine g_if_eq (pc := 58) (tgt := 80) C dX9_show_58 rfl ?_ ?_
  · refine g_keep [true, true, true, false, true, false] ?_
    exact bX9_show_80 C hr b hb σ5 l1 l2 s0
  · refine g_iload_n (pc := 61) (i := 2) C dX9_show_61 rfl rfl ?_
    refine g_if_ne (pc := 62) (tgt := 80) C dX9_show_62 rfl ?_ ?_
    · refine g_aload_n (pc := 65) (i := 0) C dX9_show_65 rfl rfl ?_
      refine g_iload_n (pc := 66) (i := 1) C dX9_show_66 rfl rfl ?_
      refine g_callVv (pc := 67) (As := [.int (l1)]) C (kX9_yields X σ5 b l1 hb) (blk hb 0 rfl) rfl q_20_8 q_20_9 q_20_10 q_1_5 q_20_11 ⟨rfl, hdX9_yields⟩ ⟨Nat.le_of_ble_eq_true rfl, Nat.le_of_ble_eq_true rfl, rfl, rfl⟩ ⟨Nat.zero_le _, Nat.zero_le _⟩ (Nat.le_of_ble_eq_true rfl) rfl rfl dX9_show_67 (fun σ6 _ => ?_)
      refine g_aload_n (pc := 70) (i := 0) C dX9_show_70 rfl rfl ?_
      refine g_iload_n (pc := 71) (i := 1) C dX9_show_71 rfl rfl ?_
      refine g_iconst (pc := 72) (v := 5) C dX9_show_72 (by decide) ?_
      refine g_iconst (pc := 73) (v := 1) C dX9_show_73 (by decide) ?_
      refine g_callVv (pc := 74) (As := [.int (l1), .int (5), .int (1)]) C (kX9_put X σ6 b l1 5 1 hb) (blk hb 0 rfl) rfl q_10_19 q_10_20 q_10_21 q_1_5 q_10_22 ⟨rfl, hdX9_put⟩ ⟨Nat.le_of_ble_eq_true rfl, Nat.le_of_ble_eq_true rfl, rfl, rfl⟩ ⟨Nat.zero_le _, Nat.zero_le _⟩ (Nat.le_of_ble_eq_true rfl) rfl rfl dX9_show_74 (fun σ7 _ => ?_)
      refine g_goto (pc := 77) (tgt := 133) C dX9_show_77 rfl ?_
      refine g_iload (pc := 133) C dX9_show_133 rfl ?_
      exact g_zretv (pc := 135) C hr dX9_show_135 rfl rfl rfl rfl
    · refine g_keep [true, true, true, false, true, false] ?_
      exact bX9_show_80 C hr b hb σ5 l1 l2 s0
def fX9_show_28 (b : Nat) (σ : Sg) (l1 : Int32) (l2 : Int32) (s1 : Int32) : Option (Bool × Sg) :=
  (fX9_refused σ b s1).bind fun r3 =>
  if r3.1 = true then
    some (false, r3.2)
  else
    (fX9_of r3.2 b l1 5).bind fun r4 =>
    if r4 = 0 then
      (fX9_show_50 b r3.2 l1 l2 1)
    else
      (fX9_show_50 b r3.2 l1 l2 0)
theorem bX9_show_28 {X : Xc} {K : Kc} (C : MC X K cX9_show 6 RX9 rmX9_show) (hr : K.meth.sig.returnType = (some .boolean)) (b : Nat) (hb : moOK b) (σ : Sg) (l1 : Int32) (l2 : Int32) (s1 : Int32) : GO X K 6 (fun r => MQi X K (b2i r.1) r.2) (fX9_show_28 b σ l1 l2 s1) σ 0 0 28 [some (.ref (X.ad b)), some (.int (l1)), some (.int (l2)), none, none, none] [.int (s1), .ref (X.ad b)] := by
  unfold fX9_show_28
  refine g_callVi (pc := 28) (As := [.int (s1)]) C (kX9_refused X σ b s1 hb) (blk hb 0 rfl) rfl q_10_9 q_10_10 q_10_11 q_1_5 q_10_12 ⟨rfl, hdX9_refused⟩ ⟨Nat.le_of_ble_eq_true rfl, Nat.le_of_ble_eq_true rfl, rfl, rfl⟩ ⟨Nat.zero_le _, Nat.zero_le _⟩ (Nat.le_of_ble_eq_true rfl) rfl rfl dX9_show_28 (fun r3 _ => ?_)
  refine g_ifb_eq (pc := 31) (tgt := 36) C dX9_show_31 rfl ?_ ?_
  · refine g_iconst (pc := 34) (v := 0) C dX9_show_34 (by decide) ?_
    exact g_zret (pc := 35) C hr dX9_show_35 rfl
  · refine g_aload_n (pc := 36) (i := 0) C dX9_show_36 rfl rfl ?_
    refine g_iload_n (pc := 37) (i := 1) C dX9_show_37 rfl rfl ?_
    refine g_iconst (pc := 38) (v := 5) C dX9_show_38 (by decide) ?_
    refine g_callVi (pc := 39) (As := [.int (l1), .int (5)]) C (kX9_of X r3.2 b l1 5 hb) (blk hb 0 rfl) rfl q_10_2 q_10_3 q_10_4 q_1_5 q_10_5 ⟨rfl, hdX9_of⟩ ⟨Nat.le_of_ble_eq_true rfl, Nat.le_of_ble_eq_true rfl, rfl, rfl⟩ ⟨Nat.zero_le _, Nat.zero_le _⟩ (Nat.le_of_ble_eq_true rfl) rfl rfl dX9_show_39 (fun r4 _ => ?_)
    refine g_if_ne (pc := 42) (tgt := 49) C dX9_show_42 rfl ?_ ?_
    · refine g_iconst (pc := 45) (v := 1) C dX9_show_45 (by decide) ?_
      refine g_goto (pc := 46) (tgt := 50) C dX9_show_46 rfl ?_
      refine g_keep [true, true, true, false, false, false] ?_
      exact bX9_show_50 C hr b hb r3.2 l1 l2 1
    · refine g_iconst (pc := 49) (v := 0) C dX9_show_49 (by decide) ?_
      refine g_keep [true, true, true, false, false, false] ?_
      exact bX9_show_50 C hr b hb r3.2 l1 l2 0
def fX9_show (σ : Sg) (b : Nat) (p1 : Int32) (p2 : Int32) : Option (Bool × Sg) :=
  (fX9_isPane σ b p1).bind fun r1 =>
  if r1 = true then
    (fX9_isPlaced σ b p1).bind fun r2 =>
    if r2 = true then
      (fX9_show_28 b σ p1 p2 0)
    else
      (fX9_show_28 b σ p1 p2 2)
  else
    (fX9_show_28 b σ p1 p2 1)
theorem kX9_show (X : Xc) (σ : Sg) (b : Nat) (p1 : Int32) (p2 : Int32) (hb : moOK b) : ∀ r, fX9_show σ b p1 p2 = some r → Met X.l yX9_show (wsM yX9_show cX9_show 6 (some .boolean)) rmX9_show (va_Pc [.ref (X.ad b), .int p1, .int p2] (PW X σ)) (Qi X (b2i r.1) r.2) 0 0 X.A := by
  refine mt_of (own := RX9) (lo := [some (.ref (X.ad b)), some (.int (p1)), some (.int (p2)), none, none, none]) (by decide) rfl (Nat.le_of_ble_eq_true rfl) rfl (fun K C hr => ?_)
  unfold fX9_show
  refine g_aload_n (pc := 0) (i := 0) C dX9_show_0 rfl rfl ?_
  refine g_iload_n (pc := 1) (i := 1) C dX9_show_1 rfl rfl ?_
  refine g_callVi (pc := 2) (As := [.int (p1)]) C (kX9_isPane X σ b p1 hb) (blk hb 0 rfl) rfl q_19_16 q_19_17 q_19_18 q_1_5 q_19_19 ⟨rfl, hdX9_isPane⟩ ⟨Nat.le_of_ble_eq_true rfl, Nat.le_of_ble_eq_true rfl, rfl, rfl⟩ ⟨Nat.zero_le _, Nat.zero_le _⟩ (Nat.le_of_ble_eq_true rfl) rfl rfl dX9_show_2 (fun r1 _ => ?_)
  refine g_istore_n (pc := 5) (i := 3) C dX9_show_5 rfl (Nat.le_of_ble_eq_true rfl) rfl ?_
  refine g_aload_n (pc := 6) (i := 0) C dX9_show_6 rfl rfl ?_
  refine g_iload_n (pc := 7) (i := 3) C dX9_show_7 rfl rfl ?_
  refine g_ifb_ne (pc := 8) (tgt := 15) C dX9_show_8 rfl ?_ ?_
  · refine g_aload_n (pc := 15) (i := 0) C dX9_show_15 rfl rfl ?_
    refine g_iload_n (pc := 16) (i := 1) C dX9_show_16 rfl rfl ?_
    refine g_callVi (pc := 17) (As := [.int (p1)]) C (kX9_isPlaced X σ b p1 hb) (blk hb 0 rfl) rfl q_20_0 q_20_1 q_20_2 q_1_5 q_20_3 ⟨rfl, hdX9_isPlaced⟩ ⟨Nat.le_of_ble_eq_true rfl, Nat.le_of_ble_eq_true rfl, rfl, rfl⟩ ⟨Nat.zero_le _, Nat.zero_le _⟩ (Nat.le_of_ble_eq_true rfl) rfl rfl dX9_show_17 (fun r2 _ => ?_)
    refine g_ifb_ne (pc := 20) (tgt := 27) C dX9_show_20 rfl ?_ ?_
    · refine g_iconst (pc := 27) (v := 0) C dX9_show_27 (by decide) ?_
      refine g_keep [true, true, true, false, false, false] ?_
      exact bX9_show_28 C hr b hb σ p1 p2 0
    · refine g_iconst (pc := 23) (v := 2) C dX9_show_23 (by decide) ?_
      refine g_goto (pc := 24) (tgt := 28) C dX9_show_24 rfl ?_
      refine g_keep [true, true, true, false, false, false] ?_
      exact bX9_show_28 C hr b hb σ p1 p2 2
  · refine g_iconst (pc := 11) (v := 1) C dX9_show_11 (by decide) ?_
    refine g_goto (pc := 12) (tgt := 28) C dX9_show_12 rfl ?_
    refine g_keep [true, true, true, false, false, false] ?_
    exact bX9_show_28 C hr b hb σ p1 p2 1
theorem dX9_activate_0 : decode cX9_activate 0 = .ok (.aload_n 0, 1) := by decide +kernel
theorem dX9_activate_1 : decode cX9_activate 1 = .ok (.iload_n 1, 1) := by decide +kernel
theorem dX9_activate_2 : decode cX9_activate 2 = .ok (.invokevirtual 144, 3) := by decide +kernel
theorem dX9_activate_5 : decode cX9_activate 5 = .ok (.istore_n 2, 1) := by decide +kernel
theorem dX9_activate_6 : decode cX9_activate 6 = .ok (.aload_n 0, 1) := by decide +kernel
theorem dX9_activate_7 : decode cX9_activate 7 = .ok (.iload_n 2, 1) := by decide +kernel
theorem dX9_activate_8 : decode cX9_activate 8 = .ok (.ifCond .ne 7, 3) := by decide +kernel
theorem dX9_activate_11 : decode cX9_activate 11 = .ok (.iconst 1, 1) := by decide +kernel
theorem dX9_activate_12 : decode cX9_activate 12 = .ok (.goto 16, 3) := by decide +kernel
theorem dX9_activate_15 : decode cX9_activate 15 = .ok (.aload_n 0, 1) := by decide +kernel
theorem dX9_activate_16 : decode cX9_activate 16 = .ok (.iload_n 1, 1) := by decide +kernel
theorem dX9_activate_17 : decode cX9_activate 17 = .ok (.invokevirtual 223, 3) := by decide +kernel
theorem dX9_activate_20 : decode cX9_activate 20 = .ok (.ifCond .ne 7, 3) := by decide +kernel
theorem dX9_activate_23 : decode cX9_activate 23 = .ok (.iconst 2, 1) := by decide +kernel
theorem dX9_activate_24 : decode cX9_activate 24 = .ok (.goto 4, 3) := by decide +kernel
theorem dX9_activate_27 : decode cX9_activate 27 = .ok (.iconst 0, 1) := by decide +kernel
theorem dX9_activate_28 : decode cX9_activate 28 = .ok (.invokevirtual 57, 3) := by decide +kernel
theorem dX9_activate_31 : decode cX9_activate 31 = .ok (.ifCond .eq 5, 3) := by decide +kernel
theorem dX9_activate_34 : decode cX9_activate 34 = .ok (.iconst 0, 1) := by decide +kernel
theorem dX9_activate_35 : decode cX9_activate 35 = .ok (.ireturn, 1) := by decide +kernel
theorem dX9_activate_36 : decode cX9_activate 36 = .ok (.aload_n 0, 1) := by decide +kernel
theorem dX9_activate_37 : decode cX9_activate 37 = .ok (.iload_n 1, 1) := by decide +kernel
theorem dX9_activate_38 : decode cX9_activate 38 = .ok (.iconst 3, 1) := by decide +kernel
theorem dX9_activate_39 : decode cX9_activate 39 = .ok (.invokevirtual 65, 3) := by decide +kernel
theorem dX9_activate_42 : decode cX9_activate 42 = .ok (.istore_n 3, 1) := by decide +kernel
theorem dX9_activate_43 : decode cX9_activate 43 = .ok (.aload_n 0, 1) := by decide +kernel
theorem dX9_activate_44 : decode cX9_activate 44 = .ok (.iload_n 3, 1) := by decide +kernel
theorem dX9_activate_45 : decode cX9_activate 45 = .ok (.iconst 5, 1) := by decide +kernel
theorem dX9_activate_46 : decode cX9_activate 46 = .ok (.invokevirtual 76, 3) := by decide +kernel
theorem dX9_activate_49 : decode cX9_activate 49 = .ok (.istore 4, 2) := by decide +kernel
theorem dX9_activate_51 : decode cX9_activate 51 = .ok (.aload_n 0, 1) := by decide +kernel
theorem dX9_activate_52 : decode cX9_activate 52 = .ok (.invokevirtual 141, 3) := by decide +kernel
theorem dX9_activate_55 : decode cX9_activate 55 = .ok (.aload_n 0, 1) := by decide +kernel
theorem dX9_activate_56 : decode cX9_activate 56 = .ok (.iload_n 3, 1) := by decide +kernel
theorem dX9_activate_57 : decode cX9_activate 57 = .ok (.iconst 5, 1) := by decide +kernel
theorem dX9_activate_58 : decode cX9_activate 58 = .ok (.iload_n 1, 1) := by decide +kernel
theorem dX9_activate_59 : decode cX9_activate 59 = .ok (.invokevirtual 79, 3) := by decide +kernel
theorem dX9_activate_62 : decode cX9_activate 62 = .ok (.aload_n 0, 1) := by decide +kernel
theorem dX9_activate_63 : decode cX9_activate 63 = .ok (.sipush 251, 3) := by decide +kernel
theorem dX9_activate_66 : decode cX9_activate 66 = .ok (.iload_n 1, 1) := by decide +kernel
theorem dX9_activate_67 : decode cX9_activate 67 = .ok (.invokevirtual 138, 3) := by decide +kernel
theorem dX9_activate_70 : decode cX9_activate 70 = .ok (.aload_n 0, 1) := by decide +kernel
theorem dX9_activate_71 : decode cX9_activate 71 = .ok (.iload_n 3, 1) := by decide +kernel
theorem dX9_activate_72 : decode cX9_activate 72 = .ok (.invokevirtual 91, 3) := by decide +kernel
theorem dX9_activate_75 : decode cX9_activate 75 = .ok (.ifCond .le 15, 3) := by decide +kernel
theorem dX9_activate_78 : decode cX9_activate 78 = .ok (.aload_n 0, 1) := by decide +kernel
theorem dX9_activate_79 : decode cX9_activate 79 = .ok (.sipush 246, 3) := by decide +kernel
theorem dX9_activate_82 : decode cX9_activate 82 = .ok (.aload_n 0, 1) := by decide +kernel
theorem dX9_activate_83 : decode cX9_activate 83 = .ok (.iload_n 3, 1) := by decide +kernel
theorem dX9_activate_84 : decode cX9_activate 84 = .ok (.invokevirtual 91, 3) := by decide +kernel
theorem dX9_activate_87 : decode cX9_activate 87 = .ok (.invokevirtual 104, 3) := by decide +kernel
theorem dX9_activate_90 : decode cX9_activate 90 = .ok (.iload 4, 2) := by decide +kernel
theorem dX9_activate_92 : decode cX9_activate 92 = .ok (.ireturn, 1) := by decide +kernel
abbrev rmX9_activate : Room := { frames := 4, cells := 0, slots := 0, locals := 92 }
theorem hdX9_activate : yX9_activate.cls ≠ "java/lang/invoke/MethodHandle" ∧ yX9_activate.cls ≠ "java/lang/invoke/VarHandle" ∧ (parseMethodDescriptor yX9_activate.desc).map (fun d => d.parameters.length) = some 1 := by decide +kernel
def fX9_activate_28 (b : Nat) (σ : Sg) (l1 : Int32) (s1 : Int32) : Option (Int32 × Sg) :=
  (fX9_refused σ b s1).bind fun r3 =>
  if r3.1 = true then
    some (0, r3.2)
  else
    (fX9_of r3.2 b l1 3).bind fun r4 =>
    (fX9_its r3.2 b r4 5).bind fun r5 =>
    (fX9_saves r3.2 b).bind fun σ6 =>
    (fX9_lay σ6 b r4 5 l1).bind fun σ7 =>
    (fX9_comesFirst σ7 b 251 l1).bind fun σ8 =>
    (fX9_windowOf σ8 b r4).bind fun r9 =>
    if r9 ≤ 0 then
      some (r5, σ8)
    else
      (fX9_windowOf σ8 b r4).bind fun r10 =>
      (fX9_comesLast σ8 b 246 r10).bind fun σ11 =>
      some (r5, σ11)
theorem bX9_activate_28 {X : Xc} {K : Kc} (C : MC X K cX9_activate 5 RX9 rmX9_activate) (hr : K.meth.sig.returnType = (some .int)) (b : Nat) (hb : moOK b) (σ : Sg) (l1 : Int32) (s1 : Int32) : GO X K 5 (fun r => MQi X K r.1 r.2) (fX9_activate_28 b σ l1 s1) σ 0 0 28 [some (.ref (X.ad b)), some (.int (l1)), none, none, none] [.int (s1), .ref (X.ad b)] := by
  unfold fX9_activate_28
  refine g_callVi (pc := 28) (As := [.int (s1)]) C (kX9_refused X σ b s1 hb) (blk hb 0 rfl) rfl q_10_9 q_10_10 q_10_11 q_1_5 q_10_12 ⟨rfl, hdX9_refused⟩ ⟨Nat.le_of_ble_eq_true rfl, Nat.le_of_ble_eq_true rfl, rfl, rfl⟩ ⟨Nat.zero_le _, Nat.zero_le _⟩ (Nat.le_of_ble_eq_true rfl) rfl rfl dX9_activate_28 (fun r3 _ => ?_)
  refine g_ifb_eq (pc := 31) (tgt := 36) C dX9_activate_31 rfl ?_ ?_
  · refine g_iconst (pc := 34) (v := 0) C dX9_activate_34 (by decide) ?_
    exact g_iret (pc := 35) C hr dX9_activate_35 rfl
  · refine g_aload_n (pc := 36) (i := 0) C dX9_activate_36 rfl rfl ?_
    refine g_iload_n (pc := 37) (i := 1) C dX9_activate_37 rfl rfl ?_
    refine g_iconst (pc := 38) (v := 3) C dX9_activate_38 (by decide) ?_
    refine g_callVi (pc := 39) (As := [.int (l1), .int (3)]) C (kX9_of X r3.2 b l1 3 hb) (blk hb 0 rfl) rfl q_10_2 q_10_3 q_10_4 q_1_5 q_10_5 ⟨rfl, hdX9_of⟩ ⟨Nat.le_of_ble_eq_true rfl, Nat.le_of_ble_eq_true rfl, rfl, rfl⟩ ⟨Nat.zero_le _, Nat.zero_le _⟩ (Nat.le_of_ble_eq_true rfl) rfl rfl dX9_activate_39 (fun r4 _ => ?_)
    refine g_istore_n (pc := 42) (i := 3) C dX9_activate_42 rfl (Nat.le_of_ble_eq_true rfl) rfl ?_
    refine g_aload_n (pc := 43) (i := 0) C dX9_activate_43 rfl rfl ?_
    refine g_iload_n (pc := 44) (i := 3) C dX9_activate_44 rfl rfl ?_
    refine g_iconst (pc := 45) (v := 5) C dX9_activate_45 (by decide) ?_
    refine g_callVi (pc := 46) (As := [.int (r4), .int (5)]) C (kX9_its X r3.2 b r4 5 hb) (blk hb 0 rfl) rfl q_20_12 q_20_13 q_20_14 q_1_5 q_20_15 ⟨rfl, hdX9_its⟩ ⟨Nat.le_of_ble_eq_true rfl, Nat.le_of_ble_eq_true rfl, rfl, rfl⟩ ⟨Nat.zero_le _, Nat.zero_le _⟩ (Nat.le_of_ble_eq_true rfl) rfl rfl dX9_activate_46 (fun r5 _ => ?_)
    refine g_istore (pc := 49) C dX9_activate_49 (Nat.le_of_ble_eq_true rfl) rfl ?_
    refine g_aload_n (pc := 51) (i := 0) C dX9_activate_51 rfl rfl ?_
    refine g_callVv (pc := 52) (As := []) C (kX9_saves X r3.2 b hb) (blk hb 0 rfl) rfl q_10_14 q_10_15 q_10_16 q_1_5 q_10_17 ⟨rfl, hdX9_saves⟩ ⟨Nat.le_of_ble_eq_true rfl, Nat.le_of_ble_eq_true rfl, rfl, rfl⟩ ⟨Nat.zero_le _, Nat.zero_le _⟩ (Nat.le_of_ble_eq_true rfl) rfl rfl dX9_activate_52 (fun σ6 _ => ?_)
    refine g_aload_n (pc := 55) (i := 0) C dX9_activate_55 rfl rfl ?_
    refine g_iload_n (pc := 56) (i := 3) C dX9_activate_56 rfl rfl ?_
    refine g_iconst (pc := 57) (v := 5) C dX9_activate_57 (by decide) ?_
    refine g_iload_n (pc := 58) (i := 1) C dX9_activate_58 rfl rfl ?_
    refine g_callVv (pc := 59) (As := [.int (r4), .int (5), .int (l1)]) C (kX9_lay X σ6 b r4 5 l1 hb) (blk hb 0 rfl) rfl q_21_0 q_21_1 q_21_2 q_1_5 q_21_3 ⟨rfl, hdX9_lay⟩ ⟨Nat.le_of_ble_eq_true rfl, Nat.le_of_ble_eq_true rfl, rfl, rfl⟩ ⟨Nat.zero_le _, Nat.zero_le _⟩ (Nat.le_of_ble_eq_true rfl) rfl rfl dX9_activate_59 (fun σ7 _ => ?_)
    refine g_aload_n (pc := 62) (i := 0) C dX9_activate_62 rfl rfl ?_
    refine g_sipush (pc := 63) (v := 251) C dX9_activate_63 (by decide) ?_
    refine g_iload_n (pc := 66) (i := 1) C dX9_activate_66 rfl rfl ?_
    refine g_callVv (pc := 67) (As := [.int (251), .int (l1)]) C (kX9_comesFirst X σ7 b 251 l1 hb) (blk hb 0 rfl) rfl q_35_14 q_35_15 q_35_16 q_1_5 q_35_17 ⟨rfl, hdX9_comesFirst⟩ ⟨Nat.le_of_ble_eq_true rfl, Nat.le_of_ble_eq_true rfl, rfl, rfl⟩ ⟨Nat.zero_le _, Nat.zero_le _⟩ (Nat.le_of_ble_eq_true rfl) rfl rfl dX9_activate_67 (fun σ8 _ => ?_)
    refine g_aload_n (pc := 70) (i := 0) C dX9_activate_70 rfl rfl ?_
    refine g_iload_n (pc := 71) (i := 3) C dX9_activate_71 rfl rfl ?_
    refine g_callVi (pc := 72) (As := [.int (r4)]) C (kX9_windowOf X σ8 b r4 hb) (blk hb 0 rfl) rfl q_22_4 q_22_5 q_22_6 q_1_5 q_22_7 ⟨rfl, hdX9_windowOf⟩ ⟨Nat.le_of_ble_eq_true rfl, Nat.le_of_ble_eq_true rfl, rfl, rfl⟩ ⟨Nat.zero_le _, Nat.zero_le _⟩ (Nat.le_of_ble_eq_true rfl) rfl rfl dX9_activate_72 (fun r9 _ => ?_)
    refine g_if_le (pc := 75) (tgt := 90) C dX9_activate_75 rfl ?_ ?_
    · refine g_iload (pc := 90) C dX9_activate_90 rfl ?_
      exact g_iret (pc := 92) C hr dX9_activate_92 rfl
    · refine g_aload_n (pc := 78) (i := 0) C dX9_activate_78 rfl rfl ?_
      refine g_sipush (pc := 79) (v := 246) C dX9_activate_79 (by decide) ?_
      refine g_aload_n (pc := 82) (i := 0) C dX9_activate_82 rfl rfl ?_
      refine g_iload_n (pc := 83) (i := 3) C dX9_activate_83 rfl rfl ?_
      refine g_callVi (pc := 84) (As := [.int (r4)]) C (kX9_windowOf X σ8 b r4 hb) (blk hb 0 rfl) rfl q_22_4 q_22_5 q_22_6 q_1_5 q_22_7 ⟨rfl, hdX9_windowOf⟩ ⟨Nat.le_of_ble_eq_true rfl, Nat.le_of_ble_eq_true rfl, rfl, rfl⟩ ⟨Nat.zero_le _, Nat.zero_le _⟩ (Nat.le_of_ble_eq_true rfl) rfl rfl dX9_activate_84 (fun r10 _ => ?_)
      refine g_callVv (pc := 87) (As := [.int (246), .int (r10)]) C (kX9_comesLast X σ8 b 246 r10 hb) (blk hb 0 rfl) rfl q_31_22 q_31_23 q_32_0 q_1_5 q_32_1 ⟨rfl, hdX9_comesLast⟩ ⟨Nat.le_of_ble_eq_true rfl, Nat.le_of_ble_eq_true rfl, rfl, rfl⟩ ⟨Nat.zero_le _, Nat.zero_le _⟩ (Nat.le_of_ble_eq_true rfl) rfl rfl dX9_activate_87 (fun σ11 _ => ?_)
      refine g_iload (pc := 90) C dX9_activate_90 rfl ?_
      exact g_iret (pc := 92) C hr dX9_activate_92 rfl
def fX9_activate (σ : Sg) (b : Nat) (p1 : Int32) : Option (Int32 × Sg) :=
  (fX9_isPane σ b p1).bind fun r1 =>
  if r1 = true then
    (fX9_isShown σ b p1).bind fun r2 =>
    if r2 = true then
      (fX9_activate_28 b σ p1 0)
    else
      (fX9_activate_28 b σ p1 2)
  else
    (fX9_activate_28 b σ p1 1)
theorem kX9_activate (X : Xc) (σ : Sg) (b : Nat) (p1 : Int32) (hb : moOK b) : ∀ r, fX9_activate σ b p1 = some r → Met X.l yX9_activate (wsM yX9_activate cX9_activate 5 (some .int)) rmX9_activate (va_Pc [.ref (X.ad b), .int p1] (PW X σ)) (Qi X r.1 r.2) 0 0 X.A := by
  refine mt_of (own := RX9) (lo := [some (.ref (X.ad b)), some (.int (p1)), none, none, none]) (by decide) rfl (Nat.le_of_ble_eq_true rfl) rfl (fun K C hr => ?_)
  unfold fX9_activate
  refine g_aload_n (pc := 0) (i := 0) C dX9_activate_0 rfl rfl ?_
  refine g_iload_n (pc := 1) (i := 1) C dX9_activate_1 rfl rfl ?_
  refine g_callVi (pc := 2) (As := [.int (p1)]) C (kX9_isPane X σ b p1 hb) (blk hb 0 rfl) rfl q_19_16 q_19_17 q_19_18 q_1_5 q_19_19 ⟨rfl, hdX9_isPane⟩ ⟨Nat.le_of_ble_eq_true rfl, Nat.le_of_ble_eq_true rfl, rfl, rfl⟩ ⟨Nat.zero_le _, Nat.zero_le _⟩ (Nat.le_of_ble_eq_true rfl) rfl rfl dX9_activate_2 (fun r1 _ => ?_)
  refine g_istore_n (pc := 5) (i := 2) C dX9_activate_5 rfl (Nat.le_of_ble_eq_true rfl) rfl ?_
  refine g_aload_n (pc := 6) (i := 0) C dX9_activate_6 rfl rfl ?_
  refine g_iload_n (pc := 7) (i := 2) C dX9_activate_7 rfl rfl ?_
  refine g_ifb_ne (pc := 8) (tgt := 15) C dX9_activate_8 rfl ?_ ?_
  · refine g_aload_n (pc := 15) (i := 0) C dX9_activate_15 rfl rfl ?_
    refine g_iload_n (pc := 16) (i := 1) C dX9_activate_16 rfl rfl ?_
    refine g_callVi (pc := 17) (As := [.int (p1)]) C (kX9_isShown X σ b p1 hb) (blk hb 0 rfl) rfl q_39_10 q_39_11 q_39_12 q_1_5 q_39_13 ⟨rfl, hdX9_isShown⟩ ⟨Nat.le_of_ble_eq_true rfl, Nat.le_of_ble_eq_true rfl, rfl, rfl⟩ ⟨Nat.zero_le _, Nat.zero_le _⟩ (Nat.le_of_ble_eq_true rfl) rfl rfl dX9_activate_17 (fun r2 _ => ?_)
    refine g_ifb_ne (pc := 20) (tgt := 27) C dX9_activate_20 rfl ?_ ?_
    · refine g_iconst (pc := 27) (v := 0) C dX9_activate_27 (by decide) ?_
      refine g_keep [true, true, false, false, false] ?_
      exact bX9_activate_28 C hr b hb σ p1 0
    · refine g_iconst (pc := 23) (v := 2) C dX9_activate_23 (by decide) ?_
      refine g_goto (pc := 24) (tgt := 28) C dX9_activate_24 rfl ?_
      refine g_keep [true, true, false, false, false] ?_
      exact bX9_activate_28 C hr b hb σ p1 2
  · refine g_iconst (pc := 11) (v := 1) C dX9_activate_11 (by decide) ?_
    refine g_goto (pc := 12) (tgt := 28) C dX9_activate_12 rfl ?_
    refine g_keep [true, true, false, false, false] ?_
    exact bX9_activate_28 C hr b hb σ p1 1
theorem dX9_moveTab_0 : decode cX9_moveTab 0 = .ok (.aload_n 0, 1) := by decide +kernel
theorem dX9_moveTab_1 : decode cX9_moveTab 1 = .ok (.iload_n 1, 1) := by decide +kernel
theorem dX9_moveTab_2 : decode cX9_moveTab 2 = .ok (.invokevirtual 144, 3) := by decide +kernel
theorem dX9_moveTab_5 : decode cX9_moveTab 5 = .ok (.istore_n 3, 1) := by decide +kernel
theorem dX9_moveTab_6 : decode cX9_moveTab 6 = .ok (.iload_n 3, 1) := by decide +kernel
theorem dX9_moveTab_7 : decode cX9_moveTab 7 = .ok (.ifCond .eq 15, 3) := by decide +kernel
theorem dX9_moveTab_10 : decode cX9_moveTab 10 = .ok (.aload_n 0, 1) := by decide +kernel
theorem dX9_moveTab_11 : decode cX9_moveTab 11 = .ok (.iload_n 1, 1) := by decide +kernel
theorem dX9_moveTab_12 : decode cX9_moveTab 12 = .ok (.invokevirtual 69, 3) := by decide +kernel
theorem dX9_moveTab_15 : decode cX9_moveTab 15 = .ok (.ifCond .eq 7, 3) := by decide +kernel
theorem dX9_moveTab_18 : decode cX9_moveTab 18 = .ok (.iconst 1, 1) := by decide +kernel
theorem dX9_moveTab_19 : decode cX9_moveTab 19 = .ok (.goto 4, 3) := by decide +kernel
theorem dX9_moveTab_22 : decode cX9_moveTab 22 = .ok (.iconst 0, 1) := by decide +kernel
theorem dX9_moveTab_23 : decode cX9_moveTab 23 = .ok (.istore 4, 2) := by decide +kernel
theorem dX9_moveTab_25 : decode cX9_moveTab 25 = .ok (.aload_n 0, 1) := by decide +kernel
theorem dX9_moveTab_26 : decode cX9_moveTab 26 = .ok (.iload_n 3, 1) := by decide +kernel
theorem dX9_moveTab_27 : decode cX9_moveTab 27 = .ok (.ifCond .ne 7, 3) := by decide +kernel
theorem dX9_moveTab_30 : decode cX9_moveTab 30 = .ok (.iconst 1, 1) := by decide +kernel
theorem dX9_moveTab_31 : decode cX9_moveTab 31 = .ok (.goto 37, 3) := by decide +kernel
theorem dX9_moveTab_34 : decode cX9_moveTab 34 = .ok (.iload 4, 2) := by decide +kernel
theorem dX9_moveTab_36 : decode cX9_moveTab 36 = .ok (.ifCond .ne 7, 3) := by decide +kernel
theorem dX9_moveTab_39 : decode cX9_moveTab 39 = .ok (.iconst 2, 1) := by decide +kernel
theorem dX9_moveTab_40 : decode cX9_moveTab 40 = .ok (.goto 28, 3) := by decide +kernel
theorem dX9_moveTab_43 : decode cX9_moveTab 43 = .ok (.iload_n 2, 1) := by decide +kernel
theorem dX9_moveTab_44 : decode cX9_moveTab 44 = .ok (.iconst 0, 1) := by decide +kernel
theorem dX9_moveTab_45 : decode cX9_moveTab 45 = .ok (.aload_n 0, 1) := by decide +kernel
theorem dX9_moveTab_46 : decode cX9_moveTab 46 = .ok (.aload_n 0, 1) := by decide +kernel
theorem dX9_moveTab_47 : decode cX9_moveTab 47 = .ok (.iload_n 1, 1) := by decide +kernel
theorem dX9_moveTab_48 : decode cX9_moveTab 48 = .ok (.iconst 3, 1) := by decide +kernel
theorem dX9_moveTab_49 : decode cX9_moveTab 49 = .ok (.invokevirtual 65, 3) := by decide +kernel
theorem dX9_moveTab_52 : decode cX9_moveTab 52 = .ok (.invokevirtual 107, 3) := by decide +kernel
theorem dX9_moveTab_55 : decode cX9_moveTab 55 = .ok (.iconst 1, 1) := by decide +kernel
theorem dX9_moveTab_56 : decode cX9_moveTab 56 = .ok (.isub, 1) := by decide +kernel
theorem dX9_moveTab_57 : decode cX9_moveTab 57 = .ok (.invokestatic 61, 3) := by decide +kernel
theorem dX9_moveTab_60 : decode cX9_moveTab 60 = .ok (.ifCond .ne 7, 3) := by decide +kernel
theorem dX9_moveTab_63 : decode cX9_moveTab 63 = .ok (.iconst 3, 1) := by decide +kernel
theorem dX9_moveTab_64 : decode cX9_moveTab 64 = .ok (.goto 4, 3) := by decide +kernel
theorem dX9_moveTab_67 : decode cX9_moveTab 67 = .ok (.iconst 0, 1) := by decide +kernel
theorem dX9_moveTab_68 : decode cX9_moveTab 68 = .ok (.invokevirtual 57, 3) := by decide +kernel
theorem dX9_moveTab_71 : decode cX9_moveTab 71 = .ok (.ifCond .eq 5, 3) := by decide +kernel
theorem dX9_moveTab_74 : decode cX9_moveTab 74 = .ok (.iconst 0, 1) := by decide +kernel
theorem dX9_moveTab_75 : decode cX9_moveTab 75 = .ok (.ireturn, 1) := by decide +kernel
theorem dX9_moveTab_76 : decode cX9_moveTab 76 = .ok (.aload_n 0, 1) := by decide +kernel
theorem dX9_moveTab_77 : decode cX9_moveTab 77 = .ok (.iload_n 1, 1) := by decide +kernel
theorem dX9_moveTab_78 : decode cX9_moveTab 78 = .ok (.iconst 4, 1) := by decide +kernel
theorem dX9_moveTab_79 : decode cX9_moveTab 79 = .ok (.invokevirtual 65, 3) := by decide +kernel
theorem dX9_moveTab_82 : decode cX9_moveTab 82 = .ok (.istore 5, 2) := by decide +kernel
theorem dX9_moveTab_84 : decode cX9_moveTab 84 = .ok (.aload_n 0, 1) := by decide +kernel
theorem dX9_moveTab_85 : decode cX9_moveTab 85 = .ok (.invokevirtual 141, 3) := by decide +kernel
theorem dX9_moveTab_88 : decode cX9_moveTab 88 = .ok (.iconst 0, 1) := by decide +kernel
theorem dX9_moveTab_89 : decode cX9_moveTab 89 = .ok (.istore 6, 2) := by decide +kernel
theorem dX9_moveTab_91 : decode cX9_moveTab 91 = .ok (.iload 6, 2) := by decide +kernel
theorem dX9_moveTab_93 : decode cX9_moveTab 93 = .ok (.bipush 12, 2) := by decide +kernel
theorem dX9_moveTab_95 : decode cX9_moveTab 95 = .ok (.if_icmp .ge 83, 3) := by decide +kernel
theorem dX9_moveTab_98 : decode cX9_moveTab 98 = .ok (.aload_n 0, 1) := by decide +kernel
theorem dX9_moveTab_99 : decode cX9_moveTab 99 = .ok (.iload 6, 2) := by decide +kernel
theorem dX9_moveTab_101 : decode cX9_moveTab 101 = .ok (.iconst 3, 1) := by decide +kernel
theorem dX9_moveTab_102 : decode cX9_moveTab 102 = .ok (.invokevirtual 65, 3) := by decide +kernel
theorem dX9_moveTab_105 : decode cX9_moveTab 105 = .ok (.aload_n 0, 1) := by decide +kernel
theorem dX9_moveTab_106 : decode cX9_moveTab 106 = .ok (.iload_n 1, 1) := by decide +kernel
theorem dX9_moveTab_107 : decode cX9_moveTab 107 = .ok (.iconst 3, 1) := by decide +kernel
theorem dX9_moveTab_108 : decode cX9_moveTab 108 = .ok (.invokevirtual 65, 3) := by decide +kernel
theorem dX9_moveTab_111 : decode cX9_moveTab 111 = .ok (.if_icmp .ne 61, 3) := by decide +kernel
theorem dX9_moveTab_114 : decode cX9_moveTab 114 = .ok (.aload_n 0, 1) := by decide +kernel
theorem dX9_moveTab_115 : decode cX9_moveTab 115 = .ok (.iload 6, 2) := by decide +kernel
theorem dX9_moveTab_117 : decode cX9_moveTab 117 = .ok (.iconst 4, 1) := by decide +kernel
theorem dX9_moveTab_118 : decode cX9_moveTab 118 = .ok (.invokevirtual 65, 3) := by decide +kernel
theorem dX9_moveTab_121 : decode cX9_moveTab 121 = .ok (.istore 7, 2) := by decide +kernel
theorem dX9_moveTab_123 : decode cX9_moveTab 123 = .ok (.aload_n 0, 1) := by decide +kernel
theorem dX9_moveTab_124 : decode cX9_moveTab 124 = .ok (.iload 6, 2) := by decide +kernel
theorem dX9_moveTab_126 : decode cX9_moveTab 126 = .ok (.iconst 4, 1) := by decide +kernel
theorem dX9_moveTab_127 : decode cX9_moveTab 127 = .ok (.iload 7, 2) := by decide +kernel
theorem dX9_moveTab_129 : decode cX9_moveTab 129 = .ok (.iload 5, 2) := by decide +kernel
theorem dX9_moveTab_131 : decode cX9_moveTab 131 = .ok (.if_icmp .le 16, 3) := by decide +kernel
theorem dX9_moveTab_134 : decode cX9_moveTab 134 = .ok (.iload 7, 2) := by decide +kernel
theorem dX9_moveTab_136 : decode cX9_moveTab 136 = .ok (.iload_n 2, 1) := by decide +kernel
theorem dX9_moveTab_137 : decode cX9_moveTab 137 = .ok (.if_icmp .gt 10, 3) := by decide +kernel
theorem dX9_moveTab_140 : decode cX9_moveTab 140 = .ok (.iload 7, 2) := by decide +kernel
theorem dX9_moveTab_142 : decode cX9_moveTab 142 = .ok (.iconst 1, 1) := by decide +kernel
theorem dX9_moveTab_143 : decode cX9_moveTab 143 = .ok (.isub, 1) := by decide +kernel
theorem dX9_moveTab_144 : decode cX9_moveTab 144 = .ok (.goto 25, 3) := by decide +kernel
theorem dX9_moveTab_147 : decode cX9_moveTab 147 = .ok (.iload 7, 2) := by decide +kernel
theorem dX9_moveTab_149 : decode cX9_moveTab 149 = .ok (.iload 5, 2) := by decide +kernel
theorem dX9_moveTab_151 : decode cX9_moveTab 151 = .ok (.if_icmp .ge 16, 3) := by decide +kernel
theorem dX9_moveTab_154 : decode cX9_moveTab 154 = .ok (.iload 7, 2) := by decide +kernel
theorem dX9_moveTab_156 : decode cX9_moveTab 156 = .ok (.iload_n 2, 1) := by decide +kernel
theorem dX9_moveTab_157 : decode cX9_moveTab 157 = .ok (.if_icmp .lt 10, 3) := by decide +kernel
theorem dX9_moveTab_160 : decode cX9_moveTab 160 = .ok (.iload 7, 2) := by decide +kernel
theorem dX9_moveTab_162 : decode cX9_moveTab 162 = .ok (.iconst 1, 1) := by decide +kernel
theorem dX9_moveTab_163 : decode cX9_moveTab 163 = .ok (.iadd, 1) := by decide +kernel
theorem dX9_moveTab_164 : decode cX9_moveTab 164 = .ok (.goto 5, 3) := by decide +kernel
theorem dX9_moveTab_167 : decode cX9_moveTab 167 = .ok (.iload 7, 2) := by decide +kernel
theorem dX9_moveTab_169 : decode cX9_moveTab 169 = .ok (.invokevirtual 126, 3) := by decide +kernel
theorem dX9_moveTab_172 : decode cX9_moveTab 172 = .ok (.iinc 6 1, 3) := by decide +kernel
theorem dX9_moveTab_175 : decode cX9_moveTab 175 = .ok (.goto (-84), 3) := by decide +kernel
theorem dX9_moveTab_178 : decode cX9_moveTab 178 = .ok (.aload_n 0, 1) := by decide +kernel
theorem dX9_moveTab_179 : decode cX9_moveTab 179 = .ok (.iload_n 1, 1) := by decide +kernel
theorem dX9_moveTab_180 : decode cX9_moveTab 180 = .ok (.iconst 4, 1) := by decide +kernel
theorem dX9_moveTab_181 : decode cX9_moveTab 181 = .ok (.iload_n 2, 1) := by decide +kernel
theorem dX9_moveTab_182 : decode cX9_moveTab 182 = .ok (.invokevirtual 126, 3) := by decide +kernel
theorem dX9_moveTab_185 : decode cX9_moveTab 185 = .ok (.iload 5, 2) := by decide +kernel
theorem dX9_moveTab_187 : decode cX9_moveTab 187 = .ok (.ireturn, 1) := by decide +kernel
abbrev rmX9_moveTab : Room := { frames := 2, cells := 0, slots := 0, locals := 45 }
theorem hdX9_moveTab : yX9_moveTab.cls ≠ "java/lang/invoke/MethodHandle" ∧ yX9_moveTab.cls ≠ "java/lang/invoke/VarHandle" ∧ (parseMethodDescriptor yX9_moveTab.desc).map (fun d => d.parameters.length) = some 2 := by decide +kernel
def fX9_moveTab_172 (b : Nat) (k91 : Sg → Int32 → Int32 → Int32 → Int32 → Option (Int32 × Sg)) (σ : Sg) (l1 : Int32) (l2 : Int32) (l5 : Int32) (l6 : Int32) : Option (Int32 × Sg) :=
  (k91 σ l1 l2 l5 (l6 + 1))
theorem bX9_moveTab_172 {X : Xc} {K : Kc} (C : MC X K cX9_moveTab 8 RX9 rmX9_moveTab) (hr : K.meth.sig.returnType = (some .int)) (b : Nat) (hb : moOK b){k91 : Sg → Int32 → Int32 → Int32 → Int32 → Option (Int32 × Sg)} (hk91 : ∀ (σ : Sg) (l1 : Int32) (l2 : Int32) (l5 : Int32) (l6 : Int32), GO X K 8 (fun r => MQi X K r.1 r.2) (k91 σ l1 l2 l5 l6) σ 0 0 91 [some (.ref (X.ad b)), some (.int (l1)), some (.int (l2)), none, none, some (.int (l5)), some (.int (l6)), none] []) (σ : Sg) (l1 : Int32) (l2 : Int32) (l5 : Int32) (l6 : Int32) : GO X K 8 (fun r => MQi X K r.1 r.2) (fX9_moveTab_172 b k91 σ l1 l2 l5 l6) σ 0 0 172 [some (.ref (X.ad b)), some (.int (l1)), some (.int (l2)), none, none, some (.int (l5)), some (.int (l6)), none] [] := by
  unfold fX9_moveTab_172
  refine g_iinc (pc := 172) (v := l6 + 1) C dX9_moveTab_172 rfl (rfl) (Nat.le_of_ble_eq_true rfl) rfl ?_
  refine g_goto (pc := 175) (tgt := 91) C dX9_moveTab_175 rfl ?_
  refine g_keep [true, true, true, false, false, true, true, false] ?_
  exact hk91 σ l1 l2 l5 (l6 + 1)
def fX9_moveTab_169 (b : Nat) (k91 : Sg → Int32 → Int32 → Int32 → Int32 → Option (Int32 × Sg)) (σ : Sg) (l1 : Int32) (l2 : Int32) (l5 : Int32) (l6 : Int32) (s1 : Int32) (s2 : Int32) (s3 : Int32) : Option (Int32 × Sg) :=
  (fX9_put σ b s1 s2 s3).bind fun σ13 =>
  (fX9_moveTab_172 b k91 σ13 l1 l2 l5 l6)
theorem bX9_moveTab_169 {X : Xc} {K : Kc} (C : MC X K cX9_moveTab 8 RX9 rmX9_moveTab) (hr : K.meth.sig.returnType = (some .int)) (b : Nat) (hb : moOK b){k91 : Sg → Int32 → Int32 → Int32 → Int32 → Option (Int32 × Sg)} (hk91 : ∀ (σ : Sg) (l1 : Int32) (l2 : Int32) (l5 : Int32) (l6 : Int32), GO X K 8 (fun r => MQi X K r.1 r.2) (k91 σ l1 l2 l5 l6) σ 0 0 91 [some (.ref (X.ad b)), some (.int (l1)), some (.int (l2)), none, none, some (.int (l5)), some (.int (l6)), none] []) (σ : Sg) (l1 : Int32) (l2 : Int32) (l5 : Int32) (l6 : Int32) (s1 : Int32) (s2 : Int32) (s3 : Int32) : GO X K 8 (fun r => MQi X K r.1 r.2) (fX9_moveTab_169 b k91 σ l1 l2 l5 l6 s1 s2 s3) σ 0 0 169 [some (.ref (X.ad b)), some (.int (l1)), some (.int (l2)), none, none, some (.int (l5)), some (.int (l6)), none] [.int (s3), .int (s2), .int (s1), .ref (X.ad b)] := by
  unfold fX9_moveTab_169
  refine g_callVv (pc := 169) (As := [.int (s1), .int (s2), .int (s3)]) C (kX9_put X σ b s1 s2 s3 hb) (blk hb 0 rfl) rfl q_10_19 q_10_20 q_10_21 q_1_5 q_10_22 ⟨rfl, hdX9_put⟩ ⟨Nat.le_of_ble_eq_true rfl, Nat.le_of_ble_eq_true rfl, rfl, rfl⟩ ⟨Nat.zero_le _, Nat.zero_le _⟩ (Nat.le_of_ble_eq_true rfl) rfl rfl dX9_moveTab_169 (fun σ13 _ => ?_)
  refine g_keep [true, true, true, false, false, true, true, false] ?_
  exact bX9_moveTab_172 C hr b hb hk91 σ13 l1 l2 l5 l6
def fX9_moveTab_167 (b : Nat) (k91 : Sg → Int32 → Int32 → Int32 → Int32 → Option (Int32 × Sg)) (σ : Sg) (l1 : Int32) (l2 : Int32) (l5 : Int32) (l6 : Int32) (l7 : Int32) (s1 : Int32) (s2 : Int32) : Option (Int32 × Sg) :=
  (fX9_moveTab_169 b k91 σ l1 l2 l5 l6 s1 s2 l7)
theorem bX9_moveTab_167 {X : Xc} {K : Kc} (C : MC X K cX9_moveTab 8 RX9 rmX9_moveTab) (hr : K.meth.sig.returnType = (some .int)) (b : Nat) (hb : moOK b){k91 : Sg → Int32 → Int32 → Int32 → Int32 → Option (Int32 × Sg)} (hk91 : ∀ (σ : Sg) (l1 : Int32) (l2 : Int32) (l5 : Int32) (l6 : Int32), GO X K 8 (fun r => MQi X K r.1 r.2) (k91 σ l1 l2 l5 l6) σ 0 0 91 [some (.ref (X.ad b)), some (.int (l1)), some (.int (l2)), none, none, some (.int (l5)), some (.int (l6)), none] []) (σ : Sg) (l1 : Int32) (l2 : Int32) (l5 : Int32) (l6 : Int32) (l7 : Int32) (s1 : Int32) (s2 : Int32) : GO X K 8 (fun r => MQi X K r.1 r.2) (fX9_moveTab_167 b k91 σ l1 l2 l5 l6 l7 s1 s2) σ 0 0 167 [some (.ref (X.ad b)), some (.int (l1)), some (.int (l2)), none, none, some (.int (l5)), some (.int (l6)), some (.int (l7))] [.int (s2), .int (s1), .ref (X.ad b)] := by
  unfold fX9_moveTab_167
  refine g_iload (pc := 167) C dX9_moveTab_167 rfl ?_
  refine g_keep [true, true, true, false, false, true, true, false] ?_
  exact bX9_moveTab_169 C hr b hb hk91 σ l1 l2 l5 l6 s1 s2 l7
def fX9_moveTab_147 (b : Nat) (k91 : Sg → Int32 → Int32 → Int32 → Int32 → Option (Int32 × Sg)) (σ : Sg) (l1 : Int32) (l2 : Int32) (l5 : Int32) (l6 : Int32) (l7 : Int32) (s1 : Int32) (s2 : Int32) : Option (Int32 × Sg) :=
  if l5 ≤ l7 then
    (fX9_moveTab_167 b k91 σ l1 l2 l5 l6 l7 s1 s2)
  else
    if l7 < l2 then
      (fX9_moveTab_167 b k91 σ l1 l2 l5 l6 l7 s1 s2)
    else
      (fX9_moveTab_169 b k91 σ l1 l2 l5 l6 s1 s2 (l7 + 1))
theorem bX9_moveTab_147 {X : Xc} {K : Kc} (C : MC X K cX9_moveTab 8 RX9 rmX9_moveTab) (hr : K.meth.sig.returnType = (some .int)) (b : Nat) (hb : moOK b){k91 : Sg → Int32 → Int32 → Int32 → Int32 → Option (Int32 × Sg)} (hk91 : ∀ (σ : Sg) (l1 : Int32) (l2 : Int32) (l5 : Int32) (l6 : Int32), GO X K 8 (fun r => MQi X K r.1 r.2) (k91 σ l1 l2 l5 l6) σ 0 0 91 [some (.ref (X.ad b)), some (.int (l1)), some (.int (l2)), none, none, some (.int (l5)), some (.int (l6)), none] []) (σ : Sg) (l1 : Int32) (l2 : Int32) (l5 : Int32) (l6 : Int32) (l7 : Int32) (s1 : Int32) (s2 : Int32) : GO X K 8 (fun r => MQi X K r.1 r.2) (fX9_moveTab_147 b k91 σ l1 l2 l5 l6 l7 s1 s2) σ 0 0 147 [some (.ref (X.ad b)), some (.int (l1)), some (.int (l2)), none, none, some (.int (l5)), some (.int (l6)), some (.int (l7))] [.int (s2), .int (s1), .ref (X.ad b)] := by
  unfold fX9_moveTab_147
  refine g_iload (pc := 147) C dX9_moveTab_147 rfl ?_
  refine g_iload (pc := 149) C dX9_moveTab_149 rfl ?_
  refine g_icmp_ge (pc := 151) (tgt := 167) C dX9_moveTab_151 rfl ?_ ?_
  · refine g_keep [true, true, true, false, false, true, true, true] ?_
    exact bX9_moveTab_167 C hr b hb hk91 σ l1 l2 l5 l6 l7 s1 s2
  · refine g_iload (pc := 154) C dX9_moveTab_154 rfl ?_
    refine g_iload_n (pc := 156) (i := 2) C dX9_moveTab_156 rfl rfl ?_
    refine g_icmp_lt (pc := 157) (tgt := 167) C dX9_moveTab_157 rfl ?_ ?_
    · refine g_keep [true, true, true, false, false, true, true, true] ?_
      exact bX9_moveTab_167 C hr b hb hk91 σ l1 l2 l5 l6 l7 s1 s2
    · refine g_iload (pc := 160) C dX9_moveTab_160 rfl ?_
      refine g_iconst (pc := 162) (v := 1) C dX9_moveTab_162 (by decide) ?_
      refine g_iadd (pc := 163) C dX9_moveTab_163 ?_
      refine g_goto (pc := 164) (tgt := 169) C dX9_moveTab_164 rfl ?_
      refine g_keep [true, true, true, false, false, true, true, false] ?_
      exact bX9_moveTab_169 C hr b hb hk91 σ l1 l2 l5 l6 s1 s2 (l7 + 1)
def fX9_moveTab_91 (b : Nat) : Nat → Sg → Int32 → Int32 → Int32 → Int32 → Option (Int32 × Sg)
  | 0, _, _, _, _, _ => none
  | n + 1, σ, l1, l2, l5, l6 =>
    if 12 ≤ l6 then
      (fX9_put σ b l1 4 l2).bind fun σ9 =>
      some (l5, σ9)
    else
      (fX9_of σ b l6 3).bind fun r10 =>
      (fX9_of σ b l1 3).bind fun r11 =>
      if r10 = r11 then
        (fX9_of σ b l6 4).bind fun r12 =>
        if r12 ≤ l5 then
          (fX9_moveTab_147 b (fX9_moveTab_91 b n) σ l1 l2 l5 l6 r12 l6 4)
        else
          if l2 < r12 then
            (fX9_moveTab_147 b (fX9_moveTab_91 b n) σ l1 l2 l5 l6 r12 l6 4)
          else
            (fX9_moveTab_169 b (fX9_moveTab_91 b n) σ l1 l2 l5 l6 l6 4 (r12 - 1))
      else
        (fX9_moveTab_172 b (fX9_moveTab_91 b n) σ l1 l2 l5 l6)
theorem bX9_moveTab_91 {X : Xc} {K : Kc} (C : MC X K cX9_moveTab 8 RX9 rmX9_moveTab) (hr : K.meth.sig.returnType = (some .int)) (b : Nat) (hb : moOK b) : ∀ (n : Nat) (σ : Sg) (l1 : Int32) (l2 : Int32) (l5 : Int32) (l6 : Int32), GO X K 8 (fun r => MQi X K r.1 r.2) (fX9_moveTab_91 b n σ l1 l2 l5 l6) σ 0 0 91 [some (.ref (X.ad b)), some (.int (l1)), some (.int (l2)), none, none, some (.int (l5)), some (.int (l6)), none] [] := by
  intro n
  induction n with
  | zero =>
    intro σ l1 l2 l5 l6
    exact g_none
  | succ n ih =>
    intro σ l1 l2 l5 l6
    unfold fX9_moveTab_91
    refine g_iload (pc := 91) C dX9_moveTab_91 rfl ?_
    refine g_bipush (pc := 93) (v := 12) C dX9_moveTab_93 (by decide) ?_
    refine g_icmp_ge (pc := 95) (tgt := 178) C dX9_moveTab_95 rfl ?_ ?_
    · refine g_aload_n (pc := 178) (i := 0) C dX9_moveTab_178 rfl rfl ?_
      refine g_iload_n (pc := 179) (i := 1) C dX9_moveTab_179 rfl rfl ?_
      refine g_iconst (pc := 180) (v := 4) C dX9_moveTab_180 (by decide) ?_
      refine g_iload_n (pc := 181) (i := 2) C dX9_moveTab_181 rfl rfl ?_
      refine g_callVv (pc := 182) (As := [.int (l1), .int (4), .int (l2)]) C (kX9_put X σ b l1 4 l2 hb) (blk hb 0 rfl) rfl q_10_19 q_10_20 q_10_21 q_1_5 q_10_22 ⟨rfl, hdX9_put⟩ ⟨Nat.le_of_ble_eq_true rfl, Nat.le_of_ble_eq_true rfl, rfl, rfl⟩ ⟨Nat.zero_le _, Nat.zero_le _⟩ (Nat.le_of_ble_eq_true rfl) rfl rfl dX9_moveTab_182 (fun σ9 _ => ?_)
      refine g_iload (pc := 185) C dX9_moveTab_185 rfl ?_
      exact g_iret (pc := 187) C hr dX9_moveTab_187 rfl
    · refine g_aload_n (pc := 98) (i := 0) C dX9_moveTab_98 rfl rfl ?_
      refine g_iload (pc := 99) C dX9_moveTab_99 rfl ?_
      refine g_iconst (pc := 101) (v := 3) C dX9_moveTab_101 (by decide) ?_
      refine g_callVi (pc := 102) (As := [.int (l6), .int (3)]) C (kX9_of X σ b l6 3 hb) (blk hb 0 rfl) rfl q_10_2 q_10_3 q_10_4 q_1_5 q_10_5 ⟨rfl, hdX9_of⟩ ⟨Nat.le_of_ble_eq_true rfl, Nat.le_of_ble_eq_true rfl, rfl, rfl⟩ ⟨Nat.zero_le _, Nat.zero_le _⟩ (Nat.le_of_ble_eq_true rfl) rfl rfl dX9_moveTab_102 (fun r10 _ => ?_)
      refine g_aload_n (pc := 105) (i := 0) C dX9_moveTab_105 rfl rfl ?_
      refine g_iload_n (pc := 106) (i := 1) C dX9_moveTab_106 rfl rfl ?_
      refine g_iconst (pc := 107) (v := 3) C dX9_moveTab_107 (by decide) ?_
      refine g_callVi (pc := 108) (As := [.int (l1), .int (3)]) C (kX9_of X σ b l1 3 hb) (blk hb 0 rfl) rfl q_10_2 q_10_3 q_10_4 q_1_5 q_10_5 ⟨rfl, hdX9_of⟩ ⟨Nat.le_of_ble_eq_true rfl, Nat.le_of_ble_eq_true rfl, rfl, rfl⟩ ⟨Nat.zero_le _, Nat.zero_le _⟩ (Nat.le_of_ble_eq_true rfl) rfl rfl dX9_moveTab_108 (fun r11 _ => ?_)
      refine g_icmp_ne (pc := 111) (tgt := 172) C dX9_moveTab_111 rfl ?_ ?_
      · refine g_aload_n (pc := 114) (i := 0) C dX9_moveTab_114 rfl rfl ?_
        refine g_iload (pc := 115) C dX9_moveTab_115 rfl ?_
        refine g_iconst (pc := 117) (v := 4) C dX9_moveTab_117 (by decide) ?_
        refine g_callVi (pc := 118) (As := [.int (l6), .int (4)]) C (kX9_of X σ b l6 4 hb) (blk hb 0 rfl) rfl q_10_2 q_10_3 q_10_4 q_1_5 q_10_5 ⟨rfl, hdX9_of⟩ ⟨Nat.le_of_ble_eq_true rfl, Nat.le_of_ble_eq_true rfl, rfl, rfl⟩ ⟨Nat.zero_le _, Nat.zero_le _⟩ (Nat.le_of_ble_eq_true rfl) rfl rfl dX9_moveTab_118 (fun r12 _ => ?_)
        refine g_istore (pc := 121) C dX9_moveTab_121 (Nat.le_of_ble_eq_true rfl) rfl ?_
        refine g_aload_n (pc := 123) (i := 0) C dX9_moveTab_123 rfl rfl ?_
        refine g_iload (pc := 124) C dX9_moveTab_124 rfl ?_
        refine g_iconst (pc := 126) (v := 4) C dX9_moveTab_126 (by decide) ?_
        refine g_iload (pc := 127) C dX9_moveTab_127 rfl ?_
        refine g_iload (pc := 129) C dX9_moveTab_129 rfl ?_
        refine g_icmp_le (pc := 131) (tgt := 147) C dX9_moveTab_131 rfl ?_ ?_
        · refine g_keep [true, true, true, false, false, true, true, true] ?_
          exact bX9_moveTab_147 C hr b hb ih σ l1 l2 l5 l6 r12 l6 4
        · refine g_iload (pc := 134) C dX9_moveTab_134 rfl ?_
          refine g_iload_n (pc := 136) (i := 2) C dX9_moveTab_136 rfl rfl ?_
          refine g_icmp_gt (pc := 137) (tgt := 147) C dX9_moveTab_137 rfl ?_ ?_
          · refine g_keep [true, true, true, false, false, true, true, true] ?_
            exact bX9_moveTab_147 C hr b hb ih σ l1 l2 l5 l6 r12 l6 4
          · refine g_iload (pc := 140) C dX9_moveTab_140 rfl ?_
            refine g_iconst (pc := 142) (v := 1) C dX9_moveTab_142 (by decide) ?_
            refine g_isub (pc := 143) C dX9_moveTab_143 ?_
            refine g_goto (pc := 144) (tgt := 169) C dX9_moveTab_144 rfl ?_
            refine g_keep [true, true, true, false, false, true, true, false] ?_
            exact bX9_moveTab_169 C hr b hb ih σ l1 l2 l5 l6 l6 4 (r12 - 1)
      · refine g_keep [true, true, true, false, false, true, true, false] ?_
        exact bX9_moveTab_172 C hr b hb ih σ l1 l2 l5 l6
def fX9_moveTab_68 (b : Nat) (σ : Sg) (l1 : Int32) (l2 : Int32) (s1 : Int32) : Option (Int32 × Sg) :=
  (fX9_refused σ b s1).bind fun r6 =>
  if r6.1 = true then
    some (0, r6.2)
  else
    (fX9_of r6.2 b l1 4).bind fun r7 =>
    (fX9_saves r6.2 b).bind fun σ8 =>
    (fX9_moveTab_91 b FU σ8 l1 l2 r7 0)
theorem bX9_moveTab_68 {X : Xc} {K : Kc} (C : MC X K cX9_moveTab 8 RX9 rmX9_moveTab) (hr : K.meth.sig.returnType = (some .int)) (b : Nat) (hb : moOK b) (σ : Sg) (l1 : Int32) (l2 : Int32) (s1 : Int32) : GO X K 8 (fun r => MQi X K r.1 r.2) (fX9_moveTab_68 b σ l1 l2 s1) σ 0 0 68 [some (.ref (X.ad b)), some (.int (l1)), some (.int (l2)), none, none, none, none, none] [.int (s1), .ref (X.ad b)] := by
  unfold fX9_moveTab_68
  refine g_callVi (pc := 68) (As := [.int (s1)]) C (kX9_refused X σ b s1 hb) (blk hb 0 rfl) rfl q_10_9 q_10_10 q_10_11 q_1_5 q_10_12 ⟨rfl, hdX9_refused⟩ ⟨Nat.le_of_ble_eq_true rfl, Nat.le_of_ble_eq_true rfl, rfl, rfl⟩ ⟨Nat.zero_le _, Nat.zero_le _⟩ (Nat.le_of_ble_eq_true rfl) rfl rfl dX9_moveTab_68 (fun r6 _ => ?_)
  refine g_ifb_eq (pc := 71) (tgt := 76) C dX9_moveTab_71 rfl ?_ ?_
  · refine g_iconst (pc := 74) (v := 0) C dX9_moveTab_74 (by decide) ?_
    exact g_iret (pc := 75) C hr dX9_moveTab_75 rfl
  · refine g_aload_n (pc := 76) (i := 0) C dX9_moveTab_76 rfl rfl ?_
    refine g_iload_n (pc := 77) (i := 1) C dX9_moveTab_77 rfl rfl ?_
    refine g_iconst (pc := 78) (v := 4) C dX9_moveTab_78 (by decide) ?_
    refine g_callVi (pc := 79) (As := [.int (l1), .int (4)]) C (kX9_of X r6.2 b l1 4 hb) (blk hb 0 rfl) rfl q_10_2 q_10_3 q_10_4 q_1_5 q_10_5 ⟨rfl, hdX9_of⟩ ⟨Nat.le_of_ble_eq_true rfl, Nat.le_of_ble_eq_true rfl, rfl, rfl⟩ ⟨Nat.zero_le _, Nat.zero_le _⟩ (Nat.le_of_ble_eq_true rfl) rfl rfl dX9_moveTab_79 (fun r7 _ => ?_)
    refine g_istore (pc := 82) C dX9_moveTab_82 (Nat.le_of_ble_eq_true rfl) rfl ?_
    refine g_aload_n (pc := 84) (i := 0) C dX9_moveTab_84 rfl rfl ?_
    refine g_callVv (pc := 85) (As := []) C (kX9_saves X r6.2 b hb) (blk hb 0 rfl) rfl q_10_14 q_10_15 q_10_16 q_1_5 q_10_17 ⟨rfl, hdX9_saves⟩ ⟨Nat.le_of_ble_eq_true rfl, Nat.le_of_ble_eq_true rfl, rfl, rfl⟩ ⟨Nat.zero_le _, Nat.zero_le _⟩ (Nat.le_of_ble_eq_true rfl) rfl rfl dX9_moveTab_85 (fun σ8 _ => ?_)
    refine g_iconst (pc := 88) (v := 0) C dX9_moveTab_88 (by decide) ?_
    refine g_istore (pc := 89) C dX9_moveTab_89 (Nat.le_of_ble_eq_true rfl) rfl ?_
    refine g_keep [true, true, true, false, false, true, true, false] ?_
    exact bX9_moveTab_91 C hr b hb FU σ8 l1 l2 r7 0
def fX9_moveTab_23 (b : Nat) (σ : Sg) (l1 : Int32) (l2 : Int32) (l3 : Int32) (s0 : Int32) : Option (Int32 × Sg) :=
  if l3 = 0 then
    (fX9_moveTab_68 b σ l1 l2 1)
  else
    if s0 = 0 then
      (fX9_moveTab_68 b σ l1 l2 2)
    else
      (fX9_of σ b l1 3).bind fun r3 =>
      (fX9_tabMany σ b r3).bind fun r4 =>
      (fX9_within σ l2 0 (r4 - 1)).bind fun r5 =>
      if r5 = true then
        (fX9_moveTab_68 b σ l1 l2 0)
      else
        (fX9_moveTab_68 b σ l1 l2 3)
theorem bX9_moveTab_23 {X : Xc} {K : Kc} (C : MC X K cX9_moveTab 8 RX9 rmX9_moveTab) (hr : K.meth.sig.returnType = (some .int)) (b : Nat) (hb : moOK b) (σ : Sg) (l1 : Int32) (l2 : Int32) (l3 : Int32) (s0 : Int32) : GO X K 8 (fun r => MQi X K r.1 r.2) (fX9_moveTab_23 b σ l1 l2 l3 s0) σ 0 0 23 [some (.ref (X.ad b)), some (.int (l1)), some (.int (l2)), some (.int (l3)), none, none, none, none] [.int (s0)] := by
  unfold fX9_moveTab_23
  refine g_istore (pc := 23) C dX9_moveTab_23 (Nat.le_of_ble_eq_true rfl) rfl ?_
  refine g_aload_n (pc := 25) (i := 0) C dX9_moveTab_25 rfl rfl ?_
  refine g_iload_n (pc := 26) (i := 3) C dX9_moveTab_26 rfl rfl ?_
  refine g_if_ne (pc := 27) (tgt := 34) C dX9_moveTab_27 rfl ?_ ?_
  · refine g_iconst (pc := 30) (v := 1) C dX9_moveTab_30 (by decide) ?_
    refine g_goto (pc := 31) (tgt := 68) C dX9_moveTab_31 rfl ?_
    refine g_keep [true, true, true, false, false, false, false, false] ?_
    exact bX9_moveTab_68 C hr b hb σ l1 l2 1
  · refine g_iload (pc := 34) C dX9_moveTab_34 rfl ?_
    refine g_if_ne (pc := 36) (tgt := 43) C dX9_moveTab_36 rfl ?_ ?_
    · refine g_iconst (pc := 39) (v := 2) C dX9_moveTab_39 (by decide) ?_
      refine g_goto (pc := 40) (tgt := 68) C dX9_moveTab_40 rfl ?_
      refine g_keep [true, true, true, false, false, false, false, false] ?_
      exact bX9_moveTab_68 C hr b hb σ l1 l2 2
    · refine g_iload_n (pc := 43) (i := 2) C dX9_moveTab_43 rfl rfl ?_
      refine g_iconst (pc := 44) (v := 0) C dX9_moveTab_44 (by decide) ?_
      refine g_aload_n (pc := 45) (i := 0) C dX9_moveTab_45 rfl rfl ?_
      refine g_aload_n (pc := 46) (i := 0) C dX9_moveTab_46 rfl rfl ?_
      refine g_iload_n (pc := 47) (i := 1) C dX9_moveTab_47 rfl rfl ?_
      refine g_iconst (pc := 48) (v := 3) C dX9_moveTab_48 (by decide) ?_
      refine g_callVi (pc := 49) (As := [.int (l1), .int (3)]) C (kX9_of X σ b l1 3 hb) (blk hb 0 rfl) rfl q_10_2 q_10_3 q_10_4 q_1_5 q_10_5 ⟨rfl, hdX9_of⟩ ⟨Nat.le_of_ble_eq_true rfl, Nat.le_of_ble_eq_true rfl, rfl, rfl⟩ ⟨Nat.zero_le _, Nat.zero_le _⟩ (Nat.le_of_ble_eq_true rfl) rfl rfl dX9_moveTab_49 (fun r3 _ => ?_)
      refine g_callVi (pc := 52) (As := [.int (r3)]) C (kX9_tabMany X σ b r3 hb) (blk hb 0 rfl) rfl q_20_16 q_20_17 q_20_18 q_1_5 q_20_19 ⟨rfl, hdX9_tabMany⟩ ⟨Nat.le_of_ble_eq_true rfl, Nat.le_of_ble_eq_true rfl, rfl, rfl⟩ ⟨Nat.zero_le _, Nat.zero_le _⟩ (Nat.le_of_ble_eq_true rfl) rfl rfl dX9_moveTab_52 (fun r4 _ => ?_)
      refine g_iconst (pc := 55) (v := 1) C dX9_moveTab_55 (by decide) ?_
      refine g_isub (pc := 56) C dX9_moveTab_56 ?_
      refine g_callSi (pc := 57) (As := [.int (l2), .int (0), .int (r4 - 1)]) C (kX9_within X σ l2 0 (r4 - 1)) q_10_6 q_10_7 q_1_5 q_10_8 hdX9_within ⟨Nat.le_of_ble_eq_true rfl, Nat.le_of_ble_eq_true rfl, rfl, rfl⟩ ⟨Nat.zero_le _, Nat.zero_le _⟩ (Nat.le_of_ble_eq_true rfl) rfl rfl dX9_moveTab_57 (fun r5 _ => ?_)
      refine g_ifb_ne (pc := 60) (tgt := 67) C dX9_moveTab_60 rfl ?_ ?_
      · refine g_iconst (pc := 67) (v := 0) C dX9_moveTab_67 (by decide) ?_
        refine g_keep [true, true, true, false, false, false, false, false] ?_
        exact bX9_moveTab_68 C hr b hb σ l1 l2 0
      · refine g_iconst (pc := 63) (v := 3) C dX9_moveTab_63 (by decide) ?_
        refine g_goto (pc := 64) (tgt := 68) C dX9_moveTab_64 rfl ?_
        refine g_keep [true, true, true, false, false, false, false, false] ?_
        exact bX9_moveTab_68 C hr b hb σ l1 l2 3
def fX9_moveTab_22 (b : Nat) (σ : Sg) (l1 : Int32) (l2 : Int32) (l3 : Int32) : Option (Int32 × Sg) :=
  (fX9_moveTab_23 b σ l1 l2 l3 0)
theorem bX9_moveTab_22 {X : Xc} {K : Kc} (C : MC X K cX9_moveTab 8 RX9 rmX9_moveTab) (hr : K.meth.sig.returnType = (some .int)) (b : Nat) (hb : moOK b) (σ : Sg) (l1 : Int32) (l2 : Int32) (l3 : Int32) : GO X K 8 (fun r => MQi X K r.1 r.2) (fX9_moveTab_22 b σ l1 l2 l3) σ 0 0 22 [some (.ref (X.ad b)), some (.int (l1)), some (.int (l2)), some (.int (l3)), none, none, none, none] [] := by
  unfold fX9_moveTab_22
  refine g_iconst (pc := 22) (v := 0) C dX9_moveTab_22 (by decide) ?_
  refine g_keep [true, true, true, true, false, false, false, false] ?_
  exact bX9_moveTab_23 C hr b hb σ l1 l2 l3 0
def fX9_moveTab (σ : Sg) (b : Nat) (p1 : Int32) (p2 : Int32) : Option (Int32 × Sg) :=
  (fX9_isPane σ b p1).bind fun r1 =>
  if r1 = true then
    (fX9_isPlaced σ b p1).bind fun r2 =>
    if r2 = true then
      (fX9_moveTab_23 b σ p1 p2 (b2i r1) 1)
    else
      (fX9_moveTab_22 b σ p1 p2 (b2i r1))
  else
    (fX9_moveTab_22 b σ p1 p2 (b2i r1))
theorem kX9_moveTab (X : Xc) (σ : Sg) (b : Nat) (p1 : Int32) (p2 : Int32) (hb : moOK b) : ∀ r, fX9_moveTab σ b p1 p2 = some r → Met X.l yX9_moveTab (wsM yX9_moveTab cX9_moveTab 8 (some .int)) rmX9_moveTab (va_Pc [.ref (X.ad b), .int p1, .int p2] (PW X σ)) (Qi X r.1 r.2) 0 0 X.A := by
  refine mt_of (own := RX9) (lo := [some (.ref (X.ad b)), some (.int (p1)), some (.int (p2)), none, none, none, none, none]) (by decide) rfl (Nat.le_of_ble_eq_true rfl) rfl (fun K C hr => ?_)
  unfold fX9_moveTab
  refine g_aload_n (pc := 0) (i := 0) C dX9_moveTab_0 rfl rfl ?_
  refine g_iload_n (pc := 1) (i := 1) C dX9_moveTab_1 rfl rfl ?_
  refine g_callVi (pc := 2) (As := [.int (p1)]) C (kX9_isPane X σ b p1 hb) (blk hb 0 rfl) rfl q_19_16 q_19_17 q_19_18 q_1_5 q_19_19 ⟨rfl, hdX9_isPane⟩ ⟨Nat.le_of_ble_eq_true rfl, Nat.le_of_ble_eq_true rfl, rfl, rfl⟩ ⟨Nat.zero_le _, Nat.zero_le _⟩ (Nat.le_of_ble_eq_true rfl) rfl rfl dX9_moveTab_2 (fun r1 _ => ?_)
  refine g_istore_n (pc := 5) (i := 3) C dX9_moveTab_5 rfl (Nat.le_of_ble_eq_true rfl) rfl ?_
  refine g_iload_n (pc := 6) (i := 3) C dX9_moveTab_6 rfl rfl ?_
  refine g_ifb_eq (pc := 7) (tgt := 22) C dX9_moveTab_7 rfl ?_ ?_
  · refine g_aload_n (pc := 10) (i := 0) C dX9_moveTab_10 rfl rfl ?_
    refine g_iload_n (pc := 11) (i := 1) C dX9_moveTab_11 rfl rfl ?_
    refine g_callVi (pc := 12) (As := [.int (p1)]) C (kX9_isPlaced X σ b p1 hb) (blk hb 0 rfl) rfl q_20_0 q_20_1 q_20_2 q_1_5 q_20_3 ⟨rfl, hdX9_isPlaced⟩ ⟨Nat.le_of_ble_eq_true rfl, Nat.le_of_ble_eq_true rfl, rfl, rfl⟩ ⟨Nat.zero_le _, Nat.zero_le _⟩ (Nat.le_of_ble_eq_true rfl) rfl rfl dX9_moveTab_12 (fun r2 _ => ?_)
    refine g_ifb_eq (pc := 15) (tgt := 22) C dX9_moveTab_15 rfl ?_ ?_
    · refine g_iconst (pc := 18) (v := 1) C dX9_moveTab_18 (by decide) ?_
      refine g_goto (pc := 19) (tgt := 23) C dX9_moveTab_19 rfl ?_
      refine g_keep [true, true, true, true, false, false, false, false] ?_
      exact bX9_moveTab_23 C hr b hb σ p1 p2 (b2i r1) 1
    · refine g_keep [true, true, true, true, false, false, false, false] ?_
      exact bX9_moveTab_22 C hr b hb σ p1 p2 (b2i r1)
  · refine g_keep [true, true, true, true, false, false, false, false] ?_
    exact bX9_moveTab_22 C hr b hb σ p1 p2 (b2i r1)
theorem dX9_hasDivider_0 : decode cX9_hasDivider 0 = .ok (.iload_n 1, 1) := by decide +kernel
theorem dX9_hasDivider_1 : decode cX9_hasDivider 1 = .ok (.istore_n 3, 1) := by decide +kernel
theorem dX9_hasDivider_2 : decode cX9_hasDivider 2 = .ok (.aload_n 0, 1) := by decide +kernel
theorem dX9_hasDivider_3 : decode cX9_hasDivider 3 = .ok (.iload_n 3, 1) := by decide +kernel
theorem dX9_hasDivider_4 : decode cX9_hasDivider 4 = .ok (.iconst 1, 1) := by decide +kernel
theorem dX9_hasDivider_5 : decode cX9_hasDivider 5 = .ok (.invokevirtual 76, 3) := by decide +kernel
theorem dX9_hasDivider_8 : decode cX9_hasDivider 8 = .ok (.iconst (-1), 1) := by decide +kernel
theorem dX9_hasDivider_9 : decode cX9_hasDivider 9 = .ok (.if_icmp .eq 132, 3) := by decide +kernel
theorem dX9_hasDivider_12 : decode cX9_hasDivider 12 = .ok (.aload_n 0, 1) := by decide +kernel
theorem dX9_hasDivider_13 : decode cX9_hasDivider 13 = .ok (.iload_n 3, 1) := by decide +kernel
theorem dX9_hasDivider_14 : decode cX9_hasDivider 14 = .ok (.iconst 1, 1) := by decide +kernel
theorem dX9_hasDivider_15 : decode cX9_hasDivider 15 = .ok (.invokevirtual 76, 3) := by decide +kernel
theorem dX9_hasDivider_18 : decode cX9_hasDivider 18 = .ok (.istore 4, 2) := by decide +kernel
theorem dX9_hasDivider_20 : decode cX9_hasDivider 20 = .ok (.iload_n 2, 1) := by decide +kernel
theorem dX9_hasDivider_21 : decode cX9_hasDivider 21 = .ok (.iconst 2, 1) := by decide +kernel
theorem dX9_hasDivider_22 : decode cX9_hasDivider 22 = .ok (.irem, 1) := by decide +kernel
theorem dX9_hasDivider_23 : decode cX9_hasDivider 23 = .ok (.ifCond .ne 7, 3) := by decide +kernel
theorem dX9_hasDivider_26 : decode cX9_hasDivider 26 = .ok (.iconst (-1), 1) := by decide +kernel
theorem dX9_hasDivider_27 : decode cX9_hasDivider 27 = .ok (.goto 4, 3) := by decide +kernel
theorem dX9_hasDivider_30 : decode cX9_hasDivider 30 = .ok (.iconst 1, 1) := by decide +kernel
theorem dX9_hasDivider_31 : decode cX9_hasDivider 31 = .ok (.istore 5, 2) := by decide +kernel
theorem dX9_hasDivider_33 : decode cX9_hasDivider 33 = .ok (.aload_n 0, 1) := by decide +kernel
theorem dX9_hasDivider_34 : decode cX9_hasDivider 34 = .ok (.iload_n 3, 1) := by decide +kernel
theorem dX9_hasDivider_35 : decode cX9_hasDivider 35 = .ok (.iconst 4, 1) := by decide +kernel
theorem dX9_hasDivider_36 : decode cX9_hasDivider 36 = .ok (.invokevirtual 76, 3) := by decide +kernel
theorem dX9_hasDivider_39 : decode cX9_hasDivider 39 = .ok (.iload 5, 2) := by decide +kernel
theorem dX9_hasDivider_41 : decode cX9_hasDivider 41 = .ok (.iadd, 1) := by decide +kernel
theorem dX9_hasDivider_42 : decode cX9_hasDivider 42 = .ok (.istore 6, 2) := by decide +kernel
theorem dX9_hasDivider_44 : decode cX9_hasDivider 44 = .ok (.aload_n 0, 1) := by decide +kernel
theorem dX9_hasDivider_45 : decode cX9_hasDivider 45 = .ok (.iload 4, 2) := by decide +kernel
theorem dX9_hasDivider_47 : decode cX9_hasDivider 47 = .ok (.iconst 2, 1) := by decide +kernel
theorem dX9_hasDivider_48 : decode cX9_hasDivider 48 = .ok (.invokevirtual 76, 3) := by decide +kernel
theorem dX9_hasDivider_51 : decode cX9_hasDivider 51 = .ok (.iload_n 2, 1) := by decide +kernel
theorem dX9_hasDivider_52 : decode cX9_hasDivider 52 = .ok (.iconst 2, 1) := by decide +kernel
theorem dX9_hasDivider_53 : decode cX9_hasDivider 53 = .ok (.idiv, 1) := by decide +kernel
theorem dX9_hasDivider_54 : decode cX9_hasDivider 54 = .ok (.if_icmp .ne 81, 3) := by decide +kernel
theorem dX9_hasDivider_57 : decode cX9_hasDivider 57 = .ok (.iload 6, 2) := by decide +kernel
theorem dX9_hasDivider_59 : decode cX9_hasDivider 59 = .ok (.ifCond .lt 76, 3) := by decide +kernel
theorem dX9_hasDivider_62 : decode cX9_hasDivider 62 = .ok (.iload 6, 2) := by decide +kernel
theorem dX9_hasDivider_64 : decode cX9_hasDivider 64 = .ok (.aload_n 0, 1) := by decide +kernel
theorem dX9_hasDivider_65 : decode cX9_hasDivider 65 = .ok (.iload 4, 2) := by decide +kernel
theorem dX9_hasDivider_67 : decode cX9_hasDivider 67 = .ok (.invokevirtual 113, 3) := by decide +kernel
theorem dX9_hasDivider_70 : decode cX9_hasDivider 70 = .ok (.if_icmp .ge 65, 3) := by decide +kernel
theorem dX9_hasDivider_73 : decode cX9_hasDivider 73 = .ok (.aload_n 0, 1) := by decide +kernel
theorem dX9_hasDivider_74 : decode cX9_hasDivider 74 = .ok (.iload 4, 2) := by decide +kernel
theorem dX9_hasDivider_76 : decode cX9_hasDivider 76 = .ok (.iload 6, 2) := by decide +kernel
theorem dX9_hasDivider_78 : decode cX9_hasDivider 78 = .ok (.invokevirtual 116, 3) := by decide +kernel
theorem dX9_hasDivider_81 : decode cX9_hasDivider 81 = .ok (.istore 7, 2) := by decide +kernel
theorem dX9_hasDivider_83 : decode cX9_hasDivider 83 = .ok (.aload_n 0, 1) := by decide +kernel
theorem dX9_hasDivider_84 : decode cX9_hasDivider 84 = .ok (.getfield 22, 3) := by decide +kernel
theorem dX9_hasDivider_87 : decode cX9_hasDivider 87 = .ok (.iload 7, 2) := by decide +kernel
theorem dX9_hasDivider_89 : decode cX9_hasDivider 89 = .ok (.baload, 1) := by decide +kernel
theorem dX9_hasDivider_90 : decode cX9_hasDivider 90 = .ok (.ifCond .eq 35, 3) := by decide +kernel
theorem dX9_hasDivider_93 : decode cX9_hasDivider 93 = .ok (.aload_n 0, 1) := by decide +kernel
theorem dX9_hasDivider_94 : decode cX9_hasDivider 94 = .ok (.iload 5, 2) := by decide +kernel
theorem dX9_hasDivider_96 : decode cX9_hasDivider 96 = .ok (.ifCond .le 7, 3) := by decide +kernel
theorem dX9_hasDivider_99 : decode cX9_hasDivider 99 = .ok (.iload_n 3, 1) := by decide +kernel
theorem dX9_hasDivider_100 : decode cX9_hasDivider 100 = .ok (.goto 5, 3) := by decide +kernel
theorem dX9_hasDivider_103 : decode cX9_hasDivider 103 = .ok (.iload 7, 2) := by decide +kernel
theorem dX9_hasDivider_105 : decode cX9_hasDivider 105 = .ok (.putfield 226, 3) := by decide +kernel
theorem dX9_hasDivider_108 : decode cX9_hasDivider 108 = .ok (.aload_n 0, 1) := by decide +kernel
theorem dX9_hasDivider_109 : decode cX9_hasDivider 109 = .ok (.iload 5, 2) := by decide +kernel
theorem dX9_hasDivider_111 : decode cX9_hasDivider 111 = .ok (.ifCond .le 8, 3) := by decide +kernel
theorem dX9_hasDivider_114 : decode cX9_hasDivider 114 = .ok (.iload 7, 2) := by decide +kernel
theorem dX9_hasDivider_116 : decode cX9_hasDivider 116 = .ok (.goto 4, 3) := by decide +kernel
theorem dX9_hasDivider_119 : decode cX9_hasDivider 119 = .ok (.iload_n 3, 1) := by decide +kernel
theorem dX9_hasDivider_120 : decode cX9_hasDivider 120 = .ok (.putfield 229, 3) := by decide +kernel
theorem dX9_hasDivider_123 : decode cX9_hasDivider 123 = .ok (.iconst 1, 1) := by decide +kernel
theorem dX9_hasDivider_124 : decode cX9_hasDivider 124 = .ok (.ireturn, 1) := by decide +kernel
theorem dX9_hasDivider_125 : decode cX9_hasDivider 125 = .ok (.iload 6, 2) := by decide +kernel
theorem dX9_hasDivider_127 : decode cX9_hasDivider 127 = .ok (.iload 5, 2) := by decide +kernel
theorem dX9_hasDivider_129 : decode cX9_hasDivider 129 = .ok (.iadd, 1) := by decide +kernel
theorem dX9_hasDivider_130 : decode cX9_hasDivider 130 = .ok (.istore 6, 2) := by decide +kernel
theorem dX9_hasDivider_132 : decode cX9_hasDivider 132 = .ok (.goto (-88), 3) := by decide +kernel
theorem dX9_hasDivider_135 : decode cX9_hasDivider 135 = .ok (.iload 4, 2) := by decide +kernel
theorem dX9_hasDivider_137 : decode cX9_hasDivider 137 = .ok (.istore_n 3, 1) := by decide +kernel
theorem dX9_hasDivider_138 : decode cX9_hasDivider 138 = .ok (.goto (-136), 3) := by decide +kernel
theorem dX9_hasDivider_141 : decode cX9_hasDivider 141 = .ok (.iconst 0, 1) := by decide +kernel
theorem dX9_hasDivider_142 : decode cX9_hasDivider 142 = .ok (.ireturn, 1) := by decide +kernel
abbrev rmX9_hasDivider : Room := { frames := 3, cells := 0, slots := 0, locals := 67 }
theorem hdX9_hasDivider : yX9_hasDivider.cls ≠ "java/lang/invoke/MethodHandle" ∧ yX9_hasDivider.cls ≠ "java/lang/invoke/VarHandle" ∧ (parseMethodDescriptor yX9_hasDivider.desc).map (fun d => d.parameters.length) = some 2 := by decide +kernel
def fX9_hasDivider_135 (b : Nat) (k2 : Sg → Int32 → Int32 → Option (Bool × Sg)) (σ : Sg) (l2 : Int32) (l4 : Int32) : Option (Bool × Sg) :=
  (k2 σ l2 l4)
theorem bX9_hasDivider_135 {X : Xc} {K : Kc} (C : MC X K cX9_hasDivider 8 RX9 rmX9_hasDivider) (hr : K.meth.sig.returnType = (some .boolean)) (b : Nat) (hb : moOK b){k2 : Sg → Int32 → Int32 → Option (Bool × Sg)} (hk2 : ∀ (σ : Sg) (l2 : Int32) (l3 : Int32), GO X K 8 (fun r => MQi X K (b2i r.1) r.2) (k2 σ l2 l3) σ 0 0 2 [some (.ref (X.ad b)), none, some (.int (l2)), some (.int (l3)), none, none, none, none] []) (σ : Sg) (l2 : Int32) (l4 : Int32) : GO X K 8 (fun r => MQi X K (b2i r.1) r.2) (fX9_hasDivider_135 b k2 σ l2 l4) σ 0 0 135 [some (.ref (X.ad b)), none, some (.int (l2)), none, some (.int (l4)), none, none, none] [] := by
  unfold fX9_hasDivider_135
  refine g_iload (pc := 135) C dX9_hasDivider_135 rfl ?_
  refine g_istore_n (pc := 137) (i := 3) C dX9_hasDivider_137 rfl (Nat.le_of_ble_eq_true rfl) rfl ?_
  refine g_goto (pc := 138) (tgt := 2) C dX9_hasDivider_138 rfl ?_
  refine g_keep [true, false, true, true, false, false, false, false] ?_
  exact hk2 σ l2 l4
def fX9_hasDivider_120 (b : Nat) (σ : Sg) (s1 : Int32) : Option (Bool × Sg) :=
  nm (su σ b 14 s1) fun σ10 =>
  some (true, σ10)
theorem bX9_hasDivider_120 {X : Xc} {K : Kc} (C : MC X K cX9_hasDivider 8 RX9 rmX9_hasDivider) (hr : K.meth.sig.returnType = (some .boolean)) (b : Nat) (hb : moOK b) (σ : Sg) (s1 : Int32) : GO X K 8 (fun r => MQi X K (b2i r.1) r.2) (fX9_hasDivider_120 b σ s1) σ 0 0 120 [none, none, none, none, none, none, none, none] [.int (s1), .ref (X.ad b)] := by
  unfold fX9_hasDivider_120
  refine g_puti (pc := 120) (ci := 9) (N := 27) (T := TX9) (j := 14) (Cn := RX9) C rfl inlX9 tyX9_ok nmX9 (Nat.le_of_ble_eq_true rfl) q_42_3 (blk hb 0 rfl) rfl rfl rfl dX9_hasDivider_120 ?_
  refine g_nms (fun σ10 => ?_)
  refine g_iconst (pc := 123) (v := 1) C dX9_hasDivider_123 (by decide) ?_
  exact g_zret (pc := 124) C hr dX9_hasDivider_124 rfl
def fX9_hasDivider_105 (b : Nat) (σ : Sg) (l3 : Int32) (l5 : Int32) (l7 : Int32) (s1 : Int32) : Option (Bool × Sg) :=
  nm (su σ b 13 s1) fun σ9 =>
  if l5 ≤ 0 then
    (fX9_hasDivider_120 b σ9 l3)
  else
    (fX9_hasDivider_120 b σ9 l7)
theorem bX9_hasDivider_105 {X : Xc} {K : Kc} (C : MC X K cX9_hasDivider 8 RX9 rmX9_hasDivider) (hr : K.meth.sig.returnType = (some .boolean)) (b : Nat) (hb : moOK b) (σ : Sg) (l3 : Int32) (l5 : Int32) (l7 : Int32) (s1 : Int32) : GO X K 8 (fun r => MQi X K (b2i r.1) r.2) (fX9_hasDivider_105 b σ l3 l5 l7 s1) σ 0 0 105 [some (.ref (X.ad b)), none, none, some (.int (l3)), none, some (.int (l5)), none, some (.int (l7))] [.int (s1), .ref (X.ad b)] := by
  unfold fX9_hasDivider_105
  refine g_puti (pc := 105) (ci := 9) (N := 27) (T := TX9) (j := 13) (Cn := RX9) C rfl inlX9 tyX9_ok nmX9 (Nat.le_of_ble_eq_true rfl) q_42_2 (blk hb 0 rfl) rfl rfl rfl dX9_hasDivider_105 ?_
  refine g_nms (fun σ9 => ?_)
  refine g_aload_n (pc := 108) (i := 0) C dX9_hasDivider_108 rfl rfl ?_
  refine g_iload (pc := 109) C dX9_hasDivider_109 rfl ?_
  refine g_if_le (pc := 111) (tgt := 119) C dX9_hasDivider_111 rfl ?_ ?_
  · refine g_iload_n (pc := 119) (i := 3) C dX9_hasDivider_119 rfl rfl ?_
    refine g_keep [false, false, false, false, false, false, false, false] ?_
    exact bX9_hasDivider_120 C hr b hb σ9 l3
  · refine g_iload (pc := 114) C dX9_hasDivider_114 rfl ?_
    refine g_goto (pc := 116) (tgt := 120) C dX9_hasDivider_116 rfl ?_
    refine g_keep [false, false, false, false, false, false, false, false] ?_
    exact bX9_hasDivider_120 C hr b hb σ9 l7
def fX9_hasDivider_44 (b : Nat) (k2 : Sg → Int32 → Int32 → Option (Bool × Sg)) : Nat → Sg → Int32 → Int32 → Int32 → Int32 → Int32 → Option (Bool × Sg)
  | 0, _, _, _, _, _, _ => none
  | n + 1, σ, l2, l3, l4, l5, l6 =>
    (fX9_its σ b l4 2).bind fun r5 =>
    if r5 = (l2 / 2) then
      if l6 < 0 then
        (fX9_hasDivider_135 b k2 σ l2 l4)
      else
        (fX9_childMany σ b l4).bind fun r6 =>
        if r6 ≤ l6 then
          (fX9_hasDivider_135 b k2 σ l2 l4)
        else
          (fX9_child σ b l4 l6).bind fun r7 =>
          if ck r7 24 then
            if (σ.1 (b + 5) r7.toNatClampNeg) = 0 then
              nm (l6 + l5) fun v8 =>
              ((fX9_hasDivider_44 b k2 n) σ l2 l3 l4 l5 v8)
            else
              if l5 ≤ 0 then
                (fX9_hasDivider_105 b σ l3 l5 r7 r7)
              else
                (fX9_hasDivider_105 b σ l3 l5 r7 l3)
          else none
    else
      (fX9_hasDivider_135 b k2 σ l2 l4)
theorem bX9_hasDivider_44 {X : Xc} {K : Kc} (C : MC X K cX9_hasDivider 8 RX9 rmX9_hasDivider) (hr : K.meth.sig.returnType = (some .boolean)) (b : Nat) (hb : moOK b){k2 : Sg → Int32 → Int32 → Option (Bool × Sg)} (hk2 : ∀ (σ : Sg) (l2 : Int32) (l3 : Int32), GO X K 8 (fun r => MQi X K (b2i r.1) r.2) (k2 σ l2 l3) σ 0 0 2 [some (.ref (X.ad b)), none, some (.int (l2)), some (.int (l3)), none, none, none, none] []) : ∀ (n : Nat) (σ : Sg) (l2 : Int32) (l3 : Int32) (l4 : Int32) (l5 : Int32) (l6 : Int32), GO X K 8 (fun r => MQi X K (b2i r.1) r.2) (fX9_hasDivider_44 b k2 n σ l2 l3 l4 l5 l6) σ 0 0 44 [some (.ref (X.ad b)), none, some (.int (l2)), some (.int (l3)), some (.int (l4)), some (.int (l5)), some (.int (l6)), none] [] := by
  intro n
  induction n with
  | zero =>
    intro σ l2 l3 l4 l5 l6
    exact g_none
  | succ n ih =>
    intro σ l2 l3 l4 l5 l6
    unfold fX9_hasDivider_44
    refine g_aload_n (pc := 44) (i := 0) C dX9_hasDivider_44 rfl rfl ?_
    refine g_iload (pc := 45) C dX9_hasDivider_45 rfl ?_
    refine g_iconst (pc := 47) (v := 2) C dX9_hasDivider_47 (by decide) ?_
    refine g_callVi (pc := 48) (As := [.int (l4), .int (2)]) C (kX9_its X σ b l4 2 hb) (blk hb 0 rfl) rfl q_20_12 q_20_13 q_20_14 q_1_5 q_20_15 ⟨rfl, hdX9_its⟩ ⟨Nat.le_of_ble_eq_true rfl, Nat.le_of_ble_eq_true rfl, rfl, rfl⟩ ⟨Nat.zero_le _, Nat.zero_le _⟩ (Nat.le_of_ble_eq_true rfl) rfl rfl dX9_hasDivider_48 (fun r5 _ => ?_)
    refine g_iload_n (pc := 51) (i := 2) C dX9_hasDivider_51 rfl rfl ?_
    refine g_iconst (pc := 52) (v := 2) C dX9_hasDivider_52 (by decide) ?_
    refine g_idivc (pc := 53) C dX9_hasDivider_53 (by decide) ?_
    refine g_icmp_ne (pc := 54) (tgt := 135) C dX9_hasDivider_54 rfl ?_ ?_
    · refine g_iload (pc := 57) C dX9_hasDivider_57 rfl ?_
      refine g_if_lt (pc := 59) (tgt := 135) C dX9_hasDivider_59 rfl ?_ ?_
      · refine g_keep [true, false, true, false, true, false, false, false] ?_
        exact bX9_hasDivider_135 C hr b hb hk2 σ l2 l4
      · refine g_iload (pc := 62) C dX9_hasDivider_62 rfl ?_
        refine g_aload_n (pc := 64) (i := 0) C dX9_hasDivider_64 rfl rfl ?_
        refine g_iload (pc := 65) C dX9_hasDivider_65 rfl ?_
        refine g_callVi (pc := 67) (As := [.int (l4)]) C (kX9_childMany X σ b l4 hb) (blk hb 0 rfl) rfl q_21_16 q_21_17 q_21_18 q_1_5 q_21_19 ⟨rfl, hdX9_childMany⟩ ⟨Nat.le_of_ble_eq_true rfl, Nat.le_of_ble_eq_true rfl, rfl, rfl⟩ ⟨Nat.zero_le _, Nat.zero_le _⟩ (Nat.le_of_ble_eq_true rfl) rfl rfl dX9_hasDivider_67 (fun r6 _ => ?_)
        refine g_icmp_ge (pc := 70) (tgt := 135) C dX9_hasDivider_70 rfl ?_ ?_
        · refine g_keep [true, false, true, false, true, false, false, false] ?_
          exact bX9_hasDivider_135 C hr b hb hk2 σ l2 l4
        · refine g_aload_n (pc := 73) (i := 0) C dX9_hasDivider_73 rfl rfl ?_
          refine g_iload (pc := 74) C dX9_hasDivider_74 rfl ?_
          refine g_iload (pc := 76) C dX9_hasDivider_76 rfl ?_
          refine g_callVi (pc := 78) (As := [.int (l4), .int (l6)]) C (kX9_child X σ b l4 l6 hb) (blk hb 0 rfl) rfl q_21_20 q_21_21 q_21_22 q_1_5 q_21_23 ⟨rfl, hdX9_child⟩ ⟨Nat.le_of_ble_eq_true rfl, Nat.le_of_ble_eq_true rfl, rfl, rfl⟩ ⟨Nat.zero_le _, Nat.zero_le _⟩ (Nat.le_of_ble_eq_true rfl) rfl rfl dX9_hasDivider_78 (fun r7 _ => ?_)
          refine g_istore (pc := 81) C dX9_hasDivider_81 (Nat.le_of_ble_eq_true rfl) rfl ?_
          refine g_aload_n (pc := 83) (i := 0) C dX9_hasDivider_83 rfl rfl ?_
          refine g_getr (pc := 84) (ci := 9) (N := 27) (T := TX9) (j := 7) (Cn := RX9) (b + 5) C rfl inlX9 (Nat.le_of_ble_eq_true rfl) q_6_7 (blk hb 0 rfl) rfl dX9_hasDivider_84 ?_
          refine g_iload (pc := 87) C dX9_hasDivider_87 rfl ?_
          refine g_baload (pc := 89) C (blk hb 5 rfl) dX9_hasDivider_89 ?_
          refine g_if_eq (pc := 90) (tgt := 125) C dX9_hasDivider_90 rfl ?_ ?_
          · refine g_iload (pc := 125) C dX9_hasDivider_125 rfl ?_
            refine g_iload (pc := 127) C dX9_hasDivider_127 rfl ?_
            refine g_iadd (pc := 129) C dX9_hasDivider_129 ?_
            refine g_nm (fun v8 => ?_)
            refine g_istore (pc := 130) C dX9_hasDivider_130 (Nat.le_of_ble_eq_true rfl) rfl ?_
            refine g_goto (pc := 132) (tgt := 44) C dX9_hasDivider_132 rfl ?_
            refine g_keep [true, false, true, true, true, true, true, false] ?_
            exact ih σ l2 l3 l4 l5 v8
          · refine g_aload_n (pc := 93) (i := 0) C dX9_hasDivider_93 rfl rfl ?_
            refine g_iload (pc := 94) C dX9_hasDivider_94 rfl ?_
            refine g_if_le (pc := 96) (tgt := 103) C dX9_hasDivider_96 rfl ?_ ?_
            · refine g_iload (pc := 103) C dX9_hasDivider_103 rfl ?_
              refine g_keep [true, false, false, true, false, true, false, true] ?_
              exact bX9_hasDivider_105 C hr b hb σ l3 l5 r7 r7
            · refine g_iload_n (pc := 99) (i := 3) C dX9_hasDivider_99 rfl rfl ?_
              refine g_goto (pc := 100) (tgt := 105) C dX9_hasDivider_100 rfl ?_
              refine g_keep [true, false, false, true, false, true, false, true] ?_
              exact bX9_hasDivider_105 C hr b hb σ l3 l5 r7 l3
    · refine g_keep [true, false, true, false, true, false, false, false] ?_
      exact bX9_hasDivider_135 C hr b hb hk2 σ l2 l4
def fX9_hasDivider_31 (b : Nat) (k2 : Sg → Int32 → Int32 → Option (Bool × Sg)) (σ : Sg) (l2 : Int32) (l3 : Int32) (l4 : Int32) (s0 : Int32) : Option (Bool × Sg) :=
  (fX9_its σ b l3 4).bind fun r3 =>
  nm (r3 + s0) fun v4 =>
  (fX9_hasDivider_44 b k2 FU σ l2 l3 l4 s0 v4)
theorem bX9_hasDivider_31 {X : Xc} {K : Kc} (C : MC X K cX9_hasDivider 8 RX9 rmX9_hasDivider) (hr : K.meth.sig.returnType = (some .boolean)) (b : Nat) (hb : moOK b){k2 : Sg → Int32 → Int32 → Option (Bool × Sg)} (hk2 : ∀ (σ : Sg) (l2 : Int32) (l3 : Int32), GO X K 8 (fun r => MQi X K (b2i r.1) r.2) (k2 σ l2 l3) σ 0 0 2 [some (.ref (X.ad b)), none, some (.int (l2)), some (.int (l3)), none, none, none, none] []) (σ : Sg) (l2 : Int32) (l3 : Int32) (l4 : Int32) (s0 : Int32) : GO X K 8 (fun r => MQi X K (b2i r.1) r.2) (fX9_hasDivider_31 b k2 σ l2 l3 l4 s0) σ 0 0 31 [some (.ref (X.ad b)), none, some (.int (l2)), some (.int (l3)), some (.int (l4)), none, none, none] [.int (s0)] := by
  unfold fX9_hasDivider_31
  refine g_istore (pc := 31) C dX9_hasDivider_31 (Nat.le_of_ble_eq_true rfl) rfl ?_
  refine g_aload_n (pc := 33) (i := 0) C dX9_hasDivider_33 rfl rfl ?_
  refine g_iload_n (pc := 34) (i := 3) C dX9_hasDivider_34 rfl rfl ?_
  refine g_iconst (pc := 35) (v := 4) C dX9_hasDivider_35 (by decide) ?_
  refine g_callVi (pc := 36) (As := [.int (l3), .int (4)]) C (kX9_its X σ b l3 4 hb) (blk hb 0 rfl) rfl q_20_12 q_20_13 q_20_14 q_1_5 q_20_15 ⟨rfl, hdX9_its⟩ ⟨Nat.le_of_ble_eq_true rfl, Nat.le_of_ble_eq_true rfl, rfl, rfl⟩ ⟨Nat.zero_le _, Nat.zero_le _⟩ (Nat.le_of_ble_eq_true rfl) rfl rfl dX9_hasDivider_36 (fun r3 _ => ?_)
  refine g_iload (pc := 39) C dX9_hasDivider_39 rfl ?_
  refine g_iadd (pc := 41) C dX9_hasDivider_41 ?_
  refine g_nm (fun v4 => ?_)
  refine g_istore (pc := 42) C dX9_hasDivider_42 (Nat.le_of_ble_eq_true rfl) rfl ?_
  refine g_keep [true, false, true, true, true, true, true, false] ?_
  exact bX9_hasDivider_44 C hr b hb hk2 FU σ l2 l3 l4 s0 v4
def fX9_hasDivider_2 (b : Nat) : Nat → Sg → Int32 → Int32 → Option (Bool × Sg)
  | 0, _, _, _ => none
  | n + 1, σ, l2, l3 =>
    (fX9_its σ b l3 1).bind fun r1 =>
    if r1 = (-1) then
      some (false, σ)
    else
      (fX9_its σ b l3 1).bind fun r2 =>
      if (l2 - l2 / 2 * 2) = 0 then
        (fX9_hasDivider_31 b (fX9_hasDivider_2 b n) σ l2 l3 r2 (-1))
      else
        (fX9_hasDivider_31 b (fX9_hasDivider_2 b n) σ l2 l3 r2 1)
theorem bX9_hasDivider_2 {X : Xc} {K : Kc} (C : MC X K cX9_hasDivider 8 RX9 rmX9_hasDivider) (hr : K.meth.sig.returnType = (some .boolean)) (b : Nat) (hb : moOK b) : ∀ (n : Nat) (σ : Sg) (l2 : Int32) (l3 : Int32), GO X K 8 (fun r => MQi X K (b2i r.1) r.2) (fX9_hasDivider_2 b n σ l2 l3) σ 0 0 2 [some (.ref (X.ad b)), none, some (.int (l2)), some (.int (l3)), none, none, none, none] [] := by
  intro n
  induction n with
  | zero =>
    intro σ l2 l3
    exact g_none
  | succ n ih =>
    intro σ l2 l3
    unfold fX9_hasDivider_2
    refine g_aload_n (pc := 2) (i := 0) C dX9_hasDivider_2 rfl rfl ?_
    refine g_iload_n (pc := 3) (i := 3) C dX9_hasDivider_3 rfl rfl ?_
    refine g_iconst (pc := 4) (v := 1) C dX9_hasDivider_4 (by decide) ?_
    refine g_callVi (pc := 5) (As := [.int (l3), .int (1)]) C (kX9_its X σ b l3 1 hb) (blk hb 0 rfl) rfl q_20_12 q_20_13 q_20_14 q_1_5 q_20_15 ⟨rfl, hdX9_its⟩ ⟨Nat.le_of_ble_eq_true rfl, Nat.le_of_ble_eq_true rfl, rfl, rfl⟩ ⟨Nat.zero_le _, Nat.zero_le _⟩ (Nat.le_of_ble_eq_true rfl) rfl rfl dX9_hasDivider_5 (fun r1 _ => ?_)
    refine g_iconst (pc := 8) (v := (-1)) C dX9_hasDivider_8 (by decide) ?_
    refine g_icmp_eq (pc := 9) (tgt := 141) C dX9_hasDivider_9 rfl ?_ ?_
    · refine g_iconst (pc := 141) (v := 0) C dX9_hasDivider_141 (by decide) ?_
      exact g_zret (pc := 142) C hr dX9_hasDivider_142 rfl
    · refine g_aload_n (pc := 12) (i := 0) C dX9_hasDivider_12 rfl rfl ?_
      refine g_iload_n (pc := 13) (i := 3) C dX9_hasDivider_13 rfl rfl ?_
      refine g_iconst (pc := 14) (v := 1) C dX9_hasDivider_14 (by decide) ?_
      refine g_callVi (pc := 15) (As := [.int (l3), .int (1)]) C (kX9_its X σ b l3 1 hb) (blk hb 0 rfl) rfl q_20_12 q_20_13 q_20_14 q_1_5 q_20_15 ⟨rfl, hdX9_its⟩ ⟨Nat.le_of_ble_eq_true rfl, Nat.le_of_ble_eq_true rfl, rfl, rfl⟩ ⟨Nat.zero_le _, Nat.zero_le _⟩ (Nat.le_of_ble_eq_true rfl) rfl rfl dX9_hasDivider_15 (fun r2 _ => ?_)
      refine g_istore (pc := 18) C dX9_hasDivider_18 (Nat.le_of_ble_eq_true rfl) rfl ?_
      refine g_iload_n (pc := 20) (i := 2) C dX9_hasDivider_20 rfl rfl ?_
      refine g_iconst (pc := 21) (v := 2) C dX9_hasDivider_21 (by decide) ?_
      refine g_iremc (pc := 22) C dX9_hasDivider_22 (by decide) ?_
      refine g_if_ne (pc := 23) (tgt := 30) C dX9_hasDivider_23 rfl ?_ ?_
      · refine g_iconst (pc := 26) (v := (-1)) C dX9_hasDivider_26 (by decide) ?_
        refine g_goto (pc := 27) (tgt := 31) C dX9_hasDivider_27 rfl ?_
        refine g_keep [true, false, true, true, true, false, false, false] ?_
        exact bX9_hasDivider_31 C hr b hb ih σ l2 l3 r2 (-1)
      · refine g_iconst (pc := 30) (v := 1) C dX9_hasDivider_30 (by decide) ?_
        refine g_keep [true, false, true, true, true, false, false, false] ?_
        exact bX9_hasDivider_31 C hr b hb ih σ l2 l3 r2 1
def fX9_hasDivider (σ : Sg) (b : Nat) (p1 : Int32) (p2 : Int32) : Option (Bool × Sg) :=
  (fX9_hasDivider_2 b FU σ p2 p1)
theorem kX9_hasDivider (X : Xc) (σ : Sg) (b : Nat) (p1 : Int32) (p2 : Int32) (hb : moOK b) : ∀ r, fX9_hasDivider σ b p1 p2 = some r → Met X.l yX9_hasDivider (wsM yX9_hasDivider cX9_hasDivider 8 (some .boolean)) rmX9_hasDivider (va_Pc [.ref (X.ad b), .int p1, .int p2] (PW X σ)) (Qi X (b2i r.1) r.2) 0 0 X.A := by
  refine mt_of (own := RX9) (lo := [some (.ref (X.ad b)), some (.int (p1)), some (.int (p2)), none, none, none, none, none]) (by decide) rfl (Nat.le_of_ble_eq_true rfl) rfl (fun K C hr => ?_)
  unfold fX9_hasDivider
  refine g_iload_n (pc := 0) (i := 1) C dX9_hasDivider_0 rfl rfl ?_
  refine g_istore_n (pc := 1) (i := 3) C dX9_hasDivider_1 rfl (Nat.le_of_ble_eq_true rfl) rfl ?_
  refine g_keep [true, false, true, true, false, false, false, false] ?_
  exact bX9_hasDivider_2 C hr b hb FU σ p2 p1
theorem dX9_weighs_0 : decode cX9_weighs 0 = .ok (.lconst 0, 1) := by decide +kernel
theorem dX9_weighs_1 : decode cX9_weighs 1 = .ok (.lstore_n 3, 1) := by decide +kernel
theorem dX9_weighs_2 : decode cX9_weighs 2 = .ok (.lconst 0, 1) := by decide +kernel
theorem dX9_weighs_3 : decode cX9_weighs 3 = .ok (.lstore 5, 2) := by decide +kernel
theorem dX9_weighs_5 : decode cX9_weighs 5 = .ok (.iconst 0, 1) := by decide +kernel
theorem dX9_weighs_6 : decode cX9_weighs 6 = .ok (.istore 7, 2) := by decide +kernel
theorem dX9_weighs_8 : decode cX9_weighs 8 = .ok (.iload 7, 2) := by decide +kernel
theorem dX9_weighs_10 : decode cX9_weighs 10 = .ok (.bipush 24, 2) := by decide +kernel
theorem dX9_weighs_12 : decode cX9_weighs 12 = .ok (.if_icmp .ge 90, 3) := by decide +kernel
theorem dX9_weighs_15 : decode cX9_weighs 15 = .ok (.aload_n 0, 1) := by decide +kernel
theorem dX9_weighs_16 : decode cX9_weighs 16 = .ok (.iload 7, 2) := by decide +kernel
theorem dX9_weighs_18 : decode cX9_weighs 18 = .ok (.iload_n 1, 1) := by decide +kernel
theorem dX9_weighs_19 : decode cX9_weighs 19 = .ok (.invokevirtual 83, 3) := by decide +kernel
theorem dX9_weighs_22 : decode cX9_weighs 22 = .ok (.ifCond .eq 74, 3) := by decide +kernel
theorem dX9_weighs_25 : decode cX9_weighs 25 = .ok (.aload_n 0, 1) := by decide +kernel
theorem dX9_weighs_26 : decode cX9_weighs 26 = .ok (.getfield 22, 3) := by decide +kernel
theorem dX9_weighs_29 : decode cX9_weighs 29 = .ok (.iload 7, 2) := by decide +kernel
theorem dX9_weighs_31 : decode cX9_weighs 31 = .ok (.baload, 1) := by decide +kernel
theorem dX9_weighs_32 : decode cX9_weighs 32 = .ok (.ifCond .eq 64, 3) := by decide +kernel
theorem dX9_weighs_35 : decode cX9_weighs 35 = .ok (.lload_n 3, 1) := by decide +kernel
theorem dX9_weighs_36 : decode cX9_weighs 36 = .ok (.aload_n 0, 1) := by decide +kernel
theorem dX9_weighs_37 : decode cX9_weighs 37 = .ok (.iload 7, 2) := by decide +kernel
theorem dX9_weighs_39 : decode cX9_weighs 39 = .ok (.iconst 3, 1) := by decide +kernel
theorem dX9_weighs_40 : decode cX9_weighs 40 = .ok (.invokevirtual 76, 3) := by decide +kernel
theorem dX9_weighs_43 : decode cX9_weighs 43 = .ok (.i2l, 1) := by decide +kernel
theorem dX9_weighs_44 : decode cX9_weighs 44 = .ok (.ladd, 1) := by decide +kernel
theorem dX9_weighs_45 : decode cX9_weighs 45 = .ok (.lstore_n 3, 1) := by decide +kernel
theorem dX9_weighs_46 : decode cX9_weighs 46 = .ok (.bipush 100, 2) := by decide +kernel
theorem dX9_weighs_48 : decode cX9_weighs 48 = .ok (.aload_n 0, 1) := by decide +kernel
theorem dX9_weighs_49 : decode cX9_weighs 49 = .ok (.getfield 29, 3) := by decide +kernel
theorem dX9_weighs_52 : decode cX9_weighs 52 = .ok (.iconst 4, 1) := by decide +kernel
theorem dX9_weighs_53 : decode cX9_weighs 53 = .ok (.iload 7, 2) := by decide +kernel
theorem dX9_weighs_55 : decode cX9_weighs 55 = .ok (.imul, 1) := by decide +kernel
theorem dX9_weighs_56 : decode cX9_weighs 56 = .ok (.iconst 2, 1) := by decide +kernel
theorem dX9_weighs_57 : decode cX9_weighs 57 = .ok (.iadd, 1) := by decide +kernel
theorem dX9_weighs_58 : decode cX9_weighs 58 = .ok (.iload_n 2, 1) := by decide +kernel
theorem dX9_weighs_59 : decode cX9_weighs 59 = .ok (.iadd, 1) := by decide +kernel
theorem dX9_weighs_60 : decode cX9_weighs 60 = .ok (.iaload, 1) := by decide +kernel
theorem dX9_weighs_61 : decode cX9_weighs 61 = .ok (.imul, 1) := by decide +kernel
theorem dX9_weighs_62 : decode cX9_weighs 62 = .ok (.istore 8, 2) := by decide +kernel
theorem dX9_weighs_64 : decode cX9_weighs 64 = .ok (.aload_n 0, 1) := by decide +kernel
theorem dX9_weighs_65 : decode cX9_weighs 65 = .ok (.iload 7, 2) := by decide +kernel
theorem dX9_weighs_67 : decode cX9_weighs 67 = .ok (.iconst 3, 1) := by decide +kernel
theorem dX9_weighs_68 : decode cX9_weighs 68 = .ok (.iload 8, 2) := by decide +kernel
theorem dX9_weighs_70 : decode cX9_weighs 70 = .ok (.iconst 1, 1) := by decide +kernel
theorem dX9_weighs_71 : decode cX9_weighs 71 = .ok (.if_icmp .le 8, 3) := by decide +kernel
theorem dX9_weighs_74 : decode cX9_weighs 74 = .ok (.iload 8, 2) := by decide +kernel
theorem dX9_weighs_76 : decode cX9_weighs 76 = .ok (.goto 4, 3) := by decide +kernel
theorem dX9_weighs_79 : decode cX9_weighs 79 = .ok (.iconst 1, 1) := by decide +kernel
theorem dX9_weighs_80 : decode cX9_weighs 80 = .ok (.invokevirtual 79, 3) := by decide +kernel
theorem dX9_weighs_83 : decode cX9_weighs 83 = .ok (.lload 5, 2) := by decide +kernel
theorem dX9_weighs_85 : decode cX9_weighs 85 = .ok (.aload_n 0, 1) := by decide +kernel
theorem dX9_weighs_86 : decode cX9_weighs 86 = .ok (.iload 7, 2) := by decide +kernel
theorem dX9_weighs_88 : decode cX9_weighs 88 = .ok (.iconst 3, 1) := by decide +kernel
theorem dX9_weighs_89 : decode cX9_weighs 89 = .ok (.invokevirtual 76, 3) := by decide +kernel
theorem dX9_weighs_92 : decode cX9_weighs 92 = .ok (.i2l, 1) := by decide +kernel
theorem dX9_weighs_93 : decode cX9_weighs 93 = .ok (.ladd, 1) := by decide +kernel
theorem dX9_weighs_94 : decode cX9_weighs 94 = .ok (.lstore 5, 2) := by decide +kernel
theorem dX9_weighs_96 : decode cX9_weighs 96 = .ok (.iinc 7 1, 3) := by decide +kernel
theorem dX9_weighs_99 : decode cX9_weighs 99 = .ok (.goto (-91), 3) := by decide +kernel
theorem dX9_weighs_102 : decode cX9_weighs 102 = .ok (.iconst 0, 1) := by decide +kernel
theorem dX9_weighs_103 : decode cX9_weighs 103 = .ok (.istore 7, 2) := by decide +kernel
theorem dX9_weighs_105 : decode cX9_weighs 105 = .ok (.iload 7, 2) := by decide +kernel
theorem dX9_weighs_107 : decode cX9_weighs 107 = .ok (.bipush 24, 2) := by decide +kernel
theorem dX9_weighs_109 : decode cX9_weighs 109 = .ok (.if_icmp .ge 79, 3) := by decide +kernel
theorem dX9_weighs_112 : decode cX9_weighs 112 = .ok (.aload_n 0, 1) := by decide +kernel
theorem dX9_weighs_113 : decode cX9_weighs 113 = .ok (.iload 7, 2) := by decide +kernel
theorem dX9_weighs_115 : decode cX9_weighs 115 = .ok (.iload_n 1, 1) := by decide +kernel
theorem dX9_weighs_116 : decode cX9_weighs 116 = .ok (.invokevirtual 83, 3) := by decide +kernel
theorem dX9_weighs_119 : decode cX9_weighs 119 = .ok (.ifCond .eq 63, 3) := by decide +kernel
theorem dX9_weighs_122 : decode cX9_weighs 122 = .ok (.aload_n 0, 1) := by decide +kernel
theorem dX9_weighs_123 : decode cX9_weighs 123 = .ok (.getfield 22, 3) := by decide +kernel
theorem dX9_weighs_126 : decode cX9_weighs 126 = .ok (.iload 7, 2) := by decide +kernel
theorem dX9_weighs_128 : decode cX9_weighs 128 = .ok (.baload, 1) := by decide +kernel
theorem dX9_weighs_129 : decode cX9_weighs 129 = .ok (.ifCond .ne 53, 3) := by decide +kernel
theorem dX9_weighs_132 : decode cX9_weighs 132 = .ok (.aload_n 0, 1) := by decide +kernel
theorem dX9_weighs_133 : decode cX9_weighs 133 = .ok (.iload 7, 2) := by decide +kernel
theorem dX9_weighs_135 : decode cX9_weighs 135 = .ok (.iconst 3, 1) := by decide +kernel
theorem dX9_weighs_136 : decode cX9_weighs 136 = .ok (.invokevirtual 76, 3) := by decide +kernel
theorem dX9_weighs_139 : decode cX9_weighs 139 = .ok (.i2l, 1) := by decide +kernel
theorem dX9_weighs_140 : decode cX9_weighs 140 = .ok (.lload 5, 2) := by decide +kernel
theorem dX9_weighs_142 : decode cX9_weighs 142 = .ok (.lmul, 1) := by decide +kernel
theorem dX9_weighs_143 : decode cX9_weighs 143 = .ok (.lload_n 3, 1) := by decide +kernel
theorem dX9_weighs_144 : decode cX9_weighs 144 = .ok (.ldiv, 1) := by decide +kernel
theorem dX9_weighs_145 : decode cX9_weighs 145 = .ok (.lstore 8, 2) := by decide +kernel
theorem dX9_weighs_147 : decode cX9_weighs 147 = .ok (.aload_n 0, 1) := by decide +kernel
theorem dX9_weighs_148 : decode cX9_weighs 148 = .ok (.iload 7, 2) := by decide +kernel
theorem dX9_weighs_150 : decode cX9_weighs 150 = .ok (.iconst 3, 1) := by decide +kernel
theorem dX9_weighs_151 : decode cX9_weighs 151 = .ok (.lload 8, 2) := by decide +kernel
theorem dX9_weighs_153 : decode cX9_weighs 153 = .ok (.lconst 1, 1) := by decide +kernel
theorem dX9_weighs_154 : decode cX9_weighs 154 = .ok (.lcmp, 1) := by decide +kernel
theorem dX9_weighs_155 : decode cX9_weighs 155 = .ok (.ifCond .ge 7, 3) := by decide +kernel
theorem dX9_weighs_158 : decode cX9_weighs 158 = .ok (.iconst 1, 1) := by decide +kernel
theorem dX9_weighs_159 : decode cX9_weighs 159 = .ok (.goto 20, 3) := by decide +kernel
theorem dX9_weighs_162 : decode cX9_weighs 162 = .ok (.lload 8, 2) := by decide +kernel
theorem dX9_weighs_164 : decode cX9_weighs 164 = .ok (.ldc2_w 238, 3) := by decide +kernel
theorem dX9_weighs_167 : decode cX9_weighs 167 = .ok (.lcmp, 1) := by decide +kernel
theorem dX9_weighs_168 : decode cX9_weighs 168 = .ok (.ifCond .le 8, 3) := by decide +kernel
theorem dX9_weighs_171 : decode cX9_weighs 171 = .ok (.ldc 240, 2) := by decide +kernel
theorem dX9_weighs_173 : decode cX9_weighs 173 = .ok (.goto 6, 3) := by decide +kernel
theorem dX9_weighs_176 : decode cX9_weighs 176 = .ok (.lload 8, 2) := by decide +kernel
theorem dX9_weighs_178 : decode cX9_weighs 178 = .ok (.l2i, 1) := by decide +kernel
theorem dX9_weighs_179 : decode cX9_weighs 179 = .ok (.invokevirtual 79, 3) := by decide +kernel
theorem dX9_weighs_182 : decode cX9_weighs 182 = .ok (.iinc 7 1, 3) := by decide +kernel
theorem dX9_weighs_185 : decode cX9_weighs 185 = .ok (.goto (-80), 3) := by decide +kernel
theorem dX9_weighs_188 : decode cX9_weighs 188 = .ok (.return_, 1) := by decide +kernel
abbrev rmX9_weighs : Room := { frames := 2, cells := 0, slots := 0, locals := 44 }
theorem hdX9_weighs : yX9_weighs.cls ≠ "java/lang/invoke/MethodHandle" ∧ yX9_weighs.cls ≠ "java/lang/invoke/VarHandle" ∧ (parseMethodDescriptor yX9_weighs.desc).map (fun d => d.parameters.length) = some 2 := by decide +kernel
def fX9_weighs_182 (b : Nat) (k105 : Sg → Int32 → Int64 → Int64 → Int32 → Option Sg) (σ : Sg) (l1 : Int32) (l3 : Int64) (l5 : Int64) (l7 : Int32) : Option Sg :=
  (k105 σ l1 l3 l5 (l7 + 1))
theorem bX9_weighs_182 {X : Xc} {K : Kc} (C : MC X K cX9_weighs 10 RX9 rmX9_weighs) (hr : K.meth.sig.returnType = none) (b : Nat) (hb : moOK b){k105 : Sg → Int32 → Int64 → Int64 → Int32 → Option Sg} (hk105 : ∀ (σ : Sg) (l1 : Int32) (l3 : Int64) (l5 : Int64) (l7 : Int32), GO X K 10 (fun r => MQv X K r) (k105 σ l1 l3 l5 l7) σ 0 0 105 [some (.ref (X.ad b)), some (.int (l1)), none, some (.long (l3)), none, some (.long (l5)), none, some (.int (l7)), none, none] []) (σ : Sg) (l1 : Int32) (l3 : Int64) (l5 : Int64) (l7 : Int32) : GO X K 10 (fun r => MQv X K r) (fX9_weighs_182 b k105 σ l1 l3 l5 l7) σ 0 0 182 [some (.ref (X.ad b)), some (.int (l1)), none, some (.long (l3)), none, some (.long (l5)), none, some (.int (l7)), none, none] [] := by
  unfold fX9_weighs_182
  refine g_iinc (pc := 182) (v := l7 + 1) C dX9_weighs_182 rfl (rfl) (Nat.le_of_ble_eq_true rfl) rfl ?_
  refine g_goto (pc := 185) (tgt := 105) C dX9_weighs_185 rfl ?_
  refine g_keep [true, true, false, true, false, true, false, true, false, false] ?_
  exact hk105 σ l1 l3 l5 (l7 + 1)
def fX9_weighs_179 (b : Nat) (k105 : Sg → Int32 → Int64 → Int64 → Int32 → Option Sg) (σ : Sg) (l1 : Int32) (l3 : Int64) (l5 : Int64) (l7 : Int32) (s1 : Int32) (s2 : Int32) (s3 : Int32) : Option Sg :=
  (fX9_lay σ b s1 s2 s3).bind fun σ10 =>
  (fX9_weighs_182 b k105 σ10 l1 l3 l5 l7)
theorem bX9_weighs_179 {X : Xc} {K : Kc} (C : MC X K cX9_weighs 10 RX9 rmX9_weighs) (hr : K.meth.sig.returnType = none) (b : Nat) (hb : moOK b){k105 : Sg → Int32 → Int64 → Int64 → Int32 → Option Sg} (hk105 : ∀ (σ : Sg) (l1 : Int32) (l3 : Int64) (l5 : Int64) (l7 : Int32), GO X K 10 (fun r => MQv X K r) (k105 σ l1 l3 l5 l7) σ 0 0 105 [some (.ref (X.ad b)), some (.int (l1)), none, some (.long (l3)), none, some (.long (l5)), none, some (.int (l7)), none, none] []) (σ : Sg) (l1 : Int32) (l3 : Int64) (l5 : Int64) (l7 : Int32) (s1 : Int32) (s2 : Int32) (s3 : Int32) : GO X K 10 (fun r => MQv X K r) (fX9_weighs_179 b k105 σ l1 l3 l5 l7 s1 s2 s3) σ 0 0 179 [some (.ref (X.ad b)), some (.int (l1)), none, some (.long (l3)), none, some (.long (l5)), none, some (.int (l7)), none, none] [.int (s3), .int (s2), .int (s1), .ref (X.ad b)] := by
  unfold fX9_weighs_179
  refine g_callVv (pc := 179) (As := [.int (s1), .int (s2), .int (s3)]) C (kX9_lay X σ b s1 s2 s3 hb) (blk hb 0 rfl) rfl q_21_0 q_21_1 q_21_2 q_1_5 q_21_3 ⟨rfl, hdX9_lay⟩ ⟨Nat.le_of_ble_eq_true rfl, Nat.le_of_ble_eq_true rfl, rfl, rfl⟩ ⟨Nat.zero_le _, Nat.zero_le _⟩ (Nat.le_of_ble_eq_true rfl) rfl rfl dX9_weighs_179 (fun σ10 _ => ?_)
  refine g_keep [true, true, false, true, false, true, false, true, false, false] ?_
  exact bX9_weighs_182 C hr b hb hk105 σ10 l1 l3 l5 l7
def fX9_weighs_105 (b : Nat) : Nat → Sg → Int32 → Int64 → Int64 → Int32 → Option Sg
  | 0, _, _, _, _, _ => none
  | n + 1, σ, l1, l3, l5, l7 =>
    if 24 ≤ l7 then
      some σ
    else
      (fX9_isChild σ b l7 l1).bind fun r7 =>
      if r7 = true then
        if ck l7 24 then
          if (σ.1 (b + 5) l7.toNatClampNeg) = 0 then
            (fX9_its σ b l7 3).bind fun r8 =>
            if l3 = 0 then none else
            nm ((r8.toInt64 * l5) / l3) fun v9 =>
            if 0 ≤ (lg_cmp v9 (1 : Int64)) then
              if (lg_cmp v9 (1000000 : Int64)) ≤ 0 then
                (fX9_weighs_179 b (fX9_weighs_105 b n) σ l1 l3 l5 l7 l7 3 v9.toInt32)
              else
                (fX9_weighs_179 b (fX9_weighs_105 b n) σ l1 l3 l5 l7 l7 3 1000000)
            else
              (fX9_weighs_179 b (fX9_weighs_105 b n) σ l1 l3 l5 l7 l7 3 1)
          else
            (fX9_weighs_182 b (fX9_weighs_105 b n) σ l1 l3 l5 l7)
        else none
      else
        (fX9_weighs_182 b (fX9_weighs_105 b n) σ l1 l3 l5 l7)
theorem bX9_weighs_105 {X : Xc} {K : Kc} (C : MC X K cX9_weighs 10 RX9 rmX9_weighs) (hr : K.meth.sig.returnType = none) (b : Nat) (hb : moOK b) : ∀ (n : Nat) (σ : Sg) (l1 : Int32) (l3 : Int64) (l5 : Int64) (l7 : Int32), GO X K 10 (fun r => MQv X K r) (fX9_weighs_105 b n σ l1 l3 l5 l7) σ 0 0 105 [some (.ref (X.ad b)), some (.int (l1)), none, some (.long (l3)), none, some (.long (l5)), none, some (.int (l7)), none, none] [] := by
  intro n
  induction n with
  | zero =>
    intro σ l1 l3 l5 l7
    exact g_none
  | succ n ih =>
    intro σ l1 l3 l5 l7
    unfold fX9_weighs_105
    refine g_iload (pc := 105) C dX9_weighs_105 rfl ?_
    refine g_bipush (pc := 107) (v := 24) C dX9_weighs_107 (by decide) ?_
    refine g_icmp_ge (pc := 109) (tgt := 188) C dX9_weighs_109 rfl ?_ ?_
    · exact g_vret (pc := 188) C hr dX9_weighs_188 rfl
    · refine g_aload_n (pc := 112) (i := 0) C dX9_weighs_112 rfl rfl ?_
      refine g_iload (pc := 113) C dX9_weighs_113 rfl ?_
      refine g_iload_n (pc := 115) (i := 1) C dX9_weighs_115 rfl rfl ?_
      refine g_callVi (pc := 116) (As := [.int (l7), .int (l1)]) C (kX9_isChild X σ b l7 l1 hb) (blk hb 0 rfl) rfl q_21_8 q_21_9 q_21_10 q_1_5 q_21_11 ⟨rfl, hdX9_isChild⟩ ⟨Nat.le_of_ble_eq_true rfl, Nat.le_of_ble_eq_true rfl, rfl, rfl⟩ ⟨Nat.zero_le _, Nat.zero_le _⟩ (Nat.le_of_ble_eq_true rfl) rfl rfl dX9_weighs_116 (fun r7 _ => ?_)
      refine g_ifb_eq (pc := 119) (tgt := 182) C dX9_weighs_119 rfl ?_ ?_
      · refine g_aload_n (pc := 122) (i := 0) C dX9_weighs_122 rfl rfl ?_
        refine g_getr (pc := 123) (ci := 9) (N := 27) (T := TX9) (j := 7) (Cn := RX9) (b + 5) C rfl inlX9 (Nat.le_of_ble_eq_true rfl) q_6_7 (blk hb 0 rfl) rfl dX9_weighs_123 ?_
        refine g_iload (pc := 126) C dX9_weighs_126 rfl ?_
        refine g_baload (pc := 128) C (blk hb 5 rfl) dX9_weighs_128 ?_
        refine g_if_ne (pc := 129) (tgt := 182) C dX9_weighs_129 rfl ?_ ?_
        · refine g_aload_n (pc := 132) (i := 0) C dX9_weighs_132 rfl rfl ?_
          refine g_iload (pc := 133) C dX9_weighs_133 rfl ?_
          refine g_iconst (pc := 135) (v := 3) C dX9_weighs_135 (by decide) ?_
          refine g_callVi (pc := 136) (As := [.int (l7), .int (3)]) C (kX9_its X σ b l7 3 hb) (blk hb 0 rfl) rfl q_20_12 q_20_13 q_20_14 q_1_5 q_20_15 ⟨rfl, hdX9_its⟩ ⟨Nat.le_of_ble_eq_true rfl, Nat.le_of_ble_eq_true rfl, rfl, rfl⟩ ⟨Nat.zero_le _, Nat.zero_le _⟩ (Nat.le_of_ble_eq_true rfl) rfl rfl dX9_weighs_136 (fun r8 _ => ?_)
          refine g_i2l (pc := 139) C dX9_weighs_139 ?_
          refine g_lload (pc := 140) C dX9_weighs_140 rfl ?_
          refine g_lmul (pc := 142) C dX9_weighs_142 ?_
          refine g_lload_n (pc := 143) (i := 3) C dX9_weighs_143 rfl rfl ?_
          refine g_ldiv (pc := 144) C dX9_weighs_144 ?_
          refine g_nml (fun v9 => ?_)
          refine g_lstore (pc := 145) C dX9_weighs_145 (Nat.le_of_ble_eq_true rfl) rfl ?_
          refine g_aload_n (pc := 147) (i := 0) C dX9_weighs_147 rfl rfl ?_
          refine g_iload (pc := 148) C dX9_weighs_148 rfl ?_
          refine g_iconst (pc := 150) (v := 3) C dX9_weighs_150 (by decide) ?_
          refine g_lload (pc := 151) C dX9_weighs_151 rfl ?_
          refine g_lconst (pc := 153) (v := 1) C dX9_weighs_153 (by decide) ?_
          refine g_lcmp (pc := 154) C dX9_weighs_154 ?_
          refine g_if_ge (pc := 155) (tgt := 162) C dX9_weighs_155 rfl ?_ ?_
          · refine g_lload (pc := 162) C dX9_weighs_162 rfl ?_
            refine g_ldc2 (pc := 164) (v := 1000000) C q_42_12 dX9_weighs_164 ?_
            refine g_lcmp (pc := 167) C dX9_weighs_167 ?_
            refine g_if_le (pc := 168) (tgt := 176) C dX9_weighs_168 rfl ?_ ?_
            · refine g_lload (pc := 176) C dX9_weighs_176 rfl ?_
              refine g_l2i (pc := 178) C dX9_weighs_178 ?_
              refine g_keep [true, true, false, true, false, true, false, true, false, false] ?_
              exact bX9_weighs_179 C hr b hb ih σ l1 l3 l5 l7 l7 3 v9.toInt32
            · refine g_ldc (pc := 171) (v := 1000000) C q_42_13 dX9_weighs_171 ?_
              refine g_goto (pc := 173) (tgt := 179) C dX9_weighs_173 rfl ?_
              refine g_keep [true, true, false, true, false, true, false, true, false, false] ?_
              exact bX9_weighs_179 C hr b hb ih σ l1 l3 l5 l7 l7 3 1000000
          · refine g_iconst (pc := 158) (v := 1) C dX9_weighs_158 (by decide) ?_
            refine g_goto (pc := 159) (tgt := 179) C dX9_weighs_159 rfl ?_
            refine g_keep [true, true, false, true, false, true, false, true, false, false] ?_
            exact bX9_weighs_179 C hr b hb ih σ l1 l3 l5 l7 l7 3 1
        · refine g_keep [true, true, false, true, false, true, false, true, false, false] ?_
          exact bX9_weighs_182 C hr b hb ih σ l1 l3 l5 l7
      · refine g_keep [true, true, false, true, false, true, false, true, false, false] ?_
        exact bX9_weighs_182 C hr b hb ih σ l1 l3 l5 l7
def fX9_weighs_96 (b : Nat) (k8 : Sg → Int32 → Int32 → Int64 → Int64 → Int32 → Option Sg) (σ : Sg) (l1 : Int32) (l2 : Int32) (l3 : Int64) (l5 : Int64) (l7 : Int32) : Option Sg :=
  (k8 σ l1 l2 l3 l5 (l7 + 1))
theorem bX9_weighs_96 {X : Xc} {K : Kc} (C : MC X K cX9_weighs 10 RX9 rmX9_weighs) (hr : K.meth.sig.returnType = none) (b : Nat) (hb : moOK b){k8 : Sg → Int32 → Int32 → Int64 → Int64 → Int32 → Option Sg} (hk8 : ∀ (σ : Sg) (l1 : Int32) (l2 : Int32) (l3 : Int64) (l5 : Int64) (l7 : Int32), GO X K 10 (fun r => MQv X K r) (k8 σ l1 l2 l3 l5 l7) σ 0 0 8 [some (.ref (X.ad b)), some (.int (l1)), some (.int (l2)), some (.long (l3)), none, some (.long (l5)), none, some (.int (l7)), none, none] []) (σ : Sg) (l1 : Int32) (l2 : Int32) (l3 : Int64) (l5 : Int64) (l7 : Int32) : GO X K 10 (fun r => MQv X K r) (fX9_weighs_96 b k8 σ l1 l2 l3 l5 l7) σ 0 0 96 [some (.ref (X.ad b)), some (.int (l1)), some (.int (l2)), some (.long (l3)), none, some (.long (l5)), none, some (.int (l7)), none, none] [] := by
  unfold fX9_weighs_96
  refine g_iinc (pc := 96) (v := l7 + 1) C dX9_weighs_96 rfl (rfl) (Nat.le_of_ble_eq_true rfl) rfl ?_
  refine g_goto (pc := 99) (tgt := 8) C dX9_weighs_99 rfl ?_
  refine g_keep [true, true, true, true, false, true, false, true, false, false] ?_
  exact hk8 σ l1 l2 l3 l5 (l7 + 1)
def fX9_weighs_80 (b : Nat) (k8 : Sg → Int32 → Int32 → Int64 → Int64 → Int32 → Option Sg) (σ : Sg) (l1 : Int32) (l2 : Int32) (l3 : Int64) (l5 : Int64) (l7 : Int32) (s1 : Int32) (s2 : Int32) (s3 : Int32) : Option Sg :=
  (fX9_lay σ b s1 s2 s3).bind fun σ11 =>
  (fX9_its σ11 b l7 3).bind fun r12 =>
  nm (l5 + r12.toInt64) fun v13 =>
  (fX9_weighs_96 b k8 σ11 l1 l2 l3 v13 l7)
theorem bX9_weighs_80 {X : Xc} {K : Kc} (C : MC X K cX9_weighs 10 RX9 rmX9_weighs) (hr : K.meth.sig.returnType = none) (b : Nat) (hb : moOK b){k8 : Sg → Int32 → Int32 → Int64 → Int64 → Int32 → Option Sg} (hk8 : ∀ (σ : Sg) (l1 : Int32) (l2 : Int32) (l3 : Int64) (l5 : Int64) (l7 : Int32), GO X K 10 (fun r => MQv X K r) (k8 σ l1 l2 l3 l5 l7) σ 0 0 8 [some (.ref (X.ad b)), some (.int (l1)), some (.int (l2)), some (.long (l3)), none, some (.long (l5)), none, some (.int (l7)), none, none] []) (σ : Sg) (l1 : Int32) (l2 : Int32) (l3 : Int64) (l5 : Int64) (l7 : Int32) (s1 : Int32) (s2 : Int32) (s3 : Int32) : GO X K 10 (fun r => MQv X K r) (fX9_weighs_80 b k8 σ l1 l2 l3 l5 l7 s1 s2 s3) σ 0 0 80 [some (.ref (X.ad b)), some (.int (l1)), some (.int (l2)), some (.long (l3)), none, some (.long (l5)), none, some (.int (l7)), none, none] [.int (s3), .int (s2), .int (s1), .ref (X.ad b)] := by
  unfold fX9_weighs_80
  refine g_callVv (pc := 80) (As := [.int (s1), .int (s2), .int (s3)]) C (kX9_lay X σ b s1 s2 s3 hb) (blk hb 0 rfl) rfl q_21_0 q_21_1 q_21_2 q_1_5 q_21_3 ⟨rfl, hdX9_lay⟩ ⟨Nat.le_of_ble_eq_true rfl, Nat.le_of_ble_eq_true rfl, rfl, rfl⟩ ⟨Nat.zero_le _, Nat.zero_le _⟩ (Nat.le_of_ble_eq_true rfl) rfl rfl dX9_weighs_80 (fun σ11 _ => ?_)
  refine g_lload (pc := 83) C dX9_weighs_83 rfl ?_
  refine g_aload_n (pc := 85) (i := 0) C dX9_weighs_85 rfl rfl ?_
  refine g_iload (pc := 86) C dX9_weighs_86 rfl ?_
  refine g_iconst (pc := 88) (v := 3) C dX9_weighs_88 (by decide) ?_
  refine g_callVi (pc := 89) (As := [.int (l7), .int (3)]) C (kX9_its X σ11 b l7 3 hb) (blk hb 0 rfl) rfl q_20_12 q_20_13 q_20_14 q_1_5 q_20_15 ⟨rfl, hdX9_its⟩ ⟨Nat.le_of_ble_eq_true rfl, Nat.le_of_ble_eq_true rfl, rfl, rfl⟩ ⟨Nat.zero_le _, Nat.zero_le _⟩ (Nat.le_of_ble_eq_true rfl) rfl rfl dX9_weighs_89 (fun r12 _ => ?_)
  refine g_i2l (pc := 92) C dX9_weighs_92 ?_
  refine g_ladd (pc := 93) C dX9_weighs_93 ?_
  refine g_nml (fun v13 => ?_)
  refine g_lstore (pc := 94) C dX9_weighs_94 (Nat.le_of_ble_eq_true rfl) rfl ?_
  refine g_keep [true, true, true, true, false, true, false, true, false, false] ?_
  exact bX9_weighs_96 C hr b hb hk8 σ11 l1 l2 l3 v13 l7
def fX9_weighs_8 (b : Nat) : Nat → Sg → Int32 → Int32 → Int64 → Int64 → Int32 → Option Sg
  | 0, _, _, _, _, _, _ => none
  | n + 1, σ, l1, l2, l3, l5, l7 =>
    if 24 ≤ l7 then
      (fX9_weighs_105 b FU σ l1 l3 l5 0)
    else
      (fX9_isChild σ b l7 l1).bind fun r3 =>
      if r3 = true then
        if ck l7 24 then
          if (σ.1 (b + 5) l7.toNatClampNeg) = 0 then
            (fX9_weighs_96 b (fX9_weighs_8 b n) σ l1 l2 l3 l5 l7)
          else
            (fX9_its σ b l7 3).bind fun r4 =>
            nm (l3 + r4.toInt64) fun v5 =>
            if ck (((4 * l7) + 2) + l2) 96 then
              nm (100 * (σ.1 (b + 7) (((4 * l7) + 2) + l2).toNatClampNeg)) fun v6 =>
              if v6 ≤ 1 then
                (fX9_weighs_80 b (fX9_weighs_8 b n) σ l1 l2 v5 l5 l7 l7 3 1)
              else
                (fX9_weighs_80 b (fX9_weighs_8 b n) σ l1 l2 v5 l5 l7 l7 3 v6)
            else none
        else none
      else
        (fX9_weighs_96 b (fX9_weighs_8 b n) σ l1 l2 l3 l5 l7)
theorem bX9_weighs_8 {X : Xc} {K : Kc} (C : MC X K cX9_weighs 10 RX9 rmX9_weighs) (hr : K.meth.sig.returnType = none) (b : Nat) (hb : moOK b) : ∀ (n : Nat) (σ : Sg) (l1 : Int32) (l2 : Int32) (l3 : Int64) (l5 : Int64) (l7 : Int32), GO X K 10 (fun r => MQv X K r) (fX9_weighs_8 b n σ l1 l2 l3 l5 l7) σ 0 0 8 [some (.ref (X.ad b)), some (.int (l1)), some (.int (l2)), some (.long (l3)), none, some (.long (l5)), none, some (.int (l7)), none, none] [] := by
  intro n
  induction n with
  | zero =>
    intro σ l1 l2 l3 l5 l7
    exact g_none
  | succ n ih =>
    intro σ l1 l2 l3 l5 l7
    unfold fX9_weighs_8
    refine g_iload (pc := 8) C dX9_weighs_8 rfl ?_
    refine g_bipush (pc := 10) (v := 24) C dX9_weighs_10 (by decide) ?_
    refine g_icmp_ge (pc := 12) (tgt := 102) C dX9_weighs_12 rfl ?_ ?_
    · refine g_iconst (pc := 102) (v := 0) C dX9_weighs_102 (by decide) ?_
      refine g_istore (pc := 103) C dX9_weighs_103 (Nat.le_of_ble_eq_true rfl) rfl ?_
      refine g_keep [true, true, false, true, false, true, false, true, false, false] ?_
      exact bX9_weighs_105 C hr b hb FU σ l1 l3 l5 0
    · refine g_aload_n (pc := 15) (i := 0) C dX9_weighs_15 rfl rfl ?_
      refine g_iload (pc := 16) C dX9_weighs_16 rfl ?_
      refine g_iload_n (pc := 18) (i := 1) C dX9_weighs_18 rfl rfl ?_
      refine g_callVi (pc := 19) (As := [.int (l7), .int (l1)]) C (kX9_isChild X σ b l7 l1 hb) (blk hb 0 rfl) rfl q_21_8 q_21_9 q_21_10 q_1_5 q_21_11 ⟨rfl, hdX9_isChild⟩ ⟨Nat.le_of_ble_eq_true rfl, Nat.le_of_ble_eq_true rfl, rfl, rfl⟩ ⟨Nat.zero_le _, Nat.zero_le _⟩ (Nat.le_of_ble_eq_true rfl) rfl rfl dX9_weighs_19 (fun r3 _ => ?_)
      refine g_ifb_eq (pc := 22) (tgt := 96) C dX9_weighs_22 rfl ?_ ?_
      · refine g_aload_n (pc := 25) (i := 0) C dX9_weighs_25 rfl rfl ?_
        refine g_getr (pc := 26) (ci := 9) (N := 27) (T := TX9) (j := 7) (Cn := RX9) (b + 5) C rfl inlX9 (Nat.le_of_ble_eq_true rfl) q_6_7 (blk hb 0 rfl) rfl dX9_weighs_26 ?_
        refine g_iload (pc := 29) C dX9_weighs_29 rfl ?_
        refine g_baload (pc := 31) C (blk hb 5 rfl) dX9_weighs_31 ?_
        refine g_if_eq (pc := 32) (tgt := 96) C dX9_weighs_32 rfl ?_ ?_
        · refine g_keep [true, true, true, true, false, true, false, true, false, false] ?_
          exact bX9_weighs_96 C hr b hb ih σ l1 l2 l3 l5 l7
        · refine g_lload_n (pc := 35) (i := 3) C dX9_weighs_35 rfl rfl ?_
          refine g_aload_n (pc := 36) (i := 0) C dX9_weighs_36 rfl rfl ?_
          refine g_iload (pc := 37) C dX9_weighs_37 rfl ?_
          refine g_iconst (pc := 39) (v := 3) C dX9_weighs_39 (by decide) ?_
          refine g_callVi (pc := 40) (As := [.int (l7), .int (3)]) C (kX9_its X σ b l7 3 hb) (blk hb 0 rfl) rfl q_20_12 q_20_13 q_20_14 q_1_5 q_20_15 ⟨rfl, hdX9_its⟩ ⟨Nat.le_of_ble_eq_true rfl, Nat.le_of_ble_eq_true rfl, rfl, rfl⟩ ⟨Nat.zero_le _, Nat.zero_le _⟩ (Nat.le_of_ble_eq_true rfl) rfl rfl dX9_weighs_40 (fun r4 _ => ?_)
          refine g_i2l (pc := 43) C dX9_weighs_43 ?_
          refine g_ladd (pc := 44) C dX9_weighs_44 ?_
          refine g_nml (fun v5 => ?_)
          refine g_lstore_n (pc := 45) (i := 3) C dX9_weighs_45 rfl (Nat.le_of_ble_eq_true rfl) rfl ?_
          refine g_bipush (pc := 46) (v := 100) C dX9_weighs_46 (by decide) ?_
          refine g_aload_n (pc := 48) (i := 0) C dX9_weighs_48 rfl rfl ?_
          refine g_getr (pc := 49) (ci := 9) (N := 27) (T := TX9) (j := 9) (Cn := RX9) (b + 7) C rfl inlX9 (Nat.le_of_ble_eq_true rfl) q_6_9 (blk hb 0 rfl) rfl dX9_weighs_49 ?_
          refine g_iconst (pc := 52) (v := 4) C dX9_weighs_52 (by decide) ?_
          refine g_iload (pc := 53) C dX9_weighs_53 rfl ?_
          refine g_imul (pc := 55) C dX9_weighs_55 ?_
          refine g_iconst (pc := 56) (v := 2) C dX9_weighs_56 (by decide) ?_
          refine g_iadd (pc := 57) C dX9_weighs_57 ?_
          refine g_iload_n (pc := 58) (i := 2) C dX9_weighs_58 rfl rfl ?_
          refine g_iadd (pc := 59) C dX9_weighs_59 ?_
          refine g_iaload (pc := 60) C (blk hb 7 rfl) dX9_weighs_60 ?_
          refine g_imul (pc := 61) C dX9_weighs_61 ?_
          refine g_nm (fun v6 => ?_)
          refine g_istore (pc := 62) C dX9_weighs_62 (Nat.le_of_ble_eq_true rfl) rfl ?_
          refine g_aload_n (pc := 64) (i := 0) C dX9_weighs_64 rfl rfl ?_
          refine g_iload (pc := 65) C dX9_weighs_65 rfl ?_
          refine g_iconst (pc := 67) (v := 3) C dX9_weighs_67 (by decide) ?_
          refine g_iload (pc := 68) C dX9_weighs_68 rfl ?_
          refine g_iconst (pc := 70) (v := 1) C dX9_weighs_70 (by decide) ?_
          refine g_icmp_le (pc := 71) (tgt := 79) C dX9_weighs_71 rfl ?_ ?_
          · refine g_iconst (pc := 79) (v := 1) C dX9_weighs_79 (by decide) ?_
            refine g_keep [true, true, true, true, false, true, false, true, false, false] ?_
            exact bX9_weighs_80 C hr b hb ih σ l1 l2 v5 l5 l7 l7 3 1
          · refine g_iload (pc := 74) C dX9_weighs_74 rfl ?_
            refine g_goto (pc := 76) (tgt := 80) C dX9_weighs_76 rfl ?_
            refine g_keep [true, true, true, true, false, true, false, true, false, false] ?_
            exact bX9_weighs_80 C hr b hb ih σ l1 l2 v5 l5 l7 l7 3 v6
      · refine g_keep [true, true, true, true, false, true, false, true, false, false] ?_
        exact bX9_weighs_96 C hr b hb ih σ l1 l2 l3 l5 l7
def fX9_weighs (σ : Sg) (b : Nat) (p1 : Int32) (p2 : Int32) : Option Sg :=
  nm ((0 : Int64)) fun v1 =>
  nm ((0 : Int64)) fun v2 =>
  (fX9_weighs_8 b FU σ p1 p2 v1 v2 0)
theorem kX9_weighs (X : Xc) (σ : Sg) (b : Nat) (p1 : Int32) (p2 : Int32) (hb : moOK b) : ∀ r, fX9_weighs σ b p1 p2 = some r → Met X.l yX9_weighs (wsM yX9_weighs cX9_weighs 10 none) rmX9_weighs (va_Pc [.ref (X.ad b), .int p1, .int p2] (PW X σ)) (Qv X r) 0 0 X.A := by
  refine mt_of (own := RX9) (lo := [some (.ref (X.ad b)), some (.int (p1)), some (.int (p2)), none, none, none, none, none, none, none]) (by decide) rfl (Nat.le_of_ble_eq_true rfl) rfl (fun K C hr => ?_)
  unfold fX9_weighs
  refine g_lconst (pc := 0) (v := 0) C dX9_weighs_0 (by decide) ?_
  refine g_nml (fun v1 => ?_)
  refine g_lstore_n (pc := 1) (i := 3) C dX9_weighs_1 rfl (Nat.le_of_ble_eq_true rfl) rfl ?_
  refine g_lconst (pc := 2) (v := 0) C dX9_weighs_2 (by decide) ?_
  refine g_nml (fun v2 => ?_)
  refine g_lstore (pc := 3) C dX9_weighs_3 (Nat.le_of_ble_eq_true rfl) rfl ?_
  refine g_iconst (pc := 5) (v := 0) C dX9_weighs_5 (by decide) ?_
  refine g_istore (pc := 6) C dX9_weighs_6 (Nat.le_of_ble_eq_true rfl) rfl ?_
  refine g_keep [true, true, true, true, false, true, false, true, false, false] ?_
  exact bX9_weighs_8 C hr b hb FU σ p1 p2 v1 v2 0
theorem dX9_drag_0 : decode cX9_drag 0 = .ok (.aload_n 0, 1) := by decide +kernel
theorem dX9_drag_1 : decode cX9_drag 1 = .ok (.iload_n 1, 1) := by decide +kernel
theorem dX9_drag_2 : decode cX9_drag 2 = .ok (.invokevirtual 144, 3) := by decide +kernel
theorem dX9_drag_5 : decode cX9_drag 5 = .ok (.istore 4, 2) := by decide +kernel
theorem dX9_drag_7 : decode cX9_drag 7 = .ok (.iload 4, 2) := by decide +kernel
theorem dX9_drag_9 : decode cX9_drag 9 = .ok (.ifCond .eq 29, 3) := by decide +kernel
theorem dX9_drag_12 : decode cX9_drag 12 = .ok (.iload_n 2, 1) := by decide +kernel
theorem dX9_drag_13 : decode cX9_drag 13 = .ok (.iconst 0, 1) := by decide +kernel
theorem dX9_drag_14 : decode cX9_drag 14 = .ok (.iconst 3, 1) := by decide +kernel
theorem dX9_drag_15 : decode cX9_drag 15 = .ok (.invokestatic 61, 3) := by decide +kernel
theorem dX9_drag_18 : decode cX9_drag 18 = .ok (.ifCond .eq 20, 3) := by decide +kernel
theorem dX9_drag_21 : decode cX9_drag 21 = .ok (.iload_n 3, 1) := by decide +kernel
theorem dX9_drag_22 : decode cX9_drag 22 = .ok (.sipush (-400), 3) := by decide +kernel
theorem dX9_drag_25 : decode cX9_drag 25 = .ok (.sipush 400, 3) := by decide +kernel
theorem dX9_drag_28 : decode cX9_drag 28 = .ok (.invokestatic 61, 3) := by decide +kernel
theorem dX9_drag_31 : decode cX9_drag 31 = .ok (.ifCond .eq 7, 3) := by decide +kernel
theorem dX9_drag_34 : decode cX9_drag 34 = .ok (.iconst 1, 1) := by decide +kernel
theorem dX9_drag_35 : decode cX9_drag 35 = .ok (.goto 4, 3) := by decide +kernel
theorem dX9_drag_38 : decode cX9_drag 38 = .ok (.iconst 0, 1) := by decide +kernel
theorem dX9_drag_39 : decode cX9_drag 39 = .ok (.istore 5, 2) := by decide +kernel
theorem dX9_drag_41 : decode cX9_drag 41 = .ok (.aload_n 0, 1) := by decide +kernel
theorem dX9_drag_42 : decode cX9_drag 42 = .ok (.invokevirtual 193, 3) := by decide +kernel
theorem dX9_drag_45 : decode cX9_drag 45 = .ok (.iload 5, 2) := by decide +kernel
theorem dX9_drag_47 : decode cX9_drag 47 = .ok (.ifCond .eq 43, 3) := by decide +kernel
theorem dX9_drag_50 : decode cX9_drag 50 = .ok (.aload_n 0, 1) := by decide +kernel
theorem dX9_drag_51 : decode cX9_drag 51 = .ok (.iload_n 1, 1) := by decide +kernel
theorem dX9_drag_52 : decode cX9_drag 52 = .ok (.invokevirtual 69, 3) := by decide +kernel
theorem dX9_drag_55 : decode cX9_drag 55 = .ok (.ifCond .eq 35, 3) := by decide +kernel
theorem dX9_drag_58 : decode cX9_drag 58 = .ok (.aload_n 0, 1) := by decide +kernel
theorem dX9_drag_59 : decode cX9_drag 59 = .ok (.getfield 22, 3) := by decide +kernel
theorem dX9_drag_62 : decode cX9_drag 62 = .ok (.aload_n 0, 1) := by decide +kernel
theorem dX9_drag_63 : decode cX9_drag 63 = .ok (.iload_n 1, 1) := by decide +kernel
theorem dX9_drag_64 : decode cX9_drag 64 = .ok (.iconst 3, 1) := by decide +kernel
theorem dX9_drag_65 : decode cX9_drag 65 = .ok (.invokevirtual 65, 3) := by decide +kernel
theorem dX9_drag_68 : decode cX9_drag 68 = .ok (.baload, 1) := by decide +kernel
theorem dX9_drag_69 : decode cX9_drag 69 = .ok (.ifCond .eq 21, 3) := by decide +kernel
theorem dX9_drag_72 : decode cX9_drag 72 = .ok (.aload_n 0, 1) := by decide +kernel
theorem dX9_drag_73 : decode cX9_drag 73 = .ok (.aload_n 0, 1) := by decide +kernel
theorem dX9_drag_74 : decode cX9_drag 74 = .ok (.iload_n 1, 1) := by decide +kernel
theorem dX9_drag_75 : decode cX9_drag 75 = .ok (.iconst 3, 1) := by decide +kernel
theorem dX9_drag_76 : decode cX9_drag 76 = .ok (.invokevirtual 65, 3) := by decide +kernel
theorem dX9_drag_79 : decode cX9_drag 79 = .ok (.iload_n 2, 1) := by decide +kernel
theorem dX9_drag_80 : decode cX9_drag 80 = .ok (.invokevirtual 232, 3) := by decide +kernel
theorem dX9_drag_83 : decode cX9_drag 83 = .ok (.ifCond .eq 7, 3) := by decide +kernel
theorem dX9_drag_86 : decode cX9_drag 86 = .ok (.iconst 1, 1) := by decide +kernel
theorem dX9_drag_87 : decode cX9_drag 87 = .ok (.goto 4, 3) := by decide +kernel
theorem dX9_drag_90 : decode cX9_drag 90 = .ok (.iconst 0, 1) := by decide +kernel
theorem dX9_drag_91 : decode cX9_drag 91 = .ok (.istore 6, 2) := by decide +kernel
theorem dX9_drag_93 : decode cX9_drag 93 = .ok (.aload_n 0, 1) := by decide +kernel
theorem dX9_drag_94 : decode cX9_drag 94 = .ok (.iload 4, 2) := by decide +kernel
theorem dX9_drag_96 : decode cX9_drag 96 = .ok (.ifCond .ne 7, 3) := by decide +kernel
theorem dX9_drag_99 : decode cX9_drag 99 = .ok (.iconst 1, 1) := by decide +kernel
theorem dX9_drag_100 : decode cX9_drag 100 = .ok (.goto 22, 3) := by decide +kernel
theorem dX9_drag_103 : decode cX9_drag 103 = .ok (.iload 5, 2) := by decide +kernel
theorem dX9_drag_105 : decode cX9_drag 105 = .ok (.ifCond .ne 7, 3) := by decide +kernel
theorem dX9_drag_108 : decode cX9_drag 108 = .ok (.iconst 2, 1) := by decide +kernel
theorem dX9_drag_109 : decode cX9_drag 109 = .ok (.goto 13, 3) := by decide +kernel
theorem dX9_drag_112 : decode cX9_drag 112 = .ok (.iload 6, 2) := by decide +kernel
theorem dX9_drag_114 : decode cX9_drag 114 = .ok (.ifCond .ne 7, 3) := by decide +kernel
theorem dX9_drag_117 : decode cX9_drag 117 = .ok (.iconst 3, 1) := by decide +kernel
theorem dX9_drag_118 : decode cX9_drag 118 = .ok (.goto 4, 3) := by decide +kernel
theorem dX9_drag_121 : decode cX9_drag 121 = .ok (.iconst 0, 1) := by decide +kernel
theorem dX9_drag_122 : decode cX9_drag 122 = .ok (.invokevirtual 57, 3) := by decide +kernel
theorem dX9_drag_125 : decode cX9_drag 125 = .ok (.ifCond .eq 5, 3) := by decide +kernel
theorem dX9_drag_128 : decode cX9_drag 128 = .ok (.iconst 0, 1) := by decide +kernel
theorem dX9_drag_129 : decode cX9_drag 129 = .ok (.ireturn, 1) := by decide +kernel
theorem dX9_drag_130 : decode cX9_drag 130 = .ok (.iload_n 2, 1) := by decide +kernel
theorem dX9_drag_131 : decode cX9_drag 131 = .ok (.iconst 2, 1) := by decide +kernel
theorem dX9_drag_132 : decode cX9_drag 132 = .ok (.idiv, 1) := by decide +kernel
theorem dX9_drag_133 : decode cX9_drag 133 = .ok (.istore 7, 2) := by decide +kernel
theorem dX9_drag_135 : decode cX9_drag 135 = .ok (.aload_n 0, 1) := by decide +kernel
theorem dX9_drag_136 : decode cX9_drag 136 = .ok (.getfield 26, 3) := by decide +kernel
theorem dX9_drag_139 : decode cX9_drag 139 = .ok (.iconst 2, 1) := by decide +kernel
theorem dX9_drag_140 : decode cX9_drag 140 = .ok (.aload_n 0, 1) := by decide +kernel
theorem dX9_drag_141 : decode cX9_drag 141 = .ok (.getfield 226, 3) := by decide +kernel
theorem dX9_drag_144 : decode cX9_drag 144 = .ok (.imul, 1) := by decide +kernel
theorem dX9_drag_145 : decode cX9_drag 145 = .ok (.iload 7, 2) := by decide +kernel
theorem dX9_drag_147 : decode cX9_drag 147 = .ok (.iadd, 1) := by decide +kernel
theorem dX9_drag_148 : decode cX9_drag 148 = .ok (.iaload, 1) := by decide +kernel
theorem dX9_drag_149 : decode cX9_drag 149 = .ok (.aload_n 0, 1) := by decide +kernel
theorem dX9_drag_150 : decode cX9_drag 150 = .ok (.getfield 29, 3) := by decide +kernel
theorem dX9_drag_153 : decode cX9_drag 153 = .ok (.iconst 4, 1) := by decide +kernel
theorem dX9_drag_154 : decode cX9_drag 154 = .ok (.aload_n 0, 1) := by decide +kernel
theorem dX9_drag_155 : decode cX9_drag 155 = .ok (.getfield 226, 3) := by decide +kernel
theorem dX9_drag_158 : decode cX9_drag 158 = .ok (.imul, 1) := by decide +kernel
theorem dX9_drag_159 : decode cX9_drag 159 = .ok (.iconst 2, 1) := by decide +kernel
theorem dX9_drag_160 : decode cX9_drag 160 = .ok (.iadd, 1) := by decide +kernel
theorem dX9_drag_161 : decode cX9_drag 161 = .ok (.iload 7, 2) := by decide +kernel
theorem dX9_drag_163 : decode cX9_drag 163 = .ok (.iadd, 1) := by decide +kernel
theorem dX9_drag_164 : decode cX9_drag 164 = .ok (.iaload, 1) := by decide +kernel
theorem dX9_drag_165 : decode cX9_drag 165 = .ok (.isub, 1) := by decide +kernel
theorem dX9_drag_166 : decode cX9_drag 166 = .ok (.istore 8, 2) := by decide +kernel
theorem dX9_drag_168 : decode cX9_drag 168 = .ok (.aload_n 0, 1) := by decide +kernel
theorem dX9_drag_169 : decode cX9_drag 169 = .ok (.getfield 29, 3) := by decide +kernel
theorem dX9_drag_172 : decode cX9_drag 172 = .ok (.iconst 4, 1) := by decide +kernel
theorem dX9_drag_173 : decode cX9_drag 173 = .ok (.aload_n 0, 1) := by decide +kernel
theorem dX9_drag_174 : decode cX9_drag 174 = .ok (.getfield 229, 3) := by decide +kernel
theorem dX9_drag_177 : decode cX9_drag 177 = .ok (.imul, 1) := by decide +kernel
theorem dX9_drag_178 : decode cX9_drag 178 = .ok (.iconst 2, 1) := by decide +kernel
theorem dX9_drag_179 : decode cX9_drag 179 = .ok (.iadd, 1) := by decide +kernel
theorem dX9_drag_180 : decode cX9_drag 180 = .ok (.iload 7, 2) := by decide +kernel
theorem dX9_drag_182 : decode cX9_drag 182 = .ok (.iadd, 1) := by decide +kernel
theorem dX9_drag_183 : decode cX9_drag 183 = .ok (.iaload, 1) := by decide +kernel
theorem dX9_drag_184 : decode cX9_drag 184 = .ok (.aload_n 0, 1) := by decide +kernel
theorem dX9_drag_185 : decode cX9_drag 185 = .ok (.getfield 26, 3) := by decide +kernel
theorem dX9_drag_188 : decode cX9_drag 188 = .ok (.iconst 2, 1) := by decide +kernel
theorem dX9_drag_189 : decode cX9_drag 189 = .ok (.aload_n 0, 1) := by decide +kernel
theorem dX9_drag_190 : decode cX9_drag 190 = .ok (.getfield 229, 3) := by decide +kernel
theorem dX9_drag_193 : decode cX9_drag 193 = .ok (.imul, 1) := by decide +kernel
theorem dX9_drag_194 : decode cX9_drag 194 = .ok (.iload 7, 2) := by decide +kernel
theorem dX9_drag_196 : decode cX9_drag 196 = .ok (.iadd, 1) := by decide +kernel
theorem dX9_drag_197 : decode cX9_drag 197 = .ok (.iaload, 1) := by decide +kernel
theorem dX9_drag_198 : decode cX9_drag 198 = .ok (.isub, 1) := by decide +kernel
theorem dX9_drag_199 : decode cX9_drag 199 = .ok (.istore 9, 2) := by decide +kernel
theorem dX9_drag_201 : decode cX9_drag 201 = .ok (.iload 8, 2) := by decide +kernel
theorem dX9_drag_203 : decode cX9_drag 203 = .ok (.ifCond .gt 8, 3) := by decide +kernel
theorem dX9_drag_206 : decode cX9_drag 206 = .ok (.iload 9, 2) := by decide +kernel
theorem dX9_drag_208 : decode cX9_drag 208 = .ok (.ifCond .ge 7, 3) := by decide +kernel
theorem dX9_drag_211 : decode cX9_drag 211 = .ok (.iconst 0, 1) := by decide +kernel
theorem dX9_drag_212 : decode cX9_drag 212 = .ok (.goto 26, 3) := by decide +kernel
theorem dX9_drag_215 : decode cX9_drag 215 = .ok (.iload_n 3, 1) := by decide +kernel
theorem dX9_drag_216 : decode cX9_drag 216 = .ok (.iload 8, 2) := by decide +kernel
theorem dX9_drag_218 : decode cX9_drag 218 = .ok (.if_icmp .ge 8, 3) := by decide +kernel
theorem dX9_drag_221 : decode cX9_drag 221 = .ok (.iload 8, 2) := by decide +kernel
theorem dX9_drag_223 : decode cX9_drag 223 = .ok (.goto 15, 3) := by decide +kernel
theorem dX9_drag_226 : decode cX9_drag 226 = .ok (.iload_n 3, 1) := by decide +kernel
theorem dX9_drag_227 : decode cX9_drag 227 = .ok (.iload 9, 2) := by decide +kernel
theorem dX9_drag_229 : decode cX9_drag 229 = .ok (.if_icmp .le 8, 3) := by decide +kernel
theorem dX9_drag_232 : decode cX9_drag 232 = .ok (.iload 9, 2) := by decide +kernel
theorem dX9_drag_234 : decode cX9_drag 234 = .ok (.goto 4, 3) := by decide +kernel
theorem dX9_drag_237 : decode cX9_drag 237 = .ok (.iload_n 3, 1) := by decide +kernel
theorem dX9_drag_238 : decode cX9_drag 238 = .ok (.istore 10, 2) := by decide +kernel
theorem dX9_drag_240 : decode cX9_drag 240 = .ok (.aload_n 0, 1) := by decide +kernel
theorem dX9_drag_241 : decode cX9_drag 241 = .ok (.invokevirtual 141, 3) := by decide +kernel
theorem dX9_drag_244 : decode cX9_drag 244 = .ok (.aload_n 0, 1) := by decide +kernel
theorem dX9_drag_245 : decode cX9_drag 245 = .ok (.getfield 29, 3) := by decide +kernel
theorem dX9_drag_248 : decode cX9_drag 248 = .ok (.iconst 4, 1) := by decide +kernel
theorem dX9_drag_249 : decode cX9_drag 249 = .ok (.aload_n 0, 1) := by decide +kernel
theorem dX9_drag_250 : decode cX9_drag 250 = .ok (.getfield 226, 3) := by decide +kernel
theorem dX9_drag_253 : decode cX9_drag 253 = .ok (.imul, 1) := by decide +kernel
theorem dX9_drag_254 : decode cX9_drag 254 = .ok (.iconst 2, 1) := by decide +kernel
theorem dX9_drag_255 : decode cX9_drag 255 = .ok (.iadd, 1) := by decide +kernel
theorem dX9_drag_256 : decode cX9_drag 256 = .ok (.iload 7, 2) := by decide +kernel
theorem dX9_drag_258 : decode cX9_drag 258 = .ok (.iadd, 1) := by decide +kernel
theorem dX9_drag_259 : decode cX9_drag 259 = .ok (.dup2, 1) := by decide +kernel
theorem dX9_drag_260 : decode cX9_drag 260 = .ok (.iaload, 1) := by decide +kernel
theorem dX9_drag_261 : decode cX9_drag 261 = .ok (.iload 10, 2) := by decide +kernel
theorem dX9_drag_263 : decode cX9_drag 263 = .ok (.iadd, 1) := by decide +kernel
theorem dX9_drag_264 : decode cX9_drag 264 = .ok (.iastore, 1) := by decide +kernel
theorem dX9_drag_265 : decode cX9_drag 265 = .ok (.aload_n 0, 1) := by decide +kernel
theorem dX9_drag_266 : decode cX9_drag 266 = .ok (.getfield 29, 3) := by decide +kernel
theorem dX9_drag_269 : decode cX9_drag 269 = .ok (.iconst 4, 1) := by decide +kernel
theorem dX9_drag_270 : decode cX9_drag 270 = .ok (.aload_n 0, 1) := by decide +kernel
theorem dX9_drag_271 : decode cX9_drag 271 = .ok (.getfield 229, 3) := by decide +kernel
theorem dX9_drag_274 : decode cX9_drag 274 = .ok (.imul, 1) := by decide +kernel
theorem dX9_drag_275 : decode cX9_drag 275 = .ok (.iconst 2, 1) := by decide +kernel
theorem dX9_drag_276 : decode cX9_drag 276 = .ok (.iadd, 1) := by decide +kernel
theorem dX9_drag_277 : decode cX9_drag 277 = .ok (.iload 7, 2) := by decide +kernel
theorem dX9_drag_279 : decode cX9_drag 279 = .ok (.iadd, 1) := by decide +kernel
theorem dX9_drag_280 : decode cX9_drag 280 = .ok (.dup2, 1) := by decide +kernel
theorem dX9_drag_281 : decode cX9_drag 281 = .ok (.iaload, 1) := by decide +kernel
theorem dX9_drag_282 : decode cX9_drag 282 = .ok (.iload 10, 2) := by decide +kernel
theorem dX9_drag_284 : decode cX9_drag 284 = .ok (.isub, 1) := by decide +kernel
theorem dX9_drag_285 : decode cX9_drag 285 = .ok (.iastore, 1) := by decide +kernel
theorem dX9_drag_286 : decode cX9_drag 286 = .ok (.aload_n 0, 1) := by decide +kernel
theorem dX9_drag_287 : decode cX9_drag 287 = .ok (.aload_n 0, 1) := by decide +kernel
theorem dX9_drag_288 : decode cX9_drag 288 = .ok (.aload_n 0, 1) := by decide +kernel
theorem dX9_drag_289 : decode cX9_drag 289 = .ok (.getfield 226, 3) := by decide +kernel
theorem dX9_drag_292 : decode cX9_drag 292 = .ok (.iconst 1, 1) := by decide +kernel
theorem dX9_drag_293 : decode cX9_drag 293 = .ok (.invokevirtual 76, 3) := by decide +kernel
theorem dX9_drag_296 : decode cX9_drag 296 = .ok (.iload 7, 2) := by decide +kernel
theorem dX9_drag_298 : decode cX9_drag 298 = .ok (.invokevirtual 235, 3) := by decide +kernel
theorem dX9_drag_301 : decode cX9_drag 301 = .ok (.iload 10, 2) := by decide +kernel
theorem dX9_drag_303 : decode cX9_drag 303 = .ok (.ireturn, 1) := by decide +kernel
abbrev rmX9_drag : Room := { frames := 8, cells := 0, slots := 0, locals := 205 }
theorem hdX9_drag : yX9_drag.cls ≠ "java/lang/invoke/MethodHandle" ∧ yX9_drag.cls ≠ "java/lang/invoke/VarHandle" ∧ (parseMethodDescriptor yX9_drag.desc).map (fun d => d.parameters.length) = some 3 := by decide +kernel
def fX9_drag_238 (b : Nat) (σ : Sg) (l7 : Int32) (s0 : Int32) : Option (Int32 × Sg) :=
  (fX9_saves σ b).bind fun σ13 =>
  nm (((4 * (σ13.1 b 13)) + 2) + l7) fun v14 =>
  if ck v14 96 then
    if ck v14 96 then
      nm (su σ13 (b + 7) v14.toNatClampNeg ((σ13.1 (b + 7) v14.toNatClampNeg) + s0)) fun σ15 =>
      nm (((4 * (σ15.1 b 14)) + 2) + l7) fun v16 =>
      if ck v16 96 then
        if ck v16 96 then
          nm (su σ15 (b + 7) v16.toNatClampNeg ((σ15.1 (b + 7) v16.toNatClampNeg) - s0)) fun σ17 =>
          (fX9_its σ17 b (σ17.1 b 13) 1).bind fun r18 =>
          (fX9_weighs σ17 b r18 l7).bind fun σ19 =>
          some (s0, σ19)
        else none
      else none
    else none
  else none
theorem bX9_drag_238 {X : Xc} {K : Kc} (C : MC X K cX9_drag 11 RX9 rmX9_drag) (hr : K.meth.sig.returnType = (some .int)) (b : Nat) (hb : moOK b) (σ : Sg) (l7 : Int32) (s0 : Int32) : GO X K 11 (fun r => MQi X K r.1 r.2) (fX9_drag_238 b σ l7 s0) σ 0 0 238 [some (.ref (X.ad b)), none, none, none, none, none, none, some (.int (l7)), none, none, none] [.int (s0)] := by
  unfold fX9_drag_238
  refine g_istore (pc := 238) C dX9_drag_238 (Nat.le_of_ble_eq_true rfl) rfl ?_
  refine g_aload_n (pc := 240) (i := 0) C dX9_drag_240 rfl rfl ?_
  refine g_callVv (pc := 241) (As := []) C (kX9_saves X σ b hb) (blk hb 0 rfl) rfl q_10_14 q_10_15 q_10_16 q_1_5 q_10_17 ⟨rfl, hdX9_saves⟩ ⟨Nat.le_of_ble_eq_true rfl, Nat.le_of_ble_eq_true rfl, rfl, rfl⟩ ⟨Nat.zero_le _, Nat.zero_le _⟩ (Nat.le_of_ble_eq_true rfl) rfl rfl dX9_drag_241 (fun σ13 _ => ?_)
  refine g_aload_n (pc := 244) (i := 0) C dX9_drag_244 rfl rfl ?_
  refine g_getr (pc := 245) (ci := 9) (N := 27) (T := TX9) (j := 9) (Cn := RX9) (b + 7) C rfl inlX9 (Nat.le_of_ble_eq_true rfl) q_6_9 (blk hb 0 rfl) rfl dX9_drag_245 ?_
  refine g_iconst (pc := 248) (v := 4) C dX9_drag_248 (by decide) ?_
  refine g_aload_n (pc := 249) (i := 0) C dX9_drag_249 rfl rfl ?_
  refine g_geti (pc := 250) (ci := 9) (N := 27) (T := TX9) (j := 13) (Cn := RX9) C rfl inlX9 (Nat.le_of_ble_eq_true rfl) q_42_2 (blk hb 0 rfl) rfl dX9_drag_250 ?_
  refine g_imul (pc := 253) C dX9_drag_253 ?_
  refine g_iconst (pc := 254) (v := 2) C dX9_drag_254 (by decide) ?_
  refine g_iadd (pc := 255) C dX9_drag_255 ?_
  refine g_iload (pc := 256) C dX9_drag_256 rfl ?_
  refine g_iadd (pc := 258) C dX9_drag_258 ?_
  refine g_nm (fun v14 => ?_)
  refine g_dup2 (pc := 259) C dX9_drag_259 rfl rfl ?_
  refine g_iaload (pc := 260) C (blk hb 7 rfl) dX9_drag_260 ?_
  refine g_iload (pc := 261) C dX9_drag_261 rfl ?_
  refine g_iadd (pc := 263) C dX9_drag_263 ?_
  refine g_iastore (pc := 264) C (blk hb 7 rfl) dX9_drag_264 ?_
  refine g_nms (fun σ15 => ?_)
  refine g_aload_n (pc := 265) (i := 0) C dX9_drag_265 rfl rfl ?_
  refine g_getr (pc := 266) (ci := 9) (N := 27) (T := TX9) (j := 9) (Cn := RX9) (b + 7) C rfl inlX9 (Nat.le_of_ble_eq_true rfl) q_6_9 (blk hb 0 rfl) rfl dX9_drag_266 ?_
  refine g_iconst (pc := 269) (v := 4) C dX9_drag_269 (by decide) ?_
  refine g_aload_n (pc := 270) (i := 0) C dX9_drag_270 rfl rfl ?_
  refine g_geti (pc := 271) (ci := 9) (N := 27) (T := TX9) (j := 14) (Cn := RX9) C rfl inlX9 (Nat.le_of_ble_eq_true rfl) q_42_3 (blk hb 0 rfl) rfl dX9_drag_271 ?_
  refine g_imul (pc := 274) C dX9_drag_274 ?_
  refine g_iconst (pc := 275) (v := 2) C dX9_drag_275 (by decide) ?_
  refine g_iadd (pc := 276) C dX9_drag_276 ?_
  refine g_iload (pc := 277) C dX9_drag_277 rfl ?_
  refine g_iadd (pc := 279) C dX9_drag_279 ?_
  refine g_nm (fun v16 => ?_)
  refine g_dup2 (pc := 280) C dX9_drag_280 rfl rfl ?_
  refine g_iaload (pc := 281) C (blk hb 7 rfl) dX9_drag_281 ?_
  refine g_iload (pc := 282) C dX9_drag_282 rfl ?_
  refine g_isub (pc := 284) C dX9_drag_284 ?_
  refine g_iastore (pc := 285) C (blk hb 7 rfl) dX9_drag_285 ?_
  refine g_nms (fun σ17 => ?_)
  refine g_aload_n (pc := 286) (i := 0) C dX9_drag_286 rfl rfl ?_
  refine g_aload_n (pc := 287) (i := 0) C dX9_drag_287 rfl rfl ?_
  refine g_aload_n (pc := 288) (i := 0) C dX9_drag_288 rfl rfl ?_
  refine g_geti (pc := 289) (ci := 9) (N := 27) (T := TX9) (j := 13) (Cn := RX9) C rfl inlX9 (Nat.le_of_ble_eq_true rfl) q_42_2 (blk hb 0 rfl) rfl dX9_drag_289 ?_
  refine g_iconst (pc := 292) (v := 1) C dX9_drag_292 (by decide) ?_
  refine g_callVi (pc := 293) (As := [.int (σ17.1 b 13), .int (1)]) C (kX9_its X σ17 b (σ17.1 b 13) 1 hb) (blk hb 0 rfl) rfl q_20_12 q_20_13 q_20_14 q_1_5 q_20_15 ⟨rfl, hdX9_its⟩ ⟨Nat.le_of_ble_eq_true rfl, Nat.le_of_ble_eq_true rfl, rfl, rfl⟩ ⟨Nat.zero_le _, Nat.zero_le _⟩ (Nat.le_of_ble_eq_true rfl) rfl rfl dX9_drag_293 (fun r18 _ => ?_)
  refine g_iload (pc := 296) C dX9_drag_296 rfl ?_
  refine g_callVv (pc := 298) (As := [.int (r18), .int (l7)]) C (kX9_weighs X σ17 b r18 l7 hb) (blk hb 0 rfl) rfl q_42_8 q_42_9 q_42_10 q_1_5 q_42_11 ⟨rfl, hdX9_weighs⟩ ⟨Nat.le_of_ble_eq_true rfl, Nat.le_of_ble_eq_true rfl, rfl, rfl⟩ ⟨Nat.zero_le _, Nat.zero_le _⟩ (Nat.le_of_ble_eq_true rfl) rfl rfl dX9_drag_298 (fun σ19 _ => ?_)
  refine g_iload (pc := 301) C dX9_drag_301 rfl ?_
  exact g_iret (pc := 303) C hr dX9_drag_303 rfl
def fX9_drag_211 (b : Nat) (σ : Sg) (l7 : Int32) : Option (Int32 × Sg) :=
  (fX9_drag_238 b σ l7 0)
theorem bX9_drag_211 {X : Xc} {K : Kc} (C : MC X K cX9_drag 11 RX9 rmX9_drag) (hr : K.meth.sig.returnType = (some .int)) (b : Nat) (hb : moOK b) (σ : Sg) (l7 : Int32) : GO X K 11 (fun r => MQi X K r.1 r.2) (fX9_drag_211 b σ l7) σ 0 0 211 [some (.ref (X.ad b)), none, none, none, none, none, none, some (.int (l7)), none, none, none] [] := by
  unfold fX9_drag_211
  refine g_iconst (pc := 211) (v := 0) C dX9_drag_211 (by decide) ?_
  refine g_goto (pc := 212) (tgt := 238) C dX9_drag_212 rfl ?_
  refine g_keep [true, false, false, false, false, false, false, true, false, false, false] ?_
  exact bX9_drag_238 C hr b hb σ l7 0
def fX9_drag_122 (b : Nat) (σ : Sg) (l2 : Int32) (l3 : Int32) (s1 : Int32) : Option (Int32 × Sg) :=
  (fX9_refused σ b s1).bind fun r9 =>
  if r9.1 = true then
    some (0, r9.2)
  else
    nm (l2 / 2) fun v10 =>
    if ck ((2 * (r9.2.1 b 13)) + v10) 48 then
      if ck (((4 * (r9.2.1 b 13)) + 2) + v10) 96 then
        nm ((r9.2.1 (b + 6) ((2 * (r9.2.1 b 13)) + v10).toNatClampNeg) - (r9.2.1 (b + 7) (((4 * (r9.2.1 b 13)) + 2) + v10).toNatClampNeg)) fun v11 =>
        if ck (((4 * (r9.2.1 b 14)) + 2) + v10) 96 then
          if ck ((2 * (r9.2.1 b 14)) + v10) 48 then
            nm ((r9.2.1 (b + 7) (((4 * (r9.2.1 b 14)) + 2) + v10).toNatClampNeg) - (r9.2.1 (b + 6) ((2 * (r9.2.1 b 14)) + v10).toNatClampNeg)) fun v12 =>
            if 0 < v11 then
              (fX9_drag_211 b r9.2 v10)
            else
              if 0 ≤ v12 then
                if v11 ≤ l3 then
                  if l3 ≤ v12 then
                    (fX9_drag_238 b r9.2 v10 l3)
                  else
                    (fX9_drag_238 b r9.2 v10 v12)
                else
                  (fX9_drag_238 b r9.2 v10 v11)
              else
                (fX9_drag_211 b r9.2 v10)
          else none
        else none
      else none
    else none
theorem bX9_drag_122 {X : Xc} {K : Kc} (C : MC X K cX9_drag 11 RX9 rmX9_drag) (hr : K.meth.sig.returnType = (some .int)) (b : Nat) (hb : moOK b) (σ : Sg) (l2 : Int32) (l3 : Int32) (s1 : Int32) : GO X K 11 (fun r => MQi X K r.1 r.2) (fX9_drag_122 b σ l2 l3 s1) σ 0 0 122 [some (.ref (X.ad b)), none, some (.int (l2)), some (.int (l3)), none, none, none, none, none, none, none] [.int (s1), .ref (X.ad b)] := by
  unfold fX9_drag_122
  refine g_callVi (pc := 122) (As := [.int (s1)]) C (kX9_refused X σ b s1 hb) (blk hb 0 rfl) rfl q_10_9 q_10_10 q_10_11 q_1_5 q_10_12 ⟨rfl, hdX9_refused⟩ ⟨Nat.le_of_ble_eq_true rfl, Nat.le_of_ble_eq_true rfl, rfl, rfl⟩ ⟨Nat.zero_le _, Nat.zero_le _⟩ (Nat.le_of_ble_eq_true rfl) rfl rfl dX9_drag_122 (fun r9 _ => ?_)
  refine g_ifb_eq (pc := 125) (tgt := 130) C dX9_drag_125 rfl ?_ ?_
  · refine g_iconst (pc := 128) (v := 0) C dX9_drag_128 (by decide) ?_
    exact g_iret (pc := 129) C hr dX9_drag_129 rfl
  · refine g_iload_n (pc := 130) (i := 2) C dX9_drag_130 rfl rfl ?_
    refine g_iconst (pc := 131) (v := 2) C dX9_drag_131 (by decide) ?_
    refine g_idivc (pc := 132) C dX9_drag_132 (by decide) ?_
    refine g_nm (fun v10 => ?_)
    refine g_istore (pc := 133) C dX9_drag_133 (Nat.le_of_ble_eq_true rfl) rfl ?_
    refine g_aload_n (pc := 135) (i := 0) C dX9_drag_135 rfl rfl ?_
    refine g_getr (pc := 136) (ci := 9) (N := 27) (T := TX9) (j := 8) (Cn := RX9) (b + 6) C rfl inlX9 (Nat.le_of_ble_eq_true rfl) q_6_8 (blk hb 0 rfl) rfl dX9_drag_136 ?_
    refine g_iconst (pc := 139) (v := 2) C dX9_drag_139 (by decide) ?_
    refine g_aload_n (pc := 140) (i := 0) C dX9_drag_140 rfl rfl ?_
    refine g_geti (pc := 141) (ci := 9) (N := 27) (T := TX9) (j := 13) (Cn := RX9) C rfl inlX9 (Nat.le_of_ble_eq_true rfl) q_42_2 (blk hb 0 rfl) rfl dX9_drag_141 ?_
    refine g_imul (pc := 144) C dX9_drag_144 ?_
    refine g_iload (pc := 145) C dX9_drag_145 rfl ?_
    refine g_iadd (pc := 147) C dX9_drag_147 ?_
    refine g_iaload (pc := 148) C (blk hb 6 rfl) dX9_drag_148 ?_
    refine g_aload_n (pc := 149) (i := 0) C dX9_drag_149 rfl rfl ?_
    refine g_getr (pc := 150) (ci := 9) (N := 27) (T := TX9) (j := 9) (Cn := RX9) (b + 7) C rfl inlX9 (Nat.le_of_ble_eq_true rfl) q_6_9 (blk hb 0 rfl) rfl dX9_drag_150 ?_
    refine g_iconst (pc := 153) (v := 4) C dX9_drag_153 (by decide) ?_
    refine g_aload_n (pc := 154) (i := 0) C dX9_drag_154 rfl rfl ?_
    refine g_geti (pc := 155) (ci := 9) (N := 27) (T := TX9) (j := 13) (Cn := RX9) C rfl inlX9 (Nat.le_of_ble_eq_true rfl) q_42_2 (blk hb 0 rfl) rfl dX9_drag_155 ?_
    refine g_imul (pc := 158) C dX9_drag_158 ?_
    refine g_iconst (pc := 159) (v := 2) C dX9_drag_159 (by decide) ?_
    refine g_iadd (pc := 160) C dX9_drag_160 ?_
    refine g_iload (pc := 161) C dX9_drag_161 rfl ?_
    refine g_iadd (pc := 163) C dX9_drag_163 ?_
    refine g_iaload (pc := 164) C (blk hb 7 rfl) dX9_drag_164 ?_
    refine g_isub (pc := 165) C dX9_drag_165 ?_
    refine g_nm (fun v11 => ?_)
    refine g_istore (pc := 166) C dX9_drag_166 (Nat.le_of_ble_eq_true rfl) rfl ?_
    refine g_aload_n (pc := 168) (i := 0) C dX9_drag_168 rfl rfl ?_
    refine g_getr (pc := 169) (ci := 9) (N := 27) (T := TX9) (j := 9) (Cn := RX9) (b + 7) C rfl inlX9 (Nat.le_of_ble_eq_true rfl) q_6_9 (blk hb 0 rfl) rfl dX9_drag_169 ?_
    refine g_iconst (pc := 172) (v := 4) C dX9_drag_172 (by decide) ?_
    refine g_aload_n (pc := 173) (i := 0) C dX9_drag_173 rfl rfl ?_
    refine g_geti (pc := 174) (ci := 9) (N := 27) (T := TX9) (j := 14) (Cn := RX9) C rfl inlX9 (Nat.le_of_ble_eq_true rfl) q_42_3 (blk hb 0 rfl) rfl dX9_drag_174 ?_
    refine g_imul (pc := 177) C dX9_drag_177 ?_
    refine g_iconst (pc := 178) (v := 2) C dX9_drag_178 (by decide) ?_
    refine g_iadd (pc := 179) C dX9_drag_179 ?_
    refine g_iload (pc := 180) C dX9_drag_180 rfl ?_
    refine g_iadd (pc := 182) C dX9_drag_182 ?_
    refine g_iaload (pc := 183) C (blk hb 7 rfl) dX9_drag_183 ?_
    refine g_aload_n (pc := 184) (i := 0) C dX9_drag_184 rfl rfl ?_
    refine g_getr (pc := 185) (ci := 9) (N := 27) (T := TX9) (j := 8) (Cn := RX9) (b + 6) C rfl inlX9 (Nat.le_of_ble_eq_true rfl) q_6_8 (blk hb 0 rfl) rfl dX9_drag_185 ?_
    refine g_iconst (pc := 188) (v := 2) C dX9_drag_188 (by decide) ?_
    refine g_aload_n (pc := 189) (i := 0) C dX9_drag_189 rfl rfl ?_
    refine g_geti (pc := 190) (ci := 9) (N := 27) (T := TX9) (j := 14) (Cn := RX9) C rfl inlX9 (Nat.le_of_ble_eq_true rfl) q_42_3 (blk hb 0 rfl) rfl dX9_drag_190 ?_
    refine g_imul (pc := 193) C dX9_drag_193 ?_
    refine g_iload (pc := 194) C dX9_drag_194 rfl ?_
    refine g_iadd (pc := 196) C dX9_drag_196 ?_
    refine g_iaload (pc := 197) C (blk hb 6 rfl) dX9_drag_197 ?_
    refine g_isub (pc := 198) C dX9_drag_198 ?_
    refine g_nm (fun v12 => ?_)
    refine g_istore (pc := 199) C dX9_drag_199 (Nat.le_of_ble_eq_true rfl) rfl ?_
    refine g_iload (pc := 201) C dX9_drag_201 rfl ?_
    refine g_if_gt (pc := 203) (tgt := 211) C dX9_drag_203 rfl ?_ ?_
    · refine g_keep [true, false, false, false, false, false, false, true, false, false, false] ?_
      exact bX9_drag_211 C hr b hb r9.2 v10
    · refine g_iload (pc := 206) C dX9_drag_206 rfl ?_
      refine g_if_ge (pc := 208) (tgt := 215) C dX9_drag_208 rfl ?_ ?_
      · refine g_iload_n (pc := 215) (i := 3) C dX9_drag_215 rfl rfl ?_
        refine g_iload (pc := 216) C dX9_drag_216 rfl ?_
        refine g_icmp_ge (pc := 218) (tgt := 226) C dX9_drag_218 rfl ?_ ?_
        · refine g_iload_n (pc := 226) (i := 3) C dX9_drag_226 rfl rfl ?_
          refine g_iload (pc := 227) C dX9_drag_227 rfl ?_
          refine g_icmp_le (pc := 229) (tgt := 237) C dX9_drag_229 rfl ?_ ?_
          · refine g_iload_n (pc := 237) (i := 3) C dX9_drag_237 rfl rfl ?_
            refine g_keep [true, false, false, false, false, false, false, true, false, false, false] ?_
            exact bX9_drag_238 C hr b hb r9.2 v10 l3
          · refine g_iload (pc := 232) C dX9_drag_232 rfl ?_
            refine g_goto (pc := 234) (tgt := 238) C dX9_drag_234 rfl ?_
            refine g_keep [true, false, false, false, false, false, false, true, false, false, false] ?_
            exact bX9_drag_238 C hr b hb r9.2 v10 v12
        · refine g_iload (pc := 221) C dX9_drag_221 rfl ?_
          refine g_goto (pc := 223) (tgt := 238) C dX9_drag_223 rfl ?_
          refine g_keep [true, false, false, false, false, false, false, true, false, false, false] ?_
          exact bX9_drag_238 C hr b hb r9.2 v10 v11
      · refine g_keep [true, false, false, false, false, false, false, true, false, false, false] ?_
        exact bX9_drag_211 C hr b hb r9.2 v10
def fX9_drag_91 (b : Nat) (σ : Sg) (l2 : Int32) (l3 : Int32) (l4 : Int32) (l5 : Int32) (s0 : Int32) : Option (Int32 × Sg) :=
  if l4 = 0 then
    (fX9_drag_122 b σ l2 l3 1)
  else
    if l5 = 0 then
      (fX9_drag_122 b σ l2 l3 2)
    else
      if s0 = 0 then
        (fX9_drag_122 b σ l2 l3 3)
      else
        (fX9_drag_122 b σ l2 l3 0)
theorem bX9_drag_91 {X : Xc} {K : Kc} (C : MC X K cX9_drag 11 RX9 rmX9_drag) (hr : K.meth.sig.returnType = (some .int)) (b : Nat) (hb : moOK b) (σ : Sg) (l2 : Int32) (l3 : Int32) (l4 : Int32) (l5 : Int32) (s0 : Int32) : GO X K 11 (fun r => MQi X K r.1 r.2) (fX9_drag_91 b σ l2 l3 l4 l5 s0) σ 0 0 91 [some (.ref (X.ad b)), none, some (.int (l2)), some (.int (l3)), some (.int (l4)), some (.int (l5)), none, none, none, none, none] [.int (s0)] := by
  unfold fX9_drag_91
  refine g_istore (pc := 91) C dX9_drag_91 (Nat.le_of_ble_eq_true rfl) rfl ?_
  refine g_aload_n (pc := 93) (i := 0) C dX9_drag_93 rfl rfl ?_
  refine g_iload (pc := 94) C dX9_drag_94 rfl ?_
  refine g_if_ne (pc := 96) (tgt := 103) C dX9_drag_96 rfl ?_ ?_
  · refine g_iconst (pc := 99) (v := 1) C dX9_drag_99 (by decide) ?_
    refine g_goto (pc := 100) (tgt := 122) C dX9_drag_100 rfl ?_
    refine g_keep [true, false, true, true, false, false, false, false, false, false, false] ?_
    exact bX9_drag_122 C hr b hb σ l2 l3 1
  · refine g_iload (pc := 103) C dX9_drag_103 rfl ?_
    refine g_if_ne (pc := 105) (tgt := 112) C dX9_drag_105 rfl ?_ ?_
    · refine g_iconst (pc := 108) (v := 2) C dX9_drag_108 (by decide) ?_
      refine g_goto (pc := 109) (tgt := 122) C dX9_drag_109 rfl ?_
      refine g_keep [true, false, true, true, false, false, false, false, false, false, false] ?_
      exact bX9_drag_122 C hr b hb σ l2 l3 2
    · refine g_iload (pc := 112) C dX9_drag_112 rfl ?_
      refine g_if_ne (pc := 114) (tgt := 121) C dX9_drag_114 rfl ?_ ?_
      · refine g_iconst (pc := 117) (v := 3) C dX9_drag_117 (by decide) ?_
        refine g_goto (pc := 118) (tgt := 122) C dX9_drag_118 rfl ?_
        refine g_keep [true, false, true, true, false, false, false, false, false, false, false] ?_
        exact bX9_drag_122 C hr b hb σ l2 l3 3
      · refine g_iconst (pc := 121) (v := 0) C dX9_drag_121 (by decide) ?_
        refine g_keep [true, false, true, true, false, false, false, false, false, false, false] ?_
        exact bX9_drag_122 C hr b hb σ l2 l3 0
def fX9_drag_90 (b : Nat) (σ : Sg) (l2 : Int32) (l3 : Int32) (l4 : Int32) (l5 : Int32) : Option (Int32 × Sg) :=
  (fX9_drag_91 b σ l2 l3 l4 l5 0)
theorem bX9_drag_90 {X : Xc} {K : Kc} (C : MC X K cX9_drag 11 RX9 rmX9_drag) (hr : K.meth.sig.returnType = (some .int)) (b : Nat) (hb : moOK b) (σ : Sg) (l2 : Int32) (l3 : Int32) (l4 : Int32) (l5 : Int32) : GO X K 11 (fun r => MQi X K r.1 r.2) (fX9_drag_90 b σ l2 l3 l4 l5) σ 0 0 90 [some (.ref (X.ad b)), none, some (.int (l2)), some (.int (l3)), some (.int (l4)), some (.int (l5)), none, none, none, none, none] [] := by
  unfold fX9_drag_90
  refine g_iconst (pc := 90) (v := 0) C dX9_drag_90 (by decide) ?_
  refine g_keep [true, false, true, true, true, true, false, false, false, false, false] ?_
  exact bX9_drag_91 C hr b hb σ l2 l3 l4 l5 0
def fX9_drag_39 (b : Nat) (σ : Sg) (l1 : Int32) (l2 : Int32) (l3 : Int32) (l4 : Int32) (s0 : Int32) : Option (Int32 × Sg) :=
  (fX9_lays σ b).bind fun σ4 =>
  if s0 = 0 then
    (fX9_drag_90 b σ4 l2 l3 l4 s0)
  else
    (fX9_isPlaced σ4 b l1).bind fun r5 =>
    if r5 = true then
      (fX9_of σ4 b l1 3).bind fun r6 =>
      if ck r6 24 then
        if (σ4.1 (b + 5) r6.toNatClampNeg) = 0 then
          (fX9_drag_90 b σ4 l2 l3 l4 s0)
        else
          (fX9_of σ4 b l1 3).bind fun r7 =>
          (fX9_hasDivider σ4 b r7 l2).bind fun r8 =>
          if r8.1 = true then
            (fX9_drag_91 b r8.2 l2 l3 l4 s0 1)
          else
            (fX9_drag_90 b r8.2 l2 l3 l4 s0)
      else none
    else
      (fX9_drag_90 b σ4 l2 l3 l4 s0)
theorem bX9_drag_39 {X : Xc} {K : Kc} (C : MC X K cX9_drag 11 RX9 rmX9_drag) (hr : K.meth.sig.returnType = (some .int)) (b : Nat) (hb : moOK b) (σ : Sg) (l1 : Int32) (l2 : Int32) (l3 : Int32) (l4 : Int32) (s0 : Int32) : GO X K 11 (fun r => MQi X K r.1 r.2) (fX9_drag_39 b σ l1 l2 l3 l4 s0) σ 0 0 39 [some (.ref (X.ad b)), some (.int (l1)), some (.int (l2)), some (.int (l3)), some (.int (l4)), none, none, none, none, none, none] [.int (s0)] := by
  unfold fX9_drag_39
  refine g_istore (pc := 39) C dX9_drag_39 (Nat.le_of_ble_eq_true rfl) rfl ?_
  refine g_aload_n (pc := 41) (i := 0) C dX9_drag_41 rfl rfl ?_
  refine g_callVv (pc := 42) (As := []) C (kX9_lays X σ b hb) (blk hb 0 rfl) rfl q_26_21 q_26_22 q_26_23 q_1_5 q_27_0 ⟨rfl, hdX9_lays⟩ ⟨Nat.le_of_ble_eq_true rfl, Nat.le_of_ble_eq_true rfl, rfl, rfl⟩ ⟨Nat.zero_le _, Nat.zero_le _⟩ (Nat.le_of_ble_eq_true rfl) rfl rfl dX9_drag_42 (fun σ4 _ => ?_)
  refine g_iload (pc := 45) C dX9_drag_45 rfl ?_
  refine g_if_eq (pc := 47) (tgt := 90) C dX9_drag_47 rfl ?_ ?_
  · refine g_keep [true, false, true, true, true, true, false, false, false, false, false] ?_
    exact bX9_drag_90 C hr b hb σ4 l2 l3 l4 s0
  · refine g_aload_n (pc := 50) (i := 0) C dX9_drag_50 rfl rfl ?_
    refine g_iload_n (pc := 51) (i := 1) C dX9_drag_51 rfl rfl ?_
    refine g_callVi (pc := 52) (As := [.int (l1)]) C (kX9_isPlaced X σ4 b l1 hb) (blk hb 0 rfl) rfl q_20_0 q_20_1 q_20_2 q_1_5 q_20_3 ⟨rfl, hdX9_isPlaced⟩ ⟨Nat.le_of_ble_eq_true rfl, Nat.le_of_ble_eq_true rfl, rfl, rfl⟩ ⟨Nat.zero_le _, Nat.zero_le _⟩ (Nat.le_of_ble_eq_true rfl) rfl rfl dX9_drag_52 (fun r5 _ => ?_)
    refine g_ifb_eq (pc := 55) (tgt := 90) C dX9_drag_55 rfl ?_ ?_
    · refine g_aload_n (pc := 58) (i := 0) C dX9_drag_58 rfl rfl ?_
      refine g_getr (pc := 59) (ci := 9) (N := 27) (T := TX9) (j := 7) (Cn := RX9) (b + 5) C rfl inlX9 (Nat.le_of_ble_eq_true rfl) q_6_7 (blk hb 0 rfl) rfl dX9_drag_59 ?_
      refine g_aload_n (pc := 62) (i := 0) C dX9_drag_62 rfl rfl ?_
      refine g_iload_n (pc := 63) (i := 1) C dX9_drag_63 rfl rfl ?_
      refine g_iconst (pc := 64) (v := 3) C dX9_drag_64 (by decide) ?_
      refine g_callVi (pc := 65) (As := [.int (l1), .int (3)]) C (kX9_of X σ4 b l1 3 hb) (blk hb 0 rfl) rfl q_10_2 q_10_3 q_10_4 q_1_5 q_10_5 ⟨rfl, hdX9_of⟩ ⟨Nat.le_of_ble_eq_true rfl, Nat.le_of_ble_eq_true rfl, rfl, rfl⟩ ⟨Nat.zero_le _, Nat.zero_le _⟩ (Nat.le_of_ble_eq_true rfl) rfl rfl dX9_drag_65 (fun r6 _ => ?_)
      refine g_baload (pc := 68) C (blk hb 5 rfl) dX9_drag_68 ?_
      refine g_if_eq (pc := 69) (tgt := 90) C dX9_drag_69 rfl ?_ ?_
      · refine g_keep [true, false, true, true, true, true, false, false, false, false, false] ?_
        exact bX9_drag_90 C hr b hb σ4 l2 l3 l4 s0
      · refine g_aload_n (pc := 72) (i := 0) C dX9_drag_72 rfl rfl ?_
        refine g_aload_n (pc := 73) (i := 0) C dX9_drag_73 rfl rfl ?_
        refine g_iload_n (pc := 74) (i := 1) C dX9_drag_74 rfl rfl ?_
        refine g_iconst (pc := 75) (v := 3) C dX9_drag_75 (by decide) ?_
        refine g_callVi (pc := 76) (As := [.int (l1), .int (3)]) C (kX9_of X σ4 b l1 3 hb) (blk hb 0 rfl) rfl q_10_2 q_10_3 q_10_4 q_1_5 q_10_5 ⟨rfl, hdX9_of⟩ ⟨Nat.le_of_ble_eq_true rfl, Nat.le_of_ble_eq_true rfl, rfl, rfl⟩ ⟨Nat.zero_le _, Nat.zero_le _⟩ (Nat.le_of_ble_eq_true rfl) rfl rfl dX9_drag_76 (fun r7 _ => ?_)
        refine g_iload_n (pc := 79) (i := 2) C dX9_drag_79 rfl rfl ?_
        refine g_callVi (pc := 80) (As := [.int (r7), .int (l2)]) C (kX9_hasDivider X σ4 b r7 l2 hb) (blk hb 0 rfl) rfl q_42_4 q_42_5 q_42_6 q_1_5 q_42_7 ⟨rfl, hdX9_hasDivider⟩ ⟨Nat.le_of_ble_eq_true rfl, Nat.le_of_ble_eq_true rfl, rfl, rfl⟩ ⟨Nat.zero_le _, Nat.zero_le _⟩ (Nat.le_of_ble_eq_true rfl) rfl rfl dX9_drag_80 (fun r8 _ => ?_)
        refine g_ifb_eq (pc := 83) (tgt := 90) C dX9_drag_83 rfl ?_ ?_
        · refine g_iconst (pc := 86) (v := 1) C dX9_drag_86 (by decide) ?_
          refine g_goto (pc := 87) (tgt := 91) C dX9_drag_87 rfl ?_
          refine g_keep [true, false, true, true, true, true, false, false, false, false, false] ?_
          exact bX9_drag_91 C hr b hb r8.2 l2 l3 l4 s0 1
        · refine g_keep [true, false, true, true, true, true, false, false, false, false, false] ?_
          exact bX9_drag_90 C hr b hb r8.2 l2 l3 l4 s0
    · refine g_keep [true, false, true, true, true, true, false, false, false, false, false] ?_
      exact bX9_drag_90 C hr b hb σ4 l2 l3 l4 s0
def fX9_drag_38 (b : Nat) (σ : Sg) (l1 : Int32) (l2 : Int32) (l3 : Int32) (l4 : Int32) : Option (Int32 × Sg) :=
  (fX9_drag_39 b σ l1 l2 l3 l4 0)
theorem bX9_drag_38 {X : Xc} {K : Kc} (C : MC X K cX9_drag 11 RX9 rmX9_drag) (hr : K.meth.sig.returnType = (some .int)) (b : Nat) (hb : moOK b) (σ : Sg) (l1 : Int32) (l2 : Int32) (l3 : Int32) (l4 : Int32) : GO X K 11 (fun r => MQi X K r.1 r.2) (fX9_drag_38 b σ l1 l2 l3 l4) σ 0 0 38 [some (.ref (X.ad b)), some (.int (l1)), some (.int (l2)), some (.int (l3)), some (.int (l4)), none, none, none, none, none, none] [] := by
  unfold fX9_drag_38
  refine g_iconst (pc := 38) (v := 0) C dX9_drag_38 (by decide) ?_
  refine g_keep [true, true, true, true, true, false, false, false, false, false, false] ?_
  exact bX9_drag_39 C hr b hb σ l1 l2 l3 l4 0
def fX9_drag (σ : Sg) (b : Nat) (p1 : Int32) (p2 : Int32) (p3 : Int32) : Option (Int32 × Sg) :=
  (fX9_isPane σ b p1).bind fun r1 =>
  if r1 = true then
    (fX9_within σ p2 0 3).bind fun r2 =>
    if r2 = true then
      (fX9_within σ p3 (-400) 400).bind fun r3 =>
      if r3 = true then
        (fX9_drag_39 b σ p1 p2 p3 (b2i r1) 1)
      else
        (fX9_drag_38 b σ p1 p2 p3 (b2i r1))
    else
      (fX9_drag_38 b σ p1 p2 p3 (b2i r1))
  else
    (fX9_drag_38 b σ p1 p2 p3 (b2i r1))
theorem kX9_drag (X : Xc) (σ : Sg) (b : Nat) (p1 : Int32) (p2 : Int32) (p3 : Int32) (hb : moOK b) : ∀ r, fX9_drag σ b p1 p2 p3 = some r → Met X.l yX9_drag (wsM yX9_drag cX9_drag 11 (some .int)) rmX9_drag (va_Pc [.ref (X.ad b), .int p1, .int p2, .int p3] (PW X σ)) (Qi X r.1 r.2) 0 0 X.A := by
  refine mt_of (own := RX9) (lo := [some (.ref (X.ad b)), some (.int (p1)), some (.int (p2)), some (.int (p3)), none, none, none, none, none, none, none]) (by decide) rfl (Nat.le_of_ble_eq_true rfl) rfl (fun K C hr => ?_)
  unfold fX9_drag
  refine g_aload_n (pc := 0) (i := 0) C dX9_drag_0 rfl rfl ?_
  refine g_iload_n (pc := 1) (i := 1) C dX9_drag_1 rfl rfl ?_
  refine g_callVi (pc := 2) (As := [.int (p1)]) C (kX9_isPane X σ b p1 hb) (blk hb 0 rfl) rfl q_19_16 q_19_17 q_19_18 q_1_5 q_19_19 ⟨rfl, hdX9_isPane⟩ ⟨Nat.le_of_ble_eq_true rfl, Nat.le_of_ble_eq_true rfl, rfl, rfl⟩ ⟨Nat.zero_le _, Nat.zero_le _⟩ (Nat.le_of_ble_eq_true rfl) rfl rfl dX9_drag_2 (fun r1 _ => ?_)
  refine g_istore (pc := 5) C dX9_drag_5 (Nat.le_of_ble_eq_true rfl) rfl ?_
  refine g_iload (pc := 7) C dX9_drag_7 rfl ?_
  refine g_ifb_eq (pc := 9) (tgt := 38) C dX9_drag_9 rfl ?_ ?_
  · refine g_iload_n (pc := 12) (i := 2) C dX9_drag_12 rfl rfl ?_
    refine g_iconst (pc := 13) (v := 0) C dX9_drag_13 (by decide) ?_
    refine g_iconst (pc := 14) (v := 3) C dX9_drag_14 (by decide) ?_
    refine g_callSi (pc := 15) (As := [.int (p2), .int (0), .int (3)]) C (kX9_within X σ p2 0 3) q_10_6 q_10_7 q_1_5 q_10_8 hdX9_within ⟨Nat.le_of_ble_eq_true rfl, Nat.le_of_ble_eq_true rfl, rfl, rfl⟩ ⟨Nat.zero_le _, Nat.zero_le _⟩ (Nat.le_of_ble_eq_true rfl) rfl rfl dX9_drag_15 (fun r2 _ => ?_)
    refine g_ifb_eq (pc := 18) (tgt := 38) C dX9_drag_18 rfl ?_ ?_
    · refine g_iload_n (pc := 21) (i := 3) C dX9_drag_21 rfl rfl ?_
      refine g_sipush (pc := 22) (v := (-400)) C dX9_drag_22 (by decide) ?_
      refine g_sipush (pc := 25) (v := 400) C dX9_drag_25 (by decide) ?_
      refine g_callSi (pc := 28) (As := [.int (p3), .int ((-400)), .int (400)]) C (kX9_within X σ p3 (-400) 400) q_10_6 q_10_7 q_1_5 q_10_8 hdX9_within ⟨Nat.le_of_ble_eq_true rfl, Nat.le_of_ble_eq_true rfl, rfl, rfl⟩ ⟨Nat.zero_le _, Nat.zero_le _⟩ (Nat.le_of_ble_eq_true rfl) rfl rfl dX9_drag_28 (fun r3 _ => ?_)
      refine g_ifb_eq (pc := 31) (tgt := 38) C dX9_drag_31 rfl ?_ ?_
      · refine g_iconst (pc := 34) (v := 1) C dX9_drag_34 (by decide) ?_
        refine g_goto (pc := 35) (tgt := 39) C dX9_drag_35 rfl ?_
        refine g_keep [true, true, true, true, true, false, false, false, false, false, false] ?_
        exact bX9_drag_39 C hr b hb σ p1 p2 p3 (b2i r1) 1
      · refine g_keep [true, true, true, true, true, false, false, false, false, false, false] ?_
        exact bX9_drag_38 C hr b hb σ p1 p2 p3 (b2i r1)
    · refine g_keep [true, true, true, true, true, false, false, false, false, false, false] ?_
      exact bX9_drag_38 C hr b hb σ p1 p2 p3 (b2i r1)
  · refine g_keep [true, true, true, true, true, false, false, false, false, false, false] ?_
    exact bX9_drag_38 C hr b hb σ p1 p2 p3 (b2i r1)
theorem dX9_even_0 : decode cX9_even 0 = .ok (.aload_n 0, 1) := by decide +kernel
theorem dX9_even_1 : decode cX9_even 1 = .ok (.iload_n 1, 1) := by decide +kernel
theorem dX9_even_2 : decode cX9_even 2 = .ok (.invokevirtual 144, 3) := by decide +kernel
theorem dX9_even_5 : decode cX9_even 5 = .ok (.istore_n 2, 1) := by decide +kernel
theorem dX9_even_6 : decode cX9_even 6 = .ok (.iload_n 2, 1) := by decide +kernel
theorem dX9_even_7 : decode cX9_even 7 = .ok (.ifCond .eq 30, 3) := by decide +kernel
theorem dX9_even_10 : decode cX9_even 10 = .ok (.aload_n 0, 1) := by decide +kernel
theorem dX9_even_11 : decode cX9_even 11 = .ok (.iload_n 1, 1) := by decide +kernel
theorem dX9_even_12 : decode cX9_even 12 = .ok (.invokevirtual 69, 3) := by decide +kernel
theorem dX9_even_15 : decode cX9_even 15 = .ok (.ifCond .eq 22, 3) := by decide +kernel
theorem dX9_even_18 : decode cX9_even 18 = .ok (.aload_n 0, 1) := by decide +kernel
theorem dX9_even_19 : decode cX9_even 19 = .ok (.aload_n 0, 1) := by decide +kernel
theorem dX9_even_20 : decode cX9_even 20 = .ok (.iload_n 1, 1) := by decide +kernel
theorem dX9_even_21 : decode cX9_even 21 = .ok (.iconst 3, 1) := by decide +kernel
theorem dX9_even_22 : decode cX9_even 22 = .ok (.invokevirtual 65, 3) := by decide +kernel
theorem dX9_even_25 : decode cX9_even 25 = .ok (.iconst 1, 1) := by decide +kernel
theorem dX9_even_26 : decode cX9_even 26 = .ok (.invokevirtual 76, 3) := by decide +kernel
theorem dX9_even_29 : decode cX9_even 29 = .ok (.iconst (-1), 1) := by decide +kernel
theorem dX9_even_30 : decode cX9_even 30 = .ok (.if_icmp .eq 7, 3) := by decide +kernel
theorem dX9_even_33 : decode cX9_even 33 = .ok (.iconst 1, 1) := by decide +kernel
theorem dX9_even_34 : decode cX9_even 34 = .ok (.goto 4, 3) := by decide +kernel
theorem dX9_even_37 : decode cX9_even 37 = .ok (.iconst 0, 1) := by decide +kernel
theorem dX9_even_38 : decode cX9_even 38 = .ok (.istore_n 3, 1) := by decide +kernel
theorem dX9_even_39 : decode cX9_even 39 = .ok (.aload_n 0, 1) := by decide +kernel
theorem dX9_even_40 : decode cX9_even 40 = .ok (.iload_n 2, 1) := by decide +kernel
theorem dX9_even_41 : decode cX9_even 41 = .ok (.ifCond .ne 7, 3) := by decide +kernel
theorem dX9_even_44 : decode cX9_even 44 = .ok (.iconst 1, 1) := by decide +kernel
theorem dX9_even_45 : decode cX9_even 45 = .ok (.goto 12, 3) := by decide +kernel
theorem dX9_even_48 : decode cX9_even 48 = .ok (.iload_n 3, 1) := by decide +kernel
theorem dX9_even_49 : decode cX9_even 49 = .ok (.ifCond .ne 7, 3) := by decide +kernel
theorem dX9_even_52 : decode cX9_even 52 = .ok (.iconst 2, 1) := by decide +kernel
theorem dX9_even_53 : decode cX9_even 53 = .ok (.goto 4, 3) := by decide +kernel
theorem dX9_even_56 : decode cX9_even 56 = .ok (.iconst 0, 1) := by decide +kernel
theorem dX9_even_57 : decode cX9_even 57 = .ok (.invokevirtual 57, 3) := by decide +kernel
theorem dX9_even_60 : decode cX9_even 60 = .ok (.ifCond .eq 5, 3) := by decide +kernel
theorem dX9_even_63 : decode cX9_even 63 = .ok (.iconst 0, 1) := by decide +kernel
theorem dX9_even_64 : decode cX9_even 64 = .ok (.ireturn, 1) := by decide +kernel
theorem dX9_even_65 : decode cX9_even 65 = .ok (.aload_n 0, 1) := by decide +kernel
theorem dX9_even_66 : decode cX9_even 66 = .ok (.aload_n 0, 1) := by decide +kernel
theorem dX9_even_67 : decode cX9_even 67 = .ok (.iload_n 1, 1) := by decide +kernel
theorem dX9_even_68 : decode cX9_even 68 = .ok (.iconst 3, 1) := by decide +kernel
theorem dX9_even_69 : decode cX9_even 69 = .ok (.invokevirtual 65, 3) := by decide +kernel
theorem dX9_even_72 : decode cX9_even 72 = .ok (.iconst 1, 1) := by decide +kernel
theorem dX9_even_73 : decode cX9_even 73 = .ok (.invokevirtual 76, 3) := by decide +kernel
theorem dX9_even_76 : decode cX9_even 76 = .ok (.istore 4, 2) := by decide +kernel
theorem dX9_even_78 : decode cX9_even 78 = .ok (.aload_n 0, 1) := by decide +kernel
theorem dX9_even_79 : decode cX9_even 79 = .ok (.invokevirtual 141, 3) := by decide +kernel
theorem dX9_even_82 : decode cX9_even 82 = .ok (.iconst 0, 1) := by decide +kernel
theorem dX9_even_83 : decode cX9_even 83 = .ok (.istore 5, 2) := by decide +kernel
theorem dX9_even_85 : decode cX9_even 85 = .ok (.iload 5, 2) := by decide +kernel
theorem dX9_even_87 : decode cX9_even 87 = .ok (.bipush 24, 2) := by decide +kernel
theorem dX9_even_89 : decode cX9_even 89 = .ok (.if_icmp .ge 30, 3) := by decide +kernel
theorem dX9_even_92 : decode cX9_even 92 = .ok (.aload_n 0, 1) := by decide +kernel
theorem dX9_even_93 : decode cX9_even 93 = .ok (.iload 5, 2) := by decide +kernel
theorem dX9_even_95 : decode cX9_even 95 = .ok (.iload 4, 2) := by decide +kernel
theorem dX9_even_97 : decode cX9_even 97 = .ok (.invokevirtual 83, 3) := by decide +kernel
theorem dX9_even_100 : decode cX9_even 100 = .ok (.ifCond .eq 13, 3) := by decide +kernel
theorem dX9_even_103 : decode cX9_even 103 = .ok (.aload_n 0, 1) := by decide +kernel
theorem dX9_even_104 : decode cX9_even 104 = .ok (.iload 5, 2) := by decide +kernel
theorem dX9_even_106 : decode cX9_even 106 = .ok (.iconst 3, 1) := by decide +kernel
theorem dX9_even_107 : decode cX9_even 107 = .ok (.sipush 1000, 3) := by decide +kernel
theorem dX9_even_110 : decode cX9_even 110 = .ok (.invokevirtual 79, 3) := by decide +kernel
theorem dX9_even_113 : decode cX9_even 113 = .ok (.iinc 5 1, 3) := by decide +kernel
theorem dX9_even_116 : decode cX9_even 116 = .ok (.goto (-31), 3) := by decide +kernel
theorem dX9_even_119 : decode cX9_even 119 = .ok (.aload_n 0, 1) := by decide +kernel
theorem dX9_even_120 : decode cX9_even 120 = .ok (.iload 4, 2) := by decide +kernel
theorem dX9_even_122 : decode cX9_even 122 = .ok (.invokevirtual 113, 3) := by decide +kernel
theorem dX9_even_125 : decode cX9_even 125 = .ok (.ireturn, 1) := by decide +kernel
abbrev rmX9_even : Room := { frames := 3, cells := 0, slots := 0, locals := 67 }
theorem hdX9_even : yX9_even.cls ≠ "java/lang/invoke/MethodHandle" ∧ yX9_even.cls ≠ "java/lang/invoke/VarHandle" ∧ (parseMethodDescriptor yX9_even.desc).map (fun d => d.parameters.length) = some 1 := by decide +kernel
def fX9_even_113 (b : Nat) (k85 : Sg → Int32 → Int32 → Option (Int32 × Sg)) (σ : Sg) (l4 : Int32) (l5 : Int32) : Option (Int32 × Sg) :=
  (k85 σ l4 (l5 + 1))
theorem bX9_even_113 {X : Xc} {K : Kc} (C : MC X K cX9_even 6 RX9 rmX9_even) (hr : K.meth.sig.returnType = (some .int)) (b : Nat) (hb : moOK b){k85 : Sg → Int32 → Int32 → Option (Int32 × Sg)} (hk85 : ∀ (σ : Sg) (l4 : Int32) (l5 : Int32), GO X K 6 (fun r => MQi X K r.1 r.2) (k85 σ l4 l5) σ 0 0 85 [some (.ref (X.ad b)), none, none, none, some (.int (l4)), some (.int (l5))] []) (σ : Sg) (l4 : Int32) (l5 : Int32) : GO X K 6 (fun r => MQi X K r.1 r.2) (fX9_even_113 b k85 σ l4 l5) σ 0 0 113 [some (.ref (X.ad b)), none, none, none, some (.int (l4)), some (.int (l5))] [] := by
  unfold fX9_even_113
  refine g_iinc (pc := 113) (v := l5 + 1) C dX9_even_113 rfl (rfl) (Nat.le_of_ble_eq_true rfl) rfl ?_
  refine g_goto (pc := 116) (tgt := 85) C dX9_even_116 rfl ?_
  refine g_keep [true, false, false, false, true, true] ?_
  exact hk85 σ l4 (l5 + 1)
def fX9_even_85 (b : Nat) : Nat → Sg → Int32 → Int32 → Option (Int32 × Sg)
  | 0, _, _, _ => none
  | n + 1, σ, l4, l5 =>
    if 24 ≤ l5 then
      (fX9_childMany σ b l4).bind fun r9 =>
      some (r9, σ)
    else
      (fX9_isChild σ b l5 l4).bind fun r10 =>
      if r10 = true then
        (fX9_lay σ b l5 3 1000).bind fun σ11 =>
        (fX9_even_113 b (fX9_even_85 b n) σ11 l4 l5)
      else
        (fX9_even_113 b (fX9_even_85 b n) σ l4 l5)
theorem bX9_even_85 {X : Xc} {K : Kc} (C : MC X K cX9_even 6 RX9 rmX9_even) (hr : K.meth.sig.returnType = (some .int)) (b : Nat) (hb : moOK b) : ∀ (n : Nat) (σ : Sg) (l4 : Int32) (l5 : Int32), GO X K 6 (fun r => MQi X K r.1 r.2) (fX9_even_85 b n σ l4 l5) σ 0 0 85 [some (.ref (X.ad b)), none, none, none, some (.int (l4)), some (.int (l5))] [] := by
  intro n
  induction n with
  | zero =>
    intro σ l4 l5
    exact g_none
  | succ n ih =>
    intro σ l4 l5
    unfold fX9_even_85
    refine g_iload (pc := 85) C dX9_even_85 rfl ?_
    refine g_bipush (pc := 87) (v := 24) C dX9_even_87 (by decide) ?_
    refine g_icmp_ge (pc := 89) (tgt := 119) C dX9_even_89 rfl ?_ ?_
    · refine g_aload_n (pc := 119) (i := 0) C dX9_even_119 rfl rfl ?_
      refine g_iload (pc := 120) C dX9_even_120 rfl ?_
      refine g_callVi (pc := 122) (As := [.int (l4)]) C (kX9_childMany X σ b l4 hb) (blk hb 0 rfl) rfl q_21_16 q_21_17 q_21_18 q_1_5 q_21_19 ⟨rfl, hdX9_childMany⟩ ⟨Nat.le_of_ble_eq_true rfl, Nat.le_of_ble_eq_true rfl, rfl, rfl⟩ ⟨Nat.zero_le _, Nat.zero_le _⟩ (Nat.le_of_ble_eq_true rfl) rfl rfl dX9_even_122 (fun r9 _ => ?_)
      exact g_iret (pc := 125) C hr dX9_even_125 rfl
    · refine g_aload_n (pc := 92) (i := 0) C dX9_even_92 rfl rfl ?_
      refine g_iload (pc := 93) C dX9_even_93 rfl ?_
      refine g_iload (pc := 95) C dX9_even_95 rfl ?_
      refine g_callVi (pc := 97) (As := [.int (l5), .int (l4)]) C (kX9_isChild X σ b l5 l4 hb) (blk hb 0 rfl) rfl q_21_8 q_21_9 q_21_10 q_1_5 q_21_11 ⟨rfl, hdX9_isChild⟩ ⟨Nat.le_of_ble_eq_true rfl, Nat.le_of_ble_eq_true rfl, rfl, rfl⟩ ⟨Nat.zero_le _, Nat.zero_le _⟩ (Nat.le_of_ble_eq_true rfl) rfl rfl dX9_even_97 (fun r10 _ => ?_)
      refine g_ifb_eq (pc := 100) (tgt := 113) C dX9_even_100 rfl ?_ ?_
      · refine g_aload_n (pc := 103) (i := 0) C dX9_even_103 rfl rfl ?_
        refine g_iload (pc := 104) C dX9_even_104 rfl ?_
        refine g_iconst (pc := 106) (v := 3) C dX9_even_106 (by decide) ?_
        refine g_sipush (pc := 107) (v := 1000) C dX9_even_107 (by decide) ?_
        refine g_callVv (pc := 110) (As := [.int (l5), .int (3), .int (1000)]) C (kX9_lay X σ b l5 3 1000 hb) (blk hb 0 rfl) rfl q_21_0 q_21_1 q_21_2 q_1_5 q_21_3 ⟨rfl, hdX9_lay⟩ ⟨Nat.le_of_ble_eq_true rfl, Nat.le_of_ble_eq_true rfl, rfl, rfl⟩ ⟨Nat.zero_le _, Nat.zero_le _⟩ (Nat.le_of_ble_eq_true rfl) rfl rfl dX9_even_110 (fun σ11 _ => ?_)
        refine g_keep [true, false, false, false, true, true] ?_
        exact bX9_even_113 C hr b hb ih σ11 l4 l5
      · refine g_keep [true, false, false, false, true, true] ?_
        exact bX9_even_113 C hr b hb ih σ l4 l5
def fX9_even_57 (b : Nat) (σ : Sg) (l1 : Int32) (s1 : Int32) : Option (Int32 × Sg) :=
  (fX9_refused σ b s1).bind fun r5 =>
  if r5.1 = true then
    some (0, r5.2)
  else
    (fX9_of r5.2 b l1 3).bind fun r6 =>
    (fX9_its r5.2 b r6 1).bind fun r7 =>
    (fX9_saves r5.2 b).bind fun σ8 =>
    (fX9_even_85 b FU σ8 r7 0)
theorem bX9_even_57 {X : Xc} {K : Kc} (C : MC X K cX9_even 6 RX9 rmX9_even) (hr : K.meth.sig.returnType = (some .int)) (b : Nat) (hb : moOK b) (σ : Sg) (l1 : Int32) (s1 : Int32) : GO X K 6 (fun r => MQi X K r.1 r.2) (fX9_even_57 b σ l1 s1) σ 0 0 57 [some (.ref (X.ad b)), some (.int (l1)), none, none, none, none] [.int (s1), .ref (X.ad b)] := by
  unfold fX9_even_57
  refine g_callVi (pc := 57) (As := [.int (s1)]) C (kX9_refused X σ b s1 hb) (blk hb 0 rfl) rfl q_10_9 q_10_10 q_10_11 q_1_5 q_10_12 ⟨rfl, hdX9_refused⟩ ⟨Nat.le_of_ble_eq_true rfl, Nat.le_of_ble_eq_true rfl, rfl, rfl⟩ ⟨Nat.zero_le _, Nat.zero_le _⟩ (Nat.le_of_ble_eq_true rfl) rfl rfl dX9_even_57 (fun r5 _ => ?_)
  refine g_ifb_eq (pc := 60) (tgt := 65) C dX9_even_60 rfl ?_ ?_
  · refine g_iconst (pc := 63) (v := 0) C dX9_even_63 (by decide) ?_
    exact g_iret (pc := 64) C hr dX9_even_64 rfl
  · refine g_aload_n (pc := 65) (i := 0) C dX9_even_65 rfl rfl ?_
    refine g_aload_n (pc := 66) (i := 0) C dX9_even_66 rfl rfl ?_
    refine g_iload_n (pc := 67) (i := 1) C dX9_even_67 rfl rfl ?_
    refine g_iconst (pc := 68) (v := 3) C dX9_even_68 (by decide) ?_
    refine g_callVi (pc := 69) (As := [.int (l1), .int (3)]) C (kX9_of X r5.2 b l1 3 hb) (blk hb 0 rfl) rfl q_10_2 q_10_3 q_10_4 q_1_5 q_10_5 ⟨rfl, hdX9_of⟩ ⟨Nat.le_of_ble_eq_true rfl, Nat.le_of_ble_eq_true rfl, rfl, rfl⟩ ⟨Nat.zero_le _, Nat.zero_le _⟩ (Nat.le_of_ble_eq_true rfl) rfl rfl dX9_even_69 (fun r6 _ => ?_)
    refine g_iconst (pc := 72) (v := 1) C dX9_even_72 (by decide) ?_
    refine g_callVi (pc := 73) (As := [.int (r6), .int (1)]) C (kX9_its X r5.2 b r6 1 hb) (blk hb 0 rfl) rfl q_20_12 q_20_13 q_20_14 q_1_5 q_20_15 ⟨rfl, hdX9_its⟩ ⟨Nat.le_of_ble_eq_true rfl, Nat.le_of_ble_eq_true rfl, rfl, rfl⟩ ⟨Nat.zero_le _, Nat.zero_le _⟩ (Nat.le_of_ble_eq_true rfl) rfl rfl dX9_even_73 (fun r7 _ => ?_)
    refine g_istore (pc := 76) C dX9_even_76 (Nat.le_of_ble_eq_true rfl) rfl ?_
    refine g_aload_n (pc := 78) (i := 0) C dX9_even_78 rfl rfl ?_
    refine g_callVv (pc := 79) (As := []) C (kX9_saves X r5.2 b hb) (blk hb 0 rfl) rfl q_10_14 q_10_15 q_10_16 q_1_5 q_10_17 ⟨rfl, hdX9_saves⟩ ⟨Nat.le_of_ble_eq_true rfl, Nat.le_of_ble_eq_true rfl, rfl, rfl⟩ ⟨Nat.zero_le _, Nat.zero_le _⟩ (Nat.le_of_ble_eq_true rfl) rfl rfl dX9_even_79 (fun σ8 _ => ?_)
    refine g_iconst (pc := 82) (v := 0) C dX9_even_82 (by decide) ?_
    refine g_istore (pc := 83) C dX9_even_83 (Nat.le_of_ble_eq_true rfl) rfl ?_
    refine g_keep [true, false, false, false, true, true] ?_
    exact bX9_even_85 C hr b hb FU σ8 r7 0
def fX9_even_38 (b : Nat) (σ : Sg) (l1 : Int32) (l2 : Int32) (s0 : Int32) : Option (Int32 × Sg) :=
  if l2 = 0 then
    (fX9_even_57 b σ l1 1)
  else
    if s0 = 0 then
      (fX9_even_57 b σ l1 2)
    else
      (fX9_even_57 b σ l1 0)
theorem bX9_even_38 {X : Xc} {K : Kc} (C : MC X K cX9_even 6 RX9 rmX9_even) (hr : K.meth.sig.returnType = (some .int)) (b : Nat) (hb : moOK b) (σ : Sg) (l1 : Int32) (l2 : Int32) (s0 : Int32) : GO X K 6 (fun r => MQi X K r.1 r.2) (fX9_even_38 b σ l1 l2 s0) σ 0 0 38 [some (.ref (X.ad b)), some (.int (l1)), some (.int (l2)), none, none, none] [.int (s0)] := by
  unfold fX9_even_38
  refine g_istore_n (pc := 38) (i := 3) C dX9_even_38 rfl (Nat.le_of_ble_eq_true rfl) rfl ?_
  refine g_aload_n (pc := 39) (i := 0) C dX9_even_39 rfl rfl ?_
  refine g_iload_n (pc := 40) (i := 2) C dX9_even_40 rfl rfl ?_
  refine g_if_ne (pc := 41) (tgt := 48) C dX9_even_41 rfl ?_ ?_
  · refine g_iconst (pc := 44) (v := 1) C dX9_even_44 (by decide) ?_
    refine g_goto (pc := 45) (tgt := 57) C dX9_even_45 rfl ?_
    refine g_keep [true, true, false, false, false, false] ?_
    exact bX9_even_57 C hr b hb σ l1 1
  · refine g_iload_n (pc := 48) (i := 3) C dX9_even_48 rfl rfl ?_
    refine g_if_ne (pc := 49) (tgt := 56) C dX9_even_49 rfl ?_ ?_
    · refine g_iconst (pc := 52) (v := 2) C dX9_even_52 (by decide) ?_
      refine g_goto (pc := 53) (tgt := 57) C dX9_even_53 rfl ?_
      refine g_keep [true, true, false, false, false, false] ?_
      exact bX9_even_57 C hr b hb σ l1 2
    · refine g_iconst (pc := 56) (v := 0) C dX9_even_56 (by decide) ?_
      refine g_keep [true, true, false, false, false, false] ?_
      exact bX9_even_57 C hr b hb σ l1 0
def fX9_even_37 (b : Nat) (σ : Sg) (l1 : Int32) (l2 : Int32) : Option (Int32 × Sg) :=
  (fX9_even_38 b σ l1 l2 0)
theorem bX9_even_37 {X : Xc} {K : Kc} (C : MC X K cX9_even 6 RX9 rmX9_even) (hr : K.meth.sig.returnType = (some .int)) (b : Nat) (hb : moOK b) (σ : Sg) (l1 : Int32) (l2 : Int32) : GO X K 6 (fun r => MQi X K r.1 r.2) (fX9_even_37 b σ l1 l2) σ 0 0 37 [some (.ref (X.ad b)), some (.int (l1)), some (.int (l2)), none, none, none] [] := by
  unfold fX9_even_37
  refine g_iconst (pc := 37) (v := 0) C dX9_even_37 (by decide) ?_
  refine g_keep [true, true, true, false, false, false] ?_
  exact bX9_even_38 C hr b hb σ l1 l2 0
def fX9_even (σ : Sg) (b : Nat) (p1 : Int32) : Option (Int32 × Sg) :=
  (fX9_isPane σ b p1).bind fun r1 =>
  if r1 = true then
    (fX9_isPlaced σ b p1).bind fun r2 =>
    if r2 = true then
      (fX9_of σ b p1 3).bind fun r3 =>
      (fX9_its σ b r3 1).bind fun r4 =>
      if r4 = (-1) then
        (fX9_even_37 b σ p1 (b2i r1))
      else
        (fX9_even_38 b σ p1 (b2i r1) 1)
    else
      (fX9_even_37 b σ p1 (b2i r1))
  else
    (fX9_even_37 b σ p1 (b2i r1))
theorem kX9_even (X : Xc) (σ : Sg) (b : Nat) (p1 : Int32) (hb : moOK b) : ∀ r, fX9_even σ b p1 = some r → Met X.l yX9_even (wsM yX9_even cX9_even 6 (some .int)) rmX9_even (va_Pc [.ref (X.ad b), .int p1] (PW X σ)) (Qi X r.1 r.2) 0 0 X.A := by
  refine mt_of (own := RX9) (lo := [some (.ref (X.ad b)), some (.int (p1)), none, none, none, none]) (by decide) rfl (Nat.le_of_ble_eq_true rfl) rfl (fun K C hr => ?_)
  unfold fX9_even
  refine g_aload_n (pc := 0) (i := 0) C dX9_even_0 rfl rfl ?_
  refine g_iload_n (pc := 1) (i := 1) C dX9_even_1 rfl rfl ?_
  refine g_callVi (pc := 2) (As := [.int (p1)]) C (kX9_isPane X σ b p1 hb) (blk hb 0 rfl) rfl q_19_16 q_19_17 q_19_18 q_1_5 q_19_19 ⟨rfl, hdX9_isPane⟩ ⟨Nat.le_of_ble_eq_true rfl, Nat.le_of_ble_eq_true rfl, rfl, rfl⟩ ⟨Nat.zero_le _, Nat.zero_le _⟩ (Nat.le_of_ble_eq_true rfl) rfl rfl dX9_even_2 (fun r1 _ => ?_)
  refine g_istore_n (pc := 5) (i := 2) C dX9_even_5 rfl (Nat.le_of_ble_eq_true rfl) rfl ?_
  refine g_iload_n (pc := 6) (i := 2) C dX9_even_6 rfl rfl ?_
  refine g_ifb_eq (pc := 7) (tgt := 37) C dX9_even_7 rfl ?_ ?_
  · refine g_aload_n (pc := 10) (i := 0) C dX9_even_10 rfl rfl ?_
    refine g_iload_n (pc := 11) (i := 1) C dX9_even_11 rfl rfl ?_
    refine g_callVi (pc := 12) (As := [.int (p1)]) C (kX9_isPlaced X σ b p1 hb) (blk hb 0 rfl) rfl q_20_0 q_20_1 q_20_2 q_1_5 q_20_3 ⟨rfl, hdX9_isPlaced⟩ ⟨Nat.le_of_ble_eq_true rfl, Nat.le_of_ble_eq_true rfl, rfl, rfl⟩ ⟨Nat.zero_le _, Nat.zero_le _⟩ (Nat.le_of_ble_eq_true rfl) rfl rfl dX9_even_12 (fun r2 _ => ?_)
    refine g_ifb_eq (pc := 15) (tgt := 37) C dX9_even_15 rfl ?_ ?_
    · refine g_aload_n (pc := 18) (i := 0) C dX9_even_18 rfl rfl ?_
      refine g_aload_n (pc := 19) (i := 0) C dX9_even_19 rfl rfl ?_
      refine g_iload_n (pc := 20) (i := 1) C dX9_even_20 rfl rfl ?_
      refine g_iconst (pc := 21) (v := 3) C dX9_even_21 (by decide) ?_
      refine g_callVi (pc := 22) (As := [.int (p1), .int (3)]) C (kX9_of X σ b p1 3 hb) (blk hb 0 rfl) rfl q_10_2 q_10_3 q_10_4 q_1_5 q_10_5 ⟨rfl, hdX9_of⟩ ⟨Nat.le_of_ble_eq_true rfl, Nat.le_of_ble_eq_true rfl, rfl, rfl⟩ ⟨Nat.zero_le _, Nat.zero_le _⟩ (Nat.le_of_ble_eq_true rfl) rfl rfl dX9_even_22 (fun r3 _ => ?_)
      refine g_iconst (pc := 25) (v := 1) C dX9_even_25 (by decide) ?_
      refine g_callVi (pc := 26) (As := [.int (r3), .int (1)]) C (kX9_its X σ b r3 1 hb) (blk hb 0 rfl) rfl q_20_12 q_20_13 q_20_14 q_1_5 q_20_15 ⟨rfl, hdX9_its⟩ ⟨Nat.le_of_ble_eq_true rfl, Nat.le_of_ble_eq_true rfl, rfl, rfl⟩ ⟨Nat.zero_le _, Nat.zero_le _⟩ (Nat.le_of_ble_eq_true rfl) rfl rfl dX9_even_26 (fun r4 _ => ?_)
      refine g_iconst (pc := 29) (v := (-1)) C dX9_even_29 (by decide) ?_
      refine g_icmp_eq (pc := 30) (tgt := 37) C dX9_even_30 rfl ?_ ?_
      · refine g_keep [true, true, true, false, false, false] ?_
        exact bX9_even_37 C hr b hb σ p1 (b2i r1)
      · refine g_iconst (pc := 33) (v := 1) C dX9_even_33 (by decide) ?_
        refine g_goto (pc := 34) (tgt := 38) C dX9_even_34 rfl ?_
        refine g_keep [true, true, true, false, false, false] ?_
        exact bX9_even_38 C hr b hb σ p1 (b2i r1) 1
    · refine g_keep [true, true, true, false, false, false] ?_
      exact bX9_even_37 C hr b hb σ p1 (b2i r1)
  · refine g_keep [true, true, true, false, false, false] ?_
    exact bX9_even_37 C hr b hb σ p1 (b2i r1)
theorem dX9_focus_0 : decode cX9_focus 0 = .ok (.aload_n 0, 1) := by decide +kernel
theorem dX9_focus_1 : decode cX9_focus 1 = .ok (.iconst 0, 1) := by decide +kernel
theorem dX9_focus_2 : decode cX9_focus 2 = .ok (.putfield 50, 3) := by decide +kernel
theorem dX9_focus_5 : decode cX9_focus 5 = .ok (.iload_n 1, 1) := by decide +kernel
theorem dX9_focus_6 : decode cX9_focus 6 = .ok (.iconst 0, 1) := by decide +kernel
theorem dX9_focus_7 : decode cX9_focus 7 = .ok (.aload_n 0, 1) := by decide +kernel
theorem dX9_focus_8 : decode cX9_focus 8 = .ok (.getfield 7, 3) := by decide +kernel
theorem dX9_focus_11 : decode cX9_focus 11 = .ok (.sipush 251, 3) := by decide +kernel
theorem dX9_focus_14 : decode cX9_focus 14 = .ok (.iaload, 1) := by decide +kernel
theorem dX9_focus_15 : decode cX9_focus 15 = .ok (.iconst 1, 1) := by decide +kernel
theorem dX9_focus_16 : decode cX9_focus 16 = .ok (.isub, 1) := by decide +kernel
theorem dX9_focus_17 : decode cX9_focus 17 = .ok (.invokestatic 61, 3) := by decide +kernel
theorem dX9_focus_20 : decode cX9_focus 20 = .ok (.ifCond .eq 16, 3) := by decide +kernel
theorem dX9_focus_23 : decode cX9_focus 23 = .ok (.aload_n 0, 1) := by decide +kernel
theorem dX9_focus_24 : decode cX9_focus 24 = .ok (.getfield 7, 3) := by decide +kernel
theorem dX9_focus_27 : decode cX9_focus 27 = .ok (.sipush 252, 3) := by decide +kernel
theorem dX9_focus_30 : decode cX9_focus 30 = .ok (.iload_n 1, 1) := by decide +kernel
theorem dX9_focus_31 : decode cX9_focus 31 = .ok (.iadd, 1) := by decide +kernel
theorem dX9_focus_32 : decode cX9_focus 32 = .ok (.iaload, 1) := by decide +kernel
theorem dX9_focus_33 : decode cX9_focus 33 = .ok (.goto 4, 3) := by decide +kernel
theorem dX9_focus_36 : decode cX9_focus 36 = .ok (.iconst (-1), 1) := by decide +kernel
theorem dX9_focus_37 : decode cX9_focus 37 = .ok (.ireturn, 1) := by decide +kernel
abbrev rmX9_focus : Room := { frames := 1, cells := 0, slots := 0, locals := 22 }
theorem hdX9_focus : yX9_focus.cls ≠ "java/lang/invoke/MethodHandle" ∧ yX9_focus.cls ≠ "java/lang/invoke/VarHandle" ∧ (parseMethodDescriptor yX9_focus.desc).map (fun d => d.parameters.length) = some 1 := by decide +kernel
def fX9_focus (σ : Sg) (b : Nat) (p1 : Int32) : Option (Int32 × Sg) :=
  nm (su σ b 3 0) fun σ1 =>
  if ck 251 921 then
    (fX9_within σ1 p1 0 ((σ1.1 (b + 1) (251 : Int32).toNatClampNeg) - 1)).bind fun r2 =>
    if r2 = true then
      if ck (252 + p1) 921 then
        some (σ1.1 (b + 1) (252 + p1).toNatClampNeg, σ1)
      else none
    else
      some ((-1), σ1)
  else none
theorem kX9_focus (X : Xc) (σ : Sg) (b : Nat) (p1 : Int32) (hb : moOK b) : ∀ r, fX9_focus σ b p1 = some r → Met X.l yX9_focus (wsM yX9_focus cX9_focus 2 (some .int)) rmX9_focus (va_Pc [.ref (X.ad b), .int p1] (PW X σ)) (Qi X r.1 r.2) 0 0 X.A := by
  refine mt_of (own := RX9) (lo := [some (.ref (X.ad b)), some (.int (p1))]) (by decide) rfl (Nat.le_of_ble_eq_true rfl) rfl (fun K C hr => ?_)
  unfold fX9_focus
  refine g_aload_n (pc := 0) (i := 0) C dX9_focus_0 rfl rfl ?_
  refine g_iconst (pc := 1) (v := 0) C dX9_focus_1 (by decide) ?_
  refine g_puti (pc := 2) (ci := 9) (N := 27) (T := TX9) (j := 3) (Cn := RX9) C rfl inlX9 tyX9_ok nmX9 (Nat.le_of_ble_eq_true rfl) q_10_13 (blk hb 0 rfl) rfl rfl rfl dX9_focus_2 ?_
  refine g_nms (fun σ1 => ?_)
  refine g_iload_n (pc := 5) (i := 1) C dX9_focus_5 rfl rfl ?_
  refine g_iconst (pc := 6) (v := 0) C dX9_focus_6 (by decide) ?_
  refine g_aload_n (pc := 7) (i := 0) C dX9_focus_7 rfl rfl ?_
  refine g_getr (pc := 8) (ci := 9) (N := 27) (T := TX9) (j := 0) (Cn := RX9) (b + 1) C rfl inlX9 (Nat.le_of_ble_eq_true rfl) q_6_2 (blk hb 0 rfl) rfl dX9_focus_8 ?_
  refine g_sipush (pc := 11) (v := 251) C dX9_focus_11 (by decide) ?_
  refine g_iaload (pc := 14) C (blk hb 1 rfl) dX9_focus_14 ?_
  refine g_iconst (pc := 15) (v := 1) C dX9_focus_15 (by decide) ?_
  refine g_isub (pc := 16) C dX9_focus_16 ?_
  refine g_callSi (pc := 17) (As := [.int (p1), .int (0), .int ((σ1.1 (b + 1) (251 : Int32).toNatClampNeg) - 1)]) C (kX9_within X σ1 p1 0 ((σ1.1 (b + 1) (251 : Int32).toNatClampNeg) - 1)) q_10_6 q_10_7 q_1_5 q_10_8 hdX9_within ⟨Nat.le_of_ble_eq_true rfl, Nat.le_of_ble_eq_true rfl, rfl, rfl⟩ ⟨Nat.zero_le _, Nat.zero_le _⟩ (Nat.le_of_ble_eq_true rfl) rfl rfl dX9_focus_17 (fun r2 _ => ?_)
  refine g_ifb_eq (pc := 20) (tgt := 36) C dX9_focus_20 rfl ?_ ?_
  · refine g_aload_n (pc := 23) (i := 0) C dX9_focus_23 rfl rfl ?_
    refine g_getr (pc := 24) (ci := 9) (N := 27) (T := TX9) (j := 0) (Cn := RX9) (b + 1) C rfl inlX9 (Nat.le_of_ble_eq_true rfl) q_6_2 (blk hb 0 rfl) rfl dX9_focus_24 ?_
    refine g_sipush (pc := 27) (v := 252) C dX9_focus_27 (by decide) ?_
    refine g_iload_n (pc := 30) (i := 1) C dX9_focus_30 rfl rfl ?_
    refine g_iadd (pc := 31) C dX9_focus_31 ?_
    refine g_iaload (pc := 32) C (blk hb 1 rfl) dX9_focus_32 ?_
    refine g_goto (pc := 33) (tgt := 37) C dX9_focus_33 rfl ?_
    exact g_iret (pc := 37) C hr dX9_focus_37 rfl
  · refine g_iconst (pc := 36) (v := (-1)) C dX9_focus_36 (by decide) ?_
    exact g_iret (pc := 37) C hr dX9_focus_37 rfl
theorem dX9_isInside_0 : decode cX9_isInside 0 = .ok (.iload_n 1, 1) := by decide +kernel
theorem dX9_isInside_1 : decode cX9_isInside 1 = .ok (.iload_n 3, 1) := by decide +kernel
theorem dX9_isInside_2 : decode cX9_isInside 2 = .ok (.if_icmp .lt 30, 3) := by decide +kernel
theorem dX9_isInside_5 : decode cX9_isInside 5 = .ok (.iload_n 1, 1) := by decide +kernel
theorem dX9_isInside_6 : decode cX9_isInside 6 = .ok (.iload_n 3, 1) := by decide +kernel
theorem dX9_isInside_7 : decode cX9_isInside 7 = .ok (.isub, 1) := by decide +kernel
theorem dX9_isInside_8 : decode cX9_isInside 8 = .ok (.iload 5, 2) := by decide +kernel
theorem dX9_isInside_10 : decode cX9_isInside 10 = .ok (.if_icmp .ge 22, 3) := by decide +kernel
theorem dX9_isInside_13 : decode cX9_isInside 13 = .ok (.iload_n 2, 1) := by decide +kernel
theorem dX9_isInside_14 : decode cX9_isInside 14 = .ok (.iload 4, 2) := by decide +kernel
theorem dX9_isInside_16 : decode cX9_isInside 16 = .ok (.if_icmp .lt 16, 3) := by decide +kernel
theorem dX9_isInside_19 : decode cX9_isInside 19 = .ok (.iload_n 2, 1) := by decide +kernel
theorem dX9_isInside_20 : decode cX9_isInside 20 = .ok (.iload 4, 2) := by decide +kernel
theorem dX9_isInside_22 : decode cX9_isInside 22 = .ok (.isub, 1) := by decide +kernel
theorem dX9_isInside_23 : decode cX9_isInside 23 = .ok (.iload 6, 2) := by decide +kernel
theorem dX9_isInside_25 : decode cX9_isInside 25 = .ok (.if_icmp .ge 7, 3) := by decide +kernel
theorem dX9_isInside_28 : decode cX9_isInside 28 = .ok (.iconst 1, 1) := by decide +kernel
theorem dX9_isInside_29 : decode cX9_isInside 29 = .ok (.goto 4, 3) := by decide +kernel
theorem dX9_isInside_32 : decode cX9_isInside 32 = .ok (.iconst 0, 1) := by decide +kernel
theorem dX9_isInside_33 : decode cX9_isInside 33 = .ok (.ireturn, 1) := by decide +kernel
abbrev rmX9_isInside : Room := { frames := 0, cells := 0, slots := 0, locals := 0 }
theorem hdX9_isInside : yX9_isInside.cls ≠ "java/lang/invoke/MethodHandle" ∧ yX9_isInside.cls ≠ "java/lang/invoke/VarHandle" ∧ (parseMethodDescriptor yX9_isInside.desc).map (fun d => d.parameters.length) = some 6 := by decide +kernel
def fX9_isInside (σ : Sg) (b : Nat) (p1 : Int32) (p2 : Int32) (p3 : Int32) (p4 : Int32) (p5 : Int32) (p6 : Int32) : Option Bool :=
  if p1 < p3 then
    some false
  else
    if p5 ≤ (p1 - p3) then
      some false
    else
      if p2 < p4 then
        some false
      else
        if p6 ≤ (p2 - p4) then
          some false
        else
          some true
theorem kX9_isInside (X : Xc) (σ : Sg) (b : Nat) (p1 : Int32) (p2 : Int32) (p3 : Int32) (p4 : Int32) (p5 : Int32) (p6 : Int32) (hb : moOK b) : ∀ r, fX9_isInside σ b p1 p2 p3 p4 p5 p6 = some r → Met X.l yX9_isInside (wsM yX9_isInside cX9_isInside 7 (some .boolean)) rmX9_isInside (va_Pc [.ref (X.ad b), .int p1, .int p2, .int p3, .int p4, .int p5, .int p6] (PW X σ)) (Qi X (b2i r) σ) 0 0 X.A := by
  refine mt_of (own := RX9) (lo := [some (.ref (X.ad b)), some (.int (p1)), some (.int (p2)), some (.int (p3)), some (.int (p4)), some (.int (p5)), some (.int (p6))]) (by decide) rfl (Nat.le_of_ble_eq_true rfl) rfl (fun K C hr => ?_)
  unfold fX9_isInside
  refine g_iload_n (pc := 0) (i := 1) C dX9_isInside_0 rfl rfl ?_
  refine g_iload_n (pc := 1) (i := 3) C dX9_isInside_1 rfl rfl ?_
  refine g_icmp_lt (pc := 2) (tgt := 32) C dX9_isInside_2 rfl ?_ ?_
  · refine g_iconst (pc := 32) (v := 0) C dX9_isInside_32 (by decide) ?_
    exact g_zret (pc := 33) C hr dX9_isInside_33 rfl
  · refine g_iload_n (pc := 5) (i := 1) C dX9_isInside_5 rfl rfl ?_
    refine g_iload_n (pc := 6) (i := 3) C dX9_isInside_6 rfl rfl ?_
    refine g_isub (pc := 7) C dX9_isInside_7 ?_
    refine g_iload (pc := 8) C dX9_isInside_8 rfl ?_
    refine g_icmp_ge (pc := 10) (tgt := 32) C dX9_isInside_10 rfl ?_ ?_
    · refine g_iconst (pc := 32) (v := 0) C dX9_isInside_32 (by decide) ?_
      exact g_zret (pc := 33) C hr dX9_isInside_33 rfl
    · refine g_iload_n (pc := 13) (i := 2) C dX9_isInside_13 rfl rfl ?_
      refine g_iload (pc := 14) C dX9_isInside_14 rfl ?_
      refine g_icmp_lt (pc := 16) (tgt := 32) C dX9_isInside_16 rfl ?_ ?_
      · refine g_iconst (pc := 32) (v := 0) C dX9_isInside_32 (by decide) ?_
        exact g_zret (pc := 33) C hr dX9_isInside_33 rfl
      · refine g_iload_n (pc := 19) (i := 2) C dX9_isInside_19 rfl rfl ?_
        refine g_iload (pc := 20) C dX9_isInside_20 rfl ?_
        refine g_isub (pc := 22) C dX9_isInside_22 ?_
        refine g_iload (pc := 23) C dX9_isInside_23 rfl ?_
        refine g_icmp_ge (pc := 25) (tgt := 32) C dX9_isInside_25 rfl ?_ ?_
        · refine g_iconst (pc := 32) (v := 0) C dX9_isInside_32 (by decide) ?_
          exact g_zret (pc := 33) C hr dX9_isInside_33 rfl
        · refine g_iconst (pc := 28) (v := 1) C dX9_isInside_28 (by decide) ?_
          refine g_goto (pc := 29) (tgt := 33) C dX9_isInside_29 rfl ?_
          exact g_zret (pc := 33) C hr dX9_isInside_33 rfl
theorem dX9_isIn_0 : decode cX9_isIn 0 = .ok (.aload_n 0, 1) := by decide +kernel
theorem dX9_isIn_1 : decode cX9_isIn 1 = .ok (.iload_n 1, 1) := by decide +kernel
theorem dX9_isIn_2 : decode cX9_isIn 2 = .ok (.invokevirtual 187, 3) := by decide +kernel
theorem dX9_isIn_5 : decode cX9_isIn 5 = .ok (.ifCond .eq 44, 3) := by decide +kernel
theorem dX9_isIn_8 : decode cX9_isIn 8 = .ok (.aload_n 0, 1) := by decide +kernel
theorem dX9_isIn_9 : decode cX9_isIn 9 = .ok (.iload_n 2, 1) := by decide +kernel
theorem dX9_isIn_10 : decode cX9_isIn 10 = .ok (.iload_n 3, 1) := by decide +kernel
theorem dX9_isIn_11 : decode cX9_isIn 11 = .ok (.aload_n 0, 1) := by decide +kernel
theorem dX9_isIn_12 : decode cX9_isIn 12 = .ok (.iload_n 1, 1) := by decide +kernel
theorem dX9_isIn_13 : decode cX9_isIn 13 = .ok (.iconst 1, 1) := by decide +kernel
theorem dX9_isIn_14 : decode cX9_isIn 14 = .ok (.iconst 1, 1) := by decide +kernel
theorem dX9_isIn_15 : decode cX9_isIn 15 = .ok (.invokevirtual 72, 3) := by decide +kernel
theorem dX9_isIn_18 : decode cX9_isIn 18 = .ok (.aload_n 0, 1) := by decide +kernel
theorem dX9_isIn_19 : decode cX9_isIn 19 = .ok (.iload_n 1, 1) := by decide +kernel
theorem dX9_isIn_20 : decode cX9_isIn 20 = .ok (.iconst 2, 1) := by decide +kernel
theorem dX9_isIn_21 : decode cX9_isIn 21 = .ok (.iconst 1, 1) := by decide +kernel
theorem dX9_isIn_22 : decode cX9_isIn 22 = .ok (.invokevirtual 72, 3) := by decide +kernel
theorem dX9_isIn_25 : decode cX9_isIn 25 = .ok (.aload_n 0, 1) := by decide +kernel
theorem dX9_isIn_26 : decode cX9_isIn 26 = .ok (.iload_n 1, 1) := by decide +kernel
theorem dX9_isIn_27 : decode cX9_isIn 27 = .ok (.iconst 3, 1) := by decide +kernel
theorem dX9_isIn_28 : decode cX9_isIn 28 = .ok (.iconst 1, 1) := by decide +kernel
theorem dX9_isIn_29 : decode cX9_isIn 29 = .ok (.invokevirtual 72, 3) := by decide +kernel
theorem dX9_isIn_32 : decode cX9_isIn 32 = .ok (.aload_n 0, 1) := by decide +kernel
theorem dX9_isIn_33 : decode cX9_isIn 33 = .ok (.iload_n 1, 1) := by decide +kernel
theorem dX9_isIn_34 : decode cX9_isIn 34 = .ok (.iconst 4, 1) := by decide +kernel
theorem dX9_isIn_35 : decode cX9_isIn 35 = .ok (.iconst 1, 1) := by decide +kernel
theorem dX9_isIn_36 : decode cX9_isIn 36 = .ok (.invokevirtual 72, 3) := by decide +kernel
theorem dX9_isIn_39 : decode cX9_isIn 39 = .ok (.invokevirtual 241, 3) := by decide +kernel
theorem dX9_isIn_42 : decode cX9_isIn 42 = .ok (.ifCond .eq 7, 3) := by decide +kernel
theorem dX9_isIn_45 : decode cX9_isIn 45 = .ok (.iconst 1, 1) := by decide +kernel
theorem dX9_isIn_46 : decode cX9_isIn 46 = .ok (.goto 4, 3) := by decide +kernel
theorem dX9_isIn_49 : decode cX9_isIn 49 = .ok (.iconst 0, 1) := by decide +kernel
theorem dX9_isIn_50 : decode cX9_isIn 50 = .ok (.ireturn, 1) := by decide +kernel
abbrev rmX9_isIn : Room := { frames := 2, cells := 0, slots := 0, locals := 44 }
theorem hdX9_isIn : yX9_isIn.cls ≠ "java/lang/invoke/MethodHandle" ∧ yX9_isIn.cls ≠ "java/lang/invoke/VarHandle" ∧ (parseMethodDescriptor yX9_isIn.desc).map (fun d => d.parameters.length) = some 3 := by decide +kernel
def fX9_isIn (σ : Sg) (b : Nat) (p1 : Int32) (p2 : Int32) (p3 : Int32) : Option Bool :=
  (fX9_isWindow σ b p1).bind fun r1 =>
  if r1 = true then
    (fX9_window σ b p1 1 1).bind fun r2 =>
    (fX9_window σ b p1 2 1).bind fun r3 =>
    (fX9_window σ b p1 3 1).bind fun r4 =>
    (fX9_window σ b p1 4 1).bind fun r5 =>
    (fX9_isInside σ b p2 p3 r2 r3 r4 r5).bind fun r6 =>
    if r6 = true then
      some true
    else
      some false
  else
    some false
theorem kX9_isIn (X : Xc) (σ : Sg) (b : Nat) (p1 : Int32) (p2 : Int32) (p3 : Int32) (hb : moOK b) : ∀ r, fX9_isIn σ b p1 p2 p3 = some r → Met X.l yX9_isIn (wsM yX9_isIn cX9_isIn 4 (some .boolean)) rmX9_isIn (va_Pc [.ref (X.ad b), .int p1, .int p2, .int p3] (PW X σ)) (Qi X (b2i r) σ) 0 0 X.A := by
  refine mt_of (own := RX9) (lo := [some (.ref (X.ad b)), some (.int (p1)), some (.int (p2)), some (.int (p3))]) (by decide) rfl (Nat.le_of_ble_eq_true rfl) rfl (fun K C hr => ?_)
  unfold fX9_isIn
  refine g_aload_n (pc := 0) (i := 0) C dX9_isIn_0 rfl rfl ?_
  refine g_iload_n (pc := 1) (i := 1) C dX9_isIn_1 rfl rfl ?_
  refine g_callVi (pc := 2) (As := [.int (p1)]) C (kX9_isWindow X σ b p1 hb) (blk hb 0 rfl) rfl q_27_9 q_27_10 q_27_11 q_1_5 q_27_12 ⟨rfl, hdX9_isWindow⟩ ⟨Nat.le_of_ble_eq_true rfl, Nat.le_of_ble_eq_true rfl, rfl, rfl⟩ ⟨Nat.zero_le _, Nat.zero_le _⟩ (Nat.le_of_ble_eq_true rfl) rfl rfl dX9_isIn_2 (fun r1 _ => ?_)
  refine g_ifb_eq (pc := 5) (tgt := 49) C dX9_isIn_5 rfl ?_ ?_
  · refine g_aload_n (pc := 8) (i := 0) C dX9_isIn_8 rfl rfl ?_
    refine g_iload_n (pc := 9) (i := 2) C dX9_isIn_9 rfl rfl ?_
    refine g_iload_n (pc := 10) (i := 3) C dX9_isIn_10 rfl rfl ?_
    refine g_aload_n (pc := 11) (i := 0) C dX9_isIn_11 rfl rfl ?_
    refine g_iload_n (pc := 12) (i := 1) C dX9_isIn_12 rfl rfl ?_
    refine g_iconst (pc := 13) (v := 1) C dX9_isIn_13 (by decide) ?_
    refine g_iconst (pc := 14) (v := 1) C dX9_isIn_14 (by decide) ?_
    refine g_callVi (pc := 15) (As := [.int (p1), .int (1), .int (1)]) C (kX9_window X σ b p1 1 1 hb) (blk hb 0 rfl) rfl q_22_12 q_22_13 q_22_14 q_1_5 q_22_15 ⟨rfl, hdX9_window⟩ ⟨Nat.le_of_ble_eq_true rfl, Nat.le_of_ble_eq_true rfl, rfl, rfl⟩ ⟨Nat.zero_le _, Nat.zero_le _⟩ (Nat.le_of_ble_eq_true rfl) rfl rfl dX9_isIn_15 (fun r2 _ => ?_)
    refine g_aload_n (pc := 18) (i := 0) C dX9_isIn_18 rfl rfl ?_
    refine g_iload_n (pc := 19) (i := 1) C dX9_isIn_19 rfl rfl ?_
    refine g_iconst (pc := 20) (v := 2) C dX9_isIn_20 (by decide) ?_
    refine g_iconst (pc := 21) (v := 1) C dX9_isIn_21 (by decide) ?_
    refine g_callVi (pc := 22) (As := [.int (p1), .int (2), .int (1)]) C (kX9_window X σ b p1 2 1 hb) (blk hb 0 rfl) rfl q_22_12 q_22_13 q_22_14 q_1_5 q_22_15 ⟨rfl, hdX9_window⟩ ⟨Nat.le_of_ble_eq_true rfl, Nat.le_of_ble_eq_true rfl, rfl, rfl⟩ ⟨Nat.zero_le _, Nat.zero_le _⟩ (Nat.le_of_ble_eq_true rfl) rfl rfl dX9_isIn_22 (fun r3 _ => ?_)
    refine g_aload_n (pc := 25) (i := 0) C dX9_isIn_25 rfl rfl ?_
    refine g_iload_n (pc := 26) (i := 1) C dX9_isIn_26 rfl rfl ?_
    refine g_iconst (pc := 27) (v := 3) C dX9_isIn_27 (by decide) ?_
    refine g_iconst (pc := 28) (v := 1) C dX9_isIn_28 (by decide) ?_
    refine g_callVi (pc := 29) (As := [.int (p1), .int (3), .int (1)]) C (kX9_window X σ b p1 3 1 hb) (blk hb 0 rfl) rfl q_22_12 q_22_13 q_22_14 q_1_5 q_22_15 ⟨rfl, hdX9_window⟩ ⟨Nat.le_of_ble_eq_true rfl, Nat.le_of_ble_eq_true rfl, rfl, rfl⟩ ⟨Nat.zero_le _, Nat.zero_le _⟩ (Nat.le_of_ble_eq_true rfl) rfl rfl dX9_isIn_29 (fun r4 _ => ?_)
    refine g_aload_n (pc := 32) (i := 0) C dX9_isIn_32 rfl rfl ?_
    refine g_iload_n (pc := 33) (i := 1) C dX9_isIn_33 rfl rfl ?_
    refine g_iconst (pc := 34) (v := 4) C dX9_isIn_34 (by decide) ?_
    refine g_iconst (pc := 35) (v := 1) C dX9_isIn_35 (by decide) ?_
    refine g_callVi (pc := 36) (As := [.int (p1), .int (4), .int (1)]) C (kX9_window X σ b p1 4 1 hb) (blk hb 0 rfl) rfl q_22_12 q_22_13 q_22_14 q_1_5 q_22_15 ⟨rfl, hdX9_window⟩ ⟨Nat.le_of_ble_eq_true rfl, Nat.le_of_ble_eq_true rfl, rfl, rfl⟩ ⟨Nat.zero_le _, Nat.zero_le _⟩ (Nat.le_of_ble_eq_true rfl) rfl rfl dX9_isIn_36 (fun r5 _ => ?_)
    refine g_callVi (pc := 39) (As := [.int (p2), .int (p3), .int (r2), .int (r3), .int (r4), .int (r5)]) C (kX9_isInside X σ b p2 p3 r2 r3 r4 r5 hb) (blk hb 0 rfl) rfl q_44_21 q_44_22 q_44_23 q_1_5 q_45_0 ⟨rfl, hdX9_isInside⟩ ⟨Nat.le_of_ble_eq_true rfl, Nat.le_of_ble_eq_true rfl, rfl, rfl⟩ ⟨Nat.zero_le _, Nat.zero_le _⟩ (Nat.le_of_ble_eq_true rfl) rfl rfl dX9_isIn_39 (fun r6 _ => ?_)
    refine g_ifb_eq (pc := 42) (tgt := 49) C dX9_isIn_42 rfl ?_ ?_
    · refine g_iconst (pc := 45) (v := 1) C dX9_isIn_45 (by decide) ?_
      refine g_goto (pc := 46) (tgt := 50) C dX9_isIn_46 rfl ?_
      exact g_zret (pc := 50) C hr dX9_isIn_50 rfl
    · refine g_iconst (pc := 49) (v := 0) C dX9_isIn_49 (by decide) ?_
      exact g_zret (pc := 50) C hr dX9_isIn_50 rfl
  · refine g_iconst (pc := 49) (v := 0) C dX9_isIn_49 (by decide) ?_
    exact g_zret (pc := 50) C hr dX9_isIn_50 rfl
theorem dX9_windowAt_0 : decode cX9_windowAt 0 = .ok (.aload_n 0, 1) := by decide +kernel
theorem dX9_windowAt_1 : decode cX9_windowAt 1 = .ok (.getfield 7, 3) := by decide +kernel
theorem dX9_windowAt_4 : decode cX9_windowAt 4 = .ok (.sipush 246, 3) := by decide +kernel
theorem dX9_windowAt_7 : decode cX9_windowAt 7 = .ok (.iaload, 1) := by decide +kernel
theorem dX9_windowAt_8 : decode cX9_windowAt 8 = .ok (.iconst 1, 1) := by decide +kernel
theorem dX9_windowAt_9 : decode cX9_windowAt 9 = .ok (.isub, 1) := by decide +kernel
theorem dX9_windowAt_10 : decode cX9_windowAt 10 = .ok (.istore_n 3, 1) := by decide +kernel
theorem dX9_windowAt_11 : decode cX9_windowAt 11 = .ok (.iload_n 3, 1) := by decide +kernel
theorem dX9_windowAt_12 : decode cX9_windowAt 12 = .ok (.ifCond .lt 39, 3) := by decide +kernel
theorem dX9_windowAt_15 : decode cX9_windowAt 15 = .ok (.aload_n 0, 1) := by decide +kernel
theorem dX9_windowAt_16 : decode cX9_windowAt 16 = .ok (.aload_n 0, 1) := by decide +kernel
theorem dX9_windowAt_17 : decode cX9_windowAt 17 = .ok (.getfield 7, 3) := by decide +kernel
theorem dX9_windowAt_20 : decode cX9_windowAt 20 = .ok (.sipush 247, 3) := by decide +kernel
theorem dX9_windowAt_23 : decode cX9_windowAt 23 = .ok (.iload_n 3, 1) := by decide +kernel
theorem dX9_windowAt_24 : decode cX9_windowAt 24 = .ok (.iadd, 1) := by decide +kernel
theorem dX9_windowAt_25 : decode cX9_windowAt 25 = .ok (.iaload, 1) := by decide +kernel
theorem dX9_windowAt_26 : decode cX9_windowAt 26 = .ok (.iload_n 1, 1) := by decide +kernel
theorem dX9_windowAt_27 : decode cX9_windowAt 27 = .ok (.iload_n 2, 1) := by decide +kernel
theorem dX9_windowAt_28 : decode cX9_windowAt 28 = .ok (.invokevirtual 245, 3) := by decide +kernel
theorem dX9_windowAt_31 : decode cX9_windowAt 31 = .ok (.ifCond .eq 14, 3) := by decide +kernel
theorem dX9_windowAt_34 : decode cX9_windowAt 34 = .ok (.aload_n 0, 1) := by decide +kernel
theorem dX9_windowAt_35 : decode cX9_windowAt 35 = .ok (.getfield 7, 3) := by decide +kernel
theorem dX9_windowAt_38 : decode cX9_windowAt 38 = .ok (.sipush 247, 3) := by decide +kernel
theorem dX9_windowAt_41 : decode cX9_windowAt 41 = .ok (.iload_n 3, 1) := by decide +kernel
theorem dX9_windowAt_42 : decode cX9_windowAt 42 = .ok (.iadd, 1) := by decide +kernel
theorem dX9_windowAt_43 : decode cX9_windowAt 43 = .ok (.iaload, 1) := by decide +kernel
theorem dX9_windowAt_44 : decode cX9_windowAt 44 = .ok (.ireturn, 1) := by decide +kernel
theorem dX9_windowAt_45 : decode cX9_windowAt 45 = .ok (.iinc 3 (-1), 3) := by decide +kernel
theorem dX9_windowAt_48 : decode cX9_windowAt 48 = .ok (.goto (-37), 3) := by decide +kernel
theorem dX9_windowAt_51 : decode cX9_windowAt 51 = .ok (.aload_n 0, 1) := by decide +kernel
theorem dX9_windowAt_52 : decode cX9_windowAt 52 = .ok (.iconst 0, 1) := by decide +kernel
theorem dX9_windowAt_53 : decode cX9_windowAt 53 = .ok (.iload_n 1, 1) := by decide +kernel
theorem dX9_windowAt_54 : decode cX9_windowAt 54 = .ok (.iload_n 2, 1) := by decide +kernel
theorem dX9_windowAt_55 : decode cX9_windowAt 55 = .ok (.invokevirtual 245, 3) := by decide +kernel
theorem dX9_windowAt_58 : decode cX9_windowAt 58 = .ok (.ifCond .eq 7, 3) := by decide +kernel
theorem dX9_windowAt_61 : decode cX9_windowAt 61 = .ok (.iconst 0, 1) := by decide +kernel
theorem dX9_windowAt_62 : decode cX9_windowAt 62 = .ok (.goto 4, 3) := by decide +kernel
theorem dX9_windowAt_65 : decode cX9_windowAt 65 = .ok (.iconst (-1), 1) := by decide +kernel
theorem dX9_windowAt_66 : decode cX9_windowAt 66 = .ok (.ireturn, 1) := by decide +kernel
abbrev rmX9_windowAt : Room := { frames := 3, cells := 0, slots := 0, locals := 67 }
theorem hdX9_windowAt : yX9_windowAt.cls ≠ "java/lang/invoke/MethodHandle" ∧ yX9_windowAt.cls ≠ "java/lang/invoke/VarHandle" ∧ (parseMethodDescriptor yX9_windowAt.desc).map (fun d => d.parameters.length) = some 2 := by decide +kernel
def fX9_windowAt_11 (σ : Sg) (b : Nat) : Nat → Int32 → Int32 → Int32 → Option Int32
  | 0, _, _, _ => none
  | n + 1, l1, l2, l3 =>
    if l3 < 0 then
      (fX9_isIn σ b 0 l1 l2).bind fun r2 =>
      if r2 = true then
        some 0
      else
        some (-1)
    else
      if ck (247 + l3) 921 then
        (fX9_isIn σ b (σ.1 (b + 1) (247 + l3).toNatClampNeg) l1 l2).bind fun r3 =>
        if r3 = true then
          if ck (247 + l3) 921 then
            some (σ.1 (b + 1) (247 + l3).toNatClampNeg)
          else none
        else
          ((fX9_windowAt_11 σ b n) l1 l2 (l3 + (-1)))
      else none
theorem bX9_windowAt_11 {X : Xc} {K : Kc} (C : MC X K cX9_windowAt 4 RX9 rmX9_windowAt) (hr : K.meth.sig.returnType = (some .int)) (σ : Sg) (b : Nat) (hb : moOK b) : ∀ (n : Nat) (l1 : Int32) (l2 : Int32) (l3 : Int32), GO X K 4 (fun r => MQi X K r σ) (fX9_windowAt_11 σ b n l1 l2 l3) σ 0 0 11 [some (.ref (X.ad b)), some (.int (l1)), some (.int (l2)), some (.int (l3))] [] := by
  intro n
  induction n with
  | zero =>
    intro l1 l2 l3
    exact g_none
  | succ n ih =>
    intro l1 l2 l3
    unfold fX9_windowAt_11
    refine g_iload_n (pc := 11) (i := 3) C dX9_windowAt_11 rfl rfl ?_
    refine g_if_lt (pc := 12) (tgt := 51) C dX9_windowAt_12 rfl ?_ ?_
    · refine g_aload_n (pc := 51) (i := 0) C dX9_windowAt_51 rfl rfl ?_
      refine g_iconst (pc := 52) (v := 0) C dX9_windowAt_52 (by decide) ?_
      refine g_iload_n (pc := 53) (i := 1) C dX9_windowAt_53 rfl rfl ?_
      refine g_iload_n (pc := 54) (i := 2) C dX9_windowAt_54 rfl rfl ?_
      refine g_callVi (pc := 55) (As := [.int (0), .int (l1), .int (l2)]) C (kX9_isIn X σ b 0 l1 l2 hb) (blk hb 0 rfl) rfl q_44_17 q_44_18 q_44_19 q_1_5 q_44_20 ⟨rfl, hdX9_isIn⟩ ⟨Nat.le_of_ble_eq_true rfl, Nat.le_of_ble_eq_true rfl, rfl, rfl⟩ ⟨Nat.zero_le _, Nat.zero_le _⟩ (Nat.le_of_ble_eq_true rfl) rfl rfl dX9_windowAt_55 (fun r2 _ => ?_)
      refine g_ifb_eq (pc := 58) (tgt := 65) C dX9_windowAt_58 rfl ?_ ?_
      · refine g_iconst (pc := 61) (v := 0) C dX9_windowAt_61 (by decide) ?_
        refine g_goto (pc := 62) (tgt := 66) C dX9_windowAt_62 rfl ?_
        exact g_iret (pc := 66) C hr dX9_windowAt_66 rfl
      · refine g_iconst (pc := 65) (v := (-1)) C dX9_windowAt_65 (by decide) ?_
        exact g_iret (pc := 66) C hr dX9_windowAt_66 rfl
    · refine g_aload_n (pc := 15) (i := 0) C dX9_windowAt_15 rfl rfl ?_
      refine g_aload_n (pc := 16) (i := 0) C dX9_windowAt_16 rfl rfl ?_
      refine g_getr (pc := 17) (ci := 9) (N := 27) (T := TX9) (j := 0) (Cn := RX9) (b + 1) C rfl inlX9 (Nat.le_of_ble_eq_true rfl) q_6_2 (blk hb 0 rfl) rfl dX9_windowAt_17 ?_
      refine g_sipush (pc := 20) (v := 247) C dX9_windowAt_20 (by decide) ?_
      refine g_iload_n (pc := 23) (i := 3) C dX9_windowAt_23 rfl rfl ?_
      refine g_iadd (pc := 24) C dX9_windowAt_24 ?_
      refine g_iaload (pc := 25) C (blk hb 1 rfl) dX9_windowAt_25 ?_
      refine g_iload_n (pc := 26) (i := 1) C dX9_windowAt_26 rfl rfl ?_
      refine g_iload_n (pc := 27) (i := 2) C dX9_windowAt_27 rfl rfl ?_
      refine g_callVi (pc := 28) (As := [.int (σ.1 (b + 1) (247 + l3).toNatClampNeg), .int (l1), .int (l2)]) C (kX9_isIn X σ b (σ.1 (b + 1) (247 + l3).toNatClampNeg) l1 l2 hb) (blk hb 0 rfl) rfl q_44_17 q_44_18 q_44_19 q_1_5 q_44_20 ⟨rfl, hdX9_isIn⟩ ⟨Nat.le_of_ble_eq_true rfl, Nat.le_of_ble_eq_true rfl, rfl, rfl⟩ ⟨Nat.zero_le _, Nat.zero_le _⟩ (Nat.le_of_ble_eq_true rfl) rfl rfl dX9_windowAt_28 (fun r3 _ => ?_)
      refine g_ifb_eq (pc := 31) (tgt := 45) C dX9_windowAt_31 rfl ?_ ?_
      · refine g_aload_n (pc := 34) (i := 0) C dX9_windowAt_34 rfl rfl ?_
        refine g_getr (pc := 35) (ci := 9) (N := 27) (T := TX9) (j := 0) (Cn := RX9) (b + 1) C rfl inlX9 (Nat.le_of_ble_eq_true rfl) q_6_2 (blk hb 0 rfl) rfl dX9_windowAt_35 ?_
        refine g_sipush (pc := 38) (v := 247) C dX9_windowAt_38 (by decide) ?_
        refine g_iload_n (pc := 41) (i := 3) C dX9_windowAt_41 rfl rfl ?_
        refine g_iadd (pc := 42) C dX9_windowAt_42 ?_
        refine g_iaload (pc := 43) C (blk hb 1 rfl) dX9_windowAt_43 ?_
        exact g_iret (pc := 44) C hr dX9_windowAt_44 rfl
      · refine g_iinc (pc := 45) (v := l3 + (-1)) C dX9_windowAt_45 rfl (rfl) (Nat.le_of_ble_eq_true rfl) rfl ?_
        refine g_goto (pc := 48) (tgt := 11) C dX9_windowAt_48 rfl ?_
        refine g_keep [true, true, true, true] ?_
        exact ih l1 l2 (l3 + (-1))
def fX9_windowAt (σ : Sg) (b : Nat) (p1 : Int32) (p2 : Int32) : Option Int32 :=
  if ck 246 921 then
    nm ((σ.1 (b + 1) (246 : Int32).toNatClampNeg) - 1) fun v1 =>
    (fX9_windowAt_11 σ b FU p1 p2 v1)
  else none
theorem kX9_windowAt (X : Xc) (σ : Sg) (b : Nat) (p1 : Int32) (p2 : Int32) (hb : moOK b) : ∀ r, fX9_windowAt σ b p1 p2 = some r → Met X.l yX9_windowAt (wsM yX9_windowAt cX9_windowAt 4 (some .int)) rmX9_windowAt (va_Pc [.ref (X.ad b), .int p1, .int p2] (PW X σ)) (Qi X r σ) 0 0 X.A := by
  refine mt_of (own := RX9) (lo := [some (.ref (X.ad b)), some (.int (p1)), some (.int (p2)), none]) (by decide) rfl (Nat.le_of_ble_eq_true rfl) rfl (fun K C hr => ?_)
  unfold fX9_windowAt
  refine g_aload_n (pc := 0) (i := 0) C dX9_windowAt_0 rfl rfl ?_
  refine g_getr (pc := 1) (ci := 9) (N := 27) (T := TX9) (j := 0) (Cn := RX9) (b + 1) C rfl inlX9 (Nat.le_of_ble_eq_true rfl) q_6_2 (blk hb 0 rfl) rfl dX9_windowAt_1 ?_
  refine g_sipush (pc := 4) (v := 246) C dX9_windowAt_4 (by decide) ?_
  refine g_iaload (pc := 7) C (blk hb 1 rfl) dX9_windowAt_7 ?_
  refine g_iconst (pc := 8) (v := 1) C dX9_windowAt_8 (by decide) ?_
  refine g_isub (pc := 9) C dX9_windowAt_9 ?_
  refine g_nm (fun v1 => ?_)
  refine g_istore_n (pc := 10) (i := 3) C dX9_windowAt_10 rfl (Nat.le_of_ble_eq_true rfl) rfl ?_
  refine g_keep [true, true, true, true] ?_
  exact bX9_windowAt_11 C hr σ b hb FU p1 p2 v1
theorem dX9_groupAt_0 : decode cX9_groupAt 0 = .ok (.aload_n 0, 1) := by decide +kernel
theorem dX9_groupAt_1 : decode cX9_groupAt 1 = .ok (.iload_n 1, 1) := by decide +kernel
theorem dX9_groupAt_2 : decode cX9_groupAt 2 = .ok (.iload_n 2, 1) := by decide +kernel
theorem dX9_groupAt_3 : decode cX9_groupAt 3 = .ok (.invokevirtual 248, 3) := by decide +kernel
theorem dX9_groupAt_6 : decode cX9_groupAt 6 = .ok (.istore_n 3, 1) := by decide +kernel
theorem dX9_groupAt_7 : decode cX9_groupAt 7 = .ok (.iconst 0, 1) := by decide +kernel
theorem dX9_groupAt_8 : decode cX9_groupAt 8 = .ok (.istore 4, 2) := by decide +kernel
theorem dX9_groupAt_10 : decode cX9_groupAt 10 = .ok (.iload 4, 2) := by decide +kernel
theorem dX9_groupAt_12 : decode cX9_groupAt 12 = .ok (.bipush 24, 2) := by decide +kernel
theorem dX9_groupAt_14 : decode cX9_groupAt 14 = .ok (.if_icmp .ge 99, 3) := by decide +kernel
theorem dX9_groupAt_17 : decode cX9_groupAt 17 = .ok (.iload_n 3, 1) := by decide +kernel
theorem dX9_groupAt_18 : decode cX9_groupAt 18 = .ok (.iconst (-1), 1) := by decide +kernel
theorem dX9_groupAt_19 : decode cX9_groupAt 19 = .ok (.if_icmp .eq 94, 3) := by decide +kernel
theorem dX9_groupAt_22 : decode cX9_groupAt 22 = .ok (.aload_n 0, 1) := by decide +kernel
theorem dX9_groupAt_23 : decode cX9_groupAt 23 = .ok (.iload 4, 2) := by decide +kernel
theorem dX9_groupAt_25 : decode cX9_groupAt 25 = .ok (.iconst 0, 1) := by decide +kernel
theorem dX9_groupAt_26 : decode cX9_groupAt 26 = .ok (.invokevirtual 76, 3) := by decide +kernel
theorem dX9_groupAt_29 : decode cX9_groupAt 29 = .ok (.iconst 2, 1) := by decide +kernel
theorem dX9_groupAt_30 : decode cX9_groupAt 30 = .ok (.if_icmp .ne 77, 3) := by decide +kernel
theorem dX9_groupAt_33 : decode cX9_groupAt 33 = .ok (.aload_n 0, 1) := by decide +kernel
theorem dX9_groupAt_34 : decode cX9_groupAt 34 = .ok (.getfield 22, 3) := by decide +kernel
theorem dX9_groupAt_37 : decode cX9_groupAt 37 = .ok (.iload 4, 2) := by decide +kernel
theorem dX9_groupAt_39 : decode cX9_groupAt 39 = .ok (.baload, 1) := by decide +kernel
theorem dX9_groupAt_40 : decode cX9_groupAt 40 = .ok (.ifCond .eq 67, 3) := by decide +kernel
theorem dX9_groupAt_43 : decode cX9_groupAt 43 = .ok (.aload_n 0, 1) := by decide +kernel
theorem dX9_groupAt_44 : decode cX9_groupAt 44 = .ok (.iload 4, 2) := by decide +kernel
theorem dX9_groupAt_46 : decode cX9_groupAt 46 = .ok (.invokevirtual 91, 3) := by decide +kernel
theorem dX9_groupAt_49 : decode cX9_groupAt 49 = .ok (.iload_n 3, 1) := by decide +kernel
theorem dX9_groupAt_50 : decode cX9_groupAt 50 = .ok (.if_icmp .ne 57, 3) := by decide +kernel
theorem dX9_groupAt_53 : decode cX9_groupAt 53 = .ok (.aload_n 0, 1) := by decide +kernel
theorem dX9_groupAt_54 : decode cX9_groupAt 54 = .ok (.iload_n 1, 1) := by decide +kernel
theorem dX9_groupAt_55 : decode cX9_groupAt 55 = .ok (.iload_n 2, 1) := by decide +kernel
theorem dX9_groupAt_56 : decode cX9_groupAt 56 = .ok (.aload_n 0, 1) := by decide +kernel
theorem dX9_groupAt_57 : decode cX9_groupAt 57 = .ok (.getfield 29, 3) := by decide +kernel
theorem dX9_groupAt_60 : decode cX9_groupAt 60 = .ok (.iconst 4, 1) := by decide +kernel
theorem dX9_groupAt_61 : decode cX9_groupAt 61 = .ok (.iload 4, 2) := by decide +kernel
theorem dX9_groupAt_63 : decode cX9_groupAt 63 = .ok (.imul, 1) := by decide +kernel
theorem dX9_groupAt_64 : decode cX9_groupAt 64 = .ok (.iaload, 1) := by decide +kernel
theorem dX9_groupAt_65 : decode cX9_groupAt 65 = .ok (.aload_n 0, 1) := by decide +kernel
theorem dX9_groupAt_66 : decode cX9_groupAt 66 = .ok (.getfield 29, 3) := by decide +kernel
theorem dX9_groupAt_69 : decode cX9_groupAt 69 = .ok (.iconst 4, 1) := by decide +kernel
theorem dX9_groupAt_70 : decode cX9_groupAt 70 = .ok (.iload 4, 2) := by decide +kernel
theorem dX9_groupAt_72 : decode cX9_groupAt 72 = .ok (.imul, 1) := by decide +kernel
theorem dX9_groupAt_73 : decode cX9_groupAt 73 = .ok (.iconst 1, 1) := by decide +kernel
theorem dX9_groupAt_74 : decode cX9_groupAt 74 = .ok (.iadd, 1) := by decide +kernel
theorem dX9_groupAt_75 : decode cX9_groupAt 75 = .ok (.iaload, 1) := by decide +kernel
theorem dX9_groupAt_76 : decode cX9_groupAt 76 = .ok (.aload_n 0, 1) := by decide +kernel
theorem dX9_groupAt_77 : decode cX9_groupAt 77 = .ok (.getfield 29, 3) := by decide +kernel
theorem dX9_groupAt_80 : decode cX9_groupAt 80 = .ok (.iconst 4, 1) := by decide +kernel
theorem dX9_groupAt_81 : decode cX9_groupAt 81 = .ok (.iload 4, 2) := by decide +kernel
theorem dX9_groupAt_83 : decode cX9_groupAt 83 = .ok (.imul, 1) := by decide +kernel
theorem dX9_groupAt_84 : decode cX9_groupAt 84 = .ok (.iconst 2, 1) := by decide +kernel
theorem dX9_groupAt_85 : decode cX9_groupAt 85 = .ok (.iadd, 1) := by decide +kernel
theorem dX9_groupAt_86 : decode cX9_groupAt 86 = .ok (.iaload, 1) := by decide +kernel
theorem dX9_groupAt_87 : decode cX9_groupAt 87 = .ok (.aload_n 0, 1) := by decide +kernel
theorem dX9_groupAt_88 : decode cX9_groupAt 88 = .ok (.getfield 29, 3) := by decide +kernel
theorem dX9_groupAt_91 : decode cX9_groupAt 91 = .ok (.iconst 4, 1) := by decide +kernel
theorem dX9_groupAt_92 : decode cX9_groupAt 92 = .ok (.iload 4, 2) := by decide +kernel
theorem dX9_groupAt_94 : decode cX9_groupAt 94 = .ok (.imul, 1) := by decide +kernel
theorem dX9_groupAt_95 : decode cX9_groupAt 95 = .ok (.iconst 3, 1) := by decide +kernel
theorem dX9_groupAt_96 : decode cX9_groupAt 96 = .ok (.iadd, 1) := by decide +kernel
theorem dX9_groupAt_97 : decode cX9_groupAt 97 = .ok (.iaload, 1) := by decide +kernel
theorem dX9_groupAt_98 : decode cX9_groupAt 98 = .ok (.invokevirtual 241, 3) := by decide +kernel
theorem dX9_groupAt_101 : decode cX9_groupAt 101 = .ok (.ifCond .eq 6, 3) := by decide +kernel
theorem dX9_groupAt_104 : decode cX9_groupAt 104 = .ok (.iload 4, 2) := by decide +kernel
theorem dX9_groupAt_106 : decode cX9_groupAt 106 = .ok (.ireturn, 1) := by decide +kernel
theorem dX9_groupAt_107 : decode cX9_groupAt 107 = .ok (.iinc 4 1, 3) := by decide +kernel
theorem dX9_groupAt_110 : decode cX9_groupAt 110 = .ok (.goto (-100), 3) := by decide +kernel
theorem dX9_groupAt_113 : decode cX9_groupAt 113 = .ok (.iconst (-1), 1) := by decide +kernel
theorem dX9_groupAt_114 : decode cX9_groupAt 114 = .ok (.ireturn, 1) := by decide +kernel
abbrev rmX9_groupAt : Room := { frames := 4, cells := 0, slots := 0, locals := 90 }
theorem hdX9_groupAt : yX9_groupAt.cls ≠ "java/lang/invoke/MethodHandle" ∧ yX9_groupAt.cls ≠ "java/lang/invoke/VarHandle" ∧ (parseMethodDescriptor yX9_groupAt.desc).map (fun d => d.parameters.length) = some 2 := by decide +kernel
def fX9_groupAt_107 (σ : Sg) (b : Nat) (k10 : Int32 → Int32 → Int32 → Int32 → Option Int32) (l1 : Int32) (l2 : Int32) (l3 : Int32) (l4 : Int32) : Option Int32 :=
  (k10 l1 l2 l3 (l4 + 1))
theorem bX9_groupAt_107 {X : Xc} {K : Kc} (C : MC X K cX9_groupAt 5 RX9 rmX9_groupAt) (hr : K.meth.sig.returnType = (some .int)) (σ : Sg) (b : Nat) (hb : moOK b){k10 : Int32 → Int32 → Int32 → Int32 → Option Int32} (hk10 : ∀ (l1 : Int32) (l2 : Int32) (l3 : Int32) (l4 : Int32), GO X K 5 (fun r => MQi X K r σ) (k10 l1 l2 l3 l4) σ 0 0 10 [some (.ref (X.ad b)), some (.int (l1)), some (.int (l2)), some (.int (l3)), some (.int (l4))] []) (l1 : Int32) (l2 : Int32) (l3 : Int32) (l4 : Int32) : GO X K 5 (fun r => MQi X K r σ) (fX9_groupAt_107 σ b k10 l1 l2 l3 l4) σ 0 0 107 [some (.ref (X.ad b)), some (.int (l1)), some (.int (l2)), some (.int (l3)), some (.int (l4))] [] := by
  unfold fX9_groupAt_107
  refine g_iinc (pc := 107) (v := l4 + 1) C dX9_groupAt_107 rfl (rfl) (Nat.le_of_ble_eq_true rfl) rfl ?_
  refine g_goto (pc := 110) (tgt := 10) C dX9_groupAt_110 rfl ?_
  refine g_keep [true, true, true, true, true] ?_
  exact hk10 l1 l2 l3 (l4 + 1)
def fX9_groupAt_10 (σ : Sg) (b : Nat) : Nat → Int32 → Int32 → Int32 → Int32 → Option Int32
  | 0, _, _, _, _ => none
  | n + 1, l1, l2, l3, l4 =>
    if 24 ≤ l4 then
      some (-1)
    else
      if l3 = (-1) then
        some (-1)
      else
        (fX9_its σ b l4 0).bind fun r2 =>
        if r2 = 2 then
          if ck l4 24 then
            if (σ.1 (b + 5) l4.toNatClampNeg) = 0 then
              (fX9_groupAt_107 σ b (fX9_groupAt_10 σ b n) l1 l2 l3 l4)
            else
              (fX9_windowOf σ b l4).bind fun r3 =>
              if r3 = l3 then
                if ck (4 * l4) 96 then
                  if ck ((4 * l4) + 1) 96 then
                    if ck ((4 * l4) + 2) 96 then
                      if ck ((4 * l4) + 3) 96 then
                        (fX9_isInside σ b l1 l2 (σ.1 (b + 7) (4 * l4).toNatClampNeg) (σ.1 (b + 7) ((4 * l4) + 1).toNatClampNeg) (σ.1 (b + 7) ((4 * l4) + 2).toNatClampNeg) (σ.1 (b + 7) ((4 * l4) + 3).toNatClampNeg)).bind fun r4 =>
                        if r4 = true then
                          some l4
                        else
                          (fX9_groupAt_107 σ b (fX9_groupAt_10 σ b n) l1 l2 l3 l4)
                      else none
                    else none
                  else none
                else none
              else
                (fX9_groupAt_107 σ b (fX9_groupAt_10 σ b n) l1 l2 l3 l4)
          else none
        else
          (fX9_groupAt_107 σ b (fX9_groupAt_10 σ b n) l1 l2 l3 l4)
theorem bX9_groupAt_10 {X : Xc} {K : Kc} (C : MC X K cX9_groupAt 5 RX9 rmX9_groupAt) (hr : K.meth.sig.returnType = (some .int)) (σ : Sg) (b : Nat) (hb : moOK b) : ∀ (n : Nat) (l1 : Int32) (l2 : Int32) (l3 : Int32) (l4 : Int32), GO X K 5 (fun r => MQi X K r σ) (fX9_groupAt_10 σ b n l1 l2 l3 l4) σ 0 0 10 [some (.ref (X.ad b)), some (.int (l1)), some (.int (l2)), some (.int (l3)), some (.int (l4))] [] := by
  intro n
  induction n with
  | zero =>
    intro l1 l2 l3 l4
    exact g_none
  | succ n ih =>
    intro l1 l2 l3 l4
    unfold fX9_groupAt_10
    refine g_iload (pc := 10) C dX9_groupAt_10 rfl ?_
    refine g_bipush (pc := 12) (v := 24) C dX9_groupAt_12 (by decide) ?_
    refine g_icmp_ge (pc := 14) (tgt := 113) C dX9_groupAt_14 rfl ?_ ?_
    · refine g_iconst (pc := 113) (v := (-1)) C dX9_groupAt_113 (by decide) ?_
      exact g_iret (pc := 114) C hr dX9_groupAt_114 rfl
    · refine g_iload_n (pc := 17) (i := 3) C dX9_groupAt_17 rfl rfl ?_
      refine g_iconst (pc := 18) (v := (-1)) C dX9_groupAt_18 (by decide) ?_
      refine g_icmp_eq (pc := 19) (tgt := 113) C dX9_groupAt_19 rfl ?_ ?_
      · refine g_iconst (pc := 113) (v := (-1)) C dX9_groupAt_113 (by decide) ?_
        exact g_iret (pc := 114) C hr dX9_groupAt_114 rfl
      · refine g_aload_n (pc := 22) (i := 0) C dX9_groupAt_22 rfl rfl ?_
        refine g_iload (pc := 23) C dX9_groupAt_23 rfl ?_
        refine g_iconst (pc := 25) (v := 0) C dX9_groupAt_25 (by decide) ?_
        refine g_callVi (pc := 26) (As := [.int (l4), .int (0)]) C (kX9_its X σ b l4 0 hb) (blk hb 0 rfl) rfl q_20_12 q_20_13 q_20_14 q_1_5 q_20_15 ⟨rfl, hdX9_its⟩ ⟨Nat.le_of_ble_eq_true rfl, Nat.le_of_ble_eq_true rfl, rfl, rfl⟩ ⟨Nat.zero_le _, Nat.zero_le _⟩ (Nat.le_of_ble_eq_true rfl) rfl rfl dX9_groupAt_26 (fun r2 _ => ?_)
        refine g_iconst (pc := 29) (v := 2) C dX9_groupAt_29 (by decide) ?_
        refine g_icmp_ne (pc := 30) (tgt := 107) C dX9_groupAt_30 rfl ?_ ?_
        · refine g_aload_n (pc := 33) (i := 0) C dX9_groupAt_33 rfl rfl ?_
          refine g_getr (pc := 34) (ci := 9) (N := 27) (T := TX9) (j := 7) (Cn := RX9) (b + 5) C rfl inlX9 (Nat.le_of_ble_eq_true rfl) q_6_7 (blk hb 0 rfl) rfl dX9_groupAt_34 ?_
          refine g_iload (pc := 37) C dX9_groupAt_37 rfl ?_
          refine g_baload (pc := 39) C (blk hb 5 rfl) dX9_groupAt_39 ?_
          refine g_if_eq (pc := 40) (tgt := 107) C dX9_groupAt_40 rfl ?_ ?_
          · refine g_keep [true, true, true, true, true] ?_
            exact bX9_groupAt_107 C hr σ b hb ih l1 l2 l3 l4
          · refine g_aload_n (pc := 43) (i := 0) C dX9_groupAt_43 rfl rfl ?_
            refine g_iload (pc := 44) C dX9_groupAt_44 rfl ?_
            refine g_callVi (pc := 46) (As := [.int (l4)]) C (kX9_windowOf X σ b l4 hb) (blk hb 0 rfl) rfl q_22_4 q_22_5 q_22_6 q_1_5 q_22_7 ⟨rfl, hdX9_windowOf⟩ ⟨Nat.le_of_ble_eq_true rfl, Nat.le_of_ble_eq_true rfl, rfl, rfl⟩ ⟨Nat.zero_le _, Nat.zero_le _⟩ (Nat.le_of_ble_eq_true rfl) rfl rfl dX9_groupAt_46 (fun r3 _ => ?_)
            refine g_iload_n (pc := 49) (i := 3) C dX9_groupAt_49 rfl rfl ?_
            refine g_icmp_ne (pc := 50) (tgt := 107) C dX9_groupAt_50 rfl ?_ ?_
            · refine g_aload_n (pc := 53) (i := 0) C dX9_groupAt_53 rfl rfl ?_
              refine g_iload_n (pc := 54) (i := 1) C dX9_groupAt_54 rfl rfl ?_
              refine g_iload_n (pc := 55) (i := 2) C dX9_groupAt_55 rfl rfl ?_
              refine g_aload_n (pc := 56) (i := 0) C dX9_groupAt_56 rfl rfl ?_
              refine g_getr (pc := 57) (ci := 9) (N := 27) (T := TX9) (j := 9) (Cn := RX9) (b + 7) C rfl inlX9 (Nat.le_of_ble_eq_true rfl) q_6_9 (blk hb 0 rfl) rfl dX9_groupAt_57 ?_
              refine g_iconst (pc := 60) (v := 4) C dX9_groupAt_60 (by decide) ?_
              refine g_iload (pc := 61) C dX9_groupAt_61 rfl ?_
              refine g_imul (pc := 63) C dX9_groupAt_63 ?_
              refine g_iaload (pc := 64) C (blk hb 7 rfl) dX9_groupAt_64 ?_
              refine g_aload_n (pc := 65) (i := 0) C dX9_groupAt_65 rfl rfl ?_
              refine g_getr (pc := 66) (ci := 9) (N := 27) (T := TX9) (j := 9) (Cn := RX9) (b + 7) C rfl inlX9 (Nat.le_of_ble_eq_true rfl) q_6_9 (blk hb 0 rfl) rfl dX9_groupAt_66 ?_
              refine g_iconst (pc := 69) (v := 4) C dX9_groupAt_69 (by decide) ?_
              refine g_iload (pc := 70) C dX9_groupAt_70 rfl ?_
              refine g_imul (pc := 72) C dX9_groupAt_72 ?_
              refine g_iconst (pc := 73) (v := 1) C dX9_groupAt_73 (by decide) ?_
              refine g_iadd (pc := 74) C dX9_groupAt_74 ?_
              refine g_iaload (pc := 75) C (blk hb 7 rfl) dX9_groupAt_75 ?_
              refine g_aload_n (pc := 76) (i := 0) C dX9_groupAt_76 rfl rfl ?_
              refine g_getr (pc := 77) (ci := 9) (N := 27) (T := TX9) (j := 9) (Cn := RX9) (b + 7) C rfl inlX9 (Nat.le_of_ble_eq_true rfl) q_6_9 (blk hb 0 rfl) rfl dX9_groupAt_77 ?_
              refine g_iconst (pc := 80) (v := 4) C dX9_groupAt_80 (by decide) ?_
              refine g_iload (pc := 81) C dX9_groupAt_81 rfl ?_
              refine g_imul (pc := 83) C dX9_groupAt_83 ?_
              refine g_iconst (pc := 84) (v := 2) C dX9_groupAt_84 (by decide) ?_
              refine g_iadd (pc := 85) C dX9_groupAt_85 ?_
              refine g_iaload (pc := 86) C (blk hb 7 rfl) dX9_groupAt_86 ?_
              refine g_aload_n (pc := 87) (i := 0) C dX9_groupAt_87 rfl rfl ?_
              refine g_getr (pc := 88) (ci := 9) (N := 27) (T := TX9) (j := 9) (Cn := RX9) (b + 7) C rfl inlX9 (Nat.le_of_ble_eq_true rfl) q_6_9 (blk hb 0 rfl) rfl dX9_groupAt_88 ?_
              refine g_iconst (pc := 91) (v := 4) C dX9_groupAt_91 (by decide) ?_
              refine g_iload (pc := 92) C dX9_groupAt_92 rfl ?_
              refine g_imul (pc := 94) C dX9_groupAt_94 ?_
              refine g_iconst (pc := 95) (v := 3) C dX9_groupAt_95 (by decide) ?_
              refine g_iadd (pc := 96) C dX9_groupAt_96 ?_
              refine g_iaload (pc := 97) C (blk hb 7 rfl) dX9_groupAt_97 ?_
              refine g_callVi (pc := 98) (As := [.int (l1), .int (l2), .int (σ.1 (b + 7) (4 * l4).toNatClampNeg), .int (σ.1 (b + 7) ((4 * l4) + 1).toNatClampNeg), .int (σ.1 (b + 7) ((4 * l4) + 2).toNatClampNeg), .int (σ.1 (b + 7) ((4 * l4) + 3).toNatClampNeg)]) C (kX9_isInside X σ b l1 l2 (σ.1 (b + 7) (4 * l4).toNatClampNeg) (σ.1 (b + 7) ((4 * l4) + 1).toNatClampNeg) (σ.1 (b + 7) ((4 * l4) + 2).toNatClampNeg) (σ.1 (b + 7) ((4 * l4) + 3).toNatClampNeg) hb) (blk hb 0 rfl) rfl q_44_21 q_44_22 q_44_23 q_1_5 q_45_0 ⟨rfl, hdX9_isInside⟩ ⟨Nat.le_of_ble_eq_true rfl, Nat.le_of_ble_eq_true rfl, rfl, rfl⟩ ⟨Nat.zero_le _, Nat.zero_le _⟩ (Nat.le_of_ble_eq_true rfl) rfl rfl dX9_groupAt_98 (fun r4 _ => ?_)
              refine g_ifb_eq (pc := 101) (tgt := 107) C dX9_groupAt_101 rfl ?_ ?_
              · refine g_iload (pc := 104) C dX9_groupAt_104 rfl ?_
                exact g_iret (pc := 106) C hr dX9_groupAt_106 rfl
              · refine g_keep [true, true, true, true, true] ?_
                exact bX9_groupAt_107 C hr σ b hb ih l1 l2 l3 l4
            · refine g_keep [true, true, true, true, true] ?_
              exact bX9_groupAt_107 C hr σ b hb ih l1 l2 l3 l4
        · refine g_keep [true, true, true, true, true] ?_
          exact bX9_groupAt_107 C hr σ b hb ih l1 l2 l3 l4
def fX9_groupAt (σ : Sg) (b : Nat) (p1 : Int32) (p2 : Int32) : Option Int32 :=
  (fX9_windowAt σ b p1 p2).bind fun r1 =>
  (fX9_groupAt_10 σ b FU p1 p2 r1 0)
theorem kX9_groupAt (X : Xc) (σ : Sg) (b : Nat) (p1 : Int32) (p2 : Int32) (hb : moOK b) : ∀ r, fX9_groupAt σ b p1 p2 = some r → Met X.l yX9_groupAt (wsM yX9_groupAt cX9_groupAt 5 (some .int)) rmX9_groupAt (va_Pc [.ref (X.ad b), .int p1, .int p2] (PW X σ)) (Qi X r σ) 0 0 X.A := by
  refine mt_of (own := RX9) (lo := [some (.ref (X.ad b)), some (.int (p1)), some (.int (p2)), none, none]) (by decide) rfl (Nat.le_of_ble_eq_true rfl) rfl (fun K C hr => ?_)
  unfold fX9_groupAt
  refine g_aload_n (pc := 0) (i := 0) C dX9_groupAt_0 rfl rfl ?_
  refine g_iload_n (pc := 1) (i := 1) C dX9_groupAt_1 rfl rfl ?_
  refine g_iload_n (pc := 2) (i := 2) C dX9_groupAt_2 rfl rfl ?_
  refine g_callVi (pc := 3) (As := [.int (p1), .int (p2)]) C (kX9_windowAt X σ b p1 p2 hb) (blk hb 0 rfl) rfl q_44_13 q_44_14 q_44_15 q_1_5 q_44_16 ⟨rfl, hdX9_windowAt⟩ ⟨Nat.le_of_ble_eq_true rfl, Nat.le_of_ble_eq_true rfl, rfl, rfl⟩ ⟨Nat.zero_le _, Nat.zero_le _⟩ (Nat.le_of_ble_eq_true rfl) rfl rfl dX9_groupAt_3 (fun r1 _ => ?_)
  refine g_istore_n (pc := 6) (i := 3) C dX9_groupAt_6 rfl (Nat.le_of_ble_eq_true rfl) rfl ?_
  refine g_iconst (pc := 7) (v := 0) C dX9_groupAt_7 (by decide) ?_
  refine g_istore (pc := 8) C dX9_groupAt_8 (Nat.le_of_ble_eq_true rfl) rfl ?_
  refine g_keep [true, true, true, true, true] ?_
  exact bX9_groupAt_10 C hr σ b hb FU p1 p2 r1 0
theorem dX9_kindAt_0 : decode cX9_kindAt 0 = .ok (.aload_n 0, 1) := by decide +kernel
theorem dX9_kindAt_1 : decode cX9_kindAt 1 = .ok (.iconst 0, 1) := by decide +kernel
theorem dX9_kindAt_2 : decode cX9_kindAt 2 = .ok (.putfield 50, 3) := by decide +kernel
theorem dX9_kindAt_5 : decode cX9_kindAt 5 = .ok (.aload_n 0, 1) := by decide +kernel
theorem dX9_kindAt_6 : decode cX9_kindAt 6 = .ok (.invokevirtual 193, 3) := by decide +kernel
theorem dX9_kindAt_9 : decode cX9_kindAt 9 = .ok (.aload_n 0, 1) := by decide +kernel
theorem dX9_kindAt_10 : decode cX9_kindAt 10 = .ok (.iload_n 1, 1) := by decide +kernel
theorem dX9_kindAt_11 : decode cX9_kindAt 11 = .ok (.iload_n 2, 1) := by decide +kernel
theorem dX9_kindAt_12 : decode cX9_kindAt 12 = .ok (.invokevirtual 248, 3) := by decide +kernel
theorem dX9_kindAt_15 : decode cX9_kindAt 15 = .ok (.istore_n 3, 1) := by decide +kernel
theorem dX9_kindAt_16 : decode cX9_kindAt 16 = .ok (.iload_n 3, 1) := by decide +kernel
theorem dX9_kindAt_17 : decode cX9_kindAt 17 = .ok (.iconst (-1), 1) := by decide +kernel
theorem dX9_kindAt_18 : decode cX9_kindAt 18 = .ok (.if_icmp .ne 7, 3) := by decide +kernel
theorem dX9_kindAt_21 : decode cX9_kindAt 21 = .ok (.iconst (-1), 1) := by decide +kernel
theorem dX9_kindAt_22 : decode cX9_kindAt 22 = .ok (.goto 10, 3) := by decide +kernel
theorem dX9_kindAt_25 : decode cX9_kindAt 25 = .ok (.aload_n 0, 1) := by decide +kernel
theorem dX9_kindAt_26 : decode cX9_kindAt 26 = .ok (.iload_n 3, 1) := by decide +kernel
theorem dX9_kindAt_27 : decode cX9_kindAt 27 = .ok (.iconst 5, 1) := by decide +kernel
theorem dX9_kindAt_28 : decode cX9_kindAt 28 = .ok (.iconst 1, 1) := by decide +kernel
theorem dX9_kindAt_29 : decode cX9_kindAt 29 = .ok (.invokevirtual 72, 3) := by decide +kernel
theorem dX9_kindAt_32 : decode cX9_kindAt 32 = .ok (.istore 4, 2) := by decide +kernel
theorem dX9_kindAt_34 : decode cX9_kindAt 34 = .ok (.iload 4, 2) := by decide +kernel
theorem dX9_kindAt_36 : decode cX9_kindAt 36 = .ok (.iconst (-1), 1) := by decide +kernel
theorem dX9_kindAt_37 : decode cX9_kindAt 37 = .ok (.if_icmp .eq 13, 3) := by decide +kernel
theorem dX9_kindAt_40 : decode cX9_kindAt 40 = .ok (.aload_n 0, 1) := by decide +kernel
theorem dX9_kindAt_41 : decode cX9_kindAt 41 = .ok (.getfield 22, 3) := by decide +kernel
theorem dX9_kindAt_44 : decode cX9_kindAt 44 = .ok (.iload 4, 2) := by decide +kernel
theorem dX9_kindAt_46 : decode cX9_kindAt 46 = .ok (.baload, 1) := by decide +kernel
theorem dX9_kindAt_47 : decode cX9_kindAt 47 = .ok (.ifCond .ne 5, 3) := by decide +kernel
theorem dX9_kindAt_50 : decode cX9_kindAt 50 = .ok (.iconst 0, 1) := by decide +kernel
theorem dX9_kindAt_51 : decode cX9_kindAt 51 = .ok (.ireturn, 1) := by decide +kernel
theorem dX9_kindAt_52 : decode cX9_kindAt 52 = .ok (.aload_n 0, 1) := by decide +kernel
theorem dX9_kindAt_53 : decode cX9_kindAt 53 = .ok (.iload_n 1, 1) := by decide +kernel
theorem dX9_kindAt_54 : decode cX9_kindAt 54 = .ok (.iload_n 2, 1) := by decide +kernel
theorem dX9_kindAt_55 : decode cX9_kindAt 55 = .ok (.invokevirtual 251, 3) := by decide +kernel
theorem dX9_kindAt_58 : decode cX9_kindAt 58 = .ok (.istore 5, 2) := by decide +kernel
theorem dX9_kindAt_60 : decode cX9_kindAt 60 = .ok (.iload 5, 2) := by decide +kernel
theorem dX9_kindAt_62 : decode cX9_kindAt 62 = .ok (.iconst (-1), 1) := by decide +kernel
theorem dX9_kindAt_63 : decode cX9_kindAt 63 = .ok (.if_icmp .ne 7, 3) := by decide +kernel
theorem dX9_kindAt_66 : decode cX9_kindAt 66 = .ok (.iconst 3, 1) := by decide +kernel
theorem dX9_kindAt_67 : decode cX9_kindAt 67 = .ok (.goto 23, 3) := by decide +kernel
theorem dX9_kindAt_70 : decode cX9_kindAt 70 = .ok (.iload_n 2, 1) := by decide +kernel
theorem dX9_kindAt_71 : decode cX9_kindAt 71 = .ok (.aload_n 0, 1) := by decide +kernel
theorem dX9_kindAt_72 : decode cX9_kindAt 72 = .ok (.getfield 29, 3) := by decide +kernel
theorem dX9_kindAt_75 : decode cX9_kindAt 75 = .ok (.iconst 4, 1) := by decide +kernel
theorem dX9_kindAt_76 : decode cX9_kindAt 76 = .ok (.iload 5, 2) := by decide +kernel
theorem dX9_kindAt_78 : decode cX9_kindAt 78 = .ok (.imul, 1) := by decide +kernel
theorem dX9_kindAt_79 : decode cX9_kindAt 79 = .ok (.iconst 1, 1) := by decide +kernel
theorem dX9_kindAt_80 : decode cX9_kindAt 80 = .ok (.iadd, 1) := by decide +kernel
theorem dX9_kindAt_81 : decode cX9_kindAt 81 = .ok (.iaload, 1) := by decide +kernel
theorem dX9_kindAt_82 : decode cX9_kindAt 82 = .ok (.if_icmp .ne 7, 3) := by decide +kernel
theorem dX9_kindAt_85 : decode cX9_kindAt 85 = .ok (.iconst 2, 1) := by decide +kernel
theorem dX9_kindAt_86 : decode cX9_kindAt 86 = .ok (.goto 4, 3) := by decide +kernel
theorem dX9_kindAt_89 : decode cX9_kindAt 89 = .ok (.iconst 1, 1) := by decide +kernel
theorem dX9_kindAt_90 : decode cX9_kindAt 90 = .ok (.ireturn, 1) := by decide +kernel
abbrev rmX9_kindAt : Room := { frames := 8, cells := 0, slots := 0, locals := 205 }
theorem hdX9_kindAt : yX9_kindAt.cls ≠ "java/lang/invoke/MethodHandle" ∧ yX9_kindAt.cls ≠ "java/lang/invoke/VarHandle" ∧ (parseMethodDescriptor yX9_kindAt.desc).map (fun d => d.parameters.length) = some 2 := by decide +kernel
def fX9_kindAt_32 (b : Nat) (σ : Sg) (l1 : Int32) (l2 : Int32) (s0 : Int32) : Option (Int32 × Sg) :=
  if s0 = (-1) then
    some (0, σ)
  else
    if ck s0 24 then
      if (σ.1 (b + 5) s0.toNatClampNeg) = 0 then
        some (0, σ)
      else
        (fX9_groupAt σ b l1 l2).bind fun r5 =>
        if r5 = (-1) then
          some (3, σ)
        else
          if ck ((4 * r5) + 1) 96 then
            if l2 = (σ.1 (b + 7) ((4 * r5) + 1).toNatClampNeg) then
              some (2, σ)
            else
              some (1, σ)
          else none
    else none
theorem bX9_kindAt_32 {X : Xc} {K : Kc} (C : MC X K cX9_kindAt 6 RX9 rmX9_kindAt) (hr : K.meth.sig.returnType = (some .int)) (b : Nat) (hb : moOK b) (σ : Sg) (l1 : Int32) (l2 : Int32) (s0 : Int32) : GO X K 6 (fun r => MQi X K r.1 r.2) (fX9_kindAt_32 b σ l1 l2 s0) σ 0 0 32 [some (.ref (X.ad b)), some (.int (l1)), some (.int (l2)), none, none, none] [.int (s0)] := by
  unfold fX9_kindAt_32
  refine g_istore (pc := 32) C dX9_kindAt_32 (Nat.le_of_ble_eq_true rfl) rfl ?_
  refine g_iload (pc := 34) C dX9_kindAt_34 rfl ?_
  refine g_iconst (pc := 36) (v := (-1)) C dX9_kindAt_36 (by decide) ?_
  refine g_icmp_eq (pc := 37) (tgt := 50) C dX9_kindAt_37 rfl ?_ ?_
  · refine g_iconst (pc := 50) (v := 0) C dX9_kindAt_50 (by decide) ?_
    exact g_iret (pc := 51) C hr dX9_kindAt_51 rfl
  · refine g_aload_n (pc := 40) (i := 0) C dX9_kindAt_40 rfl rfl ?_
    refine g_getr (pc := 41) (ci := 9) (N := 27) (T := TX9) (j := 7) (Cn := RX9) (b + 5) C rfl inlX9 (Nat.le_of_ble_eq_true rfl) q_6_7 (blk hb 0 rfl) rfl dX9_kindAt_41 ?_
    refine g_iload (pc := 44) C dX9_kindAt_44 rfl ?_
    refine g_baload (pc := 46) C (blk hb 5 rfl) dX9_kindAt_46 ?_
    refine g_if_ne (pc := 47) (tgt := 52) C dX9_kindAt_47 rfl ?_ ?_
    · refine g_iconst (pc := 50) (v := 0) C dX9_kindAt_50 (by decide) ?_
      exact g_iret (pc := 51) C hr dX9_kindAt_51 rfl
    · refine g_aload_n (pc := 52) (i := 0) C dX9_kindAt_52 rfl rfl ?_
      refine g_iload_n (pc := 53) (i := 1) C dX9_kindAt_53 rfl rfl ?_
      refine g_iload_n (pc := 54) (i := 2) C dX9_kindAt_54 rfl rfl ?_
      refine g_callVi (pc := 55) (As := [.int (l1), .int (l2)]) C (kX9_groupAt X σ b l1 l2 hb) (blk hb 0 rfl) rfl q_45_1 q_45_2 q_45_3 q_1_5 q_45_4 ⟨rfl, hdX9_groupAt⟩ ⟨Nat.le_of_ble_eq_true rfl, Nat.le_of_ble_eq_true rfl, rfl, rfl⟩ ⟨Nat.zero_le _, Nat.zero_le _⟩ (Nat.le_of_ble_eq_true rfl) rfl rfl dX9_kindAt_55 (fun r5 _ => ?_)
      refine g_istore (pc := 58) C dX9_kindAt_58 (Nat.le_of_ble_eq_true rfl) rfl ?_
      refine g_iload (pc := 60) C dX9_kindAt_60 rfl ?_
      refine g_iconst (pc := 62) (v := (-1)) C dX9_kindAt_62 (by decide) ?_
      refine g_icmp_ne (pc := 63) (tgt := 70) C dX9_kindAt_63 rfl ?_ ?_
      · refine g_iconst (pc := 66) (v := 3) C dX9_kindAt_66 (by decide) ?_
        refine g_goto (pc := 67) (tgt := 90) C dX9_kindAt_67 rfl ?_
        exact g_iret (pc := 90) C hr dX9_kindAt_90 rfl
      · refine g_iload_n (pc := 70) (i := 2) C dX9_kindAt_70 rfl rfl ?_
        refine g_aload_n (pc := 71) (i := 0) C dX9_kindAt_71 rfl rfl ?_
        refine g_getr (pc := 72) (ci := 9) (N := 27) (T := TX9) (j := 9) (Cn := RX9) (b + 7) C rfl inlX9 (Nat.le_of_ble_eq_true rfl) q_6_9 (blk hb 0 rfl) rfl dX9_kindAt_72 ?_
        refine g_iconst (pc := 75) (v := 4) C dX9_kindAt_75 (by decide) ?_
        refine g_iload (pc := 76) C dX9_kindAt_76 rfl ?_
        refine g_imul (pc := 78) C dX9_kindAt_78 ?_
        refine g_iconst (pc := 79) (v := 1) C dX9_kindAt_79 (by decide) ?_
        refine g_iadd (pc := 80) C dX9_kindAt_80 ?_
        refine g_iaload (pc := 81) C (blk hb 7 rfl) dX9_kindAt_81 ?_
        refine g_icmp_ne (pc := 82) (tgt := 89) C dX9_kindAt_82 rfl ?_ ?_
        · refine g_iconst (pc := 85) (v := 2) C dX9_kindAt_85 (by decide) ?_
          refine g_goto (pc := 86) (tgt := 90) C dX9_kindAt_86 rfl ?_
          exact g_iret (pc := 90) C hr dX9_kindAt_90 rfl
        · refine g_iconst (pc := 89) (v := 1) C dX9_kindAt_89 (by decide) ?_
          exact g_iret (pc := 90) C hr dX9_kindAt_90 rfl
def fX9_kindAt (σ : Sg) (b : Nat) (p1 : Int32) (p2 : Int32) : Option (Int32 × Sg) :=
  nm (su σ b 3 0) fun σ1 =>
  (fX9_lays σ1 b).bind fun σ2 =>
  (fX9_windowAt σ2 b p1 p2).bind fun r3 =>
  if r3 = (-1) then
    (fX9_kindAt_32 b σ2 p1 p2 (-1))
  else
    (fX9_window σ2 b r3 5 1).bind fun r4 =>
    (fX9_kindAt_32 b σ2 p1 p2 r4)
theorem kX9_kindAt (X : Xc) (σ : Sg) (b : Nat) (p1 : Int32) (p2 : Int32) (hb : moOK b) : ∀ r, fX9_kindAt σ b p1 p2 = some r → Met X.l yX9_kindAt (wsM yX9_kindAt cX9_kindAt 6 (some .int)) rmX9_kindAt (va_Pc [.ref (X.ad b), .int p1, .int p2] (PW X σ)) (Qi X r.1 r.2) 0 0 X.A := by
  refine mt_of (own := RX9) (lo := [some (.ref (X.ad b)), some (.int (p1)), some (.int (p2)), none, none, none]) (by decide) rfl (Nat.le_of_ble_eq_true rfl) rfl (fun K C hr => ?_)
  unfold fX9_kindAt
  refine g_aload_n (pc := 0) (i := 0) C dX9_kindAt_0 rfl rfl ?_
  refine g_iconst (pc := 1) (v := 0) C dX9_kindAt_1 (by decide) ?_
  refine g_puti (pc := 2) (ci := 9) (N := 27) (T := TX9) (j := 3) (Cn := RX9) C rfl inlX9 tyX9_ok nmX9 (Nat.le_of_ble_eq_true rfl) q_10_13 (blk hb 0 rfl) rfl rfl rfl dX9_kindAt_2 ?_
  refine g_nms (fun σ1 => ?_)
  refine g_aload_n (pc := 5) (i := 0) C dX9_kindAt_5 rfl rfl ?_
  refine g_callVv (pc := 6) (As := []) C (kX9_lays X σ1 b hb) (blk hb 0 rfl) rfl q_26_21 q_26_22 q_26_23 q_1_5 q_27_0 ⟨rfl, hdX9_lays⟩ ⟨Nat.le_of_ble_eq_true rfl, Nat.le_of_ble_eq_true rfl, rfl, rfl⟩ ⟨Nat.zero_le _, Nat.zero_le _⟩ (Nat.le_of_ble_eq_true rfl) rfl rfl dX9_kindAt_6 (fun σ2 _ => ?_)
  refine g_aload_n (pc := 9) (i := 0) C dX9_kindAt_9 rfl rfl ?_
  refine g_iload_n (pc := 10) (i := 1) C dX9_kindAt_10 rfl rfl ?_
  refine g_iload_n (pc := 11) (i := 2) C dX9_kindAt_11 rfl rfl ?_
  refine g_callVi (pc := 12) (As := [.int (p1), .int (p2)]) C (kX9_windowAt X σ2 b p1 p2 hb) (blk hb 0 rfl) rfl q_44_13 q_44_14 q_44_15 q_1_5 q_44_16 ⟨rfl, hdX9_windowAt⟩ ⟨Nat.le_of_ble_eq_true rfl, Nat.le_of_ble_eq_true rfl, rfl, rfl⟩ ⟨Nat.zero_le _, Nat.zero_le _⟩ (Nat.le_of_ble_eq_true rfl) rfl rfl dX9_kindAt_12 (fun r3 _ => ?_)
  refine g_istore_n (pc := 15) (i := 3) C dX9_kindAt_15 rfl (Nat.le_of_ble_eq_true rfl) rfl ?_
  refine g_iload_n (pc := 16) (i := 3) C dX9_kindAt_16 rfl rfl ?_
  refine g_iconst (pc := 17) (v := (-1)) C dX9_kindAt_17 (by decide) ?_
  refine g_icmp_ne (pc := 18) (tgt := 25) C dX9_kindAt_18 rfl ?_ ?_
  · refine g_iconst (pc := 21) (v := (-1)) C dX9_kindAt_21 (by decide) ?_
    refine g_goto (pc := 22) (tgt := 32) C dX9_kindAt_22 rfl ?_
    refine g_keep [true, true, true, false, false, false] ?_
    exact bX9_kindAt_32 C hr b hb σ2 p1 p2 (-1)
  · refine g_aload_n (pc := 25) (i := 0) C dX9_kindAt_25 rfl rfl ?_
    refine g_iload_n (pc := 26) (i := 3) C dX9_kindAt_26 rfl rfl ?_
    refine g_iconst (pc := 27) (v := 5) C dX9_kindAt_27 (by decide) ?_
    refine g_iconst (pc := 28) (v := 1) C dX9_kindAt_28 (by decide) ?_
    refine g_callVi (pc := 29) (As := [.int (r3), .int (5), .int (1)]) C (kX9_window X σ2 b r3 5 1 hb) (blk hb 0 rfl) rfl q_22_12 q_22_13 q_22_14 q_1_5 q_22_15 ⟨rfl, hdX9_window⟩ ⟨Nat.le_of_ble_eq_true rfl, Nat.le_of_ble_eq_true rfl, rfl, rfl⟩ ⟨Nat.zero_le _, Nat.zero_le _⟩ (Nat.le_of_ble_eq_true rfl) rfl rfl dX9_kindAt_29 (fun r4 _ => ?_)
    refine g_keep [true, true, true, false, false, false] ?_
    exact bX9_kindAt_32 C hr b hb σ2 p1 p2 r4
theorem dX9_paneAt_0 : decode cX9_paneAt 0 = .ok (.aload_n 0, 1) := by decide +kernel
theorem dX9_paneAt_1 : decode cX9_paneAt 1 = .ok (.iconst 0, 1) := by decide +kernel
theorem dX9_paneAt_2 : decode cX9_paneAt 2 = .ok (.putfield 50, 3) := by decide +kernel
theorem dX9_paneAt_5 : decode cX9_paneAt 5 = .ok (.aload_n 0, 1) := by decide +kernel
theorem dX9_paneAt_6 : decode cX9_paneAt 6 = .ok (.invokevirtual 193, 3) := by decide +kernel
theorem dX9_paneAt_9 : decode cX9_paneAt 9 = .ok (.aload_n 0, 1) := by decide +kernel
theorem dX9_paneAt_10 : decode cX9_paneAt 10 = .ok (.iload_n 1, 1) := by decide +kernel
theorem dX9_paneAt_11 : decode cX9_paneAt 11 = .ok (.iload_n 2, 1) := by decide +kernel
theorem dX9_paneAt_12 : decode cX9_paneAt 12 = .ok (.invokevirtual 251, 3) := by decide +kernel
theorem dX9_paneAt_15 : decode cX9_paneAt 15 = .ok (.istore_n 3, 1) := by decide +kernel
theorem dX9_paneAt_16 : decode cX9_paneAt 16 = .ok (.iload_n 3, 1) := by decide +kernel
theorem dX9_paneAt_17 : decode cX9_paneAt 17 = .ok (.iconst (-1), 1) := by decide +kernel
theorem dX9_paneAt_18 : decode cX9_paneAt 18 = .ok (.if_icmp .ne 5, 3) := by decide +kernel
theorem dX9_paneAt_21 : decode cX9_paneAt 21 = .ok (.iconst (-1), 1) := by decide +kernel
theorem dX9_paneAt_22 : decode cX9_paneAt 22 = .ok (.ireturn, 1) := by decide +kernel
theorem dX9_paneAt_23 : decode cX9_paneAt 23 = .ok (.iload_n 2, 1) := by decide +kernel
theorem dX9_paneAt_24 : decode cX9_paneAt 24 = .ok (.aload_n 0, 1) := by decide +kernel
theorem dX9_paneAt_25 : decode cX9_paneAt 25 = .ok (.getfield 29, 3) := by decide +kernel
theorem dX9_paneAt_28 : decode cX9_paneAt 28 = .ok (.iconst 4, 1) := by decide +kernel
theorem dX9_paneAt_29 : decode cX9_paneAt 29 = .ok (.iload_n 3, 1) := by decide +kernel
theorem dX9_paneAt_30 : decode cX9_paneAt 30 = .ok (.imul, 1) := by decide +kernel
theorem dX9_paneAt_31 : decode cX9_paneAt 31 = .ok (.iconst 1, 1) := by decide +kernel
theorem dX9_paneAt_32 : decode cX9_paneAt 32 = .ok (.iadd, 1) := by decide +kernel
theorem dX9_paneAt_33 : decode cX9_paneAt 33 = .ok (.iaload, 1) := by decide +kernel
theorem dX9_paneAt_34 : decode cX9_paneAt 34 = .ok (.if_icmp .eq 10, 3) := by decide +kernel
theorem dX9_paneAt_37 : decode cX9_paneAt 37 = .ok (.aload_n 0, 1) := by decide +kernel
theorem dX9_paneAt_38 : decode cX9_paneAt 38 = .ok (.iload_n 3, 1) := by decide +kernel
theorem dX9_paneAt_39 : decode cX9_paneAt 39 = .ok (.iconst 5, 1) := by decide +kernel
theorem dX9_paneAt_40 : decode cX9_paneAt 40 = .ok (.invokevirtual 76, 3) := by decide +kernel
theorem dX9_paneAt_43 : decode cX9_paneAt 43 = .ok (.ireturn, 1) := by decide +kernel
theorem dX9_paneAt_44 : decode cX9_paneAt 44 = .ok (.iconst 0, 1) := by decide +kernel
theorem dX9_paneAt_45 : decode cX9_paneAt 45 = .ok (.istore 4, 2) := by decide +kernel
theorem dX9_paneAt_47 : decode cX9_paneAt 47 = .ok (.iconst 0, 1) := by decide +kernel
theorem dX9_paneAt_48 : decode cX9_paneAt 48 = .ok (.istore 5, 2) := by decide +kernel
theorem dX9_paneAt_50 : decode cX9_paneAt 50 = .ok (.iload 5, 2) := by decide +kernel
theorem dX9_paneAt_52 : decode cX9_paneAt 52 = .ok (.bipush 12, 2) := by decide +kernel
theorem dX9_paneAt_54 : decode cX9_paneAt 54 = .ok (.if_icmp .ge 40, 3) := by decide +kernel
theorem dX9_paneAt_57 : decode cX9_paneAt 57 = .ok (.iload 4, 2) := by decide +kernel
theorem dX9_paneAt_59 : decode cX9_paneAt 59 = .ok (.aload_n 0, 1) := by decide +kernel
theorem dX9_paneAt_60 : decode cX9_paneAt 60 = .ok (.iload 5, 2) := by decide +kernel
theorem dX9_paneAt_62 : decode cX9_paneAt 62 = .ok (.iconst 3, 1) := by decide +kernel
theorem dX9_paneAt_63 : decode cX9_paneAt 63 = .ok (.invokevirtual 65, 3) := by decide +kernel
theorem dX9_paneAt_66 : decode cX9_paneAt 66 = .ok (.iload_n 3, 1) := by decide +kernel
theorem dX9_paneAt_67 : decode cX9_paneAt 67 = .ok (.if_icmp .ne 17, 3) := by decide +kernel
theorem dX9_paneAt_70 : decode cX9_paneAt 70 = .ok (.aload_n 0, 1) := by decide +kernel
theorem dX9_paneAt_71 : decode cX9_paneAt 71 = .ok (.iload 5, 2) := by decide +kernel
theorem dX9_paneAt_73 : decode cX9_paneAt 73 = .ok (.iconst 5, 1) := by decide +kernel
theorem dX9_paneAt_74 : decode cX9_paneAt 74 = .ok (.invokevirtual 65, 3) := by decide +kernel
theorem dX9_paneAt_77 : decode cX9_paneAt 77 = .ok (.ifCond .ne 7, 3) := by decide +kernel
theorem dX9_paneAt_80 : decode cX9_paneAt 80 = .ok (.iconst 1, 1) := by decide +kernel
theorem dX9_paneAt_81 : decode cX9_paneAt 81 = .ok (.goto 4, 3) := by decide +kernel
theorem dX9_paneAt_84 : decode cX9_paneAt 84 = .ok (.iconst 0, 1) := by decide +kernel
theorem dX9_paneAt_85 : decode cX9_paneAt 85 = .ok (.iadd, 1) := by decide +kernel
theorem dX9_paneAt_86 : decode cX9_paneAt 86 = .ok (.istore 4, 2) := by decide +kernel
theorem dX9_paneAt_88 : decode cX9_paneAt 88 = .ok (.iinc 5 1, 3) := by decide +kernel
theorem dX9_paneAt_91 : decode cX9_paneAt 91 = .ok (.goto (-41), 3) := by decide +kernel
theorem dX9_paneAt_94 : decode cX9_paneAt 94 = .ok (.aload_n 0, 1) := by decide +kernel
theorem dX9_paneAt_95 : decode cX9_paneAt 95 = .ok (.getfield 29, 3) := by decide +kernel
theorem dX9_paneAt_98 : decode cX9_paneAt 98 = .ok (.iconst 4, 1) := by decide +kernel
theorem dX9_paneAt_99 : decode cX9_paneAt 99 = .ok (.iload_n 3, 1) := by decide +kernel
theorem dX9_paneAt_100 : decode cX9_paneAt 100 = .ok (.imul, 1) := by decide +kernel
theorem dX9_paneAt_101 : decode cX9_paneAt 101 = .ok (.iconst 2, 1) := by decide +kernel
theorem dX9_paneAt_102 : decode cX9_paneAt 102 = .ok (.iadd, 1) := by decide +kernel
theorem dX9_paneAt_103 : decode cX9_paneAt 103 = .ok (.iaload, 1) := by decide +kernel
theorem dX9_paneAt_104 : decode cX9_paneAt 104 = .ok (.iload 4, 2) := by decide +kernel
theorem dX9_paneAt_106 : decode cX9_paneAt 106 = .ok (.idiv, 1) := by decide +kernel
theorem dX9_paneAt_107 : decode cX9_paneAt 107 = .ok (.istore 5, 2) := by decide +kernel
theorem dX9_paneAt_109 : decode cX9_paneAt 109 = .ok (.iload 5, 2) := by decide +kernel
theorem dX9_paneAt_111 : decode cX9_paneAt 111 = .ok (.ifCond .eq 23, 3) := by decide +kernel
theorem dX9_paneAt_114 : decode cX9_paneAt 114 = .ok (.iload_n 1, 1) := by decide +kernel
theorem dX9_paneAt_115 : decode cX9_paneAt 115 = .ok (.aload_n 0, 1) := by decide +kernel
theorem dX9_paneAt_116 : decode cX9_paneAt 116 = .ok (.getfield 29, 3) := by decide +kernel
theorem dX9_paneAt_119 : decode cX9_paneAt 119 = .ok (.iconst 4, 1) := by decide +kernel
theorem dX9_paneAt_120 : decode cX9_paneAt 120 = .ok (.iload_n 3, 1) := by decide +kernel
theorem dX9_paneAt_121 : decode cX9_paneAt 121 = .ok (.imul, 1) := by decide +kernel
theorem dX9_paneAt_122 : decode cX9_paneAt 122 = .ok (.iaload, 1) := by decide +kernel
theorem dX9_paneAt_123 : decode cX9_paneAt 123 = .ok (.isub, 1) := by decide +kernel
theorem dX9_paneAt_124 : decode cX9_paneAt 124 = .ok (.iload 5, 2) := by decide +kernel
theorem dX9_paneAt_126 : decode cX9_paneAt 126 = .ok (.idiv, 1) := by decide +kernel
theorem dX9_paneAt_127 : decode cX9_paneAt 127 = .ok (.iload 4, 2) := by decide +kernel
theorem dX9_paneAt_129 : decode cX9_paneAt 129 = .ok (.iconst 1, 1) := by decide +kernel
theorem dX9_paneAt_130 : decode cX9_paneAt 130 = .ok (.isub, 1) := by decide +kernel
theorem dX9_paneAt_131 : decode cX9_paneAt 131 = .ok (.if_icmp .le 10, 3) := by decide +kernel
theorem dX9_paneAt_134 : decode cX9_paneAt 134 = .ok (.iload 4, 2) := by decide +kernel
theorem dX9_paneAt_136 : decode cX9_paneAt 136 = .ok (.iconst 1, 1) := by decide +kernel
theorem dX9_paneAt_137 : decode cX9_paneAt 137 = .ok (.isub, 1) := by decide +kernel
theorem dX9_paneAt_138 : decode cX9_paneAt 138 = .ok (.goto 16, 3) := by decide +kernel
theorem dX9_paneAt_141 : decode cX9_paneAt 141 = .ok (.iload_n 1, 1) := by decide +kernel
theorem dX9_paneAt_142 : decode cX9_paneAt 142 = .ok (.aload_n 0, 1) := by decide +kernel
theorem dX9_paneAt_143 : decode cX9_paneAt 143 = .ok (.getfield 29, 3) := by decide +kernel
theorem dX9_paneAt_146 : decode cX9_paneAt 146 = .ok (.iconst 4, 1) := by decide +kernel
theorem dX9_paneAt_147 : decode cX9_paneAt 147 = .ok (.iload_n 3, 1) := by decide +kernel
theorem dX9_paneAt_148 : decode cX9_paneAt 148 = .ok (.imul, 1) := by decide +kernel
theorem dX9_paneAt_149 : decode cX9_paneAt 149 = .ok (.iaload, 1) := by decide +kernel
theorem dX9_paneAt_150 : decode cX9_paneAt 150 = .ok (.isub, 1) := by decide +kernel
theorem dX9_paneAt_151 : decode cX9_paneAt 151 = .ok (.iload 5, 2) := by decide +kernel
theorem dX9_paneAt_153 : decode cX9_paneAt 153 = .ok (.idiv, 1) := by decide +kernel
theorem dX9_paneAt_154 : decode cX9_paneAt 154 = .ok (.istore 6, 2) := by decide +kernel
theorem dX9_paneAt_156 : decode cX9_paneAt 156 = .ok (.iconst 0, 1) := by decide +kernel
theorem dX9_paneAt_157 : decode cX9_paneAt 157 = .ok (.istore 7, 2) := by decide +kernel
theorem dX9_paneAt_159 : decode cX9_paneAt 159 = .ok (.iload 6, 2) := by decide +kernel
theorem dX9_paneAt_161 : decode cX9_paneAt 161 = .ok (.ifCond .gt 19, 3) := by decide +kernel
theorem dX9_paneAt_164 : decode cX9_paneAt 164 = .ok (.aload_n 0, 1) := by decide +kernel
theorem dX9_paneAt_165 : decode cX9_paneAt 165 = .ok (.aload_n 0, 1) := by decide +kernel
theorem dX9_paneAt_166 : decode cX9_paneAt 166 = .ok (.iload_n 3, 1) := by decide +kernel
theorem dX9_paneAt_167 : decode cX9_paneAt 167 = .ok (.iload 7, 2) := by decide +kernel
theorem dX9_paneAt_169 : decode cX9_paneAt 169 = .ok (.invokevirtual 110, 3) := by decide +kernel
theorem dX9_paneAt_172 : decode cX9_paneAt 172 = .ok (.iconst 5, 1) := by decide +kernel
theorem dX9_paneAt_173 : decode cX9_paneAt 173 = .ok (.invokevirtual 65, 3) := by decide +kernel
theorem dX9_paneAt_176 : decode cX9_paneAt 176 = .ok (.iconst 1, 1) := by decide +kernel
theorem dX9_paneAt_177 : decode cX9_paneAt 177 = .ok (.if_icmp .ne 35, 3) := by decide +kernel
theorem dX9_paneAt_180 : decode cX9_paneAt 180 = .ok (.iload 6, 2) := by decide +kernel
theorem dX9_paneAt_182 : decode cX9_paneAt 182 = .ok (.aload_n 0, 1) := by decide +kernel
theorem dX9_paneAt_183 : decode cX9_paneAt 183 = .ok (.aload_n 0, 1) := by decide +kernel
theorem dX9_paneAt_184 : decode cX9_paneAt 184 = .ok (.iload_n 3, 1) := by decide +kernel
theorem dX9_paneAt_185 : decode cX9_paneAt 185 = .ok (.iload 7, 2) := by decide +kernel
theorem dX9_paneAt_187 : decode cX9_paneAt 187 = .ok (.invokevirtual 110, 3) := by decide +kernel
theorem dX9_paneAt_190 : decode cX9_paneAt 190 = .ok (.iconst 5, 1) := by decide +kernel
theorem dX9_paneAt_191 : decode cX9_paneAt 191 = .ok (.invokevirtual 65, 3) := by decide +kernel
theorem dX9_paneAt_194 : decode cX9_paneAt 194 = .ok (.iconst 1, 1) := by decide +kernel
theorem dX9_paneAt_195 : decode cX9_paneAt 195 = .ok (.if_icmp .ne 7, 3) := by decide +kernel
theorem dX9_paneAt_198 : decode cX9_paneAt 198 = .ok (.iconst 0, 1) := by decide +kernel
theorem dX9_paneAt_199 : decode cX9_paneAt 199 = .ok (.goto 4, 3) := by decide +kernel
theorem dX9_paneAt_202 : decode cX9_paneAt 202 = .ok (.iconst 1, 1) := by decide +kernel
theorem dX9_paneAt_203 : decode cX9_paneAt 203 = .ok (.isub, 1) := by decide +kernel
theorem dX9_paneAt_204 : decode cX9_paneAt 204 = .ok (.istore 6, 2) := by decide +kernel
theorem dX9_paneAt_206 : decode cX9_paneAt 206 = .ok (.iinc 7 1, 3) := by decide +kernel
theorem dX9_paneAt_209 : decode cX9_paneAt 209 = .ok (.goto (-50), 3) := by decide +kernel
theorem dX9_paneAt_212 : decode cX9_paneAt 212 = .ok (.aload_n 0, 1) := by decide +kernel
theorem dX9_paneAt_213 : decode cX9_paneAt 213 = .ok (.iload_n 3, 1) := by decide +kernel
theorem dX9_paneAt_214 : decode cX9_paneAt 214 = .ok (.iload 7, 2) := by decide +kernel
theorem dX9_paneAt_216 : decode cX9_paneAt 216 = .ok (.invokevirtual 110, 3) := by decide +kernel
theorem dX9_paneAt_219 : decode cX9_paneAt 219 = .ok (.ireturn, 1) := by decide +kernel
abbrev rmX9_paneAt : Room := { frames := 8, cells := 0, slots := 0, locals := 205 }
theorem hdX9_paneAt : yX9_paneAt.cls ≠ "java/lang/invoke/MethodHandle" ∧ yX9_paneAt.cls ≠ "java/lang/invoke/VarHandle" ∧ (parseMethodDescriptor yX9_paneAt.desc).map (fun d => d.parameters.length) = some 2 := by decide +kernel
def fX9_paneAt_203 (b : Nat) (k159 : Sg → Int32 → Int32 → Int32 → Option (Int32 × Sg)) (σ : Sg) (l3 : Int32) (l7 : Int32) (s0 : Int32) (s1 : Int32) : Option (Int32 × Sg) :=
  nm (s0 - s1) fun v13 =>
  (k159 σ l3 v13 (l7 + 1))
theorem bX9_paneAt_203 {X : Xc} {K : Kc} (C : MC X K cX9_paneAt 8 RX9 rmX9_paneAt) (hr : K.meth.sig.returnType = (some .int)) (b : Nat) (hb : moOK b){k159 : Sg → Int32 → Int32 → Int32 → Option (Int32 × Sg)} (hk159 : ∀ (σ : Sg) (l3 : Int32) (l6 : Int32) (l7 : Int32), GO X K 8 (fun r => MQi X K r.1 r.2) (k159 σ l3 l6 l7) σ 0 0 159 [some (.ref (X.ad b)), none, none, some (.int (l3)), none, none, some (.int (l6)), some (.int (l7))] []) (σ : Sg) (l3 : Int32) (l7 : Int32) (s0 : Int32) (s1 : Int32) : GO X K 8 (fun r => MQi X K r.1 r.2) (fX9_paneAt_203 b k159 σ l3 l7 s0 s1) σ 0 0 203 [some (.ref (X.ad b)), none, none, some (.int (l3)), none, none, none, some (.int (l7))] [.int (s1), .int (s0)] := by
  unfold fX9_paneAt_203
  refine g_isub (pc := 203) C dX9_paneAt_203 ?_
  refine g_nm (fun v13 => ?_)
  refine g_istore (pc := 204) C dX9_paneAt_204 (Nat.le_of_ble_eq_true rfl) rfl ?_
  refine g_iinc (pc := 206) (v := l7 + 1) C dX9_paneAt_206 rfl (rfl) (Nat.le_of_ble_eq_true rfl) rfl ?_
  refine g_goto (pc := 209) (tgt := 159) C dX9_paneAt_209 rfl ?_
  refine g_keep [true, false, false, true, false, false, true, true] ?_
  exact hk159 σ l3 v13 (l7 + 1)
def fX9_paneAt_180 (b : Nat) (k159 : Sg → Int32 → Int32 → Int32 → Option (Int32 × Sg)) (σ : Sg) (l3 : Int32) (l6 : Int32) (l7 : Int32) : Option (Int32 × Sg) :=
  (fX9_tabAt σ b l3 l7).bind fun r11 =>
  (fX9_of σ b r11 5).bind fun r12 =>
  if r12 = 1 then
    (fX9_paneAt_203 b k159 σ l3 l7 l6 0)
  else
    (fX9_paneAt_203 b k159 σ l3 l7 l6 1)
theorem bX9_paneAt_180 {X : Xc} {K : Kc} (C : MC X K cX9_paneAt 8 RX9 rmX9_paneAt) (hr : K.meth.sig.returnType = (some .int)) (b : Nat) (hb : moOK b){k159 : Sg → Int32 → Int32 → Int32 → Option (Int32 × Sg)} (hk159 : ∀ (σ : Sg) (l3 : Int32) (l6 : Int32) (l7 : Int32), GO X K 8 (fun r => MQi X K r.1 r.2) (k159 σ l3 l6 l7) σ 0 0 159 [some (.ref (X.ad b)), none, none, some (.int (l3)), none, none, some (.int (l6)), some (.int (l7))] []) (σ : Sg) (l3 : Int32) (l6 : Int32) (l7 : Int32) : GO X K 8 (fun r => MQi X K r.1 r.2) (fX9_paneAt_180 b k159 σ l3 l6 l7) σ 0 0 180 [some (.ref (X.ad b)), none, none, some (.int (l3)), none, none, some (.int (l6)), some (.int (l7))] [] := by
  unfold fX9_paneAt_180
  refine g_iload (pc := 180) C dX9_paneAt_180 rfl ?_
  refine g_aload_n (pc := 182) (i := 0) C dX9_paneAt_182 rfl rfl ?_
  refine g_aload_n (pc := 183) (i := 0) C dX9_paneAt_183 rfl rfl ?_
  refine g_iload_n (pc := 184) (i := 3) C dX9_paneAt_184 rfl rfl ?_
  refine g_iload (pc := 185) C dX9_paneAt_185 rfl ?_
  refine g_callVi (pc := 187) (As := [.int (l3), .int (l7)]) C (kX9_tabAt X σ b l3 l7 hb) (blk hb 0 rfl) rfl q_20_20 q_20_21 q_20_22 q_1_5 q_20_23 ⟨rfl, hdX9_tabAt⟩ ⟨Nat.le_of_ble_eq_true rfl, Nat.le_of_ble_eq_true rfl, rfl, rfl⟩ ⟨Nat.zero_le _, Nat.zero_le _⟩ (Nat.le_of_ble_eq_true rfl) rfl rfl dX9_paneAt_187 (fun r11 _ => ?_)
  refine g_iconst (pc := 190) (v := 5) C dX9_paneAt_190 (by decide) ?_
  refine g_callVi (pc := 191) (As := [.int (r11), .int (5)]) C (kX9_of X σ b r11 5 hb) (blk hb 0 rfl) rfl q_10_2 q_10_3 q_10_4 q_1_5 q_10_5 ⟨rfl, hdX9_of⟩ ⟨Nat.le_of_ble_eq_true rfl, Nat.le_of_ble_eq_true rfl, rfl, rfl⟩ ⟨Nat.zero_le _, Nat.zero_le _⟩ (Nat.le_of_ble_eq_true rfl) rfl rfl dX9_paneAt_191 (fun r12 _ => ?_)
  refine g_iconst (pc := 194) (v := 1) C dX9_paneAt_194 (by decide) ?_
  refine g_icmp_ne (pc := 195) (tgt := 202) C dX9_paneAt_195 rfl ?_ ?_
  · refine g_iconst (pc := 198) (v := 0) C dX9_paneAt_198 (by decide) ?_
    refine g_goto (pc := 199) (tgt := 203) C dX9_paneAt_199 rfl ?_
    refine g_keep [true, false, false, true, false, false, false, true] ?_
    exact bX9_paneAt_203 C hr b hb hk159 σ l3 l7 l6 0
  · refine g_iconst (pc := 202) (v := 1) C dX9_paneAt_202 (by decide) ?_
    refine g_keep [true, false, false, true, false, false, false, true] ?_
    exact bX9_paneAt_203 C hr b hb hk159 σ l3 l7 l6 1
def fX9_paneAt_159 (b : Nat) : Nat → Sg → Int32 → Int32 → Int32 → Option (Int32 × Sg)
  | 0, _, _, _, _ => none
  | n + 1, σ, l3, l6, l7 =>
    if 0 < l6 then
      (fX9_paneAt_180 b (fX9_paneAt_159 b n) σ l3 l6 l7)
    else
      (fX9_tabAt σ b l3 l7).bind fun r8 =>
      (fX9_of σ b r8 5).bind fun r9 =>
      if r9 = 1 then
        (fX9_paneAt_180 b (fX9_paneAt_159 b n) σ l3 l6 l7)
      else
        (fX9_tabAt σ b l3 l7).bind fun r10 =>
        some (r10, σ)
theorem bX9_paneAt_159 {X : Xc} {K : Kc} (C : MC X K cX9_paneAt 8 RX9 rmX9_paneAt) (hr : K.meth.sig.returnType = (some .int)) (b : Nat) (hb : moOK b) : ∀ (n : Nat) (σ : Sg) (l3 : Int32) (l6 : Int32) (l7 : Int32), GO X K 8 (fun r => MQi X K r.1 r.2) (fX9_paneAt_159 b n σ l3 l6 l7) σ 0 0 159 [some (.ref (X.ad b)), none, none, some (.int (l3)), none, none, some (.int (l6)), some (.int (l7))] [] := by
  intro n
  induction n with
  | zero =>
    intro σ l3 l6 l7
    exact g_none
  | succ n ih =>
    intro σ l3 l6 l7
    unfold fX9_paneAt_159
    refine g_iload (pc := 159) C dX9_paneAt_159 rfl ?_
    refine g_if_gt (pc := 161) (tgt := 180) C dX9_paneAt_161 rfl ?_ ?_
    · refine g_keep [true, false, false, true, false, false, true, true] ?_
      exact bX9_paneAt_180 C hr b hb ih σ l3 l6 l7
    · refine g_aload_n (pc := 164) (i := 0) C dX9_paneAt_164 rfl rfl ?_
      refine g_aload_n (pc := 165) (i := 0) C dX9_paneAt_165 rfl rfl ?_
      refine g_iload_n (pc := 166) (i := 3) C dX9_paneAt_166 rfl rfl ?_
      refine g_iload (pc := 167) C dX9_paneAt_167 rfl ?_
      refine g_callVi (pc := 169) (As := [.int (l3), .int (l7)]) C (kX9_tabAt X σ b l3 l7 hb) (blk hb 0 rfl) rfl q_20_20 q_20_21 q_20_22 q_1_5 q_20_23 ⟨rfl, hdX9_tabAt⟩ ⟨Nat.le_of_ble_eq_true rfl, Nat.le_of_ble_eq_true rfl, rfl, rfl⟩ ⟨Nat.zero_le _, Nat.zero_le _⟩ (Nat.le_of_ble_eq_true rfl) rfl rfl dX9_paneAt_169 (fun r8 _ => ?_)
      refine g_iconst (pc := 172) (v := 5) C dX9_paneAt_172 (by decide) ?_
      refine g_callVi (pc := 173) (As := [.int (r8), .int (5)]) C (kX9_of X σ b r8 5 hb) (blk hb 0 rfl) rfl q_10_2 q_10_3 q_10_4 q_1_5 q_10_5 ⟨rfl, hdX9_of⟩ ⟨Nat.le_of_ble_eq_true rfl, Nat.le_of_ble_eq_true rfl, rfl, rfl⟩ ⟨Nat.zero_le _, Nat.zero_le _⟩ (Nat.le_of_ble_eq_true rfl) rfl rfl dX9_paneAt_173 (fun r9 _ => ?_)
      refine g_iconst (pc := 176) (v := 1) C dX9_paneAt_176 (by decide) ?_
      refine g_icmp_ne (pc := 177) (tgt := 212) C dX9_paneAt_177 rfl ?_ ?_
      · refine g_keep [true, false, false, true, false, false, true, true] ?_
        exact bX9_paneAt_180 C hr b hb ih σ l3 l6 l7
      · refine g_aload_n (pc := 212) (i := 0) C dX9_paneAt_212 rfl rfl ?_
        refine g_iload_n (pc := 213) (i := 3) C dX9_paneAt_213 rfl rfl ?_
        refine g_iload (pc := 214) C dX9_paneAt_214 rfl ?_
        refine g_callVi (pc := 216) (As := [.int (l3), .int (l7)]) C (kX9_tabAt X σ b l3 l7 hb) (blk hb 0 rfl) rfl q_20_20 q_20_21 q_20_22 q_1_5 q_20_23 ⟨rfl, hdX9_tabAt⟩ ⟨Nat.le_of_ble_eq_true rfl, Nat.le_of_ble_eq_true rfl, rfl, rfl⟩ ⟨Nat.zero_le _, Nat.zero_le _⟩ (Nat.le_of_ble_eq_true rfl) rfl rfl dX9_paneAt_216 (fun r10 _ => ?_)
        exact g_iret (pc := 219) C hr dX9_paneAt_219 rfl
def fX9_paneAt_154 (b : Nat) (σ : Sg) (l3 : Int32) (s0 : Int32) : Option (Int32 × Sg) :=
  (fX9_paneAt_159 b FU σ l3 s0 0)
theorem bX9_paneAt_154 {X : Xc} {K : Kc} (C : MC X K cX9_paneAt 8 RX9 rmX9_paneAt) (hr : K.meth.sig.returnType = (some .int)) (b : Nat) (hb : moOK b) (σ : Sg) (l3 : Int32) (s0 : Int32) : GO X K 8 (fun r => MQi X K r.1 r.2) (fX9_paneAt_154 b σ l3 s0) σ 0 0 154 [some (.ref (X.ad b)), none, none, some (.int (l3)), none, none, none, none] [.int (s0)] := by
  unfold fX9_paneAt_154
  refine g_istore (pc := 154) C dX9_paneAt_154 (Nat.le_of_ble_eq_true rfl) rfl ?_
  refine g_iconst (pc := 156) (v := 0) C dX9_paneAt_156 (by decide) ?_
  refine g_istore (pc := 157) C dX9_paneAt_157 (Nat.le_of_ble_eq_true rfl) rfl ?_
  refine g_keep [true, false, false, true, false, false, true, true] ?_
  exact bX9_paneAt_159 C hr b hb FU σ l3 s0 0
def fX9_paneAt_134 (b : Nat) (σ : Sg) (l3 : Int32) (l4 : Int32) : Option (Int32 × Sg) :=
  (fX9_paneAt_154 b σ l3 (l4 - 1))
theorem bX9_paneAt_134 {X : Xc} {K : Kc} (C : MC X K cX9_paneAt 8 RX9 rmX9_paneAt) (hr : K.meth.sig.returnType = (some .int)) (b : Nat) (hb : moOK b) (σ : Sg) (l3 : Int32) (l4 : Int32) : GO X K 8 (fun r => MQi X K r.1 r.2) (fX9_paneAt_134 b σ l3 l4) σ 0 0 134 [some (.ref (X.ad b)), none, none, some (.int (l3)), some (.int (l4)), none, none, none] [] := by
  unfold fX9_paneAt_134
  refine g_iload (pc := 134) C dX9_paneAt_134 rfl ?_
  refine g_iconst (pc := 136) (v := 1) C dX9_paneAt_136 (by decide) ?_
  refine g_isub (pc := 137) C dX9_paneAt_137 ?_
  refine g_goto (pc := 138) (tgt := 154) C dX9_paneAt_138 rfl ?_
  refine g_keep [true, false, false, true, false, false, false, false] ?_
  exact bX9_paneAt_154 C hr b hb σ l3 (l4 - 1)
def fX9_paneAt_85 (b : Nat) (k50 : Sg → Int32 → Int32 → Int32 → Int32 → Option (Int32 × Sg)) (σ : Sg) (l1 : Int32) (l3 : Int32) (l5 : Int32) (s0 : Int32) (s1 : Int32) : Option (Int32 × Sg) :=
  nm (s0 + s1) fun v14 =>
  (k50 σ l1 l3 v14 (l5 + 1))
theorem bX9_paneAt_85 {X : Xc} {K : Kc} (C : MC X K cX9_paneAt 8 RX9 rmX9_paneAt) (hr : K.meth.sig.returnType = (some .int)) (b : Nat) (hb : moOK b){k50 : Sg → Int32 → Int32 → Int32 → Int32 → Option (Int32 × Sg)} (hk50 : ∀ (σ : Sg) (l1 : Int32) (l3 : Int32) (l4 : Int32) (l5 : Int32), GO X K 8 (fun r => MQi X K r.1 r.2) (k50 σ l1 l3 l4 l5) σ 0 0 50 [some (.ref (X.ad b)), some (.int (l1)), none, some (.int (l3)), some (.int (l4)), some (.int (l5)), none, none] []) (σ : Sg) (l1 : Int32) (l3 : Int32) (l5 : Int32) (s0 : Int32) (s1 : Int32) : GO X K 8 (fun r => MQi X K r.1 r.2) (fX9_paneAt_85 b k50 σ l1 l3 l5 s0 s1) σ 0 0 85 [some (.ref (X.ad b)), some (.int (l1)), none, some (.int (l3)), none, some (.int (l5)), none, none] [.int (s1), .int (s0)] := by
  unfold fX9_paneAt_85
  refine g_iadd (pc := 85) C dX9_paneAt_85 ?_
  refine g_nm (fun v14 => ?_)
  refine g_istore (pc := 86) C dX9_paneAt_86 (Nat.le_of_ble_eq_true rfl) rfl ?_
  refine g_iinc (pc := 88) (v := l5 + 1) C dX9_paneAt_88 rfl (rfl) (Nat.le_of_ble_eq_true rfl) rfl ?_
  refine g_goto (pc := 91) (tgt := 50) C dX9_paneAt_91 rfl ?_
  refine g_keep [true, true, false, true, true, true, false, false] ?_
  exact hk50 σ l1 l3 v14 (l5 + 1)
def fX9_paneAt_84 (b : Nat) (k50 : Sg → Int32 → Int32 → Int32 → Int32 → Option (Int32 × Sg)) (σ : Sg) (l1 : Int32) (l3 : Int32) (l5 : Int32) (s0 : Int32) : Option (Int32 × Sg) :=
  (fX9_paneAt_85 b k50 σ l1 l3 l5 s0 0)
theorem bX9_paneAt_84 {X : Xc} {K : Kc} (C : MC X K cX9_paneAt 8 RX9 rmX9_paneAt) (hr : K.meth.sig.returnType = (some .int)) (b : Nat) (hb : moOK b){k50 : Sg → Int32 → Int32 → Int32 → Int32 → Option (Int32 × Sg)} (hk50 : ∀ (σ : Sg) (l1 : Int32) (l3 : Int32) (l4 : Int32) (l5 : Int32), GO X K 8 (fun r => MQi X K r.1 r.2) (k50 σ l1 l3 l4 l5) σ 0 0 50 [some (.ref (X.ad b)), some (.int (l1)), none, some (.int (l3)), some (.int (l4)), some (.int (l5)), none, none] []) (σ : Sg) (l1 : Int32) (l3 : Int32) (l5 : Int32) (s0 : Int32) : GO X K 8 (fun r => MQi X K r.1 r.2) (fX9_paneAt_84 b k50 σ l1 l3 l5 s0) σ 0 0 84 [some (.ref (X.ad b)), some (.int (l1)), none, some (.int (l3)), none, some (.int (l5)), none, none] [.int (s0)] := by
  unfold fX9_paneAt_84
  refine g_iconst (pc := 84) (v := 0) C dX9_paneAt_84 (by decide) ?_
  refine g_keep [true, true, false, true, false, true, false, false] ?_
  exact bX9_paneAt_85 C hr b hb hk50 σ l1 l3 l5 s0 0
def fX9_paneAt_50 (b : Nat) : Nat → Sg → Int32 → Int32 → Int32 → Int32 → Option (Int32 × Sg)
  | 0, _, _, _, _, _ => none
  | n + 1, σ, l1, l3, l4, l5 =>
    if 12 ≤ l5 then
      if ck ((4 * l3) + 2) 96 then
        if l4 = 0 then none else
        nm ((σ.1 (b + 7) ((4 * l3) + 2).toNatClampNeg) / l4) fun v5 =>
        if v5 = 0 then
          (fX9_paneAt_134 b σ l3 l4)
        else
          if ck (4 * l3) 96 then
            if v5 = 0 then none else
            if ((l1 - (σ.1 (b + 7) (4 * l3).toNatClampNeg)) / v5) ≤ (l4 - 1) then
              if ck (4 * l3) 96 then
                if v5 = 0 then none else
                (fX9_paneAt_154 b σ l3 ((l1 - (σ.1 (b + 7) (4 * l3).toNatClampNeg)) / v5))
              else none
            else
              (fX9_paneAt_134 b σ l3 l4)
          else none
      else none
    else
      (fX9_of σ b l5 3).bind fun r6 =>
      if r6 = l3 then
        (fX9_of σ b l5 5).bind fun r7 =>
        if r7 = 0 then
          (fX9_paneAt_85 b (fX9_paneAt_50 b n) σ l1 l3 l5 l4 1)
        else
          (fX9_paneAt_84 b (fX9_paneAt_50 b n) σ l1 l3 l5 l4)
      else
        (fX9_paneAt_84 b (fX9_paneAt_50 b n) σ l1 l3 l5 l4)
theorem bX9_paneAt_50 {X : Xc} {K : Kc} (C : MC X K cX9_paneAt 8 RX9 rmX9_paneAt) (hr : K.meth.sig.returnType = (some .int)) (b : Nat) (hb : moOK b) : ∀ (n : Nat) (σ : Sg) (l1 : Int32) (l3 : Int32) (l4 : Int32) (l5 : Int32), GO X K 8 (fun r => MQi X K r.1 r.2) (fX9_paneAt_50 b n σ l1 l3 l4 l5) σ 0 0 50 [some (.ref (X.ad b)), some (.int (l1)), none, some (.int (l3)), some (.int (l4)), some (.int (l5)), none, none] [] := by
  intro n
  induction n with
  | zero =>
    intro σ l1 l3 l4 l5
    exact g_none
  | succ n ih =>
    intro σ l1 l3 l4 l5
    unfold fX9_paneAt_50
    refine g_iload (pc := 50) C dX9_paneAt_50 rfl ?_
    refine g_bipush (pc := 52) (v := 12) C dX9_paneAt_52 (by decide) ?_
    refine g_icmp_ge (pc := 54) (tgt := 94) C dX9_paneAt_54 rfl ?_ ?_
    · refine g_aload_n (pc := 94) (i := 0) C dX9_paneAt_94 rfl rfl ?_
      refine g_getr (pc := 95) (ci := 9) (N := 27) (T := TX9) (j := 9) (Cn := RX9) (b + 7) C rfl inlX9 (Nat.le_of_ble_eq_true rfl) q_6_9 (blk hb 0 rfl) rfl dX9_paneAt_95 ?_
      refine g_iconst (pc := 98) (v := 4) C dX9_paneAt_98 (by decide) ?_
      refine g_iload_n (pc := 99) (i := 3) C dX9_paneAt_99 rfl rfl ?_
      refine g_imul (pc := 100) C dX9_paneAt_100 ?_
      refine g_iconst (pc := 101) (v := 2) C dX9_paneAt_101 (by decide) ?_
      refine g_iadd (pc := 102) C dX9_paneAt_102 ?_
      refine g_iaload (pc := 103) C (blk hb 7 rfl) dX9_paneAt_103 ?_
      refine g_iload (pc := 104) C dX9_paneAt_104 rfl ?_
      refine g_idiv (pc := 106) C dX9_paneAt_106 ?_
      refine g_nm (fun v5 => ?_)
      refine g_istore (pc := 107) C dX9_paneAt_107 (Nat.le_of_ble_eq_true rfl) rfl ?_
      refine g_iload (pc := 109) C dX9_paneAt_109 rfl ?_
      refine g_if_eq (pc := 111) (tgt := 134) C dX9_paneAt_111 rfl ?_ ?_
      · refine g_keep [true, false, false, true, true, false, false, false] ?_
        exact bX9_paneAt_134 C hr b hb σ l3 l4
      · refine g_iload_n (pc := 114) (i := 1) C dX9_paneAt_114 rfl rfl ?_
        refine g_aload_n (pc := 115) (i := 0) C dX9_paneAt_115 rfl rfl ?_
        refine g_getr (pc := 116) (ci := 9) (N := 27) (T := TX9) (j := 9) (Cn := RX9) (b + 7) C rfl inlX9 (Nat.le_of_ble_eq_true rfl) q_6_9 (blk hb 0 rfl) rfl dX9_paneAt_116 ?_
        refine g_iconst (pc := 119) (v := 4) C dX9_paneAt_119 (by decide) ?_
        refine g_iload_n (pc := 120) (i := 3) C dX9_paneAt_120 rfl rfl ?_
        refine g_imul (pc := 121) C dX9_paneAt_121 ?_
        refine g_iaload (pc := 122) C (blk hb 7 rfl) dX9_paneAt_122 ?_
        refine g_isub (pc := 123) C dX9_paneAt_123 ?_
        refine g_iload (pc := 124) C dX9_paneAt_124 rfl ?_
        refine g_idiv (pc := 126) C dX9_paneAt_126 ?_
        refine g_iload (pc := 127) C dX9_paneAt_127 rfl ?_
        refine g_iconst (pc := 129) (v := 1) C dX9_paneAt_129 (by decide) ?_
        refine g_isub (pc := 130) C dX9_paneAt_130 ?_
        refine g_icmp_le (pc := 131) (tgt := 141) C dX9_paneAt_131 rfl ?_ ?_
        · refine g_iload_n (pc := 141) (i := 1) C dX9_paneAt_141 rfl rfl ?_
          refine g_aload_n (pc := 142) (i := 0) C dX9_paneAt_142 rfl rfl ?_
          refine g_getr (pc := 143) (ci := 9) (N := 27) (T := TX9) (j := 9) (Cn := RX9) (b + 7) C rfl inlX9 (Nat.le_of_ble_eq_true rfl) q_6_9 (blk hb 0 rfl) rfl dX9_paneAt_143 ?_
          refine g_iconst (pc := 146) (v := 4) C dX9_paneAt_146 (by decide) ?_
          refine g_iload_n (pc := 147) (i := 3) C dX9_paneAt_147 rfl rfl ?_
          refine g_imul (pc := 148) C dX9_paneAt_148 ?_
          refine g_iaload (pc := 149) C (blk hb 7 rfl) dX9_paneAt_149 ?_
          refine g_isub (pc := 150) C dX9_paneAt_150 ?_
          refine g_iload (pc := 151) C dX9_paneAt_151 rfl ?_
          refine g_idiv (pc := 153) C dX9_paneAt_153 ?_
          refine g_keep [true, false, false, true, false, false, false, false] ?_
          exact bX9_paneAt_154 C hr b hb σ l3 ((l1 - (σ.1 (b + 7) (4 * l3).toNatClampNeg)) / v5)
        · refine g_keep [true, false, false, true, true, false, false, false] ?_
          exact bX9_paneAt_134 C hr b hb σ l3 l4
    · refine g_iload (pc := 57) C dX9_paneAt_57 rfl ?_
      refine g_aload_n (pc := 59) (i := 0) C dX9_paneAt_59 rfl rfl ?_
      refine g_iload (pc := 60) C dX9_paneAt_60 rfl ?_
      refine g_iconst (pc := 62) (v := 3) C dX9_paneAt_62 (by decide) ?_
      refine g_callVi (pc := 63) (As := [.int (l5), .int (3)]) C (kX9_of X σ b l5 3 hb) (blk hb 0 rfl) rfl q_10_2 q_10_3 q_10_4 q_1_5 q_10_5 ⟨rfl, hdX9_of⟩ ⟨Nat.le_of_ble_eq_true rfl, Nat.le_of_ble_eq_true rfl, rfl, rfl⟩ ⟨Nat.zero_le _, Nat.zero_le _⟩ (Nat.le_of_ble_eq_true rfl) rfl rfl dX9_paneAt_63 (fun r6 _ => ?_)
      refine g_iload_n (pc := 66) (i := 3) C dX9_paneAt_66 rfl rfl ?_
      refine g_icmp_ne (pc := 67) (tgt := 84) C dX9_paneAt_67 rfl ?_ ?_
      · refine g_aload_n (pc := 70) (i := 0) C dX9_paneAt_70 rfl rfl ?_
        refine g_iload (pc := 71) C dX9_paneAt_71 rfl ?_
        refine g_iconst (pc := 73) (v := 5) C dX9_paneAt_73 (by decide) ?_
        refine g_callVi (pc := 74) (As := [.int (l5), .int (5)]) C (kX9_of X σ b l5 5 hb) (blk hb 0 rfl) rfl q_10_2 q_10_3 q_10_4 q_1_5 q_10_5 ⟨rfl, hdX9_of⟩ ⟨Nat.le_of_ble_eq_true rfl, Nat.le_of_ble_eq_true rfl, rfl, rfl⟩ ⟨Nat.zero_le _, Nat.zero_le _⟩ (Nat.le_of_ble_eq_true rfl) rfl rfl dX9_paneAt_74 (fun r7 _ => ?_)
        refine g_if_ne (pc := 77) (tgt := 84) C dX9_paneAt_77 rfl ?_ ?_
        · refine g_iconst (pc := 80) (v := 1) C dX9_paneAt_80 (by decide) ?_
          refine g_goto (pc := 81) (tgt := 85) C dX9_paneAt_81 rfl ?_
          refine g_keep [true, true, false, true, false, true, false, false] ?_
          exact bX9_paneAt_85 C hr b hb ih σ l1 l3 l5 l4 1
        · refine g_keep [true, true, false, true, false, true, false, false] ?_
          exact bX9_paneAt_84 C hr b hb ih σ l1 l3 l5 l4
      · refine g_keep [true, true, false, true, false, true, false, false] ?_
        exact bX9_paneAt_84 C hr b hb ih σ l1 l3 l5 l4
def fX9_paneAt (σ : Sg) (b : Nat) (p1 : Int32) (p2 : Int32) : Option (Int32 × Sg) :=
  nm (su σ b 3 0) fun σ1 =>
  (fX9_lays σ1 b).bind fun σ2 =>
  (fX9_groupAt σ2 b p1 p2).bind fun r3 =>
  if r3 = (-1) then
    some ((-1), σ2)
  else
    if ck ((4 * r3) + 1) 96 then
      if p2 = (σ2.1 (b + 7) ((4 * r3) + 1).toNatClampNeg) then
        (fX9_paneAt_50 b FU σ2 p1 r3 0 0)
      else
        (fX9_its σ2 b r3 5).bind fun r4 =>
        some (r4, σ2)
    else none
theorem kX9_paneAt (X : Xc) (σ : Sg) (b : Nat) (p1 : Int32) (p2 : Int32) (hb : moOK b) : ∀ r, fX9_paneAt σ b p1 p2 = some r → Met X.l yX9_paneAt (wsM yX9_paneAt cX9_paneAt 8 (some .int)) rmX9_paneAt (va_Pc [.ref (X.ad b), .int p1, .int p2] (PW X σ)) (Qi X r.1 r.2) 0 0 X.A := by
  refine mt_of (own := RX9) (lo := [some (.ref (X.ad b)), some (.int (p1)), some (.int (p2)), none, none, none, none, none]) (by decide) rfl (Nat.le_of_ble_eq_true rfl) rfl (fun K C hr => ?_)
  unfold fX9_paneAt
  refine g_aload_n (pc := 0) (i := 0) C dX9_paneAt_0 rfl rfl ?_
  refine g_iconst (pc := 1) (v := 0) C dX9_paneAt_1 (by decide) ?_
  refine g_puti (pc := 2) (ci := 9) (N := 27) (T := TX9) (j := 3) (Cn := RX9) C rfl inlX9 tyX9_ok nmX9 (Nat.le_of_ble_eq_true rfl) q_10_13 (blk hb 0 rfl) rfl rfl rfl dX9_paneAt_2 ?_
  refine g_nms (fun σ1 => ?_)
  refine g_aload_n (pc := 5) (i := 0) C dX9_paneAt_5 rfl rfl ?_
  refine g_callVv (pc := 6) (As := []) C (kX9_lays X σ1 b hb) (blk hb 0 rfl) rfl q_26_21 q_26_22 q_26_23 q_1_5 q_27_0 ⟨rfl, hdX9_lays⟩ ⟨Nat.le_of_ble_eq_true rfl, Nat.le_of_ble_eq_true rfl, rfl, rfl⟩ ⟨Nat.zero_le _, Nat.zero_le _⟩ (Nat.le_of_ble_eq_true rfl) rfl rfl dX9_paneAt_6 (fun σ2 _ => ?_)
  refine g_aload_n (pc := 9) (i := 0) C dX9_paneAt_9 rfl rfl ?_
  refine g_iload_n (pc := 10) (i := 1) C dX9_paneAt_10 rfl rfl ?_
  refine g_iload_n (pc := 11) (i := 2) C dX9_paneAt_11 rfl rfl ?_
  refine g_callVi (pc := 12) (As := [.int (p1), .int (p2)]) C (kX9_groupAt X σ2 b p1 p2 hb) (blk hb 0 rfl) rfl q_45_1 q_45_2 q_45_3 q_1_5 q_45_4 ⟨rfl, hdX9_groupAt⟩ ⟨Nat.le_of_ble_eq_true rfl, Nat.le_of_ble_eq_true rfl, rfl, rfl⟩ ⟨Nat.zero_le _, Nat.zero_le _⟩ (Nat.le_of_ble_eq_true rfl) rfl rfl dX9_paneAt_12 (fun r3 _ => ?_)
  refine g_istore_n (pc := 15) (i := 3) C dX9_paneAt_15 rfl (Nat.le_of_ble_eq_true rfl) rfl ?_
  refine g_iload_n (pc := 16) (i := 3) C dX9_paneAt_16 rfl rfl ?_
  refine g_iconst (pc := 17) (v := (-1)) C dX9_paneAt_17 (by decide) ?_
  refine g_icmp_ne (pc := 18) (tgt := 23) C dX9_paneAt_18 rfl ?_ ?_
  · refine g_iconst (pc := 21) (v := (-1)) C dX9_paneAt_21 (by decide) ?_
    exact g_iret (pc := 22) C hr dX9_paneAt_22 rfl
  · refine g_iload_n (pc := 23) (i := 2) C dX9_paneAt_23 rfl rfl ?_
    refine g_aload_n (pc := 24) (i := 0) C dX9_paneAt_24 rfl rfl ?_
    refine g_getr (pc := 25) (ci := 9) (N := 27) (T := TX9) (j := 9) (Cn := RX9) (b + 7) C rfl inlX9 (Nat.le_of_ble_eq_true rfl) q_6_9 (blk hb 0 rfl) rfl dX9_paneAt_25 ?_
    refine g_iconst (pc := 28) (v := 4) C dX9_paneAt_28 (by decide) ?_
    refine g_iload_n (pc := 29) (i := 3) C dX9_paneAt_29 rfl rfl ?_
    refine g_imul (pc := 30) C dX9_paneAt_30 ?_
    refine g_iconst (pc := 31) (v := 1) C dX9_paneAt_31 (by decide) ?_
    refine g_iadd (pc := 32) C dX9_paneAt_32 ?_
    refine g_iaload (pc := 33) C (blk hb 7 rfl) dX9_paneAt_33 ?_
    refine g_icmp_eq (pc := 34) (tgt := 44) C dX9_paneAt_34 rfl ?_ ?_
    · refine g_iconst (pc := 44) (v := 0) C dX9_paneAt_44 (by decide) ?_
      refine g_istore (pc := 45) C dX9_paneAt_45 (Nat.le_of_ble_eq_true rfl) rfl ?_
      refine g_iconst (pc := 47) (v := 0) C dX9_paneAt_47 (by decide) ?_
      refine g_istore (pc := 48) C dX9_paneAt_48 (Nat.le_of_ble_eq_true rfl) rfl ?_
      refine g_keep [true, true, false, true, true, true, false, false] ?_
      exact bX9_paneAt_50 C hr b hb FU σ2 p1 r3 0 0
    · refine g_aload_n (pc := 37) (i := 0) C dX9_paneAt_37 rfl rfl ?_
      refine g_iload_n (pc := 38) (i := 3) C dX9_paneAt_38 rfl rfl ?_
      refine g_iconst (pc := 39) (v := 5) C dX9_paneAt_39 (by decide) ?_
      refine g_callVi (pc := 40) (As := [.int (r3), .int (5)]) C (kX9_its X σ2 b r3 5 hb) (blk hb 0 rfl) rfl q_20_12 q_20_13 q_20_14 q_1_5 q_20_15 ⟨rfl, hdX9_its⟩ ⟨Nat.le_of_ble_eq_true rfl, Nat.le_of_ble_eq_true rfl, rfl, rfl⟩ ⟨Nat.zero_le _, Nat.zero_le _⟩ (Nat.le_of_ble_eq_true rfl) rfl rfl dX9_paneAt_40 (fun r4 _ => ?_)
      exact g_iret (pc := 43) C hr dX9_paneAt_43 rfl
theorem dX9_dropAt_0 : decode cX9_dropAt 0 = .ok (.aload_n 0, 1) := by decide +kernel
theorem dX9_dropAt_1 : decode cX9_dropAt 1 = .ok (.iconst 0, 1) := by decide +kernel
theorem dX9_dropAt_2 : decode cX9_dropAt 2 = .ok (.putfield 50, 3) := by decide +kernel
theorem dX9_dropAt_5 : decode cX9_dropAt 5 = .ok (.aload_n 0, 1) := by decide +kernel
theorem dX9_dropAt_6 : decode cX9_dropAt 6 = .ok (.invokevirtual 193, 3) := by decide +kernel
theorem dX9_dropAt_9 : decode cX9_dropAt 9 = .ok (.aload_n 0, 1) := by decide +kernel
theorem dX9_dropAt_10 : decode cX9_dropAt 10 = .ok (.iload_n 1, 1) := by decide +kernel
theorem dX9_dropAt_11 : decode cX9_dropAt 11 = .ok (.iload_n 2, 1) := by decide +kernel
theorem dX9_dropAt_12 : decode cX9_dropAt 12 = .ok (.invokevirtual 251, 3) := by decide +kernel
theorem dX9_dropAt_15 : decode cX9_dropAt 15 = .ok (.istore_n 3, 1) := by decide +kernel
theorem dX9_dropAt_16 : decode cX9_dropAt 16 = .ok (.iload_n 3, 1) := by decide +kernel
theorem dX9_dropAt_17 : decode cX9_dropAt 17 = .ok (.iconst (-1), 1) := by decide +kernel
theorem dX9_dropAt_18 : decode cX9_dropAt 18 = .ok (.if_icmp .ne 5, 3) := by decide +kernel
theorem dX9_dropAt_21 : decode cX9_dropAt 21 = .ok (.iconst (-1), 1) := by decide +kernel
theorem dX9_dropAt_22 : decode cX9_dropAt 22 = .ok (.ireturn, 1) := by decide +kernel
theorem dX9_dropAt_23 : decode cX9_dropAt 23 = .ok (.aload_n 0, 1) := by decide +kernel
theorem dX9_dropAt_24 : decode cX9_dropAt 24 = .ok (.getfield 29, 3) := by decide +kernel
theorem dX9_dropAt_27 : decode cX9_dropAt 27 = .ok (.iconst 4, 1) := by decide +kernel
theorem dX9_dropAt_28 : decode cX9_dropAt 28 = .ok (.iload_n 3, 1) := by decide +kernel
theorem dX9_dropAt_29 : decode cX9_dropAt 29 = .ok (.imul, 1) := by decide +kernel
theorem dX9_dropAt_30 : decode cX9_dropAt 30 = .ok (.iconst 2, 1) := by decide +kernel
theorem dX9_dropAt_31 : decode cX9_dropAt 31 = .ok (.iadd, 1) := by decide +kernel
theorem dX9_dropAt_32 : decode cX9_dropAt 32 = .ok (.iaload, 1) := by decide +kernel
theorem dX9_dropAt_33 : decode cX9_dropAt 33 = .ok (.istore 4, 2) := by decide +kernel
theorem dX9_dropAt_35 : decode cX9_dropAt 35 = .ok (.aload_n 0, 1) := by decide +kernel
theorem dX9_dropAt_36 : decode cX9_dropAt 36 = .ok (.getfield 29, 3) := by decide +kernel
theorem dX9_dropAt_39 : decode cX9_dropAt 39 = .ok (.iconst 4, 1) := by decide +kernel
theorem dX9_dropAt_40 : decode cX9_dropAt 40 = .ok (.iload_n 3, 1) := by decide +kernel
theorem dX9_dropAt_41 : decode cX9_dropAt 41 = .ok (.imul, 1) := by decide +kernel
theorem dX9_dropAt_42 : decode cX9_dropAt 42 = .ok (.iconst 3, 1) := by decide +kernel
theorem dX9_dropAt_43 : decode cX9_dropAt 43 = .ok (.iadd, 1) := by decide +kernel
theorem dX9_dropAt_44 : decode cX9_dropAt 44 = .ok (.iaload, 1) := by decide +kernel
theorem dX9_dropAt_45 : decode cX9_dropAt 45 = .ok (.istore 5, 2) := by decide +kernel
theorem dX9_dropAt_47 : decode cX9_dropAt 47 = .ok (.iconst 4, 1) := by decide +kernel
theorem dX9_dropAt_48 : decode cX9_dropAt 48 = .ok (.istore 6, 2) := by decide +kernel
theorem dX9_dropAt_50 : decode cX9_dropAt 50 = .ok (.iconst 0, 1) := by decide +kernel
theorem dX9_dropAt_51 : decode cX9_dropAt 51 = .ok (.istore 7, 2) := by decide +kernel
theorem dX9_dropAt_53 : decode cX9_dropAt 53 = .ok (.iconst 0, 1) := by decide +kernel
theorem dX9_dropAt_54 : decode cX9_dropAt 54 = .ok (.istore 8, 2) := by decide +kernel
theorem dX9_dropAt_56 : decode cX9_dropAt 56 = .ok (.iload 8, 2) := by decide +kernel
theorem dX9_dropAt_58 : decode cX9_dropAt 58 = .ok (.iconst 4, 1) := by decide +kernel
theorem dX9_dropAt_59 : decode cX9_dropAt 59 = .ok (.if_icmp .ge 125, 3) := by decide +kernel
theorem dX9_dropAt_62 : decode cX9_dropAt 62 = .ok (.iload_n 2, 1) := by decide +kernel
theorem dX9_dropAt_63 : decode cX9_dropAt 63 = .ok (.aload_n 0, 1) := by decide +kernel
theorem dX9_dropAt_64 : decode cX9_dropAt 64 = .ok (.getfield 29, 3) := by decide +kernel
theorem dX9_dropAt_67 : decode cX9_dropAt 67 = .ok (.iconst 4, 1) := by decide +kernel
theorem dX9_dropAt_68 : decode cX9_dropAt 68 = .ok (.iload_n 3, 1) := by decide +kernel
theorem dX9_dropAt_69 : decode cX9_dropAt 69 = .ok (.imul, 1) := by decide +kernel
theorem dX9_dropAt_70 : decode cX9_dropAt 70 = .ok (.iconst 1, 1) := by decide +kernel
theorem dX9_dropAt_71 : decode cX9_dropAt 71 = .ok (.iadd, 1) := by decide +kernel
theorem dX9_dropAt_72 : decode cX9_dropAt 72 = .ok (.iaload, 1) := by decide +kernel
theorem dX9_dropAt_73 : decode cX9_dropAt 73 = .ok (.if_icmp .eq 111, 3) := by decide +kernel
theorem dX9_dropAt_76 : decode cX9_dropAt 76 = .ok (.iload 8, 2) := by decide +kernel
theorem dX9_dropAt_78 : decode cX9_dropAt 78 = .ok (.iconst 2, 1) := by decide +kernel
theorem dX9_dropAt_79 : decode cX9_dropAt 79 = .ok (.if_icmp .ge 8, 3) := by decide +kernel
theorem dX9_dropAt_82 : decode cX9_dropAt 82 = .ok (.iload 4, 2) := by decide +kernel
theorem dX9_dropAt_84 : decode cX9_dropAt 84 = .ok (.goto 5, 3) := by decide +kernel
theorem dX9_dropAt_87 : decode cX9_dropAt 87 = .ok (.iload 5, 2) := by decide +kernel
theorem dX9_dropAt_89 : decode cX9_dropAt 89 = .ok (.istore 9, 2) := by decide +kernel
theorem dX9_dropAt_91 : decode cX9_dropAt 91 = .ok (.iload 8, 2) := by decide +kernel
theorem dX9_dropAt_93 : decode cX9_dropAt 93 = .ok (.iconst 2, 1) := by decide +kernel
theorem dX9_dropAt_94 : decode cX9_dropAt 94 = .ok (.if_icmp .ge 16, 3) := by decide +kernel
theorem dX9_dropAt_97 : decode cX9_dropAt 97 = .ok (.iload_n 1, 1) := by decide +kernel
theorem dX9_dropAt_98 : decode cX9_dropAt 98 = .ok (.aload_n 0, 1) := by decide +kernel
theorem dX9_dropAt_99 : decode cX9_dropAt 99 = .ok (.getfield 29, 3) := by decide +kernel
theorem dX9_dropAt_102 : decode cX9_dropAt 102 = .ok (.iconst 4, 1) := by decide +kernel
theorem dX9_dropAt_103 : decode cX9_dropAt 103 = .ok (.iload_n 3, 1) := by decide +kernel
theorem dX9_dropAt_104 : decode cX9_dropAt 104 = .ok (.imul, 1) := by decide +kernel
theorem dX9_dropAt_105 : decode cX9_dropAt 105 = .ok (.iaload, 1) := by decide +kernel
theorem dX9_dropAt_106 : decode cX9_dropAt 106 = .ok (.isub, 1) := by decide +kernel
theorem dX9_dropAt_107 : decode cX9_dropAt 107 = .ok (.goto 15, 3) := by decide +kernel
theorem dX9_dropAt_110 : decode cX9_dropAt 110 = .ok (.iload_n 2, 1) := by decide +kernel
theorem dX9_dropAt_111 : decode cX9_dropAt 111 = .ok (.aload_n 0, 1) := by decide +kernel
theorem dX9_dropAt_112 : decode cX9_dropAt 112 = .ok (.getfield 29, 3) := by decide +kernel
theorem dX9_dropAt_115 : decode cX9_dropAt 115 = .ok (.iconst 4, 1) := by decide +kernel
theorem dX9_dropAt_116 : decode cX9_dropAt 116 = .ok (.iload_n 3, 1) := by decide +kernel
theorem dX9_dropAt_117 : decode cX9_dropAt 117 = .ok (.imul, 1) := by decide +kernel
theorem dX9_dropAt_118 : decode cX9_dropAt 118 = .ok (.iconst 1, 1) := by decide +kernel
theorem dX9_dropAt_119 : decode cX9_dropAt 119 = .ok (.iadd, 1) := by decide +kernel
theorem dX9_dropAt_120 : decode cX9_dropAt 120 = .ok (.iaload, 1) := by decide +kernel
theorem dX9_dropAt_121 : decode cX9_dropAt 121 = .ok (.isub, 1) := by decide +kernel
theorem dX9_dropAt_122 : decode cX9_dropAt 122 = .ok (.istore 10, 2) := by decide +kernel
theorem dX9_dropAt_124 : decode cX9_dropAt 124 = .ok (.iload 8, 2) := by decide +kernel
theorem dX9_dropAt_126 : decode cX9_dropAt 126 = .ok (.iconst 2, 1) := by decide +kernel
theorem dX9_dropAt_127 : decode cX9_dropAt 127 = .ok (.irem, 1) := by decide +kernel
theorem dX9_dropAt_128 : decode cX9_dropAt 128 = .ok (.ifCond .ne 8, 3) := by decide +kernel
theorem dX9_dropAt_131 : decode cX9_dropAt 131 = .ok (.iload 10, 2) := by decide +kernel
theorem dX9_dropAt_133 : decode cX9_dropAt 133 = .ok (.goto 10, 3) := by decide +kernel
theorem dX9_dropAt_136 : decode cX9_dropAt 136 = .ok (.iload 9, 2) := by decide +kernel
theorem dX9_dropAt_138 : decode cX9_dropAt 138 = .ok (.iconst 1, 1) := by decide +kernel
theorem dX9_dropAt_139 : decode cX9_dropAt 139 = .ok (.isub, 1) := by decide +kernel
theorem dX9_dropAt_140 : decode cX9_dropAt 140 = .ok (.iload 10, 2) := by decide +kernel
theorem dX9_dropAt_142 : decode cX9_dropAt 142 = .ok (.isub, 1) := by decide +kernel
theorem dX9_dropAt_143 : decode cX9_dropAt 143 = .ok (.istore 11, 2) := by decide +kernel
theorem dX9_dropAt_145 : decode cX9_dropAt 145 = .ok (.iload 8, 2) := by decide +kernel
theorem dX9_dropAt_147 : decode cX9_dropAt 147 = .ok (.ifCond .eq 10, 3) := by decide +kernel
theorem dX9_dropAt_150 : decode cX9_dropAt 150 = .ok (.iload 11, 2) := by decide +kernel
theorem dX9_dropAt_152 : decode cX9_dropAt 152 = .ok (.iload 7, 2) := by decide +kernel
theorem dX9_dropAt_154 : decode cX9_dropAt 154 = .ok (.if_icmp .ge 24, 3) := by decide +kernel
theorem dX9_dropAt_157 : decode cX9_dropAt 157 = .ok (.iload 11, 2) := by decide +kernel
theorem dX9_dropAt_159 : decode cX9_dropAt 159 = .ok (.istore 7, 2) := by decide +kernel
theorem dX9_dropAt_161 : decode cX9_dropAt 161 = .ok (.iconst 4, 1) := by decide +kernel
theorem dX9_dropAt_162 : decode cX9_dropAt 162 = .ok (.iload 11, 2) := by decide +kernel
theorem dX9_dropAt_164 : decode cX9_dropAt 164 = .ok (.imul, 1) := by decide +kernel
theorem dX9_dropAt_165 : decode cX9_dropAt 165 = .ok (.iload 9, 2) := by decide +kernel
theorem dX9_dropAt_167 : decode cX9_dropAt 167 = .ok (.if_icmp .ge 8, 3) := by decide +kernel
theorem dX9_dropAt_170 : decode cX9_dropAt 170 = .ok (.iload 8, 2) := by decide +kernel
theorem dX9_dropAt_172 : decode cX9_dropAt 172 = .ok (.goto 4, 3) := by decide +kernel
theorem dX9_dropAt_175 : decode cX9_dropAt 175 = .ok (.iconst 4, 1) := by decide +kernel
theorem dX9_dropAt_176 : decode cX9_dropAt 176 = .ok (.istore 6, 2) := by decide +kernel
theorem dX9_dropAt_178 : decode cX9_dropAt 178 = .ok (.iinc 8 1, 3) := by decide +kernel
theorem dX9_dropAt_181 : decode cX9_dropAt 181 = .ok (.goto (-125), 3) := by decide +kernel
theorem dX9_dropAt_184 : decode cX9_dropAt 184 = .ok (.bipush 10, 2) := by decide +kernel
theorem dX9_dropAt_186 : decode cX9_dropAt 186 = .ok (.aload_n 0, 1) := by decide +kernel
theorem dX9_dropAt_187 : decode cX9_dropAt 187 = .ok (.iload_n 3, 1) := by decide +kernel
theorem dX9_dropAt_188 : decode cX9_dropAt 188 = .ok (.iconst 5, 1) := by decide +kernel
theorem dX9_dropAt_189 : decode cX9_dropAt 189 = .ok (.invokevirtual 76, 3) := by decide +kernel
theorem dX9_dropAt_192 : decode cX9_dropAt 192 = .ok (.imul, 1) := by decide +kernel
theorem dX9_dropAt_193 : decode cX9_dropAt 193 = .ok (.iload 6, 2) := by decide +kernel
theorem dX9_dropAt_195 : decode cX9_dropAt 195 = .ok (.iadd, 1) := by decide +kernel
theorem dX9_dropAt_196 : decode cX9_dropAt 196 = .ok (.ireturn, 1) := by decide +kernel
abbrev rmX9_dropAt : Room := { frames := 8, cells := 0, slots := 0, locals := 205 }
theorem hdX9_dropAt : yX9_dropAt.cls ≠ "java/lang/invoke/MethodHandle" ∧ yX9_dropAt.cls ≠ "java/lang/invoke/VarHandle" ∧ (parseMethodDescriptor yX9_dropAt.desc).map (fun d => d.parameters.length) = some 2 := by decide +kernel
def fX9_dropAt_184 (b : Nat) (σ : Sg) (l3 : Int32) (l6 : Int32) : Option (Int32 × Sg) :=
  (fX9_its σ b l3 5).bind fun r6 =>
  some ((10 * r6) + l6, σ)
theorem bX9_dropAt_184 {X : Xc} {K : Kc} (C : MC X K cX9_dropAt 12 RX9 rmX9_dropAt) (hr : K.meth.sig.returnType = (some .int)) (b : Nat) (hb : moOK b) (σ : Sg) (l3 : Int32) (l6 : Int32) : GO X K 12 (fun r => MQi X K r.1 r.2) (fX9_dropAt_184 b σ l3 l6) σ 0 0 184 [some (.ref (X.ad b)), none, none, some (.int (l3)), none, none, some (.int (l6)), none, none, none, none, none] [] := by
  unfold fX9_dropAt_184
  refine g_bipush (pc := 184) (v := 10) C dX9_dropAt_184 (by decide) ?_
  refine g_aload_n (pc := 186) (i := 0) C dX9_dropAt_186 rfl rfl ?_
  refine g_iload_n (pc := 187) (i := 3) C dX9_dropAt_187 rfl rfl ?_
  refine g_iconst (pc := 188) (v := 5) C dX9_dropAt_188 (by decide) ?_
  refine g_callVi (pc := 189) (As := [.int (l3), .int (5)]) C (kX9_its X σ b l3 5 hb) (blk hb 0 rfl) rfl q_20_12 q_20_13 q_20_14 q_1_5 q_20_15 ⟨rfl, hdX9_its⟩ ⟨Nat.le_of_ble_eq_true rfl, Nat.le_of_ble_eq_true rfl, rfl, rfl⟩ ⟨Nat.zero_le _, Nat.zero_le _⟩ (Nat.le_of_ble_eq_true rfl) rfl rfl dX9_dropAt_189 (fun r6 _ => ?_)
  refine g_imul (pc := 192) C dX9_dropAt_192 ?_
  refine g_iload (pc := 193) C dX9_dropAt_193 rfl ?_
  refine g_iadd (pc := 195) C dX9_dropAt_195 ?_
  exact g_iret (pc := 196) C hr dX9_dropAt_196 rfl
def fX9_dropAt_178 (b : Nat) (k56 : Sg → Int32 → Int32 → Int32 → Int32 → Int32 → Int32 → Int32 → Int32 → Option (Int32 × Sg)) (σ : Sg) (l1 : Int32) (l2 : Int32) (l3 : Int32) (l4 : Int32) (l5 : Int32) (l6 : Int32) (l7 : Int32) (l8 : Int32) : Option (Int32 × Sg) :=
  (k56 σ l1 l2 l3 l4 l5 l6 l7 (l8 + 1))
theorem bX9_dropAt_178 {X : Xc} {K : Kc} (C : MC X K cX9_dropAt 12 RX9 rmX9_dropAt) (hr : K.meth.sig.returnType = (some .int)) (b : Nat) (hb : moOK b){k56 : Sg → Int32 → Int32 → Int32 → Int32 → Int32 → Int32 → Int32 → Int32 → Option (Int32 × Sg)} (hk56 : ∀ (σ : Sg) (l1 : Int32) (l2 : Int32) (l3 : Int32) (l4 : Int32) (l5 : Int32) (l6 : Int32) (l7 : Int32) (l8 : Int32), GO X K 12 (fun r => MQi X K r.1 r.2) (k56 σ l1 l2 l3 l4 l5 l6 l7 l8) σ 0 0 56 [some (.ref (X.ad b)), some (.int (l1)), some (.int (l2)), some (.int (l3)), some (.int (l4)), some (.int (l5)), some (.int (l6)), some (.int (l7)), some (.int (l8)), none, none, none] []) (σ : Sg) (l1 : Int32) (l2 : Int32) (l3 : Int32) (l4 : Int32) (l5 : Int32) (l6 : Int32) (l7 : Int32) (l8 : Int32) : GO X K 12 (fun r => MQi X K r.1 r.2) (fX9_dropAt_178 b k56 σ l1 l2 l3 l4 l5 l6 l7 l8) σ 0 0 178 [some (.ref (X.ad b)), some (.int (l1)), some (.int (l2)), some (.int (l3)), some (.int (l4)), some (.int (l5)), some (.int (l6)), some (.int (l7)), some (.int (l8)), none, none, none] [] := by
  unfold fX9_dropAt_178
  refine g_iinc (pc := 178) (v := l8 + 1) C dX9_dropAt_178 rfl (rfl) (Nat.le_of_ble_eq_true rfl) rfl ?_
  refine g_goto (pc := 181) (tgt := 56) C dX9_dropAt_181 rfl ?_
  refine g_keep [true, true, true, true, true, true, true, true, true, false, false, false] ?_
  exact hk56 σ l1 l2 l3 l4 l5 l6 l7 (l8 + 1)
def fX9_dropAt_176 (b : Nat) (k56 : Sg → Int32 → Int32 → Int32 → Int32 → Int32 → Int32 → Int32 → Int32 → Option (Int32 × Sg)) (σ : Sg) (l1 : Int32) (l2 : Int32) (l3 : Int32) (l4 : Int32) (l5 : Int32) (l7 : Int32) (l8 : Int32) (s0 : Int32) : Option (Int32 × Sg) :=
  (fX9_dropAt_178 b k56 σ l1 l2 l3 l4 l5 s0 l7 l8)
theorem bX9_dropAt_176 {X : Xc} {K : Kc} (C : MC X K cX9_dropAt 12 RX9 rmX9_dropAt) (hr : K.meth.sig.returnType = (some .int)) (b : Nat) (hb : moOK b){k56 : Sg → Int32 → Int32 → Int32 → Int32 → Int32 → Int32 → Int32 → Int32 → Option (Int32 × Sg)} (hk56 : ∀ (σ : Sg) (l1 : Int32) (l2 : Int32) (l3 : Int32) (l4 : Int32) (l5 : Int32) (l6 : Int32) (l7 : Int32) (l8 : Int32), GO X K 12 (fun r => MQi X K r.1 r.2) (k56 σ l1 l2 l3 l4 l5 l6 l7 l8) σ 0 0 56 [some (.ref (X.ad b)), some (.int (l1)), some (.int (l2)), some (.int (l3)), some (.int (l4)), some (.int (l5)), some (.int (l6)), some (.int (l7)), some (.int (l8)), none, none, none] []) (σ : Sg) (l1 : Int32) (l2 : Int32) (l3 : Int32) (l4 : Int32) (l5 : Int32) (l7 : Int32) (l8 : Int32) (s0 : Int32) : GO X K 12 (fun r => MQi X K r.1 r.2) (fX9_dropAt_176 b k56 σ l1 l2 l3 l4 l5 l7 l8 s0) σ 0 0 176 [some (.ref (X.ad b)), some (.int (l1)), some (.int (l2)), some (.int (l3)), some (.int (l4)), some (.int (l5)), none, some (.int (l7)), some (.int (l8)), none, none, none] [.int (s0)] := by
  unfold fX9_dropAt_176
  refine g_istore (pc := 176) C dX9_dropAt_176 (Nat.le_of_ble_eq_true rfl) rfl ?_
  refine g_keep [true, true, true, true, true, true, true, true, true, false, false, false] ?_
  exact bX9_dropAt_178 C hr b hb hk56 σ l1 l2 l3 l4 l5 s0 l7 l8
def fX9_dropAt_157 (b : Nat) (k56 : Sg → Int32 → Int32 → Int32 → Int32 → Int32 → Int32 → Int32 → Int32 → Option (Int32 × Sg)) (σ : Sg) (l1 : Int32) (l2 : Int32) (l3 : Int32) (l4 : Int32) (l5 : Int32) (l8 : Int32) (l9 : Int32) (l11 : Int32) : Option (Int32 × Sg) :=
  if l9 ≤ (4 * l11) then
    (fX9_dropAt_176 b k56 σ l1 l2 l3 l4 l5 l11 l8 4)
  else
    (fX9_dropAt_176 b k56 σ l1 l2 l3 l4 l5 l11 l8 l8)
theorem bX9_dropAt_157 {X : Xc} {K : Kc} (C : MC X K cX9_dropAt 12 RX9 rmX9_dropAt) (hr : K.meth.sig.returnType = (some .int)) (b : Nat) (hb : moOK b){k56 : Sg → Int32 → Int32 → Int32 → Int32 → Int32 → Int32 → Int32 → Int32 → Option (Int32 × Sg)} (hk56 : ∀ (σ : Sg) (l1 : Int32) (l2 : Int32) (l3 : Int32) (l4 : Int32) (l5 : Int32) (l6 : Int32) (l7 : Int32) (l8 : Int32), GO X K 12 (fun r => MQi X K r.1 r.2) (k56 σ l1 l2 l3 l4 l5 l6 l7 l8) σ 0 0 56 [some (.ref (X.ad b)), some (.int (l1)), some (.int (l2)), some (.int (l3)), some (.int (l4)), some (.int (l5)), some (.int (l6)), some (.int (l7)), some (.int (l8)), none, none, none] []) (σ : Sg) (l1 : Int32) (l2 : Int32) (l3 : Int32) (l4 : Int32) (l5 : Int32) (l8 : Int32) (l9 : Int32) (l11 : Int32) : GO X K 12 (fun r => MQi X K r.1 r.2) (fX9_dropAt_157 b k56 σ l1 l2 l3 l4 l5 l8 l9 l11) σ 0 0 157 [some (.ref (X.ad b)), some (.int (l1)), some (.int (l2)), some (.int (l3)), some (.int (l4)), some (.int (l5)), none, none, some (.int (l8)), some (.int (l9)), none, some (.int (l11))] [] := by
  unfold fX9_dropAt_157
  refine g_iload (pc := 157) C dX9_dropAt_157 rfl ?_
  refine g_istore (pc := 159) C dX9_dropAt_159 (Nat.le_of_ble_eq_true rfl) rfl ?_
  refine g_iconst (pc := 161) (v := 4) C dX9_dropAt_161 (by decide) ?_
  refine g_iload (pc := 162) C dX9_dropAt_162 rfl ?_
  refine g_imul (pc := 164) C dX9_dropAt_164 ?_
  refine g_iload (pc := 165) C dX9_dropAt_165 rfl ?_
  refine g_icmp_ge (pc := 167) (tgt := 175) C dX9_dropAt_167 rfl ?_ ?_
  · refine g_iconst (pc := 175) (v := 4) C dX9_dropAt_175 (by decide) ?_
    refine g_keep [true, true, true, true, true, true, false, true, true, false, false, false] ?_
    exact bX9_dropAt_176 C hr b hb hk56 σ l1 l2 l3 l4 l5 l11 l8 4
  · refine g_iload (pc := 170) C dX9_dropAt_170 rfl ?_
    refine g_goto (pc := 172) (tgt := 176) C dX9_dropAt_172 rfl ?_
    refine g_keep [true, true, true, true, true, true, false, true, true, false, false, false] ?_
    exact bX9_dropAt_176 C hr b hb hk56 σ l1 l2 l3 l4 l5 l11 l8 l8
def fX9_dropAt_143 (b : Nat) (k56 : Sg → Int32 → Int32 → Int32 → Int32 → Int32 → Int32 → Int32 → Int32 → Option (Int32 × Sg)) (σ : Sg) (l1 : Int32) (l2 : Int32) (l3 : Int32) (l4 : Int32) (l5 : Int32) (l6 : Int32) (l7 : Int32) (l8 : Int32) (l9 : Int32) (s0 : Int32) : Option (Int32 × Sg) :=
  if l8 = 0 then
    (fX9_dropAt_157 b k56 σ l1 l2 l3 l4 l5 l8 l9 s0)
  else
    if l7 ≤ s0 then
      (fX9_dropAt_178 b k56 σ l1 l2 l3 l4 l5 l6 l7 l8)
    else
      (fX9_dropAt_157 b k56 σ l1 l2 l3 l4 l5 l8 l9 s0)
theorem bX9_dropAt_143 {X : Xc} {K : Kc} (C : MC X K cX9_dropAt 12 RX9 rmX9_dropAt) (hr : K.meth.sig.returnType = (some .int)) (b : Nat) (hb : moOK b){k56 : Sg → Int32 → Int32 → Int32 → Int32 → Int32 → Int32 → Int32 → Int32 → Option (Int32 × Sg)} (hk56 : ∀ (σ : Sg) (l1 : Int32) (l2 : Int32) (l3 : Int32) (l4 : Int32) (l5 : Int32) (l6 : Int32) (l7 : Int32) (l8 : Int32), GO X K 12 (fun r => MQi X K r.1 r.2) (k56 σ l1 l2 l3 l4 l5 l6 l7 l8) σ 0 0 56 [some (.ref (X.ad b)), some (.int (l1)), some (.int (l2)), some (.int (l3)), some (.int (l4)), some (.int (l5)), some (.int (l6)), some (.int (l7)), some (.int (l8)), none, none, none] []) (σ : Sg) (l1 : Int32) (l2 : Int32) (l3 : Int32) (l4 : Int32) (l5 : Int32) (l6 : Int32) (l7 : Int32) (l8 : Int32) (l9 : Int32) (s0 : Int32) : GO X K 12 (fun r => MQi X K r.1 r.2) (fX9_dropAt_143 b k56 σ l1 l2 l3 l4 l5 l6 l7 l8 l9 s0) σ 0 0 143 [some (.ref (X.ad b)), some (.int (l1)), some (.int (l2)), some (.int (l3)), some (.int (l4)), some (.int (l5)), some (.int (l6)), some (.int (l7)), some (.int (l8)), some (.int (l9)), none, none] [.int (s0)] := by
  unfold fX9_dropAt_143
  refine g_istore (pc := 143) C dX9_dropAt_143 (Nat.le_of_ble_eq_true rfl) rfl ?_
  refine g_iload (pc := 145) C dX9_dropAt_145 rfl ?_
  refine g_if_eq (pc := 147) (tgt := 157) C dX9_dropAt_147 rfl ?_ ?_
  · refine g_keep [true, true, true, true, true, true, false, false, true, true, false, true] ?_
    exact bX9_dropAt_157 C hr b hb hk56 σ l1 l2 l3 l4 l5 l8 l9 s0
  · refine g_iload (pc := 150) C dX9_dropAt_150 rfl ?_
    refine g_iload (pc := 152) C dX9_dropAt_152 rfl ?_
    refine g_icmp_ge (pc := 154) (tgt := 178) C dX9_dropAt_154 rfl ?_ ?_
    · refine g_keep [true, true, true, true, true, true, true, true, true, false, false, false] ?_
      exact bX9_dropAt_178 C hr b hb hk56 σ l1 l2 l3 l4 l5 l6 l7 l8
    · refine g_keep [true, true, true, true, true, true, false, false, true, true, false, true] ?_
      exact bX9_dropAt_157 C hr b hb hk56 σ l1 l2 l3 l4 l5 l8 l9 s0
def fX9_dropAt_122 (b : Nat) (k56 : Sg → Int32 → Int32 → Int32 → Int32 → Int32 → Int32 → Int32 → Int32 → Option (Int32 × Sg)) (σ : Sg) (l1 : Int32) (l2 : Int32) (l3 : Int32) (l4 : Int32) (l5 : Int32) (l6 : Int32) (l7 : Int32) (l8 : Int32) (l9 : Int32) (s0 : Int32) : Option (Int32 × Sg) :=
  if (l8 - l8 / 2 * 2) = 0 then
    (fX9_dropAt_143 b k56 σ l1 l2 l3 l4 l5 l6 l7 l8 l9 s0)
  else
    (fX9_dropAt_143 b k56 σ l1 l2 l3 l4 l5 l6 l7 l8 l9 ((l9 - 1) - s0))
theorem bX9_dropAt_122 {X : Xc} {K : Kc} (C : MC X K cX9_dropAt 12 RX9 rmX9_dropAt) (hr : K.meth.sig.returnType = (some .int)) (b : Nat) (hb : moOK b){k56 : Sg → Int32 → Int32 → Int32 → Int32 → Int32 → Int32 → Int32 → Int32 → Option (Int32 × Sg)} (hk56 : ∀ (σ : Sg) (l1 : Int32) (l2 : Int32) (l3 : Int32) (l4 : Int32) (l5 : Int32) (l6 : Int32) (l7 : Int32) (l8 : Int32), GO X K 12 (fun r => MQi X K r.1 r.2) (k56 σ l1 l2 l3 l4 l5 l6 l7 l8) σ 0 0 56 [some (.ref (X.ad b)), some (.int (l1)), some (.int (l2)), some (.int (l3)), some (.int (l4)), some (.int (l5)), some (.int (l6)), some (.int (l7)), some (.int (l8)), none, none, none] []) (σ : Sg) (l1 : Int32) (l2 : Int32) (l3 : Int32) (l4 : Int32) (l5 : Int32) (l6 : Int32) (l7 : Int32) (l8 : Int32) (l9 : Int32) (s0 : Int32) : GO X K 12 (fun r => MQi X K r.1 r.2) (fX9_dropAt_122 b k56 σ l1 l2 l3 l4 l5 l6 l7 l8 l9 s0) σ 0 0 122 [some (.ref (X.ad b)), some (.int (l1)), some (.int (l2)), some (.int (l3)), some (.int (l4)), some (.int (l5)), some (.int (l6)), some (.int (l7)), some (.int (l8)), some (.int (l9)), none, none] [.int (s0)] := by
  unfold fX9_dropAt_122
  refine g_istore (pc := 122) C dX9_dropAt_122 (Nat.le_of_ble_eq_true rfl) rfl ?_
  refine g_iload (pc := 124) C dX9_dropAt_124 rfl ?_
  refine g_iconst (pc := 126) (v := 2) C dX9_dropAt_126 (by decide) ?_
  refine g_iremc (pc := 127) C dX9_dropAt_127 (by decide) ?_
  refine g_if_ne (pc := 128) (tgt := 136) C dX9_dropAt_128 rfl ?_ ?_
  · refine g_iload (pc := 131) C dX9_dropAt_131 rfl ?_
    refine g_goto (pc := 133) (tgt := 143) C dX9_dropAt_133 rfl ?_
    refine g_keep [true, true, true, true, true, true, true, true, true, true, false, false] ?_
    exact bX9_dropAt_143 C hr b hb hk56 σ l1 l2 l3 l4 l5 l6 l7 l8 l9 s0
  · refine g_iload (pc := 136) C dX9_dropAt_136 rfl ?_
    refine g_iconst (pc := 138) (v := 1) C dX9_dropAt_138 (by decide) ?_
    refine g_isub (pc := 139) C dX9_dropAt_139 ?_
    refine g_iload (pc := 140) C dX9_dropAt_140 rfl ?_
    refine g_isub (pc := 142) C dX9_dropAt_142 ?_
    refine g_keep [true, true, true, true, true, true, true, true, true, true, false, false] ?_
    exact bX9_dropAt_143 C hr b hb hk56 σ l1 l2 l3 l4 l5 l6 l7 l8 l9 ((l9 - 1) - s0)
def fX9_dropAt_89 (b : Nat) (k56 : Sg → Int32 → Int32 → Int32 → Int32 → Int32 → Int32 → Int32 → Int32 → Option (Int32 × Sg)) (σ : Sg) (l1 : Int32) (l2 : Int32) (l3 : Int32) (l4 : Int32) (l5 : Int32) (l6 : Int32) (l7 : Int32) (l8 : Int32) (s0 : Int32) : Option (Int32 × Sg) :=
  if 2 ≤ l8 then
    if ck ((4 * l3) + 1) 96 then
      (fX9_dropAt_122 b k56 σ l1 l2 l3 l4 l5 l6 l7 l8 s0 (l2 - (σ.1 (b + 7) ((4 * l3) + 1).toNatClampNeg)))
    else none
  else
    if ck (4 * l3) 96 then
      (fX9_dropAt_122 b k56 σ l1 l2 l3 l4 l5 l6 l7 l8 s0 (l1 - (σ.1 (b + 7) (4 * l3).toNatClampNeg)))
    else none
theorem bX9_dropAt_89 {X : Xc} {K : Kc} (C : MC X K cX9_dropAt 12 RX9 rmX9_dropAt) (hr : K.meth.sig.returnType = (some .int)) (b : Nat) (hb : moOK b){k56 : Sg → Int32 → Int32 → Int32 → Int32 → Int32 → Int32 → Int32 → Int32 → Option (Int32 × Sg)} (hk56 : ∀ (σ : Sg) (l1 : Int32) (l2 : Int32) (l3 : Int32) (l4 : Int32) (l5 : Int32) (l6 : Int32) (l7 : Int32) (l8 : Int32), GO X K 12 (fun r => MQi X K r.1 r.2) (k56 σ l1 l2 l3 l4 l5 l6 l7 l8) σ 0 0 56 [some (.ref (X.ad b)), some (.int (l1)), some (.int (l2)), some (.int (l3)), some (.int (l4)), some (.int (l5)), some (.int (l6)), some (.int (l7)), some (.int (l8)), none, none, none] []) (σ : Sg) (l1 : Int32) (l2 : Int32) (l3 : Int32) (l4 : Int32) (l5 : Int32) (l6 : Int32) (l7 : Int32) (l8 : Int32) (s0 : Int32) : GO X K 12 (fun r => MQi X K r.1 r.2) (fX9_dropAt_89 b k56 σ l1 l2 l3 l4 l5 l6 l7 l8 s0) σ 0 0 89 [some (.ref (X.ad b)), some (.int (l1)), some (.int (l2)), some (.int (l3)), some (.int (l4)), some (.int (l5)), some (.int (l6)), some (.int (l7)), some (.int (l8)), none, none, none] [.int (s0)] := by
  unfold fX9_dropAt_89
  refine g_istore (pc := 89) C dX9_dropAt_89 (Nat.le_of_ble_eq_true rfl) rfl ?_
  refine g_iload (pc := 91) C dX9_dropAt_91 rfl ?_
  refine g_iconst (pc := 93) (v := 2) C dX9_dropAt_93 (by decide) ?_
  refine g_icmp_ge (pc := 94) (tgt := 110) C dX9_dropAt_94 rfl ?_ ?_
  · refine g_iload_n (pc := 110) (i := 2) C dX9_dropAt_110 rfl rfl ?_
    refine g_aload_n (pc := 111) (i := 0) C dX9_dropAt_111 rfl rfl ?_
    refine g_getr (pc := 112) (ci := 9) (N := 27) (T := TX9) (j := 9) (Cn := RX9) (b + 7) C rfl inlX9 (Nat.le_of_ble_eq_true rfl) q_6_9 (blk hb 0 rfl) rfl dX9_dropAt_112 ?_
    refine g_iconst (pc := 115) (v := 4) C dX9_dropAt_115 (by decide) ?_
    refine g_iload_n (pc := 116) (i := 3) C dX9_dropAt_116 rfl rfl ?_
    refine g_imul (pc := 117) C dX9_dropAt_117 ?_
    refine g_iconst (pc := 118) (v := 1) C dX9_dropAt_118 (by decide) ?_
    refine g_iadd (pc := 119) C dX9_dropAt_119 ?_
    refine g_iaload (pc := 120) C (blk hb 7 rfl) dX9_dropAt_120 ?_
    refine g_isub (pc := 121) C dX9_dropAt_121 ?_
    refine g_keep [true, true, true, true, true, true, true, true, true, true, false, false] ?_
    exact bX9_dropAt_122 C hr b hb hk56 σ l1 l2 l3 l4 l5 l6 l7 l8 s0 (l2 - (σ.1 (b + 7) ((4 * l3) + 1).toNatClampNeg))
  · refine g_iload_n (pc := 97) (i := 1) C dX9_dropAt_97 rfl rfl ?_
    refine g_aload_n (pc := 98) (i := 0) C dX9_dropAt_98 rfl rfl ?_
    refine g_getr (pc := 99) (ci := 9) (N := 27) (T := TX9) (j := 9) (Cn := RX9) (b + 7) C rfl inlX9 (Nat.le_of_ble_eq_true rfl) q_6_9 (blk hb 0 rfl) rfl dX9_dropAt_99 ?_
    refine g_iconst (pc := 102) (v := 4) C dX9_dropAt_102 (by decide) ?_
    refine g_iload_n (pc := 103) (i := 3) C dX9_dropAt_103 rfl rfl ?_
    refine g_imul (pc := 104) C dX9_dropAt_104 ?_
    refine g_iaload (pc := 105) C (blk hb 7 rfl) dX9_dropAt_105 ?_
    refine g_isub (pc := 106) C dX9_dropAt_106 ?_
    refine g_goto (pc := 107) (tgt := 122) C dX9_dropAt_107 rfl ?_
    refine g_keep [true, true, true, true, true, true, true, true, true, true, false, false] ?_
    exact bX9_dropAt_122 C hr b hb hk56 σ l1 l2 l3 l4 l5 l6 l7 l8 s0 (l1 - (σ.1 (b + 7) (4 * l3).toNatClampNeg))
def fX9_dropAt_56 (b : Nat) : Nat → Sg → Int32 → Int32 → Int32 → Int32 → Int32 → Int32 → Int32 → Int32 → Option (Int32 × Sg)
  | 0, _, _, _, _, _, _, _, _, _ => none
  | n + 1, σ, l1, l2, l3, l4, l5, l6, l7, l8 =>
    if 4 ≤ l8 then
      (fX9_dropAt_184 b σ l3 l6)
    else
      if ck ((4 * l3) + 1) 96 then
        if l2 = (σ.1 (b + 7) ((4 * l3) + 1).toNatClampNeg) then
          (fX9_dropAt_184 b σ l3 l6)
        else
          if 2 ≤ l8 then
            (fX9_dropAt_89 b (fX9_dropAt_56 b n) σ l1 l2 l3 l4 l5 l6 l7 l8 l5)
          else
            (fX9_dropAt_89 b (fX9_dropAt_56 b n) σ l1 l2 l3 l4 l5 l6 l7 l8 l4)
      else none
theorem bX9_dropAt_56 {X : Xc} {K : Kc} (C : MC X K cX9_dropAt 12 RX9 rmX9_dropAt) (hr : K.meth.sig.returnType = (some .int)) (b : Nat) (hb : moOK b) : ∀ (n : Nat) (σ : Sg) (l1 : Int32) (l2 : Int32) (l3 : Int32) (l4 : Int32) (l5 : Int32) (l6 : Int32) (l7 : Int32) (l8 : Int32), GO X K 12 (fun r => MQi X K r.1 r.2) (fX9_dropAt_56 b n σ l1 l2 l3 l4 l5 l6 l7 l8) σ 0 0 56 [some (.ref (X.ad b)), some (.int (l1)), some (.int (l2)), some (.int (l3)), some (.int (l4)), some (.int (l5)), some (.int (l6)), some (.int (l7)), some (.int (l8)), none, none, none] [] := by
  intro n
  induction n with
  | zero =>
    intro σ l1 l2 l3 l4 l5 l6 l7 l8
    exact g_none
  | succ n ih =>
    intro σ l1 l2 l3 l4 l5 l6 l7 l8
    unfold fX9_dropAt_56
    refine g_iload (pc := 56) C dX9_dropAt_56 rfl ?_
    refine g_iconst (pc := 58) (v := 4) C dX9_dropAt_58 (by decide) ?_
    refine g_icmp_ge (pc := 59) (tgt := 184) C dX9_dropAt_59 rfl ?_ ?_
    · refine g_keep [true, false, false, true, false, false, true, false, false, false, false, false] ?_
      exact bX9_dropAt_184 C hr b hb σ l3 l6
    · refine g_iload_n (pc := 62) (i := 2) C dX9_dropAt_62 rfl rfl ?_
      refine g_aload_n (pc := 63) (i := 0) C dX9_dropAt_63 rfl rfl ?_
      refine g_getr (pc := 64) (ci := 9) (N := 27) (T := TX9) (j := 9) (Cn := RX9) (b + 7) C rfl inlX9 (Nat.le_of_ble_eq_true rfl) q_6_9 (blk hb 0 rfl) rfl dX9_dropAt_64 ?_
      refine g_iconst (pc := 67) (v := 4) C dX9_dropAt_67 (by decide) ?_
      refine g_iload_n (pc := 68) (i := 3) C dX9_dropAt_68 rfl rfl ?_
      refine g_imul (pc := 69) C dX9_dropAt_69 ?_
      refine g_iconst (pc := 70) (v := 1) C dX9_dropAt_70 (by decide) ?_
      refine g_iadd (pc := 71) C dX9_dropAt_71 ?_
      refine g_iaload (pc := 72) C (blk hb 7 rfl) dX9_dropAt_72 ?_
      refine g_icmp_eq (pc := 73) (tgt := 184) C dX9_dropAt_73 rfl ?_ ?_
      · refine g_keep [true, false, false, true, false, false, true, false, false, false, false, false] ?_
        exact bX9_dropAt_184 C hr b hb σ l3 l6
      · refine g_iload (pc := 76) C dX9_dropAt_76 rfl ?_
        refine g_iconst (pc := 78) (v := 2) C dX9_dropAt_78 (by decide) ?_
        refine g_icmp_ge (pc := 79) (tgt := 87) C dX9_dropAt_79 rfl ?_ ?_
        · refine g_iload (pc := 87) C dX9_dropAt_87 rfl ?_
          refine g_keep [true, true, true, true, true, true, true, true, true, false, false, false] ?_
          exact bX9_dropAt_89 C hr b hb ih σ l1 l2 l3 l4 l5 l6 l7 l8 l5
        · refine g_iload (pc := 82) C dX9_dropAt_82 rfl ?_
          refine g_goto (pc := 84) (tgt := 89) C dX9_dropAt_84 rfl ?_
          refine g_keep [true, true, true, true, true, true, true, true, true, false, false, false] ?_
          exact bX9_dropAt_89 C hr b hb ih σ l1 l2 l3 l4 l5 l6 l7 l8 l4
def fX9_dropAt (σ : Sg) (b : Nat) (p1 : Int32) (p2 : Int32) : Option (Int32 × Sg) :=
  nm (su σ b 3 0) fun σ1 =>
  (fX9_lays σ1 b).bind fun σ2 =>
  (fX9_groupAt σ2 b p1 p2).bind fun r3 =>
  if r3 = (-1) then
    some ((-1), σ2)
  else
    if ck ((4 * r3) + 2) 96 then
      nm (σ2.1 (b + 7) ((4 * r3) + 2).toNatClampNeg) fun v4 =>
      if ck ((4 * r3) + 3) 96 then
        nm (σ2.1 (b + 7) ((4 * r3) + 3).toNatClampNeg) fun v5 =>
        (fX9_dropAt_56 b FU σ2 p1 p2 r3 v4 v5 4 0 0)
      else none
    else none
theorem kX9_dropAt (X : Xc) (σ : Sg) (b : Nat) (p1 : Int32) (p2 : Int32) (hb : moOK b) : ∀ r, fX9_dropAt σ b p1 p2 = some r → Met X.l yX9_dropAt (wsM yX9_dropAt cX9_dropAt 12 (some .int)) rmX9_dropAt (va_Pc [.ref (X.ad b), .int p1, .int p2] (PW X σ)) (Qi X r.1 r.2) 0 0 X.A := by
  refine mt_of (own := RX9) (lo := [some (.ref (X.ad b)), some (.int (p1)), some (.int (p2)), none, none, none, none, none, none, none, none, none]) (by decide) rfl (Nat.le_of_ble_eq_true rfl) rfl (fun K C hr => ?_)
  unfold fX9_dropAt
  refine g_aload_n (pc := 0) (i := 0) C dX9_dropAt_0 rfl rfl ?_
  refine g_iconst (pc := 1) (v := 0) C dX9_dropAt_1 (by decide) ?_
  refine g_puti (pc := 2) (ci := 9) (N := 27) (T := TX9) (j := 3) (Cn := RX9) C rfl inlX9 tyX9_ok nmX9 (Nat.le_of_ble_eq_true rfl) q_10_13 (blk hb 0 rfl) rfl rfl rfl dX9_dropAt_2 ?_
  refine g_nms (fun σ1 => ?_)
  refine g_aload_n (pc := 5) (i := 0) C dX9_dropAt_5 rfl rfl ?_
  refine g_callVv (pc := 6) (As := []) C (kX9_lays X σ1 b hb) (blk hb 0 rfl) rfl q_26_21 q_26_22 q_26_23 q_1_5 q_27_0 ⟨rfl, hdX9_lays⟩ ⟨Nat.le_of_ble_eq_true rfl, Nat.le_of_ble_eq_true rfl, rfl, rfl⟩ ⟨Nat.zero_le _, Nat.zero_le _⟩ (Nat.le_of_ble_eq_true rfl) rfl rfl dX9_dropAt_6 (fun σ2 _ => ?_)
  refine g_aload_n (pc := 9) (i := 0) C dX9_dropAt_9 rfl rfl ?_
  refine g_iload_n (pc := 10) (i := 1) C dX9_dropAt_10 rfl rfl ?_
  refine g_iload_n (pc := 11) (i := 2) C dX9_dropAt_11 rfl rfl ?_
  refine g_callVi (pc := 12) (As := [.int (p1), .int (p2)]) C (kX9_groupAt X σ2 b p1 p2 hb) (blk hb 0 rfl) rfl q_45_1 q_45_2 q_45_3 q_1_5 q_45_4 ⟨rfl, hdX9_groupAt⟩ ⟨Nat.le_of_ble_eq_true rfl, Nat.le_of_ble_eq_true rfl, rfl, rfl⟩ ⟨Nat.zero_le _, Nat.zero_le _⟩ (Nat.le_of_ble_eq_true rfl) rfl rfl dX9_dropAt_12 (fun r3 _ => ?_)
  refine g_istore_n (pc := 15) (i := 3) C dX9_dropAt_15 rfl (Nat.le_of_ble_eq_true rfl) rfl ?_
  refine g_iload_n (pc := 16) (i := 3) C dX9_dropAt_16 rfl rfl ?_
  refine g_iconst (pc := 17) (v := (-1)) C dX9_dropAt_17 (by decide) ?_
  refine g_icmp_ne (pc := 18) (tgt := 23) C dX9_dropAt_18 rfl ?_ ?_
  · refine g_iconst (pc := 21) (v := (-1)) C dX9_dropAt_21 (by decide) ?_
    exact g_iret (pc := 22) C hr dX9_dropAt_22 rfl
  · refine g_aload_n (pc := 23) (i := 0) C dX9_dropAt_23 rfl rfl ?_
    refine g_getr (pc := 24) (ci := 9) (N := 27) (T := TX9) (j := 9) (Cn := RX9) (b + 7) C rfl inlX9 (Nat.le_of_ble_eq_true rfl) q_6_9 (blk hb 0 rfl) rfl dX9_dropAt_24 ?_
    refine g_iconst (pc := 27) (v := 4) C dX9_dropAt_27 (by decide) ?_
    refine g_iload_n (pc := 28) (i := 3) C dX9_dropAt_28 rfl rfl ?_
    refine g_imul (pc := 29) C dX9_dropAt_29 ?_
    refine g_iconst (pc := 30) (v := 2) C dX9_dropAt_30 (by decide) ?_
    refine g_iadd (pc := 31) C dX9_dropAt_31 ?_
    refine g_iaload (pc := 32) C (blk hb 7 rfl) dX9_dropAt_32 ?_
    refine g_nm (fun v4 => ?_)
    refine g_istore (pc := 33) C dX9_dropAt_33 (Nat.le_of_ble_eq_true rfl) rfl ?_
    refine g_aload_n (pc := 35) (i := 0) C dX9_dropAt_35 rfl rfl ?_
    refine g_getr (pc := 36) (ci := 9) (N := 27) (T := TX9) (j := 9) (Cn := RX9) (b + 7) C rfl inlX9 (Nat.le_of_ble_eq_true rfl) q_6_9 (blk hb 0 rfl) rfl dX9_dropAt_36 ?_
    refine g_iconst (pc := 39) (v := 4) C dX9_dropAt_39 (by decide) ?_
    refine g_iload_n (pc := 40) (i := 3) C dX9_dropAt_40 rfl rfl ?_
    refine g_imul (pc := 41) C dX9_dropAt_41 ?_
    refine g_iconst (pc := 42) (v := 3) C dX9_dropAt_42 (by decide) ?_
    refine g_iadd (pc := 43) C dX9_dropAt_43 ?_
    refine g_iaload (pc := 44) C (blk hb 7 rfl) dX9_dropAt_44 ?_
    refine g_nm (fun v5 => ?_)
    refine g_istore (pc := 45) C dX9_dropAt_45 (Nat.le_of_ble_eq_true rfl) rfl ?_
    refine g_iconst (pc := 47) (v := 4) C dX9_dropAt_47 (by decide) ?_
    refine g_istore (pc := 48) C dX9_dropAt_48 (Nat.le_of_ble_eq_true rfl) rfl ?_
    refine g_iconst (pc := 50) (v := 0) C dX9_dropAt_50 (by decide) ?_
    refine g_istore (pc := 51) C dX9_dropAt_51 (Nat.le_of_ble_eq_true rfl) rfl ?_
    refine g_iconst (pc := 53) (v := 0) C dX9_dropAt_53 (by decide) ?_
    refine g_istore (pc := 54) C dX9_dropAt_54 (Nat.le_of_ble_eq_true rfl) rfl ?_
    refine g_keep [true, true, true, true, true, true, true, true, true, false, false, false] ?_
    exact bX9_dropAt_56 C hr b hb FU σ2 p1 p2 r3 v4 v5 4 0 0
theorem dX9_store_0 : decode cX9_store 0 = .ok (.aload_n 0, 1) := by decide +kernel
theorem dX9_store_1 : decode cX9_store 1 = .ok (.iload_n 1, 1) := by decide +kernel
theorem dX9_store_2 : decode cX9_store 2 = .ok (.iconst 0, 1) := by decide +kernel
theorem dX9_store_3 : decode cX9_store 3 = .ok (.iconst 2, 1) := by decide +kernel
theorem dX9_store_4 : decode cX9_store 4 = .ok (.invokestatic 61, 3) := by decide +kernel
theorem dX9_store_7 : decode cX9_store 7 = .ok (.ifCond .eq 7, 3) := by decide +kernel
theorem dX9_store_10 : decode cX9_store 10 = .ok (.iconst 0, 1) := by decide +kernel
theorem dX9_store_11 : decode cX9_store 11 = .ok (.goto 4, 3) := by decide +kernel
theorem dX9_store_14 : decode cX9_store 14 = .ok (.iconst 1, 1) := by decide +kernel
theorem dX9_store_15 : decode cX9_store 15 = .ok (.invokevirtual 57, 3) := by decide +kernel
theorem dX9_store_18 : decode cX9_store 18 = .ok (.ifCond .eq 5, 3) := by decide +kernel
theorem dX9_store_21 : decode cX9_store 21 = .ok (.iconst 0, 1) := by decide +kernel
theorem dX9_store_22 : decode cX9_store 22 = .ok (.ireturn, 1) := by decide +kernel
theorem dX9_store_23 : decode cX9_store 23 = .ok (.aload_n 0, 1) := by decide +kernel
theorem dX9_store_24 : decode cX9_store 24 = .ok (.invokevirtual 141, 3) := by decide +kernel
theorem dX9_store_27 : decode cX9_store 27 = .ok (.sipush 264, 3) := by decide +kernel
theorem dX9_store_30 : decode cX9_store 30 = .ok (.sipush 219, 3) := by decide +kernel
theorem dX9_store_33 : decode cX9_store 33 = .ok (.iload_n 1, 1) := by decide +kernel
theorem dX9_store_34 : decode cX9_store 34 = .ok (.imul, 1) := by decide +kernel
theorem dX9_store_35 : decode cX9_store 35 = .ok (.iadd, 1) := by decide +kernel
theorem dX9_store_36 : decode cX9_store 36 = .ok (.istore_n 2, 1) := by decide +kernel
theorem dX9_store_37 : decode cX9_store 37 = .ok (.aload_n 0, 1) := by decide +kernel
theorem dX9_store_38 : decode cX9_store 38 = .ok (.getfield 7, 3) := by decide +kernel
theorem dX9_store_41 : decode cX9_store 41 = .ok (.iload_n 2, 1) := by decide +kernel
theorem dX9_store_42 : decode cX9_store 42 = .ok (.iconst 1, 1) := by decide +kernel
theorem dX9_store_43 : decode cX9_store 43 = .ok (.iastore, 1) := by decide +kernel
theorem dX9_store_44 : decode cX9_store 44 = .ok (.iconst 0, 1) := by decide +kernel
theorem dX9_store_45 : decode cX9_store 45 = .ok (.istore_n 3, 1) := by decide +kernel
theorem dX9_store_46 : decode cX9_store 46 = .ok (.iload_n 3, 1) := by decide +kernel
theorem dX9_store_47 : decode cX9_store 47 = .ok (.bipush 12, 2) := by decide +kernel
theorem dX9_store_49 : decode cX9_store 49 = .ok (.if_icmp .ge 48, 3) := by decide +kernel
theorem dX9_store_52 : decode cX9_store 52 = .ok (.iconst 0, 1) := by decide +kernel
theorem dX9_store_53 : decode cX9_store 53 = .ok (.istore 4, 2) := by decide +kernel
theorem dX9_store_55 : decode cX9_store 55 = .ok (.iload 4, 2) := by decide +kernel
theorem dX9_store_57 : decode cX9_store 57 = .ok (.iconst 3, 1) := by decide +kernel
theorem dX9_store_58 : decode cX9_store 58 = .ok (.if_icmp .ge 33, 3) := by decide +kernel
theorem dX9_store_61 : decode cX9_store 61 = .ok (.aload_n 0, 1) := by decide +kernel
theorem dX9_store_62 : decode cX9_store 62 = .ok (.getfield 7, 3) := by decide +kernel
theorem dX9_store_65 : decode cX9_store 65 = .ok (.iload_n 2, 1) := by decide +kernel
theorem dX9_store_66 : decode cX9_store 66 = .ok (.iconst 1, 1) := by decide +kernel
theorem dX9_store_67 : decode cX9_store 67 = .ok (.iadd, 1) := by decide +kernel
theorem dX9_store_68 : decode cX9_store 68 = .ok (.iconst 3, 1) := by decide +kernel
theorem dX9_store_69 : decode cX9_store 69 = .ok (.iload_n 3, 1) := by decide +kernel
theorem dX9_store_70 : decode cX9_store 70 = .ok (.imul, 1) := by decide +kernel
theorem dX9_store_71 : decode cX9_store 71 = .ok (.iadd, 1) := by decide +kernel
theorem dX9_store_72 : decode cX9_store 72 = .ok (.iload 4, 2) := by decide +kernel
theorem dX9_store_74 : decode cX9_store 74 = .ok (.iadd, 1) := by decide +kernel
theorem dX9_store_75 : decode cX9_store 75 = .ok (.aload_n 0, 1) := by decide +kernel
theorem dX9_store_76 : decode cX9_store 76 = .ok (.iload_n 3, 1) := by decide +kernel
theorem dX9_store_77 : decode cX9_store 77 = .ok (.iconst 3, 1) := by decide +kernel
theorem dX9_store_78 : decode cX9_store 78 = .ok (.iload 4, 2) := by decide +kernel
theorem dX9_store_80 : decode cX9_store 80 = .ok (.iadd, 1) := by decide +kernel
theorem dX9_store_81 : decode cX9_store 81 = .ok (.invokevirtual 65, 3) := by decide +kernel
theorem dX9_store_84 : decode cX9_store 84 = .ok (.iastore, 1) := by decide +kernel
theorem dX9_store_85 : decode cX9_store 85 = .ok (.iinc 4 1, 3) := by decide +kernel
theorem dX9_store_88 : decode cX9_store 88 = .ok (.goto (-33), 3) := by decide +kernel
theorem dX9_store_91 : decode cX9_store 91 = .ok (.iinc 3 1, 3) := by decide +kernel
theorem dX9_store_94 : decode cX9_store 94 = .ok (.goto (-48), 3) := by decide +kernel
theorem dX9_store_97 : decode cX9_store 97 = .ok (.iconst 0, 1) := by decide +kernel
theorem dX9_store_98 : decode cX9_store 98 = .ok (.istore_n 3, 1) := by decide +kernel
theorem dX9_store_99 : decode cX9_store 99 = .ok (.iload_n 3, 1) := by decide +kernel
theorem dX9_store_100 : decode cX9_store 100 = .ok (.sipush 144, 3) := by decide +kernel
theorem dX9_store_103 : decode cX9_store 103 = .ok (.if_icmp .ge 29, 3) := by decide +kernel
theorem dX9_store_106 : decode cX9_store 106 = .ok (.aload_n 0, 1) := by decide +kernel
theorem dX9_store_107 : decode cX9_store 107 = .ok (.getfield 7, 3) := by decide +kernel
theorem dX9_store_110 : decode cX9_store 110 = .ok (.iload_n 2, 1) := by decide +kernel
theorem dX9_store_111 : decode cX9_store 111 = .ok (.bipush 37, 2) := by decide +kernel
theorem dX9_store_113 : decode cX9_store 113 = .ok (.iadd, 1) := by decide +kernel
theorem dX9_store_114 : decode cX9_store 114 = .ok (.iload_n 3, 1) := by decide +kernel
theorem dX9_store_115 : decode cX9_store 115 = .ok (.iadd, 1) := by decide +kernel
theorem dX9_store_116 : decode cX9_store 116 = .ok (.aload_n 0, 1) := by decide +kernel
theorem dX9_store_117 : decode cX9_store 117 = .ok (.getfield 7, 3) := by decide +kernel
theorem dX9_store_120 : decode cX9_store 120 = .ok (.bipush 72, 2) := by decide +kernel
theorem dX9_store_122 : decode cX9_store 122 = .ok (.iload_n 3, 1) := by decide +kernel
theorem dX9_store_123 : decode cX9_store 123 = .ok (.iadd, 1) := by decide +kernel
theorem dX9_store_124 : decode cX9_store 124 = .ok (.iaload, 1) := by decide +kernel
theorem dX9_store_125 : decode cX9_store 125 = .ok (.iastore, 1) := by decide +kernel
theorem dX9_store_126 : decode cX9_store 126 = .ok (.iinc 3 1, 3) := by decide +kernel
theorem dX9_store_129 : decode cX9_store 129 = .ok (.goto (-30), 3) := by decide +kernel
theorem dX9_store_132 : decode cX9_store 132 = .ok (.iconst 0, 1) := by decide +kernel
theorem dX9_store_133 : decode cX9_store 133 = .ok (.istore_n 3, 1) := by decide +kernel
theorem dX9_store_134 : decode cX9_store 134 = .ok (.iload_n 3, 1) := by decide +kernel
theorem dX9_store_135 : decode cX9_store 135 = .ok (.bipush 35, 2) := by decide +kernel
theorem dX9_store_137 : decode cX9_store 137 = .ok (.if_icmp .ge 31, 3) := by decide +kernel
theorem dX9_store_140 : decode cX9_store 140 = .ok (.aload_n 0, 1) := by decide +kernel
theorem dX9_store_141 : decode cX9_store 141 = .ok (.getfield 7, 3) := by decide +kernel
theorem dX9_store_144 : decode cX9_store 144 = .ok (.iload_n 2, 1) := by decide +kernel
theorem dX9_store_145 : decode cX9_store 145 = .ok (.sipush 181, 3) := by decide +kernel
theorem dX9_store_148 : decode cX9_store 148 = .ok (.iadd, 1) := by decide +kernel
theorem dX9_store_149 : decode cX9_store 149 = .ok (.iload_n 3, 1) := by decide +kernel
theorem dX9_store_150 : decode cX9_store 150 = .ok (.iadd, 1) := by decide +kernel
theorem dX9_store_151 : decode cX9_store 151 = .ok (.aload_n 0, 1) := by decide +kernel
theorem dX9_store_152 : decode cX9_store 152 = .ok (.getfield 7, 3) := by decide +kernel
theorem dX9_store_155 : decode cX9_store 155 = .ok (.sipush 216, 3) := by decide +kernel
theorem dX9_store_158 : decode cX9_store 158 = .ok (.iload_n 3, 1) := by decide +kernel
theorem dX9_store_159 : decode cX9_store 159 = .ok (.iadd, 1) := by decide +kernel
theorem dX9_store_160 : decode cX9_store 160 = .ok (.iaload, 1) := by decide +kernel
theorem dX9_store_161 : decode cX9_store 161 = .ok (.iastore, 1) := by decide +kernel
theorem dX9_store_162 : decode cX9_store 162 = .ok (.iinc 3 1, 3) := by decide +kernel
theorem dX9_store_165 : decode cX9_store 165 = .ok (.goto (-31), 3) := by decide +kernel
theorem dX9_store_168 : decode cX9_store 168 = .ok (.aload_n 0, 1) := by decide +kernel
theorem dX9_store_169 : decode cX9_store 169 = .ok (.invokevirtual 220, 3) := by decide +kernel
theorem dX9_store_172 : decode cX9_store 172 = .ok (.ireturn, 1) := by decide +kernel
abbrev rmX9_store : Room := { frames := 3, cells := 0, slots := 0, locals := 65 }
theorem hdX9_store : yX9_store.cls ≠ "java/lang/invoke/MethodHandle" ∧ yX9_store.cls ≠ "java/lang/invoke/VarHandle" ∧ (parseMethodDescriptor yX9_store.desc).map (fun d => d.parameters.length) = some 1 := by decide +kernel
def fX9_store_134 (b : Nat) : Nat → Sg → Int32 → Int32 → Option (Int32 × Sg)
  | 0, _, _, _ => none
  | n + 1, σ, l2, l3 =>
    if 35 ≤ l3 then
      (fX9_placedMany σ b).bind fun r7 =>
      some (r7, σ)
    else
      if ck (216 + l3) 921 then
        if ck ((l2 + 181) + l3) 921 then
          nm (su σ (b + 1) ((l2 + 181) + l3).toNatClampNeg (σ.1 (b + 1) (216 + l3).toNatClampNeg)) fun σ8 =>
          ((fX9_store_134 b n) σ8 l2 (l3 + 1))
        else none
      else none
theorem bX9_store_134 {X : Xc} {K : Kc} (C : MC X K cX9_store 5 RX9 rmX9_store) (hr : K.meth.sig.returnType = (some .int)) (b : Nat) (hb : moOK b) : ∀ (n : Nat) (σ : Sg) (l2 : Int32) (l3 : Int32), GO X K 5 (fun r => MQi X K r.1 r.2) (fX9_store_134 b n σ l2 l3) σ 0 0 134 [some (.ref (X.ad b)), none, some (.int (l2)), some (.int (l3)), none] [] := by
  intro n
  induction n with
  | zero =>
    intro σ l2 l3
    exact g_none
  | succ n ih =>
    intro σ l2 l3
    unfold fX9_store_134
    refine g_iload_n (pc := 134) (i := 3) C dX9_store_134 rfl rfl ?_
    refine g_bipush (pc := 135) (v := 35) C dX9_store_135 (by decide) ?_
    refine g_icmp_ge (pc := 137) (tgt := 168) C dX9_store_137 rfl ?_ ?_
    · refine g_aload_n (pc := 168) (i := 0) C dX9_store_168 rfl rfl ?_
      refine g_callVi (pc := 169) (As := []) C (kX9_placedMany X σ b hb) (blk hb 0 rfl) rfl q_37_23 q_38_0 q_38_1 q_1_5 q_38_2 ⟨rfl, hdX9_placedMany⟩ ⟨Nat.le_of_ble_eq_true rfl, Nat.le_of_ble_eq_true rfl, rfl, rfl⟩ ⟨Nat.zero_le _, Nat.zero_le _⟩ (Nat.le_of_ble_eq_true rfl) rfl rfl dX9_store_169 (fun r7 _ => ?_)
      exact g_iret (pc := 172) C hr dX9_store_172 rfl
    · refine g_aload_n (pc := 140) (i := 0) C dX9_store_140 rfl rfl ?_
      refine g_getr (pc := 141) (ci := 9) (N := 27) (T := TX9) (j := 0) (Cn := RX9) (b + 1) C rfl inlX9 (Nat.le_of_ble_eq_true rfl) q_6_2 (blk hb 0 rfl) rfl dX9_store_141 ?_
      refine g_iload_n (pc := 144) (i := 2) C dX9_store_144 rfl rfl ?_
      refine g_sipush (pc := 145) (v := 181) C dX9_store_145 (by decide) ?_
      refine g_iadd (pc := 148) C dX9_store_148 ?_
      refine g_iload_n (pc := 149) (i := 3) C dX9_store_149 rfl rfl ?_
      refine g_iadd (pc := 150) C dX9_store_150 ?_
      refine g_aload_n (pc := 151) (i := 0) C dX9_store_151 rfl rfl ?_
      refine g_getr (pc := 152) (ci := 9) (N := 27) (T := TX9) (j := 0) (Cn := RX9) (b + 1) C rfl inlX9 (Nat.le_of_ble_eq_true rfl) q_6_2 (blk hb 0 rfl) rfl dX9_store_152 ?_
      refine g_sipush (pc := 155) (v := 216) C dX9_store_155 (by decide) ?_
      refine g_iload_n (pc := 158) (i := 3) C dX9_store_158 rfl rfl ?_
      refine g_iadd (pc := 159) C dX9_store_159 ?_
      refine g_iaload (pc := 160) C (blk hb 1 rfl) dX9_store_160 ?_
      refine g_iastore (pc := 161) C (blk hb 1 rfl) dX9_store_161 ?_
      refine g_nms (fun σ8 => ?_)
      refine g_iinc (pc := 162) (v := l3 + 1) C dX9_store_162 rfl (rfl) (Nat.le_of_ble_eq_true rfl) rfl ?_
      refine g_goto (pc := 165) (tgt := 134) C dX9_store_165 rfl ?_
      refine g_keep [true, false, true, true, false] ?_
      exact ih σ8 l2 (l3 + 1)
def fX9_store_99 (b : Nat) : Nat → Sg → Int32 → Int32 → Option (Int32 × Sg)
  | 0, _, _, _ => none
  | n + 1, σ, l2, l3 =>
    if 144 ≤ l3 then
      (fX9_store_134 b FU σ l2 0)
    else
      if ck (72 + l3) 921 then
        if ck ((l2 + 37) + l3) 921 then
          nm (su σ (b + 1) ((l2 + 37) + l3).toNatClampNeg (σ.1 (b + 1) (72 + l3).toNatClampNeg)) fun σ6 =>
          ((fX9_store_99 b n) σ6 l2 (l3 + 1))
        else none
      else none
theorem bX9_store_99 {X : Xc} {K : Kc} (C : MC X K cX9_store 5 RX9 rmX9_store) (hr : K.meth.sig.returnType = (some .int)) (b : Nat) (hb : moOK b) : ∀ (n : Nat) (σ : Sg) (l2 : Int32) (l3 : Int32), GO X K 5 (fun r => MQi X K r.1 r.2) (fX9_store_99 b n σ l2 l3) σ 0 0 99 [some (.ref (X.ad b)), none, some (.int (l2)), some (.int (l3)), none] [] := by
  intro n
  induction n with
  | zero =>
    intro σ l2 l3
    exact g_none
  | succ n ih =>
    intro σ l2 l3
    unfold fX9_store_99
    refine g_iload_n (pc := 99) (i := 3) C dX9_store_99 rfl rfl ?_
    refine g_sipush (pc := 100) (v := 144) C dX9_store_100 (by decide) ?_
    refine g_icmp_ge (pc := 103) (tgt := 132) C dX9_store_103 rfl ?_ ?_
    · refine g_iconst (pc := 132) (v := 0) C dX9_store_132 (by decide) ?_
      refine g_istore_n (pc := 133) (i := 3) C dX9_store_133 rfl (Nat.le_of_ble_eq_true rfl) rfl ?_
      refine g_keep [true, false, true, true, false] ?_
      exact bX9_store_134 C hr b hb FU σ l2 0
    · refine g_aload_n (pc := 106) (i := 0) C dX9_store_106 rfl rfl ?_
      refine g_getr (pc := 107) (ci := 9) (N := 27) (T := TX9) (j := 0) (Cn := RX9) (b + 1) C rfl inlX9 (Nat.le_of_ble_eq_true rfl) q_6_2 (blk hb 0 rfl) rfl dX9_store_107 ?_
      refine g_iload_n (pc := 110) (i := 2) C dX9_store_110 rfl rfl ?_
      refine g_bipush (pc := 111) (v := 37) C dX9_store_111 (by decide) ?_
      refine g_iadd (pc := 113) C dX9_store_113 ?_
      refine g_iload_n (pc := 114) (i := 3) C dX9_store_114 rfl rfl ?_
      refine g_iadd (pc := 115) C dX9_store_115 ?_
      refine g_aload_n (pc := 116) (i := 0) C dX9_store_116 rfl rfl ?_
      refine g_getr (pc := 117) (ci := 9) (N := 27) (T := TX9) (j := 0) (Cn := RX9) (b + 1) C rfl inlX9 (Nat.le_of_ble_eq_true rfl) q_6_2 (blk hb 0 rfl) rfl dX9_store_117 ?_
      refine g_bipush (pc := 120) (v := 72) C dX9_store_120 (by decide) ?_
      refine g_iload_n (pc := 122) (i := 3) C dX9_store_122 rfl rfl ?_
      refine g_iadd (pc := 123) C dX9_store_123 ?_
      refine g_iaload (pc := 124) C (blk hb 1 rfl) dX9_store_124 ?_
      refine g_iastore (pc := 125) C (blk hb 1 rfl) dX9_store_125 ?_
      refine g_nms (fun σ6 => ?_)
      refine g_iinc (pc := 126) (v := l3 + 1) C dX9_store_126 rfl (rfl) (Nat.le_of_ble_eq_true rfl) rfl ?_
      refine g_goto (pc := 129) (tgt := 99) C dX9_store_129 rfl ?_
      refine g_keep [true, false, true, true, false] ?_
      exact ih σ6 l2 (l3 + 1)
def fX9_store_55 (b : Nat) (k46 : Sg → Int32 → Int32 → Option (Int32 × Sg)) : Nat → Sg → Int32 → Int32 → Int32 → Option (Int32 × Sg)
  | 0, _, _, _, _ => none
  | n + 1, σ, l2, l3, l4 =>
    if 3 ≤ l4 then
      (k46 σ l2 (l3 + 1))
    else
      (fX9_of σ b l3 (3 + l4)).bind fun r9 =>
      if ck (((l2 + 1) + (3 * l3)) + l4) 921 then
        nm (su σ (b + 1) (((l2 + 1) + (3 * l3)) + l4).toNatClampNeg r9) fun σ10 =>
        ((fX9_store_55 b k46 n) σ10 l2 l3 (l4 + 1))
      else none
theorem bX9_store_55 {X : Xc} {K : Kc} (C : MC X K cX9_store 5 RX9 rmX9_store) (hr : K.meth.sig.returnType = (some .int)) (b : Nat) (hb : moOK b){k46 : Sg → Int32 → Int32 → Option (Int32 × Sg)} (hk46 : ∀ (σ : Sg) (l2 : Int32) (l3 : Int32), GO X K 5 (fun r => MQi X K r.1 r.2) (k46 σ l2 l3) σ 0 0 46 [some (.ref (X.ad b)), none, some (.int (l2)), some (.int (l3)), none] []) : ∀ (n : Nat) (σ : Sg) (l2 : Int32) (l3 : Int32) (l4 : Int32), GO X K 5 (fun r => MQi X K r.1 r.2) (fX9_store_55 b k46 n σ l2 l3 l4) σ 0 0 55 [some (.ref (X.ad b)), none, some (.int (l2)), some (.int (l3)), some (.int (l4))] [] := by
  intro n
  induction n with
  | zero =>
    intro σ l2 l3 l4
    exact g_none
  | succ n ih =>
    intro σ l2 l3 l4
    unfold fX9_store_55
    refine g_iload (pc := 55) C dX9_store_55 rfl ?_
    refine g_iconst (pc := 57) (v := 3) C dX9_store_57 (by decide) ?_
    refine g_icmp_ge (pc := 58) (tgt := 91) C dX9_store_58 rfl ?_ ?_
    · refine g_iinc (pc := 91) (v := l3 + 1) C dX9_store_91 rfl (rfl) (Nat.le_of_ble_eq_true rfl) rfl ?_
      refine g_goto (pc := 94) (tgt := 46) C dX9_store_94 rfl ?_
      refine g_keep [true, false, true, true, false] ?_
      exact hk46 σ l2 (l3 + 1)
    · refine g_aload_n (pc := 61) (i := 0) C dX9_store_61 rfl rfl ?_
      refine g_getr (pc := 62) (ci := 9) (N := 27) (T := TX9) (j := 0) (Cn := RX9) (b + 1) C rfl inlX9 (Nat.le_of_ble_eq_true rfl) q_6_2 (blk hb 0 rfl) rfl dX9_store_62 ?_
      refine g_iload_n (pc := 65) (i := 2) C dX9_store_65 rfl rfl ?_
      refine g_iconst (pc := 66) (v := 1) C dX9_store_66 (by decide) ?_
      refine g_iadd (pc := 67) C dX9_store_67 ?_
      refine g_iconst (pc := 68) (v := 3) C dX9_store_68 (by decide) ?_
      refine g_iload_n (pc := 69) (i := 3) C dX9_store_69 rfl rfl ?_
      refine g_imul (pc := 70) C dX9_store_70 ?_
      refine g_iadd (pc := 71) C dX9_store_71 ?_
      refine g_iload (pc := 72) C dX9_store_72 rfl ?_
      refine g_iadd (pc := 74) C dX9_store_74 ?_
      refine g_aload_n (pc := 75) (i := 0) C dX9_store_75 rfl rfl ?_
      refine g_iload_n (pc := 76) (i := 3) C dX9_store_76 rfl rfl ?_
      refine g_iconst (pc := 77) (v := 3) C dX9_store_77 (by decide) ?_
      refine g_iload (pc := 78) C dX9_store_78 rfl ?_
      refine g_iadd (pc := 80) C dX9_store_80 ?_
      refine g_callVi (pc := 81) (As := [.int (l3), .int (3 + l4)]) C (kX9_of X σ b l3 (3 + l4) hb) (blk hb 0 rfl) rfl q_10_2 q_10_3 q_10_4 q_1_5 q_10_5 ⟨rfl, hdX9_of⟩ ⟨Nat.le_of_ble_eq_true rfl, Nat.le_of_ble_eq_true rfl, rfl, rfl⟩ ⟨Nat.zero_le _, Nat.zero_le _⟩ (Nat.le_of_ble_eq_true rfl) rfl rfl dX9_store_81 (fun r9 _ => ?_)
      refine g_iastore (pc := 84) C (blk hb 1 rfl) dX9_store_84 ?_
      refine g_nms (fun σ10 => ?_)
      refine g_iinc (pc := 85) (v := l4 + 1) C dX9_store_85 rfl (rfl) (Nat.le_of_ble_eq_true rfl) rfl ?_
      refine g_goto (pc := 88) (tgt := 55) C dX9_store_88 rfl ?_
      refine g_keep [true, false, true, true, true] ?_
      exact ih σ10 l2 l3 (l4 + 1)
def fX9_store_46 (b : Nat) : Nat → Sg → Int32 → Int32 → Option (Int32 × Sg)
  | 0, _, _, _ => none
  | n + 1, σ, l2, l3 =>
    if 12 ≤ l3 then
      (fX9_store_99 b FU σ l2 0)
    else
      (fX9_store_55 b (fX9_store_46 b n) FU σ l2 l3 0)
theorem bX9_store_46 {X : Xc} {K : Kc} (C : MC X K cX9_store 5 RX9 rmX9_store) (hr : K.meth.sig.returnType = (some .int)) (b : Nat) (hb : moOK b) : ∀ (n : Nat) (σ : Sg) (l2 : Int32) (l3 : Int32), GO X K 5 (fun r => MQi X K r.1 r.2) (fX9_store_46 b n σ l2 l3) σ 0 0 46 [some (.ref (X.ad b)), none, some (.int (l2)), some (.int (l3)), none] [] := by
  intro n
  induction n with
  | zero =>
    intro σ l2 l3
    exact g_none
  | succ n ih =>
    intro σ l2 l3
    unfold fX9_store_46
    refine g_iload_n (pc := 46) (i := 3) C dX9_store_46 rfl rfl ?_
    refine g_bipush (pc := 47) (v := 12) C dX9_store_47 (by decide) ?_
    refine g_icmp_ge (pc := 49) (tgt := 97) C dX9_store_49 rfl ?_ ?_
    · refine g_iconst (pc := 97) (v := 0) C dX9_store_97 (by decide) ?_
      refine g_istore_n (pc := 98) (i := 3) C dX9_store_98 rfl (Nat.le_of_ble_eq_true rfl) rfl ?_
      refine g_keep [true, false, true, true, false] ?_
      exact bX9_store_99 C hr b hb FU σ l2 0
    · refine g_iconst (pc := 52) (v := 0) C dX9_store_52 (by decide) ?_
      refine g_istore (pc := 53) C dX9_store_53 (Nat.le_of_ble_eq_true rfl) rfl ?_
      refine g_keep [true, false, true, true, true] ?_
      exact bX9_store_55 C hr b hb ih FU σ l2 l3 0
def fX9_store_15 (b : Nat) (σ : Sg) (l1 : Int32) (s1 : Int32) : Option (Int32 × Sg) :=
  (fX9_refused σ b s1).bind fun r2 =>
  if r2.1 = true then
    some (0, r2.2)
  else
    (fX9_saves r2.2 b).bind fun σ3 =>
    nm (264 + (219 * l1)) fun v4 =>
    if ck v4 921 then
      nm (su σ3 (b + 1) v4.toNatClampNeg 1) fun σ5 =>
      (fX9_store_46 b FU σ5 v4 0)
    else none
theorem bX9_store_15 {X : Xc} {K : Kc} (C : MC X K cX9_store 5 RX9 rmX9_store) (hr : K.meth.sig.returnType = (some .int)) (b : Nat) (hb : moOK b) (σ : Sg) (l1 : Int32) (s1 : Int32) : GO X K 5 (fun r => MQi X K r.1 r.2) (fX9_store_15 b σ l1 s1) σ 0 0 15 [some (.ref (X.ad b)), some (.int (l1)), none, none, none] [.int (s1), .ref (X.ad b)] := by
  unfold fX9_store_15
  refine g_callVi (pc := 15) (As := [.int (s1)]) C (kX9_refused X σ b s1 hb) (blk hb 0 rfl) rfl q_10_9 q_10_10 q_10_11 q_1_5 q_10_12 ⟨rfl, hdX9_refused⟩ ⟨Nat.le_of_ble_eq_true rfl, Nat.le_of_ble_eq_true rfl, rfl, rfl⟩ ⟨Nat.zero_le _, Nat.zero_le _⟩ (Nat.le_of_ble_eq_true rfl) rfl rfl dX9_store_15 (fun r2 _ => ?_)
  refine g_ifb_eq (pc := 18) (tgt := 23) C dX9_store_18 rfl ?_ ?_
  · refine g_iconst (pc := 21) (v := 0) C dX9_store_21 (by decide) ?_
    exact g_iret (pc := 22) C hr dX9_store_22 rfl
  · refine g_aload_n (pc := 23) (i := 0) C dX9_store_23 rfl rfl ?_
    refine g_callVv (pc := 24) (As := []) C (kX9_saves X r2.2 b hb) (blk hb 0 rfl) rfl q_10_14 q_10_15 q_10_16 q_1_5 q_10_17 ⟨rfl, hdX9_saves⟩ ⟨Nat.le_of_ble_eq_true rfl, Nat.le_of_ble_eq_true rfl, rfl, rfl⟩ ⟨Nat.zero_le _, Nat.zero_le _⟩ (Nat.le_of_ble_eq_true rfl) rfl rfl dX9_store_24 (fun σ3 _ => ?_)
    refine g_sipush (pc := 27) (v := 264) C dX9_store_27 (by decide) ?_
    refine g_sipush (pc := 30) (v := 219) C dX9_store_30 (by decide) ?_
    refine g_iload_n (pc := 33) (i := 1) C dX9_store_33 rfl rfl ?_
    refine g_imul (pc := 34) C dX9_store_34 ?_
    refine g_iadd (pc := 35) C dX9_store_35 ?_
    refine g_nm (fun v4 => ?_)
    refine g_istore_n (pc := 36) (i := 2) C dX9_store_36 rfl (Nat.le_of_ble_eq_true rfl) rfl ?_
    refine g_aload_n (pc := 37) (i := 0) C dX9_store_37 rfl rfl ?_
    refine g_getr (pc := 38) (ci := 9) (N := 27) (T := TX9) (j := 0) (Cn := RX9) (b + 1) C rfl inlX9 (Nat.le_of_ble_eq_true rfl) q_6_2 (blk hb 0 rfl) rfl dX9_store_38 ?_
    refine g_iload_n (pc := 41) (i := 2) C dX9_store_41 rfl rfl ?_
    refine g_iconst (pc := 42) (v := 1) C dX9_store_42 (by decide) ?_
    refine g_iastore (pc := 43) C (blk hb 1 rfl) dX9_store_43 ?_
    refine g_nms (fun σ5 => ?_)
    refine g_iconst (pc := 44) (v := 0) C dX9_store_44 (by decide) ?_
    refine g_istore_n (pc := 45) (i := 3) C dX9_store_45 rfl (Nat.le_of_ble_eq_true rfl) rfl ?_
    refine g_keep [true, false, true, true, false] ?_
    exact bX9_store_46 C hr b hb FU σ5 v4 0
def fX9_store (σ : Sg) (b : Nat) (p1 : Int32) : Option (Int32 × Sg) :=
  (fX9_within σ p1 0 2).bind fun r1 =>
  if r1 = true then
    (fX9_store_15 b σ p1 0)
  else
    (fX9_store_15 b σ p1 1)
theorem kX9_store (X : Xc) (σ : Sg) (b : Nat) (p1 : Int32) (hb : moOK b) : ∀ r, fX9_store σ b p1 = some r → Met X.l yX9_store (wsM yX9_store cX9_store 5 (some .int)) rmX9_store (va_Pc [.ref (X.ad b), .int p1] (PW X σ)) (Qi X r.1 r.2) 0 0 X.A := by
  refine mt_of (own := RX9) (lo := [some (.ref (X.ad b)), some (.int (p1)), none, none, none]) (by decide) rfl (Nat.le_of_ble_eq_true rfl) rfl (fun K C hr => ?_)
  unfold fX9_store
  refine g_aload_n (pc := 0) (i := 0) C dX9_store_0 rfl rfl ?_
  refine g_iload_n (pc := 1) (i := 1) C dX9_store_1 rfl rfl ?_
  refine g_iconst (pc := 2) (v := 0) C dX9_store_2 (by decide) ?_
  refine g_iconst (pc := 3) (v := 2) C dX9_store_3 (by decide) ?_
  refine g_callSi (pc := 4) (As := [.int (p1), .int (0), .int (2)]) C (kX9_within X σ p1 0 2) q_10_6 q_10_7 q_1_5 q_10_8 hdX9_within ⟨Nat.le_of_ble_eq_true rfl, Nat.le_of_ble_eq_true rfl, rfl, rfl⟩ ⟨Nat.zero_le _, Nat.zero_le _⟩ (Nat.le_of_ble_eq_true rfl) rfl rfl dX9_store_4 (fun r1 _ => ?_)
  refine g_ifb_eq (pc := 7) (tgt := 14) C dX9_store_7 rfl ?_ ?_
  · refine g_iconst (pc := 10) (v := 0) C dX9_store_10 (by decide) ?_
    refine g_goto (pc := 11) (tgt := 15) C dX9_store_11 rfl ?_
    refine g_keep [true, true, false, false, false] ?_
    exact bX9_store_15 C hr b hb σ p1 0
  · refine g_iconst (pc := 14) (v := 1) C dX9_store_14 (by decide) ?_
    refine g_keep [true, true, false, false, false] ?_
    exact bX9_store_15 C hr b hb σ p1 1
theorem dX9_focuses_0 : decode cX9_focuses 0 = .ok (.aload_n 0, 1) := by decide +kernel
theorem dX9_focuses_1 : decode cX9_focuses 1 = .ok (.invokevirtual 150, 3) := by decide +kernel
theorem dX9_focuses_4 : decode cX9_focuses 4 = .ok (.iconst 0, 1) := by decide +kernel
theorem dX9_focuses_5 : decode cX9_focuses 5 = .ok (.istore_n 1, 1) := by decide +kernel
theorem dX9_focuses_6 : decode cX9_focuses 6 = .ok (.iload_n 1, 1) := by decide +kernel
theorem dX9_focuses_7 : decode cX9_focuses 7 = .ok (.bipush 12, 2) := by decide +kernel
theorem dX9_focuses_9 : decode cX9_focuses 9 = .ok (.if_icmp .ge 37, 3) := by decide +kernel
theorem dX9_focuses_12 : decode cX9_focuses 12 = .ok (.aload_n 0, 1) := by decide +kernel
theorem dX9_focuses_13 : decode cX9_focuses 13 = .ok (.iload_n 1, 1) := by decide +kernel
theorem dX9_focuses_14 : decode cX9_focuses 14 = .ok (.invokevirtual 69, 3) := by decide +kernel
theorem dX9_focuses_17 : decode cX9_focuses 17 = .ok (.ifCond .eq 23, 3) := by decide +kernel
theorem dX9_focuses_20 : decode cX9_focuses 20 = .ok (.aload_n 0, 1) := by decide +kernel
theorem dX9_focuses_21 : decode cX9_focuses 21 = .ok (.sipush 251, 3) := by decide +kernel
theorem dX9_focuses_24 : decode cX9_focuses 24 = .ok (.iload_n 1, 1) := by decide +kernel
theorem dX9_focuses_25 : decode cX9_focuses 25 = .ok (.invokevirtual 97, 3) := by decide +kernel
theorem dX9_focuses_28 : decode cX9_focuses 28 = .ok (.iconst (-1), 1) := by decide +kernel
theorem dX9_focuses_29 : decode cX9_focuses 29 = .ok (.if_icmp .ne 11, 3) := by decide +kernel
theorem dX9_focuses_32 : decode cX9_focuses 32 = .ok (.aload_n 0, 1) := by decide +kernel
theorem dX9_focuses_33 : decode cX9_focuses 33 = .ok (.sipush 251, 3) := by decide +kernel
theorem dX9_focuses_36 : decode cX9_focuses 36 = .ok (.iload_n 1, 1) := by decide +kernel
theorem dX9_focuses_37 : decode cX9_focuses 37 = .ok (.invokevirtual 104, 3) := by decide +kernel
theorem dX9_focuses_40 : decode cX9_focuses 40 = .ok (.iinc 1 1, 3) := by decide +kernel
theorem dX9_focuses_43 : decode cX9_focuses 43 = .ok (.goto (-37), 3) := by decide +kernel
theorem dX9_focuses_46 : decode cX9_focuses 46 = .ok (.return_, 1) := by decide +kernel
abbrev rmX9_focuses : Room := { frames := 3, cells := 0, slots := 0, locals := 69 }
theorem hdX9_focuses : yX9_focuses.cls ≠ "java/lang/invoke/MethodHandle" ∧ yX9_focuses.cls ≠ "java/lang/invoke/VarHandle" ∧ (parseMethodDescriptor yX9_focuses.desc).map (fun d => d.parameters.length) = some 0 := by decide +kernel
def fX9_focuses_40 (b : Nat) (k6 : Sg → Int32 → Option Sg) (σ : Sg) (l1 : Int32) : Option Sg :=
  (k6 σ (l1 + 1))
theorem bX9_focuses_40 {X : Xc} {K : Kc} (C : MC X K cX9_focuses 2 RX9 rmX9_focuses) (hr : K.meth.sig.returnType = none) (b : Nat) (hb : moOK b){k6 : Sg → Int32 → Option Sg} (hk6 : ∀ (σ : Sg) (l1 : Int32), GO X K 2 (fun r => MQv X K r) (k6 σ l1) σ 0 0 6 [some (.ref (X.ad b)), some (.int (l1))] []) (σ : Sg) (l1 : Int32) : GO X K 2 (fun r => MQv X K r) (fX9_focuses_40 b k6 σ l1) σ 0 0 40 [some (.ref (X.ad b)), some (.int (l1))] [] := by
  unfold fX9_focuses_40
  refine g_iinc (pc := 40) (v := l1 + 1) C dX9_focuses_40 rfl (rfl) (Nat.le_of_ble_eq_true rfl) rfl ?_
  refine g_goto (pc := 43) (tgt := 6) C dX9_focuses_43 rfl ?_
  refine g_keep [true, true] ?_
  exact hk6 σ (l1 + 1)
def fX9_focuses_6 (b : Nat) : Nat → Sg → Int32 → Option Sg
  | 0, _, _ => none
  | n + 1, σ, l1 =>
    if 12 ≤ l1 then
      some σ
    else
      (fX9_isPlaced σ b l1).bind fun r2 =>
      if r2 = true then
        (fX9_placeIn σ b 251 l1).bind fun r3 =>
        if r3 = (-1) then
          (fX9_comesLast σ b 251 l1).bind fun σ4 =>
          (fX9_focuses_40 b (fX9_focuses_6 b n) σ4 l1)
        else
          (fX9_focuses_40 b (fX9_focuses_6 b n) σ l1)
      else
        (fX9_focuses_40 b (fX9_focuses_6 b n) σ l1)
theorem bX9_focuses_6 {X : Xc} {K : Kc} (C : MC X K cX9_focuses 2 RX9 rmX9_focuses) (hr : K.meth.sig.returnType = none) (b : Nat) (hb : moOK b) : ∀ (n : Nat) (σ : Sg) (l1 : Int32), GO X K 2 (fun r => MQv X K r) (fX9_focuses_6 b n σ l1) σ 0 0 6 [some (.ref (X.ad b)), some (.int (l1))] [] := by
  intro n
  induction n with
  | zero =>
    intro σ l1
    exact g_none
  | succ n ih =>
    intro σ l1
    unfold fX9_focuses_6
    refine g_iload_n (pc := 6) (i := 1) C dX9_focuses_6 rfl rfl ?_
    refine g_bipush (pc := 7) (v := 12) C dX9_focuses_7 (by decide) ?_
    refine g_icmp_ge (pc := 9) (tgt := 46) C dX9_focuses_9 rfl ?_ ?_
    · exact g_vret (pc := 46) C hr dX9_focuses_46 rfl
    · refine g_aload_n (pc := 12) (i := 0) C dX9_focuses_12 rfl rfl ?_
      refine g_iload_n (pc := 13) (i := 1) C dX9_focuses_13 rfl rfl ?_
      refine g_callVi (pc := 14) (As := [.int (l1)]) C (kX9_isPlaced X σ b l1 hb) (blk hb 0 rfl) rfl q_20_0 q_20_1 q_20_2 q_1_5 q_20_3 ⟨rfl, hdX9_isPlaced⟩ ⟨Nat.le_of_ble_eq_true rfl, Nat.le_of_ble_eq_true rfl, rfl, rfl⟩ ⟨Nat.zero_le _, Nat.zero_le _⟩ (Nat.le_of_ble_eq_true rfl) rfl rfl dX9_focuses_14 (fun r2 _ => ?_)
      refine g_ifb_eq (pc := 17) (tgt := 40) C dX9_focuses_17 rfl ?_ ?_
      · refine g_aload_n (pc := 20) (i := 0) C dX9_focuses_20 rfl rfl ?_
        refine g_sipush (pc := 21) (v := 251) C dX9_focuses_21 (by decide) ?_
        refine g_iload_n (pc := 24) (i := 1) C dX9_focuses_24 rfl rfl ?_
        refine g_callVi (pc := 25) (As := [.int (251), .int (l1)]) C (kX9_placeIn X σ b 251 l1 hb) (blk hb 0 rfl) rfl q_23_0 q_23_1 q_23_2 q_1_5 q_23_3 ⟨rfl, hdX9_placeIn⟩ ⟨Nat.le_of_ble_eq_true rfl, Nat.le_of_ble_eq_true rfl, rfl, rfl⟩ ⟨Nat.zero_le _, Nat.zero_le _⟩ (Nat.le_of_ble_eq_true rfl) rfl rfl dX9_focuses_25 (fun r3 _ => ?_)
        refine g_iconst (pc := 28) (v := (-1)) C dX9_focuses_28 (by decide) ?_
        refine g_icmp_ne (pc := 29) (tgt := 40) C dX9_focuses_29 rfl ?_ ?_
        · refine g_aload_n (pc := 32) (i := 0) C dX9_focuses_32 rfl rfl ?_
          refine g_sipush (pc := 33) (v := 251) C dX9_focuses_33 (by decide) ?_
          refine g_iload_n (pc := 36) (i := 1) C dX9_focuses_36 rfl rfl ?_
          refine g_callVv (pc := 37) (As := [.int (251), .int (l1)]) C (kX9_comesLast X σ b 251 l1 hb) (blk hb 0 rfl) rfl q_31_22 q_31_23 q_32_0 q_1_5 q_32_1 ⟨rfl, hdX9_comesLast⟩ ⟨Nat.le_of_ble_eq_true rfl, Nat.le_of_ble_eq_true rfl, rfl, rfl⟩ ⟨Nat.zero_le _, Nat.zero_le _⟩ (Nat.le_of_ble_eq_true rfl) rfl rfl dX9_focuses_37 (fun σ4 _ => ?_)
          refine g_keep [true, true] ?_
          exact bX9_focuses_40 C hr b hb ih σ4 l1
        · refine g_keep [true, true] ?_
          exact bX9_focuses_40 C hr b hb ih σ l1
      · refine g_keep [true, true] ?_
        exact bX9_focuses_40 C hr b hb ih σ l1
def fX9_focuses (σ : Sg) (b : Nat) : Option Sg :=
  (fX9_leavesFocus σ b).bind fun σ1 =>
  (fX9_focuses_6 b FU σ1 0)
theorem kX9_focuses (X : Xc) (σ : Sg) (b : Nat) (hb : moOK b) : ∀ r, fX9_focuses σ b = some r → Met X.l yX9_focuses (wsM yX9_focuses cX9_focuses 2 none) rmX9_focuses (va_Pc [.ref (X.ad b)] (PW X σ)) (Qv X r) 0 0 X.A := by
  refine mt_of (own := RX9) (lo := [some (.ref (X.ad b)), none]) (by decide) rfl (Nat.le_of_ble_eq_true rfl) rfl (fun K C hr => ?_)
  unfold fX9_focuses
  refine g_aload_n (pc := 0) (i := 0) C dX9_focuses_0 rfl rfl ?_
  refine g_callVv (pc := 1) (As := []) C (kX9_leavesFocus X σ b hb) (blk hb 0 rfl) rfl q_23_4 q_23_5 q_23_6 q_1_5 q_23_7 ⟨rfl, hdX9_leavesFocus⟩ ⟨Nat.le_of_ble_eq_true rfl, Nat.le_of_ble_eq_true rfl, rfl, rfl⟩ ⟨Nat.zero_le _, Nat.zero_le _⟩ (Nat.le_of_ble_eq_true rfl) rfl rfl dX9_focuses_1 (fun σ1 _ => ?_)
  refine g_iconst (pc := 4) (v := 0) C dX9_focuses_4 (by decide) ?_
  refine g_istore_n (pc := 5) (i := 1) C dX9_focuses_5 rfl (Nat.le_of_ble_eq_true rfl) rfl ?_
  refine g_keep [true, true] ?_
  exact bX9_focuses_6 C hr b hb FU σ1 0

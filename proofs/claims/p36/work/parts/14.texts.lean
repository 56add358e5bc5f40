/-! by program out of the class files: each method as a function over the store, and its contract by a walk -/
abbrev rmX6_passChildren (d : Nat) : Room := { frames := 4 * d + 26, cells := 0, slots := 0, locals := 90 * d + 560 }
abbrev rmX6_passTree (d : Nat) : Room := { frames := 4 * d + 24, cells := 0, slots := 0, locals := 90 * d + 500 }
abbrev rmX7_putTree (d : Nat) : Room := { frames := 4 * d + 24, cells := 0, slots := 0, locals := 90 * d + 500 }
theorem hdX6_passChildren : yX6_passChildren.cls ≠ "java/lang/invoke/MethodHandle" ∧ yX6_passChildren.cls ≠ "java/lang/invoke/VarHandle" ∧ (parseMethodDescriptor yX6_passChildren.desc).map (fun d => d.parameters.length) = some 2 := by decide +kernel
theorem hdX6_passTree : yX6_passTree.cls ≠ "java/lang/invoke/MethodHandle" ∧ yX6_passTree.cls ≠ "java/lang/invoke/VarHandle" ∧ (parseMethodDescriptor yX6_passTree.desc).map (fun d => d.parameters.length) = some 3 := by decide +kernel
theorem hdX7_putTree : yX7_putTree.cls ≠ "java/lang/invoke/MethodHandle" ∧ yX7_putTree.cls ≠ "java/lang/invoke/VarHandle" ∧ (parseMethodDescriptor yX7_putTree.desc).map (fun d => d.parameters.length) = some 3 := by decide +kernel
theorem dX6_passSign_0 : decode cX6_passSign 0 = .ok (.aload_n 0, 1) := by decide +kernel
theorem dX6_passSign_1 : decode cX6_passSign 1 = .ok (.getfield 12, 3) := by decide +kernel
theorem dX6_passSign_4 : decode cX6_passSign 4 = .ok (.aload_n 0, 1) := by decide +kernel
theorem dX6_passSign_5 : decode cX6_passSign 5 = .ok (.getfield 51, 3) := by decide +kernel
theorem dX6_passSign_8 : decode cX6_passSign 8 = .ok (.invokevirtual 89, 3) := by decide +kernel
theorem dX6_passSign_11 : decode cX6_passSign 11 = .ok (.iload_n 1, 1) := by decide +kernel
theorem dX6_passSign_12 : decode cX6_passSign 12 = .ok (.if_icmp .eq 5, 3) := by decide +kernel
theorem dX6_passSign_15 : decode cX6_passSign 15 = .ok (.iconst 0, 1) := by decide +kernel
theorem dX6_passSign_16 : decode cX6_passSign 16 = .ok (.ireturn, 1) := by decide +kernel
theorem dX6_passSign_17 : decode cX6_passSign 17 = .ok (.aload_n 0, 1) := by decide +kernel
theorem dX6_passSign_18 : decode cX6_passSign 18 = .ok (.dup, 1) := by decide +kernel
theorem dX6_passSign_19 : decode cX6_passSign 19 = .ok (.getfield 51, 3) := by decide +kernel
theorem dX6_passSign_22 : decode cX6_passSign 22 = .ok (.iconst 1, 1) := by decide +kernel
theorem dX6_passSign_23 : decode cX6_passSign 23 = .ok (.iadd, 1) := by decide +kernel
theorem dX6_passSign_24 : decode cX6_passSign 24 = .ok (.putfield 51, 3) := by decide +kernel
theorem dX6_passSign_27 : decode cX6_passSign 27 = .ok (.iconst 1, 1) := by decide +kernel
theorem dX6_passSign_28 : decode cX6_passSign 28 = .ok (.ireturn, 1) := by decide +kernel
abbrev rmX6_passSign : Room := { frames := 2, cells := 0, slots := 0, locals := 42 }
theorem hdX6_passSign : yX6_passSign.cls ≠ "java/lang/invoke/MethodHandle" ∧ yX6_passSign.cls ≠ "java/lang/invoke/VarHandle" ∧ (parseMethodDescriptor yX6_passSign.desc).map (fun d => d.parameters.length) = some 1 := by decide +kernel
def fX6_passSign (σ : Sg) (b : Nat) (p1 : Int32) : Option (Bool × Sg) :=
  (fX5_code σ (b + 1) (σ.1 b 2)).bind fun r1 =>
  if r1 = p1 then
    nm (su σ b 2 ((σ.1 b 2) + 1)) fun σ2 =>
    some (true, σ2)
  else
    some (false, σ)
theorem kX6_passSign (X : Xc) (σ : Sg) (b : Nat) (p1 : Int32) (hb : rdOK b) : ∀ r, fX6_passSign σ b p1 = some r → Met X.l yX6_passSign (wsM yX6_passSign cX6_passSign 2 (some .boolean)) rmX6_passSign (va_Pc [.ref (X.ad b), .int p1] (PW X σ)) (Qi X (b2i r.1) r.2) 0 0 X.A := by
  refine mt_of (own := RX6) (lo := [some (.ref (X.ad b)), some (.int (p1))]) (by decide) rfl (Nat.le_of_ble_eq_true rfl) rfl (fun K C hr => ?_)
  unfold fX6_passSign
  refine g_aload_n (pc := 0) (i := 0) C dX6_passSign_0 rfl rfl ?_
  refine g_getr (pc := 1) (ci := 6) (N := 4) (T := TX6) (j := 0) (Cn := RX6) (b + 1) C rfl inlX6 (Nat.le_of_ble_eq_true rfl) q_5_13 (blk hb 0 rfl) rfl dX6_passSign_1 ?_
  refine g_aload_n (pc := 4) (i := 0) C dX6_passSign_4 rfl rfl ?_
  refine g_geti (pc := 5) (ci := 6) (N := 4) (T := TX6) (j := 2) (Cn := RX6) C rfl inlX6 (Nat.le_of_ble_eq_true rfl) q_50_10 (blk hb 0 rfl) rfl dX6_passSign_5 ?_
  refine g_callVi (pc := 8) (As := [.int (σ.1 b 2)]) C (kX5_code X σ (b + 1) (σ.1 b 2) (rd_tx hb)) (blk (rd_tx hb) 0 rfl) rfl q_51_7 q_51_8 q_51_9 q_2_0 q_51_10 ⟨rfl, hdX5_code⟩ ⟨Nat.le_of_ble_eq_true rfl, Nat.le_of_ble_eq_true rfl, rfl, rfl⟩ ⟨Nat.zero_le _, Nat.zero_le _⟩ (Nat.le_of_ble_eq_true rfl) rfl rfl dX6_passSign_8 (fun r1 _ => ?_)
  refine g_iload_n (pc := 11) (i := 1) C dX6_passSign_11 rfl rfl ?_
  refine g_icmp_eq (pc := 12) (tgt := 17) C dX6_passSign_12 rfl ?_ ?_
  · refine g_aload_n (pc := 17) (i := 0) C dX6_passSign_17 rfl rfl ?_
    refine g_dup (pc := 18) C dX6_passSign_18 rfl ?_
    refine g_geti (pc := 19) (ci := 6) (N := 4) (T := TX6) (j := 2) (Cn := RX6) C rfl inlX6 (Nat.le_of_ble_eq_true rfl) q_50_10 (blk hb 0 rfl) rfl dX6_passSign_19 ?_
    refine g_iconst (pc := 22) (v := 1) C dX6_passSign_22 (by decide) ?_
    refine g_iadd (pc := 23) C dX6_passSign_23 ?_
    refine g_puti (pc := 24) (ci := 6) (N := 4) (T := TX6) (j := 2) (Cn := RX6) C rfl inlX6 tyX6_ok nmX6 (Nat.le_of_ble_eq_true rfl) q_50_10 (blk hb 0 rfl) rfl rfl rfl dX6_passSign_24 ?_
    refine g_nms (fun σ2 => ?_)
    refine g_iconst (pc := 27) (v := 1) C dX6_passSign_27 (by decide) ?_
    exact g_zret (pc := 28) C hr dX6_passSign_28 rfl
  · refine g_iconst (pc := 15) (v := 0) C dX6_passSign_15 (by decide) ?_
    exact g_zret (pc := 16) C hr dX6_passSign_16 rfl
theorem dX6_passTabs_0 : decode cX6_passTabs 0 = .ok (.iconst (-1), 1) := by decide +kernel
theorem dX6_passTabs_1 : decode cX6_passTabs 1 = .ok (.istore_n 2, 1) := by decide +kernel
theorem dX6_passTabs_2 : decode cX6_passTabs 2 = .ok (.iconst 0, 1) := by decide +kernel
theorem dX6_passTabs_3 : decode cX6_passTabs 3 = .ok (.istore_n 3, 1) := by decide +kernel
theorem dX6_passTabs_4 : decode cX6_passTabs 4 = .ok (.iconst 0, 1) := by decide +kernel
theorem dX6_passTabs_5 : decode cX6_passTabs 5 = .ok (.istore 4, 2) := by decide +kernel
theorem dX6_passTabs_7 : decode cX6_passTabs 7 = .ok (.iload 4, 2) := by decide +kernel
theorem dX6_passTabs_9 : decode cX6_passTabs 9 = .ok (.bipush 12, 2) := by decide +kernel
theorem dX6_passTabs_11 : decode cX6_passTabs 11 = .ok (.if_icmp .ge 128, 3) := by decide +kernel
theorem dX6_passTabs_14 : decode cX6_passTabs 14 = .ok (.aload_n 0, 1) := by decide +kernel
theorem dX6_passTabs_15 : decode cX6_passTabs 15 = .ok (.getfield 12, 3) := by decide +kernel
theorem dX6_passTabs_18 : decode cX6_passTabs 18 = .ok (.aload_n 0, 1) := by decide +kernel
theorem dX6_passTabs_19 : decode cX6_passTabs 19 = .ok (.getfield 51, 3) := by decide +kernel
theorem dX6_passTabs_22 : decode cX6_passTabs 22 = .ok (.invokevirtual 89, 3) := by decide +kernel
theorem dX6_passTabs_25 : decode cX6_passTabs 25 = .ok (.bipush 97, 2) := by decide +kernel
theorem dX6_passTabs_27 : decode cX6_passTabs 27 = .ok (.isub, 1) := by decide +kernel
theorem dX6_passTabs_28 : decode cX6_passTabs 28 = .ok (.istore 5, 2) := by decide +kernel
theorem dX6_passTabs_30 : decode cX6_passTabs 30 = .ok (.iload 5, 2) := by decide +kernel
theorem dX6_passTabs_32 : decode cX6_passTabs 32 = .ok (.ifCond .lt 107, 3) := by decide +kernel
theorem dX6_passTabs_35 : decode cX6_passTabs 35 = .ok (.iload 5, 2) := by decide +kernel
theorem dX6_passTabs_37 : decode cX6_passTabs 37 = .ok (.bipush 12, 2) := by decide +kernel
theorem dX6_passTabs_39 : decode cX6_passTabs 39 = .ok (.if_icmp .ge 100, 3) := by decide +kernel
theorem dX6_passTabs_42 : decode cX6_passTabs 42 = .ok (.aload_n 0, 1) := by decide +kernel
theorem dX6_passTabs_43 : decode cX6_passTabs 43 = .ok (.getfield 39, 3) := by decide +kernel
theorem dX6_passTabs_46 : decode cX6_passTabs 46 = .ok (.iload 5, 2) := by decide +kernel
theorem dX6_passTabs_48 : decode cX6_passTabs 48 = .ok (.ishr, 1) := by decide +kernel
theorem dX6_passTabs_49 : decode cX6_passTabs 49 = .ok (.iconst 1, 1) := by decide +kernel
theorem dX6_passTabs_50 : decode cX6_passTabs 50 = .ok (.iand, 1) := by decide +kernel
theorem dX6_passTabs_51 : decode cX6_passTabs 51 = .ok (.ifCond .ne 6, 3) := by decide +kernel
theorem dX6_passTabs_54 : decode cX6_passTabs 54 = .ok (.goto 85, 3) := by decide +kernel
theorem dX6_passTabs_57 : decode cX6_passTabs 57 = .ok (.aload_n 0, 1) := by decide +kernel
theorem dX6_passTabs_58 : decode cX6_passTabs 58 = .ok (.dup, 1) := by decide +kernel
theorem dX6_passTabs_59 : decode cX6_passTabs 59 = .ok (.getfield 39, 3) := by decide +kernel
theorem dX6_passTabs_62 : decode cX6_passTabs 62 = .ok (.iconst 1, 1) := by decide +kernel
theorem dX6_passTabs_63 : decode cX6_passTabs 63 = .ok (.iload 5, 2) := by decide +kernel
theorem dX6_passTabs_65 : decode cX6_passTabs 65 = .ok (.ishl, 1) := by decide +kernel
theorem dX6_passTabs_66 : decode cX6_passTabs 66 = .ok (.iconst (-1), 1) := by decide +kernel
theorem dX6_passTabs_67 : decode cX6_passTabs 67 = .ok (.ixor, 1) := by decide +kernel
theorem dX6_passTabs_68 : decode cX6_passTabs 68 = .ok (.iand, 1) := by decide +kernel
theorem dX6_passTabs_69 : decode cX6_passTabs 69 = .ok (.putfield 39, 3) := by decide +kernel
theorem dX6_passTabs_72 : decode cX6_passTabs 72 = .ok (.aload_n 0, 1) := by decide +kernel
theorem dX6_passTabs_73 : decode cX6_passTabs 73 = .ok (.dup, 1) := by decide +kernel
theorem dX6_passTabs_74 : decode cX6_passTabs 74 = .ok (.getfield 51, 3) := by decide +kernel
theorem dX6_passTabs_77 : decode cX6_passTabs 77 = .ok (.iconst 1, 1) := by decide +kernel
theorem dX6_passTabs_78 : decode cX6_passTabs 78 = .ok (.iadd, 1) := by decide +kernel
theorem dX6_passTabs_79 : decode cX6_passTabs 79 = .ok (.putfield 51, 3) := by decide +kernel
theorem dX6_passTabs_82 : decode cX6_passTabs 82 = .ok (.iinc 3 1, 3) := by decide +kernel
theorem dX6_passTabs_85 : decode cX6_passTabs 85 = .ok (.aload_n 0, 1) := by decide +kernel
theorem dX6_passTabs_86 : decode cX6_passTabs 86 = .ok (.getfield 21, 3) := by decide +kernel
theorem dX6_passTabs_89 : decode cX6_passTabs 89 = .ok (.iload 5, 2) := by decide +kernel
theorem dX6_passTabs_91 : decode cX6_passTabs 91 = .ok (.iload_n 1, 1) := by decide +kernel
theorem dX6_passTabs_92 : decode cX6_passTabs 92 = .ok (.invokevirtual 93, 3) := by decide +kernel
theorem dX6_passTabs_95 : decode cX6_passTabs 95 = .ok (.aload_n 0, 1) := by decide +kernel
theorem dX6_passTabs_96 : decode cX6_passTabs 96 = .ok (.bipush 45, 2) := by decide +kernel
theorem dX6_passTabs_98 : decode cX6_passTabs 98 = .ok (.invokevirtual 62, 3) := by decide +kernel
theorem dX6_passTabs_101 : decode cX6_passTabs 101 = .ok (.ifCond .eq 15, 3) := by decide +kernel
theorem dX6_passTabs_104 : decode cX6_passTabs 104 = .ok (.aload_n 0, 1) := by decide +kernel
theorem dX6_passTabs_105 : decode cX6_passTabs 105 = .ok (.getfield 21, 3) := by decide +kernel
theorem dX6_passTabs_108 : decode cX6_passTabs 108 = .ok (.iload 5, 2) := by decide +kernel
theorem dX6_passTabs_110 : decode cX6_passTabs 110 = .ok (.invokevirtual 96, 3) := by decide +kernel
theorem dX6_passTabs_113 : decode cX6_passTabs 113 = .ok (.goto 20, 3) := by decide +kernel
theorem dX6_passTabs_116 : decode cX6_passTabs 116 = .ok (.iload_n 2, 1) := by decide +kernel
theorem dX6_passTabs_117 : decode cX6_passTabs 117 = .ok (.iconst (-1), 1) := by decide +kernel
theorem dX6_passTabs_118 : decode cX6_passTabs 118 = .ok (.if_icmp .ne 15, 3) := by decide +kernel
theorem dX6_passTabs_121 : decode cX6_passTabs 121 = .ok (.aload_n 0, 1) := by decide +kernel
theorem dX6_passTabs_122 : decode cX6_passTabs 122 = .ok (.bipush 42, 2) := by decide +kernel
theorem dX6_passTabs_124 : decode cX6_passTabs 124 = .ok (.invokevirtual 62, 3) := by decide +kernel
theorem dX6_passTabs_127 : decode cX6_passTabs 127 = .ok (.ifCond .eq 6, 3) := by decide +kernel
theorem dX6_passTabs_130 : decode cX6_passTabs 130 = .ok (.iload 5, 2) := by decide +kernel
theorem dX6_passTabs_132 : decode cX6_passTabs 132 = .ok (.istore_n 2, 1) := by decide +kernel
theorem dX6_passTabs_133 : decode cX6_passTabs 133 = .ok (.iinc 4 1, 3) := by decide +kernel
theorem dX6_passTabs_136 : decode cX6_passTabs 136 = .ok (.goto (-129), 3) := by decide +kernel
theorem dX6_passTabs_139 : decode cX6_passTabs 139 = .ok (.aload_n 0, 1) := by decide +kernel
theorem dX6_passTabs_140 : decode cX6_passTabs 140 = .ok (.getfield 21, 3) := by decide +kernel
theorem dX6_passTabs_143 : decode cX6_passTabs 143 = .ok (.iload_n 1, 1) := by decide +kernel
theorem dX6_passTabs_144 : decode cX6_passTabs 144 = .ok (.iload_n 2, 1) := by decide +kernel
theorem dX6_passTabs_145 : decode cX6_passTabs 145 = .ok (.iconst (-1), 1) := by decide +kernel
theorem dX6_passTabs_146 : decode cX6_passTabs 146 = .ok (.if_icmp .ne 15, 3) := by decide +kernel
theorem dX6_passTabs_149 : decode cX6_passTabs 149 = .ok (.aload_n 0, 1) := by decide +kernel
theorem dX6_passTabs_150 : decode cX6_passTabs 150 = .ok (.getfield 21, 3) := by decide +kernel
theorem dX6_passTabs_153 : decode cX6_passTabs 153 = .ok (.iload_n 1, 1) := by decide +kernel
theorem dX6_passTabs_154 : decode cX6_passTabs 154 = .ok (.iconst 0, 1) := by decide +kernel
theorem dX6_passTabs_155 : decode cX6_passTabs 155 = .ok (.invokevirtual 99, 3) := by decide +kernel
theorem dX6_passTabs_158 : decode cX6_passTabs 158 = .ok (.goto 4, 3) := by decide +kernel
theorem dX6_passTabs_161 : decode cX6_passTabs 161 = .ok (.iload_n 2, 1) := by decide +kernel
theorem dX6_passTabs_162 : decode cX6_passTabs 162 = .ok (.invokevirtual 103, 3) := by decide +kernel
theorem dX6_passTabs_165 : decode cX6_passTabs 165 = .ok (.iload_n 3, 1) := by decide +kernel
theorem dX6_passTabs_166 : decode cX6_passTabs 166 = .ok (.ifCond .le 7, 3) := by decide +kernel
theorem dX6_passTabs_169 : decode cX6_passTabs 169 = .ok (.iconst 1, 1) := by decide +kernel
theorem dX6_passTabs_170 : decode cX6_passTabs 170 = .ok (.goto 4, 3) := by decide +kernel
theorem dX6_passTabs_173 : decode cX6_passTabs 173 = .ok (.iconst 0, 1) := by decide +kernel
theorem dX6_passTabs_174 : decode cX6_passTabs 174 = .ok (.ireturn, 1) := by decide +kernel
abbrev rmX6_passTabs : Room := { frames := 4, cells := 0, slots := 0, locals := 90 }
theorem hdX6_passTabs : yX6_passTabs.cls ≠ "java/lang/invoke/MethodHandle" ∧ yX6_passTabs.cls ≠ "java/lang/invoke/VarHandle" ∧ (parseMethodDescriptor yX6_passTabs.desc).map (fun d => d.parameters.length) = some 1 := by decide +kernel
def fX6_passTabs_162 (b : Nat) (σ : Sg) (l3 : Int32) (s1 : Int32) (s2 : Int32) : Option (Bool × Sg) :=
  (fX1_setActive σ (b + 3) s1 s2).bind fun σ10 =>
  if l3 ≤ 0 then
    some (false, σ10)
  else
    some (true, σ10)
theorem bX6_passTabs_162 {X : Xc} {K : Kc} (C : MC X K cX6_passTabs 6 RX6 rmX6_passTabs) (hr : K.meth.sig.returnType = (some .boolean)) (b : Nat) (hb : rdOK b) (σ : Sg) (l3 : Int32) (s1 : Int32) (s2 : Int32) : GO X K 6 (fun r => MQi X K (b2i r.1) r.2) (fX6_passTabs_162 b σ l3 s1 s2) σ 0 0 162 [none, none, none, some (.int (l3)), none, none] [.int (s2), .int (s1), .ref (X.ad (b + 3))] := by
  unfold fX6_passTabs_162
  refine g_callVv (pc := 162) (As := [.int (s1), .int (s2)]) C (kX1_setActive X σ (b + 3) s1 s2 (rd_pl hb)) (blk (rd_pl hb) 0 rfl) rfl q_51_22 q_39_3 q_39_4 q_2_23 q_39_5 ⟨rfl, hdX1_setActive⟩ ⟨Nat.le_of_ble_eq_true rfl, Nat.le_of_ble_eq_true rfl, rfl, rfl⟩ ⟨Nat.zero_le _, Nat.zero_le _⟩ (Nat.le_of_ble_eq_true rfl) rfl rfl dX6_passTabs_162 (fun σ10 _ => ?_)
  refine g_iload_n (pc := 165) (i := 3) C dX6_passTabs_165 rfl rfl ?_
  refine g_if_le (pc := 166) (tgt := 173) C dX6_passTabs_166 rfl ?_ ?_
  · refine g_iconst (pc := 173) (v := 0) C dX6_passTabs_173 (by decide) ?_
    exact g_zret (pc := 174) C hr dX6_passTabs_174 rfl
  · refine g_iconst (pc := 169) (v := 1) C dX6_passTabs_169 (by decide) ?_
    refine g_goto (pc := 170) (tgt := 174) C dX6_passTabs_170 rfl ?_
    exact g_zret (pc := 174) C hr dX6_passTabs_174 rfl
def fX6_passTabs_139 (b : Nat) (σ : Sg) (l1 : Int32) (l2 : Int32) (l3 : Int32) : Option (Bool × Sg) :=
  if l2 = (-1) then
    (fX1_shownTabAt σ (b + 3) l1 0).bind fun r9 =>
    (fX6_passTabs_162 b σ l3 l1 r9)
  else
    (fX6_passTabs_162 b σ l3 l1 l2)
theorem bX6_passTabs_139 {X : Xc} {K : Kc} (C : MC X K cX6_passTabs 6 RX6 rmX6_passTabs) (hr : K.meth.sig.returnType = (some .boolean)) (b : Nat) (hb : rdOK b) (σ : Sg) (l1 : Int32) (l2 : Int32) (l3 : Int32) : GO X K 6 (fun r => MQi X K (b2i r.1) r.2) (fX6_passTabs_139 b σ l1 l2 l3) σ 0 0 139 [some (.ref (X.ad b)), some (.int (l1)), some (.int (l2)), some (.int (l3)), none, none] [] := by
  unfold fX6_passTabs_139
  refine g_aload_n (pc := 139) (i := 0) C dX6_passTabs_139 rfl rfl ?_
  refine g_getr (pc := 140) (ci := 6) (N := 4) (T := TX6) (j := 1) (Cn := RX6) (b + 3) C rfl inlX6 (Nat.le_of_ble_eq_true rfl) q_5_15 (blk hb 0 rfl) rfl dX6_passTabs_140 ?_
  refine g_iload_n (pc := 143) (i := 1) C dX6_passTabs_143 rfl rfl ?_
  refine g_iload_n (pc := 144) (i := 2) C dX6_passTabs_144 rfl rfl ?_
  refine g_iconst (pc := 145) (v := (-1)) C dX6_passTabs_145 (by decide) ?_
  refine g_icmp_ne (pc := 146) (tgt := 161) C dX6_passTabs_146 rfl ?_ ?_
  · refine g_aload_n (pc := 149) (i := 0) C dX6_passTabs_149 rfl rfl ?_
    refine g_getr (pc := 150) (ci := 6) (N := 4) (T := TX6) (j := 1) (Cn := RX6) (b + 3) C rfl inlX6 (Nat.le_of_ble_eq_true rfl) q_5_15 (blk hb 0 rfl) rfl dX6_passTabs_150 ?_
    refine g_iload_n (pc := 153) (i := 1) C dX6_passTabs_153 rfl rfl ?_
    refine g_iconst (pc := 154) (v := 0) C dX6_passTabs_154 (by decide) ?_
    refine g_callVi (pc := 155) (As := [.int (l1), .int (0)]) C (kX1_shownTabAt X σ (b + 3) l1 0 (rd_pl hb)) (blk (rd_pl hb) 0 rfl) rfl q_51_21 q_45_18 q_45_19 q_2_23 q_45_20 ⟨rfl, hdX1_shownTabAt⟩ ⟨Nat.le_of_ble_eq_true rfl, Nat.le_of_ble_eq_true rfl, rfl, rfl⟩ ⟨Nat.zero_le _, Nat.zero_le _⟩ (Nat.le_of_ble_eq_true rfl) rfl rfl dX6_passTabs_155 (fun r9 _ => ?_)
    refine g_goto (pc := 158) (tgt := 162) C dX6_passTabs_158 rfl ?_
    refine g_keep [false, false, false, true, false, false] ?_
    exact bX6_passTabs_162 C hr b hb σ l3 l1 r9
  · refine g_iload_n (pc := 161) (i := 2) C dX6_passTabs_161 rfl rfl ?_
    refine g_keep [false, false, false, true, false, false] ?_
    exact bX6_passTabs_162 C hr b hb σ l3 l1 l2
def fX6_passTabs_133 (b : Nat) (k7 : Sg → Int32 → Int32 → Int32 → Int32 → Option (Bool × Sg)) (σ : Sg) (l1 : Int32) (l2 : Int32) (l3 : Int32) (l4 : Int32) : Option (Bool × Sg) :=
  (k7 σ l1 l2 l3 (l4 + 1))
theorem bX6_passTabs_133 {X : Xc} {K : Kc} (C : MC X K cX6_passTabs 6 RX6 rmX6_passTabs) (hr : K.meth.sig.returnType = (some .boolean)) (b : Nat) (hb : rdOK b){k7 : Sg → Int32 → Int32 → Int32 → Int32 → Option (Bool × Sg)} (hk7 : ∀ (σ : Sg) (l1 : Int32) (l2 : Int32) (l3 : Int32) (l4 : Int32), GO X K 6 (fun r => MQi X K (b2i r.1) r.2) (k7 σ l1 l2 l3 l4) σ 0 0 7 [some (.ref (X.ad b)), some (.int (l1)), some (.int (l2)), some (.int (l3)), some (.int (l4)), none] []) (σ : Sg) (l1 : Int32) (l2 : Int32) (l3 : Int32) (l4 : Int32) : GO X K 6 (fun r => MQi X K (b2i r.1) r.2) (fX6_passTabs_133 b k7 σ l1 l2 l3 l4) σ 0 0 133 [some (.ref (X.ad b)), some (.int (l1)), some (.int (l2)), some (.int (l3)), some (.int (l4)), none] [] := by
  unfold fX6_passTabs_133
  refine g_iinc (pc := 133) (v := l4 + 1) C dX6_passTabs_133 rfl (rfl) (Nat.le_of_ble_eq_true rfl) rfl ?_
  refine g_goto (pc := 136) (tgt := 7) C dX6_passTabs_136 rfl ?_
  refine g_keep [true, true, true, true, true, false] ?_
  exact hk7 σ l1 l2 l3 (l4 + 1)
def fX6_passTabs_7 (b : Nat) : Nat → Sg → Int32 → Int32 → Int32 → Int32 → Option (Bool × Sg)
  | 0, _, _, _, _, _ => none
  | n + 1, σ, l1, l2, l3, l4 =>
    if 12 ≤ l4 then
      (fX6_passTabs_139 b σ l1 l2 l3)
    else
      (fX5_code σ (b + 1) (σ.1 b 2)).bind fun r1 =>
      nm (r1 - 97) fun v2 =>
      if v2 < 0 then
        (fX6_passTabs_139 b σ l1 l2 l3)
      else
        if 12 ≤ v2 then
          (fX6_passTabs_139 b σ l1 l2 l3)
        else
          if (((σ.1 b 3) >>> (v2 &&& 31)) &&& 1) = 0 then
            (fX6_passTabs_139 b σ l1 l2 l3)
          else
            nm (su σ b 3 ((σ.1 b 3) &&& ((1 <<< (v2 &&& 31)) ^^^ (-1)))) fun σ3 =>
            nm (su σ3 b 2 ((σ3.1 b 2) + 1)) fun σ4 =>
            (fX1_joinGroup σ4 (b + 3) v2 l1).bind fun σ5 =>
            (fX6_passSign σ5 b 45).bind fun r6 =>
            if r6.1 = true then
              (fX1_hide r6.2 (b + 3) v2).bind fun σ7 =>
              (fX6_passTabs_133 b (fX6_passTabs_7 b n) σ7 l1 l2 (l3 + 1) l4)
            else
              if l2 = (-1) then
                (fX6_passSign r6.2 b 42).bind fun r8 =>
                if r8.1 = true then
                  (fX6_passTabs_133 b (fX6_passTabs_7 b n) r8.2 l1 v2 (l3 + 1) l4)
                else
                  (fX6_passTabs_133 b (fX6_passTabs_7 b n) r8.2 l1 l2 (l3 + 1) l4)
              else
                (fX6_passTabs_133 b (fX6_passTabs_7 b n) r6.2 l1 l2 (l3 + 1) l4)
theorem bX6_passTabs_7 {X : Xc} {K : Kc} (C : MC X K cX6_passTabs 6 RX6 rmX6_passTabs) (hr : K.meth.sig.returnType = (some .boolean)) (b : Nat) (hb : rdOK b) : ∀ (n : Nat) (σ : Sg) (l1 : Int32) (l2 : Int32) (l3 : Int32) (l4 : Int32), GO X K 6 (fun r => MQi X K (b2i r.1) r.2) (fX6_passTabs_7 b n σ l1 l2 l3 l4) σ 0 0 7 [some (.ref (X.ad b)), some (.int (l1)), some (.int (l2)), some (.int (l3)), some (.int (l4)), none] [] := by
  intro n
  induction n with
  | zero =>
    intro σ l1 l2 l3 l4
    exact g_none
  | succ n ih =>
    intro σ l1 l2 l3 l4
    unfold fX6_passTabs_7
    refine g_iload (pc := 7) C dX6_passTabs_7 rfl ?_
    refine g_bipush (pc := 9) (v := 12) C dX6_passTabs_9 (by decide) ?_
    refine g_icmp_ge (pc := 11) (tgt := 139) C dX6_passTabs_11 rfl ?_ ?_
    · refine g_keep [true, true, true, true, false, false] ?_
      exact bX6_passTabs_139 C hr b hb σ l1 l2 l3
    · refine g_aload_n (pc := 14) (i := 0) C dX6_passTabs_14 rfl rfl ?_
      refine g_getr (pc := 15) (ci := 6) (N := 4) (T := TX6) (j := 0) (Cn := RX6) (b + 1) C rfl inlX6 (Nat.le_of_ble_eq_true rfl) q_5_13 (blk hb 0 rfl) rfl dX6_passTabs_15 ?_
      refine g_aload_n (pc := 18) (i := 0) C dX6_passTabs_18 rfl rfl ?_
      refine g_geti (pc := 19) (ci := 6) (N := 4) (T := TX6) (j := 2) (Cn := RX6) C rfl inlX6 (Nat.le_of_ble_eq_true rfl) q_50_10 (blk hb 0 rfl) rfl dX6_passTabs_19 ?_
      refine g_callVi (pc := 22) (As := [.int (σ.1 b 2)]) C (kX5_code X σ (b + 1) (σ.1 b 2) (rd_tx hb)) (blk (rd_tx hb) 0 rfl) rfl q_51_7 q_51_8 q_51_9 q_2_0 q_51_10 ⟨rfl, hdX5_code⟩ ⟨Nat.le_of_ble_eq_true rfl, Nat.le_of_ble_eq_true rfl, rfl, rfl⟩ ⟨Nat.zero_le _, Nat.zero_le _⟩ (Nat.le_of_ble_eq_true rfl) rfl rfl dX6_passTabs_22 (fun r1 _ => ?_)
      refine g_bipush (pc := 25) (v := 97) C dX6_passTabs_25 (by decide) ?_
      refine g_isub (pc := 27) C dX6_passTabs_27 ?_
      refine g_nm (fun v2 => ?_)
      refine g_istore (pc := 28) C dX6_passTabs_28 (Nat.le_of_ble_eq_true rfl) rfl ?_
      refine g_iload (pc := 30) C dX6_passTabs_30 rfl ?_
      refine g_if_lt (pc := 32) (tgt := 139) C dX6_passTabs_32 rfl ?_ ?_
      · refine g_keep [true, true, true, true, false, false] ?_
        exact bX6_passTabs_139 C hr b hb σ l1 l2 l3
      · refine g_iload (pc := 35) C dX6_passTabs_35 rfl ?_
        refine g_bipush (pc := 37) (v := 12) C dX6_passTabs_37 (by decide) ?_
        refine g_icmp_ge (pc := 39) (tgt := 139) C dX6_passTabs_39 rfl ?_ ?_
        · refine g_keep [true, true, true, true, false, false] ?_
          exact bX6_passTabs_139 C hr b hb σ l1 l2 l3
        · refine g_aload_n (pc := 42) (i := 0) C dX6_passTabs_42 rfl rfl ?_
          refine g_geti (pc := 43) (ci := 6) (N := 4) (T := TX6) (j := 3) (Cn := RX6) C rfl inlX6 (Nat.le_of_ble_eq_true rfl) q_50_9 (blk hb 0 rfl) rfl dX6_passTabs_43 ?_
          refine g_iload (pc := 46) C dX6_passTabs_46 rfl ?_
          refine g_ishr (pc := 48) C dX6_passTabs_48 ?_
          refine g_iconst (pc := 49) (v := 1) C dX6_passTabs_49 (by decide) ?_
          refine g_iand (pc := 50) C dX6_passTabs_50 ?_
          refine g_if_ne (pc := 51) (tgt := 57) C dX6_passTabs_51 rfl ?_ ?_
          · refine g_goto (pc := 54) (tgt := 139) C dX6_passTabs_54 rfl ?_
            refine g_keep [true, true, true, true, false, false] ?_
            exact bX6_passTabs_139 C hr b hb σ l1 l2 l3
          · refine g_aload_n (pc := 57) (i := 0) C dX6_passTabs_57 rfl rfl ?_
            refine g_dup (pc := 58) C dX6_passTabs_58 rfl ?_
            refine g_geti (pc := 59) (ci := 6) (N := 4) (T := TX6) (j := 3) (Cn := RX6) C rfl inlX6 (Nat.le_of_ble_eq_true rfl) q_50_9 (blk hb 0 rfl) rfl dX6_passTabs_59 ?_
            refine g_iconst (pc := 62) (v := 1) C dX6_passTabs_62 (by decide) ?_
            refine g_iload (pc := 63) C dX6_passTabs_63 rfl ?_
            refine g_ishl (pc := 65) C dX6_passTabs_65 ?_
            refine g_iconst (pc := 66) (v := (-1)) C dX6_passTabs_66 (by decide) ?_
            refine g_ixor (pc := 67) C dX6_passTabs_67 ?_
            refine g_iand (pc := 68) C dX6_passTabs_68 ?_
            refine g_puti (pc := 69) (ci := 6) (N := 4) (T := TX6) (j := 3) (Cn := RX6) C rfl inlX6 tyX6_ok nmX6 (Nat.le_of_ble_eq_true rfl) q_50_9 (blk hb 0 rfl) rfl rfl rfl dX6_passTabs_69 ?_
            refine g_nms (fun σ3 => ?_)
            refine g_aload_n (pc := 72) (i := 0) C dX6_passTabs_72 rfl rfl ?_
            refine g_dup (pc := 73) C dX6_passTabs_73 rfl ?_
            refine g_geti (pc := 74) (ci := 6) (N := 4) (T := TX6) (j := 2) (Cn := RX6) C rfl inlX6 (Nat.le_of_ble_eq_true rfl) q_50_10 (blk hb 0 rfl) rfl dX6_passTabs_74 ?_
            refine g_iconst (pc := 77) (v := 1) C dX6_passTabs_77 (by decide) ?_
            refine g_iadd (pc := 78) C dX6_passTabs_78 ?_
            refine g_puti (pc := 79) (ci := 6) (N := 4) (T := TX6) (j := 2) (Cn := RX6) C rfl inlX6 tyX6_ok nmX6 (Nat.le_of_ble_eq_true rfl) q_50_10 (blk hb 0 rfl) rfl rfl rfl dX6_passTabs_79 ?_
            refine g_nms (fun σ4 => ?_)
            refine g_iinc (pc := 82) (v := l3 + 1) C dX6_passTabs_82 rfl (rfl) (Nat.le_of_ble_eq_true rfl) rfl ?_
            refine g_aload_n (pc := 85) (i := 0) C dX6_passTabs_85 rfl rfl ?_
            refine g_getr (pc := 86) (ci := 6) (N := 4) (T := TX6) (j := 1) (Cn := RX6) (b + 3) C rfl inlX6 (Nat.le_of_ble_eq_true rfl) q_5_15 (blk hb 0 rfl) rfl dX6_passTabs_86 ?_
            refine g_iload (pc := 89) C dX6_passTabs_89 rfl ?_
            refine g_iload_n (pc := 91) (i := 1) C dX6_passTabs_91 rfl rfl ?_
            refine g_callVv (pc := 92) (As := [.int (v2), .int (l1)]) C (kX1_joinGroup X σ4 (b + 3) v2 l1 (rd_pl hb)) (blk (rd_pl hb) 0 rfl) rfl q_51_19 q_34_10 q_34_11 q_2_23 q_34_12 ⟨rfl, hdX1_joinGroup⟩ ⟨Nat.le_of_ble_eq_true rfl, Nat.le_of_ble_eq_true rfl, rfl, rfl⟩ ⟨Nat.zero_le _, Nat.zero_le _⟩ (Nat.le_of_ble_eq_true rfl) rfl rfl dX6_passTabs_92 (fun σ5 _ => ?_)
            refine g_aload_n (pc := 95) (i := 0) C dX6_passTabs_95 rfl rfl ?_
            refine g_bipush (pc := 96) (v := 45) C dX6_passTabs_96 (by decide) ?_
            refine g_callVi (pc := 98) (As := [.int (45)]) C (kX6_passSign X σ5 b 45 hb) (blk hb 0 rfl) rfl q_51_3 q_51_4 q_51_5 q_2_4 q_51_6 ⟨rfl, hdX6_passSign⟩ ⟨Nat.le_of_ble_eq_true rfl, Nat.le_of_ble_eq_true rfl, rfl, rfl⟩ ⟨Nat.zero_le _, Nat.zero_le _⟩ (Nat.le_of_ble_eq_true rfl) rfl rfl dX6_passTabs_98 (fun r6 _ => ?_)
            refine g_ifb_eq (pc := 101) (tgt := 116) C dX6_passTabs_101 rfl ?_ ?_
            · refine g_aload_n (pc := 104) (i := 0) C dX6_passTabs_104 rfl rfl ?_
              refine g_getr (pc := 105) (ci := 6) (N := 4) (T := TX6) (j := 1) (Cn := RX6) (b + 3) C rfl inlX6 (Nat.le_of_ble_eq_true rfl) q_5_15 (blk hb 0 rfl) rfl dX6_passTabs_105 ?_
              refine g_iload (pc := 108) C dX6_passTabs_108 rfl ?_
              refine g_callVv (pc := 110) (As := [.int (v2)]) C (kX1_hide X r6.2 (b + 3) v2 (rd_pl hb)) (blk (rd_pl hb) 0 rfl) rfl q_51_20 q_12_1 q_12_2 q_2_23 q_12_3 ⟨rfl, hdX1_hide⟩ ⟨Nat.le_of_ble_eq_true rfl, Nat.le_of_ble_eq_true rfl, rfl, rfl⟩ ⟨Nat.zero_le _, Nat.zero_le _⟩ (Nat.le_of_ble_eq_true rfl) rfl rfl dX6_passTabs_110 (fun σ7 _ => ?_)
              refine g_goto (pc := 113) (tgt := 133) C dX6_passTabs_113 rfl ?_
              refine g_keep [true, true, true, true, true, false] ?_
              exact bX6_passTabs_133 C hr b hb ih σ7 l1 l2 (l3 + 1) l4
            · refine g_iload_n (pc := 116) (i := 2) C dX6_passTabs_116 rfl rfl ?_
              refine g_iconst (pc := 117) (v := (-1)) C dX6_passTabs_117 (by decide) ?_
              refine g_icmp_ne (pc := 118) (tgt := 133) C dX6_passTabs_118 rfl ?_ ?_
              · refine g_aload_n (pc := 121) (i := 0) C dX6_passTabs_121 rfl rfl ?_
                refine g_bipush (pc := 122) (v := 42) C dX6_passTabs_122 (by decide) ?_
                refine g_callVi (pc := 124) (As := [.int (42)]) C (kX6_passSign X r6.2 b 42 hb) (blk hb 0 rfl) rfl q_51_3 q_51_4 q_51_5 q_2_4 q_51_6 ⟨rfl, hdX6_passSign⟩ ⟨Nat.le_of_ble_eq_true rfl, Nat.le_of_ble_eq_true rfl, rfl, rfl⟩ ⟨Nat.zero_le _, Nat.zero_le _⟩ (Nat.le_of_ble_eq_true rfl) rfl rfl dX6_passTabs_124 (fun r8 _ => ?_)
                refine g_ifb_eq (pc := 127) (tgt := 133) C dX6_passTabs_127 rfl ?_ ?_
                · refine g_iload (pc := 130) C dX6_passTabs_130 rfl ?_
                  refine g_istore_n (pc := 132) (i := 2) C dX6_passTabs_132 rfl (Nat.le_of_ble_eq_true rfl) rfl ?_
                  refine g_keep [true, true, true, true, true, false] ?_
                  exact bX6_passTabs_133 C hr b hb ih r8.2 l1 v2 (l3 + 1) l4
                · refine g_keep [true, true, true, true, true, false] ?_
                  exact bX6_passTabs_133 C hr b hb ih r8.2 l1 l2 (l3 + 1) l4
              · refine g_keep [true, true, true, true, true, false] ?_
                exact bX6_passTabs_133 C hr b hb ih r6.2 l1 l2 (l3 + 1) l4
def fX6_passTabs (σ : Sg) (b : Nat) (p1 : Int32) : Option (Bool × Sg) :=
  (fX6_passTabs_7 b FU σ p1 (-1) 0 0)
theorem kX6_passTabs (X : Xc) (σ : Sg) (b : Nat) (p1 : Int32) (hb : rdOK b) : ∀ r, fX6_passTabs σ b p1 = some r → Met X.l yX6_passTabs (wsM yX6_passTabs cX6_passTabs 6 (some .boolean)) rmX6_passTabs (va_Pc [.ref (X.ad b), .int p1] (PW X σ)) (Qi X (b2i r.1) r.2) 0 0 X.A := by
  refine mt_of (own := RX6) (lo := [some (.ref (X.ad b)), some (.int (p1)), none, none, none, none]) (by decide) rfl (Nat.le_of_ble_eq_true rfl) rfl (fun K C hr => ?_)
  unfold fX6_passTabs
  refine g_iconst (pc := 0) (v := (-1)) C dX6_passTabs_0 (by decide) ?_
  refine g_istore_n (pc := 1) (i := 2) C dX6_passTabs_1 rfl (Nat.le_of_ble_eq_true rfl) rfl ?_
  refine g_iconst (pc := 2) (v := 0) C dX6_passTabs_2 (by decide) ?_
  refine g_istore_n (pc := 3) (i := 3) C dX6_passTabs_3 rfl (Nat.le_of_ble_eq_true rfl) rfl ?_
  refine g_iconst (pc := 4) (v := 0) C dX6_passTabs_4 (by decide) ?_
  refine g_istore (pc := 5) C dX6_passTabs_5 (Nat.le_of_ble_eq_true rfl) rfl ?_
  refine g_keep [true, true, true, true, true, false] ?_
  exact bX6_passTabs_7 C hr b hb FU σ p1 (-1) 0 0
theorem dX6_passWeight_0 : decode cX6_passWeight 0 = .ok (.iconst 0, 1) := by decide +kernel
theorem dX6_passWeight_1 : decode cX6_passWeight 1 = .ok (.istore_n 1, 1) := by decide +kernel
theorem dX6_passWeight_2 : decode cX6_passWeight 2 = .ok (.iconst 0, 1) := by decide +kernel
theorem dX6_passWeight_3 : decode cX6_passWeight 3 = .ok (.istore_n 2, 1) := by decide +kernel
theorem dX6_passWeight_4 : decode cX6_passWeight 4 = .ok (.iload_n 2, 1) := by decide +kernel
theorem dX6_passWeight_5 : decode cX6_passWeight 5 = .ok (.bipush 120, 2) := by decide +kernel
theorem dX6_passWeight_7 : decode cX6_passWeight 7 = .ok (.if_icmp .ge 72, 3) := by decide +kernel
theorem dX6_passWeight_10 : decode cX6_passWeight 10 = .ok (.aload_n 0, 1) := by decide +kernel
theorem dX6_passWeight_11 : decode cX6_passWeight 11 = .ok (.getfield 12, 3) := by decide +kernel
theorem dX6_passWeight_14 : decode cX6_passWeight 14 = .ok (.aload_n 0, 1) := by decide +kernel
theorem dX6_passWeight_15 : decode cX6_passWeight 15 = .ok (.getfield 51, 3) := by decide +kernel
theorem dX6_passWeight_18 : decode cX6_passWeight 18 = .ok (.invokevirtual 89, 3) := by decide +kernel
theorem dX6_passWeight_21 : decode cX6_passWeight 21 = .ok (.istore_n 3, 1) := by decide +kernel
theorem dX6_passWeight_22 : decode cX6_passWeight 22 = .ok (.bipush 10, 2) := by decide +kernel
theorem dX6_passWeight_24 : decode cX6_passWeight 24 = .ok (.iload_n 1, 1) := by decide +kernel
theorem dX6_passWeight_25 : decode cX6_passWeight 25 = .ok (.imul, 1) := by decide +kernel
theorem dX6_passWeight_26 : decode cX6_passWeight 26 = .ok (.iload_n 3, 1) := by decide +kernel
theorem dX6_passWeight_27 : decode cX6_passWeight 27 = .ok (.iadd, 1) := by decide +kernel
theorem dX6_passWeight_28 : decode cX6_passWeight 28 = .ok (.bipush 48, 2) := by decide +kernel
theorem dX6_passWeight_30 : decode cX6_passWeight 30 = .ok (.isub, 1) := by decide +kernel
theorem dX6_passWeight_31 : decode cX6_passWeight 31 = .ok (.istore 4, 2) := by decide +kernel
theorem dX6_passWeight_33 : decode cX6_passWeight 33 = .ok (.iload_n 3, 1) := by decide +kernel
theorem dX6_passWeight_34 : decode cX6_passWeight 34 = .ok (.bipush 48, 2) := by decide +kernel
theorem dX6_passWeight_36 : decode cX6_passWeight 36 = .ok (.if_icmp .lt 22, 3) := by decide +kernel
theorem dX6_passWeight_39 : decode cX6_passWeight 39 = .ok (.iload_n 3, 1) := by decide +kernel
theorem dX6_passWeight_40 : decode cX6_passWeight 40 = .ok (.bipush 57, 2) := by decide +kernel
theorem dX6_passWeight_42 : decode cX6_passWeight 42 = .ok (.if_icmp .gt 16, 3) := by decide +kernel
theorem dX6_passWeight_45 : decode cX6_passWeight 45 = .ok (.iload 4, 2) := by decide +kernel
theorem dX6_passWeight_47 : decode cX6_passWeight 47 = .ok (.iconst 1, 1) := by decide +kernel
theorem dX6_passWeight_48 : decode cX6_passWeight 48 = .ok (.if_icmp .lt 10, 3) := by decide +kernel
theorem dX6_passWeight_51 : decode cX6_passWeight 51 = .ok (.iload 4, 2) := by decide +kernel
theorem dX6_passWeight_53 : decode cX6_passWeight 53 = .ok (.ldc 92, 2) := by decide +kernel
theorem dX6_passWeight_55 : decode cX6_passWeight 55 = .ok (.if_icmp .le 5, 3) := by decide +kernel
theorem dX6_passWeight_58 : decode cX6_passWeight 58 = .ok (.iload_n 1, 1) := by decide +kernel
theorem dX6_passWeight_59 : decode cX6_passWeight 59 = .ok (.ireturn, 1) := by decide +kernel
theorem dX6_passWeight_60 : decode cX6_passWeight 60 = .ok (.iload 4, 2) := by decide +kernel
theorem dX6_passWeight_62 : decode cX6_passWeight 62 = .ok (.istore_n 1, 1) := by decide +kernel
theorem dX6_passWeight_63 : decode cX6_passWeight 63 = .ok (.aload_n 0, 1) := by decide +kernel
theorem dX6_passWeight_64 : decode cX6_passWeight 64 = .ok (.dup, 1) := by decide +kernel
theorem dX6_passWeight_65 : decode cX6_passWeight 65 = .ok (.getfield 51, 3) := by decide +kernel
theorem dX6_passWeight_68 : decode cX6_passWeight 68 = .ok (.iconst 1, 1) := by decide +kernel
theorem dX6_passWeight_69 : decode cX6_passWeight 69 = .ok (.iadd, 1) := by decide +kernel
theorem dX6_passWeight_70 : decode cX6_passWeight 70 = .ok (.putfield 51, 3) := by decide +kernel
theorem dX6_passWeight_73 : decode cX6_passWeight 73 = .ok (.iinc 2 1, 3) := by decide +kernel
theorem dX6_passWeight_76 : decode cX6_passWeight 76 = .ok (.goto (-72), 3) := by decide +kernel
theorem dX6_passWeight_79 : decode cX6_passWeight 79 = .ok (.iload_n 1, 1) := by decide +kernel
theorem dX6_passWeight_80 : decode cX6_passWeight 80 = .ok (.ireturn, 1) := by decide +kernel
abbrev rmX6_passWeight : Room := { frames := 2, cells := 0, slots := 0, locals := 42 }
theorem hdX6_passWeight : yX6_passWeight.cls ≠ "java/lang/invoke/MethodHandle" ∧ yX6_passWeight.cls ≠ "java/lang/invoke/VarHandle" ∧ (parseMethodDescriptor yX6_passWeight.desc).map (fun d => d.parameters.length) = some 0 := by decide +kernel
def fX6_passWeight_4 (b : Nat) : Nat → Sg → Int32 → Int32 → Option (Int32 × Sg)
  | 0, _, _, _ => none
  | n + 1, σ, l1, l2 =>
    if 120 ≤ l2 then
      some (l1, σ)
    else
      (fX5_code σ (b + 1) (σ.1 b 2)).bind fun r1 =>
      nm (((10 * l1) + r1) - 48) fun v2 =>
      if r1 < 48 then
        some (l1, σ)
      else
        if 57 < r1 then
          some (l1, σ)
        else
          if v2 < 1 then
            some (l1, σ)
          else
            if v2 ≤ 1000000 then
              nm (su σ b 2 ((σ.1 b 2) + 1)) fun σ3 =>
              ((fX6_passWeight_4 b n) σ3 v2 (l2 + 1))
            else
              some (l1, σ)
theorem bX6_passWeight_4 {X : Xc} {K : Kc} (C : MC X K cX6_passWeight 5 RX6 rmX6_passWeight) (hr : K.meth.sig.returnType = (some .int)) (b : Nat) (hb : rdOK b) : ∀ (n : Nat) (σ : Sg) (l1 : Int32) (l2 : Int32), GO X K 5 (fun r => MQi X K r.1 r.2) (fX6_passWeight_4 b n σ l1 l2) σ 0 0 4 [some (.ref (X.ad b)), some (.int (l1)), some (.int (l2)), none, none] [] := by
  intro n
  induction n with
  | zero =>
    intro σ l1 l2
    exact g_none
  | succ n ih =>
    intro σ l1 l2
    unfold fX6_passWeight_4
    refine g_iload_n (pc := 4) (i := 2) C dX6_passWeight_4 rfl rfl ?_
    refine g_bipush (pc := 5) (v := 120) C dX6_passWeight_5 (by decide) ?_
    refine g_icmp_ge (pc := 7) (tgt := 79) C dX6_passWeight_7 rfl ?_ ?_
    · refine g_iload_n (pc := 79) (i := 1) C dX6_passWeight_79 rfl rfl ?_
      exact g_iret (pc := 80) C hr dX6_passWeight_80 rfl
    · refine g_aload_n (pc := 10) (i := 0) C dX6_passWeight_10 rfl rfl ?_
      refine g_getr (pc := 11) (ci := 6) (N := 4) (T := TX6) (j := 0) (Cn := RX6) (b + 1) C rfl inlX6 (Nat.le_of_ble_eq_true rfl) q_5_13 (blk hb 0 rfl) rfl dX6_passWeight_11 ?_
      refine g_aload_n (pc := 14) (i := 0) C dX6_passWeight_14 rfl rfl ?_
      refine g_geti (pc := 15) (ci := 6) (N := 4) (T := TX6) (j := 2) (Cn := RX6) C rfl inlX6 (Nat.le_of_ble_eq_true rfl) q_50_10 (blk hb 0 rfl) rfl dX6_passWeight_15 ?_
      refine g_callVi (pc := 18) (As := [.int (σ.1 b 2)]) C (kX5_code X σ (b + 1) (σ.1 b 2) (rd_tx hb)) (blk (rd_tx hb) 0 rfl) rfl q_51_7 q_51_8 q_51_9 q_2_0 q_51_10 ⟨rfl, hdX5_code⟩ ⟨Nat.le_of_ble_eq_true rfl, Nat.le_of_ble_eq_true rfl, rfl, rfl⟩ ⟨Nat.zero_le _, Nat.zero_le _⟩ (Nat.le_of_ble_eq_true rfl) rfl rfl dX6_passWeight_18 (fun r1 _ => ?_)
      refine g_istore_n (pc := 21) (i := 3) C dX6_passWeight_21 rfl (Nat.le_of_ble_eq_true rfl) rfl ?_
      refine g_bipush (pc := 22) (v := 10) C dX6_passWeight_22 (by decide) ?_
      refine g_iload_n (pc := 24) (i := 1) C dX6_passWeight_24 rfl rfl ?_
      refine g_imul (pc := 25) C dX6_passWeight_25 ?_
      refine g_iload_n (pc := 26) (i := 3) C dX6_passWeight_26 rfl rfl ?_
      refine g_iadd (pc := 27) C dX6_passWeight_27 ?_
      refine g_bipush (pc := 28) (v := 48) C dX6_passWeight_28 (by decide) ?_
      refine g_isub (pc := 30) C dX6_passWeight_30 ?_
      refine g_nm (fun v2 => ?_)
      refine g_istore (pc := 31) C dX6_passWeight_31 (Nat.le_of_ble_eq_true rfl) rfl ?_
      refine g_iload_n (pc := 33) (i := 3) C dX6_passWeight_33 rfl rfl ?_
      refine g_bipush (pc := 34) (v := 48) C dX6_passWeight_34 (by decide) ?_
      refine g_icmp_lt (pc := 36) (tgt := 58) C dX6_passWeight_36 rfl ?_ ?_
      · refine g_iload_n (pc := 58) (i := 1) C dX6_passWeight_58 rfl rfl ?_
        exact g_iret (pc := 59) C hr dX6_passWeight_59 rfl
      · refine g_iload_n (pc := 39) (i := 3) C dX6_passWeight_39 rfl rfl ?_
        refine g_bipush (pc := 40) (v := 57) C dX6_passWeight_40 (by decide) ?_
        refine g_icmp_gt (pc := 42) (tgt := 58) C dX6_passWeight_42 rfl ?_ ?_
        · refine g_iload_n (pc := 58) (i := 1) C dX6_passWeight_58 rfl rfl ?_
          exact g_iret (pc := 59) C hr dX6_passWeight_59 rfl
        · refine g_iload (pc := 45) C dX6_passWeight_45 rfl ?_
          refine g_iconst (pc := 47) (v := 1) C dX6_passWeight_47 (by decide) ?_
          refine g_icmp_lt (pc := 48) (tgt := 58) C dX6_passWeight_48 rfl ?_ ?_
          · refine g_iload_n (pc := 58) (i := 1) C dX6_passWeight_58 rfl rfl ?_
            exact g_iret (pc := 59) C hr dX6_passWeight_59 rfl
          · refine g_iload (pc := 51) C dX6_passWeight_51 rfl ?_
            refine g_ldc (pc := 53) (v := 1000000) C q_52_7 dX6_passWeight_53 ?_
            refine g_icmp_le (pc := 55) (tgt := 60) C dX6_passWeight_55 rfl ?_ ?_
            · refine g_iload (pc := 60) C dX6_passWeight_60 rfl ?_
              refine g_istore_n (pc := 62) (i := 1) C dX6_passWeight_62 rfl (Nat.le_of_ble_eq_true rfl) rfl ?_
              refine g_aload_n (pc := 63) (i := 0) C dX6_passWeight_63 rfl rfl ?_
              refine g_dup (pc := 64) C dX6_passWeight_64 rfl ?_
              refine g_geti (pc := 65) (ci := 6) (N := 4) (T := TX6) (j := 2) (Cn := RX6) C rfl inlX6 (Nat.le_of_ble_eq_true rfl) q_50_10 (blk hb 0 rfl) rfl dX6_passWeight_65 ?_
              refine g_iconst (pc := 68) (v := 1) C dX6_passWeight_68 (by decide) ?_
              refine g_iadd (pc := 69) C dX6_passWeight_69 ?_
              refine g_puti (pc := 70) (ci := 6) (N := 4) (T := TX6) (j := 2) (Cn := RX6) C rfl inlX6 tyX6_ok nmX6 (Nat.le_of_ble_eq_true rfl) q_50_10 (blk hb 0 rfl) rfl rfl rfl dX6_passWeight_70 ?_
              refine g_nms (fun σ3 => ?_)
              refine g_iinc (pc := 73) (v := l2 + 1) C dX6_passWeight_73 rfl (rfl) (Nat.le_of_ble_eq_true rfl) rfl ?_
              refine g_goto (pc := 76) (tgt := 4) C dX6_passWeight_76 rfl ?_
              refine g_keep [true, true, true, false, false] ?_
              exact ih σ3 v2 (l2 + 1)
            · refine g_iload_n (pc := 58) (i := 1) C dX6_passWeight_58 rfl rfl ?_
              exact g_iret (pc := 59) C hr dX6_passWeight_59 rfl
def fX6_passWeight (σ : Sg) (b : Nat) : Option (Int32 × Sg) :=
  (fX6_passWeight_4 b FU σ 0 0)
theorem kX6_passWeight (X : Xc) (σ : Sg) (b : Nat) (hb : rdOK b) : ∀ r, fX6_passWeight σ b = some r → Met X.l yX6_passWeight (wsM yX6_passWeight cX6_passWeight 5 (some .int)) rmX6_passWeight (va_Pc [.ref (X.ad b)] (PW X σ)) (Qi X r.1 r.2) 0 0 X.A := by
  refine mt_of (own := RX6) (lo := [some (.ref (X.ad b)), none, none, none, none]) (by decide) rfl (Nat.le_of_ble_eq_true rfl) rfl (fun K C hr => ?_)
  unfold fX6_passWeight
  refine g_iconst (pc := 0) (v := 0) C dX6_passWeight_0 (by decide) ?_
  refine g_istore_n (pc := 1) (i := 1) C dX6_passWeight_1 rfl (Nat.le_of_ble_eq_true rfl) rfl ?_
  refine g_iconst (pc := 2) (v := 0) C dX6_passWeight_2 (by decide) ?_
  refine g_istore_n (pc := 3) (i := 2) C dX6_passWeight_3 rfl (Nat.le_of_ble_eq_true rfl) rfl ?_
  refine g_keep [true, true, true, false, false] ?_
  exact bX6_passWeight_4 C hr b hb FU σ 0 0
theorem dX6_passChildren_0 : decode cX6_passChildren 0 = .ok (.aload_n 0, 1) := by decide +kernel
theorem dX6_passChildren_1 : decode cX6_passChildren 1 = .ok (.bipush 40, 2) := by decide +kernel
theorem dX6_passChildren_3 : decode cX6_passChildren 3 = .ok (.invokevirtual 62, 3) := by decide +kernel
theorem dX6_passChildren_6 : decode cX6_passChildren 6 = .ok (.ifCond .ne 5, 3) := by decide +kernel
theorem dX6_passChildren_9 : decode cX6_passChildren 9 = .ok (.iconst 0, 1) := by decide +kernel
theorem dX6_passChildren_10 : decode cX6_passChildren 10 = .ok (.ireturn, 1) := by decide +kernel
theorem dX6_passChildren_11 : decode cX6_passChildren 11 = .ok (.iconst 1, 1) := by decide +kernel
theorem dX6_passChildren_12 : decode cX6_passChildren 12 = .ok (.istore_n 3, 1) := by decide +kernel
theorem dX6_passChildren_13 : decode cX6_passChildren 13 = .ok (.iload_n 3, 1) := by decide +kernel
theorem dX6_passChildren_14 : decode cX6_passChildren 14 = .ok (.bipush 120, 2) := by decide +kernel
theorem dX6_passChildren_16 : decode cX6_passChildren 16 = .ok (.if_icmp .gt 71, 3) := by decide +kernel
theorem dX6_passChildren_19 : decode cX6_passChildren 19 = .ok (.aload_n 0, 1) := by decide +kernel
theorem dX6_passChildren_20 : decode cX6_passChildren 20 = .ok (.invokevirtual 86, 3) := by decide +kernel
theorem dX6_passChildren_23 : decode cX6_passChildren 23 = .ok (.istore 4, 2) := by decide +kernel
theorem dX6_passChildren_25 : decode cX6_passChildren 25 = .ok (.iload 4, 2) := by decide +kernel
theorem dX6_passChildren_27 : decode cX6_passChildren 27 = .ok (.ifCond .eq 25, 3) := by decide +kernel
theorem dX6_passChildren_30 : decode cX6_passChildren 30 = .ok (.aload_n 0, 1) := by decide +kernel
theorem dX6_passChildren_31 : decode cX6_passChildren 31 = .ok (.bipush 58, 2) := by decide +kernel
theorem dX6_passChildren_33 : decode cX6_passChildren 33 = .ok (.invokevirtual 62, 3) := by decide +kernel
theorem dX6_passChildren_36 : decode cX6_passChildren 36 = .ok (.ifCond .eq 16, 3) := by decide +kernel
theorem dX6_passChildren_39 : decode cX6_passChildren 39 = .ok (.aload_n 0, 1) := by decide +kernel
theorem dX6_passChildren_40 : decode cX6_passChildren 40 = .ok (.iload_n 1, 1) := by decide +kernel
theorem dX6_passChildren_41 : decode cX6_passChildren 41 = .ok (.iload 4, 2) := by decide +kernel
theorem dX6_passChildren_43 : decode cX6_passChildren 43 = .ok (.iload_n 2, 1) := by decide +kernel
theorem dX6_passChildren_44 : decode cX6_passChildren 44 = .ok (.iconst 1, 1) := by decide +kernel
theorem dX6_passChildren_45 : decode cX6_passChildren 45 = .ok (.iadd, 1) := by decide +kernel
theorem dX6_passChildren_46 : decode cX6_passChildren 46 = .ok (.invokevirtual 54, 3) := by decide +kernel
theorem dX6_passChildren_49 : decode cX6_passChildren 49 = .ok (.ifCond .ne 5, 3) := by decide +kernel
theorem dX6_passChildren_52 : decode cX6_passChildren 52 = .ok (.iconst 0, 1) := by decide +kernel
theorem dX6_passChildren_53 : decode cX6_passChildren 53 = .ok (.ireturn, 1) := by decide +kernel
theorem dX6_passChildren_54 : decode cX6_passChildren 54 = .ok (.iload_n 3, 1) := by decide +kernel
theorem dX6_passChildren_55 : decode cX6_passChildren 55 = .ok (.iconst 1, 1) := by decide +kernel
theorem dX6_passChildren_56 : decode cX6_passChildren 56 = .ok (.if_icmp .le 14, 3) := by decide +kernel
theorem dX6_passChildren_59 : decode cX6_passChildren 59 = .ok (.aload_n 0, 1) := by decide +kernel
theorem dX6_passChildren_60 : decode cX6_passChildren 60 = .ok (.bipush 41, 2) := by decide +kernel
theorem dX6_passChildren_62 : decode cX6_passChildren 62 = .ok (.invokevirtual 62, 3) := by decide +kernel
theorem dX6_passChildren_65 : decode cX6_passChildren 65 = .ok (.ifCond .eq 5, 3) := by decide +kernel
theorem dX6_passChildren_68 : decode cX6_passChildren 68 = .ok (.iconst 1, 1) := by decide +kernel
theorem dX6_passChildren_69 : decode cX6_passChildren 69 = .ok (.ireturn, 1) := by decide +kernel
theorem dX6_passChildren_70 : decode cX6_passChildren 70 = .ok (.aload_n 0, 1) := by decide +kernel
theorem dX6_passChildren_71 : decode cX6_passChildren 71 = .ok (.bipush 44, 2) := by decide +kernel
theorem dX6_passChildren_73 : decode cX6_passChildren 73 = .ok (.invokevirtual 62, 3) := by decide +kernel
theorem dX6_passChildren_76 : decode cX6_passChildren 76 = .ok (.ifCond .ne 5, 3) := by decide +kernel
theorem dX6_passChildren_79 : decode cX6_passChildren 79 = .ok (.iconst 0, 1) := by decide +kernel
theorem dX6_passChildren_80 : decode cX6_passChildren 80 = .ok (.ireturn, 1) := by decide +kernel
theorem dX6_passChildren_81 : decode cX6_passChildren 81 = .ok (.iinc 3 1, 3) := by decide +kernel
theorem dX6_passChildren_84 : decode cX6_passChildren 84 = .ok (.goto (-71), 3) := by decide +kernel
theorem dX6_passChildren_87 : decode cX6_passChildren 87 = .ok (.iconst 0, 1) := by decide +kernel
theorem dX6_passChildren_88 : decode cX6_passChildren 88 = .ok (.ireturn, 1) := by decide +kernel
def fX6_passChildren_70 (b : Nat) (rc : Sg → Nat → Int32 → Int32 → Int32 → Option (Bool × Sg)) (k13 : Sg → Int32 → Int32 → Int32 → Option (Bool × Sg)) (σ : Sg) (l1 : Int32) (l2 : Int32) (l3 : Int32) : Option (Bool × Sg) :=
  (fX6_passSign σ b 44).bind fun r6 =>
  if r6.1 = true then
    (k13 r6.2 l1 l2 (l3 + 1))
  else
    some (false, r6.2)
theorem bX6_passChildren_70 {X : Xc} {K : Kc} {d : Nat} (C : MC X K cX6_passChildren 5 RX6 (rmX6_passChildren d)) (hr : K.meth.sig.returnType = (some .boolean)) (b : Nat) (rc : Sg → Nat → Int32 → Int32 → Int32 → Option (Bool × Sg)) (hb : rdOK b) (hrc : ∀ (σ : Sg) (b : Nat) (p1 : Int32) (p2 : Int32) (p3 : Int32) (hb : rdOK b), ∀ r, rc σ b p1 p2 p3 = some r → Met X.l yX6_passTree (wsM yX6_passTree cX6_passTree 6 (some .boolean)) (rmX6_passTree d) (va_Pc [.ref (X.ad b), .int p1, .int p2, .int p3] (PW X σ)) (Qi X (b2i r.1) r.2) 0 0 X.A){k13 : Sg → Int32 → Int32 → Int32 → Option (Bool × Sg)} (hk13 : ∀ (σ : Sg) (l1 : Int32) (l2 : Int32) (l3 : Int32), GO X K 5 (fun r => MQi X K (b2i r.1) r.2) (k13 σ l1 l2 l3) σ 0 0 13 [some (.ref (X.ad b)), some (.int (l1)), some (.int (l2)), some (.int (l3)), none] []) (σ : Sg) (l1 : Int32) (l2 : Int32) (l3 : Int32) : GO X K 5 (fun r => MQi X K (b2i r.1) r.2) (fX6_passChildren_70 b rc k13 σ l1 l2 l3) σ 0 0 70 [some (.ref (X.ad b)), some (.int (l1)), some (.int (l2)), some (.int (l3)), none] [] := by
  unfold fX6_passChildren_70
  refine g_aload_n (pc := 70) (i := 0) C dX6_passChildren_70 rfl rfl ?_
  refine g_bipush (pc := 71) (v := 44) C dX6_passChildren_71 (by decide) ?_
  refine g_callVi (pc := 73) (As := [.int (44)]) C (kX6_passSign X σ b 44 hb) (blk hb 0 rfl) rfl q_51_3 q_51_4 q_51_5 q_2_4 q_51_6 ⟨rfl, hdX6_passSign⟩ ⟨le_ab rfl, le_ab rfl, rfl, rfl⟩ ⟨Nat.zero_le _, Nat.zero_le _⟩ (Nat.le_of_ble_eq_true rfl) rfl rfl dX6_passChildren_73 (fun r6 _ => ?_)
  refine g_ifb_ne (pc := 76) (tgt := 81) C dX6_passChildren_76 rfl ?_ ?_
  · refine g_iinc (pc := 81) (v := l3 + 1) C dX6_passChildren_81 rfl (rfl) (Nat.le_of_ble_eq_true rfl) rfl ?_
    refine g_goto (pc := 84) (tgt := 13) C dX6_passChildren_84 rfl ?_
    refine g_keep [true, true, true, true, false] ?_
    exact hk13 r6.2 l1 l2 (l3 + 1)
  · refine g_iconst (pc := 79) (v := 0) C dX6_passChildren_79 (by decide) ?_
    exact g_zret (pc := 80) C hr dX6_passChildren_80 rfl
def fX6_passChildren_13 (b : Nat) (rc : Sg → Nat → Int32 → Int32 → Int32 → Option (Bool × Sg)) : Nat → Sg → Int32 → Int32 → Int32 → Option (Bool × Sg)
  | 0, _, _, _, _ => none
  | n + 1, σ, l1, l2, l3 =>
    if 120 < l3 then
      some (false, σ)
    else
      (fX6_passWeight σ b).bind fun r2 =>
      if r2.1 = 0 then
        some (false, r2.2)
      else
        (fX6_passSign r2.2 b 58).bind fun r3 =>
        if r3.1 = true then
          (rc r3.2 b l1 r2.1 (l2 + 1)).bind fun r4 =>
          if r4.1 = true then
            if l3 ≤ 1 then
              (fX6_passChildren_70 b rc (fX6_passChildren_13 b rc n) r4.2 l1 l2 l3)
            else
              (fX6_passSign r4.2 b 41).bind fun r5 =>
              if r5.1 = true then
                some (true, r5.2)
              else
                (fX6_passChildren_70 b rc (fX6_passChildren_13 b rc n) r5.2 l1 l2 l3)
          else
            some (false, r4.2)
        else
          some (false, r3.2)
theorem bX6_passChildren_13 {X : Xc} {K : Kc} {d : Nat} (C : MC X K cX6_passChildren 5 RX6 (rmX6_passChildren d)) (hr : K.meth.sig.returnType = (some .boolean)) (b : Nat) (rc : Sg → Nat → Int32 → Int32 → Int32 → Option (Bool × Sg)) (hb : rdOK b) (hrc : ∀ (σ : Sg) (b : Nat) (p1 : Int32) (p2 : Int32) (p3 : Int32) (hb : rdOK b), ∀ r, rc σ b p1 p2 p3 = some r → Met X.l yX6_passTree (wsM yX6_passTree cX6_passTree 6 (some .boolean)) (rmX6_passTree d) (va_Pc [.ref (X.ad b), .int p1, .int p2, .int p3] (PW X σ)) (Qi X (b2i r.1) r.2) 0 0 X.A) : ∀ (n : Nat) (σ : Sg) (l1 : Int32) (l2 : Int32) (l3 : Int32), GO X K 5 (fun r => MQi X K (b2i r.1) r.2) (fX6_passChildren_13 b rc n σ l1 l2 l3) σ 0 0 13 [some (.ref (X.ad b)), some (.int (l1)), some (.int (l2)), some (.int (l3)), none] [] := by
  intro n
  induction n with
  | zero =>
    intro σ l1 l2 l3
    exact g_none
  | succ n ih =>
    intro σ l1 l2 l3
    unfold fX6_passChildren_13
    refine g_iload_n (pc := 13) (i := 3) C dX6_passChildren_13 rfl rfl ?_
    refine g_bipush (pc := 14) (v := 120) C dX6_passChildren_14 (by decide) ?_
    refine g_icmp_gt (pc := 16) (tgt := 87) C dX6_passChildren_16 rfl ?_ ?_
    · refine g_iconst (pc := 87) (v := 0) C dX6_passChildren_87 (by decide) ?_
      exact g_zret (pc := 88) C hr dX6_passChildren_88 rfl
    · refine g_aload_n (pc := 19) (i := 0) C dX6_passChildren_19 rfl rfl ?_
      refine g_callVi (pc := 20) (As := []) C (kX6_passWeight X σ b hb) (blk hb 0 rfl) rfl q_52_3 q_52_4 q_52_5 q_2_4 q_52_6 ⟨rfl, hdX6_passWeight⟩ ⟨le_ab rfl, le_ab rfl, rfl, rfl⟩ ⟨Nat.zero_le _, Nat.zero_le _⟩ (Nat.le_of_ble_eq_true rfl) rfl rfl dX6_passChildren_20 (fun r2 _ => ?_)
      refine g_istore (pc := 23) C dX6_passChildren_23 (Nat.le_of_ble_eq_true rfl) rfl ?_
      refine g_iload (pc := 25) C dX6_passChildren_25 rfl ?_
      refine g_if_eq (pc := 27) (tgt := 52) C dX6_passChildren_27 rfl ?_ ?_
      · refine g_iconst (pc := 52) (v := 0) C dX6_passChildren_52 (by decide) ?_
        exact g_zret (pc := 53) C hr dX6_passChildren_53 rfl
      · refine g_aload_n (pc := 30) (i := 0) C dX6_passChildren_30 rfl rfl ?_
        refine g_bipush (pc := 31) (v := 58) C dX6_passChildren_31 (by decide) ?_
        refine g_callVi (pc := 33) (As := [.int (58)]) C (kX6_passSign X r2.2 b 58 hb) (blk hb 0 rfl) rfl q_51_3 q_51_4 q_51_5 q_2_4 q_51_6 ⟨rfl, hdX6_passSign⟩ ⟨le_ab rfl, le_ab rfl, rfl, rfl⟩ ⟨Nat.zero_le _, Nat.zero_le _⟩ (Nat.le_of_ble_eq_true rfl) rfl rfl dX6_passChildren_33 (fun r3 _ => ?_)
        refine g_ifb_eq (pc := 36) (tgt := 52) C dX6_passChildren_36 rfl ?_ ?_
        · refine g_aload_n (pc := 39) (i := 0) C dX6_passChildren_39 rfl rfl ?_
          refine g_iload_n (pc := 40) (i := 1) C dX6_passChildren_40 rfl rfl ?_
          refine g_iload (pc := 41) C dX6_passChildren_41 rfl ?_
          refine g_iload_n (pc := 43) (i := 2) C dX6_passChildren_43 rfl rfl ?_
          refine g_iconst (pc := 44) (v := 1) C dX6_passChildren_44 (by decide) ?_
          refine g_iadd (pc := 45) C dX6_passChildren_45 ?_
          refine g_callVi (pc := 46) (As := [.int (l1), .int (r2.1), .int (l2 + 1)]) C (hrc r3.2 b l1 r2.1 (l2 + 1) hb) (blk hb 0 rfl) rfl q_50_23 q_51_0 q_51_1 q_2_4 q_51_2 ⟨rfl, hdX6_passTree⟩ ⟨by show 4 * d + 24 + 1 ≤ 4 * d + 26; omega, by show 8 + (6 + 11) + (90 * d + 500) ≤ 90 * d + 560; omega, rfl, rfl⟩ ⟨Nat.zero_le _, Nat.zero_le _⟩ (Nat.le_of_ble_eq_true rfl) rfl rfl dX6_passChildren_46 (fun r4 _ => ?_)
          refine g_ifb_ne (pc := 49) (tgt := 54) C dX6_passChildren_49 rfl ?_ ?_
          · refine g_iload_n (pc := 54) (i := 3) C dX6_passChildren_54 rfl rfl ?_
            refine g_iconst (pc := 55) (v := 1) C dX6_passChildren_55 (by decide) ?_
            refine g_icmp_le (pc := 56) (tgt := 70) C dX6_passChildren_56 rfl ?_ ?_
            · refine g_keep [true, true, true, true, false] ?_
              exact bX6_passChildren_70 C hr b rc hb hrc ih r4.2 l1 l2 l3
            · refine g_aload_n (pc := 59) (i := 0) C dX6_passChildren_59 rfl rfl ?_
              refine g_bipush (pc := 60) (v := 41) C dX6_passChildren_60 (by decide) ?_
              refine g_callVi (pc := 62) (As := [.int (41)]) C (kX6_passSign X r4.2 b 41 hb) (blk hb 0 rfl) rfl q_51_3 q_51_4 q_51_5 q_2_4 q_51_6 ⟨rfl, hdX6_passSign⟩ ⟨le_ab rfl, le_ab rfl, rfl, rfl⟩ ⟨Nat.zero_le _, Nat.zero_le _⟩ (Nat.le_of_ble_eq_true rfl) rfl rfl dX6_passChildren_62 (fun r5 _ => ?_)
              refine g_ifb_eq (pc := 65) (tgt := 70) C dX6_passChildren_65 rfl ?_ ?_
              · refine g_iconst (pc := 68) (v := 1) C dX6_passChildren_68 (by decide) ?_
                exact g_zret (pc := 69) C hr dX6_passChildren_69 rfl
              · refine g_keep [true, true, true, true, false] ?_
                exact bX6_passChildren_70 C hr b rc hb hrc ih r5.2 l1 l2 l3
          · refine g_iconst (pc := 52) (v := 0) C dX6_passChildren_52 (by decide) ?_
            exact g_zret (pc := 53) C hr dX6_passChildren_53 rfl
        · refine g_iconst (pc := 52) (v := 0) C dX6_passChildren_52 (by decide) ?_
          exact g_zret (pc := 53) C hr dX6_passChildren_53 rfl
def fX6_passChildren (rc : Sg → Nat → Int32 → Int32 → Int32 → Option (Bool × Sg)) (σ : Sg) (b : Nat) (p1 : Int32) (p2 : Int32) : Option (Bool × Sg) :=
  (fX6_passSign σ b 40).bind fun r1 =>
  if r1.1 = true then
    (fX6_passChildren_13 b rc FU r1.2 p1 p2 1)
  else
    some (false, r1.2)
theorem kX6_passChildren (X : Xc) {d : Nat} (rc : Sg → Nat → Int32 → Int32 → Int32 → Option (Bool × Sg)) (σ : Sg) (b : Nat) (p1 : Int32) (p2 : Int32) (hb : rdOK b) (hrc : ∀ (σ : Sg) (b : Nat) (p1 : Int32) (p2 : Int32) (p3 : Int32) (hb : rdOK b), ∀ r, rc σ b p1 p2 p3 = some r → Met X.l yX6_passTree (wsM yX6_passTree cX6_passTree 6 (some .boolean)) (rmX6_passTree d) (va_Pc [.ref (X.ad b), .int p1, .int p2, .int p3] (PW X σ)) (Qi X (b2i r.1) r.2) 0 0 X.A) : ∀ r, fX6_passChildren rc σ b p1 p2 = some r → Met X.l yX6_passChildren (wsM yX6_passChildren cX6_passChildren 5 (some .boolean)) (rmX6_passChildren d) (va_Pc [.ref (X.ad b), .int p1, .int p2] (PW X σ)) (Qi X (b2i r.1) r.2) 0 0 X.A := by
  refine mt_of (own := RX6) (lo := [some (.ref (X.ad b)), some (.int (p1)), some (.int (p2)), none, none]) (by decide) rfl (Nat.le_of_ble_eq_true rfl) rfl (fun K C hr => ?_)
  unfold fX6_passChildren
  refine g_aload_n (pc := 0) (i := 0) C dX6_passChildren_0 rfl rfl ?_
  refine g_bipush (pc := 1) (v := 40) C dX6_passChildren_1 (by decide) ?_
  refine g_callVi (pc := 3) (As := [.int (40)]) C (kX6_passSign X σ b 40 hb) (blk hb 0 rfl) rfl q_51_3 q_51_4 q_51_5 q_2_4 q_51_6 ⟨rfl, hdX6_passSign⟩ ⟨le_ab rfl, le_ab rfl, rfl, rfl⟩ ⟨Nat.zero_le _, Nat.zero_le _⟩ (Nat.le_of_ble_eq_true rfl) rfl rfl dX6_passChildren_3 (fun r1 _ => ?_)
  refine g_ifb_ne (pc := 6) (tgt := 11) C dX6_passChildren_6 rfl ?_ ?_
  · refine g_iconst (pc := 11) (v := 1) C dX6_passChildren_11 (by decide) ?_
    refine g_istore_n (pc := 12) (i := 3) C dX6_passChildren_12 rfl (Nat.le_of_ble_eq_true rfl) rfl ?_
    refine g_keep [true, true, true, true, false] ?_
    exact bX6_passChildren_13 C hr b rc hb hrc FU r1.2 p1 p2 1
  · refine g_iconst (pc := 9) (v := 0) C dX6_passChildren_9 (by decide) ?_
    exact g_zret (pc := 10) C hr dX6_passChildren_10 rfl
theorem dX6_passTree_0 : decode cX6_passTree 0 = .ok (.iload_n 3, 1) := by decide +kernel
theorem dX6_passTree_1 : decode cX6_passTree 1 = .ok (.bipush 40, 2) := by decide +kernel
theorem dX6_passTree_3 : decode cX6_passTree 3 = .ok (.if_icmp .le 5, 3) := by decide +kernel
theorem dX6_passTree_6 : decode cX6_passTree 6 = .ok (.iconst 0, 1) := by decide +kernel
theorem dX6_passTree_7 : decode cX6_passTree 7 = .ok (.ireturn, 1) := by decide +kernel
theorem dX6_passTree_8 : decode cX6_passTree 8 = .ok (.aload_n 0, 1) := by decide +kernel
theorem dX6_passTree_9 : decode cX6_passTree 9 = .ok (.bipush 72, 2) := by decide +kernel
theorem dX6_passTree_11 : decode cX6_passTree 11 = .ok (.invokevirtual 62, 3) := by decide +kernel
theorem dX6_passTree_14 : decode cX6_passTree 14 = .ok (.ifCond .eq 7, 3) := by decide +kernel
theorem dX6_passTree_17 : decode cX6_passTree 17 = .ok (.iconst 0, 1) := by decide +kernel
theorem dX6_passTree_18 : decode cX6_passTree 18 = .ok (.goto 17, 3) := by decide +kernel
theorem dX6_passTree_21 : decode cX6_passTree 21 = .ok (.aload_n 0, 1) := by decide +kernel
theorem dX6_passTree_22 : decode cX6_passTree 22 = .ok (.bipush 86, 2) := by decide +kernel
theorem dX6_passTree_24 : decode cX6_passTree 24 = .ok (.invokevirtual 62, 3) := by decide +kernel
theorem dX6_passTree_27 : decode cX6_passTree 27 = .ok (.ifCond .eq 7, 3) := by decide +kernel
theorem dX6_passTree_30 : decode cX6_passTree 30 = .ok (.iconst 1, 1) := by decide +kernel
theorem dX6_passTree_31 : decode cX6_passTree 31 = .ok (.goto 4, 3) := by decide +kernel
theorem dX6_passTree_34 : decode cX6_passTree 34 = .ok (.iconst 2, 1) := by decide +kernel
theorem dX6_passTree_35 : decode cX6_passTree 35 = .ok (.istore 4, 2) := by decide +kernel
theorem dX6_passTree_37 : decode cX6_passTree 37 = .ok (.aload_n 0, 1) := by decide +kernel
theorem dX6_passTree_38 : decode cX6_passTree 38 = .ok (.getfield 21, 3) := by decide +kernel
theorem dX6_passTree_41 : decode cX6_passTree 41 = .ok (.iload 4, 2) := by decide +kernel
theorem dX6_passTree_43 : decode cX6_passTree 43 = .ok (.invokevirtual 65, 3) := by decide +kernel
theorem dX6_passTree_46 : decode cX6_passTree 46 = .ok (.istore 5, 2) := by decide +kernel
theorem dX6_passTree_48 : decode cX6_passTree 48 = .ok (.iload_n 3, 1) := by decide +kernel
theorem dX6_passTree_49 : decode cX6_passTree 49 = .ok (.ifCond .ne 16, 3) := by decide +kernel
theorem dX6_passTree_52 : decode cX6_passTree 52 = .ok (.aload_n 0, 1) := by decide +kernel
theorem dX6_passTree_53 : decode cX6_passTree 53 = .ok (.getfield 21, 3) := by decide +kernel
theorem dX6_passTree_56 : decode cX6_passTree 56 = .ok (.iconst 0, 1) := by decide +kernel
theorem dX6_passTree_57 : decode cX6_passTree 57 = .ok (.iload 5, 2) := by decide +kernel
theorem dX6_passTree_59 : decode cX6_passTree 59 = .ok (.invokevirtual 68, 3) := by decide +kernel
theorem dX6_passTree_62 : decode cX6_passTree 62 = .ok (.goto 22, 3) := by decide +kernel
theorem dX6_passTree_65 : decode cX6_passTree 65 = .ok (.aload_n 0, 1) := by decide +kernel
theorem dX6_passTree_66 : decode cX6_passTree 66 = .ok (.getfield 21, 3) := by decide +kernel
theorem dX6_passTree_69 : decode cX6_passTree 69 = .ok (.iload 5, 2) := by decide +kernel
theorem dX6_passTree_71 : decode cX6_passTree 71 = .ok (.iload_n 1, 1) := by decide +kernel
theorem dX6_passTree_72 : decode cX6_passTree 72 = .ok (.aload_n 0, 1) := by decide +kernel
theorem dX6_passTree_73 : decode cX6_passTree 73 = .ok (.getfield 21, 3) := by decide +kernel
theorem dX6_passTree_76 : decode cX6_passTree 76 = .ok (.iload_n 1, 1) := by decide +kernel
theorem dX6_passTree_77 : decode cX6_passTree 77 = .ok (.invokevirtual 72, 3) := by decide +kernel
theorem dX6_passTree_80 : decode cX6_passTree 80 = .ok (.iload_n 2, 1) := by decide +kernel
theorem dX6_passTree_81 : decode cX6_passTree 81 = .ok (.invokevirtual 75, 3) := by decide +kernel
theorem dX6_passTree_84 : decode cX6_passTree 84 = .ok (.iload 4, 2) := by decide +kernel
theorem dX6_passTree_86 : decode cX6_passTree 86 = .ok (.iconst 2, 1) := by decide +kernel
theorem dX6_passTree_87 : decode cX6_passTree 87 = .ok (.if_icmp .ne 12, 3) := by decide +kernel
theorem dX6_passTree_90 : decode cX6_passTree 90 = .ok (.aload_n 0, 1) := by decide +kernel
theorem dX6_passTree_91 : decode cX6_passTree 91 = .ok (.iload 5, 2) := by decide +kernel
theorem dX6_passTree_93 : decode cX6_passTree 93 = .ok (.invokevirtual 79, 3) := by decide +kernel
theorem dX6_passTree_96 : decode cX6_passTree 96 = .ok (.goto 10, 3) := by decide +kernel
theorem dX6_passTree_99 : decode cX6_passTree 99 = .ok (.aload_n 0, 1) := by decide +kernel
theorem dX6_passTree_100 : decode cX6_passTree 100 = .ok (.iload 5, 2) := by decide +kernel
theorem dX6_passTree_102 : decode cX6_passTree 102 = .ok (.iload_n 3, 1) := by decide +kernel
theorem dX6_passTree_103 : decode cX6_passTree 103 = .ok (.invokevirtual 82, 3) := by decide +kernel
theorem dX6_passTree_106 : decode cX6_passTree 106 = .ok (.ireturn, 1) := by decide +kernel
def fX6_passTree_84 (b : Nat) (rc : Sg → Nat → Int32 → Int32 → Int32 → Option (Bool × Sg)) (σ : Sg) (l3 : Int32) (l4 : Int32) (l5 : Int32) : Option (Bool × Sg) :=
  if l4 = 2 then
    (fX6_passTabs σ b l5).bind fun r7 =>
    some (r7.1, r7.2)
  else
    (fX6_passChildren rc σ b l5 l3).bind fun r8 =>
    some (r8.1, r8.2)
theorem bX6_passTree_84 {X : Xc} {K : Kc} {d : Nat} (C : MC X K cX6_passTree 6 RX6 (rmX6_passTree (d + 1))) (hr : K.meth.sig.returnType = (some .boolean)) (b : Nat) (rc : Sg → Nat → Int32 → Int32 → Int32 → Option (Bool × Sg)) (hb : rdOK b) (hrc : ∀ (σ : Sg) (b : Nat) (p1 : Int32) (p2 : Int32) (p3 : Int32) (hb : rdOK b), ∀ r, rc σ b p1 p2 p3 = some r → Met X.l yX6_passTree (wsM yX6_passTree cX6_passTree 6 (some .boolean)) (rmX6_passTree d) (va_Pc [.ref (X.ad b), .int p1, .int p2, .int p3] (PW X σ)) (Qi X (b2i r.1) r.2) 0 0 X.A) (σ : Sg) (l3 : Int32) (l4 : Int32) (l5 : Int32) : GO X K 6 (fun r => MQi X K (b2i r.1) r.2) (fX6_passTree_84 b rc σ l3 l4 l5) σ 0 0 84 [some (.ref (X.ad b)), none, none, some (.int (l3)), some (.int (l4)), some (.int (l5))] [] := by
  unfold fX6_passTree_84
  refine g_iload (pc := 84) C dX6_passTree_84 rfl ?_
  refine g_iconst (pc := 86) (v := 2) C dX6_passTree_86 (by decide) ?_
  refine g_icmp_ne (pc := 87) (tgt := 99) C dX6_passTree_87 rfl ?_ ?_
  · refine g_aload_n (pc := 90) (i := 0) C dX6_passTree_90 rfl rfl ?_
    refine g_iload (pc := 91) C dX6_passTree_91 rfl ?_
    refine g_callVi (pc := 93) (As := [.int (l5)]) C (kX6_passTabs X σ b l5 hb) (blk hb 0 rfl) rfl q_51_15 q_51_16 q_51_17 q_2_4 q_51_18 ⟨rfl, hdX6_passTabs⟩ ⟨le_ab rfl, le_ab rfl, rfl, rfl⟩ ⟨Nat.zero_le _, Nat.zero_le _⟩ (Nat.le_of_ble_eq_true rfl) rfl rfl dX6_passTree_93 (fun r7 _ => ?_)
    refine g_goto (pc := 96) (tgt := 106) C dX6_passTree_96 rfl ?_
    exact g_zret (pc := 106) C hr dX6_passTree_106 rfl
  · refine g_aload_n (pc := 99) (i := 0) C dX6_passTree_99 rfl rfl ?_
    refine g_iload (pc := 100) C dX6_passTree_100 rfl ?_
    refine g_iload_n (pc := 102) (i := 3) C dX6_passTree_102 rfl rfl ?_
    refine g_callVi (pc := 103) (As := [.int (l5), .int (l3)]) C (kX6_passChildren X rc σ b l5 l3 hb hrc) (blk hb 0 rfl) rfl q_51_23 q_52_0 q_52_1 q_2_4 q_52_2 ⟨rfl, hdX6_passChildren⟩ ⟨by show 4 * d + 26 + 1 ≤ 4 * (d + 1) + 24; omega, by show 8 + (5 + 11) + (90 * d + 560) ≤ 90 * (d + 1) + 500; omega, rfl, rfl⟩ ⟨Nat.zero_le _, Nat.zero_le _⟩ (Nat.le_of_ble_eq_true rfl) rfl rfl dX6_passTree_103 (fun r8 _ => ?_)
    exact g_zret (pc := 106) C hr dX6_passTree_106 rfl
def fX6_passTree_35 (b : Nat) (rc : Sg → Nat → Int32 → Int32 → Int32 → Option (Bool × Sg)) (σ : Sg) (l1 : Int32) (l2 : Int32) (l3 : Int32) (s0 : Int32) : Option (Bool × Sg) :=
  (fX1_makeNode σ (b + 3) s0).bind fun r3 =>
  if l3 = 0 then
    (fX1_setRoot r3.2 (b + 3) 0 r3.1).bind fun σ4 =>
    (fX6_passTree_84 b rc σ4 l3 s0 r3.1)
  else
    (fX1_childCount r3.2 (b + 3) l1).bind fun r5 =>
    (fX1_attach r3.2 (b + 3) r3.1 l1 r5 l2).bind fun σ6 =>
    (fX6_passTree_84 b rc σ6 l3 s0 r3.1)
theorem bX6_passTree_35 {X : Xc} {K : Kc} {d : Nat} (C : MC X K cX6_passTree 6 RX6 (rmX6_passTree (d + 1))) (hr : K.meth.sig.returnType = (some .boolean)) (b : Nat) (rc : Sg → Nat → Int32 → Int32 → Int32 → Option (Bool × Sg)) (hb : rdOK b) (hrc : ∀ (σ : Sg) (b : Nat) (p1 : Int32) (p2 : Int32) (p3 : Int32) (hb : rdOK b), ∀ r, rc σ b p1 p2 p3 = some r → Met X.l yX6_passTree (wsM yX6_passTree cX6_passTree 6 (some .boolean)) (rmX6_passTree d) (va_Pc [.ref (X.ad b), .int p1, .int p2, .int p3] (PW X σ)) (Qi X (b2i r.1) r.2) 0 0 X.A) (σ : Sg) (l1 : Int32) (l2 : Int32) (l3 : Int32) (s0 : Int32) : GO X K 6 (fun r => MQi X K (b2i r.1) r.2) (fX6_passTree_35 b rc σ l1 l2 l3 s0) σ 0 0 35 [some (.ref (X.ad b)), some (.int (l1)), some (.int (l2)), some (.int (l3)), none, none] [.int (s0)] := by
  unfold fX6_passTree_35
  refine g_istore (pc := 35) C dX6_passTree_35 (Nat.le_of_ble_eq_true rfl) rfl ?_
  refine g_aload_n (pc := 37) (i := 0) C dX6_passTree_37 rfl rfl ?_
  refine g_getr (pc := 38) (ci := 6) (N := 4) (T := TX6) (j := 1) (Cn := RX6) (b + 3) C rfl inlX6 (Nat.le_of_ble_eq_true rfl) q_5_15 (blk hb 0 rfl) rfl dX6_passTree_38 ?_
  refine g_iload (pc := 41) C dX6_passTree_41 rfl ?_
  refine g_callVi (pc := 43) (As := [.int (s0)]) C (kX1_makeNode X σ (b + 3) s0 (rd_pl hb)) (blk (rd_pl hb) 0 rfl) rfl q_51_11 q_34_2 q_34_3 q_2_23 q_34_4 ⟨rfl, hdX1_makeNode⟩ ⟨le_ab rfl, le_ab rfl, rfl, rfl⟩ ⟨Nat.zero_le _, Nat.zero_le _⟩ (Nat.le_of_ble_eq_true rfl) rfl rfl dX6_passTree_43 (fun r3 _ => ?_)
  refine g_istore (pc := 46) C dX6_passTree_46 (Nat.le_of_ble_eq_true rfl) rfl ?_
  refine g_iload_n (pc := 48) (i := 3) C dX6_passTree_48 rfl rfl ?_
  refine g_if_ne (pc := 49) (tgt := 65) C dX6_passTree_49 rfl ?_ ?_
  · refine g_aload_n (pc := 52) (i := 0) C dX6_passTree_52 rfl rfl ?_
    refine g_getr (pc := 53) (ci := 6) (N := 4) (T := TX6) (j := 1) (Cn := RX6) (b + 3) C rfl inlX6 (Nat.le_of_ble_eq_true rfl) q_5_15 (blk hb 0 rfl) rfl dX6_passTree_53 ?_
    refine g_iconst (pc := 56) (v := 0) C dX6_passTree_56 (by decide) ?_
    refine g_iload (pc := 57) C dX6_passTree_57 rfl ?_
    refine g_callVv (pc := 59) (As := [.int (0), .int (r3.1)]) C (kX1_setRoot X r3.2 (b + 3) 0 r3.1 (rd_pl hb)) (blk (rd_pl hb) 0 rfl) rfl q_51_12 q_36_6 q_36_7 q_2_23 q_36_8 ⟨rfl, hdX1_setRoot⟩ ⟨le_ab rfl, le_ab rfl, rfl, rfl⟩ ⟨Nat.zero_le _, Nat.zero_le _⟩ (Nat.le_of_ble_eq_true rfl) rfl rfl dX6_passTree_59 (fun σ4 _ => ?_)
    refine g_goto (pc := 62) (tgt := 84) C dX6_passTree_62 rfl ?_
    refine g_keep [true, false, false, true, true, true] ?_
    exact bX6_passTree_84 C hr b rc hb hrc σ4 l3 s0 r3.1
  · refine g_aload_n (pc := 65) (i := 0) C dX6_passTree_65 rfl rfl ?_
    refine g_getr (pc := 66) (ci := 6) (N := 4) (T := TX6) (j := 1) (Cn := RX6) (b + 3) C rfl inlX6 (Nat.le_of_ble_eq_true rfl) q_5_15 (blk hb 0 rfl) rfl dX6_passTree_66 ?_
    refine g_iload (pc := 69) C dX6_passTree_69 rfl ?_
    refine g_iload_n (pc := 71) (i := 1) C dX6_passTree_71 rfl rfl ?_
    refine g_aload_n (pc := 72) (i := 0) C dX6_passTree_72 rfl rfl ?_
    refine g_getr (pc := 73) (ci := 6) (N := 4) (T := TX6) (j := 1) (Cn := RX6) (b + 3) C rfl inlX6 (Nat.le_of_ble_eq_true rfl) q_5_15 (blk hb 0 rfl) rfl dX6_passTree_73 ?_
    refine g_iload_n (pc := 76) (i := 1) C dX6_passTree_76 rfl rfl ?_
    refine g_callVi (pc := 77) (As := [.int (l1)]) C (kX1_childCount X r3.2 (b + 3) l1 (rd_pl hb)) (blk (rd_pl hb) 0 rfl) rfl q_51_13 q_14_9 q_14_10 q_2_23 q_14_11 ⟨rfl, hdX1_childCount⟩ ⟨le_ab rfl, le_ab rfl, rfl, rfl⟩ ⟨Nat.zero_le _, Nat.zero_le _⟩ (Nat.le_of_ble_eq_true rfl) rfl rfl dX6_passTree_77 (fun r5 _ => ?_)
    refine g_iload_n (pc := 80) (i := 2) C dX6_passTree_80 rfl rfl ?_
    refine g_callVv (pc := 81) (As := [.int (r3.1), .int (l1), .int (r5), .int (l2)]) C (kX1_attach X r3.2 (b + 3) r3.1 l1 r5 l2 (rd_pl hb)) (blk (rd_pl hb) 0 rfl) rfl q_51_14 q_34_6 q_34_7 q_2_23 q_34_8 ⟨rfl, hdX1_attach⟩ ⟨le_ab rfl, le_ab rfl, rfl, rfl⟩ ⟨Nat.zero_le _, Nat.zero_le _⟩ (Nat.le_of_ble_eq_true rfl) rfl rfl dX6_passTree_81 (fun σ6 _ => ?_)
    refine g_keep [true, false, false, true, true, true] ?_
    exact bX6_passTree_84 C hr b rc hb hrc σ6 l3 s0 r3.1
def gX6_passTree (rc : Sg → Nat → Int32 → Int32 → Int32 → Option (Bool × Sg)) (σ : Sg) (b : Nat) (p1 : Int32) (p2 : Int32) (p3 : Int32) : Option (Bool × Sg) :=
  if p3 ≤ 40 then
    (fX6_passSign σ b 72).bind fun r1 =>
    if r1.1 = true then
      (fX6_passTree_35 b rc r1.2 p1 p2 p3 0)
    else
      (fX6_passSign r1.2 b 86).bind fun r2 =>
      if r2.1 = true then
        (fX6_passTree_35 b rc r2.2 p1 p2 p3 1)
      else
        (fX6_passTree_35 b rc r2.2 p1 p2 p3 2)
  else
    some (false, σ)
theorem kgX6_passTree (X : Xc) {d : Nat} (rc : Sg → Nat → Int32 → Int32 → Int32 → Option (Bool × Sg)) (σ : Sg) (b : Nat) (p1 : Int32) (p2 : Int32) (p3 : Int32) (hb : rdOK b) (hrc : ∀ (σ : Sg) (b : Nat) (p1 : Int32) (p2 : Int32) (p3 : Int32) (hb : rdOK b), ∀ r, rc σ b p1 p2 p3 = some r → Met X.l yX6_passTree (wsM yX6_passTree cX6_passTree 6 (some .boolean)) (rmX6_passTree d) (va_Pc [.ref (X.ad b), .int p1, .int p2, .int p3] (PW X σ)) (Qi X (b2i r.1) r.2) 0 0 X.A) : ∀ r, gX6_passTree rc σ b p1 p2 p3 = some r → Met X.l yX6_passTree (wsM yX6_passTree cX6_passTree 6 (some .boolean)) (rmX6_passTree (d + 1)) (va_Pc [.ref (X.ad b), .int p1, .int p2, .int p3] (PW X σ)) (Qi X (b2i r.1) r.2) 0 0 X.A := by
  refine mt_of (own := RX6) (lo := [some (.ref (X.ad b)), some (.int (p1)), some (.int (p2)), some (.int (p3)), none, none]) (by decide) rfl (Nat.le_of_ble_eq_true rfl) rfl (fun K C hr => ?_)
  unfold gX6_passTree
  refine g_iload_n (pc := 0) (i := 3) C dX6_passTree_0 rfl rfl ?_
  refine g_bipush (pc := 1) (v := 40) C dX6_passTree_1 (by decide) ?_
  refine g_icmp_le (pc := 3) (tgt := 8) C dX6_passTree_3 rfl ?_ ?_
  · refine g_aload_n (pc := 8) (i := 0) C dX6_passTree_8 rfl rfl ?_
    refine g_bipush (pc := 9) (v := 72) C dX6_passTree_9 (by decide) ?_
    refine g_callVi (pc := 11) (As := [.int (72)]) C (kX6_passSign X σ b 72 hb) (blk hb 0 rfl) rfl q_51_3 q_51_4 q_51_5 q_2_4 q_51_6 ⟨rfl, hdX6_passSign⟩ ⟨le_ab rfl, le_ab rfl, rfl, rfl⟩ ⟨Nat.zero_le _, Nat.zero_le _⟩ (Nat.le_of_ble_eq_true rfl) rfl rfl dX6_passTree_11 (fun r1 _ => ?_)
    refine g_ifb_eq (pc := 14) (tgt := 21) C dX6_passTree_14 rfl ?_ ?_
    · refine g_iconst (pc := 17) (v := 0) C dX6_passTree_17 (by decide) ?_
      refine g_goto (pc := 18) (tgt := 35) C dX6_passTree_18 rfl ?_
      refine g_keep [true, true, true, true, false, false] ?_
      exact bX6_passTree_35 C hr b rc hb hrc r1.2 p1 p2 p3 0
    · refine g_aload_n (pc := 21) (i := 0) C dX6_passTree_21 rfl rfl ?_
      refine g_bipush (pc := 22) (v := 86) C dX6_passTree_22 (by decide) ?_
      refine g_callVi (pc := 24) (As := [.int (86)]) C (kX6_passSign X r1.2 b 86 hb) (blk hb 0 rfl) rfl q_51_3 q_51_4 q_51_5 q_2_4 q_51_6 ⟨rfl, hdX6_passSign⟩ ⟨le_ab rfl, le_ab rfl, rfl, rfl⟩ ⟨Nat.zero_le _, Nat.zero_le _⟩ (Nat.le_of_ble_eq_true rfl) rfl rfl dX6_passTree_24 (fun r2 _ => ?_)
      refine g_ifb_eq (pc := 27) (tgt := 34) C dX6_passTree_27 rfl ?_ ?_
      · refine g_iconst (pc := 30) (v := 1) C dX6_passTree_30 (by decide) ?_
        refine g_goto (pc := 31) (tgt := 35) C dX6_passTree_31 rfl ?_
        refine g_keep [true, true, true, true, false, false] ?_
        exact bX6_passTree_35 C hr b rc hb hrc r2.2 p1 p2 p3 1
      · refine g_iconst (pc := 34) (v := 2) C dX6_passTree_34 (by decide) ?_
        refine g_keep [true, true, true, true, false, false] ?_
        exact bX6_passTree_35 C hr b rc hb hrc r2.2 p1 p2 p3 2
  · refine g_iconst (pc := 6) (v := 0) C dX6_passTree_6 (by decide) ?_
    exact g_zret (pc := 7) C hr dX6_passTree_7 rfl
def fX6_passTree : Nat → Sg → Nat → Int32 → Int32 → Int32 → Option (Bool × Sg)
  | 0, _, _, _, _, _ => none
  | d + 1, σ, b, p1, p2, p3 => gX6_passTree (fX6_passTree d) σ b p1 p2 p3
theorem kX6_passTree (X : Xc) : ∀ (d : Nat) (σ : Sg) (b : Nat) (p1 : Int32) (p2 : Int32) (p3 : Int32) (hb : rdOK b), ∀ r, fX6_passTree d σ b p1 p2 p3 = some r → Met X.l yX6_passTree (wsM yX6_passTree cX6_passTree 6 (some .boolean)) (rmX6_passTree d) (va_Pc [.ref (X.ad b), .int p1, .int p2, .int p3] (PW X σ)) (Qi X (b2i r.1) r.2) 0 0 X.A
  | 0, _, _, _, _, _, _ => fun r h => by cases h
  | d + 1, σ, b, p1, p2, p3, hb => fun r h => kgX6_passTree X (d := d) (fX6_passTree d) σ b p1 p2 p3 hb (kX6_passTree X d) r h
theorem dX6_findFault_0 : decode cX6_findFault 0 = .ok (.aload_n 0, 1) := by decide +kernel
theorem dX6_findFault_1 : decode cX6_findFault 1 = .ok (.getfield 12, 3) := by decide +kernel
theorem dX6_findFault_4 : decode cX6_findFault 4 = .ok (.aload_n 2, 1) := by decide +kernel
theorem dX6_findFault_5 : decode cX6_findFault 5 = .ok (.invokevirtual 25, 3) := by decide +kernel
theorem dX6_findFault_8 : decode cX6_findFault 8 = .ok (.aload_n 0, 1) := by decide +kernel
theorem dX6_findFault_9 : decode cX6_findFault 9 = .ok (.getfield 21, 3) := by decide +kernel
theorem dX6_findFault_12 : decode cX6_findFault 12 = .ok (.aload_n 1, 1) := by decide +kernel
theorem dX6_findFault_13 : decode cX6_findFault 13 = .ok (.getfield 29, 3) := by decide +kernel
theorem dX6_findFault_16 : decode cX6_findFault 16 = .ok (.invokevirtual 32, 3) := by decide +kernel
theorem dX6_findFault_19 : decode cX6_findFault 19 = .ok (.aload_n 0, 1) := by decide +kernel
theorem dX6_findFault_20 : decode cX6_findFault 20 = .ok (.getfield 21, 3) := by decide +kernel
theorem dX6_findFault_23 : decode cX6_findFault 23 = .ok (.iconst 0, 1) := by decide +kernel
theorem dX6_findFault_24 : decode cX6_findFault 24 = .ok (.invokevirtual 35, 3) := by decide +kernel
theorem dX6_findFault_27 : decode cX6_findFault 27 = .ok (.aload_n 0, 1) := by decide +kernel
theorem dX6_findFault_28 : decode cX6_findFault 28 = .ok (.iconst 0, 1) := by decide +kernel
theorem dX6_findFault_29 : decode cX6_findFault 29 = .ok (.putfield 39, 3) := by decide +kernel
theorem dX6_findFault_32 : decode cX6_findFault 32 = .ok (.iconst 0, 1) := by decide +kernel
theorem dX6_findFault_33 : decode cX6_findFault 33 = .ok (.istore_n 3, 1) := by decide +kernel
theorem dX6_findFault_34 : decode cX6_findFault 34 = .ok (.iload_n 3, 1) := by decide +kernel
theorem dX6_findFault_35 : decode cX6_findFault 35 = .ok (.bipush 12, 2) := by decide +kernel
theorem dX6_findFault_37 : decode cX6_findFault 37 = .ok (.if_icmp .ge 41, 3) := by decide +kernel
theorem dX6_findFault_40 : decode cX6_findFault 40 = .ok (.aload_n 1, 1) := by decide +kernel
theorem dX6_findFault_41 : decode cX6_findFault 41 = .ok (.iload_n 3, 1) := by decide +kernel
theorem dX6_findFault_42 : decode cX6_findFault 42 = .ok (.invokevirtual 43, 3) := by decide +kernel
theorem dX6_findFault_45 : decode cX6_findFault 45 = .ok (.ifCond .eq 27, 3) := by decide +kernel
theorem dX6_findFault_48 : decode cX6_findFault 48 = .ok (.aload_n 0, 1) := by decide +kernel
theorem dX6_findFault_49 : decode cX6_findFault 49 = .ok (.getfield 21, 3) := by decide +kernel
theorem dX6_findFault_52 : decode cX6_findFault 52 = .ok (.iload_n 3, 1) := by decide +kernel
theorem dX6_findFault_53 : decode cX6_findFault 53 = .ok (.invokevirtual 47, 3) := by decide +kernel
theorem dX6_findFault_56 : decode cX6_findFault 56 = .ok (.iconst (-1), 1) := by decide +kernel
theorem dX6_findFault_57 : decode cX6_findFault 57 = .ok (.if_icmp .ne 15, 3) := by decide +kernel
theorem dX6_findFault_60 : decode cX6_findFault 60 = .ok (.aload_n 0, 1) := by decide +kernel
theorem dX6_findFault_61 : decode cX6_findFault 61 = .ok (.dup, 1) := by decide +kernel
theorem dX6_findFault_62 : decode cX6_findFault 62 = .ok (.getfield 39, 3) := by decide +kernel
theorem dX6_findFault_65 : decode cX6_findFault 65 = .ok (.iconst 1, 1) := by decide +kernel
theorem dX6_findFault_66 : decode cX6_findFault 66 = .ok (.iload_n 3, 1) := by decide +kernel
theorem dX6_findFault_67 : decode cX6_findFault 67 = .ok (.ishl, 1) := by decide +kernel
theorem dX6_findFault_68 : decode cX6_findFault 68 = .ok (.ior, 1) := by decide +kernel
theorem dX6_findFault_69 : decode cX6_findFault 69 = .ok (.putfield 39, 3) := by decide +kernel
theorem dX6_findFault_72 : decode cX6_findFault 72 = .ok (.iinc 3 1, 3) := by decide +kernel
theorem dX6_findFault_75 : decode cX6_findFault 75 = .ok (.goto (-41), 3) := by decide +kernel
theorem dX6_findFault_78 : decode cX6_findFault 78 = .ok (.aload_n 0, 1) := by decide +kernel
theorem dX6_findFault_79 : decode cX6_findFault 79 = .ok (.iconst 0, 1) := by decide +kernel
theorem dX6_findFault_80 : decode cX6_findFault 80 = .ok (.putfield 51, 3) := by decide +kernel
theorem dX6_findFault_83 : decode cX6_findFault 83 = .ok (.aload_n 0, 1) := by decide +kernel
theorem dX6_findFault_84 : decode cX6_findFault 84 = .ok (.iconst (-1), 1) := by decide +kernel
theorem dX6_findFault_85 : decode cX6_findFault 85 = .ok (.iconst 0, 1) := by decide +kernel
theorem dX6_findFault_86 : decode cX6_findFault 86 = .ok (.iconst 0, 1) := by decide +kernel
theorem dX6_findFault_87 : decode cX6_findFault 87 = .ok (.invokevirtual 54, 3) := by decide +kernel
theorem dX6_findFault_90 : decode cX6_findFault 90 = .ok (.istore_n 3, 1) := by decide +kernel
theorem dX6_findFault_91 : decode cX6_findFault 91 = .ok (.iload_n 3, 1) := by decide +kernel
theorem dX6_findFault_92 : decode cX6_findFault 92 = .ok (.ifCond .eq 21, 3) := by decide +kernel
theorem dX6_findFault_95 : decode cX6_findFault 95 = .ok (.aload_n 0, 1) := by decide +kernel
theorem dX6_findFault_96 : decode cX6_findFault 96 = .ok (.getfield 51, 3) := by decide +kernel
theorem dX6_findFault_99 : decode cX6_findFault 99 = .ok (.aload_n 0, 1) := by decide +kernel
theorem dX6_findFault_100 : decode cX6_findFault 100 = .ok (.getfield 12, 3) := by decide +kernel
theorem dX6_findFault_103 : decode cX6_findFault 103 = .ok (.invokevirtual 58, 3) := by decide +kernel
theorem dX6_findFault_106 : decode cX6_findFault 106 = .ok (.if_icmp .ne 7, 3) := by decide +kernel
theorem dX6_findFault_109 : decode cX6_findFault 109 = .ok (.iconst (-1), 1) := by decide +kernel
theorem dX6_findFault_110 : decode cX6_findFault 110 = .ok (.goto 7, 3) := by decide +kernel
theorem dX6_findFault_113 : decode cX6_findFault 113 = .ok (.aload_n 0, 1) := by decide +kernel
theorem dX6_findFault_114 : decode cX6_findFault 114 = .ok (.getfield 51, 3) := by decide +kernel
theorem dX6_findFault_117 : decode cX6_findFault 117 = .ok (.ireturn, 1) := by decide +kernel
abbrev rmX6_findFault : Room := { frames := 281, cells := 0, slots := 0, locals := 6285 }
theorem hdX6_findFault : yX6_findFault.cls ≠ "java/lang/invoke/MethodHandle" ∧ yX6_findFault.cls ≠ "java/lang/invoke/VarHandle" ∧ (parseMethodDescriptor yX6_findFault.desc).map (fun d => d.parameters.length) = some 2 := by decide +kernel
def fX6_findFault_113 (b : Nat) (c1 : Nat) (c2 : Nat) (σ : Sg) : Option (Int32 × Sg) :=
  some (σ.1 b 2, σ)
theorem bX6_findFault_113 {X : Xc} {K : Kc} (C : MC X K cX6_findFault 4 RX6 rmX6_findFault) (hr : K.meth.sig.returnType = (some .int)) (b : Nat) (c1 : Nat) (c2 : Nat) (hb : rdOK b) (h1 : stOK c1) (h2 : txOK c2) (σ : Sg) : GO X K 4 (fun r => MQi X K r.1 r.2) (fX6_findFault_113 b c1 c2 σ) σ 0 0 113 [some (.ref (X.ad b)), none, none, none] [] := by
  unfold fX6_findFault_113
  refine g_aload_n (pc := 113) (i := 0) C dX6_findFault_113 rfl rfl ?_
  refine g_geti (pc := 114) (ci := 6) (N := 4) (T := TX6) (j := 2) (Cn := RX6) C rfl inlX6 (Nat.le_of_ble_eq_true rfl) q_50_10 (blk hb 0 rfl) rfl dX6_findFault_114 ?_
  exact g_iret (pc := 117) C hr dX6_findFault_117 rfl
def fX6_findFault_72 (b : Nat) (c1 : Nat) (c2 : Nat) (k34 : Sg → Int32 → Option (Int32 × Sg)) (σ : Sg) (l3 : Int32) : Option (Int32 × Sg) :=
  (k34 σ (l3 + 1))
theorem bX6_findFault_72 {X : Xc} {K : Kc} (C : MC X K cX6_findFault 4 RX6 rmX6_findFault) (hr : K.meth.sig.returnType = (some .int)) (b : Nat) (c1 : Nat) (c2 : Nat) (hb : rdOK b) (h1 : stOK c1) (h2 : txOK c2){k34 : Sg → Int32 → Option (Int32 × Sg)} (hk34 : ∀ (σ : Sg) (l3 : Int32), GO X K 4 (fun r => MQi X K r.1 r.2) (k34 σ l3) σ 0 0 34 [some (.ref (X.ad b)), some (.ref (X.ad c1)), none, some (.int (l3))] []) (σ : Sg) (l3 : Int32) : GO X K 4 (fun r => MQi X K r.1 r.2) (fX6_findFault_72 b c1 c2 k34 σ l3) σ 0 0 72 [some (.ref (X.ad b)), some (.ref (X.ad c1)), none, some (.int (l3))] [] := by
  unfold fX6_findFault_72
  refine g_iinc (pc := 72) (v := l3 + 1) C dX6_findFault_72 rfl (rfl) (Nat.le_of_ble_eq_true rfl) rfl ?_
  refine g_goto (pc := 75) (tgt := 34) C dX6_findFault_75 rfl ?_
  refine g_keep [true, true, false, true] ?_
  exact hk34 σ (l3 + 1)
def fX6_findFault_34 (b : Nat) (c1 : Nat) (c2 : Nat) : Nat → Sg → Int32 → Option (Int32 × Sg)
  | 0, _, _ => none
  | n + 1, σ, l3 =>
    if 12 ≤ l3 then
      nm (su σ b 2 0) fun σ5 =>
      (fX6_passTree 64 σ5 b (-1) 0 0).bind fun r6 =>
      if r6.1 = true then
        (fX5_length r6.2 (b + 1)).bind fun r7 =>
        if (r6.2.1 b 2) = r7 then
          some ((-1), r6.2)
        else
          (fX6_findFault_113 b c1 c2 r6.2)
      else
        (fX6_findFault_113 b c1 c2 r6.2)
    else
      (fX4_exists σ c1 l3).bind fun r8 =>
      if r8 = true then
        (fX1_groupOf σ (b + 3) l3).bind fun r9 =>
        if r9 = (-1) then
          nm (su σ b 3 ((σ.1 b 3) ||| (1 <<< (l3 &&& 31)))) fun σ10 =>
          (fX6_findFault_72 b c1 c2 (fX6_findFault_34 b c1 c2 n) σ10 l3)
        else
          (fX6_findFault_72 b c1 c2 (fX6_findFault_34 b c1 c2 n) σ l3)
      else
        (fX6_findFault_72 b c1 c2 (fX6_findFault_34 b c1 c2 n) σ l3)
theorem bX6_findFault_34 {X : Xc} {K : Kc} (C : MC X K cX6_findFault 4 RX6 rmX6_findFault) (hr : K.meth.sig.returnType = (some .int)) (b : Nat) (c1 : Nat) (c2 : Nat) (hb : rdOK b) (h1 : stOK c1) (h2 : txOK c2) : ∀ (n : Nat) (σ : Sg) (l3 : Int32), GO X K 4 (fun r => MQi X K r.1 r.2) (fX6_findFault_34 b c1 c2 n σ l3) σ 0 0 34 [some (.ref (X.ad b)), some (.ref (X.ad c1)), none, some (.int (l3))] [] := by
  intro n
  induction n with
  | zero =>
    intro σ l3
    exact g_none
  | succ n ih =>
    intro σ l3
    unfold fX6_findFault_34
    refine g_iload_n (pc := 34) (i := 3) C dX6_findFault_34 rfl rfl ?_
    refine g_bipush (pc := 35) (v := 12) C dX6_findFault_35 (by decide) ?_
    refine g_icmp_ge (pc := 37) (tgt := 78) C dX6_findFault_37 rfl ?_ ?_
    · refine g_aload_n (pc := 78) (i := 0) C dX6_findFault_78 rfl rfl ?_
      refine g_iconst (pc := 79) (v := 0) C dX6_findFault_79 (by decide) ?_
      refine g_puti (pc := 80) (ci := 6) (N := 4) (T := TX6) (j := 2) (Cn := RX6) C rfl inlX6 tyX6_ok nmX6 (Nat.le_of_ble_eq_true rfl) q_50_10 (blk hb 0 rfl) rfl rfl rfl dX6_findFault_80 ?_
      refine g_nms (fun σ5 => ?_)
      refine g_aload_n (pc := 83) (i := 0) C dX6_findFault_83 rfl rfl ?_
      refine g_iconst (pc := 84) (v := (-1)) C dX6_findFault_84 (by decide) ?_
      refine g_iconst (pc := 85) (v := 0) C dX6_findFault_85 (by decide) ?_
      refine g_iconst (pc := 86) (v := 0) C dX6_findFault_86 (by decide) ?_
      refine g_callVi (pc := 87) (As := [.int ((-1)), .int (0), .int (0)]) C (kX6_passTree X 64 σ5 b (-1) 0 0 hb) (blk hb 0 rfl) rfl q_50_23 q_51_0 q_51_1 q_2_4 q_51_2 ⟨rfl, hdX6_passTree⟩ ⟨Nat.le_of_ble_eq_true rfl, Nat.le_of_ble_eq_true rfl, rfl, rfl⟩ ⟨Nat.zero_le _, Nat.zero_le _⟩ (Nat.le_of_ble_eq_true rfl) rfl rfl dX6_findFault_87 (fun r6 _ => ?_)
      refine g_istore_n (pc := 90) (i := 3) C dX6_findFault_90 rfl (Nat.le_of_ble_eq_true rfl) rfl ?_
      refine g_iload_n (pc := 91) (i := 3) C dX6_findFault_91 rfl rfl ?_
      refine g_ifb_eq (pc := 92) (tgt := 113) C dX6_findFault_92 rfl ?_ ?_
      · refine g_aload_n (pc := 95) (i := 0) C dX6_findFault_95 rfl rfl ?_
        refine g_geti (pc := 96) (ci := 6) (N := 4) (T := TX6) (j := 2) (Cn := RX6) C rfl inlX6 (Nat.le_of_ble_eq_true rfl) q_50_10 (blk hb 0 rfl) rfl dX6_findFault_96 ?_
        refine g_aload_n (pc := 99) (i := 0) C dX6_findFault_99 rfl rfl ?_
        refine g_getr (pc := 100) (ci := 6) (N := 4) (T := TX6) (j := 0) (Cn := RX6) (b + 1) C rfl inlX6 (Nat.le_of_ble_eq_true rfl) q_5_13 (blk hb 0 rfl) rfl dX6_findFault_100 ?_
        refine g_callVi (pc := 103) (As := []) C (kX5_length X r6.2 (b + 1) (rd_tx hb)) (blk (rd_tx hb) 0 rfl) rfl q_52_8 q_49_0 q_49_1 q_2_0 q_49_2 ⟨rfl, hdX5_length⟩ ⟨Nat.le_of_ble_eq_true rfl, Nat.le_of_ble_eq_true rfl, rfl, rfl⟩ ⟨Nat.zero_le _, Nat.zero_le _⟩ (Nat.le_of_ble_eq_true rfl) rfl rfl dX6_findFault_103 (fun r7 _ => ?_)
        refine g_icmp_ne (pc := 106) (tgt := 113) C dX6_findFault_106 rfl ?_ ?_
        · refine g_iconst (pc := 109) (v := (-1)) C dX6_findFault_109 (by decide) ?_
          refine g_goto (pc := 110) (tgt := 117) C dX6_findFault_110 rfl ?_
          exact g_iret (pc := 117) C hr dX6_findFault_117 rfl
        · refine g_keep [true, false, false, false] ?_
          exact bX6_findFault_113 C hr b c1 c2 hb h1 h2 r6.2
      · refine g_keep [true, false, false, false] ?_
        exact bX6_findFault_113 C hr b c1 c2 hb h1 h2 r6.2
    · refine g_aload_n (pc := 40) (i := 1) C dX6_findFault_40 rfl rfl ?_
      refine g_iload_n (pc := 41) (i := 3) C dX6_findFault_41 rfl rfl ?_
      refine g_callVi (pc := 42) (As := [.int (l3)]) C (kX4_exists X σ c1 l3 h1) (blk h1 0 rfl) rfl q_50_21 q_7_17 q_7_18 q_1_15 q_7_19 ⟨rfl, hdX4_exists⟩ ⟨Nat.le_of_ble_eq_true rfl, Nat.le_of_ble_eq_true rfl, rfl, rfl⟩ ⟨Nat.zero_le _, Nat.zero_le _⟩ (Nat.le_of_ble_eq_true rfl) rfl rfl dX6_findFault_42 (fun r8 _ => ?_)
      refine g_ifb_eq (pc := 45) (tgt := 72) C dX6_findFault_45 rfl ?_ ?_
      · refine g_aload_n (pc := 48) (i := 0) C dX6_findFault_48 rfl rfl ?_
        refine g_getr (pc := 49) (ci := 6) (N := 4) (T := TX6) (j := 1) (Cn := RX6) (b + 3) C rfl inlX6 (Nat.le_of_ble_eq_true rfl) q_5_15 (blk hb 0 rfl) rfl dX6_findFault_49 ?_
        refine g_iload_n (pc := 52) (i := 3) C dX6_findFault_52 rfl rfl ?_
        refine g_callVi (pc := 53) (As := [.int (l3)]) C (kX1_groupOf X σ (b + 3) l3 (rd_pl hb)) (blk (rd_pl hb) 0 rfl) rfl q_50_22 q_11_19 q_11_20 q_2_23 q_11_21 ⟨rfl, hdX1_groupOf⟩ ⟨Nat.le_of_ble_eq_true rfl, Nat.le_of_ble_eq_true rfl, rfl, rfl⟩ ⟨Nat.zero_le _, Nat.zero_le _⟩ (Nat.le_of_ble_eq_true rfl) rfl rfl dX6_findFault_53 (fun r9 _ => ?_)
        refine g_iconst (pc := 56) (v := (-1)) C dX6_findFault_56 (by decide) ?_
        refine g_icmp_ne (pc := 57) (tgt := 72) C dX6_findFault_57 rfl ?_ ?_
        · refine g_aload_n (pc := 60) (i := 0) C dX6_findFault_60 rfl rfl ?_
          refine g_dup (pc := 61) C dX6_findFault_61 rfl ?_
          refine g_geti (pc := 62) (ci := 6) (N := 4) (T := TX6) (j := 3) (Cn := RX6) C rfl inlX6 (Nat.le_of_ble_eq_true rfl) q_50_9 (blk hb 0 rfl) rfl dX6_findFault_62 ?_
          refine g_iconst (pc := 65) (v := 1) C dX6_findFault_65 (by decide) ?_
          refine g_iload_n (pc := 66) (i := 3) C dX6_findFault_66 rfl rfl ?_
          refine g_ishl (pc := 67) C dX6_findFault_67 ?_
          refine g_ior (pc := 68) C dX6_findFault_68 ?_
          refine g_puti (pc := 69) (ci := 6) (N := 4) (T := TX6) (j := 3) (Cn := RX6) C rfl inlX6 tyX6_ok nmX6 (Nat.le_of_ble_eq_true rfl) q_50_9 (blk hb 0 rfl) rfl rfl rfl dX6_findFault_69 ?_
          refine g_nms (fun σ10 => ?_)
          refine g_keep [true, true, false, true] ?_
          exact bX6_findFault_72 C hr b c1 c2 hb h1 h2 ih σ10 l3
        · refine g_keep [true, true, false, true] ?_
          exact bX6_findFault_72 C hr b c1 c2 hb h1 h2 ih σ l3
      · refine g_keep [true, true, false, true] ?_
        exact bX6_findFault_72 C hr b c1 c2 hb h1 h2 ih σ l3
def fX6_findFault (σ : Sg) (b : Nat) (c1 : Nat) (c2 : Nat) : Option (Int32 × Sg) :=
  (fX5_copyFrom σ (b + 1) c2).bind fun σ1 =>
  (fX1_copyFrom σ1 (b + 3) (c1 + 5)).bind fun σ2 =>
  (fX1_emptyWindow σ2 (b + 3) 0).bind fun σ3 =>
  nm (su σ3 b 3 0) fun σ4 =>
  (fX6_findFault_34 b c1 c2 FU σ4 0)
theorem kX6_findFault (X : Xc) (σ : Sg) (b : Nat) (c1 : Nat) (c2 : Nat) (hb : rdOK b) (h1 : stOK c1) (h2 : txOK c2) : ∀ r, fX6_findFault σ b c1 c2 = some r → Met X.l yX6_findFault (wsM yX6_findFault cX6_findFault 4 (some .int)) rmX6_findFault (va_Pc [.ref (X.ad b), .ref (X.ad c1), .ref (X.ad c2)] (PW X σ)) (Qi X r.1 r.2) 0 0 X.A := by
  refine mt_of (own := RX6) (lo := [some (.ref (X.ad b)), some (.ref (X.ad c1)), some (.ref (X.ad c2)), none]) (by decide) rfl (Nat.le_of_ble_eq_true rfl) rfl (fun K C hr => ?_)
  unfold fX6_findFault
  refine g_aload_n (pc := 0) (i := 0) C dX6_findFault_0 rfl rfl ?_
  refine g_getr (pc := 1) (ci := 6) (N := 4) (T := TX6) (j := 0) (Cn := RX6) (b + 1) C rfl inlX6 (Nat.le_of_ble_eq_true rfl) q_5_13 (blk hb 0 rfl) rfl dX6_findFault_1 ?_
  refine g_aload_n (pc := 4) (i := 2) C dX6_findFault_4 rfl rfl ?_
  refine g_callVv (pc := 5) (As := [.ref (X.ad c2)]) C (kX5_copyFrom X σ (b + 1) c2 (rd_tx hb) h2) (blk (rd_tx hb) 0 rfl) rfl q_50_11 q_50_12 q_50_13 q_2_0 q_50_14 ⟨rfl, hdX5_copyFrom⟩ ⟨Nat.le_of_ble_eq_true rfl, Nat.le_of_ble_eq_true rfl, rfl, rfl⟩ ⟨Nat.zero_le _, Nat.zero_le _⟩ (Nat.le_of_ble_eq_true rfl) rfl rfl dX6_findFault_5 (fun σ1 _ => ?_)
  refine g_aload_n (pc := 8) (i := 0) C dX6_findFault_8 rfl rfl ?_
  refine g_getr (pc := 9) (ci := 6) (N := 4) (T := TX6) (j := 1) (Cn := RX6) (b + 3) C rfl inlX6 (Nat.le_of_ble_eq_true rfl) q_5_15 (blk hb 0 rfl) rfl dX6_findFault_9 ?_
  refine g_aload_n (pc := 12) (i := 1) C dX6_findFault_12 rfl rfl ?_
  refine g_getNr (pc := 13) (ci := 4) (N := 7) (T := TX4) (j := 4) (Cn := RX4) (c1 + 5) C rfl inlX4 (Nat.le_of_ble_eq_true rfl) (List.mem_of_getElem? (i := 9) rfl) (blk h1 0 rfl) rfl dX6_findFault_13 ?_
  refine g_callVv (pc := 16) (As := [.ref (X.ad (c1 + 5))]) C (kX1_copyFrom X σ1 (b + 3) (c1 + 5) (rd_pl hb) (st_pl h1)) (blk (rd_pl hb) 0 rfl) rfl q_50_15 q_9_8 q_9_9 q_2_23 q_9_10 ⟨rfl, hdX1_copyFrom⟩ ⟨Nat.le_of_ble_eq_true rfl, Nat.le_of_ble_eq_true rfl, rfl, rfl⟩ ⟨Nat.zero_le _, Nat.zero_le _⟩ (Nat.le_of_ble_eq_true rfl) rfl rfl dX6_findFault_16 (fun σ2 _ => ?_)
  refine g_aload_n (pc := 19) (i := 0) C dX6_findFault_19 rfl rfl ?_
  refine g_getr (pc := 20) (ci := 6) (N := 4) (T := TX6) (j := 1) (Cn := RX6) (b + 3) C rfl inlX6 (Nat.le_of_ble_eq_true rfl) q_5_15 (blk hb 0 rfl) rfl dX6_findFault_20 ?_
  refine g_iconst (pc := 23) (v := 0) C dX6_findFault_23 (by decide) ?_
  refine g_callVv (pc := 24) (As := [.int (0)]) C (kX1_emptyWindow X σ2 (b + 3) 0 (rd_pl hb)) (blk (rd_pl hb) 0 rfl) rfl q_50_16 q_50_17 q_50_18 q_2_23 q_50_19 ⟨rfl, hdX1_emptyWindow⟩ ⟨Nat.le_of_ble_eq_true rfl, Nat.le_of_ble_eq_true rfl, rfl, rfl⟩ ⟨Nat.zero_le _, Nat.zero_le _⟩ (Nat.le_of_ble_eq_true rfl) rfl rfl dX6_findFault_24 (fun σ3 _ => ?_)
  refine g_aload_n (pc := 27) (i := 0) C dX6_findFault_27 rfl rfl ?_
  refine g_iconst (pc := 28) (v := 0) C dX6_findFault_28 (by decide) ?_
  refine g_puti (pc := 29) (ci := 6) (N := 4) (T := TX6) (j := 3) (Cn := RX6) C rfl inlX6 tyX6_ok nmX6 (Nat.le_of_ble_eq_true rfl) q_50_9 (blk hb 0 rfl) rfl rfl rfl dX6_findFault_29 ?_
  refine g_nms (fun σ4 => ?_)
  refine g_iconst (pc := 32) (v := 0) C dX6_findFault_32 (by decide) ?_
  refine g_istore_n (pc := 33) (i := 3) C dX6_findFault_33 rfl (Nat.le_of_ble_eq_true rfl) rfl ?_
  refine g_keep [true, true, false, true] ?_
  exact bX6_findFault_34 C hr b c1 c2 hb h1 h2 FU σ4 0
theorem dX7_putTabs_0 : decode cX7_putTabs 0 = .ok (.aload_n 1, 1) := by decide +kernel
theorem dX7_putTabs_1 : decode cX7_putTabs 1 = .ok (.iload_n 2, 1) := by decide +kernel
theorem dX7_putTabs_2 : decode cX7_putTabs 2 = .ok (.invokevirtual 55, 3) := by decide +kernel
theorem dX7_putTabs_5 : decode cX7_putTabs 5 = .ok (.istore_n 3, 1) := by decide +kernel
theorem dX7_putTabs_6 : decode cX7_putTabs 6 = .ok (.iconst 0, 1) := by decide +kernel
theorem dX7_putTabs_7 : decode cX7_putTabs 7 = .ok (.istore 4, 2) := by decide +kernel
theorem dX7_putTabs_9 : decode cX7_putTabs 9 = .ok (.iload 4, 2) := by decide +kernel
theorem dX7_putTabs_11 : decode cX7_putTabs 11 = .ok (.iload_n 3, 1) := by decide +kernel
theorem dX7_putTabs_12 : decode cX7_putTabs 12 = .ok (.if_icmp .ge 70, 3) := by decide +kernel
theorem dX7_putTabs_15 : decode cX7_putTabs 15 = .ok (.aload_n 1, 1) := by decide +kernel
theorem dX7_putTabs_16 : decode cX7_putTabs 16 = .ok (.iload_n 2, 1) := by decide +kernel
theorem dX7_putTabs_17 : decode cX7_putTabs 17 = .ok (.iload 4, 2) := by decide +kernel
theorem dX7_putTabs_19 : decode cX7_putTabs 19 = .ok (.invokevirtual 58, 3) := by decide +kernel
theorem dX7_putTabs_22 : decode cX7_putTabs 22 = .ok (.istore 5, 2) := by decide +kernel
theorem dX7_putTabs_24 : decode cX7_putTabs 24 = .ok (.aload_n 0, 1) := by decide +kernel
theorem dX7_putTabs_25 : decode cX7_putTabs 25 = .ok (.getfield 12, 3) := by decide +kernel
theorem dX7_putTabs_28 : decode cX7_putTabs 28 = .ok (.bipush 97, 2) := by decide +kernel
theorem dX7_putTabs_30 : decode cX7_putTabs 30 = .ok (.iload 5, 2) := by decide +kernel
theorem dX7_putTabs_32 : decode cX7_putTabs 32 = .ok (.iadd, 1) := by decide +kernel
theorem dX7_putTabs_33 : decode cX7_putTabs 33 = .ok (.invokevirtual 38, 3) := by decide +kernel
theorem dX7_putTabs_36 : decode cX7_putTabs 36 = .ok (.aload_n 1, 1) := by decide +kernel
theorem dX7_putTabs_37 : decode cX7_putTabs 37 = .ok (.iload 5, 2) := by decide +kernel
theorem dX7_putTabs_39 : decode cX7_putTabs 39 = .ok (.invokevirtual 61, 3) := by decide +kernel
theorem dX7_putTabs_42 : decode cX7_putTabs 42 = .ok (.ifCond .eq 15, 3) := by decide +kernel
theorem dX7_putTabs_45 : decode cX7_putTabs 45 = .ok (.aload_n 0, 1) := by decide +kernel
theorem dX7_putTabs_46 : decode cX7_putTabs 46 = .ok (.getfield 12, 3) := by decide +kernel
theorem dX7_putTabs_49 : decode cX7_putTabs 49 = .ok (.bipush 45, 2) := by decide +kernel
theorem dX7_putTabs_51 : decode cX7_putTabs 51 = .ok (.invokevirtual 38, 3) := by decide +kernel
theorem dX7_putTabs_54 : decode cX7_putTabs 54 = .ok (.goto 22, 3) := by decide +kernel
theorem dX7_putTabs_57 : decode cX7_putTabs 57 = .ok (.aload_n 1, 1) := by decide +kernel
theorem dX7_putTabs_58 : decode cX7_putTabs 58 = .ok (.iload_n 2, 1) := by decide +kernel
theorem dX7_putTabs_59 : decode cX7_putTabs 59 = .ok (.invokevirtual 65, 3) := by decide +kernel
theorem dX7_putTabs_62 : decode cX7_putTabs 62 = .ok (.iload 5, 2) := by decide +kernel
theorem dX7_putTabs_64 : decode cX7_putTabs 64 = .ok (.if_icmp .ne 12, 3) := by decide +kernel
theorem dX7_putTabs_67 : decode cX7_putTabs 67 = .ok (.aload_n 0, 1) := by decide +kernel
theorem dX7_putTabs_68 : decode cX7_putTabs 68 = .ok (.getfield 12, 3) := by decide +kernel
theorem dX7_putTabs_71 : decode cX7_putTabs 71 = .ok (.bipush 42, 2) := by decide +kernel
theorem dX7_putTabs_73 : decode cX7_putTabs 73 = .ok (.invokevirtual 38, 3) := by decide +kernel
theorem dX7_putTabs_76 : decode cX7_putTabs 76 = .ok (.iinc 4 1, 3) := by decide +kernel
theorem dX7_putTabs_79 : decode cX7_putTabs 79 = .ok (.goto (-70), 3) := by decide +kernel
theorem dX7_putTabs_82 : decode cX7_putTabs 82 = .ok (.return_, 1) := by decide +kernel
abbrev rmX7_putTabs : Room := { frames := 2, cells := 0, slots := 0, locals := 44 }
theorem hdX7_putTabs : yX7_putTabs.cls ≠ "java/lang/invoke/MethodHandle" ∧ yX7_putTabs.cls ≠ "java/lang/invoke/VarHandle" ∧ (parseMethodDescriptor yX7_putTabs.desc).map (fun d => d.parameters.length) = some 2 := by decide +kernel
def fX7_putTabs_76 (b : Nat) (c1 : Nat) (k9 : Sg → Int32 → Int32 → Int32 → Option Sg) (σ : Sg) (l2 : Int32) (l3 : Int32) (l4 : Int32) : Option Sg :=
  (k9 σ l2 l3 (l4 + 1))
theorem bX7_putTabs_76 {X : Xc} {K : Kc} (C : MC X K cX7_putTabs 6 RX7 rmX7_putTabs) (hr : K.meth.sig.returnType = none) (b : Nat) (c1 : Nat) (hb : wrOK b) (h1 : plOK c1){k9 : Sg → Int32 → Int32 → Int32 → Option Sg} (hk9 : ∀ (σ : Sg) (l2 : Int32) (l3 : Int32) (l4 : Int32), GO X K 6 (fun r => MQv X K r) (k9 σ l2 l3 l4) σ 0 0 9 [some (.ref (X.ad b)), some (.ref (X.ad c1)), some (.int (l2)), some (.int (l3)), some (.int (l4)), none] []) (σ : Sg) (l2 : Int32) (l3 : Int32) (l4 : Int32) : GO X K 6 (fun r => MQv X K r) (fX7_putTabs_76 b c1 k9 σ l2 l3 l4) σ 0 0 76 [some (.ref (X.ad b)), some (.ref (X.ad c1)), some (.int (l2)), some (.int (l3)), some (.int (l4)), none] [] := by
  unfold fX7_putTabs_76
  refine g_iinc (pc := 76) (v := l4 + 1) C dX7_putTabs_76 rfl (rfl) (Nat.le_of_ble_eq_true rfl) rfl ?_
  refine g_goto (pc := 79) (tgt := 9) C dX7_putTabs_79 rfl ?_
  refine g_keep [true, true, true, true, true, false] ?_
  exact hk9 σ l2 l3 (l4 + 1)
def fX7_putTabs_9 (b : Nat) (c1 : Nat) : Nat → Sg → Int32 → Int32 → Int32 → Option Sg
  | 0, _, _, _, _ => none
  | n + 1, σ, l2, l3, l4 =>
    if l3 ≤ l4 then
      some σ
    else
      (fX1_tabAt σ c1 l2 l4).bind fun r2 =>
      (fX5_append σ (b + 1) (97 + r2)).bind fun σ3 =>
      (fX1_isHidden σ3 c1 r2).bind fun r4 =>
      if r4 = true then
        (fX5_append σ3 (b + 1) 45).bind fun σ5 =>
        (fX7_putTabs_76 b c1 (fX7_putTabs_9 b c1 n) σ5 l2 l3 l4)
      else
        (fX1_activeOf σ3 c1 l2).bind fun r6 =>
        if r6 = r2 then
          (fX5_append σ3 (b + 1) 42).bind fun σ7 =>
          (fX7_putTabs_76 b c1 (fX7_putTabs_9 b c1 n) σ7 l2 l3 l4)
        else
          (fX7_putTabs_76 b c1 (fX7_putTabs_9 b c1 n) σ3 l2 l3 l4)
theorem bX7_putTabs_9 {X : Xc} {K : Kc} (C : MC X K cX7_putTabs 6 RX7 rmX7_putTabs) (hr : K.meth.sig.returnType = none) (b : Nat) (c1 : Nat) (hb : wrOK b) (h1 : plOK c1) : ∀ (n : Nat) (σ : Sg) (l2 : Int32) (l3 : Int32) (l4 : Int32), GO X K 6 (fun r => MQv X K r) (fX7_putTabs_9 b c1 n σ l2 l3 l4) σ 0 0 9 [some (.ref (X.ad b)), some (.ref (X.ad c1)), some (.int (l2)), some (.int (l3)), some (.int (l4)), none] [] := by
  intro n
  induction n with
  | zero =>
    intro σ l2 l3 l4
    exact g_none
  | succ n ih =>
    intro σ l2 l3 l4
    unfold fX7_putTabs_9
    refine g_iload (pc := 9) C dX7_putTabs_9 rfl ?_
    refine g_iload_n (pc := 11) (i := 3) C dX7_putTabs_11 rfl rfl ?_
    refine g_icmp_ge (pc := 12) (tgt := 82) C dX7_putTabs_12 rfl ?_ ?_
    · exact g_vret (pc := 82) C hr dX7_putTabs_82 rfl
    · refine g_aload_n (pc := 15) (i := 1) C dX7_putTabs_15 rfl rfl ?_
      refine g_iload_n (pc := 16) (i := 2) C dX7_putTabs_16 rfl rfl ?_
      refine g_iload (pc := 17) C dX7_putTabs_17 rfl ?_
      refine g_callVi (pc := 19) (As := [.int (l2), .int (l4)]) C (kX1_tabAt X σ c1 l2 l4 h1) (blk h1 0 rfl) rfl q_55_19 q_12_13 q_12_14 q_2_23 q_12_15 ⟨rfl, hdX1_tabAt⟩ ⟨Nat.le_of_ble_eq_true rfl, Nat.le_of_ble_eq_true rfl, rfl, rfl⟩ ⟨Nat.zero_le _, Nat.zero_le _⟩ (Nat.le_of_ble_eq_true rfl) rfl rfl dX7_putTabs_19 (fun r2 _ => ?_)
      refine g_istore (pc := 22) C dX7_putTabs_22 (Nat.le_of_ble_eq_true rfl) rfl ?_
      refine g_aload_n (pc := 24) (i := 0) C dX7_putTabs_24 rfl rfl ?_
      refine g_getr (pc := 25) (ci := 7) (N := 1) (T := TX7) (j := 0) (Cn := RX7) (b + 1) C rfl inlX7 (Nat.le_of_ble_eq_true rfl) q_5_21 (blk hb 0 rfl) rfl dX7_putTabs_25 ?_
      refine g_bipush (pc := 28) (v := 97) C dX7_putTabs_28 (by decide) ?_
      refine g_iload (pc := 30) C dX7_putTabs_30 rfl ?_
      refine g_iadd (pc := 32) C dX7_putTabs_32 ?_
      refine g_callVv (pc := 33) (As := [.int (97 + r2)]) C (kX5_append X σ (b + 1) (97 + r2) (wr_tx hb)) (blk (wr_tx hb) 0 rfl) rfl q_55_20 q_49_5 q_49_6 q_2_0 q_49_7 ⟨rfl, hdX5_append⟩ ⟨Nat.le_of_ble_eq_true rfl, Nat.le_of_ble_eq_true rfl, rfl, rfl⟩ ⟨Nat.zero_le _, Nat.zero_le _⟩ (Nat.le_of_ble_eq_true rfl) rfl rfl dX7_putTabs_33 (fun σ3 _ => ?_)
      refine g_aload_n (pc := 36) (i := 1) C dX7_putTabs_36 rfl rfl ?_
      refine g_iload (pc := 37) C dX7_putTabs_37 rfl ?_
      refine g_callVi (pc := 39) (As := [.int (r2)]) C (kX1_isHidden X σ3 c1 r2 h1) (blk h1 0 rfl) rfl q_55_21 q_12_17 q_12_18 q_2_23 q_12_19 ⟨rfl, hdX1_isHidden⟩ ⟨Nat.le_of_ble_eq_true rfl, Nat.le_of_ble_eq_true rfl, rfl, rfl⟩ ⟨Nat.zero_le _, Nat.zero_le _⟩ (Nat.le_of_ble_eq_true rfl) rfl rfl dX7_putTabs_39 (fun r4 _ => ?_)
      refine g_ifb_eq (pc := 42) (tgt := 57) C dX7_putTabs_42 rfl ?_ ?_
      · refine g_aload_n (pc := 45) (i := 0) C dX7_putTabs_45 rfl rfl ?_
        refine g_getr (pc := 46) (ci := 7) (N := 1) (T := TX7) (j := 0) (Cn := RX7) (b + 1) C rfl inlX7 (Nat.le_of_ble_eq_true rfl) q_5_21 (blk hb 0 rfl) rfl dX7_putTabs_46 ?_
        refine g_bipush (pc := 49) (v := 45) C dX7_putTabs_49 (by decide) ?_
        refine g_callVv (pc := 51) (As := [.int (45)]) C (kX5_append X σ3 (b + 1) 45 (wr_tx hb)) (blk (wr_tx hb) 0 rfl) rfl q_55_20 q_49_5 q_49_6 q_2_0 q_49_7 ⟨rfl, hdX5_append⟩ ⟨Nat.le_of_ble_eq_true rfl, Nat.le_of_ble_eq_true rfl, rfl, rfl⟩ ⟨Nat.zero_le _, Nat.zero_le _⟩ (Nat.le_of_ble_eq_true rfl) rfl rfl dX7_putTabs_51 (fun σ5 _ => ?_)
        refine g_goto (pc := 54) (tgt := 76) C dX7_putTabs_54 rfl ?_
        refine g_keep [true, true, true, true, true, false] ?_
        exact bX7_putTabs_76 C hr b c1 hb h1 ih σ5 l2 l3 l4
      · refine g_aload_n (pc := 57) (i := 1) C dX7_putTabs_57 rfl rfl ?_
        refine g_iload_n (pc := 58) (i := 2) C dX7_putTabs_58 rfl rfl ?_
        refine g_callVi (pc := 59) (As := [.int (l2)]) C (kX1_activeOf X σ3 c1 l2 h1) (blk h1 0 rfl) rfl q_55_22 q_24_22 q_24_23 q_2_23 q_25_0 ⟨rfl, hdX1_activeOf⟩ ⟨Nat.le_of_ble_eq_true rfl, Nat.le_of_ble_eq_true rfl, rfl, rfl⟩ ⟨Nat.zero_le _, Nat.zero_le _⟩ (Nat.le_of_ble_eq_true rfl) rfl rfl dX7_putTabs_59 (fun r6 _ => ?_)
        refine g_iload (pc := 62) C dX7_putTabs_62 rfl ?_
        refine g_icmp_ne (pc := 64) (tgt := 76) C dX7_putTabs_64 rfl ?_ ?_
        · refine g_aload_n (pc := 67) (i := 0) C dX7_putTabs_67 rfl rfl ?_
          refine g_getr (pc := 68) (ci := 7) (N := 1) (T := TX7) (j := 0) (Cn := RX7) (b + 1) C rfl inlX7 (Nat.le_of_ble_eq_true rfl) q_5_21 (blk hb 0 rfl) rfl dX7_putTabs_68 ?_
          refine g_bipush (pc := 71) (v := 42) C dX7_putTabs_71 (by decide) ?_
          refine g_callVv (pc := 73) (As := [.int (42)]) C (kX5_append X σ3 (b + 1) 42 (wr_tx hb)) (blk (wr_tx hb) 0 rfl) rfl q_55_20 q_49_5 q_49_6 q_2_0 q_49_7 ⟨rfl, hdX5_append⟩ ⟨Nat.le_of_ble_eq_true rfl, Nat.le_of_ble_eq_true rfl, rfl, rfl⟩ ⟨Nat.zero_le _, Nat.zero_le _⟩ (Nat.le_of_ble_eq_true rfl) rfl rfl dX7_putTabs_73 (fun σ7 _ => ?_)
          refine g_keep [true, true, true, true, true, false] ?_
          exact bX7_putTabs_76 C hr b c1 hb h1 ih σ7 l2 l3 l4
        · refine g_keep [true, true, true, true, true, false] ?_
          exact bX7_putTabs_76 C hr b c1 hb h1 ih σ3 l2 l3 l4
def fX7_putTabs (σ : Sg) (b : Nat) (c1 : Nat) (p2 : Int32) : Option Sg :=
  (fX1_tabCount σ c1 p2).bind fun r1 =>
  (fX7_putTabs_9 b c1 FU σ p2 r1 0)
theorem kX7_putTabs (X : Xc) (σ : Sg) (b : Nat) (c1 : Nat) (p2 : Int32) (hb : wrOK b) (h1 : plOK c1) : ∀ r, fX7_putTabs σ b c1 p2 = some r → Met X.l yX7_putTabs (wsM yX7_putTabs cX7_putTabs 6 none) rmX7_putTabs (va_Pc [.ref (X.ad b), .ref (X.ad c1), .int p2] (PW X σ)) (Qv X r) 0 0 X.A := by
  refine mt_of (own := RX7) (lo := [some (.ref (X.ad b)), some (.ref (X.ad c1)), some (.int (p2)), none, none, none]) (by decide) rfl (Nat.le_of_ble_eq_true rfl) rfl (fun K C hr => ?_)
  unfold fX7_putTabs
  refine g_aload_n (pc := 0) (i := 1) C dX7_putTabs_0 rfl rfl ?_
  refine g_iload_n (pc := 1) (i := 2) C dX7_putTabs_1 rfl rfl ?_
  refine g_callVi (pc := 2) (As := [.int (p2)]) C (kX1_tabCount X σ c1 p2 h1) (blk h1 0 rfl) rfl q_55_18 q_12_21 q_12_22 q_2_23 q_12_23 ⟨rfl, hdX1_tabCount⟩ ⟨Nat.le_of_ble_eq_true rfl, Nat.le_of_ble_eq_true rfl, rfl, rfl⟩ ⟨Nat.zero_le _, Nat.zero_le _⟩ (Nat.le_of_ble_eq_true rfl) rfl rfl dX7_putTabs_2 (fun r1 _ => ?_)
  refine g_istore_n (pc := 5) (i := 3) C dX7_putTabs_5 rfl (Nat.le_of_ble_eq_true rfl) rfl ?_
  refine g_iconst (pc := 6) (v := 0) C dX7_putTabs_6 (by decide) ?_
  refine g_istore (pc := 7) C dX7_putTabs_7 (Nat.le_of_ble_eq_true rfl) rfl ?_
  refine g_keep [true, true, true, true, true, false] ?_
  exact bX7_putTabs_9 C hr b c1 hb h1 FU σ p2 r1 0
theorem dX7_putNumber_0 : decode cX7_putNumber 0 = .ok (.ldc 68, 2) := by decide +kernel
theorem dX7_putNumber_2 : decode cX7_putNumber 2 = .ok (.istore_n 2, 1) := by decide +kernel
theorem dX7_putNumber_3 : decode cX7_putNumber 3 = .ok (.iload_n 2, 1) := by decide +kernel
theorem dX7_putNumber_4 : decode cX7_putNumber 4 = .ok (.ifCond .le 32, 3) := by decide +kernel
theorem dX7_putNumber_7 : decode cX7_putNumber 7 = .ok (.iload_n 1, 1) := by decide +kernel
theorem dX7_putNumber_8 : decode cX7_putNumber 8 = .ok (.iload_n 2, 1) := by decide +kernel
theorem dX7_putNumber_9 : decode cX7_putNumber 9 = .ok (.if_icmp .lt 19, 3) := by decide +kernel
theorem dX7_putNumber_12 : decode cX7_putNumber 12 = .ok (.aload_n 0, 1) := by decide +kernel
theorem dX7_putNumber_13 : decode cX7_putNumber 13 = .ok (.getfield 12, 3) := by decide +kernel
theorem dX7_putNumber_16 : decode cX7_putNumber 16 = .ok (.bipush 48, 2) := by decide +kernel
theorem dX7_putNumber_18 : decode cX7_putNumber 18 = .ok (.iload_n 1, 1) := by decide +kernel
theorem dX7_putNumber_19 : decode cX7_putNumber 19 = .ok (.iload_n 2, 1) := by decide +kernel
theorem dX7_putNumber_20 : decode cX7_putNumber 20 = .ok (.idiv, 1) := by decide +kernel
theorem dX7_putNumber_21 : decode cX7_putNumber 21 = .ok (.bipush 10, 2) := by decide +kernel
theorem dX7_putNumber_23 : decode cX7_putNumber 23 = .ok (.irem, 1) := by decide +kernel
theorem dX7_putNumber_24 : decode cX7_putNumber 24 = .ok (.iadd, 1) := by decide +kernel
theorem dX7_putNumber_25 : decode cX7_putNumber 25 = .ok (.invokevirtual 38, 3) := by decide +kernel
theorem dX7_putNumber_28 : decode cX7_putNumber 28 = .ok (.iload_n 2, 1) := by decide +kernel
theorem dX7_putNumber_29 : decode cX7_putNumber 29 = .ok (.bipush 10, 2) := by decide +kernel
theorem dX7_putNumber_31 : decode cX7_putNumber 31 = .ok (.idiv, 1) := by decide +kernel
theorem dX7_putNumber_32 : decode cX7_putNumber 32 = .ok (.istore_n 2, 1) := by decide +kernel
theorem dX7_putNumber_33 : decode cX7_putNumber 33 = .ok (.goto (-30), 3) := by decide +kernel
theorem dX7_putNumber_36 : decode cX7_putNumber 36 = .ok (.return_, 1) := by decide +kernel
abbrev rmX7_putNumber : Room := { frames := 2, cells := 0, slots := 0, locals := 43 }
theorem hdX7_putNumber : yX7_putNumber.cls ≠ "java/lang/invoke/MethodHandle" ∧ yX7_putNumber.cls ≠ "java/lang/invoke/VarHandle" ∧ (parseMethodDescriptor yX7_putNumber.desc).map (fun d => d.parameters.length) = some 1 := by decide +kernel
def fX7_putNumber_28 (b : Nat) (k3 : Sg → Int32 → Int32 → Option Sg) (σ : Sg) (l1 : Int32) (l2 : Int32) : Option Sg :=
  nm (l2 / 10) fun v2 =>
  (k3 σ l1 v2)
theorem bX7_putNumber_28 {X : Xc} {K : Kc} (C : MC X K cX7_putNumber 3 RX7 rmX7_putNumber) (hr : K.meth.sig.returnType = none) (b : Nat) (hb : wrOK b){k3 : Sg → Int32 → Int32 → Option Sg} (hk3 : ∀ (σ : Sg) (l1 : Int32) (l2 : Int32), GO X K 3 (fun r => MQv X K r) (k3 σ l1 l2) σ 0 0 3 [some (.ref (X.ad b)), some (.int (l1)), some (.int (l2))] []) (σ : Sg) (l1 : Int32) (l2 : Int32) : GO X K 3 (fun r => MQv X K r) (fX7_putNumber_28 b k3 σ l1 l2) σ 0 0 28 [some (.ref (X.ad b)), some (.int (l1)), some (.int (l2))] [] := by
  unfold fX7_putNumber_28
  refine g_iload_n (pc := 28) (i := 2) C dX7_putNumber_28 rfl rfl ?_
  refine g_bipush (pc := 29) (v := 10) C dX7_putNumber_29 (by decide) ?_
  refine g_idivc (pc := 31) C dX7_putNumber_31 (by decide) ?_
  refine g_nm (fun v2 => ?_)
  refine g_istore_n (pc := 32) (i := 2) C dX7_putNumber_32 rfl (Nat.le_of_ble_eq_true rfl) rfl ?_
  refine g_goto (pc := 33) (tgt := 3) C dX7_putNumber_33 rfl ?_
  refine g_keep [true, true, true] ?_
  exact hk3 σ l1 v2
def fX7_putNumber_3 (b : Nat) : Nat → Sg → Int32 → Int32 → Option Sg
  | 0, _, _, _ => none
  | n + 1, σ, l1, l2 =>
    if l2 ≤ 0 then
      some σ
    else
      if l1 < l2 then
        (fX7_putNumber_28 b (fX7_putNumber_3 b n) σ l1 l2)
      else
        if l2 = 0 then none else
        (fX5_append σ (b + 1) (48 + ((l1 / l2) - (l1 / l2) / 10 * 10))).bind fun σ1 =>
        (fX7_putNumber_28 b (fX7_putNumber_3 b n) σ1 l1 l2)
theorem bX7_putNumber_3 {X : Xc} {K : Kc} (C : MC X K cX7_putNumber 3 RX7 rmX7_putNumber) (hr : K.meth.sig.returnType = none) (b : Nat) (hb : wrOK b) : ∀ (n : Nat) (σ : Sg) (l1 : Int32) (l2 : Int32), GO X K 3 (fun r => MQv X K r) (fX7_putNumber_3 b n σ l1 l2) σ 0 0 3 [some (.ref (X.ad b)), some (.int (l1)), some (.int (l2))] [] := by
  intro n
  induction n with
  | zero =>
    intro σ l1 l2
    exact g_none
  | succ n ih =>
    intro σ l1 l2
    unfold fX7_putNumber_3
    refine g_iload_n (pc := 3) (i := 2) C dX7_putNumber_3 rfl rfl ?_
    refine g_if_le (pc := 4) (tgt := 36) C dX7_putNumber_4 rfl ?_ ?_
    · exact g_vret (pc := 36) C hr dX7_putNumber_36 rfl
    · refine g_iload_n (pc := 7) (i := 1) C dX7_putNumber_7 rfl rfl ?_
      refine g_iload_n (pc := 8) (i := 2) C dX7_putNumber_8 rfl rfl ?_
      refine g_icmp_lt (pc := 9) (tgt := 28) C dX7_putNumber_9 rfl ?_ ?_
      · refine g_keep [true, true, true] ?_
        exact bX7_putNumber_28 C hr b hb ih σ l1 l2
      · refine g_aload_n (pc := 12) (i := 0) C dX7_putNumber_12 rfl rfl ?_
        refine g_getr (pc := 13) (ci := 7) (N := 1) (T := TX7) (j := 0) (Cn := RX7) (b + 1) C rfl inlX7 (Nat.le_of_ble_eq_true rfl) q_5_21 (blk hb 0 rfl) rfl dX7_putNumber_13 ?_
        refine g_bipush (pc := 16) (v := 48) C dX7_putNumber_16 (by decide) ?_
        refine g_iload_n (pc := 18) (i := 1) C dX7_putNumber_18 rfl rfl ?_
        refine g_iload_n (pc := 19) (i := 2) C dX7_putNumber_19 rfl rfl ?_
        refine g_idiv (pc := 20) C dX7_putNumber_20 ?_
        refine g_bipush (pc := 21) (v := 10) C dX7_putNumber_21 (by decide) ?_
        refine g_iremc (pc := 23) C dX7_putNumber_23 (by decide) ?_
        refine g_iadd (pc := 24) C dX7_putNumber_24 ?_
        refine g_callVv (pc := 25) (As := [.int (48 + ((l1 / l2) - (l1 / l2) / 10 * 10))]) C (kX5_append X σ (b + 1) (48 + ((l1 / l2) - (l1 / l2) / 10 * 10)) (wr_tx hb)) (blk (wr_tx hb) 0 rfl) rfl q_55_20 q_49_5 q_49_6 q_2_0 q_49_7 ⟨rfl, hdX5_append⟩ ⟨Nat.le_of_ble_eq_true rfl, Nat.le_of_ble_eq_true rfl, rfl, rfl⟩ ⟨Nat.zero_le _, Nat.zero_le _⟩ (Nat.le_of_ble_eq_true rfl) rfl rfl dX7_putNumber_25 (fun σ1 _ => ?_)
        refine g_keep [true, true, true] ?_
        exact bX7_putNumber_28 C hr b hb ih σ1 l1 l2
def fX7_putNumber (σ : Sg) (b : Nat) (p1 : Int32) : Option Sg :=
  (fX7_putNumber_3 b FU σ p1 1000000)
theorem kX7_putNumber (X : Xc) (σ : Sg) (b : Nat) (p1 : Int32) (hb : wrOK b) : ∀ r, fX7_putNumber σ b p1 = some r → Met X.l yX7_putNumber (wsM yX7_putNumber cX7_putNumber 3 none) rmX7_putNumber (va_Pc [.ref (X.ad b), .int p1] (PW X σ)) (Qv X r) 0 0 X.A := by
  refine mt_of (own := RX7) (lo := [some (.ref (X.ad b)), some (.int (p1)), none]) (by decide) rfl (Nat.le_of_ble_eq_true rfl) rfl (fun K C hr => ?_)
  unfold fX7_putNumber
  refine g_ldc (pc := 0) (v := 1000000) C q_56_6 dX7_putNumber_0 ?_
  refine g_istore_n (pc := 2) (i := 2) C dX7_putNumber_2 rfl (Nat.le_of_ble_eq_true rfl) rfl ?_
  refine g_keep [true, true, true] ?_
  exact bX7_putNumber_3 C hr b hb FU σ p1 1000000
theorem dX7_putTree_0 : decode cX7_putTree 0 = .ok (.iload_n 3, 1) := by decide +kernel
theorem dX7_putTree_1 : decode cX7_putTree 1 = .ok (.bipush 40, 2) := by decide +kernel
theorem dX7_putTree_3 : decode cX7_putTree 3 = .ok (.if_icmp .le 4, 3) := by decide +kernel
theorem dX7_putTree_6 : decode cX7_putTree 6 = .ok (.return_, 1) := by decide +kernel
theorem dX7_putTree_7 : decode cX7_putTree 7 = .ok (.aload_n 1, 1) := by decide +kernel
theorem dX7_putTree_8 : decode cX7_putTree 8 = .ok (.iload_n 2, 1) := by decide +kernel
theorem dX7_putTree_9 : decode cX7_putTree 9 = .ok (.invokevirtual 31, 3) := by decide +kernel
theorem dX7_putTree_12 : decode cX7_putTree 12 = .ok (.iconst 2, 1) := by decide +kernel
theorem dX7_putTree_13 : decode cX7_putTree 13 = .ok (.if_icmp .ne 10, 3) := by decide +kernel
theorem dX7_putTree_16 : decode cX7_putTree 16 = .ok (.aload_n 0, 1) := by decide +kernel
theorem dX7_putTree_17 : decode cX7_putTree 17 = .ok (.aload_n 1, 1) := by decide +kernel
theorem dX7_putTree_18 : decode cX7_putTree 18 = .ok (.iload_n 2, 1) := by decide +kernel
theorem dX7_putTree_19 : decode cX7_putTree 19 = .ok (.invokevirtual 34, 3) := by decide +kernel
theorem dX7_putTree_22 : decode cX7_putTree 22 = .ok (.return_, 1) := by decide +kernel
theorem dX7_putTree_23 : decode cX7_putTree 23 = .ok (.aload_n 0, 1) := by decide +kernel
theorem dX7_putTree_24 : decode cX7_putTree 24 = .ok (.getfield 12, 3) := by decide +kernel
theorem dX7_putTree_27 : decode cX7_putTree 27 = .ok (.aload_n 1, 1) := by decide +kernel
theorem dX7_putTree_28 : decode cX7_putTree 28 = .ok (.iload_n 2, 1) := by decide +kernel
theorem dX7_putTree_29 : decode cX7_putTree 29 = .ok (.invokevirtual 31, 3) := by decide +kernel
theorem dX7_putTree_32 : decode cX7_putTree 32 = .ok (.ifCond .ne 8, 3) := by decide +kernel
theorem dX7_putTree_35 : decode cX7_putTree 35 = .ok (.bipush 72, 2) := by decide +kernel
theorem dX7_putTree_37 : decode cX7_putTree 37 = .ok (.goto 5, 3) := by decide +kernel
theorem dX7_putTree_40 : decode cX7_putTree 40 = .ok (.bipush 86, 2) := by decide +kernel
theorem dX7_putTree_42 : decode cX7_putTree 42 = .ok (.invokevirtual 38, 3) := by decide +kernel
theorem dX7_putTree_45 : decode cX7_putTree 45 = .ok (.aload_n 1, 1) := by decide +kernel
theorem dX7_putTree_46 : decode cX7_putTree 46 = .ok (.iload_n 2, 1) := by decide +kernel
theorem dX7_putTree_47 : decode cX7_putTree 47 = .ok (.invokevirtual 42, 3) := by decide +kernel
theorem dX7_putTree_50 : decode cX7_putTree 50 = .ok (.istore 4, 2) := by decide +kernel
theorem dX7_putTree_52 : decode cX7_putTree 52 = .ok (.iconst 0, 1) := by decide +kernel
theorem dX7_putTree_53 : decode cX7_putTree 53 = .ok (.istore 5, 2) := by decide +kernel
theorem dX7_putTree_55 : decode cX7_putTree 55 = .ok (.iload 5, 2) := by decide +kernel
theorem dX7_putTree_57 : decode cX7_putTree 57 = .ok (.iload 4, 2) := by decide +kernel
theorem dX7_putTree_59 : decode cX7_putTree 59 = .ok (.if_icmp .ge 66, 3) := by decide +kernel
theorem dX7_putTree_62 : decode cX7_putTree 62 = .ok (.aload_n 1, 1) := by decide +kernel
theorem dX7_putTree_63 : decode cX7_putTree 63 = .ok (.iload_n 2, 1) := by decide +kernel
theorem dX7_putTree_64 : decode cX7_putTree 64 = .ok (.iload 5, 2) := by decide +kernel
theorem dX7_putTree_66 : decode cX7_putTree 66 = .ok (.invokevirtual 45, 3) := by decide +kernel
theorem dX7_putTree_69 : decode cX7_putTree 69 = .ok (.istore 6, 2) := by decide +kernel
theorem dX7_putTree_71 : decode cX7_putTree 71 = .ok (.aload_n 0, 1) := by decide +kernel
theorem dX7_putTree_72 : decode cX7_putTree 72 = .ok (.getfield 12, 3) := by decide +kernel
theorem dX7_putTree_75 : decode cX7_putTree 75 = .ok (.iload 5, 2) := by decide +kernel
theorem dX7_putTree_77 : decode cX7_putTree 77 = .ok (.ifCond .ne 8, 3) := by decide +kernel
theorem dX7_putTree_80 : decode cX7_putTree 80 = .ok (.bipush 40, 2) := by decide +kernel
theorem dX7_putTree_82 : decode cX7_putTree 82 = .ok (.goto 5, 3) := by decide +kernel
theorem dX7_putTree_85 : decode cX7_putTree 85 = .ok (.bipush 44, 2) := by decide +kernel
theorem dX7_putTree_87 : decode cX7_putTree 87 = .ok (.invokevirtual 38, 3) := by decide +kernel
theorem dX7_putTree_90 : decode cX7_putTree 90 = .ok (.aload_n 0, 1) := by decide +kernel
theorem dX7_putTree_91 : decode cX7_putTree 91 = .ok (.aload_n 1, 1) := by decide +kernel
theorem dX7_putTree_92 : decode cX7_putTree 92 = .ok (.iload 6, 2) := by decide +kernel
theorem dX7_putTree_94 : decode cX7_putTree 94 = .ok (.invokevirtual 49, 3) := by decide +kernel
theorem dX7_putTree_97 : decode cX7_putTree 97 = .ok (.invokevirtual 52, 3) := by decide +kernel
theorem dX7_putTree_100 : decode cX7_putTree 100 = .ok (.aload_n 0, 1) := by decide +kernel
theorem dX7_putTree_101 : decode cX7_putTree 101 = .ok (.getfield 12, 3) := by decide +kernel
theorem dX7_putTree_104 : decode cX7_putTree 104 = .ok (.bipush 58, 2) := by decide +kernel
theorem dX7_putTree_106 : decode cX7_putTree 106 = .ok (.invokevirtual 38, 3) := by decide +kernel
theorem dX7_putTree_109 : decode cX7_putTree 109 = .ok (.aload_n 0, 1) := by decide +kernel
theorem dX7_putTree_110 : decode cX7_putTree 110 = .ok (.aload_n 1, 1) := by decide +kernel
theorem dX7_putTree_111 : decode cX7_putTree 111 = .ok (.iload 6, 2) := by decide +kernel
theorem dX7_putTree_113 : decode cX7_putTree 113 = .ok (.iload_n 3, 1) := by decide +kernel
theorem dX7_putTree_114 : decode cX7_putTree 114 = .ok (.iconst 1, 1) := by decide +kernel
theorem dX7_putTree_115 : decode cX7_putTree 115 = .ok (.iadd, 1) := by decide +kernel
theorem dX7_putTree_116 : decode cX7_putTree 116 = .ok (.invokevirtual 27, 3) := by decide +kernel
theorem dX7_putTree_119 : decode cX7_putTree 119 = .ok (.iinc 5 1, 3) := by decide +kernel
theorem dX7_putTree_122 : decode cX7_putTree 122 = .ok (.goto (-67), 3) := by decide +kernel
theorem dX7_putTree_125 : decode cX7_putTree 125 = .ok (.aload_n 0, 1) := by decide +kernel
theorem dX7_putTree_126 : decode cX7_putTree 126 = .ok (.getfield 12, 3) := by decide +kernel
theorem dX7_putTree_129 : decode cX7_putTree 129 = .ok (.bipush 41, 2) := by decide +kernel
theorem dX7_putTree_131 : decode cX7_putTree 131 = .ok (.invokevirtual 38, 3) := by decide +kernel
theorem dX7_putTree_134 : decode cX7_putTree 134 = .ok (.return_, 1) := by decide +kernel
def fX7_putTree_87 (b : Nat) (c1 : Nat) (rc : Sg → Nat → Nat → Int32 → Int32 → Option Sg) (k55 : Sg → Int32 → Int32 → Int32 → Int32 → Option Sg) (σ : Sg) (l2 : Int32) (l3 : Int32) (l4 : Int32) (l5 : Int32) (l6 : Int32) (s1 : Int32) : Option Sg :=
  (fX5_append σ (b + 1) s1).bind fun σ8 =>
  (fX1_weightOf σ8 c1 l6).bind fun r9 =>
  (fX7_putNumber σ8 b r9).bind fun σ10 =>
  (fX5_append σ10 (b + 1) 58).bind fun σ11 =>
  (rc σ11 b c1 l6 (l3 + 1)).bind fun σ12 =>
  (k55 σ12 l2 l3 l4 (l5 + 1))
theorem bX7_putTree_87 {X : Xc} {K : Kc} {d : Nat} (C : MC X K cX7_putTree 7 RX7 (rmX7_putTree (d + 1))) (hr : K.meth.sig.returnType = none) (b : Nat) (c1 : Nat) (rc : Sg → Nat → Nat → Int32 → Int32 → Option Sg) (hb : wrOK b) (h1 : plOK c1) (hrc : ∀ (σ : Sg) (b : Nat) (c1 : Nat) (p2 : Int32) (p3 : Int32) (hb : wrOK b) (h1 : plOK c1), ∀ r, rc σ b c1 p2 p3 = some r → Met X.l yX7_putTree (wsM yX7_putTree cX7_putTree 7 none) (rmX7_putTree d) (va_Pc [.ref (X.ad b), .ref (X.ad c1), .int p2, .int p3] (PW X σ)) (Qv X r) 0 0 X.A){k55 : Sg → Int32 → Int32 → Int32 → Int32 → Option Sg} (hk55 : ∀ (σ : Sg) (l2 : Int32) (l3 : Int32) (l4 : Int32) (l5 : Int32), GO X K 7 (fun r => MQv X K r) (k55 σ l2 l3 l4 l5) σ 0 0 55 [some (.ref (X.ad b)), some (.ref (X.ad c1)), some (.int (l2)), some (.int (l3)), some (.int (l4)), some (.int (l5)), none] []) (σ : Sg) (l2 : Int32) (l3 : Int32) (l4 : Int32) (l5 : Int32) (l6 : Int32) (s1 : Int32) : GO X K 7 (fun r => MQv X K r) (fX7_putTree_87 b c1 rc k55 σ l2 l3 l4 l5 l6 s1) σ 0 0 87 [some (.ref (X.ad b)), some (.ref (X.ad c1)), some (.int (l2)), some (.int (l3)), some (.int (l4)), some (.int (l5)), some (.int (l6))] [.int (s1), .ref (X.ad (b + 1))] := by
  unfold fX7_putTree_87
  refine g_callVv (pc := 87) (As := [.int (s1)]) C (kX5_append X σ (b + 1) s1 (wr_tx hb)) (blk (wr_tx hb) 0 rfl) rfl q_55_20 q_49_5 q_49_6 q_2_0 q_49_7 ⟨rfl, hdX5_append⟩ ⟨le_ab rfl, le_ab rfl, rfl, rfl⟩ ⟨Nat.zero_le _, Nat.zero_le _⟩ (Nat.le_of_ble_eq_true rfl) rfl rfl dX7_putTree_87 (fun σ8 _ => ?_)
  refine g_aload_n (pc := 90) (i := 0) C dX7_putTree_90 rfl rfl ?_
  refine g_aload_n (pc := 91) (i := 1) C dX7_putTree_91 rfl rfl ?_
  refine g_iload (pc := 92) C dX7_putTree_92 rfl ?_
  refine g_callVi (pc := 94) (As := [.int (l6)]) C (kX1_weightOf X σ8 c1 l6 h1) (blk h1 0 rfl) rfl q_56_1 q_17_16 q_17_17 q_2_23 q_17_18 ⟨rfl, hdX1_weightOf⟩ ⟨le_ab rfl, le_ab rfl, rfl, rfl⟩ ⟨Nat.zero_le _, Nat.zero_le _⟩ (Nat.le_of_ble_eq_true rfl) rfl rfl dX7_putTree_94 (fun r9 _ => ?_)
  refine g_callVv (pc := 97) (As := [.int (r9)]) C (kX7_putNumber X σ8 b r9 hb) (blk hb 0 rfl) rfl q_56_2 q_56_3 q_56_4 q_2_8 q_56_5 ⟨rfl, hdX7_putNumber⟩ ⟨le_ab rfl, le_ab rfl, rfl, rfl⟩ ⟨Nat.zero_le _, Nat.zero_le _⟩ (Nat.le_of_ble_eq_true rfl) rfl rfl dX7_putTree_97 (fun σ10 _ => ?_)
  refine g_aload_n (pc := 100) (i := 0) C dX7_putTree_100 rfl rfl ?_
  refine g_getr (pc := 101) (ci := 7) (N := 1) (T := TX7) (j := 0) (Cn := RX7) (b + 1) C rfl inlX7 (Nat.le_of_ble_eq_true rfl) q_5_21 (blk hb 0 rfl) rfl dX7_putTree_101 ?_
  refine g_bipush (pc := 104) (v := 58) C dX7_putTree_104 (by decide) ?_
  refine g_callVv (pc := 106) (As := [.int (58)]) C (kX5_append X σ10 (b + 1) 58 (wr_tx hb)) (blk (wr_tx hb) 0 rfl) rfl q_55_20 q_49_5 q_49_6 q_2_0 q_49_7 ⟨rfl, hdX5_append⟩ ⟨le_ab rfl, le_ab rfl, rfl, rfl⟩ ⟨Nat.zero_le _, Nat.zero_le _⟩ (Nat.le_of_ble_eq_true rfl) rfl rfl dX7_putTree_106 (fun σ11 _ => ?_)
  refine g_aload_n (pc := 109) (i := 0) C dX7_putTree_109 rfl rfl ?_
  refine g_aload_n (pc := 110) (i := 1) C dX7_putTree_110 rfl rfl ?_
  refine g_iload (pc := 111) C dX7_putTree_111 rfl ?_
  refine g_iload_n (pc := 113) (i := 3) C dX7_putTree_113 rfl rfl ?_
  refine g_iconst (pc := 114) (v := 1) C dX7_putTree_114 (by decide) ?_
  refine g_iadd (pc := 115) C dX7_putTree_115 ?_
  refine g_callVv (pc := 116) (As := [.ref (X.ad c1), .int (l6), .int (l3 + 1)]) C (hrc σ11 b c1 l6 (l3 + 1) hb h1) (blk hb 0 rfl) rfl q_55_9 q_55_10 q_55_11 q_2_8 q_55_12 ⟨rfl, hdX7_putTree⟩ ⟨by show 4 * d + 24 + 1 ≤ 4 * (d + 1) + 24; omega, by show 8 + (7 + 11) + (90 * d + 500) ≤ 90 * (d + 1) + 500; omega, rfl, rfl⟩ ⟨Nat.zero_le _, Nat.zero_le _⟩ (Nat.le_of_ble_eq_true rfl) rfl rfl dX7_putTree_116 (fun σ12 _ => ?_)
  refine g_iinc (pc := 119) (v := l5 + 1) C dX7_putTree_119 rfl (rfl) (Nat.le_of_ble_eq_true rfl) rfl ?_
  refine g_goto (pc := 122) (tgt := 55) C dX7_putTree_122 rfl ?_
  refine g_keep [true, true, true, true, true, true, false] ?_
  exact hk55 σ12 l2 l3 l4 (l5 + 1)
def fX7_putTree_55 (b : Nat) (c1 : Nat) (rc : Sg → Nat → Nat → Int32 → Int32 → Option Sg) : Nat → Sg → Int32 → Int32 → Int32 → Int32 → Option Sg
  | 0, _, _, _, _, _ => none
  | n + 1, σ, l2, l3, l4, l5 =>
    if l4 ≤ l5 then
      (fX5_append σ (b + 1) 41).bind fun σ6 =>
      some σ6
    else
      (fX1_childAt σ c1 l2 l5).bind fun r7 =>
      if l5 = 0 then
        (fX7_putTree_87 b c1 rc (fX7_putTree_55 b c1 rc n) σ l2 l3 l4 l5 r7 40)
      else
        (fX7_putTree_87 b c1 rc (fX7_putTree_55 b c1 rc n) σ l2 l3 l4 l5 r7 44)
theorem bX7_putTree_55 {X : Xc} {K : Kc} {d : Nat} (C : MC X K cX7_putTree 7 RX7 (rmX7_putTree (d + 1))) (hr : K.meth.sig.returnType = none) (b : Nat) (c1 : Nat) (rc : Sg → Nat → Nat → Int32 → Int32 → Option Sg) (hb : wrOK b) (h1 : plOK c1) (hrc : ∀ (σ : Sg) (b : Nat) (c1 : Nat) (p2 : Int32) (p3 : Int32) (hb : wrOK b) (h1 : plOK c1), ∀ r, rc σ b c1 p2 p3 = some r → Met X.l yX7_putTree (wsM yX7_putTree cX7_putTree 7 none) (rmX7_putTree d) (va_Pc [.ref (X.ad b), .ref (X.ad c1), .int p2, .int p3] (PW X σ)) (Qv X r) 0 0 X.A) : ∀ (n : Nat) (σ : Sg) (l2 : Int32) (l3 : Int32) (l4 : Int32) (l5 : Int32), GO X K 7 (fun r => MQv X K r) (fX7_putTree_55 b c1 rc n σ l2 l3 l4 l5) σ 0 0 55 [some (.ref (X.ad b)), some (.ref (X.ad c1)), some (.int (l2)), some (.int (l3)), some (.int (l4)), some (.int (l5)), none] [] := by
  intro n
  induction n with
  | zero =>
    intro σ l2 l3 l4 l5
    exact g_none
  | succ n ih =>
    intro σ l2 l3 l4 l5
    unfold fX7_putTree_55
    refine g_iload (pc := 55) C dX7_putTree_55 rfl ?_
    refine g_iload (pc := 57) C dX7_putTree_57 rfl ?_
    refine g_icmp_ge (pc := 59) (tgt := 125) C dX7_putTree_59 rfl ?_ ?_
    · refine g_aload_n (pc := 125) (i := 0) C dX7_putTree_125 rfl rfl ?_
      refine g_getr (pc := 126) (ci := 7) (N := 1) (T := TX7) (j := 0) (Cn := RX7) (b + 1) C rfl inlX7 (Nat.le_of_ble_eq_true rfl) q_5_21 (blk hb 0 rfl) rfl dX7_putTree_126 ?_
      refine g_bipush (pc := 129) (v := 41) C dX7_putTree_129 (by decide) ?_
      refine g_callVv (pc := 131) (As := [.int (41)]) C (kX5_append X σ (b + 1) 41 (wr_tx hb)) (blk (wr_tx hb) 0 rfl) rfl q_55_20 q_49_5 q_49_6 q_2_0 q_49_7 ⟨rfl, hdX5_append⟩ ⟨le_ab rfl, le_ab rfl, rfl, rfl⟩ ⟨Nat.zero_le _, Nat.zero_le _⟩ (Nat.le_of_ble_eq_true rfl) rfl rfl dX7_putTree_131 (fun σ6 _ => ?_)
      exact g_vret (pc := 134) C hr dX7_putTree_134 rfl
    · refine g_aload_n (pc := 62) (i := 1) C dX7_putTree_62 rfl rfl ?_
      refine g_iload_n (pc := 63) (i := 2) C dX7_putTree_63 rfl rfl ?_
      refine g_iload (pc := 64) C dX7_putTree_64 rfl ?_
      refine g_callVi (pc := 66) (As := [.int (l2), .int (l5)]) C (kX1_childAt X σ c1 l2 l5 h1) (blk h1 0 rfl) rfl q_56_0 q_14_13 q_14_14 q_2_23 q_14_15 ⟨rfl, hdX1_childAt⟩ ⟨le_ab rfl, le_ab rfl, rfl, rfl⟩ ⟨Nat.zero_le _, Nat.zero_le _⟩ (Nat.le_of_ble_eq_true rfl) rfl rfl dX7_putTree_66 (fun r7 _ => ?_)
      refine g_istore (pc := 69) C dX7_putTree_69 (Nat.le_of_ble_eq_true rfl) rfl ?_
      refine g_aload_n (pc := 71) (i := 0) C dX7_putTree_71 rfl rfl ?_
      refine g_getr (pc := 72) (ci := 7) (N := 1) (T := TX7) (j := 0) (Cn := RX7) (b + 1) C rfl inlX7 (Nat.le_of_ble_eq_true rfl) q_5_21 (blk hb 0 rfl) rfl dX7_putTree_72 ?_
      refine g_iload (pc := 75) C dX7_putTree_75 rfl ?_
      refine g_if_ne (pc := 77) (tgt := 85) C dX7_putTree_77 rfl ?_ ?_
      · refine g_bipush (pc := 80) (v := 40) C dX7_putTree_80 (by decide) ?_
        refine g_goto (pc := 82) (tgt := 87) C dX7_putTree_82 rfl ?_
        refine g_keep [true, true, true, true, true, true, true] ?_
        exact bX7_putTree_87 C hr b c1 rc hb h1 hrc ih σ l2 l3 l4 l5 r7 40
      · refine g_bipush (pc := 85) (v := 44) C dX7_putTree_85 (by decide) ?_
        refine g_keep [true, true, true, true, true, true, true] ?_
        exact bX7_putTree_87 C hr b c1 rc hb h1 hrc ih σ l2 l3 l4 l5 r7 44
def fX7_putTree_42 (b : Nat) (c1 : Nat) (rc : Sg → Nat → Nat → Int32 → Int32 → Option Sg) (σ : Sg) (l2 : Int32) (l3 : Int32) (s1 : Int32) : Option Sg :=
  (fX5_append σ (b + 1) s1).bind fun σ4 =>
  (fX1_childCount σ4 c1 l2).bind fun r5 =>
  (fX7_putTree_55 b c1 rc FU σ4 l2 l3 r5 0)
theorem bX7_putTree_42 {X : Xc} {K : Kc} {d : Nat} (C : MC X K cX7_putTree 7 RX7 (rmX7_putTree (d + 1))) (hr : K.meth.sig.returnType = none) (b : Nat) (c1 : Nat) (rc : Sg → Nat → Nat → Int32 → Int32 → Option Sg) (hb : wrOK b) (h1 : plOK c1) (hrc : ∀ (σ : Sg) (b : Nat) (c1 : Nat) (p2 : Int32) (p3 : Int32) (hb : wrOK b) (h1 : plOK c1), ∀ r, rc σ b c1 p2 p3 = some r → Met X.l yX7_putTree (wsM yX7_putTree cX7_putTree 7 none) (rmX7_putTree d) (va_Pc [.ref (X.ad b), .ref (X.ad c1), .int p2, .int p3] (PW X σ)) (Qv X r) 0 0 X.A) (σ : Sg) (l2 : Int32) (l3 : Int32) (s1 : Int32) : GO X K 7 (fun r => MQv X K r) (fX7_putTree_42 b c1 rc σ l2 l3 s1) σ 0 0 42 [some (.ref (X.ad b)), some (.ref (X.ad c1)), some (.int (l2)), some (.int (l3)), none, none, none] [.int (s1), .ref (X.ad (b + 1))] := by
  unfold fX7_putTree_42
  refine g_callVv (pc := 42) (As := [.int (s1)]) C (kX5_append X σ (b + 1) s1 (wr_tx hb)) (blk (wr_tx hb) 0 rfl) rfl q_55_20 q_49_5 q_49_6 q_2_0 q_49_7 ⟨rfl, hdX5_append⟩ ⟨le_ab rfl, le_ab rfl, rfl, rfl⟩ ⟨Nat.zero_le _, Nat.zero_le _⟩ (Nat.le_of_ble_eq_true rfl) rfl rfl dX7_putTree_42 (fun σ4 _ => ?_)
  refine g_aload_n (pc := 45) (i := 1) C dX7_putTree_45 rfl rfl ?_
  refine g_iload_n (pc := 46) (i := 2) C dX7_putTree_46 rfl rfl ?_
  refine g_callVi (pc := 47) (As := [.int (l2)]) C (kX1_childCount X σ4 c1 l2 h1) (blk h1 0 rfl) rfl q_55_23 q_14_9 q_14_10 q_2_23 q_14_11 ⟨rfl, hdX1_childCount⟩ ⟨le_ab rfl, le_ab rfl, rfl, rfl⟩ ⟨Nat.zero_le _, Nat.zero_le _⟩ (Nat.le_of_ble_eq_true rfl) rfl rfl dX7_putTree_47 (fun r5 _ => ?_)
  refine g_istore (pc := 50) C dX7_putTree_50 (Nat.le_of_ble_eq_true rfl) rfl ?_
  refine g_iconst (pc := 52) (v := 0) C dX7_putTree_52 (by decide) ?_
  refine g_istore (pc := 53) C dX7_putTree_53 (Nat.le_of_ble_eq_true rfl) rfl ?_
  refine g_keep [true, true, true, true, true, true, false] ?_
  exact bX7_putTree_55 C hr b c1 rc hb h1 hrc FU σ4 l2 l3 r5 0
def gX7_putTree (rc : Sg → Nat → Nat → Int32 → Int32 → Option Sg) (σ : Sg) (b : Nat) (c1 : Nat) (p2 : Int32) (p3 : Int32) : Option Sg :=
  if p3 ≤ 40 then
    (fX1_kindOf σ c1 p2).bind fun r1 =>
    if r1 = 2 then
      (fX7_putTabs σ b c1 p2).bind fun σ2 =>
      some σ2
    else
      (fX1_kindOf σ c1 p2).bind fun r3 =>
      if r3 = 0 then
        (fX7_putTree_42 b c1 rc σ p2 p3 72)
      else
        (fX7_putTree_42 b c1 rc σ p2 p3 86)
  else
    some σ
theorem kgX7_putTree (X : Xc) {d : Nat} (rc : Sg → Nat → Nat → Int32 → Int32 → Option Sg) (σ : Sg) (b : Nat) (c1 : Nat) (p2 : Int32) (p3 : Int32) (hb : wrOK b) (h1 : plOK c1) (hrc : ∀ (σ : Sg) (b : Nat) (c1 : Nat) (p2 : Int32) (p3 : Int32) (hb : wrOK b) (h1 : plOK c1), ∀ r, rc σ b c1 p2 p3 = some r → Met X.l yX7_putTree (wsM yX7_putTree cX7_putTree 7 none) (rmX7_putTree d) (va_Pc [.ref (X.ad b), .ref (X.ad c1), .int p2, .int p3] (PW X σ)) (Qv X r) 0 0 X.A) : ∀ r, gX7_putTree rc σ b c1 p2 p3 = some r → Met X.l yX7_putTree (wsM yX7_putTree cX7_putTree 7 none) (rmX7_putTree (d + 1)) (va_Pc [.ref (X.ad b), .ref (X.ad c1), .int p2, .int p3] (PW X σ)) (Qv X r) 0 0 X.A := by
  refine mt_of (own := RX7) (lo := [some (.ref (X.ad b)), some (.ref (X.ad c1)), some (.int (p2)), some (.int (p3)), none, none, none]) (by decide) rfl (Nat.le_of_ble_eq_true rfl) rfl (fun K C hr => ?_)
  unfold gX7_putTree
  refine g_iload_n (pc := 0) (i := 3) C dX7_putTree_0 rfl rfl ?_
  refine g_bipush (pc := 1) (v := 40) C dX7_putTree_1 (by decide) ?_
  refine g_icmp_le (pc := 3) (tgt := 7) C dX7_putTree_3 rfl ?_ ?_
  · refine g_aload_n (pc := 7) (i := 1) C dX7_putTree_7 rfl rfl ?_
    refine g_iload_n (pc := 8) (i := 2) C dX7_putTree_8 rfl rfl ?_
    refine g_callVi (pc := 9) (As := [.int (p2)]) C (kX1_kindOf X σ c1 p2 h1) (blk h1 0 rfl) rfl q_55_13 q_16_2 q_16_3 q_2_23 q_16_4 ⟨rfl, hdX1_kindOf⟩ ⟨le_ab rfl, le_ab rfl, rfl, rfl⟩ ⟨Nat.zero_le _, Nat.zero_le _⟩ (Nat.le_of_ble_eq_true rfl) rfl rfl dX7_putTree_9 (fun r1 _ => ?_)
    refine g_iconst (pc := 12) (v := 2) C dX7_putTree_12 (by decide) ?_
    refine g_icmp_ne (pc := 13) (tgt := 23) C dX7_putTree_13 rfl ?_ ?_
    · refine g_aload_n (pc := 16) (i := 0) C dX7_putTree_16 rfl rfl ?_
      refine g_aload_n (pc := 17) (i := 1) C dX7_putTree_17 rfl rfl ?_
      refine g_iload_n (pc := 18) (i := 2) C dX7_putTree_18 rfl rfl ?_
      refine g_callVv (pc := 19) (As := [.ref (X.ad c1), .int (p2)]) C (kX7_putTabs X σ b c1 p2 hb h1) (blk hb 0 rfl) rfl q_55_14 q_55_15 q_55_16 q_2_8 q_55_17 ⟨rfl, hdX7_putTabs⟩ ⟨le_ab rfl, le_ab rfl, rfl, rfl⟩ ⟨Nat.zero_le _, Nat.zero_le _⟩ (Nat.le_of_ble_eq_true rfl) rfl rfl dX7_putTree_19 (fun σ2 _ => ?_)
      exact g_vret (pc := 22) C hr dX7_putTree_22 rfl
    · refine g_aload_n (pc := 23) (i := 0) C dX7_putTree_23 rfl rfl ?_
      refine g_getr (pc := 24) (ci := 7) (N := 1) (T := TX7) (j := 0) (Cn := RX7) (b + 1) C rfl inlX7 (Nat.le_of_ble_eq_true rfl) q_5_21 (blk hb 0 rfl) rfl dX7_putTree_24 ?_
      refine g_aload_n (pc := 27) (i := 1) C dX7_putTree_27 rfl rfl ?_
      refine g_iload_n (pc := 28) (i := 2) C dX7_putTree_28 rfl rfl ?_
      refine g_callVi (pc := 29) (As := [.int (p2)]) C (kX1_kindOf X σ c1 p2 h1) (blk h1 0 rfl) rfl q_55_13 q_16_2 q_16_3 q_2_23 q_16_4 ⟨rfl, hdX1_kindOf⟩ ⟨le_ab rfl, le_ab rfl, rfl, rfl⟩ ⟨Nat.zero_le _, Nat.zero_le _⟩ (Nat.le_of_ble_eq_true rfl) rfl rfl dX7_putTree_29 (fun r3 _ => ?_)
      refine g_if_ne (pc := 32) (tgt := 40) C dX7_putTree_32 rfl ?_ ?_
      · refine g_bipush (pc := 35) (v := 72) C dX7_putTree_35 (by decide) ?_
        refine g_goto (pc := 37) (tgt := 42) C dX7_putTree_37 rfl ?_
        refine g_keep [true, true, true, true, false, false, false] ?_
        exact bX7_putTree_42 C hr b c1 rc hb h1 hrc σ p2 p3 72
      · refine g_bipush (pc := 40) (v := 86) C dX7_putTree_40 (by decide) ?_
        refine g_keep [true, true, true, true, false, false, false] ?_
        exact bX7_putTree_42 C hr b c1 rc hb h1 hrc σ p2 p3 86
  · exact g_vret (pc := 6) C hr dX7_putTree_6 rfl
def fX7_putTree : Nat → Sg → Nat → Nat → Int32 → Int32 → Option Sg
  | 0, _, _, _, _, _ => none
  | d + 1, σ, b, c1, p2, p3 => gX7_putTree (fX7_putTree d) σ b c1 p2 p3
theorem kX7_putTree (X : Xc) : ∀ (d : Nat) (σ : Sg) (b : Nat) (c1 : Nat) (p2 : Int32) (p3 : Int32) (hb : wrOK b) (h1 : plOK c1), ∀ r, fX7_putTree d σ b c1 p2 p3 = some r → Met X.l yX7_putTree (wsM yX7_putTree cX7_putTree 7 none) (rmX7_putTree d) (va_Pc [.ref (X.ad b), .ref (X.ad c1), .int p2, .int p3] (PW X σ)) (Qv X r) 0 0 X.A
  | 0, _, _, _, _, _, _, _ => fun r h => by cases h
  | d + 1, σ, b, c1, p2, p3, hb, h1 => fun r h => kgX7_putTree X (d := d) (fX7_putTree d) σ b c1 p2 p3 hb h1 (kX7_putTree X d) r h
theorem dX7_compose_0 : decode cX7_compose 0 = .ok (.aload_n 0, 1) := by decide +kernel
theorem dX7_compose_1 : decode cX7_compose 1 = .ok (.getfield 12, 3) := by decide +kernel
theorem dX7_compose_4 : decode cX7_compose 4 = .ok (.invokevirtual 18, 3) := by decide +kernel
theorem dX7_compose_7 : decode cX7_compose 7 = .ok (.aload_n 1, 1) := by decide +kernel
theorem dX7_compose_8 : decode cX7_compose 8 = .ok (.iload_n 2, 1) := by decide +kernel
theorem dX7_compose_9 : decode cX7_compose 9 = .ok (.invokevirtual 21, 3) := by decide +kernel
theorem dX7_compose_12 : decode cX7_compose 12 = .ok (.iconst (-1), 1) := by decide +kernel
theorem dX7_compose_13 : decode cX7_compose 13 = .ok (.if_icmp .eq 14, 3) := by decide +kernel
theorem dX7_compose_16 : decode cX7_compose 16 = .ok (.aload_n 0, 1) := by decide +kernel
theorem dX7_compose_17 : decode cX7_compose 17 = .ok (.aload_n 1, 1) := by decide +kernel
theorem dX7_compose_18 : decode cX7_compose 18 = .ok (.aload_n 1, 1) := by decide +kernel
theorem dX7_compose_19 : decode cX7_compose 19 = .ok (.iload_n 2, 1) := by decide +kernel
theorem dX7_compose_20 : decode cX7_compose 20 = .ok (.invokevirtual 21, 3) := by decide +kernel
theorem dX7_compose_23 : decode cX7_compose 23 = .ok (.iconst 0, 1) := by decide +kernel
theorem dX7_compose_24 : decode cX7_compose 24 = .ok (.invokevirtual 27, 3) := by decide +kernel
theorem dX7_compose_27 : decode cX7_compose 27 = .ok (.return_, 1) := by decide +kernel
abbrev rmX7_compose : Room := { frames := 281, cells := 0, slots := 0, locals := 6286 }
theorem hdX7_compose : yX7_compose.cls ≠ "java/lang/invoke/MethodHandle" ∧ yX7_compose.cls ≠ "java/lang/invoke/VarHandle" ∧ (parseMethodDescriptor yX7_compose.desc).map (fun d => d.parameters.length) = some 2 := by decide +kernel
def fX7_compose (σ : Sg) (b : Nat) (c1 : Nat) (p2 : Int32) : Option Sg :=
  (fX5_empty σ (b + 1)).bind fun σ1 =>
  (fX1_rootOf σ1 c1 p2).bind fun r2 =>
  if r2 = (-1) then
    some σ1
  else
    (fX1_rootOf σ1 c1 p2).bind fun r3 =>
    (fX7_putTree 64 σ1 b c1 r3 0).bind fun σ4 =>
    some σ4
theorem kX7_compose (X : Xc) (σ : Sg) (b : Nat) (c1 : Nat) (p2 : Int32) (hb : wrOK b) (h1 : plOK c1) : ∀ r, fX7_compose σ b c1 p2 = some r → Met X.l yX7_compose (wsM yX7_compose cX7_compose 3 none) rmX7_compose (va_Pc [.ref (X.ad b), .ref (X.ad c1), .int p2] (PW X σ)) (Qv X r) 0 0 X.A := by
  refine mt_of (own := RX7) (lo := [some (.ref (X.ad b)), some (.ref (X.ad c1)), some (.int (p2))]) (by decide) rfl (Nat.le_of_ble_eq_true rfl) rfl (fun K C hr => ?_)
  unfold fX7_compose
  refine g_aload_n (pc := 0) (i := 0) C dX7_compose_0 rfl rfl ?_
  refine g_getr (pc := 1) (ci := 7) (N := 1) (T := TX7) (j := 0) (Cn := RX7) (b + 1) C rfl inlX7 (Nat.le_of_ble_eq_true rfl) q_5_21 (blk hb 0 rfl) rfl dX7_compose_1 ?_
  refine g_callVv (pc := 4) (As := []) C (kX5_empty X σ (b + 1) (wr_tx hb)) (blk (wr_tx hb) 0 rfl) rfl q_55_7 q_49_18 q_49_19 q_2_0 q_49_20 ⟨rfl, hdX5_empty⟩ ⟨Nat.le_of_ble_eq_true rfl, Nat.le_of_ble_eq_true rfl, rfl, rfl⟩ ⟨Nat.zero_le _, Nat.zero_le _⟩ (Nat.le_of_ble_eq_true rfl) rfl rfl dX7_compose_4 (fun σ1 _ => ?_)
  refine g_aload_n (pc := 7) (i := 1) C dX7_compose_7 rfl rfl ?_
  refine g_iload_n (pc := 8) (i := 2) C dX7_compose_8 rfl rfl ?_
  refine g_callVi (pc := 9) (As := [.int (p2)]) C (kX1_rootOf X σ1 c1 p2 h1) (blk h1 0 rfl) rfl q_55_8 q_15_12 q_15_13 q_2_23 q_15_14 ⟨rfl, hdX1_rootOf⟩ ⟨Nat.le_of_ble_eq_true rfl, Nat.le_of_ble_eq_true rfl, rfl, rfl⟩ ⟨Nat.zero_le _, Nat.zero_le _⟩ (Nat.le_of_ble_eq_true rfl) rfl rfl dX7_compose_9 (fun r2 _ => ?_)
  refine g_iconst (pc := 12) (v := (-1)) C dX7_compose_12 (by decide) ?_
  refine g_icmp_eq (pc := 13) (tgt := 27) C dX7_compose_13 rfl ?_ ?_
  · exact g_vret (pc := 27) C hr dX7_compose_27 rfl
  · refine g_aload_n (pc := 16) (i := 0) C dX7_compose_16 rfl rfl ?_
    refine g_aload_n (pc := 17) (i := 1) C dX7_compose_17 rfl rfl ?_
    refine g_aload_n (pc := 18) (i := 1) C dX7_compose_18 rfl rfl ?_
    refine g_iload_n (pc := 19) (i := 2) C dX7_compose_19 rfl rfl ?_
    refine g_callVi (pc := 20) (As := [.int (p2)]) C (kX1_rootOf X σ1 c1 p2 h1) (blk h1 0 rfl) rfl q_55_8 q_15_12 q_15_13 q_2_23 q_15_14 ⟨rfl, hdX1_rootOf⟩ ⟨Nat.le_of_ble_eq_true rfl, Nat.le_of_ble_eq_true rfl, rfl, rfl⟩ ⟨Nat.zero_le _, Nat.zero_le _⟩ (Nat.le_of_ble_eq_true rfl) rfl rfl dX7_compose_20 (fun r3 _ => ?_)
    refine g_iconst (pc := 23) (v := 0) C dX7_compose_23 (by decide) ?_
    refine g_callVv (pc := 24) (As := [.ref (X.ad c1), .int (r3), .int (0)]) C (kX7_putTree X 64 σ1 b c1 r3 0 hb h1) (blk hb 0 rfl) rfl q_55_9 q_55_10 q_55_11 q_2_8 q_55_12 ⟨rfl, hdX7_putTree⟩ ⟨Nat.le_of_ble_eq_true rfl, Nat.le_of_ble_eq_true rfl, rfl, rfl⟩ ⟨Nat.zero_le _, Nat.zero_le _⟩ (Nat.le_of_ble_eq_true rfl) rfl rfl dX7_compose_24 (fun σ4 _ => ?_)
    exact g_vret (pc := 27) C hr dX7_compose_27 rfl

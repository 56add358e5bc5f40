/-! by program out of the class files: each method as a function over the store, and its contract by a walk -/
theorem dX9_restore_0 : decode cX9_restore 0 = .ok (.sipush 264, 3) := by decide +kernel
theorem dX9_restore_3 : decode cX9_restore 3 = .ok (.sipush 219, 3) := by decide +kernel
theorem dX9_restore_6 : decode cX9_restore 6 = .ok (.iload_n 1, 1) := by decide +kernel
theorem dX9_restore_7 : decode cX9_restore 7 = .ok (.imul, 1) := by decide +kernel
theorem dX9_restore_8 : decode cX9_restore 8 = .ok (.iadd, 1) := by decide +kernel
theorem dX9_restore_9 : decode cX9_restore 9 = .ok (.istore_n 2, 1) := by decide +kernel
theorem dX9_restore_10 : decode cX9_restore 10 = .ok (.aload_n 0, 1) := by decide +kernel
theorem dX9_restore_11 : decode cX9_restore 11 = .ok (.iload_n 1, 1) := by decide +kernel
theorem dX9_restore_12 : decode cX9_restore 12 = .ok (.iconst 0, 1) := by decide +kernel
theorem dX9_restore_13 : decode cX9_restore 13 = .ok (.iconst 2, 1) := by decide +kernel
theorem dX9_restore_14 : decode cX9_restore 14 = .ok (.invokestatic 61, 3) := by decide +kernel
theorem dX9_restore_17 : decode cX9_restore 17 = .ok (.ifCond .ne 7, 3) := by decide +kernel
theorem dX9_restore_20 : decode cX9_restore 20 = .ok (.iconst 1, 1) := by decide +kernel
theorem dX9_restore_21 : decode cX9_restore 21 = .ok (.goto 17, 3) := by decide +kernel
theorem dX9_restore_24 : decode cX9_restore 24 = .ok (.aload_n 0, 1) := by decide +kernel
theorem dX9_restore_25 : decode cX9_restore 25 = .ok (.getfield 7, 3) := by decide +kernel
theorem dX9_restore_28 : decode cX9_restore 28 = .ok (.iload_n 2, 1) := by decide +kernel
theorem dX9_restore_29 : decode cX9_restore 29 = .ok (.iaload, 1) := by decide +kernel
theorem dX9_restore_30 : decode cX9_restore 30 = .ok (.ifCond .ne 7, 3) := by decide +kernel
theorem dX9_restore_33 : decode cX9_restore 33 = .ok (.iconst 2, 1) := by decide +kernel
theorem dX9_restore_34 : decode cX9_restore 34 = .ok (.goto 4, 3) := by decide +kernel
theorem dX9_restore_37 : decode cX9_restore 37 = .ok (.iconst 0, 1) := by decide +kernel
theorem dX9_restore_38 : decode cX9_restore 38 = .ok (.invokevirtual 57, 3) := by decide +kernel
theorem dX9_restore_41 : decode cX9_restore 41 = .ok (.ifCond .eq 5, 3) := by decide +kernel
theorem dX9_restore_44 : decode cX9_restore 44 = .ok (.iconst 0, 1) := by decide +kernel
theorem dX9_restore_45 : decode cX9_restore 45 = .ok (.ireturn, 1) := by decide +kernel
theorem dX9_restore_46 : decode cX9_restore 46 = .ok (.aload_n 0, 1) := by decide +kernel
theorem dX9_restore_47 : decode cX9_restore 47 = .ok (.invokevirtual 141, 3) := by decide +kernel
theorem dX9_restore_50 : decode cX9_restore 50 = .ok (.aload_n 0, 1) := by decide +kernel
theorem dX9_restore_51 : decode cX9_restore 51 = .ok (.iconst 0, 1) := by decide +kernel
theorem dX9_restore_52 : decode cX9_restore 52 = .ok (.iconst 3, 1) := by decide +kernel
theorem dX9_restore_53 : decode cX9_restore 53 = .ok (.iconst 1, 1) := by decide +kernel
theorem dX9_restore_54 : decode cX9_restore 54 = .ok (.invokevirtual 72, 3) := by decide +kernel
theorem dX9_restore_57 : decode cX9_restore 57 = .ok (.istore_n 3, 1) := by decide +kernel
theorem dX9_restore_58 : decode cX9_restore 58 = .ok (.aload_n 0, 1) := by decide +kernel
theorem dX9_restore_59 : decode cX9_restore 59 = .ok (.iconst 0, 1) := by decide +kernel
theorem dX9_restore_60 : decode cX9_restore 60 = .ok (.iconst 4, 1) := by decide +kernel
theorem dX9_restore_61 : decode cX9_restore 61 = .ok (.iconst 1, 1) := by decide +kernel
theorem dX9_restore_62 : decode cX9_restore 62 = .ok (.invokevirtual 72, 3) := by decide +kernel
theorem dX9_restore_65 : decode cX9_restore 65 = .ok (.istore 4, 2) := by decide +kernel
theorem dX9_restore_67 : decode cX9_restore 67 = .ok (.iconst 0, 1) := by decide +kernel
theorem dX9_restore_68 : decode cX9_restore 68 = .ok (.istore 5, 2) := by decide +kernel
theorem dX9_restore_70 : decode cX9_restore 70 = .ok (.iload 5, 2) := by decide +kernel
theorem dX9_restore_72 : decode cX9_restore 72 = .ok (.bipush 12, 2) := by decide +kernel
theorem dX9_restore_74 : decode cX9_restore 74 = .ok (.if_icmp .ge 50, 3) := by decide +kernel
theorem dX9_restore_77 : decode cX9_restore 77 = .ok (.iconst 0, 1) := by decide +kernel
theorem dX9_restore_78 : decode cX9_restore 78 = .ok (.istore 6, 2) := by decide +kernel
theorem dX9_restore_80 : decode cX9_restore 80 = .ok (.iload 6, 2) := by decide +kernel
theorem dX9_restore_82 : decode cX9_restore 82 = .ok (.iconst 3, 1) := by decide +kernel
theorem dX9_restore_83 : decode cX9_restore 83 = .ok (.if_icmp .ge 35, 3) := by decide +kernel
theorem dX9_restore_86 : decode cX9_restore 86 = .ok (.aload_n 0, 1) := by decide +kernel
theorem dX9_restore_87 : decode cX9_restore 87 = .ok (.iload 5, 2) := by decide +kernel
theorem dX9_restore_89 : decode cX9_restore 89 = .ok (.iconst 3, 1) := by decide +kernel
theorem dX9_restore_90 : decode cX9_restore 90 = .ok (.iload 6, 2) := by decide +kernel
theorem dX9_restore_92 : decode cX9_restore 92 = .ok (.iadd, 1) := by decide +kernel
theorem dX9_restore_93 : decode cX9_restore 93 = .ok (.aload_n 0, 1) := by decide +kernel
theorem dX9_restore_94 : decode cX9_restore 94 = .ok (.getfield 7, 3) := by decide +kernel
theorem dX9_restore_97 : decode cX9_restore 97 = .ok (.iload_n 2, 1) := by decide +kernel
theorem dX9_restore_98 : decode cX9_restore 98 = .ok (.iconst 1, 1) := by decide +kernel
theorem dX9_restore_99 : decode cX9_restore 99 = .ok (.iadd, 1) := by decide +kernel
theorem dX9_restore_100 : decode cX9_restore 100 = .ok (.iconst 3, 1) := by decide +kernel
theorem dX9_restore_101 : decode cX9_restore 101 = .ok (.iload 5, 2) := by decide +kernel
theorem dX9_restore_103 : decode cX9_restore 103 = .ok (.imul, 1) := by decide +kernel
theorem dX9_restore_104 : decode cX9_restore 104 = .ok (.iadd, 1) := by decide +kernel
theorem dX9_restore_105 : decode cX9_restore 105 = .ok (.iload 6, 2) := by decide +kernel
theorem dX9_restore_107 : decode cX9_restore 107 = .ok (.iadd, 1) := by decide +kernel
theorem dX9_restore_108 : decode cX9_restore 108 = .ok (.iaload, 1) := by decide +kernel
theorem dX9_restore_109 : decode cX9_restore 109 = .ok (.invokevirtual 126, 3) := by decide +kernel
theorem dX9_restore_112 : decode cX9_restore 112 = .ok (.iinc 6 1, 3) := by decide +kernel
theorem dX9_restore_115 : decode cX9_restore 115 = .ok (.goto (-35), 3) := by decide +kernel
theorem dX9_restore_118 : decode cX9_restore 118 = .ok (.iinc 5 1, 3) := by decide +kernel
theorem dX9_restore_121 : decode cX9_restore 121 = .ok (.goto (-51), 3) := by decide +kernel
theorem dX9_restore_124 : decode cX9_restore 124 = .ok (.iconst 0, 1) := by decide +kernel
theorem dX9_restore_125 : decode cX9_restore 125 = .ok (.istore 5, 2) := by decide +kernel
theorem dX9_restore_127 : decode cX9_restore 127 = .ok (.iload 5, 2) := by decide +kernel
theorem dX9_restore_129 : decode cX9_restore 129 = .ok (.sipush 144, 3) := by decide +kernel
theorem dX9_restore_132 : decode cX9_restore 132 = .ok (.if_icmp .ge 31, 3) := by decide +kernel
theorem dX9_restore_135 : decode cX9_restore 135 = .ok (.aload_n 0, 1) := by decide +kernel
theorem dX9_restore_136 : decode cX9_restore 136 = .ok (.getfield 7, 3) := by decide +kernel
theorem dX9_restore_139 : decode cX9_restore 139 = .ok (.bipush 72, 2) := by decide +kernel
theorem dX9_restore_141 : decode cX9_restore 141 = .ok (.iload 5, 2) := by decide +kernel
theorem dX9_restore_143 : decode cX9_restore 143 = .ok (.iadd, 1) := by decide +kernel
theorem dX9_restore_144 : decode cX9_restore 144 = .ok (.aload_n 0, 1) := by decide +kernel
theorem dX9_restore_145 : decode cX9_restore 145 = .ok (.getfield 7, 3) := by decide +kernel
theorem dX9_restore_148 : decode cX9_restore 148 = .ok (.iload_n 2, 1) := by decide +kernel
theorem dX9_restore_149 : decode cX9_restore 149 = .ok (.bipush 37, 2) := by decide +kernel
theorem dX9_restore_151 : decode cX9_restore 151 = .ok (.iadd, 1) := by decide +kernel
theorem dX9_restore_152 : decode cX9_restore 152 = .ok (.iload 5, 2) := by decide +kernel
theorem dX9_restore_154 : decode cX9_restore 154 = .ok (.iadd, 1) := by decide +kernel
theorem dX9_restore_155 : decode cX9_restore 155 = .ok (.iaload, 1) := by decide +kernel
theorem dX9_restore_156 : decode cX9_restore 156 = .ok (.iastore, 1) := by decide +kernel
theorem dX9_restore_157 : decode cX9_restore 157 = .ok (.iinc 5 1, 3) := by decide +kernel
theorem dX9_restore_160 : decode cX9_restore 160 = .ok (.goto (-33), 3) := by decide +kernel
theorem dX9_restore_163 : decode cX9_restore 163 = .ok (.iconst 0, 1) := by decide +kernel
theorem dX9_restore_164 : decode cX9_restore 164 = .ok (.istore 5, 2) := by decide +kernel
theorem dX9_restore_166 : decode cX9_restore 166 = .ok (.iload 5, 2) := by decide +kernel
theorem dX9_restore_168 : decode cX9_restore 168 = .ok (.bipush 35, 2) := by decide +kernel
theorem dX9_restore_170 : decode cX9_restore 170 = .ok (.if_icmp .ge 33, 3) := by decide +kernel
theorem dX9_restore_173 : decode cX9_restore 173 = .ok (.aload_n 0, 1) := by decide +kernel
theorem dX9_restore_174 : decode cX9_restore 174 = .ok (.getfield 7, 3) := by decide +kernel
theorem dX9_restore_177 : decode cX9_restore 177 = .ok (.sipush 216, 3) := by decide +kernel
theorem dX9_restore_180 : decode cX9_restore 180 = .ok (.iload 5, 2) := by decide +kernel
theorem dX9_restore_182 : decode cX9_restore 182 = .ok (.iadd, 1) := by decide +kernel
theorem dX9_restore_183 : decode cX9_restore 183 = .ok (.aload_n 0, 1) := by decide +kernel
theorem dX9_restore_184 : decode cX9_restore 184 = .ok (.getfield 7, 3) := by decide +kernel
theorem dX9_restore_187 : decode cX9_restore 187 = .ok (.iload_n 2, 1) := by decide +kernel
theorem dX9_restore_188 : decode cX9_restore 188 = .ok (.sipush 181, 3) := by decide +kernel
theorem dX9_restore_191 : decode cX9_restore 191 = .ok (.iadd, 1) := by decide +kernel
theorem dX9_restore_192 : decode cX9_restore 192 = .ok (.iload 5, 2) := by decide +kernel
theorem dX9_restore_194 : decode cX9_restore 194 = .ok (.iadd, 1) := by decide +kernel
theorem dX9_restore_195 : decode cX9_restore 195 = .ok (.iaload, 1) := by decide +kernel
theorem dX9_restore_196 : decode cX9_restore 196 = .ok (.iastore, 1) := by decide +kernel
theorem dX9_restore_197 : decode cX9_restore 197 = .ok (.iinc 5 1, 3) := by decide +kernel
theorem dX9_restore_200 : decode cX9_restore 200 = .ok (.goto (-34), 3) := by decide +kernel
theorem dX9_restore_203 : decode cX9_restore 203 = .ok (.aload_n 0, 1) := by decide +kernel
theorem dX9_restore_204 : decode cX9_restore 204 = .ok (.iconst 0, 1) := by decide +kernel
theorem dX9_restore_205 : decode cX9_restore 205 = .ok (.iconst 3, 1) := by decide +kernel
theorem dX9_restore_206 : decode cX9_restore 206 = .ok (.iload_n 3, 1) := by decide +kernel
theorem dX9_restore_207 : decode cX9_restore 207 = .ok (.invokevirtual 94, 3) := by decide +kernel
theorem dX9_restore_210 : decode cX9_restore 210 = .ok (.aload_n 0, 1) := by decide +kernel
theorem dX9_restore_211 : decode cX9_restore 211 = .ok (.iconst 0, 1) := by decide +kernel
theorem dX9_restore_212 : decode cX9_restore 212 = .ok (.iconst 4, 1) := by decide +kernel
theorem dX9_restore_213 : decode cX9_restore 213 = .ok (.iload 4, 2) := by decide +kernel
theorem dX9_restore_215 : decode cX9_restore 215 = .ok (.invokevirtual 94, 3) := by decide +kernel
theorem dX9_restore_218 : decode cX9_restore 218 = .ok (.iconst 0, 1) := by decide +kernel
theorem dX9_restore_219 : decode cX9_restore 219 = .ok (.istore 5, 2) := by decide +kernel
theorem dX9_restore_221 : decode cX9_restore 221 = .ok (.iload 5, 2) := by decide +kernel
theorem dX9_restore_223 : decode cX9_restore 223 = .ok (.bipush 12, 2) := by decide +kernel
theorem dX9_restore_225 : decode cX9_restore 225 = .ok (.if_icmp .ge 25, 3) := by decide +kernel
theorem dX9_restore_228 : decode cX9_restore 228 = .ok (.aload_n 0, 1) := by decide +kernel
theorem dX9_restore_229 : decode cX9_restore 229 = .ok (.iload 5, 2) := by decide +kernel
theorem dX9_restore_231 : decode cX9_restore 231 = .ok (.iconst 0, 1) := by decide +kernel
theorem dX9_restore_232 : decode cX9_restore 232 = .ok (.invokevirtual 65, 3) := by decide +kernel
theorem dX9_restore_235 : decode cX9_restore 235 = .ok (.ifCond .ne 9, 3) := by decide +kernel
theorem dX9_restore_238 : decode cX9_restore 238 = .ok (.aload_n 0, 1) := by decide +kernel
theorem dX9_restore_239 : decode cX9_restore 239 = .ok (.iload 5, 2) := by decide +kernel
theorem dX9_restore_241 : decode cX9_restore 241 = .ok (.invokevirtual 147, 3) := by decide +kernel
theorem dX9_restore_244 : decode cX9_restore 244 = .ok (.iinc 5 1, 3) := by decide +kernel
theorem dX9_restore_247 : decode cX9_restore 247 = .ok (.goto (-26), 3) := by decide +kernel
theorem dX9_restore_250 : decode cX9_restore 250 = .ok (.aload_n 0, 1) := by decide +kernel
theorem dX9_restore_251 : decode cX9_restore 251 = .ok (.invokevirtual 254, 3) := by decide +kernel
theorem dX9_restore_254 : decode cX9_restore 254 = .ok (.aload_n 0, 1) := by decide +kernel
theorem dX9_restore_255 : decode cX9_restore 255 = .ok (.invokevirtual 220, 3) := by decide +kernel
theorem dX9_restore_258 : decode cX9_restore 258 = .ok (.ireturn, 1) := by decide +kernel
abbrev rmX9_restore : Room := { frames := 7, cells := 0, slots := 0, locals := 156 }
theorem hdX9_restore : yX9_restore.cls ≠ "java/lang/invoke/MethodHandle" ∧ yX9_restore.cls ≠ "java/lang/invoke/VarHandle" ∧ (parseMethodDescriptor yX9_restore.desc).map (fun d => d.parameters.length) = some 1 := by decide +kernel
def fX9_restore_244 (b : Nat) (k221 : Sg → Int32 → Option (Int32 × Sg)) (σ : Sg) (l5 : Int32) : Option (Int32 × Sg) :=
  (k221 σ (l5 + 1))
theorem bX9_restore_244 {X : Xc} {K : Kc} (C : MC X K cX9_restore 7 RX9 rmX9_restore) (hr : K.meth.sig.returnType = (some .int)) (b : Nat) (hb : moOK b){k221 : Sg → Int32 → Option (Int32 × Sg)} (hk221 : ∀ (σ : Sg) (l5 : Int32), GO X K 7 (fun r => MQi X K r.1 r.2) (k221 σ l5) σ 0 0 221 [some (.ref (X.ad b)), none, none, none, none, some (.int (l5)), none] []) (σ : Sg) (l5 : Int32) : GO X K 7 (fun r => MQi X K r.1 r.2) (fX9_restore_244 b k221 σ l5) σ 0 0 244 [some (.ref (X.ad b)), none, none, none, none, some (.int (l5)), none] [] := by
  unfold fX9_restore_244
  refine g_iinc (pc := 244) (v := l5 + 1) C dX9_restore_244 rfl (rfl) (Nat.le_of_ble_eq_true rfl) rfl ?_
  refine g_goto (pc := 247) (tgt := 221) C dX9_restore_247 rfl ?_
  refine g_keep [true, false, false, false, false, true, false] ?_
  exact hk221 σ (l5 + 1)
def fX9_restore_221 (b : Nat) : Nat → Sg → Int32 → Option (Int32 × Sg)
  | 0, _, _ => none
  | n + 1, σ, l5 =>
    if 12 ≤ l5 then
      (fX9_focuses σ b).bind fun σ11 =>
      (fX9_placedMany σ11 b).bind fun r12 =>
      some (r12, σ11)
    else
      (fX9_of σ b l5 0).bind fun r13 =>
      if r13 = 0 then
        (fX9_takes σ b l5).bind fun σ14 =>
        (fX9_restore_244 b (fX9_restore_221 b n) σ14 l5)
      else
        (fX9_restore_244 b (fX9_restore_221 b n) σ l5)
theorem bX9_restore_221 {X : Xc} {K : Kc} (C : MC X K cX9_restore 7 RX9 rmX9_restore) (hr : K.meth.sig.returnType = (some .int)) (b : Nat) (hb : moOK b) : ∀ (n : Nat) (σ : Sg) (l5 : Int32), GO X K 7 (fun r => MQi X K r.1 r.2) (fX9_restore_221 b n σ l5) σ 0 0 221 [some (.ref (X.ad b)), none, none, none, none, some (.int (l5)), none] [] := by
  intro n
  induction n with
  | zero =>
    intro σ l5
    exact g_none
  | succ n ih =>
    intro σ l5
    unfold fX9_restore_221
    refine g_iload (pc := 221) C dX9_restore_221 rfl ?_
    refine g_bipush (pc := 223) (v := 12) C dX9_restore_223 (by decide) ?_
    refine g_icmp_ge (pc := 225) (tgt := 250) C dX9_restore_225 rfl ?_ ?_
    · refine g_aload_n (pc := 250) (i := 0) C dX9_restore_250 rfl rfl ?_
      refine g_callVv (pc := 251) (As := []) C (kX9_focuses X σ b hb) (blk hb 0 rfl) rfl q_48_12 q_48_13 q_48_14 q_1_5 q_48_15 ⟨rfl, hdX9_focuses⟩ ⟨Nat.le_of_ble_eq_true rfl, Nat.le_of_ble_eq_true rfl, rfl, rfl⟩ ⟨Nat.zero_le _, Nat.zero_le _⟩ (Nat.le_of_ble_eq_true rfl) rfl rfl dX9_restore_251 (fun σ11 _ => ?_)
      refine g_aload_n (pc := 254) (i := 0) C dX9_restore_254 rfl rfl ?_
      refine g_callVi (pc := 255) (As := []) C (kX9_placedMany X σ11 b hb) (blk hb 0 rfl) rfl q_37_23 q_38_0 q_38_1 q_1_5 q_38_2 ⟨rfl, hdX9_placedMany⟩ ⟨Nat.le_of_ble_eq_true rfl, Nat.le_of_ble_eq_true rfl, rfl, rfl⟩ ⟨Nat.zero_le _, Nat.zero_le _⟩ (Nat.le_of_ble_eq_true rfl) rfl rfl dX9_restore_255 (fun r12 _ => ?_)
      exact g_iret (pc := 258) C hr dX9_restore_258 rfl
    · refine g_aload_n (pc := 228) (i := 0) C dX9_restore_228 rfl rfl ?_
      refine g_iload (pc := 229) C dX9_restore_229 rfl ?_
      refine g_iconst (pc := 231) (v := 0) C dX9_restore_231 (by decide) ?_
      refine g_callVi (pc := 232) (As := [.int (l5), .int (0)]) C (kX9_of X σ b l5 0 hb) (blk hb 0 rfl) rfl q_10_2 q_10_3 q_10_4 q_1_5 q_10_5 ⟨rfl, hdX9_of⟩ ⟨Nat.le_of_ble_eq_true rfl, Nat.le_of_ble_eq_true rfl, rfl, rfl⟩ ⟨Nat.zero_le _, Nat.zero_le _⟩ (Nat.le_of_ble_eq_true rfl) rfl rfl dX9_restore_232 (fun r13 _ => ?_)
      refine g_if_ne (pc := 235) (tgt := 244) C dX9_restore_235 rfl ?_ ?_
      · refine g_aload_n (pc := 238) (i := 0) C dX9_restore_238 rfl rfl ?_
        refine g_iload (pc := 239) C dX9_restore_239 rfl ?_
        refine g_callVv (pc := 241) (As := [.int (l5)]) C (kX9_takes X σ b l5 hb) (blk hb 0 rfl) rfl q_19_20 q_19_21 q_19_22 q_1_5 q_19_23 ⟨rfl, hdX9_takes⟩ ⟨Nat.le_of_ble_eq_true rfl, Nat.le_of_ble_eq_true rfl, rfl, rfl⟩ ⟨Nat.zero_le _, Nat.zero_le _⟩ (Nat.le_of_ble_eq_true rfl) rfl rfl dX9_restore_241 (fun σ14 _ => ?_)
        refine g_keep [true, false, false, false, false, true, false] ?_
        exact bX9_restore_244 C hr b hb ih σ14 l5
      · refine g_keep [true, false, false, false, false, true, false] ?_
        exact bX9_restore_244 C hr b hb ih σ l5
def fX9_restore_166 (b : Nat) : Nat → Sg → Int32 → Int32 → Int32 → Int32 → Option (Int32 × Sg)
  | 0, _, _, _, _, _ => none
  | n + 1, σ, l2, l3, l4, l5 =>
    if 35 ≤ l5 then
      (fX9_puts σ b 0 3 l3).bind fun σ8 =>
      (fX9_puts σ8 b 0 4 l4).bind fun σ9 =>
      (fX9_restore_221 b FU σ9 0)
    else
      if ck ((l2 + 181) + l5) 921 then
        if ck (216 + l5) 921 then
          nm (su σ (b + 1) (216 + l5).toNatClampNeg (σ.1 (b + 1) ((l2 + 181) + l5).toNatClampNeg)) fun σ10 =>
          ((fX9_restore_166 b n) σ10 l2 l3 l4 (l5 + 1))
        else none
      else none
theorem bX9_restore_166 {X : Xc} {K : Kc} (C : MC X K cX9_restore 7 RX9 rmX9_restore) (hr : K.meth.sig.returnType = (some .int)) (b : Nat) (hb : moOK b) : ∀ (n : Nat) (σ : Sg) (l2 : Int32) (l3 : Int32) (l4 : Int32) (l5 : Int32), GO X K 7 (fun r => MQi X K r.1 r.2) (fX9_restore_166 b n σ l2 l3 l4 l5) σ 0 0 166 [some (.ref (X.ad b)), none, some (.int (l2)), some (.int (l3)), some (.int (l4)), some (.int (l5)), none] [] := by
  intro n
  induction n with
  | zero =>
    intro σ l2 l3 l4 l5
    exact g_none
  | succ n ih =>
    intro σ l2 l3 l4 l5
    unfold fX9_restore_166
    refine g_iload (pc := 166) C dX9_restore_166 rfl ?_
    refine g_bipush (pc := 168) (v := 35) C dX9_restore_168 (by decide) ?_
    refine g_icmp_ge (pc := 170) (tgt := 203) C dX9_restore_170 rfl ?_ ?_
    · refine g_aload_n (pc := 203) (i := 0) C dX9_restore_203 rfl rfl ?_
      refine g_iconst (pc := 204) (v := 0) C dX9_restore_204 (by decide) ?_
      refine g_iconst (pc := 205) (v := 3) C dX9_restore_205 (by decide) ?_
      refine g_iload_n (pc := 206) (i := 3) C dX9_restore_206 rfl rfl ?_
      refine g_callVv (pc := 207) (As := [.int (0), .int (3), .int (l3)]) C (kX9_puts X σ b 0 3 l3 hb) (blk hb 0 rfl) rfl q_22_16 q_22_17 q_22_18 q_1_5 q_22_19 ⟨rfl, hdX9_puts⟩ ⟨Nat.le_of_ble_eq_true rfl, Nat.le_of_ble_eq_true rfl, rfl, rfl⟩ ⟨Nat.zero_le _, Nat.zero_le _⟩ (Nat.le_of_ble_eq_true rfl) rfl rfl dX9_restore_207 (fun σ8 _ => ?_)
      refine g_aload_n (pc := 210) (i := 0) C dX9_restore_210 rfl rfl ?_
      refine g_iconst (pc := 211) (v := 0) C dX9_restore_211 (by decide) ?_
      refine g_iconst (pc := 212) (v := 4) C dX9_restore_212 (by decide) ?_
      refine g_iload (pc := 213) C dX9_restore_213 rfl ?_
      refine g_callVv (pc := 215) (As := [.int (0), .int (4), .int (l4)]) C (kX9_puts X σ8 b 0 4 l4 hb) (blk hb 0 rfl) rfl q_22_16 q_22_17 q_22_18 q_1_5 q_22_19 ⟨rfl, hdX9_puts⟩ ⟨Nat.le_of_ble_eq_true rfl, Nat.le_of_ble_eq_true rfl, rfl, rfl⟩ ⟨Nat.zero_le _, Nat.zero_le _⟩ (Nat.le_of_ble_eq_true rfl) rfl rfl dX9_restore_215 (fun σ9 _ => ?_)
      refine g_iconst (pc := 218) (v := 0) C dX9_restore_218 (by decide) ?_
      refine g_istore (pc := 219) C dX9_restore_219 (Nat.le_of_ble_eq_true rfl) rfl ?_
      refine g_keep [true, false, false, false, false, true, false] ?_
      exact bX9_restore_221 C hr b hb FU σ9 0
    · refine g_aload_n (pc := 173) (i := 0) C dX9_restore_173 rfl rfl ?_
      refine g_getr (pc := 174) (ci := 9) (N := 27) (T := TX9) (j := 0) (Cn := RX9) (b + 1) C rfl inlX9 (Nat.le_of_ble_eq_true rfl) q_6_2 (blk hb 0 rfl) rfl dX9_restore_174 ?_
      refine g_sipush (pc := 177) (v := 216) C dX9_restore_177 (by decide) ?_
      refine g_iload (pc := 180) C dX9_restore_180 rfl ?_
      refine g_iadd (pc := 182) C dX9_restore_182 ?_
      refine g_aload_n (pc := 183) (i := 0) C dX9_restore_183 rfl rfl ?_
      refine g_getr (pc := 184) (ci := 9) (N := 27) (T := TX9) (j := 0) (Cn := RX9) (b + 1) C rfl inlX9 (Nat.le_of_ble_eq_true rfl) q_6_2 (blk hb 0 rfl) rfl dX9_restore_184 ?_
      refine g_iload_n (pc := 187) (i := 2) C dX9_restore_187 rfl rfl ?_
      refine g_sipush (pc := 188) (v := 181) C dX9_restore_188 (by decide) ?_
      refine g_iadd (pc := 191) C dX9_restore_191 ?_
      refine g_iload (pc := 192) C dX9_restore_192 rfl ?_
      refine g_iadd (pc := 194) C dX9_restore_194 ?_
      refine g_iaload (pc := 195) C (blk hb 1 rfl) dX9_restore_195 ?_
      refine g_iastore (pc := 196) C (blk hb 1 rfl) dX9_restore_196 ?_
      refine g_nms (fun σ10 => ?_)
      refine g_iinc (pc := 197) (v := l5 + 1) C dX9_restore_197 rfl (rfl) (Nat.le_of_ble_eq_true rfl) rfl ?_
      refine g_goto (pc := 200) (tgt := 166) C dX9_restore_200 rfl ?_
      refine g_keep [true, false, true, true, true, true, false] ?_
      exact ih σ10 l2 l3 l4 (l5 + 1)
def fX9_restore_127 (b : Nat) : Nat → Sg → Int32 → Int32 → Int32 → Int32 → Option (Int32 × Sg)
  | 0, _, _, _, _, _ => none
  | n + 1, σ, l2, l3, l4, l5 =>
    if 144 ≤ l5 then
      (fX9_restore_166 b FU σ l2 l3 l4 0)
    else
      if ck ((l2 + 37) + l5) 921 then
        if ck (72 + l5) 921 then
          nm (su σ (b + 1) (72 + l5).toNatClampNeg (σ.1 (b + 1) ((l2 + 37) + l5).toNatClampNeg)) fun σ7 =>
          ((fX9_restore_127 b n) σ7 l2 l3 l4 (l5 + 1))
        else none
      else none
theorem bX9_restore_127 {X : Xc} {K : Kc} (C : MC X K cX9_restore 7 RX9 rmX9_restore) (hr : K.meth.sig.returnType = (some .int)) (b : Nat) (hb : moOK b) : ∀ (n : Nat) (σ : Sg) (l2 : Int32) (l3 : Int32) (l4 : Int32) (l5 : Int32), GO X K 7 (fun r => MQi X K r.1 r.2) (fX9_restore_127 b n σ l2 l3 l4 l5) σ 0 0 127 [some (.ref (X.ad b)), none, some (.int (l2)), some (.int (l3)), some (.int (l4)), some (.int (l5)), none] [] := by
  intro n
  induction n with
  | zero =>
    intro σ l2 l3 l4 l5
    exact g_none
  | succ n ih =>
    intro σ l2 l3 l4 l5
    unfold fX9_restore_127
    refine g_iload (pc := 127) C dX9_restore_127 rfl ?_
    refine g_sipush (pc := 129) (v := 144) C dX9_restore_129 (by decide) ?_
    refine g_icmp_ge (pc := 132) (tgt := 163) C dX9_restore_132 rfl ?_ ?_
    · refine g_iconst (pc := 163) (v := 0) C dX9_restore_163 (by decide) ?_
      refine g_istore (pc := 164) C dX9_restore_164 (Nat.le_of_ble_eq_true rfl) rfl ?_
      refine g_keep [true, false, true, true, true, true, false] ?_
      exact bX9_restore_166 C hr b hb FU σ l2 l3 l4 0
    · refine g_aload_n (pc := 135) (i := 0) C dX9_restore_135 rfl rfl ?_
      refine g_getr (pc := 136) (ci := 9) (N := 27) (T := TX9) (j := 0) (Cn := RX9) (b + 1) C rfl inlX9 (Nat.le_of_ble_eq_true rfl) q_6_2 (blk hb 0 rfl) rfl dX9_restore_136 ?_
      refine g_bipush (pc := 139) (v := 72) C dX9_restore_139 (by decide) ?_
      refine g_iload (pc := 141) C dX9_restore_141 rfl ?_
      refine g_iadd (pc := 143) C dX9_restore_143 ?_
      refine g_aload_n (pc := 144) (i := 0) C dX9_restore_144 rfl rfl ?_
      refine g_getr (pc := 145) (ci := 9) (N := 27) (T := TX9) (j := 0) (Cn := RX9) (b + 1) C rfl inlX9 (Nat.le_of_ble_eq_true rfl) q_6_2 (blk hb 0 rfl) rfl dX9_restore_145 ?_
      refine g_iload_n (pc := 148) (i := 2) C dX9_restore_148 rfl rfl ?_
      refine g_bipush (pc := 149) (v := 37) C dX9_restore_149 (by decide) ?_
      refine g_iadd (pc := 151) C dX9_restore_151 ?_
      refine g_iload (pc := 152) C dX9_restore_152 rfl ?_
      refine g_iadd (pc := 154) C dX9_restore_154 ?_
      refine g_iaload (pc := 155) C (blk hb 1 rfl) dX9_restore_155 ?_
      refine g_iastore (pc := 156) C (blk hb 1 rfl) dX9_restore_156 ?_
      refine g_nms (fun σ7 => ?_)
      refine g_iinc (pc := 157) (v := l5 + 1) C dX9_restore_157 rfl (rfl) (Nat.le_of_ble_eq_true rfl) rfl ?_
      refine g_goto (pc := 160) (tgt := 127) C dX9_restore_160 rfl ?_
      refine g_keep [true, false, true, true, true, true, false] ?_
      exact ih σ7 l2 l3 l4 (l5 + 1)
def fX9_restore_80 (b : Nat) (k70 : Sg → Int32 → Int32 → Int32 → Int32 → Option (Int32 × Sg)) : Nat → Sg → Int32 → Int32 → Int32 → Int32 → Int32 → Option (Int32 × Sg)
  | 0, _, _, _, _, _, _ => none
  | n + 1, σ, l2, l3, l4, l5, l6 =>
    if 3 ≤ l6 then
      (k70 σ l2 l3 l4 (l5 + 1))
    else
      if ck (((l2 + 1) + (3 * l5)) + l6) 921 then
        (fX9_put σ b l5 (3 + l6) (σ.1 (b + 1) (((l2 + 1) + (3 * l5)) + l6).toNatClampNeg)).bind fun σ15 =>
        ((fX9_restore_80 b k70 n) σ15 l2 l3 l4 l5 (l6 + 1))
      else none
theorem bX9_restore_80 {X : Xc} {K : Kc} (C : MC X K cX9_restore 7 RX9 rmX9_restore) (hr : K.meth.sig.returnType = (some .int)) (b : Nat) (hb : moOK b){k70 : Sg → Int32 → Int32 → Int32 → Int32 → Option (Int32 × Sg)} (hk70 : ∀ (σ : Sg) (l2 : Int32) (l3 : Int32) (l4 : Int32) (l5 : Int32), GO X K 7 (fun r => MQi X K r.1 r.2) (k70 σ l2 l3 l4 l5) σ 0 0 70 [some (.ref (X.ad b)), none, some (.int (l2)), some (.int (l3)), some (.int (l4)), some (.int (l5)), none] []) : ∀ (n : Nat) (σ : Sg) (l2 : Int32) (l3 : Int32) (l4 : Int32) (l5 : Int32) (l6 : Int32), GO X K 7 (fun r => MQi X K r.1 r.2) (fX9_restore_80 b k70 n σ l2 l3 l4 l5 l6) σ 0 0 80 [some (.ref (X.ad b)), none, some (.int (l2)), some (.int (l3)), some (.int (l4)), some (.int (l5)), some (.int (l6))] [] := by
  intro n
  induction n with
  | zero =>
    intro σ l2 l3 l4 l5 l6
    exact g_none
  | succ n ih =>
    intro σ l2 l3 l4 l5 l6
    unfold fX9_restore_80
    refine g_iload (pc := 80) C dX9_restore_80 rfl ?_
    refine g_iconst (pc := 82) (v := 3) C dX9_restore_82 (by decide) ?_
    refine g_icmp_ge (pc := 83) (tgt := 118) C dX9_restore_83 rfl ?_ ?_
    · refine g_iinc (pc := 118) (v := l5 + 1) C dX9_restore_118 rfl (rfl) (Nat.le_of_ble_eq_true rfl) rfl ?_
      refine g_goto (pc := 121) (tgt := 70) C dX9_restore_121 rfl ?_
      refine g_keep [true, false, true, true, true, true, false] ?_
      exact hk70 σ l2 l3 l4 (l5 + 1)
    · refine g_aload_n (pc := 86) (i := 0) C dX9_restore_86 rfl rfl ?_
      refine g_iload (pc := 87) C dX9_restore_87 rfl ?_
      refine g_iconst (pc := 89) (v := 3) C dX9_restore_89 (by decide) ?_
      refine g_iload (pc := 90) C dX9_restore_90 rfl ?_
      refine g_iadd (pc := 92) C dX9_restore_92 ?_
      refine g_aload_n (pc := 93) (i := 0) C dX9_restore_93 rfl rfl ?_
      refine g_getr (pc := 94) (ci := 9) (N := 27) (T := TX9) (j := 0) (Cn := RX9) (b + 1) C rfl inlX9 (Nat.le_of_ble_eq_true rfl) q_6_2 (blk hb 0 rfl) rfl dX9_restore_94 ?_
      refine g_iload_n (pc := 97) (i := 2) C dX9_restore_97 rfl rfl ?_
      refine g_iconst (pc := 98) (v := 1) C dX9_restore_98 (by decide) ?_
      refine g_iadd (pc := 99) C dX9_restore_99 ?_
      refine g_iconst (pc := 100) (v := 3) C dX9_restore_100 (by decide) ?_
      refine g_iload (pc := 101) C dX9_restore_101 rfl ?_
      refine g_imul (pc := 103) C dX9_restore_103 ?_
      refine g_iadd (pc := 104) C dX9_restore_104 ?_
      refine g_iload (pc := 105) C dX9_restore_105 rfl ?_
      refine g_iadd (pc := 107) C dX9_restore_107 ?_
      refine g_iaload (pc := 108) C (blk hb 1 rfl) dX9_restore_108 ?_
      refine g_callVv (pc := 109) (As := [.int (l5), .int (3 + l6), .int (σ.1 (b + 1) (((l2 + 1) + (3 * l5)) + l6).toNatClampNeg)]) C (kX9_put X σ b l5 (3 + l6) (σ.1 (b + 1) (((l2 + 1) + (3 * l5)) + l6).toNatClampNeg) hb) (blk hb 0 rfl) rfl q_10_19 q_10_20 q_10_21 q_1_5 q_10_22 ⟨rfl, hdX9_put⟩ ⟨Nat.le_of_ble_eq_true rfl, Nat.le_of_ble_eq_true rfl, rfl, rfl⟩ ⟨Nat.zero_le _, Nat.zero_le _⟩ (Nat.le_of_ble_eq_true rfl) rfl rfl dX9_restore_109 (fun σ15 _ => ?_)
      refine g_iinc (pc := 112) (v := l6 + 1) C dX9_restore_112 rfl (rfl) (Nat.le_of_ble_eq_true rfl) rfl ?_
      refine g_goto (pc := 115) (tgt := 80) C dX9_restore_115 rfl ?_
      refine g_keep [true, false, true, true, true, true, true] ?_
      exact ih σ15 l2 l3 l4 l5 (l6 + 1)
def fX9_restore_70 (b : Nat) : Nat → Sg → Int32 → Int32 → Int32 → Int32 → Option (Int32 × Sg)
  | 0, _, _, _, _, _ => none
  | n + 1, σ, l2, l3, l4, l5 =>
    if 12 ≤ l5 then
      (fX9_restore_127 b FU σ l2 l3 l4 0)
    else
      (fX9_restore_80 b (fX9_restore_70 b n) FU σ l2 l3 l4 l5 0)
theorem bX9_restore_70 {X : Xc} {K : Kc} (C : MC X K cX9_restore 7 RX9 rmX9_restore) (hr : K.meth.sig.returnType = (some .int)) (b : Nat) (hb : moOK b) : ∀ (n : Nat) (σ : Sg) (l2 : Int32) (l3 : Int32) (l4 : Int32) (l5 : Int32), GO X K 7 (fun r => MQi X K r.1 r.2) (fX9_restore_70 b n σ l2 l3 l4 l5) σ 0 0 70 [some (.ref (X.ad b)), none, some (.int (l2)), some (.int (l3)), some (.int (l4)), some (.int (l5)), none] [] := by
  intro n
  induction n with
  | zero =>
    intro σ l2 l3 l4 l5
    exact g_none
  | succ n ih =>
    intro σ l2 l3 l4 l5
    unfold fX9_restore_70
    refine g_iload (pc := 70) C dX9_restore_70 rfl ?_
    refine g_bipush (pc := 72) (v := 12) C dX9_restore_72 (by decide) ?_
    refine g_icmp_ge (pc := 74) (tgt := 124) C dX9_restore_74 rfl ?_ ?_
    · refine g_iconst (pc := 124) (v := 0) C dX9_restore_124 (by decide) ?_
      refine g_istore (pc := 125) C dX9_restore_125 (Nat.le_of_ble_eq_true rfl) rfl ?_
      refine g_keep [true, false, true, true, true, true, false] ?_
      exact bX9_restore_127 C hr b hb FU σ l2 l3 l4 0
    · refine g_iconst (pc := 77) (v := 0) C dX9_restore_77 (by decide) ?_
      refine g_istore (pc := 78) C dX9_restore_78 (Nat.le_of_ble_eq_true rfl) rfl ?_
      refine g_keep [true, false, true, true, true, true, true] ?_
      exact bX9_restore_80 C hr b hb ih FU σ l2 l3 l4 l5 0
def fX9_restore_38 (b : Nat) (σ : Sg) (l2 : Int32) (s1 : Int32) : Option (Int32 × Sg) :=
  (fX9_refused σ b s1).bind fun r3 =>
  if r3.1 = true then
    some (0, r3.2)
  else
    (fX9_saves r3.2 b).bind fun σ4 =>
    (fX9_window σ4 b 0 3 1).bind fun r5 =>
    (fX9_window σ4 b 0 4 1).bind fun r6 =>
    (fX9_restore_70 b FU σ4 l2 r5 r6 0)
theorem bX9_restore_38 {X : Xc} {K : Kc} (C : MC X K cX9_restore 7 RX9 rmX9_restore) (hr : K.meth.sig.returnType = (some .int)) (b : Nat) (hb : moOK b) (σ : Sg) (l2 : Int32) (s1 : Int32) : GO X K 7 (fun r => MQi X K r.1 r.2) (fX9_restore_38 b σ l2 s1) σ 0 0 38 [some (.ref (X.ad b)), none, some (.int (l2)), none, none, none, none] [.int (s1), .ref (X.ad b)] := by
  unfold fX9_restore_38
  refine g_callVi (pc := 38) (As := [.int (s1)]) C (kX9_refused X σ b s1 hb) (blk hb 0 rfl) rfl q_10_9 q_10_10 q_10_11 q_1_5 q_10_12 ⟨rfl, hdX9_refused⟩ ⟨Nat.le_of_ble_eq_true rfl, Nat.le_of_ble_eq_true rfl, rfl, rfl⟩ ⟨Nat.zero_le _, Nat.zero_le _⟩ (Nat.le_of_ble_eq_true rfl) rfl rfl dX9_restore_38 (fun r3 _ => ?_)
  refine g_ifb_eq (pc := 41) (tgt := 46) C dX9_restore_41 rfl ?_ ?_
  · refine g_iconst (pc := 44) (v := 0) C dX9_restore_44 (by decide) ?_
    exact g_iret (pc := 45) C hr dX9_restore_45 rfl
  · refine g_aload_n (pc := 46) (i := 0) C dX9_restore_46 rfl rfl ?_
    refine g_callVv (pc := 47) (As := []) C (kX9_saves X r3.2 b hb) (blk hb 0 rfl) rfl q_10_14 q_10_15 q_10_16 q_1_5 q_10_17 ⟨rfl, hdX9_saves⟩ ⟨Nat.le_of_ble_eq_true rfl, Nat.le_of_ble_eq_true rfl, rfl, rfl⟩ ⟨Nat.zero_le _, Nat.zero_le _⟩ (Nat.le_of_ble_eq_true rfl) rfl rfl dX9_restore_47 (fun σ4 _ => ?_)
    refine g_aload_n (pc := 50) (i := 0) C dX9_restore_50 rfl rfl ?_
    refine g_iconst (pc := 51) (v := 0) C dX9_restore_51 (by decide) ?_
    refine g_iconst (pc := 52) (v := 3) C dX9_restore_52 (by decide) ?_
    refine g_iconst (pc := 53) (v := 1) C dX9_restore_53 (by decide) ?_
    refine g_callVi (pc := 54) (As := [.int (0), .int (3), .int (1)]) C (kX9_window X σ4 b 0 3 1 hb) (blk hb 0 rfl) rfl q_22_12 q_22_13 q_22_14 q_1_5 q_22_15 ⟨rfl, hdX9_window⟩ ⟨Nat.le_of_ble_eq_true rfl, Nat.le_of_ble_eq_true rfl, rfl, rfl⟩ ⟨Nat.zero_le _, Nat.zero_le _⟩ (Nat.le_of_ble_eq_true rfl) rfl rfl dX9_restore_54 (fun r5 _ => ?_)
    refine g_istore_n (pc := 57) (i := 3) C dX9_restore_57 rfl (Nat.le_of_ble_eq_true rfl) rfl ?_
    refine g_aload_n (pc := 58) (i := 0) C dX9_restore_58 rfl rfl ?_
    refine g_iconst (pc := 59) (v := 0) C dX9_restore_59 (by decide) ?_
    refine g_iconst (pc := 60) (v := 4) C dX9_restore_60 (by decide) ?_
    refine g_iconst (pc := 61) (v := 1) C dX9_restore_61 (by decide) ?_
    refine g_callVi (pc := 62) (As := [.int (0), .int (4), .int (1)]) C (kX9_window X σ4 b 0 4 1 hb) (blk hb 0 rfl) rfl q_22_12 q_22_13 q_22_14 q_1_5 q_22_15 ⟨rfl, hdX9_window⟩ ⟨Nat.le_of_ble_eq_true rfl, Nat.le_of_ble_eq_true rfl, rfl, rfl⟩ ⟨Nat.zero_le _, Nat.zero_le _⟩ (Nat.le_of_ble_eq_true rfl) rfl rfl dX9_restore_62 (fun r6 _ => ?_)
    refine g_istore (pc := 65) C dX9_restore_65 (Nat.le_of_ble_eq_true rfl) rfl ?_
    refine g_iconst (pc := 67) (v := 0) C dX9_restore_67 (by decide) ?_
    refine g_istore (pc := 68) C dX9_restore_68 (Nat.le_of_ble_eq_true rfl) rfl ?_
    refine g_keep [true, false, true, true, true, true, false] ?_
    exact bX9_restore_70 C hr b hb FU σ4 l2 r5 r6 0
def fX9_restore (σ : Sg) (b : Nat) (p1 : Int32) : Option (Int32 × Sg) :=
  nm (264 + (219 * p1)) fun v1 =>
  (fX9_within σ p1 0 2).bind fun r2 =>
  if r2 = true then
    if ck v1 921 then
      if (σ.1 (b + 1) v1.toNatClampNeg) = 0 then
        (fX9_restore_38 b σ v1 2)
      else
        (fX9_restore_38 b σ v1 0)
    else none
  else
    (fX9_restore_38 b σ v1 1)
theorem kX9_restore (X : Xc) (σ : Sg) (b : Nat) (p1 : Int32) (hb : moOK b) : ∀ r, fX9_restore σ b p1 = some r → Met X.l yX9_restore (wsM yX9_restore cX9_restore 7 (some .int)) rmX9_restore (va_Pc [.ref (X.ad b), .int p1] (PW X σ)) (Qi X r.1 r.2) 0 0 X.A := by
  refine mt_of (own := RX9) (lo := [some (.ref (X.ad b)), some (.int (p1)), none, none, none, none, none]) (by decide) rfl (Nat.le_of_ble_eq_true rfl) rfl (fun K C hr => ?_)
  unfold fX9_restore
  refine g_sipush (pc := 0) (v := 264) C dX9_restore_0 (by decide) ?_
  refine g_sipush (pc := 3) (v := 219) C dX9_restore_3 (by decide) ?_
  refine g_iload_n (pc := 6) (i := 1) C dX9_restore_6 rfl rfl ?_
  refine g_imul (pc := 7) C dX9_restore_7 ?_
  refine g_iadd (pc := 8) C dX9_restore_8 ?_
  refine g_nm (fun v1 => ?_)
  refine g_istore_n (pc := 9) (i := 2) C dX9_restore_9 rfl (Nat.le_of_ble_eq_true rfl) rfl ?_
  refine g_aload_n (pc := 10) (i := 0) C dX9_restore_10 rfl rfl ?_
  refine g_iload_n (pc := 11) (i := 1) C dX9_restore_11 rfl rfl ?_
  refine g_iconst (pc := 12) (v := 0) C dX9_restore_12 (by decide) ?_
  refine g_iconst (pc := 13) (v := 2) C dX9_restore_13 (by decide) ?_
  refine g_callSi (pc := 14) (As := [.int (p1), .int (0), .int (2)]) C (kX9_within X σ p1 0 2) q_10_6 q_10_7 q_1_5 q_10_8 hdX9_within ⟨Nat.le_of_ble_eq_true rfl, Nat.le_of_ble_eq_true rfl, rfl, rfl⟩ ⟨Nat.zero_le _, Nat.zero_le _⟩ (Nat.le_of_ble_eq_true rfl) rfl rfl dX9_restore_14 (fun r2 _ => ?_)
  refine g_ifb_ne (pc := 17) (tgt := 24) C dX9_restore_17 rfl ?_ ?_
  · refine g_aload_n (pc := 24) (i := 0) C dX9_restore_24 rfl rfl ?_
    refine g_getr (pc := 25) (ci := 9) (N := 27) (T := TX9) (j := 0) (Cn := RX9) (b + 1) C rfl inlX9 (Nat.le_of_ble_eq_true rfl) q_6_2 (blk hb 0 rfl) rfl dX9_restore_25 ?_
    refine g_iload_n (pc := 28) (i := 2) C dX9_restore_28 rfl rfl ?_
    refine g_iaload (pc := 29) C (blk hb 1 rfl) dX9_restore_29 ?_
    refine g_if_ne (pc := 30) (tgt := 37) C dX9_restore_30 rfl ?_ ?_
    · refine g_iconst (pc := 33) (v := 2) C dX9_restore_33 (by decide) ?_
      refine g_goto (pc := 34) (tgt := 38) C dX9_restore_34 rfl ?_
      refine g_keep [true, false, true, false, false, false, false] ?_
      exact bX9_restore_38 C hr b hb σ v1 2
    · refine g_iconst (pc := 37) (v := 0) C dX9_restore_37 (by decide) ?_
      refine g_keep [true, false, true, false, false, false, false] ?_
      exact bX9_restore_38 C hr b hb σ v1 0
  · refine g_iconst (pc := 20) (v := 1) C dX9_restore_20 (by decide) ?_
    refine g_goto (pc := 21) (tgt := 38) C dX9_restore_21 rfl ?_
    refine g_keep [true, false, true, false, false, false, false] ?_
    exact bX9_restore_38 C hr b hb σ v1 1
theorem dX9_type_0 : decode cX9_type 0 = .ok (.aload_n 0, 1) := by decide +kernel
theorem dX9_type_1 : decode cX9_type 1 = .ok (.iload_n 1, 1) := by decide +kernel
theorem dX9_type_2 : decode cX9_type 2 = .ok (.bipush 32, 2) := by decide +kernel
theorem dX9_type_4 : decode cX9_type 4 = .ok (.bipush 126, 2) := by decide +kernel
theorem dX9_type_6 : decode cX9_type 6 = .ok (.invokestatic 61, 3) := by decide +kernel
theorem dX9_type_9 : decode cX9_type 9 = .ok (.ifCond .ne 7, 3) := by decide +kernel
theorem dX9_type_12 : decode cX9_type 12 = .ok (.iconst 1, 1) := by decide +kernel
theorem dX9_type_13 : decode cX9_type 13 = .ok (.goto 17, 3) := by decide +kernel
theorem dX9_type_16 : decode cX9_type 16 = .ok (.aload_n 0, 1) := by decide +kernel
theorem dX9_type_17 : decode cX9_type 17 = .ok (.getfield 257, 3) := by decide +kernel
theorem dX9_type_20 : decode cX9_type 20 = .ok (.bipush 120, 2) := by decide +kernel
theorem dX9_type_22 : decode cX9_type 22 = .ok (.if_icmp .ne 7, 3) := by decide +kernel
theorem dX9_type_25 : decode cX9_type 25 = .ok (.iconst 2, 1) := by decide +kernel
theorem dX9_type_26 : decode cX9_type 26 = .ok (.goto 4, 3) := by decide +kernel
theorem dX9_type_29 : decode cX9_type 29 = .ok (.iconst 0, 1) := by decide +kernel
theorem dX9_type_30 : decode cX9_type 30 = .ok (.invokevirtual 57, 3) := by decide +kernel
theorem dX9_type_33 : decode cX9_type 33 = .ok (.ifCond .eq 5, 3) := by decide +kernel
theorem dX9_type_36 : decode cX9_type 36 = .ok (.iconst 0, 1) := by decide +kernel
theorem dX9_type_37 : decode cX9_type 37 = .ok (.ireturn, 1) := by decide +kernel
theorem dX9_type_38 : decode cX9_type 38 = .ok (.aload_n 0, 1) := by decide +kernel
theorem dX9_type_39 : decode cX9_type 39 = .ok (.getfield 16, 3) := by decide +kernel
theorem dX9_type_42 : decode cX9_type 42 = .ok (.aload_n 0, 1) := by decide +kernel
theorem dX9_type_43 : decode cX9_type 43 = .ok (.getfield 257, 3) := by decide +kernel
theorem dX9_type_46 : decode cX9_type 46 = .ok (.iload_n 1, 1) := by decide +kernel
theorem dX9_type_47 : decode cX9_type 47 = .ok (.iastore, 1) := by decide +kernel
theorem dX9_type_48 : decode cX9_type 48 = .ok (.aload_n 0, 1) := by decide +kernel
theorem dX9_type_49 : decode cX9_type 49 = .ok (.dup, 1) := by decide +kernel
theorem dX9_type_50 : decode cX9_type 50 = .ok (.getfield 257, 3) := by decide +kernel
theorem dX9_type_53 : decode cX9_type 53 = .ok (.iconst 1, 1) := by decide +kernel
theorem dX9_type_54 : decode cX9_type 54 = .ok (.iadd, 1) := by decide +kernel
theorem dX9_type_55 : decode cX9_type 55 = .ok (.putfield 257, 3) := by decide +kernel
theorem dX9_type_58 : decode cX9_type 58 = .ok (.aload_n 0, 1) := by decide +kernel
theorem dX9_type_59 : decode cX9_type 59 = .ok (.getfield 257, 3) := by decide +kernel
theorem dX9_type_62 : decode cX9_type 62 = .ok (.ireturn, 1) := by decide +kernel
abbrev rmX9_type : Room := { frames := 1, cells := 0, slots := 0, locals := 22 }
theorem hdX9_type : yX9_type.cls ≠ "java/lang/invoke/MethodHandle" ∧ yX9_type.cls ≠ "java/lang/invoke/VarHandle" ∧ (parseMethodDescriptor yX9_type.desc).map (fun d => d.parameters.length) = some 1 := by decide +kernel
def fX9_type_30 (b : Nat) (σ : Sg) (l1 : Int32) (s1 : Int32) : Option (Int32 × Sg) :=
  (fX9_refused σ b s1).bind fun r2 =>
  if r2.1 = true then
    some (0, r2.2)
  else
    if ck (r2.2.1 b 5) 120 then
      nm (su r2.2 (b + 3) (r2.2.1 b 5).toNatClampNeg l1) fun σ3 =>
      nm (su σ3 b 5 ((σ3.1 b 5) + 1)) fun σ4 =>
      some (σ4.1 b 5, σ4)
    else none
theorem bX9_type_30 {X : Xc} {K : Kc} (C : MC X K cX9_type 2 RX9 rmX9_type) (hr : K.meth.sig.returnType = (some .int)) (b : Nat) (hb : moOK b) (σ : Sg) (l1 : Int32) (s1 : Int32) : GO X K 2 (fun r => MQi X K r.1 r.2) (fX9_type_30 b σ l1 s1) σ 0 0 30 [some (.ref (X.ad b)), some (.int (l1))] [.int (s1), .ref (X.ad b)] := by
  unfold fX9_type_30
  refine g_callVi (pc := 30) (As := [.int (s1)]) C (kX9_refused X σ b s1 hb) (blk hb 0 rfl) rfl q_10_9 q_10_10 q_10_11 q_1_5 q_10_12 ⟨rfl, hdX9_refused⟩ ⟨Nat.le_of_ble_eq_true rfl, Nat.le_of_ble_eq_true rfl, rfl, rfl⟩ ⟨Nat.zero_le _, Nat.zero_le _⟩ (Nat.le_of_ble_eq_true rfl) rfl rfl dX9_type_30 (fun r2 _ => ?_)
  refine g_ifb_eq (pc := 33) (tgt := 38) C dX9_type_33 rfl ?_ ?_
  · refine g_iconst (pc := 36) (v := 0) C dX9_type_36 (by decide) ?_
    exact g_iret (pc := 37) C hr dX9_type_37 rfl
  · refine g_aload_n (pc := 38) (i := 0) C dX9_type_38 rfl rfl ?_
    refine g_getr (pc := 39) (ci := 9) (N := 27) (T := TX9) (j := 4) (Cn := RX9) (b + 3) C rfl inlX9 (Nat.le_of_ble_eq_true rfl) q_6_4 (blk hb 0 rfl) rfl dX9_type_39 ?_
    refine g_aload_n (pc := 42) (i := 0) C dX9_type_42 rfl rfl ?_
    refine g_geti (pc := 43) (ci := 9) (N := 27) (T := TX9) (j := 5) (Cn := RX9) C rfl inlX9 (Nat.le_of_ble_eq_true rfl) q_49_12 (blk hb 0 rfl) rfl dX9_type_43 ?_
    refine g_iload_n (pc := 46) (i := 1) C dX9_type_46 rfl rfl ?_
    refine g_iastore (pc := 47) C (blk hb 3 rfl) dX9_type_47 ?_
    refine g_nms (fun σ3 => ?_)
    refine g_aload_n (pc := 48) (i := 0) C dX9_type_48 rfl rfl ?_
    refine g_dup (pc := 49) C dX9_type_49 rfl ?_
    refine g_geti (pc := 50) (ci := 9) (N := 27) (T := TX9) (j := 5) (Cn := RX9) C rfl inlX9 (Nat.le_of_ble_eq_true rfl) q_49_12 (blk hb 0 rfl) rfl dX9_type_50 ?_
    refine g_iconst (pc := 53) (v := 1) C dX9_type_53 (by decide) ?_
    refine g_iadd (pc := 54) C dX9_type_54 ?_
    refine g_puti (pc := 55) (ci := 9) (N := 27) (T := TX9) (j := 5) (Cn := RX9) C rfl inlX9 tyX9_ok nmX9 (Nat.le_of_ble_eq_true rfl) q_49_12 (blk hb 0 rfl) rfl rfl rfl dX9_type_55 ?_
    refine g_nms (fun σ4 => ?_)
    refine g_aload_n (pc := 58) (i := 0) C dX9_type_58 rfl rfl ?_
    refine g_geti (pc := 59) (ci := 9) (N := 27) (T := TX9) (j := 5) (Cn := RX9) C rfl inlX9 (Nat.le_of_ble_eq_true rfl) q_49_12 (blk hb 0 rfl) rfl dX9_type_59 ?_
    exact g_iret (pc := 62) C hr dX9_type_62 rfl
def fX9_type (σ : Sg) (b : Nat) (p1 : Int32) : Option (Int32 × Sg) :=
  (fX9_within σ p1 32 126).bind fun r1 =>
  if r1 = true then
    if (σ.1 b 5) = 120 then
      (fX9_type_30 b σ p1 2)
    else
      (fX9_type_30 b σ p1 0)
  else
    (fX9_type_30 b σ p1 1)
theorem kX9_type (X : Xc) (σ : Sg) (b : Nat) (p1 : Int32) (hb : moOK b) : ∀ r, fX9_type σ b p1 = some r → Met X.l yX9_type (wsM yX9_type cX9_type 2 (some .int)) rmX9_type (va_Pc [.ref (X.ad b), .int p1] (PW X σ)) (Qi X r.1 r.2) 0 0 X.A := by
  refine mt_of (own := RX9) (lo := [some (.ref (X.ad b)), some (.int (p1))]) (by decide) rfl (Nat.le_of_ble_eq_true rfl) rfl (fun K C hr => ?_)
  unfold fX9_type
  refine g_aload_n (pc := 0) (i := 0) C dX9_type_0 rfl rfl ?_
  refine g_iload_n (pc := 1) (i := 1) C dX9_type_1 rfl rfl ?_
  refine g_bipush (pc := 2) (v := 32) C dX9_type_2 (by decide) ?_
  refine g_bipush (pc := 4) (v := 126) C dX9_type_4 (by decide) ?_
  refine g_callSi (pc := 6) (As := [.int (p1), .int (32), .int (126)]) C (kX9_within X σ p1 32 126) q_10_6 q_10_7 q_1_5 q_10_8 hdX9_within ⟨Nat.le_of_ble_eq_true rfl, Nat.le_of_ble_eq_true rfl, rfl, rfl⟩ ⟨Nat.zero_le _, Nat.zero_le _⟩ (Nat.le_of_ble_eq_true rfl) rfl rfl dX9_type_6 (fun r1 _ => ?_)
  refine g_ifb_ne (pc := 9) (tgt := 16) C dX9_type_9 rfl ?_ ?_
  · refine g_aload_n (pc := 16) (i := 0) C dX9_type_16 rfl rfl ?_
    refine g_geti (pc := 17) (ci := 9) (N := 27) (T := TX9) (j := 5) (Cn := RX9) C rfl inlX9 (Nat.le_of_ble_eq_true rfl) q_49_12 (blk hb 0 rfl) rfl dX9_type_17 ?_
    refine g_bipush (pc := 20) (v := 120) C dX9_type_20 (by decide) ?_
    refine g_icmp_ne (pc := 22) (tgt := 29) C dX9_type_22 rfl ?_ ?_
    · refine g_iconst (pc := 25) (v := 2) C dX9_type_25 (by decide) ?_
      refine g_goto (pc := 26) (tgt := 30) C dX9_type_26 rfl ?_
      refine g_keep [true, true] ?_
      exact bX9_type_30 C hr b hb σ p1 2
    · refine g_iconst (pc := 29) (v := 0) C dX9_type_29 (by decide) ?_
      refine g_keep [true, true] ?_
      exact bX9_type_30 C hr b hb σ p1 0
  · refine g_iconst (pc := 12) (v := 1) C dX9_type_12 (by decide) ?_
    refine g_goto (pc := 13) (tgt := 30) C dX9_type_13 rfl ?_
    refine g_keep [true, true] ?_
    exact bX9_type_30 C hr b hb σ p1 1
theorem dX9_clearText_0 : decode cX9_clearText 0 = .ok (.aload_n 0, 1) := by decide +kernel
theorem dX9_clearText_1 : decode cX9_clearText 1 = .ok (.iconst 0, 1) := by decide +kernel
theorem dX9_clearText_2 : decode cX9_clearText 2 = .ok (.putfield 50, 3) := by decide +kernel
theorem dX9_clearText_5 : decode cX9_clearText 5 = .ok (.aload_n 0, 1) := by decide +kernel
theorem dX9_clearText_6 : decode cX9_clearText 6 = .ok (.getfield 257, 3) := by decide +kernel
theorem dX9_clearText_9 : decode cX9_clearText 9 = .ok (.istore_n 1, 1) := by decide +kernel
theorem dX9_clearText_10 : decode cX9_clearText 10 = .ok (.aload_n 0, 1) := by decide +kernel
theorem dX9_clearText_11 : decode cX9_clearText 11 = .ok (.iconst 0, 1) := by decide +kernel
theorem dX9_clearText_12 : decode cX9_clearText 12 = .ok (.putfield 257, 3) := by decide +kernel
theorem dX9_clearText_15 : decode cX9_clearText 15 = .ok (.iload_n 1, 1) := by decide +kernel
theorem dX9_clearText_16 : decode cX9_clearText 16 = .ok (.ireturn, 1) := by decide +kernel
abbrev rmX9_clearText : Room := { frames := 0, cells := 0, slots := 0, locals := 0 }
theorem hdX9_clearText : yX9_clearText.cls ≠ "java/lang/invoke/MethodHandle" ∧ yX9_clearText.cls ≠ "java/lang/invoke/VarHandle" ∧ (parseMethodDescriptor yX9_clearText.desc).map (fun d => d.parameters.length) = some 0 := by decide +kernel
def fX9_clearText (σ : Sg) (b : Nat) : Option (Int32 × Sg) :=
  nm (su σ b 3 0) fun σ1 =>
  nm (σ1.1 b 5) fun v2 =>
  nm (su σ1 b 5 0) fun σ3 =>
  some (v2, σ3)
theorem kX9_clearText (X : Xc) (σ : Sg) (b : Nat) (hb : moOK b) : ∀ r, fX9_clearText σ b = some r → Met X.l yX9_clearText (wsM yX9_clearText cX9_clearText 2 (some .int)) rmX9_clearText (va_Pc [.ref (X.ad b)] (PW X σ)) (Qi X r.1 r.2) 0 0 X.A := by
  refine mt_of (own := RX9) (lo := [some (.ref (X.ad b)), none]) (by decide) rfl (Nat.le_of_ble_eq_true rfl) rfl (fun K C hr => ?_)
  unfold fX9_clearText
  refine g_aload_n (pc := 0) (i := 0) C dX9_clearText_0 rfl rfl ?_
  refine g_iconst (pc := 1) (v := 0) C dX9_clearText_1 (by decide) ?_
  refine g_puti (pc := 2) (ci := 9) (N := 27) (T := TX9) (j := 3) (Cn := RX9) C rfl inlX9 tyX9_ok nmX9 (Nat.le_of_ble_eq_true rfl) q_10_13 (blk hb 0 rfl) rfl rfl rfl dX9_clearText_2 ?_
  refine g_nms (fun σ1 => ?_)
  refine g_aload_n (pc := 5) (i := 0) C dX9_clearText_5 rfl rfl ?_
  refine g_geti (pc := 6) (ci := 9) (N := 27) (T := TX9) (j := 5) (Cn := RX9) C rfl inlX9 (Nat.le_of_ble_eq_true rfl) q_49_12 (blk hb 0 rfl) rfl dX9_clearText_6 ?_
  refine g_nm (fun v2 => ?_)
  refine g_istore_n (pc := 9) (i := 1) C dX9_clearText_9 rfl (Nat.le_of_ble_eq_true rfl) rfl ?_
  refine g_aload_n (pc := 10) (i := 0) C dX9_clearText_10 rfl rfl ?_
  refine g_iconst (pc := 11) (v := 0) C dX9_clearText_11 (by decide) ?_
  refine g_puti (pc := 12) (ci := 9) (N := 27) (T := TX9) (j := 5) (Cn := RX9) C rfl inlX9 tyX9_ok nmX9 (Nat.le_of_ble_eq_true rfl) q_49_12 (blk hb 0 rfl) rfl rfl rfl dX9_clearText_12 ?_
  refine g_nms (fun σ3 => ?_)
  refine g_iload_n (pc := 15) (i := 1) C dX9_clearText_15 rfl rfl ?_
  exact g_iret (pc := 16) C hr dX9_clearText_16 rfl
theorem dX9_next_0 : decode cX9_next 0 = .ok (.aload_n 0, 1) := by decide +kernel
theorem dX9_next_1 : decode cX9_next 1 = .ok (.getfield 260, 3) := by decide +kernel
theorem dX9_next_4 : decode cX9_next 4 = .ok (.aload_n 0, 1) := by decide +kernel
theorem dX9_next_5 : decode cX9_next 5 = .ok (.getfield 257, 3) := by decide +kernel
theorem dX9_next_8 : decode cX9_next 8 = .ok (.if_icmp .ge 15, 3) := by decide +kernel
theorem dX9_next_11 : decode cX9_next 11 = .ok (.aload_n 0, 1) := by decide +kernel
theorem dX9_next_12 : decode cX9_next 12 = .ok (.getfield 16, 3) := by decide +kernel
theorem dX9_next_15 : decode cX9_next 15 = .ok (.aload_n 0, 1) := by decide +kernel
theorem dX9_next_16 : decode cX9_next 16 = .ok (.getfield 260, 3) := by decide +kernel
theorem dX9_next_19 : decode cX9_next 19 = .ok (.iaload, 1) := by decide +kernel
theorem dX9_next_20 : decode cX9_next 20 = .ok (.goto 4, 3) := by decide +kernel
theorem dX9_next_23 : decode cX9_next 23 = .ok (.iconst 0, 1) := by decide +kernel
theorem dX9_next_24 : decode cX9_next 24 = .ok (.ireturn, 1) := by decide +kernel
abbrev rmX9_next : Room := { frames := 0, cells := 0, slots := 0, locals := 0 }
theorem hdX9_next : yX9_next.cls ≠ "java/lang/invoke/MethodHandle" ∧ yX9_next.cls ≠ "java/lang/invoke/VarHandle" ∧ (parseMethodDescriptor yX9_next.desc).map (fun d => d.parameters.length) = some 0 := by decide +kernel
def fX9_next (σ : Sg) (b : Nat) : Option Int32 :=
  if (σ.1 b 5) ≤ (σ.1 b 15) then
    some 0
  else
    if ck (σ.1 b 15) 120 then
      some (σ.1 (b + 3) (σ.1 b 15).toNatClampNeg)
    else none
theorem kX9_next (X : Xc) (σ : Sg) (b : Nat) (hb : moOK b) : ∀ r, fX9_next σ b = some r → Met X.l yX9_next (wsM yX9_next cX9_next 1 (some .int)) rmX9_next (va_Pc [.ref (X.ad b)] (PW X σ)) (Qi X r σ) 0 0 X.A := by
  refine mt_of (own := RX9) (lo := [some (.ref (X.ad b))]) (by decide) rfl (Nat.le_of_ble_eq_true rfl) rfl (fun K C hr => ?_)
  unfold fX9_next
  refine g_aload_n (pc := 0) (i := 0) C dX9_next_0 rfl rfl ?_
  refine g_geti (pc := 1) (ci := 9) (N := 27) (T := TX9) (j := 15) (Cn := RX9) C rfl inlX9 (Nat.le_of_ble_eq_true rfl) q_52_17 (blk hb 0 rfl) rfl dX9_next_1 ?_
  refine g_aload_n (pc := 4) (i := 0) C dX9_next_4 rfl rfl ?_
  refine g_geti (pc := 5) (ci := 9) (N := 27) (T := TX9) (j := 5) (Cn := RX9) C rfl inlX9 (Nat.le_of_ble_eq_true rfl) q_49_12 (blk hb 0 rfl) rfl dX9_next_5 ?_
  refine g_icmp_ge (pc := 8) (tgt := 23) C dX9_next_8 rfl ?_ ?_
  · refine g_iconst (pc := 23) (v := 0) C dX9_next_23 (by decide) ?_
    exact g_iret (pc := 24) C hr dX9_next_24 rfl
  · refine g_aload_n (pc := 11) (i := 0) C dX9_next_11 rfl rfl ?_
    refine g_getr (pc := 12) (ci := 9) (N := 27) (T := TX9) (j := 4) (Cn := RX9) (b + 3) C rfl inlX9 (Nat.le_of_ble_eq_true rfl) q_6_4 (blk hb 0 rfl) rfl dX9_next_12 ?_
    refine g_aload_n (pc := 15) (i := 0) C dX9_next_15 rfl rfl ?_
    refine g_geti (pc := 16) (ci := 9) (N := 27) (T := TX9) (j := 15) (Cn := RX9) C rfl inlX9 (Nat.le_of_ble_eq_true rfl) q_52_17 (blk hb 0 rfl) rfl dX9_next_16 ?_
    refine g_iaload (pc := 19) C (blk hb 3 rfl) dX9_next_19 ?_
    refine g_goto (pc := 20) (tgt := 24) C dX9_next_20 rfl ?_
    exact g_iret (pc := 24) C hr dX9_next_24 rfl
theorem dX9_takes__0 : decode cX9_takes_ 0 = .ok (.aload_n 0, 1) := by decide +kernel
theorem dX9_takes__1 : decode cX9_takes_ 1 = .ok (.getfield 263, 3) := by decide +kernel
theorem dX9_takes__4 : decode cX9_takes_ 4 = .ok (.iconst (-1), 1) := by decide +kernel
theorem dX9_takes__5 : decode cX9_takes_ 5 = .ok (.if_icmp .ne 27, 3) := by decide +kernel
theorem dX9_takes__8 : decode cX9_takes_ 8 = .ok (.iload_n 2, 1) := by decide +kernel
theorem dX9_takes__9 : decode cX9_takes_ 9 = .ok (.ifCond .eq 23, 3) := by decide +kernel
theorem dX9_takes__12 : decode cX9_takes_ 12 = .ok (.aload_n 0, 1) := by decide +kernel
theorem dX9_takes__13 : decode cX9_takes_ 13 = .ok (.invokevirtual 266, 3) := by decide +kernel
theorem dX9_takes__16 : decode cX9_takes_ 16 = .ok (.iload_n 1, 1) := by decide +kernel
theorem dX9_takes__17 : decode cX9_takes_ 17 = .ok (.if_icmp .ne 15, 3) := by decide +kernel
theorem dX9_takes__20 : decode cX9_takes_ 20 = .ok (.aload_n 0, 1) := by decide +kernel
theorem dX9_takes__21 : decode cX9_takes_ 21 = .ok (.dup, 1) := by decide +kernel
theorem dX9_takes__22 : decode cX9_takes_ 22 = .ok (.getfield 260, 3) := by decide +kernel
theorem dX9_takes__25 : decode cX9_takes_ 25 = .ok (.iconst 1, 1) := by decide +kernel
theorem dX9_takes__26 : decode cX9_takes_ 26 = .ok (.iadd, 1) := by decide +kernel
theorem dX9_takes__27 : decode cX9_takes_ 27 = .ok (.putfield 260, 3) := by decide +kernel
theorem dX9_takes__30 : decode cX9_takes_ 30 = .ok (.iconst 1, 1) := by decide +kernel
theorem dX9_takes__31 : decode cX9_takes_ 31 = .ok (.ireturn, 1) := by decide +kernel
theorem dX9_takes__32 : decode cX9_takes_ 32 = .ok (.aload_n 0, 1) := by decide +kernel
theorem dX9_takes__33 : decode cX9_takes_ 33 = .ok (.aload_n 0, 1) := by decide +kernel
theorem dX9_takes__34 : decode cX9_takes_ 34 = .ok (.getfield 263, 3) := by decide +kernel
theorem dX9_takes__37 : decode cX9_takes_ 37 = .ok (.iconst (-1), 1) := by decide +kernel
theorem dX9_takes__38 : decode cX9_takes_ 38 = .ok (.if_icmp .ne 10, 3) := by decide +kernel
theorem dX9_takes__41 : decode cX9_takes_ 41 = .ok (.aload_n 0, 1) := by decide +kernel
theorem dX9_takes__42 : decode cX9_takes_ 42 = .ok (.getfield 260, 3) := by decide +kernel
theorem dX9_takes__45 : decode cX9_takes_ 45 = .ok (.goto 7, 3) := by decide +kernel
theorem dX9_takes__48 : decode cX9_takes_ 48 = .ok (.aload_n 0, 1) := by decide +kernel
theorem dX9_takes__49 : decode cX9_takes_ 49 = .ok (.getfield 263, 3) := by decide +kernel
theorem dX9_takes__52 : decode cX9_takes_ 52 = .ok (.putfield 263, 3) := by decide +kernel
theorem dX9_takes__55 : decode cX9_takes_ 55 = .ok (.iconst 0, 1) := by decide +kernel
theorem dX9_takes__56 : decode cX9_takes_ 56 = .ok (.ireturn, 1) := by decide +kernel
abbrev rmX9_takes_ : Room := { frames := 1, cells := 0, slots := 0, locals := 20 }
theorem hdX9_takes_ : yX9_takes_.cls ≠ "java/lang/invoke/MethodHandle" ∧ yX9_takes_.cls ≠ "java/lang/invoke/VarHandle" ∧ (parseMethodDescriptor yX9_takes_.desc).map (fun d => d.parameters.length) = some 2 := by decide +kernel
def fX9_takes__52 (b : Nat) (σ : Sg) (s1 : Int32) : Option (Bool × Sg) :=
  nm (su σ b 16 s1) fun σ3 =>
  some (false, σ3)
theorem bX9_takes__52 {X : Xc} {K : Kc} (C : MC X K cX9_takes_ 3 RX9 rmX9_takes_) (hr : K.meth.sig.returnType = (some .boolean)) (b : Nat) (hb : moOK b) (σ : Sg) (s1 : Int32) : GO X K 3 (fun r => MQi X K (b2i r.1) r.2) (fX9_takes__52 b σ s1) σ 0 0 52 [none, none, none] [.int (s1), .ref (X.ad b)] := by
  unfold fX9_takes__52
  refine g_puti (pc := 52) (ci := 9) (N := 27) (T := TX9) (j := 16) (Cn := RX9) C rfl inlX9 tyX9_ok nmX9 (Nat.le_of_ble_eq_true rfl) q_52_18 (blk hb 0 rfl) rfl rfl rfl dX9_takes__52 ?_
  refine g_nms (fun σ3 => ?_)
  refine g_iconst (pc := 55) (v := 0) C dX9_takes__55 (by decide) ?_
  exact g_zret (pc := 56) C hr dX9_takes__56 rfl
def fX9_takes__32 (b : Nat) (σ : Sg) : Option (Bool × Sg) :=
  if (σ.1 b 16) = (-1) then
    (fX9_takes__52 b σ (σ.1 b 15))
  else
    (fX9_takes__52 b σ (σ.1 b 16))
theorem bX9_takes__32 {X : Xc} {K : Kc} (C : MC X K cX9_takes_ 3 RX9 rmX9_takes_) (hr : K.meth.sig.returnType = (some .boolean)) (b : Nat) (hb : moOK b) (σ : Sg) : GO X K 3 (fun r => MQi X K (b2i r.1) r.2) (fX9_takes__32 b σ) σ 0 0 32 [some (.ref (X.ad b)), none, none] [] := by
  unfold fX9_takes__32
  refine g_aload_n (pc := 32) (i := 0) C dX9_takes__32 rfl rfl ?_
  refine g_aload_n (pc := 33) (i := 0) C dX9_takes__33 rfl rfl ?_
  refine g_geti (pc := 34) (ci := 9) (N := 27) (T := TX9) (j := 16) (Cn := RX9) C rfl inlX9 (Nat.le_of_ble_eq_true rfl) q_52_18 (blk hb 0 rfl) rfl dX9_takes__34 ?_
  refine g_iconst (pc := 37) (v := (-1)) C dX9_takes__37 (by decide) ?_
  refine g_icmp_ne (pc := 38) (tgt := 48) C dX9_takes__38 rfl ?_ ?_
  · refine g_aload_n (pc := 41) (i := 0) C dX9_takes__41 rfl rfl ?_
    refine g_geti (pc := 42) (ci := 9) (N := 27) (T := TX9) (j := 15) (Cn := RX9) C rfl inlX9 (Nat.le_of_ble_eq_true rfl) q_52_17 (blk hb 0 rfl) rfl dX9_takes__42 ?_
    refine g_goto (pc := 45) (tgt := 52) C dX9_takes__45 rfl ?_
    refine g_keep [false, false, false] ?_
    exact bX9_takes__52 C hr b hb σ (σ.1 b 15)
  · refine g_aload_n (pc := 48) (i := 0) C dX9_takes__48 rfl rfl ?_
    refine g_geti (pc := 49) (ci := 9) (N := 27) (T := TX9) (j := 16) (Cn := RX9) C rfl inlX9 (Nat.le_of_ble_eq_true rfl) q_52_18 (blk hb 0 rfl) rfl dX9_takes__49 ?_
    refine g_keep [false, false, false] ?_
    exact bX9_takes__52 C hr b hb σ (σ.1 b 16)
def fX9_takes_ (σ : Sg) (b : Nat) (p1 : Int32) (p2 : Int32) : Option (Bool × Sg) :=
  if (σ.1 b 16) = (-1) then
    if p2 = 0 then
      (fX9_takes__32 b σ)
    else
      (fX9_next σ b).bind fun r1 =>
      if r1 = p1 then
        nm (su σ b 15 ((σ.1 b 15) + 1)) fun σ2 =>
        some (true, σ2)
      else
        (fX9_takes__32 b σ)
  else
    (fX9_takes__32 b σ)
theorem kX9_takes_ (X : Xc) (σ : Sg) (b : Nat) (p1 : Int32) (p2 : Int32) (hb : moOK b) : ∀ r, fX9_takes_ σ b p1 p2 = some r → Met X.l yX9_takes_ (wsM yX9_takes_ cX9_takes_ 3 (some .boolean)) rmX9_takes_ (va_Pc [.ref (X.ad b), .int p1, .int p2] (PW X σ)) (Qi X (b2i r.1) r.2) 0 0 X.A := by
  refine mt_of (own := RX9) (lo := [some (.ref (X.ad b)), some (.int (p1)), some (.int (p2))]) (by decide) rfl (Nat.le_of_ble_eq_true rfl) rfl (fun K C hr => ?_)
  unfold fX9_takes_
  refine g_aload_n (pc := 0) (i := 0) C dX9_takes__0 rfl rfl ?_
  refine g_geti (pc := 1) (ci := 9) (N := 27) (T := TX9) (j := 16) (Cn := RX9) C rfl inlX9 (Nat.le_of_ble_eq_true rfl) q_52_18 (blk hb 0 rfl) rfl dX9_takes__1 ?_
  refine g_iconst (pc := 4) (v := (-1)) C dX9_takes__4 (by decide) ?_
  refine g_icmp_ne (pc := 5) (tgt := 32) C dX9_takes__5 rfl ?_ ?_
  · refine g_iload_n (pc := 8) (i := 2) C dX9_takes__8 rfl rfl ?_
    refine g_if_eq (pc := 9) (tgt := 32) C dX9_takes__9 rfl ?_ ?_
    · refine g_keep [true, false, false] ?_
      exact bX9_takes__32 C hr b hb σ
    · refine g_aload_n (pc := 12) (i := 0) C dX9_takes__12 rfl rfl ?_
      refine g_callVi (pc := 13) (As := []) C (kX9_next X σ b hb) (blk hb 0 rfl) rfl q_52_22 q_52_23 q_53_0 q_1_5 q_53_1 ⟨rfl, hdX9_next⟩ ⟨Nat.le_of_ble_eq_true rfl, Nat.le_of_ble_eq_true rfl, rfl, rfl⟩ ⟨Nat.zero_le _, Nat.zero_le _⟩ (Nat.le_of_ble_eq_true rfl) rfl rfl dX9_takes__13 (fun r1 _ => ?_)
      refine g_iload_n (pc := 16) (i := 1) C dX9_takes__16 rfl rfl ?_
      refine g_icmp_ne (pc := 17) (tgt := 32) C dX9_takes__17 rfl ?_ ?_
      · refine g_aload_n (pc := 20) (i := 0) C dX9_takes__20 rfl rfl ?_
        refine g_dup (pc := 21) C dX9_takes__21 rfl ?_
        refine g_geti (pc := 22) (ci := 9) (N := 27) (T := TX9) (j := 15) (Cn := RX9) C rfl inlX9 (Nat.le_of_ble_eq_true rfl) q_52_17 (blk hb 0 rfl) rfl dX9_takes__22 ?_
        refine g_iconst (pc := 25) (v := 1) C dX9_takes__25 (by decide) ?_
        refine g_iadd (pc := 26) C dX9_takes__26 ?_
        refine g_puti (pc := 27) (ci := 9) (N := 27) (T := TX9) (j := 15) (Cn := RX9) C rfl inlX9 tyX9_ok nmX9 (Nat.le_of_ble_eq_true rfl) q_52_17 (blk hb 0 rfl) rfl rfl rfl dX9_takes__27 ?_
        refine g_nms (fun σ2 => ?_)
        refine g_iconst (pc := 30) (v := 1) C dX9_takes__30 (by decide) ?_
        exact g_zret (pc := 31) C hr dX9_takes__31 rfl
      · refine g_keep [true, false, false] ?_
        exact bX9_takes__32 C hr b hb σ
  · refine g_keep [true, false, false] ?_
    exact bX9_takes__32 C hr b hb σ
theorem dX9_isPaneNext_0 : decode cX9_isPaneNext 0 = .ok (.aload_n 0, 1) := by decide +kernel
theorem dX9_isPaneNext_1 : decode cX9_isPaneNext 1 = .ok (.invokevirtual 266, 3) := by decide +kernel
theorem dX9_isPaneNext_4 : decode cX9_isPaneNext 4 = .ok (.bipush 97, 2) := by decide +kernel
theorem dX9_isPaneNext_6 : decode cX9_isPaneNext 6 = .ok (.isub, 1) := by decide +kernel
theorem dX9_isPaneNext_7 : decode cX9_isPaneNext 7 = .ok (.istore_n 1, 1) := by decide +kernel
theorem dX9_isPaneNext_8 : decode cX9_isPaneNext 8 = .ok (.aload_n 0, 1) := by decide +kernel
theorem dX9_isPaneNext_9 : decode cX9_isPaneNext 9 = .ok (.iload_n 1, 1) := by decide +kernel
theorem dX9_isPaneNext_10 : decode cX9_isPaneNext 10 = .ok (.invokevirtual 144, 3) := by decide +kernel
theorem dX9_isPaneNext_13 : decode cX9_isPaneNext 13 = .ok (.ifCond .eq 39, 3) := by decide +kernel
theorem dX9_isPaneNext_16 : decode cX9_isPaneNext 16 = .ok (.aload_n 0, 1) := by decide +kernel
theorem dX9_isPaneNext_17 : decode cX9_isPaneNext 17 = .ok (.getfield 269, 3) := by decide +kernel
theorem dX9_isPaneNext_20 : decode cX9_isPaneNext 20 = .ok (.iload_n 1, 1) := by decide +kernel
theorem dX9_isPaneNext_21 : decode cX9_isPaneNext 21 = .ok (.ishr, 1) := by decide +kernel
theorem dX9_isPaneNext_22 : decode cX9_isPaneNext 22 = .ok (.iconst 1, 1) := by decide +kernel
theorem dX9_isPaneNext_23 : decode cX9_isPaneNext 23 = .ok (.iand, 1) := by decide +kernel
theorem dX9_isPaneNext_24 : decode cX9_isPaneNext 24 = .ok (.ifCond .ne 28, 3) := by decide +kernel
theorem dX9_isPaneNext_27 : decode cX9_isPaneNext 27 = .ok (.aload_n 0, 1) := by decide +kernel
theorem dX9_isPaneNext_28 : decode cX9_isPaneNext 28 = .ok (.iload_n 1, 1) := by decide +kernel
theorem dX9_isPaneNext_29 : decode cX9_isPaneNext 29 = .ok (.invokevirtual 69, 3) := by decide +kernel
theorem dX9_isPaneNext_32 : decode cX9_isPaneNext 32 = .ok (.ifCond .eq 16, 3) := by decide +kernel
theorem dX9_isPaneNext_35 : decode cX9_isPaneNext 35 = .ok (.aload_n 0, 1) := by decide +kernel
theorem dX9_isPaneNext_36 : decode cX9_isPaneNext 36 = .ok (.aload_n 0, 1) := by decide +kernel
theorem dX9_isPaneNext_37 : decode cX9_isPaneNext 37 = .ok (.iload_n 1, 1) := by decide +kernel
theorem dX9_isPaneNext_38 : decode cX9_isPaneNext 38 = .ok (.iconst 3, 1) := by decide +kernel
theorem dX9_isPaneNext_39 : decode cX9_isPaneNext 39 = .ok (.invokevirtual 65, 3) := by decide +kernel
theorem dX9_isPaneNext_42 : decode cX9_isPaneNext 42 = .ok (.invokevirtual 91, 3) := by decide +kernel
theorem dX9_isPaneNext_45 : decode cX9_isPaneNext 45 = .ok (.ifCond .ne 7, 3) := by decide +kernel
theorem dX9_isPaneNext_48 : decode cX9_isPaneNext 48 = .ok (.iconst 1, 1) := by decide +kernel
theorem dX9_isPaneNext_49 : decode cX9_isPaneNext 49 = .ok (.goto 4, 3) := by decide +kernel
theorem dX9_isPaneNext_52 : decode cX9_isPaneNext 52 = .ok (.iconst 0, 1) := by decide +kernel
theorem dX9_isPaneNext_53 : decode cX9_isPaneNext 53 = .ok (.ireturn, 1) := by decide +kernel
abbrev rmX9_isPaneNext : Room := { frames := 3, cells := 0, slots := 0, locals := 67 }
theorem hdX9_isPaneNext : yX9_isPaneNext.cls ≠ "java/lang/invoke/MethodHandle" ∧ yX9_isPaneNext.cls ≠ "java/lang/invoke/VarHandle" ∧ (parseMethodDescriptor yX9_isPaneNext.desc).map (fun d => d.parameters.length) = some 0 := by decide +kernel
def fX9_isPaneNext (σ : Sg) (b : Nat) : Option Bool :=
  (fX9_next σ b).bind fun r1 =>
  nm (r1 - 97) fun v2 =>
  (fX9_isPane σ b v2).bind fun r3 =>
  if r3 = true then
    if (((σ.1 b 20) >>> (v2 &&& 31)) &&& 1) = 0 then
      (fX9_isPlaced σ b v2).bind fun r4 =>
      if r4 = true then
        (fX9_of σ b v2 3).bind fun r5 =>
        (fX9_windowOf σ b r5).bind fun r6 =>
        if r6 = 0 then
          some true
        else
          some false
      else
        some true
    else
      some false
  else
    some false
theorem kX9_isPaneNext (X : Xc) (σ : Sg) (b : Nat) (hb : moOK b) : ∀ r, fX9_isPaneNext σ b = some r → Met X.l yX9_isPaneNext (wsM yX9_isPaneNext cX9_isPaneNext 2 (some .boolean)) rmX9_isPaneNext (va_Pc [.ref (X.ad b)] (PW X σ)) (Qi X (b2i r) σ) 0 0 X.A := by
  refine mt_of (own := RX9) (lo := [some (.ref (X.ad b)), none]) (by decide) rfl (Nat.le_of_ble_eq_true rfl) rfl (fun K C hr => ?_)
  unfold fX9_isPaneNext
  refine g_aload_n (pc := 0) (i := 0) C dX9_isPaneNext_0 rfl rfl ?_
  refine g_callVi (pc := 1) (As := []) C (kX9_next X σ b hb) (blk hb 0 rfl) rfl q_52_22 q_52_23 q_53_0 q_1_5 q_53_1 ⟨rfl, hdX9_next⟩ ⟨Nat.le_of_ble_eq_true rfl, Nat.le_of_ble_eq_true rfl, rfl, rfl⟩ ⟨Nat.zero_le _, Nat.zero_le _⟩ (Nat.le_of_ble_eq_true rfl) rfl rfl dX9_isPaneNext_1 (fun r1 _ => ?_)
  refine g_bipush (pc := 4) (v := 97) C dX9_isPaneNext_4 (by decide) ?_
  refine g_isub (pc := 6) C dX9_isPaneNext_6 ?_
  refine g_nm (fun v2 => ?_)
  refine g_istore_n (pc := 7) (i := 1) C dX9_isPaneNext_7 rfl (Nat.le_of_ble_eq_true rfl) rfl ?_
  refine g_aload_n (pc := 8) (i := 0) C dX9_isPaneNext_8 rfl rfl ?_
  refine g_iload_n (pc := 9) (i := 1) C dX9_isPaneNext_9 rfl rfl ?_
  refine g_callVi (pc := 10) (As := [.int (v2)]) C (kX9_isPane X σ b v2 hb) (blk hb 0 rfl) rfl q_19_16 q_19_17 q_19_18 q_1_5 q_19_19 ⟨rfl, hdX9_isPane⟩ ⟨Nat.le_of_ble_eq_true rfl, Nat.le_of_ble_eq_true rfl, rfl, rfl⟩ ⟨Nat.zero_le _, Nat.zero_le _⟩ (Nat.le_of_ble_eq_true rfl) rfl rfl dX9_isPaneNext_10 (fun r3 _ => ?_)
  refine g_ifb_eq (pc := 13) (tgt := 52) C dX9_isPaneNext_13 rfl ?_ ?_
  · refine g_aload_n (pc := 16) (i := 0) C dX9_isPaneNext_16 rfl rfl ?_
    refine g_geti (pc := 17) (ci := 9) (N := 27) (T := TX9) (j := 20) (Cn := RX9) C rfl inlX9 (Nat.le_of_ble_eq_true rfl) q_52_20 (blk hb 0 rfl) rfl dX9_isPaneNext_17 ?_
    refine g_iload_n (pc := 20) (i := 1) C dX9_isPaneNext_20 rfl rfl ?_
    refine g_ishr (pc := 21) C dX9_isPaneNext_21 ?_
    refine g_iconst (pc := 22) (v := 1) C dX9_isPaneNext_22 (by decide) ?_
    refine g_iand (pc := 23) C dX9_isPaneNext_23 ?_
    refine g_if_ne (pc := 24) (tgt := 52) C dX9_isPaneNext_24 rfl ?_ ?_
    · refine g_aload_n (pc := 27) (i := 0) C dX9_isPaneNext_27 rfl rfl ?_
      refine g_iload_n (pc := 28) (i := 1) C dX9_isPaneNext_28 rfl rfl ?_
      refine g_callVi (pc := 29) (As := [.int (v2)]) C (kX9_isPlaced X σ b v2 hb) (blk hb 0 rfl) rfl q_20_0 q_20_1 q_20_2 q_1_5 q_20_3 ⟨rfl, hdX9_isPlaced⟩ ⟨Nat.le_of_ble_eq_true rfl, Nat.le_of_ble_eq_true rfl, rfl, rfl⟩ ⟨Nat.zero_le _, Nat.zero_le _⟩ (Nat.le_of_ble_eq_true rfl) rfl rfl dX9_isPaneNext_29 (fun r4 _ => ?_)
      refine g_ifb_eq (pc := 32) (tgt := 48) C dX9_isPaneNext_32 rfl ?_ ?_
      · refine g_aload_n (pc := 35) (i := 0) C dX9_isPaneNext_35 rfl rfl ?_
        refine g_aload_n (pc := 36) (i := 0) C dX9_isPaneNext_36 rfl rfl ?_
        refine g_iload_n (pc := 37) (i := 1) C dX9_isPaneNext_37 rfl rfl ?_
        refine g_iconst (pc := 38) (v := 3) C dX9_isPaneNext_38 (by decide) ?_
        refine g_callVi (pc := 39) (As := [.int (v2), .int (3)]) C (kX9_of X σ b v2 3 hb) (blk hb 0 rfl) rfl q_10_2 q_10_3 q_10_4 q_1_5 q_10_5 ⟨rfl, hdX9_of⟩ ⟨Nat.le_of_ble_eq_true rfl, Nat.le_of_ble_eq_true rfl, rfl, rfl⟩ ⟨Nat.zero_le _, Nat.zero_le _⟩ (Nat.le_of_ble_eq_true rfl) rfl rfl dX9_isPaneNext_39 (fun r5 _ => ?_)
        refine g_callVi (pc := 42) (As := [.int (r5)]) C (kX9_windowOf X σ b r5 hb) (blk hb 0 rfl) rfl q_22_4 q_22_5 q_22_6 q_1_5 q_22_7 ⟨rfl, hdX9_windowOf⟩ ⟨Nat.le_of_ble_eq_true rfl, Nat.le_of_ble_eq_true rfl, rfl, rfl⟩ ⟨Nat.zero_le _, Nat.zero_le _⟩ (Nat.le_of_ble_eq_true rfl) rfl rfl dX9_isPaneNext_42 (fun r6 _ => ?_)
        refine g_if_ne (pc := 45) (tgt := 52) C dX9_isPaneNext_45 rfl ?_ ?_
        · refine g_iconst (pc := 48) (v := 1) C dX9_isPaneNext_48 (by decide) ?_
          refine g_goto (pc := 49) (tgt := 53) C dX9_isPaneNext_49 rfl ?_
          exact g_zret (pc := 53) C hr dX9_isPaneNext_53 rfl
        · refine g_iconst (pc := 52) (v := 0) C dX9_isPaneNext_52 (by decide) ?_
          exact g_zret (pc := 53) C hr dX9_isPaneNext_53 rfl
      · refine g_iconst (pc := 48) (v := 1) C dX9_isPaneNext_48 (by decide) ?_
        refine g_goto (pc := 49) (tgt := 53) C dX9_isPaneNext_49 rfl ?_
        exact g_zret (pc := 53) C hr dX9_isPaneNext_53 rfl
    · refine g_iconst (pc := 52) (v := 0) C dX9_isPaneNext_52 (by decide) ?_
      exact g_zret (pc := 53) C hr dX9_isPaneNext_53 rfl
  · refine g_iconst (pc := 52) (v := 0) C dX9_isPaneNext_52 (by decide) ?_
    exact g_zret (pc := 53) C hr dX9_isPaneNext_53 rfl
theorem dX9_readsWeight_0 : decode cX9_readsWeight 0 = .ok (.aload_n 0, 1) := by decide +kernel
theorem dX9_readsWeight_1 : decode cX9_readsWeight 1 = .ok (.iconst 0, 1) := by decide +kernel
theorem dX9_readsWeight_2 : decode cX9_readsWeight 2 = .ok (.putfield 272, 3) := by decide +kernel
theorem dX9_readsWeight_5 : decode cX9_readsWeight 5 = .ok (.aload_n 0, 1) := by decide +kernel
theorem dX9_readsWeight_6 : decode cX9_readsWeight 6 = .ok (.invokevirtual 266, 3) := by decide +kernel
theorem dX9_readsWeight_9 : decode cX9_readsWeight 9 = .ok (.bipush 49, 2) := by decide +kernel
theorem dX9_readsWeight_11 : decode cX9_readsWeight 11 = .ok (.bipush 57, 2) := by decide +kernel
theorem dX9_readsWeight_13 : decode cX9_readsWeight 13 = .ok (.invokestatic 61, 3) := by decide +kernel
theorem dX9_readsWeight_16 : decode cX9_readsWeight 16 = .ok (.istore_n 1, 1) := by decide +kernel
theorem dX9_readsWeight_17 : decode cX9_readsWeight 17 = .ok (.iload_n 1, 1) := by decide +kernel
theorem dX9_readsWeight_18 : decode cX9_readsWeight 18 = .ok (.ifCond .ne 26, 3) := by decide +kernel
theorem dX9_readsWeight_21 : decode cX9_readsWeight 21 = .ok (.aload_n 0, 1) := by decide +kernel
theorem dX9_readsWeight_22 : decode cX9_readsWeight 22 = .ok (.aload_n 0, 1) := by decide +kernel
theorem dX9_readsWeight_23 : decode cX9_readsWeight 23 = .ok (.getfield 263, 3) := by decide +kernel
theorem dX9_readsWeight_26 : decode cX9_readsWeight 26 = .ok (.iconst (-1), 1) := by decide +kernel
theorem dX9_readsWeight_27 : decode cX9_readsWeight 27 = .ok (.if_icmp .ne 10, 3) := by decide +kernel
theorem dX9_readsWeight_30 : decode cX9_readsWeight 30 = .ok (.aload_n 0, 1) := by decide +kernel
theorem dX9_readsWeight_31 : decode cX9_readsWeight 31 = .ok (.getfield 260, 3) := by decide +kernel
theorem dX9_readsWeight_34 : decode cX9_readsWeight 34 = .ok (.goto 7, 3) := by decide +kernel
theorem dX9_readsWeight_37 : decode cX9_readsWeight 37 = .ok (.aload_n 0, 1) := by decide +kernel
theorem dX9_readsWeight_38 : decode cX9_readsWeight 38 = .ok (.getfield 263, 3) := by decide +kernel
theorem dX9_readsWeight_41 : decode cX9_readsWeight 41 = .ok (.putfield 263, 3) := by decide +kernel
theorem dX9_readsWeight_44 : decode cX9_readsWeight 44 = .ok (.iload_n 1, 1) := by decide +kernel
theorem dX9_readsWeight_45 : decode cX9_readsWeight 45 = .ok (.ifCond .eq 75, 3) := by decide +kernel
theorem dX9_readsWeight_48 : decode cX9_readsWeight 48 = .ok (.aload_n 0, 1) := by decide +kernel
theorem dX9_readsWeight_49 : decode cX9_readsWeight 49 = .ok (.getfield 263, 3) := by decide +kernel
theorem dX9_readsWeight_52 : decode cX9_readsWeight 52 = .ok (.iconst (-1), 1) := by decide +kernel
theorem dX9_readsWeight_53 : decode cX9_readsWeight 53 = .ok (.if_icmp .ne 67, 3) := by decide +kernel
theorem dX9_readsWeight_56 : decode cX9_readsWeight 56 = .ok (.aload_n 0, 1) := by decide +kernel
theorem dX9_readsWeight_57 : decode cX9_readsWeight 57 = .ok (.bipush 10, 2) := by decide +kernel
theorem dX9_readsWeight_59 : decode cX9_readsWeight 59 = .ok (.aload_n 0, 1) := by decide +kernel
theorem dX9_readsWeight_60 : decode cX9_readsWeight 60 = .ok (.getfield 272, 3) := by decide +kernel
theorem dX9_readsWeight_63 : decode cX9_readsWeight 63 = .ok (.imul, 1) := by decide +kernel
theorem dX9_readsWeight_64 : decode cX9_readsWeight 64 = .ok (.aload_n 0, 1) := by decide +kernel
theorem dX9_readsWeight_65 : decode cX9_readsWeight 65 = .ok (.invokevirtual 266, 3) := by decide +kernel
theorem dX9_readsWeight_68 : decode cX9_readsWeight 68 = .ok (.iadd, 1) := by decide +kernel
theorem dX9_readsWeight_69 : decode cX9_readsWeight 69 = .ok (.bipush 48, 2) := by decide +kernel
theorem dX9_readsWeight_71 : decode cX9_readsWeight 71 = .ok (.isub, 1) := by decide +kernel
theorem dX9_readsWeight_72 : decode cX9_readsWeight 72 = .ok (.putfield 272, 3) := by decide +kernel
theorem dX9_readsWeight_75 : decode cX9_readsWeight 75 = .ok (.aload_n 0, 1) := by decide +kernel
theorem dX9_readsWeight_76 : decode cX9_readsWeight 76 = .ok (.getfield 272, 3) := by decide +kernel
theorem dX9_readsWeight_79 : decode cX9_readsWeight 79 = .ok (.ldc 240, 2) := by decide +kernel
theorem dX9_readsWeight_81 : decode cX9_readsWeight 81 = .ok (.if_icmp .le 14, 3) := by decide +kernel
theorem dX9_readsWeight_84 : decode cX9_readsWeight 84 = .ok (.aload_n 0, 1) := by decide +kernel
theorem dX9_readsWeight_85 : decode cX9_readsWeight 85 = .ok (.aload_n 0, 1) := by decide +kernel
theorem dX9_readsWeight_86 : decode cX9_readsWeight 86 = .ok (.getfield 260, 3) := by decide +kernel
theorem dX9_readsWeight_89 : decode cX9_readsWeight 89 = .ok (.putfield 263, 3) := by decide +kernel
theorem dX9_readsWeight_92 : decode cX9_readsWeight 92 = .ok (.goto (-48), 3) := by decide +kernel
theorem dX9_readsWeight_95 : decode cX9_readsWeight 95 = .ok (.aload_n 0, 1) := by decide +kernel
theorem dX9_readsWeight_96 : decode cX9_readsWeight 96 = .ok (.dup, 1) := by decide +kernel
theorem dX9_readsWeight_97 : decode cX9_readsWeight 97 = .ok (.getfield 260, 3) := by decide +kernel
theorem dX9_readsWeight_100 : decode cX9_readsWeight 100 = .ok (.iconst 1, 1) := by decide +kernel
theorem dX9_readsWeight_101 : decode cX9_readsWeight 101 = .ok (.iadd, 1) := by decide +kernel
theorem dX9_readsWeight_102 : decode cX9_readsWeight 102 = .ok (.putfield 260, 3) := by decide +kernel
theorem dX9_readsWeight_105 : decode cX9_readsWeight 105 = .ok (.aload_n 0, 1) := by decide +kernel
theorem dX9_readsWeight_106 : decode cX9_readsWeight 106 = .ok (.invokevirtual 266, 3) := by decide +kernel
theorem dX9_readsWeight_109 : decode cX9_readsWeight 109 = .ok (.bipush 48, 2) := by decide +kernel
theorem dX9_readsWeight_111 : decode cX9_readsWeight 111 = .ok (.bipush 57, 2) := by decide +kernel
theorem dX9_readsWeight_113 : decode cX9_readsWeight 113 = .ok (.invokestatic 61, 3) := by decide +kernel
theorem dX9_readsWeight_116 : decode cX9_readsWeight 116 = .ok (.istore_n 1, 1) := by decide +kernel
theorem dX9_readsWeight_117 : decode cX9_readsWeight 117 = .ok (.goto (-73), 3) := by decide +kernel
theorem dX9_readsWeight_120 : decode cX9_readsWeight 120 = .ok (.aload_n 0, 1) := by decide +kernel
theorem dX9_readsWeight_121 : decode cX9_readsWeight 121 = .ok (.bipush 58, 2) := by decide +kernel
theorem dX9_readsWeight_123 : decode cX9_readsWeight 123 = .ok (.iconst 1, 1) := by decide +kernel
theorem dX9_readsWeight_124 : decode cX9_readsWeight 124 = .ok (.invokevirtual 275, 3) := by decide +kernel
theorem dX9_readsWeight_127 : decode cX9_readsWeight 127 = .ok (.pop, 1) := by decide +kernel
theorem dX9_readsWeight_128 : decode cX9_readsWeight 128 = .ok (.return_, 1) := by decide +kernel
abbrev rmX9_readsWeight : Room := { frames := 2, cells := 0, slots := 0, locals := 42 }
theorem hdX9_readsWeight : yX9_readsWeight.cls ≠ "java/lang/invoke/MethodHandle" ∧ yX9_readsWeight.cls ≠ "java/lang/invoke/VarHandle" ∧ (parseMethodDescriptor yX9_readsWeight.desc).map (fun d => d.parameters.length) = some 0 := by decide +kernel
def fX9_readsWeight_120 (b : Nat) (σ : Sg) : Option Sg :=
  (fX9_takes_ σ b 58 1).bind fun r10 =>
  some r10.2
theorem bX9_readsWeight_120 {X : Xc} {K : Kc} (C : MC X K cX9_readsWeight 2 RX9 rmX9_readsWeight) (hr : K.meth.sig.returnType = none) (b : Nat) (hb : moOK b) (σ : Sg) : GO X K 2 (fun r => MQv X K r) (fX9_readsWeight_120 b σ) σ 0 0 120 [some (.ref (X.ad b)), none] [] := by
  unfold fX9_readsWeight_120
  refine g_aload_n (pc := 120) (i := 0) C dX9_readsWeight_120 rfl rfl ?_
  refine g_bipush (pc := 121) (v := 58) C dX9_readsWeight_121 (by decide) ?_
  refine g_iconst (pc := 123) (v := 1) C dX9_readsWeight_123 (by decide) ?_
  refine g_callVi (pc := 124) (As := [.int (58), .int (1)]) C (kX9_takes_ X σ b 58 1 hb) (blk hb 0 rfl) rfl q_53_6 q_53_7 q_53_8 q_1_5 q_53_9 ⟨rfl, hdX9_takes_⟩ ⟨Nat.le_of_ble_eq_true rfl, Nat.le_of_ble_eq_true rfl, rfl, rfl⟩ ⟨Nat.zero_le _, Nat.zero_le _⟩ (Nat.le_of_ble_eq_true rfl) rfl rfl dX9_readsWeight_124 (fun r10 _ => ?_)
  refine g_pop (pc := 127) C dX9_readsWeight_127 rfl ?_
  exact g_vret (pc := 128) C hr dX9_readsWeight_128 rfl
def fX9_readsWeight_44 (b : Nat) : Nat → Sg → Int32 → Option Sg
  | 0, _, _ => none
  | n + 1, σ, l1 =>
    if l1 = 0 then
      (fX9_readsWeight_120 b σ)
    else
      if (σ.1 b 16) = (-1) then
        (fX9_next σ b).bind fun r4 =>
        nm (su σ b 22 (((10 * (σ.1 b 22)) + r4) - 48)) fun σ5 =>
        if (σ5.1 b 22) ≤ 1000000 then
          nm (su σ5 b 15 ((σ5.1 b 15) + 1)) fun σ6 =>
          (fX9_next σ6 b).bind fun r7 =>
          (fX9_within σ6 r7 48 57).bind fun r8 =>
          ((fX9_readsWeight_44 b n) σ6 (b2i r8))
        else
          nm (su σ5 b 16 (σ5.1 b 15)) fun σ9 =>
          ((fX9_readsWeight_44 b n) σ9 l1)
      else
        (fX9_readsWeight_120 b σ)
theorem bX9_readsWeight_44 {X : Xc} {K : Kc} (C : MC X K cX9_readsWeight 2 RX9 rmX9_readsWeight) (hr : K.meth.sig.returnType = none) (b : Nat) (hb : moOK b) : ∀ (n : Nat) (σ : Sg) (l1 : Int32), GO X K 2 (fun r => MQv X K r) (fX9_readsWeight_44 b n σ l1) σ 0 0 44 [some (.ref (X.ad b)), some (.int (l1))] [] := by
  intro n
  induction n with
  | zero =>
    intro σ l1
    exact g_none
  | succ n ih =>
    intro σ l1
    unfold fX9_readsWeight_44
    refine g_iload_n (pc := 44) (i := 1) C dX9_readsWeight_44 rfl rfl ?_
    refine g_if_eq (pc := 45) (tgt := 120) C dX9_readsWeight_45 rfl ?_ ?_
    · refine g_keep [true, false] ?_
      exact bX9_readsWeight_120 C hr b hb σ
    · refine g_aload_n (pc := 48) (i := 0) C dX9_readsWeight_48 rfl rfl ?_
      refine g_geti (pc := 49) (ci := 9) (N := 27) (T := TX9) (j := 16) (Cn := RX9) C rfl inlX9 (Nat.le_of_ble_eq_true rfl) q_52_18 (blk hb 0 rfl) rfl dX9_readsWeight_49 ?_
      refine g_iconst (pc := 52) (v := (-1)) C dX9_readsWeight_52 (by decide) ?_
      refine g_icmp_ne (pc := 53) (tgt := 120) C dX9_readsWeight_53 rfl ?_ ?_
      · refine g_aload_n (pc := 56) (i := 0) C dX9_readsWeight_56 rfl rfl ?_
        refine g_bipush (pc := 57) (v := 10) C dX9_readsWeight_57 (by decide) ?_
        refine g_aload_n (pc := 59) (i := 0) C dX9_readsWeight_59 rfl rfl ?_
        refine g_geti (pc := 60) (ci := 9) (N := 27) (T := TX9) (j := 22) (Cn := RX9) C rfl inlX9 (Nat.le_of_ble_eq_true rfl) q_52_21 (blk hb 0 rfl) rfl dX9_readsWeight_60 ?_
        refine g_imul (pc := 63) C dX9_readsWeight_63 ?_
        refine g_aload_n (pc := 64) (i := 0) C dX9_readsWeight_64 rfl rfl ?_
        refine g_callVi (pc := 65) (As := []) C (kX9_next X σ b hb) (blk hb 0 rfl) rfl q_52_22 q_52_23 q_53_0 q_1_5 q_53_1 ⟨rfl, hdX9_next⟩ ⟨Nat.le_of_ble_eq_true rfl, Nat.le_of_ble_eq_true rfl, rfl, rfl⟩ ⟨Nat.zero_le _, Nat.zero_le _⟩ (Nat.le_of_ble_eq_true rfl) rfl rfl dX9_readsWeight_65 (fun r4 _ => ?_)
        refine g_iadd (pc := 68) C dX9_readsWeight_68 ?_
        refine g_bipush (pc := 69) (v := 48) C dX9_readsWeight_69 (by decide) ?_
        refine g_isub (pc := 71) C dX9_readsWeight_71 ?_
        refine g_puti (pc := 72) (ci := 9) (N := 27) (T := TX9) (j := 22) (Cn := RX9) C rfl inlX9 tyX9_ok nmX9 (Nat.le_of_ble_eq_true rfl) q_52_21 (blk hb 0 rfl) rfl rfl rfl dX9_readsWeight_72 ?_
        refine g_nms (fun σ5 => ?_)
        refine g_aload_n (pc := 75) (i := 0) C dX9_readsWeight_75 rfl rfl ?_
        refine g_geti (pc := 76) (ci := 9) (N := 27) (T := TX9) (j := 22) (Cn := RX9) C rfl inlX9 (Nat.le_of_ble_eq_true rfl) q_52_21 (blk hb 0 rfl) rfl dX9_readsWeight_76 ?_
        refine g_ldc (pc := 79) (v := 1000000) C q_42_13 dX9_readsWeight_79 ?_
        refine g_icmp_le (pc := 81) (tgt := 95) C dX9_readsWeight_81 rfl ?_ ?_
        · refine g_aload_n (pc := 95) (i := 0) C dX9_readsWeight_95 rfl rfl ?_
          refine g_dup (pc := 96) C dX9_readsWeight_96 rfl ?_
          refine g_geti (pc := 97) (ci := 9) (N := 27) (T := TX9) (j := 15) (Cn := RX9) C rfl inlX9 (Nat.le_of_ble_eq_true rfl) q_52_17 (blk hb 0 rfl) rfl dX9_readsWeight_97 ?_
          refine g_iconst (pc := 100) (v := 1) C dX9_readsWeight_100 (by decide) ?_
          refine g_iadd (pc := 101) C dX9_readsWeight_101 ?_
          refine g_puti (pc := 102) (ci := 9) (N := 27) (T := TX9) (j := 15) (Cn := RX9) C rfl inlX9 tyX9_ok nmX9 (Nat.le_of_ble_eq_true rfl) q_52_17 (blk hb 0 rfl) rfl rfl rfl dX9_readsWeight_102 ?_
          refine g_nms (fun σ6 => ?_)
          refine g_aload_n (pc := 105) (i := 0) C dX9_readsWeight_105 rfl rfl ?_
          refine g_callVi (pc := 106) (As := []) C (kX9_next X σ6 b hb) (blk hb 0 rfl) rfl q_52_22 q_52_23 q_53_0 q_1_5 q_53_1 ⟨rfl, hdX9_next⟩ ⟨Nat.le_of_ble_eq_true rfl, Nat.le_of_ble_eq_true rfl, rfl, rfl⟩ ⟨Nat.zero_le _, Nat.zero_le _⟩ (Nat.le_of_ble_eq_true rfl) rfl rfl dX9_readsWeight_106 (fun r7 _ => ?_)
          refine g_bipush (pc := 109) (v := 48) C dX9_readsWeight_109 (by decide) ?_
          refine g_bipush (pc := 111) (v := 57) C dX9_readsWeight_111 (by decide) ?_
          refine g_callSi (pc := 113) (As := [.int (r7), .int (48), .int (57)]) C (kX9_within X σ6 r7 48 57) q_10_6 q_10_7 q_1_5 q_10_8 hdX9_within ⟨Nat.le_of_ble_eq_true rfl, Nat.le_of_ble_eq_true rfl, rfl, rfl⟩ ⟨Nat.zero_le _, Nat.zero_le _⟩ (Nat.le_of_ble_eq_true rfl) rfl rfl dX9_readsWeight_113 (fun r8 _ => ?_)
          refine g_istore_n (pc := 116) (i := 1) C dX9_readsWeight_116 rfl (Nat.le_of_ble_eq_true rfl) rfl ?_
          refine g_goto (pc := 117) (tgt := 44) C dX9_readsWeight_117 rfl ?_
          refine g_keep [true, true] ?_
          exact ih σ6 (b2i r8)
        · refine g_aload_n (pc := 84) (i := 0) C dX9_readsWeight_84 rfl rfl ?_
          refine g_aload_n (pc := 85) (i := 0) C dX9_readsWeight_85 rfl rfl ?_
          refine g_geti (pc := 86) (ci := 9) (N := 27) (T := TX9) (j := 15) (Cn := RX9) C rfl inlX9 (Nat.le_of_ble_eq_true rfl) q_52_17 (blk hb 0 rfl) rfl dX9_readsWeight_86 ?_
          refine g_puti (pc := 89) (ci := 9) (N := 27) (T := TX9) (j := 16) (Cn := RX9) C rfl inlX9 tyX9_ok nmX9 (Nat.le_of_ble_eq_true rfl) q_52_18 (blk hb 0 rfl) rfl rfl rfl dX9_readsWeight_89 ?_
          refine g_nms (fun σ9 => ?_)
          refine g_goto (pc := 92) (tgt := 44) C dX9_readsWeight_92 rfl ?_
          refine g_keep [true, true] ?_
          exact ih σ9 l1
      · refine g_keep [true, false] ?_
        exact bX9_readsWeight_120 C hr b hb σ
def fX9_readsWeight_41 (b : Nat) (σ : Sg) (l1 : Int32) (s1 : Int32) : Option Sg :=
  nm (su σ b 16 s1) fun σ11 =>
  (fX9_readsWeight_44 b FU σ11 l1)
theorem bX9_readsWeight_41 {X : Xc} {K : Kc} (C : MC X K cX9_readsWeight 2 RX9 rmX9_readsWeight) (hr : K.meth.sig.returnType = none) (b : Nat) (hb : moOK b) (σ : Sg) (l1 : Int32) (s1 : Int32) : GO X K 2 (fun r => MQv X K r) (fX9_readsWeight_41 b σ l1 s1) σ 0 0 41 [some (.ref (X.ad b)), some (.int (l1))] [.int (s1), .ref (X.ad b)] := by
  unfold fX9_readsWeight_41
  refine g_puti (pc := 41) (ci := 9) (N := 27) (T := TX9) (j := 16) (Cn := RX9) C rfl inlX9 tyX9_ok nmX9 (Nat.le_of_ble_eq_true rfl) q_52_18 (blk hb 0 rfl) rfl rfl rfl dX9_readsWeight_41 ?_
  refine g_nms (fun σ11 => ?_)
  refine g_keep [true, true] ?_
  exact bX9_readsWeight_44 C hr b hb FU σ11 l1
def fX9_readsWeight (σ : Sg) (b : Nat) : Option Sg :=
  nm (su σ b 22 0) fun σ1 =>
  (fX9_next σ1 b).bind fun r2 =>
  (fX9_within σ1 r2 49 57).bind fun r3 =>
  if r3 = true then
    (fX9_readsWeight_44 b FU σ1 (b2i r3))
  else
    if (σ1.1 b 16) = (-1) then
      (fX9_readsWeight_41 b σ1 (b2i r3) (σ1.1 b 15))
    else
      (fX9_readsWeight_41 b σ1 (b2i r3) (σ1.1 b 16))
theorem kX9_readsWeight (X : Xc) (σ : Sg) (b : Nat) (hb : moOK b) : ∀ r, fX9_readsWeight σ b = some r → Met X.l yX9_readsWeight (wsM yX9_readsWeight cX9_readsWeight 2 none) rmX9_readsWeight (va_Pc [.ref (X.ad b)] (PW X σ)) (Qv X r) 0 0 X.A := by
  refine mt_of (own := RX9) (lo := [some (.ref (X.ad b)), none]) (by decide) rfl (Nat.le_of_ble_eq_true rfl) rfl (fun K C hr => ?_)
  unfold fX9_readsWeight
  refine g_aload_n (pc := 0) (i := 0) C dX9_readsWeight_0 rfl rfl ?_
  refine g_iconst (pc := 1) (v := 0) C dX9_readsWeight_1 (by decide) ?_
  refine g_puti (pc := 2) (ci := 9) (N := 27) (T := TX9) (j := 22) (Cn := RX9) C rfl inlX9 tyX9_ok nmX9 (Nat.le_of_ble_eq_true rfl) q_52_21 (blk hb 0 rfl) rfl rfl rfl dX9_readsWeight_2 ?_
  refine g_nms (fun σ1 => ?_)
  refine g_aload_n (pc := 5) (i := 0) C dX9_readsWeight_5 rfl rfl ?_
  refine g_callVi (pc := 6) (As := []) C (kX9_next X σ1 b hb) (blk hb 0 rfl) rfl q_52_22 q_52_23 q_53_0 q_1_5 q_53_1 ⟨rfl, hdX9_next⟩ ⟨Nat.le_of_ble_eq_true rfl, Nat.le_of_ble_eq_true rfl, rfl, rfl⟩ ⟨Nat.zero_le _, Nat.zero_le _⟩ (Nat.le_of_ble_eq_true rfl) rfl rfl dX9_readsWeight_6 (fun r2 _ => ?_)
  refine g_bipush (pc := 9) (v := 49) C dX9_readsWeight_9 (by decide) ?_
  refine g_bipush (pc := 11) (v := 57) C dX9_readsWeight_11 (by decide) ?_
  refine g_callSi (pc := 13) (As := [.int (r2), .int (49), .int (57)]) C (kX9_within X σ1 r2 49 57) q_10_6 q_10_7 q_1_5 q_10_8 hdX9_within ⟨Nat.le_of_ble_eq_true rfl, Nat.le_of_ble_eq_true rfl, rfl, rfl⟩ ⟨Nat.zero_le _, Nat.zero_le _⟩ (Nat.le_of_ble_eq_true rfl) rfl rfl dX9_readsWeight_13 (fun r3 _ => ?_)
  refine g_istore_n (pc := 16) (i := 1) C dX9_readsWeight_16 rfl (Nat.le_of_ble_eq_true rfl) rfl ?_
  refine g_iload_n (pc := 17) (i := 1) C dX9_readsWeight_17 rfl rfl ?_
  refine g_ifb_ne (pc := 18) (tgt := 44) C dX9_readsWeight_18 rfl ?_ ?_
  · refine g_keep [true, true] ?_
    exact bX9_readsWeight_44 C hr b hb FU σ1 (b2i r3)
  · refine g_aload_n (pc := 21) (i := 0) C dX9_readsWeight_21 rfl rfl ?_
    refine g_aload_n (pc := 22) (i := 0) C dX9_readsWeight_22 rfl rfl ?_
    refine g_geti (pc := 23) (ci := 9) (N := 27) (T := TX9) (j := 16) (Cn := RX9) C rfl inlX9 (Nat.le_of_ble_eq_true rfl) q_52_18 (blk hb 0 rfl) rfl dX9_readsWeight_23 ?_
    refine g_iconst (pc := 26) (v := (-1)) C dX9_readsWeight_26 (by decide) ?_
    refine g_icmp_ne (pc := 27) (tgt := 37) C dX9_readsWeight_27 rfl ?_ ?_
    · refine g_aload_n (pc := 30) (i := 0) C dX9_readsWeight_30 rfl rfl ?_
      refine g_geti (pc := 31) (ci := 9) (N := 27) (T := TX9) (j := 15) (Cn := RX9) C rfl inlX9 (Nat.le_of_ble_eq_true rfl) q_52_17 (blk hb 0 rfl) rfl dX9_readsWeight_31 ?_
      refine g_goto (pc := 34) (tgt := 41) C dX9_readsWeight_34 rfl ?_
      refine g_keep [true, true] ?_
      exact bX9_readsWeight_41 C hr b hb σ1 (b2i r3) (σ1.1 b 15)
    · refine g_aload_n (pc := 37) (i := 0) C dX9_readsWeight_37 rfl rfl ?_
      refine g_geti (pc := 38) (ci := 9) (N := 27) (T := TX9) (j := 16) (Cn := RX9) C rfl inlX9 (Nat.le_of_ble_eq_true rfl) q_52_18 (blk hb 0 rfl) rfl dX9_readsWeight_38 ?_
      refine g_keep [true, true] ?_
      exact bX9_readsWeight_41 C hr b hb σ1 (b2i r3) (σ1.1 b 16)
theorem dX9_readsGroup_0 : decode cX9_readsGroup 0 = .ok (.iconst 0, 1) := by decide +kernel
theorem dX9_readsGroup_1 : decode cX9_readsGroup 1 = .ok (.istore_n 2, 1) := by decide +kernel
theorem dX9_readsGroup_2 : decode cX9_readsGroup 2 = .ok (.iconst 0, 1) := by decide +kernel
theorem dX9_readsGroup_3 : decode cX9_readsGroup 3 = .ok (.istore_n 3, 1) := by decide +kernel
theorem dX9_readsGroup_4 : decode cX9_readsGroup 4 = .ok (.iload_n 1, 1) := by decide +kernel
theorem dX9_readsGroup_5 : decode cX9_readsGroup 5 = .ok (.ifCond .eq 12, 3) := by decide +kernel
theorem dX9_readsGroup_8 : decode cX9_readsGroup 8 = .ok (.aload_n 0, 1) := by decide +kernel
theorem dX9_readsGroup_9 : decode cX9_readsGroup 9 = .ok (.aload_n 0, 1) := by decide +kernel
theorem dX9_readsGroup_10 : decode cX9_readsGroup 10 = .ok (.iconst 2, 1) := by decide +kernel
theorem dX9_readsGroup_11 : decode cX9_readsGroup 11 = .ok (.invokevirtual 211, 3) := by decide +kernel
theorem dX9_readsGroup_14 : decode cX9_readsGroup 14 = .ok (.putfield 278, 3) := by decide +kernel
theorem dX9_readsGroup_17 : decode cX9_readsGroup 17 = .ok (.aload_n 0, 1) := by decide +kernel
theorem dX9_readsGroup_18 : decode cX9_readsGroup 18 = .ok (.invokevirtual 281, 3) := by decide +kernel
theorem dX9_readsGroup_21 : decode cX9_readsGroup 21 = .ok (.ifCond .ne 12, 3) := by decide +kernel
theorem dX9_readsGroup_24 : decode cX9_readsGroup 24 = .ok (.aload_n 0, 1) := by decide +kernel
theorem dX9_readsGroup_25 : decode cX9_readsGroup 25 = .ok (.aload_n 0, 1) := by decide +kernel
theorem dX9_readsGroup_26 : decode cX9_readsGroup 26 = .ok (.getfield 260, 3) := by decide +kernel
theorem dX9_readsGroup_29 : decode cX9_readsGroup 29 = .ok (.putfield 263, 3) := by decide +kernel
theorem dX9_readsGroup_32 : decode cX9_readsGroup 32 = .ok (.return_, 1) := by decide +kernel
theorem dX9_readsGroup_33 : decode cX9_readsGroup 33 = .ok (.aload_n 0, 1) := by decide +kernel
theorem dX9_readsGroup_34 : decode cX9_readsGroup 34 = .ok (.invokevirtual 266, 3) := by decide +kernel
theorem dX9_readsGroup_37 : decode cX9_readsGroup 37 = .ok (.bipush 97, 2) := by decide +kernel
theorem dX9_readsGroup_39 : decode cX9_readsGroup 39 = .ok (.isub, 1) := by decide +kernel
theorem dX9_readsGroup_40 : decode cX9_readsGroup 40 = .ok (.istore 4, 2) := by decide +kernel
theorem dX9_readsGroup_42 : decode cX9_readsGroup 42 = .ok (.aload_n 0, 1) := by decide +kernel
theorem dX9_readsGroup_43 : decode cX9_readsGroup 43 = .ok (.dup, 1) := by decide +kernel
theorem dX9_readsGroup_44 : decode cX9_readsGroup 44 = .ok (.getfield 269, 3) := by decide +kernel
theorem dX9_readsGroup_47 : decode cX9_readsGroup 47 = .ok (.iconst 1, 1) := by decide +kernel
theorem dX9_readsGroup_48 : decode cX9_readsGroup 48 = .ok (.iload 4, 2) := by decide +kernel
theorem dX9_readsGroup_50 : decode cX9_readsGroup 50 = .ok (.ishl, 1) := by decide +kernel
theorem dX9_readsGroup_51 : decode cX9_readsGroup 51 = .ok (.ior, 1) := by decide +kernel
theorem dX9_readsGroup_52 : decode cX9_readsGroup 52 = .ok (.putfield 269, 3) := by decide +kernel
theorem dX9_readsGroup_55 : decode cX9_readsGroup 55 = .ok (.aload_n 0, 1) := by decide +kernel
theorem dX9_readsGroup_56 : decode cX9_readsGroup 56 = .ok (.dup, 1) := by decide +kernel
theorem dX9_readsGroup_57 : decode cX9_readsGroup 57 = .ok (.getfield 260, 3) := by decide +kernel
theorem dX9_readsGroup_60 : decode cX9_readsGroup 60 = .ok (.iconst 1, 1) := by decide +kernel
theorem dX9_readsGroup_61 : decode cX9_readsGroup 61 = .ok (.iadd, 1) := by decide +kernel
theorem dX9_readsGroup_62 : decode cX9_readsGroup 62 = .ok (.putfield 260, 3) := by decide +kernel
theorem dX9_readsGroup_65 : decode cX9_readsGroup 65 = .ok (.aload_n 0, 1) := by decide +kernel
theorem dX9_readsGroup_66 : decode cX9_readsGroup 66 = .ok (.invokevirtual 266, 3) := by decide +kernel
theorem dX9_readsGroup_69 : decode cX9_readsGroup 69 = .ok (.bipush 45, 2) := by decide +kernel
theorem dX9_readsGroup_71 : decode cX9_readsGroup 71 = .ok (.if_icmp .ne 7, 3) := by decide +kernel
theorem dX9_readsGroup_74 : decode cX9_readsGroup 74 = .ok (.iconst 1, 1) := by decide +kernel
theorem dX9_readsGroup_75 : decode cX9_readsGroup 75 = .ok (.goto 4, 3) := by decide +kernel
theorem dX9_readsGroup_78 : decode cX9_readsGroup 78 = .ok (.iconst 0, 1) := by decide +kernel
theorem dX9_readsGroup_79 : decode cX9_readsGroup 79 = .ok (.istore 5, 2) := by decide +kernel
theorem dX9_readsGroup_81 : decode cX9_readsGroup 81 = .ok (.aload_n 0, 1) := by decide +kernel
theorem dX9_readsGroup_82 : decode cX9_readsGroup 82 = .ok (.invokevirtual 266, 3) := by decide +kernel
theorem dX9_readsGroup_85 : decode cX9_readsGroup 85 = .ok (.bipush 42, 2) := by decide +kernel
theorem dX9_readsGroup_87 : decode cX9_readsGroup 87 = .ok (.if_icmp .ne 11, 3) := by decide +kernel
theorem dX9_readsGroup_90 : decode cX9_readsGroup 90 = .ok (.iload_n 2, 1) := by decide +kernel
theorem dX9_readsGroup_91 : decode cX9_readsGroup 91 = .ok (.ifCond .ne 7, 3) := by decide +kernel
theorem dX9_readsGroup_94 : decode cX9_readsGroup 94 = .ok (.iconst 1, 1) := by decide +kernel
theorem dX9_readsGroup_95 : decode cX9_readsGroup 95 = .ok (.goto 4, 3) := by decide +kernel
theorem dX9_readsGroup_98 : decode cX9_readsGroup 98 = .ok (.iconst 0, 1) := by decide +kernel
theorem dX9_readsGroup_99 : decode cX9_readsGroup 99 = .ok (.istore 6, 2) := by decide +kernel
theorem dX9_readsGroup_101 : decode cX9_readsGroup 101 = .ok (.aload_n 0, 1) := by decide +kernel
theorem dX9_readsGroup_102 : decode cX9_readsGroup 102 = .ok (.dup, 1) := by decide +kernel
theorem dX9_readsGroup_103 : decode cX9_readsGroup 103 = .ok (.getfield 260, 3) := by decide +kernel
theorem dX9_readsGroup_106 : decode cX9_readsGroup 106 = .ok (.iload 5, 2) := by decide +kernel
theorem dX9_readsGroup_108 : decode cX9_readsGroup 108 = .ok (.ifCond .ne 8, 3) := by decide +kernel
theorem dX9_readsGroup_111 : decode cX9_readsGroup 111 = .ok (.iload 6, 2) := by decide +kernel
theorem dX9_readsGroup_113 : decode cX9_readsGroup 113 = .ok (.ifCond .eq 7, 3) := by decide +kernel
theorem dX9_readsGroup_116 : decode cX9_readsGroup 116 = .ok (.iconst 1, 1) := by decide +kernel
theorem dX9_readsGroup_117 : decode cX9_readsGroup 117 = .ok (.goto 4, 3) := by decide +kernel
theorem dX9_readsGroup_120 : decode cX9_readsGroup 120 = .ok (.iconst 0, 1) := by decide +kernel
theorem dX9_readsGroup_121 : decode cX9_readsGroup 121 = .ok (.iadd, 1) := by decide +kernel
theorem dX9_readsGroup_122 : decode cX9_readsGroup 122 = .ok (.putfield 260, 3) := by decide +kernel
theorem dX9_readsGroup_125 : decode cX9_readsGroup 125 = .ok (.iload_n 2, 1) := by decide +kernel
theorem dX9_readsGroup_126 : decode cX9_readsGroup 126 = .ok (.ifCond .ne 8, 3) := by decide +kernel
theorem dX9_readsGroup_129 : decode cX9_readsGroup 129 = .ok (.iload 6, 2) := by decide +kernel
theorem dX9_readsGroup_131 : decode cX9_readsGroup 131 = .ok (.ifCond .eq 7, 3) := by decide +kernel
theorem dX9_readsGroup_134 : decode cX9_readsGroup 134 = .ok (.iconst 1, 1) := by decide +kernel
theorem dX9_readsGroup_135 : decode cX9_readsGroup 135 = .ok (.goto 4, 3) := by decide +kernel
theorem dX9_readsGroup_138 : decode cX9_readsGroup 138 = .ok (.iconst 0, 1) := by decide +kernel
theorem dX9_readsGroup_139 : decode cX9_readsGroup 139 = .ok (.istore_n 2, 1) := by decide +kernel
theorem dX9_readsGroup_140 : decode cX9_readsGroup 140 = .ok (.iload_n 1, 1) := by decide +kernel
theorem dX9_readsGroup_141 : decode cX9_readsGroup 141 = .ok (.ifCond .eq 97, 3) := by decide +kernel
theorem dX9_readsGroup_144 : decode cX9_readsGroup 144 = .ok (.aload_n 0, 1) := by decide +kernel
theorem dX9_readsGroup_145 : decode cX9_readsGroup 145 = .ok (.iload 4, 2) := by decide +kernel
theorem dX9_readsGroup_147 : decode cX9_readsGroup 147 = .ok (.iconst 3, 1) := by decide +kernel
theorem dX9_readsGroup_148 : decode cX9_readsGroup 148 = .ok (.aload_n 0, 1) := by decide +kernel
theorem dX9_readsGroup_149 : decode cX9_readsGroup 149 = .ok (.getfield 278, 3) := by decide +kernel
theorem dX9_readsGroup_152 : decode cX9_readsGroup 152 = .ok (.invokevirtual 126, 3) := by decide +kernel
theorem dX9_readsGroup_155 : decode cX9_readsGroup 155 = .ok (.aload_n 0, 1) := by decide +kernel
theorem dX9_readsGroup_156 : decode cX9_readsGroup 156 = .ok (.iload 4, 2) := by decide +kernel
theorem dX9_readsGroup_158 : decode cX9_readsGroup 158 = .ok (.iconst 4, 1) := by decide +kernel
theorem dX9_readsGroup_159 : decode cX9_readsGroup 159 = .ok (.iload_n 3, 1) := by decide +kernel
theorem dX9_readsGroup_160 : decode cX9_readsGroup 160 = .ok (.invokevirtual 126, 3) := by decide +kernel
theorem dX9_readsGroup_163 : decode cX9_readsGroup 163 = .ok (.aload_n 0, 1) := by decide +kernel
theorem dX9_readsGroup_164 : decode cX9_readsGroup 164 = .ok (.iload 4, 2) := by decide +kernel
theorem dX9_readsGroup_166 : decode cX9_readsGroup 166 = .ok (.iconst 5, 1) := by decide +kernel
theorem dX9_readsGroup_167 : decode cX9_readsGroup 167 = .ok (.iload 5, 2) := by decide +kernel
theorem dX9_readsGroup_169 : decode cX9_readsGroup 169 = .ok (.ifCond .eq 7, 3) := by decide +kernel
theorem dX9_readsGroup_172 : decode cX9_readsGroup 172 = .ok (.iconst 1, 1) := by decide +kernel
theorem dX9_readsGroup_173 : decode cX9_readsGroup 173 = .ok (.goto 4, 3) := by decide +kernel
theorem dX9_readsGroup_176 : decode cX9_readsGroup 176 = .ok (.iconst 0, 1) := by decide +kernel
theorem dX9_readsGroup_177 : decode cX9_readsGroup 177 = .ok (.invokevirtual 126, 3) := by decide +kernel
theorem dX9_readsGroup_180 : decode cX9_readsGroup 180 = .ok (.iload 6, 2) := by decide +kernel
theorem dX9_readsGroup_182 : decode cX9_readsGroup 182 = .ok (.ifCond .ne 21, 3) := by decide +kernel
theorem dX9_readsGroup_185 : decode cX9_readsGroup 185 = .ok (.iload 5, 2) := by decide +kernel
theorem dX9_readsGroup_187 : decode cX9_readsGroup 187 = .ok (.ifCond .ne 20, 3) := by decide +kernel
theorem dX9_readsGroup_190 : decode cX9_readsGroup 190 = .ok (.aload_n 0, 1) := by decide +kernel
theorem dX9_readsGroup_191 : decode cX9_readsGroup 191 = .ok (.aload_n 0, 1) := by decide +kernel
theorem dX9_readsGroup_192 : decode cX9_readsGroup 192 = .ok (.getfield 278, 3) := by decide +kernel
theorem dX9_readsGroup_195 : decode cX9_readsGroup 195 = .ok (.iconst 5, 1) := by decide +kernel
theorem dX9_readsGroup_196 : decode cX9_readsGroup 196 = .ok (.invokevirtual 76, 3) := by decide +kernel
theorem dX9_readsGroup_199 : decode cX9_readsGroup 199 = .ok (.iconst (-1), 1) := by decide +kernel
theorem dX9_readsGroup_200 : decode cX9_readsGroup 200 = .ok (.if_icmp .ne 7, 3) := by decide +kernel
theorem dX9_readsGroup_203 : decode cX9_readsGroup 203 = .ok (.iconst 1, 1) := by decide +kernel
theorem dX9_readsGroup_204 : decode cX9_readsGroup 204 = .ok (.goto 4, 3) := by decide +kernel
theorem dX9_readsGroup_207 : decode cX9_readsGroup 207 = .ok (.iconst 0, 1) := by decide +kernel
theorem dX9_readsGroup_208 : decode cX9_readsGroup 208 = .ok (.istore 7, 2) := by decide +kernel
theorem dX9_readsGroup_210 : decode cX9_readsGroup 210 = .ok (.aload_n 0, 1) := by decide +kernel
theorem dX9_readsGroup_211 : decode cX9_readsGroup 211 = .ok (.aload_n 0, 1) := by decide +kernel
theorem dX9_readsGroup_212 : decode cX9_readsGroup 212 = .ok (.getfield 278, 3) := by decide +kernel
theorem dX9_readsGroup_215 : decode cX9_readsGroup 215 = .ok (.iconst 5, 1) := by decide +kernel
theorem dX9_readsGroup_216 : decode cX9_readsGroup 216 = .ok (.iload 7, 2) := by decide +kernel
theorem dX9_readsGroup_218 : decode cX9_readsGroup 218 = .ok (.ifCond .eq 8, 3) := by decide +kernel
theorem dX9_readsGroup_221 : decode cX9_readsGroup 221 = .ok (.iload 4, 2) := by decide +kernel
theorem dX9_readsGroup_223 : decode cX9_readsGroup 223 = .ok (.goto 12, 3) := by decide +kernel
theorem dX9_readsGroup_226 : decode cX9_readsGroup 226 = .ok (.aload_n 0, 1) := by decide +kernel
theorem dX9_readsGroup_227 : decode cX9_readsGroup 227 = .ok (.aload_n 0, 1) := by decide +kernel
theorem dX9_readsGroup_228 : decode cX9_readsGroup 228 = .ok (.getfield 278, 3) := by decide +kernel
theorem dX9_readsGroup_231 : decode cX9_readsGroup 231 = .ok (.iconst 5, 1) := by decide +kernel
theorem dX9_readsGroup_232 : decode cX9_readsGroup 232 = .ok (.invokevirtual 76, 3) := by decide +kernel
theorem dX9_readsGroup_235 : decode cX9_readsGroup 235 = .ok (.invokevirtual 79, 3) := by decide +kernel
theorem dX9_readsGroup_238 : decode cX9_readsGroup 238 = .ok (.iinc 3 1, 3) := by decide +kernel
theorem dX9_readsGroup_241 : decode cX9_readsGroup 241 = .ok (.aload_n 0, 1) := by decide +kernel
theorem dX9_readsGroup_242 : decode cX9_readsGroup 242 = .ok (.invokevirtual 266, 3) := by decide +kernel
theorem dX9_readsGroup_245 : decode cX9_readsGroup 245 = .ok (.bipush 97, 2) := by decide +kernel
theorem dX9_readsGroup_247 : decode cX9_readsGroup 247 = .ok (.bipush 108, 2) := by decide +kernel
theorem dX9_readsGroup_249 : decode cX9_readsGroup 249 = .ok (.invokestatic 61, 3) := by decide +kernel
theorem dX9_readsGroup_252 : decode cX9_readsGroup 252 = .ok (.ifCond .ne (-235), 3) := by decide +kernel
theorem dX9_readsGroup_255 : decode cX9_readsGroup 255 = .ok (.return_, 1) := by decide +kernel
abbrev rmX9_readsGroup : Room := { frames := 4, cells := 0, slots := 0, locals := 88 }
theorem hdX9_readsGroup : yX9_readsGroup.cls ≠ "java/lang/invoke/MethodHandle" ∧ yX9_readsGroup.cls ≠ "java/lang/invoke/VarHandle" ∧ (parseMethodDescriptor yX9_readsGroup.desc).map (fun d => d.parameters.length) = some 1 := by decide +kernel
def fX9_readsGroup_238 (b : Nat) (k17 : Sg → Int32 → Int32 → Int32 → Option Sg) (σ : Sg) (l1 : Int32) (l2 : Int32) (l3 : Int32) : Option Sg :=
  (fX9_next σ b).bind fun r14 =>
  (fX9_within σ r14 97 108).bind fun r15 =>
  if r15 = true then
    (k17 σ l1 l2 (l3 + 1))
  else
    some σ
theorem bX9_readsGroup_238 {X : Xc} {K : Kc} (C : MC X K cX9_readsGroup 8 RX9 rmX9_readsGroup) (hr : K.meth.sig.returnType = none) (b : Nat) (hb : moOK b){k17 : Sg → Int32 → Int32 → Int32 → Option Sg} (hk17 : ∀ (σ : Sg) (l1 : Int32) (l2 : Int32) (l3 : Int32), GO X K 8 (fun r => MQv X K r) (k17 σ l1 l2 l3) σ 0 0 17 [some (.ref (X.ad b)), some (.int (l1)), some (.int (l2)), some (.int (l3)), none, none, none, none] []) (σ : Sg) (l1 : Int32) (l2 : Int32) (l3 : Int32) : GO X K 8 (fun r => MQv X K r) (fX9_readsGroup_238 b k17 σ l1 l2 l3) σ 0 0 238 [some (.ref (X.ad b)), some (.int (l1)), some (.int (l2)), some (.int (l3)), none, none, none, none] [] := by
  unfold fX9_readsGroup_238
  refine g_iinc (pc := 238) (v := l3 + 1) C dX9_readsGroup_238 rfl (rfl) (Nat.le_of_ble_eq_true rfl) rfl ?_
  refine g_aload_n (pc := 241) (i := 0) C dX9_readsGroup_241 rfl rfl ?_
  refine g_callVi (pc := 242) (As := []) C (kX9_next X σ b hb) (blk hb 0 rfl) rfl q_52_22 q_52_23 q_53_0 q_1_5 q_53_1 ⟨rfl, hdX9_next⟩ ⟨Nat.le_of_ble_eq_true rfl, Nat.le_of_ble_eq_true rfl, rfl, rfl⟩ ⟨Nat.zero_le _, Nat.zero_le _⟩ (Nat.le_of_ble_eq_true rfl) rfl rfl dX9_readsGroup_242 (fun r14 _ => ?_)
  refine g_bipush (pc := 245) (v := 97) C dX9_readsGroup_245 (by decide) ?_
  refine g_bipush (pc := 247) (v := 108) C dX9_readsGroup_247 (by decide) ?_
  refine g_callSi (pc := 249) (As := [.int (r14), .int (97), .int (108)]) C (kX9_within X σ r14 97 108) q_10_6 q_10_7 q_1_5 q_10_8 hdX9_within ⟨Nat.le_of_ble_eq_true rfl, Nat.le_of_ble_eq_true rfl, rfl, rfl⟩ ⟨Nat.zero_le _, Nat.zero_le _⟩ (Nat.le_of_ble_eq_true rfl) rfl rfl dX9_readsGroup_249 (fun r15 _ => ?_)
  refine g_ifb_ne (pc := 252) (tgt := 17) C dX9_readsGroup_252 rfl ?_ ?_
  · refine g_keep [true, true, true, true, false, false, false, false] ?_
    exact hk17 σ l1 l2 (l3 + 1)
  · exact g_vret (pc := 255) C hr dX9_readsGroup_255 rfl
def fX9_readsGroup_235 (b : Nat) (k17 : Sg → Int32 → Int32 → Int32 → Option Sg) (σ : Sg) (l1 : Int32) (l2 : Int32) (l3 : Int32) (s1 : Int32) (s2 : Int32) (s3 : Int32) : Option Sg :=
  (fX9_lay σ b s1 s2 s3).bind fun σ19 =>
  (fX9_readsGroup_238 b k17 σ19 l1 l2 l3)
theorem bX9_readsGroup_235 {X : Xc} {K : Kc} (C : MC X K cX9_readsGroup 8 RX9 rmX9_readsGroup) (hr : K.meth.sig.returnType = none) (b : Nat) (hb : moOK b){k17 : Sg → Int32 → Int32 → Int32 → Option Sg} (hk17 : ∀ (σ : Sg) (l1 : Int32) (l2 : Int32) (l3 : Int32), GO X K 8 (fun r => MQv X K r) (k17 σ l1 l2 l3) σ 0 0 17 [some (.ref (X.ad b)), some (.int (l1)), some (.int (l2)), some (.int (l3)), none, none, none, none] []) (σ : Sg) (l1 : Int32) (l2 : Int32) (l3 : Int32) (s1 : Int32) (s2 : Int32) (s3 : Int32) : GO X K 8 (fun r => MQv X K r) (fX9_readsGroup_235 b k17 σ l1 l2 l3 s1 s2 s3) σ 0 0 235 [some (.ref (X.ad b)), some (.int (l1)), some (.int (l2)), some (.int (l3)), none, none, none, none] [.int (s3), .int (s2), .int (s1), .ref (X.ad b)] := by
  unfold fX9_readsGroup_235
  refine g_callVv (pc := 235) (As := [.int (s1), .int (s2), .int (s3)]) C (kX9_lay X σ b s1 s2 s3 hb) (blk hb 0 rfl) rfl q_21_0 q_21_1 q_21_2 q_1_5 q_21_3 ⟨rfl, hdX9_lay⟩ ⟨Nat.le_of_ble_eq_true rfl, Nat.le_of_ble_eq_true rfl, rfl, rfl⟩ ⟨Nat.zero_le _, Nat.zero_le _⟩ (Nat.le_of_ble_eq_true rfl) rfl rfl dX9_readsGroup_235 (fun σ19 _ => ?_)
  refine g_keep [true, true, true, true, false, false, false, false] ?_
  exact bX9_readsGroup_238 C hr b hb hk17 σ19 l1 l2 l3
def fX9_readsGroup_208 (b : Nat) (k17 : Sg → Int32 → Int32 → Int32 → Option Sg) (σ : Sg) (l1 : Int32) (l2 : Int32) (l3 : Int32) (l4 : Int32) (s0 : Int32) : Option Sg :=
  if s0 = 0 then
    (fX9_its σ b (σ.1 b 21) 5).bind fun r18 =>
    (fX9_readsGroup_235 b k17 σ l1 l2 l3 (σ.1 b 21) 5 r18)
  else
    (fX9_readsGroup_235 b k17 σ l1 l2 l3 (σ.1 b 21) 5 l4)
theorem bX9_readsGroup_208 {X : Xc} {K : Kc} (C : MC X K cX9_readsGroup 8 RX9 rmX9_readsGroup) (hr : K.meth.sig.returnType = none) (b : Nat) (hb : moOK b){k17 : Sg → Int32 → Int32 → Int32 → Option Sg} (hk17 : ∀ (σ : Sg) (l1 : Int32) (l2 : Int32) (l3 : Int32), GO X K 8 (fun r => MQv X K r) (k17 σ l1 l2 l3) σ 0 0 17 [some (.ref (X.ad b)), some (.int (l1)), some (.int (l2)), some (.int (l3)), none, none, none, none] []) (σ : Sg) (l1 : Int32) (l2 : Int32) (l3 : Int32) (l4 : Int32) (s0 : Int32) : GO X K 8 (fun r => MQv X K r) (fX9_readsGroup_208 b k17 σ l1 l2 l3 l4 s0) σ 0 0 208 [some (.ref (X.ad b)), some (.int (l1)), some (.int (l2)), some (.int (l3)), some (.int (l4)), none, none, none] [.int (s0)] := by
  unfold fX9_readsGroup_208
  refine g_istore (pc := 208) C dX9_readsGroup_208 (Nat.le_of_ble_eq_true rfl) rfl ?_
  refine g_aload_n (pc := 210) (i := 0) C dX9_readsGroup_210 rfl rfl ?_
  refine g_aload_n (pc := 211) (i := 0) C dX9_readsGroup_211 rfl rfl ?_
  refine g_geti (pc := 212) (ci := 9) (N := 27) (T := TX9) (j := 21) (Cn := RX9) C rfl inlX9 (Nat.le_of_ble_eq_true rfl) q_53_18 (blk hb 0 rfl) rfl dX9_readsGroup_212 ?_
  refine g_iconst (pc := 215) (v := 5) C dX9_readsGroup_215 (by decide) ?_
  refine g_iload (pc := 216) C dX9_readsGroup_216 rfl ?_
  refine g_if_eq (pc := 218) (tgt := 226) C dX9_readsGroup_218 rfl ?_ ?_
  · refine g_aload_n (pc := 226) (i := 0) C dX9_readsGroup_226 rfl rfl ?_
    refine g_aload_n (pc := 227) (i := 0) C dX9_readsGroup_227 rfl rfl ?_
    refine g_geti (pc := 228) (ci := 9) (N := 27) (T := TX9) (j := 21) (Cn := RX9) C rfl inlX9 (Nat.le_of_ble_eq_true rfl) q_53_18 (blk hb 0 rfl) rfl dX9_readsGroup_228 ?_
    refine g_iconst (pc := 231) (v := 5) C dX9_readsGroup_231 (by decide) ?_
    refine g_callVi (pc := 232) (As := [.int (σ.1 b 21), .int (5)]) C (kX9_its X σ b (σ.1 b 21) 5 hb) (blk hb 0 rfl) rfl q_20_12 q_20_13 q_20_14 q_1_5 q_20_15 ⟨rfl, hdX9_its⟩ ⟨Nat.le_of_ble_eq_true rfl, Nat.le_of_ble_eq_true rfl, rfl, rfl⟩ ⟨Nat.zero_le _, Nat.zero_le _⟩ (Nat.le_of_ble_eq_true rfl) rfl rfl dX9_readsGroup_232 (fun r18 _ => ?_)
    refine g_keep [true, true, true, true, false, false, false, false] ?_
    exact bX9_readsGroup_235 C hr b hb hk17 σ l1 l2 l3 (σ.1 b 21) 5 r18
  · refine g_iload (pc := 221) C dX9_readsGroup_221 rfl ?_
    refine g_goto (pc := 223) (tgt := 235) C dX9_readsGroup_223 rfl ?_
    refine g_keep [true, true, true, true, false, false, false, false] ?_
    exact bX9_readsGroup_235 C hr b hb hk17 σ l1 l2 l3 (σ.1 b 21) 5 l4
def fX9_readsGroup_207 (b : Nat) (k17 : Sg → Int32 → Int32 → Int32 → Option Sg) (σ : Sg) (l1 : Int32) (l2 : Int32) (l3 : Int32) (l4 : Int32) : Option Sg :=
  (fX9_readsGroup_208 b k17 σ l1 l2 l3 l4 0)
theorem bX9_readsGroup_207 {X : Xc} {K : Kc} (C : MC X K cX9_readsGroup 8 RX9 rmX9_readsGroup) (hr : K.meth.sig.returnType = none) (b : Nat) (hb : moOK b){k17 : Sg → Int32 → Int32 → Int32 → Option Sg} (hk17 : ∀ (σ : Sg) (l1 : Int32) (l2 : Int32) (l3 : Int32), GO X K 8 (fun r => MQv X K r) (k17 σ l1 l2 l3) σ 0 0 17 [some (.ref (X.ad b)), some (.int (l1)), some (.int (l2)), some (.int (l3)), none, none, none, none] []) (σ : Sg) (l1 : Int32) (l2 : Int32) (l3 : Int32) (l4 : Int32) : GO X K 8 (fun r => MQv X K r) (fX9_readsGroup_207 b k17 σ l1 l2 l3 l4) σ 0 0 207 [some (.ref (X.ad b)), some (.int (l1)), some (.int (l2)), some (.int (l3)), some (.int (l4)), none, none, none] [] := by
  unfold fX9_readsGroup_207
  refine g_iconst (pc := 207) (v := 0) C dX9_readsGroup_207 (by decide) ?_
  refine g_keep [true, true, true, true, true, false, false, false] ?_
  exact bX9_readsGroup_208 C hr b hb hk17 σ l1 l2 l3 l4 0
def fX9_readsGroup_203 (b : Nat) (k17 : Sg → Int32 → Int32 → Int32 → Option Sg) (σ : Sg) (l1 : Int32) (l2 : Int32) (l3 : Int32) (l4 : Int32) : Option Sg :=
  (fX9_readsGroup_208 b k17 σ l1 l2 l3 l4 1)
theorem bX9_readsGroup_203 {X : Xc} {K : Kc} (C : MC X K cX9_readsGroup 8 RX9 rmX9_readsGroup) (hr : K.meth.sig.returnType = none) (b : Nat) (hb : moOK b){k17 : Sg → Int32 → Int32 → Int32 → Option Sg} (hk17 : ∀ (σ : Sg) (l1 : Int32) (l2 : Int32) (l3 : Int32), GO X K 8 (fun r => MQv X K r) (k17 σ l1 l2 l3) σ 0 0 17 [some (.ref (X.ad b)), some (.int (l1)), some (.int (l2)), some (.int (l3)), none, none, none, none] []) (σ : Sg) (l1 : Int32) (l2 : Int32) (l3 : Int32) (l4 : Int32) : GO X K 8 (fun r => MQv X K r) (fX9_readsGroup_203 b k17 σ l1 l2 l3 l4) σ 0 0 203 [some (.ref (X.ad b)), some (.int (l1)), some (.int (l2)), some (.int (l3)), some (.int (l4)), none, none, none] [] := by
  unfold fX9_readsGroup_203
  refine g_iconst (pc := 203) (v := 1) C dX9_readsGroup_203 (by decide) ?_
  refine g_goto (pc := 204) (tgt := 208) C dX9_readsGroup_204 rfl ?_
  refine g_keep [true, true, true, true, true, false, false, false] ?_
  exact bX9_readsGroup_208 C hr b hb hk17 σ l1 l2 l3 l4 1
def fX9_readsGroup_177 (b : Nat) (k17 : Sg → Int32 → Int32 → Int32 → Option Sg) (σ : Sg) (l1 : Int32) (l2 : Int32) (l3 : Int32) (l4 : Int32) (l5 : Int32) (l6 : Int32) (s1 : Int32) (s2 : Int32) (s3 : Int32) : Option Sg :=
  (fX9_put σ b s1 s2 s3).bind fun σ16 =>
  if l6 = 0 then
    if l5 = 0 then
      (fX9_its σ16 b (σ16.1 b 21) 5).bind fun r17 =>
      if r17 = (-1) then
        (fX9_readsGroup_203 b k17 σ16 l1 l2 l3 l4)
      else
        (fX9_readsGroup_207 b k17 σ16 l1 l2 l3 l4)
    else
      (fX9_readsGroup_207 b k17 σ16 l1 l2 l3 l4)
  else
    (fX9_readsGroup_203 b k17 σ16 l1 l2 l3 l4)
theorem bX9_readsGroup_177 {X : Xc} {K : Kc} (C : MC X K cX9_readsGroup 8 RX9 rmX9_readsGroup) (hr : K.meth.sig.returnType = none) (b : Nat) (hb : moOK b){k17 : Sg → Int32 → Int32 → Int32 → Option Sg} (hk17 : ∀ (σ : Sg) (l1 : Int32) (l2 : Int32) (l3 : Int32), GO X K 8 (fun r => MQv X K r) (k17 σ l1 l2 l3) σ 0 0 17 [some (.ref (X.ad b)), some (.int (l1)), some (.int (l2)), some (.int (l3)), none, none, none, none] []) (σ : Sg) (l1 : Int32) (l2 : Int32) (l3 : Int32) (l4 : Int32) (l5 : Int32) (l6 : Int32) (s1 : Int32) (s2 : Int32) (s3 : Int32) : GO X K 8 (fun r => MQv X K r) (fX9_readsGroup_177 b k17 σ l1 l2 l3 l4 l5 l6 s1 s2 s3) σ 0 0 177 [some (.ref (X.ad b)), some (.int (l1)), some (.int (l2)), some (.int (l3)), some (.int (l4)), some (.int (l5)), some (.int (l6)), none] [.int (s3), .int (s2), .int (s1), .ref (X.ad b)] := by
  unfold fX9_readsGroup_177
  refine g_callVv (pc := 177) (As := [.int (s1), .int (s2), .int (s3)]) C (kX9_put X σ b s1 s2 s3 hb) (blk hb 0 rfl) rfl q_10_19 q_10_20 q_10_21 q_1_5 q_10_22 ⟨rfl, hdX9_put⟩ ⟨Nat.le_of_ble_eq_true rfl, Nat.le_of_ble_eq_true rfl, rfl, rfl⟩ ⟨Nat.zero_le _, Nat.zero_le _⟩ (Nat.le_of_ble_eq_true rfl) rfl rfl dX9_readsGroup_177 (fun σ16 _ => ?_)
  refine g_iload (pc := 180) C dX9_readsGroup_180 rfl ?_
  refine g_if_ne (pc := 182) (tgt := 203) C dX9_readsGroup_182 rfl ?_ ?_
  · refine g_iload (pc := 185) C dX9_readsGroup_185 rfl ?_
    refine g_if_ne (pc := 187) (tgt := 207) C dX9_readsGroup_187 rfl ?_ ?_
    · refine g_aload_n (pc := 190) (i := 0) C dX9_readsGroup_190 rfl rfl ?_
      refine g_aload_n (pc := 191) (i := 0) C dX9_readsGroup_191 rfl rfl ?_
      refine g_geti (pc := 192) (ci := 9) (N := 27) (T := TX9) (j := 21) (Cn := RX9) C rfl inlX9 (Nat.le_of_ble_eq_true rfl) q_53_18 (blk hb 0 rfl) rfl dX9_readsGroup_192 ?_
      refine g_iconst (pc := 195) (v := 5) C dX9_readsGroup_195 (by decide) ?_
      refine g_callVi (pc := 196) (As := [.int (σ16.1 b 21), .int (5)]) C (kX9_its X σ16 b (σ16.1 b 21) 5 hb) (blk hb 0 rfl) rfl q_20_12 q_20_13 q_20_14 q_1_5 q_20_15 ⟨rfl, hdX9_its⟩ ⟨Nat.le_of_ble_eq_true rfl, Nat.le_of_ble_eq_true rfl, rfl, rfl⟩ ⟨Nat.zero_le _, Nat.zero_le _⟩ (Nat.le_of_ble_eq_true rfl) rfl rfl dX9_readsGroup_196 (fun r17 _ => ?_)
      refine g_iconst (pc := 199) (v := (-1)) C dX9_readsGroup_199 (by decide) ?_
      refine g_icmp_ne (pc := 200) (tgt := 207) C dX9_readsGroup_200 rfl ?_ ?_
      · refine g_keep [true, true, true, true, true, false, false, false] ?_
        exact bX9_readsGroup_203 C hr b hb hk17 σ16 l1 l2 l3 l4
      · refine g_keep [true, true, true, true, true, false, false, false] ?_
        exact bX9_readsGroup_207 C hr b hb hk17 σ16 l1 l2 l3 l4
    · refine g_keep [true, true, true, true, true, false, false, false] ?_
      exact bX9_readsGroup_207 C hr b hb hk17 σ16 l1 l2 l3 l4
  · refine g_keep [true, true, true, true, true, false, false, false] ?_
    exact bX9_readsGroup_203 C hr b hb hk17 σ16 l1 l2 l3 l4
def fX9_readsGroup_139 (b : Nat) (k17 : Sg → Int32 → Int32 → Int32 → Option Sg) (σ : Sg) (l1 : Int32) (l3 : Int32) (l4 : Int32) (l5 : Int32) (l6 : Int32) (s0 : Int32) : Option Sg :=
  if l1 = 0 then
    (fX9_readsGroup_238 b k17 σ l1 s0 l3)
  else
    (fX9_put σ b l4 3 (σ.1 b 21)).bind fun σ12 =>
    (fX9_put σ12 b l4 4 l3).bind fun σ13 =>
    if l5 = 0 then
      (fX9_readsGroup_177 b k17 σ13 l1 s0 l3 l4 l5 l6 l4 5 0)
    else
      (fX9_readsGroup_177 b k17 σ13 l1 s0 l3 l4 l5 l6 l4 5 1)
theorem bX9_readsGroup_139 {X : Xc} {K : Kc} (C : MC X K cX9_readsGroup 8 RX9 rmX9_readsGroup) (hr : K.meth.sig.returnType = none) (b : Nat) (hb : moOK b){k17 : Sg → Int32 → Int32 → Int32 → Option Sg} (hk17 : ∀ (σ : Sg) (l1 : Int32) (l2 : Int32) (l3 : Int32), GO X K 8 (fun r => MQv X K r) (k17 σ l1 l2 l3) σ 0 0 17 [some (.ref (X.ad b)), some (.int (l1)), some (.int (l2)), some (.int (l3)), none, none, none, none] []) (σ : Sg) (l1 : Int32) (l3 : Int32) (l4 : Int32) (l5 : Int32) (l6 : Int32) (s0 : Int32) : GO X K 8 (fun r => MQv X K r) (fX9_readsGroup_139 b k17 σ l1 l3 l4 l5 l6 s0) σ 0 0 139 [some (.ref (X.ad b)), some (.int (l1)), none, some (.int (l3)), some (.int (l4)), some (.int (l5)), some (.int (l6)), none] [.int (s0)] := by
  unfold fX9_readsGroup_139
  refine g_istore_n (pc := 139) (i := 2) C dX9_readsGroup_139 rfl (Nat.le_of_ble_eq_true rfl) rfl ?_
  refine g_iload_n (pc := 140) (i := 1) C dX9_readsGroup_140 rfl rfl ?_
  refine g_if_eq (pc := 141) (tgt := 238) C dX9_readsGroup_141 rfl ?_ ?_
  · refine g_keep [true, true, true, true, false, false, false, false] ?_
    exact bX9_readsGroup_238 C hr b hb hk17 σ l1 s0 l3
  · refine g_aload_n (pc := 144) (i := 0) C dX9_readsGroup_144 rfl rfl ?_
    refine g_iload (pc := 145) C dX9_readsGroup_145 rfl ?_
    refine g_iconst (pc := 147) (v := 3) C dX9_readsGroup_147 (by decide) ?_
    refine g_aload_n (pc := 148) (i := 0) C dX9_readsGroup_148 rfl rfl ?_
    refine g_geti (pc := 149) (ci := 9) (N := 27) (T := TX9) (j := 21) (Cn := RX9) C rfl inlX9 (Nat.le_of_ble_eq_true rfl) q_53_18 (blk hb 0 rfl) rfl dX9_readsGroup_149 ?_
    refine g_callVv (pc := 152) (As := [.int (l4), .int (3), .int (σ.1 b 21)]) C (kX9_put X σ b l4 3 (σ.1 b 21) hb) (blk hb 0 rfl) rfl q_10_19 q_10_20 q_10_21 q_1_5 q_10_22 ⟨rfl, hdX9_put⟩ ⟨Nat.le_of_ble_eq_true rfl, Nat.le_of_ble_eq_true rfl, rfl, rfl⟩ ⟨Nat.zero_le _, Nat.zero_le _⟩ (Nat.le_of_ble_eq_true rfl) rfl rfl dX9_readsGroup_152 (fun σ12 _ => ?_)
    refine g_aload_n (pc := 155) (i := 0) C dX9_readsGroup_155 rfl rfl ?_
    refine g_iload (pc := 156) C dX9_readsGroup_156 rfl ?_
    refine g_iconst (pc := 158) (v := 4) C dX9_readsGroup_158 (by decide) ?_
    refine g_iload_n (pc := 159) (i := 3) C dX9_readsGroup_159 rfl rfl ?_
    refine g_callVv (pc := 160) (As := [.int (l4), .int (4), .int (l3)]) C (kX9_put X σ12 b l4 4 l3 hb) (blk hb 0 rfl) rfl q_10_19 q_10_20 q_10_21 q_1_5 q_10_22 ⟨rfl, hdX9_put⟩ ⟨Nat.le_of_ble_eq_true rfl, Nat.le_of_ble_eq_true rfl, rfl, rfl⟩ ⟨Nat.zero_le _, Nat.zero_le _⟩ (Nat.le_of_ble_eq_true rfl) rfl rfl dX9_readsGroup_160 (fun σ13 _ => ?_)
    refine g_aload_n (pc := 163) (i := 0) C dX9_readsGroup_163 rfl rfl ?_
    refine g_iload (pc := 164) C dX9_readsGroup_164 rfl ?_
    refine g_iconst (pc := 166) (v := 5) C dX9_readsGroup_166 (by decide) ?_
    refine g_iload (pc := 167) C dX9_readsGroup_167 rfl ?_
    refine g_if_eq (pc := 169) (tgt := 176) C dX9_readsGroup_169 rfl ?_ ?_
    · refine g_iconst (pc := 176) (v := 0) C dX9_readsGroup_176 (by decide) ?_
      refine g_keep [true, true, true, true, true, true, true, false] ?_
      exact bX9_readsGroup_177 C hr b hb hk17 σ13 l1 s0 l3 l4 l5 l6 l4 5 0
    · refine g_iconst (pc := 172) (v := 1) C dX9_readsGroup_172 (by decide) ?_
      refine g_goto (pc := 173) (tgt := 177) C dX9_readsGroup_173 rfl ?_
      refine g_keep [true, true, true, true, true, true, true, false] ?_
      exact bX9_readsGroup_177 C hr b hb hk17 σ13 l1 s0 l3 l4 l5 l6 l4 5 1
def fX9_readsGroup_134 (b : Nat) (k17 : Sg → Int32 → Int32 → Int32 → Option Sg) (σ : Sg) (l1 : Int32) (l3 : Int32) (l4 : Int32) (l5 : Int32) (l6 : Int32) : Option Sg :=
  (fX9_readsGroup_139 b k17 σ l1 l3 l4 l5 l6 1)
theorem bX9_readsGroup_134 {X : Xc} {K : Kc} (C : MC X K cX9_readsGroup 8 RX9 rmX9_readsGroup) (hr : K.meth.sig.returnType = none) (b : Nat) (hb : moOK b){k17 : Sg → Int32 → Int32 → Int32 → Option Sg} (hk17 : ∀ (σ : Sg) (l1 : Int32) (l2 : Int32) (l3 : Int32), GO X K 8 (fun r => MQv X K r) (k17 σ l1 l2 l3) σ 0 0 17 [some (.ref (X.ad b)), some (.int (l1)), some (.int (l2)), some (.int (l3)), none, none, none, none] []) (σ : Sg) (l1 : Int32) (l3 : Int32) (l4 : Int32) (l5 : Int32) (l6 : Int32) : GO X K 8 (fun r => MQv X K r) (fX9_readsGroup_134 b k17 σ l1 l3 l4 l5 l6) σ 0 0 134 [some (.ref (X.ad b)), some (.int (l1)), none, some (.int (l3)), some (.int (l4)), some (.int (l5)), some (.int (l6)), none] [] := by
  unfold fX9_readsGroup_134
  refine g_iconst (pc := 134) (v := 1) C dX9_readsGroup_134 (by decide) ?_
  refine g_goto (pc := 135) (tgt := 139) C dX9_readsGroup_135 rfl ?_
  refine g_keep [true, true, false, true, true, true, true, false] ?_
  exact bX9_readsGroup_139 C hr b hb hk17 σ l1 l3 l4 l5 l6 1
def fX9_readsGroup_121 (b : Nat) (k17 : Sg → Int32 → Int32 → Int32 → Option Sg) (σ : Sg) (l1 : Int32) (l2 : Int32) (l3 : Int32) (l4 : Int32) (l5 : Int32) (l6 : Int32) (s1 : Int32) (s2 : Int32) : Option Sg :=
  nm (su σ b 15 (s1 + s2)) fun σ11 =>
  if l2 = 0 then
    if l6 = 0 then
      (fX9_readsGroup_139 b k17 σ11 l1 l3 l4 l5 l6 0)
    else
      (fX9_readsGroup_134 b k17 σ11 l1 l3 l4 l5 l6)
  else
    (fX9_readsGroup_134 b k17 σ11 l1 l3 l4 l5 l6)
theorem bX9_readsGroup_121 {X : Xc} {K : Kc} (C : MC X K cX9_readsGroup 8 RX9 rmX9_readsGroup) (hr : K.meth.sig.returnType = none) (b : Nat) (hb : moOK b){k17 : Sg → Int32 → Int32 → Int32 → Option Sg} (hk17 : ∀ (σ : Sg) (l1 : Int32) (l2 : Int32) (l3 : Int32), GO X K 8 (fun r => MQv X K r) (k17 σ l1 l2 l3) σ 0 0 17 [some (.ref (X.ad b)), some (.int (l1)), some (.int (l2)), some (.int (l3)), none, none, none, none] []) (σ : Sg) (l1 : Int32) (l2 : Int32) (l3 : Int32) (l4 : Int32) (l5 : Int32) (l6 : Int32) (s1 : Int32) (s2 : Int32) : GO X K 8 (fun r => MQv X K r) (fX9_readsGroup_121 b k17 σ l1 l2 l3 l4 l5 l6 s1 s2) σ 0 0 121 [some (.ref (X.ad b)), some (.int (l1)), some (.int (l2)), some (.int (l3)), some (.int (l4)), some (.int (l5)), some (.int (l6)), none] [.int (s2), .int (s1), .ref (X.ad b)] := by
  unfold fX9_readsGroup_121
  refine g_iadd (pc := 121) C dX9_readsGroup_121 ?_
  refine g_puti (pc := 122) (ci := 9) (N := 27) (T := TX9) (j := 15) (Cn := RX9) C rfl inlX9 tyX9_ok nmX9 (Nat.le_of_ble_eq_true rfl) q_52_17 (blk hb 0 rfl) rfl rfl rfl dX9_readsGroup_122 ?_
  refine g_nms (fun σ11 => ?_)
  refine g_iload_n (pc := 125) (i := 2) C dX9_readsGroup_125 rfl rfl ?_
  refine g_if_ne (pc := 126) (tgt := 134) C dX9_readsGroup_126 rfl ?_ ?_
  · refine g_iload (pc := 129) C dX9_readsGroup_129 rfl ?_
    refine g_if_eq (pc := 131) (tgt := 138) C dX9_readsGroup_131 rfl ?_ ?_
    · refine g_iconst (pc := 138) (v := 0) C dX9_readsGroup_138 (by decide) ?_
      refine g_keep [true, true, false, true, true, true, true, false] ?_
      exact bX9_readsGroup_139 C hr b hb hk17 σ11 l1 l3 l4 l5 l6 0
    · refine g_keep [true, true, false, true, true, true, true, false] ?_
      exact bX9_readsGroup_134 C hr b hb hk17 σ11 l1 l3 l4 l5 l6
  · refine g_keep [true, true, false, true, true, true, true, false] ?_
    exact bX9_readsGroup_134 C hr b hb hk17 σ11 l1 l3 l4 l5 l6
def fX9_readsGroup_116 (b : Nat) (k17 : Sg → Int32 → Int32 → Int32 → Option Sg) (σ : Sg) (l1 : Int32) (l2 : Int32) (l3 : Int32) (l4 : Int32) (l5 : Int32) (l6 : Int32) (s1 : Int32) : Option Sg :=
  (fX9_readsGroup_121 b k17 σ l1 l2 l3 l4 l5 l6 s1 1)
theorem bX9_readsGroup_116 {X : Xc} {K : Kc} (C : MC X K cX9_readsGroup 8 RX9 rmX9_readsGroup) (hr : K.meth.sig.returnType = none) (b : Nat) (hb : moOK b){k17 : Sg → Int32 → Int32 → Int32 → Option Sg} (hk17 : ∀ (σ : Sg) (l1 : Int32) (l2 : Int32) (l3 : Int32), GO X K 8 (fun r => MQv X K r) (k17 σ l1 l2 l3) σ 0 0 17 [some (.ref (X.ad b)), some (.int (l1)), some (.int (l2)), some (.int (l3)), none, none, none, none] []) (σ : Sg) (l1 : Int32) (l2 : Int32) (l3 : Int32) (l4 : Int32) (l5 : Int32) (l6 : Int32) (s1 : Int32) : GO X K 8 (fun r => MQv X K r) (fX9_readsGroup_116 b k17 σ l1 l2 l3 l4 l5 l6 s1) σ 0 0 116 [some (.ref (X.ad b)), some (.int (l1)), some (.int (l2)), some (.int (l3)), some (.int (l4)), some (.int (l5)), some (.int (l6)), none] [.int (s1), .ref (X.ad b)] := by
  unfold fX9_readsGroup_116
  refine g_iconst (pc := 116) (v := 1) C dX9_readsGroup_116 (by decide) ?_
  refine g_goto (pc := 117) (tgt := 121) C dX9_readsGroup_117 rfl ?_
  refine g_keep [true, true, true, true, true, true, true, false] ?_
  exact bX9_readsGroup_121 C hr b hb hk17 σ l1 l2 l3 l4 l5 l6 s1 1
def fX9_readsGroup_99 (b : Nat) (k17 : Sg → Int32 → Int32 → Int32 → Option Sg) (σ : Sg) (l1 : Int32) (l2 : Int32) (l3 : Int32) (l4 : Int32) (l5 : Int32) (s0 : Int32) : Option Sg :=
  if l5 = 0 then
    if s0 = 0 then
      (fX9_readsGroup_121 b k17 σ l1 l2 l3 l4 l5 s0 (σ.1 b 15) 0)
    else
      (fX9_readsGroup_116 b k17 σ l1 l2 l3 l4 l5 s0 (σ.1 b 15))
  else
    (fX9_readsGroup_116 b k17 σ l1 l2 l3 l4 l5 s0 (σ.1 b 15))
theorem bX9_readsGroup_99 {X : Xc} {K : Kc} (C : MC X K cX9_readsGroup 8 RX9 rmX9_readsGroup) (hr : K.meth.sig.returnType = none) (b : Nat) (hb : moOK b){k17 : Sg → Int32 → Int32 → Int32 → Option Sg} (hk17 : ∀ (σ : Sg) (l1 : Int32) (l2 : Int32) (l3 : Int32), GO X K 8 (fun r => MQv X K r) (k17 σ l1 l2 l3) σ 0 0 17 [some (.ref (X.ad b)), some (.int (l1)), some (.int (l2)), some (.int (l3)), none, none, none, none] []) (σ : Sg) (l1 : Int32) (l2 : Int32) (l3 : Int32) (l4 : Int32) (l5 : Int32) (s0 : Int32) : GO X K 8 (fun r => MQv X K r) (fX9_readsGroup_99 b k17 σ l1 l2 l3 l4 l5 s0) σ 0 0 99 [some (.ref (X.ad b)), some (.int (l1)), some (.int (l2)), some (.int (l3)), some (.int (l4)), some (.int (l5)), none, none] [.int (s0)] := by
  unfold fX9_readsGroup_99
  refine g_istore (pc := 99) C dX9_readsGroup_99 (Nat.le_of_ble_eq_true rfl) rfl ?_
  refine g_aload_n (pc := 101) (i := 0) C dX9_readsGroup_101 rfl rfl ?_
  refine g_dup (pc := 102) C dX9_readsGroup_102 rfl ?_
  refine g_geti (pc := 103) (ci := 9) (N := 27) (T := TX9) (j := 15) (Cn := RX9) C rfl inlX9 (Nat.le_of_ble_eq_true rfl) q_52_17 (blk hb 0 rfl) rfl dX9_readsGroup_103 ?_
  refine g_iload (pc := 106) C dX9_readsGroup_106 rfl ?_
  refine g_if_ne (pc := 108) (tgt := 116) C dX9_readsGroup_108 rfl ?_ ?_
  · refine g_iload (pc := 111) C dX9_readsGroup_111 rfl ?_
    refine g_if_eq (pc := 113) (tgt := 120) C dX9_readsGroup_113 rfl ?_ ?_
    · refine g_iconst (pc := 120) (v := 0) C dX9_readsGroup_120 (by decide) ?_
      refine g_keep [true, true, true, true, true, true, true, false] ?_
      exact bX9_readsGroup_121 C hr b hb hk17 σ l1 l2 l3 l4 l5 s0 (σ.1 b 15) 0
    · refine g_keep [true, true, true, true, true, true, true, false] ?_
      exact bX9_readsGroup_116 C hr b hb hk17 σ l1 l2 l3 l4 l5 s0 (σ.1 b 15)
  · refine g_keep [true, true, true, true, true, true, true, false] ?_
    exact bX9_readsGroup_116 C hr b hb hk17 σ l1 l2 l3 l4 l5 s0 (σ.1 b 15)
def fX9_readsGroup_98 (b : Nat) (k17 : Sg → Int32 → Int32 → Int32 → Option Sg) (σ : Sg) (l1 : Int32) (l2 : Int32) (l3 : Int32) (l4 : Int32) (l5 : Int32) : Option Sg :=
  (fX9_readsGroup_99 b k17 σ l1 l2 l3 l4 l5 0)
theorem bX9_readsGroup_98 {X : Xc} {K : Kc} (C : MC X K cX9_readsGroup 8 RX9 rmX9_readsGroup) (hr : K.meth.sig.returnType = none) (b : Nat) (hb : moOK b){k17 : Sg → Int32 → Int32 → Int32 → Option Sg} (hk17 : ∀ (σ : Sg) (l1 : Int32) (l2 : Int32) (l3 : Int32), GO X K 8 (fun r => MQv X K r) (k17 σ l1 l2 l3) σ 0 0 17 [some (.ref (X.ad b)), some (.int (l1)), some (.int (l2)), some (.int (l3)), none, none, none, none] []) (σ : Sg) (l1 : Int32) (l2 : Int32) (l3 : Int32) (l4 : Int32) (l5 : Int32) : GO X K 8 (fun r => MQv X K r) (fX9_readsGroup_98 b k17 σ l1 l2 l3 l4 l5) σ 0 0 98 [some (.ref (X.ad b)), some (.int (l1)), some (.int (l2)), some (.int (l3)), some (.int (l4)), some (.int (l5)), none, none] [] := by
  unfold fX9_readsGroup_98
  refine g_iconst (pc := 98) (v := 0) C dX9_readsGroup_98 (by decide) ?_
  refine g_keep [true, true, true, true, true, true, false, false] ?_
  exact bX9_readsGroup_99 C hr b hb hk17 σ l1 l2 l3 l4 l5 0
def fX9_readsGroup_79 (b : Nat) (k17 : Sg → Int32 → Int32 → Int32 → Option Sg) (σ : Sg) (l1 : Int32) (l2 : Int32) (l3 : Int32) (l4 : Int32) (s0 : Int32) : Option Sg :=
  (fX9_next σ b).bind fun r10 =>
  if r10 = 42 then
    if l2 = 0 then
      (fX9_readsGroup_99 b k17 σ l1 l2 l3 l4 s0 1)
    else
      (fX9_readsGroup_98 b k17 σ l1 l2 l3 l4 s0)
  else
    (fX9_readsGroup_98 b k17 σ l1 l2 l3 l4 s0)
theorem bX9_readsGroup_79 {X : Xc} {K : Kc} (C : MC X K cX9_readsGroup 8 RX9 rmX9_readsGroup) (hr : K.meth.sig.returnType = none) (b : Nat) (hb : moOK b){k17 : Sg → Int32 → Int32 → Int32 → Option Sg} (hk17 : ∀ (σ : Sg) (l1 : Int32) (l2 : Int32) (l3 : Int32), GO X K 8 (fun r => MQv X K r) (k17 σ l1 l2 l3) σ 0 0 17 [some (.ref (X.ad b)), some (.int (l1)), some (.int (l2)), some (.int (l3)), none, none, none, none] []) (σ : Sg) (l1 : Int32) (l2 : Int32) (l3 : Int32) (l4 : Int32) (s0 : Int32) : GO X K 8 (fun r => MQv X K r) (fX9_readsGroup_79 b k17 σ l1 l2 l3 l4 s0) σ 0 0 79 [some (.ref (X.ad b)), some (.int (l1)), some (.int (l2)), some (.int (l3)), some (.int (l4)), none, none, none] [.int (s0)] := by
  unfold fX9_readsGroup_79
  refine g_istore (pc := 79) C dX9_readsGroup_79 (Nat.le_of_ble_eq_true rfl) rfl ?_
  refine g_aload_n (pc := 81) (i := 0) C dX9_readsGroup_81 rfl rfl ?_
  refine g_callVi (pc := 82) (As := []) C (kX9_next X σ b hb) (blk hb 0 rfl) rfl q_52_22 q_52_23 q_53_0 q_1_5 q_53_1 ⟨rfl, hdX9_next⟩ ⟨Nat.le_of_ble_eq_true rfl, Nat.le_of_ble_eq_true rfl, rfl, rfl⟩ ⟨Nat.zero_le _, Nat.zero_le _⟩ (Nat.le_of_ble_eq_true rfl) rfl rfl dX9_readsGroup_82 (fun r10 _ => ?_)
  refine g_bipush (pc := 85) (v := 42) C dX9_readsGroup_85 (by decide) ?_
  refine g_icmp_ne (pc := 87) (tgt := 98) C dX9_readsGroup_87 rfl ?_ ?_
  · refine g_iload_n (pc := 90) (i := 2) C dX9_readsGroup_90 rfl rfl ?_
    refine g_if_ne (pc := 91) (tgt := 98) C dX9_readsGroup_91 rfl ?_ ?_
    · refine g_iconst (pc := 94) (v := 1) C dX9_readsGroup_94 (by decide) ?_
      refine g_goto (pc := 95) (tgt := 99) C dX9_readsGroup_95 rfl ?_
      refine g_keep [true, true, true, true, true, true, false, false] ?_
      exact bX9_readsGroup_99 C hr b hb hk17 σ l1 l2 l3 l4 s0 1
    · refine g_keep [true, true, true, true, true, true, false, false] ?_
      exact bX9_readsGroup_98 C hr b hb hk17 σ l1 l2 l3 l4 s0
  · refine g_keep [true, true, true, true, true, true, false, false] ?_
    exact bX9_readsGroup_98 C hr b hb hk17 σ l1 l2 l3 l4 s0
def fX9_readsGroup_17 (b : Nat) : Nat → Sg → Int32 → Int32 → Int32 → Option Sg
  | 0, _, _, _, _ => none
  | n + 1, σ, l1, l2, l3 =>
    (fX9_isPaneNext σ b).bind fun r3 =>
    if r3 = true then
      (fX9_next σ b).bind fun r4 =>
      nm (r4 - 97) fun v5 =>
      nm (su σ b 20 ((σ.1 b 20) ||| (1 <<< (v5 &&& 31)))) fun σ6 =>
      nm (su σ6 b 15 ((σ6.1 b 15) + 1)) fun σ7 =>
      (fX9_next σ7 b).bind fun r8 =>
      if r8 = 45 then
        (fX9_readsGroup_79 b (fX9_readsGroup_17 b n) σ7 l1 l2 l3 v5 1)
      else
        (fX9_readsGroup_79 b (fX9_readsGroup_17 b n) σ7 l1 l2 l3 v5 0)
    else
      nm (su σ b 16 (σ.1 b 15)) fun σ9 =>
      some σ9
theorem bX9_readsGroup_17 {X : Xc} {K : Kc} (C : MC X K cX9_readsGroup 8 RX9 rmX9_readsGroup) (hr : K.meth.sig.returnType = none) (b : Nat) (hb : moOK b) : ∀ (n : Nat) (σ : Sg) (l1 : Int32) (l2 : Int32) (l3 : Int32), GO X K 8 (fun r => MQv X K r) (fX9_readsGroup_17 b n σ l1 l2 l3) σ 0 0 17 [some (.ref (X.ad b)), some (.int (l1)), some (.int (l2)), some (.int (l3)), none, none, none, none] [] := by
  intro n
  induction n with
  | zero =>
    intro σ l1 l2 l3
    exact g_none
  | succ n ih =>
    intro σ l1 l2 l3
    unfold fX9_readsGroup_17
    refine g_aload_n (pc := 17) (i := 0) C dX9_readsGroup_17 rfl rfl ?_
    refine g_callVi (pc := 18) (As := []) C (kX9_isPaneNext X σ b hb) (blk hb 0 rfl) rfl q_53_19 q_53_20 q_53_21 q_1_5 q_53_22 ⟨rfl, hdX9_isPaneNext⟩ ⟨Nat.le_of_ble_eq_true rfl, Nat.le_of_ble_eq_true rfl, rfl, rfl⟩ ⟨Nat.zero_le _, Nat.zero_le _⟩ (Nat.le_of_ble_eq_true rfl) rfl rfl dX9_readsGroup_18 (fun r3 _ => ?_)
    refine g_ifb_ne (pc := 21) (tgt := 33) C dX9_readsGroup_21 rfl ?_ ?_
    · refine g_aload_n (pc := 33) (i := 0) C dX9_readsGroup_33 rfl rfl ?_
      refine g_callVi (pc := 34) (As := []) C (kX9_next X σ b hb) (blk hb 0 rfl) rfl q_52_22 q_52_23 q_53_0 q_1_5 q_53_1 ⟨rfl, hdX9_next⟩ ⟨Nat.le_of_ble_eq_true rfl, Nat.le_of_ble_eq_true rfl, rfl, rfl⟩ ⟨Nat.zero_le _, Nat.zero_le _⟩ (Nat.le_of_ble_eq_true rfl) rfl rfl dX9_readsGroup_34 (fun r4 _ => ?_)
      refine g_bipush (pc := 37) (v := 97) C dX9_readsGroup_37 (by decide) ?_
      refine g_isub (pc := 39) C dX9_readsGroup_39 ?_
      refine g_nm (fun v5 => ?_)
      refine g_istore (pc := 40) C dX9_readsGroup_40 (Nat.le_of_ble_eq_true rfl) rfl ?_
      refine g_aload_n (pc := 42) (i := 0) C dX9_readsGroup_42 rfl rfl ?_
      refine g_dup (pc := 43) C dX9_readsGroup_43 rfl ?_
      refine g_geti (pc := 44) (ci := 9) (N := 27) (T := TX9) (j := 20) (Cn := RX9) C rfl inlX9 (Nat.le_of_ble_eq_true rfl) q_52_20 (blk hb 0 rfl) rfl dX9_readsGroup_44 ?_
      refine g_iconst (pc := 47) (v := 1) C dX9_readsGroup_47 (by decide) ?_
      refine g_iload (pc := 48) C dX9_readsGroup_48 rfl ?_
      refine g_ishl (pc := 50) C dX9_readsGroup_50 ?_
      refine g_ior (pc := 51) C dX9_readsGroup_51 ?_
      refine g_puti (pc := 52) (ci := 9) (N := 27) (T := TX9) (j := 20) (Cn := RX9) C rfl inlX9 tyX9_ok nmX9 (Nat.le_of_ble_eq_true rfl) q_52_20 (blk hb 0 rfl) rfl rfl rfl dX9_readsGroup_52 ?_
      refine g_nms (fun σ6 => ?_)
      refine g_aload_n (pc := 55) (i := 0) C dX9_readsGroup_55 rfl rfl ?_
      refine g_dup (pc := 56) C dX9_readsGroup_56 rfl ?_
      refine g_geti (pc := 57) (ci := 9) (N := 27) (T := TX9) (j := 15) (Cn := RX9) C rfl inlX9 (Nat.le_of_ble_eq_true rfl) q_52_17 (blk hb 0 rfl) rfl dX9_readsGroup_57 ?_
      refine g_iconst (pc := 60) (v := 1) C dX9_readsGroup_60 (by decide) ?_
      refine g_iadd (pc := 61) C dX9_readsGroup_61 ?_
      refine g_puti (pc := 62) (ci := 9) (N := 27) (T := TX9) (j := 15) (Cn := RX9) C rfl inlX9 tyX9_ok nmX9 (Nat.le_of_ble_eq_true rfl) q_52_17 (blk hb 0 rfl) rfl rfl rfl dX9_readsGroup_62 ?_
      refine g_nms (fun σ7 => ?_)
      refine g_aload_n (pc := 65) (i := 0) C dX9_readsGroup_65 rfl rfl ?_
      refine g_callVi (pc := 66) (As := []) C (kX9_next X σ7 b hb) (blk hb 0 rfl) rfl q_52_22 q_52_23 q_53_0 q_1_5 q_53_1 ⟨rfl, hdX9_next⟩ ⟨Nat.le_of_ble_eq_true rfl, Nat.le_of_ble_eq_true rfl, rfl, rfl⟩ ⟨Nat.zero_le _, Nat.zero_le _⟩ (Nat.le_of_ble_eq_true rfl) rfl rfl dX9_readsGroup_66 (fun r8 _ => ?_)
      refine g_bipush (pc := 69) (v := 45) C dX9_readsGroup_69 (by decide) ?_
      refine g_icmp_ne (pc := 71) (tgt := 78) C dX9_readsGroup_71 rfl ?_ ?_
      · refine g_iconst (pc := 74) (v := 1) C dX9_readsGroup_74 (by decide) ?_
        refine g_goto (pc := 75) (tgt := 79) C dX9_readsGroup_75 rfl ?_
        refine g_keep [true, true, true, true, true, false, false, false] ?_
        exact bX9_readsGroup_79 C hr b hb ih σ7 l1 l2 l3 v5 1
      · refine g_iconst (pc := 78) (v := 0) C dX9_readsGroup_78 (by decide) ?_
        refine g_keep [true, true, true, true, true, false, false, false] ?_
        exact bX9_readsGroup_79 C hr b hb ih σ7 l1 l2 l3 v5 0
    · refine g_aload_n (pc := 24) (i := 0) C dX9_readsGroup_24 rfl rfl ?_
      refine g_aload_n (pc := 25) (i := 0) C dX9_readsGroup_25 rfl rfl ?_
      refine g_geti (pc := 26) (ci := 9) (N := 27) (T := TX9) (j := 15) (Cn := RX9) C rfl inlX9 (Nat.le_of_ble_eq_true rfl) q_52_17 (blk hb 0 rfl) rfl dX9_readsGroup_26 ?_
      refine g_puti (pc := 29) (ci := 9) (N := 27) (T := TX9) (j := 16) (Cn := RX9) C rfl inlX9 tyX9_ok nmX9 (Nat.le_of_ble_eq_true rfl) q_52_18 (blk hb 0 rfl) rfl rfl rfl dX9_readsGroup_29 ?_
      refine g_nms (fun σ9 => ?_)
      exact g_vret (pc := 32) C hr dX9_readsGroup_32 rfl
def fX9_readsGroup (σ : Sg) (b : Nat) (p1 : Int32) : Option Sg :=
  if p1 = 0 then
    (fX9_readsGroup_17 b FU σ p1 0 0)
  else
    (fX9_newNode σ b 2).bind fun r1 =>
    nm (su r1.2 b 21 r1.1) fun σ2 =>
    (fX9_readsGroup_17 b FU σ2 p1 0 0)
theorem kX9_readsGroup (X : Xc) (σ : Sg) (b : Nat) (p1 : Int32) (hb : moOK b) : ∀ r, fX9_readsGroup σ b p1 = some r → Met X.l yX9_readsGroup (wsM yX9_readsGroup cX9_readsGroup 8 none) rmX9_readsGroup (va_Pc [.ref (X.ad b), .int p1] (PW X σ)) (Qv X r) 0 0 X.A := by
  refine mt_of (own := RX9) (lo := [some (.ref (X.ad b)), some (.int (p1)), none, none, none, none, none, none]) (by decide) rfl (Nat.le_of_ble_eq_true rfl) rfl (fun K C hr => ?_)
  unfold fX9_readsGroup
  refine g_iconst (pc := 0) (v := 0) C dX9_readsGroup_0 (by decide) ?_
  refine g_istore_n (pc := 1) (i := 2) C dX9_readsGroup_1 rfl (Nat.le_of_ble_eq_true rfl) rfl ?_
  refine g_iconst (pc := 2) (v := 0) C dX9_readsGroup_2 (by decide) ?_
  refine g_istore_n (pc := 3) (i := 3) C dX9_readsGroup_3 rfl (Nat.le_of_ble_eq_true rfl) rfl ?_
  refine g_iload_n (pc := 4) (i := 1) C dX9_readsGroup_4 rfl rfl ?_
  refine g_if_eq (pc := 5) (tgt := 17) C dX9_readsGroup_5 rfl ?_ ?_
  · refine g_keep [true, true, true, true, false, false, false, false] ?_
    exact bX9_readsGroup_17 C hr b hb FU σ p1 0 0
  · refine g_aload_n (pc := 8) (i := 0) C dX9_readsGroup_8 rfl rfl ?_
    refine g_aload_n (pc := 9) (i := 0) C dX9_readsGroup_9 rfl rfl ?_
    refine g_iconst (pc := 10) (v := 2) C dX9_readsGroup_10 (by decide) ?_
    refine g_callVi (pc := 11) (As := [.int (2)]) C (kX9_newNode X σ b 2 hb) (blk hb 0 rfl) rfl q_35_2 q_35_3 q_35_4 q_1_5 q_35_5 ⟨rfl, hdX9_newNode⟩ ⟨Nat.le_of_ble_eq_true rfl, Nat.le_of_ble_eq_true rfl, rfl, rfl⟩ ⟨Nat.zero_le _, Nat.zero_le _⟩ (Nat.le_of_ble_eq_true rfl) rfl rfl dX9_readsGroup_11 (fun r1 _ => ?_)
    refine g_puti (pc := 14) (ci := 9) (N := 27) (T := TX9) (j := 21) (Cn := RX9) C rfl inlX9 tyX9_ok nmX9 (Nat.le_of_ble_eq_true rfl) q_53_18 (blk hb 0 rfl) rfl rfl rfl dX9_readsGroup_14 ?_
    refine g_nms (fun σ2 => ?_)
    refine g_keep [true, true, true, true, false, false, false, false] ?_
    exact bX9_readsGroup_17 C hr b hb FU σ2 p1 0 0
theorem dX9_joins_0 : decode cX9_joins 0 = .ok (.aload_n 0, 1) := by decide +kernel
theorem dX9_joins_1 : decode cX9_joins 1 = .ok (.getfield 285, 3) := by decide +kernel
theorem dX9_joins_4 : decode cX9_joins 4 = .ok (.ifCond .le 72, 3) := by decide +kernel
theorem dX9_joins_7 : decode cX9_joins 7 = .ok (.iload_n 2, 1) := by decide +kernel
theorem dX9_joins_8 : decode cX9_joins 8 = .ok (.ifCond .eq 53, 3) := by decide +kernel
theorem dX9_joins_11 : decode cX9_joins 11 = .ok (.aload_n 0, 1) := by decide +kernel
theorem dX9_joins_12 : decode cX9_joins 12 = .ok (.aload_n 0, 1) := by decide +kernel
theorem dX9_joins_13 : decode cX9_joins 13 = .ok (.getfield 278, 3) := by decide +kernel
theorem dX9_joins_16 : decode cX9_joins 16 = .ok (.iconst 1, 1) := by decide +kernel
theorem dX9_joins_17 : decode cX9_joins 17 = .ok (.aload_n 0, 1) := by decide +kernel
theorem dX9_joins_18 : decode cX9_joins 18 = .ok (.getfield 38, 3) := by decide +kernel
theorem dX9_joins_21 : decode cX9_joins 21 = .ok (.aload_n 0, 1) := by decide +kernel
theorem dX9_joins_22 : decode cX9_joins 22 = .ok (.getfield 285, 3) := by decide +kernel
theorem dX9_joins_25 : decode cX9_joins 25 = .ok (.iconst 1, 1) := by decide +kernel
theorem dX9_joins_26 : decode cX9_joins 26 = .ok (.isub, 1) := by decide +kernel
theorem dX9_joins_27 : decode cX9_joins 27 = .ok (.iaload, 1) := by decide +kernel
theorem dX9_joins_28 : decode cX9_joins 28 = .ok (.invokevirtual 79, 3) := by decide +kernel
theorem dX9_joins_31 : decode cX9_joins 31 = .ok (.aload_n 0, 1) := by decide +kernel
theorem dX9_joins_32 : decode cX9_joins 32 = .ok (.aload_n 0, 1) := by decide +kernel
theorem dX9_joins_33 : decode cX9_joins 33 = .ok (.getfield 278, 3) := by decide +kernel
theorem dX9_joins_36 : decode cX9_joins 36 = .ok (.iconst 4, 1) := by decide +kernel
theorem dX9_joins_37 : decode cX9_joins 37 = .ok (.aload_n 0, 1) := by decide +kernel
theorem dX9_joins_38 : decode cX9_joins 38 = .ok (.getfield 41, 3) := by decide +kernel
theorem dX9_joins_41 : decode cX9_joins 41 = .ok (.aload_n 0, 1) := by decide +kernel
theorem dX9_joins_42 : decode cX9_joins 42 = .ok (.getfield 285, 3) := by decide +kernel
theorem dX9_joins_45 : decode cX9_joins 45 = .ok (.iconst 1, 1) := by decide +kernel
theorem dX9_joins_46 : decode cX9_joins 46 = .ok (.isub, 1) := by decide +kernel
theorem dX9_joins_47 : decode cX9_joins 47 = .ok (.iaload, 1) := by decide +kernel
theorem dX9_joins_48 : decode cX9_joins 48 = .ok (.invokevirtual 79, 3) := by decide +kernel
theorem dX9_joins_51 : decode cX9_joins 51 = .ok (.aload_n 0, 1) := by decide +kernel
theorem dX9_joins_52 : decode cX9_joins 52 = .ok (.aload_n 0, 1) := by decide +kernel
theorem dX9_joins_53 : decode cX9_joins 53 = .ok (.getfield 278, 3) := by decide +kernel
theorem dX9_joins_56 : decode cX9_joins 56 = .ok (.iconst 3, 1) := by decide +kernel
theorem dX9_joins_57 : decode cX9_joins 57 = .ok (.iload_n 1, 1) := by decide +kernel
theorem dX9_joins_58 : decode cX9_joins 58 = .ok (.invokevirtual 79, 3) := by decide +kernel
theorem dX9_joins_61 : decode cX9_joins 61 = .ok (.aload_n 0, 1) := by decide +kernel
theorem dX9_joins_62 : decode cX9_joins 62 = .ok (.getfield 41, 3) := by decide +kernel
theorem dX9_joins_65 : decode cX9_joins 65 = .ok (.aload_n 0, 1) := by decide +kernel
theorem dX9_joins_66 : decode cX9_joins 66 = .ok (.getfield 285, 3) := by decide +kernel
theorem dX9_joins_69 : decode cX9_joins 69 = .ok (.iconst 1, 1) := by decide +kernel
theorem dX9_joins_70 : decode cX9_joins 70 = .ok (.isub, 1) := by decide +kernel
theorem dX9_joins_71 : decode cX9_joins 71 = .ok (.dup2, 1) := by decide +kernel
theorem dX9_joins_72 : decode cX9_joins 72 = .ok (.iaload, 1) := by decide +kernel
theorem dX9_joins_73 : decode cX9_joins 73 = .ok (.iconst 1, 1) := by decide +kernel
theorem dX9_joins_74 : decode cX9_joins 74 = .ok (.iadd, 1) := by decide +kernel
theorem dX9_joins_75 : decode cX9_joins 75 = .ok (.iastore, 1) := by decide +kernel
theorem dX9_joins_76 : decode cX9_joins 76 = .ok (.return_, 1) := by decide +kernel
abbrev rmX9_joins : Room := { frames := 1, cells := 0, slots := 0, locals := 23 }
theorem hdX9_joins : yX9_joins.cls ≠ "java/lang/invoke/MethodHandle" ∧ yX9_joins.cls ≠ "java/lang/invoke/VarHandle" ∧ (parseMethodDescriptor yX9_joins.desc).map (fun d => d.parameters.length) = some 2 := by decide +kernel
def fX9_joins_61 (b : Nat) (σ : Sg) : Option Sg :=
  nm ((σ.1 b 19) - 1) fun v4 =>
  if ck v4 130 then
    if ck v4 130 then
      nm (su σ (b + 11) v4.toNatClampNeg ((σ.1 (b + 11) v4.toNatClampNeg) + 1)) fun σ5 =>
      some σ5
    else none
  else none
theorem bX9_joins_61 {X : Xc} {K : Kc} (C : MC X K cX9_joins 3 RX9 rmX9_joins) (hr : K.meth.sig.returnType = none) (b : Nat) (hb : moOK b) (σ : Sg) : GO X K 3 (fun r => MQv X K r) (fX9_joins_61 b σ) σ 0 0 61 [some (.ref (X.ad b)), none, none] [] := by
  unfold fX9_joins_61
  refine g_aload_n (pc := 61) (i := 0) C dX9_joins_61 rfl rfl ?_
  refine g_getr (pc := 62) (ci := 9) (N := 27) (T := TX9) (j := 18) (Cn := RX9) (b + 11) C rfl inlX9 (Nat.le_of_ble_eq_true rfl) q_6_13 (blk hb 0 rfl) rfl dX9_joins_62 ?_
  refine g_aload_n (pc := 65) (i := 0) C dX9_joins_65 rfl rfl ?_
  refine g_geti (pc := 66) (ci := 9) (N := 27) (T := TX9) (j := 19) (Cn := RX9) C rfl inlX9 (Nat.le_of_ble_eq_true rfl) q_52_19 (blk hb 0 rfl) rfl dX9_joins_66 ?_
  refine g_iconst (pc := 69) (v := 1) C dX9_joins_69 (by decide) ?_
  refine g_isub (pc := 70) C dX9_joins_70 ?_
  refine g_nm (fun v4 => ?_)
  refine g_dup2 (pc := 71) C dX9_joins_71 rfl rfl ?_
  refine g_iaload (pc := 72) C (blk hb 11 rfl) dX9_joins_72 ?_
  refine g_iconst (pc := 73) (v := 1) C dX9_joins_73 (by decide) ?_
  refine g_iadd (pc := 74) C dX9_joins_74 ?_
  refine g_iastore (pc := 75) C (blk hb 11 rfl) dX9_joins_75 ?_
  refine g_nms (fun σ5 => ?_)
  exact g_vret (pc := 76) C hr dX9_joins_76 rfl
def fX9_joins (σ : Sg) (b : Nat) (p1 : Int32) (p2 : Int32) : Option Sg :=
  if (σ.1 b 19) ≤ 0 then
    some σ
  else
    if p2 = 0 then
      (fX9_joins_61 b σ)
    else
      if ck ((σ.1 b 19) - 1) 130 then
        (fX9_lay σ b (σ.1 b 21) 1 (σ.1 (b + 10) ((σ.1 b 19) - 1).toNatClampNeg)).bind fun σ1 =>
        if ck ((σ1.1 b 19) - 1) 130 then
          (fX9_lay σ1 b (σ1.1 b 21) 4 (σ1.1 (b + 11) ((σ1.1 b 19) - 1).toNatClampNeg)).bind fun σ2 =>
          (fX9_lay σ2 b (σ2.1 b 21) 3 p1).bind fun σ3 =>
          (fX9_joins_61 b σ3)
        else none
      else none
theorem kX9_joins (X : Xc) (σ : Sg) (b : Nat) (p1 : Int32) (p2 : Int32) (hb : moOK b) : ∀ r, fX9_joins σ b p1 p2 = some r → Met X.l yX9_joins (wsM yX9_joins cX9_joins 3 none) rmX9_joins (va_Pc [.ref (X.ad b), .int p1, .int p2] (PW X σ)) (Qv X r) 0 0 X.A := by
  refine mt_of (own := RX9) (lo := [some (.ref (X.ad b)), some (.int (p1)), some (.int (p2))]) (by decide) rfl (Nat.le_of_ble_eq_true rfl) rfl (fun K C hr => ?_)
  unfold fX9_joins
  refine g_aload_n (pc := 0) (i := 0) C dX9_joins_0 rfl rfl ?_
  refine g_geti (pc := 1) (ci := 9) (N := 27) (T := TX9) (j := 19) (Cn := RX9) C rfl inlX9 (Nat.le_of_ble_eq_true rfl) q_52_19 (blk hb 0 rfl) rfl dX9_joins_1 ?_
  refine g_if_le (pc := 4) (tgt := 76) C dX9_joins_4 rfl ?_ ?_
  · exact g_vret (pc := 76) C hr dX9_joins_76 rfl
  · refine g_iload_n (pc := 7) (i := 2) C dX9_joins_7 rfl rfl ?_
    refine g_if_eq (pc := 8) (tgt := 61) C dX9_joins_8 rfl ?_ ?_
    · refine g_keep [true, false, false] ?_
      exact bX9_joins_61 C hr b hb σ
    · refine g_aload_n (pc := 11) (i := 0) C dX9_joins_11 rfl rfl ?_
      refine g_aload_n (pc := 12) (i := 0) C dX9_joins_12 rfl rfl ?_
      refine g_geti (pc := 13) (ci := 9) (N := 27) (T := TX9) (j := 21) (Cn := RX9) C rfl inlX9 (Nat.le_of_ble_eq_true rfl) q_53_18 (blk hb 0 rfl) rfl dX9_joins_13 ?_
      refine g_iconst (pc := 16) (v := 1) C dX9_joins_16 (by decide) ?_
      refine g_aload_n (pc := 17) (i := 0) C dX9_joins_17 rfl rfl ?_
      refine g_getr (pc := 18) (ci := 9) (N := 27) (T := TX9) (j := 17) (Cn := RX9) (b + 10) C rfl inlX9 (Nat.le_of_ble_eq_true rfl) q_6_12 (blk hb 0 rfl) rfl dX9_joins_18 ?_
      refine g_aload_n (pc := 21) (i := 0) C dX9_joins_21 rfl rfl ?_
      refine g_geti (pc := 22) (ci := 9) (N := 27) (T := TX9) (j := 19) (Cn := RX9) C rfl inlX9 (Nat.le_of_ble_eq_true rfl) q_52_19 (blk hb 0 rfl) rfl dX9_joins_22 ?_
      refine g_iconst (pc := 25) (v := 1) C dX9_joins_25 (by decide) ?_
      refine g_isub (pc := 26) C dX9_joins_26 ?_
      refine g_iaload (pc := 27) C (blk hb 10 rfl) dX9_joins_27 ?_
      refine g_callVv (pc := 28) (As := [.int (σ.1 b 21), .int (1), .int (σ.1 (b + 10) ((σ.1 b 19) - 1).toNatClampNeg)]) C (kX9_lay X σ b (σ.1 b 21) 1 (σ.1 (b + 10) ((σ.1 b 19) - 1).toNatClampNeg) hb) (blk hb 0 rfl) rfl q_21_0 q_21_1 q_21_2 q_1_5 q_21_3 ⟨rfl, hdX9_lay⟩ ⟨Nat.le_of_ble_eq_true rfl, Nat.le_of_ble_eq_true rfl, rfl, rfl⟩ ⟨Nat.zero_le _, Nat.zero_le _⟩ (Nat.le_of_ble_eq_true rfl) rfl rfl dX9_joins_28 (fun σ1 _ => ?_)
      refine g_aload_n (pc := 31) (i := 0) C dX9_joins_31 rfl rfl ?_
      refine g_aload_n (pc := 32) (i := 0) C dX9_joins_32 rfl rfl ?_
      refine g_geti (pc := 33) (ci := 9) (N := 27) (T := TX9) (j := 21) (Cn := RX9) C rfl inlX9 (Nat.le_of_ble_eq_true rfl) q_53_18 (blk hb 0 rfl) rfl dX9_joins_33 ?_
      refine g_iconst (pc := 36) (v := 4) C dX9_joins_36 (by decide) ?_
      refine g_aload_n (pc := 37) (i := 0) C dX9_joins_37 rfl rfl ?_
      refine g_getr (pc := 38) (ci := 9) (N := 27) (T := TX9) (j := 18) (Cn := RX9) (b + 11) C rfl inlX9 (Nat.le_of_ble_eq_true rfl) q_6_13 (blk hb 0 rfl) rfl dX9_joins_38 ?_
      refine g_aload_n (pc := 41) (i := 0) C dX9_joins_41 rfl rfl ?_
      refine g_geti (pc := 42) (ci := 9) (N := 27) (T := TX9) (j := 19) (Cn := RX9) C rfl inlX9 (Nat.le_of_ble_eq_true rfl) q_52_19 (blk hb 0 rfl) rfl dX9_joins_42 ?_
      refine g_iconst (pc := 45) (v := 1) C dX9_joins_45 (by decide) ?_
      refine g_isub (pc := 46) C dX9_joins_46 ?_
      refine g_iaload (pc := 47) C (blk hb 11 rfl) dX9_joins_47 ?_
      refine g_callVv (pc := 48) (As := [.int (σ1.1 b 21), .int (4), .int (σ1.1 (b + 11) ((σ1.1 b 19) - 1).toNatClampNeg)]) C (kX9_lay X σ1 b (σ1.1 b 21) 4 (σ1.1 (b + 11) ((σ1.1 b 19) - 1).toNatClampNeg) hb) (blk hb 0 rfl) rfl q_21_0 q_21_1 q_21_2 q_1_5 q_21_3 ⟨rfl, hdX9_lay⟩ ⟨Nat.le_of_ble_eq_true rfl, Nat.le_of_ble_eq_true rfl, rfl, rfl⟩ ⟨Nat.zero_le _, Nat.zero_le _⟩ (Nat.le_of_ble_eq_true rfl) rfl rfl dX9_joins_48 (fun σ2 _ => ?_)
      refine g_aload_n (pc := 51) (i := 0) C dX9_joins_51 rfl rfl ?_
      refine g_aload_n (pc := 52) (i := 0) C dX9_joins_52 rfl rfl ?_
      refine g_geti (pc := 53) (ci := 9) (N := 27) (T := TX9) (j := 21) (Cn := RX9) C rfl inlX9 (Nat.le_of_ble_eq_true rfl) q_53_18 (blk hb 0 rfl) rfl dX9_joins_53 ?_
      refine g_iconst (pc := 56) (v := 3) C dX9_joins_56 (by decide) ?_
      refine g_iload_n (pc := 57) (i := 1) C dX9_joins_57 rfl rfl ?_
      refine g_callVv (pc := 58) (As := [.int (σ2.1 b 21), .int (3), .int (p1)]) C (kX9_lay X σ2 b (σ2.1 b 21) 3 p1 hb) (blk hb 0 rfl) rfl q_21_0 q_21_1 q_21_2 q_1_5 q_21_3 ⟨rfl, hdX9_lay⟩ ⟨Nat.le_of_ble_eq_true rfl, Nat.le_of_ble_eq_true rfl, rfl, rfl⟩ ⟨Nat.zero_le _, Nat.zero_le _⟩ (Nat.le_of_ble_eq_true rfl) rfl rfl dX9_joins_58 (fun σ3 _ => ?_)
      refine g_keep [true, false, false] ?_
      exact bX9_joins_61 C hr b hb σ3
theorem dX9_opens_0 : decode cX9_opens 0 = .ok (.aload_n 0, 1) := by decide +kernel
theorem dX9_opens_1 : decode cX9_opens 1 = .ok (.invokevirtual 266, 3) := by decide +kernel
theorem dX9_opens_4 : decode cX9_opens 4 = .ok (.bipush 86, 2) := by decide +kernel
theorem dX9_opens_6 : decode cX9_opens 6 = .ok (.if_icmp .ne 7, 3) := by decide +kernel
theorem dX9_opens_9 : decode cX9_opens 9 = .ok (.iconst 1, 1) := by decide +kernel
theorem dX9_opens_10 : decode cX9_opens 10 = .ok (.goto 4, 3) := by decide +kernel
theorem dX9_opens_13 : decode cX9_opens 13 = .ok (.iconst 0, 1) := by decide +kernel
theorem dX9_opens_14 : decode cX9_opens 14 = .ok (.istore_n 2, 1) := by decide +kernel
theorem dX9_opens_15 : decode cX9_opens 15 = .ok (.aload_n 0, 1) := by decide +kernel
theorem dX9_opens_16 : decode cX9_opens 16 = .ok (.dup, 1) := by decide +kernel
theorem dX9_opens_17 : decode cX9_opens 17 = .ok (.getfield 260, 3) := by decide +kernel
theorem dX9_opens_20 : decode cX9_opens 20 = .ok (.iconst 1, 1) := by decide +kernel
theorem dX9_opens_21 : decode cX9_opens 21 = .ok (.iadd, 1) := by decide +kernel
theorem dX9_opens_22 : decode cX9_opens 22 = .ok (.putfield 260, 3) := by decide +kernel
theorem dX9_opens_25 : decode cX9_opens 25 = .ok (.aload_n 0, 1) := by decide +kernel
theorem dX9_opens_26 : decode cX9_opens 26 = .ok (.bipush 40, 2) := by decide +kernel
theorem dX9_opens_28 : decode cX9_opens 28 = .ok (.iconst 1, 1) := by decide +kernel
theorem dX9_opens_29 : decode cX9_opens 29 = .ok (.invokevirtual 275, 3) := by decide +kernel
theorem dX9_opens_32 : decode cX9_opens 32 = .ok (.pop, 1) := by decide +kernel
theorem dX9_opens_33 : decode cX9_opens 33 = .ok (.aload_n 0, 1) := by decide +kernel
theorem dX9_opens_34 : decode cX9_opens 34 = .ok (.getfield 44, 3) := by decide +kernel
theorem dX9_opens_37 : decode cX9_opens 37 = .ok (.aload_n 0, 1) := by decide +kernel
theorem dX9_opens_38 : decode cX9_opens 38 = .ok (.getfield 285, 3) := by decide +kernel
theorem dX9_opens_41 : decode cX9_opens 41 = .ok (.aload_n 0, 1) := by decide +kernel
theorem dX9_opens_42 : decode cX9_opens 42 = .ok (.getfield 272, 3) := by decide +kernel
theorem dX9_opens_45 : decode cX9_opens 45 = .ok (.iastore, 1) := by decide +kernel
theorem dX9_opens_46 : decode cX9_opens 46 = .ok (.aload_n 0, 1) := by decide +kernel
theorem dX9_opens_47 : decode cX9_opens 47 = .ok (.getfield 41, 3) := by decide +kernel
theorem dX9_opens_50 : decode cX9_opens 50 = .ok (.aload_n 0, 1) := by decide +kernel
theorem dX9_opens_51 : decode cX9_opens 51 = .ok (.getfield 285, 3) := by decide +kernel
theorem dX9_opens_54 : decode cX9_opens 54 = .ok (.iconst 0, 1) := by decide +kernel
theorem dX9_opens_55 : decode cX9_opens 55 = .ok (.iastore, 1) := by decide +kernel
theorem dX9_opens_56 : decode cX9_opens 56 = .ok (.iload_n 1, 1) := by decide +kernel
theorem dX9_opens_57 : decode cX9_opens 57 = .ok (.ifCond .eq 32, 3) := by decide +kernel
theorem dX9_opens_60 : decode cX9_opens 60 = .ok (.aload_n 0, 1) := by decide +kernel
theorem dX9_opens_61 : decode cX9_opens 61 = .ok (.getfield 38, 3) := by decide +kernel
theorem dX9_opens_64 : decode cX9_opens 64 = .ok (.aload_n 0, 1) := by decide +kernel
theorem dX9_opens_65 : decode cX9_opens 65 = .ok (.getfield 285, 3) := by decide +kernel
theorem dX9_opens_68 : decode cX9_opens 68 = .ok (.aload_n 0, 1) := by decide +kernel
theorem dX9_opens_69 : decode cX9_opens 69 = .ok (.iconst 1, 1) := by decide +kernel
theorem dX9_opens_70 : decode cX9_opens 70 = .ok (.invokevirtual 211, 3) := by decide +kernel
theorem dX9_opens_73 : decode cX9_opens 73 = .ok (.iastore, 1) := by decide +kernel
theorem dX9_opens_74 : decode cX9_opens 74 = .ok (.aload_n 0, 1) := by decide +kernel
theorem dX9_opens_75 : decode cX9_opens 75 = .ok (.aload_n 0, 1) := by decide +kernel
theorem dX9_opens_76 : decode cX9_opens 76 = .ok (.getfield 38, 3) := by decide +kernel
theorem dX9_opens_79 : decode cX9_opens 79 = .ok (.aload_n 0, 1) := by decide +kernel
theorem dX9_opens_80 : decode cX9_opens 80 = .ok (.getfield 285, 3) := by decide +kernel
theorem dX9_opens_83 : decode cX9_opens 83 = .ok (.iaload, 1) := by decide +kernel
theorem dX9_opens_84 : decode cX9_opens 84 = .ok (.iconst 2, 1) := by decide +kernel
theorem dX9_opens_85 : decode cX9_opens 85 = .ok (.iload_n 2, 1) := by decide +kernel
theorem dX9_opens_86 : decode cX9_opens 86 = .ok (.invokevirtual 79, 3) := by decide +kernel
theorem dX9_opens_89 : decode cX9_opens 89 = .ok (.aload_n 0, 1) := by decide +kernel
theorem dX9_opens_90 : decode cX9_opens 90 = .ok (.dup, 1) := by decide +kernel
theorem dX9_opens_91 : decode cX9_opens 91 = .ok (.getfield 285, 3) := by decide +kernel
theorem dX9_opens_94 : decode cX9_opens 94 = .ok (.iconst 1, 1) := by decide +kernel
theorem dX9_opens_95 : decode cX9_opens 95 = .ok (.iadd, 1) := by decide +kernel
theorem dX9_opens_96 : decode cX9_opens 96 = .ok (.putfield 285, 3) := by decide +kernel
theorem dX9_opens_99 : decode cX9_opens 99 = .ok (.aload_n 0, 1) := by decide +kernel
theorem dX9_opens_100 : decode cX9_opens 100 = .ok (.invokevirtual 288, 3) := by decide +kernel
theorem dX9_opens_103 : decode cX9_opens 103 = .ok (.return_, 1) := by decide +kernel
abbrev rmX9_opens : Room := { frames := 3, cells := 0, slots := 0, locals := 63 }
theorem hdX9_opens : yX9_opens.cls ≠ "java/lang/invoke/MethodHandle" ∧ yX9_opens.cls ≠ "java/lang/invoke/VarHandle" ∧ (parseMethodDescriptor yX9_opens.desc).map (fun d => d.parameters.length) = some 1 := by decide +kernel
def fX9_opens_89 (b : Nat) (σ : Sg) : Option Sg :=
  nm (su σ b 19 ((σ.1 b 19) + 1)) fun σ9 =>
  (fX9_readsWeight σ9 b).bind fun σ10 =>
  some σ10
theorem bX9_opens_89 {X : Xc} {K : Kc} (C : MC X K cX9_opens 3 RX9 rmX9_opens) (hr : K.meth.sig.returnType = none) (b : Nat) (hb : moOK b) (σ : Sg) : GO X K 3 (fun r => MQv X K r) (fX9_opens_89 b σ) σ 0 0 89 [some (.ref (X.ad b)), none, none] [] := by
  unfold fX9_opens_89
  refine g_aload_n (pc := 89) (i := 0) C dX9_opens_89 rfl rfl ?_
  refine g_dup (pc := 90) C dX9_opens_90 rfl ?_
  refine g_geti (pc := 91) (ci := 9) (N := 27) (T := TX9) (j := 19) (Cn := RX9) C rfl inlX9 (Nat.le_of_ble_eq_true rfl) q_52_19 (blk hb 0 rfl) rfl dX9_opens_91 ?_
  refine g_iconst (pc := 94) (v := 1) C dX9_opens_94 (by decide) ?_
  refine g_iadd (pc := 95) C dX9_opens_95 ?_
  refine g_puti (pc := 96) (ci := 9) (N := 27) (T := TX9) (j := 19) (Cn := RX9) C rfl inlX9 tyX9_ok nmX9 (Nat.le_of_ble_eq_true rfl) q_52_19 (blk hb 0 rfl) rfl rfl rfl dX9_opens_96 ?_
  refine g_nms (fun σ9 => ?_)
  refine g_aload_n (pc := 99) (i := 0) C dX9_opens_99 rfl rfl ?_
  refine g_callVv (pc := 100) (As := []) C (kX9_readsWeight X σ9 b hb) (blk hb 0 rfl) rfl q_53_10 q_53_11 q_53_12 q_1_5 q_53_13 ⟨rfl, hdX9_readsWeight⟩ ⟨Nat.le_of_ble_eq_true rfl, Nat.le_of_ble_eq_true rfl, rfl, rfl⟩ ⟨Nat.zero_le _, Nat.zero_le _⟩ (Nat.le_of_ble_eq_true rfl) rfl rfl dX9_opens_100 (fun σ10 _ => ?_)
  exact g_vret (pc := 103) C hr dX9_opens_103 rfl
def fX9_opens_14 (b : Nat) (σ : Sg) (l1 : Int32) (s0 : Int32) : Option Sg :=
  nm (su σ b 15 ((σ.1 b 15) + 1)) fun σ2 =>
  (fX9_takes_ σ2 b 40 1).bind fun r3 =>
  if ck (r3.2.1 b 19) 130 then
    nm (su r3.2 (b + 12) (r3.2.1 b 19).toNatClampNeg (r3.2.1 b 22)) fun σ4 =>
    if ck (σ4.1 b 19) 130 then
      nm (su σ4 (b + 11) (σ4.1 b 19).toNatClampNeg 0) fun σ5 =>
      if l1 = 0 then
        (fX9_opens_89 b σ5)
      else
        (fX9_newNode σ5 b 1).bind fun r6 =>
        if ck (σ5.1 b 19) 130 then
          nm (su r6.2 (b + 10) (σ5.1 b 19).toNatClampNeg r6.1) fun σ7 =>
          if ck (σ7.1 b 19) 130 then
            (fX9_lay σ7 b (σ7.1 (b + 10) (σ7.1 b 19).toNatClampNeg) 2 s0).bind fun σ8 =>
            (fX9_opens_89 b σ8)
          else none
        else none
    else none
  else none
theorem bX9_opens_14 {X : Xc} {K : Kc} (C : MC X K cX9_opens 3 RX9 rmX9_opens) (hr : K.meth.sig.returnType = none) (b : Nat) (hb : moOK b) (σ : Sg) (l1 : Int32) (s0 : Int32) : GO X K 3 (fun r => MQv X K r) (fX9_opens_14 b σ l1 s0) σ 0 0 14 [some (.ref (X.ad b)), some (.int (l1)), none] [.int (s0)] := by
  unfold fX9_opens_14
  refine g_istore_n (pc := 14) (i := 2) C dX9_opens_14 rfl (Nat.le_of_ble_eq_true rfl) rfl ?_
  refine g_aload_n (pc := 15) (i := 0) C dX9_opens_15 rfl rfl ?_
  refine g_dup (pc := 16) C dX9_opens_16 rfl ?_
  refine g_geti (pc := 17) (ci := 9) (N := 27) (T := TX9) (j := 15) (Cn := RX9) C rfl inlX9 (Nat.le_of_ble_eq_true rfl) q_52_17 (blk hb 0 rfl) rfl dX9_opens_17 ?_
  refine g_iconst (pc := 20) (v := 1) C dX9_opens_20 (by decide) ?_
  refine g_iadd (pc := 21) C dX9_opens_21 ?_
  refine g_puti (pc := 22) (ci := 9) (N := 27) (T := TX9) (j := 15) (Cn := RX9) C rfl inlX9 tyX9_ok nmX9 (Nat.le_of_ble_eq_true rfl) q_52_17 (blk hb 0 rfl) rfl rfl rfl dX9_opens_22 ?_
  refine g_nms (fun σ2 => ?_)
  refine g_aload_n (pc := 25) (i := 0) C dX9_opens_25 rfl rfl ?_
  refine g_bipush (pc := 26) (v := 40) C dX9_opens_26 (by decide) ?_
  refine g_iconst (pc := 28) (v := 1) C dX9_opens_28 (by decide) ?_
  refine g_callVi (pc := 29) (As := [.int (40), .int (1)]) C (kX9_takes_ X σ2 b 40 1 hb) (blk hb 0 rfl) rfl q_53_6 q_53_7 q_53_8 q_1_5 q_53_9 ⟨rfl, hdX9_takes_⟩ ⟨Nat.le_of_ble_eq_true rfl, Nat.le_of_ble_eq_true rfl, rfl, rfl⟩ ⟨Nat.zero_le _, Nat.zero_le _⟩ (Nat.le_of_ble_eq_true rfl) rfl rfl dX9_opens_29 (fun r3 _ => ?_)
  refine g_pop (pc := 32) C dX9_opens_32 rfl ?_
  refine g_aload_n (pc := 33) (i := 0) C dX9_opens_33 rfl rfl ?_
  refine g_getr (pc := 34) (ci := 9) (N := 27) (T := TX9) (j := 23) (Cn := RX9) (b + 12) C rfl inlX9 (Nat.le_of_ble_eq_true rfl) q_6_14 (blk hb 0 rfl) rfl dX9_opens_34 ?_
  refine g_aload_n (pc := 37) (i := 0) C dX9_opens_37 rfl rfl ?_
  refine g_geti (pc := 38) (ci := 9) (N := 27) (T := TX9) (j := 19) (Cn := RX9) C rfl inlX9 (Nat.le_of_ble_eq_true rfl) q_52_19 (blk hb 0 rfl) rfl dX9_opens_38 ?_
  refine g_aload_n (pc := 41) (i := 0) C dX9_opens_41 rfl rfl ?_
  refine g_geti (pc := 42) (ci := 9) (N := 27) (T := TX9) (j := 22) (Cn := RX9) C rfl inlX9 (Nat.le_of_ble_eq_true rfl) q_52_21 (blk hb 0 rfl) rfl dX9_opens_42 ?_
  refine g_iastore (pc := 45) C (blk hb 12 rfl) dX9_opens_45 ?_
  refine g_nms (fun σ4 => ?_)
  refine g_aload_n (pc := 46) (i := 0) C dX9_opens_46 rfl rfl ?_
  refine g_getr (pc := 47) (ci := 9) (N := 27) (T := TX9) (j := 18) (Cn := RX9) (b + 11) C rfl inlX9 (Nat.le_of_ble_eq_true rfl) q_6_13 (blk hb 0 rfl) rfl dX9_opens_47 ?_
  refine g_aload_n (pc := 50) (i := 0) C dX9_opens_50 rfl rfl ?_
  refine g_geti (pc := 51) (ci := 9) (N := 27) (T := TX9) (j := 19) (Cn := RX9) C rfl inlX9 (Nat.le_of_ble_eq_true rfl) q_52_19 (blk hb 0 rfl) rfl dX9_opens_51 ?_
  refine g_iconst (pc := 54) (v := 0) C dX9_opens_54 (by decide) ?_
  refine g_iastore (pc := 55) C (blk hb 11 rfl) dX9_opens_55 ?_
  refine g_nms (fun σ5 => ?_)
  refine g_iload_n (pc := 56) (i := 1) C dX9_opens_56 rfl rfl ?_
  refine g_if_eq (pc := 57) (tgt := 89) C dX9_opens_57 rfl ?_ ?_
  · refine g_keep [true, false, false] ?_
    exact bX9_opens_89 C hr b hb σ5
  · refine g_aload_n (pc := 60) (i := 0) C dX9_opens_60 rfl rfl ?_
    refine g_getr (pc := 61) (ci := 9) (N := 27) (T := TX9) (j := 17) (Cn := RX9) (b + 10) C rfl inlX9 (Nat.le_of_ble_eq_true rfl) q_6_12 (blk hb 0 rfl) rfl dX9_opens_61 ?_
    refine g_aload_n (pc := 64) (i := 0) C dX9_opens_64 rfl rfl ?_
    refine g_geti (pc := 65) (ci := 9) (N := 27) (T := TX9) (j := 19) (Cn := RX9) C rfl inlX9 (Nat.le_of_ble_eq_true rfl) q_52_19 (blk hb 0 rfl) rfl dX9_opens_65 ?_
    refine g_aload_n (pc := 68) (i := 0) C dX9_opens_68 rfl rfl ?_
    refine g_iconst (pc := 69) (v := 1) C dX9_opens_69 (by decide) ?_
    refine g_callVi (pc := 70) (As := [.int (1)]) C (kX9_newNode X σ5 b 1 hb) (blk hb 0 rfl) rfl q_35_2 q_35_3 q_35_4 q_1_5 q_35_5 ⟨rfl, hdX9_newNode⟩ ⟨Nat.le_of_ble_eq_true rfl, Nat.le_of_ble_eq_true rfl, rfl, rfl⟩ ⟨Nat.zero_le _, Nat.zero_le _⟩ (Nat.le_of_ble_eq_true rfl) rfl rfl dX9_opens_70 (fun r6 _ => ?_)
    refine g_iastore (pc := 73) C (blk hb 10 rfl) dX9_opens_73 ?_
    refine g_nms (fun σ7 => ?_)
    refine g_aload_n (pc := 74) (i := 0) C dX9_opens_74 rfl rfl ?_
    refine g_aload_n (pc := 75) (i := 0) C dX9_opens_75 rfl rfl ?_
    refine g_getr (pc := 76) (ci := 9) (N := 27) (T := TX9) (j := 17) (Cn := RX9) (b + 10) C rfl inlX9 (Nat.le_of_ble_eq_true rfl) q_6_12 (blk hb 0 rfl) rfl dX9_opens_76 ?_
    refine g_aload_n (pc := 79) (i := 0) C dX9_opens_79 rfl rfl ?_
    refine g_geti (pc := 80) (ci := 9) (N := 27) (T := TX9) (j := 19) (Cn := RX9) C rfl inlX9 (Nat.le_of_ble_eq_true rfl) q_52_19 (blk hb 0 rfl) rfl dX9_opens_80 ?_
    refine g_iaload (pc := 83) C (blk hb 10 rfl) dX9_opens_83 ?_
    refine g_iconst (pc := 84) (v := 2) C dX9_opens_84 (by decide) ?_
    refine g_iload_n (pc := 85) (i := 2) C dX9_opens_85 rfl rfl ?_
    refine g_callVv (pc := 86) (As := [.int (σ7.1 (b + 10) (σ7.1 b 19).toNatClampNeg), .int (2), .int (s0)]) C (kX9_lay X σ7 b (σ7.1 (b + 10) (σ7.1 b 19).toNatClampNeg) 2 s0 hb) (blk hb 0 rfl) rfl q_21_0 q_21_1 q_21_2 q_1_5 q_21_3 ⟨rfl, hdX9_lay⟩ ⟨Nat.le_of_ble_eq_true rfl, Nat.le_of_ble_eq_true rfl, rfl, rfl⟩ ⟨Nat.zero_le _, Nat.zero_le _⟩ (Nat.le_of_ble_eq_true rfl) rfl rfl dX9_opens_86 (fun σ8 _ => ?_)
    refine g_keep [true, false, false] ?_
    exact bX9_opens_89 C hr b hb σ8
def fX9_opens (σ : Sg) (b : Nat) (p1 : Int32) : Option Sg :=
  (fX9_next σ b).bind fun r1 =>
  if r1 = 86 then
    (fX9_opens_14 b σ p1 1)
  else
    (fX9_opens_14 b σ p1 0)
theorem kX9_opens (X : Xc) (σ : Sg) (b : Nat) (p1 : Int32) (hb : moOK b) : ∀ r, fX9_opens σ b p1 = some r → Met X.l yX9_opens (wsM yX9_opens cX9_opens 3 none) rmX9_opens (va_Pc [.ref (X.ad b), .int p1] (PW X σ)) (Qv X r) 0 0 X.A := by
  refine mt_of (own := RX9) (lo := [some (.ref (X.ad b)), some (.int (p1)), none]) (by decide) rfl (Nat.le_of_ble_eq_true rfl) rfl (fun K C hr => ?_)
  unfold fX9_opens
  refine g_aload_n (pc := 0) (i := 0) C dX9_opens_0 rfl rfl ?_
  refine g_callVi (pc := 1) (As := []) C (kX9_next X σ b hb) (blk hb 0 rfl) rfl q_52_22 q_52_23 q_53_0 q_1_5 q_53_1 ⟨rfl, hdX9_next⟩ ⟨Nat.le_of_ble_eq_true rfl, Nat.le_of_ble_eq_true rfl, rfl, rfl⟩ ⟨Nat.zero_le _, Nat.zero_le _⟩ (Nat.le_of_ble_eq_true rfl) rfl rfl dX9_opens_1 (fun r1 _ => ?_)
  refine g_bipush (pc := 4) (v := 86) C dX9_opens_4 (by decide) ?_
  refine g_icmp_ne (pc := 6) (tgt := 13) C dX9_opens_6 rfl ?_ ?_
  · refine g_iconst (pc := 9) (v := 1) C dX9_opens_9 (by decide) ?_
    refine g_goto (pc := 10) (tgt := 14) C dX9_opens_10 rfl ?_
    refine g_keep [true, true, false] ?_
    exact bX9_opens_14 C hr b hb σ p1 1
  · refine g_iconst (pc := 13) (v := 0) C dX9_opens_13 (by decide) ?_
    refine g_keep [true, true, false] ?_
    exact bX9_opens_14 C hr b hb σ p1 0
theorem dX9_ends_0 : decode cX9_ends 0 = .ok (.aload_n 0, 1) := by decide +kernel
theorem dX9_ends_1 : decode cX9_ends 1 = .ok (.getfield 285, 3) := by decide +kernel
theorem dX9_ends_4 : decode cX9_ends 4 = .ok (.ifCond .le 85, 3) := by decide +kernel
theorem dX9_ends_7 : decode cX9_ends 7 = .ok (.aload_n 0, 1) := by decide +kernel
theorem dX9_ends_8 : decode cX9_ends 8 = .ok (.getfield 263, 3) := by decide +kernel
theorem dX9_ends_11 : decode cX9_ends 11 = .ok (.iconst (-1), 1) := by decide +kernel
theorem dX9_ends_12 : decode cX9_ends 12 = .ok (.if_icmp .ne 77, 3) := by decide +kernel
theorem dX9_ends_15 : decode cX9_ends 15 = .ok (.aload_n 0, 1) := by decide +kernel
theorem dX9_ends_16 : decode cX9_ends 16 = .ok (.invokevirtual 266, 3) := by decide +kernel
theorem dX9_ends_19 : decode cX9_ends 19 = .ok (.bipush 41, 2) := by decide +kernel
theorem dX9_ends_21 : decode cX9_ends 21 = .ok (.if_icmp .ne 68, 3) := by decide +kernel
theorem dX9_ends_24 : decode cX9_ends 24 = .ok (.aload_n 0, 1) := by decide +kernel
theorem dX9_ends_25 : decode cX9_ends 25 = .ok (.getfield 41, 3) := by decide +kernel
theorem dX9_ends_28 : decode cX9_ends 28 = .ok (.aload_n 0, 1) := by decide +kernel
theorem dX9_ends_29 : decode cX9_ends 29 = .ok (.getfield 285, 3) := by decide +kernel
theorem dX9_ends_32 : decode cX9_ends 32 = .ok (.iconst 1, 1) := by decide +kernel
theorem dX9_ends_33 : decode cX9_ends 33 = .ok (.isub, 1) := by decide +kernel
theorem dX9_ends_34 : decode cX9_ends 34 = .ok (.iaload, 1) := by decide +kernel
theorem dX9_ends_35 : decode cX9_ends 35 = .ok (.iconst 1, 1) := by decide +kernel
theorem dX9_ends_36 : decode cX9_ends 36 = .ok (.if_icmp .le 53, 3) := by decide +kernel
theorem dX9_ends_39 : decode cX9_ends 39 = .ok (.aload_n 0, 1) := by decide +kernel
theorem dX9_ends_40 : decode cX9_ends 40 = .ok (.dup, 1) := by decide +kernel
theorem dX9_ends_41 : decode cX9_ends 41 = .ok (.getfield 260, 3) := by decide +kernel
theorem dX9_ends_44 : decode cX9_ends 44 = .ok (.iconst 1, 1) := by decide +kernel
theorem dX9_ends_45 : decode cX9_ends 45 = .ok (.iadd, 1) := by decide +kernel
theorem dX9_ends_46 : decode cX9_ends 46 = .ok (.putfield 260, 3) := by decide +kernel
theorem dX9_ends_49 : decode cX9_ends 49 = .ok (.aload_n 0, 1) := by decide +kernel
theorem dX9_ends_50 : decode cX9_ends 50 = .ok (.dup, 1) := by decide +kernel
theorem dX9_ends_51 : decode cX9_ends 51 = .ok (.getfield 285, 3) := by decide +kernel
theorem dX9_ends_54 : decode cX9_ends 54 = .ok (.iconst 1, 1) := by decide +kernel
theorem dX9_ends_55 : decode cX9_ends 55 = .ok (.isub, 1) := by decide +kernel
theorem dX9_ends_56 : decode cX9_ends 56 = .ok (.putfield 285, 3) := by decide +kernel
theorem dX9_ends_59 : decode cX9_ends 59 = .ok (.aload_n 0, 1) := by decide +kernel
theorem dX9_ends_60 : decode cX9_ends 60 = .ok (.aload_n 0, 1) := by decide +kernel
theorem dX9_ends_61 : decode cX9_ends 61 = .ok (.getfield 38, 3) := by decide +kernel
theorem dX9_ends_64 : decode cX9_ends 64 = .ok (.aload_n 0, 1) := by decide +kernel
theorem dX9_ends_65 : decode cX9_ends 65 = .ok (.getfield 285, 3) := by decide +kernel
theorem dX9_ends_68 : decode cX9_ends 68 = .ok (.iaload, 1) := by decide +kernel
theorem dX9_ends_69 : decode cX9_ends 69 = .ok (.putfield 278, 3) := by decide +kernel
theorem dX9_ends_72 : decode cX9_ends 72 = .ok (.aload_n 0, 1) := by decide +kernel
theorem dX9_ends_73 : decode cX9_ends 73 = .ok (.aload_n 0, 1) := by decide +kernel
theorem dX9_ends_74 : decode cX9_ends 74 = .ok (.getfield 44, 3) := by decide +kernel
theorem dX9_ends_77 : decode cX9_ends 77 = .ok (.aload_n 0, 1) := by decide +kernel
theorem dX9_ends_78 : decode cX9_ends 78 = .ok (.getfield 285, 3) := by decide +kernel
theorem dX9_ends_81 : decode cX9_ends 81 = .ok (.iaload, 1) := by decide +kernel
theorem dX9_ends_82 : decode cX9_ends 82 = .ok (.iload_n 1, 1) := by decide +kernel
theorem dX9_ends_83 : decode cX9_ends 83 = .ok (.invokevirtual 298, 3) := by decide +kernel
theorem dX9_ends_86 : decode cX9_ends 86 = .ok (.goto (-86), 3) := by decide +kernel
theorem dX9_ends_89 : decode cX9_ends 89 = .ok (.aload_n 0, 1) := by decide +kernel
theorem dX9_ends_90 : decode cX9_ends 90 = .ok (.getfield 285, 3) := by decide +kernel
theorem dX9_ends_93 : decode cX9_ends 93 = .ok (.ifCond .eq 11, 3) := by decide +kernel
theorem dX9_ends_96 : decode cX9_ends 96 = .ok (.aload_n 0, 1) := by decide +kernel
theorem dX9_ends_97 : decode cX9_ends 97 = .ok (.getfield 263, 3) := by decide +kernel
theorem dX9_ends_100 : decode cX9_ends 100 = .ok (.iconst (-1), 1) := by decide +kernel
theorem dX9_ends_101 : decode cX9_ends 101 = .ok (.if_icmp .eq 5, 3) := by decide +kernel
theorem dX9_ends_104 : decode cX9_ends 104 = .ok (.iconst 0, 1) := by decide +kernel
theorem dX9_ends_105 : decode cX9_ends 105 = .ok (.ireturn, 1) := by decide +kernel
theorem dX9_ends_106 : decode cX9_ends 106 = .ok (.aload_n 0, 1) := by decide +kernel
theorem dX9_ends_107 : decode cX9_ends 107 = .ok (.bipush 44, 2) := by decide +kernel
theorem dX9_ends_109 : decode cX9_ends 109 = .ok (.iconst 1, 1) := by decide +kernel
theorem dX9_ends_110 : decode cX9_ends 110 = .ok (.invokevirtual 275, 3) := by decide +kernel
theorem dX9_ends_113 : decode cX9_ends 113 = .ok (.pop, 1) := by decide +kernel
theorem dX9_ends_114 : decode cX9_ends 114 = .ok (.aload_n 0, 1) := by decide +kernel
theorem dX9_ends_115 : decode cX9_ends 115 = .ok (.getfield 263, 3) := by decide +kernel
theorem dX9_ends_118 : decode cX9_ends 118 = .ok (.iconst (-1), 1) := by decide +kernel
theorem dX9_ends_119 : decode cX9_ends 119 = .ok (.if_icmp .ne 7, 3) := by decide +kernel
theorem dX9_ends_122 : decode cX9_ends 122 = .ok (.aload_n 0, 1) := by decide +kernel
theorem dX9_ends_123 : decode cX9_ends 123 = .ok (.invokevirtual 288, 3) := by decide +kernel
theorem dX9_ends_126 : decode cX9_ends 126 = .ok (.aload_n 0, 1) := by decide +kernel
theorem dX9_ends_127 : decode cX9_ends 127 = .ok (.getfield 263, 3) := by decide +kernel
theorem dX9_ends_130 : decode cX9_ends 130 = .ok (.iconst (-1), 1) := by decide +kernel
theorem dX9_ends_131 : decode cX9_ends 131 = .ok (.if_icmp .ne 7, 3) := by decide +kernel
theorem dX9_ends_134 : decode cX9_ends 134 = .ok (.iconst 1, 1) := by decide +kernel
theorem dX9_ends_135 : decode cX9_ends 135 = .ok (.goto 4, 3) := by decide +kernel
theorem dX9_ends_138 : decode cX9_ends 138 = .ok (.iconst 0, 1) := by decide +kernel
theorem dX9_ends_139 : decode cX9_ends 139 = .ok (.ireturn, 1) := by decide +kernel
abbrev rmX9_ends : Room := { frames := 3, cells := 0, slots := 0, locals := 63 }
theorem hdX9_ends : yX9_ends.cls ≠ "java/lang/invoke/MethodHandle" ∧ yX9_ends.cls ≠ "java/lang/invoke/VarHandle" ∧ (parseMethodDescriptor yX9_ends.desc).map (fun d => d.parameters.length) = some 1 := by decide +kernel
def fX9_ends_126 (b : Nat) (σ : Sg) : Option (Bool × Sg) :=
  if (σ.1 b 16) = (-1) then
    some (true, σ)
  else
    some (false, σ)
theorem bX9_ends_126 {X : Xc} {K : Kc} (C : MC X K cX9_ends 2 RX9 rmX9_ends) (hr : K.meth.sig.returnType = (some .boolean)) (b : Nat) (hb : moOK b) (σ : Sg) : GO X K 2 (fun r => MQi X K (b2i r.1) r.2) (fX9_ends_126 b σ) σ 0 0 126 [some (.ref (X.ad b)), none] [] := by
  unfold fX9_ends_126
  refine g_aload_n (pc := 126) (i := 0) C dX9_ends_126 rfl rfl ?_
  refine g_geti (pc := 127) (ci := 9) (N := 27) (T := TX9) (j := 16) (Cn := RX9) C rfl inlX9 (Nat.le_of_ble_eq_true rfl) q_52_18 (blk hb 0 rfl) rfl dX9_ends_127 ?_
  refine g_iconst (pc := 130) (v := (-1)) C dX9_ends_130 (by decide) ?_
  refine g_icmp_ne (pc := 131) (tgt := 138) C dX9_ends_131 rfl ?_ ?_
  · refine g_iconst (pc := 134) (v := 1) C dX9_ends_134 (by decide) ?_
    refine g_goto (pc := 135) (tgt := 139) C dX9_ends_135 rfl ?_
    exact g_zret (pc := 139) C hr dX9_ends_139 rfl
  · refine g_iconst (pc := 138) (v := 0) C dX9_ends_138 (by decide) ?_
    exact g_zret (pc := 139) C hr dX9_ends_139 rfl
def fX9_ends_89 (b : Nat) (σ : Sg) : Option (Bool × Sg) :=
  if (σ.1 b 19) = 0 then
    some (false, σ)
  else
    if (σ.1 b 16) = (-1) then
      (fX9_takes_ σ b 44 1).bind fun r6 =>
      if (r6.2.1 b 16) = (-1) then
        (fX9_readsWeight r6.2 b).bind fun σ7 =>
        (fX9_ends_126 b σ7)
      else
        (fX9_ends_126 b r6.2)
    else
      some (false, σ)
theorem bX9_ends_89 {X : Xc} {K : Kc} (C : MC X K cX9_ends 2 RX9 rmX9_ends) (hr : K.meth.sig.returnType = (some .boolean)) (b : Nat) (hb : moOK b) (σ : Sg) : GO X K 2 (fun r => MQi X K (b2i r.1) r.2) (fX9_ends_89 b σ) σ 0 0 89 [some (.ref (X.ad b)), none] [] := by
  unfold fX9_ends_89
  refine g_aload_n (pc := 89) (i := 0) C dX9_ends_89 rfl rfl ?_
  refine g_geti (pc := 90) (ci := 9) (N := 27) (T := TX9) (j := 19) (Cn := RX9) C rfl inlX9 (Nat.le_of_ble_eq_true rfl) q_52_19 (blk hb 0 rfl) rfl dX9_ends_90 ?_
  refine g_if_eq (pc := 93) (tgt := 104) C dX9_ends_93 rfl ?_ ?_
  · refine g_iconst (pc := 104) (v := 0) C dX9_ends_104 (by decide) ?_
    exact g_zret (pc := 105) C hr dX9_ends_105 rfl
  · refine g_aload_n (pc := 96) (i := 0) C dX9_ends_96 rfl rfl ?_
    refine g_geti (pc := 97) (ci := 9) (N := 27) (T := TX9) (j := 16) (Cn := RX9) C rfl inlX9 (Nat.le_of_ble_eq_true rfl) q_52_18 (blk hb 0 rfl) rfl dX9_ends_97 ?_
    refine g_iconst (pc := 100) (v := (-1)) C dX9_ends_100 (by decide) ?_
    refine g_icmp_eq (pc := 101) (tgt := 106) C dX9_ends_101 rfl ?_ ?_
    · refine g_aload_n (pc := 106) (i := 0) C dX9_ends_106 rfl rfl ?_
      refine g_bipush (pc := 107) (v := 44) C dX9_ends_107 (by decide) ?_
      refine g_iconst (pc := 109) (v := 1) C dX9_ends_109 (by decide) ?_
      refine g_callVi (pc := 110) (As := [.int (44), .int (1)]) C (kX9_takes_ X σ b 44 1 hb) (blk hb 0 rfl) rfl q_53_6 q_53_7 q_53_8 q_1_5 q_53_9 ⟨rfl, hdX9_takes_⟩ ⟨Nat.le_of_ble_eq_true rfl, Nat.le_of_ble_eq_true rfl, rfl, rfl⟩ ⟨Nat.zero_le _, Nat.zero_le _⟩ (Nat.le_of_ble_eq_true rfl) rfl rfl dX9_ends_110 (fun r6 _ => ?_)
      refine g_pop (pc := 113) C dX9_ends_113 rfl ?_
      refine g_aload_n (pc := 114) (i := 0) C dX9_ends_114 rfl rfl ?_
      refine g_geti (pc := 115) (ci := 9) (N := 27) (T := TX9) (j := 16) (Cn := RX9) C rfl inlX9 (Nat.le_of_ble_eq_true rfl) q_52_18 (blk hb 0 rfl) rfl dX9_ends_115 ?_
      refine g_iconst (pc := 118) (v := (-1)) C dX9_ends_118 (by decide) ?_
      refine g_icmp_ne (pc := 119) (tgt := 126) C dX9_ends_119 rfl ?_ ?_
      · refine g_aload_n (pc := 122) (i := 0) C dX9_ends_122 rfl rfl ?_
        refine g_callVv (pc := 123) (As := []) C (kX9_readsWeight X r6.2 b hb) (blk hb 0 rfl) rfl q_53_10 q_53_11 q_53_12 q_1_5 q_53_13 ⟨rfl, hdX9_readsWeight⟩ ⟨Nat.le_of_ble_eq_true rfl, Nat.le_of_ble_eq_true rfl, rfl, rfl⟩ ⟨Nat.zero_le _, Nat.zero_le _⟩ (Nat.le_of_ble_eq_true rfl) rfl rfl dX9_ends_123 (fun σ7 _ => ?_)
        refine g_keep [true, false] ?_
        exact bX9_ends_126 C hr b hb σ7
      · refine g_keep [true, false] ?_
        exact bX9_ends_126 C hr b hb r6.2
    · refine g_iconst (pc := 104) (v := 0) C dX9_ends_104 (by decide) ?_
      exact g_zret (pc := 105) C hr dX9_ends_105 rfl
def fX9_ends_0 (b : Nat) : Nat → Sg → Int32 → Option (Bool × Sg)
  | 0, _, _ => none
  | n + 1, σ, l1 =>
    if (σ.1 b 19) ≤ 0 then
      (fX9_ends_89 b σ)
    else
      if (σ.1 b 16) = (-1) then
        (fX9_next σ b).bind fun r1 =>
        if r1 = 41 then
          if ck ((σ.1 b 19) - 1) 130 then
            if (σ.1 (b + 11) ((σ.1 b 19) - 1).toNatClampNeg) ≤ 1 then
              (fX9_ends_89 b σ)
            else
              nm (su σ b 15 ((σ.1 b 15) + 1)) fun σ2 =>
              nm (su σ2 b 19 ((σ2.1 b 19) - 1)) fun σ3 =>
              if ck (σ3.1 b 19) 130 then
                nm (su σ3 b 21 (σ3.1 (b + 10) (σ3.1 b 19).toNatClampNeg)) fun σ4 =>
                if ck (σ4.1 b 19) 130 then
                  (fX9_joins σ4 b (σ4.1 (b + 12) (σ4.1 b 19).toNatClampNeg) l1).bind fun σ5 =>
                  ((fX9_ends_0 b n) σ5 l1)
                else none
              else none
          else none
        else
          (fX9_ends_89 b σ)
      else
        (fX9_ends_89 b σ)
theorem bX9_ends_0 {X : Xc} {K : Kc} (C : MC X K cX9_ends 2 RX9 rmX9_ends) (hr : K.meth.sig.returnType = (some .boolean)) (b : Nat) (hb : moOK b) : ∀ (n : Nat) (σ : Sg) (l1 : Int32), GO X K 2 (fun r => MQi X K (b2i r.1) r.2) (fX9_ends_0 b n σ l1) σ 0 0 0 [some (.ref (X.ad b)), some (.int (l1))] [] := by
  intro n
  induction n with
  | zero =>
    intro σ l1
    exact g_none
  | succ n ih =>
    intro σ l1
    unfold fX9_ends_0
    refine g_aload_n (pc := 0) (i := 0) C dX9_ends_0 rfl rfl ?_
    refine g_geti (pc := 1) (ci := 9) (N := 27) (T := TX9) (j := 19) (Cn := RX9) C rfl inlX9 (Nat.le_of_ble_eq_true rfl) q_52_19 (blk hb 0 rfl) rfl dX9_ends_1 ?_
    refine g_if_le (pc := 4) (tgt := 89) C dX9_ends_4 rfl ?_ ?_
    · refine g_keep [true, false] ?_
      exact bX9_ends_89 C hr b hb σ
    · refine g_aload_n (pc := 7) (i := 0) C dX9_ends_7 rfl rfl ?_
      refine g_geti (pc := 8) (ci := 9) (N := 27) (T := TX9) (j := 16) (Cn := RX9) C rfl inlX9 (Nat.le_of_ble_eq_true rfl) q_52_18 (blk hb 0 rfl) rfl dX9_ends_8 ?_
      refine g_iconst (pc := 11) (v := (-1)) C dX9_ends_11 (by decide) ?_
      refine g_icmp_ne (pc := 12) (tgt := 89) C dX9_ends_12 rfl ?_ ?_
      · refine g_aload_n (pc := 15) (i := 0) C dX9_ends_15 rfl rfl ?_
        refine g_callVi (pc := 16) (As := []) C (kX9_next X σ b hb) (blk hb 0 rfl) rfl q_52_22 q_52_23 q_53_0 q_1_5 q_53_1 ⟨rfl, hdX9_next⟩ ⟨Nat.le_of_ble_eq_true rfl, Nat.le_of_ble_eq_true rfl, rfl, rfl⟩ ⟨Nat.zero_le _, Nat.zero_le _⟩ (Nat.le_of_ble_eq_true rfl) rfl rfl dX9_ends_16 (fun r1 _ => ?_)
        refine g_bipush (pc := 19) (v := 41) C dX9_ends_19 (by decide) ?_
        refine g_icmp_ne (pc := 21) (tgt := 89) C dX9_ends_21 rfl ?_ ?_
        · refine g_aload_n (pc := 24) (i := 0) C dX9_ends_24 rfl rfl ?_
          refine g_getr (pc := 25) (ci := 9) (N := 27) (T := TX9) (j := 18) (Cn := RX9) (b + 11) C rfl inlX9 (Nat.le_of_ble_eq_true rfl) q_6_13 (blk hb 0 rfl) rfl dX9_ends_25 ?_
          refine g_aload_n (pc := 28) (i := 0) C dX9_ends_28 rfl rfl ?_
          refine g_geti (pc := 29) (ci := 9) (N := 27) (T := TX9) (j := 19) (Cn := RX9) C rfl inlX9 (Nat.le_of_ble_eq_true rfl) q_52_19 (blk hb 0 rfl) rfl dX9_ends_29 ?_
          refine g_iconst (pc := 32) (v := 1) C dX9_ends_32 (by decide) ?_
          refine g_isub (pc := 33) C dX9_ends_33 ?_
          refine g_iaload (pc := 34) C (blk hb 11 rfl) dX9_ends_34 ?_
          refine g_iconst (pc := 35) (v := 1) C dX9_ends_35 (by decide) ?_
          refine g_icmp_le (pc := 36) (tgt := 89) C dX9_ends_36 rfl ?_ ?_
          · refine g_keep [true, false] ?_
            exact bX9_ends_89 C hr b hb σ
          · refine g_aload_n (pc := 39) (i := 0) C dX9_ends_39 rfl rfl ?_
            refine g_dup (pc := 40) C dX9_ends_40 rfl ?_
            refine g_geti (pc := 41) (ci := 9) (N := 27) (T := TX9) (j := 15) (Cn := RX9) C rfl inlX9 (Nat.le_of_ble_eq_true rfl) q_52_17 (blk hb 0 rfl) rfl dX9_ends_41 ?_
            refine g_iconst (pc := 44) (v := 1) C dX9_ends_44 (by decide) ?_
            refine g_iadd (pc := 45) C dX9_ends_45 ?_
            refine g_puti (pc := 46) (ci := 9) (N := 27) (T := TX9) (j := 15) (Cn := RX9) C rfl inlX9 tyX9_ok nmX9 (Nat.le_of_ble_eq_true rfl) q_52_17 (blk hb 0 rfl) rfl rfl rfl dX9_ends_46 ?_
            refine g_nms (fun σ2 => ?_)
            refine g_aload_n (pc := 49) (i := 0) C dX9_ends_49 rfl rfl ?_
            refine g_dup (pc := 50) C dX9_ends_50 rfl ?_
            refine g_geti (pc := 51) (ci := 9) (N := 27) (T := TX9) (j := 19) (Cn := RX9) C rfl inlX9 (Nat.le_of_ble_eq_true rfl) q_52_19 (blk hb 0 rfl) rfl dX9_ends_51 ?_
            refine g_iconst (pc := 54) (v := 1) C dX9_ends_54 (by decide) ?_
            refine g_isub (pc := 55) C dX9_ends_55 ?_
            refine g_puti (pc := 56) (ci := 9) (N := 27) (T := TX9) (j := 19) (Cn := RX9) C rfl inlX9 tyX9_ok nmX9 (Nat.le_of_ble_eq_true rfl) q_52_19 (blk hb 0 rfl) rfl rfl rfl dX9_ends_56 ?_
            refine g_nms (fun σ3 => ?_)
            refine g_aload_n (pc := 59) (i := 0) C dX9_ends_59 rfl rfl ?_
            refine g_aload_n (pc := 60) (i := 0) C dX9_ends_60 rfl rfl ?_
            refine g_getr (pc := 61) (ci := 9) (N := 27) (T := TX9) (j := 17) (Cn := RX9) (b + 10) C rfl inlX9 (Nat.le_of_ble_eq_true rfl) q_6_12 (blk hb 0 rfl) rfl dX9_ends_61 ?_
            refine g_aload_n (pc := 64) (i := 0) C dX9_ends_64 rfl rfl ?_
            refine g_geti (pc := 65) (ci := 9) (N := 27) (T := TX9) (j := 19) (Cn := RX9) C rfl inlX9 (Nat.le_of_ble_eq_true rfl) q_52_19 (blk hb 0 rfl) rfl dX9_ends_65 ?_
            refine g_iaload (pc := 68) C (blk hb 10 rfl) dX9_ends_68 ?_
            refine g_puti (pc := 69) (ci := 9) (N := 27) (T := TX9) (j := 21) (Cn := RX9) C rfl inlX9 tyX9_ok nmX9 (Nat.le_of_ble_eq_true rfl) q_53_18 (blk hb 0 rfl) rfl rfl rfl dX9_ends_69 ?_
            refine g_nms (fun σ4 => ?_)
            refine g_aload_n (pc := 72) (i := 0) C dX9_ends_72 rfl rfl ?_
            refine g_aload_n (pc := 73) (i := 0) C dX9_ends_73 rfl rfl ?_
            refine g_getr (pc := 74) (ci := 9) (N := 27) (T := TX9) (j := 23) (Cn := RX9) (b + 12) C rfl inlX9 (Nat.le_of_ble_eq_true rfl) q_6_14 (blk hb 0 rfl) rfl dX9_ends_74 ?_
            refine g_aload_n (pc := 77) (i := 0) C dX9_ends_77 rfl rfl ?_
            refine g_geti (pc := 78) (ci := 9) (N := 27) (T := TX9) (j := 19) (Cn := RX9) C rfl inlX9 (Nat.le_of_ble_eq_true rfl) q_52_19 (blk hb 0 rfl) rfl dX9_ends_78 ?_
            refine g_iaload (pc := 81) C (blk hb 12 rfl) dX9_ends_81 ?_
            refine g_iload_n (pc := 82) (i := 1) C dX9_ends_82 rfl rfl ?_
            refine g_callVv (pc := 83) (As := [.int (σ4.1 (b + 12) (σ4.1 b 19).toNatClampNeg), .int (l1)]) C (kX9_joins X σ4 b (σ4.1 (b + 12) (σ4.1 b 19).toNatClampNeg) l1 hb) (blk hb 0 rfl) rfl q_53_23 q_54_0 q_54_1 q_1_5 q_54_2 ⟨rfl, hdX9_joins⟩ ⟨Nat.le_of_ble_eq_true rfl, Nat.le_of_ble_eq_true rfl, rfl, rfl⟩ ⟨Nat.zero_le _, Nat.zero_le _⟩ (Nat.le_of_ble_eq_true rfl) rfl rfl dX9_ends_83 (fun σ5 _ => ?_)
            refine g_goto (pc := 86) (tgt := 0) C dX9_ends_86 rfl ?_
            refine g_keep [true, true] ?_
            exact ih σ5 l1
        · refine g_keep [true, false] ?_
          exact bX9_ends_89 C hr b hb σ
      · refine g_keep [true, false] ?_
        exact bX9_ends_89 C hr b hb σ
def fX9_ends (σ : Sg) (b : Nat) (p1 : Int32) : Option (Bool × Sg) :=
  (fX9_ends_0 b FU σ p1)
theorem kX9_ends (X : Xc) (σ : Sg) (b : Nat) (p1 : Int32) (hb : moOK b) : ∀ r, fX9_ends σ b p1 = some r → Met X.l yX9_ends (wsM yX9_ends cX9_ends 2 (some .boolean)) rmX9_ends (va_Pc [.ref (X.ad b), .int p1] (PW X σ)) (Qi X (b2i r.1) r.2) 0 0 X.A := by
  refine mt_of (own := RX9) (lo := [some (.ref (X.ad b)), some (.int (p1))]) (by decide) rfl (Nat.le_of_ble_eq_true rfl) rfl (fun K C hr => ?_)
  unfold fX9_ends
  refine g_keep [true, true] ?_
  exact bX9_ends_0 C hr b hb FU σ p1
theorem dX9_goes_0 : decode cX9_goes 0 = .ok (.aload_n 0, 1) := by decide +kernel
theorem dX9_goes_1 : decode cX9_goes 1 = .ok (.iconst 0, 1) := by decide +kernel
theorem dX9_goes_2 : decode cX9_goes 2 = .ok (.putfield 260, 3) := by decide +kernel
theorem dX9_goes_5 : decode cX9_goes 5 = .ok (.aload_n 0, 1) := by decide +kernel
theorem dX9_goes_6 : decode cX9_goes 6 = .ok (.iconst (-1), 1) := by decide +kernel
theorem dX9_goes_7 : decode cX9_goes 7 = .ok (.putfield 263, 3) := by decide +kernel
theorem dX9_goes_10 : decode cX9_goes 10 = .ok (.aload_n 0, 1) := by decide +kernel
theorem dX9_goes_11 : decode cX9_goes 11 = .ok (.iconst 0, 1) := by decide +kernel
theorem dX9_goes_12 : decode cX9_goes 12 = .ok (.putfield 285, 3) := by decide +kernel
theorem dX9_goes_15 : decode cX9_goes 15 = .ok (.aload_n 0, 1) := by decide +kernel
theorem dX9_goes_16 : decode cX9_goes 16 = .ok (.iconst 0, 1) := by decide +kernel
theorem dX9_goes_17 : decode cX9_goes 17 = .ok (.putfield 269, 3) := by decide +kernel
theorem dX9_goes_20 : decode cX9_goes 20 = .ok (.aload_n 0, 1) := by decide +kernel
theorem dX9_goes_21 : decode cX9_goes 21 = .ok (.iconst 0, 1) := by decide +kernel
theorem dX9_goes_22 : decode cX9_goes 22 = .ok (.putfield 272, 3) := by decide +kernel
theorem dX9_goes_25 : decode cX9_goes 25 = .ok (.iconst 1, 1) := by decide +kernel
theorem dX9_goes_26 : decode cX9_goes 26 = .ok (.istore_n 2, 1) := by decide +kernel
theorem dX9_goes_27 : decode cX9_goes 27 = .ok (.iload_n 2, 1) := by decide +kernel
theorem dX9_goes_28 : decode cX9_goes 28 = .ok (.ifCond .eq 68, 3) := by decide +kernel
theorem dX9_goes_31 : decode cX9_goes 31 = .ok (.aload_n 0, 1) := by decide +kernel
theorem dX9_goes_32 : decode cX9_goes 32 = .ok (.getfield 263, 3) := by decide +kernel
theorem dX9_goes_35 : decode cX9_goes 35 = .ok (.iconst (-1), 1) := by decide +kernel
theorem dX9_goes_36 : decode cX9_goes 36 = .ok (.if_icmp .ne 60, 3) := by decide +kernel
theorem dX9_goes_39 : decode cX9_goes 39 = .ok (.aload_n 0, 1) := by decide +kernel
theorem dX9_goes_40 : decode cX9_goes 40 = .ok (.invokevirtual 266, 3) := by decide +kernel
theorem dX9_goes_43 : decode cX9_goes 43 = .ok (.bipush 72, 2) := by decide +kernel
theorem dX9_goes_45 : decode cX9_goes 45 = .ok (.if_icmp .eq 12, 3) := by decide +kernel
theorem dX9_goes_48 : decode cX9_goes 48 = .ok (.aload_n 0, 1) := by decide +kernel
theorem dX9_goes_49 : decode cX9_goes 49 = .ok (.invokevirtual 266, 3) := by decide +kernel
theorem dX9_goes_52 : decode cX9_goes 52 = .ok (.bipush 86, 2) := by decide +kernel
theorem dX9_goes_54 : decode cX9_goes 54 = .ok (.if_icmp .ne 11, 3) := by decide +kernel
theorem dX9_goes_57 : decode cX9_goes 57 = .ok (.aload_n 0, 1) := by decide +kernel
theorem dX9_goes_58 : decode cX9_goes 58 = .ok (.iload_n 1, 1) := by decide +kernel
theorem dX9_goes_59 : decode cX9_goes 59 = .ok (.invokevirtual 291, 3) := by decide +kernel
theorem dX9_goes_62 : decode cX9_goes 62 = .ok (.goto (-35), 3) := by decide +kernel
theorem dX9_goes_65 : decode cX9_goes 65 = .ok (.aload_n 0, 1) := by decide +kernel
theorem dX9_goes_66 : decode cX9_goes 66 = .ok (.iload_n 1, 1) := by decide +kernel
theorem dX9_goes_67 : decode cX9_goes 67 = .ok (.invokevirtual 295, 3) := by decide +kernel
theorem dX9_goes_70 : decode cX9_goes 70 = .ok (.aload_n 0, 1) := by decide +kernel
theorem dX9_goes_71 : decode cX9_goes 71 = .ok (.getfield 263, 3) := by decide +kernel
theorem dX9_goes_74 : decode cX9_goes 74 = .ok (.iconst (-1), 1) := by decide +kernel
theorem dX9_goes_75 : decode cX9_goes 75 = .ok (.if_icmp .ne (-48), 3) := by decide +kernel
theorem dX9_goes_78 : decode cX9_goes 78 = .ok (.aload_n 0, 1) := by decide +kernel
theorem dX9_goes_79 : decode cX9_goes 79 = .ok (.aload_n 0, 1) := by decide +kernel
theorem dX9_goes_80 : decode cX9_goes 80 = .ok (.getfield 272, 3) := by decide +kernel
theorem dX9_goes_83 : decode cX9_goes 83 = .ok (.iload_n 1, 1) := by decide +kernel
theorem dX9_goes_84 : decode cX9_goes 84 = .ok (.invokevirtual 298, 3) := by decide +kernel
theorem dX9_goes_87 : decode cX9_goes 87 = .ok (.aload_n 0, 1) := by decide +kernel
theorem dX9_goes_88 : decode cX9_goes 88 = .ok (.iload_n 1, 1) := by decide +kernel
theorem dX9_goes_89 : decode cX9_goes 89 = .ok (.invokevirtual 302, 3) := by decide +kernel
theorem dX9_goes_92 : decode cX9_goes 92 = .ok (.istore_n 2, 1) := by decide +kernel
theorem dX9_goes_93 : decode cX9_goes 93 = .ok (.goto (-66), 3) := by decide +kernel
theorem dX9_goes_96 : decode cX9_goes 96 = .ok (.aload_n 0, 1) := by decide +kernel
theorem dX9_goes_97 : decode cX9_goes 97 = .ok (.getfield 263, 3) := by decide +kernel
theorem dX9_goes_100 : decode cX9_goes 100 = .ok (.iconst (-1), 1) := by decide +kernel
theorem dX9_goes_101 : decode cX9_goes 101 = .ok (.if_icmp .ne 22, 3) := by decide +kernel
theorem dX9_goes_104 : decode cX9_goes 104 = .ok (.aload_n 0, 1) := by decide +kernel
theorem dX9_goes_105 : decode cX9_goes 105 = .ok (.getfield 260, 3) := by decide +kernel
theorem dX9_goes_108 : decode cX9_goes 108 = .ok (.aload_n 0, 1) := by decide +kernel
theorem dX9_goes_109 : decode cX9_goes 109 = .ok (.getfield 257, 3) := by decide +kernel
theorem dX9_goes_112 : decode cX9_goes 112 = .ok (.if_icmp .ge 11, 3) := by decide +kernel
theorem dX9_goes_115 : decode cX9_goes 115 = .ok (.aload_n 0, 1) := by decide +kernel
theorem dX9_goes_116 : decode cX9_goes 116 = .ok (.aload_n 0, 1) := by decide +kernel
theorem dX9_goes_117 : decode cX9_goes 117 = .ok (.getfield 260, 3) := by decide +kernel
theorem dX9_goes_120 : decode cX9_goes 120 = .ok (.putfield 263, 3) := by decide +kernel
theorem dX9_goes_123 : decode cX9_goes 123 = .ok (.aload_n 0, 1) := by decide +kernel
theorem dX9_goes_124 : decode cX9_goes 124 = .ok (.getfield 263, 3) := by decide +kernel
theorem dX9_goes_127 : decode cX9_goes 127 = .ok (.ireturn, 1) := by decide +kernel
abbrev rmX9_goes : Room := { frames := 5, cells := 0, slots := 0, locals := 115 }
theorem hdX9_goes : yX9_goes.cls ≠ "java/lang/invoke/MethodHandle" ∧ yX9_goes.cls ≠ "java/lang/invoke/VarHandle" ∧ (parseMethodDescriptor yX9_goes.desc).map (fun d => d.parameters.length) = some 1 := by decide +kernel
def fX9_goes_123 (b : Nat) (σ : Sg) : Option (Int32 × Sg) :=
  some (σ.1 b 16, σ)
theorem bX9_goes_123 {X : Xc} {K : Kc} (C : MC X K cX9_goes 3 RX9 rmX9_goes) (hr : K.meth.sig.returnType = (some .int)) (b : Nat) (hb : moOK b) (σ : Sg) : GO X K 3 (fun r => MQi X K r.1 r.2) (fX9_goes_123 b σ) σ 0 0 123 [some (.ref (X.ad b)), none, none] [] := by
  unfold fX9_goes_123
  refine g_aload_n (pc := 123) (i := 0) C dX9_goes_123 rfl rfl ?_
  refine g_geti (pc := 124) (ci := 9) (N := 27) (T := TX9) (j := 16) (Cn := RX9) C rfl inlX9 (Nat.le_of_ble_eq_true rfl) q_52_18 (blk hb 0 rfl) rfl dX9_goes_124 ?_
  exact g_iret (pc := 127) C hr dX9_goes_127 rfl
def fX9_goes_96 (b : Nat) (σ : Sg) : Option (Int32 × Sg) :=
  if (σ.1 b 16) = (-1) then
    if (σ.1 b 5) ≤ (σ.1 b 15) then
      (fX9_goes_123 b σ)
    else
      nm (su σ b 16 (σ.1 b 15)) fun σ11 =>
      (fX9_goes_123 b σ11)
  else
    (fX9_goes_123 b σ)
theorem bX9_goes_96 {X : Xc} {K : Kc} (C : MC X K cX9_goes 3 RX9 rmX9_goes) (hr : K.meth.sig.returnType = (some .int)) (b : Nat) (hb : moOK b) (σ : Sg) : GO X K 3 (fun r => MQi X K r.1 r.2) (fX9_goes_96 b σ) σ 0 0 96 [some (.ref (X.ad b)), none, none] [] := by
  unfold fX9_goes_96
  refine g_aload_n (pc := 96) (i := 0) C dX9_goes_96 rfl rfl ?_
  refine g_geti (pc := 97) (ci := 9) (N := 27) (T := TX9) (j := 16) (Cn := RX9) C rfl inlX9 (Nat.le_of_ble_eq_true rfl) q_52_18 (blk hb 0 rfl) rfl dX9_goes_97 ?_
  refine g_iconst (pc := 100) (v := (-1)) C dX9_goes_100 (by decide) ?_
  refine g_icmp_ne (pc := 101) (tgt := 123) C dX9_goes_101 rfl ?_ ?_
  · refine g_aload_n (pc := 104) (i := 0) C dX9_goes_104 rfl rfl ?_
    refine g_geti (pc := 105) (ci := 9) (N := 27) (T := TX9) (j := 15) (Cn := RX9) C rfl inlX9 (Nat.le_of_ble_eq_true rfl) q_52_17 (blk hb 0 rfl) rfl dX9_goes_105 ?_
    refine g_aload_n (pc := 108) (i := 0) C dX9_goes_108 rfl rfl ?_
    refine g_geti (pc := 109) (ci := 9) (N := 27) (T := TX9) (j := 5) (Cn := RX9) C rfl inlX9 (Nat.le_of_ble_eq_true rfl) q_49_12 (blk hb 0 rfl) rfl dX9_goes_109 ?_
    refine g_icmp_ge (pc := 112) (tgt := 123) C dX9_goes_112 rfl ?_ ?_
    · refine g_keep [true, false, false] ?_
      exact bX9_goes_123 C hr b hb σ
    · refine g_aload_n (pc := 115) (i := 0) C dX9_goes_115 rfl rfl ?_
      refine g_aload_n (pc := 116) (i := 0) C dX9_goes_116 rfl rfl ?_
      refine g_geti (pc := 117) (ci := 9) (N := 27) (T := TX9) (j := 15) (Cn := RX9) C rfl inlX9 (Nat.le_of_ble_eq_true rfl) q_52_17 (blk hb 0 rfl) rfl dX9_goes_117 ?_
      refine g_puti (pc := 120) (ci := 9) (N := 27) (T := TX9) (j := 16) (Cn := RX9) C rfl inlX9 tyX9_ok nmX9 (Nat.le_of_ble_eq_true rfl) q_52_18 (blk hb 0 rfl) rfl rfl rfl dX9_goes_120 ?_
      refine g_nms (fun σ11 => ?_)
      refine g_keep [true, false, false] ?_
      exact bX9_goes_123 C hr b hb σ11
  · refine g_keep [true, false, false] ?_
    exact bX9_goes_123 C hr b hb σ
def fX9_goes_57 (b : Nat) (k27 : Sg → Int32 → Int32 → Option (Int32 × Sg)) (σ : Sg) (l1 : Int32) (l2 : Int32) : Option (Int32 × Sg) :=
  (fX9_opens σ b l1).bind fun σ12 =>
  (k27 σ12 l1 l2)
theorem bX9_goes_57 {X : Xc} {K : Kc} (C : MC X K cX9_goes 3 RX9 rmX9_goes) (hr : K.meth.sig.returnType = (some .int)) (b : Nat) (hb : moOK b){k27 : Sg → Int32 → Int32 → Option (Int32 × Sg)} (hk27 : ∀ (σ : Sg) (l1 : Int32) (l2 : Int32), GO X K 3 (fun r => MQi X K r.1 r.2) (k27 σ l1 l2) σ 0 0 27 [some (.ref (X.ad b)), some (.int (l1)), some (.int (l2))] []) (σ : Sg) (l1 : Int32) (l2 : Int32) : GO X K 3 (fun r => MQi X K r.1 r.2) (fX9_goes_57 b k27 σ l1 l2) σ 0 0 57 [some (.ref (X.ad b)), some (.int (l1)), some (.int (l2))] [] := by
  unfold fX9_goes_57
  refine g_aload_n (pc := 57) (i := 0) C dX9_goes_57 rfl rfl ?_
  refine g_iload_n (pc := 58) (i := 1) C dX9_goes_58 rfl rfl ?_
  refine g_callVv (pc := 59) (As := [.int (l1)]) C (kX9_opens X σ b l1 hb) (blk hb 0 rfl) rfl q_53_2 q_53_3 q_53_4 q_1_5 q_53_5 ⟨rfl, hdX9_opens⟩ ⟨Nat.le_of_ble_eq_true rfl, Nat.le_of_ble_eq_true rfl, rfl, rfl⟩ ⟨Nat.zero_le _, Nat.zero_le _⟩ (Nat.le_of_ble_eq_true rfl) rfl rfl dX9_goes_59 (fun σ12 _ => ?_)
  refine g_goto (pc := 62) (tgt := 27) C dX9_goes_62 rfl ?_
  refine g_keep [true, true, true] ?_
  exact hk27 σ12 l1 l2
def fX9_goes_27 (b : Nat) : Nat → Sg → Int32 → Int32 → Option (Int32 × Sg)
  | 0, _, _, _ => none
  | n + 1, σ, l1, l2 =>
    if l2 = 0 then
      (fX9_goes_96 b σ)
    else
      if (σ.1 b 16) = (-1) then
        (fX9_next σ b).bind fun r6 =>
        if r6 = 72 then
          (fX9_goes_57 b (fX9_goes_27 b n) σ l1 l2)
        else
          (fX9_next σ b).bind fun r7 =>
          if r7 = 86 then
            (fX9_goes_57 b (fX9_goes_27 b n) σ l1 l2)
          else
            (fX9_readsGroup σ b l1).bind fun σ8 =>
            if (σ8.1 b 16) = (-1) then
              (fX9_joins σ8 b (σ8.1 b 22) l1).bind fun σ9 =>
              (fX9_ends σ9 b l1).bind fun r10 =>
              ((fX9_goes_27 b n) r10.2 l1 (b2i r10.1))
            else
              ((fX9_goes_27 b n) σ8 l1 l2)
      else
        (fX9_goes_96 b σ)
theorem bX9_goes_27 {X : Xc} {K : Kc} (C : MC X K cX9_goes 3 RX9 rmX9_goes) (hr : K.meth.sig.returnType = (some .int)) (b : Nat) (hb : moOK b) : ∀ (n : Nat) (σ : Sg) (l1 : Int32) (l2 : Int32), GO X K 3 (fun r => MQi X K r.1 r.2) (fX9_goes_27 b n σ l1 l2) σ 0 0 27 [some (.ref (X.ad b)), some (.int (l1)), some (.int (l2))] [] := by
  intro n
  induction n with
  | zero =>
    intro σ l1 l2
    exact g_none
  | succ n ih =>
    intro σ l1 l2
    unfold fX9_goes_27
    refine g_iload_n (pc := 27) (i := 2) C dX9_goes_27 rfl rfl ?_
    refine g_if_eq (pc := 28) (tgt := 96) C dX9_goes_28 rfl ?_ ?_
    · refine g_keep [true, false, false] ?_
      exact bX9_goes_96 C hr b hb σ
    · refine g_aload_n (pc := 31) (i := 0) C dX9_goes_31 rfl rfl ?_
      refine g_geti (pc := 32) (ci := 9) (N := 27) (T := TX9) (j := 16) (Cn := RX9) C rfl inlX9 (Nat.le_of_ble_eq_true rfl) q_52_18 (blk hb 0 rfl) rfl dX9_goes_32 ?_
      refine g_iconst (pc := 35) (v := (-1)) C dX9_goes_35 (by decide) ?_
      refine g_icmp_ne (pc := 36) (tgt := 96) C dX9_goes_36 rfl ?_ ?_
      · refine g_aload_n (pc := 39) (i := 0) C dX9_goes_39 rfl rfl ?_
        refine g_callVi (pc := 40) (As := []) C (kX9_next X σ b hb) (blk hb 0 rfl) rfl q_52_22 q_52_23 q_53_0 q_1_5 q_53_1 ⟨rfl, hdX9_next⟩ ⟨Nat.le_of_ble_eq_true rfl, Nat.le_of_ble_eq_true rfl, rfl, rfl⟩ ⟨Nat.zero_le _, Nat.zero_le _⟩ (Nat.le_of_ble_eq_true rfl) rfl rfl dX9_goes_40 (fun r6 _ => ?_)
        refine g_bipush (pc := 43) (v := 72) C dX9_goes_43 (by decide) ?_
        refine g_icmp_eq (pc := 45) (tgt := 57) C dX9_goes_45 rfl ?_ ?_
        · refine g_keep [true, true, true] ?_
          exact bX9_goes_57 C hr b hb ih σ l1 l2
        · refine g_aload_n (pc := 48) (i := 0) C dX9_goes_48 rfl rfl ?_
          refine g_callVi (pc := 49) (As := []) C (kX9_next X σ b hb) (blk hb 0 rfl) rfl q_52_22 q_52_23 q_53_0 q_1_5 q_53_1 ⟨rfl, hdX9_next⟩ ⟨Nat.le_of_ble_eq_true rfl, Nat.le_of_ble_eq_true rfl, rfl, rfl⟩ ⟨Nat.zero_le _, Nat.zero_le _⟩ (Nat.le_of_ble_eq_true rfl) rfl rfl dX9_goes_49 (fun r7 _ => ?_)
          refine g_bipush (pc := 52) (v := 86) C dX9_goes_52 (by decide) ?_
          refine g_icmp_ne (pc := 54) (tgt := 65) C dX9_goes_54 rfl ?_ ?_
          · refine g_keep [true, true, true] ?_
            exact bX9_goes_57 C hr b hb ih σ l1 l2
          · refine g_aload_n (pc := 65) (i := 0) C dX9_goes_65 rfl rfl ?_
            refine g_iload_n (pc := 66) (i := 1) C dX9_goes_66 rfl rfl ?_
            refine g_callVv (pc := 67) (As := [.int (l1)]) C (kX9_readsGroup X σ b l1 hb) (blk hb 0 rfl) rfl q_53_14 q_53_15 q_53_16 q_1_5 q_53_17 ⟨rfl, hdX9_readsGroup⟩ ⟨Nat.le_of_ble_eq_true rfl, Nat.le_of_ble_eq_true rfl, rfl, rfl⟩ ⟨Nat.zero_le _, Nat.zero_le _⟩ (Nat.le_of_ble_eq_true rfl) rfl rfl dX9_goes_67 (fun σ8 _ => ?_)
            refine g_aload_n (pc := 70) (i := 0) C dX9_goes_70 rfl rfl ?_
            refine g_geti (pc := 71) (ci := 9) (N := 27) (T := TX9) (j := 16) (Cn := RX9) C rfl inlX9 (Nat.le_of_ble_eq_true rfl) q_52_18 (blk hb 0 rfl) rfl dX9_goes_71 ?_
            refine g_iconst (pc := 74) (v := (-1)) C dX9_goes_74 (by decide) ?_
            refine g_icmp_ne (pc := 75) (tgt := 27) C dX9_goes_75 rfl ?_ ?_
            · refine g_aload_n (pc := 78) (i := 0) C dX9_goes_78 rfl rfl ?_
              refine g_aload_n (pc := 79) (i := 0) C dX9_goes_79 rfl rfl ?_
              refine g_geti (pc := 80) (ci := 9) (N := 27) (T := TX9) (j := 22) (Cn := RX9) C rfl inlX9 (Nat.le_of_ble_eq_true rfl) q_52_21 (blk hb 0 rfl) rfl dX9_goes_80 ?_
              refine g_iload_n (pc := 83) (i := 1) C dX9_goes_83 rfl rfl ?_
              refine g_callVv (pc := 84) (As := [.int (σ8.1 b 22), .int (l1)]) C (kX9_joins X σ8 b (σ8.1 b 22) l1 hb) (blk hb 0 rfl) rfl q_53_23 q_54_0 q_54_1 q_1_5 q_54_2 ⟨rfl, hdX9_joins⟩ ⟨Nat.le_of_ble_eq_true rfl, Nat.le_of_ble_eq_true rfl, rfl, rfl⟩ ⟨Nat.zero_le _, Nat.zero_le _⟩ (Nat.le_of_ble_eq_true rfl) rfl rfl dX9_goes_84 (fun σ9 _ => ?_)
              refine g_aload_n (pc := 87) (i := 0) C dX9_goes_87 rfl rfl ?_
              refine g_iload_n (pc := 88) (i := 1) C dX9_goes_88 rfl rfl ?_
              refine g_callVi (pc := 89) (As := [.int (l1)]) C (kX9_ends X σ9 b l1 hb) (blk hb 0 rfl) rfl q_54_3 q_54_4 q_54_5 q_1_5 q_54_6 ⟨rfl, hdX9_ends⟩ ⟨Nat.le_of_ble_eq_true rfl, Nat.le_of_ble_eq_true rfl, rfl, rfl⟩ ⟨Nat.zero_le _, Nat.zero_le _⟩ (Nat.le_of_ble_eq_true rfl) rfl rfl dX9_goes_89 (fun r10 _ => ?_)
              refine g_istore_n (pc := 92) (i := 2) C dX9_goes_92 rfl (Nat.le_of_ble_eq_true rfl) rfl ?_
              refine g_goto (pc := 93) (tgt := 27) C dX9_goes_93 rfl ?_
              refine g_keep [true, true, true] ?_
              exact ih r10.2 l1 (b2i r10.1)
            · refine g_keep [true, true, true] ?_
              exact ih σ8 l1 l2
      · refine g_keep [true, false, false] ?_
        exact bX9_goes_96 C hr b hb σ
def fX9_goes (σ : Sg) (b : Nat) (p1 : Int32) : Option (Int32 × Sg) :=
  nm (su σ b 15 0) fun σ1 =>
  nm (su σ1 b 16 (-1)) fun σ2 =>
  nm (su σ2 b 19 0) fun σ3 =>
  nm (su σ3 b 20 0) fun σ4 =>
  nm (su σ4 b 22 0) fun σ5 =>
  (fX9_goes_27 b FU σ5 p1 1)
theorem kX9_goes (X : Xc) (σ : Sg) (b : Nat) (p1 : Int32) (hb : moOK b) : ∀ r, fX9_goes σ b p1 = some r → Met X.l yX9_goes (wsM yX9_goes cX9_goes 3 (some .int)) rmX9_goes (va_Pc [.ref (X.ad b), .int p1] (PW X σ)) (Qi X r.1 r.2) 0 0 X.A := by
  refine mt_of (own := RX9) (lo := [some (.ref (X.ad b)), some (.int (p1)), none]) (by decide) rfl (Nat.le_of_ble_eq_true rfl) rfl (fun K C hr => ?_)
  unfold fX9_goes
  refine g_aload_n (pc := 0) (i := 0) C dX9_goes_0 rfl rfl ?_
  refine g_iconst (pc := 1) (v := 0) C dX9_goes_1 (by decide) ?_
  refine g_puti (pc := 2) (ci := 9) (N := 27) (T := TX9) (j := 15) (Cn := RX9) C rfl inlX9 tyX9_ok nmX9 (Nat.le_of_ble_eq_true rfl) q_52_17 (blk hb 0 rfl) rfl rfl rfl dX9_goes_2 ?_
  refine g_nms (fun σ1 => ?_)
  refine g_aload_n (pc := 5) (i := 0) C dX9_goes_5 rfl rfl ?_
  refine g_iconst (pc := 6) (v := (-1)) C dX9_goes_6 (by decide) ?_
  refine g_puti (pc := 7) (ci := 9) (N := 27) (T := TX9) (j := 16) (Cn := RX9) C rfl inlX9 tyX9_ok nmX9 (Nat.le_of_ble_eq_true rfl) q_52_18 (blk hb 0 rfl) rfl rfl rfl dX9_goes_7 ?_
  refine g_nms (fun σ2 => ?_)
  refine g_aload_n (pc := 10) (i := 0) C dX9_goes_10 rfl rfl ?_
  refine g_iconst (pc := 11) (v := 0) C dX9_goes_11 (by decide) ?_
  refine g_puti (pc := 12) (ci := 9) (N := 27) (T := TX9) (j := 19) (Cn := RX9) C rfl inlX9 tyX9_ok nmX9 (Nat.le_of_ble_eq_true rfl) q_52_19 (blk hb 0 rfl) rfl rfl rfl dX9_goes_12 ?_
  refine g_nms (fun σ3 => ?_)
  refine g_aload_n (pc := 15) (i := 0) C dX9_goes_15 rfl rfl ?_
  refine g_iconst (pc := 16) (v := 0) C dX9_goes_16 (by decide) ?_
  refine g_puti (pc := 17) (ci := 9) (N := 27) (T := TX9) (j := 20) (Cn := RX9) C rfl inlX9 tyX9_ok nmX9 (Nat.le_of_ble_eq_true rfl) q_52_20 (blk hb 0 rfl) rfl rfl rfl dX9_goes_17 ?_
  refine g_nms (fun σ4 => ?_)
  refine g_aload_n (pc := 20) (i := 0) C dX9_goes_20 rfl rfl ?_
  refine g_iconst (pc := 21) (v := 0) C dX9_goes_21 (by decide) ?_
  refine g_puti (pc := 22) (ci := 9) (N := 27) (T := TX9) (j := 22) (Cn := RX9) C rfl inlX9 tyX9_ok nmX9 (Nat.le_of_ble_eq_true rfl) q_52_21 (blk hb 0 rfl) rfl rfl rfl dX9_goes_22 ?_
  refine g_nms (fun σ5 => ?_)
  refine g_iconst (pc := 25) (v := 1) C dX9_goes_25 (by decide) ?_
  refine g_istore_n (pc := 26) (i := 2) C dX9_goes_26 rfl (Nat.le_of_ble_eq_true rfl) rfl ?_
  refine g_keep [true, true, true] ?_
  exact bX9_goes_27 C hr b hb FU σ5 p1 1
theorem dX9_fault_0 : decode cX9_fault 0 = .ok (.aload_n 0, 1) := by decide +kernel
theorem dX9_fault_1 : decode cX9_fault 1 = .ok (.iconst 0, 1) := by decide +kernel
theorem dX9_fault_2 : decode cX9_fault 2 = .ok (.putfield 50, 3) := by decide +kernel
theorem dX9_fault_5 : decode cX9_fault 5 = .ok (.aload_n 0, 1) := by decide +kernel
theorem dX9_fault_6 : decode cX9_fault 6 = .ok (.iconst 0, 1) := by decide +kernel
theorem dX9_fault_7 : decode cX9_fault 7 = .ok (.invokevirtual 306, 3) := by decide +kernel
theorem dX9_fault_10 : decode cX9_fault 10 = .ok (.ireturn, 1) := by decide +kernel
abbrev rmX9_fault : Room := { frames := 6, cells := 0, slots := 0, locals := 137 }
theorem hdX9_fault : yX9_fault.cls ≠ "java/lang/invoke/MethodHandle" ∧ yX9_fault.cls ≠ "java/lang/invoke/VarHandle" ∧ (parseMethodDescriptor yX9_fault.desc).map (fun d => d.parameters.length) = some 0 := by decide +kernel
def fX9_fault (σ : Sg) (b : Nat) : Option (Int32 × Sg) :=
  nm (su σ b 3 0) fun σ1 =>
  (fX9_goes σ1 b 0).bind fun r2 =>
  some (r2.1, r2.2)
theorem kX9_fault (X : Xc) (σ : Sg) (b : Nat) (hb : moOK b) : ∀ r, fX9_fault σ b = some r → Met X.l yX9_fault (wsM yX9_fault cX9_fault 1 (some .int)) rmX9_fault (va_Pc [.ref (X.ad b)] (PW X σ)) (Qi X r.1 r.2) 0 0 X.A := by
  refine mt_of (own := RX9) (lo := [some (.ref (X.ad b))]) (by decide) rfl (Nat.le_of_ble_eq_true rfl) rfl (fun K C hr => ?_)
  unfold fX9_fault
  refine g_aload_n (pc := 0) (i := 0) C dX9_fault_0 rfl rfl ?_
  refine g_iconst (pc := 1) (v := 0) C dX9_fault_1 (by decide) ?_
  refine g_puti (pc := 2) (ci := 9) (N := 27) (T := TX9) (j := 3) (Cn := RX9) C rfl inlX9 tyX9_ok nmX9 (Nat.le_of_ble_eq_true rfl) q_10_13 (blk hb 0 rfl) rfl rfl rfl dX9_fault_2 ?_
  refine g_nms (fun σ1 => ?_)
  refine g_aload_n (pc := 5) (i := 0) C dX9_fault_5 rfl rfl ?_
  refine g_iconst (pc := 6) (v := 0) C dX9_fault_6 (by decide) ?_
  refine g_callVi (pc := 7) (As := [.int (0)]) C (kX9_goes X σ1 b 0 hb) (blk hb 0 rfl) rfl q_52_13 q_52_14 q_52_15 q_1_5 q_52_16 ⟨rfl, hdX9_goes⟩ ⟨Nat.le_of_ble_eq_true rfl, Nat.le_of_ble_eq_true rfl, rfl, rfl⟩ ⟨Nat.zero_le _, Nat.zero_le _⟩ (Nat.le_of_ble_eq_true rfl) rfl rfl dX9_fault_7 (fun r2 _ => ?_)
  exact g_iret (pc := 10) C hr dX9_fault_10 rfl
theorem dX9_read_0 : decode cX9_read 0 = .ok (.aload_n 0, 1) := by decide +kernel
theorem dX9_read_1 : decode cX9_read 1 = .ok (.aload_n 0, 1) := by decide +kernel
theorem dX9_read_2 : decode cX9_read 2 = .ok (.iconst 0, 1) := by decide +kernel
theorem dX9_read_3 : decode cX9_read 3 = .ok (.invokevirtual 306, 3) := by decide +kernel
theorem dX9_read_6 : decode cX9_read 6 = .ok (.iconst (-1), 1) := by decide +kernel
theorem dX9_read_7 : decode cX9_read 7 = .ok (.if_icmp .ne 7, 3) := by decide +kernel
theorem dX9_read_10 : decode cX9_read 10 = .ok (.iconst 0, 1) := by decide +kernel
theorem dX9_read_11 : decode cX9_read 11 = .ok (.goto 4, 3) := by decide +kernel
theorem dX9_read_14 : decode cX9_read 14 = .ok (.iconst 1, 1) := by decide +kernel
theorem dX9_read_15 : decode cX9_read 15 = .ok (.invokevirtual 57, 3) := by decide +kernel
theorem dX9_read_18 : decode cX9_read 18 = .ok (.ifCond .eq 5, 3) := by decide +kernel
theorem dX9_read_21 : decode cX9_read 21 = .ok (.iconst 0, 1) := by decide +kernel
theorem dX9_read_22 : decode cX9_read 22 = .ok (.ireturn, 1) := by decide +kernel
theorem dX9_read_23 : decode cX9_read 23 = .ok (.aload_n 0, 1) := by decide +kernel
theorem dX9_read_24 : decode cX9_read 24 = .ok (.invokevirtual 141, 3) := by decide +kernel
theorem dX9_read_27 : decode cX9_read 27 = .ok (.iconst 0, 1) := by decide +kernel
theorem dX9_read_28 : decode cX9_read 28 = .ok (.istore_n 1, 1) := by decide +kernel
theorem dX9_read_29 : decode cX9_read 29 = .ok (.iload_n 1, 1) := by decide +kernel
theorem dX9_read_30 : decode cX9_read 30 = .ok (.bipush 12, 2) := by decide +kernel
theorem dX9_read_32 : decode cX9_read 32 = .ok (.if_icmp .ge 37, 3) := by decide +kernel
theorem dX9_read_35 : decode cX9_read 35 = .ok (.aload_n 0, 1) := by decide +kernel
theorem dX9_read_36 : decode cX9_read 36 = .ok (.iload_n 1, 1) := by decide +kernel
theorem dX9_read_37 : decode cX9_read 37 = .ok (.invokevirtual 69, 3) := by decide +kernel
theorem dX9_read_40 : decode cX9_read 40 = .ok (.ifCond .eq 23, 3) := by decide +kernel
theorem dX9_read_43 : decode cX9_read 43 = .ok (.aload_n 0, 1) := by decide +kernel
theorem dX9_read_44 : decode cX9_read 44 = .ok (.aload_n 0, 1) := by decide +kernel
theorem dX9_read_45 : decode cX9_read 45 = .ok (.iload_n 1, 1) := by decide +kernel
theorem dX9_read_46 : decode cX9_read 46 = .ok (.iconst 3, 1) := by decide +kernel
theorem dX9_read_47 : decode cX9_read 47 = .ok (.invokevirtual 65, 3) := by decide +kernel
theorem dX9_read_50 : decode cX9_read 50 = .ok (.invokevirtual 91, 3) := by decide +kernel
theorem dX9_read_53 : decode cX9_read 53 = .ok (.ifCond .ne 10, 3) := by decide +kernel
theorem dX9_read_56 : decode cX9_read 56 = .ok (.aload_n 0, 1) := by decide +kernel
theorem dX9_read_57 : decode cX9_read 57 = .ok (.iload_n 1, 1) := by decide +kernel
theorem dX9_read_58 : decode cX9_read 58 = .ok (.iconst 5, 1) := by decide +kernel
theorem dX9_read_59 : decode cX9_read 59 = .ok (.iconst 2, 1) := by decide +kernel
theorem dX9_read_60 : decode cX9_read 60 = .ok (.invokevirtual 126, 3) := by decide +kernel
theorem dX9_read_63 : decode cX9_read 63 = .ok (.iinc 1 1, 3) := by decide +kernel
theorem dX9_read_66 : decode cX9_read 66 = .ok (.goto (-37), 3) := by decide +kernel
theorem dX9_read_69 : decode cX9_read 69 = .ok (.iconst 0, 1) := by decide +kernel
theorem dX9_read_70 : decode cX9_read 70 = .ok (.istore_n 1, 1) := by decide +kernel
theorem dX9_read_71 : decode cX9_read 71 = .ok (.iload_n 1, 1) := by decide +kernel
theorem dX9_read_72 : decode cX9_read 72 = .ok (.bipush 24, 2) := by decide +kernel
theorem dX9_read_74 : decode cX9_read 74 = .ok (.if_icmp .ge 34, 3) := by decide +kernel
theorem dX9_read_77 : decode cX9_read 77 = .ok (.aload_n 0, 1) := by decide +kernel
theorem dX9_read_78 : decode cX9_read 78 = .ok (.iload_n 1, 1) := by decide +kernel
theorem dX9_read_79 : decode cX9_read 79 = .ok (.iconst 0, 1) := by decide +kernel
theorem dX9_read_80 : decode cX9_read 80 = .ok (.invokevirtual 76, 3) := by decide +kernel
theorem dX9_read_83 : decode cX9_read 83 = .ok (.ifCond .eq 19, 3) := by decide +kernel
theorem dX9_read_86 : decode cX9_read 86 = .ok (.aload_n 0, 1) := by decide +kernel
theorem dX9_read_87 : decode cX9_read 87 = .ok (.iload_n 1, 1) := by decide +kernel
theorem dX9_read_88 : decode cX9_read 88 = .ok (.invokevirtual 91, 3) := by decide +kernel
theorem dX9_read_91 : decode cX9_read 91 = .ok (.ifCond .ne 11, 3) := by decide +kernel
theorem dX9_read_94 : decode cX9_read 94 = .ok (.aload_n 0, 1) := by decide +kernel
theorem dX9_read_95 : decode cX9_read 95 = .ok (.iload_n 1, 1) := by decide +kernel
theorem dX9_read_96 : decode cX9_read 96 = .ok (.iconst 5, 1) := by decide +kernel
theorem dX9_read_97 : decode cX9_read 97 = .ok (.bipush (-5), 2) := by decide +kernel
theorem dX9_read_99 : decode cX9_read 99 = .ok (.invokevirtual 79, 3) := by decide +kernel
theorem dX9_read_102 : decode cX9_read 102 = .ok (.iinc 1 1, 3) := by decide +kernel
theorem dX9_read_105 : decode cX9_read 105 = .ok (.goto (-34), 3) := by decide +kernel
theorem dX9_read_108 : decode cX9_read 108 = .ok (.iconst 0, 1) := by decide +kernel
theorem dX9_read_109 : decode cX9_read 109 = .ok (.istore_n 1, 1) := by decide +kernel
theorem dX9_read_110 : decode cX9_read 110 = .ok (.iload_n 1, 1) := by decide +kernel
theorem dX9_read_111 : decode cX9_read 111 = .ok (.bipush 24, 2) := by decide +kernel
theorem dX9_read_113 : decode cX9_read 113 = .ok (.if_icmp .ge 36, 3) := by decide +kernel
theorem dX9_read_116 : decode cX9_read 116 = .ok (.aload_n 0, 1) := by decide +kernel
theorem dX9_read_117 : decode cX9_read 117 = .ok (.iload_n 1, 1) := by decide +kernel
theorem dX9_read_118 : decode cX9_read 118 = .ok (.iconst 0, 1) := by decide +kernel
theorem dX9_read_119 : decode cX9_read 119 = .ok (.invokevirtual 76, 3) := by decide +kernel
theorem dX9_read_122 : decode cX9_read 122 = .ok (.ifCond .eq 21, 3) := by decide +kernel
theorem dX9_read_125 : decode cX9_read 125 = .ok (.aload_n 0, 1) := by decide +kernel
theorem dX9_read_126 : decode cX9_read 126 = .ok (.iload_n 1, 1) := by decide +kernel
theorem dX9_read_127 : decode cX9_read 127 = .ok (.iconst 5, 1) := by decide +kernel
theorem dX9_read_128 : decode cX9_read 128 = .ok (.invokevirtual 76, 3) := by decide +kernel
theorem dX9_read_131 : decode cX9_read 131 = .ok (.bipush (-5), 2) := by decide +kernel
theorem dX9_read_133 : decode cX9_read 133 = .ok (.if_icmp .ne 10, 3) := by decide +kernel
theorem dX9_read_136 : decode cX9_read 136 = .ok (.aload_n 0, 1) := by decide +kernel
theorem dX9_read_137 : decode cX9_read 137 = .ok (.iload_n 1, 1) := by decide +kernel
theorem dX9_read_138 : decode cX9_read 138 = .ok (.iconst 0, 1) := by decide +kernel
theorem dX9_read_139 : decode cX9_read 139 = .ok (.iconst 0, 1) := by decide +kernel
theorem dX9_read_140 : decode cX9_read 140 = .ok (.invokevirtual 79, 3) := by decide +kernel
theorem dX9_read_143 : decode cX9_read 143 = .ok (.iinc 1 1, 3) := by decide +kernel
theorem dX9_read_146 : decode cX9_read 146 = .ok (.goto (-36), 3) := by decide +kernel
theorem dX9_read_149 : decode cX9_read 149 = .ok (.iconst 0, 1) := by decide +kernel
theorem dX9_read_150 : decode cX9_read 150 = .ok (.istore_n 1, 1) := by decide +kernel
theorem dX9_read_151 : decode cX9_read 151 = .ok (.iload_n 1, 1) := by decide +kernel
theorem dX9_read_152 : decode cX9_read 152 = .ok (.bipush 12, 2) := by decide +kernel
theorem dX9_read_154 : decode cX9_read 154 = .ok (.if_icmp .ge 40, 3) := by decide +kernel
theorem dX9_read_157 : decode cX9_read 157 = .ok (.aload_n 0, 1) := by decide +kernel
theorem dX9_read_158 : decode cX9_read 158 = .ok (.iload_n 1, 1) := by decide +kernel
theorem dX9_read_159 : decode cX9_read 159 = .ok (.iconst 5, 1) := by decide +kernel
theorem dX9_read_160 : decode cX9_read 160 = .ok (.invokevirtual 65, 3) := by decide +kernel
theorem dX9_read_163 : decode cX9_read 163 = .ok (.iconst 2, 1) := by decide +kernel
theorem dX9_read_164 : decode cX9_read 164 = .ok (.if_icmp .ne 24, 3) := by decide +kernel
theorem dX9_read_167 : decode cX9_read 167 = .ok (.aload_n 0, 1) := by decide +kernel
theorem dX9_read_168 : decode cX9_read 168 = .ok (.iload_n 1, 1) := by decide +kernel
theorem dX9_read_169 : decode cX9_read 169 = .ok (.iconst 3, 1) := by decide +kernel
theorem dX9_read_170 : decode cX9_read 170 = .ok (.iconst (-1), 1) := by decide +kernel
theorem dX9_read_171 : decode cX9_read 171 = .ok (.invokevirtual 126, 3) := by decide +kernel
theorem dX9_read_174 : decode cX9_read 174 = .ok (.aload_n 0, 1) := by decide +kernel
theorem dX9_read_175 : decode cX9_read 175 = .ok (.iload_n 1, 1) := by decide +kernel
theorem dX9_read_176 : decode cX9_read 176 = .ok (.iconst 4, 1) := by decide +kernel
theorem dX9_read_177 : decode cX9_read 177 = .ok (.iconst 0, 1) := by decide +kernel
theorem dX9_read_178 : decode cX9_read 178 = .ok (.invokevirtual 126, 3) := by decide +kernel
theorem dX9_read_181 : decode cX9_read 181 = .ok (.aload_n 0, 1) := by decide +kernel
theorem dX9_read_182 : decode cX9_read 182 = .ok (.iload_n 1, 1) := by decide +kernel
theorem dX9_read_183 : decode cX9_read 183 = .ok (.iconst 5, 1) := by decide +kernel
theorem dX9_read_184 : decode cX9_read 184 = .ok (.iconst 0, 1) := by decide +kernel
theorem dX9_read_185 : decode cX9_read 185 = .ok (.invokevirtual 126, 3) := by decide +kernel
theorem dX9_read_188 : decode cX9_read 188 = .ok (.iinc 1 1, 3) := by decide +kernel
theorem dX9_read_191 : decode cX9_read 191 = .ok (.goto (-40), 3) := by decide +kernel
theorem dX9_read_194 : decode cX9_read 194 = .ok (.aload_n 0, 1) := by decide +kernel
theorem dX9_read_195 : decode cX9_read 195 = .ok (.iconst 0, 1) := by decide +kernel
theorem dX9_read_196 : decode cX9_read 196 = .ok (.iconst 5, 1) := by decide +kernel
theorem dX9_read_197 : decode cX9_read 197 = .ok (.iconst (-1), 1) := by decide +kernel
theorem dX9_read_198 : decode cX9_read 198 = .ok (.invokevirtual 94, 3) := by decide +kernel
theorem dX9_read_201 : decode cX9_read 201 = .ok (.aload_n 0, 1) := by decide +kernel
theorem dX9_read_202 : decode cX9_read 202 = .ok (.iconst 1, 1) := by decide +kernel
theorem dX9_read_203 : decode cX9_read 203 = .ok (.invokevirtual 306, 3) := by decide +kernel
theorem dX9_read_206 : decode cX9_read 206 = .ok (.pop, 1) := by decide +kernel
theorem dX9_read_207 : decode cX9_read 207 = .ok (.aload_n 0, 1) := by decide +kernel
theorem dX9_read_208 : decode cX9_read 208 = .ok (.iconst 0, 1) := by decide +kernel
theorem dX9_read_209 : decode cX9_read 209 = .ok (.iconst 5, 1) := by decide +kernel
theorem dX9_read_210 : decode cX9_read 210 = .ok (.aload_n 0, 1) := by decide +kernel
theorem dX9_read_211 : decode cX9_read 211 = .ok (.getfield 278, 3) := by decide +kernel
theorem dX9_read_214 : decode cX9_read 214 = .ok (.invokevirtual 94, 3) := by decide +kernel
theorem dX9_read_217 : decode cX9_read 217 = .ok (.aload_n 0, 1) := by decide +kernel
theorem dX9_read_218 : decode cX9_read 218 = .ok (.invokevirtual 254, 3) := by decide +kernel
theorem dX9_read_221 : decode cX9_read 221 = .ok (.aload_n 0, 1) := by decide +kernel
theorem dX9_read_222 : decode cX9_read 222 = .ok (.iconst 0, 1) := by decide +kernel
theorem dX9_read_223 : decode cX9_read 223 = .ok (.invokevirtual 199, 3) := by decide +kernel
theorem dX9_read_226 : decode cX9_read 226 = .ok (.ireturn, 1) := by decide +kernel
abbrev rmX9_read : Room := { frames := 6, cells := 0, slots := 0, locals := 137 }
theorem hdX9_read : yX9_read.cls ≠ "java/lang/invoke/MethodHandle" ∧ yX9_read.cls ≠ "java/lang/invoke/VarHandle" ∧ (parseMethodDescriptor yX9_read.desc).map (fun d => d.parameters.length) = some 0 := by decide +kernel
def fX9_read_188 (b : Nat) (k151 : Sg → Int32 → Option (Int32 × Sg)) (σ : Sg) (l1 : Int32) : Option (Int32 × Sg) :=
  (k151 σ (l1 + 1))
theorem bX9_read_188 {X : Xc} {K : Kc} (C : MC X K cX9_read 2 RX9 rmX9_read) (hr : K.meth.sig.returnType = (some .int)) (b : Nat) (hb : moOK b){k151 : Sg → Int32 → Option (Int32 × Sg)} (hk151 : ∀ (σ : Sg) (l1 : Int32), GO X K 2 (fun r => MQi X K r.1 r.2) (k151 σ l1) σ 0 0 151 [some (.ref (X.ad b)), some (.int (l1))] []) (σ : Sg) (l1 : Int32) : GO X K 2 (fun r => MQi X K r.1 r.2) (fX9_read_188 b k151 σ l1) σ 0 0 188 [some (.ref (X.ad b)), some (.int (l1))] [] := by
  unfold fX9_read_188
  refine g_iinc (pc := 188) (v := l1 + 1) C dX9_read_188 rfl (rfl) (Nat.le_of_ble_eq_true rfl) rfl ?_
  refine g_goto (pc := 191) (tgt := 151) C dX9_read_191 rfl ?_
  refine g_keep [true, true] ?_
  exact hk151 σ (l1 + 1)
def fX9_read_151 (b : Nat) : Nat → Sg → Int32 → Option (Int32 × Sg)
  | 0, _, _ => none
  | n + 1, σ, l1 =>
    if 12 ≤ l1 then
      (fX9_puts σ b 0 5 (-1)).bind fun σ14 =>
      (fX9_goes σ14 b 1).bind fun r15 =>
      (fX9_puts r15.2 b 0 5 (r15.2.1 b 21)).bind fun σ16 =>
      (fX9_focuses σ16 b).bind fun σ17 =>
      (fX9_placedIn σ17 b 0).bind fun r18 =>
      some (r18, σ17)
    else
      (fX9_of σ b l1 5).bind fun r19 =>
      if r19 = 2 then
        (fX9_put σ b l1 3 (-1)).bind fun σ20 =>
        (fX9_put σ20 b l1 4 0).bind fun σ21 =>
        (fX9_put σ21 b l1 5 0).bind fun σ22 =>
        (fX9_read_188 b (fX9_read_151 b n) σ22 l1)
      else
        (fX9_read_188 b (fX9_read_151 b n) σ l1)
theorem bX9_read_151 {X : Xc} {K : Kc} (C : MC X K cX9_read 2 RX9 rmX9_read) (hr : K.meth.sig.returnType = (some .int)) (b : Nat) (hb : moOK b) : ∀ (n : Nat) (σ : Sg) (l1 : Int32), GO X K 2 (fun r => MQi X K r.1 r.2) (fX9_read_151 b n σ l1) σ 0 0 151 [some (.ref (X.ad b)), some (.int (l1))] [] := by
  intro n
  induction n with
  | zero =>
    intro σ l1
    exact g_none
  | succ n ih =>
    intro σ l1
    unfold fX9_read_151
    refine g_iload_n (pc := 151) (i := 1) C dX9_read_151 rfl rfl ?_
    refine g_bipush (pc := 152) (v := 12) C dX9_read_152 (by decide) ?_
    refine g_icmp_ge (pc := 154) (tgt := 194) C dX9_read_154 rfl ?_ ?_
    · refine g_aload_n (pc := 194) (i := 0) C dX9_read_194 rfl rfl ?_
      refine g_iconst (pc := 195) (v := 0) C dX9_read_195 (by decide) ?_
      refine g_iconst (pc := 196) (v := 5) C dX9_read_196 (by decide) ?_
      refine g_iconst (pc := 197) (v := (-1)) C dX9_read_197 (by decide) ?_
      refine g_callVv (pc := 198) (As := [.int (0), .int (5), .int ((-1))]) C (kX9_puts X σ b 0 5 (-1) hb) (blk hb 0 rfl) rfl q_22_16 q_22_17 q_22_18 q_1_5 q_22_19 ⟨rfl, hdX9_puts⟩ ⟨Nat.le_of_ble_eq_true rfl, Nat.le_of_ble_eq_true rfl, rfl, rfl⟩ ⟨Nat.zero_le _, Nat.zero_le _⟩ (Nat.le_of_ble_eq_true rfl) rfl rfl dX9_read_198 (fun σ14 _ => ?_)
      refine g_aload_n (pc := 201) (i := 0) C dX9_read_201 rfl rfl ?_
      refine g_iconst (pc := 202) (v := 1) C dX9_read_202 (by decide) ?_
      refine g_callVi (pc := 203) (As := [.int (1)]) C (kX9_goes X σ14 b 1 hb) (blk hb 0 rfl) rfl q_52_13 q_52_14 q_52_15 q_1_5 q_52_16 ⟨rfl, hdX9_goes⟩ ⟨Nat.le_of_ble_eq_true rfl, Nat.le_of_ble_eq_true rfl, rfl, rfl⟩ ⟨Nat.zero_le _, Nat.zero_le _⟩ (Nat.le_of_ble_eq_true rfl) rfl rfl dX9_read_203 (fun r15 _ => ?_)
      refine g_pop (pc := 206) C dX9_read_206 rfl ?_
      refine g_aload_n (pc := 207) (i := 0) C dX9_read_207 rfl rfl ?_
      refine g_iconst (pc := 208) (v := 0) C dX9_read_208 (by decide) ?_
      refine g_iconst (pc := 209) (v := 5) C dX9_read_209 (by decide) ?_
      refine g_aload_n (pc := 210) (i := 0) C dX9_read_210 rfl rfl ?_
      refine g_geti (pc := 211) (ci := 9) (N := 27) (T := TX9) (j := 21) (Cn := RX9) C rfl inlX9 (Nat.le_of_ble_eq_true rfl) q_53_18 (blk hb 0 rfl) rfl dX9_read_211 ?_
      refine g_callVv (pc := 214) (As := [.int (0), .int (5), .int (r15.2.1 b 21)]) C (kX9_puts X r15.2 b 0 5 (r15.2.1 b 21) hb) (blk hb 0 rfl) rfl q_22_16 q_22_17 q_22_18 q_1_5 q_22_19 ⟨rfl, hdX9_puts⟩ ⟨Nat.le_of_ble_eq_true rfl, Nat.le_of_ble_eq_true rfl, rfl, rfl⟩ ⟨Nat.zero_le _, Nat.zero_le _⟩ (Nat.le_of_ble_eq_true rfl) rfl rfl dX9_read_214 (fun σ16 _ => ?_)
      refine g_aload_n (pc := 217) (i := 0) C dX9_read_217 rfl rfl ?_
      refine g_callVv (pc := 218) (As := []) C (kX9_focuses X σ16 b hb) (blk hb 0 rfl) rfl q_48_12 q_48_13 q_48_14 q_1_5 q_48_15 ⟨rfl, hdX9_focuses⟩ ⟨Nat.le_of_ble_eq_true rfl, Nat.le_of_ble_eq_true rfl, rfl, rfl⟩ ⟨Nat.zero_le _, Nat.zero_le _⟩ (Nat.le_of_ble_eq_true rfl) rfl rfl dX9_read_218 (fun σ17 _ => ?_)
      refine g_aload_n (pc := 221) (i := 0) C dX9_read_221 rfl rfl ?_
      refine g_iconst (pc := 222) (v := 0) C dX9_read_222 (by decide) ?_
      refine g_callVi (pc := 223) (As := [.int (0)]) C (kX9_placedIn X σ17 b 0 hb) (blk hb 0 rfl) rfl q_30_7 q_30_8 q_30_9 q_1_5 q_30_10 ⟨rfl, hdX9_placedIn⟩ ⟨Nat.le_of_ble_eq_true rfl, Nat.le_of_ble_eq_true rfl, rfl, rfl⟩ ⟨Nat.zero_le _, Nat.zero_le _⟩ (Nat.le_of_ble_eq_true rfl) rfl rfl dX9_read_223 (fun r18 _ => ?_)
      exact g_iret (pc := 226) C hr dX9_read_226 rfl
    · refine g_aload_n (pc := 157) (i := 0) C dX9_read_157 rfl rfl ?_
      refine g_iload_n (pc := 158) (i := 1) C dX9_read_158 rfl rfl ?_
      refine g_iconst (pc := 159) (v := 5) C dX9_read_159 (by decide) ?_
      refine g_callVi (pc := 160) (As := [.int (l1), .int (5)]) C (kX9_of X σ b l1 5 hb) (blk hb 0 rfl) rfl q_10_2 q_10_3 q_10_4 q_1_5 q_10_5 ⟨rfl, hdX9_of⟩ ⟨Nat.le_of_ble_eq_true rfl, Nat.le_of_ble_eq_true rfl, rfl, rfl⟩ ⟨Nat.zero_le _, Nat.zero_le _⟩ (Nat.le_of_ble_eq_true rfl) rfl rfl dX9_read_160 (fun r19 _ => ?_)
      refine g_iconst (pc := 163) (v := 2) C dX9_read_163 (by decide) ?_
      refine g_icmp_ne (pc := 164) (tgt := 188) C dX9_read_164 rfl ?_ ?_
      · refine g_aload_n (pc := 167) (i := 0) C dX9_read_167 rfl rfl ?_
        refine g_iload_n (pc := 168) (i := 1) C dX9_read_168 rfl rfl ?_
        refine g_iconst (pc := 169) (v := 3) C dX9_read_169 (by decide) ?_
        refine g_iconst (pc := 170) (v := (-1)) C dX9_read_170 (by decide) ?_
        refine g_callVv (pc := 171) (As := [.int (l1), .int (3), .int ((-1))]) C (kX9_put X σ b l1 3 (-1) hb) (blk hb 0 rfl) rfl q_10_19 q_10_20 q_10_21 q_1_5 q_10_22 ⟨rfl, hdX9_put⟩ ⟨Nat.le_of_ble_eq_true rfl, Nat.le_of_ble_eq_true rfl, rfl, rfl⟩ ⟨Nat.zero_le _, Nat.zero_le _⟩ (Nat.le_of_ble_eq_true rfl) rfl rfl dX9_read_171 (fun σ20 _ => ?_)
        refine g_aload_n (pc := 174) (i := 0) C dX9_read_174 rfl rfl ?_
        refine g_iload_n (pc := 175) (i := 1) C dX9_read_175 rfl rfl ?_
        refine g_iconst (pc := 176) (v := 4) C dX9_read_176 (by decide) ?_
        refine g_iconst (pc := 177) (v := 0) C dX9_read_177 (by decide) ?_
        refine g_callVv (pc := 178) (As := [.int (l1), .int (4), .int (0)]) C (kX9_put X σ20 b l1 4 0 hb) (blk hb 0 rfl) rfl q_10_19 q_10_20 q_10_21 q_1_5 q_10_22 ⟨rfl, hdX9_put⟩ ⟨Nat.le_of_ble_eq_true rfl, Nat.le_of_ble_eq_true rfl, rfl, rfl⟩ ⟨Nat.zero_le _, Nat.zero_le _⟩ (Nat.le_of_ble_eq_true rfl) rfl rfl dX9_read_178 (fun σ21 _ => ?_)
        refine g_aload_n (pc := 181) (i := 0) C dX9_read_181 rfl rfl ?_
        refine g_iload_n (pc := 182) (i := 1) C dX9_read_182 rfl rfl ?_
        refine g_iconst (pc := 183) (v := 5) C dX9_read_183 (by decide) ?_
        refine g_iconst (pc := 184) (v := 0) C dX9_read_184 (by decide) ?_
        refine g_callVv (pc := 185) (As := [.int (l1), .int (5), .int (0)]) C (kX9_put X σ21 b l1 5 0 hb) (blk hb 0 rfl) rfl q_10_19 q_10_20 q_10_21 q_1_5 q_10_22 ⟨rfl, hdX9_put⟩ ⟨Nat.le_of_ble_eq_true rfl, Nat.le_of_ble_eq_true rfl, rfl, rfl⟩ ⟨Nat.zero_le _, Nat.zero_le _⟩ (Nat.le_of_ble_eq_true rfl) rfl rfl dX9_read_185 (fun σ22 _ => ?_)
        refine g_keep [true, true] ?_
        exact bX9_read_188 C hr b hb ih σ22 l1
      · refine g_keep [true, true] ?_
        exact bX9_read_188 C hr b hb ih σ l1
def fX9_read_143 (b : Nat) (k110 : Sg → Int32 → Option (Int32 × Sg)) (σ : Sg) (l1 : Int32) : Option (Int32 × Sg) :=
  (k110 σ (l1 + 1))
theorem bX9_read_143 {X : Xc} {K : Kc} (C : MC X K cX9_read 2 RX9 rmX9_read) (hr : K.meth.sig.returnType = (some .int)) (b : Nat) (hb : moOK b){k110 : Sg → Int32 → Option (Int32 × Sg)} (hk110 : ∀ (σ : Sg) (l1 : Int32), GO X K 2 (fun r => MQi X K r.1 r.2) (k110 σ l1) σ 0 0 110 [some (.ref (X.ad b)), some (.int (l1))] []) (σ : Sg) (l1 : Int32) : GO X K 2 (fun r => MQi X K r.1 r.2) (fX9_read_143 b k110 σ l1) σ 0 0 143 [some (.ref (X.ad b)), some (.int (l1))] [] := by
  unfold fX9_read_143
  refine g_iinc (pc := 143) (v := l1 + 1) C dX9_read_143 rfl (rfl) (Nat.le_of_ble_eq_true rfl) rfl ?_
  refine g_goto (pc := 146) (tgt := 110) C dX9_read_146 rfl ?_
  refine g_keep [true, true] ?_
  exact hk110 σ (l1 + 1)
def fX9_read_110 (b : Nat) : Nat → Sg → Int32 → Option (Int32 × Sg)
  | 0, _, _ => none
  | n + 1, σ, l1 =>
    if 24 ≤ l1 then
      (fX9_read_151 b FU σ 0)
    else
      (fX9_its σ b l1 0).bind fun r11 =>
      if r11 = 0 then
        (fX9_read_143 b (fX9_read_110 b n) σ l1)
      else
        (fX9_its σ b l1 5).bind fun r12 =>
        if r12 = (-5) then
          (fX9_lay σ b l1 0 0).bind fun σ13 =>
          (fX9_read_143 b (fX9_read_110 b n) σ13 l1)
        else
          (fX9_read_143 b (fX9_read_110 b n) σ l1)
theorem bX9_read_110 {X : Xc} {K : Kc} (C : MC X K cX9_read 2 RX9 rmX9_read) (hr : K.meth.sig.returnType = (some .int)) (b : Nat) (hb : moOK b) : ∀ (n : Nat) (σ : Sg) (l1 : Int32), GO X K 2 (fun r => MQi X K r.1 r.2) (fX9_read_110 b n σ l1) σ 0 0 110 [some (.ref (X.ad b)), some (.int (l1))] [] := by
  intro n
  induction n with
  | zero =>
    intro σ l1
    exact g_none
  | succ n ih =>
    intro σ l1
    unfold fX9_read_110
    refine g_iload_n (pc := 110) (i := 1) C dX9_read_110 rfl rfl ?_
    refine g_bipush (pc := 111) (v := 24) C dX9_read_111 (by decide) ?_
    refine g_icmp_ge (pc := 113) (tgt := 149) C dX9_read_113 rfl ?_ ?_
    · refine g_iconst (pc := 149) (v := 0) C dX9_read_149 (by decide) ?_
      refine g_istore_n (pc := 150) (i := 1) C dX9_read_150 rfl (Nat.le_of_ble_eq_true rfl) rfl ?_
      refine g_keep [true, true] ?_
      exact bX9_read_151 C hr b hb FU σ 0
    · refine g_aload_n (pc := 116) (i := 0) C dX9_read_116 rfl rfl ?_
      refine g_iload_n (pc := 117) (i := 1) C dX9_read_117 rfl rfl ?_
      refine g_iconst (pc := 118) (v := 0) C dX9_read_118 (by decide) ?_
      refine g_callVi (pc := 119) (As := [.int (l1), .int (0)]) C (kX9_its X σ b l1 0 hb) (blk hb 0 rfl) rfl q_20_12 q_20_13 q_20_14 q_1_5 q_20_15 ⟨rfl, hdX9_its⟩ ⟨Nat.le_of_ble_eq_true rfl, Nat.le_of_ble_eq_true rfl, rfl, rfl⟩ ⟨Nat.zero_le _, Nat.zero_le _⟩ (Nat.le_of_ble_eq_true rfl) rfl rfl dX9_read_119 (fun r11 _ => ?_)
      refine g_if_eq (pc := 122) (tgt := 143) C dX9_read_122 rfl ?_ ?_
      · refine g_keep [true, true] ?_
        exact bX9_read_143 C hr b hb ih σ l1
      · refine g_aload_n (pc := 125) (i := 0) C dX9_read_125 rfl rfl ?_
        refine g_iload_n (pc := 126) (i := 1) C dX9_read_126 rfl rfl ?_
        refine g_iconst (pc := 127) (v := 5) C dX9_read_127 (by decide) ?_
        refine g_callVi (pc := 128) (As := [.int (l1), .int (5)]) C (kX9_its X σ b l1 5 hb) (blk hb 0 rfl) rfl q_20_12 q_20_13 q_20_14 q_1_5 q_20_15 ⟨rfl, hdX9_its⟩ ⟨Nat.le_of_ble_eq_true rfl, Nat.le_of_ble_eq_true rfl, rfl, rfl⟩ ⟨Nat.zero_le _, Nat.zero_le _⟩ (Nat.le_of_ble_eq_true rfl) rfl rfl dX9_read_128 (fun r12 _ => ?_)
        refine g_bipush (pc := 131) (v := (-5)) C dX9_read_131 (by decide) ?_
        refine g_icmp_ne (pc := 133) (tgt := 143) C dX9_read_133 rfl ?_ ?_
        · refine g_aload_n (pc := 136) (i := 0) C dX9_read_136 rfl rfl ?_
          refine g_iload_n (pc := 137) (i := 1) C dX9_read_137 rfl rfl ?_
          refine g_iconst (pc := 138) (v := 0) C dX9_read_138 (by decide) ?_
          refine g_iconst (pc := 139) (v := 0) C dX9_read_139 (by decide) ?_
          refine g_callVv (pc := 140) (As := [.int (l1), .int (0), .int (0)]) C (kX9_lay X σ b l1 0 0 hb) (blk hb 0 rfl) rfl q_21_0 q_21_1 q_21_2 q_1_5 q_21_3 ⟨rfl, hdX9_lay⟩ ⟨Nat.le_of_ble_eq_true rfl, Nat.le_of_ble_eq_true rfl, rfl, rfl⟩ ⟨Nat.zero_le _, Nat.zero_le _⟩ (Nat.le_of_ble_eq_true rfl) rfl rfl dX9_read_140 (fun σ13 _ => ?_)
          refine g_keep [true, true] ?_
          exact bX9_read_143 C hr b hb ih σ13 l1
        · refine g_keep [true, true] ?_
          exact bX9_read_143 C hr b hb ih σ l1
def fX9_read_102 (b : Nat) (k71 : Sg → Int32 → Option (Int32 × Sg)) (σ : Sg) (l1 : Int32) : Option (Int32 × Sg) :=
  (k71 σ (l1 + 1))
theorem bX9_read_102 {X : Xc} {K : Kc} (C : MC X K cX9_read 2 RX9 rmX9_read) (hr : K.meth.sig.returnType = (some .int)) (b : Nat) (hb : moOK b){k71 : Sg → Int32 → Option (Int32 × Sg)} (hk71 : ∀ (σ : Sg) (l1 : Int32), GO X K 2 (fun r => MQi X K r.1 r.2) (k71 σ l1) σ 0 0 71 [some (.ref (X.ad b)), some (.int (l1))] []) (σ : Sg) (l1 : Int32) : GO X K 2 (fun r => MQi X K r.1 r.2) (fX9_read_102 b k71 σ l1) σ 0 0 102 [some (.ref (X.ad b)), some (.int (l1))] [] := by
  unfold fX9_read_102
  refine g_iinc (pc := 102) (v := l1 + 1) C dX9_read_102 rfl (rfl) (Nat.le_of_ble_eq_true rfl) rfl ?_
  refine g_goto (pc := 105) (tgt := 71) C dX9_read_105 rfl ?_
  refine g_keep [true, true] ?_
  exact hk71 σ (l1 + 1)
def fX9_read_71 (b : Nat) : Nat → Sg → Int32 → Option (Int32 × Sg)
  | 0, _, _ => none
  | n + 1, σ, l1 =>
    if 24 ≤ l1 then
      (fX9_read_110 b FU σ 0)
    else
      (fX9_its σ b l1 0).bind fun r8 =>
      if r8 = 0 then
        (fX9_read_102 b (fX9_read_71 b n) σ l1)
      else
        (fX9_windowOf σ b l1).bind fun r9 =>
        if r9 = 0 then
          (fX9_lay σ b l1 5 (-5)).bind fun σ10 =>
          (fX9_read_102 b (fX9_read_71 b n) σ10 l1)
        else
          (fX9_read_102 b (fX9_read_71 b n) σ l1)
theorem bX9_read_71 {X : Xc} {K : Kc} (C : MC X K cX9_read 2 RX9 rmX9_read) (hr : K.meth.sig.returnType = (some .int)) (b : Nat) (hb : moOK b) : ∀ (n : Nat) (σ : Sg) (l1 : Int32), GO X K 2 (fun r => MQi X K r.1 r.2) (fX9_read_71 b n σ l1) σ 0 0 71 [some (.ref (X.ad b)), some (.int (l1))] [] := by
  intro n
  induction n with
  | zero =>
    intro σ l1
    exact g_none
  | succ n ih =>
    intro σ l1
    unfold fX9_read_71
    refine g_iload_n (pc := 71) (i := 1) C dX9_read_71 rfl rfl ?_
    refine g_bipush (pc := 72) (v := 24) C dX9_read_72 (by decide) ?_
    refine g_icmp_ge (pc := 74) (tgt := 108) C dX9_read_74 rfl ?_ ?_
    · refine g_iconst (pc := 108) (v := 0) C dX9_read_108 (by decide) ?_
      refine g_istore_n (pc := 109) (i := 1) C dX9_read_109 rfl (Nat.le_of_ble_eq_true rfl) rfl ?_
      refine g_keep [true, true] ?_
      exact bX9_read_110 C hr b hb FU σ 0
    · refine g_aload_n (pc := 77) (i := 0) C dX9_read_77 rfl rfl ?_
      refine g_iload_n (pc := 78) (i := 1) C dX9_read_78 rfl rfl ?_
      refine g_iconst (pc := 79) (v := 0) C dX9_read_79 (by decide) ?_
      refine g_callVi (pc := 80) (As := [.int (l1), .int (0)]) C (kX9_its X σ b l1 0 hb) (blk hb 0 rfl) rfl q_20_12 q_20_13 q_20_14 q_1_5 q_20_15 ⟨rfl, hdX9_its⟩ ⟨Nat.le_of_ble_eq_true rfl, Nat.le_of_ble_eq_true rfl, rfl, rfl⟩ ⟨Nat.zero_le _, Nat.zero_le _⟩ (Nat.le_of_ble_eq_true rfl) rfl rfl dX9_read_80 (fun r8 _ => ?_)
      refine g_if_eq (pc := 83) (tgt := 102) C dX9_read_83 rfl ?_ ?_
      · refine g_keep [true, true] ?_
        exact bX9_read_102 C hr b hb ih σ l1
      · refine g_aload_n (pc := 86) (i := 0) C dX9_read_86 rfl rfl ?_
        refine g_iload_n (pc := 87) (i := 1) C dX9_read_87 rfl rfl ?_
        refine g_callVi (pc := 88) (As := [.int (l1)]) C (kX9_windowOf X σ b l1 hb) (blk hb 0 rfl) rfl q_22_4 q_22_5 q_22_6 q_1_5 q_22_7 ⟨rfl, hdX9_windowOf⟩ ⟨Nat.le_of_ble_eq_true rfl, Nat.le_of_ble_eq_true rfl, rfl, rfl⟩ ⟨Nat.zero_le _, Nat.zero_le _⟩ (Nat.le_of_ble_eq_true rfl) rfl rfl dX9_read_88 (fun r9 _ => ?_)
        refine g_if_ne (pc := 91) (tgt := 102) C dX9_read_91 rfl ?_ ?_
        · refine g_aload_n (pc := 94) (i := 0) C dX9_read_94 rfl rfl ?_
          refine g_iload_n (pc := 95) (i := 1) C dX9_read_95 rfl rfl ?_
          refine g_iconst (pc := 96) (v := 5) C dX9_read_96 (by decide) ?_
          refine g_bipush (pc := 97) (v := (-5)) C dX9_read_97 (by decide) ?_
          refine g_callVv (pc := 99) (As := [.int (l1), .int (5), .int ((-5))]) C (kX9_lay X σ b l1 5 (-5) hb) (blk hb 0 rfl) rfl q_21_0 q_21_1 q_21_2 q_1_5 q_21_3 ⟨rfl, hdX9_lay⟩ ⟨Nat.le_of_ble_eq_true rfl, Nat.le_of_ble_eq_true rfl, rfl, rfl⟩ ⟨Nat.zero_le _, Nat.zero_le _⟩ (Nat.le_of_ble_eq_true rfl) rfl rfl dX9_read_99 (fun σ10 _ => ?_)
          refine g_keep [true, true] ?_
          exact bX9_read_102 C hr b hb ih σ10 l1
        · refine g_keep [true, true] ?_
          exact bX9_read_102 C hr b hb ih σ l1
def fX9_read_63 (b : Nat) (k29 : Sg → Int32 → Option (Int32 × Sg)) (σ : Sg) (l1 : Int32) : Option (Int32 × Sg) :=
  (k29 σ (l1 + 1))
theorem bX9_read_63 {X : Xc} {K : Kc} (C : MC X K cX9_read 2 RX9 rmX9_read) (hr : K.meth.sig.returnType = (some .int)) (b : Nat) (hb : moOK b){k29 : Sg → Int32 → Option (Int32 × Sg)} (hk29 : ∀ (σ : Sg) (l1 : Int32), GO X K 2 (fun r => MQi X K r.1 r.2) (k29 σ l1) σ 0 0 29 [some (.ref (X.ad b)), some (.int (l1))] []) (σ : Sg) (l1 : Int32) : GO X K 2 (fun r => MQi X K r.1 r.2) (fX9_read_63 b k29 σ l1) σ 0 0 63 [some (.ref (X.ad b)), some (.int (l1))] [] := by
  unfold fX9_read_63
  refine g_iinc (pc := 63) (v := l1 + 1) C dX9_read_63 rfl (rfl) (Nat.le_of_ble_eq_true rfl) rfl ?_
  refine g_goto (pc := 66) (tgt := 29) C dX9_read_66 rfl ?_
  refine g_keep [true, true] ?_
  exact hk29 σ (l1 + 1)
def fX9_read_29 (b : Nat) : Nat → Sg → Int32 → Option (Int32 × Sg)
  | 0, _, _ => none
  | n + 1, σ, l1 =>
    if 12 ≤ l1 then
      (fX9_read_71 b FU σ 0)
    else
      (fX9_isPlaced σ b l1).bind fun r4 =>
      if r4 = true then
        (fX9_of σ b l1 3).bind fun r5 =>
        (fX9_windowOf σ b r5).bind fun r6 =>
        if r6 = 0 then
          (fX9_put σ b l1 5 2).bind fun σ7 =>
          (fX9_read_63 b (fX9_read_29 b n) σ7 l1)
        else
          (fX9_read_63 b (fX9_read_29 b n) σ l1)
      else
        (fX9_read_63 b (fX9_read_29 b n) σ l1)
theorem bX9_read_29 {X : Xc} {K : Kc} (C : MC X K cX9_read 2 RX9 rmX9_read) (hr : K.meth.sig.returnType = (some .int)) (b : Nat) (hb : moOK b) : ∀ (n : Nat) (σ : Sg) (l1 : Int32), GO X K 2 (fun r => MQi X K r.1 r.2) (fX9_read_29 b n σ l1) σ 0 0 29 [some (.ref (X.ad b)), some (.int (l1))] [] := by
  intro n
  induction n with
  | zero =>
    intro σ l1
    exact g_none
  | succ n ih =>
    intro σ l1
    unfold fX9_read_29
    refine g_iload_n (pc := 29) (i := 1) C dX9_read_29 rfl rfl ?_
    refine g_bipush (pc := 30) (v := 12) C dX9_read_30 (by decide) ?_
    refine g_icmp_ge (pc := 32) (tgt := 69) C dX9_read_32 rfl ?_ ?_
    · refine g_iconst (pc := 69) (v := 0) C dX9_read_69 (by decide) ?_
      refine g_istore_n (pc := 70) (i := 1) C dX9_read_70 rfl (Nat.le_of_ble_eq_true rfl) rfl ?_
      refine g_keep [true, true] ?_
      exact bX9_read_71 C hr b hb FU σ 0
    · refine g_aload_n (pc := 35) (i := 0) C dX9_read_35 rfl rfl ?_
      refine g_iload_n (pc := 36) (i := 1) C dX9_read_36 rfl rfl ?_
      refine g_callVi (pc := 37) (As := [.int (l1)]) C (kX9_isPlaced X σ b l1 hb) (blk hb 0 rfl) rfl q_20_0 q_20_1 q_20_2 q_1_5 q_20_3 ⟨rfl, hdX9_isPlaced⟩ ⟨Nat.le_of_ble_eq_true rfl, Nat.le_of_ble_eq_true rfl, rfl, rfl⟩ ⟨Nat.zero_le _, Nat.zero_le _⟩ (Nat.le_of_ble_eq_true rfl) rfl rfl dX9_read_37 (fun r4 _ => ?_)
      refine g_ifb_eq (pc := 40) (tgt := 63) C dX9_read_40 rfl ?_ ?_
      · refine g_aload_n (pc := 43) (i := 0) C dX9_read_43 rfl rfl ?_
        refine g_aload_n (pc := 44) (i := 0) C dX9_read_44 rfl rfl ?_
        refine g_iload_n (pc := 45) (i := 1) C dX9_read_45 rfl rfl ?_
        refine g_iconst (pc := 46) (v := 3) C dX9_read_46 (by decide) ?_
        refine g_callVi (pc := 47) (As := [.int (l1), .int (3)]) C (kX9_of X σ b l1 3 hb) (blk hb 0 rfl) rfl q_10_2 q_10_3 q_10_4 q_1_5 q_10_5 ⟨rfl, hdX9_of⟩ ⟨Nat.le_of_ble_eq_true rfl, Nat.le_of_ble_eq_true rfl, rfl, rfl⟩ ⟨Nat.zero_le _, Nat.zero_le _⟩ (Nat.le_of_ble_eq_true rfl) rfl rfl dX9_read_47 (fun r5 _ => ?_)
        refine g_callVi (pc := 50) (As := [.int (r5)]) C (kX9_windowOf X σ b r5 hb) (blk hb 0 rfl) rfl q_22_4 q_22_5 q_22_6 q_1_5 q_22_7 ⟨rfl, hdX9_windowOf⟩ ⟨Nat.le_of_ble_eq_true rfl, Nat.le_of_ble_eq_true rfl, rfl, rfl⟩ ⟨Nat.zero_le _, Nat.zero_le _⟩ (Nat.le_of_ble_eq_true rfl) rfl rfl dX9_read_50 (fun r6 _ => ?_)
        refine g_if_ne (pc := 53) (tgt := 63) C dX9_read_53 rfl ?_ ?_
        · refine g_aload_n (pc := 56) (i := 0) C dX9_read_56 rfl rfl ?_
          refine g_iload_n (pc := 57) (i := 1) C dX9_read_57 rfl rfl ?_
          refine g_iconst (pc := 58) (v := 5) C dX9_read_58 (by decide) ?_
          refine g_iconst (pc := 59) (v := 2) C dX9_read_59 (by decide) ?_
          refine g_callVv (pc := 60) (As := [.int (l1), .int (5), .int (2)]) C (kX9_put X σ b l1 5 2 hb) (blk hb 0 rfl) rfl q_10_19 q_10_20 q_10_21 q_1_5 q_10_22 ⟨rfl, hdX9_put⟩ ⟨Nat.le_of_ble_eq_true rfl, Nat.le_of_ble_eq_true rfl, rfl, rfl⟩ ⟨Nat.zero_le _, Nat.zero_le _⟩ (Nat.le_of_ble_eq_true rfl) rfl rfl dX9_read_60 (fun σ7 _ => ?_)
          refine g_keep [true, true] ?_
          exact bX9_read_63 C hr b hb ih σ7 l1
        · refine g_keep [true, true] ?_
          exact bX9_read_63 C hr b hb ih σ l1
      · refine g_keep [true, true] ?_
        exact bX9_read_63 C hr b hb ih σ l1
def fX9_read_15 (b : Nat) (σ : Sg) (s1 : Int32) : Option (Int32 × Sg) :=
  (fX9_refused σ b s1).bind fun r2 =>
  if r2.1 = true then
    some (0, r2.2)
  else
    (fX9_saves r2.2 b).bind fun σ3 =>
    (fX9_read_29 b FU σ3 0)
theorem bX9_read_15 {X : Xc} {K : Kc} (C : MC X K cX9_read 2 RX9 rmX9_read) (hr : K.meth.sig.returnType = (some .int)) (b : Nat) (hb : moOK b) (σ : Sg) (s1 : Int32) : GO X K 2 (fun r => MQi X K r.1 r.2) (fX9_read_15 b σ s1) σ 0 0 15 [some (.ref (X.ad b)), none] [.int (s1), .ref (X.ad b)] := by
  unfold fX9_read_15
  refine g_callVi (pc := 15) (As := [.int (s1)]) C (kX9_refused X σ b s1 hb) (blk hb 0 rfl) rfl q_10_9 q_10_10 q_10_11 q_1_5 q_10_12 ⟨rfl, hdX9_refused⟩ ⟨Nat.le_of_ble_eq_true rfl, Nat.le_of_ble_eq_true rfl, rfl, rfl⟩ ⟨Nat.zero_le _, Nat.zero_le _⟩ (Nat.le_of_ble_eq_true rfl) rfl rfl dX9_read_15 (fun r2 _ => ?_)
  refine g_ifb_eq (pc := 18) (tgt := 23) C dX9_read_18 rfl ?_ ?_
  · refine g_iconst (pc := 21) (v := 0) C dX9_read_21 (by decide) ?_
    exact g_iret (pc := 22) C hr dX9_read_22 rfl
  · refine g_aload_n (pc := 23) (i := 0) C dX9_read_23 rfl rfl ?_
    refine g_callVv (pc := 24) (As := []) C (kX9_saves X r2.2 b hb) (blk hb 0 rfl) rfl q_10_14 q_10_15 q_10_16 q_1_5 q_10_17 ⟨rfl, hdX9_saves⟩ ⟨Nat.le_of_ble_eq_true rfl, Nat.le_of_ble_eq_true rfl, rfl, rfl⟩ ⟨Nat.zero_le _, Nat.zero_le _⟩ (Nat.le_of_ble_eq_true rfl) rfl rfl dX9_read_24 (fun σ3 _ => ?_)
    refine g_iconst (pc := 27) (v := 0) C dX9_read_27 (by decide) ?_
    refine g_istore_n (pc := 28) (i := 1) C dX9_read_28 rfl (Nat.le_of_ble_eq_true rfl) rfl ?_
    refine g_keep [true, true] ?_
    exact bX9_read_29 C hr b hb FU σ3 0
def fX9_read (σ : Sg) (b : Nat) : Option (Int32 × Sg) :=
  (fX9_goes σ b 0).bind fun r1 =>
  if r1.1 = (-1) then
    (fX9_read_15 b r1.2 0)
  else
    (fX9_read_15 b r1.2 1)
theorem kX9_read (X : Xc) (σ : Sg) (b : Nat) (hb : moOK b) : ∀ r, fX9_read σ b = some r → Met X.l yX9_read (wsM yX9_read cX9_read 2 (some .int)) rmX9_read (va_Pc [.ref (X.ad b)] (PW X σ)) (Qi X r.1 r.2) 0 0 X.A := by
  refine mt_of (own := RX9) (lo := [some (.ref (X.ad b)), none]) (by decide) rfl (Nat.le_of_ble_eq_true rfl) rfl (fun K C hr => ?_)
  unfold fX9_read
  refine g_aload_n (pc := 0) (i := 0) C dX9_read_0 rfl rfl ?_
  refine g_aload_n (pc := 1) (i := 0) C dX9_read_1 rfl rfl ?_
  refine g_iconst (pc := 2) (v := 0) C dX9_read_2 (by decide) ?_
  refine g_callVi (pc := 3) (As := [.int (0)]) C (kX9_goes X σ b 0 hb) (blk hb 0 rfl) rfl q_52_13 q_52_14 q_52_15 q_1_5 q_52_16 ⟨rfl, hdX9_goes⟩ ⟨Nat.le_of_ble_eq_true rfl, Nat.le_of_ble_eq_true rfl, rfl, rfl⟩ ⟨Nat.zero_le _, Nat.zero_le _⟩ (Nat.le_of_ble_eq_true rfl) rfl rfl dX9_read_3 (fun r1 _ => ?_)
  refine g_iconst (pc := 6) (v := (-1)) C dX9_read_6 (by decide) ?_
  refine g_icmp_ne (pc := 7) (tgt := 14) C dX9_read_7 rfl ?_ ?_
  · refine g_iconst (pc := 10) (v := 0) C dX9_read_10 (by decide) ?_
    refine g_goto (pc := 11) (tgt := 15) C dX9_read_11 rfl ?_
    refine g_keep [true, false] ?_
    exact bX9_read_15 C hr b hb r1.2 0
  · refine g_iconst (pc := 14) (v := 1) C dX9_read_14 (by decide) ?_
    refine g_keep [true, false] ?_
    exact bX9_read_15 C hr b hb r1.2 1
theorem dX9_writes_0 : decode cX9_writes 0 = .ok (.aload_n 0, 1) := by decide +kernel
theorem dX9_writes_1 : decode cX9_writes 1 = .ok (.getfield 310, 3) := by decide +kernel
theorem dX9_writes_4 : decode cX9_writes 4 = .ok (.sipush 400, 3) := by decide +kernel
theorem dX9_writes_7 : decode cX9_writes 7 = .ok (.if_icmp .ge 23, 3) := by decide +kernel
theorem dX9_writes_10 : decode cX9_writes 10 = .ok (.aload_n 0, 1) := by decide +kernel
theorem dX9_writes_11 : decode cX9_writes 11 = .ok (.getfield 47, 3) := by decide +kernel
theorem dX9_writes_14 : decode cX9_writes 14 = .ok (.aload_n 0, 1) := by decide +kernel
theorem dX9_writes_15 : decode cX9_writes 15 = .ok (.getfield 310, 3) := by decide +kernel
theorem dX9_writes_18 : decode cX9_writes 18 = .ok (.iload_n 1, 1) := by decide +kernel
theorem dX9_writes_19 : decode cX9_writes 19 = .ok (.iastore, 1) := by decide +kernel
theorem dX9_writes_20 : decode cX9_writes 20 = .ok (.aload_n 0, 1) := by decide +kernel
theorem dX9_writes_21 : decode cX9_writes 21 = .ok (.dup, 1) := by decide +kernel
theorem dX9_writes_22 : decode cX9_writes 22 = .ok (.getfield 310, 3) := by decide +kernel
theorem dX9_writes_25 : decode cX9_writes 25 = .ok (.iconst 1, 1) := by decide +kernel
theorem dX9_writes_26 : decode cX9_writes 26 = .ok (.iadd, 1) := by decide +kernel
theorem dX9_writes_27 : decode cX9_writes 27 = .ok (.putfield 310, 3) := by decide +kernel
theorem dX9_writes_30 : decode cX9_writes 30 = .ok (.return_, 1) := by decide +kernel
abbrev rmX9_writes : Room := { frames := 0, cells := 0, slots := 0, locals := 0 }
theorem hdX9_writes : yX9_writes.cls ≠ "java/lang/invoke/MethodHandle" ∧ yX9_writes.cls ≠ "java/lang/invoke/VarHandle" ∧ (parseMethodDescriptor yX9_writes.desc).map (fun d => d.parameters.length) = some 1 := by decide +kernel
def fX9_writes (σ : Sg) (b : Nat) (p1 : Int32) : Option Sg :=
  if 400 ≤ (σ.1 b 25) then
    some σ
  else
    if ck (σ.1 b 25) 400 then
      nm (su σ (b + 13) (σ.1 b 25).toNatClampNeg p1) fun σ1 =>
      nm (su σ1 b 25 ((σ1.1 b 25) + 1)) fun σ2 =>
      some σ2
    else none
theorem kX9_writes (X : Xc) (σ : Sg) (b : Nat) (p1 : Int32) (hb : moOK b) : ∀ r, fX9_writes σ b p1 = some r → Met X.l yX9_writes (wsM yX9_writes cX9_writes 2 none) rmX9_writes (va_Pc [.ref (X.ad b), .int p1] (PW X σ)) (Qv X r) 0 0 X.A := by
  refine mt_of (own := RX9) (lo := [some (.ref (X.ad b)), some (.int (p1))]) (by decide) rfl (Nat.le_of_ble_eq_true rfl) rfl (fun K C hr => ?_)
  unfold fX9_writes
  refine g_aload_n (pc := 0) (i := 0) C dX9_writes_0 rfl rfl ?_
  refine g_geti (pc := 1) (ci := 9) (N := 27) (T := TX9) (j := 25) (Cn := RX9) C rfl inlX9 (Nat.le_of_ble_eq_true rfl) q_56_12 (blk hb 0 rfl) rfl dX9_writes_1 ?_
  refine g_sipush (pc := 4) (v := 400) C dX9_writes_4 (by decide) ?_
  refine g_icmp_ge (pc := 7) (tgt := 30) C dX9_writes_7 rfl ?_ ?_
  · exact g_vret (pc := 30) C hr dX9_writes_30 rfl
  · refine g_aload_n (pc := 10) (i := 0) C dX9_writes_10 rfl rfl ?_
    refine g_getr (pc := 11) (ci := 9) (N := 27) (T := TX9) (j := 24) (Cn := RX9) (b + 13) C rfl inlX9 (Nat.le_of_ble_eq_true rfl) q_6_15 (blk hb 0 rfl) rfl dX9_writes_11 ?_
    refine g_aload_n (pc := 14) (i := 0) C dX9_writes_14 rfl rfl ?_
    refine g_geti (pc := 15) (ci := 9) (N := 27) (T := TX9) (j := 25) (Cn := RX9) C rfl inlX9 (Nat.le_of_ble_eq_true rfl) q_56_12 (blk hb 0 rfl) rfl dX9_writes_15 ?_
    refine g_iload_n (pc := 18) (i := 1) C dX9_writes_18 rfl rfl ?_
    refine g_iastore (pc := 19) C (blk hb 13 rfl) dX9_writes_19 ?_
    refine g_nms (fun σ1 => ?_)
    refine g_aload_n (pc := 20) (i := 0) C dX9_writes_20 rfl rfl ?_
    refine g_dup (pc := 21) C dX9_writes_21 rfl ?_
    refine g_geti (pc := 22) (ci := 9) (N := 27) (T := TX9) (j := 25) (Cn := RX9) C rfl inlX9 (Nat.le_of_ble_eq_true rfl) q_56_12 (blk hb 0 rfl) rfl dX9_writes_22 ?_
    refine g_iconst (pc := 25) (v := 1) C dX9_writes_25 (by decide) ?_
    refine g_iadd (pc := 26) C dX9_writes_26 ?_
    refine g_puti (pc := 27) (ci := 9) (N := 27) (T := TX9) (j := 25) (Cn := RX9) C rfl inlX9 tyX9_ok nmX9 (Nat.le_of_ble_eq_true rfl) q_56_12 (blk hb 0 rfl) rfl rfl rfl dX9_writes_27 ?_
    refine g_nms (fun σ2 => ?_)
    exact g_vret (pc := 30) C hr dX9_writes_30 rfl
theorem dX9_writesNumber_0 : decode cX9_writesNumber 0 = .ok (.iconst 1, 1) := by decide +kernel
theorem dX9_writesNumber_1 : decode cX9_writesNumber 1 = .ok (.istore_n 2, 1) := by decide +kernel
theorem dX9_writesNumber_2 : decode cX9_writesNumber 2 = .ok (.iload_n 1, 1) := by decide +kernel
theorem dX9_writesNumber_3 : decode cX9_writesNumber 3 = .ok (.iload_n 2, 1) := by decide +kernel
theorem dX9_writesNumber_4 : decode cX9_writesNumber 4 = .ok (.idiv, 1) := by decide +kernel
theorem dX9_writesNumber_5 : decode cX9_writesNumber 5 = .ok (.bipush 9, 2) := by decide +kernel
theorem dX9_writesNumber_7 : decode cX9_writesNumber 7 = .ok (.if_icmp .le 11, 3) := by decide +kernel
theorem dX9_writesNumber_10 : decode cX9_writesNumber 10 = .ok (.iload_n 2, 1) := by decide +kernel
theorem dX9_writesNumber_11 : decode cX9_writesNumber 11 = .ok (.bipush 10, 2) := by decide +kernel
theorem dX9_writesNumber_13 : decode cX9_writesNumber 13 = .ok (.imul, 1) := by decide +kernel
theorem dX9_writesNumber_14 : decode cX9_writesNumber 14 = .ok (.istore_n 2, 1) := by decide +kernel
theorem dX9_writesNumber_15 : decode cX9_writesNumber 15 = .ok (.goto (-13), 3) := by decide +kernel
theorem dX9_writesNumber_18 : decode cX9_writesNumber 18 = .ok (.iload_n 2, 1) := by decide +kernel
theorem dX9_writesNumber_19 : decode cX9_writesNumber 19 = .ok (.istore_n 3, 1) := by decide +kernel
theorem dX9_writesNumber_20 : decode cX9_writesNumber 20 = .ok (.iload_n 3, 1) := by decide +kernel
theorem dX9_writesNumber_21 : decode cX9_writesNumber 21 = .ok (.ifCond .le 24, 3) := by decide +kernel
theorem dX9_writesNumber_24 : decode cX9_writesNumber 24 = .ok (.aload_n 0, 1) := by decide +kernel
theorem dX9_writesNumber_25 : decode cX9_writesNumber 25 = .ok (.bipush 48, 2) := by decide +kernel
theorem dX9_writesNumber_27 : decode cX9_writesNumber 27 = .ok (.iload_n 1, 1) := by decide +kernel
theorem dX9_writesNumber_28 : decode cX9_writesNumber 28 = .ok (.iload_n 3, 1) := by decide +kernel
theorem dX9_writesNumber_29 : decode cX9_writesNumber 29 = .ok (.idiv, 1) := by decide +kernel
theorem dX9_writesNumber_30 : decode cX9_writesNumber 30 = .ok (.bipush 10, 2) := by decide +kernel
theorem dX9_writesNumber_32 : decode cX9_writesNumber 32 = .ok (.irem, 1) := by decide +kernel
theorem dX9_writesNumber_33 : decode cX9_writesNumber 33 = .ok (.iadd, 1) := by decide +kernel
theorem dX9_writesNumber_34 : decode cX9_writesNumber 34 = .ok (.invokevirtual 313, 3) := by decide +kernel
theorem dX9_writesNumber_37 : decode cX9_writesNumber 37 = .ok (.iload_n 3, 1) := by decide +kernel
theorem dX9_writesNumber_38 : decode cX9_writesNumber 38 = .ok (.bipush 10, 2) := by decide +kernel
theorem dX9_writesNumber_40 : decode cX9_writesNumber 40 = .ok (.idiv, 1) := by decide +kernel
theorem dX9_writesNumber_41 : decode cX9_writesNumber 41 = .ok (.istore_n 3, 1) := by decide +kernel
theorem dX9_writesNumber_42 : decode cX9_writesNumber 42 = .ok (.goto (-22), 3) := by decide +kernel
theorem dX9_writesNumber_45 : decode cX9_writesNumber 45 = .ok (.return_, 1) := by decide +kernel
abbrev rmX9_writesNumber : Room := { frames := 1, cells := 0, slots := 0, locals := 21 }
theorem hdX9_writesNumber : yX9_writesNumber.cls ≠ "java/lang/invoke/MethodHandle" ∧ yX9_writesNumber.cls ≠ "java/lang/invoke/VarHandle" ∧ (parseMethodDescriptor yX9_writesNumber.desc).map (fun d => d.parameters.length) = some 1 := by decide +kernel
def fX9_writesNumber_20 (b : Nat) : Nat → Sg → Int32 → Int32 → Option Sg
  | 0, _, _, _ => none
  | n + 1, σ, l1, l3 =>
    if l3 ≤ 0 then
      some σ
    else
      if l3 = 0 then none else
      (fX9_writes σ b (48 + ((l1 / l3) - (l1 / l3) / 10 * 10))).bind fun σ2 =>
      nm (l3 / 10) fun v3 =>
      ((fX9_writesNumber_20 b n) σ2 l1 v3)
theorem bX9_writesNumber_20 {X : Xc} {K : Kc} (C : MC X K cX9_writesNumber 4 RX9 rmX9_writesNumber) (hr : K.meth.sig.returnType = none) (b : Nat) (hb : moOK b) : ∀ (n : Nat) (σ : Sg) (l1 : Int32) (l3 : Int32), GO X K 4 (fun r => MQv X K r) (fX9_writesNumber_20 b n σ l1 l3) σ 0 0 20 [some (.ref (X.ad b)), some (.int (l1)), none, some (.int (l3))] [] := by
  intro n
  induction n with
  | zero =>
    intro σ l1 l3
    exact g_none
  | succ n ih =>
    intro σ l1 l3
    unfold fX9_writesNumber_20
    refine g_iload_n (pc := 20) (i := 3) C dX9_writesNumber_20 rfl rfl ?_
    refine g_if_le (pc := 21) (tgt := 45) C dX9_writesNumber_21 rfl ?_ ?_
    · exact g_vret (pc := 45) C hr dX9_writesNumber_45 rfl
    · refine g_aload_n (pc := 24) (i := 0) C dX9_writesNumber_24 rfl rfl ?_
      refine g_bipush (pc := 25) (v := 48) C dX9_writesNumber_25 (by decide) ?_
      refine g_iload_n (pc := 27) (i := 1) C dX9_writesNumber_27 rfl rfl ?_
      refine g_iload_n (pc := 28) (i := 3) C dX9_writesNumber_28 rfl rfl ?_
      refine g_idiv (pc := 29) C dX9_writesNumber_29 ?_
      refine g_bipush (pc := 30) (v := 10) C dX9_writesNumber_30 (by decide) ?_
      refine g_iremc (pc := 32) C dX9_writesNumber_32 (by decide) ?_
      refine g_iadd (pc := 33) C dX9_writesNumber_33 ?_
      refine g_callVv (pc := 34) (As := [.int (48 + ((l1 / l3) - (l1 / l3) / 10 * 10))]) C (kX9_writes X σ b (48 + ((l1 / l3) - (l1 / l3) / 10 * 10)) hb) (blk hb 0 rfl) rfl q_56_17 q_56_18 q_56_19 q_1_5 q_56_20 ⟨rfl, hdX9_writes⟩ ⟨Nat.le_of_ble_eq_true rfl, Nat.le_of_ble_eq_true rfl, rfl, rfl⟩ ⟨Nat.zero_le _, Nat.zero_le _⟩ (Nat.le_of_ble_eq_true rfl) rfl rfl dX9_writesNumber_34 (fun σ2 _ => ?_)
      refine g_iload_n (pc := 37) (i := 3) C dX9_writesNumber_37 rfl rfl ?_
      refine g_bipush (pc := 38) (v := 10) C dX9_writesNumber_38 (by decide) ?_
      refine g_idivc (pc := 40) C dX9_writesNumber_40 (by decide) ?_
      refine g_nm (fun v3 => ?_)
      refine g_istore_n (pc := 41) (i := 3) C dX9_writesNumber_41 rfl (Nat.le_of_ble_eq_true rfl) rfl ?_
      refine g_goto (pc := 42) (tgt := 20) C dX9_writesNumber_42 rfl ?_
      refine g_keep [true, true, false, true] ?_
      exact ih σ2 l1 v3
def fX9_writesNumber_2 (b : Nat) : Nat → Sg → Int32 → Int32 → Option Sg
  | 0, _, _, _ => none
  | n + 1, σ, l1, l2 =>
    if l2 = 0 then none else
    if (l1 / l2) ≤ 9 then
      (fX9_writesNumber_20 b FU σ l1 l2)
    else
      nm (l2 * 10) fun v1 =>
      ((fX9_writesNumber_2 b n) σ l1 v1)
theorem bX9_writesNumber_2 {X : Xc} {K : Kc} (C : MC X K cX9_writesNumber 4 RX9 rmX9_writesNumber) (hr : K.meth.sig.returnType = none) (b : Nat) (hb : moOK b) : ∀ (n : Nat) (σ : Sg) (l1 : Int32) (l2 : Int32), GO X K 4 (fun r => MQv X K r) (fX9_writesNumber_2 b n σ l1 l2) σ 0 0 2 [some (.ref (X.ad b)), some (.int (l1)), some (.int (l2)), none] [] := by
  intro n
  induction n with
  | zero =>
    intro σ l1 l2
    exact g_none
  | succ n ih =>
    intro σ l1 l2
    unfold fX9_writesNumber_2
    refine g_iload_n (pc := 2) (i := 1) C dX9_writesNumber_2 rfl rfl ?_
    refine g_iload_n (pc := 3) (i := 2) C dX9_writesNumber_3 rfl rfl ?_
    refine g_idiv (pc := 4) C dX9_writesNumber_4 ?_
    refine g_bipush (pc := 5) (v := 9) C dX9_writesNumber_5 (by decide) ?_
    refine g_icmp_le (pc := 7) (tgt := 18) C dX9_writesNumber_7 rfl ?_ ?_
    · refine g_iload_n (pc := 18) (i := 2) C dX9_writesNumber_18 rfl rfl ?_
      refine g_istore_n (pc := 19) (i := 3) C dX9_writesNumber_19 rfl (Nat.le_of_ble_eq_true rfl) rfl ?_
      refine g_keep [true, true, false, true] ?_
      exact bX9_writesNumber_20 C hr b hb FU σ l1 l2
    · refine g_iload_n (pc := 10) (i := 2) C dX9_writesNumber_10 rfl rfl ?_
      refine g_bipush (pc := 11) (v := 10) C dX9_writesNumber_11 (by decide) ?_
      refine g_imul (pc := 13) C dX9_writesNumber_13 ?_
      refine g_nm (fun v1 => ?_)
      refine g_istore_n (pc := 14) (i := 2) C dX9_writesNumber_14 rfl (Nat.le_of_ble_eq_true rfl) rfl ?_
      refine g_goto (pc := 15) (tgt := 2) C dX9_writesNumber_15 rfl ?_
      refine g_keep [true, true, true, false] ?_
      exact ih σ l1 v1
def fX9_writesNumber (σ : Sg) (b : Nat) (p1 : Int32) : Option Sg :=
  (fX9_writesNumber_2 b FU σ p1 1)
theorem kX9_writesNumber (X : Xc) (σ : Sg) (b : Nat) (p1 : Int32) (hb : moOK b) : ∀ r, fX9_writesNumber σ b p1 = some r → Met X.l yX9_writesNumber (wsM yX9_writesNumber cX9_writesNumber 4 none) rmX9_writesNumber (va_Pc [.ref (X.ad b), .int p1] (PW X σ)) (Qv X r) 0 0 X.A := by
  refine mt_of (own := RX9) (lo := [some (.ref (X.ad b)), some (.int (p1)), none, none]) (by decide) rfl (Nat.le_of_ble_eq_true rfl) rfl (fun K C hr => ?_)
  unfold fX9_writesNumber
  refine g_iconst (pc := 0) (v := 1) C dX9_writesNumber_0 (by decide) ?_
  refine g_istore_n (pc := 1) (i := 2) C dX9_writesNumber_1 rfl (Nat.le_of_ble_eq_true rfl) rfl ?_
  refine g_keep [true, true, true, false] ?_
  exact bX9_writesNumber_2 C hr b hb FU σ p1 1
theorem dX9_writesGroup_0 : decode cX9_writesGroup 0 = .ok (.iconst 0, 1) := by decide +kernel
theorem dX9_writesGroup_1 : decode cX9_writesGroup 1 = .ok (.istore_n 2, 1) := by decide +kernel
theorem dX9_writesGroup_2 : decode cX9_writesGroup 2 = .ok (.iload_n 2, 1) := by decide +kernel
theorem dX9_writesGroup_3 : decode cX9_writesGroup 3 = .ok (.aload_n 0, 1) := by decide +kernel
theorem dX9_writesGroup_4 : decode cX9_writesGroup 4 = .ok (.iload_n 1, 1) := by decide +kernel
theorem dX9_writesGroup_5 : decode cX9_writesGroup 5 = .ok (.invokevirtual 107, 3) := by decide +kernel
theorem dX9_writesGroup_8 : decode cX9_writesGroup 8 = .ok (.if_icmp .ge 59, 3) := by decide +kernel
theorem dX9_writesGroup_11 : decode cX9_writesGroup 11 = .ok (.aload_n 0, 1) := by decide +kernel
theorem dX9_writesGroup_12 : decode cX9_writesGroup 12 = .ok (.iload_n 1, 1) := by decide +kernel
theorem dX9_writesGroup_13 : decode cX9_writesGroup 13 = .ok (.iload_n 2, 1) := by decide +kernel
theorem dX9_writesGroup_14 : decode cX9_writesGroup 14 = .ok (.invokevirtual 110, 3) := by decide +kernel
theorem dX9_writesGroup_17 : decode cX9_writesGroup 17 = .ok (.istore_n 3, 1) := by decide +kernel
theorem dX9_writesGroup_18 : decode cX9_writesGroup 18 = .ok (.aload_n 0, 1) := by decide +kernel
theorem dX9_writesGroup_19 : decode cX9_writesGroup 19 = .ok (.bipush 97, 2) := by decide +kernel
theorem dX9_writesGroup_21 : decode cX9_writesGroup 21 = .ok (.iload_n 3, 1) := by decide +kernel
theorem dX9_writesGroup_22 : decode cX9_writesGroup 22 = .ok (.iadd, 1) := by decide +kernel
theorem dX9_writesGroup_23 : decode cX9_writesGroup 23 = .ok (.invokevirtual 313, 3) := by decide +kernel
theorem dX9_writesGroup_26 : decode cX9_writesGroup 26 = .ok (.aload_n 0, 1) := by decide +kernel
theorem dX9_writesGroup_27 : decode cX9_writesGroup 27 = .ok (.iload_n 3, 1) := by decide +kernel
theorem dX9_writesGroup_28 : decode cX9_writesGroup 28 = .ok (.iconst 5, 1) := by decide +kernel
theorem dX9_writesGroup_29 : decode cX9_writesGroup 29 = .ok (.invokevirtual 65, 3) := by decide +kernel
theorem dX9_writesGroup_32 : decode cX9_writesGroup 32 = .ok (.iconst 1, 1) := by decide +kernel
theorem dX9_writesGroup_33 : decode cX9_writesGroup 33 = .ok (.if_icmp .ne 12, 3) := by decide +kernel
theorem dX9_writesGroup_36 : decode cX9_writesGroup 36 = .ok (.aload_n 0, 1) := by decide +kernel
theorem dX9_writesGroup_37 : decode cX9_writesGroup 37 = .ok (.bipush 45, 2) := by decide +kernel
theorem dX9_writesGroup_39 : decode cX9_writesGroup 39 = .ok (.invokevirtual 313, 3) := by decide +kernel
theorem dX9_writesGroup_42 : decode cX9_writesGroup 42 = .ok (.goto 19, 3) := by decide +kernel
theorem dX9_writesGroup_45 : decode cX9_writesGroup 45 = .ok (.aload_n 0, 1) := by decide +kernel
theorem dX9_writesGroup_46 : decode cX9_writesGroup 46 = .ok (.iload_n 1, 1) := by decide +kernel
theorem dX9_writesGroup_47 : decode cX9_writesGroup 47 = .ok (.iconst 5, 1) := by decide +kernel
theorem dX9_writesGroup_48 : decode cX9_writesGroup 48 = .ok (.invokevirtual 76, 3) := by decide +kernel
theorem dX9_writesGroup_51 : decode cX9_writesGroup 51 = .ok (.iload_n 3, 1) := by decide +kernel
theorem dX9_writesGroup_52 : decode cX9_writesGroup 52 = .ok (.if_icmp .ne 9, 3) := by decide +kernel
theorem dX9_writesGroup_55 : decode cX9_writesGroup 55 = .ok (.aload_n 0, 1) := by decide +kernel
theorem dX9_writesGroup_56 : decode cX9_writesGroup 56 = .ok (.bipush 42, 2) := by decide +kernel
theorem dX9_writesGroup_58 : decode cX9_writesGroup 58 = .ok (.invokevirtual 313, 3) := by decide +kernel
theorem dX9_writesGroup_61 : decode cX9_writesGroup 61 = .ok (.iinc 2 1, 3) := by decide +kernel
theorem dX9_writesGroup_64 : decode cX9_writesGroup 64 = .ok (.goto (-62), 3) := by decide +kernel
theorem dX9_writesGroup_67 : decode cX9_writesGroup 67 = .ok (.return_, 1) := by decide +kernel
abbrev rmX9_writesGroup : Room := { frames := 2, cells := 0, slots := 0, locals := 45 }
theorem hdX9_writesGroup : yX9_writesGroup.cls ≠ "java/lang/invoke/MethodHandle" ∧ yX9_writesGroup.cls ≠ "java/lang/invoke/VarHandle" ∧ (parseMethodDescriptor yX9_writesGroup.desc).map (fun d => d.parameters.length) = some 1 := by decide +kernel
def fX9_writesGroup_61 (b : Nat) (k2 : Sg → Int32 → Int32 → Option Sg) (σ : Sg) (l1 : Int32) (l2 : Int32) : Option Sg :=
  (k2 σ l1 (l2 + 1))
theorem bX9_writesGroup_61 {X : Xc} {K : Kc} (C : MC X K cX9_writesGroup 4 RX9 rmX9_writesGroup) (hr : K.meth.sig.returnType = none) (b : Nat) (hb : moOK b){k2 : Sg → Int32 → Int32 → Option Sg} (hk2 : ∀ (σ : Sg) (l1 : Int32) (l2 : Int32), GO X K 4 (fun r => MQv X K r) (k2 σ l1 l2) σ 0 0 2 [some (.ref (X.ad b)), some (.int (l1)), some (.int (l2)), none] []) (σ : Sg) (l1 : Int32) (l2 : Int32) : GO X K 4 (fun r => MQv X K r) (fX9_writesGroup_61 b k2 σ l1 l2) σ 0 0 61 [some (.ref (X.ad b)), some (.int (l1)), some (.int (l2)), none] [] := by
  unfold fX9_writesGroup_61
  refine g_iinc (pc := 61) (v := l2 + 1) C dX9_writesGroup_61 rfl (rfl) (Nat.le_of_ble_eq_true rfl) rfl ?_
  refine g_goto (pc := 64) (tgt := 2) C dX9_writesGroup_64 rfl ?_
  refine g_keep [true, true, true, false] ?_
  exact hk2 σ l1 (l2 + 1)
def fX9_writesGroup_2 (b : Nat) : Nat → Sg → Int32 → Int32 → Option Sg
  | 0, _, _, _ => none
  | n + 1, σ, l1, l2 =>
    (fX9_tabMany σ b l1).bind fun r1 =>
    if r1 ≤ l2 then
      some σ
    else
      (fX9_tabAt σ b l1 l2).bind fun r2 =>
      (fX9_writes σ b (97 + r2)).bind fun σ3 =>
      (fX9_of σ3 b r2 5).bind fun r4 =>
      if r4 = 1 then
        (fX9_writes σ3 b 45).bind fun σ5 =>
        (fX9_writesGroup_61 b (fX9_writesGroup_2 b n) σ5 l1 l2)
      else
        (fX9_its σ3 b l1 5).bind fun r6 =>
        if r6 = r2 then
          (fX9_writes σ3 b 42).bind fun σ7 =>
          (fX9_writesGroup_61 b (fX9_writesGroup_2 b n) σ7 l1 l2)
        else
          (fX9_writesGroup_61 b (fX9_writesGroup_2 b n) σ3 l1 l2)
theorem bX9_writesGroup_2 {X : Xc} {K : Kc} (C : MC X K cX9_writesGroup 4 RX9 rmX9_writesGroup) (hr : K.meth.sig.returnType = none) (b : Nat) (hb : moOK b) : ∀ (n : Nat) (σ : Sg) (l1 : Int32) (l2 : Int32), GO X K 4 (fun r => MQv X K r) (fX9_writesGroup_2 b n σ l1 l2) σ 0 0 2 [some (.ref (X.ad b)), some (.int (l1)), some (.int (l2)), none] [] := by
  intro n
  induction n with
  | zero =>
    intro σ l1 l2
    exact g_none
  | succ n ih =>
    intro σ l1 l2
    unfold fX9_writesGroup_2
    refine g_iload_n (pc := 2) (i := 2) C dX9_writesGroup_2 rfl rfl ?_
    refine g_aload_n (pc := 3) (i := 0) C dX9_writesGroup_3 rfl rfl ?_
    refine g_iload_n (pc := 4) (i := 1) C dX9_writesGroup_4 rfl rfl ?_
    refine g_callVi (pc := 5) (As := [.int (l1)]) C (kX9_tabMany X σ b l1 hb) (blk hb 0 rfl) rfl q_20_16 q_20_17 q_20_18 q_1_5 q_20_19 ⟨rfl, hdX9_tabMany⟩ ⟨Nat.le_of_ble_eq_true rfl, Nat.le_of_ble_eq_true rfl, rfl, rfl⟩ ⟨Nat.zero_le _, Nat.zero_le _⟩ (Nat.le_of_ble_eq_true rfl) rfl rfl dX9_writesGroup_5 (fun r1 _ => ?_)
    refine g_icmp_ge (pc := 8) (tgt := 67) C dX9_writesGroup_8 rfl ?_ ?_
    · exact g_vret (pc := 67) C hr dX9_writesGroup_67 rfl
    · refine g_aload_n (pc := 11) (i := 0) C dX9_writesGroup_11 rfl rfl ?_
      refine g_iload_n (pc := 12) (i := 1) C dX9_writesGroup_12 rfl rfl ?_
      refine g_iload_n (pc := 13) (i := 2) C dX9_writesGroup_13 rfl rfl ?_
      refine g_callVi (pc := 14) (As := [.int (l1), .int (l2)]) C (kX9_tabAt X σ b l1 l2 hb) (blk hb 0 rfl) rfl q_20_20 q_20_21 q_20_22 q_1_5 q_20_23 ⟨rfl, hdX9_tabAt⟩ ⟨Nat.le_of_ble_eq_true rfl, Nat.le_of_ble_eq_true rfl, rfl, rfl⟩ ⟨Nat.zero_le _, Nat.zero_le _⟩ (Nat.le_of_ble_eq_true rfl) rfl rfl dX9_writesGroup_14 (fun r2 _ => ?_)
      refine g_istore_n (pc := 17) (i := 3) C dX9_writesGroup_17 rfl (Nat.le_of_ble_eq_true rfl) rfl ?_
      refine g_aload_n (pc := 18) (i := 0) C dX9_writesGroup_18 rfl rfl ?_
      refine g_bipush (pc := 19) (v := 97) C dX9_writesGroup_19 (by decide) ?_
      refine g_iload_n (pc := 21) (i := 3) C dX9_writesGroup_21 rfl rfl ?_
      refine g_iadd (pc := 22) C dX9_writesGroup_22 ?_
      refine g_callVv (pc := 23) (As := [.int (97 + r2)]) C (kX9_writes X σ b (97 + r2) hb) (blk hb 0 rfl) rfl q_56_17 q_56_18 q_56_19 q_1_5 q_56_20 ⟨rfl, hdX9_writes⟩ ⟨Nat.le_of_ble_eq_true rfl, Nat.le_of_ble_eq_true rfl, rfl, rfl⟩ ⟨Nat.zero_le _, Nat.zero_le _⟩ (Nat.le_of_ble_eq_true rfl) rfl rfl dX9_writesGroup_23 (fun σ3 _ => ?_)
      refine g_aload_n (pc := 26) (i := 0) C dX9_writesGroup_26 rfl rfl ?_
      refine g_iload_n (pc := 27) (i := 3) C dX9_writesGroup_27 rfl rfl ?_
      refine g_iconst (pc := 28) (v := 5) C dX9_writesGroup_28 (by decide) ?_
      refine g_callVi (pc := 29) (As := [.int (r2), .int (5)]) C (kX9_of X σ3 b r2 5 hb) (blk hb 0 rfl) rfl q_10_2 q_10_3 q_10_4 q_1_5 q_10_5 ⟨rfl, hdX9_of⟩ ⟨Nat.le_of_ble_eq_true rfl, Nat.le_of_ble_eq_true rfl, rfl, rfl⟩ ⟨Nat.zero_le _, Nat.zero_le _⟩ (Nat.le_of_ble_eq_true rfl) rfl rfl dX9_writesGroup_29 (fun r4 _ => ?_)
      refine g_iconst (pc := 32) (v := 1) C dX9_writesGroup_32 (by decide) ?_
      refine g_icmp_ne (pc := 33) (tgt := 45) C dX9_writesGroup_33 rfl ?_ ?_
      · refine g_aload_n (pc := 36) (i := 0) C dX9_writesGroup_36 rfl rfl ?_
        refine g_bipush (pc := 37) (v := 45) C dX9_writesGroup_37 (by decide) ?_
        refine g_callVv (pc := 39) (As := [.int (45)]) C (kX9_writes X σ3 b 45 hb) (blk hb 0 rfl) rfl q_56_17 q_56_18 q_56_19 q_1_5 q_56_20 ⟨rfl, hdX9_writes⟩ ⟨Nat.le_of_ble_eq_true rfl, Nat.le_of_ble_eq_true rfl, rfl, rfl⟩ ⟨Nat.zero_le _, Nat.zero_le _⟩ (Nat.le_of_ble_eq_true rfl) rfl rfl dX9_writesGroup_39 (fun σ5 _ => ?_)
        refine g_goto (pc := 42) (tgt := 61) C dX9_writesGroup_42 rfl ?_
        refine g_keep [true, true, true, false] ?_
        exact bX9_writesGroup_61 C hr b hb ih σ5 l1 l2
      · refine g_aload_n (pc := 45) (i := 0) C dX9_writesGroup_45 rfl rfl ?_
        refine g_iload_n (pc := 46) (i := 1) C dX9_writesGroup_46 rfl rfl ?_
        refine g_iconst (pc := 47) (v := 5) C dX9_writesGroup_47 (by decide) ?_
        refine g_callVi (pc := 48) (As := [.int (l1), .int (5)]) C (kX9_its X σ3 b l1 5 hb) (blk hb 0 rfl) rfl q_20_12 q_20_13 q_20_14 q_1_5 q_20_15 ⟨rfl, hdX9_its⟩ ⟨Nat.le_of_ble_eq_true rfl, Nat.le_of_ble_eq_true rfl, rfl, rfl⟩ ⟨Nat.zero_le _, Nat.zero_le _⟩ (Nat.le_of_ble_eq_true rfl) rfl rfl dX9_writesGroup_48 (fun r6 _ => ?_)
        refine g_iload_n (pc := 51) (i := 3) C dX9_writesGroup_51 rfl rfl ?_
        refine g_icmp_ne (pc := 52) (tgt := 61) C dX9_writesGroup_52 rfl ?_ ?_
        · refine g_aload_n (pc := 55) (i := 0) C dX9_writesGroup_55 rfl rfl ?_
          refine g_bipush (pc := 56) (v := 42) C dX9_writesGroup_56 (by decide) ?_
          refine g_callVv (pc := 58) (As := [.int (42)]) C (kX9_writes X σ3 b 42 hb) (blk hb 0 rfl) rfl q_56_17 q_56_18 q_56_19 q_1_5 q_56_20 ⟨rfl, hdX9_writes⟩ ⟨Nat.le_of_ble_eq_true rfl, Nat.le_of_ble_eq_true rfl, rfl, rfl⟩ ⟨Nat.zero_le _, Nat.zero_le _⟩ (Nat.le_of_ble_eq_true rfl) rfl rfl dX9_writesGroup_58 (fun σ7 _ => ?_)
          refine g_keep [true, true, true, false] ?_
          exact bX9_writesGroup_61 C hr b hb ih σ7 l1 l2
        · refine g_keep [true, true, true, false] ?_
          exact bX9_writesGroup_61 C hr b hb ih σ3 l1 l2
def fX9_writesGroup (σ : Sg) (b : Nat) (p1 : Int32) : Option Sg :=
  (fX9_writesGroup_2 b FU σ p1 0)
theorem kX9_writesGroup (X : Xc) (σ : Sg) (b : Nat) (p1 : Int32) (hb : moOK b) : ∀ r, fX9_writesGroup σ b p1 = some r → Met X.l yX9_writesGroup (wsM yX9_writesGroup cX9_writesGroup 4 none) rmX9_writesGroup (va_Pc [.ref (X.ad b), .int p1] (PW X σ)) (Qv X r) 0 0 X.A := by
  refine mt_of (own := RX9) (lo := [some (.ref (X.ad b)), some (.int (p1)), none, none]) (by decide) rfl (Nat.le_of_ble_eq_true rfl) rfl (fun K C hr => ?_)
  unfold fX9_writesGroup
  refine g_iconst (pc := 0) (v := 0) C dX9_writesGroup_0 (by decide) ?_
  refine g_istore_n (pc := 1) (i := 2) C dX9_writesGroup_1 rfl (Nat.le_of_ble_eq_true rfl) rfl ?_
  refine g_keep [true, true, true, false] ?_
  exact bX9_writesGroup_2 C hr b hb FU σ p1 0
theorem dX9_writesTree_0 : decode cX9_writesTree 0 = .ok (.iload_n 1, 1) := by decide +kernel
theorem dX9_writesTree_1 : decode cX9_writesTree 1 = .ok (.istore_n 2, 1) := by decide +kernel
theorem dX9_writesTree_2 : decode cX9_writesTree 2 = .ok (.iconst 1, 1) := by decide +kernel
theorem dX9_writesTree_3 : decode cX9_writesTree 3 = .ok (.istore_n 3, 1) := by decide +kernel
theorem dX9_writesTree_4 : decode cX9_writesTree 4 = .ok (.iload_n 3, 1) := by decide +kernel
theorem dX9_writesTree_5 : decode cX9_writesTree 5 = .ok (.ifCond .eq 171, 3) := by decide +kernel
theorem dX9_writesTree_8 : decode cX9_writesTree 8 = .ok (.aload_n 0, 1) := by decide +kernel
theorem dX9_writesTree_9 : decode cX9_writesTree 9 = .ok (.iload_n 2, 1) := by decide +kernel
theorem dX9_writesTree_10 : decode cX9_writesTree 10 = .ok (.iconst 0, 1) := by decide +kernel
theorem dX9_writesTree_11 : decode cX9_writesTree 11 = .ok (.invokevirtual 76, 3) := by decide +kernel
theorem dX9_writesTree_14 : decode cX9_writesTree 14 = .ok (.iconst 1, 1) := by decide +kernel
theorem dX9_writesTree_15 : decode cX9_writesTree 15 = .ok (.if_icmp .ne 55, 3) := by decide +kernel
theorem dX9_writesTree_18 : decode cX9_writesTree 18 = .ok (.aload_n 0, 1) := by decide +kernel
theorem dX9_writesTree_19 : decode cX9_writesTree 19 = .ok (.aload_n 0, 1) := by decide +kernel
theorem dX9_writesTree_20 : decode cX9_writesTree 20 = .ok (.iload_n 2, 1) := by decide +kernel
theorem dX9_writesTree_21 : decode cX9_writesTree 21 = .ok (.iconst 2, 1) := by decide +kernel
theorem dX9_writesTree_22 : decode cX9_writesTree 22 = .ok (.invokevirtual 76, 3) := by decide +kernel
theorem dX9_writesTree_25 : decode cX9_writesTree 25 = .ok (.ifCond .ne 8, 3) := by decide +kernel
theorem dX9_writesTree_28 : decode cX9_writesTree 28 = .ok (.bipush 72, 2) := by decide +kernel
theorem dX9_writesTree_30 : decode cX9_writesTree 30 = .ok (.goto 5, 3) := by decide +kernel
theorem dX9_writesTree_33 : decode cX9_writesTree 33 = .ok (.bipush 86, 2) := by decide +kernel
theorem dX9_writesTree_35 : decode cX9_writesTree 35 = .ok (.invokevirtual 313, 3) := by decide +kernel
theorem dX9_writesTree_38 : decode cX9_writesTree 38 = .ok (.aload_n 0, 1) := by decide +kernel
theorem dX9_writesTree_39 : decode cX9_writesTree 39 = .ok (.bipush 40, 2) := by decide +kernel
theorem dX9_writesTree_41 : decode cX9_writesTree 41 = .ok (.invokevirtual 313, 3) := by decide +kernel
theorem dX9_writesTree_44 : decode cX9_writesTree 44 = .ok (.aload_n 0, 1) := by decide +kernel
theorem dX9_writesTree_45 : decode cX9_writesTree 45 = .ok (.iload_n 2, 1) := by decide +kernel
theorem dX9_writesTree_46 : decode cX9_writesTree 46 = .ok (.iconst 0, 1) := by decide +kernel
theorem dX9_writesTree_47 : decode cX9_writesTree 47 = .ok (.invokevirtual 116, 3) := by decide +kernel
theorem dX9_writesTree_50 : decode cX9_writesTree 50 = .ok (.istore_n 2, 1) := by decide +kernel
theorem dX9_writesTree_51 : decode cX9_writesTree 51 = .ok (.aload_n 0, 1) := by decide +kernel
theorem dX9_writesTree_52 : decode cX9_writesTree 52 = .ok (.aload_n 0, 1) := by decide +kernel
theorem dX9_writesTree_53 : decode cX9_writesTree 53 = .ok (.iload_n 2, 1) := by decide +kernel
theorem dX9_writesTree_54 : decode cX9_writesTree 54 = .ok (.iconst 3, 1) := by decide +kernel
theorem dX9_writesTree_55 : decode cX9_writesTree 55 = .ok (.invokevirtual 76, 3) := by decide +kernel
theorem dX9_writesTree_58 : decode cX9_writesTree 58 = .ok (.invokevirtual 316, 3) := by decide +kernel
theorem dX9_writesTree_61 : decode cX9_writesTree 61 = .ok (.aload_n 0, 1) := by decide +kernel
theorem dX9_writesTree_62 : decode cX9_writesTree 62 = .ok (.bipush 58, 2) := by decide +kernel
theorem dX9_writesTree_64 : decode cX9_writesTree 64 = .ok (.invokevirtual 313, 3) := by decide +kernel
theorem dX9_writesTree_67 : decode cX9_writesTree 67 = .ok (.goto (-63), 3) := by decide +kernel
theorem dX9_writesTree_70 : decode cX9_writesTree 70 = .ok (.aload_n 0, 1) := by decide +kernel
theorem dX9_writesTree_71 : decode cX9_writesTree 71 = .ok (.iload_n 2, 1) := by decide +kernel
theorem dX9_writesTree_72 : decode cX9_writesTree 72 = .ok (.invokevirtual 319, 3) := by decide +kernel
theorem dX9_writesTree_75 : decode cX9_writesTree 75 = .ok (.iload_n 2, 1) := by decide +kernel
theorem dX9_writesTree_76 : decode cX9_writesTree 76 = .ok (.iload_n 1, 1) := by decide +kernel
theorem dX9_writesTree_77 : decode cX9_writesTree 77 = .ok (.if_icmp .eq 40, 3) := by decide +kernel
theorem dX9_writesTree_80 : decode cX9_writesTree 80 = .ok (.aload_n 0, 1) := by decide +kernel
theorem dX9_writesTree_81 : decode cX9_writesTree 81 = .ok (.iload_n 2, 1) := by decide +kernel
theorem dX9_writesTree_82 : decode cX9_writesTree 82 = .ok (.iconst 4, 1) := by decide +kernel
theorem dX9_writesTree_83 : decode cX9_writesTree 83 = .ok (.invokevirtual 76, 3) := by decide +kernel
theorem dX9_writesTree_86 : decode cX9_writesTree 86 = .ok (.aload_n 0, 1) := by decide +kernel
theorem dX9_writesTree_87 : decode cX9_writesTree 87 = .ok (.aload_n 0, 1) := by decide +kernel
theorem dX9_writesTree_88 : decode cX9_writesTree 88 = .ok (.iload_n 2, 1) := by decide +kernel
theorem dX9_writesTree_89 : decode cX9_writesTree 89 = .ok (.iconst 1, 1) := by decide +kernel
theorem dX9_writesTree_90 : decode cX9_writesTree 90 = .ok (.invokevirtual 76, 3) := by decide +kernel
theorem dX9_writesTree_93 : decode cX9_writesTree 93 = .ok (.invokevirtual 113, 3) := by decide +kernel
theorem dX9_writesTree_96 : decode cX9_writesTree 96 = .ok (.iconst 1, 1) := by decide +kernel
theorem dX9_writesTree_97 : decode cX9_writesTree 97 = .ok (.isub, 1) := by decide +kernel
theorem dX9_writesTree_98 : decode cX9_writesTree 98 = .ok (.if_icmp .ne 19, 3) := by decide +kernel
theorem dX9_writesTree_101 : decode cX9_writesTree 101 = .ok (.aload_n 0, 1) := by decide +kernel
theorem dX9_writesTree_102 : decode cX9_writesTree 102 = .ok (.bipush 41, 2) := by decide +kernel
theorem dX9_writesTree_104 : decode cX9_writesTree 104 = .ok (.invokevirtual 313, 3) := by decide +kernel
theorem dX9_writesTree_107 : decode cX9_writesTree 107 = .ok (.aload_n 0, 1) := by decide +kernel
theorem dX9_writesTree_108 : decode cX9_writesTree 108 = .ok (.iload_n 2, 1) := by decide +kernel
theorem dX9_writesTree_109 : decode cX9_writesTree 109 = .ok (.iconst 1, 1) := by decide +kernel
theorem dX9_writesTree_110 : decode cX9_writesTree 110 = .ok (.invokevirtual 76, 3) := by decide +kernel
theorem dX9_writesTree_113 : decode cX9_writesTree 113 = .ok (.istore_n 2, 1) := by decide +kernel
theorem dX9_writesTree_114 : decode cX9_writesTree 114 = .ok (.goto (-39), 3) := by decide +kernel
theorem dX9_writesTree_117 : decode cX9_writesTree 117 = .ok (.iload_n 2, 1) := by decide +kernel
theorem dX9_writesTree_118 : decode cX9_writesTree 118 = .ok (.iload_n 1, 1) := by decide +kernel
theorem dX9_writesTree_119 : decode cX9_writesTree 119 = .ok (.if_icmp .eq 7, 3) := by decide +kernel
theorem dX9_writesTree_122 : decode cX9_writesTree 122 = .ok (.iconst 1, 1) := by decide +kernel
theorem dX9_writesTree_123 : decode cX9_writesTree 123 = .ok (.goto 4, 3) := by decide +kernel
theorem dX9_writesTree_126 : decode cX9_writesTree 126 = .ok (.iconst 0, 1) := by decide +kernel
theorem dX9_writesTree_127 : decode cX9_writesTree 127 = .ok (.istore_n 3, 1) := by decide +kernel
theorem dX9_writesTree_128 : decode cX9_writesTree 128 = .ok (.iload_n 3, 1) := by decide +kernel
theorem dX9_writesTree_129 : decode cX9_writesTree 129 = .ok (.ifCond .eq (-125), 3) := by decide +kernel
theorem dX9_writesTree_132 : decode cX9_writesTree 132 = .ok (.aload_n 0, 1) := by decide +kernel
theorem dX9_writesTree_133 : decode cX9_writesTree 133 = .ok (.aload_n 0, 1) := by decide +kernel
theorem dX9_writesTree_134 : decode cX9_writesTree 134 = .ok (.iload_n 2, 1) := by decide +kernel
theorem dX9_writesTree_135 : decode cX9_writesTree 135 = .ok (.iconst 1, 1) := by decide +kernel
theorem dX9_writesTree_136 : decode cX9_writesTree 136 = .ok (.invokevirtual 76, 3) := by decide +kernel
theorem dX9_writesTree_139 : decode cX9_writesTree 139 = .ok (.aload_n 0, 1) := by decide +kernel
theorem dX9_writesTree_140 : decode cX9_writesTree 140 = .ok (.iload_n 2, 1) := by decide +kernel
theorem dX9_writesTree_141 : decode cX9_writesTree 141 = .ok (.iconst 4, 1) := by decide +kernel
theorem dX9_writesTree_142 : decode cX9_writesTree 142 = .ok (.invokevirtual 76, 3) := by decide +kernel
theorem dX9_writesTree_145 : decode cX9_writesTree 145 = .ok (.iconst 1, 1) := by decide +kernel
theorem dX9_writesTree_146 : decode cX9_writesTree 146 = .ok (.iadd, 1) := by decide +kernel
theorem dX9_writesTree_147 : decode cX9_writesTree 147 = .ok (.invokevirtual 116, 3) := by decide +kernel
theorem dX9_writesTree_150 : decode cX9_writesTree 150 = .ok (.istore_n 2, 1) := by decide +kernel
theorem dX9_writesTree_151 : decode cX9_writesTree 151 = .ok (.aload_n 0, 1) := by decide +kernel
theorem dX9_writesTree_152 : decode cX9_writesTree 152 = .ok (.bipush 44, 2) := by decide +kernel
theorem dX9_writesTree_154 : decode cX9_writesTree 154 = .ok (.invokevirtual 313, 3) := by decide +kernel
theorem dX9_writesTree_157 : decode cX9_writesTree 157 = .ok (.aload_n 0, 1) := by decide +kernel
theorem dX9_writesTree_158 : decode cX9_writesTree 158 = .ok (.aload_n 0, 1) := by decide +kernel
theorem dX9_writesTree_159 : decode cX9_writesTree 159 = .ok (.iload_n 2, 1) := by decide +kernel
theorem dX9_writesTree_160 : decode cX9_writesTree 160 = .ok (.iconst 3, 1) := by decide +kernel
theorem dX9_writesTree_161 : decode cX9_writesTree 161 = .ok (.invokevirtual 76, 3) := by decide +kernel
theorem dX9_writesTree_164 : decode cX9_writesTree 164 = .ok (.invokevirtual 316, 3) := by decide +kernel
theorem dX9_writesTree_167 : decode cX9_writesTree 167 = .ok (.aload_n 0, 1) := by decide +kernel
theorem dX9_writesTree_168 : decode cX9_writesTree 168 = .ok (.bipush 58, 2) := by decide +kernel
theorem dX9_writesTree_170 : decode cX9_writesTree 170 = .ok (.invokevirtual 313, 3) := by decide +kernel
theorem dX9_writesTree_173 : decode cX9_writesTree 173 = .ok (.goto (-169), 3) := by decide +kernel
theorem dX9_writesTree_176 : decode cX9_writesTree 176 = .ok (.return_, 1) := by decide +kernel
abbrev rmX9_writesTree : Room := { frames := 3, cells := 0, slots := 0, locals := 68 }
theorem hdX9_writesTree : yX9_writesTree.cls ≠ "java/lang/invoke/MethodHandle" ∧ yX9_writesTree.cls ≠ "java/lang/invoke/VarHandle" ∧ (parseMethodDescriptor yX9_writesTree.desc).map (fun d => d.parameters.length) = some 1 := by decide +kernel
def fX9_writesTree_127 (b : Nat) (k4 : Sg → Int32 → Int32 → Int32 → Option Sg) (σ : Sg) (l1 : Int32) (l2 : Int32) (s0 : Int32) : Option Sg :=
  if s0 = 0 then
    (k4 σ l1 l2 s0)
  else
    (fX9_its σ b l2 1).bind fun r9 =>
    (fX9_its σ b l2 4).bind fun r10 =>
    (fX9_child σ b r9 (r10 + 1)).bind fun r11 =>
    (fX9_writes σ b 44).bind fun σ12 =>
    (fX9_its σ12 b r11 3).bind fun r13 =>
    (fX9_writesNumber σ12 b r13).bind fun σ14 =>
    (fX9_writes σ14 b 58).bind fun σ15 =>
    (k4 σ15 l1 r11 s0)
theorem bX9_writesTree_127 {X : Xc} {K : Kc} (C : MC X K cX9_writesTree 4 RX9 rmX9_writesTree) (hr : K.meth.sig.returnType = none) (b : Nat) (hb : moOK b){k4 : Sg → Int32 → Int32 → Int32 → Option Sg} (hk4 : ∀ (σ : Sg) (l1 : Int32) (l2 : Int32) (l3 : Int32), GO X K 4 (fun r => MQv X K r) (k4 σ l1 l2 l3) σ 0 0 4 [some (.ref (X.ad b)), some (.int (l1)), some (.int (l2)), some (.int (l3))] []) (σ : Sg) (l1 : Int32) (l2 : Int32) (s0 : Int32) : GO X K 4 (fun r => MQv X K r) (fX9_writesTree_127 b k4 σ l1 l2 s0) σ 0 0 127 [some (.ref (X.ad b)), some (.int (l1)), some (.int (l2)), none] [.int (s0)] := by
  unfold fX9_writesTree_127
  refine g_istore_n (pc := 127) (i := 3) C dX9_writesTree_127 rfl (Nat.le_of_ble_eq_true rfl) rfl ?_
  refine g_iload_n (pc := 128) (i := 3) C dX9_writesTree_128 rfl rfl ?_
  refine g_if_eq (pc := 129) (tgt := 4) C dX9_writesTree_129 rfl ?_ ?_
  · refine g_keep [true, true, true, true] ?_
    exact hk4 σ l1 l2 s0
  · refine g_aload_n (pc := 132) (i := 0) C dX9_writesTree_132 rfl rfl ?_
    refine g_aload_n (pc := 133) (i := 0) C dX9_writesTree_133 rfl rfl ?_
    refine g_iload_n (pc := 134) (i := 2) C dX9_writesTree_134 rfl rfl ?_
    refine g_iconst (pc := 135) (v := 1) C dX9_writesTree_135 (by decide) ?_
    refine g_callVi (pc := 136) (As := [.int (l2), .int (1)]) C (kX9_its X σ b l2 1 hb) (blk hb 0 rfl) rfl q_20_12 q_20_13 q_20_14 q_1_5 q_20_15 ⟨rfl, hdX9_its⟩ ⟨Nat.le_of_ble_eq_true rfl, Nat.le_of_ble_eq_true rfl, rfl, rfl⟩ ⟨Nat.zero_le _, Nat.zero_le _⟩ (Nat.le_of_ble_eq_true rfl) rfl rfl dX9_writesTree_136 (fun r9 _ => ?_)
    refine g_aload_n (pc := 139) (i := 0) C dX9_writesTree_139 rfl rfl ?_
    refine g_iload_n (pc := 140) (i := 2) C dX9_writesTree_140 rfl rfl ?_
    refine g_iconst (pc := 141) (v := 4) C dX9_writesTree_141 (by decide) ?_
    refine g_callVi (pc := 142) (As := [.int (l2), .int (4)]) C (kX9_its X σ b l2 4 hb) (blk hb 0 rfl) rfl q_20_12 q_20_13 q_20_14 q_1_5 q_20_15 ⟨rfl, hdX9_its⟩ ⟨Nat.le_of_ble_eq_true rfl, Nat.le_of_ble_eq_true rfl, rfl, rfl⟩ ⟨Nat.zero_le _, Nat.zero_le _⟩ (Nat.le_of_ble_eq_true rfl) rfl rfl dX9_writesTree_142 (fun r10 _ => ?_)
    refine g_iconst (pc := 145) (v := 1) C dX9_writesTree_145 (by decide) ?_
    refine g_iadd (pc := 146) C dX9_writesTree_146 ?_
    refine g_callVi (pc := 147) (As := [.int (r9), .int (r10 + 1)]) C (kX9_child X σ b r9 (r10 + 1) hb) (blk hb 0 rfl) rfl q_21_20 q_21_21 q_21_22 q_1_5 q_21_23 ⟨rfl, hdX9_child⟩ ⟨Nat.le_of_ble_eq_true rfl, Nat.le_of_ble_eq_true rfl, rfl, rfl⟩ ⟨Nat.zero_le _, Nat.zero_le _⟩ (Nat.le_of_ble_eq_true rfl) rfl rfl dX9_writesTree_147 (fun r11 _ => ?_)
    refine g_istore_n (pc := 150) (i := 2) C dX9_writesTree_150 rfl (Nat.le_of_ble_eq_true rfl) rfl ?_
    refine g_aload_n (pc := 151) (i := 0) C dX9_writesTree_151 rfl rfl ?_
    refine g_bipush (pc := 152) (v := 44) C dX9_writesTree_152 (by decide) ?_
    refine g_callVv (pc := 154) (As := [.int (44)]) C (kX9_writes X σ b 44 hb) (blk hb 0 rfl) rfl q_56_17 q_56_18 q_56_19 q_1_5 q_56_20 ⟨rfl, hdX9_writes⟩ ⟨Nat.le_of_ble_eq_true rfl, Nat.le_of_ble_eq_true rfl, rfl, rfl⟩ ⟨Nat.zero_le _, Nat.zero_le _⟩ (Nat.le_of_ble_eq_true rfl) rfl rfl dX9_writesTree_154 (fun σ12 _ => ?_)
    refine g_aload_n (pc := 157) (i := 0) C dX9_writesTree_157 rfl rfl ?_
    refine g_aload_n (pc := 158) (i := 0) C dX9_writesTree_158 rfl rfl ?_
    refine g_iload_n (pc := 159) (i := 2) C dX9_writesTree_159 rfl rfl ?_
    refine g_iconst (pc := 160) (v := 3) C dX9_writesTree_160 (by decide) ?_
    refine g_callVi (pc := 161) (As := [.int (r11), .int (3)]) C (kX9_its X σ12 b r11 3 hb) (blk hb 0 rfl) rfl q_20_12 q_20_13 q_20_14 q_1_5 q_20_15 ⟨rfl, hdX9_its⟩ ⟨Nat.le_of_ble_eq_true rfl, Nat.le_of_ble_eq_true rfl, rfl, rfl⟩ ⟨Nat.zero_le _, Nat.zero_le _⟩ (Nat.le_of_ble_eq_true rfl) rfl rfl dX9_writesTree_161 (fun r13 _ => ?_)
    refine g_callVv (pc := 164) (As := [.int (r13)]) C (kX9_writesNumber X σ12 b r13 hb) (blk hb 0 rfl) rfl q_56_21 q_56_22 q_56_23 q_1_5 q_57_0 ⟨rfl, hdX9_writesNumber⟩ ⟨Nat.le_of_ble_eq_true rfl, Nat.le_of_ble_eq_true rfl, rfl, rfl⟩ ⟨Nat.zero_le _, Nat.zero_le _⟩ (Nat.le_of_ble_eq_true rfl) rfl rfl dX9_writesTree_164 (fun σ14 _ => ?_)
    refine g_aload_n (pc := 167) (i := 0) C dX9_writesTree_167 rfl rfl ?_
    refine g_bipush (pc := 168) (v := 58) C dX9_writesTree_168 (by decide) ?_
    refine g_callVv (pc := 170) (As := [.int (58)]) C (kX9_writes X σ14 b 58 hb) (blk hb 0 rfl) rfl q_56_17 q_56_18 q_56_19 q_1_5 q_56_20 ⟨rfl, hdX9_writes⟩ ⟨Nat.le_of_ble_eq_true rfl, Nat.le_of_ble_eq_true rfl, rfl, rfl⟩ ⟨Nat.zero_le _, Nat.zero_le _⟩ (Nat.le_of_ble_eq_true rfl) rfl rfl dX9_writesTree_170 (fun σ15 _ => ?_)
    refine g_goto (pc := 173) (tgt := 4) C dX9_writesTree_173 rfl ?_
    refine g_keep [true, true, true, true] ?_
    exact hk4 σ15 l1 r11 s0
def fX9_writesTree_117 (b : Nat) (k4 : Sg → Int32 → Int32 → Int32 → Option Sg) (σ : Sg) (l1 : Int32) (l2 : Int32) : Option Sg :=
  if l2 = l1 then
    (fX9_writesTree_127 b k4 σ l1 l2 0)
  else
    (fX9_writesTree_127 b k4 σ l1 l2 1)
theorem bX9_writesTree_117 {X : Xc} {K : Kc} (C : MC X K cX9_writesTree 4 RX9 rmX9_writesTree) (hr : K.meth.sig.returnType = none) (b : Nat) (hb : moOK b){k4 : Sg → Int32 → Int32 → Int32 → Option Sg} (hk4 : ∀ (σ : Sg) (l1 : Int32) (l2 : Int32) (l3 : Int32), GO X K 4 (fun r => MQv X K r) (k4 σ l1 l2 l3) σ 0 0 4 [some (.ref (X.ad b)), some (.int (l1)), some (.int (l2)), some (.int (l3))] []) (σ : Sg) (l1 : Int32) (l2 : Int32) : GO X K 4 (fun r => MQv X K r) (fX9_writesTree_117 b k4 σ l1 l2) σ 0 0 117 [some (.ref (X.ad b)), some (.int (l1)), some (.int (l2)), none] [] := by
  unfold fX9_writesTree_117
  refine g_iload_n (pc := 117) (i := 2) C dX9_writesTree_117 rfl rfl ?_
  refine g_iload_n (pc := 118) (i := 1) C dX9_writesTree_118 rfl rfl ?_
  refine g_icmp_eq (pc := 119) (tgt := 126) C dX9_writesTree_119 rfl ?_ ?_
  · refine g_iconst (pc := 126) (v := 0) C dX9_writesTree_126 (by decide) ?_
    refine g_keep [true, true, true, false] ?_
    exact bX9_writesTree_127 C hr b hb hk4 σ l1 l2 0
  · refine g_iconst (pc := 122) (v := 1) C dX9_writesTree_122 (by decide) ?_
    refine g_goto (pc := 123) (tgt := 127) C dX9_writesTree_123 rfl ?_
    refine g_keep [true, true, true, false] ?_
    exact bX9_writesTree_127 C hr b hb hk4 σ l1 l2 1
def fX9_writesTree_75 (b : Nat) (k4 : Sg → Int32 → Int32 → Int32 → Option Sg) : Nat → Sg → Int32 → Int32 → Option Sg
  | 0, _, _, _ => none
  | n + 1, σ, l1, l2 =>
    if l2 = l1 then
      (fX9_writesTree_117 b k4 σ l1 l2)
    else
      (fX9_its σ b l2 4).bind fun r4 =>
      (fX9_its σ b l2 1).bind fun r5 =>
      (fX9_childMany σ b r5).bind fun r6 =>
      if r4 = (r6 - 1) then
        (fX9_writes σ b 41).bind fun σ7 =>
        (fX9_its σ7 b l2 1).bind fun r8 =>
        ((fX9_writesTree_75 b k4 n) σ7 l1 r8)
      else
        (fX9_writesTree_117 b k4 σ l1 l2)
theorem bX9_writesTree_75 {X : Xc} {K : Kc} (C : MC X K cX9_writesTree 4 RX9 rmX9_writesTree) (hr : K.meth.sig.returnType = none) (b : Nat) (hb : moOK b){k4 : Sg → Int32 → Int32 → Int32 → Option Sg} (hk4 : ∀ (σ : Sg) (l1 : Int32) (l2 : Int32) (l3 : Int32), GO X K 4 (fun r => MQv X K r) (k4 σ l1 l2 l3) σ 0 0 4 [some (.ref (X.ad b)), some (.int (l1)), some (.int (l2)), some (.int (l3))] []) : ∀ (n : Nat) (σ : Sg) (l1 : Int32) (l2 : Int32), GO X K 4 (fun r => MQv X K r) (fX9_writesTree_75 b k4 n σ l1 l2) σ 0 0 75 [some (.ref (X.ad b)), some (.int (l1)), some (.int (l2)), none] [] := by
  intro n
  induction n with
  | zero =>
    intro σ l1 l2
    exact g_none
  | succ n ih =>
    intro σ l1 l2
    unfold fX9_writesTree_75
    refine g_iload_n (pc := 75) (i := 2) C dX9_writesTree_75 rfl rfl ?_
    refine g_iload_n (pc := 76) (i := 1) C dX9_writesTree_76 rfl rfl ?_
    refine g_icmp_eq (pc := 77) (tgt := 117) C dX9_writesTree_77 rfl ?_ ?_
    · refine g_keep [true, true, true, false] ?_
      exact bX9_writesTree_117 C hr b hb hk4 σ l1 l2
    · refine g_aload_n (pc := 80) (i := 0) C dX9_writesTree_80 rfl rfl ?_
      refine g_iload_n (pc := 81) (i := 2) C dX9_writesTree_81 rfl rfl ?_
      refine g_iconst (pc := 82) (v := 4) C dX9_writesTree_82 (by decide) ?_
      refine g_callVi (pc := 83) (As := [.int (l2), .int (4)]) C (kX9_its X σ b l2 4 hb) (blk hb 0 rfl) rfl q_20_12 q_20_13 q_20_14 q_1_5 q_20_15 ⟨rfl, hdX9_its⟩ ⟨Nat.le_of_ble_eq_true rfl, Nat.le_of_ble_eq_true rfl, rfl, rfl⟩ ⟨Nat.zero_le _, Nat.zero_le _⟩ (Nat.le_of_ble_eq_true rfl) rfl rfl dX9_writesTree_83 (fun r4 _ => ?_)
      refine g_aload_n (pc := 86) (i := 0) C dX9_writesTree_86 rfl rfl ?_
      refine g_aload_n (pc := 87) (i := 0) C dX9_writesTree_87 rfl rfl ?_
      refine g_iload_n (pc := 88) (i := 2) C dX9_writesTree_88 rfl rfl ?_
      refine g_iconst (pc := 89) (v := 1) C dX9_writesTree_89 (by decide) ?_
      refine g_callVi (pc := 90) (As := [.int (l2), .int (1)]) C (kX9_its X σ b l2 1 hb) (blk hb 0 rfl) rfl q_20_12 q_20_13 q_20_14 q_1_5 q_20_15 ⟨rfl, hdX9_its⟩ ⟨Nat.le_of_ble_eq_true rfl, Nat.le_of_ble_eq_true rfl, rfl, rfl⟩ ⟨Nat.zero_le _, Nat.zero_le _⟩ (Nat.le_of_ble_eq_true rfl) rfl rfl dX9_writesTree_90 (fun r5 _ => ?_)
      refine g_callVi (pc := 93) (As := [.int (r5)]) C (kX9_childMany X σ b r5 hb) (blk hb 0 rfl) rfl q_21_16 q_21_17 q_21_18 q_1_5 q_21_19 ⟨rfl, hdX9_childMany⟩ ⟨Nat.le_of_ble_eq_true rfl, Nat.le_of_ble_eq_true rfl, rfl, rfl⟩ ⟨Nat.zero_le _, Nat.zero_le _⟩ (Nat.le_of_ble_eq_true rfl) rfl rfl dX9_writesTree_93 (fun r6 _ => ?_)
      refine g_iconst (pc := 96) (v := 1) C dX9_writesTree_96 (by decide) ?_
      refine g_isub (pc := 97) C dX9_writesTree_97 ?_
      refine g_icmp_ne (pc := 98) (tgt := 117) C dX9_writesTree_98 rfl ?_ ?_
      · refine g_aload_n (pc := 101) (i := 0) C dX9_writesTree_101 rfl rfl ?_
        refine g_bipush (pc := 102) (v := 41) C dX9_writesTree_102 (by decide) ?_
        refine g_callVv (pc := 104) (As := [.int (41)]) C (kX9_writes X σ b 41 hb) (blk hb 0 rfl) rfl q_56_17 q_56_18 q_56_19 q_1_5 q_56_20 ⟨rfl, hdX9_writes⟩ ⟨Nat.le_of_ble_eq_true rfl, Nat.le_of_ble_eq_true rfl, rfl, rfl⟩ ⟨Nat.zero_le _, Nat.zero_le _⟩ (Nat.le_of_ble_eq_true rfl) rfl rfl dX9_writesTree_104 (fun σ7 _ => ?_)
        refine g_aload_n (pc := 107) (i := 0) C dX9_writesTree_107 rfl rfl ?_
        refine g_iload_n (pc := 108) (i := 2) C dX9_writesTree_108 rfl rfl ?_
        refine g_iconst (pc := 109) (v := 1) C dX9_writesTree_109 (by decide) ?_
        refine g_callVi (pc := 110) (As := [.int (l2), .int (1)]) C (kX9_its X σ7 b l2 1 hb) (blk hb 0 rfl) rfl q_20_12 q_20_13 q_20_14 q_1_5 q_20_15 ⟨rfl, hdX9_its⟩ ⟨Nat.le_of_ble_eq_true rfl, Nat.le_of_ble_eq_true rfl, rfl, rfl⟩ ⟨Nat.zero_le _, Nat.zero_le _⟩ (Nat.le_of_ble_eq_true rfl) rfl rfl dX9_writesTree_110 (fun r8 _ => ?_)
        refine g_istore_n (pc := 113) (i := 2) C dX9_writesTree_113 rfl (Nat.le_of_ble_eq_true rfl) rfl ?_
        refine g_goto (pc := 114) (tgt := 75) C dX9_writesTree_114 rfl ?_
        refine g_keep [true, true, true, false] ?_
        exact ih σ7 l1 r8
      · refine g_keep [true, true, true, false] ?_
        exact bX9_writesTree_117 C hr b hb hk4 σ l1 l2
def fX9_writesTree_35 (b : Nat) (k4 : Sg → Int32 → Int32 → Int32 → Option Sg) (σ : Sg) (l1 : Int32) (l2 : Int32) (l3 : Int32) (s1 : Int32) : Option Sg :=
  (fX9_writes σ b s1).bind fun σ16 =>
  (fX9_writes σ16 b 40).bind fun σ17 =>
  (fX9_child σ17 b l2 0).bind fun r18 =>
  (fX9_its σ17 b r18 3).bind fun r19 =>
  (fX9_writesNumber σ17 b r19).bind fun σ20 =>
  (fX9_writes σ20 b 58).bind fun σ21 =>
  (k4 σ21 l1 r18 l3)
theorem bX9_writesTree_35 {X : Xc} {K : Kc} (C : MC X K cX9_writesTree 4 RX9 rmX9_writesTree) (hr : K.meth.sig.returnType = none) (b : Nat) (hb : moOK b){k4 : Sg → Int32 → Int32 → Int32 → Option Sg} (hk4 : ∀ (σ : Sg) (l1 : Int32) (l2 : Int32) (l3 : Int32), GO X K 4 (fun r => MQv X K r) (k4 σ l1 l2 l3) σ 0 0 4 [some (.ref (X.ad b)), some (.int (l1)), some (.int (l2)), some (.int (l3))] []) (σ : Sg) (l1 : Int32) (l2 : Int32) (l3 : Int32) (s1 : Int32) : GO X K 4 (fun r => MQv X K r) (fX9_writesTree_35 b k4 σ l1 l2 l3 s1) σ 0 0 35 [some (.ref (X.ad b)), some (.int (l1)), some (.int (l2)), some (.int (l3))] [.int (s1), .ref (X.ad b)] := by
  unfold fX9_writesTree_35
  refine g_callVv (pc := 35) (As := [.int (s1)]) C (kX9_writes X σ b s1 hb) (blk hb 0 rfl) rfl q_56_17 q_56_18 q_56_19 q_1_5 q_56_20 ⟨rfl, hdX9_writes⟩ ⟨Nat.le_of_ble_eq_true rfl, Nat.le_of_ble_eq_true rfl, rfl, rfl⟩ ⟨Nat.zero_le _, Nat.zero_le _⟩ (Nat.le_of_ble_eq_true rfl) rfl rfl dX9_writesTree_35 (fun σ16 _ => ?_)
  refine g_aload_n (pc := 38) (i := 0) C dX9_writesTree_38 rfl rfl ?_
  refine g_bipush (pc := 39) (v := 40) C dX9_writesTree_39 (by decide) ?_
  refine g_callVv (pc := 41) (As := [.int (40)]) C (kX9_writes X σ16 b 40 hb) (blk hb 0 rfl) rfl q_56_17 q_56_18 q_56_19 q_1_5 q_56_20 ⟨rfl, hdX9_writes⟩ ⟨Nat.le_of_ble_eq_true rfl, Nat.le_of_ble_eq_true rfl, rfl, rfl⟩ ⟨Nat.zero_le _, Nat.zero_le _⟩ (Nat.le_of_ble_eq_true rfl) rfl rfl dX9_writesTree_41 (fun σ17 _ => ?_)
  refine g_aload_n (pc := 44) (i := 0) C dX9_writesTree_44 rfl rfl ?_
  refine g_iload_n (pc := 45) (i := 2) C dX9_writesTree_45 rfl rfl ?_
  refine g_iconst (pc := 46) (v := 0) C dX9_writesTree_46 (by decide) ?_
  refine g_callVi (pc := 47) (As := [.int (l2), .int (0)]) C (kX9_child X σ17 b l2 0 hb) (blk hb 0 rfl) rfl q_21_20 q_21_21 q_21_22 q_1_5 q_21_23 ⟨rfl, hdX9_child⟩ ⟨Nat.le_of_ble_eq_true rfl, Nat.le_of_ble_eq_true rfl, rfl, rfl⟩ ⟨Nat.zero_le _, Nat.zero_le _⟩ (Nat.le_of_ble_eq_true rfl) rfl rfl dX9_writesTree_47 (fun r18 _ => ?_)
  refine g_istore_n (pc := 50) (i := 2) C dX9_writesTree_50 rfl (Nat.le_of_ble_eq_true rfl) rfl ?_
  refine g_aload_n (pc := 51) (i := 0) C dX9_writesTree_51 rfl rfl ?_
  refine g_aload_n (pc := 52) (i := 0) C dX9_writesTree_52 rfl rfl ?_
  refine g_iload_n (pc := 53) (i := 2) C dX9_writesTree_53 rfl rfl ?_
  refine g_iconst (pc := 54) (v := 3) C dX9_writesTree_54 (by decide) ?_
  refine g_callVi (pc := 55) (As := [.int (r18), .int (3)]) C (kX9_its X σ17 b r18 3 hb) (blk hb 0 rfl) rfl q_20_12 q_20_13 q_20_14 q_1_5 q_20_15 ⟨rfl, hdX9_its⟩ ⟨Nat.le_of_ble_eq_true rfl, Nat.le_of_ble_eq_true rfl, rfl, rfl⟩ ⟨Nat.zero_le _, Nat.zero_le _⟩ (Nat.le_of_ble_eq_true rfl) rfl rfl dX9_writesTree_55 (fun r19 _ => ?_)
  refine g_callVv (pc := 58) (As := [.int (r19)]) C (kX9_writesNumber X σ17 b r19 hb) (blk hb 0 rfl) rfl q_56_21 q_56_22 q_56_23 q_1_5 q_57_0 ⟨rfl, hdX9_writesNumber⟩ ⟨Nat.le_of_ble_eq_true rfl, Nat.le_of_ble_eq_true rfl, rfl, rfl⟩ ⟨Nat.zero_le _, Nat.zero_le _⟩ (Nat.le_of_ble_eq_true rfl) rfl rfl dX9_writesTree_58 (fun σ20 _ => ?_)
  refine g_aload_n (pc := 61) (i := 0) C dX9_writesTree_61 rfl rfl ?_
  refine g_bipush (pc := 62) (v := 58) C dX9_writesTree_62 (by decide) ?_
  refine g_callVv (pc := 64) (As := [.int (58)]) C (kX9_writes X σ20 b 58 hb) (blk hb 0 rfl) rfl q_56_17 q_56_18 q_56_19 q_1_5 q_56_20 ⟨rfl, hdX9_writes⟩ ⟨Nat.le_of_ble_eq_true rfl, Nat.le_of_ble_eq_true rfl, rfl, rfl⟩ ⟨Nat.zero_le _, Nat.zero_le _⟩ (Nat.le_of_ble_eq_true rfl) rfl rfl dX9_writesTree_64 (fun σ21 _ => ?_)
  refine g_goto (pc := 67) (tgt := 4) C dX9_writesTree_67 rfl ?_
  refine g_keep [true, true, true, true] ?_
  exact hk4 σ21 l1 r18 l3
def fX9_writesTree_4 (b : Nat) : Nat → Sg → Int32 → Int32 → Int32 → Option Sg
  | 0, _, _, _, _ => none
  | n + 1, σ, l1, l2, l3 =>
    if l3 = 0 then
      some σ
    else
      (fX9_its σ b l2 0).bind fun r1 =>
      if r1 = 1 then
        (fX9_its σ b l2 2).bind fun r2 =>
        if r2 = 0 then
          (fX9_writesTree_35 b (fX9_writesTree_4 b n) σ l1 l2 l3 72)
        else
          (fX9_writesTree_35 b (fX9_writesTree_4 b n) σ l1 l2 l3 86)
      else
        (fX9_writesGroup σ b l2).bind fun σ3 =>
        (fX9_writesTree_75 b (fX9_writesTree_4 b n) FU σ3 l1 l2)
theorem bX9_writesTree_4 {X : Xc} {K : Kc} (C : MC X K cX9_writesTree 4 RX9 rmX9_writesTree) (hr : K.meth.sig.returnType = none) (b : Nat) (hb : moOK b) : ∀ (n : Nat) (σ : Sg) (l1 : Int32) (l2 : Int32) (l3 : Int32), GO X K 4 (fun r => MQv X K r) (fX9_writesTree_4 b n σ l1 l2 l3) σ 0 0 4 [some (.ref (X.ad b)), some (.int (l1)), some (.int (l2)), some (.int (l3))] [] := by
  intro n
  induction n with
  | zero =>
    intro σ l1 l2 l3
    exact g_none
  | succ n ih =>
    intro σ l1 l2 l3
    unfold fX9_writesTree_4
    refine g_iload_n (pc := 4) (i := 3) C dX9_writesTree_4 rfl rfl ?_
    refine g_if_eq (pc := 5) (tgt := 176) C dX9_writesTree_5 rfl ?_ ?_
    · exact g_vret (pc := 176) C hr dX9_writesTree_176 rfl
    · refine g_aload_n (pc := 8) (i := 0) C dX9_writesTree_8 rfl rfl ?_
      refine g_iload_n (pc := 9) (i := 2) C dX9_writesTree_9 rfl rfl ?_
      refine g_iconst (pc := 10) (v := 0) C dX9_writesTree_10 (by decide) ?_
      refine g_callVi (pc := 11) (As := [.int (l2), .int (0)]) C (kX9_its X σ b l2 0 hb) (blk hb 0 rfl) rfl q_20_12 q_20_13 q_20_14 q_1_5 q_20_15 ⟨rfl, hdX9_its⟩ ⟨Nat.le_of_ble_eq_true rfl, Nat.le_of_ble_eq_true rfl, rfl, rfl⟩ ⟨Nat.zero_le _, Nat.zero_le _⟩ (Nat.le_of_ble_eq_true rfl) rfl rfl dX9_writesTree_11 (fun r1 _ => ?_)
      refine g_iconst (pc := 14) (v := 1) C dX9_writesTree_14 (by decide) ?_
      refine g_icmp_ne (pc := 15) (tgt := 70) C dX9_writesTree_15 rfl ?_ ?_
      · refine g_aload_n (pc := 18) (i := 0) C dX9_writesTree_18 rfl rfl ?_
        refine g_aload_n (pc := 19) (i := 0) C dX9_writesTree_19 rfl rfl ?_
        refine g_iload_n (pc := 20) (i := 2) C dX9_writesTree_20 rfl rfl ?_
        refine g_iconst (pc := 21) (v := 2) C dX9_writesTree_21 (by decide) ?_
        refine g_callVi (pc := 22) (As := [.int (l2), .int (2)]) C (kX9_its X σ b l2 2 hb) (blk hb 0 rfl) rfl q_20_12 q_20_13 q_20_14 q_1_5 q_20_15 ⟨rfl, hdX9_its⟩ ⟨Nat.le_of_ble_eq_true rfl, Nat.le_of_ble_eq_true rfl, rfl, rfl⟩ ⟨Nat.zero_le _, Nat.zero_le _⟩ (Nat.le_of_ble_eq_true rfl) rfl rfl dX9_writesTree_22 (fun r2 _ => ?_)
        refine g_if_ne (pc := 25) (tgt := 33) C dX9_writesTree_25 rfl ?_ ?_
        · refine g_bipush (pc := 28) (v := 72) C dX9_writesTree_28 (by decide) ?_
          refine g_goto (pc := 30) (tgt := 35) C dX9_writesTree_30 rfl ?_
          refine g_keep [true, true, true, true] ?_
          exact bX9_writesTree_35 C hr b hb ih σ l1 l2 l3 72
        · refine g_bipush (pc := 33) (v := 86) C dX9_writesTree_33 (by decide) ?_
          refine g_keep [true, true, true, true] ?_
          exact bX9_writesTree_35 C hr b hb ih σ l1 l2 l3 86
      · refine g_aload_n (pc := 70) (i := 0) C dX9_writesTree_70 rfl rfl ?_
        refine g_iload_n (pc := 71) (i := 2) C dX9_writesTree_71 rfl rfl ?_
        refine g_callVv (pc := 72) (As := [.int (l2)]) C (kX9_writesGroup X σ b l2 hb) (blk hb 0 rfl) rfl q_57_1 q_57_2 q_57_3 q_1_5 q_57_4 ⟨rfl, hdX9_writesGroup⟩ ⟨Nat.le_of_ble_eq_true rfl, Nat.le_of_ble_eq_true rfl, rfl, rfl⟩ ⟨Nat.zero_le _, Nat.zero_le _⟩ (Nat.le_of_ble_eq_true rfl) rfl rfl dX9_writesTree_72 (fun σ3 _ => ?_)
        refine g_keep [true, true, true, false] ?_
        exact bX9_writesTree_75 C hr b hb ih FU σ3 l1 l2
def fX9_writesTree (σ : Sg) (b : Nat) (p1 : Int32) : Option Sg :=
  (fX9_writesTree_4 b FU σ p1 p1 1)
theorem kX9_writesTree (X : Xc) (σ : Sg) (b : Nat) (p1 : Int32) (hb : moOK b) : ∀ r, fX9_writesTree σ b p1 = some r → Met X.l yX9_writesTree (wsM yX9_writesTree cX9_writesTree 4 none) rmX9_writesTree (va_Pc [.ref (X.ad b), .int p1] (PW X σ)) (Qv X r) 0 0 X.A := by
  refine mt_of (own := RX9) (lo := [some (.ref (X.ad b)), some (.int (p1)), none, none]) (by decide) rfl (Nat.le_of_ble_eq_true rfl) rfl (fun K C hr => ?_)
  unfold fX9_writesTree
  refine g_iload_n (pc := 0) (i := 1) C dX9_writesTree_0 rfl rfl ?_
  refine g_istore_n (pc := 1) (i := 2) C dX9_writesTree_1 rfl (Nat.le_of_ble_eq_true rfl) rfl ?_
  refine g_iconst (pc := 2) (v := 1) C dX9_writesTree_2 (by decide) ?_
  refine g_istore_n (pc := 3) (i := 3) C dX9_writesTree_3 rfl (Nat.le_of_ble_eq_true rfl) rfl ?_
  refine g_keep [true, true, true, true] ?_
  exact bX9_writesTree_4 C hr b hb FU σ p1 p1 1
theorem dX9_write_0 : decode cX9_write 0 = .ok (.aload_n 0, 1) := by decide +kernel
theorem dX9_write_1 : decode cX9_write 1 = .ok (.iload_n 1, 1) := by decide +kernel
theorem dX9_write_2 : decode cX9_write 2 = .ok (.invokevirtual 187, 3) := by decide +kernel
theorem dX9_write_5 : decode cX9_write 5 = .ok (.istore_n 2, 1) := by decide +kernel
theorem dX9_write_6 : decode cX9_write 6 = .ok (.aload_n 0, 1) := by decide +kernel
theorem dX9_write_7 : decode cX9_write 7 = .ok (.iconst 0, 1) := by decide +kernel
theorem dX9_write_8 : decode cX9_write 8 = .ok (.putfield 310, 3) := by decide +kernel
theorem dX9_write_11 : decode cX9_write 11 = .ok (.iload_n 2, 1) := by decide +kernel
theorem dX9_write_12 : decode cX9_write 12 = .ok (.ifCond .eq 25, 3) := by decide +kernel
theorem dX9_write_15 : decode cX9_write 15 = .ok (.aload_n 0, 1) := by decide +kernel
theorem dX9_write_16 : decode cX9_write 16 = .ok (.iload_n 1, 1) := by decide +kernel
theorem dX9_write_17 : decode cX9_write 17 = .ok (.iconst 5, 1) := by decide +kernel
theorem dX9_write_18 : decode cX9_write 18 = .ok (.iconst 1, 1) := by decide +kernel
theorem dX9_write_19 : decode cX9_write 19 = .ok (.invokevirtual 72, 3) := by decide +kernel
theorem dX9_write_22 : decode cX9_write 22 = .ok (.iconst (-1), 1) := by decide +kernel
theorem dX9_write_23 : decode cX9_write 23 = .ok (.if_icmp .eq 14, 3) := by decide +kernel
theorem dX9_write_26 : decode cX9_write 26 = .ok (.aload_n 0, 1) := by decide +kernel
theorem dX9_write_27 : decode cX9_write 27 = .ok (.aload_n 0, 1) := by decide +kernel
theorem dX9_write_28 : decode cX9_write 28 = .ok (.iload_n 1, 1) := by decide +kernel
theorem dX9_write_29 : decode cX9_write 29 = .ok (.iconst 5, 1) := by decide +kernel
theorem dX9_write_30 : decode cX9_write 30 = .ok (.iconst 1, 1) := by decide +kernel
theorem dX9_write_31 : decode cX9_write 31 = .ok (.invokevirtual 72, 3) := by decide +kernel
theorem dX9_write_34 : decode cX9_write 34 = .ok (.invokevirtual 322, 3) := by decide +kernel
theorem dX9_write_37 : decode cX9_write 37 = .ok (.aload_n 0, 1) := by decide +kernel
theorem dX9_write_38 : decode cX9_write 38 = .ok (.iload_n 2, 1) := by decide +kernel
theorem dX9_write_39 : decode cX9_write 39 = .ok (.ifCond .ne 7, 3) := by decide +kernel
theorem dX9_write_42 : decode cX9_write 42 = .ok (.iconst 1, 1) := by decide +kernel
theorem dX9_write_43 : decode cX9_write 43 = .ok (.goto 17, 3) := by decide +kernel
theorem dX9_write_46 : decode cX9_write 46 = .ok (.aload_n 0, 1) := by decide +kernel
theorem dX9_write_47 : decode cX9_write 47 = .ok (.getfield 310, 3) := by decide +kernel
theorem dX9_write_50 : decode cX9_write 50 = .ok (.bipush 120, 2) := by decide +kernel
theorem dX9_write_52 : decode cX9_write 52 = .ok (.if_icmp .le 7, 3) := by decide +kernel
theorem dX9_write_55 : decode cX9_write 55 = .ok (.iconst 2, 1) := by decide +kernel
theorem dX9_write_56 : decode cX9_write 56 = .ok (.goto 4, 3) := by decide +kernel
theorem dX9_write_59 : decode cX9_write 59 = .ok (.iconst 0, 1) := by decide +kernel
theorem dX9_write_60 : decode cX9_write 60 = .ok (.invokevirtual 57, 3) := by decide +kernel
theorem dX9_write_63 : decode cX9_write 63 = .ok (.ifCond .eq 5, 3) := by decide +kernel
theorem dX9_write_66 : decode cX9_write 66 = .ok (.iconst 0, 1) := by decide +kernel
theorem dX9_write_67 : decode cX9_write 67 = .ok (.ireturn, 1) := by decide +kernel
theorem dX9_write_68 : decode cX9_write 68 = .ok (.iconst 0, 1) := by decide +kernel
theorem dX9_write_69 : decode cX9_write 69 = .ok (.istore_n 3, 1) := by decide +kernel
theorem dX9_write_70 : decode cX9_write 70 = .ok (.iload_n 3, 1) := by decide +kernel
theorem dX9_write_71 : decode cX9_write 71 = .ok (.aload_n 0, 1) := by decide +kernel
theorem dX9_write_72 : decode cX9_write 72 = .ok (.getfield 310, 3) := by decide +kernel
theorem dX9_write_75 : decode cX9_write 75 = .ok (.if_icmp .ge 21, 3) := by decide +kernel
theorem dX9_write_78 : decode cX9_write 78 = .ok (.aload_n 0, 1) := by decide +kernel
theorem dX9_write_79 : decode cX9_write 79 = .ok (.getfield 16, 3) := by decide +kernel
theorem dX9_write_82 : decode cX9_write 82 = .ok (.iload_n 3, 1) := by decide +kernel
theorem dX9_write_83 : decode cX9_write 83 = .ok (.aload_n 0, 1) := by decide +kernel
theorem dX9_write_84 : decode cX9_write 84 = .ok (.getfield 47, 3) := by decide +kernel
theorem dX9_write_87 : decode cX9_write 87 = .ok (.iload_n 3, 1) := by decide +kernel
theorem dX9_write_88 : decode cX9_write 88 = .ok (.iaload, 1) := by decide +kernel
theorem dX9_write_89 : decode cX9_write 89 = .ok (.iastore, 1) := by decide +kernel
theorem dX9_write_90 : decode cX9_write 90 = .ok (.iinc 3 1, 3) := by decide +kernel
theorem dX9_write_93 : decode cX9_write 93 = .ok (.goto (-23), 3) := by decide +kernel
theorem dX9_write_96 : decode cX9_write 96 = .ok (.aload_n 0, 1) := by decide +kernel
theorem dX9_write_97 : decode cX9_write 97 = .ok (.aload_n 0, 1) := by decide +kernel
theorem dX9_write_98 : decode cX9_write 98 = .ok (.getfield 310, 3) := by decide +kernel
theorem dX9_write_101 : decode cX9_write 101 = .ok (.putfield 257, 3) := by decide +kernel
theorem dX9_write_104 : decode cX9_write 104 = .ok (.aload_n 0, 1) := by decide +kernel
theorem dX9_write_105 : decode cX9_write 105 = .ok (.getfield 257, 3) := by decide +kernel
theorem dX9_write_108 : decode cX9_write 108 = .ok (.ireturn, 1) := by decide +kernel
abbrev rmX9_write : Room := { frames := 4, cells := 0, slots := 0, locals := 91 }
theorem hdX9_write : yX9_write.cls ≠ "java/lang/invoke/MethodHandle" ∧ yX9_write.cls ≠ "java/lang/invoke/VarHandle" ∧ (parseMethodDescriptor yX9_write.desc).map (fun d => d.parameters.length) = some 1 := by decide +kernel
def fX9_write_70 (b : Nat) : Nat → Sg → Int32 → Option (Int32 × Sg)
  | 0, _, _ => none
  | n + 1, σ, l3 =>
    if (σ.1 b 25) ≤ l3 then
      nm (su σ b 5 (σ.1 b 25)) fun σ7 =>
      some (σ7.1 b 5, σ7)
    else
      if ck l3 400 then
        if ck l3 120 then
          nm (su σ (b + 3) l3.toNatClampNeg (σ.1 (b + 13) l3.toNatClampNeg)) fun σ8 =>
          ((fX9_write_70 b n) σ8 (l3 + 1))
        else none
      else none
theorem bX9_write_70 {X : Xc} {K : Kc} (C : MC X K cX9_write 4 RX9 rmX9_write) (hr : K.meth.sig.returnType = (some .int)) (b : Nat) (hb : moOK b) : ∀ (n : Nat) (σ : Sg) (l3 : Int32), GO X K 4 (fun r => MQi X K r.1 r.2) (fX9_write_70 b n σ l3) σ 0 0 70 [some (.ref (X.ad b)), none, none, some (.int (l3))] [] := by
  intro n
  induction n with
  | zero =>
    intro σ l3
    exact g_none
  | succ n ih =>
    intro σ l3
    unfold fX9_write_70
    refine g_iload_n (pc := 70) (i := 3) C dX9_write_70 rfl rfl ?_
    refine g_aload_n (pc := 71) (i := 0) C dX9_write_71 rfl rfl ?_
    refine g_geti (pc := 72) (ci := 9) (N := 27) (T := TX9) (j := 25) (Cn := RX9) C rfl inlX9 (Nat.le_of_ble_eq_true rfl) q_56_12 (blk hb 0 rfl) rfl dX9_write_72 ?_
    refine g_icmp_ge (pc := 75) (tgt := 96) C dX9_write_75 rfl ?_ ?_
    · refine g_aload_n (pc := 96) (i := 0) C dX9_write_96 rfl rfl ?_
      refine g_aload_n (pc := 97) (i := 0) C dX9_write_97 rfl rfl ?_
      refine g_geti (pc := 98) (ci := 9) (N := 27) (T := TX9) (j := 25) (Cn := RX9) C rfl inlX9 (Nat.le_of_ble_eq_true rfl) q_56_12 (blk hb 0 rfl) rfl dX9_write_98 ?_
      refine g_puti (pc := 101) (ci := 9) (N := 27) (T := TX9) (j := 5) (Cn := RX9) C rfl inlX9 tyX9_ok nmX9 (Nat.le_of_ble_eq_true rfl) q_49_12 (blk hb 0 rfl) rfl rfl rfl dX9_write_101 ?_
      refine g_nms (fun σ7 => ?_)
      refine g_aload_n (pc := 104) (i := 0) C dX9_write_104 rfl rfl ?_
      refine g_geti (pc := 105) (ci := 9) (N := 27) (T := TX9) (j := 5) (Cn := RX9) C rfl inlX9 (Nat.le_of_ble_eq_true rfl) q_49_12 (blk hb 0 rfl) rfl dX9_write_105 ?_
      exact g_iret (pc := 108) C hr dX9_write_108 rfl
    · refine g_aload_n (pc := 78) (i := 0) C dX9_write_78 rfl rfl ?_
      refine g_getr (pc := 79) (ci := 9) (N := 27) (T := TX9) (j := 4) (Cn := RX9) (b + 3) C rfl inlX9 (Nat.le_of_ble_eq_true rfl) q_6_4 (blk hb 0 rfl) rfl dX9_write_79 ?_
      refine g_iload_n (pc := 82) (i := 3) C dX9_write_82 rfl rfl ?_
      refine g_aload_n (pc := 83) (i := 0) C dX9_write_83 rfl rfl ?_
      refine g_getr (pc := 84) (ci := 9) (N := 27) (T := TX9) (j := 24) (Cn := RX9) (b + 13) C rfl inlX9 (Nat.le_of_ble_eq_true rfl) q_6_15 (blk hb 0 rfl) rfl dX9_write_84 ?_
      refine g_iload_n (pc := 87) (i := 3) C dX9_write_87 rfl rfl ?_
      refine g_iaload (pc := 88) C (blk hb 13 rfl) dX9_write_88 ?_
      refine g_iastore (pc := 89) C (blk hb 3 rfl) dX9_write_89 ?_
      refine g_nms (fun σ8 => ?_)
      refine g_iinc (pc := 90) (v := l3 + 1) C dX9_write_90 rfl (rfl) (Nat.le_of_ble_eq_true rfl) rfl ?_
      refine g_goto (pc := 93) (tgt := 70) C dX9_write_93 rfl ?_
      refine g_keep [true, false, false, true] ?_
      exact ih σ8 (l3 + 1)
def fX9_write_60 (b : Nat) (σ : Sg) (s1 : Int32) : Option (Int32 × Sg) :=
  (fX9_refused σ b s1).bind fun r6 =>
  if r6.1 = true then
    some (0, r6.2)
  else
    (fX9_write_70 b FU r6.2 0)
theorem bX9_write_60 {X : Xc} {K : Kc} (C : MC X K cX9_write 4 RX9 rmX9_write) (hr : K.meth.sig.returnType = (some .int)) (b : Nat) (hb : moOK b) (σ : Sg) (s1 : Int32) : GO X K 4 (fun r => MQi X K r.1 r.2) (fX9_write_60 b σ s1) σ 0 0 60 [some (.ref (X.ad b)), none, none, none] [.int (s1), .ref (X.ad b)] := by
  unfold fX9_write_60
  refine g_callVi (pc := 60) (As := [.int (s1)]) C (kX9_refused X σ b s1 hb) (blk hb 0 rfl) rfl q_10_9 q_10_10 q_10_11 q_1_5 q_10_12 ⟨rfl, hdX9_refused⟩ ⟨Nat.le_of_ble_eq_true rfl, Nat.le_of_ble_eq_true rfl, rfl, rfl⟩ ⟨Nat.zero_le _, Nat.zero_le _⟩ (Nat.le_of_ble_eq_true rfl) rfl rfl dX9_write_60 (fun r6 _ => ?_)
  refine g_ifb_eq (pc := 63) (tgt := 68) C dX9_write_63 rfl ?_ ?_
  · refine g_iconst (pc := 66) (v := 0) C dX9_write_66 (by decide) ?_
    exact g_iret (pc := 67) C hr dX9_write_67 rfl
  · refine g_iconst (pc := 68) (v := 0) C dX9_write_68 (by decide) ?_
    refine g_istore_n (pc := 69) (i := 3) C dX9_write_69 rfl (Nat.le_of_ble_eq_true rfl) rfl ?_
    refine g_keep [true, false, false, true] ?_
    exact bX9_write_70 C hr b hb FU r6.2 0
def fX9_write_37 (b : Nat) (σ : Sg) (l2 : Int32) : Option (Int32 × Sg) :=
  if l2 = 0 then
    (fX9_write_60 b σ 1)
  else
    if (σ.1 b 25) ≤ 120 then
      (fX9_write_60 b σ 0)
    else
      (fX9_write_60 b σ 2)
theorem bX9_write_37 {X : Xc} {K : Kc} (C : MC X K cX9_write 4 RX9 rmX9_write) (hr : K.meth.sig.returnType = (some .int)) (b : Nat) (hb : moOK b) (σ : Sg) (l2 : Int32) : GO X K 4 (fun r => MQi X K r.1 r.2) (fX9_write_37 b σ l2) σ 0 0 37 [some (.ref (X.ad b)), none, some (.int (l2)), none] [] := by
  unfold fX9_write_37
  refine g_aload_n (pc := 37) (i := 0) C dX9_write_37 rfl rfl ?_
  refine g_iload_n (pc := 38) (i := 2) C dX9_write_38 rfl rfl ?_
  refine g_if_ne (pc := 39) (tgt := 46) C dX9_write_39 rfl ?_ ?_
  · refine g_iconst (pc := 42) (v := 1) C dX9_write_42 (by decide) ?_
    refine g_goto (pc := 43) (tgt := 60) C dX9_write_43 rfl ?_
    refine g_keep [true, false, false, false] ?_
    exact bX9_write_60 C hr b hb σ 1
  · refine g_aload_n (pc := 46) (i := 0) C dX9_write_46 rfl rfl ?_
    refine g_geti (pc := 47) (ci := 9) (N := 27) (T := TX9) (j := 25) (Cn := RX9) C rfl inlX9 (Nat.le_of_ble_eq_true rfl) q_56_12 (blk hb 0 rfl) rfl dX9_write_47 ?_
    refine g_bipush (pc := 50) (v := 120) C dX9_write_50 (by decide) ?_
    refine g_icmp_le (pc := 52) (tgt := 59) C dX9_write_52 rfl ?_ ?_
    · refine g_iconst (pc := 59) (v := 0) C dX9_write_59 (by decide) ?_
      refine g_keep [true, false, false, false] ?_
      exact bX9_write_60 C hr b hb σ 0
    · refine g_iconst (pc := 55) (v := 2) C dX9_write_55 (by decide) ?_
      refine g_goto (pc := 56) (tgt := 60) C dX9_write_56 rfl ?_
      refine g_keep [true, false, false, false] ?_
      exact bX9_write_60 C hr b hb σ 2
def fX9_write (σ : Sg) (b : Nat) (p1 : Int32) : Option (Int32 × Sg) :=
  (fX9_isWindow σ b p1).bind fun r1 =>
  nm (su σ b 25 0) fun σ2 =>
  if r1 = true then
    (fX9_window σ2 b p1 5 1).bind fun r3 =>
    if r3 = (-1) then
      (fX9_write_37 b σ2 (b2i r1))
    else
      (fX9_window σ2 b p1 5 1).bind fun r4 =>
      (fX9_writesTree σ2 b r4).bind fun σ5 =>
      (fX9_write_37 b σ5 (b2i r1))
  else
    (fX9_write_37 b σ2 (b2i r1))
theorem kX9_write (X : Xc) (σ : Sg) (b : Nat) (p1 : Int32) (hb : moOK b) : ∀ r, fX9_write σ b p1 = some r → Met X.l yX9_write (wsM yX9_write cX9_write 4 (some .int)) rmX9_write (va_Pc [.ref (X.ad b), .int p1] (PW X σ)) (Qi X r.1 r.2) 0 0 X.A := by
  refine mt_of (own := RX9) (lo := [some (.ref (X.ad b)), some (.int (p1)), none, none]) (by decide) rfl (Nat.le_of_ble_eq_true rfl) rfl (fun K C hr => ?_)
  unfold fX9_write
  refine g_aload_n (pc := 0) (i := 0) C dX9_write_0 rfl rfl ?_
  refine g_iload_n (pc := 1) (i := 1) C dX9_write_1 rfl rfl ?_
  refine g_callVi (pc := 2) (As := [.int (p1)]) C (kX9_isWindow X σ b p1 hb) (blk hb 0 rfl) rfl q_27_9 q_27_10 q_27_11 q_1_5 q_27_12 ⟨rfl, hdX9_isWindow⟩ ⟨Nat.le_of_ble_eq_true rfl, Nat.le_of_ble_eq_true rfl, rfl, rfl⟩ ⟨Nat.zero_le _, Nat.zero_le _⟩ (Nat.le_of_ble_eq_true rfl) rfl rfl dX9_write_2 (fun r1 _ => ?_)
  refine g_istore_n (pc := 5) (i := 2) C dX9_write_5 rfl (Nat.le_of_ble_eq_true rfl) rfl ?_
  refine g_aload_n (pc := 6) (i := 0) C dX9_write_6 rfl rfl ?_
  refine g_iconst (pc := 7) (v := 0) C dX9_write_7 (by decide) ?_
  refine g_puti (pc := 8) (ci := 9) (N := 27) (T := TX9) (j := 25) (Cn := RX9) C rfl inlX9 tyX9_ok nmX9 (Nat.le_of_ble_eq_true rfl) q_56_12 (blk hb 0 rfl) rfl rfl rfl dX9_write_8 ?_
  refine g_nms (fun σ2 => ?_)
  refine g_iload_n (pc := 11) (i := 2) C dX9_write_11 rfl rfl ?_
  refine g_ifb_eq (pc := 12) (tgt := 37) C dX9_write_12 rfl ?_ ?_
  · refine g_aload_n (pc := 15) (i := 0) C dX9_write_15 rfl rfl ?_
    refine g_iload_n (pc := 16) (i := 1) C dX9_write_16 rfl rfl ?_
    refine g_iconst (pc := 17) (v := 5) C dX9_write_17 (by decide) ?_
    refine g_iconst (pc := 18) (v := 1) C dX9_write_18 (by decide) ?_
    refine g_callVi (pc := 19) (As := [.int (p1), .int (5), .int (1)]) C (kX9_window X σ2 b p1 5 1 hb) (blk hb 0 rfl) rfl q_22_12 q_22_13 q_22_14 q_1_5 q_22_15 ⟨rfl, hdX9_window⟩ ⟨Nat.le_of_ble_eq_true rfl, Nat.le_of_ble_eq_true rfl, rfl, rfl⟩ ⟨Nat.zero_le _, Nat.zero_le _⟩ (Nat.le_of_ble_eq_true rfl) rfl rfl dX9_write_19 (fun r3 _ => ?_)
    refine g_iconst (pc := 22) (v := (-1)) C dX9_write_22 (by decide) ?_
    refine g_icmp_eq (pc := 23) (tgt := 37) C dX9_write_23 rfl ?_ ?_
    · refine g_keep [true, false, true, false] ?_
      exact bX9_write_37 C hr b hb σ2 (b2i r1)
    · refine g_aload_n (pc := 26) (i := 0) C dX9_write_26 rfl rfl ?_
      refine g_aload_n (pc := 27) (i := 0) C dX9_write_27 rfl rfl ?_
      refine g_iload_n (pc := 28) (i := 1) C dX9_write_28 rfl rfl ?_
      refine g_iconst (pc := 29) (v := 5) C dX9_write_29 (by decide) ?_
      refine g_iconst (pc := 30) (v := 1) C dX9_write_30 (by decide) ?_
      refine g_callVi (pc := 31) (As := [.int (p1), .int (5), .int (1)]) C (kX9_window X σ2 b p1 5 1 hb) (blk hb 0 rfl) rfl q_22_12 q_22_13 q_22_14 q_1_5 q_22_15 ⟨rfl, hdX9_window⟩ ⟨Nat.le_of_ble_eq_true rfl, Nat.le_of_ble_eq_true rfl, rfl, rfl⟩ ⟨Nat.zero_le _, Nat.zero_le _⟩ (Nat.le_of_ble_eq_true rfl) rfl rfl dX9_write_31 (fun r4 _ => ?_)
      refine g_callVv (pc := 34) (As := [.int (r4)]) C (kX9_writesTree X σ2 b r4 hb) (blk hb 0 rfl) rfl q_56_13 q_56_14 q_56_15 q_1_5 q_56_16 ⟨rfl, hdX9_writesTree⟩ ⟨Nat.le_of_ble_eq_true rfl, Nat.le_of_ble_eq_true rfl, rfl, rfl⟩ ⟨Nat.zero_le _, Nat.zero_le _⟩ (Nat.le_of_ble_eq_true rfl) rfl rfl dX9_write_34 (fun σ5 _ => ?_)
      refine g_keep [true, false, true, false] ?_
      exact bX9_write_37 C hr b hb σ5 (b2i r1)
  · refine g_keep [true, false, true, false] ?_
    exact bX9_write_37 C hr b hb σ2 (b2i r1)
theorem dX9_character_0 : decode cX9_character 0 = .ok (.aload_n 0, 1) := by decide +kernel
theorem dX9_character_1 : decode cX9_character 1 = .ok (.iconst 0, 1) := by decide +kernel
theorem dX9_character_2 : decode cX9_character 2 = .ok (.putfield 50, 3) := by decide +kernel
theorem dX9_character_5 : decode cX9_character 5 = .ok (.iload_n 1, 1) := by decide +kernel
theorem dX9_character_6 : decode cX9_character 6 = .ok (.iconst 0, 1) := by decide +kernel
theorem dX9_character_7 : decode cX9_character 7 = .ok (.aload_n 0, 1) := by decide +kernel
theorem dX9_character_8 : decode cX9_character 8 = .ok (.getfield 257, 3) := by decide +kernel
theorem dX9_character_11 : decode cX9_character 11 = .ok (.iconst 1, 1) := by decide +kernel
theorem dX9_character_12 : decode cX9_character 12 = .ok (.isub, 1) := by decide +kernel
theorem dX9_character_13 : decode cX9_character 13 = .ok (.invokestatic 61, 3) := by decide +kernel
theorem dX9_character_16 : decode cX9_character 16 = .ok (.ifCond .eq 12, 3) := by decide +kernel
theorem dX9_character_19 : decode cX9_character 19 = .ok (.aload_n 0, 1) := by decide +kernel
theorem dX9_character_20 : decode cX9_character 20 = .ok (.getfield 16, 3) := by decide +kernel
theorem dX9_character_23 : decode cX9_character 23 = .ok (.iload_n 1, 1) := by decide +kernel
theorem dX9_character_24 : decode cX9_character 24 = .ok (.iaload, 1) := by decide +kernel
theorem dX9_character_25 : decode cX9_character 25 = .ok (.goto 4, 3) := by decide +kernel
theorem dX9_character_28 : decode cX9_character 28 = .ok (.iconst (-1), 1) := by decide +kernel
theorem dX9_character_29 : decode cX9_character 29 = .ok (.ireturn, 1) := by decide +kernel
abbrev rmX9_character : Room := { frames := 1, cells := 0, slots := 0, locals := 22 }
theorem hdX9_character : yX9_character.cls ≠ "java/lang/invoke/MethodHandle" ∧ yX9_character.cls ≠ "java/lang/invoke/VarHandle" ∧ (parseMethodDescriptor yX9_character.desc).map (fun d => d.parameters.length) = some 1 := by decide +kernel
def fX9_character (σ : Sg) (b : Nat) (p1 : Int32) : Option (Int32 × Sg) :=
  nm (su σ b 3 0) fun σ1 =>
  (fX9_within σ1 p1 0 ((σ1.1 b 5) - 1)).bind fun r2 =>
  if r2 = true then
    if ck p1 120 then
      some (σ1.1 (b + 3) p1.toNatClampNeg, σ1)
    else none
  else
    some ((-1), σ1)
theorem kX9_character (X : Xc) (σ : Sg) (b : Nat) (p1 : Int32) (hb : moOK b) : ∀ r, fX9_character σ b p1 = some r → Met X.l yX9_character (wsM yX9_character cX9_character 2 (some .int)) rmX9_character (va_Pc [.ref (X.ad b), .int p1] (PW X σ)) (Qi X r.1 r.2) 0 0 X.A := by
  refine mt_of (own := RX9) (lo := [some (.ref (X.ad b)), some (.int (p1))]) (by decide) rfl (Nat.le_of_ble_eq_true rfl) rfl (fun K C hr => ?_)
  unfold fX9_character
  refine g_aload_n (pc := 0) (i := 0) C dX9_character_0 rfl rfl ?_
  refine g_iconst (pc := 1) (v := 0) C dX9_character_1 (by decide) ?_
  refine g_puti (pc := 2) (ci := 9) (N := 27) (T := TX9) (j := 3) (Cn := RX9) C rfl inlX9 tyX9_ok nmX9 (Nat.le_of_ble_eq_true rfl) q_10_13 (blk hb 0 rfl) rfl rfl rfl dX9_character_2 ?_
  refine g_nms (fun σ1 => ?_)
  refine g_iload_n (pc := 5) (i := 1) C dX9_character_5 rfl rfl ?_
  refine g_iconst (pc := 6) (v := 0) C dX9_character_6 (by decide) ?_
  refine g_aload_n (pc := 7) (i := 0) C dX9_character_7 rfl rfl ?_
  refine g_geti (pc := 8) (ci := 9) (N := 27) (T := TX9) (j := 5) (Cn := RX9) C rfl inlX9 (Nat.le_of_ble_eq_true rfl) q_49_12 (blk hb 0 rfl) rfl dX9_character_8 ?_
  refine g_iconst (pc := 11) (v := 1) C dX9_character_11 (by decide) ?_
  refine g_isub (pc := 12) C dX9_character_12 ?_
  refine g_callSi (pc := 13) (As := [.int (p1), .int (0), .int ((σ1.1 b 5) - 1)]) C (kX9_within X σ1 p1 0 ((σ1.1 b 5) - 1)) q_10_6 q_10_7 q_1_5 q_10_8 hdX9_within ⟨Nat.le_of_ble_eq_true rfl, Nat.le_of_ble_eq_true rfl, rfl, rfl⟩ ⟨Nat.zero_le _, Nat.zero_le _⟩ (Nat.le_of_ble_eq_true rfl) rfl rfl dX9_character_13 (fun r2 _ => ?_)
  refine g_ifb_eq (pc := 16) (tgt := 28) C dX9_character_16 rfl ?_ ?_
  · refine g_aload_n (pc := 19) (i := 0) C dX9_character_19 rfl rfl ?_
    refine g_getr (pc := 20) (ci := 9) (N := 27) (T := TX9) (j := 4) (Cn := RX9) (b + 3) C rfl inlX9 (Nat.le_of_ble_eq_true rfl) q_6_4 (blk hb 0 rfl) rfl dX9_character_20 ?_
    refine g_iload_n (pc := 23) (i := 1) C dX9_character_23 rfl rfl ?_
    refine g_iaload (pc := 24) C (blk hb 3 rfl) dX9_character_24 ?_
    refine g_goto (pc := 25) (tgt := 29) C dX9_character_25 rfl ?_
    exact g_iret (pc := 29) C hr dX9_character_29 rfl
  · refine g_iconst (pc := 28) (v := (-1)) C dX9_character_28 (by decide) ?_
    exact g_iret (pc := 29) C hr dX9_character_29 rfl
theorem dX9_mix_0 : decode cX9_mix 0 = .ok (.aload_n 0, 1) := by decide +kernel
theorem dX9_mix_1 : decode cX9_mix 1 = .ok (.ldc2_w 325, 3) := by decide +kernel
theorem dX9_mix_4 : decode cX9_mix 4 = .ok (.aload_n 0, 1) := by decide +kernel
theorem dX9_mix_5 : decode cX9_mix 5 = .ok (.getfield 327, 3) := by decide +kernel
theorem dX9_mix_8 : decode cX9_mix 8 = .ok (.lmul, 1) := by decide +kernel
theorem dX9_mix_9 : decode cX9_mix 9 = .ok (.lload_n 1, 1) := by decide +kernel
theorem dX9_mix_10 : decode cX9_mix 10 = .ok (.ladd, 1) := by decide +kernel
theorem dX9_mix_11 : decode cX9_mix 11 = .ok (.putfield 327, 3) := by decide +kernel
theorem dX9_mix_14 : decode cX9_mix 14 = .ok (.return_, 1) := by decide +kernel
abbrev rmX9_mix : Room := { frames := 0, cells := 0, slots := 0, locals := 0 }
theorem hdX9_mix : yX9_mix.cls ≠ "java/lang/invoke/MethodHandle" ∧ yX9_mix.cls ≠ "java/lang/invoke/VarHandle" ∧ (parseMethodDescriptor yX9_mix.desc).map (fun d => d.parameters.length) = some 1 := by decide +kernel
def fX9_mix (σ : Sg) (b : Nat) (p1 : Int64) : Option Sg :=
  nm (sul σ b 26 (((31 : Int64) * (σ.2 b 26)) + p1)) fun σ1 =>
  some σ1
theorem kX9_mix (X : Xc) (σ : Sg) (b : Nat) (p1 : Int64) (hb : moOK b) : ∀ r, fX9_mix σ b p1 = some r → Met X.l yX9_mix (wsM yX9_mix cX9_mix 3 none) rmX9_mix (va_Pc [.ref (X.ad b), .long p1] (PW X σ)) (Qv X r) 0 0 X.A := by
  refine mt_of (own := RX9) (lo := [some (.ref (X.ad b)), some (.long (p1)), none]) (by decide) rfl (Nat.le_of_ble_eq_true rfl) rfl (fun K C hr => ?_)
  unfold fX9_mix
  refine g_aload_n (pc := 0) (i := 0) C dX9_mix_0 rfl rfl ?_
  refine g_ldc2 (pc := 1) (v := 31) C q_59_7 dX9_mix_1 ?_
  refine g_aload_n (pc := 4) (i := 0) C dX9_mix_4 rfl rfl ?_
  refine g_getl (pc := 5) (ci := 9) (N := 27) (T := TX9) (j := 26) (Cn := RX9) C rfl inlX9 (Nat.le_of_ble_eq_true rfl) q_59_2 (blk hb 0 rfl) rfl dX9_mix_5 ?_
  refine g_lmul (pc := 8) C dX9_mix_8 ?_
  refine g_lload_n (pc := 9) (i := 1) C dX9_mix_9 rfl rfl ?_
  refine g_ladd (pc := 10) C dX9_mix_10 ?_
  refine g_putl (pc := 11) (ci := 9) (N := 27) (T := TX9) (j := 26) (Cn := RX9) C rfl inlX9 tyX9_ok nmX9 (Nat.le_of_ble_eq_true rfl) q_59_2 (blk hb 0 rfl) rfl rfl rfl dX9_mix_11 ?_
  refine g_nms (fun σ1 => ?_)
  exact g_vret (pc := 14) C hr dX9_mix_14 rfl
theorem dX9_checksum_0 : decode cX9_checksum 0 = .ok (.aload_n 0, 1) := by decide +kernel
theorem dX9_checksum_1 : decode cX9_checksum 1 = .ok (.iconst 0, 1) := by decide +kernel
theorem dX9_checksum_2 : decode cX9_checksum 2 = .ok (.putfield 50, 3) := by decide +kernel
theorem dX9_checksum_5 : decode cX9_checksum 5 = .ok (.aload_n 0, 1) := by decide +kernel
theorem dX9_checksum_6 : decode cX9_checksum 6 = .ok (.ldc2_w 331, 3) := by decide +kernel
theorem dX9_checksum_9 : decode cX9_checksum 9 = .ok (.putfield 327, 3) := by decide +kernel
theorem dX9_checksum_12 : decode cX9_checksum 12 = .ok (.aload_n 0, 1) := by decide +kernel
theorem dX9_checksum_13 : decode cX9_checksum 13 = .ok (.invokevirtual 193, 3) := by decide +kernel
theorem dX9_checksum_16 : decode cX9_checksum 16 = .ok (.aload_n 0, 1) := by decide +kernel
theorem dX9_checksum_17 : decode cX9_checksum 17 = .ok (.aload_n 0, 1) := by decide +kernel
theorem dX9_checksum_18 : decode cX9_checksum 18 = .ok (.invokevirtual 153, 3) := by decide +kernel
theorem dX9_checksum_21 : decode cX9_checksum 21 = .ok (.i2l, 1) := by decide +kernel
theorem dX9_checksum_22 : decode cX9_checksum 22 = .ok (.invokevirtual 333, 3) := by decide +kernel
theorem dX9_checksum_25 : decode cX9_checksum 25 = .ok (.iconst 0, 1) := by decide +kernel
theorem dX9_checksum_26 : decode cX9_checksum 26 = .ok (.istore_n 1, 1) := by decide +kernel
theorem dX9_checksum_27 : decode cX9_checksum 27 = .ok (.iload_n 1, 1) := by decide +kernel
theorem dX9_checksum_28 : decode cX9_checksum 28 = .ok (.bipush 12, 2) := by decide +kernel
theorem dX9_checksum_30 : decode cX9_checksum 30 = .ok (.if_icmp .ge 74, 3) := by decide +kernel
theorem dX9_checksum_33 : decode cX9_checksum 33 = .ok (.iconst 0, 1) := by decide +kernel
theorem dX9_checksum_34 : decode cX9_checksum 34 = .ok (.istore_n 2, 1) := by decide +kernel
theorem dX9_checksum_35 : decode cX9_checksum 35 = .ok (.iload_n 2, 1) := by decide +kernel
theorem dX9_checksum_36 : decode cX9_checksum 36 = .ok (.bipush 9, 2) := by decide +kernel
theorem dX9_checksum_38 : decode cX9_checksum 38 = .ok (.if_icmp .ge 28, 3) := by decide +kernel
theorem dX9_checksum_41 : decode cX9_checksum 41 = .ok (.aload_n 0, 1) := by decide +kernel
theorem dX9_checksum_42 : decode cX9_checksum 42 = .ok (.iload_n 1, 1) := by decide +kernel
theorem dX9_checksum_43 : decode cX9_checksum 43 = .ok (.invokevirtual 144, 3) := by decide +kernel
theorem dX9_checksum_46 : decode cX9_checksum 46 = .ok (.ifCond .eq 20, 3) := by decide +kernel
theorem dX9_checksum_49 : decode cX9_checksum 49 = .ok (.aload_n 0, 1) := by decide +kernel
theorem dX9_checksum_50 : decode cX9_checksum 50 = .ok (.aload_n 0, 1) := by decide +kernel
theorem dX9_checksum_51 : decode cX9_checksum 51 = .ok (.iload_n 1, 1) := by decide +kernel
theorem dX9_checksum_52 : decode cX9_checksum 52 = .ok (.iload_n 2, 1) := by decide +kernel
theorem dX9_checksum_53 : decode cX9_checksum 53 = .ok (.invokevirtual 160, 3) := by decide +kernel
theorem dX9_checksum_56 : decode cX9_checksum 56 = .ok (.i2l, 1) := by decide +kernel
theorem dX9_checksum_57 : decode cX9_checksum 57 = .ok (.invokevirtual 333, 3) := by decide +kernel
theorem dX9_checksum_60 : decode cX9_checksum 60 = .ok (.iinc 2 1, 3) := by decide +kernel
theorem dX9_checksum_63 : decode cX9_checksum 63 = .ok (.goto (-28), 3) := by decide +kernel
theorem dX9_checksum_66 : decode cX9_checksum 66 = .ok (.iconst 0, 1) := by decide +kernel
theorem dX9_checksum_67 : decode cX9_checksum 67 = .ok (.istore_n 2, 1) := by decide +kernel
theorem dX9_checksum_68 : decode cX9_checksum 68 = .ok (.iload_n 2, 1) := by decide +kernel
theorem dX9_checksum_69 : decode cX9_checksum 69 = .ok (.iconst 4, 1) := by decide +kernel
theorem dX9_checksum_70 : decode cX9_checksum 70 = .ok (.if_icmp .ge 28, 3) := by decide +kernel
theorem dX9_checksum_73 : decode cX9_checksum 73 = .ok (.aload_n 0, 1) := by decide +kernel
theorem dX9_checksum_74 : decode cX9_checksum 74 = .ok (.iload_n 1, 1) := by decide +kernel
theorem dX9_checksum_75 : decode cX9_checksum 75 = .ok (.invokevirtual 144, 3) := by decide +kernel
theorem dX9_checksum_78 : decode cX9_checksum 78 = .ok (.ifCond .eq 20, 3) := by decide +kernel
theorem dX9_checksum_81 : decode cX9_checksum 81 = .ok (.aload_n 0, 1) := by decide +kernel
theorem dX9_checksum_82 : decode cX9_checksum 82 = .ok (.aload_n 0, 1) := by decide +kernel
theorem dX9_checksum_83 : decode cX9_checksum 83 = .ok (.iload_n 1, 1) := by decide +kernel
theorem dX9_checksum_84 : decode cX9_checksum 84 = .ok (.iload_n 2, 1) := by decide +kernel
theorem dX9_checksum_85 : decode cX9_checksum 85 = .ok (.invokevirtual 196, 3) := by decide +kernel
theorem dX9_checksum_88 : decode cX9_checksum 88 = .ok (.i2l, 1) := by decide +kernel
theorem dX9_checksum_89 : decode cX9_checksum 89 = .ok (.invokevirtual 333, 3) := by decide +kernel
theorem dX9_checksum_92 : decode cX9_checksum 92 = .ok (.iinc 2 1, 3) := by decide +kernel
theorem dX9_checksum_95 : decode cX9_checksum 95 = .ok (.goto (-27), 3) := by decide +kernel
theorem dX9_checksum_98 : decode cX9_checksum 98 = .ok (.iinc 1 1, 3) := by decide +kernel
theorem dX9_checksum_101 : decode cX9_checksum 101 = .ok (.goto (-74), 3) := by decide +kernel
theorem dX9_checksum_104 : decode cX9_checksum 104 = .ok (.iconst 0, 1) := by decide +kernel
theorem dX9_checksum_105 : decode cX9_checksum 105 = .ok (.istore_n 1, 1) := by decide +kernel
theorem dX9_checksum_106 : decode cX9_checksum 106 = .ok (.iload_n 1, 1) := by decide +kernel
theorem dX9_checksum_107 : decode cX9_checksum 107 = .ok (.iconst 5, 1) := by decide +kernel
theorem dX9_checksum_108 : decode cX9_checksum 108 = .ok (.if_icmp .ge 42, 3) := by decide +kernel
theorem dX9_checksum_111 : decode cX9_checksum 111 = .ok (.iconst 0, 1) := by decide +kernel
theorem dX9_checksum_112 : decode cX9_checksum 112 = .ok (.istore_n 2, 1) := by decide +kernel
theorem dX9_checksum_113 : decode cX9_checksum 113 = .ok (.iload_n 2, 1) := by decide +kernel
theorem dX9_checksum_114 : decode cX9_checksum 114 = .ok (.bipush 8, 2) := by decide +kernel
theorem dX9_checksum_116 : decode cX9_checksum 116 = .ok (.if_icmp .ge 28, 3) := by decide +kernel
theorem dX9_checksum_119 : decode cX9_checksum 119 = .ok (.aload_n 0, 1) := by decide +kernel
theorem dX9_checksum_120 : decode cX9_checksum 120 = .ok (.iload_n 1, 1) := by decide +kernel
theorem dX9_checksum_121 : decode cX9_checksum 121 = .ok (.invokevirtual 187, 3) := by decide +kernel
theorem dX9_checksum_124 : decode cX9_checksum 124 = .ok (.ifCond .eq 20, 3) := by decide +kernel
theorem dX9_checksum_127 : decode cX9_checksum 127 = .ok (.aload_n 0, 1) := by decide +kernel
theorem dX9_checksum_128 : decode cX9_checksum 128 = .ok (.aload_n 0, 1) := by decide +kernel
theorem dX9_checksum_129 : decode cX9_checksum 129 = .ok (.iload_n 1, 1) := by decide +kernel
theorem dX9_checksum_130 : decode cX9_checksum 130 = .ok (.iload_n 2, 1) := by decide +kernel
theorem dX9_checksum_131 : decode cX9_checksum 131 = .ok (.invokevirtual 202, 3) := by decide +kernel
theorem dX9_checksum_134 : decode cX9_checksum 134 = .ok (.i2l, 1) := by decide +kernel
theorem dX9_checksum_135 : decode cX9_checksum 135 = .ok (.invokevirtual 333, 3) := by decide +kernel
theorem dX9_checksum_138 : decode cX9_checksum 138 = .ok (.iinc 2 1, 3) := by decide +kernel
theorem dX9_checksum_141 : decode cX9_checksum 141 = .ok (.goto (-28), 3) := by decide +kernel
theorem dX9_checksum_144 : decode cX9_checksum 144 = .ok (.iinc 1 1, 3) := by decide +kernel
theorem dX9_checksum_147 : decode cX9_checksum 147 = .ok (.goto (-41), 3) := by decide +kernel
theorem dX9_checksum_150 : decode cX9_checksum 150 = .ok (.iconst 0, 1) := by decide +kernel
theorem dX9_checksum_151 : decode cX9_checksum 151 = .ok (.istore_n 1, 1) := by decide +kernel
theorem dX9_checksum_152 : decode cX9_checksum 152 = .ok (.iload_n 1, 1) := by decide +kernel
theorem dX9_checksum_153 : decode cX9_checksum 153 = .ok (.aload_n 0, 1) := by decide +kernel
theorem dX9_checksum_154 : decode cX9_checksum 154 = .ok (.getfield 7, 3) := by decide +kernel
theorem dX9_checksum_157 : decode cX9_checksum 157 = .ok (.sipush 251, 3) := by decide +kernel
theorem dX9_checksum_160 : decode cX9_checksum 160 = .ok (.iaload, 1) := by decide +kernel
theorem dX9_checksum_161 : decode cX9_checksum 161 = .ok (.if_icmp .ge 24, 3) := by decide +kernel
theorem dX9_checksum_164 : decode cX9_checksum 164 = .ok (.aload_n 0, 1) := by decide +kernel
theorem dX9_checksum_165 : decode cX9_checksum 165 = .ok (.aload_n 0, 1) := by decide +kernel
theorem dX9_checksum_166 : decode cX9_checksum 166 = .ok (.getfield 7, 3) := by decide +kernel
theorem dX9_checksum_169 : decode cX9_checksum 169 = .ok (.sipush 252, 3) := by decide +kernel
theorem dX9_checksum_172 : decode cX9_checksum 172 = .ok (.iload_n 1, 1) := by decide +kernel
theorem dX9_checksum_173 : decode cX9_checksum 173 = .ok (.iadd, 1) := by decide +kernel
theorem dX9_checksum_174 : decode cX9_checksum 174 = .ok (.iaload, 1) := by decide +kernel
theorem dX9_checksum_175 : decode cX9_checksum 175 = .ok (.i2l, 1) := by decide +kernel
theorem dX9_checksum_176 : decode cX9_checksum 176 = .ok (.invokevirtual 333, 3) := by decide +kernel
theorem dX9_checksum_179 : decode cX9_checksum 179 = .ok (.iinc 1 1, 3) := by decide +kernel
theorem dX9_checksum_182 : decode cX9_checksum 182 = .ok (.goto (-30), 3) := by decide +kernel
theorem dX9_checksum_185 : decode cX9_checksum 185 = .ok (.iconst 0, 1) := by decide +kernel
theorem dX9_checksum_186 : decode cX9_checksum 186 = .ok (.istore_n 1, 1) := by decide +kernel
theorem dX9_checksum_187 : decode cX9_checksum 187 = .ok (.iload_n 1, 1) := by decide +kernel
theorem dX9_checksum_188 : decode cX9_checksum 188 = .ok (.iconst 3, 1) := by decide +kernel
theorem dX9_checksum_189 : decode cX9_checksum 189 = .ok (.if_icmp .ge 28, 3) := by decide +kernel
theorem dX9_checksum_192 : decode cX9_checksum 192 = .ok (.aload_n 0, 1) := by decide +kernel
theorem dX9_checksum_193 : decode cX9_checksum 193 = .ok (.aload_n 0, 1) := by decide +kernel
theorem dX9_checksum_194 : decode cX9_checksum 194 = .ok (.getfield 7, 3) := by decide +kernel
theorem dX9_checksum_197 : decode cX9_checksum 197 = .ok (.sipush 264, 3) := by decide +kernel
theorem dX9_checksum_200 : decode cX9_checksum 200 = .ok (.sipush 219, 3) := by decide +kernel
theorem dX9_checksum_203 : decode cX9_checksum 203 = .ok (.iload_n 1, 1) := by decide +kernel
theorem dX9_checksum_204 : decode cX9_checksum 204 = .ok (.imul, 1) := by decide +kernel
theorem dX9_checksum_205 : decode cX9_checksum 205 = .ok (.iadd, 1) := by decide +kernel
theorem dX9_checksum_206 : decode cX9_checksum 206 = .ok (.iaload, 1) := by decide +kernel
theorem dX9_checksum_207 : decode cX9_checksum 207 = .ok (.i2l, 1) := by decide +kernel
theorem dX9_checksum_208 : decode cX9_checksum 208 = .ok (.invokevirtual 333, 3) := by decide +kernel
theorem dX9_checksum_211 : decode cX9_checksum 211 = .ok (.iinc 1 1, 3) := by decide +kernel
theorem dX9_checksum_214 : decode cX9_checksum 214 = .ok (.goto (-27), 3) := by decide +kernel
theorem dX9_checksum_217 : decode cX9_checksum 217 = .ok (.aload_n 0, 1) := by decide +kernel
theorem dX9_checksum_218 : decode cX9_checksum 218 = .ok (.aload_n 0, 1) := by decide +kernel
theorem dX9_checksum_219 : decode cX9_checksum 219 = .ok (.getfield 257, 3) := by decide +kernel
theorem dX9_checksum_222 : decode cX9_checksum 222 = .ok (.i2l, 1) := by decide +kernel
theorem dX9_checksum_223 : decode cX9_checksum 223 = .ok (.invokevirtual 333, 3) := by decide +kernel
theorem dX9_checksum_226 : decode cX9_checksum 226 = .ok (.aload_n 0, 1) := by decide +kernel
theorem dX9_checksum_227 : decode cX9_checksum 227 = .ok (.aload_n 0, 1) := by decide +kernel
theorem dX9_checksum_228 : decode cX9_checksum 228 = .ok (.getfield 54, 3) := by decide +kernel
theorem dX9_checksum_231 : decode cX9_checksum 231 = .ok (.i2l, 1) := by decide +kernel
theorem dX9_checksum_232 : decode cX9_checksum 232 = .ok (.invokevirtual 333, 3) := by decide +kernel
theorem dX9_checksum_235 : decode cX9_checksum 235 = .ok (.aload_n 0, 1) := by decide +kernel
theorem dX9_checksum_236 : decode cX9_checksum 236 = .ok (.getfield 327, 3) := by decide +kernel
theorem dX9_checksum_239 : decode cX9_checksum 239 = .ok (.lreturn, 1) := by decide +kernel
abbrev rmX9_checksum : Room := { frames := 8, cells := 0, slots := 0, locals := 205 }
theorem hdX9_checksum : yX9_checksum.cls ≠ "java/lang/invoke/MethodHandle" ∧ yX9_checksum.cls ≠ "java/lang/invoke/VarHandle" ∧ (parseMethodDescriptor yX9_checksum.desc).map (fun d => d.parameters.length) = some 0 := by decide +kernel
def fX9_checksum_187 (b : Nat) : Nat → Sg → Int32 → Option (Int64 × Sg)
  | 0, _, _ => none
  | n + 1, σ, l1 =>
    if 3 ≤ l1 then
      (fX9_mix σ b ((σ.1 b 5).toInt64)).bind fun σ7 =>
      (fX9_mix σ7 b ((σ7.1 b 2).toInt64)).bind fun σ8 =>
      some (σ8.2 b 26, σ8)
    else
      if ck (264 + (219 * l1)) 921 then
        (fX9_mix σ b ((σ.1 (b + 1) (264 + (219 * l1)).toNatClampNeg).toInt64)).bind fun σ9 =>
        ((fX9_checksum_187 b n) σ9 (l1 + 1))
      else none
theorem bX9_checksum_187 {X : Xc} {K : Kc} (C : MC X K cX9_checksum 3 RX9 rmX9_checksum) (hr : K.meth.sig.returnType = (some .long)) (b : Nat) (hb : moOK b) : ∀ (n : Nat) (σ : Sg) (l1 : Int32), GO X K 3 (fun r => MQl X K r.1 r.2) (fX9_checksum_187 b n σ l1) σ 0 0 187 [some (.ref (X.ad b)), some (.int (l1)), none] [] := by
  intro n
  induction n with
  | zero =>
    intro σ l1
    exact g_none
  | succ n ih =>
    intro σ l1
    unfold fX9_checksum_187
    refine g_iload_n (pc := 187) (i := 1) C dX9_checksum_187 rfl rfl ?_
    refine g_iconst (pc := 188) (v := 3) C dX9_checksum_188 (by decide) ?_
    refine g_icmp_ge (pc := 189) (tgt := 217) C dX9_checksum_189 rfl ?_ ?_
    · refine g_aload_n (pc := 217) (i := 0) C dX9_checksum_217 rfl rfl ?_
      refine g_aload_n (pc := 218) (i := 0) C dX9_checksum_218 rfl rfl ?_
      refine g_geti (pc := 219) (ci := 9) (N := 27) (T := TX9) (j := 5) (Cn := RX9) C rfl inlX9 (Nat.le_of_ble_eq_true rfl) q_49_12 (blk hb 0 rfl) rfl dX9_checksum_219 ?_
      refine g_i2l (pc := 222) C dX9_checksum_222 ?_
      refine g_callVv (pc := 223) (As := [.long ((σ.1 b 5).toInt64)]) C (kX9_mix X σ b ((σ.1 b 5).toInt64) hb) (blk hb 0 rfl) rfl q_59_3 q_59_4 q_59_5 q_1_5 q_59_6 ⟨rfl, hdX9_mix⟩ ⟨Nat.le_of_ble_eq_true rfl, Nat.le_of_ble_eq_true rfl, rfl, rfl⟩ ⟨Nat.zero_le _, Nat.zero_le _⟩ (Nat.le_of_ble_eq_true rfl) rfl rfl dX9_checksum_223 (fun σ7 _ => ?_)
      refine g_aload_n (pc := 226) (i := 0) C dX9_checksum_226 rfl rfl ?_
      refine g_aload_n (pc := 227) (i := 0) C dX9_checksum_227 rfl rfl ?_
      refine g_geti (pc := 228) (ci := 9) (N := 27) (T := TX9) (j := 2) (Cn := RX9) C rfl inlX9 (Nat.le_of_ble_eq_true rfl) q_10_18 (blk hb 0 rfl) rfl dX9_checksum_228 ?_
      refine g_i2l (pc := 231) C dX9_checksum_231 ?_
      refine g_callVv (pc := 232) (As := [.long ((σ7.1 b 2).toInt64)]) C (kX9_mix X σ7 b ((σ7.1 b 2).toInt64) hb) (blk hb 0 rfl) rfl q_59_3 q_59_4 q_59_5 q_1_5 q_59_6 ⟨rfl, hdX9_mix⟩ ⟨Nat.le_of_ble_eq_true rfl, Nat.le_of_ble_eq_true rfl, rfl, rfl⟩ ⟨Nat.zero_le _, Nat.zero_le _⟩ (Nat.le_of_ble_eq_true rfl) rfl rfl dX9_checksum_232 (fun σ8 _ => ?_)
      refine g_aload_n (pc := 235) (i := 0) C dX9_checksum_235 rfl rfl ?_
      refine g_getl (pc := 236) (ci := 9) (N := 27) (T := TX9) (j := 26) (Cn := RX9) C rfl inlX9 (Nat.le_of_ble_eq_true rfl) q_59_2 (blk hb 0 rfl) rfl dX9_checksum_236 ?_
      exact g_lret (pc := 239) C hr dX9_checksum_239 rfl
    · refine g_aload_n (pc := 192) (i := 0) C dX9_checksum_192 rfl rfl ?_
      refine g_aload_n (pc := 193) (i := 0) C dX9_checksum_193 rfl rfl ?_
      refine g_getr (pc := 194) (ci := 9) (N := 27) (T := TX9) (j := 0) (Cn := RX9) (b + 1) C rfl inlX9 (Nat.le_of_ble_eq_true rfl) q_6_2 (blk hb 0 rfl) rfl dX9_checksum_194 ?_
      refine g_sipush (pc := 197) (v := 264) C dX9_checksum_197 (by decide) ?_
      refine g_sipush (pc := 200) (v := 219) C dX9_checksum_200 (by decide) ?_
      refine g_iload_n (pc := 203) (i := 1) C dX9_checksum_203 rfl rfl ?_
      refine g_imul (pc := 204) C dX9_checksum_204 ?_
      refine g_iadd (pc := 205) C dX9_checksum_205 ?_
      refine g_iaload (pc := 206) C (blk hb 1 rfl) dX9_checksum_206 ?_
      refine g_i2l (pc := 207) C dX9_checksum_207 ?_
      refine g_callVv (pc := 208) (As := [.long ((σ.1 (b + 1) (264 + (219 * l1)).toNatClampNeg).toInt64)]) C (kX9_mix X σ b ((σ.1 (b + 1) (264 + (219 * l1)).toNatClampNeg).toInt64) hb) (blk hb 0 rfl) rfl q_59_3 q_59_4 q_59_5 q_1_5 q_59_6 ⟨rfl, hdX9_mix⟩ ⟨Nat.le_of_ble_eq_true rfl, Nat.le_of_ble_eq_true rfl, rfl, rfl⟩ ⟨Nat.zero_le _, Nat.zero_le _⟩ (Nat.le_of_ble_eq_true rfl) rfl rfl dX9_checksum_208 (fun σ9 _ => ?_)
      refine g_iinc (pc := 211) (v := l1 + 1) C dX9_checksum_211 rfl (rfl) (Nat.le_of_ble_eq_true rfl) rfl ?_
      refine g_goto (pc := 214) (tgt := 187) C dX9_checksum_214 rfl ?_
      refine g_keep [true, true, false] ?_
      exact ih σ9 (l1 + 1)
def fX9_checksum_152 (b : Nat) : Nat → Sg → Int32 → Option (Int64 × Sg)
  | 0, _, _ => none
  | n + 1, σ, l1 =>
    if ck 251 921 then
      if (σ.1 (b + 1) (251 : Int32).toNatClampNeg) ≤ l1 then
        (fX9_checksum_187 b FU σ 0)
      else
        if ck (252 + l1) 921 then
          (fX9_mix σ b ((σ.1 (b + 1) (252 + l1).toNatClampNeg).toInt64)).bind fun σ6 =>
          ((fX9_checksum_152 b n) σ6 (l1 + 1))
        else none
    else none
theorem bX9_checksum_152 {X : Xc} {K : Kc} (C : MC X K cX9_checksum 3 RX9 rmX9_checksum) (hr : K.meth.sig.returnType = (some .long)) (b : Nat) (hb : moOK b) : ∀ (n : Nat) (σ : Sg) (l1 : Int32), GO X K 3 (fun r => MQl X K r.1 r.2) (fX9_checksum_152 b n σ l1) σ 0 0 152 [some (.ref (X.ad b)), some (.int (l1)), none] [] := by
  intro n
  induction n with
  | zero =>
    intro σ l1
    exact g_none
  | succ n ih =>
    intro σ l1
    unfold fX9_checksum_152
    refine g_iload_n (pc := 152) (i := 1) C dX9_checksum_152 rfl rfl ?_
    refine g_aload_n (pc := 153) (i := 0) C dX9_checksum_153 rfl rfl ?_
    refine g_getr (pc := 154) (ci := 9) (N := 27) (T := TX9) (j := 0) (Cn := RX9) (b + 1) C rfl inlX9 (Nat.le_of_ble_eq_true rfl) q_6_2 (blk hb 0 rfl) rfl dX9_checksum_154 ?_
    refine g_sipush (pc := 157) (v := 251) C dX9_checksum_157 (by decide) ?_
    refine g_iaload (pc := 160) C (blk hb 1 rfl) dX9_checksum_160 ?_
    refine g_icmp_ge (pc := 161) (tgt := 185) C dX9_checksum_161 rfl ?_ ?_
    · refine g_iconst (pc := 185) (v := 0) C dX9_checksum_185 (by decide) ?_
      refine g_istore_n (pc := 186) (i := 1) C dX9_checksum_186 rfl (Nat.le_of_ble_eq_true rfl) rfl ?_
      refine g_keep [true, true, false] ?_
      exact bX9_checksum_187 C hr b hb FU σ 0
    · refine g_aload_n (pc := 164) (i := 0) C dX9_checksum_164 rfl rfl ?_
      refine g_aload_n (pc := 165) (i := 0) C dX9_checksum_165 rfl rfl ?_
      refine g_getr (pc := 166) (ci := 9) (N := 27) (T := TX9) (j := 0) (Cn := RX9) (b + 1) C rfl inlX9 (Nat.le_of_ble_eq_true rfl) q_6_2 (blk hb 0 rfl) rfl dX9_checksum_166 ?_
      refine g_sipush (pc := 169) (v := 252) C dX9_checksum_169 (by decide) ?_
      refine g_iload_n (pc := 172) (i := 1) C dX9_checksum_172 rfl rfl ?_
      refine g_iadd (pc := 173) C dX9_checksum_173 ?_
      refine g_iaload (pc := 174) C (blk hb 1 rfl) dX9_checksum_174 ?_
      refine g_i2l (pc := 175) C dX9_checksum_175 ?_
      refine g_callVv (pc := 176) (As := [.long ((σ.1 (b + 1) (252 + l1).toNatClampNeg).toInt64)]) C (kX9_mix X σ b ((σ.1 (b + 1) (252 + l1).toNatClampNeg).toInt64) hb) (blk hb 0 rfl) rfl q_59_3 q_59_4 q_59_5 q_1_5 q_59_6 ⟨rfl, hdX9_mix⟩ ⟨Nat.le_of_ble_eq_true rfl, Nat.le_of_ble_eq_true rfl, rfl, rfl⟩ ⟨Nat.zero_le _, Nat.zero_le _⟩ (Nat.le_of_ble_eq_true rfl) rfl rfl dX9_checksum_176 (fun σ6 _ => ?_)
      refine g_iinc (pc := 179) (v := l1 + 1) C dX9_checksum_179 rfl (rfl) (Nat.le_of_ble_eq_true rfl) rfl ?_
      refine g_goto (pc := 182) (tgt := 152) C dX9_checksum_182 rfl ?_
      refine g_keep [true, true, false] ?_
      exact ih σ6 (l1 + 1)
def fX9_checksum_144 (b : Nat) (k106 : Sg → Int32 → Option (Int64 × Sg)) (σ : Sg) (l1 : Int32) : Option (Int64 × Sg) :=
  (k106 σ (l1 + 1))
theorem bX9_checksum_144 {X : Xc} {K : Kc} (C : MC X K cX9_checksum 3 RX9 rmX9_checksum) (hr : K.meth.sig.returnType = (some .long)) (b : Nat) (hb : moOK b){k106 : Sg → Int32 → Option (Int64 × Sg)} (hk106 : ∀ (σ : Sg) (l1 : Int32), GO X K 3 (fun r => MQl X K r.1 r.2) (k106 σ l1) σ 0 0 106 [some (.ref (X.ad b)), some (.int (l1)), none] []) (σ : Sg) (l1 : Int32) : GO X K 3 (fun r => MQl X K r.1 r.2) (fX9_checksum_144 b k106 σ l1) σ 0 0 144 [some (.ref (X.ad b)), some (.int (l1)), none] [] := by
  unfold fX9_checksum_144
  refine g_iinc (pc := 144) (v := l1 + 1) C dX9_checksum_144 rfl (rfl) (Nat.le_of_ble_eq_true rfl) rfl ?_
  refine g_goto (pc := 147) (tgt := 106) C dX9_checksum_147 rfl ?_
  refine g_keep [true, true, false] ?_
  exact hk106 σ (l1 + 1)
def fX9_checksum_113 (b : Nat) (k106 : Sg → Int32 → Option (Int64 × Sg)) : Nat → Sg → Int32 → Int32 → Option (Int64 × Sg)
  | 0, _, _, _ => none
  | n + 1, σ, l1, l2 =>
    if 8 ≤ l2 then
      (fX9_checksum_144 b k106 σ l1)
    else
      (fX9_isWindow σ b l1).bind fun r10 =>
      if r10 = true then
        (fX9_windowTold σ b l1 l2).bind fun r11 =>
        (fX9_mix σ b r11.toInt64).bind fun σ12 =>
        ((fX9_checksum_113 b k106 n) σ12 l1 (l2 + 1))
      else
        (fX9_checksum_144 b k106 σ l1)
theorem bX9_checksum_113 {X : Xc} {K : Kc} (C : MC X K cX9_checksum 3 RX9 rmX9_checksum) (hr : K.meth.sig.returnType = (some .long)) (b : Nat) (hb : moOK b){k106 : Sg → Int32 → Option (Int64 × Sg)} (hk106 : ∀ (σ : Sg) (l1 : Int32), GO X K 3 (fun r => MQl X K r.1 r.2) (k106 σ l1) σ 0 0 106 [some (.ref (X.ad b)), some (.int (l1)), none] []) : ∀ (n : Nat) (σ : Sg) (l1 : Int32) (l2 : Int32), GO X K 3 (fun r => MQl X K r.1 r.2) (fX9_checksum_113 b k106 n σ l1 l2) σ 0 0 113 [some (.ref (X.ad b)), some (.int (l1)), some (.int (l2))] [] := by
  intro n
  induction n with
  | zero =>
    intro σ l1 l2
    exact g_none
  | succ n ih =>
    intro σ l1 l2
    unfold fX9_checksum_113
    refine g_iload_n (pc := 113) (i := 2) C dX9_checksum_113 rfl rfl ?_
    refine g_bipush (pc := 114) (v := 8) C dX9_checksum_114 (by decide) ?_
    refine g_icmp_ge (pc := 116) (tgt := 144) C dX9_checksum_116 rfl ?_ ?_
    · refine g_keep [true, true, false] ?_
      exact bX9_checksum_144 C hr b hb hk106 σ l1
    · refine g_aload_n (pc := 119) (i := 0) C dX9_checksum_119 rfl rfl ?_
      refine g_iload_n (pc := 120) (i := 1) C dX9_checksum_120 rfl rfl ?_
      refine g_callVi (pc := 121) (As := [.int (l1)]) C (kX9_isWindow X σ b l1 hb) (blk hb 0 rfl) rfl q_27_9 q_27_10 q_27_11 q_1_5 q_27_12 ⟨rfl, hdX9_isWindow⟩ ⟨Nat.le_of_ble_eq_true rfl, Nat.le_of_ble_eq_true rfl, rfl, rfl⟩ ⟨Nat.zero_le _, Nat.zero_le _⟩ (Nat.le_of_ble_eq_true rfl) rfl rfl dX9_checksum_121 (fun r10 _ => ?_)
      refine g_ifb_eq (pc := 124) (tgt := 144) C dX9_checksum_124 rfl ?_ ?_
      · refine g_aload_n (pc := 127) (i := 0) C dX9_checksum_127 rfl rfl ?_
        refine g_aload_n (pc := 128) (i := 0) C dX9_checksum_128 rfl rfl ?_
        refine g_iload_n (pc := 129) (i := 1) C dX9_checksum_129 rfl rfl ?_
        refine g_iload_n (pc := 130) (i := 2) C dX9_checksum_130 rfl rfl ?_
        refine g_callVi (pc := 131) (As := [.int (l1), .int (l2)]) C (kX9_windowTold X σ b l1 l2 hb) (blk hb 0 rfl) rfl q_32_15 q_32_16 q_32_17 q_1_5 q_32_18 ⟨rfl, hdX9_windowTold⟩ ⟨Nat.le_of_ble_eq_true rfl, Nat.le_of_ble_eq_true rfl, rfl, rfl⟩ ⟨Nat.zero_le _, Nat.zero_le _⟩ (Nat.le_of_ble_eq_true rfl) rfl rfl dX9_checksum_131 (fun r11 _ => ?_)
        refine g_i2l (pc := 134) C dX9_checksum_134 ?_
        refine g_callVv (pc := 135) (As := [.long (r11.toInt64)]) C (kX9_mix X σ b r11.toInt64 hb) (blk hb 0 rfl) rfl q_59_3 q_59_4 q_59_5 q_1_5 q_59_6 ⟨rfl, hdX9_mix⟩ ⟨Nat.le_of_ble_eq_true rfl, Nat.le_of_ble_eq_true rfl, rfl, rfl⟩ ⟨Nat.zero_le _, Nat.zero_le _⟩ (Nat.le_of_ble_eq_true rfl) rfl rfl dX9_checksum_135 (fun σ12 _ => ?_)
        refine g_iinc (pc := 138) (v := l2 + 1) C dX9_checksum_138 rfl (rfl) (Nat.le_of_ble_eq_true rfl) rfl ?_
        refine g_goto (pc := 141) (tgt := 113) C dX9_checksum_141 rfl ?_
        refine g_keep [true, true, true] ?_
        exact ih σ12 l1 (l2 + 1)
      · refine g_keep [true, true, false] ?_
        exact bX9_checksum_144 C hr b hb hk106 σ l1
def fX9_checksum_106 (b : Nat) : Nat → Sg → Int32 → Option (Int64 × Sg)
  | 0, _, _ => none
  | n + 1, σ, l1 =>
    if 5 ≤ l1 then
      (fX9_checksum_152 b FU σ 0)
    else
      (fX9_checksum_113 b (fX9_checksum_106 b n) FU σ l1 0)
theorem bX9_checksum_106 {X : Xc} {K : Kc} (C : MC X K cX9_checksum 3 RX9 rmX9_checksum) (hr : K.meth.sig.returnType = (some .long)) (b : Nat) (hb : moOK b) : ∀ (n : Nat) (σ : Sg) (l1 : Int32), GO X K 3 (fun r => MQl X K r.1 r.2) (fX9_checksum_106 b n σ l1) σ 0 0 106 [some (.ref (X.ad b)), some (.int (l1)), none] [] := by
  intro n
  induction n with
  | zero =>
    intro σ l1
    exact g_none
  | succ n ih =>
    intro σ l1
    unfold fX9_checksum_106
    refine g_iload_n (pc := 106) (i := 1) C dX9_checksum_106 rfl rfl ?_
    refine g_iconst (pc := 107) (v := 5) C dX9_checksum_107 (by decide) ?_
    refine g_icmp_ge (pc := 108) (tgt := 150) C dX9_checksum_108 rfl ?_ ?_
    · refine g_iconst (pc := 150) (v := 0) C dX9_checksum_150 (by decide) ?_
      refine g_istore_n (pc := 151) (i := 1) C dX9_checksum_151 rfl (Nat.le_of_ble_eq_true rfl) rfl ?_
      refine g_keep [true, true, false] ?_
      exact bX9_checksum_152 C hr b hb FU σ 0
    · refine g_iconst (pc := 111) (v := 0) C dX9_checksum_111 (by decide) ?_
      refine g_istore_n (pc := 112) (i := 2) C dX9_checksum_112 rfl (Nat.le_of_ble_eq_true rfl) rfl ?_
      refine g_keep [true, true, true] ?_
      exact bX9_checksum_113 C hr b hb ih FU σ l1 0
def fX9_checksum_98 (b : Nat) (k27 : Sg → Int32 → Option (Int64 × Sg)) (σ : Sg) (l1 : Int32) : Option (Int64 × Sg) :=
  (k27 σ (l1 + 1))
theorem bX9_checksum_98 {X : Xc} {K : Kc} (C : MC X K cX9_checksum 3 RX9 rmX9_checksum) (hr : K.meth.sig.returnType = (some .long)) (b : Nat) (hb : moOK b){k27 : Sg → Int32 → Option (Int64 × Sg)} (hk27 : ∀ (σ : Sg) (l1 : Int32), GO X K 3 (fun r => MQl X K r.1 r.2) (k27 σ l1) σ 0 0 27 [some (.ref (X.ad b)), some (.int (l1)), none] []) (σ : Sg) (l1 : Int32) : GO X K 3 (fun r => MQl X K r.1 r.2) (fX9_checksum_98 b k27 σ l1) σ 0 0 98 [some (.ref (X.ad b)), some (.int (l1)), none] [] := by
  unfold fX9_checksum_98
  refine g_iinc (pc := 98) (v := l1 + 1) C dX9_checksum_98 rfl (rfl) (Nat.le_of_ble_eq_true rfl) rfl ?_
  refine g_goto (pc := 101) (tgt := 27) C dX9_checksum_101 rfl ?_
  refine g_keep [true, true, false] ?_
  exact hk27 σ (l1 + 1)
def fX9_checksum_68 (b : Nat) (k27 : Sg → Int32 → Option (Int64 × Sg)) : Nat → Sg → Int32 → Int32 → Option (Int64 × Sg)
  | 0, _, _, _ => none
  | n + 1, σ, l1, l2 =>
    if 4 ≤ l2 then
      (fX9_checksum_98 b k27 σ l1)
    else
      (fX9_isPane σ b l1).bind fun r16 =>
      if r16 = true then
        (fX9_cornerOf σ b l1 l2).bind fun r17 =>
        (fX9_mix σ b r17.toInt64).bind fun σ18 =>
        ((fX9_checksum_68 b k27 n) σ18 l1 (l2 + 1))
      else
        (fX9_checksum_98 b k27 σ l1)
theorem bX9_checksum_68 {X : Xc} {K : Kc} (C : MC X K cX9_checksum 3 RX9 rmX9_checksum) (hr : K.meth.sig.returnType = (some .long)) (b : Nat) (hb : moOK b){k27 : Sg → Int32 → Option (Int64 × Sg)} (hk27 : ∀ (σ : Sg) (l1 : Int32), GO X K 3 (fun r => MQl X K r.1 r.2) (k27 σ l1) σ 0 0 27 [some (.ref (X.ad b)), some (.int (l1)), none] []) : ∀ (n : Nat) (σ : Sg) (l1 : Int32) (l2 : Int32), GO X K 3 (fun r => MQl X K r.1 r.2) (fX9_checksum_68 b k27 n σ l1 l2) σ 0 0 68 [some (.ref (X.ad b)), some (.int (l1)), some (.int (l2))] [] := by
  intro n
  induction n with
  | zero =>
    intro σ l1 l2
    exact g_none
  | succ n ih =>
    intro σ l1 l2
    unfold fX9_checksum_68
    refine g_iload_n (pc := 68) (i := 2) C dX9_checksum_68 rfl rfl ?_
    refine g_iconst (pc := 69) (v := 4) C dX9_checksum_69 (by decide) ?_
    refine g_icmp_ge (pc := 70) (tgt := 98) C dX9_checksum_70 rfl ?_ ?_
    · refine g_keep [true, true, false] ?_
      exact bX9_checksum_98 C hr b hb hk27 σ l1
    · refine g_aload_n (pc := 73) (i := 0) C dX9_checksum_73 rfl rfl ?_
      refine g_iload_n (pc := 74) (i := 1) C dX9_checksum_74 rfl rfl ?_
      refine g_callVi (pc := 75) (As := [.int (l1)]) C (kX9_isPane X σ b l1 hb) (blk hb 0 rfl) rfl q_19_16 q_19_17 q_19_18 q_1_5 q_19_19 ⟨rfl, hdX9_isPane⟩ ⟨Nat.le_of_ble_eq_true rfl, Nat.le_of_ble_eq_true rfl, rfl, rfl⟩ ⟨Nat.zero_le _, Nat.zero_le _⟩ (Nat.le_of_ble_eq_true rfl) rfl rfl dX9_checksum_75 (fun r16 _ => ?_)
      refine g_ifb_eq (pc := 78) (tgt := 98) C dX9_checksum_78 rfl ?_ ?_
      · refine g_aload_n (pc := 81) (i := 0) C dX9_checksum_81 rfl rfl ?_
        refine g_aload_n (pc := 82) (i := 0) C dX9_checksum_82 rfl rfl ?_
        refine g_iload_n (pc := 83) (i := 1) C dX9_checksum_83 rfl rfl ?_
        refine g_iload_n (pc := 84) (i := 2) C dX9_checksum_84 rfl rfl ?_
        refine g_callVi (pc := 85) (As := [.int (l1), .int (l2)]) C (kX9_cornerOf X σ b l1 l2 hb) (blk hb 0 rfl) rfl q_28_11 q_28_12 q_28_13 q_1_5 q_28_14 ⟨rfl, hdX9_cornerOf⟩ ⟨Nat.le_of_ble_eq_true rfl, Nat.le_of_ble_eq_true rfl, rfl, rfl⟩ ⟨Nat.zero_le _, Nat.zero_le _⟩ (Nat.le_of_ble_eq_true rfl) rfl rfl dX9_checksum_85 (fun r17 _ => ?_)
        refine g_i2l (pc := 88) C dX9_checksum_88 ?_
        refine g_callVv (pc := 89) (As := [.long (r17.toInt64)]) C (kX9_mix X σ b r17.toInt64 hb) (blk hb 0 rfl) rfl q_59_3 q_59_4 q_59_5 q_1_5 q_59_6 ⟨rfl, hdX9_mix⟩ ⟨Nat.le_of_ble_eq_true rfl, Nat.le_of_ble_eq_true rfl, rfl, rfl⟩ ⟨Nat.zero_le _, Nat.zero_le _⟩ (Nat.le_of_ble_eq_true rfl) rfl rfl dX9_checksum_89 (fun σ18 _ => ?_)
        refine g_iinc (pc := 92) (v := l2 + 1) C dX9_checksum_92 rfl (rfl) (Nat.le_of_ble_eq_true rfl) rfl ?_
        refine g_goto (pc := 95) (tgt := 68) C dX9_checksum_95 rfl ?_
        refine g_keep [true, true, true] ?_
        exact ih σ18 l1 (l2 + 1)
      · refine g_keep [true, true, false] ?_
        exact bX9_checksum_98 C hr b hb hk27 σ l1
def fX9_checksum_66 (b : Nat) (k27 : Sg → Int32 → Option (Int64 × Sg)) (σ : Sg) (l1 : Int32) : Option (Int64 × Sg) :=
  (fX9_checksum_68 b k27 FU σ l1 0)
theorem bX9_checksum_66 {X : Xc} {K : Kc} (C : MC X K cX9_checksum 3 RX9 rmX9_checksum) (hr : K.meth.sig.returnType = (some .long)) (b : Nat) (hb : moOK b){k27 : Sg → Int32 → Option (Int64 × Sg)} (hk27 : ∀ (σ : Sg) (l1 : Int32), GO X K 3 (fun r => MQl X K r.1 r.2) (k27 σ l1) σ 0 0 27 [some (.ref (X.ad b)), some (.int (l1)), none] []) (σ : Sg) (l1 : Int32) : GO X K 3 (fun r => MQl X K r.1 r.2) (fX9_checksum_66 b k27 σ l1) σ 0 0 66 [some (.ref (X.ad b)), some (.int (l1)), none] [] := by
  unfold fX9_checksum_66
  refine g_iconst (pc := 66) (v := 0) C dX9_checksum_66 (by decide) ?_
  refine g_istore_n (pc := 67) (i := 2) C dX9_checksum_67 rfl (Nat.le_of_ble_eq_true rfl) rfl ?_
  refine g_keep [true, true, true] ?_
  exact bX9_checksum_68 C hr b hb hk27 FU σ l1 0
def fX9_checksum_35 (b : Nat) (k27 : Sg → Int32 → Option (Int64 × Sg)) : Nat → Sg → Int32 → Int32 → Option (Int64 × Sg)
  | 0, _, _, _ => none
  | n + 1, σ, l1, l2 =>
    if 9 ≤ l2 then
      (fX9_checksum_66 b k27 σ l1)
    else
      (fX9_isPane σ b l1).bind fun r13 =>
      if r13 = true then
        (fX9_told σ b l1 l2).bind fun r14 =>
        (fX9_mix σ b r14.toInt64).bind fun σ15 =>
        ((fX9_checksum_35 b k27 n) σ15 l1 (l2 + 1))
      else
        (fX9_checksum_66 b k27 σ l1)
theorem bX9_checksum_35 {X : Xc} {K : Kc} (C : MC X K cX9_checksum 3 RX9 rmX9_checksum) (hr : K.meth.sig.returnType = (some .long)) (b : Nat) (hb : moOK b){k27 : Sg → Int32 → Option (Int64 × Sg)} (hk27 : ∀ (σ : Sg) (l1 : Int32), GO X K 3 (fun r => MQl X K r.1 r.2) (k27 σ l1) σ 0 0 27 [some (.ref (X.ad b)), some (.int (l1)), none] []) : ∀ (n : Nat) (σ : Sg) (l1 : Int32) (l2 : Int32), GO X K 3 (fun r => MQl X K r.1 r.2) (fX9_checksum_35 b k27 n σ l1 l2) σ 0 0 35 [some (.ref (X.ad b)), some (.int (l1)), some (.int (l2))] [] := by
  intro n
  induction n with
  | zero =>
    intro σ l1 l2
    exact g_none
  | succ n ih =>
    intro σ l1 l2
    unfold fX9_checksum_35
    refine g_iload_n (pc := 35) (i := 2) C dX9_checksum_35 rfl rfl ?_
    refine g_bipush (pc := 36) (v := 9) C dX9_checksum_36 (by decide) ?_
    refine g_icmp_ge (pc := 38) (tgt := 66) C dX9_checksum_38 rfl ?_ ?_
    · refine g_keep [true, true, false] ?_
      exact bX9_checksum_66 C hr b hb hk27 σ l1
    · refine g_aload_n (pc := 41) (i := 0) C dX9_checksum_41 rfl rfl ?_
      refine g_iload_n (pc := 42) (i := 1) C dX9_checksum_42 rfl rfl ?_
      refine g_callVi (pc := 43) (As := [.int (l1)]) C (kX9_isPane X σ b l1 hb) (blk hb 0 rfl) rfl q_19_16 q_19_17 q_19_18 q_1_5 q_19_19 ⟨rfl, hdX9_isPane⟩ ⟨Nat.le_of_ble_eq_true rfl, Nat.le_of_ble_eq_true rfl, rfl, rfl⟩ ⟨Nat.zero_le _, Nat.zero_le _⟩ (Nat.le_of_ble_eq_true rfl) rfl rfl dX9_checksum_43 (fun r13 _ => ?_)
      refine g_ifb_eq (pc := 46) (tgt := 66) C dX9_checksum_46 rfl ?_ ?_
      · refine g_aload_n (pc := 49) (i := 0) C dX9_checksum_49 rfl rfl ?_
        refine g_aload_n (pc := 50) (i := 0) C dX9_checksum_50 rfl rfl ?_
        refine g_iload_n (pc := 51) (i := 1) C dX9_checksum_51 rfl rfl ?_
        refine g_iload_n (pc := 52) (i := 2) C dX9_checksum_52 rfl rfl ?_
        refine g_callVi (pc := 53) (As := [.int (l1), .int (l2)]) C (kX9_told X σ b l1 l2 hb) (blk hb 0 rfl) rfl q_25_13 q_25_14 q_25_15 q_1_5 q_25_16 ⟨rfl, hdX9_told⟩ ⟨Nat.le_of_ble_eq_true rfl, Nat.le_of_ble_eq_true rfl, rfl, rfl⟩ ⟨Nat.zero_le _, Nat.zero_le _⟩ (Nat.le_of_ble_eq_true rfl) rfl rfl dX9_checksum_53 (fun r14 _ => ?_)
        refine g_i2l (pc := 56) C dX9_checksum_56 ?_
        refine g_callVv (pc := 57) (As := [.long (r14.toInt64)]) C (kX9_mix X σ b r14.toInt64 hb) (blk hb 0 rfl) rfl q_59_3 q_59_4 q_59_5 q_1_5 q_59_6 ⟨rfl, hdX9_mix⟩ ⟨Nat.le_of_ble_eq_true rfl, Nat.le_of_ble_eq_true rfl, rfl, rfl⟩ ⟨Nat.zero_le _, Nat.zero_le _⟩ (Nat.le_of_ble_eq_true rfl) rfl rfl dX9_checksum_57 (fun σ15 _ => ?_)
        refine g_iinc (pc := 60) (v := l2 + 1) C dX9_checksum_60 rfl (rfl) (Nat.le_of_ble_eq_true rfl) rfl ?_
        refine g_goto (pc := 63) (tgt := 35) C dX9_checksum_63 rfl ?_
        refine g_keep [true, true, true] ?_
        exact ih σ15 l1 (l2 + 1)
      · refine g_keep [true, true, false] ?_
        exact bX9_checksum_66 C hr b hb hk27 σ l1
def fX9_checksum_27 (b : Nat) : Nat → Sg → Int32 → Option (Int64 × Sg)
  | 0, _, _ => none
  | n + 1, σ, l1 =>
    if 12 ≤ l1 then
      (fX9_checksum_106 b FU σ 0)
    else
      (fX9_checksum_35 b (fX9_checksum_27 b n) FU σ l1 0)
theorem bX9_checksum_27 {X : Xc} {K : Kc} (C : MC X K cX9_checksum 3 RX9 rmX9_checksum) (hr : K.meth.sig.returnType = (some .long)) (b : Nat) (hb : moOK b) : ∀ (n : Nat) (σ : Sg) (l1 : Int32), GO X K 3 (fun r => MQl X K r.1 r.2) (fX9_checksum_27 b n σ l1) σ 0 0 27 [some (.ref (X.ad b)), some (.int (l1)), none] [] := by
  intro n
  induction n with
  | zero =>
    intro σ l1
    exact g_none
  | succ n ih =>
    intro σ l1
    unfold fX9_checksum_27
    refine g_iload_n (pc := 27) (i := 1) C dX9_checksum_27 rfl rfl ?_
    refine g_bipush (pc := 28) (v := 12) C dX9_checksum_28 (by decide) ?_
    refine g_icmp_ge (pc := 30) (tgt := 104) C dX9_checksum_30 rfl ?_ ?_
    · refine g_iconst (pc := 104) (v := 0) C dX9_checksum_104 (by decide) ?_
      refine g_istore_n (pc := 105) (i := 1) C dX9_checksum_105 rfl (Nat.le_of_ble_eq_true rfl) rfl ?_
      refine g_keep [true, true, false] ?_
      exact bX9_checksum_106 C hr b hb FU σ 0
    · refine g_iconst (pc := 33) (v := 0) C dX9_checksum_33 (by decide) ?_
      refine g_istore_n (pc := 34) (i := 2) C dX9_checksum_34 rfl (Nat.le_of_ble_eq_true rfl) rfl ?_
      refine g_keep [true, true, true] ?_
      exact bX9_checksum_35 C hr b hb ih FU σ l1 0
def fX9_checksum (σ : Sg) (b : Nat) : Option (Int64 × Sg) :=
  nm (su σ b 3 0) fun σ1 =>
  nm (sul σ1 b 26 (18323 : Int64)) fun σ2 =>
  (fX9_lays σ2 b).bind fun σ3 =>
  (fX9_paneSet σ3 b).bind fun r4 =>
  (fX9_mix σ3 b r4.toInt64).bind fun σ5 =>
  (fX9_checksum_27 b FU σ5 0)
theorem kX9_checksum (X : Xc) (σ : Sg) (b : Nat) (hb : moOK b) : ∀ r, fX9_checksum σ b = some r → Met X.l yX9_checksum (wsM yX9_checksum cX9_checksum 3 (some .long)) rmX9_checksum (va_Pc [.ref (X.ad b)] (PW X σ)) (Ql X r.1 r.2) 0 0 X.A := by
  refine mt_of (own := RX9) (lo := [some (.ref (X.ad b)), none, none]) (by decide) rfl (Nat.le_of_ble_eq_true rfl) rfl (fun K C hr => ?_)
  unfold fX9_checksum
  refine g_aload_n (pc := 0) (i := 0) C dX9_checksum_0 rfl rfl ?_
  refine g_iconst (pc := 1) (v := 0) C dX9_checksum_1 (by decide) ?_
  refine g_puti (pc := 2) (ci := 9) (N := 27) (T := TX9) (j := 3) (Cn := RX9) C rfl inlX9 tyX9_ok nmX9 (Nat.le_of_ble_eq_true rfl) q_10_13 (blk hb 0 rfl) rfl rfl rfl dX9_checksum_2 ?_
  refine g_nms (fun σ1 => ?_)
  refine g_aload_n (pc := 5) (i := 0) C dX9_checksum_5 rfl rfl ?_
  refine g_ldc2 (pc := 6) (v := 18323) C q_59_1 dX9_checksum_6 ?_
  refine g_putl (pc := 9) (ci := 9) (N := 27) (T := TX9) (j := 26) (Cn := RX9) C rfl inlX9 tyX9_ok nmX9 (Nat.le_of_ble_eq_true rfl) q_59_2 (blk hb 0 rfl) rfl rfl rfl dX9_checksum_9 ?_
  refine g_nms (fun σ2 => ?_)
  refine g_aload_n (pc := 12) (i := 0) C dX9_checksum_12 rfl rfl ?_
  refine g_callVv (pc := 13) (As := []) C (kX9_lays X σ2 b hb) (blk hb 0 rfl) rfl q_26_21 q_26_22 q_26_23 q_1_5 q_27_0 ⟨rfl, hdX9_lays⟩ ⟨Nat.le_of_ble_eq_true rfl, Nat.le_of_ble_eq_true rfl, rfl, rfl⟩ ⟨Nat.zero_le _, Nat.zero_le _⟩ (Nat.le_of_ble_eq_true rfl) rfl rfl dX9_checksum_13 (fun σ3 _ => ?_)
  refine g_aload_n (pc := 16) (i := 0) C dX9_checksum_16 rfl rfl ?_
  refine g_aload_n (pc := 17) (i := 0) C dX9_checksum_17 rfl rfl ?_
  refine g_callVi (pc := 18) (As := []) C (kX9_paneSet X σ3 b hb) (blk hb 0 rfl) rfl q_23_8 q_23_9 q_23_10 q_1_5 q_23_11 ⟨rfl, hdX9_paneSet⟩ ⟨Nat.le_of_ble_eq_true rfl, Nat.le_of_ble_eq_true rfl, rfl, rfl⟩ ⟨Nat.zero_le _, Nat.zero_le _⟩ (Nat.le_of_ble_eq_true rfl) rfl rfl dX9_checksum_18 (fun r4 _ => ?_)
  refine g_i2l (pc := 21) C dX9_checksum_21 ?_
  refine g_callVv (pc := 22) (As := [.long (r4.toInt64)]) C (kX9_mix X σ3 b r4.toInt64 hb) (blk hb 0 rfl) rfl q_59_3 q_59_4 q_59_5 q_1_5 q_59_6 ⟨rfl, hdX9_mix⟩ ⟨Nat.le_of_ble_eq_true rfl, Nat.le_of_ble_eq_true rfl, rfl, rfl⟩ ⟨Nat.zero_le _, Nat.zero_le _⟩ (Nat.le_of_ble_eq_true rfl) rfl rfl dX9_checksum_22 (fun σ5 _ => ?_)
  refine g_iconst (pc := 25) (v := 0) C dX9_checksum_25 (by decide) ?_
  refine g_istore_n (pc := 26) (i := 1) C dX9_checksum_26 rfl (Nat.le_of_ble_eq_true rfl) rfl ?_
  refine g_keep [true, true, false] ?_
  exact bX9_checksum_27 C hr b hb FU σ5 0

/-! by program out of the class files: each method as a function over the store, and its contract by a walk -/
theorem dX9_refused_0 : decode cX9_refused 0 = .ok (.aload_n 0, 1) := by decide +kernel
theorem dX9_refused_1 : decode cX9_refused 1 = .ok (.iload_n 1, 1) := by decide +kernel
theorem dX9_refused_2 : decode cX9_refused 2 = .ok (.putfield 50, 3) := by decide +kernel
theorem dX9_refused_5 : decode cX9_refused 5 = .ok (.iload_n 1, 1) := by decide +kernel
theorem dX9_refused_6 : decode cX9_refused 6 = .ok (.ifCond .le 7, 3) := by decide +kernel
theorem dX9_refused_9 : decode cX9_refused 9 = .ok (.iconst 1, 1) := by decide +kernel
theorem dX9_refused_10 : decode cX9_refused 10 = .ok (.goto 4, 3) := by decide +kernel
theorem dX9_refused_13 : decode cX9_refused 13 = .ok (.iconst 0, 1) := by decide +kernel
theorem dX9_refused_14 : decode cX9_refused 14 = .ok (.ireturn, 1) := by decide +kernel
abbrev rmX9_refused : Room := { frames := 0, cells := 0, slots := 0, locals := 0 }
theorem hdX9_refused : yX9_refused.cls ≠ "java/lang/invoke/MethodHandle" ∧ yX9_refused.cls ≠ "java/lang/invoke/VarHandle" ∧ (parseMethodDescriptor yX9_refused.desc).map (fun d => d.parameters.length) = some 1 := by decide +kernel
def fX9_refused (σ : Sg) (b : Nat) (p1 : Int32) : Option (Bool × Sg) :=
  nm (su σ b 3 p1) fun σ1 =>
  if p1 ≤ 0 then
    some (false, σ1)
  else
    some (true, σ1)
theorem kX9_refused (X : Xc) (σ : Sg) (b : Nat) (p1 : Int32) (hb : moOK b) : ∀ r, fX9_refused σ b p1 = some r → Met X.l yX9_refused (wsM yX9_refused cX9_refused 2 (some .boolean)) rmX9_refused (va_Pc [.ref (X.ad b), .int p1] (PW X σ)) (Qi X (b2i r.1) r.2) 0 0 X.A := by
  refine mt_of (own := RX9) (lo := [some (.ref (X.ad b)), some (.int (p1))]) (by decide) rfl (Nat.le_of_ble_eq_true rfl) rfl (fun K C hr => ?_)
  unfold fX9_refused
  refine g_aload_n (pc := 0) (i := 0) C dX9_refused_0 rfl rfl ?_
  refine g_iload_n (pc := 1) (i := 1) C dX9_refused_1 rfl rfl ?_
  refine g_puti (pc := 2) (ci := 9) (N := 27) (T := TX9) (j := 3) (Cn := RX9) C rfl inlX9 tyX9_ok nmX9 (Nat.le_of_ble_eq_true rfl) q_10_13 (blk hb 0 rfl) rfl rfl rfl dX9_refused_2 ?_
  refine g_nms (fun σ1 => ?_)
  refine g_iload_n (pc := 5) (i := 1) C dX9_refused_5 rfl rfl ?_
  refine g_if_le (pc := 6) (tgt := 13) C dX9_refused_6 rfl ?_ ?_
  · refine g_iconst (pc := 13) (v := 0) C dX9_refused_13 (by decide) ?_
    exact g_zret (pc := 14) C hr dX9_refused_14 rfl
  · refine g_iconst (pc := 9) (v := 1) C dX9_refused_9 (by decide) ?_
    refine g_goto (pc := 10) (tgt := 14) C dX9_refused_10 rfl ?_
    exact g_zret (pc := 14) C hr dX9_refused_14 rfl
theorem dX9_within_0 : decode cX9_within 0 = .ok (.iload_n 0, 1) := by decide +kernel
theorem dX9_within_1 : decode cX9_within 1 = .ok (.iload_n 1, 1) := by decide +kernel
theorem dX9_within_2 : decode cX9_within 2 = .ok (.if_icmp .lt 12, 3) := by decide +kernel
theorem dX9_within_5 : decode cX9_within 5 = .ok (.iload_n 0, 1) := by decide +kernel
theorem dX9_within_6 : decode cX9_within 6 = .ok (.iload_n 2, 1) := by decide +kernel
theorem dX9_within_7 : decode cX9_within 7 = .ok (.if_icmp .gt 7, 3) := by decide +kernel
theorem dX9_within_10 : decode cX9_within 10 = .ok (.iconst 1, 1) := by decide +kernel
theorem dX9_within_11 : decode cX9_within 11 = .ok (.goto 4, 3) := by decide +kernel
theorem dX9_within_14 : decode cX9_within 14 = .ok (.iconst 0, 1) := by decide +kernel
theorem dX9_within_15 : decode cX9_within 15 = .ok (.ireturn, 1) := by decide +kernel
abbrev rmX9_within : Room := { frames := 0, cells := 0, slots := 0, locals := 0 }
theorem hdX9_within : yX9_within.cls ≠ "java/lang/invoke/MethodHandle" ∧ yX9_within.cls ≠ "java/lang/invoke/VarHandle" ∧ (parseMethodDescriptor yX9_within.desc).map (fun d => d.parameters.length) = some 3 := by decide +kernel
def fX9_within (σ : Sg) (p0 : Int32) (p1 : Int32) (p2 : Int32) : Option Bool :=
  if p0 < p1 then
    some false
  else
    if p2 < p0 then
      some false
    else
      some true
theorem kX9_within (X : Xc) (σ : Sg) (p0 : Int32) (p1 : Int32) (p2 : Int32) : ∀ r, fX9_within σ p0 p1 p2 = some r → Met X.l yX9_within (wsM yX9_within cX9_within 3 (some .boolean)) rmX9_within (va_Pc [.int p0, .int p1, .int p2] (PW X σ)) (Qi X (b2i r) σ) 0 0 X.A := by
  refine mt_of (own := RX9) (lo := [some (.int (p0)), some (.int (p1)), some (.int (p2))]) (by decide) rfl (Nat.le_of_ble_eq_true rfl) rfl (fun K C hr => ?_)
  unfold fX9_within
  refine g_iload_n (pc := 0) (i := 0) C dX9_within_0 rfl rfl ?_
  refine g_iload_n (pc := 1) (i := 1) C dX9_within_1 rfl rfl ?_
  refine g_icmp_lt (pc := 2) (tgt := 14) C dX9_within_2 rfl ?_ ?_
  · refine g_iconst (pc := 14) (v := 0) C dX9_within_14 (by decide) ?_
    exact g_zret (pc := 15) C hr dX9_within_15 rfl
  · refine g_iload_n (pc := 5) (i := 0) C dX9_within_5 rfl rfl ?_
    refine g_iload_n (pc := 6) (i := 2) C dX9_within_6 rfl rfl ?_
    refine g_icmp_gt (pc := 7) (tgt := 14) C dX9_within_7 rfl ?_ ?_
    · refine g_iconst (pc := 14) (v := 0) C dX9_within_14 (by decide) ?_
      exact g_zret (pc := 15) C hr dX9_within_15 rfl
    · refine g_iconst (pc := 10) (v := 1) C dX9_within_10 (by decide) ?_
      refine g_goto (pc := 11) (tgt := 15) C dX9_within_11 rfl ?_
      exact g_zret (pc := 15) C hr dX9_within_15 rfl
theorem dX9_saves_0 : decode cX9_saves 0 = .ok (.aload_n 0, 1) := by decide +kernel
theorem dX9_saves_1 : decode cX9_saves 1 = .ok (.getfield 54, 3) := by decide +kernel
theorem dX9_saves_4 : decode cX9_saves 4 = .ok (.iconst 5, 1) := by decide +kernel
theorem dX9_saves_5 : decode cX9_saves 5 = .ok (.if_icmp .ne 44, 3) := by decide +kernel
theorem dX9_saves_8 : decode cX9_saves 8 = .ok (.iconst 0, 1) := by decide +kernel
theorem dX9_saves_9 : decode cX9_saves 9 = .ok (.istore_n 1, 1) := by decide +kernel
theorem dX9_saves_10 : decode cX9_saves 10 = .ok (.iload_n 1, 1) := by decide +kernel
theorem dX9_saves_11 : decode cX9_saves 11 = .ok (.sipush 3684, 3) := by decide +kernel
theorem dX9_saves_14 : decode cX9_saves 14 = .ok (.if_icmp .ge 25, 3) := by decide +kernel
theorem dX9_saves_17 : decode cX9_saves 17 = .ok (.aload_n 0, 1) := by decide +kernel
theorem dX9_saves_18 : decode cX9_saves 18 = .ok (.getfield 13, 3) := by decide +kernel
theorem dX9_saves_21 : decode cX9_saves 21 = .ok (.iload_n 1, 1) := by decide +kernel
theorem dX9_saves_22 : decode cX9_saves 22 = .ok (.aload_n 0, 1) := by decide +kernel
theorem dX9_saves_23 : decode cX9_saves 23 = .ok (.getfield 13, 3) := by decide +kernel
theorem dX9_saves_26 : decode cX9_saves 26 = .ok (.iload_n 1, 1) := by decide +kernel
theorem dX9_saves_27 : decode cX9_saves 27 = .ok (.sipush 921, 3) := by decide +kernel
theorem dX9_saves_30 : decode cX9_saves 30 = .ok (.iadd, 1) := by decide +kernel
theorem dX9_saves_31 : decode cX9_saves 31 = .ok (.iaload, 1) := by decide +kernel
theorem dX9_saves_32 : decode cX9_saves 32 = .ok (.iastore, 1) := by decide +kernel
theorem dX9_saves_33 : decode cX9_saves 33 = .ok (.iinc 1 1, 3) := by decide +kernel
theorem dX9_saves_36 : decode cX9_saves 36 = .ok (.goto (-26), 3) := by decide +kernel
theorem dX9_saves_39 : decode cX9_saves 39 = .ok (.aload_n 0, 1) := by decide +kernel
theorem dX9_saves_40 : decode cX9_saves 40 = .ok (.dup, 1) := by decide +kernel
theorem dX9_saves_41 : decode cX9_saves 41 = .ok (.getfield 54, 3) := by decide +kernel
theorem dX9_saves_44 : decode cX9_saves 44 = .ok (.iconst 1, 1) := by decide +kernel
theorem dX9_saves_45 : decode cX9_saves 45 = .ok (.isub, 1) := by decide +kernel
theorem dX9_saves_46 : decode cX9_saves 46 = .ok (.putfield 54, 3) := by decide +kernel
theorem dX9_saves_49 : decode cX9_saves 49 = .ok (.iconst 0, 1) := by decide +kernel
theorem dX9_saves_50 : decode cX9_saves 50 = .ok (.istore_n 1, 1) := by decide +kernel
theorem dX9_saves_51 : decode cX9_saves 51 = .ok (.iload_n 1, 1) := by decide +kernel
theorem dX9_saves_52 : decode cX9_saves 52 = .ok (.sipush 921, 3) := by decide +kernel
theorem dX9_saves_55 : decode cX9_saves 55 = .ok (.if_icmp .ge 30, 3) := by decide +kernel
theorem dX9_saves_58 : decode cX9_saves 58 = .ok (.aload_n 0, 1) := by decide +kernel
theorem dX9_saves_59 : decode cX9_saves 59 = .ok (.getfield 13, 3) := by decide +kernel
theorem dX9_saves_62 : decode cX9_saves 62 = .ok (.sipush 921, 3) := by decide +kernel
theorem dX9_saves_65 : decode cX9_saves 65 = .ok (.aload_n 0, 1) := by decide +kernel
theorem dX9_saves_66 : decode cX9_saves 66 = .ok (.getfield 54, 3) := by decide +kernel
theorem dX9_saves_69 : decode cX9_saves 69 = .ok (.imul, 1) := by decide +kernel
theorem dX9_saves_70 : decode cX9_saves 70 = .ok (.iload_n 1, 1) := by decide +kernel
theorem dX9_saves_71 : decode cX9_saves 71 = .ok (.iadd, 1) := by decide +kernel
theorem dX9_saves_72 : decode cX9_saves 72 = .ok (.aload_n 0, 1) := by decide +kernel
theorem dX9_saves_73 : decode cX9_saves 73 = .ok (.getfield 7, 3) := by decide +kernel
theorem dX9_saves_76 : decode cX9_saves 76 = .ok (.iload_n 1, 1) := by decide +kernel
theorem dX9_saves_77 : decode cX9_saves 77 = .ok (.iaload, 1) := by decide +kernel
theorem dX9_saves_78 : decode cX9_saves 78 = .ok (.iastore, 1) := by decide +kernel
theorem dX9_saves_79 : decode cX9_saves 79 = .ok (.iinc 1 1, 3) := by decide +kernel
theorem dX9_saves_82 : decode cX9_saves 82 = .ok (.goto (-31), 3) := by decide +kernel
theorem dX9_saves_85 : decode cX9_saves 85 = .ok (.aload_n 0, 1) := by decide +kernel
theorem dX9_saves_86 : decode cX9_saves 86 = .ok (.dup, 1) := by decide +kernel
theorem dX9_saves_87 : decode cX9_saves 87 = .ok (.getfield 54, 3) := by decide +kernel
theorem dX9_saves_90 : decode cX9_saves 90 = .ok (.iconst 1, 1) := by decide +kernel
theorem dX9_saves_91 : decode cX9_saves 91 = .ok (.iadd, 1) := by decide +kernel
theorem dX9_saves_92 : decode cX9_saves 92 = .ok (.putfield 54, 3) := by decide +kernel
theorem dX9_saves_95 : decode cX9_saves 95 = .ok (.return_, 1) := by decide +kernel
abbrev rmX9_saves : Room := { frames := 0, cells := 0, slots := 0, locals := 0 }
theorem hdX9_saves : yX9_saves.cls ≠ "java/lang/invoke/MethodHandle" ∧ yX9_saves.cls ≠ "java/lang/invoke/VarHandle" ∧ (parseMethodDescriptor yX9_saves.desc).map (fun d => d.parameters.length) = some 0 := by decide +kernel
def fX9_saves_51 (b : Nat) : Nat → Sg → Int32 → Option Sg
  | 0, _, _ => none
  | n + 1, σ, l1 =>
    if 921 ≤ l1 then
      nm (su σ b 2 ((σ.1 b 2) + 1)) fun σ1 =>
      some σ1
    else
      if ck l1 921 then
        if ck ((921 * (σ.1 b 2)) + l1) 4605 then
          nm (su σ (b + 2) ((921 * (σ.1 b 2)) + l1).toNatClampNeg (σ.1 (b + 1) l1.toNatClampNeg)) fun σ2 =>
          ((fX9_saves_51 b n) σ2 (l1 + 1))
        else none
      else none
theorem bX9_saves_51 {X : Xc} {K : Kc} (C : MC X K cX9_saves 2 RX9 rmX9_saves) (hr : K.meth.sig.returnType = none) (b : Nat) (hb : moOK b) : ∀ (n : Nat) (σ : Sg) (l1 : Int32), GO X K 2 (fun r => MQv X K r) (fX9_saves_51 b n σ l1) σ 0 0 51 [some (.ref (X.ad b)), some (.int (l1))] [] := by
  intro n
  induction n with
  | zero =>
    intro σ l1
    exact g_none
  | succ n ih =>
    intro σ l1
    unfold fX9_saves_51
    refine g_iload_n (pc := 51) (i := 1) C dX9_saves_51 rfl rfl ?_
    refine g_sipush (pc := 52) (v := 921) C dX9_saves_52 (by decide) ?_
    refine g_icmp_ge (pc := 55) (tgt := 85) C dX9_saves_55 rfl ?_ ?_
    · refine g_aload_n (pc := 85) (i := 0) C dX9_saves_85 rfl rfl ?_
      refine g_dup (pc := 86) C dX9_saves_86 rfl ?_
      refine g_geti (pc := 87) (ci := 9) (N := 27) (T := TX9) (j := 2) (Cn := RX9) C rfl inlX9 (Nat.le_of_ble_eq_true rfl) q_10_18 (blk hb 0 rfl) rfl dX9_saves_87 ?_
      refine g_iconst (pc := 90) (v := 1) C dX9_saves_90 (by decide) ?_
      refine g_iadd (pc := 91) C dX9_saves_91 ?_
      refine g_puti (pc := 92) (ci := 9) (N := 27) (T := TX9) (j := 2) (Cn := RX9) C rfl inlX9 tyX9_ok nmX9 (Nat.le_of_ble_eq_true rfl) q_10_18 (blk hb 0 rfl) rfl rfl rfl dX9_saves_92 ?_
      refine g_nms (fun σ1 => ?_)
      exact g_vret (pc := 95) C hr dX9_saves_95 rfl
    · refine g_aload_n (pc := 58) (i := 0) C dX9_saves_58 rfl rfl ?_
      refine g_getr (pc := 59) (ci := 9) (N := 27) (T := TX9) (j := 1) (Cn := RX9) (b + 2) C rfl inlX9 (Nat.le_of_ble_eq_true rfl) q_6_3 (blk hb 0 rfl) rfl dX9_saves_59 ?_
      refine g_sipush (pc := 62) (v := 921) C dX9_saves_62 (by decide) ?_
      refine g_aload_n (pc := 65) (i := 0) C dX9_saves_65 rfl rfl ?_
      refine g_geti (pc := 66) (ci := 9) (N := 27) (T := TX9) (j := 2) (Cn := RX9) C rfl inlX9 (Nat.le_of_ble_eq_true rfl) q_10_18 (blk hb 0 rfl) rfl dX9_saves_66 ?_
      refine g_imul (pc := 69) C dX9_saves_69 ?_
      refine g_iload_n (pc := 70) (i := 1) C dX9_saves_70 rfl rfl ?_
      refine g_iadd (pc := 71) C dX9_saves_71 ?_
      refine g_aload_n (pc := 72) (i := 0) C dX9_saves_72 rfl rfl ?_
      refine g_getr (pc := 73) (ci := 9) (N := 27) (T := TX9) (j := 0) (Cn := RX9) (b + 1) C rfl inlX9 (Nat.le_of_ble_eq_true rfl) q_6_2 (blk hb 0 rfl) rfl dX9_saves_73 ?_
      refine g_iload_n (pc := 76) (i := 1) C dX9_saves_76 rfl rfl ?_
      refine g_iaload (pc := 77) C (blk hb 1 rfl) dX9_saves_77 ?_
      refine g_iastore (pc := 78) C (blk hb 2 rfl) dX9_saves_78 ?_
      refine g_nms (fun σ2 => ?_)
      refine g_iinc (pc := 79) (v := l1 + 1) C dX9_saves_79 rfl (rfl) (Nat.le_of_ble_eq_true rfl) rfl ?_
      refine g_goto (pc := 82) (tgt := 51) C dX9_saves_82 rfl ?_
      refine g_keep [true, true] ?_
      exact ih σ2 (l1 + 1)
def fX9_saves_49 (b : Nat) (σ : Sg) : Option Sg :=
  (fX9_saves_51 b FU σ 0)
theorem bX9_saves_49 {X : Xc} {K : Kc} (C : MC X K cX9_saves 2 RX9 rmX9_saves) (hr : K.meth.sig.returnType = none) (b : Nat) (hb : moOK b) (σ : Sg) : GO X K 2 (fun r => MQv X K r) (fX9_saves_49 b σ) σ 0 0 49 [some (.ref (X.ad b)), none] [] := by
  unfold fX9_saves_49
  refine g_iconst (pc := 49) (v := 0) C dX9_saves_49 (by decide) ?_
  refine g_istore_n (pc := 50) (i := 1) C dX9_saves_50 rfl (Nat.le_of_ble_eq_true rfl) rfl ?_
  refine g_keep [true, true] ?_
  exact bX9_saves_51 C hr b hb FU σ 0
def fX9_saves_10 (b : Nat) : Nat → Sg → Int32 → Option Sg
  | 0, _, _ => none
  | n + 1, σ, l1 =>
    if 3684 ≤ l1 then
      nm (su σ b 2 ((σ.1 b 2) - 1)) fun σ3 =>
      (fX9_saves_49 b σ3)
    else
      if ck (l1 + 921) 4605 then
        if ck l1 4605 then
          nm (su σ (b + 2) l1.toNatClampNeg (σ.1 (b + 2) (l1 + 921).toNatClampNeg)) fun σ4 =>
          ((fX9_saves_10 b n) σ4 (l1 + 1))
        else none
      else none
theorem bX9_saves_10 {X : Xc} {K : Kc} (C : MC X K cX9_saves 2 RX9 rmX9_saves) (hr : K.meth.sig.returnType = none) (b : Nat) (hb : moOK b) : ∀ (n : Nat) (σ : Sg) (l1 : Int32), GO X K 2 (fun r => MQv X K r) (fX9_saves_10 b n σ l1) σ 0 0 10 [some (.ref (X.ad b)), some (.int (l1))] [] := by
  intro n
  induction n with
  | zero =>
    intro σ l1
    exact g_none
  | succ n ih =>
    intro σ l1
    unfold fX9_saves_10
    refine g_iload_n (pc := 10) (i := 1) C dX9_saves_10 rfl rfl ?_
    refine g_sipush (pc := 11) (v := 3684) C dX9_saves_11 (by decide) ?_
    refine g_icmp_ge (pc := 14) (tgt := 39) C dX9_saves_14 rfl ?_ ?_
    · refine g_aload_n (pc := 39) (i := 0) C dX9_saves_39 rfl rfl ?_
      refine g_dup (pc := 40) C dX9_saves_40 rfl ?_
      refine g_geti (pc := 41) (ci := 9) (N := 27) (T := TX9) (j := 2) (Cn := RX9) C rfl inlX9 (Nat.le_of_ble_eq_true rfl) q_10_18 (blk hb 0 rfl) rfl dX9_saves_41 ?_
      refine g_iconst (pc := 44) (v := 1) C dX9_saves_44 (by decide) ?_
      refine g_isub (pc := 45) C dX9_saves_45 ?_
      refine g_puti (pc := 46) (ci := 9) (N := 27) (T := TX9) (j := 2) (Cn := RX9) C rfl inlX9 tyX9_ok nmX9 (Nat.le_of_ble_eq_true rfl) q_10_18 (blk hb 0 rfl) rfl rfl rfl dX9_saves_46 ?_
      refine g_nms (fun σ3 => ?_)
      refine g_keep [true, false] ?_
      exact bX9_saves_49 C hr b hb σ3
    · refine g_aload_n (pc := 17) (i := 0) C dX9_saves_17 rfl rfl ?_
      refine g_getr (pc := 18) (ci := 9) (N := 27) (T := TX9) (j := 1) (Cn := RX9) (b + 2) C rfl inlX9 (Nat.le_of_ble_eq_true rfl) q_6_3 (blk hb 0 rfl) rfl dX9_saves_18 ?_
      refine g_iload_n (pc := 21) (i := 1) C dX9_saves_21 rfl rfl ?_
      refine g_aload_n (pc := 22) (i := 0) C dX9_saves_22 rfl rfl ?_
      refine g_getr (pc := 23) (ci := 9) (N := 27) (T := TX9) (j := 1) (Cn := RX9) (b + 2) C rfl inlX9 (Nat.le_of_ble_eq_true rfl) q_6_3 (blk hb 0 rfl) rfl dX9_saves_23 ?_
      refine g_iload_n (pc := 26) (i := 1) C dX9_saves_26 rfl rfl ?_
      refine g_sipush (pc := 27) (v := 921) C dX9_saves_27 (by decide) ?_
      refine g_iadd (pc := 30) C dX9_saves_30 ?_
      refine g_iaload (pc := 31) C (blk hb 2 rfl) dX9_saves_31 ?_
      refine g_iastore (pc := 32) C (blk hb 2 rfl) dX9_saves_32 ?_
      refine g_nms (fun σ4 => ?_)
      refine g_iinc (pc := 33) (v := l1 + 1) C dX9_saves_33 rfl (rfl) (Nat.le_of_ble_eq_true rfl) rfl ?_
      refine g_goto (pc := 36) (tgt := 10) C dX9_saves_36 rfl ?_
      refine g_keep [true, true] ?_
      exact ih σ4 (l1 + 1)
def fX9_saves (σ : Sg) (b : Nat) : Option Sg :=
  if (σ.1 b 2) = 5 then
    (fX9_saves_10 b FU σ 0)
  else
    (fX9_saves_49 b σ)
theorem kX9_saves (X : Xc) (σ : Sg) (b : Nat) (hb : moOK b) : ∀ r, fX9_saves σ b = some r → Met X.l yX9_saves (wsM yX9_saves cX9_saves 2 none) rmX9_saves (va_Pc [.ref (X.ad b)] (PW X σ)) (Qv X r) 0 0 X.A := by
  refine mt_of (own := RX9) (lo := [some (.ref (X.ad b)), none]) (by decide) rfl (Nat.le_of_ble_eq_true rfl) rfl (fun K C hr => ?_)
  unfold fX9_saves
  refine g_aload_n (pc := 0) (i := 0) C dX9_saves_0 rfl rfl ?_
  refine g_geti (pc := 1) (ci := 9) (N := 27) (T := TX9) (j := 2) (Cn := RX9) C rfl inlX9 (Nat.le_of_ble_eq_true rfl) q_10_18 (blk hb 0 rfl) rfl dX9_saves_1 ?_
  refine g_iconst (pc := 4) (v := 5) C dX9_saves_4 (by decide) ?_
  refine g_icmp_ne (pc := 5) (tgt := 49) C dX9_saves_5 rfl ?_ ?_
  · refine g_iconst (pc := 8) (v := 0) C dX9_saves_8 (by decide) ?_
    refine g_istore_n (pc := 9) (i := 1) C dX9_saves_9 rfl (Nat.le_of_ble_eq_true rfl) rfl ?_
    refine g_keep [true, true] ?_
    exact bX9_saves_10 C hr b hb FU σ 0
  · refine g_keep [true, false] ?_
    exact bX9_saves_49 C hr b hb σ
theorem dX9_undo_0 : decode cX9_undo 0 = .ok (.aload_n 0, 1) := by decide +kernel
theorem dX9_undo_1 : decode cX9_undo 1 = .ok (.aload_n 0, 1) := by decide +kernel
theorem dX9_undo_2 : decode cX9_undo 2 = .ok (.getfield 54, 3) := by decide +kernel
theorem dX9_undo_5 : decode cX9_undo 5 = .ok (.ifCond .ne 7, 3) := by decide +kernel
theorem dX9_undo_8 : decode cX9_undo 8 = .ok (.iconst 1, 1) := by decide +kernel
theorem dX9_undo_9 : decode cX9_undo 9 = .ok (.goto 4, 3) := by decide +kernel
theorem dX9_undo_12 : decode cX9_undo 12 = .ok (.iconst 0, 1) := by decide +kernel
theorem dX9_undo_13 : decode cX9_undo 13 = .ok (.invokevirtual 57, 3) := by decide +kernel
theorem dX9_undo_16 : decode cX9_undo 16 = .ok (.ifCond .eq 5, 3) := by decide +kernel
theorem dX9_undo_19 : decode cX9_undo 19 = .ok (.iconst 0, 1) := by decide +kernel
theorem dX9_undo_20 : decode cX9_undo 20 = .ok (.ireturn, 1) := by decide +kernel
theorem dX9_undo_21 : decode cX9_undo 21 = .ok (.aload_n 0, 1) := by decide +kernel
theorem dX9_undo_22 : decode cX9_undo 22 = .ok (.dup, 1) := by decide +kernel
theorem dX9_undo_23 : decode cX9_undo 23 = .ok (.getfield 54, 3) := by decide +kernel
theorem dX9_undo_26 : decode cX9_undo 26 = .ok (.iconst 1, 1) := by decide +kernel
theorem dX9_undo_27 : decode cX9_undo 27 = .ok (.isub, 1) := by decide +kernel
theorem dX9_undo_28 : decode cX9_undo 28 = .ok (.putfield 54, 3) := by decide +kernel
theorem dX9_undo_31 : decode cX9_undo 31 = .ok (.iconst 0, 1) := by decide +kernel
theorem dX9_undo_32 : decode cX9_undo 32 = .ok (.istore_n 1, 1) := by decide +kernel
theorem dX9_undo_33 : decode cX9_undo 33 = .ok (.iload_n 1, 1) := by decide +kernel
theorem dX9_undo_34 : decode cX9_undo 34 = .ok (.sipush 921, 3) := by decide +kernel
theorem dX9_undo_37 : decode cX9_undo 37 = .ok (.if_icmp .ge 30, 3) := by decide +kernel
theorem dX9_undo_40 : decode cX9_undo 40 = .ok (.aload_n 0, 1) := by decide +kernel
theorem dX9_undo_41 : decode cX9_undo 41 = .ok (.getfield 7, 3) := by decide +kernel
theorem dX9_undo_44 : decode cX9_undo 44 = .ok (.iload_n 1, 1) := by decide +kernel
theorem dX9_undo_45 : decode cX9_undo 45 = .ok (.aload_n 0, 1) := by decide +kernel
theorem dX9_undo_46 : decode cX9_undo 46 = .ok (.getfield 13, 3) := by decide +kernel
theorem dX9_undo_49 : decode cX9_undo 49 = .ok (.sipush 921, 3) := by decide +kernel
theorem dX9_undo_52 : decode cX9_undo 52 = .ok (.aload_n 0, 1) := by decide +kernel
theorem dX9_undo_53 : decode cX9_undo 53 = .ok (.getfield 54, 3) := by decide +kernel
theorem dX9_undo_56 : decode cX9_undo 56 = .ok (.imul, 1) := by decide +kernel
theorem dX9_undo_57 : decode cX9_undo 57 = .ok (.iload_n 1, 1) := by decide +kernel
theorem dX9_undo_58 : decode cX9_undo 58 = .ok (.iadd, 1) := by decide +kernel
theorem dX9_undo_59 : decode cX9_undo 59 = .ok (.iaload, 1) := by decide +kernel
theorem dX9_undo_60 : decode cX9_undo 60 = .ok (.iastore, 1) := by decide +kernel
theorem dX9_undo_61 : decode cX9_undo 61 = .ok (.iinc 1 1, 3) := by decide +kernel
theorem dX9_undo_64 : decode cX9_undo 64 = .ok (.goto (-31), 3) := by decide +kernel
theorem dX9_undo_67 : decode cX9_undo 67 = .ok (.aload_n 0, 1) := by decide +kernel
theorem dX9_undo_68 : decode cX9_undo 68 = .ok (.getfield 54, 3) := by decide +kernel
theorem dX9_undo_71 : decode cX9_undo 71 = .ok (.ireturn, 1) := by decide +kernel
abbrev rmX9_undo : Room := { frames := 1, cells := 0, slots := 0, locals := 21 }
theorem hdX9_undo : yX9_undo.cls ≠ "java/lang/invoke/MethodHandle" ∧ yX9_undo.cls ≠ "java/lang/invoke/VarHandle" ∧ (parseMethodDescriptor yX9_undo.desc).map (fun d => d.parameters.length) = some 0 := by decide +kernel
def fX9_undo_33 (b : Nat) : Nat → Sg → Int32 → Option (Int32 × Sg)
  | 0, _, _ => none
  | n + 1, σ, l1 =>
    if 921 ≤ l1 then
      some (σ.1 b 2, σ)
    else
      if ck ((921 * (σ.1 b 2)) + l1) 4605 then
        if ck l1 921 then
          nm (su σ (b + 1) l1.toNatClampNeg (σ.1 (b + 2) ((921 * (σ.1 b 2)) + l1).toNatClampNeg)) fun σ3 =>
          ((fX9_undo_33 b n) σ3 (l1 + 1))
        else none
      else none
theorem bX9_undo_33 {X : Xc} {K : Kc} (C : MC X K cX9_undo 2 RX9 rmX9_undo) (hr : K.meth.sig.returnType = (some .int)) (b : Nat) (hb : moOK b) : ∀ (n : Nat) (σ : Sg) (l1 : Int32), GO X K 2 (fun r => MQi X K r.1 r.2) (fX9_undo_33 b n σ l1) σ 0 0 33 [some (.ref (X.ad b)), some (.int (l1))] [] := by
  intro n
  induction n with
  | zero =>
    intro σ l1
    exact g_none
  | succ n ih =>
    intro σ l1
    unfold fX9_undo_33
    refine g_iload_n (pc := 33) (i := 1) C dX9_undo_33 rfl rfl ?_
    refine g_sipush (pc := 34) (v := 921) C dX9_undo_34 (by decide) ?_
    refine g_icmp_ge (pc := 37) (tgt := 67) C dX9_undo_37 rfl ?_ ?_
    · refine g_aload_n (pc := 67) (i := 0) C dX9_undo_67 rfl rfl ?_
      refine g_geti (pc := 68) (ci := 9) (N := 27) (T := TX9) (j := 2) (Cn := RX9) C rfl inlX9 (Nat.le_of_ble_eq_true rfl) q_10_18 (blk hb 0 rfl) rfl dX9_undo_68 ?_
      exact g_iret (pc := 71) C hr dX9_undo_71 rfl
    · refine g_aload_n (pc := 40) (i := 0) C dX9_undo_40 rfl rfl ?_
      refine g_getr (pc := 41) (ci := 9) (N := 27) (T := TX9) (j := 0) (Cn := RX9) (b + 1) C rfl inlX9 (Nat.le_of_ble_eq_true rfl) q_6_2 (blk hb 0 rfl) rfl dX9_undo_41 ?_
      refine g_iload_n (pc := 44) (i := 1) C dX9_undo_44 rfl rfl ?_
      refine g_aload_n (pc := 45) (i := 0) C dX9_undo_45 rfl rfl ?_
      refine g_getr (pc := 46) (ci := 9) (N := 27) (T := TX9) (j := 1) (Cn := RX9) (b + 2) C rfl inlX9 (Nat.le_of_ble_eq_true rfl) q_6_3 (blk hb 0 rfl) rfl dX9_undo_46 ?_
      refine g_sipush (pc := 49) (v := 921) C dX9_undo_49 (by decide) ?_
      refine g_aload_n (pc := 52) (i := 0) C dX9_undo_52 rfl rfl ?_
      refine g_geti (pc := 53) (ci := 9) (N := 27) (T := TX9) (j := 2) (Cn := RX9) C rfl inlX9 (Nat.le_of_ble_eq_true rfl) q_10_18 (blk hb 0 rfl) rfl dX9_undo_53 ?_
      refine g_imul (pc := 56) C dX9_undo_56 ?_
      refine g_iload_n (pc := 57) (i := 1) C dX9_undo_57 rfl rfl ?_
      refine g_iadd (pc := 58) C dX9_undo_58 ?_
      refine g_iaload (pc := 59) C (blk hb 2 rfl) dX9_undo_59 ?_
      refine g_iastore (pc := 60) C (blk hb 1 rfl) dX9_undo_60 ?_
      refine g_nms (fun σ3 => ?_)
      refine g_iinc (pc := 61) (v := l1 + 1) C dX9_undo_61 rfl (rfl) (Nat.le_of_ble_eq_true rfl) rfl ?_
      refine g_goto (pc := 64) (tgt := 33) C dX9_undo_64 rfl ?_
      refine g_keep [true, true] ?_
      exact ih σ3 (l1 + 1)
def fX9_undo_13 (b : Nat) (σ : Sg) (s1 : Int32) : Option (Int32 × Sg) :=
  (fX9_refused σ b s1).bind fun r1 =>
  if r1.1 = true then
    some (0, r1.2)
  else
    nm (su r1.2 b 2 ((r1.2.1 b 2) - 1)) fun σ2 =>
    (fX9_undo_33 b FU σ2 0)
theorem bX9_undo_13 {X : Xc} {K : Kc} (C : MC X K cX9_undo 2 RX9 rmX9_undo) (hr : K.meth.sig.returnType = (some .int)) (b : Nat) (hb : moOK b) (σ : Sg) (s1 : Int32) : GO X K 2 (fun r => MQi X K r.1 r.2) (fX9_undo_13 b σ s1) σ 0 0 13 [some (.ref (X.ad b)), none] [.int (s1), .ref (X.ad b)] := by
  unfold fX9_undo_13
  refine g_callVi (pc := 13) (As := [.int (s1)]) C (kX9_refused X σ b s1 hb) (blk hb 0 rfl) rfl q_10_9 q_10_10 q_10_11 q_1_5 q_10_12 ⟨rfl, hdX9_refused⟩ ⟨Nat.le_of_ble_eq_true rfl, Nat.le_of_ble_eq_true rfl, rfl, rfl⟩ ⟨Nat.zero_le _, Nat.zero_le _⟩ (Nat.le_of_ble_eq_true rfl) rfl rfl dX9_undo_13 (fun r1 _ => ?_)
  refine g_ifb_eq (pc := 16) (tgt := 21) C dX9_undo_16 rfl ?_ ?_
  · refine g_iconst (pc := 19) (v := 0) C dX9_undo_19 (by decide) ?_
    exact g_iret (pc := 20) C hr dX9_undo_20 rfl
  · refine g_aload_n (pc := 21) (i := 0) C dX9_undo_21 rfl rfl ?_
    refine g_dup (pc := 22) C dX9_undo_22 rfl ?_
    refine g_geti (pc := 23) (ci := 9) (N := 27) (T := TX9) (j := 2) (Cn := RX9) C rfl inlX9 (Nat.le_of_ble_eq_true rfl) q_10_18 (blk hb 0 rfl) rfl dX9_undo_23 ?_
    refine g_iconst (pc := 26) (v := 1) C dX9_undo_26 (by decide) ?_
    refine g_isub (pc := 27) C dX9_undo_27 ?_
    refine g_puti (pc := 28) (ci := 9) (N := 27) (T := TX9) (j := 2) (Cn := RX9) C rfl inlX9 tyX9_ok nmX9 (Nat.le_of_ble_eq_true rfl) q_10_18 (blk hb 0 rfl) rfl rfl rfl dX9_undo_28 ?_
    refine g_nms (fun σ2 => ?_)
    refine g_iconst (pc := 31) (v := 0) C dX9_undo_31 (by decide) ?_
    refine g_istore_n (pc := 32) (i := 1) C dX9_undo_32 rfl (Nat.le_of_ble_eq_true rfl) rfl ?_
    refine g_keep [true, true] ?_
    exact bX9_undo_33 C hr b hb FU σ2 0
def fX9_undo (σ : Sg) (b : Nat) : Option (Int32 × Sg) :=
  if (σ.1 b 2) = 0 then
    (fX9_undo_13 b σ 1)
  else
    (fX9_undo_13 b σ 0)
theorem kX9_undo (X : Xc) (σ : Sg) (b : Nat) (hb : moOK b) : ∀ r, fX9_undo σ b = some r → Met X.l yX9_undo (wsM yX9_undo cX9_undo 2 (some .int)) rmX9_undo (va_Pc [.ref (X.ad b)] (PW X σ)) (Qi X r.1 r.2) 0 0 X.A := by
  refine mt_of (own := RX9) (lo := [some (.ref (X.ad b)), none]) (by decide) rfl (Nat.le_of_ble_eq_true rfl) rfl (fun K C hr => ?_)
  unfold fX9_undo
  refine g_aload_n (pc := 0) (i := 0) C dX9_undo_0 rfl rfl ?_
  refine g_aload_n (pc := 1) (i := 0) C dX9_undo_1 rfl rfl ?_
  refine g_geti (pc := 2) (ci := 9) (N := 27) (T := TX9) (j := 2) (Cn := RX9) C rfl inlX9 (Nat.le_of_ble_eq_true rfl) q_10_18 (blk hb 0 rfl) rfl dX9_undo_2 ?_
  refine g_if_ne (pc := 5) (tgt := 12) C dX9_undo_5 rfl ?_ ?_
  · refine g_iconst (pc := 8) (v := 1) C dX9_undo_8 (by decide) ?_
    refine g_goto (pc := 9) (tgt := 13) C dX9_undo_9 rfl ?_
    refine g_keep [true, false] ?_
    exact bX9_undo_13 C hr b hb σ 1
  · refine g_iconst (pc := 12) (v := 0) C dX9_undo_12 (by decide) ?_
    refine g_keep [true, false] ?_
    exact bX9_undo_13 C hr b hb σ 0
theorem dX9_of_0 : decode cX9_of 0 = .ok (.aload_n 0, 1) := by decide +kernel
theorem dX9_of_1 : decode cX9_of 1 = .ok (.getfield 7, 3) := by decide +kernel
theorem dX9_of_4 : decode cX9_of 4 = .ok (.bipush 6, 2) := by decide +kernel
theorem dX9_of_6 : decode cX9_of 6 = .ok (.iload_n 1, 1) := by decide +kernel
theorem dX9_of_7 : decode cX9_of 7 = .ok (.imul, 1) := by decide +kernel
theorem dX9_of_8 : decode cX9_of 8 = .ok (.iload_n 2, 1) := by decide +kernel
theorem dX9_of_9 : decode cX9_of 9 = .ok (.iadd, 1) := by decide +kernel
theorem dX9_of_10 : decode cX9_of 10 = .ok (.iaload, 1) := by decide +kernel
theorem dX9_of_11 : decode cX9_of 11 = .ok (.ireturn, 1) := by decide +kernel
abbrev rmX9_of : Room := { frames := 0, cells := 0, slots := 0, locals := 0 }
theorem hdX9_of : yX9_of.cls ≠ "java/lang/invoke/MethodHandle" ∧ yX9_of.cls ≠ "java/lang/invoke/VarHandle" ∧ (parseMethodDescriptor yX9_of.desc).map (fun d => d.parameters.length) = some 2 := by decide +kernel
def fX9_of (σ : Sg) (b : Nat) (p1 : Int32) (p2 : Int32) : Option Int32 :=
  if ck ((6 * p1) + p2) 921 then
    some (σ.1 (b + 1) ((6 * p1) + p2).toNatClampNeg)
  else none
theorem kX9_of (X : Xc) (σ : Sg) (b : Nat) (p1 : Int32) (p2 : Int32) (hb : moOK b) : ∀ r, fX9_of σ b p1 p2 = some r → Met X.l yX9_of (wsM yX9_of cX9_of 3 (some .int)) rmX9_of (va_Pc [.ref (X.ad b), .int p1, .int p2] (PW X σ)) (Qi X r σ) 0 0 X.A := by
  refine mt_of (own := RX9) (lo := [some (.ref (X.ad b)), some (.int (p1)), some (.int (p2))]) (by decide) rfl (Nat.le_of_ble_eq_true rfl) rfl (fun K C hr => ?_)
  unfold fX9_of
  refine g_aload_n (pc := 0) (i := 0) C dX9_of_0 rfl rfl ?_
  refine g_getr (pc := 1) (ci := 9) (N := 27) (T := TX9) (j := 0) (Cn := RX9) (b + 1) C rfl inlX9 (Nat.le_of_ble_eq_true rfl) q_6_2 (blk hb 0 rfl) rfl dX9_of_1 ?_
  refine g_bipush (pc := 4) (v := 6) C dX9_of_4 (by decide) ?_
  refine g_iload_n (pc := 6) (i := 1) C dX9_of_6 rfl rfl ?_
  refine g_imul (pc := 7) C dX9_of_7 ?_
  refine g_iload_n (pc := 8) (i := 2) C dX9_of_8 rfl rfl ?_
  refine g_iadd (pc := 9) C dX9_of_9 ?_
  refine g_iaload (pc := 10) C (blk hb 1 rfl) dX9_of_10 ?_
  exact g_iret (pc := 11) C hr dX9_of_11 rfl
theorem dX9_put_0 : decode cX9_put 0 = .ok (.aload_n 0, 1) := by decide +kernel
theorem dX9_put_1 : decode cX9_put 1 = .ok (.getfield 7, 3) := by decide +kernel
theorem dX9_put_4 : decode cX9_put 4 = .ok (.bipush 6, 2) := by decide +kernel
theorem dX9_put_6 : decode cX9_put 6 = .ok (.iload_n 1, 1) := by decide +kernel
theorem dX9_put_7 : decode cX9_put 7 = .ok (.imul, 1) := by decide +kernel
theorem dX9_put_8 : decode cX9_put 8 = .ok (.iload_n 2, 1) := by decide +kernel
theorem dX9_put_9 : decode cX9_put 9 = .ok (.iadd, 1) := by decide +kernel
theorem dX9_put_10 : decode cX9_put 10 = .ok (.iload_n 3, 1) := by decide +kernel
theorem dX9_put_11 : decode cX9_put 11 = .ok (.iastore, 1) := by decide +kernel
theorem dX9_put_12 : decode cX9_put 12 = .ok (.return_, 1) := by decide +kernel
abbrev rmX9_put : Room := { frames := 0, cells := 0, slots := 0, locals := 0 }
theorem hdX9_put : yX9_put.cls ≠ "java/lang/invoke/MethodHandle" ∧ yX9_put.cls ≠ "java/lang/invoke/VarHandle" ∧ (parseMethodDescriptor yX9_put.desc).map (fun d => d.parameters.length) = some 3 := by decide +kernel
def fX9_put (σ : Sg) (b : Nat) (p1 : Int32) (p2 : Int32) (p3 : Int32) : Option Sg :=
  if ck ((6 * p1) + p2) 921 then
    nm (su σ (b + 1) ((6 * p1) + p2).toNatClampNeg p3) fun σ1 =>
    some σ1
  else none
theorem kX9_put (X : Xc) (σ : Sg) (b : Nat) (p1 : Int32) (p2 : Int32) (p3 : Int32) (hb : moOK b) : ∀ r, fX9_put σ b p1 p2 p3 = some r → Met X.l yX9_put (wsM yX9_put cX9_put 4 none) rmX9_put (va_Pc [.ref (X.ad b), .int p1, .int p2, .int p3] (PW X σ)) (Qv X r) 0 0 X.A := by
  refine mt_of (own := RX9) (lo := [some (.ref (X.ad b)), some (.int (p1)), some (.int (p2)), some (.int (p3))]) (by decide) rfl (Nat.le_of_ble_eq_true rfl) rfl (fun K C hr => ?_)
  unfold fX9_put
  refine g_aload_n (pc := 0) (i := 0) C dX9_put_0 rfl rfl ?_
  refine g_getr (pc := 1) (ci := 9) (N := 27) (T := TX9) (j := 0) (Cn := RX9) (b + 1) C rfl inlX9 (Nat.le_of_ble_eq_true rfl) q_6_2 (blk hb 0 rfl) rfl dX9_put_1 ?_
  refine g_bipush (pc := 4) (v := 6) C dX9_put_4 (by decide) ?_
  refine g_iload_n (pc := 6) (i := 1) C dX9_put_6 rfl rfl ?_
  refine g_imul (pc := 7) C dX9_put_7 ?_
  refine g_iload_n (pc := 8) (i := 2) C dX9_put_8 rfl rfl ?_
  refine g_iadd (pc := 9) C dX9_put_9 ?_
  refine g_iload_n (pc := 10) (i := 3) C dX9_put_10 rfl rfl ?_
  refine g_iastore (pc := 11) C (blk hb 1 rfl) dX9_put_11 ?_
  refine g_nms (fun σ1 => ?_)
  exact g_vret (pc := 12) C hr dX9_put_12 rfl
theorem dX9_isPane_0 : decode cX9_isPane 0 = .ok (.iload_n 1, 1) := by decide +kernel
theorem dX9_isPane_1 : decode cX9_isPane 1 = .ok (.iconst 0, 1) := by decide +kernel
theorem dX9_isPane_2 : decode cX9_isPane 2 = .ok (.bipush 11, 2) := by decide +kernel
theorem dX9_isPane_4 : decode cX9_isPane 4 = .ok (.invokestatic 61, 3) := by decide +kernel
theorem dX9_isPane_7 : decode cX9_isPane 7 = .ok (.ifCond .eq 17, 3) := by decide +kernel
theorem dX9_isPane_10 : decode cX9_isPane 10 = .ok (.aload_n 0, 1) := by decide +kernel
theorem dX9_isPane_11 : decode cX9_isPane 11 = .ok (.iload_n 1, 1) := by decide +kernel
theorem dX9_isPane_12 : decode cX9_isPane 12 = .ok (.iconst 0, 1) := by decide +kernel
theorem dX9_isPane_13 : decode cX9_isPane 13 = .ok (.invokevirtual 65, 3) := by decide +kernel
theorem dX9_isPane_16 : decode cX9_isPane 16 = .ok (.iconst 1, 1) := by decide +kernel
theorem dX9_isPane_17 : decode cX9_isPane 17 = .ok (.if_icmp .ne 7, 3) := by decide +kernel
theorem dX9_isPane_20 : decode cX9_isPane 20 = .ok (.iconst 1, 1) := by decide +kernel
theorem dX9_isPane_21 : decode cX9_isPane 21 = .ok (.goto 4, 3) := by decide +kernel
theorem dX9_isPane_24 : decode cX9_isPane 24 = .ok (.iconst 0, 1) := by decide +kernel
theorem dX9_isPane_25 : decode cX9_isPane 25 = .ok (.ireturn, 1) := by decide +kernel
abbrev rmX9_isPane : Room := { frames := 1, cells := 0, slots := 0, locals := 22 }
theorem hdX9_isPane : yX9_isPane.cls ≠ "java/lang/invoke/MethodHandle" ∧ yX9_isPane.cls ≠ "java/lang/invoke/VarHandle" ∧ (parseMethodDescriptor yX9_isPane.desc).map (fun d => d.parameters.length) = some 1 := by decide +kernel
def fX9_isPane (σ : Sg) (b : Nat) (p1 : Int32) : Option Bool :=
  (fX9_within σ p1 0 11).bind fun r1 =>
  if r1 = true then
    (fX9_of σ b p1 0).bind fun r2 =>
    if r2 = 1 then
      some true
    else
      some false
  else
    some false
theorem kX9_isPane (X : Xc) (σ : Sg) (b : Nat) (p1 : Int32) (hb : moOK b) : ∀ r, fX9_isPane σ b p1 = some r → Met X.l yX9_isPane (wsM yX9_isPane cX9_isPane 2 (some .boolean)) rmX9_isPane (va_Pc [.ref (X.ad b), .int p1] (PW X σ)) (Qi X (b2i r) σ) 0 0 X.A := by
  refine mt_of (own := RX9) (lo := [some (.ref (X.ad b)), some (.int (p1))]) (by decide) rfl (Nat.le_of_ble_eq_true rfl) rfl (fun K C hr => ?_)
  unfold fX9_isPane
  refine g_iload_n (pc := 0) (i := 1) C dX9_isPane_0 rfl rfl ?_
  refine g_iconst (pc := 1) (v := 0) C dX9_isPane_1 (by decide) ?_
  refine g_bipush (pc := 2) (v := 11) C dX9_isPane_2 (by decide) ?_
  refine g_callSi (pc := 4) (As := [.int (p1), .int (0), .int (11)]) C (kX9_within X σ p1 0 11) q_10_6 q_10_7 q_1_5 q_10_8 hdX9_within ⟨Nat.le_of_ble_eq_true rfl, Nat.le_of_ble_eq_true rfl, rfl, rfl⟩ ⟨Nat.zero_le _, Nat.zero_le _⟩ (Nat.le_of_ble_eq_true rfl) rfl rfl dX9_isPane_4 (fun r1 _ => ?_)
  refine g_ifb_eq (pc := 7) (tgt := 24) C dX9_isPane_7 rfl ?_ ?_
  · refine g_aload_n (pc := 10) (i := 0) C dX9_isPane_10 rfl rfl ?_
    refine g_iload_n (pc := 11) (i := 1) C dX9_isPane_11 rfl rfl ?_
    refine g_iconst (pc := 12) (v := 0) C dX9_isPane_12 (by decide) ?_
    refine g_callVi (pc := 13) (As := [.int (p1), .int (0)]) C (kX9_of X σ b p1 0 hb) (blk hb 0 rfl) rfl q_10_2 q_10_3 q_10_4 q_1_5 q_10_5 ⟨rfl, hdX9_of⟩ ⟨Nat.le_of_ble_eq_true rfl, Nat.le_of_ble_eq_true rfl, rfl, rfl⟩ ⟨Nat.zero_le _, Nat.zero_le _⟩ (Nat.le_of_ble_eq_true rfl) rfl rfl dX9_isPane_13 (fun r2 _ => ?_)
    refine g_iconst (pc := 16) (v := 1) C dX9_isPane_16 (by decide) ?_
    refine g_icmp_ne (pc := 17) (tgt := 24) C dX9_isPane_17 rfl ?_ ?_
    · refine g_iconst (pc := 20) (v := 1) C dX9_isPane_20 (by decide) ?_
      refine g_goto (pc := 21) (tgt := 25) C dX9_isPane_21 rfl ?_
      exact g_zret (pc := 25) C hr dX9_isPane_25 rfl
    · refine g_iconst (pc := 24) (v := 0) C dX9_isPane_24 (by decide) ?_
      exact g_zret (pc := 25) C hr dX9_isPane_25 rfl
  · refine g_iconst (pc := 24) (v := 0) C dX9_isPane_24 (by decide) ?_
    exact g_zret (pc := 25) C hr dX9_isPane_25 rfl
theorem dX9_isPlaced_0 : decode cX9_isPlaced 0 = .ok (.aload_n 0, 1) := by decide +kernel
theorem dX9_isPlaced_1 : decode cX9_isPlaced 1 = .ok (.iload_n 1, 1) := by decide +kernel
theorem dX9_isPlaced_2 : decode cX9_isPlaced 2 = .ok (.iconst 3, 1) := by decide +kernel
theorem dX9_isPlaced_3 : decode cX9_isPlaced 3 = .ok (.invokevirtual 65, 3) := by decide +kernel
theorem dX9_isPlaced_6 : decode cX9_isPlaced 6 = .ok (.iconst (-1), 1) := by decide +kernel
theorem dX9_isPlaced_7 : decode cX9_isPlaced 7 = .ok (.if_icmp .eq 7, 3) := by decide +kernel
theorem dX9_isPlaced_10 : decode cX9_isPlaced 10 = .ok (.iconst 1, 1) := by decide +kernel
theorem dX9_isPlaced_11 : decode cX9_isPlaced 11 = .ok (.goto 4, 3) := by decide +kernel
theorem dX9_isPlaced_14 : decode cX9_isPlaced 14 = .ok (.iconst 0, 1) := by decide +kernel
theorem dX9_isPlaced_15 : decode cX9_isPlaced 15 = .ok (.ireturn, 1) := by decide +kernel
abbrev rmX9_isPlaced : Room := { frames := 1, cells := 0, slots := 0, locals := 22 }
theorem hdX9_isPlaced : yX9_isPlaced.cls ≠ "java/lang/invoke/MethodHandle" ∧ yX9_isPlaced.cls ≠ "java/lang/invoke/VarHandle" ∧ (parseMethodDescriptor yX9_isPlaced.desc).map (fun d => d.parameters.length) = some 1 := by decide +kernel
def fX9_isPlaced (σ : Sg) (b : Nat) (p1 : Int32) : Option Bool :=
  (fX9_of σ b p1 3).bind fun r1 =>
  if r1 = (-1) then
    some false
  else
    some true
theorem kX9_isPlaced (X : Xc) (σ : Sg) (b : Nat) (p1 : Int32) (hb : moOK b) : ∀ r, fX9_isPlaced σ b p1 = some r → Met X.l yX9_isPlaced (wsM yX9_isPlaced cX9_isPlaced 2 (some .boolean)) rmX9_isPlaced (va_Pc [.ref (X.ad b), .int p1] (PW X σ)) (Qi X (b2i r) σ) 0 0 X.A := by
  refine mt_of (own := RX9) (lo := [some (.ref (X.ad b)), some (.int (p1))]) (by decide) rfl (Nat.le_of_ble_eq_true rfl) rfl (fun K C hr => ?_)
  unfold fX9_isPlaced
  refine g_aload_n (pc := 0) (i := 0) C dX9_isPlaced_0 rfl rfl ?_
  refine g_iload_n (pc := 1) (i := 1) C dX9_isPlaced_1 rfl rfl ?_
  refine g_iconst (pc := 2) (v := 3) C dX9_isPlaced_2 (by decide) ?_
  refine g_callVi (pc := 3) (As := [.int (p1), .int (3)]) C (kX9_of X σ b p1 3 hb) (blk hb 0 rfl) rfl q_10_2 q_10_3 q_10_4 q_1_5 q_10_5 ⟨rfl, hdX9_of⟩ ⟨Nat.le_of_ble_eq_true rfl, Nat.le_of_ble_eq_true rfl, rfl, rfl⟩ ⟨Nat.zero_le _, Nat.zero_le _⟩ (Nat.le_of_ble_eq_true rfl) rfl rfl dX9_isPlaced_3 (fun r1 _ => ?_)
  refine g_iconst (pc := 6) (v := (-1)) C dX9_isPlaced_6 (by decide) ?_
  refine g_icmp_eq (pc := 7) (tgt := 14) C dX9_isPlaced_7 rfl ?_ ?_
  · refine g_iconst (pc := 14) (v := 0) C dX9_isPlaced_14 (by decide) ?_
    exact g_zret (pc := 15) C hr dX9_isPlaced_15 rfl
  · refine g_iconst (pc := 10) (v := 1) C dX9_isPlaced_10 (by decide) ?_
    refine g_goto (pc := 11) (tgt := 15) C dX9_isPlaced_11 rfl ?_
    exact g_zret (pc := 15) C hr dX9_isPlaced_15 rfl
theorem dX9_isShown_0 : decode cX9_isShown 0 = .ok (.aload_n 0, 1) := by decide +kernel
theorem dX9_isShown_1 : decode cX9_isShown 1 = .ok (.iload_n 1, 1) := by decide +kernel
theorem dX9_isShown_2 : decode cX9_isShown 2 = .ok (.invokevirtual 69, 3) := by decide +kernel
theorem dX9_isShown_5 : decode cX9_isShown 5 = .ok (.ifCond .eq 16, 3) := by decide +kernel
theorem dX9_isShown_8 : decode cX9_isShown 8 = .ok (.aload_n 0, 1) := by decide +kernel
theorem dX9_isShown_9 : decode cX9_isShown 9 = .ok (.iload_n 1, 1) := by decide +kernel
theorem dX9_isShown_10 : decode cX9_isShown 10 = .ok (.iconst 5, 1) := by decide +kernel
theorem dX9_isShown_11 : decode cX9_isShown 11 = .ok (.invokevirtual 65, 3) := by decide +kernel
theorem dX9_isShown_14 : decode cX9_isShown 14 = .ok (.ifCond .ne 7, 3) := by decide +kernel
theorem dX9_isShown_17 : decode cX9_isShown 17 = .ok (.iconst 1, 1) := by decide +kernel
theorem dX9_isShown_18 : decode cX9_isShown 18 = .ok (.goto 4, 3) := by decide +kernel
theorem dX9_isShown_21 : decode cX9_isShown 21 = .ok (.iconst 0, 1) := by decide +kernel
theorem dX9_isShown_22 : decode cX9_isShown 22 = .ok (.ireturn, 1) := by decide +kernel
abbrev rmX9_isShown : Room := { frames := 2, cells := 0, slots := 0, locals := 43 }
theorem hdX9_isShown : yX9_isShown.cls ≠ "java/lang/invoke/MethodHandle" ∧ yX9_isShown.cls ≠ "java/lang/invoke/VarHandle" ∧ (parseMethodDescriptor yX9_isShown.desc).map (fun d => d.parameters.length) = some 1 := by decide +kernel
def fX9_isShown (σ : Sg) (b : Nat) (p1 : Int32) : Option Bool :=
  (fX9_isPlaced σ b p1).bind fun r1 =>
  if r1 = true then
    (fX9_of σ b p1 5).bind fun r2 =>
    if r2 = 0 then
      some true
    else
      some false
  else
    some false
theorem kX9_isShown (X : Xc) (σ : Sg) (b : Nat) (p1 : Int32) (hb : moOK b) : ∀ r, fX9_isShown σ b p1 = some r → Met X.l yX9_isShown (wsM yX9_isShown cX9_isShown 2 (some .boolean)) rmX9_isShown (va_Pc [.ref (X.ad b), .int p1] (PW X σ)) (Qi X (b2i r) σ) 0 0 X.A := by
  refine mt_of (own := RX9) (lo := [some (.ref (X.ad b)), some (.int (p1))]) (by decide) rfl (Nat.le_of_ble_eq_true rfl) rfl (fun K C hr => ?_)
  unfold fX9_isShown
  refine g_aload_n (pc := 0) (i := 0) C dX9_isShown_0 rfl rfl ?_
  refine g_iload_n (pc := 1) (i := 1) C dX9_isShown_1 rfl rfl ?_
  refine g_callVi (pc := 2) (As := [.int (p1)]) C (kX9_isPlaced X σ b p1 hb) (blk hb 0 rfl) rfl q_20_0 q_20_1 q_20_2 q_1_5 q_20_3 ⟨rfl, hdX9_isPlaced⟩ ⟨Nat.le_of_ble_eq_true rfl, Nat.le_of_ble_eq_true rfl, rfl, rfl⟩ ⟨Nat.zero_le _, Nat.zero_le _⟩ (Nat.le_of_ble_eq_true rfl) rfl rfl dX9_isShown_2 (fun r1 _ => ?_)
  refine g_ifb_eq (pc := 5) (tgt := 21) C dX9_isShown_5 rfl ?_ ?_
  · refine g_aload_n (pc := 8) (i := 0) C dX9_isShown_8 rfl rfl ?_
    refine g_iload_n (pc := 9) (i := 1) C dX9_isShown_9 rfl rfl ?_
    refine g_iconst (pc := 10) (v := 5) C dX9_isShown_10 (by decide) ?_
    refine g_callVi (pc := 11) (As := [.int (p1), .int (5)]) C (kX9_of X σ b p1 5 hb) (blk hb 0 rfl) rfl q_10_2 q_10_3 q_10_4 q_1_5 q_10_5 ⟨rfl, hdX9_of⟩ ⟨Nat.le_of_ble_eq_true rfl, Nat.le_of_ble_eq_true rfl, rfl, rfl⟩ ⟨Nat.zero_le _, Nat.zero_le _⟩ (Nat.le_of_ble_eq_true rfl) rfl rfl dX9_isShown_11 (fun r2 _ => ?_)
    refine g_if_ne (pc := 14) (tgt := 21) C dX9_isShown_14 rfl ?_ ?_
    · refine g_iconst (pc := 17) (v := 1) C dX9_isShown_17 (by decide) ?_
      refine g_goto (pc := 18) (tgt := 22) C dX9_isShown_18 rfl ?_
      exact g_zret (pc := 22) C hr dX9_isShown_22 rfl
    · refine g_iconst (pc := 21) (v := 0) C dX9_isShown_21 (by decide) ?_
      exact g_zret (pc := 22) C hr dX9_isShown_22 rfl
  · refine g_iconst (pc := 21) (v := 0) C dX9_isShown_21 (by decide) ?_
    exact g_zret (pc := 22) C hr dX9_isShown_22 rfl
theorem dX9_its_0 : decode cX9_its 0 = .ok (.aload_n 0, 1) := by decide +kernel
theorem dX9_its_1 : decode cX9_its 1 = .ok (.getfield 7, 3) := by decide +kernel
theorem dX9_its_4 : decode cX9_its 4 = .ok (.bipush 72, 2) := by decide +kernel
theorem dX9_its_6 : decode cX9_its 6 = .ok (.bipush 6, 2) := by decide +kernel
theorem dX9_its_8 : decode cX9_its 8 = .ok (.iload_n 1, 1) := by decide +kernel
theorem dX9_its_9 : decode cX9_its 9 = .ok (.imul, 1) := by decide +kernel
theorem dX9_its_10 : decode cX9_its 10 = .ok (.iadd, 1) := by decide +kernel
theorem dX9_its_11 : decode cX9_its 11 = .ok (.iload_n 2, 1) := by decide +kernel
theorem dX9_its_12 : decode cX9_its 12 = .ok (.iadd, 1) := by decide +kernel
theorem dX9_its_13 : decode cX9_its 13 = .ok (.iaload, 1) := by decide +kernel
theorem dX9_its_14 : decode cX9_its 14 = .ok (.ireturn, 1) := by decide +kernel
abbrev rmX9_its : Room := { frames := 0, cells := 0, slots := 0, locals := 0 }
theorem hdX9_its : yX9_its.cls ≠ "java/lang/invoke/MethodHandle" ∧ yX9_its.cls ≠ "java/lang/invoke/VarHandle" ∧ (parseMethodDescriptor yX9_its.desc).map (fun d => d.parameters.length) = some 2 := by decide +kernel
def fX9_its (σ : Sg) (b : Nat) (p1 : Int32) (p2 : Int32) : Option Int32 :=
  if ck ((72 + (6 * p1)) + p2) 921 then
    some (σ.1 (b + 1) ((72 + (6 * p1)) + p2).toNatClampNeg)
  else none
theorem kX9_its (X : Xc) (σ : Sg) (b : Nat) (p1 : Int32) (p2 : Int32) (hb : moOK b) : ∀ r, fX9_its σ b p1 p2 = some r → Met X.l yX9_its (wsM yX9_its cX9_its 3 (some .int)) rmX9_its (va_Pc [.ref (X.ad b), .int p1, .int p2] (PW X σ)) (Qi X r σ) 0 0 X.A := by
  refine mt_of (own := RX9) (lo := [some (.ref (X.ad b)), some (.int (p1)), some (.int (p2))]) (by decide) rfl (Nat.le_of_ble_eq_true rfl) rfl (fun K C hr => ?_)
  unfold fX9_its
  refine g_aload_n (pc := 0) (i := 0) C dX9_its_0 rfl rfl ?_
  refine g_getr (pc := 1) (ci := 9) (N := 27) (T := TX9) (j := 0) (Cn := RX9) (b + 1) C rfl inlX9 (Nat.le_of_ble_eq_true rfl) q_6_2 (blk hb 0 rfl) rfl dX9_its_1 ?_
  refine g_bipush (pc := 4) (v := 72) C dX9_its_4 (by decide) ?_
  refine g_bipush (pc := 6) (v := 6) C dX9_its_6 (by decide) ?_
  refine g_iload_n (pc := 8) (i := 1) C dX9_its_8 rfl rfl ?_
  refine g_imul (pc := 9) C dX9_its_9 ?_
  refine g_iadd (pc := 10) C dX9_its_10 ?_
  refine g_iload_n (pc := 11) (i := 2) C dX9_its_11 rfl rfl ?_
  refine g_iadd (pc := 12) C dX9_its_12 ?_
  refine g_iaload (pc := 13) C (blk hb 1 rfl) dX9_its_13 ?_
  exact g_iret (pc := 14) C hr dX9_its_14 rfl
theorem dX9_lay_0 : decode cX9_lay 0 = .ok (.aload_n 0, 1) := by decide +kernel
theorem dX9_lay_1 : decode cX9_lay 1 = .ok (.getfield 7, 3) := by decide +kernel
theorem dX9_lay_4 : decode cX9_lay 4 = .ok (.bipush 72, 2) := by decide +kernel
theorem dX9_lay_6 : decode cX9_lay 6 = .ok (.bipush 6, 2) := by decide +kernel
theorem dX9_lay_8 : decode cX9_lay 8 = .ok (.iload_n 1, 1) := by decide +kernel
theorem dX9_lay_9 : decode cX9_lay 9 = .ok (.imul, 1) := by decide +kernel
theorem dX9_lay_10 : decode cX9_lay 10 = .ok (.iadd, 1) := by decide +kernel
theorem dX9_lay_11 : decode cX9_lay 11 = .ok (.iload_n 2, 1) := by decide +kernel
theorem dX9_lay_12 : decode cX9_lay 12 = .ok (.iadd, 1) := by decide +kernel
theorem dX9_lay_13 : decode cX9_lay 13 = .ok (.iload_n 3, 1) := by decide +kernel
theorem dX9_lay_14 : decode cX9_lay 14 = .ok (.iastore, 1) := by decide +kernel
theorem dX9_lay_15 : decode cX9_lay 15 = .ok (.return_, 1) := by decide +kernel
abbrev rmX9_lay : Room := { frames := 0, cells := 0, slots := 0, locals := 0 }
theorem hdX9_lay : yX9_lay.cls ≠ "java/lang/invoke/MethodHandle" ∧ yX9_lay.cls ≠ "java/lang/invoke/VarHandle" ∧ (parseMethodDescriptor yX9_lay.desc).map (fun d => d.parameters.length) = some 3 := by decide +kernel
def fX9_lay (σ : Sg) (b : Nat) (p1 : Int32) (p2 : Int32) (p3 : Int32) : Option Sg :=
  if ck ((72 + (6 * p1)) + p2) 921 then
    nm (su σ (b + 1) ((72 + (6 * p1)) + p2).toNatClampNeg p3) fun σ1 =>
    some σ1
  else none
theorem kX9_lay (X : Xc) (σ : Sg) (b : Nat) (p1 : Int32) (p2 : Int32) (p3 : Int32) (hb : moOK b) : ∀ r, fX9_lay σ b p1 p2 p3 = some r → Met X.l yX9_lay (wsM yX9_lay cX9_lay 4 none) rmX9_lay (va_Pc [.ref (X.ad b), .int p1, .int p2, .int p3] (PW X σ)) (Qv X r) 0 0 X.A := by
  refine mt_of (own := RX9) (lo := [some (.ref (X.ad b)), some (.int (p1)), some (.int (p2)), some (.int (p3))]) (by decide) rfl (Nat.le_of_ble_eq_true rfl) rfl (fun K C hr => ?_)
  unfold fX9_lay
  refine g_aload_n (pc := 0) (i := 0) C dX9_lay_0 rfl rfl ?_
  refine g_getr (pc := 1) (ci := 9) (N := 27) (T := TX9) (j := 0) (Cn := RX9) (b + 1) C rfl inlX9 (Nat.le_of_ble_eq_true rfl) q_6_2 (blk hb 0 rfl) rfl dX9_lay_1 ?_
  refine g_bipush (pc := 4) (v := 72) C dX9_lay_4 (by decide) ?_
  refine g_bipush (pc := 6) (v := 6) C dX9_lay_6 (by decide) ?_
  refine g_iload_n (pc := 8) (i := 1) C dX9_lay_8 rfl rfl ?_
  refine g_imul (pc := 9) C dX9_lay_9 ?_
  refine g_iadd (pc := 10) C dX9_lay_10 ?_
  refine g_iload_n (pc := 11) (i := 2) C dX9_lay_11 rfl rfl ?_
  refine g_iadd (pc := 12) C dX9_lay_12 ?_
  refine g_iload_n (pc := 13) (i := 3) C dX9_lay_13 rfl rfl ?_
  refine g_iastore (pc := 14) C (blk hb 1 rfl) dX9_lay_14 ?_
  refine g_nms (fun σ1 => ?_)
  exact g_vret (pc := 15) C hr dX9_lay_15 rfl
theorem dX9_window_0 : decode cX9_window 0 = .ok (.aload_n 0, 1) := by decide +kernel
theorem dX9_window_1 : decode cX9_window 1 = .ok (.getfield 7, 3) := by decide +kernel
theorem dX9_window_4 : decode cX9_window 4 = .ok (.sipush 216, 3) := by decide +kernel
theorem dX9_window_7 : decode cX9_window 7 = .ok (.bipush 6, 2) := by decide +kernel
theorem dX9_window_9 : decode cX9_window 9 = .ok (.iload_n 1, 1) := by decide +kernel
theorem dX9_window_10 : decode cX9_window 10 = .ok (.imul, 1) := by decide +kernel
theorem dX9_window_11 : decode cX9_window 11 = .ok (.iadd, 1) := by decide +kernel
theorem dX9_window_12 : decode cX9_window 12 = .ok (.iload_n 2, 1) := by decide +kernel
theorem dX9_window_13 : decode cX9_window 13 = .ok (.iadd, 1) := by decide +kernel
theorem dX9_window_14 : decode cX9_window 14 = .ok (.iaload, 1) := by decide +kernel
theorem dX9_window_15 : decode cX9_window 15 = .ok (.ireturn, 1) := by decide +kernel
abbrev rmX9_window : Room := { frames := 0, cells := 0, slots := 0, locals := 0 }
theorem hdX9_window : yX9_window.cls ≠ "java/lang/invoke/MethodHandle" ∧ yX9_window.cls ≠ "java/lang/invoke/VarHandle" ∧ (parseMethodDescriptor yX9_window.desc).map (fun d => d.parameters.length) = some 3 := by decide +kernel
def fX9_window (σ : Sg) (b : Nat) (p1 : Int32) (p2 : Int32) (p3 : Int32) : Option Int32 :=
  if ck ((216 + (6 * p1)) + p2) 921 then
    some (σ.1 (b + 1) ((216 + (6 * p1)) + p2).toNatClampNeg)
  else none
theorem kX9_window (X : Xc) (σ : Sg) (b : Nat) (p1 : Int32) (p2 : Int32) (p3 : Int32) (hb : moOK b) : ∀ r, fX9_window σ b p1 p2 p3 = some r → Met X.l yX9_window (wsM yX9_window cX9_window 4 (some .int)) rmX9_window (va_Pc [.ref (X.ad b), .int p1, .int p2, .int p3] (PW X σ)) (Qi X r σ) 0 0 X.A := by
  refine mt_of (own := RX9) (lo := [some (.ref (X.ad b)), some (.int (p1)), some (.int (p2)), some (.int (p3))]) (by decide) rfl (Nat.le_of_ble_eq_true rfl) rfl (fun K C hr => ?_)
  unfold fX9_window
  refine g_aload_n (pc := 0) (i := 0) C dX9_window_0 rfl rfl ?_
  refine g_getr (pc := 1) (ci := 9) (N := 27) (T := TX9) (j := 0) (Cn := RX9) (b + 1) C rfl inlX9 (Nat.le_of_ble_eq_true rfl) q_6_2 (blk hb 0 rfl) rfl dX9_window_1 ?_
  refine g_sipush (pc := 4) (v := 216) C dX9_window_4 (by decide) ?_
  refine g_bipush (pc := 7) (v := 6) C dX9_window_7 (by decide) ?_
  refine g_iload_n (pc := 9) (i := 1) C dX9_window_9 rfl rfl ?_
  refine g_imul (pc := 10) C dX9_window_10 ?_
  refine g_iadd (pc := 11) C dX9_window_11 ?_
  refine g_iload_n (pc := 12) (i := 2) C dX9_window_12 rfl rfl ?_
  refine g_iadd (pc := 13) C dX9_window_13 ?_
  refine g_iaload (pc := 14) C (blk hb 1 rfl) dX9_window_14 ?_
  exact g_iret (pc := 15) C hr dX9_window_15 rfl
theorem dX9_puts_0 : decode cX9_puts 0 = .ok (.aload_n 0, 1) := by decide +kernel
theorem dX9_puts_1 : decode cX9_puts 1 = .ok (.getfield 7, 3) := by decide +kernel
theorem dX9_puts_4 : decode cX9_puts 4 = .ok (.sipush 216, 3) := by decide +kernel
theorem dX9_puts_7 : decode cX9_puts 7 = .ok (.bipush 6, 2) := by decide +kernel
theorem dX9_puts_9 : decode cX9_puts 9 = .ok (.iload_n 1, 1) := by decide +kernel
theorem dX9_puts_10 : decode cX9_puts 10 = .ok (.imul, 1) := by decide +kernel
theorem dX9_puts_11 : decode cX9_puts 11 = .ok (.iadd, 1) := by decide +kernel
theorem dX9_puts_12 : decode cX9_puts 12 = .ok (.iload_n 2, 1) := by decide +kernel
theorem dX9_puts_13 : decode cX9_puts 13 = .ok (.iadd, 1) := by decide +kernel
theorem dX9_puts_14 : decode cX9_puts 14 = .ok (.iload_n 3, 1) := by decide +kernel
theorem dX9_puts_15 : decode cX9_puts 15 = .ok (.iastore, 1) := by decide +kernel
theorem dX9_puts_16 : decode cX9_puts 16 = .ok (.return_, 1) := by decide +kernel
abbrev rmX9_puts : Room := { frames := 0, cells := 0, slots := 0, locals := 0 }
theorem hdX9_puts : yX9_puts.cls ≠ "java/lang/invoke/MethodHandle" ∧ yX9_puts.cls ≠ "java/lang/invoke/VarHandle" ∧ (parseMethodDescriptor yX9_puts.desc).map (fun d => d.parameters.length) = some 3 := by decide +kernel
def fX9_puts (σ : Sg) (b : Nat) (p1 : Int32) (p2 : Int32) (p3 : Int32) : Option Sg :=
  if ck ((216 + (6 * p1)) + p2) 921 then
    nm (su σ (b + 1) ((216 + (6 * p1)) + p2).toNatClampNeg p3) fun σ1 =>
    some σ1
  else none
theorem kX9_puts (X : Xc) (σ : Sg) (b : Nat) (p1 : Int32) (p2 : Int32) (p3 : Int32) (hb : moOK b) : ∀ r, fX9_puts σ b p1 p2 p3 = some r → Met X.l yX9_puts (wsM yX9_puts cX9_puts 4 none) rmX9_puts (va_Pc [.ref (X.ad b), .int p1, .int p2, .int p3] (PW X σ)) (Qv X r) 0 0 X.A := by
  refine mt_of (own := RX9) (lo := [some (.ref (X.ad b)), some (.int (p1)), some (.int (p2)), some (.int (p3))]) (by decide) rfl (Nat.le_of_ble_eq_true rfl) rfl (fun K C hr => ?_)
  unfold fX9_puts
  refine g_aload_n (pc := 0) (i := 0) C dX9_puts_0 rfl rfl ?_
  refine g_getr (pc := 1) (ci := 9) (N := 27) (T := TX9) (j := 0) (Cn := RX9) (b + 1) C rfl inlX9 (Nat.le_of_ble_eq_true rfl) q_6_2 (blk hb 0 rfl) rfl dX9_puts_1 ?_
  refine g_sipush (pc := 4) (v := 216) C dX9_puts_4 (by decide) ?_
  refine g_bipush (pc := 7) (v := 6) C dX9_puts_7 (by decide) ?_
  refine g_iload_n (pc := 9) (i := 1) C dX9_puts_9 rfl rfl ?_
  refine g_imul (pc := 10) C dX9_puts_10 ?_
  refine g_iadd (pc := 11) C dX9_puts_11 ?_
  refine g_iload_n (pc := 12) (i := 2) C dX9_puts_12 rfl rfl ?_
  refine g_iadd (pc := 13) C dX9_puts_13 ?_
  refine g_iload_n (pc := 14) (i := 3) C dX9_puts_14 rfl rfl ?_
  refine g_iastore (pc := 15) C (blk hb 1 rfl) dX9_puts_15 ?_
  refine g_nms (fun σ1 => ?_)
  exact g_vret (pc := 16) C hr dX9_puts_16 rfl
theorem dX9_isWindow_0 : decode cX9_isWindow 0 = .ok (.iload_n 1, 1) := by decide +kernel
theorem dX9_isWindow_1 : decode cX9_isWindow 1 = .ok (.iconst 0, 1) := by decide +kernel
theorem dX9_isWindow_2 : decode cX9_isWindow 2 = .ok (.iconst 4, 1) := by decide +kernel
theorem dX9_isWindow_3 : decode cX9_isWindow 3 = .ok (.invokestatic 61, 3) := by decide +kernel
theorem dX9_isWindow_6 : decode cX9_isWindow 6 = .ok (.ifCond .eq 18, 3) := by decide +kernel
theorem dX9_isWindow_9 : decode cX9_isWindow 9 = .ok (.aload_n 0, 1) := by decide +kernel
theorem dX9_isWindow_10 : decode cX9_isWindow 10 = .ok (.iload_n 1, 1) := by decide +kernel
theorem dX9_isWindow_11 : decode cX9_isWindow 11 = .ok (.iconst 0, 1) := by decide +kernel
theorem dX9_isWindow_12 : decode cX9_isWindow 12 = .ok (.iconst 1, 1) := by decide +kernel
theorem dX9_isWindow_13 : decode cX9_isWindow 13 = .ok (.invokevirtual 72, 3) := by decide +kernel
theorem dX9_isWindow_16 : decode cX9_isWindow 16 = .ok (.iconst 1, 1) := by decide +kernel
theorem dX9_isWindow_17 : decode cX9_isWindow 17 = .ok (.if_icmp .ne 7, 3) := by decide +kernel
theorem dX9_isWindow_20 : decode cX9_isWindow 20 = .ok (.iconst 1, 1) := by decide +kernel
theorem dX9_isWindow_21 : decode cX9_isWindow 21 = .ok (.goto 4, 3) := by decide +kernel
theorem dX9_isWindow_24 : decode cX9_isWindow 24 = .ok (.iconst 0, 1) := by decide +kernel
theorem dX9_isWindow_25 : decode cX9_isWindow 25 = .ok (.ireturn, 1) := by decide +kernel
abbrev rmX9_isWindow : Room := { frames := 1, cells := 0, slots := 0, locals := 23 }
theorem hdX9_isWindow : yX9_isWindow.cls ≠ "java/lang/invoke/MethodHandle" ∧ yX9_isWindow.cls ≠ "java/lang/invoke/VarHandle" ∧ (parseMethodDescriptor yX9_isWindow.desc).map (fun d => d.parameters.length) = some 1 := by decide +kernel
def fX9_isWindow (σ : Sg) (b : Nat) (p1 : Int32) : Option Bool :=
  (fX9_within σ p1 0 4).bind fun r1 =>
  if r1 = true then
    (fX9_window σ b p1 0 1).bind fun r2 =>
    if r2 = 1 then
      some true
    else
      some false
  else
    some false
theorem kX9_isWindow (X : Xc) (σ : Sg) (b : Nat) (p1 : Int32) (hb : moOK b) : ∀ r, fX9_isWindow σ b p1 = some r → Met X.l yX9_isWindow (wsM yX9_isWindow cX9_isWindow 2 (some .boolean)) rmX9_isWindow (va_Pc [.ref (X.ad b), .int p1] (PW X σ)) (Qi X (b2i r) σ) 0 0 X.A := by
  refine mt_of (own := RX9) (lo := [some (.ref (X.ad b)), some (.int (p1))]) (by decide) rfl (Nat.le_of_ble_eq_true rfl) rfl (fun K C hr => ?_)
  unfold fX9_isWindow
  refine g_iload_n (pc := 0) (i := 1) C dX9_isWindow_0 rfl rfl ?_
  refine g_iconst (pc := 1) (v := 0) C dX9_isWindow_1 (by decide) ?_
  refine g_iconst (pc := 2) (v := 4) C dX9_isWindow_2 (by decide) ?_
  refine g_callSi (pc := 3) (As := [.int (p1), .int (0), .int (4)]) C (kX9_within X σ p1 0 4) q_10_6 q_10_7 q_1_5 q_10_8 hdX9_within ⟨Nat.le_of_ble_eq_true rfl, Nat.le_of_ble_eq_true rfl, rfl, rfl⟩ ⟨Nat.zero_le _, Nat.zero_le _⟩ (Nat.le_of_ble_eq_true rfl) rfl rfl dX9_isWindow_3 (fun r1 _ => ?_)
  refine g_ifb_eq (pc := 6) (tgt := 24) C dX9_isWindow_6 rfl ?_ ?_
  · refine g_aload_n (pc := 9) (i := 0) C dX9_isWindow_9 rfl rfl ?_
    refine g_iload_n (pc := 10) (i := 1) C dX9_isWindow_10 rfl rfl ?_
    refine g_iconst (pc := 11) (v := 0) C dX9_isWindow_11 (by decide) ?_
    refine g_iconst (pc := 12) (v := 1) C dX9_isWindow_12 (by decide) ?_
    refine g_callVi (pc := 13) (As := [.int (p1), .int (0), .int (1)]) C (kX9_window X σ b p1 0 1 hb) (blk hb 0 rfl) rfl q_22_12 q_22_13 q_22_14 q_1_5 q_22_15 ⟨rfl, hdX9_window⟩ ⟨Nat.le_of_ble_eq_true rfl, Nat.le_of_ble_eq_true rfl, rfl, rfl⟩ ⟨Nat.zero_le _, Nat.zero_le _⟩ (Nat.le_of_ble_eq_true rfl) rfl rfl dX9_isWindow_13 (fun r2 _ => ?_)
    refine g_iconst (pc := 16) (v := 1) C dX9_isWindow_16 (by decide) ?_
    refine g_icmp_ne (pc := 17) (tgt := 24) C dX9_isWindow_17 rfl ?_ ?_
    · refine g_iconst (pc := 20) (v := 1) C dX9_isWindow_20 (by decide) ?_
      refine g_goto (pc := 21) (tgt := 25) C dX9_isWindow_21 rfl ?_
      exact g_zret (pc := 25) C hr dX9_isWindow_25 rfl
    · refine g_iconst (pc := 24) (v := 0) C dX9_isWindow_24 (by decide) ?_
      exact g_zret (pc := 25) C hr dX9_isWindow_25 rfl
  · refine g_iconst (pc := 24) (v := 0) C dX9_isWindow_24 (by decide) ?_
    exact g_zret (pc := 25) C hr dX9_isWindow_25 rfl
theorem dX9_newNode_0 : decode cX9_newNode 0 = .ok (.iconst 0, 1) := by decide +kernel
theorem dX9_newNode_1 : decode cX9_newNode 1 = .ok (.istore_n 2, 1) := by decide +kernel
theorem dX9_newNode_2 : decode cX9_newNode 2 = .ok (.aload_n 0, 1) := by decide +kernel
theorem dX9_newNode_3 : decode cX9_newNode 3 = .ok (.iload_n 2, 1) := by decide +kernel
theorem dX9_newNode_4 : decode cX9_newNode 4 = .ok (.iconst 0, 1) := by decide +kernel
theorem dX9_newNode_5 : decode cX9_newNode 5 = .ok (.invokevirtual 76, 3) := by decide +kernel
theorem dX9_newNode_8 : decode cX9_newNode 8 = .ok (.ifCond .eq 9, 3) := by decide +kernel
theorem dX9_newNode_11 : decode cX9_newNode 11 = .ok (.iinc 2 1, 3) := by decide +kernel
theorem dX9_newNode_14 : decode cX9_newNode 14 = .ok (.goto (-12), 3) := by decide +kernel
theorem dX9_newNode_17 : decode cX9_newNode 17 = .ok (.aload_n 0, 1) := by decide +kernel
theorem dX9_newNode_18 : decode cX9_newNode 18 = .ok (.iload_n 2, 1) := by decide +kernel
theorem dX9_newNode_19 : decode cX9_newNode 19 = .ok (.iconst 0, 1) := by decide +kernel
theorem dX9_newNode_20 : decode cX9_newNode 20 = .ok (.iload_n 1, 1) := by decide +kernel
theorem dX9_newNode_21 : decode cX9_newNode 21 = .ok (.invokevirtual 79, 3) := by decide +kernel
theorem dX9_newNode_24 : decode cX9_newNode 24 = .ok (.aload_n 0, 1) := by decide +kernel
theorem dX9_newNode_25 : decode cX9_newNode 25 = .ok (.iload_n 2, 1) := by decide +kernel
theorem dX9_newNode_26 : decode cX9_newNode 26 = .ok (.iconst 1, 1) := by decide +kernel
theorem dX9_newNode_27 : decode cX9_newNode 27 = .ok (.iconst (-1), 1) := by decide +kernel
theorem dX9_newNode_28 : decode cX9_newNode 28 = .ok (.invokevirtual 79, 3) := by decide +kernel
theorem dX9_newNode_31 : decode cX9_newNode 31 = .ok (.aload_n 0, 1) := by decide +kernel
theorem dX9_newNode_32 : decode cX9_newNode 32 = .ok (.iload_n 2, 1) := by decide +kernel
theorem dX9_newNode_33 : decode cX9_newNode 33 = .ok (.iconst 2, 1) := by decide +kernel
theorem dX9_newNode_34 : decode cX9_newNode 34 = .ok (.iconst 0, 1) := by decide +kernel
theorem dX9_newNode_35 : decode cX9_newNode 35 = .ok (.invokevirtual 79, 3) := by decide +kernel
theorem dX9_newNode_38 : decode cX9_newNode 38 = .ok (.aload_n 0, 1) := by decide +kernel
theorem dX9_newNode_39 : decode cX9_newNode 39 = .ok (.iload_n 2, 1) := by decide +kernel
theorem dX9_newNode_40 : decode cX9_newNode 40 = .ok (.iconst 3, 1) := by decide +kernel
theorem dX9_newNode_41 : decode cX9_newNode 41 = .ok (.sipush 1000, 3) := by decide +kernel
theorem dX9_newNode_44 : decode cX9_newNode 44 = .ok (.invokevirtual 79, 3) := by decide +kernel
theorem dX9_newNode_47 : decode cX9_newNode 47 = .ok (.aload_n 0, 1) := by decide +kernel
theorem dX9_newNode_48 : decode cX9_newNode 48 = .ok (.iload_n 2, 1) := by decide +kernel
theorem dX9_newNode_49 : decode cX9_newNode 49 = .ok (.iconst 4, 1) := by decide +kernel
theorem dX9_newNode_50 : decode cX9_newNode 50 = .ok (.iconst 0, 1) := by decide +kernel
theorem dX9_newNode_51 : decode cX9_newNode 51 = .ok (.invokevirtual 79, 3) := by decide +kernel
theorem dX9_newNode_54 : decode cX9_newNode 54 = .ok (.aload_n 0, 1) := by decide +kernel
theorem dX9_newNode_55 : decode cX9_newNode 55 = .ok (.iload_n 2, 1) := by decide +kernel
theorem dX9_newNode_56 : decode cX9_newNode 56 = .ok (.iconst 5, 1) := by decide +kernel
theorem dX9_newNode_57 : decode cX9_newNode 57 = .ok (.iconst (-1), 1) := by decide +kernel
theorem dX9_newNode_58 : decode cX9_newNode 58 = .ok (.invokevirtual 79, 3) := by decide +kernel
theorem dX9_newNode_61 : decode cX9_newNode 61 = .ok (.iload_n 2, 1) := by decide +kernel
theorem dX9_newNode_62 : decode cX9_newNode 62 = .ok (.ireturn, 1) := by decide +kernel
abbrev rmX9_newNode : Room := { frames := 1, cells := 0, slots := 0, locals := 23 }
theorem hdX9_newNode : yX9_newNode.cls ≠ "java/lang/invoke/MethodHandle" ∧ yX9_newNode.cls ≠ "java/lang/invoke/VarHandle" ∧ (parseMethodDescriptor yX9_newNode.desc).map (fun d => d.parameters.length) = some 1 := by decide +kernel
def fX9_newNode_2 (b : Nat) : Nat → Sg → Int32 → Int32 → Option (Int32 × Sg)
  | 0, _, _, _ => none
  | n + 1, σ, l1, l2 =>
    (fX9_its σ b l2 0).bind fun r1 =>
    if r1 = 0 then
      (fX9_lay σ b l2 0 l1).bind fun σ2 =>
      (fX9_lay σ2 b l2 1 (-1)).bind fun σ3 =>
      (fX9_lay σ3 b l2 2 0).bind fun σ4 =>
      (fX9_lay σ4 b l2 3 1000).bind fun σ5 =>
      (fX9_lay σ5 b l2 4 0).bind fun σ6 =>
      (fX9_lay σ6 b l2 5 (-1)).bind fun σ7 =>
      some (l2, σ7)
    else
      ((fX9_newNode_2 b n) σ l1 (l2 + 1))
theorem bX9_newNode_2 {X : Xc} {K : Kc} (C : MC X K cX9_newNode 3 RX9 rmX9_newNode) (hr : K.meth.sig.returnType = (some .int)) (b : Nat) (hb : moOK b) : ∀ (n : Nat) (σ : Sg) (l1 : Int32) (l2 : Int32), GO X K 3 (fun r => MQi X K r.1 r.2) (fX9_newNode_2 b n σ l1 l2) σ 0 0 2 [some (.ref (X.ad b)), some (.int (l1)), some (.int (l2))] [] := by
  intro n
  induction n with
  | zero =>
    intro σ l1 l2
    exact g_none
  | succ n ih =>
    intro σ l1 l2
    unfold fX9_newNode_2
    refine g_aload_n (pc := 2) (i := 0) C dX9_newNode_2 rfl rfl ?_
    refine g_iload_n (pc := 3) (i := 2) C dX9_newNode_3 rfl rfl ?_
    refine g_iconst (pc := 4) (v := 0) C dX9_newNode_4 (by decide) ?_
    refine g_callVi (pc := 5) (As := [.int (l2), .int (0)]) C (kX9_its X σ b l2 0 hb) (blk hb 0 rfl) rfl q_20_12 q_20_13 q_20_14 q_1_5 q_20_15 ⟨rfl, hdX9_its⟩ ⟨Nat.le_of_ble_eq_true rfl, Nat.le_of_ble_eq_true rfl, rfl, rfl⟩ ⟨Nat.zero_le _, Nat.zero_le _⟩ (Nat.le_of_ble_eq_true rfl) rfl rfl dX9_newNode_5 (fun r1 _ => ?_)
    refine g_if_eq (pc := 8) (tgt := 17) C dX9_newNode_8 rfl ?_ ?_
    · refine g_aload_n (pc := 17) (i := 0) C dX9_newNode_17 rfl rfl ?_
      refine g_iload_n (pc := 18) (i := 2) C dX9_newNode_18 rfl rfl ?_
      refine g_iconst (pc := 19) (v := 0) C dX9_newNode_19 (by decide) ?_
      refine g_iload_n (pc := 20) (i := 1) C dX9_newNode_20 rfl rfl ?_
      refine g_callVv (pc := 21) (As := [.int (l2), .int (0), .int (l1)]) C (kX9_lay X σ b l2 0 l1 hb) (blk hb 0 rfl) rfl q_21_0 q_21_1 q_21_2 q_1_5 q_21_3 ⟨rfl, hdX9_lay⟩ ⟨Nat.le_of_ble_eq_true rfl, Nat.le_of_ble_eq_true rfl, rfl, rfl⟩ ⟨Nat.zero_le _, Nat.zero_le _⟩ (Nat.le_of_ble_eq_true rfl) rfl rfl dX9_newNode_21 (fun σ2 _ => ?_)
      refine g_aload_n (pc := 24) (i := 0) C dX9_newNode_24 rfl rfl ?_
      refine g_iload_n (pc := 25) (i := 2) C dX9_newNode_25 rfl rfl ?_
      refine g_iconst (pc := 26) (v := 1) C dX9_newNode_26 (by decide) ?_
      refine g_iconst (pc := 27) (v := (-1)) C dX9_newNode_27 (by decide) ?_
      refine g_callVv (pc := 28) (As := [.int (l2), .int (1), .int ((-1))]) C (kX9_lay X σ2 b l2 1 (-1) hb) (blk hb 0 rfl) rfl q_21_0 q_21_1 q_21_2 q_1_5 q_21_3 ⟨rfl, hdX9_lay⟩ ⟨Nat.le_of_ble_eq_true rfl, Nat.le_of_ble_eq_true rfl, rfl, rfl⟩ ⟨Nat.zero_le _, Nat.zero_le _⟩ (Nat.le_of_ble_eq_true rfl) rfl rfl dX9_newNode_28 (fun σ3 _ => ?_)
      refine g_aload_n (pc := 31) (i := 0) C dX9_newNode_31 rfl rfl ?_
      refine g_iload_n (pc := 32) (i := 2) C dX9_newNode_32 rfl rfl ?_
      refine g_iconst (pc := 33) (v := 2) C dX9_newNode_33 (by decide) ?_
      refine g_iconst (pc := 34) (v := 0) C dX9_newNode_34 (by decide) ?_
      refine g_callVv (pc := 35) (As := [.int (l2), .int (2), .int (0)]) C (kX9_lay X σ3 b l2 2 0 hb) (blk hb 0 rfl) rfl q_21_0 q_21_1 q_21_2 q_1_5 q_21_3 ⟨rfl, hdX9_lay⟩ ⟨Nat.le_of_ble_eq_true rfl, Nat.le_of_ble_eq_true rfl, rfl, rfl⟩ ⟨Nat.zero_le _, Nat.zero_le _⟩ (Nat.le_of_ble_eq_true rfl) rfl rfl dX9_newNode_35 (fun σ4 _ => ?_)
      refine g_aload_n (pc := 38) (i := 0) C dX9_newNode_38 rfl rfl ?_
      refine g_iload_n (pc := 39) (i := 2) C dX9_newNode_39 rfl rfl ?_
      refine g_iconst (pc := 40) (v := 3) C dX9_newNode_40 (by decide) ?_
      refine g_sipush (pc := 41) (v := 1000) C dX9_newNode_41 (by decide) ?_
      refine g_callVv (pc := 44) (As := [.int (l2), .int (3), .int (1000)]) C (kX9_lay X σ4 b l2 3 1000 hb) (blk hb 0 rfl) rfl q_21_0 q_21_1 q_21_2 q_1_5 q_21_3 ⟨rfl, hdX9_lay⟩ ⟨Nat.le_of_ble_eq_true rfl, Nat.le_of_ble_eq_true rfl, rfl, rfl⟩ ⟨Nat.zero_le _, Nat.zero_le _⟩ (Nat.le_of_ble_eq_true rfl) rfl rfl dX9_newNode_44 (fun σ5 _ => ?_)
      refine g_aload_n (pc := 47) (i := 0) C dX9_newNode_47 rfl rfl ?_
      refine g_iload_n (pc := 48) (i := 2) C dX9_newNode_48 rfl rfl ?_
      refine g_iconst (pc := 49) (v := 4) C dX9_newNode_49 (by decide) ?_
      refine g_iconst (pc := 50) (v := 0) C dX9_newNode_50 (by decide) ?_
      refine g_callVv (pc := 51) (As := [.int (l2), .int (4), .int (0)]) C (kX9_lay X σ5 b l2 4 0 hb) (blk hb 0 rfl) rfl q_21_0 q_21_1 q_21_2 q_1_5 q_21_3 ⟨rfl, hdX9_lay⟩ ⟨Nat.le_of_ble_eq_true rfl, Nat.le_of_ble_eq_true rfl, rfl, rfl⟩ ⟨Nat.zero_le _, Nat.zero_le _⟩ (Nat.le_of_ble_eq_true rfl) rfl rfl dX9_newNode_51 (fun σ6 _ => ?_)
      refine g_aload_n (pc := 54) (i := 0) C dX9_newNode_54 rfl rfl ?_
      refine g_iload_n (pc := 55) (i := 2) C dX9_newNode_55 rfl rfl ?_
      refine g_iconst (pc := 56) (v := 5) C dX9_newNode_56 (by decide) ?_
      refine g_iconst (pc := 57) (v := (-1)) C dX9_newNode_57 (by decide) ?_
      refine g_callVv (pc := 58) (As := [.int (l2), .int (5), .int ((-1))]) C (kX9_lay X σ6 b l2 5 (-1) hb) (blk hb 0 rfl) rfl q_21_0 q_21_1 q_21_2 q_1_5 q_21_3 ⟨rfl, hdX9_lay⟩ ⟨Nat.le_of_ble_eq_true rfl, Nat.le_of_ble_eq_true rfl, rfl, rfl⟩ ⟨Nat.zero_le _, Nat.zero_le _⟩ (Nat.le_of_ble_eq_true rfl) rfl rfl dX9_newNode_58 (fun σ7 _ => ?_)
      refine g_iload_n (pc := 61) (i := 2) C dX9_newNode_61 rfl rfl ?_
      exact g_iret (pc := 62) C hr dX9_newNode_62 rfl
    · refine g_iinc (pc := 11) (v := l2 + 1) C dX9_newNode_11 rfl (rfl) (Nat.le_of_ble_eq_true rfl) rfl ?_
      refine g_goto (pc := 14) (tgt := 2) C dX9_newNode_14 rfl ?_
      refine g_keep [true, true, true] ?_
      exact ih σ l1 (l2 + 1)
def fX9_newNode (σ : Sg) (b : Nat) (p1 : Int32) : Option (Int32 × Sg) :=
  (fX9_newNode_2 b FU σ p1 0)
theorem kX9_newNode (X : Xc) (σ : Sg) (b : Nat) (p1 : Int32) (hb : moOK b) : ∀ r, fX9_newNode σ b p1 = some r → Met X.l yX9_newNode (wsM yX9_newNode cX9_newNode 3 (some .int)) rmX9_newNode (va_Pc [.ref (X.ad b), .int p1] (PW X σ)) (Qi X r.1 r.2) 0 0 X.A := by
  refine mt_of (own := RX9) (lo := [some (.ref (X.ad b)), some (.int (p1)), none]) (by decide) rfl (Nat.le_of_ble_eq_true rfl) rfl (fun K C hr => ?_)
  unfold fX9_newNode
  refine g_iconst (pc := 0) (v := 0) C dX9_newNode_0 (by decide) ?_
  refine g_istore_n (pc := 1) (i := 2) C dX9_newNode_1 rfl (Nat.le_of_ble_eq_true rfl) rfl ?_
  refine g_keep [true, true, true] ?_
  exact bX9_newNode_2 C hr b hb FU σ p1 0
theorem dX9_isChild_0 : decode cX9_isChild 0 = .ok (.aload_n 0, 1) := by decide +kernel
theorem dX9_isChild_1 : decode cX9_isChild 1 = .ok (.iload_n 1, 1) := by decide +kernel
theorem dX9_isChild_2 : decode cX9_isChild 2 = .ok (.iconst 0, 1) := by decide +kernel
theorem dX9_isChild_3 : decode cX9_isChild 3 = .ok (.invokevirtual 76, 3) := by decide +kernel
theorem dX9_isChild_6 : decode cX9_isChild 6 = .ok (.ifCond .eq 17, 3) := by decide +kernel
theorem dX9_isChild_9 : decode cX9_isChild 9 = .ok (.aload_n 0, 1) := by decide +kernel
theorem dX9_isChild_10 : decode cX9_isChild 10 = .ok (.iload_n 1, 1) := by decide +kernel
theorem dX9_isChild_11 : decode cX9_isChild 11 = .ok (.iconst 1, 1) := by decide +kernel
theorem dX9_isChild_12 : decode cX9_isChild 12 = .ok (.invokevirtual 76, 3) := by decide +kernel
theorem dX9_isChild_15 : decode cX9_isChild 15 = .ok (.iload_n 2, 1) := by decide +kernel
theorem dX9_isChild_16 : decode cX9_isChild 16 = .ok (.if_icmp .ne 7, 3) := by decide +kernel
theorem dX9_isChild_19 : decode cX9_isChild 19 = .ok (.iconst 1, 1) := by decide +kernel
theorem dX9_isChild_20 : decode cX9_isChild 20 = .ok (.goto 4, 3) := by decide +kernel
theorem dX9_isChild_23 : decode cX9_isChild 23 = .ok (.iconst 0, 1) := by decide +kernel
theorem dX9_isChild_24 : decode cX9_isChild 24 = .ok (.ireturn, 1) := by decide +kernel
abbrev rmX9_isChild : Room := { frames := 1, cells := 0, slots := 0, locals := 22 }
theorem hdX9_isChild : yX9_isChild.cls ≠ "java/lang/invoke/MethodHandle" ∧ yX9_isChild.cls ≠ "java/lang/invoke/VarHandle" ∧ (parseMethodDescriptor yX9_isChild.desc).map (fun d => d.parameters.length) = some 2 := by decide +kernel
def fX9_isChild (σ : Sg) (b : Nat) (p1 : Int32) (p2 : Int32) : Option Bool :=
  (fX9_its σ b p1 0).bind fun r1 =>
  if r1 = 0 then
    some false
  else
    (fX9_its σ b p1 1).bind fun r2 =>
    if r2 = p2 then
      some true
    else
      some false
theorem kX9_isChild (X : Xc) (σ : Sg) (b : Nat) (p1 : Int32) (p2 : Int32) (hb : moOK b) : ∀ r, fX9_isChild σ b p1 p2 = some r → Met X.l yX9_isChild (wsM yX9_isChild cX9_isChild 3 (some .boolean)) rmX9_isChild (va_Pc [.ref (X.ad b), .int p1, .int p2] (PW X σ)) (Qi X (b2i r) σ) 0 0 X.A := by
  refine mt_of (own := RX9) (lo := [some (.ref (X.ad b)), some (.int (p1)), some (.int (p2))]) (by decide) rfl (Nat.le_of_ble_eq_true rfl) rfl (fun K C hr => ?_)
  unfold fX9_isChild
  refine g_aload_n (pc := 0) (i := 0) C dX9_isChild_0 rfl rfl ?_
  refine g_iload_n (pc := 1) (i := 1) C dX9_isChild_1 rfl rfl ?_
  refine g_iconst (pc := 2) (v := 0) C dX9_isChild_2 (by decide) ?_
  refine g_callVi (pc := 3) (As := [.int (p1), .int (0)]) C (kX9_its X σ b p1 0 hb) (blk hb 0 rfl) rfl q_20_12 q_20_13 q_20_14 q_1_5 q_20_15 ⟨rfl, hdX9_its⟩ ⟨Nat.le_of_ble_eq_true rfl, Nat.le_of_ble_eq_true rfl, rfl, rfl⟩ ⟨Nat.zero_le _, Nat.zero_le _⟩ (Nat.le_of_ble_eq_true rfl) rfl rfl dX9_isChild_3 (fun r1 _ => ?_)
  refine g_if_eq (pc := 6) (tgt := 23) C dX9_isChild_6 rfl ?_ ?_
  · refine g_iconst (pc := 23) (v := 0) C dX9_isChild_23 (by decide) ?_
    exact g_zret (pc := 24) C hr dX9_isChild_24 rfl
  · refine g_aload_n (pc := 9) (i := 0) C dX9_isChild_9 rfl rfl ?_
    refine g_iload_n (pc := 10) (i := 1) C dX9_isChild_10 rfl rfl ?_
    refine g_iconst (pc := 11) (v := 1) C dX9_isChild_11 (by decide) ?_
    refine g_callVi (pc := 12) (As := [.int (p1), .int (1)]) C (kX9_its X σ b p1 1 hb) (blk hb 0 rfl) rfl q_20_12 q_20_13 q_20_14 q_1_5 q_20_15 ⟨rfl, hdX9_its⟩ ⟨Nat.le_of_ble_eq_true rfl, Nat.le_of_ble_eq_true rfl, rfl, rfl⟩ ⟨Nat.zero_le _, Nat.zero_le _⟩ (Nat.le_of_ble_eq_true rfl) rfl rfl dX9_isChild_12 (fun r2 _ => ?_)
    refine g_iload_n (pc := 15) (i := 2) C dX9_isChild_15 rfl rfl ?_
    refine g_icmp_ne (pc := 16) (tgt := 23) C dX9_isChild_16 rfl ?_ ?_
    · refine g_iconst (pc := 19) (v := 1) C dX9_isChild_19 (by decide) ?_
      refine g_goto (pc := 20) (tgt := 24) C dX9_isChild_20 rfl ?_
      exact g_zret (pc := 24) C hr dX9_isChild_24 rfl
    · refine g_iconst (pc := 23) (v := 0) C dX9_isChild_23 (by decide) ?_
      exact g_zret (pc := 24) C hr dX9_isChild_24 rfl
theorem dX9_childMany_0 : decode cX9_childMany 0 = .ok (.iconst 0, 1) := by decide +kernel
theorem dX9_childMany_1 : decode cX9_childMany 1 = .ok (.istore_n 2, 1) := by decide +kernel
theorem dX9_childMany_2 : decode cX9_childMany 2 = .ok (.iconst 0, 1) := by decide +kernel
theorem dX9_childMany_3 : decode cX9_childMany 3 = .ok (.istore_n 3, 1) := by decide +kernel
theorem dX9_childMany_4 : decode cX9_childMany 4 = .ok (.iload_n 3, 1) := by decide +kernel
theorem dX9_childMany_5 : decode cX9_childMany 5 = .ok (.bipush 24, 2) := by decide +kernel
theorem dX9_childMany_7 : decode cX9_childMany 7 = .ok (.if_icmp .ge 26, 3) := by decide +kernel
theorem dX9_childMany_10 : decode cX9_childMany 10 = .ok (.iload_n 2, 1) := by decide +kernel
theorem dX9_childMany_11 : decode cX9_childMany 11 = .ok (.aload_n 0, 1) := by decide +kernel
theorem dX9_childMany_12 : decode cX9_childMany 12 = .ok (.iload_n 3, 1) := by decide +kernel
theorem dX9_childMany_13 : decode cX9_childMany 13 = .ok (.iload_n 1, 1) := by decide +kernel
theorem dX9_childMany_14 : decode cX9_childMany 14 = .ok (.invokevirtual 83, 3) := by decide +kernel
theorem dX9_childMany_17 : decode cX9_childMany 17 = .ok (.ifCond .eq 7, 3) := by decide +kernel
theorem dX9_childMany_20 : decode cX9_childMany 20 = .ok (.iconst 1, 1) := by decide +kernel
theorem dX9_childMany_21 : decode cX9_childMany 21 = .ok (.goto 4, 3) := by decide +kernel
theorem dX9_childMany_24 : decode cX9_childMany 24 = .ok (.iconst 0, 1) := by decide +kernel
theorem dX9_childMany_25 : decode cX9_childMany 25 = .ok (.iadd, 1) := by decide +kernel
theorem dX9_childMany_26 : decode cX9_childMany 26 = .ok (.istore_n 2, 1) := by decide +kernel
theorem dX9_childMany_27 : decode cX9_childMany 27 = .ok (.iinc 3 1, 3) := by decide +kernel
theorem dX9_childMany_30 : decode cX9_childMany 30 = .ok (.goto (-26), 3) := by decide +kernel
theorem dX9_childMany_33 : decode cX9_childMany 33 = .ok (.iload_n 2, 1) := by decide +kernel
theorem dX9_childMany_34 : decode cX9_childMany 34 = .ok (.ireturn, 1) := by decide +kernel
abbrev rmX9_childMany : Room := { frames := 2, cells := 0, slots := 0, locals := 44 }
theorem hdX9_childMany : yX9_childMany.cls ≠ "java/lang/invoke/MethodHandle" ∧ yX9_childMany.cls ≠ "java/lang/invoke/VarHandle" ∧ (parseMethodDescriptor yX9_childMany.desc).map (fun d => d.parameters.length) = some 1 := by decide +kernel
def fX9_childMany_25 (σ : Sg) (b : Nat) (k4 : Int32 → Int32 → Int32 → Option Int32) (l1 : Int32) (l3 : Int32) (s0 : Int32) (s1 : Int32) : Option Int32 :=
  nm (s0 + s1) fun v2 =>
  (k4 l1 v2 (l3 + 1))
theorem bX9_childMany_25 {X : Xc} {K : Kc} (C : MC X K cX9_childMany 4 RX9 rmX9_childMany) (hr : K.meth.sig.returnType = (some .int)) (σ : Sg) (b : Nat) (hb : moOK b){k4 : Int32 → Int32 → Int32 → Option Int32} (hk4 : ∀ (l1 : Int32) (l2 : Int32) (l3 : Int32), GO X K 4 (fun r => MQi X K r σ) (k4 l1 l2 l3) σ 0 0 4 [some (.ref (X.ad b)), some (.int (l1)), some (.int (l2)), some (.int (l3))] []) (l1 : Int32) (l3 : Int32) (s0 : Int32) (s1 : Int32) : GO X K 4 (fun r => MQi X K r σ) (fX9_childMany_25 σ b k4 l1 l3 s0 s1) σ 0 0 25 [some (.ref (X.ad b)), some (.int (l1)), none, some (.int (l3))] [.int (s1), .int (s0)] := by
  unfold fX9_childMany_25
  refine g_iadd (pc := 25) C dX9_childMany_25 ?_
  refine g_nm (fun v2 => ?_)
  refine g_istore_n (pc := 26) (i := 2) C dX9_childMany_26 rfl (Nat.le_of_ble_eq_true rfl) rfl ?_
  refine g_iinc (pc := 27) (v := l3 + 1) C dX9_childMany_27 rfl (rfl) (Nat.le_of_ble_eq_true rfl) rfl ?_
  refine g_goto (pc := 30) (tgt := 4) C dX9_childMany_30 rfl ?_
  refine g_keep [true, true, true, true] ?_
  exact hk4 l1 v2 (l3 + 1)
def fX9_childMany_4 (σ : Sg) (b : Nat) : Nat → Int32 → Int32 → Int32 → Option Int32
  | 0, _, _, _ => none
  | n + 1, l1, l2, l3 =>
    if 24 ≤ l3 then
      some l2
    else
      (fX9_isChild σ b l3 l1).bind fun r1 =>
      if r1 = true then
        (fX9_childMany_25 σ b (fX9_childMany_4 σ b n) l1 l3 l2 1)
      else
        (fX9_childMany_25 σ b (fX9_childMany_4 σ b n) l1 l3 l2 0)
theorem bX9_childMany_4 {X : Xc} {K : Kc} (C : MC X K cX9_childMany 4 RX9 rmX9_childMany) (hr : K.meth.sig.returnType = (some .int)) (σ : Sg) (b : Nat) (hb : moOK b) : ∀ (n : Nat) (l1 : Int32) (l2 : Int32) (l3 : Int32), GO X K 4 (fun r => MQi X K r σ) (fX9_childMany_4 σ b n l1 l2 l3) σ 0 0 4 [some (.ref (X.ad b)), some (.int (l1)), some (.int (l2)), some (.int (l3))] [] := by
  intro n
  induction n with
  | zero =>
    intro l1 l2 l3
    exact g_none
  | succ n ih =>
    intro l1 l2 l3
    unfold fX9_childMany_4
    refine g_iload_n (pc := 4) (i := 3) C dX9_childMany_4 rfl rfl ?_
    refine g_bipush (pc := 5) (v := 24) C dX9_childMany_5 (by decide) ?_
    refine g_icmp_ge (pc := 7) (tgt := 33) C dX9_childMany_7 rfl ?_ ?_
    · refine g_iload_n (pc := 33) (i := 2) C dX9_childMany_33 rfl rfl ?_
      exact g_iret (pc := 34) C hr dX9_childMany_34 rfl
    · refine g_iload_n (pc := 10) (i := 2) C dX9_childMany_10 rfl rfl ?_
      refine g_aload_n (pc := 11) (i := 0) C dX9_childMany_11 rfl rfl ?_
      refine g_iload_n (pc := 12) (i := 3) C dX9_childMany_12 rfl rfl ?_
      refine g_iload_n (pc := 13) (i := 1) C dX9_childMany_13 rfl rfl ?_
      refine g_callVi (pc := 14) (As := [.int (l3), .int (l1)]) C (kX9_isChild X σ b l3 l1 hb) (blk hb 0 rfl) rfl q_21_8 q_21_9 q_21_10 q_1_5 q_21_11 ⟨rfl, hdX9_isChild⟩ ⟨Nat.le_of_ble_eq_true rfl, Nat.le_of_ble_eq_true rfl, rfl, rfl⟩ ⟨Nat.zero_le _, Nat.zero_le _⟩ (Nat.le_of_ble_eq_true rfl) rfl rfl dX9_childMany_14 (fun r1 _ => ?_)
      refine g_ifb_eq (pc := 17) (tgt := 24) C dX9_childMany_17 rfl ?_ ?_
      · refine g_iconst (pc := 20) (v := 1) C dX9_childMany_20 (by decide) ?_
        refine g_goto (pc := 21) (tgt := 25) C dX9_childMany_21 rfl ?_
        refine g_keep [true, true, false, true] ?_
        exact bX9_childMany_25 C hr σ b hb ih l1 l3 l2 1
      · refine g_iconst (pc := 24) (v := 0) C dX9_childMany_24 (by decide) ?_
        refine g_keep [true, true, false, true] ?_
        exact bX9_childMany_25 C hr σ b hb ih l1 l3 l2 0
def fX9_childMany (σ : Sg) (b : Nat) (p1 : Int32) : Option Int32 :=
  (fX9_childMany_4 σ b FU p1 0 0)
theorem kX9_childMany (X : Xc) (σ : Sg) (b : Nat) (p1 : Int32) (hb : moOK b) : ∀ r, fX9_childMany σ b p1 = some r → Met X.l yX9_childMany (wsM yX9_childMany cX9_childMany 4 (some .int)) rmX9_childMany (va_Pc [.ref (X.ad b), .int p1] (PW X σ)) (Qi X r σ) 0 0 X.A := by
  refine mt_of (own := RX9) (lo := [some (.ref (X.ad b)), some (.int (p1)), none, none]) (by decide) rfl (Nat.le_of_ble_eq_true rfl) rfl (fun K C hr => ?_)
  unfold fX9_childMany
  refine g_iconst (pc := 0) (v := 0) C dX9_childMany_0 (by decide) ?_
  refine g_istore_n (pc := 1) (i := 2) C dX9_childMany_1 rfl (Nat.le_of_ble_eq_true rfl) rfl ?_
  refine g_iconst (pc := 2) (v := 0) C dX9_childMany_2 (by decide) ?_
  refine g_istore_n (pc := 3) (i := 3) C dX9_childMany_3 rfl (Nat.le_of_ble_eq_true rfl) rfl ?_
  refine g_keep [true, true, true, true] ?_
  exact bX9_childMany_4 C hr σ b hb FU p1 0 0
theorem dX9_child_0 : decode cX9_child 0 = .ok (.iconst 0, 1) := by decide +kernel
theorem dX9_child_1 : decode cX9_child 1 = .ok (.istore_n 3, 1) := by decide +kernel
theorem dX9_child_2 : decode cX9_child 2 = .ok (.iload_n 3, 1) := by decide +kernel
theorem dX9_child_3 : decode cX9_child 3 = .ok (.bipush 24, 2) := by decide +kernel
theorem dX9_child_5 : decode cX9_child 5 = .ok (.if_icmp .ge 30, 3) := by decide +kernel
theorem dX9_child_8 : decode cX9_child 8 = .ok (.aload_n 0, 1) := by decide +kernel
theorem dX9_child_9 : decode cX9_child 9 = .ok (.iload_n 3, 1) := by decide +kernel
theorem dX9_child_10 : decode cX9_child 10 = .ok (.iload_n 1, 1) := by decide +kernel
theorem dX9_child_11 : decode cX9_child 11 = .ok (.invokevirtual 83, 3) := by decide +kernel
theorem dX9_child_14 : decode cX9_child 14 = .ok (.ifCond .eq 15, 3) := by decide +kernel
theorem dX9_child_17 : decode cX9_child 17 = .ok (.aload_n 0, 1) := by decide +kernel
theorem dX9_child_18 : decode cX9_child 18 = .ok (.iload_n 3, 1) := by decide +kernel
theorem dX9_child_19 : decode cX9_child 19 = .ok (.iconst 4, 1) := by decide +kernel
theorem dX9_child_20 : decode cX9_child 20 = .ok (.invokevirtual 76, 3) := by decide +kernel
theorem dX9_child_23 : decode cX9_child 23 = .ok (.iload_n 2, 1) := by decide +kernel
theorem dX9_child_24 : decode cX9_child 24 = .ok (.if_icmp .ne 5, 3) := by decide +kernel
theorem dX9_child_27 : decode cX9_child 27 = .ok (.iload_n 3, 1) := by decide +kernel
theorem dX9_child_28 : decode cX9_child 28 = .ok (.ireturn, 1) := by decide +kernel
theorem dX9_child_29 : decode cX9_child 29 = .ok (.iinc 3 1, 3) := by decide +kernel
theorem dX9_child_32 : decode cX9_child 32 = .ok (.goto (-30), 3) := by decide +kernel
theorem dX9_child_35 : decode cX9_child 35 = .ok (.iconst (-1), 1) := by decide +kernel
theorem dX9_child_36 : decode cX9_child 36 = .ok (.ireturn, 1) := by decide +kernel
abbrev rmX9_child : Room := { frames := 2, cells := 0, slots := 0, locals := 44 }
theorem hdX9_child : yX9_child.cls ≠ "java/lang/invoke/MethodHandle" ∧ yX9_child.cls ≠ "java/lang/invoke/VarHandle" ∧ (parseMethodDescriptor yX9_child.desc).map (fun d => d.parameters.length) = some 2 := by decide +kernel
def fX9_child_29 (σ : Sg) (b : Nat) (k2 : Int32 → Int32 → Int32 → Option Int32) (l1 : Int32) (l2 : Int32) (l3 : Int32) : Option Int32 :=
  (k2 l1 l2 (l3 + 1))
theorem bX9_child_29 {X : Xc} {K : Kc} (C : MC X K cX9_child 4 RX9 rmX9_child) (hr : K.meth.sig.returnType = (some .int)) (σ : Sg) (b : Nat) (hb : moOK b){k2 : Int32 → Int32 → Int32 → Option Int32} (hk2 : ∀ (l1 : Int32) (l2 : Int32) (l3 : Int32), GO X K 4 (fun r => MQi X K r σ) (k2 l1 l2 l3) σ 0 0 2 [some (.ref (X.ad b)), some (.int (l1)), some (.int (l2)), some (.int (l3))] []) (l1 : Int32) (l2 : Int32) (l3 : Int32) : GO X K 4 (fun r => MQi X K r σ) (fX9_child_29 σ b k2 l1 l2 l3) σ 0 0 29 [some (.ref (X.ad b)), some (.int (l1)), some (.int (l2)), some (.int (l3))] [] := by
  unfold fX9_child_29
  refine g_iinc (pc := 29) (v := l3 + 1) C dX9_child_29 rfl (rfl) (Nat.le_of_ble_eq_true rfl) rfl ?_
  refine g_goto (pc := 32) (tgt := 2) C dX9_child_32 rfl ?_
  refine g_keep [true, true, true, true] ?_
  exact hk2 l1 l2 (l3 + 1)
def fX9_child_2 (σ : Sg) (b : Nat) : Nat → Int32 → Int32 → Int32 → Option Int32
  | 0, _, _, _ => none
  | n + 1, l1, l2, l3 =>
    if 24 ≤ l3 then
      some (-1)
    else
      (fX9_isChild σ b l3 l1).bind fun r1 =>
      if r1 = true then
        (fX9_its σ b l3 4).bind fun r2 =>
        if r2 = l2 then
          some l3
        else
          (fX9_child_29 σ b (fX9_child_2 σ b n) l1 l2 l3)
      else
        (fX9_child_29 σ b (fX9_child_2 σ b n) l1 l2 l3)
theorem bX9_child_2 {X : Xc} {K : Kc} (C : MC X K cX9_child 4 RX9 rmX9_child) (hr : K.meth.sig.returnType = (some .int)) (σ : Sg) (b : Nat) (hb : moOK b) : ∀ (n : Nat) (l1 : Int32) (l2 : Int32) (l3 : Int32), GO X K 4 (fun r => MQi X K r σ) (fX9_child_2 σ b n l1 l2 l3) σ 0 0 2 [some (.ref (X.ad b)), some (.int (l1)), some (.int (l2)), some (.int (l3))] [] := by
  intro n
  induction n with
  | zero =>
    intro l1 l2 l3
    exact g_none
  | succ n ih =>
    intro l1 l2 l3
    unfold fX9_child_2
    refine g_iload_n (pc := 2) (i := 3) C dX9_child_2 rfl rfl ?_
    refine g_bipush (pc := 3) (v := 24) C dX9_child_3 (by decide) ?_
    refine g_icmp_ge (pc := 5) (tgt := 35) C dX9_child_5 rfl ?_ ?_
    · refine g_iconst (pc := 35) (v := (-1)) C dX9_child_35 (by decide) ?_
      exact g_iret (pc := 36) C hr dX9_child_36 rfl
    · refine g_aload_n (pc := 8) (i := 0) C dX9_child_8 rfl rfl ?_
      refine g_iload_n (pc := 9) (i := 3) C dX9_child_9 rfl rfl ?_
      refine g_iload_n (pc := 10) (i := 1) C dX9_child_10 rfl rfl ?_
      refine g_callVi (pc := 11) (As := [.int (l3), .int (l1)]) C (kX9_isChild X σ b l3 l1 hb) (blk hb 0 rfl) rfl q_21_8 q_21_9 q_21_10 q_1_5 q_21_11 ⟨rfl, hdX9_isChild⟩ ⟨Nat.le_of_ble_eq_true rfl, Nat.le_of_ble_eq_true rfl, rfl, rfl⟩ ⟨Nat.zero_le _, Nat.zero_le _⟩ (Nat.le_of_ble_eq_true rfl) rfl rfl dX9_child_11 (fun r1 _ => ?_)
      refine g_ifb_eq (pc := 14) (tgt := 29) C dX9_child_14 rfl ?_ ?_
      · refine g_aload_n (pc := 17) (i := 0) C dX9_child_17 rfl rfl ?_
        refine g_iload_n (pc := 18) (i := 3) C dX9_child_18 rfl rfl ?_
        refine g_iconst (pc := 19) (v := 4) C dX9_child_19 (by decide) ?_
        refine g_callVi (pc := 20) (As := [.int (l3), .int (4)]) C (kX9_its X σ b l3 4 hb) (blk hb 0 rfl) rfl q_20_12 q_20_13 q_20_14 q_1_5 q_20_15 ⟨rfl, hdX9_its⟩ ⟨Nat.le_of_ble_eq_true rfl, Nat.le_of_ble_eq_true rfl, rfl, rfl⟩ ⟨Nat.zero_le _, Nat.zero_le _⟩ (Nat.le_of_ble_eq_true rfl) rfl rfl dX9_child_20 (fun r2 _ => ?_)
        refine g_iload_n (pc := 23) (i := 2) C dX9_child_23 rfl rfl ?_
        refine g_icmp_ne (pc := 24) (tgt := 29) C dX9_child_24 rfl ?_ ?_
        · refine g_iload_n (pc := 27) (i := 3) C dX9_child_27 rfl rfl ?_
          exact g_iret (pc := 28) C hr dX9_child_28 rfl
        · refine g_keep [true, true, true, true] ?_
          exact bX9_child_29 C hr σ b hb ih l1 l2 l3
      · refine g_keep [true, true, true, true] ?_
        exact bX9_child_29 C hr σ b hb ih l1 l2 l3
def fX9_child (σ : Sg) (b : Nat) (p1 : Int32) (p2 : Int32) : Option Int32 :=
  (fX9_child_2 σ b FU p1 p2 0)
theorem kX9_child (X : Xc) (σ : Sg) (b : Nat) (p1 : Int32) (p2 : Int32) (hb : moOK b) : ∀ r, fX9_child σ b p1 p2 = some r → Met X.l yX9_child (wsM yX9_child cX9_child 4 (some .int)) rmX9_child (va_Pc [.ref (X.ad b), .int p1, .int p2] (PW X σ)) (Qi X r σ) 0 0 X.A := by
  refine mt_of (own := RX9) (lo := [some (.ref (X.ad b)), some (.int (p1)), some (.int (p2)), none]) (by decide) rfl (Nat.le_of_ble_eq_true rfl) rfl (fun K C hr => ?_)
  unfold fX9_child
  refine g_iconst (pc := 0) (v := 0) C dX9_child_0 (by decide) ?_
  refine g_istore_n (pc := 1) (i := 3) C dX9_child_1 rfl (Nat.le_of_ble_eq_true rfl) rfl ?_
  refine g_keep [true, true, true, true] ?_
  exact bX9_child_2 C hr σ b hb FU p1 p2 0
theorem dX9_enters_0 : decode cX9_enters 0 = .ok (.iconst 0, 1) := by decide +kernel
theorem dX9_enters_1 : decode cX9_enters 1 = .ok (.istore 4, 2) := by decide +kernel
theorem dX9_enters_3 : decode cX9_enters 3 = .ok (.iload 4, 2) := by decide +kernel
theorem dX9_enters_5 : decode cX9_enters 5 = .ok (.bipush 24, 2) := by decide +kernel
theorem dX9_enters_7 : decode cX9_enters 7 = .ok (.if_icmp .ge 46, 3) := by decide +kernel
theorem dX9_enters_10 : decode cX9_enters 10 = .ok (.aload_n 0, 1) := by decide +kernel
theorem dX9_enters_11 : decode cX9_enters 11 = .ok (.iload 4, 2) := by decide +kernel
theorem dX9_enters_13 : decode cX9_enters 13 = .ok (.iload_n 2, 1) := by decide +kernel
theorem dX9_enters_14 : decode cX9_enters 14 = .ok (.invokevirtual 83, 3) := by decide +kernel
theorem dX9_enters_17 : decode cX9_enters 17 = .ok (.ifCond .eq 30, 3) := by decide +kernel
theorem dX9_enters_20 : decode cX9_enters 20 = .ok (.aload_n 0, 1) := by decide +kernel
theorem dX9_enters_21 : decode cX9_enters 21 = .ok (.iload 4, 2) := by decide +kernel
theorem dX9_enters_23 : decode cX9_enters 23 = .ok (.iconst 4, 1) := by decide +kernel
theorem dX9_enters_24 : decode cX9_enters 24 = .ok (.invokevirtual 76, 3) := by decide +kernel
theorem dX9_enters_27 : decode cX9_enters 27 = .ok (.iload_n 3, 1) := by decide +kernel
theorem dX9_enters_28 : decode cX9_enters 28 = .ok (.if_icmp .lt 19, 3) := by decide +kernel
theorem dX9_enters_31 : decode cX9_enters 31 = .ok (.aload_n 0, 1) := by decide +kernel
theorem dX9_enters_32 : decode cX9_enters 32 = .ok (.iload 4, 2) := by decide +kernel
theorem dX9_enters_34 : decode cX9_enters 34 = .ok (.iconst 4, 1) := by decide +kernel
theorem dX9_enters_35 : decode cX9_enters 35 = .ok (.aload_n 0, 1) := by decide +kernel
theorem dX9_enters_36 : decode cX9_enters 36 = .ok (.iload 4, 2) := by decide +kernel
theorem dX9_enters_38 : decode cX9_enters 38 = .ok (.iconst 4, 1) := by decide +kernel
theorem dX9_enters_39 : decode cX9_enters 39 = .ok (.invokevirtual 76, 3) := by decide +kernel
theorem dX9_enters_42 : decode cX9_enters 42 = .ok (.iconst 1, 1) := by decide +kernel
theorem dX9_enters_43 : decode cX9_enters 43 = .ok (.iadd, 1) := by decide +kernel
theorem dX9_enters_44 : decode cX9_enters 44 = .ok (.invokevirtual 79, 3) := by decide +kernel
theorem dX9_enters_47 : decode cX9_enters 47 = .ok (.iinc 4 1, 3) := by decide +kernel
theorem dX9_enters_50 : decode cX9_enters 50 = .ok (.goto (-47), 3) := by decide +kernel
theorem dX9_enters_53 : decode cX9_enters 53 = .ok (.aload_n 0, 1) := by decide +kernel
theorem dX9_enters_54 : decode cX9_enters 54 = .ok (.iload_n 1, 1) := by decide +kernel
theorem dX9_enters_55 : decode cX9_enters 55 = .ok (.iconst 1, 1) := by decide +kernel
theorem dX9_enters_56 : decode cX9_enters 56 = .ok (.iload_n 2, 1) := by decide +kernel
theorem dX9_enters_57 : decode cX9_enters 57 = .ok (.invokevirtual 79, 3) := by decide +kernel
theorem dX9_enters_60 : decode cX9_enters 60 = .ok (.aload_n 0, 1) := by decide +kernel
theorem dX9_enters_61 : decode cX9_enters 61 = .ok (.iload_n 1, 1) := by decide +kernel
theorem dX9_enters_62 : decode cX9_enters 62 = .ok (.iconst 4, 1) := by decide +kernel
theorem dX9_enters_63 : decode cX9_enters 63 = .ok (.iload_n 3, 1) := by decide +kernel
theorem dX9_enters_64 : decode cX9_enters 64 = .ok (.invokevirtual 79, 3) := by decide +kernel
theorem dX9_enters_67 : decode cX9_enters 67 = .ok (.return_, 1) := by decide +kernel
abbrev rmX9_enters : Room := { frames := 2, cells := 0, slots := 0, locals := 44 }
theorem hdX9_enters : yX9_enters.cls ≠ "java/lang/invoke/MethodHandle" ∧ yX9_enters.cls ≠ "java/lang/invoke/VarHandle" ∧ (parseMethodDescriptor yX9_enters.desc).map (fun d => d.parameters.length) = some 3 := by decide +kernel
def fX9_enters_47 (b : Nat) (k3 : Sg → Int32 → Int32 → Int32 → Int32 → Option Sg) (σ : Sg) (l1 : Int32) (l2 : Int32) (l3 : Int32) (l4 : Int32) : Option Sg :=
  (k3 σ l1 l2 l3 (l4 + 1))
theorem bX9_enters_47 {X : Xc} {K : Kc} (C : MC X K cX9_enters 5 RX9 rmX9_enters) (hr : K.meth.sig.returnType = none) (b : Nat) (hb : moOK b){k3 : Sg → Int32 → Int32 → Int32 → Int32 → Option Sg} (hk3 : ∀ (σ : Sg) (l1 : Int32) (l2 : Int32) (l3 : Int32) (l4 : Int32), GO X K 5 (fun r => MQv X K r) (k3 σ l1 l2 l3 l4) σ 0 0 3 [some (.ref (X.ad b)), some (.int (l1)), some (.int (l2)), some (.int (l3)), some (.int (l4))] []) (σ : Sg) (l1 : Int32) (l2 : Int32) (l3 : Int32) (l4 : Int32) : GO X K 5 (fun r => MQv X K r) (fX9_enters_47 b k3 σ l1 l2 l3 l4) σ 0 0 47 [some (.ref (X.ad b)), some (.int (l1)), some (.int (l2)), some (.int (l3)), some (.int (l4))] [] := by
  unfold fX9_enters_47
  refine g_iinc (pc := 47) (v := l4 + 1) C dX9_enters_47 rfl (rfl) (Nat.le_of_ble_eq_true rfl) rfl ?_
  refine g_goto (pc := 50) (tgt := 3) C dX9_enters_50 rfl ?_
  refine g_keep [true, true, true, true, true] ?_
  exact hk3 σ l1 l2 l3 (l4 + 1)
def fX9_enters_3 (b : Nat) : Nat → Sg → Int32 → Int32 → Int32 → Int32 → Option Sg
  | 0, _, _, _, _, _ => none
  | n + 1, σ, l1, l2, l3, l4 =>
    if 24 ≤ l4 then
      (fX9_lay σ b l1 1 l2).bind fun σ1 =>
      (fX9_lay σ1 b l1 4 l3).bind fun σ2 =>
      some σ2
    else
      (fX9_isChild σ b l4 l2).bind fun r3 =>
      if r3 = true then
        (fX9_its σ b l4 4).bind fun r4 =>
        if r4 < l3 then
          (fX9_enters_47 b (fX9_enters_3 b n) σ l1 l2 l3 l4)
        else
          (fX9_its σ b l4 4).bind fun r5 =>
          (fX9_lay σ b l4 4 (r5 + 1)).bind fun σ6 =>
          (fX9_enters_47 b (fX9_enters_3 b n) σ6 l1 l2 l3 l4)
      else
        (fX9_enters_47 b (fX9_enters_3 b n) σ l1 l2 l3 l4)
theorem bX9_enters_3 {X : Xc} {K : Kc} (C : MC X K cX9_enters 5 RX9 rmX9_enters) (hr : K.meth.sig.returnType = none) (b : Nat) (hb : moOK b) : ∀ (n : Nat) (σ : Sg) (l1 : Int32) (l2 : Int32) (l3 : Int32) (l4 : Int32), GO X K 5 (fun r => MQv X K r) (fX9_enters_3 b n σ l1 l2 l3 l4) σ 0 0 3 [some (.ref (X.ad b)), some (.int (l1)), some (.int (l2)), some (.int (l3)), some (.int (l4))] [] := by
  intro n
  induction n with
  | zero =>
    intro σ l1 l2 l3 l4
    exact g_none
  | succ n ih =>
    intro σ l1 l2 l3 l4
    unfold fX9_enters_3
    refine g_iload (pc := 3) C dX9_enters_3 rfl ?_
    refine g_bipush (pc := 5) (v := 24) C dX9_enters_5 (by decide) ?_
    refine g_icmp_ge (pc := 7) (tgt := 53) C dX9_enters_7 rfl ?_ ?_
    · refine g_aload_n (pc := 53) (i := 0) C dX9_enters_53 rfl rfl ?_
      refine g_iload_n (pc := 54) (i := 1) C dX9_enters_54 rfl rfl ?_
      refine g_iconst (pc := 55) (v := 1) C dX9_enters_55 (by decide) ?_
      refine g_iload_n (pc := 56) (i := 2) C dX9_enters_56 rfl rfl ?_
      refine g_callVv (pc := 57) (As := [.int (l1), .int (1), .int (l2)]) C (kX9_lay X σ b l1 1 l2 hb) (blk hb 0 rfl) rfl q_21_0 q_21_1 q_21_2 q_1_5 q_21_3 ⟨rfl, hdX9_lay⟩ ⟨Nat.le_of_ble_eq_true rfl, Nat.le_of_ble_eq_true rfl, rfl, rfl⟩ ⟨Nat.zero_le _, Nat.zero_le _⟩ (Nat.le_of_ble_eq_true rfl) rfl rfl dX9_enters_57 (fun σ1 _ => ?_)
      refine g_aload_n (pc := 60) (i := 0) C dX9_enters_60 rfl rfl ?_
      refine g_iload_n (pc := 61) (i := 1) C dX9_enters_61 rfl rfl ?_
      refine g_iconst (pc := 62) (v := 4) C dX9_enters_62 (by decide) ?_
      refine g_iload_n (pc := 63) (i := 3) C dX9_enters_63 rfl rfl ?_
      refine g_callVv (pc := 64) (As := [.int (l1), .int (4), .int (l3)]) C (kX9_lay X σ1 b l1 4 l3 hb) (blk hb 0 rfl) rfl q_21_0 q_21_1 q_21_2 q_1_5 q_21_3 ⟨rfl, hdX9_lay⟩ ⟨Nat.le_of_ble_eq_true rfl, Nat.le_of_ble_eq_true rfl, rfl, rfl⟩ ⟨Nat.zero_le _, Nat.zero_le _⟩ (Nat.le_of_ble_eq_true rfl) rfl rfl dX9_enters_64 (fun σ2 _ => ?_)
      exact g_vret (pc := 67) C hr dX9_enters_67 rfl
    · refine g_aload_n (pc := 10) (i := 0) C dX9_enters_10 rfl rfl ?_
      refine g_iload (pc := 11) C dX9_enters_11 rfl ?_
      refine g_iload_n (pc := 13) (i := 2) C dX9_enters_13 rfl rfl ?_
      refine g_callVi (pc := 14) (As := [.int (l4), .int (l2)]) C (kX9_isChild X σ b l4 l2 hb) (blk hb 0 rfl) rfl q_21_8 q_21_9 q_21_10 q_1_5 q_21_11 ⟨rfl, hdX9_isChild⟩ ⟨Nat.le_of_ble_eq_true rfl, Nat.le_of_ble_eq_true rfl, rfl, rfl⟩ ⟨Nat.zero_le _, Nat.zero_le _⟩ (Nat.le_of_ble_eq_true rfl) rfl rfl dX9_enters_14 (fun r3 _ => ?_)
      refine g_ifb_eq (pc := 17) (tgt := 47) C dX9_enters_17 rfl ?_ ?_
      · refine g_aload_n (pc := 20) (i := 0) C dX9_enters_20 rfl rfl ?_
        refine g_iload (pc := 21) C dX9_enters_21 rfl ?_
        refine g_iconst (pc := 23) (v := 4) C dX9_enters_23 (by decide) ?_
        refine g_callVi (pc := 24) (As := [.int (l4), .int (4)]) C (kX9_its X σ b l4 4 hb) (blk hb 0 rfl) rfl q_20_12 q_20_13 q_20_14 q_1_5 q_20_15 ⟨rfl, hdX9_its⟩ ⟨Nat.le_of_ble_eq_true rfl, Nat.le_of_ble_eq_true rfl, rfl, rfl⟩ ⟨Nat.zero_le _, Nat.zero_le _⟩ (Nat.le_of_ble_eq_true rfl) rfl rfl dX9_enters_24 (fun r4 _ => ?_)
        refine g_iload_n (pc := 27) (i := 3) C dX9_enters_27 rfl rfl ?_
        refine g_icmp_lt (pc := 28) (tgt := 47) C dX9_enters_28 rfl ?_ ?_
        · refine g_keep [true, true, true, true, true] ?_
          exact bX9_enters_47 C hr b hb ih σ l1 l2 l3 l4
        · refine g_aload_n (pc := 31) (i := 0) C dX9_enters_31 rfl rfl ?_
          refine g_iload (pc := 32) C dX9_enters_32 rfl ?_
          refine g_iconst (pc := 34) (v := 4) C dX9_enters_34 (by decide) ?_
          refine g_aload_n (pc := 35) (i := 0) C dX9_enters_35 rfl rfl ?_
          refine g_iload (pc := 36) C dX9_enters_36 rfl ?_
          refine g_iconst (pc := 38) (v := 4) C dX9_enters_38 (by decide) ?_
          refine g_callVi (pc := 39) (As := [.int (l4), .int (4)]) C (kX9_its X σ b l4 4 hb) (blk hb 0 rfl) rfl q_20_12 q_20_13 q_20_14 q_1_5 q_20_15 ⟨rfl, hdX9_its⟩ ⟨Nat.le_of_ble_eq_true rfl, Nat.le_of_ble_eq_true rfl, rfl, rfl⟩ ⟨Nat.zero_le _, Nat.zero_le _⟩ (Nat.le_of_ble_eq_true rfl) rfl rfl dX9_enters_39 (fun r5 _ => ?_)
          refine g_iconst (pc := 42) (v := 1) C dX9_enters_42 (by decide) ?_
          refine g_iadd (pc := 43) C dX9_enters_43 ?_
          refine g_callVv (pc := 44) (As := [.int (l4), .int (4), .int (r5 + 1)]) C (kX9_lay X σ b l4 4 (r5 + 1) hb) (blk hb 0 rfl) rfl q_21_0 q_21_1 q_21_2 q_1_5 q_21_3 ⟨rfl, hdX9_lay⟩ ⟨Nat.le_of_ble_eq_true rfl, Nat.le_of_ble_eq_true rfl, rfl, rfl⟩ ⟨Nat.zero_le _, Nat.zero_le _⟩ (Nat.le_of_ble_eq_true rfl) rfl rfl dX9_enters_44 (fun σ6 _ => ?_)
          refine g_keep [true, true, true, true, true] ?_
          exact bX9_enters_47 C hr b hb ih σ6 l1 l2 l3 l4
      · refine g_keep [true, true, true, true, true] ?_
        exact bX9_enters_47 C hr b hb ih σ l1 l2 l3 l4
def fX9_enters (σ : Sg) (b : Nat) (p1 : Int32) (p2 : Int32) (p3 : Int32) : Option Sg :=
  (fX9_enters_3 b FU σ p1 p2 p3 0)
theorem kX9_enters (X : Xc) (σ : Sg) (b : Nat) (p1 : Int32) (p2 : Int32) (p3 : Int32) (hb : moOK b) : ∀ r, fX9_enters σ b p1 p2 p3 = some r → Met X.l yX9_enters (wsM yX9_enters cX9_enters 5 none) rmX9_enters (va_Pc [.ref (X.ad b), .int p1, .int p2, .int p3] (PW X σ)) (Qv X r) 0 0 X.A := by
  refine mt_of (own := RX9) (lo := [some (.ref (X.ad b)), some (.int (p1)), some (.int (p2)), some (.int (p3)), none]) (by decide) rfl (Nat.le_of_ble_eq_true rfl) rfl (fun K C hr => ?_)
  unfold fX9_enters
  refine g_iconst (pc := 0) (v := 0) C dX9_enters_0 (by decide) ?_
  refine g_istore (pc := 1) C dX9_enters_1 (Nat.le_of_ble_eq_true rfl) rfl ?_
  refine g_keep [true, true, true, true, true] ?_
  exact bX9_enters_3 C hr b hb FU σ p1 p2 p3 0
theorem dX9_leaves_0 : decode cX9_leaves 0 = .ok (.aload_n 0, 1) := by decide +kernel
theorem dX9_leaves_1 : decode cX9_leaves 1 = .ok (.iload_n 1, 1) := by decide +kernel
theorem dX9_leaves_2 : decode cX9_leaves 2 = .ok (.iconst 1, 1) := by decide +kernel
theorem dX9_leaves_3 : decode cX9_leaves 3 = .ok (.invokevirtual 76, 3) := by decide +kernel
theorem dX9_leaves_6 : decode cX9_leaves 6 = .ok (.istore_n 2, 1) := by decide +kernel
theorem dX9_leaves_7 : decode cX9_leaves 7 = .ok (.aload_n 0, 1) := by decide +kernel
theorem dX9_leaves_8 : decode cX9_leaves 8 = .ok (.iload_n 1, 1) := by decide +kernel
theorem dX9_leaves_9 : decode cX9_leaves 9 = .ok (.iconst 4, 1) := by decide +kernel
theorem dX9_leaves_10 : decode cX9_leaves 10 = .ok (.invokevirtual 76, 3) := by decide +kernel
theorem dX9_leaves_13 : decode cX9_leaves 13 = .ok (.istore_n 3, 1) := by decide +kernel
theorem dX9_leaves_14 : decode cX9_leaves 14 = .ok (.aload_n 0, 1) := by decide +kernel
theorem dX9_leaves_15 : decode cX9_leaves 15 = .ok (.iload_n 1, 1) := by decide +kernel
theorem dX9_leaves_16 : decode cX9_leaves 16 = .ok (.iconst 0, 1) := by decide +kernel
theorem dX9_leaves_17 : decode cX9_leaves 17 = .ok (.iconst 0, 1) := by decide +kernel
theorem dX9_leaves_18 : decode cX9_leaves 18 = .ok (.invokevirtual 79, 3) := by decide +kernel
theorem dX9_leaves_21 : decode cX9_leaves 21 = .ok (.iconst 0, 1) := by decide +kernel
theorem dX9_leaves_22 : decode cX9_leaves 22 = .ok (.istore 4, 2) := by decide +kernel
theorem dX9_leaves_24 : decode cX9_leaves 24 = .ok (.iload 4, 2) := by decide +kernel
theorem dX9_leaves_26 : decode cX9_leaves 26 = .ok (.bipush 24, 2) := by decide +kernel
theorem dX9_leaves_28 : decode cX9_leaves 28 = .ok (.if_icmp .ge 46, 3) := by decide +kernel
theorem dX9_leaves_31 : decode cX9_leaves 31 = .ok (.aload_n 0, 1) := by decide +kernel
theorem dX9_leaves_32 : decode cX9_leaves 32 = .ok (.iload 4, 2) := by decide +kernel
theorem dX9_leaves_34 : decode cX9_leaves 34 = .ok (.iload_n 2, 1) := by decide +kernel
theorem dX9_leaves_35 : decode cX9_leaves 35 = .ok (.invokevirtual 83, 3) := by decide +kernel
theorem dX9_leaves_38 : decode cX9_leaves 38 = .ok (.ifCond .eq 30, 3) := by decide +kernel
theorem dX9_leaves_41 : decode cX9_leaves 41 = .ok (.aload_n 0, 1) := by decide +kernel
theorem dX9_leaves_42 : decode cX9_leaves 42 = .ok (.iload 4, 2) := by decide +kernel
theorem dX9_leaves_44 : decode cX9_leaves 44 = .ok (.iconst 4, 1) := by decide +kernel
theorem dX9_leaves_45 : decode cX9_leaves 45 = .ok (.invokevirtual 76, 3) := by decide +kernel
theorem dX9_leaves_48 : decode cX9_leaves 48 = .ok (.iload_n 3, 1) := by decide +kernel
theorem dX9_leaves_49 : decode cX9_leaves 49 = .ok (.if_icmp .le 19, 3) := by decide +kernel
theorem dX9_leaves_52 : decode cX9_leaves 52 = .ok (.aload_n 0, 1) := by decide +kernel
theorem dX9_leaves_53 : decode cX9_leaves 53 = .ok (.iload 4, 2) := by decide +kernel
theorem dX9_leaves_55 : decode cX9_leaves 55 = .ok (.iconst 4, 1) := by decide +kernel
theorem dX9_leaves_56 : decode cX9_leaves 56 = .ok (.aload_n 0, 1) := by decide +kernel
theorem dX9_leaves_57 : decode cX9_leaves 57 = .ok (.iload 4, 2) := by decide +kernel
theorem dX9_leaves_59 : decode cX9_leaves 59 = .ok (.iconst 4, 1) := by decide +kernel
theorem dX9_leaves_60 : decode cX9_leaves 60 = .ok (.invokevirtual 76, 3) := by decide +kernel
theorem dX9_leaves_63 : decode cX9_leaves 63 = .ok (.iconst 1, 1) := by decide +kernel
theorem dX9_leaves_64 : decode cX9_leaves 64 = .ok (.isub, 1) := by decide +kernel
theorem dX9_leaves_65 : decode cX9_leaves 65 = .ok (.invokevirtual 79, 3) := by decide +kernel
theorem dX9_leaves_68 : decode cX9_leaves 68 = .ok (.iinc 4 1, 3) := by decide +kernel
theorem dX9_leaves_71 : decode cX9_leaves 71 = .ok (.goto (-47), 3) := by decide +kernel
theorem dX9_leaves_74 : decode cX9_leaves 74 = .ok (.return_, 1) := by decide +kernel
abbrev rmX9_leaves : Room := { frames := 2, cells := 0, slots := 0, locals := 44 }
theorem hdX9_leaves : yX9_leaves.cls ≠ "java/lang/invoke/MethodHandle" ∧ yX9_leaves.cls ≠ "java/lang/invoke/VarHandle" ∧ (parseMethodDescriptor yX9_leaves.desc).map (fun d => d.parameters.length) = some 1 := by decide +kernel
def fX9_leaves_68 (b : Nat) (k24 : Sg → Int32 → Int32 → Int32 → Option Sg) (σ : Sg) (l2 : Int32) (l3 : Int32) (l4 : Int32) : Option Sg :=
  (k24 σ l2 l3 (l4 + 1))
theorem bX9_leaves_68 {X : Xc} {K : Kc} (C : MC X K cX9_leaves 5 RX9 rmX9_leaves) (hr : K.meth.sig.returnType = none) (b : Nat) (hb : moOK b){k24 : Sg → Int32 → Int32 → Int32 → Option Sg} (hk24 : ∀ (σ : Sg) (l2 : Int32) (l3 : Int32) (l4 : Int32), GO X K 5 (fun r => MQv X K r) (k24 σ l2 l3 l4) σ 0 0 24 [some (.ref (X.ad b)), none, some (.int (l2)), some (.int (l3)), some (.int (l4))] []) (σ : Sg) (l2 : Int32) (l3 : Int32) (l4 : Int32) : GO X K 5 (fun r => MQv X K r) (fX9_leaves_68 b k24 σ l2 l3 l4) σ 0 0 68 [some (.ref (X.ad b)), none, some (.int (l2)), some (.int (l3)), some (.int (l4))] [] := by
  unfold fX9_leaves_68
  refine g_iinc (pc := 68) (v := l4 + 1) C dX9_leaves_68 rfl (rfl) (Nat.le_of_ble_eq_true rfl) rfl ?_
  refine g_goto (pc := 71) (tgt := 24) C dX9_leaves_71 rfl ?_
  refine g_keep [true, false, true, true, true] ?_
  exact hk24 σ l2 l3 (l4 + 1)
def fX9_leaves_24 (b : Nat) : Nat → Sg → Int32 → Int32 → Int32 → Option Sg
  | 0, _, _, _, _ => none
  | n + 1, σ, l2, l3, l4 =>
    if 24 ≤ l4 then
      some σ
    else
      (fX9_isChild σ b l4 l2).bind fun r4 =>
      if r4 = true then
        (fX9_its σ b l4 4).bind fun r5 =>
        if r5 ≤ l3 then
          (fX9_leaves_68 b (fX9_leaves_24 b n) σ l2 l3 l4)
        else
          (fX9_its σ b l4 4).bind fun r6 =>
          (fX9_lay σ b l4 4 (r6 - 1)).bind fun σ7 =>
          (fX9_leaves_68 b (fX9_leaves_24 b n) σ7 l2 l3 l4)
      else
        (fX9_leaves_68 b (fX9_leaves_24 b n) σ l2 l3 l4)
theorem bX9_leaves_24 {X : Xc} {K : Kc} (C : MC X K cX9_leaves 5 RX9 rmX9_leaves) (hr : K.meth.sig.returnType = none) (b : Nat) (hb : moOK b) : ∀ (n : Nat) (σ : Sg) (l2 : Int32) (l3 : Int32) (l4 : Int32), GO X K 5 (fun r => MQv X K r) (fX9_leaves_24 b n σ l2 l3 l4) σ 0 0 24 [some (.ref (X.ad b)), none, some (.int (l2)), some (.int (l3)), some (.int (l4))] [] := by
  intro n
  induction n with
  | zero =>
    intro σ l2 l3 l4
    exact g_none
  | succ n ih =>
    intro σ l2 l3 l4
    unfold fX9_leaves_24
    refine g_iload (pc := 24) C dX9_leaves_24 rfl ?_
    refine g_bipush (pc := 26) (v := 24) C dX9_leaves_26 (by decide) ?_
    refine g_icmp_ge (pc := 28) (tgt := 74) C dX9_leaves_28 rfl ?_ ?_
    · exact g_vret (pc := 74) C hr dX9_leaves_74 rfl
    · refine g_aload_n (pc := 31) (i := 0) C dX9_leaves_31 rfl rfl ?_
      refine g_iload (pc := 32) C dX9_leaves_32 rfl ?_
      refine g_iload_n (pc := 34) (i := 2) C dX9_leaves_34 rfl rfl ?_
      refine g_callVi (pc := 35) (As := [.int (l4), .int (l2)]) C (kX9_isChild X σ b l4 l2 hb) (blk hb 0 rfl) rfl q_21_8 q_21_9 q_21_10 q_1_5 q_21_11 ⟨rfl, hdX9_isChild⟩ ⟨Nat.le_of_ble_eq_true rfl, Nat.le_of_ble_eq_true rfl, rfl, rfl⟩ ⟨Nat.zero_le _, Nat.zero_le _⟩ (Nat.le_of_ble_eq_true rfl) rfl rfl dX9_leaves_35 (fun r4 _ => ?_)
      refine g_ifb_eq (pc := 38) (tgt := 68) C dX9_leaves_38 rfl ?_ ?_
      · refine g_aload_n (pc := 41) (i := 0) C dX9_leaves_41 rfl rfl ?_
        refine g_iload (pc := 42) C dX9_leaves_42 rfl ?_
        refine g_iconst (pc := 44) (v := 4) C dX9_leaves_44 (by decide) ?_
        refine g_callVi (pc := 45) (As := [.int (l4), .int (4)]) C (kX9_its X σ b l4 4 hb) (blk hb 0 rfl) rfl q_20_12 q_20_13 q_20_14 q_1_5 q_20_15 ⟨rfl, hdX9_its⟩ ⟨Nat.le_of_ble_eq_true rfl, Nat.le_of_ble_eq_true rfl, rfl, rfl⟩ ⟨Nat.zero_le _, Nat.zero_le _⟩ (Nat.le_of_ble_eq_true rfl) rfl rfl dX9_leaves_45 (fun r5 _ => ?_)
        refine g_iload_n (pc := 48) (i := 3) C dX9_leaves_48 rfl rfl ?_
        refine g_icmp_le (pc := 49) (tgt := 68) C dX9_leaves_49 rfl ?_ ?_
        · refine g_keep [true, false, true, true, true] ?_
          exact bX9_leaves_68 C hr b hb ih σ l2 l3 l4
        · refine g_aload_n (pc := 52) (i := 0) C dX9_leaves_52 rfl rfl ?_
          refine g_iload (pc := 53) C dX9_leaves_53 rfl ?_
          refine g_iconst (pc := 55) (v := 4) C dX9_leaves_55 (by decide) ?_
          refine g_aload_n (pc := 56) (i := 0) C dX9_leaves_56 rfl rfl ?_
          refine g_iload (pc := 57) C dX9_leaves_57 rfl ?_
          refine g_iconst (pc := 59) (v := 4) C dX9_leaves_59 (by decide) ?_
          refine g_callVi (pc := 60) (As := [.int (l4), .int (4)]) C (kX9_its X σ b l4 4 hb) (blk hb 0 rfl) rfl q_20_12 q_20_13 q_20_14 q_1_5 q_20_15 ⟨rfl, hdX9_its⟩ ⟨Nat.le_of_ble_eq_true rfl, Nat.le_of_ble_eq_true rfl, rfl, rfl⟩ ⟨Nat.zero_le _, Nat.zero_le _⟩ (Nat.le_of_ble_eq_true rfl) rfl rfl dX9_leaves_60 (fun r6 _ => ?_)
          refine g_iconst (pc := 63) (v := 1) C dX9_leaves_63 (by decide) ?_
          refine g_isub (pc := 64) C dX9_leaves_64 ?_
          refine g_callVv (pc := 65) (As := [.int (l4), .int (4), .int (r6 - 1)]) C (kX9_lay X σ b l4 4 (r6 - 1) hb) (blk hb 0 rfl) rfl q_21_0 q_21_1 q_21_2 q_1_5 q_21_3 ⟨rfl, hdX9_lay⟩ ⟨Nat.le_of_ble_eq_true rfl, Nat.le_of_ble_eq_true rfl, rfl, rfl⟩ ⟨Nat.zero_le _, Nat.zero_le _⟩ (Nat.le_of_ble_eq_true rfl) rfl rfl dX9_leaves_65 (fun σ7 _ => ?_)
          refine g_keep [true, false, true, true, true] ?_
          exact bX9_leaves_68 C hr b hb ih σ7 l2 l3 l4
      · refine g_keep [true, false, true, true, true] ?_
        exact bX9_leaves_68 C hr b hb ih σ l2 l3 l4
def fX9_leaves (σ : Sg) (b : Nat) (p1 : Int32) : Option Sg :=
  (fX9_its σ b p1 1).bind fun r1 =>
  (fX9_its σ b p1 4).bind fun r2 =>
  (fX9_lay σ b p1 0 0).bind fun σ3 =>
  (fX9_leaves_24 b FU σ3 r1 r2 0)
theorem kX9_leaves (X : Xc) (σ : Sg) (b : Nat) (p1 : Int32) (hb : moOK b) : ∀ r, fX9_leaves σ b p1 = some r → Met X.l yX9_leaves (wsM yX9_leaves cX9_leaves 5 none) rmX9_leaves (va_Pc [.ref (X.ad b), .int p1] (PW X σ)) (Qv X r) 0 0 X.A := by
  refine mt_of (own := RX9) (lo := [some (.ref (X.ad b)), some (.int (p1)), none, none, none]) (by decide) rfl (Nat.le_of_ble_eq_true rfl) rfl (fun K C hr => ?_)
  unfold fX9_leaves
  refine g_aload_n (pc := 0) (i := 0) C dX9_leaves_0 rfl rfl ?_
  refine g_iload_n (pc := 1) (i := 1) C dX9_leaves_1 rfl rfl ?_
  refine g_iconst (pc := 2) (v := 1) C dX9_leaves_2 (by decide) ?_
  refine g_callVi (pc := 3) (As := [.int (p1), .int (1)]) C (kX9_its X σ b p1 1 hb) (blk hb 0 rfl) rfl q_20_12 q_20_13 q_20_14 q_1_5 q_20_15 ⟨rfl, hdX9_its⟩ ⟨Nat.le_of_ble_eq_true rfl, Nat.le_of_ble_eq_true rfl, rfl, rfl⟩ ⟨Nat.zero_le _, Nat.zero_le _⟩ (Nat.le_of_ble_eq_true rfl) rfl rfl dX9_leaves_3 (fun r1 _ => ?_)
  refine g_istore_n (pc := 6) (i := 2) C dX9_leaves_6 rfl (Nat.le_of_ble_eq_true rfl) rfl ?_
  refine g_aload_n (pc := 7) (i := 0) C dX9_leaves_7 rfl rfl ?_
  refine g_iload_n (pc := 8) (i := 1) C dX9_leaves_8 rfl rfl ?_
  refine g_iconst (pc := 9) (v := 4) C dX9_leaves_9 (by decide) ?_
  refine g_callVi (pc := 10) (As := [.int (p1), .int (4)]) C (kX9_its X σ b p1 4 hb) (blk hb 0 rfl) rfl q_20_12 q_20_13 q_20_14 q_1_5 q_20_15 ⟨rfl, hdX9_its⟩ ⟨Nat.le_of_ble_eq_true rfl, Nat.le_of_ble_eq_true rfl, rfl, rfl⟩ ⟨Nat.zero_le _, Nat.zero_le _⟩ (Nat.le_of_ble_eq_true rfl) rfl rfl dX9_leaves_10 (fun r2 _ => ?_)
  refine g_istore_n (pc := 13) (i := 3) C dX9_leaves_13 rfl (Nat.le_of_ble_eq_true rfl) rfl ?_
  refine g_aload_n (pc := 14) (i := 0) C dX9_leaves_14 rfl rfl ?_
  refine g_iload_n (pc := 15) (i := 1) C dX9_leaves_15 rfl rfl ?_
  refine g_iconst (pc := 16) (v := 0) C dX9_leaves_16 (by decide) ?_
  refine g_iconst (pc := 17) (v := 0) C dX9_leaves_17 (by decide) ?_
  refine g_callVv (pc := 18) (As := [.int (p1), .int (0), .int (0)]) C (kX9_lay X σ b p1 0 0 hb) (blk hb 0 rfl) rfl q_21_0 q_21_1 q_21_2 q_1_5 q_21_3 ⟨rfl, hdX9_lay⟩ ⟨Nat.le_of_ble_eq_true rfl, Nat.le_of_ble_eq_true rfl, rfl, rfl⟩ ⟨Nat.zero_le _, Nat.zero_le _⟩ (Nat.le_of_ble_eq_true rfl) rfl rfl dX9_leaves_18 (fun σ3 _ => ?_)
  refine g_iconst (pc := 21) (v := 0) C dX9_leaves_21 (by decide) ?_
  refine g_istore (pc := 22) C dX9_leaves_22 (Nat.le_of_ble_eq_true rfl) rfl ?_
  refine g_keep [true, false, true, true, true] ?_
  exact bX9_leaves_24 C hr b hb FU σ3 r1 r2 0
theorem dX9_rootOf_0 : decode cX9_rootOf 0 = .ok (.iload_n 1, 1) := by decide +kernel
theorem dX9_rootOf_1 : decode cX9_rootOf 1 = .ok (.istore_n 2, 1) := by decide +kernel
theorem dX9_rootOf_2 : decode cX9_rootOf 2 = .ok (.aload_n 0, 1) := by decide +kernel
theorem dX9_rootOf_3 : decode cX9_rootOf 3 = .ok (.iload_n 2, 1) := by decide +kernel
theorem dX9_rootOf_4 : decode cX9_rootOf 4 = .ok (.iconst 1, 1) := by decide +kernel
theorem dX9_rootOf_5 : decode cX9_rootOf 5 = .ok (.invokevirtual 76, 3) := by decide +kernel
theorem dX9_rootOf_8 : decode cX9_rootOf 8 = .ok (.iconst (-1), 1) := by decide +kernel
theorem dX9_rootOf_9 : decode cX9_rootOf 9 = .ok (.if_icmp .eq 13, 3) := by decide +kernel
theorem dX9_rootOf_12 : decode cX9_rootOf 12 = .ok (.aload_n 0, 1) := by decide +kernel
theorem dX9_rootOf_13 : decode cX9_rootOf 13 = .ok (.iload_n 2, 1) := by decide +kernel
theorem dX9_rootOf_14 : decode cX9_rootOf 14 = .ok (.iconst 1, 1) := by decide +kernel
theorem dX9_rootOf_15 : decode cX9_rootOf 15 = .ok (.invokevirtual 76, 3) := by decide +kernel
theorem dX9_rootOf_18 : decode cX9_rootOf 18 = .ok (.istore_n 2, 1) := by decide +kernel
theorem dX9_rootOf_19 : decode cX9_rootOf 19 = .ok (.goto (-17), 3) := by decide +kernel
theorem dX9_rootOf_22 : decode cX9_rootOf 22 = .ok (.iload_n 2, 1) := by decide +kernel
theorem dX9_rootOf_23 : decode cX9_rootOf 23 = .ok (.ireturn, 1) := by decide +kernel
abbrev rmX9_rootOf : Room := { frames := 1, cells := 0, slots := 0, locals := 22 }
theorem hdX9_rootOf : yX9_rootOf.cls ≠ "java/lang/invoke/MethodHandle" ∧ yX9_rootOf.cls ≠ "java/lang/invoke/VarHandle" ∧ (parseMethodDescriptor yX9_rootOf.desc).map (fun d => d.parameters.length) = some 1 := by decide +kernel
def fX9_rootOf_2 (σ : Sg) (b : Nat) : Nat → Int32 → Option Int32
  | 0, _ => none
  | n + 1, l2 =>
    (fX9_its σ b l2 1).bind fun r1 =>
    if r1 = (-1) then
      some l2
    else
      (fX9_its σ b l2 1).bind fun r2 =>
      ((fX9_rootOf_2 σ b n) r2)
theorem bX9_rootOf_2 {X : Xc} {K : Kc} (C : MC X K cX9_rootOf 3 RX9 rmX9_rootOf) (hr : K.meth.sig.returnType = (some .int)) (σ : Sg) (b : Nat) (hb : moOK b) : ∀ (n : Nat) (l2 : Int32), GO X K 3 (fun r => MQi X K r σ) (fX9_rootOf_2 σ b n l2) σ 0 0 2 [some (.ref (X.ad b)), none, some (.int (l2))] [] := by
  intro n
  induction n with
  | zero =>
    intro l2
    exact g_none
  | succ n ih =>
    intro l2
    unfold fX9_rootOf_2
    refine g_aload_n (pc := 2) (i := 0) C dX9_rootOf_2 rfl rfl ?_
    refine g_iload_n (pc := 3) (i := 2) C dX9_rootOf_3 rfl rfl ?_
    refine g_iconst (pc := 4) (v := 1) C dX9_rootOf_4 (by decide) ?_
    refine g_callVi (pc := 5) (As := [.int (l2), .int (1)]) C (kX9_its X σ b l2 1 hb) (blk hb 0 rfl) rfl q_20_12 q_20_13 q_20_14 q_1_5 q_20_15 ⟨rfl, hdX9_its⟩ ⟨Nat.le_of_ble_eq_true rfl, Nat.le_of_ble_eq_true rfl, rfl, rfl⟩ ⟨Nat.zero_le _, Nat.zero_le _⟩ (Nat.le_of_ble_eq_true rfl) rfl rfl dX9_rootOf_5 (fun r1 _ => ?_)
    refine g_iconst (pc := 8) (v := (-1)) C dX9_rootOf_8 (by decide) ?_
    refine g_icmp_eq (pc := 9) (tgt := 22) C dX9_rootOf_9 rfl ?_ ?_
    · refine g_iload_n (pc := 22) (i := 2) C dX9_rootOf_22 rfl rfl ?_
      exact g_iret (pc := 23) C hr dX9_rootOf_23 rfl
    · refine g_aload_n (pc := 12) (i := 0) C dX9_rootOf_12 rfl rfl ?_
      refine g_iload_n (pc := 13) (i := 2) C dX9_rootOf_13 rfl rfl ?_
      refine g_iconst (pc := 14) (v := 1) C dX9_rootOf_14 (by decide) ?_
      refine g_callVi (pc := 15) (As := [.int (l2), .int (1)]) C (kX9_its X σ b l2 1 hb) (blk hb 0 rfl) rfl q_20_12 q_20_13 q_20_14 q_1_5 q_20_15 ⟨rfl, hdX9_its⟩ ⟨Nat.le_of_ble_eq_true rfl, Nat.le_of_ble_eq_true rfl, rfl, rfl⟩ ⟨Nat.zero_le _, Nat.zero_le _⟩ (Nat.le_of_ble_eq_true rfl) rfl rfl dX9_rootOf_15 (fun r2 _ => ?_)
      refine g_istore_n (pc := 18) (i := 2) C dX9_rootOf_18 rfl (Nat.le_of_ble_eq_true rfl) rfl ?_
      refine g_goto (pc := 19) (tgt := 2) C dX9_rootOf_19 rfl ?_
      refine g_keep [true, false, true] ?_
      exact ih r2
def fX9_rootOf (σ : Sg) (b : Nat) (p1 : Int32) : Option Int32 :=
  (fX9_rootOf_2 σ b FU p1)
theorem kX9_rootOf (X : Xc) (σ : Sg) (b : Nat) (p1 : Int32) (hb : moOK b) : ∀ r, fX9_rootOf σ b p1 = some r → Met X.l yX9_rootOf (wsM yX9_rootOf cX9_rootOf 3 (some .int)) rmX9_rootOf (va_Pc [.ref (X.ad b), .int p1] (PW X σ)) (Qi X r σ) 0 0 X.A := by
  refine mt_of (own := RX9) (lo := [some (.ref (X.ad b)), some (.int (p1)), none]) (by decide) rfl (Nat.le_of_ble_eq_true rfl) rfl (fun K C hr => ?_)
  unfold fX9_rootOf
  refine g_iload_n (pc := 0) (i := 1) C dX9_rootOf_0 rfl rfl ?_
  refine g_istore_n (pc := 1) (i := 2) C dX9_rootOf_1 rfl (Nat.le_of_ble_eq_true rfl) rfl ?_
  refine g_keep [true, false, true] ?_
  exact bX9_rootOf_2 C hr σ b hb FU p1
theorem dX9_windowOf_0 : decode cX9_windowOf 0 = .ok (.aload_n 0, 1) := by decide +kernel
theorem dX9_windowOf_1 : decode cX9_windowOf 1 = .ok (.iload_n 1, 1) := by decide +kernel
theorem dX9_windowOf_2 : decode cX9_windowOf 2 = .ok (.invokevirtual 87, 3) := by decide +kernel
theorem dX9_windowOf_5 : decode cX9_windowOf 5 = .ok (.istore_n 2, 1) := by decide +kernel
theorem dX9_windowOf_6 : decode cX9_windowOf 6 = .ok (.iconst 0, 1) := by decide +kernel
theorem dX9_windowOf_7 : decode cX9_windowOf 7 = .ok (.istore_n 3, 1) := by decide +kernel
theorem dX9_windowOf_8 : decode cX9_windowOf 8 = .ok (.aload_n 0, 1) := by decide +kernel
theorem dX9_windowOf_9 : decode cX9_windowOf 9 = .ok (.iload_n 3, 1) := by decide +kernel
theorem dX9_windowOf_10 : decode cX9_windowOf 10 = .ok (.iconst 0, 1) := by decide +kernel
theorem dX9_windowOf_11 : decode cX9_windowOf 11 = .ok (.iconst 1, 1) := by decide +kernel
theorem dX9_windowOf_12 : decode cX9_windowOf 12 = .ok (.invokevirtual 72, 3) := by decide +kernel
theorem dX9_windowOf_15 : decode cX9_windowOf 15 = .ok (.ifCond .eq 14, 3) := by decide +kernel
theorem dX9_windowOf_18 : decode cX9_windowOf 18 = .ok (.aload_n 0, 1) := by decide +kernel
theorem dX9_windowOf_19 : decode cX9_windowOf 19 = .ok (.iload_n 3, 1) := by decide +kernel
theorem dX9_windowOf_20 : decode cX9_windowOf 20 = .ok (.iconst 5, 1) := by decide +kernel
theorem dX9_windowOf_21 : decode cX9_windowOf 21 = .ok (.iconst 1, 1) := by decide +kernel
theorem dX9_windowOf_22 : decode cX9_windowOf 22 = .ok (.invokevirtual 72, 3) := by decide +kernel
theorem dX9_windowOf_25 : decode cX9_windowOf 25 = .ok (.iload_n 2, 1) := by decide +kernel
theorem dX9_windowOf_26 : decode cX9_windowOf 26 = .ok (.if_icmp .eq 9, 3) := by decide +kernel
theorem dX9_windowOf_29 : decode cX9_windowOf 29 = .ok (.iinc 3 1, 3) := by decide +kernel
theorem dX9_windowOf_32 : decode cX9_windowOf 32 = .ok (.goto (-24), 3) := by decide +kernel
theorem dX9_windowOf_35 : decode cX9_windowOf 35 = .ok (.iload_n 3, 1) := by decide +kernel
theorem dX9_windowOf_36 : decode cX9_windowOf 36 = .ok (.ireturn, 1) := by decide +kernel
abbrev rmX9_windowOf : Room := { frames := 2, cells := 0, slots := 0, locals := 44 }
theorem hdX9_windowOf : yX9_windowOf.cls ≠ "java/lang/invoke/MethodHandle" ∧ yX9_windowOf.cls ≠ "java/lang/invoke/VarHandle" ∧ (parseMethodDescriptor yX9_windowOf.desc).map (fun d => d.parameters.length) = some 1 := by decide +kernel
def fX9_windowOf_29 (σ : Sg) (b : Nat) (k8 : Int32 → Int32 → Option Int32) (l2 : Int32) (l3 : Int32) : Option Int32 :=
  (k8 l2 (l3 + 1))
theorem bX9_windowOf_29 {X : Xc} {K : Kc} (C : MC X K cX9_windowOf 4 RX9 rmX9_windowOf) (hr : K.meth.sig.returnType = (some .int)) (σ : Sg) (b : Nat) (hb : moOK b){k8 : Int32 → Int32 → Option Int32} (hk8 : ∀ (l2 : Int32) (l3 : Int32), GO X K 4 (fun r => MQi X K r σ) (k8 l2 l3) σ 0 0 8 [some (.ref (X.ad b)), none, some (.int (l2)), some (.int (l3))] []) (l2 : Int32) (l3 : Int32) : GO X K 4 (fun r => MQi X K r σ) (fX9_windowOf_29 σ b k8 l2 l3) σ 0 0 29 [some (.ref (X.ad b)), none, some (.int (l2)), some (.int (l3))] [] := by
  unfold fX9_windowOf_29
  refine g_iinc (pc := 29) (v := l3 + 1) C dX9_windowOf_29 rfl (rfl) (Nat.le_of_ble_eq_true rfl) rfl ?_
  refine g_goto (pc := 32) (tgt := 8) C dX9_windowOf_32 rfl ?_
  refine g_keep [true, false, true, true] ?_
  exact hk8 l2 (l3 + 1)
def fX9_windowOf_8 (σ : Sg) (b : Nat) : Nat → Int32 → Int32 → Option Int32
  | 0, _, _ => none
  | n + 1, l2, l3 =>
    (fX9_window σ b l3 0 1).bind fun r2 =>
    if r2 = 0 then
      (fX9_windowOf_29 σ b (fX9_windowOf_8 σ b n) l2 l3)
    else
      (fX9_window σ b l3 5 1).bind fun r3 =>
      if r3 = l2 then
        some l3
      else
        (fX9_windowOf_29 σ b (fX9_windowOf_8 σ b n) l2 l3)
theorem bX9_windowOf_8 {X : Xc} {K : Kc} (C : MC X K cX9_windowOf 4 RX9 rmX9_windowOf) (hr : K.meth.sig.returnType = (some .int)) (σ : Sg) (b : Nat) (hb : moOK b) : ∀ (n : Nat) (l2 : Int32) (l3 : Int32), GO X K 4 (fun r => MQi X K r σ) (fX9_windowOf_8 σ b n l2 l3) σ 0 0 8 [some (.ref (X.ad b)), none, some (.int (l2)), some (.int (l3))] [] := by
  intro n
  induction n with
  | zero =>
    intro l2 l3
    exact g_none
  | succ n ih =>
    intro l2 l3
    unfold fX9_windowOf_8
    refine g_aload_n (pc := 8) (i := 0) C dX9_windowOf_8 rfl rfl ?_
    refine g_iload_n (pc := 9) (i := 3) C dX9_windowOf_9 rfl rfl ?_
    refine g_iconst (pc := 10) (v := 0) C dX9_windowOf_10 (by decide) ?_
    refine g_iconst (pc := 11) (v := 1) C dX9_windowOf_11 (by decide) ?_
    refine g_callVi (pc := 12) (As := [.int (l3), .int (0), .int (1)]) C (kX9_window X σ b l3 0 1 hb) (blk hb 0 rfl) rfl q_22_12 q_22_13 q_22_14 q_1_5 q_22_15 ⟨rfl, hdX9_window⟩ ⟨Nat.le_of_ble_eq_true rfl, Nat.le_of_ble_eq_true rfl, rfl, rfl⟩ ⟨Nat.zero_le _, Nat.zero_le _⟩ (Nat.le_of_ble_eq_true rfl) rfl rfl dX9_windowOf_12 (fun r2 _ => ?_)
    refine g_if_eq (pc := 15) (tgt := 29) C dX9_windowOf_15 rfl ?_ ?_
    · refine g_keep [true, false, true, true] ?_
      exact bX9_windowOf_29 C hr σ b hb ih l2 l3
    · refine g_aload_n (pc := 18) (i := 0) C dX9_windowOf_18 rfl rfl ?_
      refine g_iload_n (pc := 19) (i := 3) C dX9_windowOf_19 rfl rfl ?_
      refine g_iconst (pc := 20) (v := 5) C dX9_windowOf_20 (by decide) ?_
      refine g_iconst (pc := 21) (v := 1) C dX9_windowOf_21 (by decide) ?_
      refine g_callVi (pc := 22) (As := [.int (l3), .int (5), .int (1)]) C (kX9_window X σ b l3 5 1 hb) (blk hb 0 rfl) rfl q_22_12 q_22_13 q_22_14 q_1_5 q_22_15 ⟨rfl, hdX9_window⟩ ⟨Nat.le_of_ble_eq_true rfl, Nat.le_of_ble_eq_true rfl, rfl, rfl⟩ ⟨Nat.zero_le _, Nat.zero_le _⟩ (Nat.le_of_ble_eq_true rfl) rfl rfl dX9_windowOf_22 (fun r3 _ => ?_)
      refine g_iload_n (pc := 25) (i := 2) C dX9_windowOf_25 rfl rfl ?_
      refine g_icmp_eq (pc := 26) (tgt := 35) C dX9_windowOf_26 rfl ?_ ?_
      · refine g_iload_n (pc := 35) (i := 3) C dX9_windowOf_35 rfl rfl ?_
        exact g_iret (pc := 36) C hr dX9_windowOf_36 rfl
      · refine g_keep [true, false, true, true] ?_
        exact bX9_windowOf_29 C hr σ b hb ih l2 l3
def fX9_windowOf (σ : Sg) (b : Nat) (p1 : Int32) : Option Int32 :=
  (fX9_rootOf σ b p1).bind fun r1 =>
  (fX9_windowOf_8 σ b FU r1 0)
theorem kX9_windowOf (X : Xc) (σ : Sg) (b : Nat) (p1 : Int32) (hb : moOK b) : ∀ r, fX9_windowOf σ b p1 = some r → Met X.l yX9_windowOf (wsM yX9_windowOf cX9_windowOf 4 (some .int)) rmX9_windowOf (va_Pc [.ref (X.ad b), .int p1] (PW X σ)) (Qi X r σ) 0 0 X.A := by
  refine mt_of (own := RX9) (lo := [some (.ref (X.ad b)), some (.int (p1)), none, none]) (by decide) rfl (Nat.le_of_ble_eq_true rfl) rfl (fun K C hr => ?_)
  unfold fX9_windowOf
  refine g_aload_n (pc := 0) (i := 0) C dX9_windowOf_0 rfl rfl ?_
  refine g_iload_n (pc := 1) (i := 1) C dX9_windowOf_1 rfl rfl ?_
  refine g_callVi (pc := 2) (As := [.int (p1)]) C (kX9_rootOf X σ b p1 hb) (blk hb 0 rfl) rfl q_22_8 q_22_9 q_22_10 q_1_5 q_22_11 ⟨rfl, hdX9_rootOf⟩ ⟨Nat.le_of_ble_eq_true rfl, Nat.le_of_ble_eq_true rfl, rfl, rfl⟩ ⟨Nat.zero_le _, Nat.zero_le _⟩ (Nat.le_of_ble_eq_true rfl) rfl rfl dX9_windowOf_2 (fun r1 _ => ?_)
  refine g_istore_n (pc := 5) (i := 2) C dX9_windowOf_5 rfl (Nat.le_of_ble_eq_true rfl) rfl ?_
  refine g_iconst (pc := 6) (v := 0) C dX9_windowOf_6 (by decide) ?_
  refine g_istore_n (pc := 7) (i := 3) C dX9_windowOf_7 rfl (Nat.le_of_ble_eq_true rfl) rfl ?_
  refine g_keep [true, false, true, true] ?_
  exact bX9_windowOf_8 C hr σ b hb FU r1 0
theorem dX9_replaces_0 : decode cX9_replaces 0 = .ok (.aload_n 0, 1) := by decide +kernel
theorem dX9_replaces_1 : decode cX9_replaces 1 = .ok (.iload_n 2, 1) := by decide +kernel
theorem dX9_replaces_2 : decode cX9_replaces 2 = .ok (.iconst 1, 1) := by decide +kernel
theorem dX9_replaces_3 : decode cX9_replaces 3 = .ok (.invokevirtual 76, 3) := by decide +kernel
theorem dX9_replaces_6 : decode cX9_replaces 6 = .ok (.iconst (-1), 1) := by decide +kernel
theorem dX9_replaces_7 : decode cX9_replaces 7 = .ok (.if_icmp .ne 14, 3) := by decide +kernel
theorem dX9_replaces_10 : decode cX9_replaces 10 = .ok (.aload_n 0, 1) := by decide +kernel
theorem dX9_replaces_11 : decode cX9_replaces 11 = .ok (.aload_n 0, 1) := by decide +kernel
theorem dX9_replaces_12 : decode cX9_replaces 12 = .ok (.iload_n 2, 1) := by decide +kernel
theorem dX9_replaces_13 : decode cX9_replaces 13 = .ok (.invokevirtual 91, 3) := by decide +kernel
theorem dX9_replaces_16 : decode cX9_replaces 16 = .ok (.iconst 5, 1) := by decide +kernel
theorem dX9_replaces_17 : decode cX9_replaces 17 = .ok (.iload_n 1, 1) := by decide +kernel
theorem dX9_replaces_18 : decode cX9_replaces 18 = .ok (.invokevirtual 94, 3) := by decide +kernel
theorem dX9_replaces_21 : decode cX9_replaces 21 = .ok (.aload_n 0, 1) := by decide +kernel
theorem dX9_replaces_22 : decode cX9_replaces 22 = .ok (.iload_n 1, 1) := by decide +kernel
theorem dX9_replaces_23 : decode cX9_replaces 23 = .ok (.iconst 1, 1) := by decide +kernel
theorem dX9_replaces_24 : decode cX9_replaces 24 = .ok (.aload_n 0, 1) := by decide +kernel
theorem dX9_replaces_25 : decode cX9_replaces 25 = .ok (.iload_n 2, 1) := by decide +kernel
theorem dX9_replaces_26 : decode cX9_replaces 26 = .ok (.iconst 1, 1) := by decide +kernel
theorem dX9_replaces_27 : decode cX9_replaces 27 = .ok (.invokevirtual 76, 3) := by decide +kernel
theorem dX9_replaces_30 : decode cX9_replaces 30 = .ok (.invokevirtual 79, 3) := by decide +kernel
theorem dX9_replaces_33 : decode cX9_replaces 33 = .ok (.aload_n 0, 1) := by decide +kernel
theorem dX9_replaces_34 : decode cX9_replaces 34 = .ok (.iload_n 1, 1) := by decide +kernel
theorem dX9_replaces_35 : decode cX9_replaces 35 = .ok (.iconst 4, 1) := by decide +kernel
theorem dX9_replaces_36 : decode cX9_replaces 36 = .ok (.aload_n 0, 1) := by decide +kernel
theorem dX9_replaces_37 : decode cX9_replaces 37 = .ok (.iload_n 2, 1) := by decide +kernel
theorem dX9_replaces_38 : decode cX9_replaces 38 = .ok (.iconst 4, 1) := by decide +kernel
theorem dX9_replaces_39 : decode cX9_replaces 39 = .ok (.invokevirtual 76, 3) := by decide +kernel
theorem dX9_replaces_42 : decode cX9_replaces 42 = .ok (.invokevirtual 79, 3) := by decide +kernel
theorem dX9_replaces_45 : decode cX9_replaces 45 = .ok (.aload_n 0, 1) := by decide +kernel
theorem dX9_replaces_46 : decode cX9_replaces 46 = .ok (.iload_n 1, 1) := by decide +kernel
theorem dX9_replaces_47 : decode cX9_replaces 47 = .ok (.iconst 3, 1) := by decide +kernel
theorem dX9_replaces_48 : decode cX9_replaces 48 = .ok (.aload_n 0, 1) := by decide +kernel
theorem dX9_replaces_49 : decode cX9_replaces 49 = .ok (.iload_n 2, 1) := by decide +kernel
theorem dX9_replaces_50 : decode cX9_replaces 50 = .ok (.iconst 3, 1) := by decide +kernel
theorem dX9_replaces_51 : decode cX9_replaces 51 = .ok (.invokevirtual 76, 3) := by decide +kernel
theorem dX9_replaces_54 : decode cX9_replaces 54 = .ok (.invokevirtual 79, 3) := by decide +kernel
theorem dX9_replaces_57 : decode cX9_replaces 57 = .ok (.return_, 1) := by decide +kernel
abbrev rmX9_replaces : Room := { frames := 3, cells := 0, slots := 0, locals := 67 }
theorem hdX9_replaces : yX9_replaces.cls ≠ "java/lang/invoke/MethodHandle" ∧ yX9_replaces.cls ≠ "java/lang/invoke/VarHandle" ∧ (parseMethodDescriptor yX9_replaces.desc).map (fun d => d.parameters.length) = some 2 := by decide +kernel
def fX9_replaces_21 (b : Nat) (σ : Sg) (l1 : Int32) (l2 : Int32) : Option Sg :=
  (fX9_its σ b l2 1).bind fun r4 =>
  (fX9_lay σ b l1 1 r4).bind fun σ5 =>
  (fX9_its σ5 b l2 4).bind fun r6 =>
  (fX9_lay σ5 b l1 4 r6).bind fun σ7 =>
  (fX9_its σ7 b l2 3).bind fun r8 =>
  (fX9_lay σ7 b l1 3 r8).bind fun σ9 =>
  some σ9
theorem bX9_replaces_21 {X : Xc} {K : Kc} (C : MC X K cX9_replaces 3 RX9 rmX9_replaces) (hr : K.meth.sig.returnType = none) (b : Nat) (hb : moOK b) (σ : Sg) (l1 : Int32) (l2 : Int32) : GO X K 3 (fun r => MQv X K r) (fX9_replaces_21 b σ l1 l2) σ 0 0 21 [some (.ref (X.ad b)), some (.int (l1)), some (.int (l2))] [] := by
  unfold fX9_replaces_21
  refine g_aload_n (pc := 21) (i := 0) C dX9_replaces_21 rfl rfl ?_
  refine g_iload_n (pc := 22) (i := 1) C dX9_replaces_22 rfl rfl ?_
  refine g_iconst (pc := 23) (v := 1) C dX9_replaces_23 (by decide) ?_
  refine g_aload_n (pc := 24) (i := 0) C dX9_replaces_24 rfl rfl ?_
  refine g_iload_n (pc := 25) (i := 2) C dX9_replaces_25 rfl rfl ?_
  refine g_iconst (pc := 26) (v := 1) C dX9_replaces_26 (by decide) ?_
  refine g_callVi (pc := 27) (As := [.int (l2), .int (1)]) C (kX9_its X σ b l2 1 hb) (blk hb 0 rfl) rfl q_20_12 q_20_13 q_20_14 q_1_5 q_20_15 ⟨rfl, hdX9_its⟩ ⟨Nat.le_of_ble_eq_true rfl, Nat.le_of_ble_eq_true rfl, rfl, rfl⟩ ⟨Nat.zero_le _, Nat.zero_le _⟩ (Nat.le_of_ble_eq_true rfl) rfl rfl dX9_replaces_27 (fun r4 _ => ?_)
  refine g_callVv (pc := 30) (As := [.int (l1), .int (1), .int (r4)]) C (kX9_lay X σ b l1 1 r4 hb) (blk hb 0 rfl) rfl q_21_0 q_21_1 q_21_2 q_1_5 q_21_3 ⟨rfl, hdX9_lay⟩ ⟨Nat.le_of_ble_eq_true rfl, Nat.le_of_ble_eq_true rfl, rfl, rfl⟩ ⟨Nat.zero_le _, Nat.zero_le _⟩ (Nat.le_of_ble_eq_true rfl) rfl rfl dX9_replaces_30 (fun σ5 _ => ?_)
  refine g_aload_n (pc := 33) (i := 0) C dX9_replaces_33 rfl rfl ?_
  refine g_iload_n (pc := 34) (i := 1) C dX9_replaces_34 rfl rfl ?_
  refine g_iconst (pc := 35) (v := 4) C dX9_replaces_35 (by decide) ?_
  refine g_aload_n (pc := 36) (i := 0) C dX9_replaces_36 rfl rfl ?_
  refine g_iload_n (pc := 37) (i := 2) C dX9_replaces_37 rfl rfl ?_
  refine g_iconst (pc := 38) (v := 4) C dX9_replaces_38 (by decide) ?_
  refine g_callVi (pc := 39) (As := [.int (l2), .int (4)]) C (kX9_its X σ5 b l2 4 hb) (blk hb 0 rfl) rfl q_20_12 q_20_13 q_20_14 q_1_5 q_20_15 ⟨rfl, hdX9_its⟩ ⟨Nat.le_of_ble_eq_true rfl, Nat.le_of_ble_eq_true rfl, rfl, rfl⟩ ⟨Nat.zero_le _, Nat.zero_le _⟩ (Nat.le_of_ble_eq_true rfl) rfl rfl dX9_replaces_39 (fun r6 _ => ?_)
  refine g_callVv (pc := 42) (As := [.int (l1), .int (4), .int (r6)]) C (kX9_lay X σ5 b l1 4 r6 hb) (blk hb 0 rfl) rfl q_21_0 q_21_1 q_21_2 q_1_5 q_21_3 ⟨rfl, hdX9_lay⟩ ⟨Nat.le_of_ble_eq_true rfl, Nat.le_of_ble_eq_true rfl, rfl, rfl⟩ ⟨Nat.zero_le _, Nat.zero_le _⟩ (Nat.le_of_ble_eq_true rfl) rfl rfl dX9_replaces_42 (fun σ7 _ => ?_)
  refine g_aload_n (pc := 45) (i := 0) C dX9_replaces_45 rfl rfl ?_
  refine g_iload_n (pc := 46) (i := 1) C dX9_replaces_46 rfl rfl ?_
  refine g_iconst (pc := 47) (v := 3) C dX9_replaces_47 (by decide) ?_
  refine g_aload_n (pc := 48) (i := 0) C dX9_replaces_48 rfl rfl ?_
  refine g_iload_n (pc := 49) (i := 2) C dX9_replaces_49 rfl rfl ?_
  refine g_iconst (pc := 50) (v := 3) C dX9_replaces_50 (by decide) ?_
  refine g_callVi (pc := 51) (As := [.int (l2), .int (3)]) C (kX9_its X σ7 b l2 3 hb) (blk hb 0 rfl) rfl q_20_12 q_20_13 q_20_14 q_1_5 q_20_15 ⟨rfl, hdX9_its⟩ ⟨Nat.le_of_ble_eq_true rfl, Nat.le_of_ble_eq_true rfl, rfl, rfl⟩ ⟨Nat.zero_le _, Nat.zero_le _⟩ (Nat.le_of_ble_eq_true rfl) rfl rfl dX9_replaces_51 (fun r8 _ => ?_)
  refine g_callVv (pc := 54) (As := [.int (l1), .int (3), .int (r8)]) C (kX9_lay X σ7 b l1 3 r8 hb) (blk hb 0 rfl) rfl q_21_0 q_21_1 q_21_2 q_1_5 q_21_3 ⟨rfl, hdX9_lay⟩ ⟨Nat.le_of_ble_eq_true rfl, Nat.le_of_ble_eq_true rfl, rfl, rfl⟩ ⟨Nat.zero_le _, Nat.zero_le _⟩ (Nat.le_of_ble_eq_true rfl) rfl rfl dX9_replaces_54 (fun σ9 _ => ?_)
  exact g_vret (pc := 57) C hr dX9_replaces_57 rfl
def fX9_replaces (σ : Sg) (b : Nat) (p1 : Int32) (p2 : Int32) : Option Sg :=
  (fX9_its σ b p2 1).bind fun r1 =>
  if r1 = (-1) then
    (fX9_windowOf σ b p2).bind fun r2 =>
    (fX9_puts σ b r2 5 p1).bind fun σ3 =>
    (fX9_replaces_21 b σ3 p1 p2)
  else
    (fX9_replaces_21 b σ p1 p2)
theorem kX9_replaces (X : Xc) (σ : Sg) (b : Nat) (p1 : Int32) (p2 : Int32) (hb : moOK b) : ∀ r, fX9_replaces σ b p1 p2 = some r → Met X.l yX9_replaces (wsM yX9_replaces cX9_replaces 3 none) rmX9_replaces (va_Pc [.ref (X.ad b), .int p1, .int p2] (PW X σ)) (Qv X r) 0 0 X.A := by
  refine mt_of (own := RX9) (lo := [some (.ref (X.ad b)), some (.int (p1)), some (.int (p2))]) (by decide) rfl (Nat.le_of_ble_eq_true rfl) rfl (fun K C hr => ?_)
  unfold fX9_replaces
  refine g_aload_n (pc := 0) (i := 0) C dX9_replaces_0 rfl rfl ?_
  refine g_iload_n (pc := 1) (i := 2) C dX9_replaces_1 rfl rfl ?_
  refine g_iconst (pc := 2) (v := 1) C dX9_replaces_2 (by decide) ?_
  refine g_callVi (pc := 3) (As := [.int (p2), .int (1)]) C (kX9_its X σ b p2 1 hb) (blk hb 0 rfl) rfl q_20_12 q_20_13 q_20_14 q_1_5 q_20_15 ⟨rfl, hdX9_its⟩ ⟨Nat.le_of_ble_eq_true rfl, Nat.le_of_ble_eq_true rfl, rfl, rfl⟩ ⟨Nat.zero_le _, Nat.zero_le _⟩ (Nat.le_of_ble_eq_true rfl) rfl rfl dX9_replaces_3 (fun r1 _ => ?_)
  refine g_iconst (pc := 6) (v := (-1)) C dX9_replaces_6 (by decide) ?_
  refine g_icmp_ne (pc := 7) (tgt := 21) C dX9_replaces_7 rfl ?_ ?_
  · refine g_aload_n (pc := 10) (i := 0) C dX9_replaces_10 rfl rfl ?_
    refine g_aload_n (pc := 11) (i := 0) C dX9_replaces_11 rfl rfl ?_
    refine g_iload_n (pc := 12) (i := 2) C dX9_replaces_12 rfl rfl ?_
    refine g_callVi (pc := 13) (As := [.int (p2)]) C (kX9_windowOf X σ b p2 hb) (blk hb 0 rfl) rfl q_22_4 q_22_5 q_22_6 q_1_5 q_22_7 ⟨rfl, hdX9_windowOf⟩ ⟨Nat.le_of_ble_eq_true rfl, Nat.le_of_ble_eq_true rfl, rfl, rfl⟩ ⟨Nat.zero_le _, Nat.zero_le _⟩ (Nat.le_of_ble_eq_true rfl) rfl rfl dX9_replaces_13 (fun r2 _ => ?_)
    refine g_iconst (pc := 16) (v := 5) C dX9_replaces_16 (by decide) ?_
    refine g_iload_n (pc := 17) (i := 1) C dX9_replaces_17 rfl rfl ?_
    refine g_callVv (pc := 18) (As := [.int (r2), .int (5), .int (p1)]) C (kX9_puts X σ b r2 5 p1 hb) (blk hb 0 rfl) rfl q_22_16 q_22_17 q_22_18 q_1_5 q_22_19 ⟨rfl, hdX9_puts⟩ ⟨Nat.le_of_ble_eq_true rfl, Nat.le_of_ble_eq_true rfl, rfl, rfl⟩ ⟨Nat.zero_le _, Nat.zero_le _⟩ (Nat.le_of_ble_eq_true rfl) rfl rfl dX9_replaces_18 (fun σ3 _ => ?_)
    refine g_keep [true, true, true] ?_
    exact bX9_replaces_21 C hr b hb σ3 p1 p2
  · refine g_keep [true, true, true] ?_
    exact bX9_replaces_21 C hr b hb σ p1 p2
theorem dX9_tabMany_0 : decode cX9_tabMany 0 = .ok (.iconst 0, 1) := by decide +kernel
theorem dX9_tabMany_1 : decode cX9_tabMany 1 = .ok (.istore_n 2, 1) := by decide +kernel
theorem dX9_tabMany_2 : decode cX9_tabMany 2 = .ok (.iconst 0, 1) := by decide +kernel
theorem dX9_tabMany_3 : decode cX9_tabMany 3 = .ok (.istore_n 3, 1) := by decide +kernel
theorem dX9_tabMany_4 : decode cX9_tabMany 4 = .ok (.iload_n 3, 1) := by decide +kernel
theorem dX9_tabMany_5 : decode cX9_tabMany 5 = .ok (.bipush 12, 2) := by decide +kernel
theorem dX9_tabMany_7 : decode cX9_tabMany 7 = .ok (.if_icmp .ge 27, 3) := by decide +kernel
theorem dX9_tabMany_10 : decode cX9_tabMany 10 = .ok (.iload_n 2, 1) := by decide +kernel
theorem dX9_tabMany_11 : decode cX9_tabMany 11 = .ok (.aload_n 0, 1) := by decide +kernel
theorem dX9_tabMany_12 : decode cX9_tabMany 12 = .ok (.iload_n 3, 1) := by decide +kernel
theorem dX9_tabMany_13 : decode cX9_tabMany 13 = .ok (.iconst 3, 1) := by decide +kernel
theorem dX9_tabMany_14 : decode cX9_tabMany 14 = .ok (.invokevirtual 65, 3) := by decide +kernel
theorem dX9_tabMany_17 : decode cX9_tabMany 17 = .ok (.iload_n 1, 1) := by decide +kernel
theorem dX9_tabMany_18 : decode cX9_tabMany 18 = .ok (.if_icmp .ne 7, 3) := by decide +kernel
theorem dX9_tabMany_21 : decode cX9_tabMany 21 = .ok (.iconst 1, 1) := by decide +kernel
theorem dX9_tabMany_22 : decode cX9_tabMany 22 = .ok (.goto 4, 3) := by decide +kernel
theorem dX9_tabMany_25 : decode cX9_tabMany 25 = .ok (.iconst 0, 1) := by decide +kernel
theorem dX9_tabMany_26 : decode cX9_tabMany 26 = .ok (.iadd, 1) := by decide +kernel
theorem dX9_tabMany_27 : decode cX9_tabMany 27 = .ok (.istore_n 2, 1) := by decide +kernel
theorem dX9_tabMany_28 : decode cX9_tabMany 28 = .ok (.iinc 3 1, 3) := by decide +kernel
theorem dX9_tabMany_31 : decode cX9_tabMany 31 = .ok (.goto (-27), 3) := by decide +kernel
theorem dX9_tabMany_34 : decode cX9_tabMany 34 = .ok (.iload_n 2, 1) := by decide +kernel
theorem dX9_tabMany_35 : decode cX9_tabMany 35 = .ok (.ireturn, 1) := by decide +kernel
abbrev rmX9_tabMany : Room := { frames := 1, cells := 0, slots := 0, locals := 22 }
theorem hdX9_tabMany : yX9_tabMany.cls ≠ "java/lang/invoke/MethodHandle" ∧ yX9_tabMany.cls ≠ "java/lang/invoke/VarHandle" ∧ (parseMethodDescriptor yX9_tabMany.desc).map (fun d => d.parameters.length) = some 1 := by decide +kernel
def fX9_tabMany_26 (σ : Sg) (b : Nat) (k4 : Int32 → Int32 → Int32 → Option Int32) (l1 : Int32) (l3 : Int32) (s0 : Int32) (s1 : Int32) : Option Int32 :=
  nm (s0 + s1) fun v2 =>
  (k4 l1 v2 (l3 + 1))
theorem bX9_tabMany_26 {X : Xc} {K : Kc} (C : MC X K cX9_tabMany 4 RX9 rmX9_tabMany) (hr : K.meth.sig.returnType = (some .int)) (σ : Sg) (b : Nat) (hb : moOK b){k4 : Int32 → Int32 → Int32 → Option Int32} (hk4 : ∀ (l1 : Int32) (l2 : Int32) (l3 : Int32), GO X K 4 (fun r => MQi X K r σ) (k4 l1 l2 l3) σ 0 0 4 [some (.ref (X.ad b)), some (.int (l1)), some (.int (l2)), some (.int (l3))] []) (l1 : Int32) (l3 : Int32) (s0 : Int32) (s1 : Int32) : GO X K 4 (fun r => MQi X K r σ) (fX9_tabMany_26 σ b k4 l1 l3 s0 s1) σ 0 0 26 [some (.ref (X.ad b)), some (.int (l1)), none, some (.int (l3))] [.int (s1), .int (s0)] := by
  unfold fX9_tabMany_26
  refine g_iadd (pc := 26) C dX9_tabMany_26 ?_
  refine g_nm (fun v2 => ?_)
  refine g_istore_n (pc := 27) (i := 2) C dX9_tabMany_27 rfl (Nat.le_of_ble_eq_true rfl) rfl ?_
  refine g_iinc (pc := 28) (v := l3 + 1) C dX9_tabMany_28 rfl (rfl) (Nat.le_of_ble_eq_true rfl) rfl ?_
  refine g_goto (pc := 31) (tgt := 4) C dX9_tabMany_31 rfl ?_
  refine g_keep [true, true, true, true] ?_
  exact hk4 l1 v2 (l3 + 1)
def fX9_tabMany_4 (σ : Sg) (b : Nat) : Nat → Int32 → Int32 → Int32 → Option Int32
  | 0, _, _, _ => none
  | n + 1, l1, l2, l3 =>
    if 12 ≤ l3 then
      some l2
    else
      (fX9_of σ b l3 3).bind fun r1 =>
      if r1 = l1 then
        (fX9_tabMany_26 σ b (fX9_tabMany_4 σ b n) l1 l3 l2 1)
      else
        (fX9_tabMany_26 σ b (fX9_tabMany_4 σ b n) l1 l3 l2 0)
theorem bX9_tabMany_4 {X : Xc} {K : Kc} (C : MC X K cX9_tabMany 4 RX9 rmX9_tabMany) (hr : K.meth.sig.returnType = (some .int)) (σ : Sg) (b : Nat) (hb : moOK b) : ∀ (n : Nat) (l1 : Int32) (l2 : Int32) (l3 : Int32), GO X K 4 (fun r => MQi X K r σ) (fX9_tabMany_4 σ b n l1 l2 l3) σ 0 0 4 [some (.ref (X.ad b)), some (.int (l1)), some (.int (l2)), some (.int (l3))] [] := by
  intro n
  induction n with
  | zero =>
    intro l1 l2 l3
    exact g_none
  | succ n ih =>
    intro l1 l2 l3
    unfold fX9_tabMany_4
    refine g_iload_n (pc := 4) (i := 3) C dX9_tabMany_4 rfl rfl ?_
    refine g_bipush (pc := 5) (v := 12) C dX9_tabMany_5 (by decide) ?_
    refine g_icmp_ge (pc := 7) (tgt := 34) C dX9_tabMany_7 rfl ?_ ?_
    · refine g_iload_n (pc := 34) (i := 2) C dX9_tabMany_34 rfl rfl ?_
      exact g_iret (pc := 35) C hr dX9_tabMany_35 rfl
    · refine g_iload_n (pc := 10) (i := 2) C dX9_tabMany_10 rfl rfl ?_
      refine g_aload_n (pc := 11) (i := 0) C dX9_tabMany_11 rfl rfl ?_
      refine g_iload_n (pc := 12) (i := 3) C dX9_tabMany_12 rfl rfl ?_
      refine g_iconst (pc := 13) (v := 3) C dX9_tabMany_13 (by decide) ?_
      refine g_callVi (pc := 14) (As := [.int (l3), .int (3)]) C (kX9_of X σ b l3 3 hb) (blk hb 0 rfl) rfl q_10_2 q_10_3 q_10_4 q_1_5 q_10_5 ⟨rfl, hdX9_of⟩ ⟨Nat.le_of_ble_eq_true rfl, Nat.le_of_ble_eq_true rfl, rfl, rfl⟩ ⟨Nat.zero_le _, Nat.zero_le _⟩ (Nat.le_of_ble_eq_true rfl) rfl rfl dX9_tabMany_14 (fun r1 _ => ?_)
      refine g_iload_n (pc := 17) (i := 1) C dX9_tabMany_17 rfl rfl ?_
      refine g_icmp_ne (pc := 18) (tgt := 25) C dX9_tabMany_18 rfl ?_ ?_
      · refine g_iconst (pc := 21) (v := 1) C dX9_tabMany_21 (by decide) ?_
        refine g_goto (pc := 22) (tgt := 26) C dX9_tabMany_22 rfl ?_
        refine g_keep [true, true, false, true] ?_
        exact bX9_tabMany_26 C hr σ b hb ih l1 l3 l2 1
      · refine g_iconst (pc := 25) (v := 0) C dX9_tabMany_25 (by decide) ?_
        refine g_keep [true, true, false, true] ?_
        exact bX9_tabMany_26 C hr σ b hb ih l1 l3 l2 0
def fX9_tabMany (σ : Sg) (b : Nat) (p1 : Int32) : Option Int32 :=
  (fX9_tabMany_4 σ b FU p1 0 0)
theorem kX9_tabMany (X : Xc) (σ : Sg) (b : Nat) (p1 : Int32) (hb : moOK b) : ∀ r, fX9_tabMany σ b p1 = some r → Met X.l yX9_tabMany (wsM yX9_tabMany cX9_tabMany 4 (some .int)) rmX9_tabMany (va_Pc [.ref (X.ad b), .int p1] (PW X σ)) (Qi X r σ) 0 0 X.A := by
  refine mt_of (own := RX9) (lo := [some (.ref (X.ad b)), some (.int (p1)), none, none]) (by decide) rfl (Nat.le_of_ble_eq_true rfl) rfl (fun K C hr => ?_)
  unfold fX9_tabMany
  refine g_iconst (pc := 0) (v := 0) C dX9_tabMany_0 (by decide) ?_
  refine g_istore_n (pc := 1) (i := 2) C dX9_tabMany_1 rfl (Nat.le_of_ble_eq_true rfl) rfl ?_
  refine g_iconst (pc := 2) (v := 0) C dX9_tabMany_2 (by decide) ?_
  refine g_istore_n (pc := 3) (i := 3) C dX9_tabMany_3 rfl (Nat.le_of_ble_eq_true rfl) rfl ?_
  refine g_keep [true, true, true, true] ?_
  exact bX9_tabMany_4 C hr σ b hb FU p1 0 0
theorem dX9_tabAt_0 : decode cX9_tabAt 0 = .ok (.iconst 0, 1) := by decide +kernel
theorem dX9_tabAt_1 : decode cX9_tabAt 1 = .ok (.istore_n 3, 1) := by decide +kernel
theorem dX9_tabAt_2 : decode cX9_tabAt 2 = .ok (.iload_n 3, 1) := by decide +kernel
theorem dX9_tabAt_3 : decode cX9_tabAt 3 = .ok (.bipush 12, 2) := by decide +kernel
theorem dX9_tabAt_5 : decode cX9_tabAt 5 = .ok (.if_icmp .ge 31, 3) := by decide +kernel
theorem dX9_tabAt_8 : decode cX9_tabAt 8 = .ok (.aload_n 0, 1) := by decide +kernel
theorem dX9_tabAt_9 : decode cX9_tabAt 9 = .ok (.iload_n 3, 1) := by decide +kernel
theorem dX9_tabAt_10 : decode cX9_tabAt 10 = .ok (.iconst 3, 1) := by decide +kernel
theorem dX9_tabAt_11 : decode cX9_tabAt 11 = .ok (.invokevirtual 65, 3) := by decide +kernel
theorem dX9_tabAt_14 : decode cX9_tabAt 14 = .ok (.iload_n 1, 1) := by decide +kernel
theorem dX9_tabAt_15 : decode cX9_tabAt 15 = .ok (.if_icmp .ne 15, 3) := by decide +kernel
theorem dX9_tabAt_18 : decode cX9_tabAt 18 = .ok (.aload_n 0, 1) := by decide +kernel
theorem dX9_tabAt_19 : decode cX9_tabAt 19 = .ok (.iload_n 3, 1) := by decide +kernel
theorem dX9_tabAt_20 : decode cX9_tabAt 20 = .ok (.iconst 4, 1) := by decide +kernel
theorem dX9_tabAt_21 : decode cX9_tabAt 21 = .ok (.invokevirtual 65, 3) := by decide +kernel
theorem dX9_tabAt_24 : decode cX9_tabAt 24 = .ok (.iload_n 2, 1) := by decide +kernel
theorem dX9_tabAt_25 : decode cX9_tabAt 25 = .ok (.if_icmp .ne 5, 3) := by decide +kernel
theorem dX9_tabAt_28 : decode cX9_tabAt 28 = .ok (.iload_n 3, 1) := by decide +kernel
theorem dX9_tabAt_29 : decode cX9_tabAt 29 = .ok (.ireturn, 1) := by decide +kernel
theorem dX9_tabAt_30 : decode cX9_tabAt 30 = .ok (.iinc 3 1, 3) := by decide +kernel
theorem dX9_tabAt_33 : decode cX9_tabAt 33 = .ok (.goto (-31), 3) := by decide +kernel
theorem dX9_tabAt_36 : decode cX9_tabAt 36 = .ok (.iconst (-1), 1) := by decide +kernel
theorem dX9_tabAt_37 : decode cX9_tabAt 37 = .ok (.ireturn, 1) := by decide +kernel
abbrev rmX9_tabAt : Room := { frames := 1, cells := 0, slots := 0, locals := 22 }
theorem hdX9_tabAt : yX9_tabAt.cls ≠ "java/lang/invoke/MethodHandle" ∧ yX9_tabAt.cls ≠ "java/lang/invoke/VarHandle" ∧ (parseMethodDescriptor yX9_tabAt.desc).map (fun d => d.parameters.length) = some 2 := by decide +kernel
def fX9_tabAt_30 (σ : Sg) (b : Nat) (k2 : Int32 → Int32 → Int32 → Option Int32) (l1 : Int32) (l2 : Int32) (l3 : Int32) : Option Int32 :=
  (k2 l1 l2 (l3 + 1))
theorem bX9_tabAt_30 {X : Xc} {K : Kc} (C : MC X K cX9_tabAt 4 RX9 rmX9_tabAt) (hr : K.meth.sig.returnType = (some .int)) (σ : Sg) (b : Nat) (hb : moOK b){k2 : Int32 → Int32 → Int32 → Option Int32} (hk2 : ∀ (l1 : Int32) (l2 : Int32) (l3 : Int32), GO X K 4 (fun r => MQi X K r σ) (k2 l1 l2 l3) σ 0 0 2 [some (.ref (X.ad b)), some (.int (l1)), some (.int (l2)), some (.int (l3))] []) (l1 : Int32) (l2 : Int32) (l3 : Int32) : GO X K 4 (fun r => MQi X K r σ) (fX9_tabAt_30 σ b k2 l1 l2 l3) σ 0 0 30 [some (.ref (X.ad b)), some (.int (l1)), some (.int (l2)), some (.int (l3))] [] := by
  unfold fX9_tabAt_30
  refine g_iinc (pc := 30) (v := l3 + 1) C dX9_tabAt_30 rfl (rfl) (Nat.le_of_ble_eq_true rfl) rfl ?_
  refine g_goto (pc := 33) (tgt := 2) C dX9_tabAt_33 rfl ?_
  refine g_keep [true, true, true, true] ?_
  exact hk2 l1 l2 (l3 + 1)
def fX9_tabAt_2 (σ : Sg) (b : Nat) : Nat → Int32 → Int32 → Int32 → Option Int32
  | 0, _, _, _ => none
  | n + 1, l1, l2, l3 =>
    if 12 ≤ l3 then
      some (-1)
    else
      (fX9_of σ b l3 3).bind fun r1 =>
      if r1 = l1 then
        (fX9_of σ b l3 4).bind fun r2 =>
        if r2 = l2 then
          some l3
        else
          (fX9_tabAt_30 σ b (fX9_tabAt_2 σ b n) l1 l2 l3)
      else
        (fX9_tabAt_30 σ b (fX9_tabAt_2 σ b n) l1 l2 l3)
theorem bX9_tabAt_2 {X : Xc} {K : Kc} (C : MC X K cX9_tabAt 4 RX9 rmX9_tabAt) (hr : K.meth.sig.returnType = (some .int)) (σ : Sg) (b : Nat) (hb : moOK b) : ∀ (n : Nat) (l1 : Int32) (l2 : Int32) (l3 : Int32), GO X K 4 (fun r => MQi X K r σ) (fX9_tabAt_2 σ b n l1 l2 l3) σ 0 0 2 [some (.ref (X.ad b)), some (.int (l1)), some (.int (l2)), some (.int (l3))] [] := by
  intro n
  induction n with
  | zero =>
    intro l1 l2 l3
    exact g_none
  | succ n ih =>
    intro l1 l2 l3
    unfold fX9_tabAt_2
    refine g_iload_n (pc := 2) (i := 3) C dX9_tabAt_2 rfl rfl ?_
    refine g_bipush (pc := 3) (v := 12) C dX9_tabAt_3 (by decide) ?_
    refine g_icmp_ge (pc := 5) (tgt := 36) C dX9_tabAt_5 rfl ?_ ?_
    · refine g_iconst (pc := 36) (v := (-1)) C dX9_tabAt_36 (by decide) ?_
      exact g_iret (pc := 37) C hr dX9_tabAt_37 rfl
    · refine g_aload_n (pc := 8) (i := 0) C dX9_tabAt_8 rfl rfl ?_
      refine g_iload_n (pc := 9) (i := 3) C dX9_tabAt_9 rfl rfl ?_
      refine g_iconst (pc := 10) (v := 3) C dX9_tabAt_10 (by decide) ?_
      refine g_callVi (pc := 11) (As := [.int (l3), .int (3)]) C (kX9_of X σ b l3 3 hb) (blk hb 0 rfl) rfl q_10_2 q_10_3 q_10_4 q_1_5 q_10_5 ⟨rfl, hdX9_of⟩ ⟨Nat.le_of_ble_eq_true rfl, Nat.le_of_ble_eq_true rfl, rfl, rfl⟩ ⟨Nat.zero_le _, Nat.zero_le _⟩ (Nat.le_of_ble_eq_true rfl) rfl rfl dX9_tabAt_11 (fun r1 _ => ?_)
      refine g_iload_n (pc := 14) (i := 1) C dX9_tabAt_14 rfl rfl ?_
      refine g_icmp_ne (pc := 15) (tgt := 30) C dX9_tabAt_15 rfl ?_ ?_
      · refine g_aload_n (pc := 18) (i := 0) C dX9_tabAt_18 rfl rfl ?_
        refine g_iload_n (pc := 19) (i := 3) C dX9_tabAt_19 rfl rfl ?_
        refine g_iconst (pc := 20) (v := 4) C dX9_tabAt_20 (by decide) ?_
        refine g_callVi (pc := 21) (As := [.int (l3), .int (4)]) C (kX9_of X σ b l3 4 hb) (blk hb 0 rfl) rfl q_10_2 q_10_3 q_10_4 q_1_5 q_10_5 ⟨rfl, hdX9_of⟩ ⟨Nat.le_of_ble_eq_true rfl, Nat.le_of_ble_eq_true rfl, rfl, rfl⟩ ⟨Nat.zero_le _, Nat.zero_le _⟩ (Nat.le_of_ble_eq_true rfl) rfl rfl dX9_tabAt_21 (fun r2 _ => ?_)
        refine g_iload_n (pc := 24) (i := 2) C dX9_tabAt_24 rfl rfl ?_
        refine g_icmp_ne (pc := 25) (tgt := 30) C dX9_tabAt_25 rfl ?_ ?_
        · refine g_iload_n (pc := 28) (i := 3) C dX9_tabAt_28 rfl rfl ?_
          exact g_iret (pc := 29) C hr dX9_tabAt_29 rfl
        · refine g_keep [true, true, true, true] ?_
          exact bX9_tabAt_30 C hr σ b hb ih l1 l2 l3
      · refine g_keep [true, true, true, true] ?_
        exact bX9_tabAt_30 C hr σ b hb ih l1 l2 l3
def fX9_tabAt (σ : Sg) (b : Nat) (p1 : Int32) (p2 : Int32) : Option Int32 :=
  (fX9_tabAt_2 σ b FU p1 p2 0)
theorem kX9_tabAt (X : Xc) (σ : Sg) (b : Nat) (p1 : Int32) (p2 : Int32) (hb : moOK b) : ∀ r, fX9_tabAt σ b p1 p2 = some r → Met X.l yX9_tabAt (wsM yX9_tabAt cX9_tabAt 4 (some .int)) rmX9_tabAt (va_Pc [.ref (X.ad b), .int p1, .int p2] (PW X σ)) (Qi X r σ) 0 0 X.A := by
  refine mt_of (own := RX9) (lo := [some (.ref (X.ad b)), some (.int (p1)), some (.int (p2)), none]) (by decide) rfl (Nat.le_of_ble_eq_true rfl) rfl (fun K C hr => ?_)
  unfold fX9_tabAt
  refine g_iconst (pc := 0) (v := 0) C dX9_tabAt_0 (by decide) ?_
  refine g_istore_n (pc := 1) (i := 3) C dX9_tabAt_1 rfl (Nat.le_of_ble_eq_true rfl) rfl ?_
  refine g_keep [true, true, true, true] ?_
  exact bX9_tabAt_2 C hr σ b hb FU p1 p2 0
theorem dX9_placedMany_0 : decode cX9_placedMany 0 = .ok (.iconst 0, 1) := by decide +kernel
theorem dX9_placedMany_1 : decode cX9_placedMany 1 = .ok (.istore_n 1, 1) := by decide +kernel
theorem dX9_placedMany_2 : decode cX9_placedMany 2 = .ok (.iconst 0, 1) := by decide +kernel
theorem dX9_placedMany_3 : decode cX9_placedMany 3 = .ok (.istore_n 2, 1) := by decide +kernel
theorem dX9_placedMany_4 : decode cX9_placedMany 4 = .ok (.iload_n 2, 1) := by decide +kernel
theorem dX9_placedMany_5 : decode cX9_placedMany 5 = .ok (.bipush 12, 2) := by decide +kernel
theorem dX9_placedMany_7 : decode cX9_placedMany 7 = .ok (.if_icmp .ge 25, 3) := by decide +kernel
theorem dX9_placedMany_10 : decode cX9_placedMany 10 = .ok (.iload_n 1, 1) := by decide +kernel
theorem dX9_placedMany_11 : decode cX9_placedMany 11 = .ok (.aload_n 0, 1) := by decide +kernel
theorem dX9_placedMany_12 : decode cX9_placedMany 12 = .ok (.iload_n 2, 1) := by decide +kernel
theorem dX9_placedMany_13 : decode cX9_placedMany 13 = .ok (.invokevirtual 69, 3) := by decide +kernel
theorem dX9_placedMany_16 : decode cX9_placedMany 16 = .ok (.ifCond .eq 7, 3) := by decide +kernel
theorem dX9_placedMany_19 : decode cX9_placedMany 19 = .ok (.iconst 1, 1) := by decide +kernel
theorem dX9_placedMany_20 : decode cX9_placedMany 20 = .ok (.goto 4, 3) := by decide +kernel
theorem dX9_placedMany_23 : decode cX9_placedMany 23 = .ok (.iconst 0, 1) := by decide +kernel
theorem dX9_placedMany_24 : decode cX9_placedMany 24 = .ok (.iadd, 1) := by decide +kernel
theorem dX9_placedMany_25 : decode cX9_placedMany 25 = .ok (.istore_n 1, 1) := by decide +kernel
theorem dX9_placedMany_26 : decode cX9_placedMany 26 = .ok (.iinc 2 1, 3) := by decide +kernel
theorem dX9_placedMany_29 : decode cX9_placedMany 29 = .ok (.goto (-25), 3) := by decide +kernel
theorem dX9_placedMany_32 : decode cX9_placedMany 32 = .ok (.iload_n 1, 1) := by decide +kernel
theorem dX9_placedMany_33 : decode cX9_placedMany 33 = .ok (.ireturn, 1) := by decide +kernel
abbrev rmX9_placedMany : Room := { frames := 2, cells := 0, slots := 0, locals := 43 }
theorem hdX9_placedMany : yX9_placedMany.cls ≠ "java/lang/invoke/MethodHandle" ∧ yX9_placedMany.cls ≠ "java/lang/invoke/VarHandle" ∧ (parseMethodDescriptor yX9_placedMany.desc).map (fun d => d.parameters.length) = some 0 := by decide +kernel
def fX9_placedMany_24 (σ : Sg) (b : Nat) (k4 : Int32 → Int32 → Option Int32) (l2 : Int32) (s0 : Int32) (s1 : Int32) : Option Int32 :=
  nm (s0 + s1) fun v2 =>
  (k4 v2 (l2 + 1))
theorem bX9_placedMany_24 {X : Xc} {K : Kc} (C : MC X K cX9_placedMany 3 RX9 rmX9_placedMany) (hr : K.meth.sig.returnType = (some .int)) (σ : Sg) (b : Nat) (hb : moOK b){k4 : Int32 → Int32 → Option Int32} (hk4 : ∀ (l1 : Int32) (l2 : Int32), GO X K 3 (fun r => MQi X K r σ) (k4 l1 l2) σ 0 0 4 [some (.ref (X.ad b)), some (.int (l1)), some (.int (l2))] []) (l2 : Int32) (s0 : Int32) (s1 : Int32) : GO X K 3 (fun r => MQi X K r σ) (fX9_placedMany_24 σ b k4 l2 s0 s1) σ 0 0 24 [some (.ref (X.ad b)), none, some (.int (l2))] [.int (s1), .int (s0)] := by
  unfold fX9_placedMany_24
  refine g_iadd (pc := 24) C dX9_placedMany_24 ?_
  refine g_nm (fun v2 => ?_)
  refine g_istore_n (pc := 25) (i := 1) C dX9_placedMany_25 rfl (Nat.le_of_ble_eq_true rfl) rfl ?_
  refine g_iinc (pc := 26) (v := l2 + 1) C dX9_placedMany_26 rfl (rfl) (Nat.le_of_ble_eq_true rfl) rfl ?_
  refine g_goto (pc := 29) (tgt := 4) C dX9_placedMany_29 rfl ?_
  refine g_keep [true, true, true] ?_
  exact hk4 v2 (l2 + 1)
def fX9_placedMany_4 (σ : Sg) (b : Nat) : Nat → Int32 → Int32 → Option Int32
  | 0, _, _ => none
  | n + 1, l1, l2 =>
    if 12 ≤ l2 then
      some l1
    else
      (fX9_isPlaced σ b l2).bind fun r1 =>
      if r1 = true then
        (fX9_placedMany_24 σ b (fX9_placedMany_4 σ b n) l2 l1 1)
      else
        (fX9_placedMany_24 σ b (fX9_placedMany_4 σ b n) l2 l1 0)
theorem bX9_placedMany_4 {X : Xc} {K : Kc} (C : MC X K cX9_placedMany 3 RX9 rmX9_placedMany) (hr : K.meth.sig.returnType = (some .int)) (σ : Sg) (b : Nat) (hb : moOK b) : ∀ (n : Nat) (l1 : Int32) (l2 : Int32), GO X K 3 (fun r => MQi X K r σ) (fX9_placedMany_4 σ b n l1 l2) σ 0 0 4 [some (.ref (X.ad b)), some (.int (l1)), some (.int (l2))] [] := by
  intro n
  induction n with
  | zero =>
    intro l1 l2
    exact g_none
  | succ n ih =>
    intro l1 l2
    unfold fX9_placedMany_4
    refine g_iload_n (pc := 4) (i := 2) C dX9_placedMany_4 rfl rfl ?_
    refine g_bipush (pc := 5) (v := 12) C dX9_placedMany_5 (by decide) ?_
    refine g_icmp_ge (pc := 7) (tgt := 32) C dX9_placedMany_7 rfl ?_ ?_
    · refine g_iload_n (pc := 32) (i := 1) C dX9_placedMany_32 rfl rfl ?_
      exact g_iret (pc := 33) C hr dX9_placedMany_33 rfl
    · refine g_iload_n (pc := 10) (i := 1) C dX9_placedMany_10 rfl rfl ?_
      refine g_aload_n (pc := 11) (i := 0) C dX9_placedMany_11 rfl rfl ?_
      refine g_iload_n (pc := 12) (i := 2) C dX9_placedMany_12 rfl rfl ?_
      refine g_callVi (pc := 13) (As := [.int (l2)]) C (kX9_isPlaced X σ b l2 hb) (blk hb 0 rfl) rfl q_20_0 q_20_1 q_20_2 q_1_5 q_20_3 ⟨rfl, hdX9_isPlaced⟩ ⟨Nat.le_of_ble_eq_true rfl, Nat.le_of_ble_eq_true rfl, rfl, rfl⟩ ⟨Nat.zero_le _, Nat.zero_le _⟩ (Nat.le_of_ble_eq_true rfl) rfl rfl dX9_placedMany_13 (fun r1 _ => ?_)
      refine g_ifb_eq (pc := 16) (tgt := 23) C dX9_placedMany_16 rfl ?_ ?_
      · refine g_iconst (pc := 19) (v := 1) C dX9_placedMany_19 (by decide) ?_
        refine g_goto (pc := 20) (tgt := 24) C dX9_placedMany_20 rfl ?_
        refine g_keep [true, false, true] ?_
        exact bX9_placedMany_24 C hr σ b hb ih l2 l1 1
      · refine g_iconst (pc := 23) (v := 0) C dX9_placedMany_23 (by decide) ?_
        refine g_keep [true, false, true] ?_
        exact bX9_placedMany_24 C hr σ b hb ih l2 l1 0
def fX9_placedMany (σ : Sg) (b : Nat) : Option Int32 :=
  (fX9_placedMany_4 σ b FU 0 0)
theorem kX9_placedMany (X : Xc) (σ : Sg) (b : Nat) (hb : moOK b) : ∀ r, fX9_placedMany σ b = some r → Met X.l yX9_placedMany (wsM yX9_placedMany cX9_placedMany 3 (some .int)) rmX9_placedMany (va_Pc [.ref (X.ad b)] (PW X σ)) (Qi X r σ) 0 0 X.A := by
  refine mt_of (own := RX9) (lo := [some (.ref (X.ad b)), none, none]) (by decide) rfl (Nat.le_of_ble_eq_true rfl) rfl (fun K C hr => ?_)
  unfold fX9_placedMany
  refine g_iconst (pc := 0) (v := 0) C dX9_placedMany_0 (by decide) ?_
  refine g_istore_n (pc := 1) (i := 1) C dX9_placedMany_1 rfl (Nat.le_of_ble_eq_true rfl) rfl ?_
  refine g_iconst (pc := 2) (v := 0) C dX9_placedMany_2 (by decide) ?_
  refine g_istore_n (pc := 3) (i := 2) C dX9_placedMany_3 rfl (Nat.le_of_ble_eq_true rfl) rfl ?_
  refine g_keep [true, true, true] ?_
  exact bX9_placedMany_4 C hr σ b hb FU 0 0
theorem dX9_placedIn_0 : decode cX9_placedIn 0 = .ok (.iconst 0, 1) := by decide +kernel
theorem dX9_placedIn_1 : decode cX9_placedIn 1 = .ok (.istore_n 2, 1) := by decide +kernel
theorem dX9_placedIn_2 : decode cX9_placedIn 2 = .ok (.iconst 0, 1) := by decide +kernel
theorem dX9_placedIn_3 : decode cX9_placedIn 3 = .ok (.istore_n 3, 1) := by decide +kernel
theorem dX9_placedIn_4 : decode cX9_placedIn 4 = .ok (.iload_n 3, 1) := by decide +kernel
theorem dX9_placedIn_5 : decode cX9_placedIn 5 = .ok (.bipush 12, 2) := by decide +kernel
theorem dX9_placedIn_7 : decode cX9_placedIn 7 = .ok (.if_icmp .ge 39, 3) := by decide +kernel
theorem dX9_placedIn_10 : decode cX9_placedIn 10 = .ok (.iload_n 2, 1) := by decide +kernel
theorem dX9_placedIn_11 : decode cX9_placedIn 11 = .ok (.aload_n 0, 1) := by decide +kernel
theorem dX9_placedIn_12 : decode cX9_placedIn 12 = .ok (.iload_n 3, 1) := by decide +kernel
theorem dX9_placedIn_13 : decode cX9_placedIn 13 = .ok (.invokevirtual 69, 3) := by decide +kernel
theorem dX9_placedIn_16 : decode cX9_placedIn 16 = .ok (.ifCond .eq 21, 3) := by decide +kernel
theorem dX9_placedIn_19 : decode cX9_placedIn 19 = .ok (.aload_n 0, 1) := by decide +kernel
theorem dX9_placedIn_20 : decode cX9_placedIn 20 = .ok (.aload_n 0, 1) := by decide +kernel
theorem dX9_placedIn_21 : decode cX9_placedIn 21 = .ok (.iload_n 3, 1) := by decide +kernel
theorem dX9_placedIn_22 : decode cX9_placedIn 22 = .ok (.iconst 3, 1) := by decide +kernel
theorem dX9_placedIn_23 : decode cX9_placedIn 23 = .ok (.invokevirtual 65, 3) := by decide +kernel
theorem dX9_placedIn_26 : decode cX9_placedIn 26 = .ok (.invokevirtual 91, 3) := by decide +kernel
theorem dX9_placedIn_29 : decode cX9_placedIn 29 = .ok (.iload_n 1, 1) := by decide +kernel
theorem dX9_placedIn_30 : decode cX9_placedIn 30 = .ok (.if_icmp .ne 7, 3) := by decide +kernel
theorem dX9_placedIn_33 : decode cX9_placedIn 33 = .ok (.iconst 1, 1) := by decide +kernel
theorem dX9_placedIn_34 : decode cX9_placedIn 34 = .ok (.goto 4, 3) := by decide +kernel
theorem dX9_placedIn_37 : decode cX9_placedIn 37 = .ok (.iconst 0, 1) := by decide +kernel
theorem dX9_placedIn_38 : decode cX9_placedIn 38 = .ok (.iadd, 1) := by decide +kernel
theorem dX9_placedIn_39 : decode cX9_placedIn 39 = .ok (.istore_n 2, 1) := by decide +kernel
theorem dX9_placedIn_40 : decode cX9_placedIn 40 = .ok (.iinc 3 1, 3) := by decide +kernel
theorem dX9_placedIn_43 : decode cX9_placedIn 43 = .ok (.goto (-39), 3) := by decide +kernel
theorem dX9_placedIn_46 : decode cX9_placedIn 46 = .ok (.iload_n 2, 1) := by decide +kernel
theorem dX9_placedIn_47 : decode cX9_placedIn 47 = .ok (.ireturn, 1) := by decide +kernel
abbrev rmX9_placedIn : Room := { frames := 3, cells := 0, slots := 0, locals := 67 }
theorem hdX9_placedIn : yX9_placedIn.cls ≠ "java/lang/invoke/MethodHandle" ∧ yX9_placedIn.cls ≠ "java/lang/invoke/VarHandle" ∧ (parseMethodDescriptor yX9_placedIn.desc).map (fun d => d.parameters.length) = some 1 := by decide +kernel
def fX9_placedIn_38 (σ : Sg) (b : Nat) (k4 : Int32 → Int32 → Int32 → Option Int32) (l1 : Int32) (l3 : Int32) (s0 : Int32) (s1 : Int32) : Option Int32 :=
  nm (s0 + s1) fun v4 =>
  (k4 l1 v4 (l3 + 1))
theorem bX9_placedIn_38 {X : Xc} {K : Kc} (C : MC X K cX9_placedIn 4 RX9 rmX9_placedIn) (hr : K.meth.sig.returnType = (some .int)) (σ : Sg) (b : Nat) (hb : moOK b){k4 : Int32 → Int32 → Int32 → Option Int32} (hk4 : ∀ (l1 : Int32) (l2 : Int32) (l3 : Int32), GO X K 4 (fun r => MQi X K r σ) (k4 l1 l2 l3) σ 0 0 4 [some (.ref (X.ad b)), some (.int (l1)), some (.int (l2)), some (.int (l3))] []) (l1 : Int32) (l3 : Int32) (s0 : Int32) (s1 : Int32) : GO X K 4 (fun r => MQi X K r σ) (fX9_placedIn_38 σ b k4 l1 l3 s0 s1) σ 0 0 38 [some (.ref (X.ad b)), some (.int (l1)), none, some (.int (l3))] [.int (s1), .int (s0)] := by
  unfold fX9_placedIn_38
  refine g_iadd (pc := 38) C dX9_placedIn_38 ?_
  refine g_nm (fun v4 => ?_)
  refine g_istore_n (pc := 39) (i := 2) C dX9_placedIn_39 rfl (Nat.le_of_ble_eq_true rfl) rfl ?_
  refine g_iinc (pc := 40) (v := l3 + 1) C dX9_placedIn_40 rfl (rfl) (Nat.le_of_ble_eq_true rfl) rfl ?_
  refine g_goto (pc := 43) (tgt := 4) C dX9_placedIn_43 rfl ?_
  refine g_keep [true, true, true, true] ?_
  exact hk4 l1 v4 (l3 + 1)
def fX9_placedIn_37 (σ : Sg) (b : Nat) (k4 : Int32 → Int32 → Int32 → Option Int32) (l1 : Int32) (l3 : Int32) (s0 : Int32) : Option Int32 :=
  (fX9_placedIn_38 σ b k4 l1 l3 s0 0)
theorem bX9_placedIn_37 {X : Xc} {K : Kc} (C : MC X K cX9_placedIn 4 RX9 rmX9_placedIn) (hr : K.meth.sig.returnType = (some .int)) (σ : Sg) (b : Nat) (hb : moOK b){k4 : Int32 → Int32 → Int32 → Option Int32} (hk4 : ∀ (l1 : Int32) (l2 : Int32) (l3 : Int32), GO X K 4 (fun r => MQi X K r σ) (k4 l1 l2 l3) σ 0 0 4 [some (.ref (X.ad b)), some (.int (l1)), some (.int (l2)), some (.int (l3))] []) (l1 : Int32) (l3 : Int32) (s0 : Int32) : GO X K 4 (fun r => MQi X K r σ) (fX9_placedIn_37 σ b k4 l1 l3 s0) σ 0 0 37 [some (.ref (X.ad b)), some (.int (l1)), none, some (.int (l3))] [.int (s0)] := by
  unfold fX9_placedIn_37
  refine g_iconst (pc := 37) (v := 0) C dX9_placedIn_37 (by decide) ?_
  refine g_keep [true, true, false, true] ?_
  exact bX9_placedIn_38 C hr σ b hb hk4 l1 l3 s0 0
def fX9_placedIn_4 (σ : Sg) (b : Nat) : Nat → Int32 → Int32 → Int32 → Option Int32
  | 0, _, _, _ => none
  | n + 1, l1, l2, l3 =>
    if 12 ≤ l3 then
      some l2
    else
      (fX9_isPlaced σ b l3).bind fun r1 =>
      if r1 = true then
        (fX9_of σ b l3 3).bind fun r2 =>
        (fX9_windowOf σ b r2).bind fun r3 =>
        if r3 = l1 then
          (fX9_placedIn_38 σ b (fX9_placedIn_4 σ b n) l1 l3 l2 1)
        else
          (fX9_placedIn_37 σ b (fX9_placedIn_4 σ b n) l1 l3 l2)
      else
        (fX9_placedIn_37 σ b (fX9_placedIn_4 σ b n) l1 l3 l2)
theorem bX9_placedIn_4 {X : Xc} {K : Kc} (C : MC X K cX9_placedIn 4 RX9 rmX9_placedIn) (hr : K.meth.sig.returnType = (some .int)) (σ : Sg) (b : Nat) (hb : moOK b) : ∀ (n : Nat) (l1 : Int32) (l2 : Int32) (l3 : Int32), GO X K 4 (fun r => MQi X K r σ) (fX9_placedIn_4 σ b n l1 l2 l3) σ 0 0 4 [some (.ref (X.ad b)), some (.int (l1)), some (.int (l2)), some (.int (l3))] [] := by
  intro n
  induction n with
  | zero =>
    intro l1 l2 l3
    exact g_none
  | succ n ih =>
    intro l1 l2 l3
    unfold fX9_placedIn_4
    refine g_iload_n (pc := 4) (i := 3) C dX9_placedIn_4 rfl rfl ?_
    refine g_bipush (pc := 5) (v := 12) C dX9_placedIn_5 (by decide) ?_
    refine g_icmp_ge (pc := 7) (tgt := 46) C dX9_placedIn_7 rfl ?_ ?_
    · refine g_iload_n (pc := 46) (i := 2) C dX9_placedIn_46 rfl rfl ?_
      exact g_iret (pc := 47) C hr dX9_placedIn_47 rfl
    · refine g_iload_n (pc := 10) (i := 2) C dX9_placedIn_10 rfl rfl ?_
      refine g_aload_n (pc := 11) (i := 0) C dX9_placedIn_11 rfl rfl ?_
      refine g_iload_n (pc := 12) (i := 3) C dX9_placedIn_12 rfl rfl ?_
      refine g_callVi (pc := 13) (As := [.int (l3)]) C (kX9_isPlaced X σ b l3 hb) (blk hb 0 rfl) rfl q_20_0 q_20_1 q_20_2 q_1_5 q_20_3 ⟨rfl, hdX9_isPlaced⟩ ⟨Nat.le_of_ble_eq_true rfl, Nat.le_of_ble_eq_true rfl, rfl, rfl⟩ ⟨Nat.zero_le _, Nat.zero_le _⟩ (Nat.le_of_ble_eq_true rfl) rfl rfl dX9_placedIn_13 (fun r1 _ => ?_)
      refine g_ifb_eq (pc := 16) (tgt := 37) C dX9_placedIn_16 rfl ?_ ?_
      · refine g_aload_n (pc := 19) (i := 0) C dX9_placedIn_19 rfl rfl ?_
        refine g_aload_n (pc := 20) (i := 0) C dX9_placedIn_20 rfl rfl ?_
        refine g_iload_n (pc := 21) (i := 3) C dX9_placedIn_21 rfl rfl ?_
        refine g_iconst (pc := 22) (v := 3) C dX9_placedIn_22 (by decide) ?_
        refine g_callVi (pc := 23) (As := [.int (l3), .int (3)]) C (kX9_of X σ b l3 3 hb) (blk hb 0 rfl) rfl q_10_2 q_10_3 q_10_4 q_1_5 q_10_5 ⟨rfl, hdX9_of⟩ ⟨Nat.le_of_ble_eq_true rfl, Nat.le_of_ble_eq_true rfl, rfl, rfl⟩ ⟨Nat.zero_le _, Nat.zero_le _⟩ (Nat.le_of_ble_eq_true rfl) rfl rfl dX9_placedIn_23 (fun r2 _ => ?_)
        refine g_callVi (pc := 26) (As := [.int (r2)]) C (kX9_windowOf X σ b r2 hb) (blk hb 0 rfl) rfl q_22_4 q_22_5 q_22_6 q_1_5 q_22_7 ⟨rfl, hdX9_windowOf⟩ ⟨Nat.le_of_ble_eq_true rfl, Nat.le_of_ble_eq_true rfl, rfl, rfl⟩ ⟨Nat.zero_le _, Nat.zero_le _⟩ (Nat.le_of_ble_eq_true rfl) rfl rfl dX9_placedIn_26 (fun r3 _ => ?_)
        refine g_iload_n (pc := 29) (i := 1) C dX9_placedIn_29 rfl rfl ?_
        refine g_icmp_ne (pc := 30) (tgt := 37) C dX9_placedIn_30 rfl ?_ ?_
        · refine g_iconst (pc := 33) (v := 1) C dX9_placedIn_33 (by decide) ?_
          refine g_goto (pc := 34) (tgt := 38) C dX9_placedIn_34 rfl ?_
          refine g_keep [true, true, false, true] ?_
          exact bX9_placedIn_38 C hr σ b hb ih l1 l3 l2 1
        · refine g_keep [true, true, false, true] ?_
          exact bX9_placedIn_37 C hr σ b hb ih l1 l3 l2
      · refine g_keep [true, true, false, true] ?_
        exact bX9_placedIn_37 C hr σ b hb ih l1 l3 l2
def fX9_placedIn (σ : Sg) (b : Nat) (p1 : Int32) : Option Int32 :=
  (fX9_placedIn_4 σ b FU p1 0 0)
theorem kX9_placedIn (X : Xc) (σ : Sg) (b : Nat) (p1 : Int32) (hb : moOK b) : ∀ r, fX9_placedIn σ b p1 = some r → Met X.l yX9_placedIn (wsM yX9_placedIn cX9_placedIn 4 (some .int)) rmX9_placedIn (va_Pc [.ref (X.ad b), .int p1] (PW X σ)) (Qi X r σ) 0 0 X.A := by
  refine mt_of (own := RX9) (lo := [some (.ref (X.ad b)), some (.int (p1)), none, none]) (by decide) rfl (Nat.le_of_ble_eq_true rfl) rfl (fun K C hr => ?_)
  unfold fX9_placedIn
  refine g_iconst (pc := 0) (v := 0) C dX9_placedIn_0 (by decide) ?_
  refine g_istore_n (pc := 1) (i := 2) C dX9_placedIn_1 rfl (Nat.le_of_ble_eq_true rfl) rfl ?_
  refine g_iconst (pc := 2) (v := 0) C dX9_placedIn_2 (by decide) ?_
  refine g_istore_n (pc := 3) (i := 3) C dX9_placedIn_3 rfl (Nat.le_of_ble_eq_true rfl) rfl ?_
  refine g_keep [true, true, true, true] ?_
  exact bX9_placedIn_4 C hr σ b hb FU p1 0 0
theorem dX9_placeIn_0 : decode cX9_placeIn 0 = .ok (.iconst 0, 1) := by decide +kernel
theorem dX9_placeIn_1 : decode cX9_placeIn 1 = .ok (.istore_n 3, 1) := by decide +kernel
theorem dX9_placeIn_2 : decode cX9_placeIn 2 = .ok (.iload_n 3, 1) := by decide +kernel
theorem dX9_placeIn_3 : decode cX9_placeIn 3 = .ok (.aload_n 0, 1) := by decide +kernel
theorem dX9_placeIn_4 : decode cX9_placeIn 4 = .ok (.getfield 7, 3) := by decide +kernel
theorem dX9_placeIn_7 : decode cX9_placeIn 7 = .ok (.iload_n 1, 1) := by decide +kernel
theorem dX9_placeIn_8 : decode cX9_placeIn 8 = .ok (.iaload, 1) := by decide +kernel
theorem dX9_placeIn_9 : decode cX9_placeIn 9 = .ok (.if_icmp .ge 25, 3) := by decide +kernel
theorem dX9_placeIn_12 : decode cX9_placeIn 12 = .ok (.aload_n 0, 1) := by decide +kernel
theorem dX9_placeIn_13 : decode cX9_placeIn 13 = .ok (.getfield 7, 3) := by decide +kernel
theorem dX9_placeIn_16 : decode cX9_placeIn 16 = .ok (.iload_n 1, 1) := by decide +kernel
theorem dX9_placeIn_17 : decode cX9_placeIn 17 = .ok (.iconst 1, 1) := by decide +kernel
theorem dX9_placeIn_18 : decode cX9_placeIn 18 = .ok (.iadd, 1) := by decide +kernel
theorem dX9_placeIn_19 : decode cX9_placeIn 19 = .ok (.iload_n 3, 1) := by decide +kernel
theorem dX9_placeIn_20 : decode cX9_placeIn 20 = .ok (.iadd, 1) := by decide +kernel
theorem dX9_placeIn_21 : decode cX9_placeIn 21 = .ok (.iaload, 1) := by decide +kernel
theorem dX9_placeIn_22 : decode cX9_placeIn 22 = .ok (.iload_n 2, 1) := by decide +kernel
theorem dX9_placeIn_23 : decode cX9_placeIn 23 = .ok (.if_icmp .ne 5, 3) := by decide +kernel
theorem dX9_placeIn_26 : decode cX9_placeIn 26 = .ok (.iload_n 3, 1) := by decide +kernel
theorem dX9_placeIn_27 : decode cX9_placeIn 27 = .ok (.ireturn, 1) := by decide +kernel
theorem dX9_placeIn_28 : decode cX9_placeIn 28 = .ok (.iinc 3 1, 3) := by decide +kernel
theorem dX9_placeIn_31 : decode cX9_placeIn 31 = .ok (.goto (-29), 3) := by decide +kernel
theorem dX9_placeIn_34 : decode cX9_placeIn 34 = .ok (.iconst (-1), 1) := by decide +kernel
theorem dX9_placeIn_35 : decode cX9_placeIn 35 = .ok (.ireturn, 1) := by decide +kernel
abbrev rmX9_placeIn : Room := { frames := 0, cells := 0, slots := 0, locals := 0 }
theorem hdX9_placeIn : yX9_placeIn.cls ≠ "java/lang/invoke/MethodHandle" ∧ yX9_placeIn.cls ≠ "java/lang/invoke/VarHandle" ∧ (parseMethodDescriptor yX9_placeIn.desc).map (fun d => d.parameters.length) = some 2 := by decide +kernel
def fX9_placeIn_2 (σ : Sg) (b : Nat) : Nat → Int32 → Int32 → Int32 → Option Int32
  | 0, _, _, _ => none
  | n + 1, l1, l2, l3 =>
    if ck l1 921 then
      if (σ.1 (b + 1) l1.toNatClampNeg) ≤ l3 then
        some (-1)
      else
        if ck ((l1 + 1) + l3) 921 then
          if (σ.1 (b + 1) ((l1 + 1) + l3).toNatClampNeg) = l2 then
            some l3
          else
            ((fX9_placeIn_2 σ b n) l1 l2 (l3 + 1))
        else none
    else none
theorem bX9_placeIn_2 {X : Xc} {K : Kc} (C : MC X K cX9_placeIn 4 RX9 rmX9_placeIn) (hr : K.meth.sig.returnType = (some .int)) (σ : Sg) (b : Nat) (hb : moOK b) : ∀ (n : Nat) (l1 : Int32) (l2 : Int32) (l3 : Int32), GO X K 4 (fun r => MQi X K r σ) (fX9_placeIn_2 σ b n l1 l2 l3) σ 0 0 2 [some (.ref (X.ad b)), some (.int (l1)), some (.int (l2)), some (.int (l3))] [] := by
  intro n
  induction n with
  | zero =>
    intro l1 l2 l3
    exact g_none
  | succ n ih =>
    intro l1 l2 l3
    unfold fX9_placeIn_2
    refine g_iload_n (pc := 2) (i := 3) C dX9_placeIn_2 rfl rfl ?_
    refine g_aload_n (pc := 3) (i := 0) C dX9_placeIn_3 rfl rfl ?_
    refine g_getr (pc := 4) (ci := 9) (N := 27) (T := TX9) (j := 0) (Cn := RX9) (b + 1) C rfl inlX9 (Nat.le_of_ble_eq_true rfl) q_6_2 (blk hb 0 rfl) rfl dX9_placeIn_4 ?_
    refine g_iload_n (pc := 7) (i := 1) C dX9_placeIn_7 rfl rfl ?_
    refine g_iaload (pc := 8) C (blk hb 1 rfl) dX9_placeIn_8 ?_
    refine g_icmp_ge (pc := 9) (tgt := 34) C dX9_placeIn_9 rfl ?_ ?_
    · refine g_iconst (pc := 34) (v := (-1)) C dX9_placeIn_34 (by decide) ?_
      exact g_iret (pc := 35) C hr dX9_placeIn_35 rfl
    · refine g_aload_n (pc := 12) (i := 0) C dX9_placeIn_12 rfl rfl ?_
      refine g_getr (pc := 13) (ci := 9) (N := 27) (T := TX9) (j := 0) (Cn := RX9) (b + 1) C rfl inlX9 (Nat.le_of_ble_eq_true rfl) q_6_2 (blk hb 0 rfl) rfl dX9_placeIn_13 ?_
      refine g_iload_n (pc := 16) (i := 1) C dX9_placeIn_16 rfl rfl ?_
      refine g_iconst (pc := 17) (v := 1) C dX9_placeIn_17 (by decide) ?_
      refine g_iadd (pc := 18) C dX9_placeIn_18 ?_
      refine g_iload_n (pc := 19) (i := 3) C dX9_placeIn_19 rfl rfl ?_
      refine g_iadd (pc := 20) C dX9_placeIn_20 ?_
      refine g_iaload (pc := 21) C (blk hb 1 rfl) dX9_placeIn_21 ?_
      refine g_iload_n (pc := 22) (i := 2) C dX9_placeIn_22 rfl rfl ?_
      refine g_icmp_ne (pc := 23) (tgt := 28) C dX9_placeIn_23 rfl ?_ ?_
      · refine g_iload_n (pc := 26) (i := 3) C dX9_placeIn_26 rfl rfl ?_
        exact g_iret (pc := 27) C hr dX9_placeIn_27 rfl
      · refine g_iinc (pc := 28) (v := l3 + 1) C dX9_placeIn_28 rfl (rfl) (Nat.le_of_ble_eq_true rfl) rfl ?_
        refine g_goto (pc := 31) (tgt := 2) C dX9_placeIn_31 rfl ?_
        refine g_keep [true, true, true, true] ?_
        exact ih l1 l2 (l3 + 1)
def fX9_placeIn (σ : Sg) (b : Nat) (p1 : Int32) (p2 : Int32) : Option Int32 :=
  (fX9_placeIn_2 σ b FU p1 p2 0)
theorem kX9_placeIn (X : Xc) (σ : Sg) (b : Nat) (p1 : Int32) (p2 : Int32) (hb : moOK b) : ∀ r, fX9_placeIn σ b p1 p2 = some r → Met X.l yX9_placeIn (wsM yX9_placeIn cX9_placeIn 4 (some .int)) rmX9_placeIn (va_Pc [.ref (X.ad b), .int p1, .int p2] (PW X σ)) (Qi X r σ) 0 0 X.A := by
  refine mt_of (own := RX9) (lo := [some (.ref (X.ad b)), some (.int (p1)), some (.int (p2)), none]) (by decide) rfl (Nat.le_of_ble_eq_true rfl) rfl (fun K C hr => ?_)
  unfold fX9_placeIn
  refine g_iconst (pc := 0) (v := 0) C dX9_placeIn_0 (by decide) ?_
  refine g_istore_n (pc := 1) (i := 3) C dX9_placeIn_1 rfl (Nat.le_of_ble_eq_true rfl) rfl ?_
  refine g_keep [true, true, true, true] ?_
  exact bX9_placeIn_2 C hr σ b hb FU p1 p2 0
theorem dX9_dropsFrom_0 : decode cX9_dropsFrom 0 = .ok (.aload_n 0, 1) := by decide +kernel
theorem dX9_dropsFrom_1 : decode cX9_dropsFrom 1 = .ok (.iload_n 1, 1) := by decide +kernel
theorem dX9_dropsFrom_2 : decode cX9_dropsFrom 2 = .ok (.iload_n 2, 1) := by decide +kernel
theorem dX9_dropsFrom_3 : decode cX9_dropsFrom 3 = .ok (.invokevirtual 97, 3) := by decide +kernel
theorem dX9_dropsFrom_6 : decode cX9_dropsFrom 6 = .ok (.istore_n 3, 1) := by decide +kernel
theorem dX9_dropsFrom_7 : decode cX9_dropsFrom 7 = .ok (.iload_n 3, 1) := by decide +kernel
theorem dX9_dropsFrom_8 : decode cX9_dropsFrom 8 = .ok (.iconst (-1), 1) := by decide +kernel
theorem dX9_dropsFrom_9 : decode cX9_dropsFrom 9 = .ok (.if_icmp .ne 4, 3) := by decide +kernel
theorem dX9_dropsFrom_12 : decode cX9_dropsFrom 12 = .ok (.return_, 1) := by decide +kernel
theorem dX9_dropsFrom_13 : decode cX9_dropsFrom 13 = .ok (.iload_n 3, 1) := by decide +kernel
theorem dX9_dropsFrom_14 : decode cX9_dropsFrom 14 = .ok (.istore 4, 2) := by decide +kernel
theorem dX9_dropsFrom_16 : decode cX9_dropsFrom 16 = .ok (.iload 4, 2) := by decide +kernel
theorem dX9_dropsFrom_18 : decode cX9_dropsFrom 18 = .ok (.aload_n 0, 1) := by decide +kernel
theorem dX9_dropsFrom_19 : decode cX9_dropsFrom 19 = .ok (.getfield 7, 3) := by decide +kernel
theorem dX9_dropsFrom_22 : decode cX9_dropsFrom 22 = .ok (.iload_n 1, 1) := by decide +kernel
theorem dX9_dropsFrom_23 : decode cX9_dropsFrom 23 = .ok (.iaload, 1) := by decide +kernel
theorem dX9_dropsFrom_24 : decode cX9_dropsFrom 24 = .ok (.iconst 1, 1) := by decide +kernel
theorem dX9_dropsFrom_25 : decode cX9_dropsFrom 25 = .ok (.isub, 1) := by decide +kernel
theorem dX9_dropsFrom_26 : decode cX9_dropsFrom 26 = .ok (.if_icmp .ge 31, 3) := by decide +kernel
theorem dX9_dropsFrom_29 : decode cX9_dropsFrom 29 = .ok (.aload_n 0, 1) := by decide +kernel
theorem dX9_dropsFrom_30 : decode cX9_dropsFrom 30 = .ok (.getfield 7, 3) := by decide +kernel
theorem dX9_dropsFrom_33 : decode cX9_dropsFrom 33 = .ok (.iload_n 1, 1) := by decide +kernel
theorem dX9_dropsFrom_34 : decode cX9_dropsFrom 34 = .ok (.iconst 1, 1) := by decide +kernel
theorem dX9_dropsFrom_35 : decode cX9_dropsFrom 35 = .ok (.iadd, 1) := by decide +kernel
theorem dX9_dropsFrom_36 : decode cX9_dropsFrom 36 = .ok (.iload 4, 2) := by decide +kernel
theorem dX9_dropsFrom_38 : decode cX9_dropsFrom 38 = .ok (.iadd, 1) := by decide +kernel
theorem dX9_dropsFrom_39 : decode cX9_dropsFrom 39 = .ok (.aload_n 0, 1) := by decide +kernel
theorem dX9_dropsFrom_40 : decode cX9_dropsFrom 40 = .ok (.getfield 7, 3) := by decide +kernel
theorem dX9_dropsFrom_43 : decode cX9_dropsFrom 43 = .ok (.iload_n 1, 1) := by decide +kernel
theorem dX9_dropsFrom_44 : decode cX9_dropsFrom 44 = .ok (.iconst 2, 1) := by decide +kernel
theorem dX9_dropsFrom_45 : decode cX9_dropsFrom 45 = .ok (.iadd, 1) := by decide +kernel
theorem dX9_dropsFrom_46 : decode cX9_dropsFrom 46 = .ok (.iload 4, 2) := by decide +kernel
theorem dX9_dropsFrom_48 : decode cX9_dropsFrom 48 = .ok (.iadd, 1) := by decide +kernel
theorem dX9_dropsFrom_49 : decode cX9_dropsFrom 49 = .ok (.iaload, 1) := by decide +kernel
theorem dX9_dropsFrom_50 : decode cX9_dropsFrom 50 = .ok (.iastore, 1) := by decide +kernel
theorem dX9_dropsFrom_51 : decode cX9_dropsFrom 51 = .ok (.iinc 4 1, 3) := by decide +kernel
theorem dX9_dropsFrom_54 : decode cX9_dropsFrom 54 = .ok (.goto (-38), 3) := by decide +kernel
theorem dX9_dropsFrom_57 : decode cX9_dropsFrom 57 = .ok (.aload_n 0, 1) := by decide +kernel
theorem dX9_dropsFrom_58 : decode cX9_dropsFrom 58 = .ok (.getfield 7, 3) := by decide +kernel
theorem dX9_dropsFrom_61 : decode cX9_dropsFrom 61 = .ok (.iload_n 1, 1) := by decide +kernel
theorem dX9_dropsFrom_62 : decode cX9_dropsFrom 62 = .ok (.aload_n 0, 1) := by decide +kernel
theorem dX9_dropsFrom_63 : decode cX9_dropsFrom 63 = .ok (.getfield 7, 3) := by decide +kernel
theorem dX9_dropsFrom_66 : decode cX9_dropsFrom 66 = .ok (.iload_n 1, 1) := by decide +kernel
theorem dX9_dropsFrom_67 : decode cX9_dropsFrom 67 = .ok (.iaload, 1) := by decide +kernel
theorem dX9_dropsFrom_68 : decode cX9_dropsFrom 68 = .ok (.iadd, 1) := by decide +kernel
theorem dX9_dropsFrom_69 : decode cX9_dropsFrom 69 = .ok (.iconst 0, 1) := by decide +kernel
theorem dX9_dropsFrom_70 : decode cX9_dropsFrom 70 = .ok (.iastore, 1) := by decide +kernel
theorem dX9_dropsFrom_71 : decode cX9_dropsFrom 71 = .ok (.aload_n 0, 1) := by decide +kernel
theorem dX9_dropsFrom_72 : decode cX9_dropsFrom 72 = .ok (.getfield 7, 3) := by decide +kernel
theorem dX9_dropsFrom_75 : decode cX9_dropsFrom 75 = .ok (.iload_n 1, 1) := by decide +kernel
theorem dX9_dropsFrom_76 : decode cX9_dropsFrom 76 = .ok (.dup2, 1) := by decide +kernel
theorem dX9_dropsFrom_77 : decode cX9_dropsFrom 77 = .ok (.iaload, 1) := by decide +kernel
theorem dX9_dropsFrom_78 : decode cX9_dropsFrom 78 = .ok (.iconst 1, 1) := by decide +kernel
theorem dX9_dropsFrom_79 : decode cX9_dropsFrom 79 = .ok (.isub, 1) := by decide +kernel
theorem dX9_dropsFrom_80 : decode cX9_dropsFrom 80 = .ok (.iastore, 1) := by decide +kernel
theorem dX9_dropsFrom_81 : decode cX9_dropsFrom 81 = .ok (.return_, 1) := by decide +kernel
abbrev rmX9_dropsFrom : Room := { frames := 1, cells := 0, slots := 0, locals := 23 }
theorem hdX9_dropsFrom : yX9_dropsFrom.cls ≠ "java/lang/invoke/MethodHandle" ∧ yX9_dropsFrom.cls ≠ "java/lang/invoke/VarHandle" ∧ (parseMethodDescriptor yX9_dropsFrom.desc).map (fun d => d.parameters.length) = some 2 := by decide +kernel
def fX9_dropsFrom_16 (b : Nat) : Nat → Sg → Int32 → Int32 → Option Sg
  | 0, _, _, _ => none
  | n + 1, σ, l1, l4 =>
    if ck l1 921 then
      if ((σ.1 (b + 1) l1.toNatClampNeg) - 1) ≤ l4 then
        if ck l1 921 then
          if ck (l1 + (σ.1 (b + 1) l1.toNatClampNeg)) 921 then
            nm (su σ (b + 1) (l1 + (σ.1 (b + 1) l1.toNatClampNeg)).toNatClampNeg 0) fun σ2 =>
            if ck l1 921 then
              if ck l1 921 then
                nm (su σ2 (b + 1) l1.toNatClampNeg ((σ2.1 (b + 1) l1.toNatClampNeg) - 1)) fun σ3 =>
                some σ3
              else none
            else none
          else none
        else none
      else
        if ck ((l1 + 2) + l4) 921 then
          if ck ((l1 + 1) + l4) 921 then
            nm (su σ (b + 1) ((l1 + 1) + l4).toNatClampNeg (σ.1 (b + 1) ((l1 + 2) + l4).toNatClampNeg)) fun σ4 =>
            ((fX9_dropsFrom_16 b n) σ4 l1 (l4 + 1))
          else none
        else none
    else none
theorem bX9_dropsFrom_16 {X : Xc} {K : Kc} (C : MC X K cX9_dropsFrom 5 RX9 rmX9_dropsFrom) (hr : K.meth.sig.returnType = none) (b : Nat) (hb : moOK b) : ∀ (n : Nat) (σ : Sg) (l1 : Int32) (l4 : Int32), GO X K 5 (fun r => MQv X K r) (fX9_dropsFrom_16 b n σ l1 l4) σ 0 0 16 [some (.ref (X.ad b)), some (.int (l1)), none, none, some (.int (l4))] [] := by
  intro n
  induction n with
  | zero =>
    intro σ l1 l4
    exact g_none
  | succ n ih =>
    intro σ l1 l4
    unfold fX9_dropsFrom_16
    refine g_iload (pc := 16) C dX9_dropsFrom_16 rfl ?_
    refine g_aload_n (pc := 18) (i := 0) C dX9_dropsFrom_18 rfl rfl ?_
    refine g_getr (pc := 19) (ci := 9) (N := 27) (T := TX9) (j := 0) (Cn := RX9) (b + 1) C rfl inlX9 (Nat.le_of_ble_eq_true rfl) q_6_2 (blk hb 0 rfl) rfl dX9_dropsFrom_19 ?_
    refine g_iload_n (pc := 22) (i := 1) C dX9_dropsFrom_22 rfl rfl ?_
    refine g_iaload (pc := 23) C (blk hb 1 rfl) dX9_dropsFrom_23 ?_
    refine g_iconst (pc := 24) (v := 1) C dX9_dropsFrom_24 (by decide) ?_
    refine g_isub (pc := 25) C dX9_dropsFrom_25 ?_
    refine g_icmp_ge (pc := 26) (tgt := 57) C dX9_dropsFrom_26 rfl ?_ ?_
    · refine g_aload_n (pc := 57) (i := 0) C dX9_dropsFrom_57 rfl rfl ?_
      refine g_getr (pc := 58) (ci := 9) (N := 27) (T := TX9) (j := 0) (Cn := RX9) (b + 1) C rfl inlX9 (Nat.le_of_ble_eq_true rfl) q_6_2 (blk hb 0 rfl) rfl dX9_dropsFrom_58 ?_
      refine g_iload_n (pc := 61) (i := 1) C dX9_dropsFrom_61 rfl rfl ?_
      refine g_aload_n (pc := 62) (i := 0) C dX9_dropsFrom_62 rfl rfl ?_
      refine g_getr (pc := 63) (ci := 9) (N := 27) (T := TX9) (j := 0) (Cn := RX9) (b + 1) C rfl inlX9 (Nat.le_of_ble_eq_true rfl) q_6_2 (blk hb 0 rfl) rfl dX9_dropsFrom_63 ?_
      refine g_iload_n (pc := 66) (i := 1) C dX9_dropsFrom_66 rfl rfl ?_
      refine g_iaload (pc := 67) C (blk hb 1 rfl) dX9_dropsFrom_67 ?_
      refine g_iadd (pc := 68) C dX9_dropsFrom_68 ?_
      refine g_iconst (pc := 69) (v := 0) C dX9_dropsFrom_69 (by decide) ?_
      refine g_iastore (pc := 70) C (blk hb 1 rfl) dX9_dropsFrom_70 ?_
      refine g_nms (fun σ2 => ?_)
      refine g_aload_n (pc := 71) (i := 0) C dX9_dropsFrom_71 rfl rfl ?_
      refine g_getr (pc := 72) (ci := 9) (N := 27) (T := TX9) (j := 0) (Cn := RX9) (b + 1) C rfl inlX9 (Nat.le_of_ble_eq_true rfl) q_6_2 (blk hb 0 rfl) rfl dX9_dropsFrom_72 ?_
      refine g_iload_n (pc := 75) (i := 1) C dX9_dropsFrom_75 rfl rfl ?_
      refine g_dup2 (pc := 76) C dX9_dropsFrom_76 rfl rfl ?_
      refine g_iaload (pc := 77) C (blk hb 1 rfl) dX9_dropsFrom_77 ?_
      refine g_iconst (pc := 78) (v := 1) C dX9_dropsFrom_78 (by decide) ?_
      refine g_isub (pc := 79) C dX9_dropsFrom_79 ?_
      refine g_iastore (pc := 80) C (blk hb 1 rfl) dX9_dropsFrom_80 ?_
      refine g_nms (fun σ3 => ?_)
      exact g_vret (pc := 81) C hr dX9_dropsFrom_81 rfl
    · refine g_aload_n (pc := 29) (i := 0) C dX9_dropsFrom_29 rfl rfl ?_
      refine g_getr (pc := 30) (ci := 9) (N := 27) (T := TX9) (j := 0) (Cn := RX9) (b + 1) C rfl inlX9 (Nat.le_of_ble_eq_true rfl) q_6_2 (blk hb 0 rfl) rfl dX9_dropsFrom_30 ?_
      refine g_iload_n (pc := 33) (i := 1) C dX9_dropsFrom_33 rfl rfl ?_
      refine g_iconst (pc := 34) (v := 1) C dX9_dropsFrom_34 (by decide) ?_
      refine g_iadd (pc := 35) C dX9_dropsFrom_35 ?_
      refine g_iload (pc := 36) C dX9_dropsFrom_36 rfl ?_
      refine g_iadd (pc := 38) C dX9_dropsFrom_38 ?_
      refine g_aload_n (pc := 39) (i := 0) C dX9_dropsFrom_39 rfl rfl ?_
      refine g_getr (pc := 40) (ci := 9) (N := 27) (T := TX9) (j := 0) (Cn := RX9) (b + 1) C rfl inlX9 (Nat.le_of_ble_eq_true rfl) q_6_2 (blk hb 0 rfl) rfl dX9_dropsFrom_40 ?_
      refine g_iload_n (pc := 43) (i := 1) C dX9_dropsFrom_43 rfl rfl ?_
      refine g_iconst (pc := 44) (v := 2) C dX9_dropsFrom_44 (by decide) ?_
      refine g_iadd (pc := 45) C dX9_dropsFrom_45 ?_
      refine g_iload (pc := 46) C dX9_dropsFrom_46 rfl ?_
      refine g_iadd (pc := 48) C dX9_dropsFrom_48 ?_
      refine g_iaload (pc := 49) C (blk hb 1 rfl) dX9_dropsFrom_49 ?_
      refine g_iastore (pc := 50) C (blk hb 1 rfl) dX9_dropsFrom_50 ?_
      refine g_nms (fun σ4 => ?_)
      refine g_iinc (pc := 51) (v := l4 + 1) C dX9_dropsFrom_51 rfl (rfl) (Nat.le_of_ble_eq_true rfl) rfl ?_
      refine g_goto (pc := 54) (tgt := 16) C dX9_dropsFrom_54 rfl ?_
      refine g_keep [true, true, false, false, true] ?_
      exact ih σ4 l1 (l4 + 1)
def fX9_dropsFrom (σ : Sg) (b : Nat) (p1 : Int32) (p2 : Int32) : Option Sg :=
  (fX9_placeIn σ b p1 p2).bind fun r1 =>
  if r1 = (-1) then
    some σ
  else
    (fX9_dropsFrom_16 b FU σ p1 r1)
theorem kX9_dropsFrom (X : Xc) (σ : Sg) (b : Nat) (p1 : Int32) (p2 : Int32) (hb : moOK b) : ∀ r, fX9_dropsFrom σ b p1 p2 = some r → Met X.l yX9_dropsFrom (wsM yX9_dropsFrom cX9_dropsFrom 5 none) rmX9_dropsFrom (va_Pc [.ref (X.ad b), .int p1, .int p2] (PW X σ)) (Qv X r) 0 0 X.A := by
  refine mt_of (own := RX9) (lo := [some (.ref (X.ad b)), some (.int (p1)), some (.int (p2)), none, none]) (by decide) rfl (Nat.le_of_ble_eq_true rfl) rfl (fun K C hr => ?_)
  unfold fX9_dropsFrom
  refine g_aload_n (pc := 0) (i := 0) C dX9_dropsFrom_0 rfl rfl ?_
  refine g_iload_n (pc := 1) (i := 1) C dX9_dropsFrom_1 rfl rfl ?_
  refine g_iload_n (pc := 2) (i := 2) C dX9_dropsFrom_2 rfl rfl ?_
  refine g_callVi (pc := 3) (As := [.int (p1), .int (p2)]) C (kX9_placeIn X σ b p1 p2 hb) (blk hb 0 rfl) rfl q_23_0 q_23_1 q_23_2 q_1_5 q_23_3 ⟨rfl, hdX9_placeIn⟩ ⟨Nat.le_of_ble_eq_true rfl, Nat.le_of_ble_eq_true rfl, rfl, rfl⟩ ⟨Nat.zero_le _, Nat.zero_le _⟩ (Nat.le_of_ble_eq_true rfl) rfl rfl dX9_dropsFrom_3 (fun r1 _ => ?_)
  refine g_istore_n (pc := 6) (i := 3) C dX9_dropsFrom_6 rfl (Nat.le_of_ble_eq_true rfl) rfl ?_
  refine g_iload_n (pc := 7) (i := 3) C dX9_dropsFrom_7 rfl rfl ?_
  refine g_iconst (pc := 8) (v := (-1)) C dX9_dropsFrom_8 (by decide) ?_
  refine g_icmp_ne (pc := 9) (tgt := 13) C dX9_dropsFrom_9 rfl ?_ ?_
  · exact g_vret (pc := 12) C hr dX9_dropsFrom_12 rfl
  · refine g_iload_n (pc := 13) (i := 3) C dX9_dropsFrom_13 rfl rfl ?_
    refine g_istore (pc := 14) C dX9_dropsFrom_14 (Nat.le_of_ble_eq_true rfl) rfl ?_
    refine g_keep [true, true, false, false, true] ?_
    exact bX9_dropsFrom_16 C hr b hb FU σ p1 r1
theorem dX9_comesLast_0 : decode cX9_comesLast 0 = .ok (.aload_n 0, 1) := by decide +kernel
theorem dX9_comesLast_1 : decode cX9_comesLast 1 = .ok (.iload_n 1, 1) := by decide +kernel
theorem dX9_comesLast_2 : decode cX9_comesLast 2 = .ok (.iload_n 2, 1) := by decide +kernel
theorem dX9_comesLast_3 : decode cX9_comesLast 3 = .ok (.invokevirtual 100, 3) := by decide +kernel
theorem dX9_comesLast_6 : decode cX9_comesLast 6 = .ok (.aload_n 0, 1) := by decide +kernel
theorem dX9_comesLast_7 : decode cX9_comesLast 7 = .ok (.getfield 7, 3) := by decide +kernel
theorem dX9_comesLast_10 : decode cX9_comesLast 10 = .ok (.iload_n 1, 1) := by decide +kernel
theorem dX9_comesLast_11 : decode cX9_comesLast 11 = .ok (.iconst 1, 1) := by decide +kernel
theorem dX9_comesLast_12 : decode cX9_comesLast 12 = .ok (.iadd, 1) := by decide +kernel
theorem dX9_comesLast_13 : decode cX9_comesLast 13 = .ok (.aload_n 0, 1) := by decide +kernel
theorem dX9_comesLast_14 : decode cX9_comesLast 14 = .ok (.getfield 7, 3) := by decide +kernel
theorem dX9_comesLast_17 : decode cX9_comesLast 17 = .ok (.iload_n 1, 1) := by decide +kernel
theorem dX9_comesLast_18 : decode cX9_comesLast 18 = .ok (.iaload, 1) := by decide +kernel
theorem dX9_comesLast_19 : decode cX9_comesLast 19 = .ok (.iadd, 1) := by decide +kernel
theorem dX9_comesLast_20 : decode cX9_comesLast 20 = .ok (.iload_n 2, 1) := by decide +kernel
theorem dX9_comesLast_21 : decode cX9_comesLast 21 = .ok (.iastore, 1) := by decide +kernel
theorem dX9_comesLast_22 : decode cX9_comesLast 22 = .ok (.aload_n 0, 1) := by decide +kernel
theorem dX9_comesLast_23 : decode cX9_comesLast 23 = .ok (.getfield 7, 3) := by decide +kernel
theorem dX9_comesLast_26 : decode cX9_comesLast 26 = .ok (.iload_n 1, 1) := by decide +kernel
theorem dX9_comesLast_27 : decode cX9_comesLast 27 = .ok (.dup2, 1) := by decide +kernel
theorem dX9_comesLast_28 : decode cX9_comesLast 28 = .ok (.iaload, 1) := by decide +kernel
theorem dX9_comesLast_29 : decode cX9_comesLast 29 = .ok (.iconst 1, 1) := by decide +kernel
theorem dX9_comesLast_30 : decode cX9_comesLast 30 = .ok (.iadd, 1) := by decide +kernel
theorem dX9_comesLast_31 : decode cX9_comesLast 31 = .ok (.iastore, 1) := by decide +kernel
theorem dX9_comesLast_32 : decode cX9_comesLast 32 = .ok (.return_, 1) := by decide +kernel
abbrev rmX9_comesLast : Room := { frames := 2, cells := 0, slots := 0, locals := 47 }
theorem hdX9_comesLast : yX9_comesLast.cls ≠ "java/lang/invoke/MethodHandle" ∧ yX9_comesLast.cls ≠ "java/lang/invoke/VarHandle" ∧ (parseMethodDescriptor yX9_comesLast.desc).map (fun d => d.parameters.length) = some 2 := by decide +kernel
def fX9_comesLast (σ : Sg) (b : Nat) (p1 : Int32) (p2 : Int32) : Option Sg :=
  (fX9_dropsFrom σ b p1 p2).bind fun σ1 =>
  if ck p1 921 then
    if ck ((p1 + 1) + (σ1.1 (b + 1) p1.toNatClampNeg)) 921 then
      nm (su σ1 (b + 1) ((p1 + 1) + (σ1.1 (b + 1) p1.toNatClampNeg)).toNatClampNeg p2) fun σ2 =>
      if ck p1 921 then
        if ck p1 921 then
          nm (su σ2 (b + 1) p1.toNatClampNeg ((σ2.1 (b + 1) p1.toNatClampNeg) + 1)) fun σ3 =>
          some σ3
        else none
      else none
    else none
  else none
theorem kX9_comesLast (X : Xc) (σ : Sg) (b : Nat) (p1 : Int32) (p2 : Int32) (hb : moOK b) : ∀ r, fX9_comesLast σ b p1 p2 = some r → Met X.l yX9_comesLast (wsM yX9_comesLast cX9_comesLast 3 none) rmX9_comesLast (va_Pc [.ref (X.ad b), .int p1, .int p2] (PW X σ)) (Qv X r) 0 0 X.A := by
  refine mt_of (own := RX9) (lo := [some (.ref (X.ad b)), some (.int (p1)), some (.int (p2))]) (by decide) rfl (Nat.le_of_ble_eq_true rfl) rfl (fun K C hr => ?_)
  unfold fX9_comesLast
  refine g_aload_n (pc := 0) (i := 0) C dX9_comesLast_0 rfl rfl ?_
  refine g_iload_n (pc := 1) (i := 1) C dX9_comesLast_1 rfl rfl ?_
  refine g_iload_n (pc := 2) (i := 2) C dX9_comesLast_2 rfl rfl ?_
  refine g_callVv (pc := 3) (As := [.int (p1), .int (p2)]) C (kX9_dropsFrom X σ b p1 p2 hb) (blk hb 0 rfl) rfl q_22_20 q_22_21 q_22_22 q_1_5 q_22_23 ⟨rfl, hdX9_dropsFrom⟩ ⟨Nat.le_of_ble_eq_true rfl, Nat.le_of_ble_eq_true rfl, rfl, rfl⟩ ⟨Nat.zero_le _, Nat.zero_le _⟩ (Nat.le_of_ble_eq_true rfl) rfl rfl dX9_comesLast_3 (fun σ1 _ => ?_)
  refine g_aload_n (pc := 6) (i := 0) C dX9_comesLast_6 rfl rfl ?_
  refine g_getr (pc := 7) (ci := 9) (N := 27) (T := TX9) (j := 0) (Cn := RX9) (b + 1) C rfl inlX9 (Nat.le_of_ble_eq_true rfl) q_6_2 (blk hb 0 rfl) rfl dX9_comesLast_7 ?_
  refine g_iload_n (pc := 10) (i := 1) C dX9_comesLast_10 rfl rfl ?_
  refine g_iconst (pc := 11) (v := 1) C dX9_comesLast_11 (by decide) ?_
  refine g_iadd (pc := 12) C dX9_comesLast_12 ?_
  refine g_aload_n (pc := 13) (i := 0) C dX9_comesLast_13 rfl rfl ?_
  refine g_getr (pc := 14) (ci := 9) (N := 27) (T := TX9) (j := 0) (Cn := RX9) (b + 1) C rfl inlX9 (Nat.le_of_ble_eq_true rfl) q_6_2 (blk hb 0 rfl) rfl dX9_comesLast_14 ?_
  refine g_iload_n (pc := 17) (i := 1) C dX9_comesLast_17 rfl rfl ?_
  refine g_iaload (pc := 18) C (blk hb 1 rfl) dX9_comesLast_18 ?_
  refine g_iadd (pc := 19) C dX9_comesLast_19 ?_
  refine g_iload_n (pc := 20) (i := 2) C dX9_comesLast_20 rfl rfl ?_
  refine g_iastore (pc := 21) C (blk hb 1 rfl) dX9_comesLast_21 ?_
  refine g_nms (fun σ2 => ?_)
  refine g_aload_n (pc := 22) (i := 0) C dX9_comesLast_22 rfl rfl ?_
  refine g_getr (pc := 23) (ci := 9) (N := 27) (T := TX9) (j := 0) (Cn := RX9) (b + 1) C rfl inlX9 (Nat.le_of_ble_eq_true rfl) q_6_2 (blk hb 0 rfl) rfl dX9_comesLast_23 ?_
  refine g_iload_n (pc := 26) (i := 1) C dX9_comesLast_26 rfl rfl ?_
  refine g_dup2 (pc := 27) C dX9_comesLast_27 rfl rfl ?_
  refine g_iaload (pc := 28) C (blk hb 1 rfl) dX9_comesLast_28 ?_
  refine g_iconst (pc := 29) (v := 1) C dX9_comesLast_29 (by decide) ?_
  refine g_iadd (pc := 30) C dX9_comesLast_30 ?_
  refine g_iastore (pc := 31) C (blk hb 1 rfl) dX9_comesLast_31 ?_
  refine g_nms (fun σ3 => ?_)
  exact g_vret (pc := 32) C hr dX9_comesLast_32 rfl
theorem dX9_comesFirst_0 : decode cX9_comesFirst 0 = .ok (.aload_n 0, 1) := by decide +kernel
theorem dX9_comesFirst_1 : decode cX9_comesFirst 1 = .ok (.iload_n 1, 1) := by decide +kernel
theorem dX9_comesFirst_2 : decode cX9_comesFirst 2 = .ok (.iload_n 2, 1) := by decide +kernel
theorem dX9_comesFirst_3 : decode cX9_comesFirst 3 = .ok (.invokevirtual 104, 3) := by decide +kernel
theorem dX9_comesFirst_6 : decode cX9_comesFirst 6 = .ok (.aload_n 0, 1) := by decide +kernel
theorem dX9_comesFirst_7 : decode cX9_comesFirst 7 = .ok (.getfield 7, 3) := by decide +kernel
theorem dX9_comesFirst_10 : decode cX9_comesFirst 10 = .ok (.iload_n 1, 1) := by decide +kernel
theorem dX9_comesFirst_11 : decode cX9_comesFirst 11 = .ok (.iaload, 1) := by decide +kernel
theorem dX9_comesFirst_12 : decode cX9_comesFirst 12 = .ok (.iconst 1, 1) := by decide +kernel
theorem dX9_comesFirst_13 : decode cX9_comesFirst 13 = .ok (.isub, 1) := by decide +kernel
theorem dX9_comesFirst_14 : decode cX9_comesFirst 14 = .ok (.istore_n 3, 1) := by decide +kernel
theorem dX9_comesFirst_15 : decode cX9_comesFirst 15 = .ok (.iload_n 3, 1) := by decide +kernel
theorem dX9_comesFirst_16 : decode cX9_comesFirst 16 = .ok (.ifCond .le 27, 3) := by decide +kernel
theorem dX9_comesFirst_19 : decode cX9_comesFirst 19 = .ok (.aload_n 0, 1) := by decide +kernel
theorem dX9_comesFirst_20 : decode cX9_comesFirst 20 = .ok (.getfield 7, 3) := by decide +kernel
theorem dX9_comesFirst_23 : decode cX9_comesFirst 23 = .ok (.iload_n 1, 1) := by decide +kernel
theorem dX9_comesFirst_24 : decode cX9_comesFirst 24 = .ok (.iconst 1, 1) := by decide +kernel
theorem dX9_comesFirst_25 : decode cX9_comesFirst 25 = .ok (.iadd, 1) := by decide +kernel
theorem dX9_comesFirst_26 : decode cX9_comesFirst 26 = .ok (.iload_n 3, 1) := by decide +kernel
theorem dX9_comesFirst_27 : decode cX9_comesFirst 27 = .ok (.iadd, 1) := by decide +kernel
theorem dX9_comesFirst_28 : decode cX9_comesFirst 28 = .ok (.aload_n 0, 1) := by decide +kernel
theorem dX9_comesFirst_29 : decode cX9_comesFirst 29 = .ok (.getfield 7, 3) := by decide +kernel
theorem dX9_comesFirst_32 : decode cX9_comesFirst 32 = .ok (.iload_n 1, 1) := by decide +kernel
theorem dX9_comesFirst_33 : decode cX9_comesFirst 33 = .ok (.iload_n 3, 1) := by decide +kernel
theorem dX9_comesFirst_34 : decode cX9_comesFirst 34 = .ok (.iadd, 1) := by decide +kernel
theorem dX9_comesFirst_35 : decode cX9_comesFirst 35 = .ok (.iaload, 1) := by decide +kernel
theorem dX9_comesFirst_36 : decode cX9_comesFirst 36 = .ok (.iastore, 1) := by decide +kernel
theorem dX9_comesFirst_37 : decode cX9_comesFirst 37 = .ok (.iinc 3 (-1), 3) := by decide +kernel
theorem dX9_comesFirst_40 : decode cX9_comesFirst 40 = .ok (.goto (-25), 3) := by decide +kernel
theorem dX9_comesFirst_43 : decode cX9_comesFirst 43 = .ok (.aload_n 0, 1) := by decide +kernel
theorem dX9_comesFirst_44 : decode cX9_comesFirst 44 = .ok (.getfield 7, 3) := by decide +kernel
theorem dX9_comesFirst_47 : decode cX9_comesFirst 47 = .ok (.iload_n 1, 1) := by decide +kernel
theorem dX9_comesFirst_48 : decode cX9_comesFirst 48 = .ok (.iconst 1, 1) := by decide +kernel
theorem dX9_comesFirst_49 : decode cX9_comesFirst 49 = .ok (.iadd, 1) := by decide +kernel
theorem dX9_comesFirst_50 : decode cX9_comesFirst 50 = .ok (.iload_n 2, 1) := by decide +kernel
theorem dX9_comesFirst_51 : decode cX9_comesFirst 51 = .ok (.iastore, 1) := by decide +kernel
theorem dX9_comesFirst_52 : decode cX9_comesFirst 52 = .ok (.return_, 1) := by decide +kernel
abbrev rmX9_comesFirst : Room := { frames := 3, cells := 0, slots := 0, locals := 69 }
theorem hdX9_comesFirst : yX9_comesFirst.cls ≠ "java/lang/invoke/MethodHandle" ∧ yX9_comesFirst.cls ≠ "java/lang/invoke/VarHandle" ∧ (parseMethodDescriptor yX9_comesFirst.desc).map (fun d => d.parameters.length) = some 2 := by decide +kernel
def fX9_comesFirst_15 (b : Nat) : Nat → Sg → Int32 → Int32 → Int32 → Option Sg
  | 0, _, _, _, _ => none
  | n + 1, σ, l1, l2, l3 =>
    if l3 ≤ 0 then
      if ck (l1 + 1) 921 then
        nm (su σ (b + 1) (l1 + 1).toNatClampNeg l2) fun σ3 =>
        some σ3
      else none
    else
      if ck (l1 + l3) 921 then
        if ck ((l1 + 1) + l3) 921 then
          nm (su σ (b + 1) ((l1 + 1) + l3).toNatClampNeg (σ.1 (b + 1) (l1 + l3).toNatClampNeg)) fun σ4 =>
          ((fX9_comesFirst_15 b n) σ4 l1 l2 (l3 + (-1)))
        else none
      else none
theorem bX9_comesFirst_15 {X : Xc} {K : Kc} (C : MC X K cX9_comesFirst 4 RX9 rmX9_comesFirst) (hr : K.meth.sig.returnType = none) (b : Nat) (hb : moOK b) : ∀ (n : Nat) (σ : Sg) (l1 : Int32) (l2 : Int32) (l3 : Int32), GO X K 4 (fun r => MQv X K r) (fX9_comesFirst_15 b n σ l1 l2 l3) σ 0 0 15 [some (.ref (X.ad b)), some (.int (l1)), some (.int (l2)), some (.int (l3))] [] := by
  intro n
  induction n with
  | zero =>
    intro σ l1 l2 l3
    exact g_none
  | succ n ih =>
    intro σ l1 l2 l3
    unfold fX9_comesFirst_15
    refine g_iload_n (pc := 15) (i := 3) C dX9_comesFirst_15 rfl rfl ?_
    refine g_if_le (pc := 16) (tgt := 43) C dX9_comesFirst_16 rfl ?_ ?_
    · refine g_aload_n (pc := 43) (i := 0) C dX9_comesFirst_43 rfl rfl ?_
      refine g_getr (pc := 44) (ci := 9) (N := 27) (T := TX9) (j := 0) (Cn := RX9) (b + 1) C rfl inlX9 (Nat.le_of_ble_eq_true rfl) q_6_2 (blk hb 0 rfl) rfl dX9_comesFirst_44 ?_
      refine g_iload_n (pc := 47) (i := 1) C dX9_comesFirst_47 rfl rfl ?_
      refine g_iconst (pc := 48) (v := 1) C dX9_comesFirst_48 (by decide) ?_
      refine g_iadd (pc := 49) C dX9_comesFirst_49 ?_
      refine g_iload_n (pc := 50) (i := 2) C dX9_comesFirst_50 rfl rfl ?_
      refine g_iastore (pc := 51) C (blk hb 1 rfl) dX9_comesFirst_51 ?_
      refine g_nms (fun σ3 => ?_)
      exact g_vret (pc := 52) C hr dX9_comesFirst_52 rfl
    · refine g_aload_n (pc := 19) (i := 0) C dX9_comesFirst_19 rfl rfl ?_
      refine g_getr (pc := 20) (ci := 9) (N := 27) (T := TX9) (j := 0) (Cn := RX9) (b + 1) C rfl inlX9 (Nat.le_of_ble_eq_true rfl) q_6_2 (blk hb 0 rfl) rfl dX9_comesFirst_20 ?_
      refine g_iload_n (pc := 23) (i := 1) C dX9_comesFirst_23 rfl rfl ?_
      refine g_iconst (pc := 24) (v := 1) C dX9_comesFirst_24 (by decide) ?_
      refine g_iadd (pc := 25) C dX9_comesFirst_25 ?_
      refine g_iload_n (pc := 26) (i := 3) C dX9_comesFirst_26 rfl rfl ?_
      refine g_iadd (pc := 27) C dX9_comesFirst_27 ?_
      refine g_aload_n (pc := 28) (i := 0) C dX9_comesFirst_28 rfl rfl ?_
      refine g_getr (pc := 29) (ci := 9) (N := 27) (T := TX9) (j := 0) (Cn := RX9) (b + 1) C rfl inlX9 (Nat.le_of_ble_eq_true rfl) q_6_2 (blk hb 0 rfl) rfl dX9_comesFirst_29 ?_
      refine g_iload_n (pc := 32) (i := 1) C dX9_comesFirst_32 rfl rfl ?_
      refine g_iload_n (pc := 33) (i := 3) C dX9_comesFirst_33 rfl rfl ?_
      refine g_iadd (pc := 34) C dX9_comesFirst_34 ?_
      refine g_iaload (pc := 35) C (blk hb 1 rfl) dX9_comesFirst_35 ?_
      refine g_iastore (pc := 36) C (blk hb 1 rfl) dX9_comesFirst_36 ?_
      refine g_nms (fun σ4 => ?_)
      refine g_iinc (pc := 37) (v := l3 + (-1)) C dX9_comesFirst_37 rfl (rfl) (Nat.le_of_ble_eq_true rfl) rfl ?_
      refine g_goto (pc := 40) (tgt := 15) C dX9_comesFirst_40 rfl ?_
      refine g_keep [true, true, true, true] ?_
      exact ih σ4 l1 l2 (l3 + (-1))
def fX9_comesFirst (σ : Sg) (b : Nat) (p1 : Int32) (p2 : Int32) : Option Sg :=
  (fX9_comesLast σ b p1 p2).bind fun σ1 =>
  if ck p1 921 then
    nm ((σ1.1 (b + 1) p1.toNatClampNeg) - 1) fun v2 =>
    (fX9_comesFirst_15 b FU σ1 p1 p2 v2)
  else none
theorem kX9_comesFirst (X : Xc) (σ : Sg) (b : Nat) (p1 : Int32) (p2 : Int32) (hb : moOK b) : ∀ r, fX9_comesFirst σ b p1 p2 = some r → Met X.l yX9_comesFirst (wsM yX9_comesFirst cX9_comesFirst 4 none) rmX9_comesFirst (va_Pc [.ref (X.ad b), .int p1, .int p2] (PW X σ)) (Qv X r) 0 0 X.A := by
  refine mt_of (own := RX9) (lo := [some (.ref (X.ad b)), some (.int (p1)), some (.int (p2)), none]) (by decide) rfl (Nat.le_of_ble_eq_true rfl) rfl (fun K C hr => ?_)
  unfold fX9_comesFirst
  refine g_aload_n (pc := 0) (i := 0) C dX9_comesFirst_0 rfl rfl ?_
  refine g_iload_n (pc := 1) (i := 1) C dX9_comesFirst_1 rfl rfl ?_
  refine g_iload_n (pc := 2) (i := 2) C dX9_comesFirst_2 rfl rfl ?_
  refine g_callVv (pc := 3) (As := [.int (p1), .int (p2)]) C (kX9_comesLast X σ b p1 p2 hb) (blk hb 0 rfl) rfl q_31_22 q_31_23 q_32_0 q_1_5 q_32_1 ⟨rfl, hdX9_comesLast⟩ ⟨Nat.le_of_ble_eq_true rfl, Nat.le_of_ble_eq_true rfl, rfl, rfl⟩ ⟨Nat.zero_le _, Nat.zero_le _⟩ (Nat.le_of_ble_eq_true rfl) rfl rfl dX9_comesFirst_3 (fun σ1 _ => ?_)
  refine g_aload_n (pc := 6) (i := 0) C dX9_comesFirst_6 rfl rfl ?_
  refine g_getr (pc := 7) (ci := 9) (N := 27) (T := TX9) (j := 0) (Cn := RX9) (b + 1) C rfl inlX9 (Nat.le_of_ble_eq_true rfl) q_6_2 (blk hb 0 rfl) rfl dX9_comesFirst_7 ?_
  refine g_iload_n (pc := 10) (i := 1) C dX9_comesFirst_10 rfl rfl ?_
  refine g_iaload (pc := 11) C (blk hb 1 rfl) dX9_comesFirst_11 ?_
  refine g_iconst (pc := 12) (v := 1) C dX9_comesFirst_12 (by decide) ?_
  refine g_isub (pc := 13) C dX9_comesFirst_13 ?_
  refine g_nm (fun v2 => ?_)
  refine g_istore_n (pc := 14) (i := 3) C dX9_comesFirst_14 rfl (Nat.le_of_ble_eq_true rfl) rfl ?_
  refine g_keep [true, true, true, true] ?_
  exact bX9_comesFirst_15 C hr b hb FU σ1 p1 p2 v2
theorem dX9_yields_0 : decode cX9_yields 0 = .ok (.aload_n 0, 1) := by decide +kernel
theorem dX9_yields_1 : decode cX9_yields 1 = .ok (.iload_n 1, 1) := by decide +kernel
theorem dX9_yields_2 : decode cX9_yields 2 = .ok (.iconst 3, 1) := by decide +kernel
theorem dX9_yields_3 : decode cX9_yields 3 = .ok (.invokevirtual 65, 3) := by decide +kernel
theorem dX9_yields_6 : decode cX9_yields 6 = .ok (.istore_n 2, 1) := by decide +kernel
theorem dX9_yields_7 : decode cX9_yields 7 = .ok (.aload_n 0, 1) := by decide +kernel
theorem dX9_yields_8 : decode cX9_yields 8 = .ok (.iload_n 2, 1) := by decide +kernel
theorem dX9_yields_9 : decode cX9_yields 9 = .ok (.iconst 5, 1) := by decide +kernel
theorem dX9_yields_10 : decode cX9_yields 10 = .ok (.invokevirtual 76, 3) := by decide +kernel
theorem dX9_yields_13 : decode cX9_yields 13 = .ok (.iload_n 1, 1) := by decide +kernel
theorem dX9_yields_14 : decode cX9_yields 14 = .ok (.if_icmp .eq 4, 3) := by decide +kernel
theorem dX9_yields_17 : decode cX9_yields 17 = .ok (.return_, 1) := by decide +kernel
theorem dX9_yields_18 : decode cX9_yields 18 = .ok (.iconst (-1), 1) := by decide +kernel
theorem dX9_yields_19 : decode cX9_yields 19 = .ok (.istore_n 3, 1) := by decide +kernel
theorem dX9_yields_20 : decode cX9_yields 20 = .ok (.aload_n 0, 1) := by decide +kernel
theorem dX9_yields_21 : decode cX9_yields 21 = .ok (.iload_n 2, 1) := by decide +kernel
theorem dX9_yields_22 : decode cX9_yields 22 = .ok (.invokevirtual 107, 3) := by decide +kernel
theorem dX9_yields_25 : decode cX9_yields 25 = .ok (.istore 4, 2) := by decide +kernel
theorem dX9_yields_27 : decode cX9_yields 27 = .ok (.iconst 0, 1) := by decide +kernel
theorem dX9_yields_28 : decode cX9_yields 28 = .ok (.istore 5, 2) := by decide +kernel
theorem dX9_yields_30 : decode cX9_yields 30 = .ok (.iload 5, 2) := by decide +kernel
theorem dX9_yields_32 : decode cX9_yields 32 = .ok (.iload 4, 2) := by decide +kernel
theorem dX9_yields_34 : decode cX9_yields 34 = .ok (.if_icmp .ge 74, 3) := by decide +kernel
theorem dX9_yields_37 : decode cX9_yields 37 = .ok (.aload_n 0, 1) := by decide +kernel
theorem dX9_yields_38 : decode cX9_yields 38 = .ok (.iload_n 2, 1) := by decide +kernel
theorem dX9_yields_39 : decode cX9_yields 39 = .ok (.iload 5, 2) := by decide +kernel
theorem dX9_yields_41 : decode cX9_yields 41 = .ok (.invokevirtual 110, 3) := by decide +kernel
theorem dX9_yields_44 : decode cX9_yields 44 = .ok (.istore 6, 2) := by decide +kernel
theorem dX9_yields_46 : decode cX9_yields 46 = .ok (.iload 6, 2) := by decide +kernel
theorem dX9_yields_48 : decode cX9_yields 48 = .ok (.iload_n 1, 1) := by decide +kernel
theorem dX9_yields_49 : decode cX9_yields 49 = .ok (.if_icmp .eq 17, 3) := by decide +kernel
theorem dX9_yields_52 : decode cX9_yields 52 = .ok (.aload_n 0, 1) := by decide +kernel
theorem dX9_yields_53 : decode cX9_yields 53 = .ok (.iload 6, 2) := by decide +kernel
theorem dX9_yields_55 : decode cX9_yields 55 = .ok (.iconst 5, 1) := by decide +kernel
theorem dX9_yields_56 : decode cX9_yields 56 = .ok (.invokevirtual 65, 3) := by decide +kernel
theorem dX9_yields_59 : decode cX9_yields 59 = .ok (.ifCond .ne 7, 3) := by decide +kernel
theorem dX9_yields_62 : decode cX9_yields 62 = .ok (.iconst 1, 1) := by decide +kernel
theorem dX9_yields_63 : decode cX9_yields 63 = .ok (.goto 4, 3) := by decide +kernel
theorem dX9_yields_66 : decode cX9_yields 66 = .ok (.iconst 0, 1) := by decide +kernel
theorem dX9_yields_67 : decode cX9_yields 67 = .ok (.istore 7, 2) := by decide +kernel
theorem dX9_yields_69 : decode cX9_yields 69 = .ok (.iload 7, 2) := by decide +kernel
theorem dX9_yields_71 : decode cX9_yields 71 = .ok (.ifCond .eq 20, 3) := by decide +kernel
theorem dX9_yields_74 : decode cX9_yields 74 = .ok (.iload 5, 2) := by decide +kernel
theorem dX9_yields_76 : decode cX9_yields 76 = .ok (.aload_n 0, 1) := by decide +kernel
theorem dX9_yields_77 : decode cX9_yields 77 = .ok (.iload_n 1, 1) := by decide +kernel
theorem dX9_yields_78 : decode cX9_yields 78 = .ok (.iconst 4, 1) := by decide +kernel
theorem dX9_yields_79 : decode cX9_yields 79 = .ok (.invokevirtual 65, 3) := by decide +kernel
theorem dX9_yields_82 : decode cX9_yields 82 = .ok (.if_icmp .ge 9, 3) := by decide +kernel
theorem dX9_yields_85 : decode cX9_yields 85 = .ok (.iload 6, 2) := by decide +kernel
theorem dX9_yields_87 : decode cX9_yields 87 = .ok (.istore_n 3, 1) := by decide +kernel
theorem dX9_yields_88 : decode cX9_yields 88 = .ok (.goto 14, 3) := by decide +kernel
theorem dX9_yields_91 : decode cX9_yields 91 = .ok (.iload 7, 2) := by decide +kernel
theorem dX9_yields_93 : decode cX9_yields 93 = .ok (.ifCond .eq 9, 3) := by decide +kernel
theorem dX9_yields_96 : decode cX9_yields 96 = .ok (.iload 6, 2) := by decide +kernel
theorem dX9_yields_98 : decode cX9_yields 98 = .ok (.istore_n 3, 1) := by decide +kernel
theorem dX9_yields_99 : decode cX9_yields 99 = .ok (.goto 9, 3) := by decide +kernel
theorem dX9_yields_102 : decode cX9_yields 102 = .ok (.iinc 5 1, 3) := by decide +kernel
theorem dX9_yields_105 : decode cX9_yields 105 = .ok (.goto (-75), 3) := by decide +kernel
theorem dX9_yields_108 : decode cX9_yields 108 = .ok (.aload_n 0, 1) := by decide +kernel
theorem dX9_yields_109 : decode cX9_yields 109 = .ok (.iload_n 2, 1) := by decide +kernel
theorem dX9_yields_110 : decode cX9_yields 110 = .ok (.iconst 5, 1) := by decide +kernel
theorem dX9_yields_111 : decode cX9_yields 111 = .ok (.iload_n 3, 1) := by decide +kernel
theorem dX9_yields_112 : decode cX9_yields 112 = .ok (.invokevirtual 79, 3) := by decide +kernel
theorem dX9_yields_115 : decode cX9_yields 115 = .ok (.return_, 1) := by decide +kernel
abbrev rmX9_yields : Room := { frames := 2, cells := 0, slots := 0, locals := 45 }
theorem hdX9_yields : yX9_yields.cls ≠ "java/lang/invoke/MethodHandle" ∧ yX9_yields.cls ≠ "java/lang/invoke/VarHandle" ∧ (parseMethodDescriptor yX9_yields.desc).map (fun d => d.parameters.length) = some 1 := by decide +kernel
def fX9_yields_108 (b : Nat) (σ : Sg) (l2 : Int32) (l3 : Int32) : Option Sg :=
  (fX9_lay σ b l2 5 l3).bind fun σ6 =>
  some σ6
theorem bX9_yields_108 {X : Xc} {K : Kc} (C : MC X K cX9_yields 8 RX9 rmX9_yields) (hr : K.meth.sig.returnType = none) (b : Nat) (hb : moOK b) (σ : Sg) (l2 : Int32) (l3 : Int32) : GO X K 8 (fun r => MQv X K r) (fX9_yields_108 b σ l2 l3) σ 0 0 108 [some (.ref (X.ad b)), none, some (.int (l2)), some (.int (l3)), none, none, none, none] [] := by
  unfold fX9_yields_108
  refine g_aload_n (pc := 108) (i := 0) C dX9_yields_108 rfl rfl ?_
  refine g_iload_n (pc := 109) (i := 2) C dX9_yields_109 rfl rfl ?_
  refine g_iconst (pc := 110) (v := 5) C dX9_yields_110 (by decide) ?_
  refine g_iload_n (pc := 111) (i := 3) C dX9_yields_111 rfl rfl ?_
  refine g_callVv (pc := 112) (As := [.int (l2), .int (5), .int (l3)]) C (kX9_lay X σ b l2 5 l3 hb) (blk hb 0 rfl) rfl q_21_0 q_21_1 q_21_2 q_1_5 q_21_3 ⟨rfl, hdX9_lay⟩ ⟨Nat.le_of_ble_eq_true rfl, Nat.le_of_ble_eq_true rfl, rfl, rfl⟩ ⟨Nat.zero_le _, Nat.zero_le _⟩ (Nat.le_of_ble_eq_true rfl) rfl rfl dX9_yields_112 (fun σ6 _ => ?_)
  exact g_vret (pc := 115) C hr dX9_yields_115 rfl
def fX9_yields_102 (b : Nat) (k30 : Sg → Int32 → Int32 → Int32 → Int32 → Int32 → Option Sg) (σ : Sg) (l1 : Int32) (l2 : Int32) (l3 : Int32) (l4 : Int32) (l5 : Int32) : Option Sg :=
  (k30 σ l1 l2 l3 l4 (l5 + 1))
theorem bX9_yields_102 {X : Xc} {K : Kc} (C : MC X K cX9_yields 8 RX9 rmX9_yields) (hr : K.meth.sig.returnType = none) (b : Nat) (hb : moOK b){k30 : Sg → Int32 → Int32 → Int32 → Int32 → Int32 → Option Sg} (hk30 : ∀ (σ : Sg) (l1 : Int32) (l2 : Int32) (l3 : Int32) (l4 : Int32) (l5 : Int32), GO X K 8 (fun r => MQv X K r) (k30 σ l1 l2 l3 l4 l5) σ 0 0 30 [some (.ref (X.ad b)), some (.int (l1)), some (.int (l2)), some (.int (l3)), some (.int (l4)), some (.int (l5)), none, none] []) (σ : Sg) (l1 : Int32) (l2 : Int32) (l3 : Int32) (l4 : Int32) (l5 : Int32) : GO X K 8 (fun r => MQv X K r) (fX9_yields_102 b k30 σ l1 l2 l3 l4 l5) σ 0 0 102 [some (.ref (X.ad b)), some (.int (l1)), some (.int (l2)), some (.int (l3)), some (.int (l4)), some (.int (l5)), none, none] [] := by
  unfold fX9_yields_102
  refine g_iinc (pc := 102) (v := l5 + 1) C dX9_yields_102 rfl (rfl) (Nat.le_of_ble_eq_true rfl) rfl ?_
  refine g_goto (pc := 105) (tgt := 30) C dX9_yields_105 rfl ?_
  refine g_keep [true, true, true, true, true, true, false, false] ?_
  exact hk30 σ l1 l2 l3 l4 (l5 + 1)
def fX9_yields_91 (b : Nat) (k30 : Sg → Int32 → Int32 → Int32 → Int32 → Int32 → Option Sg) (σ : Sg) (l1 : Int32) (l2 : Int32) (l3 : Int32) (l4 : Int32) (l5 : Int32) (l6 : Int32) (l7 : Int32) : Option Sg :=
  if l7 = 0 then
    (fX9_yields_102 b k30 σ l1 l2 l3 l4 l5)
  else
    (fX9_yields_108 b σ l2 l6)
theorem bX9_yields_91 {X : Xc} {K : Kc} (C : MC X K cX9_yields 8 RX9 rmX9_yields) (hr : K.meth.sig.returnType = none) (b : Nat) (hb : moOK b){k30 : Sg → Int32 → Int32 → Int32 → Int32 → Int32 → Option Sg} (hk30 : ∀ (σ : Sg) (l1 : Int32) (l2 : Int32) (l3 : Int32) (l4 : Int32) (l5 : Int32), GO X K 8 (fun r => MQv X K r) (k30 σ l1 l2 l3 l4 l5) σ 0 0 30 [some (.ref (X.ad b)), some (.int (l1)), some (.int (l2)), some (.int (l3)), some (.int (l4)), some (.int (l5)), none, none] []) (σ : Sg) (l1 : Int32) (l2 : Int32) (l3 : Int32) (l4 : Int32) (l5 : Int32) (l6 : Int32) (l7 : Int32) : GO X K 8 (fun r => MQv X K r) (fX9_yields_91 b k30 σ l1 l2 l3 l4 l5 l6 l7) σ 0 0 91 [some (.ref (X.ad b)), some (.int (l1)), some (.int (l2)), some (.int (l3)), some (.int (l4)), some (.int (l5)), some (.int (l6)), some (.int (l7))] [] := by
  unfold fX9_yields_91
  refine g_iload (pc := 91) C dX9_yields_91 rfl ?_
  refine g_if_eq (pc := 93) (tgt := 102) C dX9_yields_93 rfl ?_ ?_
  · refine g_keep [true, true, true, true, true, true, false, false] ?_
    exact bX9_yields_102 C hr b hb hk30 σ l1 l2 l3 l4 l5
  · refine g_iload (pc := 96) C dX9_yields_96 rfl ?_
    refine g_istore_n (pc := 98) (i := 3) C dX9_yields_98 rfl (Nat.le_of_ble_eq_true rfl) rfl ?_
    refine g_goto (pc := 99) (tgt := 108) C dX9_yields_99 rfl ?_
    refine g_keep [true, false, true, true, false, false, false, false] ?_
    exact bX9_yields_108 C hr b hb σ l2 l6
def fX9_yields_67 (b : Nat) (k30 : Sg → Int32 → Int32 → Int32 → Int32 → Int32 → Option Sg) (σ : Sg) (l1 : Int32) (l2 : Int32) (l3 : Int32) (l4 : Int32) (l5 : Int32) (l6 : Int32) (s0 : Int32) : Option Sg :=
  if s0 = 0 then
    (fX9_yields_91 b k30 σ l1 l2 l3 l4 l5 l6 s0)
  else
    (fX9_of σ b l1 4).bind fun r7 =>
    if r7 ≤ l5 then
      (fX9_yields_91 b k30 σ l1 l2 l3 l4 l5 l6 s0)
    else
      (fX9_yields_102 b k30 σ l1 l2 l6 l4 l5)
theorem bX9_yields_67 {X : Xc} {K : Kc} (C : MC X K cX9_yields 8 RX9 rmX9_yields) (hr : K.meth.sig.returnType = none) (b : Nat) (hb : moOK b){k30 : Sg → Int32 → Int32 → Int32 → Int32 → Int32 → Option Sg} (hk30 : ∀ (σ : Sg) (l1 : Int32) (l2 : Int32) (l3 : Int32) (l4 : Int32) (l5 : Int32), GO X K 8 (fun r => MQv X K r) (k30 σ l1 l2 l3 l4 l5) σ 0 0 30 [some (.ref (X.ad b)), some (.int (l1)), some (.int (l2)), some (.int (l3)), some (.int (l4)), some (.int (l5)), none, none] []) (σ : Sg) (l1 : Int32) (l2 : Int32) (l3 : Int32) (l4 : Int32) (l5 : Int32) (l6 : Int32) (s0 : Int32) : GO X K 8 (fun r => MQv X K r) (fX9_yields_67 b k30 σ l1 l2 l3 l4 l5 l6 s0) σ 0 0 67 [some (.ref (X.ad b)), some (.int (l1)), some (.int (l2)), some (.int (l3)), some (.int (l4)), some (.int (l5)), some (.int (l6)), none] [.int (s0)] := by
  unfold fX9_yields_67
  refine g_istore (pc := 67) C dX9_yields_67 (Nat.le_of_ble_eq_true rfl) rfl ?_
  refine g_iload (pc := 69) C dX9_yields_69 rfl ?_
  refine g_if_eq (pc := 71) (tgt := 91) C dX9_yields_71 rfl ?_ ?_
  · refine g_keep [true, true, true, true, true, true, true, true] ?_
    exact bX9_yields_91 C hr b hb hk30 σ l1 l2 l3 l4 l5 l6 s0
  · refine g_iload (pc := 74) C dX9_yields_74 rfl ?_
    refine g_aload_n (pc := 76) (i := 0) C dX9_yields_76 rfl rfl ?_
    refine g_iload_n (pc := 77) (i := 1) C dX9_yields_77 rfl rfl ?_
    refine g_iconst (pc := 78) (v := 4) C dX9_yields_78 (by decide) ?_
    refine g_callVi (pc := 79) (As := [.int (l1), .int (4)]) C (kX9_of X σ b l1 4 hb) (blk hb 0 rfl) rfl q_10_2 q_10_3 q_10_4 q_1_5 q_10_5 ⟨rfl, hdX9_of⟩ ⟨Nat.le_of_ble_eq_true rfl, Nat.le_of_ble_eq_true rfl, rfl, rfl⟩ ⟨Nat.zero_le _, Nat.zero_le _⟩ (Nat.le_of_ble_eq_true rfl) rfl rfl dX9_yields_79 (fun r7 _ => ?_)
    refine g_icmp_ge (pc := 82) (tgt := 91) C dX9_yields_82 rfl ?_ ?_
    · refine g_keep [true, true, true, true, true, true, true, true] ?_
      exact bX9_yields_91 C hr b hb hk30 σ l1 l2 l3 l4 l5 l6 s0
    · refine g_iload (pc := 85) C dX9_yields_85 rfl ?_
      refine g_istore_n (pc := 87) (i := 3) C dX9_yields_87 rfl (Nat.le_of_ble_eq_true rfl) rfl ?_
      refine g_goto (pc := 88) (tgt := 102) C dX9_yields_88 rfl ?_
      refine g_keep [true, true, true, true, true, true, false, false] ?_
      exact bX9_yields_102 C hr b hb hk30 σ l1 l2 l6 l4 l5
def fX9_yields_66 (b : Nat) (k30 : Sg → Int32 → Int32 → Int32 → Int32 → Int32 → Option Sg) (σ : Sg) (l1 : Int32) (l2 : Int32) (l3 : Int32) (l4 : Int32) (l5 : Int32) (l6 : Int32) : Option Sg :=
  (fX9_yields_67 b k30 σ l1 l2 l3 l4 l5 l6 0)
theorem bX9_yields_66 {X : Xc} {K : Kc} (C : MC X K cX9_yields 8 RX9 rmX9_yields) (hr : K.meth.sig.returnType = none) (b : Nat) (hb : moOK b){k30 : Sg → Int32 → Int32 → Int32 → Int32 → Int32 → Option Sg} (hk30 : ∀ (σ : Sg) (l1 : Int32) (l2 : Int32) (l3 : Int32) (l4 : Int32) (l5 : Int32), GO X K 8 (fun r => MQv X K r) (k30 σ l1 l2 l3 l4 l5) σ 0 0 30 [some (.ref (X.ad b)), some (.int (l1)), some (.int (l2)), some (.int (l3)), some (.int (l4)), some (.int (l5)), none, none] []) (σ : Sg) (l1 : Int32) (l2 : Int32) (l3 : Int32) (l4 : Int32) (l5 : Int32) (l6 : Int32) : GO X K 8 (fun r => MQv X K r) (fX9_yields_66 b k30 σ l1 l2 l3 l4 l5 l6) σ 0 0 66 [some (.ref (X.ad b)), some (.int (l1)), some (.int (l2)), some (.int (l3)), some (.int (l4)), some (.int (l5)), some (.int (l6)), none] [] := by
  unfold fX9_yields_66
  refine g_iconst (pc := 66) (v := 0) C dX9_yields_66 (by decide) ?_
  refine g_keep [true, true, true, true, true, true, true, false] ?_
  exact bX9_yields_67 C hr b hb hk30 σ l1 l2 l3 l4 l5 l6 0
def fX9_yields_30 (b : Nat) : Nat → Sg → Int32 → Int32 → Int32 → Int32 → Int32 → Option Sg
  | 0, _, _, _, _, _, _ => none
  | n + 1, σ, l1, l2, l3, l4, l5 =>
    if l4 ≤ l5 then
      (fX9_yields_108 b σ l2 l3)
    else
      (fX9_tabAt σ b l2 l5).bind fun r4 =>
      if r4 = l1 then
        (fX9_yields_66 b (fX9_yields_30 b n) σ l1 l2 l3 l4 l5 r4)
      else
        (fX9_of σ b r4 5).bind fun r5 =>
        if r5 = 0 then
          (fX9_yields_67 b (fX9_yields_30 b n) σ l1 l2 l3 l4 l5 r4 1)
        else
          (fX9_yields_66 b (fX9_yields_30 b n) σ l1 l2 l3 l4 l5 r4)
theorem bX9_yields_30 {X : Xc} {K : Kc} (C : MC X K cX9_yields 8 RX9 rmX9_yields) (hr : K.meth.sig.returnType = none) (b : Nat) (hb : moOK b) : ∀ (n : Nat) (σ : Sg) (l1 : Int32) (l2 : Int32) (l3 : Int32) (l4 : Int32) (l5 : Int32), GO X K 8 (fun r => MQv X K r) (fX9_yields_30 b n σ l1 l2 l3 l4 l5) σ 0 0 30 [some (.ref (X.ad b)), some (.int (l1)), some (.int (l2)), some (.int (l3)), some (.int (l4)), some (.int (l5)), none, none] [] := by
  intro n
  induction n with
  | zero =>
    intro σ l1 l2 l3 l4 l5
    exact g_none
  | succ n ih =>
    intro σ l1 l2 l3 l4 l5
    unfold fX9_yields_30
    refine g_iload (pc := 30) C dX9_yields_30 rfl ?_
    refine g_iload (pc := 32) C dX9_yields_32 rfl ?_
    refine g_icmp_ge (pc := 34) (tgt := 108) C dX9_yields_34 rfl ?_ ?_
    · refine g_keep [true, false, true, true, false, false, false, false] ?_
      exact bX9_yields_108 C hr b hb σ l2 l3
    · refine g_aload_n (pc := 37) (i := 0) C dX9_yields_37 rfl rfl ?_
      refine g_iload_n (pc := 38) (i := 2) C dX9_yields_38 rfl rfl ?_
      refine g_iload (pc := 39) C dX9_yields_39 rfl ?_
      refine g_callVi (pc := 41) (As := [.int (l2), .int (l5)]) C (kX9_tabAt X σ b l2 l5 hb) (blk hb 0 rfl) rfl q_20_20 q_20_21 q_20_22 q_1_5 q_20_23 ⟨rfl, hdX9_tabAt⟩ ⟨Nat.le_of_ble_eq_true rfl, Nat.le_of_ble_eq_true rfl, rfl, rfl⟩ ⟨Nat.zero_le _, Nat.zero_le _⟩ (Nat.le_of_ble_eq_true rfl) rfl rfl dX9_yields_41 (fun r4 _ => ?_)
      refine g_istore (pc := 44) C dX9_yields_44 (Nat.le_of_ble_eq_true rfl) rfl ?_
      refine g_iload (pc := 46) C dX9_yields_46 rfl ?_
      refine g_iload_n (pc := 48) (i := 1) C dX9_yields_48 rfl rfl ?_
      refine g_icmp_eq (pc := 49) (tgt := 66) C dX9_yields_49 rfl ?_ ?_
      · refine g_keep [true, true, true, true, true, true, true, false] ?_
        exact bX9_yields_66 C hr b hb ih σ l1 l2 l3 l4 l5 r4
      · refine g_aload_n (pc := 52) (i := 0) C dX9_yields_52 rfl rfl ?_
        refine g_iload (pc := 53) C dX9_yields_53 rfl ?_
        refine g_iconst (pc := 55) (v := 5) C dX9_yields_55 (by decide) ?_
        refine g_callVi (pc := 56) (As := [.int (r4), .int (5)]) C (kX9_of X σ b r4 5 hb) (blk hb 0 rfl) rfl q_10_2 q_10_3 q_10_4 q_1_5 q_10_5 ⟨rfl, hdX9_of⟩ ⟨Nat.le_of_ble_eq_true rfl, Nat.le_of_ble_eq_true rfl, rfl, rfl⟩ ⟨Nat.zero_le _, Nat.zero_le _⟩ (Nat.le_of_ble_eq_true rfl) rfl rfl dX9_yields_56 (fun r5 _ => ?_)
        refine g_if_ne (pc := 59) (tgt := 66) C dX9_yields_59 rfl ?_ ?_
        · refine g_iconst (pc := 62) (v := 1) C dX9_yields_62 (by decide) ?_
          refine g_goto (pc := 63) (tgt := 67) C dX9_yields_63 rfl ?_
          refine g_keep [true, true, true, true, true, true, true, false] ?_
          exact bX9_yields_67 C hr b hb ih σ l1 l2 l3 l4 l5 r4 1
        · refine g_keep [true, true, true, true, true, true, true, false] ?_
          exact bX9_yields_66 C hr b hb ih σ l1 l2 l3 l4 l5 r4
def fX9_yields (σ : Sg) (b : Nat) (p1 : Int32) : Option Sg :=
  (fX9_of σ b p1 3).bind fun r1 =>
  (fX9_its σ b r1 5).bind fun r2 =>
  if r2 = p1 then
    (fX9_tabMany σ b r1).bind fun r3 =>
    (fX9_yields_30 b FU σ p1 r1 (-1) r3 0)
  else
    some σ
theorem kX9_yields (X : Xc) (σ : Sg) (b : Nat) (p1 : Int32) (hb : moOK b) : ∀ r, fX9_yields σ b p1 = some r → Met X.l yX9_yields (wsM yX9_yields cX9_yields 8 none) rmX9_yields (va_Pc [.ref (X.ad b), .int p1] (PW X σ)) (Qv X r) 0 0 X.A := by
  refine mt_of (own := RX9) (lo := [some (.ref (X.ad b)), some (.int (p1)), none, none, none, none, none, none]) (by decide) rfl (Nat.le_of_ble_eq_true rfl) rfl (fun K C hr => ?_)
  unfold fX9_yields
  refine g_aload_n (pc := 0) (i := 0) C dX9_yields_0 rfl rfl ?_
  refine g_iload_n (pc := 1) (i := 1) C dX9_yields_1 rfl rfl ?_
  refine g_iconst (pc := 2) (v := 3) C dX9_yields_2 (by decide) ?_
  refine g_callVi (pc := 3) (As := [.int (p1), .int (3)]) C (kX9_of X σ b p1 3 hb) (blk hb 0 rfl) rfl q_10_2 q_10_3 q_10_4 q_1_5 q_10_5 ⟨rfl, hdX9_of⟩ ⟨Nat.le_of_ble_eq_true rfl, Nat.le_of_ble_eq_true rfl, rfl, rfl⟩ ⟨Nat.zero_le _, Nat.zero_le _⟩ (Nat.le_of_ble_eq_true rfl) rfl rfl dX9_yields_3 (fun r1 _ => ?_)
  refine g_istore_n (pc := 6) (i := 2) C dX9_yields_6 rfl (Nat.le_of_ble_eq_true rfl) rfl ?_
  refine g_aload_n (pc := 7) (i := 0) C dX9_yields_7 rfl rfl ?_
  refine g_iload_n (pc := 8) (i := 2) C dX9_yields_8 rfl rfl ?_
  refine g_iconst (pc := 9) (v := 5) C dX9_yields_9 (by decide) ?_
  refine g_callVi (pc := 10) (As := [.int (r1), .int (5)]) C (kX9_its X σ b r1 5 hb) (blk hb 0 rfl) rfl q_20_12 q_20_13 q_20_14 q_1_5 q_20_15 ⟨rfl, hdX9_its⟩ ⟨Nat.le_of_ble_eq_true rfl, Nat.le_of_ble_eq_true rfl, rfl, rfl⟩ ⟨Nat.zero_le _, Nat.zero_le _⟩ (Nat.le_of_ble_eq_true rfl) rfl rfl dX9_yields_10 (fun r2 _ => ?_)
  refine g_iload_n (pc := 13) (i := 1) C dX9_yields_13 rfl rfl ?_
  refine g_icmp_eq (pc := 14) (tgt := 18) C dX9_yields_14 rfl ?_ ?_
  · refine g_iconst (pc := 18) (v := (-1)) C dX9_yields_18 (by decide) ?_
    refine g_istore_n (pc := 19) (i := 3) C dX9_yields_19 rfl (Nat.le_of_ble_eq_true rfl) rfl ?_
    refine g_aload_n (pc := 20) (i := 0) C dX9_yields_20 rfl rfl ?_
    refine g_iload_n (pc := 21) (i := 2) C dX9_yields_21 rfl rfl ?_
    refine g_callVi (pc := 22) (As := [.int (r1)]) C (kX9_tabMany X σ b r1 hb) (blk hb 0 rfl) rfl q_20_16 q_20_17 q_20_18 q_1_5 q_20_19 ⟨rfl, hdX9_tabMany⟩ ⟨Nat.le_of_ble_eq_true rfl, Nat.le_of_ble_eq_true rfl, rfl, rfl⟩ ⟨Nat.zero_le _, Nat.zero_le _⟩ (Nat.le_of_ble_eq_true rfl) rfl rfl dX9_yields_22 (fun r3 _ => ?_)
    refine g_istore (pc := 25) C dX9_yields_25 (Nat.le_of_ble_eq_true rfl) rfl ?_
    refine g_iconst (pc := 27) (v := 0) C dX9_yields_27 (by decide) ?_
    refine g_istore (pc := 28) C dX9_yields_28 (Nat.le_of_ble_eq_true rfl) rfl ?_
    refine g_keep [true, true, true, true, true, true, false, false] ?_
    exact bX9_yields_30 C hr b hb FU σ p1 r1 (-1) r3 0
  · exact g_vret (pc := 17) C hr dX9_yields_17 rfl
theorem dX9_collapses_0 : decode cX9_collapses 0 = .ok (.aload_n 0, 1) := by decide +kernel
theorem dX9_collapses_1 : decode cX9_collapses 1 = .ok (.iload_n 1, 1) := by decide +kernel
theorem dX9_collapses_2 : decode cX9_collapses 2 = .ok (.invokevirtual 113, 3) := by decide +kernel
theorem dX9_collapses_5 : decode cX9_collapses 5 = .ok (.iconst 1, 1) := by decide +kernel
theorem dX9_collapses_6 : decode cX9_collapses 6 = .ok (.if_icmp .le 4, 3) := by decide +kernel
theorem dX9_collapses_9 : decode cX9_collapses 9 = .ok (.return_, 1) := by decide +kernel
theorem dX9_collapses_10 : decode cX9_collapses 10 = .ok (.aload_n 0, 1) := by decide +kernel
theorem dX9_collapses_11 : decode cX9_collapses 11 = .ok (.iload_n 1, 1) := by decide +kernel
theorem dX9_collapses_12 : decode cX9_collapses 12 = .ok (.iconst 0, 1) := by decide +kernel
theorem dX9_collapses_13 : decode cX9_collapses 13 = .ok (.invokevirtual 116, 3) := by decide +kernel
theorem dX9_collapses_16 : decode cX9_collapses 16 = .ok (.istore_n 2, 1) := by decide +kernel
theorem dX9_collapses_17 : decode cX9_collapses 17 = .ok (.aload_n 0, 1) := by decide +kernel
theorem dX9_collapses_18 : decode cX9_collapses 18 = .ok (.iload_n 2, 1) := by decide +kernel
theorem dX9_collapses_19 : decode cX9_collapses 19 = .ok (.iload_n 1, 1) := by decide +kernel
theorem dX9_collapses_20 : decode cX9_collapses 20 = .ok (.invokevirtual 119, 3) := by decide +kernel
theorem dX9_collapses_23 : decode cX9_collapses 23 = .ok (.aload_n 0, 1) := by decide +kernel
theorem dX9_collapses_24 : decode cX9_collapses 24 = .ok (.iload_n 1, 1) := by decide +kernel
theorem dX9_collapses_25 : decode cX9_collapses 25 = .ok (.iconst 0, 1) := by decide +kernel
theorem dX9_collapses_26 : decode cX9_collapses 26 = .ok (.iconst 0, 1) := by decide +kernel
theorem dX9_collapses_27 : decode cX9_collapses 27 = .ok (.invokevirtual 79, 3) := by decide +kernel
theorem dX9_collapses_30 : decode cX9_collapses 30 = .ok (.return_, 1) := by decide +kernel
abbrev rmX9_collapses : Room := { frames := 4, cells := 0, slots := 0, locals := 89 }
theorem hdX9_collapses : yX9_collapses.cls ≠ "java/lang/invoke/MethodHandle" ∧ yX9_collapses.cls ≠ "java/lang/invoke/VarHandle" ∧ (parseMethodDescriptor yX9_collapses.desc).map (fun d => d.parameters.length) = some 1 := by decide +kernel
def fX9_collapses (σ : Sg) (b : Nat) (p1 : Int32) : Option Sg :=
  (fX9_childMany σ b p1).bind fun r1 =>
  if r1 ≤ 1 then
    (fX9_child σ b p1 0).bind fun r2 =>
    (fX9_replaces σ b r2 p1).bind fun σ3 =>
    (fX9_lay σ3 b p1 0 0).bind fun σ4 =>
    some σ4
  else
    some σ
theorem kX9_collapses (X : Xc) (σ : Sg) (b : Nat) (p1 : Int32) (hb : moOK b) : ∀ r, fX9_collapses σ b p1 = some r → Met X.l yX9_collapses (wsM yX9_collapses cX9_collapses 3 none) rmX9_collapses (va_Pc [.ref (X.ad b), .int p1] (PW X σ)) (Qv X r) 0 0 X.A := by
  refine mt_of (own := RX9) (lo := [some (.ref (X.ad b)), some (.int (p1)), none]) (by decide) rfl (Nat.le_of_ble_eq_true rfl) rfl (fun K C hr => ?_)
  unfold fX9_collapses
  refine g_aload_n (pc := 0) (i := 0) C dX9_collapses_0 rfl rfl ?_
  refine g_iload_n (pc := 1) (i := 1) C dX9_collapses_1 rfl rfl ?_
  refine g_callVi (pc := 2) (As := [.int (p1)]) C (kX9_childMany X σ b p1 hb) (blk hb 0 rfl) rfl q_21_16 q_21_17 q_21_18 q_1_5 q_21_19 ⟨rfl, hdX9_childMany⟩ ⟨Nat.le_of_ble_eq_true rfl, Nat.le_of_ble_eq_true rfl, rfl, rfl⟩ ⟨Nat.zero_le _, Nat.zero_le _⟩ (Nat.le_of_ble_eq_true rfl) rfl rfl dX9_collapses_2 (fun r1 _ => ?_)
  refine g_iconst (pc := 5) (v := 1) C dX9_collapses_5 (by decide) ?_
  refine g_icmp_le (pc := 6) (tgt := 10) C dX9_collapses_6 rfl ?_ ?_
  · refine g_aload_n (pc := 10) (i := 0) C dX9_collapses_10 rfl rfl ?_
    refine g_iload_n (pc := 11) (i := 1) C dX9_collapses_11 rfl rfl ?_
    refine g_iconst (pc := 12) (v := 0) C dX9_collapses_12 (by decide) ?_
    refine g_callVi (pc := 13) (As := [.int (p1), .int (0)]) C (kX9_child X σ b p1 0 hb) (blk hb 0 rfl) rfl q_21_20 q_21_21 q_21_22 q_1_5 q_21_23 ⟨rfl, hdX9_child⟩ ⟨Nat.le_of_ble_eq_true rfl, Nat.le_of_ble_eq_true rfl, rfl, rfl⟩ ⟨Nat.zero_le _, Nat.zero_le _⟩ (Nat.le_of_ble_eq_true rfl) rfl rfl dX9_collapses_13 (fun r2 _ => ?_)
    refine g_istore_n (pc := 16) (i := 2) C dX9_collapses_16 rfl (Nat.le_of_ble_eq_true rfl) rfl ?_
    refine g_aload_n (pc := 17) (i := 0) C dX9_collapses_17 rfl rfl ?_
    refine g_iload_n (pc := 18) (i := 2) C dX9_collapses_18 rfl rfl ?_
    refine g_iload_n (pc := 19) (i := 1) C dX9_collapses_19 rfl rfl ?_
    refine g_callVv (pc := 20) (As := [.int (r2), .int (p1)]) C (kX9_replaces X σ b r2 p1 hb) (blk hb 0 rfl) rfl q_22_0 q_22_1 q_22_2 q_1_5 q_22_3 ⟨rfl, hdX9_replaces⟩ ⟨Nat.le_of_ble_eq_true rfl, Nat.le_of_ble_eq_true rfl, rfl, rfl⟩ ⟨Nat.zero_le _, Nat.zero_le _⟩ (Nat.le_of_ble_eq_true rfl) rfl rfl dX9_collapses_20 (fun σ3 _ => ?_)
    refine g_aload_n (pc := 23) (i := 0) C dX9_collapses_23 rfl rfl ?_
    refine g_iload_n (pc := 24) (i := 1) C dX9_collapses_24 rfl rfl ?_
    refine g_iconst (pc := 25) (v := 0) C dX9_collapses_25 (by decide) ?_
    refine g_iconst (pc := 26) (v := 0) C dX9_collapses_26 (by decide) ?_
    refine g_callVv (pc := 27) (As := [.int (p1), .int (0), .int (0)]) C (kX9_lay X σ3 b p1 0 0 hb) (blk hb 0 rfl) rfl q_21_0 q_21_1 q_21_2 q_1_5 q_21_3 ⟨rfl, hdX9_lay⟩ ⟨Nat.le_of_ble_eq_true rfl, Nat.le_of_ble_eq_true rfl, rfl, rfl⟩ ⟨Nat.zero_le _, Nat.zero_le _⟩ (Nat.le_of_ble_eq_true rfl) rfl rfl dX9_collapses_27 (fun σ4 _ => ?_)
    exact g_vret (pc := 30) C hr dX9_collapses_30 rfl
  · exact g_vret (pc := 9) C hr dX9_collapses_9 rfl
theorem dX9_goesAway_0 : decode cX9_goesAway 0 = .ok (.aload_n 0, 1) := by decide +kernel
theorem dX9_goesAway_1 : decode cX9_goesAway 1 = .ok (.iload_n 1, 1) := by decide +kernel
theorem dX9_goesAway_2 : decode cX9_goesAway 2 = .ok (.iconst 3, 1) := by decide +kernel
theorem dX9_goesAway_3 : decode cX9_goesAway 3 = .ok (.invokevirtual 65, 3) := by decide +kernel
theorem dX9_goesAway_6 : decode cX9_goesAway 6 = .ok (.istore_n 2, 1) := by decide +kernel
theorem dX9_goesAway_7 : decode cX9_goesAway 7 = .ok (.aload_n 0, 1) := by decide +kernel
theorem dX9_goesAway_8 : decode cX9_goesAway 8 = .ok (.iload_n 1, 1) := by decide +kernel
theorem dX9_goesAway_9 : decode cX9_goesAway 9 = .ok (.invokevirtual 122, 3) := by decide +kernel
theorem dX9_goesAway_12 : decode cX9_goesAway 12 = .ok (.iconst 0, 1) := by decide +kernel
theorem dX9_goesAway_13 : decode cX9_goesAway 13 = .ok (.istore_n 3, 1) := by decide +kernel
theorem dX9_goesAway_14 : decode cX9_goesAway 14 = .ok (.iload_n 3, 1) := by decide +kernel
theorem dX9_goesAway_15 : decode cX9_goesAway 15 = .ok (.bipush 12, 2) := by decide +kernel
theorem dX9_goesAway_17 : decode cX9_goesAway 17 = .ok (.if_icmp .ge 48, 3) := by decide +kernel
theorem dX9_goesAway_20 : decode cX9_goesAway 20 = .ok (.aload_n 0, 1) := by decide +kernel
theorem dX9_goesAway_21 : decode cX9_goesAway 21 = .ok (.iload_n 3, 1) := by decide +kernel
theorem dX9_goesAway_22 : decode cX9_goesAway 22 = .ok (.iconst 3, 1) := by decide +kernel
theorem dX9_goesAway_23 : decode cX9_goesAway 23 = .ok (.invokevirtual 65, 3) := by decide +kernel
theorem dX9_goesAway_26 : decode cX9_goesAway 26 = .ok (.iload_n 2, 1) := by decide +kernel
theorem dX9_goesAway_27 : decode cX9_goesAway 27 = .ok (.if_icmp .ne 32, 3) := by decide +kernel
theorem dX9_goesAway_30 : decode cX9_goesAway 30 = .ok (.aload_n 0, 1) := by decide +kernel
theorem dX9_goesAway_31 : decode cX9_goesAway 31 = .ok (.iload_n 3, 1) := by decide +kernel
theorem dX9_goesAway_32 : decode cX9_goesAway 32 = .ok (.iconst 4, 1) := by decide +kernel
theorem dX9_goesAway_33 : decode cX9_goesAway 33 = .ok (.invokevirtual 65, 3) := by decide +kernel
theorem dX9_goesAway_36 : decode cX9_goesAway 36 = .ok (.aload_n 0, 1) := by decide +kernel
theorem dX9_goesAway_37 : decode cX9_goesAway 37 = .ok (.iload_n 1, 1) := by decide +kernel
theorem dX9_goesAway_38 : decode cX9_goesAway 38 = .ok (.iconst 4, 1) := by decide +kernel
theorem dX9_goesAway_39 : decode cX9_goesAway 39 = .ok (.invokevirtual 65, 3) := by decide +kernel
theorem dX9_goesAway_42 : decode cX9_goesAway 42 = .ok (.if_icmp .le 17, 3) := by decide +kernel
theorem dX9_goesAway_45 : decode cX9_goesAway 45 = .ok (.aload_n 0, 1) := by decide +kernel
theorem dX9_goesAway_46 : decode cX9_goesAway 46 = .ok (.iload_n 3, 1) := by decide +kernel
theorem dX9_goesAway_47 : decode cX9_goesAway 47 = .ok (.iconst 4, 1) := by decide +kernel
theorem dX9_goesAway_48 : decode cX9_goesAway 48 = .ok (.aload_n 0, 1) := by decide +kernel
theorem dX9_goesAway_49 : decode cX9_goesAway 49 = .ok (.iload_n 3, 1) := by decide +kernel
theorem dX9_goesAway_50 : decode cX9_goesAway 50 = .ok (.iconst 4, 1) := by decide +kernel
theorem dX9_goesAway_51 : decode cX9_goesAway 51 = .ok (.invokevirtual 65, 3) := by decide +kernel
theorem dX9_goesAway_54 : decode cX9_goesAway 54 = .ok (.iconst 1, 1) := by decide +kernel
theorem dX9_goesAway_55 : decode cX9_goesAway 55 = .ok (.isub, 1) := by decide +kernel
theorem dX9_goesAway_56 : decode cX9_goesAway 56 = .ok (.invokevirtual 126, 3) := by decide +kernel
theorem dX9_goesAway_59 : decode cX9_goesAway 59 = .ok (.iinc 3 1, 3) := by decide +kernel
theorem dX9_goesAway_62 : decode cX9_goesAway 62 = .ok (.goto (-48), 3) := by decide +kernel
theorem dX9_goesAway_65 : decode cX9_goesAway 65 = .ok (.aload_n 0, 1) := by decide +kernel
theorem dX9_goesAway_66 : decode cX9_goesAway 66 = .ok (.iload_n 1, 1) := by decide +kernel
theorem dX9_goesAway_67 : decode cX9_goesAway 67 = .ok (.iconst 3, 1) := by decide +kernel
theorem dX9_goesAway_68 : decode cX9_goesAway 68 = .ok (.iconst (-1), 1) := by decide +kernel
theorem dX9_goesAway_69 : decode cX9_goesAway 69 = .ok (.invokevirtual 126, 3) := by decide +kernel
theorem dX9_goesAway_72 : decode cX9_goesAway 72 = .ok (.aload_n 0, 1) := by decide +kernel
theorem dX9_goesAway_73 : decode cX9_goesAway 73 = .ok (.iload_n 1, 1) := by decide +kernel
theorem dX9_goesAway_74 : decode cX9_goesAway 74 = .ok (.iconst 4, 1) := by decide +kernel
theorem dX9_goesAway_75 : decode cX9_goesAway 75 = .ok (.iconst 0, 1) := by decide +kernel
theorem dX9_goesAway_76 : decode cX9_goesAway 76 = .ok (.invokevirtual 126, 3) := by decide +kernel
theorem dX9_goesAway_79 : decode cX9_goesAway 79 = .ok (.aload_n 0, 1) := by decide +kernel
theorem dX9_goesAway_80 : decode cX9_goesAway 80 = .ok (.iload_n 1, 1) := by decide +kernel
theorem dX9_goesAway_81 : decode cX9_goesAway 81 = .ok (.iconst 5, 1) := by decide +kernel
theorem dX9_goesAway_82 : decode cX9_goesAway 82 = .ok (.iconst 0, 1) := by decide +kernel
theorem dX9_goesAway_83 : decode cX9_goesAway 83 = .ok (.invokevirtual 126, 3) := by decide +kernel
theorem dX9_goesAway_86 : decode cX9_goesAway 86 = .ok (.aload_n 0, 1) := by decide +kernel
theorem dX9_goesAway_87 : decode cX9_goesAway 87 = .ok (.iload_n 2, 1) := by decide +kernel
theorem dX9_goesAway_88 : decode cX9_goesAway 88 = .ok (.invokevirtual 107, 3) := by decide +kernel
theorem dX9_goesAway_91 : decode cX9_goesAway 91 = .ok (.ifCond .le 4, 3) := by decide +kernel
theorem dX9_goesAway_94 : decode cX9_goesAway 94 = .ok (.return_, 1) := by decide +kernel
theorem dX9_goesAway_95 : decode cX9_goesAway 95 = .ok (.aload_n 0, 1) := by decide +kernel
theorem dX9_goesAway_96 : decode cX9_goesAway 96 = .ok (.iload_n 2, 1) := by decide +kernel
theorem dX9_goesAway_97 : decode cX9_goesAway 97 = .ok (.iconst 1, 1) := by decide +kernel
theorem dX9_goesAway_98 : decode cX9_goesAway 98 = .ok (.invokevirtual 76, 3) := by decide +kernel
theorem dX9_goesAway_101 : decode cX9_goesAway 101 = .ok (.istore_n 3, 1) := by decide +kernel
theorem dX9_goesAway_102 : decode cX9_goesAway 102 = .ok (.iload_n 3, 1) := by decide +kernel
theorem dX9_goesAway_103 : decode cX9_goesAway 103 = .ok (.iconst (-1), 1) := by decide +kernel
theorem dX9_goesAway_104 : decode cX9_goesAway 104 = .ok (.if_icmp .eq 14, 3) := by decide +kernel
theorem dX9_goesAway_107 : decode cX9_goesAway 107 = .ok (.aload_n 0, 1) := by decide +kernel
theorem dX9_goesAway_108 : decode cX9_goesAway 108 = .ok (.iload_n 2, 1) := by decide +kernel
theorem dX9_goesAway_109 : decode cX9_goesAway 109 = .ok (.invokevirtual 129, 3) := by decide +kernel
theorem dX9_goesAway_112 : decode cX9_goesAway 112 = .ok (.aload_n 0, 1) := by decide +kernel
theorem dX9_goesAway_113 : decode cX9_goesAway 113 = .ok (.iload_n 3, 1) := by decide +kernel
theorem dX9_goesAway_114 : decode cX9_goesAway 114 = .ok (.invokevirtual 132, 3) := by decide +kernel
theorem dX9_goesAway_117 : decode cX9_goesAway 117 = .ok (.return_, 1) := by decide +kernel
theorem dX9_goesAway_118 : decode cX9_goesAway 118 = .ok (.aload_n 0, 1) := by decide +kernel
theorem dX9_goesAway_119 : decode cX9_goesAway 119 = .ok (.iload_n 2, 1) := by decide +kernel
theorem dX9_goesAway_120 : decode cX9_goesAway 120 = .ok (.invokevirtual 91, 3) := by decide +kernel
theorem dX9_goesAway_123 : decode cX9_goesAway 123 = .ok (.istore 4, 2) := by decide +kernel
theorem dX9_goesAway_125 : decode cX9_goesAway 125 = .ok (.aload_n 0, 1) := by decide +kernel
theorem dX9_goesAway_126 : decode cX9_goesAway 126 = .ok (.iload_n 2, 1) := by decide +kernel
theorem dX9_goesAway_127 : decode cX9_goesAway 127 = .ok (.iconst 0, 1) := by decide +kernel
theorem dX9_goesAway_128 : decode cX9_goesAway 128 = .ok (.iconst 0, 1) := by decide +kernel
theorem dX9_goesAway_129 : decode cX9_goesAway 129 = .ok (.invokevirtual 79, 3) := by decide +kernel
theorem dX9_goesAway_132 : decode cX9_goesAway 132 = .ok (.aload_n 0, 1) := by decide +kernel
theorem dX9_goesAway_133 : decode cX9_goesAway 133 = .ok (.iload 4, 2) := by decide +kernel
theorem dX9_goesAway_135 : decode cX9_goesAway 135 = .ok (.iconst 5, 1) := by decide +kernel
theorem dX9_goesAway_136 : decode cX9_goesAway 136 = .ok (.iconst (-1), 1) := by decide +kernel
theorem dX9_goesAway_137 : decode cX9_goesAway 137 = .ok (.invokevirtual 94, 3) := by decide +kernel
theorem dX9_goesAway_140 : decode cX9_goesAway 140 = .ok (.iload 4, 2) := by decide +kernel
theorem dX9_goesAway_142 : decode cX9_goesAway 142 = .ok (.ifCond .le 20, 3) := by decide +kernel
theorem dX9_goesAway_145 : decode cX9_goesAway 145 = .ok (.aload_n 0, 1) := by decide +kernel
theorem dX9_goesAway_146 : decode cX9_goesAway 146 = .ok (.iload 4, 2) := by decide +kernel
theorem dX9_goesAway_148 : decode cX9_goesAway 148 = .ok (.iconst 0, 1) := by decide +kernel
theorem dX9_goesAway_149 : decode cX9_goesAway 149 = .ok (.iconst 0, 1) := by decide +kernel
theorem dX9_goesAway_150 : decode cX9_goesAway 150 = .ok (.invokevirtual 94, 3) := by decide +kernel
theorem dX9_goesAway_153 : decode cX9_goesAway 153 = .ok (.aload_n 0, 1) := by decide +kernel
theorem dX9_goesAway_154 : decode cX9_goesAway 154 = .ok (.sipush 246, 3) := by decide +kernel
theorem dX9_goesAway_157 : decode cX9_goesAway 157 = .ok (.iload 4, 2) := by decide +kernel
theorem dX9_goesAway_159 : decode cX9_goesAway 159 = .ok (.invokevirtual 100, 3) := by decide +kernel
theorem dX9_goesAway_162 : decode cX9_goesAway 162 = .ok (.return_, 1) := by decide +kernel
abbrev rmX9_goesAway : Room := { frames := 5, cells := 0, slots := 0, locals := 111 }
theorem hdX9_goesAway : yX9_goesAway.cls ≠ "java/lang/invoke/MethodHandle" ∧ yX9_goesAway.cls ≠ "java/lang/invoke/VarHandle" ∧ (parseMethodDescriptor yX9_goesAway.desc).map (fun d => d.parameters.length) = some 1 := by decide +kernel
def fX9_goesAway_59 (b : Nat) (k14 : Sg → Int32 → Int32 → Int32 → Option Sg) (σ : Sg) (l1 : Int32) (l2 : Int32) (l3 : Int32) : Option Sg :=
  (k14 σ l1 l2 (l3 + 1))
theorem bX9_goesAway_59 {X : Xc} {K : Kc} (C : MC X K cX9_goesAway 5 RX9 rmX9_goesAway) (hr : K.meth.sig.returnType = none) (b : Nat) (hb : moOK b){k14 : Sg → Int32 → Int32 → Int32 → Option Sg} (hk14 : ∀ (σ : Sg) (l1 : Int32) (l2 : Int32) (l3 : Int32), GO X K 5 (fun r => MQv X K r) (k14 σ l1 l2 l3) σ 0 0 14 [some (.ref (X.ad b)), some (.int (l1)), some (.int (l2)), some (.int (l3)), none] []) (σ : Sg) (l1 : Int32) (l2 : Int32) (l3 : Int32) : GO X K 5 (fun r => MQv X K r) (fX9_goesAway_59 b k14 σ l1 l2 l3) σ 0 0 59 [some (.ref (X.ad b)), some (.int (l1)), some (.int (l2)), some (.int (l3)), none] [] := by
  unfold fX9_goesAway_59
  refine g_iinc (pc := 59) (v := l3 + 1) C dX9_goesAway_59 rfl (rfl) (Nat.le_of_ble_eq_true rfl) rfl ?_
  refine g_goto (pc := 62) (tgt := 14) C dX9_goesAway_62 rfl ?_
  refine g_keep [true, true, true, true, false] ?_
  exact hk14 σ l1 l2 (l3 + 1)
def fX9_goesAway_14 (b : Nat) : Nat → Sg → Int32 → Int32 → Int32 → Option Sg
  | 0, _, _, _, _ => none
  | n + 1, σ, l1, l2, l3 =>
    if 12 ≤ l3 then
      (fX9_put σ b l1 3 (-1)).bind fun σ3 =>
      (fX9_put σ3 b l1 4 0).bind fun σ4 =>
      (fX9_put σ4 b l1 5 0).bind fun σ5 =>
      (fX9_tabMany σ5 b l2).bind fun r6 =>
      if r6 ≤ 0 then
        (fX9_its σ5 b l2 1).bind fun r7 =>
        if r7 = (-1) then
          (fX9_windowOf σ5 b l2).bind fun r8 =>
          (fX9_lay σ5 b l2 0 0).bind fun σ9 =>
          (fX9_puts σ9 b r8 5 (-1)).bind fun σ10 =>
          if r8 ≤ 0 then
            some σ10
          else
            (fX9_puts σ10 b r8 0 0).bind fun σ11 =>
            (fX9_dropsFrom σ11 b 246 r8).bind fun σ12 =>
            some σ12
        else
          (fX9_leaves σ5 b l2).bind fun σ13 =>
          (fX9_collapses σ13 b r7).bind fun σ14 =>
          some σ14
      else
        some σ5
    else
      (fX9_of σ b l3 3).bind fun r15 =>
      if r15 = l2 then
        (fX9_of σ b l3 4).bind fun r16 =>
        (fX9_of σ b l1 4).bind fun r17 =>
        if r16 ≤ r17 then
          (fX9_goesAway_59 b (fX9_goesAway_14 b n) σ l1 l2 l3)
        else
          (fX9_of σ b l3 4).bind fun r18 =>
          (fX9_put σ b l3 4 (r18 - 1)).bind fun σ19 =>
          (fX9_goesAway_59 b (fX9_goesAway_14 b n) σ19 l1 l2 l3)
      else
        (fX9_goesAway_59 b (fX9_goesAway_14 b n) σ l1 l2 l3)
theorem bX9_goesAway_14 {X : Xc} {K : Kc} (C : MC X K cX9_goesAway 5 RX9 rmX9_goesAway) (hr : K.meth.sig.returnType = none) (b : Nat) (hb : moOK b) : ∀ (n : Nat) (σ : Sg) (l1 : Int32) (l2 : Int32) (l3 : Int32), GO X K 5 (fun r => MQv X K r) (fX9_goesAway_14 b n σ l1 l2 l3) σ 0 0 14 [some (.ref (X.ad b)), some (.int (l1)), some (.int (l2)), some (.int (l3)), none] [] := by
  intro n
  induction n with
  | zero =>
    intro σ l1 l2 l3
    exact g_none
  | succ n ih =>
    intro σ l1 l2 l3
    unfold fX9_goesAway_14
    refine g_iload_n (pc := 14) (i := 3) C dX9_goesAway_14 rfl rfl ?_
    refine g_bipush (pc := 15) (v := 12) C dX9_goesAway_15 (by decide) ?_
    refine g_icmp_ge (pc := 17) (tgt := 65) C dX9_goesAway_17 rfl ?_ ?_
    · refine g_aload_n (pc := 65) (i := 0) C dX9_goesAway_65 rfl rfl ?_
      refine g_iload_n (pc := 66) (i := 1) C dX9_goesAway_66 rfl rfl ?_
      refine g_iconst (pc := 67) (v := 3) C dX9_goesAway_67 (by decide) ?_
      refine g_iconst (pc := 68) (v := (-1)) C dX9_goesAway_68 (by decide) ?_
      refine g_callVv (pc := 69) (As := [.int (l1), .int (3), .int ((-1))]) C (kX9_put X σ b l1 3 (-1) hb) (blk hb 0 rfl) rfl q_10_19 q_10_20 q_10_21 q_1_5 q_10_22 ⟨rfl, hdX9_put⟩ ⟨Nat.le_of_ble_eq_true rfl, Nat.le_of_ble_eq_true rfl, rfl, rfl⟩ ⟨Nat.zero_le _, Nat.zero_le _⟩ (Nat.le_of_ble_eq_true rfl) rfl rfl dX9_goesAway_69 (fun σ3 _ => ?_)
      refine g_aload_n (pc := 72) (i := 0) C dX9_goesAway_72 rfl rfl ?_
      refine g_iload_n (pc := 73) (i := 1) C dX9_goesAway_73 rfl rfl ?_
      refine g_iconst (pc := 74) (v := 4) C dX9_goesAway_74 (by decide) ?_
      refine g_iconst (pc := 75) (v := 0) C dX9_goesAway_75 (by decide) ?_
      refine g_callVv (pc := 76) (As := [.int (l1), .int (4), .int (0)]) C (kX9_put X σ3 b l1 4 0 hb) (blk hb 0 rfl) rfl q_10_19 q_10_20 q_10_21 q_1_5 q_10_22 ⟨rfl, hdX9_put⟩ ⟨Nat.le_of_ble_eq_true rfl, Nat.le_of_ble_eq_true rfl, rfl, rfl⟩ ⟨Nat.zero_le _, Nat.zero_le _⟩ (Nat.le_of_ble_eq_true rfl) rfl rfl dX9_goesAway_76 (fun σ4 _ => ?_)
      refine g_aload_n (pc := 79) (i := 0) C dX9_goesAway_79 rfl rfl ?_
      refine g_iload_n (pc := 80) (i := 1) C dX9_goesAway_80 rfl rfl ?_
      refine g_iconst (pc := 81) (v := 5) C dX9_goesAway_81 (by decide) ?_
      refine g_iconst (pc := 82) (v := 0) C dX9_goesAway_82 (by decide) ?_
      refine g_callVv (pc := 83) (As := [.int (l1), .int (5), .int (0)]) C (kX9_put X σ4 b l1 5 0 hb) (blk hb 0 rfl) rfl q_10_19 q_10_20 q_10_21 q_1_5 q_10_22 ⟨rfl, hdX9_put⟩ ⟨Nat.le_of_ble_eq_true rfl, Nat.le_of_ble_eq_true rfl, rfl, rfl⟩ ⟨Nat.zero_le _, Nat.zero_le _⟩ (Nat.le_of_ble_eq_true rfl) rfl rfl dX9_goesAway_83 (fun σ5 _ => ?_)
      refine g_aload_n (pc := 86) (i := 0) C dX9_goesAway_86 rfl rfl ?_
      refine g_iload_n (pc := 87) (i := 2) C dX9_goesAway_87 rfl rfl ?_
      refine g_callVi (pc := 88) (As := [.int (l2)]) C (kX9_tabMany X σ5 b l2 hb) (blk hb 0 rfl) rfl q_20_16 q_20_17 q_20_18 q_1_5 q_20_19 ⟨rfl, hdX9_tabMany⟩ ⟨Nat.le_of_ble_eq_true rfl, Nat.le_of_ble_eq_true rfl, rfl, rfl⟩ ⟨Nat.zero_le _, Nat.zero_le _⟩ (Nat.le_of_ble_eq_true rfl) rfl rfl dX9_goesAway_88 (fun r6 _ => ?_)
      refine g_if_le (pc := 91) (tgt := 95) C dX9_goesAway_91 rfl ?_ ?_
      · refine g_aload_n (pc := 95) (i := 0) C dX9_goesAway_95 rfl rfl ?_
        refine g_iload_n (pc := 96) (i := 2) C dX9_goesAway_96 rfl rfl ?_
        refine g_iconst (pc := 97) (v := 1) C dX9_goesAway_97 (by decide) ?_
        refine g_callVi (pc := 98) (As := [.int (l2), .int (1)]) C (kX9_its X σ5 b l2 1 hb) (blk hb 0 rfl) rfl q_20_12 q_20_13 q_20_14 q_1_5 q_20_15 ⟨rfl, hdX9_its⟩ ⟨Nat.le_of_ble_eq_true rfl, Nat.le_of_ble_eq_true rfl, rfl, rfl⟩ ⟨Nat.zero_le _, Nat.zero_le _⟩ (Nat.le_of_ble_eq_true rfl) rfl rfl dX9_goesAway_98 (fun r7 _ => ?_)
        refine g_istore_n (pc := 101) (i := 3) C dX9_goesAway_101 rfl (Nat.le_of_ble_eq_true rfl) rfl ?_
        refine g_iload_n (pc := 102) (i := 3) C dX9_goesAway_102 rfl rfl ?_
        refine g_iconst (pc := 103) (v := (-1)) C dX9_goesAway_103 (by decide) ?_
        refine g_icmp_eq (pc := 104) (tgt := 118) C dX9_goesAway_104 rfl ?_ ?_
        · refine g_aload_n (pc := 118) (i := 0) C dX9_goesAway_118 rfl rfl ?_
          refine g_iload_n (pc := 119) (i := 2) C dX9_goesAway_119 rfl rfl ?_
          refine g_callVi (pc := 120) (As := [.int (l2)]) C (kX9_windowOf X σ5 b l2 hb) (blk hb 0 rfl) rfl q_22_4 q_22_5 q_22_6 q_1_5 q_22_7 ⟨rfl, hdX9_windowOf⟩ ⟨Nat.le_of_ble_eq_true rfl, Nat.le_of_ble_eq_true rfl, rfl, rfl⟩ ⟨Nat.zero_le _, Nat.zero_le _⟩ (Nat.le_of_ble_eq_true rfl) rfl rfl dX9_goesAway_120 (fun r8 _ => ?_)
          refine g_istore (pc := 123) C dX9_goesAway_123 (Nat.le_of_ble_eq_true rfl) rfl ?_
          refine g_aload_n (pc := 125) (i := 0) C dX9_goesAway_125 rfl rfl ?_
          refine g_iload_n (pc := 126) (i := 2) C dX9_goesAway_126 rfl rfl ?_
          refine g_iconst (pc := 127) (v := 0) C dX9_goesAway_127 (by decide) ?_
          refine g_iconst (pc := 128) (v := 0) C dX9_goesAway_128 (by decide) ?_
          refine g_callVv (pc := 129) (As := [.int (l2), .int (0), .int (0)]) C (kX9_lay X σ5 b l2 0 0 hb) (blk hb 0 rfl) rfl q_21_0 q_21_1 q_21_2 q_1_5 q_21_3 ⟨rfl, hdX9_lay⟩ ⟨Nat.le_of_ble_eq_true rfl, Nat.le_of_ble_eq_true rfl, rfl, rfl⟩ ⟨Nat.zero_le _, Nat.zero_le _⟩ (Nat.le_of_ble_eq_true rfl) rfl rfl dX9_goesAway_129 (fun σ9 _ => ?_)
          refine g_aload_n (pc := 132) (i := 0) C dX9_goesAway_132 rfl rfl ?_
          refine g_iload (pc := 133) C dX9_goesAway_133 rfl ?_
          refine g_iconst (pc := 135) (v := 5) C dX9_goesAway_135 (by decide) ?_
          refine g_iconst (pc := 136) (v := (-1)) C dX9_goesAway_136 (by decide) ?_
          refine g_callVv (pc := 137) (As := [.int (r8), .int (5), .int ((-1))]) C (kX9_puts X σ9 b r8 5 (-1) hb) (blk hb 0 rfl) rfl q_22_16 q_22_17 q_22_18 q_1_5 q_22_19 ⟨rfl, hdX9_puts⟩ ⟨Nat.le_of_ble_eq_true rfl, Nat.le_of_ble_eq_true rfl, rfl, rfl⟩ ⟨Nat.zero_le _, Nat.zero_le _⟩ (Nat.le_of_ble_eq_true rfl) rfl rfl dX9_goesAway_137 (fun σ10 _ => ?_)
          refine g_iload (pc := 140) C dX9_goesAway_140 rfl ?_
          refine g_if_le (pc := 142) (tgt := 162) C dX9_goesAway_142 rfl ?_ ?_
          · exact g_vret (pc := 162) C hr dX9_goesAway_162 rfl
          · refine g_aload_n (pc := 145) (i := 0) C dX9_goesAway_145 rfl rfl ?_
            refine g_iload (pc := 146) C dX9_goesAway_146 rfl ?_
            refine g_iconst (pc := 148) (v := 0) C dX9_goesAway_148 (by decide) ?_
            refine g_iconst (pc := 149) (v := 0) C dX9_goesAway_149 (by decide) ?_
            refine g_callVv (pc := 150) (As := [.int (r8), .int (0), .int (0)]) C (kX9_puts X σ10 b r8 0 0 hb) (blk hb 0 rfl) rfl q_22_16 q_22_17 q_22_18 q_1_5 q_22_19 ⟨rfl, hdX9_puts⟩ ⟨Nat.le_of_ble_eq_true rfl, Nat.le_of_ble_eq_true rfl, rfl, rfl⟩ ⟨Nat.zero_le _, Nat.zero_le _⟩ (Nat.le_of_ble_eq_true rfl) rfl rfl dX9_goesAway_150 (fun σ11 _ => ?_)
            refine g_aload_n (pc := 153) (i := 0) C dX9_goesAway_153 rfl rfl ?_
            refine g_sipush (pc := 154) (v := 246) C dX9_goesAway_154 (by decide) ?_
            refine g_iload (pc := 157) C dX9_goesAway_157 rfl ?_
            refine g_callVv (pc := 159) (As := [.int (246), .int (r8)]) C (kX9_dropsFrom X σ11 b 246 r8 hb) (blk hb 0 rfl) rfl q_22_20 q_22_21 q_22_22 q_1_5 q_22_23 ⟨rfl, hdX9_dropsFrom⟩ ⟨Nat.le_of_ble_eq_true rfl, Nat.le_of_ble_eq_true rfl, rfl, rfl⟩ ⟨Nat.zero_le _, Nat.zero_le _⟩ (Nat.le_of_ble_eq_true rfl) rfl rfl dX9_goesAway_159 (fun σ12 _ => ?_)
            exact g_vret (pc := 162) C hr dX9_goesAway_162 rfl
        · refine g_aload_n (pc := 107) (i := 0) C dX9_goesAway_107 rfl rfl ?_
          refine g_iload_n (pc := 108) (i := 2) C dX9_goesAway_108 rfl rfl ?_
          refine g_callVv (pc := 109) (As := [.int (l2)]) C (kX9_leaves X σ5 b l2 hb) (blk hb 0 rfl) rfl q_21_4 q_21_5 q_21_6 q_1_5 q_21_7 ⟨rfl, hdX9_leaves⟩ ⟨Nat.le_of_ble_eq_true rfl, Nat.le_of_ble_eq_true rfl, rfl, rfl⟩ ⟨Nat.zero_le _, Nat.zero_le _⟩ (Nat.le_of_ble_eq_true rfl) rfl rfl dX9_goesAway_109 (fun σ13 _ => ?_)
          refine g_aload_n (pc := 112) (i := 0) C dX9_goesAway_112 rfl rfl ?_
          refine g_iload_n (pc := 113) (i := 3) C dX9_goesAway_113 rfl rfl ?_
          refine g_callVv (pc := 114) (As := [.int (r7)]) C (kX9_collapses X σ13 b r7 hb) (blk hb 0 rfl) rfl q_21_12 q_21_13 q_21_14 q_1_5 q_21_15 ⟨rfl, hdX9_collapses⟩ ⟨Nat.le_of_ble_eq_true rfl, Nat.le_of_ble_eq_true rfl, rfl, rfl⟩ ⟨Nat.zero_le _, Nat.zero_le _⟩ (Nat.le_of_ble_eq_true rfl) rfl rfl dX9_goesAway_114 (fun σ14 _ => ?_)
          exact g_vret (pc := 117) C hr dX9_goesAway_117 rfl
      · exact g_vret (pc := 94) C hr dX9_goesAway_94 rfl
    · refine g_aload_n (pc := 20) (i := 0) C dX9_goesAway_20 rfl rfl ?_
      refine g_iload_n (pc := 21) (i := 3) C dX9_goesAway_21 rfl rfl ?_
      refine g_iconst (pc := 22) (v := 3) C dX9_goesAway_22 (by decide) ?_
      refine g_callVi (pc := 23) (As := [.int (l3), .int (3)]) C (kX9_of X σ b l3 3 hb) (blk hb 0 rfl) rfl q_10_2 q_10_3 q_10_4 q_1_5 q_10_5 ⟨rfl, hdX9_of⟩ ⟨Nat.le_of_ble_eq_true rfl, Nat.le_of_ble_eq_true rfl, rfl, rfl⟩ ⟨Nat.zero_le _, Nat.zero_le _⟩ (Nat.le_of_ble_eq_true rfl) rfl rfl dX9_goesAway_23 (fun r15 _ => ?_)
      refine g_iload_n (pc := 26) (i := 2) C dX9_goesAway_26 rfl rfl ?_
      refine g_icmp_ne (pc := 27) (tgt := 59) C dX9_goesAway_27 rfl ?_ ?_
      · refine g_aload_n (pc := 30) (i := 0) C dX9_goesAway_30 rfl rfl ?_
        refine g_iload_n (pc := 31) (i := 3) C dX9_goesAway_31 rfl rfl ?_
        refine g_iconst (pc := 32) (v := 4) C dX9_goesAway_32 (by decide) ?_
        refine g_callVi (pc := 33) (As := [.int (l3), .int (4)]) C (kX9_of X σ b l3 4 hb) (blk hb 0 rfl) rfl q_10_2 q_10_3 q_10_4 q_1_5 q_10_5 ⟨rfl, hdX9_of⟩ ⟨Nat.le_of_ble_eq_true rfl, Nat.le_of_ble_eq_true rfl, rfl, rfl⟩ ⟨Nat.zero_le _, Nat.zero_le _⟩ (Nat.le_of_ble_eq_true rfl) rfl rfl dX9_goesAway_33 (fun r16 _ => ?_)
        refine g_aload_n (pc := 36) (i := 0) C dX9_goesAway_36 rfl rfl ?_
        refine g_iload_n (pc := 37) (i := 1) C dX9_goesAway_37 rfl rfl ?_
        refine g_iconst (pc := 38) (v := 4) C dX9_goesAway_38 (by decide) ?_
        refine g_callVi (pc := 39) (As := [.int (l1), .int (4)]) C (kX9_of X σ b l1 4 hb) (blk hb 0 rfl) rfl q_10_2 q_10_3 q_10_4 q_1_5 q_10_5 ⟨rfl, hdX9_of⟩ ⟨Nat.le_of_ble_eq_true rfl, Nat.le_of_ble_eq_true rfl, rfl, rfl⟩ ⟨Nat.zero_le _, Nat.zero_le _⟩ (Nat.le_of_ble_eq_true rfl) rfl rfl dX9_goesAway_39 (fun r17 _ => ?_)
        refine g_icmp_le (pc := 42) (tgt := 59) C dX9_goesAway_42 rfl ?_ ?_
        · refine g_keep [true, true, true, true, false] ?_
          exact bX9_goesAway_59 C hr b hb ih σ l1 l2 l3
        · refine g_aload_n (pc := 45) (i := 0) C dX9_goesAway_45 rfl rfl ?_
          refine g_iload_n (pc := 46) (i := 3) C dX9_goesAway_46 rfl rfl ?_
          refine g_iconst (pc := 47) (v := 4) C dX9_goesAway_47 (by decide) ?_
          refine g_aload_n (pc := 48) (i := 0) C dX9_goesAway_48 rfl rfl ?_
          refine g_iload_n (pc := 49) (i := 3) C dX9_goesAway_49 rfl rfl ?_
          refine g_iconst (pc := 50) (v := 4) C dX9_goesAway_50 (by decide) ?_
          refine g_callVi (pc := 51) (As := [.int (l3), .int (4)]) C (kX9_of X σ b l3 4 hb) (blk hb 0 rfl) rfl q_10_2 q_10_3 q_10_4 q_1_5 q_10_5 ⟨rfl, hdX9_of⟩ ⟨Nat.le_of_ble_eq_true rfl, Nat.le_of_ble_eq_true rfl, rfl, rfl⟩ ⟨Nat.zero_le _, Nat.zero_le _⟩ (Nat.le_of_ble_eq_true rfl) rfl rfl dX9_goesAway_51 (fun r18 _ => ?_)
          refine g_iconst (pc := 54) (v := 1) C dX9_goesAway_54 (by decide) ?_
          refine g_isub (pc := 55) C dX9_goesAway_55 ?_
          refine g_callVv (pc := 56) (As := [.int (l3), .int (4), .int (r18 - 1)]) C (kX9_put X σ b l3 4 (r18 - 1) hb) (blk hb 0 rfl) rfl q_10_19 q_10_20 q_10_21 q_1_5 q_10_22 ⟨rfl, hdX9_put⟩ ⟨Nat.le_of_ble_eq_true rfl, Nat.le_of_ble_eq_true rfl, rfl, rfl⟩ ⟨Nat.zero_le _, Nat.zero_le _⟩ (Nat.le_of_ble_eq_true rfl) rfl rfl dX9_goesAway_56 (fun σ19 _ => ?_)
          refine g_keep [true, true, true, true, false] ?_
          exact bX9_goesAway_59 C hr b hb ih σ19 l1 l2 l3
      · refine g_keep [true, true, true, true, false] ?_
        exact bX9_goesAway_59 C hr b hb ih σ l1 l2 l3
def fX9_goesAway (σ : Sg) (b : Nat) (p1 : Int32) : Option Sg :=
  (fX9_of σ b p1 3).bind fun r1 =>
  (fX9_yields σ b p1).bind fun σ2 =>
  (fX9_goesAway_14 b FU σ2 p1 r1 0)
theorem kX9_goesAway (X : Xc) (σ : Sg) (b : Nat) (p1 : Int32) (hb : moOK b) : ∀ r, fX9_goesAway σ b p1 = some r → Met X.l yX9_goesAway (wsM yX9_goesAway cX9_goesAway 5 none) rmX9_goesAway (va_Pc [.ref (X.ad b), .int p1] (PW X σ)) (Qv X r) 0 0 X.A := by
  refine mt_of (own := RX9) (lo := [some (.ref (X.ad b)), some (.int (p1)), none, none, none]) (by decide) rfl (Nat.le_of_ble_eq_true rfl) rfl (fun K C hr => ?_)
  unfold fX9_goesAway
  refine g_aload_n (pc := 0) (i := 0) C dX9_goesAway_0 rfl rfl ?_
  refine g_iload_n (pc := 1) (i := 1) C dX9_goesAway_1 rfl rfl ?_
  refine g_iconst (pc := 2) (v := 3) C dX9_goesAway_2 (by decide) ?_
  refine g_callVi (pc := 3) (As := [.int (p1), .int (3)]) C (kX9_of X σ b p1 3 hb) (blk hb 0 rfl) rfl q_10_2 q_10_3 q_10_4 q_1_5 q_10_5 ⟨rfl, hdX9_of⟩ ⟨Nat.le_of_ble_eq_true rfl, Nat.le_of_ble_eq_true rfl, rfl, rfl⟩ ⟨Nat.zero_le _, Nat.zero_le _⟩ (Nat.le_of_ble_eq_true rfl) rfl rfl dX9_goesAway_3 (fun r1 _ => ?_)
  refine g_istore_n (pc := 6) (i := 2) C dX9_goesAway_6 rfl (Nat.le_of_ble_eq_true rfl) rfl ?_
  refine g_aload_n (pc := 7) (i := 0) C dX9_goesAway_7 rfl rfl ?_
  refine g_iload_n (pc := 8) (i := 1) C dX9_goesAway_8 rfl rfl ?_
  refine g_callVv (pc := 9) (As := [.int (p1)]) C (kX9_yields X σ b p1 hb) (blk hb 0 rfl) rfl q_20_8 q_20_9 q_20_10 q_1_5 q_20_11 ⟨rfl, hdX9_yields⟩ ⟨Nat.le_of_ble_eq_true rfl, Nat.le_of_ble_eq_true rfl, rfl, rfl⟩ ⟨Nat.zero_le _, Nat.zero_le _⟩ (Nat.le_of_ble_eq_true rfl) rfl rfl dX9_goesAway_9 (fun σ2 _ => ?_)
  refine g_iconst (pc := 12) (v := 0) C dX9_goesAway_12 (by decide) ?_
  refine g_istore_n (pc := 13) (i := 3) C dX9_goesAway_13 rfl (Nat.le_of_ble_eq_true rfl) rfl ?_
  refine g_keep [true, true, true, true, false] ?_
  exact bX9_goesAway_14 C hr b hb FU σ2 p1 r1 0
theorem dX9_takes_0 : decode cX9_takes 0 = .ok (.aload_n 0, 1) := by decide +kernel
theorem dX9_takes_1 : decode cX9_takes 1 = .ok (.iload_n 1, 1) := by decide +kernel
theorem dX9_takes_2 : decode cX9_takes 2 = .ok (.invokevirtual 69, 3) := by decide +kernel
theorem dX9_takes_5 : decode cX9_takes 5 = .ok (.ifCond .eq 8, 3) := by decide +kernel
theorem dX9_takes_8 : decode cX9_takes 8 = .ok (.aload_n 0, 1) := by decide +kernel
theorem dX9_takes_9 : decode cX9_takes 9 = .ok (.iload_n 1, 1) := by decide +kernel
theorem dX9_takes_10 : decode cX9_takes 10 = .ok (.invokevirtual 135, 3) := by decide +kernel
theorem dX9_takes_13 : decode cX9_takes 13 = .ok (.return_, 1) := by decide +kernel
abbrev rmX9_takes : Room := { frames := 6, cells := 0, slots := 0, locals := 135 }
theorem hdX9_takes : yX9_takes.cls ≠ "java/lang/invoke/MethodHandle" ∧ yX9_takes.cls ≠ "java/lang/invoke/VarHandle" ∧ (parseMethodDescriptor yX9_takes.desc).map (fun d => d.parameters.length) = some 1 := by decide +kernel
def fX9_takes (σ : Sg) (b : Nat) (p1 : Int32) : Option Sg :=
  (fX9_isPlaced σ b p1).bind fun r1 =>
  if r1 = true then
    (fX9_goesAway σ b p1).bind fun σ2 =>
    some σ2
  else
    some σ
theorem kX9_takes (X : Xc) (σ : Sg) (b : Nat) (p1 : Int32) (hb : moOK b) : ∀ r, fX9_takes σ b p1 = some r → Met X.l yX9_takes (wsM yX9_takes cX9_takes 2 none) rmX9_takes (va_Pc [.ref (X.ad b), .int p1] (PW X σ)) (Qv X r) 0 0 X.A := by
  refine mt_of (own := RX9) (lo := [some (.ref (X.ad b)), some (.int (p1))]) (by decide) rfl (Nat.le_of_ble_eq_true rfl) rfl (fun K C hr => ?_)
  unfold fX9_takes
  refine g_aload_n (pc := 0) (i := 0) C dX9_takes_0 rfl rfl ?_
  refine g_iload_n (pc := 1) (i := 1) C dX9_takes_1 rfl rfl ?_
  refine g_callVi (pc := 2) (As := [.int (p1)]) C (kX9_isPlaced X σ b p1 hb) (blk hb 0 rfl) rfl q_20_0 q_20_1 q_20_2 q_1_5 q_20_3 ⟨rfl, hdX9_isPlaced⟩ ⟨Nat.le_of_ble_eq_true rfl, Nat.le_of_ble_eq_true rfl, rfl, rfl⟩ ⟨Nat.zero_le _, Nat.zero_le _⟩ (Nat.le_of_ble_eq_true rfl) rfl rfl dX9_takes_2 (fun r1 _ => ?_)
  refine g_ifb_eq (pc := 5) (tgt := 13) C dX9_takes_5 rfl ?_ ?_
  · refine g_aload_n (pc := 8) (i := 0) C dX9_takes_8 rfl rfl ?_
    refine g_iload_n (pc := 9) (i := 1) C dX9_takes_9 rfl rfl ?_
    refine g_callVv (pc := 10) (As := [.int (p1)]) C (kX9_goesAway X σ b p1 hb) (blk hb 0 rfl) rfl q_20_4 q_20_5 q_20_6 q_1_5 q_20_7 ⟨rfl, hdX9_goesAway⟩ ⟨Nat.le_of_ble_eq_true rfl, Nat.le_of_ble_eq_true rfl, rfl, rfl⟩ ⟨Nat.zero_le _, Nat.zero_le _⟩ (Nat.le_of_ble_eq_true rfl) rfl rfl dX9_takes_10 (fun σ2 _ => ?_)
    exact g_vret (pc := 13) C hr dX9_takes_13 rfl
  · exact g_vret (pc := 13) C hr dX9_takes_13 rfl
theorem dX9_settles_0 : decode cX9_settles 0 = .ok (.aload_n 0, 1) := by decide +kernel
theorem dX9_settles_1 : decode cX9_settles 1 = .ok (.iload_n 1, 1) := by decide +kernel
theorem dX9_settles_2 : decode cX9_settles 2 = .ok (.iconst 4, 1) := by decide +kernel
theorem dX9_settles_3 : decode cX9_settles 3 = .ok (.aload_n 0, 1) := by decide +kernel
theorem dX9_settles_4 : decode cX9_settles 4 = .ok (.iload_n 2, 1) := by decide +kernel
theorem dX9_settles_5 : decode cX9_settles 5 = .ok (.invokevirtual 107, 3) := by decide +kernel
theorem dX9_settles_8 : decode cX9_settles 8 = .ok (.invokevirtual 126, 3) := by decide +kernel
theorem dX9_settles_11 : decode cX9_settles 11 = .ok (.aload_n 0, 1) := by decide +kernel
theorem dX9_settles_12 : decode cX9_settles 12 = .ok (.iload_n 1, 1) := by decide +kernel
theorem dX9_settles_13 : decode cX9_settles 13 = .ok (.iconst 3, 1) := by decide +kernel
theorem dX9_settles_14 : decode cX9_settles 14 = .ok (.iload_n 2, 1) := by decide +kernel
theorem dX9_settles_15 : decode cX9_settles 15 = .ok (.invokevirtual 126, 3) := by decide +kernel
theorem dX9_settles_18 : decode cX9_settles 18 = .ok (.aload_n 0, 1) := by decide +kernel
theorem dX9_settles_19 : decode cX9_settles 19 = .ok (.iload_n 1, 1) := by decide +kernel
theorem dX9_settles_20 : decode cX9_settles 20 = .ok (.iconst 5, 1) := by decide +kernel
theorem dX9_settles_21 : decode cX9_settles 21 = .ok (.iconst 0, 1) := by decide +kernel
theorem dX9_settles_22 : decode cX9_settles 22 = .ok (.invokevirtual 126, 3) := by decide +kernel
theorem dX9_settles_25 : decode cX9_settles 25 = .ok (.aload_n 0, 1) := by decide +kernel
theorem dX9_settles_26 : decode cX9_settles 26 = .ok (.iload_n 2, 1) := by decide +kernel
theorem dX9_settles_27 : decode cX9_settles 27 = .ok (.iconst 5, 1) := by decide +kernel
theorem dX9_settles_28 : decode cX9_settles 28 = .ok (.iload_n 1, 1) := by decide +kernel
theorem dX9_settles_29 : decode cX9_settles 29 = .ok (.invokevirtual 79, 3) := by decide +kernel
theorem dX9_settles_32 : decode cX9_settles 32 = .ok (.aload_n 0, 1) := by decide +kernel
theorem dX9_settles_33 : decode cX9_settles 33 = .ok (.sipush 251, 3) := by decide +kernel
theorem dX9_settles_36 : decode cX9_settles 36 = .ok (.iload_n 1, 1) := by decide +kernel
theorem dX9_settles_37 : decode cX9_settles 37 = .ok (.invokevirtual 138, 3) := by decide +kernel
theorem dX9_settles_40 : decode cX9_settles 40 = .ok (.return_, 1) := by decide +kernel
abbrev rmX9_settles : Room := { frames := 4, cells := 0, slots := 0, locals := 92 }
theorem hdX9_settles : yX9_settles.cls ≠ "java/lang/invoke/MethodHandle" ∧ yX9_settles.cls ≠ "java/lang/invoke/VarHandle" ∧ (parseMethodDescriptor yX9_settles.desc).map (fun d => d.parameters.length) = some 2 := by decide +kernel
def fX9_settles (σ : Sg) (b : Nat) (p1 : Int32) (p2 : Int32) : Option Sg :=
  (fX9_tabMany σ b p2).bind fun r1 =>
  (fX9_put σ b p1 4 r1).bind fun σ2 =>
  (fX9_put σ2 b p1 3 p2).bind fun σ3 =>
  (fX9_put σ3 b p1 5 0).bind fun σ4 =>
  (fX9_lay σ4 b p2 5 p1).bind fun σ5 =>
  (fX9_comesFirst σ5 b 251 p1).bind fun σ6 =>
  some σ6
theorem kX9_settles (X : Xc) (σ : Sg) (b : Nat) (p1 : Int32) (p2 : Int32) (hb : moOK b) : ∀ r, fX9_settles σ b p1 p2 = some r → Met X.l yX9_settles (wsM yX9_settles cX9_settles 3 none) rmX9_settles (va_Pc [.ref (X.ad b), .int p1, .int p2] (PW X σ)) (Qv X r) 0 0 X.A := by
  refine mt_of (own := RX9) (lo := [some (.ref (X.ad b)), some (.int (p1)), some (.int (p2))]) (by decide) rfl (Nat.le_of_ble_eq_true rfl) rfl (fun K C hr => ?_)
  unfold fX9_settles
  refine g_aload_n (pc := 0) (i := 0) C dX9_settles_0 rfl rfl ?_
  refine g_iload_n (pc := 1) (i := 1) C dX9_settles_1 rfl rfl ?_
  refine g_iconst (pc := 2) (v := 4) C dX9_settles_2 (by decide) ?_
  refine g_aload_n (pc := 3) (i := 0) C dX9_settles_3 rfl rfl ?_
  refine g_iload_n (pc := 4) (i := 2) C dX9_settles_4 rfl rfl ?_
  refine g_callVi (pc := 5) (As := [.int (p2)]) C (kX9_tabMany X σ b p2 hb) (blk hb 0 rfl) rfl q_20_16 q_20_17 q_20_18 q_1_5 q_20_19 ⟨rfl, hdX9_tabMany⟩ ⟨Nat.le_of_ble_eq_true rfl, Nat.le_of_ble_eq_true rfl, rfl, rfl⟩ ⟨Nat.zero_le _, Nat.zero_le _⟩ (Nat.le_of_ble_eq_true rfl) rfl rfl dX9_settles_5 (fun r1 _ => ?_)
  refine g_callVv (pc := 8) (As := [.int (p1), .int (4), .int (r1)]) C (kX9_put X σ b p1 4 r1 hb) (blk hb 0 rfl) rfl q_10_19 q_10_20 q_10_21 q_1_5 q_10_22 ⟨rfl, hdX9_put⟩ ⟨Nat.le_of_ble_eq_true rfl, Nat.le_of_ble_eq_true rfl, rfl, rfl⟩ ⟨Nat.zero_le _, Nat.zero_le _⟩ (Nat.le_of_ble_eq_true rfl) rfl rfl dX9_settles_8 (fun σ2 _ => ?_)
  refine g_aload_n (pc := 11) (i := 0) C dX9_settles_11 rfl rfl ?_
  refine g_iload_n (pc := 12) (i := 1) C dX9_settles_12 rfl rfl ?_
  refine g_iconst (pc := 13) (v := 3) C dX9_settles_13 (by decide) ?_
  refine g_iload_n (pc := 14) (i := 2) C dX9_settles_14 rfl rfl ?_
  refine g_callVv (pc := 15) (As := [.int (p1), .int (3), .int (p2)]) C (kX9_put X σ2 b p1 3 p2 hb) (blk hb 0 rfl) rfl q_10_19 q_10_20 q_10_21 q_1_5 q_10_22 ⟨rfl, hdX9_put⟩ ⟨Nat.le_of_ble_eq_true rfl, Nat.le_of_ble_eq_true rfl, rfl, rfl⟩ ⟨Nat.zero_le _, Nat.zero_le _⟩ (Nat.le_of_ble_eq_true rfl) rfl rfl dX9_settles_15 (fun σ3 _ => ?_)
  refine g_aload_n (pc := 18) (i := 0) C dX9_settles_18 rfl rfl ?_
  refine g_iload_n (pc := 19) (i := 1) C dX9_settles_19 rfl rfl ?_
  refine g_iconst (pc := 20) (v := 5) C dX9_settles_20 (by decide) ?_
  refine g_iconst (pc := 21) (v := 0) C dX9_settles_21 (by decide) ?_
  refine g_callVv (pc := 22) (As := [.int (p1), .int (5), .int (0)]) C (kX9_put X σ3 b p1 5 0 hb) (blk hb 0 rfl) rfl q_10_19 q_10_20 q_10_21 q_1_5 q_10_22 ⟨rfl, hdX9_put⟩ ⟨Nat.le_of_ble_eq_true rfl, Nat.le_of_ble_eq_true rfl, rfl, rfl⟩ ⟨Nat.zero_le _, Nat.zero_le _⟩ (Nat.le_of_ble_eq_true rfl) rfl rfl dX9_settles_22 (fun σ4 _ => ?_)
  refine g_aload_n (pc := 25) (i := 0) C dX9_settles_25 rfl rfl ?_
  refine g_iload_n (pc := 26) (i := 2) C dX9_settles_26 rfl rfl ?_
  refine g_iconst (pc := 27) (v := 5) C dX9_settles_27 (by decide) ?_
  refine g_iload_n (pc := 28) (i := 1) C dX9_settles_28 rfl rfl ?_
  refine g_callVv (pc := 29) (As := [.int (p2), .int (5), .int (p1)]) C (kX9_lay X σ4 b p2 5 p1 hb) (blk hb 0 rfl) rfl q_21_0 q_21_1 q_21_2 q_1_5 q_21_3 ⟨rfl, hdX9_lay⟩ ⟨Nat.le_of_ble_eq_true rfl, Nat.le_of_ble_eq_true rfl, rfl, rfl⟩ ⟨Nat.zero_le _, Nat.zero_le _⟩ (Nat.le_of_ble_eq_true rfl) rfl rfl dX9_settles_29 (fun σ5 _ => ?_)
  refine g_aload_n (pc := 32) (i := 0) C dX9_settles_32 rfl rfl ?_
  refine g_sipush (pc := 33) (v := 251) C dX9_settles_33 (by decide) ?_
  refine g_iload_n (pc := 36) (i := 1) C dX9_settles_36 rfl rfl ?_
  refine g_callVv (pc := 37) (As := [.int (251), .int (p1)]) C (kX9_comesFirst X σ5 b 251 p1 hb) (blk hb 0 rfl) rfl q_35_14 q_35_15 q_35_16 q_1_5 q_35_17 ⟨rfl, hdX9_comesFirst⟩ ⟨Nat.le_of_ble_eq_true rfl, Nat.le_of_ble_eq_true rfl, rfl, rfl⟩ ⟨Nat.zero_le _, Nat.zero_le _⟩ (Nat.le_of_ble_eq_true rfl) rfl rfl dX9_settles_37 (fun σ6 _ => ?_)
  exact g_vret (pc := 40) C hr dX9_settles_40 rfl
theorem dX9_leavesFocus_0 : decode cX9_leavesFocus 0 = .ok (.iconst 0, 1) := by decide +kernel
theorem dX9_leavesFocus_1 : decode cX9_leavesFocus 1 = .ok (.istore_n 1, 1) := by decide +kernel
theorem dX9_leavesFocus_2 : decode cX9_leavesFocus 2 = .ok (.iload_n 1, 1) := by decide +kernel
theorem dX9_leavesFocus_3 : decode cX9_leavesFocus 3 = .ok (.bipush 12, 2) := by decide +kernel
theorem dX9_leavesFocus_5 : decode cX9_leavesFocus 5 = .ok (.if_icmp .ge 25, 3) := by decide +kernel
theorem dX9_leavesFocus_8 : decode cX9_leavesFocus 8 = .ok (.aload_n 0, 1) := by decide +kernel
theorem dX9_leavesFocus_9 : decode cX9_leavesFocus 9 = .ok (.iload_n 1, 1) := by decide +kernel
theorem dX9_leavesFocus_10 : decode cX9_leavesFocus 10 = .ok (.invokevirtual 69, 3) := by decide +kernel
theorem dX9_leavesFocus_13 : decode cX9_leavesFocus 13 = .ok (.ifCond .ne 11, 3) := by decide +kernel
theorem dX9_leavesFocus_16 : decode cX9_leavesFocus 16 = .ok (.aload_n 0, 1) := by decide +kernel
theorem dX9_leavesFocus_17 : decode cX9_leavesFocus 17 = .ok (.sipush 251, 3) := by decide +kernel
theorem dX9_leavesFocus_20 : decode cX9_leavesFocus 20 = .ok (.iload_n 1, 1) := by decide +kernel
theorem dX9_leavesFocus_21 : decode cX9_leavesFocus 21 = .ok (.invokevirtual 100, 3) := by decide +kernel
theorem dX9_leavesFocus_24 : decode cX9_leavesFocus 24 = .ok (.iinc 1 1, 3) := by decide +kernel
theorem dX9_leavesFocus_27 : decode cX9_leavesFocus 27 = .ok (.goto (-25), 3) := by decide +kernel
theorem dX9_leavesFocus_30 : decode cX9_leavesFocus 30 = .ok (.return_, 1) := by decide +kernel
abbrev rmX9_leavesFocus : Room := { frames := 2, cells := 0, slots := 0, locals := 47 }
theorem hdX9_leavesFocus : yX9_leavesFocus.cls ≠ "java/lang/invoke/MethodHandle" ∧ yX9_leavesFocus.cls ≠ "java/lang/invoke/VarHandle" ∧ (parseMethodDescriptor yX9_leavesFocus.desc).map (fun d => d.parameters.length) = some 0 := by decide +kernel
def fX9_leavesFocus_24 (b : Nat) (k2 : Sg → Int32 → Option Sg) (σ : Sg) (l1 : Int32) : Option Sg :=
  (k2 σ (l1 + 1))
theorem bX9_leavesFocus_24 {X : Xc} {K : Kc} (C : MC X K cX9_leavesFocus 2 RX9 rmX9_leavesFocus) (hr : K.meth.sig.returnType = none) (b : Nat) (hb : moOK b){k2 : Sg → Int32 → Option Sg} (hk2 : ∀ (σ : Sg) (l1 : Int32), GO X K 2 (fun r => MQv X K r) (k2 σ l1) σ 0 0 2 [some (.ref (X.ad b)), some (.int (l1))] []) (σ : Sg) (l1 : Int32) : GO X K 2 (fun r => MQv X K r) (fX9_leavesFocus_24 b k2 σ l1) σ 0 0 24 [some (.ref (X.ad b)), some (.int (l1))] [] := by
  unfold fX9_leavesFocus_24
  refine g_iinc (pc := 24) (v := l1 + 1) C dX9_leavesFocus_24 rfl (rfl) (Nat.le_of_ble_eq_true rfl) rfl ?_
  refine g_goto (pc := 27) (tgt := 2) C dX9_leavesFocus_27 rfl ?_
  refine g_keep [true, true] ?_
  exact hk2 σ (l1 + 1)
def fX9_leavesFocus_2 (b : Nat) : Nat → Sg → Int32 → Option Sg
  | 0, _, _ => none
  | n + 1, σ, l1 =>
    if 12 ≤ l1 then
      some σ
    else
      (fX9_isPlaced σ b l1).bind fun r1 =>
      if r1 = true then
        (fX9_leavesFocus_24 b (fX9_leavesFocus_2 b n) σ l1)
      else
        (fX9_dropsFrom σ b 251 l1).bind fun σ2 =>
        (fX9_leavesFocus_24 b (fX9_leavesFocus_2 b n) σ2 l1)
theorem bX9_leavesFocus_2 {X : Xc} {K : Kc} (C : MC X K cX9_leavesFocus 2 RX9 rmX9_leavesFocus) (hr : K.meth.sig.returnType = none) (b : Nat) (hb : moOK b) : ∀ (n : Nat) (σ : Sg) (l1 : Int32), GO X K 2 (fun r => MQv X K r) (fX9_leavesFocus_2 b n σ l1) σ 0 0 2 [some (.ref (X.ad b)), some (.int (l1))] [] := by
  intro n
  induction n with
  | zero =>
    intro σ l1
    exact g_none
  | succ n ih =>
    intro σ l1
    unfold fX9_leavesFocus_2
    refine g_iload_n (pc := 2) (i := 1) C dX9_leavesFocus_2 rfl rfl ?_
    refine g_bipush (pc := 3) (v := 12) C dX9_leavesFocus_3 (by decide) ?_
    refine g_icmp_ge (pc := 5) (tgt := 30) C dX9_leavesFocus_5 rfl ?_ ?_
    · exact g_vret (pc := 30) C hr dX9_leavesFocus_30 rfl
    · refine g_aload_n (pc := 8) (i := 0) C dX9_leavesFocus_8 rfl rfl ?_
      refine g_iload_n (pc := 9) (i := 1) C dX9_leavesFocus_9 rfl rfl ?_
      refine g_callVi (pc := 10) (As := [.int (l1)]) C (kX9_isPlaced X σ b l1 hb) (blk hb 0 rfl) rfl q_20_0 q_20_1 q_20_2 q_1_5 q_20_3 ⟨rfl, hdX9_isPlaced⟩ ⟨Nat.le_of_ble_eq_true rfl, Nat.le_of_ble_eq_true rfl, rfl, rfl⟩ ⟨Nat.zero_le _, Nat.zero_le _⟩ (Nat.le_of_ble_eq_true rfl) rfl rfl dX9_leavesFocus_10 (fun r1 _ => ?_)
      refine g_ifb_ne (pc := 13) (tgt := 24) C dX9_leavesFocus_13 rfl ?_ ?_
      · refine g_keep [true, true] ?_
        exact bX9_leavesFocus_24 C hr b hb ih σ l1
      · refine g_aload_n (pc := 16) (i := 0) C dX9_leavesFocus_16 rfl rfl ?_
        refine g_sipush (pc := 17) (v := 251) C dX9_leavesFocus_17 (by decide) ?_
        refine g_iload_n (pc := 20) (i := 1) C dX9_leavesFocus_20 rfl rfl ?_
        refine g_callVv (pc := 21) (As := [.int (251), .int (l1)]) C (kX9_dropsFrom X σ b 251 l1 hb) (blk hb 0 rfl) rfl q_22_20 q_22_21 q_22_22 q_1_5 q_22_23 ⟨rfl, hdX9_dropsFrom⟩ ⟨Nat.le_of_ble_eq_true rfl, Nat.le_of_ble_eq_true rfl, rfl, rfl⟩ ⟨Nat.zero_le _, Nat.zero_le _⟩ (Nat.le_of_ble_eq_true rfl) rfl rfl dX9_leavesFocus_21 (fun σ2 _ => ?_)
        refine g_keep [true, true] ?_
        exact bX9_leavesFocus_24 C hr b hb ih σ2 l1
def fX9_leavesFocus (σ : Sg) (b : Nat) : Option Sg :=
  (fX9_leavesFocus_2 b FU σ 0)
theorem kX9_leavesFocus (X : Xc) (σ : Sg) (b : Nat) (hb : moOK b) : ∀ r, fX9_leavesFocus σ b = some r → Met X.l yX9_leavesFocus (wsM yX9_leavesFocus cX9_leavesFocus 2 none) rmX9_leavesFocus (va_Pc [.ref (X.ad b)] (PW X σ)) (Qv X r) 0 0 X.A := by
  refine mt_of (own := RX9) (lo := [some (.ref (X.ad b)), none]) (by decide) rfl (Nat.le_of_ble_eq_true rfl) rfl (fun K C hr => ?_)
  unfold fX9_leavesFocus
  refine g_iconst (pc := 0) (v := 0) C dX9_leavesFocus_0 (by decide) ?_
  refine g_istore_n (pc := 1) (i := 1) C dX9_leavesFocus_1 rfl (Nat.le_of_ble_eq_true rfl) rfl ?_
  refine g_keep [true, true] ?_
  exact bX9_leavesFocus_2 C hr b hb FU σ 0
theorem dX9_create_0 : decode cX9_create 0 = .ok (.iconst 0, 1) := by decide +kernel
theorem dX9_create_1 : decode cX9_create 1 = .ok (.istore_n 3, 1) := by decide +kernel
theorem dX9_create_2 : decode cX9_create 2 = .ok (.iload_n 3, 1) := by decide +kernel
theorem dX9_create_3 : decode cX9_create 3 = .ok (.bipush 12, 2) := by decide +kernel
theorem dX9_create_5 : decode cX9_create 5 = .ok (.if_icmp .ge 19, 3) := by decide +kernel
theorem dX9_create_8 : decode cX9_create 8 = .ok (.aload_n 0, 1) := by decide +kernel
theorem dX9_create_9 : decode cX9_create 9 = .ok (.iload_n 3, 1) := by decide +kernel
theorem dX9_create_10 : decode cX9_create 10 = .ok (.iconst 0, 1) := by decide +kernel
theorem dX9_create_11 : decode cX9_create 11 = .ok (.invokevirtual 65, 3) := by decide +kernel
theorem dX9_create_14 : decode cX9_create 14 = .ok (.iconst 1, 1) := by decide +kernel
theorem dX9_create_15 : decode cX9_create 15 = .ok (.if_icmp .ne 9, 3) := by decide +kernel
theorem dX9_create_18 : decode cX9_create 18 = .ok (.iinc 3 1, 3) := by decide +kernel
theorem dX9_create_21 : decode cX9_create 21 = .ok (.goto (-19), 3) := by decide +kernel
theorem dX9_create_24 : decode cX9_create 24 = .ok (.aload_n 0, 1) := by decide +kernel
theorem dX9_create_25 : decode cX9_create 25 = .ok (.iload_n 1, 1) := by decide +kernel
theorem dX9_create_26 : decode cX9_create 26 = .ok (.iconst 1, 1) := by decide +kernel
theorem dX9_create_27 : decode cX9_create 27 = .ok (.bipush 40, 2) := by decide +kernel
theorem dX9_create_29 : decode cX9_create 29 = .ok (.invokestatic 61, 3) := by decide +kernel
theorem dX9_create_32 : decode cX9_create 32 = .ok (.ifCond .eq 13, 3) := by decide +kernel
theorem dX9_create_35 : decode cX9_create 35 = .ok (.iload_n 2, 1) := by decide +kernel
theorem dX9_create_36 : decode cX9_create 36 = .ok (.iconst 1, 1) := by decide +kernel
theorem dX9_create_37 : decode cX9_create 37 = .ok (.bipush 40, 2) := by decide +kernel
theorem dX9_create_39 : decode cX9_create 39 = .ok (.invokestatic 61, 3) := by decide +kernel
theorem dX9_create_42 : decode cX9_create 42 = .ok (.ifCond .ne 7, 3) := by decide +kernel
theorem dX9_create_45 : decode cX9_create 45 = .ok (.iconst 1, 1) := by decide +kernel
theorem dX9_create_46 : decode cX9_create 46 = .ok (.goto 14, 3) := by decide +kernel
theorem dX9_create_49 : decode cX9_create 49 = .ok (.iload_n 3, 1) := by decide +kernel
theorem dX9_create_50 : decode cX9_create 50 = .ok (.bipush 12, 2) := by decide +kernel
theorem dX9_create_52 : decode cX9_create 52 = .ok (.if_icmp .ne 7, 3) := by decide +kernel
theorem dX9_create_55 : decode cX9_create 55 = .ok (.iconst 2, 1) := by decide +kernel
theorem dX9_create_56 : decode cX9_create 56 = .ok (.goto 4, 3) := by decide +kernel
theorem dX9_create_59 : decode cX9_create 59 = .ok (.iconst 0, 1) := by decide +kernel
theorem dX9_create_60 : decode cX9_create 60 = .ok (.invokevirtual 57, 3) := by decide +kernel
theorem dX9_create_63 : decode cX9_create 63 = .ok (.ifCond .eq 5, 3) := by decide +kernel
theorem dX9_create_66 : decode cX9_create 66 = .ok (.iconst 0, 1) := by decide +kernel
theorem dX9_create_67 : decode cX9_create 67 = .ok (.ireturn, 1) := by decide +kernel
theorem dX9_create_68 : decode cX9_create 68 = .ok (.aload_n 0, 1) := by decide +kernel
theorem dX9_create_69 : decode cX9_create 69 = .ok (.invokevirtual 141, 3) := by decide +kernel
theorem dX9_create_72 : decode cX9_create 72 = .ok (.aload_n 0, 1) := by decide +kernel
theorem dX9_create_73 : decode cX9_create 73 = .ok (.iload_n 3, 1) := by decide +kernel
theorem dX9_create_74 : decode cX9_create 74 = .ok (.iconst 0, 1) := by decide +kernel
theorem dX9_create_75 : decode cX9_create 75 = .ok (.iconst 1, 1) := by decide +kernel
theorem dX9_create_76 : decode cX9_create 76 = .ok (.invokevirtual 126, 3) := by decide +kernel
theorem dX9_create_79 : decode cX9_create 79 = .ok (.aload_n 0, 1) := by decide +kernel
theorem dX9_create_80 : decode cX9_create 80 = .ok (.iload_n 3, 1) := by decide +kernel
theorem dX9_create_81 : decode cX9_create 81 = .ok (.iconst 1, 1) := by decide +kernel
theorem dX9_create_82 : decode cX9_create 82 = .ok (.iload_n 1, 1) := by decide +kernel
theorem dX9_create_83 : decode cX9_create 83 = .ok (.invokevirtual 126, 3) := by decide +kernel
theorem dX9_create_86 : decode cX9_create 86 = .ok (.aload_n 0, 1) := by decide +kernel
theorem dX9_create_87 : decode cX9_create 87 = .ok (.iload_n 3, 1) := by decide +kernel
theorem dX9_create_88 : decode cX9_create 88 = .ok (.iconst 2, 1) := by decide +kernel
theorem dX9_create_89 : decode cX9_create 89 = .ok (.iload_n 2, 1) := by decide +kernel
theorem dX9_create_90 : decode cX9_create 90 = .ok (.invokevirtual 126, 3) := by decide +kernel
theorem dX9_create_93 : decode cX9_create 93 = .ok (.iload_n 3, 1) := by decide +kernel
theorem dX9_create_94 : decode cX9_create 94 = .ok (.ireturn, 1) := by decide +kernel
abbrev rmX9_create : Room := { frames := 1, cells := 0, slots := 0, locals := 23 }
theorem hdX9_create : yX9_create.cls ≠ "java/lang/invoke/MethodHandle" ∧ yX9_create.cls ≠ "java/lang/invoke/VarHandle" ∧ (parseMethodDescriptor yX9_create.desc).map (fun d => d.parameters.length) = some 2 := by decide +kernel
def fX9_create_60 (b : Nat) (σ : Sg) (l1 : Int32) (l2 : Int32) (l3 : Int32) (s1 : Int32) : Option (Int32 × Sg) :=
  (fX9_refused σ b s1).bind fun r4 =>
  if r4.1 = true then
    some (0, r4.2)
  else
    (fX9_saves r4.2 b).bind fun σ5 =>
    (fX9_put σ5 b l3 0 1).bind fun σ6 =>
    (fX9_put σ6 b l3 1 l1).bind fun σ7 =>
    (fX9_put σ7 b l3 2 l2).bind fun σ8 =>
    some (l3, σ8)
theorem bX9_create_60 {X : Xc} {K : Kc} (C : MC X K cX9_create 4 RX9 rmX9_create) (hr : K.meth.sig.returnType = (some .int)) (b : Nat) (hb : moOK b) (σ : Sg) (l1 : Int32) (l2 : Int32) (l3 : Int32) (s1 : Int32) : GO X K 4 (fun r => MQi X K r.1 r.2) (fX9_create_60 b σ l1 l2 l3 s1) σ 0 0 60 [some (.ref (X.ad b)), some (.int (l1)), some (.int (l2)), some (.int (l3))] [.int (s1), .ref (X.ad b)] := by
  unfold fX9_create_60
  refine g_callVi (pc := 60) (As := [.int (s1)]) C (kX9_refused X σ b s1 hb) (blk hb 0 rfl) rfl q_10_9 q_10_10 q_10_11 q_1_5 q_10_12 ⟨rfl, hdX9_refused⟩ ⟨Nat.le_of_ble_eq_true rfl, Nat.le_of_ble_eq_true rfl, rfl, rfl⟩ ⟨Nat.zero_le _, Nat.zero_le _⟩ (Nat.le_of_ble_eq_true rfl) rfl rfl dX9_create_60 (fun r4 _ => ?_)
  refine g_ifb_eq (pc := 63) (tgt := 68) C dX9_create_63 rfl ?_ ?_
  · refine g_iconst (pc := 66) (v := 0) C dX9_create_66 (by decide) ?_
    exact g_iret (pc := 67) C hr dX9_create_67 rfl
  · refine g_aload_n (pc := 68) (i := 0) C dX9_create_68 rfl rfl ?_
    refine g_callVv (pc := 69) (As := []) C (kX9_saves X r4.2 b hb) (blk hb 0 rfl) rfl q_10_14 q_10_15 q_10_16 q_1_5 q_10_17 ⟨rfl, hdX9_saves⟩ ⟨Nat.le_of_ble_eq_true rfl, Nat.le_of_ble_eq_true rfl, rfl, rfl⟩ ⟨Nat.zero_le _, Nat.zero_le _⟩ (Nat.le_of_ble_eq_true rfl) rfl rfl dX9_create_69 (fun σ5 _ => ?_)
    refine g_aload_n (pc := 72) (i := 0) C dX9_create_72 rfl rfl ?_
    refine g_iload_n (pc := 73) (i := 3) C dX9_create_73 rfl rfl ?_
    refine g_iconst (pc := 74) (v := 0) C dX9_create_74 (by decide) ?_
    refine g_iconst (pc := 75) (v := 1) C dX9_create_75 (by decide) ?_
    refine g_callVv (pc := 76) (As := [.int (l3), .int (0), .int (1)]) C (kX9_put X σ5 b l3 0 1 hb) (blk hb 0 rfl) rfl q_10_19 q_10_20 q_10_21 q_1_5 q_10_22 ⟨rfl, hdX9_put⟩ ⟨Nat.le_of_ble_eq_true rfl, Nat.le_of_ble_eq_true rfl, rfl, rfl⟩ ⟨Nat.zero_le _, Nat.zero_le _⟩ (Nat.le_of_ble_eq_true rfl) rfl rfl dX9_create_76 (fun σ6 _ => ?_)
    refine g_aload_n (pc := 79) (i := 0) C dX9_create_79 rfl rfl ?_
    refine g_iload_n (pc := 80) (i := 3) C dX9_create_80 rfl rfl ?_
    refine g_iconst (pc := 81) (v := 1) C dX9_create_81 (by decide) ?_
    refine g_iload_n (pc := 82) (i := 1) C dX9_create_82 rfl rfl ?_
    refine g_callVv (pc := 83) (As := [.int (l3), .int (1), .int (l1)]) C (kX9_put X σ6 b l3 1 l1 hb) (blk hb 0 rfl) rfl q_10_19 q_10_20 q_10_21 q_1_5 q_10_22 ⟨rfl, hdX9_put⟩ ⟨Nat.le_of_ble_eq_true rfl, Nat.le_of_ble_eq_true rfl, rfl, rfl⟩ ⟨Nat.zero_le _, Nat.zero_le _⟩ (Nat.le_of_ble_eq_true rfl) rfl rfl dX9_create_83 (fun σ7 _ => ?_)
    refine g_aload_n (pc := 86) (i := 0) C dX9_create_86 rfl rfl ?_
    refine g_iload_n (pc := 87) (i := 3) C dX9_create_87 rfl rfl ?_
    refine g_iconst (pc := 88) (v := 2) C dX9_create_88 (by decide) ?_
    refine g_iload_n (pc := 89) (i := 2) C dX9_create_89 rfl rfl ?_
    refine g_callVv (pc := 90) (As := [.int (l3), .int (2), .int (l2)]) C (kX9_put X σ7 b l3 2 l2 hb) (blk hb 0 rfl) rfl q_10_19 q_10_20 q_10_21 q_1_5 q_10_22 ⟨rfl, hdX9_put⟩ ⟨Nat.le_of_ble_eq_true rfl, Nat.le_of_ble_eq_true rfl, rfl, rfl⟩ ⟨Nat.zero_le _, Nat.zero_le _⟩ (Nat.le_of_ble_eq_true rfl) rfl rfl dX9_create_90 (fun σ8 _ => ?_)
    refine g_iload_n (pc := 93) (i := 3) C dX9_create_93 rfl rfl ?_
    exact g_iret (pc := 94) C hr dX9_create_94 rfl
def fX9_create_45 (b : Nat) (σ : Sg) (l1 : Int32) (l2 : Int32) (l3 : Int32) : Option (Int32 × Sg) :=
  (fX9_create_60 b σ l1 l2 l3 1)
theorem bX9_create_45 {X : Xc} {K : Kc} (C : MC X K cX9_create 4 RX9 rmX9_create) (hr : K.meth.sig.returnType = (some .int)) (b : Nat) (hb : moOK b) (σ : Sg) (l1 : Int32) (l2 : Int32) (l3 : Int32) : GO X K 4 (fun r => MQi X K r.1 r.2) (fX9_create_45 b σ l1 l2 l3) σ 0 0 45 [some (.ref (X.ad b)), some (.int (l1)), some (.int (l2)), some (.int (l3))] [.ref (X.ad b)] := by
  unfold fX9_create_45
  refine g_iconst (pc := 45) (v := 1) C dX9_create_45 (by decide) ?_
  refine g_goto (pc := 46) (tgt := 60) C dX9_create_46 rfl ?_
  refine g_keep [true, true, true, true] ?_
  exact bX9_create_60 C hr b hb σ l1 l2 l3 1
def fX9_create_24 (b : Nat) (σ : Sg) (l1 : Int32) (l2 : Int32) (l3 : Int32) : Option (Int32 × Sg) :=
  (fX9_within σ l1 1 40).bind fun r2 =>
  if r2 = true then
    (fX9_within σ l2 1 40).bind fun r3 =>
    if r3 = true then
      if l3 = 12 then
        (fX9_create_60 b σ l1 l2 l3 2)
      else
        (fX9_create_60 b σ l1 l2 l3 0)
    else
      (fX9_create_45 b σ l1 l2 l3)
  else
    (fX9_create_45 b σ l1 l2 l3)
theorem bX9_create_24 {X : Xc} {K : Kc} (C : MC X K cX9_create 4 RX9 rmX9_create) (hr : K.meth.sig.returnType = (some .int)) (b : Nat) (hb : moOK b) (σ : Sg) (l1 : Int32) (l2 : Int32) (l3 : Int32) : GO X K 4 (fun r => MQi X K r.1 r.2) (fX9_create_24 b σ l1 l2 l3) σ 0 0 24 [some (.ref (X.ad b)), some (.int (l1)), some (.int (l2)), some (.int (l3))] [] := by
  unfold fX9_create_24
  refine g_aload_n (pc := 24) (i := 0) C dX9_create_24 rfl rfl ?_
  refine g_iload_n (pc := 25) (i := 1) C dX9_create_25 rfl rfl ?_
  refine g_iconst (pc := 26) (v := 1) C dX9_create_26 (by decide) ?_
  refine g_bipush (pc := 27) (v := 40) C dX9_create_27 (by decide) ?_
  refine g_callSi (pc := 29) (As := [.int (l1), .int (1), .int (40)]) C (kX9_within X σ l1 1 40) q_10_6 q_10_7 q_1_5 q_10_8 hdX9_within ⟨Nat.le_of_ble_eq_true rfl, Nat.le_of_ble_eq_true rfl, rfl, rfl⟩ ⟨Nat.zero_le _, Nat.zero_le _⟩ (Nat.le_of_ble_eq_true rfl) rfl rfl dX9_create_29 (fun r2 _ => ?_)
  refine g_ifb_eq (pc := 32) (tgt := 45) C dX9_create_32 rfl ?_ ?_
  · refine g_iload_n (pc := 35) (i := 2) C dX9_create_35 rfl rfl ?_
    refine g_iconst (pc := 36) (v := 1) C dX9_create_36 (by decide) ?_
    refine g_bipush (pc := 37) (v := 40) C dX9_create_37 (by decide) ?_
    refine g_callSi (pc := 39) (As := [.int (l2), .int (1), .int (40)]) C (kX9_within X σ l2 1 40) q_10_6 q_10_7 q_1_5 q_10_8 hdX9_within ⟨Nat.le_of_ble_eq_true rfl, Nat.le_of_ble_eq_true rfl, rfl, rfl⟩ ⟨Nat.zero_le _, Nat.zero_le _⟩ (Nat.le_of_ble_eq_true rfl) rfl rfl dX9_create_39 (fun r3 _ => ?_)
    refine g_ifb_ne (pc := 42) (tgt := 49) C dX9_create_42 rfl ?_ ?_
    · refine g_iload_n (pc := 49) (i := 3) C dX9_create_49 rfl rfl ?_
      refine g_bipush (pc := 50) (v := 12) C dX9_create_50 (by decide) ?_
      refine g_icmp_ne (pc := 52) (tgt := 59) C dX9_create_52 rfl ?_ ?_
      · refine g_iconst (pc := 55) (v := 2) C dX9_create_55 (by decide) ?_
        refine g_goto (pc := 56) (tgt := 60) C dX9_create_56 rfl ?_
        refine g_keep [true, true, true, true] ?_
        exact bX9_create_60 C hr b hb σ l1 l2 l3 2
      · refine g_iconst (pc := 59) (v := 0) C dX9_create_59 (by decide) ?_
        refine g_keep [true, true, true, true] ?_
        exact bX9_create_60 C hr b hb σ l1 l2 l3 0
    · refine g_keep [true, true, true, true] ?_
      exact bX9_create_45 C hr b hb σ l1 l2 l3
  · refine g_keep [true, true, true, true] ?_
    exact bX9_create_45 C hr b hb σ l1 l2 l3
def fX9_create_2 (b : Nat) : Nat → Sg → Int32 → Int32 → Int32 → Option (Int32 × Sg)
  | 0, _, _, _, _ => none
  | n + 1, σ, l1, l2, l3 =>
    if 12 ≤ l3 then
      (fX9_create_24 b σ l1 l2 l3)
    else
      (fX9_of σ b l3 0).bind fun r1 =>
      if r1 = 1 then
        ((fX9_create_2 b n) σ l1 l2 (l3 + 1))
      else
        (fX9_create_24 b σ l1 l2 l3)
theorem bX9_create_2 {X : Xc} {K : Kc} (C : MC X K cX9_create 4 RX9 rmX9_create) (hr : K.meth.sig.returnType = (some .int)) (b : Nat) (hb : moOK b) : ∀ (n : Nat) (σ : Sg) (l1 : Int32) (l2 : Int32) (l3 : Int32), GO X K 4 (fun r => MQi X K r.1 r.2) (fX9_create_2 b n σ l1 l2 l3) σ 0 0 2 [some (.ref (X.ad b)), some (.int (l1)), some (.int (l2)), some (.int (l3))] [] := by
  intro n
  induction n with
  | zero =>
    intro σ l1 l2 l3
    exact g_none
  | succ n ih =>
    intro σ l1 l2 l3
    unfold fX9_create_2
    refine g_iload_n (pc := 2) (i := 3) C dX9_create_2 rfl rfl ?_
    refine g_bipush (pc := 3) (v := 12) C dX9_create_3 (by decide) ?_
    refine g_icmp_ge (pc := 5) (tgt := 24) C dX9_create_5 rfl ?_ ?_
    · refine g_keep [true, true, true, true] ?_
      exact bX9_create_24 C hr b hb σ l1 l2 l3
    · refine g_aload_n (pc := 8) (i := 0) C dX9_create_8 rfl rfl ?_
      refine g_iload_n (pc := 9) (i := 3) C dX9_create_9 rfl rfl ?_
      refine g_iconst (pc := 10) (v := 0) C dX9_create_10 (by decide) ?_
      refine g_callVi (pc := 11) (As := [.int (l3), .int (0)]) C (kX9_of X σ b l3 0 hb) (blk hb 0 rfl) rfl q_10_2 q_10_3 q_10_4 q_1_5 q_10_5 ⟨rfl, hdX9_of⟩ ⟨Nat.le_of_ble_eq_true rfl, Nat.le_of_ble_eq_true rfl, rfl, rfl⟩ ⟨Nat.zero_le _, Nat.zero_le _⟩ (Nat.le_of_ble_eq_true rfl) rfl rfl dX9_create_11 (fun r1 _ => ?_)
      refine g_iconst (pc := 14) (v := 1) C dX9_create_14 (by decide) ?_
      refine g_icmp_ne (pc := 15) (tgt := 24) C dX9_create_15 rfl ?_ ?_
      · refine g_iinc (pc := 18) (v := l3 + 1) C dX9_create_18 rfl (rfl) (Nat.le_of_ble_eq_true rfl) rfl ?_
        refine g_goto (pc := 21) (tgt := 2) C dX9_create_21 rfl ?_
        refine g_keep [true, true, true, true] ?_
        exact ih σ l1 l2 (l3 + 1)
      · refine g_keep [true, true, true, true] ?_
        exact bX9_create_24 C hr b hb σ l1 l2 l3
def fX9_create (σ : Sg) (b : Nat) (p1 : Int32) (p2 : Int32) : Option (Int32 × Sg) :=
  (fX9_create_2 b FU σ p1 p2 0)
theorem kX9_create (X : Xc) (σ : Sg) (b : Nat) (p1 : Int32) (p2 : Int32) (hb : moOK b) : ∀ r, fX9_create σ b p1 p2 = some r → Met X.l yX9_create (wsM yX9_create cX9_create 4 (some .int)) rmX9_create (va_Pc [.ref (X.ad b), .int p1, .int p2] (PW X σ)) (Qi X r.1 r.2) 0 0 X.A := by
  refine mt_of (own := RX9) (lo := [some (.ref (X.ad b)), some (.int (p1)), some (.int (p2)), none]) (by decide) rfl (Nat.le_of_ble_eq_true rfl) rfl (fun K C hr => ?_)
  unfold fX9_create
  refine g_iconst (pc := 0) (v := 0) C dX9_create_0 (by decide) ?_
  refine g_istore_n (pc := 1) (i := 3) C dX9_create_1 rfl (Nat.le_of_ble_eq_true rfl) rfl ?_
  refine g_keep [true, true, true, true] ?_
  exact bX9_create_2 C hr b hb FU σ p1 p2 0
theorem dX9_paneSet_0 : decode cX9_paneSet 0 = .ok (.iconst 0, 1) := by decide +kernel
theorem dX9_paneSet_1 : decode cX9_paneSet 1 = .ok (.istore_n 1, 1) := by decide +kernel
theorem dX9_paneSet_2 : decode cX9_paneSet 2 = .ok (.iconst 0, 1) := by decide +kernel
theorem dX9_paneSet_3 : decode cX9_paneSet 3 = .ok (.istore_n 2, 1) := by decide +kernel
theorem dX9_paneSet_4 : decode cX9_paneSet 4 = .ok (.iload_n 2, 1) := by decide +kernel
theorem dX9_paneSet_5 : decode cX9_paneSet 5 = .ok (.bipush 12, 2) := by decide +kernel
theorem dX9_paneSet_7 : decode cX9_paneSet 7 = .ok (.if_icmp .ge 20, 3) := by decide +kernel
theorem dX9_paneSet_10 : decode cX9_paneSet 10 = .ok (.iload_n 1, 1) := by decide +kernel
theorem dX9_paneSet_11 : decode cX9_paneSet 11 = .ok (.aload_n 0, 1) := by decide +kernel
theorem dX9_paneSet_12 : decode cX9_paneSet 12 = .ok (.iload_n 2, 1) := by decide +kernel
theorem dX9_paneSet_13 : decode cX9_paneSet 13 = .ok (.iconst 0, 1) := by decide +kernel
theorem dX9_paneSet_14 : decode cX9_paneSet 14 = .ok (.invokevirtual 65, 3) := by decide +kernel
theorem dX9_paneSet_17 : decode cX9_paneSet 17 = .ok (.iload_n 2, 1) := by decide +kernel
theorem dX9_paneSet_18 : decode cX9_paneSet 18 = .ok (.ishl, 1) := by decide +kernel
theorem dX9_paneSet_19 : decode cX9_paneSet 19 = .ok (.ior, 1) := by decide +kernel
theorem dX9_paneSet_20 : decode cX9_paneSet 20 = .ok (.istore_n 1, 1) := by decide +kernel
theorem dX9_paneSet_21 : decode cX9_paneSet 21 = .ok (.iinc 2 1, 3) := by decide +kernel
theorem dX9_paneSet_24 : decode cX9_paneSet 24 = .ok (.goto (-20), 3) := by decide +kernel
theorem dX9_paneSet_27 : decode cX9_paneSet 27 = .ok (.iload_n 1, 1) := by decide +kernel
theorem dX9_paneSet_28 : decode cX9_paneSet 28 = .ok (.ireturn, 1) := by decide +kernel
abbrev rmX9_paneSet : Room := { frames := 1, cells := 0, slots := 0, locals := 22 }
theorem hdX9_paneSet : yX9_paneSet.cls ≠ "java/lang/invoke/MethodHandle" ∧ yX9_paneSet.cls ≠ "java/lang/invoke/VarHandle" ∧ (parseMethodDescriptor yX9_paneSet.desc).map (fun d => d.parameters.length) = some 0 := by decide +kernel
def fX9_paneSet_4 (σ : Sg) (b : Nat) : Nat → Int32 → Int32 → Option Int32
  | 0, _, _ => none
  | n + 1, l1, l2 =>
    if 12 ≤ l2 then
      some l1
    else
      (fX9_of σ b l2 0).bind fun r1 =>
      nm (l1 ||| (r1 <<< (l2 &&& 31))) fun v2 =>
      ((fX9_paneSet_4 σ b n) v2 (l2 + 1))
theorem bX9_paneSet_4 {X : Xc} {K : Kc} (C : MC X K cX9_paneSet 3 RX9 rmX9_paneSet) (hr : K.meth.sig.returnType = (some .int)) (σ : Sg) (b : Nat) (hb : moOK b) : ∀ (n : Nat) (l1 : Int32) (l2 : Int32), GO X K 3 (fun r => MQi X K r σ) (fX9_paneSet_4 σ b n l1 l2) σ 0 0 4 [some (.ref (X.ad b)), some (.int (l1)), some (.int (l2))] [] := by
  intro n
  induction n with
  | zero =>
    intro l1 l2
    exact g_none
  | succ n ih =>
    intro l1 l2
    unfold fX9_paneSet_4
    refine g_iload_n (pc := 4) (i := 2) C dX9_paneSet_4 rfl rfl ?_
    refine g_bipush (pc := 5) (v := 12) C dX9_paneSet_5 (by decide) ?_
    refine g_icmp_ge (pc := 7) (tgt := 27) C dX9_paneSet_7 rfl ?_ ?_
    · refine g_iload_n (pc := 27) (i := 1) C dX9_paneSet_27 rfl rfl ?_
      exact g_iret (pc := 28) C hr dX9_paneSet_28 rfl
    · refine g_iload_n (pc := 10) (i := 1) C dX9_paneSet_10 rfl rfl ?_
      refine g_aload_n (pc := 11) (i := 0) C dX9_paneSet_11 rfl rfl ?_
      refine g_iload_n (pc := 12) (i := 2) C dX9_paneSet_12 rfl rfl ?_
      refine g_iconst (pc := 13) (v := 0) C dX9_paneSet_13 (by decide) ?_
      refine g_callVi (pc := 14) (As := [.int (l2), .int (0)]) C (kX9_of X σ b l2 0 hb) (blk hb 0 rfl) rfl q_10_2 q_10_3 q_10_4 q_1_5 q_10_5 ⟨rfl, hdX9_of⟩ ⟨Nat.le_of_ble_eq_true rfl, Nat.le_of_ble_eq_true rfl, rfl, rfl⟩ ⟨Nat.zero_le _, Nat.zero_le _⟩ (Nat.le_of_ble_eq_true rfl) rfl rfl dX9_paneSet_14 (fun r1 _ => ?_)
      refine g_iload_n (pc := 17) (i := 2) C dX9_paneSet_17 rfl rfl ?_
      refine g_ishl (pc := 18) C dX9_paneSet_18 ?_
      refine g_ior (pc := 19) C dX9_paneSet_19 ?_
      refine g_nm (fun v2 => ?_)
      refine g_istore_n (pc := 20) (i := 1) C dX9_paneSet_20 rfl (Nat.le_of_ble_eq_true rfl) rfl ?_
      refine g_iinc (pc := 21) (v := l2 + 1) C dX9_paneSet_21 rfl (rfl) (Nat.le_of_ble_eq_true rfl) rfl ?_
      refine g_goto (pc := 24) (tgt := 4) C dX9_paneSet_24 rfl ?_
      refine g_keep [true, true, true] ?_
      exact ih v2 (l2 + 1)
def fX9_paneSet (σ : Sg) (b : Nat) : Option Int32 :=
  (fX9_paneSet_4 σ b FU 0 0)
theorem kX9_paneSet (X : Xc) (σ : Sg) (b : Nat) (hb : moOK b) : ∀ r, fX9_paneSet σ b = some r → Met X.l yX9_paneSet (wsM yX9_paneSet cX9_paneSet 3 (some .int)) rmX9_paneSet (va_Pc [.ref (X.ad b)] (PW X σ)) (Qi X r σ) 0 0 X.A := by
  refine mt_of (own := RX9) (lo := [some (.ref (X.ad b)), none, none]) (by decide) rfl (Nat.le_of_ble_eq_true rfl) rfl (fun K C hr => ?_)
  unfold fX9_paneSet
  refine g_iconst (pc := 0) (v := 0) C dX9_paneSet_0 (by decide) ?_
  refine g_istore_n (pc := 1) (i := 1) C dX9_paneSet_1 rfl (Nat.le_of_ble_eq_true rfl) rfl ?_
  refine g_iconst (pc := 2) (v := 0) C dX9_paneSet_2 (by decide) ?_
  refine g_istore_n (pc := 3) (i := 2) C dX9_paneSet_3 rfl (Nat.le_of_ble_eq_true rfl) rfl ?_
  refine g_keep [true, true, true] ?_
  exact bX9_paneSet_4 C hr σ b hb FU 0 0
theorem dX9_size_0 : decode cX9_size 0 = .ok (.iconst 0, 1) := by decide +kernel
theorem dX9_size_1 : decode cX9_size 1 = .ok (.istore_n 1, 1) := by decide +kernel
theorem dX9_size_2 : decode cX9_size 2 = .ok (.iconst 0, 1) := by decide +kernel
theorem dX9_size_3 : decode cX9_size 3 = .ok (.istore_n 2, 1) := by decide +kernel
theorem dX9_size_4 : decode cX9_size 4 = .ok (.iload_n 2, 1) := by decide +kernel
theorem dX9_size_5 : decode cX9_size 5 = .ok (.bipush 12, 2) := by decide +kernel
theorem dX9_size_7 : decode cX9_size 7 = .ok (.if_icmp .ge 17, 3) := by decide +kernel
theorem dX9_size_10 : decode cX9_size 10 = .ok (.iload_n 1, 1) := by decide +kernel
theorem dX9_size_11 : decode cX9_size 11 = .ok (.iload_n 0, 1) := by decide +kernel
theorem dX9_size_12 : decode cX9_size 12 = .ok (.iload_n 2, 1) := by decide +kernel
theorem dX9_size_13 : decode cX9_size 13 = .ok (.ishr, 1) := by decide +kernel
theorem dX9_size_14 : decode cX9_size 14 = .ok (.iconst 1, 1) := by decide +kernel
theorem dX9_size_15 : decode cX9_size 15 = .ok (.iand, 1) := by decide +kernel
theorem dX9_size_16 : decode cX9_size 16 = .ok (.iadd, 1) := by decide +kernel
theorem dX9_size_17 : decode cX9_size 17 = .ok (.istore_n 1, 1) := by decide +kernel
theorem dX9_size_18 : decode cX9_size 18 = .ok (.iinc 2 1, 3) := by decide +kernel
theorem dX9_size_21 : decode cX9_size 21 = .ok (.goto (-17), 3) := by decide +kernel
theorem dX9_size_24 : decode cX9_size 24 = .ok (.iload_n 1, 1) := by decide +kernel
theorem dX9_size_25 : decode cX9_size 25 = .ok (.ireturn, 1) := by decide +kernel
abbrev rmX9_size : Room := { frames := 0, cells := 0, slots := 0, locals := 0 }
theorem hdX9_size : yX9_size.cls ≠ "java/lang/invoke/MethodHandle" ∧ yX9_size.cls ≠ "java/lang/invoke/VarHandle" ∧ (parseMethodDescriptor yX9_size.desc).map (fun d => d.parameters.length) = some 1 := by decide +kernel
def fX9_size_4 (σ : Sg) : Nat → Int32 → Int32 → Int32 → Option Int32
  | 0, _, _, _ => none
  | n + 1, l0, l1, l2 =>
    if 12 ≤ l2 then
      some l1
    else
      nm (l1 + ((l0 >>> (l2 &&& 31)) &&& 1)) fun v1 =>
      ((fX9_size_4 σ n) l0 v1 (l2 + 1))
theorem bX9_size_4 {X : Xc} {K : Kc} (C : MC X K cX9_size 3 RX9 rmX9_size) (hr : K.meth.sig.returnType = (some .int)) (σ : Sg) : ∀ (n : Nat) (l0 : Int32) (l1 : Int32) (l2 : Int32), GO X K 3 (fun r => MQi X K r σ) (fX9_size_4 σ n l0 l1 l2) σ 0 0 4 [some (.int (l0)), some (.int (l1)), some (.int (l2))] [] := by
  intro n
  induction n with
  | zero =>
    intro l0 l1 l2
    exact g_none
  | succ n ih =>
    intro l0 l1 l2
    unfold fX9_size_4
    refine g_iload_n (pc := 4) (i := 2) C dX9_size_4 rfl rfl ?_
    refine g_bipush (pc := 5) (v := 12) C dX9_size_5 (by decide) ?_
    refine g_icmp_ge (pc := 7) (tgt := 24) C dX9_size_7 rfl ?_ ?_
    · refine g_iload_n (pc := 24) (i := 1) C dX9_size_24 rfl rfl ?_
      exact g_iret (pc := 25) C hr dX9_size_25 rfl
    · refine g_iload_n (pc := 10) (i := 1) C dX9_size_10 rfl rfl ?_
      refine g_iload_n (pc := 11) (i := 0) C dX9_size_11 rfl rfl ?_
      refine g_iload_n (pc := 12) (i := 2) C dX9_size_12 rfl rfl ?_
      refine g_ishr (pc := 13) C dX9_size_13 ?_
      refine g_iconst (pc := 14) (v := 1) C dX9_size_14 (by decide) ?_
      refine g_iand (pc := 15) C dX9_size_15 ?_
      refine g_iadd (pc := 16) C dX9_size_16 ?_
      refine g_nm (fun v1 => ?_)
      refine g_istore_n (pc := 17) (i := 1) C dX9_size_17 rfl (Nat.le_of_ble_eq_true rfl) rfl ?_
      refine g_iinc (pc := 18) (v := l2 + 1) C dX9_size_18 rfl (rfl) (Nat.le_of_ble_eq_true rfl) rfl ?_
      refine g_goto (pc := 21) (tgt := 4) C dX9_size_21 rfl ?_
      refine g_keep [true, true, true] ?_
      exact ih l0 v1 (l2 + 1)
def fX9_size (σ : Sg) (p0 : Int32) : Option Int32 :=
  (fX9_size_4 σ FU p0 0 0)
theorem kX9_size (X : Xc) (σ : Sg) (p0 : Int32) : ∀ r, fX9_size σ p0 = some r → Met X.l yX9_size (wsM yX9_size cX9_size 3 (some .int)) rmX9_size (va_Pc [.int p0] (PW X σ)) (Qi X r σ) 0 0 X.A := by
  refine mt_of (own := RX9) (lo := [some (.int (p0)), none, none]) (by decide) rfl (Nat.le_of_ble_eq_true rfl) rfl (fun K C hr => ?_)
  unfold fX9_size
  refine g_iconst (pc := 0) (v := 0) C dX9_size_0 (by decide) ?_
  refine g_istore_n (pc := 1) (i := 1) C dX9_size_1 rfl (Nat.le_of_ble_eq_true rfl) rfl ?_
  refine g_iconst (pc := 2) (v := 0) C dX9_size_2 (by decide) ?_
  refine g_istore_n (pc := 3) (i := 2) C dX9_size_3 rfl (Nat.le_of_ble_eq_true rfl) rfl ?_
  refine g_keep [true, true, true] ?_
  exact bX9_size_4 C hr σ FU p0 0 0
theorem dX9_remove_0 : decode cX9_remove 0 = .ok (.aload_n 0, 1) := by decide +kernel
theorem dX9_remove_1 : decode cX9_remove 1 = .ok (.aload_n 0, 1) := by decide +kernel
theorem dX9_remove_2 : decode cX9_remove 2 = .ok (.iload_n 1, 1) := by decide +kernel
theorem dX9_remove_3 : decode cX9_remove 3 = .ok (.invokevirtual 144, 3) := by decide +kernel
theorem dX9_remove_6 : decode cX9_remove 6 = .ok (.ifCond .eq 7, 3) := by decide +kernel
theorem dX9_remove_9 : decode cX9_remove 9 = .ok (.iconst 0, 1) := by decide +kernel
theorem dX9_remove_10 : decode cX9_remove 10 = .ok (.goto 4, 3) := by decide +kernel
theorem dX9_remove_13 : decode cX9_remove 13 = .ok (.iconst 1, 1) := by decide +kernel
theorem dX9_remove_14 : decode cX9_remove 14 = .ok (.invokevirtual 57, 3) := by decide +kernel
theorem dX9_remove_17 : decode cX9_remove 17 = .ok (.ifCond .eq 5, 3) := by decide +kernel
theorem dX9_remove_20 : decode cX9_remove 20 = .ok (.iconst 0, 1) := by decide +kernel
theorem dX9_remove_21 : decode cX9_remove 21 = .ok (.ireturn, 1) := by decide +kernel
theorem dX9_remove_22 : decode cX9_remove 22 = .ok (.aload_n 0, 1) := by decide +kernel
theorem dX9_remove_23 : decode cX9_remove 23 = .ok (.invokevirtual 141, 3) := by decide +kernel
theorem dX9_remove_26 : decode cX9_remove 26 = .ok (.aload_n 0, 1) := by decide +kernel
theorem dX9_remove_27 : decode cX9_remove 27 = .ok (.iload_n 1, 1) := by decide +kernel
theorem dX9_remove_28 : decode cX9_remove 28 = .ok (.invokevirtual 147, 3) := by decide +kernel
theorem dX9_remove_31 : decode cX9_remove 31 = .ok (.aload_n 0, 1) := by decide +kernel
theorem dX9_remove_32 : decode cX9_remove 32 = .ok (.invokevirtual 150, 3) := by decide +kernel
theorem dX9_remove_35 : decode cX9_remove 35 = .ok (.aload_n 0, 1) := by decide +kernel
theorem dX9_remove_36 : decode cX9_remove 36 = .ok (.iload_n 1, 1) := by decide +kernel
theorem dX9_remove_37 : decode cX9_remove 37 = .ok (.iconst 0, 1) := by decide +kernel
theorem dX9_remove_38 : decode cX9_remove 38 = .ok (.iconst 0, 1) := by decide +kernel
theorem dX9_remove_39 : decode cX9_remove 39 = .ok (.invokevirtual 126, 3) := by decide +kernel
theorem dX9_remove_42 : decode cX9_remove 42 = .ok (.aload_n 0, 1) := by decide +kernel
theorem dX9_remove_43 : decode cX9_remove 43 = .ok (.invokevirtual 153, 3) := by decide +kernel
theorem dX9_remove_46 : decode cX9_remove 46 = .ok (.invokestatic 157, 3) := by decide +kernel
theorem dX9_remove_49 : decode cX9_remove 49 = .ok (.ireturn, 1) := by decide +kernel
abbrev rmX9_remove : Room := { frames := 7, cells := 0, slots := 0, locals := 156 }
theorem hdX9_remove : yX9_remove.cls ≠ "java/lang/invoke/MethodHandle" ∧ yX9_remove.cls ≠ "java/lang/invoke/VarHandle" ∧ (parseMethodDescriptor yX9_remove.desc).map (fun d => d.parameters.length) = some 1 := by decide +kernel
def fX9_remove_14 (b : Nat) (σ : Sg) (l1 : Int32) (s1 : Int32) : Option (Int32 × Sg) :=
  (fX9_refused σ b s1).bind fun r2 =>
  if r2.1 = true then
    some (0, r2.2)
  else
    (fX9_saves r2.2 b).bind fun σ3 =>
    (fX9_takes σ3 b l1).bind fun σ4 =>
    (fX9_leavesFocus σ4 b).bind fun σ5 =>
    (fX9_put σ5 b l1 0 0).bind fun σ6 =>
    (fX9_paneSet σ6 b).bind fun r7 =>
    (fX9_size σ6 r7).bind fun r8 =>
    some (r8, σ6)
theorem bX9_remove_14 {X : Xc} {K : Kc} (C : MC X K cX9_remove 2 RX9 rmX9_remove) (hr : K.meth.sig.returnType = (some .int)) (b : Nat) (hb : moOK b) (σ : Sg) (l1 : Int32) (s1 : Int32) : GO X K 2 (fun r => MQi X K r.1 r.2) (fX9_remove_14 b σ l1 s1) σ 0 0 14 [some (.ref (X.ad b)), some (.int (l1))] [.int (s1), .ref (X.ad b)] := by
  unfold fX9_remove_14
  refine g_callVi (pc := 14) (As := [.int (s1)]) C (kX9_refused X σ b s1 hb) (blk hb 0 rfl) rfl q_10_9 q_10_10 q_10_11 q_1_5 q_10_12 ⟨rfl, hdX9_refused⟩ ⟨Nat.le_of_ble_eq_true rfl, Nat.le_of_ble_eq_true rfl, rfl, rfl⟩ ⟨Nat.zero_le _, Nat.zero_le _⟩ (Nat.le_of_ble_eq_true rfl) rfl rfl dX9_remove_14 (fun r2 _ => ?_)
  refine g_ifb_eq (pc := 17) (tgt := 22) C dX9_remove_17 rfl ?_ ?_
  · refine g_iconst (pc := 20) (v := 0) C dX9_remove_20 (by decide) ?_
    exact g_iret (pc := 21) C hr dX9_remove_21 rfl
  · refine g_aload_n (pc := 22) (i := 0) C dX9_remove_22 rfl rfl ?_
    refine g_callVv (pc := 23) (As := []) C (kX9_saves X r2.2 b hb) (blk hb 0 rfl) rfl q_10_14 q_10_15 q_10_16 q_1_5 q_10_17 ⟨rfl, hdX9_saves⟩ ⟨Nat.le_of_ble_eq_true rfl, Nat.le_of_ble_eq_true rfl, rfl, rfl⟩ ⟨Nat.zero_le _, Nat.zero_le _⟩ (Nat.le_of_ble_eq_true rfl) rfl rfl dX9_remove_23 (fun σ3 _ => ?_)
    refine g_aload_n (pc := 26) (i := 0) C dX9_remove_26 rfl rfl ?_
    refine g_iload_n (pc := 27) (i := 1) C dX9_remove_27 rfl rfl ?_
    refine g_callVv (pc := 28) (As := [.int (l1)]) C (kX9_takes X σ3 b l1 hb) (blk hb 0 rfl) rfl q_19_20 q_19_21 q_19_22 q_1_5 q_19_23 ⟨rfl, hdX9_takes⟩ ⟨Nat.le_of_ble_eq_true rfl, Nat.le_of_ble_eq_true rfl, rfl, rfl⟩ ⟨Nat.zero_le _, Nat.zero_le _⟩ (Nat.le_of_ble_eq_true rfl) rfl rfl dX9_remove_28 (fun σ4 _ => ?_)
    refine g_aload_n (pc := 31) (i := 0) C dX9_remove_31 rfl rfl ?_
    refine g_callVv (pc := 32) (As := []) C (kX9_leavesFocus X σ4 b hb) (blk hb 0 rfl) rfl q_23_4 q_23_5 q_23_6 q_1_5 q_23_7 ⟨rfl, hdX9_leavesFocus⟩ ⟨Nat.le_of_ble_eq_true rfl, Nat.le_of_ble_eq_true rfl, rfl, rfl⟩ ⟨Nat.zero_le _, Nat.zero_le _⟩ (Nat.le_of_ble_eq_true rfl) rfl rfl dX9_remove_32 (fun σ5 _ => ?_)
    refine g_aload_n (pc := 35) (i := 0) C dX9_remove_35 rfl rfl ?_
    refine g_iload_n (pc := 36) (i := 1) C dX9_remove_36 rfl rfl ?_
    refine g_iconst (pc := 37) (v := 0) C dX9_remove_37 (by decide) ?_
    refine g_iconst (pc := 38) (v := 0) C dX9_remove_38 (by decide) ?_
    refine g_callVv (pc := 39) (As := [.int (l1), .int (0), .int (0)]) C (kX9_put X σ5 b l1 0 0 hb) (blk hb 0 rfl) rfl q_10_19 q_10_20 q_10_21 q_1_5 q_10_22 ⟨rfl, hdX9_put⟩ ⟨Nat.le_of_ble_eq_true rfl, Nat.le_of_ble_eq_true rfl, rfl, rfl⟩ ⟨Nat.zero_le _, Nat.zero_le _⟩ (Nat.le_of_ble_eq_true rfl) rfl rfl dX9_remove_39 (fun σ6 _ => ?_)
    refine g_aload_n (pc := 42) (i := 0) C dX9_remove_42 rfl rfl ?_
    refine g_callVi (pc := 43) (As := []) C (kX9_paneSet X σ6 b hb) (blk hb 0 rfl) rfl q_23_8 q_23_9 q_23_10 q_1_5 q_23_11 ⟨rfl, hdX9_paneSet⟩ ⟨Nat.le_of_ble_eq_true rfl, Nat.le_of_ble_eq_true rfl, rfl, rfl⟩ ⟨Nat.zero_le _, Nat.zero_le _⟩ (Nat.le_of_ble_eq_true rfl) rfl rfl dX9_remove_43 (fun r7 _ => ?_)
    refine g_callSi (pc := 46) (As := [.int (r7)]) C (kX9_size X σ6 r7) q_23_12 q_23_13 q_1_5 q_23_14 hdX9_size ⟨Nat.le_of_ble_eq_true rfl, Nat.le_of_ble_eq_true rfl, rfl, rfl⟩ ⟨Nat.zero_le _, Nat.zero_le _⟩ (Nat.le_of_ble_eq_true rfl) rfl rfl dX9_remove_46 (fun r8 _ => ?_)
    exact g_iret (pc := 49) C hr dX9_remove_49 rfl
def fX9_remove (σ : Sg) (b : Nat) (p1 : Int32) : Option (Int32 × Sg) :=
  (fX9_isPane σ b p1).bind fun r1 =>
  if r1 = true then
    (fX9_remove_14 b σ p1 0)
  else
    (fX9_remove_14 b σ p1 1)
theorem kX9_remove (X : Xc) (σ : Sg) (b : Nat) (p1 : Int32) (hb : moOK b) : ∀ r, fX9_remove σ b p1 = some r → Met X.l yX9_remove (wsM yX9_remove cX9_remove 2 (some .int)) rmX9_remove (va_Pc [.ref (X.ad b), .int p1] (PW X σ)) (Qi X r.1 r.2) 0 0 X.A := by
  refine mt_of (own := RX9) (lo := [some (.ref (X.ad b)), some (.int (p1))]) (by decide) rfl (Nat.le_of_ble_eq_true rfl) rfl (fun K C hr => ?_)
  unfold fX9_remove
  refine g_aload_n (pc := 0) (i := 0) C dX9_remove_0 rfl rfl ?_
  refine g_aload_n (pc := 1) (i := 0) C dX9_remove_1 rfl rfl ?_
  refine g_iload_n (pc := 2) (i := 1) C dX9_remove_2 rfl rfl ?_
  refine g_callVi (pc := 3) (As := [.int (p1)]) C (kX9_isPane X σ b p1 hb) (blk hb 0 rfl) rfl q_19_16 q_19_17 q_19_18 q_1_5 q_19_19 ⟨rfl, hdX9_isPane⟩ ⟨Nat.le_of_ble_eq_true rfl, Nat.le_of_ble_eq_true rfl, rfl, rfl⟩ ⟨Nat.zero_le _, Nat.zero_le _⟩ (Nat.le_of_ble_eq_true rfl) rfl rfl dX9_remove_3 (fun r1 _ => ?_)
  refine g_ifb_eq (pc := 6) (tgt := 13) C dX9_remove_6 rfl ?_ ?_
  · refine g_iconst (pc := 9) (v := 0) C dX9_remove_9 (by decide) ?_
    refine g_goto (pc := 10) (tgt := 14) C dX9_remove_10 rfl ?_
    refine g_keep [true, true] ?_
    exact bX9_remove_14 C hr b hb σ p1 0
  · refine g_iconst (pc := 13) (v := 1) C dX9_remove_13 (by decide) ?_
    refine g_keep [true, true] ?_
    exact bX9_remove_14 C hr b hb σ p1 1
theorem dX9_setMinimum_0 : decode cX9_setMinimum 0 = .ok (.aload_n 0, 1) := by decide +kernel
theorem dX9_setMinimum_1 : decode cX9_setMinimum 1 = .ok (.aload_n 0, 1) := by decide +kernel
theorem dX9_setMinimum_2 : decode cX9_setMinimum 2 = .ok (.iload_n 1, 1) := by decide +kernel
theorem dX9_setMinimum_3 : decode cX9_setMinimum 3 = .ok (.invokevirtual 144, 3) := by decide +kernel
theorem dX9_setMinimum_6 : decode cX9_setMinimum 6 = .ok (.ifCond .ne 7, 3) := by decide +kernel
theorem dX9_setMinimum_9 : decode cX9_setMinimum 9 = .ok (.iconst 1, 1) := by decide +kernel
theorem dX9_setMinimum_10 : decode cX9_setMinimum 10 = .ok (.goto 28, 3) := by decide +kernel
theorem dX9_setMinimum_13 : decode cX9_setMinimum 13 = .ok (.iload_n 2, 1) := by decide +kernel
theorem dX9_setMinimum_14 : decode cX9_setMinimum 14 = .ok (.iconst 1, 1) := by decide +kernel
theorem dX9_setMinimum_15 : decode cX9_setMinimum 15 = .ok (.bipush 40, 2) := by decide +kernel
theorem dX9_setMinimum_17 : decode cX9_setMinimum 17 = .ok (.invokestatic 61, 3) := by decide +kernel
theorem dX9_setMinimum_20 : decode cX9_setMinimum 20 = .ok (.ifCond .eq 13, 3) := by decide +kernel
theorem dX9_setMinimum_23 : decode cX9_setMinimum 23 = .ok (.iload_n 3, 1) := by decide +kernel
theorem dX9_setMinimum_24 : decode cX9_setMinimum 24 = .ok (.iconst 1, 1) := by decide +kernel
theorem dX9_setMinimum_25 : decode cX9_setMinimum 25 = .ok (.bipush 40, 2) := by decide +kernel
theorem dX9_setMinimum_27 : decode cX9_setMinimum 27 = .ok (.invokestatic 61, 3) := by decide +kernel
theorem dX9_setMinimum_30 : decode cX9_setMinimum 30 = .ok (.ifCond .ne 7, 3) := by decide +kernel
theorem dX9_setMinimum_33 : decode cX9_setMinimum 33 = .ok (.iconst 2, 1) := by decide +kernel
theorem dX9_setMinimum_34 : decode cX9_setMinimum 34 = .ok (.goto 4, 3) := by decide +kernel
theorem dX9_setMinimum_37 : decode cX9_setMinimum 37 = .ok (.iconst 0, 1) := by decide +kernel
theorem dX9_setMinimum_38 : decode cX9_setMinimum 38 = .ok (.invokevirtual 57, 3) := by decide +kernel
theorem dX9_setMinimum_41 : decode cX9_setMinimum 41 = .ok (.ifCond .eq 5, 3) := by decide +kernel
theorem dX9_setMinimum_44 : decode cX9_setMinimum 44 = .ok (.iconst 0, 1) := by decide +kernel
theorem dX9_setMinimum_45 : decode cX9_setMinimum 45 = .ok (.ireturn, 1) := by decide +kernel
theorem dX9_setMinimum_46 : decode cX9_setMinimum 46 = .ok (.bipush 100, 2) := by decide +kernel
theorem dX9_setMinimum_48 : decode cX9_setMinimum 48 = .ok (.aload_n 0, 1) := by decide +kernel
theorem dX9_setMinimum_49 : decode cX9_setMinimum 49 = .ok (.iload_n 1, 1) := by decide +kernel
theorem dX9_setMinimum_50 : decode cX9_setMinimum 50 = .ok (.iconst 1, 1) := by decide +kernel
theorem dX9_setMinimum_51 : decode cX9_setMinimum 51 = .ok (.invokevirtual 65, 3) := by decide +kernel
theorem dX9_setMinimum_54 : decode cX9_setMinimum 54 = .ok (.imul, 1) := by decide +kernel
theorem dX9_setMinimum_55 : decode cX9_setMinimum 55 = .ok (.aload_n 0, 1) := by decide +kernel
theorem dX9_setMinimum_56 : decode cX9_setMinimum 56 = .ok (.iload_n 1, 1) := by decide +kernel
theorem dX9_setMinimum_57 : decode cX9_setMinimum 57 = .ok (.iconst 2, 1) := by decide +kernel
theorem dX9_setMinimum_58 : decode cX9_setMinimum 58 = .ok (.invokevirtual 65, 3) := by decide +kernel
theorem dX9_setMinimum_61 : decode cX9_setMinimum 61 = .ok (.iadd, 1) := by decide +kernel
theorem dX9_setMinimum_62 : decode cX9_setMinimum 62 = .ok (.istore 4, 2) := by decide +kernel
theorem dX9_setMinimum_64 : decode cX9_setMinimum 64 = .ok (.aload_n 0, 1) := by decide +kernel
theorem dX9_setMinimum_65 : decode cX9_setMinimum 65 = .ok (.invokevirtual 141, 3) := by decide +kernel
theorem dX9_setMinimum_68 : decode cX9_setMinimum 68 = .ok (.aload_n 0, 1) := by decide +kernel
theorem dX9_setMinimum_69 : decode cX9_setMinimum 69 = .ok (.iload_n 1, 1) := by decide +kernel
theorem dX9_setMinimum_70 : decode cX9_setMinimum 70 = .ok (.iconst 1, 1) := by decide +kernel
theorem dX9_setMinimum_71 : decode cX9_setMinimum 71 = .ok (.iload_n 2, 1) := by decide +kernel
theorem dX9_setMinimum_72 : decode cX9_setMinimum 72 = .ok (.invokevirtual 126, 3) := by decide +kernel
theorem dX9_setMinimum_75 : decode cX9_setMinimum 75 = .ok (.aload_n 0, 1) := by decide +kernel
theorem dX9_setMinimum_76 : decode cX9_setMinimum 76 = .ok (.iload_n 1, 1) := by decide +kernel
theorem dX9_setMinimum_77 : decode cX9_setMinimum 77 = .ok (.iconst 2, 1) := by decide +kernel
theorem dX9_setMinimum_78 : decode cX9_setMinimum 78 = .ok (.iload_n 3, 1) := by decide +kernel
theorem dX9_setMinimum_79 : decode cX9_setMinimum 79 = .ok (.invokevirtual 126, 3) := by decide +kernel
theorem dX9_setMinimum_82 : decode cX9_setMinimum 82 = .ok (.iload 4, 2) := by decide +kernel
theorem dX9_setMinimum_84 : decode cX9_setMinimum 84 = .ok (.ireturn, 1) := by decide +kernel
abbrev rmX9_setMinimum : Room := { frames := 2, cells := 0, slots := 0, locals := 43 }
theorem hdX9_setMinimum : yX9_setMinimum.cls ≠ "java/lang/invoke/MethodHandle" ∧ yX9_setMinimum.cls ≠ "java/lang/invoke/VarHandle" ∧ (parseMethodDescriptor yX9_setMinimum.desc).map (fun d => d.parameters.length) = some 3 := by decide +kernel
def fX9_setMinimum_38 (b : Nat) (σ : Sg) (l1 : Int32) (l2 : Int32) (l3 : Int32) (s1 : Int32) : Option (Int32 × Sg) :=
  (fX9_refused σ b s1).bind fun r4 =>
  if r4.1 = true then
    some (0, r4.2)
  else
    (fX9_of r4.2 b l1 1).bind fun r5 =>
    (fX9_of r4.2 b l1 2).bind fun r6 =>
    nm ((100 * r5) + r6) fun v7 =>
    (fX9_saves r4.2 b).bind fun σ8 =>
    (fX9_put σ8 b l1 1 l2).bind fun σ9 =>
    (fX9_put σ9 b l1 2 l3).bind fun σ10 =>
    some (v7, σ10)
theorem bX9_setMinimum_38 {X : Xc} {K : Kc} (C : MC X K cX9_setMinimum 5 RX9 rmX9_setMinimum) (hr : K.meth.sig.returnType = (some .int)) (b : Nat) (hb : moOK b) (σ : Sg) (l1 : Int32) (l2 : Int32) (l3 : Int32) (s1 : Int32) : GO X K 5 (fun r => MQi X K r.1 r.2) (fX9_setMinimum_38 b σ l1 l2 l3 s1) σ 0 0 38 [some (.ref (X.ad b)), some (.int (l1)), some (.int (l2)), some (.int (l3)), none] [.int (s1), .ref (X.ad b)] := by
  unfold fX9_setMinimum_38
  refine g_callVi (pc := 38) (As := [.int (s1)]) C (kX9_refused X σ b s1 hb) (blk hb 0 rfl) rfl q_10_9 q_10_10 q_10_11 q_1_5 q_10_12 ⟨rfl, hdX9_refused⟩ ⟨Nat.le_of_ble_eq_true rfl, Nat.le_of_ble_eq_true rfl, rfl, rfl⟩ ⟨Nat.zero_le _, Nat.zero_le _⟩ (Nat.le_of_ble_eq_true rfl) rfl rfl dX9_setMinimum_38 (fun r4 _ => ?_)
  refine g_ifb_eq (pc := 41) (tgt := 46) C dX9_setMinimum_41 rfl ?_ ?_
  · refine g_iconst (pc := 44) (v := 0) C dX9_setMinimum_44 (by decide) ?_
    exact g_iret (pc := 45) C hr dX9_setMinimum_45 rfl
  · refine g_bipush (pc := 46) (v := 100) C dX9_setMinimum_46 (by decide) ?_
    refine g_aload_n (pc := 48) (i := 0) C dX9_setMinimum_48 rfl rfl ?_
    refine g_iload_n (pc := 49) (i := 1) C dX9_setMinimum_49 rfl rfl ?_
    refine g_iconst (pc := 50) (v := 1) C dX9_setMinimum_50 (by decide) ?_
    refine g_callVi (pc := 51) (As := [.int (l1), .int (1)]) C (kX9_of X r4.2 b l1 1 hb) (blk hb 0 rfl) rfl q_10_2 q_10_3 q_10_4 q_1_5 q_10_5 ⟨rfl, hdX9_of⟩ ⟨Nat.le_of_ble_eq_true rfl, Nat.le_of_ble_eq_true rfl, rfl, rfl⟩ ⟨Nat.zero_le _, Nat.zero_le _⟩ (Nat.le_of_ble_eq_true rfl) rfl rfl dX9_setMinimum_51 (fun r5 _ => ?_)
    refine g_imul (pc := 54) C dX9_setMinimum_54 ?_
    refine g_aload_n (pc := 55) (i := 0) C dX9_setMinimum_55 rfl rfl ?_
    refine g_iload_n (pc := 56) (i := 1) C dX9_setMinimum_56 rfl rfl ?_
    refine g_iconst (pc := 57) (v := 2) C dX9_setMinimum_57 (by decide) ?_
    refine g_callVi (pc := 58) (As := [.int (l1), .int (2)]) C (kX9_of X r4.2 b l1 2 hb) (blk hb 0 rfl) rfl q_10_2 q_10_3 q_10_4 q_1_5 q_10_5 ⟨rfl, hdX9_of⟩ ⟨Nat.le_of_ble_eq_true rfl, Nat.le_of_ble_eq_true rfl, rfl, rfl⟩ ⟨Nat.zero_le _, Nat.zero_le _⟩ (Nat.le_of_ble_eq_true rfl) rfl rfl dX9_setMinimum_58 (fun r6 _ => ?_)
    refine g_iadd (pc := 61) C dX9_setMinimum_61 ?_
    refine g_nm (fun v7 => ?_)
    refine g_istore (pc := 62) C dX9_setMinimum_62 (Nat.le_of_ble_eq_true rfl) rfl ?_
    refine g_aload_n (pc := 64) (i := 0) C dX9_setMinimum_64 rfl rfl ?_
    refine g_callVv (pc := 65) (As := []) C (kX9_saves X r4.2 b hb) (blk hb 0 rfl) rfl q_10_14 q_10_15 q_10_16 q_1_5 q_10_17 ⟨rfl, hdX9_saves⟩ ⟨Nat.le_of_ble_eq_true rfl, Nat.le_of_ble_eq_true rfl, rfl, rfl⟩ ⟨Nat.zero_le _, Nat.zero_le _⟩ (Nat.le_of_ble_eq_true rfl) rfl rfl dX9_setMinimum_65 (fun σ8 _ => ?_)
    refine g_aload_n (pc := 68) (i := 0) C dX9_setMinimum_68 rfl rfl ?_
    refine g_iload_n (pc := 69) (i := 1) C dX9_setMinimum_69 rfl rfl ?_
    refine g_iconst (pc := 70) (v := 1) C dX9_setMinimum_70 (by decide) ?_
    refine g_iload_n (pc := 71) (i := 2) C dX9_setMinimum_71 rfl rfl ?_
    refine g_callVv (pc := 72) (As := [.int (l1), .int (1), .int (l2)]) C (kX9_put X σ8 b l1 1 l2 hb) (blk hb 0 rfl) rfl q_10_19 q_10_20 q_10_21 q_1_5 q_10_22 ⟨rfl, hdX9_put⟩ ⟨Nat.le_of_ble_eq_true rfl, Nat.le_of_ble_eq_true rfl, rfl, rfl⟩ ⟨Nat.zero_le _, Nat.zero_le _⟩ (Nat.le_of_ble_eq_true rfl) rfl rfl dX9_setMinimum_72 (fun σ9 _ => ?_)
    refine g_aload_n (pc := 75) (i := 0) C dX9_setMinimum_75 rfl rfl ?_
    refine g_iload_n (pc := 76) (i := 1) C dX9_setMinimum_76 rfl rfl ?_
    refine g_iconst (pc := 77) (v := 2) C dX9_setMinimum_77 (by decide) ?_
    refine g_iload_n (pc := 78) (i := 3) C dX9_setMinimum_78 rfl rfl ?_
    refine g_callVv (pc := 79) (As := [.int (l1), .int (2), .int (l3)]) C (kX9_put X σ9 b l1 2 l3 hb) (blk hb 0 rfl) rfl q_10_19 q_10_20 q_10_21 q_1_5 q_10_22 ⟨rfl, hdX9_put⟩ ⟨Nat.le_of_ble_eq_true rfl, Nat.le_of_ble_eq_true rfl, rfl, rfl⟩ ⟨Nat.zero_le _, Nat.zero_le _⟩ (Nat.le_of_ble_eq_true rfl) rfl rfl dX9_setMinimum_79 (fun σ10 _ => ?_)
    refine g_iload (pc := 82) C dX9_setMinimum_82 rfl ?_
    exact g_iret (pc := 84) C hr dX9_setMinimum_84 rfl
def fX9_setMinimum_33 (b : Nat) (σ : Sg) (l1 : Int32) (l2 : Int32) (l3 : Int32) : Option (Int32 × Sg) :=
  (fX9_setMinimum_38 b σ l1 l2 l3 2)
theorem bX9_setMinimum_33 {X : Xc} {K : Kc} (C : MC X K cX9_setMinimum 5 RX9 rmX9_setMinimum) (hr : K.meth.sig.returnType = (some .int)) (b : Nat) (hb : moOK b) (σ : Sg) (l1 : Int32) (l2 : Int32) (l3 : Int32) : GO X K 5 (fun r => MQi X K r.1 r.2) (fX9_setMinimum_33 b σ l1 l2 l3) σ 0 0 33 [some (.ref (X.ad b)), some (.int (l1)), some (.int (l2)), some (.int (l3)), none] [.ref (X.ad b)] := by
  unfold fX9_setMinimum_33
  refine g_iconst (pc := 33) (v := 2) C dX9_setMinimum_33 (by decide) ?_
  refine g_goto (pc := 34) (tgt := 38) C dX9_setMinimum_34 rfl ?_
  refine g_keep [true, true, true, true, false] ?_
  exact bX9_setMinimum_38 C hr b hb σ l1 l2 l3 2
def fX9_setMinimum (σ : Sg) (b : Nat) (p1 : Int32) (p2 : Int32) (p3 : Int32) : Option (Int32 × Sg) :=
  (fX9_isPane σ b p1).bind fun r1 =>
  if r1 = true then
    (fX9_within σ p2 1 40).bind fun r2 =>
    if r2 = true then
      (fX9_within σ p3 1 40).bind fun r3 =>
      if r3 = true then
        (fX9_setMinimum_38 b σ p1 p2 p3 0)
      else
        (fX9_setMinimum_33 b σ p1 p2 p3)
    else
      (fX9_setMinimum_33 b σ p1 p2 p3)
  else
    (fX9_setMinimum_38 b σ p1 p2 p3 1)
theorem kX9_setMinimum (X : Xc) (σ : Sg) (b : Nat) (p1 : Int32) (p2 : Int32) (p3 : Int32) (hb : moOK b) : ∀ r, fX9_setMinimum σ b p1 p2 p3 = some r → Met X.l yX9_setMinimum (wsM yX9_setMinimum cX9_setMinimum 5 (some .int)) rmX9_setMinimum (va_Pc [.ref (X.ad b), .int p1, .int p2, .int p3] (PW X σ)) (Qi X r.1 r.2) 0 0 X.A := by
  refine mt_of (own := RX9) (lo := [some (.ref (X.ad b)), some (.int (p1)), some (.int (p2)), some (.int (p3)), none]) (by decide) rfl (Nat.le_of_ble_eq_true rfl) rfl (fun K C hr => ?_)
  unfold fX9_setMinimum
  refine g_aload_n (pc := 0) (i := 0) C dX9_setMinimum_0 rfl rfl ?_
  refine g_aload_n (pc := 1) (i := 0) C dX9_setMinimum_1 rfl rfl ?_
  refine g_iload_n (pc := 2) (i := 1) C dX9_setMinimum_2 rfl rfl ?_
  refine g_callVi (pc := 3) (As := [.int (p1)]) C (kX9_isPane X σ b p1 hb) (blk hb 0 rfl) rfl q_19_16 q_19_17 q_19_18 q_1_5 q_19_19 ⟨rfl, hdX9_isPane⟩ ⟨Nat.le_of_ble_eq_true rfl, Nat.le_of_ble_eq_true rfl, rfl, rfl⟩ ⟨Nat.zero_le _, Nat.zero_le _⟩ (Nat.le_of_ble_eq_true rfl) rfl rfl dX9_setMinimum_3 (fun r1 _ => ?_)
  refine g_ifb_ne (pc := 6) (tgt := 13) C dX9_setMinimum_6 rfl ?_ ?_
  · refine g_iload_n (pc := 13) (i := 2) C dX9_setMinimum_13 rfl rfl ?_
    refine g_iconst (pc := 14) (v := 1) C dX9_setMinimum_14 (by decide) ?_
    refine g_bipush (pc := 15) (v := 40) C dX9_setMinimum_15 (by decide) ?_
    refine g_callSi (pc := 17) (As := [.int (p2), .int (1), .int (40)]) C (kX9_within X σ p2 1 40) q_10_6 q_10_7 q_1_5 q_10_8 hdX9_within ⟨Nat.le_of_ble_eq_true rfl, Nat.le_of_ble_eq_true rfl, rfl, rfl⟩ ⟨Nat.zero_le _, Nat.zero_le _⟩ (Nat.le_of_ble_eq_true rfl) rfl rfl dX9_setMinimum_17 (fun r2 _ => ?_)
    refine g_ifb_eq (pc := 20) (tgt := 33) C dX9_setMinimum_20 rfl ?_ ?_
    · refine g_iload_n (pc := 23) (i := 3) C dX9_setMinimum_23 rfl rfl ?_
      refine g_iconst (pc := 24) (v := 1) C dX9_setMinimum_24 (by decide) ?_
      refine g_bipush (pc := 25) (v := 40) C dX9_setMinimum_25 (by decide) ?_
      refine g_callSi (pc := 27) (As := [.int (p3), .int (1), .int (40)]) C (kX9_within X σ p3 1 40) q_10_6 q_10_7 q_1_5 q_10_8 hdX9_within ⟨Nat.le_of_ble_eq_true rfl, Nat.le_of_ble_eq_true rfl, rfl, rfl⟩ ⟨Nat.zero_le _, Nat.zero_le _⟩ (Nat.le_of_ble_eq_true rfl) rfl rfl dX9_setMinimum_27 (fun r3 _ => ?_)
      refine g_ifb_ne (pc := 30) (tgt := 37) C dX9_setMinimum_30 rfl ?_ ?_
      · refine g_iconst (pc := 37) (v := 0) C dX9_setMinimum_37 (by decide) ?_
        refine g_keep [true, true, true, true, false] ?_
        exact bX9_setMinimum_38 C hr b hb σ p1 p2 p3 0
      · refine g_keep [true, true, true, true, false] ?_
        exact bX9_setMinimum_33 C hr b hb σ p1 p2 p3
    · refine g_keep [true, true, true, true, false] ?_
      exact bX9_setMinimum_33 C hr b hb σ p1 p2 p3
  · refine g_iconst (pc := 9) (v := 1) C dX9_setMinimum_9 (by decide) ?_
    refine g_goto (pc := 10) (tgt := 38) C dX9_setMinimum_10 rfl ?_
    refine g_keep [true, true, true, true, false] ?_
    exact bX9_setMinimum_38 C hr b hb σ p1 p2 p3 1
theorem dX9_panes_0 : decode cX9_panes 0 = .ok (.aload_n 0, 1) := by decide +kernel
theorem dX9_panes_1 : decode cX9_panes 1 = .ok (.iconst 0, 1) := by decide +kernel
theorem dX9_panes_2 : decode cX9_panes 2 = .ok (.putfield 50, 3) := by decide +kernel
theorem dX9_panes_5 : decode cX9_panes 5 = .ok (.aload_n 0, 1) := by decide +kernel
theorem dX9_panes_6 : decode cX9_panes 6 = .ok (.invokevirtual 153, 3) := by decide +kernel
theorem dX9_panes_9 : decode cX9_panes 9 = .ok (.ireturn, 1) := by decide +kernel
abbrev rmX9_panes : Room := { frames := 2, cells := 0, slots := 0, locals := 44 }
theorem hdX9_panes : yX9_panes.cls ≠ "java/lang/invoke/MethodHandle" ∧ yX9_panes.cls ≠ "java/lang/invoke/VarHandle" ∧ (parseMethodDescriptor yX9_panes.desc).map (fun d => d.parameters.length) = some 0 := by decide +kernel
def fX9_panes (σ : Sg) (b : Nat) : Option (Int32 × Sg) :=
  nm (su σ b 3 0) fun σ1 =>
  (fX9_paneSet σ1 b).bind fun r2 =>
  some (r2, σ1)
theorem kX9_panes (X : Xc) (σ : Sg) (b : Nat) (hb : moOK b) : ∀ r, fX9_panes σ b = some r → Met X.l yX9_panes (wsM yX9_panes cX9_panes 1 (some .int)) rmX9_panes (va_Pc [.ref (X.ad b)] (PW X σ)) (Qi X r.1 r.2) 0 0 X.A := by
  refine mt_of (own := RX9) (lo := [some (.ref (X.ad b))]) (by decide) rfl (Nat.le_of_ble_eq_true rfl) rfl (fun K C hr => ?_)
  unfold fX9_panes
  refine g_aload_n (pc := 0) (i := 0) C dX9_panes_0 rfl rfl ?_
  refine g_iconst (pc := 1) (v := 0) C dX9_panes_1 (by decide) ?_
  refine g_puti (pc := 2) (ci := 9) (N := 27) (T := TX9) (j := 3) (Cn := RX9) C rfl inlX9 tyX9_ok nmX9 (Nat.le_of_ble_eq_true rfl) q_10_13 (blk hb 0 rfl) rfl rfl rfl dX9_panes_2 ?_
  refine g_nms (fun σ1 => ?_)
  refine g_aload_n (pc := 5) (i := 0) C dX9_panes_5 rfl rfl ?_
  refine g_callVi (pc := 6) (As := []) C (kX9_paneSet X σ1 b hb) (blk hb 0 rfl) rfl q_23_8 q_23_9 q_23_10 q_1_5 q_23_11 ⟨rfl, hdX9_paneSet⟩ ⟨Nat.le_of_ble_eq_true rfl, Nat.le_of_ble_eq_true rfl, rfl, rfl⟩ ⟨Nat.zero_le _, Nat.zero_le _⟩ (Nat.le_of_ble_eq_true rfl) rfl rfl dX9_panes_6 (fun r2 _ => ?_)
  exact g_iret (pc := 9) C hr dX9_panes_9 rfl
theorem dX9_told_0 : decode cX9_told 0 = .ok (.aload_n 0, 1) := by decide +kernel
theorem dX9_told_1 : decode cX9_told 1 = .ok (.iload_n 1, 1) := by decide +kernel
theorem dX9_told_2 : decode cX9_told 2 = .ok (.iconst 3, 1) := by decide +kernel
theorem dX9_told_3 : decode cX9_told 3 = .ok (.invokevirtual 65, 3) := by decide +kernel
theorem dX9_told_6 : decode cX9_told 6 = .ok (.istore_n 3, 1) := by decide +kernel
theorem dX9_told_7 : decode cX9_told 7 = .ok (.iload_n 3, 1) := by decide +kernel
theorem dX9_told_8 : decode cX9_told 8 = .ok (.iconst (-1), 1) := by decide +kernel
theorem dX9_told_9 : decode cX9_told 9 = .ok (.if_icmp .eq 7, 3) := by decide +kernel
theorem dX9_told_12 : decode cX9_told 12 = .ok (.iconst 1, 1) := by decide +kernel
theorem dX9_told_13 : decode cX9_told 13 = .ok (.goto 4, 3) := by decide +kernel
theorem dX9_told_16 : decode cX9_told 16 = .ok (.iconst 0, 1) := by decide +kernel
theorem dX9_told_17 : decode cX9_told 17 = .ok (.istore 4, 2) := by decide +kernel
theorem dX9_told_19 : decode cX9_told 19 = .ok (.iload 4, 2) := by decide +kernel
theorem dX9_told_21 : decode cX9_told 21 = .ok (.ifCond .eq 17, 3) := by decide +kernel
theorem dX9_told_24 : decode cX9_told 24 = .ok (.aload_n 0, 1) := by decide +kernel
theorem dX9_told_25 : decode cX9_told 25 = .ok (.iload_n 3, 1) := by decide +kernel
theorem dX9_told_26 : decode cX9_told 26 = .ok (.iconst 1, 1) := by decide +kernel
theorem dX9_told_27 : decode cX9_told 27 = .ok (.invokevirtual 76, 3) := by decide +kernel
theorem dX9_told_30 : decode cX9_told 30 = .ok (.iconst (-1), 1) := by decide +kernel
theorem dX9_told_31 : decode cX9_told 31 = .ok (.if_icmp .eq 7, 3) := by decide +kernel
theorem dX9_told_34 : decode cX9_told 34 = .ok (.iconst 1, 1) := by decide +kernel
theorem dX9_told_35 : decode cX9_told 35 = .ok (.goto 4, 3) := by decide +kernel
theorem dX9_told_38 : decode cX9_told 38 = .ok (.iconst 0, 1) := by decide +kernel
theorem dX9_told_39 : decode cX9_told 39 = .ok (.istore 5, 2) := by decide +kernel
theorem dX9_told_41 : decode cX9_told 41 = .ok (.iload_n 2, 1) := by decide +kernel
theorem dX9_told_42 : decode cX9_told 42 = .ok (.tableswitch 159 0 7 #[46, 53, 60, 75, 91, 112, 128, 143], 46) := by decide +kernel
theorem dX9_told_88 : decode cX9_told 88 = .ok (.aload_n 0, 1) := by decide +kernel
theorem dX9_told_89 : decode cX9_told 89 = .ok (.iload_n 1, 1) := by decide +kernel
theorem dX9_told_90 : decode cX9_told 90 = .ok (.iconst 1, 1) := by decide +kernel
theorem dX9_told_91 : decode cX9_told 91 = .ok (.invokevirtual 65, 3) := by decide +kernel
theorem dX9_told_94 : decode cX9_told 94 = .ok (.ireturn, 1) := by decide +kernel
theorem dX9_told_95 : decode cX9_told 95 = .ok (.aload_n 0, 1) := by decide +kernel
theorem dX9_told_96 : decode cX9_told 96 = .ok (.iload_n 1, 1) := by decide +kernel
theorem dX9_told_97 : decode cX9_told 97 = .ok (.iconst 2, 1) := by decide +kernel
theorem dX9_told_98 : decode cX9_told 98 = .ok (.invokevirtual 65, 3) := by decide +kernel
theorem dX9_told_101 : decode cX9_told 101 = .ok (.ireturn, 1) := by decide +kernel
theorem dX9_told_102 : decode cX9_told 102 = .ok (.iload 4, 2) := by decide +kernel
theorem dX9_told_104 : decode cX9_told 104 = .ok (.ifCond .eq 11, 3) := by decide +kernel
theorem dX9_told_107 : decode cX9_told 107 = .ok (.aload_n 0, 1) := by decide +kernel
theorem dX9_told_108 : decode cX9_told 108 = .ok (.iload_n 3, 1) := by decide +kernel
theorem dX9_told_109 : decode cX9_told 109 = .ok (.invokevirtual 91, 3) := by decide +kernel
theorem dX9_told_112 : decode cX9_told 112 = .ok (.goto 4, 3) := by decide +kernel
theorem dX9_told_115 : decode cX9_told 115 = .ok (.iconst (-1), 1) := by decide +kernel
theorem dX9_told_116 : decode cX9_told 116 = .ok (.ireturn, 1) := by decide +kernel
theorem dX9_told_117 : decode cX9_told 117 = .ok (.iload 4, 2) := by decide +kernel
theorem dX9_told_119 : decode cX9_told 119 = .ok (.ifCond .eq 12, 3) := by decide +kernel
theorem dX9_told_122 : decode cX9_told 122 = .ok (.aload_n 0, 1) := by decide +kernel
theorem dX9_told_123 : decode cX9_told 123 = .ok (.iload_n 1, 1) := by decide +kernel
theorem dX9_told_124 : decode cX9_told 124 = .ok (.iconst 5, 1) := by decide +kernel
theorem dX9_told_125 : decode cX9_told 125 = .ok (.invokevirtual 65, 3) := by decide +kernel
theorem dX9_told_128 : decode cX9_told 128 = .ok (.goto 4, 3) := by decide +kernel
theorem dX9_told_131 : decode cX9_told 131 = .ok (.iconst 0, 1) := by decide +kernel
theorem dX9_told_132 : decode cX9_told 132 = .ok (.ireturn, 1) := by decide +kernel
theorem dX9_told_133 : decode cX9_told 133 = .ok (.iload 4, 2) := by decide +kernel
theorem dX9_told_135 : decode cX9_told 135 = .ok (.ifCond .eq 17, 3) := by decide +kernel
theorem dX9_told_138 : decode cX9_told 138 = .ok (.aload_n 0, 1) := by decide +kernel
theorem dX9_told_139 : decode cX9_told 139 = .ok (.iload_n 3, 1) := by decide +kernel
theorem dX9_told_140 : decode cX9_told 140 = .ok (.iconst 5, 1) := by decide +kernel
theorem dX9_told_141 : decode cX9_told 141 = .ok (.invokevirtual 76, 3) := by decide +kernel
theorem dX9_told_144 : decode cX9_told 144 = .ok (.iload_n 1, 1) := by decide +kernel
theorem dX9_told_145 : decode cX9_told 145 = .ok (.if_icmp .ne 7, 3) := by decide +kernel
theorem dX9_told_148 : decode cX9_told 148 = .ok (.iconst 1, 1) := by decide +kernel
theorem dX9_told_149 : decode cX9_told 149 = .ok (.goto 4, 3) := by decide +kernel
theorem dX9_told_152 : decode cX9_told 152 = .ok (.iconst 0, 1) := by decide +kernel
theorem dX9_told_153 : decode cX9_told 153 = .ok (.ireturn, 1) := by decide +kernel
theorem dX9_told_154 : decode cX9_told 154 = .ok (.iload 4, 2) := by decide +kernel
theorem dX9_told_156 : decode cX9_told 156 = .ok (.ifCond .eq 12, 3) := by decide +kernel
theorem dX9_told_159 : decode cX9_told 159 = .ok (.aload_n 0, 1) := by decide +kernel
theorem dX9_told_160 : decode cX9_told 160 = .ok (.iload_n 1, 1) := by decide +kernel
theorem dX9_told_161 : decode cX9_told 161 = .ok (.iconst 4, 1) := by decide +kernel
theorem dX9_told_162 : decode cX9_told 162 = .ok (.invokevirtual 65, 3) := by decide +kernel
theorem dX9_told_165 : decode cX9_told 165 = .ok (.goto 4, 3) := by decide +kernel
theorem dX9_told_168 : decode cX9_told 168 = .ok (.iconst (-1), 1) := by decide +kernel
theorem dX9_told_169 : decode cX9_told 169 = .ok (.ireturn, 1) := by decide +kernel
theorem dX9_told_170 : decode cX9_told 170 = .ok (.iload 4, 2) := by decide +kernel
theorem dX9_told_172 : decode cX9_told 172 = .ok (.ifCond .eq 11, 3) := by decide +kernel
theorem dX9_told_175 : decode cX9_told 175 = .ok (.aload_n 0, 1) := by decide +kernel
theorem dX9_told_176 : decode cX9_told 176 = .ok (.iload_n 3, 1) := by decide +kernel
theorem dX9_told_177 : decode cX9_told 177 = .ok (.invokevirtual 107, 3) := by decide +kernel
theorem dX9_told_180 : decode cX9_told 180 = .ok (.goto 4, 3) := by decide +kernel
theorem dX9_told_183 : decode cX9_told 183 = .ok (.iconst (-1), 1) := by decide +kernel
theorem dX9_told_184 : decode cX9_told 184 = .ok (.ireturn, 1) := by decide +kernel
theorem dX9_told_185 : decode cX9_told 185 = .ok (.iload 5, 2) := by decide +kernel
theorem dX9_told_187 : decode cX9_told 187 = .ok (.ifCond .eq 12, 3) := by decide +kernel
theorem dX9_told_190 : decode cX9_told 190 = .ok (.aload_n 0, 1) := by decide +kernel
theorem dX9_told_191 : decode cX9_told 191 = .ok (.iload_n 3, 1) := by decide +kernel
theorem dX9_told_192 : decode cX9_told 192 = .ok (.iconst 3, 1) := by decide +kernel
theorem dX9_told_193 : decode cX9_told 193 = .ok (.invokevirtual 76, 3) := by decide +kernel
theorem dX9_told_196 : decode cX9_told 196 = .ok (.goto 4, 3) := by decide +kernel
theorem dX9_told_199 : decode cX9_told 199 = .ok (.iconst (-1), 1) := by decide +kernel
theorem dX9_told_200 : decode cX9_told 200 = .ok (.ireturn, 1) := by decide +kernel
theorem dX9_told_201 : decode cX9_told 201 = .ok (.iload 5, 2) := by decide +kernel
theorem dX9_told_203 : decode cX9_told 203 = .ok (.ifCond .eq 17, 3) := by decide +kernel
theorem dX9_told_206 : decode cX9_told 206 = .ok (.aload_n 0, 1) := by decide +kernel
theorem dX9_told_207 : decode cX9_told 207 = .ok (.aload_n 0, 1) := by decide +kernel
theorem dX9_told_208 : decode cX9_told 208 = .ok (.iload_n 3, 1) := by decide +kernel
theorem dX9_told_209 : decode cX9_told 209 = .ok (.iconst 1, 1) := by decide +kernel
theorem dX9_told_210 : decode cX9_told 210 = .ok (.invokevirtual 76, 3) := by decide +kernel
theorem dX9_told_213 : decode cX9_told 213 = .ok (.iconst 2, 1) := by decide +kernel
theorem dX9_told_214 : decode cX9_told 214 = .ok (.invokevirtual 76, 3) := by decide +kernel
theorem dX9_told_217 : decode cX9_told 217 = .ok (.goto 4, 3) := by decide +kernel
theorem dX9_told_220 : decode cX9_told 220 = .ok (.iconst (-1), 1) := by decide +kernel
theorem dX9_told_221 : decode cX9_told 221 = .ok (.ireturn, 1) := by decide +kernel
abbrev rmX9_told : Room := { frames := 3, cells := 0, slots := 0, locals := 67 }
theorem hdX9_told : yX9_told.cls ≠ "java/lang/invoke/MethodHandle" ∧ yX9_told.cls ≠ "java/lang/invoke/VarHandle" ∧ (parseMethodDescriptor yX9_told.desc).map (fun d => d.parameters.length) = some 2 := by decide +kernel
def fX9_told_39 (σ : Sg) (b : Nat) (l1 : Int32) (l2 : Int32) (l3 : Int32) (l4 : Int32) (s0 : Int32) : Option Int32 :=
  if l2 = 0 then
    (fX9_of σ b l1 1).bind fun r3 =>
    some r3
  else if l2 = 1 then
    (fX9_of σ b l1 2).bind fun r4 =>
    some r4
  else if l2 = 2 then
    if l4 = 0 then
      some (-1)
    else
      (fX9_windowOf σ b l3).bind fun r5 =>
      some r5
  else if l2 = 3 then
    if l4 = 0 then
      some 0
    else
      (fX9_of σ b l1 5).bind fun r6 =>
      some r6
  else if l2 = 4 then
    if l4 = 0 then
      some 0
    else
      (fX9_its σ b l3 5).bind fun r7 =>
      if r7 = l1 then
        some 1
      else
        some 0
  else if l2 = 5 then
    if l4 = 0 then
      some (-1)
    else
      (fX9_of σ b l1 4).bind fun r8 =>
      some r8
  else if l2 = 6 then
    if l4 = 0 then
      some (-1)
    else
      (fX9_tabMany σ b l3).bind fun r9 =>
      some r9
  else if l2 = 7 then
    if s0 = 0 then
      some (-1)
    else
      (fX9_its σ b l3 3).bind fun r10 =>
      some r10
  else 
    if s0 = 0 then
      some (-1)
    else
      (fX9_its σ b l3 1).bind fun r11 =>
      (fX9_its σ b r11 2).bind fun r12 =>
      some r12
theorem bX9_told_39 {X : Xc} {K : Kc} (C : MC X K cX9_told 6 RX9 rmX9_told) (hr : K.meth.sig.returnType = (some .int)) (σ : Sg) (b : Nat) (hb : moOK b) (l1 : Int32) (l2 : Int32) (l3 : Int32) (l4 : Int32) (s0 : Int32) : GO X K 6 (fun r => MQi X K r σ) (fX9_told_39 σ b l1 l2 l3 l4 s0) σ 0 0 39 [some (.ref (X.ad b)), some (.int (l1)), some (.int (l2)), some (.int (l3)), some (.int (l4)), none] [.int (s0)] := by
  unfold fX9_told_39
  refine g_istore (pc := 39) C dX9_told_39 (Nat.le_of_ble_eq_true rfl) rfl ?_
  refine g_iload_n (pc := 41) (i := 2) C dX9_told_41 rfl rfl ?_
  refine g_ite (fun hz => ?_) (fun hz0 => ?_)
  · refine g_tabin (pc := 42) (tgt := 88) (z := 0) C dX9_told_42 hz (by decide) (by decide) rfl rfl ?_
    refine g_aload_n (pc := 88) (i := 0) C dX9_told_88 rfl rfl ?_
    refine g_iload_n (pc := 89) (i := 1) C dX9_told_89 rfl rfl ?_
    refine g_iconst (pc := 90) (v := 1) C dX9_told_90 (by decide) ?_
    refine g_callVi (pc := 91) (As := [.int (l1), .int (1)]) C (kX9_of X σ b l1 1 hb) (blk hb 0 rfl) rfl q_10_2 q_10_3 q_10_4 q_1_5 q_10_5 ⟨rfl, hdX9_of⟩ ⟨Nat.le_of_ble_eq_true rfl, Nat.le_of_ble_eq_true rfl, rfl, rfl⟩ ⟨Nat.zero_le _, Nat.zero_le _⟩ (Nat.le_of_ble_eq_true rfl) rfl rfl dX9_told_91 (fun r3 _ => ?_)
    exact g_iret (pc := 94) C hr dX9_told_94 rfl
  refine g_ite (fun hz => ?_) (fun hz1 => ?_)
  · refine g_tabin (pc := 42) (tgt := 95) (z := 1) C dX9_told_42 hz (by decide) (by decide) rfl rfl ?_
    refine g_aload_n (pc := 95) (i := 0) C dX9_told_95 rfl rfl ?_
    refine g_iload_n (pc := 96) (i := 1) C dX9_told_96 rfl rfl ?_
    refine g_iconst (pc := 97) (v := 2) C dX9_told_97 (by decide) ?_
    refine g_callVi (pc := 98) (As := [.int (l1), .int (2)]) C (kX9_of X σ b l1 2 hb) (blk hb 0 rfl) rfl q_10_2 q_10_3 q_10_4 q_1_5 q_10_5 ⟨rfl, hdX9_of⟩ ⟨Nat.le_of_ble_eq_true rfl, Nat.le_of_ble_eq_true rfl, rfl, rfl⟩ ⟨Nat.zero_le _, Nat.zero_le _⟩ (Nat.le_of_ble_eq_true rfl) rfl rfl dX9_told_98 (fun r4 _ => ?_)
    exact g_iret (pc := 101) C hr dX9_told_101 rfl
  refine g_ite (fun hz => ?_) (fun hz2 => ?_)
  · refine g_tabin (pc := 42) (tgt := 102) (z := 2) C dX9_told_42 hz (by decide) (by decide) rfl rfl ?_
    refine g_iload (pc := 102) C dX9_told_102 rfl ?_
    refine g_if_eq (pc := 104) (tgt := 115) C dX9_told_104 rfl ?_ ?_
    · refine g_iconst (pc := 115) (v := (-1)) C dX9_told_115 (by decide) ?_
      exact g_iret (pc := 116) C hr dX9_told_116 rfl
    · refine g_aload_n (pc := 107) (i := 0) C dX9_told_107 rfl rfl ?_
      refine g_iload_n (pc := 108) (i := 3) C dX9_told_108 rfl rfl ?_
      refine g_callVi (pc := 109) (As := [.int (l3)]) C (kX9_windowOf X σ b l3 hb) (blk hb 0 rfl) rfl q_22_4 q_22_5 q_22_6 q_1_5 q_22_7 ⟨rfl, hdX9_windowOf⟩ ⟨Nat.le_of_ble_eq_true rfl, Nat.le_of_ble_eq_true rfl, rfl, rfl⟩ ⟨Nat.zero_le _, Nat.zero_le _⟩ (Nat.le_of_ble_eq_true rfl) rfl rfl dX9_told_109 (fun r5 _ => ?_)
      refine g_goto (pc := 112) (tgt := 116) C dX9_told_112 rfl ?_
      exact g_iret (pc := 116) C hr dX9_told_116 rfl
  refine g_ite (fun hz => ?_) (fun hz3 => ?_)
  · refine g_tabin (pc := 42) (tgt := 117) (z := 3) C dX9_told_42 hz (by decide) (by decide) rfl rfl ?_
    refine g_iload (pc := 117) C dX9_told_117 rfl ?_
    refine g_if_eq (pc := 119) (tgt := 131) C dX9_told_119 rfl ?_ ?_
    · refine g_iconst (pc := 131) (v := 0) C dX9_told_131 (by decide) ?_
      exact g_iret (pc := 132) C hr dX9_told_132 rfl
    · refine g_aload_n (pc := 122) (i := 0) C dX9_told_122 rfl rfl ?_
      refine g_iload_n (pc := 123) (i := 1) C dX9_told_123 rfl rfl ?_
      refine g_iconst (pc := 124) (v := 5) C dX9_told_124 (by decide) ?_
      refine g_callVi (pc := 125) (As := [.int (l1), .int (5)]) C (kX9_of X σ b l1 5 hb) (blk hb 0 rfl) rfl q_10_2 q_10_3 q_10_4 q_1_5 q_10_5 ⟨rfl, hdX9_of⟩ ⟨Nat.le_of_ble_eq_true rfl, Nat.le_of_ble_eq_true rfl, rfl, rfl⟩ ⟨Nat.zero_le _, Nat.zero_le _⟩ (Nat.le_of_ble_eq_true rfl) rfl rfl dX9_told_125 (fun r6 _ => ?_)
      refine g_goto (pc := 128) (tgt := 132) C dX9_told_128 rfl ?_
      exact g_iret (pc := 132) C hr dX9_told_132 rfl
  refine g_ite (fun hz => ?_) (fun hz4 => ?_)
  · refine g_tabin (pc := 42) (tgt := 133) (z := 4) C dX9_told_42 hz (by decide) (by decide) rfl rfl ?_
    refine g_iload (pc := 133) C dX9_told_133 rfl ?_
    refine g_if_eq (pc := 135) (tgt := 152) C dX9_told_135 rfl ?_ ?_
    · refine g_iconst (pc := 152) (v := 0) C dX9_told_152 (by decide) ?_
      exact g_iret (pc := 153) C hr dX9_told_153 rfl
    · refine g_aload_n (pc := 138) (i := 0) C dX9_told_138 rfl rfl ?_
      refine g_iload_n (pc := 139) (i := 3) C dX9_told_139 rfl rfl ?_
      refine g_iconst (pc := 140) (v := 5) C dX9_told_140 (by decide) ?_
      refine g_callVi (pc := 141) (As := [.int (l3), .int (5)]) C (kX9_its X σ b l3 5 hb) (blk hb 0 rfl) rfl q_20_12 q_20_13 q_20_14 q_1_5 q_20_15 ⟨rfl, hdX9_its⟩ ⟨Nat.le_of_ble_eq_true rfl, Nat.le_of_ble_eq_true rfl, rfl, rfl⟩ ⟨Nat.zero_le _, Nat.zero_le _⟩ (Nat.le_of_ble_eq_true rfl) rfl rfl dX9_told_141 (fun r7 _ => ?_)
      refine g_iload_n (pc := 144) (i := 1) C dX9_told_144 rfl rfl ?_
      refine g_icmp_ne (pc := 145) (tgt := 152) C dX9_told_145 rfl ?_ ?_
      · refine g_iconst (pc := 148) (v := 1) C dX9_told_148 (by decide) ?_
        refine g_goto (pc := 149) (tgt := 153) C dX9_told_149 rfl ?_
        exact g_iret (pc := 153) C hr dX9_told_153 rfl
      · refine g_iconst (pc := 152) (v := 0) C dX9_told_152 (by decide) ?_
        exact g_iret (pc := 153) C hr dX9_told_153 rfl
  refine g_ite (fun hz => ?_) (fun hz5 => ?_)
  · refine g_tabin (pc := 42) (tgt := 154) (z := 5) C dX9_told_42 hz (by decide) (by decide) rfl rfl ?_
    refine g_iload (pc := 154) C dX9_told_154 rfl ?_
    refine g_if_eq (pc := 156) (tgt := 168) C dX9_told_156 rfl ?_ ?_
    · refine g_iconst (pc := 168) (v := (-1)) C dX9_told_168 (by decide) ?_
      exact g_iret (pc := 169) C hr dX9_told_169 rfl
    · refine g_aload_n (pc := 159) (i := 0) C dX9_told_159 rfl rfl ?_
      refine g_iload_n (pc := 160) (i := 1) C dX9_told_160 rfl rfl ?_
      refine g_iconst (pc := 161) (v := 4) C dX9_told_161 (by decide) ?_
      refine g_callVi (pc := 162) (As := [.int (l1), .int (4)]) C (kX9_of X σ b l1 4 hb) (blk hb 0 rfl) rfl q_10_2 q_10_3 q_10_4 q_1_5 q_10_5 ⟨rfl, hdX9_of⟩ ⟨Nat.le_of_ble_eq_true rfl, Nat.le_of_ble_eq_true rfl, rfl, rfl⟩ ⟨Nat.zero_le _, Nat.zero_le _⟩ (Nat.le_of_ble_eq_true rfl) rfl rfl dX9_told_162 (fun r8 _ => ?_)
      refine g_goto (pc := 165) (tgt := 169) C dX9_told_165 rfl ?_
      exact g_iret (pc := 169) C hr dX9_told_169 rfl
  refine g_ite (fun hz => ?_) (fun hz6 => ?_)
  · refine g_tabin (pc := 42) (tgt := 170) (z := 6) C dX9_told_42 hz (by decide) (by decide) rfl rfl ?_
    refine g_iload (pc := 170) C dX9_told_170 rfl ?_
    refine g_if_eq (pc := 172) (tgt := 183) C dX9_told_172 rfl ?_ ?_
    · refine g_iconst (pc := 183) (v := (-1)) C dX9_told_183 (by decide) ?_
      exact g_iret (pc := 184) C hr dX9_told_184 rfl
    · refine g_aload_n (pc := 175) (i := 0) C dX9_told_175 rfl rfl ?_
      refine g_iload_n (pc := 176) (i := 3) C dX9_told_176 rfl rfl ?_
      refine g_callVi (pc := 177) (As := [.int (l3)]) C (kX9_tabMany X σ b l3 hb) (blk hb 0 rfl) rfl q_20_16 q_20_17 q_20_18 q_1_5 q_20_19 ⟨rfl, hdX9_tabMany⟩ ⟨Nat.le_of_ble_eq_true rfl, Nat.le_of_ble_eq_true rfl, rfl, rfl⟩ ⟨Nat.zero_le _, Nat.zero_le _⟩ (Nat.le_of_ble_eq_true rfl) rfl rfl dX9_told_177 (fun r9 _ => ?_)
      refine g_goto (pc := 180) (tgt := 184) C dX9_told_180 rfl ?_
      exact g_iret (pc := 184) C hr dX9_told_184 rfl
  refine g_ite (fun hz => ?_) (fun hz7 => ?_)
  · refine g_tabin (pc := 42) (tgt := 185) (z := 7) C dX9_told_42 hz (by decide) (by decide) rfl rfl ?_
    refine g_iload (pc := 185) C dX9_told_185 rfl ?_
    refine g_if_eq (pc := 187) (tgt := 199) C dX9_told_187 rfl ?_ ?_
    · refine g_iconst (pc := 199) (v := (-1)) C dX9_told_199 (by decide) ?_
      exact g_iret (pc := 200) C hr dX9_told_200 rfl
    · refine g_aload_n (pc := 190) (i := 0) C dX9_told_190 rfl rfl ?_
      refine g_iload_n (pc := 191) (i := 3) C dX9_told_191 rfl rfl ?_
      refine g_iconst (pc := 192) (v := 3) C dX9_told_192 (by decide) ?_
      refine g_callVi (pc := 193) (As := [.int (l3), .int (3)]) C (kX9_its X σ b l3 3 hb) (blk hb 0 rfl) rfl q_20_12 q_20_13 q_20_14 q_1_5 q_20_15 ⟨rfl, hdX9_its⟩ ⟨Nat.le_of_ble_eq_true rfl, Nat.le_of_ble_eq_true rfl, rfl, rfl⟩ ⟨Nat.zero_le _, Nat.zero_le _⟩ (Nat.le_of_ble_eq_true rfl) rfl rfl dX9_told_193 (fun r10 _ => ?_)
      refine g_goto (pc := 196) (tgt := 200) C dX9_told_196 rfl ?_
      exact g_iret (pc := 200) C hr dX9_told_200 rfl
  refine g_tabout (pc := 42) (tgt := 201) C dX9_told_42 (tsw_out0_7 hz0 hz1 hz2 hz3 hz4 hz5 hz6 hz7) rfl ?_
  refine g_iload (pc := 201) C dX9_told_201 rfl ?_
  refine g_if_eq (pc := 203) (tgt := 220) C dX9_told_203 rfl ?_ ?_
  · refine g_iconst (pc := 220) (v := (-1)) C dX9_told_220 (by decide) ?_
    exact g_iret (pc := 221) C hr dX9_told_221 rfl
  · refine g_aload_n (pc := 206) (i := 0) C dX9_told_206 rfl rfl ?_
    refine g_aload_n (pc := 207) (i := 0) C dX9_told_207 rfl rfl ?_
    refine g_iload_n (pc := 208) (i := 3) C dX9_told_208 rfl rfl ?_
    refine g_iconst (pc := 209) (v := 1) C dX9_told_209 (by decide) ?_
    refine g_callVi (pc := 210) (As := [.int (l3), .int (1)]) C (kX9_its X σ b l3 1 hb) (blk hb 0 rfl) rfl q_20_12 q_20_13 q_20_14 q_1_5 q_20_15 ⟨rfl, hdX9_its⟩ ⟨Nat.le_of_ble_eq_true rfl, Nat.le_of_ble_eq_true rfl, rfl, rfl⟩ ⟨Nat.zero_le _, Nat.zero_le _⟩ (Nat.le_of_ble_eq_true rfl) rfl rfl dX9_told_210 (fun r11 _ => ?_)
    refine g_iconst (pc := 213) (v := 2) C dX9_told_213 (by decide) ?_
    refine g_callVi (pc := 214) (As := [.int (r11), .int (2)]) C (kX9_its X σ b r11 2 hb) (blk hb 0 rfl) rfl q_20_12 q_20_13 q_20_14 q_1_5 q_20_15 ⟨rfl, hdX9_its⟩ ⟨Nat.le_of_ble_eq_true rfl, Nat.le_of_ble_eq_true rfl, rfl, rfl⟩ ⟨Nat.zero_le _, Nat.zero_le _⟩ (Nat.le_of_ble_eq_true rfl) rfl rfl dX9_told_214 (fun r12 _ => ?_)
    refine g_goto (pc := 217) (tgt := 221) C dX9_told_217 rfl ?_
    exact g_iret (pc := 221) C hr dX9_told_221 rfl
def fX9_told_38 (σ : Sg) (b : Nat) (l1 : Int32) (l2 : Int32) (l3 : Int32) (l4 : Int32) : Option Int32 :=
  (fX9_told_39 σ b l1 l2 l3 l4 0)
theorem bX9_told_38 {X : Xc} {K : Kc} (C : MC X K cX9_told 6 RX9 rmX9_told) (hr : K.meth.sig.returnType = (some .int)) (σ : Sg) (b : Nat) (hb : moOK b) (l1 : Int32) (l2 : Int32) (l3 : Int32) (l4 : Int32) : GO X K 6 (fun r => MQi X K r σ) (fX9_told_38 σ b l1 l2 l3 l4) σ 0 0 38 [some (.ref (X.ad b)), some (.int (l1)), some (.int (l2)), some (.int (l3)), some (.int (l4)), none] [] := by
  unfold fX9_told_38
  refine g_iconst (pc := 38) (v := 0) C dX9_told_38 (by decide) ?_
  refine g_keep [true, true, true, true, true, false] ?_
  exact bX9_told_39 C hr σ b hb l1 l2 l3 l4 0
def fX9_told_17 (σ : Sg) (b : Nat) (l1 : Int32) (l2 : Int32) (l3 : Int32) (s0 : Int32) : Option Int32 :=
  if s0 = 0 then
    (fX9_told_38 σ b l1 l2 l3 s0)
  else
    (fX9_its σ b l3 1).bind fun r2 =>
    if r2 = (-1) then
      (fX9_told_38 σ b l1 l2 l3 s0)
    else
      (fX9_told_39 σ b l1 l2 l3 s0 1)
theorem bX9_told_17 {X : Xc} {K : Kc} (C : MC X K cX9_told 6 RX9 rmX9_told) (hr : K.meth.sig.returnType = (some .int)) (σ : Sg) (b : Nat) (hb : moOK b) (l1 : Int32) (l2 : Int32) (l3 : Int32) (s0 : Int32) : GO X K 6 (fun r => MQi X K r σ) (fX9_told_17 σ b l1 l2 l3 s0) σ 0 0 17 [some (.ref (X.ad b)), some (.int (l1)), some (.int (l2)), some (.int (l3)), none, none] [.int (s0)] := by
  unfold fX9_told_17
  refine g_istore (pc := 17) C dX9_told_17 (Nat.le_of_ble_eq_true rfl) rfl ?_
  refine g_iload (pc := 19) C dX9_told_19 rfl ?_
  refine g_if_eq (pc := 21) (tgt := 38) C dX9_told_21 rfl ?_ ?_
  · refine g_keep [true, true, true, true, true, false] ?_
    exact bX9_told_38 C hr σ b hb l1 l2 l3 s0
  · refine g_aload_n (pc := 24) (i := 0) C dX9_told_24 rfl rfl ?_
    refine g_iload_n (pc := 25) (i := 3) C dX9_told_25 rfl rfl ?_
    refine g_iconst (pc := 26) (v := 1) C dX9_told_26 (by decide) ?_
    refine g_callVi (pc := 27) (As := [.int (l3), .int (1)]) C (kX9_its X σ b l3 1 hb) (blk hb 0 rfl) rfl q_20_12 q_20_13 q_20_14 q_1_5 q_20_15 ⟨rfl, hdX9_its⟩ ⟨Nat.le_of_ble_eq_true rfl, Nat.le_of_ble_eq_true rfl, rfl, rfl⟩ ⟨Nat.zero_le _, Nat.zero_le _⟩ (Nat.le_of_ble_eq_true rfl) rfl rfl dX9_told_27 (fun r2 _ => ?_)
    refine g_iconst (pc := 30) (v := (-1)) C dX9_told_30 (by decide) ?_
    refine g_icmp_eq (pc := 31) (tgt := 38) C dX9_told_31 rfl ?_ ?_
    · refine g_keep [true, true, true, true, true, false] ?_
      exact bX9_told_38 C hr σ b hb l1 l2 l3 s0
    · refine g_iconst (pc := 34) (v := 1) C dX9_told_34 (by decide) ?_
      refine g_goto (pc := 35) (tgt := 39) C dX9_told_35 rfl ?_
      refine g_keep [true, true, true, true, true, false] ?_
      exact bX9_told_39 C hr σ b hb l1 l2 l3 s0 1
def fX9_told (σ : Sg) (b : Nat) (p1 : Int32) (p2 : Int32) : Option Int32 :=
  (fX9_of σ b p1 3).bind fun r1 =>
  if r1 = (-1) then
    (fX9_told_17 σ b p1 p2 r1 0)
  else
    (fX9_told_17 σ b p1 p2 r1 1)
theorem kX9_told (X : Xc) (σ : Sg) (b : Nat) (p1 : Int32) (p2 : Int32) (hb : moOK b) : ∀ r, fX9_told σ b p1 p2 = some r → Met X.l yX9_told (wsM yX9_told cX9_told 6 (some .int)) rmX9_told (va_Pc [.ref (X.ad b), .int p1, .int p2] (PW X σ)) (Qi X r σ) 0 0 X.A := by
  refine mt_of (own := RX9) (lo := [some (.ref (X.ad b)), some (.int (p1)), some (.int (p2)), none, none, none]) (by decide) rfl (Nat.le_of_ble_eq_true rfl) rfl (fun K C hr => ?_)
  unfold fX9_told
  refine g_aload_n (pc := 0) (i := 0) C dX9_told_0 rfl rfl ?_
  refine g_iload_n (pc := 1) (i := 1) C dX9_told_1 rfl rfl ?_
  refine g_iconst (pc := 2) (v := 3) C dX9_told_2 (by decide) ?_
  refine g_callVi (pc := 3) (As := [.int (p1), .int (3)]) C (kX9_of X σ b p1 3 hb) (blk hb 0 rfl) rfl q_10_2 q_10_3 q_10_4 q_1_5 q_10_5 ⟨rfl, hdX9_of⟩ ⟨Nat.le_of_ble_eq_true rfl, Nat.le_of_ble_eq_true rfl, rfl, rfl⟩ ⟨Nat.zero_le _, Nat.zero_le _⟩ (Nat.le_of_ble_eq_true rfl) rfl rfl dX9_told_3 (fun r1 _ => ?_)
  refine g_istore_n (pc := 6) (i := 3) C dX9_told_6 rfl (Nat.le_of_ble_eq_true rfl) rfl ?_
  refine g_iload_n (pc := 7) (i := 3) C dX9_told_7 rfl rfl ?_
  refine g_iconst (pc := 8) (v := (-1)) C dX9_told_8 (by decide) ?_
  refine g_icmp_eq (pc := 9) (tgt := 16) C dX9_told_9 rfl ?_ ?_
  · refine g_iconst (pc := 16) (v := 0) C dX9_told_16 (by decide) ?_
    refine g_keep [true, true, true, true, false, false] ?_
    exact bX9_told_17 C hr σ b hb p1 p2 r1 0
  · refine g_iconst (pc := 12) (v := 1) C dX9_told_12 (by decide) ?_
    refine g_goto (pc := 13) (tgt := 17) C dX9_told_13 rfl ?_
    refine g_keep [true, true, true, true, false, false] ?_
    exact bX9_told_17 C hr σ b hb p1 p2 r1 1
theorem dX9_pane_0 : decode cX9_pane 0 = .ok (.aload_n 0, 1) := by decide +kernel
theorem dX9_pane_1 : decode cX9_pane 1 = .ok (.aload_n 0, 1) := by decide +kernel
theorem dX9_pane_2 : decode cX9_pane 2 = .ok (.iload_n 1, 1) := by decide +kernel
theorem dX9_pane_3 : decode cX9_pane 3 = .ok (.invokevirtual 144, 3) := by decide +kernel
theorem dX9_pane_6 : decode cX9_pane 6 = .ok (.ifCond .ne 7, 3) := by decide +kernel
theorem dX9_pane_9 : decode cX9_pane 9 = .ok (.iconst 1, 1) := by decide +kernel
theorem dX9_pane_10 : decode cX9_pane 10 = .ok (.goto 18, 3) := by decide +kernel
theorem dX9_pane_13 : decode cX9_pane 13 = .ok (.iload_n 2, 1) := by decide +kernel
theorem dX9_pane_14 : decode cX9_pane 14 = .ok (.iconst 0, 1) := by decide +kernel
theorem dX9_pane_15 : decode cX9_pane 15 = .ok (.bipush 8, 2) := by decide +kernel
theorem dX9_pane_17 : decode cX9_pane 17 = .ok (.invokestatic 61, 3) := by decide +kernel
theorem dX9_pane_20 : decode cX9_pane 20 = .ok (.ifCond .ne 7, 3) := by decide +kernel
theorem dX9_pane_23 : decode cX9_pane 23 = .ok (.iconst 2, 1) := by decide +kernel
theorem dX9_pane_24 : decode cX9_pane 24 = .ok (.goto 4, 3) := by decide +kernel
theorem dX9_pane_27 : decode cX9_pane 27 = .ok (.iconst 0, 1) := by decide +kernel
theorem dX9_pane_28 : decode cX9_pane 28 = .ok (.invokevirtual 57, 3) := by decide +kernel
theorem dX9_pane_31 : decode cX9_pane 31 = .ok (.ifCond .eq 7, 3) := by decide +kernel
theorem dX9_pane_34 : decode cX9_pane 34 = .ok (.iconst 0, 1) := by decide +kernel
theorem dX9_pane_35 : decode cX9_pane 35 = .ok (.goto 9, 3) := by decide +kernel
theorem dX9_pane_38 : decode cX9_pane 38 = .ok (.aload_n 0, 1) := by decide +kernel
theorem dX9_pane_39 : decode cX9_pane 39 = .ok (.iload_n 1, 1) := by decide +kernel
theorem dX9_pane_40 : decode cX9_pane 40 = .ok (.iload_n 2, 1) := by decide +kernel
theorem dX9_pane_41 : decode cX9_pane 41 = .ok (.invokevirtual 160, 3) := by decide +kernel
theorem dX9_pane_44 : decode cX9_pane 44 = .ok (.ireturn, 1) := by decide +kernel
abbrev rmX9_pane : Room := { frames := 4, cells := 0, slots := 0, locals := 92 }
theorem hdX9_pane : yX9_pane.cls ≠ "java/lang/invoke/MethodHandle" ∧ yX9_pane.cls ≠ "java/lang/invoke/VarHandle" ∧ (parseMethodDescriptor yX9_pane.desc).map (fun d => d.parameters.length) = some 2 := by decide +kernel
def fX9_pane_28 (b : Nat) (σ : Sg) (l1 : Int32) (l2 : Int32) (s1 : Int32) : Option (Int32 × Sg) :=
  (fX9_refused σ b s1).bind fun r3 =>
  if r3.1 = true then
    some (0, r3.2)
  else
    (fX9_told r3.2 b l1 l2).bind fun r4 =>
    some (r4, r3.2)
theorem bX9_pane_28 {X : Xc} {K : Kc} (C : MC X K cX9_pane 3 RX9 rmX9_pane) (hr : K.meth.sig.returnType = (some .int)) (b : Nat) (hb : moOK b) (σ : Sg) (l1 : Int32) (l2 : Int32) (s1 : Int32) : GO X K 3 (fun r => MQi X K r.1 r.2) (fX9_pane_28 b σ l1 l2 s1) σ 0 0 28 [some (.ref (X.ad b)), some (.int (l1)), some (.int (l2))] [.int (s1), .ref (X.ad b)] := by
  unfold fX9_pane_28
  refine g_callVi (pc := 28) (As := [.int (s1)]) C (kX9_refused X σ b s1 hb) (blk hb 0 rfl) rfl q_10_9 q_10_10 q_10_11 q_1_5 q_10_12 ⟨rfl, hdX9_refused⟩ ⟨Nat.le_of_ble_eq_true rfl, Nat.le_of_ble_eq_true rfl, rfl, rfl⟩ ⟨Nat.zero_le _, Nat.zero_le _⟩ (Nat.le_of_ble_eq_true rfl) rfl rfl dX9_pane_28 (fun r3 _ => ?_)
  refine g_ifb_eq (pc := 31) (tgt := 38) C dX9_pane_31 rfl ?_ ?_
  · refine g_iconst (pc := 34) (v := 0) C dX9_pane_34 (by decide) ?_
    refine g_goto (pc := 35) (tgt := 44) C dX9_pane_35 rfl ?_
    exact g_iret (pc := 44) C hr dX9_pane_44 rfl
  · refine g_aload_n (pc := 38) (i := 0) C dX9_pane_38 rfl rfl ?_
    refine g_iload_n (pc := 39) (i := 1) C dX9_pane_39 rfl rfl ?_
    refine g_iload_n (pc := 40) (i := 2) C dX9_pane_40 rfl rfl ?_
    refine g_callVi (pc := 41) (As := [.int (l1), .int (l2)]) C (kX9_told X r3.2 b l1 l2 hb) (blk hb 0 rfl) rfl q_25_13 q_25_14 q_25_15 q_1_5 q_25_16 ⟨rfl, hdX9_told⟩ ⟨Nat.le_of_ble_eq_true rfl, Nat.le_of_ble_eq_true rfl, rfl, rfl⟩ ⟨Nat.zero_le _, Nat.zero_le _⟩ (Nat.le_of_ble_eq_true rfl) rfl rfl dX9_pane_41 (fun r4 _ => ?_)
    exact g_iret (pc := 44) C hr dX9_pane_44 rfl
def fX9_pane (σ : Sg) (b : Nat) (p1 : Int32) (p2 : Int32) : Option (Int32 × Sg) :=
  (fX9_isPane σ b p1).bind fun r1 =>
  if r1 = true then
    (fX9_within σ p2 0 8).bind fun r2 =>
    if r2 = true then
      (fX9_pane_28 b σ p1 p2 0)
    else
      (fX9_pane_28 b σ p1 p2 2)
  else
    (fX9_pane_28 b σ p1 p2 1)
theorem kX9_pane (X : Xc) (σ : Sg) (b : Nat) (p1 : Int32) (p2 : Int32) (hb : moOK b) : ∀ r, fX9_pane σ b p1 p2 = some r → Met X.l yX9_pane (wsM yX9_pane cX9_pane 3 (some .int)) rmX9_pane (va_Pc [.ref (X.ad b), .int p1, .int p2] (PW X σ)) (Qi X r.1 r.2) 0 0 X.A := by
  refine mt_of (own := RX9) (lo := [some (.ref (X.ad b)), some (.int (p1)), some (.int (p2))]) (by decide) rfl (Nat.le_of_ble_eq_true rfl) rfl (fun K C hr => ?_)
  unfold fX9_pane
  refine g_aload_n (pc := 0) (i := 0) C dX9_pane_0 rfl rfl ?_
  refine g_aload_n (pc := 1) (i := 0) C dX9_pane_1 rfl rfl ?_
  refine g_iload_n (pc := 2) (i := 1) C dX9_pane_2 rfl rfl ?_
  refine g_callVi (pc := 3) (As := [.int (p1)]) C (kX9_isPane X σ b p1 hb) (blk hb 0 rfl) rfl q_19_16 q_19_17 q_19_18 q_1_5 q_19_19 ⟨rfl, hdX9_isPane⟩ ⟨Nat.le_of_ble_eq_true rfl, Nat.le_of_ble_eq_true rfl, rfl, rfl⟩ ⟨Nat.zero_le _, Nat.zero_le _⟩ (Nat.le_of_ble_eq_true rfl) rfl rfl dX9_pane_3 (fun r1 _ => ?_)
  refine g_ifb_ne (pc := 6) (tgt := 13) C dX9_pane_6 rfl ?_ ?_
  · refine g_iload_n (pc := 13) (i := 2) C dX9_pane_13 rfl rfl ?_
    refine g_iconst (pc := 14) (v := 0) C dX9_pane_14 (by decide) ?_
    refine g_bipush (pc := 15) (v := 8) C dX9_pane_15 (by decide) ?_
    refine g_callSi (pc := 17) (As := [.int (p2), .int (0), .int (8)]) C (kX9_within X σ p2 0 8) q_10_6 q_10_7 q_1_5 q_10_8 hdX9_within ⟨Nat.le_of_ble_eq_true rfl, Nat.le_of_ble_eq_true rfl, rfl, rfl⟩ ⟨Nat.zero_le _, Nat.zero_le _⟩ (Nat.le_of_ble_eq_true rfl) rfl rfl dX9_pane_17 (fun r2 _ => ?_)
    refine g_ifb_ne (pc := 20) (tgt := 27) C dX9_pane_20 rfl ?_ ?_
    · refine g_iconst (pc := 27) (v := 0) C dX9_pane_27 (by decide) ?_
      refine g_keep [true, true, true] ?_
      exact bX9_pane_28 C hr b hb σ p1 p2 0
    · refine g_iconst (pc := 23) (v := 2) C dX9_pane_23 (by decide) ?_
      refine g_goto (pc := 24) (tgt := 28) C dX9_pane_24 rfl ?_
      refine g_keep [true, true, true] ?_
      exact bX9_pane_28 C hr b hb σ p1 p2 2
  · refine g_iconst (pc := 9) (v := 1) C dX9_pane_9 (by decide) ?_
    refine g_goto (pc := 10) (tgt := 28) C dX9_pane_10 rfl ?_
    refine g_keep [true, true, true] ?_
    exact bX9_pane_28 C hr b hb σ p1 p2 1
theorem dX9_laysDepths_0 : decode cX9_laysDepths 0 = .ok (.iconst 0, 1) := by decide +kernel
theorem dX9_laysDepths_1 : decode cX9_laysDepths 1 = .ok (.istore_n 1, 1) := by decide +kernel
theorem dX9_laysDepths_2 : decode cX9_laysDepths 2 = .ok (.iload_n 1, 1) := by decide +kernel
theorem dX9_laysDepths_3 : decode cX9_laysDepths 3 = .ok (.bipush 24, 2) := by decide +kernel
theorem dX9_laysDepths_5 : decode cX9_laysDepths 5 = .ok (.if_icmp .ge 57, 3) := by decide +kernel
theorem dX9_laysDepths_8 : decode cX9_laysDepths 8 = .ok (.aload_n 0, 1) := by decide +kernel
theorem dX9_laysDepths_9 : decode cX9_laysDepths 9 = .ok (.getfield 19, 3) := by decide +kernel
theorem dX9_laysDepths_12 : decode cX9_laysDepths 12 = .ok (.iload_n 1, 1) := by decide +kernel
theorem dX9_laysDepths_13 : decode cX9_laysDepths 13 = .ok (.iconst 0, 1) := by decide +kernel
theorem dX9_laysDepths_14 : decode cX9_laysDepths 14 = .ok (.iastore, 1) := by decide +kernel
theorem dX9_laysDepths_15 : decode cX9_laysDepths 15 = .ok (.iload_n 1, 1) := by decide +kernel
theorem dX9_laysDepths_16 : decode cX9_laysDepths 16 = .ok (.istore_n 2, 1) := by decide +kernel
theorem dX9_laysDepths_17 : decode cX9_laysDepths 17 = .ok (.aload_n 0, 1) := by decide +kernel
theorem dX9_laysDepths_18 : decode cX9_laysDepths 18 = .ok (.iload_n 1, 1) := by decide +kernel
theorem dX9_laysDepths_19 : decode cX9_laysDepths 19 = .ok (.iconst 0, 1) := by decide +kernel
theorem dX9_laysDepths_20 : decode cX9_laysDepths 20 = .ok (.invokevirtual 76, 3) := by decide +kernel
theorem dX9_laysDepths_23 : decode cX9_laysDepths 23 = .ok (.ifCond .eq 33, 3) := by decide +kernel
theorem dX9_laysDepths_26 : decode cX9_laysDepths 26 = .ok (.aload_n 0, 1) := by decide +kernel
theorem dX9_laysDepths_27 : decode cX9_laysDepths 27 = .ok (.iload_n 2, 1) := by decide +kernel
theorem dX9_laysDepths_28 : decode cX9_laysDepths 28 = .ok (.iconst 1, 1) := by decide +kernel
theorem dX9_laysDepths_29 : decode cX9_laysDepths 29 = .ok (.invokevirtual 76, 3) := by decide +kernel
theorem dX9_laysDepths_32 : decode cX9_laysDepths 32 = .ok (.iconst (-1), 1) := by decide +kernel
theorem dX9_laysDepths_33 : decode cX9_laysDepths 33 = .ok (.if_icmp .eq 23, 3) := by decide +kernel
theorem dX9_laysDepths_36 : decode cX9_laysDepths 36 = .ok (.aload_n 0, 1) := by decide +kernel
theorem dX9_laysDepths_37 : decode cX9_laysDepths 37 = .ok (.getfield 19, 3) := by decide +kernel
theorem dX9_laysDepths_40 : decode cX9_laysDepths 40 = .ok (.iload_n 1, 1) := by decide +kernel
theorem dX9_laysDepths_41 : decode cX9_laysDepths 41 = .ok (.dup2, 1) := by decide +kernel
theorem dX9_laysDepths_42 : decode cX9_laysDepths 42 = .ok (.iaload, 1) := by decide +kernel
theorem dX9_laysDepths_43 : decode cX9_laysDepths 43 = .ok (.iconst 1, 1) := by decide +kernel
theorem dX9_laysDepths_44 : decode cX9_laysDepths 44 = .ok (.iadd, 1) := by decide +kernel
theorem dX9_laysDepths_45 : decode cX9_laysDepths 45 = .ok (.iastore, 1) := by decide +kernel
theorem dX9_laysDepths_46 : decode cX9_laysDepths 46 = .ok (.aload_n 0, 1) := by decide +kernel
theorem dX9_laysDepths_47 : decode cX9_laysDepths 47 = .ok (.iload_n 2, 1) := by decide +kernel
theorem dX9_laysDepths_48 : decode cX9_laysDepths 48 = .ok (.iconst 1, 1) := by decide +kernel
theorem dX9_laysDepths_49 : decode cX9_laysDepths 49 = .ok (.invokevirtual 76, 3) := by decide +kernel
theorem dX9_laysDepths_52 : decode cX9_laysDepths 52 = .ok (.istore_n 2, 1) := by decide +kernel
theorem dX9_laysDepths_53 : decode cX9_laysDepths 53 = .ok (.goto (-36), 3) := by decide +kernel
theorem dX9_laysDepths_56 : decode cX9_laysDepths 56 = .ok (.iinc 1 1, 3) := by decide +kernel
theorem dX9_laysDepths_59 : decode cX9_laysDepths 59 = .ok (.goto (-57), 3) := by decide +kernel
theorem dX9_laysDepths_62 : decode cX9_laysDepths 62 = .ok (.return_, 1) := by decide +kernel
abbrev rmX9_laysDepths : Room := { frames := 1, cells := 0, slots := 0, locals := 22 }
theorem hdX9_laysDepths : yX9_laysDepths.cls ≠ "java/lang/invoke/MethodHandle" ∧ yX9_laysDepths.cls ≠ "java/lang/invoke/VarHandle" ∧ (parseMethodDescriptor yX9_laysDepths.desc).map (fun d => d.parameters.length) = some 0 := by decide +kernel
def fX9_laysDepths_56 (b : Nat) (k2 : Sg → Int32 → Option Sg) (σ : Sg) (l1 : Int32) : Option Sg :=
  (k2 σ (l1 + 1))
theorem bX9_laysDepths_56 {X : Xc} {K : Kc} (C : MC X K cX9_laysDepths 3 RX9 rmX9_laysDepths) (hr : K.meth.sig.returnType = none) (b : Nat) (hb : moOK b){k2 : Sg → Int32 → Option Sg} (hk2 : ∀ (σ : Sg) (l1 : Int32), GO X K 3 (fun r => MQv X K r) (k2 σ l1) σ 0 0 2 [some (.ref (X.ad b)), some (.int (l1)), none] []) (σ : Sg) (l1 : Int32) : GO X K 3 (fun r => MQv X K r) (fX9_laysDepths_56 b k2 σ l1) σ 0 0 56 [some (.ref (X.ad b)), some (.int (l1)), none] [] := by
  unfold fX9_laysDepths_56
  refine g_iinc (pc := 56) (v := l1 + 1) C dX9_laysDepths_56 rfl (rfl) (Nat.le_of_ble_eq_true rfl) rfl ?_
  refine g_goto (pc := 59) (tgt := 2) C dX9_laysDepths_59 rfl ?_
  refine g_keep [true, true, false] ?_
  exact hk2 σ (l1 + 1)
def fX9_laysDepths_17 (b : Nat) (k2 : Sg → Int32 → Option Sg) : Nat → Sg → Int32 → Int32 → Option Sg
  | 0, _, _, _ => none
  | n + 1, σ, l1, l2 =>
    (fX9_its σ b l1 0).bind fun r2 =>
    if r2 = 0 then
      (fX9_laysDepths_56 b k2 σ l1)
    else
      (fX9_its σ b l2 1).bind fun r3 =>
      if r3 = (-1) then
        (fX9_laysDepths_56 b k2 σ l1)
      else
        if ck l1 24 then
          if ck l1 24 then
            nm (su σ (b + 4) l1.toNatClampNeg ((σ.1 (b + 4) l1.toNatClampNeg) + 1)) fun σ4 =>
            (fX9_its σ4 b l2 1).bind fun r5 =>
            ((fX9_laysDepths_17 b k2 n) σ4 l1 r5)
          else none
        else none
theorem bX9_laysDepths_17 {X : Xc} {K : Kc} (C : MC X K cX9_laysDepths 3 RX9 rmX9_laysDepths) (hr : K.meth.sig.returnType = none) (b : Nat) (hb : moOK b){k2 : Sg → Int32 → Option Sg} (hk2 : ∀ (σ : Sg) (l1 : Int32), GO X K 3 (fun r => MQv X K r) (k2 σ l1) σ 0 0 2 [some (.ref (X.ad b)), some (.int (l1)), none] []) : ∀ (n : Nat) (σ : Sg) (l1 : Int32) (l2 : Int32), GO X K 3 (fun r => MQv X K r) (fX9_laysDepths_17 b k2 n σ l1 l2) σ 0 0 17 [some (.ref (X.ad b)), some (.int (l1)), some (.int (l2))] [] := by
  intro n
  induction n with
  | zero =>
    intro σ l1 l2
    exact g_none
  | succ n ih =>
    intro σ l1 l2
    unfold fX9_laysDepths_17
    refine g_aload_n (pc := 17) (i := 0) C dX9_laysDepths_17 rfl rfl ?_
    refine g_iload_n (pc := 18) (i := 1) C dX9_laysDepths_18 rfl rfl ?_
    refine g_iconst (pc := 19) (v := 0) C dX9_laysDepths_19 (by decide) ?_
    refine g_callVi (pc := 20) (As := [.int (l1), .int (0)]) C (kX9_its X σ b l1 0 hb) (blk hb 0 rfl) rfl q_20_12 q_20_13 q_20_14 q_1_5 q_20_15 ⟨rfl, hdX9_its⟩ ⟨Nat.le_of_ble_eq_true rfl, Nat.le_of_ble_eq_true rfl, rfl, rfl⟩ ⟨Nat.zero_le _, Nat.zero_le _⟩ (Nat.le_of_ble_eq_true rfl) rfl rfl dX9_laysDepths_20 (fun r2 _ => ?_)
    refine g_if_eq (pc := 23) (tgt := 56) C dX9_laysDepths_23 rfl ?_ ?_
    · refine g_keep [true, true, false] ?_
      exact bX9_laysDepths_56 C hr b hb hk2 σ l1
    · refine g_aload_n (pc := 26) (i := 0) C dX9_laysDepths_26 rfl rfl ?_
      refine g_iload_n (pc := 27) (i := 2) C dX9_laysDepths_27 rfl rfl ?_
      refine g_iconst (pc := 28) (v := 1) C dX9_laysDepths_28 (by decide) ?_
      refine g_callVi (pc := 29) (As := [.int (l2), .int (1)]) C (kX9_its X σ b l2 1 hb) (blk hb 0 rfl) rfl q_20_12 q_20_13 q_20_14 q_1_5 q_20_15 ⟨rfl, hdX9_its⟩ ⟨Nat.le_of_ble_eq_true rfl, Nat.le_of_ble_eq_true rfl, rfl, rfl⟩ ⟨Nat.zero_le _, Nat.zero_le _⟩ (Nat.le_of_ble_eq_true rfl) rfl rfl dX9_laysDepths_29 (fun r3 _ => ?_)
      refine g_iconst (pc := 32) (v := (-1)) C dX9_laysDepths_32 (by decide) ?_
      refine g_icmp_eq (pc := 33) (tgt := 56) C dX9_laysDepths_33 rfl ?_ ?_
      · refine g_keep [true, true, false] ?_
        exact bX9_laysDepths_56 C hr b hb hk2 σ l1
      · refine g_aload_n (pc := 36) (i := 0) C dX9_laysDepths_36 rfl rfl ?_
        refine g_getr (pc := 37) (ci := 9) (N := 27) (T := TX9) (j := 6) (Cn := RX9) (b + 4) C rfl inlX9 (Nat.le_of_ble_eq_true rfl) q_6_5 (blk hb 0 rfl) rfl dX9_laysDepths_37 ?_
        refine g_iload_n (pc := 40) (i := 1) C dX9_laysDepths_40 rfl rfl ?_
        refine g_dup2 (pc := 41) C dX9_laysDepths_41 rfl rfl ?_
        refine g_iaload (pc := 42) C (blk hb 4 rfl) dX9_laysDepths_42 ?_
        refine g_iconst (pc := 43) (v := 1) C dX9_laysDepths_43 (by decide) ?_
        refine g_iadd (pc := 44) C dX9_laysDepths_44 ?_
        refine g_iastore (pc := 45) C (blk hb 4 rfl) dX9_laysDepths_45 ?_
        refine g_nms (fun σ4 => ?_)
        refine g_aload_n (pc := 46) (i := 0) C dX9_laysDepths_46 rfl rfl ?_
        refine g_iload_n (pc := 47) (i := 2) C dX9_laysDepths_47 rfl rfl ?_
        refine g_iconst (pc := 48) (v := 1) C dX9_laysDepths_48 (by decide) ?_
        refine g_callVi (pc := 49) (As := [.int (l2), .int (1)]) C (kX9_its X σ4 b l2 1 hb) (blk hb 0 rfl) rfl q_20_12 q_20_13 q_20_14 q_1_5 q_20_15 ⟨rfl, hdX9_its⟩ ⟨Nat.le_of_ble_eq_true rfl, Nat.le_of_ble_eq_true rfl, rfl, rfl⟩ ⟨Nat.zero_le _, Nat.zero_le _⟩ (Nat.le_of_ble_eq_true rfl) rfl rfl dX9_laysDepths_49 (fun r5 _ => ?_)
        refine g_istore_n (pc := 52) (i := 2) C dX9_laysDepths_52 rfl (Nat.le_of_ble_eq_true rfl) rfl ?_
        refine g_goto (pc := 53) (tgt := 17) C dX9_laysDepths_53 rfl ?_
        refine g_keep [true, true, true] ?_
        exact ih σ4 l1 r5
def fX9_laysDepths_2 (b : Nat) : Nat → Sg → Int32 → Option Sg
  | 0, _, _ => none
  | n + 1, σ, l1 =>
    if 24 ≤ l1 then
      some σ
    else
      if ck l1 24 then
        nm (su σ (b + 4) l1.toNatClampNeg 0) fun σ1 =>
        (fX9_laysDepths_17 b (fX9_laysDepths_2 b n) FU σ1 l1 l1)
      else none
theorem bX9_laysDepths_2 {X : Xc} {K : Kc} (C : MC X K cX9_laysDepths 3 RX9 rmX9_laysDepths) (hr : K.meth.sig.returnType = none) (b : Nat) (hb : moOK b) : ∀ (n : Nat) (σ : Sg) (l1 : Int32), GO X K 3 (fun r => MQv X K r) (fX9_laysDepths_2 b n σ l1) σ 0 0 2 [some (.ref (X.ad b)), some (.int (l1)), none] [] := by
  intro n
  induction n with
  | zero =>
    intro σ l1
    exact g_none
  | succ n ih =>
    intro σ l1
    unfold fX9_laysDepths_2
    refine g_iload_n (pc := 2) (i := 1) C dX9_laysDepths_2 rfl rfl ?_
    refine g_bipush (pc := 3) (v := 24) C dX9_laysDepths_3 (by decide) ?_
    refine g_icmp_ge (pc := 5) (tgt := 62) C dX9_laysDepths_5 rfl ?_ ?_
    · exact g_vret (pc := 62) C hr dX9_laysDepths_62 rfl
    · refine g_aload_n (pc := 8) (i := 0) C dX9_laysDepths_8 rfl rfl ?_
      refine g_getr (pc := 9) (ci := 9) (N := 27) (T := TX9) (j := 6) (Cn := RX9) (b + 4) C rfl inlX9 (Nat.le_of_ble_eq_true rfl) q_6_5 (blk hb 0 rfl) rfl dX9_laysDepths_9 ?_
      refine g_iload_n (pc := 12) (i := 1) C dX9_laysDepths_12 rfl rfl ?_
      refine g_iconst (pc := 13) (v := 0) C dX9_laysDepths_13 (by decide) ?_
      refine g_iastore (pc := 14) C (blk hb 4 rfl) dX9_laysDepths_14 ?_
      refine g_nms (fun σ1 => ?_)
      refine g_iload_n (pc := 15) (i := 1) C dX9_laysDepths_15 rfl rfl ?_
      refine g_istore_n (pc := 16) (i := 2) C dX9_laysDepths_16 rfl (Nat.le_of_ble_eq_true rfl) rfl ?_
      refine g_keep [true, true, true] ?_
      exact bX9_laysDepths_17 C hr b hb ih FU σ1 l1 l1
def fX9_laysDepths (σ : Sg) (b : Nat) : Option Sg :=
  (fX9_laysDepths_2 b FU σ 0)
theorem kX9_laysDepths (X : Xc) (σ : Sg) (b : Nat) (hb : moOK b) : ∀ r, fX9_laysDepths σ b = some r → Met X.l yX9_laysDepths (wsM yX9_laysDepths cX9_laysDepths 3 none) rmX9_laysDepths (va_Pc [.ref (X.ad b)] (PW X σ)) (Qv X r) 0 0 X.A := by
  refine mt_of (own := RX9) (lo := [some (.ref (X.ad b)), none, none]) (by decide) rfl (Nat.le_of_ble_eq_true rfl) rfl (fun K C hr => ?_)
  unfold fX9_laysDepths
  refine g_iconst (pc := 0) (v := 0) C dX9_laysDepths_0 (by decide) ?_
  refine g_istore_n (pc := 1) (i := 1) C dX9_laysDepths_1 rfl (Nat.le_of_ble_eq_true rfl) rfl ?_
  refine g_keep [true, true, false] ?_
  exact bX9_laysDepths_2 C hr b hb FU σ 0

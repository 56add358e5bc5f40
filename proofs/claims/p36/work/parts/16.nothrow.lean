/-! by program out of the class files: each method as a function over the store, and its contract by a walk -/
abbrev rmX8_requirePaneN : Room := { frames := 1, cells := 0, slots := 0, locals := 21 }
theorem hdX8_requirePaneN : yX8_requirePane.cls ≠ "java/lang/invoke/MethodHandle" ∧ yX8_requirePane.cls ≠ "java/lang/invoke/VarHandle" ∧ (parseMethodDescriptor yX8_requirePane.desc).map (fun d => d.parameters.length) = some 1 := by decide +kernel
def fX8_requirePaneN (σ : Sg) (p1 : Int32) : Option Unit :=
  (fX4_exists σ 1 p1).bind fun r1 =>
  if r1 = true then
    some ()
  else
    none
theorem kX8_requirePaneN (X : Xc) (σ : Sg) (p1 : Int32) : ∀ r, fX8_requirePaneN σ p1 = some r → Met X.l yX8_requirePane (wsM yX8_requirePane cX8_requirePane 2 none) rmX8_requirePaneN (va_Pc [.ref (X.ad 0), .int p1] (PW X σ)) (Qv X σ) 0 0 X.A := by
  refine mt_of (own := RX8) (lo := [some (.ref (X.ad 0)), some (.int (p1))]) (by decide) rfl (Nat.le_of_ble_eq_true rfl) rfl (fun K C hr => ?_)
  unfold fX8_requirePaneN
  refine g_aload_n (pc := 0) (i := 0) C dX8_requirePane_0 rfl rfl ?_
  refine g_getr (pc := 1) (ci := 8) (N := 8) (T := TX8) (j := 0) (Cn := RX8) 1 C rfl inlX8 (Nat.le_of_ble_eq_true rfl) q_1_16 ok_dl rfl dX8_requirePane_1 ?_
  refine g_iload_n (pc := 4) (i := 1) C dX8_requirePane_4 rfl rfl ?_
  refine g_callVi (pc := 5) (As := [.int (p1)]) C (kX4_exists X σ 1 p1 ok_now) (blk ok_now 0 rfl) rfl q_11_13 q_7_17 q_7_18 q_1_15 q_7_19 ⟨rfl, hdX4_exists⟩ ⟨Nat.le_of_ble_eq_true rfl, Nat.le_of_ble_eq_true rfl, rfl, rfl⟩ ⟨Nat.zero_le _, Nat.zero_le _⟩ (Nat.le_of_ble_eq_true rfl) rfl rfl dX8_requirePane_5 (fun r1 _ => ?_)
  refine g_ifb_ne (pc := 8) (tgt := 22) C dX8_requirePane_8 rfl ?_ ?_
  · exact g_vret (pc := 22) C hr dX8_requirePane_22 rfl
  · exact g_none
abbrev rmX8_requireRangeN : Room := { frames := 0, cells := 0, slots := 0, locals := 0 }
theorem hdX8_requireRangeN : yX8_requireRange.cls ≠ "java/lang/invoke/MethodHandle" ∧ yX8_requireRange.cls ≠ "java/lang/invoke/VarHandle" ∧ (parseMethodDescriptor yX8_requireRange.desc).map (fun d => d.parameters.length) = some 3 := by decide +kernel
def fX8_requireRangeN_10 (σ : Sg) : Option Unit :=
  none
theorem bX8_requireRangeN_10 {X : Xc} {K : Kc} (C : MC X K cX8_requireRange 3 RX8 rmX8_requireRangeN) (hr : K.meth.sig.returnType = none) (σ : Sg) : GO X K 3 (fun (_ : Unit) => MQv X K σ) (fX8_requireRangeN_10 σ) σ 0 0 10 [none, none, none] [] := by
  unfold fX8_requireRangeN_10
  exact g_none
def fX8_requireRangeN (σ : Sg) (p0 : Int32) (p1 : Int32) (p2 : Int32) : Option Unit :=
  if p0 < p1 then
    (fX8_requireRangeN_10 σ)
  else
    if p0 ≤ p2 then
      some ()
    else
      (fX8_requireRangeN_10 σ)
theorem kX8_requireRangeN (X : Xc) (σ : Sg) (p0 : Int32) (p1 : Int32) (p2 : Int32) : ∀ r, fX8_requireRangeN σ p0 p1 p2 = some r → Met X.l yX8_requireRange (wsM yX8_requireRange cX8_requireRange 3 none) rmX8_requireRangeN (va_Pc [.int p0, .int p1, .int p2] (PW X σ)) (Qv X σ) 0 0 X.A := by
  refine mt_of (own := RX8) (lo := [some (.int (p0)), some (.int (p1)), some (.int (p2))]) (by decide) rfl (Nat.le_of_ble_eq_true rfl) rfl (fun K C hr => ?_)
  unfold fX8_requireRangeN
  refine g_iload_n (pc := 0) (i := 0) C dX8_requireRange_0 rfl rfl ?_
  refine g_iload_n (pc := 1) (i := 1) C dX8_requireRange_1 rfl rfl ?_
  refine g_icmp_lt (pc := 2) (tgt := 10) C dX8_requireRange_2 rfl ?_ ?_
  · refine g_keep [false, false, false] ?_
    exact bX8_requireRangeN_10 C hr σ
  · refine g_iload_n (pc := 5) (i := 0) C dX8_requireRange_5 rfl rfl ?_
    refine g_iload_n (pc := 6) (i := 2) C dX8_requireRange_6 rfl rfl ?_
    refine g_icmp_le (pc := 7) (tgt := 21) C dX8_requireRange_7 rfl ?_ ?_
    · exact g_vret (pc := 21) C hr dX8_requireRange_21 rfl
    · refine g_keep [false, false, false] ?_
      exact bX8_requireRangeN_10 C hr σ
abbrev rmX8_paneN : Room := { frames := 2, cells := 0, slots := 0, locals := 44 }
theorem hdX8_paneN : yX8_pane.cls ≠ "java/lang/invoke/MethodHandle" ∧ yX8_pane.cls ≠ "java/lang/invoke/VarHandle" ∧ (parseMethodDescriptor yX8_pane.desc).map (fun d => d.parameters.length) = some 2 := by decide +kernel
def fX8_paneN (σ : Sg) (p1 : Int32) (p2 : Int32) : Option Int32 :=
  (fX8_requirePaneN σ p1).bind fun σ1 =>
  (fX8_requireRangeN σ p2 0 8).bind fun σ2 =>
  (fX1_groupOf σ (1 + 5) p1).bind fun r3 =>
  if p2 = 0 then
    (fX8_at σ (1 + 1) 12 p1).bind fun r4 =>
    some r4
  else if p2 = 1 then
    (fX8_at σ (1 + 2) 12 p1).bind fun r5 =>
    some r5
  else if p2 = 2 then
    (fX1_windowOf σ (1 + 5) r3).bind fun r6 =>
    some r6
  else if p2 = 3 then
    (fX1_isHidden σ (1 + 5) p1).bind fun r7 =>
    if r7 = true then
      some 1
    else
      some 0
  else if p2 = 4 then
    if r3 = (-1) then
      some 0
    else
      (fX1_activeOf σ (1 + 5) r3).bind fun r8 =>
      if r8 = p1 then
        some 1
      else
        some 0
  else if p2 = 5 then
    (fX1_spotOf σ (1 + 5) p1).bind fun r9 =>
    some r9
  else if p2 = 6 then
    if r3 = (-1) then
      some (-1)
    else
      (fX1_tabCount σ (1 + 5) r3).bind fun r10 =>
      some r10
  else if p2 = 7 then
    (fX1_parentOf σ (1 + 5) r3).bind fun r11 =>
    if r11 = (-1) then
      some (-1)
    else
      (fX1_weightOf σ (1 + 5) r3).bind fun r12 =>
      some r12
  else 
    (fX1_parentOf σ (1 + 5) r3).bind fun r13 =>
    if r13 = (-1) then
      some (-1)
    else
      (fX1_parentOf σ (1 + 5) r3).bind fun r14 =>
      (fX1_kindOf σ (1 + 5) r14).bind fun r15 =>
      some r15
theorem kX8_paneN (X : Xc) (σ : Sg) (p1 : Int32) (p2 : Int32) : ∀ r, fX8_paneN σ p1 p2 = some r → Met X.l yX8_pane (wsM yX8_pane cX8_pane 5 (some .int)) rmX8_paneN (va_Pc [.ref (X.ad 0), .int p1, .int p2] (PW X σ)) (Qi X r σ) 0 0 X.A := by
  refine mt_of (own := RX8) (lo := [some (.ref (X.ad 0)), some (.int (p1)), some (.int (p2)), none, none]) (by decide) rfl (Nat.le_of_ble_eq_true rfl) rfl (fun K C hr => ?_)
  unfold fX8_paneN
  refine g_aload_n (pc := 0) (i := 0) C dX8_pane_0 rfl rfl ?_
  refine g_iload_n (pc := 1) (i := 1) C dX8_pane_1 rfl rfl ?_
  refine g_callVv (pc := 2) (As := [.int (p1)]) C (kX8_requirePaneN X σ p1) ok_dl rfl q_11_7 q_11_8 q_11_9 q_1_2 q_11_10 ⟨rfl, hdX8_requirePaneN⟩ ⟨Nat.le_of_ble_eq_true rfl, Nat.le_of_ble_eq_true rfl, rfl, rfl⟩ ⟨Nat.zero_le _, Nat.zero_le _⟩ (Nat.le_of_ble_eq_true rfl) rfl rfl dX8_pane_2 (fun σ1 _ => ?_)
  refine g_iload_n (pc := 5) (i := 2) C dX8_pane_5 rfl rfl ?_
  refine g_iconst (pc := 6) (v := 0) C dX8_pane_6 (by decide) ?_
  refine g_bipush (pc := 7) (v := 8) C dX8_pane_7 (by decide) ?_
  refine g_callSv (pc := 9) (As := [.int (p2), .int (0), .int (8)]) C (kX8_requireRangeN X σ p2 0 8) q_7_7 q_7_8 q_1_2 q_7_9 hdX8_requireRangeN ⟨Nat.le_of_ble_eq_true rfl, Nat.le_of_ble_eq_true rfl, rfl, rfl⟩ ⟨Nat.zero_le _, Nat.zero_le _⟩ (Nat.le_of_ble_eq_true rfl) rfl rfl dX8_pane_9 (fun σ2 _ => ?_)
  refine g_aload_n (pc := 12) (i := 0) C dX8_pane_12 rfl rfl ?_
  refine g_getr (pc := 13) (ci := 8) (N := 8) (T := TX8) (j := 0) (Cn := RX8) 1 C rfl inlX8 (Nat.le_of_ble_eq_true rfl) q_1_16 ok_dl rfl dX8_pane_13 ?_
  refine g_getNr (pc := 16) (ci := 4) (N := 7) (T := TX4) (j := 4) (Cn := RX4) (1 + 5) C rfl inlX4 (Nat.le_of_ble_eq_true rfl) (List.mem_of_getElem? (i := 10) rfl) (blk ok_now 0 rfl) rfl dX8_pane_16 ?_
  refine g_astore_n (pc := 19) (i := 3) C dX8_pane_19 rfl (Nat.le_of_ble_eq_true rfl) rfl ?_
  refine g_aload_n (pc := 20) (i := 3) C dX8_pane_20 rfl rfl ?_
  refine g_iload_n (pc := 21) (i := 1) C dX8_pane_21 rfl rfl ?_
  refine g_callVi (pc := 22) (As := [.int (p1)]) C (kX1_groupOf X σ (1 + 5) p1 (st_pl ok_now)) (blk (st_pl ok_now) 0 rfl) rfl q_24_18 q_11_19 q_11_20 q_2_23 q_11_21 ⟨rfl, hdX1_groupOf⟩ ⟨Nat.le_of_ble_eq_true rfl, Nat.le_of_ble_eq_true rfl, rfl, rfl⟩ ⟨Nat.zero_le _, Nat.zero_le _⟩ (Nat.le_of_ble_eq_true rfl) rfl rfl dX8_pane_22 (fun r3 _ => ?_)
  refine g_istore (pc := 25) C dX8_pane_25 (Nat.le_of_ble_eq_true rfl) rfl ?_
  refine g_iload_n (pc := 27) (i := 2) C dX8_pane_27 rfl rfl ?_
  refine g_ite (fun hz => ?_) (fun hz0 => ?_)
  · refine g_tabin (pc := 28) (tgt := 76) (z := 0) C dX8_pane_28 hz (by decide) (by decide) rfl rfl ?_
    refine g_aload_n (pc := 76) (i := 0) C dX8_pane_76 rfl rfl ?_
    refine g_getr (pc := 77) (ci := 8) (N := 8) (T := TX8) (j := 0) (Cn := RX8) 1 C rfl inlX8 (Nat.le_of_ble_eq_true rfl) q_1_16 ok_dl rfl dX8_pane_77 ?_
    refine g_getNr (pc := 80) (ci := 4) (N := 7) (T := TX4) (j := 1) (Cn := RX4) (1 + 1) C rfl inlX4 (Nat.le_of_ble_eq_true rfl) (List.mem_of_getElem? (i := 13) rfl) (blk ok_now 0 rfl) rfl dX8_pane_80 ?_
    refine g_iload_n (pc := 83) (i := 1) C dX8_pane_83 rfl rfl ?_
    refine g_callSi (pc := 84) (As := [.ref (X.ad (1 + 1)), .int (p1)]) C (kX8_at X σ (1 + 1) 12 p1 (blk ok_now 1 rfl)) q_23_22 q_11_22 q_1_2 q_11_23 hdX8_at ⟨Nat.le_of_ble_eq_true rfl, Nat.le_of_ble_eq_true rfl, rfl, rfl⟩ ⟨Nat.zero_le _, Nat.zero_le _⟩ (Nat.le_of_ble_eq_true rfl) rfl rfl dX8_pane_84 (fun r4 _ => ?_)
    exact g_iret (pc := 87) C hr dX8_pane_87 rfl
  refine g_ite (fun hz => ?_) (fun hz1 => ?_)
  · refine g_tabin (pc := 28) (tgt := 88) (z := 1) C dX8_pane_28 hz (by decide) (by decide) rfl rfl ?_
    refine g_aload_n (pc := 88) (i := 0) C dX8_pane_88 rfl rfl ?_
    refine g_getr (pc := 89) (ci := 8) (N := 8) (T := TX8) (j := 0) (Cn := RX8) 1 C rfl inlX8 (Nat.le_of_ble_eq_true rfl) q_1_16 ok_dl rfl dX8_pane_89 ?_
    refine g_getNr (pc := 92) (ci := 4) (N := 7) (T := TX4) (j := 2) (Cn := RX4) (1 + 2) C rfl inlX4 (Nat.le_of_ble_eq_true rfl) (List.mem_of_getElem? (i := 14) rfl) (blk ok_now 0 rfl) rfl dX8_pane_92 ?_
    refine g_iload_n (pc := 95) (i := 1) C dX8_pane_95 rfl rfl ?_
    refine g_callSi (pc := 96) (As := [.ref (X.ad (1 + 2)), .int (p1)]) C (kX8_at X σ (1 + 2) 12 p1 (blk ok_now 2 rfl)) q_23_22 q_11_22 q_1_2 q_11_23 hdX8_at ⟨Nat.le_of_ble_eq_true rfl, Nat.le_of_ble_eq_true rfl, rfl, rfl⟩ ⟨Nat.zero_le _, Nat.zero_le _⟩ (Nat.le_of_ble_eq_true rfl) rfl rfl dX8_pane_96 (fun r5 _ => ?_)
    exact g_iret (pc := 99) C hr dX8_pane_99 rfl
  refine g_ite (fun hz => ?_) (fun hz2 => ?_)
  · refine g_tabin (pc := 28) (tgt := 100) (z := 2) C dX8_pane_28 hz (by decide) (by decide) rfl rfl ?_
    refine g_aload_n (pc := 100) (i := 3) C dX8_pane_100 rfl rfl ?_
    refine g_iload (pc := 101) C dX8_pane_101 rfl ?_
    refine g_callVi (pc := 103) (As := [.int (r3)]) C (kX1_windowOf X σ (1 + 5) r3 (st_pl ok_now)) (blk (st_pl ok_now) 0 rfl) rfl q_24_19 q_13_9 q_13_10 q_2_23 q_13_11 ⟨rfl, hdX1_windowOf⟩ ⟨Nat.le_of_ble_eq_true rfl, Nat.le_of_ble_eq_true rfl, rfl, rfl⟩ ⟨Nat.zero_le _, Nat.zero_le _⟩ (Nat.le_of_ble_eq_true rfl) rfl rfl dX8_pane_103 (fun r6 _ => ?_)
    exact g_iret (pc := 106) C hr dX8_pane_106 rfl
  refine g_ite (fun hz => ?_) (fun hz3 => ?_)
  · refine g_tabin (pc := 28) (tgt := 107) (z := 3) C dX8_pane_28 hz (by decide) (by decide) rfl rfl ?_
    refine g_aload_n (pc := 107) (i := 3) C dX8_pane_107 rfl rfl ?_
    refine g_iload_n (pc := 108) (i := 1) C dX8_pane_108 rfl rfl ?_
    refine g_callVi (pc := 109) (As := [.int (p1)]) C (kX1_isHidden X σ (1 + 5) p1 (st_pl ok_now)) (blk (st_pl ok_now) 0 rfl) rfl q_24_20 q_12_17 q_12_18 q_2_23 q_12_19 ⟨rfl, hdX1_isHidden⟩ ⟨Nat.le_of_ble_eq_true rfl, Nat.le_of_ble_eq_true rfl, rfl, rfl⟩ ⟨Nat.zero_le _, Nat.zero_le _⟩ (Nat.le_of_ble_eq_true rfl) rfl rfl dX8_pane_109 (fun r7 _ => ?_)
    refine g_ifb_eq (pc := 112) (tgt := 119) C dX8_pane_112 rfl ?_ ?_
    · refine g_iconst (pc := 115) (v := 1) C dX8_pane_115 (by decide) ?_
      refine g_goto (pc := 116) (tgt := 120) C dX8_pane_116 rfl ?_
      exact g_iret (pc := 120) C hr dX8_pane_120 rfl
    · refine g_iconst (pc := 119) (v := 0) C dX8_pane_119 (by decide) ?_
      exact g_iret (pc := 120) C hr dX8_pane_120 rfl
  refine g_ite (fun hz => ?_) (fun hz4 => ?_)
  · refine g_tabin (pc := 28) (tgt := 121) (z := 4) C dX8_pane_28 hz (by decide) (by decide) rfl rfl ?_
    refine g_iload (pc := 121) C dX8_pane_121 rfl ?_
    refine g_iconst (pc := 123) (v := (-1)) C dX8_pane_123 (by decide) ?_
    refine g_icmp_eq (pc := 124) (tgt := 141) C dX8_pane_124 rfl ?_ ?_
    · refine g_iconst (pc := 141) (v := 0) C dX8_pane_141 (by decide) ?_
      exact g_iret (pc := 142) C hr dX8_pane_142 rfl
    · refine g_aload_n (pc := 127) (i := 3) C dX8_pane_127 rfl rfl ?_
      refine g_iload (pc := 128) C dX8_pane_128 rfl ?_
      refine g_callVi (pc := 130) (As := [.int (r3)]) C (kX1_activeOf X σ (1 + 5) r3 (st_pl ok_now)) (blk (st_pl ok_now) 0 rfl) rfl q_24_21 q_24_22 q_24_23 q_2_23 q_25_0 ⟨rfl, hdX1_activeOf⟩ ⟨Nat.le_of_ble_eq_true rfl, Nat.le_of_ble_eq_true rfl, rfl, rfl⟩ ⟨Nat.zero_le _, Nat.zero_le _⟩ (Nat.le_of_ble_eq_true rfl) rfl rfl dX8_pane_130 (fun r8 _ => ?_)
      refine g_iload_n (pc := 133) (i := 1) C dX8_pane_133 rfl rfl ?_
      refine g_icmp_ne (pc := 134) (tgt := 141) C dX8_pane_134 rfl ?_ ?_
      · refine g_iconst (pc := 137) (v := 1) C dX8_pane_137 (by decide) ?_
        refine g_goto (pc := 138) (tgt := 142) C dX8_pane_138 rfl ?_
        exact g_iret (pc := 142) C hr dX8_pane_142 rfl
      · refine g_iconst (pc := 141) (v := 0) C dX8_pane_141 (by decide) ?_
        exact g_iret (pc := 142) C hr dX8_pane_142 rfl
  refine g_ite (fun hz => ?_) (fun hz5 => ?_)
  · refine g_tabin (pc := 28) (tgt := 143) (z := 5) C dX8_pane_28 hz (by decide) (by decide) rfl rfl ?_
    refine g_aload_n (pc := 143) (i := 3) C dX8_pane_143 rfl rfl ?_
    refine g_iload_n (pc := 144) (i := 1) C dX8_pane_144 rfl rfl ?_
    refine g_callVi (pc := 145) (As := [.int (p1)]) C (kX1_spotOf X σ (1 + 5) p1 (st_pl ok_now)) (blk (st_pl ok_now) 0 rfl) rfl q_25_1 q_12_5 q_12_6 q_2_23 q_12_7 ⟨rfl, hdX1_spotOf⟩ ⟨Nat.le_of_ble_eq_true rfl, Nat.le_of_ble_eq_true rfl, rfl, rfl⟩ ⟨Nat.zero_le _, Nat.zero_le _⟩ (Nat.le_of_ble_eq_true rfl) rfl rfl dX8_pane_145 (fun r9 _ => ?_)
    exact g_iret (pc := 148) C hr dX8_pane_148 rfl
  refine g_ite (fun hz => ?_) (fun hz6 => ?_)
  · refine g_tabin (pc := 28) (tgt := 149) (z := 6) C dX8_pane_28 hz (by decide) (by decide) rfl rfl ?_
    refine g_iload (pc := 149) C dX8_pane_149 rfl ?_
    refine g_iconst (pc := 151) (v := (-1)) C dX8_pane_151 (by decide) ?_
    refine g_icmp_ne (pc := 152) (tgt := 159) C dX8_pane_152 rfl ?_ ?_
    · refine g_iconst (pc := 155) (v := (-1)) C dX8_pane_155 (by decide) ?_
      refine g_goto (pc := 156) (tgt := 165) C dX8_pane_156 rfl ?_
      exact g_iret (pc := 165) C hr dX8_pane_165 rfl
    · refine g_aload_n (pc := 159) (i := 3) C dX8_pane_159 rfl rfl ?_
      refine g_iload (pc := 160) C dX8_pane_160 rfl ?_
      refine g_callVi (pc := 162) (As := [.int (r3)]) C (kX1_tabCount X σ (1 + 5) r3 (st_pl ok_now)) (blk (st_pl ok_now) 0 rfl) rfl q_25_2 q_12_21 q_12_22 q_2_23 q_12_23 ⟨rfl, hdX1_tabCount⟩ ⟨Nat.le_of_ble_eq_true rfl, Nat.le_of_ble_eq_true rfl, rfl, rfl⟩ ⟨Nat.zero_le _, Nat.zero_le _⟩ (Nat.le_of_ble_eq_true rfl) rfl rfl dX8_pane_162 (fun r10 _ => ?_)
      exact g_iret (pc := 165) C hr dX8_pane_165 rfl
  refine g_ite (fun hz => ?_) (fun hz7 => ?_)
  · refine g_tabin (pc := 28) (tgt := 166) (z := 7) C dX8_pane_28 hz (by decide) (by decide) rfl rfl ?_
    refine g_aload_n (pc := 166) (i := 3) C dX8_pane_166 rfl rfl ?_
    refine g_iload (pc := 167) C dX8_pane_167 rfl ?_
    refine g_callVi (pc := 169) (As := [.int (r3)]) C (kX1_parentOf X σ (1 + 5) r3 (st_pl ok_now)) (blk (st_pl ok_now) 0 rfl) rfl q_25_3 q_25_4 q_25_5 q_2_23 q_25_6 ⟨rfl, hdX1_parentOf⟩ ⟨Nat.le_of_ble_eq_true rfl, Nat.le_of_ble_eq_true rfl, rfl, rfl⟩ ⟨Nat.zero_le _, Nat.zero_le _⟩ (Nat.le_of_ble_eq_true rfl) rfl rfl dX8_pane_169 (fun r11 _ => ?_)
    refine g_iconst (pc := 172) (v := (-1)) C dX8_pane_172 (by decide) ?_
    refine g_icmp_ne (pc := 173) (tgt := 180) C dX8_pane_173 rfl ?_ ?_
    · refine g_iconst (pc := 176) (v := (-1)) C dX8_pane_176 (by decide) ?_
      refine g_goto (pc := 177) (tgt := 186) C dX8_pane_177 rfl ?_
      exact g_iret (pc := 186) C hr dX8_pane_186 rfl
    · refine g_aload_n (pc := 180) (i := 3) C dX8_pane_180 rfl rfl ?_
      refine g_iload (pc := 181) C dX8_pane_181 rfl ?_
      refine g_callVi (pc := 183) (As := [.int (r3)]) C (kX1_weightOf X σ (1 + 5) r3 (st_pl ok_now)) (blk (st_pl ok_now) 0 rfl) rfl q_25_7 q_17_16 q_17_17 q_2_23 q_17_18 ⟨rfl, hdX1_weightOf⟩ ⟨Nat.le_of_ble_eq_true rfl, Nat.le_of_ble_eq_true rfl, rfl, rfl⟩ ⟨Nat.zero_le _, Nat.zero_le _⟩ (Nat.le_of_ble_eq_true rfl) rfl rfl dX8_pane_183 (fun r12 _ => ?_)
      exact g_iret (pc := 186) C hr dX8_pane_186 rfl
  refine g_tabout (pc := 28) (tgt := 187) C dX8_pane_28 (tsw_out0_7 hz0 hz1 hz2 hz3 hz4 hz5 hz6 hz7) rfl ?_
  refine g_aload_n (pc := 187) (i := 3) C dX8_pane_187 rfl rfl ?_
  refine g_iload (pc := 188) C dX8_pane_188 rfl ?_
  refine g_callVi (pc := 190) (As := [.int (r3)]) C (kX1_parentOf X σ (1 + 5) r3 (st_pl ok_now)) (blk (st_pl ok_now) 0 rfl) rfl q_25_3 q_25_4 q_25_5 q_2_23 q_25_6 ⟨rfl, hdX1_parentOf⟩ ⟨Nat.le_of_ble_eq_true rfl, Nat.le_of_ble_eq_true rfl, rfl, rfl⟩ ⟨Nat.zero_le _, Nat.zero_le _⟩ (Nat.le_of_ble_eq_true rfl) rfl rfl dX8_pane_190 (fun r13 _ => ?_)
  refine g_iconst (pc := 193) (v := (-1)) C dX8_pane_193 (by decide) ?_
  refine g_icmp_ne (pc := 194) (tgt := 201) C dX8_pane_194 rfl ?_ ?_
  · refine g_iconst (pc := 197) (v := (-1)) C dX8_pane_197 (by decide) ?_
    refine g_goto (pc := 198) (tgt := 211) C dX8_pane_198 rfl ?_
    exact g_iret (pc := 211) C hr dX8_pane_211 rfl
  · refine g_aload_n (pc := 201) (i := 3) C dX8_pane_201 rfl rfl ?_
    refine g_aload_n (pc := 202) (i := 3) C dX8_pane_202 rfl rfl ?_
    refine g_iload (pc := 203) C dX8_pane_203 rfl ?_
    refine g_callVi (pc := 205) (As := [.int (r3)]) C (kX1_parentOf X σ (1 + 5) r3 (st_pl ok_now)) (blk (st_pl ok_now) 0 rfl) rfl q_25_3 q_25_4 q_25_5 q_2_23 q_25_6 ⟨rfl, hdX1_parentOf⟩ ⟨Nat.le_of_ble_eq_true rfl, Nat.le_of_ble_eq_true rfl, rfl, rfl⟩ ⟨Nat.zero_le _, Nat.zero_le _⟩ (Nat.le_of_ble_eq_true rfl) rfl rfl dX8_pane_205 (fun r14 _ => ?_)
    refine g_callVi (pc := 208) (As := [.int (r14)]) C (kX1_kindOf X σ (1 + 5) r14 (st_pl ok_now)) (blk (st_pl ok_now) 0 rfl) rfl q_25_8 q_16_2 q_16_3 q_2_23 q_16_4 ⟨rfl, hdX1_kindOf⟩ ⟨Nat.le_of_ble_eq_true rfl, Nat.le_of_ble_eq_true rfl, rfl, rfl⟩ ⟨Nat.zero_le _, Nat.zero_le _⟩ (Nat.le_of_ble_eq_true rfl) rfl rfl dX8_pane_208 (fun r15 _ => ?_)
    exact g_iret (pc := 211) C hr dX8_pane_211 rfl
abbrev rmX8_rectangleN : Room := { frames := 2, cells := 0, slots := 0, locals := 42 }
theorem hdX8_rectangleN : yX8_rectangle.cls ≠ "java/lang/invoke/MethodHandle" ∧ yX8_rectangle.cls ≠ "java/lang/invoke/VarHandle" ∧ (parseMethodDescriptor yX8_rectangle.desc).map (fun d => d.parameters.length) = some 2 := by decide +kernel
def fX8_rectangleN (σ : Sg) (p1 : Int32) (p2 : Int32) : Option Int32 :=
  (fX8_requirePaneN σ p1).bind fun σ1 =>
  (fX8_requireRangeN σ p2 0 3).bind fun σ2 =>
  (fX1_groupOf σ (1 + 5) p1).bind fun r3 =>
  (fX2_isShown σ 422 r3).bind fun r4 =>
  if r4 = true then
    if p2 = 0 then
      (fX2_leftOf σ 422 r3).bind fun r5 =>
      some r5
    else if p2 = 1 then
      (fX2_topOf σ 422 r3).bind fun r6 =>
      some r6
    else if p2 = 2 then
      (fX2_columnsOf σ 422 r3).bind fun r7 =>
      some r7
    else 
      (fX2_rowsOf σ 422 r3).bind fun r8 =>
      some r8
  else
    some (-1)
theorem kX8_rectangleN (X : Xc) (σ : Sg) (p1 : Int32) (p2 : Int32) : ∀ r, fX8_rectangleN σ p1 p2 = some r → Met X.l yX8_rectangle (wsM yX8_rectangle cX8_rectangle 4 (some .int)) rmX8_rectangleN (va_Pc [.ref (X.ad 0), .int p1, .int p2] (PW X σ)) (Qi X r σ) 0 0 X.A := by
  refine mt_of (own := RX8) (lo := [some (.ref (X.ad 0)), some (.int (p1)), some (.int (p2)), none]) (by decide) rfl (Nat.le_of_ble_eq_true rfl) rfl (fun K C hr => ?_)
  unfold fX8_rectangleN
  refine g_aload_n (pc := 0) (i := 0) C dX8_rectangle_0 rfl rfl ?_
  refine g_iload_n (pc := 1) (i := 1) C dX8_rectangle_1 rfl rfl ?_
  refine g_callVv (pc := 2) (As := [.int (p1)]) C (kX8_requirePaneN X σ p1) ok_dl rfl q_11_7 q_11_8 q_11_9 q_1_2 q_11_10 ⟨rfl, hdX8_requirePaneN⟩ ⟨Nat.le_of_ble_eq_true rfl, Nat.le_of_ble_eq_true rfl, rfl, rfl⟩ ⟨Nat.zero_le _, Nat.zero_le _⟩ (Nat.le_of_ble_eq_true rfl) rfl rfl dX8_rectangle_2 (fun σ1 _ => ?_)
  refine g_iload_n (pc := 5) (i := 2) C dX8_rectangle_5 rfl rfl ?_
  refine g_iconst (pc := 6) (v := 0) C dX8_rectangle_6 (by decide) ?_
  refine g_iconst (pc := 7) (v := 3) C dX8_rectangle_7 (by decide) ?_
  refine g_callSv (pc := 8) (As := [.int (p2), .int (0), .int (3)]) C (kX8_requireRangeN X σ p2 0 3) q_7_7 q_7_8 q_1_2 q_7_9 hdX8_requireRangeN ⟨Nat.le_of_ble_eq_true rfl, Nat.le_of_ble_eq_true rfl, rfl, rfl⟩ ⟨Nat.zero_le _, Nat.zero_le _⟩ (Nat.le_of_ble_eq_true rfl) rfl rfl dX8_rectangle_8 (fun σ2 _ => ?_)
  refine g_aload_n (pc := 11) (i := 0) C dX8_rectangle_11 rfl rfl ?_
  refine g_getr (pc := 12) (ci := 8) (N := 8) (T := TX8) (j := 0) (Cn := RX8) 1 C rfl inlX8 (Nat.le_of_ble_eq_true rfl) q_1_16 ok_dl rfl dX8_rectangle_12 ?_
  refine g_getNr (pc := 15) (ci := 4) (N := 7) (T := TX4) (j := 4) (Cn := RX4) (1 + 5) C rfl inlX4 (Nat.le_of_ble_eq_true rfl) (List.mem_of_getElem? (i := 10) rfl) (blk ok_now 0 rfl) rfl dX8_rectangle_15 ?_
  refine g_iload_n (pc := 18) (i := 1) C dX8_rectangle_18 rfl rfl ?_
  refine g_callVi (pc := 19) (As := [.int (p1)]) C (kX1_groupOf X σ (1 + 5) p1 (st_pl ok_now)) (blk (st_pl ok_now) 0 rfl) rfl q_24_18 q_11_19 q_11_20 q_2_23 q_11_21 ⟨rfl, hdX1_groupOf⟩ ⟨Nat.le_of_ble_eq_true rfl, Nat.le_of_ble_eq_true rfl, rfl, rfl⟩ ⟨Nat.zero_le _, Nat.zero_le _⟩ (Nat.le_of_ble_eq_true rfl) rfl rfl dX8_rectangle_19 (fun r3 _ => ?_)
  refine g_istore_n (pc := 22) (i := 3) C dX8_rectangle_22 rfl (Nat.le_of_ble_eq_true rfl) rfl ?_
  refine g_aload_n (pc := 23) (i := 0) C dX8_rectangle_23 rfl rfl ?_
  refine g_getr (pc := 24) (ci := 8) (N := 8) (T := TX8) (j := 4) (Cn := RX8) 422 C rfl inlX8 (Nat.le_of_ble_eq_true rfl) q_1_21 ok_dl rfl dX8_rectangle_24 ?_
  refine g_iload_n (pc := 27) (i := 3) C dX8_rectangle_27 rfl rfl ?_
  refine g_callVi (pc := 28) (As := [.int (r3)]) C (kX2_isShown X σ 422 r3 ok_pn) (blk ok_pn 0 rfl) rfl q_26_0 q_16_23 q_17_0 q_1_20 q_17_1 ⟨rfl, hdX2_isShown⟩ ⟨Nat.le_of_ble_eq_true rfl, Nat.le_of_ble_eq_true rfl, rfl, rfl⟩ ⟨Nat.zero_le _, Nat.zero_le _⟩ (Nat.le_of_ble_eq_true rfl) rfl rfl dX8_rectangle_28 (fun r4 _ => ?_)
  refine g_ifb_ne (pc := 31) (tgt := 36) C dX8_rectangle_31 rfl ?_ ?_
  · refine g_iload_n (pc := 36) (i := 2) C dX8_rectangle_36 rfl rfl ?_
    refine g_ite (fun hz => ?_) (fun hz0 => ?_)
    · refine g_tabin (pc := 37) (tgt := 64) (z := 0) C dX8_rectangle_37 hz (by decide) (by decide) rfl rfl ?_
      refine g_aload_n (pc := 64) (i := 0) C dX8_rectangle_64 rfl rfl ?_
      refine g_getr (pc := 65) (ci := 8) (N := 8) (T := TX8) (j := 4) (Cn := RX8) 422 C rfl inlX8 (Nat.le_of_ble_eq_true rfl) q_1_21 ok_dl rfl dX8_rectangle_65 ?_
      refine g_iload_n (pc := 68) (i := 3) C dX8_rectangle_68 rfl rfl ?_
      refine g_callVi (pc := 69) (As := [.int (r3)]) C (kX2_leftOf X σ 422 r3 ok_pn) (blk ok_pn 0 rfl) rfl q_26_1 q_26_2 q_26_3 q_1_20 q_26_4 ⟨rfl, hdX2_leftOf⟩ ⟨Nat.le_of_ble_eq_true rfl, Nat.le_of_ble_eq_true rfl, rfl, rfl⟩ ⟨Nat.zero_le _, Nat.zero_le _⟩ (Nat.le_of_ble_eq_true rfl) rfl rfl dX8_rectangle_69 (fun r5 _ => ?_)
      exact g_iret (pc := 72) C hr dX8_rectangle_72 rfl
    refine g_ite (fun hz => ?_) (fun hz1 => ?_)
    · refine g_tabin (pc := 37) (tgt := 73) (z := 1) C dX8_rectangle_37 hz (by decide) (by decide) rfl rfl ?_
      refine g_aload_n (pc := 73) (i := 0) C dX8_rectangle_73 rfl rfl ?_
      refine g_getr (pc := 74) (ci := 8) (N := 8) (T := TX8) (j := 4) (Cn := RX8) 422 C rfl inlX8 (Nat.le_of_ble_eq_true rfl) q_1_21 ok_dl rfl dX8_rectangle_74 ?_
      refine g_iload_n (pc := 77) (i := 3) C dX8_rectangle_77 rfl rfl ?_
      refine g_callVi (pc := 78) (As := [.int (r3)]) C (kX2_topOf X σ 422 r3 ok_pn) (blk ok_pn 0 rfl) rfl q_26_5 q_26_6 q_26_7 q_1_20 q_26_8 ⟨rfl, hdX2_topOf⟩ ⟨Nat.le_of_ble_eq_true rfl, Nat.le_of_ble_eq_true rfl, rfl, rfl⟩ ⟨Nat.zero_le _, Nat.zero_le _⟩ (Nat.le_of_ble_eq_true rfl) rfl rfl dX8_rectangle_78 (fun r6 _ => ?_)
      exact g_iret (pc := 81) C hr dX8_rectangle_81 rfl
    refine g_ite (fun hz => ?_) (fun hz2 => ?_)
    · refine g_tabin (pc := 37) (tgt := 82) (z := 2) C dX8_rectangle_37 hz (by decide) (by decide) rfl rfl ?_
      refine g_aload_n (pc := 82) (i := 0) C dX8_rectangle_82 rfl rfl ?_
      refine g_getr (pc := 83) (ci := 8) (N := 8) (T := TX8) (j := 4) (Cn := RX8) 422 C rfl inlX8 (Nat.le_of_ble_eq_true rfl) q_1_21 ok_dl rfl dX8_rectangle_83 ?_
      refine g_iload_n (pc := 86) (i := 3) C dX8_rectangle_86 rfl rfl ?_
      refine g_callVi (pc := 87) (As := [.int (r3)]) C (kX2_columnsOf X σ 422 r3 ok_pn) (blk ok_pn 0 rfl) rfl q_26_9 q_26_10 q_26_11 q_1_20 q_26_12 ⟨rfl, hdX2_columnsOf⟩ ⟨Nat.le_of_ble_eq_true rfl, Nat.le_of_ble_eq_true rfl, rfl, rfl⟩ ⟨Nat.zero_le _, Nat.zero_le _⟩ (Nat.le_of_ble_eq_true rfl) rfl rfl dX8_rectangle_87 (fun r7 _ => ?_)
      exact g_iret (pc := 90) C hr dX8_rectangle_90 rfl
    refine g_tabout (pc := 37) (tgt := 91) C dX8_rectangle_37 (tsw_out0_2 hz0 hz1 hz2) rfl ?_
    refine g_aload_n (pc := 91) (i := 0) C dX8_rectangle_91 rfl rfl ?_
    refine g_getr (pc := 92) (ci := 8) (N := 8) (T := TX8) (j := 4) (Cn := RX8) 422 C rfl inlX8 (Nat.le_of_ble_eq_true rfl) q_1_21 ok_dl rfl dX8_rectangle_92 ?_
    refine g_iload_n (pc := 95) (i := 3) C dX8_rectangle_95 rfl rfl ?_
    refine g_callVi (pc := 96) (As := [.int (r3)]) C (kX2_rowsOf X σ 422 r3 ok_pn) (blk ok_pn 0 rfl) rfl q_26_13 q_26_14 q_26_15 q_1_20 q_26_16 ⟨rfl, hdX2_rowsOf⟩ ⟨Nat.le_of_ble_eq_true rfl, Nat.le_of_ble_eq_true rfl, rfl, rfl⟩ ⟨Nat.zero_le _, Nat.zero_le _⟩ (Nat.le_of_ble_eq_true rfl) rfl rfl dX8_rectangle_96 (fun r8 _ => ?_)
    exact g_iret (pc := 99) C hr dX8_rectangle_99 rfl
  · refine g_iconst (pc := 34) (v := (-1)) C dX8_rectangle_34 (by decide) ?_
    exact g_iret (pc := 35) C hr dX8_rectangle_35 rfl
theorem dX8_mixPane_0 : decode cX8_mixPane 0 = .ok (.lload_n 1, 1) := by decide +kernel
theorem dX8_mixPane_1 : decode cX8_mixPane 1 = .ok (.lstore 4, 2) := by decide +kernel
theorem dX8_mixPane_3 : decode cX8_mixPane 3 = .ok (.iconst 0, 1) := by decide +kernel
theorem dX8_mixPane_4 : decode cX8_mixPane 4 = .ok (.istore 6, 2) := by decide +kernel
theorem dX8_mixPane_6 : decode cX8_mixPane 6 = .ok (.iload 6, 2) := by decide +kernel
theorem dX8_mixPane_8 : decode cX8_mixPane 8 = .ok (.bipush 8, 2) := by decide +kernel
theorem dX8_mixPane_10 : decode cX8_mixPane 10 = .ok (.if_icmp .gt 23, 3) := by decide +kernel
theorem dX8_mixPane_13 : decode cX8_mixPane 13 = .ok (.lload 4, 2) := by decide +kernel
theorem dX8_mixPane_15 : decode cX8_mixPane 15 = .ok (.aload_n 0, 1) := by decide +kernel
theorem dX8_mixPane_16 : decode cX8_mixPane 16 = .ok (.iload_n 3, 1) := by decide +kernel
theorem dX8_mixPane_17 : decode cX8_mixPane 17 = .ok (.iload 6, 2) := by decide +kernel
theorem dX8_mixPane_19 : decode cX8_mixPane 19 = .ok (.invokevirtual 387, 3) := by decide +kernel
theorem dX8_mixPane_22 : decode cX8_mixPane 22 = .ok (.invokestatic 371, 3) := by decide +kernel
theorem dX8_mixPane_25 : decode cX8_mixPane 25 = .ok (.lstore 4, 2) := by decide +kernel
theorem dX8_mixPane_27 : decode cX8_mixPane 27 = .ok (.iinc 6 1, 3) := by decide +kernel
theorem dX8_mixPane_30 : decode cX8_mixPane 30 = .ok (.goto (-24), 3) := by decide +kernel
theorem dX8_mixPane_33 : decode cX8_mixPane 33 = .ok (.iconst 0, 1) := by decide +kernel
theorem dX8_mixPane_34 : decode cX8_mixPane 34 = .ok (.istore 6, 2) := by decide +kernel
theorem dX8_mixPane_36 : decode cX8_mixPane 36 = .ok (.iload 6, 2) := by decide +kernel
theorem dX8_mixPane_38 : decode cX8_mixPane 38 = .ok (.iconst 3, 1) := by decide +kernel
theorem dX8_mixPane_39 : decode cX8_mixPane 39 = .ok (.if_icmp .gt 23, 3) := by decide +kernel
theorem dX8_mixPane_42 : decode cX8_mixPane 42 = .ok (.lload 4, 2) := by decide +kernel
theorem dX8_mixPane_44 : decode cX8_mixPane 44 = .ok (.aload_n 0, 1) := by decide +kernel
theorem dX8_mixPane_45 : decode cX8_mixPane 45 = .ok (.iload_n 3, 1) := by decide +kernel
theorem dX8_mixPane_46 : decode cX8_mixPane 46 = .ok (.iload 6, 2) := by decide +kernel
theorem dX8_mixPane_48 : decode cX8_mixPane 48 = .ok (.invokevirtual 390, 3) := by decide +kernel
theorem dX8_mixPane_51 : decode cX8_mixPane 51 = .ok (.invokestatic 371, 3) := by decide +kernel
theorem dX8_mixPane_54 : decode cX8_mixPane 54 = .ok (.lstore 4, 2) := by decide +kernel
theorem dX8_mixPane_56 : decode cX8_mixPane 56 = .ok (.iinc 6 1, 3) := by decide +kernel
theorem dX8_mixPane_59 : decode cX8_mixPane 59 = .ok (.goto (-23), 3) := by decide +kernel
theorem dX8_mixPane_62 : decode cX8_mixPane 62 = .ok (.lload 4, 2) := by decide +kernel
theorem dX8_mixPane_64 : decode cX8_mixPane 64 = .ok (.lreturn, 1) := by decide +kernel
abbrev rmX8_mixPaneN : Room := { frames := 3, cells := 0, slots := 0, locals := 68 }
theorem hdX8_mixPaneN : yX8_mixPane.cls ≠ "java/lang/invoke/MethodHandle" ∧ yX8_mixPane.cls ≠ "java/lang/invoke/VarHandle" ∧ (parseMethodDescriptor yX8_mixPane.desc).map (fun d => d.parameters.length) = some 2 := by decide +kernel
def fX8_mixPaneN_36 (σ : Sg) : Nat → Int32 → Int64 → Int32 → Option Int64
  | 0, _, _, _ => none
  | n + 1, l3, l4, l6 =>
    if 3 < l6 then
      some l4
    else
      (fX8_rectangleN σ l3 l6).bind fun r3 =>
      (fX8_mix σ l4 r3).bind fun r4 =>
      ((fX8_mixPaneN_36 σ n) l3 r4 (l6 + 1))
theorem bX8_mixPaneN_36 {X : Xc} {K : Kc} (C : MC X K cX8_mixPane 7 RX8 rmX8_mixPaneN) (hr : K.meth.sig.returnType = (some .long)) (σ : Sg) : ∀ (n : Nat) (l3 : Int32) (l4 : Int64) (l6 : Int32), GO X K 7 (fun r => MQl X K r σ) (fX8_mixPaneN_36 σ n l3 l4 l6) σ 0 0 36 [some (.ref (X.ad 0)), none, none, some (.int (l3)), some (.long (l4)), none, some (.int (l6))] [] := by
  intro n
  induction n with
  | zero =>
    intro l3 l4 l6
    exact g_none
  | succ n ih =>
    intro l3 l4 l6
    unfold fX8_mixPaneN_36
    refine g_iload (pc := 36) C dX8_mixPane_36 rfl ?_
    refine g_iconst (pc := 38) (v := 3) C dX8_mixPane_38 (by decide) ?_
    refine g_icmp_gt (pc := 39) (tgt := 62) C dX8_mixPane_39 rfl ?_ ?_
    · refine g_lload (pc := 62) C dX8_mixPane_62 rfl ?_
      exact g_lret (pc := 64) C hr dX8_mixPane_64 rfl
    · refine g_lload (pc := 42) C dX8_mixPane_42 rfl ?_
      refine g_aload_n (pc := 44) (i := 0) C dX8_mixPane_44 rfl rfl ?_
      refine g_iload_n (pc := 45) (i := 3) C dX8_mixPane_45 rfl rfl ?_
      refine g_iload (pc := 46) C dX8_mixPane_46 rfl ?_
      refine g_callVi (pc := 48) (As := [.int (l3), .int (l6)]) C (kX8_rectangleN X σ l3 l6) ok_dl rfl q_58_15 q_25_21 q_25_22 q_1_2 q_25_23 ⟨rfl, hdX8_rectangleN⟩ ⟨Nat.le_of_ble_eq_true rfl, Nat.le_of_ble_eq_true rfl, rfl, rfl⟩ ⟨Nat.zero_le _, Nat.zero_le _⟩ (Nat.le_of_ble_eq_true rfl) rfl rfl dX8_mixPane_48 (fun r3 _ => ?_)
      refine g_callSl (pc := 51) (As := [.long (l4), .int (r3)]) C (kX8_mix X σ l4 r3) q_58_6 q_58_7 q_1_2 q_58_8 hdX8_mix ⟨Nat.le_of_ble_eq_true rfl, Nat.le_of_ble_eq_true rfl, rfl, rfl⟩ ⟨Nat.zero_le _, Nat.zero_le _⟩ (Nat.le_of_ble_eq_true rfl) rfl rfl dX8_mixPane_51 (fun r4 _ => ?_)
      refine g_lstore (pc := 54) C dX8_mixPane_54 (Nat.le_of_ble_eq_true rfl) rfl ?_
      refine g_iinc (pc := 56) (v := l6 + 1) C dX8_mixPane_56 rfl (rfl) (Nat.le_of_ble_eq_true rfl) rfl ?_
      refine g_goto (pc := 59) (tgt := 36) C dX8_mixPane_59 rfl ?_
      refine g_keep [true, false, false, true, true, false, true] ?_
      exact ih l3 r4 (l6 + 1)
def fX8_mixPaneN_6 (σ : Sg) : Nat → Int32 → Int64 → Int32 → Option Int64
  | 0, _, _, _ => none
  | n + 1, l3, l4, l6 =>
    if 8 < l6 then
      (fX8_mixPaneN_36 σ FU l3 l4 0)
    else
      (fX8_paneN σ l3 l6).bind fun r1 =>
      (fX8_mix σ l4 r1).bind fun r2 =>
      ((fX8_mixPaneN_6 σ n) l3 r2 (l6 + 1))
theorem bX8_mixPaneN_6 {X : Xc} {K : Kc} (C : MC X K cX8_mixPane 7 RX8 rmX8_mixPaneN) (hr : K.meth.sig.returnType = (some .long)) (σ : Sg) : ∀ (n : Nat) (l3 : Int32) (l4 : Int64) (l6 : Int32), GO X K 7 (fun r => MQl X K r σ) (fX8_mixPaneN_6 σ n l3 l4 l6) σ 0 0 6 [some (.ref (X.ad 0)), none, none, some (.int (l3)), some (.long (l4)), none, some (.int (l6))] [] := by
  intro n
  induction n with
  | zero =>
    intro l3 l4 l6
    exact g_none
  | succ n ih =>
    intro l3 l4 l6
    unfold fX8_mixPaneN_6
    refine g_iload (pc := 6) C dX8_mixPane_6 rfl ?_
    refine g_bipush (pc := 8) (v := 8) C dX8_mixPane_8 (by decide) ?_
    refine g_icmp_gt (pc := 10) (tgt := 33) C dX8_mixPane_10 rfl ?_ ?_
    · refine g_iconst (pc := 33) (v := 0) C dX8_mixPane_33 (by decide) ?_
      refine g_istore (pc := 34) C dX8_mixPane_34 (Nat.le_of_ble_eq_true rfl) rfl ?_
      refine g_keep [true, false, false, true, true, false, true] ?_
      exact bX8_mixPaneN_36 C hr σ FU l3 l4 0
    · refine g_lload (pc := 13) C dX8_mixPane_13 rfl ?_
      refine g_aload_n (pc := 15) (i := 0) C dX8_mixPane_15 rfl rfl ?_
      refine g_iload_n (pc := 16) (i := 3) C dX8_mixPane_16 rfl rfl ?_
      refine g_iload (pc := 17) C dX8_mixPane_17 rfl ?_
      refine g_callVi (pc := 19) (As := [.int (l3), .int (l6)]) C (kX8_paneN X σ l3 l6) ok_dl rfl q_58_14 q_24_15 q_24_16 q_1_2 q_24_17 ⟨rfl, hdX8_paneN⟩ ⟨Nat.le_of_ble_eq_true rfl, Nat.le_of_ble_eq_true rfl, rfl, rfl⟩ ⟨Nat.zero_le _, Nat.zero_le _⟩ (Nat.le_of_ble_eq_true rfl) rfl rfl dX8_mixPane_19 (fun r1 _ => ?_)
      refine g_callSl (pc := 22) (As := [.long (l4), .int (r1)]) C (kX8_mix X σ l4 r1) q_58_6 q_58_7 q_1_2 q_58_8 hdX8_mix ⟨Nat.le_of_ble_eq_true rfl, Nat.le_of_ble_eq_true rfl, rfl, rfl⟩ ⟨Nat.zero_le _, Nat.zero_le _⟩ (Nat.le_of_ble_eq_true rfl) rfl rfl dX8_mixPane_22 (fun r2 _ => ?_)
      refine g_lstore (pc := 25) C dX8_mixPane_25 (Nat.le_of_ble_eq_true rfl) rfl ?_
      refine g_iinc (pc := 27) (v := l6 + 1) C dX8_mixPane_27 rfl (rfl) (Nat.le_of_ble_eq_true rfl) rfl ?_
      refine g_goto (pc := 30) (tgt := 6) C dX8_mixPane_30 rfl ?_
      refine g_keep [true, false, false, true, true, false, true] ?_
      exact ih l3 r2 (l6 + 1)
def fX8_mixPaneN (σ : Sg) (p1 : Int64) (p3 : Int32) : Option Int64 :=
  (fX8_mixPaneN_6 σ FU p3 p1 0)
theorem kX8_mixPaneN (X : Xc) (σ : Sg) (p1 : Int64) (p3 : Int32) : ∀ r, fX8_mixPaneN σ p1 p3 = some r → Met X.l yX8_mixPane (wsM yX8_mixPane cX8_mixPane 7 (some .long)) rmX8_mixPaneN (va_Pc [.ref (X.ad 0), .long p1, .int p3] (PW X σ)) (Ql X r σ) 0 0 X.A := by
  refine mt_of (own := RX8) (lo := [some (.ref (X.ad 0)), some (.long (p1)), none, some (.int (p3)), none, none, none]) (by decide) rfl (Nat.le_of_ble_eq_true rfl) rfl (fun K C hr => ?_)
  unfold fX8_mixPaneN
  refine g_lload_n (pc := 0) (i := 1) C dX8_mixPane_0 rfl rfl ?_
  refine g_lstore (pc := 1) C dX8_mixPane_1 (Nat.le_of_ble_eq_true rfl) rfl ?_
  refine g_iconst (pc := 3) (v := 0) C dX8_mixPane_3 (by decide) ?_
  refine g_istore (pc := 4) C dX8_mixPane_4 (Nat.le_of_ble_eq_true rfl) rfl ?_
  refine g_keep [true, false, false, true, true, false, true] ?_
  exact bX8_mixPaneN_6 C hr σ FU p3 p1 0
abbrev rmX8_requireWindowN : Room := { frames := 3, cells := 0, slots := 0, locals := 63 }
theorem hdX8_requireWindowN : yX8_requireWindow.cls ≠ "java/lang/invoke/MethodHandle" ∧ yX8_requireWindow.cls ≠ "java/lang/invoke/VarHandle" ∧ (parseMethodDescriptor yX8_requireWindow.desc).map (fun d => d.parameters.length) = some 1 := by decide +kernel
def fX8_requireWindowN (σ : Sg) (p1 : Int32) : Option Unit :=
  (fX1_windowExists σ (1 + 5) p1).bind fun r1 =>
  if r1 = true then
    some ()
  else
    none
theorem kX8_requireWindowN (X : Xc) (σ : Sg) (p1 : Int32) : ∀ r, fX8_requireWindowN σ p1 = some r → Met X.l yX8_requireWindow (wsM yX8_requireWindow cX8_requireWindow 2 none) rmX8_requireWindowN (va_Pc [.ref (X.ad 0), .int p1] (PW X σ)) (Qv X σ) 0 0 X.A := by
  refine mt_of (own := RX8) (lo := [some (.ref (X.ad 0)), some (.int (p1))]) (by decide) rfl (Nat.le_of_ble_eq_true rfl) rfl (fun K C hr => ?_)
  unfold fX8_requireWindowN
  refine g_aload_n (pc := 0) (i := 0) C dX8_requireWindow_0 rfl rfl ?_
  refine g_getr (pc := 1) (ci := 8) (N := 8) (T := TX8) (j := 0) (Cn := RX8) 1 C rfl inlX8 (Nat.le_of_ble_eq_true rfl) q_1_16 ok_dl rfl dX8_requireWindow_1 ?_
  refine g_getNr (pc := 4) (ci := 4) (N := 7) (T := TX4) (j := 4) (Cn := RX4) (1 + 5) C rfl inlX4 (Nat.le_of_ble_eq_true rfl) (List.mem_of_getElem? (i := 10) rfl) (blk ok_now 0 rfl) rfl dX8_requireWindow_4 ?_
  refine g_iload_n (pc := 7) (i := 1) C dX8_requireWindow_7 rfl rfl ?_
  refine g_callVi (pc := 8) (As := [.int (p1)]) C (kX1_windowExists X σ (1 + 5) p1 (st_pl ok_now)) (blk (st_pl ok_now) 0 rfl) rfl q_29_14 q_29_15 q_29_16 q_2_23 q_29_17 ⟨rfl, hdX1_windowExists⟩ ⟨Nat.le_of_ble_eq_true rfl, Nat.le_of_ble_eq_true rfl, rfl, rfl⟩ ⟨Nat.zero_le _, Nat.zero_le _⟩ (Nat.le_of_ble_eq_true rfl) rfl rfl dX8_requireWindow_8 (fun r1 _ => ?_)
  refine g_ifb_ne (pc := 11) (tgt := 25) C dX8_requireWindow_11 rfl ?_ ?_
  · exact g_vret (pc := 25) C hr dX8_requireWindow_25 rfl
  · exact g_none
abbrev rmX8_windowN : Room := { frames := 4, cells := 0, slots := 0, locals := 84 }
theorem hdX8_windowN : yX8_window.cls ≠ "java/lang/invoke/MethodHandle" ∧ yX8_window.cls ≠ "java/lang/invoke/VarHandle" ∧ (parseMethodDescriptor yX8_window.desc).map (fun d => d.parameters.length) = some 2 := by decide +kernel
def fX8_windowN (σ : Sg) (p1 : Int32) (p2 : Int32) : Option Int32 :=
  (fX8_requireWindowN σ p1).bind fun σ1 =>
  (fX8_requireRangeN σ p2 0 7).bind fun σ2 =>
  (fX1_rootOf σ (1 + 5) p1).bind fun r3 =>
  if p2 = 0 then
    (fX8_at σ ((1 + 5) + 1) 5 p1).bind fun r4 =>
    some r4
  else if p2 = 1 then
    (fX8_at σ ((1 + 5) + 2) 5 p1).bind fun r5 =>
    some r5
  else if p2 = 2 then
    (fX8_at σ ((1 + 5) + 3) 5 p1).bind fun r6 =>
    some r6
  else if p2 = 3 then
    (fX8_at σ ((1 + 5) + 4) 5 p1).bind fun r7 =>
    some r7
  else if p2 = 4 then
    (fX1_panesIn σ (1 + 5) p1).bind fun r8 =>
    some r8
  else if p2 = 5 then
    (fX2_isShown σ 422 r3).bind fun r9 =>
    if r9 = true then
      (fX2_minimumOf σ 422 r3 0).bind fun r10 =>
      some r10
    else
      some 0
  else if p2 = 6 then
    (fX2_isShown σ 422 r3).bind fun r11 =>
    if r11 = true then
      (fX2_minimumOf σ 422 r3 1).bind fun r12 =>
      some r12
    else
      some 0
  else 
    (fX0_indexOf σ ((1 + 5) + 6) p1).bind fun r13 =>
    some r13
theorem kX8_windowN (X : Xc) (σ : Sg) (p1 : Int32) (p2 : Int32) : ∀ r, fX8_windowN σ p1 p2 = some r → Met X.l yX8_window (wsM yX8_window cX8_window 5 (some .int)) rmX8_windowN (va_Pc [.ref (X.ad 0), .int p1, .int p2] (PW X σ)) (Qi X r σ) 0 0 X.A := by
  refine mt_of (own := RX8) (lo := [some (.ref (X.ad 0)), some (.int (p1)), some (.int (p2)), none, none]) (by decide) rfl (Nat.le_of_ble_eq_true rfl) rfl (fun K C hr => ?_)
  unfold fX8_windowN
  refine g_aload_n (pc := 0) (i := 0) C dX8_window_0 rfl rfl ?_
  refine g_iload_n (pc := 1) (i := 1) C dX8_window_1 rfl rfl ?_
  refine g_callVv (pc := 2) (As := [.int (p1)]) C (kX8_requireWindowN X σ p1) ok_dl rfl q_29_10 q_29_11 q_29_12 q_1_2 q_29_13 ⟨rfl, hdX8_requireWindowN⟩ ⟨Nat.le_of_ble_eq_true rfl, Nat.le_of_ble_eq_true rfl, rfl, rfl⟩ ⟨Nat.zero_le _, Nat.zero_le _⟩ (Nat.le_of_ble_eq_true rfl) rfl rfl dX8_window_2 (fun σ1 _ => ?_)
  refine g_iload_n (pc := 5) (i := 2) C dX8_window_5 rfl rfl ?_
  refine g_iconst (pc := 6) (v := 0) C dX8_window_6 (by decide) ?_
  refine g_bipush (pc := 7) (v := 7) C dX8_window_7 (by decide) ?_
  refine g_callSv (pc := 9) (As := [.int (p2), .int (0), .int (7)]) C (kX8_requireRangeN X σ p2 0 7) q_7_7 q_7_8 q_1_2 q_7_9 hdX8_requireRangeN ⟨Nat.le_of_ble_eq_true rfl, Nat.le_of_ble_eq_true rfl, rfl, rfl⟩ ⟨Nat.zero_le _, Nat.zero_le _⟩ (Nat.le_of_ble_eq_true rfl) rfl rfl dX8_window_9 (fun σ2 _ => ?_)
  refine g_aload_n (pc := 12) (i := 0) C dX8_window_12 rfl rfl ?_
  refine g_getr (pc := 13) (ci := 8) (N := 8) (T := TX8) (j := 0) (Cn := RX8) 1 C rfl inlX8 (Nat.le_of_ble_eq_true rfl) q_1_16 ok_dl rfl dX8_window_13 ?_
  refine g_getNr (pc := 16) (ci := 4) (N := 7) (T := TX4) (j := 4) (Cn := RX4) (1 + 5) C rfl inlX4 (Nat.le_of_ble_eq_true rfl) (List.mem_of_getElem? (i := 10) rfl) (blk ok_now 0 rfl) rfl dX8_window_16 ?_
  refine g_astore_n (pc := 19) (i := 3) C dX8_window_19 rfl (Nat.le_of_ble_eq_true rfl) rfl ?_
  refine g_aload_n (pc := 20) (i := 3) C dX8_window_20 rfl rfl ?_
  refine g_iload_n (pc := 21) (i := 1) C dX8_window_21 rfl rfl ?_
  refine g_callVi (pc := 22) (As := [.int (p1)]) C (kX1_rootOf X σ (1 + 5) p1 (st_pl ok_now)) (blk (st_pl ok_now) 0 rfl) rfl q_32_9 q_15_12 q_15_13 q_2_23 q_15_14 ⟨rfl, hdX1_rootOf⟩ ⟨Nat.le_of_ble_eq_true rfl, Nat.le_of_ble_eq_true rfl, rfl, rfl⟩ ⟨Nat.zero_le _, Nat.zero_le _⟩ (Nat.le_of_ble_eq_true rfl) rfl rfl dX8_window_22 (fun r3 _ => ?_)
  refine g_istore (pc := 25) C dX8_window_25 (Nat.le_of_ble_eq_true rfl) rfl ?_
  refine g_iload_n (pc := 27) (i := 2) C dX8_window_27 rfl rfl ?_
  refine g_ite (fun hz => ?_) (fun hz0 => ?_)
  · refine g_tabin (pc := 28) (tgt := 72) (z := 0) C dX8_window_28 hz (by decide) (by decide) rfl rfl ?_
    refine g_aload_n (pc := 72) (i := 3) C dX8_window_72 rfl rfl ?_
    refine g_getNr (pc := 73) (ci := 1) (N := 14) (T := TX1) (j := 0) (Cn := RX1) ((1 + 5) + 1) C rfl inlX1 (Nat.le_of_ble_eq_true rfl) (List.mem_of_getElem? (i := 15) rfl) (blk (st_pl ok_now) 0 rfl) rfl dX8_window_73 ?_
    refine g_iload_n (pc := 76) (i := 1) C dX8_window_76 rfl rfl ?_
    refine g_callSi (pc := 77) (As := [.ref (X.ad ((1 + 5) + 1)), .int (p1)]) C (kX8_at X σ ((1 + 5) + 1) 5 p1 (blk (st_pl ok_now) 1 rfl)) q_23_22 q_11_22 q_1_2 q_11_23 hdX8_at ⟨Nat.le_of_ble_eq_true rfl, Nat.le_of_ble_eq_true rfl, rfl, rfl⟩ ⟨Nat.zero_le _, Nat.zero_le _⟩ (Nat.le_of_ble_eq_true rfl) rfl rfl dX8_window_77 (fun r4 _ => ?_)
    exact g_iret (pc := 80) C hr dX8_window_80 rfl
  refine g_ite (fun hz => ?_) (fun hz1 => ?_)
  · refine g_tabin (pc := 28) (tgt := 81) (z := 1) C dX8_window_28 hz (by decide) (by decide) rfl rfl ?_
    refine g_aload_n (pc := 81) (i := 3) C dX8_window_81 rfl rfl ?_
    refine g_getNr (pc := 82) (ci := 1) (N := 14) (T := TX1) (j := 1) (Cn := RX1) ((1 + 5) + 2) C rfl inlX1 (Nat.le_of_ble_eq_true rfl) (List.mem_of_getElem? (i := 17) rfl) (blk (st_pl ok_now) 0 rfl) rfl dX8_window_82 ?_
    refine g_iload_n (pc := 85) (i := 1) C dX8_window_85 rfl rfl ?_
    refine g_callSi (pc := 86) (As := [.ref (X.ad ((1 + 5) + 2)), .int (p1)]) C (kX8_at X σ ((1 + 5) + 2) 5 p1 (blk (st_pl ok_now) 2 rfl)) q_23_22 q_11_22 q_1_2 q_11_23 hdX8_at ⟨Nat.le_of_ble_eq_true rfl, Nat.le_of_ble_eq_true rfl, rfl, rfl⟩ ⟨Nat.zero_le _, Nat.zero_le _⟩ (Nat.le_of_ble_eq_true rfl) rfl rfl dX8_window_86 (fun r5 _ => ?_)
    exact g_iret (pc := 89) C hr dX8_window_89 rfl
  refine g_ite (fun hz => ?_) (fun hz2 => ?_)
  · refine g_tabin (pc := 28) (tgt := 90) (z := 2) C dX8_window_28 hz (by decide) (by decide) rfl rfl ?_
    refine g_aload_n (pc := 90) (i := 3) C dX8_window_90 rfl rfl ?_
    refine g_getNr (pc := 91) (ci := 1) (N := 14) (T := TX1) (j := 2) (Cn := RX1) ((1 + 5) + 3) C rfl inlX1 (Nat.le_of_ble_eq_true rfl) (List.mem_of_getElem? (i := 18) rfl) (blk (st_pl ok_now) 0 rfl) rfl dX8_window_91 ?_
    refine g_iload_n (pc := 94) (i := 1) C dX8_window_94 rfl rfl ?_
    refine g_callSi (pc := 95) (As := [.ref (X.ad ((1 + 5) + 3)), .int (p1)]) C (kX8_at X σ ((1 + 5) + 3) 5 p1 (blk (st_pl ok_now) 3 rfl)) q_23_22 q_11_22 q_1_2 q_11_23 hdX8_at ⟨Nat.le_of_ble_eq_true rfl, Nat.le_of_ble_eq_true rfl, rfl, rfl⟩ ⟨Nat.zero_le _, Nat.zero_le _⟩ (Nat.le_of_ble_eq_true rfl) rfl rfl dX8_window_95 (fun r6 _ => ?_)
    exact g_iret (pc := 98) C hr dX8_window_98 rfl
  refine g_ite (fun hz => ?_) (fun hz3 => ?_)
  · refine g_tabin (pc := 28) (tgt := 99) (z := 3) C dX8_window_28 hz (by decide) (by decide) rfl rfl ?_
    refine g_aload_n (pc := 99) (i := 3) C dX8_window_99 rfl rfl ?_
    refine g_getNr (pc := 100) (ci := 1) (N := 14) (T := TX1) (j := 3) (Cn := RX1) ((1 + 5) + 4) C rfl inlX1 (Nat.le_of_ble_eq_true rfl) (List.mem_of_getElem? (i := 19) rfl) (blk (st_pl ok_now) 0 rfl) rfl dX8_window_100 ?_
    refine g_iload_n (pc := 103) (i := 1) C dX8_window_103 rfl rfl ?_
    refine g_callSi (pc := 104) (As := [.ref (X.ad ((1 + 5) + 4)), .int (p1)]) C (kX8_at X σ ((1 + 5) + 4) 5 p1 (blk (st_pl ok_now) 4 rfl)) q_23_22 q_11_22 q_1_2 q_11_23 hdX8_at ⟨Nat.le_of_ble_eq_true rfl, Nat.le_of_ble_eq_true rfl, rfl, rfl⟩ ⟨Nat.zero_le _, Nat.zero_le _⟩ (Nat.le_of_ble_eq_true rfl) rfl rfl dX8_window_104 (fun r7 _ => ?_)
    exact g_iret (pc := 107) C hr dX8_window_107 rfl
  refine g_ite (fun hz => ?_) (fun hz4 => ?_)
  · refine g_tabin (pc := 28) (tgt := 108) (z := 4) C dX8_window_28 hz (by decide) (by decide) rfl rfl ?_
    refine g_aload_n (pc := 108) (i := 3) C dX8_window_108 rfl rfl ?_
    refine g_iload_n (pc := 109) (i := 1) C dX8_window_109 rfl rfl ?_
    refine g_callVi (pc := 110) (As := [.int (p1)]) C (kX1_panesIn X σ (1 + 5) p1 (st_pl ok_now)) (blk (st_pl ok_now) 0 rfl) rfl q_29_23 q_30_0 q_30_1 q_2_23 q_30_2 ⟨rfl, hdX1_panesIn⟩ ⟨Nat.le_of_ble_eq_true rfl, Nat.le_of_ble_eq_true rfl, rfl, rfl⟩ ⟨Nat.zero_le _, Nat.zero_le _⟩ (Nat.le_of_ble_eq_true rfl) rfl rfl dX8_window_110 (fun r8 _ => ?_)
    exact g_iret (pc := 113) C hr dX8_window_113 rfl
  refine g_ite (fun hz => ?_) (fun hz5 => ?_)
  · refine g_tabin (pc := 28) (tgt := 114) (z := 5) C dX8_window_28 hz (by decide) (by decide) rfl rfl ?_
    refine g_aload_n (pc := 114) (i := 0) C dX8_window_114 rfl rfl ?_
    refine g_getr (pc := 115) (ci := 8) (N := 8) (T := TX8) (j := 4) (Cn := RX8) 422 C rfl inlX8 (Nat.le_of_ble_eq_true rfl) q_1_21 ok_dl rfl dX8_window_115 ?_
    refine g_iload (pc := 118) C dX8_window_118 rfl ?_
    refine g_callVi (pc := 120) (As := [.int (r3)]) C (kX2_isShown X σ 422 r3 ok_pn) (blk ok_pn 0 rfl) rfl q_26_0 q_16_23 q_17_0 q_1_20 q_17_1 ⟨rfl, hdX2_isShown⟩ ⟨Nat.le_of_ble_eq_true rfl, Nat.le_of_ble_eq_true rfl, rfl, rfl⟩ ⟨Nat.zero_le _, Nat.zero_le _⟩ (Nat.le_of_ble_eq_true rfl) rfl rfl dX8_window_120 (fun r9 _ => ?_)
    refine g_ifb_eq (pc := 123) (tgt := 139) C dX8_window_123 rfl ?_ ?_
    · refine g_aload_n (pc := 126) (i := 0) C dX8_window_126 rfl rfl ?_
      refine g_getr (pc := 127) (ci := 8) (N := 8) (T := TX8) (j := 4) (Cn := RX8) 422 C rfl inlX8 (Nat.le_of_ble_eq_true rfl) q_1_21 ok_dl rfl dX8_window_127 ?_
      refine g_iload (pc := 130) C dX8_window_130 rfl ?_
      refine g_iconst (pc := 132) (v := 0) C dX8_window_132 (by decide) ?_
      refine g_callVi (pc := 133) (As := [.int (r3), .int (0)]) C (kX2_minimumOf X σ 422 r3 0 ok_pn) (blk ok_pn 0 rfl) rfl q_32_10 q_17_12 q_17_13 q_1_20 q_17_14 ⟨rfl, hdX2_minimumOf⟩ ⟨Nat.le_of_ble_eq_true rfl, Nat.le_of_ble_eq_true rfl, rfl, rfl⟩ ⟨Nat.zero_le _, Nat.zero_le _⟩ (Nat.le_of_ble_eq_true rfl) rfl rfl dX8_window_133 (fun r10 _ => ?_)
      refine g_goto (pc := 136) (tgt := 140) C dX8_window_136 rfl ?_
      exact g_iret (pc := 140) C hr dX8_window_140 rfl
    · refine g_iconst (pc := 139) (v := 0) C dX8_window_139 (by decide) ?_
      exact g_iret (pc := 140) C hr dX8_window_140 rfl
  refine g_ite (fun hz => ?_) (fun hz6 => ?_)
  · refine g_tabin (pc := 28) (tgt := 141) (z := 6) C dX8_window_28 hz (by decide) (by decide) rfl rfl ?_
    refine g_aload_n (pc := 141) (i := 0) C dX8_window_141 rfl rfl ?_
    refine g_getr (pc := 142) (ci := 8) (N := 8) (T := TX8) (j := 4) (Cn := RX8) 422 C rfl inlX8 (Nat.le_of_ble_eq_true rfl) q_1_21 ok_dl rfl dX8_window_142 ?_
    refine g_iload (pc := 145) C dX8_window_145 rfl ?_
    refine g_callVi (pc := 147) (As := [.int (r3)]) C (kX2_isShown X σ 422 r3 ok_pn) (blk ok_pn 0 rfl) rfl q_26_0 q_16_23 q_17_0 q_1_20 q_17_1 ⟨rfl, hdX2_isShown⟩ ⟨Nat.le_of_ble_eq_true rfl, Nat.le_of_ble_eq_true rfl, rfl, rfl⟩ ⟨Nat.zero_le _, Nat.zero_le _⟩ (Nat.le_of_ble_eq_true rfl) rfl rfl dX8_window_147 (fun r11 _ => ?_)
    refine g_ifb_eq (pc := 150) (tgt := 166) C dX8_window_150 rfl ?_ ?_
    · refine g_aload_n (pc := 153) (i := 0) C dX8_window_153 rfl rfl ?_
      refine g_getr (pc := 154) (ci := 8) (N := 8) (T := TX8) (j := 4) (Cn := RX8) 422 C rfl inlX8 (Nat.le_of_ble_eq_true rfl) q_1_21 ok_dl rfl dX8_window_154 ?_
      refine g_iload (pc := 157) C dX8_window_157 rfl ?_
      refine g_iconst (pc := 159) (v := 1) C dX8_window_159 (by decide) ?_
      refine g_callVi (pc := 160) (As := [.int (r3), .int (1)]) C (kX2_minimumOf X σ 422 r3 1 ok_pn) (blk ok_pn 0 rfl) rfl q_32_10 q_17_12 q_17_13 q_1_20 q_17_14 ⟨rfl, hdX2_minimumOf⟩ ⟨Nat.le_of_ble_eq_true rfl, Nat.le_of_ble_eq_true rfl, rfl, rfl⟩ ⟨Nat.zero_le _, Nat.zero_le _⟩ (Nat.le_of_ble_eq_true rfl) rfl rfl dX8_window_160 (fun r12 _ => ?_)
      refine g_goto (pc := 163) (tgt := 167) C dX8_window_163 rfl ?_
      exact g_iret (pc := 167) C hr dX8_window_167 rfl
    · refine g_iconst (pc := 166) (v := 0) C dX8_window_166 (by decide) ?_
      exact g_iret (pc := 167) C hr dX8_window_167 rfl
  refine g_tabout (pc := 28) (tgt := 168) C dX8_window_28 (tsw_out0_6 hz0 hz1 hz2 hz3 hz4 hz5 hz6) rfl ?_
  refine g_aload_n (pc := 168) (i := 3) C dX8_window_168 rfl rfl ?_
  refine g_getNr (pc := 169) (ci := 1) (N := 14) (T := TX1) (j := 5) (Cn := RX1) ((1 + 5) + 6) C rfl inlX1 (Nat.le_of_ble_eq_true rfl) (List.mem_of_getElem? (i := 16) rfl) (blk (st_pl ok_now) 0 rfl) rfl dX8_window_169 ?_
  refine g_iload_n (pc := 172) (i := 1) C dX8_window_172 rfl rfl ?_
  refine g_callVi (pc := 173) (As := [.int (p1)]) C (kX0_indexOf X σ ((1 + 5) + 6) p1 (pl_or (st_pl ok_now))) (blk (pl_or (st_pl ok_now)) 0 rfl) rfl q_31_12 q_13_17 q_13_18 q_2_19 q_13_19 ⟨rfl, hdX0_indexOf⟩ ⟨Nat.le_of_ble_eq_true rfl, Nat.le_of_ble_eq_true rfl, rfl, rfl⟩ ⟨Nat.zero_le _, Nat.zero_le _⟩ (Nat.le_of_ble_eq_true rfl) rfl rfl dX8_window_173 (fun r13 _ => ?_)
  exact g_iret (pc := 176) C hr dX8_window_176 rfl
theorem dX8_mixWindow_0 : decode cX8_mixWindow 0 = .ok (.lload_n 1, 1) := by decide +kernel
theorem dX8_mixWindow_1 : decode cX8_mixWindow 1 = .ok (.lstore 4, 2) := by decide +kernel
theorem dX8_mixWindow_3 : decode cX8_mixWindow 3 = .ok (.iconst 0, 1) := by decide +kernel
theorem dX8_mixWindow_4 : decode cX8_mixWindow 4 = .ok (.istore 6, 2) := by decide +kernel
theorem dX8_mixWindow_6 : decode cX8_mixWindow 6 = .ok (.iload 6, 2) := by decide +kernel
theorem dX8_mixWindow_8 : decode cX8_mixWindow 8 = .ok (.bipush 7, 2) := by decide +kernel
theorem dX8_mixWindow_10 : decode cX8_mixWindow 10 = .ok (.if_icmp .gt 23, 3) := by decide +kernel
theorem dX8_mixWindow_13 : decode cX8_mixWindow 13 = .ok (.lload 4, 2) := by decide +kernel
theorem dX8_mixWindow_15 : decode cX8_mixWindow 15 = .ok (.aload_n 0, 1) := by decide +kernel
theorem dX8_mixWindow_16 : decode cX8_mixWindow 16 = .ok (.iload_n 3, 1) := by decide +kernel
theorem dX8_mixWindow_17 : decode cX8_mixWindow 17 = .ok (.iload 6, 2) := by decide +kernel
theorem dX8_mixWindow_19 : decode cX8_mixWindow 19 = .ok (.invokevirtual 393, 3) := by decide +kernel
theorem dX8_mixWindow_22 : decode cX8_mixWindow 22 = .ok (.invokestatic 371, 3) := by decide +kernel
theorem dX8_mixWindow_25 : decode cX8_mixWindow 25 = .ok (.lstore 4, 2) := by decide +kernel
theorem dX8_mixWindow_27 : decode cX8_mixWindow 27 = .ok (.iinc 6 1, 3) := by decide +kernel
theorem dX8_mixWindow_30 : decode cX8_mixWindow 30 = .ok (.goto (-24), 3) := by decide +kernel
theorem dX8_mixWindow_33 : decode cX8_mixWindow 33 = .ok (.lload 4, 2) := by decide +kernel
theorem dX8_mixWindow_35 : decode cX8_mixWindow 35 = .ok (.lreturn, 1) := by decide +kernel
abbrev rmX8_mixWindowN : Room := { frames := 5, cells := 0, slots := 0, locals := 108 }
theorem hdX8_mixWindowN : yX8_mixWindow.cls ≠ "java/lang/invoke/MethodHandle" ∧ yX8_mixWindow.cls ≠ "java/lang/invoke/VarHandle" ∧ (parseMethodDescriptor yX8_mixWindow.desc).map (fun d => d.parameters.length) = some 2 := by decide +kernel
def fX8_mixWindowN_6 (σ : Sg) : Nat → Int32 → Int64 → Int32 → Option Int64
  | 0, _, _, _ => none
  | n + 1, l3, l4, l6 =>
    if 7 < l6 then
      some l4
    else
      (fX8_windowN σ l3 l6).bind fun r1 =>
      (fX8_mix σ l4 r1).bind fun r2 =>
      ((fX8_mixWindowN_6 σ n) l3 r2 (l6 + 1))
theorem bX8_mixWindowN_6 {X : Xc} {K : Kc} (C : MC X K cX8_mixWindow 7 RX8 rmX8_mixWindowN) (hr : K.meth.sig.returnType = (some .long)) (σ : Sg) : ∀ (n : Nat) (l3 : Int32) (l4 : Int64) (l6 : Int32), GO X K 7 (fun r => MQl X K r σ) (fX8_mixWindowN_6 σ n l3 l4 l6) σ 0 0 6 [some (.ref (X.ad 0)), none, none, some (.int (l3)), some (.long (l4)), none, some (.int (l6))] [] := by
  intro n
  induction n with
  | zero =>
    intro l3 l4 l6
    exact g_none
  | succ n ih =>
    intro l3 l4 l6
    unfold fX8_mixWindowN_6
    refine g_iload (pc := 6) C dX8_mixWindow_6 rfl ?_
    refine g_bipush (pc := 8) (v := 7) C dX8_mixWindow_8 (by decide) ?_
    refine g_icmp_gt (pc := 10) (tgt := 33) C dX8_mixWindow_10 rfl ?_ ?_
    · refine g_lload (pc := 33) C dX8_mixWindow_33 rfl ?_
      exact g_lret (pc := 35) C hr dX8_mixWindow_35 rfl
    · refine g_lload (pc := 13) C dX8_mixWindow_13 rfl ?_
      refine g_aload_n (pc := 15) (i := 0) C dX8_mixWindow_15 rfl rfl ?_
      refine g_iload_n (pc := 16) (i := 3) C dX8_mixWindow_16 rfl rfl ?_
      refine g_iload (pc := 17) C dX8_mixWindow_17 rfl ?_
      refine g_callVi (pc := 19) (As := [.int (l3), .int (l6)]) C (kX8_windowN X σ l3 l6) ok_dl rfl q_58_20 q_32_6 q_32_7 q_1_2 q_32_8 ⟨rfl, hdX8_windowN⟩ ⟨Nat.le_of_ble_eq_true rfl, Nat.le_of_ble_eq_true rfl, rfl, rfl⟩ ⟨Nat.zero_le _, Nat.zero_le _⟩ (Nat.le_of_ble_eq_true rfl) rfl rfl dX8_mixWindow_19 (fun r1 _ => ?_)
      refine g_callSl (pc := 22) (As := [.long (l4), .int (r1)]) C (kX8_mix X σ l4 r1) q_58_6 q_58_7 q_1_2 q_58_8 hdX8_mix ⟨Nat.le_of_ble_eq_true rfl, Nat.le_of_ble_eq_true rfl, rfl, rfl⟩ ⟨Nat.zero_le _, Nat.zero_le _⟩ (Nat.le_of_ble_eq_true rfl) rfl rfl dX8_mixWindow_22 (fun r2 _ => ?_)
      refine g_lstore (pc := 25) C dX8_mixWindow_25 (Nat.le_of_ble_eq_true rfl) rfl ?_
      refine g_iinc (pc := 27) (v := l6 + 1) C dX8_mixWindow_27 rfl (rfl) (Nat.le_of_ble_eq_true rfl) rfl ?_
      refine g_goto (pc := 30) (tgt := 6) C dX8_mixWindow_30 rfl ?_
      refine g_keep [true, false, false, true, true, false, true] ?_
      exact ih l3 r2 (l6 + 1)
def fX8_mixWindowN (σ : Sg) (p1 : Int64) (p3 : Int32) : Option Int64 :=
  (fX8_mixWindowN_6 σ FU p3 p1 0)
theorem kX8_mixWindowN (X : Xc) (σ : Sg) (p1 : Int64) (p3 : Int32) : ∀ r, fX8_mixWindowN σ p1 p3 = some r → Met X.l yX8_mixWindow (wsM yX8_mixWindow cX8_mixWindow 7 (some .long)) rmX8_mixWindowN (va_Pc [.ref (X.ad 0), .long p1, .int p3] (PW X σ)) (Ql X r σ) 0 0 X.A := by
  refine mt_of (own := RX8) (lo := [some (.ref (X.ad 0)), some (.long (p1)), none, some (.int (p3)), none, none, none]) (by decide) rfl (Nat.le_of_ble_eq_true rfl) rfl (fun K C hr => ?_)
  unfold fX8_mixWindowN
  refine g_lload_n (pc := 0) (i := 1) C dX8_mixWindow_0 rfl rfl ?_
  refine g_lstore (pc := 1) C dX8_mixWindow_1 (Nat.le_of_ble_eq_true rfl) rfl ?_
  refine g_iconst (pc := 3) (v := 0) C dX8_mixWindow_3 (by decide) ?_
  refine g_istore (pc := 4) C dX8_mixWindow_4 (Nat.le_of_ble_eq_true rfl) rfl ?_
  refine g_keep [true, false, false, true, true, false, true] ?_
  exact bX8_mixWindowN_6 C hr σ FU p3 p1 0
theorem dX8_checksum_0 : decode cX8_checksum 0 = .ok (.ldc2_w 369, 3) := by decide +kernel
theorem dX8_checksum_3 : decode cX8_checksum 3 = .ok (.aload_n 0, 1) := by decide +kernel
theorem dX8_checksum_4 : decode cX8_checksum 4 = .ok (.getfield 10, 3) := by decide +kernel
theorem dX8_checksum_7 : decode cX8_checksum 7 = .ok (.getfield 102, 3) := by decide +kernel
theorem dX8_checksum_10 : decode cX8_checksum 10 = .ok (.invokestatic 371, 3) := by decide +kernel
theorem dX8_checksum_13 : decode cX8_checksum 13 = .ok (.lstore_n 1, 1) := by decide +kernel
theorem dX8_checksum_14 : decode cX8_checksum 14 = .ok (.iconst 0, 1) := by decide +kernel
theorem dX8_checksum_15 : decode cX8_checksum 15 = .ok (.istore_n 3, 1) := by decide +kernel
theorem dX8_checksum_16 : decode cX8_checksum 16 = .ok (.iload_n 3, 1) := by decide +kernel
theorem dX8_checksum_17 : decode cX8_checksum 17 = .ok (.bipush 12, 2) := by decide +kernel
theorem dX8_checksum_19 : decode cX8_checksum 19 = .ok (.if_icmp .ge 31, 3) := by decide +kernel
theorem dX8_checksum_22 : decode cX8_checksum 22 = .ok (.aload_n 0, 1) := by decide +kernel
theorem dX8_checksum_23 : decode cX8_checksum 23 = .ok (.getfield 10, 3) := by decide +kernel
theorem dX8_checksum_26 : decode cX8_checksum 26 = .ok (.iload_n 3, 1) := by decide +kernel
theorem dX8_checksum_27 : decode cX8_checksum 27 = .ok (.invokevirtual 375, 3) := by decide +kernel
theorem dX8_checksum_30 : decode cX8_checksum 30 = .ok (.ifCond .eq 12, 3) := by decide +kernel
theorem dX8_checksum_33 : decode cX8_checksum 33 = .ok (.aload_n 0, 1) := by decide +kernel
theorem dX8_checksum_34 : decode cX8_checksum 34 = .ok (.lload_n 1, 1) := by decide +kernel
theorem dX8_checksum_35 : decode cX8_checksum 35 = .ok (.iload_n 3, 1) := by decide +kernel
theorem dX8_checksum_36 : decode cX8_checksum 36 = .ok (.invokevirtual 378, 3) := by decide +kernel
theorem dX8_checksum_39 : decode cX8_checksum 39 = .ok (.goto 4, 3) := by decide +kernel
theorem dX8_checksum_42 : decode cX8_checksum 42 = .ok (.lload_n 1, 1) := by decide +kernel
theorem dX8_checksum_43 : decode cX8_checksum 43 = .ok (.lstore_n 1, 1) := by decide +kernel
theorem dX8_checksum_44 : decode cX8_checksum 44 = .ok (.iinc 3 1, 3) := by decide +kernel
theorem dX8_checksum_47 : decode cX8_checksum 47 = .ok (.goto (-31), 3) := by decide +kernel
theorem dX8_checksum_50 : decode cX8_checksum 50 = .ok (.iconst 0, 1) := by decide +kernel
theorem dX8_checksum_51 : decode cX8_checksum 51 = .ok (.istore_n 3, 1) := by decide +kernel
theorem dX8_checksum_52 : decode cX8_checksum 52 = .ok (.iload_n 3, 1) := by decide +kernel
theorem dX8_checksum_53 : decode cX8_checksum 53 = .ok (.iconst 5, 1) := by decide +kernel
theorem dX8_checksum_54 : decode cX8_checksum 54 = .ok (.if_icmp .ge 34, 3) := by decide +kernel
theorem dX8_checksum_57 : decode cX8_checksum 57 = .ok (.aload_n 0, 1) := by decide +kernel
theorem dX8_checksum_58 : decode cX8_checksum 58 = .ok (.getfield 10, 3) := by decide +kernel
theorem dX8_checksum_61 : decode cX8_checksum 61 = .ok (.getfield 77, 3) := by decide +kernel
theorem dX8_checksum_64 : decode cX8_checksum 64 = .ok (.iload_n 3, 1) := by decide +kernel
theorem dX8_checksum_65 : decode cX8_checksum 65 = .ok (.invokevirtual 381, 3) := by decide +kernel
theorem dX8_checksum_68 : decode cX8_checksum 68 = .ok (.ifCond .eq 12, 3) := by decide +kernel
theorem dX8_checksum_71 : decode cX8_checksum 71 = .ok (.aload_n 0, 1) := by decide +kernel
theorem dX8_checksum_72 : decode cX8_checksum 72 = .ok (.lload_n 1, 1) := by decide +kernel
theorem dX8_checksum_73 : decode cX8_checksum 73 = .ok (.iload_n 3, 1) := by decide +kernel
theorem dX8_checksum_74 : decode cX8_checksum 74 = .ok (.invokevirtual 384, 3) := by decide +kernel
theorem dX8_checksum_77 : decode cX8_checksum 77 = .ok (.goto 4, 3) := by decide +kernel
theorem dX8_checksum_80 : decode cX8_checksum 80 = .ok (.lload_n 1, 1) := by decide +kernel
theorem dX8_checksum_81 : decode cX8_checksum 81 = .ok (.lstore_n 1, 1) := by decide +kernel
theorem dX8_checksum_82 : decode cX8_checksum 82 = .ok (.iinc 3 1, 3) := by decide +kernel
theorem dX8_checksum_85 : decode cX8_checksum 85 = .ok (.goto (-33), 3) := by decide +kernel
theorem dX8_checksum_88 : decode cX8_checksum 88 = .ok (.iconst 0, 1) := by decide +kernel
theorem dX8_checksum_89 : decode cX8_checksum 89 = .ok (.istore_n 3, 1) := by decide +kernel
theorem dX8_checksum_90 : decode cX8_checksum 90 = .ok (.iload_n 3, 1) := by decide +kernel
theorem dX8_checksum_91 : decode cX8_checksum 91 = .ok (.aload_n 0, 1) := by decide +kernel
theorem dX8_checksum_92 : decode cX8_checksum 92 = .ok (.getfield 10, 3) := by decide +kernel
theorem dX8_checksum_95 : decode cX8_checksum 95 = .ok (.getfield 86, 3) := by decide +kernel
theorem dX8_checksum_98 : decode cX8_checksum 98 = .ok (.invokevirtual 240, 3) := by decide +kernel
theorem dX8_checksum_101 : decode cX8_checksum 101 = .ok (.if_icmp .ge 25, 3) := by decide +kernel
theorem dX8_checksum_104 : decode cX8_checksum 104 = .ok (.lload_n 1, 1) := by decide +kernel
theorem dX8_checksum_105 : decode cX8_checksum 105 = .ok (.aload_n 0, 1) := by decide +kernel
theorem dX8_checksum_106 : decode cX8_checksum 106 = .ok (.getfield 10, 3) := by decide +kernel
theorem dX8_checksum_109 : decode cX8_checksum 109 = .ok (.getfield 86, 3) := by decide +kernel
theorem dX8_checksum_112 : decode cX8_checksum 112 = .ok (.iload_n 3, 1) := by decide +kernel
theorem dX8_checksum_113 : decode cX8_checksum 113 = .ok (.invokevirtual 215, 3) := by decide +kernel
theorem dX8_checksum_116 : decode cX8_checksum 116 = .ok (.invokestatic 371, 3) := by decide +kernel
theorem dX8_checksum_119 : decode cX8_checksum 119 = .ok (.lstore_n 1, 1) := by decide +kernel
theorem dX8_checksum_120 : decode cX8_checksum 120 = .ok (.iinc 3 1, 3) := by decide +kernel
theorem dX8_checksum_123 : decode cX8_checksum 123 = .ok (.goto (-33), 3) := by decide +kernel
theorem dX8_checksum_126 : decode cX8_checksum 126 = .ok (.iconst 0, 1) := by decide +kernel
theorem dX8_checksum_127 : decode cX8_checksum 127 = .ok (.istore_n 3, 1) := by decide +kernel
theorem dX8_checksum_128 : decode cX8_checksum 128 = .ok (.iload_n 3, 1) := by decide +kernel
theorem dX8_checksum_129 : decode cX8_checksum 129 = .ok (.iconst 3, 1) := by decide +kernel
theorem dX8_checksum_130 : decode cX8_checksum 130 = .ok (.if_icmp .ge 30, 3) := by decide +kernel
theorem dX8_checksum_133 : decode cX8_checksum 133 = .ok (.lload_n 1, 1) := by decide +kernel
theorem dX8_checksum_134 : decode cX8_checksum 134 = .ok (.aload_n 0, 1) := by decide +kernel
theorem dX8_checksum_135 : decode cX8_checksum 135 = .ok (.getfield 10, 3) := by decide +kernel
theorem dX8_checksum_138 : decode cX8_checksum 138 = .ok (.iload_n 3, 1) := by decide +kernel
theorem dX8_checksum_139 : decode cX8_checksum 139 = .ok (.invokevirtual 310, 3) := by decide +kernel
theorem dX8_checksum_142 : decode cX8_checksum 142 = .ok (.ifCond .eq 7, 3) := by decide +kernel
theorem dX8_checksum_145 : decode cX8_checksum 145 = .ok (.iconst 1, 1) := by decide +kernel
theorem dX8_checksum_146 : decode cX8_checksum 146 = .ok (.goto 4, 3) := by decide +kernel
theorem dX8_checksum_149 : decode cX8_checksum 149 = .ok (.iconst 0, 1) := by decide +kernel
theorem dX8_checksum_150 : decode cX8_checksum 150 = .ok (.invokestatic 371, 3) := by decide +kernel
theorem dX8_checksum_153 : decode cX8_checksum 153 = .ok (.lstore_n 1, 1) := by decide +kernel
theorem dX8_checksum_154 : decode cX8_checksum 154 = .ok (.iinc 3 1, 3) := by decide +kernel
theorem dX8_checksum_157 : decode cX8_checksum 157 = .ok (.goto (-29), 3) := by decide +kernel
theorem dX8_checksum_160 : decode cX8_checksum 160 = .ok (.lload_n 1, 1) := by decide +kernel
theorem dX8_checksum_161 : decode cX8_checksum 161 = .ok (.aload_n 0, 1) := by decide +kernel
theorem dX8_checksum_162 : decode cX8_checksum 162 = .ok (.getfield 30, 3) := by decide +kernel
theorem dX8_checksum_165 : decode cX8_checksum 165 = .ok (.invokevirtual 318, 3) := by decide +kernel
theorem dX8_checksum_168 : decode cX8_checksum 168 = .ok (.invokestatic 371, 3) := by decide +kernel
theorem dX8_checksum_171 : decode cX8_checksum 171 = .ok (.aload_n 0, 1) := by decide +kernel
theorem dX8_checksum_172 : decode cX8_checksum 172 = .ok (.getfield 358, 3) := by decide +kernel
theorem dX8_checksum_175 : decode cX8_checksum 175 = .ok (.invokestatic 371, 3) := by decide +kernel
theorem dX8_checksum_178 : decode cX8_checksum 178 = .ok (.lreturn, 1) := by decide +kernel
abbrev rmX8_checksumN : Room := { frames := 6, cells := 0, slots := 0, locals := 134 }
theorem hdX8_checksumN : yX8_checksum.cls ≠ "java/lang/invoke/MethodHandle" ∧ yX8_checksum.cls ≠ "java/lang/invoke/VarHandle" ∧ (parseMethodDescriptor yX8_checksum.desc).map (fun d => d.parameters.length) = some 0 := by decide +kernel
def fX8_checksumN_150 (σ : Sg) (k128 : Int64 → Int32 → Option Int64) (l3 : Int32) (s0 : Int64) (s1 : Int32) : Option Int64 :=
  (fX8_mix σ s0 s1).bind fun r13 =>
  (k128 r13 (l3 + 1))
theorem bX8_checksumN_150 {X : Xc} {K : Kc} (C : MC X K cX8_checksum 4 RX8 rmX8_checksumN) (hr : K.meth.sig.returnType = (some .long)) (σ : Sg){k128 : Int64 → Int32 → Option Int64} (hk128 : ∀ (l1 : Int64) (l3 : Int32), GO X K 4 (fun r => MQl X K r σ) (k128 l1 l3) σ 0 0 128 [some (.ref (X.ad 0)), some (.long (l1)), none, some (.int (l3))] []) (l3 : Int32) (s0 : Int64) (s1 : Int32) : GO X K 4 (fun r => MQl X K r σ) (fX8_checksumN_150 σ k128 l3 s0 s1) σ 0 0 150 [some (.ref (X.ad 0)), none, none, some (.int (l3))] [.int (s1), .long (s0)] := by
  unfold fX8_checksumN_150
  refine g_callSl (pc := 150) (As := [.long (s0), .int (s1)]) C (kX8_mix X σ s0 s1) q_58_6 q_58_7 q_1_2 q_58_8 hdX8_mix ⟨Nat.le_of_ble_eq_true rfl, Nat.le_of_ble_eq_true rfl, rfl, rfl⟩ ⟨Nat.zero_le _, Nat.zero_le _⟩ (Nat.le_of_ble_eq_true rfl) rfl rfl dX8_checksum_150 (fun r13 _ => ?_)
  refine g_lstore_n (pc := 153) (i := 1) C dX8_checksum_153 rfl (Nat.le_of_ble_eq_true rfl) rfl ?_
  refine g_iinc (pc := 154) (v := l3 + 1) C dX8_checksum_154 rfl (rfl) (Nat.le_of_ble_eq_true rfl) rfl ?_
  refine g_goto (pc := 157) (tgt := 128) C dX8_checksum_157 rfl ?_
  refine g_keep [true, true, false, true] ?_
  exact hk128 r13 (l3 + 1)
def fX8_checksumN_128 (σ : Sg) : Nat → Int64 → Int32 → Option Int64
  | 0, _, _ => none
  | n + 1, l1, l3 =>
    if 3 ≤ l3 then
      (fX5_length σ 438).bind fun r9 =>
      (fX8_mix σ l1 r9).bind fun r10 =>
      (fX8_mix σ r10 (σ.1 0 3)).bind fun r11 =>
      some r11
    else
      (fX4_isSaved σ 1 l3).bind fun r12 =>
      if r12 = true then
        (fX8_checksumN_150 σ (fX8_checksumN_128 σ n) l3 l1 1)
      else
        (fX8_checksumN_150 σ (fX8_checksumN_128 σ n) l3 l1 0)
theorem bX8_checksumN_128 {X : Xc} {K : Kc} (C : MC X K cX8_checksum 4 RX8 rmX8_checksumN) (hr : K.meth.sig.returnType = (some .long)) (σ : Sg) : ∀ (n : Nat) (l1 : Int64) (l3 : Int32), GO X K 4 (fun r => MQl X K r σ) (fX8_checksumN_128 σ n l1 l3) σ 0 0 128 [some (.ref (X.ad 0)), some (.long (l1)), none, some (.int (l3))] [] := by
  intro n
  induction n with
  | zero =>
    intro l1 l3
    exact g_none
  | succ n ih =>
    intro l1 l3
    unfold fX8_checksumN_128
    refine g_iload_n (pc := 128) (i := 3) C dX8_checksum_128 rfl rfl ?_
    refine g_iconst (pc := 129) (v := 3) C dX8_checksum_129 (by decide) ?_
    refine g_icmp_ge (pc := 130) (tgt := 160) C dX8_checksum_130 rfl ?_ ?_
    · refine g_lload_n (pc := 160) (i := 1) C dX8_checksum_160 rfl rfl ?_
      refine g_aload_n (pc := 161) (i := 0) C dX8_checksum_161 rfl rfl ?_
      refine g_getr (pc := 162) (ci := 8) (N := 8) (T := TX8) (j := 5) (Cn := RX8) 438 C rfl inlX8 (Nat.le_of_ble_eq_true rfl) q_2_1 ok_dl rfl dX8_checksum_162 ?_
      refine g_callVi (pc := 165) (As := []) C (kX5_length X σ 438 ok_tx) (blk ok_tx 0 rfl) rfl q_48_23 q_49_0 q_49_1 q_2_0 q_49_2 ⟨rfl, hdX5_length⟩ ⟨Nat.le_of_ble_eq_true rfl, Nat.le_of_ble_eq_true rfl, rfl, rfl⟩ ⟨Nat.zero_le _, Nat.zero_le _⟩ (Nat.le_of_ble_eq_true rfl) rfl rfl dX8_checksum_165 (fun r9 _ => ?_)
      refine g_callSl (pc := 168) (As := [.long (l1), .int (r9)]) C (kX8_mix X σ l1 r9) q_58_6 q_58_7 q_1_2 q_58_8 hdX8_mix ⟨Nat.le_of_ble_eq_true rfl, Nat.le_of_ble_eq_true rfl, rfl, rfl⟩ ⟨Nat.zero_le _, Nat.zero_le _⟩ (Nat.le_of_ble_eq_true rfl) rfl rfl dX8_checksum_168 (fun r10 _ => ?_)
      refine g_aload_n (pc := 171) (i := 0) C dX8_checksum_171 rfl rfl ?_
      refine g_geti (pc := 172) (ci := 8) (N := 8) (T := TX8) (j := 3) (Cn := RX8) C rfl inlX8 (Nat.le_of_ble_eq_true rfl) q_8_1 ok_dl rfl dX8_checksum_172 ?_
      refine g_callSl (pc := 175) (As := [.long (r10), .int (σ.1 0 3)]) C (kX8_mix X σ r10 (σ.1 0 3)) q_58_6 q_58_7 q_1_2 q_58_8 hdX8_mix ⟨Nat.le_of_ble_eq_true rfl, Nat.le_of_ble_eq_true rfl, rfl, rfl⟩ ⟨Nat.zero_le _, Nat.zero_le _⟩ (Nat.le_of_ble_eq_true rfl) rfl rfl dX8_checksum_175 (fun r11 _ => ?_)
      exact g_lret (pc := 178) C hr dX8_checksum_178 rfl
    · refine g_lload_n (pc := 133) (i := 1) C dX8_checksum_133 rfl rfl ?_
      refine g_aload_n (pc := 134) (i := 0) C dX8_checksum_134 rfl rfl ?_
      refine g_getr (pc := 135) (ci := 8) (N := 8) (T := TX8) (j := 0) (Cn := RX8) 1 C rfl inlX8 (Nat.le_of_ble_eq_true rfl) q_1_16 ok_dl rfl dX8_checksum_135 ?_
      refine g_iload_n (pc := 138) (i := 3) C dX8_checksum_138 rfl rfl ?_
      refine g_callVi (pc := 139) (As := [.int (l3)]) C (kX4_isSaved X σ 1 l3 ok_now) (blk ok_now 0 rfl) rfl q_47_14 q_47_15 q_47_16 q_1_15 q_47_17 ⟨rfl, hdX4_isSaved⟩ ⟨Nat.le_of_ble_eq_true rfl, Nat.le_of_ble_eq_true rfl, rfl, rfl⟩ ⟨Nat.zero_le _, Nat.zero_le _⟩ (Nat.le_of_ble_eq_true rfl) rfl rfl dX8_checksum_139 (fun r12 _ => ?_)
      refine g_ifb_eq (pc := 142) (tgt := 149) C dX8_checksum_142 rfl ?_ ?_
      · refine g_iconst (pc := 145) (v := 1) C dX8_checksum_145 (by decide) ?_
        refine g_goto (pc := 146) (tgt := 150) C dX8_checksum_146 rfl ?_
        refine g_keep [true, false, false, true] ?_
        exact bX8_checksumN_150 C hr σ ih l3 l1 1
      · refine g_iconst (pc := 149) (v := 0) C dX8_checksum_149 (by decide) ?_
        refine g_keep [true, false, false, true] ?_
        exact bX8_checksumN_150 C hr σ ih l3 l1 0
def fX8_checksumN_90 (σ : Sg) : Nat → Int64 → Int32 → Option Int64
  | 0, _, _ => none
  | n + 1, l1, l3 =>
    (fX0_size σ (1 + 3)).bind fun r6 =>
    if r6 ≤ l3 then
      (fX8_checksumN_128 σ FU l1 0)
    else
      (fX0_item σ (1 + 3) l3).bind fun r7 =>
      (fX8_mix σ l1 r7).bind fun r8 =>
      ((fX8_checksumN_90 σ n) r8 (l3 + 1))
theorem bX8_checksumN_90 {X : Xc} {K : Kc} (C : MC X K cX8_checksum 4 RX8 rmX8_checksumN) (hr : K.meth.sig.returnType = (some .long)) (σ : Sg) : ∀ (n : Nat) (l1 : Int64) (l3 : Int32), GO X K 4 (fun r => MQl X K r σ) (fX8_checksumN_90 σ n l1 l3) σ 0 0 90 [some (.ref (X.ad 0)), some (.long (l1)), none, some (.int (l3))] [] := by
  intro n
  induction n with
  | zero =>
    intro l1 l3
    exact g_none
  | succ n ih =>
    intro l1 l3
    unfold fX8_checksumN_90
    refine g_iload_n (pc := 90) (i := 3) C dX8_checksum_90 rfl rfl ?_
    refine g_aload_n (pc := 91) (i := 0) C dX8_checksum_91 rfl rfl ?_
    refine g_getr (pc := 92) (ci := 8) (N := 8) (T := TX8) (j := 0) (Cn := RX8) 1 C rfl inlX8 (Nat.le_of_ble_eq_true rfl) q_1_16 ok_dl rfl dX8_checksum_92 ?_
    refine g_getNr (pc := 95) (ci := 4) (N := 7) (T := TX4) (j := 3) (Cn := RX4) (1 + 3) C rfl inlX4 (Nat.le_of_ble_eq_true rfl) (List.mem_of_getElem? (i := 11) rfl) (blk ok_now 0 rfl) rfl dX8_checksum_95 ?_
    refine g_callVi (pc := 98) (As := []) C (kX0_size X σ (1 + 3) (st_or ok_now)) (blk (st_or ok_now) 0 rfl) rfl q_37_0 q_37_1 q_37_2 q_2_19 q_37_3 ⟨rfl, hdX0_size⟩ ⟨Nat.le_of_ble_eq_true rfl, Nat.le_of_ble_eq_true rfl, rfl, rfl⟩ ⟨Nat.zero_le _, Nat.zero_le _⟩ (Nat.le_of_ble_eq_true rfl) rfl rfl dX8_checksum_98 (fun r6 _ => ?_)
    refine g_icmp_ge (pc := 101) (tgt := 126) C dX8_checksum_101 rfl ?_ ?_
    · refine g_iconst (pc := 126) (v := 0) C dX8_checksum_126 (by decide) ?_
      refine g_istore_n (pc := 127) (i := 3) C dX8_checksum_127 rfl (Nat.le_of_ble_eq_true rfl) rfl ?_
      refine g_keep [true, true, false, true] ?_
      exact bX8_checksumN_128 C hr σ FU l1 0
    · refine g_lload_n (pc := 104) (i := 1) C dX8_checksum_104 rfl rfl ?_
      refine g_aload_n (pc := 105) (i := 0) C dX8_checksum_105 rfl rfl ?_
      refine g_getr (pc := 106) (ci := 8) (N := 8) (T := TX8) (j := 0) (Cn := RX8) 1 C rfl inlX8 (Nat.le_of_ble_eq_true rfl) q_1_16 ok_dl rfl dX8_checksum_106 ?_
      refine g_getNr (pc := 109) (ci := 4) (N := 7) (T := TX4) (j := 3) (Cn := RX4) (1 + 3) C rfl inlX4 (Nat.le_of_ble_eq_true rfl) (List.mem_of_getElem? (i := 11) rfl) (blk ok_now 0 rfl) rfl dX8_checksum_109 ?_
      refine g_iload_n (pc := 112) (i := 3) C dX8_checksum_112 rfl rfl ?_
      refine g_callVi (pc := 113) (As := [.int (l3)]) C (kX0_item X σ (1 + 3) l3 (st_or ok_now)) (blk (st_or ok_now) 0 rfl) rfl q_32_23 q_33_0 q_33_1 q_2_19 q_33_2 ⟨rfl, hdX0_item⟩ ⟨Nat.le_of_ble_eq_true rfl, Nat.le_of_ble_eq_true rfl, rfl, rfl⟩ ⟨Nat.zero_le _, Nat.zero_le _⟩ (Nat.le_of_ble_eq_true rfl) rfl rfl dX8_checksum_113 (fun r7 _ => ?_)
      refine g_callSl (pc := 116) (As := [.long (l1), .int (r7)]) C (kX8_mix X σ l1 r7) q_58_6 q_58_7 q_1_2 q_58_8 hdX8_mix ⟨Nat.le_of_ble_eq_true rfl, Nat.le_of_ble_eq_true rfl, rfl, rfl⟩ ⟨Nat.zero_le _, Nat.zero_le _⟩ (Nat.le_of_ble_eq_true rfl) rfl rfl dX8_checksum_116 (fun r8 _ => ?_)
      refine g_lstore_n (pc := 119) (i := 1) C dX8_checksum_119 rfl (Nat.le_of_ble_eq_true rfl) rfl ?_
      refine g_iinc (pc := 120) (v := l3 + 1) C dX8_checksum_120 rfl (rfl) (Nat.le_of_ble_eq_true rfl) rfl ?_
      refine g_goto (pc := 123) (tgt := 90) C dX8_checksum_123 rfl ?_
      refine g_keep [true, true, false, true] ?_
      exact ih r8 (l3 + 1)
def fX8_checksumN_81 (σ : Sg) (k52 : Int64 → Int32 → Option Int64) (l3 : Int32) (s0 : Int64) : Option Int64 :=
  (k52 s0 (l3 + 1))
theorem bX8_checksumN_81 {X : Xc} {K : Kc} (C : MC X K cX8_checksum 4 RX8 rmX8_checksumN) (hr : K.meth.sig.returnType = (some .long)) (σ : Sg){k52 : Int64 → Int32 → Option Int64} (hk52 : ∀ (l1 : Int64) (l3 : Int32), GO X K 4 (fun r => MQl X K r σ) (k52 l1 l3) σ 0 0 52 [some (.ref (X.ad 0)), some (.long (l1)), none, some (.int (l3))] []) (l3 : Int32) (s0 : Int64) : GO X K 4 (fun r => MQl X K r σ) (fX8_checksumN_81 σ k52 l3 s0) σ 0 0 81 [some (.ref (X.ad 0)), none, none, some (.int (l3))] [.long (s0)] := by
  unfold fX8_checksumN_81
  refine g_lstore_n (pc := 81) (i := 1) C dX8_checksum_81 rfl (Nat.le_of_ble_eq_true rfl) rfl ?_
  refine g_iinc (pc := 82) (v := l3 + 1) C dX8_checksum_82 rfl (rfl) (Nat.le_of_ble_eq_true rfl) rfl ?_
  refine g_goto (pc := 85) (tgt := 52) C dX8_checksum_85 rfl ?_
  refine g_keep [true, true, false, true] ?_
  exact hk52 s0 (l3 + 1)
def fX8_checksumN_52 (σ : Sg) : Nat → Int64 → Int32 → Option Int64
  | 0, _, _ => none
  | n + 1, l1, l3 =>
    if 5 ≤ l3 then
      (fX8_checksumN_90 σ FU l1 0)
    else
      (fX1_windowExists σ (1 + 5) l3).bind fun r4 =>
      if r4 = true then
        (fX8_mixWindowN σ l1 l3).bind fun r5 =>
        (fX8_checksumN_81 σ (fX8_checksumN_52 σ n) l3 r5)
      else
        (fX8_checksumN_81 σ (fX8_checksumN_52 σ n) l3 l1)
theorem bX8_checksumN_52 {X : Xc} {K : Kc} (C : MC X K cX8_checksum 4 RX8 rmX8_checksumN) (hr : K.meth.sig.returnType = (some .long)) (σ : Sg) : ∀ (n : Nat) (l1 : Int64) (l3 : Int32), GO X K 4 (fun r => MQl X K r σ) (fX8_checksumN_52 σ n l1 l3) σ 0 0 52 [some (.ref (X.ad 0)), some (.long (l1)), none, some (.int (l3))] [] := by
  intro n
  induction n with
  | zero =>
    intro l1 l3
    exact g_none
  | succ n ih =>
    intro l1 l3
    unfold fX8_checksumN_52
    refine g_iload_n (pc := 52) (i := 3) C dX8_checksum_52 rfl rfl ?_
    refine g_iconst (pc := 53) (v := 5) C dX8_checksum_53 (by decide) ?_
    refine g_icmp_ge (pc := 54) (tgt := 88) C dX8_checksum_54 rfl ?_ ?_
    · refine g_iconst (pc := 88) (v := 0) C dX8_checksum_88 (by decide) ?_
      refine g_istore_n (pc := 89) (i := 3) C dX8_checksum_89 rfl (Nat.le_of_ble_eq_true rfl) rfl ?_
      refine g_keep [true, true, false, true] ?_
      exact bX8_checksumN_90 C hr σ FU l1 0
    · refine g_aload_n (pc := 57) (i := 0) C dX8_checksum_57 rfl rfl ?_
      refine g_getr (pc := 58) (ci := 8) (N := 8) (T := TX8) (j := 0) (Cn := RX8) 1 C rfl inlX8 (Nat.le_of_ble_eq_true rfl) q_1_16 ok_dl rfl dX8_checksum_58 ?_
      refine g_getNr (pc := 61) (ci := 4) (N := 7) (T := TX4) (j := 4) (Cn := RX4) (1 + 5) C rfl inlX4 (Nat.le_of_ble_eq_true rfl) (List.mem_of_getElem? (i := 10) rfl) (blk ok_now 0 rfl) rfl dX8_checksum_61 ?_
      refine g_iload_n (pc := 64) (i := 3) C dX8_checksum_64 rfl rfl ?_
      refine g_callVi (pc := 65) (As := [.int (l3)]) C (kX1_windowExists X σ (1 + 5) l3 (st_pl ok_now)) (blk (st_pl ok_now) 0 rfl) rfl q_29_14 q_29_15 q_29_16 q_2_23 q_29_17 ⟨rfl, hdX1_windowExists⟩ ⟨Nat.le_of_ble_eq_true rfl, Nat.le_of_ble_eq_true rfl, rfl, rfl⟩ ⟨Nat.zero_le _, Nat.zero_le _⟩ (Nat.le_of_ble_eq_true rfl) rfl rfl dX8_checksum_65 (fun r4 _ => ?_)
      refine g_ifb_eq (pc := 68) (tgt := 80) C dX8_checksum_68 rfl ?_ ?_
      · refine g_aload_n (pc := 71) (i := 0) C dX8_checksum_71 rfl rfl ?_
        refine g_lload_n (pc := 72) (i := 1) C dX8_checksum_72 rfl rfl ?_
        refine g_iload_n (pc := 73) (i := 3) C dX8_checksum_73 rfl rfl ?_
        refine g_callVl (pc := 74) (As := [.long (l1), .int (l3)]) C (kX8_mixWindowN X σ l1 l3) ok_dl rfl q_58_16 q_58_17 q_58_18 q_1_2 q_58_19 ⟨rfl, hdX8_mixWindowN⟩ ⟨Nat.le_of_ble_eq_true rfl, Nat.le_of_ble_eq_true rfl, rfl, rfl⟩ ⟨Nat.zero_le _, Nat.zero_le _⟩ (Nat.le_of_ble_eq_true rfl) rfl rfl dX8_checksum_74 (fun r5 _ => ?_)
        refine g_goto (pc := 77) (tgt := 81) C dX8_checksum_77 rfl ?_
        refine g_keep [true, false, false, true] ?_
        exact bX8_checksumN_81 C hr σ ih l3 r5
      · refine g_lload_n (pc := 80) (i := 1) C dX8_checksum_80 rfl rfl ?_
        refine g_keep [true, false, false, true] ?_
        exact bX8_checksumN_81 C hr σ ih l3 l1
def fX8_checksumN_43 (σ : Sg) (k16 : Int64 → Int32 → Option Int64) (l3 : Int32) (s0 : Int64) : Option Int64 :=
  (k16 s0 (l3 + 1))
theorem bX8_checksumN_43 {X : Xc} {K : Kc} (C : MC X K cX8_checksum 4 RX8 rmX8_checksumN) (hr : K.meth.sig.returnType = (some .long)) (σ : Sg){k16 : Int64 → Int32 → Option Int64} (hk16 : ∀ (l1 : Int64) (l3 : Int32), GO X K 4 (fun r => MQl X K r σ) (k16 l1 l3) σ 0 0 16 [some (.ref (X.ad 0)), some (.long (l1)), none, some (.int (l3))] []) (l3 : Int32) (s0 : Int64) : GO X K 4 (fun r => MQl X K r σ) (fX8_checksumN_43 σ k16 l3 s0) σ 0 0 43 [some (.ref (X.ad 0)), none, none, some (.int (l3))] [.long (s0)] := by
  unfold fX8_checksumN_43
  refine g_lstore_n (pc := 43) (i := 1) C dX8_checksum_43 rfl (Nat.le_of_ble_eq_true rfl) rfl ?_
  refine g_iinc (pc := 44) (v := l3 + 1) C dX8_checksum_44 rfl (rfl) (Nat.le_of_ble_eq_true rfl) rfl ?_
  refine g_goto (pc := 47) (tgt := 16) C dX8_checksum_47 rfl ?_
  refine g_keep [true, true, false, true] ?_
  exact hk16 s0 (l3 + 1)
def fX8_checksumN_16 (σ : Sg) : Nat → Int64 → Int32 → Option Int64
  | 0, _, _ => none
  | n + 1, l1, l3 =>
    if 12 ≤ l3 then
      (fX8_checksumN_52 σ FU l1 0)
    else
      (fX4_exists σ 1 l3).bind fun r2 =>
      if r2 = true then
        (fX8_mixPaneN σ l1 l3).bind fun r3 =>
        (fX8_checksumN_43 σ (fX8_checksumN_16 σ n) l3 r3)
      else
        (fX8_checksumN_43 σ (fX8_checksumN_16 σ n) l3 l1)
theorem bX8_checksumN_16 {X : Xc} {K : Kc} (C : MC X K cX8_checksum 4 RX8 rmX8_checksumN) (hr : K.meth.sig.returnType = (some .long)) (σ : Sg) : ∀ (n : Nat) (l1 : Int64) (l3 : Int32), GO X K 4 (fun r => MQl X K r σ) (fX8_checksumN_16 σ n l1 l3) σ 0 0 16 [some (.ref (X.ad 0)), some (.long (l1)), none, some (.int (l3))] [] := by
  intro n
  induction n with
  | zero =>
    intro l1 l3
    exact g_none
  | succ n ih =>
    intro l1 l3
    unfold fX8_checksumN_16
    refine g_iload_n (pc := 16) (i := 3) C dX8_checksum_16 rfl rfl ?_
    refine g_bipush (pc := 17) (v := 12) C dX8_checksum_17 (by decide) ?_
    refine g_icmp_ge (pc := 19) (tgt := 50) C dX8_checksum_19 rfl ?_ ?_
    · refine g_iconst (pc := 50) (v := 0) C dX8_checksum_50 (by decide) ?_
      refine g_istore_n (pc := 51) (i := 3) C dX8_checksum_51 rfl (Nat.le_of_ble_eq_true rfl) rfl ?_
      refine g_keep [true, true, false, true] ?_
      exact bX8_checksumN_52 C hr σ FU l1 0
    · refine g_aload_n (pc := 22) (i := 0) C dX8_checksum_22 rfl rfl ?_
      refine g_getr (pc := 23) (ci := 8) (N := 8) (T := TX8) (j := 0) (Cn := RX8) 1 C rfl inlX8 (Nat.le_of_ble_eq_true rfl) q_1_16 ok_dl rfl dX8_checksum_23 ?_
      refine g_iload_n (pc := 26) (i := 3) C dX8_checksum_26 rfl rfl ?_
      refine g_callVi (pc := 27) (As := [.int (l3)]) C (kX4_exists X σ 1 l3 ok_now) (blk ok_now 0 rfl) rfl q_11_13 q_7_17 q_7_18 q_1_15 q_7_19 ⟨rfl, hdX4_exists⟩ ⟨Nat.le_of_ble_eq_true rfl, Nat.le_of_ble_eq_true rfl, rfl, rfl⟩ ⟨Nat.zero_le _, Nat.zero_le _⟩ (Nat.le_of_ble_eq_true rfl) rfl rfl dX8_checksum_27 (fun r2 _ => ?_)
      refine g_ifb_eq (pc := 30) (tgt := 42) C dX8_checksum_30 rfl ?_ ?_
      · refine g_aload_n (pc := 33) (i := 0) C dX8_checksum_33 rfl rfl ?_
        refine g_lload_n (pc := 34) (i := 1) C dX8_checksum_34 rfl rfl ?_
        refine g_iload_n (pc := 35) (i := 3) C dX8_checksum_35 rfl rfl ?_
        refine g_callVl (pc := 36) (As := [.long (l1), .int (l3)]) C (kX8_mixPaneN X σ l1 l3) ok_dl rfl q_58_10 q_58_11 q_58_12 q_1_2 q_58_13 ⟨rfl, hdX8_mixPaneN⟩ ⟨Nat.le_of_ble_eq_true rfl, Nat.le_of_ble_eq_true rfl, rfl, rfl⟩ ⟨Nat.zero_le _, Nat.zero_le _⟩ (Nat.le_of_ble_eq_true rfl) rfl rfl dX8_checksum_36 (fun r3 _ => ?_)
        refine g_goto (pc := 39) (tgt := 43) C dX8_checksum_39 rfl ?_
        refine g_keep [true, false, false, true] ?_
        exact bX8_checksumN_43 C hr σ ih l3 r3
      · refine g_lload_n (pc := 42) (i := 1) C dX8_checksum_42 rfl rfl ?_
        refine g_keep [true, false, false, true] ?_
        exact bX8_checksumN_43 C hr σ ih l3 l1
def fX8_checksumN (σ : Sg) : Option Int64 :=
  (fX8_mix σ (18323 : Int64) (σ.1 1 0)).bind fun r1 =>
  (fX8_checksumN_16 σ FU r1 0)
theorem kX8_checksumN (X : Xc) (σ : Sg) : ∀ r, fX8_checksumN σ = some r → Met X.l yX8_checksum (wsM yX8_checksum cX8_checksum 4 (some .long)) rmX8_checksumN (va_Pc [.ref (X.ad 0)] (PW X σ)) (Ql X r σ) 0 0 X.A := by
  refine mt_of (own := RX8) (lo := [some (.ref (X.ad 0)), none, none, none]) (by decide) rfl (Nat.le_of_ble_eq_true rfl) rfl (fun K C hr => ?_)
  unfold fX8_checksumN
  refine g_ldc2 (pc := 0) (v := 18323) C q_58_5 dX8_checksum_0 ?_
  refine g_aload_n (pc := 3) (i := 0) C dX8_checksum_3 rfl rfl ?_
  refine g_getr (pc := 4) (ci := 8) (N := 8) (T := TX8) (j := 0) (Cn := RX8) 1 C rfl inlX8 (Nat.le_of_ble_eq_true rfl) q_1_16 ok_dl rfl dX8_checksum_4 ?_
  refine g_getNi (pc := 7) (ci := 4) (N := 7) (T := TX4) (j := 0) (Cn := RX4) C rfl inlX4 (Nat.le_of_ble_eq_true rfl) (List.mem_of_getElem? (i := 12) rfl) (blk ok_now 0 rfl) rfl dX8_checksum_7 ?_
  refine g_callSl (pc := 10) (As := [.long ((18323 : Int64)), .int (σ.1 1 0)]) C (kX8_mix X σ (18323 : Int64) (σ.1 1 0)) q_58_6 q_58_7 q_1_2 q_58_8 hdX8_mix ⟨Nat.le_of_ble_eq_true rfl, Nat.le_of_ble_eq_true rfl, rfl, rfl⟩ ⟨Nat.zero_le _, Nat.zero_le _⟩ (Nat.le_of_ble_eq_true rfl) rfl rfl dX8_checksum_10 (fun r1 _ => ?_)
  refine g_lstore_n (pc := 13) (i := 1) C dX8_checksum_13 rfl (Nat.le_of_ble_eq_true rfl) rfl ?_
  refine g_iconst (pc := 14) (v := 0) C dX8_checksum_14 (by decide) ?_
  refine g_istore_n (pc := 15) (i := 3) C dX8_checksum_15 rfl (Nat.le_of_ble_eq_true rfl) rfl ?_
  refine g_keep [true, true, false, true] ?_
  exact bX8_checksumN_16 C hr σ FU r1 0

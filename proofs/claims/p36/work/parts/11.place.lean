/-! by program out of the class files: each method as a function over the store, and its contract by a walk -/
theorem dX1_copyFrom_0 : decode cX1_copyFrom 0 = .ok (.aload_n 1, 1) := by decide +kernel
theorem dX1_copyFrom_1 : decode cX1_copyFrom 1 = .ok (.getfield 9, 3) := by decide +kernel
theorem dX1_copyFrom_4 : decode cX1_copyFrom 4 = .ok (.aload_n 0, 1) := by decide +kernel
theorem dX1_copyFrom_5 : decode cX1_copyFrom 5 = .ok (.getfield 9, 3) := by decide +kernel
theorem dX1_copyFrom_8 : decode cX1_copyFrom 8 = .ok (.invokestatic 64, 3) := by decide +kernel
theorem dX1_copyFrom_11 : decode cX1_copyFrom 11 = .ok (.aload_n 1, 1) := by decide +kernel
theorem dX1_copyFrom_12 : decode cX1_copyFrom 12 = .ok (.getfield 15, 3) := by decide +kernel
theorem dX1_copyFrom_15 : decode cX1_copyFrom 15 = .ok (.aload_n 0, 1) := by decide +kernel
theorem dX1_copyFrom_16 : decode cX1_copyFrom 16 = .ok (.getfield 15, 3) := by decide +kernel
theorem dX1_copyFrom_19 : decode cX1_copyFrom 19 = .ok (.invokestatic 64, 3) := by decide +kernel
theorem dX1_copyFrom_22 : decode cX1_copyFrom 22 = .ok (.aload_n 1, 1) := by decide +kernel
theorem dX1_copyFrom_23 : decode cX1_copyFrom 23 = .ok (.getfield 18, 3) := by decide +kernel
theorem dX1_copyFrom_26 : decode cX1_copyFrom 26 = .ok (.aload_n 0, 1) := by decide +kernel
theorem dX1_copyFrom_27 : decode cX1_copyFrom 27 = .ok (.getfield 18, 3) := by decide +kernel
theorem dX1_copyFrom_30 : decode cX1_copyFrom 30 = .ok (.invokestatic 64, 3) := by decide +kernel
theorem dX1_copyFrom_33 : decode cX1_copyFrom 33 = .ok (.aload_n 1, 1) := by decide +kernel
theorem dX1_copyFrom_34 : decode cX1_copyFrom 34 = .ok (.getfield 21, 3) := by decide +kernel
theorem dX1_copyFrom_37 : decode cX1_copyFrom 37 = .ok (.aload_n 0, 1) := by decide +kernel
theorem dX1_copyFrom_38 : decode cX1_copyFrom 38 = .ok (.getfield 21, 3) := by decide +kernel
theorem dX1_copyFrom_41 : decode cX1_copyFrom 41 = .ok (.invokestatic 64, 3) := by decide +kernel
theorem dX1_copyFrom_44 : decode cX1_copyFrom 44 = .ok (.aload_n 1, 1) := by decide +kernel
theorem dX1_copyFrom_45 : decode cX1_copyFrom 45 = .ok (.getfield 24, 3) := by decide +kernel
theorem dX1_copyFrom_48 : decode cX1_copyFrom 48 = .ok (.aload_n 0, 1) := by decide +kernel
theorem dX1_copyFrom_49 : decode cX1_copyFrom 49 = .ok (.getfield 24, 3) := by decide +kernel
theorem dX1_copyFrom_52 : decode cX1_copyFrom 52 = .ok (.invokestatic 64, 3) := by decide +kernel
theorem dX1_copyFrom_55 : decode cX1_copyFrom 55 = .ok (.aload_n 0, 1) := by decide +kernel
theorem dX1_copyFrom_56 : decode cX1_copyFrom 56 = .ok (.getfield 30, 3) := by decide +kernel
theorem dX1_copyFrom_59 : decode cX1_copyFrom 59 = .ok (.aload_n 1, 1) := by decide +kernel
theorem dX1_copyFrom_60 : decode cX1_copyFrom 60 = .ok (.getfield 30, 3) := by decide +kernel
theorem dX1_copyFrom_63 : decode cX1_copyFrom 63 = .ok (.invokevirtual 68, 3) := by decide +kernel
theorem dX1_copyFrom_66 : decode cX1_copyFrom 66 = .ok (.aload_n 1, 1) := by decide +kernel
theorem dX1_copyFrom_67 : decode cX1_copyFrom 67 = .ok (.getfield 34, 3) := by decide +kernel
theorem dX1_copyFrom_70 : decode cX1_copyFrom 70 = .ok (.aload_n 0, 1) := by decide +kernel
theorem dX1_copyFrom_71 : decode cX1_copyFrom 71 = .ok (.getfield 34, 3) := by decide +kernel
theorem dX1_copyFrom_74 : decode cX1_copyFrom 74 = .ok (.invokestatic 64, 3) := by decide +kernel
theorem dX1_copyFrom_77 : decode cX1_copyFrom 77 = .ok (.aload_n 1, 1) := by decide +kernel
theorem dX1_copyFrom_78 : decode cX1_copyFrom 78 = .ok (.getfield 37, 3) := by decide +kernel
theorem dX1_copyFrom_81 : decode cX1_copyFrom 81 = .ok (.aload_n 0, 1) := by decide +kernel
theorem dX1_copyFrom_82 : decode cX1_copyFrom 82 = .ok (.getfield 37, 3) := by decide +kernel
theorem dX1_copyFrom_85 : decode cX1_copyFrom 85 = .ok (.invokestatic 64, 3) := by decide +kernel
theorem dX1_copyFrom_88 : decode cX1_copyFrom 88 = .ok (.aload_n 1, 1) := by decide +kernel
theorem dX1_copyFrom_89 : decode cX1_copyFrom 89 = .ok (.getfield 40, 3) := by decide +kernel
theorem dX1_copyFrom_92 : decode cX1_copyFrom 92 = .ok (.aload_n 0, 1) := by decide +kernel
theorem dX1_copyFrom_93 : decode cX1_copyFrom 93 = .ok (.getfield 40, 3) := by decide +kernel
theorem dX1_copyFrom_96 : decode cX1_copyFrom 96 = .ok (.invokestatic 64, 3) := by decide +kernel
theorem dX1_copyFrom_99 : decode cX1_copyFrom 99 = .ok (.aload_n 1, 1) := by decide +kernel
theorem dX1_copyFrom_100 : decode cX1_copyFrom 100 = .ok (.getfield 43, 3) := by decide +kernel
theorem dX1_copyFrom_103 : decode cX1_copyFrom 103 = .ok (.aload_n 0, 1) := by decide +kernel
theorem dX1_copyFrom_104 : decode cX1_copyFrom 104 = .ok (.getfield 43, 3) := by decide +kernel
theorem dX1_copyFrom_107 : decode cX1_copyFrom 107 = .ok (.invokestatic 64, 3) := by decide +kernel
theorem dX1_copyFrom_110 : decode cX1_copyFrom 110 = .ok (.aload_n 1, 1) := by decide +kernel
theorem dX1_copyFrom_111 : decode cX1_copyFrom 111 = .ok (.getfield 46, 3) := by decide +kernel
theorem dX1_copyFrom_114 : decode cX1_copyFrom 114 = .ok (.aload_n 0, 1) := by decide +kernel
theorem dX1_copyFrom_115 : decode cX1_copyFrom 115 = .ok (.getfield 46, 3) := by decide +kernel
theorem dX1_copyFrom_118 : decode cX1_copyFrom 118 = .ok (.invokestatic 64, 3) := by decide +kernel
theorem dX1_copyFrom_121 : decode cX1_copyFrom 121 = .ok (.aload_n 1, 1) := by decide +kernel
theorem dX1_copyFrom_122 : decode cX1_copyFrom 122 = .ok (.getfield 49, 3) := by decide +kernel
theorem dX1_copyFrom_125 : decode cX1_copyFrom 125 = .ok (.aload_n 0, 1) := by decide +kernel
theorem dX1_copyFrom_126 : decode cX1_copyFrom 126 = .ok (.getfield 49, 3) := by decide +kernel
theorem dX1_copyFrom_129 : decode cX1_copyFrom 129 = .ok (.invokestatic 64, 3) := by decide +kernel
theorem dX1_copyFrom_132 : decode cX1_copyFrom 132 = .ok (.aload_n 1, 1) := by decide +kernel
theorem dX1_copyFrom_133 : decode cX1_copyFrom 133 = .ok (.getfield 52, 3) := by decide +kernel
theorem dX1_copyFrom_136 : decode cX1_copyFrom 136 = .ok (.aload_n 0, 1) := by decide +kernel
theorem dX1_copyFrom_137 : decode cX1_copyFrom 137 = .ok (.getfield 52, 3) := by decide +kernel
theorem dX1_copyFrom_140 : decode cX1_copyFrom 140 = .ok (.invokestatic 64, 3) := by decide +kernel
theorem dX1_copyFrom_143 : decode cX1_copyFrom 143 = .ok (.aload_n 1, 1) := by decide +kernel
theorem dX1_copyFrom_144 : decode cX1_copyFrom 144 = .ok (.getfield 55, 3) := by decide +kernel
theorem dX1_copyFrom_147 : decode cX1_copyFrom 147 = .ok (.aload_n 0, 1) := by decide +kernel
theorem dX1_copyFrom_148 : decode cX1_copyFrom 148 = .ok (.getfield 55, 3) := by decide +kernel
theorem dX1_copyFrom_151 : decode cX1_copyFrom 151 = .ok (.invokestatic 64, 3) := by decide +kernel
theorem dX1_copyFrom_154 : decode cX1_copyFrom 154 = .ok (.return_, 1) := by decide +kernel
abbrev rmX1_copyFrom : Room := { frames := 3, cells := 0, slots := 0, locals := 132 }
theorem hdX1_copyFrom : yX1_copyFrom.cls ≠ "java/lang/invoke/MethodHandle" ∧ yX1_copyFrom.cls ≠ "java/lang/invoke/VarHandle" ∧ (parseMethodDescriptor yX1_copyFrom.desc).map (fun d => d.parameters.length) = some 1 := by decide +kernel
def fX1_copyFrom (σ : Sg) (b : Nat) (c1 : Nat) : Option Sg :=
  (fX8_copyRow σ (c1 + 1) 5 (b + 1) 5).bind fun σ1 =>
  (fX8_copyRow σ1 (c1 + 2) 5 (b + 2) 5).bind fun σ2 =>
  (fX8_copyRow σ2 (c1 + 3) 5 (b + 3) 5).bind fun σ3 =>
  (fX8_copyRow σ3 (c1 + 4) 5 (b + 4) 5).bind fun σ4 =>
  (fX8_copyRow σ4 (c1 + 5) 5 (b + 5) 5).bind fun σ5 =>
  (fX0_copyFrom σ5 (b + 6) (c1 + 6)).bind fun σ6 =>
  (fX8_copyRow σ6 (c1 + 8) 23 (b + 8) 23).bind fun σ7 =>
  (fX8_copyRow σ7 (c1 + 9) 23 (b + 9) 23).bind fun σ8 =>
  (fX8_copyRow σ8 (c1 + 10) 23 (b + 10) 23).bind fun σ9 =>
  (fX8_copyRow σ9 (c1 + 11) 23 (b + 11) 23).bind fun σ10 =>
  (fX8_copyRow σ10 (c1 + 12) 23 (b + 12) 23).bind fun σ11 =>
  (fX8_copyRow σ11 (c1 + 13) 12 (b + 13) 12).bind fun σ12 =>
  (fX8_copyRow σ12 (c1 + 14) 12 (b + 14) 12).bind fun σ13 =>
  (fX8_copyRow σ13 (c1 + 15) 12 (b + 15) 12).bind fun σ14 =>
  some σ14
theorem kX1_copyFrom (X : Xc) (σ : Sg) (b : Nat) (c1 : Nat) (hb : plOK b) (h1 : plOK c1) : ∀ r, fX1_copyFrom σ b c1 = some r → Met X.l yX1_copyFrom (wsM yX1_copyFrom cX1_copyFrom 2 none) rmX1_copyFrom (va_Pc [.ref (X.ad b), .ref (X.ad c1)] (PW X σ)) (Qv X r) 0 0 X.A := by
  refine mt_of (own := RX1) (lo := [some (.ref (X.ad b)), some (.ref (X.ad c1))]) (by decide) rfl (Nat.le_of_ble_eq_true rfl) rfl (fun K C hr => ?_)
  unfold fX1_copyFrom
  refine g_aload_n (pc := 0) (i := 1) C dX1_copyFrom_0 rfl rfl ?_
  refine g_getr (pc := 1) (ci := 1) (N := 14) (T := TX1) (j := 0) (Cn := RX1) (c1 + 1) C rfl inlX1 (Nat.le_of_ble_eq_true rfl) q_3_10 (blk h1 0 rfl) rfl dX1_copyFrom_1 ?_
  refine g_aload_n (pc := 4) (i := 0) C dX1_copyFrom_4 rfl rfl ?_
  refine g_getr (pc := 5) (ci := 1) (N := 14) (T := TX1) (j := 0) (Cn := RX1) (b + 1) C rfl inlX1 (Nat.le_of_ble_eq_true rfl) q_3_10 (blk hb 0 rfl) rfl dX1_copyFrom_5 ?_
  refine g_callNv (pc := 8) (As := [.ref (X.ad (c1 + 1)), .ref (X.ad (b + 1))]) C (kX8_copyRow X σ (c1 + 1) 5 (b + 1) 5 (blk h1 1 rfl) (blk hb 1 rfl)) (List.mem_of_getElem? (i := 3) rfl) q_8_16 q_1_2 q_8_17 hdX8_copyRow ⟨Nat.le_of_ble_eq_true rfl, Nat.le_of_ble_eq_true rfl, rfl, rfl⟩ ⟨Nat.zero_le _, Nat.zero_le _⟩ (Nat.le_of_ble_eq_true rfl) rfl rfl dX1_copyFrom_8 (fun σ1 _ => ?_)
  refine g_aload_n (pc := 11) (i := 1) C dX1_copyFrom_11 rfl rfl ?_
  refine g_getr (pc := 12) (ci := 1) (N := 14) (T := TX1) (j := 1) (Cn := RX1) (c1 + 2) C rfl inlX1 (Nat.le_of_ble_eq_true rfl) q_3_11 (blk h1 0 rfl) rfl dX1_copyFrom_12 ?_
  refine g_aload_n (pc := 15) (i := 0) C dX1_copyFrom_15 rfl rfl ?_
  refine g_getr (pc := 16) (ci := 1) (N := 14) (T := TX1) (j := 1) (Cn := RX1) (b + 2) C rfl inlX1 (Nat.le_of_ble_eq_true rfl) q_3_11 (blk hb 0 rfl) rfl dX1_copyFrom_16 ?_
  refine g_callNv (pc := 19) (As := [.ref (X.ad (c1 + 2)), .ref (X.ad (b + 2))]) C (kX8_copyRow X σ1 (c1 + 2) 5 (b + 2) 5 (blk h1 2 rfl) (blk hb 2 rfl)) (List.mem_of_getElem? (i := 3) rfl) q_8_16 q_1_2 q_8_17 hdX8_copyRow ⟨Nat.le_of_ble_eq_true rfl, Nat.le_of_ble_eq_true rfl, rfl, rfl⟩ ⟨Nat.zero_le _, Nat.zero_le _⟩ (Nat.le_of_ble_eq_true rfl) rfl rfl dX1_copyFrom_19 (fun σ2 _ => ?_)
  refine g_aload_n (pc := 22) (i := 1) C dX1_copyFrom_22 rfl rfl ?_
  refine g_getr (pc := 23) (ci := 1) (N := 14) (T := TX1) (j := 2) (Cn := RX1) (c1 + 3) C rfl inlX1 (Nat.le_of_ble_eq_true rfl) q_3_12 (blk h1 0 rfl) rfl dX1_copyFrom_23 ?_
  refine g_aload_n (pc := 26) (i := 0) C dX1_copyFrom_26 rfl rfl ?_
  refine g_getr (pc := 27) (ci := 1) (N := 14) (T := TX1) (j := 2) (Cn := RX1) (b + 3) C rfl inlX1 (Nat.le_of_ble_eq_true rfl) q_3_12 (blk hb 0 rfl) rfl dX1_copyFrom_27 ?_
  refine g_callNv (pc := 30) (As := [.ref (X.ad (c1 + 3)), .ref (X.ad (b + 3))]) C (kX8_copyRow X σ2 (c1 + 3) 5 (b + 3) 5 (blk h1 3 rfl) (blk hb 3 rfl)) (List.mem_of_getElem? (i := 3) rfl) q_8_16 q_1_2 q_8_17 hdX8_copyRow ⟨Nat.le_of_ble_eq_true rfl, Nat.le_of_ble_eq_true rfl, rfl, rfl⟩ ⟨Nat.zero_le _, Nat.zero_le _⟩ (Nat.le_of_ble_eq_true rfl) rfl rfl dX1_copyFrom_30 (fun σ3 _ => ?_)
  refine g_aload_n (pc := 33) (i := 1) C dX1_copyFrom_33 rfl rfl ?_
  refine g_getr (pc := 34) (ci := 1) (N := 14) (T := TX1) (j := 3) (Cn := RX1) (c1 + 4) C rfl inlX1 (Nat.le_of_ble_eq_true rfl) q_3_13 (blk h1 0 rfl) rfl dX1_copyFrom_34 ?_
  refine g_aload_n (pc := 37) (i := 0) C dX1_copyFrom_37 rfl rfl ?_
  refine g_getr (pc := 38) (ci := 1) (N := 14) (T := TX1) (j := 3) (Cn := RX1) (b + 4) C rfl inlX1 (Nat.le_of_ble_eq_true rfl) q_3_13 (blk hb 0 rfl) rfl dX1_copyFrom_38 ?_
  refine g_callNv (pc := 41) (As := [.ref (X.ad (c1 + 4)), .ref (X.ad (b + 4))]) C (kX8_copyRow X σ3 (c1 + 4) 5 (b + 4) 5 (blk h1 4 rfl) (blk hb 4 rfl)) (List.mem_of_getElem? (i := 3) rfl) q_8_16 q_1_2 q_8_17 hdX8_copyRow ⟨Nat.le_of_ble_eq_true rfl, Nat.le_of_ble_eq_true rfl, rfl, rfl⟩ ⟨Nat.zero_le _, Nat.zero_le _⟩ (Nat.le_of_ble_eq_true rfl) rfl rfl dX1_copyFrom_41 (fun σ4 _ => ?_)
  refine g_aload_n (pc := 44) (i := 1) C dX1_copyFrom_44 rfl rfl ?_
  refine g_getr (pc := 45) (ci := 1) (N := 14) (T := TX1) (j := 4) (Cn := RX1) (c1 + 5) C rfl inlX1 (Nat.le_of_ble_eq_true rfl) q_3_14 (blk h1 0 rfl) rfl dX1_copyFrom_45 ?_
  refine g_aload_n (pc := 48) (i := 0) C dX1_copyFrom_48 rfl rfl ?_
  refine g_getr (pc := 49) (ci := 1) (N := 14) (T := TX1) (j := 4) (Cn := RX1) (b + 5) C rfl inlX1 (Nat.le_of_ble_eq_true rfl) q_3_14 (blk hb 0 rfl) rfl dX1_copyFrom_49 ?_
  refine g_callNv (pc := 52) (As := [.ref (X.ad (c1 + 5)), .ref (X.ad (b + 5))]) C (kX8_copyRow X σ4 (c1 + 5) 5 (b + 5) 5 (blk h1 5 rfl) (blk hb 5 rfl)) (List.mem_of_getElem? (i := 3) rfl) q_8_16 q_1_2 q_8_17 hdX8_copyRow ⟨Nat.le_of_ble_eq_true rfl, Nat.le_of_ble_eq_true rfl, rfl, rfl⟩ ⟨Nat.zero_le _, Nat.zero_le _⟩ (Nat.le_of_ble_eq_true rfl) rfl rfl dX1_copyFrom_52 (fun σ5 _ => ?_)
  refine g_aload_n (pc := 55) (i := 0) C dX1_copyFrom_55 rfl rfl ?_
  refine g_getr (pc := 56) (ci := 1) (N := 14) (T := TX1) (j := 5) (Cn := RX1) (b + 6) C rfl inlX1 (Nat.le_of_ble_eq_true rfl) q_3_16 (blk hb 0 rfl) rfl dX1_copyFrom_56 ?_
  refine g_aload_n (pc := 59) (i := 1) C dX1_copyFrom_59 rfl rfl ?_
  refine g_getr (pc := 60) (ci := 1) (N := 14) (T := TX1) (j := 5) (Cn := RX1) (c1 + 6) C rfl inlX1 (Nat.le_of_ble_eq_true rfl) q_3_16 (blk h1 0 rfl) rfl dX1_copyFrom_60 ?_
  refine g_callVv (pc := 63) (As := [.ref (X.ad (c1 + 6))]) C (kX0_copyFrom X σ5 (b + 6) (c1 + 6) (pl_or hb) (pl_or h1)) (blk (pl_or hb) 0 rfl) rfl q_9_11 q_9_3 q_9_4 q_2_19 q_9_5 ⟨rfl, hdX0_copyFrom⟩ ⟨Nat.le_of_ble_eq_true rfl, Nat.le_of_ble_eq_true rfl, rfl, rfl⟩ ⟨Nat.zero_le _, Nat.zero_le _⟩ (Nat.le_of_ble_eq_true rfl) rfl rfl dX1_copyFrom_63 (fun σ6 _ => ?_)
  refine g_aload_n (pc := 66) (i := 1) C dX1_copyFrom_66 rfl rfl ?_
  refine g_getr (pc := 67) (ci := 1) (N := 14) (T := TX1) (j := 6) (Cn := RX1) (c1 + 8) C rfl inlX1 (Nat.le_of_ble_eq_true rfl) q_3_17 (blk h1 0 rfl) rfl dX1_copyFrom_67 ?_
  refine g_aload_n (pc := 70) (i := 0) C dX1_copyFrom_70 rfl rfl ?_
  refine g_getr (pc := 71) (ci := 1) (N := 14) (T := TX1) (j := 6) (Cn := RX1) (b + 8) C rfl inlX1 (Nat.le_of_ble_eq_true rfl) q_3_17 (blk hb 0 rfl) rfl dX1_copyFrom_71 ?_
  refine g_callNv (pc := 74) (As := [.ref (X.ad (c1 + 8)), .ref (X.ad (b + 8))]) C (kX8_copyRow X σ6 (c1 + 8) 23 (b + 8) 23 (blk h1 8 rfl) (blk hb 8 rfl)) (List.mem_of_getElem? (i := 3) rfl) q_8_16 q_1_2 q_8_17 hdX8_copyRow ⟨Nat.le_of_ble_eq_true rfl, Nat.le_of_ble_eq_true rfl, rfl, rfl⟩ ⟨Nat.zero_le _, Nat.zero_le _⟩ (Nat.le_of_ble_eq_true rfl) rfl rfl dX1_copyFrom_74 (fun σ7 _ => ?_)
  refine g_aload_n (pc := 77) (i := 1) C dX1_copyFrom_77 rfl rfl ?_
  refine g_getr (pc := 78) (ci := 1) (N := 14) (T := TX1) (j := 7) (Cn := RX1) (c1 + 9) C rfl inlX1 (Nat.le_of_ble_eq_true rfl) q_3_18 (blk h1 0 rfl) rfl dX1_copyFrom_78 ?_
  refine g_aload_n (pc := 81) (i := 0) C dX1_copyFrom_81 rfl rfl ?_
  refine g_getr (pc := 82) (ci := 1) (N := 14) (T := TX1) (j := 7) (Cn := RX1) (b + 9) C rfl inlX1 (Nat.le_of_ble_eq_true rfl) q_3_18 (blk hb 0 rfl) rfl dX1_copyFrom_82 ?_
  refine g_callNv (pc := 85) (As := [.ref (X.ad (c1 + 9)), .ref (X.ad (b + 9))]) C (kX8_copyRow X σ7 (c1 + 9) 23 (b + 9) 23 (blk h1 9 rfl) (blk hb 9 rfl)) (List.mem_of_getElem? (i := 3) rfl) q_8_16 q_1_2 q_8_17 hdX8_copyRow ⟨Nat.le_of_ble_eq_true rfl, Nat.le_of_ble_eq_true rfl, rfl, rfl⟩ ⟨Nat.zero_le _, Nat.zero_le _⟩ (Nat.le_of_ble_eq_true rfl) rfl rfl dX1_copyFrom_85 (fun σ8 _ => ?_)
  refine g_aload_n (pc := 88) (i := 1) C dX1_copyFrom_88 rfl rfl ?_
  refine g_getr (pc := 89) (ci := 1) (N := 14) (T := TX1) (j := 8) (Cn := RX1) (c1 + 10) C rfl inlX1 (Nat.le_of_ble_eq_true rfl) q_3_19 (blk h1 0 rfl) rfl dX1_copyFrom_89 ?_
  refine g_aload_n (pc := 92) (i := 0) C dX1_copyFrom_92 rfl rfl ?_
  refine g_getr (pc := 93) (ci := 1) (N := 14) (T := TX1) (j := 8) (Cn := RX1) (b + 10) C rfl inlX1 (Nat.le_of_ble_eq_true rfl) q_3_19 (blk hb 0 rfl) rfl dX1_copyFrom_93 ?_
  refine g_callNv (pc := 96) (As := [.ref (X.ad (c1 + 10)), .ref (X.ad (b + 10))]) C (kX8_copyRow X σ8 (c1 + 10) 23 (b + 10) 23 (blk h1 10 rfl) (blk hb 10 rfl)) (List.mem_of_getElem? (i := 3) rfl) q_8_16 q_1_2 q_8_17 hdX8_copyRow ⟨Nat.le_of_ble_eq_true rfl, Nat.le_of_ble_eq_true rfl, rfl, rfl⟩ ⟨Nat.zero_le _, Nat.zero_le _⟩ (Nat.le_of_ble_eq_true rfl) rfl rfl dX1_copyFrom_96 (fun σ9 _ => ?_)
  refine g_aload_n (pc := 99) (i := 1) C dX1_copyFrom_99 rfl rfl ?_
  refine g_getr (pc := 100) (ci := 1) (N := 14) (T := TX1) (j := 9) (Cn := RX1) (c1 + 11) C rfl inlX1 (Nat.le_of_ble_eq_true rfl) q_3_20 (blk h1 0 rfl) rfl dX1_copyFrom_100 ?_
  refine g_aload_n (pc := 103) (i := 0) C dX1_copyFrom_103 rfl rfl ?_
  refine g_getr (pc := 104) (ci := 1) (N := 14) (T := TX1) (j := 9) (Cn := RX1) (b + 11) C rfl inlX1 (Nat.le_of_ble_eq_true rfl) q_3_20 (blk hb 0 rfl) rfl dX1_copyFrom_104 ?_
  refine g_callNv (pc := 107) (As := [.ref (X.ad (c1 + 11)), .ref (X.ad (b + 11))]) C (kX8_copyRow X σ9 (c1 + 11) 23 (b + 11) 23 (blk h1 11 rfl) (blk hb 11 rfl)) (List.mem_of_getElem? (i := 3) rfl) q_8_16 q_1_2 q_8_17 hdX8_copyRow ⟨Nat.le_of_ble_eq_true rfl, Nat.le_of_ble_eq_true rfl, rfl, rfl⟩ ⟨Nat.zero_le _, Nat.zero_le _⟩ (Nat.le_of_ble_eq_true rfl) rfl rfl dX1_copyFrom_107 (fun σ10 _ => ?_)
  refine g_aload_n (pc := 110) (i := 1) C dX1_copyFrom_110 rfl rfl ?_
  refine g_getr (pc := 111) (ci := 1) (N := 14) (T := TX1) (j := 10) (Cn := RX1) (c1 + 12) C rfl inlX1 (Nat.le_of_ble_eq_true rfl) q_3_21 (blk h1 0 rfl) rfl dX1_copyFrom_111 ?_
  refine g_aload_n (pc := 114) (i := 0) C dX1_copyFrom_114 rfl rfl ?_
  refine g_getr (pc := 115) (ci := 1) (N := 14) (T := TX1) (j := 10) (Cn := RX1) (b + 12) C rfl inlX1 (Nat.le_of_ble_eq_true rfl) q_3_21 (blk hb 0 rfl) rfl dX1_copyFrom_115 ?_
  refine g_callNv (pc := 118) (As := [.ref (X.ad (c1 + 12)), .ref (X.ad (b + 12))]) C (kX8_copyRow X σ10 (c1 + 12) 23 (b + 12) 23 (blk h1 12 rfl) (blk hb 12 rfl)) (List.mem_of_getElem? (i := 3) rfl) q_8_16 q_1_2 q_8_17 hdX8_copyRow ⟨Nat.le_of_ble_eq_true rfl, Nat.le_of_ble_eq_true rfl, rfl, rfl⟩ ⟨Nat.zero_le _, Nat.zero_le _⟩ (Nat.le_of_ble_eq_true rfl) rfl rfl dX1_copyFrom_118 (fun σ11 _ => ?_)
  refine g_aload_n (pc := 121) (i := 1) C dX1_copyFrom_121 rfl rfl ?_
  refine g_getr (pc := 122) (ci := 1) (N := 14) (T := TX1) (j := 11) (Cn := RX1) (c1 + 13) C rfl inlX1 (Nat.le_of_ble_eq_true rfl) q_3_22 (blk h1 0 rfl) rfl dX1_copyFrom_122 ?_
  refine g_aload_n (pc := 125) (i := 0) C dX1_copyFrom_125 rfl rfl ?_
  refine g_getr (pc := 126) (ci := 1) (N := 14) (T := TX1) (j := 11) (Cn := RX1) (b + 13) C rfl inlX1 (Nat.le_of_ble_eq_true rfl) q_3_22 (blk hb 0 rfl) rfl dX1_copyFrom_126 ?_
  refine g_callNv (pc := 129) (As := [.ref (X.ad (c1 + 13)), .ref (X.ad (b + 13))]) C (kX8_copyRow X σ11 (c1 + 13) 12 (b + 13) 12 (blk h1 13 rfl) (blk hb 13 rfl)) (List.mem_of_getElem? (i := 3) rfl) q_8_16 q_1_2 q_8_17 hdX8_copyRow ⟨Nat.le_of_ble_eq_true rfl, Nat.le_of_ble_eq_true rfl, rfl, rfl⟩ ⟨Nat.zero_le _, Nat.zero_le _⟩ (Nat.le_of_ble_eq_true rfl) rfl rfl dX1_copyFrom_129 (fun σ12 _ => ?_)
  refine g_aload_n (pc := 132) (i := 1) C dX1_copyFrom_132 rfl rfl ?_
  refine g_getr (pc := 133) (ci := 1) (N := 14) (T := TX1) (j := 12) (Cn := RX1) (c1 + 14) C rfl inlX1 (Nat.le_of_ble_eq_true rfl) q_3_23 (blk h1 0 rfl) rfl dX1_copyFrom_133 ?_
  refine g_aload_n (pc := 136) (i := 0) C dX1_copyFrom_136 rfl rfl ?_
  refine g_getr (pc := 137) (ci := 1) (N := 14) (T := TX1) (j := 12) (Cn := RX1) (b + 14) C rfl inlX1 (Nat.le_of_ble_eq_true rfl) q_3_23 (blk hb 0 rfl) rfl dX1_copyFrom_137 ?_
  refine g_callNv (pc := 140) (As := [.ref (X.ad (c1 + 14)), .ref (X.ad (b + 14))]) C (kX8_copyRow X σ12 (c1 + 14) 12 (b + 14) 12 (blk h1 14 rfl) (blk hb 14 rfl)) (List.mem_of_getElem? (i := 3) rfl) q_8_16 q_1_2 q_8_17 hdX8_copyRow ⟨Nat.le_of_ble_eq_true rfl, Nat.le_of_ble_eq_true rfl, rfl, rfl⟩ ⟨Nat.zero_le _, Nat.zero_le _⟩ (Nat.le_of_ble_eq_true rfl) rfl rfl dX1_copyFrom_140 (fun σ13 _ => ?_)
  refine g_aload_n (pc := 143) (i := 1) C dX1_copyFrom_143 rfl rfl ?_
  refine g_getr (pc := 144) (ci := 1) (N := 14) (T := TX1) (j := 13) (Cn := RX1) (c1 + 15) C rfl inlX1 (Nat.le_of_ble_eq_true rfl) q_4_0 (blk h1 0 rfl) rfl dX1_copyFrom_144 ?_
  refine g_aload_n (pc := 147) (i := 0) C dX1_copyFrom_147 rfl rfl ?_
  refine g_getr (pc := 148) (ci := 1) (N := 14) (T := TX1) (j := 13) (Cn := RX1) (b + 15) C rfl inlX1 (Nat.le_of_ble_eq_true rfl) q_4_0 (blk hb 0 rfl) rfl dX1_copyFrom_148 ?_
  refine g_callNv (pc := 151) (As := [.ref (X.ad (c1 + 15)), .ref (X.ad (b + 15))]) C (kX8_copyRow X σ13 (c1 + 15) 12 (b + 15) 12 (blk h1 15 rfl) (blk hb 15 rfl)) (List.mem_of_getElem? (i := 3) rfl) q_8_16 q_1_2 q_8_17 hdX8_copyRow ⟨Nat.le_of_ble_eq_true rfl, Nat.le_of_ble_eq_true rfl, rfl, rfl⟩ ⟨Nat.zero_le _, Nat.zero_le _⟩ (Nat.le_of_ble_eq_true rfl) rfl rfl dX1_copyFrom_151 (fun σ14 _ => ?_)
  exact g_vret (pc := 154) C hr dX1_copyFrom_154 rfl
theorem dX1_groupOf_0 : decode cX1_groupOf 0 = .ok (.aload_n 0, 1) := by decide +kernel
theorem dX1_groupOf_1 : decode cX1_groupOf 1 = .ok (.getfield 49, 3) := by decide +kernel
theorem dX1_groupOf_4 : decode cX1_groupOf 4 = .ok (.iload_n 1, 1) := by decide +kernel
theorem dX1_groupOf_5 : decode cX1_groupOf 5 = .ok (.invokestatic 72, 3) := by decide +kernel
theorem dX1_groupOf_8 : decode cX1_groupOf 8 = .ok (.ireturn, 1) := by decide +kernel
abbrev rmX1_groupOf : Room := { frames := 1, cells := 0, slots := 0, locals := 21 }
theorem hdX1_groupOf : yX1_groupOf.cls ≠ "java/lang/invoke/MethodHandle" ∧ yX1_groupOf.cls ≠ "java/lang/invoke/VarHandle" ∧ (parseMethodDescriptor yX1_groupOf.desc).map (fun d => d.parameters.length) = some 1 := by decide +kernel
def fX1_groupOf (σ : Sg) (b : Nat) (p1 : Int32) : Option Int32 :=
  (fX8_at σ (b + 13) 12 p1).bind fun r1 =>
  some r1
theorem kX1_groupOf (X : Xc) (σ : Sg) (b : Nat) (p1 : Int32) (hb : plOK b) : ∀ r, fX1_groupOf σ b p1 = some r → Met X.l yX1_groupOf (wsM yX1_groupOf cX1_groupOf 2 (some .int)) rmX1_groupOf (va_Pc [.ref (X.ad b), .int p1] (PW X σ)) (Qi X r σ) 0 0 X.A := by
  refine mt_of (own := RX1) (lo := [some (.ref (X.ad b)), some (.int (p1))]) (by decide) rfl (Nat.le_of_ble_eq_true rfl) rfl (fun K C hr => ?_)
  unfold fX1_groupOf
  refine g_aload_n (pc := 0) (i := 0) C dX1_groupOf_0 rfl rfl ?_
  refine g_getr (pc := 1) (ci := 1) (N := 14) (T := TX1) (j := 11) (Cn := RX1) (b + 13) C rfl inlX1 (Nat.le_of_ble_eq_true rfl) q_3_22 (blk hb 0 rfl) rfl dX1_groupOf_1 ?_
  refine g_iload_n (pc := 4) (i := 1) C dX1_groupOf_4 rfl rfl ?_
  refine g_callNi (pc := 5) (As := [.ref (X.ad (b + 13)), .int (p1)]) C (kX8_at X σ (b + 13) 12 p1 (blk hb 13 rfl)) (List.mem_of_getElem? (i := 4) rfl) q_11_22 q_1_2 q_11_23 hdX8_at ⟨Nat.le_of_ble_eq_true rfl, Nat.le_of_ble_eq_true rfl, rfl, rfl⟩ ⟨Nat.zero_le _, Nat.zero_le _⟩ (Nat.le_of_ble_eq_true rfl) rfl rfl dX1_groupOf_5 (fun r1 _ => ?_)
  exact g_iret (pc := 8) C hr dX1_groupOf_8 rfl
theorem dX1_spotOf_0 : decode cX1_spotOf 0 = .ok (.aload_n 0, 1) := by decide +kernel
theorem dX1_spotOf_1 : decode cX1_spotOf 1 = .ok (.getfield 52, 3) := by decide +kernel
theorem dX1_spotOf_4 : decode cX1_spotOf 4 = .ok (.iload_n 1, 1) := by decide +kernel
theorem dX1_spotOf_5 : decode cX1_spotOf 5 = .ok (.invokestatic 72, 3) := by decide +kernel
theorem dX1_spotOf_8 : decode cX1_spotOf 8 = .ok (.ireturn, 1) := by decide +kernel
abbrev rmX1_spotOf : Room := { frames := 1, cells := 0, slots := 0, locals := 21 }
theorem hdX1_spotOf : yX1_spotOf.cls ≠ "java/lang/invoke/MethodHandle" ∧ yX1_spotOf.cls ≠ "java/lang/invoke/VarHandle" ∧ (parseMethodDescriptor yX1_spotOf.desc).map (fun d => d.parameters.length) = some 1 := by decide +kernel
def fX1_spotOf (σ : Sg) (b : Nat) (p1 : Int32) : Option Int32 :=
  (fX8_at σ (b + 14) 12 p1).bind fun r1 =>
  some r1
theorem kX1_spotOf (X : Xc) (σ : Sg) (b : Nat) (p1 : Int32) (hb : plOK b) : ∀ r, fX1_spotOf σ b p1 = some r → Met X.l yX1_spotOf (wsM yX1_spotOf cX1_spotOf 2 (some .int)) rmX1_spotOf (va_Pc [.ref (X.ad b), .int p1] (PW X σ)) (Qi X r σ) 0 0 X.A := by
  refine mt_of (own := RX1) (lo := [some (.ref (X.ad b)), some (.int (p1))]) (by decide) rfl (Nat.le_of_ble_eq_true rfl) rfl (fun K C hr => ?_)
  unfold fX1_spotOf
  refine g_aload_n (pc := 0) (i := 0) C dX1_spotOf_0 rfl rfl ?_
  refine g_getr (pc := 1) (ci := 1) (N := 14) (T := TX1) (j := 12) (Cn := RX1) (b + 14) C rfl inlX1 (Nat.le_of_ble_eq_true rfl) q_3_23 (blk hb 0 rfl) rfl dX1_spotOf_1 ?_
  refine g_iload_n (pc := 4) (i := 1) C dX1_spotOf_4 rfl rfl ?_
  refine g_callNi (pc := 5) (As := [.ref (X.ad (b + 14)), .int (p1)]) C (kX8_at X σ (b + 14) 12 p1 (blk hb 14 rfl)) (List.mem_of_getElem? (i := 4) rfl) q_11_22 q_1_2 q_11_23 hdX8_at ⟨Nat.le_of_ble_eq_true rfl, Nat.le_of_ble_eq_true rfl, rfl, rfl⟩ ⟨Nat.zero_le _, Nat.zero_le _⟩ (Nat.le_of_ble_eq_true rfl) rfl rfl dX1_spotOf_5 (fun r1 _ => ?_)
  exact g_iret (pc := 8) C hr dX1_spotOf_8 rfl
theorem dX1_tabAt_0 : decode cX1_tabAt 0 = .ok (.iconst 0, 1) := by decide +kernel
theorem dX1_tabAt_1 : decode cX1_tabAt 1 = .ok (.istore_n 3, 1) := by decide +kernel
theorem dX1_tabAt_2 : decode cX1_tabAt 2 = .ok (.iload_n 3, 1) := by decide +kernel
theorem dX1_tabAt_3 : decode cX1_tabAt 3 = .ok (.bipush 12, 2) := by decide +kernel
theorem dX1_tabAt_5 : decode cX1_tabAt 5 = .ok (.if_icmp .ge 40, 3) := by decide +kernel
theorem dX1_tabAt_8 : decode cX1_tabAt 8 = .ok (.iload_n 1, 1) := by decide +kernel
theorem dX1_tabAt_9 : decode cX1_tabAt 9 = .ok (.iconst (-1), 1) := by decide +kernel
theorem dX1_tabAt_10 : decode cX1_tabAt 10 = .ok (.if_icmp .eq 35, 3) := by decide +kernel
theorem dX1_tabAt_13 : decode cX1_tabAt 13 = .ok (.aload_n 0, 1) := by decide +kernel
theorem dX1_tabAt_14 : decode cX1_tabAt 14 = .ok (.getfield 49, 3) := by decide +kernel
theorem dX1_tabAt_17 : decode cX1_tabAt 17 = .ok (.iload_n 3, 1) := by decide +kernel
theorem dX1_tabAt_18 : decode cX1_tabAt 18 = .ok (.invokestatic 72, 3) := by decide +kernel
theorem dX1_tabAt_21 : decode cX1_tabAt 21 = .ok (.iload_n 1, 1) := by decide +kernel
theorem dX1_tabAt_22 : decode cX1_tabAt 22 = .ok (.if_icmp .ne 17, 3) := by decide +kernel
theorem dX1_tabAt_25 : decode cX1_tabAt 25 = .ok (.aload_n 0, 1) := by decide +kernel
theorem dX1_tabAt_26 : decode cX1_tabAt 26 = .ok (.getfield 52, 3) := by decide +kernel
theorem dX1_tabAt_29 : decode cX1_tabAt 29 = .ok (.iload_n 3, 1) := by decide +kernel
theorem dX1_tabAt_30 : decode cX1_tabAt 30 = .ok (.invokestatic 72, 3) := by decide +kernel
theorem dX1_tabAt_33 : decode cX1_tabAt 33 = .ok (.iload_n 2, 1) := by decide +kernel
theorem dX1_tabAt_34 : decode cX1_tabAt 34 = .ok (.if_icmp .ne 5, 3) := by decide +kernel
theorem dX1_tabAt_37 : decode cX1_tabAt 37 = .ok (.iload_n 3, 1) := by decide +kernel
theorem dX1_tabAt_38 : decode cX1_tabAt 38 = .ok (.ireturn, 1) := by decide +kernel
theorem dX1_tabAt_39 : decode cX1_tabAt 39 = .ok (.iinc 3 1, 3) := by decide +kernel
theorem dX1_tabAt_42 : decode cX1_tabAt 42 = .ok (.goto (-40), 3) := by decide +kernel
theorem dX1_tabAt_45 : decode cX1_tabAt 45 = .ok (.iconst (-1), 1) := by decide +kernel
theorem dX1_tabAt_46 : decode cX1_tabAt 46 = .ok (.ireturn, 1) := by decide +kernel
abbrev rmX1_tabAt : Room := { frames := 1, cells := 0, slots := 0, locals := 21 }
theorem hdX1_tabAt : yX1_tabAt.cls ≠ "java/lang/invoke/MethodHandle" ∧ yX1_tabAt.cls ≠ "java/lang/invoke/VarHandle" ∧ (parseMethodDescriptor yX1_tabAt.desc).map (fun d => d.parameters.length) = some 2 := by decide +kernel
def fX1_tabAt_39 (σ : Sg) (b : Nat) (k2 : Int32 → Int32 → Int32 → Option Int32) (l1 : Int32) (l2 : Int32) (l3 : Int32) : Option Int32 :=
  (k2 l1 l2 (l3 + 1))
theorem bX1_tabAt_39 {X : Xc} {K : Kc} (C : MC X K cX1_tabAt 4 RX1 rmX1_tabAt) (hr : K.meth.sig.returnType = (some .int)) (σ : Sg) (b : Nat) (hb : plOK b){k2 : Int32 → Int32 → Int32 → Option Int32} (hk2 : ∀ (l1 : Int32) (l2 : Int32) (l3 : Int32), GO X K 4 (fun r => MQi X K r σ) (k2 l1 l2 l3) σ 0 0 2 [some (.ref (X.ad b)), some (.int (l1)), some (.int (l2)), some (.int (l3))] []) (l1 : Int32) (l2 : Int32) (l3 : Int32) : GO X K 4 (fun r => MQi X K r σ) (fX1_tabAt_39 σ b k2 l1 l2 l3) σ 0 0 39 [some (.ref (X.ad b)), some (.int (l1)), some (.int (l2)), some (.int (l3))] [] := by
  unfold fX1_tabAt_39
  refine g_iinc (pc := 39) (v := l3 + 1) C dX1_tabAt_39 rfl (rfl) (Nat.le_of_ble_eq_true rfl) rfl ?_
  refine g_goto (pc := 42) (tgt := 2) C dX1_tabAt_42 rfl ?_
  refine g_keep [true, true, true, true] ?_
  exact hk2 l1 l2 (l3 + 1)
def fX1_tabAt_2 (σ : Sg) (b : Nat) : Nat → Int32 → Int32 → Int32 → Option Int32
  | 0, _, _, _ => none
  | n + 1, l1, l2, l3 =>
    if 12 ≤ l3 then
      some (-1)
    else
      if l1 = (-1) then
        some (-1)
      else
        (fX8_at σ (b + 13) 12 l3).bind fun r1 =>
        if r1 = l1 then
          (fX8_at σ (b + 14) 12 l3).bind fun r2 =>
          if r2 = l2 then
            some l3
          else
            (fX1_tabAt_39 σ b (fX1_tabAt_2 σ b n) l1 l2 l3)
        else
          (fX1_tabAt_39 σ b (fX1_tabAt_2 σ b n) l1 l2 l3)
theorem bX1_tabAt_2 {X : Xc} {K : Kc} (C : MC X K cX1_tabAt 4 RX1 rmX1_tabAt) (hr : K.meth.sig.returnType = (some .int)) (σ : Sg) (b : Nat) (hb : plOK b) : ∀ (n : Nat) (l1 : Int32) (l2 : Int32) (l3 : Int32), GO X K 4 (fun r => MQi X K r σ) (fX1_tabAt_2 σ b n l1 l2 l3) σ 0 0 2 [some (.ref (X.ad b)), some (.int (l1)), some (.int (l2)), some (.int (l3))] [] := by
  intro n
  induction n with
  | zero =>
    intro l1 l2 l3
    exact g_none
  | succ n ih =>
    intro l1 l2 l3
    unfold fX1_tabAt_2
    refine g_iload_n (pc := 2) (i := 3) C dX1_tabAt_2 rfl rfl ?_
    refine g_bipush (pc := 3) (v := 12) C dX1_tabAt_3 (by decide) ?_
    refine g_icmp_ge (pc := 5) (tgt := 45) C dX1_tabAt_5 rfl ?_ ?_
    · refine g_iconst (pc := 45) (v := (-1)) C dX1_tabAt_45 (by decide) ?_
      exact g_iret (pc := 46) C hr dX1_tabAt_46 rfl
    · refine g_iload_n (pc := 8) (i := 1) C dX1_tabAt_8 rfl rfl ?_
      refine g_iconst (pc := 9) (v := (-1)) C dX1_tabAt_9 (by decide) ?_
      refine g_icmp_eq (pc := 10) (tgt := 45) C dX1_tabAt_10 rfl ?_ ?_
      · refine g_iconst (pc := 45) (v := (-1)) C dX1_tabAt_45 (by decide) ?_
        exact g_iret (pc := 46) C hr dX1_tabAt_46 rfl
      · refine g_aload_n (pc := 13) (i := 0) C dX1_tabAt_13 rfl rfl ?_
        refine g_getr (pc := 14) (ci := 1) (N := 14) (T := TX1) (j := 11) (Cn := RX1) (b + 13) C rfl inlX1 (Nat.le_of_ble_eq_true rfl) q_3_22 (blk hb 0 rfl) rfl dX1_tabAt_14 ?_
        refine g_iload_n (pc := 17) (i := 3) C dX1_tabAt_17 rfl rfl ?_
        refine g_callNi (pc := 18) (As := [.ref (X.ad (b + 13)), .int (l3)]) C (kX8_at X σ (b + 13) 12 l3 (blk hb 13 rfl)) (List.mem_of_getElem? (i := 4) rfl) q_11_22 q_1_2 q_11_23 hdX8_at ⟨Nat.le_of_ble_eq_true rfl, Nat.le_of_ble_eq_true rfl, rfl, rfl⟩ ⟨Nat.zero_le _, Nat.zero_le _⟩ (Nat.le_of_ble_eq_true rfl) rfl rfl dX1_tabAt_18 (fun r1 _ => ?_)
        refine g_iload_n (pc := 21) (i := 1) C dX1_tabAt_21 rfl rfl ?_
        refine g_icmp_ne (pc := 22) (tgt := 39) C dX1_tabAt_22 rfl ?_ ?_
        · refine g_aload_n (pc := 25) (i := 0) C dX1_tabAt_25 rfl rfl ?_
          refine g_getr (pc := 26) (ci := 1) (N := 14) (T := TX1) (j := 12) (Cn := RX1) (b + 14) C rfl inlX1 (Nat.le_of_ble_eq_true rfl) q_3_23 (blk hb 0 rfl) rfl dX1_tabAt_26 ?_
          refine g_iload_n (pc := 29) (i := 3) C dX1_tabAt_29 rfl rfl ?_
          refine g_callNi (pc := 30) (As := [.ref (X.ad (b + 14)), .int (l3)]) C (kX8_at X σ (b + 14) 12 l3 (blk hb 14 rfl)) (List.mem_of_getElem? (i := 4) rfl) q_11_22 q_1_2 q_11_23 hdX8_at ⟨Nat.le_of_ble_eq_true rfl, Nat.le_of_ble_eq_true rfl, rfl, rfl⟩ ⟨Nat.zero_le _, Nat.zero_le _⟩ (Nat.le_of_ble_eq_true rfl) rfl rfl dX1_tabAt_30 (fun r2 _ => ?_)
          refine g_iload_n (pc := 33) (i := 2) C dX1_tabAt_33 rfl rfl ?_
          refine g_icmp_ne (pc := 34) (tgt := 39) C dX1_tabAt_34 rfl ?_ ?_
          · refine g_iload_n (pc := 37) (i := 3) C dX1_tabAt_37 rfl rfl ?_
            exact g_iret (pc := 38) C hr dX1_tabAt_38 rfl
          · refine g_keep [true, true, true, true] ?_
            exact bX1_tabAt_39 C hr σ b hb ih l1 l2 l3
        · refine g_keep [true, true, true, true] ?_
          exact bX1_tabAt_39 C hr σ b hb ih l1 l2 l3
def fX1_tabAt (σ : Sg) (b : Nat) (p1 : Int32) (p2 : Int32) : Option Int32 :=
  (fX1_tabAt_2 σ b FU p1 p2 0)
theorem kX1_tabAt (X : Xc) (σ : Sg) (b : Nat) (p1 : Int32) (p2 : Int32) (hb : plOK b) : ∀ r, fX1_tabAt σ b p1 p2 = some r → Met X.l yX1_tabAt (wsM yX1_tabAt cX1_tabAt 4 (some .int)) rmX1_tabAt (va_Pc [.ref (X.ad b), .int p1, .int p2] (PW X σ)) (Qi X r σ) 0 0 X.A := by
  refine mt_of (own := RX1) (lo := [some (.ref (X.ad b)), some (.int (p1)), some (.int (p2)), none]) (by decide) rfl (Nat.le_of_ble_eq_true rfl) rfl (fun K C hr => ?_)
  unfold fX1_tabAt
  refine g_iconst (pc := 0) (v := 0) C dX1_tabAt_0 (by decide) ?_
  refine g_istore_n (pc := 1) (i := 3) C dX1_tabAt_1 rfl (Nat.le_of_ble_eq_true rfl) rfl ?_
  refine g_keep [true, true, true, true] ?_
  exact bX1_tabAt_2 C hr σ b hb FU p1 p2 0
theorem dX1_isHidden_0 : decode cX1_isHidden 0 = .ok (.aload_n 0, 1) := by decide +kernel
theorem dX1_isHidden_1 : decode cX1_isHidden 1 = .ok (.getfield 55, 3) := by decide +kernel
theorem dX1_isHidden_4 : decode cX1_isHidden 4 = .ok (.iload_n 1, 1) := by decide +kernel
theorem dX1_isHidden_5 : decode cX1_isHidden 5 = .ok (.invokestatic 72, 3) := by decide +kernel
theorem dX1_isHidden_8 : decode cX1_isHidden 8 = .ok (.iconst 1, 1) := by decide +kernel
theorem dX1_isHidden_9 : decode cX1_isHidden 9 = .ok (.if_icmp .ne 7, 3) := by decide +kernel
theorem dX1_isHidden_12 : decode cX1_isHidden 12 = .ok (.iconst 1, 1) := by decide +kernel
theorem dX1_isHidden_13 : decode cX1_isHidden 13 = .ok (.goto 4, 3) := by decide +kernel
theorem dX1_isHidden_16 : decode cX1_isHidden 16 = .ok (.iconst 0, 1) := by decide +kernel
theorem dX1_isHidden_17 : decode cX1_isHidden 17 = .ok (.ireturn, 1) := by decide +kernel
abbrev rmX1_isHidden : Room := { frames := 1, cells := 0, slots := 0, locals := 21 }
theorem hdX1_isHidden : yX1_isHidden.cls ≠ "java/lang/invoke/MethodHandle" ∧ yX1_isHidden.cls ≠ "java/lang/invoke/VarHandle" ∧ (parseMethodDescriptor yX1_isHidden.desc).map (fun d => d.parameters.length) = some 1 := by decide +kernel
def fX1_isHidden (σ : Sg) (b : Nat) (p1 : Int32) : Option Bool :=
  (fX8_at σ (b + 15) 12 p1).bind fun r1 =>
  if r1 = 1 then
    some true
  else
    some false
theorem kX1_isHidden (X : Xc) (σ : Sg) (b : Nat) (p1 : Int32) (hb : plOK b) : ∀ r, fX1_isHidden σ b p1 = some r → Met X.l yX1_isHidden (wsM yX1_isHidden cX1_isHidden 2 (some .boolean)) rmX1_isHidden (va_Pc [.ref (X.ad b), .int p1] (PW X σ)) (Qi X (b2i r) σ) 0 0 X.A := by
  refine mt_of (own := RX1) (lo := [some (.ref (X.ad b)), some (.int (p1))]) (by decide) rfl (Nat.le_of_ble_eq_true rfl) rfl (fun K C hr => ?_)
  unfold fX1_isHidden
  refine g_aload_n (pc := 0) (i := 0) C dX1_isHidden_0 rfl rfl ?_
  refine g_getr (pc := 1) (ci := 1) (N := 14) (T := TX1) (j := 13) (Cn := RX1) (b + 15) C rfl inlX1 (Nat.le_of_ble_eq_true rfl) q_4_0 (blk hb 0 rfl) rfl dX1_isHidden_1 ?_
  refine g_iload_n (pc := 4) (i := 1) C dX1_isHidden_4 rfl rfl ?_
  refine g_callNi (pc := 5) (As := [.ref (X.ad (b + 15)), .int (p1)]) C (kX8_at X σ (b + 15) 12 p1 (blk hb 15 rfl)) (List.mem_of_getElem? (i := 4) rfl) q_11_22 q_1_2 q_11_23 hdX8_at ⟨Nat.le_of_ble_eq_true rfl, Nat.le_of_ble_eq_true rfl, rfl, rfl⟩ ⟨Nat.zero_le _, Nat.zero_le _⟩ (Nat.le_of_ble_eq_true rfl) rfl rfl dX1_isHidden_5 (fun r1 _ => ?_)
  refine g_iconst (pc := 8) (v := 1) C dX1_isHidden_8 (by decide) ?_
  refine g_icmp_ne (pc := 9) (tgt := 16) C dX1_isHidden_9 rfl ?_ ?_
  · refine g_iconst (pc := 12) (v := 1) C dX1_isHidden_12 (by decide) ?_
    refine g_goto (pc := 13) (tgt := 17) C dX1_isHidden_13 rfl ?_
    exact g_zret (pc := 17) C hr dX1_isHidden_17 rfl
  · refine g_iconst (pc := 16) (v := 0) C dX1_isHidden_16 (by decide) ?_
    exact g_zret (pc := 17) C hr dX1_isHidden_17 rfl
theorem dX1_activeInstead_0 : decode cX1_activeInstead 0 = .ok (.iload_n 2, 1) := by decide +kernel
theorem dX1_activeInstead_1 : decode cX1_activeInstead 1 = .ok (.iconst 1, 1) := by decide +kernel
theorem dX1_activeInstead_2 : decode cX1_activeInstead 2 = .ok (.iadd, 1) := by decide +kernel
theorem dX1_activeInstead_3 : decode cX1_activeInstead 3 = .ok (.istore_n 3, 1) := by decide +kernel
theorem dX1_activeInstead_4 : decode cX1_activeInstead 4 = .ok (.iload_n 3, 1) := by decide +kernel
theorem dX1_activeInstead_5 : decode cX1_activeInstead 5 = .ok (.bipush 12, 2) := by decide +kernel
theorem dX1_activeInstead_7 : decode cX1_activeInstead 7 = .ok (.if_icmp .ge 35, 3) := by decide +kernel
theorem dX1_activeInstead_10 : decode cX1_activeInstead 10 = .ok (.aload_n 0, 1) := by decide +kernel
theorem dX1_activeInstead_11 : decode cX1_activeInstead 11 = .ok (.iload_n 1, 1) := by decide +kernel
theorem dX1_activeInstead_12 : decode cX1_activeInstead 12 = .ok (.iload_n 3, 1) := by decide +kernel
theorem dX1_activeInstead_13 : decode cX1_activeInstead 13 = .ok (.invokevirtual 140, 3) := by decide +kernel
theorem dX1_activeInstead_16 : decode cX1_activeInstead 16 = .ok (.istore 4, 2) := by decide +kernel
theorem dX1_activeInstead_18 : decode cX1_activeInstead 18 = .ok (.iload 4, 2) := by decide +kernel
theorem dX1_activeInstead_20 : decode cX1_activeInstead 20 = .ok (.iconst (-1), 1) := by decide +kernel
theorem dX1_activeInstead_21 : decode cX1_activeInstead 21 = .ok (.if_icmp .eq 15, 3) := by decide +kernel
theorem dX1_activeInstead_24 : decode cX1_activeInstead 24 = .ok (.aload_n 0, 1) := by decide +kernel
theorem dX1_activeInstead_25 : decode cX1_activeInstead 25 = .ok (.iload 4, 2) := by decide +kernel
theorem dX1_activeInstead_27 : decode cX1_activeInstead 27 = .ok (.invokevirtual 136, 3) := by decide +kernel
theorem dX1_activeInstead_30 : decode cX1_activeInstead 30 = .ok (.ifCond .ne 6, 3) := by decide +kernel
theorem dX1_activeInstead_33 : decode cX1_activeInstead 33 = .ok (.iload 4, 2) := by decide +kernel
theorem dX1_activeInstead_35 : decode cX1_activeInstead 35 = .ok (.ireturn, 1) := by decide +kernel
theorem dX1_activeInstead_36 : decode cX1_activeInstead 36 = .ok (.iinc 3 1, 3) := by decide +kernel
theorem dX1_activeInstead_39 : decode cX1_activeInstead 39 = .ok (.goto (-35), 3) := by decide +kernel
theorem dX1_activeInstead_42 : decode cX1_activeInstead 42 = .ok (.iload_n 2, 1) := by decide +kernel
theorem dX1_activeInstead_43 : decode cX1_activeInstead 43 = .ok (.iconst 1, 1) := by decide +kernel
theorem dX1_activeInstead_44 : decode cX1_activeInstead 44 = .ok (.isub, 1) := by decide +kernel
theorem dX1_activeInstead_45 : decode cX1_activeInstead 45 = .ok (.istore_n 3, 1) := by decide +kernel
theorem dX1_activeInstead_46 : decode cX1_activeInstead 46 = .ok (.iload_n 3, 1) := by decide +kernel
theorem dX1_activeInstead_47 : decode cX1_activeInstead 47 = .ok (.ifCond .lt 35, 3) := by decide +kernel
theorem dX1_activeInstead_50 : decode cX1_activeInstead 50 = .ok (.aload_n 0, 1) := by decide +kernel
theorem dX1_activeInstead_51 : decode cX1_activeInstead 51 = .ok (.iload_n 1, 1) := by decide +kernel
theorem dX1_activeInstead_52 : decode cX1_activeInstead 52 = .ok (.iload_n 3, 1) := by decide +kernel
theorem dX1_activeInstead_53 : decode cX1_activeInstead 53 = .ok (.invokevirtual 140, 3) := by decide +kernel
theorem dX1_activeInstead_56 : decode cX1_activeInstead 56 = .ok (.istore 4, 2) := by decide +kernel
theorem dX1_activeInstead_58 : decode cX1_activeInstead 58 = .ok (.iload 4, 2) := by decide +kernel
theorem dX1_activeInstead_60 : decode cX1_activeInstead 60 = .ok (.iconst (-1), 1) := by decide +kernel
theorem dX1_activeInstead_61 : decode cX1_activeInstead 61 = .ok (.if_icmp .eq 15, 3) := by decide +kernel
theorem dX1_activeInstead_64 : decode cX1_activeInstead 64 = .ok (.aload_n 0, 1) := by decide +kernel
theorem dX1_activeInstead_65 : decode cX1_activeInstead 65 = .ok (.iload 4, 2) := by decide +kernel
theorem dX1_activeInstead_67 : decode cX1_activeInstead 67 = .ok (.invokevirtual 136, 3) := by decide +kernel
theorem dX1_activeInstead_70 : decode cX1_activeInstead 70 = .ok (.ifCond .ne 6, 3) := by decide +kernel
theorem dX1_activeInstead_73 : decode cX1_activeInstead 73 = .ok (.iload 4, 2) := by decide +kernel
theorem dX1_activeInstead_75 : decode cX1_activeInstead 75 = .ok (.ireturn, 1) := by decide +kernel
theorem dX1_activeInstead_76 : decode cX1_activeInstead 76 = .ok (.iinc 3 (-1), 3) := by decide +kernel
theorem dX1_activeInstead_79 : decode cX1_activeInstead 79 = .ok (.goto (-33), 3) := by decide +kernel
theorem dX1_activeInstead_82 : decode cX1_activeInstead 82 = .ok (.iconst (-1), 1) := by decide +kernel
theorem dX1_activeInstead_83 : decode cX1_activeInstead 83 = .ok (.ireturn, 1) := by decide +kernel
abbrev rmX1_activeInstead : Room := { frames := 2, cells := 0, slots := 0, locals := 44 }
theorem hdX1_activeInstead : yX1_activeInstead.cls ≠ "java/lang/invoke/MethodHandle" ∧ yX1_activeInstead.cls ≠ "java/lang/invoke/VarHandle" ∧ (parseMethodDescriptor yX1_activeInstead.desc).map (fun d => d.parameters.length) = some 2 := by decide +kernel
def fX1_activeInstead_76 (σ : Sg) (b : Nat) (k46 : Int32 → Int32 → Option Int32) (l1 : Int32) (l3 : Int32) : Option Int32 :=
  (k46 l1 (l3 + (-1)))
theorem bX1_activeInstead_76 {X : Xc} {K : Kc} (C : MC X K cX1_activeInstead 5 RX1 rmX1_activeInstead) (hr : K.meth.sig.returnType = (some .int)) (σ : Sg) (b : Nat) (hb : plOK b){k46 : Int32 → Int32 → Option Int32} (hk46 : ∀ (l1 : Int32) (l3 : Int32), GO X K 5 (fun r => MQi X K r σ) (k46 l1 l3) σ 0 0 46 [some (.ref (X.ad b)), some (.int (l1)), none, some (.int (l3)), none] []) (l1 : Int32) (l3 : Int32) : GO X K 5 (fun r => MQi X K r σ) (fX1_activeInstead_76 σ b k46 l1 l3) σ 0 0 76 [some (.ref (X.ad b)), some (.int (l1)), none, some (.int (l3)), none] [] := by
  unfold fX1_activeInstead_76
  refine g_iinc (pc := 76) (v := l3 + (-1)) C dX1_activeInstead_76 rfl (rfl) (Nat.le_of_ble_eq_true rfl) rfl ?_
  refine g_goto (pc := 79) (tgt := 46) C dX1_activeInstead_79 rfl ?_
  refine g_keep [true, true, false, true, false] ?_
  exact hk46 l1 (l3 + (-1))
def fX1_activeInstead_46 (σ : Sg) (b : Nat) : Nat → Int32 → Int32 → Option Int32
  | 0, _, _ => none
  | n + 1, l1, l3 =>
    if l3 < 0 then
      some (-1)
    else
      (fX1_tabAt σ b l1 l3).bind fun r5 =>
      if r5 = (-1) then
        (fX1_activeInstead_76 σ b (fX1_activeInstead_46 σ b n) l1 l3)
      else
        (fX1_isHidden σ b r5).bind fun r6 =>
        if r6 = true then
          (fX1_activeInstead_76 σ b (fX1_activeInstead_46 σ b n) l1 l3)
        else
          some r5
theorem bX1_activeInstead_46 {X : Xc} {K : Kc} (C : MC X K cX1_activeInstead 5 RX1 rmX1_activeInstead) (hr : K.meth.sig.returnType = (some .int)) (σ : Sg) (b : Nat) (hb : plOK b) : ∀ (n : Nat) (l1 : Int32) (l3 : Int32), GO X K 5 (fun r => MQi X K r σ) (fX1_activeInstead_46 σ b n l1 l3) σ 0 0 46 [some (.ref (X.ad b)), some (.int (l1)), none, some (.int (l3)), none] [] := by
  intro n
  induction n with
  | zero =>
    intro l1 l3
    exact g_none
  | succ n ih =>
    intro l1 l3
    unfold fX1_activeInstead_46
    refine g_iload_n (pc := 46) (i := 3) C dX1_activeInstead_46 rfl rfl ?_
    refine g_if_lt (pc := 47) (tgt := 82) C dX1_activeInstead_47 rfl ?_ ?_
    · refine g_iconst (pc := 82) (v := (-1)) C dX1_activeInstead_82 (by decide) ?_
      exact g_iret (pc := 83) C hr dX1_activeInstead_83 rfl
    · refine g_aload_n (pc := 50) (i := 0) C dX1_activeInstead_50 rfl rfl ?_
      refine g_iload_n (pc := 51) (i := 1) C dX1_activeInstead_51 rfl rfl ?_
      refine g_iload_n (pc := 52) (i := 3) C dX1_activeInstead_52 rfl rfl ?_
      refine g_callVi (pc := 53) (As := [.int (l1), .int (l3)]) C (kX1_tabAt X σ b l1 l3 hb) (blk hb 0 rfl) rfl q_12_12 q_12_13 q_12_14 q_2_23 q_12_15 ⟨rfl, hdX1_tabAt⟩ ⟨Nat.le_of_ble_eq_true rfl, Nat.le_of_ble_eq_true rfl, rfl, rfl⟩ ⟨Nat.zero_le _, Nat.zero_le _⟩ (Nat.le_of_ble_eq_true rfl) rfl rfl dX1_activeInstead_53 (fun r5 _ => ?_)
      refine g_istore (pc := 56) C dX1_activeInstead_56 (Nat.le_of_ble_eq_true rfl) rfl ?_
      refine g_iload (pc := 58) C dX1_activeInstead_58 rfl ?_
      refine g_iconst (pc := 60) (v := (-1)) C dX1_activeInstead_60 (by decide) ?_
      refine g_icmp_eq (pc := 61) (tgt := 76) C dX1_activeInstead_61 rfl ?_ ?_
      · refine g_keep [true, true, false, true, false] ?_
        exact bX1_activeInstead_76 C hr σ b hb ih l1 l3
      · refine g_aload_n (pc := 64) (i := 0) C dX1_activeInstead_64 rfl rfl ?_
        refine g_iload (pc := 65) C dX1_activeInstead_65 rfl ?_
        refine g_callVi (pc := 67) (As := [.int (r5)]) C (kX1_isHidden X σ b r5 hb) (blk hb 0 rfl) rfl q_12_16 q_12_17 q_12_18 q_2_23 q_12_19 ⟨rfl, hdX1_isHidden⟩ ⟨Nat.le_of_ble_eq_true rfl, Nat.le_of_ble_eq_true rfl, rfl, rfl⟩ ⟨Nat.zero_le _, Nat.zero_le _⟩ (Nat.le_of_ble_eq_true rfl) rfl rfl dX1_activeInstead_67 (fun r6 _ => ?_)
        refine g_ifb_ne (pc := 70) (tgt := 76) C dX1_activeInstead_70 rfl ?_ ?_
        · refine g_keep [true, true, false, true, false] ?_
          exact bX1_activeInstead_76 C hr σ b hb ih l1 l3
        · refine g_iload (pc := 73) C dX1_activeInstead_73 rfl ?_
          exact g_iret (pc := 75) C hr dX1_activeInstead_75 rfl
def fX1_activeInstead_36 (σ : Sg) (b : Nat) (k4 : Int32 → Int32 → Int32 → Option Int32) (l1 : Int32) (l2 : Int32) (l3 : Int32) : Option Int32 :=
  (k4 l1 l2 (l3 + 1))
theorem bX1_activeInstead_36 {X : Xc} {K : Kc} (C : MC X K cX1_activeInstead 5 RX1 rmX1_activeInstead) (hr : K.meth.sig.returnType = (some .int)) (σ : Sg) (b : Nat) (hb : plOK b){k4 : Int32 → Int32 → Int32 → Option Int32} (hk4 : ∀ (l1 : Int32) (l2 : Int32) (l3 : Int32), GO X K 5 (fun r => MQi X K r σ) (k4 l1 l2 l3) σ 0 0 4 [some (.ref (X.ad b)), some (.int (l1)), some (.int (l2)), some (.int (l3)), none] []) (l1 : Int32) (l2 : Int32) (l3 : Int32) : GO X K 5 (fun r => MQi X K r σ) (fX1_activeInstead_36 σ b k4 l1 l2 l3) σ 0 0 36 [some (.ref (X.ad b)), some (.int (l1)), some (.int (l2)), some (.int (l3)), none] [] := by
  unfold fX1_activeInstead_36
  refine g_iinc (pc := 36) (v := l3 + 1) C dX1_activeInstead_36 rfl (rfl) (Nat.le_of_ble_eq_true rfl) rfl ?_
  refine g_goto (pc := 39) (tgt := 4) C dX1_activeInstead_39 rfl ?_
  refine g_keep [true, true, true, true, false] ?_
  exact hk4 l1 l2 (l3 + 1)
def fX1_activeInstead_4 (σ : Sg) (b : Nat) : Nat → Int32 → Int32 → Int32 → Option Int32
  | 0, _, _, _ => none
  | n + 1, l1, l2, l3 =>
    if 12 ≤ l3 then
      nm (l2 - 1) fun v2 =>
      (fX1_activeInstead_46 σ b FU l1 v2)
    else
      (fX1_tabAt σ b l1 l3).bind fun r3 =>
      if r3 = (-1) then
        (fX1_activeInstead_36 σ b (fX1_activeInstead_4 σ b n) l1 l2 l3)
      else
        (fX1_isHidden σ b r3).bind fun r4 =>
        if r4 = true then
          (fX1_activeInstead_36 σ b (fX1_activeInstead_4 σ b n) l1 l2 l3)
        else
          some r3
theorem bX1_activeInstead_4 {X : Xc} {K : Kc} (C : MC X K cX1_activeInstead 5 RX1 rmX1_activeInstead) (hr : K.meth.sig.returnType = (some .int)) (σ : Sg) (b : Nat) (hb : plOK b) : ∀ (n : Nat) (l1 : Int32) (l2 : Int32) (l3 : Int32), GO X K 5 (fun r => MQi X K r σ) (fX1_activeInstead_4 σ b n l1 l2 l3) σ 0 0 4 [some (.ref (X.ad b)), some (.int (l1)), some (.int (l2)), some (.int (l3)), none] [] := by
  intro n
  induction n with
  | zero =>
    intro l1 l2 l3
    exact g_none
  | succ n ih =>
    intro l1 l2 l3
    unfold fX1_activeInstead_4
    refine g_iload_n (pc := 4) (i := 3) C dX1_activeInstead_4 rfl rfl ?_
    refine g_bipush (pc := 5) (v := 12) C dX1_activeInstead_5 (by decide) ?_
    refine g_icmp_ge (pc := 7) (tgt := 42) C dX1_activeInstead_7 rfl ?_ ?_
    · refine g_iload_n (pc := 42) (i := 2) C dX1_activeInstead_42 rfl rfl ?_
      refine g_iconst (pc := 43) (v := 1) C dX1_activeInstead_43 (by decide) ?_
      refine g_isub (pc := 44) C dX1_activeInstead_44 ?_
      refine g_nm (fun v2 => ?_)
      refine g_istore_n (pc := 45) (i := 3) C dX1_activeInstead_45 rfl (Nat.le_of_ble_eq_true rfl) rfl ?_
      refine g_keep [true, true, false, true, false] ?_
      exact bX1_activeInstead_46 C hr σ b hb FU l1 v2
    · refine g_aload_n (pc := 10) (i := 0) C dX1_activeInstead_10 rfl rfl ?_
      refine g_iload_n (pc := 11) (i := 1) C dX1_activeInstead_11 rfl rfl ?_
      refine g_iload_n (pc := 12) (i := 3) C dX1_activeInstead_12 rfl rfl ?_
      refine g_callVi (pc := 13) (As := [.int (l1), .int (l3)]) C (kX1_tabAt X σ b l1 l3 hb) (blk hb 0 rfl) rfl q_12_12 q_12_13 q_12_14 q_2_23 q_12_15 ⟨rfl, hdX1_tabAt⟩ ⟨Nat.le_of_ble_eq_true rfl, Nat.le_of_ble_eq_true rfl, rfl, rfl⟩ ⟨Nat.zero_le _, Nat.zero_le _⟩ (Nat.le_of_ble_eq_true rfl) rfl rfl dX1_activeInstead_13 (fun r3 _ => ?_)
      refine g_istore (pc := 16) C dX1_activeInstead_16 (Nat.le_of_ble_eq_true rfl) rfl ?_
      refine g_iload (pc := 18) C dX1_activeInstead_18 rfl ?_
      refine g_iconst (pc := 20) (v := (-1)) C dX1_activeInstead_20 (by decide) ?_
      refine g_icmp_eq (pc := 21) (tgt := 36) C dX1_activeInstead_21 rfl ?_ ?_
      · refine g_keep [true, true, true, true, false] ?_
        exact bX1_activeInstead_36 C hr σ b hb ih l1 l2 l3
      · refine g_aload_n (pc := 24) (i := 0) C dX1_activeInstead_24 rfl rfl ?_
        refine g_iload (pc := 25) C dX1_activeInstead_25 rfl ?_
        refine g_callVi (pc := 27) (As := [.int (r3)]) C (kX1_isHidden X σ b r3 hb) (blk hb 0 rfl) rfl q_12_16 q_12_17 q_12_18 q_2_23 q_12_19 ⟨rfl, hdX1_isHidden⟩ ⟨Nat.le_of_ble_eq_true rfl, Nat.le_of_ble_eq_true rfl, rfl, rfl⟩ ⟨Nat.zero_le _, Nat.zero_le _⟩ (Nat.le_of_ble_eq_true rfl) rfl rfl dX1_activeInstead_27 (fun r4 _ => ?_)
        refine g_ifb_ne (pc := 30) (tgt := 36) C dX1_activeInstead_30 rfl ?_ ?_
        · refine g_keep [true, true, true, true, false] ?_
          exact bX1_activeInstead_36 C hr σ b hb ih l1 l2 l3
        · refine g_iload (pc := 33) C dX1_activeInstead_33 rfl ?_
          exact g_iret (pc := 35) C hr dX1_activeInstead_35 rfl
def fX1_activeInstead (σ : Sg) (b : Nat) (p1 : Int32) (p2 : Int32) : Option Int32 :=
  nm (p2 + 1) fun v1 =>
  (fX1_activeInstead_4 σ b FU p1 p2 v1)
theorem kX1_activeInstead (X : Xc) (σ : Sg) (b : Nat) (p1 : Int32) (p2 : Int32) (hb : plOK b) : ∀ r, fX1_activeInstead σ b p1 p2 = some r → Met X.l yX1_activeInstead (wsM yX1_activeInstead cX1_activeInstead 5 (some .int)) rmX1_activeInstead (va_Pc [.ref (X.ad b), .int p1, .int p2] (PW X σ)) (Qi X r σ) 0 0 X.A := by
  refine mt_of (own := RX1) (lo := [some (.ref (X.ad b)), some (.int (p1)), some (.int (p2)), none, none]) (by decide) rfl (Nat.le_of_ble_eq_true rfl) rfl (fun K C hr => ?_)
  unfold fX1_activeInstead
  refine g_iload_n (pc := 0) (i := 2) C dX1_activeInstead_0 rfl rfl ?_
  refine g_iconst (pc := 1) (v := 1) C dX1_activeInstead_1 (by decide) ?_
  refine g_iadd (pc := 2) C dX1_activeInstead_2 ?_
  refine g_nm (fun v1 => ?_)
  refine g_istore_n (pc := 3) (i := 3) C dX1_activeInstead_3 rfl (Nat.le_of_ble_eq_true rfl) rfl ?_
  refine g_keep [true, true, true, true, false] ?_
  exact bX1_activeInstead_4 C hr σ b hb FU p1 p2 v1
theorem dX1_hide_0 : decode cX1_hide 0 = .ok (.aload_n 0, 1) := by decide +kernel
theorem dX1_hide_1 : decode cX1_hide 1 = .ok (.iload_n 1, 1) := by decide +kernel
theorem dX1_hide_2 : decode cX1_hide 2 = .ok (.invokevirtual 84, 3) := by decide +kernel
theorem dX1_hide_5 : decode cX1_hide 5 = .ok (.istore_n 2, 1) := by decide +kernel
theorem dX1_hide_6 : decode cX1_hide 6 = .ok (.aload_n 0, 1) := by decide +kernel
theorem dX1_hide_7 : decode cX1_hide 7 = .ok (.getfield 55, 3) := by decide +kernel
theorem dX1_hide_10 : decode cX1_hide 10 = .ok (.iload_n 1, 1) := by decide +kernel
theorem dX1_hide_11 : decode cX1_hide 11 = .ok (.iconst 1, 1) := by decide +kernel
theorem dX1_hide_12 : decode cX1_hide 12 = .ok (.invokestatic 76, 3) := by decide +kernel
theorem dX1_hide_15 : decode cX1_hide 15 = .ok (.aload_n 0, 1) := by decide +kernel
theorem dX1_hide_16 : decode cX1_hide 16 = .ok (.getfield 46, 3) := by decide +kernel
theorem dX1_hide_19 : decode cX1_hide 19 = .ok (.iload_n 2, 1) := by decide +kernel
theorem dX1_hide_20 : decode cX1_hide 20 = .ok (.invokestatic 72, 3) := by decide +kernel
theorem dX1_hide_23 : decode cX1_hide 23 = .ok (.iload_n 1, 1) := by decide +kernel
theorem dX1_hide_24 : decode cX1_hide 24 = .ok (.if_icmp .ne 21, 3) := by decide +kernel
theorem dX1_hide_27 : decode cX1_hide 27 = .ok (.aload_n 0, 1) := by decide +kernel
theorem dX1_hide_28 : decode cX1_hide 28 = .ok (.getfield 46, 3) := by decide +kernel
theorem dX1_hide_31 : decode cX1_hide 31 = .ok (.iload_n 2, 1) := by decide +kernel
theorem dX1_hide_32 : decode cX1_hide 32 = .ok (.aload_n 0, 1) := by decide +kernel
theorem dX1_hide_33 : decode cX1_hide 33 = .ok (.iload_n 2, 1) := by decide +kernel
theorem dX1_hide_34 : decode cX1_hide 34 = .ok (.aload_n 0, 1) := by decide +kernel
theorem dX1_hide_35 : decode cX1_hide 35 = .ok (.iload_n 1, 1) := by decide +kernel
theorem dX1_hide_36 : decode cX1_hide 36 = .ok (.invokevirtual 155, 3) := by decide +kernel
theorem dX1_hide_39 : decode cX1_hide 39 = .ok (.invokevirtual 158, 3) := by decide +kernel
theorem dX1_hide_42 : decode cX1_hide 42 = .ok (.invokestatic 76, 3) := by decide +kernel
theorem dX1_hide_45 : decode cX1_hide 45 = .ok (.return_, 1) := by decide +kernel
abbrev rmX1_hide : Room := { frames := 3, cells := 0, slots := 0, locals := 68 }
theorem hdX1_hide : yX1_hide.cls ≠ "java/lang/invoke/MethodHandle" ∧ yX1_hide.cls ≠ "java/lang/invoke/VarHandle" ∧ (parseMethodDescriptor yX1_hide.desc).map (fun d => d.parameters.length) = some 1 := by decide +kernel
def fX1_hide (σ : Sg) (b : Nat) (p1 : Int32) : Option Sg :=
  (fX1_groupOf σ b p1).bind fun r1 =>
  (fX8_put σ (b + 15) 12 p1 1).bind fun σ2 =>
  (fX8_at σ2 (b + 12) 23 r1).bind fun r3 =>
  if r3 = p1 then
    (fX1_spotOf σ2 b p1).bind fun r4 =>
    (fX1_activeInstead σ2 b r1 r4).bind fun r5 =>
    (fX8_put σ2 (b + 12) 23 r1 r5).bind fun σ6 =>
    some σ6
  else
    some σ2
theorem kX1_hide (X : Xc) (σ : Sg) (b : Nat) (p1 : Int32) (hb : plOK b) : ∀ r, fX1_hide σ b p1 = some r → Met X.l yX1_hide (wsM yX1_hide cX1_hide 3 none) rmX1_hide (va_Pc [.ref (X.ad b), .int p1] (PW X σ)) (Qv X r) 0 0 X.A := by
  refine mt_of (own := RX1) (lo := [some (.ref (X.ad b)), some (.int (p1)), none]) (by decide) rfl (Nat.le_of_ble_eq_true rfl) rfl (fun K C hr => ?_)
  unfold fX1_hide
  refine g_aload_n (pc := 0) (i := 0) C dX1_hide_0 rfl rfl ?_
  refine g_iload_n (pc := 1) (i := 1) C dX1_hide_1 rfl rfl ?_
  refine g_callVi (pc := 2) (As := [.int (p1)]) C (kX1_groupOf X σ b p1 hb) (blk hb 0 rfl) rfl q_11_18 q_11_19 q_11_20 q_2_23 q_11_21 ⟨rfl, hdX1_groupOf⟩ ⟨Nat.le_of_ble_eq_true rfl, Nat.le_of_ble_eq_true rfl, rfl, rfl⟩ ⟨Nat.zero_le _, Nat.zero_le _⟩ (Nat.le_of_ble_eq_true rfl) rfl rfl dX1_hide_2 (fun r1 _ => ?_)
  refine g_istore_n (pc := 5) (i := 2) C dX1_hide_5 rfl (Nat.le_of_ble_eq_true rfl) rfl ?_
  refine g_aload_n (pc := 6) (i := 0) C dX1_hide_6 rfl rfl ?_
  refine g_getr (pc := 7) (ci := 1) (N := 14) (T := TX1) (j := 13) (Cn := RX1) (b + 15) C rfl inlX1 (Nat.le_of_ble_eq_true rfl) q_4_0 (blk hb 0 rfl) rfl dX1_hide_7 ?_
  refine g_iload_n (pc := 10) (i := 1) C dX1_hide_10 rfl rfl ?_
  refine g_iconst (pc := 11) (v := 1) C dX1_hide_11 (by decide) ?_
  refine g_callNv (pc := 12) (As := [.ref (X.ad (b + 15)), .int (p1), .int (1)]) C (kX8_put X σ (b + 15) 12 p1 1 (blk hb 15 rfl)) (List.mem_of_getElem? (i := 5) rfl) q_9_20 q_1_2 q_9_21 hdX8_put ⟨Nat.le_of_ble_eq_true rfl, Nat.le_of_ble_eq_true rfl, rfl, rfl⟩ ⟨Nat.zero_le _, Nat.zero_le _⟩ (Nat.le_of_ble_eq_true rfl) rfl rfl dX1_hide_12 (fun σ2 _ => ?_)
  refine g_aload_n (pc := 15) (i := 0) C dX1_hide_15 rfl rfl ?_
  refine g_getr (pc := 16) (ci := 1) (N := 14) (T := TX1) (j := 10) (Cn := RX1) (b + 12) C rfl inlX1 (Nat.le_of_ble_eq_true rfl) q_3_21 (blk hb 0 rfl) rfl dX1_hide_16 ?_
  refine g_iload_n (pc := 19) (i := 2) C dX1_hide_19 rfl rfl ?_
  refine g_callNi (pc := 20) (As := [.ref (X.ad (b + 12)), .int (r1)]) C (kX8_at X σ2 (b + 12) 23 r1 (blk hb 12 rfl)) (List.mem_of_getElem? (i := 4) rfl) q_11_22 q_1_2 q_11_23 hdX8_at ⟨Nat.le_of_ble_eq_true rfl, Nat.le_of_ble_eq_true rfl, rfl, rfl⟩ ⟨Nat.zero_le _, Nat.zero_le _⟩ (Nat.le_of_ble_eq_true rfl) rfl rfl dX1_hide_20 (fun r3 _ => ?_)
  refine g_iload_n (pc := 23) (i := 1) C dX1_hide_23 rfl rfl ?_
  refine g_icmp_ne (pc := 24) (tgt := 45) C dX1_hide_24 rfl ?_ ?_
  · refine g_aload_n (pc := 27) (i := 0) C dX1_hide_27 rfl rfl ?_
    refine g_getr (pc := 28) (ci := 1) (N := 14) (T := TX1) (j := 10) (Cn := RX1) (b + 12) C rfl inlX1 (Nat.le_of_ble_eq_true rfl) q_3_21 (blk hb 0 rfl) rfl dX1_hide_28 ?_
    refine g_iload_n (pc := 31) (i := 2) C dX1_hide_31 rfl rfl ?_
    refine g_aload_n (pc := 32) (i := 0) C dX1_hide_32 rfl rfl ?_
    refine g_iload_n (pc := 33) (i := 2) C dX1_hide_33 rfl rfl ?_
    refine g_aload_n (pc := 34) (i := 0) C dX1_hide_34 rfl rfl ?_
    refine g_iload_n (pc := 35) (i := 1) C dX1_hide_35 rfl rfl ?_
    refine g_callVi (pc := 36) (As := [.int (p1)]) C (kX1_spotOf X σ2 b p1 hb) (blk hb 0 rfl) rfl q_12_4 q_12_5 q_12_6 q_2_23 q_12_7 ⟨rfl, hdX1_spotOf⟩ ⟨Nat.le_of_ble_eq_true rfl, Nat.le_of_ble_eq_true rfl, rfl, rfl⟩ ⟨Nat.zero_le _, Nat.zero_le _⟩ (Nat.le_of_ble_eq_true rfl) rfl rfl dX1_hide_36 (fun r4 _ => ?_)
    refine g_callVi (pc := 39) (As := [.int (r1), .int (r4)]) C (kX1_activeInstead X σ2 b r1 r4 hb) (blk hb 0 rfl) rfl q_12_8 q_12_9 q_12_10 q_2_23 q_12_11 ⟨rfl, hdX1_activeInstead⟩ ⟨Nat.le_of_ble_eq_true rfl, Nat.le_of_ble_eq_true rfl, rfl, rfl⟩ ⟨Nat.zero_le _, Nat.zero_le _⟩ (Nat.le_of_ble_eq_true rfl) rfl rfl dX1_hide_39 (fun r5 _ => ?_)
    refine g_callNv (pc := 42) (As := [.ref (X.ad (b + 12)), .int (r1), .int (r5)]) C (kX8_put X σ2 (b + 12) 23 r1 r5 (blk hb 12 rfl)) (List.mem_of_getElem? (i := 5) rfl) q_9_20 q_1_2 q_9_21 hdX8_put ⟨Nat.le_of_ble_eq_true rfl, Nat.le_of_ble_eq_true rfl, rfl, rfl⟩ ⟨Nat.zero_le _, Nat.zero_le _⟩ (Nat.le_of_ble_eq_true rfl) rfl rfl dX1_hide_42 (fun σ6 _ => ?_)
    exact g_vret (pc := 45) C hr dX1_hide_45 rfl
  · exact g_vret (pc := 45) C hr dX1_hide_45 rfl
theorem dX1_tabCount_0 : decode cX1_tabCount 0 = .ok (.iconst 0, 1) := by decide +kernel
theorem dX1_tabCount_1 : decode cX1_tabCount 1 = .ok (.istore_n 2, 1) := by decide +kernel
theorem dX1_tabCount_2 : decode cX1_tabCount 2 = .ok (.iconst 0, 1) := by decide +kernel
theorem dX1_tabCount_3 : decode cX1_tabCount 3 = .ok (.istore_n 3, 1) := by decide +kernel
theorem dX1_tabCount_4 : decode cX1_tabCount 4 = .ok (.iload_n 3, 1) := by decide +kernel
theorem dX1_tabCount_5 : decode cX1_tabCount 5 = .ok (.bipush 12, 2) := by decide +kernel
theorem dX1_tabCount_7 : decode cX1_tabCount 7 = .ok (.if_icmp .ge 29, 3) := by decide +kernel
theorem dX1_tabCount_10 : decode cX1_tabCount 10 = .ok (.iload_n 2, 1) := by decide +kernel
theorem dX1_tabCount_11 : decode cX1_tabCount 11 = .ok (.aload_n 0, 1) := by decide +kernel
theorem dX1_tabCount_12 : decode cX1_tabCount 12 = .ok (.getfield 49, 3) := by decide +kernel
theorem dX1_tabCount_15 : decode cX1_tabCount 15 = .ok (.iload_n 3, 1) := by decide +kernel
theorem dX1_tabCount_16 : decode cX1_tabCount 16 = .ok (.invokestatic 72, 3) := by decide +kernel
theorem dX1_tabCount_19 : decode cX1_tabCount 19 = .ok (.iload_n 1, 1) := by decide +kernel
theorem dX1_tabCount_20 : decode cX1_tabCount 20 = .ok (.if_icmp .ne 7, 3) := by decide +kernel
theorem dX1_tabCount_23 : decode cX1_tabCount 23 = .ok (.iconst 1, 1) := by decide +kernel
theorem dX1_tabCount_24 : decode cX1_tabCount 24 = .ok (.goto 4, 3) := by decide +kernel
theorem dX1_tabCount_27 : decode cX1_tabCount 27 = .ok (.iconst 0, 1) := by decide +kernel
theorem dX1_tabCount_28 : decode cX1_tabCount 28 = .ok (.iadd, 1) := by decide +kernel
theorem dX1_tabCount_29 : decode cX1_tabCount 29 = .ok (.istore_n 2, 1) := by decide +kernel
theorem dX1_tabCount_30 : decode cX1_tabCount 30 = .ok (.iinc 3 1, 3) := by decide +kernel
theorem dX1_tabCount_33 : decode cX1_tabCount 33 = .ok (.goto (-29), 3) := by decide +kernel
theorem dX1_tabCount_36 : decode cX1_tabCount 36 = .ok (.iload_n 2, 1) := by decide +kernel
theorem dX1_tabCount_37 : decode cX1_tabCount 37 = .ok (.ireturn, 1) := by decide +kernel
abbrev rmX1_tabCount : Room := { frames := 1, cells := 0, slots := 0, locals := 21 }
theorem hdX1_tabCount : yX1_tabCount.cls ≠ "java/lang/invoke/MethodHandle" ∧ yX1_tabCount.cls ≠ "java/lang/invoke/VarHandle" ∧ (parseMethodDescriptor yX1_tabCount.desc).map (fun d => d.parameters.length) = some 1 := by decide +kernel
def fX1_tabCount_28 (σ : Sg) (b : Nat) (k4 : Int32 → Int32 → Int32 → Option Int32) (l1 : Int32) (l3 : Int32) (s0 : Int32) (s1 : Int32) : Option Int32 :=
  nm (s0 + s1) fun v2 =>
  (k4 l1 v2 (l3 + 1))
theorem bX1_tabCount_28 {X : Xc} {K : Kc} (C : MC X K cX1_tabCount 4 RX1 rmX1_tabCount) (hr : K.meth.sig.returnType = (some .int)) (σ : Sg) (b : Nat) (hb : plOK b){k4 : Int32 → Int32 → Int32 → Option Int32} (hk4 : ∀ (l1 : Int32) (l2 : Int32) (l3 : Int32), GO X K 4 (fun r => MQi X K r σ) (k4 l1 l2 l3) σ 0 0 4 [some (.ref (X.ad b)), some (.int (l1)), some (.int (l2)), some (.int (l3))] []) (l1 : Int32) (l3 : Int32) (s0 : Int32) (s1 : Int32) : GO X K 4 (fun r => MQi X K r σ) (fX1_tabCount_28 σ b k4 l1 l3 s0 s1) σ 0 0 28 [some (.ref (X.ad b)), some (.int (l1)), none, some (.int (l3))] [.int (s1), .int (s0)] := by
  unfold fX1_tabCount_28
  refine g_iadd (pc := 28) C dX1_tabCount_28 ?_
  refine g_nm (fun v2 => ?_)
  refine g_istore_n (pc := 29) (i := 2) C dX1_tabCount_29 rfl (Nat.le_of_ble_eq_true rfl) rfl ?_
  refine g_iinc (pc := 30) (v := l3 + 1) C dX1_tabCount_30 rfl (rfl) (Nat.le_of_ble_eq_true rfl) rfl ?_
  refine g_goto (pc := 33) (tgt := 4) C dX1_tabCount_33 rfl ?_
  refine g_keep [true, true, true, true] ?_
  exact hk4 l1 v2 (l3 + 1)
def fX1_tabCount_4 (σ : Sg) (b : Nat) : Nat → Int32 → Int32 → Int32 → Option Int32
  | 0, _, _, _ => none
  | n + 1, l1, l2, l3 =>
    if 12 ≤ l3 then
      some l2
    else
      (fX8_at σ (b + 13) 12 l3).bind fun r1 =>
      if r1 = l1 then
        (fX1_tabCount_28 σ b (fX1_tabCount_4 σ b n) l1 l3 l2 1)
      else
        (fX1_tabCount_28 σ b (fX1_tabCount_4 σ b n) l1 l3 l2 0)
theorem bX1_tabCount_4 {X : Xc} {K : Kc} (C : MC X K cX1_tabCount 4 RX1 rmX1_tabCount) (hr : K.meth.sig.returnType = (some .int)) (σ : Sg) (b : Nat) (hb : plOK b) : ∀ (n : Nat) (l1 : Int32) (l2 : Int32) (l3 : Int32), GO X K 4 (fun r => MQi X K r σ) (fX1_tabCount_4 σ b n l1 l2 l3) σ 0 0 4 [some (.ref (X.ad b)), some (.int (l1)), some (.int (l2)), some (.int (l3))] [] := by
  intro n
  induction n with
  | zero =>
    intro l1 l2 l3
    exact g_none
  | succ n ih =>
    intro l1 l2 l3
    unfold fX1_tabCount_4
    refine g_iload_n (pc := 4) (i := 3) C dX1_tabCount_4 rfl rfl ?_
    refine g_bipush (pc := 5) (v := 12) C dX1_tabCount_5 (by decide) ?_
    refine g_icmp_ge (pc := 7) (tgt := 36) C dX1_tabCount_7 rfl ?_ ?_
    · refine g_iload_n (pc := 36) (i := 2) C dX1_tabCount_36 rfl rfl ?_
      exact g_iret (pc := 37) C hr dX1_tabCount_37 rfl
    · refine g_iload_n (pc := 10) (i := 2) C dX1_tabCount_10 rfl rfl ?_
      refine g_aload_n (pc := 11) (i := 0) C dX1_tabCount_11 rfl rfl ?_
      refine g_getr (pc := 12) (ci := 1) (N := 14) (T := TX1) (j := 11) (Cn := RX1) (b + 13) C rfl inlX1 (Nat.le_of_ble_eq_true rfl) q_3_22 (blk hb 0 rfl) rfl dX1_tabCount_12 ?_
      refine g_iload_n (pc := 15) (i := 3) C dX1_tabCount_15 rfl rfl ?_
      refine g_callNi (pc := 16) (As := [.ref (X.ad (b + 13)), .int (l3)]) C (kX8_at X σ (b + 13) 12 l3 (blk hb 13 rfl)) (List.mem_of_getElem? (i := 4) rfl) q_11_22 q_1_2 q_11_23 hdX8_at ⟨Nat.le_of_ble_eq_true rfl, Nat.le_of_ble_eq_true rfl, rfl, rfl⟩ ⟨Nat.zero_le _, Nat.zero_le _⟩ (Nat.le_of_ble_eq_true rfl) rfl rfl dX1_tabCount_16 (fun r1 _ => ?_)
      refine g_iload_n (pc := 19) (i := 1) C dX1_tabCount_19 rfl rfl ?_
      refine g_icmp_ne (pc := 20) (tgt := 27) C dX1_tabCount_20 rfl ?_ ?_
      · refine g_iconst (pc := 23) (v := 1) C dX1_tabCount_23 (by decide) ?_
        refine g_goto (pc := 24) (tgt := 28) C dX1_tabCount_24 rfl ?_
        refine g_keep [true, true, false, true] ?_
        exact bX1_tabCount_28 C hr σ b hb ih l1 l3 l2 1
      · refine g_iconst (pc := 27) (v := 0) C dX1_tabCount_27 (by decide) ?_
        refine g_keep [true, true, false, true] ?_
        exact bX1_tabCount_28 C hr σ b hb ih l1 l3 l2 0
def fX1_tabCount (σ : Sg) (b : Nat) (p1 : Int32) : Option Int32 :=
  (fX1_tabCount_4 σ b FU p1 0 0)
theorem kX1_tabCount (X : Xc) (σ : Sg) (b : Nat) (p1 : Int32) (hb : plOK b) : ∀ r, fX1_tabCount σ b p1 = some r → Met X.l yX1_tabCount (wsM yX1_tabCount cX1_tabCount 4 (some .int)) rmX1_tabCount (va_Pc [.ref (X.ad b), .int p1] (PW X σ)) (Qi X r σ) 0 0 X.A := by
  refine mt_of (own := RX1) (lo := [some (.ref (X.ad b)), some (.int (p1)), none, none]) (by decide) rfl (Nat.le_of_ble_eq_true rfl) rfl (fun K C hr => ?_)
  unfold fX1_tabCount
  refine g_iconst (pc := 0) (v := 0) C dX1_tabCount_0 (by decide) ?_
  refine g_istore_n (pc := 1) (i := 2) C dX1_tabCount_1 rfl (Nat.le_of_ble_eq_true rfl) rfl ?_
  refine g_iconst (pc := 2) (v := 0) C dX1_tabCount_2 (by decide) ?_
  refine g_istore_n (pc := 3) (i := 3) C dX1_tabCount_3 rfl (Nat.le_of_ble_eq_true rfl) rfl ?_
  refine g_keep [true, true, true, true] ?_
  exact bX1_tabCount_4 C hr σ b hb FU p1 0 0
theorem dX1_moveToSpot_0 : decode cX1_moveToSpot 0 = .ok (.aload_n 0, 1) := by decide +kernel
theorem dX1_moveToSpot_1 : decode cX1_moveToSpot 1 = .ok (.iload_n 1, 1) := by decide +kernel
theorem dX1_moveToSpot_2 : decode cX1_moveToSpot 2 = .ok (.invokevirtual 155, 3) := by decide +kernel
theorem dX1_moveToSpot_5 : decode cX1_moveToSpot 5 = .ok (.istore_n 3, 1) := by decide +kernel
theorem dX1_moveToSpot_6 : decode cX1_moveToSpot 6 = .ok (.iconst 0, 1) := by decide +kernel
theorem dX1_moveToSpot_7 : decode cX1_moveToSpot 7 = .ok (.istore 4, 2) := by decide +kernel
theorem dX1_moveToSpot_9 : decode cX1_moveToSpot 9 = .ok (.iload 4, 2) := by decide +kernel
theorem dX1_moveToSpot_11 : decode cX1_moveToSpot 11 = .ok (.bipush 12, 2) := by decide +kernel
theorem dX1_moveToSpot_13 : decode cX1_moveToSpot 13 = .ok (.if_icmp .ge 86, 3) := by decide +kernel
theorem dX1_moveToSpot_16 : decode cX1_moveToSpot 16 = .ok (.aload_n 0, 1) := by decide +kernel
theorem dX1_moveToSpot_17 : decode cX1_moveToSpot 17 = .ok (.iload 4, 2) := by decide +kernel
theorem dX1_moveToSpot_19 : decode cX1_moveToSpot 19 = .ok (.invokevirtual 155, 3) := by decide +kernel
theorem dX1_moveToSpot_22 : decode cX1_moveToSpot 22 = .ok (.istore 5, 2) := by decide +kernel
theorem dX1_moveToSpot_24 : decode cX1_moveToSpot 24 = .ok (.aload_n 0, 1) := by decide +kernel
theorem dX1_moveToSpot_25 : decode cX1_moveToSpot 25 = .ok (.getfield 49, 3) := by decide +kernel
theorem dX1_moveToSpot_28 : decode cX1_moveToSpot 28 = .ok (.iload 4, 2) := by decide +kernel
theorem dX1_moveToSpot_30 : decode cX1_moveToSpot 30 = .ok (.invokestatic 72, 3) := by decide +kernel
theorem dX1_moveToSpot_33 : decode cX1_moveToSpot 33 = .ok (.aload_n 0, 1) := by decide +kernel
theorem dX1_moveToSpot_34 : decode cX1_moveToSpot 34 = .ok (.getfield 49, 3) := by decide +kernel
theorem dX1_moveToSpot_37 : decode cX1_moveToSpot 37 = .ok (.iload_n 1, 1) := by decide +kernel
theorem dX1_moveToSpot_38 : decode cX1_moveToSpot 38 = .ok (.invokestatic 72, 3) := by decide +kernel
theorem dX1_moveToSpot_41 : decode cX1_moveToSpot 41 = .ok (.if_icmp .ne 52, 3) := by decide +kernel
theorem dX1_moveToSpot_44 : decode cX1_moveToSpot 44 = .ok (.iload 5, 2) := by decide +kernel
theorem dX1_moveToSpot_46 : decode cX1_moveToSpot 46 = .ok (.iload_n 3, 1) := by decide +kernel
theorem dX1_moveToSpot_47 : decode cX1_moveToSpot 47 = .ok (.if_icmp .le 13, 3) := by decide +kernel
theorem dX1_moveToSpot_50 : decode cX1_moveToSpot 50 = .ok (.iload 5, 2) := by decide +kernel
theorem dX1_moveToSpot_52 : decode cX1_moveToSpot 52 = .ok (.iload_n 2, 1) := by decide +kernel
theorem dX1_moveToSpot_53 : decode cX1_moveToSpot 53 = .ok (.if_icmp .gt 7, 3) := by decide +kernel
theorem dX1_moveToSpot_56 : decode cX1_moveToSpot 56 = .ok (.iconst (-1), 1) := by decide +kernel
theorem dX1_moveToSpot_57 : decode cX1_moveToSpot 57 = .ok (.goto 20, 3) := by decide +kernel
theorem dX1_moveToSpot_60 : decode cX1_moveToSpot 60 = .ok (.iload 5, 2) := by decide +kernel
theorem dX1_moveToSpot_62 : decode cX1_moveToSpot 62 = .ok (.iload_n 3, 1) := by decide +kernel
theorem dX1_moveToSpot_63 : decode cX1_moveToSpot 63 = .ok (.if_icmp .ge 13, 3) := by decide +kernel
theorem dX1_moveToSpot_66 : decode cX1_moveToSpot 66 = .ok (.iload 5, 2) := by decide +kernel
theorem dX1_moveToSpot_68 : decode cX1_moveToSpot 68 = .ok (.iload_n 2, 1) := by decide +kernel
theorem dX1_moveToSpot_69 : decode cX1_moveToSpot 69 = .ok (.if_icmp .lt 7, 3) := by decide +kernel
theorem dX1_moveToSpot_72 : decode cX1_moveToSpot 72 = .ok (.iconst 1, 1) := by decide +kernel
theorem dX1_moveToSpot_73 : decode cX1_moveToSpot 73 = .ok (.goto 4, 3) := by decide +kernel
theorem dX1_moveToSpot_76 : decode cX1_moveToSpot 76 = .ok (.iconst 0, 1) := by decide +kernel
theorem dX1_moveToSpot_77 : decode cX1_moveToSpot 77 = .ok (.istore 6, 2) := by decide +kernel
theorem dX1_moveToSpot_79 : decode cX1_moveToSpot 79 = .ok (.aload_n 0, 1) := by decide +kernel
theorem dX1_moveToSpot_80 : decode cX1_moveToSpot 80 = .ok (.getfield 52, 3) := by decide +kernel
theorem dX1_moveToSpot_83 : decode cX1_moveToSpot 83 = .ok (.iload 4, 2) := by decide +kernel
theorem dX1_moveToSpot_85 : decode cX1_moveToSpot 85 = .ok (.iload 5, 2) := by decide +kernel
theorem dX1_moveToSpot_87 : decode cX1_moveToSpot 87 = .ok (.iload 6, 2) := by decide +kernel
theorem dX1_moveToSpot_89 : decode cX1_moveToSpot 89 = .ok (.iadd, 1) := by decide +kernel
theorem dX1_moveToSpot_90 : decode cX1_moveToSpot 90 = .ok (.invokestatic 76, 3) := by decide +kernel
theorem dX1_moveToSpot_93 : decode cX1_moveToSpot 93 = .ok (.iinc 4 1, 3) := by decide +kernel
theorem dX1_moveToSpot_96 : decode cX1_moveToSpot 96 = .ok (.goto (-87), 3) := by decide +kernel
theorem dX1_moveToSpot_99 : decode cX1_moveToSpot 99 = .ok (.aload_n 0, 1) := by decide +kernel
theorem dX1_moveToSpot_100 : decode cX1_moveToSpot 100 = .ok (.getfield 52, 3) := by decide +kernel
theorem dX1_moveToSpot_103 : decode cX1_moveToSpot 103 = .ok (.iload_n 1, 1) := by decide +kernel
theorem dX1_moveToSpot_104 : decode cX1_moveToSpot 104 = .ok (.iload_n 2, 1) := by decide +kernel
theorem dX1_moveToSpot_105 : decode cX1_moveToSpot 105 = .ok (.invokestatic 76, 3) := by decide +kernel
theorem dX1_moveToSpot_108 : decode cX1_moveToSpot 108 = .ok (.return_, 1) := by decide +kernel
abbrev rmX1_moveToSpot : Room := { frames := 2, cells := 0, slots := 0, locals := 42 }
theorem hdX1_moveToSpot : yX1_moveToSpot.cls ≠ "java/lang/invoke/MethodHandle" ∧ yX1_moveToSpot.cls ≠ "java/lang/invoke/VarHandle" ∧ (parseMethodDescriptor yX1_moveToSpot.desc).map (fun d => d.parameters.length) = some 2 := by decide +kernel
def fX1_moveToSpot_93 (b : Nat) (k9 : Sg → Int32 → Int32 → Int32 → Int32 → Option Sg) (σ : Sg) (l1 : Int32) (l2 : Int32) (l3 : Int32) (l4 : Int32) : Option Sg :=
  (k9 σ l1 l2 l3 (l4 + 1))
theorem bX1_moveToSpot_93 {X : Xc} {K : Kc} (C : MC X K cX1_moveToSpot 7 RX1 rmX1_moveToSpot) (hr : K.meth.sig.returnType = none) (b : Nat) (hb : plOK b){k9 : Sg → Int32 → Int32 → Int32 → Int32 → Option Sg} (hk9 : ∀ (σ : Sg) (l1 : Int32) (l2 : Int32) (l3 : Int32) (l4 : Int32), GO X K 7 (fun r => MQv X K r) (k9 σ l1 l2 l3 l4) σ 0 0 9 [some (.ref (X.ad b)), some (.int (l1)), some (.int (l2)), some (.int (l3)), some (.int (l4)), none, none] []) (σ : Sg) (l1 : Int32) (l2 : Int32) (l3 : Int32) (l4 : Int32) : GO X K 7 (fun r => MQv X K r) (fX1_moveToSpot_93 b k9 σ l1 l2 l3 l4) σ 0 0 93 [some (.ref (X.ad b)), some (.int (l1)), some (.int (l2)), some (.int (l3)), some (.int (l4)), none, none] [] := by
  unfold fX1_moveToSpot_93
  refine g_iinc (pc := 93) (v := l4 + 1) C dX1_moveToSpot_93 rfl (rfl) (Nat.le_of_ble_eq_true rfl) rfl ?_
  refine g_goto (pc := 96) (tgt := 9) C dX1_moveToSpot_96 rfl ?_
  refine g_keep [true, true, true, true, true, false, false] ?_
  exact hk9 σ l1 l2 l3 (l4 + 1)
def fX1_moveToSpot_77 (b : Nat) (k9 : Sg → Int32 → Int32 → Int32 → Int32 → Option Sg) (σ : Sg) (l1 : Int32) (l2 : Int32) (l3 : Int32) (l4 : Int32) (l5 : Int32) (s0 : Int32) : Option Sg :=
  (fX8_put σ (b + 14) 12 l4 (l5 + s0)).bind fun σ6 =>
  (fX1_moveToSpot_93 b k9 σ6 l1 l2 l3 l4)
theorem bX1_moveToSpot_77 {X : Xc} {K : Kc} (C : MC X K cX1_moveToSpot 7 RX1 rmX1_moveToSpot) (hr : K.meth.sig.returnType = none) (b : Nat) (hb : plOK b){k9 : Sg → Int32 → Int32 → Int32 → Int32 → Option Sg} (hk9 : ∀ (σ : Sg) (l1 : Int32) (l2 : Int32) (l3 : Int32) (l4 : Int32), GO X K 7 (fun r => MQv X K r) (k9 σ l1 l2 l3 l4) σ 0 0 9 [some (.ref (X.ad b)), some (.int (l1)), some (.int (l2)), some (.int (l3)), some (.int (l4)), none, none] []) (σ : Sg) (l1 : Int32) (l2 : Int32) (l3 : Int32) (l4 : Int32) (l5 : Int32) (s0 : Int32) : GO X K 7 (fun r => MQv X K r) (fX1_moveToSpot_77 b k9 σ l1 l2 l3 l4 l5 s0) σ 0 0 77 [some (.ref (X.ad b)), some (.int (l1)), some (.int (l2)), some (.int (l3)), some (.int (l4)), some (.int (l5)), none] [.int (s0)] := by
  unfold fX1_moveToSpot_77
  refine g_istore (pc := 77) C dX1_moveToSpot_77 (Nat.le_of_ble_eq_true rfl) rfl ?_
  refine g_aload_n (pc := 79) (i := 0) C dX1_moveToSpot_79 rfl rfl ?_
  refine g_getr (pc := 80) (ci := 1) (N := 14) (T := TX1) (j := 12) (Cn := RX1) (b + 14) C rfl inlX1 (Nat.le_of_ble_eq_true rfl) q_3_23 (blk hb 0 rfl) rfl dX1_moveToSpot_80 ?_
  refine g_iload (pc := 83) C dX1_moveToSpot_83 rfl ?_
  refine g_iload (pc := 85) C dX1_moveToSpot_85 rfl ?_
  refine g_iload (pc := 87) C dX1_moveToSpot_87 rfl ?_
  refine g_iadd (pc := 89) C dX1_moveToSpot_89 ?_
  refine g_callNv (pc := 90) (As := [.ref (X.ad (b + 14)), .int (l4), .int (l5 + s0)]) C (kX8_put X σ (b + 14) 12 l4 (l5 + s0) (blk hb 14 rfl)) (List.mem_of_getElem? (i := 5) rfl) q_9_20 q_1_2 q_9_21 hdX8_put ⟨Nat.le_of_ble_eq_true rfl, Nat.le_of_ble_eq_true rfl, rfl, rfl⟩ ⟨Nat.zero_le _, Nat.zero_le _⟩ (Nat.le_of_ble_eq_true rfl) rfl rfl dX1_moveToSpot_90 (fun σ6 _ => ?_)
  refine g_keep [true, true, true, true, true, false, false] ?_
  exact bX1_moveToSpot_93 C hr b hb hk9 σ6 l1 l2 l3 l4
def fX1_moveToSpot_76 (b : Nat) (k9 : Sg → Int32 → Int32 → Int32 → Int32 → Option Sg) (σ : Sg) (l1 : Int32) (l2 : Int32) (l3 : Int32) (l4 : Int32) (l5 : Int32) : Option Sg :=
  (fX1_moveToSpot_77 b k9 σ l1 l2 l3 l4 l5 0)
theorem bX1_moveToSpot_76 {X : Xc} {K : Kc} (C : MC X K cX1_moveToSpot 7 RX1 rmX1_moveToSpot) (hr : K.meth.sig.returnType = none) (b : Nat) (hb : plOK b){k9 : Sg → Int32 → Int32 → Int32 → Int32 → Option Sg} (hk9 : ∀ (σ : Sg) (l1 : Int32) (l2 : Int32) (l3 : Int32) (l4 : Int32), GO X K 7 (fun r => MQv X K r) (k9 σ l1 l2 l3 l4) σ 0 0 9 [some (.ref (X.ad b)), some (.int (l1)), some (.int (l2)), some (.int (l3)), some (.int (l4)), none, none] []) (σ : Sg) (l1 : Int32) (l2 : Int32) (l3 : Int32) (l4 : Int32) (l5 : Int32) : GO X K 7 (fun r => MQv X K r) (fX1_moveToSpot_76 b k9 σ l1 l2 l3 l4 l5) σ 0 0 76 [some (.ref (X.ad b)), some (.int (l1)), some (.int (l2)), some (.int (l3)), some (.int (l4)), some (.int (l5)), none] [] := by
  unfold fX1_moveToSpot_76
  refine g_iconst (pc := 76) (v := 0) C dX1_moveToSpot_76 (by decide) ?_
  refine g_keep [true, true, true, true, true, true, false] ?_
  exact bX1_moveToSpot_77 C hr b hb hk9 σ l1 l2 l3 l4 l5 0
def fX1_moveToSpot_60 (b : Nat) (k9 : Sg → Int32 → Int32 → Int32 → Int32 → Option Sg) (σ : Sg) (l1 : Int32) (l2 : Int32) (l3 : Int32) (l4 : Int32) (l5 : Int32) : Option Sg :=
  if l3 ≤ l5 then
    (fX1_moveToSpot_76 b k9 σ l1 l2 l3 l4 l5)
  else
    if l5 < l2 then
      (fX1_moveToSpot_76 b k9 σ l1 l2 l3 l4 l5)
    else
      (fX1_moveToSpot_77 b k9 σ l1 l2 l3 l4 l5 1)
theorem bX1_moveToSpot_60 {X : Xc} {K : Kc} (C : MC X K cX1_moveToSpot 7 RX1 rmX1_moveToSpot) (hr : K.meth.sig.returnType = none) (b : Nat) (hb : plOK b){k9 : Sg → Int32 → Int32 → Int32 → Int32 → Option Sg} (hk9 : ∀ (σ : Sg) (l1 : Int32) (l2 : Int32) (l3 : Int32) (l4 : Int32), GO X K 7 (fun r => MQv X K r) (k9 σ l1 l2 l3 l4) σ 0 0 9 [some (.ref (X.ad b)), some (.int (l1)), some (.int (l2)), some (.int (l3)), some (.int (l4)), none, none] []) (σ : Sg) (l1 : Int32) (l2 : Int32) (l3 : Int32) (l4 : Int32) (l5 : Int32) : GO X K 7 (fun r => MQv X K r) (fX1_moveToSpot_60 b k9 σ l1 l2 l3 l4 l5) σ 0 0 60 [some (.ref (X.ad b)), some (.int (l1)), some (.int (l2)), some (.int (l3)), some (.int (l4)), some (.int (l5)), none] [] := by
  unfold fX1_moveToSpot_60
  refine g_iload (pc := 60) C dX1_moveToSpot_60 rfl ?_
  refine g_iload_n (pc := 62) (i := 3) C dX1_moveToSpot_62 rfl rfl ?_
  refine g_icmp_ge (pc := 63) (tgt := 76) C dX1_moveToSpot_63 rfl ?_ ?_
  · refine g_keep [true, true, true, true, true, true, false] ?_
    exact bX1_moveToSpot_76 C hr b hb hk9 σ l1 l2 l3 l4 l5
  · refine g_iload (pc := 66) C dX1_moveToSpot_66 rfl ?_
    refine g_iload_n (pc := 68) (i := 2) C dX1_moveToSpot_68 rfl rfl ?_
    refine g_icmp_lt (pc := 69) (tgt := 76) C dX1_moveToSpot_69 rfl ?_ ?_
    · refine g_keep [true, true, true, true, true, true, false] ?_
      exact bX1_moveToSpot_76 C hr b hb hk9 σ l1 l2 l3 l4 l5
    · refine g_iconst (pc := 72) (v := 1) C dX1_moveToSpot_72 (by decide) ?_
      refine g_goto (pc := 73) (tgt := 77) C dX1_moveToSpot_73 rfl ?_
      refine g_keep [true, true, true, true, true, true, false] ?_
      exact bX1_moveToSpot_77 C hr b hb hk9 σ l1 l2 l3 l4 l5 1
def fX1_moveToSpot_9 (b : Nat) : Nat → Sg → Int32 → Int32 → Int32 → Int32 → Option Sg
  | 0, _, _, _, _, _ => none
  | n + 1, σ, l1, l2, l3, l4 =>
    if 12 ≤ l4 then
      (fX8_put σ (b + 14) 12 l1 l2).bind fun σ2 =>
      some σ2
    else
      (fX1_spotOf σ b l4).bind fun r3 =>
      (fX8_at σ (b + 13) 12 l4).bind fun r4 =>
      (fX8_at σ (b + 13) 12 l1).bind fun r5 =>
      if r4 = r5 then
        if r3 ≤ l3 then
          (fX1_moveToSpot_60 b (fX1_moveToSpot_9 b n) σ l1 l2 l3 l4 r3)
        else
          if l2 < r3 then
            (fX1_moveToSpot_60 b (fX1_moveToSpot_9 b n) σ l1 l2 l3 l4 r3)
          else
            (fX1_moveToSpot_77 b (fX1_moveToSpot_9 b n) σ l1 l2 l3 l4 r3 (-1))
      else
        (fX1_moveToSpot_93 b (fX1_moveToSpot_9 b n) σ l1 l2 l3 l4)
theorem bX1_moveToSpot_9 {X : Xc} {K : Kc} (C : MC X K cX1_moveToSpot 7 RX1 rmX1_moveToSpot) (hr : K.meth.sig.returnType = none) (b : Nat) (hb : plOK b) : ∀ (n : Nat) (σ : Sg) (l1 : Int32) (l2 : Int32) (l3 : Int32) (l4 : Int32), GO X K 7 (fun r => MQv X K r) (fX1_moveToSpot_9 b n σ l1 l2 l3 l4) σ 0 0 9 [some (.ref (X.ad b)), some (.int (l1)), some (.int (l2)), some (.int (l3)), some (.int (l4)), none, none] [] := by
  intro n
  induction n with
  | zero =>
    intro σ l1 l2 l3 l4
    exact g_none
  | succ n ih =>
    intro σ l1 l2 l3 l4
    unfold fX1_moveToSpot_9
    refine g_iload (pc := 9) C dX1_moveToSpot_9 rfl ?_
    refine g_bipush (pc := 11) (v := 12) C dX1_moveToSpot_11 (by decide) ?_
    refine g_icmp_ge (pc := 13) (tgt := 99) C dX1_moveToSpot_13 rfl ?_ ?_
    · refine g_aload_n (pc := 99) (i := 0) C dX1_moveToSpot_99 rfl rfl ?_
      refine g_getr (pc := 100) (ci := 1) (N := 14) (T := TX1) (j := 12) (Cn := RX1) (b + 14) C rfl inlX1 (Nat.le_of_ble_eq_true rfl) q_3_23 (blk hb 0 rfl) rfl dX1_moveToSpot_100 ?_
      refine g_iload_n (pc := 103) (i := 1) C dX1_moveToSpot_103 rfl rfl ?_
      refine g_iload_n (pc := 104) (i := 2) C dX1_moveToSpot_104 rfl rfl ?_
      refine g_callNv (pc := 105) (As := [.ref (X.ad (b + 14)), .int (l1), .int (l2)]) C (kX8_put X σ (b + 14) 12 l1 l2 (blk hb 14 rfl)) (List.mem_of_getElem? (i := 5) rfl) q_9_20 q_1_2 q_9_21 hdX8_put ⟨Nat.le_of_ble_eq_true rfl, Nat.le_of_ble_eq_true rfl, rfl, rfl⟩ ⟨Nat.zero_le _, Nat.zero_le _⟩ (Nat.le_of_ble_eq_true rfl) rfl rfl dX1_moveToSpot_105 (fun σ2 _ => ?_)
      exact g_vret (pc := 108) C hr dX1_moveToSpot_108 rfl
    · refine g_aload_n (pc := 16) (i := 0) C dX1_moveToSpot_16 rfl rfl ?_
      refine g_iload (pc := 17) C dX1_moveToSpot_17 rfl ?_
      refine g_callVi (pc := 19) (As := [.int (l4)]) C (kX1_spotOf X σ b l4 hb) (blk hb 0 rfl) rfl q_12_4 q_12_5 q_12_6 q_2_23 q_12_7 ⟨rfl, hdX1_spotOf⟩ ⟨Nat.le_of_ble_eq_true rfl, Nat.le_of_ble_eq_true rfl, rfl, rfl⟩ ⟨Nat.zero_le _, Nat.zero_le _⟩ (Nat.le_of_ble_eq_true rfl) rfl rfl dX1_moveToSpot_19 (fun r3 _ => ?_)
      refine g_istore (pc := 22) C dX1_moveToSpot_22 (Nat.le_of_ble_eq_true rfl) rfl ?_
      refine g_aload_n (pc := 24) (i := 0) C dX1_moveToSpot_24 rfl rfl ?_
      refine g_getr (pc := 25) (ci := 1) (N := 14) (T := TX1) (j := 11) (Cn := RX1) (b + 13) C rfl inlX1 (Nat.le_of_ble_eq_true rfl) q_3_22 (blk hb 0 rfl) rfl dX1_moveToSpot_25 ?_
      refine g_iload (pc := 28) C dX1_moveToSpot_28 rfl ?_
      refine g_callNi (pc := 30) (As := [.ref (X.ad (b + 13)), .int (l4)]) C (kX8_at X σ (b + 13) 12 l4 (blk hb 13 rfl)) (List.mem_of_getElem? (i := 4) rfl) q_11_22 q_1_2 q_11_23 hdX8_at ⟨Nat.le_of_ble_eq_true rfl, Nat.le_of_ble_eq_true rfl, rfl, rfl⟩ ⟨Nat.zero_le _, Nat.zero_le _⟩ (Nat.le_of_ble_eq_true rfl) rfl rfl dX1_moveToSpot_30 (fun r4 _ => ?_)
      refine g_aload_n (pc := 33) (i := 0) C dX1_moveToSpot_33 rfl rfl ?_
      refine g_getr (pc := 34) (ci := 1) (N := 14) (T := TX1) (j := 11) (Cn := RX1) (b + 13) C rfl inlX1 (Nat.le_of_ble_eq_true rfl) q_3_22 (blk hb 0 rfl) rfl dX1_moveToSpot_34 ?_
      refine g_iload_n (pc := 37) (i := 1) C dX1_moveToSpot_37 rfl rfl ?_
      refine g_callNi (pc := 38) (As := [.ref (X.ad (b + 13)), .int (l1)]) C (kX8_at X σ (b + 13) 12 l1 (blk hb 13 rfl)) (List.mem_of_getElem? (i := 4) rfl) q_11_22 q_1_2 q_11_23 hdX8_at ⟨Nat.le_of_ble_eq_true rfl, Nat.le_of_ble_eq_true rfl, rfl, rfl⟩ ⟨Nat.zero_le _, Nat.zero_le _⟩ (Nat.le_of_ble_eq_true rfl) rfl rfl dX1_moveToSpot_38 (fun r5 _ => ?_)
      refine g_icmp_ne (pc := 41) (tgt := 93) C dX1_moveToSpot_41 rfl ?_ ?_
      · refine g_iload (pc := 44) C dX1_moveToSpot_44 rfl ?_
        refine g_iload_n (pc := 46) (i := 3) C dX1_moveToSpot_46 rfl rfl ?_
        refine g_icmp_le (pc := 47) (tgt := 60) C dX1_moveToSpot_47 rfl ?_ ?_
        · refine g_keep [true, true, true, true, true, true, false] ?_
          exact bX1_moveToSpot_60 C hr b hb ih σ l1 l2 l3 l4 r3
        · refine g_iload (pc := 50) C dX1_moveToSpot_50 rfl ?_
          refine g_iload_n (pc := 52) (i := 2) C dX1_moveToSpot_52 rfl rfl ?_
          refine g_icmp_gt (pc := 53) (tgt := 60) C dX1_moveToSpot_53 rfl ?_ ?_
          · refine g_keep [true, true, true, true, true, true, false] ?_
            exact bX1_moveToSpot_60 C hr b hb ih σ l1 l2 l3 l4 r3
          · refine g_iconst (pc := 56) (v := (-1)) C dX1_moveToSpot_56 (by decide) ?_
            refine g_goto (pc := 57) (tgt := 77) C dX1_moveToSpot_57 rfl ?_
            refine g_keep [true, true, true, true, true, true, false] ?_
            exact bX1_moveToSpot_77 C hr b hb ih σ l1 l2 l3 l4 r3 (-1)
      · refine g_keep [true, true, true, true, true, false, false] ?_
        exact bX1_moveToSpot_93 C hr b hb ih σ l1 l2 l3 l4
def fX1_moveToSpot (σ : Sg) (b : Nat) (p1 : Int32) (p2 : Int32) : Option Sg :=
  (fX1_spotOf σ b p1).bind fun r1 =>
  (fX1_moveToSpot_9 b FU σ p1 p2 r1 0)
theorem kX1_moveToSpot (X : Xc) (σ : Sg) (b : Nat) (p1 : Int32) (p2 : Int32) (hb : plOK b) : ∀ r, fX1_moveToSpot σ b p1 p2 = some r → Met X.l yX1_moveToSpot (wsM yX1_moveToSpot cX1_moveToSpot 7 none) rmX1_moveToSpot (va_Pc [.ref (X.ad b), .int p1, .int p2] (PW X σ)) (Qv X r) 0 0 X.A := by
  refine mt_of (own := RX1) (lo := [some (.ref (X.ad b)), some (.int (p1)), some (.int (p2)), none, none, none, none]) (by decide) rfl (Nat.le_of_ble_eq_true rfl) rfl (fun K C hr => ?_)
  unfold fX1_moveToSpot
  refine g_aload_n (pc := 0) (i := 0) C dX1_moveToSpot_0 rfl rfl ?_
  refine g_iload_n (pc := 1) (i := 1) C dX1_moveToSpot_1 rfl rfl ?_
  refine g_callVi (pc := 2) (As := [.int (p1)]) C (kX1_spotOf X σ b p1 hb) (blk hb 0 rfl) rfl q_12_4 q_12_5 q_12_6 q_2_23 q_12_7 ⟨rfl, hdX1_spotOf⟩ ⟨Nat.le_of_ble_eq_true rfl, Nat.le_of_ble_eq_true rfl, rfl, rfl⟩ ⟨Nat.zero_le _, Nat.zero_le _⟩ (Nat.le_of_ble_eq_true rfl) rfl rfl dX1_moveToSpot_2 (fun r1 _ => ?_)
  refine g_istore_n (pc := 5) (i := 3) C dX1_moveToSpot_5 rfl (Nat.le_of_ble_eq_true rfl) rfl ?_
  refine g_iconst (pc := 6) (v := 0) C dX1_moveToSpot_6 (by decide) ?_
  refine g_istore (pc := 7) C dX1_moveToSpot_7 (Nat.le_of_ble_eq_true rfl) rfl ?_
  refine g_keep [true, true, true, true, true, false, false] ?_
  exact bX1_moveToSpot_9 C hr b hb FU σ p1 p2 r1 0
theorem dX1_windowOf_0 : decode cX1_windowOf 0 = .ok (.iload_n 1, 1) := by decide +kernel
theorem dX1_windowOf_1 : decode cX1_windowOf 1 = .ok (.istore_n 2, 1) := by decide +kernel
theorem dX1_windowOf_2 : decode cX1_windowOf 2 = .ok (.iconst 0, 1) := by decide +kernel
theorem dX1_windowOf_3 : decode cX1_windowOf 3 = .ok (.istore_n 3, 1) := by decide +kernel
theorem dX1_windowOf_4 : decode cX1_windowOf 4 = .ok (.iload_n 3, 1) := by decide +kernel
theorem dX1_windowOf_5 : decode cX1_windowOf 5 = .ok (.bipush 23, 2) := by decide +kernel
theorem dX1_windowOf_7 : decode cX1_windowOf 7 = .ok (.if_icmp .ge 30, 3) := by decide +kernel
theorem dX1_windowOf_10 : decode cX1_windowOf 10 = .ok (.aload_n 0, 1) := by decide +kernel
theorem dX1_windowOf_11 : decode cX1_windowOf 11 = .ok (.getfield 37, 3) := by decide +kernel
theorem dX1_windowOf_14 : decode cX1_windowOf 14 = .ok (.iload_n 2, 1) := by decide +kernel
theorem dX1_windowOf_15 : decode cX1_windowOf 15 = .ok (.invokestatic 72, 3) := by decide +kernel
theorem dX1_windowOf_18 : decode cX1_windowOf 18 = .ok (.iconst (-1), 1) := by decide +kernel
theorem dX1_windowOf_19 : decode cX1_windowOf 19 = .ok (.if_icmp .eq 18, 3) := by decide +kernel
theorem dX1_windowOf_22 : decode cX1_windowOf 22 = .ok (.aload_n 0, 1) := by decide +kernel
theorem dX1_windowOf_23 : decode cX1_windowOf 23 = .ok (.getfield 37, 3) := by decide +kernel
theorem dX1_windowOf_26 : decode cX1_windowOf 26 = .ok (.iload_n 2, 1) := by decide +kernel
theorem dX1_windowOf_27 : decode cX1_windowOf 27 = .ok (.invokestatic 72, 3) := by decide +kernel
theorem dX1_windowOf_30 : decode cX1_windowOf 30 = .ok (.istore_n 2, 1) := by decide +kernel
theorem dX1_windowOf_31 : decode cX1_windowOf 31 = .ok (.iinc 3 1, 3) := by decide +kernel
theorem dX1_windowOf_34 : decode cX1_windowOf 34 = .ok (.goto (-30), 3) := by decide +kernel
theorem dX1_windowOf_37 : decode cX1_windowOf 37 = .ok (.iconst 0, 1) := by decide +kernel
theorem dX1_windowOf_38 : decode cX1_windowOf 38 = .ok (.istore_n 3, 1) := by decide +kernel
theorem dX1_windowOf_39 : decode cX1_windowOf 39 = .ok (.iload_n 3, 1) := by decide +kernel
theorem dX1_windowOf_40 : decode cX1_windowOf 40 = .ok (.iconst 5, 1) := by decide +kernel
theorem dX1_windowOf_41 : decode cX1_windowOf 41 = .ok (.if_icmp .ge 28, 3) := by decide +kernel
theorem dX1_windowOf_44 : decode cX1_windowOf 44 = .ok (.iload_n 2, 1) := by decide +kernel
theorem dX1_windowOf_45 : decode cX1_windowOf 45 = .ok (.iconst (-1), 1) := by decide +kernel
theorem dX1_windowOf_46 : decode cX1_windowOf 46 = .ok (.if_icmp .eq 23, 3) := by decide +kernel
theorem dX1_windowOf_49 : decode cX1_windowOf 49 = .ok (.aload_n 0, 1) := by decide +kernel
theorem dX1_windowOf_50 : decode cX1_windowOf 50 = .ok (.getfield 24, 3) := by decide +kernel
theorem dX1_windowOf_53 : decode cX1_windowOf 53 = .ok (.iload_n 3, 1) := by decide +kernel
theorem dX1_windowOf_54 : decode cX1_windowOf 54 = .ok (.invokestatic 72, 3) := by decide +kernel
theorem dX1_windowOf_57 : decode cX1_windowOf 57 = .ok (.iload_n 2, 1) := by decide +kernel
theorem dX1_windowOf_58 : decode cX1_windowOf 58 = .ok (.if_icmp .ne 5, 3) := by decide +kernel
theorem dX1_windowOf_61 : decode cX1_windowOf 61 = .ok (.iload_n 3, 1) := by decide +kernel
theorem dX1_windowOf_62 : decode cX1_windowOf 62 = .ok (.ireturn, 1) := by decide +kernel
theorem dX1_windowOf_63 : decode cX1_windowOf 63 = .ok (.iinc 3 1, 3) := by decide +kernel
theorem dX1_windowOf_66 : decode cX1_windowOf 66 = .ok (.goto (-27), 3) := by decide +kernel
theorem dX1_windowOf_69 : decode cX1_windowOf 69 = .ok (.iconst (-1), 1) := by decide +kernel
theorem dX1_windowOf_70 : decode cX1_windowOf 70 = .ok (.ireturn, 1) := by decide +kernel
abbrev rmX1_windowOf : Room := { frames := 1, cells := 0, slots := 0, locals := 21 }
theorem hdX1_windowOf : yX1_windowOf.cls ≠ "java/lang/invoke/MethodHandle" ∧ yX1_windowOf.cls ≠ "java/lang/invoke/VarHandle" ∧ (parseMethodDescriptor yX1_windowOf.desc).map (fun d => d.parameters.length) = some 1 := by decide +kernel
def fX1_windowOf_39 (σ : Sg) (b : Nat) : Nat → Int32 → Int32 → Option Int32
  | 0, _, _ => none
  | n + 1, l2, l3 =>
    if 5 ≤ l3 then
      some (-1)
    else
      if l2 = (-1) then
        some (-1)
      else
        (fX8_at σ (b + 5) 5 l3).bind fun r3 =>
        if r3 = l2 then
          some l3
        else
          ((fX1_windowOf_39 σ b n) l2 (l3 + 1))
theorem bX1_windowOf_39 {X : Xc} {K : Kc} (C : MC X K cX1_windowOf 4 RX1 rmX1_windowOf) (hr : K.meth.sig.returnType = (some .int)) (σ : Sg) (b : Nat) (hb : plOK b) : ∀ (n : Nat) (l2 : Int32) (l3 : Int32), GO X K 4 (fun r => MQi X K r σ) (fX1_windowOf_39 σ b n l2 l3) σ 0 0 39 [some (.ref (X.ad b)), none, some (.int (l2)), some (.int (l3))] [] := by
  intro n
  induction n with
  | zero =>
    intro l2 l3
    exact g_none
  | succ n ih =>
    intro l2 l3
    unfold fX1_windowOf_39
    refine g_iload_n (pc := 39) (i := 3) C dX1_windowOf_39 rfl rfl ?_
    refine g_iconst (pc := 40) (v := 5) C dX1_windowOf_40 (by decide) ?_
    refine g_icmp_ge (pc := 41) (tgt := 69) C dX1_windowOf_41 rfl ?_ ?_
    · refine g_iconst (pc := 69) (v := (-1)) C dX1_windowOf_69 (by decide) ?_
      exact g_iret (pc := 70) C hr dX1_windowOf_70 rfl
    · refine g_iload_n (pc := 44) (i := 2) C dX1_windowOf_44 rfl rfl ?_
      refine g_iconst (pc := 45) (v := (-1)) C dX1_windowOf_45 (by decide) ?_
      refine g_icmp_eq (pc := 46) (tgt := 69) C dX1_windowOf_46 rfl ?_ ?_
      · refine g_iconst (pc := 69) (v := (-1)) C dX1_windowOf_69 (by decide) ?_
        exact g_iret (pc := 70) C hr dX1_windowOf_70 rfl
      · refine g_aload_n (pc := 49) (i := 0) C dX1_windowOf_49 rfl rfl ?_
        refine g_getr (pc := 50) (ci := 1) (N := 14) (T := TX1) (j := 4) (Cn := RX1) (b + 5) C rfl inlX1 (Nat.le_of_ble_eq_true rfl) q_3_14 (blk hb 0 rfl) rfl dX1_windowOf_50 ?_
        refine g_iload_n (pc := 53) (i := 3) C dX1_windowOf_53 rfl rfl ?_
        refine g_callNi (pc := 54) (As := [.ref (X.ad (b + 5)), .int (l3)]) C (kX8_at X σ (b + 5) 5 l3 (blk hb 5 rfl)) (List.mem_of_getElem? (i := 4) rfl) q_11_22 q_1_2 q_11_23 hdX8_at ⟨Nat.le_of_ble_eq_true rfl, Nat.le_of_ble_eq_true rfl, rfl, rfl⟩ ⟨Nat.zero_le _, Nat.zero_le _⟩ (Nat.le_of_ble_eq_true rfl) rfl rfl dX1_windowOf_54 (fun r3 _ => ?_)
        refine g_iload_n (pc := 57) (i := 2) C dX1_windowOf_57 rfl rfl ?_
        refine g_icmp_ne (pc := 58) (tgt := 63) C dX1_windowOf_58 rfl ?_ ?_
        · refine g_iload_n (pc := 61) (i := 3) C dX1_windowOf_61 rfl rfl ?_
          exact g_iret (pc := 62) C hr dX1_windowOf_62 rfl
        · refine g_iinc (pc := 63) (v := l3 + 1) C dX1_windowOf_63 rfl (rfl) (Nat.le_of_ble_eq_true rfl) rfl ?_
          refine g_goto (pc := 66) (tgt := 39) C dX1_windowOf_66 rfl ?_
          refine g_keep [true, false, true, true] ?_
          exact ih l2 (l3 + 1)
def fX1_windowOf_37 (σ : Sg) (b : Nat) (l2 : Int32) : Option Int32 :=
  (fX1_windowOf_39 σ b FU l2 0)
theorem bX1_windowOf_37 {X : Xc} {K : Kc} (C : MC X K cX1_windowOf 4 RX1 rmX1_windowOf) (hr : K.meth.sig.returnType = (some .int)) (σ : Sg) (b : Nat) (hb : plOK b) (l2 : Int32) : GO X K 4 (fun r => MQi X K r σ) (fX1_windowOf_37 σ b l2) σ 0 0 37 [some (.ref (X.ad b)), none, some (.int (l2)), none] [] := by
  unfold fX1_windowOf_37
  refine g_iconst (pc := 37) (v := 0) C dX1_windowOf_37 (by decide) ?_
  refine g_istore_n (pc := 38) (i := 3) C dX1_windowOf_38 rfl (Nat.le_of_ble_eq_true rfl) rfl ?_
  refine g_keep [true, false, true, true] ?_
  exact bX1_windowOf_39 C hr σ b hb FU l2 0
def fX1_windowOf_4 (σ : Sg) (b : Nat) : Nat → Int32 → Int32 → Option Int32
  | 0, _, _ => none
  | n + 1, l2, l3 =>
    if 23 ≤ l3 then
      (fX1_windowOf_37 σ b l2)
    else
      (fX8_at σ (b + 9) 23 l2).bind fun r1 =>
      if r1 = (-1) then
        (fX1_windowOf_37 σ b l2)
      else
        (fX8_at σ (b + 9) 23 l2).bind fun r2 =>
        ((fX1_windowOf_4 σ b n) r2 (l3 + 1))
theorem bX1_windowOf_4 {X : Xc} {K : Kc} (C : MC X K cX1_windowOf 4 RX1 rmX1_windowOf) (hr : K.meth.sig.returnType = (some .int)) (σ : Sg) (b : Nat) (hb : plOK b) : ∀ (n : Nat) (l2 : Int32) (l3 : Int32), GO X K 4 (fun r => MQi X K r σ) (fX1_windowOf_4 σ b n l2 l3) σ 0 0 4 [some (.ref (X.ad b)), none, some (.int (l2)), some (.int (l3))] [] := by
  intro n
  induction n with
  | zero =>
    intro l2 l3
    exact g_none
  | succ n ih =>
    intro l2 l3
    unfold fX1_windowOf_4
    refine g_iload_n (pc := 4) (i := 3) C dX1_windowOf_4 rfl rfl ?_
    refine g_bipush (pc := 5) (v := 23) C dX1_windowOf_5 (by decide) ?_
    refine g_icmp_ge (pc := 7) (tgt := 37) C dX1_windowOf_7 rfl ?_ ?_
    · refine g_keep [true, false, true, false] ?_
      exact bX1_windowOf_37 C hr σ b hb l2
    · refine g_aload_n (pc := 10) (i := 0) C dX1_windowOf_10 rfl rfl ?_
      refine g_getr (pc := 11) (ci := 1) (N := 14) (T := TX1) (j := 7) (Cn := RX1) (b + 9) C rfl inlX1 (Nat.le_of_ble_eq_true rfl) q_3_18 (blk hb 0 rfl) rfl dX1_windowOf_11 ?_
      refine g_iload_n (pc := 14) (i := 2) C dX1_windowOf_14 rfl rfl ?_
      refine g_callNi (pc := 15) (As := [.ref (X.ad (b + 9)), .int (l2)]) C (kX8_at X σ (b + 9) 23 l2 (blk hb 9 rfl)) (List.mem_of_getElem? (i := 4) rfl) q_11_22 q_1_2 q_11_23 hdX8_at ⟨Nat.le_of_ble_eq_true rfl, Nat.le_of_ble_eq_true rfl, rfl, rfl⟩ ⟨Nat.zero_le _, Nat.zero_le _⟩ (Nat.le_of_ble_eq_true rfl) rfl rfl dX1_windowOf_15 (fun r1 _ => ?_)
      refine g_iconst (pc := 18) (v := (-1)) C dX1_windowOf_18 (by decide) ?_
      refine g_icmp_eq (pc := 19) (tgt := 37) C dX1_windowOf_19 rfl ?_ ?_
      · refine g_keep [true, false, true, false] ?_
        exact bX1_windowOf_37 C hr σ b hb l2
      · refine g_aload_n (pc := 22) (i := 0) C dX1_windowOf_22 rfl rfl ?_
        refine g_getr (pc := 23) (ci := 1) (N := 14) (T := TX1) (j := 7) (Cn := RX1) (b + 9) C rfl inlX1 (Nat.le_of_ble_eq_true rfl) q_3_18 (blk hb 0 rfl) rfl dX1_windowOf_23 ?_
        refine g_iload_n (pc := 26) (i := 2) C dX1_windowOf_26 rfl rfl ?_
        refine g_callNi (pc := 27) (As := [.ref (X.ad (b + 9)), .int (l2)]) C (kX8_at X σ (b + 9) 23 l2 (blk hb 9 rfl)) (List.mem_of_getElem? (i := 4) rfl) q_11_22 q_1_2 q_11_23 hdX8_at ⟨Nat.le_of_ble_eq_true rfl, Nat.le_of_ble_eq_true rfl, rfl, rfl⟩ ⟨Nat.zero_le _, Nat.zero_le _⟩ (Nat.le_of_ble_eq_true rfl) rfl rfl dX1_windowOf_27 (fun r2 _ => ?_)
        refine g_istore_n (pc := 30) (i := 2) C dX1_windowOf_30 rfl (Nat.le_of_ble_eq_true rfl) rfl ?_
        refine g_iinc (pc := 31) (v := l3 + 1) C dX1_windowOf_31 rfl (rfl) (Nat.le_of_ble_eq_true rfl) rfl ?_
        refine g_goto (pc := 34) (tgt := 4) C dX1_windowOf_34 rfl ?_
        refine g_keep [true, false, true, true] ?_
        exact ih r2 (l3 + 1)
def fX1_windowOf (σ : Sg) (b : Nat) (p1 : Int32) : Option Int32 :=
  (fX1_windowOf_4 σ b FU p1 0)
theorem kX1_windowOf (X : Xc) (σ : Sg) (b : Nat) (p1 : Int32) (hb : plOK b) : ∀ r, fX1_windowOf σ b p1 = some r → Met X.l yX1_windowOf (wsM yX1_windowOf cX1_windowOf 4 (some .int)) rmX1_windowOf (va_Pc [.ref (X.ad b), .int p1] (PW X σ)) (Qi X r σ) 0 0 X.A := by
  refine mt_of (own := RX1) (lo := [some (.ref (X.ad b)), some (.int (p1)), none, none]) (by decide) rfl (Nat.le_of_ble_eq_true rfl) rfl (fun K C hr => ?_)
  unfold fX1_windowOf
  refine g_iload_n (pc := 0) (i := 1) C dX1_windowOf_0 rfl rfl ?_
  refine g_istore_n (pc := 1) (i := 2) C dX1_windowOf_1 rfl (Nat.le_of_ble_eq_true rfl) rfl ?_
  refine g_iconst (pc := 2) (v := 0) C dX1_windowOf_2 (by decide) ?_
  refine g_istore_n (pc := 3) (i := 3) C dX1_windowOf_3 rfl (Nat.le_of_ble_eq_true rfl) rfl ?_
  refine g_keep [true, false, true, true] ?_
  exact bX1_windowOf_4 C hr σ b hb FU p1 0
theorem dX1_shiftChildren_0 : decode cX1_shiftChildren 0 = .ok (.iconst 0, 1) := by decide +kernel
theorem dX1_shiftChildren_1 : decode cX1_shiftChildren 1 = .ok (.istore 4, 2) := by decide +kernel
theorem dX1_shiftChildren_3 : decode cX1_shiftChildren 3 = .ok (.iload 4, 2) := by decide +kernel
theorem dX1_shiftChildren_5 : decode cX1_shiftChildren 5 = .ok (.bipush 23, 2) := by decide +kernel
theorem dX1_shiftChildren_7 : decode cX1_shiftChildren 7 = .ok (.if_icmp .ge 60, 3) := by decide +kernel
theorem dX1_shiftChildren_10 : decode cX1_shiftChildren 10 = .ok (.iload_n 1, 1) := by decide +kernel
theorem dX1_shiftChildren_11 : decode cX1_shiftChildren 11 = .ok (.iconst (-1), 1) := by decide +kernel
theorem dX1_shiftChildren_12 : decode cX1_shiftChildren 12 = .ok (.if_icmp .eq 55, 3) := by decide +kernel
theorem dX1_shiftChildren_15 : decode cX1_shiftChildren 15 = .ok (.aload_n 0, 1) := by decide +kernel
theorem dX1_shiftChildren_16 : decode cX1_shiftChildren 16 = .ok (.getfield 37, 3) := by decide +kernel
theorem dX1_shiftChildren_19 : decode cX1_shiftChildren 19 = .ok (.iload 4, 2) := by decide +kernel
theorem dX1_shiftChildren_21 : decode cX1_shiftChildren 21 = .ok (.invokestatic 72, 3) := by decide +kernel
theorem dX1_shiftChildren_24 : decode cX1_shiftChildren 24 = .ok (.iload_n 1, 1) := by decide +kernel
theorem dX1_shiftChildren_25 : decode cX1_shiftChildren 25 = .ok (.if_icmp .ne 36, 3) := by decide +kernel
theorem dX1_shiftChildren_28 : decode cX1_shiftChildren 28 = .ok (.aload_n 0, 1) := by decide +kernel
theorem dX1_shiftChildren_29 : decode cX1_shiftChildren 29 = .ok (.getfield 40, 3) := by decide +kernel
theorem dX1_shiftChildren_32 : decode cX1_shiftChildren 32 = .ok (.iload 4, 2) := by decide +kernel
theorem dX1_shiftChildren_34 : decode cX1_shiftChildren 34 = .ok (.invokestatic 72, 3) := by decide +kernel
theorem dX1_shiftChildren_37 : decode cX1_shiftChildren 37 = .ok (.iload_n 2, 1) := by decide +kernel
theorem dX1_shiftChildren_38 : decode cX1_shiftChildren 38 = .ok (.if_icmp .lt 23, 3) := by decide +kernel
theorem dX1_shiftChildren_41 : decode cX1_shiftChildren 41 = .ok (.aload_n 0, 1) := by decide +kernel
theorem dX1_shiftChildren_42 : decode cX1_shiftChildren 42 = .ok (.getfield 40, 3) := by decide +kernel
theorem dX1_shiftChildren_45 : decode cX1_shiftChildren 45 = .ok (.iload 4, 2) := by decide +kernel
theorem dX1_shiftChildren_47 : decode cX1_shiftChildren 47 = .ok (.aload_n 0, 1) := by decide +kernel
theorem dX1_shiftChildren_48 : decode cX1_shiftChildren 48 = .ok (.getfield 40, 3) := by decide +kernel
theorem dX1_shiftChildren_51 : decode cX1_shiftChildren 51 = .ok (.iload 4, 2) := by decide +kernel
theorem dX1_shiftChildren_53 : decode cX1_shiftChildren 53 = .ok (.invokestatic 72, 3) := by decide +kernel
theorem dX1_shiftChildren_56 : decode cX1_shiftChildren 56 = .ok (.iload_n 3, 1) := by decide +kernel
theorem dX1_shiftChildren_57 : decode cX1_shiftChildren 57 = .ok (.iadd, 1) := by decide +kernel
theorem dX1_shiftChildren_58 : decode cX1_shiftChildren 58 = .ok (.invokestatic 76, 3) := by decide +kernel
theorem dX1_shiftChildren_61 : decode cX1_shiftChildren 61 = .ok (.iinc 4 1, 3) := by decide +kernel
theorem dX1_shiftChildren_64 : decode cX1_shiftChildren 64 = .ok (.goto (-61), 3) := by decide +kernel
theorem dX1_shiftChildren_67 : decode cX1_shiftChildren 67 = .ok (.return_, 1) := by decide +kernel
abbrev rmX1_shiftChildren : Room := { frames := 1, cells := 0, slots := 0, locals := 22 }
theorem hdX1_shiftChildren : yX1_shiftChildren.cls ≠ "java/lang/invoke/MethodHandle" ∧ yX1_shiftChildren.cls ≠ "java/lang/invoke/VarHandle" ∧ (parseMethodDescriptor yX1_shiftChildren.desc).map (fun d => d.parameters.length) = some 3 := by decide +kernel
def fX1_shiftChildren_61 (b : Nat) (k3 : Sg → Int32 → Int32 → Int32 → Int32 → Option Sg) (σ : Sg) (l1 : Int32) (l2 : Int32) (l3 : Int32) (l4 : Int32) : Option Sg :=
  (k3 σ l1 l2 l3 (l4 + 1))
theorem bX1_shiftChildren_61 {X : Xc} {K : Kc} (C : MC X K cX1_shiftChildren 5 RX1 rmX1_shiftChildren) (hr : K.meth.sig.returnType = none) (b : Nat) (hb : plOK b){k3 : Sg → Int32 → Int32 → Int32 → Int32 → Option Sg} (hk3 : ∀ (σ : Sg) (l1 : Int32) (l2 : Int32) (l3 : Int32) (l4 : Int32), GO X K 5 (fun r => MQv X K r) (k3 σ l1 l2 l3 l4) σ 0 0 3 [some (.ref (X.ad b)), some (.int (l1)), some (.int (l2)), some (.int (l3)), some (.int (l4))] []) (σ : Sg) (l1 : Int32) (l2 : Int32) (l3 : Int32) (l4 : Int32) : GO X K 5 (fun r => MQv X K r) (fX1_shiftChildren_61 b k3 σ l1 l2 l3 l4) σ 0 0 61 [some (.ref (X.ad b)), some (.int (l1)), some (.int (l2)), some (.int (l3)), some (.int (l4))] [] := by
  unfold fX1_shiftChildren_61
  refine g_iinc (pc := 61) (v := l4 + 1) C dX1_shiftChildren_61 rfl (rfl) (Nat.le_of_ble_eq_true rfl) rfl ?_
  refine g_goto (pc := 64) (tgt := 3) C dX1_shiftChildren_64 rfl ?_
  refine g_keep [true, true, true, true, true] ?_
  exact hk3 σ l1 l2 l3 (l4 + 1)
def fX1_shiftChildren_3 (b : Nat) : Nat → Sg → Int32 → Int32 → Int32 → Int32 → Option Sg
  | 0, _, _, _, _, _ => none
  | n + 1, σ, l1, l2, l3, l4 =>
    if 23 ≤ l4 then
      some σ
    else
      if l1 = (-1) then
        some σ
      else
        (fX8_at σ (b + 9) 23 l4).bind fun r1 =>
        if r1 = l1 then
          (fX8_at σ (b + 10) 23 l4).bind fun r2 =>
          if r2 < l2 then
            (fX1_shiftChildren_61 b (fX1_shiftChildren_3 b n) σ l1 l2 l3 l4)
          else
            (fX8_at σ (b + 10) 23 l4).bind fun r3 =>
            (fX8_put σ (b + 10) 23 l4 (r3 + l3)).bind fun σ4 =>
            (fX1_shiftChildren_61 b (fX1_shiftChildren_3 b n) σ4 l1 l2 l3 l4)
        else
          (fX1_shiftChildren_61 b (fX1_shiftChildren_3 b n) σ l1 l2 l3 l4)
theorem bX1_shiftChildren_3 {X : Xc} {K : Kc} (C : MC X K cX1_shiftChildren 5 RX1 rmX1_shiftChildren) (hr : K.meth.sig.returnType = none) (b : Nat) (hb : plOK b) : ∀ (n : Nat) (σ : Sg) (l1 : Int32) (l2 : Int32) (l3 : Int32) (l4 : Int32), GO X K 5 (fun r => MQv X K r) (fX1_shiftChildren_3 b n σ l1 l2 l3 l4) σ 0 0 3 [some (.ref (X.ad b)), some (.int (l1)), some (.int (l2)), some (.int (l3)), some (.int (l4))] [] := by
  intro n
  induction n with
  | zero =>
    intro σ l1 l2 l3 l4
    exact g_none
  | succ n ih =>
    intro σ l1 l2 l3 l4
    unfold fX1_shiftChildren_3
    refine g_iload (pc := 3) C dX1_shiftChildren_3 rfl ?_
    refine g_bipush (pc := 5) (v := 23) C dX1_shiftChildren_5 (by decide) ?_
    refine g_icmp_ge (pc := 7) (tgt := 67) C dX1_shiftChildren_7 rfl ?_ ?_
    · exact g_vret (pc := 67) C hr dX1_shiftChildren_67 rfl
    · refine g_iload_n (pc := 10) (i := 1) C dX1_shiftChildren_10 rfl rfl ?_
      refine g_iconst (pc := 11) (v := (-1)) C dX1_shiftChildren_11 (by decide) ?_
      refine g_icmp_eq (pc := 12) (tgt := 67) C dX1_shiftChildren_12 rfl ?_ ?_
      · exact g_vret (pc := 67) C hr dX1_shiftChildren_67 rfl
      · refine g_aload_n (pc := 15) (i := 0) C dX1_shiftChildren_15 rfl rfl ?_
        refine g_getr (pc := 16) (ci := 1) (N := 14) (T := TX1) (j := 7) (Cn := RX1) (b + 9) C rfl inlX1 (Nat.le_of_ble_eq_true rfl) q_3_18 (blk hb 0 rfl) rfl dX1_shiftChildren_16 ?_
        refine g_iload (pc := 19) C dX1_shiftChildren_19 rfl ?_
        refine g_callNi (pc := 21) (As := [.ref (X.ad (b + 9)), .int (l4)]) C (kX8_at X σ (b + 9) 23 l4 (blk hb 9 rfl)) (List.mem_of_getElem? (i := 4) rfl) q_11_22 q_1_2 q_11_23 hdX8_at ⟨Nat.le_of_ble_eq_true rfl, Nat.le_of_ble_eq_true rfl, rfl, rfl⟩ ⟨Nat.zero_le _, Nat.zero_le _⟩ (Nat.le_of_ble_eq_true rfl) rfl rfl dX1_shiftChildren_21 (fun r1 _ => ?_)
        refine g_iload_n (pc := 24) (i := 1) C dX1_shiftChildren_24 rfl rfl ?_
        refine g_icmp_ne (pc := 25) (tgt := 61) C dX1_shiftChildren_25 rfl ?_ ?_
        · refine g_aload_n (pc := 28) (i := 0) C dX1_shiftChildren_28 rfl rfl ?_
          refine g_getr (pc := 29) (ci := 1) (N := 14) (T := TX1) (j := 8) (Cn := RX1) (b + 10) C rfl inlX1 (Nat.le_of_ble_eq_true rfl) q_3_19 (blk hb 0 rfl) rfl dX1_shiftChildren_29 ?_
          refine g_iload (pc := 32) C dX1_shiftChildren_32 rfl ?_
          refine g_callNi (pc := 34) (As := [.ref (X.ad (b + 10)), .int (l4)]) C (kX8_at X σ (b + 10) 23 l4 (blk hb 10 rfl)) (List.mem_of_getElem? (i := 4) rfl) q_11_22 q_1_2 q_11_23 hdX8_at ⟨Nat.le_of_ble_eq_true rfl, Nat.le_of_ble_eq_true rfl, rfl, rfl⟩ ⟨Nat.zero_le _, Nat.zero_le _⟩ (Nat.le_of_ble_eq_true rfl) rfl rfl dX1_shiftChildren_34 (fun r2 _ => ?_)
          refine g_iload_n (pc := 37) (i := 2) C dX1_shiftChildren_37 rfl rfl ?_
          refine g_icmp_lt (pc := 38) (tgt := 61) C dX1_shiftChildren_38 rfl ?_ ?_
          · refine g_keep [true, true, true, true, true] ?_
            exact bX1_shiftChildren_61 C hr b hb ih σ l1 l2 l3 l4
          · refine g_aload_n (pc := 41) (i := 0) C dX1_shiftChildren_41 rfl rfl ?_
            refine g_getr (pc := 42) (ci := 1) (N := 14) (T := TX1) (j := 8) (Cn := RX1) (b + 10) C rfl inlX1 (Nat.le_of_ble_eq_true rfl) q_3_19 (blk hb 0 rfl) rfl dX1_shiftChildren_42 ?_
            refine g_iload (pc := 45) C dX1_shiftChildren_45 rfl ?_
            refine g_aload_n (pc := 47) (i := 0) C dX1_shiftChildren_47 rfl rfl ?_
            refine g_getr (pc := 48) (ci := 1) (N := 14) (T := TX1) (j := 8) (Cn := RX1) (b + 10) C rfl inlX1 (Nat.le_of_ble_eq_true rfl) q_3_19 (blk hb 0 rfl) rfl dX1_shiftChildren_48 ?_
            refine g_iload (pc := 51) C dX1_shiftChildren_51 rfl ?_
            refine g_callNi (pc := 53) (As := [.ref (X.ad (b + 10)), .int (l4)]) C (kX8_at X σ (b + 10) 23 l4 (blk hb 10 rfl)) (List.mem_of_getElem? (i := 4) rfl) q_11_22 q_1_2 q_11_23 hdX8_at ⟨Nat.le_of_ble_eq_true rfl, Nat.le_of_ble_eq_true rfl, rfl, rfl⟩ ⟨Nat.zero_le _, Nat.zero_le _⟩ (Nat.le_of_ble_eq_true rfl) rfl rfl dX1_shiftChildren_53 (fun r3 _ => ?_)
            refine g_iload_n (pc := 56) (i := 3) C dX1_shiftChildren_56 rfl rfl ?_
            refine g_iadd (pc := 57) C dX1_shiftChildren_57 ?_
            refine g_callNv (pc := 58) (As := [.ref (X.ad (b + 10)), .int (l4), .int (r3 + l3)]) C (kX8_put X σ (b + 10) 23 l4 (r3 + l3) (blk hb 10 rfl)) (List.mem_of_getElem? (i := 5) rfl) q_9_20 q_1_2 q_9_21 hdX8_put ⟨Nat.le_of_ble_eq_true rfl, Nat.le_of_ble_eq_true rfl, rfl, rfl⟩ ⟨Nat.zero_le _, Nat.zero_le _⟩ (Nat.le_of_ble_eq_true rfl) rfl rfl dX1_shiftChildren_58 (fun σ4 _ => ?_)
            refine g_keep [true, true, true, true, true] ?_
            exact bX1_shiftChildren_61 C hr b hb ih σ4 l1 l2 l3 l4
        · refine g_keep [true, true, true, true, true] ?_
          exact bX1_shiftChildren_61 C hr b hb ih σ l1 l2 l3 l4
def fX1_shiftChildren (σ : Sg) (b : Nat) (p1 : Int32) (p2 : Int32) (p3 : Int32) : Option Sg :=
  (fX1_shiftChildren_3 b FU σ p1 p2 p3 0)
theorem kX1_shiftChildren (X : Xc) (σ : Sg) (b : Nat) (p1 : Int32) (p2 : Int32) (p3 : Int32) (hb : plOK b) : ∀ r, fX1_shiftChildren σ b p1 p2 p3 = some r → Met X.l yX1_shiftChildren (wsM yX1_shiftChildren cX1_shiftChildren 5 none) rmX1_shiftChildren (va_Pc [.ref (X.ad b), .int p1, .int p2, .int p3] (PW X σ)) (Qv X r) 0 0 X.A := by
  refine mt_of (own := RX1) (lo := [some (.ref (X.ad b)), some (.int (p1)), some (.int (p2)), some (.int (p3)), none]) (by decide) rfl (Nat.le_of_ble_eq_true rfl) rfl (fun K C hr => ?_)
  unfold fX1_shiftChildren
  refine g_iconst (pc := 0) (v := 0) C dX1_shiftChildren_0 (by decide) ?_
  refine g_istore (pc := 1) C dX1_shiftChildren_1 (Nat.le_of_ble_eq_true rfl) rfl ?_
  refine g_keep [true, true, true, true, true] ?_
  exact bX1_shiftChildren_3 C hr b hb FU σ p1 p2 p3 0
theorem dX1_detach_0 : decode cX1_detach 0 = .ok (.aload_n 0, 1) := by decide +kernel
theorem dX1_detach_1 : decode cX1_detach 1 = .ok (.getfield 37, 3) := by decide +kernel
theorem dX1_detach_4 : decode cX1_detach 4 = .ok (.iload_n 1, 1) := by decide +kernel
theorem dX1_detach_5 : decode cX1_detach 5 = .ok (.invokestatic 72, 3) := by decide +kernel
theorem dX1_detach_8 : decode cX1_detach 8 = .ok (.istore_n 2, 1) := by decide +kernel
theorem dX1_detach_9 : decode cX1_detach 9 = .ok (.aload_n 0, 1) := by decide +kernel
theorem dX1_detach_10 : decode cX1_detach 10 = .ok (.getfield 37, 3) := by decide +kernel
theorem dX1_detach_13 : decode cX1_detach 13 = .ok (.iload_n 1, 1) := by decide +kernel
theorem dX1_detach_14 : decode cX1_detach 14 = .ok (.iconst (-1), 1) := by decide +kernel
theorem dX1_detach_15 : decode cX1_detach 15 = .ok (.invokestatic 76, 3) := by decide +kernel
theorem dX1_detach_18 : decode cX1_detach 18 = .ok (.aload_n 0, 1) := by decide +kernel
theorem dX1_detach_19 : decode cX1_detach 19 = .ok (.iload_n 2, 1) := by decide +kernel
theorem dX1_detach_20 : decode cX1_detach 20 = .ok (.aload_n 0, 1) := by decide +kernel
theorem dX1_detach_21 : decode cX1_detach 21 = .ok (.getfield 40, 3) := by decide +kernel
theorem dX1_detach_24 : decode cX1_detach 24 = .ok (.iload_n 1, 1) := by decide +kernel
theorem dX1_detach_25 : decode cX1_detach 25 = .ok (.invokestatic 72, 3) := by decide +kernel
theorem dX1_detach_28 : decode cX1_detach 28 = .ok (.iconst (-1), 1) := by decide +kernel
theorem dX1_detach_29 : decode cX1_detach 29 = .ok (.invokevirtual 101, 3) := by decide +kernel
theorem dX1_detach_32 : decode cX1_detach 32 = .ok (.return_, 1) := by decide +kernel
abbrev rmX1_detach : Room := { frames := 2, cells := 0, slots := 0, locals := 46 }
theorem hdX1_detach : yX1_detach.cls ≠ "java/lang/invoke/MethodHandle" ∧ yX1_detach.cls ≠ "java/lang/invoke/VarHandle" ∧ (parseMethodDescriptor yX1_detach.desc).map (fun d => d.parameters.length) = some 1 := by decide +kernel
def fX1_detach (σ : Sg) (b : Nat) (p1 : Int32) : Option Sg :=
  (fX8_at σ (b + 9) 23 p1).bind fun r1 =>
  (fX8_put σ (b + 9) 23 p1 (-1)).bind fun σ2 =>
  (fX8_at σ2 (b + 10) 23 p1).bind fun r3 =>
  (fX1_shiftChildren σ2 b r1 r3 (-1)).bind fun σ4 =>
  some σ4
theorem kX1_detach (X : Xc) (σ : Sg) (b : Nat) (p1 : Int32) (hb : plOK b) : ∀ r, fX1_detach σ b p1 = some r → Met X.l yX1_detach (wsM yX1_detach cX1_detach 3 none) rmX1_detach (va_Pc [.ref (X.ad b), .int p1] (PW X σ)) (Qv X r) 0 0 X.A := by
  refine mt_of (own := RX1) (lo := [some (.ref (X.ad b)), some (.int (p1)), none]) (by decide) rfl (Nat.le_of_ble_eq_true rfl) rfl (fun K C hr => ?_)
  unfold fX1_detach
  refine g_aload_n (pc := 0) (i := 0) C dX1_detach_0 rfl rfl ?_
  refine g_getr (pc := 1) (ci := 1) (N := 14) (T := TX1) (j := 7) (Cn := RX1) (b + 9) C rfl inlX1 (Nat.le_of_ble_eq_true rfl) q_3_18 (blk hb 0 rfl) rfl dX1_detach_1 ?_
  refine g_iload_n (pc := 4) (i := 1) C dX1_detach_4 rfl rfl ?_
  refine g_callNi (pc := 5) (As := [.ref (X.ad (b + 9)), .int (p1)]) C (kX8_at X σ (b + 9) 23 p1 (blk hb 9 rfl)) (List.mem_of_getElem? (i := 4) rfl) q_11_22 q_1_2 q_11_23 hdX8_at ⟨Nat.le_of_ble_eq_true rfl, Nat.le_of_ble_eq_true rfl, rfl, rfl⟩ ⟨Nat.zero_le _, Nat.zero_le _⟩ (Nat.le_of_ble_eq_true rfl) rfl rfl dX1_detach_5 (fun r1 _ => ?_)
  refine g_istore_n (pc := 8) (i := 2) C dX1_detach_8 rfl (Nat.le_of_ble_eq_true rfl) rfl ?_
  refine g_aload_n (pc := 9) (i := 0) C dX1_detach_9 rfl rfl ?_
  refine g_getr (pc := 10) (ci := 1) (N := 14) (T := TX1) (j := 7) (Cn := RX1) (b + 9) C rfl inlX1 (Nat.le_of_ble_eq_true rfl) q_3_18 (blk hb 0 rfl) rfl dX1_detach_10 ?_
  refine g_iload_n (pc := 13) (i := 1) C dX1_detach_13 rfl rfl ?_
  refine g_iconst (pc := 14) (v := (-1)) C dX1_detach_14 (by decide) ?_
  refine g_callNv (pc := 15) (As := [.ref (X.ad (b + 9)), .int (p1), .int ((-1))]) C (kX8_put X σ (b + 9) 23 p1 (-1) (blk hb 9 rfl)) (List.mem_of_getElem? (i := 5) rfl) q_9_20 q_1_2 q_9_21 hdX8_put ⟨Nat.le_of_ble_eq_true rfl, Nat.le_of_ble_eq_true rfl, rfl, rfl⟩ ⟨Nat.zero_le _, Nat.zero_le _⟩ (Nat.le_of_ble_eq_true rfl) rfl rfl dX1_detach_15 (fun σ2 _ => ?_)
  refine g_aload_n (pc := 18) (i := 0) C dX1_detach_18 rfl rfl ?_
  refine g_iload_n (pc := 19) (i := 2) C dX1_detach_19 rfl rfl ?_
  refine g_aload_n (pc := 20) (i := 0) C dX1_detach_20 rfl rfl ?_
  refine g_getr (pc := 21) (ci := 1) (N := 14) (T := TX1) (j := 8) (Cn := RX1) (b + 10) C rfl inlX1 (Nat.le_of_ble_eq_true rfl) q_3_19 (blk hb 0 rfl) rfl dX1_detach_21 ?_
  refine g_iload_n (pc := 24) (i := 1) C dX1_detach_24 rfl rfl ?_
  refine g_callNi (pc := 25) (As := [.ref (X.ad (b + 10)), .int (p1)]) C (kX8_at X σ2 (b + 10) 23 p1 (blk hb 10 rfl)) (List.mem_of_getElem? (i := 4) rfl) q_11_22 q_1_2 q_11_23 hdX8_at ⟨Nat.le_of_ble_eq_true rfl, Nat.le_of_ble_eq_true rfl, rfl, rfl⟩ ⟨Nat.zero_le _, Nat.zero_le _⟩ (Nat.le_of_ble_eq_true rfl) rfl rfl dX1_detach_25 (fun r3 _ => ?_)
  refine g_iconst (pc := 28) (v := (-1)) C dX1_detach_28 (by decide) ?_
  refine g_callVv (pc := 29) (As := [.int (r1), .int (r3), .int ((-1))]) C (kX1_shiftChildren X σ2 b r1 r3 (-1) hb) (blk hb 0 rfl) rfl q_14_0 q_14_1 q_14_2 q_2_23 q_14_3 ⟨rfl, hdX1_shiftChildren⟩ ⟨Nat.le_of_ble_eq_true rfl, Nat.le_of_ble_eq_true rfl, rfl, rfl⟩ ⟨Nat.zero_le _, Nat.zero_le _⟩ (Nat.le_of_ble_eq_true rfl) rfl rfl dX1_detach_29 (fun σ4 _ => ?_)
  exact g_vret (pc := 32) C hr dX1_detach_32 rfl
theorem dX1_freeNode_0 : decode cX1_freeNode 0 = .ok (.aload_n 0, 1) := by decide +kernel
theorem dX1_freeNode_1 : decode cX1_freeNode 1 = .ok (.getfield 34, 3) := by decide +kernel
theorem dX1_freeNode_4 : decode cX1_freeNode 4 = .ok (.iload_n 1, 1) := by decide +kernel
theorem dX1_freeNode_5 : decode cX1_freeNode 5 = .ok (.iconst 3, 1) := by decide +kernel
theorem dX1_freeNode_6 : decode cX1_freeNode 6 = .ok (.invokestatic 76, 3) := by decide +kernel
theorem dX1_freeNode_9 : decode cX1_freeNode 9 = .ok (.return_, 1) := by decide +kernel
abbrev rmX1_freeNode : Room := { frames := 1, cells := 0, slots := 0, locals := 22 }
theorem hdX1_freeNode : yX1_freeNode.cls ≠ "java/lang/invoke/MethodHandle" ∧ yX1_freeNode.cls ≠ "java/lang/invoke/VarHandle" ∧ (parseMethodDescriptor yX1_freeNode.desc).map (fun d => d.parameters.length) = some 1 := by decide +kernel
def fX1_freeNode (σ : Sg) (b : Nat) (p1 : Int32) : Option Sg :=
  (fX8_put σ (b + 8) 23 p1 3).bind fun σ1 =>
  some σ1
theorem kX1_freeNode (X : Xc) (σ : Sg) (b : Nat) (p1 : Int32) (hb : plOK b) : ∀ r, fX1_freeNode σ b p1 = some r → Met X.l yX1_freeNode (wsM yX1_freeNode cX1_freeNode 2 none) rmX1_freeNode (va_Pc [.ref (X.ad b), .int p1] (PW X σ)) (Qv X r) 0 0 X.A := by
  refine mt_of (own := RX1) (lo := [some (.ref (X.ad b)), some (.int (p1))]) (by decide) rfl (Nat.le_of_ble_eq_true rfl) rfl (fun K C hr => ?_)
  unfold fX1_freeNode
  refine g_aload_n (pc := 0) (i := 0) C dX1_freeNode_0 rfl rfl ?_
  refine g_getr (pc := 1) (ci := 1) (N := 14) (T := TX1) (j := 6) (Cn := RX1) (b + 8) C rfl inlX1 (Nat.le_of_ble_eq_true rfl) q_3_17 (blk hb 0 rfl) rfl dX1_freeNode_1 ?_
  refine g_iload_n (pc := 4) (i := 1) C dX1_freeNode_4 rfl rfl ?_
  refine g_iconst (pc := 5) (v := 3) C dX1_freeNode_5 (by decide) ?_
  refine g_callNv (pc := 6) (As := [.ref (X.ad (b + 8)), .int (p1), .int (3)]) C (kX8_put X σ (b + 8) 23 p1 3 (blk hb 8 rfl)) (List.mem_of_getElem? (i := 5) rfl) q_9_20 q_1_2 q_9_21 hdX8_put ⟨Nat.le_of_ble_eq_true rfl, Nat.le_of_ble_eq_true rfl, rfl, rfl⟩ ⟨Nat.zero_le _, Nat.zero_le _⟩ (Nat.le_of_ble_eq_true rfl) rfl rfl dX1_freeNode_6 (fun σ1 _ => ?_)
  exact g_vret (pc := 9) C hr dX1_freeNode_9 rfl
theorem dX1_childCount_0 : decode cX1_childCount 0 = .ok (.iconst 0, 1) := by decide +kernel
theorem dX1_childCount_1 : decode cX1_childCount 1 = .ok (.istore_n 2, 1) := by decide +kernel
theorem dX1_childCount_2 : decode cX1_childCount 2 = .ok (.iconst 0, 1) := by decide +kernel
theorem dX1_childCount_3 : decode cX1_childCount 3 = .ok (.istore_n 3, 1) := by decide +kernel
theorem dX1_childCount_4 : decode cX1_childCount 4 = .ok (.iload_n 3, 1) := by decide +kernel
theorem dX1_childCount_5 : decode cX1_childCount 5 = .ok (.bipush 23, 2) := by decide +kernel
theorem dX1_childCount_7 : decode cX1_childCount 7 = .ok (.if_icmp .ge 34, 3) := by decide +kernel
theorem dX1_childCount_10 : decode cX1_childCount 10 = .ok (.iload_n 1, 1) := by decide +kernel
theorem dX1_childCount_11 : decode cX1_childCount 11 = .ok (.iconst (-1), 1) := by decide +kernel
theorem dX1_childCount_12 : decode cX1_childCount 12 = .ok (.if_icmp .eq 29, 3) := by decide +kernel
theorem dX1_childCount_15 : decode cX1_childCount 15 = .ok (.iload_n 2, 1) := by decide +kernel
theorem dX1_childCount_16 : decode cX1_childCount 16 = .ok (.aload_n 0, 1) := by decide +kernel
theorem dX1_childCount_17 : decode cX1_childCount 17 = .ok (.getfield 37, 3) := by decide +kernel
theorem dX1_childCount_20 : decode cX1_childCount 20 = .ok (.iload_n 3, 1) := by decide +kernel
theorem dX1_childCount_21 : decode cX1_childCount 21 = .ok (.invokestatic 72, 3) := by decide +kernel
theorem dX1_childCount_24 : decode cX1_childCount 24 = .ok (.iload_n 1, 1) := by decide +kernel
theorem dX1_childCount_25 : decode cX1_childCount 25 = .ok (.if_icmp .ne 7, 3) := by decide +kernel
theorem dX1_childCount_28 : decode cX1_childCount 28 = .ok (.iconst 1, 1) := by decide +kernel
theorem dX1_childCount_29 : decode cX1_childCount 29 = .ok (.goto 4, 3) := by decide +kernel
theorem dX1_childCount_32 : decode cX1_childCount 32 = .ok (.iconst 0, 1) := by decide +kernel
theorem dX1_childCount_33 : decode cX1_childCount 33 = .ok (.iadd, 1) := by decide +kernel
theorem dX1_childCount_34 : decode cX1_childCount 34 = .ok (.istore_n 2, 1) := by decide +kernel
theorem dX1_childCount_35 : decode cX1_childCount 35 = .ok (.iinc 3 1, 3) := by decide +kernel
theorem dX1_childCount_38 : decode cX1_childCount 38 = .ok (.goto (-34), 3) := by decide +kernel
theorem dX1_childCount_41 : decode cX1_childCount 41 = .ok (.iload_n 2, 1) := by decide +kernel
theorem dX1_childCount_42 : decode cX1_childCount 42 = .ok (.ireturn, 1) := by decide +kernel
abbrev rmX1_childCount : Room := { frames := 1, cells := 0, slots := 0, locals := 21 }
theorem hdX1_childCount : yX1_childCount.cls ≠ "java/lang/invoke/MethodHandle" ∧ yX1_childCount.cls ≠ "java/lang/invoke/VarHandle" ∧ (parseMethodDescriptor yX1_childCount.desc).map (fun d => d.parameters.length) = some 1 := by decide +kernel
def fX1_childCount_33 (σ : Sg) (b : Nat) (k4 : Int32 → Int32 → Int32 → Option Int32) (l1 : Int32) (l3 : Int32) (s0 : Int32) (s1 : Int32) : Option Int32 :=
  nm (s0 + s1) fun v2 =>
  (k4 l1 v2 (l3 + 1))
theorem bX1_childCount_33 {X : Xc} {K : Kc} (C : MC X K cX1_childCount 4 RX1 rmX1_childCount) (hr : K.meth.sig.returnType = (some .int)) (σ : Sg) (b : Nat) (hb : plOK b){k4 : Int32 → Int32 → Int32 → Option Int32} (hk4 : ∀ (l1 : Int32) (l2 : Int32) (l3 : Int32), GO X K 4 (fun r => MQi X K r σ) (k4 l1 l2 l3) σ 0 0 4 [some (.ref (X.ad b)), some (.int (l1)), some (.int (l2)), some (.int (l3))] []) (l1 : Int32) (l3 : Int32) (s0 : Int32) (s1 : Int32) : GO X K 4 (fun r => MQi X K r σ) (fX1_childCount_33 σ b k4 l1 l3 s0 s1) σ 0 0 33 [some (.ref (X.ad b)), some (.int (l1)), none, some (.int (l3))] [.int (s1), .int (s0)] := by
  unfold fX1_childCount_33
  refine g_iadd (pc := 33) C dX1_childCount_33 ?_
  refine g_nm (fun v2 => ?_)
  refine g_istore_n (pc := 34) (i := 2) C dX1_childCount_34 rfl (Nat.le_of_ble_eq_true rfl) rfl ?_
  refine g_iinc (pc := 35) (v := l3 + 1) C dX1_childCount_35 rfl (rfl) (Nat.le_of_ble_eq_true rfl) rfl ?_
  refine g_goto (pc := 38) (tgt := 4) C dX1_childCount_38 rfl ?_
  refine g_keep [true, true, true, true] ?_
  exact hk4 l1 v2 (l3 + 1)
def fX1_childCount_4 (σ : Sg) (b : Nat) : Nat → Int32 → Int32 → Int32 → Option Int32
  | 0, _, _, _ => none
  | n + 1, l1, l2, l3 =>
    if 23 ≤ l3 then
      some l2
    else
      if l1 = (-1) then
        some l2
      else
        (fX8_at σ (b + 9) 23 l3).bind fun r1 =>
        if r1 = l1 then
          (fX1_childCount_33 σ b (fX1_childCount_4 σ b n) l1 l3 l2 1)
        else
          (fX1_childCount_33 σ b (fX1_childCount_4 σ b n) l1 l3 l2 0)
theorem bX1_childCount_4 {X : Xc} {K : Kc} (C : MC X K cX1_childCount 4 RX1 rmX1_childCount) (hr : K.meth.sig.returnType = (some .int)) (σ : Sg) (b : Nat) (hb : plOK b) : ∀ (n : Nat) (l1 : Int32) (l2 : Int32) (l3 : Int32), GO X K 4 (fun r => MQi X K r σ) (fX1_childCount_4 σ b n l1 l2 l3) σ 0 0 4 [some (.ref (X.ad b)), some (.int (l1)), some (.int (l2)), some (.int (l3))] [] := by
  intro n
  induction n with
  | zero =>
    intro l1 l2 l3
    exact g_none
  | succ n ih =>
    intro l1 l2 l3
    unfold fX1_childCount_4
    refine g_iload_n (pc := 4) (i := 3) C dX1_childCount_4 rfl rfl ?_
    refine g_bipush (pc := 5) (v := 23) C dX1_childCount_5 (by decide) ?_
    refine g_icmp_ge (pc := 7) (tgt := 41) C dX1_childCount_7 rfl ?_ ?_
    · refine g_iload_n (pc := 41) (i := 2) C dX1_childCount_41 rfl rfl ?_
      exact g_iret (pc := 42) C hr dX1_childCount_42 rfl
    · refine g_iload_n (pc := 10) (i := 1) C dX1_childCount_10 rfl rfl ?_
      refine g_iconst (pc := 11) (v := (-1)) C dX1_childCount_11 (by decide) ?_
      refine g_icmp_eq (pc := 12) (tgt := 41) C dX1_childCount_12 rfl ?_ ?_
      · refine g_iload_n (pc := 41) (i := 2) C dX1_childCount_41 rfl rfl ?_
        exact g_iret (pc := 42) C hr dX1_childCount_42 rfl
      · refine g_iload_n (pc := 15) (i := 2) C dX1_childCount_15 rfl rfl ?_
        refine g_aload_n (pc := 16) (i := 0) C dX1_childCount_16 rfl rfl ?_
        refine g_getr (pc := 17) (ci := 1) (N := 14) (T := TX1) (j := 7) (Cn := RX1) (b + 9) C rfl inlX1 (Nat.le_of_ble_eq_true rfl) q_3_18 (blk hb 0 rfl) rfl dX1_childCount_17 ?_
        refine g_iload_n (pc := 20) (i := 3) C dX1_childCount_20 rfl rfl ?_
        refine g_callNi (pc := 21) (As := [.ref (X.ad (b + 9)), .int (l3)]) C (kX8_at X σ (b + 9) 23 l3 (blk hb 9 rfl)) (List.mem_of_getElem? (i := 4) rfl) q_11_22 q_1_2 q_11_23 hdX8_at ⟨Nat.le_of_ble_eq_true rfl, Nat.le_of_ble_eq_true rfl, rfl, rfl⟩ ⟨Nat.zero_le _, Nat.zero_le _⟩ (Nat.le_of_ble_eq_true rfl) rfl rfl dX1_childCount_21 (fun r1 _ => ?_)
        refine g_iload_n (pc := 24) (i := 1) C dX1_childCount_24 rfl rfl ?_
        refine g_icmp_ne (pc := 25) (tgt := 32) C dX1_childCount_25 rfl ?_ ?_
        · refine g_iconst (pc := 28) (v := 1) C dX1_childCount_28 (by decide) ?_
          refine g_goto (pc := 29) (tgt := 33) C dX1_childCount_29 rfl ?_
          refine g_keep [true, true, false, true] ?_
          exact bX1_childCount_33 C hr σ b hb ih l1 l3 l2 1
        · refine g_iconst (pc := 32) (v := 0) C dX1_childCount_32 (by decide) ?_
          refine g_keep [true, true, false, true] ?_
          exact bX1_childCount_33 C hr σ b hb ih l1 l3 l2 0
def fX1_childCount (σ : Sg) (b : Nat) (p1 : Int32) : Option Int32 :=
  (fX1_childCount_4 σ b FU p1 0 0)
theorem kX1_childCount (X : Xc) (σ : Sg) (b : Nat) (p1 : Int32) (hb : plOK b) : ∀ r, fX1_childCount σ b p1 = some r → Met X.l yX1_childCount (wsM yX1_childCount cX1_childCount 4 (some .int)) rmX1_childCount (va_Pc [.ref (X.ad b), .int p1] (PW X σ)) (Qi X r σ) 0 0 X.A := by
  refine mt_of (own := RX1) (lo := [some (.ref (X.ad b)), some (.int (p1)), none, none]) (by decide) rfl (Nat.le_of_ble_eq_true rfl) rfl (fun K C hr => ?_)
  unfold fX1_childCount
  refine g_iconst (pc := 0) (v := 0) C dX1_childCount_0 (by decide) ?_
  refine g_istore_n (pc := 1) (i := 2) C dX1_childCount_1 rfl (Nat.le_of_ble_eq_true rfl) rfl ?_
  refine g_iconst (pc := 2) (v := 0) C dX1_childCount_2 (by decide) ?_
  refine g_istore_n (pc := 3) (i := 3) C dX1_childCount_3 rfl (Nat.le_of_ble_eq_true rfl) rfl ?_
  refine g_keep [true, true, true, true] ?_
  exact bX1_childCount_4 C hr σ b hb FU p1 0 0
theorem dX1_childAt_0 : decode cX1_childAt 0 = .ok (.iconst 0, 1) := by decide +kernel
theorem dX1_childAt_1 : decode cX1_childAt 1 = .ok (.istore_n 3, 1) := by decide +kernel
theorem dX1_childAt_2 : decode cX1_childAt 2 = .ok (.iload_n 3, 1) := by decide +kernel
theorem dX1_childAt_3 : decode cX1_childAt 3 = .ok (.bipush 23, 2) := by decide +kernel
theorem dX1_childAt_5 : decode cX1_childAt 5 = .ok (.if_icmp .ge 40, 3) := by decide +kernel
theorem dX1_childAt_8 : decode cX1_childAt 8 = .ok (.iload_n 1, 1) := by decide +kernel
theorem dX1_childAt_9 : decode cX1_childAt 9 = .ok (.iconst (-1), 1) := by decide +kernel
theorem dX1_childAt_10 : decode cX1_childAt 10 = .ok (.if_icmp .eq 35, 3) := by decide +kernel
theorem dX1_childAt_13 : decode cX1_childAt 13 = .ok (.aload_n 0, 1) := by decide +kernel
theorem dX1_childAt_14 : decode cX1_childAt 14 = .ok (.getfield 37, 3) := by decide +kernel
theorem dX1_childAt_17 : decode cX1_childAt 17 = .ok (.iload_n 3, 1) := by decide +kernel
theorem dX1_childAt_18 : decode cX1_childAt 18 = .ok (.invokestatic 72, 3) := by decide +kernel
theorem dX1_childAt_21 : decode cX1_childAt 21 = .ok (.iload_n 1, 1) := by decide +kernel
theorem dX1_childAt_22 : decode cX1_childAt 22 = .ok (.if_icmp .ne 17, 3) := by decide +kernel
theorem dX1_childAt_25 : decode cX1_childAt 25 = .ok (.aload_n 0, 1) := by decide +kernel
theorem dX1_childAt_26 : decode cX1_childAt 26 = .ok (.getfield 40, 3) := by decide +kernel
theorem dX1_childAt_29 : decode cX1_childAt 29 = .ok (.iload_n 3, 1) := by decide +kernel
theorem dX1_childAt_30 : decode cX1_childAt 30 = .ok (.invokestatic 72, 3) := by decide +kernel
theorem dX1_childAt_33 : decode cX1_childAt 33 = .ok (.iload_n 2, 1) := by decide +kernel
theorem dX1_childAt_34 : decode cX1_childAt 34 = .ok (.if_icmp .ne 5, 3) := by decide +kernel
theorem dX1_childAt_37 : decode cX1_childAt 37 = .ok (.iload_n 3, 1) := by decide +kernel
theorem dX1_childAt_38 : decode cX1_childAt 38 = .ok (.ireturn, 1) := by decide +kernel
theorem dX1_childAt_39 : decode cX1_childAt 39 = .ok (.iinc 3 1, 3) := by decide +kernel
theorem dX1_childAt_42 : decode cX1_childAt 42 = .ok (.goto (-40), 3) := by decide +kernel
theorem dX1_childAt_45 : decode cX1_childAt 45 = .ok (.iconst (-1), 1) := by decide +kernel
theorem dX1_childAt_46 : decode cX1_childAt 46 = .ok (.ireturn, 1) := by decide +kernel
abbrev rmX1_childAt : Room := { frames := 1, cells := 0, slots := 0, locals := 21 }
theorem hdX1_childAt : yX1_childAt.cls ≠ "java/lang/invoke/MethodHandle" ∧ yX1_childAt.cls ≠ "java/lang/invoke/VarHandle" ∧ (parseMethodDescriptor yX1_childAt.desc).map (fun d => d.parameters.length) = some 2 := by decide +kernel
def fX1_childAt_39 (σ : Sg) (b : Nat) (k2 : Int32 → Int32 → Int32 → Option Int32) (l1 : Int32) (l2 : Int32) (l3 : Int32) : Option Int32 :=
  (k2 l1 l2 (l3 + 1))
theorem bX1_childAt_39 {X : Xc} {K : Kc} (C : MC X K cX1_childAt 4 RX1 rmX1_childAt) (hr : K.meth.sig.returnType = (some .int)) (σ : Sg) (b : Nat) (hb : plOK b){k2 : Int32 → Int32 → Int32 → Option Int32} (hk2 : ∀ (l1 : Int32) (l2 : Int32) (l3 : Int32), GO X K 4 (fun r => MQi X K r σ) (k2 l1 l2 l3) σ 0 0 2 [some (.ref (X.ad b)), some (.int (l1)), some (.int (l2)), some (.int (l3))] []) (l1 : Int32) (l2 : Int32) (l3 : Int32) : GO X K 4 (fun r => MQi X K r σ) (fX1_childAt_39 σ b k2 l1 l2 l3) σ 0 0 39 [some (.ref (X.ad b)), some (.int (l1)), some (.int (l2)), some (.int (l3))] [] := by
  unfold fX1_childAt_39
  refine g_iinc (pc := 39) (v := l3 + 1) C dX1_childAt_39 rfl (rfl) (Nat.le_of_ble_eq_true rfl) rfl ?_
  refine g_goto (pc := 42) (tgt := 2) C dX1_childAt_42 rfl ?_
  refine g_keep [true, true, true, true] ?_
  exact hk2 l1 l2 (l3 + 1)
def fX1_childAt_2 (σ : Sg) (b : Nat) : Nat → Int32 → Int32 → Int32 → Option Int32
  | 0, _, _, _ => none
  | n + 1, l1, l2, l3 =>
    if 23 ≤ l3 then
      some (-1)
    else
      if l1 = (-1) then
        some (-1)
      else
        (fX8_at σ (b + 9) 23 l3).bind fun r1 =>
        if r1 = l1 then
          (fX8_at σ (b + 10) 23 l3).bind fun r2 =>
          if r2 = l2 then
            some l3
          else
            (fX1_childAt_39 σ b (fX1_childAt_2 σ b n) l1 l2 l3)
        else
          (fX1_childAt_39 σ b (fX1_childAt_2 σ b n) l1 l2 l3)
theorem bX1_childAt_2 {X : Xc} {K : Kc} (C : MC X K cX1_childAt 4 RX1 rmX1_childAt) (hr : K.meth.sig.returnType = (some .int)) (σ : Sg) (b : Nat) (hb : plOK b) : ∀ (n : Nat) (l1 : Int32) (l2 : Int32) (l3 : Int32), GO X K 4 (fun r => MQi X K r σ) (fX1_childAt_2 σ b n l1 l2 l3) σ 0 0 2 [some (.ref (X.ad b)), some (.int (l1)), some (.int (l2)), some (.int (l3))] [] := by
  intro n
  induction n with
  | zero =>
    intro l1 l2 l3
    exact g_none
  | succ n ih =>
    intro l1 l2 l3
    unfold fX1_childAt_2
    refine g_iload_n (pc := 2) (i := 3) C dX1_childAt_2 rfl rfl ?_
    refine g_bipush (pc := 3) (v := 23) C dX1_childAt_3 (by decide) ?_
    refine g_icmp_ge (pc := 5) (tgt := 45) C dX1_childAt_5 rfl ?_ ?_
    · refine g_iconst (pc := 45) (v := (-1)) C dX1_childAt_45 (by decide) ?_
      exact g_iret (pc := 46) C hr dX1_childAt_46 rfl
    · refine g_iload_n (pc := 8) (i := 1) C dX1_childAt_8 rfl rfl ?_
      refine g_iconst (pc := 9) (v := (-1)) C dX1_childAt_9 (by decide) ?_
      refine g_icmp_eq (pc := 10) (tgt := 45) C dX1_childAt_10 rfl ?_ ?_
      · refine g_iconst (pc := 45) (v := (-1)) C dX1_childAt_45 (by decide) ?_
        exact g_iret (pc := 46) C hr dX1_childAt_46 rfl
      · refine g_aload_n (pc := 13) (i := 0) C dX1_childAt_13 rfl rfl ?_
        refine g_getr (pc := 14) (ci := 1) (N := 14) (T := TX1) (j := 7) (Cn := RX1) (b + 9) C rfl inlX1 (Nat.le_of_ble_eq_true rfl) q_3_18 (blk hb 0 rfl) rfl dX1_childAt_14 ?_
        refine g_iload_n (pc := 17) (i := 3) C dX1_childAt_17 rfl rfl ?_
        refine g_callNi (pc := 18) (As := [.ref (X.ad (b + 9)), .int (l3)]) C (kX8_at X σ (b + 9) 23 l3 (blk hb 9 rfl)) (List.mem_of_getElem? (i := 4) rfl) q_11_22 q_1_2 q_11_23 hdX8_at ⟨Nat.le_of_ble_eq_true rfl, Nat.le_of_ble_eq_true rfl, rfl, rfl⟩ ⟨Nat.zero_le _, Nat.zero_le _⟩ (Nat.le_of_ble_eq_true rfl) rfl rfl dX1_childAt_18 (fun r1 _ => ?_)
        refine g_iload_n (pc := 21) (i := 1) C dX1_childAt_21 rfl rfl ?_
        refine g_icmp_ne (pc := 22) (tgt := 39) C dX1_childAt_22 rfl ?_ ?_
        · refine g_aload_n (pc := 25) (i := 0) C dX1_childAt_25 rfl rfl ?_
          refine g_getr (pc := 26) (ci := 1) (N := 14) (T := TX1) (j := 8) (Cn := RX1) (b + 10) C rfl inlX1 (Nat.le_of_ble_eq_true rfl) q_3_19 (blk hb 0 rfl) rfl dX1_childAt_26 ?_
          refine g_iload_n (pc := 29) (i := 3) C dX1_childAt_29 rfl rfl ?_
          refine g_callNi (pc := 30) (As := [.ref (X.ad (b + 10)), .int (l3)]) C (kX8_at X σ (b + 10) 23 l3 (blk hb 10 rfl)) (List.mem_of_getElem? (i := 4) rfl) q_11_22 q_1_2 q_11_23 hdX8_at ⟨Nat.le_of_ble_eq_true rfl, Nat.le_of_ble_eq_true rfl, rfl, rfl⟩ ⟨Nat.zero_le _, Nat.zero_le _⟩ (Nat.le_of_ble_eq_true rfl) rfl rfl dX1_childAt_30 (fun r2 _ => ?_)
          refine g_iload_n (pc := 33) (i := 2) C dX1_childAt_33 rfl rfl ?_
          refine g_icmp_ne (pc := 34) (tgt := 39) C dX1_childAt_34 rfl ?_ ?_
          · refine g_iload_n (pc := 37) (i := 3) C dX1_childAt_37 rfl rfl ?_
            exact g_iret (pc := 38) C hr dX1_childAt_38 rfl
          · refine g_keep [true, true, true, true] ?_
            exact bX1_childAt_39 C hr σ b hb ih l1 l2 l3
        · refine g_keep [true, true, true, true] ?_
          exact bX1_childAt_39 C hr σ b hb ih l1 l2 l3
def fX1_childAt (σ : Sg) (b : Nat) (p1 : Int32) (p2 : Int32) : Option Int32 :=
  (fX1_childAt_2 σ b FU p1 p2 0)
theorem kX1_childAt (X : Xc) (σ : Sg) (b : Nat) (p1 : Int32) (p2 : Int32) (hb : plOK b) : ∀ r, fX1_childAt σ b p1 p2 = some r → Met X.l yX1_childAt (wsM yX1_childAt cX1_childAt 4 (some .int)) rmX1_childAt (va_Pc [.ref (X.ad b), .int p1, .int p2] (PW X σ)) (Qi X r σ) 0 0 X.A := by
  refine mt_of (own := RX1) (lo := [some (.ref (X.ad b)), some (.int (p1)), some (.int (p2)), none]) (by decide) rfl (Nat.le_of_ble_eq_true rfl) rfl (fun K C hr => ?_)
  unfold fX1_childAt
  refine g_iconst (pc := 0) (v := 0) C dX1_childAt_0 (by decide) ?_
  refine g_istore_n (pc := 1) (i := 3) C dX1_childAt_1 rfl (Nat.le_of_ble_eq_true rfl) rfl ?_
  refine g_keep [true, true, true, true] ?_
  exact bX1_childAt_2 C hr σ b hb FU p1 p2 0
theorem dX1_replace_0 : decode cX1_replace 0 = .ok (.aload_n 0, 1) := by decide +kernel
theorem dX1_replace_1 : decode cX1_replace 1 = .ok (.getfield 37, 3) := by decide +kernel
theorem dX1_replace_4 : decode cX1_replace 4 = .ok (.iload_n 1, 1) := by decide +kernel
theorem dX1_replace_5 : decode cX1_replace 5 = .ok (.invokestatic 72, 3) := by decide +kernel
theorem dX1_replace_8 : decode cX1_replace 8 = .ok (.istore_n 3, 1) := by decide +kernel
theorem dX1_replace_9 : decode cX1_replace 9 = .ok (.iload_n 3, 1) := by decide +kernel
theorem dX1_replace_10 : decode cX1_replace 10 = .ok (.iconst (-1), 1) := by decide +kernel
theorem dX1_replace_11 : decode cX1_replace 11 = .ok (.if_icmp .ne 17, 3) := by decide +kernel
theorem dX1_replace_14 : decode cX1_replace 14 = .ok (.aload_n 0, 1) := by decide +kernel
theorem dX1_replace_15 : decode cX1_replace 15 = .ok (.getfield 24, 3) := by decide +kernel
theorem dX1_replace_18 : decode cX1_replace 18 = .ok (.aload_n 0, 1) := by decide +kernel
theorem dX1_replace_19 : decode cX1_replace 19 = .ok (.iload_n 1, 1) := by decide +kernel
theorem dX1_replace_20 : decode cX1_replace 20 = .ok (.invokevirtual 87, 3) := by decide +kernel
theorem dX1_replace_23 : decode cX1_replace 23 = .ok (.iload_n 2, 1) := by decide +kernel
theorem dX1_replace_24 : decode cX1_replace 24 = .ok (.invokestatic 76, 3) := by decide +kernel
theorem dX1_replace_27 : decode cX1_replace 27 = .ok (.return_, 1) := by decide +kernel
theorem dX1_replace_28 : decode cX1_replace 28 = .ok (.aload_n 0, 1) := by decide +kernel
theorem dX1_replace_29 : decode cX1_replace 29 = .ok (.getfield 37, 3) := by decide +kernel
theorem dX1_replace_32 : decode cX1_replace 32 = .ok (.iload_n 1, 1) := by decide +kernel
theorem dX1_replace_33 : decode cX1_replace 33 = .ok (.iconst (-1), 1) := by decide +kernel
theorem dX1_replace_34 : decode cX1_replace 34 = .ok (.invokestatic 76, 3) := by decide +kernel
theorem dX1_replace_37 : decode cX1_replace 37 = .ok (.aload_n 0, 1) := by decide +kernel
theorem dX1_replace_38 : decode cX1_replace 38 = .ok (.getfield 37, 3) := by decide +kernel
theorem dX1_replace_41 : decode cX1_replace 41 = .ok (.iload_n 2, 1) := by decide +kernel
theorem dX1_replace_42 : decode cX1_replace 42 = .ok (.iload_n 3, 1) := by decide +kernel
theorem dX1_replace_43 : decode cX1_replace 43 = .ok (.invokestatic 76, 3) := by decide +kernel
theorem dX1_replace_46 : decode cX1_replace 46 = .ok (.aload_n 0, 1) := by decide +kernel
theorem dX1_replace_47 : decode cX1_replace 47 = .ok (.getfield 40, 3) := by decide +kernel
theorem dX1_replace_50 : decode cX1_replace 50 = .ok (.iload_n 2, 1) := by decide +kernel
theorem dX1_replace_51 : decode cX1_replace 51 = .ok (.aload_n 0, 1) := by decide +kernel
theorem dX1_replace_52 : decode cX1_replace 52 = .ok (.getfield 40, 3) := by decide +kernel
theorem dX1_replace_55 : decode cX1_replace 55 = .ok (.iload_n 1, 1) := by decide +kernel
theorem dX1_replace_56 : decode cX1_replace 56 = .ok (.invokestatic 72, 3) := by decide +kernel
theorem dX1_replace_59 : decode cX1_replace 59 = .ok (.invokestatic 76, 3) := by decide +kernel
theorem dX1_replace_62 : decode cX1_replace 62 = .ok (.aload_n 0, 1) := by decide +kernel
theorem dX1_replace_63 : decode cX1_replace 63 = .ok (.getfield 43, 3) := by decide +kernel
theorem dX1_replace_66 : decode cX1_replace 66 = .ok (.iload_n 2, 1) := by decide +kernel
theorem dX1_replace_67 : decode cX1_replace 67 = .ok (.aload_n 0, 1) := by decide +kernel
theorem dX1_replace_68 : decode cX1_replace 68 = .ok (.getfield 43, 3) := by decide +kernel
theorem dX1_replace_71 : decode cX1_replace 71 = .ok (.iload_n 1, 1) := by decide +kernel
theorem dX1_replace_72 : decode cX1_replace 72 = .ok (.invokestatic 72, 3) := by decide +kernel
theorem dX1_replace_75 : decode cX1_replace 75 = .ok (.invokestatic 76, 3) := by decide +kernel
theorem dX1_replace_78 : decode cX1_replace 78 = .ok (.return_, 1) := by decide +kernel
abbrev rmX1_replace : Room := { frames := 2, cells := 0, slots := 0, locals := 44 }
theorem hdX1_replace : yX1_replace.cls ≠ "java/lang/invoke/MethodHandle" ∧ yX1_replace.cls ≠ "java/lang/invoke/VarHandle" ∧ (parseMethodDescriptor yX1_replace.desc).map (fun d => d.parameters.length) = some 2 := by decide +kernel
def fX1_replace (σ : Sg) (b : Nat) (p1 : Int32) (p2 : Int32) : Option Sg :=
  (fX8_at σ (b + 9) 23 p1).bind fun r1 =>
  if r1 = (-1) then
    (fX1_windowOf σ b p1).bind fun r2 =>
    (fX8_put σ (b + 5) 5 r2 p2).bind fun σ3 =>
    some σ3
  else
    (fX8_put σ (b + 9) 23 p1 (-1)).bind fun σ4 =>
    (fX8_put σ4 (b + 9) 23 p2 r1).bind fun σ5 =>
    (fX8_at σ5 (b + 10) 23 p1).bind fun r6 =>
    (fX8_put σ5 (b + 10) 23 p2 r6).bind fun σ7 =>
    (fX8_at σ7 (b + 11) 23 p1).bind fun r8 =>
    (fX8_put σ7 (b + 11) 23 p2 r8).bind fun σ9 =>
    some σ9
theorem kX1_replace (X : Xc) (σ : Sg) (b : Nat) (p1 : Int32) (p2 : Int32) (hb : plOK b) : ∀ r, fX1_replace σ b p1 p2 = some r → Met X.l yX1_replace (wsM yX1_replace cX1_replace 4 none) rmX1_replace (va_Pc [.ref (X.ad b), .int p1, .int p2] (PW X σ)) (Qv X r) 0 0 X.A := by
  refine mt_of (own := RX1) (lo := [some (.ref (X.ad b)), some (.int (p1)), some (.int (p2)), none]) (by decide) rfl (Nat.le_of_ble_eq_true rfl) rfl (fun K C hr => ?_)
  unfold fX1_replace
  refine g_aload_n (pc := 0) (i := 0) C dX1_replace_0 rfl rfl ?_
  refine g_getr (pc := 1) (ci := 1) (N := 14) (T := TX1) (j := 7) (Cn := RX1) (b + 9) C rfl inlX1 (Nat.le_of_ble_eq_true rfl) q_3_18 (blk hb 0 rfl) rfl dX1_replace_1 ?_
  refine g_iload_n (pc := 4) (i := 1) C dX1_replace_4 rfl rfl ?_
  refine g_callNi (pc := 5) (As := [.ref (X.ad (b + 9)), .int (p1)]) C (kX8_at X σ (b + 9) 23 p1 (blk hb 9 rfl)) (List.mem_of_getElem? (i := 4) rfl) q_11_22 q_1_2 q_11_23 hdX8_at ⟨Nat.le_of_ble_eq_true rfl, Nat.le_of_ble_eq_true rfl, rfl, rfl⟩ ⟨Nat.zero_le _, Nat.zero_le _⟩ (Nat.le_of_ble_eq_true rfl) rfl rfl dX1_replace_5 (fun r1 _ => ?_)
  refine g_istore_n (pc := 8) (i := 3) C dX1_replace_8 rfl (Nat.le_of_ble_eq_true rfl) rfl ?_
  refine g_iload_n (pc := 9) (i := 3) C dX1_replace_9 rfl rfl ?_
  refine g_iconst (pc := 10) (v := (-1)) C dX1_replace_10 (by decide) ?_
  refine g_icmp_ne (pc := 11) (tgt := 28) C dX1_replace_11 rfl ?_ ?_
  · refine g_aload_n (pc := 14) (i := 0) C dX1_replace_14 rfl rfl ?_
    refine g_getr (pc := 15) (ci := 1) (N := 14) (T := TX1) (j := 4) (Cn := RX1) (b + 5) C rfl inlX1 (Nat.le_of_ble_eq_true rfl) q_3_14 (blk hb 0 rfl) rfl dX1_replace_15 ?_
    refine g_aload_n (pc := 18) (i := 0) C dX1_replace_18 rfl rfl ?_
    refine g_iload_n (pc := 19) (i := 1) C dX1_replace_19 rfl rfl ?_
    refine g_callVi (pc := 20) (As := [.int (p1)]) C (kX1_windowOf X σ b p1 hb) (blk hb 0 rfl) rfl q_13_8 q_13_9 q_13_10 q_2_23 q_13_11 ⟨rfl, hdX1_windowOf⟩ ⟨Nat.le_of_ble_eq_true rfl, Nat.le_of_ble_eq_true rfl, rfl, rfl⟩ ⟨Nat.zero_le _, Nat.zero_le _⟩ (Nat.le_of_ble_eq_true rfl) rfl rfl dX1_replace_20 (fun r2 _ => ?_)
    refine g_iload_n (pc := 23) (i := 2) C dX1_replace_23 rfl rfl ?_
    refine g_callNv (pc := 24) (As := [.ref (X.ad (b + 5)), .int (r2), .int (p2)]) C (kX8_put X σ (b + 5) 5 r2 p2 (blk hb 5 rfl)) (List.mem_of_getElem? (i := 5) rfl) q_9_20 q_1_2 q_9_21 hdX8_put ⟨Nat.le_of_ble_eq_true rfl, Nat.le_of_ble_eq_true rfl, rfl, rfl⟩ ⟨Nat.zero_le _, Nat.zero_le _⟩ (Nat.le_of_ble_eq_true rfl) rfl rfl dX1_replace_24 (fun σ3 _ => ?_)
    exact g_vret (pc := 27) C hr dX1_replace_27 rfl
  · refine g_aload_n (pc := 28) (i := 0) C dX1_replace_28 rfl rfl ?_
    refine g_getr (pc := 29) (ci := 1) (N := 14) (T := TX1) (j := 7) (Cn := RX1) (b + 9) C rfl inlX1 (Nat.le_of_ble_eq_true rfl) q_3_18 (blk hb 0 rfl) rfl dX1_replace_29 ?_
    refine g_iload_n (pc := 32) (i := 1) C dX1_replace_32 rfl rfl ?_
    refine g_iconst (pc := 33) (v := (-1)) C dX1_replace_33 (by decide) ?_
    refine g_callNv (pc := 34) (As := [.ref (X.ad (b + 9)), .int (p1), .int ((-1))]) C (kX8_put X σ (b + 9) 23 p1 (-1) (blk hb 9 rfl)) (List.mem_of_getElem? (i := 5) rfl) q_9_20 q_1_2 q_9_21 hdX8_put ⟨Nat.le_of_ble_eq_true rfl, Nat.le_of_ble_eq_true rfl, rfl, rfl⟩ ⟨Nat.zero_le _, Nat.zero_le _⟩ (Nat.le_of_ble_eq_true rfl) rfl rfl dX1_replace_34 (fun σ4 _ => ?_)
    refine g_aload_n (pc := 37) (i := 0) C dX1_replace_37 rfl rfl ?_
    refine g_getr (pc := 38) (ci := 1) (N := 14) (T := TX1) (j := 7) (Cn := RX1) (b + 9) C rfl inlX1 (Nat.le_of_ble_eq_true rfl) q_3_18 (blk hb 0 rfl) rfl dX1_replace_38 ?_
    refine g_iload_n (pc := 41) (i := 2) C dX1_replace_41 rfl rfl ?_
    refine g_iload_n (pc := 42) (i := 3) C dX1_replace_42 rfl rfl ?_
    refine g_callNv (pc := 43) (As := [.ref (X.ad (b + 9)), .int (p2), .int (r1)]) C (kX8_put X σ4 (b + 9) 23 p2 r1 (blk hb 9 rfl)) (List.mem_of_getElem? (i := 5) rfl) q_9_20 q_1_2 q_9_21 hdX8_put ⟨Nat.le_of_ble_eq_true rfl, Nat.le_of_ble_eq_true rfl, rfl, rfl⟩ ⟨Nat.zero_le _, Nat.zero_le _⟩ (Nat.le_of_ble_eq_true rfl) rfl rfl dX1_replace_43 (fun σ5 _ => ?_)
    refine g_aload_n (pc := 46) (i := 0) C dX1_replace_46 rfl rfl ?_
    refine g_getr (pc := 47) (ci := 1) (N := 14) (T := TX1) (j := 8) (Cn := RX1) (b + 10) C rfl inlX1 (Nat.le_of_ble_eq_true rfl) q_3_19 (blk hb 0 rfl) rfl dX1_replace_47 ?_
    refine g_iload_n (pc := 50) (i := 2) C dX1_replace_50 rfl rfl ?_
    refine g_aload_n (pc := 51) (i := 0) C dX1_replace_51 rfl rfl ?_
    refine g_getr (pc := 52) (ci := 1) (N := 14) (T := TX1) (j := 8) (Cn := RX1) (b + 10) C rfl inlX1 (Nat.le_of_ble_eq_true rfl) q_3_19 (blk hb 0 rfl) rfl dX1_replace_52 ?_
    refine g_iload_n (pc := 55) (i := 1) C dX1_replace_55 rfl rfl ?_
    refine g_callNi (pc := 56) (As := [.ref (X.ad (b + 10)), .int (p1)]) C (kX8_at X σ5 (b + 10) 23 p1 (blk hb 10 rfl)) (List.mem_of_getElem? (i := 4) rfl) q_11_22 q_1_2 q_11_23 hdX8_at ⟨Nat.le_of_ble_eq_true rfl, Nat.le_of_ble_eq_true rfl, rfl, rfl⟩ ⟨Nat.zero_le _, Nat.zero_le _⟩ (Nat.le_of_ble_eq_true rfl) rfl rfl dX1_replace_56 (fun r6 _ => ?_)
    refine g_callNv (pc := 59) (As := [.ref (X.ad (b + 10)), .int (p2), .int (r6)]) C (kX8_put X σ5 (b + 10) 23 p2 r6 (blk hb 10 rfl)) (List.mem_of_getElem? (i := 5) rfl) q_9_20 q_1_2 q_9_21 hdX8_put ⟨Nat.le_of_ble_eq_true rfl, Nat.le_of_ble_eq_true rfl, rfl, rfl⟩ ⟨Nat.zero_le _, Nat.zero_le _⟩ (Nat.le_of_ble_eq_true rfl) rfl rfl dX1_replace_59 (fun σ7 _ => ?_)
    refine g_aload_n (pc := 62) (i := 0) C dX1_replace_62 rfl rfl ?_
    refine g_getr (pc := 63) (ci := 1) (N := 14) (T := TX1) (j := 9) (Cn := RX1) (b + 11) C rfl inlX1 (Nat.le_of_ble_eq_true rfl) q_3_20 (blk hb 0 rfl) rfl dX1_replace_63 ?_
    refine g_iload_n (pc := 66) (i := 2) C dX1_replace_66 rfl rfl ?_
    refine g_aload_n (pc := 67) (i := 0) C dX1_replace_67 rfl rfl ?_
    refine g_getr (pc := 68) (ci := 1) (N := 14) (T := TX1) (j := 9) (Cn := RX1) (b + 11) C rfl inlX1 (Nat.le_of_ble_eq_true rfl) q_3_20 (blk hb 0 rfl) rfl dX1_replace_68 ?_
    refine g_iload_n (pc := 71) (i := 1) C dX1_replace_71 rfl rfl ?_
    refine g_callNi (pc := 72) (As := [.ref (X.ad (b + 11)), .int (p1)]) C (kX8_at X σ7 (b + 11) 23 p1 (blk hb 11 rfl)) (List.mem_of_getElem? (i := 4) rfl) q_11_22 q_1_2 q_11_23 hdX8_at ⟨Nat.le_of_ble_eq_true rfl, Nat.le_of_ble_eq_true rfl, rfl, rfl⟩ ⟨Nat.zero_le _, Nat.zero_le _⟩ (Nat.le_of_ble_eq_true rfl) rfl rfl dX1_replace_72 (fun r8 _ => ?_)
    refine g_callNv (pc := 75) (As := [.ref (X.ad (b + 11)), .int (p2), .int (r8)]) C (kX8_put X σ7 (b + 11) 23 p2 r8 (blk hb 11 rfl)) (List.mem_of_getElem? (i := 5) rfl) q_9_20 q_1_2 q_9_21 hdX8_put ⟨Nat.le_of_ble_eq_true rfl, Nat.le_of_ble_eq_true rfl, rfl, rfl⟩ ⟨Nat.zero_le _, Nat.zero_le _⟩ (Nat.le_of_ble_eq_true rfl) rfl rfl dX1_replace_75 (fun σ9 _ => ?_)
    exact g_vret (pc := 78) C hr dX1_replace_78 rfl
theorem dX1_removeGroup_0 : decode cX1_removeGroup 0 = .ok (.aload_n 0, 1) := by decide +kernel
theorem dX1_removeGroup_1 : decode cX1_removeGroup 1 = .ok (.getfield 37, 3) := by decide +kernel
theorem dX1_removeGroup_4 : decode cX1_removeGroup 4 = .ok (.iload_n 1, 1) := by decide +kernel
theorem dX1_removeGroup_5 : decode cX1_removeGroup 5 = .ok (.invokestatic 72, 3) := by decide +kernel
theorem dX1_removeGroup_8 : decode cX1_removeGroup 8 = .ok (.istore_n 2, 1) := by decide +kernel
theorem dX1_removeGroup_9 : decode cX1_removeGroup 9 = .ok (.iload_n 2, 1) := by decide +kernel
theorem dX1_removeGroup_10 : decode cX1_removeGroup 10 = .ok (.iconst (-1), 1) := by decide +kernel
theorem dX1_removeGroup_11 : decode cX1_removeGroup 11 = .ok (.if_icmp .ne 26, 3) := by decide +kernel
theorem dX1_removeGroup_14 : decode cX1_removeGroup 14 = .ok (.aload_n 0, 1) := by decide +kernel
theorem dX1_removeGroup_15 : decode cX1_removeGroup 15 = .ok (.iload_n 1, 1) := by decide +kernel
theorem dX1_removeGroup_16 : decode cX1_removeGroup 16 = .ok (.invokevirtual 87, 3) := by decide +kernel
theorem dX1_removeGroup_19 : decode cX1_removeGroup 19 = .ok (.istore_n 3, 1) := by decide +kernel
theorem dX1_removeGroup_20 : decode cX1_removeGroup 20 = .ok (.aload_n 0, 1) := by decide +kernel
theorem dX1_removeGroup_21 : decode cX1_removeGroup 21 = .ok (.getfield 24, 3) := by decide +kernel
theorem dX1_removeGroup_24 : decode cX1_removeGroup 24 = .ok (.iload_n 3, 1) := by decide +kernel
theorem dX1_removeGroup_25 : decode cX1_removeGroup 25 = .ok (.iconst (-1), 1) := by decide +kernel
theorem dX1_removeGroup_26 : decode cX1_removeGroup 26 = .ok (.invokestatic 76, 3) := by decide +kernel
theorem dX1_removeGroup_29 : decode cX1_removeGroup 29 = .ok (.aload_n 0, 1) := by decide +kernel
theorem dX1_removeGroup_30 : decode cX1_removeGroup 30 = .ok (.getfield 30, 3) := by decide +kernel
theorem dX1_removeGroup_33 : decode cX1_removeGroup 33 = .ok (.iload_n 3, 1) := by decide +kernel
theorem dX1_removeGroup_34 : decode cX1_removeGroup 34 = .ok (.invokevirtual 121, 3) := by decide +kernel
theorem dX1_removeGroup_37 : decode cX1_removeGroup 37 = .ok (.aload_n 0, 1) := by decide +kernel
theorem dX1_removeGroup_38 : decode cX1_removeGroup 38 = .ok (.iload_n 1, 1) := by decide +kernel
theorem dX1_removeGroup_39 : decode cX1_removeGroup 39 = .ok (.invokevirtual 124, 3) := by decide +kernel
theorem dX1_removeGroup_42 : decode cX1_removeGroup 42 = .ok (.aload_n 0, 1) := by decide +kernel
theorem dX1_removeGroup_43 : decode cX1_removeGroup 43 = .ok (.iload_n 1, 1) := by decide +kernel
theorem dX1_removeGroup_44 : decode cX1_removeGroup 44 = .ok (.invokevirtual 127, 3) := by decide +kernel
theorem dX1_removeGroup_47 : decode cX1_removeGroup 47 = .ok (.aload_n 0, 1) := by decide +kernel
theorem dX1_removeGroup_48 : decode cX1_removeGroup 48 = .ok (.iload_n 2, 1) := by decide +kernel
theorem dX1_removeGroup_49 : decode cX1_removeGroup 49 = .ok (.invokevirtual 130, 3) := by decide +kernel
theorem dX1_removeGroup_52 : decode cX1_removeGroup 52 = .ok (.iconst 1, 1) := by decide +kernel
theorem dX1_removeGroup_53 : decode cX1_removeGroup 53 = .ok (.if_icmp .ne 26, 3) := by decide +kernel
theorem dX1_removeGroup_56 : decode cX1_removeGroup 56 = .ok (.aload_n 0, 1) := by decide +kernel
theorem dX1_removeGroup_57 : decode cX1_removeGroup 57 = .ok (.iload_n 2, 1) := by decide +kernel
theorem dX1_removeGroup_58 : decode cX1_removeGroup 58 = .ok (.iconst 0, 1) := by decide +kernel
theorem dX1_removeGroup_59 : decode cX1_removeGroup 59 = .ok (.invokevirtual 133, 3) := by decide +kernel
theorem dX1_removeGroup_62 : decode cX1_removeGroup 62 = .ok (.istore_n 3, 1) := by decide +kernel
theorem dX1_removeGroup_63 : decode cX1_removeGroup 63 = .ok (.aload_n 0, 1) := by decide +kernel
theorem dX1_removeGroup_64 : decode cX1_removeGroup 64 = .ok (.iload_n 3, 1) := by decide +kernel
theorem dX1_removeGroup_65 : decode cX1_removeGroup 65 = .ok (.invokevirtual 124, 3) := by decide +kernel
theorem dX1_removeGroup_68 : decode cX1_removeGroup 68 = .ok (.aload_n 0, 1) := by decide +kernel
theorem dX1_removeGroup_69 : decode cX1_removeGroup 69 = .ok (.iload_n 2, 1) := by decide +kernel
theorem dX1_removeGroup_70 : decode cX1_removeGroup 70 = .ok (.iload_n 3, 1) := by decide +kernel
theorem dX1_removeGroup_71 : decode cX1_removeGroup 71 = .ok (.invokevirtual 118, 3) := by decide +kernel
theorem dX1_removeGroup_74 : decode cX1_removeGroup 74 = .ok (.aload_n 0, 1) := by decide +kernel
theorem dX1_removeGroup_75 : decode cX1_removeGroup 75 = .ok (.iload_n 2, 1) := by decide +kernel
theorem dX1_removeGroup_76 : decode cX1_removeGroup 76 = .ok (.invokevirtual 127, 3) := by decide +kernel
theorem dX1_removeGroup_79 : decode cX1_removeGroup 79 = .ok (.return_, 1) := by decide +kernel
abbrev rmX1_removeGroup : Room := { frames := 3, cells := 0, slots := 0, locals := 68 }
theorem hdX1_removeGroup : yX1_removeGroup.cls ≠ "java/lang/invoke/MethodHandle" ∧ yX1_removeGroup.cls ≠ "java/lang/invoke/VarHandle" ∧ (parseMethodDescriptor yX1_removeGroup.desc).map (fun d => d.parameters.length) = some 1 := by decide +kernel
def fX1_removeGroup_37 (b : Nat) (σ : Sg) (l1 : Int32) (l2 : Int32) : Option Sg :=
  (fX1_detach σ b l1).bind fun σ5 =>
  (fX1_freeNode σ5 b l1).bind fun σ6 =>
  (fX1_childCount σ6 b l2).bind fun r7 =>
  if r7 = 1 then
    (fX1_childAt σ6 b l2 0).bind fun r8 =>
    (fX1_detach σ6 b r8).bind fun σ9 =>
    (fX1_replace σ9 b l2 r8).bind fun σ10 =>
    (fX1_freeNode σ10 b l2).bind fun σ11 =>
    some σ11
  else
    some σ6
theorem bX1_removeGroup_37 {X : Xc} {K : Kc} (C : MC X K cX1_removeGroup 4 RX1 rmX1_removeGroup) (hr : K.meth.sig.returnType = none) (b : Nat) (hb : plOK b) (σ : Sg) (l1 : Int32) (l2 : Int32) : GO X K 4 (fun r => MQv X K r) (fX1_removeGroup_37 b σ l1 l2) σ 0 0 37 [some (.ref (X.ad b)), some (.int (l1)), some (.int (l2)), none] [] := by
  unfold fX1_removeGroup_37
  refine g_aload_n (pc := 37) (i := 0) C dX1_removeGroup_37 rfl rfl ?_
  refine g_iload_n (pc := 38) (i := 1) C dX1_removeGroup_38 rfl rfl ?_
  refine g_callVv (pc := 39) (As := [.int (l1)]) C (kX1_detach X σ b l1 hb) (blk hb 0 rfl) rfl q_13_20 q_13_21 q_13_22 q_2_23 q_13_23 ⟨rfl, hdX1_detach⟩ ⟨Nat.le_of_ble_eq_true rfl, Nat.le_of_ble_eq_true rfl, rfl, rfl⟩ ⟨Nat.zero_le _, Nat.zero_le _⟩ (Nat.le_of_ble_eq_true rfl) rfl rfl dX1_removeGroup_39 (fun σ5 _ => ?_)
  refine g_aload_n (pc := 42) (i := 0) C dX1_removeGroup_42 rfl rfl ?_
  refine g_iload_n (pc := 43) (i := 1) C dX1_removeGroup_43 rfl rfl ?_
  refine g_callVv (pc := 44) (As := [.int (l1)]) C (kX1_freeNode X σ5 b l1 hb) (blk hb 0 rfl) rfl q_14_4 q_14_5 q_14_6 q_2_23 q_14_7 ⟨rfl, hdX1_freeNode⟩ ⟨Nat.le_of_ble_eq_true rfl, Nat.le_of_ble_eq_true rfl, rfl, rfl⟩ ⟨Nat.zero_le _, Nat.zero_le _⟩ (Nat.le_of_ble_eq_true rfl) rfl rfl dX1_removeGroup_44 (fun σ6 _ => ?_)
  refine g_aload_n (pc := 47) (i := 0) C dX1_removeGroup_47 rfl rfl ?_
  refine g_iload_n (pc := 48) (i := 2) C dX1_removeGroup_48 rfl rfl ?_
  refine g_callVi (pc := 49) (As := [.int (l2)]) C (kX1_childCount X σ6 b l2 hb) (blk hb 0 rfl) rfl q_14_8 q_14_9 q_14_10 q_2_23 q_14_11 ⟨rfl, hdX1_childCount⟩ ⟨Nat.le_of_ble_eq_true rfl, Nat.le_of_ble_eq_true rfl, rfl, rfl⟩ ⟨Nat.zero_le _, Nat.zero_le _⟩ (Nat.le_of_ble_eq_true rfl) rfl rfl dX1_removeGroup_49 (fun r7 _ => ?_)
  refine g_iconst (pc := 52) (v := 1) C dX1_removeGroup_52 (by decide) ?_
  refine g_icmp_ne (pc := 53) (tgt := 79) C dX1_removeGroup_53 rfl ?_ ?_
  · refine g_aload_n (pc := 56) (i := 0) C dX1_removeGroup_56 rfl rfl ?_
    refine g_iload_n (pc := 57) (i := 2) C dX1_removeGroup_57 rfl rfl ?_
    refine g_iconst (pc := 58) (v := 0) C dX1_removeGroup_58 (by decide) ?_
    refine g_callVi (pc := 59) (As := [.int (l2), .int (0)]) C (kX1_childAt X σ6 b l2 0 hb) (blk hb 0 rfl) rfl q_14_12 q_14_13 q_14_14 q_2_23 q_14_15 ⟨rfl, hdX1_childAt⟩ ⟨Nat.le_of_ble_eq_true rfl, Nat.le_of_ble_eq_true rfl, rfl, rfl⟩ ⟨Nat.zero_le _, Nat.zero_le _⟩ (Nat.le_of_ble_eq_true rfl) rfl rfl dX1_removeGroup_59 (fun r8 _ => ?_)
    refine g_istore_n (pc := 62) (i := 3) C dX1_removeGroup_62 rfl (Nat.le_of_ble_eq_true rfl) rfl ?_
    refine g_aload_n (pc := 63) (i := 0) C dX1_removeGroup_63 rfl rfl ?_
    refine g_iload_n (pc := 64) (i := 3) C dX1_removeGroup_64 rfl rfl ?_
    refine g_callVv (pc := 65) (As := [.int (r8)]) C (kX1_detach X σ6 b r8 hb) (blk hb 0 rfl) rfl q_13_20 q_13_21 q_13_22 q_2_23 q_13_23 ⟨rfl, hdX1_detach⟩ ⟨Nat.le_of_ble_eq_true rfl, Nat.le_of_ble_eq_true rfl, rfl, rfl⟩ ⟨Nat.zero_le _, Nat.zero_le _⟩ (Nat.le_of_ble_eq_true rfl) rfl rfl dX1_removeGroup_65 (fun σ9 _ => ?_)
    refine g_aload_n (pc := 68) (i := 0) C dX1_removeGroup_68 rfl rfl ?_
    refine g_iload_n (pc := 69) (i := 2) C dX1_removeGroup_69 rfl rfl ?_
    refine g_iload_n (pc := 70) (i := 3) C dX1_removeGroup_70 rfl rfl ?_
    refine g_callVv (pc := 71) (As := [.int (l2), .int (r8)]) C (kX1_replace X σ9 b l2 r8 hb) (blk hb 0 rfl) rfl q_14_16 q_14_17 q_14_18 q_2_23 q_14_19 ⟨rfl, hdX1_replace⟩ ⟨Nat.le_of_ble_eq_true rfl, Nat.le_of_ble_eq_true rfl, rfl, rfl⟩ ⟨Nat.zero_le _, Nat.zero_le _⟩ (Nat.le_of_ble_eq_true rfl) rfl rfl dX1_removeGroup_71 (fun σ10 _ => ?_)
    refine g_aload_n (pc := 74) (i := 0) C dX1_removeGroup_74 rfl rfl ?_
    refine g_iload_n (pc := 75) (i := 2) C dX1_removeGroup_75 rfl rfl ?_
    refine g_callVv (pc := 76) (As := [.int (l2)]) C (kX1_freeNode X σ10 b l2 hb) (blk hb 0 rfl) rfl q_14_4 q_14_5 q_14_6 q_2_23 q_14_7 ⟨rfl, hdX1_freeNode⟩ ⟨Nat.le_of_ble_eq_true rfl, Nat.le_of_ble_eq_true rfl, rfl, rfl⟩ ⟨Nat.zero_le _, Nat.zero_le _⟩ (Nat.le_of_ble_eq_true rfl) rfl rfl dX1_removeGroup_76 (fun σ11 _ => ?_)
    exact g_vret (pc := 79) C hr dX1_removeGroup_79 rfl
  · exact g_vret (pc := 79) C hr dX1_removeGroup_79 rfl
def fX1_removeGroup (σ : Sg) (b : Nat) (p1 : Int32) : Option Sg :=
  (fX8_at σ (b + 9) 23 p1).bind fun r1 =>
  if r1 = (-1) then
    (fX1_windowOf σ b p1).bind fun r2 =>
    (fX8_put σ (b + 5) 5 r2 (-1)).bind fun σ3 =>
    (fX0_leave σ3 (b + 6) r2).bind fun σ4 =>
    (fX1_removeGroup_37 b σ4 p1 r1)
  else
    (fX1_removeGroup_37 b σ p1 r1)
theorem kX1_removeGroup (X : Xc) (σ : Sg) (b : Nat) (p1 : Int32) (hb : plOK b) : ∀ r, fX1_removeGroup σ b p1 = some r → Met X.l yX1_removeGroup (wsM yX1_removeGroup cX1_removeGroup 4 none) rmX1_removeGroup (va_Pc [.ref (X.ad b), .int p1] (PW X σ)) (Qv X r) 0 0 X.A := by
  refine mt_of (own := RX1) (lo := [some (.ref (X.ad b)), some (.int (p1)), none, none]) (by decide) rfl (Nat.le_of_ble_eq_true rfl) rfl (fun K C hr => ?_)
  unfold fX1_removeGroup
  refine g_aload_n (pc := 0) (i := 0) C dX1_removeGroup_0 rfl rfl ?_
  refine g_getr (pc := 1) (ci := 1) (N := 14) (T := TX1) (j := 7) (Cn := RX1) (b + 9) C rfl inlX1 (Nat.le_of_ble_eq_true rfl) q_3_18 (blk hb 0 rfl) rfl dX1_removeGroup_1 ?_
  refine g_iload_n (pc := 4) (i := 1) C dX1_removeGroup_4 rfl rfl ?_
  refine g_callNi (pc := 5) (As := [.ref (X.ad (b + 9)), .int (p1)]) C (kX8_at X σ (b + 9) 23 p1 (blk hb 9 rfl)) (List.mem_of_getElem? (i := 4) rfl) q_11_22 q_1_2 q_11_23 hdX8_at ⟨Nat.le_of_ble_eq_true rfl, Nat.le_of_ble_eq_true rfl, rfl, rfl⟩ ⟨Nat.zero_le _, Nat.zero_le _⟩ (Nat.le_of_ble_eq_true rfl) rfl rfl dX1_removeGroup_5 (fun r1 _ => ?_)
  refine g_istore_n (pc := 8) (i := 2) C dX1_removeGroup_8 rfl (Nat.le_of_ble_eq_true rfl) rfl ?_
  refine g_iload_n (pc := 9) (i := 2) C dX1_removeGroup_9 rfl rfl ?_
  refine g_iconst (pc := 10) (v := (-1)) C dX1_removeGroup_10 (by decide) ?_
  refine g_icmp_ne (pc := 11) (tgt := 37) C dX1_removeGroup_11 rfl ?_ ?_
  · refine g_aload_n (pc := 14) (i := 0) C dX1_removeGroup_14 rfl rfl ?_
    refine g_iload_n (pc := 15) (i := 1) C dX1_removeGroup_15 rfl rfl ?_
    refine g_callVi (pc := 16) (As := [.int (p1)]) C (kX1_windowOf X σ b p1 hb) (blk hb 0 rfl) rfl q_13_8 q_13_9 q_13_10 q_2_23 q_13_11 ⟨rfl, hdX1_windowOf⟩ ⟨Nat.le_of_ble_eq_true rfl, Nat.le_of_ble_eq_true rfl, rfl, rfl⟩ ⟨Nat.zero_le _, Nat.zero_le _⟩ (Nat.le_of_ble_eq_true rfl) rfl rfl dX1_removeGroup_16 (fun r2 _ => ?_)
    refine g_istore_n (pc := 19) (i := 3) C dX1_removeGroup_19 rfl (Nat.le_of_ble_eq_true rfl) rfl ?_
    refine g_aload_n (pc := 20) (i := 0) C dX1_removeGroup_20 rfl rfl ?_
    refine g_getr (pc := 21) (ci := 1) (N := 14) (T := TX1) (j := 4) (Cn := RX1) (b + 5) C rfl inlX1 (Nat.le_of_ble_eq_true rfl) q_3_14 (blk hb 0 rfl) rfl dX1_removeGroup_21 ?_
    refine g_iload_n (pc := 24) (i := 3) C dX1_removeGroup_24 rfl rfl ?_
    refine g_iconst (pc := 25) (v := (-1)) C dX1_removeGroup_25 (by decide) ?_
    refine g_callNv (pc := 26) (As := [.ref (X.ad (b + 5)), .int (r2), .int ((-1))]) C (kX8_put X σ (b + 5) 5 r2 (-1) (blk hb 5 rfl)) (List.mem_of_getElem? (i := 5) rfl) q_9_20 q_1_2 q_9_21 hdX8_put ⟨Nat.le_of_ble_eq_true rfl, Nat.le_of_ble_eq_true rfl, rfl, rfl⟩ ⟨Nat.zero_le _, Nat.zero_le _⟩ (Nat.le_of_ble_eq_true rfl) rfl rfl dX1_removeGroup_26 (fun σ3 _ => ?_)
    refine g_aload_n (pc := 29) (i := 0) C dX1_removeGroup_29 rfl rfl ?_
    refine g_getr (pc := 30) (ci := 1) (N := 14) (T := TX1) (j := 5) (Cn := RX1) (b + 6) C rfl inlX1 (Nat.le_of_ble_eq_true rfl) q_3_16 (blk hb 0 rfl) rfl dX1_removeGroup_30 ?_
    refine g_iload_n (pc := 33) (i := 3) C dX1_removeGroup_33 rfl rfl ?_
    refine g_callVv (pc := 34) (As := [.int (r2)]) C (kX0_leave X σ3 (b + 6) r2 (pl_or hb)) (blk (pl_or hb) 0 rfl) rfl q_13_12 q_13_13 q_13_14 q_2_19 q_13_15 ⟨rfl, hdX0_leave⟩ ⟨Nat.le_of_ble_eq_true rfl, Nat.le_of_ble_eq_true rfl, rfl, rfl⟩ ⟨Nat.zero_le _, Nat.zero_le _⟩ (Nat.le_of_ble_eq_true rfl) rfl rfl dX1_removeGroup_34 (fun σ4 _ => ?_)
    refine g_keep [true, true, true, false] ?_
    exact bX1_removeGroup_37 C hr b hb σ4 p1 r1
  · refine g_keep [true, true, true, false] ?_
    exact bX1_removeGroup_37 C hr b hb σ p1 r1
theorem dX1_withdraw_0 : decode cX1_withdraw 0 = .ok (.aload_n 0, 1) := by decide +kernel
theorem dX1_withdraw_1 : decode cX1_withdraw 1 = .ok (.iload_n 1, 1) := by decide +kernel
theorem dX1_withdraw_2 : decode cX1_withdraw 2 = .ok (.invokevirtual 84, 3) := by decide +kernel
theorem dX1_withdraw_5 : decode cX1_withdraw 5 = .ok (.istore_n 2, 1) := by decide +kernel
theorem dX1_withdraw_6 : decode cX1_withdraw 6 = .ok (.iload_n 2, 1) := by decide +kernel
theorem dX1_withdraw_7 : decode cX1_withdraw 7 = .ok (.iconst (-1), 1) := by decide +kernel
theorem dX1_withdraw_8 : decode cX1_withdraw 8 = .ok (.if_icmp .ne 4, 3) := by decide +kernel
theorem dX1_withdraw_11 : decode cX1_withdraw 11 = .ok (.return_, 1) := by decide +kernel
theorem dX1_withdraw_12 : decode cX1_withdraw 12 = .ok (.aload_n 0, 1) := by decide +kernel
theorem dX1_withdraw_13 : decode cX1_withdraw 13 = .ok (.iload_n 1, 1) := by decide +kernel
theorem dX1_withdraw_14 : decode cX1_withdraw 14 = .ok (.invokevirtual 146, 3) := by decide +kernel
theorem dX1_withdraw_17 : decode cX1_withdraw 17 = .ok (.aload_n 0, 1) := by decide +kernel
theorem dX1_withdraw_18 : decode cX1_withdraw 18 = .ok (.iload_n 1, 1) := by decide +kernel
theorem dX1_withdraw_19 : decode cX1_withdraw 19 = .ok (.aload_n 0, 1) := by decide +kernel
theorem dX1_withdraw_20 : decode cX1_withdraw 20 = .ok (.iload_n 2, 1) := by decide +kernel
theorem dX1_withdraw_21 : decode cX1_withdraw 21 = .ok (.invokevirtual 143, 3) := by decide +kernel
theorem dX1_withdraw_24 : decode cX1_withdraw 24 = .ok (.iconst 1, 1) := by decide +kernel
theorem dX1_withdraw_25 : decode cX1_withdraw 25 = .ok (.isub, 1) := by decide +kernel
theorem dX1_withdraw_26 : decode cX1_withdraw 26 = .ok (.invokevirtual 149, 3) := by decide +kernel
theorem dX1_withdraw_29 : decode cX1_withdraw 29 = .ok (.aload_n 0, 1) := by decide +kernel
theorem dX1_withdraw_30 : decode cX1_withdraw 30 = .ok (.getfield 49, 3) := by decide +kernel
theorem dX1_withdraw_33 : decode cX1_withdraw 33 = .ok (.iload_n 1, 1) := by decide +kernel
theorem dX1_withdraw_34 : decode cX1_withdraw 34 = .ok (.iconst (-1), 1) := by decide +kernel
theorem dX1_withdraw_35 : decode cX1_withdraw 35 = .ok (.invokestatic 76, 3) := by decide +kernel
theorem dX1_withdraw_38 : decode cX1_withdraw 38 = .ok (.aload_n 0, 1) := by decide +kernel
theorem dX1_withdraw_39 : decode cX1_withdraw 39 = .ok (.getfield 52, 3) := by decide +kernel
theorem dX1_withdraw_42 : decode cX1_withdraw 42 = .ok (.iload_n 1, 1) := by decide +kernel
theorem dX1_withdraw_43 : decode cX1_withdraw 43 = .ok (.iconst (-1), 1) := by decide +kernel
theorem dX1_withdraw_44 : decode cX1_withdraw 44 = .ok (.invokestatic 76, 3) := by decide +kernel
theorem dX1_withdraw_47 : decode cX1_withdraw 47 = .ok (.aload_n 0, 1) := by decide +kernel
theorem dX1_withdraw_48 : decode cX1_withdraw 48 = .ok (.getfield 55, 3) := by decide +kernel
theorem dX1_withdraw_51 : decode cX1_withdraw 51 = .ok (.iload_n 1, 1) := by decide +kernel
theorem dX1_withdraw_52 : decode cX1_withdraw 52 = .ok (.iconst 0, 1) := by decide +kernel
theorem dX1_withdraw_53 : decode cX1_withdraw 53 = .ok (.invokestatic 76, 3) := by decide +kernel
theorem dX1_withdraw_56 : decode cX1_withdraw 56 = .ok (.aload_n 0, 1) := by decide +kernel
theorem dX1_withdraw_57 : decode cX1_withdraw 57 = .ok (.iload_n 2, 1) := by decide +kernel
theorem dX1_withdraw_58 : decode cX1_withdraw 58 = .ok (.invokevirtual 143, 3) := by decide +kernel
theorem dX1_withdraw_61 : decode cX1_withdraw 61 = .ok (.ifCond .ne 8, 3) := by decide +kernel
theorem dX1_withdraw_64 : decode cX1_withdraw 64 = .ok (.aload_n 0, 1) := by decide +kernel
theorem dX1_withdraw_65 : decode cX1_withdraw 65 = .ok (.iload_n 2, 1) := by decide +kernel
theorem dX1_withdraw_66 : decode cX1_withdraw 66 = .ok (.invokevirtual 152, 3) := by decide +kernel
theorem dX1_withdraw_69 : decode cX1_withdraw 69 = .ok (.return_, 1) := by decide +kernel
abbrev rmX1_withdraw : Room := { frames := 4, cells := 0, slots := 0, locals := 91 }
theorem hdX1_withdraw : yX1_withdraw.cls ≠ "java/lang/invoke/MethodHandle" ∧ yX1_withdraw.cls ≠ "java/lang/invoke/VarHandle" ∧ (parseMethodDescriptor yX1_withdraw.desc).map (fun d => d.parameters.length) = some 1 := by decide +kernel
def fX1_withdraw (σ : Sg) (b : Nat) (p1 : Int32) : Option Sg :=
  (fX1_groupOf σ b p1).bind fun r1 =>
  if r1 = (-1) then
    some σ
  else
    (fX1_hide σ b p1).bind fun σ2 =>
    (fX1_tabCount σ2 b r1).bind fun r3 =>
    (fX1_moveToSpot σ2 b p1 (r3 - 1)).bind fun σ4 =>
    (fX8_put σ4 (b + 13) 12 p1 (-1)).bind fun σ5 =>
    (fX8_put σ5 (b + 14) 12 p1 (-1)).bind fun σ6 =>
    (fX8_put σ6 (b + 15) 12 p1 0).bind fun σ7 =>
    (fX1_tabCount σ7 b r1).bind fun r8 =>
    if r8 = 0 then
      (fX1_removeGroup σ7 b r1).bind fun σ9 =>
      some σ9
    else
      some σ7
theorem kX1_withdraw (X : Xc) (σ : Sg) (b : Nat) (p1 : Int32) (hb : plOK b) : ∀ r, fX1_withdraw σ b p1 = some r → Met X.l yX1_withdraw (wsM yX1_withdraw cX1_withdraw 3 none) rmX1_withdraw (va_Pc [.ref (X.ad b), .int p1] (PW X σ)) (Qv X r) 0 0 X.A := by
  refine mt_of (own := RX1) (lo := [some (.ref (X.ad b)), some (.int (p1)), none]) (by decide) rfl (Nat.le_of_ble_eq_true rfl) rfl (fun K C hr => ?_)
  unfold fX1_withdraw
  refine g_aload_n (pc := 0) (i := 0) C dX1_withdraw_0 rfl rfl ?_
  refine g_iload_n (pc := 1) (i := 1) C dX1_withdraw_1 rfl rfl ?_
  refine g_callVi (pc := 2) (As := [.int (p1)]) C (kX1_groupOf X σ b p1 hb) (blk hb 0 rfl) rfl q_11_18 q_11_19 q_11_20 q_2_23 q_11_21 ⟨rfl, hdX1_groupOf⟩ ⟨Nat.le_of_ble_eq_true rfl, Nat.le_of_ble_eq_true rfl, rfl, rfl⟩ ⟨Nat.zero_le _, Nat.zero_le _⟩ (Nat.le_of_ble_eq_true rfl) rfl rfl dX1_withdraw_2 (fun r1 _ => ?_)
  refine g_istore_n (pc := 5) (i := 2) C dX1_withdraw_5 rfl (Nat.le_of_ble_eq_true rfl) rfl ?_
  refine g_iload_n (pc := 6) (i := 2) C dX1_withdraw_6 rfl rfl ?_
  refine g_iconst (pc := 7) (v := (-1)) C dX1_withdraw_7 (by decide) ?_
  refine g_icmp_ne (pc := 8) (tgt := 12) C dX1_withdraw_8 rfl ?_ ?_
  · exact g_vret (pc := 11) C hr dX1_withdraw_11 rfl
  · refine g_aload_n (pc := 12) (i := 0) C dX1_withdraw_12 rfl rfl ?_
    refine g_iload_n (pc := 13) (i := 1) C dX1_withdraw_13 rfl rfl ?_
    refine g_callVv (pc := 14) (As := [.int (p1)]) C (kX1_hide X σ b p1 hb) (blk hb 0 rfl) rfl q_12_0 q_12_1 q_12_2 q_2_23 q_12_3 ⟨rfl, hdX1_hide⟩ ⟨Nat.le_of_ble_eq_true rfl, Nat.le_of_ble_eq_true rfl, rfl, rfl⟩ ⟨Nat.zero_le _, Nat.zero_le _⟩ (Nat.le_of_ble_eq_true rfl) rfl rfl dX1_withdraw_14 (fun σ2 _ => ?_)
    refine g_aload_n (pc := 17) (i := 0) C dX1_withdraw_17 rfl rfl ?_
    refine g_iload_n (pc := 18) (i := 1) C dX1_withdraw_18 rfl rfl ?_
    refine g_aload_n (pc := 19) (i := 0) C dX1_withdraw_19 rfl rfl ?_
    refine g_iload_n (pc := 20) (i := 2) C dX1_withdraw_20 rfl rfl ?_
    refine g_callVi (pc := 21) (As := [.int (r1)]) C (kX1_tabCount X σ2 b r1 hb) (blk hb 0 rfl) rfl q_12_20 q_12_21 q_12_22 q_2_23 q_12_23 ⟨rfl, hdX1_tabCount⟩ ⟨Nat.le_of_ble_eq_true rfl, Nat.le_of_ble_eq_true rfl, rfl, rfl⟩ ⟨Nat.zero_le _, Nat.zero_le _⟩ (Nat.le_of_ble_eq_true rfl) rfl rfl dX1_withdraw_21 (fun r3 _ => ?_)
    refine g_iconst (pc := 24) (v := 1) C dX1_withdraw_24 (by decide) ?_
    refine g_isub (pc := 25) C dX1_withdraw_25 ?_
    refine g_callVv (pc := 26) (As := [.int (p1), .int (r3 - 1)]) C (kX1_moveToSpot X σ2 b p1 (r3 - 1) hb) (blk hb 0 rfl) rfl q_13_0 q_13_1 q_13_2 q_2_23 q_13_3 ⟨rfl, hdX1_moveToSpot⟩ ⟨Nat.le_of_ble_eq_true rfl, Nat.le_of_ble_eq_true rfl, rfl, rfl⟩ ⟨Nat.zero_le _, Nat.zero_le _⟩ (Nat.le_of_ble_eq_true rfl) rfl rfl dX1_withdraw_26 (fun σ4 _ => ?_)
    refine g_aload_n (pc := 29) (i := 0) C dX1_withdraw_29 rfl rfl ?_
    refine g_getr (pc := 30) (ci := 1) (N := 14) (T := TX1) (j := 11) (Cn := RX1) (b + 13) C rfl inlX1 (Nat.le_of_ble_eq_true rfl) q_3_22 (blk hb 0 rfl) rfl dX1_withdraw_30 ?_
    refine g_iload_n (pc := 33) (i := 1) C dX1_withdraw_33 rfl rfl ?_
    refine g_iconst (pc := 34) (v := (-1)) C dX1_withdraw_34 (by decide) ?_
    refine g_callNv (pc := 35) (As := [.ref (X.ad (b + 13)), .int (p1), .int ((-1))]) C (kX8_put X σ4 (b + 13) 12 p1 (-1) (blk hb 13 rfl)) (List.mem_of_getElem? (i := 5) rfl) q_9_20 q_1_2 q_9_21 hdX8_put ⟨Nat.le_of_ble_eq_true rfl, Nat.le_of_ble_eq_true rfl, rfl, rfl⟩ ⟨Nat.zero_le _, Nat.zero_le _⟩ (Nat.le_of_ble_eq_true rfl) rfl rfl dX1_withdraw_35 (fun σ5 _ => ?_)
    refine g_aload_n (pc := 38) (i := 0) C dX1_withdraw_38 rfl rfl ?_
    refine g_getr (pc := 39) (ci := 1) (N := 14) (T := TX1) (j := 12) (Cn := RX1) (b + 14) C rfl inlX1 (Nat.le_of_ble_eq_true rfl) q_3_23 (blk hb 0 rfl) rfl dX1_withdraw_39 ?_
    refine g_iload_n (pc := 42) (i := 1) C dX1_withdraw_42 rfl rfl ?_
    refine g_iconst (pc := 43) (v := (-1)) C dX1_withdraw_43 (by decide) ?_
    refine g_callNv (pc := 44) (As := [.ref (X.ad (b + 14)), .int (p1), .int ((-1))]) C (kX8_put X σ5 (b + 14) 12 p1 (-1) (blk hb 14 rfl)) (List.mem_of_getElem? (i := 5) rfl) q_9_20 q_1_2 q_9_21 hdX8_put ⟨Nat.le_of_ble_eq_true rfl, Nat.le_of_ble_eq_true rfl, rfl, rfl⟩ ⟨Nat.zero_le _, Nat.zero_le _⟩ (Nat.le_of_ble_eq_true rfl) rfl rfl dX1_withdraw_44 (fun σ6 _ => ?_)
    refine g_aload_n (pc := 47) (i := 0) C dX1_withdraw_47 rfl rfl ?_
    refine g_getr (pc := 48) (ci := 1) (N := 14) (T := TX1) (j := 13) (Cn := RX1) (b + 15) C rfl inlX1 (Nat.le_of_ble_eq_true rfl) q_4_0 (blk hb 0 rfl) rfl dX1_withdraw_48 ?_
    refine g_iload_n (pc := 51) (i := 1) C dX1_withdraw_51 rfl rfl ?_
    refine g_iconst (pc := 52) (v := 0) C dX1_withdraw_52 (by decide) ?_
    refine g_callNv (pc := 53) (As := [.ref (X.ad (b + 15)), .int (p1), .int (0)]) C (kX8_put X σ6 (b + 15) 12 p1 0 (blk hb 15 rfl)) (List.mem_of_getElem? (i := 5) rfl) q_9_20 q_1_2 q_9_21 hdX8_put ⟨Nat.le_of_ble_eq_true rfl, Nat.le_of_ble_eq_true rfl, rfl, rfl⟩ ⟨Nat.zero_le _, Nat.zero_le _⟩ (Nat.le_of_ble_eq_true rfl) rfl rfl dX1_withdraw_53 (fun σ7 _ => ?_)
    refine g_aload_n (pc := 56) (i := 0) C dX1_withdraw_56 rfl rfl ?_
    refine g_iload_n (pc := 57) (i := 2) C dX1_withdraw_57 rfl rfl ?_
    refine g_callVi (pc := 58) (As := [.int (r1)]) C (kX1_tabCount X σ7 b r1 hb) (blk hb 0 rfl) rfl q_12_20 q_12_21 q_12_22 q_2_23 q_12_23 ⟨rfl, hdX1_tabCount⟩ ⟨Nat.le_of_ble_eq_true rfl, Nat.le_of_ble_eq_true rfl, rfl, rfl⟩ ⟨Nat.zero_le _, Nat.zero_le _⟩ (Nat.le_of_ble_eq_true rfl) rfl rfl dX1_withdraw_58 (fun r8 _ => ?_)
    refine g_if_ne (pc := 61) (tgt := 69) C dX1_withdraw_61 rfl ?_ ?_
    · refine g_aload_n (pc := 64) (i := 0) C dX1_withdraw_64 rfl rfl ?_
      refine g_iload_n (pc := 65) (i := 2) C dX1_withdraw_65 rfl rfl ?_
      refine g_callVv (pc := 66) (As := [.int (r1)]) C (kX1_removeGroup X σ7 b r1 hb) (blk hb 0 rfl) rfl q_13_4 q_13_5 q_13_6 q_2_23 q_13_7 ⟨rfl, hdX1_removeGroup⟩ ⟨Nat.le_of_ble_eq_true rfl, Nat.le_of_ble_eq_true rfl, rfl, rfl⟩ ⟨Nat.zero_le _, Nat.zero_le _⟩ (Nat.le_of_ble_eq_true rfl) rfl rfl dX1_withdraw_66 (fun σ9 _ => ?_)
      exact g_vret (pc := 69) C hr dX1_withdraw_69 rfl
    · exact g_vret (pc := 69) C hr dX1_withdraw_69 rfl
theorem dX1_rootOf_0 : decode cX1_rootOf 0 = .ok (.aload_n 0, 1) := by decide +kernel
theorem dX1_rootOf_1 : decode cX1_rootOf 1 = .ok (.getfield 24, 3) := by decide +kernel
theorem dX1_rootOf_4 : decode cX1_rootOf 4 = .ok (.iload_n 1, 1) := by decide +kernel
theorem dX1_rootOf_5 : decode cX1_rootOf 5 = .ok (.invokestatic 72, 3) := by decide +kernel
theorem dX1_rootOf_8 : decode cX1_rootOf 8 = .ok (.ireturn, 1) := by decide +kernel
abbrev rmX1_rootOf : Room := { frames := 1, cells := 0, slots := 0, locals := 21 }
theorem hdX1_rootOf : yX1_rootOf.cls ≠ "java/lang/invoke/MethodHandle" ∧ yX1_rootOf.cls ≠ "java/lang/invoke/VarHandle" ∧ (parseMethodDescriptor yX1_rootOf.desc).map (fun d => d.parameters.length) = some 1 := by decide +kernel
def fX1_rootOf (σ : Sg) (b : Nat) (p1 : Int32) : Option Int32 :=
  (fX8_at σ (b + 5) 5 p1).bind fun r1 =>
  some r1
theorem kX1_rootOf (X : Xc) (σ : Sg) (b : Nat) (p1 : Int32) (hb : plOK b) : ∀ r, fX1_rootOf σ b p1 = some r → Met X.l yX1_rootOf (wsM yX1_rootOf cX1_rootOf 2 (some .int)) rmX1_rootOf (va_Pc [.ref (X.ad b), .int p1] (PW X σ)) (Qi X r σ) 0 0 X.A := by
  refine mt_of (own := RX1) (lo := [some (.ref (X.ad b)), some (.int (p1))]) (by decide) rfl (Nat.le_of_ble_eq_true rfl) rfl (fun K C hr => ?_)
  unfold fX1_rootOf
  refine g_aload_n (pc := 0) (i := 0) C dX1_rootOf_0 rfl rfl ?_
  refine g_getr (pc := 1) (ci := 1) (N := 14) (T := TX1) (j := 4) (Cn := RX1) (b + 5) C rfl inlX1 (Nat.le_of_ble_eq_true rfl) q_3_14 (blk hb 0 rfl) rfl dX1_rootOf_1 ?_
  refine g_iload_n (pc := 4) (i := 1) C dX1_rootOf_4 rfl rfl ?_
  refine g_callNi (pc := 5) (As := [.ref (X.ad (b + 5)), .int (p1)]) C (kX8_at X σ (b + 5) 5 p1 (blk hb 5 rfl)) (List.mem_of_getElem? (i := 4) rfl) q_11_22 q_1_2 q_11_23 hdX8_at ⟨Nat.le_of_ble_eq_true rfl, Nat.le_of_ble_eq_true rfl, rfl, rfl⟩ ⟨Nat.zero_le _, Nat.zero_le _⟩ (Nat.le_of_ble_eq_true rfl) rfl rfl dX1_rootOf_5 (fun r1 _ => ?_)
  exact g_iret (pc := 8) C hr dX1_rootOf_8 rfl
theorem dX1_kindOf_0 : decode cX1_kindOf 0 = .ok (.aload_n 0, 1) := by decide +kernel
theorem dX1_kindOf_1 : decode cX1_kindOf 1 = .ok (.getfield 34, 3) := by decide +kernel
theorem dX1_kindOf_4 : decode cX1_kindOf 4 = .ok (.iload_n 1, 1) := by decide +kernel
theorem dX1_kindOf_5 : decode cX1_kindOf 5 = .ok (.invokestatic 72, 3) := by decide +kernel
theorem dX1_kindOf_8 : decode cX1_kindOf 8 = .ok (.ireturn, 1) := by decide +kernel
abbrev rmX1_kindOf : Room := { frames := 1, cells := 0, slots := 0, locals := 21 }
theorem hdX1_kindOf : yX1_kindOf.cls ≠ "java/lang/invoke/MethodHandle" ∧ yX1_kindOf.cls ≠ "java/lang/invoke/VarHandle" ∧ (parseMethodDescriptor yX1_kindOf.desc).map (fun d => d.parameters.length) = some 1 := by decide +kernel
def fX1_kindOf (σ : Sg) (b : Nat) (p1 : Int32) : Option Int32 :=
  (fX8_at σ (b + 8) 23 p1).bind fun r1 =>
  some r1
theorem kX1_kindOf (X : Xc) (σ : Sg) (b : Nat) (p1 : Int32) (hb : plOK b) : ∀ r, fX1_kindOf σ b p1 = some r → Met X.l yX1_kindOf (wsM yX1_kindOf cX1_kindOf 2 (some .int)) rmX1_kindOf (va_Pc [.ref (X.ad b), .int p1] (PW X σ)) (Qi X r σ) 0 0 X.A := by
  refine mt_of (own := RX1) (lo := [some (.ref (X.ad b)), some (.int (p1))]) (by decide) rfl (Nat.le_of_ble_eq_true rfl) rfl (fun K C hr => ?_)
  unfold fX1_kindOf
  refine g_aload_n (pc := 0) (i := 0) C dX1_kindOf_0 rfl rfl ?_
  refine g_getr (pc := 1) (ci := 1) (N := 14) (T := TX1) (j := 6) (Cn := RX1) (b + 8) C rfl inlX1 (Nat.le_of_ble_eq_true rfl) q_3_17 (blk hb 0 rfl) rfl dX1_kindOf_1 ?_
  refine g_iload_n (pc := 4) (i := 1) C dX1_kindOf_4 rfl rfl ?_
  refine g_callNi (pc := 5) (As := [.ref (X.ad (b + 8)), .int (p1)]) C (kX8_at X σ (b + 8) 23 p1 (blk hb 8 rfl)) (List.mem_of_getElem? (i := 4) rfl) q_11_22 q_1_2 q_11_23 hdX8_at ⟨Nat.le_of_ble_eq_true rfl, Nat.le_of_ble_eq_true rfl, rfl, rfl⟩ ⟨Nat.zero_le _, Nat.zero_le _⟩ (Nat.le_of_ble_eq_true rfl) rfl rfl dX1_kindOf_5 (fun r1 _ => ?_)
  exact g_iret (pc := 8) C hr dX1_kindOf_8 rfl
theorem dX1_weightOf_0 : decode cX1_weightOf 0 = .ok (.aload_n 0, 1) := by decide +kernel
theorem dX1_weightOf_1 : decode cX1_weightOf 1 = .ok (.getfield 43, 3) := by decide +kernel
theorem dX1_weightOf_4 : decode cX1_weightOf 4 = .ok (.iload_n 1, 1) := by decide +kernel
theorem dX1_weightOf_5 : decode cX1_weightOf 5 = .ok (.invokestatic 72, 3) := by decide +kernel
theorem dX1_weightOf_8 : decode cX1_weightOf 8 = .ok (.ireturn, 1) := by decide +kernel
abbrev rmX1_weightOf : Room := { frames := 1, cells := 0, slots := 0, locals := 21 }
theorem hdX1_weightOf : yX1_weightOf.cls ≠ "java/lang/invoke/MethodHandle" ∧ yX1_weightOf.cls ≠ "java/lang/invoke/VarHandle" ∧ (parseMethodDescriptor yX1_weightOf.desc).map (fun d => d.parameters.length) = some 1 := by decide +kernel
def fX1_weightOf (σ : Sg) (b : Nat) (p1 : Int32) : Option Int32 :=
  (fX8_at σ (b + 11) 23 p1).bind fun r1 =>
  some r1
theorem kX1_weightOf (X : Xc) (σ : Sg) (b : Nat) (p1 : Int32) (hb : plOK b) : ∀ r, fX1_weightOf σ b p1 = some r → Met X.l yX1_weightOf (wsM yX1_weightOf cX1_weightOf 2 (some .int)) rmX1_weightOf (va_Pc [.ref (X.ad b), .int p1] (PW X σ)) (Qi X r σ) 0 0 X.A := by
  refine mt_of (own := RX1) (lo := [some (.ref (X.ad b)), some (.int (p1))]) (by decide) rfl (Nat.le_of_ble_eq_true rfl) rfl (fun K C hr => ?_)
  unfold fX1_weightOf
  refine g_aload_n (pc := 0) (i := 0) C dX1_weightOf_0 rfl rfl ?_
  refine g_getr (pc := 1) (ci := 1) (N := 14) (T := TX1) (j := 9) (Cn := RX1) (b + 11) C rfl inlX1 (Nat.le_of_ble_eq_true rfl) q_3_20 (blk hb 0 rfl) rfl dX1_weightOf_1 ?_
  refine g_iload_n (pc := 4) (i := 1) C dX1_weightOf_4 rfl rfl ?_
  refine g_callNi (pc := 5) (As := [.ref (X.ad (b + 11)), .int (p1)]) C (kX8_at X σ (b + 11) 23 p1 (blk hb 11 rfl)) (List.mem_of_getElem? (i := 4) rfl) q_11_22 q_1_2 q_11_23 hdX8_at ⟨Nat.le_of_ble_eq_true rfl, Nat.le_of_ble_eq_true rfl, rfl, rfl⟩ ⟨Nat.zero_le _, Nat.zero_le _⟩ (Nat.le_of_ble_eq_true rfl) rfl rfl dX1_weightOf_5 (fun r1 _ => ?_)
  exact g_iret (pc := 8) C hr dX1_weightOf_8 rfl
theorem dX1_activeOf_0 : decode cX1_activeOf 0 = .ok (.aload_n 0, 1) := by decide +kernel
theorem dX1_activeOf_1 : decode cX1_activeOf 1 = .ok (.getfield 46, 3) := by decide +kernel
theorem dX1_activeOf_4 : decode cX1_activeOf 4 = .ok (.iload_n 1, 1) := by decide +kernel
theorem dX1_activeOf_5 : decode cX1_activeOf 5 = .ok (.invokestatic 72, 3) := by decide +kernel
theorem dX1_activeOf_8 : decode cX1_activeOf 8 = .ok (.ireturn, 1) := by decide +kernel
abbrev rmX1_activeOf : Room := { frames := 1, cells := 0, slots := 0, locals := 21 }
theorem hdX1_activeOf : yX1_activeOf.cls ≠ "java/lang/invoke/MethodHandle" ∧ yX1_activeOf.cls ≠ "java/lang/invoke/VarHandle" ∧ (parseMethodDescriptor yX1_activeOf.desc).map (fun d => d.parameters.length) = some 1 := by decide +kernel
def fX1_activeOf (σ : Sg) (b : Nat) (p1 : Int32) : Option Int32 :=
  (fX8_at σ (b + 12) 23 p1).bind fun r1 =>
  some r1
theorem kX1_activeOf (X : Xc) (σ : Sg) (b : Nat) (p1 : Int32) (hb : plOK b) : ∀ r, fX1_activeOf σ b p1 = some r → Met X.l yX1_activeOf (wsM yX1_activeOf cX1_activeOf 2 (some .int)) rmX1_activeOf (va_Pc [.ref (X.ad b), .int p1] (PW X σ)) (Qi X r σ) 0 0 X.A := by
  refine mt_of (own := RX1) (lo := [some (.ref (X.ad b)), some (.int (p1))]) (by decide) rfl (Nat.le_of_ble_eq_true rfl) rfl (fun K C hr => ?_)
  unfold fX1_activeOf
  refine g_aload_n (pc := 0) (i := 0) C dX1_activeOf_0 rfl rfl ?_
  refine g_getr (pc := 1) (ci := 1) (N := 14) (T := TX1) (j := 10) (Cn := RX1) (b + 12) C rfl inlX1 (Nat.le_of_ble_eq_true rfl) q_3_21 (blk hb 0 rfl) rfl dX1_activeOf_1 ?_
  refine g_iload_n (pc := 4) (i := 1) C dX1_activeOf_4 rfl rfl ?_
  refine g_callNi (pc := 5) (As := [.ref (X.ad (b + 12)), .int (p1)]) C (kX8_at X σ (b + 12) 23 p1 (blk hb 12 rfl)) (List.mem_of_getElem? (i := 4) rfl) q_11_22 q_1_2 q_11_23 hdX8_at ⟨Nat.le_of_ble_eq_true rfl, Nat.le_of_ble_eq_true rfl, rfl, rfl⟩ ⟨Nat.zero_le _, Nat.zero_le _⟩ (Nat.le_of_ble_eq_true rfl) rfl rfl dX1_activeOf_5 (fun r1 _ => ?_)
  exact g_iret (pc := 8) C hr dX1_activeOf_8 rfl
theorem dX1_parentOf_0 : decode cX1_parentOf 0 = .ok (.aload_n 0, 1) := by decide +kernel
theorem dX1_parentOf_1 : decode cX1_parentOf 1 = .ok (.getfield 37, 3) := by decide +kernel
theorem dX1_parentOf_4 : decode cX1_parentOf 4 = .ok (.iload_n 1, 1) := by decide +kernel
theorem dX1_parentOf_5 : decode cX1_parentOf 5 = .ok (.invokestatic 72, 3) := by decide +kernel
theorem dX1_parentOf_8 : decode cX1_parentOf 8 = .ok (.ireturn, 1) := by decide +kernel
abbrev rmX1_parentOf : Room := { frames := 1, cells := 0, slots := 0, locals := 21 }
theorem hdX1_parentOf : yX1_parentOf.cls ≠ "java/lang/invoke/MethodHandle" ∧ yX1_parentOf.cls ≠ "java/lang/invoke/VarHandle" ∧ (parseMethodDescriptor yX1_parentOf.desc).map (fun d => d.parameters.length) = some 1 := by decide +kernel
def fX1_parentOf (σ : Sg) (b : Nat) (p1 : Int32) : Option Int32 :=
  (fX8_at σ (b + 9) 23 p1).bind fun r1 =>
  some r1
theorem kX1_parentOf (X : Xc) (σ : Sg) (b : Nat) (p1 : Int32) (hb : plOK b) : ∀ r, fX1_parentOf σ b p1 = some r → Met X.l yX1_parentOf (wsM yX1_parentOf cX1_parentOf 2 (some .int)) rmX1_parentOf (va_Pc [.ref (X.ad b), .int p1] (PW X σ)) (Qi X r σ) 0 0 X.A := by
  refine mt_of (own := RX1) (lo := [some (.ref (X.ad b)), some (.int (p1))]) (by decide) rfl (Nat.le_of_ble_eq_true rfl) rfl (fun K C hr => ?_)
  unfold fX1_parentOf
  refine g_aload_n (pc := 0) (i := 0) C dX1_parentOf_0 rfl rfl ?_
  refine g_getr (pc := 1) (ci := 1) (N := 14) (T := TX1) (j := 7) (Cn := RX1) (b + 9) C rfl inlX1 (Nat.le_of_ble_eq_true rfl) q_3_18 (blk hb 0 rfl) rfl dX1_parentOf_1 ?_
  refine g_iload_n (pc := 4) (i := 1) C dX1_parentOf_4 rfl rfl ?_
  refine g_callNi (pc := 5) (As := [.ref (X.ad (b + 9)), .int (p1)]) C (kX8_at X σ (b + 9) 23 p1 (blk hb 9 rfl)) (List.mem_of_getElem? (i := 4) rfl) q_11_22 q_1_2 q_11_23 hdX8_at ⟨Nat.le_of_ble_eq_true rfl, Nat.le_of_ble_eq_true rfl, rfl, rfl⟩ ⟨Nat.zero_le _, Nat.zero_le _⟩ (Nat.le_of_ble_eq_true rfl) rfl rfl dX1_parentOf_5 (fun r1 _ => ?_)
  exact g_iret (pc := 8) C hr dX1_parentOf_8 rfl
theorem dX1_windowExists_0 : decode cX1_windowExists 0 = .ok (.iload_n 1, 1) := by decide +kernel
theorem dX1_windowExists_1 : decode cX1_windowExists 1 = .ok (.ifCond .eq 12, 3) := by decide +kernel
theorem dX1_windowExists_4 : decode cX1_windowExists 4 = .ok (.aload_n 0, 1) := by decide +kernel
theorem dX1_windowExists_5 : decode cX1_windowExists 5 = .ok (.iload_n 1, 1) := by decide +kernel
theorem dX1_windowExists_6 : decode cX1_windowExists 6 = .ok (.invokevirtual 80, 3) := by decide +kernel
theorem dX1_windowExists_9 : decode cX1_windowExists 9 = .ok (.iconst (-1), 1) := by decide +kernel
theorem dX1_windowExists_10 : decode cX1_windowExists 10 = .ok (.if_icmp .eq 7, 3) := by decide +kernel
theorem dX1_windowExists_13 : decode cX1_windowExists 13 = .ok (.iconst 1, 1) := by decide +kernel
theorem dX1_windowExists_14 : decode cX1_windowExists 14 = .ok (.goto 4, 3) := by decide +kernel
theorem dX1_windowExists_17 : decode cX1_windowExists 17 = .ok (.iconst 0, 1) := by decide +kernel
theorem dX1_windowExists_18 : decode cX1_windowExists 18 = .ok (.ireturn, 1) := by decide +kernel
abbrev rmX1_windowExists : Room := { frames := 2, cells := 0, slots := 0, locals := 42 }
theorem hdX1_windowExists : yX1_windowExists.cls ≠ "java/lang/invoke/MethodHandle" ∧ yX1_windowExists.cls ≠ "java/lang/invoke/VarHandle" ∧ (parseMethodDescriptor yX1_windowExists.desc).map (fun d => d.parameters.length) = some 1 := by decide +kernel
def fX1_windowExists (σ : Sg) (b : Nat) (p1 : Int32) : Option Bool :=
  if p1 = 0 then
    some true
  else
    (fX1_rootOf σ b p1).bind fun r1 =>
    if r1 = (-1) then
      some false
    else
      some true
theorem kX1_windowExists (X : Xc) (σ : Sg) (b : Nat) (p1 : Int32) (hb : plOK b) : ∀ r, fX1_windowExists σ b p1 = some r → Met X.l yX1_windowExists (wsM yX1_windowExists cX1_windowExists 2 (some .boolean)) rmX1_windowExists (va_Pc [.ref (X.ad b), .int p1] (PW X σ)) (Qi X (b2i r) σ) 0 0 X.A := by
  refine mt_of (own := RX1) (lo := [some (.ref (X.ad b)), some (.int (p1))]) (by decide) rfl (Nat.le_of_ble_eq_true rfl) rfl (fun K C hr => ?_)
  unfold fX1_windowExists
  refine g_iload_n (pc := 0) (i := 1) C dX1_windowExists_0 rfl rfl ?_
  refine g_if_eq (pc := 1) (tgt := 13) C dX1_windowExists_1 rfl ?_ ?_
  · refine g_iconst (pc := 13) (v := 1) C dX1_windowExists_13 (by decide) ?_
    refine g_goto (pc := 14) (tgt := 18) C dX1_windowExists_14 rfl ?_
    exact g_zret (pc := 18) C hr dX1_windowExists_18 rfl
  · refine g_aload_n (pc := 4) (i := 0) C dX1_windowExists_4 rfl rfl ?_
    refine g_iload_n (pc := 5) (i := 1) C dX1_windowExists_5 rfl rfl ?_
    refine g_callVi (pc := 6) (As := [.int (p1)]) C (kX1_rootOf X σ b p1 hb) (blk hb 0 rfl) rfl q_29_18 q_15_12 q_15_13 q_2_23 q_15_14 ⟨rfl, hdX1_rootOf⟩ ⟨Nat.le_of_ble_eq_true rfl, Nat.le_of_ble_eq_true rfl, rfl, rfl⟩ ⟨Nat.zero_le _, Nat.zero_le _⟩ (Nat.le_of_ble_eq_true rfl) rfl rfl dX1_windowExists_6 (fun r1 _ => ?_)
    refine g_iconst (pc := 9) (v := (-1)) C dX1_windowExists_9 (by decide) ?_
    refine g_icmp_eq (pc := 10) (tgt := 17) C dX1_windowExists_10 rfl ?_ ?_
    · refine g_iconst (pc := 17) (v := 0) C dX1_windowExists_17 (by decide) ?_
      exact g_zret (pc := 18) C hr dX1_windowExists_18 rfl
    · refine g_iconst (pc := 13) (v := 1) C dX1_windowExists_13 (by decide) ?_
      refine g_goto (pc := 14) (tgt := 18) C dX1_windowExists_14 rfl ?_
      exact g_zret (pc := 18) C hr dX1_windowExists_18 rfl
theorem dX1_setSize_0 : decode cX1_setSize 0 = .ok (.aload_n 0, 1) := by decide +kernel
theorem dX1_setSize_1 : decode cX1_setSize 1 = .ok (.getfield 18, 3) := by decide +kernel
theorem dX1_setSize_4 : decode cX1_setSize 4 = .ok (.iload_n 1, 1) := by decide +kernel
theorem dX1_setSize_5 : decode cX1_setSize 5 = .ok (.iload_n 2, 1) := by decide +kernel
theorem dX1_setSize_6 : decode cX1_setSize 6 = .ok (.invokestatic 76, 3) := by decide +kernel
theorem dX1_setSize_9 : decode cX1_setSize 9 = .ok (.aload_n 0, 1) := by decide +kernel
theorem dX1_setSize_10 : decode cX1_setSize 10 = .ok (.getfield 21, 3) := by decide +kernel
theorem dX1_setSize_13 : decode cX1_setSize 13 = .ok (.iload_n 1, 1) := by decide +kernel
theorem dX1_setSize_14 : decode cX1_setSize 14 = .ok (.iload_n 3, 1) := by decide +kernel
theorem dX1_setSize_15 : decode cX1_setSize 15 = .ok (.invokestatic 76, 3) := by decide +kernel
theorem dX1_setSize_18 : decode cX1_setSize 18 = .ok (.return_, 1) := by decide +kernel
abbrev rmX1_setSize : Room := { frames := 1, cells := 0, slots := 0, locals := 22 }
theorem hdX1_setSize : yX1_setSize.cls ≠ "java/lang/invoke/MethodHandle" ∧ yX1_setSize.cls ≠ "java/lang/invoke/VarHandle" ∧ (parseMethodDescriptor yX1_setSize.desc).map (fun d => d.parameters.length) = some 3 := by decide +kernel
def fX1_setSize (σ : Sg) (b : Nat) (p1 : Int32) (p2 : Int32) (p3 : Int32) : Option Sg :=
  (fX8_put σ (b + 3) 5 p1 p2).bind fun σ1 =>
  (fX8_put σ1 (b + 4) 5 p1 p3).bind fun σ2 =>
  some σ2
theorem kX1_setSize (X : Xc) (σ : Sg) (b : Nat) (p1 : Int32) (p2 : Int32) (p3 : Int32) (hb : plOK b) : ∀ r, fX1_setSize σ b p1 p2 p3 = some r → Met X.l yX1_setSize (wsM yX1_setSize cX1_setSize 4 none) rmX1_setSize (va_Pc [.ref (X.ad b), .int p1, .int p2, .int p3] (PW X σ)) (Qv X r) 0 0 X.A := by
  refine mt_of (own := RX1) (lo := [some (.ref (X.ad b)), some (.int (p1)), some (.int (p2)), some (.int (p3))]) (by decide) rfl (Nat.le_of_ble_eq_true rfl) rfl (fun K C hr => ?_)
  unfold fX1_setSize
  refine g_aload_n (pc := 0) (i := 0) C dX1_setSize_0 rfl rfl ?_
  refine g_getr (pc := 1) (ci := 1) (N := 14) (T := TX1) (j := 2) (Cn := RX1) (b + 3) C rfl inlX1 (Nat.le_of_ble_eq_true rfl) q_3_12 (blk hb 0 rfl) rfl dX1_setSize_1 ?_
  refine g_iload_n (pc := 4) (i := 1) C dX1_setSize_4 rfl rfl ?_
  refine g_iload_n (pc := 5) (i := 2) C dX1_setSize_5 rfl rfl ?_
  refine g_callNv (pc := 6) (As := [.ref (X.ad (b + 3)), .int (p1), .int (p2)]) C (kX8_put X σ (b + 3) 5 p1 p2 (blk hb 3 rfl)) (List.mem_of_getElem? (i := 5) rfl) q_9_20 q_1_2 q_9_21 hdX8_put ⟨Nat.le_of_ble_eq_true rfl, Nat.le_of_ble_eq_true rfl, rfl, rfl⟩ ⟨Nat.zero_le _, Nat.zero_le _⟩ (Nat.le_of_ble_eq_true rfl) rfl rfl dX1_setSize_6 (fun σ1 _ => ?_)
  refine g_aload_n (pc := 9) (i := 0) C dX1_setSize_9 rfl rfl ?_
  refine g_getr (pc := 10) (ci := 1) (N := 14) (T := TX1) (j := 3) (Cn := RX1) (b + 4) C rfl inlX1 (Nat.le_of_ble_eq_true rfl) q_3_13 (blk hb 0 rfl) rfl dX1_setSize_10 ?_
  refine g_iload_n (pc := 13) (i := 1) C dX1_setSize_13 rfl rfl ?_
  refine g_iload_n (pc := 14) (i := 3) C dX1_setSize_14 rfl rfl ?_
  refine g_callNv (pc := 15) (As := [.ref (X.ad (b + 4)), .int (p1), .int (p3)]) C (kX8_put X σ1 (b + 4) 5 p1 p3 (blk hb 4 rfl)) (List.mem_of_getElem? (i := 5) rfl) q_9_20 q_1_2 q_9_21 hdX8_put ⟨Nat.le_of_ble_eq_true rfl, Nat.le_of_ble_eq_true rfl, rfl, rfl⟩ ⟨Nat.zero_le _, Nat.zero_le _⟩ (Nat.le_of_ble_eq_true rfl) rfl rfl dX1_setSize_15 (fun σ2 _ => ?_)
  exact g_vret (pc := 18) C hr dX1_setSize_18 rfl
theorem dX1_panesIn_0 : decode cX1_panesIn 0 = .ok (.iconst 0, 1) := by decide +kernel
theorem dX1_panesIn_1 : decode cX1_panesIn 1 = .ok (.istore_n 2, 1) := by decide +kernel
theorem dX1_panesIn_2 : decode cX1_panesIn 2 = .ok (.iconst 0, 1) := by decide +kernel
theorem dX1_panesIn_3 : decode cX1_panesIn 3 = .ok (.istore_n 3, 1) := by decide +kernel
theorem dX1_panesIn_4 : decode cX1_panesIn 4 = .ok (.iload_n 3, 1) := by decide +kernel
theorem dX1_panesIn_5 : decode cX1_panesIn 5 = .ok (.bipush 12, 2) := by decide +kernel
theorem dX1_panesIn_7 : decode cX1_panesIn 7 = .ok (.if_icmp .ge 39, 3) := by decide +kernel
theorem dX1_panesIn_10 : decode cX1_panesIn 10 = .ok (.iload_n 2, 1) := by decide +kernel
theorem dX1_panesIn_11 : decode cX1_panesIn 11 = .ok (.aload_n 0, 1) := by decide +kernel
theorem dX1_panesIn_12 : decode cX1_panesIn 12 = .ok (.iload_n 3, 1) := by decide +kernel
theorem dX1_panesIn_13 : decode cX1_panesIn 13 = .ok (.invokevirtual 84, 3) := by decide +kernel
theorem dX1_panesIn_16 : decode cX1_panesIn 16 = .ok (.iconst (-1), 1) := by decide +kernel
theorem dX1_panesIn_17 : decode cX1_panesIn 17 = .ok (.if_icmp .eq 20, 3) := by decide +kernel
theorem dX1_panesIn_20 : decode cX1_panesIn 20 = .ok (.aload_n 0, 1) := by decide +kernel
theorem dX1_panesIn_21 : decode cX1_panesIn 21 = .ok (.aload_n 0, 1) := by decide +kernel
theorem dX1_panesIn_22 : decode cX1_panesIn 22 = .ok (.iload_n 3, 1) := by decide +kernel
theorem dX1_panesIn_23 : decode cX1_panesIn 23 = .ok (.invokevirtual 84, 3) := by decide +kernel
theorem dX1_panesIn_26 : decode cX1_panesIn 26 = .ok (.invokevirtual 87, 3) := by decide +kernel
theorem dX1_panesIn_29 : decode cX1_panesIn 29 = .ok (.iload_n 1, 1) := by decide +kernel
theorem dX1_panesIn_30 : decode cX1_panesIn 30 = .ok (.if_icmp .ne 7, 3) := by decide +kernel
theorem dX1_panesIn_33 : decode cX1_panesIn 33 = .ok (.iconst 1, 1) := by decide +kernel
theorem dX1_panesIn_34 : decode cX1_panesIn 34 = .ok (.goto 4, 3) := by decide +kernel
theorem dX1_panesIn_37 : decode cX1_panesIn 37 = .ok (.iconst 0, 1) := by decide +kernel
theorem dX1_panesIn_38 : decode cX1_panesIn 38 = .ok (.iadd, 1) := by decide +kernel
theorem dX1_panesIn_39 : decode cX1_panesIn 39 = .ok (.istore_n 2, 1) := by decide +kernel
theorem dX1_panesIn_40 : decode cX1_panesIn 40 = .ok (.iinc 3 1, 3) := by decide +kernel
theorem dX1_panesIn_43 : decode cX1_panesIn 43 = .ok (.goto (-39), 3) := by decide +kernel
theorem dX1_panesIn_46 : decode cX1_panesIn 46 = .ok (.iload_n 2, 1) := by decide +kernel
theorem dX1_panesIn_47 : decode cX1_panesIn 47 = .ok (.ireturn, 1) := by decide +kernel
abbrev rmX1_panesIn : Room := { frames := 2, cells := 0, slots := 0, locals := 44 }
theorem hdX1_panesIn : yX1_panesIn.cls ≠ "java/lang/invoke/MethodHandle" ∧ yX1_panesIn.cls ≠ "java/lang/invoke/VarHandle" ∧ (parseMethodDescriptor yX1_panesIn.desc).map (fun d => d.parameters.length) = some 1 := by decide +kernel
def fX1_panesIn_38 (σ : Sg) (b : Nat) (k4 : Int32 → Int32 → Int32 → Option Int32) (l1 : Int32) (l3 : Int32) (s0 : Int32) (s1 : Int32) : Option Int32 :=
  nm (s0 + s1) fun v4 =>
  (k4 l1 v4 (l3 + 1))
theorem bX1_panesIn_38 {X : Xc} {K : Kc} (C : MC X K cX1_panesIn 4 RX1 rmX1_panesIn) (hr : K.meth.sig.returnType = (some .int)) (σ : Sg) (b : Nat) (hb : plOK b){k4 : Int32 → Int32 → Int32 → Option Int32} (hk4 : ∀ (l1 : Int32) (l2 : Int32) (l3 : Int32), GO X K 4 (fun r => MQi X K r σ) (k4 l1 l2 l3) σ 0 0 4 [some (.ref (X.ad b)), some (.int (l1)), some (.int (l2)), some (.int (l3))] []) (l1 : Int32) (l3 : Int32) (s0 : Int32) (s1 : Int32) : GO X K 4 (fun r => MQi X K r σ) (fX1_panesIn_38 σ b k4 l1 l3 s0 s1) σ 0 0 38 [some (.ref (X.ad b)), some (.int (l1)), none, some (.int (l3))] [.int (s1), .int (s0)] := by
  unfold fX1_panesIn_38
  refine g_iadd (pc := 38) C dX1_panesIn_38 ?_
  refine g_nm (fun v4 => ?_)
  refine g_istore_n (pc := 39) (i := 2) C dX1_panesIn_39 rfl (Nat.le_of_ble_eq_true rfl) rfl ?_
  refine g_iinc (pc := 40) (v := l3 + 1) C dX1_panesIn_40 rfl (rfl) (Nat.le_of_ble_eq_true rfl) rfl ?_
  refine g_goto (pc := 43) (tgt := 4) C dX1_panesIn_43 rfl ?_
  refine g_keep [true, true, true, true] ?_
  exact hk4 l1 v4 (l3 + 1)
def fX1_panesIn_37 (σ : Sg) (b : Nat) (k4 : Int32 → Int32 → Int32 → Option Int32) (l1 : Int32) (l3 : Int32) (s0 : Int32) : Option Int32 :=
  (fX1_panesIn_38 σ b k4 l1 l3 s0 0)
theorem bX1_panesIn_37 {X : Xc} {K : Kc} (C : MC X K cX1_panesIn 4 RX1 rmX1_panesIn) (hr : K.meth.sig.returnType = (some .int)) (σ : Sg) (b : Nat) (hb : plOK b){k4 : Int32 → Int32 → Int32 → Option Int32} (hk4 : ∀ (l1 : Int32) (l2 : Int32) (l3 : Int32), GO X K 4 (fun r => MQi X K r σ) (k4 l1 l2 l3) σ 0 0 4 [some (.ref (X.ad b)), some (.int (l1)), some (.int (l2)), some (.int (l3))] []) (l1 : Int32) (l3 : Int32) (s0 : Int32) : GO X K 4 (fun r => MQi X K r σ) (fX1_panesIn_37 σ b k4 l1 l3 s0) σ 0 0 37 [some (.ref (X.ad b)), some (.int (l1)), none, some (.int (l3))] [.int (s0)] := by
  unfold fX1_panesIn_37
  refine g_iconst (pc := 37) (v := 0) C dX1_panesIn_37 (by decide) ?_
  refine g_keep [true, true, false, true] ?_
  exact bX1_panesIn_38 C hr σ b hb hk4 l1 l3 s0 0
def fX1_panesIn_4 (σ : Sg) (b : Nat) : Nat → Int32 → Int32 → Int32 → Option Int32
  | 0, _, _, _ => none
  | n + 1, l1, l2, l3 =>
    if 12 ≤ l3 then
      some l2
    else
      (fX1_groupOf σ b l3).bind fun r1 =>
      if r1 = (-1) then
        (fX1_panesIn_37 σ b (fX1_panesIn_4 σ b n) l1 l3 l2)
      else
        (fX1_groupOf σ b l3).bind fun r2 =>
        (fX1_windowOf σ b r2).bind fun r3 =>
        if r3 = l1 then
          (fX1_panesIn_38 σ b (fX1_panesIn_4 σ b n) l1 l3 l2 1)
        else
          (fX1_panesIn_37 σ b (fX1_panesIn_4 σ b n) l1 l3 l2)
theorem bX1_panesIn_4 {X : Xc} {K : Kc} (C : MC X K cX1_panesIn 4 RX1 rmX1_panesIn) (hr : K.meth.sig.returnType = (some .int)) (σ : Sg) (b : Nat) (hb : plOK b) : ∀ (n : Nat) (l1 : Int32) (l2 : Int32) (l3 : Int32), GO X K 4 (fun r => MQi X K r σ) (fX1_panesIn_4 σ b n l1 l2 l3) σ 0 0 4 [some (.ref (X.ad b)), some (.int (l1)), some (.int (l2)), some (.int (l3))] [] := by
  intro n
  induction n with
  | zero =>
    intro l1 l2 l3
    exact g_none
  | succ n ih =>
    intro l1 l2 l3
    unfold fX1_panesIn_4
    refine g_iload_n (pc := 4) (i := 3) C dX1_panesIn_4 rfl rfl ?_
    refine g_bipush (pc := 5) (v := 12) C dX1_panesIn_5 (by decide) ?_
    refine g_icmp_ge (pc := 7) (tgt := 46) C dX1_panesIn_7 rfl ?_ ?_
    · refine g_iload_n (pc := 46) (i := 2) C dX1_panesIn_46 rfl rfl ?_
      exact g_iret (pc := 47) C hr dX1_panesIn_47 rfl
    · refine g_iload_n (pc := 10) (i := 2) C dX1_panesIn_10 rfl rfl ?_
      refine g_aload_n (pc := 11) (i := 0) C dX1_panesIn_11 rfl rfl ?_
      refine g_iload_n (pc := 12) (i := 3) C dX1_panesIn_12 rfl rfl ?_
      refine g_callVi (pc := 13) (As := [.int (l3)]) C (kX1_groupOf X σ b l3 hb) (blk hb 0 rfl) rfl q_11_18 q_11_19 q_11_20 q_2_23 q_11_21 ⟨rfl, hdX1_groupOf⟩ ⟨Nat.le_of_ble_eq_true rfl, Nat.le_of_ble_eq_true rfl, rfl, rfl⟩ ⟨Nat.zero_le _, Nat.zero_le _⟩ (Nat.le_of_ble_eq_true rfl) rfl rfl dX1_panesIn_13 (fun r1 _ => ?_)
      refine g_iconst (pc := 16) (v := (-1)) C dX1_panesIn_16 (by decide) ?_
      refine g_icmp_eq (pc := 17) (tgt := 37) C dX1_panesIn_17 rfl ?_ ?_
      · refine g_keep [true, true, false, true] ?_
        exact bX1_panesIn_37 C hr σ b hb ih l1 l3 l2
      · refine g_aload_n (pc := 20) (i := 0) C dX1_panesIn_20 rfl rfl ?_
        refine g_aload_n (pc := 21) (i := 0) C dX1_panesIn_21 rfl rfl ?_
        refine g_iload_n (pc := 22) (i := 3) C dX1_panesIn_22 rfl rfl ?_
        refine g_callVi (pc := 23) (As := [.int (l3)]) C (kX1_groupOf X σ b l3 hb) (blk hb 0 rfl) rfl q_11_18 q_11_19 q_11_20 q_2_23 q_11_21 ⟨rfl, hdX1_groupOf⟩ ⟨Nat.le_of_ble_eq_true rfl, Nat.le_of_ble_eq_true rfl, rfl, rfl⟩ ⟨Nat.zero_le _, Nat.zero_le _⟩ (Nat.le_of_ble_eq_true rfl) rfl rfl dX1_panesIn_23 (fun r2 _ => ?_)
        refine g_callVi (pc := 26) (As := [.int (r2)]) C (kX1_windowOf X σ b r2 hb) (blk hb 0 rfl) rfl q_13_8 q_13_9 q_13_10 q_2_23 q_13_11 ⟨rfl, hdX1_windowOf⟩ ⟨Nat.le_of_ble_eq_true rfl, Nat.le_of_ble_eq_true rfl, rfl, rfl⟩ ⟨Nat.zero_le _, Nat.zero_le _⟩ (Nat.le_of_ble_eq_true rfl) rfl rfl dX1_panesIn_26 (fun r3 _ => ?_)
        refine g_iload_n (pc := 29) (i := 1) C dX1_panesIn_29 rfl rfl ?_
        refine g_icmp_ne (pc := 30) (tgt := 37) C dX1_panesIn_30 rfl ?_ ?_
        · refine g_iconst (pc := 33) (v := 1) C dX1_panesIn_33 (by decide) ?_
          refine g_goto (pc := 34) (tgt := 38) C dX1_panesIn_34 rfl ?_
          refine g_keep [true, true, false, true] ?_
          exact bX1_panesIn_38 C hr σ b hb ih l1 l3 l2 1
        · refine g_keep [true, true, false, true] ?_
          exact bX1_panesIn_37 C hr σ b hb ih l1 l3 l2
def fX1_panesIn (σ : Sg) (b : Nat) (p1 : Int32) : Option Int32 :=
  (fX1_panesIn_4 σ b FU p1 0 0)
theorem kX1_panesIn (X : Xc) (σ : Sg) (b : Nat) (p1 : Int32) (hb : plOK b) : ∀ r, fX1_panesIn σ b p1 = some r → Met X.l yX1_panesIn (wsM yX1_panesIn cX1_panesIn 4 (some .int)) rmX1_panesIn (va_Pc [.ref (X.ad b), .int p1] (PW X σ)) (Qi X r σ) 0 0 X.A := by
  refine mt_of (own := RX1) (lo := [some (.ref (X.ad b)), some (.int (p1)), none, none]) (by decide) rfl (Nat.le_of_ble_eq_true rfl) rfl (fun K C hr => ?_)
  unfold fX1_panesIn
  refine g_iconst (pc := 0) (v := 0) C dX1_panesIn_0 (by decide) ?_
  refine g_istore_n (pc := 1) (i := 2) C dX1_panesIn_1 rfl (Nat.le_of_ble_eq_true rfl) rfl ?_
  refine g_iconst (pc := 2) (v := 0) C dX1_panesIn_2 (by decide) ?_
  refine g_istore_n (pc := 3) (i := 3) C dX1_panesIn_3 rfl (Nat.le_of_ble_eq_true rfl) rfl ?_
  refine g_keep [true, true, true, true] ?_
  exact bX1_panesIn_4 C hr σ b hb FU p1 0 0
theorem dX1_setCorner_0 : decode cX1_setCorner 0 = .ok (.aload_n 0, 1) := by decide +kernel
theorem dX1_setCorner_1 : decode cX1_setCorner 1 = .ok (.getfield 9, 3) := by decide +kernel
theorem dX1_setCorner_4 : decode cX1_setCorner 4 = .ok (.iload_n 1, 1) := by decide +kernel
theorem dX1_setCorner_5 : decode cX1_setCorner 5 = .ok (.iload_n 2, 1) := by decide +kernel
theorem dX1_setCorner_6 : decode cX1_setCorner 6 = .ok (.invokestatic 76, 3) := by decide +kernel
theorem dX1_setCorner_9 : decode cX1_setCorner 9 = .ok (.aload_n 0, 1) := by decide +kernel
theorem dX1_setCorner_10 : decode cX1_setCorner 10 = .ok (.getfield 15, 3) := by decide +kernel
theorem dX1_setCorner_13 : decode cX1_setCorner 13 = .ok (.iload_n 1, 1) := by decide +kernel
theorem dX1_setCorner_14 : decode cX1_setCorner 14 = .ok (.iload_n 3, 1) := by decide +kernel
theorem dX1_setCorner_15 : decode cX1_setCorner 15 = .ok (.invokestatic 76, 3) := by decide +kernel
theorem dX1_setCorner_18 : decode cX1_setCorner 18 = .ok (.return_, 1) := by decide +kernel
abbrev rmX1_setCorner : Room := { frames := 1, cells := 0, slots := 0, locals := 22 }
theorem hdX1_setCorner : yX1_setCorner.cls ≠ "java/lang/invoke/MethodHandle" ∧ yX1_setCorner.cls ≠ "java/lang/invoke/VarHandle" ∧ (parseMethodDescriptor yX1_setCorner.desc).map (fun d => d.parameters.length) = some 3 := by decide +kernel
def fX1_setCorner (σ : Sg) (b : Nat) (p1 : Int32) (p2 : Int32) (p3 : Int32) : Option Sg :=
  (fX8_put σ (b + 1) 5 p1 p2).bind fun σ1 =>
  (fX8_put σ1 (b + 2) 5 p1 p3).bind fun σ2 =>
  some σ2
theorem kX1_setCorner (X : Xc) (σ : Sg) (b : Nat) (p1 : Int32) (p2 : Int32) (p3 : Int32) (hb : plOK b) : ∀ r, fX1_setCorner σ b p1 p2 p3 = some r → Met X.l yX1_setCorner (wsM yX1_setCorner cX1_setCorner 4 none) rmX1_setCorner (va_Pc [.ref (X.ad b), .int p1, .int p2, .int p3] (PW X σ)) (Qv X r) 0 0 X.A := by
  refine mt_of (own := RX1) (lo := [some (.ref (X.ad b)), some (.int (p1)), some (.int (p2)), some (.int (p3))]) (by decide) rfl (Nat.le_of_ble_eq_true rfl) rfl (fun K C hr => ?_)
  unfold fX1_setCorner
  refine g_aload_n (pc := 0) (i := 0) C dX1_setCorner_0 rfl rfl ?_
  refine g_getr (pc := 1) (ci := 1) (N := 14) (T := TX1) (j := 0) (Cn := RX1) (b + 1) C rfl inlX1 (Nat.le_of_ble_eq_true rfl) q_3_10 (blk hb 0 rfl) rfl dX1_setCorner_1 ?_
  refine g_iload_n (pc := 4) (i := 1) C dX1_setCorner_4 rfl rfl ?_
  refine g_iload_n (pc := 5) (i := 2) C dX1_setCorner_5 rfl rfl ?_
  refine g_callNv (pc := 6) (As := [.ref (X.ad (b + 1)), .int (p1), .int (p2)]) C (kX8_put X σ (b + 1) 5 p1 p2 (blk hb 1 rfl)) (List.mem_of_getElem? (i := 5) rfl) q_9_20 q_1_2 q_9_21 hdX8_put ⟨Nat.le_of_ble_eq_true rfl, Nat.le_of_ble_eq_true rfl, rfl, rfl⟩ ⟨Nat.zero_le _, Nat.zero_le _⟩ (Nat.le_of_ble_eq_true rfl) rfl rfl dX1_setCorner_6 (fun σ1 _ => ?_)
  refine g_aload_n (pc := 9) (i := 0) C dX1_setCorner_9 rfl rfl ?_
  refine g_getr (pc := 10) (ci := 1) (N := 14) (T := TX1) (j := 1) (Cn := RX1) (b + 2) C rfl inlX1 (Nat.le_of_ble_eq_true rfl) q_3_11 (blk hb 0 rfl) rfl dX1_setCorner_10 ?_
  refine g_iload_n (pc := 13) (i := 1) C dX1_setCorner_13 rfl rfl ?_
  refine g_iload_n (pc := 14) (i := 3) C dX1_setCorner_14 rfl rfl ?_
  refine g_callNv (pc := 15) (As := [.ref (X.ad (b + 2)), .int (p1), .int (p3)]) C (kX8_put X σ1 (b + 2) 5 p1 p3 (blk hb 2 rfl)) (List.mem_of_getElem? (i := 5) rfl) q_9_20 q_1_2 q_9_21 hdX8_put ⟨Nat.le_of_ble_eq_true rfl, Nat.le_of_ble_eq_true rfl, rfl, rfl⟩ ⟨Nat.zero_le _, Nat.zero_le _⟩ (Nat.le_of_ble_eq_true rfl) rfl rfl dX1_setCorner_15 (fun σ2 _ => ?_)
  exact g_vret (pc := 18) C hr dX1_setCorner_18 rfl
theorem dX1_makeNode_0 : decode cX1_makeNode 0 = .ok (.iconst 0, 1) := by decide +kernel
theorem dX1_makeNode_1 : decode cX1_makeNode 1 = .ok (.istore_n 2, 1) := by decide +kernel
theorem dX1_makeNode_2 : decode cX1_makeNode 2 = .ok (.iload_n 2, 1) := by decide +kernel
theorem dX1_makeNode_3 : decode cX1_makeNode 3 = .ok (.bipush 23, 2) := by decide +kernel
theorem dX1_makeNode_5 : decode cX1_makeNode 5 = .ok (.if_icmp .ge 32, 3) := by decide +kernel
theorem dX1_makeNode_8 : decode cX1_makeNode 8 = .ok (.aload_n 0, 1) := by decide +kernel
theorem dX1_makeNode_9 : decode cX1_makeNode 9 = .ok (.getfield 34, 3) := by decide +kernel
theorem dX1_makeNode_12 : decode cX1_makeNode 12 = .ok (.iload_n 2, 1) := by decide +kernel
theorem dX1_makeNode_13 : decode cX1_makeNode 13 = .ok (.invokestatic 72, 3) := by decide +kernel
theorem dX1_makeNode_16 : decode cX1_makeNode 16 = .ok (.iconst 3, 1) := by decide +kernel
theorem dX1_makeNode_17 : decode cX1_makeNode 17 = .ok (.if_icmp .ne 14, 3) := by decide +kernel
theorem dX1_makeNode_20 : decode cX1_makeNode 20 = .ok (.aload_n 0, 1) := by decide +kernel
theorem dX1_makeNode_21 : decode cX1_makeNode 21 = .ok (.getfield 34, 3) := by decide +kernel
theorem dX1_makeNode_24 : decode cX1_makeNode 24 = .ok (.iload_n 2, 1) := by decide +kernel
theorem dX1_makeNode_25 : decode cX1_makeNode 25 = .ok (.iload_n 1, 1) := by decide +kernel
theorem dX1_makeNode_26 : decode cX1_makeNode 26 = .ok (.invokestatic 76, 3) := by decide +kernel
theorem dX1_makeNode_29 : decode cX1_makeNode 29 = .ok (.iload_n 2, 1) := by decide +kernel
theorem dX1_makeNode_30 : decode cX1_makeNode 30 = .ok (.ireturn, 1) := by decide +kernel
theorem dX1_makeNode_31 : decode cX1_makeNode 31 = .ok (.iinc 2 1, 3) := by decide +kernel
theorem dX1_makeNode_34 : decode cX1_makeNode 34 = .ok (.goto (-32), 3) := by decide +kernel
theorem dX1_makeNode_37 : decode cX1_makeNode 37 = .ok (.iconst (-1), 1) := by decide +kernel
theorem dX1_makeNode_38 : decode cX1_makeNode 38 = .ok (.ireturn, 1) := by decide +kernel
abbrev rmX1_makeNode : Room := { frames := 1, cells := 0, slots := 0, locals := 22 }
theorem hdX1_makeNode : yX1_makeNode.cls ≠ "java/lang/invoke/MethodHandle" ∧ yX1_makeNode.cls ≠ "java/lang/invoke/VarHandle" ∧ (parseMethodDescriptor yX1_makeNode.desc).map (fun d => d.parameters.length) = some 1 := by decide +kernel
def fX1_makeNode_2 (b : Nat) : Nat → Sg → Int32 → Int32 → Option (Int32 × Sg)
  | 0, _, _, _ => none
  | n + 1, σ, l1, l2 =>
    if 23 ≤ l2 then
      some ((-1), σ)
    else
      (fX8_at σ (b + 8) 23 l2).bind fun r1 =>
      if r1 = 3 then
        (fX8_put σ (b + 8) 23 l2 l1).bind fun σ2 =>
        some (l2, σ2)
      else
        ((fX1_makeNode_2 b n) σ l1 (l2 + 1))
theorem bX1_makeNode_2 {X : Xc} {K : Kc} (C : MC X K cX1_makeNode 3 RX1 rmX1_makeNode) (hr : K.meth.sig.returnType = (some .int)) (b : Nat) (hb : plOK b) : ∀ (n : Nat) (σ : Sg) (l1 : Int32) (l2 : Int32), GO X K 3 (fun r => MQi X K r.1 r.2) (fX1_makeNode_2 b n σ l1 l2) σ 0 0 2 [some (.ref (X.ad b)), some (.int (l1)), some (.int (l2))] [] := by
  intro n
  induction n with
  | zero =>
    intro σ l1 l2
    exact g_none
  | succ n ih =>
    intro σ l1 l2
    unfold fX1_makeNode_2
    refine g_iload_n (pc := 2) (i := 2) C dX1_makeNode_2 rfl rfl ?_
    refine g_bipush (pc := 3) (v := 23) C dX1_makeNode_3 (by decide) ?_
    refine g_icmp_ge (pc := 5) (tgt := 37) C dX1_makeNode_5 rfl ?_ ?_
    · refine g_iconst (pc := 37) (v := (-1)) C dX1_makeNode_37 (by decide) ?_
      exact g_iret (pc := 38) C hr dX1_makeNode_38 rfl
    · refine g_aload_n (pc := 8) (i := 0) C dX1_makeNode_8 rfl rfl ?_
      refine g_getr (pc := 9) (ci := 1) (N := 14) (T := TX1) (j := 6) (Cn := RX1) (b + 8) C rfl inlX1 (Nat.le_of_ble_eq_true rfl) q_3_17 (blk hb 0 rfl) rfl dX1_makeNode_9 ?_
      refine g_iload_n (pc := 12) (i := 2) C dX1_makeNode_12 rfl rfl ?_
      refine g_callNi (pc := 13) (As := [.ref (X.ad (b + 8)), .int (l2)]) C (kX8_at X σ (b + 8) 23 l2 (blk hb 8 rfl)) (List.mem_of_getElem? (i := 4) rfl) q_11_22 q_1_2 q_11_23 hdX8_at ⟨Nat.le_of_ble_eq_true rfl, Nat.le_of_ble_eq_true rfl, rfl, rfl⟩ ⟨Nat.zero_le _, Nat.zero_le _⟩ (Nat.le_of_ble_eq_true rfl) rfl rfl dX1_makeNode_13 (fun r1 _ => ?_)
      refine g_iconst (pc := 16) (v := 3) C dX1_makeNode_16 (by decide) ?_
      refine g_icmp_ne (pc := 17) (tgt := 31) C dX1_makeNode_17 rfl ?_ ?_
      · refine g_aload_n (pc := 20) (i := 0) C dX1_makeNode_20 rfl rfl ?_
        refine g_getr (pc := 21) (ci := 1) (N := 14) (T := TX1) (j := 6) (Cn := RX1) (b + 8) C rfl inlX1 (Nat.le_of_ble_eq_true rfl) q_3_17 (blk hb 0 rfl) rfl dX1_makeNode_21 ?_
        refine g_iload_n (pc := 24) (i := 2) C dX1_makeNode_24 rfl rfl ?_
        refine g_iload_n (pc := 25) (i := 1) C dX1_makeNode_25 rfl rfl ?_
        refine g_callNv (pc := 26) (As := [.ref (X.ad (b + 8)), .int (l2), .int (l1)]) C (kX8_put X σ (b + 8) 23 l2 l1 (blk hb 8 rfl)) (List.mem_of_getElem? (i := 5) rfl) q_9_20 q_1_2 q_9_21 hdX8_put ⟨Nat.le_of_ble_eq_true rfl, Nat.le_of_ble_eq_true rfl, rfl, rfl⟩ ⟨Nat.zero_le _, Nat.zero_le _⟩ (Nat.le_of_ble_eq_true rfl) rfl rfl dX1_makeNode_26 (fun σ2 _ => ?_)
        refine g_iload_n (pc := 29) (i := 2) C dX1_makeNode_29 rfl rfl ?_
        exact g_iret (pc := 30) C hr dX1_makeNode_30 rfl
      · refine g_iinc (pc := 31) (v := l2 + 1) C dX1_makeNode_31 rfl (rfl) (Nat.le_of_ble_eq_true rfl) rfl ?_
        refine g_goto (pc := 34) (tgt := 2) C dX1_makeNode_34 rfl ?_
        refine g_keep [true, true, true] ?_
        exact ih σ l1 (l2 + 1)
def fX1_makeNode (σ : Sg) (b : Nat) (p1 : Int32) : Option (Int32 × Sg) :=
  (fX1_makeNode_2 b FU σ p1 0)
theorem kX1_makeNode (X : Xc) (σ : Sg) (b : Nat) (p1 : Int32) (hb : plOK b) : ∀ r, fX1_makeNode σ b p1 = some r → Met X.l yX1_makeNode (wsM yX1_makeNode cX1_makeNode 3 (some .int)) rmX1_makeNode (va_Pc [.ref (X.ad b), .int p1] (PW X σ)) (Qi X r.1 r.2) 0 0 X.A := by
  refine mt_of (own := RX1) (lo := [some (.ref (X.ad b)), some (.int (p1)), none]) (by decide) rfl (Nat.le_of_ble_eq_true rfl) rfl (fun K C hr => ?_)
  unfold fX1_makeNode
  refine g_iconst (pc := 0) (v := 0) C dX1_makeNode_0 (by decide) ?_
  refine g_istore_n (pc := 1) (i := 2) C dX1_makeNode_1 rfl (Nat.le_of_ble_eq_true rfl) rfl ?_
  refine g_keep [true, true, true] ?_
  exact bX1_makeNode_2 C hr b hb FU σ p1 0
theorem dX1_attach_0 : decode cX1_attach 0 = .ok (.iload_n 1, 1) := by decide +kernel
theorem dX1_attach_1 : decode cX1_attach 1 = .ok (.iconst (-1), 1) := by decide +kernel
theorem dX1_attach_2 : decode cX1_attach 2 = .ok (.if_icmp .eq 8, 3) := by decide +kernel
theorem dX1_attach_5 : decode cX1_attach 5 = .ok (.iload_n 2, 1) := by decide +kernel
theorem dX1_attach_6 : decode cX1_attach 6 = .ok (.iconst (-1), 1) := by decide +kernel
theorem dX1_attach_7 : decode cX1_attach 7 = .ok (.if_icmp .ne 4, 3) := by decide +kernel
theorem dX1_attach_10 : decode cX1_attach 10 = .ok (.return_, 1) := by decide +kernel
theorem dX1_attach_11 : decode cX1_attach 11 = .ok (.aload_n 0, 1) := by decide +kernel
theorem dX1_attach_12 : decode cX1_attach 12 = .ok (.iload_n 2, 1) := by decide +kernel
theorem dX1_attach_13 : decode cX1_attach 13 = .ok (.iload_n 3, 1) := by decide +kernel
theorem dX1_attach_14 : decode cX1_attach 14 = .ok (.iconst 1, 1) := by decide +kernel
theorem dX1_attach_15 : decode cX1_attach 15 = .ok (.invokevirtual 101, 3) := by decide +kernel
theorem dX1_attach_18 : decode cX1_attach 18 = .ok (.aload_n 0, 1) := by decide +kernel
theorem dX1_attach_19 : decode cX1_attach 19 = .ok (.getfield 37, 3) := by decide +kernel
theorem dX1_attach_22 : decode cX1_attach 22 = .ok (.iload_n 1, 1) := by decide +kernel
theorem dX1_attach_23 : decode cX1_attach 23 = .ok (.iload_n 2, 1) := by decide +kernel
theorem dX1_attach_24 : decode cX1_attach 24 = .ok (.invokestatic 76, 3) := by decide +kernel
theorem dX1_attach_27 : decode cX1_attach 27 = .ok (.aload_n 0, 1) := by decide +kernel
theorem dX1_attach_28 : decode cX1_attach 28 = .ok (.getfield 40, 3) := by decide +kernel
theorem dX1_attach_31 : decode cX1_attach 31 = .ok (.iload_n 1, 1) := by decide +kernel
theorem dX1_attach_32 : decode cX1_attach 32 = .ok (.iload_n 3, 1) := by decide +kernel
theorem dX1_attach_33 : decode cX1_attach 33 = .ok (.invokestatic 76, 3) := by decide +kernel
theorem dX1_attach_36 : decode cX1_attach 36 = .ok (.aload_n 0, 1) := by decide +kernel
theorem dX1_attach_37 : decode cX1_attach 37 = .ok (.getfield 43, 3) := by decide +kernel
theorem dX1_attach_40 : decode cX1_attach 40 = .ok (.iload_n 1, 1) := by decide +kernel
theorem dX1_attach_41 : decode cX1_attach 41 = .ok (.iload 4, 2) := by decide +kernel
theorem dX1_attach_43 : decode cX1_attach 43 = .ok (.invokestatic 76, 3) := by decide +kernel
theorem dX1_attach_46 : decode cX1_attach 46 = .ok (.return_, 1) := by decide +kernel
abbrev rmX1_attach : Room := { frames := 2, cells := 0, slots := 0, locals := 46 }
theorem hdX1_attach : yX1_attach.cls ≠ "java/lang/invoke/MethodHandle" ∧ yX1_attach.cls ≠ "java/lang/invoke/VarHandle" ∧ (parseMethodDescriptor yX1_attach.desc).map (fun d => d.parameters.length) = some 4 := by decide +kernel
def fX1_attach (σ : Sg) (b : Nat) (p1 : Int32) (p2 : Int32) (p3 : Int32) (p4 : Int32) : Option Sg :=
  if p1 = (-1) then
    some σ
  else
    if p2 = (-1) then
      some σ
    else
      (fX1_shiftChildren σ b p2 p3 1).bind fun σ1 =>
      (fX8_put σ1 (b + 9) 23 p1 p2).bind fun σ2 =>
      (fX8_put σ2 (b + 10) 23 p1 p3).bind fun σ3 =>
      (fX8_put σ3 (b + 11) 23 p1 p4).bind fun σ4 =>
      some σ4
theorem kX1_attach (X : Xc) (σ : Sg) (b : Nat) (p1 : Int32) (p2 : Int32) (p3 : Int32) (p4 : Int32) (hb : plOK b) : ∀ r, fX1_attach σ b p1 p2 p3 p4 = some r → Met X.l yX1_attach (wsM yX1_attach cX1_attach 5 none) rmX1_attach (va_Pc [.ref (X.ad b), .int p1, .int p2, .int p3, .int p4] (PW X σ)) (Qv X r) 0 0 X.A := by
  refine mt_of (own := RX1) (lo := [some (.ref (X.ad b)), some (.int (p1)), some (.int (p2)), some (.int (p3)), some (.int (p4))]) (by decide) rfl (Nat.le_of_ble_eq_true rfl) rfl (fun K C hr => ?_)
  unfold fX1_attach
  refine g_iload_n (pc := 0) (i := 1) C dX1_attach_0 rfl rfl ?_
  refine g_iconst (pc := 1) (v := (-1)) C dX1_attach_1 (by decide) ?_
  refine g_icmp_eq (pc := 2) (tgt := 10) C dX1_attach_2 rfl ?_ ?_
  · exact g_vret (pc := 10) C hr dX1_attach_10 rfl
  · refine g_iload_n (pc := 5) (i := 2) C dX1_attach_5 rfl rfl ?_
    refine g_iconst (pc := 6) (v := (-1)) C dX1_attach_6 (by decide) ?_
    refine g_icmp_ne (pc := 7) (tgt := 11) C dX1_attach_7 rfl ?_ ?_
    · exact g_vret (pc := 10) C hr dX1_attach_10 rfl
    · refine g_aload_n (pc := 11) (i := 0) C dX1_attach_11 rfl rfl ?_
      refine g_iload_n (pc := 12) (i := 2) C dX1_attach_12 rfl rfl ?_
      refine g_iload_n (pc := 13) (i := 3) C dX1_attach_13 rfl rfl ?_
      refine g_iconst (pc := 14) (v := 1) C dX1_attach_14 (by decide) ?_
      refine g_callVv (pc := 15) (As := [.int (p2), .int (p3), .int (1)]) C (kX1_shiftChildren X σ b p2 p3 1 hb) (blk hb 0 rfl) rfl q_14_0 q_14_1 q_14_2 q_2_23 q_14_3 ⟨rfl, hdX1_shiftChildren⟩ ⟨Nat.le_of_ble_eq_true rfl, Nat.le_of_ble_eq_true rfl, rfl, rfl⟩ ⟨Nat.zero_le _, Nat.zero_le _⟩ (Nat.le_of_ble_eq_true rfl) rfl rfl dX1_attach_15 (fun σ1 _ => ?_)
      refine g_aload_n (pc := 18) (i := 0) C dX1_attach_18 rfl rfl ?_
      refine g_getr (pc := 19) (ci := 1) (N := 14) (T := TX1) (j := 7) (Cn := RX1) (b + 9) C rfl inlX1 (Nat.le_of_ble_eq_true rfl) q_3_18 (blk hb 0 rfl) rfl dX1_attach_19 ?_
      refine g_iload_n (pc := 22) (i := 1) C dX1_attach_22 rfl rfl ?_
      refine g_iload_n (pc := 23) (i := 2) C dX1_attach_23 rfl rfl ?_
      refine g_callNv (pc := 24) (As := [.ref (X.ad (b + 9)), .int (p1), .int (p2)]) C (kX8_put X σ1 (b + 9) 23 p1 p2 (blk hb 9 rfl)) (List.mem_of_getElem? (i := 5) rfl) q_9_20 q_1_2 q_9_21 hdX8_put ⟨Nat.le_of_ble_eq_true rfl, Nat.le_of_ble_eq_true rfl, rfl, rfl⟩ ⟨Nat.zero_le _, Nat.zero_le _⟩ (Nat.le_of_ble_eq_true rfl) rfl rfl dX1_attach_24 (fun σ2 _ => ?_)
      refine g_aload_n (pc := 27) (i := 0) C dX1_attach_27 rfl rfl ?_
      refine g_getr (pc := 28) (ci := 1) (N := 14) (T := TX1) (j := 8) (Cn := RX1) (b + 10) C rfl inlX1 (Nat.le_of_ble_eq_true rfl) q_3_19 (blk hb 0 rfl) rfl dX1_attach_28 ?_
      refine g_iload_n (pc := 31) (i := 1) C dX1_attach_31 rfl rfl ?_
      refine g_iload_n (pc := 32) (i := 3) C dX1_attach_32 rfl rfl ?_
      refine g_callNv (pc := 33) (As := [.ref (X.ad (b + 10)), .int (p1), .int (p3)]) C (kX8_put X σ2 (b + 10) 23 p1 p3 (blk hb 10 rfl)) (List.mem_of_getElem? (i := 5) rfl) q_9_20 q_1_2 q_9_21 hdX8_put ⟨Nat.le_of_ble_eq_true rfl, Nat.le_of_ble_eq_true rfl, rfl, rfl⟩ ⟨Nat.zero_le _, Nat.zero_le _⟩ (Nat.le_of_ble_eq_true rfl) rfl rfl dX1_attach_33 (fun σ3 _ => ?_)
      refine g_aload_n (pc := 36) (i := 0) C dX1_attach_36 rfl rfl ?_
      refine g_getr (pc := 37) (ci := 1) (N := 14) (T := TX1) (j := 9) (Cn := RX1) (b + 11) C rfl inlX1 (Nat.le_of_ble_eq_true rfl) q_3_20 (blk hb 0 rfl) rfl dX1_attach_37 ?_
      refine g_iload_n (pc := 40) (i := 1) C dX1_attach_40 rfl rfl ?_
      refine g_iload (pc := 41) C dX1_attach_41 rfl ?_
      refine g_callNv (pc := 43) (As := [.ref (X.ad (b + 11)), .int (p1), .int (p4)]) C (kX8_put X σ3 (b + 11) 23 p1 p4 (blk hb 11 rfl)) (List.mem_of_getElem? (i := 5) rfl) q_9_20 q_1_2 q_9_21 hdX8_put ⟨Nat.le_of_ble_eq_true rfl, Nat.le_of_ble_eq_true rfl, rfl, rfl⟩ ⟨Nat.zero_le _, Nat.zero_le _⟩ (Nat.le_of_ble_eq_true rfl) rfl rfl dX1_attach_43 (fun σ4 _ => ?_)
      exact g_vret (pc := 46) C hr dX1_attach_46 rfl
theorem dX1_makeGroupBeside_0 : decode cX1_makeGroupBeside 0 = .ok (.iload_n 2, 1) := by decide +kernel
theorem dX1_makeGroupBeside_1 : decode cX1_makeGroupBeside 1 = .ok (.invokestatic 105, 3) := by decide +kernel
theorem dX1_makeGroupBeside_4 : decode cX1_makeGroupBeside 4 = .ok (.istore_n 3, 1) := by decide +kernel
theorem dX1_makeGroupBeside_5 : decode cX1_makeGroupBeside 5 = .ok (.iload_n 2, 1) := by decide +kernel
theorem dX1_makeGroupBeside_6 : decode cX1_makeGroupBeside 6 = .ok (.iconst 1, 1) := by decide +kernel
theorem dX1_makeGroupBeside_7 : decode cX1_makeGroupBeside 7 = .ok (.if_icmp .eq 8, 3) := by decide +kernel
theorem dX1_makeGroupBeside_10 : decode cX1_makeGroupBeside 10 = .ok (.iload_n 2, 1) := by decide +kernel
theorem dX1_makeGroupBeside_11 : decode cX1_makeGroupBeside 11 = .ok (.iconst 3, 1) := by decide +kernel
theorem dX1_makeGroupBeside_12 : decode cX1_makeGroupBeside 12 = .ok (.if_icmp .ne 7, 3) := by decide +kernel
theorem dX1_makeGroupBeside_15 : decode cX1_makeGroupBeside 15 = .ok (.iconst 1, 1) := by decide +kernel
theorem dX1_makeGroupBeside_16 : decode cX1_makeGroupBeside 16 = .ok (.goto 4, 3) := by decide +kernel
theorem dX1_makeGroupBeside_19 : decode cX1_makeGroupBeside 19 = .ok (.iconst 0, 1) := by decide +kernel
theorem dX1_makeGroupBeside_20 : decode cX1_makeGroupBeside 20 = .ok (.istore 4, 2) := by decide +kernel
theorem dX1_makeGroupBeside_22 : decode cX1_makeGroupBeside 22 = .ok (.aload_n 0, 1) := by decide +kernel
theorem dX1_makeGroupBeside_23 : decode cX1_makeGroupBeside 23 = .ok (.iconst 2, 1) := by decide +kernel
theorem dX1_makeGroupBeside_24 : decode cX1_makeGroupBeside 24 = .ok (.invokevirtual 94, 3) := by decide +kernel
theorem dX1_makeGroupBeside_27 : decode cX1_makeGroupBeside 27 = .ok (.istore 5, 2) := by decide +kernel
theorem dX1_makeGroupBeside_29 : decode cX1_makeGroupBeside 29 = .ok (.aload_n 0, 1) := by decide +kernel
theorem dX1_makeGroupBeside_30 : decode cX1_makeGroupBeside 30 = .ok (.getfield 37, 3) := by decide +kernel
theorem dX1_makeGroupBeside_33 : decode cX1_makeGroupBeside 33 = .ok (.iload_n 1, 1) := by decide +kernel
theorem dX1_makeGroupBeside_34 : decode cX1_makeGroupBeside 34 = .ok (.invokestatic 72, 3) := by decide +kernel
theorem dX1_makeGroupBeside_37 : decode cX1_makeGroupBeside 37 = .ok (.istore 6, 2) := by decide +kernel
theorem dX1_makeGroupBeside_39 : decode cX1_makeGroupBeside 39 = .ok (.iload 6, 2) := by decide +kernel
theorem dX1_makeGroupBeside_41 : decode cX1_makeGroupBeside 41 = .ok (.iconst (-1), 1) := by decide +kernel
theorem dX1_makeGroupBeside_42 : decode cX1_makeGroupBeside 42 = .ok (.if_icmp .eq 79, 3) := by decide +kernel
theorem dX1_makeGroupBeside_45 : decode cX1_makeGroupBeside 45 = .ok (.aload_n 0, 1) := by decide +kernel
theorem dX1_makeGroupBeside_46 : decode cX1_makeGroupBeside 46 = .ok (.getfield 34, 3) := by decide +kernel
theorem dX1_makeGroupBeside_49 : decode cX1_makeGroupBeside 49 = .ok (.iload 6, 2) := by decide +kernel
theorem dX1_makeGroupBeside_51 : decode cX1_makeGroupBeside 51 = .ok (.invokestatic 72, 3) := by decide +kernel
theorem dX1_makeGroupBeside_54 : decode cX1_makeGroupBeside 54 = .ok (.iload_n 3, 1) := by decide +kernel
theorem dX1_makeGroupBeside_55 : decode cX1_makeGroupBeside 55 = .ok (.if_icmp .ne 66, 3) := by decide +kernel
theorem dX1_makeGroupBeside_58 : decode cX1_makeGroupBeside 58 = .ok (.aload_n 0, 1) := by decide +kernel
theorem dX1_makeGroupBeside_59 : decode cX1_makeGroupBeside 59 = .ok (.getfield 43, 3) := by decide +kernel
theorem dX1_makeGroupBeside_62 : decode cX1_makeGroupBeside 62 = .ok (.iload_n 1, 1) := by decide +kernel
theorem dX1_makeGroupBeside_63 : decode cX1_makeGroupBeside 63 = .ok (.invokestatic 72, 3) := by decide +kernel
theorem dX1_makeGroupBeside_66 : decode cX1_makeGroupBeside 66 = .ok (.iconst 2, 1) := by decide +kernel
theorem dX1_makeGroupBeside_67 : decode cX1_makeGroupBeside 67 = .ok (.idiv, 1) := by decide +kernel
theorem dX1_makeGroupBeside_68 : decode cX1_makeGroupBeside 68 = .ok (.istore 7, 2) := by decide +kernel
theorem dX1_makeGroupBeside_70 : decode cX1_makeGroupBeside 70 = .ok (.aload_n 0, 1) := by decide +kernel
theorem dX1_makeGroupBeside_71 : decode cX1_makeGroupBeside 71 = .ok (.getfield 43, 3) := by decide +kernel
theorem dX1_makeGroupBeside_74 : decode cX1_makeGroupBeside 74 = .ok (.iload_n 1, 1) := by decide +kernel
theorem dX1_makeGroupBeside_75 : decode cX1_makeGroupBeside 75 = .ok (.iconst 1, 1) := by decide +kernel
theorem dX1_makeGroupBeside_76 : decode cX1_makeGroupBeside 76 = .ok (.aload_n 0, 1) := by decide +kernel
theorem dX1_makeGroupBeside_77 : decode cX1_makeGroupBeside 77 = .ok (.getfield 43, 3) := by decide +kernel
theorem dX1_makeGroupBeside_80 : decode cX1_makeGroupBeside 80 = .ok (.iload_n 1, 1) := by decide +kernel
theorem dX1_makeGroupBeside_81 : decode cX1_makeGroupBeside 81 = .ok (.invokestatic 72, 3) := by decide +kernel
theorem dX1_makeGroupBeside_84 : decode cX1_makeGroupBeside 84 = .ok (.iload 7, 2) := by decide +kernel
theorem dX1_makeGroupBeside_86 : decode cX1_makeGroupBeside 86 = .ok (.isub, 1) := by decide +kernel
theorem dX1_makeGroupBeside_87 : decode cX1_makeGroupBeside 87 = .ok (.invokestatic 108, 3) := by decide +kernel
theorem dX1_makeGroupBeside_90 : decode cX1_makeGroupBeside 90 = .ok (.invokestatic 76, 3) := by decide +kernel
theorem dX1_makeGroupBeside_93 : decode cX1_makeGroupBeside 93 = .ok (.aload_n 0, 1) := by decide +kernel
theorem dX1_makeGroupBeside_94 : decode cX1_makeGroupBeside 94 = .ok (.iload 5, 2) := by decide +kernel
theorem dX1_makeGroupBeside_96 : decode cX1_makeGroupBeside 96 = .ok (.iload 6, 2) := by decide +kernel
theorem dX1_makeGroupBeside_98 : decode cX1_makeGroupBeside 98 = .ok (.aload_n 0, 1) := by decide +kernel
theorem dX1_makeGroupBeside_99 : decode cX1_makeGroupBeside 99 = .ok (.getfield 40, 3) := by decide +kernel
theorem dX1_makeGroupBeside_102 : decode cX1_makeGroupBeside 102 = .ok (.iload_n 1, 1) := by decide +kernel
theorem dX1_makeGroupBeside_103 : decode cX1_makeGroupBeside 103 = .ok (.invokestatic 72, 3) := by decide +kernel
theorem dX1_makeGroupBeside_106 : decode cX1_makeGroupBeside 106 = .ok (.iload 4, 2) := by decide +kernel
theorem dX1_makeGroupBeside_108 : decode cX1_makeGroupBeside 108 = .ok (.iadd, 1) := by decide +kernel
theorem dX1_makeGroupBeside_109 : decode cX1_makeGroupBeside 109 = .ok (.iconst 1, 1) := by decide +kernel
theorem dX1_makeGroupBeside_110 : decode cX1_makeGroupBeside 110 = .ok (.iload 7, 2) := by decide +kernel
theorem dX1_makeGroupBeside_112 : decode cX1_makeGroupBeside 112 = .ok (.invokestatic 108, 3) := by decide +kernel
theorem dX1_makeGroupBeside_115 : decode cX1_makeGroupBeside 115 = .ok (.invokevirtual 114, 3) := by decide +kernel
theorem dX1_makeGroupBeside_118 : decode cX1_makeGroupBeside 118 = .ok (.iload 5, 2) := by decide +kernel
theorem dX1_makeGroupBeside_120 : decode cX1_makeGroupBeside 120 = .ok (.ireturn, 1) := by decide +kernel
theorem dX1_makeGroupBeside_121 : decode cX1_makeGroupBeside 121 = .ok (.aload_n 0, 1) := by decide +kernel
theorem dX1_makeGroupBeside_122 : decode cX1_makeGroupBeside 122 = .ok (.iload_n 3, 1) := by decide +kernel
theorem dX1_makeGroupBeside_123 : decode cX1_makeGroupBeside 123 = .ok (.invokevirtual 94, 3) := by decide +kernel
theorem dX1_makeGroupBeside_126 : decode cX1_makeGroupBeside 126 = .ok (.istore 7, 2) := by decide +kernel
theorem dX1_makeGroupBeside_128 : decode cX1_makeGroupBeside 128 = .ok (.aload_n 0, 1) := by decide +kernel
theorem dX1_makeGroupBeside_129 : decode cX1_makeGroupBeside 129 = .ok (.iload_n 1, 1) := by decide +kernel
theorem dX1_makeGroupBeside_130 : decode cX1_makeGroupBeside 130 = .ok (.iload 7, 2) := by decide +kernel
theorem dX1_makeGroupBeside_132 : decode cX1_makeGroupBeside 132 = .ok (.invokevirtual 118, 3) := by decide +kernel
theorem dX1_makeGroupBeside_135 : decode cX1_makeGroupBeside 135 = .ok (.aload_n 0, 1) := by decide +kernel
theorem dX1_makeGroupBeside_136 : decode cX1_makeGroupBeside 136 = .ok (.iload_n 1, 1) := by decide +kernel
theorem dX1_makeGroupBeside_137 : decode cX1_makeGroupBeside 137 = .ok (.iload 7, 2) := by decide +kernel
theorem dX1_makeGroupBeside_139 : decode cX1_makeGroupBeside 139 = .ok (.iconst 0, 1) := by decide +kernel
theorem dX1_makeGroupBeside_140 : decode cX1_makeGroupBeside 140 = .ok (.sipush 1000, 3) := by decide +kernel
theorem dX1_makeGroupBeside_143 : decode cX1_makeGroupBeside 143 = .ok (.invokevirtual 114, 3) := by decide +kernel
theorem dX1_makeGroupBeside_146 : decode cX1_makeGroupBeside 146 = .ok (.aload_n 0, 1) := by decide +kernel
theorem dX1_makeGroupBeside_147 : decode cX1_makeGroupBeside 147 = .ok (.iload 5, 2) := by decide +kernel
theorem dX1_makeGroupBeside_149 : decode cX1_makeGroupBeside 149 = .ok (.iload 7, 2) := by decide +kernel
theorem dX1_makeGroupBeside_151 : decode cX1_makeGroupBeside 151 = .ok (.iload 4, 2) := by decide +kernel
theorem dX1_makeGroupBeside_153 : decode cX1_makeGroupBeside 153 = .ok (.sipush 1000, 3) := by decide +kernel
theorem dX1_makeGroupBeside_156 : decode cX1_makeGroupBeside 156 = .ok (.invokevirtual 114, 3) := by decide +kernel
theorem dX1_makeGroupBeside_159 : decode cX1_makeGroupBeside 159 = .ok (.iload 5, 2) := by decide +kernel
theorem dX1_makeGroupBeside_161 : decode cX1_makeGroupBeside 161 = .ok (.ireturn, 1) := by decide +kernel
abbrev rmX1_makeGroupBeside : Room := { frames := 3, cells := 0, slots := 0, locals := 90 }
theorem hdX1_makeGroupBeside : yX1_makeGroupBeside.cls ≠ "java/lang/invoke/MethodHandle" ∧ yX1_makeGroupBeside.cls ≠ "java/lang/invoke/VarHandle" ∧ (parseMethodDescriptor yX1_makeGroupBeside.desc).map (fun d => d.parameters.length) = some 2 := by decide +kernel
def fX1_makeGroupBeside_121 (b : Nat) (σ : Sg) (l1 : Int32) (l3 : Int32) (l4 : Int32) (l5 : Int32) : Option (Int32 × Sg) :=
  (fX1_makeNode σ b l3).bind fun r13 =>
  (fX1_replace r13.2 b l1 r13.1).bind fun σ14 =>
  (fX1_attach σ14 b l1 r13.1 0 1000).bind fun σ15 =>
  (fX1_attach σ15 b l5 r13.1 l4 1000).bind fun σ16 =>
  some (l5, σ16)
theorem bX1_makeGroupBeside_121 {X : Xc} {K : Kc} (C : MC X K cX1_makeGroupBeside 8 RX1 rmX1_makeGroupBeside) (hr : K.meth.sig.returnType = (some .int)) (b : Nat) (hb : plOK b) (σ : Sg) (l1 : Int32) (l3 : Int32) (l4 : Int32) (l5 : Int32) : GO X K 8 (fun r => MQi X K r.1 r.2) (fX1_makeGroupBeside_121 b σ l1 l3 l4 l5) σ 0 0 121 [some (.ref (X.ad b)), some (.int (l1)), none, some (.int (l3)), some (.int (l4)), some (.int (l5)), none, none] [] := by
  unfold fX1_makeGroupBeside_121
  refine g_aload_n (pc := 121) (i := 0) C dX1_makeGroupBeside_121 rfl rfl ?_
  refine g_iload_n (pc := 122) (i := 3) C dX1_makeGroupBeside_122 rfl rfl ?_
  refine g_callVi (pc := 123) (As := [.int (l3)]) C (kX1_makeNode X σ b l3 hb) (blk hb 0 rfl) rfl q_34_1 q_34_2 q_34_3 q_2_23 q_34_4 ⟨rfl, hdX1_makeNode⟩ ⟨Nat.le_of_ble_eq_true rfl, Nat.le_of_ble_eq_true rfl, rfl, rfl⟩ ⟨Nat.zero_le _, Nat.zero_le _⟩ (Nat.le_of_ble_eq_true rfl) rfl rfl dX1_makeGroupBeside_123 (fun r13 _ => ?_)
  refine g_istore (pc := 126) C dX1_makeGroupBeside_126 (Nat.le_of_ble_eq_true rfl) rfl ?_
  refine g_aload_n (pc := 128) (i := 0) C dX1_makeGroupBeside_128 rfl rfl ?_
  refine g_iload_n (pc := 129) (i := 1) C dX1_makeGroupBeside_129 rfl rfl ?_
  refine g_iload (pc := 130) C dX1_makeGroupBeside_130 rfl ?_
  refine g_callVv (pc := 132) (As := [.int (l1), .int (r13.1)]) C (kX1_replace X r13.2 b l1 r13.1 hb) (blk hb 0 rfl) rfl q_14_16 q_14_17 q_14_18 q_2_23 q_14_19 ⟨rfl, hdX1_replace⟩ ⟨Nat.le_of_ble_eq_true rfl, Nat.le_of_ble_eq_true rfl, rfl, rfl⟩ ⟨Nat.zero_le _, Nat.zero_le _⟩ (Nat.le_of_ble_eq_true rfl) rfl rfl dX1_makeGroupBeside_132 (fun σ14 _ => ?_)
  refine g_aload_n (pc := 135) (i := 0) C dX1_makeGroupBeside_135 rfl rfl ?_
  refine g_iload_n (pc := 136) (i := 1) C dX1_makeGroupBeside_136 rfl rfl ?_
  refine g_iload (pc := 137) C dX1_makeGroupBeside_137 rfl ?_
  refine g_iconst (pc := 139) (v := 0) C dX1_makeGroupBeside_139 (by decide) ?_
  refine g_sipush (pc := 140) (v := 1000) C dX1_makeGroupBeside_140 (by decide) ?_
  refine g_callVv (pc := 143) (As := [.int (l1), .int (r13.1), .int (0), .int (1000)]) C (kX1_attach X σ14 b l1 r13.1 0 1000 hb) (blk hb 0 rfl) rfl q_34_5 q_34_6 q_34_7 q_2_23 q_34_8 ⟨rfl, hdX1_attach⟩ ⟨Nat.le_of_ble_eq_true rfl, Nat.le_of_ble_eq_true rfl, rfl, rfl⟩ ⟨Nat.zero_le _, Nat.zero_le _⟩ (Nat.le_of_ble_eq_true rfl) rfl rfl dX1_makeGroupBeside_143 (fun σ15 _ => ?_)
  refine g_aload_n (pc := 146) (i := 0) C dX1_makeGroupBeside_146 rfl rfl ?_
  refine g_iload (pc := 147) C dX1_makeGroupBeside_147 rfl ?_
  refine g_iload (pc := 149) C dX1_makeGroupBeside_149 rfl ?_
  refine g_iload (pc := 151) C dX1_makeGroupBeside_151 rfl ?_
  refine g_sipush (pc := 153) (v := 1000) C dX1_makeGroupBeside_153 (by decide) ?_
  refine g_callVv (pc := 156) (As := [.int (l5), .int (r13.1), .int (l4), .int (1000)]) C (kX1_attach X σ15 b l5 r13.1 l4 1000 hb) (blk hb 0 rfl) rfl q_34_5 q_34_6 q_34_7 q_2_23 q_34_8 ⟨rfl, hdX1_attach⟩ ⟨Nat.le_of_ble_eq_true rfl, Nat.le_of_ble_eq_true rfl, rfl, rfl⟩ ⟨Nat.zero_le _, Nat.zero_le _⟩ (Nat.le_of_ble_eq_true rfl) rfl rfl dX1_makeGroupBeside_156 (fun σ16 _ => ?_)
  refine g_iload (pc := 159) C dX1_makeGroupBeside_159 rfl ?_
  exact g_iret (pc := 161) C hr dX1_makeGroupBeside_161 rfl
def fX1_makeGroupBeside_20 (b : Nat) (σ : Sg) (l1 : Int32) (l3 : Int32) (s0 : Int32) : Option (Int32 × Sg) :=
  (fX1_makeNode σ b 2).bind fun r2 =>
  (fX8_at r2.2 (b + 9) 23 l1).bind fun r3 =>
  if r3 = (-1) then
    (fX1_makeGroupBeside_121 b r2.2 l1 l3 s0 r2.1)
  else
    (fX8_at r2.2 (b + 8) 23 r3).bind fun r4 =>
    if r4 = l3 then
      (fX8_at r2.2 (b + 11) 23 l1).bind fun r5 =>
      nm (r5 / 2) fun v6 =>
      (fX8_at r2.2 (b + 11) 23 l1).bind fun r7 =>
      nm (if 1 < (r7 - v6) then (r7 - v6) else 1) fun v8 =>
      (fX8_put r2.2 (b + 11) 23 l1 v8).bind fun σ9 =>
      (fX8_at σ9 (b + 10) 23 l1).bind fun r10 =>
      nm (if 1 < v6 then v6 else 1) fun v11 =>
      (fX1_attach σ9 b r2.1 r3 (r10 + s0) v11).bind fun σ12 =>
      some (r2.1, σ12)
    else
      (fX1_makeGroupBeside_121 b r2.2 l1 l3 s0 r2.1)
theorem bX1_makeGroupBeside_20 {X : Xc} {K : Kc} (C : MC X K cX1_makeGroupBeside 8 RX1 rmX1_makeGroupBeside) (hr : K.meth.sig.returnType = (some .int)) (b : Nat) (hb : plOK b) (σ : Sg) (l1 : Int32) (l3 : Int32) (s0 : Int32) : GO X K 8 (fun r => MQi X K r.1 r.2) (fX1_makeGroupBeside_20 b σ l1 l3 s0) σ 0 0 20 [some (.ref (X.ad b)), some (.int (l1)), none, some (.int (l3)), none, none, none, none] [.int (s0)] := by
  unfold fX1_makeGroupBeside_20
  refine g_istore (pc := 20) C dX1_makeGroupBeside_20 (Nat.le_of_ble_eq_true rfl) rfl ?_
  refine g_aload_n (pc := 22) (i := 0) C dX1_makeGroupBeside_22 rfl rfl ?_
  refine g_iconst (pc := 23) (v := 2) C dX1_makeGroupBeside_23 (by decide) ?_
  refine g_callVi (pc := 24) (As := [.int (2)]) C (kX1_makeNode X σ b 2 hb) (blk hb 0 rfl) rfl q_34_1 q_34_2 q_34_3 q_2_23 q_34_4 ⟨rfl, hdX1_makeNode⟩ ⟨Nat.le_of_ble_eq_true rfl, Nat.le_of_ble_eq_true rfl, rfl, rfl⟩ ⟨Nat.zero_le _, Nat.zero_le _⟩ (Nat.le_of_ble_eq_true rfl) rfl rfl dX1_makeGroupBeside_24 (fun r2 _ => ?_)
  refine g_istore (pc := 27) C dX1_makeGroupBeside_27 (Nat.le_of_ble_eq_true rfl) rfl ?_
  refine g_aload_n (pc := 29) (i := 0) C dX1_makeGroupBeside_29 rfl rfl ?_
  refine g_getr (pc := 30) (ci := 1) (N := 14) (T := TX1) (j := 7) (Cn := RX1) (b + 9) C rfl inlX1 (Nat.le_of_ble_eq_true rfl) q_3_18 (blk hb 0 rfl) rfl dX1_makeGroupBeside_30 ?_
  refine g_iload_n (pc := 33) (i := 1) C dX1_makeGroupBeside_33 rfl rfl ?_
  refine g_callNi (pc := 34) (As := [.ref (X.ad (b + 9)), .int (l1)]) C (kX8_at X r2.2 (b + 9) 23 l1 (blk hb 9 rfl)) (List.mem_of_getElem? (i := 4) rfl) q_11_22 q_1_2 q_11_23 hdX8_at ⟨Nat.le_of_ble_eq_true rfl, Nat.le_of_ble_eq_true rfl, rfl, rfl⟩ ⟨Nat.zero_le _, Nat.zero_le _⟩ (Nat.le_of_ble_eq_true rfl) rfl rfl dX1_makeGroupBeside_34 (fun r3 _ => ?_)
  refine g_istore (pc := 37) C dX1_makeGroupBeside_37 (Nat.le_of_ble_eq_true rfl) rfl ?_
  refine g_iload (pc := 39) C dX1_makeGroupBeside_39 rfl ?_
  refine g_iconst (pc := 41) (v := (-1)) C dX1_makeGroupBeside_41 (by decide) ?_
  refine g_icmp_eq (pc := 42) (tgt := 121) C dX1_makeGroupBeside_42 rfl ?_ ?_
  · refine g_keep [true, true, false, true, true, true, false, false] ?_
    exact bX1_makeGroupBeside_121 C hr b hb r2.2 l1 l3 s0 r2.1
  · refine g_aload_n (pc := 45) (i := 0) C dX1_makeGroupBeside_45 rfl rfl ?_
    refine g_getr (pc := 46) (ci := 1) (N := 14) (T := TX1) (j := 6) (Cn := RX1) (b + 8) C rfl inlX1 (Nat.le_of_ble_eq_true rfl) q_3_17 (blk hb 0 rfl) rfl dX1_makeGroupBeside_46 ?_
    refine g_iload (pc := 49) C dX1_makeGroupBeside_49 rfl ?_
    refine g_callNi (pc := 51) (As := [.ref (X.ad (b + 8)), .int (r3)]) C (kX8_at X r2.2 (b + 8) 23 r3 (blk hb 8 rfl)) (List.mem_of_getElem? (i := 4) rfl) q_11_22 q_1_2 q_11_23 hdX8_at ⟨Nat.le_of_ble_eq_true rfl, Nat.le_of_ble_eq_true rfl, rfl, rfl⟩ ⟨Nat.zero_le _, Nat.zero_le _⟩ (Nat.le_of_ble_eq_true rfl) rfl rfl dX1_makeGroupBeside_51 (fun r4 _ => ?_)
    refine g_iload_n (pc := 54) (i := 3) C dX1_makeGroupBeside_54 rfl rfl ?_
    refine g_icmp_ne (pc := 55) (tgt := 121) C dX1_makeGroupBeside_55 rfl ?_ ?_
    · refine g_aload_n (pc := 58) (i := 0) C dX1_makeGroupBeside_58 rfl rfl ?_
      refine g_getr (pc := 59) (ci := 1) (N := 14) (T := TX1) (j := 9) (Cn := RX1) (b + 11) C rfl inlX1 (Nat.le_of_ble_eq_true rfl) q_3_20 (blk hb 0 rfl) rfl dX1_makeGroupBeside_59 ?_
      refine g_iload_n (pc := 62) (i := 1) C dX1_makeGroupBeside_62 rfl rfl ?_
      refine g_callNi (pc := 63) (As := [.ref (X.ad (b + 11)), .int (l1)]) C (kX8_at X r2.2 (b + 11) 23 l1 (blk hb 11 rfl)) (List.mem_of_getElem? (i := 4) rfl) q_11_22 q_1_2 q_11_23 hdX8_at ⟨Nat.le_of_ble_eq_true rfl, Nat.le_of_ble_eq_true rfl, rfl, rfl⟩ ⟨Nat.zero_le _, Nat.zero_le _⟩ (Nat.le_of_ble_eq_true rfl) rfl rfl dX1_makeGroupBeside_63 (fun r5 _ => ?_)
      refine g_iconst (pc := 66) (v := 2) C dX1_makeGroupBeside_66 (by decide) ?_
      refine g_idivc (pc := 67) C dX1_makeGroupBeside_67 (by decide) ?_
      refine g_nm (fun v6 => ?_)
      refine g_istore (pc := 68) C dX1_makeGroupBeside_68 (Nat.le_of_ble_eq_true rfl) rfl ?_
      refine g_aload_n (pc := 70) (i := 0) C dX1_makeGroupBeside_70 rfl rfl ?_
      refine g_getr (pc := 71) (ci := 1) (N := 14) (T := TX1) (j := 9) (Cn := RX1) (b + 11) C rfl inlX1 (Nat.le_of_ble_eq_true rfl) q_3_20 (blk hb 0 rfl) rfl dX1_makeGroupBeside_71 ?_
      refine g_iload_n (pc := 74) (i := 1) C dX1_makeGroupBeside_74 rfl rfl ?_
      refine g_iconst (pc := 75) (v := 1) C dX1_makeGroupBeside_75 (by decide) ?_
      refine g_aload_n (pc := 76) (i := 0) C dX1_makeGroupBeside_76 rfl rfl ?_
      refine g_getr (pc := 77) (ci := 1) (N := 14) (T := TX1) (j := 9) (Cn := RX1) (b + 11) C rfl inlX1 (Nat.le_of_ble_eq_true rfl) q_3_20 (blk hb 0 rfl) rfl dX1_makeGroupBeside_77 ?_
      refine g_iload_n (pc := 80) (i := 1) C dX1_makeGroupBeside_80 rfl rfl ?_
      refine g_callNi (pc := 81) (As := [.ref (X.ad (b + 11)), .int (l1)]) C (kX8_at X r2.2 (b + 11) 23 l1 (blk hb 11 rfl)) (List.mem_of_getElem? (i := 4) rfl) q_11_22 q_1_2 q_11_23 hdX8_at ⟨Nat.le_of_ble_eq_true rfl, Nat.le_of_ble_eq_true rfl, rfl, rfl⟩ ⟨Nat.zero_le _, Nat.zero_le _⟩ (Nat.le_of_ble_eq_true rfl) rfl rfl dX1_makeGroupBeside_81 (fun r7 _ => ?_)
      refine g_iload (pc := 84) C dX1_makeGroupBeside_84 rfl ?_
      refine g_isub (pc := 86) C dX1_makeGroupBeside_86 ?_
      refine g_mmax (pc := 87) C q_33_22 q_16_10 q_8_20 q_16_11 ⟨Nat.le_of_ble_eq_true rfl, Nat.le_of_ble_eq_true rfl⟩ ⟨Nat.le_of_ble_eq_true rfl, Nat.le_of_ble_eq_true rfl⟩ dX1_makeGroupBeside_87 ?_
      refine g_nm (fun v8 => ?_)
      refine g_callNv (pc := 90) (As := [.ref (X.ad (b + 11)), .int (l1), .int (v8)]) C (kX8_put X r2.2 (b + 11) 23 l1 v8 (blk hb 11 rfl)) (List.mem_of_getElem? (i := 5) rfl) q_9_20 q_1_2 q_9_21 hdX8_put ⟨Nat.le_of_ble_eq_true rfl, Nat.le_of_ble_eq_true rfl, rfl, rfl⟩ ⟨Nat.zero_le _, Nat.zero_le _⟩ (Nat.le_of_ble_eq_true rfl) rfl rfl dX1_makeGroupBeside_90 (fun σ9 _ => ?_)
      refine g_aload_n (pc := 93) (i := 0) C dX1_makeGroupBeside_93 rfl rfl ?_
      refine g_iload (pc := 94) C dX1_makeGroupBeside_94 rfl ?_
      refine g_iload (pc := 96) C dX1_makeGroupBeside_96 rfl ?_
      refine g_aload_n (pc := 98) (i := 0) C dX1_makeGroupBeside_98 rfl rfl ?_
      refine g_getr (pc := 99) (ci := 1) (N := 14) (T := TX1) (j := 8) (Cn := RX1) (b + 10) C rfl inlX1 (Nat.le_of_ble_eq_true rfl) q_3_19 (blk hb 0 rfl) rfl dX1_makeGroupBeside_99 ?_
      refine g_iload_n (pc := 102) (i := 1) C dX1_makeGroupBeside_102 rfl rfl ?_
      refine g_callNi (pc := 103) (As := [.ref (X.ad (b + 10)), .int (l1)]) C (kX8_at X σ9 (b + 10) 23 l1 (blk hb 10 rfl)) (List.mem_of_getElem? (i := 4) rfl) q_11_22 q_1_2 q_11_23 hdX8_at ⟨Nat.le_of_ble_eq_true rfl, Nat.le_of_ble_eq_true rfl, rfl, rfl⟩ ⟨Nat.zero_le _, Nat.zero_le _⟩ (Nat.le_of_ble_eq_true rfl) rfl rfl dX1_makeGroupBeside_103 (fun r10 _ => ?_)
      refine g_iload (pc := 106) C dX1_makeGroupBeside_106 rfl ?_
      refine g_iadd (pc := 108) C dX1_makeGroupBeside_108 ?_
      refine g_iconst (pc := 109) (v := 1) C dX1_makeGroupBeside_109 (by decide) ?_
      refine g_iload (pc := 110) C dX1_makeGroupBeside_110 rfl ?_
      refine g_mmax (pc := 112) C q_33_22 q_16_10 q_8_20 q_16_11 ⟨Nat.le_of_ble_eq_true rfl, Nat.le_of_ble_eq_true rfl⟩ ⟨Nat.le_of_ble_eq_true rfl, Nat.le_of_ble_eq_true rfl⟩ dX1_makeGroupBeside_112 ?_
      refine g_nm (fun v11 => ?_)
      refine g_callVv (pc := 115) (As := [.int (r2.1), .int (r3), .int (r10 + s0), .int (v11)]) C (kX1_attach X σ9 b r2.1 r3 (r10 + s0) v11 hb) (blk hb 0 rfl) rfl q_34_5 q_34_6 q_34_7 q_2_23 q_34_8 ⟨rfl, hdX1_attach⟩ ⟨Nat.le_of_ble_eq_true rfl, Nat.le_of_ble_eq_true rfl, rfl, rfl⟩ ⟨Nat.zero_le _, Nat.zero_le _⟩ (Nat.le_of_ble_eq_true rfl) rfl rfl dX1_makeGroupBeside_115 (fun σ12 _ => ?_)
      refine g_iload (pc := 118) C dX1_makeGroupBeside_118 rfl ?_
      exact g_iret (pc := 120) C hr dX1_makeGroupBeside_120 rfl
    · refine g_keep [true, true, false, true, true, true, false, false] ?_
      exact bX1_makeGroupBeside_121 C hr b hb r2.2 l1 l3 s0 r2.1
def fX1_makeGroupBeside_15 (b : Nat) (σ : Sg) (l1 : Int32) (l3 : Int32) : Option (Int32 × Sg) :=
  (fX1_makeGroupBeside_20 b σ l1 l3 1)
theorem bX1_makeGroupBeside_15 {X : Xc} {K : Kc} (C : MC X K cX1_makeGroupBeside 8 RX1 rmX1_makeGroupBeside) (hr : K.meth.sig.returnType = (some .int)) (b : Nat) (hb : plOK b) (σ : Sg) (l1 : Int32) (l3 : Int32) : GO X K 8 (fun r => MQi X K r.1 r.2) (fX1_makeGroupBeside_15 b σ l1 l3) σ 0 0 15 [some (.ref (X.ad b)), some (.int (l1)), none, some (.int (l3)), none, none, none, none] [] := by
  unfold fX1_makeGroupBeside_15
  refine g_iconst (pc := 15) (v := 1) C dX1_makeGroupBeside_15 (by decide) ?_
  refine g_goto (pc := 16) (tgt := 20) C dX1_makeGroupBeside_16 rfl ?_
  refine g_keep [true, true, false, true, false, false, false, false] ?_
  exact bX1_makeGroupBeside_20 C hr b hb σ l1 l3 1
def fX1_makeGroupBeside (σ : Sg) (b : Nat) (p1 : Int32) (p2 : Int32) : Option (Int32 × Sg) :=
  (fX8_directionOf σ p2).bind fun r1 =>
  if p2 = 1 then
    (fX1_makeGroupBeside_15 b σ p1 r1)
  else
    if p2 = 3 then
      (fX1_makeGroupBeside_15 b σ p1 r1)
    else
      (fX1_makeGroupBeside_20 b σ p1 r1 0)
theorem kX1_makeGroupBeside (X : Xc) (σ : Sg) (b : Nat) (p1 : Int32) (p2 : Int32) (hb : plOK b) : ∀ r, fX1_makeGroupBeside σ b p1 p2 = some r → Met X.l yX1_makeGroupBeside (wsM yX1_makeGroupBeside cX1_makeGroupBeside 8 (some .int)) rmX1_makeGroupBeside (va_Pc [.ref (X.ad b), .int p1, .int p2] (PW X σ)) (Qi X r.1 r.2) 0 0 X.A := by
  refine mt_of (own := RX1) (lo := [some (.ref (X.ad b)), some (.int (p1)), some (.int (p2)), none, none, none, none, none]) (by decide) rfl (Nat.le_of_ble_eq_true rfl) rfl (fun K C hr => ?_)
  unfold fX1_makeGroupBeside
  refine g_iload_n (pc := 0) (i := 2) C dX1_makeGroupBeside_0 rfl rfl ?_
  refine g_callNi (pc := 1) (As := [.int (p2)]) C (kX8_directionOf X σ p2) (List.mem_of_getElem? (i := 6) rfl) q_33_23 q_1_2 q_34_0 hdX8_directionOf ⟨Nat.le_of_ble_eq_true rfl, Nat.le_of_ble_eq_true rfl, rfl, rfl⟩ ⟨Nat.zero_le _, Nat.zero_le _⟩ (Nat.le_of_ble_eq_true rfl) rfl rfl dX1_makeGroupBeside_1 (fun r1 _ => ?_)
  refine g_istore_n (pc := 4) (i := 3) C dX1_makeGroupBeside_4 rfl (Nat.le_of_ble_eq_true rfl) rfl ?_
  refine g_iload_n (pc := 5) (i := 2) C dX1_makeGroupBeside_5 rfl rfl ?_
  refine g_iconst (pc := 6) (v := 1) C dX1_makeGroupBeside_6 (by decide) ?_
  refine g_icmp_eq (pc := 7) (tgt := 15) C dX1_makeGroupBeside_7 rfl ?_ ?_
  · refine g_keep [true, true, false, true, false, false, false, false] ?_
    exact bX1_makeGroupBeside_15 C hr b hb σ p1 r1
  · refine g_iload_n (pc := 10) (i := 2) C dX1_makeGroupBeside_10 rfl rfl ?_
    refine g_iconst (pc := 11) (v := 3) C dX1_makeGroupBeside_11 (by decide) ?_
    refine g_icmp_ne (pc := 12) (tgt := 19) C dX1_makeGroupBeside_12 rfl ?_ ?_
    · refine g_keep [true, true, false, true, false, false, false, false] ?_
      exact bX1_makeGroupBeside_15 C hr b hb σ p1 r1
    · refine g_iconst (pc := 19) (v := 0) C dX1_makeGroupBeside_19 (by decide) ?_
      refine g_keep [true, true, false, true, false, false, false, false] ?_
      exact bX1_makeGroupBeside_20 C hr b hb σ p1 r1 0
theorem dX1_joinGroup_0 : decode cX1_joinGroup 0 = .ok (.aload_n 0, 1) := by decide +kernel
theorem dX1_joinGroup_1 : decode cX1_joinGroup 1 = .ok (.getfield 52, 3) := by decide +kernel
theorem dX1_joinGroup_4 : decode cX1_joinGroup 4 = .ok (.iload_n 1, 1) := by decide +kernel
theorem dX1_joinGroup_5 : decode cX1_joinGroup 5 = .ok (.aload_n 0, 1) := by decide +kernel
theorem dX1_joinGroup_6 : decode cX1_joinGroup 6 = .ok (.iload_n 2, 1) := by decide +kernel
theorem dX1_joinGroup_7 : decode cX1_joinGroup 7 = .ok (.invokevirtual 143, 3) := by decide +kernel
theorem dX1_joinGroup_10 : decode cX1_joinGroup 10 = .ok (.invokestatic 76, 3) := by decide +kernel
theorem dX1_joinGroup_13 : decode cX1_joinGroup 13 = .ok (.aload_n 0, 1) := by decide +kernel
theorem dX1_joinGroup_14 : decode cX1_joinGroup 14 = .ok (.getfield 49, 3) := by decide +kernel
theorem dX1_joinGroup_17 : decode cX1_joinGroup 17 = .ok (.iload_n 1, 1) := by decide +kernel
theorem dX1_joinGroup_18 : decode cX1_joinGroup 18 = .ok (.iload_n 2, 1) := by decide +kernel
theorem dX1_joinGroup_19 : decode cX1_joinGroup 19 = .ok (.invokestatic 76, 3) := by decide +kernel
theorem dX1_joinGroup_22 : decode cX1_joinGroup 22 = .ok (.aload_n 0, 1) := by decide +kernel
theorem dX1_joinGroup_23 : decode cX1_joinGroup 23 = .ok (.getfield 46, 3) := by decide +kernel
theorem dX1_joinGroup_26 : decode cX1_joinGroup 26 = .ok (.iload_n 2, 1) := by decide +kernel
theorem dX1_joinGroup_27 : decode cX1_joinGroup 27 = .ok (.iload_n 1, 1) := by decide +kernel
theorem dX1_joinGroup_28 : decode cX1_joinGroup 28 = .ok (.invokestatic 76, 3) := by decide +kernel
theorem dX1_joinGroup_31 : decode cX1_joinGroup 31 = .ok (.return_, 1) := by decide +kernel
abbrev rmX1_joinGroup : Room := { frames := 2, cells := 0, slots := 0, locals := 44 }
theorem hdX1_joinGroup : yX1_joinGroup.cls ≠ "java/lang/invoke/MethodHandle" ∧ yX1_joinGroup.cls ≠ "java/lang/invoke/VarHandle" ∧ (parseMethodDescriptor yX1_joinGroup.desc).map (fun d => d.parameters.length) = some 2 := by decide +kernel
def fX1_joinGroup (σ : Sg) (b : Nat) (p1 : Int32) (p2 : Int32) : Option Sg :=
  (fX1_tabCount σ b p2).bind fun r1 =>
  (fX8_put σ (b + 14) 12 p1 r1).bind fun σ2 =>
  (fX8_put σ2 (b + 13) 12 p1 p2).bind fun σ3 =>
  (fX8_put σ3 (b + 12) 23 p2 p1).bind fun σ4 =>
  some σ4
theorem kX1_joinGroup (X : Xc) (σ : Sg) (b : Nat) (p1 : Int32) (p2 : Int32) (hb : plOK b) : ∀ r, fX1_joinGroup σ b p1 p2 = some r → Met X.l yX1_joinGroup (wsM yX1_joinGroup cX1_joinGroup 3 none) rmX1_joinGroup (va_Pc [.ref (X.ad b), .int p1, .int p2] (PW X σ)) (Qv X r) 0 0 X.A := by
  refine mt_of (own := RX1) (lo := [some (.ref (X.ad b)), some (.int (p1)), some (.int (p2))]) (by decide) rfl (Nat.le_of_ble_eq_true rfl) rfl (fun K C hr => ?_)
  unfold fX1_joinGroup
  refine g_aload_n (pc := 0) (i := 0) C dX1_joinGroup_0 rfl rfl ?_
  refine g_getr (pc := 1) (ci := 1) (N := 14) (T := TX1) (j := 12) (Cn := RX1) (b + 14) C rfl inlX1 (Nat.le_of_ble_eq_true rfl) q_3_23 (blk hb 0 rfl) rfl dX1_joinGroup_1 ?_
  refine g_iload_n (pc := 4) (i := 1) C dX1_joinGroup_4 rfl rfl ?_
  refine g_aload_n (pc := 5) (i := 0) C dX1_joinGroup_5 rfl rfl ?_
  refine g_iload_n (pc := 6) (i := 2) C dX1_joinGroup_6 rfl rfl ?_
  refine g_callVi (pc := 7) (As := [.int (p2)]) C (kX1_tabCount X σ b p2 hb) (blk hb 0 rfl) rfl q_12_20 q_12_21 q_12_22 q_2_23 q_12_23 ⟨rfl, hdX1_tabCount⟩ ⟨Nat.le_of_ble_eq_true rfl, Nat.le_of_ble_eq_true rfl, rfl, rfl⟩ ⟨Nat.zero_le _, Nat.zero_le _⟩ (Nat.le_of_ble_eq_true rfl) rfl rfl dX1_joinGroup_7 (fun r1 _ => ?_)
  refine g_callNv (pc := 10) (As := [.ref (X.ad (b + 14)), .int (p1), .int (r1)]) C (kX8_put X σ (b + 14) 12 p1 r1 (blk hb 14 rfl)) (List.mem_of_getElem? (i := 5) rfl) q_9_20 q_1_2 q_9_21 hdX8_put ⟨Nat.le_of_ble_eq_true rfl, Nat.le_of_ble_eq_true rfl, rfl, rfl⟩ ⟨Nat.zero_le _, Nat.zero_le _⟩ (Nat.le_of_ble_eq_true rfl) rfl rfl dX1_joinGroup_10 (fun σ2 _ => ?_)
  refine g_aload_n (pc := 13) (i := 0) C dX1_joinGroup_13 rfl rfl ?_
  refine g_getr (pc := 14) (ci := 1) (N := 14) (T := TX1) (j := 11) (Cn := RX1) (b + 13) C rfl inlX1 (Nat.le_of_ble_eq_true rfl) q_3_22 (blk hb 0 rfl) rfl dX1_joinGroup_14 ?_
  refine g_iload_n (pc := 17) (i := 1) C dX1_joinGroup_17 rfl rfl ?_
  refine g_iload_n (pc := 18) (i := 2) C dX1_joinGroup_18 rfl rfl ?_
  refine g_callNv (pc := 19) (As := [.ref (X.ad (b + 13)), .int (p1), .int (p2)]) C (kX8_put X σ2 (b + 13) 12 p1 p2 (blk hb 13 rfl)) (List.mem_of_getElem? (i := 5) rfl) q_9_20 q_1_2 q_9_21 hdX8_put ⟨Nat.le_of_ble_eq_true rfl, Nat.le_of_ble_eq_true rfl, rfl, rfl⟩ ⟨Nat.zero_le _, Nat.zero_le _⟩ (Nat.le_of_ble_eq_true rfl) rfl rfl dX1_joinGroup_19 (fun σ3 _ => ?_)
  refine g_aload_n (pc := 22) (i := 0) C dX1_joinGroup_22 rfl rfl ?_
  refine g_getr (pc := 23) (ci := 1) (N := 14) (T := TX1) (j := 10) (Cn := RX1) (b + 12) C rfl inlX1 (Nat.le_of_ble_eq_true rfl) q_3_21 (blk hb 0 rfl) rfl dX1_joinGroup_23 ?_
  refine g_iload_n (pc := 26) (i := 2) C dX1_joinGroup_26 rfl rfl ?_
  refine g_iload_n (pc := 27) (i := 1) C dX1_joinGroup_27 rfl rfl ?_
  refine g_callNv (pc := 28) (As := [.ref (X.ad (b + 12)), .int (p2), .int (p1)]) C (kX8_put X σ3 (b + 12) 23 p2 p1 (blk hb 12 rfl)) (List.mem_of_getElem? (i := 5) rfl) q_9_20 q_1_2 q_9_21 hdX8_put ⟨Nat.le_of_ble_eq_true rfl, Nat.le_of_ble_eq_true rfl, rfl, rfl⟩ ⟨Nat.zero_le _, Nat.zero_le _⟩ (Nat.le_of_ble_eq_true rfl) rfl rfl dX1_joinGroup_28 (fun σ4 _ => ?_)
  exact g_vret (pc := 31) C hr dX1_joinGroup_31 rfl
theorem dX1_setRoot_0 : decode cX1_setRoot 0 = .ok (.aload_n 0, 1) := by decide +kernel
theorem dX1_setRoot_1 : decode cX1_setRoot 1 = .ok (.getfield 24, 3) := by decide +kernel
theorem dX1_setRoot_4 : decode cX1_setRoot 4 = .ok (.iload_n 1, 1) := by decide +kernel
theorem dX1_setRoot_5 : decode cX1_setRoot 5 = .ok (.iload_n 2, 1) := by decide +kernel
theorem dX1_setRoot_6 : decode cX1_setRoot 6 = .ok (.invokestatic 76, 3) := by decide +kernel
theorem dX1_setRoot_9 : decode cX1_setRoot 9 = .ok (.return_, 1) := by decide +kernel
abbrev rmX1_setRoot : Room := { frames := 1, cells := 0, slots := 0, locals := 22 }
theorem hdX1_setRoot : yX1_setRoot.cls ≠ "java/lang/invoke/MethodHandle" ∧ yX1_setRoot.cls ≠ "java/lang/invoke/VarHandle" ∧ (parseMethodDescriptor yX1_setRoot.desc).map (fun d => d.parameters.length) = some 2 := by decide +kernel
def fX1_setRoot (σ : Sg) (b : Nat) (p1 : Int32) (p2 : Int32) : Option Sg :=
  (fX8_put σ (b + 5) 5 p1 p2).bind fun σ1 =>
  some σ1
theorem kX1_setRoot (X : Xc) (σ : Sg) (b : Nat) (p1 : Int32) (p2 : Int32) (hb : plOK b) : ∀ r, fX1_setRoot σ b p1 p2 = some r → Met X.l yX1_setRoot (wsM yX1_setRoot cX1_setRoot 3 none) rmX1_setRoot (va_Pc [.ref (X.ad b), .int p1, .int p2] (PW X σ)) (Qv X r) 0 0 X.A := by
  refine mt_of (own := RX1) (lo := [some (.ref (X.ad b)), some (.int (p1)), some (.int (p2))]) (by decide) rfl (Nat.le_of_ble_eq_true rfl) rfl (fun K C hr => ?_)
  unfold fX1_setRoot
  refine g_aload_n (pc := 0) (i := 0) C dX1_setRoot_0 rfl rfl ?_
  refine g_getr (pc := 1) (ci := 1) (N := 14) (T := TX1) (j := 4) (Cn := RX1) (b + 5) C rfl inlX1 (Nat.le_of_ble_eq_true rfl) q_3_14 (blk hb 0 rfl) rfl dX1_setRoot_1 ?_
  refine g_iload_n (pc := 4) (i := 1) C dX1_setRoot_4 rfl rfl ?_
  refine g_iload_n (pc := 5) (i := 2) C dX1_setRoot_5 rfl rfl ?_
  refine g_callNv (pc := 6) (As := [.ref (X.ad (b + 5)), .int (p1), .int (p2)]) C (kX8_put X σ (b + 5) 5 p1 p2 (blk hb 5 rfl)) (List.mem_of_getElem? (i := 5) rfl) q_9_20 q_1_2 q_9_21 hdX8_put ⟨Nat.le_of_ble_eq_true rfl, Nat.le_of_ble_eq_true rfl, rfl, rfl⟩ ⟨Nat.zero_le _, Nat.zero_le _⟩ (Nat.le_of_ble_eq_true rfl) rfl rfl dX1_setRoot_6 (fun σ1 _ => ?_)
  exact g_vret (pc := 9) C hr dX1_setRoot_9 rfl
theorem dX1_makeRootGroup_0 : decode cX1_makeRootGroup 0 = .ok (.aload_n 0, 1) := by decide +kernel
theorem dX1_makeRootGroup_1 : decode cX1_makeRootGroup 1 = .ok (.iconst 2, 1) := by decide +kernel
theorem dX1_makeRootGroup_2 : decode cX1_makeRootGroup 2 = .ok (.invokevirtual 94, 3) := by decide +kernel
theorem dX1_makeRootGroup_5 : decode cX1_makeRootGroup 5 = .ok (.istore_n 2, 1) := by decide +kernel
theorem dX1_makeRootGroup_6 : decode cX1_makeRootGroup 6 = .ok (.aload_n 0, 1) := by decide +kernel
theorem dX1_makeRootGroup_7 : decode cX1_makeRootGroup 7 = .ok (.iload_n 1, 1) := by decide +kernel
theorem dX1_makeRootGroup_8 : decode cX1_makeRootGroup 8 = .ok (.iload_n 2, 1) := by decide +kernel
theorem dX1_makeRootGroup_9 : decode cX1_makeRootGroup 9 = .ok (.invokevirtual 97, 3) := by decide +kernel
theorem dX1_makeRootGroup_12 : decode cX1_makeRootGroup 12 = .ok (.iload_n 2, 1) := by decide +kernel
theorem dX1_makeRootGroup_13 : decode cX1_makeRootGroup 13 = .ok (.ireturn, 1) := by decide +kernel
abbrev rmX1_makeRootGroup : Room := { frames := 2, cells := 0, slots := 0, locals := 44 }
theorem hdX1_makeRootGroup : yX1_makeRootGroup.cls ≠ "java/lang/invoke/MethodHandle" ∧ yX1_makeRootGroup.cls ≠ "java/lang/invoke/VarHandle" ∧ (parseMethodDescriptor yX1_makeRootGroup.desc).map (fun d => d.parameters.length) = some 1 := by decide +kernel
def fX1_makeRootGroup (σ : Sg) (b : Nat) (p1 : Int32) : Option (Int32 × Sg) :=
  (fX1_makeNode σ b 2).bind fun r1 =>
  (fX1_setRoot r1.2 b p1 r1.1).bind fun σ2 =>
  some (r1.1, σ2)
theorem kX1_makeRootGroup (X : Xc) (σ : Sg) (b : Nat) (p1 : Int32) (hb : plOK b) : ∀ r, fX1_makeRootGroup σ b p1 = some r → Met X.l yX1_makeRootGroup (wsM yX1_makeRootGroup cX1_makeRootGroup 3 (some .int)) rmX1_makeRootGroup (va_Pc [.ref (X.ad b), .int p1] (PW X σ)) (Qi X r.1 r.2) 0 0 X.A := by
  refine mt_of (own := RX1) (lo := [some (.ref (X.ad b)), some (.int (p1)), none]) (by decide) rfl (Nat.le_of_ble_eq_true rfl) rfl (fun K C hr => ?_)
  unfold fX1_makeRootGroup
  refine g_aload_n (pc := 0) (i := 0) C dX1_makeRootGroup_0 rfl rfl ?_
  refine g_iconst (pc := 1) (v := 2) C dX1_makeRootGroup_1 (by decide) ?_
  refine g_callVi (pc := 2) (As := [.int (2)]) C (kX1_makeNode X σ b 2 hb) (blk hb 0 rfl) rfl q_34_1 q_34_2 q_34_3 q_2_23 q_34_4 ⟨rfl, hdX1_makeNode⟩ ⟨Nat.le_of_ble_eq_true rfl, Nat.le_of_ble_eq_true rfl, rfl, rfl⟩ ⟨Nat.zero_le _, Nat.zero_le _⟩ (Nat.le_of_ble_eq_true rfl) rfl rfl dX1_makeRootGroup_2 (fun r1 _ => ?_)
  refine g_istore_n (pc := 5) (i := 2) C dX1_makeRootGroup_5 rfl (Nat.le_of_ble_eq_true rfl) rfl ?_
  refine g_aload_n (pc := 6) (i := 0) C dX1_makeRootGroup_6 rfl rfl ?_
  refine g_iload_n (pc := 7) (i := 1) C dX1_makeRootGroup_7 rfl rfl ?_
  refine g_iload_n (pc := 8) (i := 2) C dX1_makeRootGroup_8 rfl rfl ?_
  refine g_callVv (pc := 9) (As := [.int (p1), .int (r1.1)]) C (kX1_setRoot X r1.2 b p1 r1.1 hb) (blk hb 0 rfl) rfl q_36_5 q_36_6 q_36_7 q_2_23 q_36_8 ⟨rfl, hdX1_setRoot⟩ ⟨Nat.le_of_ble_eq_true rfl, Nat.le_of_ble_eq_true rfl, rfl, rfl⟩ ⟨Nat.zero_le _, Nat.zero_le _⟩ (Nat.le_of_ble_eq_true rfl) rfl rfl dX1_makeRootGroup_9 (fun σ2 _ => ?_)
  refine g_iload_n (pc := 12) (i := 2) C dX1_makeRootGroup_12 rfl rfl ?_
  exact g_iret (pc := 13) C hr dX1_makeRootGroup_13 rfl
theorem dX1_lowestFreeWindow_0 : decode cX1_lowestFreeWindow 0 = .ok (.iconst 1, 1) := by decide +kernel
theorem dX1_lowestFreeWindow_1 : decode cX1_lowestFreeWindow 1 = .ok (.istore_n 1, 1) := by decide +kernel
theorem dX1_lowestFreeWindow_2 : decode cX1_lowestFreeWindow 2 = .ok (.iload_n 1, 1) := by decide +kernel
theorem dX1_lowestFreeWindow_3 : decode cX1_lowestFreeWindow 3 = .ok (.iconst 5, 1) := by decide +kernel
theorem dX1_lowestFreeWindow_4 : decode cX1_lowestFreeWindow 4 = .ok (.if_icmp .ge 20, 3) := by decide +kernel
theorem dX1_lowestFreeWindow_7 : decode cX1_lowestFreeWindow 7 = .ok (.aload_n 0, 1) := by decide +kernel
theorem dX1_lowestFreeWindow_8 : decode cX1_lowestFreeWindow 8 = .ok (.iload_n 1, 1) := by decide +kernel
theorem dX1_lowestFreeWindow_9 : decode cX1_lowestFreeWindow 9 = .ok (.invokevirtual 80, 3) := by decide +kernel
theorem dX1_lowestFreeWindow_12 : decode cX1_lowestFreeWindow 12 = .ok (.iconst (-1), 1) := by decide +kernel
theorem dX1_lowestFreeWindow_13 : decode cX1_lowestFreeWindow 13 = .ok (.if_icmp .ne 5, 3) := by decide +kernel
theorem dX1_lowestFreeWindow_16 : decode cX1_lowestFreeWindow 16 = .ok (.iload_n 1, 1) := by decide +kernel
theorem dX1_lowestFreeWindow_17 : decode cX1_lowestFreeWindow 17 = .ok (.ireturn, 1) := by decide +kernel
theorem dX1_lowestFreeWindow_18 : decode cX1_lowestFreeWindow 18 = .ok (.iinc 1 1, 3) := by decide +kernel
theorem dX1_lowestFreeWindow_21 : decode cX1_lowestFreeWindow 21 = .ok (.goto (-19), 3) := by decide +kernel
theorem dX1_lowestFreeWindow_24 : decode cX1_lowestFreeWindow 24 = .ok (.iconst (-1), 1) := by decide +kernel
theorem dX1_lowestFreeWindow_25 : decode cX1_lowestFreeWindow 25 = .ok (.ireturn, 1) := by decide +kernel
abbrev rmX1_lowestFreeWindow : Room := { frames := 2, cells := 0, slots := 0, locals := 42 }
theorem hdX1_lowestFreeWindow : yX1_lowestFreeWindow.cls ≠ "java/lang/invoke/MethodHandle" ∧ yX1_lowestFreeWindow.cls ≠ "java/lang/invoke/VarHandle" ∧ (parseMethodDescriptor yX1_lowestFreeWindow.desc).map (fun d => d.parameters.length) = some 0 := by decide +kernel
def fX1_lowestFreeWindow_2 (σ : Sg) (b : Nat) : Nat → Int32 → Option Int32
  | 0, _ => none
  | n + 1, l1 =>
    if 5 ≤ l1 then
      some (-1)
    else
      (fX1_rootOf σ b l1).bind fun r1 =>
      if r1 = (-1) then
        some l1
      else
        ((fX1_lowestFreeWindow_2 σ b n) (l1 + 1))
theorem bX1_lowestFreeWindow_2 {X : Xc} {K : Kc} (C : MC X K cX1_lowestFreeWindow 2 RX1 rmX1_lowestFreeWindow) (hr : K.meth.sig.returnType = (some .int)) (σ : Sg) (b : Nat) (hb : plOK b) : ∀ (n : Nat) (l1 : Int32), GO X K 2 (fun r => MQi X K r σ) (fX1_lowestFreeWindow_2 σ b n l1) σ 0 0 2 [some (.ref (X.ad b)), some (.int (l1))] [] := by
  intro n
  induction n with
  | zero =>
    intro l1
    exact g_none
  | succ n ih =>
    intro l1
    unfold fX1_lowestFreeWindow_2
    refine g_iload_n (pc := 2) (i := 1) C dX1_lowestFreeWindow_2 rfl rfl ?_
    refine g_iconst (pc := 3) (v := 5) C dX1_lowestFreeWindow_3 (by decide) ?_
    refine g_icmp_ge (pc := 4) (tgt := 24) C dX1_lowestFreeWindow_4 rfl ?_ ?_
    · refine g_iconst (pc := 24) (v := (-1)) C dX1_lowestFreeWindow_24 (by decide) ?_
      exact g_iret (pc := 25) C hr dX1_lowestFreeWindow_25 rfl
    · refine g_aload_n (pc := 7) (i := 0) C dX1_lowestFreeWindow_7 rfl rfl ?_
      refine g_iload_n (pc := 8) (i := 1) C dX1_lowestFreeWindow_8 rfl rfl ?_
      refine g_callVi (pc := 9) (As := [.int (l1)]) C (kX1_rootOf X σ b l1 hb) (blk hb 0 rfl) rfl q_29_18 q_15_12 q_15_13 q_2_23 q_15_14 ⟨rfl, hdX1_rootOf⟩ ⟨Nat.le_of_ble_eq_true rfl, Nat.le_of_ble_eq_true rfl, rfl, rfl⟩ ⟨Nat.zero_le _, Nat.zero_le _⟩ (Nat.le_of_ble_eq_true rfl) rfl rfl dX1_lowestFreeWindow_9 (fun r1 _ => ?_)
      refine g_iconst (pc := 12) (v := (-1)) C dX1_lowestFreeWindow_12 (by decide) ?_
      refine g_icmp_ne (pc := 13) (tgt := 18) C dX1_lowestFreeWindow_13 rfl ?_ ?_
      · refine g_iload_n (pc := 16) (i := 1) C dX1_lowestFreeWindow_16 rfl rfl ?_
        exact g_iret (pc := 17) C hr dX1_lowestFreeWindow_17 rfl
      · refine g_iinc (pc := 18) (v := l1 + 1) C dX1_lowestFreeWindow_18 rfl (rfl) (Nat.le_of_ble_eq_true rfl) rfl ?_
        refine g_goto (pc := 21) (tgt := 2) C dX1_lowestFreeWindow_21 rfl ?_
        refine g_keep [true, true] ?_
        exact ih (l1 + 1)
def fX1_lowestFreeWindow (σ : Sg) (b : Nat) : Option Int32 :=
  (fX1_lowestFreeWindow_2 σ b FU 1)
theorem kX1_lowestFreeWindow (X : Xc) (σ : Sg) (b : Nat) (hb : plOK b) : ∀ r, fX1_lowestFreeWindow σ b = some r → Met X.l yX1_lowestFreeWindow (wsM yX1_lowestFreeWindow cX1_lowestFreeWindow 2 (some .int)) rmX1_lowestFreeWindow (va_Pc [.ref (X.ad b)] (PW X σ)) (Qi X r σ) 0 0 X.A := by
  refine mt_of (own := RX1) (lo := [some (.ref (X.ad b)), none]) (by decide) rfl (Nat.le_of_ble_eq_true rfl) rfl (fun K C hr => ?_)
  unfold fX1_lowestFreeWindow
  refine g_iconst (pc := 0) (v := 1) C dX1_lowestFreeWindow_0 (by decide) ?_
  refine g_istore_n (pc := 1) (i := 1) C dX1_lowestFreeWindow_1 rfl (Nat.le_of_ble_eq_true rfl) rfl ?_
  refine g_keep [true, true] ?_
  exact bX1_lowestFreeWindow_2 C hr σ b hb FU 1
theorem dX1_reveal_0 : decode cX1_reveal 0 = .ok (.aload_n 0, 1) := by decide +kernel
theorem dX1_reveal_1 : decode cX1_reveal 1 = .ok (.iload_n 1, 1) := by decide +kernel
theorem dX1_reveal_2 : decode cX1_reveal 2 = .ok (.invokevirtual 84, 3) := by decide +kernel
theorem dX1_reveal_5 : decode cX1_reveal 5 = .ok (.istore_n 2, 1) := by decide +kernel
theorem dX1_reveal_6 : decode cX1_reveal 6 = .ok (.aload_n 0, 1) := by decide +kernel
theorem dX1_reveal_7 : decode cX1_reveal 7 = .ok (.getfield 55, 3) := by decide +kernel
theorem dX1_reveal_10 : decode cX1_reveal 10 = .ok (.iload_n 1, 1) := by decide +kernel
theorem dX1_reveal_11 : decode cX1_reveal 11 = .ok (.iconst 0, 1) := by decide +kernel
theorem dX1_reveal_12 : decode cX1_reveal 12 = .ok (.invokestatic 76, 3) := by decide +kernel
theorem dX1_reveal_15 : decode cX1_reveal 15 = .ok (.aload_n 0, 1) := by decide +kernel
theorem dX1_reveal_16 : decode cX1_reveal 16 = .ok (.getfield 46, 3) := by decide +kernel
theorem dX1_reveal_19 : decode cX1_reveal 19 = .ok (.iload_n 2, 1) := by decide +kernel
theorem dX1_reveal_20 : decode cX1_reveal 20 = .ok (.invokestatic 72, 3) := by decide +kernel
theorem dX1_reveal_23 : decode cX1_reveal 23 = .ok (.iconst (-1), 1) := by decide +kernel
theorem dX1_reveal_24 : decode cX1_reveal 24 = .ok (.if_icmp .ne 12, 3) := by decide +kernel
theorem dX1_reveal_27 : decode cX1_reveal 27 = .ok (.aload_n 0, 1) := by decide +kernel
theorem dX1_reveal_28 : decode cX1_reveal 28 = .ok (.getfield 46, 3) := by decide +kernel
theorem dX1_reveal_31 : decode cX1_reveal 31 = .ok (.iload_n 2, 1) := by decide +kernel
theorem dX1_reveal_32 : decode cX1_reveal 32 = .ok (.iload_n 1, 1) := by decide +kernel
theorem dX1_reveal_33 : decode cX1_reveal 33 = .ok (.invokestatic 76, 3) := by decide +kernel
theorem dX1_reveal_36 : decode cX1_reveal 36 = .ok (.return_, 1) := by decide +kernel
abbrev rmX1_reveal : Room := { frames := 2, cells := 0, slots := 0, locals := 42 }
theorem hdX1_reveal : yX1_reveal.cls ≠ "java/lang/invoke/MethodHandle" ∧ yX1_reveal.cls ≠ "java/lang/invoke/VarHandle" ∧ (parseMethodDescriptor yX1_reveal.desc).map (fun d => d.parameters.length) = some 1 := by decide +kernel
def fX1_reveal (σ : Sg) (b : Nat) (p1 : Int32) : Option Sg :=
  (fX1_groupOf σ b p1).bind fun r1 =>
  (fX8_put σ (b + 15) 12 p1 0).bind fun σ2 =>
  (fX8_at σ2 (b + 12) 23 r1).bind fun r3 =>
  if r3 = (-1) then
    (fX8_put σ2 (b + 12) 23 r1 p1).bind fun σ4 =>
    some σ4
  else
    some σ2
theorem kX1_reveal (X : Xc) (σ : Sg) (b : Nat) (p1 : Int32) (hb : plOK b) : ∀ r, fX1_reveal σ b p1 = some r → Met X.l yX1_reveal (wsM yX1_reveal cX1_reveal 3 none) rmX1_reveal (va_Pc [.ref (X.ad b), .int p1] (PW X σ)) (Qv X r) 0 0 X.A := by
  refine mt_of (own := RX1) (lo := [some (.ref (X.ad b)), some (.int (p1)), none]) (by decide) rfl (Nat.le_of_ble_eq_true rfl) rfl (fun K C hr => ?_)
  unfold fX1_reveal
  refine g_aload_n (pc := 0) (i := 0) C dX1_reveal_0 rfl rfl ?_
  refine g_iload_n (pc := 1) (i := 1) C dX1_reveal_1 rfl rfl ?_
  refine g_callVi (pc := 2) (As := [.int (p1)]) C (kX1_groupOf X σ b p1 hb) (blk hb 0 rfl) rfl q_11_18 q_11_19 q_11_20 q_2_23 q_11_21 ⟨rfl, hdX1_groupOf⟩ ⟨Nat.le_of_ble_eq_true rfl, Nat.le_of_ble_eq_true rfl, rfl, rfl⟩ ⟨Nat.zero_le _, Nat.zero_le _⟩ (Nat.le_of_ble_eq_true rfl) rfl rfl dX1_reveal_2 (fun r1 _ => ?_)
  refine g_istore_n (pc := 5) (i := 2) C dX1_reveal_5 rfl (Nat.le_of_ble_eq_true rfl) rfl ?_
  refine g_aload_n (pc := 6) (i := 0) C dX1_reveal_6 rfl rfl ?_
  refine g_getr (pc := 7) (ci := 1) (N := 14) (T := TX1) (j := 13) (Cn := RX1) (b + 15) C rfl inlX1 (Nat.le_of_ble_eq_true rfl) q_4_0 (blk hb 0 rfl) rfl dX1_reveal_7 ?_
  refine g_iload_n (pc := 10) (i := 1) C dX1_reveal_10 rfl rfl ?_
  refine g_iconst (pc := 11) (v := 0) C dX1_reveal_11 (by decide) ?_
  refine g_callNv (pc := 12) (As := [.ref (X.ad (b + 15)), .int (p1), .int (0)]) C (kX8_put X σ (b + 15) 12 p1 0 (blk hb 15 rfl)) (List.mem_of_getElem? (i := 5) rfl) q_9_20 q_1_2 q_9_21 hdX8_put ⟨Nat.le_of_ble_eq_true rfl, Nat.le_of_ble_eq_true rfl, rfl, rfl⟩ ⟨Nat.zero_le _, Nat.zero_le _⟩ (Nat.le_of_ble_eq_true rfl) rfl rfl dX1_reveal_12 (fun σ2 _ => ?_)
  refine g_aload_n (pc := 15) (i := 0) C dX1_reveal_15 rfl rfl ?_
  refine g_getr (pc := 16) (ci := 1) (N := 14) (T := TX1) (j := 10) (Cn := RX1) (b + 12) C rfl inlX1 (Nat.le_of_ble_eq_true rfl) q_3_21 (blk hb 0 rfl) rfl dX1_reveal_16 ?_
  refine g_iload_n (pc := 19) (i := 2) C dX1_reveal_19 rfl rfl ?_
  refine g_callNi (pc := 20) (As := [.ref (X.ad (b + 12)), .int (r1)]) C (kX8_at X σ2 (b + 12) 23 r1 (blk hb 12 rfl)) (List.mem_of_getElem? (i := 4) rfl) q_11_22 q_1_2 q_11_23 hdX8_at ⟨Nat.le_of_ble_eq_true rfl, Nat.le_of_ble_eq_true rfl, rfl, rfl⟩ ⟨Nat.zero_le _, Nat.zero_le _⟩ (Nat.le_of_ble_eq_true rfl) rfl rfl dX1_reveal_20 (fun r3 _ => ?_)
  refine g_iconst (pc := 23) (v := (-1)) C dX1_reveal_23 (by decide) ?_
  refine g_icmp_ne (pc := 24) (tgt := 36) C dX1_reveal_24 rfl ?_ ?_
  · refine g_aload_n (pc := 27) (i := 0) C dX1_reveal_27 rfl rfl ?_
    refine g_getr (pc := 28) (ci := 1) (N := 14) (T := TX1) (j := 10) (Cn := RX1) (b + 12) C rfl inlX1 (Nat.le_of_ble_eq_true rfl) q_3_21 (blk hb 0 rfl) rfl dX1_reveal_28 ?_
    refine g_iload_n (pc := 31) (i := 2) C dX1_reveal_31 rfl rfl ?_
    refine g_iload_n (pc := 32) (i := 1) C dX1_reveal_32 rfl rfl ?_
    refine g_callNv (pc := 33) (As := [.ref (X.ad (b + 12)), .int (r1), .int (p1)]) C (kX8_put X σ2 (b + 12) 23 r1 p1 (blk hb 12 rfl)) (List.mem_of_getElem? (i := 5) rfl) q_9_20 q_1_2 q_9_21 hdX8_put ⟨Nat.le_of_ble_eq_true rfl, Nat.le_of_ble_eq_true rfl, rfl, rfl⟩ ⟨Nat.zero_le _, Nat.zero_le _⟩ (Nat.le_of_ble_eq_true rfl) rfl rfl dX1_reveal_33 (fun σ4 _ => ?_)
    exact g_vret (pc := 36) C hr dX1_reveal_36 rfl
  · exact g_vret (pc := 36) C hr dX1_reveal_36 rfl
theorem dX1_setActive_0 : decode cX1_setActive 0 = .ok (.aload_n 0, 1) := by decide +kernel
theorem dX1_setActive_1 : decode cX1_setActive 1 = .ok (.getfield 46, 3) := by decide +kernel
theorem dX1_setActive_4 : decode cX1_setActive 4 = .ok (.iload_n 1, 1) := by decide +kernel
theorem dX1_setActive_5 : decode cX1_setActive 5 = .ok (.iload_n 2, 1) := by decide +kernel
theorem dX1_setActive_6 : decode cX1_setActive 6 = .ok (.invokestatic 76, 3) := by decide +kernel
theorem dX1_setActive_9 : decode cX1_setActive 9 = .ok (.return_, 1) := by decide +kernel
abbrev rmX1_setActive : Room := { frames := 1, cells := 0, slots := 0, locals := 22 }
theorem hdX1_setActive : yX1_setActive.cls ≠ "java/lang/invoke/MethodHandle" ∧ yX1_setActive.cls ≠ "java/lang/invoke/VarHandle" ∧ (parseMethodDescriptor yX1_setActive.desc).map (fun d => d.parameters.length) = some 2 := by decide +kernel
def fX1_setActive (σ : Sg) (b : Nat) (p1 : Int32) (p2 : Int32) : Option Sg :=
  (fX8_put σ (b + 12) 23 p1 p2).bind fun σ1 =>
  some σ1
theorem kX1_setActive (X : Xc) (σ : Sg) (b : Nat) (p1 : Int32) (p2 : Int32) (hb : plOK b) : ∀ r, fX1_setActive σ b p1 p2 = some r → Met X.l yX1_setActive (wsM yX1_setActive cX1_setActive 3 none) rmX1_setActive (va_Pc [.ref (X.ad b), .int p1, .int p2] (PW X σ)) (Qv X r) 0 0 X.A := by
  refine mt_of (own := RX1) (lo := [some (.ref (X.ad b)), some (.int (p1)), some (.int (p2))]) (by decide) rfl (Nat.le_of_ble_eq_true rfl) rfl (fun K C hr => ?_)
  unfold fX1_setActive
  refine g_aload_n (pc := 0) (i := 0) C dX1_setActive_0 rfl rfl ?_
  refine g_getr (pc := 1) (ci := 1) (N := 14) (T := TX1) (j := 10) (Cn := RX1) (b + 12) C rfl inlX1 (Nat.le_of_ble_eq_true rfl) q_3_21 (blk hb 0 rfl) rfl dX1_setActive_1 ?_
  refine g_iload_n (pc := 4) (i := 1) C dX1_setActive_4 rfl rfl ?_
  refine g_iload_n (pc := 5) (i := 2) C dX1_setActive_5 rfl rfl ?_
  refine g_callNv (pc := 6) (As := [.ref (X.ad (b + 12)), .int (p1), .int (p2)]) C (kX8_put X σ (b + 12) 23 p1 p2 (blk hb 12 rfl)) (List.mem_of_getElem? (i := 5) rfl) q_9_20 q_1_2 q_9_21 hdX8_put ⟨Nat.le_of_ble_eq_true rfl, Nat.le_of_ble_eq_true rfl, rfl, rfl⟩ ⟨Nat.zero_le _, Nat.zero_le _⟩ (Nat.le_of_ble_eq_true rfl) rfl rfl dX1_setActive_6 (fun σ1 _ => ?_)
  exact g_vret (pc := 9) C hr dX1_setActive_9 rfl
theorem dX1_placeOf_0 : decode cX1_placeOf 0 = .ok (.aload_n 0, 1) := by decide +kernel
theorem dX1_placeOf_1 : decode cX1_placeOf 1 = .ok (.getfield 40, 3) := by decide +kernel
theorem dX1_placeOf_4 : decode cX1_placeOf 4 = .ok (.iload_n 1, 1) := by decide +kernel
theorem dX1_placeOf_5 : decode cX1_placeOf 5 = .ok (.invokestatic 72, 3) := by decide +kernel
theorem dX1_placeOf_8 : decode cX1_placeOf 8 = .ok (.ireturn, 1) := by decide +kernel
abbrev rmX1_placeOf : Room := { frames := 1, cells := 0, slots := 0, locals := 21 }
theorem hdX1_placeOf : yX1_placeOf.cls ≠ "java/lang/invoke/MethodHandle" ∧ yX1_placeOf.cls ≠ "java/lang/invoke/VarHandle" ∧ (parseMethodDescriptor yX1_placeOf.desc).map (fun d => d.parameters.length) = some 1 := by decide +kernel
def fX1_placeOf (σ : Sg) (b : Nat) (p1 : Int32) : Option Int32 :=
  (fX8_at σ (b + 10) 23 p1).bind fun r1 =>
  some r1
theorem kX1_placeOf (X : Xc) (σ : Sg) (b : Nat) (p1 : Int32) (hb : plOK b) : ∀ r, fX1_placeOf σ b p1 = some r → Met X.l yX1_placeOf (wsM yX1_placeOf cX1_placeOf 2 (some .int)) rmX1_placeOf (va_Pc [.ref (X.ad b), .int p1] (PW X σ)) (Qi X r σ) 0 0 X.A := by
  refine mt_of (own := RX1) (lo := [some (.ref (X.ad b)), some (.int (p1))]) (by decide) rfl (Nat.le_of_ble_eq_true rfl) rfl (fun K C hr => ?_)
  unfold fX1_placeOf
  refine g_aload_n (pc := 0) (i := 0) C dX1_placeOf_0 rfl rfl ?_
  refine g_getr (pc := 1) (ci := 1) (N := 14) (T := TX1) (j := 8) (Cn := RX1) (b + 10) C rfl inlX1 (Nat.le_of_ble_eq_true rfl) q_3_19 (blk hb 0 rfl) rfl dX1_placeOf_1 ?_
  refine g_iload_n (pc := 4) (i := 1) C dX1_placeOf_4 rfl rfl ?_
  refine g_callNi (pc := 5) (As := [.ref (X.ad (b + 10)), .int (p1)]) C (kX8_at X σ (b + 10) 23 p1 (blk hb 10 rfl)) (List.mem_of_getElem? (i := 4) rfl) q_11_22 q_1_2 q_11_23 hdX8_at ⟨Nat.le_of_ble_eq_true rfl, Nat.le_of_ble_eq_true rfl, rfl, rfl⟩ ⟨Nat.zero_le _, Nat.zero_le _⟩ (Nat.le_of_ble_eq_true rfl) rfl rfl dX1_placeOf_5 (fun r1 _ => ?_)
  exact g_iret (pc := 8) C hr dX1_placeOf_8 rfl
theorem dX1_setWeight_0 : decode cX1_setWeight 0 = .ok (.aload_n 0, 1) := by decide +kernel
theorem dX1_setWeight_1 : decode cX1_setWeight 1 = .ok (.getfield 43, 3) := by decide +kernel
theorem dX1_setWeight_4 : decode cX1_setWeight 4 = .ok (.iload_n 1, 1) := by decide +kernel
theorem dX1_setWeight_5 : decode cX1_setWeight 5 = .ok (.iload_n 2, 1) := by decide +kernel
theorem dX1_setWeight_6 : decode cX1_setWeight 6 = .ok (.invokestatic 76, 3) := by decide +kernel
theorem dX1_setWeight_9 : decode cX1_setWeight 9 = .ok (.return_, 1) := by decide +kernel
abbrev rmX1_setWeight : Room := { frames := 1, cells := 0, slots := 0, locals := 22 }
theorem hdX1_setWeight : yX1_setWeight.cls ≠ "java/lang/invoke/MethodHandle" ∧ yX1_setWeight.cls ≠ "java/lang/invoke/VarHandle" ∧ (parseMethodDescriptor yX1_setWeight.desc).map (fun d => d.parameters.length) = some 2 := by decide +kernel
def fX1_setWeight (σ : Sg) (b : Nat) (p1 : Int32) (p2 : Int32) : Option Sg :=
  (fX8_put σ (b + 11) 23 p1 p2).bind fun σ1 =>
  some σ1
theorem kX1_setWeight (X : Xc) (σ : Sg) (b : Nat) (p1 : Int32) (p2 : Int32) (hb : plOK b) : ∀ r, fX1_setWeight σ b p1 p2 = some r → Met X.l yX1_setWeight (wsM yX1_setWeight cX1_setWeight 3 none) rmX1_setWeight (va_Pc [.ref (X.ad b), .int p1, .int p2] (PW X σ)) (Qv X r) 0 0 X.A := by
  refine mt_of (own := RX1) (lo := [some (.ref (X.ad b)), some (.int (p1)), some (.int (p2))]) (by decide) rfl (Nat.le_of_ble_eq_true rfl) rfl (fun K C hr => ?_)
  unfold fX1_setWeight
  refine g_aload_n (pc := 0) (i := 0) C dX1_setWeight_0 rfl rfl ?_
  refine g_getr (pc := 1) (ci := 1) (N := 14) (T := TX1) (j := 9) (Cn := RX1) (b + 11) C rfl inlX1 (Nat.le_of_ble_eq_true rfl) q_3_20 (blk hb 0 rfl) rfl dX1_setWeight_1 ?_
  refine g_iload_n (pc := 4) (i := 1) C dX1_setWeight_4 rfl rfl ?_
  refine g_iload_n (pc := 5) (i := 2) C dX1_setWeight_5 rfl rfl ?_
  refine g_callNv (pc := 6) (As := [.ref (X.ad (b + 11)), .int (p1), .int (p2)]) C (kX8_put X σ (b + 11) 23 p1 p2 (blk hb 11 rfl)) (List.mem_of_getElem? (i := 5) rfl) q_9_20 q_1_2 q_9_21 hdX8_put ⟨Nat.le_of_ble_eq_true rfl, Nat.le_of_ble_eq_true rfl, rfl, rfl⟩ ⟨Nat.zero_le _, Nat.zero_le _⟩ (Nat.le_of_ble_eq_true rfl) rfl rfl dX1_setWeight_6 (fun σ1 _ => ?_)
  exact g_vret (pc := 9) C hr dX1_setWeight_9 rfl
theorem dX1_windowContains_0 : decode cX1_windowContains 0 = .ok (.aload_n 0, 1) := by decide +kernel
theorem dX1_windowContains_1 : decode cX1_windowContains 1 = .ok (.getfield 9, 3) := by decide +kernel
theorem dX1_windowContains_4 : decode cX1_windowContains 4 = .ok (.iload_n 1, 1) := by decide +kernel
theorem dX1_windowContains_5 : decode cX1_windowContains 5 = .ok (.invokestatic 72, 3) := by decide +kernel
theorem dX1_windowContains_8 : decode cX1_windowContains 8 = .ok (.istore 4, 2) := by decide +kernel
theorem dX1_windowContains_10 : decode cX1_windowContains 10 = .ok (.aload_n 0, 1) := by decide +kernel
theorem dX1_windowContains_11 : decode cX1_windowContains 11 = .ok (.getfield 15, 3) := by decide +kernel
theorem dX1_windowContains_14 : decode cX1_windowContains 14 = .ok (.iload_n 1, 1) := by decide +kernel
theorem dX1_windowContains_15 : decode cX1_windowContains 15 = .ok (.invokestatic 72, 3) := by decide +kernel
theorem dX1_windowContains_18 : decode cX1_windowContains 18 = .ok (.istore 5, 2) := by decide +kernel
theorem dX1_windowContains_20 : decode cX1_windowContains 20 = .ok (.iload_n 2, 1) := by decide +kernel
theorem dX1_windowContains_21 : decode cX1_windowContains 21 = .ok (.iload 4, 2) := by decide +kernel
theorem dX1_windowContains_23 : decode cX1_windowContains 23 = .ok (.if_icmp .lt 43, 3) := by decide +kernel
theorem dX1_windowContains_26 : decode cX1_windowContains 26 = .ok (.iload_n 2, 1) := by decide +kernel
theorem dX1_windowContains_27 : decode cX1_windowContains 27 = .ok (.iload 4, 2) := by decide +kernel
theorem dX1_windowContains_29 : decode cX1_windowContains 29 = .ok (.aload_n 0, 1) := by decide +kernel
theorem dX1_windowContains_30 : decode cX1_windowContains 30 = .ok (.getfield 18, 3) := by decide +kernel
theorem dX1_windowContains_33 : decode cX1_windowContains 33 = .ok (.iload_n 1, 1) := by decide +kernel
theorem dX1_windowContains_34 : decode cX1_windowContains 34 = .ok (.invokestatic 72, 3) := by decide +kernel
theorem dX1_windowContains_37 : decode cX1_windowContains 37 = .ok (.iadd, 1) := by decide +kernel
theorem dX1_windowContains_38 : decode cX1_windowContains 38 = .ok (.if_icmp .ge 28, 3) := by decide +kernel
theorem dX1_windowContains_41 : decode cX1_windowContains 41 = .ok (.iload_n 3, 1) := by decide +kernel
theorem dX1_windowContains_42 : decode cX1_windowContains 42 = .ok (.iload 5, 2) := by decide +kernel
theorem dX1_windowContains_44 : decode cX1_windowContains 44 = .ok (.if_icmp .lt 22, 3) := by decide +kernel
theorem dX1_windowContains_47 : decode cX1_windowContains 47 = .ok (.iload_n 3, 1) := by decide +kernel
theorem dX1_windowContains_48 : decode cX1_windowContains 48 = .ok (.iload 5, 2) := by decide +kernel
theorem dX1_windowContains_50 : decode cX1_windowContains 50 = .ok (.aload_n 0, 1) := by decide +kernel
theorem dX1_windowContains_51 : decode cX1_windowContains 51 = .ok (.getfield 21, 3) := by decide +kernel
theorem dX1_windowContains_54 : decode cX1_windowContains 54 = .ok (.iload_n 1, 1) := by decide +kernel
theorem dX1_windowContains_55 : decode cX1_windowContains 55 = .ok (.invokestatic 72, 3) := by decide +kernel
theorem dX1_windowContains_58 : decode cX1_windowContains 58 = .ok (.iadd, 1) := by decide +kernel
theorem dX1_windowContains_59 : decode cX1_windowContains 59 = .ok (.if_icmp .ge 7, 3) := by decide +kernel
theorem dX1_windowContains_62 : decode cX1_windowContains 62 = .ok (.iconst 1, 1) := by decide +kernel
theorem dX1_windowContains_63 : decode cX1_windowContains 63 = .ok (.goto 4, 3) := by decide +kernel
theorem dX1_windowContains_66 : decode cX1_windowContains 66 = .ok (.iconst 0, 1) := by decide +kernel
theorem dX1_windowContains_67 : decode cX1_windowContains 67 = .ok (.ireturn, 1) := by decide +kernel
abbrev rmX1_windowContains : Room := { frames := 1, cells := 0, slots := 0, locals := 21 }
theorem hdX1_windowContains : yX1_windowContains.cls ≠ "java/lang/invoke/MethodHandle" ∧ yX1_windowContains.cls ≠ "java/lang/invoke/VarHandle" ∧ (parseMethodDescriptor yX1_windowContains.desc).map (fun d => d.parameters.length) = some 3 := by decide +kernel
def fX1_windowContains (σ : Sg) (b : Nat) (p1 : Int32) (p2 : Int32) (p3 : Int32) : Option Bool :=
  (fX8_at σ (b + 1) 5 p1).bind fun r1 =>
  (fX8_at σ (b + 2) 5 p1).bind fun r2 =>
  if p2 < r1 then
    some false
  else
    (fX8_at σ (b + 3) 5 p1).bind fun r3 =>
    if (r1 + r3) ≤ p2 then
      some false
    else
      if p3 < r2 then
        some false
      else
        (fX8_at σ (b + 4) 5 p1).bind fun r4 =>
        if (r2 + r4) ≤ p3 then
          some false
        else
          some true
theorem kX1_windowContains (X : Xc) (σ : Sg) (b : Nat) (p1 : Int32) (p2 : Int32) (p3 : Int32) (hb : plOK b) : ∀ r, fX1_windowContains σ b p1 p2 p3 = some r → Met X.l yX1_windowContains (wsM yX1_windowContains cX1_windowContains 6 (some .boolean)) rmX1_windowContains (va_Pc [.ref (X.ad b), .int p1, .int p2, .int p3] (PW X σ)) (Qi X (b2i r) σ) 0 0 X.A := by
  refine mt_of (own := RX1) (lo := [some (.ref (X.ad b)), some (.int (p1)), some (.int (p2)), some (.int (p3)), none, none]) (by decide) rfl (Nat.le_of_ble_eq_true rfl) rfl (fun K C hr => ?_)
  unfold fX1_windowContains
  refine g_aload_n (pc := 0) (i := 0) C dX1_windowContains_0 rfl rfl ?_
  refine g_getr (pc := 1) (ci := 1) (N := 14) (T := TX1) (j := 0) (Cn := RX1) (b + 1) C rfl inlX1 (Nat.le_of_ble_eq_true rfl) q_3_10 (blk hb 0 rfl) rfl dX1_windowContains_1 ?_
  refine g_iload_n (pc := 4) (i := 1) C dX1_windowContains_4 rfl rfl ?_
  refine g_callNi (pc := 5) (As := [.ref (X.ad (b + 1)), .int (p1)]) C (kX8_at X σ (b + 1) 5 p1 (blk hb 1 rfl)) (List.mem_of_getElem? (i := 4) rfl) q_11_22 q_1_2 q_11_23 hdX8_at ⟨Nat.le_of_ble_eq_true rfl, Nat.le_of_ble_eq_true rfl, rfl, rfl⟩ ⟨Nat.zero_le _, Nat.zero_le _⟩ (Nat.le_of_ble_eq_true rfl) rfl rfl dX1_windowContains_5 (fun r1 _ => ?_)
  refine g_istore (pc := 8) C dX1_windowContains_8 (Nat.le_of_ble_eq_true rfl) rfl ?_
  refine g_aload_n (pc := 10) (i := 0) C dX1_windowContains_10 rfl rfl ?_
  refine g_getr (pc := 11) (ci := 1) (N := 14) (T := TX1) (j := 1) (Cn := RX1) (b + 2) C rfl inlX1 (Nat.le_of_ble_eq_true rfl) q_3_11 (blk hb 0 rfl) rfl dX1_windowContains_11 ?_
  refine g_iload_n (pc := 14) (i := 1) C dX1_windowContains_14 rfl rfl ?_
  refine g_callNi (pc := 15) (As := [.ref (X.ad (b + 2)), .int (p1)]) C (kX8_at X σ (b + 2) 5 p1 (blk hb 2 rfl)) (List.mem_of_getElem? (i := 4) rfl) q_11_22 q_1_2 q_11_23 hdX8_at ⟨Nat.le_of_ble_eq_true rfl, Nat.le_of_ble_eq_true rfl, rfl, rfl⟩ ⟨Nat.zero_le _, Nat.zero_le _⟩ (Nat.le_of_ble_eq_true rfl) rfl rfl dX1_windowContains_15 (fun r2 _ => ?_)
  refine g_istore (pc := 18) C dX1_windowContains_18 (Nat.le_of_ble_eq_true rfl) rfl ?_
  refine g_iload_n (pc := 20) (i := 2) C dX1_windowContains_20 rfl rfl ?_
  refine g_iload (pc := 21) C dX1_windowContains_21 rfl ?_
  refine g_icmp_lt (pc := 23) (tgt := 66) C dX1_windowContains_23 rfl ?_ ?_
  · refine g_iconst (pc := 66) (v := 0) C dX1_windowContains_66 (by decide) ?_
    exact g_zret (pc := 67) C hr dX1_windowContains_67 rfl
  · refine g_iload_n (pc := 26) (i := 2) C dX1_windowContains_26 rfl rfl ?_
    refine g_iload (pc := 27) C dX1_windowContains_27 rfl ?_
    refine g_aload_n (pc := 29) (i := 0) C dX1_windowContains_29 rfl rfl ?_
    refine g_getr (pc := 30) (ci := 1) (N := 14) (T := TX1) (j := 2) (Cn := RX1) (b + 3) C rfl inlX1 (Nat.le_of_ble_eq_true rfl) q_3_12 (blk hb 0 rfl) rfl dX1_windowContains_30 ?_
    refine g_iload_n (pc := 33) (i := 1) C dX1_windowContains_33 rfl rfl ?_
    refine g_callNi (pc := 34) (As := [.ref (X.ad (b + 3)), .int (p1)]) C (kX8_at X σ (b + 3) 5 p1 (blk hb 3 rfl)) (List.mem_of_getElem? (i := 4) rfl) q_11_22 q_1_2 q_11_23 hdX8_at ⟨Nat.le_of_ble_eq_true rfl, Nat.le_of_ble_eq_true rfl, rfl, rfl⟩ ⟨Nat.zero_le _, Nat.zero_le _⟩ (Nat.le_of_ble_eq_true rfl) rfl rfl dX1_windowContains_34 (fun r3 _ => ?_)
    refine g_iadd (pc := 37) C dX1_windowContains_37 ?_
    refine g_icmp_ge (pc := 38) (tgt := 66) C dX1_windowContains_38 rfl ?_ ?_
    · refine g_iconst (pc := 66) (v := 0) C dX1_windowContains_66 (by decide) ?_
      exact g_zret (pc := 67) C hr dX1_windowContains_67 rfl
    · refine g_iload_n (pc := 41) (i := 3) C dX1_windowContains_41 rfl rfl ?_
      refine g_iload (pc := 42) C dX1_windowContains_42 rfl ?_
      refine g_icmp_lt (pc := 44) (tgt := 66) C dX1_windowContains_44 rfl ?_ ?_
      · refine g_iconst (pc := 66) (v := 0) C dX1_windowContains_66 (by decide) ?_
        exact g_zret (pc := 67) C hr dX1_windowContains_67 rfl
      · refine g_iload_n (pc := 47) (i := 3) C dX1_windowContains_47 rfl rfl ?_
        refine g_iload (pc := 48) C dX1_windowContains_48 rfl ?_
        refine g_aload_n (pc := 50) (i := 0) C dX1_windowContains_50 rfl rfl ?_
        refine g_getr (pc := 51) (ci := 1) (N := 14) (T := TX1) (j := 3) (Cn := RX1) (b + 4) C rfl inlX1 (Nat.le_of_ble_eq_true rfl) q_3_13 (blk hb 0 rfl) rfl dX1_windowContains_51 ?_
        refine g_iload_n (pc := 54) (i := 1) C dX1_windowContains_54 rfl rfl ?_
        refine g_callNi (pc := 55) (As := [.ref (X.ad (b + 4)), .int (p1)]) C (kX8_at X σ (b + 4) 5 p1 (blk hb 4 rfl)) (List.mem_of_getElem? (i := 4) rfl) q_11_22 q_1_2 q_11_23 hdX8_at ⟨Nat.le_of_ble_eq_true rfl, Nat.le_of_ble_eq_true rfl, rfl, rfl⟩ ⟨Nat.zero_le _, Nat.zero_le _⟩ (Nat.le_of_ble_eq_true rfl) rfl rfl dX1_windowContains_55 (fun r4 _ => ?_)
        refine g_iadd (pc := 58) C dX1_windowContains_58 ?_
        refine g_icmp_ge (pc := 59) (tgt := 66) C dX1_windowContains_59 rfl ?_ ?_
        · refine g_iconst (pc := 66) (v := 0) C dX1_windowContains_66 (by decide) ?_
          exact g_zret (pc := 67) C hr dX1_windowContains_67 rfl
        · refine g_iconst (pc := 62) (v := 1) C dX1_windowContains_62 (by decide) ?_
          refine g_goto (pc := 63) (tgt := 67) C dX1_windowContains_63 rfl ?_
          exact g_zret (pc := 67) C hr dX1_windowContains_67 rfl
theorem dX1_shownCount_0 : decode cX1_shownCount 0 = .ok (.iconst 0, 1) := by decide +kernel
theorem dX1_shownCount_1 : decode cX1_shownCount 1 = .ok (.istore_n 2, 1) := by decide +kernel
theorem dX1_shownCount_2 : decode cX1_shownCount 2 = .ok (.iconst 0, 1) := by decide +kernel
theorem dX1_shownCount_3 : decode cX1_shownCount 3 = .ok (.istore_n 3, 1) := by decide +kernel
theorem dX1_shownCount_4 : decode cX1_shownCount 4 = .ok (.iload_n 3, 1) := by decide +kernel
theorem dX1_shownCount_5 : decode cX1_shownCount 5 = .ok (.bipush 12, 2) := by decide +kernel
theorem dX1_shownCount_7 : decode cX1_shownCount 7 = .ok (.if_icmp .ge 37, 3) := by decide +kernel
theorem dX1_shownCount_10 : decode cX1_shownCount 10 = .ok (.iload_n 2, 1) := by decide +kernel
theorem dX1_shownCount_11 : decode cX1_shownCount 11 = .ok (.aload_n 0, 1) := by decide +kernel
theorem dX1_shownCount_12 : decode cX1_shownCount 12 = .ok (.getfield 49, 3) := by decide +kernel
theorem dX1_shownCount_15 : decode cX1_shownCount 15 = .ok (.iload_n 3, 1) := by decide +kernel
theorem dX1_shownCount_16 : decode cX1_shownCount 16 = .ok (.invokestatic 72, 3) := by decide +kernel
theorem dX1_shownCount_19 : decode cX1_shownCount 19 = .ok (.iload_n 1, 1) := by decide +kernel
theorem dX1_shownCount_20 : decode cX1_shownCount 20 = .ok (.if_icmp .ne 15, 3) := by decide +kernel
theorem dX1_shownCount_23 : decode cX1_shownCount 23 = .ok (.aload_n 0, 1) := by decide +kernel
theorem dX1_shownCount_24 : decode cX1_shownCount 24 = .ok (.iload_n 3, 1) := by decide +kernel
theorem dX1_shownCount_25 : decode cX1_shownCount 25 = .ok (.invokevirtual 136, 3) := by decide +kernel
theorem dX1_shownCount_28 : decode cX1_shownCount 28 = .ok (.ifCond .ne 7, 3) := by decide +kernel
theorem dX1_shownCount_31 : decode cX1_shownCount 31 = .ok (.iconst 1, 1) := by decide +kernel
theorem dX1_shownCount_32 : decode cX1_shownCount 32 = .ok (.goto 4, 3) := by decide +kernel
theorem dX1_shownCount_35 : decode cX1_shownCount 35 = .ok (.iconst 0, 1) := by decide +kernel
theorem dX1_shownCount_36 : decode cX1_shownCount 36 = .ok (.iadd, 1) := by decide +kernel
theorem dX1_shownCount_37 : decode cX1_shownCount 37 = .ok (.istore_n 2, 1) := by decide +kernel
theorem dX1_shownCount_38 : decode cX1_shownCount 38 = .ok (.iinc 3 1, 3) := by decide +kernel
theorem dX1_shownCount_41 : decode cX1_shownCount 41 = .ok (.goto (-37), 3) := by decide +kernel
theorem dX1_shownCount_44 : decode cX1_shownCount 44 = .ok (.iload_n 2, 1) := by decide +kernel
theorem dX1_shownCount_45 : decode cX1_shownCount 45 = .ok (.ireturn, 1) := by decide +kernel
abbrev rmX1_shownCount : Room := { frames := 2, cells := 0, slots := 0, locals := 42 }
theorem hdX1_shownCount : yX1_shownCount.cls ≠ "java/lang/invoke/MethodHandle" ∧ yX1_shownCount.cls ≠ "java/lang/invoke/VarHandle" ∧ (parseMethodDescriptor yX1_shownCount.desc).map (fun d => d.parameters.length) = some 1 := by decide +kernel
def fX1_shownCount_36 (σ : Sg) (b : Nat) (k4 : Int32 → Int32 → Int32 → Option Int32) (l1 : Int32) (l3 : Int32) (s0 : Int32) (s1 : Int32) : Option Int32 :=
  nm (s0 + s1) fun v3 =>
  (k4 l1 v3 (l3 + 1))
theorem bX1_shownCount_36 {X : Xc} {K : Kc} (C : MC X K cX1_shownCount 4 RX1 rmX1_shownCount) (hr : K.meth.sig.returnType = (some .int)) (σ : Sg) (b : Nat) (hb : plOK b){k4 : Int32 → Int32 → Int32 → Option Int32} (hk4 : ∀ (l1 : Int32) (l2 : Int32) (l3 : Int32), GO X K 4 (fun r => MQi X K r σ) (k4 l1 l2 l3) σ 0 0 4 [some (.ref (X.ad b)), some (.int (l1)), some (.int (l2)), some (.int (l3))] []) (l1 : Int32) (l3 : Int32) (s0 : Int32) (s1 : Int32) : GO X K 4 (fun r => MQi X K r σ) (fX1_shownCount_36 σ b k4 l1 l3 s0 s1) σ 0 0 36 [some (.ref (X.ad b)), some (.int (l1)), none, some (.int (l3))] [.int (s1), .int (s0)] := by
  unfold fX1_shownCount_36
  refine g_iadd (pc := 36) C dX1_shownCount_36 ?_
  refine g_nm (fun v3 => ?_)
  refine g_istore_n (pc := 37) (i := 2) C dX1_shownCount_37 rfl (Nat.le_of_ble_eq_true rfl) rfl ?_
  refine g_iinc (pc := 38) (v := l3 + 1) C dX1_shownCount_38 rfl (rfl) (Nat.le_of_ble_eq_true rfl) rfl ?_
  refine g_goto (pc := 41) (tgt := 4) C dX1_shownCount_41 rfl ?_
  refine g_keep [true, true, true, true] ?_
  exact hk4 l1 v3 (l3 + 1)
def fX1_shownCount_35 (σ : Sg) (b : Nat) (k4 : Int32 → Int32 → Int32 → Option Int32) (l1 : Int32) (l3 : Int32) (s0 : Int32) : Option Int32 :=
  (fX1_shownCount_36 σ b k4 l1 l3 s0 0)
theorem bX1_shownCount_35 {X : Xc} {K : Kc} (C : MC X K cX1_shownCount 4 RX1 rmX1_shownCount) (hr : K.meth.sig.returnType = (some .int)) (σ : Sg) (b : Nat) (hb : plOK b){k4 : Int32 → Int32 → Int32 → Option Int32} (hk4 : ∀ (l1 : Int32) (l2 : Int32) (l3 : Int32), GO X K 4 (fun r => MQi X K r σ) (k4 l1 l2 l3) σ 0 0 4 [some (.ref (X.ad b)), some (.int (l1)), some (.int (l2)), some (.int (l3))] []) (l1 : Int32) (l3 : Int32) (s0 : Int32) : GO X K 4 (fun r => MQi X K r σ) (fX1_shownCount_35 σ b k4 l1 l3 s0) σ 0 0 35 [some (.ref (X.ad b)), some (.int (l1)), none, some (.int (l3))] [.int (s0)] := by
  unfold fX1_shownCount_35
  refine g_iconst (pc := 35) (v := 0) C dX1_shownCount_35 (by decide) ?_
  refine g_keep [true, true, false, true] ?_
  exact bX1_shownCount_36 C hr σ b hb hk4 l1 l3 s0 0
def fX1_shownCount_4 (σ : Sg) (b : Nat) : Nat → Int32 → Int32 → Int32 → Option Int32
  | 0, _, _, _ => none
  | n + 1, l1, l2, l3 =>
    if 12 ≤ l3 then
      some l2
    else
      (fX8_at σ (b + 13) 12 l3).bind fun r1 =>
      if r1 = l1 then
        (fX1_isHidden σ b l3).bind fun r2 =>
        if r2 = true then
          (fX1_shownCount_35 σ b (fX1_shownCount_4 σ b n) l1 l3 l2)
        else
          (fX1_shownCount_36 σ b (fX1_shownCount_4 σ b n) l1 l3 l2 1)
      else
        (fX1_shownCount_35 σ b (fX1_shownCount_4 σ b n) l1 l3 l2)
theorem bX1_shownCount_4 {X : Xc} {K : Kc} (C : MC X K cX1_shownCount 4 RX1 rmX1_shownCount) (hr : K.meth.sig.returnType = (some .int)) (σ : Sg) (b : Nat) (hb : plOK b) : ∀ (n : Nat) (l1 : Int32) (l2 : Int32) (l3 : Int32), GO X K 4 (fun r => MQi X K r σ) (fX1_shownCount_4 σ b n l1 l2 l3) σ 0 0 4 [some (.ref (X.ad b)), some (.int (l1)), some (.int (l2)), some (.int (l3))] [] := by
  intro n
  induction n with
  | zero =>
    intro l1 l2 l3
    exact g_none
  | succ n ih =>
    intro l1 l2 l3
    unfold fX1_shownCount_4
    refine g_iload_n (pc := 4) (i := 3) C dX1_shownCount_4 rfl rfl ?_
    refine g_bipush (pc := 5) (v := 12) C dX1_shownCount_5 (by decide) ?_
    refine g_icmp_ge (pc := 7) (tgt := 44) C dX1_shownCount_7 rfl ?_ ?_
    · refine g_iload_n (pc := 44) (i := 2) C dX1_shownCount_44 rfl rfl ?_
      exact g_iret (pc := 45) C hr dX1_shownCount_45 rfl
    · refine g_iload_n (pc := 10) (i := 2) C dX1_shownCount_10 rfl rfl ?_
      refine g_aload_n (pc := 11) (i := 0) C dX1_shownCount_11 rfl rfl ?_
      refine g_getr (pc := 12) (ci := 1) (N := 14) (T := TX1) (j := 11) (Cn := RX1) (b + 13) C rfl inlX1 (Nat.le_of_ble_eq_true rfl) q_3_22 (blk hb 0 rfl) rfl dX1_shownCount_12 ?_
      refine g_iload_n (pc := 15) (i := 3) C dX1_shownCount_15 rfl rfl ?_
      refine g_callNi (pc := 16) (As := [.ref (X.ad (b + 13)), .int (l3)]) C (kX8_at X σ (b + 13) 12 l3 (blk hb 13 rfl)) (List.mem_of_getElem? (i := 4) rfl) q_11_22 q_1_2 q_11_23 hdX8_at ⟨Nat.le_of_ble_eq_true rfl, Nat.le_of_ble_eq_true rfl, rfl, rfl⟩ ⟨Nat.zero_le _, Nat.zero_le _⟩ (Nat.le_of_ble_eq_true rfl) rfl rfl dX1_shownCount_16 (fun r1 _ => ?_)
      refine g_iload_n (pc := 19) (i := 1) C dX1_shownCount_19 rfl rfl ?_
      refine g_icmp_ne (pc := 20) (tgt := 35) C dX1_shownCount_20 rfl ?_ ?_
      · refine g_aload_n (pc := 23) (i := 0) C dX1_shownCount_23 rfl rfl ?_
        refine g_iload_n (pc := 24) (i := 3) C dX1_shownCount_24 rfl rfl ?_
        refine g_callVi (pc := 25) (As := [.int (l3)]) C (kX1_isHidden X σ b l3 hb) (blk hb 0 rfl) rfl q_12_16 q_12_17 q_12_18 q_2_23 q_12_19 ⟨rfl, hdX1_isHidden⟩ ⟨Nat.le_of_ble_eq_true rfl, Nat.le_of_ble_eq_true rfl, rfl, rfl⟩ ⟨Nat.zero_le _, Nat.zero_le _⟩ (Nat.le_of_ble_eq_true rfl) rfl rfl dX1_shownCount_25 (fun r2 _ => ?_)
        refine g_ifb_ne (pc := 28) (tgt := 35) C dX1_shownCount_28 rfl ?_ ?_
        · refine g_keep [true, true, false, true] ?_
          exact bX1_shownCount_35 C hr σ b hb ih l1 l3 l2
        · refine g_iconst (pc := 31) (v := 1) C dX1_shownCount_31 (by decide) ?_
          refine g_goto (pc := 32) (tgt := 36) C dX1_shownCount_32 rfl ?_
          refine g_keep [true, true, false, true] ?_
          exact bX1_shownCount_36 C hr σ b hb ih l1 l3 l2 1
      · refine g_keep [true, true, false, true] ?_
        exact bX1_shownCount_35 C hr σ b hb ih l1 l3 l2
def fX1_shownCount (σ : Sg) (b : Nat) (p1 : Int32) : Option Int32 :=
  (fX1_shownCount_4 σ b FU p1 0 0)
theorem kX1_shownCount (X : Xc) (σ : Sg) (b : Nat) (p1 : Int32) (hb : plOK b) : ∀ r, fX1_shownCount σ b p1 = some r → Met X.l yX1_shownCount (wsM yX1_shownCount cX1_shownCount 4 (some .int)) rmX1_shownCount (va_Pc [.ref (X.ad b), .int p1] (PW X σ)) (Qi X r σ) 0 0 X.A := by
  refine mt_of (own := RX1) (lo := [some (.ref (X.ad b)), some (.int (p1)), none, none]) (by decide) rfl (Nat.le_of_ble_eq_true rfl) rfl (fun K C hr => ?_)
  unfold fX1_shownCount
  refine g_iconst (pc := 0) (v := 0) C dX1_shownCount_0 (by decide) ?_
  refine g_istore_n (pc := 1) (i := 2) C dX1_shownCount_1 rfl (Nat.le_of_ble_eq_true rfl) rfl ?_
  refine g_iconst (pc := 2) (v := 0) C dX1_shownCount_2 (by decide) ?_
  refine g_istore_n (pc := 3) (i := 3) C dX1_shownCount_3 rfl (Nat.le_of_ble_eq_true rfl) rfl ?_
  refine g_keep [true, true, true, true] ?_
  exact bX1_shownCount_4 C hr σ b hb FU p1 0 0
theorem dX1_shownTabAt_0 : decode cX1_shownTabAt 0 = .ok (.iconst 0, 1) := by decide +kernel
theorem dX1_shownTabAt_1 : decode cX1_shownTabAt 1 = .ok (.istore_n 3, 1) := by decide +kernel
theorem dX1_shownTabAt_2 : decode cX1_shownTabAt 2 = .ok (.iconst 0, 1) := by decide +kernel
theorem dX1_shownTabAt_3 : decode cX1_shownTabAt 3 = .ok (.istore 4, 2) := by decide +kernel
theorem dX1_shownTabAt_5 : decode cX1_shownTabAt 5 = .ok (.iload 4, 2) := by decide +kernel
theorem dX1_shownTabAt_7 : decode cX1_shownTabAt 7 = .ok (.bipush 12, 2) := by decide +kernel
theorem dX1_shownTabAt_9 : decode cX1_shownTabAt 9 = .ok (.if_icmp .ge 44, 3) := by decide +kernel
theorem dX1_shownTabAt_12 : decode cX1_shownTabAt 12 = .ok (.aload_n 0, 1) := by decide +kernel
theorem dX1_shownTabAt_13 : decode cX1_shownTabAt 13 = .ok (.iload_n 1, 1) := by decide +kernel
theorem dX1_shownTabAt_14 : decode cX1_shownTabAt 14 = .ok (.iload 4, 2) := by decide +kernel
theorem dX1_shownTabAt_16 : decode cX1_shownTabAt 16 = .ok (.invokevirtual 140, 3) := by decide +kernel
theorem dX1_shownTabAt_19 : decode cX1_shownTabAt 19 = .ok (.istore 5, 2) := by decide +kernel
theorem dX1_shownTabAt_21 : decode cX1_shownTabAt 21 = .ok (.iload 5, 2) := by decide +kernel
theorem dX1_shownTabAt_23 : decode cX1_shownTabAt 23 = .ok (.iconst (-1), 1) := by decide +kernel
theorem dX1_shownTabAt_24 : decode cX1_shownTabAt 24 = .ok (.if_icmp .eq 23, 3) := by decide +kernel
theorem dX1_shownTabAt_27 : decode cX1_shownTabAt 27 = .ok (.aload_n 0, 1) := by decide +kernel
theorem dX1_shownTabAt_28 : decode cX1_shownTabAt 28 = .ok (.iload 5, 2) := by decide +kernel
theorem dX1_shownTabAt_30 : decode cX1_shownTabAt 30 = .ok (.invokevirtual 136, 3) := by decide +kernel
theorem dX1_shownTabAt_33 : decode cX1_shownTabAt 33 = .ok (.ifCond .ne 14, 3) := by decide +kernel
theorem dX1_shownTabAt_36 : decode cX1_shownTabAt 36 = .ok (.iload_n 3, 1) := by decide +kernel
theorem dX1_shownTabAt_37 : decode cX1_shownTabAt 37 = .ok (.iload_n 2, 1) := by decide +kernel
theorem dX1_shownTabAt_38 : decode cX1_shownTabAt 38 = .ok (.if_icmp .ne 6, 3) := by decide +kernel
theorem dX1_shownTabAt_41 : decode cX1_shownTabAt 41 = .ok (.iload 5, 2) := by decide +kernel
theorem dX1_shownTabAt_43 : decode cX1_shownTabAt 43 = .ok (.ireturn, 1) := by decide +kernel
theorem dX1_shownTabAt_44 : decode cX1_shownTabAt 44 = .ok (.iinc 3 1, 3) := by decide +kernel
theorem dX1_shownTabAt_47 : decode cX1_shownTabAt 47 = .ok (.iinc 4 1, 3) := by decide +kernel
theorem dX1_shownTabAt_50 : decode cX1_shownTabAt 50 = .ok (.goto (-45), 3) := by decide +kernel
theorem dX1_shownTabAt_53 : decode cX1_shownTabAt 53 = .ok (.iconst (-1), 1) := by decide +kernel
theorem dX1_shownTabAt_54 : decode cX1_shownTabAt 54 = .ok (.ireturn, 1) := by decide +kernel
abbrev rmX1_shownTabAt : Room := { frames := 2, cells := 0, slots := 0, locals := 44 }
theorem hdX1_shownTabAt : yX1_shownTabAt.cls ≠ "java/lang/invoke/MethodHandle" ∧ yX1_shownTabAt.cls ≠ "java/lang/invoke/VarHandle" ∧ (parseMethodDescriptor yX1_shownTabAt.desc).map (fun d => d.parameters.length) = some 2 := by decide +kernel
def fX1_shownTabAt_47 (σ : Sg) (b : Nat) (k5 : Int32 → Int32 → Int32 → Int32 → Option Int32) (l1 : Int32) (l2 : Int32) (l3 : Int32) (l4 : Int32) : Option Int32 :=
  (k5 l1 l2 l3 (l4 + 1))
theorem bX1_shownTabAt_47 {X : Xc} {K : Kc} (C : MC X K cX1_shownTabAt 6 RX1 rmX1_shownTabAt) (hr : K.meth.sig.returnType = (some .int)) (σ : Sg) (b : Nat) (hb : plOK b){k5 : Int32 → Int32 → Int32 → Int32 → Option Int32} (hk5 : ∀ (l1 : Int32) (l2 : Int32) (l3 : Int32) (l4 : Int32), GO X K 6 (fun r => MQi X K r σ) (k5 l1 l2 l3 l4) σ 0 0 5 [some (.ref (X.ad b)), some (.int (l1)), some (.int (l2)), some (.int (l3)), some (.int (l4)), none] []) (l1 : Int32) (l2 : Int32) (l3 : Int32) (l4 : Int32) : GO X K 6 (fun r => MQi X K r σ) (fX1_shownTabAt_47 σ b k5 l1 l2 l3 l4) σ 0 0 47 [some (.ref (X.ad b)), some (.int (l1)), some (.int (l2)), some (.int (l3)), some (.int (l4)), none] [] := by
  unfold fX1_shownTabAt_47
  refine g_iinc (pc := 47) (v := l4 + 1) C dX1_shownTabAt_47 rfl (rfl) (Nat.le_of_ble_eq_true rfl) rfl ?_
  refine g_goto (pc := 50) (tgt := 5) C dX1_shownTabAt_50 rfl ?_
  refine g_keep [true, true, true, true, true, false] ?_
  exact hk5 l1 l2 l3 (l4 + 1)
def fX1_shownTabAt_5 (σ : Sg) (b : Nat) : Nat → Int32 → Int32 → Int32 → Int32 → Option Int32
  | 0, _, _, _, _ => none
  | n + 1, l1, l2, l3, l4 =>
    if 12 ≤ l4 then
      some (-1)
    else
      (fX1_tabAt σ b l1 l4).bind fun r1 =>
      if r1 = (-1) then
        (fX1_shownTabAt_47 σ b (fX1_shownTabAt_5 σ b n) l1 l2 l3 l4)
      else
        (fX1_isHidden σ b r1).bind fun r2 =>
        if r2 = true then
          (fX1_shownTabAt_47 σ b (fX1_shownTabAt_5 σ b n) l1 l2 l3 l4)
        else
          if l3 = l2 then
            some r1
          else
            (fX1_shownTabAt_47 σ b (fX1_shownTabAt_5 σ b n) l1 l2 (l3 + 1) l4)
theorem bX1_shownTabAt_5 {X : Xc} {K : Kc} (C : MC X K cX1_shownTabAt 6 RX1 rmX1_shownTabAt) (hr : K.meth.sig.returnType = (some .int)) (σ : Sg) (b : Nat) (hb : plOK b) : ∀ (n : Nat) (l1 : Int32) (l2 : Int32) (l3 : Int32) (l4 : Int32), GO X K 6 (fun r => MQi X K r σ) (fX1_shownTabAt_5 σ b n l1 l2 l3 l4) σ 0 0 5 [some (.ref (X.ad b)), some (.int (l1)), some (.int (l2)), some (.int (l3)), some (.int (l4)), none] [] := by
  intro n
  induction n with
  | zero =>
    intro l1 l2 l3 l4
    exact g_none
  | succ n ih =>
    intro l1 l2 l3 l4
    unfold fX1_shownTabAt_5
    refine g_iload (pc := 5) C dX1_shownTabAt_5 rfl ?_
    refine g_bipush (pc := 7) (v := 12) C dX1_shownTabAt_7 (by decide) ?_
    refine g_icmp_ge (pc := 9) (tgt := 53) C dX1_shownTabAt_9 rfl ?_ ?_
    · refine g_iconst (pc := 53) (v := (-1)) C dX1_shownTabAt_53 (by decide) ?_
      exact g_iret (pc := 54) C hr dX1_shownTabAt_54 rfl
    · refine g_aload_n (pc := 12) (i := 0) C dX1_shownTabAt_12 rfl rfl ?_
      refine g_iload_n (pc := 13) (i := 1) C dX1_shownTabAt_13 rfl rfl ?_
      refine g_iload (pc := 14) C dX1_shownTabAt_14 rfl ?_
      refine g_callVi (pc := 16) (As := [.int (l1), .int (l4)]) C (kX1_tabAt X σ b l1 l4 hb) (blk hb 0 rfl) rfl q_12_12 q_12_13 q_12_14 q_2_23 q_12_15 ⟨rfl, hdX1_tabAt⟩ ⟨Nat.le_of_ble_eq_true rfl, Nat.le_of_ble_eq_true rfl, rfl, rfl⟩ ⟨Nat.zero_le _, Nat.zero_le _⟩ (Nat.le_of_ble_eq_true rfl) rfl rfl dX1_shownTabAt_16 (fun r1 _ => ?_)
      refine g_istore (pc := 19) C dX1_shownTabAt_19 (Nat.le_of_ble_eq_true rfl) rfl ?_
      refine g_iload (pc := 21) C dX1_shownTabAt_21 rfl ?_
      refine g_iconst (pc := 23) (v := (-1)) C dX1_shownTabAt_23 (by decide) ?_
      refine g_icmp_eq (pc := 24) (tgt := 47) C dX1_shownTabAt_24 rfl ?_ ?_
      · refine g_keep [true, true, true, true, true, false] ?_
        exact bX1_shownTabAt_47 C hr σ b hb ih l1 l2 l3 l4
      · refine g_aload_n (pc := 27) (i := 0) C dX1_shownTabAt_27 rfl rfl ?_
        refine g_iload (pc := 28) C dX1_shownTabAt_28 rfl ?_
        refine g_callVi (pc := 30) (As := [.int (r1)]) C (kX1_isHidden X σ b r1 hb) (blk hb 0 rfl) rfl q_12_16 q_12_17 q_12_18 q_2_23 q_12_19 ⟨rfl, hdX1_isHidden⟩ ⟨Nat.le_of_ble_eq_true rfl, Nat.le_of_ble_eq_true rfl, rfl, rfl⟩ ⟨Nat.zero_le _, Nat.zero_le _⟩ (Nat.le_of_ble_eq_true rfl) rfl rfl dX1_shownTabAt_30 (fun r2 _ => ?_)
        refine g_ifb_ne (pc := 33) (tgt := 47) C dX1_shownTabAt_33 rfl ?_ ?_
        · refine g_keep [true, true, true, true, true, false] ?_
          exact bX1_shownTabAt_47 C hr σ b hb ih l1 l2 l3 l4
        · refine g_iload_n (pc := 36) (i := 3) C dX1_shownTabAt_36 rfl rfl ?_
          refine g_iload_n (pc := 37) (i := 2) C dX1_shownTabAt_37 rfl rfl ?_
          refine g_icmp_ne (pc := 38) (tgt := 44) C dX1_shownTabAt_38 rfl ?_ ?_
          · refine g_iload (pc := 41) C dX1_shownTabAt_41 rfl ?_
            exact g_iret (pc := 43) C hr dX1_shownTabAt_43 rfl
          · refine g_iinc (pc := 44) (v := l3 + 1) C dX1_shownTabAt_44 rfl (rfl) (Nat.le_of_ble_eq_true rfl) rfl ?_
            refine g_keep [true, true, true, true, true, false] ?_
            exact bX1_shownTabAt_47 C hr σ b hb ih l1 l2 (l3 + 1) l4
def fX1_shownTabAt (σ : Sg) (b : Nat) (p1 : Int32) (p2 : Int32) : Option Int32 :=
  (fX1_shownTabAt_5 σ b FU p1 p2 0 0)
theorem kX1_shownTabAt (X : Xc) (σ : Sg) (b : Nat) (p1 : Int32) (p2 : Int32) (hb : plOK b) : ∀ r, fX1_shownTabAt σ b p1 p2 = some r → Met X.l yX1_shownTabAt (wsM yX1_shownTabAt cX1_shownTabAt 6 (some .int)) rmX1_shownTabAt (va_Pc [.ref (X.ad b), .int p1, .int p2] (PW X σ)) (Qi X r σ) 0 0 X.A := by
  refine mt_of (own := RX1) (lo := [some (.ref (X.ad b)), some (.int (p1)), some (.int (p2)), none, none, none]) (by decide) rfl (Nat.le_of_ble_eq_true rfl) rfl (fun K C hr => ?_)
  unfold fX1_shownTabAt
  refine g_iconst (pc := 0) (v := 0) C dX1_shownTabAt_0 (by decide) ?_
  refine g_istore_n (pc := 1) (i := 3) C dX1_shownTabAt_1 rfl (Nat.le_of_ble_eq_true rfl) rfl ?_
  refine g_iconst (pc := 2) (v := 0) C dX1_shownTabAt_2 (by decide) ?_
  refine g_istore (pc := 3) C dX1_shownTabAt_3 (Nat.le_of_ble_eq_true rfl) rfl ?_
  refine g_keep [true, true, true, true, true, false] ?_
  exact bX1_shownTabAt_5 C hr σ b hb FU p1 p2 0 0
theorem dX1_emptyWindow_0 : decode cX1_emptyWindow 0 = .ok (.iconst 0, 1) := by decide +kernel
theorem dX1_emptyWindow_1 : decode cX1_emptyWindow 1 = .ok (.istore_n 2, 1) := by decide +kernel
theorem dX1_emptyWindow_2 : decode cX1_emptyWindow 2 = .ok (.iload_n 2, 1) := by decide +kernel
theorem dX1_emptyWindow_3 : decode cX1_emptyWindow 3 = .ok (.bipush 12, 2) := by decide +kernel
theorem dX1_emptyWindow_5 : decode cX1_emptyWindow 5 = .ok (.if_icmp .ge 36, 3) := by decide +kernel
theorem dX1_emptyWindow_8 : decode cX1_emptyWindow 8 = .ok (.aload_n 0, 1) := by decide +kernel
theorem dX1_emptyWindow_9 : decode cX1_emptyWindow 9 = .ok (.iload_n 2, 1) := by decide +kernel
theorem dX1_emptyWindow_10 : decode cX1_emptyWindow 10 = .ok (.invokevirtual 84, 3) := by decide +kernel
theorem dX1_emptyWindow_13 : decode cX1_emptyWindow 13 = .ok (.iconst (-1), 1) := by decide +kernel
theorem dX1_emptyWindow_14 : decode cX1_emptyWindow 14 = .ok (.if_icmp .eq 21, 3) := by decide +kernel
theorem dX1_emptyWindow_17 : decode cX1_emptyWindow 17 = .ok (.aload_n 0, 1) := by decide +kernel
theorem dX1_emptyWindow_18 : decode cX1_emptyWindow 18 = .ok (.aload_n 0, 1) := by decide +kernel
theorem dX1_emptyWindow_19 : decode cX1_emptyWindow 19 = .ok (.iload_n 2, 1) := by decide +kernel
theorem dX1_emptyWindow_20 : decode cX1_emptyWindow 20 = .ok (.invokevirtual 84, 3) := by decide +kernel
theorem dX1_emptyWindow_23 : decode cX1_emptyWindow 23 = .ok (.invokevirtual 87, 3) := by decide +kernel
theorem dX1_emptyWindow_26 : decode cX1_emptyWindow 26 = .ok (.iload_n 1, 1) := by decide +kernel
theorem dX1_emptyWindow_27 : decode cX1_emptyWindow 27 = .ok (.if_icmp .ne 8, 3) := by decide +kernel
theorem dX1_emptyWindow_30 : decode cX1_emptyWindow 30 = .ok (.aload_n 0, 1) := by decide +kernel
theorem dX1_emptyWindow_31 : decode cX1_emptyWindow 31 = .ok (.iload_n 2, 1) := by decide +kernel
theorem dX1_emptyWindow_32 : decode cX1_emptyWindow 32 = .ok (.invokevirtual 90, 3) := by decide +kernel
theorem dX1_emptyWindow_35 : decode cX1_emptyWindow 35 = .ok (.iinc 2 1, 3) := by decide +kernel
theorem dX1_emptyWindow_38 : decode cX1_emptyWindow 38 = .ok (.goto (-36), 3) := by decide +kernel
theorem dX1_emptyWindow_41 : decode cX1_emptyWindow 41 = .ok (.return_, 1) := by decide +kernel
abbrev rmX1_emptyWindow : Room := { frames := 5, cells := 0, slots := 0, locals := 113 }
theorem hdX1_emptyWindow : yX1_emptyWindow.cls ≠ "java/lang/invoke/MethodHandle" ∧ yX1_emptyWindow.cls ≠ "java/lang/invoke/VarHandle" ∧ (parseMethodDescriptor yX1_emptyWindow.desc).map (fun d => d.parameters.length) = some 1 := by decide +kernel
def fX1_emptyWindow_35 (b : Nat) (k2 : Sg → Int32 → Int32 → Option Sg) (σ : Sg) (l1 : Int32) (l2 : Int32) : Option Sg :=
  (k2 σ l1 (l2 + 1))
theorem bX1_emptyWindow_35 {X : Xc} {K : Kc} (C : MC X K cX1_emptyWindow 3 RX1 rmX1_emptyWindow) (hr : K.meth.sig.returnType = none) (b : Nat) (hb : plOK b){k2 : Sg → Int32 → Int32 → Option Sg} (hk2 : ∀ (σ : Sg) (l1 : Int32) (l2 : Int32), GO X K 3 (fun r => MQv X K r) (k2 σ l1 l2) σ 0 0 2 [some (.ref (X.ad b)), some (.int (l1)), some (.int (l2))] []) (σ : Sg) (l1 : Int32) (l2 : Int32) : GO X K 3 (fun r => MQv X K r) (fX1_emptyWindow_35 b k2 σ l1 l2) σ 0 0 35 [some (.ref (X.ad b)), some (.int (l1)), some (.int (l2))] [] := by
  unfold fX1_emptyWindow_35
  refine g_iinc (pc := 35) (v := l2 + 1) C dX1_emptyWindow_35 rfl (rfl) (Nat.le_of_ble_eq_true rfl) rfl ?_
  refine g_goto (pc := 38) (tgt := 2) C dX1_emptyWindow_38 rfl ?_
  refine g_keep [true, true, true] ?_
  exact hk2 σ l1 (l2 + 1)
def fX1_emptyWindow_2 (b : Nat) : Nat → Sg → Int32 → Int32 → Option Sg
  | 0, _, _, _ => none
  | n + 1, σ, l1, l2 =>
    if 12 ≤ l2 then
      some σ
    else
      (fX1_groupOf σ b l2).bind fun r1 =>
      if r1 = (-1) then
        (fX1_emptyWindow_35 b (fX1_emptyWindow_2 b n) σ l1 l2)
      else
        (fX1_groupOf σ b l2).bind fun r2 =>
        (fX1_windowOf σ b r2).bind fun r3 =>
        if r3 = l1 then
          (fX1_withdraw σ b l2).bind fun σ4 =>
          (fX1_emptyWindow_35 b (fX1_emptyWindow_2 b n) σ4 l1 l2)
        else
          (fX1_emptyWindow_35 b (fX1_emptyWindow_2 b n) σ l1 l2)
theorem bX1_emptyWindow_2 {X : Xc} {K : Kc} (C : MC X K cX1_emptyWindow 3 RX1 rmX1_emptyWindow) (hr : K.meth.sig.returnType = none) (b : Nat) (hb : plOK b) : ∀ (n : Nat) (σ : Sg) (l1 : Int32) (l2 : Int32), GO X K 3 (fun r => MQv X K r) (fX1_emptyWindow_2 b n σ l1 l2) σ 0 0 2 [some (.ref (X.ad b)), some (.int (l1)), some (.int (l2))] [] := by
  intro n
  induction n with
  | zero =>
    intro σ l1 l2
    exact g_none
  | succ n ih =>
    intro σ l1 l2
    unfold fX1_emptyWindow_2
    refine g_iload_n (pc := 2) (i := 2) C dX1_emptyWindow_2 rfl rfl ?_
    refine g_bipush (pc := 3) (v := 12) C dX1_emptyWindow_3 (by decide) ?_
    refine g_icmp_ge (pc := 5) (tgt := 41) C dX1_emptyWindow_5 rfl ?_ ?_
    · exact g_vret (pc := 41) C hr dX1_emptyWindow_41 rfl
    · refine g_aload_n (pc := 8) (i := 0) C dX1_emptyWindow_8 rfl rfl ?_
      refine g_iload_n (pc := 9) (i := 2) C dX1_emptyWindow_9 rfl rfl ?_
      refine g_callVi (pc := 10) (As := [.int (l2)]) C (kX1_groupOf X σ b l2 hb) (blk hb 0 rfl) rfl q_11_18 q_11_19 q_11_20 q_2_23 q_11_21 ⟨rfl, hdX1_groupOf⟩ ⟨Nat.le_of_ble_eq_true rfl, Nat.le_of_ble_eq_true rfl, rfl, rfl⟩ ⟨Nat.zero_le _, Nat.zero_le _⟩ (Nat.le_of_ble_eq_true rfl) rfl rfl dX1_emptyWindow_10 (fun r1 _ => ?_)
      refine g_iconst (pc := 13) (v := (-1)) C dX1_emptyWindow_13 (by decide) ?_
      refine g_icmp_eq (pc := 14) (tgt := 35) C dX1_emptyWindow_14 rfl ?_ ?_
      · refine g_keep [true, true, true] ?_
        exact bX1_emptyWindow_35 C hr b hb ih σ l1 l2
      · refine g_aload_n (pc := 17) (i := 0) C dX1_emptyWindow_17 rfl rfl ?_
        refine g_aload_n (pc := 18) (i := 0) C dX1_emptyWindow_18 rfl rfl ?_
        refine g_iload_n (pc := 19) (i := 2) C dX1_emptyWindow_19 rfl rfl ?_
        refine g_callVi (pc := 20) (As := [.int (l2)]) C (kX1_groupOf X σ b l2 hb) (blk hb 0 rfl) rfl q_11_18 q_11_19 q_11_20 q_2_23 q_11_21 ⟨rfl, hdX1_groupOf⟩ ⟨Nat.le_of_ble_eq_true rfl, Nat.le_of_ble_eq_true rfl, rfl, rfl⟩ ⟨Nat.zero_le _, Nat.zero_le _⟩ (Nat.le_of_ble_eq_true rfl) rfl rfl dX1_emptyWindow_20 (fun r2 _ => ?_)
        refine g_callVi (pc := 23) (As := [.int (r2)]) C (kX1_windowOf X σ b r2 hb) (blk hb 0 rfl) rfl q_13_8 q_13_9 q_13_10 q_2_23 q_13_11 ⟨rfl, hdX1_windowOf⟩ ⟨Nat.le_of_ble_eq_true rfl, Nat.le_of_ble_eq_true rfl, rfl, rfl⟩ ⟨Nat.zero_le _, Nat.zero_le _⟩ (Nat.le_of_ble_eq_true rfl) rfl rfl dX1_emptyWindow_23 (fun r3 _ => ?_)
        refine g_iload_n (pc := 26) (i := 1) C dX1_emptyWindow_26 rfl rfl ?_
        refine g_icmp_ne (pc := 27) (tgt := 35) C dX1_emptyWindow_27 rfl ?_ ?_
        · refine g_aload_n (pc := 30) (i := 0) C dX1_emptyWindow_30 rfl rfl ?_
          refine g_iload_n (pc := 31) (i := 2) C dX1_emptyWindow_31 rfl rfl ?_
          refine g_callVv (pc := 32) (As := [.int (l2)]) C (kX1_withdraw X σ b l2 hb) (blk hb 0 rfl) rfl q_50_20 q_11_15 q_11_16 q_2_23 q_11_17 ⟨rfl, hdX1_withdraw⟩ ⟨Nat.le_of_ble_eq_true rfl, Nat.le_of_ble_eq_true rfl, rfl, rfl⟩ ⟨Nat.zero_le _, Nat.zero_le _⟩ (Nat.le_of_ble_eq_true rfl) rfl rfl dX1_emptyWindow_32 (fun σ4 _ => ?_)
          refine g_keep [true, true, true] ?_
          exact bX1_emptyWindow_35 C hr b hb ih σ4 l1 l2
        · refine g_keep [true, true, true] ?_
          exact bX1_emptyWindow_35 C hr b hb ih σ l1 l2
def fX1_emptyWindow (σ : Sg) (b : Nat) (p1 : Int32) : Option Sg :=
  (fX1_emptyWindow_2 b FU σ p1 0)
theorem kX1_emptyWindow (X : Xc) (σ : Sg) (b : Nat) (p1 : Int32) (hb : plOK b) : ∀ r, fX1_emptyWindow σ b p1 = some r → Met X.l yX1_emptyWindow (wsM yX1_emptyWindow cX1_emptyWindow 3 none) rmX1_emptyWindow (va_Pc [.ref (X.ad b), .int p1] (PW X σ)) (Qv X r) 0 0 X.A := by
  refine mt_of (own := RX1) (lo := [some (.ref (X.ad b)), some (.int (p1)), none]) (by decide) rfl (Nat.le_of_ble_eq_true rfl) rfl (fun K C hr => ?_)
  unfold fX1_emptyWindow
  refine g_iconst (pc := 0) (v := 0) C dX1_emptyWindow_0 (by decide) ?_
  refine g_istore_n (pc := 1) (i := 2) C dX1_emptyWindow_1 rfl (Nat.le_of_ble_eq_true rfl) rfl ?_
  refine g_keep [true, true, true] ?_
  exact bX1_emptyWindow_2 C hr b hb FU σ p1 0

/-! by program out of the class files: each method as a function over the store, and its contract by a walk -/
theorem dX8_requireRange_0 : decode cX8_requireRange 0 = .ok (.iload_n 0, 1) := by decide +kernel
theorem dX8_requireRange_1 : decode cX8_requireRange 1 = .ok (.iload_n 1, 1) := by decide +kernel
theorem dX8_requireRange_2 : decode cX8_requireRange 2 = .ok (.if_icmp .lt 8, 3) := by decide +kernel
theorem dX8_requireRange_5 : decode cX8_requireRange 5 = .ok (.iload_n 0, 1) := by decide +kernel
theorem dX8_requireRange_6 : decode cX8_requireRange 6 = .ok (.iload_n 2, 1) := by decide +kernel
theorem dX8_requireRange_7 : decode cX8_requireRange 7 = .ok (.if_icmp .le 14, 3) := by decide +kernel
theorem dX8_requireRange_10 : decode cX8_requireRange 10 = .ok (.new 218, 3) := by decide +kernel
theorem dX8_requireRange_13 : decode cX8_requireRange 13 = .ok (.dup, 1) := by decide +kernel
theorem dX8_requireRange_14 : decode cX8_requireRange 14 = .ok (.ldc_w 407, 3) := by decide +kernel
theorem dX8_requireRange_17 : decode cX8_requireRange 17 = .ok (.invokespecial 222, 3) := by decide +kernel
theorem dX8_requireRange_20 : decode cX8_requireRange 20 = .ok (.athrow, 1) := by decide +kernel
theorem dX8_requireRange_21 : decode cX8_requireRange 21 = .ok (.return_, 1) := by decide +kernel
abbrev rmX8_requireRange : Room := { frames := 7, cells := 1, slots := 6, locals := 110 }
theorem hdX8_requireRange : yX8_requireRange.cls ≠ "java/lang/invoke/MethodHandle" ∧ yX8_requireRange.cls ≠ "java/lang/invoke/VarHandle" ∧ (parseMethodDescriptor yX8_requireRange.desc).map (fun d => d.parameters.length) = some 3 := by decide +kernel
def fX8_requireRange_10 (σ : Sg) : Option (Unit ⊕ Nat) :=
  some (.inr 1)
theorem bX8_requireRange_10 {X : Xc} {K : Kc} (C : MC X K cX8_requireRange 3 RX8 rmX8_requireRange) (hr : K.meth.sig.returnType = none) (hex : K.c.exceptionTable.toList = []) (hfl : X.l.stackTraces = false) (σ : Sg) : GO X K 3 (fun r => XM X K 1 6 (CXv X r σ) (CXx X r σ)) (fX8_requireRange_10 σ) σ 0 0 10 [none, none, none] [] := by
  unfold fX8_requireRange_10
  exact g_throwW (pc := 10) (e := 1) (cls := "java/lang/IllegalArgumentException") (text := "an argument is out of range") (ik := 218) (is := 407) (ic := 222) C hex hfl rfl (by decide +kernel) q_7_10 q_7_11 (List.mem_of_getElem? (i := 15) rfl) (xat_1 C.ts C.k) xgood_1 dX8_requireRange_10 dX8_requireRange_13 dX8_requireRange_14 dX8_requireRange_17 dX8_requireRange_20 (Nat.le_of_ble_eq_true rfl) (Nat.le_of_ble_eq_true rfl) (Nat.le_of_ble_eq_true rfl) (Nat.le_of_ble_eq_true rfl) (Nat.le_of_ble_eq_true rfl) (Nat.le_of_ble_eq_true rfl) (fun t hP hF => ⟨(), trivial, ⟨⟨_, rfl, rfl⟩, hP⟩, hF⟩)
def fX8_requireRange (σ : Sg) (p0 : Int32) (p1 : Int32) (p2 : Int32) : Option (Unit ⊕ Nat) :=
  if p0 < p1 then
    (fX8_requireRange_10 σ)
  else
    if p0 ≤ p2 then
      some (.inl ())
    else
      (fX8_requireRange_10 σ)
theorem kX8_requireRange (X : Xc) (σ : Sg) (p0 : Int32) (p1 : Int32) (p2 : Int32) (hfl : X.l.stackTraces = false) : ∀ r, fX8_requireRange σ p0 p1 p2 = some r → vx_Met X.l yX8_requireRange (wsM yX8_requireRange cX8_requireRange 3 none) rmX8_requireRange (va_Pc [.int p0, .int p1, .int p2] (PW X σ)) (CXv X r σ) (CXx X r σ) 1 6 X.A := by
  refine xt_of (own := RX8) (lo := [some (.int (p0)), some (.int (p1)), some (.int (p2))]) (by decide) rfl (Nat.le_of_ble_eq_true rfl) rfl (fun K C hr hex => ?_)
  unfold fX8_requireRange
  refine g_iload_n (pc := 0) (i := 0) C dX8_requireRange_0 rfl rfl ?_
  refine g_iload_n (pc := 1) (i := 1) C dX8_requireRange_1 rfl rfl ?_
  refine g_icmp_lt (pc := 2) (tgt := 10) C dX8_requireRange_2 rfl ?_ ?_
  · refine g_keep [false, false, false] ?_
    refine g_widen (cs' := 0) (ss' := 0) (Nat.le_of_ble_eq_true rfl) (Nat.le_of_ble_eq_true rfl) ?_
    exact bX8_requireRange_10 C hr hex hfl σ
  · refine g_iload_n (pc := 5) (i := 0) C dX8_requireRange_5 rfl rfl ?_
    refine g_iload_n (pc := 6) (i := 2) C dX8_requireRange_6 rfl rfl ?_
    refine g_icmp_le (pc := 7) (tgt := 21) C dX8_requireRange_7 rfl ?_ ?_
    · exact g_xvret (pc := 21) C hr dX8_requireRange_21 (Nat.le_of_ble_eq_true rfl) (Nat.le_of_ble_eq_true rfl) (fun t hP hF => ⟨⟨(), rfl, rfl, hP⟩, hF⟩)
    · refine g_keep [false, false, false] ?_
      refine g_widen (cs' := 0) (ss' := 0) (Nat.le_of_ble_eq_true rfl) (Nat.le_of_ble_eq_true rfl) ?_
      exact bX8_requireRange_10 C hr hex hfl σ
theorem dX8_requireMinimum_0 : decode cX8_requireMinimum 0 = .ok (.iload_n 0, 1) := by decide +kernel
theorem dX8_requireMinimum_1 : decode cX8_requireMinimum 1 = .ok (.iconst 1, 1) := by decide +kernel
theorem dX8_requireMinimum_2 : decode cX8_requireMinimum 2 = .ok (.bipush 40, 2) := by decide +kernel
theorem dX8_requireMinimum_4 : decode cX8_requireMinimum 4 = .ok (.invokestatic 123, 3) := by decide +kernel
theorem dX8_requireMinimum_7 : decode cX8_requireMinimum 7 = .ok (.iload_n 1, 1) := by decide +kernel
theorem dX8_requireMinimum_8 : decode cX8_requireMinimum 8 = .ok (.iconst 1, 1) := by decide +kernel
theorem dX8_requireMinimum_9 : decode cX8_requireMinimum 9 = .ok (.bipush 40, 2) := by decide +kernel
theorem dX8_requireMinimum_11 : decode cX8_requireMinimum 11 = .ok (.invokestatic 123, 3) := by decide +kernel
theorem dX8_requireMinimum_14 : decode cX8_requireMinimum 14 = .ok (.return_, 1) := by decide +kernel
abbrev rmX8_requireMinimum : Room := { frames := 8, cells := 2, slots := 12, locals := 132 }
theorem hdX8_requireMinimum : yX8_requireMinimum.cls ≠ "java/lang/invoke/MethodHandle" ∧ yX8_requireMinimum.cls ≠ "java/lang/invoke/VarHandle" ∧ (parseMethodDescriptor yX8_requireMinimum.desc).map (fun d => d.parameters.length) = some 2 := by decide +kernel
def fX8_requireMinimum (σ : Sg) (p0 : Int32) (p1 : Int32) : Option (Unit ⊕ Nat) :=
  (fX8_requireRange σ p0 1 40).bind fun r1 => xcat r1 (fun e3 => some (.inr e3)) fun w2 =>
  (fX8_requireRange σ p1 1 40).bind fun r4 => xcat r4 (fun e6 => some (.inr e6)) fun w5 =>
  some (.inl ())
theorem kX8_requireMinimum (X : Xc) (σ : Sg) (p0 : Int32) (p1 : Int32) (hfl : X.l.stackTraces = false) : ∀ r, fX8_requireMinimum σ p0 p1 = some r → vx_Met X.l yX8_requireMinimum (wsM yX8_requireMinimum cX8_requireMinimum 2 none) rmX8_requireMinimum (va_Pc [.int p0, .int p1] (PW X σ)) (CXv X r σ) (CXx X r σ) 2 12 X.A := by
  refine xt_of (own := RX8) (lo := [some (.int (p0)), some (.int (p1))]) (by decide) rfl (Nat.le_of_ble_eq_true rfl) rfl (fun K C hr hex => ?_)
  unfold fX8_requireMinimum
  refine g_iload_n (pc := 0) (i := 0) C dX8_requireMinimum_0 rfl rfl ?_
  refine g_iconst (pc := 1) (v := 1) C dX8_requireMinimum_1 (by decide) ?_
  refine g_bipush (pc := 2) (v := 40) C dX8_requireMinimum_2 (by decide) ?_
  refine g_xcallSv (pc := 4) (As := [.int (p0), .int (1), .int (40)]) C (kX8_requireRange X σ p0 1 40 hfl) q_7_7 q_7_8 q_1_2 q_7_9 hdX8_requireRange ⟨Nat.le_of_ble_eq_true rfl, Nat.le_of_ble_eq_true rfl, rfl, rfl, Nat.le_of_ble_eq_true rfl, Nat.le_of_ble_eq_true rfl⟩ (Nat.le_of_ble_eq_true rfl) rfl rfl dX8_requireMinimum_4 (fun r1 e3 _ _ => ?_) (fun r1 w2 _ _ => ?_)
  · exact gx_out C hex (Nat.le_of_ble_eq_true rfl) (Nat.le_of_ble_eq_true rfl) (fun t hP hF => ⟨(), trivial, ⟨⟨_, rfl, rfl⟩, hP⟩, hF⟩)
  refine g_iload_n (pc := 7) (i := 1) C dX8_requireMinimum_7 rfl rfl ?_
  refine g_iconst (pc := 8) (v := 1) C dX8_requireMinimum_8 (by decide) ?_
  refine g_bipush (pc := 9) (v := 40) C dX8_requireMinimum_9 (by decide) ?_
  refine g_xcallSv (pc := 11) (As := [.int (p1), .int (1), .int (40)]) C (kX8_requireRange X σ p1 1 40 hfl) q_7_7 q_7_8 q_1_2 q_7_9 hdX8_requireRange ⟨Nat.le_of_ble_eq_true rfl, Nat.le_of_ble_eq_true rfl, rfl, rfl, Nat.le_of_ble_eq_true rfl, Nat.le_of_ble_eq_true rfl⟩ (Nat.le_of_ble_eq_true rfl) rfl rfl dX8_requireMinimum_11 (fun r4 e6 _ _ => ?_) (fun r4 w5 _ _ => ?_)
  · exact gx_out C hex (Nat.le_of_ble_eq_true rfl) (Nat.le_of_ble_eq_true rfl) (fun t hP hF => ⟨(), trivial, ⟨⟨_, rfl, rfl⟩, hP⟩, hF⟩)
  exact g_xvret (pc := 14) C hr dX8_requireMinimum_14 (Nat.le_of_ble_eq_true rfl) (Nat.le_of_ble_eq_true rfl) (fun t hP hF => ⟨⟨(), rfl, rfl, hP⟩, hF⟩)
theorem dX8_recordAt_0 : decode cX8_recordAt 0 = .ok (.aload_n 0, 1) := by decide +kernel
theorem dX8_recordAt_1 : decode cX8_recordAt 1 = .ok (.getfield 413, 3) := by decide +kernel
theorem dX8_recordAt_4 : decode cX8_recordAt 4 = .ok (.iload_n 1, 1) := by decide +kernel
theorem dX8_recordAt_5 : decode cX8_recordAt 5 = .ok (.iadd, 1) := by decide +kernel
theorem dX8_recordAt_6 : decode cX8_recordAt 6 = .ok (.iconst 5, 1) := by decide +kernel
theorem dX8_recordAt_7 : decode cX8_recordAt 7 = .ok (.invokestatic 416, 3) := by decide +kernel
theorem dX8_recordAt_10 : decode cX8_recordAt 10 = .ok (.istore_n 2, 1) := by decide +kernel
theorem dX8_recordAt_11 : decode cX8_recordAt 11 = .ok (.iload_n 2, 1) := by decide +kernel
theorem dX8_recordAt_12 : decode cX8_recordAt 12 = .ok (.ifCond .lt 21, 3) := by decide +kernel
theorem dX8_recordAt_15 : decode cX8_recordAt 15 = .ok (.iload_n 2, 1) := by decide +kernel
theorem dX8_recordAt_16 : decode cX8_recordAt 16 = .ok (.aload_n 0, 1) := by decide +kernel
theorem dX8_recordAt_17 : decode cX8_recordAt 17 = .ok (.getfield 16, 3) := by decide +kernel
theorem dX8_recordAt_20 : decode cX8_recordAt 20 = .ok (.arraylength, 1) := by decide +kernel
theorem dX8_recordAt_21 : decode cX8_recordAt 21 = .ok (.if_icmp .ge 12, 3) := by decide +kernel
theorem dX8_recordAt_24 : decode cX8_recordAt 24 = .ok (.aload_n 0, 1) := by decide +kernel
theorem dX8_recordAt_25 : decode cX8_recordAt 25 = .ok (.getfield 16, 3) := by decide +kernel
theorem dX8_recordAt_28 : decode cX8_recordAt 28 = .ok (.iload_n 2, 1) := by decide +kernel
theorem dX8_recordAt_29 : decode cX8_recordAt 29 = .ok (.aaload, 1) := by decide +kernel
theorem dX8_recordAt_30 : decode cX8_recordAt 30 = .ok (.goto 7, 3) := by decide +kernel
theorem dX8_recordAt_33 : decode cX8_recordAt 33 = .ok (.aload_n 0, 1) := by decide +kernel
theorem dX8_recordAt_34 : decode cX8_recordAt 34 = .ok (.getfield 10, 3) := by decide +kernel
theorem dX8_recordAt_37 : decode cX8_recordAt 37 = .ok (.areturn, 1) := by decide +kernel
abbrev rmX8_recordAt : Room := { frames := 1, cells := 0, slots := 0, locals := 22 }
theorem hdX8_recordAt : yX8_recordAt.cls ≠ "java/lang/invoke/MethodHandle" ∧ yX8_recordAt.cls ≠ "java/lang/invoke/VarHandle" ∧ (parseMethodDescriptor yX8_recordAt.desc).map (fun d => d.parameters.length) = some 1 := by decide +kernel
def fX8_recordAt_37 (σ : Sg) (s0 : Nat) : Option Nat :=
  some s0
theorem bX8_recordAt_37 {X : Xc} {K : Kc} (C : MC X K cX8_recordAt 3 RX8 rmX8_recordAt) (hr : K.meth.sig.returnType = (some (.object "DockLayout$State"))) (σ : Sg) (s0 : Nat) (hs0 : stOK s0) : GO X K 3 (fun r => MQf X K r σ) (fX8_recordAt_37 σ s0) σ 0 0 37 [none, none, none] [.ref (X.ad s0)] := by
  unfold fX8_recordAt_37
  exact g_aret (pc := 37) C hr dX8_recordAt_37 rfl
def fX8_recordAt_33 (σ : Sg) : Option Nat :=
  (fX8_recordAt_37 σ 1)
theorem bX8_recordAt_33 {X : Xc} {K : Kc} (C : MC X K cX8_recordAt 3 RX8 rmX8_recordAt) (hr : K.meth.sig.returnType = (some (.object "DockLayout$State"))) (σ : Sg) : GO X K 3 (fun r => MQf X K r σ) (fX8_recordAt_33 σ) σ 0 0 33 [some (.ref (X.ad 0)), none, none] [] := by
  unfold fX8_recordAt_33
  refine g_aload_n (pc := 33) (i := 0) C dX8_recordAt_33 rfl rfl ?_
  refine g_getr (pc := 34) (ci := 8) (N := 8) (T := TX8) (j := 0) (Cn := RX8) 1 C rfl inlX8 (Nat.le_of_ble_eq_true rfl) q_1_16 ok_dl rfl dX8_recordAt_34 ?_
  refine g_keep [false, false, false] ?_
  exact bX8_recordAt_37 C hr σ 1 ok_now
def fX8_recordAt (σ : Sg) (p1 : Int32) : Option Nat :=
  (fJ9_floorMod_7cf53 σ ((σ.1 0 2) + p1) 5).bind fun r1 =>
  if r1 < 0 then
    (fX8_recordAt_33 σ)
  else
    if (nI ([72, 142, 212, 282, 352]).length) ≤ r1 then
      (fX8_recordAt_33 σ)
    else
      if ck r1 ([72, 142, 212, 282, 352]).length then
        (fX8_recordAt_37 σ (rget [72, 142, 212, 282, 352] r1))
      else none
theorem kX8_recordAt (X : Xc) (σ : Sg) (p1 : Int32) : ∀ r, fX8_recordAt σ p1 = some r → Met X.l yX8_recordAt (wsM yX8_recordAt cX8_recordAt 3 (some (.object "DockLayout$State"))) rmX8_recordAt (va_Pc [.ref (X.ad 0), .int p1] (PW X σ)) (Qf X r σ) 0 0 X.A := by
  refine mt_of (own := RX8) (lo := [some (.ref (X.ad 0)), some (.int (p1)), none]) (by decide) rfl (Nat.le_of_ble_eq_true rfl) rfl (fun K C hr => ?_)
  unfold fX8_recordAt
  refine g_aload_n (pc := 0) (i := 0) C dX8_recordAt_0 rfl rfl ?_
  refine g_geti (pc := 1) (ci := 8) (N := 8) (T := TX8) (j := 2) (Cn := RX8) C rfl inlX8 (Nat.le_of_ble_eq_true rfl) q_8_2 ok_dl rfl dX8_recordAt_1 ?_
  refine g_iload_n (pc := 4) (i := 1) C dX8_recordAt_4 rfl rfl ?_
  refine g_iadd (pc := 5) C dX8_recordAt_5 ?_
  refine g_iconst (pc := 6) (v := 5) C dX8_recordAt_6 (by decide) ?_
  refine g_callSi (pc := 7) (As := [.int ((σ.1 0 2) + p1), .int (5)]) C (kJ9_floorMod_7cf53 X σ ((σ.1 0 2) + p1) 5) q_8_3 q_8_4 q_8_5 q_8_6 hdJ9_floorMod_7cf53 ⟨Nat.le_of_ble_eq_true rfl, Nat.le_of_ble_eq_true rfl, rfl, rfl⟩ ⟨Nat.zero_le _, Nat.zero_le _⟩ (Nat.le_of_ble_eq_true rfl) rfl rfl dX8_recordAt_7 (fun r1 _ => ?_)
  refine g_istore_n (pc := 10) (i := 2) C dX8_recordAt_10 rfl (Nat.le_of_ble_eq_true rfl) rfl ?_
  refine g_iload_n (pc := 11) (i := 2) C dX8_recordAt_11 rfl rfl ?_
  refine g_if_lt (pc := 12) (tgt := 33) C dX8_recordAt_12 rfl ?_ ?_
  · refine g_keep [true, false, false] ?_
    exact bX8_recordAt_33 C hr σ
  · refine g_iload_n (pc := 15) (i := 2) C dX8_recordAt_15 rfl rfl ?_
    refine g_aload_n (pc := 16) (i := 0) C dX8_recordAt_16 rfl rfl ?_
    refine g_getr (pc := 17) (ci := 8) (N := 8) (T := TX8) (j := 1) (Cn := RX8) 71 C rfl inlX8 (Nat.le_of_ble_eq_true rfl) q_1_17 ok_dl rfl dX8_recordAt_17 ?_
    refine g_salen (pc := 20) C ok_recs dX8_recordAt_20 ?_
    refine g_icmp_ge (pc := 21) (tgt := 33) C dX8_recordAt_21 rfl ?_ ?_
    · refine g_keep [true, false, false] ?_
      exact bX8_recordAt_33 C hr σ
    · refine g_aload_n (pc := 24) (i := 0) C dX8_recordAt_24 rfl rfl ?_
      refine g_getr (pc := 25) (ci := 8) (N := 8) (T := TX8) (j := 1) (Cn := RX8) 71 C rfl inlX8 (Nat.le_of_ble_eq_true rfl) q_1_17 ok_dl rfl dX8_recordAt_25 ?_
      refine g_iload_n (pc := 28) (i := 2) C dX8_recordAt_28 rfl rfl ?_
      refine g_saload (pc := 29) C ok_recs dX8_recordAt_29 (fun hm2 => ?_)
      refine g_goto (pc := 30) (tgt := 37) C dX8_recordAt_30 rfl ?_
      refine g_keep [false, false, false] ?_
      exact bX8_recordAt_37 C hr σ (rget [72, 142, 212, 282, 352] r1) (recs_ok _ hm2)
theorem okX8_recordAt {σ : Sg} {p1 : Int32} {r : Nat} (h : fX8_recordAt σ p1 = some r) : stOK r := by
  have a : ∀ s0 r, fX8_recordAt_37 σ s0 = some r → r = s0 := fun s0 r h => (Option.some.inj h).symm
  have b : ∀ r, fX8_recordAt_33 σ = some r → stOK r := fun r h => by
    rw [a _ _ h]; exact ok_now
  unfold fX8_recordAt at h
  obtain ⟨r1, -, h⟩ := Option.bind_eq_some_iff.mp h
  by_cases h1 : r1 < 0
  · rw [if_pos h1] at h; exact b _ h
  · rw [if_neg h1] at h
    by_cases h2 : (nI ([72, 142, 212, 282, 352]).length) ≤ r1
    · rw [if_pos h2] at h; exact b _ h
    · rw [if_neg h2] at h
      by_cases h3 : ck r1 ([72, 142, 212, 282, 352]).length
      · rw [if_pos h3] at h
        rw [a _ _ h]
        exact recs_ok _ (rget_mem h3)
      · rw [if_neg h3] at h; cases h
theorem dX8_keepRecord_0 : decode cX8_keepRecord 0 = .ok (.aload_n 0, 1) := by decide +kernel
theorem dX8_keepRecord_1 : decode cX8_keepRecord 1 = .ok (.getfield 358, 3) := by decide +kernel
theorem dX8_keepRecord_4 : decode cX8_keepRecord 4 = .ok (.iconst 5, 1) := by decide +kernel
theorem dX8_keepRecord_5 : decode cX8_keepRecord 5 = .ok (.if_icmp .ne 27, 3) := by decide +kernel
theorem dX8_keepRecord_8 : decode cX8_keepRecord 8 = .ok (.aload_n 0, 1) := by decide +kernel
theorem dX8_keepRecord_9 : decode cX8_keepRecord 9 = .ok (.aload_n 0, 1) := by decide +kernel
theorem dX8_keepRecord_10 : decode cX8_keepRecord 10 = .ok (.getfield 413, 3) := by decide +kernel
theorem dX8_keepRecord_13 : decode cX8_keepRecord 13 = .ok (.iconst 1, 1) := by decide +kernel
theorem dX8_keepRecord_14 : decode cX8_keepRecord 14 = .ok (.iadd, 1) := by decide +kernel
theorem dX8_keepRecord_15 : decode cX8_keepRecord 15 = .ok (.iconst 5, 1) := by decide +kernel
theorem dX8_keepRecord_16 : decode cX8_keepRecord 16 = .ok (.invokestatic 416, 3) := by decide +kernel
theorem dX8_keepRecord_19 : decode cX8_keepRecord 19 = .ok (.putfield 413, 3) := by decide +kernel
theorem dX8_keepRecord_22 : decode cX8_keepRecord 22 = .ok (.aload_n 0, 1) := by decide +kernel
theorem dX8_keepRecord_23 : decode cX8_keepRecord 23 = .ok (.dup, 1) := by decide +kernel
theorem dX8_keepRecord_24 : decode cX8_keepRecord 24 = .ok (.getfield 358, 3) := by decide +kernel
theorem dX8_keepRecord_27 : decode cX8_keepRecord 27 = .ok (.iconst 1, 1) := by decide +kernel
theorem dX8_keepRecord_28 : decode cX8_keepRecord 28 = .ok (.isub, 1) := by decide +kernel
theorem dX8_keepRecord_29 : decode cX8_keepRecord 29 = .ok (.putfield 358, 3) := by decide +kernel
theorem dX8_keepRecord_32 : decode cX8_keepRecord 32 = .ok (.aload_n 0, 1) := by decide +kernel
theorem dX8_keepRecord_33 : decode cX8_keepRecord 33 = .ok (.aload_n 0, 1) := by decide +kernel
theorem dX8_keepRecord_34 : decode cX8_keepRecord 34 = .ok (.getfield 358, 3) := by decide +kernel
theorem dX8_keepRecord_37 : decode cX8_keepRecord 37 = .ok (.invokevirtual 363, 3) := by decide +kernel
theorem dX8_keepRecord_40 : decode cX8_keepRecord 40 = .ok (.aload_n 0, 1) := by decide +kernel
theorem dX8_keepRecord_41 : decode cX8_keepRecord 41 = .ok (.getfield 10, 3) := by decide +kernel
theorem dX8_keepRecord_44 : decode cX8_keepRecord 44 = .ok (.invokevirtual 367, 3) := by decide +kernel
theorem dX8_keepRecord_47 : decode cX8_keepRecord 47 = .ok (.aload_n 0, 1) := by decide +kernel
theorem dX8_keepRecord_48 : decode cX8_keepRecord 48 = .ok (.dup, 1) := by decide +kernel
theorem dX8_keepRecord_49 : decode cX8_keepRecord 49 = .ok (.getfield 358, 3) := by decide +kernel
theorem dX8_keepRecord_52 : decode cX8_keepRecord 52 = .ok (.iconst 1, 1) := by decide +kernel
theorem dX8_keepRecord_53 : decode cX8_keepRecord 53 = .ok (.iadd, 1) := by decide +kernel
theorem dX8_keepRecord_54 : decode cX8_keepRecord 54 = .ok (.putfield 358, 3) := by decide +kernel
theorem dX8_keepRecord_57 : decode cX8_keepRecord 57 = .ok (.return_, 1) := by decide +kernel
abbrev rmX8_keepRecord : Room := { frames := 5, cells := 0, slots := 0, locals := 175 }
theorem hdX8_keepRecord : yX8_keepRecord.cls ≠ "java/lang/invoke/MethodHandle" ∧ yX8_keepRecord.cls ≠ "java/lang/invoke/VarHandle" ∧ (parseMethodDescriptor yX8_keepRecord.desc).map (fun d => d.parameters.length) = some 0 := by decide +kernel
def fX8_keepRecord_32 (σ : Sg) : Option Sg :=
  (fX8_recordAt σ (σ.1 0 3)).bind fun r4 =>
  (fX4_copyFrom σ r4 1).bind fun σ5 =>
  nm (su σ5 0 3 ((σ5.1 0 3) + 1)) fun σ6 =>
  some σ6
theorem bX8_keepRecord_32 {X : Xc} {K : Kc} (C : MC X K cX8_keepRecord 1 RX8 rmX8_keepRecord) (hr : K.meth.sig.returnType = none) (σ : Sg) : GO X K 1 (fun r => MQv X K r) (fX8_keepRecord_32 σ) σ 0 0 32 [some (.ref (X.ad 0))] [] := by
  unfold fX8_keepRecord_32
  refine g_aload_n (pc := 32) (i := 0) C dX8_keepRecord_32 rfl rfl ?_
  refine g_aload_n (pc := 33) (i := 0) C dX8_keepRecord_33 rfl rfl ?_
  refine g_geti (pc := 34) (ci := 8) (N := 8) (T := TX8) (j := 3) (Cn := RX8) C rfl inlX8 (Nat.le_of_ble_eq_true rfl) q_8_1 ok_dl rfl dX8_keepRecord_34 ?_
  refine g_callVf (pc := 37) (As := [.int (σ.1 0 3)]) C (kX8_recordAt X σ (σ.1 0 3)) ok_dl rfl q_8_7 q_8_8 q_8_9 q_1_2 q_8_10 ⟨rfl, hdX8_recordAt⟩ ⟨Nat.le_of_ble_eq_true rfl, Nat.le_of_ble_eq_true rfl, rfl, rfl⟩ ⟨Nat.zero_le _, Nat.zero_le _⟩ (Nat.le_of_ble_eq_true rfl) rfl rfl dX8_keepRecord_37 (fun r4 hr4 => ?_)
  refine g_aload_n (pc := 40) (i := 0) C dX8_keepRecord_40 rfl rfl ?_
  refine g_getr (pc := 41) (ci := 8) (N := 8) (T := TX8) (j := 0) (Cn := RX8) 1 C rfl inlX8 (Nat.le_of_ble_eq_true rfl) q_1_16 ok_dl rfl dX8_keepRecord_41 ?_
  refine g_callVv (pc := 44) (As := [.ref (X.ad 1)]) C (kX4_copyFrom X σ r4 1 (okX8_recordAt hr4) ok_now) (blk (okX8_recordAt hr4) 0 rfl) rfl q_8_11 q_8_12 q_8_13 q_1_15 q_8_14 ⟨rfl, hdX4_copyFrom⟩ ⟨Nat.le_of_ble_eq_true rfl, Nat.le_of_ble_eq_true rfl, rfl, rfl⟩ ⟨Nat.zero_le _, Nat.zero_le _⟩ (Nat.le_of_ble_eq_true rfl) rfl rfl dX8_keepRecord_44 (fun σ5 _ => ?_)
  refine g_aload_n (pc := 47) (i := 0) C dX8_keepRecord_47 rfl rfl ?_
  refine g_dup (pc := 48) C dX8_keepRecord_48 rfl ?_
  refine g_geti (pc := 49) (ci := 8) (N := 8) (T := TX8) (j := 3) (Cn := RX8) C rfl inlX8 (Nat.le_of_ble_eq_true rfl) q_8_1 ok_dl rfl dX8_keepRecord_49 ?_
  refine g_iconst (pc := 52) (v := 1) C dX8_keepRecord_52 (by decide) ?_
  refine g_iadd (pc := 53) C dX8_keepRecord_53 ?_
  refine g_puti (pc := 54) (ci := 8) (N := 8) (T := TX8) (j := 3) (Cn := RX8) C rfl inlX8 tyX8_ok nmX8 (Nat.le_of_ble_eq_true rfl) q_8_1 ok_dl rfl rfl rfl dX8_keepRecord_54 ?_
  refine g_nms (fun σ6 => ?_)
  exact g_vret (pc := 57) C hr dX8_keepRecord_57 rfl
def fX8_keepRecord (σ : Sg) : Option Sg :=
  if (σ.1 0 3) = 5 then
    (fJ9_floorMod_7cf53 σ ((σ.1 0 2) + 1) 5).bind fun r1 =>
    nm (su σ 0 2 r1) fun σ2 =>
    nm (su σ2 0 3 ((σ2.1 0 3) - 1)) fun σ3 =>
    (fX8_keepRecord_32 σ3)
  else
    (fX8_keepRecord_32 σ)
theorem kX8_keepRecord (X : Xc) (σ : Sg) : ∀ r, fX8_keepRecord σ = some r → Met X.l yX8_keepRecord (wsM yX8_keepRecord cX8_keepRecord 1 none) rmX8_keepRecord (va_Pc [.ref (X.ad 0)] (PW X σ)) (Qv X r) 0 0 X.A := by
  refine mt_of (own := RX8) (lo := [some (.ref (X.ad 0))]) (by decide) rfl (Nat.le_of_ble_eq_true rfl) rfl (fun K C hr => ?_)
  unfold fX8_keepRecord
  refine g_aload_n (pc := 0) (i := 0) C dX8_keepRecord_0 rfl rfl ?_
  refine g_geti (pc := 1) (ci := 8) (N := 8) (T := TX8) (j := 3) (Cn := RX8) C rfl inlX8 (Nat.le_of_ble_eq_true rfl) q_8_1 ok_dl rfl dX8_keepRecord_1 ?_
  refine g_iconst (pc := 4) (v := 5) C dX8_keepRecord_4 (by decide) ?_
  refine g_icmp_ne (pc := 5) (tgt := 32) C dX8_keepRecord_5 rfl ?_ ?_
  · refine g_aload_n (pc := 8) (i := 0) C dX8_keepRecord_8 rfl rfl ?_
    refine g_aload_n (pc := 9) (i := 0) C dX8_keepRecord_9 rfl rfl ?_
    refine g_geti (pc := 10) (ci := 8) (N := 8) (T := TX8) (j := 2) (Cn := RX8) C rfl inlX8 (Nat.le_of_ble_eq_true rfl) q_8_2 ok_dl rfl dX8_keepRecord_10 ?_
    refine g_iconst (pc := 13) (v := 1) C dX8_keepRecord_13 (by decide) ?_
    refine g_iadd (pc := 14) C dX8_keepRecord_14 ?_
    refine g_iconst (pc := 15) (v := 5) C dX8_keepRecord_15 (by decide) ?_
    refine g_callSi (pc := 16) (As := [.int ((σ.1 0 2) + 1), .int (5)]) C (kJ9_floorMod_7cf53 X σ ((σ.1 0 2) + 1) 5) q_8_3 q_8_4 q_8_5 q_8_6 hdJ9_floorMod_7cf53 ⟨Nat.le_of_ble_eq_true rfl, Nat.le_of_ble_eq_true rfl, rfl, rfl⟩ ⟨Nat.zero_le _, Nat.zero_le _⟩ (Nat.le_of_ble_eq_true rfl) rfl rfl dX8_keepRecord_16 (fun r1 _ => ?_)
    refine g_puti (pc := 19) (ci := 8) (N := 8) (T := TX8) (j := 2) (Cn := RX8) C rfl inlX8 tyX8_ok nmX8 (Nat.le_of_ble_eq_true rfl) q_8_2 ok_dl rfl rfl rfl dX8_keepRecord_19 ?_
    refine g_nms (fun σ2 => ?_)
    refine g_aload_n (pc := 22) (i := 0) C dX8_keepRecord_22 rfl rfl ?_
    refine g_dup (pc := 23) C dX8_keepRecord_23 rfl ?_
    refine g_geti (pc := 24) (ci := 8) (N := 8) (T := TX8) (j := 3) (Cn := RX8) C rfl inlX8 (Nat.le_of_ble_eq_true rfl) q_8_1 ok_dl rfl dX8_keepRecord_24 ?_
    refine g_iconst (pc := 27) (v := 1) C dX8_keepRecord_27 (by decide) ?_
    refine g_isub (pc := 28) C dX8_keepRecord_28 ?_
    refine g_puti (pc := 29) (ci := 8) (N := 8) (T := TX8) (j := 3) (Cn := RX8) C rfl inlX8 tyX8_ok nmX8 (Nat.le_of_ble_eq_true rfl) q_8_1 ok_dl rfl rfl rfl dX8_keepRecord_29 ?_
    refine g_nms (fun σ3 => ?_)
    refine g_keep [true] ?_
    exact bX8_keepRecord_32 C hr σ3
  · refine g_keep [true] ?_
    exact bX8_keepRecord_32 C hr σ
theorem dX8_create_0 : decode cX8_create 0 = .ok (.iload_n 1, 1) := by decide +kernel
theorem dX8_create_1 : decode cX8_create 1 = .ok (.iload_n 2, 1) := by decide +kernel
theorem dX8_create_2 : decode cX8_create 2 = .ok (.invokestatic 48, 3) := by decide +kernel
theorem dX8_create_5 : decode cX8_create 5 = .ok (.aload_n 0, 1) := by decide +kernel
theorem dX8_create_6 : decode cX8_create 6 = .ok (.getfield 10, 3) := by decide +kernel
theorem dX8_create_9 : decode cX8_create 9 = .ok (.invokevirtual 52, 3) := by decide +kernel
theorem dX8_create_12 : decode cX8_create 12 = .ok (.istore_n 3, 1) := by decide +kernel
theorem dX8_create_13 : decode cX8_create 13 = .ok (.iload_n 3, 1) := by decide +kernel
theorem dX8_create_14 : decode cX8_create 14 = .ok (.iconst (-1), 1) := by decide +kernel
theorem dX8_create_15 : decode cX8_create 15 = .ok (.if_icmp .ne 13, 3) := by decide +kernel
theorem dX8_create_18 : decode cX8_create 18 = .ok (.new 56, 3) := by decide +kernel
theorem dX8_create_21 : decode cX8_create 21 = .ok (.dup, 1) := by decide +kernel
theorem dX8_create_22 : decode cX8_create 22 = .ok (.ldc 58, 2) := by decide +kernel
theorem dX8_create_24 : decode cX8_create 24 = .ok (.invokespecial 60, 3) := by decide +kernel
theorem dX8_create_27 : decode cX8_create 27 = .ok (.athrow, 1) := by decide +kernel
theorem dX8_create_28 : decode cX8_create 28 = .ok (.aload_n 0, 1) := by decide +kernel
theorem dX8_create_29 : decode cX8_create 29 = .ok (.invokevirtual 63, 3) := by decide +kernel
theorem dX8_create_32 : decode cX8_create 32 = .ok (.aload_n 0, 1) := by decide +kernel
theorem dX8_create_33 : decode cX8_create 33 = .ok (.getfield 10, 3) := by decide +kernel
theorem dX8_create_36 : decode cX8_create 36 = .ok (.iload_n 3, 1) := by decide +kernel
theorem dX8_create_37 : decode cX8_create 37 = .ok (.invokevirtual 66, 3) := by decide +kernel
theorem dX8_create_40 : decode cX8_create 40 = .ok (.aload_n 0, 1) := by decide +kernel
theorem dX8_create_41 : decode cX8_create 41 = .ok (.getfield 10, 3) := by decide +kernel
theorem dX8_create_44 : decode cX8_create 44 = .ok (.iload_n 3, 1) := by decide +kernel
theorem dX8_create_45 : decode cX8_create 45 = .ok (.iload_n 1, 1) := by decide +kernel
theorem dX8_create_46 : decode cX8_create 46 = .ok (.iload_n 2, 1) := by decide +kernel
theorem dX8_create_47 : decode cX8_create 47 = .ok (.invokevirtual 70, 3) := by decide +kernel
theorem dX8_create_50 : decode cX8_create 50 = .ok (.iload_n 3, 1) := by decide +kernel
theorem dX8_create_51 : decode cX8_create 51 = .ok (.ireturn, 1) := by decide +kernel
abbrev rmX8_create : Room := { frames := 9, cells := 3, slots := 18, locals := 195 }
theorem hdX8_create : yX8_create.cls ≠ "java/lang/invoke/MethodHandle" ∧ yX8_create.cls ≠ "java/lang/invoke/VarHandle" ∧ (parseMethodDescriptor yX8_create.desc).map (fun d => d.parameters.length) = some 2 := by decide +kernel
def fX8_create (σ : Sg) (p1 : Int32) (p2 : Int32) : Option ((Int32 ⊕ Nat) × Sg) :=
  (fX8_requireMinimum σ p1 p2).bind fun r1 => xcat r1 (fun e3 => some (.inr e3, σ)) fun w2 =>
  (fX4_lowestFreePane σ 1).bind fun r4 =>
  if r4 = (-1) then
    some (.inr 2, σ)
  else
    (fX8_keepRecord σ).bind fun σ5 =>
    (fX4_addPane σ5 1 r4).bind fun σ6 =>
    (fX4_setMinimums σ6 1 r4 p1 p2).bind fun σ7 =>
    some (.inl r4, σ7)
theorem kX8_create (X : Xc) (σ : Sg) (p1 : Int32) (p2 : Int32) (hfl : X.l.stackTraces = false) : ∀ r, fX8_create σ p1 p2 = some r → vx_Met X.l yX8_create (wsM yX8_create cX8_create 4 (some .int)) rmX8_create (va_Pc [.ref (X.ad 0), .int p1, .int p2] (PW X σ)) (CXi X r.1 r.2) (CXx X r.1 r.2) 3 18 X.A := by
  refine xt_of (own := RX8) (lo := [some (.ref (X.ad 0)), some (.int (p1)), some (.int (p2)), none]) (by decide) rfl (Nat.le_of_ble_eq_true rfl) rfl (fun K C hr hex => ?_)
  unfold fX8_create
  refine g_iload_n (pc := 0) (i := 1) C dX8_create_0 rfl rfl ?_
  refine g_iload_n (pc := 1) (i := 2) C dX8_create_1 rfl rfl ?_
  refine g_xcallSv (pc := 2) (As := [.int (p1), .int (p2)]) C (kX8_requireMinimum X σ p1 p2 hfl) q_7_4 q_7_5 q_1_2 q_7_6 hdX8_requireMinimum ⟨Nat.le_of_ble_eq_true rfl, Nat.le_of_ble_eq_true rfl, rfl, rfl, Nat.le_of_ble_eq_true rfl, Nat.le_of_ble_eq_true rfl⟩ (Nat.le_of_ble_eq_true rfl) rfl rfl dX8_create_2 (fun r1 e3 _ _ => ?_) (fun r1 w2 _ _ => ?_)
  · exact gx_out C hex (Nat.le_of_ble_eq_true rfl) (Nat.le_of_ble_eq_true rfl) (fun t hP hF => ⟨(), trivial, ⟨⟨_, rfl, rfl⟩, hP⟩, hF⟩)
  refine g_aload_n (pc := 5) (i := 0) C dX8_create_5 rfl rfl ?_
  refine g_getr (pc := 6) (ci := 8) (N := 8) (T := TX8) (j := 0) (Cn := RX8) 1 C rfl inlX8 (Nat.le_of_ble_eq_true rfl) q_1_16 ok_dl rfl dX8_create_6 ?_
  refine g_callVi (pc := 9) (As := []) C (kX4_lowestFreePane X σ 1 ok_now) (blk ok_now 0 rfl) rfl q_7_12 q_7_13 q_7_14 q_1_15 q_7_15 ⟨rfl, hdX4_lowestFreePane⟩ ⟨Nat.le_of_ble_eq_true rfl, Nat.le_of_ble_eq_true rfl, rfl, rfl⟩ ⟨Nat.le_of_ble_eq_true rfl, Nat.le_of_ble_eq_true rfl⟩ (Nat.le_of_ble_eq_true rfl) rfl rfl dX8_create_9 (fun r4 _ => ?_)
  refine g_istore_n (pc := 12) (i := 3) C dX8_create_12 rfl (Nat.le_of_ble_eq_true rfl) rfl ?_
  refine g_iload_n (pc := 13) (i := 3) C dX8_create_13 rfl rfl ?_
  refine g_iconst (pc := 14) (v := (-1)) C dX8_create_14 (by decide) ?_
  refine g_icmp_ne (pc := 15) (tgt := 28) C dX8_create_15 rfl ?_ ?_
  · exact g_throw (pc := 18) (e := 2) (cls := "java/lang/IllegalStateException") (text := "there are 12 panes") (ik := 56) (is := 58) (ic := 60) C hex hfl rfl (by decide +kernel) q_7_2 q_7_3 (List.mem_of_getElem? (i := 0) rfl) (xat_2 C.ts C.k) xgood_2 dX8_create_18 dX8_create_21 dX8_create_22 dX8_create_24 dX8_create_27 (Nat.le_of_ble_eq_true rfl) (Nat.le_of_ble_eq_true rfl) (Nat.le_of_ble_eq_true rfl) (Nat.le_of_ble_eq_true rfl) (Nat.le_of_ble_eq_true rfl) (Nat.le_of_ble_eq_true rfl) (fun t hP hF => ⟨(), trivial, ⟨⟨_, rfl, rfl⟩, hP⟩, hF⟩)
  · refine g_aload_n (pc := 28) (i := 0) C dX8_create_28 rfl rfl ?_
    refine g_callVv (pc := 29) (As := []) C (kX8_keepRecord X σ) ok_dl rfl q_7_21 q_7_22 q_7_23 q_1_2 q_8_0 ⟨rfl, hdX8_keepRecord⟩ ⟨Nat.le_of_ble_eq_true rfl, Nat.le_of_ble_eq_true rfl, rfl, rfl⟩ ⟨Nat.le_of_ble_eq_true rfl, Nat.le_of_ble_eq_true rfl⟩ (Nat.le_of_ble_eq_true rfl) rfl rfl dX8_create_29 (fun σ5 _ => ?_)
    refine g_aload_n (pc := 32) (i := 0) C dX8_create_32 rfl rfl ?_
    refine g_getr (pc := 33) (ci := 8) (N := 8) (T := TX8) (j := 0) (Cn := RX8) 1 C rfl inlX8 (Nat.le_of_ble_eq_true rfl) q_1_16 ok_dl rfl dX8_create_33 ?_
    refine g_iload_n (pc := 36) (i := 3) C dX8_create_36 rfl rfl ?_
    refine g_callVv (pc := 37) (As := [.int (r4)]) C (kX4_addPane X σ5 1 r4 ok_now) (blk ok_now 0 rfl) rfl q_9_12 q_9_13 q_9_14 q_1_15 q_9_15 ⟨rfl, hdX4_addPane⟩ ⟨Nat.le_of_ble_eq_true rfl, Nat.le_of_ble_eq_true rfl, rfl, rfl⟩ ⟨Nat.le_of_ble_eq_true rfl, Nat.le_of_ble_eq_true rfl⟩ (Nat.le_of_ble_eq_true rfl) rfl rfl dX8_create_37 (fun σ6 _ => ?_)
    refine g_aload_n (pc := 40) (i := 0) C dX8_create_40 rfl rfl ?_
    refine g_getr (pc := 41) (ci := 8) (N := 8) (T := TX8) (j := 0) (Cn := RX8) 1 C rfl inlX8 (Nat.le_of_ble_eq_true rfl) q_1_16 ok_dl rfl dX8_create_41 ?_
    refine g_iload_n (pc := 44) (i := 3) C dX8_create_44 rfl rfl ?_
    refine g_iload_n (pc := 45) (i := 1) C dX8_create_45 rfl rfl ?_
    refine g_iload_n (pc := 46) (i := 2) C dX8_create_46 rfl rfl ?_
    refine g_callVv (pc := 47) (As := [.int (r4), .int (p1), .int (p2)]) C (kX4_setMinimums X σ6 1 r4 p1 p2 ok_now) (blk ok_now 0 rfl) rfl q_9_16 q_9_17 q_9_18 q_1_15 q_9_19 ⟨rfl, hdX4_setMinimums⟩ ⟨Nat.le_of_ble_eq_true rfl, Nat.le_of_ble_eq_true rfl, rfl, rfl⟩ ⟨Nat.le_of_ble_eq_true rfl, Nat.le_of_ble_eq_true rfl⟩ (Nat.le_of_ble_eq_true rfl) rfl rfl dX8_create_47 (fun σ7 _ => ?_)
    refine g_iload_n (pc := 50) (i := 3) C dX8_create_50 rfl rfl ?_
    exact g_xiret (pc := 51) C hr dX8_create_51 (Nat.le_of_ble_eq_true rfl) (Nat.le_of_ble_eq_true rfl) (fun t hP hF => ⟨⟨_, (), rfl, rfl, hP⟩, hF⟩)
theorem dX8_requirePane_0 : decode cX8_requirePane 0 = .ok (.aload_n 0, 1) := by decide +kernel
theorem dX8_requirePane_1 : decode cX8_requirePane 1 = .ok (.getfield 10, 3) := by decide +kernel
theorem dX8_requirePane_4 : decode cX8_requirePane 4 = .ok (.iload_n 1, 1) := by decide +kernel
theorem dX8_requirePane_5 : decode cX8_requirePane 5 = .ok (.invokevirtual 375, 3) := by decide +kernel
theorem dX8_requirePane_8 : decode cX8_requirePane 8 = .ok (.ifCond .ne 14, 3) := by decide +kernel
theorem dX8_requirePane_11 : decode cX8_requirePane 11 = .ok (.new 398, 3) := by decide +kernel
theorem dX8_requirePane_14 : decode cX8_requirePane 14 = .ok (.dup, 1) := by decide +kernel
theorem dX8_requirePane_15 : decode cX8_requirePane 15 = .ok (.ldc_w 400, 3) := by decide +kernel
theorem dX8_requirePane_18 : decode cX8_requirePane 18 = .ok (.invokespecial 402, 3) := by decide +kernel
theorem dX8_requirePane_21 : decode cX8_requirePane 21 = .ok (.athrow, 1) := by decide +kernel
theorem dX8_requirePane_22 : decode cX8_requirePane 22 = .ok (.return_, 1) := by decide +kernel
abbrev rmX8_requirePane : Room := { frames := 7, cells := 1, slots := 6, locals := 110 }
theorem hdX8_requirePane : yX8_requirePane.cls ≠ "java/lang/invoke/MethodHandle" ∧ yX8_requirePane.cls ≠ "java/lang/invoke/VarHandle" ∧ (parseMethodDescriptor yX8_requirePane.desc).map (fun d => d.parameters.length) = some 1 := by decide +kernel
def fX8_requirePane (σ : Sg) (p1 : Int32) : Option (Unit ⊕ Nat) :=
  (fX4_exists σ 1 p1).bind fun r1 =>
  if r1 = true then
    some (.inl ())
  else
    some (.inr 0)
theorem kX8_requirePane (X : Xc) (σ : Sg) (p1 : Int32) (hfl : X.l.stackTraces = false) : ∀ r, fX8_requirePane σ p1 = some r → vx_Met X.l yX8_requirePane (wsM yX8_requirePane cX8_requirePane 2 none) rmX8_requirePane (va_Pc [.ref (X.ad 0), .int p1] (PW X σ)) (CXv X r σ) (CXx X r σ) 1 6 X.A := by
  refine xt_of (own := RX8) (lo := [some (.ref (X.ad 0)), some (.int (p1))]) (by decide) rfl (Nat.le_of_ble_eq_true rfl) rfl (fun K C hr hex => ?_)
  unfold fX8_requirePane
  refine g_aload_n (pc := 0) (i := 0) C dX8_requirePane_0 rfl rfl ?_
  refine g_getr (pc := 1) (ci := 8) (N := 8) (T := TX8) (j := 0) (Cn := RX8) 1 C rfl inlX8 (Nat.le_of_ble_eq_true rfl) q_1_16 ok_dl rfl dX8_requirePane_1 ?_
  refine g_iload_n (pc := 4) (i := 1) C dX8_requirePane_4 rfl rfl ?_
  refine g_callVi (pc := 5) (As := [.int (p1)]) C (kX4_exists X σ 1 p1 ok_now) (blk ok_now 0 rfl) rfl q_11_13 q_7_17 q_7_18 q_1_15 q_7_19 ⟨rfl, hdX4_exists⟩ ⟨Nat.le_of_ble_eq_true rfl, Nat.le_of_ble_eq_true rfl, rfl, rfl⟩ ⟨Nat.le_of_ble_eq_true rfl, Nat.le_of_ble_eq_true rfl⟩ (Nat.le_of_ble_eq_true rfl) rfl rfl dX8_requirePane_5 (fun r1 _ => ?_)
  refine g_ifb_ne (pc := 8) (tgt := 22) C dX8_requirePane_8 rfl ?_ ?_
  · exact g_xvret (pc := 22) C hr dX8_requirePane_22 (Nat.le_of_ble_eq_true rfl) (Nat.le_of_ble_eq_true rfl) (fun t hP hF => ⟨⟨(), rfl, rfl, hP⟩, hF⟩)
  · exact g_throwW (pc := 11) (e := 0) (cls := "java/lang/IndexOutOfBoundsException") (text := "there is no such pane") (ik := 398) (is := 400) (ic := 402) C hex hfl rfl (by decide +kernel) q_11_11 q_11_12 (List.mem_of_getElem? (i := 12) rfl) (xat_0 C.ts C.k) xgood_0 dX8_requirePane_11 dX8_requirePane_14 dX8_requirePane_15 dX8_requirePane_18 dX8_requirePane_21 (Nat.le_of_ble_eq_true rfl) (Nat.le_of_ble_eq_true rfl) (Nat.le_of_ble_eq_true rfl) (Nat.le_of_ble_eq_true rfl) (Nat.le_of_ble_eq_true rfl) (Nat.le_of_ble_eq_true rfl) (fun t hP hF => ⟨(), trivial, ⟨⟨_, rfl, rfl⟩, hP⟩, hF⟩)
theorem dX8_remove_0 : decode cX8_remove 0 = .ok (.aload_n 0, 1) := by decide +kernel
theorem dX8_remove_1 : decode cX8_remove 1 = .ok (.iload_n 1, 1) := by decide +kernel
theorem dX8_remove_2 : decode cX8_remove 2 = .ok (.invokevirtual 74, 3) := by decide +kernel
theorem dX8_remove_5 : decode cX8_remove 5 = .ok (.aload_n 0, 1) := by decide +kernel
theorem dX8_remove_6 : decode cX8_remove 6 = .ok (.invokevirtual 63, 3) := by decide +kernel
theorem dX8_remove_9 : decode cX8_remove 9 = .ok (.aload_n 0, 1) := by decide +kernel
theorem dX8_remove_10 : decode cX8_remove 10 = .ok (.getfield 10, 3) := by decide +kernel
theorem dX8_remove_13 : decode cX8_remove 13 = .ok (.getfield 77, 3) := by decide +kernel
theorem dX8_remove_16 : decode cX8_remove 16 = .ok (.iload_n 1, 1) := by decide +kernel
theorem dX8_remove_17 : decode cX8_remove 17 = .ok (.invokevirtual 81, 3) := by decide +kernel
theorem dX8_remove_20 : decode cX8_remove 20 = .ok (.aload_n 0, 1) := by decide +kernel
theorem dX8_remove_21 : decode cX8_remove 21 = .ok (.getfield 10, 3) := by decide +kernel
theorem dX8_remove_24 : decode cX8_remove 24 = .ok (.getfield 86, 3) := by decide +kernel
theorem dX8_remove_27 : decode cX8_remove 27 = .ok (.iload_n 1, 1) := by decide +kernel
theorem dX8_remove_28 : decode cX8_remove 28 = .ok (.invokevirtual 90, 3) := by decide +kernel
theorem dX8_remove_31 : decode cX8_remove 31 = .ok (.aload_n 0, 1) := by decide +kernel
theorem dX8_remove_32 : decode cX8_remove 32 = .ok (.getfield 10, 3) := by decide +kernel
theorem dX8_remove_35 : decode cX8_remove 35 = .ok (.iload_n 1, 1) := by decide +kernel
theorem dX8_remove_36 : decode cX8_remove 36 = .ok (.invokevirtual 95, 3) := by decide +kernel
theorem dX8_remove_39 : decode cX8_remove 39 = .ok (.aload_n 0, 1) := by decide +kernel
theorem dX8_remove_40 : decode cX8_remove 40 = .ok (.getfield 23, 3) := by decide +kernel
theorem dX8_remove_43 : decode cX8_remove 43 = .ok (.aload_n 0, 1) := by decide +kernel
theorem dX8_remove_44 : decode cX8_remove 44 = .ok (.getfield 10, 3) := by decide +kernel
theorem dX8_remove_47 : decode cX8_remove 47 = .ok (.invokevirtual 98, 3) := by decide +kernel
theorem dX8_remove_50 : decode cX8_remove 50 = .ok (.aload_n 0, 1) := by decide +kernel
theorem dX8_remove_51 : decode cX8_remove 51 = .ok (.getfield 10, 3) := by decide +kernel
theorem dX8_remove_54 : decode cX8_remove 54 = .ok (.getfield 102, 3) := by decide +kernel
theorem dX8_remove_57 : decode cX8_remove 57 = .ok (.invokestatic 106, 3) := by decide +kernel
theorem dX8_remove_60 : decode cX8_remove 60 = .ok (.ireturn, 1) := by decide +kernel
abbrev rmX8_remove : Room := { frames := 8, cells := 1, slots := 6, locals := 213 }
theorem hdX8_remove : yX8_remove.cls ≠ "java/lang/invoke/MethodHandle" ∧ yX8_remove.cls ≠ "java/lang/invoke/VarHandle" ∧ (parseMethodDescriptor yX8_remove.desc).map (fun d => d.parameters.length) = some 1 := by decide +kernel
def fX8_remove (σ : Sg) (p1 : Int32) : Option ((Int32 ⊕ Nat) × Sg) :=
  (fX8_requirePane σ p1).bind fun r1 => xcat r1 (fun e3 => some (.inr e3, σ)) fun w2 =>
  (fX8_keepRecord σ).bind fun σ4 =>
  (fX1_withdraw σ4 (1 + 5) p1).bind fun σ5 =>
  (fX0_leave σ5 (1 + 3) p1).bind fun σ6 =>
  (fX4_dropPane σ6 1 p1).bind fun σ7 =>
  (fX2_compute σ7 422 1).bind fun σ8 =>
  (fJ6_bitCount_0f7a4 σ8 (σ8.1 1 0)).bind fun r9 =>
  some (.inl r9, σ8)
theorem kX8_remove (X : Xc) (σ : Sg) (p1 : Int32) (hfl : X.l.stackTraces = false) : ∀ r, fX8_remove σ p1 = some r → vx_Met X.l yX8_remove (wsM yX8_remove cX8_remove 2 (some .int)) rmX8_remove (va_Pc [.ref (X.ad 0), .int p1] (PW X σ)) (CXi X r.1 r.2) (CXx X r.1 r.2) 1 6 X.A := by
  refine xt_of (own := RX8) (lo := [some (.ref (X.ad 0)), some (.int (p1))]) (by decide) rfl (Nat.le_of_ble_eq_true rfl) rfl (fun K C hr hex => ?_)
  unfold fX8_remove
  refine g_aload_n (pc := 0) (i := 0) C dX8_remove_0 rfl rfl ?_
  refine g_iload_n (pc := 1) (i := 1) C dX8_remove_1 rfl rfl ?_
  refine g_xcallVv (pc := 2) (As := [.int (p1)]) C (kX8_requirePane X σ p1 hfl) ok_dl rfl q_11_7 q_11_8 q_11_9 q_1_2 q_11_10 ⟨rfl, hdX8_requirePane⟩ ⟨Nat.le_of_ble_eq_true rfl, Nat.le_of_ble_eq_true rfl, rfl, rfl, Nat.le_of_ble_eq_true rfl, Nat.le_of_ble_eq_true rfl⟩ (Nat.le_of_ble_eq_true rfl) rfl rfl dX8_remove_2 (fun r1 e3 _ _ => ?_) (fun r1 w2 _ _ => ?_)
  · exact gx_out C hex (Nat.le_of_ble_eq_true rfl) (Nat.le_of_ble_eq_true rfl) (fun t hP hF => ⟨(), trivial, ⟨⟨_, rfl, rfl⟩, hP⟩, hF⟩)
  refine g_aload_n (pc := 5) (i := 0) C dX8_remove_5 rfl rfl ?_
  refine g_callVv (pc := 6) (As := []) C (kX8_keepRecord X σ) ok_dl rfl q_7_21 q_7_22 q_7_23 q_1_2 q_8_0 ⟨rfl, hdX8_keepRecord⟩ ⟨Nat.le_of_ble_eq_true rfl, Nat.le_of_ble_eq_true rfl, rfl, rfl⟩ ⟨Nat.le_of_ble_eq_true rfl, Nat.le_of_ble_eq_true rfl⟩ (Nat.le_of_ble_eq_true rfl) rfl rfl dX8_remove_6 (fun σ4 _ => ?_)
  refine g_aload_n (pc := 9) (i := 0) C dX8_remove_9 rfl rfl ?_
  refine g_getr (pc := 10) (ci := 8) (N := 8) (T := TX8) (j := 0) (Cn := RX8) 1 C rfl inlX8 (Nat.le_of_ble_eq_true rfl) q_1_16 ok_dl rfl dX8_remove_10 ?_
  refine g_getNr (pc := 13) (ci := 4) (N := 7) (T := TX4) (j := 4) (Cn := RX4) (1 + 5) C rfl inlX4 (Nat.le_of_ble_eq_true rfl) (List.mem_of_getElem? (i := 10) rfl) (blk ok_now 0 rfl) rfl dX8_remove_13 ?_
  refine g_iload_n (pc := 16) (i := 1) C dX8_remove_16 rfl rfl ?_
  refine g_callVv (pc := 17) (As := [.int (p1)]) C (kX1_withdraw X σ4 (1 + 5) p1 (st_pl ok_now)) (blk (st_pl ok_now) 0 rfl) rfl q_11_14 q_11_15 q_11_16 q_2_23 q_11_17 ⟨rfl, hdX1_withdraw⟩ ⟨Nat.le_of_ble_eq_true rfl, Nat.le_of_ble_eq_true rfl, rfl, rfl⟩ ⟨Nat.le_of_ble_eq_true rfl, Nat.le_of_ble_eq_true rfl⟩ (Nat.le_of_ble_eq_true rfl) rfl rfl dX8_remove_17 (fun σ5 _ => ?_)
  refine g_aload_n (pc := 20) (i := 0) C dX8_remove_20 rfl rfl ?_
  refine g_getr (pc := 21) (ci := 8) (N := 8) (T := TX8) (j := 0) (Cn := RX8) 1 C rfl inlX8 (Nat.le_of_ble_eq_true rfl) q_1_16 ok_dl rfl dX8_remove_21 ?_
  refine g_getNr (pc := 24) (ci := 4) (N := 7) (T := TX4) (j := 3) (Cn := RX4) (1 + 3) C rfl inlX4 (Nat.le_of_ble_eq_true rfl) (List.mem_of_getElem? (i := 11) rfl) (blk ok_now 0 rfl) rfl dX8_remove_24 ?_
  refine g_iload_n (pc := 27) (i := 1) C dX8_remove_27 rfl rfl ?_
  refine g_callVv (pc := 28) (As := [.int (p1)]) C (kX0_leave X σ5 (1 + 3) p1 (st_or ok_now)) (blk (st_or ok_now) 0 rfl) rfl q_14_20 q_13_13 q_13_14 q_2_19 q_13_15 ⟨rfl, hdX0_leave⟩ ⟨Nat.le_of_ble_eq_true rfl, Nat.le_of_ble_eq_true rfl, rfl, rfl⟩ ⟨Nat.le_of_ble_eq_true rfl, Nat.le_of_ble_eq_true rfl⟩ (Nat.le_of_ble_eq_true rfl) rfl rfl dX8_remove_28 (fun σ6 _ => ?_)
  refine g_aload_n (pc := 31) (i := 0) C dX8_remove_31 rfl rfl ?_
  refine g_getr (pc := 32) (ci := 8) (N := 8) (T := TX8) (j := 0) (Cn := RX8) 1 C rfl inlX8 (Nat.le_of_ble_eq_true rfl) q_1_16 ok_dl rfl dX8_remove_32 ?_
  refine g_iload_n (pc := 35) (i := 1) C dX8_remove_35 rfl rfl ?_
  refine g_callVv (pc := 36) (As := [.int (p1)]) C (kX4_dropPane X σ6 1 p1 ok_now) (blk ok_now 0 rfl) rfl q_14_21 q_14_22 q_14_23 q_1_15 q_15_0 ⟨rfl, hdX4_dropPane⟩ ⟨Nat.le_of_ble_eq_true rfl, Nat.le_of_ble_eq_true rfl, rfl, rfl⟩ ⟨Nat.le_of_ble_eq_true rfl, Nat.le_of_ble_eq_true rfl⟩ (Nat.le_of_ble_eq_true rfl) rfl rfl dX8_remove_36 (fun σ7 _ => ?_)
  refine g_aload_n (pc := 39) (i := 0) C dX8_remove_39 rfl rfl ?_
  refine g_getr (pc := 40) (ci := 8) (N := 8) (T := TX8) (j := 4) (Cn := RX8) 422 C rfl inlX8 (Nat.le_of_ble_eq_true rfl) q_1_21 ok_dl rfl dX8_remove_40 ?_
  refine g_aload_n (pc := 43) (i := 0) C dX8_remove_43 rfl rfl ?_
  refine g_getr (pc := 44) (ci := 8) (N := 8) (T := TX8) (j := 0) (Cn := RX8) 1 C rfl inlX8 (Nat.le_of_ble_eq_true rfl) q_1_16 ok_dl rfl dX8_remove_44 ?_
  refine g_callVv (pc := 47) (As := [.ref (X.ad 1)]) C (kX2_compute X σ7 422 1 ok_pn ok_now) (blk ok_pn 0 rfl) rfl q_15_1 q_15_2 q_15_3 q_1_20 q_15_4 ⟨rfl, hdX2_compute⟩ ⟨Nat.le_of_ble_eq_true rfl, Nat.le_of_ble_eq_true rfl, rfl, rfl⟩ ⟨Nat.le_of_ble_eq_true rfl, Nat.le_of_ble_eq_true rfl⟩ (Nat.le_of_ble_eq_true rfl) rfl rfl dX8_remove_47 (fun σ8 _ => ?_)
  refine g_aload_n (pc := 50) (i := 0) C dX8_remove_50 rfl rfl ?_
  refine g_getr (pc := 51) (ci := 8) (N := 8) (T := TX8) (j := 0) (Cn := RX8) 1 C rfl inlX8 (Nat.le_of_ble_eq_true rfl) q_1_16 ok_dl rfl dX8_remove_51 ?_
  refine g_getNi (pc := 54) (ci := 4) (N := 7) (T := TX4) (j := 0) (Cn := RX4) C rfl inlX4 (Nat.le_of_ble_eq_true rfl) (List.mem_of_getElem? (i := 12) rfl) (blk ok_now 0 rfl) rfl dX8_remove_54 ?_
  refine g_callSi (pc := 57) (As := [.int (σ8.1 1 0)]) C (kJ6_bitCount_0f7a4 X σ8 (σ8.1 1 0)) q_19_5 q_19_6 q_19_7 q_19_8 hdJ6_bitCount_0f7a4 ⟨Nat.le_of_ble_eq_true rfl, Nat.le_of_ble_eq_true rfl, rfl, rfl⟩ ⟨Nat.le_of_ble_eq_true rfl, Nat.le_of_ble_eq_true rfl⟩ (Nat.le_of_ble_eq_true rfl) rfl rfl dX8_remove_57 (fun r9 _ => ?_)
  exact g_xiret (pc := 60) C hr dX8_remove_60 (Nat.le_of_ble_eq_true rfl) (Nat.le_of_ble_eq_true rfl) (fun t hP hF => ⟨⟨_, (), rfl, rfl, hP⟩, hF⟩)
theorem dX8_setMinimum_0 : decode cX8_setMinimum 0 = .ok (.aload_n 0, 1) := by decide +kernel
theorem dX8_setMinimum_1 : decode cX8_setMinimum 1 = .ok (.iload_n 1, 1) := by decide +kernel
theorem dX8_setMinimum_2 : decode cX8_setMinimum 2 = .ok (.invokevirtual 74, 3) := by decide +kernel
theorem dX8_setMinimum_5 : decode cX8_setMinimum 5 = .ok (.iload_n 2, 1) := by decide +kernel
theorem dX8_setMinimum_6 : decode cX8_setMinimum 6 = .ok (.iload_n 3, 1) := by decide +kernel
theorem dX8_setMinimum_7 : decode cX8_setMinimum 7 = .ok (.invokestatic 48, 3) := by decide +kernel
theorem dX8_setMinimum_10 : decode cX8_setMinimum 10 = .ok (.aload_n 0, 1) := by decide +kernel
theorem dX8_setMinimum_11 : decode cX8_setMinimum 11 = .ok (.invokevirtual 63, 3) := by decide +kernel
theorem dX8_setMinimum_14 : decode cX8_setMinimum 14 = .ok (.bipush 100, 2) := by decide +kernel
theorem dX8_setMinimum_16 : decode cX8_setMinimum 16 = .ok (.aload_n 0, 1) := by decide +kernel
theorem dX8_setMinimum_17 : decode cX8_setMinimum 17 = .ok (.getfield 10, 3) := by decide +kernel
theorem dX8_setMinimum_20 : decode cX8_setMinimum 20 = .ok (.getfield 112, 3) := by decide +kernel
theorem dX8_setMinimum_23 : decode cX8_setMinimum 23 = .ok (.iload_n 1, 1) := by decide +kernel
theorem dX8_setMinimum_24 : decode cX8_setMinimum 24 = .ok (.invokestatic 116, 3) := by decide +kernel
theorem dX8_setMinimum_27 : decode cX8_setMinimum 27 = .ok (.imul, 1) := by decide +kernel
theorem dX8_setMinimum_28 : decode cX8_setMinimum 28 = .ok (.aload_n 0, 1) := by decide +kernel
theorem dX8_setMinimum_29 : decode cX8_setMinimum 29 = .ok (.getfield 10, 3) := by decide +kernel
theorem dX8_setMinimum_32 : decode cX8_setMinimum 32 = .ok (.getfield 120, 3) := by decide +kernel
theorem dX8_setMinimum_35 : decode cX8_setMinimum 35 = .ok (.iload_n 1, 1) := by decide +kernel
theorem dX8_setMinimum_36 : decode cX8_setMinimum 36 = .ok (.invokestatic 116, 3) := by decide +kernel
theorem dX8_setMinimum_39 : decode cX8_setMinimum 39 = .ok (.iadd, 1) := by decide +kernel
theorem dX8_setMinimum_40 : decode cX8_setMinimum 40 = .ok (.istore 4, 2) := by decide +kernel
theorem dX8_setMinimum_42 : decode cX8_setMinimum 42 = .ok (.aload_n 0, 1) := by decide +kernel
theorem dX8_setMinimum_43 : decode cX8_setMinimum 43 = .ok (.getfield 10, 3) := by decide +kernel
theorem dX8_setMinimum_46 : decode cX8_setMinimum 46 = .ok (.iload_n 1, 1) := by decide +kernel
theorem dX8_setMinimum_47 : decode cX8_setMinimum 47 = .ok (.iload_n 2, 1) := by decide +kernel
theorem dX8_setMinimum_48 : decode cX8_setMinimum 48 = .ok (.iload_n 3, 1) := by decide +kernel
theorem dX8_setMinimum_49 : decode cX8_setMinimum 49 = .ok (.invokevirtual 70, 3) := by decide +kernel
theorem dX8_setMinimum_52 : decode cX8_setMinimum 52 = .ok (.aload_n 0, 1) := by decide +kernel
theorem dX8_setMinimum_53 : decode cX8_setMinimum 53 = .ok (.getfield 23, 3) := by decide +kernel
theorem dX8_setMinimum_56 : decode cX8_setMinimum 56 = .ok (.aload_n 0, 1) := by decide +kernel
theorem dX8_setMinimum_57 : decode cX8_setMinimum 57 = .ok (.getfield 10, 3) := by decide +kernel
theorem dX8_setMinimum_60 : decode cX8_setMinimum 60 = .ok (.invokevirtual 98, 3) := by decide +kernel
theorem dX8_setMinimum_63 : decode cX8_setMinimum 63 = .ok (.iload 4, 2) := by decide +kernel
theorem dX8_setMinimum_65 : decode cX8_setMinimum 65 = .ok (.ireturn, 1) := by decide +kernel
abbrev rmX8_setMinimum : Room := { frames := 9, cells := 3, slots := 18, locals := 213 }
theorem hdX8_setMinimum : yX8_setMinimum.cls ≠ "java/lang/invoke/MethodHandle" ∧ yX8_setMinimum.cls ≠ "java/lang/invoke/VarHandle" ∧ (parseMethodDescriptor yX8_setMinimum.desc).map (fun d => d.parameters.length) = some 3 := by decide +kernel
def fX8_setMinimum (σ : Sg) (p1 : Int32) (p2 : Int32) (p3 : Int32) : Option ((Int32 ⊕ Nat) × Sg) :=
  (fX8_requirePane σ p1).bind fun r1 => xcat r1 (fun e3 => some (.inr e3, σ)) fun w2 =>
  (fX8_requireMinimum σ p2 p3).bind fun r4 => xcat r4 (fun e6 => some (.inr e6, σ)) fun w5 =>
  (fX8_keepRecord σ).bind fun σ7 =>
  (fX8_at σ7 (1 + 1) 12 p1).bind fun r8 =>
  (fX8_at σ7 (1 + 2) 12 p1).bind fun r9 =>
  nm ((100 * r8) + r9) fun v10 =>
  (fX4_setMinimums σ7 1 p1 p2 p3).bind fun σ11 =>
  (fX2_compute σ11 422 1).bind fun σ12 =>
  some (.inl v10, σ12)
theorem kX8_setMinimum (X : Xc) (σ : Sg) (p1 : Int32) (p2 : Int32) (p3 : Int32) (hfl : X.l.stackTraces = false) : ∀ r, fX8_setMinimum σ p1 p2 p3 = some r → vx_Met X.l yX8_setMinimum (wsM yX8_setMinimum cX8_setMinimum 5 (some .int)) rmX8_setMinimum (va_Pc [.ref (X.ad 0), .int p1, .int p2, .int p3] (PW X σ)) (CXi X r.1 r.2) (CXx X r.1 r.2) 3 18 X.A := by
  refine xt_of (own := RX8) (lo := [some (.ref (X.ad 0)), some (.int (p1)), some (.int (p2)), some (.int (p3)), none]) (by decide) rfl (Nat.le_of_ble_eq_true rfl) rfl (fun K C hr hex => ?_)
  unfold fX8_setMinimum
  refine g_aload_n (pc := 0) (i := 0) C dX8_setMinimum_0 rfl rfl ?_
  refine g_iload_n (pc := 1) (i := 1) C dX8_setMinimum_1 rfl rfl ?_
  refine g_xcallVv (pc := 2) (As := [.int (p1)]) C (kX8_requirePane X σ p1 hfl) ok_dl rfl q_11_7 q_11_8 q_11_9 q_1_2 q_11_10 ⟨rfl, hdX8_requirePane⟩ ⟨Nat.le_of_ble_eq_true rfl, Nat.le_of_ble_eq_true rfl, rfl, rfl, Nat.le_of_ble_eq_true rfl, Nat.le_of_ble_eq_true rfl⟩ (Nat.le_of_ble_eq_true rfl) rfl rfl dX8_setMinimum_2 (fun r1 e3 _ _ => ?_) (fun r1 w2 _ _ => ?_)
  · exact gx_out C hex (Nat.le_of_ble_eq_true rfl) (Nat.le_of_ble_eq_true rfl) (fun t hP hF => ⟨(), trivial, ⟨⟨_, rfl, rfl⟩, hP⟩, hF⟩)
  refine g_iload_n (pc := 5) (i := 2) C dX8_setMinimum_5 rfl rfl ?_
  refine g_iload_n (pc := 6) (i := 3) C dX8_setMinimum_6 rfl rfl ?_
  refine g_xcallSv (pc := 7) (As := [.int (p2), .int (p3)]) C (kX8_requireMinimum X σ p2 p3 hfl) q_7_4 q_7_5 q_1_2 q_7_6 hdX8_requireMinimum ⟨Nat.le_of_ble_eq_true rfl, Nat.le_of_ble_eq_true rfl, rfl, rfl, Nat.le_of_ble_eq_true rfl, Nat.le_of_ble_eq_true rfl⟩ (Nat.le_of_ble_eq_true rfl) rfl rfl dX8_setMinimum_7 (fun r4 e6 _ _ => ?_) (fun r4 w5 _ _ => ?_)
  · exact gx_out C hex (Nat.le_of_ble_eq_true rfl) (Nat.le_of_ble_eq_true rfl) (fun t hP hF => ⟨(), trivial, ⟨⟨_, rfl, rfl⟩, hP⟩, hF⟩)
  refine g_aload_n (pc := 10) (i := 0) C dX8_setMinimum_10 rfl rfl ?_
  refine g_callVv (pc := 11) (As := []) C (kX8_keepRecord X σ) ok_dl rfl q_7_21 q_7_22 q_7_23 q_1_2 q_8_0 ⟨rfl, hdX8_keepRecord⟩ ⟨Nat.le_of_ble_eq_true rfl, Nat.le_of_ble_eq_true rfl, rfl, rfl⟩ ⟨Nat.le_of_ble_eq_true rfl, Nat.le_of_ble_eq_true rfl⟩ (Nat.le_of_ble_eq_true rfl) rfl rfl dX8_setMinimum_11 (fun σ7 _ => ?_)
  refine g_bipush (pc := 14) (v := 100) C dX8_setMinimum_14 (by decide) ?_
  refine g_aload_n (pc := 16) (i := 0) C dX8_setMinimum_16 rfl rfl ?_
  refine g_getr (pc := 17) (ci := 8) (N := 8) (T := TX8) (j := 0) (Cn := RX8) 1 C rfl inlX8 (Nat.le_of_ble_eq_true rfl) q_1_16 ok_dl rfl dX8_setMinimum_17 ?_
  refine g_getNr (pc := 20) (ci := 4) (N := 7) (T := TX4) (j := 1) (Cn := RX4) (1 + 1) C rfl inlX4 (Nat.le_of_ble_eq_true rfl) (List.mem_of_getElem? (i := 13) rfl) (blk ok_now 0 rfl) rfl dX8_setMinimum_20 ?_
  refine g_iload_n (pc := 23) (i := 1) C dX8_setMinimum_23 rfl rfl ?_
  refine g_callSi (pc := 24) (As := [.ref (X.ad (1 + 1)), .int (p1)]) C (kX8_at X σ7 (1 + 1) 12 p1 (blk ok_now 1 rfl)) q_23_22 q_11_22 q_1_2 q_11_23 hdX8_at ⟨Nat.le_of_ble_eq_true rfl, Nat.le_of_ble_eq_true rfl, rfl, rfl⟩ ⟨Nat.le_of_ble_eq_true rfl, Nat.le_of_ble_eq_true rfl⟩ (Nat.le_of_ble_eq_true rfl) rfl rfl dX8_setMinimum_24 (fun r8 _ => ?_)
  refine g_imul (pc := 27) C dX8_setMinimum_27 ?_
  refine g_aload_n (pc := 28) (i := 0) C dX8_setMinimum_28 rfl rfl ?_
  refine g_getr (pc := 29) (ci := 8) (N := 8) (T := TX8) (j := 0) (Cn := RX8) 1 C rfl inlX8 (Nat.le_of_ble_eq_true rfl) q_1_16 ok_dl rfl dX8_setMinimum_29 ?_
  refine g_getNr (pc := 32) (ci := 4) (N := 7) (T := TX4) (j := 2) (Cn := RX4) (1 + 2) C rfl inlX4 (Nat.le_of_ble_eq_true rfl) (List.mem_of_getElem? (i := 14) rfl) (blk ok_now 0 rfl) rfl dX8_setMinimum_32 ?_
  refine g_iload_n (pc := 35) (i := 1) C dX8_setMinimum_35 rfl rfl ?_
  refine g_callSi (pc := 36) (As := [.ref (X.ad (1 + 2)), .int (p1)]) C (kX8_at X σ7 (1 + 2) 12 p1 (blk ok_now 2 rfl)) q_23_22 q_11_22 q_1_2 q_11_23 hdX8_at ⟨Nat.le_of_ble_eq_true rfl, Nat.le_of_ble_eq_true rfl, rfl, rfl⟩ ⟨Nat.le_of_ble_eq_true rfl, Nat.le_of_ble_eq_true rfl⟩ (Nat.le_of_ble_eq_true rfl) rfl rfl dX8_setMinimum_36 (fun r9 _ => ?_)
  refine g_iadd (pc := 39) C dX8_setMinimum_39 ?_
  refine g_nm (fun v10 => ?_)
  refine g_istore (pc := 40) C dX8_setMinimum_40 (Nat.le_of_ble_eq_true rfl) rfl ?_
  refine g_aload_n (pc := 42) (i := 0) C dX8_setMinimum_42 rfl rfl ?_
  refine g_getr (pc := 43) (ci := 8) (N := 8) (T := TX8) (j := 0) (Cn := RX8) 1 C rfl inlX8 (Nat.le_of_ble_eq_true rfl) q_1_16 ok_dl rfl dX8_setMinimum_43 ?_
  refine g_iload_n (pc := 46) (i := 1) C dX8_setMinimum_46 rfl rfl ?_
  refine g_iload_n (pc := 47) (i := 2) C dX8_setMinimum_47 rfl rfl ?_
  refine g_iload_n (pc := 48) (i := 3) C dX8_setMinimum_48 rfl rfl ?_
  refine g_callVv (pc := 49) (As := [.int (p1), .int (p2), .int (p3)]) C (kX4_setMinimums X σ7 1 p1 p2 p3 ok_now) (blk ok_now 0 rfl) rfl q_9_16 q_9_17 q_9_18 q_1_15 q_9_19 ⟨rfl, hdX4_setMinimums⟩ ⟨Nat.le_of_ble_eq_true rfl, Nat.le_of_ble_eq_true rfl, rfl, rfl⟩ ⟨Nat.le_of_ble_eq_true rfl, Nat.le_of_ble_eq_true rfl⟩ (Nat.le_of_ble_eq_true rfl) rfl rfl dX8_setMinimum_49 (fun σ11 _ => ?_)
  refine g_aload_n (pc := 52) (i := 0) C dX8_setMinimum_52 rfl rfl ?_
  refine g_getr (pc := 53) (ci := 8) (N := 8) (T := TX8) (j := 4) (Cn := RX8) 422 C rfl inlX8 (Nat.le_of_ble_eq_true rfl) q_1_21 ok_dl rfl dX8_setMinimum_53 ?_
  refine g_aload_n (pc := 56) (i := 0) C dX8_setMinimum_56 rfl rfl ?_
  refine g_getr (pc := 57) (ci := 8) (N := 8) (T := TX8) (j := 0) (Cn := RX8) 1 C rfl inlX8 (Nat.le_of_ble_eq_true rfl) q_1_16 ok_dl rfl dX8_setMinimum_57 ?_
  refine g_callVv (pc := 60) (As := [.ref (X.ad 1)]) C (kX2_compute X σ11 422 1 ok_pn ok_now) (blk ok_pn 0 rfl) rfl q_15_1 q_15_2 q_15_3 q_1_20 q_15_4 ⟨rfl, hdX2_compute⟩ ⟨Nat.le_of_ble_eq_true rfl, Nat.le_of_ble_eq_true rfl, rfl, rfl⟩ ⟨Nat.le_of_ble_eq_true rfl, Nat.le_of_ble_eq_true rfl⟩ (Nat.le_of_ble_eq_true rfl) rfl rfl dX8_setMinimum_60 (fun σ12 _ => ?_)
  refine g_iload (pc := 63) C dX8_setMinimum_63 rfl ?_
  exact g_xiret (pc := 65) C hr dX8_setMinimum_65 (Nat.le_of_ble_eq_true rfl) (Nat.le_of_ble_eq_true rfl) (fun t hP hF => ⟨⟨_, (), rfl, rfl, hP⟩, hF⟩)
theorem dX8_panes_0 : decode cX8_panes 0 = .ok (.aload_n 0, 1) := by decide +kernel
theorem dX8_panes_1 : decode cX8_panes 1 = .ok (.getfield 10, 3) := by decide +kernel
theorem dX8_panes_4 : decode cX8_panes 4 = .ok (.getfield 102, 3) := by decide +kernel
theorem dX8_panes_7 : decode cX8_panes 7 = .ok (.ireturn, 1) := by decide +kernel
abbrev rmX8_panes : Room := { frames := 0, cells := 0, slots := 0, locals := 0 }
theorem hdX8_panes : yX8_panes.cls ≠ "java/lang/invoke/MethodHandle" ∧ yX8_panes.cls ≠ "java/lang/invoke/VarHandle" ∧ (parseMethodDescriptor yX8_panes.desc).map (fun d => d.parameters.length) = some 0 := by decide +kernel
def fX8_panes (σ : Sg) : Option Int32 :=
  some (σ.1 1 0)
theorem kX8_panes (X : Xc) (σ : Sg) : ∀ r, fX8_panes σ = some r → Met X.l yX8_panes (wsM yX8_panes cX8_panes 1 (some .int)) rmX8_panes (va_Pc [.ref (X.ad 0)] (PW X σ)) (Qi X r σ) 0 0 X.A := by
  refine mt_of (own := RX8) (lo := [some (.ref (X.ad 0))]) (by decide) rfl (Nat.le_of_ble_eq_true rfl) rfl (fun K C hr => ?_)
  unfold fX8_panes
  refine g_aload_n (pc := 0) (i := 0) C dX8_panes_0 rfl rfl ?_
  refine g_getr (pc := 1) (ci := 8) (N := 8) (T := TX8) (j := 0) (Cn := RX8) 1 C rfl inlX8 (Nat.le_of_ble_eq_true rfl) q_1_16 ok_dl rfl dX8_panes_1 ?_
  refine g_getNi (pc := 4) (ci := 4) (N := 7) (T := TX4) (j := 0) (Cn := RX4) C rfl inlX4 (Nat.le_of_ble_eq_true rfl) (List.mem_of_getElem? (i := 12) rfl) (blk ok_now 0 rfl) rfl dX8_panes_4 ?_
  exact g_iret (pc := 7) C hr dX8_panes_7 rfl
theorem dX8_pane_0 : decode cX8_pane 0 = .ok (.aload_n 0, 1) := by decide +kernel
theorem dX8_pane_1 : decode cX8_pane 1 = .ok (.iload_n 1, 1) := by decide +kernel
theorem dX8_pane_2 : decode cX8_pane 2 = .ok (.invokevirtual 74, 3) := by decide +kernel
theorem dX8_pane_5 : decode cX8_pane 5 = .ok (.iload_n 2, 1) := by decide +kernel
theorem dX8_pane_6 : decode cX8_pane 6 = .ok (.iconst 0, 1) := by decide +kernel
theorem dX8_pane_7 : decode cX8_pane 7 = .ok (.bipush 8, 2) := by decide +kernel
theorem dX8_pane_9 : decode cX8_pane 9 = .ok (.invokestatic 123, 3) := by decide +kernel
theorem dX8_pane_12 : decode cX8_pane 12 = .ok (.aload_n 0, 1) := by decide +kernel
theorem dX8_pane_13 : decode cX8_pane 13 = .ok (.getfield 10, 3) := by decide +kernel
theorem dX8_pane_16 : decode cX8_pane 16 = .ok (.getfield 77, 3) := by decide +kernel
theorem dX8_pane_19 : decode cX8_pane 19 = .ok (.astore_n 3, 1) := by decide +kernel
theorem dX8_pane_20 : decode cX8_pane 20 = .ok (.aload_n 3, 1) := by decide +kernel
theorem dX8_pane_21 : decode cX8_pane 21 = .ok (.iload_n 1, 1) := by decide +kernel
theorem dX8_pane_22 : decode cX8_pane 22 = .ok (.invokevirtual 126, 3) := by decide +kernel
theorem dX8_pane_25 : decode cX8_pane 25 = .ok (.istore 4, 2) := by decide +kernel
theorem dX8_pane_27 : decode cX8_pane 27 = .ok (.iload_n 2, 1) := by decide +kernel
theorem dX8_pane_28 : decode cX8_pane 28 = .ok (.tableswitch 159 0 7 #[48, 60, 72, 79, 93, 115, 121, 138], 48) := by decide +kernel
theorem dX8_pane_76 : decode cX8_pane 76 = .ok (.aload_n 0, 1) := by decide +kernel
theorem dX8_pane_77 : decode cX8_pane 77 = .ok (.getfield 10, 3) := by decide +kernel
theorem dX8_pane_80 : decode cX8_pane 80 = .ok (.getfield 112, 3) := by decide +kernel
theorem dX8_pane_83 : decode cX8_pane 83 = .ok (.iload_n 1, 1) := by decide +kernel
theorem dX8_pane_84 : decode cX8_pane 84 = .ok (.invokestatic 116, 3) := by decide +kernel
theorem dX8_pane_87 : decode cX8_pane 87 = .ok (.ireturn, 1) := by decide +kernel
theorem dX8_pane_88 : decode cX8_pane 88 = .ok (.aload_n 0, 1) := by decide +kernel
theorem dX8_pane_89 : decode cX8_pane 89 = .ok (.getfield 10, 3) := by decide +kernel
theorem dX8_pane_92 : decode cX8_pane 92 = .ok (.getfield 120, 3) := by decide +kernel
theorem dX8_pane_95 : decode cX8_pane 95 = .ok (.iload_n 1, 1) := by decide +kernel
theorem dX8_pane_96 : decode cX8_pane 96 = .ok (.invokestatic 116, 3) := by decide +kernel
theorem dX8_pane_99 : decode cX8_pane 99 = .ok (.ireturn, 1) := by decide +kernel
theorem dX8_pane_100 : decode cX8_pane 100 = .ok (.aload_n 3, 1) := by decide +kernel
theorem dX8_pane_101 : decode cX8_pane 101 = .ok (.iload 4, 2) := by decide +kernel
theorem dX8_pane_103 : decode cX8_pane 103 = .ok (.invokevirtual 129, 3) := by decide +kernel
theorem dX8_pane_106 : decode cX8_pane 106 = .ok (.ireturn, 1) := by decide +kernel
theorem dX8_pane_107 : decode cX8_pane 107 = .ok (.aload_n 3, 1) := by decide +kernel
theorem dX8_pane_108 : decode cX8_pane 108 = .ok (.iload_n 1, 1) := by decide +kernel
theorem dX8_pane_109 : decode cX8_pane 109 = .ok (.invokevirtual 132, 3) := by decide +kernel
theorem dX8_pane_112 : decode cX8_pane 112 = .ok (.ifCond .eq 7, 3) := by decide +kernel
theorem dX8_pane_115 : decode cX8_pane 115 = .ok (.iconst 1, 1) := by decide +kernel
theorem dX8_pane_116 : decode cX8_pane 116 = .ok (.goto 4, 3) := by decide +kernel
theorem dX8_pane_119 : decode cX8_pane 119 = .ok (.iconst 0, 1) := by decide +kernel
theorem dX8_pane_120 : decode cX8_pane 120 = .ok (.ireturn, 1) := by decide +kernel
theorem dX8_pane_121 : decode cX8_pane 121 = .ok (.iload 4, 2) := by decide +kernel
theorem dX8_pane_123 : decode cX8_pane 123 = .ok (.iconst (-1), 1) := by decide +kernel
theorem dX8_pane_124 : decode cX8_pane 124 = .ok (.if_icmp .eq 17, 3) := by decide +kernel
theorem dX8_pane_127 : decode cX8_pane 127 = .ok (.aload_n 3, 1) := by decide +kernel
theorem dX8_pane_128 : decode cX8_pane 128 = .ok (.iload 4, 2) := by decide +kernel
theorem dX8_pane_130 : decode cX8_pane 130 = .ok (.invokevirtual 136, 3) := by decide +kernel
theorem dX8_pane_133 : decode cX8_pane 133 = .ok (.iload_n 1, 1) := by decide +kernel
theorem dX8_pane_134 : decode cX8_pane 134 = .ok (.if_icmp .ne 7, 3) := by decide +kernel
theorem dX8_pane_137 : decode cX8_pane 137 = .ok (.iconst 1, 1) := by decide +kernel
theorem dX8_pane_138 : decode cX8_pane 138 = .ok (.goto 4, 3) := by decide +kernel
theorem dX8_pane_141 : decode cX8_pane 141 = .ok (.iconst 0, 1) := by decide +kernel
theorem dX8_pane_142 : decode cX8_pane 142 = .ok (.ireturn, 1) := by decide +kernel
theorem dX8_pane_143 : decode cX8_pane 143 = .ok (.aload_n 3, 1) := by decide +kernel
theorem dX8_pane_144 : decode cX8_pane 144 = .ok (.iload_n 1, 1) := by decide +kernel
theorem dX8_pane_145 : decode cX8_pane 145 = .ok (.invokevirtual 139, 3) := by decide +kernel
theorem dX8_pane_148 : decode cX8_pane 148 = .ok (.ireturn, 1) := by decide +kernel
theorem dX8_pane_149 : decode cX8_pane 149 = .ok (.iload 4, 2) := by decide +kernel
theorem dX8_pane_151 : decode cX8_pane 151 = .ok (.iconst (-1), 1) := by decide +kernel
theorem dX8_pane_152 : decode cX8_pane 152 = .ok (.if_icmp .ne 7, 3) := by decide +kernel
theorem dX8_pane_155 : decode cX8_pane 155 = .ok (.iconst (-1), 1) := by decide +kernel
theorem dX8_pane_156 : decode cX8_pane 156 = .ok (.goto 9, 3) := by decide +kernel
theorem dX8_pane_159 : decode cX8_pane 159 = .ok (.aload_n 3, 1) := by decide +kernel
theorem dX8_pane_160 : decode cX8_pane 160 = .ok (.iload 4, 2) := by decide +kernel
theorem dX8_pane_162 : decode cX8_pane 162 = .ok (.invokevirtual 142, 3) := by decide +kernel
theorem dX8_pane_165 : decode cX8_pane 165 = .ok (.ireturn, 1) := by decide +kernel
theorem dX8_pane_166 : decode cX8_pane 166 = .ok (.aload_n 3, 1) := by decide +kernel
theorem dX8_pane_167 : decode cX8_pane 167 = .ok (.iload 4, 2) := by decide +kernel
theorem dX8_pane_169 : decode cX8_pane 169 = .ok (.invokevirtual 145, 3) := by decide +kernel
theorem dX8_pane_172 : decode cX8_pane 172 = .ok (.iconst (-1), 1) := by decide +kernel
theorem dX8_pane_173 : decode cX8_pane 173 = .ok (.if_icmp .ne 7, 3) := by decide +kernel
theorem dX8_pane_176 : decode cX8_pane 176 = .ok (.iconst (-1), 1) := by decide +kernel
theorem dX8_pane_177 : decode cX8_pane 177 = .ok (.goto 9, 3) := by decide +kernel
theorem dX8_pane_180 : decode cX8_pane 180 = .ok (.aload_n 3, 1) := by decide +kernel
theorem dX8_pane_181 : decode cX8_pane 181 = .ok (.iload 4, 2) := by decide +kernel
theorem dX8_pane_183 : decode cX8_pane 183 = .ok (.invokevirtual 148, 3) := by decide +kernel
theorem dX8_pane_186 : decode cX8_pane 186 = .ok (.ireturn, 1) := by decide +kernel
theorem dX8_pane_187 : decode cX8_pane 187 = .ok (.aload_n 3, 1) := by decide +kernel
theorem dX8_pane_188 : decode cX8_pane 188 = .ok (.iload 4, 2) := by decide +kernel
theorem dX8_pane_190 : decode cX8_pane 190 = .ok (.invokevirtual 145, 3) := by decide +kernel
theorem dX8_pane_193 : decode cX8_pane 193 = .ok (.iconst (-1), 1) := by decide +kernel
theorem dX8_pane_194 : decode cX8_pane 194 = .ok (.if_icmp .ne 7, 3) := by decide +kernel
theorem dX8_pane_197 : decode cX8_pane 197 = .ok (.iconst (-1), 1) := by decide +kernel
theorem dX8_pane_198 : decode cX8_pane 198 = .ok (.goto 13, 3) := by decide +kernel
theorem dX8_pane_201 : decode cX8_pane 201 = .ok (.aload_n 3, 1) := by decide +kernel
theorem dX8_pane_202 : decode cX8_pane 202 = .ok (.aload_n 3, 1) := by decide +kernel
theorem dX8_pane_203 : decode cX8_pane 203 = .ok (.iload 4, 2) := by decide +kernel
theorem dX8_pane_205 : decode cX8_pane 205 = .ok (.invokevirtual 145, 3) := by decide +kernel
theorem dX8_pane_208 : decode cX8_pane 208 = .ok (.invokevirtual 151, 3) := by decide +kernel
theorem dX8_pane_211 : decode cX8_pane 211 = .ok (.ireturn, 1) := by decide +kernel
abbrev rmX8_pane : Room := { frames := 8, cells := 2, slots := 12, locals := 132 }
theorem hdX8_pane : yX8_pane.cls ≠ "java/lang/invoke/MethodHandle" ∧ yX8_pane.cls ≠ "java/lang/invoke/VarHandle" ∧ (parseMethodDescriptor yX8_pane.desc).map (fun d => d.parameters.length) = some 2 := by decide +kernel
def fX8_pane (σ : Sg) (p1 : Int32) (p2 : Int32) : Option (Int32 ⊕ Nat) :=
  (fX8_requirePane σ p1).bind fun r1 => xcat r1 (fun e3 => some (.inr e3)) fun w2 =>
  (fX8_requireRange σ p2 0 8).bind fun r4 => xcat r4 (fun e6 => some (.inr e6)) fun w5 =>
  (fX1_groupOf σ (1 + 5) p1).bind fun r7 =>
  if p2 = 0 then
    (fX8_at σ (1 + 1) 12 p1).bind fun r8 =>
    some (.inl r8)
  else if p2 = 1 then
    (fX8_at σ (1 + 2) 12 p1).bind fun r9 =>
    some (.inl r9)
  else if p2 = 2 then
    (fX1_windowOf σ (1 + 5) r7).bind fun r10 =>
    some (.inl r10)
  else if p2 = 3 then
    (fX1_isHidden σ (1 + 5) p1).bind fun r11 =>
    if r11 = true then
      some (.inl 1)
    else
      some (.inl 0)
  else if p2 = 4 then
    if r7 = (-1) then
      some (.inl 0)
    else
      (fX1_activeOf σ (1 + 5) r7).bind fun r12 =>
      if r12 = p1 then
        some (.inl 1)
      else
        some (.inl 0)
  else if p2 = 5 then
    (fX1_spotOf σ (1 + 5) p1).bind fun r13 =>
    some (.inl r13)
  else if p2 = 6 then
    if r7 = (-1) then
      some (.inl (-1))
    else
      (fX1_tabCount σ (1 + 5) r7).bind fun r14 =>
      some (.inl r14)
  else if p2 = 7 then
    (fX1_parentOf σ (1 + 5) r7).bind fun r15 =>
    if r15 = (-1) then
      some (.inl (-1))
    else
      (fX1_weightOf σ (1 + 5) r7).bind fun r16 =>
      some (.inl r16)
  else 
    (fX1_parentOf σ (1 + 5) r7).bind fun r17 =>
    if r17 = (-1) then
      some (.inl (-1))
    else
      (fX1_parentOf σ (1 + 5) r7).bind fun r18 =>
      (fX1_kindOf σ (1 + 5) r18).bind fun r19 =>
      some (.inl r19)
theorem kX8_pane (X : Xc) (σ : Sg) (p1 : Int32) (p2 : Int32) (hfl : X.l.stackTraces = false) : ∀ r, fX8_pane σ p1 p2 = some r → vx_Met X.l yX8_pane (wsM yX8_pane cX8_pane 5 (some .int)) rmX8_pane (va_Pc [.ref (X.ad 0), .int p1, .int p2] (PW X σ)) (CXi X r σ) (CXx X r σ) 2 12 X.A := by
  refine xt_of (own := RX8) (lo := [some (.ref (X.ad 0)), some (.int (p1)), some (.int (p2)), none, none]) (by decide) rfl (Nat.le_of_ble_eq_true rfl) rfl (fun K C hr hex => ?_)
  unfold fX8_pane
  refine g_aload_n (pc := 0) (i := 0) C dX8_pane_0 rfl rfl ?_
  refine g_iload_n (pc := 1) (i := 1) C dX8_pane_1 rfl rfl ?_
  refine g_xcallVv (pc := 2) (As := [.int (p1)]) C (kX8_requirePane X σ p1 hfl) ok_dl rfl q_11_7 q_11_8 q_11_9 q_1_2 q_11_10 ⟨rfl, hdX8_requirePane⟩ ⟨Nat.le_of_ble_eq_true rfl, Nat.le_of_ble_eq_true rfl, rfl, rfl, Nat.le_of_ble_eq_true rfl, Nat.le_of_ble_eq_true rfl⟩ (Nat.le_of_ble_eq_true rfl) rfl rfl dX8_pane_2 (fun r1 e3 _ _ => ?_) (fun r1 w2 _ _ => ?_)
  · exact gx_out C hex (Nat.le_of_ble_eq_true rfl) (Nat.le_of_ble_eq_true rfl) (fun t hP hF => ⟨(), trivial, ⟨⟨_, rfl, rfl⟩, hP⟩, hF⟩)
  refine g_iload_n (pc := 5) (i := 2) C dX8_pane_5 rfl rfl ?_
  refine g_iconst (pc := 6) (v := 0) C dX8_pane_6 (by decide) ?_
  refine g_bipush (pc := 7) (v := 8) C dX8_pane_7 (by decide) ?_
  refine g_xcallSv (pc := 9) (As := [.int (p2), .int (0), .int (8)]) C (kX8_requireRange X σ p2 0 8 hfl) q_7_7 q_7_8 q_1_2 q_7_9 hdX8_requireRange ⟨Nat.le_of_ble_eq_true rfl, Nat.le_of_ble_eq_true rfl, rfl, rfl, Nat.le_of_ble_eq_true rfl, Nat.le_of_ble_eq_true rfl⟩ (Nat.le_of_ble_eq_true rfl) rfl rfl dX8_pane_9 (fun r4 e6 _ _ => ?_) (fun r4 w5 _ _ => ?_)
  · exact gx_out C hex (Nat.le_of_ble_eq_true rfl) (Nat.le_of_ble_eq_true rfl) (fun t hP hF => ⟨(), trivial, ⟨⟨_, rfl, rfl⟩, hP⟩, hF⟩)
  refine g_aload_n (pc := 12) (i := 0) C dX8_pane_12 rfl rfl ?_
  refine g_getr (pc := 13) (ci := 8) (N := 8) (T := TX8) (j := 0) (Cn := RX8) 1 C rfl inlX8 (Nat.le_of_ble_eq_true rfl) q_1_16 ok_dl rfl dX8_pane_13 ?_
  refine g_getNr (pc := 16) (ci := 4) (N := 7) (T := TX4) (j := 4) (Cn := RX4) (1 + 5) C rfl inlX4 (Nat.le_of_ble_eq_true rfl) (List.mem_of_getElem? (i := 10) rfl) (blk ok_now 0 rfl) rfl dX8_pane_16 ?_
  refine g_astore_n (pc := 19) (i := 3) C dX8_pane_19 rfl (Nat.le_of_ble_eq_true rfl) rfl ?_
  refine g_aload_n (pc := 20) (i := 3) C dX8_pane_20 rfl rfl ?_
  refine g_iload_n (pc := 21) (i := 1) C dX8_pane_21 rfl rfl ?_
  refine g_callVi (pc := 22) (As := [.int (p1)]) C (kX1_groupOf X σ (1 + 5) p1 (st_pl ok_now)) (blk (st_pl ok_now) 0 rfl) rfl q_24_18 q_11_19 q_11_20 q_2_23 q_11_21 ⟨rfl, hdX1_groupOf⟩ ⟨Nat.le_of_ble_eq_true rfl, Nat.le_of_ble_eq_true rfl, rfl, rfl⟩ ⟨Nat.le_of_ble_eq_true rfl, Nat.le_of_ble_eq_true rfl⟩ (Nat.le_of_ble_eq_true rfl) rfl rfl dX8_pane_22 (fun r7 _ => ?_)
  refine g_istore (pc := 25) C dX8_pane_25 (Nat.le_of_ble_eq_true rfl) rfl ?_
  refine g_iload_n (pc := 27) (i := 2) C dX8_pane_27 rfl rfl ?_
  refine g_ite (fun hz => ?_) (fun hz0 => ?_)
  · refine g_tabin (pc := 28) (tgt := 76) (z := 0) C dX8_pane_28 hz (by decide) (by decide) rfl rfl ?_
    refine g_aload_n (pc := 76) (i := 0) C dX8_pane_76 rfl rfl ?_
    refine g_getr (pc := 77) (ci := 8) (N := 8) (T := TX8) (j := 0) (Cn := RX8) 1 C rfl inlX8 (Nat.le_of_ble_eq_true rfl) q_1_16 ok_dl rfl dX8_pane_77 ?_
    refine g_getNr (pc := 80) (ci := 4) (N := 7) (T := TX4) (j := 1) (Cn := RX4) (1 + 1) C rfl inlX4 (Nat.le_of_ble_eq_true rfl) (List.mem_of_getElem? (i := 13) rfl) (blk ok_now 0 rfl) rfl dX8_pane_80 ?_
    refine g_iload_n (pc := 83) (i := 1) C dX8_pane_83 rfl rfl ?_
    refine g_callSi (pc := 84) (As := [.ref (X.ad (1 + 1)), .int (p1)]) C (kX8_at X σ (1 + 1) 12 p1 (blk ok_now 1 rfl)) q_23_22 q_11_22 q_1_2 q_11_23 hdX8_at ⟨Nat.le_of_ble_eq_true rfl, Nat.le_of_ble_eq_true rfl, rfl, rfl⟩ ⟨Nat.le_of_ble_eq_true rfl, Nat.le_of_ble_eq_true rfl⟩ (Nat.le_of_ble_eq_true rfl) rfl rfl dX8_pane_84 (fun r8 _ => ?_)
    exact g_xiret (pc := 87) C hr dX8_pane_87 (Nat.le_of_ble_eq_true rfl) (Nat.le_of_ble_eq_true rfl) (fun t hP hF => ⟨⟨_, (), rfl, rfl, hP⟩, hF⟩)
  refine g_ite (fun hz => ?_) (fun hz1 => ?_)
  · refine g_tabin (pc := 28) (tgt := 88) (z := 1) C dX8_pane_28 hz (by decide) (by decide) rfl rfl ?_
    refine g_aload_n (pc := 88) (i := 0) C dX8_pane_88 rfl rfl ?_
    refine g_getr (pc := 89) (ci := 8) (N := 8) (T := TX8) (j := 0) (Cn := RX8) 1 C rfl inlX8 (Nat.le_of_ble_eq_true rfl) q_1_16 ok_dl rfl dX8_pane_89 ?_
    refine g_getNr (pc := 92) (ci := 4) (N := 7) (T := TX4) (j := 2) (Cn := RX4) (1 + 2) C rfl inlX4 (Nat.le_of_ble_eq_true rfl) (List.mem_of_getElem? (i := 14) rfl) (blk ok_now 0 rfl) rfl dX8_pane_92 ?_
    refine g_iload_n (pc := 95) (i := 1) C dX8_pane_95 rfl rfl ?_
    refine g_callSi (pc := 96) (As := [.ref (X.ad (1 + 2)), .int (p1)]) C (kX8_at X σ (1 + 2) 12 p1 (blk ok_now 2 rfl)) q_23_22 q_11_22 q_1_2 q_11_23 hdX8_at ⟨Nat.le_of_ble_eq_true rfl, Nat.le_of_ble_eq_true rfl, rfl, rfl⟩ ⟨Nat.le_of_ble_eq_true rfl, Nat.le_of_ble_eq_true rfl⟩ (Nat.le_of_ble_eq_true rfl) rfl rfl dX8_pane_96 (fun r9 _ => ?_)
    exact g_xiret (pc := 99) C hr dX8_pane_99 (Nat.le_of_ble_eq_true rfl) (Nat.le_of_ble_eq_true rfl) (fun t hP hF => ⟨⟨_, (), rfl, rfl, hP⟩, hF⟩)
  refine g_ite (fun hz => ?_) (fun hz2 => ?_)
  · refine g_tabin (pc := 28) (tgt := 100) (z := 2) C dX8_pane_28 hz (by decide) (by decide) rfl rfl ?_
    refine g_aload_n (pc := 100) (i := 3) C dX8_pane_100 rfl rfl ?_
    refine g_iload (pc := 101) C dX8_pane_101 rfl ?_
    refine g_callVi (pc := 103) (As := [.int (r7)]) C (kX1_windowOf X σ (1 + 5) r7 (st_pl ok_now)) (blk (st_pl ok_now) 0 rfl) rfl q_24_19 q_13_9 q_13_10 q_2_23 q_13_11 ⟨rfl, hdX1_windowOf⟩ ⟨Nat.le_of_ble_eq_true rfl, Nat.le_of_ble_eq_true rfl, rfl, rfl⟩ ⟨Nat.le_of_ble_eq_true rfl, Nat.le_of_ble_eq_true rfl⟩ (Nat.le_of_ble_eq_true rfl) rfl rfl dX8_pane_103 (fun r10 _ => ?_)
    exact g_xiret (pc := 106) C hr dX8_pane_106 (Nat.le_of_ble_eq_true rfl) (Nat.le_of_ble_eq_true rfl) (fun t hP hF => ⟨⟨_, (), rfl, rfl, hP⟩, hF⟩)
  refine g_ite (fun hz => ?_) (fun hz3 => ?_)
  · refine g_tabin (pc := 28) (tgt := 107) (z := 3) C dX8_pane_28 hz (by decide) (by decide) rfl rfl ?_
    refine g_aload_n (pc := 107) (i := 3) C dX8_pane_107 rfl rfl ?_
    refine g_iload_n (pc := 108) (i := 1) C dX8_pane_108 rfl rfl ?_
    refine g_callVi (pc := 109) (As := [.int (p1)]) C (kX1_isHidden X σ (1 + 5) p1 (st_pl ok_now)) (blk (st_pl ok_now) 0 rfl) rfl q_24_20 q_12_17 q_12_18 q_2_23 q_12_19 ⟨rfl, hdX1_isHidden⟩ ⟨Nat.le_of_ble_eq_true rfl, Nat.le_of_ble_eq_true rfl, rfl, rfl⟩ ⟨Nat.le_of_ble_eq_true rfl, Nat.le_of_ble_eq_true rfl⟩ (Nat.le_of_ble_eq_true rfl) rfl rfl dX8_pane_109 (fun r11 _ => ?_)
    refine g_ifb_eq (pc := 112) (tgt := 119) C dX8_pane_112 rfl ?_ ?_
    · refine g_iconst (pc := 115) (v := 1) C dX8_pane_115 (by decide) ?_
      refine g_goto (pc := 116) (tgt := 120) C dX8_pane_116 rfl ?_
      exact g_xiret (pc := 120) C hr dX8_pane_120 (Nat.le_of_ble_eq_true rfl) (Nat.le_of_ble_eq_true rfl) (fun t hP hF => ⟨⟨_, (), rfl, rfl, hP⟩, hF⟩)
    · refine g_iconst (pc := 119) (v := 0) C dX8_pane_119 (by decide) ?_
      exact g_xiret (pc := 120) C hr dX8_pane_120 (Nat.le_of_ble_eq_true rfl) (Nat.le_of_ble_eq_true rfl) (fun t hP hF => ⟨⟨_, (), rfl, rfl, hP⟩, hF⟩)
  refine g_ite (fun hz => ?_) (fun hz4 => ?_)
  · refine g_tabin (pc := 28) (tgt := 121) (z := 4) C dX8_pane_28 hz (by decide) (by decide) rfl rfl ?_
    refine g_iload (pc := 121) C dX8_pane_121 rfl ?_
    refine g_iconst (pc := 123) (v := (-1)) C dX8_pane_123 (by decide) ?_
    refine g_icmp_eq (pc := 124) (tgt := 141) C dX8_pane_124 rfl ?_ ?_
    · refine g_iconst (pc := 141) (v := 0) C dX8_pane_141 (by decide) ?_
      exact g_xiret (pc := 142) C hr dX8_pane_142 (Nat.le_of_ble_eq_true rfl) (Nat.le_of_ble_eq_true rfl) (fun t hP hF => ⟨⟨_, (), rfl, rfl, hP⟩, hF⟩)
    · refine g_aload_n (pc := 127) (i := 3) C dX8_pane_127 rfl rfl ?_
      refine g_iload (pc := 128) C dX8_pane_128 rfl ?_
      refine g_callVi (pc := 130) (As := [.int (r7)]) C (kX1_activeOf X σ (1 + 5) r7 (st_pl ok_now)) (blk (st_pl ok_now) 0 rfl) rfl q_24_21 q_24_22 q_24_23 q_2_23 q_25_0 ⟨rfl, hdX1_activeOf⟩ ⟨Nat.le_of_ble_eq_true rfl, Nat.le_of_ble_eq_true rfl, rfl, rfl⟩ ⟨Nat.le_of_ble_eq_true rfl, Nat.le_of_ble_eq_true rfl⟩ (Nat.le_of_ble_eq_true rfl) rfl rfl dX8_pane_130 (fun r12 _ => ?_)
      refine g_iload_n (pc := 133) (i := 1) C dX8_pane_133 rfl rfl ?_
      refine g_icmp_ne (pc := 134) (tgt := 141) C dX8_pane_134 rfl ?_ ?_
      · refine g_iconst (pc := 137) (v := 1) C dX8_pane_137 (by decide) ?_
        refine g_goto (pc := 138) (tgt := 142) C dX8_pane_138 rfl ?_
        exact g_xiret (pc := 142) C hr dX8_pane_142 (Nat.le_of_ble_eq_true rfl) (Nat.le_of_ble_eq_true rfl) (fun t hP hF => ⟨⟨_, (), rfl, rfl, hP⟩, hF⟩)
      · refine g_iconst (pc := 141) (v := 0) C dX8_pane_141 (by decide) ?_
        exact g_xiret (pc := 142) C hr dX8_pane_142 (Nat.le_of_ble_eq_true rfl) (Nat.le_of_ble_eq_true rfl) (fun t hP hF => ⟨⟨_, (), rfl, rfl, hP⟩, hF⟩)
  refine g_ite (fun hz => ?_) (fun hz5 => ?_)
  · refine g_tabin (pc := 28) (tgt := 143) (z := 5) C dX8_pane_28 hz (by decide) (by decide) rfl rfl ?_
    refine g_aload_n (pc := 143) (i := 3) C dX8_pane_143 rfl rfl ?_
    refine g_iload_n (pc := 144) (i := 1) C dX8_pane_144 rfl rfl ?_
    refine g_callVi (pc := 145) (As := [.int (p1)]) C (kX1_spotOf X σ (1 + 5) p1 (st_pl ok_now)) (blk (st_pl ok_now) 0 rfl) rfl q_25_1 q_12_5 q_12_6 q_2_23 q_12_7 ⟨rfl, hdX1_spotOf⟩ ⟨Nat.le_of_ble_eq_true rfl, Nat.le_of_ble_eq_true rfl, rfl, rfl⟩ ⟨Nat.le_of_ble_eq_true rfl, Nat.le_of_ble_eq_true rfl⟩ (Nat.le_of_ble_eq_true rfl) rfl rfl dX8_pane_145 (fun r13 _ => ?_)
    exact g_xiret (pc := 148) C hr dX8_pane_148 (Nat.le_of_ble_eq_true rfl) (Nat.le_of_ble_eq_true rfl) (fun t hP hF => ⟨⟨_, (), rfl, rfl, hP⟩, hF⟩)
  refine g_ite (fun hz => ?_) (fun hz6 => ?_)
  · refine g_tabin (pc := 28) (tgt := 149) (z := 6) C dX8_pane_28 hz (by decide) (by decide) rfl rfl ?_
    refine g_iload (pc := 149) C dX8_pane_149 rfl ?_
    refine g_iconst (pc := 151) (v := (-1)) C dX8_pane_151 (by decide) ?_
    refine g_icmp_ne (pc := 152) (tgt := 159) C dX8_pane_152 rfl ?_ ?_
    · refine g_iconst (pc := 155) (v := (-1)) C dX8_pane_155 (by decide) ?_
      refine g_goto (pc := 156) (tgt := 165) C dX8_pane_156 rfl ?_
      exact g_xiret (pc := 165) C hr dX8_pane_165 (Nat.le_of_ble_eq_true rfl) (Nat.le_of_ble_eq_true rfl) (fun t hP hF => ⟨⟨_, (), rfl, rfl, hP⟩, hF⟩)
    · refine g_aload_n (pc := 159) (i := 3) C dX8_pane_159 rfl rfl ?_
      refine g_iload (pc := 160) C dX8_pane_160 rfl ?_
      refine g_callVi (pc := 162) (As := [.int (r7)]) C (kX1_tabCount X σ (1 + 5) r7 (st_pl ok_now)) (blk (st_pl ok_now) 0 rfl) rfl q_25_2 q_12_21 q_12_22 q_2_23 q_12_23 ⟨rfl, hdX1_tabCount⟩ ⟨Nat.le_of_ble_eq_true rfl, Nat.le_of_ble_eq_true rfl, rfl, rfl⟩ ⟨Nat.le_of_ble_eq_true rfl, Nat.le_of_ble_eq_true rfl⟩ (Nat.le_of_ble_eq_true rfl) rfl rfl dX8_pane_162 (fun r14 _ => ?_)
      exact g_xiret (pc := 165) C hr dX8_pane_165 (Nat.le_of_ble_eq_true rfl) (Nat.le_of_ble_eq_true rfl) (fun t hP hF => ⟨⟨_, (), rfl, rfl, hP⟩, hF⟩)
  refine g_ite (fun hz => ?_) (fun hz7 => ?_)
  · refine g_tabin (pc := 28) (tgt := 166) (z := 7) C dX8_pane_28 hz (by decide) (by decide) rfl rfl ?_
    refine g_aload_n (pc := 166) (i := 3) C dX8_pane_166 rfl rfl ?_
    refine g_iload (pc := 167) C dX8_pane_167 rfl ?_
    refine g_callVi (pc := 169) (As := [.int (r7)]) C (kX1_parentOf X σ (1 + 5) r7 (st_pl ok_now)) (blk (st_pl ok_now) 0 rfl) rfl q_25_3 q_25_4 q_25_5 q_2_23 q_25_6 ⟨rfl, hdX1_parentOf⟩ ⟨Nat.le_of_ble_eq_true rfl, Nat.le_of_ble_eq_true rfl, rfl, rfl⟩ ⟨Nat.le_of_ble_eq_true rfl, Nat.le_of_ble_eq_true rfl⟩ (Nat.le_of_ble_eq_true rfl) rfl rfl dX8_pane_169 (fun r15 _ => ?_)
    refine g_iconst (pc := 172) (v := (-1)) C dX8_pane_172 (by decide) ?_
    refine g_icmp_ne (pc := 173) (tgt := 180) C dX8_pane_173 rfl ?_ ?_
    · refine g_iconst (pc := 176) (v := (-1)) C dX8_pane_176 (by decide) ?_
      refine g_goto (pc := 177) (tgt := 186) C dX8_pane_177 rfl ?_
      exact g_xiret (pc := 186) C hr dX8_pane_186 (Nat.le_of_ble_eq_true rfl) (Nat.le_of_ble_eq_true rfl) (fun t hP hF => ⟨⟨_, (), rfl, rfl, hP⟩, hF⟩)
    · refine g_aload_n (pc := 180) (i := 3) C dX8_pane_180 rfl rfl ?_
      refine g_iload (pc := 181) C dX8_pane_181 rfl ?_
      refine g_callVi (pc := 183) (As := [.int (r7)]) C (kX1_weightOf X σ (1 + 5) r7 (st_pl ok_now)) (blk (st_pl ok_now) 0 rfl) rfl q_25_7 q_17_16 q_17_17 q_2_23 q_17_18 ⟨rfl, hdX1_weightOf⟩ ⟨Nat.le_of_ble_eq_true rfl, Nat.le_of_ble_eq_true rfl, rfl, rfl⟩ ⟨Nat.le_of_ble_eq_true rfl, Nat.le_of_ble_eq_true rfl⟩ (Nat.le_of_ble_eq_true rfl) rfl rfl dX8_pane_183 (fun r16 _ => ?_)
      exact g_xiret (pc := 186) C hr dX8_pane_186 (Nat.le_of_ble_eq_true rfl) (Nat.le_of_ble_eq_true rfl) (fun t hP hF => ⟨⟨_, (), rfl, rfl, hP⟩, hF⟩)
  refine g_tabout (pc := 28) (tgt := 187) C dX8_pane_28 (tsw_out0_7 hz0 hz1 hz2 hz3 hz4 hz5 hz6 hz7) rfl ?_
  refine g_aload_n (pc := 187) (i := 3) C dX8_pane_187 rfl rfl ?_
  refine g_iload (pc := 188) C dX8_pane_188 rfl ?_
  refine g_callVi (pc := 190) (As := [.int (r7)]) C (kX1_parentOf X σ (1 + 5) r7 (st_pl ok_now)) (blk (st_pl ok_now) 0 rfl) rfl q_25_3 q_25_4 q_25_5 q_2_23 q_25_6 ⟨rfl, hdX1_parentOf⟩ ⟨Nat.le_of_ble_eq_true rfl, Nat.le_of_ble_eq_true rfl, rfl, rfl⟩ ⟨Nat.le_of_ble_eq_true rfl, Nat.le_of_ble_eq_true rfl⟩ (Nat.le_of_ble_eq_true rfl) rfl rfl dX8_pane_190 (fun r17 _ => ?_)
  refine g_iconst (pc := 193) (v := (-1)) C dX8_pane_193 (by decide) ?_
  refine g_icmp_ne (pc := 194) (tgt := 201) C dX8_pane_194 rfl ?_ ?_
  · refine g_iconst (pc := 197) (v := (-1)) C dX8_pane_197 (by decide) ?_
    refine g_goto (pc := 198) (tgt := 211) C dX8_pane_198 rfl ?_
    exact g_xiret (pc := 211) C hr dX8_pane_211 (Nat.le_of_ble_eq_true rfl) (Nat.le_of_ble_eq_true rfl) (fun t hP hF => ⟨⟨_, (), rfl, rfl, hP⟩, hF⟩)
  · refine g_aload_n (pc := 201) (i := 3) C dX8_pane_201 rfl rfl ?_
    refine g_aload_n (pc := 202) (i := 3) C dX8_pane_202 rfl rfl ?_
    refine g_iload (pc := 203) C dX8_pane_203 rfl ?_
    refine g_callVi (pc := 205) (As := [.int (r7)]) C (kX1_parentOf X σ (1 + 5) r7 (st_pl ok_now)) (blk (st_pl ok_now) 0 rfl) rfl q_25_3 q_25_4 q_25_5 q_2_23 q_25_6 ⟨rfl, hdX1_parentOf⟩ ⟨Nat.le_of_ble_eq_true rfl, Nat.le_of_ble_eq_true rfl, rfl, rfl⟩ ⟨Nat.le_of_ble_eq_true rfl, Nat.le_of_ble_eq_true rfl⟩ (Nat.le_of_ble_eq_true rfl) rfl rfl dX8_pane_205 (fun r18 _ => ?_)
    refine g_callVi (pc := 208) (As := [.int (r18)]) C (kX1_kindOf X σ (1 + 5) r18 (st_pl ok_now)) (blk (st_pl ok_now) 0 rfl) rfl q_25_8 q_16_2 q_16_3 q_2_23 q_16_4 ⟨rfl, hdX1_kindOf⟩ ⟨Nat.le_of_ble_eq_true rfl, Nat.le_of_ble_eq_true rfl, rfl, rfl⟩ ⟨Nat.le_of_ble_eq_true rfl, Nat.le_of_ble_eq_true rfl⟩ (Nat.le_of_ble_eq_true rfl) rfl rfl dX8_pane_208 (fun r19 _ => ?_)
    exact g_xiret (pc := 211) C hr dX8_pane_211 (Nat.le_of_ble_eq_true rfl) (Nat.le_of_ble_eq_true rfl) (fun t hP hF => ⟨⟨_, (), rfl, rfl, hP⟩, hF⟩)
theorem dX8_rectangle_0 : decode cX8_rectangle 0 = .ok (.aload_n 0, 1) := by decide +kernel
theorem dX8_rectangle_1 : decode cX8_rectangle 1 = .ok (.iload_n 1, 1) := by decide +kernel
theorem dX8_rectangle_2 : decode cX8_rectangle 2 = .ok (.invokevirtual 74, 3) := by decide +kernel
theorem dX8_rectangle_5 : decode cX8_rectangle 5 = .ok (.iload_n 2, 1) := by decide +kernel
theorem dX8_rectangle_6 : decode cX8_rectangle 6 = .ok (.iconst 0, 1) := by decide +kernel
theorem dX8_rectangle_7 : decode cX8_rectangle 7 = .ok (.iconst 3, 1) := by decide +kernel
theorem dX8_rectangle_8 : decode cX8_rectangle 8 = .ok (.invokestatic 123, 3) := by decide +kernel
theorem dX8_rectangle_11 : decode cX8_rectangle 11 = .ok (.aload_n 0, 1) := by decide +kernel
theorem dX8_rectangle_12 : decode cX8_rectangle 12 = .ok (.getfield 10, 3) := by decide +kernel
theorem dX8_rectangle_15 : decode cX8_rectangle 15 = .ok (.getfield 77, 3) := by decide +kernel
theorem dX8_rectangle_18 : decode cX8_rectangle 18 = .ok (.iload_n 1, 1) := by decide +kernel
theorem dX8_rectangle_19 : decode cX8_rectangle 19 = .ok (.invokevirtual 126, 3) := by decide +kernel
theorem dX8_rectangle_22 : decode cX8_rectangle 22 = .ok (.istore_n 3, 1) := by decide +kernel
theorem dX8_rectangle_23 : decode cX8_rectangle 23 = .ok (.aload_n 0, 1) := by decide +kernel
theorem dX8_rectangle_24 : decode cX8_rectangle 24 = .ok (.getfield 23, 3) := by decide +kernel
theorem dX8_rectangle_27 : decode cX8_rectangle 27 = .ok (.iload_n 3, 1) := by decide +kernel
theorem dX8_rectangle_28 : decode cX8_rectangle 28 = .ok (.invokevirtual 154, 3) := by decide +kernel
theorem dX8_rectangle_31 : decode cX8_rectangle 31 = .ok (.ifCond .ne 5, 3) := by decide +kernel
theorem dX8_rectangle_34 : decode cX8_rectangle 34 = .ok (.iconst (-1), 1) := by decide +kernel
theorem dX8_rectangle_35 : decode cX8_rectangle 35 = .ok (.ireturn, 1) := by decide +kernel
theorem dX8_rectangle_36 : decode cX8_rectangle 36 = .ok (.iload_n 2, 1) := by decide +kernel
theorem dX8_rectangle_37 : decode cX8_rectangle 37 = .ok (.tableswitch 54 0 2 #[27, 36, 45], 27) := by decide +kernel
theorem dX8_rectangle_64 : decode cX8_rectangle 64 = .ok (.aload_n 0, 1) := by decide +kernel
theorem dX8_rectangle_65 : decode cX8_rectangle 65 = .ok (.getfield 23, 3) := by decide +kernel
theorem dX8_rectangle_68 : decode cX8_rectangle 68 = .ok (.iload_n 3, 1) := by decide +kernel
theorem dX8_rectangle_69 : decode cX8_rectangle 69 = .ok (.invokevirtual 157, 3) := by decide +kernel
theorem dX8_rectangle_72 : decode cX8_rectangle 72 = .ok (.ireturn, 1) := by decide +kernel
theorem dX8_rectangle_73 : decode cX8_rectangle 73 = .ok (.aload_n 0, 1) := by decide +kernel
theorem dX8_rectangle_74 : decode cX8_rectangle 74 = .ok (.getfield 23, 3) := by decide +kernel
theorem dX8_rectangle_77 : decode cX8_rectangle 77 = .ok (.iload_n 3, 1) := by decide +kernel
theorem dX8_rectangle_78 : decode cX8_rectangle 78 = .ok (.invokevirtual 160, 3) := by decide +kernel
theorem dX8_rectangle_81 : decode cX8_rectangle 81 = .ok (.ireturn, 1) := by decide +kernel
theorem dX8_rectangle_82 : decode cX8_rectangle 82 = .ok (.aload_n 0, 1) := by decide +kernel
theorem dX8_rectangle_83 : decode cX8_rectangle 83 = .ok (.getfield 23, 3) := by decide +kernel
theorem dX8_rectangle_86 : decode cX8_rectangle 86 = .ok (.iload_n 3, 1) := by decide +kernel
theorem dX8_rectangle_87 : decode cX8_rectangle 87 = .ok (.invokevirtual 163, 3) := by decide +kernel
theorem dX8_rectangle_90 : decode cX8_rectangle 90 = .ok (.ireturn, 1) := by decide +kernel
theorem dX8_rectangle_91 : decode cX8_rectangle 91 = .ok (.aload_n 0, 1) := by decide +kernel
theorem dX8_rectangle_92 : decode cX8_rectangle 92 = .ok (.getfield 23, 3) := by decide +kernel
theorem dX8_rectangle_95 : decode cX8_rectangle 95 = .ok (.iload_n 3, 1) := by decide +kernel
theorem dX8_rectangle_96 : decode cX8_rectangle 96 = .ok (.invokevirtual 166, 3) := by decide +kernel
theorem dX8_rectangle_99 : decode cX8_rectangle 99 = .ok (.ireturn, 1) := by decide +kernel
abbrev rmX8_rectangle : Room := { frames := 8, cells := 2, slots := 12, locals := 132 }
theorem hdX8_rectangle : yX8_rectangle.cls ≠ "java/lang/invoke/MethodHandle" ∧ yX8_rectangle.cls ≠ "java/lang/invoke/VarHandle" ∧ (parseMethodDescriptor yX8_rectangle.desc).map (fun d => d.parameters.length) = some 2 := by decide +kernel
def fX8_rectangle (σ : Sg) (p1 : Int32) (p2 : Int32) : Option (Int32 ⊕ Nat) :=
  (fX8_requirePane σ p1).bind fun r1 => xcat r1 (fun e3 => some (.inr e3)) fun w2 =>
  (fX8_requireRange σ p2 0 3).bind fun r4 => xcat r4 (fun e6 => some (.inr e6)) fun w5 =>
  (fX1_groupOf σ (1 + 5) p1).bind fun r7 =>
  (fX2_isShown σ 422 r7).bind fun r8 =>
  if r8 = true then
    if p2 = 0 then
      (fX2_leftOf σ 422 r7).bind fun r9 =>
      some (.inl r9)
    else if p2 = 1 then
      (fX2_topOf σ 422 r7).bind fun r10 =>
      some (.inl r10)
    else if p2 = 2 then
      (fX2_columnsOf σ 422 r7).bind fun r11 =>
      some (.inl r11)
    else 
      (fX2_rowsOf σ 422 r7).bind fun r12 =>
      some (.inl r12)
  else
    some (.inl (-1))
theorem kX8_rectangle (X : Xc) (σ : Sg) (p1 : Int32) (p2 : Int32) (hfl : X.l.stackTraces = false) : ∀ r, fX8_rectangle σ p1 p2 = some r → vx_Met X.l yX8_rectangle (wsM yX8_rectangle cX8_rectangle 4 (some .int)) rmX8_rectangle (va_Pc [.ref (X.ad 0), .int p1, .int p2] (PW X σ)) (CXi X r σ) (CXx X r σ) 2 12 X.A := by
  refine xt_of (own := RX8) (lo := [some (.ref (X.ad 0)), some (.int (p1)), some (.int (p2)), none]) (by decide) rfl (Nat.le_of_ble_eq_true rfl) rfl (fun K C hr hex => ?_)
  unfold fX8_rectangle
  refine g_aload_n (pc := 0) (i := 0) C dX8_rectangle_0 rfl rfl ?_
  refine g_iload_n (pc := 1) (i := 1) C dX8_rectangle_1 rfl rfl ?_
  refine g_xcallVv (pc := 2) (As := [.int (p1)]) C (kX8_requirePane X σ p1 hfl) ok_dl rfl q_11_7 q_11_8 q_11_9 q_1_2 q_11_10 ⟨rfl, hdX8_requirePane⟩ ⟨Nat.le_of_ble_eq_true rfl, Nat.le_of_ble_eq_true rfl, rfl, rfl, Nat.le_of_ble_eq_true rfl, Nat.le_of_ble_eq_true rfl⟩ (Nat.le_of_ble_eq_true rfl) rfl rfl dX8_rectangle_2 (fun r1 e3 _ _ => ?_) (fun r1 w2 _ _ => ?_)
  · exact gx_out C hex (Nat.le_of_ble_eq_true rfl) (Nat.le_of_ble_eq_true rfl) (fun t hP hF => ⟨(), trivial, ⟨⟨_, rfl, rfl⟩, hP⟩, hF⟩)
  refine g_iload_n (pc := 5) (i := 2) C dX8_rectangle_5 rfl rfl ?_
  refine g_iconst (pc := 6) (v := 0) C dX8_rectangle_6 (by decide) ?_
  refine g_iconst (pc := 7) (v := 3) C dX8_rectangle_7 (by decide) ?_
  refine g_xcallSv (pc := 8) (As := [.int (p2), .int (0), .int (3)]) C (kX8_requireRange X σ p2 0 3 hfl) q_7_7 q_7_8 q_1_2 q_7_9 hdX8_requireRange ⟨Nat.le_of_ble_eq_true rfl, Nat.le_of_ble_eq_true rfl, rfl, rfl, Nat.le_of_ble_eq_true rfl, Nat.le_of_ble_eq_true rfl⟩ (Nat.le_of_ble_eq_true rfl) rfl rfl dX8_rectangle_8 (fun r4 e6 _ _ => ?_) (fun r4 w5 _ _ => ?_)
  · exact gx_out C hex (Nat.le_of_ble_eq_true rfl) (Nat.le_of_ble_eq_true rfl) (fun t hP hF => ⟨(), trivial, ⟨⟨_, rfl, rfl⟩, hP⟩, hF⟩)
  refine g_aload_n (pc := 11) (i := 0) C dX8_rectangle_11 rfl rfl ?_
  refine g_getr (pc := 12) (ci := 8) (N := 8) (T := TX8) (j := 0) (Cn := RX8) 1 C rfl inlX8 (Nat.le_of_ble_eq_true rfl) q_1_16 ok_dl rfl dX8_rectangle_12 ?_
  refine g_getNr (pc := 15) (ci := 4) (N := 7) (T := TX4) (j := 4) (Cn := RX4) (1 + 5) C rfl inlX4 (Nat.le_of_ble_eq_true rfl) (List.mem_of_getElem? (i := 10) rfl) (blk ok_now 0 rfl) rfl dX8_rectangle_15 ?_
  refine g_iload_n (pc := 18) (i := 1) C dX8_rectangle_18 rfl rfl ?_
  refine g_callVi (pc := 19) (As := [.int (p1)]) C (kX1_groupOf X σ (1 + 5) p1 (st_pl ok_now)) (blk (st_pl ok_now) 0 rfl) rfl q_24_18 q_11_19 q_11_20 q_2_23 q_11_21 ⟨rfl, hdX1_groupOf⟩ ⟨Nat.le_of_ble_eq_true rfl, Nat.le_of_ble_eq_true rfl, rfl, rfl⟩ ⟨Nat.le_of_ble_eq_true rfl, Nat.le_of_ble_eq_true rfl⟩ (Nat.le_of_ble_eq_true rfl) rfl rfl dX8_rectangle_19 (fun r7 _ => ?_)
  refine g_istore_n (pc := 22) (i := 3) C dX8_rectangle_22 rfl (Nat.le_of_ble_eq_true rfl) rfl ?_
  refine g_aload_n (pc := 23) (i := 0) C dX8_rectangle_23 rfl rfl ?_
  refine g_getr (pc := 24) (ci := 8) (N := 8) (T := TX8) (j := 4) (Cn := RX8) 422 C rfl inlX8 (Nat.le_of_ble_eq_true rfl) q_1_21 ok_dl rfl dX8_rectangle_24 ?_
  refine g_iload_n (pc := 27) (i := 3) C dX8_rectangle_27 rfl rfl ?_
  refine g_callVi (pc := 28) (As := [.int (r7)]) C (kX2_isShown X σ 422 r7 ok_pn) (blk ok_pn 0 rfl) rfl q_26_0 q_16_23 q_17_0 q_1_20 q_17_1 ⟨rfl, hdX2_isShown⟩ ⟨Nat.le_of_ble_eq_true rfl, Nat.le_of_ble_eq_true rfl, rfl, rfl⟩ ⟨Nat.le_of_ble_eq_true rfl, Nat.le_of_ble_eq_true rfl⟩ (Nat.le_of_ble_eq_true rfl) rfl rfl dX8_rectangle_28 (fun r8 _ => ?_)
  refine g_ifb_ne (pc := 31) (tgt := 36) C dX8_rectangle_31 rfl ?_ ?_
  · refine g_iload_n (pc := 36) (i := 2) C dX8_rectangle_36 rfl rfl ?_
    refine g_ite (fun hz => ?_) (fun hz0 => ?_)
    · refine g_tabin (pc := 37) (tgt := 64) (z := 0) C dX8_rectangle_37 hz (by decide) (by decide) rfl rfl ?_
      refine g_aload_n (pc := 64) (i := 0) C dX8_rectangle_64 rfl rfl ?_
      refine g_getr (pc := 65) (ci := 8) (N := 8) (T := TX8) (j := 4) (Cn := RX8) 422 C rfl inlX8 (Nat.le_of_ble_eq_true rfl) q_1_21 ok_dl rfl dX8_rectangle_65 ?_
      refine g_iload_n (pc := 68) (i := 3) C dX8_rectangle_68 rfl rfl ?_
      refine g_callVi (pc := 69) (As := [.int (r7)]) C (kX2_leftOf X σ 422 r7 ok_pn) (blk ok_pn 0 rfl) rfl q_26_1 q_26_2 q_26_3 q_1_20 q_26_4 ⟨rfl, hdX2_leftOf⟩ ⟨Nat.le_of_ble_eq_true rfl, Nat.le_of_ble_eq_true rfl, rfl, rfl⟩ ⟨Nat.le_of_ble_eq_true rfl, Nat.le_of_ble_eq_true rfl⟩ (Nat.le_of_ble_eq_true rfl) rfl rfl dX8_rectangle_69 (fun r9 _ => ?_)
      exact g_xiret (pc := 72) C hr dX8_rectangle_72 (Nat.le_of_ble_eq_true rfl) (Nat.le_of_ble_eq_true rfl) (fun t hP hF => ⟨⟨_, (), rfl, rfl, hP⟩, hF⟩)
    refine g_ite (fun hz => ?_) (fun hz1 => ?_)
    · refine g_tabin (pc := 37) (tgt := 73) (z := 1) C dX8_rectangle_37 hz (by decide) (by decide) rfl rfl ?_
      refine g_aload_n (pc := 73) (i := 0) C dX8_rectangle_73 rfl rfl ?_
      refine g_getr (pc := 74) (ci := 8) (N := 8) (T := TX8) (j := 4) (Cn := RX8) 422 C rfl inlX8 (Nat.le_of_ble_eq_true rfl) q_1_21 ok_dl rfl dX8_rectangle_74 ?_
      refine g_iload_n (pc := 77) (i := 3) C dX8_rectangle_77 rfl rfl ?_
      refine g_callVi (pc := 78) (As := [.int (r7)]) C (kX2_topOf X σ 422 r7 ok_pn) (blk ok_pn 0 rfl) rfl q_26_5 q_26_6 q_26_7 q_1_20 q_26_8 ⟨rfl, hdX2_topOf⟩ ⟨Nat.le_of_ble_eq_true rfl, Nat.le_of_ble_eq_true rfl, rfl, rfl⟩ ⟨Nat.le_of_ble_eq_true rfl, Nat.le_of_ble_eq_true rfl⟩ (Nat.le_of_ble_eq_true rfl) rfl rfl dX8_rectangle_78 (fun r10 _ => ?_)
      exact g_xiret (pc := 81) C hr dX8_rectangle_81 (Nat.le_of_ble_eq_true rfl) (Nat.le_of_ble_eq_true rfl) (fun t hP hF => ⟨⟨_, (), rfl, rfl, hP⟩, hF⟩)
    refine g_ite (fun hz => ?_) (fun hz2 => ?_)
    · refine g_tabin (pc := 37) (tgt := 82) (z := 2) C dX8_rectangle_37 hz (by decide) (by decide) rfl rfl ?_
      refine g_aload_n (pc := 82) (i := 0) C dX8_rectangle_82 rfl rfl ?_
      refine g_getr (pc := 83) (ci := 8) (N := 8) (T := TX8) (j := 4) (Cn := RX8) 422 C rfl inlX8 (Nat.le_of_ble_eq_true rfl) q_1_21 ok_dl rfl dX8_rectangle_83 ?_
      refine g_iload_n (pc := 86) (i := 3) C dX8_rectangle_86 rfl rfl ?_
      refine g_callVi (pc := 87) (As := [.int (r7)]) C (kX2_columnsOf X σ 422 r7 ok_pn) (blk ok_pn 0 rfl) rfl q_26_9 q_26_10 q_26_11 q_1_20 q_26_12 ⟨rfl, hdX2_columnsOf⟩ ⟨Nat.le_of_ble_eq_true rfl, Nat.le_of_ble_eq_true rfl, rfl, rfl⟩ ⟨Nat.le_of_ble_eq_true rfl, Nat.le_of_ble_eq_true rfl⟩ (Nat.le_of_ble_eq_true rfl) rfl rfl dX8_rectangle_87 (fun r11 _ => ?_)
      exact g_xiret (pc := 90) C hr dX8_rectangle_90 (Nat.le_of_ble_eq_true rfl) (Nat.le_of_ble_eq_true rfl) (fun t hP hF => ⟨⟨_, (), rfl, rfl, hP⟩, hF⟩)
    refine g_tabout (pc := 37) (tgt := 91) C dX8_rectangle_37 (tsw_out0_2 hz0 hz1 hz2) rfl ?_
    refine g_aload_n (pc := 91) (i := 0) C dX8_rectangle_91 rfl rfl ?_
    refine g_getr (pc := 92) (ci := 8) (N := 8) (T := TX8) (j := 4) (Cn := RX8) 422 C rfl inlX8 (Nat.le_of_ble_eq_true rfl) q_1_21 ok_dl rfl dX8_rectangle_92 ?_
    refine g_iload_n (pc := 95) (i := 3) C dX8_rectangle_95 rfl rfl ?_
    refine g_callVi (pc := 96) (As := [.int (r7)]) C (kX2_rowsOf X σ 422 r7 ok_pn) (blk ok_pn 0 rfl) rfl q_26_13 q_26_14 q_26_15 q_1_20 q_26_16 ⟨rfl, hdX2_rowsOf⟩ ⟨Nat.le_of_ble_eq_true rfl, Nat.le_of_ble_eq_true rfl, rfl, rfl⟩ ⟨Nat.le_of_ble_eq_true rfl, Nat.le_of_ble_eq_true rfl⟩ (Nat.le_of_ble_eq_true rfl) rfl rfl dX8_rectangle_96 (fun r12 _ => ?_)
    exact g_xiret (pc := 99) C hr dX8_rectangle_99 (Nat.le_of_ble_eq_true rfl) (Nat.le_of_ble_eq_true rfl) (fun t hP hF => ⟨⟨_, (), rfl, rfl, hP⟩, hF⟩)
  · refine g_iconst (pc := 34) (v := (-1)) C dX8_rectangle_34 (by decide) ?_
    exact g_xiret (pc := 35) C hr dX8_rectangle_35 (Nat.le_of_ble_eq_true rfl) (Nat.le_of_ble_eq_true rfl) (fun t hP hF => ⟨⟨_, (), rfl, rfl, hP⟩, hF⟩)
theorem dX8_tab_0 : decode cX8_tab 0 = .ok (.aload_n 0, 1) := by decide +kernel
theorem dX8_tab_1 : decode cX8_tab 1 = .ok (.iload_n 1, 1) := by decide +kernel
theorem dX8_tab_2 : decode cX8_tab 2 = .ok (.invokevirtual 74, 3) := by decide +kernel
theorem dX8_tab_5 : decode cX8_tab 5 = .ok (.aload_n 0, 1) := by decide +kernel
theorem dX8_tab_6 : decode cX8_tab 6 = .ok (.getfield 10, 3) := by decide +kernel
theorem dX8_tab_9 : decode cX8_tab 9 = .ok (.getfield 77, 3) := by decide +kernel
theorem dX8_tab_12 : decode cX8_tab 12 = .ok (.aload_n 0, 1) := by decide +kernel
theorem dX8_tab_13 : decode cX8_tab 13 = .ok (.getfield 10, 3) := by decide +kernel
theorem dX8_tab_16 : decode cX8_tab 16 = .ok (.getfield 77, 3) := by decide +kernel
theorem dX8_tab_19 : decode cX8_tab 19 = .ok (.iload_n 1, 1) := by decide +kernel
theorem dX8_tab_20 : decode cX8_tab 20 = .ok (.invokevirtual 126, 3) := by decide +kernel
theorem dX8_tab_23 : decode cX8_tab 23 = .ok (.iload_n 2, 1) := by decide +kernel
theorem dX8_tab_24 : decode cX8_tab 24 = .ok (.invokevirtual 169, 3) := by decide +kernel
theorem dX8_tab_27 : decode cX8_tab 27 = .ok (.ireturn, 1) := by decide +kernel
abbrev rmX8_tab : Room := { frames := 8, cells := 1, slots := 6, locals := 131 }
theorem hdX8_tab : yX8_tab.cls ≠ "java/lang/invoke/MethodHandle" ∧ yX8_tab.cls ≠ "java/lang/invoke/VarHandle" ∧ (parseMethodDescriptor yX8_tab.desc).map (fun d => d.parameters.length) = some 2 := by decide +kernel
def fX8_tab (σ : Sg) (p1 : Int32) (p2 : Int32) : Option (Int32 ⊕ Nat) :=
  (fX8_requirePane σ p1).bind fun r1 => xcat r1 (fun e3 => some (.inr e3)) fun w2 =>
  (fX1_groupOf σ (1 + 5) p1).bind fun r4 =>
  (fX1_tabAt σ (1 + 5) r4 p2).bind fun r5 =>
  some (.inl r5)
theorem kX8_tab (X : Xc) (σ : Sg) (p1 : Int32) (p2 : Int32) (hfl : X.l.stackTraces = false) : ∀ r, fX8_tab σ p1 p2 = some r → vx_Met X.l yX8_tab (wsM yX8_tab cX8_tab 3 (some .int)) rmX8_tab (va_Pc [.ref (X.ad 0), .int p1, .int p2] (PW X σ)) (CXi X r σ) (CXx X r σ) 1 6 X.A := by
  refine xt_of (own := RX8) (lo := [some (.ref (X.ad 0)), some (.int (p1)), some (.int (p2))]) (by decide) rfl (Nat.le_of_ble_eq_true rfl) rfl (fun K C hr hex => ?_)
  unfold fX8_tab
  refine g_aload_n (pc := 0) (i := 0) C dX8_tab_0 rfl rfl ?_
  refine g_iload_n (pc := 1) (i := 1) C dX8_tab_1 rfl rfl ?_
  refine g_xcallVv (pc := 2) (As := [.int (p1)]) C (kX8_requirePane X σ p1 hfl) ok_dl rfl q_11_7 q_11_8 q_11_9 q_1_2 q_11_10 ⟨rfl, hdX8_requirePane⟩ ⟨Nat.le_of_ble_eq_true rfl, Nat.le_of_ble_eq_true rfl, rfl, rfl, Nat.le_of_ble_eq_true rfl, Nat.le_of_ble_eq_true rfl⟩ (Nat.le_of_ble_eq_true rfl) rfl rfl dX8_tab_2 (fun r1 e3 _ _ => ?_) (fun r1 w2 _ _ => ?_)
  · exact gx_out C hex (Nat.le_of_ble_eq_true rfl) (Nat.le_of_ble_eq_true rfl) (fun t hP hF => ⟨(), trivial, ⟨⟨_, rfl, rfl⟩, hP⟩, hF⟩)
  refine g_aload_n (pc := 5) (i := 0) C dX8_tab_5 rfl rfl ?_
  refine g_getr (pc := 6) (ci := 8) (N := 8) (T := TX8) (j := 0) (Cn := RX8) 1 C rfl inlX8 (Nat.le_of_ble_eq_true rfl) q_1_16 ok_dl rfl dX8_tab_6 ?_
  refine g_getNr (pc := 9) (ci := 4) (N := 7) (T := TX4) (j := 4) (Cn := RX4) (1 + 5) C rfl inlX4 (Nat.le_of_ble_eq_true rfl) (List.mem_of_getElem? (i := 10) rfl) (blk ok_now 0 rfl) rfl dX8_tab_9 ?_
  refine g_aload_n (pc := 12) (i := 0) C dX8_tab_12 rfl rfl ?_
  refine g_getr (pc := 13) (ci := 8) (N := 8) (T := TX8) (j := 0) (Cn := RX8) 1 C rfl inlX8 (Nat.le_of_ble_eq_true rfl) q_1_16 ok_dl rfl dX8_tab_13 ?_
  refine g_getNr (pc := 16) (ci := 4) (N := 7) (T := TX4) (j := 4) (Cn := RX4) (1 + 5) C rfl inlX4 (Nat.le_of_ble_eq_true rfl) (List.mem_of_getElem? (i := 10) rfl) (blk ok_now 0 rfl) rfl dX8_tab_16 ?_
  refine g_iload_n (pc := 19) (i := 1) C dX8_tab_19 rfl rfl ?_
  refine g_callVi (pc := 20) (As := [.int (p1)]) C (kX1_groupOf X σ (1 + 5) p1 (st_pl ok_now)) (blk (st_pl ok_now) 0 rfl) rfl q_24_18 q_11_19 q_11_20 q_2_23 q_11_21 ⟨rfl, hdX1_groupOf⟩ ⟨Nat.le_of_ble_eq_true rfl, Nat.le_of_ble_eq_true rfl, rfl, rfl⟩ ⟨Nat.le_of_ble_eq_true rfl, Nat.le_of_ble_eq_true rfl⟩ (Nat.le_of_ble_eq_true rfl) rfl rfl dX8_tab_20 (fun r4 _ => ?_)
  refine g_iload_n (pc := 23) (i := 2) C dX8_tab_23 rfl rfl ?_
  refine g_callVi (pc := 24) (As := [.int (r4), .int (p2)]) C (kX1_tabAt X σ (1 + 5) r4 p2 (st_pl ok_now)) (blk (st_pl ok_now) 0 rfl) rfl q_28_22 q_12_13 q_12_14 q_2_23 q_12_15 ⟨rfl, hdX1_tabAt⟩ ⟨Nat.le_of_ble_eq_true rfl, Nat.le_of_ble_eq_true rfl, rfl, rfl⟩ ⟨Nat.le_of_ble_eq_true rfl, Nat.le_of_ble_eq_true rfl⟩ (Nat.le_of_ble_eq_true rfl) rfl rfl dX8_tab_24 (fun r5 _ => ?_)
  exact g_xiret (pc := 27) C hr dX8_tab_27 (Nat.le_of_ble_eq_true rfl) (Nat.le_of_ble_eq_true rfl) (fun t hP hF => ⟨⟨_, (), rfl, rfl, hP⟩, hF⟩)
theorem dX8_requireWindow_0 : decode cX8_requireWindow 0 = .ok (.aload_n 0, 1) := by decide +kernel
theorem dX8_requireWindow_1 : decode cX8_requireWindow 1 = .ok (.getfield 10, 3) := by decide +kernel
theorem dX8_requireWindow_4 : decode cX8_requireWindow 4 = .ok (.getfield 77, 3) := by decide +kernel
theorem dX8_requireWindow_7 : decode cX8_requireWindow 7 = .ok (.iload_n 1, 1) := by decide +kernel
theorem dX8_requireWindow_8 : decode cX8_requireWindow 8 = .ok (.invokevirtual 381, 3) := by decide +kernel
theorem dX8_requireWindow_11 : decode cX8_requireWindow 11 = .ok (.ifCond .ne 14, 3) := by decide +kernel
theorem dX8_requireWindow_14 : decode cX8_requireWindow 14 = .ok (.new 398, 3) := by decide +kernel
theorem dX8_requireWindow_17 : decode cX8_requireWindow 17 = .ok (.dup, 1) := by decide +kernel
theorem dX8_requireWindow_18 : decode cX8_requireWindow 18 = .ok (.ldc_w 403, 3) := by decide +kernel
theorem dX8_requireWindow_21 : decode cX8_requireWindow 21 = .ok (.invokespecial 402, 3) := by decide +kernel
theorem dX8_requireWindow_24 : decode cX8_requireWindow 24 = .ok (.athrow, 1) := by decide +kernel
theorem dX8_requireWindow_25 : decode cX8_requireWindow 25 = .ok (.return_, 1) := by decide +kernel
abbrev rmX8_requireWindow : Room := { frames := 7, cells := 1, slots := 6, locals := 110 }
theorem hdX8_requireWindow : yX8_requireWindow.cls ≠ "java/lang/invoke/MethodHandle" ∧ yX8_requireWindow.cls ≠ "java/lang/invoke/VarHandle" ∧ (parseMethodDescriptor yX8_requireWindow.desc).map (fun d => d.parameters.length) = some 1 := by decide +kernel
def fX8_requireWindow (σ : Sg) (p1 : Int32) : Option (Unit ⊕ Nat) :=
  (fX1_windowExists σ (1 + 5) p1).bind fun r1 =>
  if r1 = true then
    some (.inl ())
  else
    some (.inr 0)
theorem kX8_requireWindow (X : Xc) (σ : Sg) (p1 : Int32) (hfl : X.l.stackTraces = false) : ∀ r, fX8_requireWindow σ p1 = some r → vx_Met X.l yX8_requireWindow (wsM yX8_requireWindow cX8_requireWindow 2 none) rmX8_requireWindow (va_Pc [.ref (X.ad 0), .int p1] (PW X σ)) (CXv X r σ) (CXx X r σ) 1 6 X.A := by
  refine xt_of (own := RX8) (lo := [some (.ref (X.ad 0)), some (.int (p1))]) (by decide) rfl (Nat.le_of_ble_eq_true rfl) rfl (fun K C hr hex => ?_)
  unfold fX8_requireWindow
  refine g_aload_n (pc := 0) (i := 0) C dX8_requireWindow_0 rfl rfl ?_
  refine g_getr (pc := 1) (ci := 8) (N := 8) (T := TX8) (j := 0) (Cn := RX8) 1 C rfl inlX8 (Nat.le_of_ble_eq_true rfl) q_1_16 ok_dl rfl dX8_requireWindow_1 ?_
  refine g_getNr (pc := 4) (ci := 4) (N := 7) (T := TX4) (j := 4) (Cn := RX4) (1 + 5) C rfl inlX4 (Nat.le_of_ble_eq_true rfl) (List.mem_of_getElem? (i := 10) rfl) (blk ok_now 0 rfl) rfl dX8_requireWindow_4 ?_
  refine g_iload_n (pc := 7) (i := 1) C dX8_requireWindow_7 rfl rfl ?_
  refine g_callVi (pc := 8) (As := [.int (p1)]) C (kX1_windowExists X σ (1 + 5) p1 (st_pl ok_now)) (blk (st_pl ok_now) 0 rfl) rfl q_29_14 q_29_15 q_29_16 q_2_23 q_29_17 ⟨rfl, hdX1_windowExists⟩ ⟨Nat.le_of_ble_eq_true rfl, Nat.le_of_ble_eq_true rfl, rfl, rfl⟩ ⟨Nat.le_of_ble_eq_true rfl, Nat.le_of_ble_eq_true rfl⟩ (Nat.le_of_ble_eq_true rfl) rfl rfl dX8_requireWindow_8 (fun r1 _ => ?_)
  refine g_ifb_ne (pc := 11) (tgt := 25) C dX8_requireWindow_11 rfl ?_ ?_
  · exact g_xvret (pc := 25) C hr dX8_requireWindow_25 (Nat.le_of_ble_eq_true rfl) (Nat.le_of_ble_eq_true rfl) (fun t hP hF => ⟨⟨(), rfl, rfl, hP⟩, hF⟩)
  · exact g_throwW (pc := 14) (e := 0) (cls := "java/lang/IndexOutOfBoundsException") (text := "there is no such window") (ik := 398) (is := 403) (ic := 402) C hex hfl rfl (by decide +kernel) q_11_11 q_11_12 (List.mem_of_getElem? (i := 13) rfl) (xat_0 C.ts C.k) xgood_0 dX8_requireWindow_14 dX8_requireWindow_17 dX8_requireWindow_18 dX8_requireWindow_21 dX8_requireWindow_24 (Nat.le_of_ble_eq_true rfl) (Nat.le_of_ble_eq_true rfl) (Nat.le_of_ble_eq_true rfl) (Nat.le_of_ble_eq_true rfl) (Nat.le_of_ble_eq_true rfl) (Nat.le_of_ble_eq_true rfl) (fun t hP hF => ⟨(), trivial, ⟨⟨_, rfl, rfl⟩, hP⟩, hF⟩)
theorem dX8_resize_0 : decode cX8_resize 0 = .ok (.aload_n 0, 1) := by decide +kernel
theorem dX8_resize_1 : decode cX8_resize 1 = .ok (.iload_n 1, 1) := by decide +kernel
theorem dX8_resize_2 : decode cX8_resize 2 = .ok (.invokevirtual 173, 3) := by decide +kernel
theorem dX8_resize_5 : decode cX8_resize 5 = .ok (.iload_n 2, 1) := by decide +kernel
theorem dX8_resize_6 : decode cX8_resize 6 = .ok (.bipush 10, 2) := by decide +kernel
theorem dX8_resize_8 : decode cX8_resize 8 = .ok (.sipush 400, 3) := by decide +kernel
theorem dX8_resize_11 : decode cX8_resize 11 = .ok (.invokestatic 123, 3) := by decide +kernel
theorem dX8_resize_14 : decode cX8_resize 14 = .ok (.iload_n 3, 1) := by decide +kernel
theorem dX8_resize_15 : decode cX8_resize 15 = .ok (.bipush 10, 2) := by decide +kernel
theorem dX8_resize_17 : decode cX8_resize 17 = .ok (.sipush 400, 3) := by decide +kernel
theorem dX8_resize_20 : decode cX8_resize 20 = .ok (.invokestatic 123, 3) := by decide +kernel
theorem dX8_resize_23 : decode cX8_resize 23 = .ok (.aload_n 0, 1) := by decide +kernel
theorem dX8_resize_24 : decode cX8_resize 24 = .ok (.invokevirtual 63, 3) := by decide +kernel
theorem dX8_resize_27 : decode cX8_resize 27 = .ok (.aload_n 0, 1) := by decide +kernel
theorem dX8_resize_28 : decode cX8_resize 28 = .ok (.getfield 10, 3) := by decide +kernel
theorem dX8_resize_31 : decode cX8_resize 31 = .ok (.getfield 77, 3) := by decide +kernel
theorem dX8_resize_34 : decode cX8_resize 34 = .ok (.iload_n 1, 1) := by decide +kernel
theorem dX8_resize_35 : decode cX8_resize 35 = .ok (.iload_n 2, 1) := by decide +kernel
theorem dX8_resize_36 : decode cX8_resize 36 = .ok (.iload_n 3, 1) := by decide +kernel
theorem dX8_resize_37 : decode cX8_resize 37 = .ok (.invokevirtual 176, 3) := by decide +kernel
theorem dX8_resize_40 : decode cX8_resize 40 = .ok (.aload_n 0, 1) := by decide +kernel
theorem dX8_resize_41 : decode cX8_resize 41 = .ok (.getfield 23, 3) := by decide +kernel
theorem dX8_resize_44 : decode cX8_resize 44 = .ok (.aload_n 0, 1) := by decide +kernel
theorem dX8_resize_45 : decode cX8_resize 45 = .ok (.getfield 10, 3) := by decide +kernel
theorem dX8_resize_48 : decode cX8_resize 48 = .ok (.invokevirtual 98, 3) := by decide +kernel
theorem dX8_resize_51 : decode cX8_resize 51 = .ok (.aload_n 0, 1) := by decide +kernel
theorem dX8_resize_52 : decode cX8_resize 52 = .ok (.getfield 10, 3) := by decide +kernel
theorem dX8_resize_55 : decode cX8_resize 55 = .ok (.getfield 77, 3) := by decide +kernel
theorem dX8_resize_58 : decode cX8_resize 58 = .ok (.iload_n 1, 1) := by decide +kernel
theorem dX8_resize_59 : decode cX8_resize 59 = .ok (.invokevirtual 179, 3) := by decide +kernel
theorem dX8_resize_62 : decode cX8_resize 62 = .ok (.ireturn, 1) := by decide +kernel
abbrev rmX8_resize : Room := { frames := 8, cells := 3, slots := 18, locals := 213 }
theorem hdX8_resize : yX8_resize.cls ≠ "java/lang/invoke/MethodHandle" ∧ yX8_resize.cls ≠ "java/lang/invoke/VarHandle" ∧ (parseMethodDescriptor yX8_resize.desc).map (fun d => d.parameters.length) = some 3 := by decide +kernel
def fX8_resize (σ : Sg) (p1 : Int32) (p2 : Int32) (p3 : Int32) : Option ((Int32 ⊕ Nat) × Sg) :=
  (fX8_requireWindow σ p1).bind fun r1 => xcat r1 (fun e3 => some (.inr e3, σ)) fun w2 =>
  (fX8_requireRange σ p2 10 400).bind fun r4 => xcat r4 (fun e6 => some (.inr e6, σ)) fun w5 =>
  (fX8_requireRange σ p3 10 400).bind fun r7 => xcat r7 (fun e9 => some (.inr e9, σ)) fun w8 =>
  (fX8_keepRecord σ).bind fun σ10 =>
  (fX1_setSize σ10 (1 + 5) p1 p2 p3).bind fun σ11 =>
  (fX2_compute σ11 422 1).bind fun σ12 =>
  (fX1_panesIn σ12 (1 + 5) p1).bind fun r13 =>
  some (.inl r13, σ12)
theorem kX8_resize (X : Xc) (σ : Sg) (p1 : Int32) (p2 : Int32) (p3 : Int32) (hfl : X.l.stackTraces = false) : ∀ r, fX8_resize σ p1 p2 p3 = some r → vx_Met X.l yX8_resize (wsM yX8_resize cX8_resize 4 (some .int)) rmX8_resize (va_Pc [.ref (X.ad 0), .int p1, .int p2, .int p3] (PW X σ)) (CXi X r.1 r.2) (CXx X r.1 r.2) 3 18 X.A := by
  refine xt_of (own := RX8) (lo := [some (.ref (X.ad 0)), some (.int (p1)), some (.int (p2)), some (.int (p3))]) (by decide) rfl (Nat.le_of_ble_eq_true rfl) rfl (fun K C hr hex => ?_)
  unfold fX8_resize
  refine g_aload_n (pc := 0) (i := 0) C dX8_resize_0 rfl rfl ?_
  refine g_iload_n (pc := 1) (i := 1) C dX8_resize_1 rfl rfl ?_
  refine g_xcallVv (pc := 2) (As := [.int (p1)]) C (kX8_requireWindow X σ p1 hfl) ok_dl rfl q_29_10 q_29_11 q_29_12 q_1_2 q_29_13 ⟨rfl, hdX8_requireWindow⟩ ⟨Nat.le_of_ble_eq_true rfl, Nat.le_of_ble_eq_true rfl, rfl, rfl, Nat.le_of_ble_eq_true rfl, Nat.le_of_ble_eq_true rfl⟩ (Nat.le_of_ble_eq_true rfl) rfl rfl dX8_resize_2 (fun r1 e3 _ _ => ?_) (fun r1 w2 _ _ => ?_)
  · exact gx_out C hex (Nat.le_of_ble_eq_true rfl) (Nat.le_of_ble_eq_true rfl) (fun t hP hF => ⟨(), trivial, ⟨⟨_, rfl, rfl⟩, hP⟩, hF⟩)
  refine g_iload_n (pc := 5) (i := 2) C dX8_resize_5 rfl rfl ?_
  refine g_bipush (pc := 6) (v := 10) C dX8_resize_6 (by decide) ?_
  refine g_sipush (pc := 8) (v := 400) C dX8_resize_8 (by decide) ?_
  refine g_xcallSv (pc := 11) (As := [.int (p2), .int (10), .int (400)]) C (kX8_requireRange X σ p2 10 400 hfl) q_7_7 q_7_8 q_1_2 q_7_9 hdX8_requireRange ⟨Nat.le_of_ble_eq_true rfl, Nat.le_of_ble_eq_true rfl, rfl, rfl, Nat.le_of_ble_eq_true rfl, Nat.le_of_ble_eq_true rfl⟩ (Nat.le_of_ble_eq_true rfl) rfl rfl dX8_resize_11 (fun r4 e6 _ _ => ?_) (fun r4 w5 _ _ => ?_)
  · exact gx_out C hex (Nat.le_of_ble_eq_true rfl) (Nat.le_of_ble_eq_true rfl) (fun t hP hF => ⟨(), trivial, ⟨⟨_, rfl, rfl⟩, hP⟩, hF⟩)
  refine g_iload_n (pc := 14) (i := 3) C dX8_resize_14 rfl rfl ?_
  refine g_bipush (pc := 15) (v := 10) C dX8_resize_15 (by decide) ?_
  refine g_sipush (pc := 17) (v := 400) C dX8_resize_17 (by decide) ?_
  refine g_xcallSv (pc := 20) (As := [.int (p3), .int (10), .int (400)]) C (kX8_requireRange X σ p3 10 400 hfl) q_7_7 q_7_8 q_1_2 q_7_9 hdX8_requireRange ⟨Nat.le_of_ble_eq_true rfl, Nat.le_of_ble_eq_true rfl, rfl, rfl, Nat.le_of_ble_eq_true rfl, Nat.le_of_ble_eq_true rfl⟩ (Nat.le_of_ble_eq_true rfl) rfl rfl dX8_resize_20 (fun r7 e9 _ _ => ?_) (fun r7 w8 _ _ => ?_)
  · exact gx_out C hex (Nat.le_of_ble_eq_true rfl) (Nat.le_of_ble_eq_true rfl) (fun t hP hF => ⟨(), trivial, ⟨⟨_, rfl, rfl⟩, hP⟩, hF⟩)
  refine g_aload_n (pc := 23) (i := 0) C dX8_resize_23 rfl rfl ?_
  refine g_callVv (pc := 24) (As := []) C (kX8_keepRecord X σ) ok_dl rfl q_7_21 q_7_22 q_7_23 q_1_2 q_8_0 ⟨rfl, hdX8_keepRecord⟩ ⟨Nat.le_of_ble_eq_true rfl, Nat.le_of_ble_eq_true rfl, rfl, rfl⟩ ⟨Nat.le_of_ble_eq_true rfl, Nat.le_of_ble_eq_true rfl⟩ (Nat.le_of_ble_eq_true rfl) rfl rfl dX8_resize_24 (fun σ10 _ => ?_)
  refine g_aload_n (pc := 27) (i := 0) C dX8_resize_27 rfl rfl ?_
  refine g_getr (pc := 28) (ci := 8) (N := 8) (T := TX8) (j := 0) (Cn := RX8) 1 C rfl inlX8 (Nat.le_of_ble_eq_true rfl) q_1_16 ok_dl rfl dX8_resize_28 ?_
  refine g_getNr (pc := 31) (ci := 4) (N := 7) (T := TX4) (j := 4) (Cn := RX4) (1 + 5) C rfl inlX4 (Nat.le_of_ble_eq_true rfl) (List.mem_of_getElem? (i := 10) rfl) (blk ok_now 0 rfl) rfl dX8_resize_31 ?_
  refine g_iload_n (pc := 34) (i := 1) C dX8_resize_34 rfl rfl ?_
  refine g_iload_n (pc := 35) (i := 2) C dX8_resize_35 rfl rfl ?_
  refine g_iload_n (pc := 36) (i := 3) C dX8_resize_36 rfl rfl ?_
  refine g_callVv (pc := 37) (As := [.int (p1), .int (p2), .int (p3)]) C (kX1_setSize X σ10 (1 + 5) p1 p2 p3 (st_pl ok_now)) (blk (st_pl ok_now) 0 rfl) rfl q_29_19 q_29_20 q_29_21 q_2_23 q_29_22 ⟨rfl, hdX1_setSize⟩ ⟨Nat.le_of_ble_eq_true rfl, Nat.le_of_ble_eq_true rfl, rfl, rfl⟩ ⟨Nat.le_of_ble_eq_true rfl, Nat.le_of_ble_eq_true rfl⟩ (Nat.le_of_ble_eq_true rfl) rfl rfl dX8_resize_37 (fun σ11 _ => ?_)
  refine g_aload_n (pc := 40) (i := 0) C dX8_resize_40 rfl rfl ?_
  refine g_getr (pc := 41) (ci := 8) (N := 8) (T := TX8) (j := 4) (Cn := RX8) 422 C rfl inlX8 (Nat.le_of_ble_eq_true rfl) q_1_21 ok_dl rfl dX8_resize_41 ?_
  refine g_aload_n (pc := 44) (i := 0) C dX8_resize_44 rfl rfl ?_
  refine g_getr (pc := 45) (ci := 8) (N := 8) (T := TX8) (j := 0) (Cn := RX8) 1 C rfl inlX8 (Nat.le_of_ble_eq_true rfl) q_1_16 ok_dl rfl dX8_resize_45 ?_
  refine g_callVv (pc := 48) (As := [.ref (X.ad 1)]) C (kX2_compute X σ11 422 1 ok_pn ok_now) (blk ok_pn 0 rfl) rfl q_15_1 q_15_2 q_15_3 q_1_20 q_15_4 ⟨rfl, hdX2_compute⟩ ⟨Nat.le_of_ble_eq_true rfl, Nat.le_of_ble_eq_true rfl, rfl, rfl⟩ ⟨Nat.le_of_ble_eq_true rfl, Nat.le_of_ble_eq_true rfl⟩ (Nat.le_of_ble_eq_true rfl) rfl rfl dX8_resize_48 (fun σ12 _ => ?_)
  refine g_aload_n (pc := 51) (i := 0) C dX8_resize_51 rfl rfl ?_
  refine g_getr (pc := 52) (ci := 8) (N := 8) (T := TX8) (j := 0) (Cn := RX8) 1 C rfl inlX8 (Nat.le_of_ble_eq_true rfl) q_1_16 ok_dl rfl dX8_resize_52 ?_
  refine g_getNr (pc := 55) (ci := 4) (N := 7) (T := TX4) (j := 4) (Cn := RX4) (1 + 5) C rfl inlX4 (Nat.le_of_ble_eq_true rfl) (List.mem_of_getElem? (i := 10) rfl) (blk ok_now 0 rfl) rfl dX8_resize_55 ?_
  refine g_iload_n (pc := 58) (i := 1) C dX8_resize_58 rfl rfl ?_
  refine g_callVi (pc := 59) (As := [.int (p1)]) C (kX1_panesIn X σ12 (1 + 5) p1 (st_pl ok_now)) (blk (st_pl ok_now) 0 rfl) rfl q_29_23 q_30_0 q_30_1 q_2_23 q_30_2 ⟨rfl, hdX1_panesIn⟩ ⟨Nat.le_of_ble_eq_true rfl, Nat.le_of_ble_eq_true rfl, rfl, rfl⟩ ⟨Nat.le_of_ble_eq_true rfl, Nat.le_of_ble_eq_true rfl⟩ (Nat.le_of_ble_eq_true rfl) rfl rfl dX8_resize_59 (fun r13 _ => ?_)
  exact g_xiret (pc := 62) C hr dX8_resize_62 (Nat.le_of_ble_eq_true rfl) (Nat.le_of_ble_eq_true rfl) (fun t hP hF => ⟨⟨_, (), rfl, rfl, hP⟩, hF⟩)
theorem dX8_requireFloating_0 : decode cX8_requireFloating 0 = .ok (.iload_n 0, 1) := by decide +kernel
theorem dX8_requireFloating_1 : decode cX8_requireFloating 1 = .ok (.ifCond .ne 14, 3) := by decide +kernel
theorem dX8_requireFloating_4 : decode cX8_requireFloating 4 = .ok (.new 56, 3) := by decide +kernel
theorem dX8_requireFloating_7 : decode cX8_requireFloating 7 = .ok (.dup, 1) := by decide +kernel
theorem dX8_requireFloating_8 : decode cX8_requireFloating 8 = .ok (.ldc_w 409, 3) := by decide +kernel
theorem dX8_requireFloating_11 : decode cX8_requireFloating 11 = .ok (.invokespecial 60, 3) := by decide +kernel
theorem dX8_requireFloating_14 : decode cX8_requireFloating 14 = .ok (.athrow, 1) := by decide +kernel
theorem dX8_requireFloating_15 : decode cX8_requireFloating 15 = .ok (.return_, 1) := by decide +kernel
abbrev rmX8_requireFloating : Room := { frames := 7, cells := 1, slots := 6, locals := 110 }
theorem hdX8_requireFloating : yX8_requireFloating.cls ≠ "java/lang/invoke/MethodHandle" ∧ yX8_requireFloating.cls ≠ "java/lang/invoke/VarHandle" ∧ (parseMethodDescriptor yX8_requireFloating.desc).map (fun d => d.parameters.length) = some 1 := by decide +kernel
def fX8_requireFloating (σ : Sg) (p0 : Int32) : Option (Unit ⊕ Nat) :=
  if p0 = 0 then
    some (.inr 2)
  else
    some (.inl ())
theorem kX8_requireFloating (X : Xc) (σ : Sg) (p0 : Int32) (hfl : X.l.stackTraces = false) : ∀ r, fX8_requireFloating σ p0 = some r → vx_Met X.l yX8_requireFloating (wsM yX8_requireFloating cX8_requireFloating 1 none) rmX8_requireFloating (va_Pc [.int p0] (PW X σ)) (CXv X r σ) (CXx X r σ) 1 6 X.A := by
  refine xt_of (own := RX8) (lo := [some (.int (p0))]) (by decide) rfl (Nat.le_of_ble_eq_true rfl) rfl (fun K C hr hex => ?_)
  unfold fX8_requireFloating
  refine g_iload_n (pc := 0) (i := 0) C dX8_requireFloating_0 rfl rfl ?_
  refine g_if_ne (pc := 1) (tgt := 15) C dX8_requireFloating_1 rfl ?_ ?_
  · exact g_throwW (pc := 4) (e := 2) (cls := "java/lang/IllegalStateException") (text := "it is the main window") (ik := 56) (is := 409) (ic := 60) C hex hfl rfl (by decide +kernel) q_7_2 q_7_3 (List.mem_of_getElem? (i := 16) rfl) (xat_2 C.ts C.k) xgood_2 dX8_requireFloating_4 dX8_requireFloating_7 dX8_requireFloating_8 dX8_requireFloating_11 dX8_requireFloating_14 (Nat.le_of_ble_eq_true rfl) (Nat.le_of_ble_eq_true rfl) (Nat.le_of_ble_eq_true rfl) (Nat.le_of_ble_eq_true rfl) (Nat.le_of_ble_eq_true rfl) (Nat.le_of_ble_eq_true rfl) (fun t hP hF => ⟨(), trivial, ⟨⟨_, rfl, rfl⟩, hP⟩, hF⟩)
  · exact g_xvret (pc := 15) C hr dX8_requireFloating_15 (Nat.le_of_ble_eq_true rfl) (Nat.le_of_ble_eq_true rfl) (fun t hP hF => ⟨⟨(), rfl, rfl, hP⟩, hF⟩)
theorem dX8_move_0 : decode cX8_move 0 = .ok (.aload_n 0, 1) := by decide +kernel
theorem dX8_move_1 : decode cX8_move 1 = .ok (.iload_n 1, 1) := by decide +kernel
theorem dX8_move_2 : decode cX8_move 2 = .ok (.invokevirtual 173, 3) := by decide +kernel
theorem dX8_move_5 : decode cX8_move 5 = .ok (.iload_n 2, 1) := by decide +kernel
theorem dX8_move_6 : decode cX8_move 6 = .ok (.sipush (-400), 3) := by decide +kernel
theorem dX8_move_9 : decode cX8_move 9 = .ok (.sipush 400, 3) := by decide +kernel
theorem dX8_move_12 : decode cX8_move 12 = .ok (.invokestatic 123, 3) := by decide +kernel
theorem dX8_move_15 : decode cX8_move 15 = .ok (.iload_n 3, 1) := by decide +kernel
theorem dX8_move_16 : decode cX8_move 16 = .ok (.sipush (-400), 3) := by decide +kernel
theorem dX8_move_19 : decode cX8_move 19 = .ok (.sipush 400, 3) := by decide +kernel
theorem dX8_move_22 : decode cX8_move 22 = .ok (.invokestatic 123, 3) := by decide +kernel
theorem dX8_move_25 : decode cX8_move 25 = .ok (.iload_n 1, 1) := by decide +kernel
theorem dX8_move_26 : decode cX8_move 26 = .ok (.invokestatic 182, 3) := by decide +kernel
theorem dX8_move_29 : decode cX8_move 29 = .ok (.aload_n 0, 1) := by decide +kernel
theorem dX8_move_30 : decode cX8_move 30 = .ok (.invokevirtual 63, 3) := by decide +kernel
theorem dX8_move_33 : decode cX8_move 33 = .ok (.aload_n 0, 1) := by decide +kernel
theorem dX8_move_34 : decode cX8_move 34 = .ok (.getfield 10, 3) := by decide +kernel
theorem dX8_move_37 : decode cX8_move 37 = .ok (.getfield 77, 3) := by decide +kernel
theorem dX8_move_40 : decode cX8_move 40 = .ok (.getfield 185, 3) := by decide +kernel
theorem dX8_move_43 : decode cX8_move 43 = .ok (.iload_n 1, 1) := by decide +kernel
theorem dX8_move_44 : decode cX8_move 44 = .ok (.invokestatic 116, 3) := by decide +kernel
theorem dX8_move_47 : decode cX8_move 47 = .ok (.istore 4, 2) := by decide +kernel
theorem dX8_move_49 : decode cX8_move 49 = .ok (.aload_n 0, 1) := by decide +kernel
theorem dX8_move_50 : decode cX8_move 50 = .ok (.getfield 10, 3) := by decide +kernel
theorem dX8_move_53 : decode cX8_move 53 = .ok (.getfield 77, 3) := by decide +kernel
theorem dX8_move_56 : decode cX8_move 56 = .ok (.iload_n 1, 1) := by decide +kernel
theorem dX8_move_57 : decode cX8_move 57 = .ok (.iload_n 2, 1) := by decide +kernel
theorem dX8_move_58 : decode cX8_move 58 = .ok (.iload_n 3, 1) := by decide +kernel
theorem dX8_move_59 : decode cX8_move 59 = .ok (.invokevirtual 188, 3) := by decide +kernel
theorem dX8_move_62 : decode cX8_move 62 = .ok (.aload_n 0, 1) := by decide +kernel
theorem dX8_move_63 : decode cX8_move 63 = .ok (.getfield 23, 3) := by decide +kernel
theorem dX8_move_66 : decode cX8_move 66 = .ok (.aload_n 0, 1) := by decide +kernel
theorem dX8_move_67 : decode cX8_move 67 = .ok (.getfield 10, 3) := by decide +kernel
theorem dX8_move_70 : decode cX8_move 70 = .ok (.invokevirtual 98, 3) := by decide +kernel
theorem dX8_move_73 : decode cX8_move 73 = .ok (.iload 4, 2) := by decide +kernel
theorem dX8_move_75 : decode cX8_move 75 = .ok (.ireturn, 1) := by decide +kernel
abbrev rmX8_move : Room := { frames := 8, cells := 4, slots := 24, locals := 213 }
theorem hdX8_move : yX8_move.cls ≠ "java/lang/invoke/MethodHandle" ∧ yX8_move.cls ≠ "java/lang/invoke/VarHandle" ∧ (parseMethodDescriptor yX8_move.desc).map (fun d => d.parameters.length) = some 3 := by decide +kernel
def fX8_move (σ : Sg) (p1 : Int32) (p2 : Int32) (p3 : Int32) : Option ((Int32 ⊕ Nat) × Sg) :=
  (fX8_requireWindow σ p1).bind fun r1 => xcat r1 (fun e3 => some (.inr e3, σ)) fun w2 =>
  (fX8_requireRange σ p2 (-400) 400).bind fun r4 => xcat r4 (fun e6 => some (.inr e6, σ)) fun w5 =>
  (fX8_requireRange σ p3 (-400) 400).bind fun r7 => xcat r7 (fun e9 => some (.inr e9, σ)) fun w8 =>
  (fX8_requireFloating σ p1).bind fun r10 => xcat r10 (fun e12 => some (.inr e12, σ)) fun w11 =>
  (fX8_keepRecord σ).bind fun σ13 =>
  (fX8_at σ13 ((1 + 5) + 1) 5 p1).bind fun r14 =>
  (fX1_setCorner σ13 (1 + 5) p1 p2 p3).bind fun σ15 =>
  (fX2_compute σ15 422 1).bind fun σ16 =>
  some (.inl r14, σ16)
theorem kX8_move (X : Xc) (σ : Sg) (p1 : Int32) (p2 : Int32) (p3 : Int32) (hfl : X.l.stackTraces = false) : ∀ r, fX8_move σ p1 p2 p3 = some r → vx_Met X.l yX8_move (wsM yX8_move cX8_move 5 (some .int)) rmX8_move (va_Pc [.ref (X.ad 0), .int p1, .int p2, .int p3] (PW X σ)) (CXi X r.1 r.2) (CXx X r.1 r.2) 4 24 X.A := by
  refine xt_of (own := RX8) (lo := [some (.ref (X.ad 0)), some (.int (p1)), some (.int (p2)), some (.int (p3)), none]) (by decide) rfl (Nat.le_of_ble_eq_true rfl) rfl (fun K C hr hex => ?_)
  unfold fX8_move
  refine g_aload_n (pc := 0) (i := 0) C dX8_move_0 rfl rfl ?_
  refine g_iload_n (pc := 1) (i := 1) C dX8_move_1 rfl rfl ?_
  refine g_xcallVv (pc := 2) (As := [.int (p1)]) C (kX8_requireWindow X σ p1 hfl) ok_dl rfl q_29_10 q_29_11 q_29_12 q_1_2 q_29_13 ⟨rfl, hdX8_requireWindow⟩ ⟨Nat.le_of_ble_eq_true rfl, Nat.le_of_ble_eq_true rfl, rfl, rfl, Nat.le_of_ble_eq_true rfl, Nat.le_of_ble_eq_true rfl⟩ (Nat.le_of_ble_eq_true rfl) rfl rfl dX8_move_2 (fun r1 e3 _ _ => ?_) (fun r1 w2 _ _ => ?_)
  · exact gx_out C hex (Nat.le_of_ble_eq_true rfl) (Nat.le_of_ble_eq_true rfl) (fun t hP hF => ⟨(), trivial, ⟨⟨_, rfl, rfl⟩, hP⟩, hF⟩)
  refine g_iload_n (pc := 5) (i := 2) C dX8_move_5 rfl rfl ?_
  refine g_sipush (pc := 6) (v := (-400)) C dX8_move_6 (by decide) ?_
  refine g_sipush (pc := 9) (v := 400) C dX8_move_9 (by decide) ?_
  refine g_xcallSv (pc := 12) (As := [.int (p2), .int ((-400)), .int (400)]) C (kX8_requireRange X σ p2 (-400) 400 hfl) q_7_7 q_7_8 q_1_2 q_7_9 hdX8_requireRange ⟨Nat.le_of_ble_eq_true rfl, Nat.le_of_ble_eq_true rfl, rfl, rfl, Nat.le_of_ble_eq_true rfl, Nat.le_of_ble_eq_true rfl⟩ (Nat.le_of_ble_eq_true rfl) rfl rfl dX8_move_12 (fun r4 e6 _ _ => ?_) (fun r4 w5 _ _ => ?_)
  · exact gx_out C hex (Nat.le_of_ble_eq_true rfl) (Nat.le_of_ble_eq_true rfl) (fun t hP hF => ⟨(), trivial, ⟨⟨_, rfl, rfl⟩, hP⟩, hF⟩)
  refine g_iload_n (pc := 15) (i := 3) C dX8_move_15 rfl rfl ?_
  refine g_sipush (pc := 16) (v := (-400)) C dX8_move_16 (by decide) ?_
  refine g_sipush (pc := 19) (v := 400) C dX8_move_19 (by decide) ?_
  refine g_xcallSv (pc := 22) (As := [.int (p3), .int ((-400)), .int (400)]) C (kX8_requireRange X σ p3 (-400) 400 hfl) q_7_7 q_7_8 q_1_2 q_7_9 hdX8_requireRange ⟨Nat.le_of_ble_eq_true rfl, Nat.le_of_ble_eq_true rfl, rfl, rfl, Nat.le_of_ble_eq_true rfl, Nat.le_of_ble_eq_true rfl⟩ (Nat.le_of_ble_eq_true rfl) rfl rfl dX8_move_22 (fun r7 e9 _ _ => ?_) (fun r7 w8 _ _ => ?_)
  · exact gx_out C hex (Nat.le_of_ble_eq_true rfl) (Nat.le_of_ble_eq_true rfl) (fun t hP hF => ⟨(), trivial, ⟨⟨_, rfl, rfl⟩, hP⟩, hF⟩)
  refine g_iload_n (pc := 25) (i := 1) C dX8_move_25 rfl rfl ?_
  refine g_xcallSv (pc := 26) (As := [.int (p1)]) C (kX8_requireFloating X σ p1 hfl) q_30_18 q_30_19 q_1_2 q_30_20 hdX8_requireFloating ⟨Nat.le_of_ble_eq_true rfl, Nat.le_of_ble_eq_true rfl, rfl, rfl, Nat.le_of_ble_eq_true rfl, Nat.le_of_ble_eq_true rfl⟩ (Nat.le_of_ble_eq_true rfl) rfl rfl dX8_move_26 (fun r10 e12 _ _ => ?_) (fun r10 w11 _ _ => ?_)
  · exact gx_out C hex (Nat.le_of_ble_eq_true rfl) (Nat.le_of_ble_eq_true rfl) (fun t hP hF => ⟨(), trivial, ⟨⟨_, rfl, rfl⟩, hP⟩, hF⟩)
  refine g_aload_n (pc := 29) (i := 0) C dX8_move_29 rfl rfl ?_
  refine g_callVv (pc := 30) (As := []) C (kX8_keepRecord X σ) ok_dl rfl q_7_21 q_7_22 q_7_23 q_1_2 q_8_0 ⟨rfl, hdX8_keepRecord⟩ ⟨Nat.le_of_ble_eq_true rfl, Nat.le_of_ble_eq_true rfl, rfl, rfl⟩ ⟨Nat.le_of_ble_eq_true rfl, Nat.le_of_ble_eq_true rfl⟩ (Nat.le_of_ble_eq_true rfl) rfl rfl dX8_move_30 (fun σ13 _ => ?_)
  refine g_aload_n (pc := 33) (i := 0) C dX8_move_33 rfl rfl ?_
  refine g_getr (pc := 34) (ci := 8) (N := 8) (T := TX8) (j := 0) (Cn := RX8) 1 C rfl inlX8 (Nat.le_of_ble_eq_true rfl) q_1_16 ok_dl rfl dX8_move_34 ?_
  refine g_getNr (pc := 37) (ci := 4) (N := 7) (T := TX4) (j := 4) (Cn := RX4) (1 + 5) C rfl inlX4 (Nat.le_of_ble_eq_true rfl) (List.mem_of_getElem? (i := 10) rfl) (blk ok_now 0 rfl) rfl dX8_move_37 ?_
  refine g_getNr (pc := 40) (ci := 1) (N := 14) (T := TX1) (j := 0) (Cn := RX1) ((1 + 5) + 1) C rfl inlX1 (Nat.le_of_ble_eq_true rfl) (List.mem_of_getElem? (i := 15) rfl) (blk (st_pl ok_now) 0 rfl) rfl dX8_move_40 ?_
  refine g_iload_n (pc := 43) (i := 1) C dX8_move_43 rfl rfl ?_
  refine g_callSi (pc := 44) (As := [.ref (X.ad ((1 + 5) + 1)), .int (p1)]) C (kX8_at X σ13 ((1 + 5) + 1) 5 p1 (blk (st_pl ok_now) 1 rfl)) q_23_22 q_11_22 q_1_2 q_11_23 hdX8_at ⟨Nat.le_of_ble_eq_true rfl, Nat.le_of_ble_eq_true rfl, rfl, rfl⟩ ⟨Nat.le_of_ble_eq_true rfl, Nat.le_of_ble_eq_true rfl⟩ (Nat.le_of_ble_eq_true rfl) rfl rfl dX8_move_44 (fun r14 _ => ?_)
  refine g_istore (pc := 47) C dX8_move_47 (Nat.le_of_ble_eq_true rfl) rfl ?_
  refine g_aload_n (pc := 49) (i := 0) C dX8_move_49 rfl rfl ?_
  refine g_getr (pc := 50) (ci := 8) (N := 8) (T := TX8) (j := 0) (Cn := RX8) 1 C rfl inlX8 (Nat.le_of_ble_eq_true rfl) q_1_16 ok_dl rfl dX8_move_50 ?_
  refine g_getNr (pc := 53) (ci := 4) (N := 7) (T := TX4) (j := 4) (Cn := RX4) (1 + 5) C rfl inlX4 (Nat.le_of_ble_eq_true rfl) (List.mem_of_getElem? (i := 10) rfl) (blk ok_now 0 rfl) rfl dX8_move_53 ?_
  refine g_iload_n (pc := 56) (i := 1) C dX8_move_56 rfl rfl ?_
  refine g_iload_n (pc := 57) (i := 2) C dX8_move_57 rfl rfl ?_
  refine g_iload_n (pc := 58) (i := 3) C dX8_move_58 rfl rfl ?_
  refine g_callVv (pc := 59) (As := [.int (p1), .int (p2), .int (p3)]) C (kX1_setCorner X σ13 (1 + 5) p1 p2 p3 (st_pl ok_now)) (blk (st_pl ok_now) 0 rfl) rfl q_30_21 q_30_22 q_30_23 q_2_23 q_31_0 ⟨rfl, hdX1_setCorner⟩ ⟨Nat.le_of_ble_eq_true rfl, Nat.le_of_ble_eq_true rfl, rfl, rfl⟩ ⟨Nat.le_of_ble_eq_true rfl, Nat.le_of_ble_eq_true rfl⟩ (Nat.le_of_ble_eq_true rfl) rfl rfl dX8_move_59 (fun σ15 _ => ?_)
  refine g_aload_n (pc := 62) (i := 0) C dX8_move_62 rfl rfl ?_
  refine g_getr (pc := 63) (ci := 8) (N := 8) (T := TX8) (j := 4) (Cn := RX8) 422 C rfl inlX8 (Nat.le_of_ble_eq_true rfl) q_1_21 ok_dl rfl dX8_move_63 ?_
  refine g_aload_n (pc := 66) (i := 0) C dX8_move_66 rfl rfl ?_
  refine g_getr (pc := 67) (ci := 8) (N := 8) (T := TX8) (j := 0) (Cn := RX8) 1 C rfl inlX8 (Nat.le_of_ble_eq_true rfl) q_1_16 ok_dl rfl dX8_move_67 ?_
  refine g_callVv (pc := 70) (As := [.ref (X.ad 1)]) C (kX2_compute X σ15 422 1 ok_pn ok_now) (blk ok_pn 0 rfl) rfl q_15_1 q_15_2 q_15_3 q_1_20 q_15_4 ⟨rfl, hdX2_compute⟩ ⟨Nat.le_of_ble_eq_true rfl, Nat.le_of_ble_eq_true rfl, rfl, rfl⟩ ⟨Nat.le_of_ble_eq_true rfl, Nat.le_of_ble_eq_true rfl⟩ (Nat.le_of_ble_eq_true rfl) rfl rfl dX8_move_70 (fun σ16 _ => ?_)
  refine g_iload (pc := 73) C dX8_move_73 rfl ?_
  exact g_xiret (pc := 75) C hr dX8_move_75 (Nat.le_of_ble_eq_true rfl) (Nat.le_of_ble_eq_true rfl) (fun t hP hF => ⟨⟨_, (), rfl, rfl, hP⟩, hF⟩)
theorem dX8_raise_0 : decode cX8_raise 0 = .ok (.aload_n 0, 1) := by decide +kernel
theorem dX8_raise_1 : decode cX8_raise 1 = .ok (.iload_n 1, 1) := by decide +kernel
theorem dX8_raise_2 : decode cX8_raise 2 = .ok (.invokevirtual 173, 3) := by decide +kernel
theorem dX8_raise_5 : decode cX8_raise 5 = .ok (.iload_n 1, 1) := by decide +kernel
theorem dX8_raise_6 : decode cX8_raise 6 = .ok (.invokestatic 182, 3) := by decide +kernel
theorem dX8_raise_9 : decode cX8_raise 9 = .ok (.aload_n 0, 1) := by decide +kernel
theorem dX8_raise_10 : decode cX8_raise 10 = .ok (.invokevirtual 63, 3) := by decide +kernel
theorem dX8_raise_13 : decode cX8_raise 13 = .ok (.aload_n 0, 1) := by decide +kernel
theorem dX8_raise_14 : decode cX8_raise 14 = .ok (.getfield 10, 3) := by decide +kernel
theorem dX8_raise_17 : decode cX8_raise 17 = .ok (.getfield 77, 3) := by decide +kernel
theorem dX8_raise_20 : decode cX8_raise 20 = .ok (.getfield 191, 3) := by decide +kernel
theorem dX8_raise_23 : decode cX8_raise 23 = .ok (.iload_n 1, 1) := by decide +kernel
theorem dX8_raise_24 : decode cX8_raise 24 = .ok (.invokevirtual 194, 3) := by decide +kernel
theorem dX8_raise_27 : decode cX8_raise 27 = .ok (.istore_n 2, 1) := by decide +kernel
theorem dX8_raise_28 : decode cX8_raise 28 = .ok (.aload_n 0, 1) := by decide +kernel
theorem dX8_raise_29 : decode cX8_raise 29 = .ok (.getfield 10, 3) := by decide +kernel
theorem dX8_raise_32 : decode cX8_raise 32 = .ok (.getfield 77, 3) := by decide +kernel
theorem dX8_raise_35 : decode cX8_raise 35 = .ok (.getfield 191, 3) := by decide +kernel
theorem dX8_raise_38 : decode cX8_raise 38 = .ok (.iload_n 1, 1) := by decide +kernel
theorem dX8_raise_39 : decode cX8_raise 39 = .ok (.invokevirtual 197, 3) := by decide +kernel
theorem dX8_raise_42 : decode cX8_raise 42 = .ok (.iload_n 2, 1) := by decide +kernel
theorem dX8_raise_43 : decode cX8_raise 43 = .ok (.ireturn, 1) := by decide +kernel
abbrev rmX8_raise : Room := { frames := 8, cells := 2, slots := 12, locals := 195 }
theorem hdX8_raise : yX8_raise.cls ≠ "java/lang/invoke/MethodHandle" ∧ yX8_raise.cls ≠ "java/lang/invoke/VarHandle" ∧ (parseMethodDescriptor yX8_raise.desc).map (fun d => d.parameters.length) = some 1 := by decide +kernel
def fX8_raise (σ : Sg) (p1 : Int32) : Option ((Int32 ⊕ Nat) × Sg) :=
  (fX8_requireWindow σ p1).bind fun r1 => xcat r1 (fun e3 => some (.inr e3, σ)) fun w2 =>
  (fX8_requireFloating σ p1).bind fun r4 => xcat r4 (fun e6 => some (.inr e6, σ)) fun w5 =>
  (fX8_keepRecord σ).bind fun σ7 =>
  (fX0_indexOf σ7 ((1 + 5) + 6) p1).bind fun r8 =>
  (fX0_putLast σ7 ((1 + 5) + 6) p1).bind fun σ9 =>
  some (.inl r8, σ9)
theorem kX8_raise (X : Xc) (σ : Sg) (p1 : Int32) (hfl : X.l.stackTraces = false) : ∀ r, fX8_raise σ p1 = some r → vx_Met X.l yX8_raise (wsM yX8_raise cX8_raise 3 (some .int)) rmX8_raise (va_Pc [.ref (X.ad 0), .int p1] (PW X σ)) (CXi X r.1 r.2) (CXx X r.1 r.2) 2 12 X.A := by
  refine xt_of (own := RX8) (lo := [some (.ref (X.ad 0)), some (.int (p1)), none]) (by decide) rfl (Nat.le_of_ble_eq_true rfl) rfl (fun K C hr hex => ?_)
  unfold fX8_raise
  refine g_aload_n (pc := 0) (i := 0) C dX8_raise_0 rfl rfl ?_
  refine g_iload_n (pc := 1) (i := 1) C dX8_raise_1 rfl rfl ?_
  refine g_xcallVv (pc := 2) (As := [.int (p1)]) C (kX8_requireWindow X σ p1 hfl) ok_dl rfl q_29_10 q_29_11 q_29_12 q_1_2 q_29_13 ⟨rfl, hdX8_requireWindow⟩ ⟨Nat.le_of_ble_eq_true rfl, Nat.le_of_ble_eq_true rfl, rfl, rfl, Nat.le_of_ble_eq_true rfl, Nat.le_of_ble_eq_true rfl⟩ (Nat.le_of_ble_eq_true rfl) rfl rfl dX8_raise_2 (fun r1 e3 _ _ => ?_) (fun r1 w2 _ _ => ?_)
  · exact gx_out C hex (Nat.le_of_ble_eq_true rfl) (Nat.le_of_ble_eq_true rfl) (fun t hP hF => ⟨(), trivial, ⟨⟨_, rfl, rfl⟩, hP⟩, hF⟩)
  refine g_iload_n (pc := 5) (i := 1) C dX8_raise_5 rfl rfl ?_
  refine g_xcallSv (pc := 6) (As := [.int (p1)]) C (kX8_requireFloating X σ p1 hfl) q_30_18 q_30_19 q_1_2 q_30_20 hdX8_requireFloating ⟨Nat.le_of_ble_eq_true rfl, Nat.le_of_ble_eq_true rfl, rfl, rfl, Nat.le_of_ble_eq_true rfl, Nat.le_of_ble_eq_true rfl⟩ (Nat.le_of_ble_eq_true rfl) rfl rfl dX8_raise_6 (fun r4 e6 _ _ => ?_) (fun r4 w5 _ _ => ?_)
  · exact gx_out C hex (Nat.le_of_ble_eq_true rfl) (Nat.le_of_ble_eq_true rfl) (fun t hP hF => ⟨(), trivial, ⟨⟨_, rfl, rfl⟩, hP⟩, hF⟩)
  refine g_aload_n (pc := 9) (i := 0) C dX8_raise_9 rfl rfl ?_
  refine g_callVv (pc := 10) (As := []) C (kX8_keepRecord X σ) ok_dl rfl q_7_21 q_7_22 q_7_23 q_1_2 q_8_0 ⟨rfl, hdX8_keepRecord⟩ ⟨Nat.le_of_ble_eq_true rfl, Nat.le_of_ble_eq_true rfl, rfl, rfl⟩ ⟨Nat.le_of_ble_eq_true rfl, Nat.le_of_ble_eq_true rfl⟩ (Nat.le_of_ble_eq_true rfl) rfl rfl dX8_raise_10 (fun σ7 _ => ?_)
  refine g_aload_n (pc := 13) (i := 0) C dX8_raise_13 rfl rfl ?_
  refine g_getr (pc := 14) (ci := 8) (N := 8) (T := TX8) (j := 0) (Cn := RX8) 1 C rfl inlX8 (Nat.le_of_ble_eq_true rfl) q_1_16 ok_dl rfl dX8_raise_14 ?_
  refine g_getNr (pc := 17) (ci := 4) (N := 7) (T := TX4) (j := 4) (Cn := RX4) (1 + 5) C rfl inlX4 (Nat.le_of_ble_eq_true rfl) (List.mem_of_getElem? (i := 10) rfl) (blk ok_now 0 rfl) rfl dX8_raise_17 ?_
  refine g_getNr (pc := 20) (ci := 1) (N := 14) (T := TX1) (j := 5) (Cn := RX1) ((1 + 5) + 6) C rfl inlX1 (Nat.le_of_ble_eq_true rfl) (List.mem_of_getElem? (i := 16) rfl) (blk (st_pl ok_now) 0 rfl) rfl dX8_raise_20 ?_
  refine g_iload_n (pc := 23) (i := 1) C dX8_raise_23 rfl rfl ?_
  refine g_callVi (pc := 24) (As := [.int (p1)]) C (kX0_indexOf X σ7 ((1 + 5) + 6) p1 (pl_or (st_pl ok_now))) (blk (pl_or (st_pl ok_now)) 0 rfl) rfl q_31_12 q_13_17 q_13_18 q_2_19 q_13_19 ⟨rfl, hdX0_indexOf⟩ ⟨Nat.le_of_ble_eq_true rfl, Nat.le_of_ble_eq_true rfl, rfl, rfl⟩ ⟨Nat.le_of_ble_eq_true rfl, Nat.le_of_ble_eq_true rfl⟩ (Nat.le_of_ble_eq_true rfl) rfl rfl dX8_raise_24 (fun r8 _ => ?_)
  refine g_istore_n (pc := 27) (i := 2) C dX8_raise_27 rfl (Nat.le_of_ble_eq_true rfl) rfl ?_
  refine g_aload_n (pc := 28) (i := 0) C dX8_raise_28 rfl rfl ?_
  refine g_getr (pc := 29) (ci := 8) (N := 8) (T := TX8) (j := 0) (Cn := RX8) 1 C rfl inlX8 (Nat.le_of_ble_eq_true rfl) q_1_16 ok_dl rfl dX8_raise_29 ?_
  refine g_getNr (pc := 32) (ci := 4) (N := 7) (T := TX4) (j := 4) (Cn := RX4) (1 + 5) C rfl inlX4 (Nat.le_of_ble_eq_true rfl) (List.mem_of_getElem? (i := 10) rfl) (blk ok_now 0 rfl) rfl dX8_raise_32 ?_
  refine g_getNr (pc := 35) (ci := 1) (N := 14) (T := TX1) (j := 5) (Cn := RX1) ((1 + 5) + 6) C rfl inlX1 (Nat.le_of_ble_eq_true rfl) (List.mem_of_getElem? (i := 16) rfl) (blk (st_pl ok_now) 0 rfl) rfl dX8_raise_35 ?_
  refine g_iload_n (pc := 38) (i := 1) C dX8_raise_38 rfl rfl ?_
  refine g_callVv (pc := 39) (As := [.int (p1)]) C (kX0_putLast X σ7 ((1 + 5) + 6) p1 (pl_or (st_pl ok_now))) (blk (pl_or (st_pl ok_now)) 0 rfl) rfl q_31_13 q_31_14 q_31_15 q_2_19 q_31_16 ⟨rfl, hdX0_putLast⟩ ⟨Nat.le_of_ble_eq_true rfl, Nat.le_of_ble_eq_true rfl, rfl, rfl⟩ ⟨Nat.le_of_ble_eq_true rfl, Nat.le_of_ble_eq_true rfl⟩ (Nat.le_of_ble_eq_true rfl) rfl rfl dX8_raise_39 (fun σ9 _ => ?_)
  refine g_iload_n (pc := 42) (i := 2) C dX8_raise_42 rfl rfl ?_
  exact g_xiret (pc := 43) C hr dX8_raise_43 (Nat.le_of_ble_eq_true rfl) (Nat.le_of_ble_eq_true rfl) (fun t hP hF => ⟨⟨_, (), rfl, rfl, hP⟩, hF⟩)
theorem dX8_window_0 : decode cX8_window 0 = .ok (.aload_n 0, 1) := by decide +kernel
theorem dX8_window_1 : decode cX8_window 1 = .ok (.iload_n 1, 1) := by decide +kernel
theorem dX8_window_2 : decode cX8_window 2 = .ok (.invokevirtual 173, 3) := by decide +kernel
theorem dX8_window_5 : decode cX8_window 5 = .ok (.iload_n 2, 1) := by decide +kernel
theorem dX8_window_6 : decode cX8_window 6 = .ok (.iconst 0, 1) := by decide +kernel
theorem dX8_window_7 : decode cX8_window 7 = .ok (.bipush 7, 2) := by decide +kernel
theorem dX8_window_9 : decode cX8_window 9 = .ok (.invokestatic 123, 3) := by decide +kernel
theorem dX8_window_12 : decode cX8_window 12 = .ok (.aload_n 0, 1) := by decide +kernel
theorem dX8_window_13 : decode cX8_window 13 = .ok (.getfield 10, 3) := by decide +kernel
theorem dX8_window_16 : decode cX8_window 16 = .ok (.getfield 77, 3) := by decide +kernel
theorem dX8_window_19 : decode cX8_window 19 = .ok (.astore_n 3, 1) := by decide +kernel
theorem dX8_window_20 : decode cX8_window 20 = .ok (.aload_n 3, 1) := by decide +kernel
theorem dX8_window_21 : decode cX8_window 21 = .ok (.iload_n 1, 1) := by decide +kernel
theorem dX8_window_22 : decode cX8_window 22 = .ok (.invokevirtual 200, 3) := by decide +kernel
theorem dX8_window_25 : decode cX8_window 25 = .ok (.istore 4, 2) := by decide +kernel
theorem dX8_window_27 : decode cX8_window 27 = .ok (.iload_n 2, 1) := by decide +kernel
theorem dX8_window_28 : decode cX8_window 28 = .ok (.tableswitch 140 0 6 #[44, 53, 62, 71, 80, 86, 113], 44) := by decide +kernel
theorem dX8_window_72 : decode cX8_window 72 = .ok (.aload_n 3, 1) := by decide +kernel
theorem dX8_window_73 : decode cX8_window 73 = .ok (.getfield 185, 3) := by decide +kernel
theorem dX8_window_76 : decode cX8_window 76 = .ok (.iload_n 1, 1) := by decide +kernel
theorem dX8_window_77 : decode cX8_window 77 = .ok (.invokestatic 116, 3) := by decide +kernel
theorem dX8_window_80 : decode cX8_window 80 = .ok (.ireturn, 1) := by decide +kernel
theorem dX8_window_81 : decode cX8_window 81 = .ok (.aload_n 3, 1) := by decide +kernel
theorem dX8_window_82 : decode cX8_window 82 = .ok (.getfield 203, 3) := by decide +kernel
theorem dX8_window_85 : decode cX8_window 85 = .ok (.iload_n 1, 1) := by decide +kernel
theorem dX8_window_86 : decode cX8_window 86 = .ok (.invokestatic 116, 3) := by decide +kernel
theorem dX8_window_89 : decode cX8_window 89 = .ok (.ireturn, 1) := by decide +kernel
theorem dX8_window_90 : decode cX8_window 90 = .ok (.aload_n 3, 1) := by decide +kernel
theorem dX8_window_91 : decode cX8_window 91 = .ok (.getfield 206, 3) := by decide +kernel
theorem dX8_window_94 : decode cX8_window 94 = .ok (.iload_n 1, 1) := by decide +kernel
theorem dX8_window_95 : decode cX8_window 95 = .ok (.invokestatic 116, 3) := by decide +kernel
theorem dX8_window_98 : decode cX8_window 98 = .ok (.ireturn, 1) := by decide +kernel
theorem dX8_window_99 : decode cX8_window 99 = .ok (.aload_n 3, 1) := by decide +kernel
theorem dX8_window_100 : decode cX8_window 100 = .ok (.getfield 209, 3) := by decide +kernel
theorem dX8_window_103 : decode cX8_window 103 = .ok (.iload_n 1, 1) := by decide +kernel
theorem dX8_window_104 : decode cX8_window 104 = .ok (.invokestatic 116, 3) := by decide +kernel
theorem dX8_window_107 : decode cX8_window 107 = .ok (.ireturn, 1) := by decide +kernel
theorem dX8_window_108 : decode cX8_window 108 = .ok (.aload_n 3, 1) := by decide +kernel
theorem dX8_window_109 : decode cX8_window 109 = .ok (.iload_n 1, 1) := by decide +kernel
theorem dX8_window_110 : decode cX8_window 110 = .ok (.invokevirtual 179, 3) := by decide +kernel
theorem dX8_window_113 : decode cX8_window 113 = .ok (.ireturn, 1) := by decide +kernel
theorem dX8_window_114 : decode cX8_window 114 = .ok (.aload_n 0, 1) := by decide +kernel
theorem dX8_window_115 : decode cX8_window 115 = .ok (.getfield 23, 3) := by decide +kernel
theorem dX8_window_118 : decode cX8_window 118 = .ok (.iload 4, 2) := by decide +kernel
theorem dX8_window_120 : decode cX8_window 120 = .ok (.invokevirtual 154, 3) := by decide +kernel
theorem dX8_window_123 : decode cX8_window 123 = .ok (.ifCond .eq 16, 3) := by decide +kernel
theorem dX8_window_126 : decode cX8_window 126 = .ok (.aload_n 0, 1) := by decide +kernel
theorem dX8_window_127 : decode cX8_window 127 = .ok (.getfield 23, 3) := by decide +kernel
theorem dX8_window_130 : decode cX8_window 130 = .ok (.iload 4, 2) := by decide +kernel
theorem dX8_window_132 : decode cX8_window 132 = .ok (.iconst 0, 1) := by decide +kernel
theorem dX8_window_133 : decode cX8_window 133 = .ok (.invokevirtual 212, 3) := by decide +kernel
theorem dX8_window_136 : decode cX8_window 136 = .ok (.goto 4, 3) := by decide +kernel
theorem dX8_window_139 : decode cX8_window 139 = .ok (.iconst 0, 1) := by decide +kernel
theorem dX8_window_140 : decode cX8_window 140 = .ok (.ireturn, 1) := by decide +kernel
theorem dX8_window_141 : decode cX8_window 141 = .ok (.aload_n 0, 1) := by decide +kernel
theorem dX8_window_142 : decode cX8_window 142 = .ok (.getfield 23, 3) := by decide +kernel
theorem dX8_window_145 : decode cX8_window 145 = .ok (.iload 4, 2) := by decide +kernel
theorem dX8_window_147 : decode cX8_window 147 = .ok (.invokevirtual 154, 3) := by decide +kernel
theorem dX8_window_150 : decode cX8_window 150 = .ok (.ifCond .eq 16, 3) := by decide +kernel
theorem dX8_window_153 : decode cX8_window 153 = .ok (.aload_n 0, 1) := by decide +kernel
theorem dX8_window_154 : decode cX8_window 154 = .ok (.getfield 23, 3) := by decide +kernel
theorem dX8_window_157 : decode cX8_window 157 = .ok (.iload 4, 2) := by decide +kernel
theorem dX8_window_159 : decode cX8_window 159 = .ok (.iconst 1, 1) := by decide +kernel
theorem dX8_window_160 : decode cX8_window 160 = .ok (.invokevirtual 212, 3) := by decide +kernel
theorem dX8_window_163 : decode cX8_window 163 = .ok (.goto 4, 3) := by decide +kernel
theorem dX8_window_166 : decode cX8_window 166 = .ok (.iconst 0, 1) := by decide +kernel
theorem dX8_window_167 : decode cX8_window 167 = .ok (.ireturn, 1) := by decide +kernel
theorem dX8_window_168 : decode cX8_window 168 = .ok (.aload_n 3, 1) := by decide +kernel
theorem dX8_window_169 : decode cX8_window 169 = .ok (.getfield 191, 3) := by decide +kernel
theorem dX8_window_172 : decode cX8_window 172 = .ok (.iload_n 1, 1) := by decide +kernel
theorem dX8_window_173 : decode cX8_window 173 = .ok (.invokevirtual 194, 3) := by decide +kernel
theorem dX8_window_176 : decode cX8_window 176 = .ok (.ireturn, 1) := by decide +kernel
abbrev rmX8_window : Room := { frames := 8, cells := 2, slots := 12, locals := 132 }
theorem hdX8_window : yX8_window.cls ≠ "java/lang/invoke/MethodHandle" ∧ yX8_window.cls ≠ "java/lang/invoke/VarHandle" ∧ (parseMethodDescriptor yX8_window.desc).map (fun d => d.parameters.length) = some 2 := by decide +kernel
def fX8_window (σ : Sg) (p1 : Int32) (p2 : Int32) : Option (Int32 ⊕ Nat) :=
  (fX8_requireWindow σ p1).bind fun r1 => xcat r1 (fun e3 => some (.inr e3)) fun w2 =>
  (fX8_requireRange σ p2 0 7).bind fun r4 => xcat r4 (fun e6 => some (.inr e6)) fun w5 =>
  (fX1_rootOf σ (1 + 5) p1).bind fun r7 =>
  if p2 = 0 then
    (fX8_at σ ((1 + 5) + 1) 5 p1).bind fun r8 =>
    some (.inl r8)
  else if p2 = 1 then
    (fX8_at σ ((1 + 5) + 2) 5 p1).bind fun r9 =>
    some (.inl r9)
  else if p2 = 2 then
    (fX8_at σ ((1 + 5) + 3) 5 p1).bind fun r10 =>
    some (.inl r10)
  else if p2 = 3 then
    (fX8_at σ ((1 + 5) + 4) 5 p1).bind fun r11 =>
    some (.inl r11)
  else if p2 = 4 then
    (fX1_panesIn σ (1 + 5) p1).bind fun r12 =>
    some (.inl r12)
  else if p2 = 5 then
    (fX2_isShown σ 422 r7).bind fun r13 =>
    if r13 = true then
      (fX2_minimumOf σ 422 r7 0).bind fun r14 =>
      some (.inl r14)
    else
      some (.inl 0)
  else if p2 = 6 then
    (fX2_isShown σ 422 r7).bind fun r15 =>
    if r15 = true then
      (fX2_minimumOf σ 422 r7 1).bind fun r16 =>
      some (.inl r16)
    else
      some (.inl 0)
  else 
    (fX0_indexOf σ ((1 + 5) + 6) p1).bind fun r17 =>
    some (.inl r17)
theorem kX8_window (X : Xc) (σ : Sg) (p1 : Int32) (p2 : Int32) (hfl : X.l.stackTraces = false) : ∀ r, fX8_window σ p1 p2 = some r → vx_Met X.l yX8_window (wsM yX8_window cX8_window 5 (some .int)) rmX8_window (va_Pc [.ref (X.ad 0), .int p1, .int p2] (PW X σ)) (CXi X r σ) (CXx X r σ) 2 12 X.A := by
  refine xt_of (own := RX8) (lo := [some (.ref (X.ad 0)), some (.int (p1)), some (.int (p2)), none, none]) (by decide) rfl (Nat.le_of_ble_eq_true rfl) rfl (fun K C hr hex => ?_)
  unfold fX8_window
  refine g_aload_n (pc := 0) (i := 0) C dX8_window_0 rfl rfl ?_
  refine g_iload_n (pc := 1) (i := 1) C dX8_window_1 rfl rfl ?_
  refine g_xcallVv (pc := 2) (As := [.int (p1)]) C (kX8_requireWindow X σ p1 hfl) ok_dl rfl q_29_10 q_29_11 q_29_12 q_1_2 q_29_13 ⟨rfl, hdX8_requireWindow⟩ ⟨Nat.le_of_ble_eq_true rfl, Nat.le_of_ble_eq_true rfl, rfl, rfl, Nat.le_of_ble_eq_true rfl, Nat.le_of_ble_eq_true rfl⟩ (Nat.le_of_ble_eq_true rfl) rfl rfl dX8_window_2 (fun r1 e3 _ _ => ?_) (fun r1 w2 _ _ => ?_)
  · exact gx_out C hex (Nat.le_of_ble_eq_true rfl) (Nat.le_of_ble_eq_true rfl) (fun t hP hF => ⟨(), trivial, ⟨⟨_, rfl, rfl⟩, hP⟩, hF⟩)
  refine g_iload_n (pc := 5) (i := 2) C dX8_window_5 rfl rfl ?_
  refine g_iconst (pc := 6) (v := 0) C dX8_window_6 (by decide) ?_
  refine g_bipush (pc := 7) (v := 7) C dX8_window_7 (by decide) ?_
  refine g_xcallSv (pc := 9) (As := [.int (p2), .int (0), .int (7)]) C (kX8_requireRange X σ p2 0 7 hfl) q_7_7 q_7_8 q_1_2 q_7_9 hdX8_requireRange ⟨Nat.le_of_ble_eq_true rfl, Nat.le_of_ble_eq_true rfl, rfl, rfl, Nat.le_of_ble_eq_true rfl, Nat.le_of_ble_eq_true rfl⟩ (Nat.le_of_ble_eq_true rfl) rfl rfl dX8_window_9 (fun r4 e6 _ _ => ?_) (fun r4 w5 _ _ => ?_)
  · exact gx_out C hex (Nat.le_of_ble_eq_true rfl) (Nat.le_of_ble_eq_true rfl) (fun t hP hF => ⟨(), trivial, ⟨⟨_, rfl, rfl⟩, hP⟩, hF⟩)
  refine g_aload_n (pc := 12) (i := 0) C dX8_window_12 rfl rfl ?_
  refine g_getr (pc := 13) (ci := 8) (N := 8) (T := TX8) (j := 0) (Cn := RX8) 1 C rfl inlX8 (Nat.le_of_ble_eq_true rfl) q_1_16 ok_dl rfl dX8_window_13 ?_
  refine g_getNr (pc := 16) (ci := 4) (N := 7) (T := TX4) (j := 4) (Cn := RX4) (1 + 5) C rfl inlX4 (Nat.le_of_ble_eq_true rfl) (List.mem_of_getElem? (i := 10) rfl) (blk ok_now 0 rfl) rfl dX8_window_16 ?_
  refine g_astore_n (pc := 19) (i := 3) C dX8_window_19 rfl (Nat.le_of_ble_eq_true rfl) rfl ?_
  refine g_aload_n (pc := 20) (i := 3) C dX8_window_20 rfl rfl ?_
  refine g_iload_n (pc := 21) (i := 1) C dX8_window_21 rfl rfl ?_
  refine g_callVi (pc := 22) (As := [.int (p1)]) C (kX1_rootOf X σ (1 + 5) p1 (st_pl ok_now)) (blk (st_pl ok_now) 0 rfl) rfl q_32_9 q_15_12 q_15_13 q_2_23 q_15_14 ⟨rfl, hdX1_rootOf⟩ ⟨Nat.le_of_ble_eq_true rfl, Nat.le_of_ble_eq_true rfl, rfl, rfl⟩ ⟨Nat.le_of_ble_eq_true rfl, Nat.le_of_ble_eq_true rfl⟩ (Nat.le_of_ble_eq_true rfl) rfl rfl dX8_window_22 (fun r7 _ => ?_)
  refine g_istore (pc := 25) C dX8_window_25 (Nat.le_of_ble_eq_true rfl) rfl ?_
  refine g_iload_n (pc := 27) (i := 2) C dX8_window_27 rfl rfl ?_
  refine g_ite (fun hz => ?_) (fun hz0 => ?_)
  · refine g_tabin (pc := 28) (tgt := 72) (z := 0) C dX8_window_28 hz (by decide) (by decide) rfl rfl ?_
    refine g_aload_n (pc := 72) (i := 3) C dX8_window_72 rfl rfl ?_
    refine g_getNr (pc := 73) (ci := 1) (N := 14) (T := TX1) (j := 0) (Cn := RX1) ((1 + 5) + 1) C rfl inlX1 (Nat.le_of_ble_eq_true rfl) (List.mem_of_getElem? (i := 15) rfl) (blk (st_pl ok_now) 0 rfl) rfl dX8_window_73 ?_
    refine g_iload_n (pc := 76) (i := 1) C dX8_window_76 rfl rfl ?_
    refine g_callSi (pc := 77) (As := [.ref (X.ad ((1 + 5) + 1)), .int (p1)]) C (kX8_at X σ ((1 + 5) + 1) 5 p1 (blk (st_pl ok_now) 1 rfl)) q_23_22 q_11_22 q_1_2 q_11_23 hdX8_at ⟨Nat.le_of_ble_eq_true rfl, Nat.le_of_ble_eq_true rfl, rfl, rfl⟩ ⟨Nat.le_of_ble_eq_true rfl, Nat.le_of_ble_eq_true rfl⟩ (Nat.le_of_ble_eq_true rfl) rfl rfl dX8_window_77 (fun r8 _ => ?_)
    exact g_xiret (pc := 80) C hr dX8_window_80 (Nat.le_of_ble_eq_true rfl) (Nat.le_of_ble_eq_true rfl) (fun t hP hF => ⟨⟨_, (), rfl, rfl, hP⟩, hF⟩)
  refine g_ite (fun hz => ?_) (fun hz1 => ?_)
  · refine g_tabin (pc := 28) (tgt := 81) (z := 1) C dX8_window_28 hz (by decide) (by decide) rfl rfl ?_
    refine g_aload_n (pc := 81) (i := 3) C dX8_window_81 rfl rfl ?_
    refine g_getNr (pc := 82) (ci := 1) (N := 14) (T := TX1) (j := 1) (Cn := RX1) ((1 + 5) + 2) C rfl inlX1 (Nat.le_of_ble_eq_true rfl) (List.mem_of_getElem? (i := 17) rfl) (blk (st_pl ok_now) 0 rfl) rfl dX8_window_82 ?_
    refine g_iload_n (pc := 85) (i := 1) C dX8_window_85 rfl rfl ?_
    refine g_callSi (pc := 86) (As := [.ref (X.ad ((1 + 5) + 2)), .int (p1)]) C (kX8_at X σ ((1 + 5) + 2) 5 p1 (blk (st_pl ok_now) 2 rfl)) q_23_22 q_11_22 q_1_2 q_11_23 hdX8_at ⟨Nat.le_of_ble_eq_true rfl, Nat.le_of_ble_eq_true rfl, rfl, rfl⟩ ⟨Nat.le_of_ble_eq_true rfl, Nat.le_of_ble_eq_true rfl⟩ (Nat.le_of_ble_eq_true rfl) rfl rfl dX8_window_86 (fun r9 _ => ?_)
    exact g_xiret (pc := 89) C hr dX8_window_89 (Nat.le_of_ble_eq_true rfl) (Nat.le_of_ble_eq_true rfl) (fun t hP hF => ⟨⟨_, (), rfl, rfl, hP⟩, hF⟩)
  refine g_ite (fun hz => ?_) (fun hz2 => ?_)
  · refine g_tabin (pc := 28) (tgt := 90) (z := 2) C dX8_window_28 hz (by decide) (by decide) rfl rfl ?_
    refine g_aload_n (pc := 90) (i := 3) C dX8_window_90 rfl rfl ?_
    refine g_getNr (pc := 91) (ci := 1) (N := 14) (T := TX1) (j := 2) (Cn := RX1) ((1 + 5) + 3) C rfl inlX1 (Nat.le_of_ble_eq_true rfl) (List.mem_of_getElem? (i := 18) rfl) (blk (st_pl ok_now) 0 rfl) rfl dX8_window_91 ?_
    refine g_iload_n (pc := 94) (i := 1) C dX8_window_94 rfl rfl ?_
    refine g_callSi (pc := 95) (As := [.ref (X.ad ((1 + 5) + 3)), .int (p1)]) C (kX8_at X σ ((1 + 5) + 3) 5 p1 (blk (st_pl ok_now) 3 rfl)) q_23_22 q_11_22 q_1_2 q_11_23 hdX8_at ⟨Nat.le_of_ble_eq_true rfl, Nat.le_of_ble_eq_true rfl, rfl, rfl⟩ ⟨Nat.le_of_ble_eq_true rfl, Nat.le_of_ble_eq_true rfl⟩ (Nat.le_of_ble_eq_true rfl) rfl rfl dX8_window_95 (fun r10 _ => ?_)
    exact g_xiret (pc := 98) C hr dX8_window_98 (Nat.le_of_ble_eq_true rfl) (Nat.le_of_ble_eq_true rfl) (fun t hP hF => ⟨⟨_, (), rfl, rfl, hP⟩, hF⟩)
  refine g_ite (fun hz => ?_) (fun hz3 => ?_)
  · refine g_tabin (pc := 28) (tgt := 99) (z := 3) C dX8_window_28 hz (by decide) (by decide) rfl rfl ?_
    refine g_aload_n (pc := 99) (i := 3) C dX8_window_99 rfl rfl ?_
    refine g_getNr (pc := 100) (ci := 1) (N := 14) (T := TX1) (j := 3) (Cn := RX1) ((1 + 5) + 4) C rfl inlX1 (Nat.le_of_ble_eq_true rfl) (List.mem_of_getElem? (i := 19) rfl) (blk (st_pl ok_now) 0 rfl) rfl dX8_window_100 ?_
    refine g_iload_n (pc := 103) (i := 1) C dX8_window_103 rfl rfl ?_
    refine g_callSi (pc := 104) (As := [.ref (X.ad ((1 + 5) + 4)), .int (p1)]) C (kX8_at X σ ((1 + 5) + 4) 5 p1 (blk (st_pl ok_now) 4 rfl)) q_23_22 q_11_22 q_1_2 q_11_23 hdX8_at ⟨Nat.le_of_ble_eq_true rfl, Nat.le_of_ble_eq_true rfl, rfl, rfl⟩ ⟨Nat.le_of_ble_eq_true rfl, Nat.le_of_ble_eq_true rfl⟩ (Nat.le_of_ble_eq_true rfl) rfl rfl dX8_window_104 (fun r11 _ => ?_)
    exact g_xiret (pc := 107) C hr dX8_window_107 (Nat.le_of_ble_eq_true rfl) (Nat.le_of_ble_eq_true rfl) (fun t hP hF => ⟨⟨_, (), rfl, rfl, hP⟩, hF⟩)
  refine g_ite (fun hz => ?_) (fun hz4 => ?_)
  · refine g_tabin (pc := 28) (tgt := 108) (z := 4) C dX8_window_28 hz (by decide) (by decide) rfl rfl ?_
    refine g_aload_n (pc := 108) (i := 3) C dX8_window_108 rfl rfl ?_
    refine g_iload_n (pc := 109) (i := 1) C dX8_window_109 rfl rfl ?_
    refine g_callVi (pc := 110) (As := [.int (p1)]) C (kX1_panesIn X σ (1 + 5) p1 (st_pl ok_now)) (blk (st_pl ok_now) 0 rfl) rfl q_29_23 q_30_0 q_30_1 q_2_23 q_30_2 ⟨rfl, hdX1_panesIn⟩ ⟨Nat.le_of_ble_eq_true rfl, Nat.le_of_ble_eq_true rfl, rfl, rfl⟩ ⟨Nat.le_of_ble_eq_true rfl, Nat.le_of_ble_eq_true rfl⟩ (Nat.le_of_ble_eq_true rfl) rfl rfl dX8_window_110 (fun r12 _ => ?_)
    exact g_xiret (pc := 113) C hr dX8_window_113 (Nat.le_of_ble_eq_true rfl) (Nat.le_of_ble_eq_true rfl) (fun t hP hF => ⟨⟨_, (), rfl, rfl, hP⟩, hF⟩)
  refine g_ite (fun hz => ?_) (fun hz5 => ?_)
  · refine g_tabin (pc := 28) (tgt := 114) (z := 5) C dX8_window_28 hz (by decide) (by decide) rfl rfl ?_
    refine g_aload_n (pc := 114) (i := 0) C dX8_window_114 rfl rfl ?_
    refine g_getr (pc := 115) (ci := 8) (N := 8) (T := TX8) (j := 4) (Cn := RX8) 422 C rfl inlX8 (Nat.le_of_ble_eq_true rfl) q_1_21 ok_dl rfl dX8_window_115 ?_
    refine g_iload (pc := 118) C dX8_window_118 rfl ?_
    refine g_callVi (pc := 120) (As := [.int (r7)]) C (kX2_isShown X σ 422 r7 ok_pn) (blk ok_pn 0 rfl) rfl q_26_0 q_16_23 q_17_0 q_1_20 q_17_1 ⟨rfl, hdX2_isShown⟩ ⟨Nat.le_of_ble_eq_true rfl, Nat.le_of_ble_eq_true rfl, rfl, rfl⟩ ⟨Nat.le_of_ble_eq_true rfl, Nat.le_of_ble_eq_true rfl⟩ (Nat.le_of_ble_eq_true rfl) rfl rfl dX8_window_120 (fun r13 _ => ?_)
    refine g_ifb_eq (pc := 123) (tgt := 139) C dX8_window_123 rfl ?_ ?_
    · refine g_aload_n (pc := 126) (i := 0) C dX8_window_126 rfl rfl ?_
      refine g_getr (pc := 127) (ci := 8) (N := 8) (T := TX8) (j := 4) (Cn := RX8) 422 C rfl inlX8 (Nat.le_of_ble_eq_true rfl) q_1_21 ok_dl rfl dX8_window_127 ?_
      refine g_iload (pc := 130) C dX8_window_130 rfl ?_
      refine g_iconst (pc := 132) (v := 0) C dX8_window_132 (by decide) ?_
      refine g_callVi (pc := 133) (As := [.int (r7), .int (0)]) C (kX2_minimumOf X σ 422 r7 0 ok_pn) (blk ok_pn 0 rfl) rfl q_32_10 q_17_12 q_17_13 q_1_20 q_17_14 ⟨rfl, hdX2_minimumOf⟩ ⟨Nat.le_of_ble_eq_true rfl, Nat.le_of_ble_eq_true rfl, rfl, rfl⟩ ⟨Nat.le_of_ble_eq_true rfl, Nat.le_of_ble_eq_true rfl⟩ (Nat.le_of_ble_eq_true rfl) rfl rfl dX8_window_133 (fun r14 _ => ?_)
      refine g_goto (pc := 136) (tgt := 140) C dX8_window_136 rfl ?_
      exact g_xiret (pc := 140) C hr dX8_window_140 (Nat.le_of_ble_eq_true rfl) (Nat.le_of_ble_eq_true rfl) (fun t hP hF => ⟨⟨_, (), rfl, rfl, hP⟩, hF⟩)
    · refine g_iconst (pc := 139) (v := 0) C dX8_window_139 (by decide) ?_
      exact g_xiret (pc := 140) C hr dX8_window_140 (Nat.le_of_ble_eq_true rfl) (Nat.le_of_ble_eq_true rfl) (fun t hP hF => ⟨⟨_, (), rfl, rfl, hP⟩, hF⟩)
  refine g_ite (fun hz => ?_) (fun hz6 => ?_)
  · refine g_tabin (pc := 28) (tgt := 141) (z := 6) C dX8_window_28 hz (by decide) (by decide) rfl rfl ?_
    refine g_aload_n (pc := 141) (i := 0) C dX8_window_141 rfl rfl ?_
    refine g_getr (pc := 142) (ci := 8) (N := 8) (T := TX8) (j := 4) (Cn := RX8) 422 C rfl inlX8 (Nat.le_of_ble_eq_true rfl) q_1_21 ok_dl rfl dX8_window_142 ?_
    refine g_iload (pc := 145) C dX8_window_145 rfl ?_
    refine g_callVi (pc := 147) (As := [.int (r7)]) C (kX2_isShown X σ 422 r7 ok_pn) (blk ok_pn 0 rfl) rfl q_26_0 q_16_23 q_17_0 q_1_20 q_17_1 ⟨rfl, hdX2_isShown⟩ ⟨Nat.le_of_ble_eq_true rfl, Nat.le_of_ble_eq_true rfl, rfl, rfl⟩ ⟨Nat.le_of_ble_eq_true rfl, Nat.le_of_ble_eq_true rfl⟩ (Nat.le_of_ble_eq_true rfl) rfl rfl dX8_window_147 (fun r15 _ => ?_)
    refine g_ifb_eq (pc := 150) (tgt := 166) C dX8_window_150 rfl ?_ ?_
    · refine g_aload_n (pc := 153) (i := 0) C dX8_window_153 rfl rfl ?_
      refine g_getr (pc := 154) (ci := 8) (N := 8) (T := TX8) (j := 4) (Cn := RX8) 422 C rfl inlX8 (Nat.le_of_ble_eq_true rfl) q_1_21 ok_dl rfl dX8_window_154 ?_
      refine g_iload (pc := 157) C dX8_window_157 rfl ?_
      refine g_iconst (pc := 159) (v := 1) C dX8_window_159 (by decide) ?_
      refine g_callVi (pc := 160) (As := [.int (r7), .int (1)]) C (kX2_minimumOf X σ 422 r7 1 ok_pn) (blk ok_pn 0 rfl) rfl q_32_10 q_17_12 q_17_13 q_1_20 q_17_14 ⟨rfl, hdX2_minimumOf⟩ ⟨Nat.le_of_ble_eq_true rfl, Nat.le_of_ble_eq_true rfl, rfl, rfl⟩ ⟨Nat.le_of_ble_eq_true rfl, Nat.le_of_ble_eq_true rfl⟩ (Nat.le_of_ble_eq_true rfl) rfl rfl dX8_window_160 (fun r16 _ => ?_)
      refine g_goto (pc := 163) (tgt := 167) C dX8_window_163 rfl ?_
      exact g_xiret (pc := 167) C hr dX8_window_167 (Nat.le_of_ble_eq_true rfl) (Nat.le_of_ble_eq_true rfl) (fun t hP hF => ⟨⟨_, (), rfl, rfl, hP⟩, hF⟩)
    · refine g_iconst (pc := 166) (v := 0) C dX8_window_166 (by decide) ?_
      exact g_xiret (pc := 167) C hr dX8_window_167 (Nat.le_of_ble_eq_true rfl) (Nat.le_of_ble_eq_true rfl) (fun t hP hF => ⟨⟨_, (), rfl, rfl, hP⟩, hF⟩)
  refine g_tabout (pc := 28) (tgt := 168) C dX8_window_28 (tsw_out0_6 hz0 hz1 hz2 hz3 hz4 hz5 hz6) rfl ?_
  refine g_aload_n (pc := 168) (i := 3) C dX8_window_168 rfl rfl ?_
  refine g_getNr (pc := 169) (ci := 1) (N := 14) (T := TX1) (j := 5) (Cn := RX1) ((1 + 5) + 6) C rfl inlX1 (Nat.le_of_ble_eq_true rfl) (List.mem_of_getElem? (i := 16) rfl) (blk (st_pl ok_now) 0 rfl) rfl dX8_window_169 ?_
  refine g_iload_n (pc := 172) (i := 1) C dX8_window_172 rfl rfl ?_
  refine g_callVi (pc := 173) (As := [.int (p1)]) C (kX0_indexOf X σ ((1 + 5) + 6) p1 (pl_or (st_pl ok_now))) (blk (pl_or (st_pl ok_now)) 0 rfl) rfl q_31_12 q_13_17 q_13_18 q_2_19 q_13_19 ⟨rfl, hdX0_indexOf⟩ ⟨Nat.le_of_ble_eq_true rfl, Nat.le_of_ble_eq_true rfl, rfl, rfl⟩ ⟨Nat.le_of_ble_eq_true rfl, Nat.le_of_ble_eq_true rfl⟩ (Nat.le_of_ble_eq_true rfl) rfl rfl dX8_window_173 (fun r17 _ => ?_)
  exact g_xiret (pc := 176) C hr dX8_window_176 (Nat.le_of_ble_eq_true rfl) (Nat.le_of_ble_eq_true rfl) (fun t hP hF => ⟨⟨_, (), rfl, rfl, hP⟩, hF⟩)
theorem dX8_floating_0 : decode cX8_floating 0 = .ok (.aload_n 0, 1) := by decide +kernel
theorem dX8_floating_1 : decode cX8_floating 1 = .ok (.getfield 10, 3) := by decide +kernel
theorem dX8_floating_4 : decode cX8_floating 4 = .ok (.getfield 77, 3) := by decide +kernel
theorem dX8_floating_7 : decode cX8_floating 7 = .ok (.getfield 191, 3) := by decide +kernel
theorem dX8_floating_10 : decode cX8_floating 10 = .ok (.iload_n 1, 1) := by decide +kernel
theorem dX8_floating_11 : decode cX8_floating 11 = .ok (.invokevirtual 215, 3) := by decide +kernel
theorem dX8_floating_14 : decode cX8_floating 14 = .ok (.ireturn, 1) := by decide +kernel
abbrev rmX8_floating : Room := { frames := 2, cells := 0, slots := 0, locals := 42 }
theorem hdX8_floating : yX8_floating.cls ≠ "java/lang/invoke/MethodHandle" ∧ yX8_floating.cls ≠ "java/lang/invoke/VarHandle" ∧ (parseMethodDescriptor yX8_floating.desc).map (fun d => d.parameters.length) = some 1 := by decide +kernel
def fX8_floating (σ : Sg) (p1 : Int32) : Option Int32 :=
  (fX0_item σ ((1 + 5) + 6) p1).bind fun r1 =>
  some r1
theorem kX8_floating (X : Xc) (σ : Sg) (p1 : Int32) : ∀ r, fX8_floating σ p1 = some r → Met X.l yX8_floating (wsM yX8_floating cX8_floating 2 (some .int)) rmX8_floating (va_Pc [.ref (X.ad 0), .int p1] (PW X σ)) (Qi X r σ) 0 0 X.A := by
  refine mt_of (own := RX8) (lo := [some (.ref (X.ad 0)), some (.int (p1))]) (by decide) rfl (Nat.le_of_ble_eq_true rfl) rfl (fun K C hr => ?_)
  unfold fX8_floating
  refine g_aload_n (pc := 0) (i := 0) C dX8_floating_0 rfl rfl ?_
  refine g_getr (pc := 1) (ci := 8) (N := 8) (T := TX8) (j := 0) (Cn := RX8) 1 C rfl inlX8 (Nat.le_of_ble_eq_true rfl) q_1_16 ok_dl rfl dX8_floating_1 ?_
  refine g_getNr (pc := 4) (ci := 4) (N := 7) (T := TX4) (j := 4) (Cn := RX4) (1 + 5) C rfl inlX4 (Nat.le_of_ble_eq_true rfl) (List.mem_of_getElem? (i := 10) rfl) (blk ok_now 0 rfl) rfl dX8_floating_4 ?_
  refine g_getNr (pc := 7) (ci := 1) (N := 14) (T := TX1) (j := 5) (Cn := RX1) ((1 + 5) + 6) C rfl inlX1 (Nat.le_of_ble_eq_true rfl) (List.mem_of_getElem? (i := 16) rfl) (blk (st_pl ok_now) 0 rfl) rfl dX8_floating_7 ?_
  refine g_iload_n (pc := 10) (i := 1) C dX8_floating_10 rfl rfl ?_
  refine g_callVi (pc := 11) (As := [.int (p1)]) C (kX0_item X σ ((1 + 5) + 6) p1 (pl_or (st_pl ok_now))) (blk (pl_or (st_pl ok_now)) 0 rfl) rfl q_32_23 q_33_0 q_33_1 q_2_19 q_33_2 ⟨rfl, hdX0_item⟩ ⟨Nat.le_of_ble_eq_true rfl, Nat.le_of_ble_eq_true rfl, rfl, rfl⟩ ⟨Nat.zero_le _, Nat.zero_le _⟩ (Nat.le_of_ble_eq_true rfl) rfl rfl dX8_floating_11 (fun r1 _ => ?_)
  exact g_iret (pc := 14) C hr dX8_floating_14 rfl
theorem dX8_requirePlaced_0 : decode cX8_requirePlaced 0 = .ok (.aload_n 0, 1) := by decide +kernel
theorem dX8_requirePlaced_1 : decode cX8_requirePlaced 1 = .ok (.getfield 10, 3) := by decide +kernel
theorem dX8_requirePlaced_4 : decode cX8_requirePlaced 4 = .ok (.getfield 77, 3) := by decide +kernel
theorem dX8_requirePlaced_7 : decode cX8_requirePlaced 7 = .ok (.iload_n 1, 1) := by decide +kernel
theorem dX8_requirePlaced_8 : decode cX8_requirePlaced 8 = .ok (.invokevirtual 126, 3) := by decide +kernel
theorem dX8_requirePlaced_11 : decode cX8_requirePlaced 11 = .ok (.iconst (-1), 1) := by decide +kernel
theorem dX8_requirePlaced_12 : decode cX8_requirePlaced 12 = .ok (.if_icmp .ne 14, 3) := by decide +kernel
theorem dX8_requirePlaced_15 : decode cX8_requirePlaced 15 = .ok (.new 56, 3) := by decide +kernel
theorem dX8_requirePlaced_18 : decode cX8_requirePlaced 18 = .ok (.dup, 1) := by decide +kernel
theorem dX8_requirePlaced_19 : decode cX8_requirePlaced 19 = .ok (.ldc_w 411, 3) := by decide +kernel
theorem dX8_requirePlaced_22 : decode cX8_requirePlaced 22 = .ok (.invokespecial 60, 3) := by decide +kernel
theorem dX8_requirePlaced_25 : decode cX8_requirePlaced 25 = .ok (.athrow, 1) := by decide +kernel
theorem dX8_requirePlaced_26 : decode cX8_requirePlaced 26 = .ok (.return_, 1) := by decide +kernel
abbrev rmX8_requirePlaced : Room := { frames := 7, cells := 1, slots := 6, locals := 110 }
theorem hdX8_requirePlaced : yX8_requirePlaced.cls ≠ "java/lang/invoke/MethodHandle" ∧ yX8_requirePlaced.cls ≠ "java/lang/invoke/VarHandle" ∧ (parseMethodDescriptor yX8_requirePlaced.desc).map (fun d => d.parameters.length) = some 1 := by decide +kernel
def fX8_requirePlaced (σ : Sg) (p1 : Int32) : Option (Unit ⊕ Nat) :=
  (fX1_groupOf σ (1 + 5) p1).bind fun r1 =>
  if r1 = (-1) then
    some (.inr 2)
  else
    some (.inl ())
theorem kX8_requirePlaced (X : Xc) (σ : Sg) (p1 : Int32) (hfl : X.l.stackTraces = false) : ∀ r, fX8_requirePlaced σ p1 = some r → vx_Met X.l yX8_requirePlaced (wsM yX8_requirePlaced cX8_requirePlaced 2 none) rmX8_requirePlaced (va_Pc [.ref (X.ad 0), .int p1] (PW X σ)) (CXv X r σ) (CXx X r σ) 1 6 X.A := by
  refine xt_of (own := RX8) (lo := [some (.ref (X.ad 0)), some (.int (p1))]) (by decide) rfl (Nat.le_of_ble_eq_true rfl) rfl (fun K C hr hex => ?_)
  unfold fX8_requirePlaced
  refine g_aload_n (pc := 0) (i := 0) C dX8_requirePlaced_0 rfl rfl ?_
  refine g_getr (pc := 1) (ci := 8) (N := 8) (T := TX8) (j := 0) (Cn := RX8) 1 C rfl inlX8 (Nat.le_of_ble_eq_true rfl) q_1_16 ok_dl rfl dX8_requirePlaced_1 ?_
  refine g_getNr (pc := 4) (ci := 4) (N := 7) (T := TX4) (j := 4) (Cn := RX4) (1 + 5) C rfl inlX4 (Nat.le_of_ble_eq_true rfl) (List.mem_of_getElem? (i := 10) rfl) (blk ok_now 0 rfl) rfl dX8_requirePlaced_4 ?_
  refine g_iload_n (pc := 7) (i := 1) C dX8_requirePlaced_7 rfl rfl ?_
  refine g_callVi (pc := 8) (As := [.int (p1)]) C (kX1_groupOf X σ (1 + 5) p1 (st_pl ok_now)) (blk (st_pl ok_now) 0 rfl) rfl q_24_18 q_11_19 q_11_20 q_2_23 q_11_21 ⟨rfl, hdX1_groupOf⟩ ⟨Nat.le_of_ble_eq_true rfl, Nat.le_of_ble_eq_true rfl, rfl, rfl⟩ ⟨Nat.le_of_ble_eq_true rfl, Nat.le_of_ble_eq_true rfl⟩ (Nat.le_of_ble_eq_true rfl) rfl rfl dX8_requirePlaced_8 (fun r1 _ => ?_)
  refine g_iconst (pc := 11) (v := (-1)) C dX8_requirePlaced_11 (by decide) ?_
  refine g_icmp_ne (pc := 12) (tgt := 26) C dX8_requirePlaced_12 rfl ?_ ?_
  · exact g_throwW (pc := 15) (e := 2) (cls := "java/lang/IllegalStateException") (text := "the pane is not placed") (ik := 56) (is := 411) (ic := 60) C hex hfl rfl (by decide +kernel) q_7_2 q_7_3 (List.mem_of_getElem? (i := 17) rfl) (xat_2 C.ts C.k) xgood_2 dX8_requirePlaced_15 dX8_requirePlaced_18 dX8_requirePlaced_19 dX8_requirePlaced_22 dX8_requirePlaced_25 (Nat.le_of_ble_eq_true rfl) (Nat.le_of_ble_eq_true rfl) (Nat.le_of_ble_eq_true rfl) (Nat.le_of_ble_eq_true rfl) (Nat.le_of_ble_eq_true rfl) (Nat.le_of_ble_eq_true rfl) (fun t hP hF => ⟨(), trivial, ⟨⟨_, rfl, rfl⟩, hP⟩, hF⟩)
  · exact g_xvret (pc := 26) C hr dX8_requirePlaced_26 (Nat.le_of_ble_eq_true rfl) (Nat.le_of_ble_eq_true rfl) (fun t hP hF => ⟨⟨(), rfl, rfl, hP⟩, hF⟩)
theorem dX8_dock_0 : decode cX8_dock 0 = .ok (.aload_n 0, 1) := by decide +kernel
theorem dX8_dock_1 : decode cX8_dock 1 = .ok (.iload_n 1, 1) := by decide +kernel
theorem dX8_dock_2 : decode cX8_dock 2 = .ok (.invokevirtual 74, 3) := by decide +kernel
theorem dX8_dock_5 : decode cX8_dock 5 = .ok (.aload_n 0, 1) := by decide +kernel
theorem dX8_dock_6 : decode cX8_dock 6 = .ok (.iload_n 2, 1) := by decide +kernel
theorem dX8_dock_7 : decode cX8_dock 7 = .ok (.invokevirtual 74, 3) := by decide +kernel
theorem dX8_dock_10 : decode cX8_dock 10 = .ok (.iload_n 1, 1) := by decide +kernel
theorem dX8_dock_11 : decode cX8_dock 11 = .ok (.iload_n 2, 1) := by decide +kernel
theorem dX8_dock_12 : decode cX8_dock 12 = .ok (.if_icmp .ne 13, 3) := by decide +kernel
theorem dX8_dock_15 : decode cX8_dock 15 = .ok (.new 218, 3) := by decide +kernel
theorem dX8_dock_18 : decode cX8_dock 18 = .ok (.dup, 1) := by decide +kernel
theorem dX8_dock_19 : decode cX8_dock 19 = .ok (.ldc 220, 2) := by decide +kernel
theorem dX8_dock_21 : decode cX8_dock 21 = .ok (.invokespecial 222, 3) := by decide +kernel
theorem dX8_dock_24 : decode cX8_dock 24 = .ok (.athrow, 1) := by decide +kernel
theorem dX8_dock_25 : decode cX8_dock 25 = .ok (.iload_n 3, 1) := by decide +kernel
theorem dX8_dock_26 : decode cX8_dock 26 = .ok (.iconst 0, 1) := by decide +kernel
theorem dX8_dock_27 : decode cX8_dock 27 = .ok (.iconst 4, 1) := by decide +kernel
theorem dX8_dock_28 : decode cX8_dock 28 = .ok (.invokestatic 123, 3) := by decide +kernel
theorem dX8_dock_31 : decode cX8_dock 31 = .ok (.aload_n 0, 1) := by decide +kernel
theorem dX8_dock_32 : decode cX8_dock 32 = .ok (.iload_n 2, 1) := by decide +kernel
theorem dX8_dock_33 : decode cX8_dock 33 = .ok (.invokevirtual 223, 3) := by decide +kernel
theorem dX8_dock_36 : decode cX8_dock 36 = .ok (.aload_n 0, 1) := by decide +kernel
theorem dX8_dock_37 : decode cX8_dock 37 = .ok (.invokevirtual 63, 3) := by decide +kernel
theorem dX8_dock_40 : decode cX8_dock 40 = .ok (.aload_n 0, 1) := by decide +kernel
theorem dX8_dock_41 : decode cX8_dock 41 = .ok (.getfield 10, 3) := by decide +kernel
theorem dX8_dock_44 : decode cX8_dock 44 = .ok (.getfield 77, 3) := by decide +kernel
theorem dX8_dock_47 : decode cX8_dock 47 = .ok (.astore 4, 2) := by decide +kernel
theorem dX8_dock_49 : decode cX8_dock 49 = .ok (.aload 4, 2) := by decide +kernel
theorem dX8_dock_51 : decode cX8_dock 51 = .ok (.iload_n 1, 1) := by decide +kernel
theorem dX8_dock_52 : decode cX8_dock 52 = .ok (.invokevirtual 81, 3) := by decide +kernel
theorem dX8_dock_55 : decode cX8_dock 55 = .ok (.aload 4, 2) := by decide +kernel
theorem dX8_dock_57 : decode cX8_dock 57 = .ok (.iload_n 2, 1) := by decide +kernel
theorem dX8_dock_58 : decode cX8_dock 58 = .ok (.invokevirtual 126, 3) := by decide +kernel
theorem dX8_dock_61 : decode cX8_dock 61 = .ok (.istore 5, 2) := by decide +kernel
theorem dX8_dock_63 : decode cX8_dock 63 = .ok (.aload 4, 2) := by decide +kernel
theorem dX8_dock_65 : decode cX8_dock 65 = .ok (.iload_n 1, 1) := by decide +kernel
theorem dX8_dock_66 : decode cX8_dock 66 = .ok (.iload_n 3, 1) := by decide +kernel
theorem dX8_dock_67 : decode cX8_dock 67 = .ok (.iconst 4, 1) := by decide +kernel
theorem dX8_dock_68 : decode cX8_dock 68 = .ok (.if_icmp .ne 8, 3) := by decide +kernel
theorem dX8_dock_71 : decode cX8_dock 71 = .ok (.iload 5, 2) := by decide +kernel
theorem dX8_dock_73 : decode cX8_dock 73 = .ok (.goto 11, 3) := by decide +kernel
theorem dX8_dock_76 : decode cX8_dock 76 = .ok (.aload 4, 2) := by decide +kernel
theorem dX8_dock_78 : decode cX8_dock 78 = .ok (.iload 5, 2) := by decide +kernel
theorem dX8_dock_80 : decode cX8_dock 80 = .ok (.iload_n 3, 1) := by decide +kernel
theorem dX8_dock_81 : decode cX8_dock 81 = .ok (.invokevirtual 226, 3) := by decide +kernel
theorem dX8_dock_84 : decode cX8_dock 84 = .ok (.invokevirtual 229, 3) := by decide +kernel
theorem dX8_dock_87 : decode cX8_dock 87 = .ok (.aload_n 0, 1) := by decide +kernel
theorem dX8_dock_88 : decode cX8_dock 88 = .ok (.getfield 10, 3) := by decide +kernel
theorem dX8_dock_91 : decode cX8_dock 91 = .ok (.getfield 86, 3) := by decide +kernel
theorem dX8_dock_94 : decode cX8_dock 94 = .ok (.iload_n 1, 1) := by decide +kernel
theorem dX8_dock_95 : decode cX8_dock 95 = .ok (.invokevirtual 232, 3) := by decide +kernel
theorem dX8_dock_98 : decode cX8_dock 98 = .ok (.aload_n 0, 1) := by decide +kernel
theorem dX8_dock_99 : decode cX8_dock 99 = .ok (.getfield 23, 3) := by decide +kernel
theorem dX8_dock_102 : decode cX8_dock 102 = .ok (.aload_n 0, 1) := by decide +kernel
theorem dX8_dock_103 : decode cX8_dock 103 = .ok (.getfield 10, 3) := by decide +kernel
theorem dX8_dock_106 : decode cX8_dock 106 = .ok (.invokevirtual 98, 3) := by decide +kernel
theorem dX8_dock_109 : decode cX8_dock 109 = .ok (.aload 4, 2) := by decide +kernel
theorem dX8_dock_111 : decode cX8_dock 111 = .ok (.aload 4, 2) := by decide +kernel
theorem dX8_dock_113 : decode cX8_dock 113 = .ok (.iload_n 1, 1) := by decide +kernel
theorem dX8_dock_114 : decode cX8_dock 114 = .ok (.invokevirtual 126, 3) := by decide +kernel
theorem dX8_dock_117 : decode cX8_dock 117 = .ok (.invokevirtual 129, 3) := by decide +kernel
theorem dX8_dock_120 : decode cX8_dock 120 = .ok (.ireturn, 1) := by decide +kernel
abbrev rmX8_dock : Room := { frames := 8, cells := 5, slots := 30, locals := 213 }
theorem hdX8_dock : yX8_dock.cls ≠ "java/lang/invoke/MethodHandle" ∧ yX8_dock.cls ≠ "java/lang/invoke/VarHandle" ∧ (parseMethodDescriptor yX8_dock.desc).map (fun d => d.parameters.length) = some 3 := by decide +kernel
def fX8_dock_84 (σ : Sg) (l1 : Int32) (s1 : Int32) (s2 : Int32) : Option ((Int32 ⊕ Nat) × Sg) :=
  (fX1_joinGroup σ (1 + 5) s1 s2).bind fun σ17 =>
  (fX0_putFirst σ17 (1 + 3) l1).bind fun σ18 =>
  (fX2_compute σ18 422 1).bind fun σ19 =>
  (fX1_groupOf σ19 (1 + 5) l1).bind fun r20 =>
  (fX1_windowOf σ19 (1 + 5) r20).bind fun r21 =>
  some (.inl r21, σ19)
theorem bX8_dock_84 {X : Xc} {K : Kc} (C : MC X K cX8_dock 6 RX8 rmX8_dock) (hr : K.meth.sig.returnType = (some .int)) (hex : K.c.exceptionTable.toList = []) (hfl : X.l.stackTraces = false) (σ : Sg) (l1 : Int32) (s1 : Int32) (s2 : Int32) : GO X K 6 (fun r => XM X K 5 30 (CXi X r.1 r.2) (CXx X r.1 r.2)) (fX8_dock_84 σ l1 s1 s2) σ 4 24 84 [some (.ref (X.ad 0)), some (.int (l1)), none, none, some (.ref (X.ad (1 + 5))), none] [.int (s2), .int (s1), .ref (X.ad (1 + 5))] := by
  unfold fX8_dock_84
  refine g_callVv (pc := 84) (As := [.int (s1), .int (s2)]) C (kX1_joinGroup X σ (1 + 5) s1 s2 (st_pl ok_now)) (blk (st_pl ok_now) 0 rfl) rfl q_34_9 q_34_10 q_34_11 q_2_23 q_34_12 ⟨rfl, hdX1_joinGroup⟩ ⟨Nat.le_of_ble_eq_true rfl, Nat.le_of_ble_eq_true rfl, rfl, rfl⟩ ⟨Nat.le_of_ble_eq_true rfl, Nat.le_of_ble_eq_true rfl⟩ (Nat.le_of_ble_eq_true rfl) rfl rfl dX8_dock_84 (fun σ17 _ => ?_)
  refine g_aload_n (pc := 87) (i := 0) C dX8_dock_87 rfl rfl ?_
  refine g_getr (pc := 88) (ci := 8) (N := 8) (T := TX8) (j := 0) (Cn := RX8) 1 C rfl inlX8 (Nat.le_of_ble_eq_true rfl) q_1_16 ok_dl rfl dX8_dock_88 ?_
  refine g_getNr (pc := 91) (ci := 4) (N := 7) (T := TX4) (j := 3) (Cn := RX4) (1 + 3) C rfl inlX4 (Nat.le_of_ble_eq_true rfl) (List.mem_of_getElem? (i := 11) rfl) (blk ok_now 0 rfl) rfl dX8_dock_91 ?_
  refine g_iload_n (pc := 94) (i := 1) C dX8_dock_94 rfl rfl ?_
  refine g_callVv (pc := 95) (As := [.int (l1)]) C (kX0_putFirst X σ17 (1 + 3) l1 (st_or ok_now)) (blk (st_or ok_now) 0 rfl) rfl q_34_13 q_34_14 q_34_15 q_2_19 q_34_16 ⟨rfl, hdX0_putFirst⟩ ⟨Nat.le_of_ble_eq_true rfl, Nat.le_of_ble_eq_true rfl, rfl, rfl⟩ ⟨Nat.le_of_ble_eq_true rfl, Nat.le_of_ble_eq_true rfl⟩ (Nat.le_of_ble_eq_true rfl) rfl rfl dX8_dock_95 (fun σ18 _ => ?_)
  refine g_aload_n (pc := 98) (i := 0) C dX8_dock_98 rfl rfl ?_
  refine g_getr (pc := 99) (ci := 8) (N := 8) (T := TX8) (j := 4) (Cn := RX8) 422 C rfl inlX8 (Nat.le_of_ble_eq_true rfl) q_1_21 ok_dl rfl dX8_dock_99 ?_
  refine g_aload_n (pc := 102) (i := 0) C dX8_dock_102 rfl rfl ?_
  refine g_getr (pc := 103) (ci := 8) (N := 8) (T := TX8) (j := 0) (Cn := RX8) 1 C rfl inlX8 (Nat.le_of_ble_eq_true rfl) q_1_16 ok_dl rfl dX8_dock_103 ?_
  refine g_callVv (pc := 106) (As := [.ref (X.ad 1)]) C (kX2_compute X σ18 422 1 ok_pn ok_now) (blk ok_pn 0 rfl) rfl q_15_1 q_15_2 q_15_3 q_1_20 q_15_4 ⟨rfl, hdX2_compute⟩ ⟨Nat.le_of_ble_eq_true rfl, Nat.le_of_ble_eq_true rfl, rfl, rfl⟩ ⟨Nat.le_of_ble_eq_true rfl, Nat.le_of_ble_eq_true rfl⟩ (Nat.le_of_ble_eq_true rfl) rfl rfl dX8_dock_106 (fun σ19 _ => ?_)
  refine g_aload (pc := 109) C dX8_dock_109 rfl ?_
  refine g_aload (pc := 111) C dX8_dock_111 rfl ?_
  refine g_iload_n (pc := 113) (i := 1) C dX8_dock_113 rfl rfl ?_
  refine g_callVi (pc := 114) (As := [.int (l1)]) C (kX1_groupOf X σ19 (1 + 5) l1 (st_pl ok_now)) (blk (st_pl ok_now) 0 rfl) rfl q_24_18 q_11_19 q_11_20 q_2_23 q_11_21 ⟨rfl, hdX1_groupOf⟩ ⟨Nat.le_of_ble_eq_true rfl, Nat.le_of_ble_eq_true rfl, rfl, rfl⟩ ⟨Nat.le_of_ble_eq_true rfl, Nat.le_of_ble_eq_true rfl⟩ (Nat.le_of_ble_eq_true rfl) rfl rfl dX8_dock_114 (fun r20 _ => ?_)
  refine g_callVi (pc := 117) (As := [.int (r20)]) C (kX1_windowOf X σ19 (1 + 5) r20 (st_pl ok_now)) (blk (st_pl ok_now) 0 rfl) rfl q_24_19 q_13_9 q_13_10 q_2_23 q_13_11 ⟨rfl, hdX1_windowOf⟩ ⟨Nat.le_of_ble_eq_true rfl, Nat.le_of_ble_eq_true rfl, rfl, rfl⟩ ⟨Nat.le_of_ble_eq_true rfl, Nat.le_of_ble_eq_true rfl⟩ (Nat.le_of_ble_eq_true rfl) rfl rfl dX8_dock_117 (fun r21 _ => ?_)
  exact g_xiret (pc := 120) C hr dX8_dock_120 (Nat.le_of_ble_eq_true rfl) (Nat.le_of_ble_eq_true rfl) (fun t hP hF => ⟨⟨_, (), rfl, rfl, hP⟩, hF⟩)
def fX8_dock (σ : Sg) (p1 : Int32) (p2 : Int32) (p3 : Int32) : Option ((Int32 ⊕ Nat) × Sg) :=
  (fX8_requirePane σ p1).bind fun r1 => xcat r1 (fun e3 => some (.inr e3, σ)) fun w2 =>
  (fX8_requirePane σ p2).bind fun r4 => xcat r4 (fun e6 => some (.inr e6, σ)) fun w5 =>
  if p1 = p2 then
    some (.inr 1, σ)
  else
    (fX8_requireRange σ p3 0 4).bind fun r7 => xcat r7 (fun e9 => some (.inr e9, σ)) fun w8 =>
    (fX8_requirePlaced σ p2).bind fun r10 => xcat r10 (fun e12 => some (.inr e12, σ)) fun w11 =>
    (fX8_keepRecord σ).bind fun σ13 =>
    (fX1_withdraw σ13 (1 + 5) p1).bind fun σ14 =>
    (fX1_groupOf σ14 (1 + 5) p2).bind fun r15 =>
    if p3 = 4 then
      (fX8_dock_84 σ14 p1 p1 r15)
    else
      (fX1_makeGroupBeside σ14 (1 + 5) r15 p3).bind fun r16 =>
      (fX8_dock_84 r16.2 p1 p1 r16.1)
theorem kX8_dock (X : Xc) (σ : Sg) (p1 : Int32) (p2 : Int32) (p3 : Int32) (hfl : X.l.stackTraces = false) : ∀ r, fX8_dock σ p1 p2 p3 = some r → vx_Met X.l yX8_dock (wsM yX8_dock cX8_dock 6 (some .int)) rmX8_dock (va_Pc [.ref (X.ad 0), .int p1, .int p2, .int p3] (PW X σ)) (CXi X r.1 r.2) (CXx X r.1 r.2) 5 30 X.A := by
  refine xt_of (own := RX8) (lo := [some (.ref (X.ad 0)), some (.int (p1)), some (.int (p2)), some (.int (p3)), none, none]) (by decide) rfl (Nat.le_of_ble_eq_true rfl) rfl (fun K C hr hex => ?_)
  unfold fX8_dock
  refine g_aload_n (pc := 0) (i := 0) C dX8_dock_0 rfl rfl ?_
  refine g_iload_n (pc := 1) (i := 1) C dX8_dock_1 rfl rfl ?_
  refine g_xcallVv (pc := 2) (As := [.int (p1)]) C (kX8_requirePane X σ p1 hfl) ok_dl rfl q_11_7 q_11_8 q_11_9 q_1_2 q_11_10 ⟨rfl, hdX8_requirePane⟩ ⟨Nat.le_of_ble_eq_true rfl, Nat.le_of_ble_eq_true rfl, rfl, rfl, Nat.le_of_ble_eq_true rfl, Nat.le_of_ble_eq_true rfl⟩ (Nat.le_of_ble_eq_true rfl) rfl rfl dX8_dock_2 (fun r1 e3 _ _ => ?_) (fun r1 w2 _ _ => ?_)
  · exact gx_out C hex (Nat.le_of_ble_eq_true rfl) (Nat.le_of_ble_eq_true rfl) (fun t hP hF => ⟨(), trivial, ⟨⟨_, rfl, rfl⟩, hP⟩, hF⟩)
  refine g_aload_n (pc := 5) (i := 0) C dX8_dock_5 rfl rfl ?_
  refine g_iload_n (pc := 6) (i := 2) C dX8_dock_6 rfl rfl ?_
  refine g_xcallVv (pc := 7) (As := [.int (p2)]) C (kX8_requirePane X σ p2 hfl) ok_dl rfl q_11_7 q_11_8 q_11_9 q_1_2 q_11_10 ⟨rfl, hdX8_requirePane⟩ ⟨Nat.le_of_ble_eq_true rfl, Nat.le_of_ble_eq_true rfl, rfl, rfl, Nat.le_of_ble_eq_true rfl, Nat.le_of_ble_eq_true rfl⟩ (Nat.le_of_ble_eq_true rfl) rfl rfl dX8_dock_7 (fun r4 e6 _ _ => ?_) (fun r4 w5 _ _ => ?_)
  · exact gx_out C hex (Nat.le_of_ble_eq_true rfl) (Nat.le_of_ble_eq_true rfl) (fun t hP hF => ⟨(), trivial, ⟨⟨_, rfl, rfl⟩, hP⟩, hF⟩)
  refine g_iload_n (pc := 10) (i := 1) C dX8_dock_10 rfl rfl ?_
  refine g_iload_n (pc := 11) (i := 2) C dX8_dock_11 rfl rfl ?_
  refine g_icmp_ne (pc := 12) (tgt := 25) C dX8_dock_12 rfl ?_ ?_
  · exact g_throw (pc := 15) (e := 1) (cls := "java/lang/IllegalArgumentException") (text := "a pane can\'t be docked at itself") (ik := 218) (is := 220) (ic := 222) C hex hfl rfl (by decide +kernel) q_7_10 q_7_11 (List.mem_of_getElem? (i := 1) rfl) (xat_1 C.ts C.k) xgood_1 dX8_dock_15 dX8_dock_18 dX8_dock_19 dX8_dock_21 dX8_dock_24 (Nat.le_of_ble_eq_true rfl) (Nat.le_of_ble_eq_true rfl) (Nat.le_of_ble_eq_true rfl) (Nat.le_of_ble_eq_true rfl) (Nat.le_of_ble_eq_true rfl) (Nat.le_of_ble_eq_true rfl) (fun t hP hF => ⟨(), trivial, ⟨⟨_, rfl, rfl⟩, hP⟩, hF⟩)
  · refine g_iload_n (pc := 25) (i := 3) C dX8_dock_25 rfl rfl ?_
    refine g_iconst (pc := 26) (v := 0) C dX8_dock_26 (by decide) ?_
    refine g_iconst (pc := 27) (v := 4) C dX8_dock_27 (by decide) ?_
    refine g_xcallSv (pc := 28) (As := [.int (p3), .int (0), .int (4)]) C (kX8_requireRange X σ p3 0 4 hfl) q_7_7 q_7_8 q_1_2 q_7_9 hdX8_requireRange ⟨Nat.le_of_ble_eq_true rfl, Nat.le_of_ble_eq_true rfl, rfl, rfl, Nat.le_of_ble_eq_true rfl, Nat.le_of_ble_eq_true rfl⟩ (Nat.le_of_ble_eq_true rfl) rfl rfl dX8_dock_28 (fun r7 e9 _ _ => ?_) (fun r7 w8 _ _ => ?_)
    · exact gx_out C hex (Nat.le_of_ble_eq_true rfl) (Nat.le_of_ble_eq_true rfl) (fun t hP hF => ⟨(), trivial, ⟨⟨_, rfl, rfl⟩, hP⟩, hF⟩)
    refine g_aload_n (pc := 31) (i := 0) C dX8_dock_31 rfl rfl ?_
    refine g_iload_n (pc := 32) (i := 2) C dX8_dock_32 rfl rfl ?_
    refine g_xcallVv (pc := 33) (As := [.int (p2)]) C (kX8_requirePlaced X σ p2 hfl) ok_dl rfl q_33_14 q_33_15 q_33_16 q_1_2 q_33_17 ⟨rfl, hdX8_requirePlaced⟩ ⟨Nat.le_of_ble_eq_true rfl, Nat.le_of_ble_eq_true rfl, rfl, rfl, Nat.le_of_ble_eq_true rfl, Nat.le_of_ble_eq_true rfl⟩ (Nat.le_of_ble_eq_true rfl) rfl rfl dX8_dock_33 (fun r10 e12 _ _ => ?_) (fun r10 w11 _ _ => ?_)
    · exact gx_out C hex (Nat.le_of_ble_eq_true rfl) (Nat.le_of_ble_eq_true rfl) (fun t hP hF => ⟨(), trivial, ⟨⟨_, rfl, rfl⟩, hP⟩, hF⟩)
    refine g_aload_n (pc := 36) (i := 0) C dX8_dock_36 rfl rfl ?_
    refine g_callVv (pc := 37) (As := []) C (kX8_keepRecord X σ) ok_dl rfl q_7_21 q_7_22 q_7_23 q_1_2 q_8_0 ⟨rfl, hdX8_keepRecord⟩ ⟨Nat.le_of_ble_eq_true rfl, Nat.le_of_ble_eq_true rfl, rfl, rfl⟩ ⟨Nat.le_of_ble_eq_true rfl, Nat.le_of_ble_eq_true rfl⟩ (Nat.le_of_ble_eq_true rfl) rfl rfl dX8_dock_37 (fun σ13 _ => ?_)
    refine g_aload_n (pc := 40) (i := 0) C dX8_dock_40 rfl rfl ?_
    refine g_getr (pc := 41) (ci := 8) (N := 8) (T := TX8) (j := 0) (Cn := RX8) 1 C rfl inlX8 (Nat.le_of_ble_eq_true rfl) q_1_16 ok_dl rfl dX8_dock_41 ?_
    refine g_getNr (pc := 44) (ci := 4) (N := 7) (T := TX4) (j := 4) (Cn := RX4) (1 + 5) C rfl inlX4 (Nat.le_of_ble_eq_true rfl) (List.mem_of_getElem? (i := 10) rfl) (blk ok_now 0 rfl) rfl dX8_dock_44 ?_
    refine g_astore (pc := 47) C dX8_dock_47 (Nat.le_of_ble_eq_true rfl) rfl ?_
    refine g_aload (pc := 49) C dX8_dock_49 rfl ?_
    refine g_iload_n (pc := 51) (i := 1) C dX8_dock_51 rfl rfl ?_
    refine g_callVv (pc := 52) (As := [.int (p1)]) C (kX1_withdraw X σ13 (1 + 5) p1 (st_pl ok_now)) (blk (st_pl ok_now) 0 rfl) rfl q_11_14 q_11_15 q_11_16 q_2_23 q_11_17 ⟨rfl, hdX1_withdraw⟩ ⟨Nat.le_of_ble_eq_true rfl, Nat.le_of_ble_eq_true rfl, rfl, rfl⟩ ⟨Nat.le_of_ble_eq_true rfl, Nat.le_of_ble_eq_true rfl⟩ (Nat.le_of_ble_eq_true rfl) rfl rfl dX8_dock_52 (fun σ14 _ => ?_)
    refine g_aload (pc := 55) C dX8_dock_55 rfl ?_
    refine g_iload_n (pc := 57) (i := 2) C dX8_dock_57 rfl rfl ?_
    refine g_callVi (pc := 58) (As := [.int (p2)]) C (kX1_groupOf X σ14 (1 + 5) p2 (st_pl ok_now)) (blk (st_pl ok_now) 0 rfl) rfl q_24_18 q_11_19 q_11_20 q_2_23 q_11_21 ⟨rfl, hdX1_groupOf⟩ ⟨Nat.le_of_ble_eq_true rfl, Nat.le_of_ble_eq_true rfl, rfl, rfl⟩ ⟨Nat.le_of_ble_eq_true rfl, Nat.le_of_ble_eq_true rfl⟩ (Nat.le_of_ble_eq_true rfl) rfl rfl dX8_dock_58 (fun r15 _ => ?_)
    refine g_istore (pc := 61) C dX8_dock_61 (Nat.le_of_ble_eq_true rfl) rfl ?_
    refine g_aload (pc := 63) C dX8_dock_63 rfl ?_
    refine g_iload_n (pc := 65) (i := 1) C dX8_dock_65 rfl rfl ?_
    refine g_iload_n (pc := 66) (i := 3) C dX8_dock_66 rfl rfl ?_
    refine g_iconst (pc := 67) (v := 4) C dX8_dock_67 (by decide) ?_
    refine g_icmp_ne (pc := 68) (tgt := 76) C dX8_dock_68 rfl ?_ ?_
    · refine g_iload (pc := 71) C dX8_dock_71 rfl ?_
      refine g_goto (pc := 73) (tgt := 84) C dX8_dock_73 rfl ?_
      refine g_keep [true, true, false, false, true, false] ?_
      refine g_widen (cs' := 4) (ss' := 24) (Nat.le_of_ble_eq_true rfl) (Nat.le_of_ble_eq_true rfl) ?_
      exact bX8_dock_84 C hr hex hfl σ14 p1 p1 r15
    · refine g_aload (pc := 76) C dX8_dock_76 rfl ?_
      refine g_iload (pc := 78) C dX8_dock_78 rfl ?_
      refine g_iload_n (pc := 80) (i := 3) C dX8_dock_80 rfl rfl ?_
      refine g_callVi (pc := 81) (As := [.int (r15), .int (p3)]) C (kX1_makeGroupBeside X σ14 (1 + 5) r15 p3 (st_pl ok_now)) (blk (st_pl ok_now) 0 rfl) rfl q_33_18 q_33_19 q_33_20 q_2_23 q_33_21 ⟨rfl, hdX1_makeGroupBeside⟩ ⟨Nat.le_of_ble_eq_true rfl, Nat.le_of_ble_eq_true rfl, rfl, rfl⟩ ⟨Nat.le_of_ble_eq_true rfl, Nat.le_of_ble_eq_true rfl⟩ (Nat.le_of_ble_eq_true rfl) rfl rfl dX8_dock_81 (fun r16 _ => ?_)
      refine g_keep [true, true, false, false, true, false] ?_
      refine g_widen (cs' := 4) (ss' := 24) (Nat.le_of_ble_eq_true rfl) (Nat.le_of_ble_eq_true rfl) ?_
      exact bX8_dock_84 C hr hex hfl r16.2 p1 p1 r16.1
theorem dX8_start_0 : decode cX8_start 0 = .ok (.aload_n 0, 1) := by decide +kernel
theorem dX8_start_1 : decode cX8_start 1 = .ok (.iload_n 1, 1) := by decide +kernel
theorem dX8_start_2 : decode cX8_start 2 = .ok (.invokevirtual 74, 3) := by decide +kernel
theorem dX8_start_5 : decode cX8_start 5 = .ok (.aload_n 0, 1) := by decide +kernel
theorem dX8_start_6 : decode cX8_start 6 = .ok (.getfield 10, 3) := by decide +kernel
theorem dX8_start_9 : decode cX8_start 9 = .ok (.getfield 77, 3) := by decide +kernel
theorem dX8_start_12 : decode cX8_start 12 = .ok (.astore_n 2, 1) := by decide +kernel
theorem dX8_start_13 : decode cX8_start 13 = .ok (.aload_n 2, 1) := by decide +kernel
theorem dX8_start_14 : decode cX8_start 14 = .ok (.aload_n 2, 1) := by decide +kernel
theorem dX8_start_15 : decode cX8_start 15 = .ok (.iload_n 1, 1) := by decide +kernel
theorem dX8_start_16 : decode cX8_start 16 = .ok (.invokevirtual 126, 3) := by decide +kernel
theorem dX8_start_19 : decode cX8_start 19 = .ok (.invokevirtual 129, 3) := by decide +kernel
theorem dX8_start_22 : decode cX8_start 22 = .ok (.ifCond .ne 7, 3) := by decide +kernel
theorem dX8_start_25 : decode cX8_start 25 = .ok (.iconst 1, 1) := by decide +kernel
theorem dX8_start_26 : decode cX8_start 26 = .ok (.goto 4, 3) := by decide +kernel
theorem dX8_start_29 : decode cX8_start 29 = .ok (.iconst 0, 1) := by decide +kernel
theorem dX8_start_30 : decode cX8_start 30 = .ok (.istore_n 3, 1) := by decide +kernel
theorem dX8_start_31 : decode cX8_start 31 = .ok (.aload_n 2, 1) := by decide +kernel
theorem dX8_start_32 : decode cX8_start 32 = .ok (.iconst 0, 1) := by decide +kernel
theorem dX8_start_33 : decode cX8_start 33 = .ok (.invokevirtual 179, 3) := by decide +kernel
theorem dX8_start_36 : decode cX8_start 36 = .ok (.iload_n 3, 1) := by decide +kernel
theorem dX8_start_37 : decode cX8_start 37 = .ok (.if_icmp .le 13, 3) := by decide +kernel
theorem dX8_start_40 : decode cX8_start 40 = .ok (.new 56, 3) := by decide +kernel
theorem dX8_start_43 : decode cX8_start 43 = .ok (.dup, 1) := by decide +kernel
theorem dX8_start_44 : decode cX8_start 44 = .ok (.ldc 235, 2) := by decide +kernel
theorem dX8_start_46 : decode cX8_start 46 = .ok (.invokespecial 60, 3) := by decide +kernel
theorem dX8_start_49 : decode cX8_start 49 = .ok (.athrow, 1) := by decide +kernel
theorem dX8_start_50 : decode cX8_start 50 = .ok (.aload_n 0, 1) := by decide +kernel
theorem dX8_start_51 : decode cX8_start 51 = .ok (.invokevirtual 63, 3) := by decide +kernel
theorem dX8_start_54 : decode cX8_start 54 = .ok (.aload_n 2, 1) := by decide +kernel
theorem dX8_start_55 : decode cX8_start 55 = .ok (.iload_n 1, 1) := by decide +kernel
theorem dX8_start_56 : decode cX8_start 56 = .ok (.invokevirtual 81, 3) := by decide +kernel
theorem dX8_start_59 : decode cX8_start 59 = .ok (.aload_n 2, 1) := by decide +kernel
theorem dX8_start_60 : decode cX8_start 60 = .ok (.iload_n 1, 1) := by decide +kernel
theorem dX8_start_61 : decode cX8_start 61 = .ok (.aload_n 2, 1) := by decide +kernel
theorem dX8_start_62 : decode cX8_start 62 = .ok (.iconst 0, 1) := by decide +kernel
theorem dX8_start_63 : decode cX8_start 63 = .ok (.invokevirtual 237, 3) := by decide +kernel
theorem dX8_start_66 : decode cX8_start 66 = .ok (.invokevirtual 229, 3) := by decide +kernel
theorem dX8_start_69 : decode cX8_start 69 = .ok (.aload_n 0, 1) := by decide +kernel
theorem dX8_start_70 : decode cX8_start 70 = .ok (.getfield 10, 3) := by decide +kernel
theorem dX8_start_73 : decode cX8_start 73 = .ok (.getfield 86, 3) := by decide +kernel
theorem dX8_start_76 : decode cX8_start 76 = .ok (.iload_n 1, 1) := by decide +kernel
theorem dX8_start_77 : decode cX8_start 77 = .ok (.invokevirtual 232, 3) := by decide +kernel
theorem dX8_start_80 : decode cX8_start 80 = .ok (.aload_n 0, 1) := by decide +kernel
theorem dX8_start_81 : decode cX8_start 81 = .ok (.getfield 23, 3) := by decide +kernel
theorem dX8_start_84 : decode cX8_start 84 = .ok (.aload_n 0, 1) := by decide +kernel
theorem dX8_start_85 : decode cX8_start 85 = .ok (.getfield 10, 3) := by decide +kernel
theorem dX8_start_88 : decode cX8_start 88 = .ok (.invokevirtual 98, 3) := by decide +kernel
theorem dX8_start_91 : decode cX8_start 91 = .ok (.iconst 0, 1) := by decide +kernel
theorem dX8_start_92 : decode cX8_start 92 = .ok (.ireturn, 1) := by decide +kernel
abbrev rmX8_start : Room := { frames := 8, cells := 2, slots := 12, locals := 213 }
theorem hdX8_start : yX8_start.cls ≠ "java/lang/invoke/MethodHandle" ∧ yX8_start.cls ≠ "java/lang/invoke/VarHandle" ∧ (parseMethodDescriptor yX8_start.desc).map (fun d => d.parameters.length) = some 1 := by decide +kernel
def fX8_start_30 (σ : Sg) (l1 : Int32) (s0 : Int32) : Option ((Int32 ⊕ Nat) × Sg) :=
  (fX1_panesIn σ (1 + 5) 0).bind fun r6 =>
  if r6 ≤ s0 then
    (fX8_keepRecord σ).bind fun σ7 =>
    (fX1_withdraw σ7 (1 + 5) l1).bind fun σ8 =>
    (fX1_makeRootGroup σ8 (1 + 5) 0).bind fun r9 =>
    (fX1_joinGroup r9.2 (1 + 5) l1 r9.1).bind fun σ10 =>
    (fX0_putFirst σ10 (1 + 3) l1).bind fun σ11 =>
    (fX2_compute σ11 422 1).bind fun σ12 =>
    some (.inl 0, σ12)
  else
    some (.inr 2, σ)
theorem bX8_start_30 {X : Xc} {K : Kc} (C : MC X K cX8_start 4 RX8 rmX8_start) (hr : K.meth.sig.returnType = (some .int)) (hex : K.c.exceptionTable.toList = []) (hfl : X.l.stackTraces = false) (σ : Sg) (l1 : Int32) (s0 : Int32) : GO X K 4 (fun r => XM X K 2 12 (CXi X r.1 r.2) (CXx X r.1 r.2)) (fX8_start_30 σ l1 s0) σ 1 6 30 [some (.ref (X.ad 0)), some (.int (l1)), some (.ref (X.ad (1 + 5))), none] [.int (s0)] := by
  unfold fX8_start_30
  refine g_istore_n (pc := 30) (i := 3) C dX8_start_30 rfl (Nat.le_of_ble_eq_true rfl) rfl ?_
  refine g_aload_n (pc := 31) (i := 2) C dX8_start_31 rfl rfl ?_
  refine g_iconst (pc := 32) (v := 0) C dX8_start_32 (by decide) ?_
  refine g_callVi (pc := 33) (As := [.int (0)]) C (kX1_panesIn X σ (1 + 5) 0 (st_pl ok_now)) (blk (st_pl ok_now) 0 rfl) rfl q_29_23 q_30_0 q_30_1 q_2_23 q_30_2 ⟨rfl, hdX1_panesIn⟩ ⟨Nat.le_of_ble_eq_true rfl, Nat.le_of_ble_eq_true rfl, rfl, rfl⟩ ⟨Nat.le_of_ble_eq_true rfl, Nat.le_of_ble_eq_true rfl⟩ (Nat.le_of_ble_eq_true rfl) rfl rfl dX8_start_33 (fun r6 _ => ?_)
  refine g_iload_n (pc := 36) (i := 3) C dX8_start_36 rfl rfl ?_
  refine g_icmp_le (pc := 37) (tgt := 50) C dX8_start_37 rfl ?_ ?_
  · refine g_aload_n (pc := 50) (i := 0) C dX8_start_50 rfl rfl ?_
    refine g_callVv (pc := 51) (As := []) C (kX8_keepRecord X σ) ok_dl rfl q_7_21 q_7_22 q_7_23 q_1_2 q_8_0 ⟨rfl, hdX8_keepRecord⟩ ⟨Nat.le_of_ble_eq_true rfl, Nat.le_of_ble_eq_true rfl, rfl, rfl⟩ ⟨Nat.le_of_ble_eq_true rfl, Nat.le_of_ble_eq_true rfl⟩ (Nat.le_of_ble_eq_true rfl) rfl rfl dX8_start_51 (fun σ7 _ => ?_)
    refine g_aload_n (pc := 54) (i := 2) C dX8_start_54 rfl rfl ?_
    refine g_iload_n (pc := 55) (i := 1) C dX8_start_55 rfl rfl ?_
    refine g_callVv (pc := 56) (As := [.int (l1)]) C (kX1_withdraw X σ7 (1 + 5) l1 (st_pl ok_now)) (blk (st_pl ok_now) 0 rfl) rfl q_11_14 q_11_15 q_11_16 q_2_23 q_11_17 ⟨rfl, hdX1_withdraw⟩ ⟨Nat.le_of_ble_eq_true rfl, Nat.le_of_ble_eq_true rfl, rfl, rfl⟩ ⟨Nat.le_of_ble_eq_true rfl, Nat.le_of_ble_eq_true rfl⟩ (Nat.le_of_ble_eq_true rfl) rfl rfl dX8_start_56 (fun σ8 _ => ?_)
    refine g_aload_n (pc := 59) (i := 2) C dX8_start_59 rfl rfl ?_
    refine g_iload_n (pc := 60) (i := 1) C dX8_start_60 rfl rfl ?_
    refine g_aload_n (pc := 61) (i := 2) C dX8_start_61 rfl rfl ?_
    refine g_iconst (pc := 62) (v := 0) C dX8_start_62 (by decide) ?_
    refine g_callVi (pc := 63) (As := [.int (0)]) C (kX1_makeRootGroup X σ8 (1 + 5) 0 (st_pl ok_now)) (blk (st_pl ok_now) 0 rfl) rfl q_36_1 q_36_2 q_36_3 q_2_23 q_36_4 ⟨rfl, hdX1_makeRootGroup⟩ ⟨Nat.le_of_ble_eq_true rfl, Nat.le_of_ble_eq_true rfl, rfl, rfl⟩ ⟨Nat.le_of_ble_eq_true rfl, Nat.le_of_ble_eq_true rfl⟩ (Nat.le_of_ble_eq_true rfl) rfl rfl dX8_start_63 (fun r9 _ => ?_)
    refine g_callVv (pc := 66) (As := [.int (l1), .int (r9.1)]) C (kX1_joinGroup X r9.2 (1 + 5) l1 r9.1 (st_pl ok_now)) (blk (st_pl ok_now) 0 rfl) rfl q_34_9 q_34_10 q_34_11 q_2_23 q_34_12 ⟨rfl, hdX1_joinGroup⟩ ⟨Nat.le_of_ble_eq_true rfl, Nat.le_of_ble_eq_true rfl, rfl, rfl⟩ ⟨Nat.le_of_ble_eq_true rfl, Nat.le_of_ble_eq_true rfl⟩ (Nat.le_of_ble_eq_true rfl) rfl rfl dX8_start_66 (fun σ10 _ => ?_)
    refine g_aload_n (pc := 69) (i := 0) C dX8_start_69 rfl rfl ?_
    refine g_getr (pc := 70) (ci := 8) (N := 8) (T := TX8) (j := 0) (Cn := RX8) 1 C rfl inlX8 (Nat.le_of_ble_eq_true rfl) q_1_16 ok_dl rfl dX8_start_70 ?_
    refine g_getNr (pc := 73) (ci := 4) (N := 7) (T := TX4) (j := 3) (Cn := RX4) (1 + 3) C rfl inlX4 (Nat.le_of_ble_eq_true rfl) (List.mem_of_getElem? (i := 11) rfl) (blk ok_now 0 rfl) rfl dX8_start_73 ?_
    refine g_iload_n (pc := 76) (i := 1) C dX8_start_76 rfl rfl ?_
    refine g_callVv (pc := 77) (As := [.int (l1)]) C (kX0_putFirst X σ10 (1 + 3) l1 (st_or ok_now)) (blk (st_or ok_now) 0 rfl) rfl q_34_13 q_34_14 q_34_15 q_2_19 q_34_16 ⟨rfl, hdX0_putFirst⟩ ⟨Nat.le_of_ble_eq_true rfl, Nat.le_of_ble_eq_true rfl, rfl, rfl⟩ ⟨Nat.le_of_ble_eq_true rfl, Nat.le_of_ble_eq_true rfl⟩ (Nat.le_of_ble_eq_true rfl) rfl rfl dX8_start_77 (fun σ11 _ => ?_)
    refine g_aload_n (pc := 80) (i := 0) C dX8_start_80 rfl rfl ?_
    refine g_getr (pc := 81) (ci := 8) (N := 8) (T := TX8) (j := 4) (Cn := RX8) 422 C rfl inlX8 (Nat.le_of_ble_eq_true rfl) q_1_21 ok_dl rfl dX8_start_81 ?_
    refine g_aload_n (pc := 84) (i := 0) C dX8_start_84 rfl rfl ?_
    refine g_getr (pc := 85) (ci := 8) (N := 8) (T := TX8) (j := 0) (Cn := RX8) 1 C rfl inlX8 (Nat.le_of_ble_eq_true rfl) q_1_16 ok_dl rfl dX8_start_85 ?_
    refine g_callVv (pc := 88) (As := [.ref (X.ad 1)]) C (kX2_compute X σ11 422 1 ok_pn ok_now) (blk ok_pn 0 rfl) rfl q_15_1 q_15_2 q_15_3 q_1_20 q_15_4 ⟨rfl, hdX2_compute⟩ ⟨Nat.le_of_ble_eq_true rfl, Nat.le_of_ble_eq_true rfl, rfl, rfl⟩ ⟨Nat.le_of_ble_eq_true rfl, Nat.le_of_ble_eq_true rfl⟩ (Nat.le_of_ble_eq_true rfl) rfl rfl dX8_start_88 (fun σ12 _ => ?_)
    refine g_iconst (pc := 91) (v := 0) C dX8_start_91 (by decide) ?_
    exact g_xiret (pc := 92) C hr dX8_start_92 (Nat.le_of_ble_eq_true rfl) (Nat.le_of_ble_eq_true rfl) (fun t hP hF => ⟨⟨_, (), rfl, rfl, hP⟩, hF⟩)
  · exact g_throw (pc := 40) (e := 2) (cls := "java/lang/IllegalStateException") (text := "another pane is placed in the main window") (ik := 56) (is := 235) (ic := 60) C hex hfl rfl (by decide +kernel) q_7_2 q_7_3 (List.mem_of_getElem? (i := 2) rfl) (xat_2 C.ts C.k) xgood_2 dX8_start_40 dX8_start_43 dX8_start_44 dX8_start_46 dX8_start_49 (Nat.le_of_ble_eq_true rfl) (Nat.le_of_ble_eq_true rfl) (Nat.le_of_ble_eq_true rfl) (Nat.le_of_ble_eq_true rfl) (Nat.le_of_ble_eq_true rfl) (Nat.le_of_ble_eq_true rfl) (fun t hP hF => ⟨(), trivial, ⟨⟨_, rfl, rfl⟩, hP⟩, hF⟩)
def fX8_start (σ : Sg) (p1 : Int32) : Option ((Int32 ⊕ Nat) × Sg) :=
  (fX8_requirePane σ p1).bind fun r1 => xcat r1 (fun e3 => some (.inr e3, σ)) fun w2 =>
  (fX1_groupOf σ (1 + 5) p1).bind fun r4 =>
  (fX1_windowOf σ (1 + 5) r4).bind fun r5 =>
  if r5 = 0 then
    (fX8_start_30 σ p1 1)
  else
    (fX8_start_30 σ p1 0)
theorem kX8_start (X : Xc) (σ : Sg) (p1 : Int32) (hfl : X.l.stackTraces = false) : ∀ r, fX8_start σ p1 = some r → vx_Met X.l yX8_start (wsM yX8_start cX8_start 4 (some .int)) rmX8_start (va_Pc [.ref (X.ad 0), .int p1] (PW X σ)) (CXi X r.1 r.2) (CXx X r.1 r.2) 2 12 X.A := by
  refine xt_of (own := RX8) (lo := [some (.ref (X.ad 0)), some (.int (p1)), none, none]) (by decide) rfl (Nat.le_of_ble_eq_true rfl) rfl (fun K C hr hex => ?_)
  unfold fX8_start
  refine g_aload_n (pc := 0) (i := 0) C dX8_start_0 rfl rfl ?_
  refine g_iload_n (pc := 1) (i := 1) C dX8_start_1 rfl rfl ?_
  refine g_xcallVv (pc := 2) (As := [.int (p1)]) C (kX8_requirePane X σ p1 hfl) ok_dl rfl q_11_7 q_11_8 q_11_9 q_1_2 q_11_10 ⟨rfl, hdX8_requirePane⟩ ⟨Nat.le_of_ble_eq_true rfl, Nat.le_of_ble_eq_true rfl, rfl, rfl, Nat.le_of_ble_eq_true rfl, Nat.le_of_ble_eq_true rfl⟩ (Nat.le_of_ble_eq_true rfl) rfl rfl dX8_start_2 (fun r1 e3 _ _ => ?_) (fun r1 w2 _ _ => ?_)
  · exact gx_out C hex (Nat.le_of_ble_eq_true rfl) (Nat.le_of_ble_eq_true rfl) (fun t hP hF => ⟨(), trivial, ⟨⟨_, rfl, rfl⟩, hP⟩, hF⟩)
  refine g_aload_n (pc := 5) (i := 0) C dX8_start_5 rfl rfl ?_
  refine g_getr (pc := 6) (ci := 8) (N := 8) (T := TX8) (j := 0) (Cn := RX8) 1 C rfl inlX8 (Nat.le_of_ble_eq_true rfl) q_1_16 ok_dl rfl dX8_start_6 ?_
  refine g_getNr (pc := 9) (ci := 4) (N := 7) (T := TX4) (j := 4) (Cn := RX4) (1 + 5) C rfl inlX4 (Nat.le_of_ble_eq_true rfl) (List.mem_of_getElem? (i := 10) rfl) (blk ok_now 0 rfl) rfl dX8_start_9 ?_
  refine g_astore_n (pc := 12) (i := 2) C dX8_start_12 rfl (Nat.le_of_ble_eq_true rfl) rfl ?_
  refine g_aload_n (pc := 13) (i := 2) C dX8_start_13 rfl rfl ?_
  refine g_aload_n (pc := 14) (i := 2) C dX8_start_14 rfl rfl ?_
  refine g_iload_n (pc := 15) (i := 1) C dX8_start_15 rfl rfl ?_
  refine g_callVi (pc := 16) (As := [.int (p1)]) C (kX1_groupOf X σ (1 + 5) p1 (st_pl ok_now)) (blk (st_pl ok_now) 0 rfl) rfl q_24_18 q_11_19 q_11_20 q_2_23 q_11_21 ⟨rfl, hdX1_groupOf⟩ ⟨Nat.le_of_ble_eq_true rfl, Nat.le_of_ble_eq_true rfl, rfl, rfl⟩ ⟨Nat.le_of_ble_eq_true rfl, Nat.le_of_ble_eq_true rfl⟩ (Nat.le_of_ble_eq_true rfl) rfl rfl dX8_start_16 (fun r4 _ => ?_)
  refine g_callVi (pc := 19) (As := [.int (r4)]) C (kX1_windowOf X σ (1 + 5) r4 (st_pl ok_now)) (blk (st_pl ok_now) 0 rfl) rfl q_24_19 q_13_9 q_13_10 q_2_23 q_13_11 ⟨rfl, hdX1_windowOf⟩ ⟨Nat.le_of_ble_eq_true rfl, Nat.le_of_ble_eq_true rfl, rfl, rfl⟩ ⟨Nat.le_of_ble_eq_true rfl, Nat.le_of_ble_eq_true rfl⟩ (Nat.le_of_ble_eq_true rfl) rfl rfl dX8_start_19 (fun r5 _ => ?_)
  refine g_if_ne (pc := 22) (tgt := 29) C dX8_start_22 rfl ?_ ?_
  · refine g_iconst (pc := 25) (v := 1) C dX8_start_25 (by decide) ?_
    refine g_goto (pc := 26) (tgt := 30) C dX8_start_26 rfl ?_
    refine g_keep [true, true, true, false] ?_
    refine g_widen (cs' := 1) (ss' := 6) (Nat.le_of_ble_eq_true rfl) (Nat.le_of_ble_eq_true rfl) ?_
    exact bX8_start_30 C hr hex hfl σ p1 1
  · refine g_iconst (pc := 29) (v := 0) C dX8_start_29 (by decide) ?_
    refine g_keep [true, true, true, false] ?_
    refine g_widen (cs' := 1) (ss' := 6) (Nat.le_of_ble_eq_true rfl) (Nat.le_of_ble_eq_true rfl) ?_
    exact bX8_start_30 C hr hex hfl σ p1 0
theorem dX8_floatAt_0 : decode cX8_floatAt 0 = .ok (.aload_n 0, 1) := by decide +kernel
theorem dX8_floatAt_1 : decode cX8_floatAt 1 = .ok (.iload_n 1, 1) := by decide +kernel
theorem dX8_floatAt_2 : decode cX8_floatAt 2 = .ok (.invokevirtual 74, 3) := by decide +kernel
theorem dX8_floatAt_5 : decode cX8_floatAt 5 = .ok (.iload_n 2, 1) := by decide +kernel
theorem dX8_floatAt_6 : decode cX8_floatAt 6 = .ok (.sipush (-400), 3) := by decide +kernel
theorem dX8_floatAt_9 : decode cX8_floatAt 9 = .ok (.sipush 400, 3) := by decide +kernel
theorem dX8_floatAt_12 : decode cX8_floatAt 12 = .ok (.invokestatic 123, 3) := by decide +kernel
theorem dX8_floatAt_15 : decode cX8_floatAt 15 = .ok (.iload_n 3, 1) := by decide +kernel
theorem dX8_floatAt_16 : decode cX8_floatAt 16 = .ok (.sipush (-400), 3) := by decide +kernel
theorem dX8_floatAt_19 : decode cX8_floatAt 19 = .ok (.sipush 400, 3) := by decide +kernel
theorem dX8_floatAt_22 : decode cX8_floatAt 22 = .ok (.invokestatic 123, 3) := by decide +kernel
theorem dX8_floatAt_25 : decode cX8_floatAt 25 = .ok (.iload 4, 2) := by decide +kernel
theorem dX8_floatAt_27 : decode cX8_floatAt 27 = .ok (.bipush 10, 2) := by decide +kernel
theorem dX8_floatAt_29 : decode cX8_floatAt 29 = .ok (.sipush 400, 3) := by decide +kernel
theorem dX8_floatAt_32 : decode cX8_floatAt 32 = .ok (.invokestatic 123, 3) := by decide +kernel
theorem dX8_floatAt_35 : decode cX8_floatAt 35 = .ok (.iload 5, 2) := by decide +kernel
theorem dX8_floatAt_37 : decode cX8_floatAt 37 = .ok (.bipush 10, 2) := by decide +kernel
theorem dX8_floatAt_39 : decode cX8_floatAt 39 = .ok (.sipush 400, 3) := by decide +kernel
theorem dX8_floatAt_42 : decode cX8_floatAt 42 = .ok (.invokestatic 123, 3) := by decide +kernel
theorem dX8_floatAt_45 : decode cX8_floatAt 45 = .ok (.aload_n 0, 1) := by decide +kernel
theorem dX8_floatAt_46 : decode cX8_floatAt 46 = .ok (.getfield 10, 3) := by decide +kernel
theorem dX8_floatAt_49 : decode cX8_floatAt 49 = .ok (.getfield 77, 3) := by decide +kernel
theorem dX8_floatAt_52 : decode cX8_floatAt 52 = .ok (.astore 6, 2) := by decide +kernel
theorem dX8_floatAt_54 : decode cX8_floatAt 54 = .ok (.aload 6, 2) := by decide +kernel
theorem dX8_floatAt_56 : decode cX8_floatAt 56 = .ok (.getfield 191, 3) := by decide +kernel
theorem dX8_floatAt_59 : decode cX8_floatAt 59 = .ok (.invokevirtual 240, 3) := by decide +kernel
theorem dX8_floatAt_62 : decode cX8_floatAt 62 = .ok (.iconst 4, 1) := by decide +kernel
theorem dX8_floatAt_63 : decode cX8_floatAt 63 = .ok (.if_icmp .lt 13, 3) := by decide +kernel
theorem dX8_floatAt_66 : decode cX8_floatAt 66 = .ok (.new 56, 3) := by decide +kernel
theorem dX8_floatAt_69 : decode cX8_floatAt 69 = .ok (.dup, 1) := by decide +kernel
theorem dX8_floatAt_70 : decode cX8_floatAt 70 = .ok (.ldc 243, 2) := by decide +kernel
theorem dX8_floatAt_72 : decode cX8_floatAt 72 = .ok (.invokespecial 60, 3) := by decide +kernel
theorem dX8_floatAt_75 : decode cX8_floatAt 75 = .ok (.athrow, 1) := by decide +kernel
theorem dX8_floatAt_76 : decode cX8_floatAt 76 = .ok (.aload_n 0, 1) := by decide +kernel
theorem dX8_floatAt_77 : decode cX8_floatAt 77 = .ok (.invokevirtual 63, 3) := by decide +kernel
theorem dX8_floatAt_80 : decode cX8_floatAt 80 = .ok (.aload 6, 2) := by decide +kernel
theorem dX8_floatAt_82 : decode cX8_floatAt 82 = .ok (.iload_n 1, 1) := by decide +kernel
theorem dX8_floatAt_83 : decode cX8_floatAt 83 = .ok (.invokevirtual 81, 3) := by decide +kernel
theorem dX8_floatAt_86 : decode cX8_floatAt 86 = .ok (.aload 6, 2) := by decide +kernel
theorem dX8_floatAt_88 : decode cX8_floatAt 88 = .ok (.invokevirtual 245, 3) := by decide +kernel
theorem dX8_floatAt_91 : decode cX8_floatAt 91 = .ok (.istore 7, 2) := by decide +kernel
theorem dX8_floatAt_93 : decode cX8_floatAt 93 = .ok (.aload 6, 2) := by decide +kernel
theorem dX8_floatAt_95 : decode cX8_floatAt 95 = .ok (.iload 7, 2) := by decide +kernel
theorem dX8_floatAt_97 : decode cX8_floatAt 97 = .ok (.iload_n 2, 1) := by decide +kernel
theorem dX8_floatAt_98 : decode cX8_floatAt 98 = .ok (.iload_n 3, 1) := by decide +kernel
theorem dX8_floatAt_99 : decode cX8_floatAt 99 = .ok (.invokevirtual 188, 3) := by decide +kernel
theorem dX8_floatAt_102 : decode cX8_floatAt 102 = .ok (.aload 6, 2) := by decide +kernel
theorem dX8_floatAt_104 : decode cX8_floatAt 104 = .ok (.iload 7, 2) := by decide +kernel
theorem dX8_floatAt_106 : decode cX8_floatAt 106 = .ok (.iload 4, 2) := by decide +kernel
theorem dX8_floatAt_108 : decode cX8_floatAt 108 = .ok (.iload 5, 2) := by decide +kernel
theorem dX8_floatAt_110 : decode cX8_floatAt 110 = .ok (.invokevirtual 176, 3) := by decide +kernel
theorem dX8_floatAt_113 : decode cX8_floatAt 113 = .ok (.aload 6, 2) := by decide +kernel
theorem dX8_floatAt_115 : decode cX8_floatAt 115 = .ok (.iload_n 1, 1) := by decide +kernel
theorem dX8_floatAt_116 : decode cX8_floatAt 116 = .ok (.aload 6, 2) := by decide +kernel
theorem dX8_floatAt_118 : decode cX8_floatAt 118 = .ok (.iload 7, 2) := by decide +kernel
theorem dX8_floatAt_120 : decode cX8_floatAt 120 = .ok (.invokevirtual 237, 3) := by decide +kernel
theorem dX8_floatAt_123 : decode cX8_floatAt 123 = .ok (.invokevirtual 229, 3) := by decide +kernel
theorem dX8_floatAt_126 : decode cX8_floatAt 126 = .ok (.aload 6, 2) := by decide +kernel
theorem dX8_floatAt_128 : decode cX8_floatAt 128 = .ok (.getfield 191, 3) := by decide +kernel
theorem dX8_floatAt_131 : decode cX8_floatAt 131 = .ok (.iload 7, 2) := by decide +kernel
theorem dX8_floatAt_133 : decode cX8_floatAt 133 = .ok (.invokevirtual 197, 3) := by decide +kernel
theorem dX8_floatAt_136 : decode cX8_floatAt 136 = .ok (.aload_n 0, 1) := by decide +kernel
theorem dX8_floatAt_137 : decode cX8_floatAt 137 = .ok (.getfield 10, 3) := by decide +kernel
theorem dX8_floatAt_140 : decode cX8_floatAt 140 = .ok (.getfield 86, 3) := by decide +kernel
theorem dX8_floatAt_143 : decode cX8_floatAt 143 = .ok (.iload_n 1, 1) := by decide +kernel
theorem dX8_floatAt_144 : decode cX8_floatAt 144 = .ok (.invokevirtual 232, 3) := by decide +kernel
theorem dX8_floatAt_147 : decode cX8_floatAt 147 = .ok (.aload_n 0, 1) := by decide +kernel
theorem dX8_floatAt_148 : decode cX8_floatAt 148 = .ok (.getfield 23, 3) := by decide +kernel
theorem dX8_floatAt_151 : decode cX8_floatAt 151 = .ok (.aload_n 0, 1) := by decide +kernel
theorem dX8_floatAt_152 : decode cX8_floatAt 152 = .ok (.getfield 10, 3) := by decide +kernel
theorem dX8_floatAt_155 : decode cX8_floatAt 155 = .ok (.invokevirtual 98, 3) := by decide +kernel
theorem dX8_floatAt_158 : decode cX8_floatAt 158 = .ok (.iload 7, 2) := by decide +kernel
theorem dX8_floatAt_160 : decode cX8_floatAt 160 = .ok (.ireturn, 1) := by decide +kernel
abbrev rmX8_floatAt : Room := { frames := 8, cells := 6, slots := 36, locals := 213 }
theorem hdX8_floatAt : yX8_floatAt.cls ≠ "java/lang/invoke/MethodHandle" ∧ yX8_floatAt.cls ≠ "java/lang/invoke/VarHandle" ∧ (parseMethodDescriptor yX8_floatAt.desc).map (fun d => d.parameters.length) = some 5 := by decide +kernel
def fX8_floatAt (σ : Sg) (p1 : Int32) (p2 : Int32) (p3 : Int32) (p4 : Int32) (p5 : Int32) : Option ((Int32 ⊕ Nat) × Sg) :=
  (fX8_requirePane σ p1).bind fun r1 => xcat r1 (fun e3 => some (.inr e3, σ)) fun w2 =>
  (fX8_requireRange σ p2 (-400) 400).bind fun r4 => xcat r4 (fun e6 => some (.inr e6, σ)) fun w5 =>
  (fX8_requireRange σ p3 (-400) 400).bind fun r7 => xcat r7 (fun e9 => some (.inr e9, σ)) fun w8 =>
  (fX8_requireRange σ p4 10 400).bind fun r10 => xcat r10 (fun e12 => some (.inr e12, σ)) fun w11 =>
  (fX8_requireRange σ p5 10 400).bind fun r13 => xcat r13 (fun e15 => some (.inr e15, σ)) fun w14 =>
  (fX0_size σ ((1 + 5) + 6)).bind fun r16 =>
  if r16 < 4 then
    (fX8_keepRecord σ).bind fun σ17 =>
    (fX1_withdraw σ17 (1 + 5) p1).bind fun σ18 =>
    (fX1_lowestFreeWindow σ18 (1 + 5)).bind fun r19 =>
    (fX1_setCorner σ18 (1 + 5) r19 p2 p3).bind fun σ20 =>
    (fX1_setSize σ20 (1 + 5) r19 p4 p5).bind fun σ21 =>
    (fX1_makeRootGroup σ21 (1 + 5) r19).bind fun r22 =>
    (fX1_joinGroup r22.2 (1 + 5) p1 r22.1).bind fun σ23 =>
    (fX0_putLast σ23 ((1 + 5) + 6) r19).bind fun σ24 =>
    (fX0_putFirst σ24 (1 + 3) p1).bind fun σ25 =>
    (fX2_compute σ25 422 1).bind fun σ26 =>
    some (.inl r19, σ26)
  else
    some (.inr 2, σ)
theorem kX8_floatAt (X : Xc) (σ : Sg) (p1 : Int32) (p2 : Int32) (p3 : Int32) (p4 : Int32) (p5 : Int32) (hfl : X.l.stackTraces = false) : ∀ r, fX8_floatAt σ p1 p2 p3 p4 p5 = some r → vx_Met X.l yX8_floatAt (wsM yX8_floatAt cX8_floatAt 8 (some .int)) rmX8_floatAt (va_Pc [.ref (X.ad 0), .int p1, .int p2, .int p3, .int p4, .int p5] (PW X σ)) (CXi X r.1 r.2) (CXx X r.1 r.2) 6 36 X.A := by
  refine xt_of (own := RX8) (lo := [some (.ref (X.ad 0)), some (.int (p1)), some (.int (p2)), some (.int (p3)), some (.int (p4)), some (.int (p5)), none, none]) (by decide) rfl (Nat.le_of_ble_eq_true rfl) rfl (fun K C hr hex => ?_)
  unfold fX8_floatAt
  refine g_aload_n (pc := 0) (i := 0) C dX8_floatAt_0 rfl rfl ?_
  refine g_iload_n (pc := 1) (i := 1) C dX8_floatAt_1 rfl rfl ?_
  refine g_xcallVv (pc := 2) (As := [.int (p1)]) C (kX8_requirePane X σ p1 hfl) ok_dl rfl q_11_7 q_11_8 q_11_9 q_1_2 q_11_10 ⟨rfl, hdX8_requirePane⟩ ⟨Nat.le_of_ble_eq_true rfl, Nat.le_of_ble_eq_true rfl, rfl, rfl, Nat.le_of_ble_eq_true rfl, Nat.le_of_ble_eq_true rfl⟩ (Nat.le_of_ble_eq_true rfl) rfl rfl dX8_floatAt_2 (fun r1 e3 _ _ => ?_) (fun r1 w2 _ _ => ?_)
  · exact gx_out C hex (Nat.le_of_ble_eq_true rfl) (Nat.le_of_ble_eq_true rfl) (fun t hP hF => ⟨(), trivial, ⟨⟨_, rfl, rfl⟩, hP⟩, hF⟩)
  refine g_iload_n (pc := 5) (i := 2) C dX8_floatAt_5 rfl rfl ?_
  refine g_sipush (pc := 6) (v := (-400)) C dX8_floatAt_6 (by decide) ?_
  refine g_sipush (pc := 9) (v := 400) C dX8_floatAt_9 (by decide) ?_
  refine g_xcallSv (pc := 12) (As := [.int (p2), .int ((-400)), .int (400)]) C (kX8_requireRange X σ p2 (-400) 400 hfl) q_7_7 q_7_8 q_1_2 q_7_9 hdX8_requireRange ⟨Nat.le_of_ble_eq_true rfl, Nat.le_of_ble_eq_true rfl, rfl, rfl, Nat.le_of_ble_eq_true rfl, Nat.le_of_ble_eq_true rfl⟩ (Nat.le_of_ble_eq_true rfl) rfl rfl dX8_floatAt_12 (fun r4 e6 _ _ => ?_) (fun r4 w5 _ _ => ?_)
  · exact gx_out C hex (Nat.le_of_ble_eq_true rfl) (Nat.le_of_ble_eq_true rfl) (fun t hP hF => ⟨(), trivial, ⟨⟨_, rfl, rfl⟩, hP⟩, hF⟩)
  refine g_iload_n (pc := 15) (i := 3) C dX8_floatAt_15 rfl rfl ?_
  refine g_sipush (pc := 16) (v := (-400)) C dX8_floatAt_16 (by decide) ?_
  refine g_sipush (pc := 19) (v := 400) C dX8_floatAt_19 (by decide) ?_
  refine g_xcallSv (pc := 22) (As := [.int (p3), .int ((-400)), .int (400)]) C (kX8_requireRange X σ p3 (-400) 400 hfl) q_7_7 q_7_8 q_1_2 q_7_9 hdX8_requireRange ⟨Nat.le_of_ble_eq_true rfl, Nat.le_of_ble_eq_true rfl, rfl, rfl, Nat.le_of_ble_eq_true rfl, Nat.le_of_ble_eq_true rfl⟩ (Nat.le_of_ble_eq_true rfl) rfl rfl dX8_floatAt_22 (fun r7 e9 _ _ => ?_) (fun r7 w8 _ _ => ?_)
  · exact gx_out C hex (Nat.le_of_ble_eq_true rfl) (Nat.le_of_ble_eq_true rfl) (fun t hP hF => ⟨(), trivial, ⟨⟨_, rfl, rfl⟩, hP⟩, hF⟩)
  refine g_iload (pc := 25) C dX8_floatAt_25 rfl ?_
  refine g_bipush (pc := 27) (v := 10) C dX8_floatAt_27 (by decide) ?_
  refine g_sipush (pc := 29) (v := 400) C dX8_floatAt_29 (by decide) ?_
  refine g_xcallSv (pc := 32) (As := [.int (p4), .int (10), .int (400)]) C (kX8_requireRange X σ p4 10 400 hfl) q_7_7 q_7_8 q_1_2 q_7_9 hdX8_requireRange ⟨Nat.le_of_ble_eq_true rfl, Nat.le_of_ble_eq_true rfl, rfl, rfl, Nat.le_of_ble_eq_true rfl, Nat.le_of_ble_eq_true rfl⟩ (Nat.le_of_ble_eq_true rfl) rfl rfl dX8_floatAt_32 (fun r10 e12 _ _ => ?_) (fun r10 w11 _ _ => ?_)
  · exact gx_out C hex (Nat.le_of_ble_eq_true rfl) (Nat.le_of_ble_eq_true rfl) (fun t hP hF => ⟨(), trivial, ⟨⟨_, rfl, rfl⟩, hP⟩, hF⟩)
  refine g_iload (pc := 35) C dX8_floatAt_35 rfl ?_
  refine g_bipush (pc := 37) (v := 10) C dX8_floatAt_37 (by decide) ?_
  refine g_sipush (pc := 39) (v := 400) C dX8_floatAt_39 (by decide) ?_
  refine g_xcallSv (pc := 42) (As := [.int (p5), .int (10), .int (400)]) C (kX8_requireRange X σ p5 10 400 hfl) q_7_7 q_7_8 q_1_2 q_7_9 hdX8_requireRange ⟨Nat.le_of_ble_eq_true rfl, Nat.le_of_ble_eq_true rfl, rfl, rfl, Nat.le_of_ble_eq_true rfl, Nat.le_of_ble_eq_true rfl⟩ (Nat.le_of_ble_eq_true rfl) rfl rfl dX8_floatAt_42 (fun r13 e15 _ _ => ?_) (fun r13 w14 _ _ => ?_)
  · exact gx_out C hex (Nat.le_of_ble_eq_true rfl) (Nat.le_of_ble_eq_true rfl) (fun t hP hF => ⟨(), trivial, ⟨⟨_, rfl, rfl⟩, hP⟩, hF⟩)
  refine g_aload_n (pc := 45) (i := 0) C dX8_floatAt_45 rfl rfl ?_
  refine g_getr (pc := 46) (ci := 8) (N := 8) (T := TX8) (j := 0) (Cn := RX8) 1 C rfl inlX8 (Nat.le_of_ble_eq_true rfl) q_1_16 ok_dl rfl dX8_floatAt_46 ?_
  refine g_getNr (pc := 49) (ci := 4) (N := 7) (T := TX4) (j := 4) (Cn := RX4) (1 + 5) C rfl inlX4 (Nat.le_of_ble_eq_true rfl) (List.mem_of_getElem? (i := 10) rfl) (blk ok_now 0 rfl) rfl dX8_floatAt_49 ?_
  refine g_astore (pc := 52) C dX8_floatAt_52 (Nat.le_of_ble_eq_true rfl) rfl ?_
  refine g_aload (pc := 54) C dX8_floatAt_54 rfl ?_
  refine g_getNr (pc := 56) (ci := 1) (N := 14) (T := TX1) (j := 5) (Cn := RX1) ((1 + 5) + 6) C rfl inlX1 (Nat.le_of_ble_eq_true rfl) (List.mem_of_getElem? (i := 16) rfl) (blk (st_pl ok_now) 0 rfl) rfl dX8_floatAt_56 ?_
  refine g_callVi (pc := 59) (As := []) C (kX0_size X σ ((1 + 5) + 6) (pl_or (st_pl ok_now))) (blk (pl_or (st_pl ok_now)) 0 rfl) rfl q_37_0 q_37_1 q_37_2 q_2_19 q_37_3 ⟨rfl, hdX0_size⟩ ⟨Nat.le_of_ble_eq_true rfl, Nat.le_of_ble_eq_true rfl, rfl, rfl⟩ ⟨Nat.le_of_ble_eq_true rfl, Nat.le_of_ble_eq_true rfl⟩ (Nat.le_of_ble_eq_true rfl) rfl rfl dX8_floatAt_59 (fun r16 _ => ?_)
  refine g_iconst (pc := 62) (v := 4) C dX8_floatAt_62 (by decide) ?_
  refine g_icmp_lt (pc := 63) (tgt := 76) C dX8_floatAt_63 rfl ?_ ?_
  · refine g_aload_n (pc := 76) (i := 0) C dX8_floatAt_76 rfl rfl ?_
    refine g_callVv (pc := 77) (As := []) C (kX8_keepRecord X σ) ok_dl rfl q_7_21 q_7_22 q_7_23 q_1_2 q_8_0 ⟨rfl, hdX8_keepRecord⟩ ⟨Nat.le_of_ble_eq_true rfl, Nat.le_of_ble_eq_true rfl, rfl, rfl⟩ ⟨Nat.le_of_ble_eq_true rfl, Nat.le_of_ble_eq_true rfl⟩ (Nat.le_of_ble_eq_true rfl) rfl rfl dX8_floatAt_77 (fun σ17 _ => ?_)
    refine g_aload (pc := 80) C dX8_floatAt_80 rfl ?_
    refine g_iload_n (pc := 82) (i := 1) C dX8_floatAt_82 rfl rfl ?_
    refine g_callVv (pc := 83) (As := [.int (p1)]) C (kX1_withdraw X σ17 (1 + 5) p1 (st_pl ok_now)) (blk (st_pl ok_now) 0 rfl) rfl q_11_14 q_11_15 q_11_16 q_2_23 q_11_17 ⟨rfl, hdX1_withdraw⟩ ⟨Nat.le_of_ble_eq_true rfl, Nat.le_of_ble_eq_true rfl, rfl, rfl⟩ ⟨Nat.le_of_ble_eq_true rfl, Nat.le_of_ble_eq_true rfl⟩ (Nat.le_of_ble_eq_true rfl) rfl rfl dX8_floatAt_83 (fun σ18 _ => ?_)
    refine g_aload (pc := 86) C dX8_floatAt_86 rfl ?_
    refine g_callVi (pc := 88) (As := []) C (kX1_lowestFreeWindow X σ18 (1 + 5) (st_pl ok_now)) (blk (st_pl ok_now) 0 rfl) rfl q_37_4 q_37_5 q_37_6 q_2_23 q_37_7 ⟨rfl, hdX1_lowestFreeWindow⟩ ⟨Nat.le_of_ble_eq_true rfl, Nat.le_of_ble_eq_true rfl, rfl, rfl⟩ ⟨Nat.le_of_ble_eq_true rfl, Nat.le_of_ble_eq_true rfl⟩ (Nat.le_of_ble_eq_true rfl) rfl rfl dX8_floatAt_88 (fun r19 _ => ?_)
    refine g_istore (pc := 91) C dX8_floatAt_91 (Nat.le_of_ble_eq_true rfl) rfl ?_
    refine g_aload (pc := 93) C dX8_floatAt_93 rfl ?_
    refine g_iload (pc := 95) C dX8_floatAt_95 rfl ?_
    refine g_iload_n (pc := 97) (i := 2) C dX8_floatAt_97 rfl rfl ?_
    refine g_iload_n (pc := 98) (i := 3) C dX8_floatAt_98 rfl rfl ?_
    refine g_callVv (pc := 99) (As := [.int (r19), .int (p2), .int (p3)]) C (kX1_setCorner X σ18 (1 + 5) r19 p2 p3 (st_pl ok_now)) (blk (st_pl ok_now) 0 rfl) rfl q_30_21 q_30_22 q_30_23 q_2_23 q_31_0 ⟨rfl, hdX1_setCorner⟩ ⟨Nat.le_of_ble_eq_true rfl, Nat.le_of_ble_eq_true rfl, rfl, rfl⟩ ⟨Nat.le_of_ble_eq_true rfl, Nat.le_of_ble_eq_true rfl⟩ (Nat.le_of_ble_eq_true rfl) rfl rfl dX8_floatAt_99 (fun σ20 _ => ?_)
    refine g_aload (pc := 102) C dX8_floatAt_102 rfl ?_
    refine g_iload (pc := 104) C dX8_floatAt_104 rfl ?_
    refine g_iload (pc := 106) C dX8_floatAt_106 rfl ?_
    refine g_iload (pc := 108) C dX8_floatAt_108 rfl ?_
    refine g_callVv (pc := 110) (As := [.int (r19), .int (p4), .int (p5)]) C (kX1_setSize X σ20 (1 + 5) r19 p4 p5 (st_pl ok_now)) (blk (st_pl ok_now) 0 rfl) rfl q_29_19 q_29_20 q_29_21 q_2_23 q_29_22 ⟨rfl, hdX1_setSize⟩ ⟨Nat.le_of_ble_eq_true rfl, Nat.le_of_ble_eq_true rfl, rfl, rfl⟩ ⟨Nat.le_of_ble_eq_true rfl, Nat.le_of_ble_eq_true rfl⟩ (Nat.le_of_ble_eq_true rfl) rfl rfl dX8_floatAt_110 (fun σ21 _ => ?_)
    refine g_aload (pc := 113) C dX8_floatAt_113 rfl ?_
    refine g_iload_n (pc := 115) (i := 1) C dX8_floatAt_115 rfl rfl ?_
    refine g_aload (pc := 116) C dX8_floatAt_116 rfl ?_
    refine g_iload (pc := 118) C dX8_floatAt_118 rfl ?_
    refine g_callVi (pc := 120) (As := [.int (r19)]) C (kX1_makeRootGroup X σ21 (1 + 5) r19 (st_pl ok_now)) (blk (st_pl ok_now) 0 rfl) rfl q_36_1 q_36_2 q_36_3 q_2_23 q_36_4 ⟨rfl, hdX1_makeRootGroup⟩ ⟨Nat.le_of_ble_eq_true rfl, Nat.le_of_ble_eq_true rfl, rfl, rfl⟩ ⟨Nat.le_of_ble_eq_true rfl, Nat.le_of_ble_eq_true rfl⟩ (Nat.le_of_ble_eq_true rfl) rfl rfl dX8_floatAt_120 (fun r22 _ => ?_)
    refine g_callVv (pc := 123) (As := [.int (p1), .int (r22.1)]) C (kX1_joinGroup X r22.2 (1 + 5) p1 r22.1 (st_pl ok_now)) (blk (st_pl ok_now) 0 rfl) rfl q_34_9 q_34_10 q_34_11 q_2_23 q_34_12 ⟨rfl, hdX1_joinGroup⟩ ⟨Nat.le_of_ble_eq_true rfl, Nat.le_of_ble_eq_true rfl, rfl, rfl⟩ ⟨Nat.le_of_ble_eq_true rfl, Nat.le_of_ble_eq_true rfl⟩ (Nat.le_of_ble_eq_true rfl) rfl rfl dX8_floatAt_123 (fun σ23 _ => ?_)
    refine g_aload (pc := 126) C dX8_floatAt_126 rfl ?_
    refine g_getNr (pc := 128) (ci := 1) (N := 14) (T := TX1) (j := 5) (Cn := RX1) ((1 + 5) + 6) C rfl inlX1 (Nat.le_of_ble_eq_true rfl) (List.mem_of_getElem? (i := 16) rfl) (blk (st_pl ok_now) 0 rfl) rfl dX8_floatAt_128 ?_
    refine g_iload (pc := 131) C dX8_floatAt_131 rfl ?_
    refine g_callVv (pc := 133) (As := [.int (r19)]) C (kX0_putLast X σ23 ((1 + 5) + 6) r19 (pl_or (st_pl ok_now))) (blk (pl_or (st_pl ok_now)) 0 rfl) rfl q_31_13 q_31_14 q_31_15 q_2_19 q_31_16 ⟨rfl, hdX0_putLast⟩ ⟨Nat.le_of_ble_eq_true rfl, Nat.le_of_ble_eq_true rfl, rfl, rfl⟩ ⟨Nat.le_of_ble_eq_true rfl, Nat.le_of_ble_eq_true rfl⟩ (Nat.le_of_ble_eq_true rfl) rfl rfl dX8_floatAt_133 (fun σ24 _ => ?_)
    refine g_aload_n (pc := 136) (i := 0) C dX8_floatAt_136 rfl rfl ?_
    refine g_getr (pc := 137) (ci := 8) (N := 8) (T := TX8) (j := 0) (Cn := RX8) 1 C rfl inlX8 (Nat.le_of_ble_eq_true rfl) q_1_16 ok_dl rfl dX8_floatAt_137 ?_
    refine g_getNr (pc := 140) (ci := 4) (N := 7) (T := TX4) (j := 3) (Cn := RX4) (1 + 3) C rfl inlX4 (Nat.le_of_ble_eq_true rfl) (List.mem_of_getElem? (i := 11) rfl) (blk ok_now 0 rfl) rfl dX8_floatAt_140 ?_
    refine g_iload_n (pc := 143) (i := 1) C dX8_floatAt_143 rfl rfl ?_
    refine g_callVv (pc := 144) (As := [.int (p1)]) C (kX0_putFirst X σ24 (1 + 3) p1 (st_or ok_now)) (blk (st_or ok_now) 0 rfl) rfl q_34_13 q_34_14 q_34_15 q_2_19 q_34_16 ⟨rfl, hdX0_putFirst⟩ ⟨Nat.le_of_ble_eq_true rfl, Nat.le_of_ble_eq_true rfl, rfl, rfl⟩ ⟨Nat.le_of_ble_eq_true rfl, Nat.le_of_ble_eq_true rfl⟩ (Nat.le_of_ble_eq_true rfl) rfl rfl dX8_floatAt_144 (fun σ25 _ => ?_)
    refine g_aload_n (pc := 147) (i := 0) C dX8_floatAt_147 rfl rfl ?_
    refine g_getr (pc := 148) (ci := 8) (N := 8) (T := TX8) (j := 4) (Cn := RX8) 422 C rfl inlX8 (Nat.le_of_ble_eq_true rfl) q_1_21 ok_dl rfl dX8_floatAt_148 ?_
    refine g_aload_n (pc := 151) (i := 0) C dX8_floatAt_151 rfl rfl ?_
    refine g_getr (pc := 152) (ci := 8) (N := 8) (T := TX8) (j := 0) (Cn := RX8) 1 C rfl inlX8 (Nat.le_of_ble_eq_true rfl) q_1_16 ok_dl rfl dX8_floatAt_152 ?_
    refine g_callVv (pc := 155) (As := [.ref (X.ad 1)]) C (kX2_compute X σ25 422 1 ok_pn ok_now) (blk ok_pn 0 rfl) rfl q_15_1 q_15_2 q_15_3 q_1_20 q_15_4 ⟨rfl, hdX2_compute⟩ ⟨Nat.le_of_ble_eq_true rfl, Nat.le_of_ble_eq_true rfl, rfl, rfl⟩ ⟨Nat.le_of_ble_eq_true rfl, Nat.le_of_ble_eq_true rfl⟩ (Nat.le_of_ble_eq_true rfl) rfl rfl dX8_floatAt_155 (fun σ26 _ => ?_)
    refine g_iload (pc := 158) C dX8_floatAt_158 rfl ?_
    exact g_xiret (pc := 160) C hr dX8_floatAt_160 (Nat.le_of_ble_eq_true rfl) (Nat.le_of_ble_eq_true rfl) (fun t hP hF => ⟨⟨_, (), rfl, rfl, hP⟩, hF⟩)
  · exact g_throw (pc := 66) (e := 2) (cls := "java/lang/IllegalStateException") (text := "there are 4 floating windows") (ik := 56) (is := 243) (ic := 60) C hex hfl rfl (by decide +kernel) q_7_2 q_7_3 (List.mem_of_getElem? (i := 3) rfl) (xat_2 C.ts C.k) xgood_2 dX8_floatAt_66 dX8_floatAt_69 dX8_floatAt_70 dX8_floatAt_72 dX8_floatAt_75 (Nat.le_of_ble_eq_true rfl) (Nat.le_of_ble_eq_true rfl) (Nat.le_of_ble_eq_true rfl) (Nat.le_of_ble_eq_true rfl) (Nat.le_of_ble_eq_true rfl) (Nat.le_of_ble_eq_true rfl) (fun t hP hF => ⟨(), trivial, ⟨⟨_, rfl, rfl⟩, hP⟩, hF⟩)
theorem dX8_takeAway_0 : decode cX8_takeAway 0 = .ok (.aload_n 0, 1) := by decide +kernel
theorem dX8_takeAway_1 : decode cX8_takeAway 1 = .ok (.iload_n 1, 1) := by decide +kernel
theorem dX8_takeAway_2 : decode cX8_takeAway 2 = .ok (.invokevirtual 74, 3) := by decide +kernel
theorem dX8_takeAway_5 : decode cX8_takeAway 5 = .ok (.aload_n 0, 1) := by decide +kernel
theorem dX8_takeAway_6 : decode cX8_takeAway 6 = .ok (.iload_n 1, 1) := by decide +kernel
theorem dX8_takeAway_7 : decode cX8_takeAway 7 = .ok (.invokevirtual 223, 3) := by decide +kernel
theorem dX8_takeAway_10 : decode cX8_takeAway 10 = .ok (.aload_n 0, 1) := by decide +kernel
theorem dX8_takeAway_11 : decode cX8_takeAway 11 = .ok (.invokevirtual 63, 3) := by decide +kernel
theorem dX8_takeAway_14 : decode cX8_takeAway 14 = .ok (.aload_n 0, 1) := by decide +kernel
theorem dX8_takeAway_15 : decode cX8_takeAway 15 = .ok (.getfield 10, 3) := by decide +kernel
theorem dX8_takeAway_18 : decode cX8_takeAway 18 = .ok (.getfield 77, 3) := by decide +kernel
theorem dX8_takeAway_21 : decode cX8_takeAway 21 = .ok (.iload_n 1, 1) := by decide +kernel
theorem dX8_takeAway_22 : decode cX8_takeAway 22 = .ok (.invokevirtual 81, 3) := by decide +kernel
theorem dX8_takeAway_25 : decode cX8_takeAway 25 = .ok (.aload_n 0, 1) := by decide +kernel
theorem dX8_takeAway_26 : decode cX8_takeAway 26 = .ok (.getfield 10, 3) := by decide +kernel
theorem dX8_takeAway_29 : decode cX8_takeAway 29 = .ok (.getfield 86, 3) := by decide +kernel
theorem dX8_takeAway_32 : decode cX8_takeAway 32 = .ok (.iload_n 1, 1) := by decide +kernel
theorem dX8_takeAway_33 : decode cX8_takeAway 33 = .ok (.invokevirtual 90, 3) := by decide +kernel
theorem dX8_takeAway_36 : decode cX8_takeAway 36 = .ok (.aload_n 0, 1) := by decide +kernel
theorem dX8_takeAway_37 : decode cX8_takeAway 37 = .ok (.getfield 23, 3) := by decide +kernel
theorem dX8_takeAway_40 : decode cX8_takeAway 40 = .ok (.aload_n 0, 1) := by decide +kernel
theorem dX8_takeAway_41 : decode cX8_takeAway 41 = .ok (.getfield 10, 3) := by decide +kernel
theorem dX8_takeAway_44 : decode cX8_takeAway 44 = .ok (.invokevirtual 98, 3) := by decide +kernel
theorem dX8_takeAway_47 : decode cX8_takeAway 47 = .ok (.aload_n 0, 1) := by decide +kernel
theorem dX8_takeAway_48 : decode cX8_takeAway 48 = .ok (.getfield 10, 3) := by decide +kernel
theorem dX8_takeAway_51 : decode cX8_takeAway 51 = .ok (.getfield 86, 3) := by decide +kernel
theorem dX8_takeAway_54 : decode cX8_takeAway 54 = .ok (.invokevirtual 240, 3) := by decide +kernel
theorem dX8_takeAway_57 : decode cX8_takeAway 57 = .ok (.ireturn, 1) := by decide +kernel
abbrev rmX8_takeAway : Room := { frames := 8, cells := 2, slots := 12, locals := 213 }
theorem hdX8_takeAway : yX8_takeAway.cls ≠ "java/lang/invoke/MethodHandle" ∧ yX8_takeAway.cls ≠ "java/lang/invoke/VarHandle" ∧ (parseMethodDescriptor yX8_takeAway.desc).map (fun d => d.parameters.length) = some 1 := by decide +kernel
def fX8_takeAway (σ : Sg) (p1 : Int32) : Option ((Int32 ⊕ Nat) × Sg) :=
  (fX8_requirePane σ p1).bind fun r1 => xcat r1 (fun e3 => some (.inr e3, σ)) fun w2 =>
  (fX8_requirePlaced σ p1).bind fun r4 => xcat r4 (fun e6 => some (.inr e6, σ)) fun w5 =>
  (fX8_keepRecord σ).bind fun σ7 =>
  (fX1_withdraw σ7 (1 + 5) p1).bind fun σ8 =>
  (fX0_leave σ8 (1 + 3) p1).bind fun σ9 =>
  (fX2_compute σ9 422 1).bind fun σ10 =>
  (fX0_size σ10 (1 + 3)).bind fun r11 =>
  some (.inl r11, σ10)
theorem kX8_takeAway (X : Xc) (σ : Sg) (p1 : Int32) (hfl : X.l.stackTraces = false) : ∀ r, fX8_takeAway σ p1 = some r → vx_Met X.l yX8_takeAway (wsM yX8_takeAway cX8_takeAway 2 (some .int)) rmX8_takeAway (va_Pc [.ref (X.ad 0), .int p1] (PW X σ)) (CXi X r.1 r.2) (CXx X r.1 r.2) 2 12 X.A := by
  refine xt_of (own := RX8) (lo := [some (.ref (X.ad 0)), some (.int (p1))]) (by decide) rfl (Nat.le_of_ble_eq_true rfl) rfl (fun K C hr hex => ?_)
  unfold fX8_takeAway
  refine g_aload_n (pc := 0) (i := 0) C dX8_takeAway_0 rfl rfl ?_
  refine g_iload_n (pc := 1) (i := 1) C dX8_takeAway_1 rfl rfl ?_
  refine g_xcallVv (pc := 2) (As := [.int (p1)]) C (kX8_requirePane X σ p1 hfl) ok_dl rfl q_11_7 q_11_8 q_11_9 q_1_2 q_11_10 ⟨rfl, hdX8_requirePane⟩ ⟨Nat.le_of_ble_eq_true rfl, Nat.le_of_ble_eq_true rfl, rfl, rfl, Nat.le_of_ble_eq_true rfl, Nat.le_of_ble_eq_true rfl⟩ (Nat.le_of_ble_eq_true rfl) rfl rfl dX8_takeAway_2 (fun r1 e3 _ _ => ?_) (fun r1 w2 _ _ => ?_)
  · exact gx_out C hex (Nat.le_of_ble_eq_true rfl) (Nat.le_of_ble_eq_true rfl) (fun t hP hF => ⟨(), trivial, ⟨⟨_, rfl, rfl⟩, hP⟩, hF⟩)
  refine g_aload_n (pc := 5) (i := 0) C dX8_takeAway_5 rfl rfl ?_
  refine g_iload_n (pc := 6) (i := 1) C dX8_takeAway_6 rfl rfl ?_
  refine g_xcallVv (pc := 7) (As := [.int (p1)]) C (kX8_requirePlaced X σ p1 hfl) ok_dl rfl q_33_14 q_33_15 q_33_16 q_1_2 q_33_17 ⟨rfl, hdX8_requirePlaced⟩ ⟨Nat.le_of_ble_eq_true rfl, Nat.le_of_ble_eq_true rfl, rfl, rfl, Nat.le_of_ble_eq_true rfl, Nat.le_of_ble_eq_true rfl⟩ (Nat.le_of_ble_eq_true rfl) rfl rfl dX8_takeAway_7 (fun r4 e6 _ _ => ?_) (fun r4 w5 _ _ => ?_)
  · exact gx_out C hex (Nat.le_of_ble_eq_true rfl) (Nat.le_of_ble_eq_true rfl) (fun t hP hF => ⟨(), trivial, ⟨⟨_, rfl, rfl⟩, hP⟩, hF⟩)
  refine g_aload_n (pc := 10) (i := 0) C dX8_takeAway_10 rfl rfl ?_
  refine g_callVv (pc := 11) (As := []) C (kX8_keepRecord X σ) ok_dl rfl q_7_21 q_7_22 q_7_23 q_1_2 q_8_0 ⟨rfl, hdX8_keepRecord⟩ ⟨Nat.le_of_ble_eq_true rfl, Nat.le_of_ble_eq_true rfl, rfl, rfl⟩ ⟨Nat.le_of_ble_eq_true rfl, Nat.le_of_ble_eq_true rfl⟩ (Nat.le_of_ble_eq_true rfl) rfl rfl dX8_takeAway_11 (fun σ7 _ => ?_)
  refine g_aload_n (pc := 14) (i := 0) C dX8_takeAway_14 rfl rfl ?_
  refine g_getr (pc := 15) (ci := 8) (N := 8) (T := TX8) (j := 0) (Cn := RX8) 1 C rfl inlX8 (Nat.le_of_ble_eq_true rfl) q_1_16 ok_dl rfl dX8_takeAway_15 ?_
  refine g_getNr (pc := 18) (ci := 4) (N := 7) (T := TX4) (j := 4) (Cn := RX4) (1 + 5) C rfl inlX4 (Nat.le_of_ble_eq_true rfl) (List.mem_of_getElem? (i := 10) rfl) (blk ok_now 0 rfl) rfl dX8_takeAway_18 ?_
  refine g_iload_n (pc := 21) (i := 1) C dX8_takeAway_21 rfl rfl ?_
  refine g_callVv (pc := 22) (As := [.int (p1)]) C (kX1_withdraw X σ7 (1 + 5) p1 (st_pl ok_now)) (blk (st_pl ok_now) 0 rfl) rfl q_11_14 q_11_15 q_11_16 q_2_23 q_11_17 ⟨rfl, hdX1_withdraw⟩ ⟨Nat.le_of_ble_eq_true rfl, Nat.le_of_ble_eq_true rfl, rfl, rfl⟩ ⟨Nat.le_of_ble_eq_true rfl, Nat.le_of_ble_eq_true rfl⟩ (Nat.le_of_ble_eq_true rfl) rfl rfl dX8_takeAway_22 (fun σ8 _ => ?_)
  refine g_aload_n (pc := 25) (i := 0) C dX8_takeAway_25 rfl rfl ?_
  refine g_getr (pc := 26) (ci := 8) (N := 8) (T := TX8) (j := 0) (Cn := RX8) 1 C rfl inlX8 (Nat.le_of_ble_eq_true rfl) q_1_16 ok_dl rfl dX8_takeAway_26 ?_
  refine g_getNr (pc := 29) (ci := 4) (N := 7) (T := TX4) (j := 3) (Cn := RX4) (1 + 3) C rfl inlX4 (Nat.le_of_ble_eq_true rfl) (List.mem_of_getElem? (i := 11) rfl) (blk ok_now 0 rfl) rfl dX8_takeAway_29 ?_
  refine g_iload_n (pc := 32) (i := 1) C dX8_takeAway_32 rfl rfl ?_
  refine g_callVv (pc := 33) (As := [.int (p1)]) C (kX0_leave X σ8 (1 + 3) p1 (st_or ok_now)) (blk (st_or ok_now) 0 rfl) rfl q_14_20 q_13_13 q_13_14 q_2_19 q_13_15 ⟨rfl, hdX0_leave⟩ ⟨Nat.le_of_ble_eq_true rfl, Nat.le_of_ble_eq_true rfl, rfl, rfl⟩ ⟨Nat.le_of_ble_eq_true rfl, Nat.le_of_ble_eq_true rfl⟩ (Nat.le_of_ble_eq_true rfl) rfl rfl dX8_takeAway_33 (fun σ9 _ => ?_)
  refine g_aload_n (pc := 36) (i := 0) C dX8_takeAway_36 rfl rfl ?_
  refine g_getr (pc := 37) (ci := 8) (N := 8) (T := TX8) (j := 4) (Cn := RX8) 422 C rfl inlX8 (Nat.le_of_ble_eq_true rfl) q_1_21 ok_dl rfl dX8_takeAway_37 ?_
  refine g_aload_n (pc := 40) (i := 0) C dX8_takeAway_40 rfl rfl ?_
  refine g_getr (pc := 41) (ci := 8) (N := 8) (T := TX8) (j := 0) (Cn := RX8) 1 C rfl inlX8 (Nat.le_of_ble_eq_true rfl) q_1_16 ok_dl rfl dX8_takeAway_41 ?_
  refine g_callVv (pc := 44) (As := [.ref (X.ad 1)]) C (kX2_compute X σ9 422 1 ok_pn ok_now) (blk ok_pn 0 rfl) rfl q_15_1 q_15_2 q_15_3 q_1_20 q_15_4 ⟨rfl, hdX2_compute⟩ ⟨Nat.le_of_ble_eq_true rfl, Nat.le_of_ble_eq_true rfl, rfl, rfl⟩ ⟨Nat.le_of_ble_eq_true rfl, Nat.le_of_ble_eq_true rfl⟩ (Nat.le_of_ble_eq_true rfl) rfl rfl dX8_takeAway_44 (fun σ10 _ => ?_)
  refine g_aload_n (pc := 47) (i := 0) C dX8_takeAway_47 rfl rfl ?_
  refine g_getr (pc := 48) (ci := 8) (N := 8) (T := TX8) (j := 0) (Cn := RX8) 1 C rfl inlX8 (Nat.le_of_ble_eq_true rfl) q_1_16 ok_dl rfl dX8_takeAway_48 ?_
  refine g_getNr (pc := 51) (ci := 4) (N := 7) (T := TX4) (j := 3) (Cn := RX4) (1 + 3) C rfl inlX4 (Nat.le_of_ble_eq_true rfl) (List.mem_of_getElem? (i := 11) rfl) (blk ok_now 0 rfl) rfl dX8_takeAway_51 ?_
  refine g_callVi (pc := 54) (As := []) C (kX0_size X σ10 (1 + 3) (st_or ok_now)) (blk (st_or ok_now) 0 rfl) rfl q_37_0 q_37_1 q_37_2 q_2_19 q_37_3 ⟨rfl, hdX0_size⟩ ⟨Nat.le_of_ble_eq_true rfl, Nat.le_of_ble_eq_true rfl, rfl, rfl⟩ ⟨Nat.le_of_ble_eq_true rfl, Nat.le_of_ble_eq_true rfl⟩ (Nat.le_of_ble_eq_true rfl) rfl rfl dX8_takeAway_54 (fun r11 _ => ?_)
  exact g_xiret (pc := 57) C hr dX8_takeAway_57 (Nat.le_of_ble_eq_true rfl) (Nat.le_of_ble_eq_true rfl) (fun t hP hF => ⟨⟨_, (), rfl, rfl, hP⟩, hF⟩)
theorem dX8_show_0 : decode cX8_show 0 = .ok (.aload_n 0, 1) := by decide +kernel
theorem dX8_show_1 : decode cX8_show 1 = .ok (.iload_n 1, 1) := by decide +kernel
theorem dX8_show_2 : decode cX8_show 2 = .ok (.invokevirtual 74, 3) := by decide +kernel
theorem dX8_show_5 : decode cX8_show 5 = .ok (.aload_n 0, 1) := by decide +kernel
theorem dX8_show_6 : decode cX8_show 6 = .ok (.iload_n 1, 1) := by decide +kernel
theorem dX8_show_7 : decode cX8_show 7 = .ok (.invokevirtual 223, 3) := by decide +kernel
theorem dX8_show_10 : decode cX8_show 10 = .ok (.aload_n 0, 1) := by decide +kernel
theorem dX8_show_11 : decode cX8_show 11 = .ok (.invokevirtual 63, 3) := by decide +kernel
theorem dX8_show_14 : decode cX8_show 14 = .ok (.aload_n 0, 1) := by decide +kernel
theorem dX8_show_15 : decode cX8_show 15 = .ok (.getfield 10, 3) := by decide +kernel
theorem dX8_show_18 : decode cX8_show 18 = .ok (.getfield 77, 3) := by decide +kernel
theorem dX8_show_21 : decode cX8_show 21 = .ok (.iload_n 1, 1) := by decide +kernel
theorem dX8_show_22 : decode cX8_show 22 = .ok (.invokevirtual 132, 3) := by decide +kernel
theorem dX8_show_25 : decode cX8_show 25 = .ok (.ifCond .ne 7, 3) := by decide +kernel
theorem dX8_show_28 : decode cX8_show 28 = .ok (.iconst 1, 1) := by decide +kernel
theorem dX8_show_29 : decode cX8_show 29 = .ok (.goto 4, 3) := by decide +kernel
theorem dX8_show_32 : decode cX8_show 32 = .ok (.iconst 0, 1) := by decide +kernel
theorem dX8_show_33 : decode cX8_show 33 = .ok (.istore_n 3, 1) := by decide +kernel
theorem dX8_show_34 : decode cX8_show 34 = .ok (.iload_n 2, 1) := by decide +kernel
theorem dX8_show_35 : decode cX8_show 35 = .ok (.ifCond .eq 17, 3) := by decide +kernel
theorem dX8_show_38 : decode cX8_show 38 = .ok (.aload_n 0, 1) := by decide +kernel
theorem dX8_show_39 : decode cX8_show 39 = .ok (.getfield 10, 3) := by decide +kernel
theorem dX8_show_42 : decode cX8_show 42 = .ok (.getfield 77, 3) := by decide +kernel
theorem dX8_show_45 : decode cX8_show 45 = .ok (.iload_n 1, 1) := by decide +kernel
theorem dX8_show_46 : decode cX8_show 46 = .ok (.invokevirtual 248, 3) := by decide +kernel
theorem dX8_show_49 : decode cX8_show 49 = .ok (.goto 14, 3) := by decide +kernel
theorem dX8_show_52 : decode cX8_show 52 = .ok (.aload_n 0, 1) := by decide +kernel
theorem dX8_show_53 : decode cX8_show 53 = .ok (.getfield 10, 3) := by decide +kernel
theorem dX8_show_56 : decode cX8_show 56 = .ok (.getfield 77, 3) := by decide +kernel
theorem dX8_show_59 : decode cX8_show 59 = .ok (.iload_n 1, 1) := by decide +kernel
theorem dX8_show_60 : decode cX8_show 60 = .ok (.invokevirtual 251, 3) := by decide +kernel
theorem dX8_show_63 : decode cX8_show 63 = .ok (.aload_n 0, 1) := by decide +kernel
theorem dX8_show_64 : decode cX8_show 64 = .ok (.getfield 23, 3) := by decide +kernel
theorem dX8_show_67 : decode cX8_show 67 = .ok (.aload_n 0, 1) := by decide +kernel
theorem dX8_show_68 : decode cX8_show 68 = .ok (.getfield 10, 3) := by decide +kernel
theorem dX8_show_71 : decode cX8_show 71 = .ok (.invokevirtual 98, 3) := by decide +kernel
theorem dX8_show_74 : decode cX8_show 74 = .ok (.iload_n 3, 1) := by decide +kernel
theorem dX8_show_75 : decode cX8_show 75 = .ok (.ireturn, 1) := by decide +kernel
abbrev rmX8_show : Room := { frames := 8, cells := 2, slots := 12, locals := 213 }
theorem hdX8_show : yX8_show.cls ≠ "java/lang/invoke/MethodHandle" ∧ yX8_show.cls ≠ "java/lang/invoke/VarHandle" ∧ (parseMethodDescriptor yX8_show.desc).map (fun d => d.parameters.length) = some 2 := by decide +kernel
def fX8_show_63 (σ : Sg) (l3 : Int32) : Option ((Bool ⊕ Nat) × Sg) :=
  (fX2_compute σ 422 1).bind fun σ11 =>
  if l3 = 0 then some (.inl false, σ11) else if l3 = 1 then some (.inl true, σ11) else none
theorem bX8_show_63 {X : Xc} {K : Kc} (C : MC X K cX8_show 4 RX8 rmX8_show) (hr : K.meth.sig.returnType = (some .boolean)) (hex : K.c.exceptionTable.toList = []) (hfl : X.l.stackTraces = false) (σ : Sg) (l3 : Int32) : GO X K 4 (fun r => XM X K 2 12 (CXi X (xb r.1) r.2) (CXx X (xb r.1) r.2)) (fX8_show_63 σ l3) σ 2 12 63 [some (.ref (X.ad 0)), none, none, some (.int (l3))] [] := by
  unfold fX8_show_63
  refine g_aload_n (pc := 63) (i := 0) C dX8_show_63 rfl rfl ?_
  refine g_getr (pc := 64) (ci := 8) (N := 8) (T := TX8) (j := 4) (Cn := RX8) 422 C rfl inlX8 (Nat.le_of_ble_eq_true rfl) q_1_21 ok_dl rfl dX8_show_64 ?_
  refine g_aload_n (pc := 67) (i := 0) C dX8_show_67 rfl rfl ?_
  refine g_getr (pc := 68) (ci := 8) (N := 8) (T := TX8) (j := 0) (Cn := RX8) 1 C rfl inlX8 (Nat.le_of_ble_eq_true rfl) q_1_16 ok_dl rfl dX8_show_68 ?_
  refine g_callVv (pc := 71) (As := [.ref (X.ad 1)]) C (kX2_compute X σ 422 1 ok_pn ok_now) (blk ok_pn 0 rfl) rfl q_15_1 q_15_2 q_15_3 q_1_20 q_15_4 ⟨rfl, hdX2_compute⟩ ⟨Nat.le_of_ble_eq_true rfl, Nat.le_of_ble_eq_true rfl, rfl, rfl⟩ ⟨Nat.le_of_ble_eq_true rfl, Nat.le_of_ble_eq_true rfl⟩ (Nat.le_of_ble_eq_true rfl) rfl rfl dX8_show_71 (fun σ11 _ => ?_)
  refine g_iload_n (pc := 74) (i := 3) C dX8_show_74 rfl rfl ?_
  exact g_xzretv (pc := 75) C hr dX8_show_75 (Nat.le_of_ble_eq_true rfl) (Nat.le_of_ble_eq_true rfl) (fun t hP hF => ⟨⟨_, (), rfl, rfl, hP⟩, hF⟩) (fun t hP hF => ⟨⟨_, (), rfl, rfl, hP⟩, hF⟩)
def fX8_show_33 (σ : Sg) (l1 : Int32) (l2 : Int32) (s0 : Int32) : Option ((Bool ⊕ Nat) × Sg) :=
  if l2 = 0 then
    (fX1_hide σ (1 + 5) l1).bind fun σ9 =>
    (fX8_show_63 σ9 s0)
  else
    (fX1_reveal σ (1 + 5) l1).bind fun σ10 =>
    (fX8_show_63 σ10 s0)
theorem bX8_show_33 {X : Xc} {K : Kc} (C : MC X K cX8_show 4 RX8 rmX8_show) (hr : K.meth.sig.returnType = (some .boolean)) (hex : K.c.exceptionTable.toList = []) (hfl : X.l.stackTraces = false) (σ : Sg) (l1 : Int32) (l2 : Int32) (s0 : Int32) : GO X K 4 (fun r => XM X K 2 12 (CXi X (xb r.1) r.2) (CXx X (xb r.1) r.2)) (fX8_show_33 σ l1 l2 s0) σ 2 12 33 [some (.ref (X.ad 0)), some (.int (l1)), some (.int (l2)), none] [.int (s0)] := by
  unfold fX8_show_33
  refine g_istore_n (pc := 33) (i := 3) C dX8_show_33 rfl (Nat.le_of_ble_eq_true rfl) rfl ?_
  refine g_iload_n (pc := 34) (i := 2) C dX8_show_34 rfl rfl ?_
  refine g_if_eq (pc := 35) (tgt := 52) C dX8_show_35 rfl ?_ ?_
  · refine g_aload_n (pc := 52) (i := 0) C dX8_show_52 rfl rfl ?_
    refine g_getr (pc := 53) (ci := 8) (N := 8) (T := TX8) (j := 0) (Cn := RX8) 1 C rfl inlX8 (Nat.le_of_ble_eq_true rfl) q_1_16 ok_dl rfl dX8_show_53 ?_
    refine g_getNr (pc := 56) (ci := 4) (N := 7) (T := TX4) (j := 4) (Cn := RX4) (1 + 5) C rfl inlX4 (Nat.le_of_ble_eq_true rfl) (List.mem_of_getElem? (i := 10) rfl) (blk ok_now 0 rfl) rfl dX8_show_56 ?_
    refine g_iload_n (pc := 59) (i := 1) C dX8_show_59 rfl rfl ?_
    refine g_callVv (pc := 60) (As := [.int (l1)]) C (kX1_hide X σ (1 + 5) l1 (st_pl ok_now)) (blk (st_pl ok_now) 0 rfl) rfl q_38_14 q_12_1 q_12_2 q_2_23 q_12_3 ⟨rfl, hdX1_hide⟩ ⟨Nat.le_of_ble_eq_true rfl, Nat.le_of_ble_eq_true rfl, rfl, rfl⟩ ⟨Nat.le_of_ble_eq_true rfl, Nat.le_of_ble_eq_true rfl⟩ (Nat.le_of_ble_eq_true rfl) rfl rfl dX8_show_60 (fun σ9 _ => ?_)
    refine g_keep [true, false, false, true] ?_
    refine g_widen (cs' := 2) (ss' := 12) (Nat.le_of_ble_eq_true rfl) (Nat.le_of_ble_eq_true rfl) ?_
    exact bX8_show_63 C hr hex hfl σ9 s0
  · refine g_aload_n (pc := 38) (i := 0) C dX8_show_38 rfl rfl ?_
    refine g_getr (pc := 39) (ci := 8) (N := 8) (T := TX8) (j := 0) (Cn := RX8) 1 C rfl inlX8 (Nat.le_of_ble_eq_true rfl) q_1_16 ok_dl rfl dX8_show_39 ?_
    refine g_getNr (pc := 42) (ci := 4) (N := 7) (T := TX4) (j := 4) (Cn := RX4) (1 + 5) C rfl inlX4 (Nat.le_of_ble_eq_true rfl) (List.mem_of_getElem? (i := 10) rfl) (blk ok_now 0 rfl) rfl dX8_show_42 ?_
    refine g_iload_n (pc := 45) (i := 1) C dX8_show_45 rfl rfl ?_
    refine g_callVv (pc := 46) (As := [.int (l1)]) C (kX1_reveal X σ (1 + 5) l1 (st_pl ok_now)) (blk (st_pl ok_now) 0 rfl) rfl q_38_10 q_38_11 q_38_12 q_2_23 q_38_13 ⟨rfl, hdX1_reveal⟩ ⟨Nat.le_of_ble_eq_true rfl, Nat.le_of_ble_eq_true rfl, rfl, rfl⟩ ⟨Nat.le_of_ble_eq_true rfl, Nat.le_of_ble_eq_true rfl⟩ (Nat.le_of_ble_eq_true rfl) rfl rfl dX8_show_46 (fun σ10 _ => ?_)
    refine g_goto (pc := 49) (tgt := 63) C dX8_show_49 rfl ?_
    refine g_keep [true, false, false, true] ?_
    refine g_widen (cs' := 2) (ss' := 12) (Nat.le_of_ble_eq_true rfl) (Nat.le_of_ble_eq_true rfl) ?_
    exact bX8_show_63 C hr hex hfl σ10 s0
def fX8_show (σ : Sg) (p1 : Int32) (p2 : Int32) : Option ((Bool ⊕ Nat) × Sg) :=
  (fX8_requirePane σ p1).bind fun r1 => xcat r1 (fun e3 => some (.inr e3, σ)) fun w2 =>
  (fX8_requirePlaced σ p1).bind fun r4 => xcat r4 (fun e6 => some (.inr e6, σ)) fun w5 =>
  (fX8_keepRecord σ).bind fun σ7 =>
  (fX1_isHidden σ7 (1 + 5) p1).bind fun r8 =>
  if r8 = true then
    (fX8_show_33 σ7 p1 p2 0)
  else
    (fX8_show_33 σ7 p1 p2 1)
theorem kX8_show (X : Xc) (σ : Sg) (p1 : Int32) (p2 : Int32) (hfl : X.l.stackTraces = false) : ∀ r, fX8_show σ p1 p2 = some r → vx_Met X.l yX8_show (wsM yX8_show cX8_show 4 (some .boolean)) rmX8_show (va_Pc [.ref (X.ad 0), .int p1, .int p2] (PW X σ)) (CXi X (xb r.1) r.2) (CXx X (xb r.1) r.2) 2 12 X.A := by
  refine xt_of (own := RX8) (lo := [some (.ref (X.ad 0)), some (.int (p1)), some (.int (p2)), none]) (by decide) rfl (Nat.le_of_ble_eq_true rfl) rfl (fun K C hr hex => ?_)
  unfold fX8_show
  refine g_aload_n (pc := 0) (i := 0) C dX8_show_0 rfl rfl ?_
  refine g_iload_n (pc := 1) (i := 1) C dX8_show_1 rfl rfl ?_
  refine g_xcallVv (pc := 2) (As := [.int (p1)]) C (kX8_requirePane X σ p1 hfl) ok_dl rfl q_11_7 q_11_8 q_11_9 q_1_2 q_11_10 ⟨rfl, hdX8_requirePane⟩ ⟨Nat.le_of_ble_eq_true rfl, Nat.le_of_ble_eq_true rfl, rfl, rfl, Nat.le_of_ble_eq_true rfl, Nat.le_of_ble_eq_true rfl⟩ (Nat.le_of_ble_eq_true rfl) rfl rfl dX8_show_2 (fun r1 e3 _ _ => ?_) (fun r1 w2 _ _ => ?_)
  · exact gx_out C hex (Nat.le_of_ble_eq_true rfl) (Nat.le_of_ble_eq_true rfl) (fun t hP hF => ⟨(), trivial, ⟨⟨_, rfl, rfl⟩, hP⟩, hF⟩)
  refine g_aload_n (pc := 5) (i := 0) C dX8_show_5 rfl rfl ?_
  refine g_iload_n (pc := 6) (i := 1) C dX8_show_6 rfl rfl ?_
  refine g_xcallVv (pc := 7) (As := [.int (p1)]) C (kX8_requirePlaced X σ p1 hfl) ok_dl rfl q_33_14 q_33_15 q_33_16 q_1_2 q_33_17 ⟨rfl, hdX8_requirePlaced⟩ ⟨Nat.le_of_ble_eq_true rfl, Nat.le_of_ble_eq_true rfl, rfl, rfl, Nat.le_of_ble_eq_true rfl, Nat.le_of_ble_eq_true rfl⟩ (Nat.le_of_ble_eq_true rfl) rfl rfl dX8_show_7 (fun r4 e6 _ _ => ?_) (fun r4 w5 _ _ => ?_)
  · exact gx_out C hex (Nat.le_of_ble_eq_true rfl) (Nat.le_of_ble_eq_true rfl) (fun t hP hF => ⟨(), trivial, ⟨⟨_, rfl, rfl⟩, hP⟩, hF⟩)
  refine g_aload_n (pc := 10) (i := 0) C dX8_show_10 rfl rfl ?_
  refine g_callVv (pc := 11) (As := []) C (kX8_keepRecord X σ) ok_dl rfl q_7_21 q_7_22 q_7_23 q_1_2 q_8_0 ⟨rfl, hdX8_keepRecord⟩ ⟨Nat.le_of_ble_eq_true rfl, Nat.le_of_ble_eq_true rfl, rfl, rfl⟩ ⟨Nat.le_of_ble_eq_true rfl, Nat.le_of_ble_eq_true rfl⟩ (Nat.le_of_ble_eq_true rfl) rfl rfl dX8_show_11 (fun σ7 _ => ?_)
  refine g_aload_n (pc := 14) (i := 0) C dX8_show_14 rfl rfl ?_
  refine g_getr (pc := 15) (ci := 8) (N := 8) (T := TX8) (j := 0) (Cn := RX8) 1 C rfl inlX8 (Nat.le_of_ble_eq_true rfl) q_1_16 ok_dl rfl dX8_show_15 ?_
  refine g_getNr (pc := 18) (ci := 4) (N := 7) (T := TX4) (j := 4) (Cn := RX4) (1 + 5) C rfl inlX4 (Nat.le_of_ble_eq_true rfl) (List.mem_of_getElem? (i := 10) rfl) (blk ok_now 0 rfl) rfl dX8_show_18 ?_
  refine g_iload_n (pc := 21) (i := 1) C dX8_show_21 rfl rfl ?_
  refine g_callVi (pc := 22) (As := [.int (p1)]) C (kX1_isHidden X σ7 (1 + 5) p1 (st_pl ok_now)) (blk (st_pl ok_now) 0 rfl) rfl q_24_20 q_12_17 q_12_18 q_2_23 q_12_19 ⟨rfl, hdX1_isHidden⟩ ⟨Nat.le_of_ble_eq_true rfl, Nat.le_of_ble_eq_true rfl, rfl, rfl⟩ ⟨Nat.le_of_ble_eq_true rfl, Nat.le_of_ble_eq_true rfl⟩ (Nat.le_of_ble_eq_true rfl) rfl rfl dX8_show_22 (fun r8 _ => ?_)
  refine g_ifb_ne (pc := 25) (tgt := 32) C dX8_show_25 rfl ?_ ?_
  · refine g_iconst (pc := 32) (v := 0) C dX8_show_32 (by decide) ?_
    refine g_keep [true, true, true, false] ?_
    refine g_widen (cs' := 2) (ss' := 12) (Nat.le_of_ble_eq_true rfl) (Nat.le_of_ble_eq_true rfl) ?_
    exact bX8_show_33 C hr hex hfl σ7 p1 p2 0
  · refine g_iconst (pc := 28) (v := 1) C dX8_show_28 (by decide) ?_
    refine g_goto (pc := 29) (tgt := 33) C dX8_show_29 rfl ?_
    refine g_keep [true, true, true, false] ?_
    refine g_widen (cs' := 2) (ss' := 12) (Nat.le_of_ble_eq_true rfl) (Nat.le_of_ble_eq_true rfl) ?_
    exact bX8_show_33 C hr hex hfl σ7 p1 p2 1
theorem dX8_activate_0 : decode cX8_activate 0 = .ok (.aload_n 0, 1) := by decide +kernel
theorem dX8_activate_1 : decode cX8_activate 1 = .ok (.iload_n 1, 1) := by decide +kernel
theorem dX8_activate_2 : decode cX8_activate 2 = .ok (.invokevirtual 74, 3) := by decide +kernel
theorem dX8_activate_5 : decode cX8_activate 5 = .ok (.aload_n 0, 1) := by decide +kernel
theorem dX8_activate_6 : decode cX8_activate 6 = .ok (.iload_n 1, 1) := by decide +kernel
theorem dX8_activate_7 : decode cX8_activate 7 = .ok (.invokevirtual 223, 3) := by decide +kernel
theorem dX8_activate_10 : decode cX8_activate 10 = .ok (.aload_n 0, 1) := by decide +kernel
theorem dX8_activate_11 : decode cX8_activate 11 = .ok (.getfield 10, 3) := by decide +kernel
theorem dX8_activate_14 : decode cX8_activate 14 = .ok (.getfield 77, 3) := by decide +kernel
theorem dX8_activate_17 : decode cX8_activate 17 = .ok (.astore_n 2, 1) := by decide +kernel
theorem dX8_activate_18 : decode cX8_activate 18 = .ok (.aload_n 2, 1) := by decide +kernel
theorem dX8_activate_19 : decode cX8_activate 19 = .ok (.iload_n 1, 1) := by decide +kernel
theorem dX8_activate_20 : decode cX8_activate 20 = .ok (.invokevirtual 132, 3) := by decide +kernel
theorem dX8_activate_23 : decode cX8_activate 23 = .ok (.ifCond .eq 13, 3) := by decide +kernel
theorem dX8_activate_26 : decode cX8_activate 26 = .ok (.new 56, 3) := by decide +kernel
theorem dX8_activate_29 : decode cX8_activate 29 = .ok (.dup, 1) := by decide +kernel
theorem dX8_activate_30 : decode cX8_activate 30 = .ok (.ldc 254, 2) := by decide +kernel
theorem dX8_activate_32 : decode cX8_activate 32 = .ok (.invokespecial 60, 3) := by decide +kernel
theorem dX8_activate_35 : decode cX8_activate 35 = .ok (.athrow, 1) := by decide +kernel
theorem dX8_activate_36 : decode cX8_activate 36 = .ok (.aload_n 0, 1) := by decide +kernel
theorem dX8_activate_37 : decode cX8_activate 37 = .ok (.invokevirtual 63, 3) := by decide +kernel
theorem dX8_activate_40 : decode cX8_activate 40 = .ok (.aload_n 2, 1) := by decide +kernel
theorem dX8_activate_41 : decode cX8_activate 41 = .ok (.iload_n 1, 1) := by decide +kernel
theorem dX8_activate_42 : decode cX8_activate 42 = .ok (.invokevirtual 126, 3) := by decide +kernel
theorem dX8_activate_45 : decode cX8_activate 45 = .ok (.istore_n 3, 1) := by decide +kernel
theorem dX8_activate_46 : decode cX8_activate 46 = .ok (.aload_n 2, 1) := by decide +kernel
theorem dX8_activate_47 : decode cX8_activate 47 = .ok (.iload_n 3, 1) := by decide +kernel
theorem dX8_activate_48 : decode cX8_activate 48 = .ok (.invokevirtual 136, 3) := by decide +kernel
theorem dX8_activate_51 : decode cX8_activate 51 = .ok (.istore 4, 2) := by decide +kernel
theorem dX8_activate_53 : decode cX8_activate 53 = .ok (.aload_n 2, 1) := by decide +kernel
theorem dX8_activate_54 : decode cX8_activate 54 = .ok (.iload_n 3, 1) := by decide +kernel
theorem dX8_activate_55 : decode cX8_activate 55 = .ok (.iload_n 1, 1) := by decide +kernel
theorem dX8_activate_56 : decode cX8_activate 56 = .ok (.invokevirtual 256, 3) := by decide +kernel
theorem dX8_activate_59 : decode cX8_activate 59 = .ok (.aload_n 0, 1) := by decide +kernel
theorem dX8_activate_60 : decode cX8_activate 60 = .ok (.getfield 10, 3) := by decide +kernel
theorem dX8_activate_63 : decode cX8_activate 63 = .ok (.getfield 86, 3) := by decide +kernel
theorem dX8_activate_66 : decode cX8_activate 66 = .ok (.iload_n 1, 1) := by decide +kernel
theorem dX8_activate_67 : decode cX8_activate 67 = .ok (.invokevirtual 232, 3) := by decide +kernel
theorem dX8_activate_70 : decode cX8_activate 70 = .ok (.aload_n 2, 1) := by decide +kernel
theorem dX8_activate_71 : decode cX8_activate 71 = .ok (.iload_n 3, 1) := by decide +kernel
theorem dX8_activate_72 : decode cX8_activate 72 = .ok (.invokevirtual 129, 3) := by decide +kernel
theorem dX8_activate_75 : decode cX8_activate 75 = .ok (.istore 5, 2) := by decide +kernel
theorem dX8_activate_77 : decode cX8_activate 77 = .ok (.iload 5, 2) := by decide +kernel
theorem dX8_activate_79 : decode cX8_activate 79 = .ok (.ifCond .eq 12, 3) := by decide +kernel
theorem dX8_activate_82 : decode cX8_activate 82 = .ok (.aload_n 2, 1) := by decide +kernel
theorem dX8_activate_83 : decode cX8_activate 83 = .ok (.getfield 191, 3) := by decide +kernel
theorem dX8_activate_86 : decode cX8_activate 86 = .ok (.iload 5, 2) := by decide +kernel
theorem dX8_activate_88 : decode cX8_activate 88 = .ok (.invokevirtual 197, 3) := by decide +kernel
theorem dX8_activate_91 : decode cX8_activate 91 = .ok (.iload 4, 2) := by decide +kernel
theorem dX8_activate_93 : decode cX8_activate 93 = .ok (.ireturn, 1) := by decide +kernel
abbrev rmX8_activate : Room := { frames := 8, cells := 3, slots := 18, locals := 195 }
theorem hdX8_activate : yX8_activate.cls ≠ "java/lang/invoke/MethodHandle" ∧ yX8_activate.cls ≠ "java/lang/invoke/VarHandle" ∧ (parseMethodDescriptor yX8_activate.desc).map (fun d => d.parameters.length) = some 1 := by decide +kernel
def fX8_activate (σ : Sg) (p1 : Int32) : Option ((Int32 ⊕ Nat) × Sg) :=
  (fX8_requirePane σ p1).bind fun r1 => xcat r1 (fun e3 => some (.inr e3, σ)) fun w2 =>
  (fX8_requirePlaced σ p1).bind fun r4 => xcat r4 (fun e6 => some (.inr e6, σ)) fun w5 =>
  (fX1_isHidden σ (1 + 5) p1).bind fun r7 =>
  if r7 = true then
    some (.inr 2, σ)
  else
    (fX8_keepRecord σ).bind fun σ8 =>
    (fX1_groupOf σ8 (1 + 5) p1).bind fun r9 =>
    (fX1_activeOf σ8 (1 + 5) r9).bind fun r10 =>
    (fX1_setActive σ8 (1 + 5) r9 p1).bind fun σ11 =>
    (fX0_putFirst σ11 (1 + 3) p1).bind fun σ12 =>
    (fX1_windowOf σ12 (1 + 5) r9).bind fun r13 =>
    if r13 = 0 then
      some (.inl r10, σ12)
    else
      (fX0_putLast σ12 ((1 + 5) + 6) r13).bind fun σ14 =>
      some (.inl r10, σ14)
theorem kX8_activate (X : Xc) (σ : Sg) (p1 : Int32) (hfl : X.l.stackTraces = false) : ∀ r, fX8_activate σ p1 = some r → vx_Met X.l yX8_activate (wsM yX8_activate cX8_activate 6 (some .int)) rmX8_activate (va_Pc [.ref (X.ad 0), .int p1] (PW X σ)) (CXi X r.1 r.2) (CXx X r.1 r.2) 3 18 X.A := by
  refine xt_of (own := RX8) (lo := [some (.ref (X.ad 0)), some (.int (p1)), none, none, none, none]) (by decide) rfl (Nat.le_of_ble_eq_true rfl) rfl (fun K C hr hex => ?_)
  unfold fX8_activate
  refine g_aload_n (pc := 0) (i := 0) C dX8_activate_0 rfl rfl ?_
  refine g_iload_n (pc := 1) (i := 1) C dX8_activate_1 rfl rfl ?_
  refine g_xcallVv (pc := 2) (As := [.int (p1)]) C (kX8_requirePane X σ p1 hfl) ok_dl rfl q_11_7 q_11_8 q_11_9 q_1_2 q_11_10 ⟨rfl, hdX8_requirePane⟩ ⟨Nat.le_of_ble_eq_true rfl, Nat.le_of_ble_eq_true rfl, rfl, rfl, Nat.le_of_ble_eq_true rfl, Nat.le_of_ble_eq_true rfl⟩ (Nat.le_of_ble_eq_true rfl) rfl rfl dX8_activate_2 (fun r1 e3 _ _ => ?_) (fun r1 w2 _ _ => ?_)
  · exact gx_out C hex (Nat.le_of_ble_eq_true rfl) (Nat.le_of_ble_eq_true rfl) (fun t hP hF => ⟨(), trivial, ⟨⟨_, rfl, rfl⟩, hP⟩, hF⟩)
  refine g_aload_n (pc := 5) (i := 0) C dX8_activate_5 rfl rfl ?_
  refine g_iload_n (pc := 6) (i := 1) C dX8_activate_6 rfl rfl ?_
  refine g_xcallVv (pc := 7) (As := [.int (p1)]) C (kX8_requirePlaced X σ p1 hfl) ok_dl rfl q_33_14 q_33_15 q_33_16 q_1_2 q_33_17 ⟨rfl, hdX8_requirePlaced⟩ ⟨Nat.le_of_ble_eq_true rfl, Nat.le_of_ble_eq_true rfl, rfl, rfl, Nat.le_of_ble_eq_true rfl, Nat.le_of_ble_eq_true rfl⟩ (Nat.le_of_ble_eq_true rfl) rfl rfl dX8_activate_7 (fun r4 e6 _ _ => ?_) (fun r4 w5 _ _ => ?_)
  · exact gx_out C hex (Nat.le_of_ble_eq_true rfl) (Nat.le_of_ble_eq_true rfl) (fun t hP hF => ⟨(), trivial, ⟨⟨_, rfl, rfl⟩, hP⟩, hF⟩)
  refine g_aload_n (pc := 10) (i := 0) C dX8_activate_10 rfl rfl ?_
  refine g_getr (pc := 11) (ci := 8) (N := 8) (T := TX8) (j := 0) (Cn := RX8) 1 C rfl inlX8 (Nat.le_of_ble_eq_true rfl) q_1_16 ok_dl rfl dX8_activate_11 ?_
  refine g_getNr (pc := 14) (ci := 4) (N := 7) (T := TX4) (j := 4) (Cn := RX4) (1 + 5) C rfl inlX4 (Nat.le_of_ble_eq_true rfl) (List.mem_of_getElem? (i := 10) rfl) (blk ok_now 0 rfl) rfl dX8_activate_14 ?_
  refine g_astore_n (pc := 17) (i := 2) C dX8_activate_17 rfl (Nat.le_of_ble_eq_true rfl) rfl ?_
  refine g_aload_n (pc := 18) (i := 2) C dX8_activate_18 rfl rfl ?_
  refine g_iload_n (pc := 19) (i := 1) C dX8_activate_19 rfl rfl ?_
  refine g_callVi (pc := 20) (As := [.int (p1)]) C (kX1_isHidden X σ (1 + 5) p1 (st_pl ok_now)) (blk (st_pl ok_now) 0 rfl) rfl q_24_20 q_12_17 q_12_18 q_2_23 q_12_19 ⟨rfl, hdX1_isHidden⟩ ⟨Nat.le_of_ble_eq_true rfl, Nat.le_of_ble_eq_true rfl, rfl, rfl⟩ ⟨Nat.le_of_ble_eq_true rfl, Nat.le_of_ble_eq_true rfl⟩ (Nat.le_of_ble_eq_true rfl) rfl rfl dX8_activate_20 (fun r7 _ => ?_)
  refine g_ifb_eq (pc := 23) (tgt := 36) C dX8_activate_23 rfl ?_ ?_
  · exact g_throw (pc := 26) (e := 2) (cls := "java/lang/IllegalStateException") (text := "the pane is hidden") (ik := 56) (is := 254) (ic := 60) C hex hfl rfl (by decide +kernel) q_7_2 q_7_3 (List.mem_of_getElem? (i := 4) rfl) (xat_2 C.ts C.k) xgood_2 dX8_activate_26 dX8_activate_29 dX8_activate_30 dX8_activate_32 dX8_activate_35 (Nat.le_of_ble_eq_true rfl) (Nat.le_of_ble_eq_true rfl) (Nat.le_of_ble_eq_true rfl) (Nat.le_of_ble_eq_true rfl) (Nat.le_of_ble_eq_true rfl) (Nat.le_of_ble_eq_true rfl) (fun t hP hF => ⟨(), trivial, ⟨⟨_, rfl, rfl⟩, hP⟩, hF⟩)
  · refine g_aload_n (pc := 36) (i := 0) C dX8_activate_36 rfl rfl ?_
    refine g_callVv (pc := 37) (As := []) C (kX8_keepRecord X σ) ok_dl rfl q_7_21 q_7_22 q_7_23 q_1_2 q_8_0 ⟨rfl, hdX8_keepRecord⟩ ⟨Nat.le_of_ble_eq_true rfl, Nat.le_of_ble_eq_true rfl, rfl, rfl⟩ ⟨Nat.le_of_ble_eq_true rfl, Nat.le_of_ble_eq_true rfl⟩ (Nat.le_of_ble_eq_true rfl) rfl rfl dX8_activate_37 (fun σ8 _ => ?_)
    refine g_aload_n (pc := 40) (i := 2) C dX8_activate_40 rfl rfl ?_
    refine g_iload_n (pc := 41) (i := 1) C dX8_activate_41 rfl rfl ?_
    refine g_callVi (pc := 42) (As := [.int (p1)]) C (kX1_groupOf X σ8 (1 + 5) p1 (st_pl ok_now)) (blk (st_pl ok_now) 0 rfl) rfl q_24_18 q_11_19 q_11_20 q_2_23 q_11_21 ⟨rfl, hdX1_groupOf⟩ ⟨Nat.le_of_ble_eq_true rfl, Nat.le_of_ble_eq_true rfl, rfl, rfl⟩ ⟨Nat.le_of_ble_eq_true rfl, Nat.le_of_ble_eq_true rfl⟩ (Nat.le_of_ble_eq_true rfl) rfl rfl dX8_activate_42 (fun r9 _ => ?_)
    refine g_istore_n (pc := 45) (i := 3) C dX8_activate_45 rfl (Nat.le_of_ble_eq_true rfl) rfl ?_
    refine g_aload_n (pc := 46) (i := 2) C dX8_activate_46 rfl rfl ?_
    refine g_iload_n (pc := 47) (i := 3) C dX8_activate_47 rfl rfl ?_
    refine g_callVi (pc := 48) (As := [.int (r9)]) C (kX1_activeOf X σ8 (1 + 5) r9 (st_pl ok_now)) (blk (st_pl ok_now) 0 rfl) rfl q_24_21 q_24_22 q_24_23 q_2_23 q_25_0 ⟨rfl, hdX1_activeOf⟩ ⟨Nat.le_of_ble_eq_true rfl, Nat.le_of_ble_eq_true rfl, rfl, rfl⟩ ⟨Nat.le_of_ble_eq_true rfl, Nat.le_of_ble_eq_true rfl⟩ (Nat.le_of_ble_eq_true rfl) rfl rfl dX8_activate_48 (fun r10 _ => ?_)
    refine g_istore (pc := 51) C dX8_activate_51 (Nat.le_of_ble_eq_true rfl) rfl ?_
    refine g_aload_n (pc := 53) (i := 2) C dX8_activate_53 rfl rfl ?_
    refine g_iload_n (pc := 54) (i := 3) C dX8_activate_54 rfl rfl ?_
    refine g_iload_n (pc := 55) (i := 1) C dX8_activate_55 rfl rfl ?_
    refine g_callVv (pc := 56) (As := [.int (r9), .int (p1)]) C (kX1_setActive X σ8 (1 + 5) r9 p1 (st_pl ok_now)) (blk (st_pl ok_now) 0 rfl) rfl q_39_2 q_39_3 q_39_4 q_2_23 q_39_5 ⟨rfl, hdX1_setActive⟩ ⟨Nat.le_of_ble_eq_true rfl, Nat.le_of_ble_eq_true rfl, rfl, rfl⟩ ⟨Nat.le_of_ble_eq_true rfl, Nat.le_of_ble_eq_true rfl⟩ (Nat.le_of_ble_eq_true rfl) rfl rfl dX8_activate_56 (fun σ11 _ => ?_)
    refine g_aload_n (pc := 59) (i := 0) C dX8_activate_59 rfl rfl ?_
    refine g_getr (pc := 60) (ci := 8) (N := 8) (T := TX8) (j := 0) (Cn := RX8) 1 C rfl inlX8 (Nat.le_of_ble_eq_true rfl) q_1_16 ok_dl rfl dX8_activate_60 ?_
    refine g_getNr (pc := 63) (ci := 4) (N := 7) (T := TX4) (j := 3) (Cn := RX4) (1 + 3) C rfl inlX4 (Nat.le_of_ble_eq_true rfl) (List.mem_of_getElem? (i := 11) rfl) (blk ok_now 0 rfl) rfl dX8_activate_63 ?_
    refine g_iload_n (pc := 66) (i := 1) C dX8_activate_66 rfl rfl ?_
    refine g_callVv (pc := 67) (As := [.int (p1)]) C (kX0_putFirst X σ11 (1 + 3) p1 (st_or ok_now)) (blk (st_or ok_now) 0 rfl) rfl q_34_13 q_34_14 q_34_15 q_2_19 q_34_16 ⟨rfl, hdX0_putFirst⟩ ⟨Nat.le_of_ble_eq_true rfl, Nat.le_of_ble_eq_true rfl, rfl, rfl⟩ ⟨Nat.le_of_ble_eq_true rfl, Nat.le_of_ble_eq_true rfl⟩ (Nat.le_of_ble_eq_true rfl) rfl rfl dX8_activate_67 (fun σ12 _ => ?_)
    refine g_aload_n (pc := 70) (i := 2) C dX8_activate_70 rfl rfl ?_
    refine g_iload_n (pc := 71) (i := 3) C dX8_activate_71 rfl rfl ?_
    refine g_callVi (pc := 72) (As := [.int (r9)]) C (kX1_windowOf X σ12 (1 + 5) r9 (st_pl ok_now)) (blk (st_pl ok_now) 0 rfl) rfl q_24_19 q_13_9 q_13_10 q_2_23 q_13_11 ⟨rfl, hdX1_windowOf⟩ ⟨Nat.le_of_ble_eq_true rfl, Nat.le_of_ble_eq_true rfl, rfl, rfl⟩ ⟨Nat.le_of_ble_eq_true rfl, Nat.le_of_ble_eq_true rfl⟩ (Nat.le_of_ble_eq_true rfl) rfl rfl dX8_activate_72 (fun r13 _ => ?_)
    refine g_istore (pc := 75) C dX8_activate_75 (Nat.le_of_ble_eq_true rfl) rfl ?_
    refine g_iload (pc := 77) C dX8_activate_77 rfl ?_
    refine g_if_eq (pc := 79) (tgt := 91) C dX8_activate_79 rfl ?_ ?_
    · refine g_iload (pc := 91) C dX8_activate_91 rfl ?_
      exact g_xiret (pc := 93) C hr dX8_activate_93 (Nat.le_of_ble_eq_true rfl) (Nat.le_of_ble_eq_true rfl) (fun t hP hF => ⟨⟨_, (), rfl, rfl, hP⟩, hF⟩)
    · refine g_aload_n (pc := 82) (i := 2) C dX8_activate_82 rfl rfl ?_
      refine g_getNr (pc := 83) (ci := 1) (N := 14) (T := TX1) (j := 5) (Cn := RX1) ((1 + 5) + 6) C rfl inlX1 (Nat.le_of_ble_eq_true rfl) (List.mem_of_getElem? (i := 16) rfl) (blk (st_pl ok_now) 0 rfl) rfl dX8_activate_83 ?_
      refine g_iload (pc := 86) C dX8_activate_86 rfl ?_
      refine g_callVv (pc := 88) (As := [.int (r13)]) C (kX0_putLast X σ12 ((1 + 5) + 6) r13 (pl_or (st_pl ok_now))) (blk (pl_or (st_pl ok_now)) 0 rfl) rfl q_31_13 q_31_14 q_31_15 q_2_19 q_31_16 ⟨rfl, hdX0_putLast⟩ ⟨Nat.le_of_ble_eq_true rfl, Nat.le_of_ble_eq_true rfl, rfl, rfl⟩ ⟨Nat.le_of_ble_eq_true rfl, Nat.le_of_ble_eq_true rfl⟩ (Nat.le_of_ble_eq_true rfl) rfl rfl dX8_activate_88 (fun σ14 _ => ?_)
      refine g_iload (pc := 91) C dX8_activate_91 rfl ?_
      exact g_xiret (pc := 93) C hr dX8_activate_93 (Nat.le_of_ble_eq_true rfl) (Nat.le_of_ble_eq_true rfl) (fun t hP hF => ⟨⟨_, (), rfl, rfl, hP⟩, hF⟩)
theorem dX8_moveTab_0 : decode cX8_moveTab 0 = .ok (.aload_n 0, 1) := by decide +kernel
theorem dX8_moveTab_1 : decode cX8_moveTab 1 = .ok (.iload_n 1, 1) := by decide +kernel
theorem dX8_moveTab_2 : decode cX8_moveTab 2 = .ok (.invokevirtual 74, 3) := by decide +kernel
theorem dX8_moveTab_5 : decode cX8_moveTab 5 = .ok (.aload_n 0, 1) := by decide +kernel
theorem dX8_moveTab_6 : decode cX8_moveTab 6 = .ok (.iload_n 1, 1) := by decide +kernel
theorem dX8_moveTab_7 : decode cX8_moveTab 7 = .ok (.invokevirtual 223, 3) := by decide +kernel
theorem dX8_moveTab_10 : decode cX8_moveTab 10 = .ok (.iload_n 2, 1) := by decide +kernel
theorem dX8_moveTab_11 : decode cX8_moveTab 11 = .ok (.iconst 0, 1) := by decide +kernel
theorem dX8_moveTab_12 : decode cX8_moveTab 12 = .ok (.aload_n 0, 1) := by decide +kernel
theorem dX8_moveTab_13 : decode cX8_moveTab 13 = .ok (.getfield 10, 3) := by decide +kernel
theorem dX8_moveTab_16 : decode cX8_moveTab 16 = .ok (.getfield 77, 3) := by decide +kernel
theorem dX8_moveTab_19 : decode cX8_moveTab 19 = .ok (.aload_n 0, 1) := by decide +kernel
theorem dX8_moveTab_20 : decode cX8_moveTab 20 = .ok (.getfield 10, 3) := by decide +kernel
theorem dX8_moveTab_23 : decode cX8_moveTab 23 = .ok (.getfield 77, 3) := by decide +kernel
theorem dX8_moveTab_26 : decode cX8_moveTab 26 = .ok (.iload_n 1, 1) := by decide +kernel
theorem dX8_moveTab_27 : decode cX8_moveTab 27 = .ok (.invokevirtual 126, 3) := by decide +kernel
theorem dX8_moveTab_30 : decode cX8_moveTab 30 = .ok (.invokevirtual 142, 3) := by decide +kernel
theorem dX8_moveTab_33 : decode cX8_moveTab 33 = .ok (.iconst 1, 1) := by decide +kernel
theorem dX8_moveTab_34 : decode cX8_moveTab 34 = .ok (.isub, 1) := by decide +kernel
theorem dX8_moveTab_35 : decode cX8_moveTab 35 = .ok (.invokestatic 123, 3) := by decide +kernel
theorem dX8_moveTab_38 : decode cX8_moveTab 38 = .ok (.aload_n 0, 1) := by decide +kernel
theorem dX8_moveTab_39 : decode cX8_moveTab 39 = .ok (.invokevirtual 63, 3) := by decide +kernel
theorem dX8_moveTab_42 : decode cX8_moveTab 42 = .ok (.aload_n 0, 1) := by decide +kernel
theorem dX8_moveTab_43 : decode cX8_moveTab 43 = .ok (.getfield 10, 3) := by decide +kernel
theorem dX8_moveTab_46 : decode cX8_moveTab 46 = .ok (.getfield 77, 3) := by decide +kernel
theorem dX8_moveTab_49 : decode cX8_moveTab 49 = .ok (.iload_n 1, 1) := by decide +kernel
theorem dX8_moveTab_50 : decode cX8_moveTab 50 = .ok (.invokevirtual 139, 3) := by decide +kernel
theorem dX8_moveTab_53 : decode cX8_moveTab 53 = .ok (.istore_n 3, 1) := by decide +kernel
theorem dX8_moveTab_54 : decode cX8_moveTab 54 = .ok (.aload_n 0, 1) := by decide +kernel
theorem dX8_moveTab_55 : decode cX8_moveTab 55 = .ok (.getfield 10, 3) := by decide +kernel
theorem dX8_moveTab_58 : decode cX8_moveTab 58 = .ok (.getfield 77, 3) := by decide +kernel
theorem dX8_moveTab_61 : decode cX8_moveTab 61 = .ok (.iload_n 1, 1) := by decide +kernel
theorem dX8_moveTab_62 : decode cX8_moveTab 62 = .ok (.iload_n 2, 1) := by decide +kernel
theorem dX8_moveTab_63 : decode cX8_moveTab 63 = .ok (.invokevirtual 259, 3) := by decide +kernel
theorem dX8_moveTab_66 : decode cX8_moveTab 66 = .ok (.iload_n 3, 1) := by decide +kernel
theorem dX8_moveTab_67 : decode cX8_moveTab 67 = .ok (.ireturn, 1) := by decide +kernel
abbrev rmX8_moveTab : Room := { frames := 8, cells := 3, slots := 18, locals := 195 }
theorem hdX8_moveTab : yX8_moveTab.cls ≠ "java/lang/invoke/MethodHandle" ∧ yX8_moveTab.cls ≠ "java/lang/invoke/VarHandle" ∧ (parseMethodDescriptor yX8_moveTab.desc).map (fun d => d.parameters.length) = some 2 := by decide +kernel
def fX8_moveTab (σ : Sg) (p1 : Int32) (p2 : Int32) : Option ((Int32 ⊕ Nat) × Sg) :=
  (fX8_requirePane σ p1).bind fun r1 => xcat r1 (fun e3 => some (.inr e3, σ)) fun w2 =>
  (fX8_requirePlaced σ p1).bind fun r4 => xcat r4 (fun e6 => some (.inr e6, σ)) fun w5 =>
  (fX1_groupOf σ (1 + 5) p1).bind fun r7 =>
  (fX1_tabCount σ (1 + 5) r7).bind fun r8 =>
  (fX8_requireRange σ p2 0 (r8 - 1)).bind fun r9 => xcat r9 (fun e11 => some (.inr e11, σ)) fun w10 =>
  (fX8_keepRecord σ).bind fun σ12 =>
  (fX1_spotOf σ12 (1 + 5) p1).bind fun r13 =>
  (fX1_moveToSpot σ12 (1 + 5) p1 p2).bind fun σ14 =>
  some (.inl r13, σ14)
theorem kX8_moveTab (X : Xc) (σ : Sg) (p1 : Int32) (p2 : Int32) (hfl : X.l.stackTraces = false) : ∀ r, fX8_moveTab σ p1 p2 = some r → vx_Met X.l yX8_moveTab (wsM yX8_moveTab cX8_moveTab 4 (some .int)) rmX8_moveTab (va_Pc [.ref (X.ad 0), .int p1, .int p2] (PW X σ)) (CXi X r.1 r.2) (CXx X r.1 r.2) 3 18 X.A := by
  refine xt_of (own := RX8) (lo := [some (.ref (X.ad 0)), some (.int (p1)), some (.int (p2)), none]) (by decide) rfl (Nat.le_of_ble_eq_true rfl) rfl (fun K C hr hex => ?_)
  unfold fX8_moveTab
  refine g_aload_n (pc := 0) (i := 0) C dX8_moveTab_0 rfl rfl ?_
  refine g_iload_n (pc := 1) (i := 1) C dX8_moveTab_1 rfl rfl ?_
  refine g_xcallVv (pc := 2) (As := [.int (p1)]) C (kX8_requirePane X σ p1 hfl) ok_dl rfl q_11_7 q_11_8 q_11_9 q_1_2 q_11_10 ⟨rfl, hdX8_requirePane⟩ ⟨Nat.le_of_ble_eq_true rfl, Nat.le_of_ble_eq_true rfl, rfl, rfl, Nat.le_of_ble_eq_true rfl, Nat.le_of_ble_eq_true rfl⟩ (Nat.le_of_ble_eq_true rfl) rfl rfl dX8_moveTab_2 (fun r1 e3 _ _ => ?_) (fun r1 w2 _ _ => ?_)
  · exact gx_out C hex (Nat.le_of_ble_eq_true rfl) (Nat.le_of_ble_eq_true rfl) (fun t hP hF => ⟨(), trivial, ⟨⟨_, rfl, rfl⟩, hP⟩, hF⟩)
  refine g_aload_n (pc := 5) (i := 0) C dX8_moveTab_5 rfl rfl ?_
  refine g_iload_n (pc := 6) (i := 1) C dX8_moveTab_6 rfl rfl ?_
  refine g_xcallVv (pc := 7) (As := [.int (p1)]) C (kX8_requirePlaced X σ p1 hfl) ok_dl rfl q_33_14 q_33_15 q_33_16 q_1_2 q_33_17 ⟨rfl, hdX8_requirePlaced⟩ ⟨Nat.le_of_ble_eq_true rfl, Nat.le_of_ble_eq_true rfl, rfl, rfl, Nat.le_of_ble_eq_true rfl, Nat.le_of_ble_eq_true rfl⟩ (Nat.le_of_ble_eq_true rfl) rfl rfl dX8_moveTab_7 (fun r4 e6 _ _ => ?_) (fun r4 w5 _ _ => ?_)
  · exact gx_out C hex (Nat.le_of_ble_eq_true rfl) (Nat.le_of_ble_eq_true rfl) (fun t hP hF => ⟨(), trivial, ⟨⟨_, rfl, rfl⟩, hP⟩, hF⟩)
  refine g_iload_n (pc := 10) (i := 2) C dX8_moveTab_10 rfl rfl ?_
  refine g_iconst (pc := 11) (v := 0) C dX8_moveTab_11 (by decide) ?_
  refine g_aload_n (pc := 12) (i := 0) C dX8_moveTab_12 rfl rfl ?_
  refine g_getr (pc := 13) (ci := 8) (N := 8) (T := TX8) (j := 0) (Cn := RX8) 1 C rfl inlX8 (Nat.le_of_ble_eq_true rfl) q_1_16 ok_dl rfl dX8_moveTab_13 ?_
  refine g_getNr (pc := 16) (ci := 4) (N := 7) (T := TX4) (j := 4) (Cn := RX4) (1 + 5) C rfl inlX4 (Nat.le_of_ble_eq_true rfl) (List.mem_of_getElem? (i := 10) rfl) (blk ok_now 0 rfl) rfl dX8_moveTab_16 ?_
  refine g_aload_n (pc := 19) (i := 0) C dX8_moveTab_19 rfl rfl ?_
  refine g_getr (pc := 20) (ci := 8) (N := 8) (T := TX8) (j := 0) (Cn := RX8) 1 C rfl inlX8 (Nat.le_of_ble_eq_true rfl) q_1_16 ok_dl rfl dX8_moveTab_20 ?_
  refine g_getNr (pc := 23) (ci := 4) (N := 7) (T := TX4) (j := 4) (Cn := RX4) (1 + 5) C rfl inlX4 (Nat.le_of_ble_eq_true rfl) (List.mem_of_getElem? (i := 10) rfl) (blk ok_now 0 rfl) rfl dX8_moveTab_23 ?_
  refine g_iload_n (pc := 26) (i := 1) C dX8_moveTab_26 rfl rfl ?_
  refine g_callVi (pc := 27) (As := [.int (p1)]) C (kX1_groupOf X σ (1 + 5) p1 (st_pl ok_now)) (blk (st_pl ok_now) 0 rfl) rfl q_24_18 q_11_19 q_11_20 q_2_23 q_11_21 ⟨rfl, hdX1_groupOf⟩ ⟨Nat.le_of_ble_eq_true rfl, Nat.le_of_ble_eq_true rfl, rfl, rfl⟩ ⟨Nat.le_of_ble_eq_true rfl, Nat.le_of_ble_eq_true rfl⟩ (Nat.le_of_ble_eq_true rfl) rfl rfl dX8_moveTab_27 (fun r7 _ => ?_)
  refine g_callVi (pc := 30) (As := [.int (r7)]) C (kX1_tabCount X σ (1 + 5) r7 (st_pl ok_now)) (blk (st_pl ok_now) 0 rfl) rfl q_25_2 q_12_21 q_12_22 q_2_23 q_12_23 ⟨rfl, hdX1_tabCount⟩ ⟨Nat.le_of_ble_eq_true rfl, Nat.le_of_ble_eq_true rfl, rfl, rfl⟩ ⟨Nat.le_of_ble_eq_true rfl, Nat.le_of_ble_eq_true rfl⟩ (Nat.le_of_ble_eq_true rfl) rfl rfl dX8_moveTab_30 (fun r8 _ => ?_)
  refine g_iconst (pc := 33) (v := 1) C dX8_moveTab_33 (by decide) ?_
  refine g_isub (pc := 34) C dX8_moveTab_34 ?_
  refine g_xcallSv (pc := 35) (As := [.int (p2), .int (0), .int (r8 - 1)]) C (kX8_requireRange X σ p2 0 (r8 - 1) hfl) q_7_7 q_7_8 q_1_2 q_7_9 hdX8_requireRange ⟨Nat.le_of_ble_eq_true rfl, Nat.le_of_ble_eq_true rfl, rfl, rfl, Nat.le_of_ble_eq_true rfl, Nat.le_of_ble_eq_true rfl⟩ (Nat.le_of_ble_eq_true rfl) rfl rfl dX8_moveTab_35 (fun r9 e11 _ _ => ?_) (fun r9 w10 _ _ => ?_)
  · exact gx_out C hex (Nat.le_of_ble_eq_true rfl) (Nat.le_of_ble_eq_true rfl) (fun t hP hF => ⟨(), trivial, ⟨⟨_, rfl, rfl⟩, hP⟩, hF⟩)
  refine g_aload_n (pc := 38) (i := 0) C dX8_moveTab_38 rfl rfl ?_
  refine g_callVv (pc := 39) (As := []) C (kX8_keepRecord X σ) ok_dl rfl q_7_21 q_7_22 q_7_23 q_1_2 q_8_0 ⟨rfl, hdX8_keepRecord⟩ ⟨Nat.le_of_ble_eq_true rfl, Nat.le_of_ble_eq_true rfl, rfl, rfl⟩ ⟨Nat.le_of_ble_eq_true rfl, Nat.le_of_ble_eq_true rfl⟩ (Nat.le_of_ble_eq_true rfl) rfl rfl dX8_moveTab_39 (fun σ12 _ => ?_)
  refine g_aload_n (pc := 42) (i := 0) C dX8_moveTab_42 rfl rfl ?_
  refine g_getr (pc := 43) (ci := 8) (N := 8) (T := TX8) (j := 0) (Cn := RX8) 1 C rfl inlX8 (Nat.le_of_ble_eq_true rfl) q_1_16 ok_dl rfl dX8_moveTab_43 ?_
  refine g_getNr (pc := 46) (ci := 4) (N := 7) (T := TX4) (j := 4) (Cn := RX4) (1 + 5) C rfl inlX4 (Nat.le_of_ble_eq_true rfl) (List.mem_of_getElem? (i := 10) rfl) (blk ok_now 0 rfl) rfl dX8_moveTab_46 ?_
  refine g_iload_n (pc := 49) (i := 1) C dX8_moveTab_49 rfl rfl ?_
  refine g_callVi (pc := 50) (As := [.int (p1)]) C (kX1_spotOf X σ12 (1 + 5) p1 (st_pl ok_now)) (blk (st_pl ok_now) 0 rfl) rfl q_25_1 q_12_5 q_12_6 q_2_23 q_12_7 ⟨rfl, hdX1_spotOf⟩ ⟨Nat.le_of_ble_eq_true rfl, Nat.le_of_ble_eq_true rfl, rfl, rfl⟩ ⟨Nat.le_of_ble_eq_true rfl, Nat.le_of_ble_eq_true rfl⟩ (Nat.le_of_ble_eq_true rfl) rfl rfl dX8_moveTab_50 (fun r13 _ => ?_)
  refine g_istore_n (pc := 53) (i := 3) C dX8_moveTab_53 rfl (Nat.le_of_ble_eq_true rfl) rfl ?_
  refine g_aload_n (pc := 54) (i := 0) C dX8_moveTab_54 rfl rfl ?_
  refine g_getr (pc := 55) (ci := 8) (N := 8) (T := TX8) (j := 0) (Cn := RX8) 1 C rfl inlX8 (Nat.le_of_ble_eq_true rfl) q_1_16 ok_dl rfl dX8_moveTab_55 ?_
  refine g_getNr (pc := 58) (ci := 4) (N := 7) (T := TX4) (j := 4) (Cn := RX4) (1 + 5) C rfl inlX4 (Nat.le_of_ble_eq_true rfl) (List.mem_of_getElem? (i := 10) rfl) (blk ok_now 0 rfl) rfl dX8_moveTab_58 ?_
  refine g_iload_n (pc := 61) (i := 1) C dX8_moveTab_61 rfl rfl ?_
  refine g_iload_n (pc := 62) (i := 2) C dX8_moveTab_62 rfl rfl ?_
  refine g_callVv (pc := 63) (As := [.int (p1), .int (p2)]) C (kX1_moveToSpot X σ12 (1 + 5) p1 p2 (st_pl ok_now)) (blk (st_pl ok_now) 0 rfl) rfl q_39_21 q_13_1 q_13_2 q_2_23 q_13_3 ⟨rfl, hdX1_moveToSpot⟩ ⟨Nat.le_of_ble_eq_true rfl, Nat.le_of_ble_eq_true rfl, rfl, rfl⟩ ⟨Nat.le_of_ble_eq_true rfl, Nat.le_of_ble_eq_true rfl⟩ (Nat.le_of_ble_eq_true rfl) rfl rfl dX8_moveTab_63 (fun σ14 _ => ?_)
  refine g_iload_n (pc := 66) (i := 3) C dX8_moveTab_66 rfl rfl ?_
  exact g_xiret (pc := 67) C hr dX8_moveTab_67 (Nat.le_of_ble_eq_true rfl) (Nat.le_of_ble_eq_true rfl) (fun t hP hF => ⟨⟨_, (), rfl, rfl, hP⟩, hF⟩)
theorem dX8_shownNeighbour_0 : decode cX8_shownNeighbour 0 = .ok (.aload_n 0, 1) := by decide +kernel
theorem dX8_shownNeighbour_1 : decode cX8_shownNeighbour 1 = .ok (.getfield 10, 3) := by decide +kernel
theorem dX8_shownNeighbour_4 : decode cX8_shownNeighbour 4 = .ok (.getfield 77, 3) := by decide +kernel
theorem dX8_shownNeighbour_7 : decode cX8_shownNeighbour 7 = .ok (.astore_n 3, 1) := by decide +kernel
theorem dX8_shownNeighbour_8 : decode cX8_shownNeighbour 8 = .ok (.aload_n 3, 1) := by decide +kernel
theorem dX8_shownNeighbour_9 : decode cX8_shownNeighbour 9 = .ok (.iload_n 1, 1) := by decide +kernel
theorem dX8_shownNeighbour_10 : decode cX8_shownNeighbour 10 = .ok (.invokevirtual 145, 3) := by decide +kernel
theorem dX8_shownNeighbour_13 : decode cX8_shownNeighbour 13 = .ok (.istore 4, 2) := by decide +kernel
theorem dX8_shownNeighbour_15 : decode cX8_shownNeighbour 15 = .ok (.iload 4, 2) := by decide +kernel
theorem dX8_shownNeighbour_17 : decode cX8_shownNeighbour 17 = .ok (.iconst (-1), 1) := by decide +kernel
theorem dX8_shownNeighbour_18 : decode cX8_shownNeighbour 18 = .ok (.if_icmp .eq 16, 3) := by decide +kernel
theorem dX8_shownNeighbour_21 : decode cX8_shownNeighbour 21 = .ok (.aload_n 3, 1) := by decide +kernel
theorem dX8_shownNeighbour_22 : decode cX8_shownNeighbour 22 = .ok (.iload 4, 2) := by decide +kernel
theorem dX8_shownNeighbour_24 : decode cX8_shownNeighbour 24 = .ok (.invokevirtual 151, 3) := by decide +kernel
theorem dX8_shownNeighbour_27 : decode cX8_shownNeighbour 27 = .ok (.iload_n 2, 1) := by decide +kernel
theorem dX8_shownNeighbour_28 : decode cX8_shownNeighbour 28 = .ok (.invokestatic 270, 3) := by decide +kernel
theorem dX8_shownNeighbour_31 : decode cX8_shownNeighbour 31 = .ok (.if_icmp .eq 5, 3) := by decide +kernel
theorem dX8_shownNeighbour_34 : decode cX8_shownNeighbour 34 = .ok (.iconst (-1), 1) := by decide +kernel
theorem dX8_shownNeighbour_35 : decode cX8_shownNeighbour 35 = .ok (.ireturn, 1) := by decide +kernel
theorem dX8_shownNeighbour_36 : decode cX8_shownNeighbour 36 = .ok (.iload_n 2, 1) := by decide +kernel
theorem dX8_shownNeighbour_37 : decode cX8_shownNeighbour 37 = .ok (.ifCond .eq 8, 3) := by decide +kernel
theorem dX8_shownNeighbour_40 : decode cX8_shownNeighbour 40 = .ok (.iload_n 2, 1) := by decide +kernel
theorem dX8_shownNeighbour_41 : decode cX8_shownNeighbour 41 = .ok (.iconst 2, 1) := by decide +kernel
theorem dX8_shownNeighbour_42 : decode cX8_shownNeighbour 42 = .ok (.if_icmp .ne 7, 3) := by decide +kernel
theorem dX8_shownNeighbour_45 : decode cX8_shownNeighbour 45 = .ok (.iconst (-1), 1) := by decide +kernel
theorem dX8_shownNeighbour_46 : decode cX8_shownNeighbour 46 = .ok (.goto 4, 3) := by decide +kernel
theorem dX8_shownNeighbour_49 : decode cX8_shownNeighbour 49 = .ok (.iconst 1, 1) := by decide +kernel
theorem dX8_shownNeighbour_50 : decode cX8_shownNeighbour 50 = .ok (.istore 5, 2) := by decide +kernel
theorem dX8_shownNeighbour_52 : decode cX8_shownNeighbour 52 = .ok (.aload_n 3, 1) := by decide +kernel
theorem dX8_shownNeighbour_53 : decode cX8_shownNeighbour 53 = .ok (.iload_n 1, 1) := by decide +kernel
theorem dX8_shownNeighbour_54 : decode cX8_shownNeighbour 54 = .ok (.invokevirtual 421, 3) := by decide +kernel
theorem dX8_shownNeighbour_57 : decode cX8_shownNeighbour 57 = .ok (.istore 6, 2) := by decide +kernel
theorem dX8_shownNeighbour_59 : decode cX8_shownNeighbour 59 = .ok (.iconst 1, 1) := by decide +kernel
theorem dX8_shownNeighbour_60 : decode cX8_shownNeighbour 60 = .ok (.istore 7, 2) := by decide +kernel
theorem dX8_shownNeighbour_62 : decode cX8_shownNeighbour 62 = .ok (.iload 7, 2) := by decide +kernel
theorem dX8_shownNeighbour_64 : decode cX8_shownNeighbour 64 = .ok (.bipush 23, 2) := by decide +kernel
theorem dX8_shownNeighbour_66 : decode cX8_shownNeighbour 66 = .ok (.if_icmp .ge 40, 3) := by decide +kernel
theorem dX8_shownNeighbour_69 : decode cX8_shownNeighbour 69 = .ok (.aload_n 3, 1) := by decide +kernel
theorem dX8_shownNeighbour_70 : decode cX8_shownNeighbour 70 = .ok (.iload 4, 2) := by decide +kernel
theorem dX8_shownNeighbour_72 : decode cX8_shownNeighbour 72 = .ok (.iload 6, 2) := by decide +kernel
theorem dX8_shownNeighbour_74 : decode cX8_shownNeighbour 74 = .ok (.iload 7, 2) := by decide +kernel
theorem dX8_shownNeighbour_76 : decode cX8_shownNeighbour 76 = .ok (.iload 5, 2) := by decide +kernel
theorem dX8_shownNeighbour_78 : decode cX8_shownNeighbour 78 = .ok (.imul, 1) := by decide +kernel
theorem dX8_shownNeighbour_79 : decode cX8_shownNeighbour 79 = .ok (.iadd, 1) := by decide +kernel
theorem dX8_shownNeighbour_80 : decode cX8_shownNeighbour 80 = .ok (.invokevirtual 285, 3) := by decide +kernel
theorem dX8_shownNeighbour_83 : decode cX8_shownNeighbour 83 = .ok (.istore 8, 2) := by decide +kernel
theorem dX8_shownNeighbour_85 : decode cX8_shownNeighbour 85 = .ok (.aload_n 0, 1) := by decide +kernel
theorem dX8_shownNeighbour_86 : decode cX8_shownNeighbour 86 = .ok (.getfield 23, 3) := by decide +kernel
theorem dX8_shownNeighbour_89 : decode cX8_shownNeighbour 89 = .ok (.iload 8, 2) := by decide +kernel
theorem dX8_shownNeighbour_91 : decode cX8_shownNeighbour 91 = .ok (.invokevirtual 154, 3) := by decide +kernel
theorem dX8_shownNeighbour_94 : decode cX8_shownNeighbour 94 = .ok (.ifCond .eq 6, 3) := by decide +kernel
theorem dX8_shownNeighbour_97 : decode cX8_shownNeighbour 97 = .ok (.iload 8, 2) := by decide +kernel
theorem dX8_shownNeighbour_99 : decode cX8_shownNeighbour 99 = .ok (.ireturn, 1) := by decide +kernel
theorem dX8_shownNeighbour_100 : decode cX8_shownNeighbour 100 = .ok (.iinc 7 1, 3) := by decide +kernel
theorem dX8_shownNeighbour_103 : decode cX8_shownNeighbour 103 = .ok (.goto (-41), 3) := by decide +kernel
theorem dX8_shownNeighbour_106 : decode cX8_shownNeighbour 106 = .ok (.iconst (-1), 1) := by decide +kernel
theorem dX8_shownNeighbour_107 : decode cX8_shownNeighbour 107 = .ok (.ireturn, 1) := by decide +kernel
abbrev rmX8_shownNeighbour : Room := { frames := 2, cells := 0, slots := 0, locals := 44 }
theorem hdX8_shownNeighbour : yX8_shownNeighbour.cls ≠ "java/lang/invoke/MethodHandle" ∧ yX8_shownNeighbour.cls ≠ "java/lang/invoke/VarHandle" ∧ (parseMethodDescriptor yX8_shownNeighbour.desc).map (fun d => d.parameters.length) = some 2 := by decide +kernel
def fX8_shownNeighbour_62 (σ : Sg) : Nat → Int32 → Int32 → Int32 → Int32 → Option Int32
  | 0, _, _, _, _ => none
  | n + 1, l4, l5, l6, l7 =>
    if 23 ≤ l7 then
      some (-1)
    else
      (fX1_childAt σ (1 + 5) l4 (l6 + (l7 * l5))).bind fun r5 =>
      (fX2_isShown σ 422 r5).bind fun r6 =>
      if r6 = true then
        some r5
      else
        ((fX8_shownNeighbour_62 σ n) l4 l5 l6 (l7 + 1))
theorem bX8_shownNeighbour_62 {X : Xc} {K : Kc} (C : MC X K cX8_shownNeighbour 9 RX8 rmX8_shownNeighbour) (hr : K.meth.sig.returnType = (some .int)) (σ : Sg) : ∀ (n : Nat) (l4 : Int32) (l5 : Int32) (l6 : Int32) (l7 : Int32), GO X K 9 (fun r => MQi X K r σ) (fX8_shownNeighbour_62 σ n l4 l5 l6 l7) σ 0 0 62 [some (.ref (X.ad 0)), none, none, some (.ref (X.ad (1 + 5))), some (.int (l4)), some (.int (l5)), some (.int (l6)), some (.int (l7)), none] [] := by
  intro n
  induction n with
  | zero =>
    intro l4 l5 l6 l7
    exact g_none
  | succ n ih =>
    intro l4 l5 l6 l7
    unfold fX8_shownNeighbour_62
    refine g_iload (pc := 62) C dX8_shownNeighbour_62 rfl ?_
    refine g_bipush (pc := 64) (v := 23) C dX8_shownNeighbour_64 (by decide) ?_
    refine g_icmp_ge (pc := 66) (tgt := 106) C dX8_shownNeighbour_66 rfl ?_ ?_
    · refine g_iconst (pc := 106) (v := (-1)) C dX8_shownNeighbour_106 (by decide) ?_
      exact g_iret (pc := 107) C hr dX8_shownNeighbour_107 rfl
    · refine g_aload_n (pc := 69) (i := 3) C dX8_shownNeighbour_69 rfl rfl ?_
      refine g_iload (pc := 70) C dX8_shownNeighbour_70 rfl ?_
      refine g_iload (pc := 72) C dX8_shownNeighbour_72 rfl ?_
      refine g_iload (pc := 74) C dX8_shownNeighbour_74 rfl ?_
      refine g_iload (pc := 76) C dX8_shownNeighbour_76 rfl ?_
      refine g_imul (pc := 78) C dX8_shownNeighbour_78 ?_
      refine g_iadd (pc := 79) C dX8_shownNeighbour_79 ?_
      refine g_callVi (pc := 80) (As := [.int (l4), .int (l6 + (l7 * l5))]) C (kX1_childAt X σ (1 + 5) l4 (l6 + (l7 * l5)) (st_pl ok_now)) (blk (st_pl ok_now) 0 rfl) rfl q_40_22 q_14_13 q_14_14 q_2_23 q_14_15 ⟨rfl, hdX1_childAt⟩ ⟨Nat.le_of_ble_eq_true rfl, Nat.le_of_ble_eq_true rfl, rfl, rfl⟩ ⟨Nat.zero_le _, Nat.zero_le _⟩ (Nat.le_of_ble_eq_true rfl) rfl rfl dX8_shownNeighbour_80 (fun r5 _ => ?_)
      refine g_istore (pc := 83) C dX8_shownNeighbour_83 (Nat.le_of_ble_eq_true rfl) rfl ?_
      refine g_aload_n (pc := 85) (i := 0) C dX8_shownNeighbour_85 rfl rfl ?_
      refine g_getr (pc := 86) (ci := 8) (N := 8) (T := TX8) (j := 4) (Cn := RX8) 422 C rfl inlX8 (Nat.le_of_ble_eq_true rfl) q_1_21 ok_dl rfl dX8_shownNeighbour_86 ?_
      refine g_iload (pc := 89) C dX8_shownNeighbour_89 rfl ?_
      refine g_callVi (pc := 91) (As := [.int (r5)]) C (kX2_isShown X σ 422 r5 ok_pn) (blk ok_pn 0 rfl) rfl q_26_0 q_16_23 q_17_0 q_1_20 q_17_1 ⟨rfl, hdX2_isShown⟩ ⟨Nat.le_of_ble_eq_true rfl, Nat.le_of_ble_eq_true rfl, rfl, rfl⟩ ⟨Nat.zero_le _, Nat.zero_le _⟩ (Nat.le_of_ble_eq_true rfl) rfl rfl dX8_shownNeighbour_91 (fun r6 _ => ?_)
      refine g_ifb_eq (pc := 94) (tgt := 100) C dX8_shownNeighbour_94 rfl ?_ ?_
      · refine g_iload (pc := 97) C dX8_shownNeighbour_97 rfl ?_
        exact g_iret (pc := 99) C hr dX8_shownNeighbour_99 rfl
      · refine g_iinc (pc := 100) (v := l7 + 1) C dX8_shownNeighbour_100 rfl (rfl) (Nat.le_of_ble_eq_true rfl) rfl ?_
        refine g_goto (pc := 103) (tgt := 62) C dX8_shownNeighbour_103 rfl ?_
        refine g_keep [true, false, false, true, true, true, true, true, false] ?_
        exact ih l4 l5 l6 (l7 + 1)
def fX8_shownNeighbour_50 (σ : Sg) (l1 : Int32) (l4 : Int32) (s0 : Int32) : Option Int32 :=
  (fX1_placeOf σ (1 + 5) l1).bind fun r4 =>
  (fX8_shownNeighbour_62 σ FU l4 s0 r4 1)
theorem bX8_shownNeighbour_50 {X : Xc} {K : Kc} (C : MC X K cX8_shownNeighbour 9 RX8 rmX8_shownNeighbour) (hr : K.meth.sig.returnType = (some .int)) (σ : Sg) (l1 : Int32) (l4 : Int32) (s0 : Int32) : GO X K 9 (fun r => MQi X K r σ) (fX8_shownNeighbour_50 σ l1 l4 s0) σ 0 0 50 [some (.ref (X.ad 0)), some (.int (l1)), none, some (.ref (X.ad (1 + 5))), some (.int (l4)), none, none, none, none] [.int (s0)] := by
  unfold fX8_shownNeighbour_50
  refine g_istore (pc := 50) C dX8_shownNeighbour_50 (Nat.le_of_ble_eq_true rfl) rfl ?_
  refine g_aload_n (pc := 52) (i := 3) C dX8_shownNeighbour_52 rfl rfl ?_
  refine g_iload_n (pc := 53) (i := 1) C dX8_shownNeighbour_53 rfl rfl ?_
  refine g_callVi (pc := 54) (As := [.int (l1)]) C (kX1_placeOf X σ (1 + 5) l1 (st_pl ok_now)) (blk (st_pl ok_now) 0 rfl) rfl q_40_18 q_40_19 q_40_20 q_2_23 q_40_21 ⟨rfl, hdX1_placeOf⟩ ⟨Nat.le_of_ble_eq_true rfl, Nat.le_of_ble_eq_true rfl, rfl, rfl⟩ ⟨Nat.zero_le _, Nat.zero_le _⟩ (Nat.le_of_ble_eq_true rfl) rfl rfl dX8_shownNeighbour_54 (fun r4 _ => ?_)
  refine g_istore (pc := 57) C dX8_shownNeighbour_57 (Nat.le_of_ble_eq_true rfl) rfl ?_
  refine g_iconst (pc := 59) (v := 1) C dX8_shownNeighbour_59 (by decide) ?_
  refine g_istore (pc := 60) C dX8_shownNeighbour_60 (Nat.le_of_ble_eq_true rfl) rfl ?_
  refine g_keep [true, false, false, true, true, true, true, true, false] ?_
  exact bX8_shownNeighbour_62 C hr σ FU l4 s0 r4 1
def fX8_shownNeighbour_45 (σ : Sg) (l1 : Int32) (l4 : Int32) : Option Int32 :=
  (fX8_shownNeighbour_50 σ l1 l4 (-1))
theorem bX8_shownNeighbour_45 {X : Xc} {K : Kc} (C : MC X K cX8_shownNeighbour 9 RX8 rmX8_shownNeighbour) (hr : K.meth.sig.returnType = (some .int)) (σ : Sg) (l1 : Int32) (l4 : Int32) : GO X K 9 (fun r => MQi X K r σ) (fX8_shownNeighbour_45 σ l1 l4) σ 0 0 45 [some (.ref (X.ad 0)), some (.int (l1)), none, some (.ref (X.ad (1 + 5))), some (.int (l4)), none, none, none, none] [] := by
  unfold fX8_shownNeighbour_45
  refine g_iconst (pc := 45) (v := (-1)) C dX8_shownNeighbour_45 (by decide) ?_
  refine g_goto (pc := 46) (tgt := 50) C dX8_shownNeighbour_46 rfl ?_
  refine g_keep [true, true, false, true, true, false, false, false, false] ?_
  exact bX8_shownNeighbour_50 C hr σ l1 l4 (-1)
def fX8_shownNeighbour (σ : Sg) (p1 : Int32) (p2 : Int32) : Option Int32 :=
  (fX1_parentOf σ (1 + 5) p1).bind fun r1 =>
  if r1 = (-1) then
    some (-1)
  else
    (fX1_kindOf σ (1 + 5) r1).bind fun r2 =>
    (fX8_directionOf σ p2).bind fun r3 =>
    if r2 = r3 then
      if p2 = 0 then
        (fX8_shownNeighbour_45 σ p1 r1)
      else
        if p2 = 2 then
          (fX8_shownNeighbour_45 σ p1 r1)
        else
          (fX8_shownNeighbour_50 σ p1 r1 1)
    else
      some (-1)
theorem kX8_shownNeighbour (X : Xc) (σ : Sg) (p1 : Int32) (p2 : Int32) : ∀ r, fX8_shownNeighbour σ p1 p2 = some r → Met X.l yX8_shownNeighbour (wsM yX8_shownNeighbour cX8_shownNeighbour 9 (some .int)) rmX8_shownNeighbour (va_Pc [.ref (X.ad 0), .int p1, .int p2] (PW X σ)) (Qi X r σ) 0 0 X.A := by
  refine mt_of (own := RX8) (lo := [some (.ref (X.ad 0)), some (.int (p1)), some (.int (p2)), none, none, none, none, none, none]) (by decide) rfl (Nat.le_of_ble_eq_true rfl) rfl (fun K C hr => ?_)
  unfold fX8_shownNeighbour
  refine g_aload_n (pc := 0) (i := 0) C dX8_shownNeighbour_0 rfl rfl ?_
  refine g_getr (pc := 1) (ci := 8) (N := 8) (T := TX8) (j := 0) (Cn := RX8) 1 C rfl inlX8 (Nat.le_of_ble_eq_true rfl) q_1_16 ok_dl rfl dX8_shownNeighbour_1 ?_
  refine g_getNr (pc := 4) (ci := 4) (N := 7) (T := TX4) (j := 4) (Cn := RX4) (1 + 5) C rfl inlX4 (Nat.le_of_ble_eq_true rfl) (List.mem_of_getElem? (i := 10) rfl) (blk ok_now 0 rfl) rfl dX8_shownNeighbour_4 ?_
  refine g_astore_n (pc := 7) (i := 3) C dX8_shownNeighbour_7 rfl (Nat.le_of_ble_eq_true rfl) rfl ?_
  refine g_aload_n (pc := 8) (i := 3) C dX8_shownNeighbour_8 rfl rfl ?_
  refine g_iload_n (pc := 9) (i := 1) C dX8_shownNeighbour_9 rfl rfl ?_
  refine g_callVi (pc := 10) (As := [.int (p1)]) C (kX1_parentOf X σ (1 + 5) p1 (st_pl ok_now)) (blk (st_pl ok_now) 0 rfl) rfl q_25_3 q_25_4 q_25_5 q_2_23 q_25_6 ⟨rfl, hdX1_parentOf⟩ ⟨Nat.le_of_ble_eq_true rfl, Nat.le_of_ble_eq_true rfl, rfl, rfl⟩ ⟨Nat.zero_le _, Nat.zero_le _⟩ (Nat.le_of_ble_eq_true rfl) rfl rfl dX8_shownNeighbour_10 (fun r1 _ => ?_)
  refine g_istore (pc := 13) C dX8_shownNeighbour_13 (Nat.le_of_ble_eq_true rfl) rfl ?_
  refine g_iload (pc := 15) C dX8_shownNeighbour_15 rfl ?_
  refine g_iconst (pc := 17) (v := (-1)) C dX8_shownNeighbour_17 (by decide) ?_
  refine g_icmp_eq (pc := 18) (tgt := 34) C dX8_shownNeighbour_18 rfl ?_ ?_
  · refine g_iconst (pc := 34) (v := (-1)) C dX8_shownNeighbour_34 (by decide) ?_
    exact g_iret (pc := 35) C hr dX8_shownNeighbour_35 rfl
  · refine g_aload_n (pc := 21) (i := 3) C dX8_shownNeighbour_21 rfl rfl ?_
    refine g_iload (pc := 22) C dX8_shownNeighbour_22 rfl ?_
    refine g_callVi (pc := 24) (As := [.int (r1)]) C (kX1_kindOf X σ (1 + 5) r1 (st_pl ok_now)) (blk (st_pl ok_now) 0 rfl) rfl q_25_8 q_16_2 q_16_3 q_2_23 q_16_4 ⟨rfl, hdX1_kindOf⟩ ⟨Nat.le_of_ble_eq_true rfl, Nat.le_of_ble_eq_true rfl, rfl, rfl⟩ ⟨Nat.zero_le _, Nat.zero_le _⟩ (Nat.le_of_ble_eq_true rfl) rfl rfl dX8_shownNeighbour_24 (fun r2 _ => ?_)
    refine g_iload_n (pc := 27) (i := 2) C dX8_shownNeighbour_27 rfl rfl ?_
    refine g_callSi (pc := 28) (As := [.int (p2)]) C (kX8_directionOf X σ p2) q_40_17 q_33_23 q_1_2 q_34_0 hdX8_directionOf ⟨Nat.le_of_ble_eq_true rfl, Nat.le_of_ble_eq_true rfl, rfl, rfl⟩ ⟨Nat.zero_le _, Nat.zero_le _⟩ (Nat.le_of_ble_eq_true rfl) rfl rfl dX8_shownNeighbour_28 (fun r3 _ => ?_)
    refine g_icmp_eq (pc := 31) (tgt := 36) C dX8_shownNeighbour_31 rfl ?_ ?_
    · refine g_iload_n (pc := 36) (i := 2) C dX8_shownNeighbour_36 rfl rfl ?_
      refine g_if_eq (pc := 37) (tgt := 45) C dX8_shownNeighbour_37 rfl ?_ ?_
      · refine g_keep [true, true, false, true, true, false, false, false, false] ?_
        exact bX8_shownNeighbour_45 C hr σ p1 r1
      · refine g_iload_n (pc := 40) (i := 2) C dX8_shownNeighbour_40 rfl rfl ?_
        refine g_iconst (pc := 41) (v := 2) C dX8_shownNeighbour_41 (by decide) ?_
        refine g_icmp_ne (pc := 42) (tgt := 49) C dX8_shownNeighbour_42 rfl ?_ ?_
        · refine g_keep [true, true, false, true, true, false, false, false, false] ?_
          exact bX8_shownNeighbour_45 C hr σ p1 r1
        · refine g_iconst (pc := 49) (v := 1) C dX8_shownNeighbour_49 (by decide) ?_
          refine g_keep [true, true, false, true, true, false, false, false, false] ?_
          exact bX8_shownNeighbour_50 C hr σ p1 r1 1
    · refine g_iconst (pc := 34) (v := (-1)) C dX8_shownNeighbour_34 (by decide) ?_
      exact g_iret (pc := 35) C hr dX8_shownNeighbour_35 rfl
theorem dX8_nodeAtDivider_0 : decode cX8_nodeAtDivider 0 = .ok (.iload_n 1, 1) := by decide +kernel
theorem dX8_nodeAtDivider_1 : decode cX8_nodeAtDivider 1 = .ok (.istore_n 3, 1) := by decide +kernel
theorem dX8_nodeAtDivider_2 : decode cX8_nodeAtDivider 2 = .ok (.iconst 0, 1) := by decide +kernel
theorem dX8_nodeAtDivider_3 : decode cX8_nodeAtDivider 3 = .ok (.istore 4, 2) := by decide +kernel
theorem dX8_nodeAtDivider_5 : decode cX8_nodeAtDivider 5 = .ok (.iload 4, 2) := by decide +kernel
theorem dX8_nodeAtDivider_7 : decode cX8_nodeAtDivider 7 = .ok (.bipush 23, 2) := by decide +kernel
theorem dX8_nodeAtDivider_9 : decode cX8_nodeAtDivider 9 = .ok (.if_icmp .ge 38, 3) := by decide +kernel
theorem dX8_nodeAtDivider_12 : decode cX8_nodeAtDivider 12 = .ok (.iload_n 3, 1) := by decide +kernel
theorem dX8_nodeAtDivider_13 : decode cX8_nodeAtDivider 13 = .ok (.iconst (-1), 1) := by decide +kernel
theorem dX8_nodeAtDivider_14 : decode cX8_nodeAtDivider 14 = .ok (.if_icmp .eq 33, 3) := by decide +kernel
theorem dX8_nodeAtDivider_17 : decode cX8_nodeAtDivider 17 = .ok (.aload_n 0, 1) := by decide +kernel
theorem dX8_nodeAtDivider_18 : decode cX8_nodeAtDivider 18 = .ok (.iload_n 3, 1) := by decide +kernel
theorem dX8_nodeAtDivider_19 : decode cX8_nodeAtDivider 19 = .ok (.iload_n 2, 1) := by decide +kernel
theorem dX8_nodeAtDivider_20 : decode cX8_nodeAtDivider 20 = .ok (.invokevirtual 267, 3) := by decide +kernel
theorem dX8_nodeAtDivider_23 : decode cX8_nodeAtDivider 23 = .ok (.iconst (-1), 1) := by decide +kernel
theorem dX8_nodeAtDivider_24 : decode cX8_nodeAtDivider 24 = .ok (.if_icmp .eq 5, 3) := by decide +kernel
theorem dX8_nodeAtDivider_27 : decode cX8_nodeAtDivider 27 = .ok (.iload_n 3, 1) := by decide +kernel
theorem dX8_nodeAtDivider_28 : decode cX8_nodeAtDivider 28 = .ok (.ireturn, 1) := by decide +kernel
theorem dX8_nodeAtDivider_29 : decode cX8_nodeAtDivider 29 = .ok (.aload_n 0, 1) := by decide +kernel
theorem dX8_nodeAtDivider_30 : decode cX8_nodeAtDivider 30 = .ok (.getfield 10, 3) := by decide +kernel
theorem dX8_nodeAtDivider_33 : decode cX8_nodeAtDivider 33 = .ok (.getfield 77, 3) := by decide +kernel
theorem dX8_nodeAtDivider_36 : decode cX8_nodeAtDivider 36 = .ok (.iload_n 3, 1) := by decide +kernel
theorem dX8_nodeAtDivider_37 : decode cX8_nodeAtDivider 37 = .ok (.invokevirtual 145, 3) := by decide +kernel
theorem dX8_nodeAtDivider_40 : decode cX8_nodeAtDivider 40 = .ok (.istore_n 3, 1) := by decide +kernel
theorem dX8_nodeAtDivider_41 : decode cX8_nodeAtDivider 41 = .ok (.iinc 4 1, 3) := by decide +kernel
theorem dX8_nodeAtDivider_44 : decode cX8_nodeAtDivider 44 = .ok (.goto (-39), 3) := by decide +kernel
theorem dX8_nodeAtDivider_47 : decode cX8_nodeAtDivider 47 = .ok (.iconst (-1), 1) := by decide +kernel
theorem dX8_nodeAtDivider_48 : decode cX8_nodeAtDivider 48 = .ok (.ireturn, 1) := by decide +kernel
abbrev rmX8_nodeAtDivider : Room := { frames := 3, cells := 0, slots := 0, locals := 72 }
theorem hdX8_nodeAtDivider : yX8_nodeAtDivider.cls ≠ "java/lang/invoke/MethodHandle" ∧ yX8_nodeAtDivider.cls ≠ "java/lang/invoke/VarHandle" ∧ (parseMethodDescriptor yX8_nodeAtDivider.desc).map (fun d => d.parameters.length) = some 2 := by decide +kernel
def fX8_nodeAtDivider_5 (σ : Sg) : Nat → Int32 → Int32 → Int32 → Option Int32
  | 0, _, _, _ => none
  | n + 1, l2, l3, l4 =>
    if 23 ≤ l4 then
      some (-1)
    else
      if l3 = (-1) then
        some (-1)
      else
        (fX8_shownNeighbour σ l3 l2).bind fun r1 =>
        if r1 = (-1) then
          (fX1_parentOf σ (1 + 5) l3).bind fun r2 =>
          ((fX8_nodeAtDivider_5 σ n) l2 r2 (l4 + 1))
        else
          some l3
theorem bX8_nodeAtDivider_5 {X : Xc} {K : Kc} (C : MC X K cX8_nodeAtDivider 5 RX8 rmX8_nodeAtDivider) (hr : K.meth.sig.returnType = (some .int)) (σ : Sg) : ∀ (n : Nat) (l2 : Int32) (l3 : Int32) (l4 : Int32), GO X K 5 (fun r => MQi X K r σ) (fX8_nodeAtDivider_5 σ n l2 l3 l4) σ 0 0 5 [some (.ref (X.ad 0)), none, some (.int (l2)), some (.int (l3)), some (.int (l4))] [] := by
  intro n
  induction n with
  | zero =>
    intro l2 l3 l4
    exact g_none
  | succ n ih =>
    intro l2 l3 l4
    unfold fX8_nodeAtDivider_5
    refine g_iload (pc := 5) C dX8_nodeAtDivider_5 rfl ?_
    refine g_bipush (pc := 7) (v := 23) C dX8_nodeAtDivider_7 (by decide) ?_
    refine g_icmp_ge (pc := 9) (tgt := 47) C dX8_nodeAtDivider_9 rfl ?_ ?_
    · refine g_iconst (pc := 47) (v := (-1)) C dX8_nodeAtDivider_47 (by decide) ?_
      exact g_iret (pc := 48) C hr dX8_nodeAtDivider_48 rfl
    · refine g_iload_n (pc := 12) (i := 3) C dX8_nodeAtDivider_12 rfl rfl ?_
      refine g_iconst (pc := 13) (v := (-1)) C dX8_nodeAtDivider_13 (by decide) ?_
      refine g_icmp_eq (pc := 14) (tgt := 47) C dX8_nodeAtDivider_14 rfl ?_ ?_
      · refine g_iconst (pc := 47) (v := (-1)) C dX8_nodeAtDivider_47 (by decide) ?_
        exact g_iret (pc := 48) C hr dX8_nodeAtDivider_48 rfl
      · refine g_aload_n (pc := 17) (i := 0) C dX8_nodeAtDivider_17 rfl rfl ?_
        refine g_iload_n (pc := 18) (i := 3) C dX8_nodeAtDivider_18 rfl rfl ?_
        refine g_iload_n (pc := 19) (i := 2) C dX8_nodeAtDivider_19 rfl rfl ?_
        refine g_callVi (pc := 20) (As := [.int (l3), .int (l2)]) C (kX8_shownNeighbour X σ l3 l2) ok_dl rfl q_40_13 q_40_14 q_40_15 q_1_2 q_40_16 ⟨rfl, hdX8_shownNeighbour⟩ ⟨Nat.le_of_ble_eq_true rfl, Nat.le_of_ble_eq_true rfl, rfl, rfl⟩ ⟨Nat.zero_le _, Nat.zero_le _⟩ (Nat.le_of_ble_eq_true rfl) rfl rfl dX8_nodeAtDivider_20 (fun r1 _ => ?_)
        refine g_iconst (pc := 23) (v := (-1)) C dX8_nodeAtDivider_23 (by decide) ?_
        refine g_icmp_eq (pc := 24) (tgt := 29) C dX8_nodeAtDivider_24 rfl ?_ ?_
        · refine g_aload_n (pc := 29) (i := 0) C dX8_nodeAtDivider_29 rfl rfl ?_
          refine g_getr (pc := 30) (ci := 8) (N := 8) (T := TX8) (j := 0) (Cn := RX8) 1 C rfl inlX8 (Nat.le_of_ble_eq_true rfl) q_1_16 ok_dl rfl dX8_nodeAtDivider_30 ?_
          refine g_getNr (pc := 33) (ci := 4) (N := 7) (T := TX4) (j := 4) (Cn := RX4) (1 + 5) C rfl inlX4 (Nat.le_of_ble_eq_true rfl) (List.mem_of_getElem? (i := 10) rfl) (blk ok_now 0 rfl) rfl dX8_nodeAtDivider_33 ?_
          refine g_iload_n (pc := 36) (i := 3) C dX8_nodeAtDivider_36 rfl rfl ?_
          refine g_callVi (pc := 37) (As := [.int (l3)]) C (kX1_parentOf X σ (1 + 5) l3 (st_pl ok_now)) (blk (st_pl ok_now) 0 rfl) rfl q_25_3 q_25_4 q_25_5 q_2_23 q_25_6 ⟨rfl, hdX1_parentOf⟩ ⟨Nat.le_of_ble_eq_true rfl, Nat.le_of_ble_eq_true rfl, rfl, rfl⟩ ⟨Nat.zero_le _, Nat.zero_le _⟩ (Nat.le_of_ble_eq_true rfl) rfl rfl dX8_nodeAtDivider_37 (fun r2 _ => ?_)
          refine g_istore_n (pc := 40) (i := 3) C dX8_nodeAtDivider_40 rfl (Nat.le_of_ble_eq_true rfl) rfl ?_
          refine g_iinc (pc := 41) (v := l4 + 1) C dX8_nodeAtDivider_41 rfl (rfl) (Nat.le_of_ble_eq_true rfl) rfl ?_
          refine g_goto (pc := 44) (tgt := 5) C dX8_nodeAtDivider_44 rfl ?_
          refine g_keep [true, false, true, true, true] ?_
          exact ih l2 r2 (l4 + 1)
        · refine g_iload_n (pc := 27) (i := 3) C dX8_nodeAtDivider_27 rfl rfl ?_
          exact g_iret (pc := 28) C hr dX8_nodeAtDivider_28 rfl
def fX8_nodeAtDivider (σ : Sg) (p1 : Int32) (p2 : Int32) : Option Int32 :=
  (fX8_nodeAtDivider_5 σ FU p2 p1 0)
theorem kX8_nodeAtDivider (X : Xc) (σ : Sg) (p1 : Int32) (p2 : Int32) : ∀ r, fX8_nodeAtDivider σ p1 p2 = some r → Met X.l yX8_nodeAtDivider (wsM yX8_nodeAtDivider cX8_nodeAtDivider 5 (some .int)) rmX8_nodeAtDivider (va_Pc [.ref (X.ad 0), .int p1, .int p2] (PW X σ)) (Qi X r σ) 0 0 X.A := by
  refine mt_of (own := RX8) (lo := [some (.ref (X.ad 0)), some (.int (p1)), some (.int (p2)), none, none]) (by decide) rfl (Nat.le_of_ble_eq_true rfl) rfl (fun K C hr => ?_)
  unfold fX8_nodeAtDivider
  refine g_iload_n (pc := 0) (i := 1) C dX8_nodeAtDivider_0 rfl rfl ?_
  refine g_istore_n (pc := 1) (i := 3) C dX8_nodeAtDivider_1 rfl (Nat.le_of_ble_eq_true rfl) rfl ?_
  refine g_iconst (pc := 2) (v := 0) C dX8_nodeAtDivider_2 (by decide) ?_
  refine g_istore (pc := 3) C dX8_nodeAtDivider_3 (Nat.le_of_ble_eq_true rfl) rfl ?_
  refine g_keep [true, false, true, true, true] ?_
  exact bX8_nodeAtDivider_5 C hr σ FU p2 p1 0
theorem dX8_weighBySizes_0 : decode cX8_weighBySizes 0 = .ok (.aload_n 0, 1) := by decide +kernel
theorem dX8_weighBySizes_1 : decode cX8_weighBySizes 1 = .ok (.getfield 10, 3) := by decide +kernel
theorem dX8_weighBySizes_4 : decode cX8_weighBySizes 4 = .ok (.getfield 77, 3) := by decide +kernel
theorem dX8_weighBySizes_7 : decode cX8_weighBySizes 7 = .ok (.astore 4, 2) := by decide +kernel
theorem dX8_weighBySizes_9 : decode cX8_weighBySizes 9 = .ok (.aload 4, 2) := by decide +kernel
theorem dX8_weighBySizes_11 : decode cX8_weighBySizes 11 = .ok (.iload_n 1, 1) := by decide +kernel
theorem dX8_weighBySizes_12 : decode cX8_weighBySizes 12 = .ok (.invokevirtual 145, 3) := by decide +kernel
theorem dX8_weighBySizes_15 : decode cX8_weighBySizes 15 = .ok (.istore 5, 2) := by decide +kernel
theorem dX8_weighBySizes_17 : decode cX8_weighBySizes 17 = .ok (.aload 4, 2) := by decide +kernel
theorem dX8_weighBySizes_19 : decode cX8_weighBySizes 19 = .ok (.iload 5, 2) := by decide +kernel
theorem dX8_weighBySizes_21 : decode cX8_weighBySizes 21 = .ok (.invokevirtual 151, 3) := by decide +kernel
theorem dX8_weighBySizes_24 : decode cX8_weighBySizes 24 = .ok (.istore 6, 2) := by decide +kernel
theorem dX8_weighBySizes_26 : decode cX8_weighBySizes 26 = .ok (.aload 4, 2) := by decide +kernel
theorem dX8_weighBySizes_28 : decode cX8_weighBySizes 28 = .ok (.iload 5, 2) := by decide +kernel
theorem dX8_weighBySizes_30 : decode cX8_weighBySizes 30 = .ok (.invokevirtual 282, 3) := by decide +kernel
theorem dX8_weighBySizes_33 : decode cX8_weighBySizes 33 = .ok (.istore 7, 2) := by decide +kernel
theorem dX8_weighBySizes_35 : decode cX8_weighBySizes 35 = .ok (.lconst 0, 1) := by decide +kernel
theorem dX8_weighBySizes_36 : decode cX8_weighBySizes 36 = .ok (.lstore 8, 2) := by decide +kernel
theorem dX8_weighBySizes_38 : decode cX8_weighBySizes 38 = .ok (.lconst 0, 1) := by decide +kernel
theorem dX8_weighBySizes_39 : decode cX8_weighBySizes 39 = .ok (.lstore 10, 2) := by decide +kernel
theorem dX8_weighBySizes_41 : decode cX8_weighBySizes 41 = .ok (.iconst 0, 1) := by decide +kernel
theorem dX8_weighBySizes_42 : decode cX8_weighBySizes 42 = .ok (.istore 12, 2) := by decide +kernel
theorem dX8_weighBySizes_44 : decode cX8_weighBySizes 44 = .ok (.iload 12, 2) := by decide +kernel
theorem dX8_weighBySizes_46 : decode cX8_weighBySizes 46 = .ok (.iload 7, 2) := by decide +kernel
theorem dX8_weighBySizes_48 : decode cX8_weighBySizes 48 = .ok (.if_icmp .ge 109, 3) := by decide +kernel
theorem dX8_weighBySizes_51 : decode cX8_weighBySizes 51 = .ok (.aload 4, 2) := by decide +kernel
theorem dX8_weighBySizes_53 : decode cX8_weighBySizes 53 = .ok (.iload 5, 2) := by decide +kernel
theorem dX8_weighBySizes_55 : decode cX8_weighBySizes 55 = .ok (.iload 12, 2) := by decide +kernel
theorem dX8_weighBySizes_57 : decode cX8_weighBySizes 57 = .ok (.invokevirtual 285, 3) := by decide +kernel
theorem dX8_weighBySizes_60 : decode cX8_weighBySizes 60 = .ok (.istore 13, 2) := by decide +kernel
theorem dX8_weighBySizes_62 : decode cX8_weighBySizes 62 = .ok (.aload_n 0, 1) := by decide +kernel
theorem dX8_weighBySizes_63 : decode cX8_weighBySizes 63 = .ok (.getfield 23, 3) := by decide +kernel
theorem dX8_weighBySizes_66 : decode cX8_weighBySizes 66 = .ok (.iload 13, 2) := by decide +kernel
theorem dX8_weighBySizes_68 : decode cX8_weighBySizes 68 = .ok (.invokevirtual 154, 3) := by decide +kernel
theorem dX8_weighBySizes_71 : decode cX8_weighBySizes 71 = .ok (.ifCond .eq 80, 3) := by decide +kernel
theorem dX8_weighBySizes_74 : decode cX8_weighBySizes 74 = .ok (.iload 13, 2) := by decide +kernel
theorem dX8_weighBySizes_76 : decode cX8_weighBySizes 76 = .ok (.iload_n 1, 1) := by decide +kernel
theorem dX8_weighBySizes_77 : decode cX8_weighBySizes 77 = .ok (.if_icmp .ne 7, 3) := by decide +kernel
theorem dX8_weighBySizes_80 : decode cX8_weighBySizes 80 = .ok (.iload_n 3, 1) := by decide +kernel
theorem dX8_weighBySizes_81 : decode cX8_weighBySizes 81 = .ok (.goto 15, 3) := by decide +kernel
theorem dX8_weighBySizes_84 : decode cX8_weighBySizes 84 = .ok (.iload 13, 2) := by decide +kernel
theorem dX8_weighBySizes_86 : decode cX8_weighBySizes 86 = .ok (.iload_n 2, 1) := by decide +kernel
theorem dX8_weighBySizes_87 : decode cX8_weighBySizes 87 = .ok (.if_icmp .ne 8, 3) := by decide +kernel
theorem dX8_weighBySizes_90 : decode cX8_weighBySizes 90 = .ok (.iload_n 3, 1) := by decide +kernel
theorem dX8_weighBySizes_91 : decode cX8_weighBySizes 91 = .ok (.ineg, 1) := by decide +kernel
theorem dX8_weighBySizes_92 : decode cX8_weighBySizes 92 = .ok (.goto 4, 3) := by decide +kernel
theorem dX8_weighBySizes_95 : decode cX8_weighBySizes 95 = .ok (.iconst 0, 1) := by decide +kernel
theorem dX8_weighBySizes_96 : decode cX8_weighBySizes 96 = .ok (.istore 14, 2) := by decide +kernel
theorem dX8_weighBySizes_98 : decode cX8_weighBySizes 98 = .ok (.iconst 1, 1) := by decide +kernel
theorem dX8_weighBySizes_99 : decode cX8_weighBySizes 99 = .ok (.bipush 100, 2) := by decide +kernel
theorem dX8_weighBySizes_101 : decode cX8_weighBySizes 101 = .ok (.aload_n 0, 1) := by decide +kernel
theorem dX8_weighBySizes_102 : decode cX8_weighBySizes 102 = .ok (.getfield 23, 3) := by decide +kernel
theorem dX8_weighBySizes_105 : decode cX8_weighBySizes 105 = .ok (.iload 13, 2) := by decide +kernel
theorem dX8_weighBySizes_107 : decode cX8_weighBySizes 107 = .ok (.iload 6, 2) := by decide +kernel
theorem dX8_weighBySizes_109 : decode cX8_weighBySizes 109 = .ok (.invokevirtual 424, 3) := by decide +kernel
theorem dX8_weighBySizes_112 : decode cX8_weighBySizes 112 = .ok (.iload 14, 2) := by decide +kernel
theorem dX8_weighBySizes_114 : decode cX8_weighBySizes 114 = .ok (.iadd, 1) := by decide +kernel
theorem dX8_weighBySizes_115 : decode cX8_weighBySizes 115 = .ok (.imul, 1) := by decide +kernel
theorem dX8_weighBySizes_116 : decode cX8_weighBySizes 116 = .ok (.invokestatic 427, 3) := by decide +kernel
theorem dX8_weighBySizes_119 : decode cX8_weighBySizes 119 = .ok (.istore 15, 2) := by decide +kernel
theorem dX8_weighBySizes_121 : decode cX8_weighBySizes 121 = .ok (.lload 8, 2) := by decide +kernel
theorem dX8_weighBySizes_123 : decode cX8_weighBySizes 123 = .ok (.aload 4, 2) := by decide +kernel
theorem dX8_weighBySizes_125 : decode cX8_weighBySizes 125 = .ok (.iload 13, 2) := by decide +kernel
theorem dX8_weighBySizes_127 : decode cX8_weighBySizes 127 = .ok (.invokevirtual 148, 3) := by decide +kernel
theorem dX8_weighBySizes_130 : decode cX8_weighBySizes 130 = .ok (.i2l, 1) := by decide +kernel
theorem dX8_weighBySizes_131 : decode cX8_weighBySizes 131 = .ok (.ladd, 1) := by decide +kernel
theorem dX8_weighBySizes_132 : decode cX8_weighBySizes 132 = .ok (.lstore 8, 2) := by decide +kernel
theorem dX8_weighBySizes_134 : decode cX8_weighBySizes 134 = .ok (.lload 10, 2) := by decide +kernel
theorem dX8_weighBySizes_136 : decode cX8_weighBySizes 136 = .ok (.iload 15, 2) := by decide +kernel
theorem dX8_weighBySizes_138 : decode cX8_weighBySizes 138 = .ok (.i2l, 1) := by decide +kernel
theorem dX8_weighBySizes_139 : decode cX8_weighBySizes 139 = .ok (.ladd, 1) := by decide +kernel
theorem dX8_weighBySizes_140 : decode cX8_weighBySizes 140 = .ok (.lstore 10, 2) := by decide +kernel
theorem dX8_weighBySizes_142 : decode cX8_weighBySizes 142 = .ok (.aload 4, 2) := by decide +kernel
theorem dX8_weighBySizes_144 : decode cX8_weighBySizes 144 = .ok (.iload 13, 2) := by decide +kernel
theorem dX8_weighBySizes_146 : decode cX8_weighBySizes 146 = .ok (.iload 15, 2) := by decide +kernel
theorem dX8_weighBySizes_148 : decode cX8_weighBySizes 148 = .ok (.invokevirtual 288, 3) := by decide +kernel
theorem dX8_weighBySizes_151 : decode cX8_weighBySizes 151 = .ok (.iinc 12 1, 3) := by decide +kernel
theorem dX8_weighBySizes_154 : decode cX8_weighBySizes 154 = .ok (.goto (-110), 3) := by decide +kernel
theorem dX8_weighBySizes_157 : decode cX8_weighBySizes 157 = .ok (.iconst 0, 1) := by decide +kernel
theorem dX8_weighBySizes_158 : decode cX8_weighBySizes 158 = .ok (.istore 12, 2) := by decide +kernel
theorem dX8_weighBySizes_160 : decode cX8_weighBySizes 160 = .ok (.iload 12, 2) := by decide +kernel
theorem dX8_weighBySizes_162 : decode cX8_weighBySizes 162 = .ok (.iload 7, 2) := by decide +kernel
theorem dX8_weighBySizes_164 : decode cX8_weighBySizes 164 = .ok (.if_icmp .ge 75, 3) := by decide +kernel
theorem dX8_weighBySizes_167 : decode cX8_weighBySizes 167 = .ok (.lload 8, 2) := by decide +kernel
theorem dX8_weighBySizes_169 : decode cX8_weighBySizes 169 = .ok (.lconst 0, 1) := by decide +kernel
theorem dX8_weighBySizes_170 : decode cX8_weighBySizes 170 = .ok (.lcmp, 1) := by decide +kernel
theorem dX8_weighBySizes_171 : decode cX8_weighBySizes 171 = .ok (.ifCond .le 68, 3) := by decide +kernel
theorem dX8_weighBySizes_174 : decode cX8_weighBySizes 174 = .ok (.aload 4, 2) := by decide +kernel
theorem dX8_weighBySizes_176 : decode cX8_weighBySizes 176 = .ok (.iload 5, 2) := by decide +kernel
theorem dX8_weighBySizes_178 : decode cX8_weighBySizes 178 = .ok (.iload 12, 2) := by decide +kernel
theorem dX8_weighBySizes_180 : decode cX8_weighBySizes 180 = .ok (.invokevirtual 285, 3) := by decide +kernel
theorem dX8_weighBySizes_183 : decode cX8_weighBySizes 183 = .ok (.istore 13, 2) := by decide +kernel
theorem dX8_weighBySizes_185 : decode cX8_weighBySizes 185 = .ok (.aload_n 0, 1) := by decide +kernel
theorem dX8_weighBySizes_186 : decode cX8_weighBySizes 186 = .ok (.getfield 23, 3) := by decide +kernel
theorem dX8_weighBySizes_189 : decode cX8_weighBySizes 189 = .ok (.iload 13, 2) := by decide +kernel
theorem dX8_weighBySizes_191 : decode cX8_weighBySizes 191 = .ok (.invokevirtual 154, 3) := by decide +kernel
theorem dX8_weighBySizes_194 : decode cX8_weighBySizes 194 = .ok (.ifCond .ne 39, 3) := by decide +kernel
theorem dX8_weighBySizes_197 : decode cX8_weighBySizes 197 = .ok (.aload 4, 2) := by decide +kernel
theorem dX8_weighBySizes_199 : decode cX8_weighBySizes 199 = .ok (.iload 13, 2) := by decide +kernel
theorem dX8_weighBySizes_201 : decode cX8_weighBySizes 201 = .ok (.invokevirtual 148, 3) := by decide +kernel
theorem dX8_weighBySizes_204 : decode cX8_weighBySizes 204 = .ok (.i2l, 1) := by decide +kernel
theorem dX8_weighBySizes_205 : decode cX8_weighBySizes 205 = .ok (.lload 10, 2) := by decide +kernel
theorem dX8_weighBySizes_207 : decode cX8_weighBySizes 207 = .ok (.lmul, 1) := by decide +kernel
theorem dX8_weighBySizes_208 : decode cX8_weighBySizes 208 = .ok (.lload 8, 2) := by decide +kernel
theorem dX8_weighBySizes_210 : decode cX8_weighBySizes 210 = .ok (.ldiv, 1) := by decide +kernel
theorem dX8_weighBySizes_211 : decode cX8_weighBySizes 211 = .ok (.lstore 14, 2) := by decide +kernel
theorem dX8_weighBySizes_213 : decode cX8_weighBySizes 213 = .ok (.aload 4, 2) := by decide +kernel
theorem dX8_weighBySizes_215 : decode cX8_weighBySizes 215 = .ok (.iload 13, 2) := by decide +kernel
theorem dX8_weighBySizes_217 : decode cX8_weighBySizes 217 = .ok (.lconst 1, 1) := by decide +kernel
theorem dX8_weighBySizes_218 : decode cX8_weighBySizes 218 = .ok (.lload 14, 2) := by decide +kernel
theorem dX8_weighBySizes_220 : decode cX8_weighBySizes 220 = .ok (.ldc2_w 430, 3) := by decide +kernel
theorem dX8_weighBySizes_223 : decode cX8_weighBySizes 223 = .ok (.invokestatic 432, 3) := by decide +kernel
theorem dX8_weighBySizes_226 : decode cX8_weighBySizes 226 = .ok (.invokestatic 436, 3) := by decide +kernel
theorem dX8_weighBySizes_229 : decode cX8_weighBySizes 229 = .ok (.l2i, 1) := by decide +kernel
theorem dX8_weighBySizes_230 : decode cX8_weighBySizes 230 = .ok (.invokevirtual 288, 3) := by decide +kernel
theorem dX8_weighBySizes_233 : decode cX8_weighBySizes 233 = .ok (.iinc 12 1, 3) := by decide +kernel
theorem dX8_weighBySizes_236 : decode cX8_weighBySizes 236 = .ok (.goto (-76), 3) := by decide +kernel
theorem dX8_weighBySizes_239 : decode cX8_weighBySizes 239 = .ok (.return_, 1) := by decide +kernel
abbrev rmX8_weighBySizes : Room := { frames := 2, cells := 0, slots := 0, locals := 90 }
theorem hdX8_weighBySizes : yX8_weighBySizes.cls ≠ "java/lang/invoke/MethodHandle" ∧ yX8_weighBySizes.cls ≠ "java/lang/invoke/VarHandle" ∧ (parseMethodDescriptor yX8_weighBySizes.desc).map (fun d => d.parameters.length) = some 3 := by decide +kernel
def fX8_weighBySizes_233 (k160 : Sg → Int32 → Int32 → Int64 → Int64 → Int32 → Option Sg) (σ : Sg) (l5 : Int32) (l7 : Int32) (l8 : Int64) (l10 : Int64) (l12 : Int32) : Option Sg :=
  (k160 σ l5 l7 l8 l10 (l12 + 1))
theorem bX8_weighBySizes_233 {X : Xc} {K : Kc} (C : MC X K cX8_weighBySizes 16 RX8 rmX8_weighBySizes) (hr : K.meth.sig.returnType = none){k160 : Sg → Int32 → Int32 → Int64 → Int64 → Int32 → Option Sg} (hk160 : ∀ (σ : Sg) (l5 : Int32) (l7 : Int32) (l8 : Int64) (l10 : Int64) (l12 : Int32), GO X K 16 (fun r => MQv X K r) (k160 σ l5 l7 l8 l10 l12) σ 0 0 160 [some (.ref (X.ad 0)), none, none, none, some (.ref (X.ad (1 + 5))), some (.int (l5)), none, some (.int (l7)), some (.long (l8)), none, some (.long (l10)), none, some (.int (l12)), none, none, none] []) (σ : Sg) (l5 : Int32) (l7 : Int32) (l8 : Int64) (l10 : Int64) (l12 : Int32) : GO X K 16 (fun r => MQv X K r) (fX8_weighBySizes_233 k160 σ l5 l7 l8 l10 l12) σ 0 0 233 [some (.ref (X.ad 0)), none, none, none, some (.ref (X.ad (1 + 5))), some (.int (l5)), none, some (.int (l7)), some (.long (l8)), none, some (.long (l10)), none, some (.int (l12)), none, none, none] [] := by
  unfold fX8_weighBySizes_233
  refine g_iinc (pc := 233) (v := l12 + 1) C dX8_weighBySizes_233 rfl (rfl) (Nat.le_of_ble_eq_true rfl) rfl ?_
  refine g_goto (pc := 236) (tgt := 160) C dX8_weighBySizes_236 rfl ?_
  refine g_keep [true, false, false, false, true, true, false, true, true, false, true, false, true, false, false, false] ?_
  exact hk160 σ l5 l7 l8 l10 (l12 + 1)
def fX8_weighBySizes_160 : Nat → Sg → Int32 → Int32 → Int64 → Int64 → Int32 → Option Sg
  | 0, _, _, _, _, _, _ => none
  | n + 1, σ, l5, l7, l8, l10, l12 =>
    if l7 ≤ l12 then
      some σ
    else
      if (lg_cmp l8 (0 : Int64)) ≤ 0 then
        some σ
      else
        (fX1_childAt σ (1 + 5) l5 l12).bind fun r8 =>
        (fX2_isShown σ 422 r8).bind fun r9 =>
        if r9 = true then
          (fX8_weighBySizes_233 (fX8_weighBySizes_160 n) σ l5 l7 l8 l10 l12)
        else
          (fX1_weightOf σ (1 + 5) r8).bind fun r10 =>
          if l8 = 0 then none else
          nm ((r10.toInt64 * l10) / l8) fun v11 =>
          nm (if (1000000 : Int64) < v11 then (1000000 : Int64) else v11) fun v12 =>
          nm (if v12 < (1 : Int64) then (1 : Int64) else v12) fun v13 =>
          (fX1_setWeight σ (1 + 5) r8 v13.toInt32).bind fun σ14 =>
          (fX8_weighBySizes_233 (fX8_weighBySizes_160 n) σ14 l5 l7 l8 l10 l12)
theorem bX8_weighBySizes_160 {X : Xc} {K : Kc} (C : MC X K cX8_weighBySizes 16 RX8 rmX8_weighBySizes) (hr : K.meth.sig.returnType = none) : ∀ (n : Nat) (σ : Sg) (l5 : Int32) (l7 : Int32) (l8 : Int64) (l10 : Int64) (l12 : Int32), GO X K 16 (fun r => MQv X K r) (fX8_weighBySizes_160 n σ l5 l7 l8 l10 l12) σ 0 0 160 [some (.ref (X.ad 0)), none, none, none, some (.ref (X.ad (1 + 5))), some (.int (l5)), none, some (.int (l7)), some (.long (l8)), none, some (.long (l10)), none, some (.int (l12)), none, none, none] [] := by
  intro n
  induction n with
  | zero =>
    intro σ l5 l7 l8 l10 l12
    exact g_none
  | succ n ih =>
    intro σ l5 l7 l8 l10 l12
    unfold fX8_weighBySizes_160
    refine g_iload (pc := 160) C dX8_weighBySizes_160 rfl ?_
    refine g_iload (pc := 162) C dX8_weighBySizes_162 rfl ?_
    refine g_icmp_ge (pc := 164) (tgt := 239) C dX8_weighBySizes_164 rfl ?_ ?_
    · exact g_vret (pc := 239) C hr dX8_weighBySizes_239 rfl
    · refine g_lload (pc := 167) C dX8_weighBySizes_167 rfl ?_
      refine g_lconst (pc := 169) (v := 0) C dX8_weighBySizes_169 (by decide) ?_
      refine g_lcmp (pc := 170) C dX8_weighBySizes_170 ?_
      refine g_if_le (pc := 171) (tgt := 239) C dX8_weighBySizes_171 rfl ?_ ?_
      · exact g_vret (pc := 239) C hr dX8_weighBySizes_239 rfl
      · refine g_aload (pc := 174) C dX8_weighBySizes_174 rfl ?_
        refine g_iload (pc := 176) C dX8_weighBySizes_176 rfl ?_
        refine g_iload (pc := 178) C dX8_weighBySizes_178 rfl ?_
        refine g_callVi (pc := 180) (As := [.int (l5), .int (l12)]) C (kX1_childAt X σ (1 + 5) l5 l12 (st_pl ok_now)) (blk (st_pl ok_now) 0 rfl) rfl q_40_22 q_14_13 q_14_14 q_2_23 q_14_15 ⟨rfl, hdX1_childAt⟩ ⟨Nat.le_of_ble_eq_true rfl, Nat.le_of_ble_eq_true rfl, rfl, rfl⟩ ⟨Nat.zero_le _, Nat.zero_le _⟩ (Nat.le_of_ble_eq_true rfl) rfl rfl dX8_weighBySizes_180 (fun r8 _ => ?_)
        refine g_istore (pc := 183) C dX8_weighBySizes_183 (Nat.le_of_ble_eq_true rfl) rfl ?_
        refine g_aload_n (pc := 185) (i := 0) C dX8_weighBySizes_185 rfl rfl ?_
        refine g_getr (pc := 186) (ci := 8) (N := 8) (T := TX8) (j := 4) (Cn := RX8) 422 C rfl inlX8 (Nat.le_of_ble_eq_true rfl) q_1_21 ok_dl rfl dX8_weighBySizes_186 ?_
        refine g_iload (pc := 189) C dX8_weighBySizes_189 rfl ?_
        refine g_callVi (pc := 191) (As := [.int (r8)]) C (kX2_isShown X σ 422 r8 ok_pn) (blk ok_pn 0 rfl) rfl q_26_0 q_16_23 q_17_0 q_1_20 q_17_1 ⟨rfl, hdX2_isShown⟩ ⟨Nat.le_of_ble_eq_true rfl, Nat.le_of_ble_eq_true rfl, rfl, rfl⟩ ⟨Nat.zero_le _, Nat.zero_le _⟩ (Nat.le_of_ble_eq_true rfl) rfl rfl dX8_weighBySizes_191 (fun r9 _ => ?_)
        refine g_ifb_ne (pc := 194) (tgt := 233) C dX8_weighBySizes_194 rfl ?_ ?_
        · refine g_keep [true, false, false, false, true, true, false, true, true, false, true, false, true, false, false, false] ?_
          exact bX8_weighBySizes_233 C hr ih σ l5 l7 l8 l10 l12
        · refine g_aload (pc := 197) C dX8_weighBySizes_197 rfl ?_
          refine g_iload (pc := 199) C dX8_weighBySizes_199 rfl ?_
          refine g_callVi (pc := 201) (As := [.int (r8)]) C (kX1_weightOf X σ (1 + 5) r8 (st_pl ok_now)) (blk (st_pl ok_now) 0 rfl) rfl q_25_7 q_17_16 q_17_17 q_2_23 q_17_18 ⟨rfl, hdX1_weightOf⟩ ⟨Nat.le_of_ble_eq_true rfl, Nat.le_of_ble_eq_true rfl, rfl, rfl⟩ ⟨Nat.zero_le _, Nat.zero_le _⟩ (Nat.le_of_ble_eq_true rfl) rfl rfl dX8_weighBySizes_201 (fun r10 _ => ?_)
          refine g_i2l (pc := 204) C dX8_weighBySizes_204 ?_
          refine g_lload (pc := 205) C dX8_weighBySizes_205 rfl ?_
          refine g_lmul (pc := 207) C dX8_weighBySizes_207 ?_
          refine g_lload (pc := 208) C dX8_weighBySizes_208 rfl ?_
          refine g_ldiv (pc := 210) C dX8_weighBySizes_210 ?_
          refine g_nml (fun v11 => ?_)
          refine g_lstore (pc := 211) C dX8_weighBySizes_211 (Nat.le_of_ble_eq_true rfl) rfl ?_
          refine g_aload (pc := 213) C dX8_weighBySizes_213 rfl ?_
          refine g_iload (pc := 215) C dX8_weighBySizes_215 rfl ?_
          refine g_lconst (pc := 217) (v := 1) C dX8_weighBySizes_217 (by decide) ?_
          refine g_lload (pc := 218) C dX8_weighBySizes_218 rfl ?_
          refine g_ldc2 (pc := 220) (v := 1000000) C q_41_9 dX8_weighBySizes_220 ?_
          refine g_mminl (pc := 223) C q_41_10 q_41_11 q_8_20 q_41_12 ⟨Nat.le_of_ble_eq_true rfl, Nat.le_of_ble_eq_true rfl⟩ ⟨Nat.le_of_ble_eq_true rfl, Nat.le_of_ble_eq_true rfl⟩ dX8_weighBySizes_223 ?_
          refine g_nml (fun v12 => ?_)
          refine g_mmaxl (pc := 226) C q_41_13 q_41_14 q_8_20 q_41_15 ⟨Nat.le_of_ble_eq_true rfl, Nat.le_of_ble_eq_true rfl⟩ ⟨Nat.le_of_ble_eq_true rfl, Nat.le_of_ble_eq_true rfl⟩ dX8_weighBySizes_226 ?_
          refine g_nml (fun v13 => ?_)
          refine g_l2i (pc := 229) C dX8_weighBySizes_229 ?_
          refine g_callVv (pc := 230) (As := [.int (r8), .int (v13.toInt32)]) C (kX1_setWeight X σ (1 + 5) r8 v13.toInt32 (st_pl ok_now)) (blk (st_pl ok_now) 0 rfl) rfl q_41_18 q_41_19 q_41_20 q_2_23 q_41_21 ⟨rfl, hdX1_setWeight⟩ ⟨Nat.le_of_ble_eq_true rfl, Nat.le_of_ble_eq_true rfl, rfl, rfl⟩ ⟨Nat.zero_le _, Nat.zero_le _⟩ (Nat.le_of_ble_eq_true rfl) rfl rfl dX8_weighBySizes_230 (fun σ14 _ => ?_)
          refine g_keep [true, false, false, false, true, true, false, true, true, false, true, false, true, false, false, false] ?_
          exact bX8_weighBySizes_233 C hr ih σ14 l5 l7 l8 l10 l12
def fX8_weighBySizes_151 (k44 : Sg → Int32 → Int32 → Int32 → Int32 → Int32 → Int32 → Int64 → Int64 → Int32 → Option Sg) (σ : Sg) (l1 : Int32) (l2 : Int32) (l3 : Int32) (l5 : Int32) (l6 : Int32) (l7 : Int32) (l8 : Int64) (l10 : Int64) (l12 : Int32) : Option Sg :=
  (k44 σ l1 l2 l3 l5 l6 l7 l8 l10 (l12 + 1))
theorem bX8_weighBySizes_151 {X : Xc} {K : Kc} (C : MC X K cX8_weighBySizes 16 RX8 rmX8_weighBySizes) (hr : K.meth.sig.returnType = none){k44 : Sg → Int32 → Int32 → Int32 → Int32 → Int32 → Int32 → Int64 → Int64 → Int32 → Option Sg} (hk44 : ∀ (σ : Sg) (l1 : Int32) (l2 : Int32) (l3 : Int32) (l5 : Int32) (l6 : Int32) (l7 : Int32) (l8 : Int64) (l10 : Int64) (l12 : Int32), GO X K 16 (fun r => MQv X K r) (k44 σ l1 l2 l3 l5 l6 l7 l8 l10 l12) σ 0 0 44 [some (.ref (X.ad 0)), some (.int (l1)), some (.int (l2)), some (.int (l3)), some (.ref (X.ad (1 + 5))), some (.int (l5)), some (.int (l6)), some (.int (l7)), some (.long (l8)), none, some (.long (l10)), none, some (.int (l12)), none, none, none] []) (σ : Sg) (l1 : Int32) (l2 : Int32) (l3 : Int32) (l5 : Int32) (l6 : Int32) (l7 : Int32) (l8 : Int64) (l10 : Int64) (l12 : Int32) : GO X K 16 (fun r => MQv X K r) (fX8_weighBySizes_151 k44 σ l1 l2 l3 l5 l6 l7 l8 l10 l12) σ 0 0 151 [some (.ref (X.ad 0)), some (.int (l1)), some (.int (l2)), some (.int (l3)), some (.ref (X.ad (1 + 5))), some (.int (l5)), some (.int (l6)), some (.int (l7)), some (.long (l8)), none, some (.long (l10)), none, some (.int (l12)), none, none, none] [] := by
  unfold fX8_weighBySizes_151
  refine g_iinc (pc := 151) (v := l12 + 1) C dX8_weighBySizes_151 rfl (rfl) (Nat.le_of_ble_eq_true rfl) rfl ?_
  refine g_goto (pc := 154) (tgt := 44) C dX8_weighBySizes_154 rfl ?_
  refine g_keep [true, true, true, true, true, true, true, true, true, false, true, false, true, false, false, false] ?_
  exact hk44 σ l1 l2 l3 l5 l6 l7 l8 l10 (l12 + 1)
def fX8_weighBySizes_96 (k44 : Sg → Int32 → Int32 → Int32 → Int32 → Int32 → Int32 → Int64 → Int64 → Int32 → Option Sg) (σ : Sg) (l1 : Int32) (l2 : Int32) (l3 : Int32) (l5 : Int32) (l6 : Int32) (l7 : Int32) (l8 : Int64) (l10 : Int64) (l12 : Int32) (l13 : Int32) (s0 : Int32) : Option Sg :=
  (fX2_extentOf σ 422 l13 l6).bind fun r15 =>
  nm (if 1 < (100 * (r15 + s0)) then (100 * (r15 + s0)) else 1) fun v16 =>
  (fX1_weightOf σ (1 + 5) l13).bind fun r17 =>
  nm (l8 + r17.toInt64) fun v18 =>
  nm (l10 + v16.toInt64) fun v19 =>
  (fX1_setWeight σ (1 + 5) l13 v16).bind fun σ20 =>
  (fX8_weighBySizes_151 k44 σ20 l1 l2 l3 l5 l6 l7 v18 v19 l12)
theorem bX8_weighBySizes_96 {X : Xc} {K : Kc} (C : MC X K cX8_weighBySizes 16 RX8 rmX8_weighBySizes) (hr : K.meth.sig.returnType = none){k44 : Sg → Int32 → Int32 → Int32 → Int32 → Int32 → Int32 → Int64 → Int64 → Int32 → Option Sg} (hk44 : ∀ (σ : Sg) (l1 : Int32) (l2 : Int32) (l3 : Int32) (l5 : Int32) (l6 : Int32) (l7 : Int32) (l8 : Int64) (l10 : Int64) (l12 : Int32), GO X K 16 (fun r => MQv X K r) (k44 σ l1 l2 l3 l5 l6 l7 l8 l10 l12) σ 0 0 44 [some (.ref (X.ad 0)), some (.int (l1)), some (.int (l2)), some (.int (l3)), some (.ref (X.ad (1 + 5))), some (.int (l5)), some (.int (l6)), some (.int (l7)), some (.long (l8)), none, some (.long (l10)), none, some (.int (l12)), none, none, none] []) (σ : Sg) (l1 : Int32) (l2 : Int32) (l3 : Int32) (l5 : Int32) (l6 : Int32) (l7 : Int32) (l8 : Int64) (l10 : Int64) (l12 : Int32) (l13 : Int32) (s0 : Int32) : GO X K 16 (fun r => MQv X K r) (fX8_weighBySizes_96 k44 σ l1 l2 l3 l5 l6 l7 l8 l10 l12 l13 s0) σ 0 0 96 [some (.ref (X.ad 0)), some (.int (l1)), some (.int (l2)), some (.int (l3)), some (.ref (X.ad (1 + 5))), some (.int (l5)), some (.int (l6)), some (.int (l7)), some (.long (l8)), none, some (.long (l10)), none, some (.int (l12)), some (.int (l13)), none, none] [.int (s0)] := by
  unfold fX8_weighBySizes_96
  refine g_istore (pc := 96) C dX8_weighBySizes_96 (Nat.le_of_ble_eq_true rfl) rfl ?_
  refine g_iconst (pc := 98) (v := 1) C dX8_weighBySizes_98 (by decide) ?_
  refine g_bipush (pc := 99) (v := 100) C dX8_weighBySizes_99 (by decide) ?_
  refine g_aload_n (pc := 101) (i := 0) C dX8_weighBySizes_101 rfl rfl ?_
  refine g_getr (pc := 102) (ci := 8) (N := 8) (T := TX8) (j := 4) (Cn := RX8) 422 C rfl inlX8 (Nat.le_of_ble_eq_true rfl) q_1_21 ok_dl rfl dX8_weighBySizes_102 ?_
  refine g_iload (pc := 105) C dX8_weighBySizes_105 rfl ?_
  refine g_iload (pc := 107) C dX8_weighBySizes_107 rfl ?_
  refine g_callVi (pc := 109) (As := [.int (l13), .int (l6)]) C (kX2_extentOf X σ 422 l13 l6 ok_pn) (blk ok_pn 0 rfl) rfl q_41_17 q_18_0 q_18_1 q_1_20 q_18_2 ⟨rfl, hdX2_extentOf⟩ ⟨Nat.le_of_ble_eq_true rfl, Nat.le_of_ble_eq_true rfl, rfl, rfl⟩ ⟨Nat.zero_le _, Nat.zero_le _⟩ (Nat.le_of_ble_eq_true rfl) rfl rfl dX8_weighBySizes_109 (fun r15 _ => ?_)
  refine g_iload (pc := 112) C dX8_weighBySizes_112 rfl ?_
  refine g_iadd (pc := 114) C dX8_weighBySizes_114 ?_
  refine g_imul (pc := 115) C dX8_weighBySizes_115 ?_
  refine g_mmax (pc := 116) C q_41_8 q_16_10 q_8_20 q_16_11 ⟨Nat.le_of_ble_eq_true rfl, Nat.le_of_ble_eq_true rfl⟩ ⟨Nat.le_of_ble_eq_true rfl, Nat.le_of_ble_eq_true rfl⟩ dX8_weighBySizes_116 ?_
  refine g_nm (fun v16 => ?_)
  refine g_istore (pc := 119) C dX8_weighBySizes_119 (Nat.le_of_ble_eq_true rfl) rfl ?_
  refine g_lload (pc := 121) C dX8_weighBySizes_121 rfl ?_
  refine g_aload (pc := 123) C dX8_weighBySizes_123 rfl ?_
  refine g_iload (pc := 125) C dX8_weighBySizes_125 rfl ?_
  refine g_callVi (pc := 127) (As := [.int (l13)]) C (kX1_weightOf X σ (1 + 5) l13 (st_pl ok_now)) (blk (st_pl ok_now) 0 rfl) rfl q_25_7 q_17_16 q_17_17 q_2_23 q_17_18 ⟨rfl, hdX1_weightOf⟩ ⟨Nat.le_of_ble_eq_true rfl, Nat.le_of_ble_eq_true rfl, rfl, rfl⟩ ⟨Nat.zero_le _, Nat.zero_le _⟩ (Nat.le_of_ble_eq_true rfl) rfl rfl dX8_weighBySizes_127 (fun r17 _ => ?_)
  refine g_i2l (pc := 130) C dX8_weighBySizes_130 ?_
  refine g_ladd (pc := 131) C dX8_weighBySizes_131 ?_
  refine g_nml (fun v18 => ?_)
  refine g_lstore (pc := 132) C dX8_weighBySizes_132 (Nat.le_of_ble_eq_true rfl) rfl ?_
  refine g_lload (pc := 134) C dX8_weighBySizes_134 rfl ?_
  refine g_iload (pc := 136) C dX8_weighBySizes_136 rfl ?_
  refine g_i2l (pc := 138) C dX8_weighBySizes_138 ?_
  refine g_ladd (pc := 139) C dX8_weighBySizes_139 ?_
  refine g_nml (fun v19 => ?_)
  refine g_lstore (pc := 140) C dX8_weighBySizes_140 (Nat.le_of_ble_eq_true rfl) rfl ?_
  refine g_aload (pc := 142) C dX8_weighBySizes_142 rfl ?_
  refine g_iload (pc := 144) C dX8_weighBySizes_144 rfl ?_
  refine g_iload (pc := 146) C dX8_weighBySizes_146 rfl ?_
  refine g_callVv (pc := 148) (As := [.int (l13), .int (v16)]) C (kX1_setWeight X σ (1 + 5) l13 v16 (st_pl ok_now)) (blk (st_pl ok_now) 0 rfl) rfl q_41_18 q_41_19 q_41_20 q_2_23 q_41_21 ⟨rfl, hdX1_setWeight⟩ ⟨Nat.le_of_ble_eq_true rfl, Nat.le_of_ble_eq_true rfl, rfl, rfl⟩ ⟨Nat.zero_le _, Nat.zero_le _⟩ (Nat.le_of_ble_eq_true rfl) rfl rfl dX8_weighBySizes_148 (fun σ20 _ => ?_)
  refine g_keep [true, true, true, true, true, true, true, true, true, false, true, false, true, false, false, false] ?_
  exact bX8_weighBySizes_151 C hr hk44 σ20 l1 l2 l3 l5 l6 l7 v18 v19 l12
def fX8_weighBySizes_44 : Nat → Sg → Int32 → Int32 → Int32 → Int32 → Int32 → Int32 → Int64 → Int64 → Int32 → Option Sg
  | 0, _, _, _, _, _, _, _, _, _, _ => none
  | n + 1, σ, l1, l2, l3, l5, l6, l7, l8, l10, l12 =>
    if l7 ≤ l12 then
      (fX8_weighBySizes_160 FU σ l5 l7 l8 l10 0)
    else
      (fX1_childAt σ (1 + 5) l5 l12).bind fun r6 =>
      (fX2_isShown σ 422 r6).bind fun r7 =>
      if r7 = true then
        if r6 = l1 then
          (fX8_weighBySizes_96 (fX8_weighBySizes_44 n) σ l1 l2 l3 l5 l6 l7 l8 l10 l12 r6 l3)
        else
          if r6 = l2 then
            (fX8_weighBySizes_96 (fX8_weighBySizes_44 n) σ l1 l2 l3 l5 l6 l7 l8 l10 l12 r6 (-l3))
          else
            (fX8_weighBySizes_96 (fX8_weighBySizes_44 n) σ l1 l2 l3 l5 l6 l7 l8 l10 l12 r6 0)
      else
        (fX8_weighBySizes_151 (fX8_weighBySizes_44 n) σ l1 l2 l3 l5 l6 l7 l8 l10 l12)
theorem bX8_weighBySizes_44 {X : Xc} {K : Kc} (C : MC X K cX8_weighBySizes 16 RX8 rmX8_weighBySizes) (hr : K.meth.sig.returnType = none) : ∀ (n : Nat) (σ : Sg) (l1 : Int32) (l2 : Int32) (l3 : Int32) (l5 : Int32) (l6 : Int32) (l7 : Int32) (l8 : Int64) (l10 : Int64) (l12 : Int32), GO X K 16 (fun r => MQv X K r) (fX8_weighBySizes_44 n σ l1 l2 l3 l5 l6 l7 l8 l10 l12) σ 0 0 44 [some (.ref (X.ad 0)), some (.int (l1)), some (.int (l2)), some (.int (l3)), some (.ref (X.ad (1 + 5))), some (.int (l5)), some (.int (l6)), some (.int (l7)), some (.long (l8)), none, some (.long (l10)), none, some (.int (l12)), none, none, none] [] := by
  intro n
  induction n with
  | zero =>
    intro σ l1 l2 l3 l5 l6 l7 l8 l10 l12
    exact g_none
  | succ n ih =>
    intro σ l1 l2 l3 l5 l6 l7 l8 l10 l12
    unfold fX8_weighBySizes_44
    refine g_iload (pc := 44) C dX8_weighBySizes_44 rfl ?_
    refine g_iload (pc := 46) C dX8_weighBySizes_46 rfl ?_
    refine g_icmp_ge (pc := 48) (tgt := 157) C dX8_weighBySizes_48 rfl ?_ ?_
    · refine g_iconst (pc := 157) (v := 0) C dX8_weighBySizes_157 (by decide) ?_
      refine g_istore (pc := 158) C dX8_weighBySizes_158 (Nat.le_of_ble_eq_true rfl) rfl ?_
      refine g_keep [true, false, false, false, true, true, false, true, true, false, true, false, true, false, false, false] ?_
      exact bX8_weighBySizes_160 C hr FU σ l5 l7 l8 l10 0
    · refine g_aload (pc := 51) C dX8_weighBySizes_51 rfl ?_
      refine g_iload (pc := 53) C dX8_weighBySizes_53 rfl ?_
      refine g_iload (pc := 55) C dX8_weighBySizes_55 rfl ?_
      refine g_callVi (pc := 57) (As := [.int (l5), .int (l12)]) C (kX1_childAt X σ (1 + 5) l5 l12 (st_pl ok_now)) (blk (st_pl ok_now) 0 rfl) rfl q_40_22 q_14_13 q_14_14 q_2_23 q_14_15 ⟨rfl, hdX1_childAt⟩ ⟨Nat.le_of_ble_eq_true rfl, Nat.le_of_ble_eq_true rfl, rfl, rfl⟩ ⟨Nat.zero_le _, Nat.zero_le _⟩ (Nat.le_of_ble_eq_true rfl) rfl rfl dX8_weighBySizes_57 (fun r6 _ => ?_)
      refine g_istore (pc := 60) C dX8_weighBySizes_60 (Nat.le_of_ble_eq_true rfl) rfl ?_
      refine g_aload_n (pc := 62) (i := 0) C dX8_weighBySizes_62 rfl rfl ?_
      refine g_getr (pc := 63) (ci := 8) (N := 8) (T := TX8) (j := 4) (Cn := RX8) 422 C rfl inlX8 (Nat.le_of_ble_eq_true rfl) q_1_21 ok_dl rfl dX8_weighBySizes_63 ?_
      refine g_iload (pc := 66) C dX8_weighBySizes_66 rfl ?_
      refine g_callVi (pc := 68) (As := [.int (r6)]) C (kX2_isShown X σ 422 r6 ok_pn) (blk ok_pn 0 rfl) rfl q_26_0 q_16_23 q_17_0 q_1_20 q_17_1 ⟨rfl, hdX2_isShown⟩ ⟨Nat.le_of_ble_eq_true rfl, Nat.le_of_ble_eq_true rfl, rfl, rfl⟩ ⟨Nat.zero_le _, Nat.zero_le _⟩ (Nat.le_of_ble_eq_true rfl) rfl rfl dX8_weighBySizes_68 (fun r7 _ => ?_)
      refine g_ifb_eq (pc := 71) (tgt := 151) C dX8_weighBySizes_71 rfl ?_ ?_
      · refine g_iload (pc := 74) C dX8_weighBySizes_74 rfl ?_
        refine g_iload_n (pc := 76) (i := 1) C dX8_weighBySizes_76 rfl rfl ?_
        refine g_icmp_ne (pc := 77) (tgt := 84) C dX8_weighBySizes_77 rfl ?_ ?_
        · refine g_iload_n (pc := 80) (i := 3) C dX8_weighBySizes_80 rfl rfl ?_
          refine g_goto (pc := 81) (tgt := 96) C dX8_weighBySizes_81 rfl ?_
          refine g_keep [true, true, true, true, true, true, true, true, true, false, true, false, true, true, false, false] ?_
          exact bX8_weighBySizes_96 C hr ih σ l1 l2 l3 l5 l6 l7 l8 l10 l12 r6 l3
        · refine g_iload (pc := 84) C dX8_weighBySizes_84 rfl ?_
          refine g_iload_n (pc := 86) (i := 2) C dX8_weighBySizes_86 rfl rfl ?_
          refine g_icmp_ne (pc := 87) (tgt := 95) C dX8_weighBySizes_87 rfl ?_ ?_
          · refine g_iload_n (pc := 90) (i := 3) C dX8_weighBySizes_90 rfl rfl ?_
            refine g_ineg (pc := 91) C dX8_weighBySizes_91 ?_
            refine g_goto (pc := 92) (tgt := 96) C dX8_weighBySizes_92 rfl ?_
            refine g_keep [true, true, true, true, true, true, true, true, true, false, true, false, true, true, false, false] ?_
            exact bX8_weighBySizes_96 C hr ih σ l1 l2 l3 l5 l6 l7 l8 l10 l12 r6 (-l3)
          · refine g_iconst (pc := 95) (v := 0) C dX8_weighBySizes_95 (by decide) ?_
            refine g_keep [true, true, true, true, true, true, true, true, true, false, true, false, true, true, false, false] ?_
            exact bX8_weighBySizes_96 C hr ih σ l1 l2 l3 l5 l6 l7 l8 l10 l12 r6 0
      · refine g_keep [true, true, true, true, true, true, true, true, true, false, true, false, true, false, false, false] ?_
        exact bX8_weighBySizes_151 C hr ih σ l1 l2 l3 l5 l6 l7 l8 l10 l12
def fX8_weighBySizes (σ : Sg) (p1 : Int32) (p2 : Int32) (p3 : Int32) : Option Sg :=
  (fX1_parentOf σ (1 + 5) p1).bind fun r1 =>
  (fX1_kindOf σ (1 + 5) r1).bind fun r2 =>
  (fX1_childCount σ (1 + 5) r1).bind fun r3 =>
  nm ((0 : Int64)) fun v4 =>
  nm ((0 : Int64)) fun v5 =>
  (fX8_weighBySizes_44 FU σ p1 p2 p3 r1 r2 r3 v4 v5 0)
theorem kX8_weighBySizes (X : Xc) (σ : Sg) (p1 : Int32) (p2 : Int32) (p3 : Int32) : ∀ r, fX8_weighBySizes σ p1 p2 p3 = some r → Met X.l yX8_weighBySizes (wsM yX8_weighBySizes cX8_weighBySizes 16 none) rmX8_weighBySizes (va_Pc [.ref (X.ad 0), .int p1, .int p2, .int p3] (PW X σ)) (Qv X r) 0 0 X.A := by
  refine mt_of (own := RX8) (lo := [some (.ref (X.ad 0)), some (.int (p1)), some (.int (p2)), some (.int (p3)), none, none, none, none, none, none, none, none, none, none, none, none]) (by decide) rfl (Nat.le_of_ble_eq_true rfl) rfl (fun K C hr => ?_)
  unfold fX8_weighBySizes
  refine g_aload_n (pc := 0) (i := 0) C dX8_weighBySizes_0 rfl rfl ?_
  refine g_getr (pc := 1) (ci := 8) (N := 8) (T := TX8) (j := 0) (Cn := RX8) 1 C rfl inlX8 (Nat.le_of_ble_eq_true rfl) q_1_16 ok_dl rfl dX8_weighBySizes_1 ?_
  refine g_getNr (pc := 4) (ci := 4) (N := 7) (T := TX4) (j := 4) (Cn := RX4) (1 + 5) C rfl inlX4 (Nat.le_of_ble_eq_true rfl) (List.mem_of_getElem? (i := 10) rfl) (blk ok_now 0 rfl) rfl dX8_weighBySizes_4 ?_
  refine g_astore (pc := 7) C dX8_weighBySizes_7 (Nat.le_of_ble_eq_true rfl) rfl ?_
  refine g_aload (pc := 9) C dX8_weighBySizes_9 rfl ?_
  refine g_iload_n (pc := 11) (i := 1) C dX8_weighBySizes_11 rfl rfl ?_
  refine g_callVi (pc := 12) (As := [.int (p1)]) C (kX1_parentOf X σ (1 + 5) p1 (st_pl ok_now)) (blk (st_pl ok_now) 0 rfl) rfl q_25_3 q_25_4 q_25_5 q_2_23 q_25_6 ⟨rfl, hdX1_parentOf⟩ ⟨Nat.le_of_ble_eq_true rfl, Nat.le_of_ble_eq_true rfl, rfl, rfl⟩ ⟨Nat.zero_le _, Nat.zero_le _⟩ (Nat.le_of_ble_eq_true rfl) rfl rfl dX8_weighBySizes_12 (fun r1 _ => ?_)
  refine g_istore (pc := 15) C dX8_weighBySizes_15 (Nat.le_of_ble_eq_true rfl) rfl ?_
  refine g_aload (pc := 17) C dX8_weighBySizes_17 rfl ?_
  refine g_iload (pc := 19) C dX8_weighBySizes_19 rfl ?_
  refine g_callVi (pc := 21) (As := [.int (r1)]) C (kX1_kindOf X σ (1 + 5) r1 (st_pl ok_now)) (blk (st_pl ok_now) 0 rfl) rfl q_25_8 q_16_2 q_16_3 q_2_23 q_16_4 ⟨rfl, hdX1_kindOf⟩ ⟨Nat.le_of_ble_eq_true rfl, Nat.le_of_ble_eq_true rfl, rfl, rfl⟩ ⟨Nat.zero_le _, Nat.zero_le _⟩ (Nat.le_of_ble_eq_true rfl) rfl rfl dX8_weighBySizes_21 (fun r2 _ => ?_)
  refine g_istore (pc := 24) C dX8_weighBySizes_24 (Nat.le_of_ble_eq_true rfl) rfl ?_
  refine g_aload (pc := 26) C dX8_weighBySizes_26 rfl ?_
  refine g_iload (pc := 28) C dX8_weighBySizes_28 rfl ?_
  refine g_callVi (pc := 30) (As := [.int (r1)]) C (kX1_childCount X σ (1 + 5) r1 (st_pl ok_now)) (blk (st_pl ok_now) 0 rfl) rfl q_41_16 q_14_9 q_14_10 q_2_23 q_14_11 ⟨rfl, hdX1_childCount⟩ ⟨Nat.le_of_ble_eq_true rfl, Nat.le_of_ble_eq_true rfl, rfl, rfl⟩ ⟨Nat.zero_le _, Nat.zero_le _⟩ (Nat.le_of_ble_eq_true rfl) rfl rfl dX8_weighBySizes_30 (fun r3 _ => ?_)
  refine g_istore (pc := 33) C dX8_weighBySizes_33 (Nat.le_of_ble_eq_true rfl) rfl ?_
  refine g_lconst (pc := 35) (v := 0) C dX8_weighBySizes_35 (by decide) ?_
  refine g_nml (fun v4 => ?_)
  refine g_lstore (pc := 36) C dX8_weighBySizes_36 (Nat.le_of_ble_eq_true rfl) rfl ?_
  refine g_lconst (pc := 38) (v := 0) C dX8_weighBySizes_38 (by decide) ?_
  refine g_nml (fun v5 => ?_)
  refine g_lstore (pc := 39) C dX8_weighBySizes_39 (Nat.le_of_ble_eq_true rfl) rfl ?_
  refine g_iconst (pc := 41) (v := 0) C dX8_weighBySizes_41 (by decide) ?_
  refine g_istore (pc := 42) C dX8_weighBySizes_42 (Nat.le_of_ble_eq_true rfl) rfl ?_
  refine g_keep [true, true, true, true, true, true, true, true, true, false, true, false, true, false, false, false] ?_
  exact bX8_weighBySizes_44 C hr FU σ p1 p2 p3 r1 r2 r3 v4 v5 0
theorem dX8_drag_0 : decode cX8_drag 0 = .ok (.aload_n 0, 1) := by decide +kernel
theorem dX8_drag_1 : decode cX8_drag 1 = .ok (.iload_n 1, 1) := by decide +kernel
theorem dX8_drag_2 : decode cX8_drag 2 = .ok (.invokevirtual 74, 3) := by decide +kernel
theorem dX8_drag_5 : decode cX8_drag 5 = .ok (.iload_n 2, 1) := by decide +kernel
theorem dX8_drag_6 : decode cX8_drag 6 = .ok (.iconst 0, 1) := by decide +kernel
theorem dX8_drag_7 : decode cX8_drag 7 = .ok (.iconst 3, 1) := by decide +kernel
theorem dX8_drag_8 : decode cX8_drag 8 = .ok (.invokestatic 123, 3) := by decide +kernel
theorem dX8_drag_11 : decode cX8_drag 11 = .ok (.iload_n 3, 1) := by decide +kernel
theorem dX8_drag_12 : decode cX8_drag 12 = .ok (.sipush (-400), 3) := by decide +kernel
theorem dX8_drag_15 : decode cX8_drag 15 = .ok (.sipush 400, 3) := by decide +kernel
theorem dX8_drag_18 : decode cX8_drag 18 = .ok (.invokestatic 123, 3) := by decide +kernel
theorem dX8_drag_21 : decode cX8_drag 21 = .ok (.aload_n 0, 1) := by decide +kernel
theorem dX8_drag_22 : decode cX8_drag 22 = .ok (.getfield 10, 3) := by decide +kernel
theorem dX8_drag_25 : decode cX8_drag 25 = .ok (.getfield 77, 3) := by decide +kernel
theorem dX8_drag_28 : decode cX8_drag 28 = .ok (.iload_n 1, 1) := by decide +kernel
theorem dX8_drag_29 : decode cX8_drag 29 = .ok (.invokevirtual 126, 3) := by decide +kernel
theorem dX8_drag_32 : decode cX8_drag 32 = .ok (.istore 4, 2) := by decide +kernel
theorem dX8_drag_34 : decode cX8_drag 34 = .ok (.aload_n 0, 1) := by decide +kernel
theorem dX8_drag_35 : decode cX8_drag 35 = .ok (.getfield 23, 3) := by decide +kernel
theorem dX8_drag_38 : decode cX8_drag 38 = .ok (.iload 4, 2) := by decide +kernel
theorem dX8_drag_40 : decode cX8_drag 40 = .ok (.invokevirtual 154, 3) := by decide +kernel
theorem dX8_drag_43 : decode cX8_drag 43 = .ok (.ifCond .eq 13, 3) := by decide +kernel
theorem dX8_drag_46 : decode cX8_drag 46 = .ok (.aload_n 0, 1) := by decide +kernel
theorem dX8_drag_47 : decode cX8_drag 47 = .ok (.iload 4, 2) := by decide +kernel
theorem dX8_drag_49 : decode cX8_drag 49 = .ok (.iload_n 2, 1) := by decide +kernel
theorem dX8_drag_50 : decode cX8_drag 50 = .ok (.invokevirtual 262, 3) := by decide +kernel
theorem dX8_drag_53 : decode cX8_drag 53 = .ok (.goto 4, 3) := by decide +kernel
theorem dX8_drag_56 : decode cX8_drag 56 = .ok (.iconst (-1), 1) := by decide +kernel
theorem dX8_drag_57 : decode cX8_drag 57 = .ok (.istore 5, 2) := by decide +kernel
theorem dX8_drag_59 : decode cX8_drag 59 = .ok (.iload 5, 2) := by decide +kernel
theorem dX8_drag_61 : decode cX8_drag 61 = .ok (.iconst (-1), 1) := by decide +kernel
theorem dX8_drag_62 : decode cX8_drag 62 = .ok (.if_icmp .ne 14, 3) := by decide +kernel
theorem dX8_drag_65 : decode cX8_drag 65 = .ok (.new 56, 3) := by decide +kernel
theorem dX8_drag_68 : decode cX8_drag 68 = .ok (.dup, 1) := by decide +kernel
theorem dX8_drag_69 : decode cX8_drag 69 = .ok (.ldc_w 265, 3) := by decide +kernel
theorem dX8_drag_72 : decode cX8_drag 72 = .ok (.invokespecial 60, 3) := by decide +kernel
theorem dX8_drag_75 : decode cX8_drag 75 = .ok (.athrow, 1) := by decide +kernel
theorem dX8_drag_76 : decode cX8_drag 76 = .ok (.aload_n 0, 1) := by decide +kernel
theorem dX8_drag_77 : decode cX8_drag 77 = .ok (.invokevirtual 63, 3) := by decide +kernel
theorem dX8_drag_80 : decode cX8_drag 80 = .ok (.aload_n 0, 1) := by decide +kernel
theorem dX8_drag_81 : decode cX8_drag 81 = .ok (.iload 5, 2) := by decide +kernel
theorem dX8_drag_83 : decode cX8_drag 83 = .ok (.iload_n 2, 1) := by decide +kernel
theorem dX8_drag_84 : decode cX8_drag 84 = .ok (.invokevirtual 267, 3) := by decide +kernel
theorem dX8_drag_87 : decode cX8_drag 87 = .ok (.istore 6, 2) := by decide +kernel
theorem dX8_drag_89 : decode cX8_drag 89 = .ok (.iload_n 2, 1) := by decide +kernel
theorem dX8_drag_90 : decode cX8_drag 90 = .ok (.iconst 1, 1) := by decide +kernel
theorem dX8_drag_91 : decode cX8_drag 91 = .ok (.if_icmp .eq 8, 3) := by decide +kernel
theorem dX8_drag_94 : decode cX8_drag 94 = .ok (.iload_n 2, 1) := by decide +kernel
theorem dX8_drag_95 : decode cX8_drag 95 = .ok (.iconst 3, 1) := by decide +kernel
theorem dX8_drag_96 : decode cX8_drag 96 = .ok (.if_icmp .ne 7, 3) := by decide +kernel
theorem dX8_drag_99 : decode cX8_drag 99 = .ok (.iconst 1, 1) := by decide +kernel
theorem dX8_drag_100 : decode cX8_drag 100 = .ok (.goto 4, 3) := by decide +kernel
theorem dX8_drag_103 : decode cX8_drag 103 = .ok (.iconst 0, 1) := by decide +kernel
theorem dX8_drag_104 : decode cX8_drag 104 = .ok (.istore 7, 2) := by decide +kernel
theorem dX8_drag_106 : decode cX8_drag 106 = .ok (.iload 7, 2) := by decide +kernel
theorem dX8_drag_108 : decode cX8_drag 108 = .ok (.ifCond .eq 8, 3) := by decide +kernel
theorem dX8_drag_111 : decode cX8_drag 111 = .ok (.iload 5, 2) := by decide +kernel
theorem dX8_drag_113 : decode cX8_drag 113 = .ok (.goto 5, 3) := by decide +kernel
theorem dX8_drag_116 : decode cX8_drag 116 = .ok (.iload 6, 2) := by decide +kernel
theorem dX8_drag_118 : decode cX8_drag 118 = .ok (.istore 8, 2) := by decide +kernel
theorem dX8_drag_120 : decode cX8_drag 120 = .ok (.iload 7, 2) := by decide +kernel
theorem dX8_drag_122 : decode cX8_drag 122 = .ok (.ifCond .eq 8, 3) := by decide +kernel
theorem dX8_drag_125 : decode cX8_drag 125 = .ok (.iload 6, 2) := by decide +kernel
theorem dX8_drag_127 : decode cX8_drag 127 = .ok (.goto 5, 3) := by decide +kernel
theorem dX8_drag_130 : decode cX8_drag 130 = .ok (.iload 5, 2) := by decide +kernel
theorem dX8_drag_132 : decode cX8_drag 132 = .ok (.istore 9, 2) := by decide +kernel
theorem dX8_drag_134 : decode cX8_drag 134 = .ok (.aload_n 0, 1) := by decide +kernel
theorem dX8_drag_135 : decode cX8_drag 135 = .ok (.getfield 23, 3) := by decide +kernel
theorem dX8_drag_138 : decode cX8_drag 138 = .ok (.iload 8, 2) := by decide +kernel
theorem dX8_drag_140 : decode cX8_drag 140 = .ok (.iload 9, 2) := by decide +kernel
theorem dX8_drag_142 : decode cX8_drag 142 = .ok (.iload_n 2, 1) := by decide +kernel
theorem dX8_drag_143 : decode cX8_drag 143 = .ok (.invokestatic 270, 3) := by decide +kernel
theorem dX8_drag_146 : decode cX8_drag 146 = .ok (.iload_n 3, 1) := by decide +kernel
theorem dX8_drag_147 : decode cX8_drag 147 = .ok (.invokevirtual 273, 3) := by decide +kernel
theorem dX8_drag_150 : decode cX8_drag 150 = .ok (.istore 10, 2) := by decide +kernel
theorem dX8_drag_152 : decode cX8_drag 152 = .ok (.aload_n 0, 1) := by decide +kernel
theorem dX8_drag_153 : decode cX8_drag 153 = .ok (.iload 8, 2) := by decide +kernel
theorem dX8_drag_155 : decode cX8_drag 155 = .ok (.iload 9, 2) := by decide +kernel
theorem dX8_drag_157 : decode cX8_drag 157 = .ok (.iload 10, 2) := by decide +kernel
theorem dX8_drag_159 : decode cX8_drag 159 = .ok (.invokevirtual 277, 3) := by decide +kernel
theorem dX8_drag_162 : decode cX8_drag 162 = .ok (.aload_n 0, 1) := by decide +kernel
theorem dX8_drag_163 : decode cX8_drag 163 = .ok (.getfield 23, 3) := by decide +kernel
theorem dX8_drag_166 : decode cX8_drag 166 = .ok (.aload_n 0, 1) := by decide +kernel
theorem dX8_drag_167 : decode cX8_drag 167 = .ok (.getfield 10, 3) := by decide +kernel
theorem dX8_drag_170 : decode cX8_drag 170 = .ok (.invokevirtual 98, 3) := by decide +kernel
theorem dX8_drag_173 : decode cX8_drag 173 = .ok (.iload 10, 2) := by decide +kernel
theorem dX8_drag_175 : decode cX8_drag 175 = .ok (.ireturn, 1) := by decide +kernel
abbrev rmX8_drag : Room := { frames := 8, cells := 4, slots := 24, locals := 213 }
theorem hdX8_drag : yX8_drag.cls ≠ "java/lang/invoke/MethodHandle" ∧ yX8_drag.cls ≠ "java/lang/invoke/VarHandle" ∧ (parseMethodDescriptor yX8_drag.desc).map (fun d => d.parameters.length) = some 3 := by decide +kernel
def fX8_drag_132 (σ : Sg) (l2 : Int32) (l3 : Int32) (l8 : Int32) (s0 : Int32) : Option ((Int32 ⊕ Nat) × Sg) :=
  (fX8_directionOf σ l2).bind fun r15 =>
  (fX2_dividerStep σ 422 l8 s0 r15 l3).bind fun r16 =>
  (fX8_weighBySizes σ l8 s0 r16).bind fun σ17 =>
  (fX2_compute σ17 422 1).bind fun σ18 =>
  some (.inl r16, σ18)
theorem bX8_drag_132 {X : Xc} {K : Kc} (C : MC X K cX8_drag 11 RX8 rmX8_drag) (hr : K.meth.sig.returnType = (some .int)) (hex : K.c.exceptionTable.toList = []) (hfl : X.l.stackTraces = false) (σ : Sg) (l2 : Int32) (l3 : Int32) (l8 : Int32) (s0 : Int32) : GO X K 11 (fun r => XM X K 4 24 (CXi X r.1 r.2) (CXx X r.1 r.2)) (fX8_drag_132 σ l2 l3 l8 s0) σ 3 18 132 [some (.ref (X.ad 0)), none, some (.int (l2)), some (.int (l3)), none, none, none, none, some (.int (l8)), none, none] [.int (s0)] := by
  unfold fX8_drag_132
  refine g_istore (pc := 132) C dX8_drag_132 (Nat.le_of_ble_eq_true rfl) rfl ?_
  refine g_aload_n (pc := 134) (i := 0) C dX8_drag_134 rfl rfl ?_
  refine g_getr (pc := 135) (ci := 8) (N := 8) (T := TX8) (j := 4) (Cn := RX8) 422 C rfl inlX8 (Nat.le_of_ble_eq_true rfl) q_1_21 ok_dl rfl dX8_drag_135 ?_
  refine g_iload (pc := 138) C dX8_drag_138 rfl ?_
  refine g_iload (pc := 140) C dX8_drag_140 rfl ?_
  refine g_iload_n (pc := 142) (i := 2) C dX8_drag_142 rfl rfl ?_
  refine g_callSi (pc := 143) (As := [.int (l2)]) C (kX8_directionOf X σ l2) q_40_17 q_33_23 q_1_2 q_34_0 hdX8_directionOf ⟨Nat.le_of_ble_eq_true rfl, Nat.le_of_ble_eq_true rfl, rfl, rfl⟩ ⟨Nat.le_of_ble_eq_true rfl, Nat.le_of_ble_eq_true rfl⟩ (Nat.le_of_ble_eq_true rfl) rfl rfl dX8_drag_143 (fun r15 _ => ?_)
  refine g_iload_n (pc := 146) (i := 3) C dX8_drag_146 rfl rfl ?_
  refine g_callVi (pc := 147) (As := [.int (l8), .int (s0), .int (r15), .int (l3)]) C (kX2_dividerStep X σ 422 l8 s0 r15 l3 ok_pn) (blk ok_pn 0 rfl) rfl q_40_23 q_41_0 q_41_1 q_1_20 q_41_2 ⟨rfl, hdX2_dividerStep⟩ ⟨Nat.le_of_ble_eq_true rfl, Nat.le_of_ble_eq_true rfl, rfl, rfl⟩ ⟨Nat.le_of_ble_eq_true rfl, Nat.le_of_ble_eq_true rfl⟩ (Nat.le_of_ble_eq_true rfl) rfl rfl dX8_drag_147 (fun r16 _ => ?_)
  refine g_istore (pc := 150) C dX8_drag_150 (Nat.le_of_ble_eq_true rfl) rfl ?_
  refine g_aload_n (pc := 152) (i := 0) C dX8_drag_152 rfl rfl ?_
  refine g_iload (pc := 153) C dX8_drag_153 rfl ?_
  refine g_iload (pc := 155) C dX8_drag_155 rfl ?_
  refine g_iload (pc := 157) C dX8_drag_157 rfl ?_
  refine g_callVv (pc := 159) (As := [.int (l8), .int (s0), .int (r16)]) C (kX8_weighBySizes X σ l8 s0 r16) ok_dl rfl q_41_4 q_41_5 q_41_6 q_1_2 q_41_7 ⟨rfl, hdX8_weighBySizes⟩ ⟨Nat.le_of_ble_eq_true rfl, Nat.le_of_ble_eq_true rfl, rfl, rfl⟩ ⟨Nat.le_of_ble_eq_true rfl, Nat.le_of_ble_eq_true rfl⟩ (Nat.le_of_ble_eq_true rfl) rfl rfl dX8_drag_159 (fun σ17 _ => ?_)
  refine g_aload_n (pc := 162) (i := 0) C dX8_drag_162 rfl rfl ?_
  refine g_getr (pc := 163) (ci := 8) (N := 8) (T := TX8) (j := 4) (Cn := RX8) 422 C rfl inlX8 (Nat.le_of_ble_eq_true rfl) q_1_21 ok_dl rfl dX8_drag_163 ?_
  refine g_aload_n (pc := 166) (i := 0) C dX8_drag_166 rfl rfl ?_
  refine g_getr (pc := 167) (ci := 8) (N := 8) (T := TX8) (j := 0) (Cn := RX8) 1 C rfl inlX8 (Nat.le_of_ble_eq_true rfl) q_1_16 ok_dl rfl dX8_drag_167 ?_
  refine g_callVv (pc := 170) (As := [.ref (X.ad 1)]) C (kX2_compute X σ17 422 1 ok_pn ok_now) (blk ok_pn 0 rfl) rfl q_15_1 q_15_2 q_15_3 q_1_20 q_15_4 ⟨rfl, hdX2_compute⟩ ⟨Nat.le_of_ble_eq_true rfl, Nat.le_of_ble_eq_true rfl, rfl, rfl⟩ ⟨Nat.le_of_ble_eq_true rfl, Nat.le_of_ble_eq_true rfl⟩ (Nat.le_of_ble_eq_true rfl) rfl rfl dX8_drag_170 (fun σ18 _ => ?_)
  refine g_iload (pc := 173) C dX8_drag_173 rfl ?_
  exact g_xiret (pc := 175) C hr dX8_drag_175 (Nat.le_of_ble_eq_true rfl) (Nat.le_of_ble_eq_true rfl) (fun t hP hF => ⟨⟨_, (), rfl, rfl, hP⟩, hF⟩)
def fX8_drag_118 (σ : Sg) (l2 : Int32) (l3 : Int32) (l5 : Int32) (l6 : Int32) (l7 : Int32) (s0 : Int32) : Option ((Int32 ⊕ Nat) × Sg) :=
  if l7 = 0 then
    (fX8_drag_132 σ l2 l3 s0 l5)
  else
    (fX8_drag_132 σ l2 l3 s0 l6)
theorem bX8_drag_118 {X : Xc} {K : Kc} (C : MC X K cX8_drag 11 RX8 rmX8_drag) (hr : K.meth.sig.returnType = (some .int)) (hex : K.c.exceptionTable.toList = []) (hfl : X.l.stackTraces = false) (σ : Sg) (l2 : Int32) (l3 : Int32) (l5 : Int32) (l6 : Int32) (l7 : Int32) (s0 : Int32) : GO X K 11 (fun r => XM X K 4 24 (CXi X r.1 r.2) (CXx X r.1 r.2)) (fX8_drag_118 σ l2 l3 l5 l6 l7 s0) σ 3 18 118 [some (.ref (X.ad 0)), none, some (.int (l2)), some (.int (l3)), none, some (.int (l5)), some (.int (l6)), some (.int (l7)), none, none, none] [.int (s0)] := by
  unfold fX8_drag_118
  refine g_istore (pc := 118) C dX8_drag_118 (Nat.le_of_ble_eq_true rfl) rfl ?_
  refine g_iload (pc := 120) C dX8_drag_120 rfl ?_
  refine g_if_eq (pc := 122) (tgt := 130) C dX8_drag_122 rfl ?_ ?_
  · refine g_iload (pc := 130) C dX8_drag_130 rfl ?_
    refine g_keep [true, false, true, true, false, false, false, false, true, false, false] ?_
    refine g_widen (cs' := 3) (ss' := 18) (Nat.le_of_ble_eq_true rfl) (Nat.le_of_ble_eq_true rfl) ?_
    exact bX8_drag_132 C hr hex hfl σ l2 l3 s0 l5
  · refine g_iload (pc := 125) C dX8_drag_125 rfl ?_
    refine g_goto (pc := 127) (tgt := 132) C dX8_drag_127 rfl ?_
    refine g_keep [true, false, true, true, false, false, false, false, true, false, false] ?_
    refine g_widen (cs' := 3) (ss' := 18) (Nat.le_of_ble_eq_true rfl) (Nat.le_of_ble_eq_true rfl) ?_
    exact bX8_drag_132 C hr hex hfl σ l2 l3 s0 l6
def fX8_drag_104 (σ : Sg) (l2 : Int32) (l3 : Int32) (l5 : Int32) (l6 : Int32) (s0 : Int32) : Option ((Int32 ⊕ Nat) × Sg) :=
  if s0 = 0 then
    (fX8_drag_118 σ l2 l3 l5 l6 s0 l6)
  else
    (fX8_drag_118 σ l2 l3 l5 l6 s0 l5)
theorem bX8_drag_104 {X : Xc} {K : Kc} (C : MC X K cX8_drag 11 RX8 rmX8_drag) (hr : K.meth.sig.returnType = (some .int)) (hex : K.c.exceptionTable.toList = []) (hfl : X.l.stackTraces = false) (σ : Sg) (l2 : Int32) (l3 : Int32) (l5 : Int32) (l6 : Int32) (s0 : Int32) : GO X K 11 (fun r => XM X K 4 24 (CXi X r.1 r.2) (CXx X r.1 r.2)) (fX8_drag_104 σ l2 l3 l5 l6 s0) σ 3 18 104 [some (.ref (X.ad 0)), none, some (.int (l2)), some (.int (l3)), none, some (.int (l5)), some (.int (l6)), none, none, none, none] [.int (s0)] := by
  unfold fX8_drag_104
  refine g_istore (pc := 104) C dX8_drag_104 (Nat.le_of_ble_eq_true rfl) rfl ?_
  refine g_iload (pc := 106) C dX8_drag_106 rfl ?_
  refine g_if_eq (pc := 108) (tgt := 116) C dX8_drag_108 rfl ?_ ?_
  · refine g_iload (pc := 116) C dX8_drag_116 rfl ?_
    refine g_keep [true, false, true, true, false, true, true, true, false, false, false] ?_
    refine g_widen (cs' := 3) (ss' := 18) (Nat.le_of_ble_eq_true rfl) (Nat.le_of_ble_eq_true rfl) ?_
    exact bX8_drag_118 C hr hex hfl σ l2 l3 l5 l6 s0 l6
  · refine g_iload (pc := 111) C dX8_drag_111 rfl ?_
    refine g_goto (pc := 113) (tgt := 118) C dX8_drag_113 rfl ?_
    refine g_keep [true, false, true, true, false, true, true, true, false, false, false] ?_
    refine g_widen (cs' := 3) (ss' := 18) (Nat.le_of_ble_eq_true rfl) (Nat.le_of_ble_eq_true rfl) ?_
    exact bX8_drag_118 C hr hex hfl σ l2 l3 l5 l6 s0 l5
def fX8_drag_99 (σ : Sg) (l2 : Int32) (l3 : Int32) (l5 : Int32) (l6 : Int32) : Option ((Int32 ⊕ Nat) × Sg) :=
  (fX8_drag_104 σ l2 l3 l5 l6 1)
theorem bX8_drag_99 {X : Xc} {K : Kc} (C : MC X K cX8_drag 11 RX8 rmX8_drag) (hr : K.meth.sig.returnType = (some .int)) (hex : K.c.exceptionTable.toList = []) (hfl : X.l.stackTraces = false) (σ : Sg) (l2 : Int32) (l3 : Int32) (l5 : Int32) (l6 : Int32) : GO X K 11 (fun r => XM X K 4 24 (CXi X r.1 r.2) (CXx X r.1 r.2)) (fX8_drag_99 σ l2 l3 l5 l6) σ 3 18 99 [some (.ref (X.ad 0)), none, some (.int (l2)), some (.int (l3)), none, some (.int (l5)), some (.int (l6)), none, none, none, none] [] := by
  unfold fX8_drag_99
  refine g_iconst (pc := 99) (v := 1) C dX8_drag_99 (by decide) ?_
  refine g_goto (pc := 100) (tgt := 104) C dX8_drag_100 rfl ?_
  refine g_keep [true, false, true, true, false, true, true, false, false, false, false] ?_
  refine g_widen (cs' := 3) (ss' := 18) (Nat.le_of_ble_eq_true rfl) (Nat.le_of_ble_eq_true rfl) ?_
  exact bX8_drag_104 C hr hex hfl σ l2 l3 l5 l6 1
def fX8_drag_57 (σ : Sg) (l2 : Int32) (l3 : Int32) (s0 : Int32) : Option ((Int32 ⊕ Nat) × Sg) :=
  if s0 = (-1) then
    some (.inr 2, σ)
  else
    (fX8_keepRecord σ).bind fun σ13 =>
    (fX8_shownNeighbour σ13 s0 l2).bind fun r14 =>
    if l2 = 1 then
      (fX8_drag_99 σ13 l2 l3 s0 r14)
    else
      if l2 = 3 then
        (fX8_drag_99 σ13 l2 l3 s0 r14)
      else
        (fX8_drag_104 σ13 l2 l3 s0 r14 0)
theorem bX8_drag_57 {X : Xc} {K : Kc} (C : MC X K cX8_drag 11 RX8 rmX8_drag) (hr : K.meth.sig.returnType = (some .int)) (hex : K.c.exceptionTable.toList = []) (hfl : X.l.stackTraces = false) (σ : Sg) (l2 : Int32) (l3 : Int32) (s0 : Int32) : GO X K 11 (fun r => XM X K 4 24 (CXi X r.1 r.2) (CXx X r.1 r.2)) (fX8_drag_57 σ l2 l3 s0) σ 3 18 57 [some (.ref (X.ad 0)), none, some (.int (l2)), some (.int (l3)), none, none, none, none, none, none, none] [.int (s0)] := by
  unfold fX8_drag_57
  refine g_istore (pc := 57) C dX8_drag_57 (Nat.le_of_ble_eq_true rfl) rfl ?_
  refine g_iload (pc := 59) C dX8_drag_59 rfl ?_
  refine g_iconst (pc := 61) (v := (-1)) C dX8_drag_61 (by decide) ?_
  refine g_icmp_ne (pc := 62) (tgt := 76) C dX8_drag_62 rfl ?_ ?_
  · exact g_throwW (pc := 65) (e := 2) (cls := "java/lang/IllegalStateException") (text := "the pane is in no group that is shown, or there is no such divider") (ik := 56) (is := 265) (ic := 60) C hex hfl rfl (by decide +kernel) q_7_2 q_7_3 (List.mem_of_getElem? (i := 5) rfl) (xat_2 C.ts C.k) xgood_2 dX8_drag_65 dX8_drag_68 dX8_drag_69 dX8_drag_72 dX8_drag_75 (Nat.le_of_ble_eq_true rfl) (Nat.le_of_ble_eq_true rfl) (Nat.le_of_ble_eq_true rfl) (Nat.le_of_ble_eq_true rfl) (Nat.le_of_ble_eq_true rfl) (Nat.le_of_ble_eq_true rfl) (fun t hP hF => ⟨(), trivial, ⟨⟨_, rfl, rfl⟩, hP⟩, hF⟩)
  · refine g_aload_n (pc := 76) (i := 0) C dX8_drag_76 rfl rfl ?_
    refine g_callVv (pc := 77) (As := []) C (kX8_keepRecord X σ) ok_dl rfl q_7_21 q_7_22 q_7_23 q_1_2 q_8_0 ⟨rfl, hdX8_keepRecord⟩ ⟨Nat.le_of_ble_eq_true rfl, Nat.le_of_ble_eq_true rfl, rfl, rfl⟩ ⟨Nat.le_of_ble_eq_true rfl, Nat.le_of_ble_eq_true rfl⟩ (Nat.le_of_ble_eq_true rfl) rfl rfl dX8_drag_77 (fun σ13 _ => ?_)
    refine g_aload_n (pc := 80) (i := 0) C dX8_drag_80 rfl rfl ?_
    refine g_iload (pc := 81) C dX8_drag_81 rfl ?_
    refine g_iload_n (pc := 83) (i := 2) C dX8_drag_83 rfl rfl ?_
    refine g_callVi (pc := 84) (As := [.int (s0), .int (l2)]) C (kX8_shownNeighbour X σ13 s0 l2) ok_dl rfl q_40_13 q_40_14 q_40_15 q_1_2 q_40_16 ⟨rfl, hdX8_shownNeighbour⟩ ⟨Nat.le_of_ble_eq_true rfl, Nat.le_of_ble_eq_true rfl, rfl, rfl⟩ ⟨Nat.le_of_ble_eq_true rfl, Nat.le_of_ble_eq_true rfl⟩ (Nat.le_of_ble_eq_true rfl) rfl rfl dX8_drag_84 (fun r14 _ => ?_)
    refine g_istore (pc := 87) C dX8_drag_87 (Nat.le_of_ble_eq_true rfl) rfl ?_
    refine g_iload_n (pc := 89) (i := 2) C dX8_drag_89 rfl rfl ?_
    refine g_iconst (pc := 90) (v := 1) C dX8_drag_90 (by decide) ?_
    refine g_icmp_eq (pc := 91) (tgt := 99) C dX8_drag_91 rfl ?_ ?_
    · refine g_keep [true, false, true, true, false, true, true, false, false, false, false] ?_
      refine g_widen (cs' := 3) (ss' := 18) (Nat.le_of_ble_eq_true rfl) (Nat.le_of_ble_eq_true rfl) ?_
      exact bX8_drag_99 C hr hex hfl σ13 l2 l3 s0 r14
    · refine g_iload_n (pc := 94) (i := 2) C dX8_drag_94 rfl rfl ?_
      refine g_iconst (pc := 95) (v := 3) C dX8_drag_95 (by decide) ?_
      refine g_icmp_ne (pc := 96) (tgt := 103) C dX8_drag_96 rfl ?_ ?_
      · refine g_keep [true, false, true, true, false, true, true, false, false, false, false] ?_
        refine g_widen (cs' := 3) (ss' := 18) (Nat.le_of_ble_eq_true rfl) (Nat.le_of_ble_eq_true rfl) ?_
        exact bX8_drag_99 C hr hex hfl σ13 l2 l3 s0 r14
      · refine g_iconst (pc := 103) (v := 0) C dX8_drag_103 (by decide) ?_
        refine g_keep [true, false, true, true, false, true, true, false, false, false, false] ?_
        refine g_widen (cs' := 3) (ss' := 18) (Nat.le_of_ble_eq_true rfl) (Nat.le_of_ble_eq_true rfl) ?_
        exact bX8_drag_104 C hr hex hfl σ13 l2 l3 s0 r14 0
def fX8_drag (σ : Sg) (p1 : Int32) (p2 : Int32) (p3 : Int32) : Option ((Int32 ⊕ Nat) × Sg) :=
  (fX8_requirePane σ p1).bind fun r1 => xcat r1 (fun e3 => some (.inr e3, σ)) fun w2 =>
  (fX8_requireRange σ p2 0 3).bind fun r4 => xcat r4 (fun e6 => some (.inr e6, σ)) fun w5 =>
  (fX8_requireRange σ p3 (-400) 400).bind fun r7 => xcat r7 (fun e9 => some (.inr e9, σ)) fun w8 =>
  (fX1_groupOf σ (1 + 5) p1).bind fun r10 =>
  (fX2_isShown σ 422 r10).bind fun r11 =>
  if r11 = true then
    (fX8_nodeAtDivider σ r10 p2).bind fun r12 =>
    (fX8_drag_57 σ p2 p3 r12)
  else
    (fX8_drag_57 σ p2 p3 (-1))
theorem kX8_drag (X : Xc) (σ : Sg) (p1 : Int32) (p2 : Int32) (p3 : Int32) (hfl : X.l.stackTraces = false) : ∀ r, fX8_drag σ p1 p2 p3 = some r → vx_Met X.l yX8_drag (wsM yX8_drag cX8_drag 11 (some .int)) rmX8_drag (va_Pc [.ref (X.ad 0), .int p1, .int p2, .int p3] (PW X σ)) (CXi X r.1 r.2) (CXx X r.1 r.2) 4 24 X.A := by
  refine xt_of (own := RX8) (lo := [some (.ref (X.ad 0)), some (.int (p1)), some (.int (p2)), some (.int (p3)), none, none, none, none, none, none, none]) (by decide) rfl (Nat.le_of_ble_eq_true rfl) rfl (fun K C hr hex => ?_)
  unfold fX8_drag
  refine g_aload_n (pc := 0) (i := 0) C dX8_drag_0 rfl rfl ?_
  refine g_iload_n (pc := 1) (i := 1) C dX8_drag_1 rfl rfl ?_
  refine g_xcallVv (pc := 2) (As := [.int (p1)]) C (kX8_requirePane X σ p1 hfl) ok_dl rfl q_11_7 q_11_8 q_11_9 q_1_2 q_11_10 ⟨rfl, hdX8_requirePane⟩ ⟨Nat.le_of_ble_eq_true rfl, Nat.le_of_ble_eq_true rfl, rfl, rfl, Nat.le_of_ble_eq_true rfl, Nat.le_of_ble_eq_true rfl⟩ (Nat.le_of_ble_eq_true rfl) rfl rfl dX8_drag_2 (fun r1 e3 _ _ => ?_) (fun r1 w2 _ _ => ?_)
  · exact gx_out C hex (Nat.le_of_ble_eq_true rfl) (Nat.le_of_ble_eq_true rfl) (fun t hP hF => ⟨(), trivial, ⟨⟨_, rfl, rfl⟩, hP⟩, hF⟩)
  refine g_iload_n (pc := 5) (i := 2) C dX8_drag_5 rfl rfl ?_
  refine g_iconst (pc := 6) (v := 0) C dX8_drag_6 (by decide) ?_
  refine g_iconst (pc := 7) (v := 3) C dX8_drag_7 (by decide) ?_
  refine g_xcallSv (pc := 8) (As := [.int (p2), .int (0), .int (3)]) C (kX8_requireRange X σ p2 0 3 hfl) q_7_7 q_7_8 q_1_2 q_7_9 hdX8_requireRange ⟨Nat.le_of_ble_eq_true rfl, Nat.le_of_ble_eq_true rfl, rfl, rfl, Nat.le_of_ble_eq_true rfl, Nat.le_of_ble_eq_true rfl⟩ (Nat.le_of_ble_eq_true rfl) rfl rfl dX8_drag_8 (fun r4 e6 _ _ => ?_) (fun r4 w5 _ _ => ?_)
  · exact gx_out C hex (Nat.le_of_ble_eq_true rfl) (Nat.le_of_ble_eq_true rfl) (fun t hP hF => ⟨(), trivial, ⟨⟨_, rfl, rfl⟩, hP⟩, hF⟩)
  refine g_iload_n (pc := 11) (i := 3) C dX8_drag_11 rfl rfl ?_
  refine g_sipush (pc := 12) (v := (-400)) C dX8_drag_12 (by decide) ?_
  refine g_sipush (pc := 15) (v := 400) C dX8_drag_15 (by decide) ?_
  refine g_xcallSv (pc := 18) (As := [.int (p3), .int ((-400)), .int (400)]) C (kX8_requireRange X σ p3 (-400) 400 hfl) q_7_7 q_7_8 q_1_2 q_7_9 hdX8_requireRange ⟨Nat.le_of_ble_eq_true rfl, Nat.le_of_ble_eq_true rfl, rfl, rfl, Nat.le_of_ble_eq_true rfl, Nat.le_of_ble_eq_true rfl⟩ (Nat.le_of_ble_eq_true rfl) rfl rfl dX8_drag_18 (fun r7 e9 _ _ => ?_) (fun r7 w8 _ _ => ?_)
  · exact gx_out C hex (Nat.le_of_ble_eq_true rfl) (Nat.le_of_ble_eq_true rfl) (fun t hP hF => ⟨(), trivial, ⟨⟨_, rfl, rfl⟩, hP⟩, hF⟩)
  refine g_aload_n (pc := 21) (i := 0) C dX8_drag_21 rfl rfl ?_
  refine g_getr (pc := 22) (ci := 8) (N := 8) (T := TX8) (j := 0) (Cn := RX8) 1 C rfl inlX8 (Nat.le_of_ble_eq_true rfl) q_1_16 ok_dl rfl dX8_drag_22 ?_
  refine g_getNr (pc := 25) (ci := 4) (N := 7) (T := TX4) (j := 4) (Cn := RX4) (1 + 5) C rfl inlX4 (Nat.le_of_ble_eq_true rfl) (List.mem_of_getElem? (i := 10) rfl) (blk ok_now 0 rfl) rfl dX8_drag_25 ?_
  refine g_iload_n (pc := 28) (i := 1) C dX8_drag_28 rfl rfl ?_
  refine g_callVi (pc := 29) (As := [.int (p1)]) C (kX1_groupOf X σ (1 + 5) p1 (st_pl ok_now)) (blk (st_pl ok_now) 0 rfl) rfl q_24_18 q_11_19 q_11_20 q_2_23 q_11_21 ⟨rfl, hdX1_groupOf⟩ ⟨Nat.le_of_ble_eq_true rfl, Nat.le_of_ble_eq_true rfl, rfl, rfl⟩ ⟨Nat.le_of_ble_eq_true rfl, Nat.le_of_ble_eq_true rfl⟩ (Nat.le_of_ble_eq_true rfl) rfl rfl dX8_drag_29 (fun r10 _ => ?_)
  refine g_istore (pc := 32) C dX8_drag_32 (Nat.le_of_ble_eq_true rfl) rfl ?_
  refine g_aload_n (pc := 34) (i := 0) C dX8_drag_34 rfl rfl ?_
  refine g_getr (pc := 35) (ci := 8) (N := 8) (T := TX8) (j := 4) (Cn := RX8) 422 C rfl inlX8 (Nat.le_of_ble_eq_true rfl) q_1_21 ok_dl rfl dX8_drag_35 ?_
  refine g_iload (pc := 38) C dX8_drag_38 rfl ?_
  refine g_callVi (pc := 40) (As := [.int (r10)]) C (kX2_isShown X σ 422 r10 ok_pn) (blk ok_pn 0 rfl) rfl q_26_0 q_16_23 q_17_0 q_1_20 q_17_1 ⟨rfl, hdX2_isShown⟩ ⟨Nat.le_of_ble_eq_true rfl, Nat.le_of_ble_eq_true rfl, rfl, rfl⟩ ⟨Nat.le_of_ble_eq_true rfl, Nat.le_of_ble_eq_true rfl⟩ (Nat.le_of_ble_eq_true rfl) rfl rfl dX8_drag_40 (fun r11 _ => ?_)
  refine g_ifb_eq (pc := 43) (tgt := 56) C dX8_drag_43 rfl ?_ ?_
  · refine g_aload_n (pc := 46) (i := 0) C dX8_drag_46 rfl rfl ?_
    refine g_iload (pc := 47) C dX8_drag_47 rfl ?_
    refine g_iload_n (pc := 49) (i := 2) C dX8_drag_49 rfl rfl ?_
    refine g_callVi (pc := 50) (As := [.int (r10), .int (p2)]) C (kX8_nodeAtDivider X σ r10 p2) ok_dl rfl q_40_9 q_40_10 q_40_11 q_1_2 q_40_12 ⟨rfl, hdX8_nodeAtDivider⟩ ⟨Nat.le_of_ble_eq_true rfl, Nat.le_of_ble_eq_true rfl, rfl, rfl⟩ ⟨Nat.le_of_ble_eq_true rfl, Nat.le_of_ble_eq_true rfl⟩ (Nat.le_of_ble_eq_true rfl) rfl rfl dX8_drag_50 (fun r12 _ => ?_)
    refine g_goto (pc := 53) (tgt := 57) C dX8_drag_53 rfl ?_
    refine g_keep [true, false, true, true, false, false, false, false, false, false, false] ?_
    refine g_widen (cs' := 3) (ss' := 18) (Nat.le_of_ble_eq_true rfl) (Nat.le_of_ble_eq_true rfl) ?_
    exact bX8_drag_57 C hr hex hfl σ p2 p3 r12
  · refine g_iconst (pc := 56) (v := (-1)) C dX8_drag_56 (by decide) ?_
    refine g_keep [true, false, true, true, false, false, false, false, false, false, false] ?_
    refine g_widen (cs' := 3) (ss' := 18) (Nat.le_of_ble_eq_true rfl) (Nat.le_of_ble_eq_true rfl) ?_
    exact bX8_drag_57 C hr hex hfl σ p2 p3 (-1)
theorem dX8_even_0 : decode cX8_even 0 = .ok (.aload_n 0, 1) := by decide +kernel
theorem dX8_even_1 : decode cX8_even 1 = .ok (.iload_n 1, 1) := by decide +kernel
theorem dX8_even_2 : decode cX8_even 2 = .ok (.invokevirtual 74, 3) := by decide +kernel
theorem dX8_even_5 : decode cX8_even 5 = .ok (.aload_n 0, 1) := by decide +kernel
theorem dX8_even_6 : decode cX8_even 6 = .ok (.getfield 10, 3) := by decide +kernel
theorem dX8_even_9 : decode cX8_even 9 = .ok (.getfield 77, 3) := by decide +kernel
theorem dX8_even_12 : decode cX8_even 12 = .ok (.astore_n 2, 1) := by decide +kernel
theorem dX8_even_13 : decode cX8_even 13 = .ok (.aload_n 2, 1) := by decide +kernel
theorem dX8_even_14 : decode cX8_even 14 = .ok (.aload_n 2, 1) := by decide +kernel
theorem dX8_even_15 : decode cX8_even 15 = .ok (.iload_n 1, 1) := by decide +kernel
theorem dX8_even_16 : decode cX8_even 16 = .ok (.invokevirtual 126, 3) := by decide +kernel
theorem dX8_even_19 : decode cX8_even 19 = .ok (.invokevirtual 145, 3) := by decide +kernel
theorem dX8_even_22 : decode cX8_even 22 = .ok (.istore_n 3, 1) := by decide +kernel
theorem dX8_even_23 : decode cX8_even 23 = .ok (.iload_n 3, 1) := by decide +kernel
theorem dX8_even_24 : decode cX8_even 24 = .ok (.iconst (-1), 1) := by decide +kernel
theorem dX8_even_25 : decode cX8_even 25 = .ok (.if_icmp .ne 14, 3) := by decide +kernel
theorem dX8_even_28 : decode cX8_even 28 = .ok (.new 56, 3) := by decide +kernel
theorem dX8_even_31 : decode cX8_even 31 = .ok (.dup, 1) := by decide +kernel
theorem dX8_even_32 : decode cX8_even 32 = .ok (.ldc_w 280, 3) := by decide +kernel
theorem dX8_even_35 : decode cX8_even 35 = .ok (.invokespecial 60, 3) := by decide +kernel
theorem dX8_even_38 : decode cX8_even 38 = .ok (.athrow, 1) := by decide +kernel
theorem dX8_even_39 : decode cX8_even 39 = .ok (.aload_n 0, 1) := by decide +kernel
theorem dX8_even_40 : decode cX8_even 40 = .ok (.invokevirtual 63, 3) := by decide +kernel
theorem dX8_even_43 : decode cX8_even 43 = .ok (.aload_n 2, 1) := by decide +kernel
theorem dX8_even_44 : decode cX8_even 44 = .ok (.iload_n 3, 1) := by decide +kernel
theorem dX8_even_45 : decode cX8_even 45 = .ok (.invokevirtual 282, 3) := by decide +kernel
theorem dX8_even_48 : decode cX8_even 48 = .ok (.istore 4, 2) := by decide +kernel
theorem dX8_even_50 : decode cX8_even 50 = .ok (.iconst 0, 1) := by decide +kernel
theorem dX8_even_51 : decode cX8_even 51 = .ok (.istore 5, 2) := by decide +kernel
theorem dX8_even_53 : decode cX8_even 53 = .ok (.iload 5, 2) := by decide +kernel
theorem dX8_even_55 : decode cX8_even 55 = .ok (.iload 4, 2) := by decide +kernel
theorem dX8_even_57 : decode cX8_even 57 = .ok (.if_icmp .ge 23, 3) := by decide +kernel
theorem dX8_even_60 : decode cX8_even 60 = .ok (.aload_n 2, 1) := by decide +kernel
theorem dX8_even_61 : decode cX8_even 61 = .ok (.aload_n 2, 1) := by decide +kernel
theorem dX8_even_62 : decode cX8_even 62 = .ok (.iload_n 3, 1) := by decide +kernel
theorem dX8_even_63 : decode cX8_even 63 = .ok (.iload 5, 2) := by decide +kernel
theorem dX8_even_65 : decode cX8_even 65 = .ok (.invokevirtual 285, 3) := by decide +kernel
theorem dX8_even_68 : decode cX8_even 68 = .ok (.sipush 1000, 3) := by decide +kernel
theorem dX8_even_71 : decode cX8_even 71 = .ok (.invokevirtual 288, 3) := by decide +kernel
theorem dX8_even_74 : decode cX8_even 74 = .ok (.iinc 5 1, 3) := by decide +kernel
theorem dX8_even_77 : decode cX8_even 77 = .ok (.goto (-24), 3) := by decide +kernel
theorem dX8_even_80 : decode cX8_even 80 = .ok (.aload_n 0, 1) := by decide +kernel
theorem dX8_even_81 : decode cX8_even 81 = .ok (.getfield 23, 3) := by decide +kernel
theorem dX8_even_84 : decode cX8_even 84 = .ok (.aload_n 0, 1) := by decide +kernel
theorem dX8_even_85 : decode cX8_even 85 = .ok (.getfield 10, 3) := by decide +kernel
theorem dX8_even_88 : decode cX8_even 88 = .ok (.invokevirtual 98, 3) := by decide +kernel
theorem dX8_even_91 : decode cX8_even 91 = .ok (.iload 4, 2) := by decide +kernel
theorem dX8_even_93 : decode cX8_even 93 = .ok (.ireturn, 1) := by decide +kernel
abbrev rmX8_even : Room := { frames := 8, cells := 2, slots := 12, locals := 213 }
theorem hdX8_even : yX8_even.cls ≠ "java/lang/invoke/MethodHandle" ∧ yX8_even.cls ≠ "java/lang/invoke/VarHandle" ∧ (parseMethodDescriptor yX8_even.desc).map (fun d => d.parameters.length) = some 1 := by decide +kernel
def fX8_even_53 : Nat → Sg → Int32 → Int32 → Int32 → Option ((Int32 ⊕ Nat) × Sg)
  | 0, _, _, _, _ => none
  | n + 1, σ, l3, l4, l5 =>
    if l4 ≤ l5 then
      (fX2_compute σ 422 1).bind fun σ8 =>
      some (.inl l4, σ8)
    else
      (fX1_childAt σ (1 + 5) l3 l5).bind fun r9 =>
      (fX1_setWeight σ (1 + 5) r9 1000).bind fun σ10 =>
      ((fX8_even_53 n) σ10 l3 l4 (l5 + 1))
theorem bX8_even_53 {X : Xc} {K : Kc} (C : MC X K cX8_even 6 RX8 rmX8_even) (hr : K.meth.sig.returnType = (some .int)) (hex : K.c.exceptionTable.toList = []) (hfl : X.l.stackTraces = false) : ∀ (n : Nat) (σ : Sg) (l3 : Int32) (l4 : Int32) (l5 : Int32), GO X K 6 (fun r => XM X K 2 12 (CXi X r.1 r.2) (CXx X r.1 r.2)) (fX8_even_53 n σ l3 l4 l5) σ 1 6 53 [some (.ref (X.ad 0)), none, some (.ref (X.ad (1 + 5))), some (.int (l3)), some (.int (l4)), some (.int (l5))] [] := by
  intro n
  induction n with
  | zero =>
    intro σ l3 l4 l5
    exact g_none
  | succ n ih =>
    intro σ l3 l4 l5
    unfold fX8_even_53
    refine g_iload (pc := 53) C dX8_even_53 rfl ?_
    refine g_iload (pc := 55) C dX8_even_55 rfl ?_
    refine g_icmp_ge (pc := 57) (tgt := 80) C dX8_even_57 rfl ?_ ?_
    · refine g_aload_n (pc := 80) (i := 0) C dX8_even_80 rfl rfl ?_
      refine g_getr (pc := 81) (ci := 8) (N := 8) (T := TX8) (j := 4) (Cn := RX8) 422 C rfl inlX8 (Nat.le_of_ble_eq_true rfl) q_1_21 ok_dl rfl dX8_even_81 ?_
      refine g_aload_n (pc := 84) (i := 0) C dX8_even_84 rfl rfl ?_
      refine g_getr (pc := 85) (ci := 8) (N := 8) (T := TX8) (j := 0) (Cn := RX8) 1 C rfl inlX8 (Nat.le_of_ble_eq_true rfl) q_1_16 ok_dl rfl dX8_even_85 ?_
      refine g_callVv (pc := 88) (As := [.ref (X.ad 1)]) C (kX2_compute X σ 422 1 ok_pn ok_now) (blk ok_pn 0 rfl) rfl q_15_1 q_15_2 q_15_3 q_1_20 q_15_4 ⟨rfl, hdX2_compute⟩ ⟨Nat.le_of_ble_eq_true rfl, Nat.le_of_ble_eq_true rfl, rfl, rfl⟩ ⟨Nat.le_of_ble_eq_true rfl, Nat.le_of_ble_eq_true rfl⟩ (Nat.le_of_ble_eq_true rfl) rfl rfl dX8_even_88 (fun σ8 _ => ?_)
      refine g_iload (pc := 91) C dX8_even_91 rfl ?_
      exact g_xiret (pc := 93) C hr dX8_even_93 (Nat.le_of_ble_eq_true rfl) (Nat.le_of_ble_eq_true rfl) (fun t hP hF => ⟨⟨_, (), rfl, rfl, hP⟩, hF⟩)
    · refine g_aload_n (pc := 60) (i := 2) C dX8_even_60 rfl rfl ?_
      refine g_aload_n (pc := 61) (i := 2) C dX8_even_61 rfl rfl ?_
      refine g_iload_n (pc := 62) (i := 3) C dX8_even_62 rfl rfl ?_
      refine g_iload (pc := 63) C dX8_even_63 rfl ?_
      refine g_callVi (pc := 65) (As := [.int (l3), .int (l5)]) C (kX1_childAt X σ (1 + 5) l3 l5 (st_pl ok_now)) (blk (st_pl ok_now) 0 rfl) rfl q_40_22 q_14_13 q_14_14 q_2_23 q_14_15 ⟨rfl, hdX1_childAt⟩ ⟨Nat.le_of_ble_eq_true rfl, Nat.le_of_ble_eq_true rfl, rfl, rfl⟩ ⟨Nat.le_of_ble_eq_true rfl, Nat.le_of_ble_eq_true rfl⟩ (Nat.le_of_ble_eq_true rfl) rfl rfl dX8_even_65 (fun r9 _ => ?_)
      refine g_sipush (pc := 68) (v := 1000) C dX8_even_68 (by decide) ?_
      refine g_callVv (pc := 71) (As := [.int (r9), .int (1000)]) C (kX1_setWeight X σ (1 + 5) r9 1000 (st_pl ok_now)) (blk (st_pl ok_now) 0 rfl) rfl q_41_18 q_41_19 q_41_20 q_2_23 q_41_21 ⟨rfl, hdX1_setWeight⟩ ⟨Nat.le_of_ble_eq_true rfl, Nat.le_of_ble_eq_true rfl, rfl, rfl⟩ ⟨Nat.le_of_ble_eq_true rfl, Nat.le_of_ble_eq_true rfl⟩ (Nat.le_of_ble_eq_true rfl) rfl rfl dX8_even_71 (fun σ10 _ => ?_)
      refine g_iinc (pc := 74) (v := l5 + 1) C dX8_even_74 rfl (rfl) (Nat.le_of_ble_eq_true rfl) rfl ?_
      refine g_goto (pc := 77) (tgt := 53) C dX8_even_77 rfl ?_
      refine g_keep [true, false, true, true, true, true] ?_
      refine g_widen (cs' := 1) (ss' := 6) (Nat.le_of_ble_eq_true rfl) (Nat.le_of_ble_eq_true rfl) ?_
      exact ih σ10 l3 l4 (l5 + 1)
def fX8_even (σ : Sg) (p1 : Int32) : Option ((Int32 ⊕ Nat) × Sg) :=
  (fX8_requirePane σ p1).bind fun r1 => xcat r1 (fun e3 => some (.inr e3, σ)) fun w2 =>
  (fX1_groupOf σ (1 + 5) p1).bind fun r4 =>
  (fX1_parentOf σ (1 + 5) r4).bind fun r5 =>
  if r5 = (-1) then
    some (.inr 2, σ)
  else
    (fX8_keepRecord σ).bind fun σ6 =>
    (fX1_childCount σ6 (1 + 5) r5).bind fun r7 =>
    (fX8_even_53 FU σ6 r5 r7 0)
theorem kX8_even (X : Xc) (σ : Sg) (p1 : Int32) (hfl : X.l.stackTraces = false) : ∀ r, fX8_even σ p1 = some r → vx_Met X.l yX8_even (wsM yX8_even cX8_even 6 (some .int)) rmX8_even (va_Pc [.ref (X.ad 0), .int p1] (PW X σ)) (CXi X r.1 r.2) (CXx X r.1 r.2) 2 12 X.A := by
  refine xt_of (own := RX8) (lo := [some (.ref (X.ad 0)), some (.int (p1)), none, none, none, none]) (by decide) rfl (Nat.le_of_ble_eq_true rfl) rfl (fun K C hr hex => ?_)
  unfold fX8_even
  refine g_aload_n (pc := 0) (i := 0) C dX8_even_0 rfl rfl ?_
  refine g_iload_n (pc := 1) (i := 1) C dX8_even_1 rfl rfl ?_
  refine g_xcallVv (pc := 2) (As := [.int (p1)]) C (kX8_requirePane X σ p1 hfl) ok_dl rfl q_11_7 q_11_8 q_11_9 q_1_2 q_11_10 ⟨rfl, hdX8_requirePane⟩ ⟨Nat.le_of_ble_eq_true rfl, Nat.le_of_ble_eq_true rfl, rfl, rfl, Nat.le_of_ble_eq_true rfl, Nat.le_of_ble_eq_true rfl⟩ (Nat.le_of_ble_eq_true rfl) rfl rfl dX8_even_2 (fun r1 e3 _ _ => ?_) (fun r1 w2 _ _ => ?_)
  · exact gx_out C hex (Nat.le_of_ble_eq_true rfl) (Nat.le_of_ble_eq_true rfl) (fun t hP hF => ⟨(), trivial, ⟨⟨_, rfl, rfl⟩, hP⟩, hF⟩)
  refine g_aload_n (pc := 5) (i := 0) C dX8_even_5 rfl rfl ?_
  refine g_getr (pc := 6) (ci := 8) (N := 8) (T := TX8) (j := 0) (Cn := RX8) 1 C rfl inlX8 (Nat.le_of_ble_eq_true rfl) q_1_16 ok_dl rfl dX8_even_6 ?_
  refine g_getNr (pc := 9) (ci := 4) (N := 7) (T := TX4) (j := 4) (Cn := RX4) (1 + 5) C rfl inlX4 (Nat.le_of_ble_eq_true rfl) (List.mem_of_getElem? (i := 10) rfl) (blk ok_now 0 rfl) rfl dX8_even_9 ?_
  refine g_astore_n (pc := 12) (i := 2) C dX8_even_12 rfl (Nat.le_of_ble_eq_true rfl) rfl ?_
  refine g_aload_n (pc := 13) (i := 2) C dX8_even_13 rfl rfl ?_
  refine g_aload_n (pc := 14) (i := 2) C dX8_even_14 rfl rfl ?_
  refine g_iload_n (pc := 15) (i := 1) C dX8_even_15 rfl rfl ?_
  refine g_callVi (pc := 16) (As := [.int (p1)]) C (kX1_groupOf X σ (1 + 5) p1 (st_pl ok_now)) (blk (st_pl ok_now) 0 rfl) rfl q_24_18 q_11_19 q_11_20 q_2_23 q_11_21 ⟨rfl, hdX1_groupOf⟩ ⟨Nat.le_of_ble_eq_true rfl, Nat.le_of_ble_eq_true rfl, rfl, rfl⟩ ⟨Nat.le_of_ble_eq_true rfl, Nat.le_of_ble_eq_true rfl⟩ (Nat.le_of_ble_eq_true rfl) rfl rfl dX8_even_16 (fun r4 _ => ?_)
  refine g_callVi (pc := 19) (As := [.int (r4)]) C (kX1_parentOf X σ (1 + 5) r4 (st_pl ok_now)) (blk (st_pl ok_now) 0 rfl) rfl q_25_3 q_25_4 q_25_5 q_2_23 q_25_6 ⟨rfl, hdX1_parentOf⟩ ⟨Nat.le_of_ble_eq_true rfl, Nat.le_of_ble_eq_true rfl, rfl, rfl⟩ ⟨Nat.le_of_ble_eq_true rfl, Nat.le_of_ble_eq_true rfl⟩ (Nat.le_of_ble_eq_true rfl) rfl rfl dX8_even_19 (fun r5 _ => ?_)
  refine g_istore_n (pc := 22) (i := 3) C dX8_even_22 rfl (Nat.le_of_ble_eq_true rfl) rfl ?_
  refine g_iload_n (pc := 23) (i := 3) C dX8_even_23 rfl rfl ?_
  refine g_iconst (pc := 24) (v := (-1)) C dX8_even_24 (by decide) ?_
  refine g_icmp_ne (pc := 25) (tgt := 39) C dX8_even_25 rfl ?_ ?_
  · exact g_throwW (pc := 28) (e := 2) (cls := "java/lang/IllegalStateException") (text := "the pane is not placed, or its group is the root") (ik := 56) (is := 280) (ic := 60) C hex hfl rfl (by decide +kernel) q_7_2 q_7_3 (List.mem_of_getElem? (i := 6) rfl) (xat_2 C.ts C.k) xgood_2 dX8_even_28 dX8_even_31 dX8_even_32 dX8_even_35 dX8_even_38 (Nat.le_of_ble_eq_true rfl) (Nat.le_of_ble_eq_true rfl) (Nat.le_of_ble_eq_true rfl) (Nat.le_of_ble_eq_true rfl) (Nat.le_of_ble_eq_true rfl) (Nat.le_of_ble_eq_true rfl) (fun t hP hF => ⟨(), trivial, ⟨⟨_, rfl, rfl⟩, hP⟩, hF⟩)
  · refine g_aload_n (pc := 39) (i := 0) C dX8_even_39 rfl rfl ?_
    refine g_callVv (pc := 40) (As := []) C (kX8_keepRecord X σ) ok_dl rfl q_7_21 q_7_22 q_7_23 q_1_2 q_8_0 ⟨rfl, hdX8_keepRecord⟩ ⟨Nat.le_of_ble_eq_true rfl, Nat.le_of_ble_eq_true rfl, rfl, rfl⟩ ⟨Nat.le_of_ble_eq_true rfl, Nat.le_of_ble_eq_true rfl⟩ (Nat.le_of_ble_eq_true rfl) rfl rfl dX8_even_40 (fun σ6 _ => ?_)
    refine g_aload_n (pc := 43) (i := 2) C dX8_even_43 rfl rfl ?_
    refine g_iload_n (pc := 44) (i := 3) C dX8_even_44 rfl rfl ?_
    refine g_callVi (pc := 45) (As := [.int (r5)]) C (kX1_childCount X σ6 (1 + 5) r5 (st_pl ok_now)) (blk (st_pl ok_now) 0 rfl) rfl q_41_16 q_14_9 q_14_10 q_2_23 q_14_11 ⟨rfl, hdX1_childCount⟩ ⟨Nat.le_of_ble_eq_true rfl, Nat.le_of_ble_eq_true rfl, rfl, rfl⟩ ⟨Nat.le_of_ble_eq_true rfl, Nat.le_of_ble_eq_true rfl⟩ (Nat.le_of_ble_eq_true rfl) rfl rfl dX8_even_45 (fun r7 _ => ?_)
    refine g_istore (pc := 48) C dX8_even_48 (Nat.le_of_ble_eq_true rfl) rfl ?_
    refine g_iconst (pc := 50) (v := 0) C dX8_even_50 (by decide) ?_
    refine g_istore (pc := 51) C dX8_even_51 (Nat.le_of_ble_eq_true rfl) rfl ?_
    refine g_keep [true, false, true, true, true, true] ?_
    refine g_widen (cs' := 1) (ss' := 6) (Nat.le_of_ble_eq_true rfl) (Nat.le_of_ble_eq_true rfl) ?_
    exact bX8_even_53 C hr hex hfl FU σ6 r5 r7 0
theorem dX8_focus_0 : decode cX8_focus 0 = .ok (.aload_n 0, 1) := by decide +kernel
theorem dX8_focus_1 : decode cX8_focus 1 = .ok (.getfield 10, 3) := by decide +kernel
theorem dX8_focus_4 : decode cX8_focus 4 = .ok (.getfield 86, 3) := by decide +kernel
theorem dX8_focus_7 : decode cX8_focus 7 = .ok (.iload_n 1, 1) := by decide +kernel
theorem dX8_focus_8 : decode cX8_focus 8 = .ok (.invokevirtual 215, 3) := by decide +kernel
theorem dX8_focus_11 : decode cX8_focus 11 = .ok (.ireturn, 1) := by decide +kernel
abbrev rmX8_focus : Room := { frames := 2, cells := 0, slots := 0, locals := 42 }
theorem hdX8_focus : yX8_focus.cls ≠ "java/lang/invoke/MethodHandle" ∧ yX8_focus.cls ≠ "java/lang/invoke/VarHandle" ∧ (parseMethodDescriptor yX8_focus.desc).map (fun d => d.parameters.length) = some 1 := by decide +kernel
def fX8_focus (σ : Sg) (p1 : Int32) : Option Int32 :=
  (fX0_item σ (1 + 3) p1).bind fun r1 =>
  some r1
theorem kX8_focus (X : Xc) (σ : Sg) (p1 : Int32) : ∀ r, fX8_focus σ p1 = some r → Met X.l yX8_focus (wsM yX8_focus cX8_focus 2 (some .int)) rmX8_focus (va_Pc [.ref (X.ad 0), .int p1] (PW X σ)) (Qi X r σ) 0 0 X.A := by
  refine mt_of (own := RX8) (lo := [some (.ref (X.ad 0)), some (.int (p1))]) (by decide) rfl (Nat.le_of_ble_eq_true rfl) rfl (fun K C hr => ?_)
  unfold fX8_focus
  refine g_aload_n (pc := 0) (i := 0) C dX8_focus_0 rfl rfl ?_
  refine g_getr (pc := 1) (ci := 8) (N := 8) (T := TX8) (j := 0) (Cn := RX8) 1 C rfl inlX8 (Nat.le_of_ble_eq_true rfl) q_1_16 ok_dl rfl dX8_focus_1 ?_
  refine g_getNr (pc := 4) (ci := 4) (N := 7) (T := TX4) (j := 3) (Cn := RX4) (1 + 3) C rfl inlX4 (Nat.le_of_ble_eq_true rfl) (List.mem_of_getElem? (i := 11) rfl) (blk ok_now 0 rfl) rfl dX8_focus_4 ?_
  refine g_iload_n (pc := 7) (i := 1) C dX8_focus_7 rfl rfl ?_
  refine g_callVi (pc := 8) (As := [.int (p1)]) C (kX0_item X σ (1 + 3) p1 (st_or ok_now)) (blk (st_or ok_now) 0 rfl) rfl q_32_23 q_33_0 q_33_1 q_2_19 q_33_2 ⟨rfl, hdX0_item⟩ ⟨Nat.le_of_ble_eq_true rfl, Nat.le_of_ble_eq_true rfl, rfl, rfl⟩ ⟨Nat.zero_le _, Nat.zero_le _⟩ (Nat.le_of_ble_eq_true rfl) rfl rfl dX8_focus_8 (fun r1 _ => ?_)
  exact g_iret (pc := 11) C hr dX8_focus_11 rfl
theorem dX8_frontWindowAt_0 : decode cX8_frontWindowAt 0 = .ok (.aload_n 0, 1) := by decide +kernel
theorem dX8_frontWindowAt_1 : decode cX8_frontWindowAt 1 = .ok (.getfield 10, 3) := by decide +kernel
theorem dX8_frontWindowAt_4 : decode cX8_frontWindowAt 4 = .ok (.getfield 77, 3) := by decide +kernel
theorem dX8_frontWindowAt_7 : decode cX8_frontWindowAt 7 = .ok (.getfield 191, 3) := by decide +kernel
theorem dX8_frontWindowAt_10 : decode cX8_frontWindowAt 10 = .ok (.astore_n 3, 1) := by decide +kernel
theorem dX8_frontWindowAt_11 : decode cX8_frontWindowAt 11 = .ok (.aload_n 3, 1) := by decide +kernel
theorem dX8_frontWindowAt_12 : decode cX8_frontWindowAt 12 = .ok (.invokevirtual 240, 3) := by decide +kernel
theorem dX8_frontWindowAt_15 : decode cX8_frontWindowAt 15 = .ok (.iconst 1, 1) := by decide +kernel
theorem dX8_frontWindowAt_16 : decode cX8_frontWindowAt 16 = .ok (.isub, 1) := by decide +kernel
theorem dX8_frontWindowAt_17 : decode cX8_frontWindowAt 17 = .ok (.istore 4, 2) := by decide +kernel
theorem dX8_frontWindowAt_19 : decode cX8_frontWindowAt 19 = .ok (.iload 4, 2) := by decide +kernel
theorem dX8_frontWindowAt_21 : decode cX8_frontWindowAt 21 = .ok (.ifCond .lt 37, 3) := by decide +kernel
theorem dX8_frontWindowAt_24 : decode cX8_frontWindowAt 24 = .ok (.aload_n 0, 1) := by decide +kernel
theorem dX8_frontWindowAt_25 : decode cX8_frontWindowAt 25 = .ok (.getfield 10, 3) := by decide +kernel
theorem dX8_frontWindowAt_28 : decode cX8_frontWindowAt 28 = .ok (.getfield 77, 3) := by decide +kernel
theorem dX8_frontWindowAt_31 : decode cX8_frontWindowAt 31 = .ok (.aload_n 3, 1) := by decide +kernel
theorem dX8_frontWindowAt_32 : decode cX8_frontWindowAt 32 = .ok (.iload 4, 2) := by decide +kernel
theorem dX8_frontWindowAt_34 : decode cX8_frontWindowAt 34 = .ok (.invokevirtual 215, 3) := by decide +kernel
theorem dX8_frontWindowAt_37 : decode cX8_frontWindowAt 37 = .ok (.iload_n 1, 1) := by decide +kernel
theorem dX8_frontWindowAt_38 : decode cX8_frontWindowAt 38 = .ok (.iload_n 2, 1) := by decide +kernel
theorem dX8_frontWindowAt_39 : decode cX8_frontWindowAt 39 = .ok (.invokevirtual 438, 3) := by decide +kernel
theorem dX8_frontWindowAt_42 : decode cX8_frontWindowAt 42 = .ok (.ifCond .eq 10, 3) := by decide +kernel
theorem dX8_frontWindowAt_45 : decode cX8_frontWindowAt 45 = .ok (.aload_n 3, 1) := by decide +kernel
theorem dX8_frontWindowAt_46 : decode cX8_frontWindowAt 46 = .ok (.iload 4, 2) := by decide +kernel
theorem dX8_frontWindowAt_48 : decode cX8_frontWindowAt 48 = .ok (.invokevirtual 215, 3) := by decide +kernel
theorem dX8_frontWindowAt_51 : decode cX8_frontWindowAt 51 = .ok (.ireturn, 1) := by decide +kernel
theorem dX8_frontWindowAt_52 : decode cX8_frontWindowAt 52 = .ok (.iinc 4 (-1), 3) := by decide +kernel
theorem dX8_frontWindowAt_55 : decode cX8_frontWindowAt 55 = .ok (.goto (-36), 3) := by decide +kernel
theorem dX8_frontWindowAt_58 : decode cX8_frontWindowAt 58 = .ok (.aload_n 0, 1) := by decide +kernel
theorem dX8_frontWindowAt_59 : decode cX8_frontWindowAt 59 = .ok (.getfield 10, 3) := by decide +kernel
theorem dX8_frontWindowAt_62 : decode cX8_frontWindowAt 62 = .ok (.getfield 77, 3) := by decide +kernel
theorem dX8_frontWindowAt_65 : decode cX8_frontWindowAt 65 = .ok (.iconst 0, 1) := by decide +kernel
theorem dX8_frontWindowAt_66 : decode cX8_frontWindowAt 66 = .ok (.iload_n 1, 1) := by decide +kernel
theorem dX8_frontWindowAt_67 : decode cX8_frontWindowAt 67 = .ok (.iload_n 2, 1) := by decide +kernel
theorem dX8_frontWindowAt_68 : decode cX8_frontWindowAt 68 = .ok (.invokevirtual 438, 3) := by decide +kernel
theorem dX8_frontWindowAt_71 : decode cX8_frontWindowAt 71 = .ok (.ifCond .eq 7, 3) := by decide +kernel
theorem dX8_frontWindowAt_74 : decode cX8_frontWindowAt 74 = .ok (.iconst 0, 1) := by decide +kernel
theorem dX8_frontWindowAt_75 : decode cX8_frontWindowAt 75 = .ok (.goto 4, 3) := by decide +kernel
theorem dX8_frontWindowAt_78 : decode cX8_frontWindowAt 78 = .ok (.iconst (-1), 1) := by decide +kernel
theorem dX8_frontWindowAt_79 : decode cX8_frontWindowAt 79 = .ok (.ireturn, 1) := by decide +kernel
abbrev rmX8_frontWindowAt : Room := { frames := 2, cells := 0, slots := 0, locals := 46 }
theorem hdX8_frontWindowAt : yX8_frontWindowAt.cls ≠ "java/lang/invoke/MethodHandle" ∧ yX8_frontWindowAt.cls ≠ "java/lang/invoke/VarHandle" ∧ (parseMethodDescriptor yX8_frontWindowAt.desc).map (fun d => d.parameters.length) = some 2 := by decide +kernel
def fX8_frontWindowAt_19 (σ : Sg) : Nat → Int32 → Int32 → Int32 → Option Int32
  | 0, _, _, _ => none
  | n + 1, l1, l2, l4 =>
    if l4 < 0 then
      (fX1_windowContains σ (1 + 5) 0 l1 l2).bind fun r3 =>
      if r3 = true then
        some 0
      else
        some (-1)
    else
      (fX0_item σ ((1 + 5) + 6) l4).bind fun r4 =>
      (fX1_windowContains σ (1 + 5) r4 l1 l2).bind fun r5 =>
      if r5 = true then
        (fX0_item σ ((1 + 5) + 6) l4).bind fun r6 =>
        some r6
      else
        ((fX8_frontWindowAt_19 σ n) l1 l2 (l4 + (-1)))
theorem bX8_frontWindowAt_19 {X : Xc} {K : Kc} (C : MC X K cX8_frontWindowAt 5 RX8 rmX8_frontWindowAt) (hr : K.meth.sig.returnType = (some .int)) (σ : Sg) : ∀ (n : Nat) (l1 : Int32) (l2 : Int32) (l4 : Int32), GO X K 5 (fun r => MQi X K r σ) (fX8_frontWindowAt_19 σ n l1 l2 l4) σ 0 0 19 [some (.ref (X.ad 0)), some (.int (l1)), some (.int (l2)), some (.ref (X.ad ((1 + 5) + 6))), some (.int (l4))] [] := by
  intro n
  induction n with
  | zero =>
    intro l1 l2 l4
    exact g_none
  | succ n ih =>
    intro l1 l2 l4
    unfold fX8_frontWindowAt_19
    refine g_iload (pc := 19) C dX8_frontWindowAt_19 rfl ?_
    refine g_if_lt (pc := 21) (tgt := 58) C dX8_frontWindowAt_21 rfl ?_ ?_
    · refine g_aload_n (pc := 58) (i := 0) C dX8_frontWindowAt_58 rfl rfl ?_
      refine g_getr (pc := 59) (ci := 8) (N := 8) (T := TX8) (j := 0) (Cn := RX8) 1 C rfl inlX8 (Nat.le_of_ble_eq_true rfl) q_1_16 ok_dl rfl dX8_frontWindowAt_59 ?_
      refine g_getNr (pc := 62) (ci := 4) (N := 7) (T := TX4) (j := 4) (Cn := RX4) (1 + 5) C rfl inlX4 (Nat.le_of_ble_eq_true rfl) (List.mem_of_getElem? (i := 10) rfl) (blk ok_now 0 rfl) rfl dX8_frontWindowAt_62 ?_
      refine g_iconst (pc := 65) (v := 0) C dX8_frontWindowAt_65 (by decide) ?_
      refine g_iload_n (pc := 66) (i := 1) C dX8_frontWindowAt_66 rfl rfl ?_
      refine g_iload_n (pc := 67) (i := 2) C dX8_frontWindowAt_67 rfl rfl ?_
      refine g_callVi (pc := 68) (As := [.int (0), .int (l1), .int (l2)]) C (kX1_windowContains X σ (1 + 5) 0 l1 l2 (st_pl ok_now)) (blk (st_pl ok_now) 0 rfl) rfl q_43_17 q_43_18 q_43_19 q_2_23 q_43_20 ⟨rfl, hdX1_windowContains⟩ ⟨Nat.le_of_ble_eq_true rfl, Nat.le_of_ble_eq_true rfl, rfl, rfl⟩ ⟨Nat.zero_le _, Nat.zero_le _⟩ (Nat.le_of_ble_eq_true rfl) rfl rfl dX8_frontWindowAt_68 (fun r3 _ => ?_)
      refine g_ifb_eq (pc := 71) (tgt := 78) C dX8_frontWindowAt_71 rfl ?_ ?_
      · refine g_iconst (pc := 74) (v := 0) C dX8_frontWindowAt_74 (by decide) ?_
        refine g_goto (pc := 75) (tgt := 79) C dX8_frontWindowAt_75 rfl ?_
        exact g_iret (pc := 79) C hr dX8_frontWindowAt_79 rfl
      · refine g_iconst (pc := 78) (v := (-1)) C dX8_frontWindowAt_78 (by decide) ?_
        exact g_iret (pc := 79) C hr dX8_frontWindowAt_79 rfl
    · refine g_aload_n (pc := 24) (i := 0) C dX8_frontWindowAt_24 rfl rfl ?_
      refine g_getr (pc := 25) (ci := 8) (N := 8) (T := TX8) (j := 0) (Cn := RX8) 1 C rfl inlX8 (Nat.le_of_ble_eq_true rfl) q_1_16 ok_dl rfl dX8_frontWindowAt_25 ?_
      refine g_getNr (pc := 28) (ci := 4) (N := 7) (T := TX4) (j := 4) (Cn := RX4) (1 + 5) C rfl inlX4 (Nat.le_of_ble_eq_true rfl) (List.mem_of_getElem? (i := 10) rfl) (blk ok_now 0 rfl) rfl dX8_frontWindowAt_28 ?_
      refine g_aload_n (pc := 31) (i := 3) C dX8_frontWindowAt_31 rfl rfl ?_
      refine g_iload (pc := 32) C dX8_frontWindowAt_32 rfl ?_
      refine g_callVi (pc := 34) (As := [.int (l4)]) C (kX0_item X σ ((1 + 5) + 6) l4 (pl_or (st_pl ok_now))) (blk (pl_or (st_pl ok_now)) 0 rfl) rfl q_32_23 q_33_0 q_33_1 q_2_19 q_33_2 ⟨rfl, hdX0_item⟩ ⟨Nat.le_of_ble_eq_true rfl, Nat.le_of_ble_eq_true rfl, rfl, rfl⟩ ⟨Nat.zero_le _, Nat.zero_le _⟩ (Nat.le_of_ble_eq_true rfl) rfl rfl dX8_frontWindowAt_34 (fun r4 _ => ?_)
      refine g_iload_n (pc := 37) (i := 1) C dX8_frontWindowAt_37 rfl rfl ?_
      refine g_iload_n (pc := 38) (i := 2) C dX8_frontWindowAt_38 rfl rfl ?_
      refine g_callVi (pc := 39) (As := [.int (r4), .int (l1), .int (l2)]) C (kX1_windowContains X σ (1 + 5) r4 l1 l2 (st_pl ok_now)) (blk (st_pl ok_now) 0 rfl) rfl q_43_17 q_43_18 q_43_19 q_2_23 q_43_20 ⟨rfl, hdX1_windowContains⟩ ⟨Nat.le_of_ble_eq_true rfl, Nat.le_of_ble_eq_true rfl, rfl, rfl⟩ ⟨Nat.zero_le _, Nat.zero_le _⟩ (Nat.le_of_ble_eq_true rfl) rfl rfl dX8_frontWindowAt_39 (fun r5 _ => ?_)
      refine g_ifb_eq (pc := 42) (tgt := 52) C dX8_frontWindowAt_42 rfl ?_ ?_
      · refine g_aload_n (pc := 45) (i := 3) C dX8_frontWindowAt_45 rfl rfl ?_
        refine g_iload (pc := 46) C dX8_frontWindowAt_46 rfl ?_
        refine g_callVi (pc := 48) (As := [.int (l4)]) C (kX0_item X σ ((1 + 5) + 6) l4 (pl_or (st_pl ok_now))) (blk (pl_or (st_pl ok_now)) 0 rfl) rfl q_32_23 q_33_0 q_33_1 q_2_19 q_33_2 ⟨rfl, hdX0_item⟩ ⟨Nat.le_of_ble_eq_true rfl, Nat.le_of_ble_eq_true rfl, rfl, rfl⟩ ⟨Nat.zero_le _, Nat.zero_le _⟩ (Nat.le_of_ble_eq_true rfl) rfl rfl dX8_frontWindowAt_48 (fun r6 _ => ?_)
        exact g_iret (pc := 51) C hr dX8_frontWindowAt_51 rfl
      · refine g_iinc (pc := 52) (v := l4 + (-1)) C dX8_frontWindowAt_52 rfl (rfl) (Nat.le_of_ble_eq_true rfl) rfl ?_
        refine g_goto (pc := 55) (tgt := 19) C dX8_frontWindowAt_55 rfl ?_
        refine g_keep [true, true, true, true, true] ?_
        exact ih l1 l2 (l4 + (-1))
def fX8_frontWindowAt (σ : Sg) (p1 : Int32) (p2 : Int32) : Option Int32 :=
  (fX0_size σ ((1 + 5) + 6)).bind fun r1 =>
  nm (r1 - 1) fun v2 =>
  (fX8_frontWindowAt_19 σ FU p1 p2 v2)
theorem kX8_frontWindowAt (X : Xc) (σ : Sg) (p1 : Int32) (p2 : Int32) : ∀ r, fX8_frontWindowAt σ p1 p2 = some r → Met X.l yX8_frontWindowAt (wsM yX8_frontWindowAt cX8_frontWindowAt 5 (some .int)) rmX8_frontWindowAt (va_Pc [.ref (X.ad 0), .int p1, .int p2] (PW X σ)) (Qi X r σ) 0 0 X.A := by
  refine mt_of (own := RX8) (lo := [some (.ref (X.ad 0)), some (.int (p1)), some (.int (p2)), none, none]) (by decide) rfl (Nat.le_of_ble_eq_true rfl) rfl (fun K C hr => ?_)
  unfold fX8_frontWindowAt
  refine g_aload_n (pc := 0) (i := 0) C dX8_frontWindowAt_0 rfl rfl ?_
  refine g_getr (pc := 1) (ci := 8) (N := 8) (T := TX8) (j := 0) (Cn := RX8) 1 C rfl inlX8 (Nat.le_of_ble_eq_true rfl) q_1_16 ok_dl rfl dX8_frontWindowAt_1 ?_
  refine g_getNr (pc := 4) (ci := 4) (N := 7) (T := TX4) (j := 4) (Cn := RX4) (1 + 5) C rfl inlX4 (Nat.le_of_ble_eq_true rfl) (List.mem_of_getElem? (i := 10) rfl) (blk ok_now 0 rfl) rfl dX8_frontWindowAt_4 ?_
  refine g_getNr (pc := 7) (ci := 1) (N := 14) (T := TX1) (j := 5) (Cn := RX1) ((1 + 5) + 6) C rfl inlX1 (Nat.le_of_ble_eq_true rfl) (List.mem_of_getElem? (i := 16) rfl) (blk (st_pl ok_now) 0 rfl) rfl dX8_frontWindowAt_7 ?_
  refine g_astore_n (pc := 10) (i := 3) C dX8_frontWindowAt_10 rfl (Nat.le_of_ble_eq_true rfl) rfl ?_
  refine g_aload_n (pc := 11) (i := 3) C dX8_frontWindowAt_11 rfl rfl ?_
  refine g_callVi (pc := 12) (As := []) C (kX0_size X σ ((1 + 5) + 6) (pl_or (st_pl ok_now))) (blk (pl_or (st_pl ok_now)) 0 rfl) rfl q_37_0 q_37_1 q_37_2 q_2_19 q_37_3 ⟨rfl, hdX0_size⟩ ⟨Nat.le_of_ble_eq_true rfl, Nat.le_of_ble_eq_true rfl, rfl, rfl⟩ ⟨Nat.zero_le _, Nat.zero_le _⟩ (Nat.le_of_ble_eq_true rfl) rfl rfl dX8_frontWindowAt_12 (fun r1 _ => ?_)
  refine g_iconst (pc := 15) (v := 1) C dX8_frontWindowAt_15 (by decide) ?_
  refine g_isub (pc := 16) C dX8_frontWindowAt_16 ?_
  refine g_nm (fun v2 => ?_)
  refine g_istore (pc := 17) C dX8_frontWindowAt_17 (Nat.le_of_ble_eq_true rfl) rfl ?_
  refine g_keep [true, true, true, true, true] ?_
  exact bX8_frontWindowAt_19 C hr σ FU p1 p2 v2
theorem dX8_groupAt_0 : decode cX8_groupAt 0 = .ok (.aload_n 0, 1) := by decide +kernel
theorem dX8_groupAt_1 : decode cX8_groupAt 1 = .ok (.getfield 10, 3) := by decide +kernel
theorem dX8_groupAt_4 : decode cX8_groupAt 4 = .ok (.getfield 77, 3) := by decide +kernel
theorem dX8_groupAt_7 : decode cX8_groupAt 7 = .ok (.astore 4, 2) := by decide +kernel
theorem dX8_groupAt_9 : decode cX8_groupAt 9 = .ok (.iconst 0, 1) := by decide +kernel
theorem dX8_groupAt_10 : decode cX8_groupAt 10 = .ok (.istore 5, 2) := by decide +kernel
theorem dX8_groupAt_12 : decode cX8_groupAt 12 = .ok (.iload 5, 2) := by decide +kernel
theorem dX8_groupAt_14 : decode cX8_groupAt 14 = .ok (.bipush 23, 2) := by decide +kernel
theorem dX8_groupAt_16 : decode cX8_groupAt 16 = .ok (.if_icmp .ge 65, 3) := by decide +kernel
theorem dX8_groupAt_19 : decode cX8_groupAt 19 = .ok (.iload_n 1, 1) := by decide +kernel
theorem dX8_groupAt_20 : decode cX8_groupAt 20 = .ok (.iconst (-1), 1) := by decide +kernel
theorem dX8_groupAt_21 : decode cX8_groupAt 21 = .ok (.if_icmp .eq 60, 3) := by decide +kernel
theorem dX8_groupAt_24 : decode cX8_groupAt 24 = .ok (.aload 4, 2) := by decide +kernel
theorem dX8_groupAt_26 : decode cX8_groupAt 26 = .ok (.iload 5, 2) := by decide +kernel
theorem dX8_groupAt_28 : decode cX8_groupAt 28 = .ok (.invokevirtual 151, 3) := by decide +kernel
theorem dX8_groupAt_31 : decode cX8_groupAt 31 = .ok (.iconst 2, 1) := by decide +kernel
theorem dX8_groupAt_32 : decode cX8_groupAt 32 = .ok (.if_icmp .ne 21, 3) := by decide +kernel
theorem dX8_groupAt_35 : decode cX8_groupAt 35 = .ok (.aload_n 0, 1) := by decide +kernel
theorem dX8_groupAt_36 : decode cX8_groupAt 36 = .ok (.getfield 23, 3) := by decide +kernel
theorem dX8_groupAt_39 : decode cX8_groupAt 39 = .ok (.iload 5, 2) := by decide +kernel
theorem dX8_groupAt_41 : decode cX8_groupAt 41 = .ok (.iload_n 2, 1) := by decide +kernel
theorem dX8_groupAt_42 : decode cX8_groupAt 42 = .ok (.iload_n 3, 1) := by decide +kernel
theorem dX8_groupAt_43 : decode cX8_groupAt 43 = .ok (.invokevirtual 442, 3) := by decide +kernel
theorem dX8_groupAt_46 : decode cX8_groupAt 46 = .ok (.ifCond .eq 7, 3) := by decide +kernel
theorem dX8_groupAt_49 : decode cX8_groupAt 49 = .ok (.iconst 1, 1) := by decide +kernel
theorem dX8_groupAt_50 : decode cX8_groupAt 50 = .ok (.goto 4, 3) := by decide +kernel
theorem dX8_groupAt_53 : decode cX8_groupAt 53 = .ok (.iconst 0, 1) := by decide +kernel
theorem dX8_groupAt_54 : decode cX8_groupAt 54 = .ok (.istore 6, 2) := by decide +kernel
theorem dX8_groupAt_56 : decode cX8_groupAt 56 = .ok (.iload 6, 2) := by decide +kernel
theorem dX8_groupAt_58 : decode cX8_groupAt 58 = .ok (.ifCond .eq 17, 3) := by decide +kernel
theorem dX8_groupAt_61 : decode cX8_groupAt 61 = .ok (.aload 4, 2) := by decide +kernel
theorem dX8_groupAt_63 : decode cX8_groupAt 63 = .ok (.iload 5, 2) := by decide +kernel
theorem dX8_groupAt_65 : decode cX8_groupAt 65 = .ok (.invokevirtual 129, 3) := by decide +kernel
theorem dX8_groupAt_68 : decode cX8_groupAt 68 = .ok (.iload_n 1, 1) := by decide +kernel
theorem dX8_groupAt_69 : decode cX8_groupAt 69 = .ok (.if_icmp .ne 6, 3) := by decide +kernel
theorem dX8_groupAt_72 : decode cX8_groupAt 72 = .ok (.iload 5, 2) := by decide +kernel
theorem dX8_groupAt_74 : decode cX8_groupAt 74 = .ok (.ireturn, 1) := by decide +kernel
theorem dX8_groupAt_75 : decode cX8_groupAt 75 = .ok (.iinc 5 1, 3) := by decide +kernel
theorem dX8_groupAt_78 : decode cX8_groupAt 78 = .ok (.goto (-66), 3) := by decide +kernel
theorem dX8_groupAt_81 : decode cX8_groupAt 81 = .ok (.iconst (-1), 1) := by decide +kernel
theorem dX8_groupAt_82 : decode cX8_groupAt 82 = .ok (.ireturn, 1) := by decide +kernel
abbrev rmX8_groupAt : Room := { frames := 3, cells := 0, slots := 0, locals := 65 }
theorem hdX8_groupAt : yX8_groupAt.cls ≠ "java/lang/invoke/MethodHandle" ∧ yX8_groupAt.cls ≠ "java/lang/invoke/VarHandle" ∧ (parseMethodDescriptor yX8_groupAt.desc).map (fun d => d.parameters.length) = some 3 := by decide +kernel
def fX8_groupAt_75 (σ : Sg) (k12 : Int32 → Int32 → Int32 → Int32 → Option Int32) (l1 : Int32) (l2 : Int32) (l3 : Int32) (l5 : Int32) : Option Int32 :=
  (k12 l1 l2 l3 (l5 + 1))
theorem bX8_groupAt_75 {X : Xc} {K : Kc} (C : MC X K cX8_groupAt 7 RX8 rmX8_groupAt) (hr : K.meth.sig.returnType = (some .int)) (σ : Sg){k12 : Int32 → Int32 → Int32 → Int32 → Option Int32} (hk12 : ∀ (l1 : Int32) (l2 : Int32) (l3 : Int32) (l5 : Int32), GO X K 7 (fun r => MQi X K r σ) (k12 l1 l2 l3 l5) σ 0 0 12 [some (.ref (X.ad 0)), some (.int (l1)), some (.int (l2)), some (.int (l3)), some (.ref (X.ad (1 + 5))), some (.int (l5)), none] []) (l1 : Int32) (l2 : Int32) (l3 : Int32) (l5 : Int32) : GO X K 7 (fun r => MQi X K r σ) (fX8_groupAt_75 σ k12 l1 l2 l3 l5) σ 0 0 75 [some (.ref (X.ad 0)), some (.int (l1)), some (.int (l2)), some (.int (l3)), some (.ref (X.ad (1 + 5))), some (.int (l5)), none] [] := by
  unfold fX8_groupAt_75
  refine g_iinc (pc := 75) (v := l5 + 1) C dX8_groupAt_75 rfl (rfl) (Nat.le_of_ble_eq_true rfl) rfl ?_
  refine g_goto (pc := 78) (tgt := 12) C dX8_groupAt_78 rfl ?_
  refine g_keep [true, true, true, true, true, true, false] ?_
  exact hk12 l1 l2 l3 (l5 + 1)
def fX8_groupAt_54 (σ : Sg) (k12 : Int32 → Int32 → Int32 → Int32 → Option Int32) (l1 : Int32) (l2 : Int32) (l3 : Int32) (l5 : Int32) (s0 : Int32) : Option Int32 :=
  if s0 = 0 then
    (fX8_groupAt_75 σ k12 l1 l2 l3 l5)
  else
    (fX1_windowOf σ (1 + 5) l5).bind fun r3 =>
    if r3 = l1 then
      some l5
    else
      (fX8_groupAt_75 σ k12 l1 l2 l3 l5)
theorem bX8_groupAt_54 {X : Xc} {K : Kc} (C : MC X K cX8_groupAt 7 RX8 rmX8_groupAt) (hr : K.meth.sig.returnType = (some .int)) (σ : Sg){k12 : Int32 → Int32 → Int32 → Int32 → Option Int32} (hk12 : ∀ (l1 : Int32) (l2 : Int32) (l3 : Int32) (l5 : Int32), GO X K 7 (fun r => MQi X K r σ) (k12 l1 l2 l3 l5) σ 0 0 12 [some (.ref (X.ad 0)), some (.int (l1)), some (.int (l2)), some (.int (l3)), some (.ref (X.ad (1 + 5))), some (.int (l5)), none] []) (l1 : Int32) (l2 : Int32) (l3 : Int32) (l5 : Int32) (s0 : Int32) : GO X K 7 (fun r => MQi X K r σ) (fX8_groupAt_54 σ k12 l1 l2 l3 l5 s0) σ 0 0 54 [some (.ref (X.ad 0)), some (.int (l1)), some (.int (l2)), some (.int (l3)), some (.ref (X.ad (1 + 5))), some (.int (l5)), none] [.int (s0)] := by
  unfold fX8_groupAt_54
  refine g_istore (pc := 54) C dX8_groupAt_54 (Nat.le_of_ble_eq_true rfl) rfl ?_
  refine g_iload (pc := 56) C dX8_groupAt_56 rfl ?_
  refine g_if_eq (pc := 58) (tgt := 75) C dX8_groupAt_58 rfl ?_ ?_
  · refine g_keep [true, true, true, true, true, true, false] ?_
    exact bX8_groupAt_75 C hr σ hk12 l1 l2 l3 l5
  · refine g_aload (pc := 61) C dX8_groupAt_61 rfl ?_
    refine g_iload (pc := 63) C dX8_groupAt_63 rfl ?_
    refine g_callVi (pc := 65) (As := [.int (l5)]) C (kX1_windowOf X σ (1 + 5) l5 (st_pl ok_now)) (blk (st_pl ok_now) 0 rfl) rfl q_24_19 q_13_9 q_13_10 q_2_23 q_13_11 ⟨rfl, hdX1_windowOf⟩ ⟨Nat.le_of_ble_eq_true rfl, Nat.le_of_ble_eq_true rfl, rfl, rfl⟩ ⟨Nat.zero_le _, Nat.zero_le _⟩ (Nat.le_of_ble_eq_true rfl) rfl rfl dX8_groupAt_65 (fun r3 _ => ?_)
    refine g_iload_n (pc := 68) (i := 1) C dX8_groupAt_68 rfl rfl ?_
    refine g_icmp_ne (pc := 69) (tgt := 75) C dX8_groupAt_69 rfl ?_ ?_
    · refine g_iload (pc := 72) C dX8_groupAt_72 rfl ?_
      exact g_iret (pc := 74) C hr dX8_groupAt_74 rfl
    · refine g_keep [true, true, true, true, true, true, false] ?_
      exact bX8_groupAt_75 C hr σ hk12 l1 l2 l3 l5
def fX8_groupAt_53 (σ : Sg) (k12 : Int32 → Int32 → Int32 → Int32 → Option Int32) (l1 : Int32) (l2 : Int32) (l3 : Int32) (l5 : Int32) : Option Int32 :=
  (fX8_groupAt_54 σ k12 l1 l2 l3 l5 0)
theorem bX8_groupAt_53 {X : Xc} {K : Kc} (C : MC X K cX8_groupAt 7 RX8 rmX8_groupAt) (hr : K.meth.sig.returnType = (some .int)) (σ : Sg){k12 : Int32 → Int32 → Int32 → Int32 → Option Int32} (hk12 : ∀ (l1 : Int32) (l2 : Int32) (l3 : Int32) (l5 : Int32), GO X K 7 (fun r => MQi X K r σ) (k12 l1 l2 l3 l5) σ 0 0 12 [some (.ref (X.ad 0)), some (.int (l1)), some (.int (l2)), some (.int (l3)), some (.ref (X.ad (1 + 5))), some (.int (l5)), none] []) (l1 : Int32) (l2 : Int32) (l3 : Int32) (l5 : Int32) : GO X K 7 (fun r => MQi X K r σ) (fX8_groupAt_53 σ k12 l1 l2 l3 l5) σ 0 0 53 [some (.ref (X.ad 0)), some (.int (l1)), some (.int (l2)), some (.int (l3)), some (.ref (X.ad (1 + 5))), some (.int (l5)), none] [] := by
  unfold fX8_groupAt_53
  refine g_iconst (pc := 53) (v := 0) C dX8_groupAt_53 (by decide) ?_
  refine g_keep [true, true, true, true, true, true, false] ?_
  exact bX8_groupAt_54 C hr σ hk12 l1 l2 l3 l5 0
def fX8_groupAt_12 (σ : Sg) : Nat → Int32 → Int32 → Int32 → Int32 → Option Int32
  | 0, _, _, _, _ => none
  | n + 1, l1, l2, l3, l5 =>
    if 23 ≤ l5 then
      some (-1)
    else
      if l1 = (-1) then
        some (-1)
      else
        (fX1_kindOf σ (1 + 5) l5).bind fun r1 =>
        if r1 = 2 then
          (fX2_contains σ 422 l5 l2 l3).bind fun r2 =>
          if r2 = true then
            (fX8_groupAt_54 σ (fX8_groupAt_12 σ n) l1 l2 l3 l5 1)
          else
            (fX8_groupAt_53 σ (fX8_groupAt_12 σ n) l1 l2 l3 l5)
        else
          (fX8_groupAt_53 σ (fX8_groupAt_12 σ n) l1 l2 l3 l5)
theorem bX8_groupAt_12 {X : Xc} {K : Kc} (C : MC X K cX8_groupAt 7 RX8 rmX8_groupAt) (hr : K.meth.sig.returnType = (some .int)) (σ : Sg) : ∀ (n : Nat) (l1 : Int32) (l2 : Int32) (l3 : Int32) (l5 : Int32), GO X K 7 (fun r => MQi X K r σ) (fX8_groupAt_12 σ n l1 l2 l3 l5) σ 0 0 12 [some (.ref (X.ad 0)), some (.int (l1)), some (.int (l2)), some (.int (l3)), some (.ref (X.ad (1 + 5))), some (.int (l5)), none] [] := by
  intro n
  induction n with
  | zero =>
    intro l1 l2 l3 l5
    exact g_none
  | succ n ih =>
    intro l1 l2 l3 l5
    unfold fX8_groupAt_12
    refine g_iload (pc := 12) C dX8_groupAt_12 rfl ?_
    refine g_bipush (pc := 14) (v := 23) C dX8_groupAt_14 (by decide) ?_
    refine g_icmp_ge (pc := 16) (tgt := 81) C dX8_groupAt_16 rfl ?_ ?_
    · refine g_iconst (pc := 81) (v := (-1)) C dX8_groupAt_81 (by decide) ?_
      exact g_iret (pc := 82) C hr dX8_groupAt_82 rfl
    · refine g_iload_n (pc := 19) (i := 1) C dX8_groupAt_19 rfl rfl ?_
      refine g_iconst (pc := 20) (v := (-1)) C dX8_groupAt_20 (by decide) ?_
      refine g_icmp_eq (pc := 21) (tgt := 81) C dX8_groupAt_21 rfl ?_ ?_
      · refine g_iconst (pc := 81) (v := (-1)) C dX8_groupAt_81 (by decide) ?_
        exact g_iret (pc := 82) C hr dX8_groupAt_82 rfl
      · refine g_aload (pc := 24) C dX8_groupAt_24 rfl ?_
        refine g_iload (pc := 26) C dX8_groupAt_26 rfl ?_
        refine g_callVi (pc := 28) (As := [.int (l5)]) C (kX1_kindOf X σ (1 + 5) l5 (st_pl ok_now)) (blk (st_pl ok_now) 0 rfl) rfl q_25_8 q_16_2 q_16_3 q_2_23 q_16_4 ⟨rfl, hdX1_kindOf⟩ ⟨Nat.le_of_ble_eq_true rfl, Nat.le_of_ble_eq_true rfl, rfl, rfl⟩ ⟨Nat.zero_le _, Nat.zero_le _⟩ (Nat.le_of_ble_eq_true rfl) rfl rfl dX8_groupAt_28 (fun r1 _ => ?_)
        refine g_iconst (pc := 31) (v := 2) C dX8_groupAt_31 (by decide) ?_
        refine g_icmp_ne (pc := 32) (tgt := 53) C dX8_groupAt_32 rfl ?_ ?_
        · refine g_aload_n (pc := 35) (i := 0) C dX8_groupAt_35 rfl rfl ?_
          refine g_getr (pc := 36) (ci := 8) (N := 8) (T := TX8) (j := 4) (Cn := RX8) 422 C rfl inlX8 (Nat.le_of_ble_eq_true rfl) q_1_21 ok_dl rfl dX8_groupAt_36 ?_
          refine g_iload (pc := 39) C dX8_groupAt_39 rfl ?_
          refine g_iload_n (pc := 41) (i := 2) C dX8_groupAt_41 rfl rfl ?_
          refine g_iload_n (pc := 42) (i := 3) C dX8_groupAt_42 rfl rfl ?_
          refine g_callVi (pc := 43) (As := [.int (l5), .int (l2), .int (l3)]) C (kX2_contains X σ 422 l5 l2 l3 ok_pn) (blk ok_pn 0 rfl) rfl q_44_1 q_44_2 q_44_3 q_1_20 q_44_4 ⟨rfl, hdX2_contains⟩ ⟨Nat.le_of_ble_eq_true rfl, Nat.le_of_ble_eq_true rfl, rfl, rfl⟩ ⟨Nat.zero_le _, Nat.zero_le _⟩ (Nat.le_of_ble_eq_true rfl) rfl rfl dX8_groupAt_43 (fun r2 _ => ?_)
          refine g_ifb_eq (pc := 46) (tgt := 53) C dX8_groupAt_46 rfl ?_ ?_
          · refine g_iconst (pc := 49) (v := 1) C dX8_groupAt_49 (by decide) ?_
            refine g_goto (pc := 50) (tgt := 54) C dX8_groupAt_50 rfl ?_
            refine g_keep [true, true, true, true, true, true, false] ?_
            exact bX8_groupAt_54 C hr σ ih l1 l2 l3 l5 1
          · refine g_keep [true, true, true, true, true, true, false] ?_
            exact bX8_groupAt_53 C hr σ ih l1 l2 l3 l5
        · refine g_keep [true, true, true, true, true, true, false] ?_
          exact bX8_groupAt_53 C hr σ ih l1 l2 l3 l5
def fX8_groupAt (σ : Sg) (p1 : Int32) (p2 : Int32) (p3 : Int32) : Option Int32 :=
  (fX8_groupAt_12 σ FU p1 p2 p3 0)
theorem kX8_groupAt (X : Xc) (σ : Sg) (p1 : Int32) (p2 : Int32) (p3 : Int32) : ∀ r, fX8_groupAt σ p1 p2 p3 = some r → Met X.l yX8_groupAt (wsM yX8_groupAt cX8_groupAt 7 (some .int)) rmX8_groupAt (va_Pc [.ref (X.ad 0), .int p1, .int p2, .int p3] (PW X σ)) (Qi X r σ) 0 0 X.A := by
  refine mt_of (own := RX8) (lo := [some (.ref (X.ad 0)), some (.int (p1)), some (.int (p2)), some (.int (p3)), none, none, none]) (by decide) rfl (Nat.le_of_ble_eq_true rfl) rfl (fun K C hr => ?_)
  unfold fX8_groupAt
  refine g_aload_n (pc := 0) (i := 0) C dX8_groupAt_0 rfl rfl ?_
  refine g_getr (pc := 1) (ci := 8) (N := 8) (T := TX8) (j := 0) (Cn := RX8) 1 C rfl inlX8 (Nat.le_of_ble_eq_true rfl) q_1_16 ok_dl rfl dX8_groupAt_1 ?_
  refine g_getNr (pc := 4) (ci := 4) (N := 7) (T := TX4) (j := 4) (Cn := RX4) (1 + 5) C rfl inlX4 (Nat.le_of_ble_eq_true rfl) (List.mem_of_getElem? (i := 10) rfl) (blk ok_now 0 rfl) rfl dX8_groupAt_4 ?_
  refine g_astore (pc := 7) C dX8_groupAt_7 (Nat.le_of_ble_eq_true rfl) rfl ?_
  refine g_iconst (pc := 9) (v := 0) C dX8_groupAt_9 (by decide) ?_
  refine g_istore (pc := 10) C dX8_groupAt_10 (Nat.le_of_ble_eq_true rfl) rfl ?_
  refine g_keep [true, true, true, true, true, true, false] ?_
  exact bX8_groupAt_12 C hr σ FU p1 p2 p3 0
theorem dX8_kindAt_0 : decode cX8_kindAt 0 = .ok (.aload_n 0, 1) := by decide +kernel
theorem dX8_kindAt_1 : decode cX8_kindAt 1 = .ok (.iload_n 1, 1) := by decide +kernel
theorem dX8_kindAt_2 : decode cX8_kindAt 2 = .ok (.iload_n 2, 1) := by decide +kernel
theorem dX8_kindAt_3 : decode cX8_kindAt 3 = .ok (.invokevirtual 291, 3) := by decide +kernel
theorem dX8_kindAt_6 : decode cX8_kindAt 6 = .ok (.istore_n 3, 1) := by decide +kernel
theorem dX8_kindAt_7 : decode cX8_kindAt 7 = .ok (.aload_n 0, 1) := by decide +kernel
theorem dX8_kindAt_8 : decode cX8_kindAt 8 = .ok (.getfield 23, 3) := by decide +kernel
theorem dX8_kindAt_11 : decode cX8_kindAt 11 = .ok (.aload_n 0, 1) := by decide +kernel
theorem dX8_kindAt_12 : decode cX8_kindAt 12 = .ok (.getfield 10, 3) := by decide +kernel
theorem dX8_kindAt_15 : decode cX8_kindAt 15 = .ok (.getfield 77, 3) := by decide +kernel
theorem dX8_kindAt_18 : decode cX8_kindAt 18 = .ok (.iload_n 3, 1) := by decide +kernel
theorem dX8_kindAt_19 : decode cX8_kindAt 19 = .ok (.invokevirtual 200, 3) := by decide +kernel
theorem dX8_kindAt_22 : decode cX8_kindAt 22 = .ok (.invokevirtual 154, 3) := by decide +kernel
theorem dX8_kindAt_25 : decode cX8_kindAt 25 = .ok (.ifCond .ne 5, 3) := by decide +kernel
theorem dX8_kindAt_28 : decode cX8_kindAt 28 = .ok (.iconst 0, 1) := by decide +kernel
theorem dX8_kindAt_29 : decode cX8_kindAt 29 = .ok (.ireturn, 1) := by decide +kernel
theorem dX8_kindAt_30 : decode cX8_kindAt 30 = .ok (.aload_n 0, 1) := by decide +kernel
theorem dX8_kindAt_31 : decode cX8_kindAt 31 = .ok (.iload_n 3, 1) := by decide +kernel
theorem dX8_kindAt_32 : decode cX8_kindAt 32 = .ok (.iload_n 1, 1) := by decide +kernel
theorem dX8_kindAt_33 : decode cX8_kindAt 33 = .ok (.iload_n 2, 1) := by decide +kernel
theorem dX8_kindAt_34 : decode cX8_kindAt 34 = .ok (.invokevirtual 294, 3) := by decide +kernel
theorem dX8_kindAt_37 : decode cX8_kindAt 37 = .ok (.istore 4, 2) := by decide +kernel
theorem dX8_kindAt_39 : decode cX8_kindAt 39 = .ok (.iload 4, 2) := by decide +kernel
theorem dX8_kindAt_41 : decode cX8_kindAt 41 = .ok (.iconst (-1), 1) := by decide +kernel
theorem dX8_kindAt_42 : decode cX8_kindAt 42 = .ok (.if_icmp .ne 5, 3) := by decide +kernel
theorem dX8_kindAt_45 : decode cX8_kindAt 45 = .ok (.iconst 3, 1) := by decide +kernel
theorem dX8_kindAt_46 : decode cX8_kindAt 46 = .ok (.ireturn, 1) := by decide +kernel
theorem dX8_kindAt_47 : decode cX8_kindAt 47 = .ok (.iload_n 2, 1) := by decide +kernel
theorem dX8_kindAt_48 : decode cX8_kindAt 48 = .ok (.aload_n 0, 1) := by decide +kernel
theorem dX8_kindAt_49 : decode cX8_kindAt 49 = .ok (.getfield 23, 3) := by decide +kernel
theorem dX8_kindAt_52 : decode cX8_kindAt 52 = .ok (.iload 4, 2) := by decide +kernel
theorem dX8_kindAt_54 : decode cX8_kindAt 54 = .ok (.invokevirtual 160, 3) := by decide +kernel
theorem dX8_kindAt_57 : decode cX8_kindAt 57 = .ok (.if_icmp .ne 7, 3) := by decide +kernel
theorem dX8_kindAt_60 : decode cX8_kindAt 60 = .ok (.iconst 2, 1) := by decide +kernel
theorem dX8_kindAt_61 : decode cX8_kindAt 61 = .ok (.goto 4, 3) := by decide +kernel
theorem dX8_kindAt_64 : decode cX8_kindAt 64 = .ok (.iconst 1, 1) := by decide +kernel
theorem dX8_kindAt_65 : decode cX8_kindAt 65 = .ok (.ireturn, 1) := by decide +kernel
abbrev rmX8_kindAt : Room := { frames := 4, cells := 0, slots := 0, locals := 91 }
theorem hdX8_kindAt : yX8_kindAt.cls ≠ "java/lang/invoke/MethodHandle" ∧ yX8_kindAt.cls ≠ "java/lang/invoke/VarHandle" ∧ (parseMethodDescriptor yX8_kindAt.desc).map (fun d => d.parameters.length) = some 2 := by decide +kernel
def fX8_kindAt (σ : Sg) (p1 : Int32) (p2 : Int32) : Option Int32 :=
  (fX8_frontWindowAt σ p1 p2).bind fun r1 =>
  (fX1_rootOf σ (1 + 5) r1).bind fun r2 =>
  (fX2_isShown σ 422 r2).bind fun r3 =>
  if r3 = true then
    (fX8_groupAt σ r1 p1 p2).bind fun r4 =>
    if r4 = (-1) then
      some 3
    else
      (fX2_topOf σ 422 r4).bind fun r5 =>
      if p2 = r5 then
        some 2
      else
        some 1
  else
    some 0
theorem kX8_kindAt (X : Xc) (σ : Sg) (p1 : Int32) (p2 : Int32) : ∀ r, fX8_kindAt σ p1 p2 = some r → Met X.l yX8_kindAt (wsM yX8_kindAt cX8_kindAt 5 (some .int)) rmX8_kindAt (va_Pc [.ref (X.ad 0), .int p1, .int p2] (PW X σ)) (Qi X r σ) 0 0 X.A := by
  refine mt_of (own := RX8) (lo := [some (.ref (X.ad 0)), some (.int (p1)), some (.int (p2)), none, none]) (by decide) rfl (Nat.le_of_ble_eq_true rfl) rfl (fun K C hr => ?_)
  unfold fX8_kindAt
  refine g_aload_n (pc := 0) (i := 0) C dX8_kindAt_0 rfl rfl ?_
  refine g_iload_n (pc := 1) (i := 1) C dX8_kindAt_1 rfl rfl ?_
  refine g_iload_n (pc := 2) (i := 2) C dX8_kindAt_2 rfl rfl ?_
  refine g_callVi (pc := 3) (As := [.int (p1), .int (p2)]) C (kX8_frontWindowAt X σ p1 p2) ok_dl rfl q_43_13 q_43_14 q_43_15 q_1_2 q_43_16 ⟨rfl, hdX8_frontWindowAt⟩ ⟨Nat.le_of_ble_eq_true rfl, Nat.le_of_ble_eq_true rfl, rfl, rfl⟩ ⟨Nat.zero_le _, Nat.zero_le _⟩ (Nat.le_of_ble_eq_true rfl) rfl rfl dX8_kindAt_3 (fun r1 _ => ?_)
  refine g_istore_n (pc := 6) (i := 3) C dX8_kindAt_6 rfl (Nat.le_of_ble_eq_true rfl) rfl ?_
  refine g_aload_n (pc := 7) (i := 0) C dX8_kindAt_7 rfl rfl ?_
  refine g_getr (pc := 8) (ci := 8) (N := 8) (T := TX8) (j := 4) (Cn := RX8) 422 C rfl inlX8 (Nat.le_of_ble_eq_true rfl) q_1_21 ok_dl rfl dX8_kindAt_8 ?_
  refine g_aload_n (pc := 11) (i := 0) C dX8_kindAt_11 rfl rfl ?_
  refine g_getr (pc := 12) (ci := 8) (N := 8) (T := TX8) (j := 0) (Cn := RX8) 1 C rfl inlX8 (Nat.le_of_ble_eq_true rfl) q_1_16 ok_dl rfl dX8_kindAt_12 ?_
  refine g_getNr (pc := 15) (ci := 4) (N := 7) (T := TX4) (j := 4) (Cn := RX4) (1 + 5) C rfl inlX4 (Nat.le_of_ble_eq_true rfl) (List.mem_of_getElem? (i := 10) rfl) (blk ok_now 0 rfl) rfl dX8_kindAt_15 ?_
  refine g_iload_n (pc := 18) (i := 3) C dX8_kindAt_18 rfl rfl ?_
  refine g_callVi (pc := 19) (As := [.int (r1)]) C (kX1_rootOf X σ (1 + 5) r1 (st_pl ok_now)) (blk (st_pl ok_now) 0 rfl) rfl q_32_9 q_15_12 q_15_13 q_2_23 q_15_14 ⟨rfl, hdX1_rootOf⟩ ⟨Nat.le_of_ble_eq_true rfl, Nat.le_of_ble_eq_true rfl, rfl, rfl⟩ ⟨Nat.zero_le _, Nat.zero_le _⟩ (Nat.le_of_ble_eq_true rfl) rfl rfl dX8_kindAt_19 (fun r2 _ => ?_)
  refine g_callVi (pc := 22) (As := [.int (r2)]) C (kX2_isShown X σ 422 r2 ok_pn) (blk ok_pn 0 rfl) rfl q_26_0 q_16_23 q_17_0 q_1_20 q_17_1 ⟨rfl, hdX2_isShown⟩ ⟨Nat.le_of_ble_eq_true rfl, Nat.le_of_ble_eq_true rfl, rfl, rfl⟩ ⟨Nat.zero_le _, Nat.zero_le _⟩ (Nat.le_of_ble_eq_true rfl) rfl rfl dX8_kindAt_22 (fun r3 _ => ?_)
  refine g_ifb_ne (pc := 25) (tgt := 30) C dX8_kindAt_25 rfl ?_ ?_
  · refine g_aload_n (pc := 30) (i := 0) C dX8_kindAt_30 rfl rfl ?_
    refine g_iload_n (pc := 31) (i := 3) C dX8_kindAt_31 rfl rfl ?_
    refine g_iload_n (pc := 32) (i := 1) C dX8_kindAt_32 rfl rfl ?_
    refine g_iload_n (pc := 33) (i := 2) C dX8_kindAt_33 rfl rfl ?_
    refine g_callVi (pc := 34) (As := [.int (r1), .int (p1), .int (p2)]) C (kX8_groupAt X σ r1 p1 p2) ok_dl rfl q_43_21 q_43_22 q_43_23 q_1_2 q_44_0 ⟨rfl, hdX8_groupAt⟩ ⟨Nat.le_of_ble_eq_true rfl, Nat.le_of_ble_eq_true rfl, rfl, rfl⟩ ⟨Nat.zero_le _, Nat.zero_le _⟩ (Nat.le_of_ble_eq_true rfl) rfl rfl dX8_kindAt_34 (fun r4 _ => ?_)
    refine g_istore (pc := 37) C dX8_kindAt_37 (Nat.le_of_ble_eq_true rfl) rfl ?_
    refine g_iload (pc := 39) C dX8_kindAt_39 rfl ?_
    refine g_iconst (pc := 41) (v := (-1)) C dX8_kindAt_41 (by decide) ?_
    refine g_icmp_ne (pc := 42) (tgt := 47) C dX8_kindAt_42 rfl ?_ ?_
    · refine g_iconst (pc := 45) (v := 3) C dX8_kindAt_45 (by decide) ?_
      exact g_iret (pc := 46) C hr dX8_kindAt_46 rfl
    · refine g_iload_n (pc := 47) (i := 2) C dX8_kindAt_47 rfl rfl ?_
      refine g_aload_n (pc := 48) (i := 0) C dX8_kindAt_48 rfl rfl ?_
      refine g_getr (pc := 49) (ci := 8) (N := 8) (T := TX8) (j := 4) (Cn := RX8) 422 C rfl inlX8 (Nat.le_of_ble_eq_true rfl) q_1_21 ok_dl rfl dX8_kindAt_49 ?_
      refine g_iload (pc := 52) C dX8_kindAt_52 rfl ?_
      refine g_callVi (pc := 54) (As := [.int (r4)]) C (kX2_topOf X σ 422 r4 ok_pn) (blk ok_pn 0 rfl) rfl q_26_5 q_26_6 q_26_7 q_1_20 q_26_8 ⟨rfl, hdX2_topOf⟩ ⟨Nat.le_of_ble_eq_true rfl, Nat.le_of_ble_eq_true rfl, rfl, rfl⟩ ⟨Nat.zero_le _, Nat.zero_le _⟩ (Nat.le_of_ble_eq_true rfl) rfl rfl dX8_kindAt_54 (fun r5 _ => ?_)
      refine g_icmp_ne (pc := 57) (tgt := 64) C dX8_kindAt_57 rfl ?_ ?_
      · refine g_iconst (pc := 60) (v := 2) C dX8_kindAt_60 (by decide) ?_
        refine g_goto (pc := 61) (tgt := 65) C dX8_kindAt_61 rfl ?_
        exact g_iret (pc := 65) C hr dX8_kindAt_65 rfl
      · refine g_iconst (pc := 64) (v := 1) C dX8_kindAt_64 (by decide) ?_
        exact g_iret (pc := 65) C hr dX8_kindAt_65 rfl
  · refine g_iconst (pc := 28) (v := 0) C dX8_kindAt_28 (by decide) ?_
    exact g_iret (pc := 29) C hr dX8_kindAt_29 rfl
theorem dX8_paneOfTab_0 : decode cX8_paneOfTab 0 = .ok (.aload_n 0, 1) := by decide +kernel
theorem dX8_paneOfTab_1 : decode cX8_paneOfTab 1 = .ok (.getfield 10, 3) := by decide +kernel
theorem dX8_paneOfTab_4 : decode cX8_paneOfTab 4 = .ok (.getfield 77, 3) := by decide +kernel
theorem dX8_paneOfTab_7 : decode cX8_paneOfTab 7 = .ok (.iload_n 1, 1) := by decide +kernel
theorem dX8_paneOfTab_8 : decode cX8_paneOfTab 8 = .ok (.invokevirtual 445, 3) := by decide +kernel
theorem dX8_paneOfTab_11 : decode cX8_paneOfTab 11 = .ok (.istore_n 3, 1) := by decide +kernel
theorem dX8_paneOfTab_12 : decode cX8_paneOfTab 12 = .ok (.iload_n 3, 1) := by decide +kernel
theorem dX8_paneOfTab_13 : decode cX8_paneOfTab 13 = .ok (.iconst 1, 1) := by decide +kernel
theorem dX8_paneOfTab_14 : decode cX8_paneOfTab 14 = .ok (.if_icmp .ge 5, 3) := by decide +kernel
theorem dX8_paneOfTab_17 : decode cX8_paneOfTab 17 = .ok (.iconst (-1), 1) := by decide +kernel
theorem dX8_paneOfTab_18 : decode cX8_paneOfTab 18 = .ok (.ireturn, 1) := by decide +kernel
theorem dX8_paneOfTab_19 : decode cX8_paneOfTab 19 = .ok (.aload_n 0, 1) := by decide +kernel
theorem dX8_paneOfTab_20 : decode cX8_paneOfTab 20 = .ok (.getfield 23, 3) := by decide +kernel
theorem dX8_paneOfTab_23 : decode cX8_paneOfTab 23 = .ok (.iload_n 1, 1) := by decide +kernel
theorem dX8_paneOfTab_24 : decode cX8_paneOfTab 24 = .ok (.invokevirtual 163, 3) := by decide +kernel
theorem dX8_paneOfTab_27 : decode cX8_paneOfTab 27 = .ok (.iload_n 3, 1) := by decide +kernel
theorem dX8_paneOfTab_28 : decode cX8_paneOfTab 28 = .ok (.idiv, 1) := by decide +kernel
theorem dX8_paneOfTab_29 : decode cX8_paneOfTab 29 = .ok (.istore 4, 2) := by decide +kernel
theorem dX8_paneOfTab_31 : decode cX8_paneOfTab 31 = .ok (.iload_n 3, 1) := by decide +kernel
theorem dX8_paneOfTab_32 : decode cX8_paneOfTab 32 = .ok (.iconst 1, 1) := by decide +kernel
theorem dX8_paneOfTab_33 : decode cX8_paneOfTab 33 = .ok (.isub, 1) := by decide +kernel
theorem dX8_paneOfTab_34 : decode cX8_paneOfTab 34 = .ok (.istore 5, 2) := by decide +kernel
theorem dX8_paneOfTab_36 : decode cX8_paneOfTab 36 = .ok (.iload 4, 2) := by decide +kernel
theorem dX8_paneOfTab_38 : decode cX8_paneOfTab 38 = .ok (.iconst 1, 1) := by decide +kernel
theorem dX8_paneOfTab_39 : decode cX8_paneOfTab 39 = .ok (.if_icmp .ge 8, 3) := by decide +kernel
theorem dX8_paneOfTab_42 : decode cX8_paneOfTab 42 = .ok (.iload 5, 2) := by decide +kernel
theorem dX8_paneOfTab_44 : decode cX8_paneOfTab 44 = .ok (.goto 21, 3) := by decide +kernel
theorem dX8_paneOfTab_47 : decode cX8_paneOfTab 47 = .ok (.iload_n 2, 1) := by decide +kernel
theorem dX8_paneOfTab_48 : decode cX8_paneOfTab 48 = .ok (.aload_n 0, 1) := by decide +kernel
theorem dX8_paneOfTab_49 : decode cX8_paneOfTab 49 = .ok (.getfield 23, 3) := by decide +kernel
theorem dX8_paneOfTab_52 : decode cX8_paneOfTab 52 = .ok (.iload_n 1, 1) := by decide +kernel
theorem dX8_paneOfTab_53 : decode cX8_paneOfTab 53 = .ok (.invokevirtual 157, 3) := by decide +kernel
theorem dX8_paneOfTab_56 : decode cX8_paneOfTab 56 = .ok (.isub, 1) := by decide +kernel
theorem dX8_paneOfTab_57 : decode cX8_paneOfTab 57 = .ok (.iload 4, 2) := by decide +kernel
theorem dX8_paneOfTab_59 : decode cX8_paneOfTab 59 = .ok (.idiv, 1) := by decide +kernel
theorem dX8_paneOfTab_60 : decode cX8_paneOfTab 60 = .ok (.iload 5, 2) := by decide +kernel
theorem dX8_paneOfTab_62 : decode cX8_paneOfTab 62 = .ok (.invokestatic 448, 3) := by decide +kernel
theorem dX8_paneOfTab_65 : decode cX8_paneOfTab 65 = .ok (.istore 6, 2) := by decide +kernel
theorem dX8_paneOfTab_67 : decode cX8_paneOfTab 67 = .ok (.aload_n 0, 1) := by decide +kernel
theorem dX8_paneOfTab_68 : decode cX8_paneOfTab 68 = .ok (.getfield 10, 3) := by decide +kernel
theorem dX8_paneOfTab_71 : decode cX8_paneOfTab 71 = .ok (.getfield 77, 3) := by decide +kernel
theorem dX8_paneOfTab_74 : decode cX8_paneOfTab 74 = .ok (.iload_n 1, 1) := by decide +kernel
theorem dX8_paneOfTab_75 : decode cX8_paneOfTab 75 = .ok (.iload 6, 2) := by decide +kernel
theorem dX8_paneOfTab_77 : decode cX8_paneOfTab 77 = .ok (.invokevirtual 450, 3) := by decide +kernel
theorem dX8_paneOfTab_80 : decode cX8_paneOfTab 80 = .ok (.ireturn, 1) := by decide +kernel
abbrev rmX8_paneOfTab : Room := { frames := 3, cells := 0, slots := 0, locals := 90 }
theorem hdX8_paneOfTab : yX8_paneOfTab.cls ≠ "java/lang/invoke/MethodHandle" ∧ yX8_paneOfTab.cls ≠ "java/lang/invoke/VarHandle" ∧ (parseMethodDescriptor yX8_paneOfTab.desc).map (fun d => d.parameters.length) = some 2 := by decide +kernel
def fX8_paneOfTab_65 (σ : Sg) (l1 : Int32) (s0 : Int32) : Option Int32 :=
  (fX1_shownTabAt σ (1 + 5) l1 s0).bind fun r7 =>
  some r7
theorem bX8_paneOfTab_65 {X : Xc} {K : Kc} (C : MC X K cX8_paneOfTab 7 RX8 rmX8_paneOfTab) (hr : K.meth.sig.returnType = (some .int)) (σ : Sg) (l1 : Int32) (s0 : Int32) : GO X K 7 (fun r => MQi X K r σ) (fX8_paneOfTab_65 σ l1 s0) σ 0 0 65 [some (.ref (X.ad 0)), some (.int (l1)), none, none, none, none, none] [.int (s0)] := by
  unfold fX8_paneOfTab_65
  refine g_istore (pc := 65) C dX8_paneOfTab_65 (Nat.le_of_ble_eq_true rfl) rfl ?_
  refine g_aload_n (pc := 67) (i := 0) C dX8_paneOfTab_67 rfl rfl ?_
  refine g_getr (pc := 68) (ci := 8) (N := 8) (T := TX8) (j := 0) (Cn := RX8) 1 C rfl inlX8 (Nat.le_of_ble_eq_true rfl) q_1_16 ok_dl rfl dX8_paneOfTab_68 ?_
  refine g_getNr (pc := 71) (ci := 4) (N := 7) (T := TX4) (j := 4) (Cn := RX4) (1 + 5) C rfl inlX4 (Nat.le_of_ble_eq_true rfl) (List.mem_of_getElem? (i := 10) rfl) (blk ok_now 0 rfl) rfl dX8_paneOfTab_71 ?_
  refine g_iload_n (pc := 74) (i := 1) C dX8_paneOfTab_74 rfl rfl ?_
  refine g_iload (pc := 75) C dX8_paneOfTab_75 rfl ?_
  refine g_callVi (pc := 77) (As := [.int (l1), .int (s0)]) C (kX1_shownTabAt X σ (1 + 5) l1 s0 (st_pl ok_now)) (blk (st_pl ok_now) 0 rfl) rfl q_45_17 q_45_18 q_45_19 q_2_23 q_45_20 ⟨rfl, hdX1_shownTabAt⟩ ⟨Nat.le_of_ble_eq_true rfl, Nat.le_of_ble_eq_true rfl, rfl, rfl⟩ ⟨Nat.zero_le _, Nat.zero_le _⟩ (Nat.le_of_ble_eq_true rfl) rfl rfl dX8_paneOfTab_77 (fun r7 _ => ?_)
  exact g_iret (pc := 80) C hr dX8_paneOfTab_80 rfl
def fX8_paneOfTab (σ : Sg) (p1 : Int32) (p2 : Int32) : Option Int32 :=
  (fX1_shownCount σ (1 + 5) p1).bind fun r1 =>
  if 1 ≤ r1 then
    (fX2_columnsOf σ 422 p1).bind fun r2 =>
    if r1 = 0 then none else
    nm (r2 / r1) fun v3 =>
    nm (r1 - 1) fun v4 =>
    if 1 ≤ v3 then
      (fX2_leftOf σ 422 p1).bind fun r5 =>
      if v3 = 0 then none else
      nm (if v4 < ((p2 - r5) / v3) then v4 else ((p2 - r5) / v3)) fun v6 =>
      (fX8_paneOfTab_65 σ p1 v6)
    else
      (fX8_paneOfTab_65 σ p1 v4)
  else
    some (-1)
theorem kX8_paneOfTab (X : Xc) (σ : Sg) (p1 : Int32) (p2 : Int32) : ∀ r, fX8_paneOfTab σ p1 p2 = some r → Met X.l yX8_paneOfTab (wsM yX8_paneOfTab cX8_paneOfTab 7 (some .int)) rmX8_paneOfTab (va_Pc [.ref (X.ad 0), .int p1, .int p2] (PW X σ)) (Qi X r σ) 0 0 X.A := by
  refine mt_of (own := RX8) (lo := [some (.ref (X.ad 0)), some (.int (p1)), some (.int (p2)), none, none, none, none]) (by decide) rfl (Nat.le_of_ble_eq_true rfl) rfl (fun K C hr => ?_)
  unfold fX8_paneOfTab
  refine g_aload_n (pc := 0) (i := 0) C dX8_paneOfTab_0 rfl rfl ?_
  refine g_getr (pc := 1) (ci := 8) (N := 8) (T := TX8) (j := 0) (Cn := RX8) 1 C rfl inlX8 (Nat.le_of_ble_eq_true rfl) q_1_16 ok_dl rfl dX8_paneOfTab_1 ?_
  refine g_getNr (pc := 4) (ci := 4) (N := 7) (T := TX4) (j := 4) (Cn := RX4) (1 + 5) C rfl inlX4 (Nat.le_of_ble_eq_true rfl) (List.mem_of_getElem? (i := 10) rfl) (blk ok_now 0 rfl) rfl dX8_paneOfTab_4 ?_
  refine g_iload_n (pc := 7) (i := 1) C dX8_paneOfTab_7 rfl rfl ?_
  refine g_callVi (pc := 8) (As := [.int (p1)]) C (kX1_shownCount X σ (1 + 5) p1 (st_pl ok_now)) (blk (st_pl ok_now) 0 rfl) rfl q_45_13 q_45_14 q_45_15 q_2_23 q_45_16 ⟨rfl, hdX1_shownCount⟩ ⟨Nat.le_of_ble_eq_true rfl, Nat.le_of_ble_eq_true rfl, rfl, rfl⟩ ⟨Nat.zero_le _, Nat.zero_le _⟩ (Nat.le_of_ble_eq_true rfl) rfl rfl dX8_paneOfTab_8 (fun r1 _ => ?_)
  refine g_istore_n (pc := 11) (i := 3) C dX8_paneOfTab_11 rfl (Nat.le_of_ble_eq_true rfl) rfl ?_
  refine g_iload_n (pc := 12) (i := 3) C dX8_paneOfTab_12 rfl rfl ?_
  refine g_iconst (pc := 13) (v := 1) C dX8_paneOfTab_13 (by decide) ?_
  refine g_icmp_ge (pc := 14) (tgt := 19) C dX8_paneOfTab_14 rfl ?_ ?_
  · refine g_aload_n (pc := 19) (i := 0) C dX8_paneOfTab_19 rfl rfl ?_
    refine g_getr (pc := 20) (ci := 8) (N := 8) (T := TX8) (j := 4) (Cn := RX8) 422 C rfl inlX8 (Nat.le_of_ble_eq_true rfl) q_1_21 ok_dl rfl dX8_paneOfTab_20 ?_
    refine g_iload_n (pc := 23) (i := 1) C dX8_paneOfTab_23 rfl rfl ?_
    refine g_callVi (pc := 24) (As := [.int (p1)]) C (kX2_columnsOf X σ 422 p1 ok_pn) (blk ok_pn 0 rfl) rfl q_26_9 q_26_10 q_26_11 q_1_20 q_26_12 ⟨rfl, hdX2_columnsOf⟩ ⟨Nat.le_of_ble_eq_true rfl, Nat.le_of_ble_eq_true rfl, rfl, rfl⟩ ⟨Nat.zero_le _, Nat.zero_le _⟩ (Nat.le_of_ble_eq_true rfl) rfl rfl dX8_paneOfTab_24 (fun r2 _ => ?_)
    refine g_iload_n (pc := 27) (i := 3) C dX8_paneOfTab_27 rfl rfl ?_
    refine g_idiv (pc := 28) C dX8_paneOfTab_28 ?_
    refine g_nm (fun v3 => ?_)
    refine g_istore (pc := 29) C dX8_paneOfTab_29 (Nat.le_of_ble_eq_true rfl) rfl ?_
    refine g_iload_n (pc := 31) (i := 3) C dX8_paneOfTab_31 rfl rfl ?_
    refine g_iconst (pc := 32) (v := 1) C dX8_paneOfTab_32 (by decide) ?_
    refine g_isub (pc := 33) C dX8_paneOfTab_33 ?_
    refine g_nm (fun v4 => ?_)
    refine g_istore (pc := 34) C dX8_paneOfTab_34 (Nat.le_of_ble_eq_true rfl) rfl ?_
    refine g_iload (pc := 36) C dX8_paneOfTab_36 rfl ?_
    refine g_iconst (pc := 38) (v := 1) C dX8_paneOfTab_38 (by decide) ?_
    refine g_icmp_ge (pc := 39) (tgt := 47) C dX8_paneOfTab_39 rfl ?_ ?_
    · refine g_iload_n (pc := 47) (i := 2) C dX8_paneOfTab_47 rfl rfl ?_
      refine g_aload_n (pc := 48) (i := 0) C dX8_paneOfTab_48 rfl rfl ?_
      refine g_getr (pc := 49) (ci := 8) (N := 8) (T := TX8) (j := 4) (Cn := RX8) 422 C rfl inlX8 (Nat.le_of_ble_eq_true rfl) q_1_21 ok_dl rfl dX8_paneOfTab_49 ?_
      refine g_iload_n (pc := 52) (i := 1) C dX8_paneOfTab_52 rfl rfl ?_
      refine g_callVi (pc := 53) (As := [.int (p1)]) C (kX2_leftOf X σ 422 p1 ok_pn) (blk ok_pn 0 rfl) rfl q_26_1 q_26_2 q_26_3 q_1_20 q_26_4 ⟨rfl, hdX2_leftOf⟩ ⟨Nat.le_of_ble_eq_true rfl, Nat.le_of_ble_eq_true rfl, rfl, rfl⟩ ⟨Nat.zero_le _, Nat.zero_le _⟩ (Nat.le_of_ble_eq_true rfl) rfl rfl dX8_paneOfTab_53 (fun r5 _ => ?_)
      refine g_isub (pc := 56) C dX8_paneOfTab_56 ?_
      refine g_iload (pc := 57) C dX8_paneOfTab_57 rfl ?_
      refine g_idiv (pc := 59) C dX8_paneOfTab_59 ?_
      refine g_iload (pc := 60) C dX8_paneOfTab_60 rfl ?_
      refine g_mmin (pc := 62) C q_8_18 q_8_19 q_8_20 q_8_21 ⟨Nat.le_of_ble_eq_true rfl, Nat.le_of_ble_eq_true rfl⟩ ⟨Nat.le_of_ble_eq_true rfl, Nat.le_of_ble_eq_true rfl⟩ dX8_paneOfTab_62 ?_
      refine g_nm (fun v6 => ?_)
      refine g_keep [true, true, false, false, false, false, false] ?_
      exact bX8_paneOfTab_65 C hr σ p1 v6
    · refine g_iload (pc := 42) C dX8_paneOfTab_42 rfl ?_
      refine g_goto (pc := 44) (tgt := 65) C dX8_paneOfTab_44 rfl ?_
      refine g_keep [true, true, false, false, false, false, false] ?_
      exact bX8_paneOfTab_65 C hr σ p1 v4
  · refine g_iconst (pc := 17) (v := (-1)) C dX8_paneOfTab_17 (by decide) ?_
    exact g_iret (pc := 18) C hr dX8_paneOfTab_18 rfl
theorem dX8_paneAt_0 : decode cX8_paneAt 0 = .ok (.aload_n 0, 1) := by decide +kernel
theorem dX8_paneAt_1 : decode cX8_paneAt 1 = .ok (.aload_n 0, 1) := by decide +kernel
theorem dX8_paneAt_2 : decode cX8_paneAt 2 = .ok (.iload_n 1, 1) := by decide +kernel
theorem dX8_paneAt_3 : decode cX8_paneAt 3 = .ok (.iload_n 2, 1) := by decide +kernel
theorem dX8_paneAt_4 : decode cX8_paneAt 4 = .ok (.invokevirtual 291, 3) := by decide +kernel
theorem dX8_paneAt_7 : decode cX8_paneAt 7 = .ok (.iload_n 1, 1) := by decide +kernel
theorem dX8_paneAt_8 : decode cX8_paneAt 8 = .ok (.iload_n 2, 1) := by decide +kernel
theorem dX8_paneAt_9 : decode cX8_paneAt 9 = .ok (.invokevirtual 294, 3) := by decide +kernel
theorem dX8_paneAt_12 : decode cX8_paneAt 12 = .ok (.istore_n 3, 1) := by decide +kernel
theorem dX8_paneAt_13 : decode cX8_paneAt 13 = .ok (.iload_n 3, 1) := by decide +kernel
theorem dX8_paneAt_14 : decode cX8_paneAt 14 = .ok (.iconst (-1), 1) := by decide +kernel
theorem dX8_paneAt_15 : decode cX8_paneAt 15 = .ok (.if_icmp .ne 5, 3) := by decide +kernel
theorem dX8_paneAt_18 : decode cX8_paneAt 18 = .ok (.iconst (-1), 1) := by decide +kernel
theorem dX8_paneAt_19 : decode cX8_paneAt 19 = .ok (.ireturn, 1) := by decide +kernel
theorem dX8_paneAt_20 : decode cX8_paneAt 20 = .ok (.iload_n 2, 1) := by decide +kernel
theorem dX8_paneAt_21 : decode cX8_paneAt 21 = .ok (.aload_n 0, 1) := by decide +kernel
theorem dX8_paneAt_22 : decode cX8_paneAt 22 = .ok (.getfield 23, 3) := by decide +kernel
theorem dX8_paneAt_25 : decode cX8_paneAt 25 = .ok (.iload_n 3, 1) := by decide +kernel
theorem dX8_paneAt_26 : decode cX8_paneAt 26 = .ok (.invokevirtual 160, 3) := by decide +kernel
theorem dX8_paneAt_29 : decode cX8_paneAt 29 = .ok (.if_icmp .ne 12, 3) := by decide +kernel
theorem dX8_paneAt_32 : decode cX8_paneAt 32 = .ok (.aload_n 0, 1) := by decide +kernel
theorem dX8_paneAt_33 : decode cX8_paneAt 33 = .ok (.iload_n 3, 1) := by decide +kernel
theorem dX8_paneAt_34 : decode cX8_paneAt 34 = .ok (.iload_n 1, 1) := by decide +kernel
theorem dX8_paneAt_35 : decode cX8_paneAt 35 = .ok (.invokevirtual 298, 3) := by decide +kernel
theorem dX8_paneAt_38 : decode cX8_paneAt 38 = .ok (.goto 14, 3) := by decide +kernel
theorem dX8_paneAt_41 : decode cX8_paneAt 41 = .ok (.aload_n 0, 1) := by decide +kernel
theorem dX8_paneAt_42 : decode cX8_paneAt 42 = .ok (.getfield 10, 3) := by decide +kernel
theorem dX8_paneAt_45 : decode cX8_paneAt 45 = .ok (.getfield 77, 3) := by decide +kernel
theorem dX8_paneAt_48 : decode cX8_paneAt 48 = .ok (.iload_n 3, 1) := by decide +kernel
theorem dX8_paneAt_49 : decode cX8_paneAt 49 = .ok (.invokevirtual 136, 3) := by decide +kernel
theorem dX8_paneAt_52 : decode cX8_paneAt 52 = .ok (.ireturn, 1) := by decide +kernel
abbrev rmX8_paneAt : Room := { frames := 4, cells := 0, slots := 0, locals := 116 }
theorem hdX8_paneAt : yX8_paneAt.cls ≠ "java/lang/invoke/MethodHandle" ∧ yX8_paneAt.cls ≠ "java/lang/invoke/VarHandle" ∧ (parseMethodDescriptor yX8_paneAt.desc).map (fun d => d.parameters.length) = some 2 := by decide +kernel
def fX8_paneAt (σ : Sg) (p1 : Int32) (p2 : Int32) : Option Int32 :=
  (fX8_frontWindowAt σ p1 p2).bind fun r1 =>
  (fX8_groupAt σ r1 p1 p2).bind fun r2 =>
  if r2 = (-1) then
    some (-1)
  else
    (fX2_topOf σ 422 r2).bind fun r3 =>
    if p2 = r3 then
      (fX8_paneOfTab σ r2 p1).bind fun r4 =>
      some r4
    else
      (fX1_activeOf σ (1 + 5) r2).bind fun r5 =>
      some r5
theorem kX8_paneAt (X : Xc) (σ : Sg) (p1 : Int32) (p2 : Int32) : ∀ r, fX8_paneAt σ p1 p2 = some r → Met X.l yX8_paneAt (wsM yX8_paneAt cX8_paneAt 4 (some .int)) rmX8_paneAt (va_Pc [.ref (X.ad 0), .int p1, .int p2] (PW X σ)) (Qi X r σ) 0 0 X.A := by
  refine mt_of (own := RX8) (lo := [some (.ref (X.ad 0)), some (.int (p1)), some (.int (p2)), none]) (by decide) rfl (Nat.le_of_ble_eq_true rfl) rfl (fun K C hr => ?_)
  unfold fX8_paneAt
  refine g_aload_n (pc := 0) (i := 0) C dX8_paneAt_0 rfl rfl ?_
  refine g_aload_n (pc := 1) (i := 0) C dX8_paneAt_1 rfl rfl ?_
  refine g_iload_n (pc := 2) (i := 1) C dX8_paneAt_2 rfl rfl ?_
  refine g_iload_n (pc := 3) (i := 2) C dX8_paneAt_3 rfl rfl ?_
  refine g_callVi (pc := 4) (As := [.int (p1), .int (p2)]) C (kX8_frontWindowAt X σ p1 p2) ok_dl rfl q_43_13 q_43_14 q_43_15 q_1_2 q_43_16 ⟨rfl, hdX8_frontWindowAt⟩ ⟨Nat.le_of_ble_eq_true rfl, Nat.le_of_ble_eq_true rfl, rfl, rfl⟩ ⟨Nat.zero_le _, Nat.zero_le _⟩ (Nat.le_of_ble_eq_true rfl) rfl rfl dX8_paneAt_4 (fun r1 _ => ?_)
  refine g_iload_n (pc := 7) (i := 1) C dX8_paneAt_7 rfl rfl ?_
  refine g_iload_n (pc := 8) (i := 2) C dX8_paneAt_8 rfl rfl ?_
  refine g_callVi (pc := 9) (As := [.int (r1), .int (p1), .int (p2)]) C (kX8_groupAt X σ r1 p1 p2) ok_dl rfl q_43_21 q_43_22 q_43_23 q_1_2 q_44_0 ⟨rfl, hdX8_groupAt⟩ ⟨Nat.le_of_ble_eq_true rfl, Nat.le_of_ble_eq_true rfl, rfl, rfl⟩ ⟨Nat.zero_le _, Nat.zero_le _⟩ (Nat.le_of_ble_eq_true rfl) rfl rfl dX8_paneAt_9 (fun r2 _ => ?_)
  refine g_istore_n (pc := 12) (i := 3) C dX8_paneAt_12 rfl (Nat.le_of_ble_eq_true rfl) rfl ?_
  refine g_iload_n (pc := 13) (i := 3) C dX8_paneAt_13 rfl rfl ?_
  refine g_iconst (pc := 14) (v := (-1)) C dX8_paneAt_14 (by decide) ?_
  refine g_icmp_ne (pc := 15) (tgt := 20) C dX8_paneAt_15 rfl ?_ ?_
  · refine g_iconst (pc := 18) (v := (-1)) C dX8_paneAt_18 (by decide) ?_
    exact g_iret (pc := 19) C hr dX8_paneAt_19 rfl
  · refine g_iload_n (pc := 20) (i := 2) C dX8_paneAt_20 rfl rfl ?_
    refine g_aload_n (pc := 21) (i := 0) C dX8_paneAt_21 rfl rfl ?_
    refine g_getr (pc := 22) (ci := 8) (N := 8) (T := TX8) (j := 4) (Cn := RX8) 422 C rfl inlX8 (Nat.le_of_ble_eq_true rfl) q_1_21 ok_dl rfl dX8_paneAt_22 ?_
    refine g_iload_n (pc := 25) (i := 3) C dX8_paneAt_25 rfl rfl ?_
    refine g_callVi (pc := 26) (As := [.int (r2)]) C (kX2_topOf X σ 422 r2 ok_pn) (blk ok_pn 0 rfl) rfl q_26_5 q_26_6 q_26_7 q_1_20 q_26_8 ⟨rfl, hdX2_topOf⟩ ⟨Nat.le_of_ble_eq_true rfl, Nat.le_of_ble_eq_true rfl, rfl, rfl⟩ ⟨Nat.zero_le _, Nat.zero_le _⟩ (Nat.le_of_ble_eq_true rfl) rfl rfl dX8_paneAt_26 (fun r3 _ => ?_)
    refine g_icmp_ne (pc := 29) (tgt := 41) C dX8_paneAt_29 rfl ?_ ?_
    · refine g_aload_n (pc := 32) (i := 0) C dX8_paneAt_32 rfl rfl ?_
      refine g_iload_n (pc := 33) (i := 3) C dX8_paneAt_33 rfl rfl ?_
      refine g_iload_n (pc := 34) (i := 1) C dX8_paneAt_34 rfl rfl ?_
      refine g_callVi (pc := 35) (As := [.int (r2), .int (p1)]) C (kX8_paneOfTab X σ r2 p1) ok_dl rfl q_45_9 q_45_10 q_45_11 q_1_2 q_45_12 ⟨rfl, hdX8_paneOfTab⟩ ⟨Nat.le_of_ble_eq_true rfl, Nat.le_of_ble_eq_true rfl, rfl, rfl⟩ ⟨Nat.zero_le _, Nat.zero_le _⟩ (Nat.le_of_ble_eq_true rfl) rfl rfl dX8_paneAt_35 (fun r4 _ => ?_)
      refine g_goto (pc := 38) (tgt := 52) C dX8_paneAt_38 rfl ?_
      exact g_iret (pc := 52) C hr dX8_paneAt_52 rfl
    · refine g_aload_n (pc := 41) (i := 0) C dX8_paneAt_41 rfl rfl ?_
      refine g_getr (pc := 42) (ci := 8) (N := 8) (T := TX8) (j := 0) (Cn := RX8) 1 C rfl inlX8 (Nat.le_of_ble_eq_true rfl) q_1_16 ok_dl rfl dX8_paneAt_42 ?_
      refine g_getNr (pc := 45) (ci := 4) (N := 7) (T := TX4) (j := 4) (Cn := RX4) (1 + 5) C rfl inlX4 (Nat.le_of_ble_eq_true rfl) (List.mem_of_getElem? (i := 10) rfl) (blk ok_now 0 rfl) rfl dX8_paneAt_45 ?_
      refine g_iload_n (pc := 48) (i := 3) C dX8_paneAt_48 rfl rfl ?_
      refine g_callVi (pc := 49) (As := [.int (r2)]) C (kX1_activeOf X σ (1 + 5) r2 (st_pl ok_now)) (blk (st_pl ok_now) 0 rfl) rfl q_24_21 q_24_22 q_24_23 q_2_23 q_25_0 ⟨rfl, hdX1_activeOf⟩ ⟨Nat.le_of_ble_eq_true rfl, Nat.le_of_ble_eq_true rfl, rfl, rfl⟩ ⟨Nat.zero_le _, Nat.zero_le _⟩ (Nat.le_of_ble_eq_true rfl) rfl rfl dX8_paneAt_49 (fun r5 _ => ?_)
      exact g_iret (pc := 52) C hr dX8_paneAt_52 rfl
theorem dX8_dropAt_0 : decode cX8_dropAt 0 = .ok (.aload_n 0, 1) := by decide +kernel
theorem dX8_dropAt_1 : decode cX8_dropAt 1 = .ok (.aload_n 0, 1) := by decide +kernel
theorem dX8_dropAt_2 : decode cX8_dropAt 2 = .ok (.iload_n 1, 1) := by decide +kernel
theorem dX8_dropAt_3 : decode cX8_dropAt 3 = .ok (.iload_n 2, 1) := by decide +kernel
theorem dX8_dropAt_4 : decode cX8_dropAt 4 = .ok (.invokevirtual 291, 3) := by decide +kernel
theorem dX8_dropAt_7 : decode cX8_dropAt 7 = .ok (.iload_n 1, 1) := by decide +kernel
theorem dX8_dropAt_8 : decode cX8_dropAt 8 = .ok (.iload_n 2, 1) := by decide +kernel
theorem dX8_dropAt_9 : decode cX8_dropAt 9 = .ok (.invokevirtual 294, 3) := by decide +kernel
theorem dX8_dropAt_12 : decode cX8_dropAt 12 = .ok (.istore_n 3, 1) := by decide +kernel
theorem dX8_dropAt_13 : decode cX8_dropAt 13 = .ok (.iload_n 3, 1) := by decide +kernel
theorem dX8_dropAt_14 : decode cX8_dropAt 14 = .ok (.iconst (-1), 1) := by decide +kernel
theorem dX8_dropAt_15 : decode cX8_dropAt 15 = .ok (.if_icmp .ne 5, 3) := by decide +kernel
theorem dX8_dropAt_18 : decode cX8_dropAt 18 = .ok (.iconst (-1), 1) := by decide +kernel
theorem dX8_dropAt_19 : decode cX8_dropAt 19 = .ok (.ireturn, 1) := by decide +kernel
theorem dX8_dropAt_20 : decode cX8_dropAt 20 = .ok (.iload_n 2, 1) := by decide +kernel
theorem dX8_dropAt_21 : decode cX8_dropAt 21 = .ok (.aload_n 0, 1) := by decide +kernel
theorem dX8_dropAt_22 : decode cX8_dropAt 22 = .ok (.getfield 23, 3) := by decide +kernel
theorem dX8_dropAt_25 : decode cX8_dropAt 25 = .ok (.iload_n 3, 1) := by decide +kernel
theorem dX8_dropAt_26 : decode cX8_dropAt 26 = .ok (.invokevirtual 160, 3) := by decide +kernel
theorem dX8_dropAt_29 : decode cX8_dropAt 29 = .ok (.if_icmp .ne 7, 3) := by decide +kernel
theorem dX8_dropAt_32 : decode cX8_dropAt 32 = .ok (.iconst 4, 1) := by decide +kernel
theorem dX8_dropAt_33 : decode cX8_dropAt 33 = .ok (.goto 13, 3) := by decide +kernel
theorem dX8_dropAt_36 : decode cX8_dropAt 36 = .ok (.aload_n 0, 1) := by decide +kernel
theorem dX8_dropAt_37 : decode cX8_dropAt 37 = .ok (.getfield 23, 3) := by decide +kernel
theorem dX8_dropAt_40 : decode cX8_dropAt 40 = .ok (.iload_n 3, 1) := by decide +kernel
theorem dX8_dropAt_41 : decode cX8_dropAt 41 = .ok (.iload_n 1, 1) := by decide +kernel
theorem dX8_dropAt_42 : decode cX8_dropAt 42 = .ok (.iload_n 2, 1) := by decide +kernel
theorem dX8_dropAt_43 : decode cX8_dropAt 43 = .ok (.invokevirtual 301, 3) := by decide +kernel
theorem dX8_dropAt_46 : decode cX8_dropAt 46 = .ok (.istore 4, 2) := by decide +kernel
theorem dX8_dropAt_48 : decode cX8_dropAt 48 = .ok (.bipush 10, 2) := by decide +kernel
theorem dX8_dropAt_50 : decode cX8_dropAt 50 = .ok (.aload_n 0, 1) := by decide +kernel
theorem dX8_dropAt_51 : decode cX8_dropAt 51 = .ok (.getfield 10, 3) := by decide +kernel
theorem dX8_dropAt_54 : decode cX8_dropAt 54 = .ok (.getfield 77, 3) := by decide +kernel
theorem dX8_dropAt_57 : decode cX8_dropAt 57 = .ok (.iload_n 3, 1) := by decide +kernel
theorem dX8_dropAt_58 : decode cX8_dropAt 58 = .ok (.invokevirtual 136, 3) := by decide +kernel
theorem dX8_dropAt_61 : decode cX8_dropAt 61 = .ok (.imul, 1) := by decide +kernel
theorem dX8_dropAt_62 : decode cX8_dropAt 62 = .ok (.iload 4, 2) := by decide +kernel
theorem dX8_dropAt_64 : decode cX8_dropAt 64 = .ok (.iadd, 1) := by decide +kernel
theorem dX8_dropAt_65 : decode cX8_dropAt 65 = .ok (.ireturn, 1) := by decide +kernel
abbrev rmX8_dropAt : Room := { frames := 4, cells := 0, slots := 0, locals := 119 }
theorem hdX8_dropAt : yX8_dropAt.cls ≠ "java/lang/invoke/MethodHandle" ∧ yX8_dropAt.cls ≠ "java/lang/invoke/VarHandle" ∧ (parseMethodDescriptor yX8_dropAt.desc).map (fun d => d.parameters.length) = some 2 := by decide +kernel
def fX8_dropAt_46 (σ : Sg) (l3 : Int32) (s0 : Int32) : Option Int32 :=
  (fX1_activeOf σ (1 + 5) l3).bind fun r5 =>
  some ((10 * r5) + s0)
theorem bX8_dropAt_46 {X : Xc} {K : Kc} (C : MC X K cX8_dropAt 5 RX8 rmX8_dropAt) (hr : K.meth.sig.returnType = (some .int)) (σ : Sg) (l3 : Int32) (s0 : Int32) : GO X K 5 (fun r => MQi X K r σ) (fX8_dropAt_46 σ l3 s0) σ 0 0 46 [some (.ref (X.ad 0)), none, none, some (.int (l3)), none] [.int (s0)] := by
  unfold fX8_dropAt_46
  refine g_istore (pc := 46) C dX8_dropAt_46 (Nat.le_of_ble_eq_true rfl) rfl ?_
  refine g_bipush (pc := 48) (v := 10) C dX8_dropAt_48 (by decide) ?_
  refine g_aload_n (pc := 50) (i := 0) C dX8_dropAt_50 rfl rfl ?_
  refine g_getr (pc := 51) (ci := 8) (N := 8) (T := TX8) (j := 0) (Cn := RX8) 1 C rfl inlX8 (Nat.le_of_ble_eq_true rfl) q_1_16 ok_dl rfl dX8_dropAt_51 ?_
  refine g_getNr (pc := 54) (ci := 4) (N := 7) (T := TX4) (j := 4) (Cn := RX4) (1 + 5) C rfl inlX4 (Nat.le_of_ble_eq_true rfl) (List.mem_of_getElem? (i := 10) rfl) (blk ok_now 0 rfl) rfl dX8_dropAt_54 ?_
  refine g_iload_n (pc := 57) (i := 3) C dX8_dropAt_57 rfl rfl ?_
  refine g_callVi (pc := 58) (As := [.int (l3)]) C (kX1_activeOf X σ (1 + 5) l3 (st_pl ok_now)) (blk (st_pl ok_now) 0 rfl) rfl q_24_21 q_24_22 q_24_23 q_2_23 q_25_0 ⟨rfl, hdX1_activeOf⟩ ⟨Nat.le_of_ble_eq_true rfl, Nat.le_of_ble_eq_true rfl, rfl, rfl⟩ ⟨Nat.zero_le _, Nat.zero_le _⟩ (Nat.le_of_ble_eq_true rfl) rfl rfl dX8_dropAt_58 (fun r5 _ => ?_)
  refine g_imul (pc := 61) C dX8_dropAt_61 ?_
  refine g_iload (pc := 62) C dX8_dropAt_62 rfl ?_
  refine g_iadd (pc := 64) C dX8_dropAt_64 ?_
  exact g_iret (pc := 65) C hr dX8_dropAt_65 rfl
def fX8_dropAt (σ : Sg) (p1 : Int32) (p2 : Int32) : Option Int32 :=
  (fX8_frontWindowAt σ p1 p2).bind fun r1 =>
  (fX8_groupAt σ r1 p1 p2).bind fun r2 =>
  if r2 = (-1) then
    some (-1)
  else
    (fX2_topOf σ 422 r2).bind fun r3 =>
    if p2 = r3 then
      (fX8_dropAt_46 σ r2 4)
    else
      (fX2_sideAt σ 422 r2 p1 p2).bind fun r4 =>
      (fX8_dropAt_46 σ r2 r4)
theorem kX8_dropAt (X : Xc) (σ : Sg) (p1 : Int32) (p2 : Int32) : ∀ r, fX8_dropAt σ p1 p2 = some r → Met X.l yX8_dropAt (wsM yX8_dropAt cX8_dropAt 5 (some .int)) rmX8_dropAt (va_Pc [.ref (X.ad 0), .int p1, .int p2] (PW X σ)) (Qi X r σ) 0 0 X.A := by
  refine mt_of (own := RX8) (lo := [some (.ref (X.ad 0)), some (.int (p1)), some (.int (p2)), none, none]) (by decide) rfl (Nat.le_of_ble_eq_true rfl) rfl (fun K C hr => ?_)
  unfold fX8_dropAt
  refine g_aload_n (pc := 0) (i := 0) C dX8_dropAt_0 rfl rfl ?_
  refine g_aload_n (pc := 1) (i := 0) C dX8_dropAt_1 rfl rfl ?_
  refine g_iload_n (pc := 2) (i := 1) C dX8_dropAt_2 rfl rfl ?_
  refine g_iload_n (pc := 3) (i := 2) C dX8_dropAt_3 rfl rfl ?_
  refine g_callVi (pc := 4) (As := [.int (p1), .int (p2)]) C (kX8_frontWindowAt X σ p1 p2) ok_dl rfl q_43_13 q_43_14 q_43_15 q_1_2 q_43_16 ⟨rfl, hdX8_frontWindowAt⟩ ⟨Nat.le_of_ble_eq_true rfl, Nat.le_of_ble_eq_true rfl, rfl, rfl⟩ ⟨Nat.zero_le _, Nat.zero_le _⟩ (Nat.le_of_ble_eq_true rfl) rfl rfl dX8_dropAt_4 (fun r1 _ => ?_)
  refine g_iload_n (pc := 7) (i := 1) C dX8_dropAt_7 rfl rfl ?_
  refine g_iload_n (pc := 8) (i := 2) C dX8_dropAt_8 rfl rfl ?_
  refine g_callVi (pc := 9) (As := [.int (r1), .int (p1), .int (p2)]) C (kX8_groupAt X σ r1 p1 p2) ok_dl rfl q_43_21 q_43_22 q_43_23 q_1_2 q_44_0 ⟨rfl, hdX8_groupAt⟩ ⟨Nat.le_of_ble_eq_true rfl, Nat.le_of_ble_eq_true rfl, rfl, rfl⟩ ⟨Nat.zero_le _, Nat.zero_le _⟩ (Nat.le_of_ble_eq_true rfl) rfl rfl dX8_dropAt_9 (fun r2 _ => ?_)
  refine g_istore_n (pc := 12) (i := 3) C dX8_dropAt_12 rfl (Nat.le_of_ble_eq_true rfl) rfl ?_
  refine g_iload_n (pc := 13) (i := 3) C dX8_dropAt_13 rfl rfl ?_
  refine g_iconst (pc := 14) (v := (-1)) C dX8_dropAt_14 (by decide) ?_
  refine g_icmp_ne (pc := 15) (tgt := 20) C dX8_dropAt_15 rfl ?_ ?_
  · refine g_iconst (pc := 18) (v := (-1)) C dX8_dropAt_18 (by decide) ?_
    exact g_iret (pc := 19) C hr dX8_dropAt_19 rfl
  · refine g_iload_n (pc := 20) (i := 2) C dX8_dropAt_20 rfl rfl ?_
    refine g_aload_n (pc := 21) (i := 0) C dX8_dropAt_21 rfl rfl ?_
    refine g_getr (pc := 22) (ci := 8) (N := 8) (T := TX8) (j := 4) (Cn := RX8) 422 C rfl inlX8 (Nat.le_of_ble_eq_true rfl) q_1_21 ok_dl rfl dX8_dropAt_22 ?_
    refine g_iload_n (pc := 25) (i := 3) C dX8_dropAt_25 rfl rfl ?_
    refine g_callVi (pc := 26) (As := [.int (r2)]) C (kX2_topOf X σ 422 r2 ok_pn) (blk ok_pn 0 rfl) rfl q_26_5 q_26_6 q_26_7 q_1_20 q_26_8 ⟨rfl, hdX2_topOf⟩ ⟨Nat.le_of_ble_eq_true rfl, Nat.le_of_ble_eq_true rfl, rfl, rfl⟩ ⟨Nat.zero_le _, Nat.zero_le _⟩ (Nat.le_of_ble_eq_true rfl) rfl rfl dX8_dropAt_26 (fun r3 _ => ?_)
    refine g_icmp_ne (pc := 29) (tgt := 36) C dX8_dropAt_29 rfl ?_ ?_
    · refine g_iconst (pc := 32) (v := 4) C dX8_dropAt_32 (by decide) ?_
      refine g_goto (pc := 33) (tgt := 46) C dX8_dropAt_33 rfl ?_
      refine g_keep [true, false, false, true, false] ?_
      exact bX8_dropAt_46 C hr σ r2 4
    · refine g_aload_n (pc := 36) (i := 0) C dX8_dropAt_36 rfl rfl ?_
      refine g_getr (pc := 37) (ci := 8) (N := 8) (T := TX8) (j := 4) (Cn := RX8) 422 C rfl inlX8 (Nat.le_of_ble_eq_true rfl) q_1_21 ok_dl rfl dX8_dropAt_37 ?_
      refine g_iload_n (pc := 40) (i := 3) C dX8_dropAt_40 rfl rfl ?_
      refine g_iload_n (pc := 41) (i := 1) C dX8_dropAt_41 rfl rfl ?_
      refine g_iload_n (pc := 42) (i := 2) C dX8_dropAt_42 rfl rfl ?_
      refine g_callVi (pc := 43) (As := [.int (r2), .int (p1), .int (p2)]) C (kX2_sideAt X σ 422 r2 p1 p2 ok_pn) (blk ok_pn 0 rfl) rfl q_46_5 q_46_6 q_46_7 q_1_20 q_46_8 ⟨rfl, hdX2_sideAt⟩ ⟨Nat.le_of_ble_eq_true rfl, Nat.le_of_ble_eq_true rfl, rfl, rfl⟩ ⟨Nat.zero_le _, Nat.zero_le _⟩ (Nat.le_of_ble_eq_true rfl) rfl rfl dX8_dropAt_43 (fun r4 _ => ?_)
      refine g_keep [true, false, false, true, false] ?_
      exact bX8_dropAt_46 C hr σ r2 r4
theorem dX8_requireSlot_0 : decode cX8_requireSlot 0 = .ok (.iload_n 0, 1) := by decide +kernel
theorem dX8_requireSlot_1 : decode cX8_requireSlot 1 = .ok (.ifCond .lt 8, 3) := by decide +kernel
theorem dX8_requireSlot_4 : decode cX8_requireSlot 4 = .ok (.iload_n 0, 1) := by decide +kernel
theorem dX8_requireSlot_5 : decode cX8_requireSlot 5 = .ok (.iconst 3, 1) := by decide +kernel
theorem dX8_requireSlot_6 : decode cX8_requireSlot 6 = .ok (.if_icmp .lt 14, 3) := by decide +kernel
theorem dX8_requireSlot_9 : decode cX8_requireSlot 9 = .ok (.new 398, 3) := by decide +kernel
theorem dX8_requireSlot_12 : decode cX8_requireSlot 12 = .ok (.dup, 1) := by decide +kernel
theorem dX8_requireSlot_13 : decode cX8_requireSlot 13 = .ok (.ldc_w 405, 3) := by decide +kernel
theorem dX8_requireSlot_16 : decode cX8_requireSlot 16 = .ok (.invokespecial 402, 3) := by decide +kernel
theorem dX8_requireSlot_19 : decode cX8_requireSlot 19 = .ok (.athrow, 1) := by decide +kernel
theorem dX8_requireSlot_20 : decode cX8_requireSlot 20 = .ok (.return_, 1) := by decide +kernel
abbrev rmX8_requireSlot : Room := { frames := 7, cells := 1, slots := 6, locals := 110 }
theorem hdX8_requireSlot : yX8_requireSlot.cls ≠ "java/lang/invoke/MethodHandle" ∧ yX8_requireSlot.cls ≠ "java/lang/invoke/VarHandle" ∧ (parseMethodDescriptor yX8_requireSlot.desc).map (fun d => d.parameters.length) = some 1 := by decide +kernel
def fX8_requireSlot_9 (σ : Sg) : Option (Unit ⊕ Nat) :=
  some (.inr 0)
theorem bX8_requireSlot_9 {X : Xc} {K : Kc} (C : MC X K cX8_requireSlot 1 RX8 rmX8_requireSlot) (hr : K.meth.sig.returnType = none) (hex : K.c.exceptionTable.toList = []) (hfl : X.l.stackTraces = false) (σ : Sg) : GO X K 1 (fun r => XM X K 1 6 (CXv X r σ) (CXx X r σ)) (fX8_requireSlot_9 σ) σ 0 0 9 [none] [] := by
  unfold fX8_requireSlot_9
  exact g_throwW (pc := 9) (e := 0) (cls := "java/lang/IndexOutOfBoundsException") (text := "there is no such slot") (ik := 398) (is := 405) (ic := 402) C hex hfl rfl (by decide +kernel) q_11_11 q_11_12 (List.mem_of_getElem? (i := 14) rfl) (xat_0 C.ts C.k) xgood_0 dX8_requireSlot_9 dX8_requireSlot_12 dX8_requireSlot_13 dX8_requireSlot_16 dX8_requireSlot_19 (Nat.le_of_ble_eq_true rfl) (Nat.le_of_ble_eq_true rfl) (Nat.le_of_ble_eq_true rfl) (Nat.le_of_ble_eq_true rfl) (Nat.le_of_ble_eq_true rfl) (Nat.le_of_ble_eq_true rfl) (fun t hP hF => ⟨(), trivial, ⟨⟨_, rfl, rfl⟩, hP⟩, hF⟩)
def fX8_requireSlot (σ : Sg) (p0 : Int32) : Option (Unit ⊕ Nat) :=
  if p0 < 0 then
    (fX8_requireSlot_9 σ)
  else
    if p0 < 3 then
      some (.inl ())
    else
      (fX8_requireSlot_9 σ)
theorem kX8_requireSlot (X : Xc) (σ : Sg) (p0 : Int32) (hfl : X.l.stackTraces = false) : ∀ r, fX8_requireSlot σ p0 = some r → vx_Met X.l yX8_requireSlot (wsM yX8_requireSlot cX8_requireSlot 1 none) rmX8_requireSlot (va_Pc [.int p0] (PW X σ)) (CXv X r σ) (CXx X r σ) 1 6 X.A := by
  refine xt_of (own := RX8) (lo := [some (.int (p0))]) (by decide) rfl (Nat.le_of_ble_eq_true rfl) rfl (fun K C hr hex => ?_)
  unfold fX8_requireSlot
  refine g_iload_n (pc := 0) (i := 0) C dX8_requireSlot_0 rfl rfl ?_
  refine g_if_lt (pc := 1) (tgt := 9) C dX8_requireSlot_1 rfl ?_ ?_
  · refine g_keep [false] ?_
    refine g_widen (cs' := 0) (ss' := 0) (Nat.le_of_ble_eq_true rfl) (Nat.le_of_ble_eq_true rfl) ?_
    exact bX8_requireSlot_9 C hr hex hfl σ
  · refine g_iload_n (pc := 4) (i := 0) C dX8_requireSlot_4 rfl rfl ?_
    refine g_iconst (pc := 5) (v := 3) C dX8_requireSlot_5 (by decide) ?_
    refine g_icmp_lt (pc := 6) (tgt := 20) C dX8_requireSlot_6 rfl ?_ ?_
    · exact g_xvret (pc := 20) C hr dX8_requireSlot_20 (Nat.le_of_ble_eq_true rfl) (Nat.le_of_ble_eq_true rfl) (fun t hP hF => ⟨⟨(), rfl, rfl, hP⟩, hF⟩)
    · refine g_keep [false] ?_
      refine g_widen (cs' := 0) (ss' := 0) (Nat.le_of_ble_eq_true rfl) (Nat.le_of_ble_eq_true rfl) ?_
      exact bX8_requireSlot_9 C hr hex hfl σ
theorem dX8_store_0 : decode cX8_store 0 = .ok (.iload_n 1, 1) := by decide +kernel
theorem dX8_store_1 : decode cX8_store 1 = .ok (.invokestatic 304, 3) := by decide +kernel
theorem dX8_store_4 : decode cX8_store 4 = .ok (.aload_n 0, 1) := by decide +kernel
theorem dX8_store_5 : decode cX8_store 5 = .ok (.invokevirtual 63, 3) := by decide +kernel
theorem dX8_store_8 : decode cX8_store 8 = .ok (.aload_n 0, 1) := by decide +kernel
theorem dX8_store_9 : decode cX8_store 9 = .ok (.getfield 10, 3) := by decide +kernel
theorem dX8_store_12 : decode cX8_store 12 = .ok (.iload_n 1, 1) := by decide +kernel
theorem dX8_store_13 : decode cX8_store 13 = .ok (.invokevirtual 307, 3) := by decide +kernel
theorem dX8_store_16 : decode cX8_store 16 = .ok (.aload_n 0, 1) := by decide +kernel
theorem dX8_store_17 : decode cX8_store 17 = .ok (.getfield 10, 3) := by decide +kernel
theorem dX8_store_20 : decode cX8_store 20 = .ok (.getfield 86, 3) := by decide +kernel
theorem dX8_store_23 : decode cX8_store 23 = .ok (.invokevirtual 240, 3) := by decide +kernel
theorem dX8_store_26 : decode cX8_store 26 = .ok (.ireturn, 1) := by decide +kernel
abbrev rmX8_store : Room := { frames := 8, cells := 1, slots := 6, locals := 195 }
theorem hdX8_store : yX8_store.cls ≠ "java/lang/invoke/MethodHandle" ∧ yX8_store.cls ≠ "java/lang/invoke/VarHandle" ∧ (parseMethodDescriptor yX8_store.desc).map (fun d => d.parameters.length) = some 1 := by decide +kernel
def fX8_store (σ : Sg) (p1 : Int32) : Option ((Int32 ⊕ Nat) × Sg) :=
  (fX8_requireSlot σ p1).bind fun r1 => xcat r1 (fun e3 => some (.inr e3, σ)) fun w2 =>
  (fX8_keepRecord σ).bind fun σ4 =>
  (fX4_saveSlot σ4 1 p1).bind fun σ5 =>
  (fX0_size σ5 (1 + 3)).bind fun r6 =>
  some (.inl r6, σ5)
theorem kX8_store (X : Xc) (σ : Sg) (p1 : Int32) (hfl : X.l.stackTraces = false) : ∀ r, fX8_store σ p1 = some r → vx_Met X.l yX8_store (wsM yX8_store cX8_store 2 (some .int)) rmX8_store (va_Pc [.ref (X.ad 0), .int p1] (PW X σ)) (CXi X r.1 r.2) (CXx X r.1 r.2) 1 6 X.A := by
  refine xt_of (own := RX8) (lo := [some (.ref (X.ad 0)), some (.int (p1))]) (by decide) rfl (Nat.le_of_ble_eq_true rfl) rfl (fun K C hr hex => ?_)
  unfold fX8_store
  refine g_iload_n (pc := 0) (i := 1) C dX8_store_0 rfl rfl ?_
  refine g_xcallSv (pc := 1) (As := [.int (p1)]) C (kX8_requireSlot X σ p1 hfl) q_46_20 q_46_21 q_1_2 q_46_22 hdX8_requireSlot ⟨Nat.le_of_ble_eq_true rfl, Nat.le_of_ble_eq_true rfl, rfl, rfl, Nat.le_of_ble_eq_true rfl, Nat.le_of_ble_eq_true rfl⟩ (Nat.le_of_ble_eq_true rfl) rfl rfl dX8_store_1 (fun r1 e3 _ _ => ?_) (fun r1 w2 _ _ => ?_)
  · exact gx_out C hex (Nat.le_of_ble_eq_true rfl) (Nat.le_of_ble_eq_true rfl) (fun t hP hF => ⟨(), trivial, ⟨⟨_, rfl, rfl⟩, hP⟩, hF⟩)
  refine g_aload_n (pc := 4) (i := 0) C dX8_store_4 rfl rfl ?_
  refine g_callVv (pc := 5) (As := []) C (kX8_keepRecord X σ) ok_dl rfl q_7_21 q_7_22 q_7_23 q_1_2 q_8_0 ⟨rfl, hdX8_keepRecord⟩ ⟨Nat.le_of_ble_eq_true rfl, Nat.le_of_ble_eq_true rfl, rfl, rfl⟩ ⟨Nat.le_of_ble_eq_true rfl, Nat.le_of_ble_eq_true rfl⟩ (Nat.le_of_ble_eq_true rfl) rfl rfl dX8_store_5 (fun σ4 _ => ?_)
  refine g_aload_n (pc := 8) (i := 0) C dX8_store_8 rfl rfl ?_
  refine g_getr (pc := 9) (ci := 8) (N := 8) (T := TX8) (j := 0) (Cn := RX8) 1 C rfl inlX8 (Nat.le_of_ble_eq_true rfl) q_1_16 ok_dl rfl dX8_store_9 ?_
  refine g_iload_n (pc := 12) (i := 1) C dX8_store_12 rfl rfl ?_
  refine g_callVv (pc := 13) (As := [.int (p1)]) C (kX4_saveSlot X σ4 1 p1 ok_now) (blk ok_now 0 rfl) rfl q_46_23 q_47_0 q_47_1 q_1_15 q_47_2 ⟨rfl, hdX4_saveSlot⟩ ⟨Nat.le_of_ble_eq_true rfl, Nat.le_of_ble_eq_true rfl, rfl, rfl⟩ ⟨Nat.le_of_ble_eq_true rfl, Nat.le_of_ble_eq_true rfl⟩ (Nat.le_of_ble_eq_true rfl) rfl rfl dX8_store_13 (fun σ5 _ => ?_)
  refine g_aload_n (pc := 16) (i := 0) C dX8_store_16 rfl rfl ?_
  refine g_getr (pc := 17) (ci := 8) (N := 8) (T := TX8) (j := 0) (Cn := RX8) 1 C rfl inlX8 (Nat.le_of_ble_eq_true rfl) q_1_16 ok_dl rfl dX8_store_17 ?_
  refine g_getNr (pc := 20) (ci := 4) (N := 7) (T := TX4) (j := 3) (Cn := RX4) (1 + 3) C rfl inlX4 (Nat.le_of_ble_eq_true rfl) (List.mem_of_getElem? (i := 11) rfl) (blk ok_now 0 rfl) rfl dX8_store_20 ?_
  refine g_callVi (pc := 23) (As := []) C (kX0_size X σ5 (1 + 3) (st_or ok_now)) (blk (st_or ok_now) 0 rfl) rfl q_37_0 q_37_1 q_37_2 q_2_19 q_37_3 ⟨rfl, hdX0_size⟩ ⟨Nat.le_of_ble_eq_true rfl, Nat.le_of_ble_eq_true rfl, rfl, rfl⟩ ⟨Nat.le_of_ble_eq_true rfl, Nat.le_of_ble_eq_true rfl⟩ (Nat.le_of_ble_eq_true rfl) rfl rfl dX8_store_23 (fun r6 _ => ?_)
  exact g_xiret (pc := 26) C hr dX8_store_26 (Nat.le_of_ble_eq_true rfl) (Nat.le_of_ble_eq_true rfl) (fun t hP hF => ⟨⟨_, (), rfl, rfl, hP⟩, hF⟩)
theorem dX8_restore_0 : decode cX8_restore 0 = .ok (.iload_n 1, 1) := by decide +kernel
theorem dX8_restore_1 : decode cX8_restore 1 = .ok (.invokestatic 304, 3) := by decide +kernel
theorem dX8_restore_4 : decode cX8_restore 4 = .ok (.aload_n 0, 1) := by decide +kernel
theorem dX8_restore_5 : decode cX8_restore 5 = .ok (.getfield 10, 3) := by decide +kernel
theorem dX8_restore_8 : decode cX8_restore 8 = .ok (.iload_n 1, 1) := by decide +kernel
theorem dX8_restore_9 : decode cX8_restore 9 = .ok (.invokevirtual 310, 3) := by decide +kernel
theorem dX8_restore_12 : decode cX8_restore 12 = .ok (.ifCond .ne 14, 3) := by decide +kernel
theorem dX8_restore_15 : decode cX8_restore 15 = .ok (.new 56, 3) := by decide +kernel
theorem dX8_restore_18 : decode cX8_restore 18 = .ok (.dup, 1) := by decide +kernel
theorem dX8_restore_19 : decode cX8_restore 19 = .ok (.ldc_w 313, 3) := by decide +kernel
theorem dX8_restore_22 : decode cX8_restore 22 = .ok (.invokespecial 60, 3) := by decide +kernel
theorem dX8_restore_25 : decode cX8_restore 25 = .ok (.athrow, 1) := by decide +kernel
theorem dX8_restore_26 : decode cX8_restore 26 = .ok (.aload_n 0, 1) := by decide +kernel
theorem dX8_restore_27 : decode cX8_restore 27 = .ok (.invokevirtual 63, 3) := by decide +kernel
theorem dX8_restore_30 : decode cX8_restore 30 = .ok (.aload_n 0, 1) := by decide +kernel
theorem dX8_restore_31 : decode cX8_restore 31 = .ok (.getfield 10, 3) := by decide +kernel
theorem dX8_restore_34 : decode cX8_restore 34 = .ok (.iload_n 1, 1) := by decide +kernel
theorem dX8_restore_35 : decode cX8_restore 35 = .ok (.invokevirtual 315, 3) := by decide +kernel
theorem dX8_restore_38 : decode cX8_restore 38 = .ok (.aload_n 0, 1) := by decide +kernel
theorem dX8_restore_39 : decode cX8_restore 39 = .ok (.getfield 23, 3) := by decide +kernel
theorem dX8_restore_42 : decode cX8_restore 42 = .ok (.aload_n 0, 1) := by decide +kernel
theorem dX8_restore_43 : decode cX8_restore 43 = .ok (.getfield 10, 3) := by decide +kernel
theorem dX8_restore_46 : decode cX8_restore 46 = .ok (.invokevirtual 98, 3) := by decide +kernel
theorem dX8_restore_49 : decode cX8_restore 49 = .ok (.aload_n 0, 1) := by decide +kernel
theorem dX8_restore_50 : decode cX8_restore 50 = .ok (.getfield 10, 3) := by decide +kernel
theorem dX8_restore_53 : decode cX8_restore 53 = .ok (.getfield 86, 3) := by decide +kernel
theorem dX8_restore_56 : decode cX8_restore 56 = .ok (.invokevirtual 240, 3) := by decide +kernel
theorem dX8_restore_59 : decode cX8_restore 59 = .ok (.ireturn, 1) := by decide +kernel
abbrev rmX8_restore : Room := { frames := 8, cells := 2, slots := 12, locals := 213 }
theorem hdX8_restore : yX8_restore.cls ≠ "java/lang/invoke/MethodHandle" ∧ yX8_restore.cls ≠ "java/lang/invoke/VarHandle" ∧ (parseMethodDescriptor yX8_restore.desc).map (fun d => d.parameters.length) = some 1 := by decide +kernel
def fX8_restore (σ : Sg) (p1 : Int32) : Option ((Int32 ⊕ Nat) × Sg) :=
  (fX8_requireSlot σ p1).bind fun r1 => xcat r1 (fun e3 => some (.inr e3, σ)) fun w2 =>
  (fX4_isSaved σ 1 p1).bind fun r4 =>
  if r4 = true then
    (fX8_keepRecord σ).bind fun σ5 =>
    (fX4_loadSlot σ5 1 p1).bind fun σ6 =>
    (fX2_compute σ6 422 1).bind fun σ7 =>
    (fX0_size σ7 (1 + 3)).bind fun r8 =>
    some (.inl r8, σ7)
  else
    some (.inr 2, σ)
theorem kX8_restore (X : Xc) (σ : Sg) (p1 : Int32) (hfl : X.l.stackTraces = false) : ∀ r, fX8_restore σ p1 = some r → vx_Met X.l yX8_restore (wsM yX8_restore cX8_restore 2 (some .int)) rmX8_restore (va_Pc [.ref (X.ad 0), .int p1] (PW X σ)) (CXi X r.1 r.2) (CXx X r.1 r.2) 2 12 X.A := by
  refine xt_of (own := RX8) (lo := [some (.ref (X.ad 0)), some (.int (p1))]) (by decide) rfl (Nat.le_of_ble_eq_true rfl) rfl (fun K C hr hex => ?_)
  unfold fX8_restore
  refine g_iload_n (pc := 0) (i := 1) C dX8_restore_0 rfl rfl ?_
  refine g_xcallSv (pc := 1) (As := [.int (p1)]) C (kX8_requireSlot X σ p1 hfl) q_46_20 q_46_21 q_1_2 q_46_22 hdX8_requireSlot ⟨Nat.le_of_ble_eq_true rfl, Nat.le_of_ble_eq_true rfl, rfl, rfl, Nat.le_of_ble_eq_true rfl, Nat.le_of_ble_eq_true rfl⟩ (Nat.le_of_ble_eq_true rfl) rfl rfl dX8_restore_1 (fun r1 e3 _ _ => ?_) (fun r1 w2 _ _ => ?_)
  · exact gx_out C hex (Nat.le_of_ble_eq_true rfl) (Nat.le_of_ble_eq_true rfl) (fun t hP hF => ⟨(), trivial, ⟨⟨_, rfl, rfl⟩, hP⟩, hF⟩)
  refine g_aload_n (pc := 4) (i := 0) C dX8_restore_4 rfl rfl ?_
  refine g_getr (pc := 5) (ci := 8) (N := 8) (T := TX8) (j := 0) (Cn := RX8) 1 C rfl inlX8 (Nat.le_of_ble_eq_true rfl) q_1_16 ok_dl rfl dX8_restore_5 ?_
  refine g_iload_n (pc := 8) (i := 1) C dX8_restore_8 rfl rfl ?_
  refine g_callVi (pc := 9) (As := [.int (p1)]) C (kX4_isSaved X σ 1 p1 ok_now) (blk ok_now 0 rfl) rfl q_47_14 q_47_15 q_47_16 q_1_15 q_47_17 ⟨rfl, hdX4_isSaved⟩ ⟨Nat.le_of_ble_eq_true rfl, Nat.le_of_ble_eq_true rfl, rfl, rfl⟩ ⟨Nat.le_of_ble_eq_true rfl, Nat.le_of_ble_eq_true rfl⟩ (Nat.le_of_ble_eq_true rfl) rfl rfl dX8_restore_9 (fun r4 _ => ?_)
  refine g_ifb_ne (pc := 12) (tgt := 26) C dX8_restore_12 rfl ?_ ?_
  · refine g_aload_n (pc := 26) (i := 0) C dX8_restore_26 rfl rfl ?_
    refine g_callVv (pc := 27) (As := []) C (kX8_keepRecord X σ) ok_dl rfl q_7_21 q_7_22 q_7_23 q_1_2 q_8_0 ⟨rfl, hdX8_keepRecord⟩ ⟨Nat.le_of_ble_eq_true rfl, Nat.le_of_ble_eq_true rfl, rfl, rfl⟩ ⟨Nat.le_of_ble_eq_true rfl, Nat.le_of_ble_eq_true rfl⟩ (Nat.le_of_ble_eq_true rfl) rfl rfl dX8_restore_27 (fun σ5 _ => ?_)
    refine g_aload_n (pc := 30) (i := 0) C dX8_restore_30 rfl rfl ?_
    refine g_getr (pc := 31) (ci := 8) (N := 8) (T := TX8) (j := 0) (Cn := RX8) 1 C rfl inlX8 (Nat.le_of_ble_eq_true rfl) q_1_16 ok_dl rfl dX8_restore_31 ?_
    refine g_iload_n (pc := 34) (i := 1) C dX8_restore_34 rfl rfl ?_
    refine g_callVv (pc := 35) (As := [.int (p1)]) C (kX4_loadSlot X σ5 1 p1 ok_now) (blk ok_now 0 rfl) rfl q_47_18 q_47_19 q_47_20 q_1_15 q_47_21 ⟨rfl, hdX4_loadSlot⟩ ⟨Nat.le_of_ble_eq_true rfl, Nat.le_of_ble_eq_true rfl, rfl, rfl⟩ ⟨Nat.le_of_ble_eq_true rfl, Nat.le_of_ble_eq_true rfl⟩ (Nat.le_of_ble_eq_true rfl) rfl rfl dX8_restore_35 (fun σ6 _ => ?_)
    refine g_aload_n (pc := 38) (i := 0) C dX8_restore_38 rfl rfl ?_
    refine g_getr (pc := 39) (ci := 8) (N := 8) (T := TX8) (j := 4) (Cn := RX8) 422 C rfl inlX8 (Nat.le_of_ble_eq_true rfl) q_1_21 ok_dl rfl dX8_restore_39 ?_
    refine g_aload_n (pc := 42) (i := 0) C dX8_restore_42 rfl rfl ?_
    refine g_getr (pc := 43) (ci := 8) (N := 8) (T := TX8) (j := 0) (Cn := RX8) 1 C rfl inlX8 (Nat.le_of_ble_eq_true rfl) q_1_16 ok_dl rfl dX8_restore_43 ?_
    refine g_callVv (pc := 46) (As := [.ref (X.ad 1)]) C (kX2_compute X σ6 422 1 ok_pn ok_now) (blk ok_pn 0 rfl) rfl q_15_1 q_15_2 q_15_3 q_1_20 q_15_4 ⟨rfl, hdX2_compute⟩ ⟨Nat.le_of_ble_eq_true rfl, Nat.le_of_ble_eq_true rfl, rfl, rfl⟩ ⟨Nat.le_of_ble_eq_true rfl, Nat.le_of_ble_eq_true rfl⟩ (Nat.le_of_ble_eq_true rfl) rfl rfl dX8_restore_46 (fun σ7 _ => ?_)
    refine g_aload_n (pc := 49) (i := 0) C dX8_restore_49 rfl rfl ?_
    refine g_getr (pc := 50) (ci := 8) (N := 8) (T := TX8) (j := 0) (Cn := RX8) 1 C rfl inlX8 (Nat.le_of_ble_eq_true rfl) q_1_16 ok_dl rfl dX8_restore_50 ?_
    refine g_getNr (pc := 53) (ci := 4) (N := 7) (T := TX4) (j := 3) (Cn := RX4) (1 + 3) C rfl inlX4 (Nat.le_of_ble_eq_true rfl) (List.mem_of_getElem? (i := 11) rfl) (blk ok_now 0 rfl) rfl dX8_restore_53 ?_
    refine g_callVi (pc := 56) (As := []) C (kX0_size X σ7 (1 + 3) (st_or ok_now)) (blk (st_or ok_now) 0 rfl) rfl q_37_0 q_37_1 q_37_2 q_2_19 q_37_3 ⟨rfl, hdX0_size⟩ ⟨Nat.le_of_ble_eq_true rfl, Nat.le_of_ble_eq_true rfl, rfl, rfl⟩ ⟨Nat.le_of_ble_eq_true rfl, Nat.le_of_ble_eq_true rfl⟩ (Nat.le_of_ble_eq_true rfl) rfl rfl dX8_restore_56 (fun r8 _ => ?_)
    exact g_xiret (pc := 59) C hr dX8_restore_59 (Nat.le_of_ble_eq_true rfl) (Nat.le_of_ble_eq_true rfl) (fun t hP hF => ⟨⟨_, (), rfl, rfl, hP⟩, hF⟩)
  · exact g_throwW (pc := 15) (e := 2) (cls := "java/lang/IllegalStateException") (text := "nothing is saved in the slot") (ik := 56) (is := 313) (ic := 60) C hex hfl rfl (by decide +kernel) q_7_2 q_7_3 (List.mem_of_getElem? (i := 7) rfl) (xat_2 C.ts C.k) xgood_2 dX8_restore_15 dX8_restore_18 dX8_restore_19 dX8_restore_22 dX8_restore_25 (Nat.le_of_ble_eq_true rfl) (Nat.le_of_ble_eq_true rfl) (Nat.le_of_ble_eq_true rfl) (Nat.le_of_ble_eq_true rfl) (Nat.le_of_ble_eq_true rfl) (Nat.le_of_ble_eq_true rfl) (fun t hP hF => ⟨(), trivial, ⟨⟨_, rfl, rfl⟩, hP⟩, hF⟩)
theorem dX8_type_0 : decode cX8_type 0 = .ok (.iload_n 1, 1) := by decide +kernel
theorem dX8_type_1 : decode cX8_type 1 = .ok (.bipush 32, 2) := by decide +kernel
theorem dX8_type_3 : decode cX8_type 3 = .ok (.bipush 126, 2) := by decide +kernel
theorem dX8_type_5 : decode cX8_type 5 = .ok (.invokestatic 123, 3) := by decide +kernel
theorem dX8_type_8 : decode cX8_type 8 = .ok (.aload_n 0, 1) := by decide +kernel
theorem dX8_type_9 : decode cX8_type 9 = .ok (.getfield 30, 3) := by decide +kernel
theorem dX8_type_12 : decode cX8_type 12 = .ok (.invokevirtual 318, 3) := by decide +kernel
theorem dX8_type_15 : decode cX8_type 15 = .ok (.bipush 120, 2) := by decide +kernel
theorem dX8_type_17 : decode cX8_type 17 = .ok (.if_icmp .lt 14, 3) := by decide +kernel
theorem dX8_type_20 : decode cX8_type 20 = .ok (.new 56, 3) := by decide +kernel
theorem dX8_type_23 : decode cX8_type 23 = .ok (.dup, 1) := by decide +kernel
theorem dX8_type_24 : decode cX8_type 24 = .ok (.ldc_w 321, 3) := by decide +kernel
theorem dX8_type_27 : decode cX8_type 27 = .ok (.invokespecial 60, 3) := by decide +kernel
theorem dX8_type_30 : decode cX8_type 30 = .ok (.athrow, 1) := by decide +kernel
theorem dX8_type_31 : decode cX8_type 31 = .ok (.aload_n 0, 1) := by decide +kernel
theorem dX8_type_32 : decode cX8_type 32 = .ok (.getfield 30, 3) := by decide +kernel
theorem dX8_type_35 : decode cX8_type 35 = .ok (.iload_n 1, 1) := by decide +kernel
theorem dX8_type_36 : decode cX8_type 36 = .ok (.invokevirtual 323, 3) := by decide +kernel
theorem dX8_type_39 : decode cX8_type 39 = .ok (.aload_n 0, 1) := by decide +kernel
theorem dX8_type_40 : decode cX8_type 40 = .ok (.getfield 30, 3) := by decide +kernel
theorem dX8_type_43 : decode cX8_type 43 = .ok (.invokevirtual 318, 3) := by decide +kernel
theorem dX8_type_46 : decode cX8_type 46 = .ok (.ireturn, 1) := by decide +kernel
abbrev rmX8_type : Room := { frames := 8, cells := 2, slots := 12, locals := 132 }
theorem hdX8_type : yX8_type.cls ≠ "java/lang/invoke/MethodHandle" ∧ yX8_type.cls ≠ "java/lang/invoke/VarHandle" ∧ (parseMethodDescriptor yX8_type.desc).map (fun d => d.parameters.length) = some 1 := by decide +kernel
def fX8_type (σ : Sg) (p1 : Int32) : Option ((Int32 ⊕ Nat) × Sg) :=
  (fX8_requireRange σ p1 32 126).bind fun r1 => xcat r1 (fun e3 => some (.inr e3, σ)) fun w2 =>
  (fX5_length σ 438).bind fun r4 =>
  if r4 < 120 then
    (fX5_append σ 438 p1).bind fun σ5 =>
    (fX5_length σ5 438).bind fun r6 =>
    some (.inl r6, σ5)
  else
    some (.inr 2, σ)
theorem kX8_type (X : Xc) (σ : Sg) (p1 : Int32) (hfl : X.l.stackTraces = false) : ∀ r, fX8_type σ p1 = some r → vx_Met X.l yX8_type (wsM yX8_type cX8_type 2 (some .int)) rmX8_type (va_Pc [.ref (X.ad 0), .int p1] (PW X σ)) (CXi X r.1 r.2) (CXx X r.1 r.2) 2 12 X.A := by
  refine xt_of (own := RX8) (lo := [some (.ref (X.ad 0)), some (.int (p1))]) (by decide) rfl (Nat.le_of_ble_eq_true rfl) rfl (fun K C hr hex => ?_)
  unfold fX8_type
  refine g_iload_n (pc := 0) (i := 1) C dX8_type_0 rfl rfl ?_
  refine g_bipush (pc := 1) (v := 32) C dX8_type_1 (by decide) ?_
  refine g_bipush (pc := 3) (v := 126) C dX8_type_3 (by decide) ?_
  refine g_xcallSv (pc := 5) (As := [.int (p1), .int (32), .int (126)]) C (kX8_requireRange X σ p1 32 126 hfl) q_7_7 q_7_8 q_1_2 q_7_9 hdX8_requireRange ⟨Nat.le_of_ble_eq_true rfl, Nat.le_of_ble_eq_true rfl, rfl, rfl, Nat.le_of_ble_eq_true rfl, Nat.le_of_ble_eq_true rfl⟩ (Nat.le_of_ble_eq_true rfl) rfl rfl dX8_type_5 (fun r1 e3 _ _ => ?_) (fun r1 w2 _ _ => ?_)
  · exact gx_out C hex (Nat.le_of_ble_eq_true rfl) (Nat.le_of_ble_eq_true rfl) (fun t hP hF => ⟨(), trivial, ⟨⟨_, rfl, rfl⟩, hP⟩, hF⟩)
  refine g_aload_n (pc := 8) (i := 0) C dX8_type_8 rfl rfl ?_
  refine g_getr (pc := 9) (ci := 8) (N := 8) (T := TX8) (j := 5) (Cn := RX8) 438 C rfl inlX8 (Nat.le_of_ble_eq_true rfl) q_2_1 ok_dl rfl dX8_type_9 ?_
  refine g_callVi (pc := 12) (As := []) C (kX5_length X σ 438 ok_tx) (blk ok_tx 0 rfl) rfl q_48_23 q_49_0 q_49_1 q_2_0 q_49_2 ⟨rfl, hdX5_length⟩ ⟨Nat.le_of_ble_eq_true rfl, Nat.le_of_ble_eq_true rfl, rfl, rfl⟩ ⟨Nat.le_of_ble_eq_true rfl, Nat.le_of_ble_eq_true rfl⟩ (Nat.le_of_ble_eq_true rfl) rfl rfl dX8_type_12 (fun r4 _ => ?_)
  refine g_bipush (pc := 15) (v := 120) C dX8_type_15 (by decide) ?_
  refine g_icmp_lt (pc := 17) (tgt := 31) C dX8_type_17 rfl ?_ ?_
  · refine g_aload_n (pc := 31) (i := 0) C dX8_type_31 rfl rfl ?_
    refine g_getr (pc := 32) (ci := 8) (N := 8) (T := TX8) (j := 5) (Cn := RX8) 438 C rfl inlX8 (Nat.le_of_ble_eq_true rfl) q_2_1 ok_dl rfl dX8_type_32 ?_
    refine g_iload_n (pc := 35) (i := 1) C dX8_type_35 rfl rfl ?_
    refine g_callVv (pc := 36) (As := [.int (p1)]) C (kX5_append X σ 438 p1 ok_tx) (blk ok_tx 0 rfl) rfl q_49_4 q_49_5 q_49_6 q_2_0 q_49_7 ⟨rfl, hdX5_append⟩ ⟨Nat.le_of_ble_eq_true rfl, Nat.le_of_ble_eq_true rfl, rfl, rfl⟩ ⟨Nat.le_of_ble_eq_true rfl, Nat.le_of_ble_eq_true rfl⟩ (Nat.le_of_ble_eq_true rfl) rfl rfl dX8_type_36 (fun σ5 _ => ?_)
    refine g_aload_n (pc := 39) (i := 0) C dX8_type_39 rfl rfl ?_
    refine g_getr (pc := 40) (ci := 8) (N := 8) (T := TX8) (j := 5) (Cn := RX8) 438 C rfl inlX8 (Nat.le_of_ble_eq_true rfl) q_2_1 ok_dl rfl dX8_type_40 ?_
    refine g_callVi (pc := 43) (As := []) C (kX5_length X σ5 438 ok_tx) (blk ok_tx 0 rfl) rfl q_48_23 q_49_0 q_49_1 q_2_0 q_49_2 ⟨rfl, hdX5_length⟩ ⟨Nat.le_of_ble_eq_true rfl, Nat.le_of_ble_eq_true rfl, rfl, rfl⟩ ⟨Nat.le_of_ble_eq_true rfl, Nat.le_of_ble_eq_true rfl⟩ (Nat.le_of_ble_eq_true rfl) rfl rfl dX8_type_43 (fun r6 _ => ?_)
    exact g_xiret (pc := 46) C hr dX8_type_46 (Nat.le_of_ble_eq_true rfl) (Nat.le_of_ble_eq_true rfl) (fun t hP hF => ⟨⟨_, (), rfl, rfl, hP⟩, hF⟩)
  · exact g_throwW (pc := 20) (e := 2) (cls := "java/lang/IllegalStateException") (text := "the text has 120 characters") (ik := 56) (is := 321) (ic := 60) C hex hfl rfl (by decide +kernel) q_7_2 q_7_3 (List.mem_of_getElem? (i := 8) rfl) (xat_2 C.ts C.k) xgood_2 dX8_type_20 dX8_type_23 dX8_type_24 dX8_type_27 dX8_type_30 (Nat.le_of_ble_eq_true rfl) (Nat.le_of_ble_eq_true rfl) (Nat.le_of_ble_eq_true rfl) (Nat.le_of_ble_eq_true rfl) (Nat.le_of_ble_eq_true rfl) (Nat.le_of_ble_eq_true rfl) (fun t hP hF => ⟨(), trivial, ⟨⟨_, rfl, rfl⟩, hP⟩, hF⟩)
theorem dX8_clearText_0 : decode cX8_clearText 0 = .ok (.aload_n 0, 1) := by decide +kernel
theorem dX8_clearText_1 : decode cX8_clearText 1 = .ok (.getfield 30, 3) := by decide +kernel
theorem dX8_clearText_4 : decode cX8_clearText 4 = .ok (.invokevirtual 318, 3) := by decide +kernel
theorem dX8_clearText_7 : decode cX8_clearText 7 = .ok (.istore_n 1, 1) := by decide +kernel
theorem dX8_clearText_8 : decode cX8_clearText 8 = .ok (.aload_n 0, 1) := by decide +kernel
theorem dX8_clearText_9 : decode cX8_clearText 9 = .ok (.getfield 30, 3) := by decide +kernel
theorem dX8_clearText_12 : decode cX8_clearText 12 = .ok (.invokevirtual 326, 3) := by decide +kernel
theorem dX8_clearText_15 : decode cX8_clearText 15 = .ok (.iload_n 1, 1) := by decide +kernel
theorem dX8_clearText_16 : decode cX8_clearText 16 = .ok (.ireturn, 1) := by decide +kernel
abbrev rmX8_clearText : Room := { frames := 1, cells := 0, slots := 0, locals := 20 }
theorem hdX8_clearText : yX8_clearText.cls ≠ "java/lang/invoke/MethodHandle" ∧ yX8_clearText.cls ≠ "java/lang/invoke/VarHandle" ∧ (parseMethodDescriptor yX8_clearText.desc).map (fun d => d.parameters.length) = some 0 := by decide +kernel
def fX8_clearText (σ : Sg) : Option (Int32 × Sg) :=
  (fX5_length σ 438).bind fun r1 =>
  (fX5_empty σ 438).bind fun σ2 =>
  some (r1, σ2)
theorem kX8_clearText (X : Xc) (σ : Sg) : ∀ r, fX8_clearText σ = some r → Met X.l yX8_clearText (wsM yX8_clearText cX8_clearText 2 (some .int)) rmX8_clearText (va_Pc [.ref (X.ad 0)] (PW X σ)) (Qi X r.1 r.2) 0 0 X.A := by
  refine mt_of (own := RX8) (lo := [some (.ref (X.ad 0)), none]) (by decide) rfl (Nat.le_of_ble_eq_true rfl) rfl (fun K C hr => ?_)
  unfold fX8_clearText
  refine g_aload_n (pc := 0) (i := 0) C dX8_clearText_0 rfl rfl ?_
  refine g_getr (pc := 1) (ci := 8) (N := 8) (T := TX8) (j := 5) (Cn := RX8) 438 C rfl inlX8 (Nat.le_of_ble_eq_true rfl) q_2_1 ok_dl rfl dX8_clearText_1 ?_
  refine g_callVi (pc := 4) (As := []) C (kX5_length X σ 438 ok_tx) (blk ok_tx 0 rfl) rfl q_48_23 q_49_0 q_49_1 q_2_0 q_49_2 ⟨rfl, hdX5_length⟩ ⟨Nat.le_of_ble_eq_true rfl, Nat.le_of_ble_eq_true rfl, rfl, rfl⟩ ⟨Nat.zero_le _, Nat.zero_le _⟩ (Nat.le_of_ble_eq_true rfl) rfl rfl dX8_clearText_4 (fun r1 _ => ?_)
  refine g_istore_n (pc := 7) (i := 1) C dX8_clearText_7 rfl (Nat.le_of_ble_eq_true rfl) rfl ?_
  refine g_aload_n (pc := 8) (i := 0) C dX8_clearText_8 rfl rfl ?_
  refine g_getr (pc := 9) (ci := 8) (N := 8) (T := TX8) (j := 5) (Cn := RX8) 438 C rfl inlX8 (Nat.le_of_ble_eq_true rfl) q_2_1 ok_dl rfl dX8_clearText_9 ?_
  refine g_callVv (pc := 12) (As := []) C (kX5_empty X σ 438 ok_tx) (blk ok_tx 0 rfl) rfl q_49_17 q_49_18 q_49_19 q_2_0 q_49_20 ⟨rfl, hdX5_empty⟩ ⟨Nat.le_of_ble_eq_true rfl, Nat.le_of_ble_eq_true rfl, rfl, rfl⟩ ⟨Nat.zero_le _, Nat.zero_le _⟩ (Nat.le_of_ble_eq_true rfl) rfl rfl dX8_clearText_12 (fun σ2 _ => ?_)
  refine g_iload_n (pc := 15) (i := 1) C dX8_clearText_15 rfl rfl ?_
  exact g_iret (pc := 16) C hr dX8_clearText_16 rfl
theorem dX8_fault_0 : decode cX8_fault 0 = .ok (.aload_n 0, 1) := by decide +kernel
theorem dX8_fault_1 : decode cX8_fault 1 = .ok (.getfield 37, 3) := by decide +kernel
theorem dX8_fault_4 : decode cX8_fault 4 = .ok (.aload_n 0, 1) := by decide +kernel
theorem dX8_fault_5 : decode cX8_fault 5 = .ok (.getfield 10, 3) := by decide +kernel
theorem dX8_fault_8 : decode cX8_fault 8 = .ok (.aload_n 0, 1) := by decide +kernel
theorem dX8_fault_9 : decode cX8_fault 9 = .ok (.getfield 30, 3) := by decide +kernel
theorem dX8_fault_12 : decode cX8_fault 12 = .ok (.invokevirtual 329, 3) := by decide +kernel
theorem dX8_fault_15 : decode cX8_fault 15 = .ok (.ireturn, 1) := by decide +kernel
abbrev rmX8_fault : Room := { frames := 282, cells := 0, slots := 0, locals := 6308 }
theorem hdX8_fault : yX8_fault.cls ≠ "java/lang/invoke/MethodHandle" ∧ yX8_fault.cls ≠ "java/lang/invoke/VarHandle" ∧ (parseMethodDescriptor yX8_fault.desc).map (fun d => d.parameters.length) = some 0 := by decide +kernel
def fX8_fault (σ : Sg) : Option (Int32 × Sg) :=
  (fX6_findFault σ 440 1 438).bind fun r1 =>
  some (r1.1, r1.2)
theorem kX8_fault (X : Xc) (σ : Sg) : ∀ r, fX8_fault σ = some r → Met X.l yX8_fault (wsM yX8_fault cX8_fault 1 (some .int)) rmX8_fault (va_Pc [.ref (X.ad 0)] (PW X σ)) (Qi X r.1 r.2) 0 0 X.A := by
  refine mt_of (own := RX8) (lo := [some (.ref (X.ad 0))]) (by decide) rfl (Nat.le_of_ble_eq_true rfl) rfl (fun K C hr => ?_)
  unfold fX8_fault
  refine g_aload_n (pc := 0) (i := 0) C dX8_fault_0 rfl rfl ?_
  refine g_getr (pc := 1) (ci := 8) (N := 8) (T := TX8) (j := 6) (Cn := RX8) 440 C rfl inlX8 (Nat.le_of_ble_eq_true rfl) q_2_5 ok_dl rfl dX8_fault_1 ?_
  refine g_aload_n (pc := 4) (i := 0) C dX8_fault_4 rfl rfl ?_
  refine g_getr (pc := 5) (ci := 8) (N := 8) (T := TX8) (j := 0) (Cn := RX8) 1 C rfl inlX8 (Nat.le_of_ble_eq_true rfl) q_1_16 ok_dl rfl dX8_fault_5 ?_
  refine g_aload_n (pc := 8) (i := 0) C dX8_fault_8 rfl rfl ?_
  refine g_getr (pc := 9) (ci := 8) (N := 8) (T := TX8) (j := 5) (Cn := RX8) 438 C rfl inlX8 (Nat.le_of_ble_eq_true rfl) q_2_1 ok_dl rfl dX8_fault_9 ?_
  refine g_callVi (pc := 12) (As := [.ref (X.ad 1), .ref (X.ad 438)]) C (kX6_findFault X σ 440 1 438 ok_rd ok_now ok_tx) (blk ok_rd 0 rfl) rfl q_50_5 q_50_6 q_50_7 q_2_4 q_50_8 ⟨rfl, hdX6_findFault⟩ ⟨Nat.le_of_ble_eq_true rfl, Nat.le_of_ble_eq_true rfl, rfl, rfl⟩ ⟨Nat.zero_le _, Nat.zero_le _⟩ (Nat.le_of_ble_eq_true rfl) rfl rfl dX8_fault_12 (fun r1 _ => ?_)
  exact g_iret (pc := 15) C hr dX8_fault_15 rfl
theorem dX8_read_0 : decode cX8_read 0 = .ok (.aload_n 0, 1) := by decide +kernel
theorem dX8_read_1 : decode cX8_read 1 = .ok (.getfield 37, 3) := by decide +kernel
theorem dX8_read_4 : decode cX8_read 4 = .ok (.aload_n 0, 1) := by decide +kernel
theorem dX8_read_5 : decode cX8_read 5 = .ok (.getfield 10, 3) := by decide +kernel
theorem dX8_read_8 : decode cX8_read 8 = .ok (.aload_n 0, 1) := by decide +kernel
theorem dX8_read_9 : decode cX8_read 9 = .ok (.getfield 30, 3) := by decide +kernel
theorem dX8_read_12 : decode cX8_read 12 = .ok (.invokevirtual 329, 3) := by decide +kernel
theorem dX8_read_15 : decode cX8_read 15 = .ok (.iconst (-1), 1) := by decide +kernel
theorem dX8_read_16 : decode cX8_read 16 = .ok (.if_icmp .eq 14, 3) := by decide +kernel
theorem dX8_read_19 : decode cX8_read 19 = .ok (.new 218, 3) := by decide +kernel
theorem dX8_read_22 : decode cX8_read 22 = .ok (.dup, 1) := by decide +kernel
theorem dX8_read_23 : decode cX8_read 23 = .ok (.ldc_w 333, 3) := by decide +kernel
theorem dX8_read_26 : decode cX8_read 26 = .ok (.invokespecial 222, 3) := by decide +kernel
theorem dX8_read_29 : decode cX8_read 29 = .ok (.athrow, 1) := by decide +kernel
theorem dX8_read_30 : decode cX8_read 30 = .ok (.aload_n 0, 1) := by decide +kernel
theorem dX8_read_31 : decode cX8_read 31 = .ok (.invokevirtual 63, 3) := by decide +kernel
theorem dX8_read_34 : decode cX8_read 34 = .ok (.aload_n 0, 1) := by decide +kernel
theorem dX8_read_35 : decode cX8_read 35 = .ok (.getfield 10, 3) := by decide +kernel
theorem dX8_read_38 : decode cX8_read 38 = .ok (.getfield 77, 3) := by decide +kernel
theorem dX8_read_41 : decode cX8_read 41 = .ok (.aload_n 0, 1) := by decide +kernel
theorem dX8_read_42 : decode cX8_read 42 = .ok (.getfield 37, 3) := by decide +kernel
theorem dX8_read_45 : decode cX8_read 45 = .ok (.getfield 335, 3) := by decide +kernel
theorem dX8_read_48 : decode cX8_read 48 = .ok (.invokevirtual 336, 3) := by decide +kernel
theorem dX8_read_51 : decode cX8_read 51 = .ok (.aload_n 0, 1) := by decide +kernel
theorem dX8_read_52 : decode cX8_read 52 = .ok (.getfield 10, 3) := by decide +kernel
theorem dX8_read_55 : decode cX8_read 55 = .ok (.invokevirtual 340, 3) := by decide +kernel
theorem dX8_read_58 : decode cX8_read 58 = .ok (.aload_n 0, 1) := by decide +kernel
theorem dX8_read_59 : decode cX8_read 59 = .ok (.getfield 23, 3) := by decide +kernel
theorem dX8_read_62 : decode cX8_read 62 = .ok (.aload_n 0, 1) := by decide +kernel
theorem dX8_read_63 : decode cX8_read 63 = .ok (.getfield 10, 3) := by decide +kernel
theorem dX8_read_66 : decode cX8_read 66 = .ok (.invokevirtual 98, 3) := by decide +kernel
theorem dX8_read_69 : decode cX8_read 69 = .ok (.aload_n 0, 1) := by decide +kernel
theorem dX8_read_70 : decode cX8_read 70 = .ok (.getfield 10, 3) := by decide +kernel
theorem dX8_read_73 : decode cX8_read 73 = .ok (.getfield 77, 3) := by decide +kernel
theorem dX8_read_76 : decode cX8_read 76 = .ok (.iconst 0, 1) := by decide +kernel
theorem dX8_read_77 : decode cX8_read 77 = .ok (.invokevirtual 179, 3) := by decide +kernel
theorem dX8_read_80 : decode cX8_read 80 = .ok (.ireturn, 1) := by decide +kernel
abbrev rmX8_read : Room := { frames := 282, cells := 1, slots := 6, locals := 6308 }
theorem hdX8_read : yX8_read.cls ≠ "java/lang/invoke/MethodHandle" ∧ yX8_read.cls ≠ "java/lang/invoke/VarHandle" ∧ (parseMethodDescriptor yX8_read.desc).map (fun d => d.parameters.length) = some 0 := by decide +kernel
def fX8_read (σ : Sg) : Option ((Int32 ⊕ Nat) × Sg) :=
  (fX6_findFault σ 440 1 438).bind fun r1 =>
  if r1.1 = (-1) then
    (fX8_keepRecord r1.2).bind fun σ2 =>
    (fX1_copyFrom σ2 (1 + 5) (440 + 3)).bind fun σ3 =>
    (fX4_settleFocus σ3 1).bind fun σ4 =>
    (fX2_compute σ4 422 1).bind fun σ5 =>
    (fX1_panesIn σ5 (1 + 5) 0).bind fun r6 =>
    some (.inl r6, σ5)
  else
    some (.inr 1, r1.2)
theorem kX8_read (X : Xc) (σ : Sg) (hfl : X.l.stackTraces = false) : ∀ r, fX8_read σ = some r → vx_Met X.l yX8_read (wsM yX8_read cX8_read 1 (some .int)) rmX8_read (va_Pc [.ref (X.ad 0)] (PW X σ)) (CXi X r.1 r.2) (CXx X r.1 r.2) 1 6 X.A := by
  refine xt_of (own := RX8) (lo := [some (.ref (X.ad 0))]) (by decide) rfl (Nat.le_of_ble_eq_true rfl) rfl (fun K C hr hex => ?_)
  unfold fX8_read
  refine g_aload_n (pc := 0) (i := 0) C dX8_read_0 rfl rfl ?_
  refine g_getr (pc := 1) (ci := 8) (N := 8) (T := TX8) (j := 6) (Cn := RX8) 440 C rfl inlX8 (Nat.le_of_ble_eq_true rfl) q_2_5 ok_dl rfl dX8_read_1 ?_
  refine g_aload_n (pc := 4) (i := 0) C dX8_read_4 rfl rfl ?_
  refine g_getr (pc := 5) (ci := 8) (N := 8) (T := TX8) (j := 0) (Cn := RX8) 1 C rfl inlX8 (Nat.le_of_ble_eq_true rfl) q_1_16 ok_dl rfl dX8_read_5 ?_
  refine g_aload_n (pc := 8) (i := 0) C dX8_read_8 rfl rfl ?_
  refine g_getr (pc := 9) (ci := 8) (N := 8) (T := TX8) (j := 5) (Cn := RX8) 438 C rfl inlX8 (Nat.le_of_ble_eq_true rfl) q_2_1 ok_dl rfl dX8_read_9 ?_
  refine g_callVi (pc := 12) (As := [.ref (X.ad 1), .ref (X.ad 438)]) C (kX6_findFault X σ 440 1 438 ok_rd ok_now ok_tx) (blk ok_rd 0 rfl) rfl q_50_5 q_50_6 q_50_7 q_2_4 q_50_8 ⟨rfl, hdX6_findFault⟩ ⟨Nat.le_of_ble_eq_true rfl, Nat.le_of_ble_eq_true rfl, rfl, rfl⟩ ⟨Nat.le_of_ble_eq_true rfl, Nat.le_of_ble_eq_true rfl⟩ (Nat.le_of_ble_eq_true rfl) rfl rfl dX8_read_12 (fun r1 _ => ?_)
  refine g_iconst (pc := 15) (v := (-1)) C dX8_read_15 (by decide) ?_
  refine g_icmp_eq (pc := 16) (tgt := 30) C dX8_read_16 rfl ?_ ?_
  · refine g_aload_n (pc := 30) (i := 0) C dX8_read_30 rfl rfl ?_
    refine g_callVv (pc := 31) (As := []) C (kX8_keepRecord X r1.2) ok_dl rfl q_7_21 q_7_22 q_7_23 q_1_2 q_8_0 ⟨rfl, hdX8_keepRecord⟩ ⟨Nat.le_of_ble_eq_true rfl, Nat.le_of_ble_eq_true rfl, rfl, rfl⟩ ⟨Nat.le_of_ble_eq_true rfl, Nat.le_of_ble_eq_true rfl⟩ (Nat.le_of_ble_eq_true rfl) rfl rfl dX8_read_31 (fun σ2 _ => ?_)
    refine g_aload_n (pc := 34) (i := 0) C dX8_read_34 rfl rfl ?_
    refine g_getr (pc := 35) (ci := 8) (N := 8) (T := TX8) (j := 0) (Cn := RX8) 1 C rfl inlX8 (Nat.le_of_ble_eq_true rfl) q_1_16 ok_dl rfl dX8_read_35 ?_
    refine g_getNr (pc := 38) (ci := 4) (N := 7) (T := TX4) (j := 4) (Cn := RX4) (1 + 5) C rfl inlX4 (Nat.le_of_ble_eq_true rfl) (List.mem_of_getElem? (i := 10) rfl) (blk ok_now 0 rfl) rfl dX8_read_38 ?_
    refine g_aload_n (pc := 41) (i := 0) C dX8_read_41 rfl rfl ?_
    refine g_getr (pc := 42) (ci := 8) (N := 8) (T := TX8) (j := 6) (Cn := RX8) 440 C rfl inlX8 (Nat.le_of_ble_eq_true rfl) q_2_5 ok_dl rfl dX8_read_42 ?_
    refine g_getNr (pc := 45) (ci := 6) (N := 4) (T := TX6) (j := 1) (Cn := RX6) (440 + 3) C rfl inlX6 (Nat.le_of_ble_eq_true rfl) (List.mem_of_getElem? (i := 20) rfl) (blk ok_rd 0 rfl) rfl dX8_read_45 ?_
    refine g_callVv (pc := 48) (As := [.ref (X.ad (440 + 3))]) C (kX1_copyFrom X σ2 (1 + 5) (440 + 3) (st_pl ok_now) (rd_pl ok_rd)) (blk (st_pl ok_now) 0 rfl) rfl q_54_14 q_9_8 q_9_9 q_2_23 q_9_10 ⟨rfl, hdX1_copyFrom⟩ ⟨Nat.le_of_ble_eq_true rfl, Nat.le_of_ble_eq_true rfl, rfl, rfl⟩ ⟨Nat.le_of_ble_eq_true rfl, Nat.le_of_ble_eq_true rfl⟩ (Nat.le_of_ble_eq_true rfl) rfl rfl dX8_read_48 (fun σ3 _ => ?_)
    refine g_aload_n (pc := 51) (i := 0) C dX8_read_51 rfl rfl ?_
    refine g_getr (pc := 52) (ci := 8) (N := 8) (T := TX8) (j := 0) (Cn := RX8) 1 C rfl inlX8 (Nat.le_of_ble_eq_true rfl) q_1_16 ok_dl rfl dX8_read_52 ?_
    refine g_callVv (pc := 55) (As := []) C (kX4_settleFocus X σ3 1 ok_now) (blk ok_now 0 rfl) rfl q_54_15 q_48_1 q_48_2 q_1_15 q_48_3 ⟨rfl, hdX4_settleFocus⟩ ⟨Nat.le_of_ble_eq_true rfl, Nat.le_of_ble_eq_true rfl, rfl, rfl⟩ ⟨Nat.le_of_ble_eq_true rfl, Nat.le_of_ble_eq_true rfl⟩ (Nat.le_of_ble_eq_true rfl) rfl rfl dX8_read_55 (fun σ4 _ => ?_)
    refine g_aload_n (pc := 58) (i := 0) C dX8_read_58 rfl rfl ?_
    refine g_getr (pc := 59) (ci := 8) (N := 8) (T := TX8) (j := 4) (Cn := RX8) 422 C rfl inlX8 (Nat.le_of_ble_eq_true rfl) q_1_21 ok_dl rfl dX8_read_59 ?_
    refine g_aload_n (pc := 62) (i := 0) C dX8_read_62 rfl rfl ?_
    refine g_getr (pc := 63) (ci := 8) (N := 8) (T := TX8) (j := 0) (Cn := RX8) 1 C rfl inlX8 (Nat.le_of_ble_eq_true rfl) q_1_16 ok_dl rfl dX8_read_63 ?_
    refine g_callVv (pc := 66) (As := [.ref (X.ad 1)]) C (kX2_compute X σ4 422 1 ok_pn ok_now) (blk ok_pn 0 rfl) rfl q_15_1 q_15_2 q_15_3 q_1_20 q_15_4 ⟨rfl, hdX2_compute⟩ ⟨Nat.le_of_ble_eq_true rfl, Nat.le_of_ble_eq_true rfl, rfl, rfl⟩ ⟨Nat.le_of_ble_eq_true rfl, Nat.le_of_ble_eq_true rfl⟩ (Nat.le_of_ble_eq_true rfl) rfl rfl dX8_read_66 (fun σ5 _ => ?_)
    refine g_aload_n (pc := 69) (i := 0) C dX8_read_69 rfl rfl ?_
    refine g_getr (pc := 70) (ci := 8) (N := 8) (T := TX8) (j := 0) (Cn := RX8) 1 C rfl inlX8 (Nat.le_of_ble_eq_true rfl) q_1_16 ok_dl rfl dX8_read_70 ?_
    refine g_getNr (pc := 73) (ci := 4) (N := 7) (T := TX4) (j := 4) (Cn := RX4) (1 + 5) C rfl inlX4 (Nat.le_of_ble_eq_true rfl) (List.mem_of_getElem? (i := 10) rfl) (blk ok_now 0 rfl) rfl dX8_read_73 ?_
    refine g_iconst (pc := 76) (v := 0) C dX8_read_76 (by decide) ?_
    refine g_callVi (pc := 77) (As := [.int (0)]) C (kX1_panesIn X σ5 (1 + 5) 0 (st_pl ok_now)) (blk (st_pl ok_now) 0 rfl) rfl q_29_23 q_30_0 q_30_1 q_2_23 q_30_2 ⟨rfl, hdX1_panesIn⟩ ⟨Nat.le_of_ble_eq_true rfl, Nat.le_of_ble_eq_true rfl, rfl, rfl⟩ ⟨Nat.le_of_ble_eq_true rfl, Nat.le_of_ble_eq_true rfl⟩ (Nat.le_of_ble_eq_true rfl) rfl rfl dX8_read_77 (fun r6 _ => ?_)
    exact g_xiret (pc := 80) C hr dX8_read_80 (Nat.le_of_ble_eq_true rfl) (Nat.le_of_ble_eq_true rfl) (fun t hP hF => ⟨⟨_, (), rfl, rfl, hP⟩, hF⟩)
  · exact g_throwW (pc := 19) (e := 1) (cls := "java/lang/IllegalArgumentException") (text := "the text has a fault") (ik := 218) (is := 333) (ic := 222) C hex hfl rfl (by decide +kernel) q_7_10 q_7_11 (List.mem_of_getElem? (i := 9) rfl) (xat_1 C.ts C.k) xgood_1 dX8_read_19 dX8_read_22 dX8_read_23 dX8_read_26 dX8_read_29 (Nat.le_of_ble_eq_true rfl) (Nat.le_of_ble_eq_true rfl) (Nat.le_of_ble_eq_true rfl) (Nat.le_of_ble_eq_true rfl) (Nat.le_of_ble_eq_true rfl) (Nat.le_of_ble_eq_true rfl) (fun t hP hF => ⟨(), trivial, ⟨⟨_, rfl, rfl⟩, hP⟩, hF⟩)
theorem dX8_write_0 : decode cX8_write 0 = .ok (.aload_n 0, 1) := by decide +kernel
theorem dX8_write_1 : decode cX8_write 1 = .ok (.iload_n 1, 1) := by decide +kernel
theorem dX8_write_2 : decode cX8_write 2 = .ok (.invokevirtual 173, 3) := by decide +kernel
theorem dX8_write_5 : decode cX8_write 5 = .ok (.aload_n 0, 1) := by decide +kernel
theorem dX8_write_6 : decode cX8_write 6 = .ok (.getfield 44, 3) := by decide +kernel
theorem dX8_write_9 : decode cX8_write 9 = .ok (.aload_n 0, 1) := by decide +kernel
theorem dX8_write_10 : decode cX8_write 10 = .ok (.getfield 10, 3) := by decide +kernel
theorem dX8_write_13 : decode cX8_write 13 = .ok (.getfield 77, 3) := by decide +kernel
theorem dX8_write_16 : decode cX8_write 16 = .ok (.iload_n 1, 1) := by decide +kernel
theorem dX8_write_17 : decode cX8_write 17 = .ok (.invokevirtual 343, 3) := by decide +kernel
theorem dX8_write_20 : decode cX8_write 20 = .ok (.aload_n 0, 1) := by decide +kernel
theorem dX8_write_21 : decode cX8_write 21 = .ok (.getfield 44, 3) := by decide +kernel
theorem dX8_write_24 : decode cX8_write 24 = .ok (.getfield 347, 3) := by decide +kernel
theorem dX8_write_27 : decode cX8_write 27 = .ok (.invokevirtual 318, 3) := by decide +kernel
theorem dX8_write_30 : decode cX8_write 30 = .ok (.bipush 120, 2) := by decide +kernel
theorem dX8_write_32 : decode cX8_write 32 = .ok (.if_icmp .le 14, 3) := by decide +kernel
theorem dX8_write_35 : decode cX8_write 35 = .ok (.new 56, 3) := by decide +kernel
theorem dX8_write_38 : decode cX8_write 38 = .ok (.dup, 1) := by decide +kernel
theorem dX8_write_39 : decode cX8_write 39 = .ok (.ldc_w 350, 3) := by decide +kernel
theorem dX8_write_42 : decode cX8_write 42 = .ok (.invokespecial 60, 3) := by decide +kernel
theorem dX8_write_45 : decode cX8_write 45 = .ok (.athrow, 1) := by decide +kernel
theorem dX8_write_46 : decode cX8_write 46 = .ok (.aload_n 0, 1) := by decide +kernel
theorem dX8_write_47 : decode cX8_write 47 = .ok (.getfield 30, 3) := by decide +kernel
theorem dX8_write_50 : decode cX8_write 50 = .ok (.aload_n 0, 1) := by decide +kernel
theorem dX8_write_51 : decode cX8_write 51 = .ok (.getfield 44, 3) := by decide +kernel
theorem dX8_write_54 : decode cX8_write 54 = .ok (.getfield 347, 3) := by decide +kernel
theorem dX8_write_57 : decode cX8_write 57 = .ok (.invokevirtual 352, 3) := by decide +kernel
theorem dX8_write_60 : decode cX8_write 60 = .ok (.aload_n 0, 1) := by decide +kernel
theorem dX8_write_61 : decode cX8_write 61 = .ok (.getfield 30, 3) := by decide +kernel
theorem dX8_write_64 : decode cX8_write 64 = .ok (.invokevirtual 318, 3) := by decide +kernel
theorem dX8_write_67 : decode cX8_write 67 = .ok (.ireturn, 1) := by decide +kernel
abbrev rmX8_write : Room := { frames := 282, cells := 2, slots := 12, locals := 6308 }
theorem hdX8_write : yX8_write.cls ≠ "java/lang/invoke/MethodHandle" ∧ yX8_write.cls ≠ "java/lang/invoke/VarHandle" ∧ (parseMethodDescriptor yX8_write.desc).map (fun d => d.parameters.length) = some 1 := by decide +kernel
def fX8_write (σ : Sg) (p1 : Int32) : Option ((Int32 ⊕ Nat) × Sg) :=
  (fX8_requireWindow σ p1).bind fun r1 => xcat r1 (fun e3 => some (.inr e3, σ)) fun w2 =>
  (fX7_compose σ 459 (1 + 5) p1).bind fun σ4 =>
  (fX5_length σ4 (459 + 1)).bind fun r5 =>
  if r5 ≤ 120 then
    (fX5_copyFrom σ4 438 (459 + 1)).bind fun σ6 =>
    (fX5_length σ6 438).bind fun r7 =>
    some (.inl r7, σ6)
  else
    some (.inr 2, σ4)
theorem kX8_write (X : Xc) (σ : Sg) (p1 : Int32) (hfl : X.l.stackTraces = false) : ∀ r, fX8_write σ p1 = some r → vx_Met X.l yX8_write (wsM yX8_write cX8_write 2 (some .int)) rmX8_write (va_Pc [.ref (X.ad 0), .int p1] (PW X σ)) (CXi X r.1 r.2) (CXx X r.1 r.2) 2 12 X.A := by
  refine xt_of (own := RX8) (lo := [some (.ref (X.ad 0)), some (.int (p1))]) (by decide) rfl (Nat.le_of_ble_eq_true rfl) rfl (fun K C hr hex => ?_)
  unfold fX8_write
  refine g_aload_n (pc := 0) (i := 0) C dX8_write_0 rfl rfl ?_
  refine g_iload_n (pc := 1) (i := 1) C dX8_write_1 rfl rfl ?_
  refine g_xcallVv (pc := 2) (As := [.int (p1)]) C (kX8_requireWindow X σ p1 hfl) ok_dl rfl q_29_10 q_29_11 q_29_12 q_1_2 q_29_13 ⟨rfl, hdX8_requireWindow⟩ ⟨Nat.le_of_ble_eq_true rfl, Nat.le_of_ble_eq_true rfl, rfl, rfl, Nat.le_of_ble_eq_true rfl, Nat.le_of_ble_eq_true rfl⟩ (Nat.le_of_ble_eq_true rfl) rfl rfl dX8_write_2 (fun r1 e3 _ _ => ?_) (fun r1 w2 _ _ => ?_)
  · exact gx_out C hex (Nat.le_of_ble_eq_true rfl) (Nat.le_of_ble_eq_true rfl) (fun t hP hF => ⟨(), trivial, ⟨⟨_, rfl, rfl⟩, hP⟩, hF⟩)
  refine g_aload_n (pc := 5) (i := 0) C dX8_write_5 rfl rfl ?_
  refine g_getr (pc := 6) (ci := 8) (N := 8) (T := TX8) (j := 7) (Cn := RX8) 459 C rfl inlX8 (Nat.le_of_ble_eq_true rfl) q_2_9 ok_dl rfl dX8_write_6 ?_
  refine g_aload_n (pc := 9) (i := 0) C dX8_write_9 rfl rfl ?_
  refine g_getr (pc := 10) (ci := 8) (N := 8) (T := TX8) (j := 0) (Cn := RX8) 1 C rfl inlX8 (Nat.le_of_ble_eq_true rfl) q_1_16 ok_dl rfl dX8_write_10 ?_
  refine g_getNr (pc := 13) (ci := 4) (N := 7) (T := TX4) (j := 4) (Cn := RX4) (1 + 5) C rfl inlX4 (Nat.le_of_ble_eq_true rfl) (List.mem_of_getElem? (i := 10) rfl) (blk ok_now 0 rfl) rfl dX8_write_13 ?_
  refine g_iload_n (pc := 16) (i := 1) C dX8_write_16 rfl rfl ?_
  refine g_callVv (pc := 17) (As := [.ref (X.ad (1 + 5)), .int (p1)]) C (kX7_compose X σ 459 (1 + 5) p1 ok_wr (st_pl ok_now)) (blk ok_wr 0 rfl) rfl q_55_3 q_55_4 q_55_5 q_2_8 q_55_6 ⟨rfl, hdX7_compose⟩ ⟨Nat.le_of_ble_eq_true rfl, Nat.le_of_ble_eq_true rfl, rfl, rfl⟩ ⟨Nat.le_of_ble_eq_true rfl, Nat.le_of_ble_eq_true rfl⟩ (Nat.le_of_ble_eq_true rfl) rfl rfl dX8_write_17 (fun σ4 _ => ?_)
  refine g_aload_n (pc := 20) (i := 0) C dX8_write_20 rfl rfl ?_
  refine g_getr (pc := 21) (ci := 8) (N := 8) (T := TX8) (j := 7) (Cn := RX8) 459 C rfl inlX8 (Nat.le_of_ble_eq_true rfl) q_2_9 ok_dl rfl dX8_write_21 ?_
  refine g_getNr (pc := 24) (ci := 7) (N := 1) (T := TX7) (j := 0) (Cn := RX7) (459 + 1) C rfl inlX7 (Nat.le_of_ble_eq_true rfl) (List.mem_of_getElem? (i := 21) rfl) (blk ok_wr 0 rfl) rfl dX8_write_24 ?_
  refine g_callVi (pc := 27) (As := []) C (kX5_length X σ4 (459 + 1) (wr_tx ok_wr)) (blk (wr_tx ok_wr) 0 rfl) rfl q_48_23 q_49_0 q_49_1 q_2_0 q_49_2 ⟨rfl, hdX5_length⟩ ⟨Nat.le_of_ble_eq_true rfl, Nat.le_of_ble_eq_true rfl, rfl, rfl⟩ ⟨Nat.le_of_ble_eq_true rfl, Nat.le_of_ble_eq_true rfl⟩ (Nat.le_of_ble_eq_true rfl) rfl rfl dX8_write_27 (fun r5 _ => ?_)
  refine g_bipush (pc := 30) (v := 120) C dX8_write_30 (by decide) ?_
  refine g_icmp_le (pc := 32) (tgt := 46) C dX8_write_32 rfl ?_ ?_
  · refine g_aload_n (pc := 46) (i := 0) C dX8_write_46 rfl rfl ?_
    refine g_getr (pc := 47) (ci := 8) (N := 8) (T := TX8) (j := 5) (Cn := RX8) 438 C rfl inlX8 (Nat.le_of_ble_eq_true rfl) q_2_1 ok_dl rfl dX8_write_47 ?_
    refine g_aload_n (pc := 50) (i := 0) C dX8_write_50 rfl rfl ?_
    refine g_getr (pc := 51) (ci := 8) (N := 8) (T := TX8) (j := 7) (Cn := RX8) 459 C rfl inlX8 (Nat.le_of_ble_eq_true rfl) q_2_9 ok_dl rfl dX8_write_51 ?_
    refine g_getNr (pc := 54) (ci := 7) (N := 1) (T := TX7) (j := 0) (Cn := RX7) (459 + 1) C rfl inlX7 (Nat.le_of_ble_eq_true rfl) (List.mem_of_getElem? (i := 21) rfl) (blk ok_wr 0 rfl) rfl dX8_write_54 ?_
    refine g_callVv (pc := 57) (As := [.ref (X.ad (459 + 1))]) C (kX5_copyFrom X σ4 438 (459 + 1) ok_tx (wr_tx ok_wr)) (blk ok_tx 0 rfl) rfl q_56_7 q_50_12 q_50_13 q_2_0 q_50_14 ⟨rfl, hdX5_copyFrom⟩ ⟨Nat.le_of_ble_eq_true rfl, Nat.le_of_ble_eq_true rfl, rfl, rfl⟩ ⟨Nat.le_of_ble_eq_true rfl, Nat.le_of_ble_eq_true rfl⟩ (Nat.le_of_ble_eq_true rfl) rfl rfl dX8_write_57 (fun σ6 _ => ?_)
    refine g_aload_n (pc := 60) (i := 0) C dX8_write_60 rfl rfl ?_
    refine g_getr (pc := 61) (ci := 8) (N := 8) (T := TX8) (j := 5) (Cn := RX8) 438 C rfl inlX8 (Nat.le_of_ble_eq_true rfl) q_2_1 ok_dl rfl dX8_write_61 ?_
    refine g_callVi (pc := 64) (As := []) C (kX5_length X σ6 438 ok_tx) (blk ok_tx 0 rfl) rfl q_48_23 q_49_0 q_49_1 q_2_0 q_49_2 ⟨rfl, hdX5_length⟩ ⟨Nat.le_of_ble_eq_true rfl, Nat.le_of_ble_eq_true rfl, rfl, rfl⟩ ⟨Nat.le_of_ble_eq_true rfl, Nat.le_of_ble_eq_true rfl⟩ (Nat.le_of_ble_eq_true rfl) rfl rfl dX8_write_64 (fun r7 _ => ?_)
    exact g_xiret (pc := 67) C hr dX8_write_67 (Nat.le_of_ble_eq_true rfl) (Nat.le_of_ble_eq_true rfl) (fun t hP hF => ⟨⟨_, (), rfl, rfl, hP⟩, hF⟩)
  · exact g_throwW (pc := 35) (e := 2) (cls := "java/lang/IllegalStateException") (text := "the text would have more than 120 characters") (ik := 56) (is := 350) (ic := 60) C hex hfl rfl (by decide +kernel) q_7_2 q_7_3 (List.mem_of_getElem? (i := 10) rfl) (xat_2 C.ts C.k) xgood_2 dX8_write_35 dX8_write_38 dX8_write_39 dX8_write_42 dX8_write_45 (Nat.le_of_ble_eq_true rfl) (Nat.le_of_ble_eq_true rfl) (Nat.le_of_ble_eq_true rfl) (Nat.le_of_ble_eq_true rfl) (Nat.le_of_ble_eq_true rfl) (Nat.le_of_ble_eq_true rfl) (fun t hP hF => ⟨(), trivial, ⟨⟨_, rfl, rfl⟩, hP⟩, hF⟩)
theorem dX8_character_0 : decode cX8_character 0 = .ok (.aload_n 0, 1) := by decide +kernel
theorem dX8_character_1 : decode cX8_character 1 = .ok (.getfield 30, 3) := by decide +kernel
theorem dX8_character_4 : decode cX8_character 4 = .ok (.iload_n 1, 1) := by decide +kernel
theorem dX8_character_5 : decode cX8_character 5 = .ok (.invokevirtual 355, 3) := by decide +kernel
theorem dX8_character_8 : decode cX8_character 8 = .ok (.ireturn, 1) := by decide +kernel
abbrev rmX8_character : Room := { frames := 2, cells := 0, slots := 0, locals := 42 }
theorem hdX8_character : yX8_character.cls ≠ "java/lang/invoke/MethodHandle" ∧ yX8_character.cls ≠ "java/lang/invoke/VarHandle" ∧ (parseMethodDescriptor yX8_character.desc).map (fun d => d.parameters.length) = some 1 := by decide +kernel
def fX8_character (σ : Sg) (p1 : Int32) : Option Int32 :=
  (fX5_code σ 438 p1).bind fun r1 =>
  some r1
theorem kX8_character (X : Xc) (σ : Sg) (p1 : Int32) : ∀ r, fX8_character σ p1 = some r → Met X.l yX8_character (wsM yX8_character cX8_character 2 (some .int)) rmX8_character (va_Pc [.ref (X.ad 0), .int p1] (PW X σ)) (Qi X r σ) 0 0 X.A := by
  refine mt_of (own := RX8) (lo := [some (.ref (X.ad 0)), some (.int (p1))]) (by decide) rfl (Nat.le_of_ble_eq_true rfl) rfl (fun K C hr => ?_)
  unfold fX8_character
  refine g_aload_n (pc := 0) (i := 0) C dX8_character_0 rfl rfl ?_
  refine g_getr (pc := 1) (ci := 8) (N := 8) (T := TX8) (j := 5) (Cn := RX8) 438 C rfl inlX8 (Nat.le_of_ble_eq_true rfl) q_2_1 ok_dl rfl dX8_character_1 ?_
  refine g_iload_n (pc := 4) (i := 1) C dX8_character_4 rfl rfl ?_
  refine g_callVi (pc := 5) (As := [.int (p1)]) C (kX5_code X σ 438 p1 ok_tx) (blk ok_tx 0 rfl) rfl q_57_9 q_51_8 q_51_9 q_2_0 q_51_10 ⟨rfl, hdX5_code⟩ ⟨Nat.le_of_ble_eq_true rfl, Nat.le_of_ble_eq_true rfl, rfl, rfl⟩ ⟨Nat.zero_le _, Nat.zero_le _⟩ (Nat.le_of_ble_eq_true rfl) rfl rfl dX8_character_5 (fun r1 _ => ?_)
  exact g_iret (pc := 8) C hr dX8_character_8 rfl
theorem dX8_undo_0 : decode cX8_undo 0 = .ok (.aload_n 0, 1) := by decide +kernel
theorem dX8_undo_1 : decode cX8_undo 1 = .ok (.getfield 358, 3) := by decide +kernel
theorem dX8_undo_4 : decode cX8_undo 4 = .ok (.ifCond .ne 14, 3) := by decide +kernel
theorem dX8_undo_7 : decode cX8_undo 7 = .ok (.new 56, 3) := by decide +kernel
theorem dX8_undo_10 : decode cX8_undo 10 = .ok (.dup, 1) := by decide +kernel
theorem dX8_undo_11 : decode cX8_undo 11 = .ok (.ldc_w 361, 3) := by decide +kernel
theorem dX8_undo_14 : decode cX8_undo 14 = .ok (.invokespecial 60, 3) := by decide +kernel
theorem dX8_undo_17 : decode cX8_undo 17 = .ok (.athrow, 1) := by decide +kernel
theorem dX8_undo_18 : decode cX8_undo 18 = .ok (.aload_n 0, 1) := by decide +kernel
theorem dX8_undo_19 : decode cX8_undo 19 = .ok (.dup, 1) := by decide +kernel
theorem dX8_undo_20 : decode cX8_undo 20 = .ok (.getfield 358, 3) := by decide +kernel
theorem dX8_undo_23 : decode cX8_undo 23 = .ok (.iconst 1, 1) := by decide +kernel
theorem dX8_undo_24 : decode cX8_undo 24 = .ok (.isub, 1) := by decide +kernel
theorem dX8_undo_25 : decode cX8_undo 25 = .ok (.putfield 358, 3) := by decide +kernel
theorem dX8_undo_28 : decode cX8_undo 28 = .ok (.aload_n 0, 1) := by decide +kernel
theorem dX8_undo_29 : decode cX8_undo 29 = .ok (.getfield 10, 3) := by decide +kernel
theorem dX8_undo_32 : decode cX8_undo 32 = .ok (.aload_n 0, 1) := by decide +kernel
theorem dX8_undo_33 : decode cX8_undo 33 = .ok (.aload_n 0, 1) := by decide +kernel
theorem dX8_undo_34 : decode cX8_undo 34 = .ok (.getfield 358, 3) := by decide +kernel
theorem dX8_undo_37 : decode cX8_undo 37 = .ok (.invokevirtual 363, 3) := by decide +kernel
theorem dX8_undo_40 : decode cX8_undo 40 = .ok (.invokevirtual 367, 3) := by decide +kernel
theorem dX8_undo_43 : decode cX8_undo 43 = .ok (.aload_n 0, 1) := by decide +kernel
theorem dX8_undo_44 : decode cX8_undo 44 = .ok (.getfield 23, 3) := by decide +kernel
theorem dX8_undo_47 : decode cX8_undo 47 = .ok (.aload_n 0, 1) := by decide +kernel
theorem dX8_undo_48 : decode cX8_undo 48 = .ok (.getfield 10, 3) := by decide +kernel
theorem dX8_undo_51 : decode cX8_undo 51 = .ok (.invokevirtual 98, 3) := by decide +kernel
theorem dX8_undo_54 : decode cX8_undo 54 = .ok (.aload_n 0, 1) := by decide +kernel
theorem dX8_undo_55 : decode cX8_undo 55 = .ok (.getfield 358, 3) := by decide +kernel
theorem dX8_undo_58 : decode cX8_undo 58 = .ok (.ireturn, 1) := by decide +kernel
abbrev rmX8_undo : Room := { frames := 7, cells := 1, slots := 6, locals := 213 }
theorem hdX8_undo : yX8_undo.cls ≠ "java/lang/invoke/MethodHandle" ∧ yX8_undo.cls ≠ "java/lang/invoke/VarHandle" ∧ (parseMethodDescriptor yX8_undo.desc).map (fun d => d.parameters.length) = some 0 := by decide +kernel
def fX8_undo (σ : Sg) : Option ((Int32 ⊕ Nat) × Sg) :=
  if (σ.1 0 3) = 0 then
    some (.inr 2, σ)
  else
    nm (su σ 0 3 ((σ.1 0 3) - 1)) fun σ1 =>
    (fX8_recordAt σ1 (σ1.1 0 3)).bind fun r2 =>
    (fX4_copyFrom σ1 1 r2).bind fun σ3 =>
    (fX2_compute σ3 422 1).bind fun σ4 =>
    some (.inl (σ4.1 0 3), σ4)
theorem kX8_undo (X : Xc) (σ : Sg) (hfl : X.l.stackTraces = false) : ∀ r, fX8_undo σ = some r → vx_Met X.l yX8_undo (wsM yX8_undo cX8_undo 1 (some .int)) rmX8_undo (va_Pc [.ref (X.ad 0)] (PW X σ)) (CXi X r.1 r.2) (CXx X r.1 r.2) 1 6 X.A := by
  refine xt_of (own := RX8) (lo := [some (.ref (X.ad 0))]) (by decide) rfl (Nat.le_of_ble_eq_true rfl) rfl (fun K C hr hex => ?_)
  unfold fX8_undo
  refine g_aload_n (pc := 0) (i := 0) C dX8_undo_0 rfl rfl ?_
  refine g_geti (pc := 1) (ci := 8) (N := 8) (T := TX8) (j := 3) (Cn := RX8) C rfl inlX8 (Nat.le_of_ble_eq_true rfl) q_8_1 ok_dl rfl dX8_undo_1 ?_
  refine g_if_ne (pc := 4) (tgt := 18) C dX8_undo_4 rfl ?_ ?_
  · exact g_throwW (pc := 7) (e := 2) (cls := "java/lang/IllegalStateException") (text := "there is no record") (ik := 56) (is := 361) (ic := 60) C hex hfl rfl (by decide +kernel) q_7_2 q_7_3 (List.mem_of_getElem? (i := 11) rfl) (xat_2 C.ts C.k) xgood_2 dX8_undo_7 dX8_undo_10 dX8_undo_11 dX8_undo_14 dX8_undo_17 (Nat.le_of_ble_eq_true rfl) (Nat.le_of_ble_eq_true rfl) (Nat.le_of_ble_eq_true rfl) (Nat.le_of_ble_eq_true rfl) (Nat.le_of_ble_eq_true rfl) (Nat.le_of_ble_eq_true rfl) (fun t hP hF => ⟨(), trivial, ⟨⟨_, rfl, rfl⟩, hP⟩, hF⟩)
  · refine g_aload_n (pc := 18) (i := 0) C dX8_undo_18 rfl rfl ?_
    refine g_dup (pc := 19) C dX8_undo_19 rfl ?_
    refine g_geti (pc := 20) (ci := 8) (N := 8) (T := TX8) (j := 3) (Cn := RX8) C rfl inlX8 (Nat.le_of_ble_eq_true rfl) q_8_1 ok_dl rfl dX8_undo_20 ?_
    refine g_iconst (pc := 23) (v := 1) C dX8_undo_23 (by decide) ?_
    refine g_isub (pc := 24) C dX8_undo_24 ?_
    refine g_puti (pc := 25) (ci := 8) (N := 8) (T := TX8) (j := 3) (Cn := RX8) C rfl inlX8 tyX8_ok nmX8 (Nat.le_of_ble_eq_true rfl) q_8_1 ok_dl rfl rfl rfl dX8_undo_25 ?_
    refine g_nms (fun σ1 => ?_)
    refine g_aload_n (pc := 28) (i := 0) C dX8_undo_28 rfl rfl ?_
    refine g_getr (pc := 29) (ci := 8) (N := 8) (T := TX8) (j := 0) (Cn := RX8) 1 C rfl inlX8 (Nat.le_of_ble_eq_true rfl) q_1_16 ok_dl rfl dX8_undo_29 ?_
    refine g_aload_n (pc := 32) (i := 0) C dX8_undo_32 rfl rfl ?_
    refine g_aload_n (pc := 33) (i := 0) C dX8_undo_33 rfl rfl ?_
    refine g_geti (pc := 34) (ci := 8) (N := 8) (T := TX8) (j := 3) (Cn := RX8) C rfl inlX8 (Nat.le_of_ble_eq_true rfl) q_8_1 ok_dl rfl dX8_undo_34 ?_
    refine g_callVf (pc := 37) (As := [.int (σ1.1 0 3)]) C (kX8_recordAt X σ1 (σ1.1 0 3)) ok_dl rfl q_8_7 q_8_8 q_8_9 q_1_2 q_8_10 ⟨rfl, hdX8_recordAt⟩ ⟨Nat.le_of_ble_eq_true rfl, Nat.le_of_ble_eq_true rfl, rfl, rfl⟩ ⟨Nat.le_of_ble_eq_true rfl, Nat.le_of_ble_eq_true rfl⟩ (Nat.le_of_ble_eq_true rfl) rfl rfl dX8_undo_37 (fun r2 hr2 => ?_)
    refine g_callVv (pc := 40) (As := [.ref (X.ad r2)]) C (kX4_copyFrom X σ1 1 r2 ok_now (okX8_recordAt hr2)) (blk ok_now 0 rfl) rfl q_8_11 q_8_12 q_8_13 q_1_15 q_8_14 ⟨rfl, hdX4_copyFrom⟩ ⟨Nat.le_of_ble_eq_true rfl, Nat.le_of_ble_eq_true rfl, rfl, rfl⟩ ⟨Nat.le_of_ble_eq_true rfl, Nat.le_of_ble_eq_true rfl⟩ (Nat.le_of_ble_eq_true rfl) rfl rfl dX8_undo_40 (fun σ3 _ => ?_)
    refine g_aload_n (pc := 43) (i := 0) C dX8_undo_43 rfl rfl ?_
    refine g_getr (pc := 44) (ci := 8) (N := 8) (T := TX8) (j := 4) (Cn := RX8) 422 C rfl inlX8 (Nat.le_of_ble_eq_true rfl) q_1_21 ok_dl rfl dX8_undo_44 ?_
    refine g_aload_n (pc := 47) (i := 0) C dX8_undo_47 rfl rfl ?_
    refine g_getr (pc := 48) (ci := 8) (N := 8) (T := TX8) (j := 0) (Cn := RX8) 1 C rfl inlX8 (Nat.le_of_ble_eq_true rfl) q_1_16 ok_dl rfl dX8_undo_48 ?_
    refine g_callVv (pc := 51) (As := [.ref (X.ad 1)]) C (kX2_compute X σ3 422 1 ok_pn ok_now) (blk ok_pn 0 rfl) rfl q_15_1 q_15_2 q_15_3 q_1_20 q_15_4 ⟨rfl, hdX2_compute⟩ ⟨Nat.le_of_ble_eq_true rfl, Nat.le_of_ble_eq_true rfl, rfl, rfl⟩ ⟨Nat.le_of_ble_eq_true rfl, Nat.le_of_ble_eq_true rfl⟩ (Nat.le_of_ble_eq_true rfl) rfl rfl dX8_undo_51 (fun σ4 _ => ?_)
    refine g_aload_n (pc := 54) (i := 0) C dX8_undo_54 rfl rfl ?_
    refine g_geti (pc := 55) (ci := 8) (N := 8) (T := TX8) (j := 3) (Cn := RX8) C rfl inlX8 (Nat.le_of_ble_eq_true rfl) q_8_1 ok_dl rfl dX8_undo_55 ?_
    exact g_xiret (pc := 58) C hr dX8_undo_58 (Nat.le_of_ble_eq_true rfl) (Nat.le_of_ble_eq_true rfl) (fun t hP hF => ⟨⟨_, (), rfl, rfl, hP⟩, hF⟩)
theorem dX8_mix_0 : decode cX8_mix 0 = .ok (.ldc2_w 396, 3) := by decide +kernel
theorem dX8_mix_3 : decode cX8_mix 3 = .ok (.lload_n 0, 1) := by decide +kernel
theorem dX8_mix_4 : decode cX8_mix 4 = .ok (.lmul, 1) := by decide +kernel
theorem dX8_mix_5 : decode cX8_mix 5 = .ok (.iload_n 2, 1) := by decide +kernel
theorem dX8_mix_6 : decode cX8_mix 6 = .ok (.i2l, 1) := by decide +kernel
theorem dX8_mix_7 : decode cX8_mix 7 = .ok (.ladd, 1) := by decide +kernel
theorem dX8_mix_8 : decode cX8_mix 8 = .ok (.lreturn, 1) := by decide +kernel
abbrev rmX8_mix : Room := { frames := 0, cells := 0, slots := 0, locals := 0 }
theorem hdX8_mix : yX8_mix.cls ≠ "java/lang/invoke/MethodHandle" ∧ yX8_mix.cls ≠ "java/lang/invoke/VarHandle" ∧ (parseMethodDescriptor yX8_mix.desc).map (fun d => d.parameters.length) = some 2 := by decide +kernel
def fX8_mix (σ : Sg) (p0 : Int64) (p2 : Int32) : Option Int64 :=
  some (((31 : Int64) * p0) + p2.toInt64)
theorem kX8_mix (X : Xc) (σ : Sg) (p0 : Int64) (p2 : Int32) : ∀ r, fX8_mix σ p0 p2 = some r → Met X.l yX8_mix (wsM yX8_mix cX8_mix 3 (some .long)) rmX8_mix (va_Pc [.long p0, .int p2] (PW X σ)) (Ql X r σ) 0 0 X.A := by
  refine mt_of (own := RX8) (lo := [some (.long (p0)), none, some (.int (p2))]) (by decide) rfl (Nat.le_of_ble_eq_true rfl) rfl (fun K C hr => ?_)
  unfold fX8_mix
  refine g_ldc2 (pc := 0) (v := 31) C q_58_9 dX8_mix_0 ?_
  refine g_lload_n (pc := 3) (i := 0) C dX8_mix_3 rfl rfl ?_
  refine g_lmul (pc := 4) C dX8_mix_4 ?_
  refine g_iload_n (pc := 5) (i := 2) C dX8_mix_5 rfl rfl ?_
  refine g_i2l (pc := 6) C dX8_mix_6 ?_
  refine g_ladd (pc := 7) C dX8_mix_7 ?_
  exact g_lret (pc := 8) C hr dX8_mix_8 rfl
